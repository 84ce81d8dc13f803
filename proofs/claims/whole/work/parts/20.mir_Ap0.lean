/-! blocks of Ap, 0 -/
theorem l_Ap_run_0 : xlk (xm_cd m_Ap_run) 0 = some (.aload_n 0, 1, (0, 0, 0, [])) := rfl
theorem l_Ap_run_1 : xlk (xm_cd m_Ap_run) 1 = some (.iconst 0, 1, (0, 0, 0, [])) := rfl
theorem l_Ap_run_2 : xlk (xm_cd m_Ap_run) 2 = some (.putfield 31, 3, (217, 8, 4, [(0, 0)])) := rfl
theorem l_Ap_run_5 : xlk (xm_cd m_Ap_run) 5 = some (.iconst 0, 1, (0, 0, 0, [])) := rfl
theorem l_Ap_run_6 : xlk (xm_cd m_Ap_run) 6 = some (.istore 5, 2, (0, 0, 0, [])) := rfl
theorem l_Ap_run_8 : xlk (xm_cd m_Ap_run) 8 = some (.iload 5, 2, (0, 0, 0, [])) := rfl
theorem l_Ap_run_10 : xlk (xm_cd m_Ap_run) 10 = some (.aload_n 1, 1, (0, 0, 0, [])) := rfl
theorem l_Ap_run_11 : xlk (xm_cd m_Ap_run) 11 = some (.invokevirtual 35, 3, (602, 78, 0, [])) := rfl
theorem l_Ap_run_14 : xlk (xm_cd m_Ap_run) 14 = some (.if_icmp .ge 17, 3, (0, 31, 0, [])) := rfl
theorem l_Ap_run_17 : xlk (xm_cd m_Ap_run) 17 = some (.aload_n 0, 1, (0, 0, 0, [])) := rfl
theorem l_Ap_run_18 : xlk (xm_cd m_Ap_run) 18 = some (.getfield 9, 3, (213, 8, 0, [])) := rfl
theorem l_Ap_run_21 : xlk (xm_cd m_Ap_run) 21 = some (.iload 5, 2, (0, 0, 0, [])) := rfl
theorem l_Ap_run_23 : xlk (xm_cd m_Ap_run) 23 = some (.iconst 1, 1, (0, 0, 0, [])) := rfl
theorem l_Ap_run_24 : xlk (xm_cd m_Ap_run) 24 = some (.bastore, 1, (0, 0, 0, [])) := rfl
theorem l_Ap_run_25 : xlk (xm_cd m_Ap_run) 25 = some (.iinc 5 1, 3, (0, 0, 0, [])) := rfl
theorem l_Ap_run_28 : xlk (xm_cd m_Ap_run) 28 = some (.goto (-20), 3, (0, 8, 0, [])) := rfl
theorem l_Ap_run_31 : xlk (xm_cd m_Ap_run) 31 = some (.iconst 0, 1, (0, 0, 0, [])) := rfl
theorem l_Ap_run_32 : xlk (xm_cd m_Ap_run) 32 = some (.istore 5, 2, (0, 0, 0, [])) := rfl
theorem l_Ap_run_34 : xlk (xm_cd m_Ap_run) 34 = some (.iload 5, 2, (0, 0, 0, [])) := rfl
theorem l_Ap_run_36 : xlk (xm_cd m_Ap_run) 36 = some (.aload_n 1, 1, (0, 0, 0, [])) := rfl
theorem l_Ap_run_37 : xlk (xm_cd m_Ap_run) 37 = some (.invokevirtual 35, 3, (602, 78, 0, [])) := rfl
theorem l_Ap_run_40 : xlk (xm_cd m_Ap_run) 40 = some (.if_icmp .ge 59, 3, (0, 99, 0, [])) := rfl
theorem l_Ap_run_43 : xlk (xm_cd m_Ap_run) 43 = some (.aload_n 0, 1, (0, 0, 0, [])) := rfl
theorem l_Ap_run_44 : xlk (xm_cd m_Ap_run) 44 = some (.aload_n 1, 1, (0, 0, 0, [])) := rfl
theorem l_Ap_run_45 : xlk (xm_cd m_Ap_run) 45 = some (.aload_n 2, 1, (0, 0, 0, [])) := rfl
theorem l_Ap_run_46 : xlk (xm_cd m_Ap_run) 46 = some (.invokevirtual 41, 3, (603, 91, 2, [])) := rfl
theorem l_Ap_run_49 : xlk (xm_cd m_Ap_run) 49 = some (.istore 6, 2, (0, 0, 0, [])) := rfl
theorem l_Ap_run_51 : xlk (xm_cd m_Ap_run) 51 = some (.iload 6, 2, (0, 0, 0, [])) := rfl
theorem l_Ap_run_53 : xlk (xm_cd m_Ap_run) 53 = some (.iconst (-1), 1, (0, 0, 0, [])) := rfl
theorem l_Ap_run_54 : xlk (xm_cd m_Ap_run) 54 = some (.if_icmp .ne 6, 3, (0, 60, 0, [])) := rfl
theorem l_Ap_run_57 : xlk (xm_cd m_Ap_run) 57 = some (.goto 42, 3, (0, 99, 0, [])) := rfl
theorem l_Ap_run_60 : xlk (xm_cd m_Ap_run) 60 = some (.aload_n 0, 1, (0, 0, 0, [])) := rfl
theorem l_Ap_run_61 : xlk (xm_cd m_Ap_run) 61 = some (.aload_n 1, 1, (0, 0, 0, [])) := rfl
theorem l_Ap_run_62 : xlk (xm_cd m_Ap_run) 62 = some (.iload 6, 2, (0, 0, 0, [])) := rfl
theorem l_Ap_run_64 : xlk (xm_cd m_Ap_run) 64 = some (.aload_n 2, 1, (0, 0, 0, [])) := rfl
theorem l_Ap_run_65 : xlk (xm_cd m_Ap_run) 65 = some (.invokevirtual 45, 3, (606, 92, 3, [])) := rfl
theorem l_Ap_run_68 : xlk (xm_cd m_Ap_run) 68 = some (.istore 7, 2, (0, 0, 0, [])) := rfl
theorem l_Ap_run_70 : xlk (xm_cd m_Ap_run) 70 = some (.aload_n 0, 1, (0, 0, 0, [])) := rfl
theorem l_Ap_run_71 : xlk (xm_cd m_Ap_run) 71 = some (.iload 6, 2, (0, 0, 0, [])) := rfl
theorem l_Ap_run_73 : xlk (xm_cd m_Ap_run) 73 = some (.iload 7, 2, (0, 0, 0, [])) := rfl
theorem l_Ap_run_75 : xlk (xm_cd m_Ap_run) 75 = some (.invokevirtual 49, 3, (630, 96, 2, [])) := rfl
theorem l_Ap_run_78 : xlk (xm_cd m_Ap_run) 78 = some (.iload_n 3, 1, (0, 0, 0, [])) := rfl
theorem l_Ap_run_79 : xlk (xm_cd m_Ap_run) 79 = some (.ifCond .eq 6, 3, (0, 85, 0, [])) := rfl
theorem l_Ap_run_82 : xlk (xm_cd m_Ap_run) 82 = some (.iload 7, 2, (0, 0, 0, [])) := rfl
theorem l_Ap_run_84 : xlk (xm_cd m_Ap_run) 84 = some (.ireturn, 1, (0, 0, 0, [])) := rfl
theorem l_Ap_run_85 : xlk (xm_cd m_Ap_run) 85 = some (.aload_n 0, 1, (0, 0, 0, [])) := rfl
theorem l_Ap_run_86 : xlk (xm_cd m_Ap_run) 86 = some (.getfield 9, 3, (213, 8, 0, [])) := rfl
theorem l_Ap_run_89 : xlk (xm_cd m_Ap_run) 89 = some (.iload 6, 2, (0, 0, 0, [])) := rfl
theorem l_Ap_run_91 : xlk (xm_cd m_Ap_run) 91 = some (.iconst 0, 1, (0, 0, 0, [])) := rfl
theorem l_Ap_run_92 : xlk (xm_cd m_Ap_run) 92 = some (.bastore, 1, (0, 0, 0, [])) := rfl
theorem l_Ap_run_93 : xlk (xm_cd m_Ap_run) 93 = some (.iinc 5 1, 3, (0, 0, 0, [])) := rfl
theorem l_Ap_run_96 : xlk (xm_cd m_Ap_run) 96 = some (.goto (-62), 3, (0, 34, 0, [])) := rfl
theorem l_Ap_run_99 : xlk (xm_cd m_Ap_run) 99 = some (.aload_n 0, 1, (0, 0, 0, [])) := rfl
theorem l_Ap_run_100 : xlk (xm_cd m_Ap_run) 100 = some (.aload_n 1, 1, (0, 0, 0, [])) := rfl
theorem l_Ap_run_101 : xlk (xm_cd m_Ap_run) 101 = some (.aload_n 2, 1, (0, 0, 0, [])) := rfl
theorem l_Ap_run_102 : xlk (xm_cd m_Ap_run) 102 = some (.aload 4, 2, (0, 0, 0, [])) := rfl
theorem l_Ap_run_104 : xlk (xm_cd m_Ap_run) 104 = some (.invokevirtual 53, 3, (633, 97, 3, [])) := rfl
theorem l_Ap_run_107 : xlk (xm_cd m_Ap_run) 107 = some (.ifCond .eq 7, 3, (0, 114, 0, [])) := rfl
theorem l_Ap_run_110 : xlk (xm_cd m_Ap_run) 110 = some (.iconst 0, 1, (0, 0, 0, [])) := rfl
theorem l_Ap_run_111 : xlk (xm_cd m_Ap_run) 111 = some (.goto 4, 3, (0, 115, 0, [])) := rfl
theorem l_Ap_run_114 : xlk (xm_cd m_Ap_run) 114 = some (.iconst 5, 1, (0, 0, 0, [])) := rfl
theorem l_Ap_run_115 : xlk (xm_cd m_Ap_run) 115 = some (.ireturn, 1, (0, 0, 0, [])) := rfl
def B_Ap_run_0 (d : Nat) (E : Option Value → xH → Prop) (f : xH) (a0 : Nat) (a1 : Nat) (a2 : Nat) (x3 : Int32) (a4 : Nat) : Prop :=
  xpf f a0 8 4 (.int 0) (fun f1 => xWp (xT0, xSp xT0 d, none, m_Ap_run, E) 8 [some (.ref a0), some (.ref a1), some (.ref a2), some (.int x3), some (.ref a4), some (.int 0), none, none] [] f1 0 0)
theorem b_Ap_run_0 {d : Nat} {E : Option Value → xH → Prop} {f : xH} {a0 : Nat} {a1 : Nat} {a2 : Nat} {x3 : Int32} {a4 : Nat} (h : B_Ap_run_0 d E f a0 a1 a2 x3 a4) : xWp (xT0, xSp xT0 d, none, m_Ap_run, E) 0 [some (.ref a0), some (.ref a1), some (.ref a2), some (.int x3), some (.ref a4), none, none, none] [] f 0 0 := by
  unfold B_Ap_run_0 at h
  refine s_aln l_Ap_run_0 rfl ?_
  refine s_ic 0 l_Ap_run_1 rfl ?_
  refine s_pf l_Ap_run_2 ⟨_, rfl⟩ h (fun f1 h => ?_)
  refine s_ic 0 l_Ap_run_5 rfl ?_
  refine s_is l_Ap_run_6 (Nat.le_of_ble_eq_true rfl) ?_
  exact h
def B_Ap_run_8 (d : Nat) (E : Option Value → xH → Prop) (f : xH) (a0 : Nat) (a1 : Nat) (a2 : Nat) (x3 : Int32) (a4 : Nat) (x5 : Int32) (u6 : Option Value) (u7 : Option Value) : Prop :=
  (∃ fs, f a1 = some (xO 5 fs)) ∧ xSp xT0 d j_Pa_size [.ref a1] f (fun w1 f2 => xvi w1 (fun v3 => xbr (v3 ≤ x5) (xWp (xT0, xSp xT0 d, none, m_Ap_run, E) 34 [some (.ref a0), some (.ref a1), some (.ref a2), some (.int x3), some (.ref a4), some (.int 0), u6, u7] [] f2 0 0) (xgr f2 a0 8 0 (fun r4 => xas f2 r4 1 x5 1 (fun f5 => xWp (xT0, xSp xT0 d, none, m_Ap_run, E) 8 [some (.ref a0), some (.ref a1), some (.ref a2), some (.int x3), some (.ref a4), some (.int (x5 + 1)), u6, u7] [] f5 0 0)))))
theorem b_Ap_run_8 {d : Nat} {E : Option Value → xH → Prop} {f : xH} {a0 : Nat} {a1 : Nat} {a2 : Nat} {x3 : Int32} {a4 : Nat} {x5 : Int32} {u6 : Option Value} {u7 : Option Value} (h : B_Ap_run_8 d E f a0 a1 a2 x3 a4 x5 u6 u7) : xWp (xT0, xSp xT0 d, none, m_Ap_run, E) 8 [some (.ref a0), some (.ref a1), some (.ref a2), some (.int x3), some (.ref a4), some (.int x5), u6, u7] [] f 0 0 := by
  unfold B_Ap_run_8 at h
  refine s_il l_Ap_run_8 rfl ?_
  refine s_aln l_Ap_run_10 rfl ?_
  refine s_cvi (As := []) (r := [.int x5]) l_Ap_run_11 rfl ⟨rfl, rfl⟩ rfl (Nat.le_of_ble_eq_true rfl) rfl ⟨Nat.zero_le _, Nat.zero_le _⟩ h (fun v3 f2 h => ?_)
  refine s_ifc l_Ap_run_14 h (fun h => ?_) (fun h => ?_)
  · refine s_ic 0 l_Ap_run_31 rfl ?_
    refine s_is l_Ap_run_32 (Nat.le_of_ble_eq_true rfl) ?_
    exact h
  · refine s_aln l_Ap_run_17 rfl ?_
    refine s_gr l_Ap_run_18 h (fun r4 h => ?_)
    refine s_il l_Ap_run_21 rfl ?_
    refine s_ic 1 l_Ap_run_23 rfl ?_
    refine s_zast l_Ap_run_24 ⟨Or.inr rfl, h⟩ (fun f5 h => ?_)
    refine s_inc 1 l_Ap_run_25 rfl rfl ?_
    refine s_goto l_Ap_run_28 ?_
    exact h
def B_Ap_run_34 (d : Nat) (E : Option Value → xH → Prop) (f : xH) (a0 : Nat) (a1 : Nat) (a2 : Nat) (x3 : Int32) (a4 : Nat) (x5 : Int32) (u6 : Option Value) (u7 : Option Value) : Prop :=
  (∃ fs, f a1 = some (xO 5 fs)) ∧ xSp xT0 d j_Pa_size [.ref a1] f (fun w1 f2 => xvi w1 (fun v3 => xbr (v3 ≤ x5) (xWp (xT0, xSp xT0 d, none, m_Ap_run, E) 99 [some (.ref a0), some (.ref a1), some (.ref a2), some (.int x3), some (.ref a4), some (.int x5), u6, u7] [] f2 0 0) ((∃ fs, f2 a0 = some (xO 8 fs)) ∧ xSp xT0 d j_Ap_firstMisfit [.ref a0, .ref a1, .ref a2] f2 (fun w4 f5 => xvi w4 (fun v6 => xbr (¬ v6 = (-1)) ((∃ fs, f5 a0 = some (xO 8 fs)) ∧ xSp xT0 d j_Ap_ruleBroken [.ref a0, .ref a1, .int v6, .ref a2] f5 (fun w7 f8 => xvi w7 (fun v9 => (∃ fs, f8 a0 = some (xO 8 fs)) ∧ xSp xT0 d j_Ap_keepConflict [.ref a0, .int v6, .int v9] f8 (fun w10 f11 => xvv w10 (xbr (x3 = 0) (xgr f11 a0 8 0 (fun r12 => xas f11 r12 1 v6 0 (fun f13 => xWp (xT0, xSp xT0 d, none, m_Ap_run, E) 34 [some (.ref a0), some (.ref a1), some (.ref a2), some (.int x3), some (.ref a4), some (.int (x5 + 1)), some (.int v6), some (.int v9)] [] f13 0 0))) (E (some (.int v9)) f11)))))) (xWp (xT0, xSp xT0 d, none, m_Ap_run, E) 99 [some (.ref a0), some (.ref a1), some (.ref a2), some (.int x3), some (.ref a4), some (.int x5), some (.int v6), u7] [] f5 0 0))))))
theorem b_Ap_run_34 {d : Nat} {E : Option Value → xH → Prop} {f : xH} {a0 : Nat} {a1 : Nat} {a2 : Nat} {x3 : Int32} {a4 : Nat} {x5 : Int32} {u6 : Option Value} {u7 : Option Value} (h : B_Ap_run_34 d E f a0 a1 a2 x3 a4 x5 u6 u7) : xWp (xT0, xSp xT0 d, none, m_Ap_run, E) 34 [some (.ref a0), some (.ref a1), some (.ref a2), some (.int x3), some (.ref a4), some (.int x5), u6, u7] [] f 0 0 := by
  unfold B_Ap_run_34 at h
  refine s_il l_Ap_run_34 rfl ?_
  refine s_aln l_Ap_run_36 rfl ?_
  refine s_cvi (As := []) (r := [.int x5]) l_Ap_run_37 rfl ⟨rfl, rfl⟩ rfl (Nat.le_of_ble_eq_true rfl) rfl ⟨Nat.zero_le _, Nat.zero_le _⟩ h (fun v3 f2 h => ?_)
  refine s_ifc l_Ap_run_40 h (fun h => ?_) (fun h => ?_)
  · exact h
  · refine s_aln l_Ap_run_43 rfl ?_
    refine s_aln l_Ap_run_44 rfl ?_
    refine s_aln l_Ap_run_45 rfl ?_
    refine s_cvi (As := [.ref a1, .ref a2]) (r := []) l_Ap_run_46 rfl ⟨rfl, rfl⟩ rfl (Nat.le_of_ble_eq_true rfl) rfl ⟨Nat.zero_le _, Nat.zero_le _⟩ h (fun v6 f5 h => ?_)
    refine s_is l_Ap_run_49 (Nat.le_of_ble_eq_true rfl) ?_
    refine s_il l_Ap_run_51 rfl ?_
    refine s_ic (-1) l_Ap_run_53 rfl ?_
    refine s_ifc l_Ap_run_54 h (fun h => ?_) (fun h => ?_)
    · refine s_aln l_Ap_run_60 rfl ?_
      refine s_aln l_Ap_run_61 rfl ?_
      refine s_il l_Ap_run_62 rfl ?_
      refine s_aln l_Ap_run_64 rfl ?_
      refine s_cvi (As := [.ref a1, .int v6, .ref a2]) (r := []) l_Ap_run_65 rfl ⟨rfl, rfl⟩ rfl (Nat.le_of_ble_eq_true rfl) rfl ⟨Nat.zero_le _, Nat.zero_le _⟩ h (fun v9 f8 h => ?_)
      refine s_is l_Ap_run_68 (Nat.le_of_ble_eq_true rfl) ?_
      refine s_aln l_Ap_run_70 rfl ?_
      refine s_il l_Ap_run_71 rfl ?_
      refine s_il l_Ap_run_73 rfl ?_
      refine s_cvv (As := [.int v6, .int v9]) (r := []) l_Ap_run_75 rfl ⟨rfl, rfl⟩ rfl (Nat.le_of_ble_eq_true rfl) rfl ⟨Nat.zero_le _, Nat.zero_le _⟩ h (fun f11 h => ?_)
      refine s_iln l_Ap_run_78 rfl ?_
      refine s_if l_Ap_run_79 h (fun h => ?_) (fun h => ?_)
      · refine s_aln l_Ap_run_85 rfl ?_
        refine s_gr l_Ap_run_86 h (fun r12 h => ?_)
        refine s_il l_Ap_run_89 rfl ?_
        refine s_ic 0 l_Ap_run_91 rfl ?_
        refine s_zast l_Ap_run_92 ⟨Or.inl rfl, h⟩ (fun f13 h => ?_)
        refine s_inc 1 l_Ap_run_93 rfl rfl ?_
        refine s_goto l_Ap_run_96 ?_
        exact h
      · refine s_il l_Ap_run_82 rfl ?_
        exact s_iret l_Ap_run_84 rfl ⟨Nat.zero_le _, Nat.zero_le _⟩ h
    · refine s_goto l_Ap_run_57 ?_
      exact h
def B_Ap_run_99 (d : Nat) (E : Option Value → xH → Prop) (f : xH) (a0 : Nat) (a1 : Nat) (a2 : Nat) (x3 : Int32) (a4 : Nat) (x5 : Int32) (u6 : Option Value) (u7 : Option Value) : Prop :=
  (∃ fs, f a0 = some (xO 8 fs)) ∧ xSp xT0 d j_Ap_build [.ref a0, .ref a1, .ref a2, .ref a4] f (fun w1 f2 => xvi w1 (fun v3 => xbr (v3 = 0) (E (some (.int 5)) f2) (E (some (.int 0)) f2)))
theorem b_Ap_run_99 {d : Nat} {E : Option Value → xH → Prop} {f : xH} {a0 : Nat} {a1 : Nat} {a2 : Nat} {x3 : Int32} {a4 : Nat} {x5 : Int32} {u6 : Option Value} {u7 : Option Value} (h : B_Ap_run_99 d E f a0 a1 a2 x3 a4 x5 u6 u7) : xWp (xT0, xSp xT0 d, none, m_Ap_run, E) 99 [some (.ref a0), some (.ref a1), some (.ref a2), some (.int x3), some (.ref a4), some (.int x5), u6, u7] [] f 0 0 := by
  unfold B_Ap_run_99 at h
  refine s_aln l_Ap_run_99 rfl ?_
  refine s_aln l_Ap_run_100 rfl ?_
  refine s_aln l_Ap_run_101 rfl ?_
  refine s_al l_Ap_run_102 rfl ?_
  refine s_cvi (As := [.ref a1, .ref a2, .ref a4]) (r := []) l_Ap_run_104 rfl ⟨rfl, rfl⟩ rfl (Nat.le_of_ble_eq_true rfl) rfl ⟨Nat.zero_le _, Nat.zero_le _⟩ h (fun v3 f2 h => ?_)
  refine s_if l_Ap_run_107 h (fun h => ?_) (fun h => ?_)
  · refine s_ic 5 l_Ap_run_114 rfl ?_
    exact s_iret l_Ap_run_115 rfl ⟨Nat.zero_le _, Nat.zero_le _⟩ h
  · refine s_ic 0 l_Ap_run_110 rfl ?_
    refine s_goto l_Ap_run_111 ?_
    exact s_iret l_Ap_run_115 rfl ⟨Nat.zero_le _, Nat.zero_le _⟩ h
theorem l_Ap_firstMisfit_0 : xlk (xm_cd m_Ap_firstMisfit) 0 = some (.iconst 0, 1, (0, 0, 0, [])) := rfl
theorem l_Ap_firstMisfit_1 : xlk (xm_cd m_Ap_firstMisfit) 1 = some (.istore_n 3, 1, (0, 0, 0, [])) := rfl
theorem l_Ap_firstMisfit_2 : xlk (xm_cd m_Ap_firstMisfit) 2 = some (.iload_n 3, 1, (0, 0, 0, [])) := rfl
theorem l_Ap_firstMisfit_3 : xlk (xm_cd m_Ap_firstMisfit) 3 = some (.aload_n 1, 1, (0, 0, 0, [])) := rfl
theorem l_Ap_firstMisfit_4 : xlk (xm_cd m_Ap_firstMisfit) 4 = some (.invokevirtual 35, 3, (602, 78, 0, [])) := rfl
theorem l_Ap_firstMisfit_7 : xlk (xm_cd m_Ap_firstMisfit) 7 = some (.if_icmp .ge 30, 3, (0, 37, 0, [])) := rfl
theorem l_Ap_firstMisfit_10 : xlk (xm_cd m_Ap_firstMisfit) 10 = some (.aload_n 0, 1, (0, 0, 0, [])) := rfl
theorem l_Ap_firstMisfit_11 : xlk (xm_cd m_Ap_firstMisfit) 11 = some (.getfield 9, 3, (213, 8, 0, [])) := rfl
theorem l_Ap_firstMisfit_14 : xlk (xm_cd m_Ap_firstMisfit) 14 = some (.iload_n 3, 1, (0, 0, 0, [])) := rfl
theorem l_Ap_firstMisfit_15 : xlk (xm_cd m_Ap_firstMisfit) 15 = some (.baload, 1, (0, 0, 0, [])) := rfl
theorem l_Ap_firstMisfit_16 : xlk (xm_cd m_Ap_firstMisfit) 16 = some (.ifCond .eq 15, 3, (0, 31, 0, [])) := rfl
theorem l_Ap_firstMisfit_19 : xlk (xm_cd m_Ap_firstMisfit) 19 = some (.aload_n 0, 1, (0, 0, 0, [])) := rfl
theorem l_Ap_firstMisfit_20 : xlk (xm_cd m_Ap_firstMisfit) 20 = some (.aload_n 1, 1, (0, 0, 0, [])) := rfl
theorem l_Ap_firstMisfit_21 : xlk (xm_cd m_Ap_firstMisfit) 21 = some (.iload_n 3, 1, (0, 0, 0, [])) := rfl
theorem l_Ap_firstMisfit_22 : xlk (xm_cd m_Ap_firstMisfit) 22 = some (.aload_n 2, 1, (0, 0, 0, [])) := rfl
theorem l_Ap_firstMisfit_23 : xlk (xm_cd m_Ap_firstMisfit) 23 = some (.invokevirtual 45, 3, (606, 92, 3, [])) := rfl
theorem l_Ap_firstMisfit_26 : xlk (xm_cd m_Ap_firstMisfit) 26 = some (.ifCond .eq 5, 3, (0, 31, 0, [])) := rfl
theorem l_Ap_firstMisfit_29 : xlk (xm_cd m_Ap_firstMisfit) 29 = some (.iload_n 3, 1, (0, 0, 0, [])) := rfl
theorem l_Ap_firstMisfit_30 : xlk (xm_cd m_Ap_firstMisfit) 30 = some (.ireturn, 1, (0, 0, 0, [])) := rfl
theorem l_Ap_firstMisfit_31 : xlk (xm_cd m_Ap_firstMisfit) 31 = some (.iinc 3 1, 3, (0, 0, 0, [])) := rfl
theorem l_Ap_firstMisfit_34 : xlk (xm_cd m_Ap_firstMisfit) 34 = some (.goto (-32), 3, (0, 2, 0, [])) := rfl
theorem l_Ap_firstMisfit_37 : xlk (xm_cd m_Ap_firstMisfit) 37 = some (.iconst (-1), 1, (0, 0, 0, [])) := rfl
theorem l_Ap_firstMisfit_38 : xlk (xm_cd m_Ap_firstMisfit) 38 = some (.ireturn, 1, (0, 0, 0, [])) := rfl
def B_Ap_firstMisfit_0 (d : Nat) (E : Option Value → xH → Prop) (f : xH) (a0 : Nat) (a1 : Nat) (a2 : Nat) : Prop :=
  xWp (xT0, xSp xT0 d, none, m_Ap_firstMisfit, E) 2 [some (.ref a0), some (.ref a1), some (.ref a2), some (.int 0)] [] f 0 0
theorem b_Ap_firstMisfit_0 {d : Nat} {E : Option Value → xH → Prop} {f : xH} {a0 : Nat} {a1 : Nat} {a2 : Nat} (h : B_Ap_firstMisfit_0 d E f a0 a1 a2) : xWp (xT0, xSp xT0 d, none, m_Ap_firstMisfit, E) 0 [some (.ref a0), some (.ref a1), some (.ref a2), none] [] f 0 0 := by
  unfold B_Ap_firstMisfit_0 at h
  refine s_ic 0 l_Ap_firstMisfit_0 rfl ?_
  refine s_isn l_Ap_firstMisfit_1 (Nat.le_of_ble_eq_true rfl) ?_
  exact h
def B_Ap_firstMisfit_2 (d : Nat) (E : Option Value → xH → Prop) (f : xH) (a0 : Nat) (a1 : Nat) (a2 : Nat) (x3 : Int32) : Prop :=
  (∃ fs, f a1 = some (xO 5 fs)) ∧ xSp xT0 d j_Pa_size [.ref a1] f (fun w1 f2 => xvi w1 (fun v3 => xbr (v3 ≤ x3) (E (some (.int (-1))) f2) (xgr f2 a0 8 0 (fun r4 => xal f2 r4 1 x3 (fun v5 => xbr (v5 = 0) (xWp (xT0, xSp xT0 d, none, m_Ap_firstMisfit, E) 2 [some (.ref a0), some (.ref a1), some (.ref a2), some (.int (x3 + 1))] [] f2 0 0) ((∃ fs, f2 a0 = some (xO 8 fs)) ∧ xSp xT0 d j_Ap_ruleBroken [.ref a0, .ref a1, .int x3, .ref a2] f2 (fun w6 f7 => xvi w6 (fun v8 => xbr (v8 = 0) (xWp (xT0, xSp xT0 d, none, m_Ap_firstMisfit, E) 2 [some (.ref a0), some (.ref a1), some (.ref a2), some (.int (x3 + 1))] [] f7 0 0) (E (some (.int x3)) f7)))))))))
theorem b_Ap_firstMisfit_2 {d : Nat} {E : Option Value → xH → Prop} {f : xH} {a0 : Nat} {a1 : Nat} {a2 : Nat} {x3 : Int32} (h : B_Ap_firstMisfit_2 d E f a0 a1 a2 x3) : xWp (xT0, xSp xT0 d, none, m_Ap_firstMisfit, E) 2 [some (.ref a0), some (.ref a1), some (.ref a2), some (.int x3)] [] f 0 0 := by
  unfold B_Ap_firstMisfit_2 at h
  refine s_iln l_Ap_firstMisfit_2 rfl ?_
  refine s_aln l_Ap_firstMisfit_3 rfl ?_
  refine s_cvi (As := []) (r := [.int x3]) l_Ap_firstMisfit_4 rfl ⟨rfl, rfl⟩ rfl (Nat.le_of_ble_eq_true rfl) rfl ⟨Nat.zero_le _, Nat.zero_le _⟩ h (fun v3 f2 h => ?_)
  refine s_ifc l_Ap_firstMisfit_7 h (fun h => ?_) (fun h => ?_)
  · refine s_ic (-1) l_Ap_firstMisfit_37 rfl ?_
    exact s_iret l_Ap_firstMisfit_38 rfl ⟨Nat.zero_le _, Nat.zero_le _⟩ h
  · refine s_aln l_Ap_firstMisfit_10 rfl ?_
    refine s_gr l_Ap_firstMisfit_11 h (fun r4 h => ?_)
    refine s_iln l_Ap_firstMisfit_14 rfl ?_
    refine s_bal l_Ap_firstMisfit_15 (Or.inl rfl) h (fun v5 h => ?_)
    refine s_if l_Ap_firstMisfit_16 h (fun h => ?_) (fun h => ?_)
    · refine s_inc 1 l_Ap_firstMisfit_31 rfl rfl ?_
      refine s_goto l_Ap_firstMisfit_34 ?_
      exact h
    · refine s_aln l_Ap_firstMisfit_19 rfl ?_
      refine s_aln l_Ap_firstMisfit_20 rfl ?_
      refine s_iln l_Ap_firstMisfit_21 rfl ?_
      refine s_aln l_Ap_firstMisfit_22 rfl ?_
      refine s_cvi (As := [.ref a1, .int x3, .ref a2]) (r := []) l_Ap_firstMisfit_23 rfl ⟨rfl, rfl⟩ rfl (Nat.le_of_ble_eq_true rfl) rfl ⟨Nat.zero_le _, Nat.zero_le _⟩ h (fun v8 f7 h => ?_)
      refine s_if l_Ap_firstMisfit_26 h (fun h => ?_) (fun h => ?_)
      · refine s_inc 1 l_Ap_firstMisfit_31 rfl rfl ?_
        refine s_goto l_Ap_firstMisfit_34 ?_
        exact h
      · refine s_iln l_Ap_firstMisfit_29 rfl ?_
        exact s_iret l_Ap_firstMisfit_30 rfl ⟨Nat.zero_le _, Nat.zero_le _⟩ h
theorem l_Ap_ruleBroken_0 : xlk (xm_cd m_Ap_ruleBroken) 0 = some (.aload_n 1, 1, (0, 0, 0, [])) := rfl
theorem l_Ap_ruleBroken_1 : xlk (xm_cd m_Ap_ruleBroken) 1 = some (.iload_n 2, 1, (0, 0, 0, [])) := rfl
theorem l_Ap_ruleBroken_2 : xlk (xm_cd m_Ap_ruleBroken) 2 = some (.invokevirtual 57, 3, (609, 80, 1, [])) := rfl
theorem l_Ap_ruleBroken_5 : xlk (xm_cd m_Ap_ruleBroken) 5 = some (.astore 4, 2, (0, 0, 0, [])) := rfl
theorem l_Ap_ruleBroken_7 : xlk (xm_cd m_Ap_ruleBroken) 7 = some (.aload_n 3, 1, (0, 0, 0, [])) := rfl
theorem l_Ap_ruleBroken_8 : xlk (xm_cd m_Ap_ruleBroken) 8 = some (.aload 4, 2, (0, 0, 0, [])) := rfl
theorem l_Ap_ruleBroken_10 : xlk (xm_cd m_Ap_ruleBroken) 10 = some (.getfield 61, 3, (0, 4, 1, [])) := rfl
theorem l_Ap_ruleBroken_13 : xlk (xm_cd m_Ap_ruleBroken) 13 = some (.invokevirtual 66, 3, (610, 28, 1, [])) := rfl
theorem l_Ap_ruleBroken_16 : xlk (xm_cd m_Ap_ruleBroken) 16 = some (.istore 5, 2, (0, 0, 0, [])) := rfl
theorem l_Ap_ruleBroken_18 : xlk (xm_cd m_Ap_ruleBroken) 18 = some (.aload 4, 2, (0, 0, 0, [])) := rfl
theorem l_Ap_ruleBroken_20 : xlk (xm_cd m_Ap_ruleBroken) 20 = some (.invokevirtual 72, 3, (611, 53, 0, [])) := rfl
theorem l_Ap_ruleBroken_23 : xlk (xm_cd m_Ap_ruleBroken) 23 = some (.ifCond .eq 27, 3, (0, 50, 0, [])) := rfl
theorem l_Ap_ruleBroken_26 : xlk (xm_cd m_Ap_ruleBroken) 26 = some (.iload 5, 2, (0, 0, 0, [])) := rfl
theorem l_Ap_ruleBroken_28 : xlk (xm_cd m_Ap_ruleBroken) 28 = some (.iconst (-1), 1, (0, 0, 0, [])) := rfl
theorem l_Ap_ruleBroken_29 : xlk (xm_cd m_Ap_ruleBroken) 29 = some (.if_icmp .ne 5, 3, (0, 34, 0, [])) := rfl
theorem l_Ap_ruleBroken_32 : xlk (xm_cd m_Ap_ruleBroken) 32 = some (.iconst 1, 1, (0, 0, 0, [])) := rfl
theorem l_Ap_ruleBroken_33 : xlk (xm_cd m_Ap_ruleBroken) 33 = some (.ireturn, 1, (0, 0, 0, [])) := rfl
theorem l_Ap_ruleBroken_34 : xlk (xm_cd m_Ap_ruleBroken) 34 = some (.aload 4, 2, (0, 0, 0, [])) := rfl
theorem l_Ap_ruleBroken_36 : xlk (xm_cd m_Ap_ruleBroken) 36 = some (.aload_n 3, 1, (0, 0, 0, [])) := rfl
theorem l_Ap_ruleBroken_37 : xlk (xm_cd m_Ap_ruleBroken) 37 = some (.iload 5, 2, (0, 0, 0, [])) := rfl
theorem l_Ap_ruleBroken_39 : xlk (xm_cd m_Ap_ruleBroken) 39 = some (.invokevirtual 76, 3, (612, 40, 1, [])) := rfl
theorem l_Ap_ruleBroken_42 : xlk (xm_cd m_Ap_ruleBroken) 42 = some (.invokevirtual 80, 3, (613, 93, 1, [])) := rfl
theorem l_Ap_ruleBroken_45 : xlk (xm_cd m_Ap_ruleBroken) 45 = some (.ifCond .ne 5, 3, (0, 50, 0, [])) := rfl
theorem l_Ap_ruleBroken_48 : xlk (xm_cd m_Ap_ruleBroken) 48 = some (.iconst 2, 1, (0, 0, 0, [])) := rfl
theorem l_Ap_ruleBroken_49 : xlk (xm_cd m_Ap_ruleBroken) 49 = some (.ireturn, 1, (0, 0, 0, [])) := rfl
theorem l_Ap_ruleBroken_50 : xlk (xm_cd m_Ap_ruleBroken) 50 = some (.aload 4, 2, (0, 0, 0, [])) := rfl
theorem l_Ap_ruleBroken_52 : xlk (xm_cd m_Ap_ruleBroken) 52 = some (.invokevirtual 84, 3, (617, 55, 0, [])) := rfl
theorem l_Ap_ruleBroken_55 : xlk (xm_cd m_Ap_ruleBroken) 55 = some (.ifCond .eq 66, 3, (0, 121, 0, [])) := rfl
theorem l_Ap_ruleBroken_58 : xlk (xm_cd m_Ap_ruleBroken) 58 = some (.aload 4, 2, (0, 0, 0, [])) := rfl
theorem l_Ap_ruleBroken_60 : xlk (xm_cd m_Ap_ruleBroken) 60 = some (.getfield 87, 3, (0, 4, 2, [])) := rfl
theorem l_Ap_ruleBroken_63 : xlk (xm_cd m_Ap_ruleBroken) 63 = some (.aload_n 3, 1, (0, 0, 0, [])) := rfl
theorem l_Ap_ruleBroken_64 : xlk (xm_cd m_Ap_ruleBroken) 64 = some (.iload 5, 2, (0, 0, 0, [])) := rfl
theorem l_Ap_ruleBroken_66 : xlk (xm_cd m_Ap_ruleBroken) 66 = some (.invokevirtual 76, 3, (612, 40, 1, [])) := rfl
theorem l_Ap_ruleBroken_69 : xlk (xm_cd m_Ap_ruleBroken) 69 = some (.aload_n 0, 1, (0, 0, 0, [])) := rfl
theorem l_Ap_ruleBroken_70 : xlk (xm_cd m_Ap_ruleBroken) 70 = some (.getfield 27, 3, (216, 8, 3, [])) := rfl
theorem l_Ap_ruleBroken_73 : xlk (xm_cd m_Ap_ruleBroken) 73 = some (.invokevirtual 91, 3, (618, 94, 2, [])) := rfl
theorem l_Ap_ruleBroken_76 : xlk (xm_cd m_Ap_ruleBroken) 76 = some (.aload_n 0, 1, (0, 0, 0, [])) := rfl
theorem l_Ap_ruleBroken_77 : xlk (xm_cd m_Ap_ruleBroken) 77 = some (.getfield 27, 3, (216, 8, 3, [])) := rfl
theorem l_Ap_ruleBroken_80 : xlk (xm_cd m_Ap_ruleBroken) 80 = some (.invokevirtual 97, 3, (625, 41, 0, [])) := rfl
theorem l_Ap_ruleBroken_83 : xlk (xm_cd m_Ap_ruleBroken) 83 = some (.aload 4, 2, (0, 0, 0, [])) := rfl
theorem l_Ap_ruleBroken_85 : xlk (xm_cd m_Ap_ruleBroken) 85 = some (.getfield 100, 3, (0, 4, 8, [])) := rfl
theorem l_Ap_ruleBroken_88 : xlk (xm_cd m_Ap_ruleBroken) 88 = some (.if_icmp .eq 5, 3, (0, 93, 0, [])) := rfl
theorem l_Ap_ruleBroken_91 : xlk (xm_cd m_Ap_ruleBroken) 91 = some (.iconst 4, 1, (0, 0, 0, [])) := rfl
theorem l_Ap_ruleBroken_92 : xlk (xm_cd m_Ap_ruleBroken) 92 = some (.ireturn, 1, (0, 0, 0, [])) := rfl
theorem l_Ap_ruleBroken_93 : xlk (xm_cd m_Ap_ruleBroken) 93 = some (.aload_n 3, 1, (0, 0, 0, [])) := rfl
theorem l_Ap_ruleBroken_94 : xlk (xm_cd m_Ap_ruleBroken) 94 = some (.aload 4, 2, (0, 0, 0, [])) := rfl
theorem l_Ap_ruleBroken_96 : xlk (xm_cd m_Ap_ruleBroken) 96 = some (.getfield 103, 3, (0, 4, 0, [])) := rfl
theorem l_Ap_ruleBroken_99 : xlk (xm_cd m_Ap_ruleBroken) 99 = some (.invokevirtual 66, 3, (610, 28, 1, [])) := rfl
theorem l_Ap_ruleBroken_102 : xlk (xm_cd m_Ap_ruleBroken) 102 = some (.iconst (-1), 1, (0, 0, 0, [])) := rfl
theorem l_Ap_ruleBroken_103 : xlk (xm_cd m_Ap_ruleBroken) 103 = some (.if_icmp .eq 18, 3, (0, 121, 0, [])) := rfl
theorem l_Ap_ruleBroken_106 : xlk (xm_cd m_Ap_ruleBroken) 106 = some (.aload_n 0, 1, (0, 0, 0, [])) := rfl
theorem l_Ap_ruleBroken_107 : xlk (xm_cd m_Ap_ruleBroken) 107 = some (.aload 4, 2, (0, 0, 0, [])) := rfl
theorem l_Ap_ruleBroken_109 : xlk (xm_cd m_Ap_ruleBroken) 109 = some (.getfield 103, 3, (0, 4, 0, [])) := rfl
theorem l_Ap_ruleBroken_112 : xlk (xm_cd m_Ap_ruleBroken) 112 = some (.aload_n 1, 1, (0, 0, 0, [])) := rfl
theorem l_Ap_ruleBroken_113 : xlk (xm_cd m_Ap_ruleBroken) 113 = some (.invokevirtual 106, 3, (626, 95, 2, [])) := rfl
theorem l_Ap_ruleBroken_116 : xlk (xm_cd m_Ap_ruleBroken) 116 = some (.ifCond .ne 5, 3, (0, 121, 0, [])) := rfl
theorem l_Ap_ruleBroken_119 : xlk (xm_cd m_Ap_ruleBroken) 119 = some (.iconst 3, 1, (0, 0, 0, [])) := rfl
theorem l_Ap_ruleBroken_120 : xlk (xm_cd m_Ap_ruleBroken) 120 = some (.ireturn, 1, (0, 0, 0, [])) := rfl
theorem l_Ap_ruleBroken_121 : xlk (xm_cd m_Ap_ruleBroken) 121 = some (.iconst 0, 1, (0, 0, 0, [])) := rfl
theorem l_Ap_ruleBroken_122 : xlk (xm_cd m_Ap_ruleBroken) 122 = some (.ireturn, 1, (0, 0, 0, [])) := rfl
def B_Ap_ruleBroken_0 (d : Nat) (E : Option Value → xH → Prop) (f : xH) (a0 : Nat) (a1 : Nat) (x2 : Int32) (a3 : Nat) : Prop :=
  (∃ fs, f a1 = some (xO 5 fs)) ∧ xSp xT0 d j_Pa_at [.ref a1, .int x2] f (fun w1 f2 => xvr w1 (fun r3 => xgr f2 r3 4 1 (fun r4 => (∃ fs, f2 a3 = some (xO 2 fs)) ∧ xSp xT0 d j_Tr_find [.ref a3, .ref r4] f2 (fun w5 f6 => xvi w5 (fun v7 => (∃ fs, f6 r3 = some (xO 4 fs)) ∧ xSp xT0 d j_St_hasSource [.ref r3] f6 (fun w8 f9 => xvi w8 (fun v10 => xbr (v10 = 0) (xWp (xT0, xSp xT0 d, none, m_Ap_ruleBroken, E) 50 [some (.ref a0), some (.ref a1), some (.int x2), some (.ref a3), some (.ref r3), some (.int v7)] [] f9 0 0) (xbr (¬ v7 = (-1)) ((∃ fs, f9 a3 = some (xO 2 fs)) ∧ xSp xT0 d j_Tr_contentAt [.ref a3, .int v7] f9 (fun w11 f12 => xvr w11 (fun r13 => (∃ fs, f12 r3 = some (xO 4 fs)) ∧ xSp xT0 d j_St_isSource [.ref r3, .ref r13] f12 (fun w14 f15 => xvi w14 (fun v16 => xbr (¬ v16 = 0) (xWp (xT0, xSp xT0 d, none, m_Ap_ruleBroken, E) 50 [some (.ref a0), some (.ref a1), some (.int x2), some (.ref a3), some (.ref r3), some (.int v7)] [] f15 0 0) (E (some (.int 2)) f15)))))) (E (some (.int 1)) f9)))))))))
theorem b_Ap_ruleBroken_0 {d : Nat} {E : Option Value → xH → Prop} {f : xH} {a0 : Nat} {a1 : Nat} {x2 : Int32} {a3 : Nat} (h : B_Ap_ruleBroken_0 d E f a0 a1 x2 a3) : xWp (xT0, xSp xT0 d, none, m_Ap_ruleBroken, E) 0 [some (.ref a0), some (.ref a1), some (.int x2), some (.ref a3), none, none] [] f 0 0 := by
  unfold B_Ap_ruleBroken_0 at h
  refine s_aln l_Ap_ruleBroken_0 rfl ?_
  refine s_iln l_Ap_ruleBroken_1 rfl ?_
  refine s_cvr (As := [.int x2]) (r := []) l_Ap_ruleBroken_2 rfl ⟨rfl, rfl⟩ rfl (Nat.le_of_ble_eq_true rfl) rfl ⟨Nat.zero_le _, Nat.zero_le _⟩ h (fun r3 f2 h => ?_)
  refine s_as l_Ap_ruleBroken_5 (Nat.le_of_ble_eq_true rfl) ?_
  refine s_aln l_Ap_ruleBroken_7 rfl ?_
  refine s_al l_Ap_ruleBroken_8 rfl ?_
  refine s_gr l_Ap_ruleBroken_10 h (fun r4 h => ?_)
  refine s_cvi (As := [.ref r4]) (r := []) l_Ap_ruleBroken_13 rfl ⟨rfl, rfl⟩ rfl (Nat.le_of_ble_eq_true rfl) rfl ⟨Nat.zero_le _, Nat.zero_le _⟩ h (fun v7 f6 h => ?_)
  refine s_is l_Ap_ruleBroken_16 (Nat.le_of_ble_eq_true rfl) ?_
  refine s_al l_Ap_ruleBroken_18 rfl ?_
  refine s_cvi (As := []) (r := []) l_Ap_ruleBroken_20 rfl ⟨rfl, rfl⟩ rfl (Nat.le_of_ble_eq_true rfl) rfl ⟨Nat.zero_le _, Nat.zero_le _⟩ h (fun v10 f9 h => ?_)
  refine s_if l_Ap_ruleBroken_23 h (fun h => ?_) (fun h => ?_)
  · exact h
  · refine s_il l_Ap_ruleBroken_26 rfl ?_
    refine s_ic (-1) l_Ap_ruleBroken_28 rfl ?_
    refine s_ifc l_Ap_ruleBroken_29 h (fun h => ?_) (fun h => ?_)
    · refine s_al l_Ap_ruleBroken_34 rfl ?_
      refine s_aln l_Ap_ruleBroken_36 rfl ?_
      refine s_il l_Ap_ruleBroken_37 rfl ?_
      refine s_cvr (As := [.int v7]) (r := [.ref r3]) l_Ap_ruleBroken_39 rfl ⟨rfl, rfl⟩ rfl (Nat.le_of_ble_eq_true rfl) rfl ⟨Nat.zero_le _, Nat.zero_le _⟩ h (fun r13 f12 h => ?_)
      refine s_cvi (As := [.ref r13]) (r := []) l_Ap_ruleBroken_42 rfl ⟨rfl, rfl⟩ rfl (Nat.le_of_ble_eq_true rfl) rfl ⟨Nat.zero_le _, Nat.zero_le _⟩ h (fun v16 f15 h => ?_)
      refine s_if l_Ap_ruleBroken_45 h (fun h => ?_) (fun h => ?_)
      · exact h
      · refine s_ic 2 l_Ap_ruleBroken_48 rfl ?_
        exact s_iret l_Ap_ruleBroken_49 rfl ⟨Nat.zero_le _, Nat.zero_le _⟩ h
    · refine s_ic 1 l_Ap_ruleBroken_32 rfl ?_
      exact s_iret l_Ap_ruleBroken_33 rfl ⟨Nat.zero_le _, Nat.zero_le _⟩ h
def B_Ap_ruleBroken_50 (d : Nat) (E : Option Value → xH → Prop) (f : xH) (a0 : Nat) (a1 : Nat) (x2 : Int32) (a3 : Nat) (a4 : Nat) (x5 : Int32) : Prop :=
  (∃ fs, f a4 = some (xO 4 fs)) ∧ xSp xT0 d j_St_hasTarget [.ref a4] f (fun w1 f2 => xvi w1 (fun v3 => xbr (v3 = 0) (E (some (.int 0)) f2) (xgr f2 a4 4 2 (fun r4 => (∃ fs, f2 a3 = some (xO 2 fs)) ∧ xSp xT0 d j_Tr_contentAt [.ref a3, .int x5] f2 (fun w5 f6 => xvr w5 (fun r7 => xgr f6 a0 8 3 (fun r8 => (∃ fs, f6 r4 = some (xO 3 fs)) ∧ xSp xT0 d j_De_make [.ref r4, .ref r7, .ref r8] f6 (fun w9 f10 => xvv w9 (xgr f10 a0 8 3 (fun r11 => (∃ fs, f10 r11 = some (xO 1 fs)) ∧ xSp xT0 d j_By_sum [.ref r11] f10 (fun w12 f13 => xvi w12 (fun v14 => xgi f13 a4 4 8 (fun v15 => xbr (v14 = v15) (xgr f13 a4 4 0 (fun r16 => (∃ fs, f13 a3 = some (xO 2 fs)) ∧ xSp xT0 d j_Tr_find [.ref a3, .ref r16] f13 (fun w17 f18 => xvi w17 (fun v19 => xbr (v19 = (-1)) (E (some (.int 0)) f18) (xgr f18 a4 4 0 (fun r20 => (∃ fs, f18 a0 = some (xO 8 fs)) ∧ xSp xT0 d j_Ap_isTakenAway [.ref a0, .ref r20, .ref a1] f18 (fun w21 f22 => xvi w21 (fun v23 => xbr (¬ v23 = 0) (E (some (.int 0)) f22) (E (some (.int 3)) f22))))))))) (E (some (.int 4)) f13))))))))))))))
theorem b_Ap_ruleBroken_50 {d : Nat} {E : Option Value → xH → Prop} {f : xH} {a0 : Nat} {a1 : Nat} {x2 : Int32} {a3 : Nat} {a4 : Nat} {x5 : Int32} (h : B_Ap_ruleBroken_50 d E f a0 a1 x2 a3 a4 x5) : xWp (xT0, xSp xT0 d, none, m_Ap_ruleBroken, E) 50 [some (.ref a0), some (.ref a1), some (.int x2), some (.ref a3), some (.ref a4), some (.int x5)] [] f 0 0 := by
  unfold B_Ap_ruleBroken_50 at h
  refine s_al l_Ap_ruleBroken_50 rfl ?_
  refine s_cvi (As := []) (r := []) l_Ap_ruleBroken_52 rfl ⟨rfl, rfl⟩ rfl (Nat.le_of_ble_eq_true rfl) rfl ⟨Nat.zero_le _, Nat.zero_le _⟩ h (fun v3 f2 h => ?_)
  refine s_if l_Ap_ruleBroken_55 h (fun h => ?_) (fun h => ?_)
  · refine s_ic 0 l_Ap_ruleBroken_121 rfl ?_
    exact s_iret l_Ap_ruleBroken_122 rfl ⟨Nat.zero_le _, Nat.zero_le _⟩ h
  · refine s_al l_Ap_ruleBroken_58 rfl ?_
    refine s_gr l_Ap_ruleBroken_60 h (fun r4 h => ?_)
    refine s_aln l_Ap_ruleBroken_63 rfl ?_
    refine s_il l_Ap_ruleBroken_64 rfl ?_
    refine s_cvr (As := [.int x5]) (r := [.ref r4]) l_Ap_ruleBroken_66 rfl ⟨rfl, rfl⟩ rfl (Nat.le_of_ble_eq_true rfl) rfl ⟨Nat.zero_le _, Nat.zero_le _⟩ h (fun r7 f6 h => ?_)
    refine s_aln l_Ap_ruleBroken_69 rfl ?_
    refine s_gr l_Ap_ruleBroken_70 h (fun r8 h => ?_)
    refine s_cvv (As := [.ref r7, .ref r8]) (r := []) l_Ap_ruleBroken_73 rfl ⟨rfl, rfl⟩ rfl (Nat.le_of_ble_eq_true rfl) rfl ⟨Nat.zero_le _, Nat.zero_le _⟩ h (fun f10 h => ?_)
    refine s_aln l_Ap_ruleBroken_76 rfl ?_
    refine s_gr l_Ap_ruleBroken_77 h (fun r11 h => ?_)
    refine s_cvi (As := []) (r := []) l_Ap_ruleBroken_80 rfl ⟨rfl, rfl⟩ rfl (Nat.le_of_ble_eq_true rfl) rfl ⟨Nat.zero_le _, Nat.zero_le _⟩ h (fun v14 f13 h => ?_)
    refine s_al l_Ap_ruleBroken_83 rfl ?_
    refine s_gi l_Ap_ruleBroken_85 h (fun v15 h => ?_)
    refine s_ifc l_Ap_ruleBroken_88 h (fun h => ?_) (fun h => ?_)
    · refine s_aln l_Ap_ruleBroken_93 rfl ?_
      refine s_al l_Ap_ruleBroken_94 rfl ?_
      refine s_gr l_Ap_ruleBroken_96 h (fun r16 h => ?_)
      refine s_cvi (As := [.ref r16]) (r := []) l_Ap_ruleBroken_99 rfl ⟨rfl, rfl⟩ rfl (Nat.le_of_ble_eq_true rfl) rfl ⟨Nat.zero_le _, Nat.zero_le _⟩ h (fun v19 f18 h => ?_)
      refine s_ic (-1) l_Ap_ruleBroken_102 rfl ?_
      refine s_ifc l_Ap_ruleBroken_103 h (fun h => ?_) (fun h => ?_)
      · refine s_ic 0 l_Ap_ruleBroken_121 rfl ?_
        exact s_iret l_Ap_ruleBroken_122 rfl ⟨Nat.zero_le _, Nat.zero_le _⟩ h
      · refine s_aln l_Ap_ruleBroken_106 rfl ?_
        refine s_al l_Ap_ruleBroken_107 rfl ?_
        refine s_gr l_Ap_ruleBroken_109 h (fun r20 h => ?_)
        refine s_aln l_Ap_ruleBroken_112 rfl ?_
        refine s_cvi (As := [.ref r20, .ref a1]) (r := []) l_Ap_ruleBroken_113 rfl ⟨rfl, rfl⟩ rfl (Nat.le_of_ble_eq_true rfl) rfl ⟨Nat.zero_le _, Nat.zero_le _⟩ h (fun v23 f22 h => ?_)
        refine s_if l_Ap_ruleBroken_116 h (fun h => ?_) (fun h => ?_)
        · refine s_ic 0 l_Ap_ruleBroken_121 rfl ?_
          exact s_iret l_Ap_ruleBroken_122 rfl ⟨Nat.zero_le _, Nat.zero_le _⟩ h
        · refine s_ic 3 l_Ap_ruleBroken_119 rfl ?_
          exact s_iret l_Ap_ruleBroken_120 rfl ⟨Nat.zero_le _, Nat.zero_le _⟩ h
    · refine s_ic 4 l_Ap_ruleBroken_91 rfl ?_
      exact s_iret l_Ap_ruleBroken_92 rfl ⟨Nat.zero_le _, Nat.zero_le _⟩ h
theorem l_Ap_isTakenAway_0 : xlk (xm_cd m_Ap_isTakenAway) 0 = some (.iconst 0, 1, (0, 0, 0, [])) := rfl
theorem l_Ap_isTakenAway_1 : xlk (xm_cd m_Ap_isTakenAway) 1 = some (.istore_n 3, 1, (0, 0, 0, [])) := rfl
theorem l_Ap_isTakenAway_2 : xlk (xm_cd m_Ap_isTakenAway) 2 = some (.iload_n 3, 1, (0, 0, 0, [])) := rfl
theorem l_Ap_isTakenAway_3 : xlk (xm_cd m_Ap_isTakenAway) 3 = some (.aload_n 2, 1, (0, 0, 0, [])) := rfl
theorem l_Ap_isTakenAway_4 : xlk (xm_cd m_Ap_isTakenAway) 4 = some (.invokevirtual 35, 3, (602, 78, 0, [])) := rfl
theorem l_Ap_isTakenAway_7 : xlk (xm_cd m_Ap_isTakenAway) 7 = some (.if_icmp .ge 47, 3, (0, 54, 0, [])) := rfl
theorem l_Ap_isTakenAway_10 : xlk (xm_cd m_Ap_isTakenAway) 10 = some (.aload_n 2, 1, (0, 0, 0, [])) := rfl
theorem l_Ap_isTakenAway_11 : xlk (xm_cd m_Ap_isTakenAway) 11 = some (.iload_n 3, 1, (0, 0, 0, [])) := rfl
theorem l_Ap_isTakenAway_12 : xlk (xm_cd m_Ap_isTakenAway) 12 = some (.invokevirtual 57, 3, (609, 80, 1, [])) := rfl
theorem l_Ap_isTakenAway_15 : xlk (xm_cd m_Ap_isTakenAway) 15 = some (.astore 4, 2, (0, 0, 0, [])) := rfl
theorem l_Ap_isTakenAway_17 : xlk (xm_cd m_Ap_isTakenAway) 17 = some (.aload_n 0, 1, (0, 0, 0, [])) := rfl
theorem l_Ap_isTakenAway_18 : xlk (xm_cd m_Ap_isTakenAway) 18 = some (.getfield 9, 3, (213, 8, 0, [])) := rfl
theorem l_Ap_isTakenAway_21 : xlk (xm_cd m_Ap_isTakenAway) 21 = some (.iload_n 3, 1, (0, 0, 0, [])) := rfl
theorem l_Ap_isTakenAway_22 : xlk (xm_cd m_Ap_isTakenAway) 22 = some (.baload, 1, (0, 0, 0, [])) := rfl
theorem l_Ap_isTakenAway_23 : xlk (xm_cd m_Ap_isTakenAway) 23 = some (.ifCond .eq 25, 3, (0, 48, 0, [])) := rfl
theorem l_Ap_isTakenAway_26 : xlk (xm_cd m_Ap_isTakenAway) 26 = some (.aload 4, 2, (0, 0, 0, [])) := rfl
theorem l_Ap_isTakenAway_28 : xlk (xm_cd m_Ap_isTakenAway) 28 = some (.invokevirtual 72, 3, (611, 53, 0, [])) := rfl
theorem l_Ap_isTakenAway_31 : xlk (xm_cd m_Ap_isTakenAway) 31 = some (.ifCond .eq 17, 3, (0, 48, 0, [])) := rfl
theorem l_Ap_isTakenAway_34 : xlk (xm_cd m_Ap_isTakenAway) 34 = some (.aload 4, 2, (0, 0, 0, [])) := rfl
theorem l_Ap_isTakenAway_36 : xlk (xm_cd m_Ap_isTakenAway) 36 = some (.getfield 61, 3, (0, 4, 1, [])) := rfl
theorem l_Ap_isTakenAway_39 : xlk (xm_cd m_Ap_isTakenAway) 39 = some (.aload_n 1, 1, (0, 0, 0, [])) := rfl
theorem l_Ap_isTakenAway_40 : xlk (xm_cd m_Ap_isTakenAway) 40 = some (.invokevirtual 110, 3, (629, 29, 1, [])) := rfl
theorem l_Ap_isTakenAway_43 : xlk (xm_cd m_Ap_isTakenAway) 43 = some (.ifCond .eq 5, 3, (0, 48, 0, [])) := rfl
theorem l_Ap_isTakenAway_46 : xlk (xm_cd m_Ap_isTakenAway) 46 = some (.iconst 1, 1, (0, 0, 0, [])) := rfl
theorem l_Ap_isTakenAway_47 : xlk (xm_cd m_Ap_isTakenAway) 47 = some (.ireturn, 1, (0, 0, 0, [])) := rfl
theorem l_Ap_isTakenAway_48 : xlk (xm_cd m_Ap_isTakenAway) 48 = some (.iinc 3 1, 3, (0, 0, 0, [])) := rfl
theorem l_Ap_isTakenAway_51 : xlk (xm_cd m_Ap_isTakenAway) 51 = some (.goto (-49), 3, (0, 2, 0, [])) := rfl
theorem l_Ap_isTakenAway_54 : xlk (xm_cd m_Ap_isTakenAway) 54 = some (.iconst 0, 1, (0, 0, 0, [])) := rfl
theorem l_Ap_isTakenAway_55 : xlk (xm_cd m_Ap_isTakenAway) 55 = some (.ireturn, 1, (0, 0, 0, [])) := rfl
def B_Ap_isTakenAway_0 (d : Nat) (E : Option Value → xH → Prop) (f : xH) (a0 : Nat) (a1 : Nat) (a2 : Nat) : Prop :=
  xWp (xT0, xSp xT0 d, none, m_Ap_isTakenAway, E) 2 [some (.ref a0), some (.ref a1), some (.ref a2), some (.int 0), none] [] f 0 0
theorem b_Ap_isTakenAway_0 {d : Nat} {E : Option Value → xH → Prop} {f : xH} {a0 : Nat} {a1 : Nat} {a2 : Nat} (h : B_Ap_isTakenAway_0 d E f a0 a1 a2) : xWp (xT0, xSp xT0 d, none, m_Ap_isTakenAway, E) 0 [some (.ref a0), some (.ref a1), some (.ref a2), none, none] [] f 0 0 := by
  unfold B_Ap_isTakenAway_0 at h
  refine s_ic 0 l_Ap_isTakenAway_0 rfl ?_
  refine s_isn l_Ap_isTakenAway_1 (Nat.le_of_ble_eq_true rfl) ?_
  exact h
def B_Ap_isTakenAway_2 (d : Nat) (E : Option Value → xH → Prop) (f : xH) (a0 : Nat) (a1 : Nat) (a2 : Nat) (x3 : Int32) (u4 : Option Value) : Prop :=
  (∃ fs, f a2 = some (xO 5 fs)) ∧ xSp xT0 d j_Pa_size [.ref a2] f (fun w1 f2 => xvi w1 (fun v3 => xbr (v3 ≤ x3) (E (some (.int 0)) f2) ((∃ fs, f2 a2 = some (xO 5 fs)) ∧ xSp xT0 d j_Pa_at [.ref a2, .int x3] f2 (fun w4 f5 => xvr w4 (fun r6 => xgr f5 a0 8 0 (fun r7 => xal f5 r7 1 x3 (fun v8 => xbr (v8 = 0) (xWp (xT0, xSp xT0 d, none, m_Ap_isTakenAway, E) 2 [some (.ref a0), some (.ref a1), some (.ref a2), some (.int (x3 + 1)), some (.ref r6)] [] f5 0 0) ((∃ fs, f5 r6 = some (xO 4 fs)) ∧ xSp xT0 d j_St_hasSource [.ref r6] f5 (fun w9 f10 => xvi w9 (fun v11 => xbr (v11 = 0) (xWp (xT0, xSp xT0 d, none, m_Ap_isTakenAway, E) 2 [some (.ref a0), some (.ref a1), some (.ref a2), some (.int (x3 + 1)), some (.ref r6)] [] f10 0 0) (xgr f10 r6 4 1 (fun r12 => (∃ fs, f10 r12 = some (xO 1 fs)) ∧ xSp xT0 d j_By_equalTo [.ref r12, .ref a1] f10 (fun w13 f14 => xvi w13 (fun v15 => xbr (v15 = 0) (xWp (xT0, xSp xT0 d, none, m_Ap_isTakenAway, E) 2 [some (.ref a0), some (.ref a1), some (.ref a2), some (.int (x3 + 1)), some (.ref r6)] [] f14 0 0) (E (some (.int 1)) f14)))))))))))))))
theorem b_Ap_isTakenAway_2 {d : Nat} {E : Option Value → xH → Prop} {f : xH} {a0 : Nat} {a1 : Nat} {a2 : Nat} {x3 : Int32} {u4 : Option Value} (h : B_Ap_isTakenAway_2 d E f a0 a1 a2 x3 u4) : xWp (xT0, xSp xT0 d, none, m_Ap_isTakenAway, E) 2 [some (.ref a0), some (.ref a1), some (.ref a2), some (.int x3), u4] [] f 0 0 := by
  unfold B_Ap_isTakenAway_2 at h
  refine s_iln l_Ap_isTakenAway_2 rfl ?_
  refine s_aln l_Ap_isTakenAway_3 rfl ?_
  refine s_cvi (As := []) (r := [.int x3]) l_Ap_isTakenAway_4 rfl ⟨rfl, rfl⟩ rfl (Nat.le_of_ble_eq_true rfl) rfl ⟨Nat.zero_le _, Nat.zero_le _⟩ h (fun v3 f2 h => ?_)
  refine s_ifc l_Ap_isTakenAway_7 h (fun h => ?_) (fun h => ?_)
  · refine s_ic 0 l_Ap_isTakenAway_54 rfl ?_
    exact s_zret l_Ap_isTakenAway_55 rfl ⟨Nat.zero_le _, Nat.zero_le _⟩ ⟨Or.inl rfl, h⟩
  · refine s_aln l_Ap_isTakenAway_10 rfl ?_
    refine s_iln l_Ap_isTakenAway_11 rfl ?_
    refine s_cvr (As := [.int x3]) (r := []) l_Ap_isTakenAway_12 rfl ⟨rfl, rfl⟩ rfl (Nat.le_of_ble_eq_true rfl) rfl ⟨Nat.zero_le _, Nat.zero_le _⟩ h (fun r6 f5 h => ?_)
    refine s_as l_Ap_isTakenAway_15 (Nat.le_of_ble_eq_true rfl) ?_
    refine s_aln l_Ap_isTakenAway_17 rfl ?_
    refine s_gr l_Ap_isTakenAway_18 h (fun r7 h => ?_)
    refine s_iln l_Ap_isTakenAway_21 rfl ?_
    refine s_bal l_Ap_isTakenAway_22 (Or.inl rfl) h (fun v8 h => ?_)
    refine s_if l_Ap_isTakenAway_23 h (fun h => ?_) (fun h => ?_)
    · refine s_inc 1 l_Ap_isTakenAway_48 rfl rfl ?_
      refine s_goto l_Ap_isTakenAway_51 ?_
      exact h
    · refine s_al l_Ap_isTakenAway_26 rfl ?_
      refine s_cvi (As := []) (r := []) l_Ap_isTakenAway_28 rfl ⟨rfl, rfl⟩ rfl (Nat.le_of_ble_eq_true rfl) rfl ⟨Nat.zero_le _, Nat.zero_le _⟩ h (fun v11 f10 h => ?_)
      refine s_if l_Ap_isTakenAway_31 h (fun h => ?_) (fun h => ?_)
      · refine s_inc 1 l_Ap_isTakenAway_48 rfl rfl ?_
        refine s_goto l_Ap_isTakenAway_51 ?_
        exact h
      · refine s_al l_Ap_isTakenAway_34 rfl ?_
        refine s_gr l_Ap_isTakenAway_36 h (fun r12 h => ?_)
        refine s_aln l_Ap_isTakenAway_39 rfl ?_
        refine s_cvi (As := [.ref a1]) (r := []) l_Ap_isTakenAway_40 rfl ⟨rfl, rfl⟩ rfl (Nat.le_of_ble_eq_true rfl) rfl ⟨Nat.zero_le _, Nat.zero_le _⟩ h (fun v15 f14 h => ?_)
        refine s_if l_Ap_isTakenAway_43 h (fun h => ?_) (fun h => ?_)
        · refine s_inc 1 l_Ap_isTakenAway_48 rfl rfl ?_
          refine s_goto l_Ap_isTakenAway_51 ?_
          exact h
        · refine s_ic 1 l_Ap_isTakenAway_46 rfl ?_
          exact s_zret l_Ap_isTakenAway_47 rfl ⟨Nat.zero_le _, Nat.zero_le _⟩ ⟨Or.inr rfl, h⟩
theorem l_Ap_keepConflict_0 : xlk (xm_cd m_Ap_keepConflict) 0 = some (.aload_n 0, 1, (0, 0, 0, [])) := rfl
theorem l_Ap_keepConflict_1 : xlk (xm_cd m_Ap_keepConflict) 1 = some (.getfield 31, 3, (217, 8, 4, [])) := rfl
theorem l_Ap_keepConflict_4 : xlk (xm_cd m_Ap_keepConflict) 4 = some (.bipush 24, 2, (0, 0, 0, [])) := rfl
theorem l_Ap_keepConflict_6 : xlk (xm_cd m_Ap_keepConflict) 6 = some (.if_icmp .ge 33, 3, (0, 39, 0, [])) := rfl
theorem l_Ap_keepConflict_9 : xlk (xm_cd m_Ap_keepConflict) 9 = some (.aload_n 0, 1, (0, 0, 0, [])) := rfl
theorem l_Ap_keepConflict_10 : xlk (xm_cd m_Ap_keepConflict) 10 = some (.getfield 15, 3, (214, 8, 1, [])) := rfl
theorem l_Ap_keepConflict_13 : xlk (xm_cd m_Ap_keepConflict) 13 = some (.aload_n 0, 1, (0, 0, 0, [])) := rfl
theorem l_Ap_keepConflict_14 : xlk (xm_cd m_Ap_keepConflict) 14 = some (.getfield 31, 3, (217, 8, 4, [])) := rfl
theorem l_Ap_keepConflict_17 : xlk (xm_cd m_Ap_keepConflict) 17 = some (.iload_n 1, 1, (0, 0, 0, [])) := rfl
theorem l_Ap_keepConflict_18 : xlk (xm_cd m_Ap_keepConflict) 18 = some (.iastore, 1, (0, 0, 0, [])) := rfl
theorem l_Ap_keepConflict_19 : xlk (xm_cd m_Ap_keepConflict) 19 = some (.aload_n 0, 1, (0, 0, 0, [])) := rfl
theorem l_Ap_keepConflict_20 : xlk (xm_cd m_Ap_keepConflict) 20 = some (.getfield 19, 3, (215, 8, 2, [])) := rfl
theorem l_Ap_keepConflict_23 : xlk (xm_cd m_Ap_keepConflict) 23 = some (.aload_n 0, 1, (0, 0, 0, [])) := rfl
theorem l_Ap_keepConflict_24 : xlk (xm_cd m_Ap_keepConflict) 24 = some (.getfield 31, 3, (217, 8, 4, [])) := rfl
theorem l_Ap_keepConflict_27 : xlk (xm_cd m_Ap_keepConflict) 27 = some (.iload_n 2, 1, (0, 0, 0, [])) := rfl
theorem l_Ap_keepConflict_28 : xlk (xm_cd m_Ap_keepConflict) 28 = some (.iastore, 1, (0, 0, 0, [])) := rfl
theorem l_Ap_keepConflict_29 : xlk (xm_cd m_Ap_keepConflict) 29 = some (.aload_n 0, 1, (0, 0, 0, [])) := rfl
theorem l_Ap_keepConflict_30 : xlk (xm_cd m_Ap_keepConflict) 30 = some (.dup, 1, (0, 0, 0, [])) := rfl
theorem l_Ap_keepConflict_31 : xlk (xm_cd m_Ap_keepConflict) 31 = some (.getfield 31, 3, (217, 8, 4, [])) := rfl
theorem l_Ap_keepConflict_34 : xlk (xm_cd m_Ap_keepConflict) 34 = some (.iconst 1, 1, (0, 0, 0, [])) := rfl
theorem l_Ap_keepConflict_35 : xlk (xm_cd m_Ap_keepConflict) 35 = some (.iadd, 1, (0, 0, 0, [])) := rfl
theorem l_Ap_keepConflict_36 : xlk (xm_cd m_Ap_keepConflict) 36 = some (.putfield 31, 3, (217, 8, 4, [(0, 0)])) := rfl
theorem l_Ap_keepConflict_39 : xlk (xm_cd m_Ap_keepConflict) 39 = some (.return_, 1, (0, 0, 0, [])) := rfl
def B_Ap_keepConflict_0 (d : Nat) (E : Option Value → xH → Prop) (f : xH) (a0 : Nat) (x1 : Int32) (x2 : Int32) : Prop :=
  xgi f a0 8 4 (fun v1 => xbr ((24 : Int32) ≤ v1) (E none f) (xgr f a0 8 1 (fun r2 => xgi f a0 8 4 (fun v3 => xas f r2 0 v3 x1 (fun f4 => xgr f4 a0 8 2 (fun r5 => xgi f4 a0 8 4 (fun v6 => xas f4 r5 0 v6 x2 (fun f7 => xgi f7 a0 8 4 (fun v8 => xpf f7 a0 8 4 (.int (v8 + 1)) (fun f9 => E none f9))))))))))
theorem b_Ap_keepConflict_0 {d : Nat} {E : Option Value → xH → Prop} {f : xH} {a0 : Nat} {x1 : Int32} {x2 : Int32} (h : B_Ap_keepConflict_0 d E f a0 x1 x2) : xWp (xT0, xSp xT0 d, none, m_Ap_keepConflict, E) 0 [some (.ref a0), some (.int x1), some (.int x2)] [] f 0 0 := by
  unfold B_Ap_keepConflict_0 at h
  refine s_aln l_Ap_keepConflict_0 rfl ?_
  refine s_gi l_Ap_keepConflict_1 h (fun v1 h => ?_)
  refine s_bp 24 l_Ap_keepConflict_4 rfl ?_
  refine s_ifc l_Ap_keepConflict_6 h (fun h => ?_) (fun h => ?_)
  · exact s_ret l_Ap_keepConflict_39 ⟨Nat.zero_le _, Nat.zero_le _⟩ h
  · refine s_aln l_Ap_keepConflict_9 rfl ?_
    refine s_gr l_Ap_keepConflict_10 h (fun r2 h => ?_)
    refine s_aln l_Ap_keepConflict_13 rfl ?_
    refine s_gi l_Ap_keepConflict_14 h (fun v3 h => ?_)
    refine s_iln l_Ap_keepConflict_17 rfl ?_
    refine s_iast l_Ap_keepConflict_18 h (fun f4 h => ?_)
    refine s_aln l_Ap_keepConflict_19 rfl ?_
    refine s_gr l_Ap_keepConflict_20 h (fun r5 h => ?_)
    refine s_aln l_Ap_keepConflict_23 rfl ?_
    refine s_gi l_Ap_keepConflict_24 h (fun v6 h => ?_)
    refine s_iln l_Ap_keepConflict_27 rfl ?_
    refine s_iast l_Ap_keepConflict_28 h (fun f7 h => ?_)
    refine s_aln l_Ap_keepConflict_29 rfl ?_
    refine s_dup l_Ap_keepConflict_30 rfl ?_
    refine s_gi l_Ap_keepConflict_31 h (fun v8 h => ?_)
    refine s_ic 1 l_Ap_keepConflict_34 rfl ?_
    refine s_iadd l_Ap_keepConflict_35 ?_
    refine s_pf l_Ap_keepConflict_36 ⟨_, rfl⟩ h (fun f9 h => ?_)
    exact s_ret l_Ap_keepConflict_39 ⟨Nat.zero_le _, Nat.zero_le _⟩ h
theorem l_Ap_build_0 : xlk (xm_cd m_Ap_build) 0 = some (.aload_n 3, 1, (0, 0, 0, [])) := rfl
theorem l_Ap_build_1 : xlk (xm_cd m_Ap_build) 1 = some (.invokevirtual 113, 3, (636, 23, 0, [])) := rfl
theorem l_Ap_build_4 : xlk (xm_cd m_Ap_build) 4 = some (.iconst 0, 1, (0, 0, 0, [])) := rfl
theorem l_Ap_build_5 : xlk (xm_cd m_Ap_build) 5 = some (.istore 4, 2, (0, 0, 0, [])) := rfl
theorem l_Ap_build_7 : xlk (xm_cd m_Ap_build) 7 = some (.iload 4, 2, (0, 0, 0, [])) := rfl
theorem l_Ap_build_9 : xlk (xm_cd m_Ap_build) 9 = some (.aload_n 2, 1, (0, 0, 0, [])) := rfl
theorem l_Ap_build_10 : xlk (xm_cd m_Ap_build) 10 = some (.invokevirtual 116, 3, (637, 37, 0, [])) := rfl
theorem l_Ap_build_13 : xlk (xm_cd m_Ap_build) 13 = some (.if_icmp .ge 40, 3, (0, 53, 0, [])) := rfl
theorem l_Ap_build_16 : xlk (xm_cd m_Ap_build) 16 = some (.aload_n 0, 1, (0, 0, 0, [])) := rfl
theorem l_Ap_build_17 : xlk (xm_cd m_Ap_build) 17 = some (.aload_n 2, 1, (0, 0, 0, [])) := rfl
theorem l_Ap_build_18 : xlk (xm_cd m_Ap_build) 18 = some (.iload 4, 2, (0, 0, 0, [])) := rfl
theorem l_Ap_build_20 : xlk (xm_cd m_Ap_build) 20 = some (.invokevirtual 117, 3, (638, 39, 1, [])) := rfl
theorem l_Ap_build_23 : xlk (xm_cd m_Ap_build) 23 = some (.aload_n 1, 1, (0, 0, 0, [])) := rfl
theorem l_Ap_build_24 : xlk (xm_cd m_Ap_build) 24 = some (.invokevirtual 106, 3, (626, 95, 2, [])) := rfl
theorem l_Ap_build_27 : xlk (xm_cd m_Ap_build) 27 = some (.ifCond .ne 20, 3, (0, 47, 0, [])) := rfl
theorem l_Ap_build_30 : xlk (xm_cd m_Ap_build) 30 = some (.aload_n 3, 1, (0, 0, 0, [])) := rfl
theorem l_Ap_build_31 : xlk (xm_cd m_Ap_build) 31 = some (.aload_n 2, 1, (0, 0, 0, [])) := rfl
theorem l_Ap_build_32 : xlk (xm_cd m_Ap_build) 32 = some (.iload 4, 2, (0, 0, 0, [])) := rfl
theorem l_Ap_build_34 : xlk (xm_cd m_Ap_build) 34 = some (.invokevirtual 117, 3, (638, 39, 1, [])) := rfl
theorem l_Ap_build_37 : xlk (xm_cd m_Ap_build) 37 = some (.aload_n 2, 1, (0, 0, 0, [])) := rfl
theorem l_Ap_build_38 : xlk (xm_cd m_Ap_build) 38 = some (.iload 4, 2, (0, 0, 0, [])) := rfl
theorem l_Ap_build_40 : xlk (xm_cd m_Ap_build) 40 = some (.invokevirtual 76, 3, (612, 40, 1, [])) := rfl
theorem l_Ap_build_43 : xlk (xm_cd m_Ap_build) 43 = some (.invokevirtual 120, 3, (639, 27, 2, [])) := rfl
theorem l_Ap_build_46 : xlk (xm_cd m_Ap_build) 46 = some (.pop, 1, (0, 0, 0, [])) := rfl
theorem l_Ap_build_47 : xlk (xm_cd m_Ap_build) 47 = some (.iinc 4 1, 3, (0, 0, 0, [])) := rfl
theorem l_Ap_build_50 : xlk (xm_cd m_Ap_build) 50 = some (.goto (-43), 3, (0, 7, 0, [])) := rfl
theorem l_Ap_build_53 : xlk (xm_cd m_Ap_build) 53 = some (.iconst 0, 1, (0, 0, 0, [])) := rfl
theorem l_Ap_build_54 : xlk (xm_cd m_Ap_build) 54 = some (.istore 4, 2, (0, 0, 0, [])) := rfl
theorem l_Ap_build_56 : xlk (xm_cd m_Ap_build) 56 = some (.iload 4, 2, (0, 0, 0, [])) := rfl
theorem l_Ap_build_58 : xlk (xm_cd m_Ap_build) 58 = some (.aload_n 1, 1, (0, 0, 0, [])) := rfl
theorem l_Ap_build_59 : xlk (xm_cd m_Ap_build) 59 = some (.invokevirtual 35, 3, (602, 78, 0, [])) := rfl
theorem l_Ap_build_62 : xlk (xm_cd m_Ap_build) 62 = some (.if_icmp .ge 78, 3, (0, 140, 0, [])) := rfl
theorem l_Ap_build_65 : xlk (xm_cd m_Ap_build) 65 = some (.aload_n 1, 1, (0, 0, 0, [])) := rfl
theorem l_Ap_build_66 : xlk (xm_cd m_Ap_build) 66 = some (.iload 4, 2, (0, 0, 0, [])) := rfl
theorem l_Ap_build_68 : xlk (xm_cd m_Ap_build) 68 = some (.invokevirtual 57, 3, (609, 80, 1, [])) := rfl
theorem l_Ap_build_71 : xlk (xm_cd m_Ap_build) 71 = some (.astore 5, 2, (0, 0, 0, [])) := rfl
theorem l_Ap_build_73 : xlk (xm_cd m_Ap_build) 73 = some (.aload_n 0, 1, (0, 0, 0, [])) := rfl
theorem l_Ap_build_74 : xlk (xm_cd m_Ap_build) 74 = some (.getfield 9, 3, (213, 8, 0, [])) := rfl
theorem l_Ap_build_77 : xlk (xm_cd m_Ap_build) 77 = some (.iload 4, 2, (0, 0, 0, [])) := rfl
theorem l_Ap_build_79 : xlk (xm_cd m_Ap_build) 79 = some (.baload, 1, (0, 0, 0, [])) := rfl
theorem l_Ap_build_80 : xlk (xm_cd m_Ap_build) 80 = some (.ifCond .eq 54, 3, (0, 134, 0, [])) := rfl
theorem l_Ap_build_83 : xlk (xm_cd m_Ap_build) 83 = some (.aload 5, 2, (0, 0, 0, [])) := rfl
theorem l_Ap_build_85 : xlk (xm_cd m_Ap_build) 85 = some (.invokevirtual 84, 3, (617, 55, 0, [])) := rfl
theorem l_Ap_build_88 : xlk (xm_cd m_Ap_build) 88 = some (.ifCond .eq 46, 3, (0, 134, 0, [])) := rfl
theorem l_Ap_build_91 : xlk (xm_cd m_Ap_build) 91 = some (.aload 5, 2, (0, 0, 0, [])) := rfl
theorem l_Ap_build_93 : xlk (xm_cd m_Ap_build) 93 = some (.getfield 87, 3, (0, 4, 2, [])) := rfl
theorem l_Ap_build_96 : xlk (xm_cd m_Ap_build) 96 = some (.aload_n 2, 1, (0, 0, 0, [])) := rfl
theorem l_Ap_build_97 : xlk (xm_cd m_Ap_build) 97 = some (.aload_n 2, 1, (0, 0, 0, [])) := rfl
theorem l_Ap_build_98 : xlk (xm_cd m_Ap_build) 98 = some (.aload 5, 2, (0, 0, 0, [])) := rfl
theorem l_Ap_build_100 : xlk (xm_cd m_Ap_build) 100 = some (.getfield 61, 3, (0, 4, 1, [])) := rfl
theorem l_Ap_build_103 : xlk (xm_cd m_Ap_build) 103 = some (.invokevirtual 66, 3, (610, 28, 1, [])) := rfl
theorem l_Ap_build_106 : xlk (xm_cd m_Ap_build) 106 = some (.invokevirtual 76, 3, (612, 40, 1, [])) := rfl
theorem l_Ap_build_109 : xlk (xm_cd m_Ap_build) 109 = some (.aload_n 0, 1, (0, 0, 0, [])) := rfl
theorem l_Ap_build_110 : xlk (xm_cd m_Ap_build) 110 = some (.getfield 27, 3, (216, 8, 3, [])) := rfl
theorem l_Ap_build_113 : xlk (xm_cd m_Ap_build) 113 = some (.invokevirtual 91, 3, (618, 94, 2, [])) := rfl
theorem l_Ap_build_116 : xlk (xm_cd m_Ap_build) 116 = some (.aload_n 3, 1, (0, 0, 0, [])) := rfl
theorem l_Ap_build_117 : xlk (xm_cd m_Ap_build) 117 = some (.aload 5, 2, (0, 0, 0, [])) := rfl
theorem l_Ap_build_119 : xlk (xm_cd m_Ap_build) 119 = some (.getfield 103, 3, (0, 4, 0, [])) := rfl
theorem l_Ap_build_122 : xlk (xm_cd m_Ap_build) 122 = some (.aload_n 0, 1, (0, 0, 0, [])) := rfl
theorem l_Ap_build_123 : xlk (xm_cd m_Ap_build) 123 = some (.getfield 27, 3, (216, 8, 3, [])) := rfl
theorem l_Ap_build_126 : xlk (xm_cd m_Ap_build) 126 = some (.invokevirtual 120, 3, (639, 27, 2, [])) := rfl
theorem l_Ap_build_129 : xlk (xm_cd m_Ap_build) 129 = some (.ifCond .ge 5, 3, (0, 134, 0, [])) := rfl
theorem l_Ap_build_132 : xlk (xm_cd m_Ap_build) 132 = some (.iconst 0, 1, (0, 0, 0, [])) := rfl
theorem l_Ap_build_133 : xlk (xm_cd m_Ap_build) 133 = some (.ireturn, 1, (0, 0, 0, [])) := rfl
theorem l_Ap_build_134 : xlk (xm_cd m_Ap_build) 134 = some (.iinc 4 1, 3, (0, 0, 0, [])) := rfl
theorem l_Ap_build_137 : xlk (xm_cd m_Ap_build) 137 = some (.goto (-81), 3, (0, 56, 0, [])) := rfl
theorem l_Ap_build_140 : xlk (xm_cd m_Ap_build) 140 = some (.iconst 1, 1, (0, 0, 0, [])) := rfl
theorem l_Ap_build_141 : xlk (xm_cd m_Ap_build) 141 = some (.ireturn, 1, (0, 0, 0, [])) := rfl
def B_Ap_build_0 (d : Nat) (E : Option Value → xH → Prop) (f : xH) (a0 : Nat) (a1 : Nat) (a2 : Nat) (a3 : Nat) : Prop :=
  (∃ fs, f a3 = some (xO 2 fs)) ∧ xSp xT0 d j_Tr_empty [.ref a3] f (fun w1 f2 => xvv w1 (xWp (xT0, xSp xT0 d, none, m_Ap_build, E) 7 [some (.ref a0), some (.ref a1), some (.ref a2), some (.ref a3), some (.int 0), none] [] f2 0 0))
theorem b_Ap_build_0 {d : Nat} {E : Option Value → xH → Prop} {f : xH} {a0 : Nat} {a1 : Nat} {a2 : Nat} {a3 : Nat} (h : B_Ap_build_0 d E f a0 a1 a2 a3) : xWp (xT0, xSp xT0 d, none, m_Ap_build, E) 0 [some (.ref a0), some (.ref a1), some (.ref a2), some (.ref a3), none, none] [] f 0 0 := by
  unfold B_Ap_build_0 at h
  refine s_aln l_Ap_build_0 rfl ?_
  refine s_cvv (As := []) (r := []) l_Ap_build_1 rfl ⟨rfl, rfl⟩ rfl (Nat.le_of_ble_eq_true rfl) rfl ⟨Nat.zero_le _, Nat.zero_le _⟩ h (fun f2 h => ?_)
  refine s_ic 0 l_Ap_build_4 rfl ?_
  refine s_is l_Ap_build_5 (Nat.le_of_ble_eq_true rfl) ?_
  exact h
def B_Ap_build_7 (d : Nat) (E : Option Value → xH → Prop) (f : xH) (a0 : Nat) (a1 : Nat) (a2 : Nat) (a3 : Nat) (x4 : Int32) (u5 : Option Value) : Prop :=
  (∃ fs, f a2 = some (xO 2 fs)) ∧ xSp xT0 d j_Tr_size [.ref a2] f (fun w1 f2 => xvi w1 (fun v3 => xbr (v3 ≤ x4) (xWp (xT0, xSp xT0 d, none, m_Ap_build, E) 56 [some (.ref a0), some (.ref a1), some (.ref a2), some (.ref a3), some (.int 0), u5] [] f2 0 0) ((∃ fs, f2 a2 = some (xO 2 fs)) ∧ xSp xT0 d j_Tr_pathAt [.ref a2, .int x4] f2 (fun w4 f5 => xvr w4 (fun r6 => (∃ fs, f5 a0 = some (xO 8 fs)) ∧ xSp xT0 d j_Ap_isTakenAway [.ref a0, .ref r6, .ref a1] f5 (fun w7 f8 => xvi w7 (fun v9 => xbr (¬ v9 = 0) (xWp (xT0, xSp xT0 d, none, m_Ap_build, E) 7 [some (.ref a0), some (.ref a1), some (.ref a2), some (.ref a3), some (.int (x4 + 1)), u5] [] f8 0 0) ((∃ fs, f8 a2 = some (xO 2 fs)) ∧ xSp xT0 d j_Tr_pathAt [.ref a2, .int x4] f8 (fun w10 f11 => xvr w10 (fun r12 => (∃ fs, f11 a2 = some (xO 2 fs)) ∧ xSp xT0 d j_Tr_contentAt [.ref a2, .int x4] f11 (fun w13 f14 => xvr w13 (fun r15 => (∃ fs, f14 a3 = some (xO 2 fs)) ∧ xSp xT0 d j_Tr_take [.ref a3, .ref r12, .ref r15] f14 (fun w16 f17 => xvi w16 (fun v18 => xWp (xT0, xSp xT0 d, none, m_Ap_build, E) 7 [some (.ref a0), some (.ref a1), some (.ref a2), some (.ref a3), some (.int (x4 + 1)), u5] [] f17 0 0))))))))))))))
theorem b_Ap_build_7 {d : Nat} {E : Option Value → xH → Prop} {f : xH} {a0 : Nat} {a1 : Nat} {a2 : Nat} {a3 : Nat} {x4 : Int32} {u5 : Option Value} (h : B_Ap_build_7 d E f a0 a1 a2 a3 x4 u5) : xWp (xT0, xSp xT0 d, none, m_Ap_build, E) 7 [some (.ref a0), some (.ref a1), some (.ref a2), some (.ref a3), some (.int x4), u5] [] f 0 0 := by
  unfold B_Ap_build_7 at h
  refine s_il l_Ap_build_7 rfl ?_
  refine s_aln l_Ap_build_9 rfl ?_
  refine s_cvi (As := []) (r := [.int x4]) l_Ap_build_10 rfl ⟨rfl, rfl⟩ rfl (Nat.le_of_ble_eq_true rfl) rfl ⟨Nat.zero_le _, Nat.zero_le _⟩ h (fun v3 f2 h => ?_)
  refine s_ifc l_Ap_build_13 h (fun h => ?_) (fun h => ?_)
  · refine s_ic 0 l_Ap_build_53 rfl ?_
    refine s_is l_Ap_build_54 (Nat.le_of_ble_eq_true rfl) ?_
    exact h
  · refine s_aln l_Ap_build_16 rfl ?_
    refine s_aln l_Ap_build_17 rfl ?_
    refine s_il l_Ap_build_18 rfl ?_
    refine s_cvr (As := [.int x4]) (r := [.ref a0]) l_Ap_build_20 rfl ⟨rfl, rfl⟩ rfl (Nat.le_of_ble_eq_true rfl) rfl ⟨Nat.zero_le _, Nat.zero_le _⟩ h (fun r6 f5 h => ?_)
    refine s_aln l_Ap_build_23 rfl ?_
    refine s_cvi (As := [.ref r6, .ref a1]) (r := []) l_Ap_build_24 rfl ⟨rfl, rfl⟩ rfl (Nat.le_of_ble_eq_true rfl) rfl ⟨Nat.zero_le _, Nat.zero_le _⟩ h (fun v9 f8 h => ?_)
    refine s_if l_Ap_build_27 h (fun h => ?_) (fun h => ?_)
    · refine s_inc 1 l_Ap_build_47 rfl rfl ?_
      refine s_goto l_Ap_build_50 ?_
      exact h
    · refine s_aln l_Ap_build_30 rfl ?_
      refine s_aln l_Ap_build_31 rfl ?_
      refine s_il l_Ap_build_32 rfl ?_
      refine s_cvr (As := [.int x4]) (r := [.ref a3]) l_Ap_build_34 rfl ⟨rfl, rfl⟩ rfl (Nat.le_of_ble_eq_true rfl) rfl ⟨Nat.zero_le _, Nat.zero_le _⟩ h (fun r12 f11 h => ?_)
      refine s_aln l_Ap_build_37 rfl ?_
      refine s_il l_Ap_build_38 rfl ?_
      refine s_cvr (As := [.int x4]) (r := [.ref r12, .ref a3]) l_Ap_build_40 rfl ⟨rfl, rfl⟩ rfl (Nat.le_of_ble_eq_true rfl) rfl ⟨Nat.zero_le _, Nat.zero_le _⟩ h (fun r15 f14 h => ?_)
      refine s_cvi (As := [.ref r12, .ref r15]) (r := []) l_Ap_build_43 rfl ⟨rfl, rfl⟩ rfl (Nat.le_of_ble_eq_true rfl) rfl ⟨Nat.zero_le _, Nat.zero_le _⟩ h (fun v18 f17 h => ?_)
      refine s_pop l_Ap_build_46 rfl ?_
      refine s_inc 1 l_Ap_build_47 rfl rfl ?_
      refine s_goto l_Ap_build_50 ?_
      exact h
def B_Ap_build_56 (d : Nat) (E : Option Value → xH → Prop) (f : xH) (a0 : Nat) (a1 : Nat) (a2 : Nat) (a3 : Nat) (x4 : Int32) (u5 : Option Value) : Prop :=
  (∃ fs, f a1 = some (xO 5 fs)) ∧ xSp xT0 d j_Pa_size [.ref a1] f (fun w1 f2 => xvi w1 (fun v3 => xbr (v3 ≤ x4) (E (some (.int 1)) f2) ((∃ fs, f2 a1 = some (xO 5 fs)) ∧ xSp xT0 d j_Pa_at [.ref a1, .int x4] f2 (fun w4 f5 => xvr w4 (fun r6 => xgr f5 a0 8 0 (fun r7 => xal f5 r7 1 x4 (fun v8 => xbr (v8 = 0) (xWp (xT0, xSp xT0 d, none, m_Ap_build, E) 56 [some (.ref a0), some (.ref a1), some (.ref a2), some (.ref a3), some (.int (x4 + 1)), some (.ref r6)] [] f5 0 0) ((∃ fs, f5 r6 = some (xO 4 fs)) ∧ xSp xT0 d j_St_hasTarget [.ref r6] f5 (fun w9 f10 => xvi w9 (fun v11 => xbr (v11 = 0) (xWp (xT0, xSp xT0 d, none, m_Ap_build, E) 56 [some (.ref a0), some (.ref a1), some (.ref a2), some (.ref a3), some (.int (x4 + 1)), some (.ref r6)] [] f10 0 0) (xgr f10 r6 4 2 (fun r12 => xgr f10 r6 4 1 (fun r13 => (∃ fs, f10 a2 = some (xO 2 fs)) ∧ xSp xT0 d j_Tr_find [.ref a2, .ref r13] f10 (fun w14 f15 => xvi w14 (fun v16 => (∃ fs, f15 a2 = some (xO 2 fs)) ∧ xSp xT0 d j_Tr_contentAt [.ref a2, .int v16] f15 (fun w17 f18 => xvr w17 (fun r19 => xgr f18 a0 8 3 (fun r20 => (∃ fs, f18 r12 = some (xO 3 fs)) ∧ xSp xT0 d j_De_make [.ref r12, .ref r19, .ref r20] f18 (fun w21 f22 => xvv w21 (xgr f22 r6 4 0 (fun r23 => xgr f22 a0 8 3 (fun r24 => (∃ fs, f22 a3 = some (xO 2 fs)) ∧ xSp xT0 d j_Tr_take [.ref a3, .ref r23, .ref r24] f22 (fun w25 f26 => xvi w25 (fun v27 => xbr ((0 : Int32) ≤ v27) (xWp (xT0, xSp xT0 d, none, m_Ap_build, E) 56 [some (.ref a0), some (.ref a1), some (.ref a2), some (.ref a3), some (.int (x4 + 1)), some (.ref r6)] [] f26 0 0) (E (some (.int 0)) f26)))))))))))))))))))))))))
theorem b_Ap_build_56 {d : Nat} {E : Option Value → xH → Prop} {f : xH} {a0 : Nat} {a1 : Nat} {a2 : Nat} {a3 : Nat} {x4 : Int32} {u5 : Option Value} (h : B_Ap_build_56 d E f a0 a1 a2 a3 x4 u5) : xWp (xT0, xSp xT0 d, none, m_Ap_build, E) 56 [some (.ref a0), some (.ref a1), some (.ref a2), some (.ref a3), some (.int x4), u5] [] f 0 0 := by
  unfold B_Ap_build_56 at h
  refine s_il l_Ap_build_56 rfl ?_
  refine s_aln l_Ap_build_58 rfl ?_
  refine s_cvi (As := []) (r := [.int x4]) l_Ap_build_59 rfl ⟨rfl, rfl⟩ rfl (Nat.le_of_ble_eq_true rfl) rfl ⟨Nat.zero_le _, Nat.zero_le _⟩ h (fun v3 f2 h => ?_)
  refine s_ifc l_Ap_build_62 h (fun h => ?_) (fun h => ?_)
  · refine s_ic 1 l_Ap_build_140 rfl ?_
    exact s_zret l_Ap_build_141 rfl ⟨Nat.zero_le _, Nat.zero_le _⟩ ⟨Or.inr rfl, h⟩
  · refine s_aln l_Ap_build_65 rfl ?_
    refine s_il l_Ap_build_66 rfl ?_
    refine s_cvr (As := [.int x4]) (r := []) l_Ap_build_68 rfl ⟨rfl, rfl⟩ rfl (Nat.le_of_ble_eq_true rfl) rfl ⟨Nat.zero_le _, Nat.zero_le _⟩ h (fun r6 f5 h => ?_)
    refine s_as l_Ap_build_71 (Nat.le_of_ble_eq_true rfl) ?_
    refine s_aln l_Ap_build_73 rfl ?_
    refine s_gr l_Ap_build_74 h (fun r7 h => ?_)
    refine s_il l_Ap_build_77 rfl ?_
    refine s_bal l_Ap_build_79 (Or.inl rfl) h (fun v8 h => ?_)
    refine s_if l_Ap_build_80 h (fun h => ?_) (fun h => ?_)
    · refine s_inc 1 l_Ap_build_134 rfl rfl ?_
      refine s_goto l_Ap_build_137 ?_
      exact h
    · refine s_al l_Ap_build_83 rfl ?_
      refine s_cvi (As := []) (r := []) l_Ap_build_85 rfl ⟨rfl, rfl⟩ rfl (Nat.le_of_ble_eq_true rfl) rfl ⟨Nat.zero_le _, Nat.zero_le _⟩ h (fun v11 f10 h => ?_)
      refine s_if l_Ap_build_88 h (fun h => ?_) (fun h => ?_)
      · refine s_inc 1 l_Ap_build_134 rfl rfl ?_
        refine s_goto l_Ap_build_137 ?_
        exact h
      · refine s_al l_Ap_build_91 rfl ?_
        refine s_gr l_Ap_build_93 h (fun r12 h => ?_)
        refine s_aln l_Ap_build_96 rfl ?_
        refine s_aln l_Ap_build_97 rfl ?_
        refine s_al l_Ap_build_98 rfl ?_
        refine s_gr l_Ap_build_100 h (fun r13 h => ?_)
        refine s_cvi (As := [.ref r13]) (r := [.ref a2, .ref r12]) l_Ap_build_103 rfl ⟨rfl, rfl⟩ rfl (Nat.le_of_ble_eq_true rfl) rfl ⟨Nat.zero_le _, Nat.zero_le _⟩ h (fun v16 f15 h => ?_)
        refine s_cvr (As := [.int v16]) (r := [.ref r12]) l_Ap_build_106 rfl ⟨rfl, rfl⟩ rfl (Nat.le_of_ble_eq_true rfl) rfl ⟨Nat.zero_le _, Nat.zero_le _⟩ h (fun r19 f18 h => ?_)
        refine s_aln l_Ap_build_109 rfl ?_
        refine s_gr l_Ap_build_110 h (fun r20 h => ?_)
        refine s_cvv (As := [.ref r19, .ref r20]) (r := []) l_Ap_build_113 rfl ⟨rfl, rfl⟩ rfl (Nat.le_of_ble_eq_true rfl) rfl ⟨Nat.zero_le _, Nat.zero_le _⟩ h (fun f22 h => ?_)
        refine s_aln l_Ap_build_116 rfl ?_
        refine s_al l_Ap_build_117 rfl ?_
        refine s_gr l_Ap_build_119 h (fun r23 h => ?_)
        refine s_aln l_Ap_build_122 rfl ?_
        refine s_gr l_Ap_build_123 h (fun r24 h => ?_)
        refine s_cvi (As := [.ref r23, .ref r24]) (r := []) l_Ap_build_126 rfl ⟨rfl, rfl⟩ rfl (Nat.le_of_ble_eq_true rfl) rfl ⟨Nat.zero_le _, Nat.zero_le _⟩ h (fun v27 f26 h => ?_)
        refine s_if l_Ap_build_129 h (fun h => ?_) (fun h => ?_)
        · refine s_inc 1 l_Ap_build_134 rfl rfl ?_
          refine s_goto l_Ap_build_137 ?_
          exact h
        · refine s_ic 0 l_Ap_build_132 rfl ?_
          exact s_zret l_Ap_build_133 rfl ⟨Nat.zero_le _, Nat.zero_le _⟩ ⟨Or.inl rfl, h⟩
theorem l_Ap_tellConflict_0 : xlk (xm_cd m_Ap_tellConflict) 0 = some (.iload_n 1, 1, (0, 0, 0, [])) := rfl
theorem l_Ap_tellConflict_1 : xlk (xm_cd m_Ap_tellConflict) 1 = some (.iconst (-1), 1, (0, 0, 0, [])) := rfl
theorem l_Ap_tellConflict_2 : xlk (xm_cd m_Ap_tellConflict) 2 = some (.if_icmp .ne 12, 3, (0, 14, 0, [])) := rfl
theorem l_Ap_tellConflict_5 : xlk (xm_cd m_Ap_tellConflict) 5 = some (.iload_n 2, 1, (0, 0, 0, [])) := rfl
theorem l_Ap_tellConflict_6 : xlk (xm_cd m_Ap_tellConflict) 6 = some (.ifCond .ne 8, 3, (0, 14, 0, [])) := rfl
theorem l_Ap_tellConflict_9 : xlk (xm_cd m_Ap_tellConflict) 9 = some (.aload_n 0, 1, (0, 0, 0, [])) := rfl
theorem l_Ap_tellConflict_10 : xlk (xm_cd m_Ap_tellConflict) 10 = some (.getfield 31, 3, (217, 8, 4, [])) := rfl
theorem l_Ap_tellConflict_13 : xlk (xm_cd m_Ap_tellConflict) 13 = some (.ireturn, 1, (0, 0, 0, [])) := rfl
theorem l_Ap_tellConflict_14 : xlk (xm_cd m_Ap_tellConflict) 14 = some (.iload_n 1, 1, (0, 0, 0, [])) := rfl
theorem l_Ap_tellConflict_15 : xlk (xm_cd m_Ap_tellConflict) 15 = some (.ifCond .lt 11, 3, (0, 26, 0, [])) := rfl
theorem l_Ap_tellConflict_18 : xlk (xm_cd m_Ap_tellConflict) 18 = some (.iload_n 1, 1, (0, 0, 0, [])) := rfl
theorem l_Ap_tellConflict_19 : xlk (xm_cd m_Ap_tellConflict) 19 = some (.aload_n 0, 1, (0, 0, 0, [])) := rfl
theorem l_Ap_tellConflict_20 : xlk (xm_cd m_Ap_tellConflict) 20 = some (.getfield 31, 3, (217, 8, 4, [])) := rfl
theorem l_Ap_tellConflict_23 : xlk (xm_cd m_Ap_tellConflict) 23 = some (.if_icmp .lt 5, 3, (0, 28, 0, [])) := rfl
theorem l_Ap_tellConflict_26 : xlk (xm_cd m_Ap_tellConflict) 26 = some (.iconst (-1), 1, (0, 0, 0, [])) := rfl
theorem l_Ap_tellConflict_27 : xlk (xm_cd m_Ap_tellConflict) 27 = some (.ireturn, 1, (0, 0, 0, [])) := rfl
theorem l_Ap_tellConflict_28 : xlk (xm_cd m_Ap_tellConflict) 28 = some (.iload_n 2, 1, (0, 0, 0, [])) := rfl
theorem l_Ap_tellConflict_29 : xlk (xm_cd m_Ap_tellConflict) 29 = some (.lookupswitch 41 #[(0, 27), (1, 34)], 27, (0, 70, 0, [(0, 56), (1, 63)])) := rfl
theorem l_Ap_tellConflict_56 : xlk (xm_cd m_Ap_tellConflict) 56 = some (.aload_n 0, 1, (0, 0, 0, [])) := rfl
theorem l_Ap_tellConflict_57 : xlk (xm_cd m_Ap_tellConflict) 57 = some (.getfield 15, 3, (214, 8, 1, [])) := rfl
theorem l_Ap_tellConflict_60 : xlk (xm_cd m_Ap_tellConflict) 60 = some (.iload_n 1, 1, (0, 0, 0, [])) := rfl
theorem l_Ap_tellConflict_61 : xlk (xm_cd m_Ap_tellConflict) 61 = some (.iaload, 1, (0, 0, 0, [])) := rfl
theorem l_Ap_tellConflict_62 : xlk (xm_cd m_Ap_tellConflict) 62 = some (.ireturn, 1, (0, 0, 0, [])) := rfl
theorem l_Ap_tellConflict_63 : xlk (xm_cd m_Ap_tellConflict) 63 = some (.aload_n 0, 1, (0, 0, 0, [])) := rfl
theorem l_Ap_tellConflict_64 : xlk (xm_cd m_Ap_tellConflict) 64 = some (.getfield 19, 3, (215, 8, 2, [])) := rfl
theorem l_Ap_tellConflict_67 : xlk (xm_cd m_Ap_tellConflict) 67 = some (.iload_n 1, 1, (0, 0, 0, [])) := rfl
theorem l_Ap_tellConflict_68 : xlk (xm_cd m_Ap_tellConflict) 68 = some (.iaload, 1, (0, 0, 0, [])) := rfl
theorem l_Ap_tellConflict_69 : xlk (xm_cd m_Ap_tellConflict) 69 = some (.ireturn, 1, (0, 0, 0, [])) := rfl
theorem l_Ap_tellConflict_70 : xlk (xm_cd m_Ap_tellConflict) 70 = some (.iconst (-1), 1, (0, 0, 0, [])) := rfl
theorem l_Ap_tellConflict_71 : xlk (xm_cd m_Ap_tellConflict) 71 = some (.ireturn, 1, (0, 0, 0, [])) := rfl
def B_Ap_tellConflict_0 (d : Nat) (E : Option Value → xH → Prop) (f : xH) (a0 : Nat) (x1 : Int32) (x2 : Int32) : Prop :=
  xbr (¬ x1 = (-1)) (xWp (xT0, xSp xT0 d, none, m_Ap_tellConflict, E) 14 [some (.ref a0), some (.int x1), some (.int x2)] [] f 0 0) (xbr (¬ x2 = 0) (xWp (xT0, xSp xT0 d, none, m_Ap_tellConflict, E) 14 [some (.ref a0), some (.int x1), some (.int x2)] [] f 0 0) (xgi f a0 8 4 (fun v1 => E (some (.int v1)) f)))
theorem b_Ap_tellConflict_0 {d : Nat} {E : Option Value → xH → Prop} {f : xH} {a0 : Nat} {x1 : Int32} {x2 : Int32} (h : B_Ap_tellConflict_0 d E f a0 x1 x2) : xWp (xT0, xSp xT0 d, none, m_Ap_tellConflict, E) 0 [some (.ref a0), some (.int x1), some (.int x2)] [] f 0 0 := by
  unfold B_Ap_tellConflict_0 at h
  refine s_iln l_Ap_tellConflict_0 rfl ?_
  refine s_ic (-1) l_Ap_tellConflict_1 rfl ?_
  refine s_ifc l_Ap_tellConflict_2 h (fun h => ?_) (fun h => ?_)
  · exact h
  · refine s_iln l_Ap_tellConflict_5 rfl ?_
    refine s_if l_Ap_tellConflict_6 h (fun h => ?_) (fun h => ?_)
    · exact h
    · refine s_aln l_Ap_tellConflict_9 rfl ?_
      refine s_gi l_Ap_tellConflict_10 h (fun v1 h => ?_)
      exact s_iret l_Ap_tellConflict_13 rfl ⟨Nat.zero_le _, Nat.zero_le _⟩ h
def B_Ap_tellConflict_14 (d : Nat) (E : Option Value → xH → Prop) (f : xH) (a0 : Nat) (x1 : Int32) (x2 : Int32) : Prop :=
  xbr (x1 < 0) (E (some (.int (-1))) f) (xgi f a0 8 4 (fun v1 => xbr (x1 < v1) (xbr (x2 = 0) (xgr f a0 8 1 (fun r2 => xal f r2 0 x1 (fun v3 => E (some (.int v3)) f))) (xbr (x2 = 1) (xgr f a0 8 2 (fun r4 => xal f r4 0 x1 (fun v5 => E (some (.int v5)) f))) (E (some (.int (-1))) f))) (E (some (.int (-1))) f)))
theorem b_Ap_tellConflict_14 {d : Nat} {E : Option Value → xH → Prop} {f : xH} {a0 : Nat} {x1 : Int32} {x2 : Int32} (h : B_Ap_tellConflict_14 d E f a0 x1 x2) : xWp (xT0, xSp xT0 d, none, m_Ap_tellConflict, E) 14 [some (.ref a0), some (.int x1), some (.int x2)] [] f 0 0 := by
  unfold B_Ap_tellConflict_14 at h
  refine s_iln l_Ap_tellConflict_14 rfl ?_
  refine s_if l_Ap_tellConflict_15 h (fun h => ?_) (fun h => ?_)
  · refine s_ic (-1) l_Ap_tellConflict_26 rfl ?_
    exact s_iret l_Ap_tellConflict_27 rfl ⟨Nat.zero_le _, Nat.zero_le _⟩ h
  · refine s_iln l_Ap_tellConflict_18 rfl ?_
    refine s_aln l_Ap_tellConflict_19 rfl ?_
    refine s_gi l_Ap_tellConflict_20 h (fun v1 h => ?_)
    refine s_ifc l_Ap_tellConflict_23 h (fun h => ?_) (fun h => ?_)
    · refine s_iln l_Ap_tellConflict_28 rfl ?_
      refine s_ls l_Ap_tellConflict_29 ⟨fun q0 => ?_, fun n0 => ⟨fun q1 => ?_, fun n1 => ?_⟩⟩
      · have h := (h).1 q0
        refine s_aln l_Ap_tellConflict_56 rfl ?_
        refine s_gr l_Ap_tellConflict_57 h (fun r2 h => ?_)
        refine s_iln l_Ap_tellConflict_60 rfl ?_
        refine s_ial l_Ap_tellConflict_61 rfl h (fun v3 h => ?_)
        exact s_iret l_Ap_tellConflict_62 rfl ⟨Nat.zero_le _, Nat.zero_le _⟩ h
      · have h := ((h).2 n0).1 q1
        refine s_aln l_Ap_tellConflict_63 rfl ?_
        refine s_gr l_Ap_tellConflict_64 h (fun r4 h => ?_)
        refine s_iln l_Ap_tellConflict_67 rfl ?_
        refine s_ial l_Ap_tellConflict_68 rfl h (fun v5 h => ?_)
        exact s_iret l_Ap_tellConflict_69 rfl ⟨Nat.zero_le _, Nat.zero_le _⟩ h
      · have h := ((h).2 n0).2 n1
        refine s_ic (-1) l_Ap_tellConflict_70 rfl ?_
        exact s_iret l_Ap_tellConflict_71 rfl ⟨Nat.zero_le _, Nat.zero_le _⟩ h
    · refine s_ic (-1) l_Ap_tellConflict_26 rfl ?_
      exact s_iret l_Ap_tellConflict_27 rfl ⟨Nat.zero_le _, Nat.zero_le _⟩ h
