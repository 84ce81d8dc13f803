/-! blocks of We, 0 -/
theorem l_We_weave_0 : xlk (xm_cd m_We_weave) 0 = some (.aload_n 2, 1, (0, 0, 0, [])) := rfl
theorem l_We_weave_1 : xlk (xm_cd m_We_weave) 1 = some (.invokevirtual 24, 3, (486, 12, 0, [])) := rfl
theorem l_We_weave_4 : xlk (xm_cd m_We_weave) 4 = some (.bipush 48, 2, (0, 0, 0, [])) := rfl
theorem l_We_weave_6 : xlk (xm_cd m_We_weave) 6 = some (.invokestatic 30, 3, (487, 0, 0, [(2, 0)])) := rfl
theorem l_We_weave_9 : xlk (xm_cd m_We_weave) 9 = some (.istore 4, 2, (0, 0, 0, [])) := rfl
theorem l_We_weave_11 : xlk (xm_cd m_We_weave) 11 = some (.iconst 0, 1, (0, 0, 0, [])) := rfl
theorem l_We_weave_12 : xlk (xm_cd m_We_weave) 12 = some (.istore 5, 2, (0, 0, 0, [])) := rfl
theorem l_We_weave_14 : xlk (xm_cd m_We_weave) 14 = some (.iload 5, 2, (0, 0, 0, [])) := rfl
theorem l_We_weave_16 : xlk (xm_cd m_We_weave) 16 = some (.bipush 48, 2, (0, 0, 0, [])) := rfl
theorem l_We_weave_18 : xlk (xm_cd m_We_weave) 18 = some (.if_icmp .gt 17, 3, (0, 35, 0, [])) := rfl
theorem l_We_weave_21 : xlk (xm_cd m_We_weave) 21 = some (.aload_n 0, 1, (0, 0, 0, [])) := rfl
theorem l_We_weave_22 : xlk (xm_cd m_We_weave) 22 = some (.getfield 9, 3, (185, 6, 0, [])) := rfl
theorem l_We_weave_25 : xlk (xm_cd m_We_weave) 25 = some (.iload 5, 2, (0, 0, 0, [])) := rfl
theorem l_We_weave_27 : xlk (xm_cd m_We_weave) 27 = some (.iconst 0, 1, (0, 0, 0, [])) := rfl
theorem l_We_weave_28 : xlk (xm_cd m_We_weave) 28 = some (.iastore, 1, (0, 0, 0, [])) := rfl
theorem l_We_weave_29 : xlk (xm_cd m_We_weave) 29 = some (.iinc 5 1, 3, (0, 0, 0, [])) := rfl
theorem l_We_weave_32 : xlk (xm_cd m_We_weave) 32 = some (.goto (-18), 3, (0, 14, 0, [])) := rfl
theorem l_We_weave_35 : xlk (xm_cd m_We_weave) 35 = some (.aload_n 0, 1, (0, 0, 0, [])) := rfl
theorem l_We_weave_36 : xlk (xm_cd m_We_weave) 36 = some (.getfield 15, 3, (186, 6, 1, [])) := rfl
theorem l_We_weave_39 : xlk (xm_cd m_We_weave) 39 = some (.iload 4, 2, (0, 0, 0, [])) := rfl
theorem l_We_weave_41 : xlk (xm_cd m_We_weave) 41 = some (.iconst 0, 1, (0, 0, 0, [])) := rfl
theorem l_We_weave_42 : xlk (xm_cd m_We_weave) 42 = some (.iastore, 1, (0, 0, 0, [])) := rfl
theorem l_We_weave_43 : xlk (xm_cd m_We_weave) 43 = some (.iload 4, 2, (0, 0, 0, [])) := rfl
theorem l_We_weave_45 : xlk (xm_cd m_We_weave) 45 = some (.iconst 1, 1, (0, 0, 0, [])) := rfl
theorem l_We_weave_46 : xlk (xm_cd m_We_weave) 46 = some (.isub, 1, (0, 0, 0, [])) := rfl
theorem l_We_weave_47 : xlk (xm_cd m_We_weave) 47 = some (.istore 5, 2, (0, 0, 0, [])) := rfl
theorem l_We_weave_49 : xlk (xm_cd m_We_weave) 49 = some (.iload 5, 2, (0, 0, 0, [])) := rfl
theorem l_We_weave_51 : xlk (xm_cd m_We_weave) 51 = some (.ifCond .lt 38, 3, (0, 89, 0, [])) := rfl
theorem l_We_weave_54 : xlk (xm_cd m_We_weave) 54 = some (.aload_n 0, 1, (0, 0, 0, [])) := rfl
theorem l_We_weave_55 : xlk (xm_cd m_We_weave) 55 = some (.aload_n 1, 1, (0, 0, 0, [])) := rfl
theorem l_We_weave_56 : xlk (xm_cd m_We_weave) 56 = some (.aload_n 2, 1, (0, 0, 0, [])) := rfl
theorem l_We_weave_57 : xlk (xm_cd m_We_weave) 57 = some (.iload 5, 2, (0, 0, 0, [])) := rfl
theorem l_We_weave_59 : xlk (xm_cd m_We_weave) 59 = some (.invokevirtual 36, 3, (488, 43, 1, [])) := rfl
theorem l_We_weave_62 : xlk (xm_cd m_We_weave) 62 = some (.invokevirtual 40, 3, (489, 60, 2, [])) := rfl
theorem l_We_weave_65 : xlk (xm_cd m_We_weave) 65 = some (.istore 6, 2, (0, 0, 0, [])) := rfl
theorem l_We_weave_67 : xlk (xm_cd m_We_weave) 67 = some (.aload_n 0, 1, (0, 0, 0, [])) := rfl
theorem l_We_weave_68 : xlk (xm_cd m_We_weave) 68 = some (.iload 5, 2, (0, 0, 0, [])) := rfl
theorem l_We_weave_70 : xlk (xm_cd m_We_weave) 70 = some (.iload 6, 2, (0, 0, 0, [])) := rfl
theorem l_We_weave_72 : xlk (xm_cd m_We_weave) 72 = some (.iload 4, 2, (0, 0, 0, [])) := rfl
theorem l_We_weave_74 : xlk (xm_cd m_We_weave) 74 = some (.iload 5, 2, (0, 0, 0, [])) := rfl
theorem l_We_weave_76 : xlk (xm_cd m_We_weave) 76 = some (.isub, 1, (0, 0, 0, [])) := rfl
theorem l_We_weave_77 : xlk (xm_cd m_We_weave) 77 = some (.invokestatic 30, 3, (487, 0, 0, [(2, 0)])) := rfl
theorem l_We_weave_80 : xlk (xm_cd m_We_weave) 80 = some (.invokevirtual 44, 3, (493, 61, 2, [])) := rfl
theorem l_We_weave_83 : xlk (xm_cd m_We_weave) 83 = some (.iinc 5 (-1), 3, (0, 0, 0, [])) := rfl
theorem l_We_weave_86 : xlk (xm_cd m_We_weave) 86 = some (.goto (-37), 3, (0, 49, 0, [])) := rfl
theorem l_We_weave_89 : xlk (xm_cd m_We_weave) 89 = some (.aload_n 0, 1, (0, 0, 0, [])) := rfl
theorem l_We_weave_90 : xlk (xm_cd m_We_weave) 90 = some (.aload_n 2, 1, (0, 0, 0, [])) := rfl
theorem l_We_weave_91 : xlk (xm_cd m_We_weave) 91 = some (.iload 4, 2, (0, 0, 0, [])) := rfl
theorem l_We_weave_93 : xlk (xm_cd m_We_weave) 93 = some (.aload_n 3, 1, (0, 0, 0, [])) := rfl
theorem l_We_weave_94 : xlk (xm_cd m_We_weave) 94 = some (.invokevirtual 48, 3, (499, 63, 3, [])) := rfl
theorem l_We_weave_97 : xlk (xm_cd m_We_weave) 97 = some (.return_, 1, (0, 0, 0, [])) := rfl
def B_We_weave_0 (d : Nat) (E : Option Value → xH → Prop) (f : xH) (a0 : Nat) (a1 : Nat) (a2 : Nat) (a3 : Nat) : Prop :=
  (∃ fs, f a2 = some (xO 1 fs)) ∧ xSp xT0 d j_By_size [.ref a2] f (fun w1 f2 => xvi w1 (fun v3 => xWp (xT0, xSp xT0 d, none, m_We_weave, E) 14 [some (.ref a0), some (.ref a1), some (.ref a2), some (.ref a3), some (.int (if (48 : Int32) < v3 then 48 else v3)), some (.int 0), none] [] f2 0 0))
theorem b_We_weave_0 {d : Nat} {E : Option Value → xH → Prop} {f : xH} {a0 : Nat} {a1 : Nat} {a2 : Nat} {a3 : Nat} (h : B_We_weave_0 d E f a0 a1 a2 a3) : xWp (xT0, xSp xT0 d, none, m_We_weave, E) 0 [some (.ref a0), some (.ref a1), some (.ref a2), some (.ref a3), none, none, none] [] f 0 0 := by
  unfold B_We_weave_0 at h
  refine s_aln l_We_weave_0 rfl ?_
  refine s_cvi (As := []) (r := []) l_We_weave_1 rfl ⟨rfl, rfl⟩ rfl (Nat.le_of_ble_eq_true rfl) rfl ⟨Nat.zero_le _, Nat.zero_le _⟩ h (fun v3 f2 h => ?_)
  refine s_bp 48 l_We_weave_4 rfl ?_
  refine s_min l_We_weave_6 (Nat.le_of_ble_eq_true rfl) ⟨Nat.zero_le _, Nat.zero_le _⟩ ?_
  refine s_is l_We_weave_9 (Nat.le_of_ble_eq_true rfl) ?_
  refine s_ic 0 l_We_weave_11 rfl ?_
  refine s_is l_We_weave_12 (Nat.le_of_ble_eq_true rfl) ?_
  exact h
def B_We_weave_14 (d : Nat) (E : Option Value → xH → Prop) (f : xH) (a0 : Nat) (a1 : Nat) (a2 : Nat) (a3 : Nat) (x4 : Int32) (x5 : Int32) (u6 : Option Value) : Prop :=
  xbr ((48 : Int32) < x5) (xgr f a0 6 1 (fun r1 => xas f r1 0 x4 0 (fun f2 => xWp (xT0, xSp xT0 d, none, m_We_weave, E) 49 [some (.ref a0), some (.ref a1), some (.ref a2), some (.ref a3), some (.int x4), some (.int (x4 - 1)), u6] [] f2 0 0))) (xgr f a0 6 0 (fun r3 => xas f r3 0 x5 0 (fun f4 => xWp (xT0, xSp xT0 d, none, m_We_weave, E) 14 [some (.ref a0), some (.ref a1), some (.ref a2), some (.ref a3), some (.int x4), some (.int (x5 + 1)), u6] [] f4 0 0)))
theorem b_We_weave_14 {d : Nat} {E : Option Value → xH → Prop} {f : xH} {a0 : Nat} {a1 : Nat} {a2 : Nat} {a3 : Nat} {x4 : Int32} {x5 : Int32} {u6 : Option Value} (h : B_We_weave_14 d E f a0 a1 a2 a3 x4 x5 u6) : xWp (xT0, xSp xT0 d, none, m_We_weave, E) 14 [some (.ref a0), some (.ref a1), some (.ref a2), some (.ref a3), some (.int x4), some (.int x5), u6] [] f 0 0 := by
  unfold B_We_weave_14 at h
  refine s_il l_We_weave_14 rfl ?_
  refine s_bp 48 l_We_weave_16 rfl ?_
  refine s_ifc l_We_weave_18 h (fun h => ?_) (fun h => ?_)
  · refine s_aln l_We_weave_35 rfl ?_
    refine s_gr l_We_weave_36 h (fun r1 h => ?_)
    refine s_il l_We_weave_39 rfl ?_
    refine s_ic 0 l_We_weave_41 rfl ?_
    refine s_iast l_We_weave_42 h (fun f2 h => ?_)
    refine s_il l_We_weave_43 rfl ?_
    refine s_ic 1 l_We_weave_45 rfl ?_
    refine s_isub l_We_weave_46 ?_
    refine s_is l_We_weave_47 (Nat.le_of_ble_eq_true rfl) ?_
    exact h
  · refine s_aln l_We_weave_21 rfl ?_
    refine s_gr l_We_weave_22 h (fun r3 h => ?_)
    refine s_il l_We_weave_25 rfl ?_
    refine s_ic 0 l_We_weave_27 rfl ?_
    refine s_iast l_We_weave_28 h (fun f4 h => ?_)
    refine s_inc 1 l_We_weave_29 rfl rfl ?_
    refine s_goto l_We_weave_32 ?_
    exact h
def B_We_weave_49 (d : Nat) (E : Option Value → xH → Prop) (f : xH) (a0 : Nat) (a1 : Nat) (a2 : Nat) (a3 : Nat) (x4 : Int32) (x5 : Int32) (u6 : Option Value) : Prop :=
  xbr (x5 < 0) ((∃ fs, f a0 = some (xO 6 fs)) ∧ xSp xT0 d j_We_tellChosen [.ref a0, .ref a2, .int x4, .ref a3] f (fun w1 f2 => xvv w1 (E none f2))) ((∃ fs, f a2 = some (xO 1 fs)) ∧ xSp xT0 d j_By_at [.ref a2, .int x5] f (fun w3 f4 => xvi w3 (fun v5 => (∃ fs, f4 a0 = some (xO 6 fs)) ∧ xSp xT0 d j_We_lengthenRuns [.ref a0, .ref a1, .int v5] f4 (fun w6 f7 => xvi w6 (fun v8 => (∃ fs, f7 a0 = some (xO 6 fs)) ∧ xSp xT0 d j_We_choose [.ref a0, .int x5, .int (if (x4 - x5) < v8 then (x4 - x5) else v8)] f7 (fun w9 f10 => xvv w9 (xWp (xT0, xSp xT0 d, none, m_We_weave, E) 49 [some (.ref a0), some (.ref a1), some (.ref a2), some (.ref a3), some (.int x4), some (.int (x5 + (-1))), some (.int v8)] [] f10 0 0)))))))
theorem b_We_weave_49 {d : Nat} {E : Option Value → xH → Prop} {f : xH} {a0 : Nat} {a1 : Nat} {a2 : Nat} {a3 : Nat} {x4 : Int32} {x5 : Int32} {u6 : Option Value} (h : B_We_weave_49 d E f a0 a1 a2 a3 x4 x5 u6) : xWp (xT0, xSp xT0 d, none, m_We_weave, E) 49 [some (.ref a0), some (.ref a1), some (.ref a2), some (.ref a3), some (.int x4), some (.int x5), u6] [] f 0 0 := by
  unfold B_We_weave_49 at h
  refine s_il l_We_weave_49 rfl ?_
  refine s_if l_We_weave_51 h (fun h => ?_) (fun h => ?_)
  · refine s_aln l_We_weave_89 rfl ?_
    refine s_aln l_We_weave_90 rfl ?_
    refine s_il l_We_weave_91 rfl ?_
    refine s_aln l_We_weave_93 rfl ?_
    refine s_cvv (As := [.ref a2, .int x4, .ref a3]) (r := []) l_We_weave_94 rfl ⟨rfl, rfl⟩ rfl (Nat.le_of_ble_eq_true rfl) rfl ⟨Nat.zero_le _, Nat.zero_le _⟩ h (fun f2 h => ?_)
    exact s_ret l_We_weave_97 ⟨Nat.zero_le _, Nat.zero_le _⟩ h
  · refine s_aln l_We_weave_54 rfl ?_
    refine s_aln l_We_weave_55 rfl ?_
    refine s_aln l_We_weave_56 rfl ?_
    refine s_il l_We_weave_57 rfl ?_
    refine s_cvi (As := [.int x5]) (r := [.ref a1, .ref a0]) l_We_weave_59 rfl ⟨rfl, rfl⟩ rfl (Nat.le_of_ble_eq_true rfl) rfl ⟨Nat.zero_le _, Nat.zero_le _⟩ h (fun v5 f4 h => ?_)
    refine s_cvi (As := [.ref a1, .int v5]) (r := []) l_We_weave_62 rfl ⟨rfl, rfl⟩ rfl (Nat.le_of_ble_eq_true rfl) rfl ⟨Nat.zero_le _, Nat.zero_le _⟩ h (fun v8 f7 h => ?_)
    refine s_is l_We_weave_65 (Nat.le_of_ble_eq_true rfl) ?_
    refine s_aln l_We_weave_67 rfl ?_
    refine s_il l_We_weave_68 rfl ?_
    refine s_il l_We_weave_70 rfl ?_
    refine s_il l_We_weave_72 rfl ?_
    refine s_il l_We_weave_74 rfl ?_
    refine s_isub l_We_weave_76 ?_
    refine s_min l_We_weave_77 (Nat.le_of_ble_eq_true rfl) ⟨Nat.zero_le _, Nat.zero_le _⟩ ?_
    refine s_cvv (As := [.int x5, .int (if (x4 - x5) < v8 then (x4 - x5) else v8)]) (r := []) l_We_weave_80 rfl ⟨rfl, rfl⟩ rfl (Nat.le_of_ble_eq_true rfl) rfl ⟨Nat.zero_le _, Nat.zero_le _⟩ h (fun f10 h => ?_)
    refine s_inc (-1) l_We_weave_83 rfl rfl ?_
    refine s_goto l_We_weave_86 ?_
    exact h
theorem l_We_lengthenRuns_0 : xlk (xm_cd m_We_lengthenRuns) 0 = some (.iconst 0, 1, (0, 0, 0, [])) := rfl
theorem l_We_lengthenRuns_1 : xlk (xm_cd m_We_lengthenRuns) 1 = some (.istore_n 3, 1, (0, 0, 0, [])) := rfl
theorem l_We_lengthenRuns_2 : xlk (xm_cd m_We_lengthenRuns) 2 = some (.aload_n 1, 1, (0, 0, 0, [])) := rfl
theorem l_We_lengthenRuns_3 : xlk (xm_cd m_We_lengthenRuns) 3 = some (.invokevirtual 24, 3, (486, 12, 0, [])) := rfl
theorem l_We_lengthenRuns_6 : xlk (xm_cd m_We_lengthenRuns) 6 = some (.bipush 48, 2, (0, 0, 0, [])) := rfl
theorem l_We_lengthenRuns_8 : xlk (xm_cd m_We_lengthenRuns) 8 = some (.invokestatic 30, 3, (487, 0, 0, [(2, 0)])) := rfl
theorem l_We_lengthenRuns_11 : xlk (xm_cd m_We_lengthenRuns) 11 = some (.istore 4, 2, (0, 0, 0, [])) := rfl
theorem l_We_lengthenRuns_13 : xlk (xm_cd m_We_lengthenRuns) 13 = some (.iconst 0, 1, (0, 0, 0, [])) := rfl
theorem l_We_lengthenRuns_14 : xlk (xm_cd m_We_lengthenRuns) 14 = some (.istore 5, 2, (0, 0, 0, [])) := rfl
theorem l_We_lengthenRuns_16 : xlk (xm_cd m_We_lengthenRuns) 16 = some (.iload 5, 2, (0, 0, 0, [])) := rfl
theorem l_We_lengthenRuns_18 : xlk (xm_cd m_We_lengthenRuns) 18 = some (.iload 4, 2, (0, 0, 0, [])) := rfl
theorem l_We_lengthenRuns_20 : xlk (xm_cd m_We_lengthenRuns) 20 = some (.if_icmp .ge 53, 3, (0, 73, 0, [])) := rfl
theorem l_We_lengthenRuns_23 : xlk (xm_cd m_We_lengthenRuns) 23 = some (.aload_n 0, 1, (0, 0, 0, [])) := rfl
theorem l_We_lengthenRuns_24 : xlk (xm_cd m_We_lengthenRuns) 24 = some (.getfield 9, 3, (185, 6, 0, [])) := rfl
theorem l_We_lengthenRuns_27 : xlk (xm_cd m_We_lengthenRuns) 27 = some (.iload 5, 2, (0, 0, 0, [])) := rfl
theorem l_We_lengthenRuns_29 : xlk (xm_cd m_We_lengthenRuns) 29 = some (.aload_n 1, 1, (0, 0, 0, [])) := rfl
theorem l_We_lengthenRuns_30 : xlk (xm_cd m_We_lengthenRuns) 30 = some (.iload 5, 2, (0, 0, 0, [])) := rfl
theorem l_We_lengthenRuns_32 : xlk (xm_cd m_We_lengthenRuns) 32 = some (.invokevirtual 36, 3, (488, 43, 1, [])) := rfl
theorem l_We_lengthenRuns_35 : xlk (xm_cd m_We_lengthenRuns) 35 = some (.iload_n 2, 1, (0, 0, 0, [])) := rfl
theorem l_We_lengthenRuns_36 : xlk (xm_cd m_We_lengthenRuns) 36 = some (.if_icmp .ne 17, 3, (0, 53, 0, [])) := rfl
theorem l_We_lengthenRuns_39 : xlk (xm_cd m_We_lengthenRuns) 39 = some (.aload_n 0, 1, (0, 0, 0, [])) := rfl
theorem l_We_lengthenRuns_40 : xlk (xm_cd m_We_lengthenRuns) 40 = some (.getfield 9, 3, (185, 6, 0, [])) := rfl
theorem l_We_lengthenRuns_43 : xlk (xm_cd m_We_lengthenRuns) 43 = some (.iload 5, 2, (0, 0, 0, [])) := rfl
theorem l_We_lengthenRuns_45 : xlk (xm_cd m_We_lengthenRuns) 45 = some (.iconst 1, 1, (0, 0, 0, [])) := rfl
theorem l_We_lengthenRuns_46 : xlk (xm_cd m_We_lengthenRuns) 46 = some (.iadd, 1, (0, 0, 0, [])) := rfl
theorem l_We_lengthenRuns_47 : xlk (xm_cd m_We_lengthenRuns) 47 = some (.iaload, 1, (0, 0, 0, [])) := rfl
theorem l_We_lengthenRuns_48 : xlk (xm_cd m_We_lengthenRuns) 48 = some (.iconst 1, 1, (0, 0, 0, [])) := rfl
theorem l_We_lengthenRuns_49 : xlk (xm_cd m_We_lengthenRuns) 49 = some (.iadd, 1, (0, 0, 0, [])) := rfl
theorem l_We_lengthenRuns_50 : xlk (xm_cd m_We_lengthenRuns) 50 = some (.goto 4, 3, (0, 54, 0, [])) := rfl
theorem l_We_lengthenRuns_53 : xlk (xm_cd m_We_lengthenRuns) 53 = some (.iconst 0, 1, (0, 0, 0, [])) := rfl
theorem l_We_lengthenRuns_54 : xlk (xm_cd m_We_lengthenRuns) 54 = some (.iastore, 1, (0, 0, 0, [])) := rfl
theorem l_We_lengthenRuns_55 : xlk (xm_cd m_We_lengthenRuns) 55 = some (.iload_n 3, 1, (0, 0, 0, [])) := rfl
theorem l_We_lengthenRuns_56 : xlk (xm_cd m_We_lengthenRuns) 56 = some (.aload_n 0, 1, (0, 0, 0, [])) := rfl
theorem l_We_lengthenRuns_57 : xlk (xm_cd m_We_lengthenRuns) 57 = some (.getfield 9, 3, (185, 6, 0, [])) := rfl
theorem l_We_lengthenRuns_60 : xlk (xm_cd m_We_lengthenRuns) 60 = some (.iload 5, 2, (0, 0, 0, [])) := rfl
theorem l_We_lengthenRuns_62 : xlk (xm_cd m_We_lengthenRuns) 62 = some (.iaload, 1, (0, 0, 0, [])) := rfl
theorem l_We_lengthenRuns_63 : xlk (xm_cd m_We_lengthenRuns) 63 = some (.invokestatic 52, 3, (492, 0, 0, [(2, 1)])) := rfl
theorem l_We_lengthenRuns_66 : xlk (xm_cd m_We_lengthenRuns) 66 = some (.istore_n 3, 1, (0, 0, 0, [])) := rfl
theorem l_We_lengthenRuns_67 : xlk (xm_cd m_We_lengthenRuns) 67 = some (.iinc 5 1, 3, (0, 0, 0, [])) := rfl
theorem l_We_lengthenRuns_70 : xlk (xm_cd m_We_lengthenRuns) 70 = some (.goto (-54), 3, (0, 16, 0, [])) := rfl
theorem l_We_lengthenRuns_73 : xlk (xm_cd m_We_lengthenRuns) 73 = some (.iload_n 3, 1, (0, 0, 0, [])) := rfl
theorem l_We_lengthenRuns_74 : xlk (xm_cd m_We_lengthenRuns) 74 = some (.ireturn, 1, (0, 0, 0, [])) := rfl
def B_We_lengthenRuns_0 (d : Nat) (E : Option Value → xH → Prop) (f : xH) (a0 : Nat) (a1 : Nat) (x2 : Int32) : Prop :=
  (∃ fs, f a1 = some (xO 1 fs)) ∧ xSp xT0 d j_By_size [.ref a1] f (fun w1 f2 => xvi w1 (fun v3 => xWp (xT0, xSp xT0 d, none, m_We_lengthenRuns, E) 16 [some (.ref a0), some (.ref a1), some (.int x2), some (.int 0), some (.int (if (48 : Int32) < v3 then 48 else v3)), some (.int 0)] [] f2 0 0))
theorem b_We_lengthenRuns_0 {d : Nat} {E : Option Value → xH → Prop} {f : xH} {a0 : Nat} {a1 : Nat} {x2 : Int32} (h : B_We_lengthenRuns_0 d E f a0 a1 x2) : xWp (xT0, xSp xT0 d, none, m_We_lengthenRuns, E) 0 [some (.ref a0), some (.ref a1), some (.int x2), none, none, none] [] f 0 0 := by
  unfold B_We_lengthenRuns_0 at h
  refine s_ic 0 l_We_lengthenRuns_0 rfl ?_
  refine s_isn l_We_lengthenRuns_1 (Nat.le_of_ble_eq_true rfl) ?_
  refine s_aln l_We_lengthenRuns_2 rfl ?_
  refine s_cvi (As := []) (r := []) l_We_lengthenRuns_3 rfl ⟨rfl, rfl⟩ rfl (Nat.le_of_ble_eq_true rfl) rfl ⟨Nat.zero_le _, Nat.zero_le _⟩ h (fun v3 f2 h => ?_)
  refine s_bp 48 l_We_lengthenRuns_6 rfl ?_
  refine s_min l_We_lengthenRuns_8 (Nat.le_of_ble_eq_true rfl) ⟨Nat.zero_le _, Nat.zero_le _⟩ ?_
  refine s_is l_We_lengthenRuns_11 (Nat.le_of_ble_eq_true rfl) ?_
  refine s_ic 0 l_We_lengthenRuns_13 rfl ?_
  refine s_is l_We_lengthenRuns_14 (Nat.le_of_ble_eq_true rfl) ?_
  exact h
def B_We_lengthenRuns_16 (d : Nat) (E : Option Value → xH → Prop) (f : xH) (a0 : Nat) (a1 : Nat) (x2 : Int32) (x3 : Int32) (x4 : Int32) (x5 : Int32) : Prop :=
  xbr (x4 ≤ x5) (E (some (.int x3)) f) (xgr f a0 6 0 (fun r1 => (∃ fs, f a1 = some (xO 1 fs)) ∧ xSp xT0 d j_By_at [.ref a1, .int x5] f (fun w2 f3 => xvi w2 (fun v4 => xbr (¬ v4 = x2) (xWp (xT0, xSp xT0 d, none, m_We_lengthenRuns, E) 54 [some (.ref a0), some (.ref a1), some (.int x2), some (.int x3), some (.int x4), some (.int x5)] [.int 0, .int x5, .ref r1] f3 0 0) (xgr f3 a0 6 0 (fun r5 => xal f3 r5 0 (x5 + 1) (fun v6 => xWp (xT0, xSp xT0 d, none, m_We_lengthenRuns, E) 54 [some (.ref a0), some (.ref a1), some (.int x2), some (.int x3), some (.int x4), some (.int x5)] [.int (v6 + 1), .int x5, .ref r1] f3 0 0)))))))
theorem b_We_lengthenRuns_16 {d : Nat} {E : Option Value → xH → Prop} {f : xH} {a0 : Nat} {a1 : Nat} {x2 : Int32} {x3 : Int32} {x4 : Int32} {x5 : Int32} (h : B_We_lengthenRuns_16 d E f a0 a1 x2 x3 x4 x5) : xWp (xT0, xSp xT0 d, none, m_We_lengthenRuns, E) 16 [some (.ref a0), some (.ref a1), some (.int x2), some (.int x3), some (.int x4), some (.int x5)] [] f 0 0 := by
  unfold B_We_lengthenRuns_16 at h
  refine s_il l_We_lengthenRuns_16 rfl ?_
  refine s_il l_We_lengthenRuns_18 rfl ?_
  refine s_ifc l_We_lengthenRuns_20 h (fun h => ?_) (fun h => ?_)
  · refine s_iln l_We_lengthenRuns_73 rfl ?_
    exact s_iret l_We_lengthenRuns_74 rfl ⟨Nat.zero_le _, Nat.zero_le _⟩ h
  · refine s_aln l_We_lengthenRuns_23 rfl ?_
    refine s_gr l_We_lengthenRuns_24 h (fun r1 h => ?_)
    refine s_il l_We_lengthenRuns_27 rfl ?_
    refine s_aln l_We_lengthenRuns_29 rfl ?_
    refine s_il l_We_lengthenRuns_30 rfl ?_
    refine s_cvi (As := [.int x5]) (r := [.int x5, .ref r1]) l_We_lengthenRuns_32 rfl ⟨rfl, rfl⟩ rfl (Nat.le_of_ble_eq_true rfl) rfl ⟨Nat.zero_le _, Nat.zero_le _⟩ h (fun v4 f3 h => ?_)
    refine s_iln l_We_lengthenRuns_35 rfl ?_
    refine s_ifc l_We_lengthenRuns_36 h (fun h => ?_) (fun h => ?_)
    · refine s_ic 0 l_We_lengthenRuns_53 rfl ?_
      exact h
    · refine s_aln l_We_lengthenRuns_39 rfl ?_
      refine s_gr l_We_lengthenRuns_40 h (fun r5 h => ?_)
      refine s_il l_We_lengthenRuns_43 rfl ?_
      refine s_ic 1 l_We_lengthenRuns_45 rfl ?_
      refine s_iadd l_We_lengthenRuns_46 ?_
      refine s_ial l_We_lengthenRuns_47 rfl h (fun v6 h => ?_)
      refine s_ic 1 l_We_lengthenRuns_48 rfl ?_
      refine s_iadd l_We_lengthenRuns_49 ?_
      refine s_goto l_We_lengthenRuns_50 ?_
      exact h
def B_We_lengthenRuns_54 (d : Nat) (E : Option Value → xH → Prop) (f : xH) (a0 : Nat) (a1 : Nat) (x2 : Int32) (x3 : Int32) (x4 : Int32) (x5 : Int32) (s0 : Int32) (s1 : Int32) (s2 : Nat) : Prop :=
  xas f s2 0 s1 s0 (fun f1 => xgr f1 a0 6 0 (fun r2 => xal f1 r2 0 x5 (fun v3 => xWp (xT0, xSp xT0 d, none, m_We_lengthenRuns, E) 16 [some (.ref a0), some (.ref a1), some (.int x2), some (.int (if x3 < v3 then v3 else x3)), some (.int x4), some (.int (x5 + 1))] [] f1 0 0)))
theorem b_We_lengthenRuns_54 {d : Nat} {E : Option Value → xH → Prop} {f : xH} {a0 : Nat} {a1 : Nat} {x2 : Int32} {x3 : Int32} {x4 : Int32} {x5 : Int32} {s0 : Int32} {s1 : Int32} {s2 : Nat} (h : B_We_lengthenRuns_54 d E f a0 a1 x2 x3 x4 x5 s0 s1 s2) : xWp (xT0, xSp xT0 d, none, m_We_lengthenRuns, E) 54 [some (.ref a0), some (.ref a1), some (.int x2), some (.int x3), some (.int x4), some (.int x5)] [.int s0, .int s1, .ref s2] f 0 0 := by
  unfold B_We_lengthenRuns_54 at h
  refine s_iast l_We_lengthenRuns_54 h (fun f1 h => ?_)
  refine s_iln l_We_lengthenRuns_55 rfl ?_
  refine s_aln l_We_lengthenRuns_56 rfl ?_
  refine s_gr l_We_lengthenRuns_57 h (fun r2 h => ?_)
  refine s_il l_We_lengthenRuns_60 rfl ?_
  refine s_ial l_We_lengthenRuns_62 rfl h (fun v3 h => ?_)
  refine s_max l_We_lengthenRuns_63 (Nat.le_of_ble_eq_true rfl) ⟨Nat.zero_le _, Nat.zero_le _⟩ ?_
  refine s_isn l_We_lengthenRuns_66 (Nat.le_of_ble_eq_true rfl) ?_
  refine s_inc 1 l_We_lengthenRuns_67 rfl rfl ?_
  refine s_goto l_We_lengthenRuns_70 ?_
  exact h
theorem l_We_choose_0 : xlk (xm_cd m_We_choose) 0 = some (.aload_n 0, 1, (0, 0, 0, [])) := rfl
theorem l_We_choose_1 : xlk (xm_cd m_We_choose) 1 = some (.getfield 15, 3, (186, 6, 1, [])) := rfl
theorem l_We_choose_4 : xlk (xm_cd m_We_choose) 4 = some (.iload_n 1, 1, (0, 0, 0, [])) := rfl
theorem l_We_choose_5 : xlk (xm_cd m_We_choose) 5 = some (.iconst 2, 1, (0, 0, 0, [])) := rfl
theorem l_We_choose_6 : xlk (xm_cd m_We_choose) 6 = some (.aload_n 0, 1, (0, 0, 0, [])) := rfl
theorem l_We_choose_7 : xlk (xm_cd m_We_choose) 7 = some (.getfield 15, 3, (186, 6, 1, [])) := rfl
theorem l_We_choose_10 : xlk (xm_cd m_We_choose) 10 = some (.iload_n 1, 1, (0, 0, 0, [])) := rfl
theorem l_We_choose_11 : xlk (xm_cd m_We_choose) 11 = some (.iconst 1, 1, (0, 0, 0, [])) := rfl
theorem l_We_choose_12 : xlk (xm_cd m_We_choose) 12 = some (.iadd, 1, (0, 0, 0, [])) := rfl
theorem l_We_choose_13 : xlk (xm_cd m_We_choose) 13 = some (.iaload, 1, (0, 0, 0, [])) := rfl
theorem l_We_choose_14 : xlk (xm_cd m_We_choose) 14 = some (.iadd, 1, (0, 0, 0, [])) := rfl
theorem l_We_choose_15 : xlk (xm_cd m_We_choose) 15 = some (.iastore, 1, (0, 0, 0, [])) := rfl
theorem l_We_choose_16 : xlk (xm_cd m_We_choose) 16 = some (.aload_n 0, 1, (0, 0, 0, [])) := rfl
theorem l_We_choose_17 : xlk (xm_cd m_We_choose) 17 = some (.getfield 18, 3, (187, 6, 2, [])) := rfl
theorem l_We_choose_20 : xlk (xm_cd m_We_choose) 20 = some (.iload_n 1, 1, (0, 0, 0, [])) := rfl
theorem l_We_choose_21 : xlk (xm_cd m_We_choose) 21 = some (.iconst 0, 1, (0, 0, 0, [])) := rfl
theorem l_We_choose_22 : xlk (xm_cd m_We_choose) 22 = some (.iastore, 1, (0, 0, 0, [])) := rfl
theorem l_We_choose_23 : xlk (xm_cd m_We_choose) 23 = some (.aload_n 0, 1, (0, 0, 0, [])) := rfl
theorem l_We_choose_24 : xlk (xm_cd m_We_choose) 24 = some (.getfield 21, 3, (188, 6, 3, [])) := rfl
theorem l_We_choose_27 : xlk (xm_cd m_We_choose) 27 = some (.iload_n 1, 1, (0, 0, 0, [])) := rfl
theorem l_We_choose_28 : xlk (xm_cd m_We_choose) 28 = some (.iconst 0, 1, (0, 0, 0, [])) := rfl
theorem l_We_choose_29 : xlk (xm_cd m_We_choose) 29 = some (.iastore, 1, (0, 0, 0, [])) := rfl
theorem l_We_choose_30 : xlk (xm_cd m_We_choose) 30 = some (.iconst 1, 1, (0, 0, 0, [])) := rfl
theorem l_We_choose_31 : xlk (xm_cd m_We_choose) 31 = some (.istore_n 3, 1, (0, 0, 0, [])) := rfl
theorem l_We_choose_32 : xlk (xm_cd m_We_choose) 32 = some (.iload_n 3, 1, (0, 0, 0, [])) := rfl
theorem l_We_choose_33 : xlk (xm_cd m_We_choose) 33 = some (.iload_n 2, 1, (0, 0, 0, [])) := rfl
theorem l_We_choose_34 : xlk (xm_cd m_We_choose) 34 = some (.if_icmp .gt 47, 3, (0, 81, 0, [])) := rfl
theorem l_We_choose_37 : xlk (xm_cd m_We_choose) 37 = some (.iconst 5, 1, (0, 0, 0, [])) := rfl
theorem l_We_choose_38 : xlk (xm_cd m_We_choose) 38 = some (.aload_n 0, 1, (0, 0, 0, [])) := rfl
theorem l_We_choose_39 : xlk (xm_cd m_We_choose) 39 = some (.getfield 15, 3, (186, 6, 1, [])) := rfl
theorem l_We_choose_42 : xlk (xm_cd m_We_choose) 42 = some (.iload_n 1, 1, (0, 0, 0, [])) := rfl
theorem l_We_choose_43 : xlk (xm_cd m_We_choose) 43 = some (.iload_n 3, 1, (0, 0, 0, [])) := rfl
theorem l_We_choose_44 : xlk (xm_cd m_We_choose) 44 = some (.iadd, 1, (0, 0, 0, [])) := rfl
theorem l_We_choose_45 : xlk (xm_cd m_We_choose) 45 = some (.iaload, 1, (0, 0, 0, [])) := rfl
theorem l_We_choose_46 : xlk (xm_cd m_We_choose) 46 = some (.iadd, 1, (0, 0, 0, [])) := rfl
theorem l_We_choose_47 : xlk (xm_cd m_We_choose) 47 = some (.istore 4, 2, (0, 0, 0, [])) := rfl
theorem l_We_choose_49 : xlk (xm_cd m_We_choose) 49 = some (.iload 4, 2, (0, 0, 0, [])) := rfl
theorem l_We_choose_51 : xlk (xm_cd m_We_choose) 51 = some (.aload_n 0, 1, (0, 0, 0, [])) := rfl
theorem l_We_choose_52 : xlk (xm_cd m_We_choose) 52 = some (.getfield 15, 3, (186, 6, 1, [])) := rfl
theorem l_We_choose_55 : xlk (xm_cd m_We_choose) 55 = some (.iload_n 1, 1, (0, 0, 0, [])) := rfl
theorem l_We_choose_56 : xlk (xm_cd m_We_choose) 56 = some (.iaload, 1, (0, 0, 0, [])) := rfl
theorem l_We_choose_57 : xlk (xm_cd m_We_choose) 57 = some (.if_icmp .gt 18, 3, (0, 75, 0, [])) := rfl
theorem l_We_choose_60 : xlk (xm_cd m_We_choose) 60 = some (.aload_n 0, 1, (0, 0, 0, [])) := rfl
theorem l_We_choose_61 : xlk (xm_cd m_We_choose) 61 = some (.getfield 15, 3, (186, 6, 1, [])) := rfl
theorem l_We_choose_64 : xlk (xm_cd m_We_choose) 64 = some (.iload_n 1, 1, (0, 0, 0, [])) := rfl
theorem l_We_choose_65 : xlk (xm_cd m_We_choose) 65 = some (.iload 4, 2, (0, 0, 0, [])) := rfl
theorem l_We_choose_67 : xlk (xm_cd m_We_choose) 67 = some (.iastore, 1, (0, 0, 0, [])) := rfl
theorem l_We_choose_68 : xlk (xm_cd m_We_choose) 68 = some (.aload_n 0, 1, (0, 0, 0, [])) := rfl
theorem l_We_choose_69 : xlk (xm_cd m_We_choose) 69 = some (.getfield 18, 3, (187, 6, 2, [])) := rfl
theorem l_We_choose_72 : xlk (xm_cd m_We_choose) 72 = some (.iload_n 1, 1, (0, 0, 0, [])) := rfl
theorem l_We_choose_73 : xlk (xm_cd m_We_choose) 73 = some (.iload_n 3, 1, (0, 0, 0, [])) := rfl
theorem l_We_choose_74 : xlk (xm_cd m_We_choose) 74 = some (.iastore, 1, (0, 0, 0, [])) := rfl
theorem l_We_choose_75 : xlk (xm_cd m_We_choose) 75 = some (.iinc 3 1, 3, (0, 0, 0, [])) := rfl
theorem l_We_choose_78 : xlk (xm_cd m_We_choose) 78 = some (.goto (-46), 3, (0, 32, 0, [])) := rfl
theorem l_We_choose_81 : xlk (xm_cd m_We_choose) 81 = some (.aload_n 0, 1, (0, 0, 0, [])) := rfl
theorem l_We_choose_82 : xlk (xm_cd m_We_choose) 82 = some (.getfield 18, 3, (187, 6, 2, [])) := rfl
theorem l_We_choose_85 : xlk (xm_cd m_We_choose) 85 = some (.iload_n 1, 1, (0, 0, 0, [])) := rfl
theorem l_We_choose_86 : xlk (xm_cd m_We_choose) 86 = some (.iaload, 1, (0, 0, 0, [])) := rfl
theorem l_We_choose_87 : xlk (xm_cd m_We_choose) 87 = some (.ifCond .le 19, 3, (0, 106, 0, [])) := rfl
theorem l_We_choose_90 : xlk (xm_cd m_We_choose) 90 = some (.aload_n 0, 1, (0, 0, 0, [])) := rfl
theorem l_We_choose_91 : xlk (xm_cd m_We_choose) 91 = some (.getfield 21, 3, (188, 6, 3, [])) := rfl
theorem l_We_choose_94 : xlk (xm_cd m_We_choose) 94 = some (.iload_n 1, 1, (0, 0, 0, [])) := rfl
theorem l_We_choose_95 : xlk (xm_cd m_We_choose) 95 = some (.aload_n 0, 1, (0, 0, 0, [])) := rfl
theorem l_We_choose_96 : xlk (xm_cd m_We_choose) 96 = some (.aload_n 0, 1, (0, 0, 0, [])) := rfl
theorem l_We_choose_97 : xlk (xm_cd m_We_choose) 97 = some (.getfield 18, 3, (187, 6, 2, [])) := rfl
theorem l_We_choose_100 : xlk (xm_cd m_We_choose) 100 = some (.iload_n 1, 1, (0, 0, 0, [])) := rfl
theorem l_We_choose_101 : xlk (xm_cd m_We_choose) 101 = some (.iaload, 1, (0, 0, 0, [])) := rfl
theorem l_We_choose_102 : xlk (xm_cd m_We_choose) 102 = some (.invokevirtual 55, 3, (496, 62, 1, [])) := rfl
theorem l_We_choose_105 : xlk (xm_cd m_We_choose) 105 = some (.iastore, 1, (0, 0, 0, [])) := rfl
theorem l_We_choose_106 : xlk (xm_cd m_We_choose) 106 = some (.return_, 1, (0, 0, 0, [])) := rfl
def B_We_choose_0 (d : Nat) (E : Option Value → xH → Prop) (f : xH) (a0 : Nat) (x1 : Int32) (x2 : Int32) : Prop :=
  xgr f a0 6 1 (fun r1 => xgr f a0 6 1 (fun r2 => xal f r2 0 (x1 + 1) (fun v3 => xas f r1 0 x1 (2 + v3) (fun f4 => xgr f4 a0 6 2 (fun r5 => xas f4 r5 0 x1 0 (fun f6 => xgr f6 a0 6 3 (fun r7 => xas f6 r7 0 x1 0 (fun f8 => xWp (xT0, xSp xT0 d, none, m_We_choose, E) 32 [some (.ref a0), some (.int x1), some (.int x2), some (.int 1), none] [] f8 0 0))))))))
theorem b_We_choose_0 {d : Nat} {E : Option Value → xH → Prop} {f : xH} {a0 : Nat} {x1 : Int32} {x2 : Int32} (h : B_We_choose_0 d E f a0 x1 x2) : xWp (xT0, xSp xT0 d, none, m_We_choose, E) 0 [some (.ref a0), some (.int x1), some (.int x2), none, none] [] f 0 0 := by
  unfold B_We_choose_0 at h
  refine s_aln l_We_choose_0 rfl ?_
  refine s_gr l_We_choose_1 h (fun r1 h => ?_)
  refine s_iln l_We_choose_4 rfl ?_
  refine s_ic 2 l_We_choose_5 rfl ?_
  refine s_aln l_We_choose_6 rfl ?_
  refine s_gr l_We_choose_7 h (fun r2 h => ?_)
  refine s_iln l_We_choose_10 rfl ?_
  refine s_ic 1 l_We_choose_11 rfl ?_
  refine s_iadd l_We_choose_12 ?_
  refine s_ial l_We_choose_13 rfl h (fun v3 h => ?_)
  refine s_iadd l_We_choose_14 ?_
  refine s_iast l_We_choose_15 h (fun f4 h => ?_)
  refine s_aln l_We_choose_16 rfl ?_
  refine s_gr l_We_choose_17 h (fun r5 h => ?_)
  refine s_iln l_We_choose_20 rfl ?_
  refine s_ic 0 l_We_choose_21 rfl ?_
  refine s_iast l_We_choose_22 h (fun f6 h => ?_)
  refine s_aln l_We_choose_23 rfl ?_
  refine s_gr l_We_choose_24 h (fun r7 h => ?_)
  refine s_iln l_We_choose_27 rfl ?_
  refine s_ic 0 l_We_choose_28 rfl ?_
  refine s_iast l_We_choose_29 h (fun f8 h => ?_)
  refine s_ic 1 l_We_choose_30 rfl ?_
  refine s_isn l_We_choose_31 (Nat.le_of_ble_eq_true rfl) ?_
  exact h
def B_We_choose_32 (d : Nat) (E : Option Value → xH → Prop) (f : xH) (a0 : Nat) (x1 : Int32) (x2 : Int32) (x3 : Int32) (u4 : Option Value) : Prop :=
  xbr (x2 < x3) (xgr f a0 6 2 (fun r1 => xal f r1 0 x1 (fun v2 => xbr (v2 ≤ 0) (E none f) (xgr f a0 6 3 (fun r3 => xgr f a0 6 2 (fun r4 => xal f r4 0 x1 (fun v5 => (∃ fs, f a0 = some (xO 6 fs)) ∧ xSp xT0 d j_We_leastPlace [.ref a0, .int v5] f (fun w6 f7 => xvi w6 (fun v8 => xas f7 r3 0 x1 v8 (fun f9 => E none f9)))))))))) (xgr f a0 6 1 (fun r10 => xal f r10 0 (x1 + x3) (fun v11 => xgr f a0 6 1 (fun r12 => xal f r12 0 x1 (fun v13 => xbr (v13 < (5 + v11)) (xWp (xT0, xSp xT0 d, none, m_We_choose, E) 32 [some (.ref a0), some (.int x1), some (.int x2), some (.int (x3 + 1)), some (.int (5 + v11))] [] f 0 0) (xgr f a0 6 1 (fun r14 => xas f r14 0 x1 (5 + v11) (fun f15 => xgr f15 a0 6 2 (fun r16 => xas f15 r16 0 x1 x3 (fun f17 => xWp (xT0, xSp xT0 d, none, m_We_choose, E) 32 [some (.ref a0), some (.int x1), some (.int x2), some (.int (x3 + 1)), some (.int (5 + v11))] [] f17 0 0))))))))))
theorem b_We_choose_32 {d : Nat} {E : Option Value → xH → Prop} {f : xH} {a0 : Nat} {x1 : Int32} {x2 : Int32} {x3 : Int32} {u4 : Option Value} (h : B_We_choose_32 d E f a0 x1 x2 x3 u4) : xWp (xT0, xSp xT0 d, none, m_We_choose, E) 32 [some (.ref a0), some (.int x1), some (.int x2), some (.int x3), u4] [] f 0 0 := by
  unfold B_We_choose_32 at h
  refine s_iln l_We_choose_32 rfl ?_
  refine s_iln l_We_choose_33 rfl ?_
  refine s_ifc l_We_choose_34 h (fun h => ?_) (fun h => ?_)
  · refine s_aln l_We_choose_81 rfl ?_
    refine s_gr l_We_choose_82 h (fun r1 h => ?_)
    refine s_iln l_We_choose_85 rfl ?_
    refine s_ial l_We_choose_86 rfl h (fun v2 h => ?_)
    refine s_if l_We_choose_87 h (fun h => ?_) (fun h => ?_)
    · exact s_ret l_We_choose_106 ⟨Nat.zero_le _, Nat.zero_le _⟩ h
    · refine s_aln l_We_choose_90 rfl ?_
      refine s_gr l_We_choose_91 h (fun r3 h => ?_)
      refine s_iln l_We_choose_94 rfl ?_
      refine s_aln l_We_choose_95 rfl ?_
      refine s_aln l_We_choose_96 rfl ?_
      refine s_gr l_We_choose_97 h (fun r4 h => ?_)
      refine s_iln l_We_choose_100 rfl ?_
      refine s_ial l_We_choose_101 rfl h (fun v5 h => ?_)
      refine s_cvi (As := [.int v5]) (r := [.int x1, .ref r3]) l_We_choose_102 rfl ⟨rfl, rfl⟩ rfl (Nat.le_of_ble_eq_true rfl) rfl ⟨Nat.zero_le _, Nat.zero_le _⟩ h (fun v8 f7 h => ?_)
      refine s_iast l_We_choose_105 h (fun f9 h => ?_)
      exact s_ret l_We_choose_106 ⟨Nat.zero_le _, Nat.zero_le _⟩ h
  · refine s_ic 5 l_We_choose_37 rfl ?_
    refine s_aln l_We_choose_38 rfl ?_
    refine s_gr l_We_choose_39 h (fun r10 h => ?_)
    refine s_iln l_We_choose_42 rfl ?_
    refine s_iln l_We_choose_43 rfl ?_
    refine s_iadd l_We_choose_44 ?_
    refine s_ial l_We_choose_45 rfl h (fun v11 h => ?_)
    refine s_iadd l_We_choose_46 ?_
    refine s_is l_We_choose_47 (Nat.le_of_ble_eq_true rfl) ?_
    refine s_il l_We_choose_49 rfl ?_
    refine s_aln l_We_choose_51 rfl ?_
    refine s_gr l_We_choose_52 h (fun r12 h => ?_)
    refine s_iln l_We_choose_55 rfl ?_
    refine s_ial l_We_choose_56 rfl h (fun v13 h => ?_)
    refine s_ifc l_We_choose_57 h (fun h => ?_) (fun h => ?_)
    · refine s_inc 1 l_We_choose_75 rfl rfl ?_
      refine s_goto l_We_choose_78 ?_
      exact h
    · refine s_aln l_We_choose_60 rfl ?_
      refine s_gr l_We_choose_61 h (fun r14 h => ?_)
      refine s_iln l_We_choose_64 rfl ?_
      refine s_il l_We_choose_65 rfl ?_
      refine s_iast l_We_choose_67 h (fun f15 h => ?_)
      refine s_aln l_We_choose_68 rfl ?_
      refine s_gr l_We_choose_69 h (fun r16 h => ?_)
      refine s_iln l_We_choose_72 rfl ?_
      refine s_iln l_We_choose_73 rfl ?_
      refine s_iast l_We_choose_74 h (fun f17 h => ?_)
      refine s_inc 1 l_We_choose_75 rfl rfl ?_
      refine s_goto l_We_choose_78 ?_
      exact h
theorem l_We_leastPlace_0 : xlk (xm_cd m_We_leastPlace) 0 = some (.iconst 0, 1, (0, 0, 0, [])) := rfl
theorem l_We_leastPlace_1 : xlk (xm_cd m_We_leastPlace) 1 = some (.istore_n 2, 1, (0, 0, 0, [])) := rfl
theorem l_We_leastPlace_2 : xlk (xm_cd m_We_leastPlace) 2 = some (.iload_n 2, 1, (0, 0, 0, [])) := rfl
theorem l_We_leastPlace_3 : xlk (xm_cd m_We_leastPlace) 3 = some (.bipush 48, 2, (0, 0, 0, [])) := rfl
theorem l_We_leastPlace_5 : xlk (xm_cd m_We_leastPlace) 5 = some (.if_icmp .ge 19, 3, (0, 24, 0, [])) := rfl
theorem l_We_leastPlace_8 : xlk (xm_cd m_We_leastPlace) 8 = some (.aload_n 0, 1, (0, 0, 0, [])) := rfl
theorem l_We_leastPlace_9 : xlk (xm_cd m_We_leastPlace) 9 = some (.getfield 9, 3, (185, 6, 0, [])) := rfl
theorem l_We_leastPlace_12 : xlk (xm_cd m_We_leastPlace) 12 = some (.iload_n 2, 1, (0, 0, 0, [])) := rfl
theorem l_We_leastPlace_13 : xlk (xm_cd m_We_leastPlace) 13 = some (.iaload, 1, (0, 0, 0, [])) := rfl
theorem l_We_leastPlace_14 : xlk (xm_cd m_We_leastPlace) 14 = some (.iload_n 1, 1, (0, 0, 0, [])) := rfl
theorem l_We_leastPlace_15 : xlk (xm_cd m_We_leastPlace) 15 = some (.if_icmp .ge 9, 3, (0, 24, 0, [])) := rfl
theorem l_We_leastPlace_18 : xlk (xm_cd m_We_leastPlace) 18 = some (.iinc 2 1, 3, (0, 0, 0, [])) := rfl
theorem l_We_leastPlace_21 : xlk (xm_cd m_We_leastPlace) 21 = some (.goto (-19), 3, (0, 2, 0, [])) := rfl
theorem l_We_leastPlace_24 : xlk (xm_cd m_We_leastPlace) 24 = some (.iload_n 2, 1, (0, 0, 0, [])) := rfl
theorem l_We_leastPlace_25 : xlk (xm_cd m_We_leastPlace) 25 = some (.ireturn, 1, (0, 0, 0, [])) := rfl
def B_We_leastPlace_0 (d : Nat) (E : Option Value → xH → Prop) (f : xH) (a0 : Nat) (x1 : Int32) : Prop :=
  xWp (xT0, xSp xT0 d, none, m_We_leastPlace, E) 2 [some (.ref a0), some (.int x1), some (.int 0)] [] f 0 0
theorem b_We_leastPlace_0 {d : Nat} {E : Option Value → xH → Prop} {f : xH} {a0 : Nat} {x1 : Int32} (h : B_We_leastPlace_0 d E f a0 x1) : xWp (xT0, xSp xT0 d, none, m_We_leastPlace, E) 0 [some (.ref a0), some (.int x1), none] [] f 0 0 := by
  unfold B_We_leastPlace_0 at h
  refine s_ic 0 l_We_leastPlace_0 rfl ?_
  refine s_isn l_We_leastPlace_1 (Nat.le_of_ble_eq_true rfl) ?_
  exact h
def B_We_leastPlace_2 (d : Nat) (E : Option Value → xH → Prop) (f : xH) (a0 : Nat) (x1 : Int32) (x2 : Int32) : Prop :=
  xbr ((48 : Int32) ≤ x2) (E (some (.int x2)) f) (xgr f a0 6 0 (fun r1 => xal f r1 0 x2 (fun v2 => xbr (x1 ≤ v2) (E (some (.int x2)) f) (xWp (xT0, xSp xT0 d, none, m_We_leastPlace, E) 2 [some (.ref a0), some (.int x1), some (.int (x2 + 1))] [] f 0 0))))
theorem b_We_leastPlace_2 {d : Nat} {E : Option Value → xH → Prop} {f : xH} {a0 : Nat} {x1 : Int32} {x2 : Int32} (h : B_We_leastPlace_2 d E f a0 x1 x2) : xWp (xT0, xSp xT0 d, none, m_We_leastPlace, E) 2 [some (.ref a0), some (.int x1), some (.int x2)] [] f 0 0 := by
  unfold B_We_leastPlace_2 at h
  refine s_iln l_We_leastPlace_2 rfl ?_
  refine s_bp 48 l_We_leastPlace_3 rfl ?_
  refine s_ifc l_We_leastPlace_5 h (fun h => ?_) (fun h => ?_)
  · refine s_iln l_We_leastPlace_24 rfl ?_
    exact s_iret l_We_leastPlace_25 rfl ⟨Nat.zero_le _, Nat.zero_le _⟩ h
  · refine s_aln l_We_leastPlace_8 rfl ?_
    refine s_gr l_We_leastPlace_9 h (fun r1 h => ?_)
    refine s_iln l_We_leastPlace_12 rfl ?_
    refine s_ial l_We_leastPlace_13 rfl h (fun v2 h => ?_)
    refine s_iln l_We_leastPlace_14 rfl ?_
    refine s_ifc l_We_leastPlace_15 h (fun h => ?_) (fun h => ?_)
    · refine s_iln l_We_leastPlace_24 rfl ?_
      exact s_iret l_We_leastPlace_25 rfl ⟨Nat.zero_le _, Nat.zero_le _⟩ h
    · refine s_inc 1 l_We_leastPlace_18 rfl rfl ?_
      refine s_goto l_We_leastPlace_21 ?_
      exact h
theorem l_We_tellChosen_0 : xlk (xm_cd m_We_tellChosen) 0 = some (.aload_n 3, 1, (0, 0, 0, [])) := rfl
theorem l_We_tellChosen_1 : xlk (xm_cd m_We_tellChosen) 1 = some (.invokevirtual 58, 3, (502, 64, 0, [])) := rfl
theorem l_We_tellChosen_4 : xlk (xm_cd m_We_tellChosen) 4 = some (.iconst 0, 1, (0, 0, 0, [])) := rfl
theorem l_We_tellChosen_5 : xlk (xm_cd m_We_tellChosen) 5 = some (.istore 4, 2, (0, 0, 0, [])) := rfl
theorem l_We_tellChosen_7 : xlk (xm_cd m_We_tellChosen) 7 = some (.iconst 0, 1, (0, 0, 0, [])) := rfl
theorem l_We_tellChosen_8 : xlk (xm_cd m_We_tellChosen) 8 = some (.istore 5, 2, (0, 0, 0, [])) := rfl
theorem l_We_tellChosen_10 : xlk (xm_cd m_We_tellChosen) 10 = some (.iconst 0, 1, (0, 0, 0, [])) := rfl
theorem l_We_tellChosen_11 : xlk (xm_cd m_We_tellChosen) 11 = some (.istore 6, 2, (0, 0, 0, [])) := rfl
theorem l_We_tellChosen_13 : xlk (xm_cd m_We_tellChosen) 13 = some (.iload 6, 2, (0, 0, 0, [])) := rfl
theorem l_We_tellChosen_15 : xlk (xm_cd m_We_tellChosen) 15 = some (.iload_n 2, 1, (0, 0, 0, [])) := rfl
theorem l_We_tellChosen_16 : xlk (xm_cd m_We_tellChosen) 16 = some (.if_icmp .ge 62, 3, (0, 78, 0, [])) := rfl
theorem l_We_tellChosen_19 : xlk (xm_cd m_We_tellChosen) 19 = some (.iload 4, 2, (0, 0, 0, [])) := rfl
theorem l_We_tellChosen_21 : xlk (xm_cd m_We_tellChosen) 21 = some (.ifCond .ne 21, 3, (0, 42, 0, [])) := rfl
theorem l_We_tellChosen_24 : xlk (xm_cd m_We_tellChosen) 24 = some (.aload_n 0, 1, (0, 0, 0, [])) := rfl
theorem l_We_tellChosen_25 : xlk (xm_cd m_We_tellChosen) 25 = some (.getfield 18, 3, (187, 6, 2, [])) := rfl
theorem l_We_tellChosen_28 : xlk (xm_cd m_We_tellChosen) 28 = some (.iload 6, 2, (0, 0, 0, [])) := rfl
theorem l_We_tellChosen_30 : xlk (xm_cd m_We_tellChosen) 30 = some (.iaload, 1, (0, 0, 0, [])) := rfl
theorem l_We_tellChosen_31 : xlk (xm_cd m_We_tellChosen) 31 = some (.istore 4, 2, (0, 0, 0, [])) := rfl
theorem l_We_tellChosen_33 : xlk (xm_cd m_We_tellChosen) 33 = some (.aload_n 0, 1, (0, 0, 0, [])) := rfl
theorem l_We_tellChosen_34 : xlk (xm_cd m_We_tellChosen) 34 = some (.getfield 21, 3, (188, 6, 3, [])) := rfl
theorem l_We_tellChosen_37 : xlk (xm_cd m_We_tellChosen) 37 = some (.iload 6, 2, (0, 0, 0, [])) := rfl
theorem l_We_tellChosen_39 : xlk (xm_cd m_We_tellChosen) 39 = some (.iaload, 1, (0, 0, 0, [])) := rfl
theorem l_We_tellChosen_40 : xlk (xm_cd m_We_tellChosen) 40 = some (.istore 5, 2, (0, 0, 0, [])) := rfl
theorem l_We_tellChosen_42 : xlk (xm_cd m_We_tellChosen) 42 = some (.iload 4, 2, (0, 0, 0, [])) := rfl
theorem l_We_tellChosen_44 : xlk (xm_cd m_We_tellChosen) 44 = some (.ifCond .ne 16, 3, (0, 60, 0, [])) := rfl
theorem l_We_tellChosen_47 : xlk (xm_cd m_We_tellChosen) 47 = some (.aload_n 3, 1, (0, 0, 0, [])) := rfl
theorem l_We_tellChosen_48 : xlk (xm_cd m_We_tellChosen) 48 = some (.aload_n 1, 1, (0, 0, 0, [])) := rfl
theorem l_We_tellChosen_49 : xlk (xm_cd m_We_tellChosen) 49 = some (.iload 6, 2, (0, 0, 0, [])) := rfl
theorem l_We_tellChosen_51 : xlk (xm_cd m_We_tellChosen) 51 = some (.invokevirtual 36, 3, (488, 43, 1, [])) := rfl
theorem l_We_tellChosen_54 : xlk (xm_cd m_We_tellChosen) 54 = some (.invokevirtual 63, 3, (506, 65, 1, [])) := rfl
theorem l_We_tellChosen_57 : xlk (xm_cd m_We_tellChosen) 57 = some (.goto 15, 3, (0, 72, 0, [])) := rfl
theorem l_We_tellChosen_60 : xlk (xm_cd m_We_tellChosen) 60 = some (.aload_n 3, 1, (0, 0, 0, [])) := rfl
theorem l_We_tellChosen_61 : xlk (xm_cd m_We_tellChosen) 61 = some (.iload 5, 2, (0, 0, 0, [])) := rfl
theorem l_We_tellChosen_63 : xlk (xm_cd m_We_tellChosen) 63 = some (.invokevirtual 67, 3, (510, 57, 1, [])) := rfl
theorem l_We_tellChosen_66 : xlk (xm_cd m_We_tellChosen) 66 = some (.iinc 5 1, 3, (0, 0, 0, [])) := rfl
theorem l_We_tellChosen_69 : xlk (xm_cd m_We_tellChosen) 69 = some (.iinc 4 (-1), 3, (0, 0, 0, [])) := rfl
theorem l_We_tellChosen_72 : xlk (xm_cd m_We_tellChosen) 72 = some (.iinc 6 1, 3, (0, 0, 0, [])) := rfl
theorem l_We_tellChosen_75 : xlk (xm_cd m_We_tellChosen) 75 = some (.goto (-62), 3, (0, 13, 0, [])) := rfl
theorem l_We_tellChosen_78 : xlk (xm_cd m_We_tellChosen) 78 = some (.return_, 1, (0, 0, 0, [])) := rfl
def B_We_tellChosen_0 (d : Nat) (E : Option Value → xH → Prop) (f : xH) (a0 : Nat) (a1 : Nat) (x2 : Int32) (a3 : Nat) : Prop :=
  (∃ fs, f a3 = some (xO 3 fs)) ∧ xSp xT0 d j_De_empty [.ref a3] f (fun w1 f2 => xvv w1 (xWp (xT0, xSp xT0 d, none, m_We_tellChosen, E) 13 [some (.ref a0), some (.ref a1), some (.int x2), some (.ref a3), some (.int 0), some (.int 0), some (.int 0)] [] f2 0 0))
theorem b_We_tellChosen_0 {d : Nat} {E : Option Value → xH → Prop} {f : xH} {a0 : Nat} {a1 : Nat} {x2 : Int32} {a3 : Nat} (h : B_We_tellChosen_0 d E f a0 a1 x2 a3) : xWp (xT0, xSp xT0 d, none, m_We_tellChosen, E) 0 [some (.ref a0), some (.ref a1), some (.int x2), some (.ref a3), none, none, none] [] f 0 0 := by
  unfold B_We_tellChosen_0 at h
  refine s_aln l_We_tellChosen_0 rfl ?_
  refine s_cvv (As := []) (r := []) l_We_tellChosen_1 rfl ⟨rfl, rfl⟩ rfl (Nat.le_of_ble_eq_true rfl) rfl ⟨Nat.zero_le _, Nat.zero_le _⟩ h (fun f2 h => ?_)
  refine s_ic 0 l_We_tellChosen_4 rfl ?_
  refine s_is l_We_tellChosen_5 (Nat.le_of_ble_eq_true rfl) ?_
  refine s_ic 0 l_We_tellChosen_7 rfl ?_
  refine s_is l_We_tellChosen_8 (Nat.le_of_ble_eq_true rfl) ?_
  refine s_ic 0 l_We_tellChosen_10 rfl ?_
  refine s_is l_We_tellChosen_11 (Nat.le_of_ble_eq_true rfl) ?_
  exact h
def B_We_tellChosen_13 (d : Nat) (E : Option Value → xH → Prop) (f : xH) (a0 : Nat) (a1 : Nat) (x2 : Int32) (a3 : Nat) (x4 : Int32) (x5 : Int32) (x6 : Int32) : Prop :=
  xbr (x2 ≤ x6) (E none f) (xbr (¬ x4 = 0) (xWp (xT0, xSp xT0 d, none, m_We_tellChosen, E) 42 [some (.ref a0), some (.ref a1), some (.int x2), some (.ref a3), some (.int x4), some (.int x5), some (.int x6)] [] f 0 0) (xgr f a0 6 2 (fun r1 => xal f r1 0 x6 (fun v2 => xgr f a0 6 3 (fun r3 => xal f r3 0 x6 (fun v4 => xWp (xT0, xSp xT0 d, none, m_We_tellChosen, E) 42 [some (.ref a0), some (.ref a1), some (.int x2), some (.ref a3), some (.int v2), some (.int v4), some (.int x6)] [] f 0 0))))))
theorem b_We_tellChosen_13 {d : Nat} {E : Option Value → xH → Prop} {f : xH} {a0 : Nat} {a1 : Nat} {x2 : Int32} {a3 : Nat} {x4 : Int32} {x5 : Int32} {x6 : Int32} (h : B_We_tellChosen_13 d E f a0 a1 x2 a3 x4 x5 x6) : xWp (xT0, xSp xT0 d, none, m_We_tellChosen, E) 13 [some (.ref a0), some (.ref a1), some (.int x2), some (.ref a3), some (.int x4), some (.int x5), some (.int x6)] [] f 0 0 := by
  unfold B_We_tellChosen_13 at h
  refine s_il l_We_tellChosen_13 rfl ?_
  refine s_iln l_We_tellChosen_15 rfl ?_
  refine s_ifc l_We_tellChosen_16 h (fun h => ?_) (fun h => ?_)
  · exact s_ret l_We_tellChosen_78 ⟨Nat.zero_le _, Nat.zero_le _⟩ h
  · refine s_il l_We_tellChosen_19 rfl ?_
    refine s_if l_We_tellChosen_21 h (fun h => ?_) (fun h => ?_)
    · exact h
    · refine s_aln l_We_tellChosen_24 rfl ?_
      refine s_gr l_We_tellChosen_25 h (fun r1 h => ?_)
      refine s_il l_We_tellChosen_28 rfl ?_
      refine s_ial l_We_tellChosen_30 rfl h (fun v2 h => ?_)
      refine s_is l_We_tellChosen_31 (Nat.le_of_ble_eq_true rfl) ?_
      refine s_aln l_We_tellChosen_33 rfl ?_
      refine s_gr l_We_tellChosen_34 h (fun r3 h => ?_)
      refine s_il l_We_tellChosen_37 rfl ?_
      refine s_ial l_We_tellChosen_39 rfl h (fun v4 h => ?_)
      refine s_is l_We_tellChosen_40 (Nat.le_of_ble_eq_true rfl) ?_
      exact h
def B_We_tellChosen_42 (d : Nat) (E : Option Value → xH → Prop) (f : xH) (a0 : Nat) (a1 : Nat) (x2 : Int32) (a3 : Nat) (x4 : Int32) (x5 : Int32) (x6 : Int32) : Prop :=
  xbr (¬ x4 = 0) ((∃ fs, f a3 = some (xO 3 fs)) ∧ xSp xT0 d j_De_addPlace [.ref a3, .int x5] f (fun w1 f2 => xvv w1 (xWp (xT0, xSp xT0 d, none, m_We_tellChosen, E) 13 [some (.ref a0), some (.ref a1), some (.int x2), some (.ref a3), some (.int (x4 + (-1))), some (.int (x5 + 1)), some (.int (x6 + 1))] [] f2 0 0))) ((∃ fs, f a1 = some (xO 1 fs)) ∧ xSp xT0 d j_By_at [.ref a1, .int x6] f (fun w3 f4 => xvi w3 (fun v5 => (∃ fs, f4 a3 = some (xO 3 fs)) ∧ xSp xT0 d j_De_addTold [.ref a3, .int v5] f4 (fun w6 f7 => xvv w6 (xWp (xT0, xSp xT0 d, none, m_We_tellChosen, E) 13 [some (.ref a0), some (.ref a1), some (.int x2), some (.ref a3), some (.int x4), some (.int x5), some (.int (x6 + 1))] [] f7 0 0)))))
theorem b_We_tellChosen_42 {d : Nat} {E : Option Value → xH → Prop} {f : xH} {a0 : Nat} {a1 : Nat} {x2 : Int32} {a3 : Nat} {x4 : Int32} {x5 : Int32} {x6 : Int32} (h : B_We_tellChosen_42 d E f a0 a1 x2 a3 x4 x5 x6) : xWp (xT0, xSp xT0 d, none, m_We_tellChosen, E) 42 [some (.ref a0), some (.ref a1), some (.int x2), some (.ref a3), some (.int x4), some (.int x5), some (.int x6)] [] f 0 0 := by
  unfold B_We_tellChosen_42 at h
  refine s_il l_We_tellChosen_42 rfl ?_
  refine s_if l_We_tellChosen_44 h (fun h => ?_) (fun h => ?_)
  · refine s_aln l_We_tellChosen_60 rfl ?_
    refine s_il l_We_tellChosen_61 rfl ?_
    refine s_cvv (As := [.int x5]) (r := []) l_We_tellChosen_63 rfl ⟨rfl, rfl⟩ rfl (Nat.le_of_ble_eq_true rfl) rfl ⟨Nat.zero_le _, Nat.zero_le _⟩ h (fun f2 h => ?_)
    refine s_inc 1 l_We_tellChosen_66 rfl rfl ?_
    refine s_inc (-1) l_We_tellChosen_69 rfl rfl ?_
    refine s_inc 1 l_We_tellChosen_72 rfl rfl ?_
    refine s_goto l_We_tellChosen_75 ?_
    exact h
  · refine s_aln l_We_tellChosen_47 rfl ?_
    refine s_aln l_We_tellChosen_48 rfl ?_
    refine s_il l_We_tellChosen_49 rfl ?_
    refine s_cvi (As := [.int x6]) (r := [.ref a3]) l_We_tellChosen_51 rfl ⟨rfl, rfl⟩ rfl (Nat.le_of_ble_eq_true rfl) rfl ⟨Nat.zero_le _, Nat.zero_le _⟩ h (fun v5 f4 h => ?_)
    refine s_cvv (As := [.int v5]) (r := []) l_We_tellChosen_54 rfl ⟨rfl, rfl⟩ rfl (Nat.le_of_ble_eq_true rfl) rfl ⟨Nat.zero_le _, Nat.zero_le _⟩ h (fun f7 h => ?_)
    refine s_goto l_We_tellChosen_57 ?_
    refine s_inc 1 l_We_tellChosen_72 rfl rfl ?_
    refine s_goto l_We_tellChosen_75 ?_
    exact h
