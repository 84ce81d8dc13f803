/-! blocks of Jo, 0 -/
theorem l_Jo_ruleBroken_0 : xlk (xm_cd m_Jo_ruleBroken) 0 = some (.iconst 0, 1, (0, 0, 0, [])) := rfl
theorem l_Jo_ruleBroken_1 : xlk (xm_cd m_Jo_ruleBroken) 1 = some (.istore_n 2, 1, (0, 0, 0, [])) := rfl
theorem l_Jo_ruleBroken_2 : xlk (xm_cd m_Jo_ruleBroken) 2 = some (.iload_n 2, 1, (0, 0, 0, [])) := rfl
theorem l_Jo_ruleBroken_3 : xlk (xm_cd m_Jo_ruleBroken) 3 = some (.aload_n 1, 1, (0, 0, 0, [])) := rfl
theorem l_Jo_ruleBroken_4 : xlk (xm_cd m_Jo_ruleBroken) 4 = some (.invokevirtual 9, 3, (674, 78, 0, [])) := rfl
theorem l_Jo_ruleBroken_7 : xlk (xm_cd m_Jo_ruleBroken) 7 = some (.if_icmp .ge 26, 3, (0, 33, 0, [])) := rfl
theorem l_Jo_ruleBroken_10 : xlk (xm_cd m_Jo_ruleBroken) 10 = some (.aload_n 1, 1, (0, 0, 0, [])) := rfl
theorem l_Jo_ruleBroken_11 : xlk (xm_cd m_Jo_ruleBroken) 11 = some (.iload_n 2, 1, (0, 0, 0, [])) := rfl
theorem l_Jo_ruleBroken_12 : xlk (xm_cd m_Jo_ruleBroken) 12 = some (.invokevirtual 15, 3, (675, 80, 1, [])) := rfl
theorem l_Jo_ruleBroken_15 : xlk (xm_cd m_Jo_ruleBroken) 15 = some (.aload_n 0, 1, (0, 0, 0, [])) := rfl
theorem l_Jo_ruleBroken_16 : xlk (xm_cd m_Jo_ruleBroken) 16 = some (.aload_n 1, 1, (0, 0, 0, [])) := rfl
theorem l_Jo_ruleBroken_17 : xlk (xm_cd m_Jo_ruleBroken) 17 = some (.invokestatic 19, 3, (676, 106, 3, [])) := rfl
theorem l_Jo_ruleBroken_20 : xlk (xm_cd m_Jo_ruleBroken) 20 = some (.istore_n 3, 1, (0, 0, 0, [])) := rfl
theorem l_Jo_ruleBroken_21 : xlk (xm_cd m_Jo_ruleBroken) 21 = some (.iload_n 3, 1, (0, 0, 0, [])) := rfl
theorem l_Jo_ruleBroken_22 : xlk (xm_cd m_Jo_ruleBroken) 22 = some (.ifCond .eq 5, 3, (0, 27, 0, [])) := rfl
theorem l_Jo_ruleBroken_25 : xlk (xm_cd m_Jo_ruleBroken) 25 = some (.iload_n 3, 1, (0, 0, 0, [])) := rfl
theorem l_Jo_ruleBroken_26 : xlk (xm_cd m_Jo_ruleBroken) 26 = some (.ireturn, 1, (0, 0, 0, [])) := rfl
theorem l_Jo_ruleBroken_27 : xlk (xm_cd m_Jo_ruleBroken) 27 = some (.iinc 2 1, 3, (0, 0, 0, [])) := rfl
theorem l_Jo_ruleBroken_30 : xlk (xm_cd m_Jo_ruleBroken) 30 = some (.goto (-28), 3, (0, 2, 0, [])) := rfl
theorem l_Jo_ruleBroken_33 : xlk (xm_cd m_Jo_ruleBroken) 33 = some (.iconst 0, 1, (0, 0, 0, [])) := rfl
theorem l_Jo_ruleBroken_34 : xlk (xm_cd m_Jo_ruleBroken) 34 = some (.ireturn, 1, (0, 0, 0, [])) := rfl
def B_Jo_ruleBroken_0 (d : Nat) (E : Option Value → xH → Prop) (f : xH) (a0 : Nat) (a1 : Nat) : Prop :=
  xWp (xT0, xSp xT0 d, none, m_Jo_ruleBroken, E) 2 [some (.ref a0), some (.ref a1), some (.int 0), none] [] f 0 0
theorem b_Jo_ruleBroken_0 {d : Nat} {E : Option Value → xH → Prop} {f : xH} {a0 : Nat} {a1 : Nat} (h : B_Jo_ruleBroken_0 d E f a0 a1) : xWp (xT0, xSp xT0 d, none, m_Jo_ruleBroken, E) 0 [some (.ref a0), some (.ref a1), none, none] [] f 0 0 := by
  unfold B_Jo_ruleBroken_0 at h
  refine s_ic 0 l_Jo_ruleBroken_0 rfl ?_
  refine s_isn l_Jo_ruleBroken_1 (Nat.le_of_ble_eq_true rfl) ?_
  exact h
def B_Jo_ruleBroken_2 (d : Nat) (E : Option Value → xH → Prop) (f : xH) (a0 : Nat) (a1 : Nat) (x2 : Int32) (u3 : Option Value) : Prop :=
  (∃ fs, f a1 = some (xO 5 fs)) ∧ xSp xT0 d j_Pa_size [.ref a1] f (fun w1 f2 => xvi w1 (fun v3 => xbr (v3 ≤ x2) (E (some (.int 0)) f2) ((∃ fs, f2 a1 = some (xO 5 fs)) ∧ xSp xT0 d j_Pa_at [.ref a1, .int x2] f2 (fun w4 f5 => xvr w4 (fun r6 => xSp xT0 d j_Jo_ruleBrokenBy [.ref r6, .ref a0, .ref a1] f5 (fun w7 f8 => xvi w7 (fun v9 => xbr (v9 = 0) (xWp (xT0, xSp xT0 d, none, m_Jo_ruleBroken, E) 2 [some (.ref a0), some (.ref a1), some (.int (x2 + 1)), some (.int v9)] [] f8 0 0) (E (some (.int v9)) f8))))))))
theorem b_Jo_ruleBroken_2 {d : Nat} {E : Option Value → xH → Prop} {f : xH} {a0 : Nat} {a1 : Nat} {x2 : Int32} {u3 : Option Value} (h : B_Jo_ruleBroken_2 d E f a0 a1 x2 u3) : xWp (xT0, xSp xT0 d, none, m_Jo_ruleBroken, E) 2 [some (.ref a0), some (.ref a1), some (.int x2), u3] [] f 0 0 := by
  unfold B_Jo_ruleBroken_2 at h
  refine s_iln l_Jo_ruleBroken_2 rfl ?_
  refine s_aln l_Jo_ruleBroken_3 rfl ?_
  refine s_cvi (As := []) (r := [.int x2]) l_Jo_ruleBroken_4 rfl ⟨rfl, rfl⟩ rfl (Nat.le_of_ble_eq_true rfl) rfl ⟨Nat.zero_le _, Nat.zero_le _⟩ h (fun v3 f2 h => ?_)
  refine s_ifc l_Jo_ruleBroken_7 h (fun h => ?_) (fun h => ?_)
  · refine s_ic 0 l_Jo_ruleBroken_33 rfl ?_
    exact s_iret l_Jo_ruleBroken_34 rfl ⟨Nat.zero_le _, Nat.zero_le _⟩ h
  · refine s_aln l_Jo_ruleBroken_10 rfl ?_
    refine s_iln l_Jo_ruleBroken_11 rfl ?_
    refine s_cvr (As := [.int x2]) (r := []) l_Jo_ruleBroken_12 rfl ⟨rfl, rfl⟩ rfl (Nat.le_of_ble_eq_true rfl) rfl ⟨Nat.zero_le _, Nat.zero_le _⟩ h (fun r6 f5 h => ?_)
    refine s_aln l_Jo_ruleBroken_15 rfl ?_
    refine s_aln l_Jo_ruleBroken_16 rfl ?_
    refine s_csi (As := [.ref r6, .ref a0, .ref a1]) (r := []) l_Jo_ruleBroken_17 rfl ⟨rfl, rfl⟩ rfl (Nat.le_of_ble_eq_true rfl) rfl ⟨Nat.zero_le _, Nat.zero_le _⟩ h (fun v9 f8 h => ?_)
    refine s_isn l_Jo_ruleBroken_20 (Nat.le_of_ble_eq_true rfl) ?_
    refine s_iln l_Jo_ruleBroken_21 rfl ?_
    refine s_if l_Jo_ruleBroken_22 h (fun h => ?_) (fun h => ?_)
    · refine s_inc 1 l_Jo_ruleBroken_27 rfl rfl ?_
      refine s_goto l_Jo_ruleBroken_30 ?_
      exact h
    · refine s_iln l_Jo_ruleBroken_25 rfl ?_
      exact s_iret l_Jo_ruleBroken_26 rfl ⟨Nat.zero_le _, Nat.zero_le _⟩ h
theorem l_Jo_ruleBrokenBy_0 : xlk (xm_cd m_Jo_ruleBrokenBy) 0 = some (.aload_n 0, 1, (0, 0, 0, [])) := rfl
theorem l_Jo_ruleBrokenBy_1 : xlk (xm_cd m_Jo_ruleBrokenBy) 1 = some (.invokevirtual 39, 3, (679, 53, 0, [])) := rfl
theorem l_Jo_ruleBrokenBy_4 : xlk (xm_cd m_Jo_ruleBrokenBy) 4 = some (.ifCond .eq 50, 3, (0, 54, 0, [])) := rfl
theorem l_Jo_ruleBrokenBy_7 : xlk (xm_cd m_Jo_ruleBrokenBy) 7 = some (.aload_n 1, 1, (0, 0, 0, [])) := rfl
theorem l_Jo_ruleBrokenBy_8 : xlk (xm_cd m_Jo_ruleBrokenBy) 8 = some (.aload_n 0, 1, (0, 0, 0, [])) := rfl
theorem l_Jo_ruleBrokenBy_9 : xlk (xm_cd m_Jo_ruleBrokenBy) 9 = some (.getfield 45, 3, (0, 4, 1, [])) := rfl
theorem l_Jo_ruleBrokenBy_12 : xlk (xm_cd m_Jo_ruleBrokenBy) 12 = some (.invokevirtual 49, 3, (680, 107, 1, [])) := rfl
theorem l_Jo_ruleBrokenBy_15 : xlk (xm_cd m_Jo_ruleBrokenBy) 15 = some (.istore_n 3, 1, (0, 0, 0, [])) := rfl
theorem l_Jo_ruleBrokenBy_16 : xlk (xm_cd m_Jo_ruleBrokenBy) 16 = some (.iload_n 3, 1, (0, 0, 0, [])) := rfl
theorem l_Jo_ruleBrokenBy_17 : xlk (xm_cd m_Jo_ruleBrokenBy) 17 = some (.iconst (-1), 1, (0, 0, 0, [])) := rfl
theorem l_Jo_ruleBrokenBy_18 : xlk (xm_cd m_Jo_ruleBrokenBy) 18 = some (.if_icmp .ne 17, 3, (0, 35, 0, [])) := rfl
theorem l_Jo_ruleBrokenBy_21 : xlk (xm_cd m_Jo_ruleBrokenBy) 21 = some (.aload_n 1, 1, (0, 0, 0, [])) := rfl
theorem l_Jo_ruleBrokenBy_22 : xlk (xm_cd m_Jo_ruleBrokenBy) 22 = some (.aload_n 0, 1, (0, 0, 0, [])) := rfl
theorem l_Jo_ruleBrokenBy_23 : xlk (xm_cd m_Jo_ruleBrokenBy) 23 = some (.getfield 45, 3, (0, 4, 1, [])) := rfl
theorem l_Jo_ruleBrokenBy_26 : xlk (xm_cd m_Jo_ruleBrokenBy) 26 = some (.invokevirtual 53, 3, (689, 109, 1, [])) := rfl
theorem l_Jo_ruleBrokenBy_29 : xlk (xm_cd m_Jo_ruleBrokenBy) 29 = some (.iconst (-1), 1, (0, 0, 0, [])) := rfl
theorem l_Jo_ruleBrokenBy_30 : xlk (xm_cd m_Jo_ruleBrokenBy) 30 = some (.if_icmp .eq 5, 3, (0, 35, 0, [])) := rfl
theorem l_Jo_ruleBrokenBy_33 : xlk (xm_cd m_Jo_ruleBrokenBy) 33 = some (.iconst 1, 1, (0, 0, 0, [])) := rfl
theorem l_Jo_ruleBrokenBy_34 : xlk (xm_cd m_Jo_ruleBrokenBy) 34 = some (.ireturn, 1, (0, 0, 0, [])) := rfl
theorem l_Jo_ruleBrokenBy_35 : xlk (xm_cd m_Jo_ruleBrokenBy) 35 = some (.iload_n 3, 1, (0, 0, 0, [])) := rfl
theorem l_Jo_ruleBrokenBy_36 : xlk (xm_cd m_Jo_ruleBrokenBy) 36 = some (.iconst (-1), 1, (0, 0, 0, [])) := rfl
theorem l_Jo_ruleBrokenBy_37 : xlk (xm_cd m_Jo_ruleBrokenBy) 37 = some (.if_icmp .eq 17, 3, (0, 54, 0, [])) := rfl
theorem l_Jo_ruleBrokenBy_40 : xlk (xm_cd m_Jo_ruleBrokenBy) 40 = some (.aload_n 0, 1, (0, 0, 0, [])) := rfl
theorem l_Jo_ruleBrokenBy_41 : xlk (xm_cd m_Jo_ruleBrokenBy) 41 = some (.aload_n 1, 1, (0, 0, 0, [])) := rfl
theorem l_Jo_ruleBrokenBy_42 : xlk (xm_cd m_Jo_ruleBrokenBy) 42 = some (.iload_n 3, 1, (0, 0, 0, [])) := rfl
theorem l_Jo_ruleBrokenBy_43 : xlk (xm_cd m_Jo_ruleBrokenBy) 43 = some (.invokevirtual 15, 3, (675, 80, 1, [])) := rfl
theorem l_Jo_ruleBrokenBy_46 : xlk (xm_cd m_Jo_ruleBrokenBy) 46 = some (.invokevirtual 56, 3, (697, 111, 1, [])) := rfl
theorem l_Jo_ruleBrokenBy_49 : xlk (xm_cd m_Jo_ruleBrokenBy) 49 = some (.ifCond .ne 5, 3, (0, 54, 0, [])) := rfl
theorem l_Jo_ruleBrokenBy_52 : xlk (xm_cd m_Jo_ruleBrokenBy) 52 = some (.iconst 2, 1, (0, 0, 0, [])) := rfl
theorem l_Jo_ruleBrokenBy_53 : xlk (xm_cd m_Jo_ruleBrokenBy) 53 = some (.ireturn, 1, (0, 0, 0, [])) := rfl
theorem l_Jo_ruleBrokenBy_54 : xlk (xm_cd m_Jo_ruleBrokenBy) 54 = some (.aload_n 0, 1, (0, 0, 0, [])) := rfl
theorem l_Jo_ruleBrokenBy_55 : xlk (xm_cd m_Jo_ruleBrokenBy) 55 = some (.invokevirtual 60, 3, (701, 55, 0, [])) := rfl
theorem l_Jo_ruleBrokenBy_58 : xlk (xm_cd m_Jo_ruleBrokenBy) 58 = some (.ifCond .eq 29, 3, (0, 87, 0, [])) := rfl
theorem l_Jo_ruleBrokenBy_61 : xlk (xm_cd m_Jo_ruleBrokenBy) 61 = some (.aload_n 1, 1, (0, 0, 0, [])) := rfl
theorem l_Jo_ruleBrokenBy_62 : xlk (xm_cd m_Jo_ruleBrokenBy) 62 = some (.aload_n 0, 1, (0, 0, 0, [])) := rfl
theorem l_Jo_ruleBrokenBy_63 : xlk (xm_cd m_Jo_ruleBrokenBy) 63 = some (.getfield 63, 3, (0, 4, 0, [])) := rfl
theorem l_Jo_ruleBrokenBy_66 : xlk (xm_cd m_Jo_ruleBrokenBy) 66 = some (.invokevirtual 49, 3, (680, 107, 1, [])) := rfl
theorem l_Jo_ruleBrokenBy_69 : xlk (xm_cd m_Jo_ruleBrokenBy) 69 = some (.iconst (-1), 1, (0, 0, 0, [])) := rfl
theorem l_Jo_ruleBrokenBy_70 : xlk (xm_cd m_Jo_ruleBrokenBy) 70 = some (.if_icmp .eq 17, 3, (0, 87, 0, [])) := rfl
theorem l_Jo_ruleBrokenBy_73 : xlk (xm_cd m_Jo_ruleBrokenBy) 73 = some (.aload_n 2, 1, (0, 0, 0, [])) := rfl
theorem l_Jo_ruleBrokenBy_74 : xlk (xm_cd m_Jo_ruleBrokenBy) 74 = some (.aload_n 0, 1, (0, 0, 0, [])) := rfl
theorem l_Jo_ruleBrokenBy_75 : xlk (xm_cd m_Jo_ruleBrokenBy) 75 = some (.getfield 63, 3, (0, 4, 0, [])) := rfl
theorem l_Jo_ruleBrokenBy_78 : xlk (xm_cd m_Jo_ruleBrokenBy) 78 = some (.invokevirtual 53, 3, (689, 109, 1, [])) := rfl
theorem l_Jo_ruleBrokenBy_81 : xlk (xm_cd m_Jo_ruleBrokenBy) 81 = some (.iconst (-1), 1, (0, 0, 0, [])) := rfl
theorem l_Jo_ruleBrokenBy_82 : xlk (xm_cd m_Jo_ruleBrokenBy) 82 = some (.if_icmp .ne 5, 3, (0, 87, 0, [])) := rfl
theorem l_Jo_ruleBrokenBy_85 : xlk (xm_cd m_Jo_ruleBrokenBy) 85 = some (.iconst 3, 1, (0, 0, 0, [])) := rfl
theorem l_Jo_ruleBrokenBy_86 : xlk (xm_cd m_Jo_ruleBrokenBy) 86 = some (.ireturn, 1, (0, 0, 0, [])) := rfl
theorem l_Jo_ruleBrokenBy_87 : xlk (xm_cd m_Jo_ruleBrokenBy) 87 = some (.iconst 0, 1, (0, 0, 0, [])) := rfl
theorem l_Jo_ruleBrokenBy_88 : xlk (xm_cd m_Jo_ruleBrokenBy) 88 = some (.ireturn, 1, (0, 0, 0, [])) := rfl
def B_Jo_ruleBrokenBy_0 (d : Nat) (E : Option Value → xH → Prop) (f : xH) (a0 : Nat) (a1 : Nat) (a2 : Nat) : Prop :=
  (∃ fs, f a0 = some (xO 4 fs)) ∧ xSp xT0 d j_St_hasSource [.ref a0] f (fun w1 f2 => xvi w1 (fun v3 => xbr (v3 = 0) (xWp (xT0, xSp xT0 d, none, m_Jo_ruleBrokenBy, E) 54 [some (.ref a0), some (.ref a1), some (.ref a2), none] [] f2 0 0) (xgr f2 a0 4 1 (fun r4 => (∃ fs, f2 a1 = some (xO 5 fs)) ∧ xSp xT0 d j_Pa_findTarget [.ref a1, .ref r4] f2 (fun w5 f6 => xvi w5 (fun v7 => xbr (¬ v7 = (-1)) (xWp (xT0, xSp xT0 d, none, m_Jo_ruleBrokenBy, E) 35 [some (.ref a0), some (.ref a1), some (.ref a2), some (.int v7)] [] f6 0 0) (xgr f6 a0 4 1 (fun r8 => (∃ fs, f6 a1 = some (xO 5 fs)) ∧ xSp xT0 d j_Pa_findSource [.ref a1, .ref r8] f6 (fun w9 f10 => xvi w9 (fun v11 => xbr (v11 = (-1)) (xWp (xT0, xSp xT0 d, none, m_Jo_ruleBrokenBy, E) 35 [some (.ref a0), some (.ref a1), some (.ref a2), some (.int v7)] [] f10 0 0) (E (some (.int 1)) f10)))))))))))
theorem b_Jo_ruleBrokenBy_0 {d : Nat} {E : Option Value → xH → Prop} {f : xH} {a0 : Nat} {a1 : Nat} {a2 : Nat} (h : B_Jo_ruleBrokenBy_0 d E f a0 a1 a2) : xWp (xT0, xSp xT0 d, none, m_Jo_ruleBrokenBy, E) 0 [some (.ref a0), some (.ref a1), some (.ref a2), none] [] f 0 0 := by
  unfold B_Jo_ruleBrokenBy_0 at h
  refine s_aln l_Jo_ruleBrokenBy_0 rfl ?_
  refine s_cvi (As := []) (r := []) l_Jo_ruleBrokenBy_1 rfl ⟨rfl, rfl⟩ rfl (Nat.le_of_ble_eq_true rfl) rfl ⟨Nat.zero_le _, Nat.zero_le _⟩ h (fun v3 f2 h => ?_)
  refine s_if l_Jo_ruleBrokenBy_4 h (fun h => ?_) (fun h => ?_)
  · exact h
  · refine s_aln l_Jo_ruleBrokenBy_7 rfl ?_
    refine s_aln l_Jo_ruleBrokenBy_8 rfl ?_
    refine s_gr l_Jo_ruleBrokenBy_9 h (fun r4 h => ?_)
    refine s_cvi (As := [.ref r4]) (r := []) l_Jo_ruleBrokenBy_12 rfl ⟨rfl, rfl⟩ rfl (Nat.le_of_ble_eq_true rfl) rfl ⟨Nat.zero_le _, Nat.zero_le _⟩ h (fun v7 f6 h => ?_)
    refine s_isn l_Jo_ruleBrokenBy_15 (Nat.le_of_ble_eq_true rfl) ?_
    refine s_iln l_Jo_ruleBrokenBy_16 rfl ?_
    refine s_ic (-1) l_Jo_ruleBrokenBy_17 rfl ?_
    refine s_ifc l_Jo_ruleBrokenBy_18 h (fun h => ?_) (fun h => ?_)
    · exact h
    · refine s_aln l_Jo_ruleBrokenBy_21 rfl ?_
      refine s_aln l_Jo_ruleBrokenBy_22 rfl ?_
      refine s_gr l_Jo_ruleBrokenBy_23 h (fun r8 h => ?_)
      refine s_cvi (As := [.ref r8]) (r := []) l_Jo_ruleBrokenBy_26 rfl ⟨rfl, rfl⟩ rfl (Nat.le_of_ble_eq_true rfl) rfl ⟨Nat.zero_le _, Nat.zero_le _⟩ h (fun v11 f10 h => ?_)
      refine s_ic (-1) l_Jo_ruleBrokenBy_29 rfl ?_
      refine s_ifc l_Jo_ruleBrokenBy_30 h (fun h => ?_) (fun h => ?_)
      · exact h
      · refine s_ic 1 l_Jo_ruleBrokenBy_33 rfl ?_
        exact s_iret l_Jo_ruleBrokenBy_34 rfl ⟨Nat.zero_le _, Nat.zero_le _⟩ h
def B_Jo_ruleBrokenBy_35 (d : Nat) (E : Option Value → xH → Prop) (f : xH) (a0 : Nat) (a1 : Nat) (a2 : Nat) (x3 : Int32) : Prop :=
  xbr (x3 = (-1)) (xWp (xT0, xSp xT0 d, none, m_Jo_ruleBrokenBy, E) 54 [some (.ref a0), some (.ref a1), some (.ref a2), some (.int x3)] [] f 0 0) ((∃ fs, f a1 = some (xO 5 fs)) ∧ xSp xT0 d j_Pa_at [.ref a1, .int x3] f (fun w1 f2 => xvr w1 (fun r3 => (∃ fs, f2 a0 = some (xO 4 fs)) ∧ xSp xT0 d j_St_goesOnFrom [.ref a0, .ref r3] f2 (fun w4 f5 => xvi w4 (fun v6 => xbr (¬ v6 = 0) (xWp (xT0, xSp xT0 d, none, m_Jo_ruleBrokenBy, E) 54 [some (.ref a0), some (.ref a1), some (.ref a2), some (.int x3)] [] f5 0 0) (E (some (.int 2)) f5))))))
theorem b_Jo_ruleBrokenBy_35 {d : Nat} {E : Option Value → xH → Prop} {f : xH} {a0 : Nat} {a1 : Nat} {a2 : Nat} {x3 : Int32} (h : B_Jo_ruleBrokenBy_35 d E f a0 a1 a2 x3) : xWp (xT0, xSp xT0 d, none, m_Jo_ruleBrokenBy, E) 35 [some (.ref a0), some (.ref a1), some (.ref a2), some (.int x3)] [] f 0 0 := by
  unfold B_Jo_ruleBrokenBy_35 at h
  refine s_iln l_Jo_ruleBrokenBy_35 rfl ?_
  refine s_ic (-1) l_Jo_ruleBrokenBy_36 rfl ?_
  refine s_ifc l_Jo_ruleBrokenBy_37 h (fun h => ?_) (fun h => ?_)
  · exact h
  · refine s_aln l_Jo_ruleBrokenBy_40 rfl ?_
    refine s_aln l_Jo_ruleBrokenBy_41 rfl ?_
    refine s_iln l_Jo_ruleBrokenBy_42 rfl ?_
    refine s_cvr (As := [.int x3]) (r := [.ref a0]) l_Jo_ruleBrokenBy_43 rfl ⟨rfl, rfl⟩ rfl (Nat.le_of_ble_eq_true rfl) rfl ⟨Nat.zero_le _, Nat.zero_le _⟩ h (fun r3 f2 h => ?_)
    refine s_cvi (As := [.ref r3]) (r := []) l_Jo_ruleBrokenBy_46 rfl ⟨rfl, rfl⟩ rfl (Nat.le_of_ble_eq_true rfl) rfl ⟨Nat.zero_le _, Nat.zero_le _⟩ h (fun v6 f5 h => ?_)
    refine s_if l_Jo_ruleBrokenBy_49 h (fun h => ?_) (fun h => ?_)
    · exact h
    · refine s_ic 2 l_Jo_ruleBrokenBy_52 rfl ?_
      exact s_iret l_Jo_ruleBrokenBy_53 rfl ⟨Nat.zero_le _, Nat.zero_le _⟩ h
def B_Jo_ruleBrokenBy_54 (d : Nat) (E : Option Value → xH → Prop) (f : xH) (a0 : Nat) (a1 : Nat) (a2 : Nat) (u3 : Option Value) : Prop :=
  (∃ fs, f a0 = some (xO 4 fs)) ∧ xSp xT0 d j_St_hasTarget [.ref a0] f (fun w1 f2 => xvi w1 (fun v3 => xbr (v3 = 0) (E (some (.int 0)) f2) (xgr f2 a0 4 0 (fun r4 => (∃ fs, f2 a1 = some (xO 5 fs)) ∧ xSp xT0 d j_Pa_findTarget [.ref a1, .ref r4] f2 (fun w5 f6 => xvi w5 (fun v7 => xbr (v7 = (-1)) (E (some (.int 0)) f6) (xgr f6 a0 4 0 (fun r8 => (∃ fs, f6 a2 = some (xO 5 fs)) ∧ xSp xT0 d j_Pa_findSource [.ref a2, .ref r8] f6 (fun w9 f10 => xvi w9 (fun v11 => xbr (¬ v11 = (-1)) (E (some (.int 0)) f10) (E (some (.int 3)) f10)))))))))))
theorem b_Jo_ruleBrokenBy_54 {d : Nat} {E : Option Value → xH → Prop} {f : xH} {a0 : Nat} {a1 : Nat} {a2 : Nat} {u3 : Option Value} (h : B_Jo_ruleBrokenBy_54 d E f a0 a1 a2 u3) : xWp (xT0, xSp xT0 d, none, m_Jo_ruleBrokenBy, E) 54 [some (.ref a0), some (.ref a1), some (.ref a2), u3] [] f 0 0 := by
  unfold B_Jo_ruleBrokenBy_54 at h
  refine s_aln l_Jo_ruleBrokenBy_54 rfl ?_
  refine s_cvi (As := []) (r := []) l_Jo_ruleBrokenBy_55 rfl ⟨rfl, rfl⟩ rfl (Nat.le_of_ble_eq_true rfl) rfl ⟨Nat.zero_le _, Nat.zero_le _⟩ h (fun v3 f2 h => ?_)
  refine s_if l_Jo_ruleBrokenBy_58 h (fun h => ?_) (fun h => ?_)
  · refine s_ic 0 l_Jo_ruleBrokenBy_87 rfl ?_
    exact s_iret l_Jo_ruleBrokenBy_88 rfl ⟨Nat.zero_le _, Nat.zero_le _⟩ h
  · refine s_aln l_Jo_ruleBrokenBy_61 rfl ?_
    refine s_aln l_Jo_ruleBrokenBy_62 rfl ?_
    refine s_gr l_Jo_ruleBrokenBy_63 h (fun r4 h => ?_)
    refine s_cvi (As := [.ref r4]) (r := []) l_Jo_ruleBrokenBy_66 rfl ⟨rfl, rfl⟩ rfl (Nat.le_of_ble_eq_true rfl) rfl ⟨Nat.zero_le _, Nat.zero_le _⟩ h (fun v7 f6 h => ?_)
    refine s_ic (-1) l_Jo_ruleBrokenBy_69 rfl ?_
    refine s_ifc l_Jo_ruleBrokenBy_70 h (fun h => ?_) (fun h => ?_)
    · refine s_ic 0 l_Jo_ruleBrokenBy_87 rfl ?_
      exact s_iret l_Jo_ruleBrokenBy_88 rfl ⟨Nat.zero_le _, Nat.zero_le _⟩ h
    · refine s_aln l_Jo_ruleBrokenBy_73 rfl ?_
      refine s_aln l_Jo_ruleBrokenBy_74 rfl ?_
      refine s_gr l_Jo_ruleBrokenBy_75 h (fun r8 h => ?_)
      refine s_cvi (As := [.ref r8]) (r := []) l_Jo_ruleBrokenBy_78 rfl ⟨rfl, rfl⟩ rfl (Nat.le_of_ble_eq_true rfl) rfl ⟨Nat.zero_le _, Nat.zero_le _⟩ h (fun v11 f10 h => ?_)
      refine s_ic (-1) l_Jo_ruleBrokenBy_81 rfl ?_
      refine s_ifc l_Jo_ruleBrokenBy_82 h (fun h => ?_) (fun h => ?_)
      · refine s_ic 0 l_Jo_ruleBrokenBy_87 rfl ?_
        exact s_iret l_Jo_ruleBrokenBy_88 rfl ⟨Nat.zero_le _, Nat.zero_le _⟩ h
      · refine s_ic 3 l_Jo_ruleBrokenBy_85 rfl ?_
        exact s_iret l_Jo_ruleBrokenBy_86 rfl ⟨Nat.zero_le _, Nat.zero_le _⟩ h
theorem l_Jo_join_0 : xlk (xm_cd m_Jo_join) 0 = some (.aload_n 2, 1, (0, 0, 0, [])) := rfl
theorem l_Jo_join_1 : xlk (xm_cd m_Jo_join) 1 = some (.invokevirtual 25, 3, (705, 49, 0, [])) := rfl
theorem l_Jo_join_4 : xlk (xm_cd m_Jo_join) 4 = some (.iconst 0, 1, (0, 0, 0, [])) := rfl
theorem l_Jo_join_5 : xlk (xm_cd m_Jo_join) 5 = some (.istore_n 3, 1, (0, 0, 0, [])) := rfl
theorem l_Jo_join_6 : xlk (xm_cd m_Jo_join) 6 = some (.iload_n 3, 1, (0, 0, 0, [])) := rfl
theorem l_Jo_join_7 : xlk (xm_cd m_Jo_join) 7 = some (.aload_n 0, 1, (0, 0, 0, [])) := rfl
theorem l_Jo_join_8 : xlk (xm_cd m_Jo_join) 8 = some (.invokevirtual 9, 3, (674, 78, 0, [])) := rfl
theorem l_Jo_join_11 : xlk (xm_cd m_Jo_join) 11 = some (.if_icmp .ge 24, 3, (0, 35, 0, [])) := rfl
theorem l_Jo_join_14 : xlk (xm_cd m_Jo_join) 14 = some (.aload_n 0, 1, (0, 0, 0, [])) := rfl
theorem l_Jo_join_15 : xlk (xm_cd m_Jo_join) 15 = some (.iload_n 3, 1, (0, 0, 0, [])) := rfl
theorem l_Jo_join_16 : xlk (xm_cd m_Jo_join) 16 = some (.invokevirtual 15, 3, (675, 80, 1, [])) := rfl
theorem l_Jo_join_19 : xlk (xm_cd m_Jo_join) 19 = some (.aload_n 1, 1, (0, 0, 0, [])) := rfl
theorem l_Jo_join_20 : xlk (xm_cd m_Jo_join) 20 = some (.aload_n 2, 1, (0, 0, 0, [])) := rfl
theorem l_Jo_join_21 : xlk (xm_cd m_Jo_join) 21 = some (.invokestatic 28, 3, (706, 113, 3, [])) := rfl
theorem l_Jo_join_24 : xlk (xm_cd m_Jo_join) 24 = some (.ifCond .ne 5, 3, (0, 29, 0, [])) := rfl
theorem l_Jo_join_27 : xlk (xm_cd m_Jo_join) 27 = some (.iconst 0, 1, (0, 0, 0, [])) := rfl
theorem l_Jo_join_28 : xlk (xm_cd m_Jo_join) 28 = some (.ireturn, 1, (0, 0, 0, [])) := rfl
theorem l_Jo_join_29 : xlk (xm_cd m_Jo_join) 29 = some (.iinc 3 1, 3, (0, 0, 0, [])) := rfl
theorem l_Jo_join_32 : xlk (xm_cd m_Jo_join) 32 = some (.goto (-26), 3, (0, 6, 0, [])) := rfl
theorem l_Jo_join_35 : xlk (xm_cd m_Jo_join) 35 = some (.iconst 0, 1, (0, 0, 0, [])) := rfl
theorem l_Jo_join_36 : xlk (xm_cd m_Jo_join) 36 = some (.istore_n 3, 1, (0, 0, 0, [])) := rfl
theorem l_Jo_join_37 : xlk (xm_cd m_Jo_join) 37 = some (.iload_n 3, 1, (0, 0, 0, [])) := rfl
theorem l_Jo_join_38 : xlk (xm_cd m_Jo_join) 38 = some (.aload_n 1, 1, (0, 0, 0, [])) := rfl
theorem l_Jo_join_39 : xlk (xm_cd m_Jo_join) 39 = some (.invokevirtual 9, 3, (674, 78, 0, [])) := rfl
theorem l_Jo_join_42 : xlk (xm_cd m_Jo_join) 42 = some (.if_icmp .ge 35, 3, (0, 77, 0, [])) := rfl
theorem l_Jo_join_45 : xlk (xm_cd m_Jo_join) 45 = some (.aload_n 1, 1, (0, 0, 0, [])) := rfl
theorem l_Jo_join_46 : xlk (xm_cd m_Jo_join) 46 = some (.iload_n 3, 1, (0, 0, 0, [])) := rfl
theorem l_Jo_join_47 : xlk (xm_cd m_Jo_join) 47 = some (.invokevirtual 15, 3, (675, 80, 1, [])) := rfl
theorem l_Jo_join_50 : xlk (xm_cd m_Jo_join) 50 = some (.aload_n 0, 1, (0, 0, 0, [])) := rfl
theorem l_Jo_join_51 : xlk (xm_cd m_Jo_join) 51 = some (.invokestatic 32, 3, (740, 122, 2, [])) := rfl
theorem l_Jo_join_54 : xlk (xm_cd m_Jo_join) 54 = some (.ifCond .ne 17, 3, (0, 71, 0, [])) := rfl
theorem l_Jo_join_57 : xlk (xm_cd m_Jo_join) 57 = some (.aload_n 1, 1, (0, 0, 0, [])) := rfl
theorem l_Jo_join_58 : xlk (xm_cd m_Jo_join) 58 = some (.iload_n 3, 1, (0, 0, 0, [])) := rfl
theorem l_Jo_join_59 : xlk (xm_cd m_Jo_join) 59 = some (.invokevirtual 15, 3, (675, 80, 1, [])) := rfl
theorem l_Jo_join_62 : xlk (xm_cd m_Jo_join) 62 = some (.aload_n 2, 1, (0, 0, 0, [])) := rfl
theorem l_Jo_join_63 : xlk (xm_cd m_Jo_join) 63 = some (.invokestatic 36, 3, (709, 114, 2, [])) := rfl
theorem l_Jo_join_66 : xlk (xm_cd m_Jo_join) 66 = some (.ifCond .ne 5, 3, (0, 71, 0, [])) := rfl
theorem l_Jo_join_69 : xlk (xm_cd m_Jo_join) 69 = some (.iconst 0, 1, (0, 0, 0, [])) := rfl
theorem l_Jo_join_70 : xlk (xm_cd m_Jo_join) 70 = some (.ireturn, 1, (0, 0, 0, [])) := rfl
theorem l_Jo_join_71 : xlk (xm_cd m_Jo_join) 71 = some (.iinc 3 1, 3, (0, 0, 0, [])) := rfl
theorem l_Jo_join_74 : xlk (xm_cd m_Jo_join) 74 = some (.goto (-37), 3, (0, 37, 0, [])) := rfl
theorem l_Jo_join_77 : xlk (xm_cd m_Jo_join) 77 = some (.iconst 1, 1, (0, 0, 0, [])) := rfl
theorem l_Jo_join_78 : xlk (xm_cd m_Jo_join) 78 = some (.ireturn, 1, (0, 0, 0, [])) := rfl
def B_Jo_join_0 (d : Nat) (E : Option Value → xH → Prop) (f : xH) (a0 : Nat) (a1 : Nat) (a2 : Nat) : Prop :=
  (∃ fs, f a2 = some (xO 5 fs)) ∧ xSp xT0 d j_Pa_empty [.ref a2] f (fun w1 f2 => xvv w1 (xWp (xT0, xSp xT0 d, none, m_Jo_join, E) 6 [some (.ref a0), some (.ref a1), some (.ref a2), some (.int 0)] [] f2 0 0))
theorem b_Jo_join_0 {d : Nat} {E : Option Value → xH → Prop} {f : xH} {a0 : Nat} {a1 : Nat} {a2 : Nat} (h : B_Jo_join_0 d E f a0 a1 a2) : xWp (xT0, xSp xT0 d, none, m_Jo_join, E) 0 [some (.ref a0), some (.ref a1), some (.ref a2), none] [] f 0 0 := by
  unfold B_Jo_join_0 at h
  refine s_aln l_Jo_join_0 rfl ?_
  refine s_cvv (As := []) (r := []) l_Jo_join_1 rfl ⟨rfl, rfl⟩ rfl (Nat.le_of_ble_eq_true rfl) rfl ⟨Nat.zero_le _, Nat.zero_le _⟩ h (fun f2 h => ?_)
  refine s_ic 0 l_Jo_join_4 rfl ?_
  refine s_isn l_Jo_join_5 (Nat.le_of_ble_eq_true rfl) ?_
  exact h
def B_Jo_join_6 (d : Nat) (E : Option Value → xH → Prop) (f : xH) (a0 : Nat) (a1 : Nat) (a2 : Nat) (x3 : Int32) : Prop :=
  (∃ fs, f a0 = some (xO 5 fs)) ∧ xSp xT0 d j_Pa_size [.ref a0] f (fun w1 f2 => xvi w1 (fun v3 => xbr (v3 ≤ x3) (xWp (xT0, xSp xT0 d, none, m_Jo_join, E) 37 [some (.ref a0), some (.ref a1), some (.ref a2), some (.int 0)] [] f2 0 0) ((∃ fs, f2 a0 = some (xO 5 fs)) ∧ xSp xT0 d j_Pa_at [.ref a0, .int x3] f2 (fun w4 f5 => xvr w4 (fun r6 => xSp xT0 d j_Jo_joinFirst [.ref r6, .ref a1, .ref a2] f5 (fun w7 f8 => xvi w7 (fun v9 => xbr (¬ v9 = 0) (xWp (xT0, xSp xT0 d, none, m_Jo_join, E) 6 [some (.ref a0), some (.ref a1), some (.ref a2), some (.int (x3 + 1))] [] f8 0 0) (E (some (.int 0)) f8))))))))
theorem b_Jo_join_6 {d : Nat} {E : Option Value → xH → Prop} {f : xH} {a0 : Nat} {a1 : Nat} {a2 : Nat} {x3 : Int32} (h : B_Jo_join_6 d E f a0 a1 a2 x3) : xWp (xT0, xSp xT0 d, none, m_Jo_join, E) 6 [some (.ref a0), some (.ref a1), some (.ref a2), some (.int x3)] [] f 0 0 := by
  unfold B_Jo_join_6 at h
  refine s_iln l_Jo_join_6 rfl ?_
  refine s_aln l_Jo_join_7 rfl ?_
  refine s_cvi (As := []) (r := [.int x3]) l_Jo_join_8 rfl ⟨rfl, rfl⟩ rfl (Nat.le_of_ble_eq_true rfl) rfl ⟨Nat.zero_le _, Nat.zero_le _⟩ h (fun v3 f2 h => ?_)
  refine s_ifc l_Jo_join_11 h (fun h => ?_) (fun h => ?_)
  · refine s_ic 0 l_Jo_join_35 rfl ?_
    refine s_isn l_Jo_join_36 (Nat.le_of_ble_eq_true rfl) ?_
    exact h
  · refine s_aln l_Jo_join_14 rfl ?_
    refine s_iln l_Jo_join_15 rfl ?_
    refine s_cvr (As := [.int x3]) (r := []) l_Jo_join_16 rfl ⟨rfl, rfl⟩ rfl (Nat.le_of_ble_eq_true rfl) rfl ⟨Nat.zero_le _, Nat.zero_le _⟩ h (fun r6 f5 h => ?_)
    refine s_aln l_Jo_join_19 rfl ?_
    refine s_aln l_Jo_join_20 rfl ?_
    refine s_csi (As := [.ref r6, .ref a1, .ref a2]) (r := []) l_Jo_join_21 rfl ⟨rfl, rfl⟩ rfl (Nat.le_of_ble_eq_true rfl) rfl ⟨Nat.zero_le _, Nat.zero_le _⟩ h (fun v9 f8 h => ?_)
    refine s_if l_Jo_join_24 h (fun h => ?_) (fun h => ?_)
    · refine s_inc 1 l_Jo_join_29 rfl rfl ?_
      refine s_goto l_Jo_join_32 ?_
      exact h
    · refine s_ic 0 l_Jo_join_27 rfl ?_
      exact s_zret l_Jo_join_28 rfl ⟨Nat.zero_le _, Nat.zero_le _⟩ ⟨Or.inl rfl, h⟩
def B_Jo_join_37 (d : Nat) (E : Option Value → xH → Prop) (f : xH) (a0 : Nat) (a1 : Nat) (a2 : Nat) (x3 : Int32) : Prop :=
  (∃ fs, f a1 = some (xO 5 fs)) ∧ xSp xT0 d j_Pa_size [.ref a1] f (fun w1 f2 => xvi w1 (fun v3 => xbr (v3 ≤ x3) (E (some (.int 1)) f2) ((∃ fs, f2 a1 = some (xO 5 fs)) ∧ xSp xT0 d j_Pa_at [.ref a1, .int x3] f2 (fun w4 f5 => xvr w4 (fun r6 => xSp xT0 d j_Jo_isJoined [.ref r6, .ref a0] f5 (fun w7 f8 => xvi w7 (fun v9 => xbr (¬ v9 = 0) (xWp (xT0, xSp xT0 d, none, m_Jo_join, E) 37 [some (.ref a0), some (.ref a1), some (.ref a2), some (.int (x3 + 1))] [] f8 0 0) ((∃ fs, f8 a1 = some (xO 5 fs)) ∧ xSp xT0 d j_Pa_at [.ref a1, .int x3] f8 (fun w10 f11 => xvr w10 (fun r12 => xSp xT0 d j_Jo_keepCopy [.ref r12, .ref a2] f11 (fun w13 f14 => xvi w13 (fun v15 => xbr (¬ v15 = 0) (xWp (xT0, xSp xT0 d, none, m_Jo_join, E) 37 [some (.ref a0), some (.ref a1), some (.ref a2), some (.int (x3 + 1))] [] f14 0 0) (E (some (.int 0)) f14)))))))))))))
theorem b_Jo_join_37 {d : Nat} {E : Option Value → xH → Prop} {f : xH} {a0 : Nat} {a1 : Nat} {a2 : Nat} {x3 : Int32} (h : B_Jo_join_37 d E f a0 a1 a2 x3) : xWp (xT0, xSp xT0 d, none, m_Jo_join, E) 37 [some (.ref a0), some (.ref a1), some (.ref a2), some (.int x3)] [] f 0 0 := by
  unfold B_Jo_join_37 at h
  refine s_iln l_Jo_join_37 rfl ?_
  refine s_aln l_Jo_join_38 rfl ?_
  refine s_cvi (As := []) (r := [.int x3]) l_Jo_join_39 rfl ⟨rfl, rfl⟩ rfl (Nat.le_of_ble_eq_true rfl) rfl ⟨Nat.zero_le _, Nat.zero_le _⟩ h (fun v3 f2 h => ?_)
  refine s_ifc l_Jo_join_42 h (fun h => ?_) (fun h => ?_)
  · refine s_ic 1 l_Jo_join_77 rfl ?_
    exact s_zret l_Jo_join_78 rfl ⟨Nat.zero_le _, Nat.zero_le _⟩ ⟨Or.inr rfl, h⟩
  · refine s_aln l_Jo_join_45 rfl ?_
    refine s_iln l_Jo_join_46 rfl ?_
    refine s_cvr (As := [.int x3]) (r := []) l_Jo_join_47 rfl ⟨rfl, rfl⟩ rfl (Nat.le_of_ble_eq_true rfl) rfl ⟨Nat.zero_le _, Nat.zero_le _⟩ h (fun r6 f5 h => ?_)
    refine s_aln l_Jo_join_50 rfl ?_
    refine s_csi (As := [.ref r6, .ref a0]) (r := []) l_Jo_join_51 rfl ⟨rfl, rfl⟩ rfl (Nat.le_of_ble_eq_true rfl) rfl ⟨Nat.zero_le _, Nat.zero_le _⟩ h (fun v9 f8 h => ?_)
    refine s_if l_Jo_join_54 h (fun h => ?_) (fun h => ?_)
    · refine s_inc 1 l_Jo_join_71 rfl rfl ?_
      refine s_goto l_Jo_join_74 ?_
      exact h
    · refine s_aln l_Jo_join_57 rfl ?_
      refine s_iln l_Jo_join_58 rfl ?_
      refine s_cvr (As := [.int x3]) (r := []) l_Jo_join_59 rfl ⟨rfl, rfl⟩ rfl (Nat.le_of_ble_eq_true rfl) rfl ⟨Nat.zero_le _, Nat.zero_le _⟩ h (fun r12 f11 h => ?_)
      refine s_aln l_Jo_join_62 rfl ?_
      refine s_csi (As := [.ref r12, .ref a2]) (r := []) l_Jo_join_63 rfl ⟨rfl, rfl⟩ rfl (Nat.le_of_ble_eq_true rfl) rfl ⟨Nat.zero_le _, Nat.zero_le _⟩ h (fun v15 f14 h => ?_)
      refine s_if l_Jo_join_66 h (fun h => ?_) (fun h => ?_)
      · refine s_inc 1 l_Jo_join_71 rfl rfl ?_
        refine s_goto l_Jo_join_74 ?_
        exact h
      · refine s_ic 0 l_Jo_join_69 rfl ?_
        exact s_zret l_Jo_join_70 rfl ⟨Nat.zero_le _, Nat.zero_le _⟩ ⟨Or.inl rfl, h⟩
theorem l_Jo_joinFirst_0 : xlk (xm_cd m_Jo_joinFirst) 0 = some (.aload_n 0, 1, (0, 0, 0, [])) := rfl
theorem l_Jo_joinFirst_1 : xlk (xm_cd m_Jo_joinFirst) 1 = some (.invokevirtual 60, 3, (701, 55, 0, [])) := rfl
theorem l_Jo_joinFirst_4 : xlk (xm_cd m_Jo_joinFirst) 4 = some (.ifCond .eq 52, 3, (0, 56, 0, [])) := rfl
theorem l_Jo_joinFirst_7 : xlk (xm_cd m_Jo_joinFirst) 7 = some (.aload_n 1, 1, (0, 0, 0, [])) := rfl
theorem l_Jo_joinFirst_8 : xlk (xm_cd m_Jo_joinFirst) 8 = some (.aload_n 0, 1, (0, 0, 0, [])) := rfl
theorem l_Jo_joinFirst_9 : xlk (xm_cd m_Jo_joinFirst) 9 = some (.getfield 63, 3, (0, 4, 0, [])) := rfl
theorem l_Jo_joinFirst_12 : xlk (xm_cd m_Jo_joinFirst) 12 = some (.invokevirtual 53, 3, (689, 109, 1, [])) := rfl
theorem l_Jo_joinFirst_15 : xlk (xm_cd m_Jo_joinFirst) 15 = some (.istore_n 3, 1, (0, 0, 0, [])) := rfl
theorem l_Jo_joinFirst_16 : xlk (xm_cd m_Jo_joinFirst) 16 = some (.iload_n 3, 1, (0, 0, 0, [])) := rfl
theorem l_Jo_joinFirst_17 : xlk (xm_cd m_Jo_joinFirst) 17 = some (.iconst (-1), 1, (0, 0, 0, [])) := rfl
theorem l_Jo_joinFirst_18 : xlk (xm_cd m_Jo_joinFirst) 18 = some (.if_icmp .ne 9, 3, (0, 27, 0, [])) := rfl
theorem l_Jo_joinFirst_21 : xlk (xm_cd m_Jo_joinFirst) 21 = some (.aload_n 0, 1, (0, 0, 0, [])) := rfl
theorem l_Jo_joinFirst_22 : xlk (xm_cd m_Jo_joinFirst) 22 = some (.aload_n 2, 1, (0, 0, 0, [])) := rfl
theorem l_Jo_joinFirst_23 : xlk (xm_cd m_Jo_joinFirst) 23 = some (.invokestatic 36, 3, (709, 114, 2, [])) := rfl
theorem l_Jo_joinFirst_26 : xlk (xm_cd m_Jo_joinFirst) 26 = some (.ireturn, 1, (0, 0, 0, [])) := rfl
theorem l_Jo_joinFirst_27 : xlk (xm_cd m_Jo_joinFirst) 27 = some (.aload_n 2, 1, (0, 0, 0, [])) := rfl
theorem l_Jo_joinFirst_28 : xlk (xm_cd m_Jo_joinFirst) 28 = some (.invokevirtual 66, 3, (712, 51, 0, [])) := rfl
theorem l_Jo_joinFirst_31 : xlk (xm_cd m_Jo_joinFirst) 31 = some (.aload_n 0, 1, (0, 0, 0, [])) := rfl
theorem l_Jo_joinFirst_32 : xlk (xm_cd m_Jo_joinFirst) 32 = some (.aload_n 1, 1, (0, 0, 0, [])) := rfl
theorem l_Jo_joinFirst_33 : xlk (xm_cd m_Jo_joinFirst) 33 = some (.iload_n 3, 1, (0, 0, 0, [])) := rfl
theorem l_Jo_joinFirst_34 : xlk (xm_cd m_Jo_joinFirst) 34 = some (.invokevirtual 15, 3, (675, 80, 1, [])) := rfl
theorem l_Jo_joinFirst_37 : xlk (xm_cd m_Jo_joinFirst) 37 = some (.invokevirtual 70, 3, (724, 118, 2, [])) := rfl
theorem l_Jo_joinFirst_40 : xlk (xm_cd m_Jo_joinFirst) 40 = some (.ifCond .eq 10, 3, (0, 50, 0, [])) := rfl
theorem l_Jo_joinFirst_43 : xlk (xm_cd m_Jo_joinFirst) 43 = some (.aload_n 2, 1, (0, 0, 0, [])) := rfl
theorem l_Jo_joinFirst_44 : xlk (xm_cd m_Jo_joinFirst) 44 = some (.invokevirtual 74, 3, (723, 66, 0, [])) := rfl
theorem l_Jo_joinFirst_47 : xlk (xm_cd m_Jo_joinFirst) 47 = some (.ifCond .eq 7, 3, (0, 54, 0, [])) := rfl
theorem l_Jo_joinFirst_50 : xlk (xm_cd m_Jo_joinFirst) 50 = some (.iconst 1, 1, (0, 0, 0, [])) := rfl
theorem l_Jo_joinFirst_51 : xlk (xm_cd m_Jo_joinFirst) 51 = some (.goto 4, 3, (0, 55, 0, [])) := rfl
theorem l_Jo_joinFirst_54 : xlk (xm_cd m_Jo_joinFirst) 54 = some (.iconst 0, 1, (0, 0, 0, [])) := rfl
theorem l_Jo_joinFirst_55 : xlk (xm_cd m_Jo_joinFirst) 55 = some (.ireturn, 1, (0, 0, 0, [])) := rfl
theorem l_Jo_joinFirst_56 : xlk (xm_cd m_Jo_joinFirst) 56 = some (.aload_n 1, 1, (0, 0, 0, [])) := rfl
theorem l_Jo_joinFirst_57 : xlk (xm_cd m_Jo_joinFirst) 57 = some (.aload_n 0, 1, (0, 0, 0, [])) := rfl
theorem l_Jo_joinFirst_58 : xlk (xm_cd m_Jo_joinFirst) 58 = some (.getfield 63, 3, (0, 4, 0, [])) := rfl
theorem l_Jo_joinFirst_61 : xlk (xm_cd m_Jo_joinFirst) 61 = some (.invokevirtual 49, 3, (680, 107, 1, [])) := rfl
theorem l_Jo_joinFirst_64 : xlk (xm_cd m_Jo_joinFirst) 64 = some (.istore_n 3, 1, (0, 0, 0, [])) := rfl
theorem l_Jo_joinFirst_65 : xlk (xm_cd m_Jo_joinFirst) 65 = some (.iload_n 3, 1, (0, 0, 0, [])) := rfl
theorem l_Jo_joinFirst_66 : xlk (xm_cd m_Jo_joinFirst) 66 = some (.iconst (-1), 1, (0, 0, 0, [])) := rfl
theorem l_Jo_joinFirst_67 : xlk (xm_cd m_Jo_joinFirst) 67 = some (.if_icmp .eq 14, 3, (0, 81, 0, [])) := rfl
theorem l_Jo_joinFirst_70 : xlk (xm_cd m_Jo_joinFirst) 70 = some (.aload_n 1, 1, (0, 0, 0, [])) := rfl
theorem l_Jo_joinFirst_71 : xlk (xm_cd m_Jo_joinFirst) 71 = some (.iload_n 3, 1, (0, 0, 0, [])) := rfl
theorem l_Jo_joinFirst_72 : xlk (xm_cd m_Jo_joinFirst) 72 = some (.invokevirtual 15, 3, (675, 80, 1, [])) := rfl
theorem l_Jo_joinFirst_75 : xlk (xm_cd m_Jo_joinFirst) 75 = some (.getfield 77, 3, (0, 4, 4, [])) := rfl
theorem l_Jo_joinFirst_78 : xlk (xm_cd m_Jo_joinFirst) 78 = some (.ifCond .eq 9, 3, (0, 87, 0, [])) := rfl
theorem l_Jo_joinFirst_81 : xlk (xm_cd m_Jo_joinFirst) 81 = some (.aload_n 0, 1, (0, 0, 0, [])) := rfl
theorem l_Jo_joinFirst_82 : xlk (xm_cd m_Jo_joinFirst) 82 = some (.aload_n 2, 1, (0, 0, 0, [])) := rfl
theorem l_Jo_joinFirst_83 : xlk (xm_cd m_Jo_joinFirst) 83 = some (.invokestatic 36, 3, (709, 114, 2, [])) := rfl
theorem l_Jo_joinFirst_86 : xlk (xm_cd m_Jo_joinFirst) 86 = some (.ireturn, 1, (0, 0, 0, [])) := rfl
theorem l_Jo_joinFirst_87 : xlk (xm_cd m_Jo_joinFirst) 87 = some (.aload_n 2, 1, (0, 0, 0, [])) := rfl
theorem l_Jo_joinFirst_88 : xlk (xm_cd m_Jo_joinFirst) 88 = some (.invokevirtual 66, 3, (712, 51, 0, [])) := rfl
theorem l_Jo_joinFirst_91 : xlk (xm_cd m_Jo_joinFirst) 91 = some (.aload_n 0, 1, (0, 0, 0, [])) := rfl
theorem l_Jo_joinFirst_92 : xlk (xm_cd m_Jo_joinFirst) 92 = some (.aload_n 1, 1, (0, 0, 0, [])) := rfl
theorem l_Jo_joinFirst_93 : xlk (xm_cd m_Jo_joinFirst) 93 = some (.iload_n 3, 1, (0, 0, 0, [])) := rfl
theorem l_Jo_joinFirst_94 : xlk (xm_cd m_Jo_joinFirst) 94 = some (.invokevirtual 15, 3, (675, 80, 1, [])) := rfl
theorem l_Jo_joinFirst_97 : xlk (xm_cd m_Jo_joinFirst) 97 = some (.invokevirtual 81, 3, (736, 121, 2, [])) := rfl
theorem l_Jo_joinFirst_100 : xlk (xm_cd m_Jo_joinFirst) 100 = some (.aload_n 2, 1, (0, 0, 0, [])) := rfl
theorem l_Jo_joinFirst_101 : xlk (xm_cd m_Jo_joinFirst) 101 = some (.invokevirtual 74, 3, (723, 66, 0, [])) := rfl
theorem l_Jo_joinFirst_104 : xlk (xm_cd m_Jo_joinFirst) 104 = some (.ireturn, 1, (0, 0, 0, [])) := rfl
def B_Jo_joinFirst_0 (d : Nat) (E : Option Value → xH → Prop) (f : xH) (a0 : Nat) (a1 : Nat) (a2 : Nat) : Prop :=
  (∃ fs, f a0 = some (xO 4 fs)) ∧ xSp xT0 d j_St_hasTarget [.ref a0] f (fun w1 f2 => xvi w1 (fun v3 => xbr (v3 = 0) (xgr f2 a0 4 0 (fun r4 => (∃ fs, f2 a1 = some (xO 5 fs)) ∧ xSp xT0 d j_Pa_findTarget [.ref a1, .ref r4] f2 (fun w5 f6 => xvi w5 (fun v7 => xbr (v7 = (-1)) (xSp xT0 d j_Jo_keepCopy [.ref a0, .ref a2] f6 (fun w8 f9 => xvi w8 (fun v10 => (v10 = 0 ∨ v10 = 1) ∧ E (some (.int v10)) f9))) ((∃ fs, f6 a1 = some (xO 5 fs)) ∧ xSp xT0 d j_Pa_at [.ref a1, .int v7] f6 (fun w11 f12 => xvr w11 (fun r13 => xgi f12 r13 4 4 (fun v14 => xbr (v14 = 0) ((∃ fs, f12 a2 = some (xO 5 fs)) ∧ xSp xT0 d j_Pa_blank [.ref a2] f12 (fun w15 f16 => xvr w15 (fun r17 => (∃ fs, f16 a1 = some (xO 5 fs)) ∧ xSp xT0 d j_Pa_at [.ref a1, .int v7] f16 (fun w18 f19 => xvr w18 (fun r20 => (∃ fs, f19 r17 = some (xO 4 fs)) ∧ xSp xT0 d j_St_changeOf [.ref r17, .ref a0, .ref r20] f19 (fun w21 f22 => xvv w21 ((∃ fs, f22 a2 = some (xO 5 fs)) ∧ xSp xT0 d j_Pa_keepBlank [.ref a2] f22 (fun w23 f24 => xvi w23 (fun v25 => (v25 = 0 ∨ v25 = 1) ∧ E (some (.int v25)) f24))))))))) (xSp xT0 d j_Jo_keepCopy [.ref a0, .ref a2] f12 (fun w26 f27 => xvi w26 (fun v28 => (v28 = 0 ∨ v28 = 1) ∧ E (some (.int v28)) f27))))))))))) (xgr f2 a0 4 0 (fun r29 => (∃ fs, f2 a1 = some (xO 5 fs)) ∧ xSp xT0 d j_Pa_findSource [.ref a1, .ref r29] f2 (fun w30 f31 => xvi w30 (fun v32 => xbr (¬ v32 = (-1)) ((∃ fs, f31 a2 = some (xO 5 fs)) ∧ xSp xT0 d j_Pa_blank [.ref a2] f31 (fun w33 f34 => xvr w33 (fun r35 => (∃ fs, f34 a1 = some (xO 5 fs)) ∧ xSp xT0 d j_Pa_at [.ref a1, .int v32] f34 (fun w36 f37 => xvr w36 (fun r38 => (∃ fs, f37 r35 = some (xO 4 fs)) ∧ xSp xT0 d j_St_joinOf [.ref r35, .ref a0, .ref r38] f37 (fun w39 f40 => xvi w39 (fun v41 => xbr (v41 = 0) (E (some (.int 1)) f40) ((∃ fs, f40 a2 = some (xO 5 fs)) ∧ xSp xT0 d j_Pa_keepBlank [.ref a2] f40 (fun w42 f43 => xvi w42 (fun v44 => xbr (v44 = 0) (E (some (.int 0)) f43) (E (some (.int 1)) f43))))))))))) (xSp xT0 d j_Jo_keepCopy [.ref a0, .ref a2] f31 (fun w45 f46 => xvi w45 (fun v47 => (v47 = 0 ∨ v47 = 1) ∧ E (some (.int v47)) f46)))))))))
theorem b_Jo_joinFirst_0 {d : Nat} {E : Option Value → xH → Prop} {f : xH} {a0 : Nat} {a1 : Nat} {a2 : Nat} (h : B_Jo_joinFirst_0 d E f a0 a1 a2) : xWp (xT0, xSp xT0 d, none, m_Jo_joinFirst, E) 0 [some (.ref a0), some (.ref a1), some (.ref a2), none] [] f 0 0 := by
  unfold B_Jo_joinFirst_0 at h
  refine s_aln l_Jo_joinFirst_0 rfl ?_
  refine s_cvi (As := []) (r := []) l_Jo_joinFirst_1 rfl ⟨rfl, rfl⟩ rfl (Nat.le_of_ble_eq_true rfl) rfl ⟨Nat.zero_le _, Nat.zero_le _⟩ h (fun v3 f2 h => ?_)
  refine s_if l_Jo_joinFirst_4 h (fun h => ?_) (fun h => ?_)
  · refine s_aln l_Jo_joinFirst_56 rfl ?_
    refine s_aln l_Jo_joinFirst_57 rfl ?_
    refine s_gr l_Jo_joinFirst_58 h (fun r4 h => ?_)
    refine s_cvi (As := [.ref r4]) (r := []) l_Jo_joinFirst_61 rfl ⟨rfl, rfl⟩ rfl (Nat.le_of_ble_eq_true rfl) rfl ⟨Nat.zero_le _, Nat.zero_le _⟩ h (fun v7 f6 h => ?_)
    refine s_isn l_Jo_joinFirst_64 (Nat.le_of_ble_eq_true rfl) ?_
    refine s_iln l_Jo_joinFirst_65 rfl ?_
    refine s_ic (-1) l_Jo_joinFirst_66 rfl ?_
    refine s_ifc l_Jo_joinFirst_67 h (fun h => ?_) (fun h => ?_)
    · refine s_aln l_Jo_joinFirst_81 rfl ?_
      refine s_aln l_Jo_joinFirst_82 rfl ?_
      refine s_csi (As := [.ref a0, .ref a2]) (r := []) l_Jo_joinFirst_83 rfl ⟨rfl, rfl⟩ rfl (Nat.le_of_ble_eq_true rfl) rfl ⟨Nat.zero_le _, Nat.zero_le _⟩ h (fun v10 f9 h => ?_)
      exact s_zret l_Jo_joinFirst_86 rfl ⟨Nat.zero_le _, Nat.zero_le _⟩ h
    · refine s_aln l_Jo_joinFirst_70 rfl ?_
      refine s_iln l_Jo_joinFirst_71 rfl ?_
      refine s_cvr (As := [.int v7]) (r := []) l_Jo_joinFirst_72 rfl ⟨rfl, rfl⟩ rfl (Nat.le_of_ble_eq_true rfl) rfl ⟨Nat.zero_le _, Nat.zero_le _⟩ h (fun r13 f12 h => ?_)
      refine s_gi l_Jo_joinFirst_75 h (fun v14 h => ?_)
      refine s_if l_Jo_joinFirst_78 h (fun h => ?_) (fun h => ?_)
      · refine s_aln l_Jo_joinFirst_87 rfl ?_
        refine s_cvr (As := []) (r := []) l_Jo_joinFirst_88 rfl ⟨rfl, rfl⟩ rfl (Nat.le_of_ble_eq_true rfl) rfl ⟨Nat.zero_le _, Nat.zero_le _⟩ h (fun r17 f16 h => ?_)
        refine s_aln l_Jo_joinFirst_91 rfl ?_
        refine s_aln l_Jo_joinFirst_92 rfl ?_
        refine s_iln l_Jo_joinFirst_93 rfl ?_
        refine s_cvr (As := [.int v7]) (r := [.ref a0, .ref r17]) l_Jo_joinFirst_94 rfl ⟨rfl, rfl⟩ rfl (Nat.le_of_ble_eq_true rfl) rfl ⟨Nat.zero_le _, Nat.zero_le _⟩ h (fun r20 f19 h => ?_)
        refine s_cvv (As := [.ref a0, .ref r20]) (r := []) l_Jo_joinFirst_97 rfl ⟨rfl, rfl⟩ rfl (Nat.le_of_ble_eq_true rfl) rfl ⟨Nat.zero_le _, Nat.zero_le _⟩ h (fun f22 h => ?_)
        refine s_aln l_Jo_joinFirst_100 rfl ?_
        refine s_cvi (As := []) (r := []) l_Jo_joinFirst_101 rfl ⟨rfl, rfl⟩ rfl (Nat.le_of_ble_eq_true rfl) rfl ⟨Nat.zero_le _, Nat.zero_le _⟩ h (fun v25 f24 h => ?_)
        exact s_zret l_Jo_joinFirst_104 rfl ⟨Nat.zero_le _, Nat.zero_le _⟩ h
      · refine s_aln l_Jo_joinFirst_81 rfl ?_
        refine s_aln l_Jo_joinFirst_82 rfl ?_
        refine s_csi (As := [.ref a0, .ref a2]) (r := []) l_Jo_joinFirst_83 rfl ⟨rfl, rfl⟩ rfl (Nat.le_of_ble_eq_true rfl) rfl ⟨Nat.zero_le _, Nat.zero_le _⟩ h (fun v28 f27 h => ?_)
        exact s_zret l_Jo_joinFirst_86 rfl ⟨Nat.zero_le _, Nat.zero_le _⟩ h
  · refine s_aln l_Jo_joinFirst_7 rfl ?_
    refine s_aln l_Jo_joinFirst_8 rfl ?_
    refine s_gr l_Jo_joinFirst_9 h (fun r29 h => ?_)
    refine s_cvi (As := [.ref r29]) (r := []) l_Jo_joinFirst_12 rfl ⟨rfl, rfl⟩ rfl (Nat.le_of_ble_eq_true rfl) rfl ⟨Nat.zero_le _, Nat.zero_le _⟩ h (fun v32 f31 h => ?_)
    refine s_isn l_Jo_joinFirst_15 (Nat.le_of_ble_eq_true rfl) ?_
    refine s_iln l_Jo_joinFirst_16 rfl ?_
    refine s_ic (-1) l_Jo_joinFirst_17 rfl ?_
    refine s_ifc l_Jo_joinFirst_18 h (fun h => ?_) (fun h => ?_)
    · refine s_aln l_Jo_joinFirst_27 rfl ?_
      refine s_cvr (As := []) (r := []) l_Jo_joinFirst_28 rfl ⟨rfl, rfl⟩ rfl (Nat.le_of_ble_eq_true rfl) rfl ⟨Nat.zero_le _, Nat.zero_le _⟩ h (fun r35 f34 h => ?_)
      refine s_aln l_Jo_joinFirst_31 rfl ?_
      refine s_aln l_Jo_joinFirst_32 rfl ?_
      refine s_iln l_Jo_joinFirst_33 rfl ?_
      refine s_cvr (As := [.int v32]) (r := [.ref a0, .ref r35]) l_Jo_joinFirst_34 rfl ⟨rfl, rfl⟩ rfl (Nat.le_of_ble_eq_true rfl) rfl ⟨Nat.zero_le _, Nat.zero_le _⟩ h (fun r38 f37 h => ?_)
      refine s_cvi (As := [.ref a0, .ref r38]) (r := []) l_Jo_joinFirst_37 rfl ⟨rfl, rfl⟩ rfl (Nat.le_of_ble_eq_true rfl) rfl ⟨Nat.zero_le _, Nat.zero_le _⟩ h (fun v41 f40 h => ?_)
      refine s_if l_Jo_joinFirst_40 h (fun h => ?_) (fun h => ?_)
      · refine s_ic 1 l_Jo_joinFirst_50 rfl ?_
        refine s_goto l_Jo_joinFirst_51 ?_
        exact s_zret l_Jo_joinFirst_55 rfl ⟨Nat.zero_le _, Nat.zero_le _⟩ ⟨Or.inr rfl, h⟩
      · refine s_aln l_Jo_joinFirst_43 rfl ?_
        refine s_cvi (As := []) (r := []) l_Jo_joinFirst_44 rfl ⟨rfl, rfl⟩ rfl (Nat.le_of_ble_eq_true rfl) rfl ⟨Nat.zero_le _, Nat.zero_le _⟩ h (fun v44 f43 h => ?_)
        refine s_if l_Jo_joinFirst_47 h (fun h => ?_) (fun h => ?_)
        · refine s_ic 0 l_Jo_joinFirst_54 rfl ?_
          exact s_zret l_Jo_joinFirst_55 rfl ⟨Nat.zero_le _, Nat.zero_le _⟩ ⟨Or.inl rfl, h⟩
        · refine s_ic 1 l_Jo_joinFirst_50 rfl ?_
          refine s_goto l_Jo_joinFirst_51 ?_
          exact s_zret l_Jo_joinFirst_55 rfl ⟨Nat.zero_le _, Nat.zero_le _⟩ ⟨Or.inr rfl, h⟩
    · refine s_aln l_Jo_joinFirst_21 rfl ?_
      refine s_aln l_Jo_joinFirst_22 rfl ?_
      refine s_csi (As := [.ref a0, .ref a2]) (r := []) l_Jo_joinFirst_23 rfl ⟨rfl, rfl⟩ rfl (Nat.le_of_ble_eq_true rfl) rfl ⟨Nat.zero_le _, Nat.zero_le _⟩ h (fun v47 f46 h => ?_)
      exact s_zret l_Jo_joinFirst_26 rfl ⟨Nat.zero_le _, Nat.zero_le _⟩ h
theorem l_Jo_keepCopy_0 : xlk (xm_cd m_Jo_keepCopy) 0 = some (.aload_n 1, 1, (0, 0, 0, [])) := rfl
theorem l_Jo_keepCopy_1 : xlk (xm_cd m_Jo_keepCopy) 1 = some (.invokevirtual 66, 3, (712, 51, 0, [])) := rfl
theorem l_Jo_keepCopy_4 : xlk (xm_cd m_Jo_keepCopy) 4 = some (.aload_n 0, 1, (0, 0, 0, [])) := rfl
theorem l_Jo_keepCopy_5 : xlk (xm_cd m_Jo_keepCopy) 5 = some (.invokevirtual 85, 3, (713, 115, 1, [])) := rfl
theorem l_Jo_keepCopy_8 : xlk (xm_cd m_Jo_keepCopy) 8 = some (.aload_n 1, 1, (0, 0, 0, [])) := rfl
theorem l_Jo_keepCopy_9 : xlk (xm_cd m_Jo_keepCopy) 9 = some (.invokevirtual 74, 3, (723, 66, 0, [])) := rfl
theorem l_Jo_keepCopy_12 : xlk (xm_cd m_Jo_keepCopy) 12 = some (.ireturn, 1, (0, 0, 0, [])) := rfl
def B_Jo_keepCopy_0 (d : Nat) (E : Option Value → xH → Prop) (f : xH) (a0 : Nat) (a1 : Nat) : Prop :=
  (∃ fs, f a1 = some (xO 5 fs)) ∧ xSp xT0 d j_Pa_blank [.ref a1] f (fun w1 f2 => xvr w1 (fun r3 => (∃ fs, f2 r3 = some (xO 4 fs)) ∧ xSp xT0 d j_St_copyOf [.ref r3, .ref a0] f2 (fun w4 f5 => xvv w4 ((∃ fs, f5 a1 = some (xO 5 fs)) ∧ xSp xT0 d j_Pa_keepBlank [.ref a1] f5 (fun w6 f7 => xvi w6 (fun v8 => (v8 = 0 ∨ v8 = 1) ∧ E (some (.int v8)) f7))))))
theorem b_Jo_keepCopy_0 {d : Nat} {E : Option Value → xH → Prop} {f : xH} {a0 : Nat} {a1 : Nat} (h : B_Jo_keepCopy_0 d E f a0 a1) : xWp (xT0, xSp xT0 d, none, m_Jo_keepCopy, E) 0 [some (.ref a0), some (.ref a1)] [] f 0 0 := by
  unfold B_Jo_keepCopy_0 at h
  refine s_aln l_Jo_keepCopy_0 rfl ?_
  refine s_cvr (As := []) (r := []) l_Jo_keepCopy_1 rfl ⟨rfl, rfl⟩ rfl (Nat.le_of_ble_eq_true rfl) rfl ⟨Nat.zero_le _, Nat.zero_le _⟩ h (fun r3 f2 h => ?_)
  refine s_aln l_Jo_keepCopy_4 rfl ?_
  refine s_cvv (As := [.ref a0]) (r := []) l_Jo_keepCopy_5 rfl ⟨rfl, rfl⟩ rfl (Nat.le_of_ble_eq_true rfl) rfl ⟨Nat.zero_le _, Nat.zero_le _⟩ h (fun f5 h => ?_)
  refine s_aln l_Jo_keepCopy_8 rfl ?_
  refine s_cvi (As := []) (r := []) l_Jo_keepCopy_9 rfl ⟨rfl, rfl⟩ rfl (Nat.le_of_ble_eq_true rfl) rfl ⟨Nat.zero_le _, Nat.zero_le _⟩ h (fun v8 f7 h => ?_)
  exact s_zret l_Jo_keepCopy_12 rfl ⟨Nat.zero_le _, Nat.zero_le _⟩ h
theorem l_Jo_isJoined_0 : xlk (xm_cd m_Jo_isJoined) 0 = some (.aload_n 0, 1, (0, 0, 0, [])) := rfl
theorem l_Jo_isJoined_1 : xlk (xm_cd m_Jo_isJoined) 1 = some (.invokevirtual 39, 3, (679, 53, 0, [])) := rfl
theorem l_Jo_isJoined_4 : xlk (xm_cd m_Jo_isJoined) 4 = some (.ifCond .eq 21, 3, (0, 25, 0, [])) := rfl
theorem l_Jo_isJoined_7 : xlk (xm_cd m_Jo_isJoined) 7 = some (.aload_n 1, 1, (0, 0, 0, [])) := rfl
theorem l_Jo_isJoined_8 : xlk (xm_cd m_Jo_isJoined) 8 = some (.aload_n 0, 1, (0, 0, 0, [])) := rfl
theorem l_Jo_isJoined_9 : xlk (xm_cd m_Jo_isJoined) 9 = some (.getfield 45, 3, (0, 4, 1, [])) := rfl
theorem l_Jo_isJoined_12 : xlk (xm_cd m_Jo_isJoined) 12 = some (.invokevirtual 49, 3, (680, 107, 1, [])) := rfl
theorem l_Jo_isJoined_15 : xlk (xm_cd m_Jo_isJoined) 15 = some (.iconst (-1), 1, (0, 0, 0, [])) := rfl
theorem l_Jo_isJoined_16 : xlk (xm_cd m_Jo_isJoined) 16 = some (.if_icmp .eq 7, 3, (0, 23, 0, [])) := rfl
theorem l_Jo_isJoined_19 : xlk (xm_cd m_Jo_isJoined) 19 = some (.iconst 1, 1, (0, 0, 0, [])) := rfl
theorem l_Jo_isJoined_20 : xlk (xm_cd m_Jo_isJoined) 20 = some (.goto 4, 3, (0, 24, 0, [])) := rfl
theorem l_Jo_isJoined_23 : xlk (xm_cd m_Jo_isJoined) 23 = some (.iconst 0, 1, (0, 0, 0, [])) := rfl
theorem l_Jo_isJoined_24 : xlk (xm_cd m_Jo_isJoined) 24 = some (.ireturn, 1, (0, 0, 0, [])) := rfl
theorem l_Jo_isJoined_25 : xlk (xm_cd m_Jo_isJoined) 25 = some (.aload_n 1, 1, (0, 0, 0, [])) := rfl
theorem l_Jo_isJoined_26 : xlk (xm_cd m_Jo_isJoined) 26 = some (.aload_n 0, 1, (0, 0, 0, [])) := rfl
theorem l_Jo_isJoined_27 : xlk (xm_cd m_Jo_isJoined) 27 = some (.getfield 63, 3, (0, 4, 0, [])) := rfl
theorem l_Jo_isJoined_30 : xlk (xm_cd m_Jo_isJoined) 30 = some (.invokevirtual 53, 3, (689, 109, 1, [])) := rfl
theorem l_Jo_isJoined_33 : xlk (xm_cd m_Jo_isJoined) 33 = some (.istore_n 2, 1, (0, 0, 0, [])) := rfl
theorem l_Jo_isJoined_34 : xlk (xm_cd m_Jo_isJoined) 34 = some (.iload_n 2, 1, (0, 0, 0, [])) := rfl
theorem l_Jo_isJoined_35 : xlk (xm_cd m_Jo_isJoined) 35 = some (.iconst (-1), 1, (0, 0, 0, [])) := rfl
theorem l_Jo_isJoined_36 : xlk (xm_cd m_Jo_isJoined) 36 = some (.if_icmp .eq 19, 3, (0, 55, 0, [])) := rfl
theorem l_Jo_isJoined_39 : xlk (xm_cd m_Jo_isJoined) 39 = some (.aload_n 1, 1, (0, 0, 0, [])) := rfl
theorem l_Jo_isJoined_40 : xlk (xm_cd m_Jo_isJoined) 40 = some (.iload_n 2, 1, (0, 0, 0, [])) := rfl
theorem l_Jo_isJoined_41 : xlk (xm_cd m_Jo_isJoined) 41 = some (.invokevirtual 15, 3, (675, 80, 1, [])) := rfl
theorem l_Jo_isJoined_44 : xlk (xm_cd m_Jo_isJoined) 44 = some (.getfield 77, 3, (0, 4, 4, [])) := rfl
theorem l_Jo_isJoined_47 : xlk (xm_cd m_Jo_isJoined) 47 = some (.iconst 1, 1, (0, 0, 0, [])) := rfl
theorem l_Jo_isJoined_48 : xlk (xm_cd m_Jo_isJoined) 48 = some (.if_icmp .ne 7, 3, (0, 55, 0, [])) := rfl
theorem l_Jo_isJoined_51 : xlk (xm_cd m_Jo_isJoined) 51 = some (.iconst 1, 1, (0, 0, 0, [])) := rfl
theorem l_Jo_isJoined_52 : xlk (xm_cd m_Jo_isJoined) 52 = some (.goto 4, 3, (0, 56, 0, [])) := rfl
theorem l_Jo_isJoined_55 : xlk (xm_cd m_Jo_isJoined) 55 = some (.iconst 0, 1, (0, 0, 0, [])) := rfl
theorem l_Jo_isJoined_56 : xlk (xm_cd m_Jo_isJoined) 56 = some (.ireturn, 1, (0, 0, 0, [])) := rfl
def B_Jo_isJoined_0 (d : Nat) (E : Option Value → xH → Prop) (f : xH) (a0 : Nat) (a1 : Nat) : Prop :=
  (∃ fs, f a0 = some (xO 4 fs)) ∧ xSp xT0 d j_St_hasSource [.ref a0] f (fun w1 f2 => xvi w1 (fun v3 => xbr (v3 = 0) (xgr f2 a0 4 0 (fun r4 => (∃ fs, f2 a1 = some (xO 5 fs)) ∧ xSp xT0 d j_Pa_findSource [.ref a1, .ref r4] f2 (fun w5 f6 => xvi w5 (fun v7 => xbr (v7 = (-1)) (E (some (.int 0)) f6) ((∃ fs, f6 a1 = some (xO 5 fs)) ∧ xSp xT0 d j_Pa_at [.ref a1, .int v7] f6 (fun w8 f9 => xvr w8 (fun r10 => xgi f9 r10 4 4 (fun v11 => xbr (¬ v11 = 1) (E (some (.int 0)) f9) (E (some (.int 1)) f9))))))))) (xgr f2 a0 4 1 (fun r12 => (∃ fs, f2 a1 = some (xO 5 fs)) ∧ xSp xT0 d j_Pa_findTarget [.ref a1, .ref r12] f2 (fun w13 f14 => xvi w13 (fun v15 => xbr (v15 = (-1)) (E (some (.int 0)) f14) (E (some (.int 1)) f14)))))))
theorem b_Jo_isJoined_0 {d : Nat} {E : Option Value → xH → Prop} {f : xH} {a0 : Nat} {a1 : Nat} (h : B_Jo_isJoined_0 d E f a0 a1) : xWp (xT0, xSp xT0 d, none, m_Jo_isJoined, E) 0 [some (.ref a0), some (.ref a1), none] [] f 0 0 := by
  unfold B_Jo_isJoined_0 at h
  refine s_aln l_Jo_isJoined_0 rfl ?_
  refine s_cvi (As := []) (r := []) l_Jo_isJoined_1 rfl ⟨rfl, rfl⟩ rfl (Nat.le_of_ble_eq_true rfl) rfl ⟨Nat.zero_le _, Nat.zero_le _⟩ h (fun v3 f2 h => ?_)
  refine s_if l_Jo_isJoined_4 h (fun h => ?_) (fun h => ?_)
  · refine s_aln l_Jo_isJoined_25 rfl ?_
    refine s_aln l_Jo_isJoined_26 rfl ?_
    refine s_gr l_Jo_isJoined_27 h (fun r4 h => ?_)
    refine s_cvi (As := [.ref r4]) (r := []) l_Jo_isJoined_30 rfl ⟨rfl, rfl⟩ rfl (Nat.le_of_ble_eq_true rfl) rfl ⟨Nat.zero_le _, Nat.zero_le _⟩ h (fun v7 f6 h => ?_)
    refine s_isn l_Jo_isJoined_33 (Nat.le_of_ble_eq_true rfl) ?_
    refine s_iln l_Jo_isJoined_34 rfl ?_
    refine s_ic (-1) l_Jo_isJoined_35 rfl ?_
    refine s_ifc l_Jo_isJoined_36 h (fun h => ?_) (fun h => ?_)
    · refine s_ic 0 l_Jo_isJoined_55 rfl ?_
      exact s_zret l_Jo_isJoined_56 rfl ⟨Nat.zero_le _, Nat.zero_le _⟩ ⟨Or.inl rfl, h⟩
    · refine s_aln l_Jo_isJoined_39 rfl ?_
      refine s_iln l_Jo_isJoined_40 rfl ?_
      refine s_cvr (As := [.int v7]) (r := []) l_Jo_isJoined_41 rfl ⟨rfl, rfl⟩ rfl (Nat.le_of_ble_eq_true rfl) rfl ⟨Nat.zero_le _, Nat.zero_le _⟩ h (fun r10 f9 h => ?_)
      refine s_gi l_Jo_isJoined_44 h (fun v11 h => ?_)
      refine s_ic 1 l_Jo_isJoined_47 rfl ?_
      refine s_ifc l_Jo_isJoined_48 h (fun h => ?_) (fun h => ?_)
      · refine s_ic 0 l_Jo_isJoined_55 rfl ?_
        exact s_zret l_Jo_isJoined_56 rfl ⟨Nat.zero_le _, Nat.zero_le _⟩ ⟨Or.inl rfl, h⟩
      · refine s_ic 1 l_Jo_isJoined_51 rfl ?_
        refine s_goto l_Jo_isJoined_52 ?_
        exact s_zret l_Jo_isJoined_56 rfl ⟨Nat.zero_le _, Nat.zero_le _⟩ ⟨Or.inr rfl, h⟩
  · refine s_aln l_Jo_isJoined_7 rfl ?_
    refine s_aln l_Jo_isJoined_8 rfl ?_
    refine s_gr l_Jo_isJoined_9 h (fun r12 h => ?_)
    refine s_cvi (As := [.ref r12]) (r := []) l_Jo_isJoined_12 rfl ⟨rfl, rfl⟩ rfl (Nat.le_of_ble_eq_true rfl) rfl ⟨Nat.zero_le _, Nat.zero_le _⟩ h (fun v15 f14 h => ?_)
    refine s_ic (-1) l_Jo_isJoined_15 rfl ?_
    refine s_ifc l_Jo_isJoined_16 h (fun h => ?_) (fun h => ?_)
    · refine s_ic 0 l_Jo_isJoined_23 rfl ?_
      exact s_zret l_Jo_isJoined_24 rfl ⟨Nat.zero_le _, Nat.zero_le _⟩ ⟨Or.inl rfl, h⟩
    · refine s_ic 1 l_Jo_isJoined_19 rfl ?_
      refine s_goto l_Jo_isJoined_20 ?_
      exact s_zret l_Jo_isJoined_24 rfl ⟨Nat.zero_le _, Nat.zero_le _⟩ ⟨Or.inr rfl, h⟩
