/-! blocks of Tr, 0 -/
theorem l_Tr_empty_0 : xlk (xm_cd m_Tr_empty) 0 = some (.aload_n 0, 1, (0, 0, 0, [])) := rfl
theorem l_Tr_empty_1 : xlk (xm_cd m_Tr_empty) 1 = some (.iconst 0, 1, (0, 0, 0, [])) := rfl
theorem l_Tr_empty_2 : xlk (xm_cd m_Tr_empty) 2 = some (.putfield 27, 3, (122, 2, 3, [(0, 0)])) := rfl
theorem l_Tr_empty_5 : xlk (xm_cd m_Tr_empty) 5 = some (.return_, 1, (0, 0, 0, [])) := rfl
def B_Tr_empty_0 (d : Nat) (E : Option Value → xH → Prop) (f : xH) (a0 : Nat) : Prop :=
  xpf f a0 2 3 (.int 0) (fun f1 => E none f1)
theorem b_Tr_empty_0 {d : Nat} {E : Option Value → xH → Prop} {f : xH} {a0 : Nat} (h : B_Tr_empty_0 d E f a0) : xWp (xT0, xSp xT0 d, none, m_Tr_empty, E) 0 [some (.ref a0)] [] f 0 0 := by
  unfold B_Tr_empty_0 at h
  refine s_aln l_Tr_empty_0 rfl ?_
  refine s_ic 0 l_Tr_empty_1 rfl ?_
  refine s_pf l_Tr_empty_2 ⟨_, rfl⟩ h (fun f1 h => ?_)
  exact s_ret l_Tr_empty_5 ⟨Nat.zero_le _, Nat.zero_le _⟩ h
theorem l_Tr_copyOf_0 : xlk (xm_cd m_Tr_copyOf) 0 = some (.aload_n 0, 1, (0, 0, 0, [])) := rfl
theorem l_Tr_copyOf_1 : xlk (xm_cd m_Tr_copyOf) 1 = some (.aload_n 1, 1, (0, 0, 0, [])) := rfl
theorem l_Tr_copyOf_2 : xlk (xm_cd m_Tr_copyOf) 2 = some (.getfield 27, 3, (122, 2, 3, [])) := rfl
theorem l_Tr_copyOf_5 : xlk (xm_cd m_Tr_copyOf) 5 = some (.putfield 27, 3, (122, 2, 3, [(0, 0)])) := rfl
theorem l_Tr_copyOf_8 : xlk (xm_cd m_Tr_copyOf) 8 = some (.iconst 0, 1, (0, 0, 0, [])) := rfl
theorem l_Tr_copyOf_9 : xlk (xm_cd m_Tr_copyOf) 9 = some (.istore_n 2, 1, (0, 0, 0, [])) := rfl
theorem l_Tr_copyOf_10 : xlk (xm_cd m_Tr_copyOf) 10 = some (.iload_n 2, 1, (0, 0, 0, [])) := rfl
theorem l_Tr_copyOf_11 : xlk (xm_cd m_Tr_copyOf) 11 = some (.aload_n 0, 1, (0, 0, 0, [])) := rfl
theorem l_Tr_copyOf_12 : xlk (xm_cd m_Tr_copyOf) 12 = some (.getfield 27, 3, (122, 2, 3, [])) := rfl
theorem l_Tr_copyOf_15 : xlk (xm_cd m_Tr_copyOf) 15 = some (.if_icmp .ge 39, 3, (0, 54, 0, [])) := rfl
theorem l_Tr_copyOf_18 : xlk (xm_cd m_Tr_copyOf) 18 = some (.aload_n 0, 1, (0, 0, 0, [])) := rfl
theorem l_Tr_copyOf_19 : xlk (xm_cd m_Tr_copyOf) 19 = some (.getfield 11, 3, (119, 2, 0, [])) := rfl
theorem l_Tr_copyOf_22 : xlk (xm_cd m_Tr_copyOf) 22 = some (.iload_n 2, 1, (0, 0, 0, [])) := rfl
theorem l_Tr_copyOf_23 : xlk (xm_cd m_Tr_copyOf) 23 = some (.aaload, 1, (0, 3, 0, [])) := rfl
theorem l_Tr_copyOf_24 : xlk (xm_cd m_Tr_copyOf) 24 = some (.aload_n 1, 1, (0, 0, 0, [])) := rfl
theorem l_Tr_copyOf_25 : xlk (xm_cd m_Tr_copyOf) 25 = some (.getfield 11, 3, (119, 2, 0, [])) := rfl
theorem l_Tr_copyOf_28 : xlk (xm_cd m_Tr_copyOf) 28 = some (.iload_n 2, 1, (0, 0, 0, [])) := rfl
theorem l_Tr_copyOf_29 : xlk (xm_cd m_Tr_copyOf) 29 = some (.aaload, 1, (0, 3, 0, [])) := rfl
theorem l_Tr_copyOf_30 : xlk (xm_cd m_Tr_copyOf) 30 = some (.invokevirtual 39, 3, (337, 19, 1, [])) := rfl
theorem l_Tr_copyOf_33 : xlk (xm_cd m_Tr_copyOf) 33 = some (.aload_n 0, 1, (0, 0, 0, [])) := rfl
theorem l_Tr_copyOf_34 : xlk (xm_cd m_Tr_copyOf) 34 = some (.getfield 17, 3, (120, 2, 1, [])) := rfl
theorem l_Tr_copyOf_37 : xlk (xm_cd m_Tr_copyOf) 37 = some (.iload_n 2, 1, (0, 0, 0, [])) := rfl
theorem l_Tr_copyOf_38 : xlk (xm_cd m_Tr_copyOf) 38 = some (.aaload, 1, (0, 3, 0, [])) := rfl
theorem l_Tr_copyOf_39 : xlk (xm_cd m_Tr_copyOf) 39 = some (.aload_n 1, 1, (0, 0, 0, [])) := rfl
theorem l_Tr_copyOf_40 : xlk (xm_cd m_Tr_copyOf) 40 = some (.getfield 17, 3, (120, 2, 1, [])) := rfl
theorem l_Tr_copyOf_43 : xlk (xm_cd m_Tr_copyOf) 43 = some (.iload_n 2, 1, (0, 0, 0, [])) := rfl
theorem l_Tr_copyOf_44 : xlk (xm_cd m_Tr_copyOf) 44 = some (.aaload, 1, (0, 3, 0, [])) := rfl
theorem l_Tr_copyOf_45 : xlk (xm_cd m_Tr_copyOf) 45 = some (.invokevirtual 39, 3, (337, 19, 1, [])) := rfl
theorem l_Tr_copyOf_48 : xlk (xm_cd m_Tr_copyOf) 48 = some (.iinc 2 1, 3, (0, 0, 0, [])) := rfl
theorem l_Tr_copyOf_51 : xlk (xm_cd m_Tr_copyOf) 51 = some (.goto (-41), 3, (0, 10, 0, [])) := rfl
theorem l_Tr_copyOf_54 : xlk (xm_cd m_Tr_copyOf) 54 = some (.return_, 1, (0, 0, 0, [])) := rfl
def B_Tr_copyOf_0 (d : Nat) (E : Option Value → xH → Prop) (f : xH) (a0 : Nat) (a1 : Nat) : Prop :=
  xgi f a1 2 3 (fun v1 => xpf f a0 2 3 (.int v1) (fun f2 => xWp (xT0, xSp xT0 d, none, m_Tr_copyOf, E) 10 [some (.ref a0), some (.ref a1), some (.int 0)] [] f2 0 0))
theorem b_Tr_copyOf_0 {d : Nat} {E : Option Value → xH → Prop} {f : xH} {a0 : Nat} {a1 : Nat} (h : B_Tr_copyOf_0 d E f a0 a1) : xWp (xT0, xSp xT0 d, none, m_Tr_copyOf, E) 0 [some (.ref a0), some (.ref a1), none] [] f 0 0 := by
  unfold B_Tr_copyOf_0 at h
  refine s_aln l_Tr_copyOf_0 rfl ?_
  refine s_aln l_Tr_copyOf_1 rfl ?_
  refine s_gi l_Tr_copyOf_2 h (fun v1 h => ?_)
  refine s_pf l_Tr_copyOf_5 ⟨_, rfl⟩ h (fun f2 h => ?_)
  refine s_ic 0 l_Tr_copyOf_8 rfl ?_
  refine s_isn l_Tr_copyOf_9 (Nat.le_of_ble_eq_true rfl) ?_
  exact h
def B_Tr_copyOf_10 (d : Nat) (E : Option Value → xH → Prop) (f : xH) (a0 : Nat) (a1 : Nat) (x2 : Int32) : Prop :=
  xgi f a0 2 3 (fun v1 => xbr (v1 ≤ x2) (E none f) (xgr f a0 2 0 (fun r2 => xrl f r2 3 x2 (fun r3 => xgr f a1 2 0 (fun r4 => xrl f r4 3 x2 (fun r5 => (∃ fs, f r3 = some (xO 1 fs)) ∧ xSp xT0 d j_By_copyOf [.ref r3, .ref r5] f (fun w6 f7 => xvv w6 (xgr f7 a0 2 1 (fun r8 => xrl f7 r8 3 x2 (fun r9 => xgr f7 a1 2 1 (fun r10 => xrl f7 r10 3 x2 (fun r11 => (∃ fs, f7 r9 = some (xO 1 fs)) ∧ xSp xT0 d j_By_copyOf [.ref r9, .ref r11] f7 (fun w12 f13 => xvv w12 (xWp (xT0, xSp xT0 d, none, m_Tr_copyOf, E) 10 [some (.ref a0), some (.ref a1), some (.int (x2 + 1))] [] f13 0 0))))))))))))))
theorem b_Tr_copyOf_10 {d : Nat} {E : Option Value → xH → Prop} {f : xH} {a0 : Nat} {a1 : Nat} {x2 : Int32} (h : B_Tr_copyOf_10 d E f a0 a1 x2) : xWp (xT0, xSp xT0 d, none, m_Tr_copyOf, E) 10 [some (.ref a0), some (.ref a1), some (.int x2)] [] f 0 0 := by
  unfold B_Tr_copyOf_10 at h
  refine s_iln l_Tr_copyOf_10 rfl ?_
  refine s_aln l_Tr_copyOf_11 rfl ?_
  refine s_gi l_Tr_copyOf_12 h (fun v1 h => ?_)
  refine s_ifc l_Tr_copyOf_15 h (fun h => ?_) (fun h => ?_)
  · exact s_ret l_Tr_copyOf_54 ⟨Nat.zero_le _, Nat.zero_le _⟩ h
  · refine s_aln l_Tr_copyOf_18 rfl ?_
    refine s_gr l_Tr_copyOf_19 h (fun r2 h => ?_)
    refine s_iln l_Tr_copyOf_22 rfl ?_
    refine s_aal l_Tr_copyOf_23 h (fun r3 h => ?_)
    refine s_aln l_Tr_copyOf_24 rfl ?_
    refine s_gr l_Tr_copyOf_25 h (fun r4 h => ?_)
    refine s_iln l_Tr_copyOf_28 rfl ?_
    refine s_aal l_Tr_copyOf_29 h (fun r5 h => ?_)
    refine s_cvv (As := [.ref r5]) (r := []) l_Tr_copyOf_30 rfl ⟨rfl, rfl⟩ rfl (Nat.le_of_ble_eq_true rfl) rfl ⟨Nat.zero_le _, Nat.zero_le _⟩ h (fun f7 h => ?_)
    refine s_aln l_Tr_copyOf_33 rfl ?_
    refine s_gr l_Tr_copyOf_34 h (fun r8 h => ?_)
    refine s_iln l_Tr_copyOf_37 rfl ?_
    refine s_aal l_Tr_copyOf_38 h (fun r9 h => ?_)
    refine s_aln l_Tr_copyOf_39 rfl ?_
    refine s_gr l_Tr_copyOf_40 h (fun r10 h => ?_)
    refine s_iln l_Tr_copyOf_43 rfl ?_
    refine s_aal l_Tr_copyOf_44 h (fun r11 h => ?_)
    refine s_cvv (As := [.ref r11]) (r := []) l_Tr_copyOf_45 rfl ⟨rfl, rfl⟩ rfl (Nat.le_of_ble_eq_true rfl) rfl ⟨Nat.zero_le _, Nat.zero_le _⟩ h (fun f13 h => ?_)
    refine s_inc 1 l_Tr_copyOf_48 rfl rfl ?_
    refine s_goto l_Tr_copyOf_51 ?_
    exact h
theorem l_Tr_take_0 : xlk (xm_cd m_Tr_take) 0 = some (.aload_n 0, 1, (0, 0, 0, [])) := rfl
theorem l_Tr_take_1 : xlk (xm_cd m_Tr_take) 1 = some (.aload_n 1, 1, (0, 0, 0, [])) := rfl
theorem l_Tr_take_2 : xlk (xm_cd m_Tr_take) 2 = some (.invokevirtual 43, 3, (349, 28, 1, [])) := rfl
theorem l_Tr_take_5 : xlk (xm_cd m_Tr_take) 5 = some (.istore_n 3, 1, (0, 0, 0, [])) := rfl
theorem l_Tr_take_6 : xlk (xm_cd m_Tr_take) 6 = some (.iload_n 3, 1, (0, 0, 0, [])) := rfl
theorem l_Tr_take_7 : xlk (xm_cd m_Tr_take) 7 = some (.iconst (-1), 1, (0, 0, 0, [])) := rfl
theorem l_Tr_take_8 : xlk (xm_cd m_Tr_take) 8 = some (.if_icmp .ne 32, 3, (0, 40, 0, [])) := rfl
theorem l_Tr_take_11 : xlk (xm_cd m_Tr_take) 11 = some (.aload_n 0, 1, (0, 0, 0, [])) := rfl
theorem l_Tr_take_12 : xlk (xm_cd m_Tr_take) 12 = some (.aload_n 1, 1, (0, 0, 0, [])) := rfl
theorem l_Tr_take_13 : xlk (xm_cd m_Tr_take) 13 = some (.invokevirtual 47, 3, (361, 31, 1, [])) := rfl
theorem l_Tr_take_16 : xlk (xm_cd m_Tr_take) 16 = some (.ifCond .eq 6, 3, (0, 22, 0, [])) := rfl
theorem l_Tr_take_19 : xlk (xm_cd m_Tr_take) 19 = some (.bipush (-2), 2, (0, 0, 0, [])) := rfl
theorem l_Tr_take_21 : xlk (xm_cd m_Tr_take) 21 = some (.ireturn, 1, (0, 0, 0, [])) := rfl
theorem l_Tr_take_22 : xlk (xm_cd m_Tr_take) 22 = some (.aload_n 0, 1, (0, 0, 0, [])) := rfl
theorem l_Tr_take_23 : xlk (xm_cd m_Tr_take) 23 = some (.getfield 27, 3, (122, 2, 3, [])) := rfl
theorem l_Tr_take_26 : xlk (xm_cd m_Tr_take) 26 = some (.bipush 10, 2, (0, 0, 0, [])) := rfl
theorem l_Tr_take_28 : xlk (xm_cd m_Tr_take) 28 = some (.if_icmp .lt 6, 3, (0, 34, 0, [])) := rfl
theorem l_Tr_take_31 : xlk (xm_cd m_Tr_take) 31 = some (.bipush (-3), 2, (0, 0, 0, [])) := rfl
theorem l_Tr_take_33 : xlk (xm_cd m_Tr_take) 33 = some (.ireturn, 1, (0, 0, 0, [])) := rfl
theorem l_Tr_take_34 : xlk (xm_cd m_Tr_take) 34 = some (.aload_n 0, 1, (0, 0, 0, [])) := rfl
theorem l_Tr_take_35 : xlk (xm_cd m_Tr_take) 35 = some (.aload_n 1, 1, (0, 0, 0, [])) := rfl
theorem l_Tr_take_36 : xlk (xm_cd m_Tr_take) 36 = some (.invokevirtual 50, 3, (368, 33, 1, [])) := rfl
theorem l_Tr_take_39 : xlk (xm_cd m_Tr_take) 39 = some (.istore_n 3, 1, (0, 0, 0, [])) := rfl
theorem l_Tr_take_40 : xlk (xm_cd m_Tr_take) 40 = some (.aload_n 0, 1, (0, 0, 0, [])) := rfl
theorem l_Tr_take_41 : xlk (xm_cd m_Tr_take) 41 = some (.getfield 17, 3, (120, 2, 1, [])) := rfl
theorem l_Tr_take_44 : xlk (xm_cd m_Tr_take) 44 = some (.iload_n 3, 1, (0, 0, 0, [])) := rfl
theorem l_Tr_take_45 : xlk (xm_cd m_Tr_take) 45 = some (.aaload, 1, (0, 3, 0, [])) := rfl
theorem l_Tr_take_46 : xlk (xm_cd m_Tr_take) 46 = some (.aload_n 2, 1, (0, 0, 0, [])) := rfl
theorem l_Tr_take_47 : xlk (xm_cd m_Tr_take) 47 = some (.invokevirtual 39, 3, (337, 19, 1, [])) := rfl
theorem l_Tr_take_50 : xlk (xm_cd m_Tr_take) 50 = some (.aload_n 0, 1, (0, 0, 0, [])) := rfl
theorem l_Tr_take_51 : xlk (xm_cd m_Tr_take) 51 = some (.getfield 27, 3, (122, 2, 3, [])) := rfl
theorem l_Tr_take_54 : xlk (xm_cd m_Tr_take) 54 = some (.ireturn, 1, (0, 0, 0, [])) := rfl
def B_Tr_take_0 (d : Nat) (E : Option Value → xH → Prop) (f : xH) (a0 : Nat) (a1 : Nat) (a2 : Nat) : Prop :=
  (∃ fs, f a0 = some (xO 2 fs)) ∧ xSp xT0 d j_Tr_find [.ref a0, .ref a1] f (fun w1 f2 => xvi w1 (fun v3 => xbr (¬ v3 = (-1)) (xWp (xT0, xSp xT0 d, none, m_Tr_take, E) 40 [some (.ref a0), some (.ref a1), some (.ref a2), some (.int v3)] [] f2 0 0) ((∃ fs, f2 a0 = some (xO 2 fs)) ∧ xSp xT0 d j_Tr_isBarred [.ref a0, .ref a1] f2 (fun w4 f5 => xvi w4 (fun v6 => xbr (v6 = 0) (xgi f5 a0 2 3 (fun v7 => xbr (v7 < 10) ((∃ fs, f5 a0 = some (xO 2 fs)) ∧ xSp xT0 d j_Tr_makePlace [.ref a0, .ref a1] f5 (fun w8 f9 => xvi w8 (fun v10 => xWp (xT0, xSp xT0 d, none, m_Tr_take, E) 40 [some (.ref a0), some (.ref a1), some (.ref a2), some (.int v10)] [] f9 0 0))) (E (some (.int (-3))) f5))) (E (some (.int (-2))) f5))))))
theorem b_Tr_take_0 {d : Nat} {E : Option Value → xH → Prop} {f : xH} {a0 : Nat} {a1 : Nat} {a2 : Nat} (h : B_Tr_take_0 d E f a0 a1 a2) : xWp (xT0, xSp xT0 d, none, m_Tr_take, E) 0 [some (.ref a0), some (.ref a1), some (.ref a2), none] [] f 0 0 := by
  unfold B_Tr_take_0 at h
  refine s_aln l_Tr_take_0 rfl ?_
  refine s_aln l_Tr_take_1 rfl ?_
  refine s_cvi (As := [.ref a1]) (r := []) l_Tr_take_2 rfl ⟨rfl, rfl⟩ rfl (Nat.le_of_ble_eq_true rfl) rfl ⟨Nat.zero_le _, Nat.zero_le _⟩ h (fun v3 f2 h => ?_)
  refine s_isn l_Tr_take_5 (Nat.le_of_ble_eq_true rfl) ?_
  refine s_iln l_Tr_take_6 rfl ?_
  refine s_ic (-1) l_Tr_take_7 rfl ?_
  refine s_ifc l_Tr_take_8 h (fun h => ?_) (fun h => ?_)
  · exact h
  · refine s_aln l_Tr_take_11 rfl ?_
    refine s_aln l_Tr_take_12 rfl ?_
    refine s_cvi (As := [.ref a1]) (r := []) l_Tr_take_13 rfl ⟨rfl, rfl⟩ rfl (Nat.le_of_ble_eq_true rfl) rfl ⟨Nat.zero_le _, Nat.zero_le _⟩ h (fun v6 f5 h => ?_)
    refine s_if l_Tr_take_16 h (fun h => ?_) (fun h => ?_)
    · refine s_aln l_Tr_take_22 rfl ?_
      refine s_gi l_Tr_take_23 h (fun v7 h => ?_)
      refine s_bp 10 l_Tr_take_26 rfl ?_
      refine s_ifc l_Tr_take_28 h (fun h => ?_) (fun h => ?_)
      · refine s_aln l_Tr_take_34 rfl ?_
        refine s_aln l_Tr_take_35 rfl ?_
        refine s_cvi (As := [.ref a1]) (r := []) l_Tr_take_36 rfl ⟨rfl, rfl⟩ rfl (Nat.le_of_ble_eq_true rfl) rfl ⟨Nat.zero_le _, Nat.zero_le _⟩ h (fun v10 f9 h => ?_)
        refine s_isn l_Tr_take_39 (Nat.le_of_ble_eq_true rfl) ?_
        exact h
      · refine s_bp (-3) l_Tr_take_31 rfl ?_
        exact s_iret l_Tr_take_33 rfl ⟨Nat.zero_le _, Nat.zero_le _⟩ h
    · refine s_bp (-2) l_Tr_take_19 rfl ?_
      exact s_iret l_Tr_take_21 rfl ⟨Nat.zero_le _, Nat.zero_le _⟩ h
def B_Tr_take_40 (d : Nat) (E : Option Value → xH → Prop) (f : xH) (a0 : Nat) (a1 : Nat) (a2 : Nat) (x3 : Int32) : Prop :=
  xgr f a0 2 1 (fun r1 => xrl f r1 3 x3 (fun r2 => (∃ fs, f r2 = some (xO 1 fs)) ∧ xSp xT0 d j_By_copyOf [.ref r2, .ref a2] f (fun w3 f4 => xvv w3 (xgi f4 a0 2 3 (fun v5 => E (some (.int v5)) f4)))))
theorem b_Tr_take_40 {d : Nat} {E : Option Value → xH → Prop} {f : xH} {a0 : Nat} {a1 : Nat} {a2 : Nat} {x3 : Int32} (h : B_Tr_take_40 d E f a0 a1 a2 x3) : xWp (xT0, xSp xT0 d, none, m_Tr_take, E) 40 [some (.ref a0), some (.ref a1), some (.ref a2), some (.int x3)] [] f 0 0 := by
  unfold B_Tr_take_40 at h
  refine s_aln l_Tr_take_40 rfl ?_
  refine s_gr l_Tr_take_41 h (fun r1 h => ?_)
  refine s_iln l_Tr_take_44 rfl ?_
  refine s_aal l_Tr_take_45 h (fun r2 h => ?_)
  refine s_aln l_Tr_take_46 rfl ?_
  refine s_cvv (As := [.ref a2]) (r := []) l_Tr_take_47 rfl ⟨rfl, rfl⟩ rfl (Nat.le_of_ble_eq_true rfl) rfl ⟨Nat.zero_le _, Nat.zero_le _⟩ h (fun f4 h => ?_)
  refine s_aln l_Tr_take_50 rfl ?_
  refine s_gi l_Tr_take_51 h (fun v5 h => ?_)
  exact s_iret l_Tr_take_54 rfl ⟨Nat.zero_le _, Nat.zero_le _⟩ h
theorem l_Tr_find_0 : xlk (xm_cd m_Tr_find) 0 = some (.iconst 0, 1, (0, 0, 0, [])) := rfl
theorem l_Tr_find_1 : xlk (xm_cd m_Tr_find) 1 = some (.istore_n 2, 1, (0, 0, 0, [])) := rfl
theorem l_Tr_find_2 : xlk (xm_cd m_Tr_find) 2 = some (.iload_n 2, 1, (0, 0, 0, [])) := rfl
theorem l_Tr_find_3 : xlk (xm_cd m_Tr_find) 3 = some (.aload_n 0, 1, (0, 0, 0, [])) := rfl
theorem l_Tr_find_4 : xlk (xm_cd m_Tr_find) 4 = some (.getfield 27, 3, (122, 2, 3, [])) := rfl
theorem l_Tr_find_7 : xlk (xm_cd m_Tr_find) 7 = some (.if_icmp .ge 24, 3, (0, 31, 0, [])) := rfl
theorem l_Tr_find_10 : xlk (xm_cd m_Tr_find) 10 = some (.aload_n 0, 1, (0, 0, 0, [])) := rfl
theorem l_Tr_find_11 : xlk (xm_cd m_Tr_find) 11 = some (.getfield 11, 3, (119, 2, 0, [])) := rfl
theorem l_Tr_find_14 : xlk (xm_cd m_Tr_find) 14 = some (.iload_n 2, 1, (0, 0, 0, [])) := rfl
theorem l_Tr_find_15 : xlk (xm_cd m_Tr_find) 15 = some (.aaload, 1, (0, 3, 0, [])) := rfl
theorem l_Tr_find_16 : xlk (xm_cd m_Tr_find) 16 = some (.aload_n 1, 1, (0, 0, 0, [])) := rfl
theorem l_Tr_find_17 : xlk (xm_cd m_Tr_find) 17 = some (.invokevirtual 35, 3, (353, 29, 1, [])) := rfl
theorem l_Tr_find_20 : xlk (xm_cd m_Tr_find) 20 = some (.ifCond .eq 5, 3, (0, 25, 0, [])) := rfl
theorem l_Tr_find_23 : xlk (xm_cd m_Tr_find) 23 = some (.iload_n 2, 1, (0, 0, 0, [])) := rfl
theorem l_Tr_find_24 : xlk (xm_cd m_Tr_find) 24 = some (.ireturn, 1, (0, 0, 0, [])) := rfl
theorem l_Tr_find_25 : xlk (xm_cd m_Tr_find) 25 = some (.iinc 2 1, 3, (0, 0, 0, [])) := rfl
theorem l_Tr_find_28 : xlk (xm_cd m_Tr_find) 28 = some (.goto (-26), 3, (0, 2, 0, [])) := rfl
theorem l_Tr_find_31 : xlk (xm_cd m_Tr_find) 31 = some (.iconst (-1), 1, (0, 0, 0, [])) := rfl
theorem l_Tr_find_32 : xlk (xm_cd m_Tr_find) 32 = some (.ireturn, 1, (0, 0, 0, [])) := rfl
def B_Tr_find_0 (d : Nat) (E : Option Value → xH → Prop) (f : xH) (a0 : Nat) (a1 : Nat) : Prop :=
  xWp (xT0, xSp xT0 d, none, m_Tr_find, E) 2 [some (.ref a0), some (.ref a1), some (.int 0)] [] f 0 0
theorem b_Tr_find_0 {d : Nat} {E : Option Value → xH → Prop} {f : xH} {a0 : Nat} {a1 : Nat} (h : B_Tr_find_0 d E f a0 a1) : xWp (xT0, xSp xT0 d, none, m_Tr_find, E) 0 [some (.ref a0), some (.ref a1), none] [] f 0 0 := by
  unfold B_Tr_find_0 at h
  refine s_ic 0 l_Tr_find_0 rfl ?_
  refine s_isn l_Tr_find_1 (Nat.le_of_ble_eq_true rfl) ?_
  exact h
def B_Tr_find_2 (d : Nat) (E : Option Value → xH → Prop) (f : xH) (a0 : Nat) (a1 : Nat) (x2 : Int32) : Prop :=
  xgi f a0 2 3 (fun v1 => xbr (v1 ≤ x2) (E (some (.int (-1))) f) (xgr f a0 2 0 (fun r2 => xrl f r2 3 x2 (fun r3 => (∃ fs, f r3 = some (xO 1 fs)) ∧ xSp xT0 d j_By_equalTo [.ref r3, .ref a1] f (fun w4 f5 => xvi w4 (fun v6 => xbr (v6 = 0) (xWp (xT0, xSp xT0 d, none, m_Tr_find, E) 2 [some (.ref a0), some (.ref a1), some (.int (x2 + 1))] [] f5 0 0) (E (some (.int x2)) f5)))))))
theorem b_Tr_find_2 {d : Nat} {E : Option Value → xH → Prop} {f : xH} {a0 : Nat} {a1 : Nat} {x2 : Int32} (h : B_Tr_find_2 d E f a0 a1 x2) : xWp (xT0, xSp xT0 d, none, m_Tr_find, E) 2 [some (.ref a0), some (.ref a1), some (.int x2)] [] f 0 0 := by
  unfold B_Tr_find_2 at h
  refine s_iln l_Tr_find_2 rfl ?_
  refine s_aln l_Tr_find_3 rfl ?_
  refine s_gi l_Tr_find_4 h (fun v1 h => ?_)
  refine s_ifc l_Tr_find_7 h (fun h => ?_) (fun h => ?_)
  · refine s_ic (-1) l_Tr_find_31 rfl ?_
    exact s_iret l_Tr_find_32 rfl ⟨Nat.zero_le _, Nat.zero_le _⟩ h
  · refine s_aln l_Tr_find_10 rfl ?_
    refine s_gr l_Tr_find_11 h (fun r2 h => ?_)
    refine s_iln l_Tr_find_14 rfl ?_
    refine s_aal l_Tr_find_15 h (fun r3 h => ?_)
    refine s_aln l_Tr_find_16 rfl ?_
    refine s_cvi (As := [.ref a1]) (r := []) l_Tr_find_17 rfl ⟨rfl, rfl⟩ rfl (Nat.le_of_ble_eq_true rfl) rfl ⟨Nat.zero_le _, Nat.zero_le _⟩ h (fun v6 f5 h => ?_)
    refine s_if l_Tr_find_20 h (fun h => ?_) (fun h => ?_)
    · refine s_inc 1 l_Tr_find_25 rfl rfl ?_
      refine s_goto l_Tr_find_28 ?_
      exact h
    · refine s_iln l_Tr_find_23 rfl ?_
      exact s_iret l_Tr_find_24 rfl ⟨Nat.zero_le _, Nat.zero_le _⟩ h
theorem l_Tr_isBarred_0 : xlk (xm_cd m_Tr_isBarred) 0 = some (.iconst 0, 1, (0, 0, 0, [])) := rfl
theorem l_Tr_isBarred_1 : xlk (xm_cd m_Tr_isBarred) 1 = some (.istore_n 2, 1, (0, 0, 0, [])) := rfl
theorem l_Tr_isBarred_2 : xlk (xm_cd m_Tr_isBarred) 2 = some (.iload_n 2, 1, (0, 0, 0, [])) := rfl
theorem l_Tr_isBarred_3 : xlk (xm_cd m_Tr_isBarred) 3 = some (.aload_n 0, 1, (0, 0, 0, [])) := rfl
theorem l_Tr_isBarred_4 : xlk (xm_cd m_Tr_isBarred) 4 = some (.getfield 27, 3, (122, 2, 3, [])) := rfl
theorem l_Tr_isBarred_7 : xlk (xm_cd m_Tr_isBarred) 7 = some (.if_icmp .ge 37, 3, (0, 44, 0, [])) := rfl
theorem l_Tr_isBarred_10 : xlk (xm_cd m_Tr_isBarred) 10 = some (.aload_n 0, 1, (0, 0, 0, [])) := rfl
theorem l_Tr_isBarred_11 : xlk (xm_cd m_Tr_isBarred) 11 = some (.getfield 11, 3, (119, 2, 0, [])) := rfl
theorem l_Tr_isBarred_14 : xlk (xm_cd m_Tr_isBarred) 14 = some (.iload_n 2, 1, (0, 0, 0, [])) := rfl
theorem l_Tr_isBarred_15 : xlk (xm_cd m_Tr_isBarred) 15 = some (.aaload, 1, (0, 3, 0, [])) := rfl
theorem l_Tr_isBarred_16 : xlk (xm_cd m_Tr_isBarred) 16 = some (.aload_n 1, 1, (0, 0, 0, [])) := rfl
theorem l_Tr_isBarred_17 : xlk (xm_cd m_Tr_isBarred) 17 = some (.invokevirtual 53, 3, (364, 32, 1, [])) := rfl
theorem l_Tr_isBarred_20 : xlk (xm_cd m_Tr_isBarred) 20 = some (.ifCond .ne 16, 3, (0, 36, 0, [])) := rfl
theorem l_Tr_isBarred_23 : xlk (xm_cd m_Tr_isBarred) 23 = some (.aload_n 1, 1, (0, 0, 0, [])) := rfl
theorem l_Tr_isBarred_24 : xlk (xm_cd m_Tr_isBarred) 24 = some (.aload_n 0, 1, (0, 0, 0, [])) := rfl
theorem l_Tr_isBarred_25 : xlk (xm_cd m_Tr_isBarred) 25 = some (.getfield 11, 3, (119, 2, 0, [])) := rfl
theorem l_Tr_isBarred_28 : xlk (xm_cd m_Tr_isBarred) 28 = some (.iload_n 2, 1, (0, 0, 0, [])) := rfl
theorem l_Tr_isBarred_29 : xlk (xm_cd m_Tr_isBarred) 29 = some (.aaload, 1, (0, 3, 0, [])) := rfl
theorem l_Tr_isBarred_30 : xlk (xm_cd m_Tr_isBarred) 30 = some (.invokevirtual 53, 3, (364, 32, 1, [])) := rfl
theorem l_Tr_isBarred_33 : xlk (xm_cd m_Tr_isBarred) 33 = some (.ifCond .eq 5, 3, (0, 38, 0, [])) := rfl
theorem l_Tr_isBarred_36 : xlk (xm_cd m_Tr_isBarred) 36 = some (.iconst 1, 1, (0, 0, 0, [])) := rfl
theorem l_Tr_isBarred_37 : xlk (xm_cd m_Tr_isBarred) 37 = some (.ireturn, 1, (0, 0, 0, [])) := rfl
theorem l_Tr_isBarred_38 : xlk (xm_cd m_Tr_isBarred) 38 = some (.iinc 2 1, 3, (0, 0, 0, [])) := rfl
theorem l_Tr_isBarred_41 : xlk (xm_cd m_Tr_isBarred) 41 = some (.goto (-39), 3, (0, 2, 0, [])) := rfl
theorem l_Tr_isBarred_44 : xlk (xm_cd m_Tr_isBarred) 44 = some (.iconst 0, 1, (0, 0, 0, [])) := rfl
theorem l_Tr_isBarred_45 : xlk (xm_cd m_Tr_isBarred) 45 = some (.ireturn, 1, (0, 0, 0, [])) := rfl
def B_Tr_isBarred_0 (d : Nat) (E : Option Value → xH → Prop) (f : xH) (a0 : Nat) (a1 : Nat) : Prop :=
  xWp (xT0, xSp xT0 d, none, m_Tr_isBarred, E) 2 [some (.ref a0), some (.ref a1), some (.int 0)] [] f 0 0
theorem b_Tr_isBarred_0 {d : Nat} {E : Option Value → xH → Prop} {f : xH} {a0 : Nat} {a1 : Nat} (h : B_Tr_isBarred_0 d E f a0 a1) : xWp (xT0, xSp xT0 d, none, m_Tr_isBarred, E) 0 [some (.ref a0), some (.ref a1), none] [] f 0 0 := by
  unfold B_Tr_isBarred_0 at h
  refine s_ic 0 l_Tr_isBarred_0 rfl ?_
  refine s_isn l_Tr_isBarred_1 (Nat.le_of_ble_eq_true rfl) ?_
  exact h
def B_Tr_isBarred_2 (d : Nat) (E : Option Value → xH → Prop) (f : xH) (a0 : Nat) (a1 : Nat) (x2 : Int32) : Prop :=
  xgi f a0 2 3 (fun v1 => xbr (v1 ≤ x2) (E (some (.int 0)) f) (xgr f a0 2 0 (fun r2 => xrl f r2 3 x2 (fun r3 => (∃ fs, f r3 = some (xO 1 fs)) ∧ xSp xT0 d j_By_isAbove [.ref r3, .ref a1] f (fun w4 f5 => xvi w4 (fun v6 => xbr (¬ v6 = 0) (E (some (.int 1)) f5) (xgr f5 a0 2 0 (fun r7 => xrl f5 r7 3 x2 (fun r8 => (∃ fs, f5 a1 = some (xO 1 fs)) ∧ xSp xT0 d j_By_isAbove [.ref a1, .ref r8] f5 (fun w9 f10 => xvi w9 (fun v11 => xbr (v11 = 0) (xWp (xT0, xSp xT0 d, none, m_Tr_isBarred, E) 2 [some (.ref a0), some (.ref a1), some (.int (x2 + 1))] [] f10 0 0) (E (some (.int 1)) f10))))))))))))
theorem b_Tr_isBarred_2 {d : Nat} {E : Option Value → xH → Prop} {f : xH} {a0 : Nat} {a1 : Nat} {x2 : Int32} (h : B_Tr_isBarred_2 d E f a0 a1 x2) : xWp (xT0, xSp xT0 d, none, m_Tr_isBarred, E) 2 [some (.ref a0), some (.ref a1), some (.int x2)] [] f 0 0 := by
  unfold B_Tr_isBarred_2 at h
  refine s_iln l_Tr_isBarred_2 rfl ?_
  refine s_aln l_Tr_isBarred_3 rfl ?_
  refine s_gi l_Tr_isBarred_4 h (fun v1 h => ?_)
  refine s_ifc l_Tr_isBarred_7 h (fun h => ?_) (fun h => ?_)
  · refine s_ic 0 l_Tr_isBarred_44 rfl ?_
    exact s_zret l_Tr_isBarred_45 rfl ⟨Nat.zero_le _, Nat.zero_le _⟩ ⟨Or.inl rfl, h⟩
  · refine s_aln l_Tr_isBarred_10 rfl ?_
    refine s_gr l_Tr_isBarred_11 h (fun r2 h => ?_)
    refine s_iln l_Tr_isBarred_14 rfl ?_
    refine s_aal l_Tr_isBarred_15 h (fun r3 h => ?_)
    refine s_aln l_Tr_isBarred_16 rfl ?_
    refine s_cvi (As := [.ref a1]) (r := []) l_Tr_isBarred_17 rfl ⟨rfl, rfl⟩ rfl (Nat.le_of_ble_eq_true rfl) rfl ⟨Nat.zero_le _, Nat.zero_le _⟩ h (fun v6 f5 h => ?_)
    refine s_if l_Tr_isBarred_20 h (fun h => ?_) (fun h => ?_)
    · refine s_ic 1 l_Tr_isBarred_36 rfl ?_
      exact s_zret l_Tr_isBarred_37 rfl ⟨Nat.zero_le _, Nat.zero_le _⟩ ⟨Or.inr rfl, h⟩
    · refine s_aln l_Tr_isBarred_23 rfl ?_
      refine s_aln l_Tr_isBarred_24 rfl ?_
      refine s_gr l_Tr_isBarred_25 h (fun r7 h => ?_)
      refine s_iln l_Tr_isBarred_28 rfl ?_
      refine s_aal l_Tr_isBarred_29 h (fun r8 h => ?_)
      refine s_cvi (As := [.ref r8]) (r := []) l_Tr_isBarred_30 rfl ⟨rfl, rfl⟩ rfl (Nat.le_of_ble_eq_true rfl) rfl ⟨Nat.zero_le _, Nat.zero_le _⟩ h (fun v11 f10 h => ?_)
      refine s_if l_Tr_isBarred_33 h (fun h => ?_) (fun h => ?_)
      · refine s_inc 1 l_Tr_isBarred_38 rfl rfl ?_
        refine s_goto l_Tr_isBarred_41 ?_
        exact h
      · refine s_ic 1 l_Tr_isBarred_36 rfl ?_
        exact s_zret l_Tr_isBarred_37 rfl ⟨Nat.zero_le _, Nat.zero_le _⟩ ⟨Or.inr rfl, h⟩
theorem l_Tr_makePlace_0 : xlk (xm_cd m_Tr_makePlace) 0 = some (.aload_n 0, 1, (0, 0, 0, [])) := rfl
theorem l_Tr_makePlace_1 : xlk (xm_cd m_Tr_makePlace) 1 = some (.getfield 11, 3, (119, 2, 0, [])) := rfl
theorem l_Tr_makePlace_4 : xlk (xm_cd m_Tr_makePlace) 4 = some (.aload_n 0, 1, (0, 0, 0, [])) := rfl
theorem l_Tr_makePlace_5 : xlk (xm_cd m_Tr_makePlace) 5 = some (.getfield 27, 3, (122, 2, 3, [])) := rfl
theorem l_Tr_makePlace_8 : xlk (xm_cd m_Tr_makePlace) 8 = some (.aaload, 1, (0, 3, 0, [])) := rfl
theorem l_Tr_makePlace_9 : xlk (xm_cd m_Tr_makePlace) 9 = some (.astore_n 2, 1, (0, 0, 0, [])) := rfl
theorem l_Tr_makePlace_10 : xlk (xm_cd m_Tr_makePlace) 10 = some (.aload_n 0, 1, (0, 0, 0, [])) := rfl
theorem l_Tr_makePlace_11 : xlk (xm_cd m_Tr_makePlace) 11 = some (.getfield 17, 3, (120, 2, 1, [])) := rfl
theorem l_Tr_makePlace_14 : xlk (xm_cd m_Tr_makePlace) 14 = some (.aload_n 0, 1, (0, 0, 0, [])) := rfl
theorem l_Tr_makePlace_15 : xlk (xm_cd m_Tr_makePlace) 15 = some (.getfield 27, 3, (122, 2, 3, [])) := rfl
theorem l_Tr_makePlace_18 : xlk (xm_cd m_Tr_makePlace) 18 = some (.aaload, 1, (0, 3, 0, [])) := rfl
theorem l_Tr_makePlace_19 : xlk (xm_cd m_Tr_makePlace) 19 = some (.astore_n 3, 1, (0, 0, 0, [])) := rfl
theorem l_Tr_makePlace_20 : xlk (xm_cd m_Tr_makePlace) 20 = some (.aload_n 0, 1, (0, 0, 0, [])) := rfl
theorem l_Tr_makePlace_21 : xlk (xm_cd m_Tr_makePlace) 21 = some (.getfield 27, 3, (122, 2, 3, [])) := rfl
theorem l_Tr_makePlace_24 : xlk (xm_cd m_Tr_makePlace) 24 = some (.istore 4, 2, (0, 0, 0, [])) := rfl
theorem l_Tr_makePlace_26 : xlk (xm_cd m_Tr_makePlace) 26 = some (.iload 4, 2, (0, 0, 0, [])) := rfl
theorem l_Tr_makePlace_28 : xlk (xm_cd m_Tr_makePlace) 28 = some (.ifCond .le 57, 3, (0, 85, 0, [])) := rfl
theorem l_Tr_makePlace_31 : xlk (xm_cd m_Tr_makePlace) 31 = some (.aload_n 1, 1, (0, 0, 0, [])) := rfl
theorem l_Tr_makePlace_32 : xlk (xm_cd m_Tr_makePlace) 32 = some (.aload_n 0, 1, (0, 0, 0, [])) := rfl
theorem l_Tr_makePlace_33 : xlk (xm_cd m_Tr_makePlace) 33 = some (.getfield 11, 3, (119, 2, 0, [])) := rfl
theorem l_Tr_makePlace_36 : xlk (xm_cd m_Tr_makePlace) 36 = some (.iload 4, 2, (0, 0, 0, [])) := rfl
theorem l_Tr_makePlace_38 : xlk (xm_cd m_Tr_makePlace) 38 = some (.iconst 1, 1, (0, 0, 0, [])) := rfl
theorem l_Tr_makePlace_39 : xlk (xm_cd m_Tr_makePlace) 39 = some (.isub, 1, (0, 0, 0, [])) := rfl
theorem l_Tr_makePlace_40 : xlk (xm_cd m_Tr_makePlace) 40 = some (.aaload, 1, (0, 3, 0, [])) := rfl
theorem l_Tr_makePlace_41 : xlk (xm_cd m_Tr_makePlace) 41 = some (.invokevirtual 56, 3, (371, 30, 1, [])) := rfl
theorem l_Tr_makePlace_44 : xlk (xm_cd m_Tr_makePlace) 44 = some (.ifCond .ge 41, 3, (0, 85, 0, [])) := rfl
theorem l_Tr_makePlace_47 : xlk (xm_cd m_Tr_makePlace) 47 = some (.aload_n 0, 1, (0, 0, 0, [])) := rfl
theorem l_Tr_makePlace_48 : xlk (xm_cd m_Tr_makePlace) 48 = some (.getfield 11, 3, (119, 2, 0, [])) := rfl
theorem l_Tr_makePlace_51 : xlk (xm_cd m_Tr_makePlace) 51 = some (.iload 4, 2, (0, 0, 0, [])) := rfl
theorem l_Tr_makePlace_53 : xlk (xm_cd m_Tr_makePlace) 53 = some (.aload_n 0, 1, (0, 0, 0, [])) := rfl
theorem l_Tr_makePlace_54 : xlk (xm_cd m_Tr_makePlace) 54 = some (.getfield 11, 3, (119, 2, 0, [])) := rfl
theorem l_Tr_makePlace_57 : xlk (xm_cd m_Tr_makePlace) 57 = some (.iload 4, 2, (0, 0, 0, [])) := rfl
theorem l_Tr_makePlace_59 : xlk (xm_cd m_Tr_makePlace) 59 = some (.iconst 1, 1, (0, 0, 0, [])) := rfl
theorem l_Tr_makePlace_60 : xlk (xm_cd m_Tr_makePlace) 60 = some (.isub, 1, (0, 0, 0, [])) := rfl
theorem l_Tr_makePlace_61 : xlk (xm_cd m_Tr_makePlace) 61 = some (.aaload, 1, (0, 3, 0, [])) := rfl
theorem l_Tr_makePlace_62 : xlk (xm_cd m_Tr_makePlace) 62 = some (.aastore, 1, (0, 3, 1, [])) := rfl
theorem l_Tr_makePlace_63 : xlk (xm_cd m_Tr_makePlace) 63 = some (.aload_n 0, 1, (0, 0, 0, [])) := rfl
theorem l_Tr_makePlace_64 : xlk (xm_cd m_Tr_makePlace) 64 = some (.getfield 17, 3, (120, 2, 1, [])) := rfl
theorem l_Tr_makePlace_67 : xlk (xm_cd m_Tr_makePlace) 67 = some (.iload 4, 2, (0, 0, 0, [])) := rfl
theorem l_Tr_makePlace_69 : xlk (xm_cd m_Tr_makePlace) 69 = some (.aload_n 0, 1, (0, 0, 0, [])) := rfl
theorem l_Tr_makePlace_70 : xlk (xm_cd m_Tr_makePlace) 70 = some (.getfield 17, 3, (120, 2, 1, [])) := rfl
theorem l_Tr_makePlace_73 : xlk (xm_cd m_Tr_makePlace) 73 = some (.iload 4, 2, (0, 0, 0, [])) := rfl
theorem l_Tr_makePlace_75 : xlk (xm_cd m_Tr_makePlace) 75 = some (.iconst 1, 1, (0, 0, 0, [])) := rfl
theorem l_Tr_makePlace_76 : xlk (xm_cd m_Tr_makePlace) 76 = some (.isub, 1, (0, 0, 0, [])) := rfl
theorem l_Tr_makePlace_77 : xlk (xm_cd m_Tr_makePlace) 77 = some (.aaload, 1, (0, 3, 0, [])) := rfl
theorem l_Tr_makePlace_78 : xlk (xm_cd m_Tr_makePlace) 78 = some (.aastore, 1, (0, 3, 1, [])) := rfl
theorem l_Tr_makePlace_79 : xlk (xm_cd m_Tr_makePlace) 79 = some (.iinc 4 (-1), 3, (0, 0, 0, [])) := rfl
theorem l_Tr_makePlace_82 : xlk (xm_cd m_Tr_makePlace) 82 = some (.goto (-56), 3, (0, 26, 0, [])) := rfl
theorem l_Tr_makePlace_85 : xlk (xm_cd m_Tr_makePlace) 85 = some (.aload_n 2, 1, (0, 0, 0, [])) := rfl
theorem l_Tr_makePlace_86 : xlk (xm_cd m_Tr_makePlace) 86 = some (.aload_n 1, 1, (0, 0, 0, [])) := rfl
theorem l_Tr_makePlace_87 : xlk (xm_cd m_Tr_makePlace) 87 = some (.invokevirtual 39, 3, (337, 19, 1, [])) := rfl
theorem l_Tr_makePlace_90 : xlk (xm_cd m_Tr_makePlace) 90 = some (.aload_n 0, 1, (0, 0, 0, [])) := rfl
theorem l_Tr_makePlace_91 : xlk (xm_cd m_Tr_makePlace) 91 = some (.getfield 11, 3, (119, 2, 0, [])) := rfl
theorem l_Tr_makePlace_94 : xlk (xm_cd m_Tr_makePlace) 94 = some (.iload 4, 2, (0, 0, 0, [])) := rfl
theorem l_Tr_makePlace_96 : xlk (xm_cd m_Tr_makePlace) 96 = some (.aload_n 2, 1, (0, 0, 0, [])) := rfl
theorem l_Tr_makePlace_97 : xlk (xm_cd m_Tr_makePlace) 97 = some (.aastore, 1, (0, 3, 1, [])) := rfl
theorem l_Tr_makePlace_98 : xlk (xm_cd m_Tr_makePlace) 98 = some (.aload_n 0, 1, (0, 0, 0, [])) := rfl
theorem l_Tr_makePlace_99 : xlk (xm_cd m_Tr_makePlace) 99 = some (.getfield 17, 3, (120, 2, 1, [])) := rfl
theorem l_Tr_makePlace_102 : xlk (xm_cd m_Tr_makePlace) 102 = some (.iload 4, 2, (0, 0, 0, [])) := rfl
theorem l_Tr_makePlace_104 : xlk (xm_cd m_Tr_makePlace) 104 = some (.aload_n 3, 1, (0, 0, 0, [])) := rfl
theorem l_Tr_makePlace_105 : xlk (xm_cd m_Tr_makePlace) 105 = some (.aastore, 1, (0, 3, 1, [])) := rfl
theorem l_Tr_makePlace_106 : xlk (xm_cd m_Tr_makePlace) 106 = some (.aload_n 0, 1, (0, 0, 0, [])) := rfl
theorem l_Tr_makePlace_107 : xlk (xm_cd m_Tr_makePlace) 107 = some (.dup, 1, (0, 0, 0, [])) := rfl
theorem l_Tr_makePlace_108 : xlk (xm_cd m_Tr_makePlace) 108 = some (.getfield 27, 3, (122, 2, 3, [])) := rfl
theorem l_Tr_makePlace_111 : xlk (xm_cd m_Tr_makePlace) 111 = some (.iconst 1, 1, (0, 0, 0, [])) := rfl
theorem l_Tr_makePlace_112 : xlk (xm_cd m_Tr_makePlace) 112 = some (.iadd, 1, (0, 0, 0, [])) := rfl
theorem l_Tr_makePlace_113 : xlk (xm_cd m_Tr_makePlace) 113 = some (.putfield 27, 3, (122, 2, 3, [(0, 0)])) := rfl
theorem l_Tr_makePlace_116 : xlk (xm_cd m_Tr_makePlace) 116 = some (.iload 4, 2, (0, 0, 0, [])) := rfl
theorem l_Tr_makePlace_118 : xlk (xm_cd m_Tr_makePlace) 118 = some (.ireturn, 1, (0, 0, 0, [])) := rfl
def B_Tr_makePlace_0 (d : Nat) (E : Option Value → xH → Prop) (f : xH) (a0 : Nat) (a1 : Nat) : Prop :=
  xgr f a0 2 0 (fun r1 => xgi f a0 2 3 (fun v2 => xrl f r1 3 v2 (fun r3 => xgr f a0 2 1 (fun r4 => xgi f a0 2 3 (fun v5 => xrl f r4 3 v5 (fun r6 => xgi f a0 2 3 (fun v7 => xWp (xT0, xSp xT0 d, none, m_Tr_makePlace, E) 26 [some (.ref a0), some (.ref a1), some (.ref r3), some (.ref r6), some (.int v7)] [] f 0 0)))))))
theorem b_Tr_makePlace_0 {d : Nat} {E : Option Value → xH → Prop} {f : xH} {a0 : Nat} {a1 : Nat} (h : B_Tr_makePlace_0 d E f a0 a1) : xWp (xT0, xSp xT0 d, none, m_Tr_makePlace, E) 0 [some (.ref a0), some (.ref a1), none, none, none] [] f 0 0 := by
  unfold B_Tr_makePlace_0 at h
  refine s_aln l_Tr_makePlace_0 rfl ?_
  refine s_gr l_Tr_makePlace_1 h (fun r1 h => ?_)
  refine s_aln l_Tr_makePlace_4 rfl ?_
  refine s_gi l_Tr_makePlace_5 h (fun v2 h => ?_)
  refine s_aal l_Tr_makePlace_8 h (fun r3 h => ?_)
  refine s_asn l_Tr_makePlace_9 (Nat.le_of_ble_eq_true rfl) ?_
  refine s_aln l_Tr_makePlace_10 rfl ?_
  refine s_gr l_Tr_makePlace_11 h (fun r4 h => ?_)
  refine s_aln l_Tr_makePlace_14 rfl ?_
  refine s_gi l_Tr_makePlace_15 h (fun v5 h => ?_)
  refine s_aal l_Tr_makePlace_18 h (fun r6 h => ?_)
  refine s_asn l_Tr_makePlace_19 (Nat.le_of_ble_eq_true rfl) ?_
  refine s_aln l_Tr_makePlace_20 rfl ?_
  refine s_gi l_Tr_makePlace_21 h (fun v7 h => ?_)
  refine s_is l_Tr_makePlace_24 (Nat.le_of_ble_eq_true rfl) ?_
  exact h
def B_Tr_makePlace_26 (d : Nat) (E : Option Value → xH → Prop) (f : xH) (a0 : Nat) (a1 : Nat) (a2 : Nat) (a3 : Nat) (x4 : Int32) : Prop :=
  xbr (x4 ≤ 0) (xWp (xT0, xSp xT0 d, none, m_Tr_makePlace, E) 85 [some (.ref a0), some (.ref a1), some (.ref a2), some (.ref a3), some (.int x4)] [] f 0 0) (xgr f a0 2 0 (fun r1 => xrl f r1 3 (x4 - 1) (fun r2 => (∃ fs, f a1 = some (xO 1 fs)) ∧ xSp xT0 d j_By_order [.ref a1, .ref r2] f (fun w3 f4 => xvi w3 (fun v5 => xbr ((0 : Int32) ≤ v5) (xWp (xT0, xSp xT0 d, none, m_Tr_makePlace, E) 85 [some (.ref a0), some (.ref a1), some (.ref a2), some (.ref a3), some (.int x4)] [] f4 0 0) (xgr f4 a0 2 0 (fun r6 => xgr f4 a0 2 0 (fun r7 => xrl f4 r7 3 (x4 - 1) (fun r8 => xrs f4 r6 3 1 x4 r8 (fun f9 => xgr f9 a0 2 1 (fun r10 => xgr f9 a0 2 1 (fun r11 => xrl f9 r11 3 (x4 - 1) (fun r12 => xrs f9 r10 3 1 x4 r12 (fun f13 => xWp (xT0, xSp xT0 d, none, m_Tr_makePlace, E) 26 [some (.ref a0), some (.ref a1), some (.ref a2), some (.ref a3), some (.int (x4 + (-1)))] [] f13 0 0))))))))))))))
theorem b_Tr_makePlace_26 {d : Nat} {E : Option Value → xH → Prop} {f : xH} {a0 : Nat} {a1 : Nat} {a2 : Nat} {a3 : Nat} {x4 : Int32} (h : B_Tr_makePlace_26 d E f a0 a1 a2 a3 x4) : xWp (xT0, xSp xT0 d, none, m_Tr_makePlace, E) 26 [some (.ref a0), some (.ref a1), some (.ref a2), some (.ref a3), some (.int x4)] [] f 0 0 := by
  unfold B_Tr_makePlace_26 at h
  refine s_il l_Tr_makePlace_26 rfl ?_
  refine s_if l_Tr_makePlace_28 h (fun h => ?_) (fun h => ?_)
  · exact h
  · refine s_aln l_Tr_makePlace_31 rfl ?_
    refine s_aln l_Tr_makePlace_32 rfl ?_
    refine s_gr l_Tr_makePlace_33 h (fun r1 h => ?_)
    refine s_il l_Tr_makePlace_36 rfl ?_
    refine s_ic 1 l_Tr_makePlace_38 rfl ?_
    refine s_isub l_Tr_makePlace_39 ?_
    refine s_aal l_Tr_makePlace_40 h (fun r2 h => ?_)
    refine s_cvi (As := [.ref r2]) (r := []) l_Tr_makePlace_41 rfl ⟨rfl, rfl⟩ rfl (Nat.le_of_ble_eq_true rfl) rfl ⟨Nat.zero_le _, Nat.zero_le _⟩ h (fun v5 f4 h => ?_)
    refine s_if l_Tr_makePlace_44 h (fun h => ?_) (fun h => ?_)
    · exact h
    · refine s_aln l_Tr_makePlace_47 rfl ?_
      refine s_gr l_Tr_makePlace_48 h (fun r6 h => ?_)
      refine s_il l_Tr_makePlace_51 rfl ?_
      refine s_aln l_Tr_makePlace_53 rfl ?_
      refine s_gr l_Tr_makePlace_54 h (fun r7 h => ?_)
      refine s_il l_Tr_makePlace_57 rfl ?_
      refine s_ic 1 l_Tr_makePlace_59 rfl ?_
      refine s_isub l_Tr_makePlace_60 ?_
      refine s_aal l_Tr_makePlace_61 h (fun r8 h => ?_)
      refine s_aast l_Tr_makePlace_62 h (fun f9 h => ?_)
      refine s_aln l_Tr_makePlace_63 rfl ?_
      refine s_gr l_Tr_makePlace_64 h (fun r10 h => ?_)
      refine s_il l_Tr_makePlace_67 rfl ?_
      refine s_aln l_Tr_makePlace_69 rfl ?_
      refine s_gr l_Tr_makePlace_70 h (fun r11 h => ?_)
      refine s_il l_Tr_makePlace_73 rfl ?_
      refine s_ic 1 l_Tr_makePlace_75 rfl ?_
      refine s_isub l_Tr_makePlace_76 ?_
      refine s_aal l_Tr_makePlace_77 h (fun r12 h => ?_)
      refine s_aast l_Tr_makePlace_78 h (fun f13 h => ?_)
      refine s_inc (-1) l_Tr_makePlace_79 rfl rfl ?_
      refine s_goto l_Tr_makePlace_82 ?_
      exact h
def B_Tr_makePlace_85 (d : Nat) (E : Option Value → xH → Prop) (f : xH) (a0 : Nat) (a1 : Nat) (a2 : Nat) (a3 : Nat) (x4 : Int32) : Prop :=
  (∃ fs, f a2 = some (xO 1 fs)) ∧ xSp xT0 d j_By_copyOf [.ref a2, .ref a1] f (fun w1 f2 => xvv w1 (xgr f2 a0 2 0 (fun r3 => xrs f2 r3 3 1 x4 a2 (fun f4 => xgr f4 a0 2 1 (fun r5 => xrs f4 r5 3 1 x4 a3 (fun f6 => xgi f6 a0 2 3 (fun v7 => xpf f6 a0 2 3 (.int (v7 + 1)) (fun f8 => E (some (.int x4)) f8))))))))
theorem b_Tr_makePlace_85 {d : Nat} {E : Option Value → xH → Prop} {f : xH} {a0 : Nat} {a1 : Nat} {a2 : Nat} {a3 : Nat} {x4 : Int32} (h : B_Tr_makePlace_85 d E f a0 a1 a2 a3 x4) : xWp (xT0, xSp xT0 d, none, m_Tr_makePlace, E) 85 [some (.ref a0), some (.ref a1), some (.ref a2), some (.ref a3), some (.int x4)] [] f 0 0 := by
  unfold B_Tr_makePlace_85 at h
  refine s_aln l_Tr_makePlace_85 rfl ?_
  refine s_aln l_Tr_makePlace_86 rfl ?_
  refine s_cvv (As := [.ref a1]) (r := []) l_Tr_makePlace_87 rfl ⟨rfl, rfl⟩ rfl (Nat.le_of_ble_eq_true rfl) rfl ⟨Nat.zero_le _, Nat.zero_le _⟩ h (fun f2 h => ?_)
  refine s_aln l_Tr_makePlace_90 rfl ?_
  refine s_gr l_Tr_makePlace_91 h (fun r3 h => ?_)
  refine s_il l_Tr_makePlace_94 rfl ?_
  refine s_aln l_Tr_makePlace_96 rfl ?_
  refine s_aast l_Tr_makePlace_97 h (fun f4 h => ?_)
  refine s_aln l_Tr_makePlace_98 rfl ?_
  refine s_gr l_Tr_makePlace_99 h (fun r5 h => ?_)
  refine s_il l_Tr_makePlace_102 rfl ?_
  refine s_aln l_Tr_makePlace_104 rfl ?_
  refine s_aast l_Tr_makePlace_105 h (fun f6 h => ?_)
  refine s_aln l_Tr_makePlace_106 rfl ?_
  refine s_dup l_Tr_makePlace_107 rfl ?_
  refine s_gi l_Tr_makePlace_108 h (fun v7 h => ?_)
  refine s_ic 1 l_Tr_makePlace_111 rfl ?_
  refine s_iadd l_Tr_makePlace_112 ?_
  refine s_pf l_Tr_makePlace_113 ⟨_, rfl⟩ h (fun f8 h => ?_)
  refine s_il l_Tr_makePlace_116 rfl ?_
  exact s_iret l_Tr_makePlace_118 rfl ⟨Nat.zero_le _, Nat.zero_le _⟩ h
theorem l_Tr_remove_0 : xlk (xm_cd m_Tr_remove) 0 = some (.aload_n 0, 1, (0, 0, 0, [])) := rfl
theorem l_Tr_remove_1 : xlk (xm_cd m_Tr_remove) 1 = some (.iload_n 1, 1, (0, 0, 0, [])) := rfl
theorem l_Tr_remove_2 : xlk (xm_cd m_Tr_remove) 2 = some (.invokevirtual 31, 3, (381, 36, 1, [])) := rfl
theorem l_Tr_remove_5 : xlk (xm_cd m_Tr_remove) 5 = some (.ifCond .ne 4, 3, (0, 9, 0, [])) := rfl
theorem l_Tr_remove_8 : xlk (xm_cd m_Tr_remove) 8 = some (.return_, 1, (0, 0, 0, [])) := rfl
theorem l_Tr_remove_9 : xlk (xm_cd m_Tr_remove) 9 = some (.aload_n 0, 1, (0, 0, 0, [])) := rfl
theorem l_Tr_remove_10 : xlk (xm_cd m_Tr_remove) 10 = some (.getfield 11, 3, (119, 2, 0, [])) := rfl
theorem l_Tr_remove_13 : xlk (xm_cd m_Tr_remove) 13 = some (.iload_n 1, 1, (0, 0, 0, [])) := rfl
theorem l_Tr_remove_14 : xlk (xm_cd m_Tr_remove) 14 = some (.aaload, 1, (0, 3, 0, [])) := rfl
theorem l_Tr_remove_15 : xlk (xm_cd m_Tr_remove) 15 = some (.astore_n 2, 1, (0, 0, 0, [])) := rfl
theorem l_Tr_remove_16 : xlk (xm_cd m_Tr_remove) 16 = some (.aload_n 0, 1, (0, 0, 0, [])) := rfl
theorem l_Tr_remove_17 : xlk (xm_cd m_Tr_remove) 17 = some (.getfield 17, 3, (120, 2, 1, [])) := rfl
theorem l_Tr_remove_20 : xlk (xm_cd m_Tr_remove) 20 = some (.iload_n 1, 1, (0, 0, 0, [])) := rfl
theorem l_Tr_remove_21 : xlk (xm_cd m_Tr_remove) 21 = some (.aaload, 1, (0, 3, 0, [])) := rfl
theorem l_Tr_remove_22 : xlk (xm_cd m_Tr_remove) 22 = some (.astore_n 3, 1, (0, 0, 0, [])) := rfl
theorem l_Tr_remove_23 : xlk (xm_cd m_Tr_remove) 23 = some (.iload_n 1, 1, (0, 0, 0, [])) := rfl
theorem l_Tr_remove_24 : xlk (xm_cd m_Tr_remove) 24 = some (.iconst 1, 1, (0, 0, 0, [])) := rfl
theorem l_Tr_remove_25 : xlk (xm_cd m_Tr_remove) 25 = some (.iadd, 1, (0, 0, 0, [])) := rfl
theorem l_Tr_remove_26 : xlk (xm_cd m_Tr_remove) 26 = some (.istore 4, 2, (0, 0, 0, [])) := rfl
theorem l_Tr_remove_28 : xlk (xm_cd m_Tr_remove) 28 = some (.iload 4, 2, (0, 0, 0, [])) := rfl
theorem l_Tr_remove_30 : xlk (xm_cd m_Tr_remove) 30 = some (.aload_n 0, 1, (0, 0, 0, [])) := rfl
theorem l_Tr_remove_31 : xlk (xm_cd m_Tr_remove) 31 = some (.getfield 27, 3, (122, 2, 3, [])) := rfl
theorem l_Tr_remove_34 : xlk (xm_cd m_Tr_remove) 34 = some (.if_icmp .ge 41, 3, (0, 75, 0, [])) := rfl
theorem l_Tr_remove_37 : xlk (xm_cd m_Tr_remove) 37 = some (.aload_n 0, 1, (0, 0, 0, [])) := rfl
theorem l_Tr_remove_38 : xlk (xm_cd m_Tr_remove) 38 = some (.getfield 11, 3, (119, 2, 0, [])) := rfl
theorem l_Tr_remove_41 : xlk (xm_cd m_Tr_remove) 41 = some (.iload 4, 2, (0, 0, 0, [])) := rfl
theorem l_Tr_remove_43 : xlk (xm_cd m_Tr_remove) 43 = some (.iconst 1, 1, (0, 0, 0, [])) := rfl
theorem l_Tr_remove_44 : xlk (xm_cd m_Tr_remove) 44 = some (.isub, 1, (0, 0, 0, [])) := rfl
theorem l_Tr_remove_45 : xlk (xm_cd m_Tr_remove) 45 = some (.aload_n 0, 1, (0, 0, 0, [])) := rfl
theorem l_Tr_remove_46 : xlk (xm_cd m_Tr_remove) 46 = some (.getfield 11, 3, (119, 2, 0, [])) := rfl
theorem l_Tr_remove_49 : xlk (xm_cd m_Tr_remove) 49 = some (.iload 4, 2, (0, 0, 0, [])) := rfl
theorem l_Tr_remove_51 : xlk (xm_cd m_Tr_remove) 51 = some (.aaload, 1, (0, 3, 0, [])) := rfl
theorem l_Tr_remove_52 : xlk (xm_cd m_Tr_remove) 52 = some (.aastore, 1, (0, 3, 1, [])) := rfl
theorem l_Tr_remove_53 : xlk (xm_cd m_Tr_remove) 53 = some (.aload_n 0, 1, (0, 0, 0, [])) := rfl
theorem l_Tr_remove_54 : xlk (xm_cd m_Tr_remove) 54 = some (.getfield 17, 3, (120, 2, 1, [])) := rfl
theorem l_Tr_remove_57 : xlk (xm_cd m_Tr_remove) 57 = some (.iload 4, 2, (0, 0, 0, [])) := rfl
theorem l_Tr_remove_59 : xlk (xm_cd m_Tr_remove) 59 = some (.iconst 1, 1, (0, 0, 0, [])) := rfl
theorem l_Tr_remove_60 : xlk (xm_cd m_Tr_remove) 60 = some (.isub, 1, (0, 0, 0, [])) := rfl
theorem l_Tr_remove_61 : xlk (xm_cd m_Tr_remove) 61 = some (.aload_n 0, 1, (0, 0, 0, [])) := rfl
theorem l_Tr_remove_62 : xlk (xm_cd m_Tr_remove) 62 = some (.getfield 17, 3, (120, 2, 1, [])) := rfl
theorem l_Tr_remove_65 : xlk (xm_cd m_Tr_remove) 65 = some (.iload 4, 2, (0, 0, 0, [])) := rfl
theorem l_Tr_remove_67 : xlk (xm_cd m_Tr_remove) 67 = some (.aaload, 1, (0, 3, 0, [])) := rfl
theorem l_Tr_remove_68 : xlk (xm_cd m_Tr_remove) 68 = some (.aastore, 1, (0, 3, 1, [])) := rfl
theorem l_Tr_remove_69 : xlk (xm_cd m_Tr_remove) 69 = some (.iinc 4 1, 3, (0, 0, 0, [])) := rfl
theorem l_Tr_remove_72 : xlk (xm_cd m_Tr_remove) 72 = some (.goto (-44), 3, (0, 28, 0, [])) := rfl
theorem l_Tr_remove_75 : xlk (xm_cd m_Tr_remove) 75 = some (.aload_n 0, 1, (0, 0, 0, [])) := rfl
theorem l_Tr_remove_76 : xlk (xm_cd m_Tr_remove) 76 = some (.dup, 1, (0, 0, 0, [])) := rfl
theorem l_Tr_remove_77 : xlk (xm_cd m_Tr_remove) 77 = some (.getfield 27, 3, (122, 2, 3, [])) := rfl
theorem l_Tr_remove_80 : xlk (xm_cd m_Tr_remove) 80 = some (.iconst 1, 1, (0, 0, 0, [])) := rfl
theorem l_Tr_remove_81 : xlk (xm_cd m_Tr_remove) 81 = some (.isub, 1, (0, 0, 0, [])) := rfl
theorem l_Tr_remove_82 : xlk (xm_cd m_Tr_remove) 82 = some (.putfield 27, 3, (122, 2, 3, [(0, 0)])) := rfl
theorem l_Tr_remove_85 : xlk (xm_cd m_Tr_remove) 85 = some (.aload_n 0, 1, (0, 0, 0, [])) := rfl
theorem l_Tr_remove_86 : xlk (xm_cd m_Tr_remove) 86 = some (.getfield 11, 3, (119, 2, 0, [])) := rfl
theorem l_Tr_remove_89 : xlk (xm_cd m_Tr_remove) 89 = some (.aload_n 0, 1, (0, 0, 0, [])) := rfl
theorem l_Tr_remove_90 : xlk (xm_cd m_Tr_remove) 90 = some (.getfield 27, 3, (122, 2, 3, [])) := rfl
theorem l_Tr_remove_93 : xlk (xm_cd m_Tr_remove) 93 = some (.aload_n 2, 1, (0, 0, 0, [])) := rfl
theorem l_Tr_remove_94 : xlk (xm_cd m_Tr_remove) 94 = some (.aastore, 1, (0, 3, 1, [])) := rfl
theorem l_Tr_remove_95 : xlk (xm_cd m_Tr_remove) 95 = some (.aload_n 0, 1, (0, 0, 0, [])) := rfl
theorem l_Tr_remove_96 : xlk (xm_cd m_Tr_remove) 96 = some (.getfield 17, 3, (120, 2, 1, [])) := rfl
theorem l_Tr_remove_99 : xlk (xm_cd m_Tr_remove) 99 = some (.aload_n 0, 1, (0, 0, 0, [])) := rfl
theorem l_Tr_remove_100 : xlk (xm_cd m_Tr_remove) 100 = some (.getfield 27, 3, (122, 2, 3, [])) := rfl
theorem l_Tr_remove_103 : xlk (xm_cd m_Tr_remove) 103 = some (.aload_n 3, 1, (0, 0, 0, [])) := rfl
theorem l_Tr_remove_104 : xlk (xm_cd m_Tr_remove) 104 = some (.aastore, 1, (0, 3, 1, [])) := rfl
theorem l_Tr_remove_105 : xlk (xm_cd m_Tr_remove) 105 = some (.return_, 1, (0, 0, 0, [])) := rfl
def B_Tr_remove_0 (d : Nat) (E : Option Value → xH → Prop) (f : xH) (a0 : Nat) (x1 : Int32) : Prop :=
  (∃ fs, f a0 = some (xO 2 fs)) ∧ xSp xT0 d j_Tr_has [.ref a0, .int x1] f (fun w1 f2 => xvi w1 (fun v3 => xbr (¬ v3 = 0) (xgr f2 a0 2 0 (fun r4 => xrl f2 r4 3 x1 (fun r5 => xgr f2 a0 2 1 (fun r6 => xrl f2 r6 3 x1 (fun r7 => xWp (xT0, xSp xT0 d, none, m_Tr_remove, E) 28 [some (.ref a0), some (.int x1), some (.ref r5), some (.ref r7), some (.int (x1 + 1))] [] f2 0 0))))) (E none f2)))
theorem b_Tr_remove_0 {d : Nat} {E : Option Value → xH → Prop} {f : xH} {a0 : Nat} {x1 : Int32} (h : B_Tr_remove_0 d E f a0 x1) : xWp (xT0, xSp xT0 d, none, m_Tr_remove, E) 0 [some (.ref a0), some (.int x1), none, none, none] [] f 0 0 := by
  unfold B_Tr_remove_0 at h
  refine s_aln l_Tr_remove_0 rfl ?_
  refine s_iln l_Tr_remove_1 rfl ?_
  refine s_cvi (As := [.int x1]) (r := []) l_Tr_remove_2 rfl ⟨rfl, rfl⟩ rfl (Nat.le_of_ble_eq_true rfl) rfl ⟨Nat.zero_le _, Nat.zero_le _⟩ h (fun v3 f2 h => ?_)
  refine s_if l_Tr_remove_5 h (fun h => ?_) (fun h => ?_)
  · refine s_aln l_Tr_remove_9 rfl ?_
    refine s_gr l_Tr_remove_10 h (fun r4 h => ?_)
    refine s_iln l_Tr_remove_13 rfl ?_
    refine s_aal l_Tr_remove_14 h (fun r5 h => ?_)
    refine s_asn l_Tr_remove_15 (Nat.le_of_ble_eq_true rfl) ?_
    refine s_aln l_Tr_remove_16 rfl ?_
    refine s_gr l_Tr_remove_17 h (fun r6 h => ?_)
    refine s_iln l_Tr_remove_20 rfl ?_
    refine s_aal l_Tr_remove_21 h (fun r7 h => ?_)
    refine s_asn l_Tr_remove_22 (Nat.le_of_ble_eq_true rfl) ?_
    refine s_iln l_Tr_remove_23 rfl ?_
    refine s_ic 1 l_Tr_remove_24 rfl ?_
    refine s_iadd l_Tr_remove_25 ?_
    refine s_is l_Tr_remove_26 (Nat.le_of_ble_eq_true rfl) ?_
    exact h
  · exact s_ret l_Tr_remove_8 ⟨Nat.zero_le _, Nat.zero_le _⟩ h
def B_Tr_remove_28 (d : Nat) (E : Option Value → xH → Prop) (f : xH) (a0 : Nat) (x1 : Int32) (a2 : Nat) (a3 : Nat) (x4 : Int32) : Prop :=
  xgi f a0 2 3 (fun v1 => xbr (v1 ≤ x4) (xgi f a0 2 3 (fun v2 => xpf f a0 2 3 (.int (v2 - 1)) (fun f3 => xgr f3 a0 2 0 (fun r4 => xgi f3 a0 2 3 (fun v5 => xrs f3 r4 3 1 v5 a2 (fun f6 => xgr f6 a0 2 1 (fun r7 => xgi f6 a0 2 3 (fun v8 => xrs f6 r7 3 1 v8 a3 (fun f9 => E none f9))))))))) (xgr f a0 2 0 (fun r10 => xgr f a0 2 0 (fun r11 => xrl f r11 3 x4 (fun r12 => xrs f r10 3 1 (x4 - 1) r12 (fun f13 => xgr f13 a0 2 1 (fun r14 => xgr f13 a0 2 1 (fun r15 => xrl f13 r15 3 x4 (fun r16 => xrs f13 r14 3 1 (x4 - 1) r16 (fun f17 => xWp (xT0, xSp xT0 d, none, m_Tr_remove, E) 28 [some (.ref a0), some (.int x1), some (.ref a2), some (.ref a3), some (.int (x4 + 1))] [] f17 0 0))))))))))
theorem b_Tr_remove_28 {d : Nat} {E : Option Value → xH → Prop} {f : xH} {a0 : Nat} {x1 : Int32} {a2 : Nat} {a3 : Nat} {x4 : Int32} (h : B_Tr_remove_28 d E f a0 x1 a2 a3 x4) : xWp (xT0, xSp xT0 d, none, m_Tr_remove, E) 28 [some (.ref a0), some (.int x1), some (.ref a2), some (.ref a3), some (.int x4)] [] f 0 0 := by
  unfold B_Tr_remove_28 at h
  refine s_il l_Tr_remove_28 rfl ?_
  refine s_aln l_Tr_remove_30 rfl ?_
  refine s_gi l_Tr_remove_31 h (fun v1 h => ?_)
  refine s_ifc l_Tr_remove_34 h (fun h => ?_) (fun h => ?_)
  · refine s_aln l_Tr_remove_75 rfl ?_
    refine s_dup l_Tr_remove_76 rfl ?_
    refine s_gi l_Tr_remove_77 h (fun v2 h => ?_)
    refine s_ic 1 l_Tr_remove_80 rfl ?_
    refine s_isub l_Tr_remove_81 ?_
    refine s_pf l_Tr_remove_82 ⟨_, rfl⟩ h (fun f3 h => ?_)
    refine s_aln l_Tr_remove_85 rfl ?_
    refine s_gr l_Tr_remove_86 h (fun r4 h => ?_)
    refine s_aln l_Tr_remove_89 rfl ?_
    refine s_gi l_Tr_remove_90 h (fun v5 h => ?_)
    refine s_aln l_Tr_remove_93 rfl ?_
    refine s_aast l_Tr_remove_94 h (fun f6 h => ?_)
    refine s_aln l_Tr_remove_95 rfl ?_
    refine s_gr l_Tr_remove_96 h (fun r7 h => ?_)
    refine s_aln l_Tr_remove_99 rfl ?_
    refine s_gi l_Tr_remove_100 h (fun v8 h => ?_)
    refine s_aln l_Tr_remove_103 rfl ?_
    refine s_aast l_Tr_remove_104 h (fun f9 h => ?_)
    exact s_ret l_Tr_remove_105 ⟨Nat.zero_le _, Nat.zero_le _⟩ h
  · refine s_aln l_Tr_remove_37 rfl ?_
    refine s_gr l_Tr_remove_38 h (fun r10 h => ?_)
    refine s_il l_Tr_remove_41 rfl ?_
    refine s_ic 1 l_Tr_remove_43 rfl ?_
    refine s_isub l_Tr_remove_44 ?_
    refine s_aln l_Tr_remove_45 rfl ?_
    refine s_gr l_Tr_remove_46 h (fun r11 h => ?_)
    refine s_il l_Tr_remove_49 rfl ?_
    refine s_aal l_Tr_remove_51 h (fun r12 h => ?_)
    refine s_aast l_Tr_remove_52 h (fun f13 h => ?_)
    refine s_aln l_Tr_remove_53 rfl ?_
    refine s_gr l_Tr_remove_54 h (fun r14 h => ?_)
    refine s_il l_Tr_remove_57 rfl ?_
    refine s_ic 1 l_Tr_remove_59 rfl ?_
    refine s_isub l_Tr_remove_60 ?_
    refine s_aln l_Tr_remove_61 rfl ?_
    refine s_gr l_Tr_remove_62 h (fun r15 h => ?_)
    refine s_il l_Tr_remove_65 rfl ?_
    refine s_aal l_Tr_remove_67 h (fun r16 h => ?_)
    refine s_aast l_Tr_remove_68 h (fun f17 h => ?_)
    refine s_inc 1 l_Tr_remove_69 rfl rfl ?_
    refine s_goto l_Tr_remove_72 ?_
    exact h
theorem l_Tr_has_0 : xlk (xm_cd m_Tr_has) 0 = some (.iload_n 1, 1, (0, 0, 0, [])) := rfl
theorem l_Tr_has_1 : xlk (xm_cd m_Tr_has) 1 = some (.ifCond .lt 15, 3, (0, 16, 0, [])) := rfl
theorem l_Tr_has_4 : xlk (xm_cd m_Tr_has) 4 = some (.iload_n 1, 1, (0, 0, 0, [])) := rfl
theorem l_Tr_has_5 : xlk (xm_cd m_Tr_has) 5 = some (.aload_n 0, 1, (0, 0, 0, [])) := rfl
theorem l_Tr_has_6 : xlk (xm_cd m_Tr_has) 6 = some (.getfield 27, 3, (122, 2, 3, [])) := rfl
theorem l_Tr_has_9 : xlk (xm_cd m_Tr_has) 9 = some (.if_icmp .ge 7, 3, (0, 16, 0, [])) := rfl
theorem l_Tr_has_12 : xlk (xm_cd m_Tr_has) 12 = some (.iconst 1, 1, (0, 0, 0, [])) := rfl
theorem l_Tr_has_13 : xlk (xm_cd m_Tr_has) 13 = some (.goto 4, 3, (0, 17, 0, [])) := rfl
theorem l_Tr_has_16 : xlk (xm_cd m_Tr_has) 16 = some (.iconst 0, 1, (0, 0, 0, [])) := rfl
theorem l_Tr_has_17 : xlk (xm_cd m_Tr_has) 17 = some (.ireturn, 1, (0, 0, 0, [])) := rfl
def B_Tr_has_0 (d : Nat) (E : Option Value → xH → Prop) (f : xH) (a0 : Nat) (x1 : Int32) : Prop :=
  xbr (x1 < 0) (E (some (.int 0)) f) (xgi f a0 2 3 (fun v1 => xbr (v1 ≤ x1) (E (some (.int 0)) f) (E (some (.int 1)) f)))
theorem b_Tr_has_0 {d : Nat} {E : Option Value → xH → Prop} {f : xH} {a0 : Nat} {x1 : Int32} (h : B_Tr_has_0 d E f a0 x1) : xWp (xT0, xSp xT0 d, none, m_Tr_has, E) 0 [some (.ref a0), some (.int x1)] [] f 0 0 := by
  unfold B_Tr_has_0 at h
  refine s_iln l_Tr_has_0 rfl ?_
  refine s_if l_Tr_has_1 h (fun h => ?_) (fun h => ?_)
  · refine s_ic 0 l_Tr_has_16 rfl ?_
    exact s_zret l_Tr_has_17 rfl ⟨Nat.zero_le _, Nat.zero_le _⟩ ⟨Or.inl rfl, h⟩
  · refine s_iln l_Tr_has_4 rfl ?_
    refine s_aln l_Tr_has_5 rfl ?_
    refine s_gi l_Tr_has_6 h (fun v1 h => ?_)
    refine s_ifc l_Tr_has_9 h (fun h => ?_) (fun h => ?_)
    · refine s_ic 0 l_Tr_has_16 rfl ?_
      exact s_zret l_Tr_has_17 rfl ⟨Nat.zero_le _, Nat.zero_le _⟩ ⟨Or.inl rfl, h⟩
    · refine s_ic 1 l_Tr_has_12 rfl ?_
      refine s_goto l_Tr_has_13 ?_
      exact s_zret l_Tr_has_17 rfl ⟨Nat.zero_le _, Nat.zero_le _⟩ ⟨Or.inr rfl, h⟩
theorem l_Tr_size_0 : xlk (xm_cd m_Tr_size) 0 = some (.aload_n 0, 1, (0, 0, 0, [])) := rfl
theorem l_Tr_size_1 : xlk (xm_cd m_Tr_size) 1 = some (.getfield 27, 3, (122, 2, 3, [])) := rfl
theorem l_Tr_size_4 : xlk (xm_cd m_Tr_size) 4 = some (.ireturn, 1, (0, 0, 0, [])) := rfl
def B_Tr_size_0 (d : Nat) (E : Option Value → xH → Prop) (f : xH) (a0 : Nat) : Prop :=
  xgi f a0 2 3 (fun v1 => E (some (.int v1)) f)
theorem b_Tr_size_0 {d : Nat} {E : Option Value → xH → Prop} {f : xH} {a0 : Nat} (h : B_Tr_size_0 d E f a0) : xWp (xT0, xSp xT0 d, none, m_Tr_size, E) 0 [some (.ref a0)] [] f 0 0 := by
  unfold B_Tr_size_0 at h
  refine s_aln l_Tr_size_0 rfl ?_
  refine s_gi l_Tr_size_1 h (fun v1 h => ?_)
  exact s_iret l_Tr_size_4 rfl ⟨Nat.zero_le _, Nat.zero_le _⟩ h
theorem l_Tr_pathAt_0 : xlk (xm_cd m_Tr_pathAt) 0 = some (.aload_n 0, 1, (0, 0, 0, [])) := rfl
theorem l_Tr_pathAt_1 : xlk (xm_cd m_Tr_pathAt) 1 = some (.iload_n 1, 1, (0, 0, 0, [])) := rfl
theorem l_Tr_pathAt_2 : xlk (xm_cd m_Tr_pathAt) 2 = some (.invokevirtual 31, 3, (381, 36, 1, [])) := rfl
theorem l_Tr_pathAt_5 : xlk (xm_cd m_Tr_pathAt) 5 = some (.ifCond .eq 12, 3, (0, 17, 0, [])) := rfl
theorem l_Tr_pathAt_8 : xlk (xm_cd m_Tr_pathAt) 8 = some (.aload_n 0, 1, (0, 0, 0, [])) := rfl
theorem l_Tr_pathAt_9 : xlk (xm_cd m_Tr_pathAt) 9 = some (.getfield 11, 3, (119, 2, 0, [])) := rfl
theorem l_Tr_pathAt_12 : xlk (xm_cd m_Tr_pathAt) 12 = some (.iload_n 1, 1, (0, 0, 0, [])) := rfl
theorem l_Tr_pathAt_13 : xlk (xm_cd m_Tr_pathAt) 13 = some (.aaload, 1, (0, 3, 0, [])) := rfl
theorem l_Tr_pathAt_14 : xlk (xm_cd m_Tr_pathAt) 14 = some (.goto 7, 3, (0, 21, 0, [])) := rfl
theorem l_Tr_pathAt_17 : xlk (xm_cd m_Tr_pathAt) 17 = some (.aload_n 0, 1, (0, 0, 0, [])) := rfl
theorem l_Tr_pathAt_18 : xlk (xm_cd m_Tr_pathAt) 18 = some (.getfield 23, 3, (121, 2, 2, [])) := rfl
theorem l_Tr_pathAt_21 : xlk (xm_cd m_Tr_pathAt) 21 = some (.areturn, 1, (0, 0, 0, [])) := rfl
def B_Tr_pathAt_0 (d : Nat) (E : Option Value → xH → Prop) (f : xH) (a0 : Nat) (x1 : Int32) : Prop :=
  (∃ fs, f a0 = some (xO 2 fs)) ∧ xSp xT0 d j_Tr_has [.ref a0, .int x1] f (fun w1 f2 => xvi w1 (fun v3 => xbr (v3 = 0) (xgr f2 a0 2 2 (fun r4 => E (some (.ref r4)) f2)) (xgr f2 a0 2 0 (fun r5 => xrl f2 r5 3 x1 (fun r6 => E (some (.ref r6)) f2)))))
theorem b_Tr_pathAt_0 {d : Nat} {E : Option Value → xH → Prop} {f : xH} {a0 : Nat} {x1 : Int32} (h : B_Tr_pathAt_0 d E f a0 x1) : xWp (xT0, xSp xT0 d, none, m_Tr_pathAt, E) 0 [some (.ref a0), some (.int x1)] [] f 0 0 := by
  unfold B_Tr_pathAt_0 at h
  refine s_aln l_Tr_pathAt_0 rfl ?_
  refine s_iln l_Tr_pathAt_1 rfl ?_
  refine s_cvi (As := [.int x1]) (r := []) l_Tr_pathAt_2 rfl ⟨rfl, rfl⟩ rfl (Nat.le_of_ble_eq_true rfl) rfl ⟨Nat.zero_le _, Nat.zero_le _⟩ h (fun v3 f2 h => ?_)
  refine s_if l_Tr_pathAt_5 h (fun h => ?_) (fun h => ?_)
  · refine s_aln l_Tr_pathAt_17 rfl ?_
    refine s_gr l_Tr_pathAt_18 h (fun r4 h => ?_)
    exact s_aret l_Tr_pathAt_21 ⟨Nat.zero_le _, Nat.zero_le _⟩ h
  · refine s_aln l_Tr_pathAt_8 rfl ?_
    refine s_gr l_Tr_pathAt_9 h (fun r5 h => ?_)
    refine s_iln l_Tr_pathAt_12 rfl ?_
    refine s_aal l_Tr_pathAt_13 h (fun r6 h => ?_)
    refine s_goto l_Tr_pathAt_14 ?_
    exact s_aret l_Tr_pathAt_21 ⟨Nat.zero_le _, Nat.zero_le _⟩ h
theorem l_Tr_contentAt_0 : xlk (xm_cd m_Tr_contentAt) 0 = some (.aload_n 0, 1, (0, 0, 0, [])) := rfl
theorem l_Tr_contentAt_1 : xlk (xm_cd m_Tr_contentAt) 1 = some (.iload_n 1, 1, (0, 0, 0, [])) := rfl
theorem l_Tr_contentAt_2 : xlk (xm_cd m_Tr_contentAt) 2 = some (.invokevirtual 31, 3, (381, 36, 1, [])) := rfl
theorem l_Tr_contentAt_5 : xlk (xm_cd m_Tr_contentAt) 5 = some (.ifCond .eq 12, 3, (0, 17, 0, [])) := rfl
theorem l_Tr_contentAt_8 : xlk (xm_cd m_Tr_contentAt) 8 = some (.aload_n 0, 1, (0, 0, 0, [])) := rfl
theorem l_Tr_contentAt_9 : xlk (xm_cd m_Tr_contentAt) 9 = some (.getfield 17, 3, (120, 2, 1, [])) := rfl
theorem l_Tr_contentAt_12 : xlk (xm_cd m_Tr_contentAt) 12 = some (.iload_n 1, 1, (0, 0, 0, [])) := rfl
theorem l_Tr_contentAt_13 : xlk (xm_cd m_Tr_contentAt) 13 = some (.aaload, 1, (0, 3, 0, [])) := rfl
theorem l_Tr_contentAt_14 : xlk (xm_cd m_Tr_contentAt) 14 = some (.goto 7, 3, (0, 21, 0, [])) := rfl
theorem l_Tr_contentAt_17 : xlk (xm_cd m_Tr_contentAt) 17 = some (.aload_n 0, 1, (0, 0, 0, [])) := rfl
theorem l_Tr_contentAt_18 : xlk (xm_cd m_Tr_contentAt) 18 = some (.getfield 23, 3, (121, 2, 2, [])) := rfl
theorem l_Tr_contentAt_21 : xlk (xm_cd m_Tr_contentAt) 21 = some (.areturn, 1, (0, 0, 0, [])) := rfl
def B_Tr_contentAt_0 (d : Nat) (E : Option Value → xH → Prop) (f : xH) (a0 : Nat) (x1 : Int32) : Prop :=
  (∃ fs, f a0 = some (xO 2 fs)) ∧ xSp xT0 d j_Tr_has [.ref a0, .int x1] f (fun w1 f2 => xvi w1 (fun v3 => xbr (v3 = 0) (xgr f2 a0 2 2 (fun r4 => E (some (.ref r4)) f2)) (xgr f2 a0 2 1 (fun r5 => xrl f2 r5 3 x1 (fun r6 => E (some (.ref r6)) f2)))))
theorem b_Tr_contentAt_0 {d : Nat} {E : Option Value → xH → Prop} {f : xH} {a0 : Nat} {x1 : Int32} (h : B_Tr_contentAt_0 d E f a0 x1) : xWp (xT0, xSp xT0 d, none, m_Tr_contentAt, E) 0 [some (.ref a0), some (.int x1)] [] f 0 0 := by
  unfold B_Tr_contentAt_0 at h
  refine s_aln l_Tr_contentAt_0 rfl ?_
  refine s_iln l_Tr_contentAt_1 rfl ?_
  refine s_cvi (As := [.int x1]) (r := []) l_Tr_contentAt_2 rfl ⟨rfl, rfl⟩ rfl (Nat.le_of_ble_eq_true rfl) rfl ⟨Nat.zero_le _, Nat.zero_le _⟩ h (fun v3 f2 h => ?_)
  refine s_if l_Tr_contentAt_5 h (fun h => ?_) (fun h => ?_)
  · refine s_aln l_Tr_contentAt_17 rfl ?_
    refine s_gr l_Tr_contentAt_18 h (fun r4 h => ?_)
    exact s_aret l_Tr_contentAt_21 ⟨Nat.zero_le _, Nat.zero_le _⟩ h
  · refine s_aln l_Tr_contentAt_8 rfl ?_
    refine s_gr l_Tr_contentAt_9 h (fun r5 h => ?_)
    refine s_iln l_Tr_contentAt_12 rfl ?_
    refine s_aal l_Tr_contentAt_13 h (fun r6 h => ?_)
    refine s_goto l_Tr_contentAt_14 ?_
    exact s_aret l_Tr_contentAt_21 ⟨Nat.zero_le _, Nat.zero_le _⟩ h
theorem l_Tr_equalTo_0 : xlk (xm_cd m_Tr_equalTo) 0 = some (.aload_n 0, 1, (0, 0, 0, [])) := rfl
theorem l_Tr_equalTo_1 : xlk (xm_cd m_Tr_equalTo) 1 = some (.getfield 27, 3, (122, 2, 3, [])) := rfl
theorem l_Tr_equalTo_4 : xlk (xm_cd m_Tr_equalTo) 4 = some (.aload_n 1, 1, (0, 0, 0, [])) := rfl
theorem l_Tr_equalTo_5 : xlk (xm_cd m_Tr_equalTo) 5 = some (.getfield 27, 3, (122, 2, 3, [])) := rfl
theorem l_Tr_equalTo_8 : xlk (xm_cd m_Tr_equalTo) 8 = some (.if_icmp .eq 5, 3, (0, 13, 0, [])) := rfl
theorem l_Tr_equalTo_11 : xlk (xm_cd m_Tr_equalTo) 11 = some (.iconst 0, 1, (0, 0, 0, [])) := rfl
theorem l_Tr_equalTo_12 : xlk (xm_cd m_Tr_equalTo) 12 = some (.ireturn, 1, (0, 0, 0, [])) := rfl
theorem l_Tr_equalTo_13 : xlk (xm_cd m_Tr_equalTo) 13 = some (.iconst 0, 1, (0, 0, 0, [])) := rfl
theorem l_Tr_equalTo_14 : xlk (xm_cd m_Tr_equalTo) 14 = some (.istore_n 2, 1, (0, 0, 0, [])) := rfl
theorem l_Tr_equalTo_15 : xlk (xm_cd m_Tr_equalTo) 15 = some (.iload_n 2, 1, (0, 0, 0, [])) := rfl
theorem l_Tr_equalTo_16 : xlk (xm_cd m_Tr_equalTo) 16 = some (.aload_n 0, 1, (0, 0, 0, [])) := rfl
theorem l_Tr_equalTo_17 : xlk (xm_cd m_Tr_equalTo) 17 = some (.getfield 27, 3, (122, 2, 3, [])) := rfl
theorem l_Tr_equalTo_20 : xlk (xm_cd m_Tr_equalTo) 20 = some (.if_icmp .ge 47, 3, (0, 67, 0, [])) := rfl
theorem l_Tr_equalTo_23 : xlk (xm_cd m_Tr_equalTo) 23 = some (.aload_n 0, 1, (0, 0, 0, [])) := rfl
theorem l_Tr_equalTo_24 : xlk (xm_cd m_Tr_equalTo) 24 = some (.getfield 11, 3, (119, 2, 0, [])) := rfl
theorem l_Tr_equalTo_27 : xlk (xm_cd m_Tr_equalTo) 27 = some (.iload_n 2, 1, (0, 0, 0, [])) := rfl
theorem l_Tr_equalTo_28 : xlk (xm_cd m_Tr_equalTo) 28 = some (.aaload, 1, (0, 3, 0, [])) := rfl
theorem l_Tr_equalTo_29 : xlk (xm_cd m_Tr_equalTo) 29 = some (.aload_n 1, 1, (0, 0, 0, [])) := rfl
theorem l_Tr_equalTo_30 : xlk (xm_cd m_Tr_equalTo) 30 = some (.getfield 11, 3, (119, 2, 0, [])) := rfl
theorem l_Tr_equalTo_33 : xlk (xm_cd m_Tr_equalTo) 33 = some (.iload_n 2, 1, (0, 0, 0, [])) := rfl
theorem l_Tr_equalTo_34 : xlk (xm_cd m_Tr_equalTo) 34 = some (.aaload, 1, (0, 3, 0, [])) := rfl
theorem l_Tr_equalTo_35 : xlk (xm_cd m_Tr_equalTo) 35 = some (.invokevirtual 35, 3, (353, 29, 1, [])) := rfl
theorem l_Tr_equalTo_38 : xlk (xm_cd m_Tr_equalTo) 38 = some (.ifCond .eq 21, 3, (0, 59, 0, [])) := rfl
theorem l_Tr_equalTo_41 : xlk (xm_cd m_Tr_equalTo) 41 = some (.aload_n 0, 1, (0, 0, 0, [])) := rfl
theorem l_Tr_equalTo_42 : xlk (xm_cd m_Tr_equalTo) 42 = some (.getfield 17, 3, (120, 2, 1, [])) := rfl
theorem l_Tr_equalTo_45 : xlk (xm_cd m_Tr_equalTo) 45 = some (.iload_n 2, 1, (0, 0, 0, [])) := rfl
theorem l_Tr_equalTo_46 : xlk (xm_cd m_Tr_equalTo) 46 = some (.aaload, 1, (0, 3, 0, [])) := rfl
theorem l_Tr_equalTo_47 : xlk (xm_cd m_Tr_equalTo) 47 = some (.aload_n 1, 1, (0, 0, 0, [])) := rfl
theorem l_Tr_equalTo_48 : xlk (xm_cd m_Tr_equalTo) 48 = some (.getfield 17, 3, (120, 2, 1, [])) := rfl
theorem l_Tr_equalTo_51 : xlk (xm_cd m_Tr_equalTo) 51 = some (.iload_n 2, 1, (0, 0, 0, [])) := rfl
theorem l_Tr_equalTo_52 : xlk (xm_cd m_Tr_equalTo) 52 = some (.aaload, 1, (0, 3, 0, [])) := rfl
theorem l_Tr_equalTo_53 : xlk (xm_cd m_Tr_equalTo) 53 = some (.invokevirtual 35, 3, (353, 29, 1, [])) := rfl
theorem l_Tr_equalTo_56 : xlk (xm_cd m_Tr_equalTo) 56 = some (.ifCond .ne 5, 3, (0, 61, 0, [])) := rfl
theorem l_Tr_equalTo_59 : xlk (xm_cd m_Tr_equalTo) 59 = some (.iconst 0, 1, (0, 0, 0, [])) := rfl
theorem l_Tr_equalTo_60 : xlk (xm_cd m_Tr_equalTo) 60 = some (.ireturn, 1, (0, 0, 0, [])) := rfl
theorem l_Tr_equalTo_61 : xlk (xm_cd m_Tr_equalTo) 61 = some (.iinc 2 1, 3, (0, 0, 0, [])) := rfl
theorem l_Tr_equalTo_64 : xlk (xm_cd m_Tr_equalTo) 64 = some (.goto (-49), 3, (0, 15, 0, [])) := rfl
theorem l_Tr_equalTo_67 : xlk (xm_cd m_Tr_equalTo) 67 = some (.iconst 1, 1, (0, 0, 0, [])) := rfl
theorem l_Tr_equalTo_68 : xlk (xm_cd m_Tr_equalTo) 68 = some (.ireturn, 1, (0, 0, 0, [])) := rfl
def B_Tr_equalTo_0 (d : Nat) (E : Option Value → xH → Prop) (f : xH) (a0 : Nat) (a1 : Nat) : Prop :=
  xgi f a0 2 3 (fun v1 => xgi f a1 2 3 (fun v2 => xbr (v1 = v2) (xWp (xT0, xSp xT0 d, none, m_Tr_equalTo, E) 15 [some (.ref a0), some (.ref a1), some (.int 0)] [] f 0 0) (E (some (.int 0)) f)))
theorem b_Tr_equalTo_0 {d : Nat} {E : Option Value → xH → Prop} {f : xH} {a0 : Nat} {a1 : Nat} (h : B_Tr_equalTo_0 d E f a0 a1) : xWp (xT0, xSp xT0 d, none, m_Tr_equalTo, E) 0 [some (.ref a0), some (.ref a1), none] [] f 0 0 := by
  unfold B_Tr_equalTo_0 at h
  refine s_aln l_Tr_equalTo_0 rfl ?_
  refine s_gi l_Tr_equalTo_1 h (fun v1 h => ?_)
  refine s_aln l_Tr_equalTo_4 rfl ?_
  refine s_gi l_Tr_equalTo_5 h (fun v2 h => ?_)
  refine s_ifc l_Tr_equalTo_8 h (fun h => ?_) (fun h => ?_)
  · refine s_ic 0 l_Tr_equalTo_13 rfl ?_
    refine s_isn l_Tr_equalTo_14 (Nat.le_of_ble_eq_true rfl) ?_
    exact h
  · refine s_ic 0 l_Tr_equalTo_11 rfl ?_
    exact s_zret l_Tr_equalTo_12 rfl ⟨Nat.zero_le _, Nat.zero_le _⟩ ⟨Or.inl rfl, h⟩
def B_Tr_equalTo_15 (d : Nat) (E : Option Value → xH → Prop) (f : xH) (a0 : Nat) (a1 : Nat) (x2 : Int32) : Prop :=
  xgi f a0 2 3 (fun v1 => xbr (v1 ≤ x2) (E (some (.int 1)) f) (xgr f a0 2 0 (fun r2 => xrl f r2 3 x2 (fun r3 => xgr f a1 2 0 (fun r4 => xrl f r4 3 x2 (fun r5 => (∃ fs, f r3 = some (xO 1 fs)) ∧ xSp xT0 d j_By_equalTo [.ref r3, .ref r5] f (fun w6 f7 => xvi w6 (fun v8 => xbr (v8 = 0) (E (some (.int 0)) f7) (xgr f7 a0 2 1 (fun r9 => xrl f7 r9 3 x2 (fun r10 => xgr f7 a1 2 1 (fun r11 => xrl f7 r11 3 x2 (fun r12 => (∃ fs, f7 r10 = some (xO 1 fs)) ∧ xSp xT0 d j_By_equalTo [.ref r10, .ref r12] f7 (fun w13 f14 => xvi w13 (fun v15 => xbr (¬ v15 = 0) (xWp (xT0, xSp xT0 d, none, m_Tr_equalTo, E) 15 [some (.ref a0), some (.ref a1), some (.int (x2 + 1))] [] f14 0 0) (E (some (.int 0)) f14))))))))))))))))
theorem b_Tr_equalTo_15 {d : Nat} {E : Option Value → xH → Prop} {f : xH} {a0 : Nat} {a1 : Nat} {x2 : Int32} (h : B_Tr_equalTo_15 d E f a0 a1 x2) : xWp (xT0, xSp xT0 d, none, m_Tr_equalTo, E) 15 [some (.ref a0), some (.ref a1), some (.int x2)] [] f 0 0 := by
  unfold B_Tr_equalTo_15 at h
  refine s_iln l_Tr_equalTo_15 rfl ?_
  refine s_aln l_Tr_equalTo_16 rfl ?_
  refine s_gi l_Tr_equalTo_17 h (fun v1 h => ?_)
  refine s_ifc l_Tr_equalTo_20 h (fun h => ?_) (fun h => ?_)
  · refine s_ic 1 l_Tr_equalTo_67 rfl ?_
    exact s_zret l_Tr_equalTo_68 rfl ⟨Nat.zero_le _, Nat.zero_le _⟩ ⟨Or.inr rfl, h⟩
  · refine s_aln l_Tr_equalTo_23 rfl ?_
    refine s_gr l_Tr_equalTo_24 h (fun r2 h => ?_)
    refine s_iln l_Tr_equalTo_27 rfl ?_
    refine s_aal l_Tr_equalTo_28 h (fun r3 h => ?_)
    refine s_aln l_Tr_equalTo_29 rfl ?_
    refine s_gr l_Tr_equalTo_30 h (fun r4 h => ?_)
    refine s_iln l_Tr_equalTo_33 rfl ?_
    refine s_aal l_Tr_equalTo_34 h (fun r5 h => ?_)
    refine s_cvi (As := [.ref r5]) (r := []) l_Tr_equalTo_35 rfl ⟨rfl, rfl⟩ rfl (Nat.le_of_ble_eq_true rfl) rfl ⟨Nat.zero_le _, Nat.zero_le _⟩ h (fun v8 f7 h => ?_)
    refine s_if l_Tr_equalTo_38 h (fun h => ?_) (fun h => ?_)
    · refine s_ic 0 l_Tr_equalTo_59 rfl ?_
      exact s_zret l_Tr_equalTo_60 rfl ⟨Nat.zero_le _, Nat.zero_le _⟩ ⟨Or.inl rfl, h⟩
    · refine s_aln l_Tr_equalTo_41 rfl ?_
      refine s_gr l_Tr_equalTo_42 h (fun r9 h => ?_)
      refine s_iln l_Tr_equalTo_45 rfl ?_
      refine s_aal l_Tr_equalTo_46 h (fun r10 h => ?_)
      refine s_aln l_Tr_equalTo_47 rfl ?_
      refine s_gr l_Tr_equalTo_48 h (fun r11 h => ?_)
      refine s_iln l_Tr_equalTo_51 rfl ?_
      refine s_aal l_Tr_equalTo_52 h (fun r12 h => ?_)
      refine s_cvi (As := [.ref r12]) (r := []) l_Tr_equalTo_53 rfl ⟨rfl, rfl⟩ rfl (Nat.le_of_ble_eq_true rfl) rfl ⟨Nat.zero_le _, Nat.zero_le _⟩ h (fun v15 f14 h => ?_)
      refine s_if l_Tr_equalTo_56 h (fun h => ?_) (fun h => ?_)
      · refine s_inc 1 l_Tr_equalTo_61 rfl rfl ?_
        refine s_goto l_Tr_equalTo_64 ?_
        exact h
      · refine s_ic 0 l_Tr_equalTo_59 rfl ?_
        exact s_zret l_Tr_equalTo_60 rfl ⟨Nat.zero_le _, Nat.zero_le _⟩ ⟨Or.inl rfl, h⟩
