/-! blocks of Li, 0 -/
theorem l_Li_slotOf_0 : xlk (xm_cd m_Li_slotOf) 0 = some (.iconst 0, 1, (0, 0, 0, [])) := rfl
theorem l_Li_slotOf_1 : xlk (xm_cd m_Li_slotOf) 1 = some (.istore_n 2, 1, (0, 0, 0, [])) := rfl
theorem l_Li_slotOf_2 : xlk (xm_cd m_Li_slotOf) 2 = some (.iload_n 2, 1, (0, 0, 0, [])) := rfl
theorem l_Li_slotOf_3 : xlk (xm_cd m_Li_slotOf) 3 = some (.aload_n 0, 1, (0, 0, 0, [])) := rfl
theorem l_Li_slotOf_4 : xlk (xm_cd m_Li_slotOf) 4 = some (.getfield 24, 3, (241, 9, 2, [])) := rfl
theorem l_Li_slotOf_7 : xlk (xm_cd m_Li_slotOf) 7 = some (.if_icmp .ge 29, 3, (0, 36, 0, [])) := rfl
theorem l_Li_slotOf_10 : xlk (xm_cd m_Li_slotOf) 10 = some (.aload_n 0, 1, (0, 0, 0, [])) := rfl
theorem l_Li_slotOf_11 : xlk (xm_cd m_Li_slotOf) 11 = some (.getfield 11, 3, (239, 9, 0, [])) := rfl
theorem l_Li_slotOf_14 : xlk (xm_cd m_Li_slotOf) 14 = some (.iload_n 2, 1, (0, 0, 0, [])) := rfl
theorem l_Li_slotOf_15 : xlk (xm_cd m_Li_slotOf) 15 = some (.aaload, 1, (0, 3, 0, [])) := rfl
theorem l_Li_slotOf_16 : xlk (xm_cd m_Li_slotOf) 16 = some (.aload_n 1, 1, (0, 0, 0, [])) := rfl
theorem l_Li_slotOf_17 : xlk (xm_cd m_Li_slotOf) 17 = some (.invokevirtual 47, 3, (769, 29, 1, [])) := rfl
theorem l_Li_slotOf_20 : xlk (xm_cd m_Li_slotOf) 20 = some (.ifCond .eq 10, 3, (0, 30, 0, [])) := rfl
theorem l_Li_slotOf_23 : xlk (xm_cd m_Li_slotOf) 23 = some (.aload_n 0, 1, (0, 0, 0, [])) := rfl
theorem l_Li_slotOf_24 : xlk (xm_cd m_Li_slotOf) 24 = some (.getfield 20, 3, (240, 9, 1, [])) := rfl
theorem l_Li_slotOf_27 : xlk (xm_cd m_Li_slotOf) 27 = some (.iload_n 2, 1, (0, 0, 0, [])) := rfl
theorem l_Li_slotOf_28 : xlk (xm_cd m_Li_slotOf) 28 = some (.iaload, 1, (0, 0, 0, [])) := rfl
theorem l_Li_slotOf_29 : xlk (xm_cd m_Li_slotOf) 29 = some (.ireturn, 1, (0, 0, 0, [])) := rfl
theorem l_Li_slotOf_30 : xlk (xm_cd m_Li_slotOf) 30 = some (.iinc 2 1, 3, (0, 0, 0, [])) := rfl
theorem l_Li_slotOf_33 : xlk (xm_cd m_Li_slotOf) 33 = some (.goto (-31), 3, (0, 2, 0, [])) := rfl
theorem l_Li_slotOf_36 : xlk (xm_cd m_Li_slotOf) 36 = some (.iconst (-1), 1, (0, 0, 0, [])) := rfl
theorem l_Li_slotOf_37 : xlk (xm_cd m_Li_slotOf) 37 = some (.ireturn, 1, (0, 0, 0, [])) := rfl
def B_Li_slotOf_0 (d : Nat) (E : Option Value → xH → Prop) (f : xH) (a0 : Nat) (a1 : Nat) : Prop :=
  xWp (xT0, xSp xT0 d, none, m_Li_slotOf, E) 2 [some (.ref a0), some (.ref a1), some (.int 0)] [] f 0 0
theorem b_Li_slotOf_0 {d : Nat} {E : Option Value → xH → Prop} {f : xH} {a0 : Nat} {a1 : Nat} (h : B_Li_slotOf_0 d E f a0 a1) : xWp (xT0, xSp xT0 d, none, m_Li_slotOf, E) 0 [some (.ref a0), some (.ref a1), none] [] f 0 0 := by
  unfold B_Li_slotOf_0 at h
  refine s_ic 0 l_Li_slotOf_0 rfl ?_
  refine s_isn l_Li_slotOf_1 (Nat.le_of_ble_eq_true rfl) ?_
  exact h
def B_Li_slotOf_2 (d : Nat) (E : Option Value → xH → Prop) (f : xH) (a0 : Nat) (a1 : Nat) (x2 : Int32) : Prop :=
  xgi f a0 9 2 (fun v1 => xbr (v1 ≤ x2) (E (some (.int (-1))) f) (xgr f a0 9 0 (fun r2 => xrl f r2 3 x2 (fun r3 => (∃ fs, f r3 = some (xO 1 fs)) ∧ xSp xT0 d j_By_equalTo [.ref r3, .ref a1] f (fun w4 f5 => xvi w4 (fun v6 => xbr (v6 = 0) (xWp (xT0, xSp xT0 d, none, m_Li_slotOf, E) 2 [some (.ref a0), some (.ref a1), some (.int (x2 + 1))] [] f5 0 0) (xgr f5 a0 9 1 (fun r7 => xal f5 r7 0 x2 (fun v8 => E (some (.int v8)) f5)))))))))
theorem b_Li_slotOf_2 {d : Nat} {E : Option Value → xH → Prop} {f : xH} {a0 : Nat} {a1 : Nat} {x2 : Int32} (h : B_Li_slotOf_2 d E f a0 a1 x2) : xWp (xT0, xSp xT0 d, none, m_Li_slotOf, E) 2 [some (.ref a0), some (.ref a1), some (.int x2)] [] f 0 0 := by
  unfold B_Li_slotOf_2 at h
  refine s_iln l_Li_slotOf_2 rfl ?_
  refine s_aln l_Li_slotOf_3 rfl ?_
  refine s_gi l_Li_slotOf_4 h (fun v1 h => ?_)
  refine s_ifc l_Li_slotOf_7 h (fun h => ?_) (fun h => ?_)
  · refine s_ic (-1) l_Li_slotOf_36 rfl ?_
    exact s_iret l_Li_slotOf_37 rfl ⟨Nat.zero_le _, Nat.zero_le _⟩ h
  · refine s_aln l_Li_slotOf_10 rfl ?_
    refine s_gr l_Li_slotOf_11 h (fun r2 h => ?_)
    refine s_iln l_Li_slotOf_14 rfl ?_
    refine s_aal l_Li_slotOf_15 h (fun r3 h => ?_)
    refine s_aln l_Li_slotOf_16 rfl ?_
    refine s_cvi (As := [.ref a1]) (r := []) l_Li_slotOf_17 rfl ⟨rfl, rfl⟩ rfl (Nat.le_of_ble_eq_true rfl) rfl ⟨Nat.zero_le _, Nat.zero_le _⟩ h (fun v6 f5 h => ?_)
    refine s_if l_Li_slotOf_20 h (fun h => ?_) (fun h => ?_)
    · refine s_inc 1 l_Li_slotOf_30 rfl rfl ?_
      refine s_goto l_Li_slotOf_33 ?_
      exact h
    · refine s_aln l_Li_slotOf_23 rfl ?_
      refine s_gr l_Li_slotOf_24 h (fun r7 h => ?_)
      refine s_iln l_Li_slotOf_27 rfl ?_
      refine s_ial l_Li_slotOf_28 rfl h (fun v8 h => ?_)
      exact s_iret l_Li_slotOf_29 rfl ⟨Nat.zero_le _, Nat.zero_le _⟩ h
theorem l_Li_uses_0 : xlk (xm_cd m_Li_uses) 0 = some (.iconst 0, 1, (0, 0, 0, [])) := rfl
theorem l_Li_uses_1 : xlk (xm_cd m_Li_uses) 1 = some (.istore_n 2, 1, (0, 0, 0, [])) := rfl
theorem l_Li_uses_2 : xlk (xm_cd m_Li_uses) 2 = some (.iload_n 2, 1, (0, 0, 0, [])) := rfl
theorem l_Li_uses_3 : xlk (xm_cd m_Li_uses) 3 = some (.aload_n 0, 1, (0, 0, 0, [])) := rfl
theorem l_Li_uses_4 : xlk (xm_cd m_Li_uses) 4 = some (.getfield 24, 3, (241, 9, 2, [])) := rfl
theorem l_Li_uses_7 : xlk (xm_cd m_Li_uses) 7 = some (.if_icmp .ge 21, 3, (0, 28, 0, [])) := rfl
theorem l_Li_uses_10 : xlk (xm_cd m_Li_uses) 10 = some (.aload_n 0, 1, (0, 0, 0, [])) := rfl
theorem l_Li_uses_11 : xlk (xm_cd m_Li_uses) 11 = some (.getfield 20, 3, (240, 9, 1, [])) := rfl
theorem l_Li_uses_14 : xlk (xm_cd m_Li_uses) 14 = some (.iload_n 2, 1, (0, 0, 0, [])) := rfl
theorem l_Li_uses_15 : xlk (xm_cd m_Li_uses) 15 = some (.iaload, 1, (0, 0, 0, [])) := rfl
theorem l_Li_uses_16 : xlk (xm_cd m_Li_uses) 16 = some (.iload_n 1, 1, (0, 0, 0, [])) := rfl
theorem l_Li_uses_17 : xlk (xm_cd m_Li_uses) 17 = some (.if_icmp .ne 5, 3, (0, 22, 0, [])) := rfl
theorem l_Li_uses_20 : xlk (xm_cd m_Li_uses) 20 = some (.iconst 1, 1, (0, 0, 0, [])) := rfl
theorem l_Li_uses_21 : xlk (xm_cd m_Li_uses) 21 = some (.ireturn, 1, (0, 0, 0, [])) := rfl
theorem l_Li_uses_22 : xlk (xm_cd m_Li_uses) 22 = some (.iinc 2 1, 3, (0, 0, 0, [])) := rfl
theorem l_Li_uses_25 : xlk (xm_cd m_Li_uses) 25 = some (.goto (-23), 3, (0, 2, 0, [])) := rfl
theorem l_Li_uses_28 : xlk (xm_cd m_Li_uses) 28 = some (.iconst 0, 1, (0, 0, 0, [])) := rfl
theorem l_Li_uses_29 : xlk (xm_cd m_Li_uses) 29 = some (.ireturn, 1, (0, 0, 0, [])) := rfl
def B_Li_uses_0 (d : Nat) (E : Option Value → xH → Prop) (f : xH) (a0 : Nat) (x1 : Int32) : Prop :=
  xWp (xT0, xSp xT0 d, none, m_Li_uses, E) 2 [some (.ref a0), some (.int x1), some (.int 0)] [] f 0 0
theorem b_Li_uses_0 {d : Nat} {E : Option Value → xH → Prop} {f : xH} {a0 : Nat} {x1 : Int32} (h : B_Li_uses_0 d E f a0 x1) : xWp (xT0, xSp xT0 d, none, m_Li_uses, E) 0 [some (.ref a0), some (.int x1), none] [] f 0 0 := by
  unfold B_Li_uses_0 at h
  refine s_ic 0 l_Li_uses_0 rfl ?_
  refine s_isn l_Li_uses_1 (Nat.le_of_ble_eq_true rfl) ?_
  exact h
def B_Li_uses_2 (d : Nat) (E : Option Value → xH → Prop) (f : xH) (a0 : Nat) (x1 : Int32) (x2 : Int32) : Prop :=
  xgi f a0 9 2 (fun v1 => xbr (v1 ≤ x2) (E (some (.int 0)) f) (xgr f a0 9 1 (fun r2 => xal f r2 0 x2 (fun v3 => xbr (¬ v3 = x1) (xWp (xT0, xSp xT0 d, none, m_Li_uses, E) 2 [some (.ref a0), some (.int x1), some (.int (x2 + 1))] [] f 0 0) (E (some (.int 1)) f)))))
theorem b_Li_uses_2 {d : Nat} {E : Option Value → xH → Prop} {f : xH} {a0 : Nat} {x1 : Int32} {x2 : Int32} (h : B_Li_uses_2 d E f a0 x1 x2) : xWp (xT0, xSp xT0 d, none, m_Li_uses, E) 2 [some (.ref a0), some (.int x1), some (.int x2)] [] f 0 0 := by
  unfold B_Li_uses_2 at h
  refine s_iln l_Li_uses_2 rfl ?_
  refine s_aln l_Li_uses_3 rfl ?_
  refine s_gi l_Li_uses_4 h (fun v1 h => ?_)
  refine s_ifc l_Li_uses_7 h (fun h => ?_) (fun h => ?_)
  · refine s_ic 0 l_Li_uses_28 rfl ?_
    exact s_zret l_Li_uses_29 rfl ⟨Nat.zero_le _, Nat.zero_le _⟩ ⟨Or.inl rfl, h⟩
  · refine s_aln l_Li_uses_10 rfl ?_
    refine s_gr l_Li_uses_11 h (fun r2 h => ?_)
    refine s_iln l_Li_uses_14 rfl ?_
    refine s_ial l_Li_uses_15 rfl h (fun v3 h => ?_)
    refine s_iln l_Li_uses_16 rfl ?_
    refine s_ifc l_Li_uses_17 h (fun h => ?_) (fun h => ?_)
    · refine s_inc 1 l_Li_uses_22 rfl rfl ?_
      refine s_goto l_Li_uses_25 ?_
      exact h
    · refine s_ic 1 l_Li_uses_20 rfl ?_
      exact s_zret l_Li_uses_21 rfl ⟨Nat.zero_le _, Nat.zero_le _⟩ ⟨Or.inr rfl, h⟩
theorem l_Li_becomeOf_0 : xlk (xm_cd m_Li_becomeOf) 0 = some (.aload_n 0, 1, (0, 0, 0, [])) := rfl
theorem l_Li_becomeOf_1 : xlk (xm_cd m_Li_becomeOf) 1 = some (.aload_n 1, 1, (0, 0, 0, [])) := rfl
theorem l_Li_becomeOf_2 : xlk (xm_cd m_Li_becomeOf) 2 = some (.invokevirtual 28, 3, (795, 37, 0, [])) := rfl
theorem l_Li_becomeOf_5 : xlk (xm_cd m_Li_becomeOf) 5 = some (.aload_n 2, 1, (0, 0, 0, [])) := rfl
theorem l_Li_becomeOf_6 : xlk (xm_cd m_Li_becomeOf) 6 = some (.arraylength, 1, (0, 0, 0, [])) := rfl
theorem l_Li_becomeOf_7 : xlk (xm_cd m_Li_becomeOf) 7 = some (.bipush 10, 2, (0, 0, 0, [])) := rfl
theorem l_Li_becomeOf_9 : xlk (xm_cd m_Li_becomeOf) 9 = some (.invokestatic 33, 3, (796, 0, 0, [(2, 0)])) := rfl
theorem l_Li_becomeOf_12 : xlk (xm_cd m_Li_becomeOf) 12 = some (.invokestatic 33, 3, (796, 0, 0, [(2, 0)])) := rfl
theorem l_Li_becomeOf_15 : xlk (xm_cd m_Li_becomeOf) 15 = some (.putfield 24, 3, (241, 9, 2, [(0, 0)])) := rfl
theorem l_Li_becomeOf_18 : xlk (xm_cd m_Li_becomeOf) 18 = some (.iconst 0, 1, (0, 0, 0, [])) := rfl
theorem l_Li_becomeOf_19 : xlk (xm_cd m_Li_becomeOf) 19 = some (.istore_n 3, 1, (0, 0, 0, [])) := rfl
theorem l_Li_becomeOf_20 : xlk (xm_cd m_Li_becomeOf) 20 = some (.iload_n 3, 1, (0, 0, 0, [])) := rfl
theorem l_Li_becomeOf_21 : xlk (xm_cd m_Li_becomeOf) 21 = some (.aload_n 0, 1, (0, 0, 0, [])) := rfl
theorem l_Li_becomeOf_22 : xlk (xm_cd m_Li_becomeOf) 22 = some (.getfield 24, 3, (241, 9, 2, [])) := rfl
theorem l_Li_becomeOf_25 : xlk (xm_cd m_Li_becomeOf) 25 = some (.if_icmp .ge 32, 3, (0, 57, 0, [])) := rfl
theorem l_Li_becomeOf_28 : xlk (xm_cd m_Li_becomeOf) 28 = some (.aload_n 0, 1, (0, 0, 0, [])) := rfl
theorem l_Li_becomeOf_29 : xlk (xm_cd m_Li_becomeOf) 29 = some (.getfield 11, 3, (239, 9, 0, [])) := rfl
theorem l_Li_becomeOf_32 : xlk (xm_cd m_Li_becomeOf) 32 = some (.iload_n 3, 1, (0, 0, 0, [])) := rfl
theorem l_Li_becomeOf_33 : xlk (xm_cd m_Li_becomeOf) 33 = some (.aaload, 1, (0, 3, 0, [])) := rfl
theorem l_Li_becomeOf_34 : xlk (xm_cd m_Li_becomeOf) 34 = some (.aload_n 1, 1, (0, 0, 0, [])) := rfl
theorem l_Li_becomeOf_35 : xlk (xm_cd m_Li_becomeOf) 35 = some (.iload_n 3, 1, (0, 0, 0, [])) := rfl
theorem l_Li_becomeOf_36 : xlk (xm_cd m_Li_becomeOf) 36 = some (.invokevirtual 39, 3, (797, 39, 1, [])) := rfl
theorem l_Li_becomeOf_39 : xlk (xm_cd m_Li_becomeOf) 39 = some (.invokevirtual 43, 3, (798, 19, 1, [])) := rfl
theorem l_Li_becomeOf_42 : xlk (xm_cd m_Li_becomeOf) 42 = some (.aload_n 0, 1, (0, 0, 0, [])) := rfl
theorem l_Li_becomeOf_43 : xlk (xm_cd m_Li_becomeOf) 43 = some (.getfield 20, 3, (240, 9, 1, [])) := rfl
theorem l_Li_becomeOf_46 : xlk (xm_cd m_Li_becomeOf) 46 = some (.iload_n 3, 1, (0, 0, 0, [])) := rfl
theorem l_Li_becomeOf_47 : xlk (xm_cd m_Li_becomeOf) 47 = some (.aload_n 2, 1, (0, 0, 0, [])) := rfl
theorem l_Li_becomeOf_48 : xlk (xm_cd m_Li_becomeOf) 48 = some (.iload_n 3, 1, (0, 0, 0, [])) := rfl
theorem l_Li_becomeOf_49 : xlk (xm_cd m_Li_becomeOf) 49 = some (.iaload, 1, (0, 0, 0, [])) := rfl
theorem l_Li_becomeOf_50 : xlk (xm_cd m_Li_becomeOf) 50 = some (.iastore, 1, (0, 0, 0, [])) := rfl
theorem l_Li_becomeOf_51 : xlk (xm_cd m_Li_becomeOf) 51 = some (.iinc 3 1, 3, (0, 0, 0, [])) := rfl
theorem l_Li_becomeOf_54 : xlk (xm_cd m_Li_becomeOf) 54 = some (.goto (-34), 3, (0, 20, 0, [])) := rfl
theorem l_Li_becomeOf_57 : xlk (xm_cd m_Li_becomeOf) 57 = some (.return_, 1, (0, 0, 0, [])) := rfl
def B_Li_becomeOf_0 (d : Nat) (E : Option Value → xH → Prop) (f : xH) (a0 : Nat) (a1 : Nat) (a2 : Nat) : Prop :=
  (∃ fs, f a1 = some (xO 2 fs)) ∧ xSp xT0 d j_Tr_size [.ref a1] f (fun w1 f2 => xvi w1 (fun v3 => xle f2 a2 0 (fun v4 => xpf f2 a0 9 2 (.int (if (if (10 : Int32) < v4 then 10 else v4) < v3 then (if (10 : Int32) < v4 then 10 else v4) else v3)) (fun f5 => xWp (xT0, xSp xT0 d, none, m_Li_becomeOf, E) 20 [some (.ref a0), some (.ref a1), some (.ref a2), some (.int 0)] [] f5 0 0))))
theorem b_Li_becomeOf_0 {d : Nat} {E : Option Value → xH → Prop} {f : xH} {a0 : Nat} {a1 : Nat} {a2 : Nat} (h : B_Li_becomeOf_0 d E f a0 a1 a2) : xWp (xT0, xSp xT0 d, none, m_Li_becomeOf, E) 0 [some (.ref a0), some (.ref a1), some (.ref a2), none] [] f 0 0 := by
  unfold B_Li_becomeOf_0 at h
  refine s_aln l_Li_becomeOf_0 rfl ?_
  refine s_aln l_Li_becomeOf_1 rfl ?_
  refine s_cvi (As := []) (r := [.ref a0]) l_Li_becomeOf_2 rfl ⟨rfl, rfl⟩ rfl (Nat.le_of_ble_eq_true rfl) rfl ⟨Nat.zero_le _, Nat.zero_le _⟩ h (fun v3 f2 h => ?_)
  refine s_aln l_Li_becomeOf_5 rfl ?_
  refine s_len l_Li_becomeOf_6 rfl h (fun v4 h => ?_)
  refine s_bp 10 l_Li_becomeOf_7 rfl ?_
  refine s_min l_Li_becomeOf_9 (Nat.le_of_ble_eq_true rfl) ⟨Nat.zero_le _, Nat.zero_le _⟩ ?_
  refine s_min l_Li_becomeOf_12 (Nat.le_of_ble_eq_true rfl) ⟨Nat.zero_le _, Nat.zero_le _⟩ ?_
  refine s_pf l_Li_becomeOf_15 ⟨_, rfl⟩ h (fun f5 h => ?_)
  refine s_ic 0 l_Li_becomeOf_18 rfl ?_
  refine s_isn l_Li_becomeOf_19 (Nat.le_of_ble_eq_true rfl) ?_
  exact h
def B_Li_becomeOf_20 (d : Nat) (E : Option Value → xH → Prop) (f : xH) (a0 : Nat) (a1 : Nat) (a2 : Nat) (x3 : Int32) : Prop :=
  xgi f a0 9 2 (fun v1 => xbr (v1 ≤ x3) (E none f) (xgr f a0 9 0 (fun r2 => xrl f r2 3 x3 (fun r3 => (∃ fs, f a1 = some (xO 2 fs)) ∧ xSp xT0 d j_Tr_pathAt [.ref a1, .int x3] f (fun w4 f5 => xvr w4 (fun r6 => (∃ fs, f5 r3 = some (xO 1 fs)) ∧ xSp xT0 d j_By_copyOf [.ref r3, .ref r6] f5 (fun w7 f8 => xvv w7 (xgr f8 a0 9 1 (fun r9 => xal f8 a2 0 x3 (fun v10 => xas f8 r9 0 x3 v10 (fun f11 => xWp (xT0, xSp xT0 d, none, m_Li_becomeOf, E) 20 [some (.ref a0), some (.ref a1), some (.ref a2), some (.int (x3 + 1))] [] f11 0 0)))))))))))
theorem b_Li_becomeOf_20 {d : Nat} {E : Option Value → xH → Prop} {f : xH} {a0 : Nat} {a1 : Nat} {a2 : Nat} {x3 : Int32} (h : B_Li_becomeOf_20 d E f a0 a1 a2 x3) : xWp (xT0, xSp xT0 d, none, m_Li_becomeOf, E) 20 [some (.ref a0), some (.ref a1), some (.ref a2), some (.int x3)] [] f 0 0 := by
  unfold B_Li_becomeOf_20 at h
  refine s_iln l_Li_becomeOf_20 rfl ?_
  refine s_aln l_Li_becomeOf_21 rfl ?_
  refine s_gi l_Li_becomeOf_22 h (fun v1 h => ?_)
  refine s_ifc l_Li_becomeOf_25 h (fun h => ?_) (fun h => ?_)
  · exact s_ret l_Li_becomeOf_57 ⟨Nat.zero_le _, Nat.zero_le _⟩ h
  · refine s_aln l_Li_becomeOf_28 rfl ?_
    refine s_gr l_Li_becomeOf_29 h (fun r2 h => ?_)
    refine s_iln l_Li_becomeOf_32 rfl ?_
    refine s_aal l_Li_becomeOf_33 h (fun r3 h => ?_)
    refine s_aln l_Li_becomeOf_34 rfl ?_
    refine s_iln l_Li_becomeOf_35 rfl ?_
    refine s_cvr (As := [.int x3]) (r := [.ref r3]) l_Li_becomeOf_36 rfl ⟨rfl, rfl⟩ rfl (Nat.le_of_ble_eq_true rfl) rfl ⟨Nat.zero_le _, Nat.zero_le _⟩ h (fun r6 f5 h => ?_)
    refine s_cvv (As := [.ref r6]) (r := []) l_Li_becomeOf_39 rfl ⟨rfl, rfl⟩ rfl (Nat.le_of_ble_eq_true rfl) rfl ⟨Nat.zero_le _, Nat.zero_le _⟩ h (fun f8 h => ?_)
    refine s_aln l_Li_becomeOf_42 rfl ?_
    refine s_gr l_Li_becomeOf_43 h (fun r9 h => ?_)
    refine s_iln l_Li_becomeOf_46 rfl ?_
    refine s_aln l_Li_becomeOf_47 rfl ?_
    refine s_iln l_Li_becomeOf_48 rfl ?_
    refine s_ial l_Li_becomeOf_49 rfl h (fun v10 h => ?_)
    refine s_iast l_Li_becomeOf_50 h (fun f11 h => ?_)
    refine s_inc 1 l_Li_becomeOf_51 rfl rfl ?_
    refine s_goto l_Li_becomeOf_54 ?_
    exact h
theorem l_Li_size_0 : xlk (xm_cd m_Li_size) 0 = some (.aload_n 0, 1, (0, 0, 0, [])) := rfl
theorem l_Li_size_1 : xlk (xm_cd m_Li_size) 1 = some (.getfield 24, 3, (241, 9, 2, [])) := rfl
theorem l_Li_size_4 : xlk (xm_cd m_Li_size) 4 = some (.ireturn, 1, (0, 0, 0, [])) := rfl
def B_Li_size_0 (d : Nat) (E : Option Value → xH → Prop) (f : xH) (a0 : Nat) : Prop :=
  xgi f a0 9 2 (fun v1 => E (some (.int v1)) f)
theorem b_Li_size_0 {d : Nat} {E : Option Value → xH → Prop} {f : xH} {a0 : Nat} (h : B_Li_size_0 d E f a0) : xWp (xT0, xSp xT0 d, none, m_Li_size, E) 0 [some (.ref a0)] [] f 0 0 := by
  unfold B_Li_size_0 at h
  refine s_aln l_Li_size_0 rfl ?_
  refine s_gi l_Li_size_1 h (fun v1 h => ?_)
  exact s_iret l_Li_size_4 rfl ⟨Nat.zero_le _, Nat.zero_le _⟩ h
