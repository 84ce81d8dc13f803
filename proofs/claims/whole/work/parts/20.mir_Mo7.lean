/-! blocks of Mo, 7 -/
theorem l_Mo_targetAt_0 : xlk (xm_cd m_Mo_targetAt) 0 = some (.iconst 0, 1, (0, 0, 0, [])) := rfl
theorem l_Mo_targetAt_1 : xlk (xm_cd m_Mo_targetAt) 1 = some (.istore 5, 2, (0, 0, 0, [])) := rfl
theorem l_Mo_targetAt_3 : xlk (xm_cd m_Mo_targetAt) 3 = some (.iload 5, 2, (0, 0, 0, [])) := rfl
theorem l_Mo_targetAt_5 : xlk (xm_cd m_Mo_targetAt) 5 = some (.aload_n 0, 1, (0, 0, 0, [])) := rfl
theorem l_Mo_targetAt_6 : xlk (xm_cd m_Mo_targetAt) 6 = some (.getfield 69, 3, (871, 11, 22, [])) := rfl
theorem l_Mo_targetAt_9 : xlk (xm_cd m_Mo_targetAt) 9 = some (.iload_n 1, 1, (0, 0, 0, [])) := rfl
theorem l_Mo_targetAt_10 : xlk (xm_cd m_Mo_targetAt) 10 = some (.iaload, 1, (0, 0, 0, [])) := rfl
theorem l_Mo_targetAt_11 : xlk (xm_cd m_Mo_targetAt) 11 = some (.if_icmp .ge 56, 3, (0, 67, 0, [])) := rfl
theorem l_Mo_targetAt_14 : xlk (xm_cd m_Mo_targetAt) 14 = some (.bipush 24, 2, (0, 0, 0, [])) := rfl
theorem l_Mo_targetAt_16 : xlk (xm_cd m_Mo_targetAt) 16 = some (.iload_n 1, 1, (0, 0, 0, [])) := rfl
theorem l_Mo_targetAt_17 : xlk (xm_cd m_Mo_targetAt) 17 = some (.imul, 1, (0, 0, 0, [])) := rfl
theorem l_Mo_targetAt_18 : xlk (xm_cd m_Mo_targetAt) 18 = some (.iload 5, 2, (0, 0, 0, [])) := rfl
theorem l_Mo_targetAt_20 : xlk (xm_cd m_Mo_targetAt) 20 = some (.iadd, 1, (0, 0, 0, [])) := rfl
theorem l_Mo_targetAt_21 : xlk (xm_cd m_Mo_targetAt) 21 = some (.istore 6, 2, (0, 0, 0, [])) := rfl
theorem l_Mo_targetAt_23 : xlk (xm_cd m_Mo_targetAt) 23 = some (.aload_n 0, 1, (0, 0, 0, [])) := rfl
theorem l_Mo_targetAt_24 : xlk (xm_cd m_Mo_targetAt) 24 = some (.iload 6, 2, (0, 0, 0, [])) := rfl
theorem l_Mo_targetAt_26 : xlk (xm_cd m_Mo_targetAt) 26 = some (.invokevirtual 295, 3, (1143, 203, 1, [])) := rfl
theorem l_Mo_targetAt_29 : xlk (xm_cd m_Mo_targetAt) 29 = some (.ifCond .eq 32, 3, (0, 61, 0, [])) := rfl
theorem l_Mo_targetAt_32 : xlk (xm_cd m_Mo_targetAt) 32 = some (.aload_n 0, 1, (0, 0, 0, [])) := rfl
theorem l_Mo_targetAt_33 : xlk (xm_cd m_Mo_targetAt) 33 = some (.getfield 39, 3, (861, 11, 12, [])) := rfl
theorem l_Mo_targetAt_36 : xlk (xm_cd m_Mo_targetAt) 36 = some (.bipush 18, 2, (0, 0, 0, [])) := rfl
theorem l_Mo_targetAt_38 : xlk (xm_cd m_Mo_targetAt) 38 = some (.iload 6, 2, (0, 0, 0, [])) := rfl
theorem l_Mo_targetAt_40 : xlk (xm_cd m_Mo_targetAt) 40 = some (.imul, 1, (0, 0, 0, [])) := rfl
theorem l_Mo_targetAt_41 : xlk (xm_cd m_Mo_targetAt) 41 = some (.aload_n 0, 1, (0, 0, 0, [])) := rfl
theorem l_Mo_targetAt_42 : xlk (xm_cd m_Mo_targetAt) 42 = some (.getfield 42, 3, (862, 11, 13, [])) := rfl
theorem l_Mo_targetAt_45 : xlk (xm_cd m_Mo_targetAt) 45 = some (.iload 6, 2, (0, 0, 0, [])) := rfl
theorem l_Mo_targetAt_47 : xlk (xm_cd m_Mo_targetAt) 47 = some (.iaload, 1, (0, 0, 0, [])) := rfl
theorem l_Mo_targetAt_48 : xlk (xm_cd m_Mo_targetAt) 48 = some (.aload_n 2, 1, (0, 0, 0, [])) := rfl
theorem l_Mo_targetAt_49 : xlk (xm_cd m_Mo_targetAt) 49 = some (.iload_n 3, 1, (0, 0, 0, [])) := rfl
theorem l_Mo_targetAt_50 : xlk (xm_cd m_Mo_targetAt) 50 = some (.iload 4, 2, (0, 0, 0, [])) := rfl
theorem l_Mo_targetAt_52 : xlk (xm_cd m_Mo_targetAt) 52 = some (.invokestatic 143, 3, (987, 157, 6, [])) := rfl
theorem l_Mo_targetAt_55 : xlk (xm_cd m_Mo_targetAt) 55 = some (.ifCond .ne 6, 3, (0, 61, 0, [])) := rfl
theorem l_Mo_targetAt_58 : xlk (xm_cd m_Mo_targetAt) 58 = some (.iload 6, 2, (0, 0, 0, [])) := rfl
theorem l_Mo_targetAt_60 : xlk (xm_cd m_Mo_targetAt) 60 = some (.ireturn, 1, (0, 0, 0, [])) := rfl
theorem l_Mo_targetAt_61 : xlk (xm_cd m_Mo_targetAt) 61 = some (.iinc 5 1, 3, (0, 0, 0, [])) := rfl
theorem l_Mo_targetAt_64 : xlk (xm_cd m_Mo_targetAt) 64 = some (.goto (-61), 3, (0, 3, 0, [])) := rfl
theorem l_Mo_targetAt_67 : xlk (xm_cd m_Mo_targetAt) 67 = some (.bipush (-2), 2, (0, 0, 0, [])) := rfl
theorem l_Mo_targetAt_69 : xlk (xm_cd m_Mo_targetAt) 69 = some (.ireturn, 1, (0, 0, 0, [])) := rfl
def B_Mo_targetAt_0 (d : Nat) (E : Option Value → xH → Prop) (f : xH) (a0 : Nat) (x1 : Int32) (a2 : Nat) (x3 : Int32) (x4 : Int32) : Prop :=
  xWp (xT0, xSp xT0 d, none, m_Mo_targetAt, E) 3 [some (.ref a0), some (.int x1), some (.ref a2), some (.int x3), some (.int x4), some (.int 0), none] [] f 0 0
theorem b_Mo_targetAt_0 {d : Nat} {E : Option Value → xH → Prop} {f : xH} {a0 : Nat} {x1 : Int32} {a2 : Nat} {x3 : Int32} {x4 : Int32} (h : B_Mo_targetAt_0 d E f a0 x1 a2 x3 x4) : xWp (xT0, xSp xT0 d, none, m_Mo_targetAt, E) 0 [some (.ref a0), some (.int x1), some (.ref a2), some (.int x3), some (.int x4), none, none] [] f 0 0 := by
  unfold B_Mo_targetAt_0 at h
  refine s_ic 0 l_Mo_targetAt_0 rfl ?_
  refine s_is l_Mo_targetAt_1 (Nat.le_of_ble_eq_true rfl) ?_
  exact h
def B_Mo_targetAt_3 (d : Nat) (E : Option Value → xH → Prop) (f : xH) (a0 : Nat) (x1 : Int32) (a2 : Nat) (x3 : Int32) (x4 : Int32) (x5 : Int32) (u6 : Option Value) : Prop :=
  xgr f a0 11 22 (fun r1 => xal f r1 0 x1 (fun v2 => xbr (v2 ≤ x5) (E (some (.int (-2))) f) ((∃ fs, f a0 = some (xO 11 fs)) ∧ xSp xT0 d j_Mo_hasTarget [.ref a0, .int ((24 * x1) + x5)] f (fun w3 f4 => xvi w3 (fun v5 => xbr (v5 = 0) (xWp (xT0, xSp xT0 d, none, m_Mo_targetAt, E) 3 [some (.ref a0), some (.int x1), some (.ref a2), some (.int x3), some (.int x4), some (.int (x5 + 1)), some (.int ((24 * x1) + x5))] [] f4 0 0) (xgr f4 a0 11 12 (fun r6 => xgr f4 a0 11 13 (fun r7 => xal f4 r7 0 ((24 * x1) + x5) (fun v8 => xSp xT0 d j_Mo_order [.ref r6, .int (18 * ((24 * x1) + x5)), .int v8, .ref a2, .int x3, .int x4] f4 (fun w9 f10 => xvi w9 (fun v11 => xbr (¬ v11 = 0) (xWp (xT0, xSp xT0 d, none, m_Mo_targetAt, E) 3 [some (.ref a0), some (.int x1), some (.ref a2), some (.int x3), some (.int x4), some (.int (x5 + 1)), some (.int ((24 * x1) + x5))] [] f10 0 0) (E (some (.int ((24 * x1) + x5))) f10))))))))))))
theorem b_Mo_targetAt_3 {d : Nat} {E : Option Value → xH → Prop} {f : xH} {a0 : Nat} {x1 : Int32} {a2 : Nat} {x3 : Int32} {x4 : Int32} {x5 : Int32} {u6 : Option Value} (h : B_Mo_targetAt_3 d E f a0 x1 a2 x3 x4 x5 u6) : xWp (xT0, xSp xT0 d, none, m_Mo_targetAt, E) 3 [some (.ref a0), some (.int x1), some (.ref a2), some (.int x3), some (.int x4), some (.int x5), u6] [] f 0 0 := by
  unfold B_Mo_targetAt_3 at h
  refine s_il l_Mo_targetAt_3 rfl ?_
  refine s_aln l_Mo_targetAt_5 rfl ?_
  refine s_gr l_Mo_targetAt_6 h (fun r1 h => ?_)
  refine s_iln l_Mo_targetAt_9 rfl ?_
  refine s_ial l_Mo_targetAt_10 rfl h (fun v2 h => ?_)
  refine s_ifc l_Mo_targetAt_11 h (fun h => ?_) (fun h => ?_)
  · refine s_bp (-2) l_Mo_targetAt_67 rfl ?_
    exact s_iret l_Mo_targetAt_69 rfl ⟨Nat.zero_le _, Nat.zero_le _⟩ h
  · refine s_bp 24 l_Mo_targetAt_14 rfl ?_
    refine s_iln l_Mo_targetAt_16 rfl ?_
    refine s_imul l_Mo_targetAt_17 ?_
    refine s_il l_Mo_targetAt_18 rfl ?_
    refine s_iadd l_Mo_targetAt_20 ?_
    refine s_is l_Mo_targetAt_21 (Nat.le_of_ble_eq_true rfl) ?_
    refine s_aln l_Mo_targetAt_23 rfl ?_
    refine s_il l_Mo_targetAt_24 rfl ?_
    refine s_cvi (As := [.int ((24 * x1) + x5)]) (r := []) l_Mo_targetAt_26 rfl ⟨rfl, rfl⟩ rfl (Nat.le_of_ble_eq_true rfl) rfl ⟨Nat.zero_le _, Nat.zero_le _⟩ h (fun v5 f4 h => ?_)
    refine s_if l_Mo_targetAt_29 h (fun h => ?_) (fun h => ?_)
    · refine s_inc 1 l_Mo_targetAt_61 rfl rfl ?_
      refine s_goto l_Mo_targetAt_64 ?_
      exact h
    · refine s_aln l_Mo_targetAt_32 rfl ?_
      refine s_gr l_Mo_targetAt_33 h (fun r6 h => ?_)
      refine s_bp 18 l_Mo_targetAt_36 rfl ?_
      refine s_il l_Mo_targetAt_38 rfl ?_
      refine s_imul l_Mo_targetAt_40 ?_
      refine s_aln l_Mo_targetAt_41 rfl ?_
      refine s_gr l_Mo_targetAt_42 h (fun r7 h => ?_)
      refine s_il l_Mo_targetAt_45 rfl ?_
      refine s_ial l_Mo_targetAt_47 rfl h (fun v8 h => ?_)
      refine s_aln l_Mo_targetAt_48 rfl ?_
      refine s_iln l_Mo_targetAt_49 rfl ?_
      refine s_il l_Mo_targetAt_50 rfl ?_
      refine s_csi (As := [.ref r6, .int (18 * ((24 * x1) + x5)), .int v8, .ref a2, .int x3, .int x4]) (r := []) l_Mo_targetAt_52 rfl ⟨rfl, rfl⟩ rfl (Nat.le_of_ble_eq_true rfl) rfl ⟨Nat.zero_le _, Nat.zero_le _⟩ h (fun v11 f10 h => ?_)
      refine s_if l_Mo_targetAt_55 h (fun h => ?_) (fun h => ?_)
      · refine s_inc 1 l_Mo_targetAt_61 rfl rfl ?_
        refine s_goto l_Mo_targetAt_64 ?_
        exact h
      · refine s_il l_Mo_targetAt_58 rfl ?_
        exact s_iret l_Mo_targetAt_60 rfl ⟨Nat.zero_le _, Nat.zero_le _⟩ h
theorem l_Mo_hasTarget_0 : xlk (xm_cd m_Mo_hasTarget) 0 = some (.aload_n 0, 1, (0, 0, 0, [])) := rfl
theorem l_Mo_hasTarget_1 : xlk (xm_cd m_Mo_hasTarget) 1 = some (.getfield 36, 3, (860, 11, 11, [])) := rfl
theorem l_Mo_hasTarget_4 : xlk (xm_cd m_Mo_hasTarget) 4 = some (.iload_n 1, 1, (0, 0, 0, [])) := rfl
theorem l_Mo_hasTarget_5 : xlk (xm_cd m_Mo_hasTarget) 5 = some (.iaload, 1, (0, 0, 0, [])) := rfl
theorem l_Mo_hasTarget_6 : xlk (xm_cd m_Mo_hasTarget) 6 = some (.iconst 1, 1, (0, 0, 0, [])) := rfl
theorem l_Mo_hasTarget_7 : xlk (xm_cd m_Mo_hasTarget) 7 = some (.if_icmp .eq 7, 3, (0, 14, 0, [])) := rfl
theorem l_Mo_hasTarget_10 : xlk (xm_cd m_Mo_hasTarget) 10 = some (.iconst 1, 1, (0, 0, 0, [])) := rfl
theorem l_Mo_hasTarget_11 : xlk (xm_cd m_Mo_hasTarget) 11 = some (.goto 4, 3, (0, 15, 0, [])) := rfl
theorem l_Mo_hasTarget_14 : xlk (xm_cd m_Mo_hasTarget) 14 = some (.iconst 0, 1, (0, 0, 0, [])) := rfl
theorem l_Mo_hasTarget_15 : xlk (xm_cd m_Mo_hasTarget) 15 = some (.ireturn, 1, (0, 0, 0, [])) := rfl
def B_Mo_hasTarget_0 (d : Nat) (E : Option Value → xH → Prop) (f : xH) (a0 : Nat) (x1 : Int32) : Prop :=
  xgr f a0 11 11 (fun r1 => xal f r1 0 x1 (fun v2 => xbr (v2 = 1) (E (some (.int 0)) f) (E (some (.int 1)) f)))
theorem b_Mo_hasTarget_0 {d : Nat} {E : Option Value → xH → Prop} {f : xH} {a0 : Nat} {x1 : Int32} (h : B_Mo_hasTarget_0 d E f a0 x1) : xWp (xT0, xSp xT0 d, none, m_Mo_hasTarget, E) 0 [some (.ref a0), some (.int x1)] [] f 0 0 := by
  unfold B_Mo_hasTarget_0 at h
  refine s_aln l_Mo_hasTarget_0 rfl ?_
  refine s_gr l_Mo_hasTarget_1 h (fun r1 h => ?_)
  refine s_iln l_Mo_hasTarget_4 rfl ?_
  refine s_ial l_Mo_hasTarget_5 rfl h (fun v2 h => ?_)
  refine s_ic 1 l_Mo_hasTarget_6 rfl ?_
  refine s_ifc l_Mo_hasTarget_7 h (fun h => ?_) (fun h => ?_)
  · refine s_ic 0 l_Mo_hasTarget_14 rfl ?_
    exact s_zret l_Mo_hasTarget_15 rfl ⟨Nat.zero_le _, Nat.zero_le _⟩ ⟨Or.inl rfl, h⟩
  · refine s_ic 1 l_Mo_hasTarget_10 rfl ?_
    refine s_goto l_Mo_hasTarget_11 ?_
    exact s_zret l_Mo_hasTarget_15 rfl ⟨Nat.zero_le _, Nat.zero_le _⟩ ⟨Or.inr rfl, h⟩
theorem l_Mo_sourceAt_0 : xlk (xm_cd m_Mo_sourceAt) 0 = some (.iconst 0, 1, (0, 0, 0, [])) := rfl
theorem l_Mo_sourceAt_1 : xlk (xm_cd m_Mo_sourceAt) 1 = some (.istore 5, 2, (0, 0, 0, [])) := rfl
theorem l_Mo_sourceAt_3 : xlk (xm_cd m_Mo_sourceAt) 3 = some (.iload 5, 2, (0, 0, 0, [])) := rfl
theorem l_Mo_sourceAt_5 : xlk (xm_cd m_Mo_sourceAt) 5 = some (.aload_n 0, 1, (0, 0, 0, [])) := rfl
theorem l_Mo_sourceAt_6 : xlk (xm_cd m_Mo_sourceAt) 6 = some (.getfield 69, 3, (871, 11, 22, [])) := rfl
theorem l_Mo_sourceAt_9 : xlk (xm_cd m_Mo_sourceAt) 9 = some (.iload_n 1, 1, (0, 0, 0, [])) := rfl
theorem l_Mo_sourceAt_10 : xlk (xm_cd m_Mo_sourceAt) 10 = some (.iaload, 1, (0, 0, 0, [])) := rfl
theorem l_Mo_sourceAt_11 : xlk (xm_cd m_Mo_sourceAt) 11 = some (.if_icmp .ge 56, 3, (0, 67, 0, [])) := rfl
theorem l_Mo_sourceAt_14 : xlk (xm_cd m_Mo_sourceAt) 14 = some (.bipush 24, 2, (0, 0, 0, [])) := rfl
theorem l_Mo_sourceAt_16 : xlk (xm_cd m_Mo_sourceAt) 16 = some (.iload_n 1, 1, (0, 0, 0, [])) := rfl
theorem l_Mo_sourceAt_17 : xlk (xm_cd m_Mo_sourceAt) 17 = some (.imul, 1, (0, 0, 0, [])) := rfl
theorem l_Mo_sourceAt_18 : xlk (xm_cd m_Mo_sourceAt) 18 = some (.iload 5, 2, (0, 0, 0, [])) := rfl
theorem l_Mo_sourceAt_20 : xlk (xm_cd m_Mo_sourceAt) 20 = some (.iadd, 1, (0, 0, 0, [])) := rfl
theorem l_Mo_sourceAt_21 : xlk (xm_cd m_Mo_sourceAt) 21 = some (.istore 6, 2, (0, 0, 0, [])) := rfl
theorem l_Mo_sourceAt_23 : xlk (xm_cd m_Mo_sourceAt) 23 = some (.aload_n 0, 1, (0, 0, 0, [])) := rfl
theorem l_Mo_sourceAt_24 : xlk (xm_cd m_Mo_sourceAt) 24 = some (.iload 6, 2, (0, 0, 0, [])) := rfl
theorem l_Mo_sourceAt_26 : xlk (xm_cd m_Mo_sourceAt) 26 = some (.invokevirtual 298, 3, (1137, 201, 1, [])) := rfl
theorem l_Mo_sourceAt_29 : xlk (xm_cd m_Mo_sourceAt) 29 = some (.ifCond .eq 32, 3, (0, 61, 0, [])) := rfl
theorem l_Mo_sourceAt_32 : xlk (xm_cd m_Mo_sourceAt) 32 = some (.aload_n 0, 1, (0, 0, 0, [])) := rfl
theorem l_Mo_sourceAt_33 : xlk (xm_cd m_Mo_sourceAt) 33 = some (.getfield 45, 3, (863, 11, 14, [])) := rfl
theorem l_Mo_sourceAt_36 : xlk (xm_cd m_Mo_sourceAt) 36 = some (.bipush 18, 2, (0, 0, 0, [])) := rfl
theorem l_Mo_sourceAt_38 : xlk (xm_cd m_Mo_sourceAt) 38 = some (.iload 6, 2, (0, 0, 0, [])) := rfl
theorem l_Mo_sourceAt_40 : xlk (xm_cd m_Mo_sourceAt) 40 = some (.imul, 1, (0, 0, 0, [])) := rfl
theorem l_Mo_sourceAt_41 : xlk (xm_cd m_Mo_sourceAt) 41 = some (.aload_n 0, 1, (0, 0, 0, [])) := rfl
theorem l_Mo_sourceAt_42 : xlk (xm_cd m_Mo_sourceAt) 42 = some (.getfield 48, 3, (864, 11, 15, [])) := rfl
theorem l_Mo_sourceAt_45 : xlk (xm_cd m_Mo_sourceAt) 45 = some (.iload 6, 2, (0, 0, 0, [])) := rfl
theorem l_Mo_sourceAt_47 : xlk (xm_cd m_Mo_sourceAt) 47 = some (.iaload, 1, (0, 0, 0, [])) := rfl
theorem l_Mo_sourceAt_48 : xlk (xm_cd m_Mo_sourceAt) 48 = some (.aload_n 2, 1, (0, 0, 0, [])) := rfl
theorem l_Mo_sourceAt_49 : xlk (xm_cd m_Mo_sourceAt) 49 = some (.iload_n 3, 1, (0, 0, 0, [])) := rfl
theorem l_Mo_sourceAt_50 : xlk (xm_cd m_Mo_sourceAt) 50 = some (.iload 4, 2, (0, 0, 0, [])) := rfl
theorem l_Mo_sourceAt_52 : xlk (xm_cd m_Mo_sourceAt) 52 = some (.invokestatic 143, 3, (987, 157, 6, [])) := rfl
theorem l_Mo_sourceAt_55 : xlk (xm_cd m_Mo_sourceAt) 55 = some (.ifCond .ne 6, 3, (0, 61, 0, [])) := rfl
theorem l_Mo_sourceAt_58 : xlk (xm_cd m_Mo_sourceAt) 58 = some (.iload 6, 2, (0, 0, 0, [])) := rfl
theorem l_Mo_sourceAt_60 : xlk (xm_cd m_Mo_sourceAt) 60 = some (.ireturn, 1, (0, 0, 0, [])) := rfl
theorem l_Mo_sourceAt_61 : xlk (xm_cd m_Mo_sourceAt) 61 = some (.iinc 5 1, 3, (0, 0, 0, [])) := rfl
theorem l_Mo_sourceAt_64 : xlk (xm_cd m_Mo_sourceAt) 64 = some (.goto (-61), 3, (0, 3, 0, [])) := rfl
theorem l_Mo_sourceAt_67 : xlk (xm_cd m_Mo_sourceAt) 67 = some (.bipush (-2), 2, (0, 0, 0, [])) := rfl
theorem l_Mo_sourceAt_69 : xlk (xm_cd m_Mo_sourceAt) 69 = some (.ireturn, 1, (0, 0, 0, [])) := rfl
def B_Mo_sourceAt_0 (d : Nat) (E : Option Value → xH → Prop) (f : xH) (a0 : Nat) (x1 : Int32) (a2 : Nat) (x3 : Int32) (x4 : Int32) : Prop :=
  xWp (xT0, xSp xT0 d, none, m_Mo_sourceAt, E) 3 [some (.ref a0), some (.int x1), some (.ref a2), some (.int x3), some (.int x4), some (.int 0), none] [] f 0 0
theorem b_Mo_sourceAt_0 {d : Nat} {E : Option Value → xH → Prop} {f : xH} {a0 : Nat} {x1 : Int32} {a2 : Nat} {x3 : Int32} {x4 : Int32} (h : B_Mo_sourceAt_0 d E f a0 x1 a2 x3 x4) : xWp (xT0, xSp xT0 d, none, m_Mo_sourceAt, E) 0 [some (.ref a0), some (.int x1), some (.ref a2), some (.int x3), some (.int x4), none, none] [] f 0 0 := by
  unfold B_Mo_sourceAt_0 at h
  refine s_ic 0 l_Mo_sourceAt_0 rfl ?_
  refine s_is l_Mo_sourceAt_1 (Nat.le_of_ble_eq_true rfl) ?_
  exact h
def B_Mo_sourceAt_3 (d : Nat) (E : Option Value → xH → Prop) (f : xH) (a0 : Nat) (x1 : Int32) (a2 : Nat) (x3 : Int32) (x4 : Int32) (x5 : Int32) (u6 : Option Value) : Prop :=
  xgr f a0 11 22 (fun r1 => xal f r1 0 x1 (fun v2 => xbr (v2 ≤ x5) (E (some (.int (-2))) f) ((∃ fs, f a0 = some (xO 11 fs)) ∧ xSp xT0 d j_Mo_hasSource [.ref a0, .int ((24 * x1) + x5)] f (fun w3 f4 => xvi w3 (fun v5 => xbr (v5 = 0) (xWp (xT0, xSp xT0 d, none, m_Mo_sourceAt, E) 3 [some (.ref a0), some (.int x1), some (.ref a2), some (.int x3), some (.int x4), some (.int (x5 + 1)), some (.int ((24 * x1) + x5))] [] f4 0 0) (xgr f4 a0 11 14 (fun r6 => xgr f4 a0 11 15 (fun r7 => xal f4 r7 0 ((24 * x1) + x5) (fun v8 => xSp xT0 d j_Mo_order [.ref r6, .int (18 * ((24 * x1) + x5)), .int v8, .ref a2, .int x3, .int x4] f4 (fun w9 f10 => xvi w9 (fun v11 => xbr (¬ v11 = 0) (xWp (xT0, xSp xT0 d, none, m_Mo_sourceAt, E) 3 [some (.ref a0), some (.int x1), some (.ref a2), some (.int x3), some (.int x4), some (.int (x5 + 1)), some (.int ((24 * x1) + x5))] [] f10 0 0) (E (some (.int ((24 * x1) + x5))) f10))))))))))))
theorem b_Mo_sourceAt_3 {d : Nat} {E : Option Value → xH → Prop} {f : xH} {a0 : Nat} {x1 : Int32} {a2 : Nat} {x3 : Int32} {x4 : Int32} {x5 : Int32} {u6 : Option Value} (h : B_Mo_sourceAt_3 d E f a0 x1 a2 x3 x4 x5 u6) : xWp (xT0, xSp xT0 d, none, m_Mo_sourceAt, E) 3 [some (.ref a0), some (.int x1), some (.ref a2), some (.int x3), some (.int x4), some (.int x5), u6] [] f 0 0 := by
  unfold B_Mo_sourceAt_3 at h
  refine s_il l_Mo_sourceAt_3 rfl ?_
  refine s_aln l_Mo_sourceAt_5 rfl ?_
  refine s_gr l_Mo_sourceAt_6 h (fun r1 h => ?_)
  refine s_iln l_Mo_sourceAt_9 rfl ?_
  refine s_ial l_Mo_sourceAt_10 rfl h (fun v2 h => ?_)
  refine s_ifc l_Mo_sourceAt_11 h (fun h => ?_) (fun h => ?_)
  · refine s_bp (-2) l_Mo_sourceAt_67 rfl ?_
    exact s_iret l_Mo_sourceAt_69 rfl ⟨Nat.zero_le _, Nat.zero_le _⟩ h
  · refine s_bp 24 l_Mo_sourceAt_14 rfl ?_
    refine s_iln l_Mo_sourceAt_16 rfl ?_
    refine s_imul l_Mo_sourceAt_17 ?_
    refine s_il l_Mo_sourceAt_18 rfl ?_
    refine s_iadd l_Mo_sourceAt_20 ?_
    refine s_is l_Mo_sourceAt_21 (Nat.le_of_ble_eq_true rfl) ?_
    refine s_aln l_Mo_sourceAt_23 rfl ?_
    refine s_il l_Mo_sourceAt_24 rfl ?_
    refine s_cvi (As := [.int ((24 * x1) + x5)]) (r := []) l_Mo_sourceAt_26 rfl ⟨rfl, rfl⟩ rfl (Nat.le_of_ble_eq_true rfl) rfl ⟨Nat.zero_le _, Nat.zero_le _⟩ h (fun v5 f4 h => ?_)
    refine s_if l_Mo_sourceAt_29 h (fun h => ?_) (fun h => ?_)
    · refine s_inc 1 l_Mo_sourceAt_61 rfl rfl ?_
      refine s_goto l_Mo_sourceAt_64 ?_
      exact h
    · refine s_aln l_Mo_sourceAt_32 rfl ?_
      refine s_gr l_Mo_sourceAt_33 h (fun r6 h => ?_)
      refine s_bp 18 l_Mo_sourceAt_36 rfl ?_
      refine s_il l_Mo_sourceAt_38 rfl ?_
      refine s_imul l_Mo_sourceAt_40 ?_
      refine s_aln l_Mo_sourceAt_41 rfl ?_
      refine s_gr l_Mo_sourceAt_42 h (fun r7 h => ?_)
      refine s_il l_Mo_sourceAt_45 rfl ?_
      refine s_ial l_Mo_sourceAt_47 rfl h (fun v8 h => ?_)
      refine s_aln l_Mo_sourceAt_48 rfl ?_
      refine s_iln l_Mo_sourceAt_49 rfl ?_
      refine s_il l_Mo_sourceAt_50 rfl ?_
      refine s_csi (As := [.ref r6, .int (18 * ((24 * x1) + x5)), .int v8, .ref a2, .int x3, .int x4]) (r := []) l_Mo_sourceAt_52 rfl ⟨rfl, rfl⟩ rfl (Nat.le_of_ble_eq_true rfl) rfl ⟨Nat.zero_le _, Nat.zero_le _⟩ h (fun v11 f10 h => ?_)
      refine s_if l_Mo_sourceAt_55 h (fun h => ?_) (fun h => ?_)
      · refine s_inc 1 l_Mo_sourceAt_61 rfl rfl ?_
        refine s_goto l_Mo_sourceAt_64 ?_
        exact h
      · refine s_il l_Mo_sourceAt_58 rfl ?_
        exact s_iret l_Mo_sourceAt_60 rfl ⟨Nat.zero_le _, Nat.zero_le _⟩ h
theorem l_Mo_joinSteps_0 : xlk (xm_cd m_Mo_joinSteps) 0 = some (.aload_n 0, 1, (0, 0, 0, [])) := rfl
theorem l_Mo_joinSteps_1 : xlk (xm_cd m_Mo_joinSteps) 1 = some (.iload_n 1, 1, (0, 0, 0, [])) := rfl
theorem l_Mo_joinSteps_2 : xlk (xm_cd m_Mo_joinSteps) 2 = some (.invokevirtual 298, 3, (1137, 201, 1, [])) := rfl
theorem l_Mo_joinSteps_5 : xlk (xm_cd m_Mo_joinSteps) 5 = some (.ifCond .ne 13, 3, (0, 18, 0, [])) := rfl
theorem l_Mo_joinSteps_8 : xlk (xm_cd m_Mo_joinSteps) 8 = some (.aload_n 0, 1, (0, 0, 0, [])) := rfl
theorem l_Mo_joinSteps_9 : xlk (xm_cd m_Mo_joinSteps) 9 = some (.iload_n 2, 1, (0, 0, 0, [])) := rfl
theorem l_Mo_joinSteps_10 : xlk (xm_cd m_Mo_joinSteps) 10 = some (.invokevirtual 295, 3, (1143, 203, 1, [])) := rfl
theorem l_Mo_joinSteps_13 : xlk (xm_cd m_Mo_joinSteps) 13 = some (.ifCond .ne 5, 3, (0, 18, 0, [])) := rfl
theorem l_Mo_joinSteps_16 : xlk (xm_cd m_Mo_joinSteps) 16 = some (.iconst 0, 1, (0, 0, 0, [])) := rfl
theorem l_Mo_joinSteps_17 : xlk (xm_cd m_Mo_joinSteps) 17 = some (.ireturn, 1, (0, 0, 0, [])) := rfl
theorem l_Mo_joinSteps_18 : xlk (xm_cd m_Mo_joinSteps) 18 = some (.aload_n 0, 1, (0, 0, 0, [])) := rfl
theorem l_Mo_joinSteps_19 : xlk (xm_cd m_Mo_joinSteps) 19 = some (.iload_n 1, 1, (0, 0, 0, [])) := rfl
theorem l_Mo_joinSteps_20 : xlk (xm_cd m_Mo_joinSteps) 20 = some (.invokevirtual 298, 3, (1137, 201, 1, [])) := rfl
theorem l_Mo_joinSteps_23 : xlk (xm_cd m_Mo_joinSteps) 23 = some (.ifCond .ne 7, 3, (0, 30, 0, [])) := rfl
theorem l_Mo_joinSteps_26 : xlk (xm_cd m_Mo_joinSteps) 26 = some (.iconst 0, 1, (0, 0, 0, [])) := rfl
theorem l_Mo_joinSteps_27 : xlk (xm_cd m_Mo_joinSteps) 27 = some (.goto 16, 3, (0, 43, 0, [])) := rfl
theorem l_Mo_joinSteps_30 : xlk (xm_cd m_Mo_joinSteps) 30 = some (.aload_n 0, 1, (0, 0, 0, [])) := rfl
theorem l_Mo_joinSteps_31 : xlk (xm_cd m_Mo_joinSteps) 31 = some (.iload_n 2, 1, (0, 0, 0, [])) := rfl
theorem l_Mo_joinSteps_32 : xlk (xm_cd m_Mo_joinSteps) 32 = some (.invokevirtual 295, 3, (1143, 203, 1, [])) := rfl
theorem l_Mo_joinSteps_35 : xlk (xm_cd m_Mo_joinSteps) 35 = some (.ifCond .ne 7, 3, (0, 42, 0, [])) := rfl
theorem l_Mo_joinSteps_38 : xlk (xm_cd m_Mo_joinSteps) 38 = some (.iconst 1, 1, (0, 0, 0, [])) := rfl
theorem l_Mo_joinSteps_39 : xlk (xm_cd m_Mo_joinSteps) 39 = some (.goto 4, 3, (0, 43, 0, [])) := rfl
theorem l_Mo_joinSteps_42 : xlk (xm_cd m_Mo_joinSteps) 42 = some (.iconst 4, 1, (0, 0, 0, [])) := rfl
theorem l_Mo_joinSteps_43 : xlk (xm_cd m_Mo_joinSteps) 43 = some (.istore_n 3, 1, (0, 0, 0, [])) := rfl
theorem l_Mo_joinSteps_44 : xlk (xm_cd m_Mo_joinSteps) 44 = some (.iload_n 3, 1, (0, 0, 0, [])) := rfl
theorem l_Mo_joinSteps_45 : xlk (xm_cd m_Mo_joinSteps) 45 = some (.ifCond .ne 39, 3, (0, 84, 0, [])) := rfl
theorem l_Mo_joinSteps_48 : xlk (xm_cd m_Mo_joinSteps) 48 = some (.aload_n 0, 1, (0, 0, 0, [])) := rfl
theorem l_Mo_joinSteps_49 : xlk (xm_cd m_Mo_joinSteps) 49 = some (.iconst 0, 1, (0, 0, 0, [])) := rfl
theorem l_Mo_joinSteps_50 : xlk (xm_cd m_Mo_joinSteps) 50 = some (.aload_n 0, 1, (0, 0, 0, [])) := rfl
theorem l_Mo_joinSteps_51 : xlk (xm_cd m_Mo_joinSteps) 51 = some (.getfield 39, 3, (861, 11, 12, [])) := rfl
theorem l_Mo_joinSteps_54 : xlk (xm_cd m_Mo_joinSteps) 54 = some (.bipush 18, 2, (0, 0, 0, [])) := rfl
theorem l_Mo_joinSteps_56 : xlk (xm_cd m_Mo_joinSteps) 56 = some (.iload_n 2, 1, (0, 0, 0, [])) := rfl
theorem l_Mo_joinSteps_57 : xlk (xm_cd m_Mo_joinSteps) 57 = some (.imul, 1, (0, 0, 0, [])) := rfl
theorem l_Mo_joinSteps_58 : xlk (xm_cd m_Mo_joinSteps) 58 = some (.aload_n 0, 1, (0, 0, 0, [])) := rfl
theorem l_Mo_joinSteps_59 : xlk (xm_cd m_Mo_joinSteps) 59 = some (.getfield 42, 3, (862, 11, 13, [])) := rfl
theorem l_Mo_joinSteps_62 : xlk (xm_cd m_Mo_joinSteps) 62 = some (.iload_n 2, 1, (0, 0, 0, [])) := rfl
theorem l_Mo_joinSteps_63 : xlk (xm_cd m_Mo_joinSteps) 63 = some (.iaload, 1, (0, 0, 0, [])) := rfl
theorem l_Mo_joinSteps_64 : xlk (xm_cd m_Mo_joinSteps) 64 = some (.aload_n 0, 1, (0, 0, 0, [])) := rfl
theorem l_Mo_joinSteps_65 : xlk (xm_cd m_Mo_joinSteps) 65 = some (.getfield 39, 3, (861, 11, 12, [])) := rfl
theorem l_Mo_joinSteps_68 : xlk (xm_cd m_Mo_joinSteps) 68 = some (.bipush 18, 2, (0, 0, 0, [])) := rfl
theorem l_Mo_joinSteps_70 : xlk (xm_cd m_Mo_joinSteps) 70 = some (.iload_n 2, 1, (0, 0, 0, [])) := rfl
theorem l_Mo_joinSteps_71 : xlk (xm_cd m_Mo_joinSteps) 71 = some (.imul, 1, (0, 0, 0, [])) := rfl
theorem l_Mo_joinSteps_72 : xlk (xm_cd m_Mo_joinSteps) 72 = some (.aload_n 0, 1, (0, 0, 0, [])) := rfl
theorem l_Mo_joinSteps_73 : xlk (xm_cd m_Mo_joinSteps) 73 = some (.getfield 42, 3, (862, 11, 13, [])) := rfl
theorem l_Mo_joinSteps_76 : xlk (xm_cd m_Mo_joinSteps) 76 = some (.iload_n 2, 1, (0, 0, 0, [])) := rfl
theorem l_Mo_joinSteps_77 : xlk (xm_cd m_Mo_joinSteps) 77 = some (.iaload, 1, (0, 0, 0, [])) := rfl
theorem l_Mo_joinSteps_78 : xlk (xm_cd m_Mo_joinSteps) 78 = some (.invokevirtual 222, 3, (1038, 171, 7, [])) := rfl
theorem l_Mo_joinSteps_81 : xlk (xm_cd m_Mo_joinSteps) 81 = some (.goto 77, 3, (0, 158, 0, [])) := rfl
theorem l_Mo_joinSteps_84 : xlk (xm_cd m_Mo_joinSteps) 84 = some (.iload_n 3, 1, (0, 0, 0, [])) := rfl
theorem l_Mo_joinSteps_85 : xlk (xm_cd m_Mo_joinSteps) 85 = some (.iconst 1, 1, (0, 0, 0, [])) := rfl
theorem l_Mo_joinSteps_86 : xlk (xm_cd m_Mo_joinSteps) 86 = some (.if_icmp .ne 39, 3, (0, 125, 0, [])) := rfl
theorem l_Mo_joinSteps_89 : xlk (xm_cd m_Mo_joinSteps) 89 = some (.aload_n 0, 1, (0, 0, 0, [])) := rfl
theorem l_Mo_joinSteps_90 : xlk (xm_cd m_Mo_joinSteps) 90 = some (.iconst 1, 1, (0, 0, 0, [])) := rfl
theorem l_Mo_joinSteps_91 : xlk (xm_cd m_Mo_joinSteps) 91 = some (.aload_n 0, 1, (0, 0, 0, [])) := rfl
theorem l_Mo_joinSteps_92 : xlk (xm_cd m_Mo_joinSteps) 92 = some (.getfield 45, 3, (863, 11, 14, [])) := rfl
theorem l_Mo_joinSteps_95 : xlk (xm_cd m_Mo_joinSteps) 95 = some (.bipush 18, 2, (0, 0, 0, [])) := rfl
theorem l_Mo_joinSteps_97 : xlk (xm_cd m_Mo_joinSteps) 97 = some (.iload_n 1, 1, (0, 0, 0, [])) := rfl
theorem l_Mo_joinSteps_98 : xlk (xm_cd m_Mo_joinSteps) 98 = some (.imul, 1, (0, 0, 0, [])) := rfl
theorem l_Mo_joinSteps_99 : xlk (xm_cd m_Mo_joinSteps) 99 = some (.aload_n 0, 1, (0, 0, 0, [])) := rfl
theorem l_Mo_joinSteps_100 : xlk (xm_cd m_Mo_joinSteps) 100 = some (.getfield 48, 3, (864, 11, 15, [])) := rfl
theorem l_Mo_joinSteps_103 : xlk (xm_cd m_Mo_joinSteps) 103 = some (.iload_n 1, 1, (0, 0, 0, [])) := rfl
theorem l_Mo_joinSteps_104 : xlk (xm_cd m_Mo_joinSteps) 104 = some (.iaload, 1, (0, 0, 0, [])) := rfl
theorem l_Mo_joinSteps_105 : xlk (xm_cd m_Mo_joinSteps) 105 = some (.aload_n 0, 1, (0, 0, 0, [])) := rfl
theorem l_Mo_joinSteps_106 : xlk (xm_cd m_Mo_joinSteps) 106 = some (.getfield 45, 3, (863, 11, 14, [])) := rfl
theorem l_Mo_joinSteps_109 : xlk (xm_cd m_Mo_joinSteps) 109 = some (.bipush 18, 2, (0, 0, 0, [])) := rfl
theorem l_Mo_joinSteps_111 : xlk (xm_cd m_Mo_joinSteps) 111 = some (.iload_n 1, 1, (0, 0, 0, [])) := rfl
theorem l_Mo_joinSteps_112 : xlk (xm_cd m_Mo_joinSteps) 112 = some (.imul, 1, (0, 0, 0, [])) := rfl
theorem l_Mo_joinSteps_113 : xlk (xm_cd m_Mo_joinSteps) 113 = some (.aload_n 0, 1, (0, 0, 0, [])) := rfl
theorem l_Mo_joinSteps_114 : xlk (xm_cd m_Mo_joinSteps) 114 = some (.getfield 48, 3, (864, 11, 15, [])) := rfl
theorem l_Mo_joinSteps_117 : xlk (xm_cd m_Mo_joinSteps) 117 = some (.iload_n 1, 1, (0, 0, 0, [])) := rfl
theorem l_Mo_joinSteps_118 : xlk (xm_cd m_Mo_joinSteps) 118 = some (.iaload, 1, (0, 0, 0, [])) := rfl
theorem l_Mo_joinSteps_119 : xlk (xm_cd m_Mo_joinSteps) 119 = some (.invokevirtual 222, 3, (1038, 171, 7, [])) := rfl
theorem l_Mo_joinSteps_122 : xlk (xm_cd m_Mo_joinSteps) 122 = some (.goto 36, 3, (0, 158, 0, [])) := rfl
theorem l_Mo_joinSteps_125 : xlk (xm_cd m_Mo_joinSteps) 125 = some (.aload_n 0, 1, (0, 0, 0, [])) := rfl
theorem l_Mo_joinSteps_126 : xlk (xm_cd m_Mo_joinSteps) 126 = some (.iconst 4, 1, (0, 0, 0, [])) := rfl
theorem l_Mo_joinSteps_127 : xlk (xm_cd m_Mo_joinSteps) 127 = some (.aload_n 0, 1, (0, 0, 0, [])) := rfl
theorem l_Mo_joinSteps_128 : xlk (xm_cd m_Mo_joinSteps) 128 = some (.getfield 45, 3, (863, 11, 14, [])) := rfl
theorem l_Mo_joinSteps_131 : xlk (xm_cd m_Mo_joinSteps) 131 = some (.bipush 18, 2, (0, 0, 0, [])) := rfl
theorem l_Mo_joinSteps_133 : xlk (xm_cd m_Mo_joinSteps) 133 = some (.iload_n 1, 1, (0, 0, 0, [])) := rfl
theorem l_Mo_joinSteps_134 : xlk (xm_cd m_Mo_joinSteps) 134 = some (.imul, 1, (0, 0, 0, [])) := rfl
theorem l_Mo_joinSteps_135 : xlk (xm_cd m_Mo_joinSteps) 135 = some (.aload_n 0, 1, (0, 0, 0, [])) := rfl
set_option maxRecDepth 20000 in
theorem l_Mo_joinSteps_136 : xlk (xm_cd m_Mo_joinSteps) 136 = some (.getfield 48, 3, (864, 11, 15, [])) := rfl
set_option maxRecDepth 20000 in
theorem l_Mo_joinSteps_139 : xlk (xm_cd m_Mo_joinSteps) 139 = some (.iload_n 1, 1, (0, 0, 0, [])) := rfl
set_option maxRecDepth 20000 in
theorem l_Mo_joinSteps_140 : xlk (xm_cd m_Mo_joinSteps) 140 = some (.iaload, 1, (0, 0, 0, [])) := rfl
set_option maxRecDepth 20000 in
theorem l_Mo_joinSteps_141 : xlk (xm_cd m_Mo_joinSteps) 141 = some (.aload_n 0, 1, (0, 0, 0, [])) := rfl
set_option maxRecDepth 20000 in
theorem l_Mo_joinSteps_142 : xlk (xm_cd m_Mo_joinSteps) 142 = some (.getfield 39, 3, (861, 11, 12, [])) := rfl
set_option maxRecDepth 20000 in
theorem l_Mo_joinSteps_145 : xlk (xm_cd m_Mo_joinSteps) 145 = some (.bipush 18, 2, (0, 0, 0, [])) := rfl
set_option maxRecDepth 20000 in
theorem l_Mo_joinSteps_147 : xlk (xm_cd m_Mo_joinSteps) 147 = some (.iload_n 2, 1, (0, 0, 0, [])) := rfl
set_option maxRecDepth 20000 in
theorem l_Mo_joinSteps_148 : xlk (xm_cd m_Mo_joinSteps) 148 = some (.imul, 1, (0, 0, 0, [])) := rfl
set_option maxRecDepth 20000 in
theorem l_Mo_joinSteps_149 : xlk (xm_cd m_Mo_joinSteps) 149 = some (.aload_n 0, 1, (0, 0, 0, [])) := rfl
set_option maxRecDepth 20000 in
theorem l_Mo_joinSteps_150 : xlk (xm_cd m_Mo_joinSteps) 150 = some (.getfield 42, 3, (862, 11, 13, [])) := rfl
set_option maxRecDepth 20000 in
theorem l_Mo_joinSteps_153 : xlk (xm_cd m_Mo_joinSteps) 153 = some (.iload_n 2, 1, (0, 0, 0, [])) := rfl
set_option maxRecDepth 20000 in
theorem l_Mo_joinSteps_154 : xlk (xm_cd m_Mo_joinSteps) 154 = some (.iaload, 1, (0, 0, 0, [])) := rfl
set_option maxRecDepth 20000 in
theorem l_Mo_joinSteps_155 : xlk (xm_cd m_Mo_joinSteps) 155 = some (.invokevirtual 222, 3, (1038, 171, 7, [])) := rfl
set_option maxRecDepth 20000 in
theorem l_Mo_joinSteps_158 : xlk (xm_cd m_Mo_joinSteps) 158 = some (.aload_n 0, 1, (0, 0, 0, [])) := rfl
set_option maxRecDepth 20000 in
theorem l_Mo_joinSteps_159 : xlk (xm_cd m_Mo_joinSteps) 159 = some (.getfield 51, 3, (865, 11, 16, [])) := rfl
set_option maxRecDepth 20000 in
theorem l_Mo_joinSteps_162 : xlk (xm_cd m_Mo_joinSteps) 162 = some (.sipush 217, 3, (0, 0, 0, [])) := rfl
set_option maxRecDepth 20000 in
theorem l_Mo_joinSteps_165 : xlk (xm_cd m_Mo_joinSteps) 165 = some (.aload_n 0, 1, (0, 0, 0, [])) := rfl
set_option maxRecDepth 20000 in
theorem l_Mo_joinSteps_166 : xlk (xm_cd m_Mo_joinSteps) 166 = some (.getfield 51, 3, (865, 11, 16, [])) := rfl
set_option maxRecDepth 20000 in
theorem l_Mo_joinSteps_169 : xlk (xm_cd m_Mo_joinSteps) 169 = some (.iload_n 1, 1, (0, 0, 0, [])) := rfl
set_option maxRecDepth 20000 in
theorem l_Mo_joinSteps_170 : xlk (xm_cd m_Mo_joinSteps) 170 = some (.iaload, 1, (0, 0, 0, [])) := rfl
set_option maxRecDepth 20000 in
theorem l_Mo_joinSteps_171 : xlk (xm_cd m_Mo_joinSteps) 171 = some (.iastore, 1, (0, 0, 0, [])) := rfl
set_option maxRecDepth 20000 in
theorem l_Mo_joinSteps_172 : xlk (xm_cd m_Mo_joinSteps) 172 = some (.aload_n 0, 1, (0, 0, 0, [])) := rfl
set_option maxRecDepth 20000 in
theorem l_Mo_joinSteps_173 : xlk (xm_cd m_Mo_joinSteps) 173 = some (.getfield 54, 3, (866, 11, 17, [])) := rfl
set_option maxRecDepth 20000 in
theorem l_Mo_joinSteps_176 : xlk (xm_cd m_Mo_joinSteps) 176 = some (.sipush 217, 3, (0, 0, 0, [])) := rfl
set_option maxRecDepth 20000 in
theorem l_Mo_joinSteps_179 : xlk (xm_cd m_Mo_joinSteps) 179 = some (.aload_n 0, 1, (0, 0, 0, [])) := rfl
set_option maxRecDepth 20000 in
theorem l_Mo_joinSteps_180 : xlk (xm_cd m_Mo_joinSteps) 180 = some (.getfield 54, 3, (866, 11, 17, [])) := rfl
set_option maxRecDepth 20000 in
theorem l_Mo_joinSteps_183 : xlk (xm_cd m_Mo_joinSteps) 183 = some (.iload_n 1, 1, (0, 0, 0, [])) := rfl
set_option maxRecDepth 20000 in
theorem l_Mo_joinSteps_184 : xlk (xm_cd m_Mo_joinSteps) 184 = some (.iaload, 1, (0, 0, 0, [])) := rfl
set_option maxRecDepth 20000 in
theorem l_Mo_joinSteps_185 : xlk (xm_cd m_Mo_joinSteps) 185 = some (.iastore, 1, (0, 0, 0, [])) := rfl
set_option maxRecDepth 20000 in
theorem l_Mo_joinSteps_186 : xlk (xm_cd m_Mo_joinSteps) 186 = some (.aload_n 0, 1, (0, 0, 0, [])) := rfl
set_option maxRecDepth 20000 in
theorem l_Mo_joinSteps_187 : xlk (xm_cd m_Mo_joinSteps) 187 = some (.getfield 57, 3, (867, 11, 18, [])) := rfl
set_option maxRecDepth 20000 in
theorem l_Mo_joinSteps_190 : xlk (xm_cd m_Mo_joinSteps) 190 = some (.sipush 217, 3, (0, 0, 0, [])) := rfl
set_option maxRecDepth 20000 in
theorem l_Mo_joinSteps_193 : xlk (xm_cd m_Mo_joinSteps) 193 = some (.aload_n 0, 1, (0, 0, 0, [])) := rfl
set_option maxRecDepth 20000 in
theorem l_Mo_joinSteps_194 : xlk (xm_cd m_Mo_joinSteps) 194 = some (.getfield 57, 3, (867, 11, 18, [])) := rfl
set_option maxRecDepth 20000 in
theorem l_Mo_joinSteps_197 : xlk (xm_cd m_Mo_joinSteps) 197 = some (.iload_n 2, 1, (0, 0, 0, [])) := rfl
set_option maxRecDepth 20000 in
theorem l_Mo_joinSteps_198 : xlk (xm_cd m_Mo_joinSteps) 198 = some (.iaload, 1, (0, 0, 0, [])) := rfl
set_option maxRecDepth 20000 in
theorem l_Mo_joinSteps_199 : xlk (xm_cd m_Mo_joinSteps) 199 = some (.iastore, 1, (0, 0, 0, [])) := rfl
set_option maxRecDepth 20000 in
theorem l_Mo_joinSteps_200 : xlk (xm_cd m_Mo_joinSteps) 200 = some (.aload_n 0, 1, (0, 0, 0, [])) := rfl
set_option maxRecDepth 20000 in
theorem l_Mo_joinSteps_201 : xlk (xm_cd m_Mo_joinSteps) 201 = some (.getfield 60, 3, (868, 11, 19, [])) := rfl
set_option maxRecDepth 20000 in
theorem l_Mo_joinSteps_204 : xlk (xm_cd m_Mo_joinSteps) 204 = some (.sipush 217, 3, (0, 0, 0, [])) := rfl
set_option maxRecDepth 20000 in
theorem l_Mo_joinSteps_207 : xlk (xm_cd m_Mo_joinSteps) 207 = some (.aload_n 0, 1, (0, 0, 0, [])) := rfl
set_option maxRecDepth 20000 in
theorem l_Mo_joinSteps_208 : xlk (xm_cd m_Mo_joinSteps) 208 = some (.getfield 60, 3, (868, 11, 19, [])) := rfl
set_option maxRecDepth 20000 in
theorem l_Mo_joinSteps_211 : xlk (xm_cd m_Mo_joinSteps) 211 = some (.iload_n 2, 1, (0, 0, 0, [])) := rfl
set_option maxRecDepth 20000 in
theorem l_Mo_joinSteps_212 : xlk (xm_cd m_Mo_joinSteps) 212 = some (.iaload, 1, (0, 0, 0, [])) := rfl
set_option maxRecDepth 20000 in
theorem l_Mo_joinSteps_213 : xlk (xm_cd m_Mo_joinSteps) 213 = some (.iastore, 1, (0, 0, 0, [])) := rfl
set_option maxRecDepth 20000 in
theorem l_Mo_joinSteps_214 : xlk (xm_cd m_Mo_joinSteps) 214 = some (.aload_n 0, 1, (0, 0, 0, [])) := rfl
set_option maxRecDepth 20000 in
theorem l_Mo_joinSteps_215 : xlk (xm_cd m_Mo_joinSteps) 215 = some (.getfield 63, 3, (869, 11, 20, [])) := rfl
set_option maxRecDepth 20000 in
theorem l_Mo_joinSteps_218 : xlk (xm_cd m_Mo_joinSteps) 218 = some (.bipush 48, 2, (0, 0, 0, [])) := rfl
set_option maxRecDepth 20000 in
theorem l_Mo_joinSteps_220 : xlk (xm_cd m_Mo_joinSteps) 220 = some (.iload_n 1, 1, (0, 0, 0, [])) := rfl
set_option maxRecDepth 20000 in
theorem l_Mo_joinSteps_221 : xlk (xm_cd m_Mo_joinSteps) 221 = some (.imul, 1, (0, 0, 0, [])) := rfl
set_option maxRecDepth 20000 in
theorem l_Mo_joinSteps_222 : xlk (xm_cd m_Mo_joinSteps) 222 = some (.aload_n 0, 1, (0, 0, 0, [])) := rfl
set_option maxRecDepth 20000 in
theorem l_Mo_joinSteps_223 : xlk (xm_cd m_Mo_joinSteps) 223 = some (.getfield 63, 3, (869, 11, 20, [])) := rfl
set_option maxRecDepth 20000 in
theorem l_Mo_joinSteps_226 : xlk (xm_cd m_Mo_joinSteps) 226 = some (.bipush 48, 2, (0, 0, 0, [])) := rfl
set_option maxRecDepth 20000 in
theorem l_Mo_joinSteps_228 : xlk (xm_cd m_Mo_joinSteps) 228 = some (.iload_n 2, 1, (0, 0, 0, [])) := rfl
set_option maxRecDepth 20000 in
theorem l_Mo_joinSteps_229 : xlk (xm_cd m_Mo_joinSteps) 229 = some (.imul, 1, (0, 0, 0, [])) := rfl
set_option maxRecDepth 20000 in
theorem l_Mo_joinSteps_230 : xlk (xm_cd m_Mo_joinSteps) 230 = some (.aload_n 0, 1, (0, 0, 0, [])) := rfl
set_option maxRecDepth 20000 in
theorem l_Mo_joinSteps_231 : xlk (xm_cd m_Mo_joinSteps) 231 = some (.getfield 57, 3, (867, 11, 18, [])) := rfl
set_option maxRecDepth 20000 in
theorem l_Mo_joinSteps_234 : xlk (xm_cd m_Mo_joinSteps) 234 = some (.iload_n 2, 1, (0, 0, 0, [])) := rfl
set_option maxRecDepth 20000 in
theorem l_Mo_joinSteps_235 : xlk (xm_cd m_Mo_joinSteps) 235 = some (.iaload, 1, (0, 0, 0, [])) := rfl
set_option maxRecDepth 20000 in
theorem l_Mo_joinSteps_236 : xlk (xm_cd m_Mo_joinSteps) 236 = some (.invokestatic 262, 3, (1085, 186, 1, [])) := rfl
set_option maxRecDepth 20000 in
theorem l_Mo_joinSteps_239 : xlk (xm_cd m_Mo_joinSteps) 239 = some (.aload_n 0, 1, (0, 0, 0, [])) := rfl
set_option maxRecDepth 20000 in
theorem l_Mo_joinSteps_240 : xlk (xm_cd m_Mo_joinSteps) 240 = some (.getfield 63, 3, (869, 11, 20, [])) := rfl
set_option maxRecDepth 20000 in
theorem l_Mo_joinSteps_243 : xlk (xm_cd m_Mo_joinSteps) 243 = some (.sipush 10416, 3, (0, 0, 0, [])) := rfl
set_option maxRecDepth 20000 in
theorem l_Mo_joinSteps_246 : xlk (xm_cd m_Mo_joinSteps) 246 = some (.invokestatic 307, 3, (1152, 206, 7, [])) := rfl
set_option maxRecDepth 20000 in
theorem l_Mo_joinSteps_249 : xlk (xm_cd m_Mo_joinSteps) 249 = some (.aload_n 0, 1, (0, 0, 0, [])) := rfl
set_option maxRecDepth 20000 in
theorem l_Mo_joinSteps_250 : xlk (xm_cd m_Mo_joinSteps) 250 = some (.getfield 66, 3, (870, 11, 21, [])) := rfl
set_option maxRecDepth 20000 in
theorem l_Mo_joinSteps_253 : xlk (xm_cd m_Mo_joinSteps) 253 = some (.bipush 48, 2, (0, 0, 0, [])) := rfl
set_option maxRecDepth 20000 in
theorem l_Mo_joinSteps_255 : xlk (xm_cd m_Mo_joinSteps) 255 = some (.iload_n 2, 1, (0, 0, 0, [])) := rfl
set_option maxRecDepth 20000 in
theorem l_Mo_joinSteps_256 : xlk (xm_cd m_Mo_joinSteps) 256 = some (.imul, 1, (0, 0, 0, [])) := rfl
set_option maxRecDepth 20000 in
theorem l_Mo_joinSteps_257 : xlk (xm_cd m_Mo_joinSteps) 257 = some (.aload_n 0, 1, (0, 0, 0, [])) := rfl
set_option maxRecDepth 20000 in
theorem l_Mo_joinSteps_258 : xlk (xm_cd m_Mo_joinSteps) 258 = some (.getfield 66, 3, (870, 11, 21, [])) := rfl
set_option maxRecDepth 20000 in
theorem l_Mo_joinSteps_261 : xlk (xm_cd m_Mo_joinSteps) 261 = some (.bipush 48, 2, (0, 0, 0, [])) := rfl
set_option maxRecDepth 20000 in
theorem l_Mo_joinSteps_263 : xlk (xm_cd m_Mo_joinSteps) 263 = some (.iload_n 1, 1, (0, 0, 0, [])) := rfl
set_option maxRecDepth 20000 in
theorem l_Mo_joinSteps_264 : xlk (xm_cd m_Mo_joinSteps) 264 = some (.imul, 1, (0, 0, 0, [])) := rfl
set_option maxRecDepth 20000 in
theorem l_Mo_joinSteps_265 : xlk (xm_cd m_Mo_joinSteps) 265 = some (.aload_n 0, 1, (0, 0, 0, [])) := rfl
set_option maxRecDepth 20000 in
theorem l_Mo_joinSteps_266 : xlk (xm_cd m_Mo_joinSteps) 266 = some (.getfield 51, 3, (865, 11, 16, [])) := rfl
set_option maxRecDepth 20000 in
theorem l_Mo_joinSteps_269 : xlk (xm_cd m_Mo_joinSteps) 269 = some (.iload_n 1, 1, (0, 0, 0, [])) := rfl
set_option maxRecDepth 20000 in
theorem l_Mo_joinSteps_270 : xlk (xm_cd m_Mo_joinSteps) 270 = some (.iaload, 1, (0, 0, 0, [])) := rfl
set_option maxRecDepth 20000 in
theorem l_Mo_joinSteps_271 : xlk (xm_cd m_Mo_joinSteps) 271 = some (.invokestatic 262, 3, (1085, 186, 1, [])) := rfl
set_option maxRecDepth 20000 in
theorem l_Mo_joinSteps_274 : xlk (xm_cd m_Mo_joinSteps) 274 = some (.aload_n 0, 1, (0, 0, 0, [])) := rfl
set_option maxRecDepth 20000 in
theorem l_Mo_joinSteps_275 : xlk (xm_cd m_Mo_joinSteps) 275 = some (.getfield 66, 3, (870, 11, 21, [])) := rfl
set_option maxRecDepth 20000 in
theorem l_Mo_joinSteps_278 : xlk (xm_cd m_Mo_joinSteps) 278 = some (.sipush 10416, 3, (0, 0, 0, [])) := rfl
set_option maxRecDepth 20000 in
theorem l_Mo_joinSteps_281 : xlk (xm_cd m_Mo_joinSteps) 281 = some (.invokestatic 307, 3, (1152, 206, 7, [])) := rfl
set_option maxRecDepth 20000 in
theorem l_Mo_joinSteps_284 : xlk (xm_cd m_Mo_joinSteps) 284 = some (.iload_n 3, 1, (0, 0, 0, [])) := rfl
set_option maxRecDepth 20000 in
theorem l_Mo_joinSteps_285 : xlk (xm_cd m_Mo_joinSteps) 285 = some (.iconst 4, 1, (0, 0, 0, [])) := rfl
set_option maxRecDepth 20000 in
theorem l_Mo_joinSteps_286 : xlk (xm_cd m_Mo_joinSteps) 286 = some (.if_icmp .eq 5, 3, (0, 291, 0, [])) := rfl
set_option maxRecDepth 20000 in
theorem l_Mo_joinSteps_289 : xlk (xm_cd m_Mo_joinSteps) 289 = some (.iconst 1, 1, (0, 0, 0, [])) := rfl
set_option maxRecDepth 20000 in
theorem l_Mo_joinSteps_290 : xlk (xm_cd m_Mo_joinSteps) 290 = some (.ireturn, 1, (0, 0, 0, [])) := rfl
set_option maxRecDepth 20000 in
theorem l_Mo_joinSteps_291 : xlk (xm_cd m_Mo_joinSteps) 291 = some (.aload_n 0, 1, (0, 0, 0, [])) := rfl
set_option maxRecDepth 20000 in
theorem l_Mo_joinSteps_292 : xlk (xm_cd m_Mo_joinSteps) 292 = some (.getfield 45, 3, (863, 11, 14, [])) := rfl
set_option maxRecDepth 20000 in
theorem l_Mo_joinSteps_295 : xlk (xm_cd m_Mo_joinSteps) 295 = some (.sipush 3906, 3, (0, 0, 0, [])) := rfl
set_option maxRecDepth 20000 in
theorem l_Mo_joinSteps_298 : xlk (xm_cd m_Mo_joinSteps) 298 = some (.aload_n 0, 1, (0, 0, 0, [])) := rfl
set_option maxRecDepth 20000 in
theorem l_Mo_joinSteps_299 : xlk (xm_cd m_Mo_joinSteps) 299 = some (.getfield 48, 3, (864, 11, 15, [])) := rfl
set_option maxRecDepth 20000 in
theorem l_Mo_joinSteps_302 : xlk (xm_cd m_Mo_joinSteps) 302 = some (.sipush 217, 3, (0, 0, 0, [])) := rfl
set_option maxRecDepth 20000 in
theorem l_Mo_joinSteps_305 : xlk (xm_cd m_Mo_joinSteps) 305 = some (.iaload, 1, (0, 0, 0, [])) := rfl
set_option maxRecDepth 20000 in
theorem l_Mo_joinSteps_306 : xlk (xm_cd m_Mo_joinSteps) 306 = some (.aload_n 0, 1, (0, 0, 0, [])) := rfl
set_option maxRecDepth 20000 in
theorem l_Mo_joinSteps_307 : xlk (xm_cd m_Mo_joinSteps) 307 = some (.getfield 39, 3, (861, 11, 12, [])) := rfl
set_option maxRecDepth 20000 in
theorem l_Mo_joinSteps_310 : xlk (xm_cd m_Mo_joinSteps) 310 = some (.sipush 3906, 3, (0, 0, 0, [])) := rfl
set_option maxRecDepth 20000 in
theorem l_Mo_joinSteps_313 : xlk (xm_cd m_Mo_joinSteps) 313 = some (.aload_n 0, 1, (0, 0, 0, [])) := rfl
set_option maxRecDepth 20000 in
theorem l_Mo_joinSteps_314 : xlk (xm_cd m_Mo_joinSteps) 314 = some (.getfield 42, 3, (862, 11, 13, [])) := rfl
set_option maxRecDepth 20000 in
theorem l_Mo_joinSteps_317 : xlk (xm_cd m_Mo_joinSteps) 317 = some (.sipush 217, 3, (0, 0, 0, [])) := rfl
set_option maxRecDepth 20000 in
theorem l_Mo_joinSteps_320 : xlk (xm_cd m_Mo_joinSteps) 320 = some (.iaload, 1, (0, 0, 0, [])) := rfl
set_option maxRecDepth 20000 in
theorem l_Mo_joinSteps_321 : xlk (xm_cd m_Mo_joinSteps) 321 = some (.invokestatic 143, 3, (987, 157, 6, [])) := rfl
set_option maxRecDepth 20000 in
theorem l_Mo_joinSteps_324 : xlk (xm_cd m_Mo_joinSteps) 324 = some (.ifCond .ne 7, 3, (0, 331, 0, [])) := rfl
set_option maxRecDepth 20000 in
theorem l_Mo_joinSteps_327 : xlk (xm_cd m_Mo_joinSteps) 327 = some (.iconst 1, 1, (0, 0, 0, [])) := rfl
set_option maxRecDepth 20000 in
theorem l_Mo_joinSteps_328 : xlk (xm_cd m_Mo_joinSteps) 328 = some (.goto 4, 3, (0, 332, 0, [])) := rfl
set_option maxRecDepth 20000 in
theorem l_Mo_joinSteps_331 : xlk (xm_cd m_Mo_joinSteps) 331 = some (.iconst 0, 1, (0, 0, 0, [])) := rfl
set_option maxRecDepth 20000 in
theorem l_Mo_joinSteps_332 : xlk (xm_cd m_Mo_joinSteps) 332 = some (.istore 4, 2, (0, 0, 0, [])) := rfl
set_option maxRecDepth 20000 in
theorem l_Mo_joinSteps_334 : xlk (xm_cd m_Mo_joinSteps) 334 = some (.aload_n 0, 1, (0, 0, 0, [])) := rfl
set_option maxRecDepth 20000 in
theorem l_Mo_joinSteps_335 : xlk (xm_cd m_Mo_joinSteps) 335 = some (.sipush 217, 3, (0, 0, 0, [])) := rfl
set_option maxRecDepth 20000 in
theorem l_Mo_joinSteps_338 : xlk (xm_cd m_Mo_joinSteps) 338 = some (.invokevirtual 311, 3, (1155, 207, 1, [])) := rfl
set_option maxRecDepth 20000 in
theorem l_Mo_joinSteps_341 : xlk (xm_cd m_Mo_joinSteps) 341 = some (.istore 5, 2, (0, 0, 0, [])) := rfl
set_option maxRecDepth 20000 in
theorem l_Mo_joinSteps_343 : xlk (xm_cd m_Mo_joinSteps) 343 = some (.aload_n 0, 1, (0, 0, 0, [])) := rfl
set_option maxRecDepth 20000 in
theorem l_Mo_joinSteps_344 : xlk (xm_cd m_Mo_joinSteps) 344 = some (.getfield 36, 3, (860, 11, 11, [])) := rfl
set_option maxRecDepth 20000 in
theorem l_Mo_joinSteps_347 : xlk (xm_cd m_Mo_joinSteps) 347 = some (.sipush 217, 3, (0, 0, 0, [])) := rfl
set_option maxRecDepth 20000 in
theorem l_Mo_joinSteps_350 : xlk (xm_cd m_Mo_joinSteps) 350 = some (.iload 4, 2, (0, 0, 0, [])) := rfl
set_option maxRecDepth 20000 in
theorem l_Mo_joinSteps_352 : xlk (xm_cd m_Mo_joinSteps) 352 = some (.ifCond .eq 7, 3, (0, 359, 0, [])) := rfl
set_option maxRecDepth 20000 in
theorem l_Mo_joinSteps_355 : xlk (xm_cd m_Mo_joinSteps) 355 = some (.iconst 2, 1, (0, 0, 0, [])) := rfl
set_option maxRecDepth 20000 in
theorem l_Mo_joinSteps_356 : xlk (xm_cd m_Mo_joinSteps) 356 = some (.goto 13, 3, (0, 369, 0, [])) := rfl
set_option maxRecDepth 20000 in
theorem l_Mo_joinSteps_359 : xlk (xm_cd m_Mo_joinSteps) 359 = some (.iload 5, 2, (0, 0, 0, [])) := rfl
set_option maxRecDepth 20000 in
theorem l_Mo_joinSteps_361 : xlk (xm_cd m_Mo_joinSteps) 361 = some (.ifCond .eq 7, 3, (0, 368, 0, [])) := rfl
set_option maxRecDepth 20000 in
theorem l_Mo_joinSteps_364 : xlk (xm_cd m_Mo_joinSteps) 364 = some (.iconst 3, 1, (0, 0, 0, [])) := rfl
set_option maxRecDepth 20000 in
theorem l_Mo_joinSteps_365 : xlk (xm_cd m_Mo_joinSteps) 365 = some (.goto 4, 3, (0, 369, 0, [])) := rfl
set_option maxRecDepth 20000 in
theorem l_Mo_joinSteps_368 : xlk (xm_cd m_Mo_joinSteps) 368 = some (.iconst 4, 1, (0, 0, 0, [])) := rfl
set_option maxRecDepth 20000 in
theorem l_Mo_joinSteps_369 : xlk (xm_cd m_Mo_joinSteps) 369 = some (.iastore, 1, (0, 0, 0, [])) := rfl
set_option maxRecDepth 20000 in
theorem l_Mo_joinSteps_370 : xlk (xm_cd m_Mo_joinSteps) 370 = some (.iload 4, 2, (0, 0, 0, [])) := rfl
set_option maxRecDepth 20000 in
theorem l_Mo_joinSteps_372 : xlk (xm_cd m_Mo_joinSteps) 372 = some (.ifCond .eq 8, 3, (0, 380, 0, [])) := rfl
set_option maxRecDepth 20000 in
theorem l_Mo_joinSteps_375 : xlk (xm_cd m_Mo_joinSteps) 375 = some (.iload 5, 2, (0, 0, 0, [])) := rfl
set_option maxRecDepth 20000 in
theorem l_Mo_joinSteps_377 : xlk (xm_cd m_Mo_joinSteps) 377 = some (.ifCond .ne 7, 3, (0, 384, 0, [])) := rfl
set_option maxRecDepth 20000 in
theorem l_Mo_joinSteps_380 : xlk (xm_cd m_Mo_joinSteps) 380 = some (.iconst 1, 1, (0, 0, 0, [])) := rfl
set_option maxRecDepth 20000 in
theorem l_Mo_joinSteps_381 : xlk (xm_cd m_Mo_joinSteps) 381 = some (.goto 4, 3, (0, 385, 0, [])) := rfl
set_option maxRecDepth 20000 in
theorem l_Mo_joinSteps_384 : xlk (xm_cd m_Mo_joinSteps) 384 = some (.iconst 0, 1, (0, 0, 0, [])) := rfl
set_option maxRecDepth 20000 in
theorem l_Mo_joinSteps_385 : xlk (xm_cd m_Mo_joinSteps) 385 = some (.ireturn, 1, (0, 0, 0, [])) := rfl
def B_Mo_joinSteps_0 (d : Nat) (E : Option Value → xH → Prop) (f : xH) (a0 : Nat) (x1 : Int32) (x2 : Int32) : Prop :=
  (∃ fs, f a0 = some (xO 11 fs)) ∧ xSp xT0 d j_Mo_hasSource [.ref a0, .int x1] f (fun w1 f2 => xvi w1 (fun v3 => xbr (¬ v3 = 0) (xWp (xT0, xSp xT0 d, none, m_Mo_joinSteps, E) 18 [some (.ref a0), some (.int x1), some (.int x2), none, none, none] [] f2 0 0) ((∃ fs, f2 a0 = some (xO 11 fs)) ∧ xSp xT0 d j_Mo_hasTarget [.ref a0, .int x2] f2 (fun w4 f5 => xvi w4 (fun v6 => xbr (¬ v6 = 0) (xWp (xT0, xSp xT0 d, none, m_Mo_joinSteps, E) 18 [some (.ref a0), some (.int x1), some (.int x2), none, none, none] [] f5 0 0) (E (some (.int 0)) f5))))))
theorem b_Mo_joinSteps_0 {d : Nat} {E : Option Value → xH → Prop} {f : xH} {a0 : Nat} {x1 : Int32} {x2 : Int32} (h : B_Mo_joinSteps_0 d E f a0 x1 x2) : xWp (xT0, xSp xT0 d, none, m_Mo_joinSteps, E) 0 [some (.ref a0), some (.int x1), some (.int x2), none, none, none] [] f 0 0 := by
  unfold B_Mo_joinSteps_0 at h
  refine s_aln l_Mo_joinSteps_0 rfl ?_
  refine s_iln l_Mo_joinSteps_1 rfl ?_
  refine s_cvi (As := [.int x1]) (r := []) l_Mo_joinSteps_2 rfl ⟨rfl, rfl⟩ rfl (Nat.le_of_ble_eq_true rfl) rfl ⟨Nat.zero_le _, Nat.zero_le _⟩ h (fun v3 f2 h => ?_)
  refine s_if l_Mo_joinSteps_5 h (fun h => ?_) (fun h => ?_)
  · exact h
  · refine s_aln l_Mo_joinSteps_8 rfl ?_
    refine s_iln l_Mo_joinSteps_9 rfl ?_
    refine s_cvi (As := [.int x2]) (r := []) l_Mo_joinSteps_10 rfl ⟨rfl, rfl⟩ rfl (Nat.le_of_ble_eq_true rfl) rfl ⟨Nat.zero_le _, Nat.zero_le _⟩ h (fun v6 f5 h => ?_)
    refine s_if l_Mo_joinSteps_13 h (fun h => ?_) (fun h => ?_)
    · exact h
    · refine s_ic 0 l_Mo_joinSteps_16 rfl ?_
      exact s_zret l_Mo_joinSteps_17 rfl ⟨Nat.zero_le _, Nat.zero_le _⟩ ⟨Or.inl rfl, h⟩
def B_Mo_joinSteps_18 (d : Nat) (E : Option Value → xH → Prop) (f : xH) (a0 : Nat) (x1 : Int32) (x2 : Int32) (u3 : Option Value) (u4 : Option Value) (u5 : Option Value) : Prop :=
  (∃ fs, f a0 = some (xO 11 fs)) ∧ xSp xT0 d j_Mo_hasSource [.ref a0, .int x1] f (fun w1 f2 => xvi w1 (fun v3 => xbr (¬ v3 = 0) ((∃ fs, f2 a0 = some (xO 11 fs)) ∧ xSp xT0 d j_Mo_hasTarget [.ref a0, .int x2] f2 (fun w4 f5 => xvi w4 (fun v6 => xbr (¬ v6 = 0) (xWp (xT0, xSp xT0 d, none, m_Mo_joinSteps, E) 43 [some (.ref a0), some (.int x1), some (.int x2), u3, u4, u5] [.int 4] f5 0 0) (xWp (xT0, xSp xT0 d, none, m_Mo_joinSteps, E) 43 [some (.ref a0), some (.int x1), some (.int x2), u3, u4, u5] [.int 1] f5 0 0)))) (xWp (xT0, xSp xT0 d, none, m_Mo_joinSteps, E) 43 [some (.ref a0), some (.int x1), some (.int x2), u3, u4, u5] [.int 0] f2 0 0)))
theorem b_Mo_joinSteps_18 {d : Nat} {E : Option Value → xH → Prop} {f : xH} {a0 : Nat} {x1 : Int32} {x2 : Int32} {u3 : Option Value} {u4 : Option Value} {u5 : Option Value} (h : B_Mo_joinSteps_18 d E f a0 x1 x2 u3 u4 u5) : xWp (xT0, xSp xT0 d, none, m_Mo_joinSteps, E) 18 [some (.ref a0), some (.int x1), some (.int x2), u3, u4, u5] [] f 0 0 := by
  unfold B_Mo_joinSteps_18 at h
  refine s_aln l_Mo_joinSteps_18 rfl ?_
  refine s_iln l_Mo_joinSteps_19 rfl ?_
  refine s_cvi (As := [.int x1]) (r := []) l_Mo_joinSteps_20 rfl ⟨rfl, rfl⟩ rfl (Nat.le_of_ble_eq_true rfl) rfl ⟨Nat.zero_le _, Nat.zero_le _⟩ h (fun v3 f2 h => ?_)
  refine s_if l_Mo_joinSteps_23 h (fun h => ?_) (fun h => ?_)
  · refine s_aln l_Mo_joinSteps_30 rfl ?_
    refine s_iln l_Mo_joinSteps_31 rfl ?_
    refine s_cvi (As := [.int x2]) (r := []) l_Mo_joinSteps_32 rfl ⟨rfl, rfl⟩ rfl (Nat.le_of_ble_eq_true rfl) rfl ⟨Nat.zero_le _, Nat.zero_le _⟩ h (fun v6 f5 h => ?_)
    refine s_if l_Mo_joinSteps_35 h (fun h => ?_) (fun h => ?_)
    · refine s_ic 4 l_Mo_joinSteps_42 rfl ?_
      exact h
    · refine s_ic 1 l_Mo_joinSteps_38 rfl ?_
      refine s_goto l_Mo_joinSteps_39 ?_
      exact h
  · refine s_ic 0 l_Mo_joinSteps_26 rfl ?_
    refine s_goto l_Mo_joinSteps_27 ?_
    exact h
def B_Mo_joinSteps_43 (d : Nat) (E : Option Value → xH → Prop) (f : xH) (a0 : Nat) (x1 : Int32) (x2 : Int32) (u3 : Option Value) (u4 : Option Value) (u5 : Option Value) (s0 : Int32) : Prop :=
  xbr (¬ s0 = 0) (xbr (¬ s0 = 1) (xgr f a0 11 14 (fun r1 => xgr f a0 11 15 (fun r2 => xal f r2 0 x1 (fun v3 => xgr f a0 11 12 (fun r4 => xgr f a0 11 13 (fun r5 => xal f r5 0 x2 (fun v6 => (∃ fs, f a0 = some (xO 11 fs)) ∧ xSp xT0 d j_Mo_nameSpare [.ref a0, .int 4, .ref r1, .int (18 * x1), .int v3, .ref r4, .int (18 * x2), .int v6] f (fun w7 f8 => xvv w7 (xWp (xT0, xSp xT0 d, none, m_Mo_joinSteps, E) 158 [some (.ref a0), some (.int x1), some (.int x2), some (.int s0), u4, u5] [] f8 0 0))))))))) (xgr f a0 11 14 (fun r9 => xgr f a0 11 15 (fun r10 => xal f r10 0 x1 (fun v11 => xgr f a0 11 14 (fun r12 => xgr f a0 11 15 (fun r13 => xal f r13 0 x1 (fun v14 => (∃ fs, f a0 = some (xO 11 fs)) ∧ xSp xT0 d j_Mo_nameSpare [.ref a0, .int 1, .ref r9, .int (18 * x1), .int v11, .ref r12, .int (18 * x1), .int v14] f (fun w15 f16 => xvv w15 (xWp (xT0, xSp xT0 d, none, m_Mo_joinSteps, E) 158 [some (.ref a0), some (.int x1), some (.int x2), some (.int s0), u4, u5] [] f16 0 0)))))))))) (xgr f a0 11 12 (fun r17 => xgr f a0 11 13 (fun r18 => xal f r18 0 x2 (fun v19 => xgr f a0 11 12 (fun r20 => xgr f a0 11 13 (fun r21 => xal f r21 0 x2 (fun v22 => (∃ fs, f a0 = some (xO 11 fs)) ∧ xSp xT0 d j_Mo_nameSpare [.ref a0, .int 0, .ref r17, .int (18 * x2), .int v19, .ref r20, .int (18 * x2), .int v22] f (fun w23 f24 => xvv w23 (xWp (xT0, xSp xT0 d, none, m_Mo_joinSteps, E) 158 [some (.ref a0), some (.int x1), some (.int x2), some (.int s0), u4, u5] [] f24 0 0)))))))))
theorem b_Mo_joinSteps_43 {d : Nat} {E : Option Value → xH → Prop} {f : xH} {a0 : Nat} {x1 : Int32} {x2 : Int32} {u3 : Option Value} {u4 : Option Value} {u5 : Option Value} {s0 : Int32} (h : B_Mo_joinSteps_43 d E f a0 x1 x2 u3 u4 u5 s0) : xWp (xT0, xSp xT0 d, none, m_Mo_joinSteps, E) 43 [some (.ref a0), some (.int x1), some (.int x2), u3, u4, u5] [.int s0] f 0 0 := by
  unfold B_Mo_joinSteps_43 at h
  refine s_isn l_Mo_joinSteps_43 (Nat.le_of_ble_eq_true rfl) ?_
  refine s_iln l_Mo_joinSteps_44 rfl ?_
  refine s_if l_Mo_joinSteps_45 h (fun h => ?_) (fun h => ?_)
  · refine s_iln l_Mo_joinSteps_84 rfl ?_
    refine s_ic 1 l_Mo_joinSteps_85 rfl ?_
    refine s_ifc l_Mo_joinSteps_86 h (fun h => ?_) (fun h => ?_)
    · refine s_aln l_Mo_joinSteps_125 rfl ?_
      refine s_ic 4 l_Mo_joinSteps_126 rfl ?_
      refine s_aln l_Mo_joinSteps_127 rfl ?_
      refine s_gr l_Mo_joinSteps_128 h (fun r1 h => ?_)
      refine s_bp 18 l_Mo_joinSteps_131 rfl ?_
      refine s_iln l_Mo_joinSteps_133 rfl ?_
      refine s_imul l_Mo_joinSteps_134 ?_
      refine s_aln l_Mo_joinSteps_135 rfl ?_
      refine s_gr l_Mo_joinSteps_136 h (fun r2 h => ?_)
      refine s_iln l_Mo_joinSteps_139 rfl ?_
      refine s_ial l_Mo_joinSteps_140 rfl h (fun v3 h => ?_)
      refine s_aln l_Mo_joinSteps_141 rfl ?_
      refine s_gr l_Mo_joinSteps_142 h (fun r4 h => ?_)
      refine s_bp 18 l_Mo_joinSteps_145 rfl ?_
      refine s_iln l_Mo_joinSteps_147 rfl ?_
      refine s_imul l_Mo_joinSteps_148 ?_
      refine s_aln l_Mo_joinSteps_149 rfl ?_
      refine s_gr l_Mo_joinSteps_150 h (fun r5 h => ?_)
      refine s_iln l_Mo_joinSteps_153 rfl ?_
      refine s_ial l_Mo_joinSteps_154 rfl h (fun v6 h => ?_)
      refine s_cvv (As := [.int 4, .ref r1, .int (18 * x1), .int v3, .ref r4, .int (18 * x2), .int v6]) (r := []) l_Mo_joinSteps_155 rfl ⟨rfl, rfl⟩ rfl (Nat.le_of_ble_eq_true rfl) rfl ⟨Nat.zero_le _, Nat.zero_le _⟩ h (fun f8 h => ?_)
      exact h
    · refine s_aln l_Mo_joinSteps_89 rfl ?_
      refine s_ic 1 l_Mo_joinSteps_90 rfl ?_
      refine s_aln l_Mo_joinSteps_91 rfl ?_
      refine s_gr l_Mo_joinSteps_92 h (fun r9 h => ?_)
      refine s_bp 18 l_Mo_joinSteps_95 rfl ?_
      refine s_iln l_Mo_joinSteps_97 rfl ?_
      refine s_imul l_Mo_joinSteps_98 ?_
      refine s_aln l_Mo_joinSteps_99 rfl ?_
      refine s_gr l_Mo_joinSteps_100 h (fun r10 h => ?_)
      refine s_iln l_Mo_joinSteps_103 rfl ?_
      refine s_ial l_Mo_joinSteps_104 rfl h (fun v11 h => ?_)
      refine s_aln l_Mo_joinSteps_105 rfl ?_
      refine s_gr l_Mo_joinSteps_106 h (fun r12 h => ?_)
      refine s_bp 18 l_Mo_joinSteps_109 rfl ?_
      refine s_iln l_Mo_joinSteps_111 rfl ?_
      refine s_imul l_Mo_joinSteps_112 ?_
      refine s_aln l_Mo_joinSteps_113 rfl ?_
      refine s_gr l_Mo_joinSteps_114 h (fun r13 h => ?_)
      refine s_iln l_Mo_joinSteps_117 rfl ?_
      refine s_ial l_Mo_joinSteps_118 rfl h (fun v14 h => ?_)
      refine s_cvv (As := [.int 1, .ref r9, .int (18 * x1), .int v11, .ref r12, .int (18 * x1), .int v14]) (r := []) l_Mo_joinSteps_119 rfl ⟨rfl, rfl⟩ rfl (Nat.le_of_ble_eq_true rfl) rfl ⟨Nat.zero_le _, Nat.zero_le _⟩ h (fun f16 h => ?_)
      refine s_goto l_Mo_joinSteps_122 ?_
      exact h
  · refine s_aln l_Mo_joinSteps_48 rfl ?_
    refine s_ic 0 l_Mo_joinSteps_49 rfl ?_
    refine s_aln l_Mo_joinSteps_50 rfl ?_
    refine s_gr l_Mo_joinSteps_51 h (fun r17 h => ?_)
    refine s_bp 18 l_Mo_joinSteps_54 rfl ?_
    refine s_iln l_Mo_joinSteps_56 rfl ?_
    refine s_imul l_Mo_joinSteps_57 ?_
    refine s_aln l_Mo_joinSteps_58 rfl ?_
    refine s_gr l_Mo_joinSteps_59 h (fun r18 h => ?_)
    refine s_iln l_Mo_joinSteps_62 rfl ?_
    refine s_ial l_Mo_joinSteps_63 rfl h (fun v19 h => ?_)
    refine s_aln l_Mo_joinSteps_64 rfl ?_
    refine s_gr l_Mo_joinSteps_65 h (fun r20 h => ?_)
    refine s_bp 18 l_Mo_joinSteps_68 rfl ?_
    refine s_iln l_Mo_joinSteps_70 rfl ?_
    refine s_imul l_Mo_joinSteps_71 ?_
    refine s_aln l_Mo_joinSteps_72 rfl ?_
    refine s_gr l_Mo_joinSteps_73 h (fun r21 h => ?_)
    refine s_iln l_Mo_joinSteps_76 rfl ?_
    refine s_ial l_Mo_joinSteps_77 rfl h (fun v22 h => ?_)
    refine s_cvv (As := [.int 0, .ref r17, .int (18 * x2), .int v19, .ref r20, .int (18 * x2), .int v22]) (r := []) l_Mo_joinSteps_78 rfl ⟨rfl, rfl⟩ rfl (Nat.le_of_ble_eq_true rfl) rfl ⟨Nat.zero_le _, Nat.zero_le _⟩ h (fun f24 h => ?_)
    refine s_goto l_Mo_joinSteps_81 ?_
    exact h
def B_Mo_joinSteps_158 (d : Nat) (E : Option Value → xH → Prop) (f : xH) (a0 : Nat) (x1 : Int32) (x2 : Int32) (x3 : Int32) (u4 : Option Value) (u5 : Option Value) : Prop :=
  xgr f a0 11 16 (fun r1 => xgr f a0 11 16 (fun r2 => xal f r2 0 x1 (fun v3 => xas f r1 0 217 v3 (fun f4 => xgr f4 a0 11 17 (fun r5 => xgr f4 a0 11 17 (fun r6 => xal f4 r6 0 x1 (fun v7 => xas f4 r5 0 217 v7 (fun f8 => xgr f8 a0 11 18 (fun r9 => xgr f8 a0 11 18 (fun r10 => xal f8 r10 0 x2 (fun v11 => xas f8 r9 0 217 v11 (fun f12 => xgr f12 a0 11 19 (fun r13 => xgr f12 a0 11 19 (fun r14 => xal f12 r14 0 x2 (fun v15 => xas f12 r13 0 217 v15 (fun f16 => xgr f16 a0 11 20 (fun r17 => xgr f16 a0 11 20 (fun r18 => xgr f16 a0 11 18 (fun r19 => xal f16 r19 0 x2 (fun v20 => xSp xT0 d j_Mo_bytesOf [.int v20] f16 (fun w21 f22 => xvi w21 (fun v23 => xgr f22 a0 11 20 (fun r24 => xSp xT0 d j_Mo_join [.ref r17, .int (48 * x1), .ref r18, .int (48 * x2), .int v23, .ref r24, .int 10416] f22 (fun w25 f26 => xvv w25 (xgr f26 a0 11 21 (fun r27 => xgr f26 a0 11 21 (fun r28 => xgr f26 a0 11 16 (fun r29 => xal f26 r29 0 x1 (fun v30 => xSp xT0 d j_Mo_bytesOf [.int v30] f26 (fun w31 f32 => xvi w31 (fun v33 => xgr f32 a0 11 21 (fun r34 => xSp xT0 d j_Mo_join [.ref r27, .int (48 * x2), .ref r28, .int (48 * x1), .int v33, .ref r34, .int 10416] f32 (fun w35 f36 => xvv w35 (xbr (x3 = 4) (xgr f36 a0 11 14 (fun r37 => xgr f36 a0 11 15 (fun r38 => xal f36 r38 0 217 (fun v39 => xgr f36 a0 11 12 (fun r40 => xgr f36 a0 11 13 (fun r41 => xal f36 r41 0 217 (fun v42 => xSp xT0 d j_Mo_order [.ref r37, .int 3906, .int v39, .ref r40, .int 3906, .int v42] f36 (fun w43 f44 => xvi w43 (fun v45 => xbr (¬ v45 = 0) (xWp (xT0, xSp xT0 d, none, m_Mo_joinSteps, E) 332 [some (.ref a0), some (.int x1), some (.int x2), some (.int x3), u4, u5] [.int 0] f44 0 0) (xWp (xT0, xSp xT0 d, none, m_Mo_joinSteps, E) 332 [some (.ref a0), some (.int x1), some (.int x2), some (.int x3), u4, u5] [.int 1] f44 0 0)))))))))) (E (some (.int 1)) f36)))))))))))))))))))))))))))))))))))
theorem b_Mo_joinSteps_158 {d : Nat} {E : Option Value → xH → Prop} {f : xH} {a0 : Nat} {x1 : Int32} {x2 : Int32} {x3 : Int32} {u4 : Option Value} {u5 : Option Value} (h : B_Mo_joinSteps_158 d E f a0 x1 x2 x3 u4 u5) : xWp (xT0, xSp xT0 d, none, m_Mo_joinSteps, E) 158 [some (.ref a0), some (.int x1), some (.int x2), some (.int x3), u4, u5] [] f 0 0 := by
  unfold B_Mo_joinSteps_158 at h
  refine s_aln l_Mo_joinSteps_158 rfl ?_
  refine s_gr l_Mo_joinSteps_159 h (fun r1 h => ?_)
  refine s_sp 217 l_Mo_joinSteps_162 rfl ?_
  refine s_aln l_Mo_joinSteps_165 rfl ?_
  refine s_gr l_Mo_joinSteps_166 h (fun r2 h => ?_)
  refine s_iln l_Mo_joinSteps_169 rfl ?_
  refine s_ial l_Mo_joinSteps_170 rfl h (fun v3 h => ?_)
  refine s_iast l_Mo_joinSteps_171 h (fun f4 h => ?_)
  refine s_aln l_Mo_joinSteps_172 rfl ?_
  refine s_gr l_Mo_joinSteps_173 h (fun r5 h => ?_)
  refine s_sp 217 l_Mo_joinSteps_176 rfl ?_
  refine s_aln l_Mo_joinSteps_179 rfl ?_
  refine s_gr l_Mo_joinSteps_180 h (fun r6 h => ?_)
  refine s_iln l_Mo_joinSteps_183 rfl ?_
  refine s_ial l_Mo_joinSteps_184 rfl h (fun v7 h => ?_)
  refine s_iast l_Mo_joinSteps_185 h (fun f8 h => ?_)
  refine s_aln l_Mo_joinSteps_186 rfl ?_
  refine s_gr l_Mo_joinSteps_187 h (fun r9 h => ?_)
  refine s_sp 217 l_Mo_joinSteps_190 rfl ?_
  refine s_aln l_Mo_joinSteps_193 rfl ?_
  refine s_gr l_Mo_joinSteps_194 h (fun r10 h => ?_)
  refine s_iln l_Mo_joinSteps_197 rfl ?_
  refine s_ial l_Mo_joinSteps_198 rfl h (fun v11 h => ?_)
  refine s_iast l_Mo_joinSteps_199 h (fun f12 h => ?_)
  refine s_aln l_Mo_joinSteps_200 rfl ?_
  refine s_gr l_Mo_joinSteps_201 h (fun r13 h => ?_)
  refine s_sp 217 l_Mo_joinSteps_204 rfl ?_
  refine s_aln l_Mo_joinSteps_207 rfl ?_
  refine s_gr l_Mo_joinSteps_208 h (fun r14 h => ?_)
  refine s_iln l_Mo_joinSteps_211 rfl ?_
  refine s_ial l_Mo_joinSteps_212 rfl h (fun v15 h => ?_)
  refine s_iast l_Mo_joinSteps_213 h (fun f16 h => ?_)
  refine s_aln l_Mo_joinSteps_214 rfl ?_
  refine s_gr l_Mo_joinSteps_215 h (fun r17 h => ?_)
  refine s_bp 48 l_Mo_joinSteps_218 rfl ?_
  refine s_iln l_Mo_joinSteps_220 rfl ?_
  refine s_imul l_Mo_joinSteps_221 ?_
  refine s_aln l_Mo_joinSteps_222 rfl ?_
  refine s_gr l_Mo_joinSteps_223 h (fun r18 h => ?_)
  refine s_bp 48 l_Mo_joinSteps_226 rfl ?_
  refine s_iln l_Mo_joinSteps_228 rfl ?_
  refine s_imul l_Mo_joinSteps_229 ?_
  refine s_aln l_Mo_joinSteps_230 rfl ?_
  refine s_gr l_Mo_joinSteps_231 h (fun r19 h => ?_)
  refine s_iln l_Mo_joinSteps_234 rfl ?_
  refine s_ial l_Mo_joinSteps_235 rfl h (fun v20 h => ?_)
  refine s_csi (As := [.int v20]) (r := [.int (48 * x2), .ref r18, .int (48 * x1), .ref r17]) l_Mo_joinSteps_236 rfl ⟨rfl, rfl⟩ rfl (Nat.le_of_ble_eq_true rfl) rfl ⟨Nat.zero_le _, Nat.zero_le _⟩ h (fun v23 f22 h => ?_)
  refine s_aln l_Mo_joinSteps_239 rfl ?_
  refine s_gr l_Mo_joinSteps_240 h (fun r24 h => ?_)
  refine s_sp 10416 l_Mo_joinSteps_243 rfl ?_
  refine s_csv (As := [.ref r17, .int (48 * x1), .ref r18, .int (48 * x2), .int v23, .ref r24, .int 10416]) (r := []) l_Mo_joinSteps_246 rfl ⟨rfl, rfl⟩ rfl (Nat.le_of_ble_eq_true rfl) rfl ⟨Nat.zero_le _, Nat.zero_le _⟩ h (fun f26 h => ?_)
  refine s_aln l_Mo_joinSteps_249 rfl ?_
  refine s_gr l_Mo_joinSteps_250 h (fun r27 h => ?_)
  refine s_bp 48 l_Mo_joinSteps_253 rfl ?_
  refine s_iln l_Mo_joinSteps_255 rfl ?_
  refine s_imul l_Mo_joinSteps_256 ?_
  refine s_aln l_Mo_joinSteps_257 rfl ?_
  refine s_gr l_Mo_joinSteps_258 h (fun r28 h => ?_)
  refine s_bp 48 l_Mo_joinSteps_261 rfl ?_
  refine s_iln l_Mo_joinSteps_263 rfl ?_
  refine s_imul l_Mo_joinSteps_264 ?_
  refine s_aln l_Mo_joinSteps_265 rfl ?_
  refine s_gr l_Mo_joinSteps_266 h (fun r29 h => ?_)
  refine s_iln l_Mo_joinSteps_269 rfl ?_
  refine s_ial l_Mo_joinSteps_270 rfl h (fun v30 h => ?_)
  refine s_csi (As := [.int v30]) (r := [.int (48 * x1), .ref r28, .int (48 * x2), .ref r27]) l_Mo_joinSteps_271 rfl ⟨rfl, rfl⟩ rfl (Nat.le_of_ble_eq_true rfl) rfl ⟨Nat.zero_le _, Nat.zero_le _⟩ h (fun v33 f32 h => ?_)
  refine s_aln l_Mo_joinSteps_274 rfl ?_
  refine s_gr l_Mo_joinSteps_275 h (fun r34 h => ?_)
  refine s_sp 10416 l_Mo_joinSteps_278 rfl ?_
  refine s_csv (As := [.ref r27, .int (48 * x2), .ref r28, .int (48 * x1), .int v33, .ref r34, .int 10416]) (r := []) l_Mo_joinSteps_281 rfl ⟨rfl, rfl⟩ rfl (Nat.le_of_ble_eq_true rfl) rfl ⟨Nat.zero_le _, Nat.zero_le _⟩ h (fun f36 h => ?_)
  refine s_iln l_Mo_joinSteps_284 rfl ?_
  refine s_ic 4 l_Mo_joinSteps_285 rfl ?_
  refine s_ifc l_Mo_joinSteps_286 h (fun h => ?_) (fun h => ?_)
  · refine s_aln l_Mo_joinSteps_291 rfl ?_
    refine s_gr l_Mo_joinSteps_292 h (fun r37 h => ?_)
    refine s_sp 3906 l_Mo_joinSteps_295 rfl ?_
    refine s_aln l_Mo_joinSteps_298 rfl ?_
    refine s_gr l_Mo_joinSteps_299 h (fun r38 h => ?_)
    refine s_sp 217 l_Mo_joinSteps_302 rfl ?_
    refine s_ial l_Mo_joinSteps_305 rfl h (fun v39 h => ?_)
    refine s_aln l_Mo_joinSteps_306 rfl ?_
    refine s_gr l_Mo_joinSteps_307 h (fun r40 h => ?_)
    refine s_sp 3906 l_Mo_joinSteps_310 rfl ?_
    refine s_aln l_Mo_joinSteps_313 rfl ?_
    refine s_gr l_Mo_joinSteps_314 h (fun r41 h => ?_)
    refine s_sp 217 l_Mo_joinSteps_317 rfl ?_
    refine s_ial l_Mo_joinSteps_320 rfl h (fun v42 h => ?_)
    refine s_csi (As := [.ref r37, .int 3906, .int v39, .ref r40, .int 3906, .int v42]) (r := []) l_Mo_joinSteps_321 rfl ⟨rfl, rfl⟩ rfl (Nat.le_of_ble_eq_true rfl) rfl ⟨Nat.zero_le _, Nat.zero_le _⟩ h (fun v45 f44 h => ?_)
    refine s_if l_Mo_joinSteps_324 h (fun h => ?_) (fun h => ?_)
    · refine s_ic 0 l_Mo_joinSteps_331 rfl ?_
      exact h
    · refine s_ic 1 l_Mo_joinSteps_327 rfl ?_
      refine s_goto l_Mo_joinSteps_328 ?_
      exact h
  · refine s_ic 1 l_Mo_joinSteps_289 rfl ?_
    exact s_zret l_Mo_joinSteps_290 rfl ⟨Nat.zero_le _, Nat.zero_le _⟩ ⟨Or.inr rfl, h⟩
def B_Mo_joinSteps_332 (d : Nat) (E : Option Value → xH → Prop) (f : xH) (a0 : Nat) (x1 : Int32) (x2 : Int32) (x3 : Int32) (u4 : Option Value) (u5 : Option Value) (s0 : Int32) : Prop :=
  (∃ fs, f a0 = some (xO 11 fs)) ∧ xSp xT0 d j_Mo_isWhole [.ref a0, .int 217] f (fun w1 f2 => xvi w1 (fun v3 => xgr f2 a0 11 11 (fun r4 => xbr (s0 = 0) (xbr (v3 = 0) (xWp (xT0, xSp xT0 d, none, m_Mo_joinSteps, E) 369 [some (.ref a0), some (.int x1), some (.int x2), some (.int x3), some (.int s0), some (.int v3)] [.int 4, .int 217, .ref r4] f2 0 0) (xWp (xT0, xSp xT0 d, none, m_Mo_joinSteps, E) 369 [some (.ref a0), some (.int x1), some (.int x2), some (.int x3), some (.int s0), some (.int v3)] [.int 3, .int 217, .ref r4] f2 0 0)) (xWp (xT0, xSp xT0 d, none, m_Mo_joinSteps, E) 369 [some (.ref a0), some (.int x1), some (.int x2), some (.int x3), some (.int s0), some (.int v3)] [.int 2, .int 217, .ref r4] f2 0 0))))
theorem b_Mo_joinSteps_332 {d : Nat} {E : Option Value → xH → Prop} {f : xH} {a0 : Nat} {x1 : Int32} {x2 : Int32} {x3 : Int32} {u4 : Option Value} {u5 : Option Value} {s0 : Int32} (h : B_Mo_joinSteps_332 d E f a0 x1 x2 x3 u4 u5 s0) : xWp (xT0, xSp xT0 d, none, m_Mo_joinSteps, E) 332 [some (.ref a0), some (.int x1), some (.int x2), some (.int x3), u4, u5] [.int s0] f 0 0 := by
  unfold B_Mo_joinSteps_332 at h
  refine s_is l_Mo_joinSteps_332 (Nat.le_of_ble_eq_true rfl) ?_
  refine s_aln l_Mo_joinSteps_334 rfl ?_
  refine s_sp 217 l_Mo_joinSteps_335 rfl ?_
  refine s_cvi (As := [.int 217]) (r := []) l_Mo_joinSteps_338 rfl ⟨rfl, rfl⟩ rfl (Nat.le_of_ble_eq_true rfl) rfl ⟨Nat.zero_le _, Nat.zero_le _⟩ h (fun v3 f2 h => ?_)
  refine s_is l_Mo_joinSteps_341 (Nat.le_of_ble_eq_true rfl) ?_
  refine s_aln l_Mo_joinSteps_343 rfl ?_
  refine s_gr l_Mo_joinSteps_344 h (fun r4 h => ?_)
  refine s_sp 217 l_Mo_joinSteps_347 rfl ?_
  refine s_il l_Mo_joinSteps_350 rfl ?_
  refine s_if l_Mo_joinSteps_352 h (fun h => ?_) (fun h => ?_)
  · refine s_il l_Mo_joinSteps_359 rfl ?_
    refine s_if l_Mo_joinSteps_361 h (fun h => ?_) (fun h => ?_)
    · refine s_ic 4 l_Mo_joinSteps_368 rfl ?_
      exact h
    · refine s_ic 3 l_Mo_joinSteps_364 rfl ?_
      refine s_goto l_Mo_joinSteps_365 ?_
      exact h
  · refine s_ic 2 l_Mo_joinSteps_355 rfl ?_
    refine s_goto l_Mo_joinSteps_356 ?_
    exact h
def B_Mo_joinSteps_369 (d : Nat) (E : Option Value → xH → Prop) (f : xH) (a0 : Nat) (x1 : Int32) (x2 : Int32) (x3 : Int32) (x4 : Int32) (x5 : Int32) (s0 : Int32) (s1 : Int32) (s2 : Nat) : Prop :=
  xas f s2 0 s1 s0 (fun f1 => xbr (x4 = 0) (E (some (.int 1)) f1) (xbr (¬ x5 = 0) (E (some (.int 0)) f1) (E (some (.int 1)) f1)))
theorem b_Mo_joinSteps_369 {d : Nat} {E : Option Value → xH → Prop} {f : xH} {a0 : Nat} {x1 : Int32} {x2 : Int32} {x3 : Int32} {x4 : Int32} {x5 : Int32} {s0 : Int32} {s1 : Int32} {s2 : Nat} (h : B_Mo_joinSteps_369 d E f a0 x1 x2 x3 x4 x5 s0 s1 s2) : xWp (xT0, xSp xT0 d, none, m_Mo_joinSteps, E) 369 [some (.ref a0), some (.int x1), some (.int x2), some (.int x3), some (.int x4), some (.int x5)] [.int s0, .int s1, .ref s2] f 0 0 := by
  unfold B_Mo_joinSteps_369 at h
  refine s_iast l_Mo_joinSteps_369 h (fun f1 h => ?_)
  refine s_il l_Mo_joinSteps_370 rfl ?_
  refine s_if l_Mo_joinSteps_372 h (fun h => ?_) (fun h => ?_)
  · refine s_ic 1 l_Mo_joinSteps_380 rfl ?_
    refine s_goto l_Mo_joinSteps_381 ?_
    exact s_zret l_Mo_joinSteps_385 rfl ⟨Nat.zero_le _, Nat.zero_le _⟩ ⟨Or.inr rfl, h⟩
  · refine s_il l_Mo_joinSteps_375 rfl ?_
    refine s_if l_Mo_joinSteps_377 h (fun h => ?_) (fun h => ?_)
    · refine s_ic 0 l_Mo_joinSteps_384 rfl ?_
      exact s_zret l_Mo_joinSteps_385 rfl ⟨Nat.zero_le _, Nat.zero_le _⟩ ⟨Or.inl rfl, h⟩
    · refine s_ic 1 l_Mo_joinSteps_380 rfl ?_
      refine s_goto l_Mo_joinSteps_381 ?_
      exact s_zret l_Mo_joinSteps_385 rfl ⟨Nat.zero_le _, Nat.zero_le _⟩ ⟨Or.inr rfl, h⟩
theorem l_Mo_join_0 : xlk (xm_cd m_Mo_join) 0 = some (.iconst 0, 1, (0, 0, 0, [])) := rfl
theorem l_Mo_join_1 : xlk (xm_cd m_Mo_join) 1 = some (.istore 7, 2, (0, 0, 0, [])) := rfl
theorem l_Mo_join_3 : xlk (xm_cd m_Mo_join) 3 = some (.iload 7, 2, (0, 0, 0, [])) := rfl
theorem l_Mo_join_5 : xlk (xm_cd m_Mo_join) 5 = some (.iload 4, 2, (0, 0, 0, [])) := rfl
theorem l_Mo_join_7 : xlk (xm_cd m_Mo_join) 7 = some (.if_icmp .ge 41, 3, (0, 48, 0, [])) := rfl
theorem l_Mo_join_10 : xlk (xm_cd m_Mo_join) 10 = some (.aload_n 2, 1, (0, 0, 0, [])) := rfl
theorem l_Mo_join_11 : xlk (xm_cd m_Mo_join) 11 = some (.iload_n 3, 1, (0, 0, 0, [])) := rfl
theorem l_Mo_join_12 : xlk (xm_cd m_Mo_join) 12 = some (.iload 7, 2, (0, 0, 0, [])) := rfl
theorem l_Mo_join_14 : xlk (xm_cd m_Mo_join) 14 = some (.iadd, 1, (0, 0, 0, [])) := rfl
theorem l_Mo_join_15 : xlk (xm_cd m_Mo_join) 15 = some (.iaload, 1, (0, 0, 0, [])) := rfl
theorem l_Mo_join_16 : xlk (xm_cd m_Mo_join) 16 = some (.istore 8, 2, (0, 0, 0, [])) := rfl
theorem l_Mo_join_18 : xlk (xm_cd m_Mo_join) 18 = some (.aload 5, 2, (0, 0, 0, [])) := rfl
theorem l_Mo_join_20 : xlk (xm_cd m_Mo_join) 20 = some (.iload 6, 2, (0, 0, 0, [])) := rfl
theorem l_Mo_join_22 : xlk (xm_cd m_Mo_join) 22 = some (.iload 7, 2, (0, 0, 0, [])) := rfl
theorem l_Mo_join_24 : xlk (xm_cd m_Mo_join) 24 = some (.iadd, 1, (0, 0, 0, [])) := rfl
theorem l_Mo_join_25 : xlk (xm_cd m_Mo_join) 25 = some (.iload 8, 2, (0, 0, 0, [])) := rfl
theorem l_Mo_join_27 : xlk (xm_cd m_Mo_join) 27 = some (.ifCond .ge 8, 3, (0, 35, 0, [])) := rfl
theorem l_Mo_join_30 : xlk (xm_cd m_Mo_join) 30 = some (.iload 8, 2, (0, 0, 0, [])) := rfl
theorem l_Mo_join_32 : xlk (xm_cd m_Mo_join) 32 = some (.goto 9, 3, (0, 41, 0, [])) := rfl
theorem l_Mo_join_35 : xlk (xm_cd m_Mo_join) 35 = some (.aload_n 0, 1, (0, 0, 0, [])) := rfl
theorem l_Mo_join_36 : xlk (xm_cd m_Mo_join) 36 = some (.iload_n 1, 1, (0, 0, 0, [])) := rfl
theorem l_Mo_join_37 : xlk (xm_cd m_Mo_join) 37 = some (.iload 8, 2, (0, 0, 0, [])) := rfl
theorem l_Mo_join_39 : xlk (xm_cd m_Mo_join) 39 = some (.iadd, 1, (0, 0, 0, [])) := rfl
theorem l_Mo_join_40 : xlk (xm_cd m_Mo_join) 40 = some (.iaload, 1, (0, 0, 0, [])) := rfl
theorem l_Mo_join_41 : xlk (xm_cd m_Mo_join) 41 = some (.iastore, 1, (0, 0, 0, [])) := rfl
theorem l_Mo_join_42 : xlk (xm_cd m_Mo_join) 42 = some (.iinc 7 1, 3, (0, 0, 0, [])) := rfl
theorem l_Mo_join_45 : xlk (xm_cd m_Mo_join) 45 = some (.goto (-42), 3, (0, 3, 0, [])) := rfl
theorem l_Mo_join_48 : xlk (xm_cd m_Mo_join) 48 = some (.return_, 1, (0, 0, 0, [])) := rfl
def B_Mo_join_0 (d : Nat) (E : Option Value → xH → Prop) (f : xH) (a0 : Nat) (x1 : Int32) (a2 : Nat) (x3 : Int32) (x4 : Int32) (a5 : Nat) (x6 : Int32) : Prop :=
  xWp (xT0, xSp xT0 d, none, m_Mo_join, E) 3 [some (.ref a0), some (.int x1), some (.ref a2), some (.int x3), some (.int x4), some (.ref a5), some (.int x6), some (.int 0), none] [] f 0 0
theorem b_Mo_join_0 {d : Nat} {E : Option Value → xH → Prop} {f : xH} {a0 : Nat} {x1 : Int32} {a2 : Nat} {x3 : Int32} {x4 : Int32} {a5 : Nat} {x6 : Int32} (h : B_Mo_join_0 d E f a0 x1 a2 x3 x4 a5 x6) : xWp (xT0, xSp xT0 d, none, m_Mo_join, E) 0 [some (.ref a0), some (.int x1), some (.ref a2), some (.int x3), some (.int x4), some (.ref a5), some (.int x6), none, none] [] f 0 0 := by
  unfold B_Mo_join_0 at h
  refine s_ic 0 l_Mo_join_0 rfl ?_
  refine s_is l_Mo_join_1 (Nat.le_of_ble_eq_true rfl) ?_
  exact h
def B_Mo_join_3 (d : Nat) (E : Option Value → xH → Prop) (f : xH) (a0 : Nat) (x1 : Int32) (a2 : Nat) (x3 : Int32) (x4 : Int32) (a5 : Nat) (x6 : Int32) (x7 : Int32) (u8 : Option Value) : Prop :=
  xbr (x4 ≤ x7) (E none f) (xal f a2 0 (x3 + x7) (fun v1 => xbr ((0 : Int32) ≤ v1) (xal f a0 0 (x1 + v1) (fun v2 => xas f a5 0 (x6 + x7) v2 (fun f3 => xWp (xT0, xSp xT0 d, none, m_Mo_join, E) 3 [some (.ref a0), some (.int x1), some (.ref a2), some (.int x3), some (.int x4), some (.ref a5), some (.int x6), some (.int (x7 + 1)), some (.int v1)] [] f3 0 0))) (xas f a5 0 (x6 + x7) v1 (fun f4 => xWp (xT0, xSp xT0 d, none, m_Mo_join, E) 3 [some (.ref a0), some (.int x1), some (.ref a2), some (.int x3), some (.int x4), some (.ref a5), some (.int x6), some (.int (x7 + 1)), some (.int v1)] [] f4 0 0))))
theorem b_Mo_join_3 {d : Nat} {E : Option Value → xH → Prop} {f : xH} {a0 : Nat} {x1 : Int32} {a2 : Nat} {x3 : Int32} {x4 : Int32} {a5 : Nat} {x6 : Int32} {x7 : Int32} {u8 : Option Value} (h : B_Mo_join_3 d E f a0 x1 a2 x3 x4 a5 x6 x7 u8) : xWp (xT0, xSp xT0 d, none, m_Mo_join, E) 3 [some (.ref a0), some (.int x1), some (.ref a2), some (.int x3), some (.int x4), some (.ref a5), some (.int x6), some (.int x7), u8] [] f 0 0 := by
  unfold B_Mo_join_3 at h
  refine s_il l_Mo_join_3 rfl ?_
  refine s_il l_Mo_join_5 rfl ?_
  refine s_ifc l_Mo_join_7 h (fun h => ?_) (fun h => ?_)
  · exact s_ret l_Mo_join_48 ⟨Nat.zero_le _, Nat.zero_le _⟩ h
  · refine s_aln l_Mo_join_10 rfl ?_
    refine s_iln l_Mo_join_11 rfl ?_
    refine s_il l_Mo_join_12 rfl ?_
    refine s_iadd l_Mo_join_14 ?_
    refine s_ial l_Mo_join_15 rfl h (fun v1 h => ?_)
    refine s_is l_Mo_join_16 (Nat.le_of_ble_eq_true rfl) ?_
    refine s_al l_Mo_join_18 rfl ?_
    refine s_il l_Mo_join_20 rfl ?_
    refine s_il l_Mo_join_22 rfl ?_
    refine s_iadd l_Mo_join_24 ?_
    refine s_il l_Mo_join_25 rfl ?_
    refine s_if l_Mo_join_27 h (fun h => ?_) (fun h => ?_)
    · refine s_aln l_Mo_join_35 rfl ?_
      refine s_iln l_Mo_join_36 rfl ?_
      refine s_il l_Mo_join_37 rfl ?_
      refine s_iadd l_Mo_join_39 ?_
      refine s_ial l_Mo_join_40 rfl h (fun v2 h => ?_)
      refine s_iast l_Mo_join_41 h (fun f3 h => ?_)
      refine s_inc 1 l_Mo_join_42 rfl rfl ?_
      refine s_goto l_Mo_join_45 ?_
      exact h
    · refine s_il l_Mo_join_30 rfl ?_
      refine s_goto l_Mo_join_32 ?_
      refine s_iast l_Mo_join_41 h (fun f4 h => ?_)
      refine s_inc 1 l_Mo_join_42 rfl rfl ?_
      refine s_goto l_Mo_join_45 ?_
      exact h
theorem l_Mo_isWhole_0 : xlk (xm_cd m_Mo_isWhole) 0 = some (.aload_n 0, 1, (0, 0, 0, [])) := rfl
theorem l_Mo_isWhole_1 : xlk (xm_cd m_Mo_isWhole) 1 = some (.getfield 57, 3, (867, 11, 18, [])) := rfl
theorem l_Mo_isWhole_4 : xlk (xm_cd m_Mo_isWhole) 4 = some (.iload_n 1, 1, (0, 0, 0, [])) := rfl
theorem l_Mo_isWhole_5 : xlk (xm_cd m_Mo_isWhole) 5 = some (.iaload, 1, (0, 0, 0, [])) := rfl
theorem l_Mo_isWhole_6 : xlk (xm_cd m_Mo_isWhole) 6 = some (.aload_n 0, 1, (0, 0, 0, [])) := rfl
theorem l_Mo_isWhole_7 : xlk (xm_cd m_Mo_isWhole) 7 = some (.getfield 51, 3, (865, 11, 16, [])) := rfl
theorem l_Mo_isWhole_10 : xlk (xm_cd m_Mo_isWhole) 10 = some (.iload_n 1, 1, (0, 0, 0, [])) := rfl
theorem l_Mo_isWhole_11 : xlk (xm_cd m_Mo_isWhole) 11 = some (.iaload, 1, (0, 0, 0, [])) := rfl
theorem l_Mo_isWhole_12 : xlk (xm_cd m_Mo_isWhole) 12 = some (.if_icmp .ne 7, 3, (0, 19, 0, [])) := rfl
theorem l_Mo_isWhole_15 : xlk (xm_cd m_Mo_isWhole) 15 = some (.iconst 1, 1, (0, 0, 0, [])) := rfl
theorem l_Mo_isWhole_16 : xlk (xm_cd m_Mo_isWhole) 16 = some (.goto 4, 3, (0, 20, 0, [])) := rfl
theorem l_Mo_isWhole_19 : xlk (xm_cd m_Mo_isWhole) 19 = some (.iconst 0, 1, (0, 0, 0, [])) := rfl
theorem l_Mo_isWhole_20 : xlk (xm_cd m_Mo_isWhole) 20 = some (.istore_n 2, 1, (0, 0, 0, [])) := rfl
theorem l_Mo_isWhole_21 : xlk (xm_cd m_Mo_isWhole) 21 = some (.iconst 0, 1, (0, 0, 0, [])) := rfl
theorem l_Mo_isWhole_22 : xlk (xm_cd m_Mo_isWhole) 22 = some (.istore_n 3, 1, (0, 0, 0, [])) := rfl
theorem l_Mo_isWhole_23 : xlk (xm_cd m_Mo_isWhole) 23 = some (.iload_n 3, 1, (0, 0, 0, [])) := rfl
theorem l_Mo_isWhole_24 : xlk (xm_cd m_Mo_isWhole) 24 = some (.aload_n 0, 1, (0, 0, 0, [])) := rfl
theorem l_Mo_isWhole_25 : xlk (xm_cd m_Mo_isWhole) 25 = some (.getfield 57, 3, (867, 11, 18, [])) := rfl
theorem l_Mo_isWhole_28 : xlk (xm_cd m_Mo_isWhole) 28 = some (.iload_n 1, 1, (0, 0, 0, [])) := rfl
theorem l_Mo_isWhole_29 : xlk (xm_cd m_Mo_isWhole) 29 = some (.iaload, 1, (0, 0, 0, [])) := rfl
theorem l_Mo_isWhole_30 : xlk (xm_cd m_Mo_isWhole) 30 = some (.if_icmp .ge 34, 3, (0, 64, 0, [])) := rfl
theorem l_Mo_isWhole_33 : xlk (xm_cd m_Mo_isWhole) 33 = some (.iload_n 2, 1, (0, 0, 0, [])) := rfl
theorem l_Mo_isWhole_34 : xlk (xm_cd m_Mo_isWhole) 34 = some (.ifCond .eq 30, 3, (0, 64, 0, [])) := rfl
theorem l_Mo_isWhole_37 : xlk (xm_cd m_Mo_isWhole) 37 = some (.aload_n 0, 1, (0, 0, 0, [])) := rfl
theorem l_Mo_isWhole_38 : xlk (xm_cd m_Mo_isWhole) 38 = some (.getfield 63, 3, (869, 11, 20, [])) := rfl
theorem l_Mo_isWhole_41 : xlk (xm_cd m_Mo_isWhole) 41 = some (.bipush 48, 2, (0, 0, 0, [])) := rfl
theorem l_Mo_isWhole_43 : xlk (xm_cd m_Mo_isWhole) 43 = some (.iload_n 1, 1, (0, 0, 0, [])) := rfl
theorem l_Mo_isWhole_44 : xlk (xm_cd m_Mo_isWhole) 44 = some (.imul, 1, (0, 0, 0, [])) := rfl
theorem l_Mo_isWhole_45 : xlk (xm_cd m_Mo_isWhole) 45 = some (.iload_n 3, 1, (0, 0, 0, [])) := rfl
theorem l_Mo_isWhole_46 : xlk (xm_cd m_Mo_isWhole) 46 = some (.iadd, 1, (0, 0, 0, [])) := rfl
theorem l_Mo_isWhole_47 : xlk (xm_cd m_Mo_isWhole) 47 = some (.iaload, 1, (0, 0, 0, [])) := rfl
theorem l_Mo_isWhole_48 : xlk (xm_cd m_Mo_isWhole) 48 = some (.iload_n 3, 1, (0, 0, 0, [])) := rfl
theorem l_Mo_isWhole_49 : xlk (xm_cd m_Mo_isWhole) 49 = some (.if_icmp .ne 7, 3, (0, 56, 0, [])) := rfl
theorem l_Mo_isWhole_52 : xlk (xm_cd m_Mo_isWhole) 52 = some (.iconst 1, 1, (0, 0, 0, [])) := rfl
theorem l_Mo_isWhole_53 : xlk (xm_cd m_Mo_isWhole) 53 = some (.goto 4, 3, (0, 57, 0, [])) := rfl
theorem l_Mo_isWhole_56 : xlk (xm_cd m_Mo_isWhole) 56 = some (.iconst 0, 1, (0, 0, 0, [])) := rfl
theorem l_Mo_isWhole_57 : xlk (xm_cd m_Mo_isWhole) 57 = some (.istore_n 2, 1, (0, 0, 0, [])) := rfl
theorem l_Mo_isWhole_58 : xlk (xm_cd m_Mo_isWhole) 58 = some (.iinc 3 1, 3, (0, 0, 0, [])) := rfl
theorem l_Mo_isWhole_61 : xlk (xm_cd m_Mo_isWhole) 61 = some (.goto (-38), 3, (0, 23, 0, [])) := rfl
theorem l_Mo_isWhole_64 : xlk (xm_cd m_Mo_isWhole) 64 = some (.iload_n 2, 1, (0, 0, 0, [])) := rfl
theorem l_Mo_isWhole_65 : xlk (xm_cd m_Mo_isWhole) 65 = some (.ireturn, 1, (0, 0, 0, [])) := rfl
def B_Mo_isWhole_0 (d : Nat) (E : Option Value → xH → Prop) (f : xH) (a0 : Nat) (x1 : Int32) : Prop :=
  xgr f a0 11 18 (fun r1 => xal f r1 0 x1 (fun v2 => xgr f a0 11 16 (fun r3 => xal f r3 0 x1 (fun v4 => xbr (¬ v2 = v4) (xWp (xT0, xSp xT0 d, none, m_Mo_isWhole, E) 23 [some (.ref a0), some (.int x1), some (.int 0), some (.int 0)] [] f 0 0) (xWp (xT0, xSp xT0 d, none, m_Mo_isWhole, E) 23 [some (.ref a0), some (.int x1), some (.int 1), some (.int 0)] [] f 0 0)))))
theorem b_Mo_isWhole_0 {d : Nat} {E : Option Value → xH → Prop} {f : xH} {a0 : Nat} {x1 : Int32} (h : B_Mo_isWhole_0 d E f a0 x1) : xWp (xT0, xSp xT0 d, none, m_Mo_isWhole, E) 0 [some (.ref a0), some (.int x1), none, none] [] f 0 0 := by
  unfold B_Mo_isWhole_0 at h
  refine s_aln l_Mo_isWhole_0 rfl ?_
  refine s_gr l_Mo_isWhole_1 h (fun r1 h => ?_)
  refine s_iln l_Mo_isWhole_4 rfl ?_
  refine s_ial l_Mo_isWhole_5 rfl h (fun v2 h => ?_)
  refine s_aln l_Mo_isWhole_6 rfl ?_
  refine s_gr l_Mo_isWhole_7 h (fun r3 h => ?_)
  refine s_iln l_Mo_isWhole_10 rfl ?_
  refine s_ial l_Mo_isWhole_11 rfl h (fun v4 h => ?_)
  refine s_ifc l_Mo_isWhole_12 h (fun h => ?_) (fun h => ?_)
  · refine s_ic 0 l_Mo_isWhole_19 rfl ?_
    refine s_isn l_Mo_isWhole_20 (Nat.le_of_ble_eq_true rfl) ?_
    refine s_ic 0 l_Mo_isWhole_21 rfl ?_
    refine s_isn l_Mo_isWhole_22 (Nat.le_of_ble_eq_true rfl) ?_
    exact h
  · refine s_ic 1 l_Mo_isWhole_15 rfl ?_
    refine s_goto l_Mo_isWhole_16 ?_
    refine s_isn l_Mo_isWhole_20 (Nat.le_of_ble_eq_true rfl) ?_
    refine s_ic 0 l_Mo_isWhole_21 rfl ?_
    refine s_isn l_Mo_isWhole_22 (Nat.le_of_ble_eq_true rfl) ?_
    exact h
def B_Mo_isWhole_23 (d : Nat) (E : Option Value → xH → Prop) (f : xH) (a0 : Nat) (x1 : Int32) (x2 : Int32) (x3 : Int32) : Prop :=
  xgr f a0 11 18 (fun r1 => xal f r1 0 x1 (fun v2 => xbr (v2 ≤ x3) ((x2 = 0 ∨ x2 = 1) ∧ E (some (.int x2)) f) (xbr (x2 = 0) ((x2 = 0 ∨ x2 = 1) ∧ E (some (.int x2)) f) (xgr f a0 11 20 (fun r3 => xal f r3 0 ((48 * x1) + x3) (fun v4 => xbr (¬ v4 = x3) (xWp (xT0, xSp xT0 d, none, m_Mo_isWhole, E) 23 [some (.ref a0), some (.int x1), some (.int 0), some (.int (x3 + 1))] [] f 0 0) (xWp (xT0, xSp xT0 d, none, m_Mo_isWhole, E) 23 [some (.ref a0), some (.int x1), some (.int 1), some (.int (x3 + 1))] [] f 0 0)))))))
theorem b_Mo_isWhole_23 {d : Nat} {E : Option Value → xH → Prop} {f : xH} {a0 : Nat} {x1 : Int32} {x2 : Int32} {x3 : Int32} (h : B_Mo_isWhole_23 d E f a0 x1 x2 x3) : xWp (xT0, xSp xT0 d, none, m_Mo_isWhole, E) 23 [some (.ref a0), some (.int x1), some (.int x2), some (.int x3)] [] f 0 0 := by
  unfold B_Mo_isWhole_23 at h
  refine s_iln l_Mo_isWhole_23 rfl ?_
  refine s_aln l_Mo_isWhole_24 rfl ?_
  refine s_gr l_Mo_isWhole_25 h (fun r1 h => ?_)
  refine s_iln l_Mo_isWhole_28 rfl ?_
  refine s_ial l_Mo_isWhole_29 rfl h (fun v2 h => ?_)
  refine s_ifc l_Mo_isWhole_30 h (fun h => ?_) (fun h => ?_)
  · refine s_iln l_Mo_isWhole_64 rfl ?_
    exact s_zret l_Mo_isWhole_65 rfl ⟨Nat.zero_le _, Nat.zero_le _⟩ h
  · refine s_iln l_Mo_isWhole_33 rfl ?_
    refine s_if l_Mo_isWhole_34 h (fun h => ?_) (fun h => ?_)
    · refine s_iln l_Mo_isWhole_64 rfl ?_
      exact s_zret l_Mo_isWhole_65 rfl ⟨Nat.zero_le _, Nat.zero_le _⟩ h
    · refine s_aln l_Mo_isWhole_37 rfl ?_
      refine s_gr l_Mo_isWhole_38 h (fun r3 h => ?_)
      refine s_bp 48 l_Mo_isWhole_41 rfl ?_
      refine s_iln l_Mo_isWhole_43 rfl ?_
      refine s_imul l_Mo_isWhole_44 ?_
      refine s_iln l_Mo_isWhole_45 rfl ?_
      refine s_iadd l_Mo_isWhole_46 ?_
      refine s_ial l_Mo_isWhole_47 rfl h (fun v4 h => ?_)
      refine s_iln l_Mo_isWhole_48 rfl ?_
      refine s_ifc l_Mo_isWhole_49 h (fun h => ?_) (fun h => ?_)
      · refine s_ic 0 l_Mo_isWhole_56 rfl ?_
        refine s_isn l_Mo_isWhole_57 (Nat.le_of_ble_eq_true rfl) ?_
        refine s_inc 1 l_Mo_isWhole_58 rfl rfl ?_
        refine s_goto l_Mo_isWhole_61 ?_
        exact h
      · refine s_ic 1 l_Mo_isWhole_52 rfl ?_
        refine s_goto l_Mo_isWhole_53 ?_
        refine s_isn l_Mo_isWhole_57 (Nat.le_of_ble_eq_true rfl) ?_
        refine s_inc 1 l_Mo_isWhole_58 rfl rfl ?_
        refine s_goto l_Mo_isWhole_61 ?_
        exact h
theorem l_Mo_toChain_0 : xlk (xm_cd m_Mo_toChain) 0 = some (.aload_n 0, 1, (0, 0, 0, [])) := rfl
theorem l_Mo_toChain_1 : xlk (xm_cd m_Mo_toChain) 1 = some (.getfield 69, 3, (871, 11, 22, [])) := rfl
theorem l_Mo_toChain_4 : xlk (xm_cd m_Mo_toChain) 4 = some (.bipush 8, 2, (0, 0, 0, [])) := rfl
theorem l_Mo_toChain_6 : xlk (xm_cd m_Mo_toChain) 6 = some (.iaload, 1, (0, 0, 0, [])) := rfl
theorem l_Mo_toChain_7 : xlk (xm_cd m_Mo_toChain) 7 = some (.bipush 24, 2, (0, 0, 0, [])) := rfl
theorem l_Mo_toChain_9 : xlk (xm_cd m_Mo_toChain) 9 = some (.if_icmp .ne 5, 3, (0, 14, 0, [])) := rfl
theorem l_Mo_toChain_12 : xlk (xm_cd m_Mo_toChain) 12 = some (.iconst 0, 1, (0, 0, 0, [])) := rfl
theorem l_Mo_toChain_13 : xlk (xm_cd m_Mo_toChain) 13 = some (.ireturn, 1, (0, 0, 0, [])) := rfl
theorem l_Mo_toChain_14 : xlk (xm_cd m_Mo_toChain) 14 = some (.aload_n 0, 1, (0, 0, 0, [])) := rfl
theorem l_Mo_toChain_15 : xlk (xm_cd m_Mo_toChain) 15 = some (.bipush 8, 2, (0, 0, 0, [])) := rfl
theorem l_Mo_toChain_17 : xlk (xm_cd m_Mo_toChain) 17 = some (.invokevirtual 229, 3, (1056, 177, 1, [])) := rfl
theorem l_Mo_toChain_20 : xlk (xm_cd m_Mo_toChain) 20 = some (.iconst 1, 1, (0, 0, 0, [])) := rfl
theorem l_Mo_toChain_21 : xlk (xm_cd m_Mo_toChain) 21 = some (.ireturn, 1, (0, 0, 0, [])) := rfl
def B_Mo_toChain_0 (d : Nat) (E : Option Value → xH → Prop) (f : xH) (a0 : Nat) : Prop :=
  xgr f a0 11 22 (fun r1 => xal f r1 0 8 (fun v2 => xbr (¬ v2 = 24) ((∃ fs, f a0 = some (xO 11 fs)) ∧ xSp xT0 d j_Mo_addSpare [.ref a0, .int 8] f (fun w3 f4 => xvv w3 (E (some (.int 1)) f4))) (E (some (.int 0)) f)))
theorem b_Mo_toChain_0 {d : Nat} {E : Option Value → xH → Prop} {f : xH} {a0 : Nat} (h : B_Mo_toChain_0 d E f a0) : xWp (xT0, xSp xT0 d, none, m_Mo_toChain, E) 0 [some (.ref a0)] [] f 0 0 := by
  unfold B_Mo_toChain_0 at h
  refine s_aln l_Mo_toChain_0 rfl ?_
  refine s_gr l_Mo_toChain_1 h (fun r1 h => ?_)
  refine s_bp 8 l_Mo_toChain_4 rfl ?_
  refine s_ial l_Mo_toChain_6 rfl h (fun v2 h => ?_)
  refine s_bp 24 l_Mo_toChain_7 rfl ?_
  refine s_ifc l_Mo_toChain_9 h (fun h => ?_) (fun h => ?_)
  · refine s_aln l_Mo_toChain_14 rfl ?_
    refine s_bp 8 l_Mo_toChain_15 rfl ?_
    refine s_cvv (As := [.int 8]) (r := []) l_Mo_toChain_17 rfl ⟨rfl, rfl⟩ rfl (Nat.le_of_ble_eq_true rfl) rfl ⟨Nat.zero_le _, Nat.zero_le _⟩ h (fun f4 h => ?_)
    refine s_ic 1 l_Mo_toChain_20 rfl ?_
    exact s_zret l_Mo_toChain_21 rfl ⟨Nat.zero_le _, Nat.zero_le _⟩ ⟨Or.inr rfl, h⟩
  · refine s_ic 0 l_Mo_toChain_12 rfl ?_
    exact s_zret l_Mo_toChain_13 rfl ⟨Nat.zero_le _, Nat.zero_le _⟩ ⟨Or.inl rfl, h⟩
theorem l_Mo_droppedAt_0 : xlk (xm_cd m_Mo_droppedAt) 0 = some (.iconst 0, 1, (0, 0, 0, [])) := rfl
theorem l_Mo_droppedAt_1 : xlk (xm_cd m_Mo_droppedAt) 1 = some (.istore_n 3, 1, (0, 0, 0, [])) := rfl
theorem l_Mo_droppedAt_2 : xlk (xm_cd m_Mo_droppedAt) 2 = some (.iload_n 3, 1, (0, 0, 0, [])) := rfl
theorem l_Mo_droppedAt_3 : xlk (xm_cd m_Mo_droppedAt) 3 = some (.aload_n 0, 1, (0, 0, 0, [])) := rfl
theorem l_Mo_droppedAt_4 : xlk (xm_cd m_Mo_droppedAt) 4 = some (.getfield 69, 3, (871, 11, 22, [])) := rfl
theorem l_Mo_droppedAt_7 : xlk (xm_cd m_Mo_droppedAt) 7 = some (.iload_n 1, 1, (0, 0, 0, [])) := rfl
theorem l_Mo_droppedAt_8 : xlk (xm_cd m_Mo_droppedAt) 8 = some (.iaload, 1, (0, 0, 0, [])) := rfl
theorem l_Mo_droppedAt_9 : xlk (xm_cd m_Mo_droppedAt) 9 = some (.if_icmp .ge 67, 3, (0, 76, 0, [])) := rfl
theorem l_Mo_droppedAt_12 : xlk (xm_cd m_Mo_droppedAt) 12 = some (.bipush 24, 2, (0, 0, 0, [])) := rfl
theorem l_Mo_droppedAt_14 : xlk (xm_cd m_Mo_droppedAt) 14 = some (.iload_n 1, 1, (0, 0, 0, [])) := rfl
theorem l_Mo_droppedAt_15 : xlk (xm_cd m_Mo_droppedAt) 15 = some (.imul, 1, (0, 0, 0, [])) := rfl
theorem l_Mo_droppedAt_16 : xlk (xm_cd m_Mo_droppedAt) 16 = some (.iload_n 3, 1, (0, 0, 0, [])) := rfl
theorem l_Mo_droppedAt_17 : xlk (xm_cd m_Mo_droppedAt) 17 = some (.iadd, 1, (0, 0, 0, [])) := rfl
theorem l_Mo_droppedAt_18 : xlk (xm_cd m_Mo_droppedAt) 18 = some (.istore 4, 2, (0, 0, 0, [])) := rfl
theorem l_Mo_droppedAt_20 : xlk (xm_cd m_Mo_droppedAt) 20 = some (.aload_n 0, 1, (0, 0, 0, [])) := rfl
theorem l_Mo_droppedAt_21 : xlk (xm_cd m_Mo_droppedAt) 21 = some (.getfield 36, 3, (860, 11, 11, [])) := rfl
theorem l_Mo_droppedAt_24 : xlk (xm_cd m_Mo_droppedAt) 24 = some (.iload 4, 2, (0, 0, 0, [])) := rfl
theorem l_Mo_droppedAt_26 : xlk (xm_cd m_Mo_droppedAt) 26 = some (.iaload, 1, (0, 0, 0, [])) := rfl
theorem l_Mo_droppedAt_27 : xlk (xm_cd m_Mo_droppedAt) 27 = some (.iconst 1, 1, (0, 0, 0, [])) := rfl
theorem l_Mo_droppedAt_28 : xlk (xm_cd m_Mo_droppedAt) 28 = some (.if_icmp .ne 42, 3, (0, 70, 0, [])) := rfl
theorem l_Mo_droppedAt_31 : xlk (xm_cd m_Mo_droppedAt) 31 = some (.aload_n 0, 1, (0, 0, 0, [])) := rfl
theorem l_Mo_droppedAt_32 : xlk (xm_cd m_Mo_droppedAt) 32 = some (.getfield 39, 3, (861, 11, 12, [])) := rfl
theorem l_Mo_droppedAt_35 : xlk (xm_cd m_Mo_droppedAt) 35 = some (.bipush 18, 2, (0, 0, 0, [])) := rfl
theorem l_Mo_droppedAt_37 : xlk (xm_cd m_Mo_droppedAt) 37 = some (.iload 4, 2, (0, 0, 0, [])) := rfl
theorem l_Mo_droppedAt_39 : xlk (xm_cd m_Mo_droppedAt) 39 = some (.imul, 1, (0, 0, 0, [])) := rfl
theorem l_Mo_droppedAt_40 : xlk (xm_cd m_Mo_droppedAt) 40 = some (.aload_n 0, 1, (0, 0, 0, [])) := rfl
theorem l_Mo_droppedAt_41 : xlk (xm_cd m_Mo_droppedAt) 41 = some (.getfield 42, 3, (862, 11, 13, [])) := rfl
theorem l_Mo_droppedAt_44 : xlk (xm_cd m_Mo_droppedAt) 44 = some (.iload 4, 2, (0, 0, 0, [])) := rfl
theorem l_Mo_droppedAt_46 : xlk (xm_cd m_Mo_droppedAt) 46 = some (.iaload, 1, (0, 0, 0, [])) := rfl
theorem l_Mo_droppedAt_47 : xlk (xm_cd m_Mo_droppedAt) 47 = some (.aload_n 0, 1, (0, 0, 0, [])) := rfl
theorem l_Mo_droppedAt_48 : xlk (xm_cd m_Mo_droppedAt) 48 = some (.getfield 39, 3, (861, 11, 12, [])) := rfl
theorem l_Mo_droppedAt_51 : xlk (xm_cd m_Mo_droppedAt) 51 = some (.bipush 18, 2, (0, 0, 0, [])) := rfl
theorem l_Mo_droppedAt_53 : xlk (xm_cd m_Mo_droppedAt) 53 = some (.iload_n 2, 1, (0, 0, 0, [])) := rfl
theorem l_Mo_droppedAt_54 : xlk (xm_cd m_Mo_droppedAt) 54 = some (.imul, 1, (0, 0, 0, [])) := rfl
theorem l_Mo_droppedAt_55 : xlk (xm_cd m_Mo_droppedAt) 55 = some (.aload_n 0, 1, (0, 0, 0, [])) := rfl
theorem l_Mo_droppedAt_56 : xlk (xm_cd m_Mo_droppedAt) 56 = some (.getfield 42, 3, (862, 11, 13, [])) := rfl
theorem l_Mo_droppedAt_59 : xlk (xm_cd m_Mo_droppedAt) 59 = some (.iload_n 2, 1, (0, 0, 0, [])) := rfl
theorem l_Mo_droppedAt_60 : xlk (xm_cd m_Mo_droppedAt) 60 = some (.iaload, 1, (0, 0, 0, [])) := rfl
theorem l_Mo_droppedAt_61 : xlk (xm_cd m_Mo_droppedAt) 61 = some (.invokestatic 143, 3, (987, 157, 6, [])) := rfl
theorem l_Mo_droppedAt_64 : xlk (xm_cd m_Mo_droppedAt) 64 = some (.ifCond .ne 6, 3, (0, 70, 0, [])) := rfl
theorem l_Mo_droppedAt_67 : xlk (xm_cd m_Mo_droppedAt) 67 = some (.iload 4, 2, (0, 0, 0, [])) := rfl
theorem l_Mo_droppedAt_69 : xlk (xm_cd m_Mo_droppedAt) 69 = some (.ireturn, 1, (0, 0, 0, [])) := rfl
theorem l_Mo_droppedAt_70 : xlk (xm_cd m_Mo_droppedAt) 70 = some (.iinc 3 1, 3, (0, 0, 0, [])) := rfl
theorem l_Mo_droppedAt_73 : xlk (xm_cd m_Mo_droppedAt) 73 = some (.goto (-71), 3, (0, 2, 0, [])) := rfl
theorem l_Mo_droppedAt_76 : xlk (xm_cd m_Mo_droppedAt) 76 = some (.bipush (-2), 2, (0, 0, 0, [])) := rfl
theorem l_Mo_droppedAt_78 : xlk (xm_cd m_Mo_droppedAt) 78 = some (.ireturn, 1, (0, 0, 0, [])) := rfl
def B_Mo_droppedAt_0 (d : Nat) (E : Option Value → xH → Prop) (f : xH) (a0 : Nat) (x1 : Int32) (x2 : Int32) : Prop :=
  xWp (xT0, xSp xT0 d, none, m_Mo_droppedAt, E) 2 [some (.ref a0), some (.int x1), some (.int x2), some (.int 0), none] [] f 0 0
theorem b_Mo_droppedAt_0 {d : Nat} {E : Option Value → xH → Prop} {f : xH} {a0 : Nat} {x1 : Int32} {x2 : Int32} (h : B_Mo_droppedAt_0 d E f a0 x1 x2) : xWp (xT0, xSp xT0 d, none, m_Mo_droppedAt, E) 0 [some (.ref a0), some (.int x1), some (.int x2), none, none] [] f 0 0 := by
  unfold B_Mo_droppedAt_0 at h
  refine s_ic 0 l_Mo_droppedAt_0 rfl ?_
  refine s_isn l_Mo_droppedAt_1 (Nat.le_of_ble_eq_true rfl) ?_
  exact h
def B_Mo_droppedAt_2 (d : Nat) (E : Option Value → xH → Prop) (f : xH) (a0 : Nat) (x1 : Int32) (x2 : Int32) (x3 : Int32) (u4 : Option Value) : Prop :=
  xgr f a0 11 22 (fun r1 => xal f r1 0 x1 (fun v2 => xbr (v2 ≤ x3) (E (some (.int (-2))) f) (xgr f a0 11 11 (fun r3 => xal f r3 0 ((24 * x1) + x3) (fun v4 => xbr (¬ v4 = 1) (xWp (xT0, xSp xT0 d, none, m_Mo_droppedAt, E) 2 [some (.ref a0), some (.int x1), some (.int x2), some (.int (x3 + 1)), some (.int ((24 * x1) + x3))] [] f 0 0) (xgr f a0 11 12 (fun r5 => xgr f a0 11 13 (fun r6 => xal f r6 0 ((24 * x1) + x3) (fun v7 => xgr f a0 11 12 (fun r8 => xgr f a0 11 13 (fun r9 => xal f r9 0 x2 (fun v10 => xSp xT0 d j_Mo_order [.ref r5, .int (18 * ((24 * x1) + x3)), .int v7, .ref r8, .int (18 * x2), .int v10] f (fun w11 f12 => xvi w11 (fun v13 => xbr (¬ v13 = 0) (xWp (xT0, xSp xT0 d, none, m_Mo_droppedAt, E) 2 [some (.ref a0), some (.int x1), some (.int x2), some (.int (x3 + 1)), some (.int ((24 * x1) + x3))] [] f12 0 0) (E (some (.int ((24 * x1) + x3))) f12)))))))))))))))
theorem b_Mo_droppedAt_2 {d : Nat} {E : Option Value → xH → Prop} {f : xH} {a0 : Nat} {x1 : Int32} {x2 : Int32} {x3 : Int32} {u4 : Option Value} (h : B_Mo_droppedAt_2 d E f a0 x1 x2 x3 u4) : xWp (xT0, xSp xT0 d, none, m_Mo_droppedAt, E) 2 [some (.ref a0), some (.int x1), some (.int x2), some (.int x3), u4] [] f 0 0 := by
  unfold B_Mo_droppedAt_2 at h
  refine s_iln l_Mo_droppedAt_2 rfl ?_
  refine s_aln l_Mo_droppedAt_3 rfl ?_
  refine s_gr l_Mo_droppedAt_4 h (fun r1 h => ?_)
  refine s_iln l_Mo_droppedAt_7 rfl ?_
  refine s_ial l_Mo_droppedAt_8 rfl h (fun v2 h => ?_)
  refine s_ifc l_Mo_droppedAt_9 h (fun h => ?_) (fun h => ?_)
  · refine s_bp (-2) l_Mo_droppedAt_76 rfl ?_
    exact s_iret l_Mo_droppedAt_78 rfl ⟨Nat.zero_le _, Nat.zero_le _⟩ h
  · refine s_bp 24 l_Mo_droppedAt_12 rfl ?_
    refine s_iln l_Mo_droppedAt_14 rfl ?_
    refine s_imul l_Mo_droppedAt_15 ?_
    refine s_iln l_Mo_droppedAt_16 rfl ?_
    refine s_iadd l_Mo_droppedAt_17 ?_
    refine s_is l_Mo_droppedAt_18 (Nat.le_of_ble_eq_true rfl) ?_
    refine s_aln l_Mo_droppedAt_20 rfl ?_
    refine s_gr l_Mo_droppedAt_21 h (fun r3 h => ?_)
    refine s_il l_Mo_droppedAt_24 rfl ?_
    refine s_ial l_Mo_droppedAt_26 rfl h (fun v4 h => ?_)
    refine s_ic 1 l_Mo_droppedAt_27 rfl ?_
    refine s_ifc l_Mo_droppedAt_28 h (fun h => ?_) (fun h => ?_)
    · refine s_inc 1 l_Mo_droppedAt_70 rfl rfl ?_
      refine s_goto l_Mo_droppedAt_73 ?_
      exact h
    · refine s_aln l_Mo_droppedAt_31 rfl ?_
      refine s_gr l_Mo_droppedAt_32 h (fun r5 h => ?_)
      refine s_bp 18 l_Mo_droppedAt_35 rfl ?_
      refine s_il l_Mo_droppedAt_37 rfl ?_
      refine s_imul l_Mo_droppedAt_39 ?_
      refine s_aln l_Mo_droppedAt_40 rfl ?_
      refine s_gr l_Mo_droppedAt_41 h (fun r6 h => ?_)
      refine s_il l_Mo_droppedAt_44 rfl ?_
      refine s_ial l_Mo_droppedAt_46 rfl h (fun v7 h => ?_)
      refine s_aln l_Mo_droppedAt_47 rfl ?_
      refine s_gr l_Mo_droppedAt_48 h (fun r8 h => ?_)
      refine s_bp 18 l_Mo_droppedAt_51 rfl ?_
      refine s_iln l_Mo_droppedAt_53 rfl ?_
      refine s_imul l_Mo_droppedAt_54 ?_
      refine s_aln l_Mo_droppedAt_55 rfl ?_
      refine s_gr l_Mo_droppedAt_56 h (fun r9 h => ?_)
      refine s_iln l_Mo_droppedAt_59 rfl ?_
      refine s_ial l_Mo_droppedAt_60 rfl h (fun v10 h => ?_)
      refine s_csi (As := [.ref r5, .int (18 * ((24 * x1) + x3)), .int v7, .ref r8, .int (18 * x2), .int v10]) (r := []) l_Mo_droppedAt_61 rfl ⟨rfl, rfl⟩ rfl (Nat.le_of_ble_eq_true rfl) rfl ⟨Nat.zero_le _, Nat.zero_le _⟩ h (fun v13 f12 h => ?_)
      refine s_if l_Mo_droppedAt_64 h (fun h => ?_) (fun h => ?_)
      · refine s_inc 1 l_Mo_droppedAt_70 rfl rfl ?_
        refine s_goto l_Mo_droppedAt_73 ?_
        exact h
      · refine s_il l_Mo_droppedAt_67 rfl ?_
        exact s_iret l_Mo_droppedAt_69 rfl ⟨Nat.zero_le _, Nat.zero_le _⟩ h
theorem l_Mo_changeBy_0 : xlk (xm_cd m_Mo_changeBy) 0 = some (.aload_n 0, 1, (0, 0, 0, [])) := rfl
theorem l_Mo_changeBy_1 : xlk (xm_cd m_Mo_changeBy) 1 = some (.iconst 2, 1, (0, 0, 0, [])) := rfl
theorem l_Mo_changeBy_2 : xlk (xm_cd m_Mo_changeBy) 2 = some (.aload_n 0, 1, (0, 0, 0, [])) := rfl
theorem l_Mo_changeBy_3 : xlk (xm_cd m_Mo_changeBy) 3 = some (.getfield 45, 3, (863, 11, 14, [])) := rfl
theorem l_Mo_changeBy_6 : xlk (xm_cd m_Mo_changeBy) 6 = some (.bipush 18, 2, (0, 0, 0, [])) := rfl
theorem l_Mo_changeBy_8 : xlk (xm_cd m_Mo_changeBy) 8 = some (.iload_n 1, 1, (0, 0, 0, [])) := rfl
theorem l_Mo_changeBy_9 : xlk (xm_cd m_Mo_changeBy) 9 = some (.imul, 1, (0, 0, 0, [])) := rfl
theorem l_Mo_changeBy_10 : xlk (xm_cd m_Mo_changeBy) 10 = some (.aload_n 0, 1, (0, 0, 0, [])) := rfl
theorem l_Mo_changeBy_11 : xlk (xm_cd m_Mo_changeBy) 11 = some (.getfield 48, 3, (864, 11, 15, [])) := rfl
theorem l_Mo_changeBy_14 : xlk (xm_cd m_Mo_changeBy) 14 = some (.iload_n 1, 1, (0, 0, 0, [])) := rfl
theorem l_Mo_changeBy_15 : xlk (xm_cd m_Mo_changeBy) 15 = some (.iaload, 1, (0, 0, 0, [])) := rfl
theorem l_Mo_changeBy_16 : xlk (xm_cd m_Mo_changeBy) 16 = some (.aload_n 0, 1, (0, 0, 0, [])) := rfl
theorem l_Mo_changeBy_17 : xlk (xm_cd m_Mo_changeBy) 17 = some (.getfield 39, 3, (861, 11, 12, [])) := rfl
theorem l_Mo_changeBy_20 : xlk (xm_cd m_Mo_changeBy) 20 = some (.bipush 18, 2, (0, 0, 0, [])) := rfl
theorem l_Mo_changeBy_22 : xlk (xm_cd m_Mo_changeBy) 22 = some (.iload_n 2, 1, (0, 0, 0, [])) := rfl
theorem l_Mo_changeBy_23 : xlk (xm_cd m_Mo_changeBy) 23 = some (.imul, 1, (0, 0, 0, [])) := rfl
theorem l_Mo_changeBy_24 : xlk (xm_cd m_Mo_changeBy) 24 = some (.aload_n 0, 1, (0, 0, 0, [])) := rfl
theorem l_Mo_changeBy_25 : xlk (xm_cd m_Mo_changeBy) 25 = some (.getfield 42, 3, (862, 11, 13, [])) := rfl
theorem l_Mo_changeBy_28 : xlk (xm_cd m_Mo_changeBy) 28 = some (.iload_n 2, 1, (0, 0, 0, [])) := rfl
theorem l_Mo_changeBy_29 : xlk (xm_cd m_Mo_changeBy) 29 = some (.iaload, 1, (0, 0, 0, [])) := rfl
theorem l_Mo_changeBy_30 : xlk (xm_cd m_Mo_changeBy) 30 = some (.invokevirtual 222, 3, (1038, 171, 7, [])) := rfl
theorem l_Mo_changeBy_33 : xlk (xm_cd m_Mo_changeBy) 33 = some (.aload_n 0, 1, (0, 0, 0, [])) := rfl
theorem l_Mo_changeBy_34 : xlk (xm_cd m_Mo_changeBy) 34 = some (.getfield 51, 3, (865, 11, 16, [])) := rfl
theorem l_Mo_changeBy_37 : xlk (xm_cd m_Mo_changeBy) 37 = some (.sipush 217, 3, (0, 0, 0, [])) := rfl
theorem l_Mo_changeBy_40 : xlk (xm_cd m_Mo_changeBy) 40 = some (.aload_n 0, 1, (0, 0, 0, [])) := rfl
theorem l_Mo_changeBy_41 : xlk (xm_cd m_Mo_changeBy) 41 = some (.getfield 51, 3, (865, 11, 16, [])) := rfl
theorem l_Mo_changeBy_44 : xlk (xm_cd m_Mo_changeBy) 44 = some (.iload_n 1, 1, (0, 0, 0, [])) := rfl
theorem l_Mo_changeBy_45 : xlk (xm_cd m_Mo_changeBy) 45 = some (.iaload, 1, (0, 0, 0, [])) := rfl
theorem l_Mo_changeBy_46 : xlk (xm_cd m_Mo_changeBy) 46 = some (.iastore, 1, (0, 0, 0, [])) := rfl
theorem l_Mo_changeBy_47 : xlk (xm_cd m_Mo_changeBy) 47 = some (.aload_n 0, 1, (0, 0, 0, [])) := rfl
theorem l_Mo_changeBy_48 : xlk (xm_cd m_Mo_changeBy) 48 = some (.getfield 54, 3, (866, 11, 17, [])) := rfl
theorem l_Mo_changeBy_51 : xlk (xm_cd m_Mo_changeBy) 51 = some (.sipush 217, 3, (0, 0, 0, [])) := rfl
theorem l_Mo_changeBy_54 : xlk (xm_cd m_Mo_changeBy) 54 = some (.aload_n 0, 1, (0, 0, 0, [])) := rfl
theorem l_Mo_changeBy_55 : xlk (xm_cd m_Mo_changeBy) 55 = some (.getfield 54, 3, (866, 11, 17, [])) := rfl
theorem l_Mo_changeBy_58 : xlk (xm_cd m_Mo_changeBy) 58 = some (.iload_n 1, 1, (0, 0, 0, [])) := rfl
theorem l_Mo_changeBy_59 : xlk (xm_cd m_Mo_changeBy) 59 = some (.iaload, 1, (0, 0, 0, [])) := rfl
theorem l_Mo_changeBy_60 : xlk (xm_cd m_Mo_changeBy) 60 = some (.iastore, 1, (0, 0, 0, [])) := rfl
theorem l_Mo_changeBy_61 : xlk (xm_cd m_Mo_changeBy) 61 = some (.aload_n 0, 1, (0, 0, 0, [])) := rfl
theorem l_Mo_changeBy_62 : xlk (xm_cd m_Mo_changeBy) 62 = some (.getfield 57, 3, (867, 11, 18, [])) := rfl
theorem l_Mo_changeBy_65 : xlk (xm_cd m_Mo_changeBy) 65 = some (.sipush 217, 3, (0, 0, 0, [])) := rfl
theorem l_Mo_changeBy_68 : xlk (xm_cd m_Mo_changeBy) 68 = some (.aload_n 0, 1, (0, 0, 0, [])) := rfl
theorem l_Mo_changeBy_69 : xlk (xm_cd m_Mo_changeBy) 69 = some (.getfield 57, 3, (867, 11, 18, [])) := rfl
theorem l_Mo_changeBy_72 : xlk (xm_cd m_Mo_changeBy) 72 = some (.iload_n 2, 1, (0, 0, 0, [])) := rfl
theorem l_Mo_changeBy_73 : xlk (xm_cd m_Mo_changeBy) 73 = some (.iaload, 1, (0, 0, 0, [])) := rfl
theorem l_Mo_changeBy_74 : xlk (xm_cd m_Mo_changeBy) 74 = some (.iastore, 1, (0, 0, 0, [])) := rfl
theorem l_Mo_changeBy_75 : xlk (xm_cd m_Mo_changeBy) 75 = some (.aload_n 0, 1, (0, 0, 0, [])) := rfl
theorem l_Mo_changeBy_76 : xlk (xm_cd m_Mo_changeBy) 76 = some (.getfield 60, 3, (868, 11, 19, [])) := rfl
theorem l_Mo_changeBy_79 : xlk (xm_cd m_Mo_changeBy) 79 = some (.sipush 217, 3, (0, 0, 0, [])) := rfl
theorem l_Mo_changeBy_82 : xlk (xm_cd m_Mo_changeBy) 82 = some (.aload_n 0, 1, (0, 0, 0, [])) := rfl
theorem l_Mo_changeBy_83 : xlk (xm_cd m_Mo_changeBy) 83 = some (.getfield 60, 3, (868, 11, 19, [])) := rfl
theorem l_Mo_changeBy_86 : xlk (xm_cd m_Mo_changeBy) 86 = some (.iload_n 2, 1, (0, 0, 0, [])) := rfl
theorem l_Mo_changeBy_87 : xlk (xm_cd m_Mo_changeBy) 87 = some (.iaload, 1, (0, 0, 0, [])) := rfl
theorem l_Mo_changeBy_88 : xlk (xm_cd m_Mo_changeBy) 88 = some (.iastore, 1, (0, 0, 0, [])) := rfl
theorem l_Mo_changeBy_89 : xlk (xm_cd m_Mo_changeBy) 89 = some (.iconst 0, 1, (0, 0, 0, [])) := rfl
theorem l_Mo_changeBy_90 : xlk (xm_cd m_Mo_changeBy) 90 = some (.istore_n 3, 1, (0, 0, 0, [])) := rfl
theorem l_Mo_changeBy_91 : xlk (xm_cd m_Mo_changeBy) 91 = some (.iload_n 3, 1, (0, 0, 0, [])) := rfl
theorem l_Mo_changeBy_92 : xlk (xm_cd m_Mo_changeBy) 92 = some (.bipush 48, 2, (0, 0, 0, [])) := rfl
theorem l_Mo_changeBy_94 : xlk (xm_cd m_Mo_changeBy) 94 = some (.if_icmp .ge 51, 3, (0, 145, 0, [])) := rfl
theorem l_Mo_changeBy_97 : xlk (xm_cd m_Mo_changeBy) 97 = some (.aload_n 0, 1, (0, 0, 0, [])) := rfl
theorem l_Mo_changeBy_98 : xlk (xm_cd m_Mo_changeBy) 98 = some (.getfield 63, 3, (869, 11, 20, [])) := rfl
theorem l_Mo_changeBy_101 : xlk (xm_cd m_Mo_changeBy) 101 = some (.sipush 10416, 3, (0, 0, 0, [])) := rfl
theorem l_Mo_changeBy_104 : xlk (xm_cd m_Mo_changeBy) 104 = some (.iload_n 3, 1, (0, 0, 0, [])) := rfl
theorem l_Mo_changeBy_105 : xlk (xm_cd m_Mo_changeBy) 105 = some (.iadd, 1, (0, 0, 0, [])) := rfl
theorem l_Mo_changeBy_106 : xlk (xm_cd m_Mo_changeBy) 106 = some (.aload_n 0, 1, (0, 0, 0, [])) := rfl
theorem l_Mo_changeBy_107 : xlk (xm_cd m_Mo_changeBy) 107 = some (.getfield 63, 3, (869, 11, 20, [])) := rfl
theorem l_Mo_changeBy_110 : xlk (xm_cd m_Mo_changeBy) 110 = some (.bipush 48, 2, (0, 0, 0, [])) := rfl
theorem l_Mo_changeBy_112 : xlk (xm_cd m_Mo_changeBy) 112 = some (.iload_n 2, 1, (0, 0, 0, [])) := rfl
theorem l_Mo_changeBy_113 : xlk (xm_cd m_Mo_changeBy) 113 = some (.imul, 1, (0, 0, 0, [])) := rfl
theorem l_Mo_changeBy_114 : xlk (xm_cd m_Mo_changeBy) 114 = some (.iload_n 3, 1, (0, 0, 0, [])) := rfl
theorem l_Mo_changeBy_115 : xlk (xm_cd m_Mo_changeBy) 115 = some (.iadd, 1, (0, 0, 0, [])) := rfl
theorem l_Mo_changeBy_116 : xlk (xm_cd m_Mo_changeBy) 116 = some (.iaload, 1, (0, 0, 0, [])) := rfl
theorem l_Mo_changeBy_117 : xlk (xm_cd m_Mo_changeBy) 117 = some (.iastore, 1, (0, 0, 0, [])) := rfl
theorem l_Mo_changeBy_118 : xlk (xm_cd m_Mo_changeBy) 118 = some (.aload_n 0, 1, (0, 0, 0, [])) := rfl
theorem l_Mo_changeBy_119 : xlk (xm_cd m_Mo_changeBy) 119 = some (.getfield 66, 3, (870, 11, 21, [])) := rfl
theorem l_Mo_changeBy_122 : xlk (xm_cd m_Mo_changeBy) 122 = some (.sipush 10416, 3, (0, 0, 0, [])) := rfl
theorem l_Mo_changeBy_125 : xlk (xm_cd m_Mo_changeBy) 125 = some (.iload_n 3, 1, (0, 0, 0, [])) := rfl
theorem l_Mo_changeBy_126 : xlk (xm_cd m_Mo_changeBy) 126 = some (.iadd, 1, (0, 0, 0, [])) := rfl
theorem l_Mo_changeBy_127 : xlk (xm_cd m_Mo_changeBy) 127 = some (.aload_n 0, 1, (0, 0, 0, [])) := rfl
theorem l_Mo_changeBy_128 : xlk (xm_cd m_Mo_changeBy) 128 = some (.getfield 66, 3, (870, 11, 21, [])) := rfl
theorem l_Mo_changeBy_131 : xlk (xm_cd m_Mo_changeBy) 131 = some (.bipush 48, 2, (0, 0, 0, [])) := rfl
theorem l_Mo_changeBy_133 : xlk (xm_cd m_Mo_changeBy) 133 = some (.iload_n 1, 1, (0, 0, 0, [])) := rfl
set_option maxRecDepth 20000 in
theorem l_Mo_changeBy_134 : xlk (xm_cd m_Mo_changeBy) 134 = some (.imul, 1, (0, 0, 0, [])) := rfl
set_option maxRecDepth 20000 in
theorem l_Mo_changeBy_135 : xlk (xm_cd m_Mo_changeBy) 135 = some (.iload_n 3, 1, (0, 0, 0, [])) := rfl
set_option maxRecDepth 20000 in
theorem l_Mo_changeBy_136 : xlk (xm_cd m_Mo_changeBy) 136 = some (.iadd, 1, (0, 0, 0, [])) := rfl
set_option maxRecDepth 20000 in
theorem l_Mo_changeBy_137 : xlk (xm_cd m_Mo_changeBy) 137 = some (.iaload, 1, (0, 0, 0, [])) := rfl
set_option maxRecDepth 20000 in
theorem l_Mo_changeBy_138 : xlk (xm_cd m_Mo_changeBy) 138 = some (.iastore, 1, (0, 0, 0, [])) := rfl
set_option maxRecDepth 20000 in
theorem l_Mo_changeBy_139 : xlk (xm_cd m_Mo_changeBy) 139 = some (.iinc 3 1, 3, (0, 0, 0, [])) := rfl
set_option maxRecDepth 20000 in
theorem l_Mo_changeBy_142 : xlk (xm_cd m_Mo_changeBy) 142 = some (.goto (-51), 3, (0, 91, 0, [])) := rfl
set_option maxRecDepth 20000 in
theorem l_Mo_changeBy_145 : xlk (xm_cd m_Mo_changeBy) 145 = some (.return_, 1, (0, 0, 0, [])) := rfl
def B_Mo_changeBy_0 (d : Nat) (E : Option Value → xH → Prop) (f : xH) (a0 : Nat) (x1 : Int32) (x2 : Int32) : Prop :=
  xgr f a0 11 14 (fun r1 => xgr f a0 11 15 (fun r2 => xal f r2 0 x1 (fun v3 => xgr f a0 11 12 (fun r4 => xgr f a0 11 13 (fun r5 => xal f r5 0 x2 (fun v6 => (∃ fs, f a0 = some (xO 11 fs)) ∧ xSp xT0 d j_Mo_nameSpare [.ref a0, .int 2, .ref r1, .int (18 * x1), .int v3, .ref r4, .int (18 * x2), .int v6] f (fun w7 f8 => xvv w7 (xgr f8 a0 11 16 (fun r9 => xgr f8 a0 11 16 (fun r10 => xal f8 r10 0 x1 (fun v11 => xas f8 r9 0 217 v11 (fun f12 => xgr f12 a0 11 17 (fun r13 => xgr f12 a0 11 17 (fun r14 => xal f12 r14 0 x1 (fun v15 => xas f12 r13 0 217 v15 (fun f16 => xgr f16 a0 11 18 (fun r17 => xgr f16 a0 11 18 (fun r18 => xal f16 r18 0 x2 (fun v19 => xas f16 r17 0 217 v19 (fun f20 => xgr f20 a0 11 19 (fun r21 => xgr f20 a0 11 19 (fun r22 => xal f20 r22 0 x2 (fun v23 => xas f20 r21 0 217 v23 (fun f24 => xWp (xT0, xSp xT0 d, none, m_Mo_changeBy, E) 91 [some (.ref a0), some (.int x1), some (.int x2), some (.int 0)] [] f24 0 0))))))))))))))))))))))))
theorem b_Mo_changeBy_0 {d : Nat} {E : Option Value → xH → Prop} {f : xH} {a0 : Nat} {x1 : Int32} {x2 : Int32} (h : B_Mo_changeBy_0 d E f a0 x1 x2) : xWp (xT0, xSp xT0 d, none, m_Mo_changeBy, E) 0 [some (.ref a0), some (.int x1), some (.int x2), none] [] f 0 0 := by
  unfold B_Mo_changeBy_0 at h
  refine s_aln l_Mo_changeBy_0 rfl ?_
  refine s_ic 2 l_Mo_changeBy_1 rfl ?_
  refine s_aln l_Mo_changeBy_2 rfl ?_
  refine s_gr l_Mo_changeBy_3 h (fun r1 h => ?_)
  refine s_bp 18 l_Mo_changeBy_6 rfl ?_
  refine s_iln l_Mo_changeBy_8 rfl ?_
  refine s_imul l_Mo_changeBy_9 ?_
  refine s_aln l_Mo_changeBy_10 rfl ?_
  refine s_gr l_Mo_changeBy_11 h (fun r2 h => ?_)
  refine s_iln l_Mo_changeBy_14 rfl ?_
  refine s_ial l_Mo_changeBy_15 rfl h (fun v3 h => ?_)
  refine s_aln l_Mo_changeBy_16 rfl ?_
  refine s_gr l_Mo_changeBy_17 h (fun r4 h => ?_)
  refine s_bp 18 l_Mo_changeBy_20 rfl ?_
  refine s_iln l_Mo_changeBy_22 rfl ?_
  refine s_imul l_Mo_changeBy_23 ?_
  refine s_aln l_Mo_changeBy_24 rfl ?_
  refine s_gr l_Mo_changeBy_25 h (fun r5 h => ?_)
  refine s_iln l_Mo_changeBy_28 rfl ?_
  refine s_ial l_Mo_changeBy_29 rfl h (fun v6 h => ?_)
  refine s_cvv (As := [.int 2, .ref r1, .int (18 * x1), .int v3, .ref r4, .int (18 * x2), .int v6]) (r := []) l_Mo_changeBy_30 rfl ⟨rfl, rfl⟩ rfl (Nat.le_of_ble_eq_true rfl) rfl ⟨Nat.zero_le _, Nat.zero_le _⟩ h (fun f8 h => ?_)
  refine s_aln l_Mo_changeBy_33 rfl ?_
  refine s_gr l_Mo_changeBy_34 h (fun r9 h => ?_)
  refine s_sp 217 l_Mo_changeBy_37 rfl ?_
  refine s_aln l_Mo_changeBy_40 rfl ?_
  refine s_gr l_Mo_changeBy_41 h (fun r10 h => ?_)
  refine s_iln l_Mo_changeBy_44 rfl ?_
  refine s_ial l_Mo_changeBy_45 rfl h (fun v11 h => ?_)
  refine s_iast l_Mo_changeBy_46 h (fun f12 h => ?_)
  refine s_aln l_Mo_changeBy_47 rfl ?_
  refine s_gr l_Mo_changeBy_48 h (fun r13 h => ?_)
  refine s_sp 217 l_Mo_changeBy_51 rfl ?_
  refine s_aln l_Mo_changeBy_54 rfl ?_
  refine s_gr l_Mo_changeBy_55 h (fun r14 h => ?_)
  refine s_iln l_Mo_changeBy_58 rfl ?_
  refine s_ial l_Mo_changeBy_59 rfl h (fun v15 h => ?_)
  refine s_iast l_Mo_changeBy_60 h (fun f16 h => ?_)
  refine s_aln l_Mo_changeBy_61 rfl ?_
  refine s_gr l_Mo_changeBy_62 h (fun r17 h => ?_)
  refine s_sp 217 l_Mo_changeBy_65 rfl ?_
  refine s_aln l_Mo_changeBy_68 rfl ?_
  refine s_gr l_Mo_changeBy_69 h (fun r18 h => ?_)
  refine s_iln l_Mo_changeBy_72 rfl ?_
  refine s_ial l_Mo_changeBy_73 rfl h (fun v19 h => ?_)
  refine s_iast l_Mo_changeBy_74 h (fun f20 h => ?_)
  refine s_aln l_Mo_changeBy_75 rfl ?_
  refine s_gr l_Mo_changeBy_76 h (fun r21 h => ?_)
  refine s_sp 217 l_Mo_changeBy_79 rfl ?_
  refine s_aln l_Mo_changeBy_82 rfl ?_
  refine s_gr l_Mo_changeBy_83 h (fun r22 h => ?_)
  refine s_iln l_Mo_changeBy_86 rfl ?_
  refine s_ial l_Mo_changeBy_87 rfl h (fun v23 h => ?_)
  refine s_iast l_Mo_changeBy_88 h (fun f24 h => ?_)
  refine s_ic 0 l_Mo_changeBy_89 rfl ?_
  refine s_isn l_Mo_changeBy_90 (Nat.le_of_ble_eq_true rfl) ?_
  exact h
def B_Mo_changeBy_91 (d : Nat) (E : Option Value → xH → Prop) (f : xH) (a0 : Nat) (x1 : Int32) (x2 : Int32) (x3 : Int32) : Prop :=
  xbr ((48 : Int32) ≤ x3) (E none f) (xgr f a0 11 20 (fun r1 => xgr f a0 11 20 (fun r2 => xal f r2 0 ((48 * x2) + x3) (fun v3 => xas f r1 0 (10416 + x3) v3 (fun f4 => xgr f4 a0 11 21 (fun r5 => xgr f4 a0 11 21 (fun r6 => xal f4 r6 0 ((48 * x1) + x3) (fun v7 => xas f4 r5 0 (10416 + x3) v7 (fun f8 => xWp (xT0, xSp xT0 d, none, m_Mo_changeBy, E) 91 [some (.ref a0), some (.int x1), some (.int x2), some (.int (x3 + 1))] [] f8 0 0)))))))))
theorem b_Mo_changeBy_91 {d : Nat} {E : Option Value → xH → Prop} {f : xH} {a0 : Nat} {x1 : Int32} {x2 : Int32} {x3 : Int32} (h : B_Mo_changeBy_91 d E f a0 x1 x2 x3) : xWp (xT0, xSp xT0 d, none, m_Mo_changeBy, E) 91 [some (.ref a0), some (.int x1), some (.int x2), some (.int x3)] [] f 0 0 := by
  unfold B_Mo_changeBy_91 at h
  refine s_iln l_Mo_changeBy_91 rfl ?_
  refine s_bp 48 l_Mo_changeBy_92 rfl ?_
  refine s_ifc l_Mo_changeBy_94 h (fun h => ?_) (fun h => ?_)
  · exact s_ret l_Mo_changeBy_145 ⟨Nat.zero_le _, Nat.zero_le _⟩ h
  · refine s_aln l_Mo_changeBy_97 rfl ?_
    refine s_gr l_Mo_changeBy_98 h (fun r1 h => ?_)
    refine s_sp 10416 l_Mo_changeBy_101 rfl ?_
    refine s_iln l_Mo_changeBy_104 rfl ?_
    refine s_iadd l_Mo_changeBy_105 ?_
    refine s_aln l_Mo_changeBy_106 rfl ?_
    refine s_gr l_Mo_changeBy_107 h (fun r2 h => ?_)
    refine s_bp 48 l_Mo_changeBy_110 rfl ?_
    refine s_iln l_Mo_changeBy_112 rfl ?_
    refine s_imul l_Mo_changeBy_113 ?_
    refine s_iln l_Mo_changeBy_114 rfl ?_
    refine s_iadd l_Mo_changeBy_115 ?_
    refine s_ial l_Mo_changeBy_116 rfl h (fun v3 h => ?_)
    refine s_iast l_Mo_changeBy_117 h (fun f4 h => ?_)
    refine s_aln l_Mo_changeBy_118 rfl ?_
    refine s_gr l_Mo_changeBy_119 h (fun r5 h => ?_)
    refine s_sp 10416 l_Mo_changeBy_122 rfl ?_
    refine s_iln l_Mo_changeBy_125 rfl ?_
    refine s_iadd l_Mo_changeBy_126 ?_
    refine s_aln l_Mo_changeBy_127 rfl ?_
    refine s_gr l_Mo_changeBy_128 h (fun r6 h => ?_)
    refine s_bp 48 l_Mo_changeBy_131 rfl ?_
    refine s_iln l_Mo_changeBy_133 rfl ?_
    refine s_imul l_Mo_changeBy_134 ?_
    refine s_iln l_Mo_changeBy_135 rfl ?_
    refine s_iadd l_Mo_changeBy_136 ?_
    refine s_ial l_Mo_changeBy_137 rfl h (fun v7 h => ?_)
    refine s_iast l_Mo_changeBy_138 h (fun f8 h => ?_)
    refine s_inc 1 l_Mo_changeBy_139 rfl rfl ?_
    refine s_goto l_Mo_changeBy_142 ?_
    exact h
theorem l_Mo_power_0 : xlk (xm_cd m_Mo_power) 0 = some (.aload_n 0, 1, (0, 0, 0, [])) := rfl
theorem l_Mo_power_1 : xlk (xm_cd m_Mo_power) 1 = some (.iconst 0, 1, (0, 0, 0, [])) := rfl
theorem l_Mo_power_2 : xlk (xm_cd m_Mo_power) 2 = some (.putfield 1, 3, (849, 11, 0, [(0, 0)])) := rfl
theorem l_Mo_power_5 : xlk (xm_cd m_Mo_power) 5 = some (.iload_n 1, 1, (0, 0, 0, [])) := rfl
theorem l_Mo_power_6 : xlk (xm_cd m_Mo_power) 6 = some (.i2l, 1, (0, 0, 0, [])) := rfl
theorem l_Mo_power_7 : xlk (xm_cd m_Mo_power) 7 = some (.ldc2_w 330, 3, (1171, 0, 0, [(-1, 0)])) := rfl
theorem l_Mo_power_10 : xlk (xm_cd m_Mo_power) 10 = some (.ldc2_w 332, 3, (1172, 0, 0, [(40, 0)])) := rfl
theorem l_Mo_power_13 : xlk (xm_cd m_Mo_power) 13 = some (.invokestatic 132, 3, (955, 0, 0, [(2, 2)])) := rfl
theorem l_Mo_power_16 : xlk (xm_cd m_Mo_power) 16 = some (.ifCond .ne 5, 3, (0, 21, 0, [])) := rfl
theorem l_Mo_power_19 : xlk (xm_cd m_Mo_power) 19 = some (.iconst (-1), 1, (0, 0, 0, [])) := rfl
theorem l_Mo_power_20 : xlk (xm_cd m_Mo_power) 20 = some (.ireturn, 1, (0, 0, 0, [])) := rfl
theorem l_Mo_power_21 : xlk (xm_cd m_Mo_power) 21 = some (.aload_n 0, 1, (0, 0, 0, [])) := rfl
theorem l_Mo_power_22 : xlk (xm_cd m_Mo_power) 22 = some (.getfield 334, 3, (894, 11, 45, [])) := rfl
theorem l_Mo_power_25 : xlk (xm_cd m_Mo_power) 25 = some (.ifCond .eq 6, 3, (0, 31, 0, [])) := rfl
theorem l_Mo_power_28 : xlk (xm_cd m_Mo_power) 28 = some (.bipush (-4), 2, (0, 0, 0, [])) := rfl
theorem l_Mo_power_30 : xlk (xm_cd m_Mo_power) 30 = some (.ireturn, 1, (0, 0, 0, [])) := rfl
theorem l_Mo_power_31 : xlk (xm_cd m_Mo_power) 31 = some (.aload_n 0, 1, (0, 0, 0, [])) := rfl
theorem l_Mo_power_32 : xlk (xm_cd m_Mo_power) 32 = some (.iload_n 1, 1, (0, 0, 0, [])) := rfl
theorem l_Mo_power_33 : xlk (xm_cd m_Mo_power) 33 = some (.putfield 121, 3, (893, 11, 44, [(0, 0)])) := rfl
theorem l_Mo_power_36 : xlk (xm_cd m_Mo_power) 36 = some (.iconst 1, 1, (0, 0, 0, [])) := rfl
theorem l_Mo_power_37 : xlk (xm_cd m_Mo_power) 37 = some (.ireturn, 1, (0, 0, 0, [])) := rfl
def B_Mo_power_0 (d : Nat) (E : Option Value → xH → Prop) (f : xH) (a0 : Nat) (x1 : Int32) : Prop :=
  xpf f a0 11 0 (.int 0) (fun f1 => xbr (¬ (if (-1) ≤ x1.toInt64 ∧ x1.toInt64 ≤ 40 then (1 : Int32) else 0) = 0) (xgi f1 a0 11 45 (fun v2 => xbr (v2 = 0) (xpf f1 a0 11 44 (.int x1) (fun f3 => E (some (.int 1)) f3)) (E (some (.int (-4))) f1))) (E (some (.int (-1))) f1))
theorem b_Mo_power_0 {d : Nat} {E : Option Value → xH → Prop} {f : xH} {a0 : Nat} {x1 : Int32} (h : B_Mo_power_0 d E f a0 x1) : xWp (xT0, xSp xT0 d, none, m_Mo_power, E) 0 [some (.ref a0), some (.int x1)] [] f 0 0 := by
  unfold B_Mo_power_0 at h
  refine s_aln l_Mo_power_0 rfl ?_
  refine s_ic 0 l_Mo_power_1 rfl ?_
  refine s_pf l_Mo_power_2 ⟨_, rfl⟩ h (fun f1 h => ?_)
  refine s_iln l_Mo_power_5 rfl ?_
  refine s_i2l l_Mo_power_6 ?_
  refine s_ldc2 (-1) l_Mo_power_7 rfl ?_
  refine s_ldc2 40 l_Mo_power_10 rfl ?_
  refine s_in l_Mo_power_13 (Nat.le_of_ble_eq_true rfl) ⟨Nat.zero_le _, Nat.zero_le _⟩ ?_
  refine s_if l_Mo_power_16 h (fun h => ?_) (fun h => ?_)
  · refine s_aln l_Mo_power_21 rfl ?_
    refine s_gi l_Mo_power_22 h (fun v2 h => ?_)
    refine s_if l_Mo_power_25 h (fun h => ?_) (fun h => ?_)
    · refine s_aln l_Mo_power_31 rfl ?_
      refine s_iln l_Mo_power_32 rfl ?_
      refine s_pf l_Mo_power_33 ⟨_, rfl⟩ h (fun f3 h => ?_)
      refine s_ic 1 l_Mo_power_36 rfl ?_
      exact s_iret l_Mo_power_37 rfl ⟨Nat.zero_le _, Nat.zero_le _⟩ h
    · refine s_bp (-4) l_Mo_power_28 rfl ?_
      exact s_iret l_Mo_power_30 rfl ⟨Nat.zero_le _, Nat.zero_le _⟩ h
  · refine s_ic (-1) l_Mo_power_19 rfl ?_
    exact s_iret l_Mo_power_20 rfl ⟨Nat.zero_le _, Nat.zero_le _⟩ h
