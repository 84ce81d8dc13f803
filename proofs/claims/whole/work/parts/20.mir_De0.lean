/-! blocks of De, 0 -/
theorem l_De_becomeWhole_0 : xlk (xm_cd m_De_becomeWhole) 0 = some (.aload_n 0, 1, (0, 0, 0, [])) := rfl
theorem l_De_becomeWhole_1 : xlk (xm_cd m_De_becomeWhole) 1 = some (.iconst 0, 1, (0, 0, 0, [])) := rfl
theorem l_De_becomeWhole_2 : xlk (xm_cd m_De_becomeWhole) 2 = some (.putfield 15, 3, (148, 3, 1, [(0, 0)])) := rfl
theorem l_De_becomeWhole_5 : xlk (xm_cd m_De_becomeWhole) 5 = some (.iconst 0, 1, (0, 0, 0, [])) := rfl
theorem l_De_becomeWhole_6 : xlk (xm_cd m_De_becomeWhole) 6 = some (.istore_n 2, 1, (0, 0, 0, [])) := rfl
theorem l_De_becomeWhole_7 : xlk (xm_cd m_De_becomeWhole) 7 = some (.iload_n 2, 1, (0, 0, 0, [])) := rfl
theorem l_De_becomeWhole_8 : xlk (xm_cd m_De_becomeWhole) 8 = some (.iload_n 1, 1, (0, 0, 0, [])) := rfl
theorem l_De_becomeWhole_9 : xlk (xm_cd m_De_becomeWhole) 9 = some (.if_icmp .ge 14, 3, (0, 23, 0, [])) := rfl
theorem l_De_becomeWhole_12 : xlk (xm_cd m_De_becomeWhole) 12 = some (.aload_n 0, 1, (0, 0, 0, [])) := rfl
theorem l_De_becomeWhole_13 : xlk (xm_cd m_De_becomeWhole) 13 = some (.iload_n 2, 1, (0, 0, 0, [])) := rfl
theorem l_De_becomeWhole_14 : xlk (xm_cd m_De_becomeWhole) 14 = some (.invokevirtual 23, 3, (475, 57, 1, [])) := rfl
theorem l_De_becomeWhole_17 : xlk (xm_cd m_De_becomeWhole) 17 = some (.iinc 2 1, 3, (0, 0, 0, [])) := rfl
theorem l_De_becomeWhole_20 : xlk (xm_cd m_De_becomeWhole) 20 = some (.goto (-13), 3, (0, 7, 0, [])) := rfl
theorem l_De_becomeWhole_23 : xlk (xm_cd m_De_becomeWhole) 23 = some (.return_, 1, (0, 0, 0, [])) := rfl
def B_De_becomeWhole_0 (d : Nat) (E : Option Value → xH → Prop) (f : xH) (a0 : Nat) (x1 : Int32) : Prop :=
  xpf f a0 3 1 (.int 0) (fun f1 => xWp (xT0, xSp xT0 d, none, m_De_becomeWhole, E) 7 [some (.ref a0), some (.int x1), some (.int 0)] [] f1 0 0)
theorem b_De_becomeWhole_0 {d : Nat} {E : Option Value → xH → Prop} {f : xH} {a0 : Nat} {x1 : Int32} (h : B_De_becomeWhole_0 d E f a0 x1) : xWp (xT0, xSp xT0 d, none, m_De_becomeWhole, E) 0 [some (.ref a0), some (.int x1), none] [] f 0 0 := by
  unfold B_De_becomeWhole_0 at h
  refine s_aln l_De_becomeWhole_0 rfl ?_
  refine s_ic 0 l_De_becomeWhole_1 rfl ?_
  refine s_pf l_De_becomeWhole_2 ⟨_, rfl⟩ h (fun f1 h => ?_)
  refine s_ic 0 l_De_becomeWhole_5 rfl ?_
  refine s_isn l_De_becomeWhole_6 (Nat.le_of_ble_eq_true rfl) ?_
  exact h
def B_De_becomeWhole_7 (d : Nat) (E : Option Value → xH → Prop) (f : xH) (a0 : Nat) (x1 : Int32) (x2 : Int32) : Prop :=
  xbr (x1 ≤ x2) (E none f) ((∃ fs, f a0 = some (xO 3 fs)) ∧ xSp xT0 d j_De_addPlace [.ref a0, .int x2] f (fun w1 f2 => xvv w1 (xWp (xT0, xSp xT0 d, none, m_De_becomeWhole, E) 7 [some (.ref a0), some (.int x1), some (.int (x2 + 1))] [] f2 0 0)))
theorem b_De_becomeWhole_7 {d : Nat} {E : Option Value → xH → Prop} {f : xH} {a0 : Nat} {x1 : Int32} {x2 : Int32} (h : B_De_becomeWhole_7 d E f a0 x1 x2) : xWp (xT0, xSp xT0 d, none, m_De_becomeWhole, E) 7 [some (.ref a0), some (.int x1), some (.int x2)] [] f 0 0 := by
  unfold B_De_becomeWhole_7 at h
  refine s_iln l_De_becomeWhole_7 rfl ?_
  refine s_iln l_De_becomeWhole_8 rfl ?_
  refine s_ifc l_De_becomeWhole_9 h (fun h => ?_) (fun h => ?_)
  · exact s_ret l_De_becomeWhole_23 ⟨Nat.zero_le _, Nat.zero_le _⟩ h
  · refine s_aln l_De_becomeWhole_12 rfl ?_
    refine s_iln l_De_becomeWhole_13 rfl ?_
    refine s_cvv (As := [.int x2]) (r := []) l_De_becomeWhole_14 rfl ⟨rfl, rfl⟩ rfl (Nat.le_of_ble_eq_true rfl) rfl ⟨Nat.zero_le _, Nat.zero_le _⟩ h (fun f2 h => ?_)
    refine s_inc 1 l_De_becomeWhole_17 rfl rfl ?_
    refine s_goto l_De_becomeWhole_20 ?_
    exact h
theorem l_De_addPlace_0 : xlk (xm_cd m_De_addPlace) 0 = some (.aload_n 0, 1, (0, 0, 0, [])) := rfl
theorem l_De_addPlace_1 : xlk (xm_cd m_De_addPlace) 1 = some (.iload_n 1, 1, (0, 0, 0, [])) := rfl
theorem l_De_addPlace_2 : xlk (xm_cd m_De_addPlace) 2 = some (.invokevirtual 19, 3, (479, 58, 1, [])) := rfl
theorem l_De_addPlace_5 : xlk (xm_cd m_De_addPlace) 5 = some (.return_, 1, (0, 0, 0, [])) := rfl
def B_De_addPlace_0 (d : Nat) (E : Option Value → xH → Prop) (f : xH) (a0 : Nat) (x1 : Int32) : Prop :=
  (∃ fs, f a0 = some (xO 3 fs)) ∧ xSp xT0 d j_De_addOrigin [.ref a0, .int x1] f (fun w1 f2 => xvv w1 (E none f2))
theorem b_De_addPlace_0 {d : Nat} {E : Option Value → xH → Prop} {f : xH} {a0 : Nat} {x1 : Int32} (h : B_De_addPlace_0 d E f a0 x1) : xWp (xT0, xSp xT0 d, none, m_De_addPlace, E) 0 [some (.ref a0), some (.int x1)] [] f 0 0 := by
  unfold B_De_addPlace_0 at h
  refine s_aln l_De_addPlace_0 rfl ?_
  refine s_iln l_De_addPlace_1 rfl ?_
  refine s_cvv (As := [.int x1]) (r := []) l_De_addPlace_2 rfl ⟨rfl, rfl⟩ rfl (Nat.le_of_ble_eq_true rfl) rfl ⟨Nat.zero_le _, Nat.zero_le _⟩ h (fun f2 h => ?_)
  exact s_ret l_De_addPlace_5 ⟨Nat.zero_le _, Nat.zero_le _⟩ h
theorem l_De_addOrigin_0 : xlk (xm_cd m_De_addOrigin) 0 = some (.aload_n 0, 1, (0, 0, 0, [])) := rfl
theorem l_De_addOrigin_1 : xlk (xm_cd m_De_addOrigin) 1 = some (.getfield 15, 3, (148, 3, 1, [])) := rfl
theorem l_De_addOrigin_4 : xlk (xm_cd m_De_addOrigin) 4 = some (.aload_n 0, 1, (0, 0, 0, [])) := rfl
theorem l_De_addOrigin_5 : xlk (xm_cd m_De_addOrigin) 5 = some (.getfield 9, 3, (147, 3, 0, [])) := rfl
theorem l_De_addOrigin_8 : xlk (xm_cd m_De_addOrigin) 8 = some (.arraylength, 1, (0, 0, 0, [])) := rfl
theorem l_De_addOrigin_9 : xlk (xm_cd m_De_addOrigin) 9 = some (.if_icmp .ge 23, 3, (0, 32, 0, [])) := rfl
theorem l_De_addOrigin_12 : xlk (xm_cd m_De_addOrigin) 12 = some (.aload_n 0, 1, (0, 0, 0, [])) := rfl
theorem l_De_addOrigin_13 : xlk (xm_cd m_De_addOrigin) 13 = some (.getfield 9, 3, (147, 3, 0, [])) := rfl
theorem l_De_addOrigin_16 : xlk (xm_cd m_De_addOrigin) 16 = some (.aload_n 0, 1, (0, 0, 0, [])) := rfl
theorem l_De_addOrigin_17 : xlk (xm_cd m_De_addOrigin) 17 = some (.getfield 15, 3, (148, 3, 1, [])) := rfl
theorem l_De_addOrigin_20 : xlk (xm_cd m_De_addOrigin) 20 = some (.iload_n 1, 1, (0, 0, 0, [])) := rfl
theorem l_De_addOrigin_21 : xlk (xm_cd m_De_addOrigin) 21 = some (.iastore, 1, (0, 0, 0, [])) := rfl
theorem l_De_addOrigin_22 : xlk (xm_cd m_De_addOrigin) 22 = some (.aload_n 0, 1, (0, 0, 0, [])) := rfl
theorem l_De_addOrigin_23 : xlk (xm_cd m_De_addOrigin) 23 = some (.dup, 1, (0, 0, 0, [])) := rfl
theorem l_De_addOrigin_24 : xlk (xm_cd m_De_addOrigin) 24 = some (.getfield 15, 3, (148, 3, 1, [])) := rfl
theorem l_De_addOrigin_27 : xlk (xm_cd m_De_addOrigin) 27 = some (.iconst 1, 1, (0, 0, 0, [])) := rfl
theorem l_De_addOrigin_28 : xlk (xm_cd m_De_addOrigin) 28 = some (.iadd, 1, (0, 0, 0, [])) := rfl
theorem l_De_addOrigin_29 : xlk (xm_cd m_De_addOrigin) 29 = some (.putfield 15, 3, (148, 3, 1, [(0, 0)])) := rfl
theorem l_De_addOrigin_32 : xlk (xm_cd m_De_addOrigin) 32 = some (.return_, 1, (0, 0, 0, [])) := rfl
def B_De_addOrigin_0 (d : Nat) (E : Option Value → xH → Prop) (f : xH) (a0 : Nat) (x1 : Int32) : Prop :=
  xgi f a0 3 1 (fun v1 => xgr f a0 3 0 (fun r2 => xle f r2 0 (fun v3 => xbr (v3 ≤ v1) (E none f) (xgr f a0 3 0 (fun r4 => xgi f a0 3 1 (fun v5 => xas f r4 0 v5 x1 (fun f6 => xgi f6 a0 3 1 (fun v7 => xpf f6 a0 3 1 (.int (v7 + 1)) (fun f8 => E none f8)))))))))
theorem b_De_addOrigin_0 {d : Nat} {E : Option Value → xH → Prop} {f : xH} {a0 : Nat} {x1 : Int32} (h : B_De_addOrigin_0 d E f a0 x1) : xWp (xT0, xSp xT0 d, none, m_De_addOrigin, E) 0 [some (.ref a0), some (.int x1)] [] f 0 0 := by
  unfold B_De_addOrigin_0 at h
  refine s_aln l_De_addOrigin_0 rfl ?_
  refine s_gi l_De_addOrigin_1 h (fun v1 h => ?_)
  refine s_aln l_De_addOrigin_4 rfl ?_
  refine s_gr l_De_addOrigin_5 h (fun r2 h => ?_)
  refine s_len l_De_addOrigin_8 rfl h (fun v3 h => ?_)
  refine s_ifc l_De_addOrigin_9 h (fun h => ?_) (fun h => ?_)
  · exact s_ret l_De_addOrigin_32 ⟨Nat.zero_le _, Nat.zero_le _⟩ h
  · refine s_aln l_De_addOrigin_12 rfl ?_
    refine s_gr l_De_addOrigin_13 h (fun r4 h => ?_)
    refine s_aln l_De_addOrigin_16 rfl ?_
    refine s_gi l_De_addOrigin_17 h (fun v5 h => ?_)
    refine s_iln l_De_addOrigin_20 rfl ?_
    refine s_iast l_De_addOrigin_21 h (fun f6 h => ?_)
    refine s_aln l_De_addOrigin_22 rfl ?_
    refine s_dup l_De_addOrigin_23 rfl ?_
    refine s_gi l_De_addOrigin_24 h (fun v7 h => ?_)
    refine s_ic 1 l_De_addOrigin_27 rfl ?_
    refine s_iadd l_De_addOrigin_28 ?_
    refine s_pf l_De_addOrigin_29 ⟨_, rfl⟩ h (fun f8 h => ?_)
    exact s_ret l_De_addOrigin_32 ⟨Nat.zero_le _, Nat.zero_le _⟩ h
theorem l_De_empty_0 : xlk (xm_cd m_De_empty) 0 = some (.aload_n 0, 1, (0, 0, 0, [])) := rfl
theorem l_De_empty_1 : xlk (xm_cd m_De_empty) 1 = some (.iconst 0, 1, (0, 0, 0, [])) := rfl
theorem l_De_empty_2 : xlk (xm_cd m_De_empty) 2 = some (.putfield 15, 3, (148, 3, 1, [(0, 0)])) := rfl
theorem l_De_empty_5 : xlk (xm_cd m_De_empty) 5 = some (.return_, 1, (0, 0, 0, [])) := rfl
def B_De_empty_0 (d : Nat) (E : Option Value → xH → Prop) (f : xH) (a0 : Nat) : Prop :=
  xpf f a0 3 1 (.int 0) (fun f1 => E none f1)
theorem b_De_empty_0 {d : Nat} {E : Option Value → xH → Prop} {f : xH} {a0 : Nat} (h : B_De_empty_0 d E f a0) : xWp (xT0, xSp xT0 d, none, m_De_empty, E) 0 [some (.ref a0)] [] f 0 0 := by
  unfold B_De_empty_0 at h
  refine s_aln l_De_empty_0 rfl ?_
  refine s_ic 0 l_De_empty_1 rfl ?_
  refine s_pf l_De_empty_2 ⟨_, rfl⟩ h (fun f1 h => ?_)
  exact s_ret l_De_empty_5 ⟨Nat.zero_le _, Nat.zero_le _⟩ h
theorem l_De_addTold_0 : xlk (xm_cd m_De_addTold) 0 = some (.aload_n 0, 1, (0, 0, 0, [])) := rfl
theorem l_De_addTold_1 : xlk (xm_cd m_De_addTold) 1 = some (.iload_n 1, 1, (0, 0, 0, [])) := rfl
theorem l_De_addTold_2 : xlk (xm_cd m_De_addTold) 2 = some (.iconst (-1), 1, (0, 0, 0, [])) := rfl
theorem l_De_addTold_3 : xlk (xm_cd m_De_addTold) 3 = some (.ixor, 1, (0, 0, 0, [])) := rfl
theorem l_De_addTold_4 : xlk (xm_cd m_De_addTold) 4 = some (.invokevirtual 19, 3, (479, 58, 1, [])) := rfl
theorem l_De_addTold_7 : xlk (xm_cd m_De_addTold) 7 = some (.return_, 1, (0, 0, 0, [])) := rfl
def B_De_addTold_0 (d : Nat) (E : Option Value → xH → Prop) (f : xH) (a0 : Nat) (x1 : Int32) : Prop :=
  (∃ fs, f a0 = some (xO 3 fs)) ∧ xSp xT0 d j_De_addOrigin [.ref a0, .int (x1 ^^^ (-1))] f (fun w1 f2 => xvv w1 (E none f2))
theorem b_De_addTold_0 {d : Nat} {E : Option Value → xH → Prop} {f : xH} {a0 : Nat} {x1 : Int32} (h : B_De_addTold_0 d E f a0 x1) : xWp (xT0, xSp xT0 d, none, m_De_addTold, E) 0 [some (.ref a0), some (.int x1)] [] f 0 0 := by
  unfold B_De_addTold_0 at h
  refine s_aln l_De_addTold_0 rfl ?_
  refine s_iln l_De_addTold_1 rfl ?_
  refine s_ic (-1) l_De_addTold_2 rfl ?_
  refine s_ixor l_De_addTold_3 ?_
  refine s_cvv (As := [.int (x1 ^^^ (-1))]) (r := []) l_De_addTold_4 rfl ⟨rfl, rfl⟩ rfl (Nat.le_of_ble_eq_true rfl) rfl ⟨Nat.zero_le _, Nat.zero_le _⟩ h (fun f2 h => ?_)
  exact s_ret l_De_addTold_7 ⟨Nat.zero_le _, Nat.zero_le _⟩ h
theorem l_De_pieces_0 : xlk (xm_cd m_De_pieces) 0 = some (.iconst 0, 1, (0, 0, 0, [])) := rfl
theorem l_De_pieces_1 : xlk (xm_cd m_De_pieces) 1 = some (.istore_n 1, 1, (0, 0, 0, [])) := rfl
theorem l_De_pieces_2 : xlk (xm_cd m_De_pieces) 2 = some (.iconst 0, 1, (0, 0, 0, [])) := rfl
theorem l_De_pieces_3 : xlk (xm_cd m_De_pieces) 3 = some (.istore_n 2, 1, (0, 0, 0, [])) := rfl
theorem l_De_pieces_4 : xlk (xm_cd m_De_pieces) 4 = some (.iload_n 2, 1, (0, 0, 0, [])) := rfl
theorem l_De_pieces_5 : xlk (xm_cd m_De_pieces) 5 = some (.aload_n 0, 1, (0, 0, 0, [])) := rfl
theorem l_De_pieces_6 : xlk (xm_cd m_De_pieces) 6 = some (.getfield 15, 3, (148, 3, 1, [])) := rfl
theorem l_De_pieces_9 : xlk (xm_cd m_De_pieces) 9 = some (.if_icmp .ge 20, 3, (0, 29, 0, [])) := rfl
theorem l_De_pieces_12 : xlk (xm_cd m_De_pieces) 12 = some (.aload_n 0, 1, (0, 0, 0, [])) := rfl
theorem l_De_pieces_13 : xlk (xm_cd m_De_pieces) 13 = some (.iload_n 2, 1, (0, 0, 0, [])) := rfl
theorem l_De_pieces_14 : xlk (xm_cd m_De_pieces) 14 = some (.invokevirtual 38, 3, (573, 83, 1, [])) := rfl
theorem l_De_pieces_17 : xlk (xm_cd m_De_pieces) 17 = some (.ifCond .eq 6, 3, (0, 23, 0, [])) := rfl
theorem l_De_pieces_20 : xlk (xm_cd m_De_pieces) 20 = some (.iinc 1 1, 3, (0, 0, 0, [])) := rfl
theorem l_De_pieces_23 : xlk (xm_cd m_De_pieces) 23 = some (.iinc 2 1, 3, (0, 0, 0, [])) := rfl
theorem l_De_pieces_26 : xlk (xm_cd m_De_pieces) 26 = some (.goto (-22), 3, (0, 4, 0, [])) := rfl
theorem l_De_pieces_29 : xlk (xm_cd m_De_pieces) 29 = some (.iload_n 1, 1, (0, 0, 0, [])) := rfl
theorem l_De_pieces_30 : xlk (xm_cd m_De_pieces) 30 = some (.ireturn, 1, (0, 0, 0, [])) := rfl
def B_De_pieces_0 (d : Nat) (E : Option Value → xH → Prop) (f : xH) (a0 : Nat) : Prop :=
  xWp (xT0, xSp xT0 d, none, m_De_pieces, E) 4 [some (.ref a0), some (.int 0), some (.int 0)] [] f 0 0
theorem b_De_pieces_0 {d : Nat} {E : Option Value → xH → Prop} {f : xH} {a0 : Nat} (h : B_De_pieces_0 d E f a0) : xWp (xT0, xSp xT0 d, none, m_De_pieces, E) 0 [some (.ref a0), none, none] [] f 0 0 := by
  unfold B_De_pieces_0 at h
  refine s_ic 0 l_De_pieces_0 rfl ?_
  refine s_isn l_De_pieces_1 (Nat.le_of_ble_eq_true rfl) ?_
  refine s_ic 0 l_De_pieces_2 rfl ?_
  refine s_isn l_De_pieces_3 (Nat.le_of_ble_eq_true rfl) ?_
  exact h
def B_De_pieces_4 (d : Nat) (E : Option Value → xH → Prop) (f : xH) (a0 : Nat) (x1 : Int32) (x2 : Int32) : Prop :=
  xgi f a0 3 1 (fun v1 => xbr (v1 ≤ x2) (E (some (.int x1)) f) ((∃ fs, f a0 = some (xO 3 fs)) ∧ xSp xT0 d j_De_startsPiece [.ref a0, .int x2] f (fun w2 f3 => xvi w2 (fun v4 => xbr (v4 = 0) (xWp (xT0, xSp xT0 d, none, m_De_pieces, E) 4 [some (.ref a0), some (.int x1), some (.int (x2 + 1))] [] f3 0 0) (xWp (xT0, xSp xT0 d, none, m_De_pieces, E) 4 [some (.ref a0), some (.int (x1 + 1)), some (.int (x2 + 1))] [] f3 0 0)))))
theorem b_De_pieces_4 {d : Nat} {E : Option Value → xH → Prop} {f : xH} {a0 : Nat} {x1 : Int32} {x2 : Int32} (h : B_De_pieces_4 d E f a0 x1 x2) : xWp (xT0, xSp xT0 d, none, m_De_pieces, E) 4 [some (.ref a0), some (.int x1), some (.int x2)] [] f 0 0 := by
  unfold B_De_pieces_4 at h
  refine s_iln l_De_pieces_4 rfl ?_
  refine s_aln l_De_pieces_5 rfl ?_
  refine s_gi l_De_pieces_6 h (fun v1 h => ?_)
  refine s_ifc l_De_pieces_9 h (fun h => ?_) (fun h => ?_)
  · refine s_iln l_De_pieces_29 rfl ?_
    exact s_iret l_De_pieces_30 rfl ⟨Nat.zero_le _, Nat.zero_le _⟩ h
  · refine s_aln l_De_pieces_12 rfl ?_
    refine s_iln l_De_pieces_13 rfl ?_
    refine s_cvi (As := [.int x2]) (r := []) l_De_pieces_14 rfl ⟨rfl, rfl⟩ rfl (Nat.le_of_ble_eq_true rfl) rfl ⟨Nat.zero_le _, Nat.zero_le _⟩ h (fun v4 f3 h => ?_)
    refine s_if l_De_pieces_17 h (fun h => ?_) (fun h => ?_)
    · refine s_inc 1 l_De_pieces_23 rfl rfl ?_
      refine s_goto l_De_pieces_26 ?_
      exact h
    · refine s_inc 1 l_De_pieces_20 rfl rfl ?_
      refine s_inc 1 l_De_pieces_23 rfl rfl ?_
      refine s_goto l_De_pieces_26 ?_
      exact h
theorem l_De_startsPiece_0 : xlk (xm_cd m_De_startsPiece) 0 = some (.iload_n 1, 1, (0, 0, 0, [])) := rfl
theorem l_De_startsPiece_1 : xlk (xm_cd m_De_startsPiece) 1 = some (.ifCond .le 11, 3, (0, 12, 0, [])) := rfl
theorem l_De_startsPiece_4 : xlk (xm_cd m_De_startsPiece) 4 = some (.iload_n 1, 1, (0, 0, 0, [])) := rfl
theorem l_De_startsPiece_5 : xlk (xm_cd m_De_startsPiece) 5 = some (.aload_n 0, 1, (0, 0, 0, [])) := rfl
theorem l_De_startsPiece_6 : xlk (xm_cd m_De_startsPiece) 6 = some (.getfield 15, 3, (148, 3, 1, [])) := rfl
theorem l_De_startsPiece_9 : xlk (xm_cd m_De_startsPiece) 9 = some (.if_icmp .lt 13, 3, (0, 22, 0, [])) := rfl
theorem l_De_startsPiece_12 : xlk (xm_cd m_De_startsPiece) 12 = some (.iload_n 1, 1, (0, 0, 0, [])) := rfl
theorem l_De_startsPiece_13 : xlk (xm_cd m_De_startsPiece) 13 = some (.ifCond .ne 7, 3, (0, 20, 0, [])) := rfl
theorem l_De_startsPiece_16 : xlk (xm_cd m_De_startsPiece) 16 = some (.iconst 1, 1, (0, 0, 0, [])) := rfl
theorem l_De_startsPiece_17 : xlk (xm_cd m_De_startsPiece) 17 = some (.goto 4, 3, (0, 21, 0, [])) := rfl
theorem l_De_startsPiece_20 : xlk (xm_cd m_De_startsPiece) 20 = some (.iconst 0, 1, (0, 0, 0, [])) := rfl
theorem l_De_startsPiece_21 : xlk (xm_cd m_De_startsPiece) 21 = some (.ireturn, 1, (0, 0, 0, [])) := rfl
theorem l_De_startsPiece_22 : xlk (xm_cd m_De_startsPiece) 22 = some (.aload_n 0, 1, (0, 0, 0, [])) := rfl
theorem l_De_startsPiece_23 : xlk (xm_cd m_De_startsPiece) 23 = some (.getfield 9, 3, (147, 3, 0, [])) := rfl
theorem l_De_startsPiece_26 : xlk (xm_cd m_De_startsPiece) 26 = some (.iload_n 1, 1, (0, 0, 0, [])) := rfl
theorem l_De_startsPiece_27 : xlk (xm_cd m_De_startsPiece) 27 = some (.iaload, 1, (0, 0, 0, [])) := rfl
theorem l_De_startsPiece_28 : xlk (xm_cd m_De_startsPiece) 28 = some (.ifCond .lt 14, 3, (0, 42, 0, [])) := rfl
theorem l_De_startsPiece_31 : xlk (xm_cd m_De_startsPiece) 31 = some (.aload_n 0, 1, (0, 0, 0, [])) := rfl
theorem l_De_startsPiece_32 : xlk (xm_cd m_De_startsPiece) 32 = some (.getfield 9, 3, (147, 3, 0, [])) := rfl
theorem l_De_startsPiece_35 : xlk (xm_cd m_De_startsPiece) 35 = some (.iload_n 1, 1, (0, 0, 0, [])) := rfl
theorem l_De_startsPiece_36 : xlk (xm_cd m_De_startsPiece) 36 = some (.iconst 1, 1, (0, 0, 0, [])) := rfl
theorem l_De_startsPiece_37 : xlk (xm_cd m_De_startsPiece) 37 = some (.isub, 1, (0, 0, 0, [])) := rfl
theorem l_De_startsPiece_38 : xlk (xm_cd m_De_startsPiece) 38 = some (.iaload, 1, (0, 0, 0, [])) := rfl
theorem l_De_startsPiece_39 : xlk (xm_cd m_De_startsPiece) 39 = some (.ifCond .ge 29, 3, (0, 68, 0, [])) := rfl
theorem l_De_startsPiece_42 : xlk (xm_cd m_De_startsPiece) 42 = some (.aload_n 0, 1, (0, 0, 0, [])) := rfl
theorem l_De_startsPiece_43 : xlk (xm_cd m_De_startsPiece) 43 = some (.getfield 9, 3, (147, 3, 0, [])) := rfl
theorem l_De_startsPiece_46 : xlk (xm_cd m_De_startsPiece) 46 = some (.iload_n 1, 1, (0, 0, 0, [])) := rfl
theorem l_De_startsPiece_47 : xlk (xm_cd m_De_startsPiece) 47 = some (.iaload, 1, (0, 0, 0, [])) := rfl
theorem l_De_startsPiece_48 : xlk (xm_cd m_De_startsPiece) 48 = some (.ifCond .ge 14, 3, (0, 62, 0, [])) := rfl
theorem l_De_startsPiece_51 : xlk (xm_cd m_De_startsPiece) 51 = some (.aload_n 0, 1, (0, 0, 0, [])) := rfl
theorem l_De_startsPiece_52 : xlk (xm_cd m_De_startsPiece) 52 = some (.getfield 9, 3, (147, 3, 0, [])) := rfl
theorem l_De_startsPiece_55 : xlk (xm_cd m_De_startsPiece) 55 = some (.iload_n 1, 1, (0, 0, 0, [])) := rfl
theorem l_De_startsPiece_56 : xlk (xm_cd m_De_startsPiece) 56 = some (.iconst 1, 1, (0, 0, 0, [])) := rfl
theorem l_De_startsPiece_57 : xlk (xm_cd m_De_startsPiece) 57 = some (.isub, 1, (0, 0, 0, [])) := rfl
theorem l_De_startsPiece_58 : xlk (xm_cd m_De_startsPiece) 58 = some (.iaload, 1, (0, 0, 0, [])) := rfl
theorem l_De_startsPiece_59 : xlk (xm_cd m_De_startsPiece) 59 = some (.ifCond .lt 7, 3, (0, 66, 0, [])) := rfl
theorem l_De_startsPiece_62 : xlk (xm_cd m_De_startsPiece) 62 = some (.iconst 1, 1, (0, 0, 0, [])) := rfl
theorem l_De_startsPiece_63 : xlk (xm_cd m_De_startsPiece) 63 = some (.goto 4, 3, (0, 67, 0, [])) := rfl
theorem l_De_startsPiece_66 : xlk (xm_cd m_De_startsPiece) 66 = some (.iconst 0, 1, (0, 0, 0, [])) := rfl
theorem l_De_startsPiece_67 : xlk (xm_cd m_De_startsPiece) 67 = some (.ireturn, 1, (0, 0, 0, [])) := rfl
theorem l_De_startsPiece_68 : xlk (xm_cd m_De_startsPiece) 68 = some (.aload_n 0, 1, (0, 0, 0, [])) := rfl
theorem l_De_startsPiece_69 : xlk (xm_cd m_De_startsPiece) 69 = some (.getfield 9, 3, (147, 3, 0, [])) := rfl
theorem l_De_startsPiece_72 : xlk (xm_cd m_De_startsPiece) 72 = some (.iload_n 1, 1, (0, 0, 0, [])) := rfl
theorem l_De_startsPiece_73 : xlk (xm_cd m_De_startsPiece) 73 = some (.iaload, 1, (0, 0, 0, [])) := rfl
theorem l_De_startsPiece_74 : xlk (xm_cd m_De_startsPiece) 74 = some (.aload_n 0, 1, (0, 0, 0, [])) := rfl
theorem l_De_startsPiece_75 : xlk (xm_cd m_De_startsPiece) 75 = some (.getfield 9, 3, (147, 3, 0, [])) := rfl
theorem l_De_startsPiece_78 : xlk (xm_cd m_De_startsPiece) 78 = some (.iload_n 1, 1, (0, 0, 0, [])) := rfl
theorem l_De_startsPiece_79 : xlk (xm_cd m_De_startsPiece) 79 = some (.iconst 1, 1, (0, 0, 0, [])) := rfl
theorem l_De_startsPiece_80 : xlk (xm_cd m_De_startsPiece) 80 = some (.isub, 1, (0, 0, 0, [])) := rfl
theorem l_De_startsPiece_81 : xlk (xm_cd m_De_startsPiece) 81 = some (.iaload, 1, (0, 0, 0, [])) := rfl
theorem l_De_startsPiece_82 : xlk (xm_cd m_De_startsPiece) 82 = some (.iconst 1, 1, (0, 0, 0, [])) := rfl
theorem l_De_startsPiece_83 : xlk (xm_cd m_De_startsPiece) 83 = some (.iadd, 1, (0, 0, 0, [])) := rfl
theorem l_De_startsPiece_84 : xlk (xm_cd m_De_startsPiece) 84 = some (.if_icmp .eq 7, 3, (0, 91, 0, [])) := rfl
theorem l_De_startsPiece_87 : xlk (xm_cd m_De_startsPiece) 87 = some (.iconst 1, 1, (0, 0, 0, [])) := rfl
theorem l_De_startsPiece_88 : xlk (xm_cd m_De_startsPiece) 88 = some (.goto 4, 3, (0, 92, 0, [])) := rfl
theorem l_De_startsPiece_91 : xlk (xm_cd m_De_startsPiece) 91 = some (.iconst 0, 1, (0, 0, 0, [])) := rfl
theorem l_De_startsPiece_92 : xlk (xm_cd m_De_startsPiece) 92 = some (.ireturn, 1, (0, 0, 0, [])) := rfl
def B_De_startsPiece_0 (d : Nat) (E : Option Value → xH → Prop) (f : xH) (a0 : Nat) (x1 : Int32) : Prop :=
  xbr (x1 ≤ 0) (xWp (xT0, xSp xT0 d, none, m_De_startsPiece, E) 12 [some (.ref a0), some (.int x1)] [] f 0 0) (xgi f a0 3 1 (fun v1 => xbr (x1 < v1) (xgr f a0 3 0 (fun r2 => xal f r2 0 x1 (fun v3 => xbr (v3 < 0) (xWp (xT0, xSp xT0 d, none, m_De_startsPiece, E) 42 [some (.ref a0), some (.int x1)] [] f 0 0) (xgr f a0 3 0 (fun r4 => xal f r4 0 (x1 - 1) (fun v5 => xbr ((0 : Int32) ≤ v5) (xgr f a0 3 0 (fun r6 => xal f r6 0 x1 (fun v7 => xgr f a0 3 0 (fun r8 => xal f r8 0 (x1 - 1) (fun v9 => xbr (v7 = (v9 + 1)) (E (some (.int 0)) f) (E (some (.int 1)) f)))))) (xWp (xT0, xSp xT0 d, none, m_De_startsPiece, E) 42 [some (.ref a0), some (.int x1)] [] f 0 0))))))) (xWp (xT0, xSp xT0 d, none, m_De_startsPiece, E) 12 [some (.ref a0), some (.int x1)] [] f 0 0)))
theorem b_De_startsPiece_0 {d : Nat} {E : Option Value → xH → Prop} {f : xH} {a0 : Nat} {x1 : Int32} (h : B_De_startsPiece_0 d E f a0 x1) : xWp (xT0, xSp xT0 d, none, m_De_startsPiece, E) 0 [some (.ref a0), some (.int x1)] [] f 0 0 := by
  unfold B_De_startsPiece_0 at h
  refine s_iln l_De_startsPiece_0 rfl ?_
  refine s_if l_De_startsPiece_1 h (fun h => ?_) (fun h => ?_)
  · exact h
  · refine s_iln l_De_startsPiece_4 rfl ?_
    refine s_aln l_De_startsPiece_5 rfl ?_
    refine s_gi l_De_startsPiece_6 h (fun v1 h => ?_)
    refine s_ifc l_De_startsPiece_9 h (fun h => ?_) (fun h => ?_)
    · refine s_aln l_De_startsPiece_22 rfl ?_
      refine s_gr l_De_startsPiece_23 h (fun r2 h => ?_)
      refine s_iln l_De_startsPiece_26 rfl ?_
      refine s_ial l_De_startsPiece_27 rfl h (fun v3 h => ?_)
      refine s_if l_De_startsPiece_28 h (fun h => ?_) (fun h => ?_)
      · exact h
      · refine s_aln l_De_startsPiece_31 rfl ?_
        refine s_gr l_De_startsPiece_32 h (fun r4 h => ?_)
        refine s_iln l_De_startsPiece_35 rfl ?_
        refine s_ic 1 l_De_startsPiece_36 rfl ?_
        refine s_isub l_De_startsPiece_37 ?_
        refine s_ial l_De_startsPiece_38 rfl h (fun v5 h => ?_)
        refine s_if l_De_startsPiece_39 h (fun h => ?_) (fun h => ?_)
        · refine s_aln l_De_startsPiece_68 rfl ?_
          refine s_gr l_De_startsPiece_69 h (fun r6 h => ?_)
          refine s_iln l_De_startsPiece_72 rfl ?_
          refine s_ial l_De_startsPiece_73 rfl h (fun v7 h => ?_)
          refine s_aln l_De_startsPiece_74 rfl ?_
          refine s_gr l_De_startsPiece_75 h (fun r8 h => ?_)
          refine s_iln l_De_startsPiece_78 rfl ?_
          refine s_ic 1 l_De_startsPiece_79 rfl ?_
          refine s_isub l_De_startsPiece_80 ?_
          refine s_ial l_De_startsPiece_81 rfl h (fun v9 h => ?_)
          refine s_ic 1 l_De_startsPiece_82 rfl ?_
          refine s_iadd l_De_startsPiece_83 ?_
          refine s_ifc l_De_startsPiece_84 h (fun h => ?_) (fun h => ?_)
          · refine s_ic 0 l_De_startsPiece_91 rfl ?_
            exact s_zret l_De_startsPiece_92 rfl ⟨Nat.zero_le _, Nat.zero_le _⟩ ⟨Or.inl rfl, h⟩
          · refine s_ic 1 l_De_startsPiece_87 rfl ?_
            refine s_goto l_De_startsPiece_88 ?_
            exact s_zret l_De_startsPiece_92 rfl ⟨Nat.zero_le _, Nat.zero_le _⟩ ⟨Or.inr rfl, h⟩
        · exact h
    · exact h
def B_De_startsPiece_12 (d : Nat) (E : Option Value → xH → Prop) (f : xH) (a0 : Nat) (x1 : Int32) : Prop :=
  xbr (¬ x1 = 0) (E (some (.int 0)) f) (E (some (.int 1)) f)
theorem b_De_startsPiece_12 {d : Nat} {E : Option Value → xH → Prop} {f : xH} {a0 : Nat} {x1 : Int32} (h : B_De_startsPiece_12 d E f a0 x1) : xWp (xT0, xSp xT0 d, none, m_De_startsPiece, E) 12 [some (.ref a0), some (.int x1)] [] f 0 0 := by
  unfold B_De_startsPiece_12 at h
  refine s_iln l_De_startsPiece_12 rfl ?_
  refine s_if l_De_startsPiece_13 h (fun h => ?_) (fun h => ?_)
  · refine s_ic 0 l_De_startsPiece_20 rfl ?_
    exact s_zret l_De_startsPiece_21 rfl ⟨Nat.zero_le _, Nat.zero_le _⟩ ⟨Or.inl rfl, h⟩
  · refine s_ic 1 l_De_startsPiece_16 rfl ?_
    refine s_goto l_De_startsPiece_17 ?_
    exact s_zret l_De_startsPiece_21 rfl ⟨Nat.zero_le _, Nat.zero_le _⟩ ⟨Or.inr rfl, h⟩
def B_De_startsPiece_42 (d : Nat) (E : Option Value → xH → Prop) (f : xH) (a0 : Nat) (x1 : Int32) : Prop :=
  xgr f a0 3 0 (fun r1 => xal f r1 0 x1 (fun v2 => xbr ((0 : Int32) ≤ v2) (E (some (.int 1)) f) (xgr f a0 3 0 (fun r3 => xal f r3 0 (x1 - 1) (fun v4 => xbr (v4 < 0) (E (some (.int 0)) f) (E (some (.int 1)) f))))))
theorem b_De_startsPiece_42 {d : Nat} {E : Option Value → xH → Prop} {f : xH} {a0 : Nat} {x1 : Int32} (h : B_De_startsPiece_42 d E f a0 x1) : xWp (xT0, xSp xT0 d, none, m_De_startsPiece, E) 42 [some (.ref a0), some (.int x1)] [] f 0 0 := by
  unfold B_De_startsPiece_42 at h
  refine s_aln l_De_startsPiece_42 rfl ?_
  refine s_gr l_De_startsPiece_43 h (fun r1 h => ?_)
  refine s_iln l_De_startsPiece_46 rfl ?_
  refine s_ial l_De_startsPiece_47 rfl h (fun v2 h => ?_)
  refine s_if l_De_startsPiece_48 h (fun h => ?_) (fun h => ?_)
  · refine s_ic 1 l_De_startsPiece_62 rfl ?_
    refine s_goto l_De_startsPiece_63 ?_
    exact s_zret l_De_startsPiece_67 rfl ⟨Nat.zero_le _, Nat.zero_le _⟩ ⟨Or.inr rfl, h⟩
  · refine s_aln l_De_startsPiece_51 rfl ?_
    refine s_gr l_De_startsPiece_52 h (fun r3 h => ?_)
    refine s_iln l_De_startsPiece_55 rfl ?_
    refine s_ic 1 l_De_startsPiece_56 rfl ?_
    refine s_isub l_De_startsPiece_57 ?_
    refine s_ial l_De_startsPiece_58 rfl h (fun v4 h => ?_)
    refine s_if l_De_startsPiece_59 h (fun h => ?_) (fun h => ?_)
    · refine s_ic 0 l_De_startsPiece_66 rfl ?_
      exact s_zret l_De_startsPiece_67 rfl ⟨Nat.zero_le _, Nat.zero_le _⟩ ⟨Or.inl rfl, h⟩
    · refine s_ic 1 l_De_startsPiece_62 rfl ?_
      refine s_goto l_De_startsPiece_63 ?_
      exact s_zret l_De_startsPiece_67 rfl ⟨Nat.zero_le _, Nat.zero_le _⟩ ⟨Or.inr rfl, h⟩
theorem l_De_tellPiece_0 : xlk (xm_cd m_De_tellPiece) 0 = some (.aload_n 0, 1, (0, 0, 0, [])) := rfl
theorem l_De_tellPiece_1 : xlk (xm_cd m_De_tellPiece) 1 = some (.iload_n 1, 1, (0, 0, 0, [])) := rfl
theorem l_De_tellPiece_2 : xlk (xm_cd m_De_tellPiece) 2 = some (.invokevirtual 42, 3, (588, 87, 1, [])) := rfl
theorem l_De_tellPiece_5 : xlk (xm_cd m_De_tellPiece) 5 = some (.istore_n 3, 1, (0, 0, 0, [])) := rfl
theorem l_De_tellPiece_6 : xlk (xm_cd m_De_tellPiece) 6 = some (.iload_n 3, 1, (0, 0, 0, [])) := rfl
theorem l_De_tellPiece_7 : xlk (xm_cd m_De_tellPiece) 7 = some (.iconst (-1), 1, (0, 0, 0, [])) := rfl
theorem l_De_tellPiece_8 : xlk (xm_cd m_De_tellPiece) 8 = some (.if_icmp .ne 5, 3, (0, 13, 0, [])) := rfl
theorem l_De_tellPiece_11 : xlk (xm_cd m_De_tellPiece) 11 = some (.iconst (-1), 1, (0, 0, 0, [])) := rfl
theorem l_De_tellPiece_12 : xlk (xm_cd m_De_tellPiece) 12 = some (.ireturn, 1, (0, 0, 0, [])) := rfl
theorem l_De_tellPiece_13 : xlk (xm_cd m_De_tellPiece) 13 = some (.aload_n 0, 1, (0, 0, 0, [])) := rfl
theorem l_De_tellPiece_14 : xlk (xm_cd m_De_tellPiece) 14 = some (.getfield 9, 3, (147, 3, 0, [])) := rfl
theorem l_De_tellPiece_17 : xlk (xm_cd m_De_tellPiece) 17 = some (.iload_n 3, 1, (0, 0, 0, [])) := rfl
theorem l_De_tellPiece_18 : xlk (xm_cd m_De_tellPiece) 18 = some (.iaload, 1, (0, 0, 0, [])) := rfl
theorem l_De_tellPiece_19 : xlk (xm_cd m_De_tellPiece) 19 = some (.ifCond .ge 7, 3, (0, 26, 0, [])) := rfl
theorem l_De_tellPiece_22 : xlk (xm_cd m_De_tellPiece) 22 = some (.iconst 1, 1, (0, 0, 0, [])) := rfl
theorem l_De_tellPiece_23 : xlk (xm_cd m_De_tellPiece) 23 = some (.goto 4, 3, (0, 27, 0, [])) := rfl
theorem l_De_tellPiece_26 : xlk (xm_cd m_De_tellPiece) 26 = some (.iconst 0, 1, (0, 0, 0, [])) := rfl
theorem l_De_tellPiece_27 : xlk (xm_cd m_De_tellPiece) 27 = some (.istore 4, 2, (0, 0, 0, [])) := rfl
theorem l_De_tellPiece_29 : xlk (xm_cd m_De_tellPiece) 29 = some (.aload_n 0, 1, (0, 0, 0, [])) := rfl
theorem l_De_tellPiece_30 : xlk (xm_cd m_De_tellPiece) 30 = some (.iload_n 3, 1, (0, 0, 0, [])) := rfl
theorem l_De_tellPiece_31 : xlk (xm_cd m_De_tellPiece) 31 = some (.invokevirtual 45, 3, (591, 88, 1, [])) := rfl
theorem l_De_tellPiece_34 : xlk (xm_cd m_De_tellPiece) 34 = some (.istore 5, 2, (0, 0, 0, [])) := rfl
theorem l_De_tellPiece_36 : xlk (xm_cd m_De_tellPiece) 36 = some (.iload_n 2, 1, (0, 0, 0, [])) := rfl
theorem l_De_tellPiece_37 : xlk (xm_cd m_De_tellPiece) 37 = some (.iconst (-1), 1, (0, 0, 0, [])) := rfl
theorem l_De_tellPiece_38 : xlk (xm_cd m_De_tellPiece) 38 = some (.if_icmp .ne 20, 3, (0, 58, 0, [])) := rfl
theorem l_De_tellPiece_41 : xlk (xm_cd m_De_tellPiece) 41 = some (.iload 4, 2, (0, 0, 0, [])) := rfl
theorem l_De_tellPiece_43 : xlk (xm_cd m_De_tellPiece) 43 = some (.ifCond .eq 8, 3, (0, 51, 0, [])) := rfl
theorem l_De_tellPiece_46 : xlk (xm_cd m_De_tellPiece) 46 = some (.bipush (-2), 2, (0, 0, 0, [])) := rfl
theorem l_De_tellPiece_48 : xlk (xm_cd m_De_tellPiece) 48 = some (.goto 9, 3, (0, 57, 0, [])) := rfl
theorem l_De_tellPiece_51 : xlk (xm_cd m_De_tellPiece) 51 = some (.aload_n 0, 1, (0, 0, 0, [])) := rfl
theorem l_De_tellPiece_52 : xlk (xm_cd m_De_tellPiece) 52 = some (.getfield 9, 3, (147, 3, 0, [])) := rfl
theorem l_De_tellPiece_55 : xlk (xm_cd m_De_tellPiece) 55 = some (.iload_n 3, 1, (0, 0, 0, [])) := rfl
theorem l_De_tellPiece_56 : xlk (xm_cd m_De_tellPiece) 56 = some (.iaload, 1, (0, 0, 0, [])) := rfl
theorem l_De_tellPiece_57 : xlk (xm_cd m_De_tellPiece) 57 = some (.ireturn, 1, (0, 0, 0, [])) := rfl
theorem l_De_tellPiece_58 : xlk (xm_cd m_De_tellPiece) 58 = some (.iload_n 2, 1, (0, 0, 0, [])) := rfl
theorem l_De_tellPiece_59 : xlk (xm_cd m_De_tellPiece) 59 = some (.bipush (-2), 2, (0, 0, 0, [])) := rfl
theorem l_De_tellPiece_61 : xlk (xm_cd m_De_tellPiece) 61 = some (.if_icmp .ne 6, 3, (0, 67, 0, [])) := rfl
theorem l_De_tellPiece_64 : xlk (xm_cd m_De_tellPiece) 64 = some (.iload 5, 2, (0, 0, 0, [])) := rfl
theorem l_De_tellPiece_66 : xlk (xm_cd m_De_tellPiece) 66 = some (.ireturn, 1, (0, 0, 0, [])) := rfl
theorem l_De_tellPiece_67 : xlk (xm_cd m_De_tellPiece) 67 = some (.iload 4, 2, (0, 0, 0, [])) := rfl
theorem l_De_tellPiece_69 : xlk (xm_cd m_De_tellPiece) 69 = some (.ifCond .eq 26, 3, (0, 95, 0, [])) := rfl
theorem l_De_tellPiece_72 : xlk (xm_cd m_De_tellPiece) 72 = some (.iload_n 2, 1, (0, 0, 0, [])) := rfl
theorem l_De_tellPiece_73 : xlk (xm_cd m_De_tellPiece) 73 = some (.ifCond .lt 22, 3, (0, 95, 0, [])) := rfl
theorem l_De_tellPiece_76 : xlk (xm_cd m_De_tellPiece) 76 = some (.iload_n 2, 1, (0, 0, 0, [])) := rfl
theorem l_De_tellPiece_77 : xlk (xm_cd m_De_tellPiece) 77 = some (.iload 5, 2, (0, 0, 0, [])) := rfl
theorem l_De_tellPiece_79 : xlk (xm_cd m_De_tellPiece) 79 = some (.if_icmp .ge 16, 3, (0, 95, 0, [])) := rfl
theorem l_De_tellPiece_82 : xlk (xm_cd m_De_tellPiece) 82 = some (.aload_n 0, 1, (0, 0, 0, [])) := rfl
theorem l_De_tellPiece_83 : xlk (xm_cd m_De_tellPiece) 83 = some (.getfield 9, 3, (147, 3, 0, [])) := rfl
theorem l_De_tellPiece_86 : xlk (xm_cd m_De_tellPiece) 86 = some (.iload_n 3, 1, (0, 0, 0, [])) := rfl
theorem l_De_tellPiece_87 : xlk (xm_cd m_De_tellPiece) 87 = some (.iload_n 2, 1, (0, 0, 0, [])) := rfl
theorem l_De_tellPiece_88 : xlk (xm_cd m_De_tellPiece) 88 = some (.iadd, 1, (0, 0, 0, [])) := rfl
theorem l_De_tellPiece_89 : xlk (xm_cd m_De_tellPiece) 89 = some (.iaload, 1, (0, 0, 0, [])) := rfl
theorem l_De_tellPiece_90 : xlk (xm_cd m_De_tellPiece) 90 = some (.iconst (-1), 1, (0, 0, 0, [])) := rfl
theorem l_De_tellPiece_91 : xlk (xm_cd m_De_tellPiece) 91 = some (.ixor, 1, (0, 0, 0, [])) := rfl
theorem l_De_tellPiece_92 : xlk (xm_cd m_De_tellPiece) 92 = some (.goto 4, 3, (0, 96, 0, [])) := rfl
theorem l_De_tellPiece_95 : xlk (xm_cd m_De_tellPiece) 95 = some (.iconst (-1), 1, (0, 0, 0, [])) := rfl
theorem l_De_tellPiece_96 : xlk (xm_cd m_De_tellPiece) 96 = some (.ireturn, 1, (0, 0, 0, [])) := rfl
def B_De_tellPiece_0 (d : Nat) (E : Option Value → xH → Prop) (f : xH) (a0 : Nat) (x1 : Int32) (x2 : Int32) : Prop :=
  (∃ fs, f a0 = some (xO 3 fs)) ∧ xSp xT0 d j_De_startOf [.ref a0, .int x1] f (fun w1 f2 => xvi w1 (fun v3 => xbr (¬ v3 = (-1)) (xgr f2 a0 3 0 (fun r4 => xal f2 r4 0 v3 (fun v5 => xbr ((0 : Int32) ≤ v5) (xWp (xT0, xSp xT0 d, none, m_De_tellPiece, E) 27 [some (.ref a0), some (.int x1), some (.int x2), some (.int v3), none, none] [.int 0] f2 0 0) (xWp (xT0, xSp xT0 d, none, m_De_tellPiece, E) 27 [some (.ref a0), some (.int x1), some (.int x2), some (.int v3), none, none] [.int 1] f2 0 0)))) (E (some (.int (-1))) f2)))
theorem b_De_tellPiece_0 {d : Nat} {E : Option Value → xH → Prop} {f : xH} {a0 : Nat} {x1 : Int32} {x2 : Int32} (h : B_De_tellPiece_0 d E f a0 x1 x2) : xWp (xT0, xSp xT0 d, none, m_De_tellPiece, E) 0 [some (.ref a0), some (.int x1), some (.int x2), none, none, none] [] f 0 0 := by
  unfold B_De_tellPiece_0 at h
  refine s_aln l_De_tellPiece_0 rfl ?_
  refine s_iln l_De_tellPiece_1 rfl ?_
  refine s_cvi (As := [.int x1]) (r := []) l_De_tellPiece_2 rfl ⟨rfl, rfl⟩ rfl (Nat.le_of_ble_eq_true rfl) rfl ⟨Nat.zero_le _, Nat.zero_le _⟩ h (fun v3 f2 h => ?_)
  refine s_isn l_De_tellPiece_5 (Nat.le_of_ble_eq_true rfl) ?_
  refine s_iln l_De_tellPiece_6 rfl ?_
  refine s_ic (-1) l_De_tellPiece_7 rfl ?_
  refine s_ifc l_De_tellPiece_8 h (fun h => ?_) (fun h => ?_)
  · refine s_aln l_De_tellPiece_13 rfl ?_
    refine s_gr l_De_tellPiece_14 h (fun r4 h => ?_)
    refine s_iln l_De_tellPiece_17 rfl ?_
    refine s_ial l_De_tellPiece_18 rfl h (fun v5 h => ?_)
    refine s_if l_De_tellPiece_19 h (fun h => ?_) (fun h => ?_)
    · refine s_ic 0 l_De_tellPiece_26 rfl ?_
      exact h
    · refine s_ic 1 l_De_tellPiece_22 rfl ?_
      refine s_goto l_De_tellPiece_23 ?_
      exact h
  · refine s_ic (-1) l_De_tellPiece_11 rfl ?_
    exact s_iret l_De_tellPiece_12 rfl ⟨Nat.zero_le _, Nat.zero_le _⟩ h
def B_De_tellPiece_27 (d : Nat) (E : Option Value → xH → Prop) (f : xH) (a0 : Nat) (x1 : Int32) (x2 : Int32) (x3 : Int32) (u4 : Option Value) (u5 : Option Value) (s0 : Int32) : Prop :=
  (∃ fs, f a0 = some (xO 3 fs)) ∧ xSp xT0 d j_De_lengthFrom [.ref a0, .int x3] f (fun w1 f2 => xvi w1 (fun v3 => xbr (¬ x2 = (-1)) (xbr (¬ x2 = (-2)) (xbr (s0 = 0) (E (some (.int (-1))) f2) (xbr (x2 < 0) (E (some (.int (-1))) f2) (xbr (v3 ≤ x2) (E (some (.int (-1))) f2) (xgr f2 a0 3 0 (fun r4 => xal f2 r4 0 (x3 + x2) (fun v5 => E (some (.int (v5 ^^^ (-1)))) f2)))))) (E (some (.int v3)) f2)) (xbr (s0 = 0) (xgr f2 a0 3 0 (fun r6 => xal f2 r6 0 x3 (fun v7 => E (some (.int v7)) f2))) (E (some (.int (-2))) f2))))
theorem b_De_tellPiece_27 {d : Nat} {E : Option Value → xH → Prop} {f : xH} {a0 : Nat} {x1 : Int32} {x2 : Int32} {x3 : Int32} {u4 : Option Value} {u5 : Option Value} {s0 : Int32} (h : B_De_tellPiece_27 d E f a0 x1 x2 x3 u4 u5 s0) : xWp (xT0, xSp xT0 d, none, m_De_tellPiece, E) 27 [some (.ref a0), some (.int x1), some (.int x2), some (.int x3), u4, u5] [.int s0] f 0 0 := by
  unfold B_De_tellPiece_27 at h
  refine s_is l_De_tellPiece_27 (Nat.le_of_ble_eq_true rfl) ?_
  refine s_aln l_De_tellPiece_29 rfl ?_
  refine s_iln l_De_tellPiece_30 rfl ?_
  refine s_cvi (As := [.int x3]) (r := []) l_De_tellPiece_31 rfl ⟨rfl, rfl⟩ rfl (Nat.le_of_ble_eq_true rfl) rfl ⟨Nat.zero_le _, Nat.zero_le _⟩ h (fun v3 f2 h => ?_)
  refine s_is l_De_tellPiece_34 (Nat.le_of_ble_eq_true rfl) ?_
  refine s_iln l_De_tellPiece_36 rfl ?_
  refine s_ic (-1) l_De_tellPiece_37 rfl ?_
  refine s_ifc l_De_tellPiece_38 h (fun h => ?_) (fun h => ?_)
  · refine s_iln l_De_tellPiece_58 rfl ?_
    refine s_bp (-2) l_De_tellPiece_59 rfl ?_
    refine s_ifc l_De_tellPiece_61 h (fun h => ?_) (fun h => ?_)
    · refine s_il l_De_tellPiece_67 rfl ?_
      refine s_if l_De_tellPiece_69 h (fun h => ?_) (fun h => ?_)
      · refine s_ic (-1) l_De_tellPiece_95 rfl ?_
        exact s_iret l_De_tellPiece_96 rfl ⟨Nat.zero_le _, Nat.zero_le _⟩ h
      · refine s_iln l_De_tellPiece_72 rfl ?_
        refine s_if l_De_tellPiece_73 h (fun h => ?_) (fun h => ?_)
        · refine s_ic (-1) l_De_tellPiece_95 rfl ?_
          exact s_iret l_De_tellPiece_96 rfl ⟨Nat.zero_le _, Nat.zero_le _⟩ h
        · refine s_iln l_De_tellPiece_76 rfl ?_
          refine s_il l_De_tellPiece_77 rfl ?_
          refine s_ifc l_De_tellPiece_79 h (fun h => ?_) (fun h => ?_)
          · refine s_ic (-1) l_De_tellPiece_95 rfl ?_
            exact s_iret l_De_tellPiece_96 rfl ⟨Nat.zero_le _, Nat.zero_le _⟩ h
          · refine s_aln l_De_tellPiece_82 rfl ?_
            refine s_gr l_De_tellPiece_83 h (fun r4 h => ?_)
            refine s_iln l_De_tellPiece_86 rfl ?_
            refine s_iln l_De_tellPiece_87 rfl ?_
            refine s_iadd l_De_tellPiece_88 ?_
            refine s_ial l_De_tellPiece_89 rfl h (fun v5 h => ?_)
            refine s_ic (-1) l_De_tellPiece_90 rfl ?_
            refine s_ixor l_De_tellPiece_91 ?_
            refine s_goto l_De_tellPiece_92 ?_
            exact s_iret l_De_tellPiece_96 rfl ⟨Nat.zero_le _, Nat.zero_le _⟩ h
    · refine s_il l_De_tellPiece_64 rfl ?_
      exact s_iret l_De_tellPiece_66 rfl ⟨Nat.zero_le _, Nat.zero_le _⟩ h
  · refine s_il l_De_tellPiece_41 rfl ?_
    refine s_if l_De_tellPiece_43 h (fun h => ?_) (fun h => ?_)
    · refine s_aln l_De_tellPiece_51 rfl ?_
      refine s_gr l_De_tellPiece_52 h (fun r6 h => ?_)
      refine s_iln l_De_tellPiece_55 rfl ?_
      refine s_ial l_De_tellPiece_56 rfl h (fun v7 h => ?_)
      exact s_iret l_De_tellPiece_57 rfl ⟨Nat.zero_le _, Nat.zero_le _⟩ h
    · refine s_bp (-2) l_De_tellPiece_46 rfl ?_
      refine s_goto l_De_tellPiece_48 ?_
      exact s_iret l_De_tellPiece_57 rfl ⟨Nat.zero_le _, Nat.zero_le _⟩ h
theorem l_De_startOf_0 : xlk (xm_cd m_De_startOf) 0 = some (.iload_n 1, 1, (0, 0, 0, [])) := rfl
theorem l_De_startOf_1 : xlk (xm_cd m_De_startOf) 1 = some (.istore_n 2, 1, (0, 0, 0, [])) := rfl
theorem l_De_startOf_2 : xlk (xm_cd m_De_startOf) 2 = some (.iconst 0, 1, (0, 0, 0, [])) := rfl
theorem l_De_startOf_3 : xlk (xm_cd m_De_startOf) 3 = some (.istore_n 3, 1, (0, 0, 0, [])) := rfl
theorem l_De_startOf_4 : xlk (xm_cd m_De_startOf) 4 = some (.iload_n 3, 1, (0, 0, 0, [])) := rfl
theorem l_De_startOf_5 : xlk (xm_cd m_De_startOf) 5 = some (.aload_n 0, 1, (0, 0, 0, [])) := rfl
theorem l_De_startOf_6 : xlk (xm_cd m_De_startOf) 6 = some (.getfield 15, 3, (148, 3, 1, [])) := rfl
theorem l_De_startOf_9 : xlk (xm_cd m_De_startOf) 9 = some (.if_icmp .ge 26, 3, (0, 35, 0, [])) := rfl
theorem l_De_startOf_12 : xlk (xm_cd m_De_startOf) 12 = some (.aload_n 0, 1, (0, 0, 0, [])) := rfl
theorem l_De_startOf_13 : xlk (xm_cd m_De_startOf) 13 = some (.iload_n 3, 1, (0, 0, 0, [])) := rfl
theorem l_De_startOf_14 : xlk (xm_cd m_De_startOf) 14 = some (.invokevirtual 38, 3, (573, 83, 1, [])) := rfl
theorem l_De_startOf_17 : xlk (xm_cd m_De_startOf) 17 = some (.ifCond .eq 12, 3, (0, 29, 0, [])) := rfl
theorem l_De_startOf_20 : xlk (xm_cd m_De_startOf) 20 = some (.iload_n 2, 1, (0, 0, 0, [])) := rfl
theorem l_De_startOf_21 : xlk (xm_cd m_De_startOf) 21 = some (.ifCond .ne 5, 3, (0, 26, 0, [])) := rfl
theorem l_De_startOf_24 : xlk (xm_cd m_De_startOf) 24 = some (.iload_n 3, 1, (0, 0, 0, [])) := rfl
theorem l_De_startOf_25 : xlk (xm_cd m_De_startOf) 25 = some (.ireturn, 1, (0, 0, 0, [])) := rfl
theorem l_De_startOf_26 : xlk (xm_cd m_De_startOf) 26 = some (.iinc 2 (-1), 3, (0, 0, 0, [])) := rfl
theorem l_De_startOf_29 : xlk (xm_cd m_De_startOf) 29 = some (.iinc 3 1, 3, (0, 0, 0, [])) := rfl
theorem l_De_startOf_32 : xlk (xm_cd m_De_startOf) 32 = some (.goto (-28), 3, (0, 4, 0, [])) := rfl
theorem l_De_startOf_35 : xlk (xm_cd m_De_startOf) 35 = some (.iconst (-1), 1, (0, 0, 0, [])) := rfl
theorem l_De_startOf_36 : xlk (xm_cd m_De_startOf) 36 = some (.ireturn, 1, (0, 0, 0, [])) := rfl
def B_De_startOf_0 (d : Nat) (E : Option Value → xH → Prop) (f : xH) (a0 : Nat) (x1 : Int32) : Prop :=
  xWp (xT0, xSp xT0 d, none, m_De_startOf, E) 4 [some (.ref a0), some (.int x1), some (.int x1), some (.int 0)] [] f 0 0
theorem b_De_startOf_0 {d : Nat} {E : Option Value → xH → Prop} {f : xH} {a0 : Nat} {x1 : Int32} (h : B_De_startOf_0 d E f a0 x1) : xWp (xT0, xSp xT0 d, none, m_De_startOf, E) 0 [some (.ref a0), some (.int x1), none, none] [] f 0 0 := by
  unfold B_De_startOf_0 at h
  refine s_iln l_De_startOf_0 rfl ?_
  refine s_isn l_De_startOf_1 (Nat.le_of_ble_eq_true rfl) ?_
  refine s_ic 0 l_De_startOf_2 rfl ?_
  refine s_isn l_De_startOf_3 (Nat.le_of_ble_eq_true rfl) ?_
  exact h
def B_De_startOf_4 (d : Nat) (E : Option Value → xH → Prop) (f : xH) (a0 : Nat) (x1 : Int32) (x2 : Int32) (x3 : Int32) : Prop :=
  xgi f a0 3 1 (fun v1 => xbr (v1 ≤ x3) (E (some (.int (-1))) f) ((∃ fs, f a0 = some (xO 3 fs)) ∧ xSp xT0 d j_De_startsPiece [.ref a0, .int x3] f (fun w2 f3 => xvi w2 (fun v4 => xbr (v4 = 0) (xWp (xT0, xSp xT0 d, none, m_De_startOf, E) 4 [some (.ref a0), some (.int x1), some (.int x2), some (.int (x3 + 1))] [] f3 0 0) (xbr (¬ x2 = 0) (xWp (xT0, xSp xT0 d, none, m_De_startOf, E) 4 [some (.ref a0), some (.int x1), some (.int (x2 + (-1))), some (.int (x3 + 1))] [] f3 0 0) (E (some (.int x3)) f3))))))
theorem b_De_startOf_4 {d : Nat} {E : Option Value → xH → Prop} {f : xH} {a0 : Nat} {x1 : Int32} {x2 : Int32} {x3 : Int32} (h : B_De_startOf_4 d E f a0 x1 x2 x3) : xWp (xT0, xSp xT0 d, none, m_De_startOf, E) 4 [some (.ref a0), some (.int x1), some (.int x2), some (.int x3)] [] f 0 0 := by
  unfold B_De_startOf_4 at h
  refine s_iln l_De_startOf_4 rfl ?_
  refine s_aln l_De_startOf_5 rfl ?_
  refine s_gi l_De_startOf_6 h (fun v1 h => ?_)
  refine s_ifc l_De_startOf_9 h (fun h => ?_) (fun h => ?_)
  · refine s_ic (-1) l_De_startOf_35 rfl ?_
    exact s_iret l_De_startOf_36 rfl ⟨Nat.zero_le _, Nat.zero_le _⟩ h
  · refine s_aln l_De_startOf_12 rfl ?_
    refine s_iln l_De_startOf_13 rfl ?_
    refine s_cvi (As := [.int x3]) (r := []) l_De_startOf_14 rfl ⟨rfl, rfl⟩ rfl (Nat.le_of_ble_eq_true rfl) rfl ⟨Nat.zero_le _, Nat.zero_le _⟩ h (fun v4 f3 h => ?_)
    refine s_if l_De_startOf_17 h (fun h => ?_) (fun h => ?_)
    · refine s_inc 1 l_De_startOf_29 rfl rfl ?_
      refine s_goto l_De_startOf_32 ?_
      exact h
    · refine s_iln l_De_startOf_20 rfl ?_
      refine s_if l_De_startOf_21 h (fun h => ?_) (fun h => ?_)
      · refine s_inc (-1) l_De_startOf_26 rfl rfl ?_
        refine s_inc 1 l_De_startOf_29 rfl rfl ?_
        refine s_goto l_De_startOf_32 ?_
        exact h
      · refine s_iln l_De_startOf_24 rfl ?_
        exact s_iret l_De_startOf_25 rfl ⟨Nat.zero_le _, Nat.zero_le _⟩ h
theorem l_De_lengthFrom_0 : xlk (xm_cd m_De_lengthFrom) 0 = some (.iload_n 1, 1, (0, 0, 0, [])) := rfl
theorem l_De_lengthFrom_1 : xlk (xm_cd m_De_lengthFrom) 1 = some (.iconst 1, 1, (0, 0, 0, [])) := rfl
theorem l_De_lengthFrom_2 : xlk (xm_cd m_De_lengthFrom) 2 = some (.iadd, 1, (0, 0, 0, [])) := rfl
theorem l_De_lengthFrom_3 : xlk (xm_cd m_De_lengthFrom) 3 = some (.istore_n 2, 1, (0, 0, 0, [])) := rfl
theorem l_De_lengthFrom_4 : xlk (xm_cd m_De_lengthFrom) 4 = some (.iload_n 2, 1, (0, 0, 0, [])) := rfl
theorem l_De_lengthFrom_5 : xlk (xm_cd m_De_lengthFrom) 5 = some (.aload_n 0, 1, (0, 0, 0, [])) := rfl
theorem l_De_lengthFrom_6 : xlk (xm_cd m_De_lengthFrom) 6 = some (.getfield 15, 3, (148, 3, 1, [])) := rfl
theorem l_De_lengthFrom_9 : xlk (xm_cd m_De_lengthFrom) 9 = some (.if_icmp .ge 17, 3, (0, 26, 0, [])) := rfl
theorem l_De_lengthFrom_12 : xlk (xm_cd m_De_lengthFrom) 12 = some (.aload_n 0, 1, (0, 0, 0, [])) := rfl
theorem l_De_lengthFrom_13 : xlk (xm_cd m_De_lengthFrom) 13 = some (.iload_n 2, 1, (0, 0, 0, [])) := rfl
theorem l_De_lengthFrom_14 : xlk (xm_cd m_De_lengthFrom) 14 = some (.invokevirtual 38, 3, (573, 83, 1, [])) := rfl
theorem l_De_lengthFrom_17 : xlk (xm_cd m_De_lengthFrom) 17 = some (.ifCond .ne 9, 3, (0, 26, 0, [])) := rfl
theorem l_De_lengthFrom_20 : xlk (xm_cd m_De_lengthFrom) 20 = some (.iinc 2 1, 3, (0, 0, 0, [])) := rfl
theorem l_De_lengthFrom_23 : xlk (xm_cd m_De_lengthFrom) 23 = some (.goto (-19), 3, (0, 4, 0, [])) := rfl
theorem l_De_lengthFrom_26 : xlk (xm_cd m_De_lengthFrom) 26 = some (.iload_n 2, 1, (0, 0, 0, [])) := rfl
theorem l_De_lengthFrom_27 : xlk (xm_cd m_De_lengthFrom) 27 = some (.iload_n 1, 1, (0, 0, 0, [])) := rfl
theorem l_De_lengthFrom_28 : xlk (xm_cd m_De_lengthFrom) 28 = some (.isub, 1, (0, 0, 0, [])) := rfl
theorem l_De_lengthFrom_29 : xlk (xm_cd m_De_lengthFrom) 29 = some (.ireturn, 1, (0, 0, 0, [])) := rfl
def B_De_lengthFrom_0 (d : Nat) (E : Option Value → xH → Prop) (f : xH) (a0 : Nat) (x1 : Int32) : Prop :=
  xWp (xT0, xSp xT0 d, none, m_De_lengthFrom, E) 4 [some (.ref a0), some (.int x1), some (.int (x1 + 1))] [] f 0 0
theorem b_De_lengthFrom_0 {d : Nat} {E : Option Value → xH → Prop} {f : xH} {a0 : Nat} {x1 : Int32} (h : B_De_lengthFrom_0 d E f a0 x1) : xWp (xT0, xSp xT0 d, none, m_De_lengthFrom, E) 0 [some (.ref a0), some (.int x1), none] [] f 0 0 := by
  unfold B_De_lengthFrom_0 at h
  refine s_iln l_De_lengthFrom_0 rfl ?_
  refine s_ic 1 l_De_lengthFrom_1 rfl ?_
  refine s_iadd l_De_lengthFrom_2 ?_
  refine s_isn l_De_lengthFrom_3 (Nat.le_of_ble_eq_true rfl) ?_
  exact h
def B_De_lengthFrom_4 (d : Nat) (E : Option Value → xH → Prop) (f : xH) (a0 : Nat) (x1 : Int32) (x2 : Int32) : Prop :=
  xgi f a0 3 1 (fun v1 => xbr (v1 ≤ x2) (E (some (.int (x2 - x1))) f) ((∃ fs, f a0 = some (xO 3 fs)) ∧ xSp xT0 d j_De_startsPiece [.ref a0, .int x2] f (fun w2 f3 => xvi w2 (fun v4 => xbr (¬ v4 = 0) (E (some (.int (x2 - x1))) f3) (xWp (xT0, xSp xT0 d, none, m_De_lengthFrom, E) 4 [some (.ref a0), some (.int x1), some (.int (x2 + 1))] [] f3 0 0)))))
theorem b_De_lengthFrom_4 {d : Nat} {E : Option Value → xH → Prop} {f : xH} {a0 : Nat} {x1 : Int32} {x2 : Int32} (h : B_De_lengthFrom_4 d E f a0 x1 x2) : xWp (xT0, xSp xT0 d, none, m_De_lengthFrom, E) 4 [some (.ref a0), some (.int x1), some (.int x2)] [] f 0 0 := by
  unfold B_De_lengthFrom_4 at h
  refine s_iln l_De_lengthFrom_4 rfl ?_
  refine s_aln l_De_lengthFrom_5 rfl ?_
  refine s_gi l_De_lengthFrom_6 h (fun v1 h => ?_)
  refine s_ifc l_De_lengthFrom_9 h (fun h => ?_) (fun h => ?_)
  · refine s_iln l_De_lengthFrom_26 rfl ?_
    refine s_iln l_De_lengthFrom_27 rfl ?_
    refine s_isub l_De_lengthFrom_28 ?_
    exact s_iret l_De_lengthFrom_29 rfl ⟨Nat.zero_le _, Nat.zero_le _⟩ h
  · refine s_aln l_De_lengthFrom_12 rfl ?_
    refine s_iln l_De_lengthFrom_13 rfl ?_
    refine s_cvi (As := [.int x2]) (r := []) l_De_lengthFrom_14 rfl ⟨rfl, rfl⟩ rfl (Nat.le_of_ble_eq_true rfl) rfl ⟨Nat.zero_le _, Nat.zero_le _⟩ h (fun v4 f3 h => ?_)
    refine s_if l_De_lengthFrom_17 h (fun h => ?_) (fun h => ?_)
    · refine s_iln l_De_lengthFrom_26 rfl ?_
      refine s_iln l_De_lengthFrom_27 rfl ?_
      refine s_isub l_De_lengthFrom_28 ?_
      exact s_iret l_De_lengthFrom_29 rfl ⟨Nat.zero_le _, Nat.zero_le _⟩ h
    · refine s_inc 1 l_De_lengthFrom_20 rfl rfl ?_
      refine s_goto l_De_lengthFrom_23 ?_
      exact h
theorem l_De_make_0 : xlk (xm_cd m_De_make) 0 = some (.aload_n 2, 1, (0, 0, 0, [])) := rfl
theorem l_De_make_1 : xlk (xm_cd m_De_make) 1 = some (.invokevirtual 26, 3, (622, 20, 0, [])) := rfl
theorem l_De_make_4 : xlk (xm_cd m_De_make) 4 = some (.iconst 0, 1, (0, 0, 0, [])) := rfl
theorem l_De_make_5 : xlk (xm_cd m_De_make) 5 = some (.istore_n 3, 1, (0, 0, 0, [])) := rfl
theorem l_De_make_6 : xlk (xm_cd m_De_make) 6 = some (.iload_n 3, 1, (0, 0, 0, [])) := rfl
theorem l_De_make_7 : xlk (xm_cd m_De_make) 7 = some (.aload_n 0, 1, (0, 0, 0, [])) := rfl
theorem l_De_make_8 : xlk (xm_cd m_De_make) 8 = some (.getfield 15, 3, (148, 3, 1, [])) := rfl
theorem l_De_make_11 : xlk (xm_cd m_De_make) 11 = some (.if_icmp .ge 43, 3, (0, 54, 0, [])) := rfl
theorem l_De_make_14 : xlk (xm_cd m_De_make) 14 = some (.aload_n 2, 1, (0, 0, 0, [])) := rfl
theorem l_De_make_15 : xlk (xm_cd m_De_make) 15 = some (.aload_n 0, 1, (0, 0, 0, [])) := rfl
theorem l_De_make_16 : xlk (xm_cd m_De_make) 16 = some (.getfield 9, 3, (147, 3, 0, [])) := rfl
theorem l_De_make_19 : xlk (xm_cd m_De_make) 19 = some (.iload_n 3, 1, (0, 0, 0, [])) := rfl
theorem l_De_make_20 : xlk (xm_cd m_De_make) 20 = some (.iaload, 1, (0, 0, 0, [])) := rfl
theorem l_De_make_21 : xlk (xm_cd m_De_make) 21 = some (.ifCond .ge 14, 3, (0, 35, 0, [])) := rfl
theorem l_De_make_24 : xlk (xm_cd m_De_make) 24 = some (.aload_n 0, 1, (0, 0, 0, [])) := rfl
theorem l_De_make_25 : xlk (xm_cd m_De_make) 25 = some (.getfield 9, 3, (147, 3, 0, [])) := rfl
theorem l_De_make_28 : xlk (xm_cd m_De_make) 28 = some (.iload_n 3, 1, (0, 0, 0, [])) := rfl
theorem l_De_make_29 : xlk (xm_cd m_De_make) 29 = some (.iaload, 1, (0, 0, 0, [])) := rfl
theorem l_De_make_30 : xlk (xm_cd m_De_make) 30 = some (.iconst (-1), 1, (0, 0, 0, [])) := rfl
theorem l_De_make_31 : xlk (xm_cd m_De_make) 31 = some (.ixor, 1, (0, 0, 0, [])) := rfl
theorem l_De_make_32 : xlk (xm_cd m_De_make) 32 = some (.goto 13, 3, (0, 45, 0, [])) := rfl
theorem l_De_make_35 : xlk (xm_cd m_De_make) 35 = some (.aload_n 1, 1, (0, 0, 0, [])) := rfl
theorem l_De_make_36 : xlk (xm_cd m_De_make) 36 = some (.aload_n 0, 1, (0, 0, 0, [])) := rfl
theorem l_De_make_37 : xlk (xm_cd m_De_make) 37 = some (.getfield 9, 3, (147, 3, 0, [])) := rfl
theorem l_De_make_40 : xlk (xm_cd m_De_make) 40 = some (.iload_n 3, 1, (0, 0, 0, [])) := rfl
theorem l_De_make_41 : xlk (xm_cd m_De_make) 41 = some (.iaload, 1, (0, 0, 0, [])) := rfl
theorem l_De_make_42 : xlk (xm_cd m_De_make) 42 = some (.invokevirtual 31, 3, (623, 43, 1, [])) := rfl
theorem l_De_make_45 : xlk (xm_cd m_De_make) 45 = some (.invokevirtual 35, 3, (624, 14, 1, [])) := rfl
theorem l_De_make_48 : xlk (xm_cd m_De_make) 48 = some (.iinc 3 1, 3, (0, 0, 0, [])) := rfl
theorem l_De_make_51 : xlk (xm_cd m_De_make) 51 = some (.goto (-45), 3, (0, 6, 0, [])) := rfl
theorem l_De_make_54 : xlk (xm_cd m_De_make) 54 = some (.return_, 1, (0, 0, 0, [])) := rfl
def B_De_make_0 (d : Nat) (E : Option Value → xH → Prop) (f : xH) (a0 : Nat) (a1 : Nat) (a2 : Nat) : Prop :=
  (∃ fs, f a2 = some (xO 1 fs)) ∧ xSp xT0 d j_By_empty [.ref a2] f (fun w1 f2 => xvv w1 (xWp (xT0, xSp xT0 d, none, m_De_make, E) 6 [some (.ref a0), some (.ref a1), some (.ref a2), some (.int 0)] [] f2 0 0))
theorem b_De_make_0 {d : Nat} {E : Option Value → xH → Prop} {f : xH} {a0 : Nat} {a1 : Nat} {a2 : Nat} (h : B_De_make_0 d E f a0 a1 a2) : xWp (xT0, xSp xT0 d, none, m_De_make, E) 0 [some (.ref a0), some (.ref a1), some (.ref a2), none] [] f 0 0 := by
  unfold B_De_make_0 at h
  refine s_aln l_De_make_0 rfl ?_
  refine s_cvv (As := []) (r := []) l_De_make_1 rfl ⟨rfl, rfl⟩ rfl (Nat.le_of_ble_eq_true rfl) rfl ⟨Nat.zero_le _, Nat.zero_le _⟩ h (fun f2 h => ?_)
  refine s_ic 0 l_De_make_4 rfl ?_
  refine s_isn l_De_make_5 (Nat.le_of_ble_eq_true rfl) ?_
  exact h
def B_De_make_6 (d : Nat) (E : Option Value → xH → Prop) (f : xH) (a0 : Nat) (a1 : Nat) (a2 : Nat) (x3 : Int32) : Prop :=
  xgi f a0 3 1 (fun v1 => xbr (v1 ≤ x3) (E none f) (xgr f a0 3 0 (fun r2 => xal f r2 0 x3 (fun v3 => xbr ((0 : Int32) ≤ v3) (xgr f a0 3 0 (fun r4 => xal f r4 0 x3 (fun v5 => (∃ fs, f a1 = some (xO 1 fs)) ∧ xSp xT0 d j_By_at [.ref a1, .int v5] f (fun w6 f7 => xvi w6 (fun v8 => (∃ fs, f7 a2 = some (xO 1 fs)) ∧ xSp xT0 d j_By_add [.ref a2, .int v8] f7 (fun w9 f10 => xvv w9 (xWp (xT0, xSp xT0 d, none, m_De_make, E) 6 [some (.ref a0), some (.ref a1), some (.ref a2), some (.int (x3 + 1))] [] f10 0 0))))))) (xgr f a0 3 0 (fun r11 => xal f r11 0 x3 (fun v12 => (∃ fs, f a2 = some (xO 1 fs)) ∧ xSp xT0 d j_By_add [.ref a2, .int (v12 ^^^ (-1))] f (fun w13 f14 => xvv w13 (xWp (xT0, xSp xT0 d, none, m_De_make, E) 6 [some (.ref a0), some (.ref a1), some (.ref a2), some (.int (x3 + 1))] [] f14 0 0)))))))))
theorem b_De_make_6 {d : Nat} {E : Option Value → xH → Prop} {f : xH} {a0 : Nat} {a1 : Nat} {a2 : Nat} {x3 : Int32} (h : B_De_make_6 d E f a0 a1 a2 x3) : xWp (xT0, xSp xT0 d, none, m_De_make, E) 6 [some (.ref a0), some (.ref a1), some (.ref a2), some (.int x3)] [] f 0 0 := by
  unfold B_De_make_6 at h
  refine s_iln l_De_make_6 rfl ?_
  refine s_aln l_De_make_7 rfl ?_
  refine s_gi l_De_make_8 h (fun v1 h => ?_)
  refine s_ifc l_De_make_11 h (fun h => ?_) (fun h => ?_)
  · exact s_ret l_De_make_54 ⟨Nat.zero_le _, Nat.zero_le _⟩ h
  · refine s_aln l_De_make_14 rfl ?_
    refine s_aln l_De_make_15 rfl ?_
    refine s_gr l_De_make_16 h (fun r2 h => ?_)
    refine s_iln l_De_make_19 rfl ?_
    refine s_ial l_De_make_20 rfl h (fun v3 h => ?_)
    refine s_if l_De_make_21 h (fun h => ?_) (fun h => ?_)
    · refine s_aln l_De_make_35 rfl ?_
      refine s_aln l_De_make_36 rfl ?_
      refine s_gr l_De_make_37 h (fun r4 h => ?_)
      refine s_iln l_De_make_40 rfl ?_
      refine s_ial l_De_make_41 rfl h (fun v5 h => ?_)
      refine s_cvi (As := [.int v5]) (r := [.ref a2]) l_De_make_42 rfl ⟨rfl, rfl⟩ rfl (Nat.le_of_ble_eq_true rfl) rfl ⟨Nat.zero_le _, Nat.zero_le _⟩ h (fun v8 f7 h => ?_)
      refine s_cvv (As := [.int v8]) (r := []) l_De_make_45 rfl ⟨rfl, rfl⟩ rfl (Nat.le_of_ble_eq_true rfl) rfl ⟨Nat.zero_le _, Nat.zero_le _⟩ h (fun f10 h => ?_)
      refine s_inc 1 l_De_make_48 rfl rfl ?_
      refine s_goto l_De_make_51 ?_
      exact h
    · refine s_aln l_De_make_24 rfl ?_
      refine s_gr l_De_make_25 h (fun r11 h => ?_)
      refine s_iln l_De_make_28 rfl ?_
      refine s_ial l_De_make_29 rfl h (fun v12 h => ?_)
      refine s_ic (-1) l_De_make_30 rfl ?_
      refine s_ixor l_De_make_31 ?_
      refine s_goto l_De_make_32 ?_
      refine s_cvv (As := [.int (v12 ^^^ (-1))]) (r := []) l_De_make_45 rfl ⟨rfl, rfl⟩ rfl (Nat.le_of_ble_eq_true rfl) rfl ⟨Nat.zero_le _, Nat.zero_le _⟩ h (fun f14 h => ?_)
      refine s_inc 1 l_De_make_48 rfl rfl ?_
      refine s_goto l_De_make_51 ?_
      exact h
theorem l_De_copyOf_0 : xlk (xm_cd m_De_copyOf) 0 = some (.aload_n 0, 1, (0, 0, 0, [])) := rfl
theorem l_De_copyOf_1 : xlk (xm_cd m_De_copyOf) 1 = some (.aload_n 1, 1, (0, 0, 0, [])) := rfl
theorem l_De_copyOf_2 : xlk (xm_cd m_De_copyOf) 2 = some (.getfield 15, 3, (148, 3, 1, [])) := rfl
theorem l_De_copyOf_5 : xlk (xm_cd m_De_copyOf) 5 = some (.putfield 15, 3, (148, 3, 1, [(0, 0)])) := rfl
theorem l_De_copyOf_8 : xlk (xm_cd m_De_copyOf) 8 = some (.iconst 0, 1, (0, 0, 0, [])) := rfl
theorem l_De_copyOf_9 : xlk (xm_cd m_De_copyOf) 9 = some (.istore_n 2, 1, (0, 0, 0, [])) := rfl
theorem l_De_copyOf_10 : xlk (xm_cd m_De_copyOf) 10 = some (.iload_n 2, 1, (0, 0, 0, [])) := rfl
theorem l_De_copyOf_11 : xlk (xm_cd m_De_copyOf) 11 = some (.aload_n 0, 1, (0, 0, 0, [])) := rfl
theorem l_De_copyOf_12 : xlk (xm_cd m_De_copyOf) 12 = some (.getfield 15, 3, (148, 3, 1, [])) := rfl
theorem l_De_copyOf_15 : xlk (xm_cd m_De_copyOf) 15 = some (.if_icmp .ge 21, 3, (0, 36, 0, [])) := rfl
theorem l_De_copyOf_18 : xlk (xm_cd m_De_copyOf) 18 = some (.aload_n 0, 1, (0, 0, 0, [])) := rfl
theorem l_De_copyOf_19 : xlk (xm_cd m_De_copyOf) 19 = some (.getfield 9, 3, (147, 3, 0, [])) := rfl
theorem l_De_copyOf_22 : xlk (xm_cd m_De_copyOf) 22 = some (.iload_n 2, 1, (0, 0, 0, [])) := rfl
theorem l_De_copyOf_23 : xlk (xm_cd m_De_copyOf) 23 = some (.aload_n 1, 1, (0, 0, 0, [])) := rfl
theorem l_De_copyOf_24 : xlk (xm_cd m_De_copyOf) 24 = some (.getfield 9, 3, (147, 3, 0, [])) := rfl
theorem l_De_copyOf_27 : xlk (xm_cd m_De_copyOf) 27 = some (.iload_n 2, 1, (0, 0, 0, [])) := rfl
theorem l_De_copyOf_28 : xlk (xm_cd m_De_copyOf) 28 = some (.iaload, 1, (0, 0, 0, [])) := rfl
theorem l_De_copyOf_29 : xlk (xm_cd m_De_copyOf) 29 = some (.iastore, 1, (0, 0, 0, [])) := rfl
theorem l_De_copyOf_30 : xlk (xm_cd m_De_copyOf) 30 = some (.iinc 2 1, 3, (0, 0, 0, [])) := rfl
theorem l_De_copyOf_33 : xlk (xm_cd m_De_copyOf) 33 = some (.goto (-23), 3, (0, 10, 0, [])) := rfl
theorem l_De_copyOf_36 : xlk (xm_cd m_De_copyOf) 36 = some (.return_, 1, (0, 0, 0, [])) := rfl
def B_De_copyOf_0 (d : Nat) (E : Option Value → xH → Prop) (f : xH) (a0 : Nat) (a1 : Nat) : Prop :=
  xgi f a1 3 1 (fun v1 => xpf f a0 3 1 (.int v1) (fun f2 => xWp (xT0, xSp xT0 d, none, m_De_copyOf, E) 10 [some (.ref a0), some (.ref a1), some (.int 0)] [] f2 0 0))
theorem b_De_copyOf_0 {d : Nat} {E : Option Value → xH → Prop} {f : xH} {a0 : Nat} {a1 : Nat} (h : B_De_copyOf_0 d E f a0 a1) : xWp (xT0, xSp xT0 d, none, m_De_copyOf, E) 0 [some (.ref a0), some (.ref a1), none] [] f 0 0 := by
  unfold B_De_copyOf_0 at h
  refine s_aln l_De_copyOf_0 rfl ?_
  refine s_aln l_De_copyOf_1 rfl ?_
  refine s_gi l_De_copyOf_2 h (fun v1 h => ?_)
  refine s_pf l_De_copyOf_5 ⟨_, rfl⟩ h (fun f2 h => ?_)
  refine s_ic 0 l_De_copyOf_8 rfl ?_
  refine s_isn l_De_copyOf_9 (Nat.le_of_ble_eq_true rfl) ?_
  exact h
def B_De_copyOf_10 (d : Nat) (E : Option Value → xH → Prop) (f : xH) (a0 : Nat) (a1 : Nat) (x2 : Int32) : Prop :=
  xgi f a0 3 1 (fun v1 => xbr (v1 ≤ x2) (E none f) (xgr f a0 3 0 (fun r2 => xgr f a1 3 0 (fun r3 => xal f r3 0 x2 (fun v4 => xas f r2 0 x2 v4 (fun f5 => xWp (xT0, xSp xT0 d, none, m_De_copyOf, E) 10 [some (.ref a0), some (.ref a1), some (.int (x2 + 1))] [] f5 0 0))))))
theorem b_De_copyOf_10 {d : Nat} {E : Option Value → xH → Prop} {f : xH} {a0 : Nat} {a1 : Nat} {x2 : Int32} (h : B_De_copyOf_10 d E f a0 a1 x2) : xWp (xT0, xSp xT0 d, none, m_De_copyOf, E) 10 [some (.ref a0), some (.ref a1), some (.int x2)] [] f 0 0 := by
  unfold B_De_copyOf_10 at h
  refine s_iln l_De_copyOf_10 rfl ?_
  refine s_aln l_De_copyOf_11 rfl ?_
  refine s_gi l_De_copyOf_12 h (fun v1 h => ?_)
  refine s_ifc l_De_copyOf_15 h (fun h => ?_) (fun h => ?_)
  · exact s_ret l_De_copyOf_36 ⟨Nat.zero_le _, Nat.zero_le _⟩ h
  · refine s_aln l_De_copyOf_18 rfl ?_
    refine s_gr l_De_copyOf_19 h (fun r2 h => ?_)
    refine s_iln l_De_copyOf_22 rfl ?_
    refine s_aln l_De_copyOf_23 rfl ?_
    refine s_gr l_De_copyOf_24 h (fun r3 h => ?_)
    refine s_iln l_De_copyOf_27 rfl ?_
    refine s_ial l_De_copyOf_28 rfl h (fun v4 h => ?_)
    refine s_iast l_De_copyOf_29 h (fun f5 h => ?_)
    refine s_inc 1 l_De_copyOf_30 rfl rfl ?_
    refine s_goto l_De_copyOf_33 ?_
    exact h
theorem l_De_joinOf_0 : xlk (xm_cd m_De_joinOf) 0 = some (.aload_n 0, 1, (0, 0, 0, [])) := rfl
theorem l_De_joinOf_1 : xlk (xm_cd m_De_joinOf) 1 = some (.iconst 0, 1, (0, 0, 0, [])) := rfl
theorem l_De_joinOf_2 : xlk (xm_cd m_De_joinOf) 2 = some (.putfield 15, 3, (148, 3, 1, [(0, 0)])) := rfl
theorem l_De_joinOf_5 : xlk (xm_cd m_De_joinOf) 5 = some (.iconst 0, 1, (0, 0, 0, [])) := rfl
theorem l_De_joinOf_6 : xlk (xm_cd m_De_joinOf) 6 = some (.istore_n 3, 1, (0, 0, 0, [])) := rfl
theorem l_De_joinOf_7 : xlk (xm_cd m_De_joinOf) 7 = some (.iload_n 3, 1, (0, 0, 0, [])) := rfl
theorem l_De_joinOf_8 : xlk (xm_cd m_De_joinOf) 8 = some (.aload_n 2, 1, (0, 0, 0, [])) := rfl
theorem l_De_joinOf_9 : xlk (xm_cd m_De_joinOf) 9 = some (.getfield 15, 3, (148, 3, 1, [])) := rfl
theorem l_De_joinOf_12 : xlk (xm_cd m_De_joinOf) 12 = some (.if_icmp .ge 51, 3, (0, 63, 0, [])) := rfl
theorem l_De_joinOf_15 : xlk (xm_cd m_De_joinOf) 15 = some (.aload_n 2, 1, (0, 0, 0, [])) := rfl
theorem l_De_joinOf_16 : xlk (xm_cd m_De_joinOf) 16 = some (.getfield 9, 3, (147, 3, 0, [])) := rfl
theorem l_De_joinOf_19 : xlk (xm_cd m_De_joinOf) 19 = some (.iload_n 3, 1, (0, 0, 0, [])) := rfl
theorem l_De_joinOf_20 : xlk (xm_cd m_De_joinOf) 20 = some (.iaload, 1, (0, 0, 0, [])) := rfl
theorem l_De_joinOf_21 : xlk (xm_cd m_De_joinOf) 21 = some (.istore 4, 2, (0, 0, 0, [])) := rfl
theorem l_De_joinOf_23 : xlk (xm_cd m_De_joinOf) 23 = some (.iload 4, 2, (0, 0, 0, [])) := rfl
theorem l_De_joinOf_25 : xlk (xm_cd m_De_joinOf) 25 = some (.ifCond .ge 12, 3, (0, 37, 0, [])) := rfl
theorem l_De_joinOf_28 : xlk (xm_cd m_De_joinOf) 28 = some (.aload_n 0, 1, (0, 0, 0, [])) := rfl
theorem l_De_joinOf_29 : xlk (xm_cd m_De_joinOf) 29 = some (.iload 4, 2, (0, 0, 0, [])) := rfl
theorem l_De_joinOf_31 : xlk (xm_cd m_De_joinOf) 31 = some (.invokevirtual 19, 3, (479, 58, 1, [])) := rfl
theorem l_De_joinOf_34 : xlk (xm_cd m_De_joinOf) 34 = some (.goto 23, 3, (0, 57, 0, [])) := rfl
theorem l_De_joinOf_37 : xlk (xm_cd m_De_joinOf) 37 = some (.iload 4, 2, (0, 0, 0, [])) := rfl
theorem l_De_joinOf_39 : xlk (xm_cd m_De_joinOf) 39 = some (.aload_n 1, 1, (0, 0, 0, [])) := rfl
theorem l_De_joinOf_40 : xlk (xm_cd m_De_joinOf) 40 = some (.getfield 15, 3, (148, 3, 1, [])) := rfl
theorem l_De_joinOf_43 : xlk (xm_cd m_De_joinOf) 43 = some (.if_icmp .ge 14, 3, (0, 57, 0, [])) := rfl
theorem l_De_joinOf_46 : xlk (xm_cd m_De_joinOf) 46 = some (.aload_n 0, 1, (0, 0, 0, [])) := rfl
theorem l_De_joinOf_47 : xlk (xm_cd m_De_joinOf) 47 = some (.aload_n 1, 1, (0, 0, 0, [])) := rfl
theorem l_De_joinOf_48 : xlk (xm_cd m_De_joinOf) 48 = some (.getfield 9, 3, (147, 3, 0, [])) := rfl
theorem l_De_joinOf_51 : xlk (xm_cd m_De_joinOf) 51 = some (.iload 4, 2, (0, 0, 0, [])) := rfl
theorem l_De_joinOf_53 : xlk (xm_cd m_De_joinOf) 53 = some (.iaload, 1, (0, 0, 0, [])) := rfl
theorem l_De_joinOf_54 : xlk (xm_cd m_De_joinOf) 54 = some (.invokevirtual 19, 3, (479, 58, 1, [])) := rfl
theorem l_De_joinOf_57 : xlk (xm_cd m_De_joinOf) 57 = some (.iinc 3 1, 3, (0, 0, 0, [])) := rfl
theorem l_De_joinOf_60 : xlk (xm_cd m_De_joinOf) 60 = some (.goto (-53), 3, (0, 7, 0, [])) := rfl
theorem l_De_joinOf_63 : xlk (xm_cd m_De_joinOf) 63 = some (.return_, 1, (0, 0, 0, [])) := rfl
def B_De_joinOf_0 (d : Nat) (E : Option Value → xH → Prop) (f : xH) (a0 : Nat) (a1 : Nat) (a2 : Nat) : Prop :=
  xpf f a0 3 1 (.int 0) (fun f1 => xWp (xT0, xSp xT0 d, none, m_De_joinOf, E) 7 [some (.ref a0), some (.ref a1), some (.ref a2), some (.int 0), none] [] f1 0 0)
theorem b_De_joinOf_0 {d : Nat} {E : Option Value → xH → Prop} {f : xH} {a0 : Nat} {a1 : Nat} {a2 : Nat} (h : B_De_joinOf_0 d E f a0 a1 a2) : xWp (xT0, xSp xT0 d, none, m_De_joinOf, E) 0 [some (.ref a0), some (.ref a1), some (.ref a2), none, none] [] f 0 0 := by
  unfold B_De_joinOf_0 at h
  refine s_aln l_De_joinOf_0 rfl ?_
  refine s_ic 0 l_De_joinOf_1 rfl ?_
  refine s_pf l_De_joinOf_2 ⟨_, rfl⟩ h (fun f1 h => ?_)
  refine s_ic 0 l_De_joinOf_5 rfl ?_
  refine s_isn l_De_joinOf_6 (Nat.le_of_ble_eq_true rfl) ?_
  exact h
def B_De_joinOf_7 (d : Nat) (E : Option Value → xH → Prop) (f : xH) (a0 : Nat) (a1 : Nat) (a2 : Nat) (x3 : Int32) (u4 : Option Value) : Prop :=
  xgi f a2 3 1 (fun v1 => xbr (v1 ≤ x3) (E none f) (xgr f a2 3 0 (fun r2 => xal f r2 0 x3 (fun v3 => xbr ((0 : Int32) ≤ v3) (xgi f a1 3 1 (fun v4 => xbr (v4 ≤ v3) (xWp (xT0, xSp xT0 d, none, m_De_joinOf, E) 7 [some (.ref a0), some (.ref a1), some (.ref a2), some (.int (x3 + 1)), some (.int v3)] [] f 0 0) (xgr f a1 3 0 (fun r5 => xal f r5 0 v3 (fun v6 => (∃ fs, f a0 = some (xO 3 fs)) ∧ xSp xT0 d j_De_addOrigin [.ref a0, .int v6] f (fun w7 f8 => xvv w7 (xWp (xT0, xSp xT0 d, none, m_De_joinOf, E) 7 [some (.ref a0), some (.ref a1), some (.ref a2), some (.int (x3 + 1)), some (.int v3)] [] f8 0 0))))))) ((∃ fs, f a0 = some (xO 3 fs)) ∧ xSp xT0 d j_De_addOrigin [.ref a0, .int v3] f (fun w9 f10 => xvv w9 (xWp (xT0, xSp xT0 d, none, m_De_joinOf, E) 7 [some (.ref a0), some (.ref a1), some (.ref a2), some (.int (x3 + 1)), some (.int v3)] [] f10 0 0)))))))
theorem b_De_joinOf_7 {d : Nat} {E : Option Value → xH → Prop} {f : xH} {a0 : Nat} {a1 : Nat} {a2 : Nat} {x3 : Int32} {u4 : Option Value} (h : B_De_joinOf_7 d E f a0 a1 a2 x3 u4) : xWp (xT0, xSp xT0 d, none, m_De_joinOf, E) 7 [some (.ref a0), some (.ref a1), some (.ref a2), some (.int x3), u4] [] f 0 0 := by
  unfold B_De_joinOf_7 at h
  refine s_iln l_De_joinOf_7 rfl ?_
  refine s_aln l_De_joinOf_8 rfl ?_
  refine s_gi l_De_joinOf_9 h (fun v1 h => ?_)
  refine s_ifc l_De_joinOf_12 h (fun h => ?_) (fun h => ?_)
  · exact s_ret l_De_joinOf_63 ⟨Nat.zero_le _, Nat.zero_le _⟩ h
  · refine s_aln l_De_joinOf_15 rfl ?_
    refine s_gr l_De_joinOf_16 h (fun r2 h => ?_)
    refine s_iln l_De_joinOf_19 rfl ?_
    refine s_ial l_De_joinOf_20 rfl h (fun v3 h => ?_)
    refine s_is l_De_joinOf_21 (Nat.le_of_ble_eq_true rfl) ?_
    refine s_il l_De_joinOf_23 rfl ?_
    refine s_if l_De_joinOf_25 h (fun h => ?_) (fun h => ?_)
    · refine s_il l_De_joinOf_37 rfl ?_
      refine s_aln l_De_joinOf_39 rfl ?_
      refine s_gi l_De_joinOf_40 h (fun v4 h => ?_)
      refine s_ifc l_De_joinOf_43 h (fun h => ?_) (fun h => ?_)
      · refine s_inc 1 l_De_joinOf_57 rfl rfl ?_
        refine s_goto l_De_joinOf_60 ?_
        exact h
      · refine s_aln l_De_joinOf_46 rfl ?_
        refine s_aln l_De_joinOf_47 rfl ?_
        refine s_gr l_De_joinOf_48 h (fun r5 h => ?_)
        refine s_il l_De_joinOf_51 rfl ?_
        refine s_ial l_De_joinOf_53 rfl h (fun v6 h => ?_)
        refine s_cvv (As := [.int v6]) (r := []) l_De_joinOf_54 rfl ⟨rfl, rfl⟩ rfl (Nat.le_of_ble_eq_true rfl) rfl ⟨Nat.zero_le _, Nat.zero_le _⟩ h (fun f8 h => ?_)
        refine s_inc 1 l_De_joinOf_57 rfl rfl ?_
        refine s_goto l_De_joinOf_60 ?_
        exact h
    · refine s_aln l_De_joinOf_28 rfl ?_
      refine s_il l_De_joinOf_29 rfl ?_
      refine s_cvv (As := [.int v3]) (r := []) l_De_joinOf_31 rfl ⟨rfl, rfl⟩ rfl (Nat.le_of_ble_eq_true rfl) rfl ⟨Nat.zero_le _, Nat.zero_le _⟩ h (fun f10 h => ?_)
      refine s_goto l_De_joinOf_34 ?_
      refine s_inc 1 l_De_joinOf_57 rfl rfl ?_
      refine s_goto l_De_joinOf_60 ?_
      exact h
theorem l_De_isWhole_0 : xlk (xm_cd m_De_isWhole) 0 = some (.aload_n 0, 1, (0, 0, 0, [])) := rfl
theorem l_De_isWhole_1 : xlk (xm_cd m_De_isWhole) 1 = some (.getfield 15, 3, (148, 3, 1, [])) := rfl
theorem l_De_isWhole_4 : xlk (xm_cd m_De_isWhole) 4 = some (.iload_n 1, 1, (0, 0, 0, [])) := rfl
theorem l_De_isWhole_5 : xlk (xm_cd m_De_isWhole) 5 = some (.if_icmp .eq 5, 3, (0, 10, 0, [])) := rfl
theorem l_De_isWhole_8 : xlk (xm_cd m_De_isWhole) 8 = some (.iconst 0, 1, (0, 0, 0, [])) := rfl
theorem l_De_isWhole_9 : xlk (xm_cd m_De_isWhole) 9 = some (.ireturn, 1, (0, 0, 0, [])) := rfl
theorem l_De_isWhole_10 : xlk (xm_cd m_De_isWhole) 10 = some (.iconst 0, 1, (0, 0, 0, [])) := rfl
theorem l_De_isWhole_11 : xlk (xm_cd m_De_isWhole) 11 = some (.istore_n 2, 1, (0, 0, 0, [])) := rfl
theorem l_De_isWhole_12 : xlk (xm_cd m_De_isWhole) 12 = some (.iload_n 2, 1, (0, 0, 0, [])) := rfl
theorem l_De_isWhole_13 : xlk (xm_cd m_De_isWhole) 13 = some (.aload_n 0, 1, (0, 0, 0, [])) := rfl
theorem l_De_isWhole_14 : xlk (xm_cd m_De_isWhole) 14 = some (.getfield 15, 3, (148, 3, 1, [])) := rfl
theorem l_De_isWhole_17 : xlk (xm_cd m_De_isWhole) 17 = some (.if_icmp .ge 21, 3, (0, 38, 0, [])) := rfl
theorem l_De_isWhole_20 : xlk (xm_cd m_De_isWhole) 20 = some (.aload_n 0, 1, (0, 0, 0, [])) := rfl
theorem l_De_isWhole_21 : xlk (xm_cd m_De_isWhole) 21 = some (.getfield 9, 3, (147, 3, 0, [])) := rfl
theorem l_De_isWhole_24 : xlk (xm_cd m_De_isWhole) 24 = some (.iload_n 2, 1, (0, 0, 0, [])) := rfl
theorem l_De_isWhole_25 : xlk (xm_cd m_De_isWhole) 25 = some (.iaload, 1, (0, 0, 0, [])) := rfl
theorem l_De_isWhole_26 : xlk (xm_cd m_De_isWhole) 26 = some (.iload_n 2, 1, (0, 0, 0, [])) := rfl
theorem l_De_isWhole_27 : xlk (xm_cd m_De_isWhole) 27 = some (.if_icmp .eq 5, 3, (0, 32, 0, [])) := rfl
theorem l_De_isWhole_30 : xlk (xm_cd m_De_isWhole) 30 = some (.iconst 0, 1, (0, 0, 0, [])) := rfl
theorem l_De_isWhole_31 : xlk (xm_cd m_De_isWhole) 31 = some (.ireturn, 1, (0, 0, 0, [])) := rfl
theorem l_De_isWhole_32 : xlk (xm_cd m_De_isWhole) 32 = some (.iinc 2 1, 3, (0, 0, 0, [])) := rfl
theorem l_De_isWhole_35 : xlk (xm_cd m_De_isWhole) 35 = some (.goto (-23), 3, (0, 12, 0, [])) := rfl
theorem l_De_isWhole_38 : xlk (xm_cd m_De_isWhole) 38 = some (.iconst 1, 1, (0, 0, 0, [])) := rfl
theorem l_De_isWhole_39 : xlk (xm_cd m_De_isWhole) 39 = some (.ireturn, 1, (0, 0, 0, [])) := rfl
def B_De_isWhole_0 (d : Nat) (E : Option Value → xH → Prop) (f : xH) (a0 : Nat) (x1 : Int32) : Prop :=
  xgi f a0 3 1 (fun v1 => xbr (v1 = x1) (xWp (xT0, xSp xT0 d, none, m_De_isWhole, E) 12 [some (.ref a0), some (.int x1), some (.int 0)] [] f 0 0) (E (some (.int 0)) f))
theorem b_De_isWhole_0 {d : Nat} {E : Option Value → xH → Prop} {f : xH} {a0 : Nat} {x1 : Int32} (h : B_De_isWhole_0 d E f a0 x1) : xWp (xT0, xSp xT0 d, none, m_De_isWhole, E) 0 [some (.ref a0), some (.int x1), none] [] f 0 0 := by
  unfold B_De_isWhole_0 at h
  refine s_aln l_De_isWhole_0 rfl ?_
  refine s_gi l_De_isWhole_1 h (fun v1 h => ?_)
  refine s_iln l_De_isWhole_4 rfl ?_
  refine s_ifc l_De_isWhole_5 h (fun h => ?_) (fun h => ?_)
  · refine s_ic 0 l_De_isWhole_10 rfl ?_
    refine s_isn l_De_isWhole_11 (Nat.le_of_ble_eq_true rfl) ?_
    exact h
  · refine s_ic 0 l_De_isWhole_8 rfl ?_
    exact s_zret l_De_isWhole_9 rfl ⟨Nat.zero_le _, Nat.zero_le _⟩ ⟨Or.inl rfl, h⟩
def B_De_isWhole_12 (d : Nat) (E : Option Value → xH → Prop) (f : xH) (a0 : Nat) (x1 : Int32) (x2 : Int32) : Prop :=
  xgi f a0 3 1 (fun v1 => xbr (v1 ≤ x2) (E (some (.int 1)) f) (xgr f a0 3 0 (fun r2 => xal f r2 0 x2 (fun v3 => xbr (v3 = x2) (xWp (xT0, xSp xT0 d, none, m_De_isWhole, E) 12 [some (.ref a0), some (.int x1), some (.int (x2 + 1))] [] f 0 0) (E (some (.int 0)) f)))))
theorem b_De_isWhole_12 {d : Nat} {E : Option Value → xH → Prop} {f : xH} {a0 : Nat} {x1 : Int32} {x2 : Int32} (h : B_De_isWhole_12 d E f a0 x1 x2) : xWp (xT0, xSp xT0 d, none, m_De_isWhole, E) 12 [some (.ref a0), some (.int x1), some (.int x2)] [] f 0 0 := by
  unfold B_De_isWhole_12 at h
  refine s_iln l_De_isWhole_12 rfl ?_
  refine s_aln l_De_isWhole_13 rfl ?_
  refine s_gi l_De_isWhole_14 h (fun v1 h => ?_)
  refine s_ifc l_De_isWhole_17 h (fun h => ?_) (fun h => ?_)
  · refine s_ic 1 l_De_isWhole_38 rfl ?_
    exact s_zret l_De_isWhole_39 rfl ⟨Nat.zero_le _, Nat.zero_le _⟩ ⟨Or.inr rfl, h⟩
  · refine s_aln l_De_isWhole_20 rfl ?_
    refine s_gr l_De_isWhole_21 h (fun r2 h => ?_)
    refine s_iln l_De_isWhole_24 rfl ?_
    refine s_ial l_De_isWhole_25 rfl h (fun v3 h => ?_)
    refine s_iln l_De_isWhole_26 rfl ?_
    refine s_ifc l_De_isWhole_27 h (fun h => ?_) (fun h => ?_)
    · refine s_inc 1 l_De_isWhole_32 rfl rfl ?_
      refine s_goto l_De_isWhole_35 ?_
      exact h
    · refine s_ic 0 l_De_isWhole_30 rfl ?_
      exact s_zret l_De_isWhole_31 rfl ⟨Nat.zero_le _, Nat.zero_le _⟩ ⟨Or.inl rfl, h⟩
