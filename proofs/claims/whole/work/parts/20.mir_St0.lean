/-! blocks of St, 0 -/
theorem l_St_setSource_0 : xlk (xm_cd m_St_setSource) 0 = some (.aload_n 0, 1, (0, 0, 0, [])) := rfl
theorem l_St_setSource_1 : xlk (xm_cd m_St_setSource) 1 = some (.getfield 20, 3, (152, 4, 1, [])) := rfl
theorem l_St_setSource_4 : xlk (xm_cd m_St_setSource) 4 = some (.aload_n 1, 1, (0, 0, 0, [])) := rfl
theorem l_St_setSource_5 : xlk (xm_cd m_St_setSource) 5 = some (.invokevirtual 71, 3, (455, 19, 1, [])) := rfl
theorem l_St_setSource_8 : xlk (xm_cd m_St_setSource) 8 = some (.aload_n 0, 1, (0, 0, 0, [])) := rfl
theorem l_St_setSource_9 : xlk (xm_cd m_St_setSource) 9 = some (.aload_n 0, 1, (0, 0, 0, [])) := rfl
theorem l_St_setSource_10 : xlk (xm_cd m_St_setSource) 10 = some (.invokevirtual 49, 3, (456, 53, 0, [])) := rfl
theorem l_St_setSource_13 : xlk (xm_cd m_St_setSource) 13 = some (.ifCond .eq 10, 3, (0, 23, 0, [])) := rfl
theorem l_St_setSource_16 : xlk (xm_cd m_St_setSource) 16 = some (.aload_n 2, 1, (0, 0, 0, [])) := rfl
theorem l_St_setSource_17 : xlk (xm_cd m_St_setSource) 17 = some (.invokevirtual 60, 3, (460, 12, 0, [])) := rfl
theorem l_St_setSource_20 : xlk (xm_cd m_St_setSource) 20 = some (.goto 5, 3, (0, 25, 0, [])) := rfl
theorem l_St_setSource_23 : xlk (xm_cd m_St_setSource) 23 = some (.bipush (-2), 2, (0, 0, 0, [])) := rfl
theorem l_St_setSource_25 : xlk (xm_cd m_St_setSource) 25 = some (.putfield 37, 3, (156, 4, 5, [(0, 0)])) := rfl
theorem l_St_setSource_28 : xlk (xm_cd m_St_setSource) 28 = some (.aload_n 0, 1, (0, 0, 0, [])) := rfl
theorem l_St_setSource_29 : xlk (xm_cd m_St_setSource) 29 = some (.aload_n 0, 1, (0, 0, 0, [])) := rfl
theorem l_St_setSource_30 : xlk (xm_cd m_St_setSource) 30 = some (.invokevirtual 49, 3, (456, 53, 0, [])) := rfl
theorem l_St_setSource_33 : xlk (xm_cd m_St_setSource) 33 = some (.ifCond .eq 10, 3, (0, 43, 0, [])) := rfl
theorem l_St_setSource_36 : xlk (xm_cd m_St_setSource) 36 = some (.aload_n 2, 1, (0, 0, 0, [])) := rfl
theorem l_St_setSource_37 : xlk (xm_cd m_St_setSource) 37 = some (.invokevirtual 64, 3, (461, 41, 0, [])) := rfl
theorem l_St_setSource_40 : xlk (xm_cd m_St_setSource) 40 = some (.goto 5, 3, (0, 45, 0, [])) := rfl
theorem l_St_setSource_43 : xlk (xm_cd m_St_setSource) 43 = some (.bipush (-2), 2, (0, 0, 0, [])) := rfl
theorem l_St_setSource_45 : xlk (xm_cd m_St_setSource) 45 = some (.putfield 40, 3, (157, 4, 6, [(0, 0)])) := rfl
theorem l_St_setSource_48 : xlk (xm_cd m_St_setSource) 48 = some (.return_, 1, (0, 0, 0, [])) := rfl
def B_St_setSource_0 (d : Nat) (E : Option Value → xH → Prop) (f : xH) (a0 : Nat) (a1 : Nat) (a2 : Nat) : Prop :=
  xgr f a0 4 1 (fun r1 => (∃ fs, f r1 = some (xO 1 fs)) ∧ xSp xT0 d j_By_copyOf [.ref r1, .ref a1] f (fun w2 f3 => xvv w2 ((∃ fs, f3 a0 = some (xO 4 fs)) ∧ xSp xT0 d j_St_hasSource [.ref a0] f3 (fun w4 f5 => xvi w4 (fun v6 => xbr (v6 = 0) (xWp (xT0, xSp xT0 d, none, m_St_setSource, E) 25 [some (.ref a0), some (.ref a1), some (.ref a2)] [.int (-2), .ref a0] f5 0 0) ((∃ fs, f5 a2 = some (xO 1 fs)) ∧ xSp xT0 d j_By_size [.ref a2] f5 (fun w7 f8 => xvi w7 (fun v9 => xWp (xT0, xSp xT0 d, none, m_St_setSource, E) 25 [some (.ref a0), some (.ref a1), some (.ref a2)] [.int v9, .ref a0] f8 0 0))))))))
theorem b_St_setSource_0 {d : Nat} {E : Option Value → xH → Prop} {f : xH} {a0 : Nat} {a1 : Nat} {a2 : Nat} (h : B_St_setSource_0 d E f a0 a1 a2) : xWp (xT0, xSp xT0 d, none, m_St_setSource, E) 0 [some (.ref a0), some (.ref a1), some (.ref a2)] [] f 0 0 := by
  unfold B_St_setSource_0 at h
  refine s_aln l_St_setSource_0 rfl ?_
  refine s_gr l_St_setSource_1 h (fun r1 h => ?_)
  refine s_aln l_St_setSource_4 rfl ?_
  refine s_cvv (As := [.ref a1]) (r := []) l_St_setSource_5 rfl ⟨rfl, rfl⟩ rfl (Nat.le_of_ble_eq_true rfl) rfl ⟨Nat.zero_le _, Nat.zero_le _⟩ h (fun f3 h => ?_)
  refine s_aln l_St_setSource_8 rfl ?_
  refine s_aln l_St_setSource_9 rfl ?_
  refine s_cvi (As := []) (r := [.ref a0]) l_St_setSource_10 rfl ⟨rfl, rfl⟩ rfl (Nat.le_of_ble_eq_true rfl) rfl ⟨Nat.zero_le _, Nat.zero_le _⟩ h (fun v6 f5 h => ?_)
  refine s_if l_St_setSource_13 h (fun h => ?_) (fun h => ?_)
  · refine s_bp (-2) l_St_setSource_23 rfl ?_
    exact h
  · refine s_aln l_St_setSource_16 rfl ?_
    refine s_cvi (As := []) (r := [.ref a0]) l_St_setSource_17 rfl ⟨rfl, rfl⟩ rfl (Nat.le_of_ble_eq_true rfl) rfl ⟨Nat.zero_le _, Nat.zero_le _⟩ h (fun v9 f8 h => ?_)
    refine s_goto l_St_setSource_20 ?_
    exact h
def B_St_setSource_25 (d : Nat) (E : Option Value → xH → Prop) (f : xH) (a0 : Nat) (a1 : Nat) (a2 : Nat) (s0 : Int32) (s1 : Nat) : Prop :=
  xpf f s1 4 5 (.int s0) (fun f1 => (∃ fs, f1 a0 = some (xO 4 fs)) ∧ xSp xT0 d j_St_hasSource [.ref a0] f1 (fun w2 f3 => xvi w2 (fun v4 => xbr (v4 = 0) (xpf f3 a0 4 6 (.int (-2)) (fun f5 => E none f5)) ((∃ fs, f3 a2 = some (xO 1 fs)) ∧ xSp xT0 d j_By_sum [.ref a2] f3 (fun w6 f7 => xvi w6 (fun v8 => xpf f7 a0 4 6 (.int v8) (fun f9 => E none f9)))))))
theorem b_St_setSource_25 {d : Nat} {E : Option Value → xH → Prop} {f : xH} {a0 : Nat} {a1 : Nat} {a2 : Nat} {s0 : Int32} {s1 : Nat} (h : B_St_setSource_25 d E f a0 a1 a2 s0 s1) : xWp (xT0, xSp xT0 d, none, m_St_setSource, E) 25 [some (.ref a0), some (.ref a1), some (.ref a2)] [.int s0, .ref s1] f 0 0 := by
  unfold B_St_setSource_25 at h
  refine s_pf l_St_setSource_25 ⟨_, rfl⟩ h (fun f1 h => ?_)
  refine s_aln l_St_setSource_28 rfl ?_
  refine s_aln l_St_setSource_29 rfl ?_
  refine s_cvi (As := []) (r := [.ref a0]) l_St_setSource_30 rfl ⟨rfl, rfl⟩ rfl (Nat.le_of_ble_eq_true rfl) rfl ⟨Nat.zero_le _, Nat.zero_le _⟩ h (fun v4 f3 h => ?_)
  refine s_if l_St_setSource_33 h (fun h => ?_) (fun h => ?_)
  · refine s_bp (-2) l_St_setSource_43 rfl ?_
    refine s_pf l_St_setSource_45 ⟨_, rfl⟩ h (fun f5 h => ?_)
    exact s_ret l_St_setSource_48 ⟨Nat.zero_le _, Nat.zero_le _⟩ h
  · refine s_aln l_St_setSource_36 rfl ?_
    refine s_cvi (As := []) (r := [.ref a0]) l_St_setSource_37 rfl ⟨rfl, rfl⟩ rfl (Nat.le_of_ble_eq_true rfl) rfl ⟨Nat.zero_le _, Nat.zero_le _⟩ h (fun v8 f7 h => ?_)
    refine s_goto l_St_setSource_40 ?_
    refine s_pf l_St_setSource_45 ⟨_, rfl⟩ h (fun f9 h => ?_)
    exact s_ret l_St_setSource_48 ⟨Nat.zero_le _, Nat.zero_le _⟩ h
theorem l_St_hasSource_0 : xlk (xm_cd m_St_hasSource) 0 = some (.aload_n 0, 1, (0, 0, 0, [])) := rfl
theorem l_St_hasSource_1 : xlk (xm_cd m_St_hasSource) 1 = some (.getfield 33, 3, (155, 4, 4, [])) := rfl
theorem l_St_hasSource_4 : xlk (xm_cd m_St_hasSource) 4 = some (.ifCond .eq 7, 3, (0, 11, 0, [])) := rfl
theorem l_St_hasSource_7 : xlk (xm_cd m_St_hasSource) 7 = some (.iconst 1, 1, (0, 0, 0, [])) := rfl
theorem l_St_hasSource_8 : xlk (xm_cd m_St_hasSource) 8 = some (.goto 4, 3, (0, 12, 0, [])) := rfl
theorem l_St_hasSource_11 : xlk (xm_cd m_St_hasSource) 11 = some (.iconst 0, 1, (0, 0, 0, [])) := rfl
theorem l_St_hasSource_12 : xlk (xm_cd m_St_hasSource) 12 = some (.ireturn, 1, (0, 0, 0, [])) := rfl
def B_St_hasSource_0 (d : Nat) (E : Option Value → xH → Prop) (f : xH) (a0 : Nat) : Prop :=
  xgi f a0 4 4 (fun v1 => xbr (v1 = 0) (E (some (.int 0)) f) (E (some (.int 1)) f))
theorem b_St_hasSource_0 {d : Nat} {E : Option Value → xH → Prop} {f : xH} {a0 : Nat} (h : B_St_hasSource_0 d E f a0) : xWp (xT0, xSp xT0 d, none, m_St_hasSource, E) 0 [some (.ref a0)] [] f 0 0 := by
  unfold B_St_hasSource_0 at h
  refine s_aln l_St_hasSource_0 rfl ?_
  refine s_gi l_St_hasSource_1 h (fun v1 h => ?_)
  refine s_if l_St_hasSource_4 h (fun h => ?_) (fun h => ?_)
  · refine s_ic 0 l_St_hasSource_11 rfl ?_
    exact s_zret l_St_hasSource_12 rfl ⟨Nat.zero_le _, Nat.zero_le _⟩ ⟨Or.inl rfl, h⟩
  · refine s_ic 1 l_St_hasSource_7 rfl ?_
    refine s_goto l_St_hasSource_8 ?_
    exact s_zret l_St_hasSource_12 rfl ⟨Nat.zero_le _, Nat.zero_le _⟩ ⟨Or.inr rfl, h⟩
theorem l_St_setTarget_0 : xlk (xm_cd m_St_setTarget) 0 = some (.aload_n 0, 1, (0, 0, 0, [])) := rfl
theorem l_St_setTarget_1 : xlk (xm_cd m_St_setTarget) 1 = some (.getfield 14, 3, (151, 4, 0, [])) := rfl
theorem l_St_setTarget_4 : xlk (xm_cd m_St_setTarget) 4 = some (.aload_n 1, 1, (0, 0, 0, [])) := rfl
theorem l_St_setTarget_5 : xlk (xm_cd m_St_setTarget) 5 = some (.invokevirtual 71, 3, (455, 19, 1, [])) := rfl
theorem l_St_setTarget_8 : xlk (xm_cd m_St_setTarget) 8 = some (.aload_n 0, 1, (0, 0, 0, [])) := rfl
theorem l_St_setTarget_9 : xlk (xm_cd m_St_setTarget) 9 = some (.aload_n 0, 1, (0, 0, 0, [])) := rfl
theorem l_St_setTarget_10 : xlk (xm_cd m_St_setTarget) 10 = some (.invokevirtual 57, 3, (466, 55, 0, [])) := rfl
theorem l_St_setTarget_13 : xlk (xm_cd m_St_setTarget) 13 = some (.ifCond .eq 10, 3, (0, 23, 0, [])) := rfl
theorem l_St_setTarget_16 : xlk (xm_cd m_St_setTarget) 16 = some (.aload_n 2, 1, (0, 0, 0, [])) := rfl
theorem l_St_setTarget_17 : xlk (xm_cd m_St_setTarget) 17 = some (.invokevirtual 60, 3, (460, 12, 0, [])) := rfl
theorem l_St_setTarget_20 : xlk (xm_cd m_St_setTarget) 20 = some (.goto 5, 3, (0, 25, 0, [])) := rfl
theorem l_St_setTarget_23 : xlk (xm_cd m_St_setTarget) 23 = some (.bipush (-2), 2, (0, 0, 0, [])) := rfl
theorem l_St_setTarget_25 : xlk (xm_cd m_St_setTarget) 25 = some (.putfield 43, 3, (158, 4, 7, [(0, 0)])) := rfl
theorem l_St_setTarget_28 : xlk (xm_cd m_St_setTarget) 28 = some (.aload_n 0, 1, (0, 0, 0, [])) := rfl
theorem l_St_setTarget_29 : xlk (xm_cd m_St_setTarget) 29 = some (.aload_n 0, 1, (0, 0, 0, [])) := rfl
theorem l_St_setTarget_30 : xlk (xm_cd m_St_setTarget) 30 = some (.invokevirtual 57, 3, (466, 55, 0, [])) := rfl
theorem l_St_setTarget_33 : xlk (xm_cd m_St_setTarget) 33 = some (.ifCond .eq 10, 3, (0, 43, 0, [])) := rfl
theorem l_St_setTarget_36 : xlk (xm_cd m_St_setTarget) 36 = some (.aload_n 2, 1, (0, 0, 0, [])) := rfl
theorem l_St_setTarget_37 : xlk (xm_cd m_St_setTarget) 37 = some (.invokevirtual 64, 3, (461, 41, 0, [])) := rfl
theorem l_St_setTarget_40 : xlk (xm_cd m_St_setTarget) 40 = some (.goto 5, 3, (0, 45, 0, [])) := rfl
theorem l_St_setTarget_43 : xlk (xm_cd m_St_setTarget) 43 = some (.bipush (-2), 2, (0, 0, 0, [])) := rfl
theorem l_St_setTarget_45 : xlk (xm_cd m_St_setTarget) 45 = some (.putfield 46, 3, (159, 4, 8, [(0, 0)])) := rfl
theorem l_St_setTarget_48 : xlk (xm_cd m_St_setTarget) 48 = some (.return_, 1, (0, 0, 0, [])) := rfl
def B_St_setTarget_0 (d : Nat) (E : Option Value → xH → Prop) (f : xH) (a0 : Nat) (a1 : Nat) (a2 : Nat) : Prop :=
  xgr f a0 4 0 (fun r1 => (∃ fs, f r1 = some (xO 1 fs)) ∧ xSp xT0 d j_By_copyOf [.ref r1, .ref a1] f (fun w2 f3 => xvv w2 ((∃ fs, f3 a0 = some (xO 4 fs)) ∧ xSp xT0 d j_St_hasTarget [.ref a0] f3 (fun w4 f5 => xvi w4 (fun v6 => xbr (v6 = 0) (xWp (xT0, xSp xT0 d, none, m_St_setTarget, E) 25 [some (.ref a0), some (.ref a1), some (.ref a2)] [.int (-2), .ref a0] f5 0 0) ((∃ fs, f5 a2 = some (xO 1 fs)) ∧ xSp xT0 d j_By_size [.ref a2] f5 (fun w7 f8 => xvi w7 (fun v9 => xWp (xT0, xSp xT0 d, none, m_St_setTarget, E) 25 [some (.ref a0), some (.ref a1), some (.ref a2)] [.int v9, .ref a0] f8 0 0))))))))
theorem b_St_setTarget_0 {d : Nat} {E : Option Value → xH → Prop} {f : xH} {a0 : Nat} {a1 : Nat} {a2 : Nat} (h : B_St_setTarget_0 d E f a0 a1 a2) : xWp (xT0, xSp xT0 d, none, m_St_setTarget, E) 0 [some (.ref a0), some (.ref a1), some (.ref a2)] [] f 0 0 := by
  unfold B_St_setTarget_0 at h
  refine s_aln l_St_setTarget_0 rfl ?_
  refine s_gr l_St_setTarget_1 h (fun r1 h => ?_)
  refine s_aln l_St_setTarget_4 rfl ?_
  refine s_cvv (As := [.ref a1]) (r := []) l_St_setTarget_5 rfl ⟨rfl, rfl⟩ rfl (Nat.le_of_ble_eq_true rfl) rfl ⟨Nat.zero_le _, Nat.zero_le _⟩ h (fun f3 h => ?_)
  refine s_aln l_St_setTarget_8 rfl ?_
  refine s_aln l_St_setTarget_9 rfl ?_
  refine s_cvi (As := []) (r := [.ref a0]) l_St_setTarget_10 rfl ⟨rfl, rfl⟩ rfl (Nat.le_of_ble_eq_true rfl) rfl ⟨Nat.zero_le _, Nat.zero_le _⟩ h (fun v6 f5 h => ?_)
  refine s_if l_St_setTarget_13 h (fun h => ?_) (fun h => ?_)
  · refine s_bp (-2) l_St_setTarget_23 rfl ?_
    exact h
  · refine s_aln l_St_setTarget_16 rfl ?_
    refine s_cvi (As := []) (r := [.ref a0]) l_St_setTarget_17 rfl ⟨rfl, rfl⟩ rfl (Nat.le_of_ble_eq_true rfl) rfl ⟨Nat.zero_le _, Nat.zero_le _⟩ h (fun v9 f8 h => ?_)
    refine s_goto l_St_setTarget_20 ?_
    exact h
def B_St_setTarget_25 (d : Nat) (E : Option Value → xH → Prop) (f : xH) (a0 : Nat) (a1 : Nat) (a2 : Nat) (s0 : Int32) (s1 : Nat) : Prop :=
  xpf f s1 4 7 (.int s0) (fun f1 => (∃ fs, f1 a0 = some (xO 4 fs)) ∧ xSp xT0 d j_St_hasTarget [.ref a0] f1 (fun w2 f3 => xvi w2 (fun v4 => xbr (v4 = 0) (xpf f3 a0 4 8 (.int (-2)) (fun f5 => E none f5)) ((∃ fs, f3 a2 = some (xO 1 fs)) ∧ xSp xT0 d j_By_sum [.ref a2] f3 (fun w6 f7 => xvi w6 (fun v8 => xpf f7 a0 4 8 (.int v8) (fun f9 => E none f9)))))))
theorem b_St_setTarget_25 {d : Nat} {E : Option Value → xH → Prop} {f : xH} {a0 : Nat} {a1 : Nat} {a2 : Nat} {s0 : Int32} {s1 : Nat} (h : B_St_setTarget_25 d E f a0 a1 a2 s0 s1) : xWp (xT0, xSp xT0 d, none, m_St_setTarget, E) 25 [some (.ref a0), some (.ref a1), some (.ref a2)] [.int s0, .ref s1] f 0 0 := by
  unfold B_St_setTarget_25 at h
  refine s_pf l_St_setTarget_25 ⟨_, rfl⟩ h (fun f1 h => ?_)
  refine s_aln l_St_setTarget_28 rfl ?_
  refine s_aln l_St_setTarget_29 rfl ?_
  refine s_cvi (As := []) (r := [.ref a0]) l_St_setTarget_30 rfl ⟨rfl, rfl⟩ rfl (Nat.le_of_ble_eq_true rfl) rfl ⟨Nat.zero_le _, Nat.zero_le _⟩ h (fun v4 f3 h => ?_)
  refine s_if l_St_setTarget_33 h (fun h => ?_) (fun h => ?_)
  · refine s_bp (-2) l_St_setTarget_43 rfl ?_
    refine s_pf l_St_setTarget_45 ⟨_, rfl⟩ h (fun f5 h => ?_)
    exact s_ret l_St_setTarget_48 ⟨Nat.zero_le _, Nat.zero_le _⟩ h
  · refine s_aln l_St_setTarget_36 rfl ?_
    refine s_cvi (As := []) (r := [.ref a0]) l_St_setTarget_37 rfl ⟨rfl, rfl⟩ rfl (Nat.le_of_ble_eq_true rfl) rfl ⟨Nat.zero_le _, Nat.zero_le _⟩ h (fun v8 f7 h => ?_)
    refine s_goto l_St_setTarget_40 ?_
    refine s_pf l_St_setTarget_45 ⟨_, rfl⟩ h (fun f9 h => ?_)
    exact s_ret l_St_setTarget_48 ⟨Nat.zero_le _, Nat.zero_le _⟩ h
theorem l_St_hasTarget_0 : xlk (xm_cd m_St_hasTarget) 0 = some (.aload_n 0, 1, (0, 0, 0, [])) := rfl
theorem l_St_hasTarget_1 : xlk (xm_cd m_St_hasTarget) 1 = some (.getfield 33, 3, (155, 4, 4, [])) := rfl
theorem l_St_hasTarget_4 : xlk (xm_cd m_St_hasTarget) 4 = some (.iconst 1, 1, (0, 0, 0, [])) := rfl
theorem l_St_hasTarget_5 : xlk (xm_cd m_St_hasTarget) 5 = some (.if_icmp .eq 7, 3, (0, 12, 0, [])) := rfl
theorem l_St_hasTarget_8 : xlk (xm_cd m_St_hasTarget) 8 = some (.iconst 1, 1, (0, 0, 0, [])) := rfl
theorem l_St_hasTarget_9 : xlk (xm_cd m_St_hasTarget) 9 = some (.goto 4, 3, (0, 13, 0, [])) := rfl
theorem l_St_hasTarget_12 : xlk (xm_cd m_St_hasTarget) 12 = some (.iconst 0, 1, (0, 0, 0, [])) := rfl
theorem l_St_hasTarget_13 : xlk (xm_cd m_St_hasTarget) 13 = some (.ireturn, 1, (0, 0, 0, [])) := rfl
def B_St_hasTarget_0 (d : Nat) (E : Option Value → xH → Prop) (f : xH) (a0 : Nat) : Prop :=
  xgi f a0 4 4 (fun v1 => xbr (v1 = 1) (E (some (.int 0)) f) (E (some (.int 1)) f))
theorem b_St_hasTarget_0 {d : Nat} {E : Option Value → xH → Prop} {f : xH} {a0 : Nat} (h : B_St_hasTarget_0 d E f a0) : xWp (xT0, xSp xT0 d, none, m_St_hasTarget, E) 0 [some (.ref a0)] [] f 0 0 := by
  unfold B_St_hasTarget_0 at h
  refine s_aln l_St_hasTarget_0 rfl ?_
  refine s_gi l_St_hasTarget_1 h (fun v1 h => ?_)
  refine s_ic 1 l_St_hasTarget_4 rfl ?_
  refine s_ifc l_St_hasTarget_5 h (fun h => ?_) (fun h => ?_)
  · refine s_ic 0 l_St_hasTarget_12 rfl ?_
    exact s_zret l_St_hasTarget_13 rfl ⟨Nat.zero_le _, Nat.zero_le _⟩ ⟨Or.inl rfl, h⟩
  · refine s_ic 1 l_St_hasTarget_8 rfl ?_
    refine s_goto l_St_hasTarget_9 ?_
    exact s_zret l_St_hasTarget_13 rfl ⟨Nat.zero_le _, Nat.zero_le _⟩ ⟨Or.inr rfl, h⟩
theorem l_St_isBehind_0 : xlk (xm_cd m_St_isBehind) 0 = some (.aload_n 0, 1, (0, 0, 0, [])) := rfl
theorem l_St_isBehind_1 : xlk (xm_cd m_St_isBehind) 1 = some (.getfield 14, 3, (151, 4, 0, [])) := rfl
theorem l_St_isBehind_4 : xlk (xm_cd m_St_isBehind) 4 = some (.aload_n 1, 1, (0, 0, 0, [])) := rfl
theorem l_St_isBehind_5 : xlk (xm_cd m_St_isBehind) 5 = some (.getfield 14, 3, (151, 4, 0, [])) := rfl
theorem l_St_isBehind_8 : xlk (xm_cd m_St_isBehind) 8 = some (.invokevirtual 67, 3, (519, 30, 1, [])) := rfl
theorem l_St_isBehind_11 : xlk (xm_cd m_St_isBehind) 11 = some (.istore_n 2, 1, (0, 0, 0, [])) := rfl
theorem l_St_isBehind_12 : xlk (xm_cd m_St_isBehind) 12 = some (.iload_n 2, 1, (0, 0, 0, [])) := rfl
theorem l_St_isBehind_13 : xlk (xm_cd m_St_isBehind) 13 = some (.ifCond .gt 23, 3, (0, 36, 0, [])) := rfl
theorem l_St_isBehind_16 : xlk (xm_cd m_St_isBehind) 16 = some (.iload_n 2, 1, (0, 0, 0, [])) := rfl
theorem l_St_isBehind_17 : xlk (xm_cd m_St_isBehind) 17 = some (.ifCond .ne 23, 3, (0, 40, 0, [])) := rfl
theorem l_St_isBehind_20 : xlk (xm_cd m_St_isBehind) 20 = some (.aload_n 0, 1, (0, 0, 0, [])) := rfl
theorem l_St_isBehind_21 : xlk (xm_cd m_St_isBehind) 21 = some (.getfield 33, 3, (155, 4, 4, [])) := rfl
theorem l_St_isBehind_24 : xlk (xm_cd m_St_isBehind) 24 = some (.iconst 1, 1, (0, 0, 0, [])) := rfl
theorem l_St_isBehind_25 : xlk (xm_cd m_St_isBehind) 25 = some (.if_icmp .eq 15, 3, (0, 40, 0, [])) := rfl
theorem l_St_isBehind_28 : xlk (xm_cd m_St_isBehind) 28 = some (.aload_n 1, 1, (0, 0, 0, [])) := rfl
theorem l_St_isBehind_29 : xlk (xm_cd m_St_isBehind) 29 = some (.getfield 33, 3, (155, 4, 4, [])) := rfl
theorem l_St_isBehind_32 : xlk (xm_cd m_St_isBehind) 32 = some (.iconst 1, 1, (0, 0, 0, [])) := rfl
theorem l_St_isBehind_33 : xlk (xm_cd m_St_isBehind) 33 = some (.if_icmp .ne 7, 3, (0, 40, 0, [])) := rfl
theorem l_St_isBehind_36 : xlk (xm_cd m_St_isBehind) 36 = some (.iconst 1, 1, (0, 0, 0, [])) := rfl
theorem l_St_isBehind_37 : xlk (xm_cd m_St_isBehind) 37 = some (.goto 4, 3, (0, 41, 0, [])) := rfl
theorem l_St_isBehind_40 : xlk (xm_cd m_St_isBehind) 40 = some (.iconst 0, 1, (0, 0, 0, [])) := rfl
theorem l_St_isBehind_41 : xlk (xm_cd m_St_isBehind) 41 = some (.ireturn, 1, (0, 0, 0, [])) := rfl
def B_St_isBehind_0 (d : Nat) (E : Option Value → xH → Prop) (f : xH) (a0 : Nat) (a1 : Nat) : Prop :=
  xgr f a0 4 0 (fun r1 => xgr f a1 4 0 (fun r2 => (∃ fs, f r1 = some (xO 1 fs)) ∧ xSp xT0 d j_By_order [.ref r1, .ref r2] f (fun w3 f4 => xvi w3 (fun v5 => xbr ((0 : Int32) < v5) (E (some (.int 1)) f4) (xbr (¬ v5 = 0) (E (some (.int 0)) f4) (xgi f4 a0 4 4 (fun v6 => xbr (v6 = 1) (E (some (.int 0)) f4) (xgi f4 a1 4 4 (fun v7 => xbr (¬ v7 = 1) (E (some (.int 0)) f4) (E (some (.int 1)) f4))))))))))
theorem b_St_isBehind_0 {d : Nat} {E : Option Value → xH → Prop} {f : xH} {a0 : Nat} {a1 : Nat} (h : B_St_isBehind_0 d E f a0 a1) : xWp (xT0, xSp xT0 d, none, m_St_isBehind, E) 0 [some (.ref a0), some (.ref a1), none] [] f 0 0 := by
  unfold B_St_isBehind_0 at h
  refine s_aln l_St_isBehind_0 rfl ?_
  refine s_gr l_St_isBehind_1 h (fun r1 h => ?_)
  refine s_aln l_St_isBehind_4 rfl ?_
  refine s_gr l_St_isBehind_5 h (fun r2 h => ?_)
  refine s_cvi (As := [.ref r2]) (r := []) l_St_isBehind_8 rfl ⟨rfl, rfl⟩ rfl (Nat.le_of_ble_eq_true rfl) rfl ⟨Nat.zero_le _, Nat.zero_le _⟩ h (fun v5 f4 h => ?_)
  refine s_isn l_St_isBehind_11 (Nat.le_of_ble_eq_true rfl) ?_
  refine s_iln l_St_isBehind_12 rfl ?_
  refine s_if l_St_isBehind_13 h (fun h => ?_) (fun h => ?_)
  · refine s_ic 1 l_St_isBehind_36 rfl ?_
    refine s_goto l_St_isBehind_37 ?_
    exact s_zret l_St_isBehind_41 rfl ⟨Nat.zero_le _, Nat.zero_le _⟩ ⟨Or.inr rfl, h⟩
  · refine s_iln l_St_isBehind_16 rfl ?_
    refine s_if l_St_isBehind_17 h (fun h => ?_) (fun h => ?_)
    · refine s_ic 0 l_St_isBehind_40 rfl ?_
      exact s_zret l_St_isBehind_41 rfl ⟨Nat.zero_le _, Nat.zero_le _⟩ ⟨Or.inl rfl, h⟩
    · refine s_aln l_St_isBehind_20 rfl ?_
      refine s_gi l_St_isBehind_21 h (fun v6 h => ?_)
      refine s_ic 1 l_St_isBehind_24 rfl ?_
      refine s_ifc l_St_isBehind_25 h (fun h => ?_) (fun h => ?_)
      · refine s_ic 0 l_St_isBehind_40 rfl ?_
        exact s_zret l_St_isBehind_41 rfl ⟨Nat.zero_le _, Nat.zero_le _⟩ ⟨Or.inl rfl, h⟩
      · refine s_aln l_St_isBehind_28 rfl ?_
        refine s_gi l_St_isBehind_29 h (fun v7 h => ?_)
        refine s_ic 1 l_St_isBehind_32 rfl ?_
        refine s_ifc l_St_isBehind_33 h (fun h => ?_) (fun h => ?_)
        · refine s_ic 0 l_St_isBehind_40 rfl ?_
          exact s_zret l_St_isBehind_41 rfl ⟨Nat.zero_le _, Nat.zero_le _⟩ ⟨Or.inl rfl, h⟩
        · refine s_ic 1 l_St_isBehind_36 rfl ?_
          refine s_goto l_St_isBehind_37 ?_
          exact s_zret l_St_isBehind_41 rfl ⟨Nat.zero_le _, Nat.zero_le _⟩ ⟨Or.inr rfl, h⟩
theorem l_St_tell_0 : xlk (xm_cd m_St_tell) 0 = some (.iload_n 1, 1, (0, 0, 0, [])) := rfl
theorem l_St_tell_1 : xlk (xm_cd m_St_tell) 1 = some (.tableswitch 108 0 8 #[51, 56, 61, 66, 71, 76, 84, 92, 100], 51, (0, 109, 0, [(0, 52), (1, 57), (2, 62), (3, 67), (4, 72), (5, 77), (6, 85), (7, 93), (8, 101)])) := rfl
theorem l_St_tell_52 : xlk (xm_cd m_St_tell) 52 = some (.aload_n 0, 1, (0, 0, 0, [])) := rfl
theorem l_St_tell_53 : xlk (xm_cd m_St_tell) 53 = some (.getfield 33, 3, (155, 4, 4, [])) := rfl
theorem l_St_tell_56 : xlk (xm_cd m_St_tell) 56 = some (.ireturn, 1, (0, 0, 0, [])) := rfl
theorem l_St_tell_57 : xlk (xm_cd m_St_tell) 57 = some (.aload_n 0, 1, (0, 0, 0, [])) := rfl
theorem l_St_tell_58 : xlk (xm_cd m_St_tell) 58 = some (.getfield 37, 3, (156, 4, 5, [])) := rfl
theorem l_St_tell_61 : xlk (xm_cd m_St_tell) 61 = some (.ireturn, 1, (0, 0, 0, [])) := rfl
theorem l_St_tell_62 : xlk (xm_cd m_St_tell) 62 = some (.aload_n 0, 1, (0, 0, 0, [])) := rfl
theorem l_St_tell_63 : xlk (xm_cd m_St_tell) 63 = some (.getfield 40, 3, (157, 4, 6, [])) := rfl
theorem l_St_tell_66 : xlk (xm_cd m_St_tell) 66 = some (.ireturn, 1, (0, 0, 0, [])) := rfl
theorem l_St_tell_67 : xlk (xm_cd m_St_tell) 67 = some (.aload_n 0, 1, (0, 0, 0, [])) := rfl
theorem l_St_tell_68 : xlk (xm_cd m_St_tell) 68 = some (.getfield 43, 3, (158, 4, 7, [])) := rfl
theorem l_St_tell_71 : xlk (xm_cd m_St_tell) 71 = some (.ireturn, 1, (0, 0, 0, [])) := rfl
theorem l_St_tell_72 : xlk (xm_cd m_St_tell) 72 = some (.aload_n 0, 1, (0, 0, 0, [])) := rfl
theorem l_St_tell_73 : xlk (xm_cd m_St_tell) 73 = some (.getfield 46, 3, (159, 4, 8, [])) := rfl
theorem l_St_tell_76 : xlk (xm_cd m_St_tell) 76 = some (.ireturn, 1, (0, 0, 0, [])) := rfl
theorem l_St_tell_77 : xlk (xm_cd m_St_tell) 77 = some (.aload_n 0, 1, (0, 0, 0, [])) := rfl
theorem l_St_tell_78 : xlk (xm_cd m_St_tell) 78 = some (.getfield 14, 3, (151, 4, 0, [])) := rfl
theorem l_St_tell_81 : xlk (xm_cd m_St_tell) 81 = some (.invokevirtual 60, 3, (460, 12, 0, [])) := rfl
theorem l_St_tell_84 : xlk (xm_cd m_St_tell) 84 = some (.ireturn, 1, (0, 0, 0, [])) := rfl
theorem l_St_tell_85 : xlk (xm_cd m_St_tell) 85 = some (.aload_n 0, 1, (0, 0, 0, [])) := rfl
theorem l_St_tell_86 : xlk (xm_cd m_St_tell) 86 = some (.getfield 20, 3, (152, 4, 1, [])) := rfl
theorem l_St_tell_89 : xlk (xm_cd m_St_tell) 89 = some (.invokevirtual 60, 3, (460, 12, 0, [])) := rfl
theorem l_St_tell_92 : xlk (xm_cd m_St_tell) 92 = some (.ireturn, 1, (0, 0, 0, [])) := rfl
theorem l_St_tell_93 : xlk (xm_cd m_St_tell) 93 = some (.aload_n 0, 1, (0, 0, 0, [])) := rfl
theorem l_St_tell_94 : xlk (xm_cd m_St_tell) 94 = some (.getfield 26, 3, (153, 4, 2, [])) := rfl
theorem l_St_tell_97 : xlk (xm_cd m_St_tell) 97 = some (.invokevirtual 93, 3, (569, 82, 0, [])) := rfl
theorem l_St_tell_100 : xlk (xm_cd m_St_tell) 100 = some (.ireturn, 1, (0, 0, 0, [])) := rfl
theorem l_St_tell_101 : xlk (xm_cd m_St_tell) 101 = some (.aload_n 0, 1, (0, 0, 0, [])) := rfl
theorem l_St_tell_102 : xlk (xm_cd m_St_tell) 102 = some (.getfield 30, 3, (154, 4, 3, [])) := rfl
theorem l_St_tell_105 : xlk (xm_cd m_St_tell) 105 = some (.invokevirtual 93, 3, (569, 82, 0, [])) := rfl
theorem l_St_tell_108 : xlk (xm_cd m_St_tell) 108 = some (.ireturn, 1, (0, 0, 0, [])) := rfl
theorem l_St_tell_109 : xlk (xm_cd m_St_tell) 109 = some (.iconst (-1), 1, (0, 0, 0, [])) := rfl
theorem l_St_tell_110 : xlk (xm_cd m_St_tell) 110 = some (.ireturn, 1, (0, 0, 0, [])) := rfl
def B_St_tell_0 (d : Nat) (E : Option Value → xH → Prop) (f : xH) (a0 : Nat) (x1 : Int32) : Prop :=
  xbr (x1 = 0) (xgi f a0 4 4 (fun v1 => E (some (.int v1)) f)) (xbr (x1 = 1) (xgi f a0 4 5 (fun v2 => E (some (.int v2)) f)) (xbr (x1 = 2) (xgi f a0 4 6 (fun v3 => E (some (.int v3)) f)) (xbr (x1 = 3) (xgi f a0 4 7 (fun v4 => E (some (.int v4)) f)) (xbr (x1 = 4) (xgi f a0 4 8 (fun v5 => E (some (.int v5)) f)) (xbr (x1 = 5) (xgr f a0 4 0 (fun r6 => (∃ fs, f r6 = some (xO 1 fs)) ∧ xSp xT0 d j_By_size [.ref r6] f (fun w7 f8 => xvi w7 (fun v9 => E (some (.int v9)) f8)))) (xbr (x1 = 6) (xgr f a0 4 1 (fun r10 => (∃ fs, f r10 = some (xO 1 fs)) ∧ xSp xT0 d j_By_size [.ref r10] f (fun w11 f12 => xvi w11 (fun v13 => E (some (.int v13)) f12)))) (xbr (x1 = 7) (xgr f a0 4 2 (fun r14 => (∃ fs, f r14 = some (xO 3 fs)) ∧ xSp xT0 d j_De_pieces [.ref r14] f (fun w15 f16 => xvi w15 (fun v17 => E (some (.int v17)) f16)))) (xbr (x1 = 8) (xgr f a0 4 3 (fun r18 => (∃ fs, f r18 = some (xO 3 fs)) ∧ xSp xT0 d j_De_pieces [.ref r18] f (fun w19 f20 => xvi w19 (fun v21 => E (some (.int v21)) f20)))) (E (some (.int (-1))) f)))))))))
theorem b_St_tell_0 {d : Nat} {E : Option Value → xH → Prop} {f : xH} {a0 : Nat} {x1 : Int32} (h : B_St_tell_0 d E f a0 x1) : xWp (xT0, xSp xT0 d, none, m_St_tell, E) 0 [some (.ref a0), some (.int x1)] [] f 0 0 := by
  unfold B_St_tell_0 at h
  refine s_iln l_St_tell_0 rfl ?_
  refine s_ts l_St_tell_1 ⟨fun q0 => ?_, fun n0 => ⟨fun q1 => ?_, fun n1 => ⟨fun q2 => ?_, fun n2 => ⟨fun q3 => ?_, fun n3 => ⟨fun q4 => ?_, fun n4 => ⟨fun q5 => ?_, fun n5 => ⟨fun q6 => ?_, fun n6 => ⟨fun q7 => ?_, fun n7 => ⟨fun q8 => ?_, fun n8 => ?_⟩⟩⟩⟩⟩⟩⟩⟩⟩
  · have h := (h).1 q0
    refine s_aln l_St_tell_52 rfl ?_
    refine s_gi l_St_tell_53 h (fun v1 h => ?_)
    exact s_iret l_St_tell_56 rfl ⟨Nat.zero_le _, Nat.zero_le _⟩ h
  · have h := ((h).2 n0).1 q1
    refine s_aln l_St_tell_57 rfl ?_
    refine s_gi l_St_tell_58 h (fun v2 h => ?_)
    exact s_iret l_St_tell_61 rfl ⟨Nat.zero_le _, Nat.zero_le _⟩ h
  · have h := (((h).2 n0).2 n1).1 q2
    refine s_aln l_St_tell_62 rfl ?_
    refine s_gi l_St_tell_63 h (fun v3 h => ?_)
    exact s_iret l_St_tell_66 rfl ⟨Nat.zero_le _, Nat.zero_le _⟩ h
  · have h := ((((h).2 n0).2 n1).2 n2).1 q3
    refine s_aln l_St_tell_67 rfl ?_
    refine s_gi l_St_tell_68 h (fun v4 h => ?_)
    exact s_iret l_St_tell_71 rfl ⟨Nat.zero_le _, Nat.zero_le _⟩ h
  · have h := (((((h).2 n0).2 n1).2 n2).2 n3).1 q4
    refine s_aln l_St_tell_72 rfl ?_
    refine s_gi l_St_tell_73 h (fun v5 h => ?_)
    exact s_iret l_St_tell_76 rfl ⟨Nat.zero_le _, Nat.zero_le _⟩ h
  · have h := ((((((h).2 n0).2 n1).2 n2).2 n3).2 n4).1 q5
    refine s_aln l_St_tell_77 rfl ?_
    refine s_gr l_St_tell_78 h (fun r6 h => ?_)
    refine s_cvi (As := []) (r := []) l_St_tell_81 rfl ⟨rfl, rfl⟩ rfl (Nat.le_of_ble_eq_true rfl) rfl ⟨Nat.zero_le _, Nat.zero_le _⟩ h (fun v9 f8 h => ?_)
    exact s_iret l_St_tell_84 rfl ⟨Nat.zero_le _, Nat.zero_le _⟩ h
  · have h := (((((((h).2 n0).2 n1).2 n2).2 n3).2 n4).2 n5).1 q6
    refine s_aln l_St_tell_85 rfl ?_
    refine s_gr l_St_tell_86 h (fun r10 h => ?_)
    refine s_cvi (As := []) (r := []) l_St_tell_89 rfl ⟨rfl, rfl⟩ rfl (Nat.le_of_ble_eq_true rfl) rfl ⟨Nat.zero_le _, Nat.zero_le _⟩ h (fun v13 f12 h => ?_)
    exact s_iret l_St_tell_92 rfl ⟨Nat.zero_le _, Nat.zero_le _⟩ h
  · have h := ((((((((h).2 n0).2 n1).2 n2).2 n3).2 n4).2 n5).2 n6).1 q7
    refine s_aln l_St_tell_93 rfl ?_
    refine s_gr l_St_tell_94 h (fun r14 h => ?_)
    refine s_cvi (As := []) (r := []) l_St_tell_97 rfl ⟨rfl, rfl⟩ rfl (Nat.le_of_ble_eq_true rfl) rfl ⟨Nat.zero_le _, Nat.zero_le _⟩ h (fun v17 f16 h => ?_)
    exact s_iret l_St_tell_100 rfl ⟨Nat.zero_le _, Nat.zero_le _⟩ h
  · have h := (((((((((h).2 n0).2 n1).2 n2).2 n3).2 n4).2 n5).2 n6).2 n7).1 q8
    refine s_aln l_St_tell_101 rfl ?_
    refine s_gr l_St_tell_102 h (fun r18 h => ?_)
    refine s_cvi (As := []) (r := []) l_St_tell_105 rfl ⟨rfl, rfl⟩ rfl (Nat.le_of_ble_eq_true rfl) rfl ⟨Nat.zero_le _, Nat.zero_le _⟩ h (fun v21 f20 h => ?_)
    exact s_iret l_St_tell_108 rfl ⟨Nat.zero_le _, Nat.zero_le _⟩ h
  · have h := (((((((((h).2 n0).2 n1).2 n2).2 n3).2 n4).2 n5).2 n6).2 n7).2 n8
    refine s_ic (-1) l_St_tell_109 rfl ?_
    exact s_iret l_St_tell_110 rfl ⟨Nat.zero_le _, Nat.zero_le _⟩ h
theorem l_St_isSource_0 : xlk (xm_cd m_St_isSource) 0 = some (.aload_n 1, 1, (0, 0, 0, [])) := rfl
theorem l_St_isSource_1 : xlk (xm_cd m_St_isSource) 1 = some (.invokevirtual 60, 3, (460, 12, 0, [])) := rfl
theorem l_St_isSource_4 : xlk (xm_cd m_St_isSource) 4 = some (.aload_n 0, 1, (0, 0, 0, [])) := rfl
theorem l_St_isSource_5 : xlk (xm_cd m_St_isSource) 5 = some (.getfield 37, 3, (156, 4, 5, [])) := rfl
theorem l_St_isSource_8 : xlk (xm_cd m_St_isSource) 8 = some (.if_icmp .ne 18, 3, (0, 26, 0, [])) := rfl
theorem l_St_isSource_11 : xlk (xm_cd m_St_isSource) 11 = some (.aload_n 1, 1, (0, 0, 0, [])) := rfl
theorem l_St_isSource_12 : xlk (xm_cd m_St_isSource) 12 = some (.invokevirtual 64, 3, (461, 41, 0, [])) := rfl
theorem l_St_isSource_15 : xlk (xm_cd m_St_isSource) 15 = some (.aload_n 0, 1, (0, 0, 0, [])) := rfl
theorem l_St_isSource_16 : xlk (xm_cd m_St_isSource) 16 = some (.getfield 40, 3, (157, 4, 6, [])) := rfl
theorem l_St_isSource_19 : xlk (xm_cd m_St_isSource) 19 = some (.if_icmp .ne 7, 3, (0, 26, 0, [])) := rfl
theorem l_St_isSource_22 : xlk (xm_cd m_St_isSource) 22 = some (.iconst 1, 1, (0, 0, 0, [])) := rfl
theorem l_St_isSource_23 : xlk (xm_cd m_St_isSource) 23 = some (.goto 4, 3, (0, 27, 0, [])) := rfl
theorem l_St_isSource_26 : xlk (xm_cd m_St_isSource) 26 = some (.iconst 0, 1, (0, 0, 0, [])) := rfl
theorem l_St_isSource_27 : xlk (xm_cd m_St_isSource) 27 = some (.ireturn, 1, (0, 0, 0, [])) := rfl
def B_St_isSource_0 (d : Nat) (E : Option Value → xH → Prop) (f : xH) (a0 : Nat) (a1 : Nat) : Prop :=
  (∃ fs, f a1 = some (xO 1 fs)) ∧ xSp xT0 d j_By_size [.ref a1] f (fun w1 f2 => xvi w1 (fun v3 => xgi f2 a0 4 5 (fun v4 => xbr (¬ v3 = v4) (E (some (.int 0)) f2) ((∃ fs, f2 a1 = some (xO 1 fs)) ∧ xSp xT0 d j_By_sum [.ref a1] f2 (fun w5 f6 => xvi w5 (fun v7 => xgi f6 a0 4 6 (fun v8 => xbr (¬ v7 = v8) (E (some (.int 0)) f6) (E (some (.int 1)) f6))))))))
theorem b_St_isSource_0 {d : Nat} {E : Option Value → xH → Prop} {f : xH} {a0 : Nat} {a1 : Nat} (h : B_St_isSource_0 d E f a0 a1) : xWp (xT0, xSp xT0 d, none, m_St_isSource, E) 0 [some (.ref a0), some (.ref a1)] [] f 0 0 := by
  unfold B_St_isSource_0 at h
  refine s_aln l_St_isSource_0 rfl ?_
  refine s_cvi (As := []) (r := []) l_St_isSource_1 rfl ⟨rfl, rfl⟩ rfl (Nat.le_of_ble_eq_true rfl) rfl ⟨Nat.zero_le _, Nat.zero_le _⟩ h (fun v3 f2 h => ?_)
  refine s_aln l_St_isSource_4 rfl ?_
  refine s_gi l_St_isSource_5 h (fun v4 h => ?_)
  refine s_ifc l_St_isSource_8 h (fun h => ?_) (fun h => ?_)
  · refine s_ic 0 l_St_isSource_26 rfl ?_
    exact s_zret l_St_isSource_27 rfl ⟨Nat.zero_le _, Nat.zero_le _⟩ ⟨Or.inl rfl, h⟩
  · refine s_aln l_St_isSource_11 rfl ?_
    refine s_cvi (As := []) (r := []) l_St_isSource_12 rfl ⟨rfl, rfl⟩ rfl (Nat.le_of_ble_eq_true rfl) rfl ⟨Nat.zero_le _, Nat.zero_le _⟩ h (fun v7 f6 h => ?_)
    refine s_aln l_St_isSource_15 rfl ?_
    refine s_gi l_St_isSource_16 h (fun v8 h => ?_)
    refine s_ifc l_St_isSource_19 h (fun h => ?_) (fun h => ?_)
    · refine s_ic 0 l_St_isSource_26 rfl ?_
      exact s_zret l_St_isSource_27 rfl ⟨Nat.zero_le _, Nat.zero_le _⟩ ⟨Or.inl rfl, h⟩
    · refine s_ic 1 l_St_isSource_22 rfl ?_
      refine s_goto l_St_isSource_23 ?_
      exact s_zret l_St_isSource_27 rfl ⟨Nat.zero_le _, Nat.zero_le _⟩ ⟨Or.inr rfl, h⟩
theorem l_St_inverseOf_0 : xlk (xm_cd m_St_inverseOf) 0 = some (.aload_n 0, 1, (0, 0, 0, [])) := rfl
theorem l_St_inverseOf_1 : xlk (xm_cd m_St_inverseOf) 1 = some (.aload_n 1, 1, (0, 0, 0, [])) := rfl
theorem l_St_inverseOf_2 : xlk (xm_cd m_St_inverseOf) 2 = some (.getfield 33, 3, (155, 4, 4, [])) := rfl
theorem l_St_inverseOf_5 : xlk (xm_cd m_St_inverseOf) 5 = some (.ifCond .ne 7, 3, (0, 12, 0, [])) := rfl
theorem l_St_inverseOf_8 : xlk (xm_cd m_St_inverseOf) 8 = some (.iconst 1, 1, (0, 0, 0, [])) := rfl
theorem l_St_inverseOf_9 : xlk (xm_cd m_St_inverseOf) 9 = some (.goto 19, 3, (0, 28, 0, [])) := rfl
theorem l_St_inverseOf_12 : xlk (xm_cd m_St_inverseOf) 12 = some (.aload_n 1, 1, (0, 0, 0, [])) := rfl
theorem l_St_inverseOf_13 : xlk (xm_cd m_St_inverseOf) 13 = some (.getfield 33, 3, (155, 4, 4, [])) := rfl
theorem l_St_inverseOf_16 : xlk (xm_cd m_St_inverseOf) 16 = some (.iconst 1, 1, (0, 0, 0, [])) := rfl
theorem l_St_inverseOf_17 : xlk (xm_cd m_St_inverseOf) 17 = some (.if_icmp .ne 7, 3, (0, 24, 0, [])) := rfl
theorem l_St_inverseOf_20 : xlk (xm_cd m_St_inverseOf) 20 = some (.iconst 0, 1, (0, 0, 0, [])) := rfl
theorem l_St_inverseOf_21 : xlk (xm_cd m_St_inverseOf) 21 = some (.goto 7, 3, (0, 28, 0, [])) := rfl
theorem l_St_inverseOf_24 : xlk (xm_cd m_St_inverseOf) 24 = some (.aload_n 1, 1, (0, 0, 0, [])) := rfl
theorem l_St_inverseOf_25 : xlk (xm_cd m_St_inverseOf) 25 = some (.getfield 33, 3, (155, 4, 4, [])) := rfl
theorem l_St_inverseOf_28 : xlk (xm_cd m_St_inverseOf) 28 = some (.putfield 33, 3, (155, 4, 4, [(0, 0)])) := rfl
theorem l_St_inverseOf_31 : xlk (xm_cd m_St_inverseOf) 31 = some (.aload_n 0, 1, (0, 0, 0, [])) := rfl
theorem l_St_inverseOf_32 : xlk (xm_cd m_St_inverseOf) 32 = some (.getfield 14, 3, (151, 4, 0, [])) := rfl
theorem l_St_inverseOf_35 : xlk (xm_cd m_St_inverseOf) 35 = some (.aload_n 1, 1, (0, 0, 0, [])) := rfl
theorem l_St_inverseOf_36 : xlk (xm_cd m_St_inverseOf) 36 = some (.getfield 20, 3, (152, 4, 1, [])) := rfl
theorem l_St_inverseOf_39 : xlk (xm_cd m_St_inverseOf) 39 = some (.invokevirtual 71, 3, (455, 19, 1, [])) := rfl
theorem l_St_inverseOf_42 : xlk (xm_cd m_St_inverseOf) 42 = some (.aload_n 0, 1, (0, 0, 0, [])) := rfl
theorem l_St_inverseOf_43 : xlk (xm_cd m_St_inverseOf) 43 = some (.getfield 20, 3, (152, 4, 1, [])) := rfl
theorem l_St_inverseOf_46 : xlk (xm_cd m_St_inverseOf) 46 = some (.aload_n 1, 1, (0, 0, 0, [])) := rfl
theorem l_St_inverseOf_47 : xlk (xm_cd m_St_inverseOf) 47 = some (.getfield 14, 3, (151, 4, 0, [])) := rfl
theorem l_St_inverseOf_50 : xlk (xm_cd m_St_inverseOf) 50 = some (.invokevirtual 71, 3, (455, 19, 1, [])) := rfl
theorem l_St_inverseOf_53 : xlk (xm_cd m_St_inverseOf) 53 = some (.aload_n 0, 1, (0, 0, 0, [])) := rfl
theorem l_St_inverseOf_54 : xlk (xm_cd m_St_inverseOf) 54 = some (.aload_n 1, 1, (0, 0, 0, [])) := rfl
theorem l_St_inverseOf_55 : xlk (xm_cd m_St_inverseOf) 55 = some (.getfield 43, 3, (158, 4, 7, [])) := rfl
theorem l_St_inverseOf_58 : xlk (xm_cd m_St_inverseOf) 58 = some (.putfield 37, 3, (156, 4, 5, [(0, 0)])) := rfl
theorem l_St_inverseOf_61 : xlk (xm_cd m_St_inverseOf) 61 = some (.aload_n 0, 1, (0, 0, 0, [])) := rfl
theorem l_St_inverseOf_62 : xlk (xm_cd m_St_inverseOf) 62 = some (.aload_n 1, 1, (0, 0, 0, [])) := rfl
theorem l_St_inverseOf_63 : xlk (xm_cd m_St_inverseOf) 63 = some (.getfield 46, 3, (159, 4, 8, [])) := rfl
theorem l_St_inverseOf_66 : xlk (xm_cd m_St_inverseOf) 66 = some (.putfield 40, 3, (157, 4, 6, [(0, 0)])) := rfl
theorem l_St_inverseOf_69 : xlk (xm_cd m_St_inverseOf) 69 = some (.aload_n 0, 1, (0, 0, 0, [])) := rfl
theorem l_St_inverseOf_70 : xlk (xm_cd m_St_inverseOf) 70 = some (.aload_n 1, 1, (0, 0, 0, [])) := rfl
theorem l_St_inverseOf_71 : xlk (xm_cd m_St_inverseOf) 71 = some (.getfield 37, 3, (156, 4, 5, [])) := rfl
theorem l_St_inverseOf_74 : xlk (xm_cd m_St_inverseOf) 74 = some (.putfield 43, 3, (158, 4, 7, [(0, 0)])) := rfl
theorem l_St_inverseOf_77 : xlk (xm_cd m_St_inverseOf) 77 = some (.aload_n 0, 1, (0, 0, 0, [])) := rfl
theorem l_St_inverseOf_78 : xlk (xm_cd m_St_inverseOf) 78 = some (.aload_n 1, 1, (0, 0, 0, [])) := rfl
theorem l_St_inverseOf_79 : xlk (xm_cd m_St_inverseOf) 79 = some (.getfield 40, 3, (157, 4, 6, [])) := rfl
theorem l_St_inverseOf_82 : xlk (xm_cd m_St_inverseOf) 82 = some (.putfield 46, 3, (159, 4, 8, [(0, 0)])) := rfl
theorem l_St_inverseOf_85 : xlk (xm_cd m_St_inverseOf) 85 = some (.aload_n 0, 1, (0, 0, 0, [])) := rfl
theorem l_St_inverseOf_86 : xlk (xm_cd m_St_inverseOf) 86 = some (.getfield 26, 3, (153, 4, 2, [])) := rfl
theorem l_St_inverseOf_89 : xlk (xm_cd m_St_inverseOf) 89 = some (.aload_n 1, 1, (0, 0, 0, [])) := rfl
theorem l_St_inverseOf_90 : xlk (xm_cd m_St_inverseOf) 90 = some (.getfield 30, 3, (154, 4, 3, [])) := rfl
theorem l_St_inverseOf_93 : xlk (xm_cd m_St_inverseOf) 93 = some (.invokevirtual 82, 3, (662, 103, 1, [])) := rfl
theorem l_St_inverseOf_96 : xlk (xm_cd m_St_inverseOf) 96 = some (.aload_n 0, 1, (0, 0, 0, [])) := rfl
theorem l_St_inverseOf_97 : xlk (xm_cd m_St_inverseOf) 97 = some (.getfield 30, 3, (154, 4, 3, [])) := rfl
theorem l_St_inverseOf_100 : xlk (xm_cd m_St_inverseOf) 100 = some (.aload_n 1, 1, (0, 0, 0, [])) := rfl
theorem l_St_inverseOf_101 : xlk (xm_cd m_St_inverseOf) 101 = some (.getfield 26, 3, (153, 4, 2, [])) := rfl
theorem l_St_inverseOf_104 : xlk (xm_cd m_St_inverseOf) 104 = some (.invokevirtual 82, 3, (662, 103, 1, [])) := rfl
theorem l_St_inverseOf_107 : xlk (xm_cd m_St_inverseOf) 107 = some (.return_, 1, (0, 0, 0, [])) := rfl
def B_St_inverseOf_0 (d : Nat) (E : Option Value → xH → Prop) (f : xH) (a0 : Nat) (a1 : Nat) : Prop :=
  xgi f a1 4 4 (fun v1 => xbr (¬ v1 = 0) (xgi f a1 4 4 (fun v2 => xbr (¬ v2 = 1) (xgi f a1 4 4 (fun v3 => xWp (xT0, xSp xT0 d, none, m_St_inverseOf, E) 28 [some (.ref a0), some (.ref a1)] [.int v3, .ref a0] f 0 0)) (xWp (xT0, xSp xT0 d, none, m_St_inverseOf, E) 28 [some (.ref a0), some (.ref a1)] [.int 0, .ref a0] f 0 0))) (xWp (xT0, xSp xT0 d, none, m_St_inverseOf, E) 28 [some (.ref a0), some (.ref a1)] [.int 1, .ref a0] f 0 0))
theorem b_St_inverseOf_0 {d : Nat} {E : Option Value → xH → Prop} {f : xH} {a0 : Nat} {a1 : Nat} (h : B_St_inverseOf_0 d E f a0 a1) : xWp (xT0, xSp xT0 d, none, m_St_inverseOf, E) 0 [some (.ref a0), some (.ref a1)] [] f 0 0 := by
  unfold B_St_inverseOf_0 at h
  refine s_aln l_St_inverseOf_0 rfl ?_
  refine s_aln l_St_inverseOf_1 rfl ?_
  refine s_gi l_St_inverseOf_2 h (fun v1 h => ?_)
  refine s_if l_St_inverseOf_5 h (fun h => ?_) (fun h => ?_)
  · refine s_aln l_St_inverseOf_12 rfl ?_
    refine s_gi l_St_inverseOf_13 h (fun v2 h => ?_)
    refine s_ic 1 l_St_inverseOf_16 rfl ?_
    refine s_ifc l_St_inverseOf_17 h (fun h => ?_) (fun h => ?_)
    · refine s_aln l_St_inverseOf_24 rfl ?_
      refine s_gi l_St_inverseOf_25 h (fun v3 h => ?_)
      exact h
    · refine s_ic 0 l_St_inverseOf_20 rfl ?_
      refine s_goto l_St_inverseOf_21 ?_
      exact h
  · refine s_ic 1 l_St_inverseOf_8 rfl ?_
    refine s_goto l_St_inverseOf_9 ?_
    exact h
def B_St_inverseOf_28 (d : Nat) (E : Option Value → xH → Prop) (f : xH) (a0 : Nat) (a1 : Nat) (s0 : Int32) (s1 : Nat) : Prop :=
  xpf f s1 4 4 (.int s0) (fun f1 => xgr f1 a0 4 0 (fun r2 => xgr f1 a1 4 1 (fun r3 => (∃ fs, f1 r2 = some (xO 1 fs)) ∧ xSp xT0 d j_By_copyOf [.ref r2, .ref r3] f1 (fun w4 f5 => xvv w4 (xgr f5 a0 4 1 (fun r6 => xgr f5 a1 4 0 (fun r7 => (∃ fs, f5 r6 = some (xO 1 fs)) ∧ xSp xT0 d j_By_copyOf [.ref r6, .ref r7] f5 (fun w8 f9 => xvv w8 (xgi f9 a1 4 7 (fun v10 => xpf f9 a0 4 5 (.int v10) (fun f11 => xgi f11 a1 4 8 (fun v12 => xpf f11 a0 4 6 (.int v12) (fun f13 => xgi f13 a1 4 5 (fun v14 => xpf f13 a0 4 7 (.int v14) (fun f15 => xgi f15 a1 4 6 (fun v16 => xpf f15 a0 4 8 (.int v16) (fun f17 => xgr f17 a0 4 2 (fun r18 => xgr f17 a1 4 3 (fun r19 => (∃ fs, f17 r18 = some (xO 3 fs)) ∧ xSp xT0 d j_De_copyOf [.ref r18, .ref r19] f17 (fun w20 f21 => xvv w20 (xgr f21 a0 4 3 (fun r22 => xgr f21 a1 4 2 (fun r23 => (∃ fs, f21 r22 = some (xO 3 fs)) ∧ xSp xT0 d j_De_copyOf [.ref r22, .ref r23] f21 (fun w24 f25 => xvv w24 (E none f25)))))))))))))))))))))))))
theorem b_St_inverseOf_28 {d : Nat} {E : Option Value → xH → Prop} {f : xH} {a0 : Nat} {a1 : Nat} {s0 : Int32} {s1 : Nat} (h : B_St_inverseOf_28 d E f a0 a1 s0 s1) : xWp (xT0, xSp xT0 d, none, m_St_inverseOf, E) 28 [some (.ref a0), some (.ref a1)] [.int s0, .ref s1] f 0 0 := by
  unfold B_St_inverseOf_28 at h
  refine s_pf l_St_inverseOf_28 ⟨_, rfl⟩ h (fun f1 h => ?_)
  refine s_aln l_St_inverseOf_31 rfl ?_
  refine s_gr l_St_inverseOf_32 h (fun r2 h => ?_)
  refine s_aln l_St_inverseOf_35 rfl ?_
  refine s_gr l_St_inverseOf_36 h (fun r3 h => ?_)
  refine s_cvv (As := [.ref r3]) (r := []) l_St_inverseOf_39 rfl ⟨rfl, rfl⟩ rfl (Nat.le_of_ble_eq_true rfl) rfl ⟨Nat.zero_le _, Nat.zero_le _⟩ h (fun f5 h => ?_)
  refine s_aln l_St_inverseOf_42 rfl ?_
  refine s_gr l_St_inverseOf_43 h (fun r6 h => ?_)
  refine s_aln l_St_inverseOf_46 rfl ?_
  refine s_gr l_St_inverseOf_47 h (fun r7 h => ?_)
  refine s_cvv (As := [.ref r7]) (r := []) l_St_inverseOf_50 rfl ⟨rfl, rfl⟩ rfl (Nat.le_of_ble_eq_true rfl) rfl ⟨Nat.zero_le _, Nat.zero_le _⟩ h (fun f9 h => ?_)
  refine s_aln l_St_inverseOf_53 rfl ?_
  refine s_aln l_St_inverseOf_54 rfl ?_
  refine s_gi l_St_inverseOf_55 h (fun v10 h => ?_)
  refine s_pf l_St_inverseOf_58 ⟨_, rfl⟩ h (fun f11 h => ?_)
  refine s_aln l_St_inverseOf_61 rfl ?_
  refine s_aln l_St_inverseOf_62 rfl ?_
  refine s_gi l_St_inverseOf_63 h (fun v12 h => ?_)
  refine s_pf l_St_inverseOf_66 ⟨_, rfl⟩ h (fun f13 h => ?_)
  refine s_aln l_St_inverseOf_69 rfl ?_
  refine s_aln l_St_inverseOf_70 rfl ?_
  refine s_gi l_St_inverseOf_71 h (fun v14 h => ?_)
  refine s_pf l_St_inverseOf_74 ⟨_, rfl⟩ h (fun f15 h => ?_)
  refine s_aln l_St_inverseOf_77 rfl ?_
  refine s_aln l_St_inverseOf_78 rfl ?_
  refine s_gi l_St_inverseOf_79 h (fun v16 h => ?_)
  refine s_pf l_St_inverseOf_82 ⟨_, rfl⟩ h (fun f17 h => ?_)
  refine s_aln l_St_inverseOf_85 rfl ?_
  refine s_gr l_St_inverseOf_86 h (fun r18 h => ?_)
  refine s_aln l_St_inverseOf_89 rfl ?_
  refine s_gr l_St_inverseOf_90 h (fun r19 h => ?_)
  refine s_cvv (As := [.ref r19]) (r := []) l_St_inverseOf_93 rfl ⟨rfl, rfl⟩ rfl (Nat.le_of_ble_eq_true rfl) rfl ⟨Nat.zero_le _, Nat.zero_le _⟩ h (fun f21 h => ?_)
  refine s_aln l_St_inverseOf_96 rfl ?_
  refine s_gr l_St_inverseOf_97 h (fun r22 h => ?_)
  refine s_aln l_St_inverseOf_100 rfl ?_
  refine s_gr l_St_inverseOf_101 h (fun r23 h => ?_)
  refine s_cvv (As := [.ref r23]) (r := []) l_St_inverseOf_104 rfl ⟨rfl, rfl⟩ rfl (Nat.le_of_ble_eq_true rfl) rfl ⟨Nat.zero_le _, Nat.zero_le _⟩ h (fun f25 h => ?_)
  exact s_ret l_St_inverseOf_107 ⟨Nat.zero_le _, Nat.zero_le _⟩ h
theorem l_St_bringsTo_0 : xlk (xm_cd m_St_bringsTo) 0 = some (.aload_n 0, 1, (0, 0, 0, [])) := rfl
theorem l_St_bringsTo_1 : xlk (xm_cd m_St_bringsTo) 1 = some (.invokevirtual 57, 3, (466, 55, 0, [])) := rfl
theorem l_St_bringsTo_4 : xlk (xm_cd m_St_bringsTo) 4 = some (.ifCond .eq 18, 3, (0, 22, 0, [])) := rfl
theorem l_St_bringsTo_7 : xlk (xm_cd m_St_bringsTo) 7 = some (.aload_n 0, 1, (0, 0, 0, [])) := rfl
theorem l_St_bringsTo_8 : xlk (xm_cd m_St_bringsTo) 8 = some (.getfield 14, 3, (151, 4, 0, [])) := rfl
theorem l_St_bringsTo_11 : xlk (xm_cd m_St_bringsTo) 11 = some (.aload_n 1, 1, (0, 0, 0, [])) := rfl
theorem l_St_bringsTo_12 : xlk (xm_cd m_St_bringsTo) 12 = some (.invokevirtual 53, 3, (688, 29, 1, [])) := rfl
theorem l_St_bringsTo_15 : xlk (xm_cd m_St_bringsTo) 15 = some (.ifCond .eq 7, 3, (0, 22, 0, [])) := rfl
theorem l_St_bringsTo_18 : xlk (xm_cd m_St_bringsTo) 18 = some (.iconst 1, 1, (0, 0, 0, [])) := rfl
theorem l_St_bringsTo_19 : xlk (xm_cd m_St_bringsTo) 19 = some (.goto 4, 3, (0, 23, 0, [])) := rfl
theorem l_St_bringsTo_22 : xlk (xm_cd m_St_bringsTo) 22 = some (.iconst 0, 1, (0, 0, 0, [])) := rfl
theorem l_St_bringsTo_23 : xlk (xm_cd m_St_bringsTo) 23 = some (.ireturn, 1, (0, 0, 0, [])) := rfl
def B_St_bringsTo_0 (d : Nat) (E : Option Value → xH → Prop) (f : xH) (a0 : Nat) (a1 : Nat) : Prop :=
  (∃ fs, f a0 = some (xO 4 fs)) ∧ xSp xT0 d j_St_hasTarget [.ref a0] f (fun w1 f2 => xvi w1 (fun v3 => xbr (v3 = 0) (E (some (.int 0)) f2) (xgr f2 a0 4 0 (fun r4 => (∃ fs, f2 r4 = some (xO 1 fs)) ∧ xSp xT0 d j_By_equalTo [.ref r4, .ref a1] f2 (fun w5 f6 => xvi w5 (fun v7 => xbr (v7 = 0) (E (some (.int 0)) f6) (E (some (.int 1)) f6)))))))
theorem b_St_bringsTo_0 {d : Nat} {E : Option Value → xH → Prop} {f : xH} {a0 : Nat} {a1 : Nat} (h : B_St_bringsTo_0 d E f a0 a1) : xWp (xT0, xSp xT0 d, none, m_St_bringsTo, E) 0 [some (.ref a0), some (.ref a1)] [] f 0 0 := by
  unfold B_St_bringsTo_0 at h
  refine s_aln l_St_bringsTo_0 rfl ?_
  refine s_cvi (As := []) (r := []) l_St_bringsTo_1 rfl ⟨rfl, rfl⟩ rfl (Nat.le_of_ble_eq_true rfl) rfl ⟨Nat.zero_le _, Nat.zero_le _⟩ h (fun v3 f2 h => ?_)
  refine s_if l_St_bringsTo_4 h (fun h => ?_) (fun h => ?_)
  · refine s_ic 0 l_St_bringsTo_22 rfl ?_
    exact s_zret l_St_bringsTo_23 rfl ⟨Nat.zero_le _, Nat.zero_le _⟩ ⟨Or.inl rfl, h⟩
  · refine s_aln l_St_bringsTo_7 rfl ?_
    refine s_gr l_St_bringsTo_8 h (fun r4 h => ?_)
    refine s_aln l_St_bringsTo_11 rfl ?_
    refine s_cvi (As := [.ref a1]) (r := []) l_St_bringsTo_12 rfl ⟨rfl, rfl⟩ rfl (Nat.le_of_ble_eq_true rfl) rfl ⟨Nat.zero_le _, Nat.zero_le _⟩ h (fun v7 f6 h => ?_)
    refine s_if l_St_bringsTo_15 h (fun h => ?_) (fun h => ?_)
    · refine s_ic 0 l_St_bringsTo_22 rfl ?_
      exact s_zret l_St_bringsTo_23 rfl ⟨Nat.zero_le _, Nat.zero_le _⟩ ⟨Or.inl rfl, h⟩
    · refine s_ic 1 l_St_bringsTo_18 rfl ?_
      refine s_goto l_St_bringsTo_19 ?_
      exact s_zret l_St_bringsTo_23 rfl ⟨Nat.zero_le _, Nat.zero_le _⟩ ⟨Or.inr rfl, h⟩
theorem l_St_takesFrom_0 : xlk (xm_cd m_St_takesFrom) 0 = some (.aload_n 0, 1, (0, 0, 0, [])) := rfl
theorem l_St_takesFrom_1 : xlk (xm_cd m_St_takesFrom) 1 = some (.invokevirtual 49, 3, (456, 53, 0, [])) := rfl
theorem l_St_takesFrom_4 : xlk (xm_cd m_St_takesFrom) 4 = some (.ifCond .eq 18, 3, (0, 22, 0, [])) := rfl
theorem l_St_takesFrom_7 : xlk (xm_cd m_St_takesFrom) 7 = some (.aload_n 0, 1, (0, 0, 0, [])) := rfl
theorem l_St_takesFrom_8 : xlk (xm_cd m_St_takesFrom) 8 = some (.getfield 20, 3, (152, 4, 1, [])) := rfl
theorem l_St_takesFrom_11 : xlk (xm_cd m_St_takesFrom) 11 = some (.aload_n 1, 1, (0, 0, 0, [])) := rfl
theorem l_St_takesFrom_12 : xlk (xm_cd m_St_takesFrom) 12 = some (.invokevirtual 53, 3, (688, 29, 1, [])) := rfl
theorem l_St_takesFrom_15 : xlk (xm_cd m_St_takesFrom) 15 = some (.ifCond .eq 7, 3, (0, 22, 0, [])) := rfl
theorem l_St_takesFrom_18 : xlk (xm_cd m_St_takesFrom) 18 = some (.iconst 1, 1, (0, 0, 0, [])) := rfl
theorem l_St_takesFrom_19 : xlk (xm_cd m_St_takesFrom) 19 = some (.goto 4, 3, (0, 23, 0, [])) := rfl
theorem l_St_takesFrom_22 : xlk (xm_cd m_St_takesFrom) 22 = some (.iconst 0, 1, (0, 0, 0, [])) := rfl
theorem l_St_takesFrom_23 : xlk (xm_cd m_St_takesFrom) 23 = some (.ireturn, 1, (0, 0, 0, [])) := rfl
def B_St_takesFrom_0 (d : Nat) (E : Option Value → xH → Prop) (f : xH) (a0 : Nat) (a1 : Nat) : Prop :=
  (∃ fs, f a0 = some (xO 4 fs)) ∧ xSp xT0 d j_St_hasSource [.ref a0] f (fun w1 f2 => xvi w1 (fun v3 => xbr (v3 = 0) (E (some (.int 0)) f2) (xgr f2 a0 4 1 (fun r4 => (∃ fs, f2 r4 = some (xO 1 fs)) ∧ xSp xT0 d j_By_equalTo [.ref r4, .ref a1] f2 (fun w5 f6 => xvi w5 (fun v7 => xbr (v7 = 0) (E (some (.int 0)) f6) (E (some (.int 1)) f6)))))))
theorem b_St_takesFrom_0 {d : Nat} {E : Option Value → xH → Prop} {f : xH} {a0 : Nat} {a1 : Nat} (h : B_St_takesFrom_0 d E f a0 a1) : xWp (xT0, xSp xT0 d, none, m_St_takesFrom, E) 0 [some (.ref a0), some (.ref a1)] [] f 0 0 := by
  unfold B_St_takesFrom_0 at h
  refine s_aln l_St_takesFrom_0 rfl ?_
  refine s_cvi (As := []) (r := []) l_St_takesFrom_1 rfl ⟨rfl, rfl⟩ rfl (Nat.le_of_ble_eq_true rfl) rfl ⟨Nat.zero_le _, Nat.zero_le _⟩ h (fun v3 f2 h => ?_)
  refine s_if l_St_takesFrom_4 h (fun h => ?_) (fun h => ?_)
  · refine s_ic 0 l_St_takesFrom_22 rfl ?_
    exact s_zret l_St_takesFrom_23 rfl ⟨Nat.zero_le _, Nat.zero_le _⟩ ⟨Or.inl rfl, h⟩
  · refine s_aln l_St_takesFrom_7 rfl ?_
    refine s_gr l_St_takesFrom_8 h (fun r4 h => ?_)
    refine s_aln l_St_takesFrom_11 rfl ?_
    refine s_cvi (As := [.ref a1]) (r := []) l_St_takesFrom_12 rfl ⟨rfl, rfl⟩ rfl (Nat.le_of_ble_eq_true rfl) rfl ⟨Nat.zero_le _, Nat.zero_le _⟩ h (fun v7 f6 h => ?_)
    refine s_if l_St_takesFrom_15 h (fun h => ?_) (fun h => ?_)
    · refine s_ic 0 l_St_takesFrom_22 rfl ?_
      exact s_zret l_St_takesFrom_23 rfl ⟨Nat.zero_le _, Nat.zero_le _⟩ ⟨Or.inl rfl, h⟩
    · refine s_ic 1 l_St_takesFrom_18 rfl ?_
      refine s_goto l_St_takesFrom_19 ?_
      exact s_zret l_St_takesFrom_23 rfl ⟨Nat.zero_le _, Nat.zero_le _⟩ ⟨Or.inr rfl, h⟩
theorem l_St_goesOnFrom_0 : xlk (xm_cd m_St_goesOnFrom) 0 = some (.aload_n 1, 1, (0, 0, 0, [])) := rfl
theorem l_St_goesOnFrom_1 : xlk (xm_cd m_St_goesOnFrom) 1 = some (.getfield 43, 3, (158, 4, 7, [])) := rfl
theorem l_St_goesOnFrom_4 : xlk (xm_cd m_St_goesOnFrom) 4 = some (.aload_n 0, 1, (0, 0, 0, [])) := rfl
theorem l_St_goesOnFrom_5 : xlk (xm_cd m_St_goesOnFrom) 5 = some (.getfield 37, 3, (156, 4, 5, [])) := rfl
theorem l_St_goesOnFrom_8 : xlk (xm_cd m_St_goesOnFrom) 8 = some (.if_icmp .ne 18, 3, (0, 26, 0, [])) := rfl
theorem l_St_goesOnFrom_11 : xlk (xm_cd m_St_goesOnFrom) 11 = some (.aload_n 1, 1, (0, 0, 0, [])) := rfl
theorem l_St_goesOnFrom_12 : xlk (xm_cd m_St_goesOnFrom) 12 = some (.getfield 46, 3, (159, 4, 8, [])) := rfl
theorem l_St_goesOnFrom_15 : xlk (xm_cd m_St_goesOnFrom) 15 = some (.aload_n 0, 1, (0, 0, 0, [])) := rfl
theorem l_St_goesOnFrom_16 : xlk (xm_cd m_St_goesOnFrom) 16 = some (.getfield 40, 3, (157, 4, 6, [])) := rfl
theorem l_St_goesOnFrom_19 : xlk (xm_cd m_St_goesOnFrom) 19 = some (.if_icmp .ne 7, 3, (0, 26, 0, [])) := rfl
theorem l_St_goesOnFrom_22 : xlk (xm_cd m_St_goesOnFrom) 22 = some (.iconst 1, 1, (0, 0, 0, [])) := rfl
theorem l_St_goesOnFrom_23 : xlk (xm_cd m_St_goesOnFrom) 23 = some (.goto 4, 3, (0, 27, 0, [])) := rfl
theorem l_St_goesOnFrom_26 : xlk (xm_cd m_St_goesOnFrom) 26 = some (.iconst 0, 1, (0, 0, 0, [])) := rfl
theorem l_St_goesOnFrom_27 : xlk (xm_cd m_St_goesOnFrom) 27 = some (.ireturn, 1, (0, 0, 0, [])) := rfl
def B_St_goesOnFrom_0 (d : Nat) (E : Option Value → xH → Prop) (f : xH) (a0 : Nat) (a1 : Nat) : Prop :=
  xgi f a1 4 7 (fun v1 => xgi f a0 4 5 (fun v2 => xbr (¬ v1 = v2) (E (some (.int 0)) f) (xgi f a1 4 8 (fun v3 => xgi f a0 4 6 (fun v4 => xbr (¬ v3 = v4) (E (some (.int 0)) f) (E (some (.int 1)) f))))))
theorem b_St_goesOnFrom_0 {d : Nat} {E : Option Value → xH → Prop} {f : xH} {a0 : Nat} {a1 : Nat} (h : B_St_goesOnFrom_0 d E f a0 a1) : xWp (xT0, xSp xT0 d, none, m_St_goesOnFrom, E) 0 [some (.ref a0), some (.ref a1)] [] f 0 0 := by
  unfold B_St_goesOnFrom_0 at h
  refine s_aln l_St_goesOnFrom_0 rfl ?_
  refine s_gi l_St_goesOnFrom_1 h (fun v1 h => ?_)
  refine s_aln l_St_goesOnFrom_4 rfl ?_
  refine s_gi l_St_goesOnFrom_5 h (fun v2 h => ?_)
  refine s_ifc l_St_goesOnFrom_8 h (fun h => ?_) (fun h => ?_)
  · refine s_ic 0 l_St_goesOnFrom_26 rfl ?_
    exact s_zret l_St_goesOnFrom_27 rfl ⟨Nat.zero_le _, Nat.zero_le _⟩ ⟨Or.inl rfl, h⟩
  · refine s_aln l_St_goesOnFrom_11 rfl ?_
    refine s_gi l_St_goesOnFrom_12 h (fun v3 h => ?_)
    refine s_aln l_St_goesOnFrom_15 rfl ?_
    refine s_gi l_St_goesOnFrom_16 h (fun v4 h => ?_)
    refine s_ifc l_St_goesOnFrom_19 h (fun h => ?_) (fun h => ?_)
    · refine s_ic 0 l_St_goesOnFrom_26 rfl ?_
      exact s_zret l_St_goesOnFrom_27 rfl ⟨Nat.zero_le _, Nat.zero_le _⟩ ⟨Or.inl rfl, h⟩
    · refine s_ic 1 l_St_goesOnFrom_22 rfl ?_
      refine s_goto l_St_goesOnFrom_23 ?_
      exact s_zret l_St_goesOnFrom_27 rfl ⟨Nat.zero_le _, Nat.zero_le _⟩ ⟨Or.inr rfl, h⟩
theorem l_St_copyOf_0 : xlk (xm_cd m_St_copyOf) 0 = some (.aload_n 0, 1, (0, 0, 0, [])) := rfl
theorem l_St_copyOf_1 : xlk (xm_cd m_St_copyOf) 1 = some (.aload_n 1, 1, (0, 0, 0, [])) := rfl
theorem l_St_copyOf_2 : xlk (xm_cd m_St_copyOf) 2 = some (.getfield 33, 3, (155, 4, 4, [])) := rfl
theorem l_St_copyOf_5 : xlk (xm_cd m_St_copyOf) 5 = some (.putfield 33, 3, (155, 4, 4, [(0, 0)])) := rfl
theorem l_St_copyOf_8 : xlk (xm_cd m_St_copyOf) 8 = some (.aload_n 0, 1, (0, 0, 0, [])) := rfl
theorem l_St_copyOf_9 : xlk (xm_cd m_St_copyOf) 9 = some (.getfield 14, 3, (151, 4, 0, [])) := rfl
theorem l_St_copyOf_12 : xlk (xm_cd m_St_copyOf) 12 = some (.aload_n 1, 1, (0, 0, 0, [])) := rfl
theorem l_St_copyOf_13 : xlk (xm_cd m_St_copyOf) 13 = some (.getfield 14, 3, (151, 4, 0, [])) := rfl
theorem l_St_copyOf_16 : xlk (xm_cd m_St_copyOf) 16 = some (.invokevirtual 71, 3, (455, 19, 1, [])) := rfl
theorem l_St_copyOf_19 : xlk (xm_cd m_St_copyOf) 19 = some (.aload_n 0, 1, (0, 0, 0, [])) := rfl
theorem l_St_copyOf_20 : xlk (xm_cd m_St_copyOf) 20 = some (.getfield 20, 3, (152, 4, 1, [])) := rfl
theorem l_St_copyOf_23 : xlk (xm_cd m_St_copyOf) 23 = some (.aload_n 1, 1, (0, 0, 0, [])) := rfl
theorem l_St_copyOf_24 : xlk (xm_cd m_St_copyOf) 24 = some (.getfield 20, 3, (152, 4, 1, [])) := rfl
theorem l_St_copyOf_27 : xlk (xm_cd m_St_copyOf) 27 = some (.invokevirtual 71, 3, (455, 19, 1, [])) := rfl
theorem l_St_copyOf_30 : xlk (xm_cd m_St_copyOf) 30 = some (.aload_n 0, 1, (0, 0, 0, [])) := rfl
theorem l_St_copyOf_31 : xlk (xm_cd m_St_copyOf) 31 = some (.aload_n 1, 1, (0, 0, 0, [])) := rfl
theorem l_St_copyOf_32 : xlk (xm_cd m_St_copyOf) 32 = some (.invokevirtual 75, 3, (717, 116, 1, [])) := rfl
theorem l_St_copyOf_35 : xlk (xm_cd m_St_copyOf) 35 = some (.aload_n 0, 1, (0, 0, 0, [])) := rfl
theorem l_St_copyOf_36 : xlk (xm_cd m_St_copyOf) 36 = some (.aload_n 1, 1, (0, 0, 0, [])) := rfl
theorem l_St_copyOf_37 : xlk (xm_cd m_St_copyOf) 37 = some (.invokevirtual 79, 3, (720, 117, 1, [])) := rfl
theorem l_St_copyOf_40 : xlk (xm_cd m_St_copyOf) 40 = some (.aload_n 0, 1, (0, 0, 0, [])) := rfl
theorem l_St_copyOf_41 : xlk (xm_cd m_St_copyOf) 41 = some (.getfield 26, 3, (153, 4, 2, [])) := rfl
theorem l_St_copyOf_44 : xlk (xm_cd m_St_copyOf) 44 = some (.aload_n 1, 1, (0, 0, 0, [])) := rfl
theorem l_St_copyOf_45 : xlk (xm_cd m_St_copyOf) 45 = some (.getfield 26, 3, (153, 4, 2, [])) := rfl
theorem l_St_copyOf_48 : xlk (xm_cd m_St_copyOf) 48 = some (.invokevirtual 82, 3, (662, 103, 1, [])) := rfl
theorem l_St_copyOf_51 : xlk (xm_cd m_St_copyOf) 51 = some (.aload_n 0, 1, (0, 0, 0, [])) := rfl
theorem l_St_copyOf_52 : xlk (xm_cd m_St_copyOf) 52 = some (.getfield 30, 3, (154, 4, 3, [])) := rfl
theorem l_St_copyOf_55 : xlk (xm_cd m_St_copyOf) 55 = some (.aload_n 1, 1, (0, 0, 0, [])) := rfl
theorem l_St_copyOf_56 : xlk (xm_cd m_St_copyOf) 56 = some (.getfield 30, 3, (154, 4, 3, [])) := rfl
theorem l_St_copyOf_59 : xlk (xm_cd m_St_copyOf) 59 = some (.invokevirtual 82, 3, (662, 103, 1, [])) := rfl
theorem l_St_copyOf_62 : xlk (xm_cd m_St_copyOf) 62 = some (.return_, 1, (0, 0, 0, [])) := rfl
def B_St_copyOf_0 (d : Nat) (E : Option Value → xH → Prop) (f : xH) (a0 : Nat) (a1 : Nat) : Prop :=
  xgi f a1 4 4 (fun v1 => xpf f a0 4 4 (.int v1) (fun f2 => xgr f2 a0 4 0 (fun r3 => xgr f2 a1 4 0 (fun r4 => (∃ fs, f2 r3 = some (xO 1 fs)) ∧ xSp xT0 d j_By_copyOf [.ref r3, .ref r4] f2 (fun w5 f6 => xvv w5 (xgr f6 a0 4 1 (fun r7 => xgr f6 a1 4 1 (fun r8 => (∃ fs, f6 r7 = some (xO 1 fs)) ∧ xSp xT0 d j_By_copyOf [.ref r7, .ref r8] f6 (fun w9 f10 => xvv w9 ((∃ fs, f10 a0 = some (xO 4 fs)) ∧ xSp xT0 d j_St_copySource [.ref a0, .ref a1] f10 (fun w11 f12 => xvv w11 ((∃ fs, f12 a0 = some (xO 4 fs)) ∧ xSp xT0 d j_St_copyTarget [.ref a0, .ref a1] f12 (fun w13 f14 => xvv w13 (xgr f14 a0 4 2 (fun r15 => xgr f14 a1 4 2 (fun r16 => (∃ fs, f14 r15 = some (xO 3 fs)) ∧ xSp xT0 d j_De_copyOf [.ref r15, .ref r16] f14 (fun w17 f18 => xvv w17 (xgr f18 a0 4 3 (fun r19 => xgr f18 a1 4 3 (fun r20 => (∃ fs, f18 r19 = some (xO 3 fs)) ∧ xSp xT0 d j_De_copyOf [.ref r19, .ref r20] f18 (fun w21 f22 => xvv w21 (E none f22))))))))))))))))))))))
theorem b_St_copyOf_0 {d : Nat} {E : Option Value → xH → Prop} {f : xH} {a0 : Nat} {a1 : Nat} (h : B_St_copyOf_0 d E f a0 a1) : xWp (xT0, xSp xT0 d, none, m_St_copyOf, E) 0 [some (.ref a0), some (.ref a1)] [] f 0 0 := by
  unfold B_St_copyOf_0 at h
  refine s_aln l_St_copyOf_0 rfl ?_
  refine s_aln l_St_copyOf_1 rfl ?_
  refine s_gi l_St_copyOf_2 h (fun v1 h => ?_)
  refine s_pf l_St_copyOf_5 ⟨_, rfl⟩ h (fun f2 h => ?_)
  refine s_aln l_St_copyOf_8 rfl ?_
  refine s_gr l_St_copyOf_9 h (fun r3 h => ?_)
  refine s_aln l_St_copyOf_12 rfl ?_
  refine s_gr l_St_copyOf_13 h (fun r4 h => ?_)
  refine s_cvv (As := [.ref r4]) (r := []) l_St_copyOf_16 rfl ⟨rfl, rfl⟩ rfl (Nat.le_of_ble_eq_true rfl) rfl ⟨Nat.zero_le _, Nat.zero_le _⟩ h (fun f6 h => ?_)
  refine s_aln l_St_copyOf_19 rfl ?_
  refine s_gr l_St_copyOf_20 h (fun r7 h => ?_)
  refine s_aln l_St_copyOf_23 rfl ?_
  refine s_gr l_St_copyOf_24 h (fun r8 h => ?_)
  refine s_cvv (As := [.ref r8]) (r := []) l_St_copyOf_27 rfl ⟨rfl, rfl⟩ rfl (Nat.le_of_ble_eq_true rfl) rfl ⟨Nat.zero_le _, Nat.zero_le _⟩ h (fun f10 h => ?_)
  refine s_aln l_St_copyOf_30 rfl ?_
  refine s_aln l_St_copyOf_31 rfl ?_
  refine s_cvv (As := [.ref a1]) (r := []) l_St_copyOf_32 rfl ⟨rfl, rfl⟩ rfl (Nat.le_of_ble_eq_true rfl) rfl ⟨Nat.zero_le _, Nat.zero_le _⟩ h (fun f12 h => ?_)
  refine s_aln l_St_copyOf_35 rfl ?_
  refine s_aln l_St_copyOf_36 rfl ?_
  refine s_cvv (As := [.ref a1]) (r := []) l_St_copyOf_37 rfl ⟨rfl, rfl⟩ rfl (Nat.le_of_ble_eq_true rfl) rfl ⟨Nat.zero_le _, Nat.zero_le _⟩ h (fun f14 h => ?_)
  refine s_aln l_St_copyOf_40 rfl ?_
  refine s_gr l_St_copyOf_41 h (fun r15 h => ?_)
  refine s_aln l_St_copyOf_44 rfl ?_
  refine s_gr l_St_copyOf_45 h (fun r16 h => ?_)
  refine s_cvv (As := [.ref r16]) (r := []) l_St_copyOf_48 rfl ⟨rfl, rfl⟩ rfl (Nat.le_of_ble_eq_true rfl) rfl ⟨Nat.zero_le _, Nat.zero_le _⟩ h (fun f18 h => ?_)
  refine s_aln l_St_copyOf_51 rfl ?_
  refine s_gr l_St_copyOf_52 h (fun r19 h => ?_)
  refine s_aln l_St_copyOf_55 rfl ?_
  refine s_gr l_St_copyOf_56 h (fun r20 h => ?_)
  refine s_cvv (As := [.ref r20]) (r := []) l_St_copyOf_59 rfl ⟨rfl, rfl⟩ rfl (Nat.le_of_ble_eq_true rfl) rfl ⟨Nat.zero_le _, Nat.zero_le _⟩ h (fun f22 h => ?_)
  exact s_ret l_St_copyOf_62 ⟨Nat.zero_le _, Nat.zero_le _⟩ h
theorem l_St_copySource_0 : xlk (xm_cd m_St_copySource) 0 = some (.aload_n 0, 1, (0, 0, 0, [])) := rfl
theorem l_St_copySource_1 : xlk (xm_cd m_St_copySource) 1 = some (.aload_n 1, 1, (0, 0, 0, [])) := rfl
theorem l_St_copySource_2 : xlk (xm_cd m_St_copySource) 2 = some (.getfield 37, 3, (156, 4, 5, [])) := rfl
theorem l_St_copySource_5 : xlk (xm_cd m_St_copySource) 5 = some (.putfield 37, 3, (156, 4, 5, [(0, 0)])) := rfl
theorem l_St_copySource_8 : xlk (xm_cd m_St_copySource) 8 = some (.aload_n 0, 1, (0, 0, 0, [])) := rfl
theorem l_St_copySource_9 : xlk (xm_cd m_St_copySource) 9 = some (.aload_n 1, 1, (0, 0, 0, [])) := rfl
theorem l_St_copySource_10 : xlk (xm_cd m_St_copySource) 10 = some (.getfield 40, 3, (157, 4, 6, [])) := rfl
theorem l_St_copySource_13 : xlk (xm_cd m_St_copySource) 13 = some (.putfield 40, 3, (157, 4, 6, [(0, 0)])) := rfl
theorem l_St_copySource_16 : xlk (xm_cd m_St_copySource) 16 = some (.return_, 1, (0, 0, 0, [])) := rfl
def B_St_copySource_0 (d : Nat) (E : Option Value → xH → Prop) (f : xH) (a0 : Nat) (a1 : Nat) : Prop :=
  xgi f a1 4 5 (fun v1 => xpf f a0 4 5 (.int v1) (fun f2 => xgi f2 a1 4 6 (fun v3 => xpf f2 a0 4 6 (.int v3) (fun f4 => E none f4))))
theorem b_St_copySource_0 {d : Nat} {E : Option Value → xH → Prop} {f : xH} {a0 : Nat} {a1 : Nat} (h : B_St_copySource_0 d E f a0 a1) : xWp (xT0, xSp xT0 d, none, m_St_copySource, E) 0 [some (.ref a0), some (.ref a1)] [] f 0 0 := by
  unfold B_St_copySource_0 at h
  refine s_aln l_St_copySource_0 rfl ?_
  refine s_aln l_St_copySource_1 rfl ?_
  refine s_gi l_St_copySource_2 h (fun v1 h => ?_)
  refine s_pf l_St_copySource_5 ⟨_, rfl⟩ h (fun f2 h => ?_)
  refine s_aln l_St_copySource_8 rfl ?_
  refine s_aln l_St_copySource_9 rfl ?_
  refine s_gi l_St_copySource_10 h (fun v3 h => ?_)
  refine s_pf l_St_copySource_13 ⟨_, rfl⟩ h (fun f4 h => ?_)
  exact s_ret l_St_copySource_16 ⟨Nat.zero_le _, Nat.zero_le _⟩ h
theorem l_St_copyTarget_0 : xlk (xm_cd m_St_copyTarget) 0 = some (.aload_n 0, 1, (0, 0, 0, [])) := rfl
theorem l_St_copyTarget_1 : xlk (xm_cd m_St_copyTarget) 1 = some (.aload_n 1, 1, (0, 0, 0, [])) := rfl
theorem l_St_copyTarget_2 : xlk (xm_cd m_St_copyTarget) 2 = some (.getfield 43, 3, (158, 4, 7, [])) := rfl
theorem l_St_copyTarget_5 : xlk (xm_cd m_St_copyTarget) 5 = some (.putfield 43, 3, (158, 4, 7, [(0, 0)])) := rfl
theorem l_St_copyTarget_8 : xlk (xm_cd m_St_copyTarget) 8 = some (.aload_n 0, 1, (0, 0, 0, [])) := rfl
theorem l_St_copyTarget_9 : xlk (xm_cd m_St_copyTarget) 9 = some (.aload_n 1, 1, (0, 0, 0, [])) := rfl
theorem l_St_copyTarget_10 : xlk (xm_cd m_St_copyTarget) 10 = some (.getfield 46, 3, (159, 4, 8, [])) := rfl
theorem l_St_copyTarget_13 : xlk (xm_cd m_St_copyTarget) 13 = some (.putfield 46, 3, (159, 4, 8, [(0, 0)])) := rfl
theorem l_St_copyTarget_16 : xlk (xm_cd m_St_copyTarget) 16 = some (.return_, 1, (0, 0, 0, [])) := rfl
def B_St_copyTarget_0 (d : Nat) (E : Option Value → xH → Prop) (f : xH) (a0 : Nat) (a1 : Nat) : Prop :=
  xgi f a1 4 7 (fun v1 => xpf f a0 4 7 (.int v1) (fun f2 => xgi f2 a1 4 8 (fun v3 => xpf f2 a0 4 8 (.int v3) (fun f4 => E none f4))))
theorem b_St_copyTarget_0 {d : Nat} {E : Option Value → xH → Prop} {f : xH} {a0 : Nat} {a1 : Nat} (h : B_St_copyTarget_0 d E f a0 a1) : xWp (xT0, xSp xT0 d, none, m_St_copyTarget, E) 0 [some (.ref a0), some (.ref a1)] [] f 0 0 := by
  unfold B_St_copyTarget_0 at h
  refine s_aln l_St_copyTarget_0 rfl ?_
  refine s_aln l_St_copyTarget_1 rfl ?_
  refine s_gi l_St_copyTarget_2 h (fun v1 h => ?_)
  refine s_pf l_St_copyTarget_5 ⟨_, rfl⟩ h (fun f2 h => ?_)
  refine s_aln l_St_copyTarget_8 rfl ?_
  refine s_aln l_St_copyTarget_9 rfl ?_
  refine s_gi l_St_copyTarget_10 h (fun v3 h => ?_)
  refine s_pf l_St_copyTarget_13 ⟨_, rfl⟩ h (fun f4 h => ?_)
  exact s_ret l_St_copyTarget_16 ⟨Nat.zero_le _, Nat.zero_le _⟩ h
theorem l_St_joinOf_0 : xlk (xm_cd m_St_joinOf) 0 = some (.aload_n 0, 1, (0, 0, 0, [])) := rfl
theorem l_St_joinOf_1 : xlk (xm_cd m_St_joinOf) 1 = some (.aload_n 1, 1, (0, 0, 0, [])) := rfl
theorem l_St_joinOf_2 : xlk (xm_cd m_St_joinOf) 2 = some (.invokevirtual 75, 3, (717, 116, 1, [])) := rfl
theorem l_St_joinOf_5 : xlk (xm_cd m_St_joinOf) 5 = some (.aload_n 0, 1, (0, 0, 0, [])) := rfl
theorem l_St_joinOf_6 : xlk (xm_cd m_St_joinOf) 6 = some (.aload_n 2, 1, (0, 0, 0, [])) := rfl
theorem l_St_joinOf_7 : xlk (xm_cd m_St_joinOf) 7 = some (.invokevirtual 79, 3, (720, 117, 1, [])) := rfl
theorem l_St_joinOf_10 : xlk (xm_cd m_St_joinOf) 10 = some (.aload_n 0, 1, (0, 0, 0, [])) := rfl
theorem l_St_joinOf_11 : xlk (xm_cd m_St_joinOf) 11 = some (.getfield 26, 3, (153, 4, 2, [])) := rfl
theorem l_St_joinOf_14 : xlk (xm_cd m_St_joinOf) 14 = some (.aload_n 1, 1, (0, 0, 0, [])) := rfl
theorem l_St_joinOf_15 : xlk (xm_cd m_St_joinOf) 15 = some (.getfield 26, 3, (153, 4, 2, [])) := rfl
theorem l_St_joinOf_18 : xlk (xm_cd m_St_joinOf) 18 = some (.aload_n 2, 1, (0, 0, 0, [])) := rfl
theorem l_St_joinOf_19 : xlk (xm_cd m_St_joinOf) 19 = some (.getfield 26, 3, (153, 4, 2, [])) := rfl
theorem l_St_joinOf_22 : xlk (xm_cd m_St_joinOf) 22 = some (.invokevirtual 85, 3, (728, 119, 2, [])) := rfl
theorem l_St_joinOf_25 : xlk (xm_cd m_St_joinOf) 25 = some (.aload_n 0, 1, (0, 0, 0, [])) := rfl
theorem l_St_joinOf_26 : xlk (xm_cd m_St_joinOf) 26 = some (.getfield 30, 3, (154, 4, 3, [])) := rfl
theorem l_St_joinOf_29 : xlk (xm_cd m_St_joinOf) 29 = some (.aload_n 2, 1, (0, 0, 0, [])) := rfl
theorem l_St_joinOf_30 : xlk (xm_cd m_St_joinOf) 30 = some (.getfield 30, 3, (154, 4, 3, [])) := rfl
theorem l_St_joinOf_33 : xlk (xm_cd m_St_joinOf) 33 = some (.aload_n 1, 1, (0, 0, 0, [])) := rfl
theorem l_St_joinOf_34 : xlk (xm_cd m_St_joinOf) 34 = some (.getfield 30, 3, (154, 4, 3, [])) := rfl
theorem l_St_joinOf_37 : xlk (xm_cd m_St_joinOf) 37 = some (.invokevirtual 85, 3, (728, 119, 2, [])) := rfl
theorem l_St_joinOf_40 : xlk (xm_cd m_St_joinOf) 40 = some (.aload_n 1, 1, (0, 0, 0, [])) := rfl
theorem l_St_joinOf_41 : xlk (xm_cd m_St_joinOf) 41 = some (.getfield 33, 3, (155, 4, 4, [])) := rfl
theorem l_St_joinOf_44 : xlk (xm_cd m_St_joinOf) 44 = some (.ifCond .ne 13, 3, (0, 57, 0, [])) := rfl
theorem l_St_joinOf_47 : xlk (xm_cd m_St_joinOf) 47 = some (.aload_n 2, 1, (0, 0, 0, [])) := rfl
theorem l_St_joinOf_48 : xlk (xm_cd m_St_joinOf) 48 = some (.getfield 33, 3, (155, 4, 4, [])) := rfl
theorem l_St_joinOf_51 : xlk (xm_cd m_St_joinOf) 51 = some (.iconst 1, 1, (0, 0, 0, [])) := rfl
theorem l_St_joinOf_52 : xlk (xm_cd m_St_joinOf) 52 = some (.if_icmp .ne 5, 3, (0, 57, 0, [])) := rfl
theorem l_St_joinOf_55 : xlk (xm_cd m_St_joinOf) 55 = some (.iconst 0, 1, (0, 0, 0, [])) := rfl
theorem l_St_joinOf_56 : xlk (xm_cd m_St_joinOf) 56 = some (.ireturn, 1, (0, 0, 0, [])) := rfl
theorem l_St_joinOf_57 : xlk (xm_cd m_St_joinOf) 57 = some (.aload_n 0, 1, (0, 0, 0, [])) := rfl
theorem l_St_joinOf_58 : xlk (xm_cd m_St_joinOf) 58 = some (.getfield 14, 3, (151, 4, 0, [])) := rfl
theorem l_St_joinOf_61 : xlk (xm_cd m_St_joinOf) 61 = some (.aload_n 2, 1, (0, 0, 0, [])) := rfl
theorem l_St_joinOf_62 : xlk (xm_cd m_St_joinOf) 62 = some (.getfield 33, 3, (155, 4, 4, [])) := rfl
theorem l_St_joinOf_65 : xlk (xm_cd m_St_joinOf) 65 = some (.iconst 1, 1, (0, 0, 0, [])) := rfl
theorem l_St_joinOf_66 : xlk (xm_cd m_St_joinOf) 66 = some (.if_icmp .ne 10, 3, (0, 76, 0, [])) := rfl
theorem l_St_joinOf_69 : xlk (xm_cd m_St_joinOf) 69 = some (.aload_n 1, 1, (0, 0, 0, [])) := rfl
theorem l_St_joinOf_70 : xlk (xm_cd m_St_joinOf) 70 = some (.getfield 20, 3, (152, 4, 1, [])) := rfl
theorem l_St_joinOf_73 : xlk (xm_cd m_St_joinOf) 73 = some (.goto 7, 3, (0, 80, 0, [])) := rfl
theorem l_St_joinOf_76 : xlk (xm_cd m_St_joinOf) 76 = some (.aload_n 2, 1, (0, 0, 0, [])) := rfl
theorem l_St_joinOf_77 : xlk (xm_cd m_St_joinOf) 77 = some (.getfield 14, 3, (151, 4, 0, [])) := rfl
theorem l_St_joinOf_80 : xlk (xm_cd m_St_joinOf) 80 = some (.invokevirtual 71, 3, (455, 19, 1, [])) := rfl
theorem l_St_joinOf_83 : xlk (xm_cd m_St_joinOf) 83 = some (.aload_n 0, 1, (0, 0, 0, [])) := rfl
theorem l_St_joinOf_84 : xlk (xm_cd m_St_joinOf) 84 = some (.getfield 20, 3, (152, 4, 1, [])) := rfl
theorem l_St_joinOf_87 : xlk (xm_cd m_St_joinOf) 87 = some (.aload_n 1, 1, (0, 0, 0, [])) := rfl
theorem l_St_joinOf_88 : xlk (xm_cd m_St_joinOf) 88 = some (.getfield 33, 3, (155, 4, 4, [])) := rfl
theorem l_St_joinOf_91 : xlk (xm_cd m_St_joinOf) 91 = some (.ifCond .ne 10, 3, (0, 101, 0, [])) := rfl
theorem l_St_joinOf_94 : xlk (xm_cd m_St_joinOf) 94 = some (.aload_n 2, 1, (0, 0, 0, [])) := rfl
theorem l_St_joinOf_95 : xlk (xm_cd m_St_joinOf) 95 = some (.getfield 14, 3, (151, 4, 0, [])) := rfl
theorem l_St_joinOf_98 : xlk (xm_cd m_St_joinOf) 98 = some (.goto 7, 3, (0, 105, 0, [])) := rfl
theorem l_St_joinOf_101 : xlk (xm_cd m_St_joinOf) 101 = some (.aload_n 1, 1, (0, 0, 0, [])) := rfl
theorem l_St_joinOf_102 : xlk (xm_cd m_St_joinOf) 102 = some (.getfield 20, 3, (152, 4, 1, [])) := rfl
theorem l_St_joinOf_105 : xlk (xm_cd m_St_joinOf) 105 = some (.invokevirtual 71, 3, (455, 19, 1, [])) := rfl
theorem l_St_joinOf_108 : xlk (xm_cd m_St_joinOf) 108 = some (.aload_n 1, 1, (0, 0, 0, [])) := rfl
theorem l_St_joinOf_109 : xlk (xm_cd m_St_joinOf) 109 = some (.getfield 33, 3, (155, 4, 4, [])) := rfl
theorem l_St_joinOf_112 : xlk (xm_cd m_St_joinOf) 112 = some (.ifCond .eq 11, 3, (0, 123, 0, [])) := rfl
theorem l_St_joinOf_115 : xlk (xm_cd m_St_joinOf) 115 = some (.aload_n 2, 1, (0, 0, 0, [])) := rfl
theorem l_St_joinOf_116 : xlk (xm_cd m_St_joinOf) 116 = some (.getfield 33, 3, (155, 4, 4, [])) := rfl
theorem l_St_joinOf_119 : xlk (xm_cd m_St_joinOf) 119 = some (.iconst 1, 1, (0, 0, 0, [])) := rfl
theorem l_St_joinOf_120 : xlk (xm_cd m_St_joinOf) 120 = some (.if_icmp .ne 21, 3, (0, 141, 0, [])) := rfl
theorem l_St_joinOf_123 : xlk (xm_cd m_St_joinOf) 123 = some (.aload_n 0, 1, (0, 0, 0, [])) := rfl
theorem l_St_joinOf_124 : xlk (xm_cd m_St_joinOf) 124 = some (.aload_n 1, 1, (0, 0, 0, [])) := rfl
theorem l_St_joinOf_125 : xlk (xm_cd m_St_joinOf) 125 = some (.getfield 33, 3, (155, 4, 4, [])) := rfl
theorem l_St_joinOf_128 : xlk (xm_cd m_St_joinOf) 128 = some (.ifCond .ne 7, 3, (0, 135, 0, [])) := rfl
theorem l_St_joinOf_131 : xlk (xm_cd m_St_joinOf) 131 = some (.iconst 0, 1, (0, 0, 0, [])) := rfl
theorem l_St_joinOf_132 : xlk (xm_cd m_St_joinOf) 132 = some (.goto 4, 3, (0, 136, 0, [])) := rfl
theorem l_St_joinOf_135 : xlk (xm_cd m_St_joinOf) 135 = some (.iconst 1, 1, (0, 0, 0, [])) := rfl
theorem l_St_joinOf_136 : xlk (xm_cd m_St_joinOf) 136 = some (.putfield 33, 3, (155, 4, 4, [(0, 0)])) := rfl
theorem l_St_joinOf_139 : xlk (xm_cd m_St_joinOf) 139 = some (.iconst 1, 1, (0, 0, 0, [])) := rfl
theorem l_St_joinOf_140 : xlk (xm_cd m_St_joinOf) 140 = some (.ireturn, 1, (0, 0, 0, [])) := rfl
theorem l_St_joinOf_141 : xlk (xm_cd m_St_joinOf) 141 = some (.aload_n 0, 1, (0, 0, 0, [])) := rfl
theorem l_St_joinOf_142 : xlk (xm_cd m_St_joinOf) 142 = some (.getfield 14, 3, (151, 4, 0, [])) := rfl
theorem l_St_joinOf_145 : xlk (xm_cd m_St_joinOf) 145 = some (.aload_n 0, 1, (0, 0, 0, [])) := rfl
theorem l_St_joinOf_146 : xlk (xm_cd m_St_joinOf) 146 = some (.getfield 20, 3, (152, 4, 1, [])) := rfl
theorem l_St_joinOf_149 : xlk (xm_cd m_St_joinOf) 149 = some (.invokevirtual 53, 3, (688, 29, 1, [])) := rfl
theorem l_St_joinOf_152 : xlk (xm_cd m_St_joinOf) 152 = some (.istore_n 3, 1, (0, 0, 0, [])) := rfl
theorem l_St_joinOf_153 : xlk (xm_cd m_St_joinOf) 153 = some (.aload_n 0, 1, (0, 0, 0, [])) := rfl
theorem l_St_joinOf_154 : xlk (xm_cd m_St_joinOf) 154 = some (.getfield 26, 3, (153, 4, 2, [])) := rfl
theorem l_St_joinOf_157 : xlk (xm_cd m_St_joinOf) 157 = some (.aload_n 0, 1, (0, 0, 0, [])) := rfl
theorem l_St_joinOf_158 : xlk (xm_cd m_St_joinOf) 158 = some (.getfield 37, 3, (156, 4, 5, [])) := rfl
theorem l_St_joinOf_161 : xlk (xm_cd m_St_joinOf) 161 = some (.invokevirtual 89, 3, (732, 120, 1, [])) := rfl
theorem l_St_joinOf_164 : xlk (xm_cd m_St_joinOf) 164 = some (.istore 4, 2, (0, 0, 0, [])) := rfl
set_option maxRecDepth 20000 in
theorem l_St_joinOf_166 : xlk (xm_cd m_St_joinOf) 166 = some (.aload_n 0, 1, (0, 0, 0, [])) := rfl
set_option maxRecDepth 20000 in
theorem l_St_joinOf_167 : xlk (xm_cd m_St_joinOf) 167 = some (.iload_n 3, 1, (0, 0, 0, [])) := rfl
set_option maxRecDepth 20000 in
theorem l_St_joinOf_168 : xlk (xm_cd m_St_joinOf) 168 = some (.ifCond .eq 7, 3, (0, 175, 0, [])) := rfl
set_option maxRecDepth 20000 in
theorem l_St_joinOf_171 : xlk (xm_cd m_St_joinOf) 171 = some (.iconst 2, 1, (0, 0, 0, [])) := rfl
set_option maxRecDepth 20000 in
theorem l_St_joinOf_172 : xlk (xm_cd m_St_joinOf) 172 = some (.goto 13, 3, (0, 185, 0, [])) := rfl
set_option maxRecDepth 20000 in
theorem l_St_joinOf_175 : xlk (xm_cd m_St_joinOf) 175 = some (.iload 4, 2, (0, 0, 0, [])) := rfl
set_option maxRecDepth 20000 in
theorem l_St_joinOf_177 : xlk (xm_cd m_St_joinOf) 177 = some (.ifCond .eq 7, 3, (0, 184, 0, [])) := rfl
set_option maxRecDepth 20000 in
theorem l_St_joinOf_180 : xlk (xm_cd m_St_joinOf) 180 = some (.iconst 3, 1, (0, 0, 0, [])) := rfl
set_option maxRecDepth 20000 in
theorem l_St_joinOf_181 : xlk (xm_cd m_St_joinOf) 181 = some (.goto 4, 3, (0, 185, 0, [])) := rfl
set_option maxRecDepth 20000 in
theorem l_St_joinOf_184 : xlk (xm_cd m_St_joinOf) 184 = some (.iconst 4, 1, (0, 0, 0, [])) := rfl
set_option maxRecDepth 20000 in
theorem l_St_joinOf_185 : xlk (xm_cd m_St_joinOf) 185 = some (.putfield 33, 3, (155, 4, 4, [(0, 0)])) := rfl
set_option maxRecDepth 20000 in
theorem l_St_joinOf_188 : xlk (xm_cd m_St_joinOf) 188 = some (.iload_n 3, 1, (0, 0, 0, [])) := rfl
set_option maxRecDepth 20000 in
theorem l_St_joinOf_189 : xlk (xm_cd m_St_joinOf) 189 = some (.ifCond .eq 8, 3, (0, 197, 0, [])) := rfl
set_option maxRecDepth 20000 in
theorem l_St_joinOf_192 : xlk (xm_cd m_St_joinOf) 192 = some (.iload 4, 2, (0, 0, 0, [])) := rfl
set_option maxRecDepth 20000 in
theorem l_St_joinOf_194 : xlk (xm_cd m_St_joinOf) 194 = some (.ifCond .ne 7, 3, (0, 201, 0, [])) := rfl
set_option maxRecDepth 20000 in
theorem l_St_joinOf_197 : xlk (xm_cd m_St_joinOf) 197 = some (.iconst 1, 1, (0, 0, 0, [])) := rfl
set_option maxRecDepth 20000 in
theorem l_St_joinOf_198 : xlk (xm_cd m_St_joinOf) 198 = some (.goto 4, 3, (0, 202, 0, [])) := rfl
set_option maxRecDepth 20000 in
theorem l_St_joinOf_201 : xlk (xm_cd m_St_joinOf) 201 = some (.iconst 0, 1, (0, 0, 0, [])) := rfl
set_option maxRecDepth 20000 in
theorem l_St_joinOf_202 : xlk (xm_cd m_St_joinOf) 202 = some (.ireturn, 1, (0, 0, 0, [])) := rfl
def B_St_joinOf_0 (d : Nat) (E : Option Value → xH → Prop) (f : xH) (a0 : Nat) (a1 : Nat) (a2 : Nat) : Prop :=
  (∃ fs, f a0 = some (xO 4 fs)) ∧ xSp xT0 d j_St_copySource [.ref a0, .ref a1] f (fun w1 f2 => xvv w1 ((∃ fs, f2 a0 = some (xO 4 fs)) ∧ xSp xT0 d j_St_copyTarget [.ref a0, .ref a2] f2 (fun w3 f4 => xvv w3 (xgr f4 a0 4 2 (fun r5 => xgr f4 a1 4 2 (fun r6 => xgr f4 a2 4 2 (fun r7 => (∃ fs, f4 r5 = some (xO 3 fs)) ∧ xSp xT0 d j_De_joinOf [.ref r5, .ref r6, .ref r7] f4 (fun w8 f9 => xvv w8 (xgr f9 a0 4 3 (fun r10 => xgr f9 a2 4 3 (fun r11 => xgr f9 a1 4 3 (fun r12 => (∃ fs, f9 r10 = some (xO 3 fs)) ∧ xSp xT0 d j_De_joinOf [.ref r10, .ref r11, .ref r12] f9 (fun w13 f14 => xvv w13 (xgi f14 a1 4 4 (fun v15 => xbr (¬ v15 = 0) (xWp (xT0, xSp xT0 d, none, m_St_joinOf, E) 57 [some (.ref a0), some (.ref a1), some (.ref a2), none, none] [] f14 0 0) (xgi f14 a2 4 4 (fun v16 => xbr (¬ v16 = 1) (xWp (xT0, xSp xT0 d, none, m_St_joinOf, E) 57 [some (.ref a0), some (.ref a1), some (.ref a2), none, none] [] f14 0 0) (E (some (.int 0)) f14))))))))))))))))))
theorem b_St_joinOf_0 {d : Nat} {E : Option Value → xH → Prop} {f : xH} {a0 : Nat} {a1 : Nat} {a2 : Nat} (h : B_St_joinOf_0 d E f a0 a1 a2) : xWp (xT0, xSp xT0 d, none, m_St_joinOf, E) 0 [some (.ref a0), some (.ref a1), some (.ref a2), none, none] [] f 0 0 := by
  unfold B_St_joinOf_0 at h
  refine s_aln l_St_joinOf_0 rfl ?_
  refine s_aln l_St_joinOf_1 rfl ?_
  refine s_cvv (As := [.ref a1]) (r := []) l_St_joinOf_2 rfl ⟨rfl, rfl⟩ rfl (Nat.le_of_ble_eq_true rfl) rfl ⟨Nat.zero_le _, Nat.zero_le _⟩ h (fun f2 h => ?_)
  refine s_aln l_St_joinOf_5 rfl ?_
  refine s_aln l_St_joinOf_6 rfl ?_
  refine s_cvv (As := [.ref a2]) (r := []) l_St_joinOf_7 rfl ⟨rfl, rfl⟩ rfl (Nat.le_of_ble_eq_true rfl) rfl ⟨Nat.zero_le _, Nat.zero_le _⟩ h (fun f4 h => ?_)
  refine s_aln l_St_joinOf_10 rfl ?_
  refine s_gr l_St_joinOf_11 h (fun r5 h => ?_)
  refine s_aln l_St_joinOf_14 rfl ?_
  refine s_gr l_St_joinOf_15 h (fun r6 h => ?_)
  refine s_aln l_St_joinOf_18 rfl ?_
  refine s_gr l_St_joinOf_19 h (fun r7 h => ?_)
  refine s_cvv (As := [.ref r6, .ref r7]) (r := []) l_St_joinOf_22 rfl ⟨rfl, rfl⟩ rfl (Nat.le_of_ble_eq_true rfl) rfl ⟨Nat.zero_le _, Nat.zero_le _⟩ h (fun f9 h => ?_)
  refine s_aln l_St_joinOf_25 rfl ?_
  refine s_gr l_St_joinOf_26 h (fun r10 h => ?_)
  refine s_aln l_St_joinOf_29 rfl ?_
  refine s_gr l_St_joinOf_30 h (fun r11 h => ?_)
  refine s_aln l_St_joinOf_33 rfl ?_
  refine s_gr l_St_joinOf_34 h (fun r12 h => ?_)
  refine s_cvv (As := [.ref r11, .ref r12]) (r := []) l_St_joinOf_37 rfl ⟨rfl, rfl⟩ rfl (Nat.le_of_ble_eq_true rfl) rfl ⟨Nat.zero_le _, Nat.zero_le _⟩ h (fun f14 h => ?_)
  refine s_aln l_St_joinOf_40 rfl ?_
  refine s_gi l_St_joinOf_41 h (fun v15 h => ?_)
  refine s_if l_St_joinOf_44 h (fun h => ?_) (fun h => ?_)
  · exact h
  · refine s_aln l_St_joinOf_47 rfl ?_
    refine s_gi l_St_joinOf_48 h (fun v16 h => ?_)
    refine s_ic 1 l_St_joinOf_51 rfl ?_
    refine s_ifc l_St_joinOf_52 h (fun h => ?_) (fun h => ?_)
    · exact h
    · refine s_ic 0 l_St_joinOf_55 rfl ?_
      exact s_zret l_St_joinOf_56 rfl ⟨Nat.zero_le _, Nat.zero_le _⟩ ⟨Or.inl rfl, h⟩
def B_St_joinOf_57 (d : Nat) (E : Option Value → xH → Prop) (f : xH) (a0 : Nat) (a1 : Nat) (a2 : Nat) (u3 : Option Value) (u4 : Option Value) : Prop :=
  xgr f a0 4 0 (fun r1 => xgi f a2 4 4 (fun v2 => xbr (¬ v2 = 1) (xgr f a2 4 0 (fun r3 => xWp (xT0, xSp xT0 d, none, m_St_joinOf, E) 80 [some (.ref a0), some (.ref a1), some (.ref a2), u3, u4] [.ref r3, .ref r1] f 0 0)) (xgr f a1 4 1 (fun r4 => xWp (xT0, xSp xT0 d, none, m_St_joinOf, E) 80 [some (.ref a0), some (.ref a1), some (.ref a2), u3, u4] [.ref r4, .ref r1] f 0 0))))
theorem b_St_joinOf_57 {d : Nat} {E : Option Value → xH → Prop} {f : xH} {a0 : Nat} {a1 : Nat} {a2 : Nat} {u3 : Option Value} {u4 : Option Value} (h : B_St_joinOf_57 d E f a0 a1 a2 u3 u4) : xWp (xT0, xSp xT0 d, none, m_St_joinOf, E) 57 [some (.ref a0), some (.ref a1), some (.ref a2), u3, u4] [] f 0 0 := by
  unfold B_St_joinOf_57 at h
  refine s_aln l_St_joinOf_57 rfl ?_
  refine s_gr l_St_joinOf_58 h (fun r1 h => ?_)
  refine s_aln l_St_joinOf_61 rfl ?_
  refine s_gi l_St_joinOf_62 h (fun v2 h => ?_)
  refine s_ic 1 l_St_joinOf_65 rfl ?_
  refine s_ifc l_St_joinOf_66 h (fun h => ?_) (fun h => ?_)
  · refine s_aln l_St_joinOf_76 rfl ?_
    refine s_gr l_St_joinOf_77 h (fun r3 h => ?_)
    exact h
  · refine s_aln l_St_joinOf_69 rfl ?_
    refine s_gr l_St_joinOf_70 h (fun r4 h => ?_)
    refine s_goto l_St_joinOf_73 ?_
    exact h
def B_St_joinOf_80 (d : Nat) (E : Option Value → xH → Prop) (f : xH) (a0 : Nat) (a1 : Nat) (a2 : Nat) (u3 : Option Value) (u4 : Option Value) (s0 : Nat) (s1 : Nat) : Prop :=
  (∃ fs, f s1 = some (xO 1 fs)) ∧ xSp xT0 d j_By_copyOf [.ref s1, .ref s0] f (fun w1 f2 => xvv w1 (xgr f2 a0 4 1 (fun r3 => xgi f2 a1 4 4 (fun v4 => xbr (¬ v4 = 0) (xgr f2 a1 4 1 (fun r5 => xWp (xT0, xSp xT0 d, none, m_St_joinOf, E) 105 [some (.ref a0), some (.ref a1), some (.ref a2), u3, u4] [.ref r5, .ref r3] f2 0 0)) (xgr f2 a2 4 0 (fun r6 => xWp (xT0, xSp xT0 d, none, m_St_joinOf, E) 105 [some (.ref a0), some (.ref a1), some (.ref a2), u3, u4] [.ref r6, .ref r3] f2 0 0))))))
theorem b_St_joinOf_80 {d : Nat} {E : Option Value → xH → Prop} {f : xH} {a0 : Nat} {a1 : Nat} {a2 : Nat} {u3 : Option Value} {u4 : Option Value} {s0 : Nat} {s1 : Nat} (h : B_St_joinOf_80 d E f a0 a1 a2 u3 u4 s0 s1) : xWp (xT0, xSp xT0 d, none, m_St_joinOf, E) 80 [some (.ref a0), some (.ref a1), some (.ref a2), u3, u4] [.ref s0, .ref s1] f 0 0 := by
  unfold B_St_joinOf_80 at h
  refine s_cvv (As := [.ref s0]) (r := []) l_St_joinOf_80 rfl ⟨rfl, rfl⟩ rfl (Nat.le_of_ble_eq_true rfl) rfl ⟨Nat.zero_le _, Nat.zero_le _⟩ h (fun f2 h => ?_)
  refine s_aln l_St_joinOf_83 rfl ?_
  refine s_gr l_St_joinOf_84 h (fun r3 h => ?_)
  refine s_aln l_St_joinOf_87 rfl ?_
  refine s_gi l_St_joinOf_88 h (fun v4 h => ?_)
  refine s_if l_St_joinOf_91 h (fun h => ?_) (fun h => ?_)
  · refine s_aln l_St_joinOf_101 rfl ?_
    refine s_gr l_St_joinOf_102 h (fun r5 h => ?_)
    exact h
  · refine s_aln l_St_joinOf_94 rfl ?_
    refine s_gr l_St_joinOf_95 h (fun r6 h => ?_)
    refine s_goto l_St_joinOf_98 ?_
    exact h
def B_St_joinOf_105 (d : Nat) (E : Option Value → xH → Prop) (f : xH) (a0 : Nat) (a1 : Nat) (a2 : Nat) (u3 : Option Value) (u4 : Option Value) (s0 : Nat) (s1 : Nat) : Prop :=
  (∃ fs, f s1 = some (xO 1 fs)) ∧ xSp xT0 d j_By_copyOf [.ref s1, .ref s0] f (fun w1 f2 => xvv w1 (xgi f2 a1 4 4 (fun v3 => xbr (v3 = 0) (xWp (xT0, xSp xT0 d, none, m_St_joinOf, E) 123 [some (.ref a0), some (.ref a1), some (.ref a2), u3, u4] [] f2 0 0) (xgi f2 a2 4 4 (fun v4 => xbr (¬ v4 = 1) (xgr f2 a0 4 0 (fun r5 => xgr f2 a0 4 1 (fun r6 => (∃ fs, f2 r5 = some (xO 1 fs)) ∧ xSp xT0 d j_By_equalTo [.ref r5, .ref r6] f2 (fun w7 f8 => xvi w7 (fun v9 => xgr f8 a0 4 2 (fun r10 => xgi f8 a0 4 5 (fun v11 => (∃ fs, f8 r10 = some (xO 3 fs)) ∧ xSp xT0 d j_De_isWhole [.ref r10, .int v11] f8 (fun w12 f13 => xvi w12 (fun v14 => xbr (v9 = 0) (xbr (v14 = 0) (xWp (xT0, xSp xT0 d, none, m_St_joinOf, E) 185 [some (.ref a0), some (.ref a1), some (.ref a2), some (.int v9), some (.int v14)] [.int 4, .ref a0] f13 0 0) (xWp (xT0, xSp xT0 d, none, m_St_joinOf, E) 185 [some (.ref a0), some (.ref a1), some (.ref a2), some (.int v9), some (.int v14)] [.int 3, .ref a0] f13 0 0)) (xWp (xT0, xSp xT0 d, none, m_St_joinOf, E) 185 [some (.ref a0), some (.ref a1), some (.ref a2), some (.int v9), some (.int v14)] [.int 2, .ref a0] f13 0 0)))))))))) (xWp (xT0, xSp xT0 d, none, m_St_joinOf, E) 123 [some (.ref a0), some (.ref a1), some (.ref a2), u3, u4] [] f2 0 0))))))
theorem b_St_joinOf_105 {d : Nat} {E : Option Value → xH → Prop} {f : xH} {a0 : Nat} {a1 : Nat} {a2 : Nat} {u3 : Option Value} {u4 : Option Value} {s0 : Nat} {s1 : Nat} (h : B_St_joinOf_105 d E f a0 a1 a2 u3 u4 s0 s1) : xWp (xT0, xSp xT0 d, none, m_St_joinOf, E) 105 [some (.ref a0), some (.ref a1), some (.ref a2), u3, u4] [.ref s0, .ref s1] f 0 0 := by
  unfold B_St_joinOf_105 at h
  refine s_cvv (As := [.ref s0]) (r := []) l_St_joinOf_105 rfl ⟨rfl, rfl⟩ rfl (Nat.le_of_ble_eq_true rfl) rfl ⟨Nat.zero_le _, Nat.zero_le _⟩ h (fun f2 h => ?_)
  refine s_aln l_St_joinOf_108 rfl ?_
  refine s_gi l_St_joinOf_109 h (fun v3 h => ?_)
  refine s_if l_St_joinOf_112 h (fun h => ?_) (fun h => ?_)
  · exact h
  · refine s_aln l_St_joinOf_115 rfl ?_
    refine s_gi l_St_joinOf_116 h (fun v4 h => ?_)
    refine s_ic 1 l_St_joinOf_119 rfl ?_
    refine s_ifc l_St_joinOf_120 h (fun h => ?_) (fun h => ?_)
    · refine s_aln l_St_joinOf_141 rfl ?_
      refine s_gr l_St_joinOf_142 h (fun r5 h => ?_)
      refine s_aln l_St_joinOf_145 rfl ?_
      refine s_gr l_St_joinOf_146 h (fun r6 h => ?_)
      refine s_cvi (As := [.ref r6]) (r := []) l_St_joinOf_149 rfl ⟨rfl, rfl⟩ rfl (Nat.le_of_ble_eq_true rfl) rfl ⟨Nat.zero_le _, Nat.zero_le _⟩ h (fun v9 f8 h => ?_)
      refine s_isn l_St_joinOf_152 (Nat.le_of_ble_eq_true rfl) ?_
      refine s_aln l_St_joinOf_153 rfl ?_
      refine s_gr l_St_joinOf_154 h (fun r10 h => ?_)
      refine s_aln l_St_joinOf_157 rfl ?_
      refine s_gi l_St_joinOf_158 h (fun v11 h => ?_)
      refine s_cvi (As := [.int v11]) (r := []) l_St_joinOf_161 rfl ⟨rfl, rfl⟩ rfl (Nat.le_of_ble_eq_true rfl) rfl ⟨Nat.zero_le _, Nat.zero_le _⟩ h (fun v14 f13 h => ?_)
      refine s_is l_St_joinOf_164 (Nat.le_of_ble_eq_true rfl) ?_
      refine s_aln l_St_joinOf_166 rfl ?_
      refine s_iln l_St_joinOf_167 rfl ?_
      refine s_if l_St_joinOf_168 h (fun h => ?_) (fun h => ?_)
      · refine s_il l_St_joinOf_175 rfl ?_
        refine s_if l_St_joinOf_177 h (fun h => ?_) (fun h => ?_)
        · refine s_ic 4 l_St_joinOf_184 rfl ?_
          exact h
        · refine s_ic 3 l_St_joinOf_180 rfl ?_
          refine s_goto l_St_joinOf_181 ?_
          exact h
      · refine s_ic 2 l_St_joinOf_171 rfl ?_
        refine s_goto l_St_joinOf_172 ?_
        exact h
    · exact h
def B_St_joinOf_123 (d : Nat) (E : Option Value → xH → Prop) (f : xH) (a0 : Nat) (a1 : Nat) (a2 : Nat) (u3 : Option Value) (u4 : Option Value) : Prop :=
  xgi f a1 4 4 (fun v1 => xbr (¬ v1 = 0) (xpf f a0 4 4 (.int 1) (fun f2 => E (some (.int 1)) f2)) (xpf f a0 4 4 (.int 0) (fun f3 => E (some (.int 1)) f3)))
theorem b_St_joinOf_123 {d : Nat} {E : Option Value → xH → Prop} {f : xH} {a0 : Nat} {a1 : Nat} {a2 : Nat} {u3 : Option Value} {u4 : Option Value} (h : B_St_joinOf_123 d E f a0 a1 a2 u3 u4) : xWp (xT0, xSp xT0 d, none, m_St_joinOf, E) 123 [some (.ref a0), some (.ref a1), some (.ref a2), u3, u4] [] f 0 0 := by
  unfold B_St_joinOf_123 at h
  refine s_aln l_St_joinOf_123 rfl ?_
  refine s_aln l_St_joinOf_124 rfl ?_
  refine s_gi l_St_joinOf_125 h (fun v1 h => ?_)
  refine s_if l_St_joinOf_128 h (fun h => ?_) (fun h => ?_)
  · refine s_ic 1 l_St_joinOf_135 rfl ?_
    refine s_pf l_St_joinOf_136 ⟨_, rfl⟩ h (fun f2 h => ?_)
    refine s_ic 1 l_St_joinOf_139 rfl ?_
    exact s_zret l_St_joinOf_140 rfl ⟨Nat.zero_le _, Nat.zero_le _⟩ ⟨Or.inr rfl, h⟩
  · refine s_ic 0 l_St_joinOf_131 rfl ?_
    refine s_goto l_St_joinOf_132 ?_
    refine s_pf l_St_joinOf_136 ⟨_, rfl⟩ h (fun f3 h => ?_)
    refine s_ic 1 l_St_joinOf_139 rfl ?_
    exact s_zret l_St_joinOf_140 rfl ⟨Nat.zero_le _, Nat.zero_le _⟩ ⟨Or.inr rfl, h⟩
def B_St_joinOf_185 (d : Nat) (E : Option Value → xH → Prop) (f : xH) (a0 : Nat) (a1 : Nat) (a2 : Nat) (x3 : Int32) (x4 : Int32) (s0 : Int32) (s1 : Nat) : Prop :=
  xpf f s1 4 4 (.int s0) (fun f1 => xbr (x3 = 0) (E (some (.int 1)) f1) (xbr (¬ x4 = 0) (E (some (.int 0)) f1) (E (some (.int 1)) f1)))
theorem b_St_joinOf_185 {d : Nat} {E : Option Value → xH → Prop} {f : xH} {a0 : Nat} {a1 : Nat} {a2 : Nat} {x3 : Int32} {x4 : Int32} {s0 : Int32} {s1 : Nat} (h : B_St_joinOf_185 d E f a0 a1 a2 x3 x4 s0 s1) : xWp (xT0, xSp xT0 d, none, m_St_joinOf, E) 185 [some (.ref a0), some (.ref a1), some (.ref a2), some (.int x3), some (.int x4)] [.int s0, .ref s1] f 0 0 := by
  unfold B_St_joinOf_185 at h
  refine s_pf l_St_joinOf_185 ⟨_, rfl⟩ h (fun f1 h => ?_)
  refine s_iln l_St_joinOf_188 rfl ?_
  refine s_if l_St_joinOf_189 h (fun h => ?_) (fun h => ?_)
  · refine s_ic 1 l_St_joinOf_197 rfl ?_
    refine s_goto l_St_joinOf_198 ?_
    exact s_zret l_St_joinOf_202 rfl ⟨Nat.zero_le _, Nat.zero_le _⟩ ⟨Or.inr rfl, h⟩
  · refine s_il l_St_joinOf_192 rfl ?_
    refine s_if l_St_joinOf_194 h (fun h => ?_) (fun h => ?_)
    · refine s_ic 0 l_St_joinOf_201 rfl ?_
      exact s_zret l_St_joinOf_202 rfl ⟨Nat.zero_le _, Nat.zero_le _⟩ ⟨Or.inl rfl, h⟩
    · refine s_ic 1 l_St_joinOf_197 rfl ?_
      refine s_goto l_St_joinOf_198 ?_
      exact s_zret l_St_joinOf_202 rfl ⟨Nat.zero_le _, Nat.zero_le _⟩ ⟨Or.inr rfl, h⟩
theorem l_St_changeOf_0 : xlk (xm_cd m_St_changeOf) 0 = some (.aload_n 0, 1, (0, 0, 0, [])) := rfl
theorem l_St_changeOf_1 : xlk (xm_cd m_St_changeOf) 1 = some (.iconst 2, 1, (0, 0, 0, [])) := rfl
theorem l_St_changeOf_2 : xlk (xm_cd m_St_changeOf) 2 = some (.putfield 33, 3, (155, 4, 4, [(0, 0)])) := rfl
theorem l_St_changeOf_5 : xlk (xm_cd m_St_changeOf) 5 = some (.aload_n 0, 1, (0, 0, 0, [])) := rfl
theorem l_St_changeOf_6 : xlk (xm_cd m_St_changeOf) 6 = some (.getfield 14, 3, (151, 4, 0, [])) := rfl
theorem l_St_changeOf_9 : xlk (xm_cd m_St_changeOf) 9 = some (.aload_n 2, 1, (0, 0, 0, [])) := rfl
theorem l_St_changeOf_10 : xlk (xm_cd m_St_changeOf) 10 = some (.getfield 14, 3, (151, 4, 0, [])) := rfl
theorem l_St_changeOf_13 : xlk (xm_cd m_St_changeOf) 13 = some (.invokevirtual 71, 3, (455, 19, 1, [])) := rfl
theorem l_St_changeOf_16 : xlk (xm_cd m_St_changeOf) 16 = some (.aload_n 0, 1, (0, 0, 0, [])) := rfl
theorem l_St_changeOf_17 : xlk (xm_cd m_St_changeOf) 17 = some (.getfield 20, 3, (152, 4, 1, [])) := rfl
theorem l_St_changeOf_20 : xlk (xm_cd m_St_changeOf) 20 = some (.aload_n 1, 1, (0, 0, 0, [])) := rfl
theorem l_St_changeOf_21 : xlk (xm_cd m_St_changeOf) 21 = some (.getfield 14, 3, (151, 4, 0, [])) := rfl
theorem l_St_changeOf_24 : xlk (xm_cd m_St_changeOf) 24 = some (.invokevirtual 71, 3, (455, 19, 1, [])) := rfl
theorem l_St_changeOf_27 : xlk (xm_cd m_St_changeOf) 27 = some (.aload_n 0, 1, (0, 0, 0, [])) := rfl
theorem l_St_changeOf_28 : xlk (xm_cd m_St_changeOf) 28 = some (.aload_n 1, 1, (0, 0, 0, [])) := rfl
theorem l_St_changeOf_29 : xlk (xm_cd m_St_changeOf) 29 = some (.invokevirtual 75, 3, (717, 116, 1, [])) := rfl
theorem l_St_changeOf_32 : xlk (xm_cd m_St_changeOf) 32 = some (.aload_n 0, 1, (0, 0, 0, [])) := rfl
theorem l_St_changeOf_33 : xlk (xm_cd m_St_changeOf) 33 = some (.aload_n 2, 1, (0, 0, 0, [])) := rfl
theorem l_St_changeOf_34 : xlk (xm_cd m_St_changeOf) 34 = some (.invokevirtual 79, 3, (720, 117, 1, [])) := rfl
theorem l_St_changeOf_37 : xlk (xm_cd m_St_changeOf) 37 = some (.aload_n 0, 1, (0, 0, 0, [])) := rfl
theorem l_St_changeOf_38 : xlk (xm_cd m_St_changeOf) 38 = some (.getfield 26, 3, (153, 4, 2, [])) := rfl
theorem l_St_changeOf_41 : xlk (xm_cd m_St_changeOf) 41 = some (.aload_n 2, 1, (0, 0, 0, [])) := rfl
theorem l_St_changeOf_42 : xlk (xm_cd m_St_changeOf) 42 = some (.getfield 26, 3, (153, 4, 2, [])) := rfl
theorem l_St_changeOf_45 : xlk (xm_cd m_St_changeOf) 45 = some (.invokevirtual 82, 3, (662, 103, 1, [])) := rfl
theorem l_St_changeOf_48 : xlk (xm_cd m_St_changeOf) 48 = some (.aload_n 0, 1, (0, 0, 0, [])) := rfl
theorem l_St_changeOf_49 : xlk (xm_cd m_St_changeOf) 49 = some (.getfield 30, 3, (154, 4, 3, [])) := rfl
theorem l_St_changeOf_52 : xlk (xm_cd m_St_changeOf) 52 = some (.aload_n 1, 1, (0, 0, 0, [])) := rfl
theorem l_St_changeOf_53 : xlk (xm_cd m_St_changeOf) 53 = some (.getfield 30, 3, (154, 4, 3, [])) := rfl
theorem l_St_changeOf_56 : xlk (xm_cd m_St_changeOf) 56 = some (.invokevirtual 82, 3, (662, 103, 1, [])) := rfl
theorem l_St_changeOf_59 : xlk (xm_cd m_St_changeOf) 59 = some (.return_, 1, (0, 0, 0, [])) := rfl
def B_St_changeOf_0 (d : Nat) (E : Option Value → xH → Prop) (f : xH) (a0 : Nat) (a1 : Nat) (a2 : Nat) : Prop :=
  xpf f a0 4 4 (.int 2) (fun f1 => xgr f1 a0 4 0 (fun r2 => xgr f1 a2 4 0 (fun r3 => (∃ fs, f1 r2 = some (xO 1 fs)) ∧ xSp xT0 d j_By_copyOf [.ref r2, .ref r3] f1 (fun w4 f5 => xvv w4 (xgr f5 a0 4 1 (fun r6 => xgr f5 a1 4 0 (fun r7 => (∃ fs, f5 r6 = some (xO 1 fs)) ∧ xSp xT0 d j_By_copyOf [.ref r6, .ref r7] f5 (fun w8 f9 => xvv w8 ((∃ fs, f9 a0 = some (xO 4 fs)) ∧ xSp xT0 d j_St_copySource [.ref a0, .ref a1] f9 (fun w10 f11 => xvv w10 ((∃ fs, f11 a0 = some (xO 4 fs)) ∧ xSp xT0 d j_St_copyTarget [.ref a0, .ref a2] f11 (fun w12 f13 => xvv w12 (xgr f13 a0 4 2 (fun r14 => xgr f13 a2 4 2 (fun r15 => (∃ fs, f13 r14 = some (xO 3 fs)) ∧ xSp xT0 d j_De_copyOf [.ref r14, .ref r15] f13 (fun w16 f17 => xvv w16 (xgr f17 a0 4 3 (fun r18 => xgr f17 a1 4 3 (fun r19 => (∃ fs, f17 r18 = some (xO 3 fs)) ∧ xSp xT0 d j_De_copyOf [.ref r18, .ref r19] f17 (fun w20 f21 => xvv w20 (E none f21)))))))))))))))))))))
theorem b_St_changeOf_0 {d : Nat} {E : Option Value → xH → Prop} {f : xH} {a0 : Nat} {a1 : Nat} {a2 : Nat} (h : B_St_changeOf_0 d E f a0 a1 a2) : xWp (xT0, xSp xT0 d, none, m_St_changeOf, E) 0 [some (.ref a0), some (.ref a1), some (.ref a2)] [] f 0 0 := by
  unfold B_St_changeOf_0 at h
  refine s_aln l_St_changeOf_0 rfl ?_
  refine s_ic 2 l_St_changeOf_1 rfl ?_
  refine s_pf l_St_changeOf_2 ⟨_, rfl⟩ h (fun f1 h => ?_)
  refine s_aln l_St_changeOf_5 rfl ?_
  refine s_gr l_St_changeOf_6 h (fun r2 h => ?_)
  refine s_aln l_St_changeOf_9 rfl ?_
  refine s_gr l_St_changeOf_10 h (fun r3 h => ?_)
  refine s_cvv (As := [.ref r3]) (r := []) l_St_changeOf_13 rfl ⟨rfl, rfl⟩ rfl (Nat.le_of_ble_eq_true rfl) rfl ⟨Nat.zero_le _, Nat.zero_le _⟩ h (fun f5 h => ?_)
  refine s_aln l_St_changeOf_16 rfl ?_
  refine s_gr l_St_changeOf_17 h (fun r6 h => ?_)
  refine s_aln l_St_changeOf_20 rfl ?_
  refine s_gr l_St_changeOf_21 h (fun r7 h => ?_)
  refine s_cvv (As := [.ref r7]) (r := []) l_St_changeOf_24 rfl ⟨rfl, rfl⟩ rfl (Nat.le_of_ble_eq_true rfl) rfl ⟨Nat.zero_le _, Nat.zero_le _⟩ h (fun f9 h => ?_)
  refine s_aln l_St_changeOf_27 rfl ?_
  refine s_aln l_St_changeOf_28 rfl ?_
  refine s_cvv (As := [.ref a1]) (r := []) l_St_changeOf_29 rfl ⟨rfl, rfl⟩ rfl (Nat.le_of_ble_eq_true rfl) rfl ⟨Nat.zero_le _, Nat.zero_le _⟩ h (fun f11 h => ?_)
  refine s_aln l_St_changeOf_32 rfl ?_
  refine s_aln l_St_changeOf_33 rfl ?_
  refine s_cvv (As := [.ref a2]) (r := []) l_St_changeOf_34 rfl ⟨rfl, rfl⟩ rfl (Nat.le_of_ble_eq_true rfl) rfl ⟨Nat.zero_le _, Nat.zero_le _⟩ h (fun f13 h => ?_)
  refine s_aln l_St_changeOf_37 rfl ?_
  refine s_gr l_St_changeOf_38 h (fun r14 h => ?_)
  refine s_aln l_St_changeOf_41 rfl ?_
  refine s_gr l_St_changeOf_42 h (fun r15 h => ?_)
  refine s_cvv (As := [.ref r15]) (r := []) l_St_changeOf_45 rfl ⟨rfl, rfl⟩ rfl (Nat.le_of_ble_eq_true rfl) rfl ⟨Nat.zero_le _, Nat.zero_le _⟩ h (fun f17 h => ?_)
  refine s_aln l_St_changeOf_48 rfl ?_
  refine s_gr l_St_changeOf_49 h (fun r18 h => ?_)
  refine s_aln l_St_changeOf_52 rfl ?_
  refine s_gr l_St_changeOf_53 h (fun r19 h => ?_)
  refine s_cvv (As := [.ref r19]) (r := []) l_St_changeOf_56 rfl ⟨rfl, rfl⟩ rfl (Nat.le_of_ble_eq_true rfl) rfl ⟨Nat.zero_le _, Nat.zero_le _⟩ h (fun f21 h => ?_)
  exact s_ret l_St_changeOf_59 ⟨Nat.zero_le _, Nat.zero_le _⟩ h
