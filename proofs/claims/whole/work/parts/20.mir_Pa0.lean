/-! blocks of Pa, 0 -/
theorem l_Pa_empty_0 : xlk (xm_cd m_Pa_empty) 0 = some (.aload_n 0, 1, (0, 0, 0, [])) := rfl
theorem l_Pa_empty_1 : xlk (xm_cd m_Pa_empty) 1 = some (.iconst 0, 1, (0, 0, 0, [])) := rfl
theorem l_Pa_empty_2 : xlk (xm_cd m_Pa_empty) 2 = some (.putfield 18, 3, (170, 5, 1, [(0, 0)])) := rfl
theorem l_Pa_empty_5 : xlk (xm_cd m_Pa_empty) 5 = some (.return_, 1, (0, 0, 0, [])) := rfl
def B_Pa_empty_0 (d : Nat) (E : Option Value → xH → Prop) (f : xH) (a0 : Nat) : Prop :=
  xpf f a0 5 1 (.int 0) (fun f1 => E none f1)
theorem b_Pa_empty_0 {d : Nat} {E : Option Value → xH → Prop} {f : xH} {a0 : Nat} (h : B_Pa_empty_0 d E f a0) : xWp (xT0, xSp xT0 d, none, m_Pa_empty, E) 0 [some (.ref a0)] [] f 0 0 := by
  unfold B_Pa_empty_0 at h
  refine s_aln l_Pa_empty_0 rfl ?_
  refine s_ic 0 l_Pa_empty_1 rfl ?_
  refine s_pf l_Pa_empty_2 ⟨_, rfl⟩ h (fun f1 h => ?_)
  exact s_ret l_Pa_empty_5 ⟨Nat.zero_le _, Nat.zero_le _⟩ h
theorem l_Pa_blank_0 : xlk (xm_cd m_Pa_blank) 0 = some (.aload_n 0, 1, (0, 0, 0, [])) := rfl
theorem l_Pa_blank_1 : xlk (xm_cd m_Pa_blank) 1 = some (.getfield 11, 3, (169, 5, 0, [])) := rfl
theorem l_Pa_blank_4 : xlk (xm_cd m_Pa_blank) 4 = some (.aload_n 0, 1, (0, 0, 0, [])) := rfl
theorem l_Pa_blank_5 : xlk (xm_cd m_Pa_blank) 5 = some (.getfield 18, 3, (170, 5, 1, [])) := rfl
theorem l_Pa_blank_8 : xlk (xm_cd m_Pa_blank) 8 = some (.aaload, 1, (0, 5, 0, [])) := rfl
theorem l_Pa_blank_9 : xlk (xm_cd m_Pa_blank) 9 = some (.areturn, 1, (0, 0, 0, [])) := rfl
def B_Pa_blank_0 (d : Nat) (E : Option Value → xH → Prop) (f : xH) (a0 : Nat) : Prop :=
  xgr f a0 5 0 (fun r1 => xgi f a0 5 1 (fun v2 => xrl f r1 5 v2 (fun r3 => E (some (.ref r3)) f)))
theorem b_Pa_blank_0 {d : Nat} {E : Option Value → xH → Prop} {f : xH} {a0 : Nat} (h : B_Pa_blank_0 d E f a0) : xWp (xT0, xSp xT0 d, none, m_Pa_blank, E) 0 [some (.ref a0)] [] f 0 0 := by
  unfold B_Pa_blank_0 at h
  refine s_aln l_Pa_blank_0 rfl ?_
  refine s_gr l_Pa_blank_1 h (fun r1 h => ?_)
  refine s_aln l_Pa_blank_4 rfl ?_
  refine s_gi l_Pa_blank_5 h (fun v2 h => ?_)
  refine s_aal l_Pa_blank_8 h (fun r3 h => ?_)
  exact s_aret l_Pa_blank_9 ⟨Nat.zero_le _, Nat.zero_le _⟩ h
theorem l_Pa_keepBlank_0 : xlk (xm_cd m_Pa_keepBlank) 0 = some (.aload_n 0, 1, (0, 0, 0, [])) := rfl
theorem l_Pa_keepBlank_1 : xlk (xm_cd m_Pa_keepBlank) 1 = some (.getfield 18, 3, (170, 5, 1, [])) := rfl
theorem l_Pa_keepBlank_4 : xlk (xm_cd m_Pa_keepBlank) 4 = some (.bipush 24, 2, (0, 0, 0, [])) := rfl
theorem l_Pa_keepBlank_6 : xlk (xm_cd m_Pa_keepBlank) 6 = some (.if_icmp .lt 5, 3, (0, 11, 0, [])) := rfl
theorem l_Pa_keepBlank_9 : xlk (xm_cd m_Pa_keepBlank) 9 = some (.iconst 0, 1, (0, 0, 0, [])) := rfl
theorem l_Pa_keepBlank_10 : xlk (xm_cd m_Pa_keepBlank) 10 = some (.ireturn, 1, (0, 0, 0, [])) := rfl
theorem l_Pa_keepBlank_11 : xlk (xm_cd m_Pa_keepBlank) 11 = some (.aload_n 0, 1, (0, 0, 0, [])) := rfl
theorem l_Pa_keepBlank_12 : xlk (xm_cd m_Pa_keepBlank) 12 = some (.getfield 11, 3, (169, 5, 0, [])) := rfl
theorem l_Pa_keepBlank_15 : xlk (xm_cd m_Pa_keepBlank) 15 = some (.aload_n 0, 1, (0, 0, 0, [])) := rfl
theorem l_Pa_keepBlank_16 : xlk (xm_cd m_Pa_keepBlank) 16 = some (.getfield 18, 3, (170, 5, 1, [])) := rfl
theorem l_Pa_keepBlank_19 : xlk (xm_cd m_Pa_keepBlank) 19 = some (.aaload, 1, (0, 5, 0, [])) := rfl
theorem l_Pa_keepBlank_20 : xlk (xm_cd m_Pa_keepBlank) 20 = some (.astore_n 1, 1, (0, 0, 0, [])) := rfl
theorem l_Pa_keepBlank_21 : xlk (xm_cd m_Pa_keepBlank) 21 = some (.aload_n 0, 1, (0, 0, 0, [])) := rfl
theorem l_Pa_keepBlank_22 : xlk (xm_cd m_Pa_keepBlank) 22 = some (.getfield 18, 3, (170, 5, 1, [])) := rfl
theorem l_Pa_keepBlank_25 : xlk (xm_cd m_Pa_keepBlank) 25 = some (.istore_n 2, 1, (0, 0, 0, [])) := rfl
theorem l_Pa_keepBlank_26 : xlk (xm_cd m_Pa_keepBlank) 26 = some (.iload_n 2, 1, (0, 0, 0, [])) := rfl
theorem l_Pa_keepBlank_27 : xlk (xm_cd m_Pa_keepBlank) 27 = some (.ifCond .le 38, 3, (0, 65, 0, [])) := rfl
theorem l_Pa_keepBlank_30 : xlk (xm_cd m_Pa_keepBlank) 30 = some (.aload_n 0, 1, (0, 0, 0, [])) := rfl
theorem l_Pa_keepBlank_31 : xlk (xm_cd m_Pa_keepBlank) 31 = some (.getfield 11, 3, (169, 5, 0, [])) := rfl
theorem l_Pa_keepBlank_34 : xlk (xm_cd m_Pa_keepBlank) 34 = some (.iload_n 2, 1, (0, 0, 0, [])) := rfl
theorem l_Pa_keepBlank_35 : xlk (xm_cd m_Pa_keepBlank) 35 = some (.iconst 1, 1, (0, 0, 0, [])) := rfl
theorem l_Pa_keepBlank_36 : xlk (xm_cd m_Pa_keepBlank) 36 = some (.isub, 1, (0, 0, 0, [])) := rfl
theorem l_Pa_keepBlank_37 : xlk (xm_cd m_Pa_keepBlank) 37 = some (.aaload, 1, (0, 5, 0, [])) := rfl
theorem l_Pa_keepBlank_38 : xlk (xm_cd m_Pa_keepBlank) 38 = some (.aload_n 1, 1, (0, 0, 0, [])) := rfl
theorem l_Pa_keepBlank_39 : xlk (xm_cd m_Pa_keepBlank) 39 = some (.invokevirtual 26, 3, (515, 67, 1, [])) := rfl
theorem l_Pa_keepBlank_42 : xlk (xm_cd m_Pa_keepBlank) 42 = some (.ifCond .eq 23, 3, (0, 65, 0, [])) := rfl
theorem l_Pa_keepBlank_45 : xlk (xm_cd m_Pa_keepBlank) 45 = some (.aload_n 0, 1, (0, 0, 0, [])) := rfl
theorem l_Pa_keepBlank_46 : xlk (xm_cd m_Pa_keepBlank) 46 = some (.getfield 11, 3, (169, 5, 0, [])) := rfl
theorem l_Pa_keepBlank_49 : xlk (xm_cd m_Pa_keepBlank) 49 = some (.iload_n 2, 1, (0, 0, 0, [])) := rfl
theorem l_Pa_keepBlank_50 : xlk (xm_cd m_Pa_keepBlank) 50 = some (.aload_n 0, 1, (0, 0, 0, [])) := rfl
theorem l_Pa_keepBlank_51 : xlk (xm_cd m_Pa_keepBlank) 51 = some (.getfield 11, 3, (169, 5, 0, [])) := rfl
theorem l_Pa_keepBlank_54 : xlk (xm_cd m_Pa_keepBlank) 54 = some (.iload_n 2, 1, (0, 0, 0, [])) := rfl
theorem l_Pa_keepBlank_55 : xlk (xm_cd m_Pa_keepBlank) 55 = some (.iconst 1, 1, (0, 0, 0, [])) := rfl
theorem l_Pa_keepBlank_56 : xlk (xm_cd m_Pa_keepBlank) 56 = some (.isub, 1, (0, 0, 0, [])) := rfl
theorem l_Pa_keepBlank_57 : xlk (xm_cd m_Pa_keepBlank) 57 = some (.aaload, 1, (0, 5, 0, [])) := rfl
theorem l_Pa_keepBlank_58 : xlk (xm_cd m_Pa_keepBlank) 58 = some (.aastore, 1, (0, 5, 4, [])) := rfl
theorem l_Pa_keepBlank_59 : xlk (xm_cd m_Pa_keepBlank) 59 = some (.iinc 2 (-1), 3, (0, 0, 0, [])) := rfl
theorem l_Pa_keepBlank_62 : xlk (xm_cd m_Pa_keepBlank) 62 = some (.goto (-36), 3, (0, 26, 0, [])) := rfl
theorem l_Pa_keepBlank_65 : xlk (xm_cd m_Pa_keepBlank) 65 = some (.aload_n 0, 1, (0, 0, 0, [])) := rfl
theorem l_Pa_keepBlank_66 : xlk (xm_cd m_Pa_keepBlank) 66 = some (.getfield 11, 3, (169, 5, 0, [])) := rfl
theorem l_Pa_keepBlank_69 : xlk (xm_cd m_Pa_keepBlank) 69 = some (.iload_n 2, 1, (0, 0, 0, [])) := rfl
theorem l_Pa_keepBlank_70 : xlk (xm_cd m_Pa_keepBlank) 70 = some (.aload_n 1, 1, (0, 0, 0, [])) := rfl
theorem l_Pa_keepBlank_71 : xlk (xm_cd m_Pa_keepBlank) 71 = some (.aastore, 1, (0, 5, 4, [])) := rfl
theorem l_Pa_keepBlank_72 : xlk (xm_cd m_Pa_keepBlank) 72 = some (.aload_n 0, 1, (0, 0, 0, [])) := rfl
theorem l_Pa_keepBlank_73 : xlk (xm_cd m_Pa_keepBlank) 73 = some (.dup, 1, (0, 0, 0, [])) := rfl
theorem l_Pa_keepBlank_74 : xlk (xm_cd m_Pa_keepBlank) 74 = some (.getfield 18, 3, (170, 5, 1, [])) := rfl
theorem l_Pa_keepBlank_77 : xlk (xm_cd m_Pa_keepBlank) 77 = some (.iconst 1, 1, (0, 0, 0, [])) := rfl
theorem l_Pa_keepBlank_78 : xlk (xm_cd m_Pa_keepBlank) 78 = some (.iadd, 1, (0, 0, 0, [])) := rfl
theorem l_Pa_keepBlank_79 : xlk (xm_cd m_Pa_keepBlank) 79 = some (.putfield 18, 3, (170, 5, 1, [(0, 0)])) := rfl
theorem l_Pa_keepBlank_82 : xlk (xm_cd m_Pa_keepBlank) 82 = some (.iconst 1, 1, (0, 0, 0, [])) := rfl
theorem l_Pa_keepBlank_83 : xlk (xm_cd m_Pa_keepBlank) 83 = some (.ireturn, 1, (0, 0, 0, [])) := rfl
def B_Pa_keepBlank_0 (d : Nat) (E : Option Value → xH → Prop) (f : xH) (a0 : Nat) : Prop :=
  xgi f a0 5 1 (fun v1 => xbr (v1 < 24) (xgr f a0 5 0 (fun r2 => xgi f a0 5 1 (fun v3 => xrl f r2 5 v3 (fun r4 => xgi f a0 5 1 (fun v5 => xWp (xT0, xSp xT0 d, none, m_Pa_keepBlank, E) 26 [some (.ref a0), some (.ref r4), some (.int v5)] [] f 0 0))))) (E (some (.int 0)) f))
theorem b_Pa_keepBlank_0 {d : Nat} {E : Option Value → xH → Prop} {f : xH} {a0 : Nat} (h : B_Pa_keepBlank_0 d E f a0) : xWp (xT0, xSp xT0 d, none, m_Pa_keepBlank, E) 0 [some (.ref a0), none, none] [] f 0 0 := by
  unfold B_Pa_keepBlank_0 at h
  refine s_aln l_Pa_keepBlank_0 rfl ?_
  refine s_gi l_Pa_keepBlank_1 h (fun v1 h => ?_)
  refine s_bp 24 l_Pa_keepBlank_4 rfl ?_
  refine s_ifc l_Pa_keepBlank_6 h (fun h => ?_) (fun h => ?_)
  · refine s_aln l_Pa_keepBlank_11 rfl ?_
    refine s_gr l_Pa_keepBlank_12 h (fun r2 h => ?_)
    refine s_aln l_Pa_keepBlank_15 rfl ?_
    refine s_gi l_Pa_keepBlank_16 h (fun v3 h => ?_)
    refine s_aal l_Pa_keepBlank_19 h (fun r4 h => ?_)
    refine s_asn l_Pa_keepBlank_20 (Nat.le_of_ble_eq_true rfl) ?_
    refine s_aln l_Pa_keepBlank_21 rfl ?_
    refine s_gi l_Pa_keepBlank_22 h (fun v5 h => ?_)
    refine s_isn l_Pa_keepBlank_25 (Nat.le_of_ble_eq_true rfl) ?_
    exact h
  · refine s_ic 0 l_Pa_keepBlank_9 rfl ?_
    exact s_zret l_Pa_keepBlank_10 rfl ⟨Nat.zero_le _, Nat.zero_le _⟩ ⟨Or.inl rfl, h⟩
def B_Pa_keepBlank_26 (d : Nat) (E : Option Value → xH → Prop) (f : xH) (a0 : Nat) (a1 : Nat) (x2 : Int32) : Prop :=
  xbr (x2 ≤ 0) (xWp (xT0, xSp xT0 d, none, m_Pa_keepBlank, E) 65 [some (.ref a0), some (.ref a1), some (.int x2)] [] f 0 0) (xgr f a0 5 0 (fun r1 => xrl f r1 5 (x2 - 1) (fun r2 => (∃ fs, f r2 = some (xO 4 fs)) ∧ xSp xT0 d j_St_isBehind [.ref r2, .ref a1] f (fun w3 f4 => xvi w3 (fun v5 => xbr (v5 = 0) (xWp (xT0, xSp xT0 d, none, m_Pa_keepBlank, E) 65 [some (.ref a0), some (.ref a1), some (.int x2)] [] f4 0 0) (xgr f4 a0 5 0 (fun r6 => xgr f4 a0 5 0 (fun r7 => xrl f4 r7 5 (x2 - 1) (fun r8 => xrs f4 r6 5 4 x2 r8 (fun f9 => xWp (xT0, xSp xT0 d, none, m_Pa_keepBlank, E) 26 [some (.ref a0), some (.ref a1), some (.int (x2 + (-1)))] [] f9 0 0))))))))))
theorem b_Pa_keepBlank_26 {d : Nat} {E : Option Value → xH → Prop} {f : xH} {a0 : Nat} {a1 : Nat} {x2 : Int32} (h : B_Pa_keepBlank_26 d E f a0 a1 x2) : xWp (xT0, xSp xT0 d, none, m_Pa_keepBlank, E) 26 [some (.ref a0), some (.ref a1), some (.int x2)] [] f 0 0 := by
  unfold B_Pa_keepBlank_26 at h
  refine s_iln l_Pa_keepBlank_26 rfl ?_
  refine s_if l_Pa_keepBlank_27 h (fun h => ?_) (fun h => ?_)
  · exact h
  · refine s_aln l_Pa_keepBlank_30 rfl ?_
    refine s_gr l_Pa_keepBlank_31 h (fun r1 h => ?_)
    refine s_iln l_Pa_keepBlank_34 rfl ?_
    refine s_ic 1 l_Pa_keepBlank_35 rfl ?_
    refine s_isub l_Pa_keepBlank_36 ?_
    refine s_aal l_Pa_keepBlank_37 h (fun r2 h => ?_)
    refine s_aln l_Pa_keepBlank_38 rfl ?_
    refine s_cvi (As := [.ref a1]) (r := []) l_Pa_keepBlank_39 rfl ⟨rfl, rfl⟩ rfl (Nat.le_of_ble_eq_true rfl) rfl ⟨Nat.zero_le _, Nat.zero_le _⟩ h (fun v5 f4 h => ?_)
    refine s_if l_Pa_keepBlank_42 h (fun h => ?_) (fun h => ?_)
    · exact h
    · refine s_aln l_Pa_keepBlank_45 rfl ?_
      refine s_gr l_Pa_keepBlank_46 h (fun r6 h => ?_)
      refine s_iln l_Pa_keepBlank_49 rfl ?_
      refine s_aln l_Pa_keepBlank_50 rfl ?_
      refine s_gr l_Pa_keepBlank_51 h (fun r7 h => ?_)
      refine s_iln l_Pa_keepBlank_54 rfl ?_
      refine s_ic 1 l_Pa_keepBlank_55 rfl ?_
      refine s_isub l_Pa_keepBlank_56 ?_
      refine s_aal l_Pa_keepBlank_57 h (fun r8 h => ?_)
      refine s_aast l_Pa_keepBlank_58 h (fun f9 h => ?_)
      refine s_inc (-1) l_Pa_keepBlank_59 rfl rfl ?_
      refine s_goto l_Pa_keepBlank_62 ?_
      exact h
def B_Pa_keepBlank_65 (d : Nat) (E : Option Value → xH → Prop) (f : xH) (a0 : Nat) (a1 : Nat) (x2 : Int32) : Prop :=
  xgr f a0 5 0 (fun r1 => xrs f r1 5 4 x2 a1 (fun f2 => xgi f2 a0 5 1 (fun v3 => xpf f2 a0 5 1 (.int (v3 + 1)) (fun f4 => E (some (.int 1)) f4))))
theorem b_Pa_keepBlank_65 {d : Nat} {E : Option Value → xH → Prop} {f : xH} {a0 : Nat} {a1 : Nat} {x2 : Int32} (h : B_Pa_keepBlank_65 d E f a0 a1 x2) : xWp (xT0, xSp xT0 d, none, m_Pa_keepBlank, E) 65 [some (.ref a0), some (.ref a1), some (.int x2)] [] f 0 0 := by
  unfold B_Pa_keepBlank_65 at h
  refine s_aln l_Pa_keepBlank_65 rfl ?_
  refine s_gr l_Pa_keepBlank_66 h (fun r1 h => ?_)
  refine s_iln l_Pa_keepBlank_69 rfl ?_
  refine s_aln l_Pa_keepBlank_70 rfl ?_
  refine s_aast l_Pa_keepBlank_71 h (fun f2 h => ?_)
  refine s_aln l_Pa_keepBlank_72 rfl ?_
  refine s_dup l_Pa_keepBlank_73 rfl ?_
  refine s_gi l_Pa_keepBlank_74 h (fun v3 h => ?_)
  refine s_ic 1 l_Pa_keepBlank_77 rfl ?_
  refine s_iadd l_Pa_keepBlank_78 ?_
  refine s_pf l_Pa_keepBlank_79 ⟨_, rfl⟩ h (fun f4 h => ?_)
  refine s_ic 1 l_Pa_keepBlank_82 rfl ?_
  exact s_zret l_Pa_keepBlank_83 rfl ⟨Nat.zero_le _, Nat.zero_le _⟩ ⟨Or.inr rfl, h⟩
theorem l_Pa_size_0 : xlk (xm_cd m_Pa_size) 0 = some (.aload_n 0, 1, (0, 0, 0, [])) := rfl
theorem l_Pa_size_1 : xlk (xm_cd m_Pa_size) 1 = some (.getfield 18, 3, (170, 5, 1, [])) := rfl
theorem l_Pa_size_4 : xlk (xm_cd m_Pa_size) 4 = some (.ireturn, 1, (0, 0, 0, [])) := rfl
def B_Pa_size_0 (d : Nat) (E : Option Value → xH → Prop) (f : xH) (a0 : Nat) : Prop :=
  xgi f a0 5 1 (fun v1 => E (some (.int v1)) f)
theorem b_Pa_size_0 {d : Nat} {E : Option Value → xH → Prop} {f : xH} {a0 : Nat} (h : B_Pa_size_0 d E f a0) : xWp (xT0, xSp xT0 d, none, m_Pa_size, E) 0 [some (.ref a0)] [] f 0 0 := by
  unfold B_Pa_size_0 at h
  refine s_aln l_Pa_size_0 rfl ?_
  refine s_gi l_Pa_size_1 h (fun v1 h => ?_)
  exact s_iret l_Pa_size_4 rfl ⟨Nat.zero_le _, Nat.zero_le _⟩ h
theorem l_Pa_has_0 : xlk (xm_cd m_Pa_has) 0 = some (.iload_n 1, 1, (0, 0, 0, [])) := rfl
theorem l_Pa_has_1 : xlk (xm_cd m_Pa_has) 1 = some (.ifCond .lt 15, 3, (0, 16, 0, [])) := rfl
theorem l_Pa_has_4 : xlk (xm_cd m_Pa_has) 4 = some (.iload_n 1, 1, (0, 0, 0, [])) := rfl
theorem l_Pa_has_5 : xlk (xm_cd m_Pa_has) 5 = some (.aload_n 0, 1, (0, 0, 0, [])) := rfl
theorem l_Pa_has_6 : xlk (xm_cd m_Pa_has) 6 = some (.getfield 18, 3, (170, 5, 1, [])) := rfl
theorem l_Pa_has_9 : xlk (xm_cd m_Pa_has) 9 = some (.if_icmp .ge 7, 3, (0, 16, 0, [])) := rfl
theorem l_Pa_has_12 : xlk (xm_cd m_Pa_has) 12 = some (.iconst 1, 1, (0, 0, 0, [])) := rfl
theorem l_Pa_has_13 : xlk (xm_cd m_Pa_has) 13 = some (.goto 4, 3, (0, 17, 0, [])) := rfl
theorem l_Pa_has_16 : xlk (xm_cd m_Pa_has) 16 = some (.iconst 0, 1, (0, 0, 0, [])) := rfl
theorem l_Pa_has_17 : xlk (xm_cd m_Pa_has) 17 = some (.ireturn, 1, (0, 0, 0, [])) := rfl
def B_Pa_has_0 (d : Nat) (E : Option Value → xH → Prop) (f : xH) (a0 : Nat) (x1 : Int32) : Prop :=
  xbr (x1 < 0) (E (some (.int 0)) f) (xgi f a0 5 1 (fun v1 => xbr (v1 ≤ x1) (E (some (.int 0)) f) (E (some (.int 1)) f)))
theorem b_Pa_has_0 {d : Nat} {E : Option Value → xH → Prop} {f : xH} {a0 : Nat} {x1 : Int32} (h : B_Pa_has_0 d E f a0 x1) : xWp (xT0, xSp xT0 d, none, m_Pa_has, E) 0 [some (.ref a0), some (.int x1)] [] f 0 0 := by
  unfold B_Pa_has_0 at h
  refine s_iln l_Pa_has_0 rfl ?_
  refine s_if l_Pa_has_1 h (fun h => ?_) (fun h => ?_)
  · refine s_ic 0 l_Pa_has_16 rfl ?_
    exact s_zret l_Pa_has_17 rfl ⟨Nat.zero_le _, Nat.zero_le _⟩ ⟨Or.inl rfl, h⟩
  · refine s_iln l_Pa_has_4 rfl ?_
    refine s_aln l_Pa_has_5 rfl ?_
    refine s_gi l_Pa_has_6 h (fun v1 h => ?_)
    refine s_ifc l_Pa_has_9 h (fun h => ?_) (fun h => ?_)
    · refine s_ic 0 l_Pa_has_16 rfl ?_
      exact s_zret l_Pa_has_17 rfl ⟨Nat.zero_le _, Nat.zero_le _⟩ ⟨Or.inl rfl, h⟩
    · refine s_ic 1 l_Pa_has_12 rfl ?_
      refine s_goto l_Pa_has_13 ?_
      exact s_zret l_Pa_has_17 rfl ⟨Nat.zero_le _, Nat.zero_le _⟩ ⟨Or.inr rfl, h⟩
theorem l_Pa_at_0 : xlk (xm_cd m_Pa_at) 0 = some (.aload_n 0, 1, (0, 0, 0, [])) := rfl
theorem l_Pa_at_1 : xlk (xm_cd m_Pa_at) 1 = some (.iload_n 1, 1, (0, 0, 0, [])) := rfl
theorem l_Pa_at_2 : xlk (xm_cd m_Pa_at) 2 = some (.invokevirtual 22, 3, (564, 79, 1, [])) := rfl
theorem l_Pa_at_5 : xlk (xm_cd m_Pa_at) 5 = some (.ifCond .eq 12, 3, (0, 17, 0, [])) := rfl
theorem l_Pa_at_8 : xlk (xm_cd m_Pa_at) 8 = some (.aload_n 0, 1, (0, 0, 0, [])) := rfl
theorem l_Pa_at_9 : xlk (xm_cd m_Pa_at) 9 = some (.getfield 11, 3, (169, 5, 0, [])) := rfl
theorem l_Pa_at_12 : xlk (xm_cd m_Pa_at) 12 = some (.iload_n 1, 1, (0, 0, 0, [])) := rfl
theorem l_Pa_at_13 : xlk (xm_cd m_Pa_at) 13 = some (.aaload, 1, (0, 5, 0, [])) := rfl
theorem l_Pa_at_14 : xlk (xm_cd m_Pa_at) 14 = some (.goto 12, 3, (0, 26, 0, [])) := rfl
theorem l_Pa_at_17 : xlk (xm_cd m_Pa_at) 17 = some (.aload_n 0, 1, (0, 0, 0, [])) := rfl
theorem l_Pa_at_18 : xlk (xm_cd m_Pa_at) 18 = some (.getfield 11, 3, (169, 5, 0, [])) := rfl
theorem l_Pa_at_21 : xlk (xm_cd m_Pa_at) 21 = some (.aload_n 0, 1, (0, 0, 0, [])) := rfl
theorem l_Pa_at_22 : xlk (xm_cd m_Pa_at) 22 = some (.getfield 18, 3, (170, 5, 1, [])) := rfl
theorem l_Pa_at_25 : xlk (xm_cd m_Pa_at) 25 = some (.aaload, 1, (0, 5, 0, [])) := rfl
theorem l_Pa_at_26 : xlk (xm_cd m_Pa_at) 26 = some (.areturn, 1, (0, 0, 0, [])) := rfl
def B_Pa_at_0 (d : Nat) (E : Option Value → xH → Prop) (f : xH) (a0 : Nat) (x1 : Int32) : Prop :=
  (∃ fs, f a0 = some (xO 5 fs)) ∧ xSp xT0 d j_Pa_has [.ref a0, .int x1] f (fun w1 f2 => xvi w1 (fun v3 => xbr (v3 = 0) (xgr f2 a0 5 0 (fun r4 => xgi f2 a0 5 1 (fun v5 => xrl f2 r4 5 v5 (fun r6 => E (some (.ref r6)) f2)))) (xgr f2 a0 5 0 (fun r7 => xrl f2 r7 5 x1 (fun r8 => E (some (.ref r8)) f2)))))
theorem b_Pa_at_0 {d : Nat} {E : Option Value → xH → Prop} {f : xH} {a0 : Nat} {x1 : Int32} (h : B_Pa_at_0 d E f a0 x1) : xWp (xT0, xSp xT0 d, none, m_Pa_at, E) 0 [some (.ref a0), some (.int x1)] [] f 0 0 := by
  unfold B_Pa_at_0 at h
  refine s_aln l_Pa_at_0 rfl ?_
  refine s_iln l_Pa_at_1 rfl ?_
  refine s_cvi (As := [.int x1]) (r := []) l_Pa_at_2 rfl ⟨rfl, rfl⟩ rfl (Nat.le_of_ble_eq_true rfl) rfl ⟨Nat.zero_le _, Nat.zero_le _⟩ h (fun v3 f2 h => ?_)
  refine s_if l_Pa_at_5 h (fun h => ?_) (fun h => ?_)
  · refine s_aln l_Pa_at_17 rfl ?_
    refine s_gr l_Pa_at_18 h (fun r4 h => ?_)
    refine s_aln l_Pa_at_21 rfl ?_
    refine s_gi l_Pa_at_22 h (fun v5 h => ?_)
    refine s_aal l_Pa_at_25 h (fun r6 h => ?_)
    exact s_aret l_Pa_at_26 ⟨Nat.zero_le _, Nat.zero_le _⟩ h
  · refine s_aln l_Pa_at_8 rfl ?_
    refine s_gr l_Pa_at_9 h (fun r7 h => ?_)
    refine s_iln l_Pa_at_12 rfl ?_
    refine s_aal l_Pa_at_13 h (fun r8 h => ?_)
    refine s_goto l_Pa_at_14 ?_
    exact s_aret l_Pa_at_26 ⟨Nat.zero_le _, Nat.zero_le _⟩ h
theorem l_Pa_inverseOf_0 : xlk (xm_cd m_Pa_inverseOf) 0 = some (.aload_n 0, 1, (0, 0, 0, [])) := rfl
theorem l_Pa_inverseOf_1 : xlk (xm_cd m_Pa_inverseOf) 1 = some (.invokevirtual 37, 3, (656, 49, 0, [])) := rfl
theorem l_Pa_inverseOf_4 : xlk (xm_cd m_Pa_inverseOf) 4 = some (.iconst 0, 1, (0, 0, 0, [])) := rfl
theorem l_Pa_inverseOf_5 : xlk (xm_cd m_Pa_inverseOf) 5 = some (.istore_n 2, 1, (0, 0, 0, [])) := rfl
theorem l_Pa_inverseOf_6 : xlk (xm_cd m_Pa_inverseOf) 6 = some (.iload_n 2, 1, (0, 0, 0, [])) := rfl
theorem l_Pa_inverseOf_7 : xlk (xm_cd m_Pa_inverseOf) 7 = some (.aload_n 1, 1, (0, 0, 0, [])) := rfl
theorem l_Pa_inverseOf_8 : xlk (xm_cd m_Pa_inverseOf) 8 = some (.getfield 18, 3, (170, 5, 1, [])) := rfl
theorem l_Pa_inverseOf_11 : xlk (xm_cd m_Pa_inverseOf) 11 = some (.if_icmp .ge 27, 3, (0, 38, 0, [])) := rfl
theorem l_Pa_inverseOf_14 : xlk (xm_cd m_Pa_inverseOf) 14 = some (.aload_n 0, 1, (0, 0, 0, [])) := rfl
theorem l_Pa_inverseOf_15 : xlk (xm_cd m_Pa_inverseOf) 15 = some (.invokevirtual 40, 3, (657, 51, 0, [])) := rfl
theorem l_Pa_inverseOf_18 : xlk (xm_cd m_Pa_inverseOf) 18 = some (.aload_n 1, 1, (0, 0, 0, [])) := rfl
theorem l_Pa_inverseOf_19 : xlk (xm_cd m_Pa_inverseOf) 19 = some (.getfield 11, 3, (169, 5, 0, [])) := rfl
theorem l_Pa_inverseOf_22 : xlk (xm_cd m_Pa_inverseOf) 22 = some (.iload_n 2, 1, (0, 0, 0, [])) := rfl
theorem l_Pa_inverseOf_23 : xlk (xm_cd m_Pa_inverseOf) 23 = some (.aaload, 1, (0, 5, 0, [])) := rfl
theorem l_Pa_inverseOf_24 : xlk (xm_cd m_Pa_inverseOf) 24 = some (.invokevirtual 44, 3, (658, 102, 1, [])) := rfl
theorem l_Pa_inverseOf_27 : xlk (xm_cd m_Pa_inverseOf) 27 = some (.aload_n 0, 1, (0, 0, 0, [])) := rfl
theorem l_Pa_inverseOf_28 : xlk (xm_cd m_Pa_inverseOf) 28 = some (.invokevirtual 48, 3, (666, 66, 0, [])) := rfl
theorem l_Pa_inverseOf_31 : xlk (xm_cd m_Pa_inverseOf) 31 = some (.pop, 1, (0, 0, 0, [])) := rfl
theorem l_Pa_inverseOf_32 : xlk (xm_cd m_Pa_inverseOf) 32 = some (.iinc 2 1, 3, (0, 0, 0, [])) := rfl
theorem l_Pa_inverseOf_35 : xlk (xm_cd m_Pa_inverseOf) 35 = some (.goto (-29), 3, (0, 6, 0, [])) := rfl
theorem l_Pa_inverseOf_38 : xlk (xm_cd m_Pa_inverseOf) 38 = some (.return_, 1, (0, 0, 0, [])) := rfl
def B_Pa_inverseOf_0 (d : Nat) (E : Option Value → xH → Prop) (f : xH) (a0 : Nat) (a1 : Nat) : Prop :=
  (∃ fs, f a0 = some (xO 5 fs)) ∧ xSp xT0 d j_Pa_empty [.ref a0] f (fun w1 f2 => xvv w1 (xWp (xT0, xSp xT0 d, none, m_Pa_inverseOf, E) 6 [some (.ref a0), some (.ref a1), some (.int 0)] [] f2 0 0))
theorem b_Pa_inverseOf_0 {d : Nat} {E : Option Value → xH → Prop} {f : xH} {a0 : Nat} {a1 : Nat} (h : B_Pa_inverseOf_0 d E f a0 a1) : xWp (xT0, xSp xT0 d, none, m_Pa_inverseOf, E) 0 [some (.ref a0), some (.ref a1), none] [] f 0 0 := by
  unfold B_Pa_inverseOf_0 at h
  refine s_aln l_Pa_inverseOf_0 rfl ?_
  refine s_cvv (As := []) (r := []) l_Pa_inverseOf_1 rfl ⟨rfl, rfl⟩ rfl (Nat.le_of_ble_eq_true rfl) rfl ⟨Nat.zero_le _, Nat.zero_le _⟩ h (fun f2 h => ?_)
  refine s_ic 0 l_Pa_inverseOf_4 rfl ?_
  refine s_isn l_Pa_inverseOf_5 (Nat.le_of_ble_eq_true rfl) ?_
  exact h
def B_Pa_inverseOf_6 (d : Nat) (E : Option Value → xH → Prop) (f : xH) (a0 : Nat) (a1 : Nat) (x2 : Int32) : Prop :=
  xgi f a1 5 1 (fun v1 => xbr (v1 ≤ x2) (E none f) ((∃ fs, f a0 = some (xO 5 fs)) ∧ xSp xT0 d j_Pa_blank [.ref a0] f (fun w2 f3 => xvr w2 (fun r4 => xgr f3 a1 5 0 (fun r5 => xrl f3 r5 5 x2 (fun r6 => (∃ fs, f3 r4 = some (xO 4 fs)) ∧ xSp xT0 d j_St_inverseOf [.ref r4, .ref r6] f3 (fun w7 f8 => xvv w7 ((∃ fs, f8 a0 = some (xO 5 fs)) ∧ xSp xT0 d j_Pa_keepBlank [.ref a0] f8 (fun w9 f10 => xvi w9 (fun v11 => xWp (xT0, xSp xT0 d, none, m_Pa_inverseOf, E) 6 [some (.ref a0), some (.ref a1), some (.int (x2 + 1))] [] f10 0 0))))))))))
theorem b_Pa_inverseOf_6 {d : Nat} {E : Option Value → xH → Prop} {f : xH} {a0 : Nat} {a1 : Nat} {x2 : Int32} (h : B_Pa_inverseOf_6 d E f a0 a1 x2) : xWp (xT0, xSp xT0 d, none, m_Pa_inverseOf, E) 6 [some (.ref a0), some (.ref a1), some (.int x2)] [] f 0 0 := by
  unfold B_Pa_inverseOf_6 at h
  refine s_iln l_Pa_inverseOf_6 rfl ?_
  refine s_aln l_Pa_inverseOf_7 rfl ?_
  refine s_gi l_Pa_inverseOf_8 h (fun v1 h => ?_)
  refine s_ifc l_Pa_inverseOf_11 h (fun h => ?_) (fun h => ?_)
  · exact s_ret l_Pa_inverseOf_38 ⟨Nat.zero_le _, Nat.zero_le _⟩ h
  · refine s_aln l_Pa_inverseOf_14 rfl ?_
    refine s_cvr (As := []) (r := []) l_Pa_inverseOf_15 rfl ⟨rfl, rfl⟩ rfl (Nat.le_of_ble_eq_true rfl) rfl ⟨Nat.zero_le _, Nat.zero_le _⟩ h (fun r4 f3 h => ?_)
    refine s_aln l_Pa_inverseOf_18 rfl ?_
    refine s_gr l_Pa_inverseOf_19 h (fun r5 h => ?_)
    refine s_iln l_Pa_inverseOf_22 rfl ?_
    refine s_aal l_Pa_inverseOf_23 h (fun r6 h => ?_)
    refine s_cvv (As := [.ref r6]) (r := []) l_Pa_inverseOf_24 rfl ⟨rfl, rfl⟩ rfl (Nat.le_of_ble_eq_true rfl) rfl ⟨Nat.zero_le _, Nat.zero_le _⟩ h (fun f8 h => ?_)
    refine s_aln l_Pa_inverseOf_27 rfl ?_
    refine s_cvi (As := []) (r := []) l_Pa_inverseOf_28 rfl ⟨rfl, rfl⟩ rfl (Nat.le_of_ble_eq_true rfl) rfl ⟨Nat.zero_le _, Nat.zero_le _⟩ h (fun v11 f10 h => ?_)
    refine s_pop l_Pa_inverseOf_31 rfl ?_
    refine s_inc 1 l_Pa_inverseOf_32 rfl rfl ?_
    refine s_goto l_Pa_inverseOf_35 ?_
    exact h
theorem l_Pa_findTarget_0 : xlk (xm_cd m_Pa_findTarget) 0 = some (.iconst 0, 1, (0, 0, 0, [])) := rfl
theorem l_Pa_findTarget_1 : xlk (xm_cd m_Pa_findTarget) 1 = some (.istore_n 2, 1, (0, 0, 0, [])) := rfl
theorem l_Pa_findTarget_2 : xlk (xm_cd m_Pa_findTarget) 2 = some (.iload_n 2, 1, (0, 0, 0, [])) := rfl
theorem l_Pa_findTarget_3 : xlk (xm_cd m_Pa_findTarget) 3 = some (.aload_n 0, 1, (0, 0, 0, [])) := rfl
theorem l_Pa_findTarget_4 : xlk (xm_cd m_Pa_findTarget) 4 = some (.getfield 18, 3, (170, 5, 1, [])) := rfl
theorem l_Pa_findTarget_7 : xlk (xm_cd m_Pa_findTarget) 7 = some (.if_icmp .ge 24, 3, (0, 31, 0, [])) := rfl
theorem l_Pa_findTarget_10 : xlk (xm_cd m_Pa_findTarget) 10 = some (.aload_n 0, 1, (0, 0, 0, [])) := rfl
theorem l_Pa_findTarget_11 : xlk (xm_cd m_Pa_findTarget) 11 = some (.getfield 11, 3, (169, 5, 0, [])) := rfl
theorem l_Pa_findTarget_14 : xlk (xm_cd m_Pa_findTarget) 14 = some (.iload_n 2, 1, (0, 0, 0, [])) := rfl
theorem l_Pa_findTarget_15 : xlk (xm_cd m_Pa_findTarget) 15 = some (.aaload, 1, (0, 5, 0, [])) := rfl
theorem l_Pa_findTarget_16 : xlk (xm_cd m_Pa_findTarget) 16 = some (.aload_n 1, 1, (0, 0, 0, [])) := rfl
theorem l_Pa_findTarget_17 : xlk (xm_cd m_Pa_findTarget) 17 = some (.invokevirtual 34, 3, (684, 108, 1, [])) := rfl
theorem l_Pa_findTarget_20 : xlk (xm_cd m_Pa_findTarget) 20 = some (.ifCond .eq 5, 3, (0, 25, 0, [])) := rfl
theorem l_Pa_findTarget_23 : xlk (xm_cd m_Pa_findTarget) 23 = some (.iload_n 2, 1, (0, 0, 0, [])) := rfl
theorem l_Pa_findTarget_24 : xlk (xm_cd m_Pa_findTarget) 24 = some (.ireturn, 1, (0, 0, 0, [])) := rfl
theorem l_Pa_findTarget_25 : xlk (xm_cd m_Pa_findTarget) 25 = some (.iinc 2 1, 3, (0, 0, 0, [])) := rfl
theorem l_Pa_findTarget_28 : xlk (xm_cd m_Pa_findTarget) 28 = some (.goto (-26), 3, (0, 2, 0, [])) := rfl
theorem l_Pa_findTarget_31 : xlk (xm_cd m_Pa_findTarget) 31 = some (.iconst (-1), 1, (0, 0, 0, [])) := rfl
theorem l_Pa_findTarget_32 : xlk (xm_cd m_Pa_findTarget) 32 = some (.ireturn, 1, (0, 0, 0, [])) := rfl
def B_Pa_findTarget_0 (d : Nat) (E : Option Value → xH → Prop) (f : xH) (a0 : Nat) (a1 : Nat) : Prop :=
  xWp (xT0, xSp xT0 d, none, m_Pa_findTarget, E) 2 [some (.ref a0), some (.ref a1), some (.int 0)] [] f 0 0
theorem b_Pa_findTarget_0 {d : Nat} {E : Option Value → xH → Prop} {f : xH} {a0 : Nat} {a1 : Nat} (h : B_Pa_findTarget_0 d E f a0 a1) : xWp (xT0, xSp xT0 d, none, m_Pa_findTarget, E) 0 [some (.ref a0), some (.ref a1), none] [] f 0 0 := by
  unfold B_Pa_findTarget_0 at h
  refine s_ic 0 l_Pa_findTarget_0 rfl ?_
  refine s_isn l_Pa_findTarget_1 (Nat.le_of_ble_eq_true rfl) ?_
  exact h
def B_Pa_findTarget_2 (d : Nat) (E : Option Value → xH → Prop) (f : xH) (a0 : Nat) (a1 : Nat) (x2 : Int32) : Prop :=
  xgi f a0 5 1 (fun v1 => xbr (v1 ≤ x2) (E (some (.int (-1))) f) (xgr f a0 5 0 (fun r2 => xrl f r2 5 x2 (fun r3 => (∃ fs, f r3 = some (xO 4 fs)) ∧ xSp xT0 d j_St_bringsTo [.ref r3, .ref a1] f (fun w4 f5 => xvi w4 (fun v6 => xbr (v6 = 0) (xWp (xT0, xSp xT0 d, none, m_Pa_findTarget, E) 2 [some (.ref a0), some (.ref a1), some (.int (x2 + 1))] [] f5 0 0) (E (some (.int x2)) f5)))))))
theorem b_Pa_findTarget_2 {d : Nat} {E : Option Value → xH → Prop} {f : xH} {a0 : Nat} {a1 : Nat} {x2 : Int32} (h : B_Pa_findTarget_2 d E f a0 a1 x2) : xWp (xT0, xSp xT0 d, none, m_Pa_findTarget, E) 2 [some (.ref a0), some (.ref a1), some (.int x2)] [] f 0 0 := by
  unfold B_Pa_findTarget_2 at h
  refine s_iln l_Pa_findTarget_2 rfl ?_
  refine s_aln l_Pa_findTarget_3 rfl ?_
  refine s_gi l_Pa_findTarget_4 h (fun v1 h => ?_)
  refine s_ifc l_Pa_findTarget_7 h (fun h => ?_) (fun h => ?_)
  · refine s_ic (-1) l_Pa_findTarget_31 rfl ?_
    exact s_iret l_Pa_findTarget_32 rfl ⟨Nat.zero_le _, Nat.zero_le _⟩ h
  · refine s_aln l_Pa_findTarget_10 rfl ?_
    refine s_gr l_Pa_findTarget_11 h (fun r2 h => ?_)
    refine s_iln l_Pa_findTarget_14 rfl ?_
    refine s_aal l_Pa_findTarget_15 h (fun r3 h => ?_)
    refine s_aln l_Pa_findTarget_16 rfl ?_
    refine s_cvi (As := [.ref a1]) (r := []) l_Pa_findTarget_17 rfl ⟨rfl, rfl⟩ rfl (Nat.le_of_ble_eq_true rfl) rfl ⟨Nat.zero_le _, Nat.zero_le _⟩ h (fun v6 f5 h => ?_)
    refine s_if l_Pa_findTarget_20 h (fun h => ?_) (fun h => ?_)
    · refine s_inc 1 l_Pa_findTarget_25 rfl rfl ?_
      refine s_goto l_Pa_findTarget_28 ?_
      exact h
    · refine s_iln l_Pa_findTarget_23 rfl ?_
      exact s_iret l_Pa_findTarget_24 rfl ⟨Nat.zero_le _, Nat.zero_le _⟩ h
theorem l_Pa_findSource_0 : xlk (xm_cd m_Pa_findSource) 0 = some (.iconst 0, 1, (0, 0, 0, [])) := rfl
theorem l_Pa_findSource_1 : xlk (xm_cd m_Pa_findSource) 1 = some (.istore_n 2, 1, (0, 0, 0, [])) := rfl
theorem l_Pa_findSource_2 : xlk (xm_cd m_Pa_findSource) 2 = some (.iload_n 2, 1, (0, 0, 0, [])) := rfl
theorem l_Pa_findSource_3 : xlk (xm_cd m_Pa_findSource) 3 = some (.aload_n 0, 1, (0, 0, 0, [])) := rfl
theorem l_Pa_findSource_4 : xlk (xm_cd m_Pa_findSource) 4 = some (.getfield 18, 3, (170, 5, 1, [])) := rfl
theorem l_Pa_findSource_7 : xlk (xm_cd m_Pa_findSource) 7 = some (.if_icmp .ge 24, 3, (0, 31, 0, [])) := rfl
theorem l_Pa_findSource_10 : xlk (xm_cd m_Pa_findSource) 10 = some (.aload_n 0, 1, (0, 0, 0, [])) := rfl
theorem l_Pa_findSource_11 : xlk (xm_cd m_Pa_findSource) 11 = some (.getfield 11, 3, (169, 5, 0, [])) := rfl
theorem l_Pa_findSource_14 : xlk (xm_cd m_Pa_findSource) 14 = some (.iload_n 2, 1, (0, 0, 0, [])) := rfl
theorem l_Pa_findSource_15 : xlk (xm_cd m_Pa_findSource) 15 = some (.aaload, 1, (0, 5, 0, [])) := rfl
theorem l_Pa_findSource_16 : xlk (xm_cd m_Pa_findSource) 16 = some (.aload_n 1, 1, (0, 0, 0, [])) := rfl
theorem l_Pa_findSource_17 : xlk (xm_cd m_Pa_findSource) 17 = some (.invokevirtual 30, 3, (693, 110, 1, [])) := rfl
theorem l_Pa_findSource_20 : xlk (xm_cd m_Pa_findSource) 20 = some (.ifCond .eq 5, 3, (0, 25, 0, [])) := rfl
theorem l_Pa_findSource_23 : xlk (xm_cd m_Pa_findSource) 23 = some (.iload_n 2, 1, (0, 0, 0, [])) := rfl
theorem l_Pa_findSource_24 : xlk (xm_cd m_Pa_findSource) 24 = some (.ireturn, 1, (0, 0, 0, [])) := rfl
theorem l_Pa_findSource_25 : xlk (xm_cd m_Pa_findSource) 25 = some (.iinc 2 1, 3, (0, 0, 0, [])) := rfl
theorem l_Pa_findSource_28 : xlk (xm_cd m_Pa_findSource) 28 = some (.goto (-26), 3, (0, 2, 0, [])) := rfl
theorem l_Pa_findSource_31 : xlk (xm_cd m_Pa_findSource) 31 = some (.iconst (-1), 1, (0, 0, 0, [])) := rfl
theorem l_Pa_findSource_32 : xlk (xm_cd m_Pa_findSource) 32 = some (.ireturn, 1, (0, 0, 0, [])) := rfl
def B_Pa_findSource_0 (d : Nat) (E : Option Value → xH → Prop) (f : xH) (a0 : Nat) (a1 : Nat) : Prop :=
  xWp (xT0, xSp xT0 d, none, m_Pa_findSource, E) 2 [some (.ref a0), some (.ref a1), some (.int 0)] [] f 0 0
theorem b_Pa_findSource_0 {d : Nat} {E : Option Value → xH → Prop} {f : xH} {a0 : Nat} {a1 : Nat} (h : B_Pa_findSource_0 d E f a0 a1) : xWp (xT0, xSp xT0 d, none, m_Pa_findSource, E) 0 [some (.ref a0), some (.ref a1), none] [] f 0 0 := by
  unfold B_Pa_findSource_0 at h
  refine s_ic 0 l_Pa_findSource_0 rfl ?_
  refine s_isn l_Pa_findSource_1 (Nat.le_of_ble_eq_true rfl) ?_
  exact h
def B_Pa_findSource_2 (d : Nat) (E : Option Value → xH → Prop) (f : xH) (a0 : Nat) (a1 : Nat) (x2 : Int32) : Prop :=
  xgi f a0 5 1 (fun v1 => xbr (v1 ≤ x2) (E (some (.int (-1))) f) (xgr f a0 5 0 (fun r2 => xrl f r2 5 x2 (fun r3 => (∃ fs, f r3 = some (xO 4 fs)) ∧ xSp xT0 d j_St_takesFrom [.ref r3, .ref a1] f (fun w4 f5 => xvi w4 (fun v6 => xbr (v6 = 0) (xWp (xT0, xSp xT0 d, none, m_Pa_findSource, E) 2 [some (.ref a0), some (.ref a1), some (.int (x2 + 1))] [] f5 0 0) (E (some (.int x2)) f5)))))))
theorem b_Pa_findSource_2 {d : Nat} {E : Option Value → xH → Prop} {f : xH} {a0 : Nat} {a1 : Nat} {x2 : Int32} (h : B_Pa_findSource_2 d E f a0 a1 x2) : xWp (xT0, xSp xT0 d, none, m_Pa_findSource, E) 2 [some (.ref a0), some (.ref a1), some (.int x2)] [] f 0 0 := by
  unfold B_Pa_findSource_2 at h
  refine s_iln l_Pa_findSource_2 rfl ?_
  refine s_aln l_Pa_findSource_3 rfl ?_
  refine s_gi l_Pa_findSource_4 h (fun v1 h => ?_)
  refine s_ifc l_Pa_findSource_7 h (fun h => ?_) (fun h => ?_)
  · refine s_ic (-1) l_Pa_findSource_31 rfl ?_
    exact s_iret l_Pa_findSource_32 rfl ⟨Nat.zero_le _, Nat.zero_le _⟩ h
  · refine s_aln l_Pa_findSource_10 rfl ?_
    refine s_gr l_Pa_findSource_11 h (fun r2 h => ?_)
    refine s_iln l_Pa_findSource_14 rfl ?_
    refine s_aal l_Pa_findSource_15 h (fun r3 h => ?_)
    refine s_aln l_Pa_findSource_16 rfl ?_
    refine s_cvi (As := [.ref a1]) (r := []) l_Pa_findSource_17 rfl ⟨rfl, rfl⟩ rfl (Nat.le_of_ble_eq_true rfl) rfl ⟨Nat.zero_le _, Nat.zero_le _⟩ h (fun v6 f5 h => ?_)
    refine s_if l_Pa_findSource_20 h (fun h => ?_) (fun h => ?_)
    · refine s_inc 1 l_Pa_findSource_25 rfl rfl ?_
      refine s_goto l_Pa_findSource_28 ?_
      exact h
    · refine s_iln l_Pa_findSource_23 rfl ?_
      exact s_iret l_Pa_findSource_24 rfl ⟨Nat.zero_le _, Nat.zero_le _⟩ h
