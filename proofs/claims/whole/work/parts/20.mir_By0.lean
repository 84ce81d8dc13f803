/-! blocks of By, 0 -/
theorem l_By_size_0 : xlk (xm_cd m_By_size) 0 = some (.aload_n 0, 1, (0, 0, 0, [])) := rfl
theorem l_By_size_1 : xlk (xm_cd m_By_size) 1 = some (.getfield 21, 3, (107, 1, 1, [])) := rfl
theorem l_By_size_4 : xlk (xm_cd m_By_size) 4 = some (.ireturn, 1, (0, 0, 0, [])) := rfl
def B_By_size_0 (d : Nat) (E : Option Value → xH → Prop) (f : xH) (a0 : Nat) : Prop :=
  xgi f a0 1 1 (fun v1 => E (some (.int v1)) f)
theorem b_By_size_0 {d : Nat} {E : Option Value → xH → Prop} {f : xH} {a0 : Nat} (h : B_By_size_0 d E f a0) : xWp (xT0, xSp xT0 d, none, m_By_size, E) 0 [some (.ref a0)] [] f 0 0 := by
  unfold B_By_size_0 at h
  refine s_aln l_By_size_0 rfl ?_
  refine s_gi l_By_size_1 h (fun v1 h => ?_)
  exact s_iret l_By_size_4 rfl ⟨Nat.zero_le _, Nat.zero_le _⟩ h
theorem l_By_addNumber_0 : xlk (xm_cd m_By_addNumber) 0 = some (.bipush 24, 2, (0, 0, 0, [])) := rfl
theorem l_By_addNumber_2 : xlk (xm_cd m_By_addNumber) 2 = some (.istore_n 2, 1, (0, 0, 0, [])) := rfl
theorem l_By_addNumber_3 : xlk (xm_cd m_By_addNumber) 3 = some (.iload_n 2, 1, (0, 0, 0, [])) := rfl
theorem l_By_addNumber_4 : xlk (xm_cd m_By_addNumber) 4 = some (.ifCond .lt 16, 3, (0, 20, 0, [])) := rfl
theorem l_By_addNumber_7 : xlk (xm_cd m_By_addNumber) 7 = some (.aload_n 0, 1, (0, 0, 0, [])) := rfl
theorem l_By_addNumber_8 : xlk (xm_cd m_By_addNumber) 8 = some (.iload_n 1, 1, (0, 0, 0, [])) := rfl
theorem l_By_addNumber_9 : xlk (xm_cd m_By_addNumber) 9 = some (.iload_n 2, 1, (0, 0, 0, [])) := rfl
theorem l_By_addNumber_10 : xlk (xm_cd m_By_addNumber) 10 = some (.iushr, 1, (0, 0, 0, [])) := rfl
theorem l_By_addNumber_11 : xlk (xm_cd m_By_addNumber) 11 = some (.invokevirtual 25, 3, (291, 14, 1, [])) := rfl
theorem l_By_addNumber_14 : xlk (xm_cd m_By_addNumber) 14 = some (.iinc 2 (-8), 3, (0, 0, 0, [])) := rfl
theorem l_By_addNumber_17 : xlk (xm_cd m_By_addNumber) 17 = some (.goto (-14), 3, (0, 3, 0, [])) := rfl
theorem l_By_addNumber_20 : xlk (xm_cd m_By_addNumber) 20 = some (.return_, 1, (0, 0, 0, [])) := rfl
def B_By_addNumber_0 (d : Nat) (E : Option Value → xH → Prop) (f : xH) (a0 : Nat) (x1 : Int32) : Prop :=
  xWp (xT0, xSp xT0 d, none, m_By_addNumber, E) 3 [some (.ref a0), some (.int x1), some (.int 24)] [] f 0 0
theorem b_By_addNumber_0 {d : Nat} {E : Option Value → xH → Prop} {f : xH} {a0 : Nat} {x1 : Int32} (h : B_By_addNumber_0 d E f a0 x1) : xWp (xT0, xSp xT0 d, none, m_By_addNumber, E) 0 [some (.ref a0), some (.int x1), none] [] f 0 0 := by
  unfold B_By_addNumber_0 at h
  refine s_bp 24 l_By_addNumber_0 rfl ?_
  refine s_isn l_By_addNumber_2 (Nat.le_of_ble_eq_true rfl) ?_
  exact h
def B_By_addNumber_3 (d : Nat) (E : Option Value → xH → Prop) (f : xH) (a0 : Nat) (x1 : Int32) (x2 : Int32) : Prop :=
  xbr (x2 < 0) (E none f) ((∃ fs, f a0 = some (xO 1 fs)) ∧ xSp xT0 d j_By_add [.ref a0, .int ((x1.toUInt32 >>> (x2.toUInt32 &&& Int32.toUInt32 31)).toInt32)] f (fun w1 f2 => xvv w1 (xWp (xT0, xSp xT0 d, none, m_By_addNumber, E) 3 [some (.ref a0), some (.int x1), some (.int (x2 + (-8)))] [] f2 0 0)))
theorem b_By_addNumber_3 {d : Nat} {E : Option Value → xH → Prop} {f : xH} {a0 : Nat} {x1 : Int32} {x2 : Int32} (h : B_By_addNumber_3 d E f a0 x1 x2) : xWp (xT0, xSp xT0 d, none, m_By_addNumber, E) 3 [some (.ref a0), some (.int x1), some (.int x2)] [] f 0 0 := by
  unfold B_By_addNumber_3 at h
  refine s_iln l_By_addNumber_3 rfl ?_
  refine s_if l_By_addNumber_4 h (fun h => ?_) (fun h => ?_)
  · exact s_ret l_By_addNumber_20 ⟨Nat.zero_le _, Nat.zero_le _⟩ h
  · refine s_aln l_By_addNumber_7 rfl ?_
    refine s_iln l_By_addNumber_8 rfl ?_
    refine s_iln l_By_addNumber_9 rfl ?_
    refine s_iushr l_By_addNumber_10 ?_
    refine s_cvv (As := [.int ((x1.toUInt32 >>> (x2.toUInt32 &&& Int32.toUInt32 31)).toInt32)]) (r := []) l_By_addNumber_11 rfl ⟨rfl, rfl⟩ rfl (Nat.le_of_ble_eq_true rfl) rfl ⟨Nat.zero_le _, Nat.zero_le _⟩ h (fun f2 h => ?_)
    refine s_inc (-8) l_By_addNumber_14 rfl rfl ?_
    refine s_goto l_By_addNumber_17 ?_
    exact h
theorem l_By_add_0 : xlk (xm_cd m_By_add) 0 = some (.aload_n 0, 1, (0, 0, 0, [])) := rfl
theorem l_By_add_1 : xlk (xm_cd m_By_add) 1 = some (.getfield 21, 3, (107, 1, 1, [])) := rfl
theorem l_By_add_4 : xlk (xm_cd m_By_add) 4 = some (.aload_n 0, 1, (0, 0, 0, [])) := rfl
theorem l_By_add_5 : xlk (xm_cd m_By_add) 5 = some (.getfield 15, 3, (106, 1, 0, [])) := rfl
theorem l_By_add_8 : xlk (xm_cd m_By_add) 8 = some (.arraylength, 1, (0, 0, 0, [])) := rfl
theorem l_By_add_9 : xlk (xm_cd m_By_add) 9 = some (.if_icmp .ge 27, 3, (0, 36, 0, [])) := rfl
theorem l_By_add_12 : xlk (xm_cd m_By_add) 12 = some (.aload_n 0, 1, (0, 0, 0, [])) := rfl
theorem l_By_add_13 : xlk (xm_cd m_By_add) 13 = some (.getfield 15, 3, (106, 1, 0, [])) := rfl
theorem l_By_add_16 : xlk (xm_cd m_By_add) 16 = some (.aload_n 0, 1, (0, 0, 0, [])) := rfl
theorem l_By_add_17 : xlk (xm_cd m_By_add) 17 = some (.getfield 21, 3, (107, 1, 1, [])) := rfl
theorem l_By_add_20 : xlk (xm_cd m_By_add) 20 = some (.iload_n 1, 1, (0, 0, 0, [])) := rfl
theorem l_By_add_21 : xlk (xm_cd m_By_add) 21 = some (.sipush 255, 3, (0, 0, 0, [])) := rfl
theorem l_By_add_24 : xlk (xm_cd m_By_add) 24 = some (.iand, 1, (0, 0, 0, [])) := rfl
theorem l_By_add_25 : xlk (xm_cd m_By_add) 25 = some (.iastore, 1, (0, 0, 0, [])) := rfl
theorem l_By_add_26 : xlk (xm_cd m_By_add) 26 = some (.aload_n 0, 1, (0, 0, 0, [])) := rfl
theorem l_By_add_27 : xlk (xm_cd m_By_add) 27 = some (.dup, 1, (0, 0, 0, [])) := rfl
theorem l_By_add_28 : xlk (xm_cd m_By_add) 28 = some (.getfield 21, 3, (107, 1, 1, [])) := rfl
theorem l_By_add_31 : xlk (xm_cd m_By_add) 31 = some (.iconst 1, 1, (0, 0, 0, [])) := rfl
theorem l_By_add_32 : xlk (xm_cd m_By_add) 32 = some (.iadd, 1, (0, 0, 0, [])) := rfl
theorem l_By_add_33 : xlk (xm_cd m_By_add) 33 = some (.putfield 21, 3, (107, 1, 1, [(0, 0)])) := rfl
theorem l_By_add_36 : xlk (xm_cd m_By_add) 36 = some (.return_, 1, (0, 0, 0, [])) := rfl
def B_By_add_0 (d : Nat) (E : Option Value → xH → Prop) (f : xH) (a0 : Nat) (x1 : Int32) : Prop :=
  xgi f a0 1 1 (fun v1 => xgr f a0 1 0 (fun r2 => xle f r2 0 (fun v3 => xbr (v3 ≤ v1) (E none f) (xgr f a0 1 0 (fun r4 => xgi f a0 1 1 (fun v5 => xas f r4 0 v5 (x1 &&& 255) (fun f6 => xgi f6 a0 1 1 (fun v7 => xpf f6 a0 1 1 (.int (v7 + 1)) (fun f8 => E none f8)))))))))
theorem b_By_add_0 {d : Nat} {E : Option Value → xH → Prop} {f : xH} {a0 : Nat} {x1 : Int32} (h : B_By_add_0 d E f a0 x1) : xWp (xT0, xSp xT0 d, none, m_By_add, E) 0 [some (.ref a0), some (.int x1)] [] f 0 0 := by
  unfold B_By_add_0 at h
  refine s_aln l_By_add_0 rfl ?_
  refine s_gi l_By_add_1 h (fun v1 h => ?_)
  refine s_aln l_By_add_4 rfl ?_
  refine s_gr l_By_add_5 h (fun r2 h => ?_)
  refine s_len l_By_add_8 rfl h (fun v3 h => ?_)
  refine s_ifc l_By_add_9 h (fun h => ?_) (fun h => ?_)
  · exact s_ret l_By_add_36 ⟨Nat.zero_le _, Nat.zero_le _⟩ h
  · refine s_aln l_By_add_12 rfl ?_
    refine s_gr l_By_add_13 h (fun r4 h => ?_)
    refine s_aln l_By_add_16 rfl ?_
    refine s_gi l_By_add_17 h (fun v5 h => ?_)
    refine s_iln l_By_add_20 rfl ?_
    refine s_sp 255 l_By_add_21 rfl ?_
    refine s_iand l_By_add_24 ?_
    refine s_iast l_By_add_25 h (fun f6 h => ?_)
    refine s_aln l_By_add_26 rfl ?_
    refine s_dup l_By_add_27 rfl ?_
    refine s_gi l_By_add_28 h (fun v7 h => ?_)
    refine s_ic 1 l_By_add_31 rfl ?_
    refine s_iadd l_By_add_32 ?_
    refine s_pf l_By_add_33 ⟨_, rfl⟩ h (fun f8 h => ?_)
    exact s_ret l_By_add_36 ⟨Nat.zero_le _, Nat.zero_le _⟩ h
theorem l_By_cutTo_0 : xlk (xm_cd m_By_cutTo) 0 = some (.iload_n 1, 1, (0, 0, 0, [])) := rfl
theorem l_By_cutTo_1 : xlk (xm_cd m_By_cutTo) 1 = some (.ifCond .lt 16, 3, (0, 17, 0, [])) := rfl
theorem l_By_cutTo_4 : xlk (xm_cd m_By_cutTo) 4 = some (.iload_n 1, 1, (0, 0, 0, [])) := rfl
theorem l_By_cutTo_5 : xlk (xm_cd m_By_cutTo) 5 = some (.aload_n 0, 1, (0, 0, 0, [])) := rfl
theorem l_By_cutTo_6 : xlk (xm_cd m_By_cutTo) 6 = some (.getfield 21, 3, (107, 1, 1, [])) := rfl
theorem l_By_cutTo_9 : xlk (xm_cd m_By_cutTo) 9 = some (.if_icmp .ge 8, 3, (0, 17, 0, [])) := rfl
theorem l_By_cutTo_12 : xlk (xm_cd m_By_cutTo) 12 = some (.aload_n 0, 1, (0, 0, 0, [])) := rfl
theorem l_By_cutTo_13 : xlk (xm_cd m_By_cutTo) 13 = some (.iload_n 1, 1, (0, 0, 0, [])) := rfl
theorem l_By_cutTo_14 : xlk (xm_cd m_By_cutTo) 14 = some (.putfield 21, 3, (107, 1, 1, [(0, 0)])) := rfl
theorem l_By_cutTo_17 : xlk (xm_cd m_By_cutTo) 17 = some (.return_, 1, (0, 0, 0, [])) := rfl
def B_By_cutTo_0 (d : Nat) (E : Option Value → xH → Prop) (f : xH) (a0 : Nat) (x1 : Int32) : Prop :=
  xbr (x1 < 0) (E none f) (xgi f a0 1 1 (fun v1 => xbr (v1 ≤ x1) (E none f) (xpf f a0 1 1 (.int x1) (fun f2 => E none f2))))
theorem b_By_cutTo_0 {d : Nat} {E : Option Value → xH → Prop} {f : xH} {a0 : Nat} {x1 : Int32} (h : B_By_cutTo_0 d E f a0 x1) : xWp (xT0, xSp xT0 d, none, m_By_cutTo, E) 0 [some (.ref a0), some (.int x1)] [] f 0 0 := by
  unfold B_By_cutTo_0 at h
  refine s_iln l_By_cutTo_0 rfl ?_
  refine s_if l_By_cutTo_1 h (fun h => ?_) (fun h => ?_)
  · exact s_ret l_By_cutTo_17 ⟨Nat.zero_le _, Nat.zero_le _⟩ h
  · refine s_iln l_By_cutTo_4 rfl ?_
    refine s_aln l_By_cutTo_5 rfl ?_
    refine s_gi l_By_cutTo_6 h (fun v1 h => ?_)
    refine s_ifc l_By_cutTo_9 h (fun h => ?_) (fun h => ?_)
    · exact s_ret l_By_cutTo_17 ⟨Nat.zero_le _, Nat.zero_le _⟩ h
    · refine s_aln l_By_cutTo_12 rfl ?_
      refine s_iln l_By_cutTo_13 rfl ?_
      refine s_pf l_By_cutTo_14 ⟨_, rfl⟩ h (fun f2 h => ?_)
      exact s_ret l_By_cutTo_17 ⟨Nat.zero_le _, Nat.zero_le _⟩ h
theorem l_By_names_0 : xlk (xm_cd m_By_names) 0 = some (.iconst 1, 1, (0, 0, 0, [])) := rfl
theorem l_By_names_1 : xlk (xm_cd m_By_names) 1 = some (.istore_n 1, 1, (0, 0, 0, [])) := rfl
theorem l_By_names_2 : xlk (xm_cd m_By_names) 2 = some (.iconst 0, 1, (0, 0, 0, [])) := rfl
theorem l_By_names_3 : xlk (xm_cd m_By_names) 3 = some (.istore_n 2, 1, (0, 0, 0, [])) := rfl
theorem l_By_names_4 : xlk (xm_cd m_By_names) 4 = some (.iconst 0, 1, (0, 0, 0, [])) := rfl
theorem l_By_names_5 : xlk (xm_cd m_By_names) 5 = some (.istore_n 3, 1, (0, 0, 0, [])) := rfl
theorem l_By_names_6 : xlk (xm_cd m_By_names) 6 = some (.iload_n 3, 1, (0, 0, 0, [])) := rfl
theorem l_By_names_7 : xlk (xm_cd m_By_names) 7 = some (.aload_n 0, 1, (0, 0, 0, [])) := rfl
theorem l_By_names_8 : xlk (xm_cd m_By_names) 8 = some (.getfield 21, 3, (107, 1, 1, [])) := rfl
theorem l_By_names_11 : xlk (xm_cd m_By_names) 11 = some (.if_icmp .ge 72, 3, (0, 83, 0, [])) := rfl
theorem l_By_names_14 : xlk (xm_cd m_By_names) 14 = some (.aload_n 0, 1, (0, 0, 0, [])) := rfl
theorem l_By_names_15 : xlk (xm_cd m_By_names) 15 = some (.getfield 15, 3, (106, 1, 0, [])) := rfl
theorem l_By_names_18 : xlk (xm_cd m_By_names) 18 = some (.iload_n 3, 1, (0, 0, 0, [])) := rfl
theorem l_By_names_19 : xlk (xm_cd m_By_names) 19 = some (.iaload, 1, (0, 0, 0, [])) := rfl
theorem l_By_names_20 : xlk (xm_cd m_By_names) 20 = some (.bipush 97, 2, (0, 0, 0, [])) := rfl
theorem l_By_names_22 : xlk (xm_cd m_By_names) 22 = some (.if_icmp .lt 25, 3, (0, 47, 0, [])) := rfl
theorem l_By_names_25 : xlk (xm_cd m_By_names) 25 = some (.aload_n 0, 1, (0, 0, 0, [])) := rfl
theorem l_By_names_26 : xlk (xm_cd m_By_names) 26 = some (.getfield 15, 3, (106, 1, 0, [])) := rfl
theorem l_By_names_29 : xlk (xm_cd m_By_names) 29 = some (.iload_n 3, 1, (0, 0, 0, [])) := rfl
theorem l_By_names_30 : xlk (xm_cd m_By_names) 30 = some (.iaload, 1, (0, 0, 0, [])) := rfl
theorem l_By_names_31 : xlk (xm_cd m_By_names) 31 = some (.bipush 122, 2, (0, 0, 0, [])) := rfl
theorem l_By_names_33 : xlk (xm_cd m_By_names) 33 = some (.if_icmp .gt 14, 3, (0, 47, 0, [])) := rfl
theorem l_By_names_36 : xlk (xm_cd m_By_names) 36 = some (.iload_n 2, 1, (0, 0, 0, [])) := rfl
theorem l_By_names_37 : xlk (xm_cd m_By_names) 37 = some (.iconst 5, 1, (0, 0, 0, [])) := rfl
theorem l_By_names_38 : xlk (xm_cd m_By_names) 38 = some (.if_icmp .ge 9, 3, (0, 47, 0, [])) := rfl
theorem l_By_names_41 : xlk (xm_cd m_By_names) 41 = some (.iinc 2 1, 3, (0, 0, 0, [])) := rfl
theorem l_By_names_44 : xlk (xm_cd m_By_names) 44 = some (.goto 33, 3, (0, 77, 0, [])) := rfl
theorem l_By_names_47 : xlk (xm_cd m_By_names) 47 = some (.aload_n 0, 1, (0, 0, 0, [])) := rfl
theorem l_By_names_48 : xlk (xm_cd m_By_names) 48 = some (.getfield 15, 3, (106, 1, 0, [])) := rfl
theorem l_By_names_51 : xlk (xm_cd m_By_names) 51 = some (.iload_n 3, 1, (0, 0, 0, [])) := rfl
theorem l_By_names_52 : xlk (xm_cd m_By_names) 52 = some (.iaload, 1, (0, 0, 0, [])) := rfl
theorem l_By_names_53 : xlk (xm_cd m_By_names) 53 = some (.bipush 47, 2, (0, 0, 0, [])) := rfl
theorem l_By_names_55 : xlk (xm_cd m_By_names) 55 = some (.if_icmp .ne 20, 3, (0, 75, 0, [])) := rfl
theorem l_By_names_58 : xlk (xm_cd m_By_names) 58 = some (.iload_n 2, 1, (0, 0, 0, [])) := rfl
theorem l_By_names_59 : xlk (xm_cd m_By_names) 59 = some (.ifCond .le 16, 3, (0, 75, 0, [])) := rfl
theorem l_By_names_62 : xlk (xm_cd m_By_names) 62 = some (.iload_n 1, 1, (0, 0, 0, [])) := rfl
theorem l_By_names_63 : xlk (xm_cd m_By_names) 63 = some (.iconst 3, 1, (0, 0, 0, [])) := rfl
theorem l_By_names_64 : xlk (xm_cd m_By_names) 64 = some (.if_icmp .ge 11, 3, (0, 75, 0, [])) := rfl
theorem l_By_names_67 : xlk (xm_cd m_By_names) 67 = some (.iinc 1 1, 3, (0, 0, 0, [])) := rfl
theorem l_By_names_70 : xlk (xm_cd m_By_names) 70 = some (.iconst 0, 1, (0, 0, 0, [])) := rfl
theorem l_By_names_71 : xlk (xm_cd m_By_names) 71 = some (.istore_n 2, 1, (0, 0, 0, [])) := rfl
theorem l_By_names_72 : xlk (xm_cd m_By_names) 72 = some (.goto 5, 3, (0, 77, 0, [])) := rfl
theorem l_By_names_75 : xlk (xm_cd m_By_names) 75 = some (.iconst 0, 1, (0, 0, 0, [])) := rfl
theorem l_By_names_76 : xlk (xm_cd m_By_names) 76 = some (.ireturn, 1, (0, 0, 0, [])) := rfl
theorem l_By_names_77 : xlk (xm_cd m_By_names) 77 = some (.iinc 3 1, 3, (0, 0, 0, [])) := rfl
theorem l_By_names_80 : xlk (xm_cd m_By_names) 80 = some (.goto (-74), 3, (0, 6, 0, [])) := rfl
theorem l_By_names_83 : xlk (xm_cd m_By_names) 83 = some (.iload_n 2, 1, (0, 0, 0, [])) := rfl
theorem l_By_names_84 : xlk (xm_cd m_By_names) 84 = some (.ifCond .le 7, 3, (0, 91, 0, [])) := rfl
theorem l_By_names_87 : xlk (xm_cd m_By_names) 87 = some (.iload_n 1, 1, (0, 0, 0, [])) := rfl
theorem l_By_names_88 : xlk (xm_cd m_By_names) 88 = some (.goto 4, 3, (0, 92, 0, [])) := rfl
theorem l_By_names_91 : xlk (xm_cd m_By_names) 91 = some (.iconst 0, 1, (0, 0, 0, [])) := rfl
theorem l_By_names_92 : xlk (xm_cd m_By_names) 92 = some (.ireturn, 1, (0, 0, 0, [])) := rfl
def B_By_names_0 (d : Nat) (E : Option Value → xH → Prop) (f : xH) (a0 : Nat) : Prop :=
  xWp (xT0, xSp xT0 d, none, m_By_names, E) 6 [some (.ref a0), some (.int 1), some (.int 0), some (.int 0)] [] f 0 0
theorem b_By_names_0 {d : Nat} {E : Option Value → xH → Prop} {f : xH} {a0 : Nat} (h : B_By_names_0 d E f a0) : xWp (xT0, xSp xT0 d, none, m_By_names, E) 0 [some (.ref a0), none, none, none] [] f 0 0 := by
  unfold B_By_names_0 at h
  refine s_ic 1 l_By_names_0 rfl ?_
  refine s_isn l_By_names_1 (Nat.le_of_ble_eq_true rfl) ?_
  refine s_ic 0 l_By_names_2 rfl ?_
  refine s_isn l_By_names_3 (Nat.le_of_ble_eq_true rfl) ?_
  refine s_ic 0 l_By_names_4 rfl ?_
  refine s_isn l_By_names_5 (Nat.le_of_ble_eq_true rfl) ?_
  exact h
def B_By_names_6 (d : Nat) (E : Option Value → xH → Prop) (f : xH) (a0 : Nat) (x1 : Int32) (x2 : Int32) (x3 : Int32) : Prop :=
  xgi f a0 1 1 (fun v1 => xbr (v1 ≤ x3) (xbr (x2 ≤ 0) (E (some (.int 0)) f) (E (some (.int x1)) f)) (xgr f a0 1 0 (fun r2 => xal f r2 0 x3 (fun v3 => xbr (v3 < 97) (xWp (xT0, xSp xT0 d, none, m_By_names, E) 47 [some (.ref a0), some (.int x1), some (.int x2), some (.int x3)] [] f 0 0) (xgr f a0 1 0 (fun r4 => xal f r4 0 x3 (fun v5 => xbr ((122 : Int32) < v5) (xWp (xT0, xSp xT0 d, none, m_By_names, E) 47 [some (.ref a0), some (.int x1), some (.int x2), some (.int x3)] [] f 0 0) (xbr ((5 : Int32) ≤ x2) (xWp (xT0, xSp xT0 d, none, m_By_names, E) 47 [some (.ref a0), some (.int x1), some (.int x2), some (.int x3)] [] f 0 0) (xWp (xT0, xSp xT0 d, none, m_By_names, E) 6 [some (.ref a0), some (.int x1), some (.int (x2 + 1)), some (.int (x3 + 1))] [] f 0 0)))))))))
theorem b_By_names_6 {d : Nat} {E : Option Value → xH → Prop} {f : xH} {a0 : Nat} {x1 : Int32} {x2 : Int32} {x3 : Int32} (h : B_By_names_6 d E f a0 x1 x2 x3) : xWp (xT0, xSp xT0 d, none, m_By_names, E) 6 [some (.ref a0), some (.int x1), some (.int x2), some (.int x3)] [] f 0 0 := by
  unfold B_By_names_6 at h
  refine s_iln l_By_names_6 rfl ?_
  refine s_aln l_By_names_7 rfl ?_
  refine s_gi l_By_names_8 h (fun v1 h => ?_)
  refine s_ifc l_By_names_11 h (fun h => ?_) (fun h => ?_)
  · refine s_iln l_By_names_83 rfl ?_
    refine s_if l_By_names_84 h (fun h => ?_) (fun h => ?_)
    · refine s_ic 0 l_By_names_91 rfl ?_
      exact s_iret l_By_names_92 rfl ⟨Nat.zero_le _, Nat.zero_le _⟩ h
    · refine s_iln l_By_names_87 rfl ?_
      refine s_goto l_By_names_88 ?_
      exact s_iret l_By_names_92 rfl ⟨Nat.zero_le _, Nat.zero_le _⟩ h
  · refine s_aln l_By_names_14 rfl ?_
    refine s_gr l_By_names_15 h (fun r2 h => ?_)
    refine s_iln l_By_names_18 rfl ?_
    refine s_ial l_By_names_19 rfl h (fun v3 h => ?_)
    refine s_bp 97 l_By_names_20 rfl ?_
    refine s_ifc l_By_names_22 h (fun h => ?_) (fun h => ?_)
    · exact h
    · refine s_aln l_By_names_25 rfl ?_
      refine s_gr l_By_names_26 h (fun r4 h => ?_)
      refine s_iln l_By_names_29 rfl ?_
      refine s_ial l_By_names_30 rfl h (fun v5 h => ?_)
      refine s_bp 122 l_By_names_31 rfl ?_
      refine s_ifc l_By_names_33 h (fun h => ?_) (fun h => ?_)
      · exact h
      · refine s_iln l_By_names_36 rfl ?_
        refine s_ic 5 l_By_names_37 rfl ?_
        refine s_ifc l_By_names_38 h (fun h => ?_) (fun h => ?_)
        · exact h
        · refine s_inc 1 l_By_names_41 rfl rfl ?_
          refine s_goto l_By_names_44 ?_
          refine s_inc 1 l_By_names_77 rfl rfl ?_
          refine s_goto l_By_names_80 ?_
          exact h
def B_By_names_47 (d : Nat) (E : Option Value → xH → Prop) (f : xH) (a0 : Nat) (x1 : Int32) (x2 : Int32) (x3 : Int32) : Prop :=
  xgr f a0 1 0 (fun r1 => xal f r1 0 x3 (fun v2 => xbr (¬ v2 = 47) (E (some (.int 0)) f) (xbr (x2 ≤ 0) (E (some (.int 0)) f) (xbr ((3 : Int32) ≤ x1) (E (some (.int 0)) f) (xWp (xT0, xSp xT0 d, none, m_By_names, E) 6 [some (.ref a0), some (.int (x1 + 1)), some (.int 0), some (.int (x3 + 1))] [] f 0 0)))))
theorem b_By_names_47 {d : Nat} {E : Option Value → xH → Prop} {f : xH} {a0 : Nat} {x1 : Int32} {x2 : Int32} {x3 : Int32} (h : B_By_names_47 d E f a0 x1 x2 x3) : xWp (xT0, xSp xT0 d, none, m_By_names, E) 47 [some (.ref a0), some (.int x1), some (.int x2), some (.int x3)] [] f 0 0 := by
  unfold B_By_names_47 at h
  refine s_aln l_By_names_47 rfl ?_
  refine s_gr l_By_names_48 h (fun r1 h => ?_)
  refine s_iln l_By_names_51 rfl ?_
  refine s_ial l_By_names_52 rfl h (fun v2 h => ?_)
  refine s_bp 47 l_By_names_53 rfl ?_
  refine s_ifc l_By_names_55 h (fun h => ?_) (fun h => ?_)
  · refine s_ic 0 l_By_names_75 rfl ?_
    exact s_iret l_By_names_76 rfl ⟨Nat.zero_le _, Nat.zero_le _⟩ h
  · refine s_iln l_By_names_58 rfl ?_
    refine s_if l_By_names_59 h (fun h => ?_) (fun h => ?_)
    · refine s_ic 0 l_By_names_75 rfl ?_
      exact s_iret l_By_names_76 rfl ⟨Nat.zero_le _, Nat.zero_le _⟩ h
    · refine s_iln l_By_names_62 rfl ?_
      refine s_ic 3 l_By_names_63 rfl ?_
      refine s_ifc l_By_names_64 h (fun h => ?_) (fun h => ?_)
      · refine s_ic 0 l_By_names_75 rfl ?_
        exact s_iret l_By_names_76 rfl ⟨Nat.zero_le _, Nat.zero_le _⟩ h
      · refine s_inc 1 l_By_names_67 rfl rfl ?_
        refine s_ic 0 l_By_names_70 rfl ?_
        refine s_isn l_By_names_71 (Nat.le_of_ble_eq_true rfl) ?_
        refine s_goto l_By_names_72 ?_
        refine s_inc 1 l_By_names_77 rfl rfl ?_
        refine s_goto l_By_names_80 ?_
        exact h
theorem l_By_copyOf_0 : xlk (xm_cd m_By_copyOf) 0 = some (.aload_n 0, 1, (0, 0, 0, [])) := rfl
theorem l_By_copyOf_1 : xlk (xm_cd m_By_copyOf) 1 = some (.aload_n 1, 1, (0, 0, 0, [])) := rfl
theorem l_By_copyOf_2 : xlk (xm_cd m_By_copyOf) 2 = some (.getfield 21, 3, (107, 1, 1, [])) := rfl
theorem l_By_copyOf_5 : xlk (xm_cd m_By_copyOf) 5 = some (.aload_n 0, 1, (0, 0, 0, [])) := rfl
theorem l_By_copyOf_6 : xlk (xm_cd m_By_copyOf) 6 = some (.getfield 15, 3, (106, 1, 0, [])) := rfl
theorem l_By_copyOf_9 : xlk (xm_cd m_By_copyOf) 9 = some (.arraylength, 1, (0, 0, 0, [])) := rfl
theorem l_By_copyOf_10 : xlk (xm_cd m_By_copyOf) 10 = some (.invokestatic 29, 3, (315, 0, 0, [(2, 0)])) := rfl
theorem l_By_copyOf_13 : xlk (xm_cd m_By_copyOf) 13 = some (.putfield 21, 3, (107, 1, 1, [(0, 0)])) := rfl
theorem l_By_copyOf_16 : xlk (xm_cd m_By_copyOf) 16 = some (.iconst 0, 1, (0, 0, 0, [])) := rfl
theorem l_By_copyOf_17 : xlk (xm_cd m_By_copyOf) 17 = some (.istore_n 2, 1, (0, 0, 0, [])) := rfl
theorem l_By_copyOf_18 : xlk (xm_cd m_By_copyOf) 18 = some (.iload_n 2, 1, (0, 0, 0, [])) := rfl
theorem l_By_copyOf_19 : xlk (xm_cd m_By_copyOf) 19 = some (.aload_n 0, 1, (0, 0, 0, [])) := rfl
theorem l_By_copyOf_20 : xlk (xm_cd m_By_copyOf) 20 = some (.getfield 21, 3, (107, 1, 1, [])) := rfl
theorem l_By_copyOf_23 : xlk (xm_cd m_By_copyOf) 23 = some (.if_icmp .ge 21, 3, (0, 44, 0, [])) := rfl
theorem l_By_copyOf_26 : xlk (xm_cd m_By_copyOf) 26 = some (.aload_n 0, 1, (0, 0, 0, [])) := rfl
theorem l_By_copyOf_27 : xlk (xm_cd m_By_copyOf) 27 = some (.getfield 15, 3, (106, 1, 0, [])) := rfl
theorem l_By_copyOf_30 : xlk (xm_cd m_By_copyOf) 30 = some (.iload_n 2, 1, (0, 0, 0, [])) := rfl
theorem l_By_copyOf_31 : xlk (xm_cd m_By_copyOf) 31 = some (.aload_n 1, 1, (0, 0, 0, [])) := rfl
theorem l_By_copyOf_32 : xlk (xm_cd m_By_copyOf) 32 = some (.getfield 15, 3, (106, 1, 0, [])) := rfl
theorem l_By_copyOf_35 : xlk (xm_cd m_By_copyOf) 35 = some (.iload_n 2, 1, (0, 0, 0, [])) := rfl
theorem l_By_copyOf_36 : xlk (xm_cd m_By_copyOf) 36 = some (.iaload, 1, (0, 0, 0, [])) := rfl
theorem l_By_copyOf_37 : xlk (xm_cd m_By_copyOf) 37 = some (.iastore, 1, (0, 0, 0, [])) := rfl
theorem l_By_copyOf_38 : xlk (xm_cd m_By_copyOf) 38 = some (.iinc 2 1, 3, (0, 0, 0, [])) := rfl
theorem l_By_copyOf_41 : xlk (xm_cd m_By_copyOf) 41 = some (.goto (-23), 3, (0, 18, 0, [])) := rfl
theorem l_By_copyOf_44 : xlk (xm_cd m_By_copyOf) 44 = some (.return_, 1, (0, 0, 0, [])) := rfl
def B_By_copyOf_0 (d : Nat) (E : Option Value → xH → Prop) (f : xH) (a0 : Nat) (a1 : Nat) : Prop :=
  xgi f a1 1 1 (fun v1 => xgr f a0 1 0 (fun r2 => xle f r2 0 (fun v3 => xpf f a0 1 1 (.int (if v3 < v1 then v3 else v1)) (fun f4 => xWp (xT0, xSp xT0 d, none, m_By_copyOf, E) 18 [some (.ref a0), some (.ref a1), some (.int 0)] [] f4 0 0))))
theorem b_By_copyOf_0 {d : Nat} {E : Option Value → xH → Prop} {f : xH} {a0 : Nat} {a1 : Nat} (h : B_By_copyOf_0 d E f a0 a1) : xWp (xT0, xSp xT0 d, none, m_By_copyOf, E) 0 [some (.ref a0), some (.ref a1), none] [] f 0 0 := by
  unfold B_By_copyOf_0 at h
  refine s_aln l_By_copyOf_0 rfl ?_
  refine s_aln l_By_copyOf_1 rfl ?_
  refine s_gi l_By_copyOf_2 h (fun v1 h => ?_)
  refine s_aln l_By_copyOf_5 rfl ?_
  refine s_gr l_By_copyOf_6 h (fun r2 h => ?_)
  refine s_len l_By_copyOf_9 rfl h (fun v3 h => ?_)
  refine s_min l_By_copyOf_10 (Nat.le_of_ble_eq_true rfl) ⟨Nat.zero_le _, Nat.zero_le _⟩ ?_
  refine s_pf l_By_copyOf_13 ⟨_, rfl⟩ h (fun f4 h => ?_)
  refine s_ic 0 l_By_copyOf_16 rfl ?_
  refine s_isn l_By_copyOf_17 (Nat.le_of_ble_eq_true rfl) ?_
  exact h
def B_By_copyOf_18 (d : Nat) (E : Option Value → xH → Prop) (f : xH) (a0 : Nat) (a1 : Nat) (x2 : Int32) : Prop :=
  xgi f a0 1 1 (fun v1 => xbr (v1 ≤ x2) (E none f) (xgr f a0 1 0 (fun r2 => xgr f a1 1 0 (fun r3 => xal f r3 0 x2 (fun v4 => xas f r2 0 x2 v4 (fun f5 => xWp (xT0, xSp xT0 d, none, m_By_copyOf, E) 18 [some (.ref a0), some (.ref a1), some (.int (x2 + 1))] [] f5 0 0))))))
theorem b_By_copyOf_18 {d : Nat} {E : Option Value → xH → Prop} {f : xH} {a0 : Nat} {a1 : Nat} {x2 : Int32} (h : B_By_copyOf_18 d E f a0 a1 x2) : xWp (xT0, xSp xT0 d, none, m_By_copyOf, E) 18 [some (.ref a0), some (.ref a1), some (.int x2)] [] f 0 0 := by
  unfold B_By_copyOf_18 at h
  refine s_iln l_By_copyOf_18 rfl ?_
  refine s_aln l_By_copyOf_19 rfl ?_
  refine s_gi l_By_copyOf_20 h (fun v1 h => ?_)
  refine s_ifc l_By_copyOf_23 h (fun h => ?_) (fun h => ?_)
  · exact s_ret l_By_copyOf_44 ⟨Nat.zero_le _, Nat.zero_le _⟩ h
  · refine s_aln l_By_copyOf_26 rfl ?_
    refine s_gr l_By_copyOf_27 h (fun r2 h => ?_)
    refine s_iln l_By_copyOf_30 rfl ?_
    refine s_aln l_By_copyOf_31 rfl ?_
    refine s_gr l_By_copyOf_32 h (fun r3 h => ?_)
    refine s_iln l_By_copyOf_35 rfl ?_
    refine s_ial l_By_copyOf_36 rfl h (fun v4 h => ?_)
    refine s_iast l_By_copyOf_37 h (fun f5 h => ?_)
    refine s_inc 1 l_By_copyOf_38 rfl rfl ?_
    refine s_goto l_By_copyOf_41 ?_
    exact h
theorem l_By_empty_0 : xlk (xm_cd m_By_empty) 0 = some (.aload_n 0, 1, (0, 0, 0, [])) := rfl
theorem l_By_empty_1 : xlk (xm_cd m_By_empty) 1 = some (.iconst 0, 1, (0, 0, 0, [])) := rfl
theorem l_By_empty_2 : xlk (xm_cd m_By_empty) 2 = some (.putfield 21, 3, (107, 1, 1, [(0, 0)])) := rfl
theorem l_By_empty_5 : xlk (xm_cd m_By_empty) 5 = some (.return_, 1, (0, 0, 0, [])) := rfl
def B_By_empty_0 (d : Nat) (E : Option Value → xH → Prop) (f : xH) (a0 : Nat) : Prop :=
  xpf f a0 1 1 (.int 0) (fun f1 => E none f1)
theorem b_By_empty_0 {d : Nat} {E : Option Value → xH → Prop} {f : xH} {a0 : Nat} (h : B_By_empty_0 d E f a0) : xWp (xT0, xSp xT0 d, none, m_By_empty, E) 0 [some (.ref a0)] [] f 0 0 := by
  unfold B_By_empty_0 at h
  refine s_aln l_By_empty_0 rfl ?_
  refine s_ic 0 l_By_empty_1 rfl ?_
  refine s_pf l_By_empty_2 ⟨_, rfl⟩ h (fun f1 h => ?_)
  exact s_ret l_By_empty_5 ⟨Nat.zero_le _, Nat.zero_le _⟩ h
theorem l_By_equalTo_0 : xlk (xm_cd m_By_equalTo) 0 = some (.aload_n 0, 1, (0, 0, 0, [])) := rfl
theorem l_By_equalTo_1 : xlk (xm_cd m_By_equalTo) 1 = some (.getfield 21, 3, (107, 1, 1, [])) := rfl
theorem l_By_equalTo_4 : xlk (xm_cd m_By_equalTo) 4 = some (.aload_n 1, 1, (0, 0, 0, [])) := rfl
theorem l_By_equalTo_5 : xlk (xm_cd m_By_equalTo) 5 = some (.getfield 21, 3, (107, 1, 1, [])) := rfl
theorem l_By_equalTo_8 : xlk (xm_cd m_By_equalTo) 8 = some (.if_icmp .ne 15, 3, (0, 23, 0, [])) := rfl
theorem l_By_equalTo_11 : xlk (xm_cd m_By_equalTo) 11 = some (.aload_n 0, 1, (0, 0, 0, [])) := rfl
theorem l_By_equalTo_12 : xlk (xm_cd m_By_equalTo) 12 = some (.aload_n 1, 1, (0, 0, 0, [])) := rfl
theorem l_By_equalTo_13 : xlk (xm_cd m_By_equalTo) 13 = some (.invokevirtual 32, 3, (357, 30, 1, [])) := rfl
theorem l_By_equalTo_16 : xlk (xm_cd m_By_equalTo) 16 = some (.ifCond .ne 7, 3, (0, 23, 0, [])) := rfl
theorem l_By_equalTo_19 : xlk (xm_cd m_By_equalTo) 19 = some (.iconst 1, 1, (0, 0, 0, [])) := rfl
theorem l_By_equalTo_20 : xlk (xm_cd m_By_equalTo) 20 = some (.goto 4, 3, (0, 24, 0, [])) := rfl
theorem l_By_equalTo_23 : xlk (xm_cd m_By_equalTo) 23 = some (.iconst 0, 1, (0, 0, 0, [])) := rfl
theorem l_By_equalTo_24 : xlk (xm_cd m_By_equalTo) 24 = some (.ireturn, 1, (0, 0, 0, [])) := rfl
def B_By_equalTo_0 (d : Nat) (E : Option Value → xH → Prop) (f : xH) (a0 : Nat) (a1 : Nat) : Prop :=
  xgi f a0 1 1 (fun v1 => xgi f a1 1 1 (fun v2 => xbr (¬ v1 = v2) (E (some (.int 0)) f) ((∃ fs, f a0 = some (xO 1 fs)) ∧ xSp xT0 d j_By_order [.ref a0, .ref a1] f (fun w3 f4 => xvi w3 (fun v5 => xbr (¬ v5 = 0) (E (some (.int 0)) f4) (E (some (.int 1)) f4))))))
theorem b_By_equalTo_0 {d : Nat} {E : Option Value → xH → Prop} {f : xH} {a0 : Nat} {a1 : Nat} (h : B_By_equalTo_0 d E f a0 a1) : xWp (xT0, xSp xT0 d, none, m_By_equalTo, E) 0 [some (.ref a0), some (.ref a1)] [] f 0 0 := by
  unfold B_By_equalTo_0 at h
  refine s_aln l_By_equalTo_0 rfl ?_
  refine s_gi l_By_equalTo_1 h (fun v1 h => ?_)
  refine s_aln l_By_equalTo_4 rfl ?_
  refine s_gi l_By_equalTo_5 h (fun v2 h => ?_)
  refine s_ifc l_By_equalTo_8 h (fun h => ?_) (fun h => ?_)
  · refine s_ic 0 l_By_equalTo_23 rfl ?_
    exact s_zret l_By_equalTo_24 rfl ⟨Nat.zero_le _, Nat.zero_le _⟩ ⟨Or.inl rfl, h⟩
  · refine s_aln l_By_equalTo_11 rfl ?_
    refine s_aln l_By_equalTo_12 rfl ?_
    refine s_cvi (As := [.ref a1]) (r := []) l_By_equalTo_13 rfl ⟨rfl, rfl⟩ rfl (Nat.le_of_ble_eq_true rfl) rfl ⟨Nat.zero_le _, Nat.zero_le _⟩ h (fun v5 f4 h => ?_)
    refine s_if l_By_equalTo_16 h (fun h => ?_) (fun h => ?_)
    · refine s_ic 0 l_By_equalTo_23 rfl ?_
      exact s_zret l_By_equalTo_24 rfl ⟨Nat.zero_le _, Nat.zero_le _⟩ ⟨Or.inl rfl, h⟩
    · refine s_ic 1 l_By_equalTo_19 rfl ?_
      refine s_goto l_By_equalTo_20 ?_
      exact s_zret l_By_equalTo_24 rfl ⟨Nat.zero_le _, Nat.zero_le _⟩ ⟨Or.inr rfl, h⟩
theorem l_By_order_0 : xlk (xm_cd m_By_order) 0 = some (.aload_n 0, 1, (0, 0, 0, [])) := rfl
theorem l_By_order_1 : xlk (xm_cd m_By_order) 1 = some (.getfield 21, 3, (107, 1, 1, [])) := rfl
theorem l_By_order_4 : xlk (xm_cd m_By_order) 4 = some (.aload_n 1, 1, (0, 0, 0, [])) := rfl
theorem l_By_order_5 : xlk (xm_cd m_By_order) 5 = some (.getfield 21, 3, (107, 1, 1, [])) := rfl
theorem l_By_order_8 : xlk (xm_cd m_By_order) 8 = some (.invokestatic 29, 3, (315, 0, 0, [(2, 0)])) := rfl
theorem l_By_order_11 : xlk (xm_cd m_By_order) 11 = some (.istore_n 2, 1, (0, 0, 0, [])) := rfl
theorem l_By_order_12 : xlk (xm_cd m_By_order) 12 = some (.iconst 0, 1, (0, 0, 0, [])) := rfl
theorem l_By_order_13 : xlk (xm_cd m_By_order) 13 = some (.istore_n 3, 1, (0, 0, 0, [])) := rfl
theorem l_By_order_14 : xlk (xm_cd m_By_order) 14 = some (.iload_n 3, 1, (0, 0, 0, [])) := rfl
theorem l_By_order_15 : xlk (xm_cd m_By_order) 15 = some (.iload_n 2, 1, (0, 0, 0, [])) := rfl
theorem l_By_order_16 : xlk (xm_cd m_By_order) 16 = some (.if_icmp .ge 38, 3, (0, 54, 0, [])) := rfl
theorem l_By_order_19 : xlk (xm_cd m_By_order) 19 = some (.aload_n 0, 1, (0, 0, 0, [])) := rfl
theorem l_By_order_20 : xlk (xm_cd m_By_order) 20 = some (.getfield 15, 3, (106, 1, 0, [])) := rfl
theorem l_By_order_23 : xlk (xm_cd m_By_order) 23 = some (.iload_n 3, 1, (0, 0, 0, [])) := rfl
theorem l_By_order_24 : xlk (xm_cd m_By_order) 24 = some (.iaload, 1, (0, 0, 0, [])) := rfl
theorem l_By_order_25 : xlk (xm_cd m_By_order) 25 = some (.aload_n 1, 1, (0, 0, 0, [])) := rfl
theorem l_By_order_26 : xlk (xm_cd m_By_order) 26 = some (.getfield 15, 3, (106, 1, 0, [])) := rfl
theorem l_By_order_29 : xlk (xm_cd m_By_order) 29 = some (.iload_n 3, 1, (0, 0, 0, [])) := rfl
theorem l_By_order_30 : xlk (xm_cd m_By_order) 30 = some (.iaload, 1, (0, 0, 0, [])) := rfl
theorem l_By_order_31 : xlk (xm_cd m_By_order) 31 = some (.if_icmp .eq 17, 3, (0, 48, 0, [])) := rfl
theorem l_By_order_34 : xlk (xm_cd m_By_order) 34 = some (.aload_n 0, 1, (0, 0, 0, [])) := rfl
theorem l_By_order_35 : xlk (xm_cd m_By_order) 35 = some (.getfield 15, 3, (106, 1, 0, [])) := rfl
theorem l_By_order_38 : xlk (xm_cd m_By_order) 38 = some (.iload_n 3, 1, (0, 0, 0, [])) := rfl
theorem l_By_order_39 : xlk (xm_cd m_By_order) 39 = some (.iaload, 1, (0, 0, 0, [])) := rfl
theorem l_By_order_40 : xlk (xm_cd m_By_order) 40 = some (.aload_n 1, 1, (0, 0, 0, [])) := rfl
theorem l_By_order_41 : xlk (xm_cd m_By_order) 41 = some (.getfield 15, 3, (106, 1, 0, [])) := rfl
theorem l_By_order_44 : xlk (xm_cd m_By_order) 44 = some (.iload_n 3, 1, (0, 0, 0, [])) := rfl
theorem l_By_order_45 : xlk (xm_cd m_By_order) 45 = some (.iaload, 1, (0, 0, 0, [])) := rfl
theorem l_By_order_46 : xlk (xm_cd m_By_order) 46 = some (.isub, 1, (0, 0, 0, [])) := rfl
theorem l_By_order_47 : xlk (xm_cd m_By_order) 47 = some (.ireturn, 1, (0, 0, 0, [])) := rfl
theorem l_By_order_48 : xlk (xm_cd m_By_order) 48 = some (.iinc 3 1, 3, (0, 0, 0, [])) := rfl
theorem l_By_order_51 : xlk (xm_cd m_By_order) 51 = some (.goto (-37), 3, (0, 14, 0, [])) := rfl
theorem l_By_order_54 : xlk (xm_cd m_By_order) 54 = some (.aload_n 0, 1, (0, 0, 0, [])) := rfl
theorem l_By_order_55 : xlk (xm_cd m_By_order) 55 = some (.getfield 21, 3, (107, 1, 1, [])) := rfl
theorem l_By_order_58 : xlk (xm_cd m_By_order) 58 = some (.aload_n 1, 1, (0, 0, 0, [])) := rfl
theorem l_By_order_59 : xlk (xm_cd m_By_order) 59 = some (.getfield 21, 3, (107, 1, 1, [])) := rfl
theorem l_By_order_62 : xlk (xm_cd m_By_order) 62 = some (.isub, 1, (0, 0, 0, [])) := rfl
theorem l_By_order_63 : xlk (xm_cd m_By_order) 63 = some (.ireturn, 1, (0, 0, 0, [])) := rfl
def B_By_order_0 (d : Nat) (E : Option Value → xH → Prop) (f : xH) (a0 : Nat) (a1 : Nat) : Prop :=
  xgi f a0 1 1 (fun v1 => xgi f a1 1 1 (fun v2 => xWp (xT0, xSp xT0 d, none, m_By_order, E) 14 [some (.ref a0), some (.ref a1), some (.int (if v2 < v1 then v2 else v1)), some (.int 0)] [] f 0 0))
theorem b_By_order_0 {d : Nat} {E : Option Value → xH → Prop} {f : xH} {a0 : Nat} {a1 : Nat} (h : B_By_order_0 d E f a0 a1) : xWp (xT0, xSp xT0 d, none, m_By_order, E) 0 [some (.ref a0), some (.ref a1), none, none] [] f 0 0 := by
  unfold B_By_order_0 at h
  refine s_aln l_By_order_0 rfl ?_
  refine s_gi l_By_order_1 h (fun v1 h => ?_)
  refine s_aln l_By_order_4 rfl ?_
  refine s_gi l_By_order_5 h (fun v2 h => ?_)
  refine s_min l_By_order_8 (Nat.le_of_ble_eq_true rfl) ⟨Nat.zero_le _, Nat.zero_le _⟩ ?_
  refine s_isn l_By_order_11 (Nat.le_of_ble_eq_true rfl) ?_
  refine s_ic 0 l_By_order_12 rfl ?_
  refine s_isn l_By_order_13 (Nat.le_of_ble_eq_true rfl) ?_
  exact h
def B_By_order_14 (d : Nat) (E : Option Value → xH → Prop) (f : xH) (a0 : Nat) (a1 : Nat) (x2 : Int32) (x3 : Int32) : Prop :=
  xbr (x2 ≤ x3) (xgi f a0 1 1 (fun v1 => xgi f a1 1 1 (fun v2 => E (some (.int (v1 - v2))) f))) (xgr f a0 1 0 (fun r3 => xal f r3 0 x3 (fun v4 => xgr f a1 1 0 (fun r5 => xal f r5 0 x3 (fun v6 => xbr (v4 = v6) (xWp (xT0, xSp xT0 d, none, m_By_order, E) 14 [some (.ref a0), some (.ref a1), some (.int x2), some (.int (x3 + 1))] [] f 0 0) (xgr f a0 1 0 (fun r7 => xal f r7 0 x3 (fun v8 => xgr f a1 1 0 (fun r9 => xal f r9 0 x3 (fun v10 => E (some (.int (v8 - v10))) f))))))))))
theorem b_By_order_14 {d : Nat} {E : Option Value → xH → Prop} {f : xH} {a0 : Nat} {a1 : Nat} {x2 : Int32} {x3 : Int32} (h : B_By_order_14 d E f a0 a1 x2 x3) : xWp (xT0, xSp xT0 d, none, m_By_order, E) 14 [some (.ref a0), some (.ref a1), some (.int x2), some (.int x3)] [] f 0 0 := by
  unfold B_By_order_14 at h
  refine s_iln l_By_order_14 rfl ?_
  refine s_iln l_By_order_15 rfl ?_
  refine s_ifc l_By_order_16 h (fun h => ?_) (fun h => ?_)
  · refine s_aln l_By_order_54 rfl ?_
    refine s_gi l_By_order_55 h (fun v1 h => ?_)
    refine s_aln l_By_order_58 rfl ?_
    refine s_gi l_By_order_59 h (fun v2 h => ?_)
    refine s_isub l_By_order_62 ?_
    exact s_iret l_By_order_63 rfl ⟨Nat.zero_le _, Nat.zero_le _⟩ h
  · refine s_aln l_By_order_19 rfl ?_
    refine s_gr l_By_order_20 h (fun r3 h => ?_)
    refine s_iln l_By_order_23 rfl ?_
    refine s_ial l_By_order_24 rfl h (fun v4 h => ?_)
    refine s_aln l_By_order_25 rfl ?_
    refine s_gr l_By_order_26 h (fun r5 h => ?_)
    refine s_iln l_By_order_29 rfl ?_
    refine s_ial l_By_order_30 rfl h (fun v6 h => ?_)
    refine s_ifc l_By_order_31 h (fun h => ?_) (fun h => ?_)
    · refine s_inc 1 l_By_order_48 rfl rfl ?_
      refine s_goto l_By_order_51 ?_
      exact h
    · refine s_aln l_By_order_34 rfl ?_
      refine s_gr l_By_order_35 h (fun r7 h => ?_)
      refine s_iln l_By_order_38 rfl ?_
      refine s_ial l_By_order_39 rfl h (fun v8 h => ?_)
      refine s_aln l_By_order_40 rfl ?_
      refine s_gr l_By_order_41 h (fun r9 h => ?_)
      refine s_iln l_By_order_44 rfl ?_
      refine s_ial l_By_order_45 rfl h (fun v10 h => ?_)
      refine s_isub l_By_order_46 ?_
      exact s_iret l_By_order_47 rfl ⟨Nat.zero_le _, Nat.zero_le _⟩ h
theorem l_By_isAbove_0 : xlk (xm_cd m_By_isAbove) 0 = some (.aload_n 0, 1, (0, 0, 0, [])) := rfl
theorem l_By_isAbove_1 : xlk (xm_cd m_By_isAbove) 1 = some (.getfield 21, 3, (107, 1, 1, [])) := rfl
theorem l_By_isAbove_4 : xlk (xm_cd m_By_isAbove) 4 = some (.aload_n 1, 1, (0, 0, 0, [])) := rfl
theorem l_By_isAbove_5 : xlk (xm_cd m_By_isAbove) 5 = some (.getfield 21, 3, (107, 1, 1, [])) := rfl
theorem l_By_isAbove_8 : xlk (xm_cd m_By_isAbove) 8 = some (.if_icmp .ge 17, 3, (0, 25, 0, [])) := rfl
theorem l_By_isAbove_11 : xlk (xm_cd m_By_isAbove) 11 = some (.aload_n 1, 1, (0, 0, 0, [])) := rfl
theorem l_By_isAbove_12 : xlk (xm_cd m_By_isAbove) 12 = some (.getfield 15, 3, (106, 1, 0, [])) := rfl
theorem l_By_isAbove_15 : xlk (xm_cd m_By_isAbove) 15 = some (.aload_n 0, 1, (0, 0, 0, [])) := rfl
theorem l_By_isAbove_16 : xlk (xm_cd m_By_isAbove) 16 = some (.getfield 21, 3, (107, 1, 1, [])) := rfl
theorem l_By_isAbove_19 : xlk (xm_cd m_By_isAbove) 19 = some (.iaload, 1, (0, 0, 0, [])) := rfl
theorem l_By_isAbove_20 : xlk (xm_cd m_By_isAbove) 20 = some (.bipush 47, 2, (0, 0, 0, [])) := rfl
theorem l_By_isAbove_22 : xlk (xm_cd m_By_isAbove) 22 = some (.if_icmp .eq 5, 3, (0, 27, 0, [])) := rfl
theorem l_By_isAbove_25 : xlk (xm_cd m_By_isAbove) 25 = some (.iconst 0, 1, (0, 0, 0, [])) := rfl
theorem l_By_isAbove_26 : xlk (xm_cd m_By_isAbove) 26 = some (.ireturn, 1, (0, 0, 0, [])) := rfl
theorem l_By_isAbove_27 : xlk (xm_cd m_By_isAbove) 27 = some (.iconst 0, 1, (0, 0, 0, [])) := rfl
theorem l_By_isAbove_28 : xlk (xm_cd m_By_isAbove) 28 = some (.istore_n 2, 1, (0, 0, 0, [])) := rfl
theorem l_By_isAbove_29 : xlk (xm_cd m_By_isAbove) 29 = some (.iload_n 2, 1, (0, 0, 0, [])) := rfl
theorem l_By_isAbove_30 : xlk (xm_cd m_By_isAbove) 30 = some (.aload_n 0, 1, (0, 0, 0, [])) := rfl
theorem l_By_isAbove_31 : xlk (xm_cd m_By_isAbove) 31 = some (.getfield 21, 3, (107, 1, 1, [])) := rfl
theorem l_By_isAbove_34 : xlk (xm_cd m_By_isAbove) 34 = some (.if_icmp .ge 26, 3, (0, 60, 0, [])) := rfl
theorem l_By_isAbove_37 : xlk (xm_cd m_By_isAbove) 37 = some (.aload_n 0, 1, (0, 0, 0, [])) := rfl
theorem l_By_isAbove_38 : xlk (xm_cd m_By_isAbove) 38 = some (.getfield 15, 3, (106, 1, 0, [])) := rfl
theorem l_By_isAbove_41 : xlk (xm_cd m_By_isAbove) 41 = some (.iload_n 2, 1, (0, 0, 0, [])) := rfl
theorem l_By_isAbove_42 : xlk (xm_cd m_By_isAbove) 42 = some (.iaload, 1, (0, 0, 0, [])) := rfl
theorem l_By_isAbove_43 : xlk (xm_cd m_By_isAbove) 43 = some (.aload_n 1, 1, (0, 0, 0, [])) := rfl
theorem l_By_isAbove_44 : xlk (xm_cd m_By_isAbove) 44 = some (.getfield 15, 3, (106, 1, 0, [])) := rfl
theorem l_By_isAbove_47 : xlk (xm_cd m_By_isAbove) 47 = some (.iload_n 2, 1, (0, 0, 0, [])) := rfl
theorem l_By_isAbove_48 : xlk (xm_cd m_By_isAbove) 48 = some (.iaload, 1, (0, 0, 0, [])) := rfl
theorem l_By_isAbove_49 : xlk (xm_cd m_By_isAbove) 49 = some (.if_icmp .eq 5, 3, (0, 54, 0, [])) := rfl
theorem l_By_isAbove_52 : xlk (xm_cd m_By_isAbove) 52 = some (.iconst 0, 1, (0, 0, 0, [])) := rfl
theorem l_By_isAbove_53 : xlk (xm_cd m_By_isAbove) 53 = some (.ireturn, 1, (0, 0, 0, [])) := rfl
theorem l_By_isAbove_54 : xlk (xm_cd m_By_isAbove) 54 = some (.iinc 2 1, 3, (0, 0, 0, [])) := rfl
theorem l_By_isAbove_57 : xlk (xm_cd m_By_isAbove) 57 = some (.goto (-28), 3, (0, 29, 0, [])) := rfl
theorem l_By_isAbove_60 : xlk (xm_cd m_By_isAbove) 60 = some (.iconst 1, 1, (0, 0, 0, [])) := rfl
theorem l_By_isAbove_61 : xlk (xm_cd m_By_isAbove) 61 = some (.ireturn, 1, (0, 0, 0, [])) := rfl
def B_By_isAbove_0 (d : Nat) (E : Option Value → xH → Prop) (f : xH) (a0 : Nat) (a1 : Nat) : Prop :=
  xgi f a0 1 1 (fun v1 => xgi f a1 1 1 (fun v2 => xbr (v2 ≤ v1) (E (some (.int 0)) f) (xgr f a1 1 0 (fun r3 => xgi f a0 1 1 (fun v4 => xal f r3 0 v4 (fun v5 => xbr (v5 = 47) (xWp (xT0, xSp xT0 d, none, m_By_isAbove, E) 29 [some (.ref a0), some (.ref a1), some (.int 0)] [] f 0 0) (E (some (.int 0)) f)))))))
theorem b_By_isAbove_0 {d : Nat} {E : Option Value → xH → Prop} {f : xH} {a0 : Nat} {a1 : Nat} (h : B_By_isAbove_0 d E f a0 a1) : xWp (xT0, xSp xT0 d, none, m_By_isAbove, E) 0 [some (.ref a0), some (.ref a1), none] [] f 0 0 := by
  unfold B_By_isAbove_0 at h
  refine s_aln l_By_isAbove_0 rfl ?_
  refine s_gi l_By_isAbove_1 h (fun v1 h => ?_)
  refine s_aln l_By_isAbove_4 rfl ?_
  refine s_gi l_By_isAbove_5 h (fun v2 h => ?_)
  refine s_ifc l_By_isAbove_8 h (fun h => ?_) (fun h => ?_)
  · refine s_ic 0 l_By_isAbove_25 rfl ?_
    exact s_zret l_By_isAbove_26 rfl ⟨Nat.zero_le _, Nat.zero_le _⟩ ⟨Or.inl rfl, h⟩
  · refine s_aln l_By_isAbove_11 rfl ?_
    refine s_gr l_By_isAbove_12 h (fun r3 h => ?_)
    refine s_aln l_By_isAbove_15 rfl ?_
    refine s_gi l_By_isAbove_16 h (fun v4 h => ?_)
    refine s_ial l_By_isAbove_19 rfl h (fun v5 h => ?_)
    refine s_bp 47 l_By_isAbove_20 rfl ?_
    refine s_ifc l_By_isAbove_22 h (fun h => ?_) (fun h => ?_)
    · refine s_ic 0 l_By_isAbove_27 rfl ?_
      refine s_isn l_By_isAbove_28 (Nat.le_of_ble_eq_true rfl) ?_
      exact h
    · refine s_ic 0 l_By_isAbove_25 rfl ?_
      exact s_zret l_By_isAbove_26 rfl ⟨Nat.zero_le _, Nat.zero_le _⟩ ⟨Or.inl rfl, h⟩
def B_By_isAbove_29 (d : Nat) (E : Option Value → xH → Prop) (f : xH) (a0 : Nat) (a1 : Nat) (x2 : Int32) : Prop :=
  xgi f a0 1 1 (fun v1 => xbr (v1 ≤ x2) (E (some (.int 1)) f) (xgr f a0 1 0 (fun r2 => xal f r2 0 x2 (fun v3 => xgr f a1 1 0 (fun r4 => xal f r4 0 x2 (fun v5 => xbr (v3 = v5) (xWp (xT0, xSp xT0 d, none, m_By_isAbove, E) 29 [some (.ref a0), some (.ref a1), some (.int (x2 + 1))] [] f 0 0) (E (some (.int 0)) f)))))))
theorem b_By_isAbove_29 {d : Nat} {E : Option Value → xH → Prop} {f : xH} {a0 : Nat} {a1 : Nat} {x2 : Int32} (h : B_By_isAbove_29 d E f a0 a1 x2) : xWp (xT0, xSp xT0 d, none, m_By_isAbove, E) 29 [some (.ref a0), some (.ref a1), some (.int x2)] [] f 0 0 := by
  unfold B_By_isAbove_29 at h
  refine s_iln l_By_isAbove_29 rfl ?_
  refine s_aln l_By_isAbove_30 rfl ?_
  refine s_gi l_By_isAbove_31 h (fun v1 h => ?_)
  refine s_ifc l_By_isAbove_34 h (fun h => ?_) (fun h => ?_)
  · refine s_ic 1 l_By_isAbove_60 rfl ?_
    exact s_zret l_By_isAbove_61 rfl ⟨Nat.zero_le _, Nat.zero_le _⟩ ⟨Or.inr rfl, h⟩
  · refine s_aln l_By_isAbove_37 rfl ?_
    refine s_gr l_By_isAbove_38 h (fun r2 h => ?_)
    refine s_iln l_By_isAbove_41 rfl ?_
    refine s_ial l_By_isAbove_42 rfl h (fun v3 h => ?_)
    refine s_aln l_By_isAbove_43 rfl ?_
    refine s_gr l_By_isAbove_44 h (fun r4 h => ?_)
    refine s_iln l_By_isAbove_47 rfl ?_
    refine s_ial l_By_isAbove_48 rfl h (fun v5 h => ?_)
    refine s_ifc l_By_isAbove_49 h (fun h => ?_) (fun h => ?_)
    · refine s_inc 1 l_By_isAbove_54 rfl rfl ?_
      refine s_goto l_By_isAbove_57 ?_
      exact h
    · refine s_ic 0 l_By_isAbove_52 rfl ?_
      exact s_zret l_By_isAbove_53 rfl ⟨Nat.zero_le _, Nat.zero_le _⟩ ⟨Or.inl rfl, h⟩
theorem l_By_sum_0 : xlk (xm_cd m_By_sum) 0 = some (.sipush 5381, 3, (0, 0, 0, [])) := rfl
theorem l_By_sum_3 : xlk (xm_cd m_By_sum) 3 = some (.istore_n 1, 1, (0, 0, 0, [])) := rfl
theorem l_By_sum_4 : xlk (xm_cd m_By_sum) 4 = some (.iconst 0, 1, (0, 0, 0, [])) := rfl
theorem l_By_sum_5 : xlk (xm_cd m_By_sum) 5 = some (.istore_n 2, 1, (0, 0, 0, [])) := rfl
theorem l_By_sum_6 : xlk (xm_cd m_By_sum) 6 = some (.iload_n 2, 1, (0, 0, 0, [])) := rfl
theorem l_By_sum_7 : xlk (xm_cd m_By_sum) 7 = some (.aload_n 0, 1, (0, 0, 0, [])) := rfl
theorem l_By_sum_8 : xlk (xm_cd m_By_sum) 8 = some (.getfield 21, 3, (107, 1, 1, [])) := rfl
theorem l_By_sum_11 : xlk (xm_cd m_By_sum) 11 = some (.if_icmp .ge 24, 3, (0, 35, 0, [])) := rfl
theorem l_By_sum_14 : xlk (xm_cd m_By_sum) 14 = some (.bipush 33, 2, (0, 0, 0, [])) := rfl
theorem l_By_sum_16 : xlk (xm_cd m_By_sum) 16 = some (.iload_n 1, 1, (0, 0, 0, [])) := rfl
theorem l_By_sum_17 : xlk (xm_cd m_By_sum) 17 = some (.imul, 1, (0, 0, 0, [])) := rfl
theorem l_By_sum_18 : xlk (xm_cd m_By_sum) 18 = some (.aload_n 0, 1, (0, 0, 0, [])) := rfl
theorem l_By_sum_19 : xlk (xm_cd m_By_sum) 19 = some (.getfield 15, 3, (106, 1, 0, [])) := rfl
theorem l_By_sum_22 : xlk (xm_cd m_By_sum) 22 = some (.iload_n 2, 1, (0, 0, 0, [])) := rfl
theorem l_By_sum_23 : xlk (xm_cd m_By_sum) 23 = some (.iaload, 1, (0, 0, 0, [])) := rfl
theorem l_By_sum_24 : xlk (xm_cd m_By_sum) 24 = some (.ixor, 1, (0, 0, 0, [])) := rfl
theorem l_By_sum_25 : xlk (xm_cd m_By_sum) 25 = some (.ldc 36, 2, (406, 0, 0, [(65535, 0)])) := rfl
theorem l_By_sum_27 : xlk (xm_cd m_By_sum) 27 = some (.iand, 1, (0, 0, 0, [])) := rfl
theorem l_By_sum_28 : xlk (xm_cd m_By_sum) 28 = some (.istore_n 1, 1, (0, 0, 0, [])) := rfl
theorem l_By_sum_29 : xlk (xm_cd m_By_sum) 29 = some (.iinc 2 1, 3, (0, 0, 0, [])) := rfl
theorem l_By_sum_32 : xlk (xm_cd m_By_sum) 32 = some (.goto (-26), 3, (0, 6, 0, [])) := rfl
theorem l_By_sum_35 : xlk (xm_cd m_By_sum) 35 = some (.iload_n 1, 1, (0, 0, 0, [])) := rfl
theorem l_By_sum_36 : xlk (xm_cd m_By_sum) 36 = some (.ireturn, 1, (0, 0, 0, [])) := rfl
def B_By_sum_0 (d : Nat) (E : Option Value → xH → Prop) (f : xH) (a0 : Nat) : Prop :=
  xWp (xT0, xSp xT0 d, none, m_By_sum, E) 6 [some (.ref a0), some (.int 5381), some (.int 0)] [] f 0 0
theorem b_By_sum_0 {d : Nat} {E : Option Value → xH → Prop} {f : xH} {a0 : Nat} (h : B_By_sum_0 d E f a0) : xWp (xT0, xSp xT0 d, none, m_By_sum, E) 0 [some (.ref a0), none, none] [] f 0 0 := by
  unfold B_By_sum_0 at h
  refine s_sp 5381 l_By_sum_0 rfl ?_
  refine s_isn l_By_sum_3 (Nat.le_of_ble_eq_true rfl) ?_
  refine s_ic 0 l_By_sum_4 rfl ?_
  refine s_isn l_By_sum_5 (Nat.le_of_ble_eq_true rfl) ?_
  exact h
def B_By_sum_6 (d : Nat) (E : Option Value → xH → Prop) (f : xH) (a0 : Nat) (x1 : Int32) (x2 : Int32) : Prop :=
  xgi f a0 1 1 (fun v1 => xbr (v1 ≤ x2) (E (some (.int x1)) f) (xgr f a0 1 0 (fun r2 => xal f r2 0 x2 (fun v3 => xWp (xT0, xSp xT0 d, none, m_By_sum, E) 6 [some (.ref a0), some (.int (((33 * x1) ^^^ v3) &&& 65535)), some (.int (x2 + 1))] [] f 0 0))))
theorem b_By_sum_6 {d : Nat} {E : Option Value → xH → Prop} {f : xH} {a0 : Nat} {x1 : Int32} {x2 : Int32} (h : B_By_sum_6 d E f a0 x1 x2) : xWp (xT0, xSp xT0 d, none, m_By_sum, E) 6 [some (.ref a0), some (.int x1), some (.int x2)] [] f 0 0 := by
  unfold B_By_sum_6 at h
  refine s_iln l_By_sum_6 rfl ?_
  refine s_aln l_By_sum_7 rfl ?_
  refine s_gi l_By_sum_8 h (fun v1 h => ?_)
  refine s_ifc l_By_sum_11 h (fun h => ?_) (fun h => ?_)
  · refine s_iln l_By_sum_35 rfl ?_
    exact s_iret l_By_sum_36 rfl ⟨Nat.zero_le _, Nat.zero_le _⟩ h
  · refine s_bp 33 l_By_sum_14 rfl ?_
    refine s_iln l_By_sum_16 rfl ?_
    refine s_imul l_By_sum_17 ?_
    refine s_aln l_By_sum_18 rfl ?_
    refine s_gr l_By_sum_19 h (fun r2 h => ?_)
    refine s_iln l_By_sum_22 rfl ?_
    refine s_ial l_By_sum_23 rfl h (fun v3 h => ?_)
    refine s_ixor l_By_sum_24 ?_
    refine s_ldc 65535 l_By_sum_25 rfl ?_
    refine s_iand l_By_sum_27 ?_
    refine s_isn l_By_sum_28 (Nat.le_of_ble_eq_true rfl) ?_
    refine s_inc 1 l_By_sum_29 rfl rfl ?_
    refine s_goto l_By_sum_32 ?_
    exact h
theorem l_By_at_0 : xlk (xm_cd m_By_at) 0 = some (.iload_n 1, 1, (0, 0, 0, [])) := rfl
theorem l_By_at_1 : xlk (xm_cd m_By_at) 1 = some (.ifCond .lt 20, 3, (0, 21, 0, [])) := rfl
theorem l_By_at_4 : xlk (xm_cd m_By_at) 4 = some (.iload_n 1, 1, (0, 0, 0, [])) := rfl
theorem l_By_at_5 : xlk (xm_cd m_By_at) 5 = some (.aload_n 0, 1, (0, 0, 0, [])) := rfl
theorem l_By_at_6 : xlk (xm_cd m_By_at) 6 = some (.getfield 21, 3, (107, 1, 1, [])) := rfl
theorem l_By_at_9 : xlk (xm_cd m_By_at) 9 = some (.if_icmp .ge 12, 3, (0, 21, 0, [])) := rfl
theorem l_By_at_12 : xlk (xm_cd m_By_at) 12 = some (.aload_n 0, 1, (0, 0, 0, [])) := rfl
theorem l_By_at_13 : xlk (xm_cd m_By_at) 13 = some (.getfield 15, 3, (106, 1, 0, [])) := rfl
theorem l_By_at_16 : xlk (xm_cd m_By_at) 16 = some (.iload_n 1, 1, (0, 0, 0, [])) := rfl
theorem l_By_at_17 : xlk (xm_cd m_By_at) 17 = some (.iaload, 1, (0, 0, 0, [])) := rfl
theorem l_By_at_18 : xlk (xm_cd m_By_at) 18 = some (.goto 4, 3, (0, 22, 0, [])) := rfl
theorem l_By_at_21 : xlk (xm_cd m_By_at) 21 = some (.iconst (-1), 1, (0, 0, 0, [])) := rfl
theorem l_By_at_22 : xlk (xm_cd m_By_at) 22 = some (.ireturn, 1, (0, 0, 0, [])) := rfl
def B_By_at_0 (d : Nat) (E : Option Value → xH → Prop) (f : xH) (a0 : Nat) (x1 : Int32) : Prop :=
  xbr (x1 < 0) (E (some (.int (-1))) f) (xgi f a0 1 1 (fun v1 => xbr (v1 ≤ x1) (E (some (.int (-1))) f) (xgr f a0 1 0 (fun r2 => xal f r2 0 x1 (fun v3 => E (some (.int v3)) f)))))
theorem b_By_at_0 {d : Nat} {E : Option Value → xH → Prop} {f : xH} {a0 : Nat} {x1 : Int32} (h : B_By_at_0 d E f a0 x1) : xWp (xT0, xSp xT0 d, none, m_By_at, E) 0 [some (.ref a0), some (.int x1)] [] f 0 0 := by
  unfold B_By_at_0 at h
  refine s_iln l_By_at_0 rfl ?_
  refine s_if l_By_at_1 h (fun h => ?_) (fun h => ?_)
  · refine s_ic (-1) l_By_at_21 rfl ?_
    exact s_iret l_By_at_22 rfl ⟨Nat.zero_le _, Nat.zero_le _⟩ h
  · refine s_iln l_By_at_4 rfl ?_
    refine s_aln l_By_at_5 rfl ?_
    refine s_gi l_By_at_6 h (fun v1 h => ?_)
    refine s_ifc l_By_at_9 h (fun h => ?_) (fun h => ?_)
    · refine s_ic (-1) l_By_at_21 rfl ?_
      exact s_iret l_By_at_22 rfl ⟨Nat.zero_le _, Nat.zero_le _⟩ h
    · refine s_aln l_By_at_12 rfl ?_
      refine s_gr l_By_at_13 h (fun r2 h => ?_)
      refine s_iln l_By_at_16 rfl ?_
      refine s_ial l_By_at_17 rfl h (fun v3 h => ?_)
      refine s_goto l_By_at_18 ?_
      exact s_iret l_By_at_22 rfl ⟨Nat.zero_le _, Nat.zero_le _⟩ h
