/-! blocks of Mo, 4 -/
theorem l_Mo_noPatch_0 : xlk (xm_cd m_Mo_noPatch) 0 = some (.iload_n 1, 1, (0, 0, 0, [])) := rfl
theorem l_Mo_noPatch_1 : xlk (xm_cd m_Mo_noPatch) 1 = some (.i2l, 1, (0, 0, 0, [])) := rfl
theorem l_Mo_noPatch_2 : xlk (xm_cd m_Mo_noPatch) 2 = some (.lconst 0, 1, (0, 0, 0, [])) := rfl
theorem l_Mo_noPatch_3 : xlk (xm_cd m_Mo_noPatch) 3 = some (.aload_n 0, 1, (0, 0, 0, [])) := rfl
theorem l_Mo_noPatch_4 : xlk (xm_cd m_Mo_noPatch) 4 = some (.getfield 198, 3, (872, 11, 23, [])) := rfl
theorem l_Mo_noPatch_7 : xlk (xm_cd m_Mo_noPatch) 7 = some (.iconst 1, 1, (0, 0, 0, [])) := rfl
theorem l_Mo_noPatch_8 : xlk (xm_cd m_Mo_noPatch) 8 = some (.isub, 1, (0, 0, 0, [])) := rfl
theorem l_Mo_noPatch_9 : xlk (xm_cd m_Mo_noPatch) 9 = some (.i2l, 1, (0, 0, 0, [])) := rfl
theorem l_Mo_noPatch_10 : xlk (xm_cd m_Mo_noPatch) 10 = some (.invokestatic 132, 3, (955, 0, 0, [(2, 2)])) := rfl
theorem l_Mo_noPatch_13 : xlk (xm_cd m_Mo_noPatch) 13 = some (.ifCond .ne 7, 3, (0, 20, 0, [])) := rfl
theorem l_Mo_noPatch_16 : xlk (xm_cd m_Mo_noPatch) 16 = some (.iconst 1, 1, (0, 0, 0, [])) := rfl
theorem l_Mo_noPatch_17 : xlk (xm_cd m_Mo_noPatch) 17 = some (.goto 4, 3, (0, 21, 0, [])) := rfl
theorem l_Mo_noPatch_20 : xlk (xm_cd m_Mo_noPatch) 20 = some (.iconst 0, 1, (0, 0, 0, [])) := rfl
theorem l_Mo_noPatch_21 : xlk (xm_cd m_Mo_noPatch) 21 = some (.ireturn, 1, (0, 0, 0, [])) := rfl
def B_Mo_noPatch_0 (d : Nat) (E : Option Value → xH → Prop) (f : xH) (a0 : Nat) (x1 : Int32) : Prop :=
  xgi f a0 11 23 (fun v1 => xbr (¬ (if (0 : Int64) ≤ x1.toInt64 ∧ x1.toInt64 ≤ (v1 - 1).toInt64 then 1 else 0) = 0) (E (some (.int 0)) f) (E (some (.int 1)) f))
theorem b_Mo_noPatch_0 {d : Nat} {E : Option Value → xH → Prop} {f : xH} {a0 : Nat} {x1 : Int32} (h : B_Mo_noPatch_0 d E f a0 x1) : xWp (xT0, xSp xT0 d, none, m_Mo_noPatch, E) 0 [some (.ref a0), some (.int x1)] [] f 0 0 := by
  unfold B_Mo_noPatch_0 at h
  refine s_iln l_Mo_noPatch_0 rfl ?_
  refine s_i2l l_Mo_noPatch_1 ?_
  refine s_lc 0 l_Mo_noPatch_2 rfl ?_
  refine s_aln l_Mo_noPatch_3 rfl ?_
  refine s_gi l_Mo_noPatch_4 h (fun v1 h => ?_)
  refine s_ic 1 l_Mo_noPatch_7 rfl ?_
  refine s_isub l_Mo_noPatch_8 ?_
  refine s_i2l l_Mo_noPatch_9 ?_
  refine s_in l_Mo_noPatch_10 (Nat.le_of_ble_eq_true rfl) ⟨Nat.zero_le _, Nat.zero_le _⟩ ?_
  refine s_if l_Mo_noPatch_13 h (fun h => ?_) (fun h => ?_)
  · refine s_ic 0 l_Mo_noPatch_20 rfl ?_
    exact s_zret l_Mo_noPatch_21 rfl ⟨Nat.zero_le _, Nat.zero_le _⟩ ⟨Or.inl rfl, h⟩
  · refine s_ic 1 l_Mo_noPatch_16 rfl ?_
    refine s_goto l_Mo_noPatch_17 ?_
    exact s_zret l_Mo_noPatch_21 rfl ⟨Nat.zero_le _, Nat.zero_le _⟩ ⟨Or.inr rfl, h⟩
theorem l_Mo_bytesOf_0 : xlk (xm_cd m_Mo_bytesOf) 0 = some (.iload_n 0, 1, (0, 0, 0, [])) := rfl
theorem l_Mo_bytesOf_1 : xlk (xm_cd m_Mo_bytesOf) 1 = some (.ifCond .ge 7, 3, (0, 8, 0, [])) := rfl
theorem l_Mo_bytesOf_4 : xlk (xm_cd m_Mo_bytesOf) 4 = some (.iconst 0, 1, (0, 0, 0, [])) := rfl
theorem l_Mo_bytesOf_5 : xlk (xm_cd m_Mo_bytesOf) 5 = some (.goto 4, 3, (0, 9, 0, [])) := rfl
theorem l_Mo_bytesOf_8 : xlk (xm_cd m_Mo_bytesOf) 8 = some (.iload_n 0, 1, (0, 0, 0, [])) := rfl
theorem l_Mo_bytesOf_9 : xlk (xm_cd m_Mo_bytesOf) 9 = some (.ireturn, 1, (0, 0, 0, [])) := rfl
def B_Mo_bytesOf_0 (d : Nat) (E : Option Value → xH → Prop) (f : xH) (x0 : Int32) : Prop :=
  xbr ((0 : Int32) ≤ x0) (E (some (.int x0)) f) (E (some (.int 0)) f)
theorem b_Mo_bytesOf_0 {d : Nat} {E : Option Value → xH → Prop} {f : xH} {x0 : Int32} (h : B_Mo_bytesOf_0 d E f x0) : xWp (xT0, xSp xT0 d, none, m_Mo_bytesOf, E) 0 [some (.int x0)] [] f 0 0 := by
  unfold B_Mo_bytesOf_0 at h
  refine s_iln l_Mo_bytesOf_0 rfl ?_
  refine s_if l_Mo_bytesOf_1 h (fun h => ?_) (fun h => ?_)
  · refine s_iln l_Mo_bytesOf_8 rfl ?_
    exact s_iret l_Mo_bytesOf_9 rfl ⟨Nat.zero_le _, Nat.zero_le _⟩ h
  · refine s_ic 0 l_Mo_bytesOf_4 rfl ?_
    refine s_goto l_Mo_bytesOf_5 ?_
    exact s_iret l_Mo_bytesOf_9 rfl ⟨Nat.zero_le _, Nat.zero_le _⟩ h
theorem l_Mo_pieces_0 : xlk (xm_cd m_Mo_pieces) 0 = some (.iconst 0, 1, (0, 0, 0, [])) := rfl
theorem l_Mo_pieces_1 : xlk (xm_cd m_Mo_pieces) 1 = some (.istore 5, 2, (0, 0, 0, [])) := rfl
theorem l_Mo_pieces_3 : xlk (xm_cd m_Mo_pieces) 3 = some (.aload_n 0, 1, (0, 0, 0, [])) := rfl
theorem l_Mo_pieces_4 : xlk (xm_cd m_Mo_pieces) 4 = some (.iconst 0, 1, (0, 0, 0, [])) := rfl
theorem l_Mo_pieces_5 : xlk (xm_cd m_Mo_pieces) 5 = some (.putfield 251, 3, (878, 11, 29, [(0, 0)])) := rfl
theorem l_Mo_pieces_8 : xlk (xm_cd m_Mo_pieces) 8 = some (.aload_n 0, 1, (0, 0, 0, [])) := rfl
theorem l_Mo_pieces_9 : xlk (xm_cd m_Mo_pieces) 9 = some (.iconst 0, 1, (0, 0, 0, [])) := rfl
theorem l_Mo_pieces_10 : xlk (xm_cd m_Mo_pieces) 10 = some (.putfield 254, 3, (879, 11, 30, [(0, 0)])) := rfl
theorem l_Mo_pieces_13 : xlk (xm_cd m_Mo_pieces) 13 = some (.iconst 0, 1, (0, 0, 0, [])) := rfl
theorem l_Mo_pieces_14 : xlk (xm_cd m_Mo_pieces) 14 = some (.istore 6, 2, (0, 0, 0, [])) := rfl
theorem l_Mo_pieces_16 : xlk (xm_cd m_Mo_pieces) 16 = some (.iload 6, 2, (0, 0, 0, [])) := rfl
theorem l_Mo_pieces_18 : xlk (xm_cd m_Mo_pieces) 18 = some (.iload_n 3, 1, (0, 0, 0, [])) := rfl
theorem l_Mo_pieces_19 : xlk (xm_cd m_Mo_pieces) 19 = some (.if_icmp .ge 129, 3, (0, 148, 0, [])) := rfl
theorem l_Mo_pieces_22 : xlk (xm_cd m_Mo_pieces) 22 = some (.aload_n 1, 1, (0, 0, 0, [])) := rfl
theorem l_Mo_pieces_23 : xlk (xm_cd m_Mo_pieces) 23 = some (.iload_n 2, 1, (0, 0, 0, [])) := rfl
theorem l_Mo_pieces_24 : xlk (xm_cd m_Mo_pieces) 24 = some (.iload 6, 2, (0, 0, 0, [])) := rfl
theorem l_Mo_pieces_26 : xlk (xm_cd m_Mo_pieces) 26 = some (.iadd, 1, (0, 0, 0, [])) := rfl
theorem l_Mo_pieces_27 : xlk (xm_cd m_Mo_pieces) 27 = some (.iaload, 1, (0, 0, 0, [])) := rfl
theorem l_Mo_pieces_28 : xlk (xm_cd m_Mo_pieces) 28 = some (.istore 7, 2, (0, 0, 0, [])) := rfl
theorem l_Mo_pieces_30 : xlk (xm_cd m_Mo_pieces) 30 = some (.iload 6, 2, (0, 0, 0, [])) := rfl
theorem l_Mo_pieces_32 : xlk (xm_cd m_Mo_pieces) 32 = some (.ifCond .le 14, 3, (0, 46, 0, [])) := rfl
theorem l_Mo_pieces_35 : xlk (xm_cd m_Mo_pieces) 35 = some (.aload_n 1, 1, (0, 0, 0, [])) := rfl
theorem l_Mo_pieces_36 : xlk (xm_cd m_Mo_pieces) 36 = some (.iload_n 2, 1, (0, 0, 0, [])) := rfl
theorem l_Mo_pieces_37 : xlk (xm_cd m_Mo_pieces) 37 = some (.iload 6, 2, (0, 0, 0, [])) := rfl
theorem l_Mo_pieces_39 : xlk (xm_cd m_Mo_pieces) 39 = some (.iadd, 1, (0, 0, 0, [])) := rfl
theorem l_Mo_pieces_40 : xlk (xm_cd m_Mo_pieces) 40 = some (.iconst 1, 1, (0, 0, 0, [])) := rfl
theorem l_Mo_pieces_41 : xlk (xm_cd m_Mo_pieces) 41 = some (.isub, 1, (0, 0, 0, [])) := rfl
theorem l_Mo_pieces_42 : xlk (xm_cd m_Mo_pieces) 42 = some (.iaload, 1, (0, 0, 0, [])) := rfl
theorem l_Mo_pieces_43 : xlk (xm_cd m_Mo_pieces) 43 = some (.goto 4, 3, (0, 47, 0, [])) := rfl
theorem l_Mo_pieces_46 : xlk (xm_cd m_Mo_pieces) 46 = some (.iconst 0, 1, (0, 0, 0, [])) := rfl
theorem l_Mo_pieces_47 : xlk (xm_cd m_Mo_pieces) 47 = some (.istore 8, 2, (0, 0, 0, [])) := rfl
theorem l_Mo_pieces_49 : xlk (xm_cd m_Mo_pieces) 49 = some (.iload 6, 2, (0, 0, 0, [])) := rfl
theorem l_Mo_pieces_51 : xlk (xm_cd m_Mo_pieces) 51 = some (.ifCond .le 34, 3, (0, 85, 0, [])) := rfl
theorem l_Mo_pieces_54 : xlk (xm_cd m_Mo_pieces) 54 = some (.iload 7, 2, (0, 0, 0, [])) := rfl
theorem l_Mo_pieces_56 : xlk (xm_cd m_Mo_pieces) 56 = some (.ifCond .ge 11, 3, (0, 67, 0, [])) := rfl
theorem l_Mo_pieces_59 : xlk (xm_cd m_Mo_pieces) 59 = some (.iload 8, 2, (0, 0, 0, [])) := rfl
theorem l_Mo_pieces_61 : xlk (xm_cd m_Mo_pieces) 61 = some (.ifCond .ge 24, 3, (0, 85, 0, [])) := rfl
theorem l_Mo_pieces_64 : xlk (xm_cd m_Mo_pieces) 64 = some (.goto 17, 3, (0, 81, 0, [])) := rfl
theorem l_Mo_pieces_67 : xlk (xm_cd m_Mo_pieces) 67 = some (.iload 8, 2, (0, 0, 0, [])) := rfl
theorem l_Mo_pieces_69 : xlk (xm_cd m_Mo_pieces) 69 = some (.ifCond .lt 16, 3, (0, 85, 0, [])) := rfl
theorem l_Mo_pieces_72 : xlk (xm_cd m_Mo_pieces) 72 = some (.iload 7, 2, (0, 0, 0, [])) := rfl
theorem l_Mo_pieces_74 : xlk (xm_cd m_Mo_pieces) 74 = some (.iload 8, 2, (0, 0, 0, [])) := rfl
theorem l_Mo_pieces_76 : xlk (xm_cd m_Mo_pieces) 76 = some (.iconst 1, 1, (0, 0, 0, [])) := rfl
theorem l_Mo_pieces_77 : xlk (xm_cd m_Mo_pieces) 77 = some (.iadd, 1, (0, 0, 0, [])) := rfl
theorem l_Mo_pieces_78 : xlk (xm_cd m_Mo_pieces) 78 = some (.if_icmp .ne 7, 3, (0, 85, 0, [])) := rfl
theorem l_Mo_pieces_81 : xlk (xm_cd m_Mo_pieces) 81 = some (.iconst 1, 1, (0, 0, 0, [])) := rfl
theorem l_Mo_pieces_82 : xlk (xm_cd m_Mo_pieces) 82 = some (.goto 4, 3, (0, 86, 0, [])) := rfl
theorem l_Mo_pieces_85 : xlk (xm_cd m_Mo_pieces) 85 = some (.iconst 0, 1, (0, 0, 0, [])) := rfl
theorem l_Mo_pieces_86 : xlk (xm_cd m_Mo_pieces) 86 = some (.istore 9, 2, (0, 0, 0, [])) := rfl
theorem l_Mo_pieces_88 : xlk (xm_cd m_Mo_pieces) 88 = some (.iload 9, 2, (0, 0, 0, [])) := rfl
theorem l_Mo_pieces_90 : xlk (xm_cd m_Mo_pieces) 90 = some (.ifCond .ne 28, 3, (0, 118, 0, [])) := rfl
theorem l_Mo_pieces_93 : xlk (xm_cd m_Mo_pieces) 93 = some (.iinc 5 1, 3, (0, 0, 0, [])) := rfl
theorem l_Mo_pieces_96 : xlk (xm_cd m_Mo_pieces) 96 = some (.aload_n 0, 1, (0, 0, 0, [])) := rfl
theorem l_Mo_pieces_97 : xlk (xm_cd m_Mo_pieces) 97 = some (.iload 5, 2, (0, 0, 0, [])) := rfl
theorem l_Mo_pieces_99 : xlk (xm_cd m_Mo_pieces) 99 = some (.iload 4, 2, (0, 0, 0, [])) := rfl
theorem l_Mo_pieces_101 : xlk (xm_cd m_Mo_pieces) 101 = some (.iconst 1, 1, (0, 0, 0, [])) := rfl
theorem l_Mo_pieces_102 : xlk (xm_cd m_Mo_pieces) 102 = some (.iadd, 1, (0, 0, 0, [])) := rfl
theorem l_Mo_pieces_103 : xlk (xm_cd m_Mo_pieces) 103 = some (.if_icmp .ne 8, 3, (0, 111, 0, [])) := rfl
theorem l_Mo_pieces_106 : xlk (xm_cd m_Mo_pieces) 106 = some (.iload 6, 2, (0, 0, 0, [])) := rfl
theorem l_Mo_pieces_108 : xlk (xm_cd m_Mo_pieces) 108 = some (.goto 7, 3, (0, 115, 0, [])) := rfl
theorem l_Mo_pieces_111 : xlk (xm_cd m_Mo_pieces) 111 = some (.aload_n 0, 1, (0, 0, 0, [])) := rfl
theorem l_Mo_pieces_112 : xlk (xm_cd m_Mo_pieces) 112 = some (.getfield 251, 3, (878, 11, 29, [])) := rfl
theorem l_Mo_pieces_115 : xlk (xm_cd m_Mo_pieces) 115 = some (.putfield 251, 3, (878, 11, 29, [(0, 0)])) := rfl
theorem l_Mo_pieces_118 : xlk (xm_cd m_Mo_pieces) 118 = some (.aload_n 0, 1, (0, 0, 0, [])) := rfl
theorem l_Mo_pieces_119 : xlk (xm_cd m_Mo_pieces) 119 = some (.iload 5, 2, (0, 0, 0, [])) := rfl
theorem l_Mo_pieces_121 : xlk (xm_cd m_Mo_pieces) 121 = some (.iload 4, 2, (0, 0, 0, [])) := rfl
theorem l_Mo_pieces_123 : xlk (xm_cd m_Mo_pieces) 123 = some (.iconst 1, 1, (0, 0, 0, [])) := rfl
theorem l_Mo_pieces_124 : xlk (xm_cd m_Mo_pieces) 124 = some (.iadd, 1, (0, 0, 0, [])) := rfl
theorem l_Mo_pieces_125 : xlk (xm_cd m_Mo_pieces) 125 = some (.if_icmp .ne 10, 3, (0, 135, 0, [])) := rfl
theorem l_Mo_pieces_128 : xlk (xm_cd m_Mo_pieces) 128 = some (.iload 6, 2, (0, 0, 0, [])) := rfl
theorem l_Mo_pieces_130 : xlk (xm_cd m_Mo_pieces) 130 = some (.iconst 1, 1, (0, 0, 0, [])) := rfl
theorem l_Mo_pieces_131 : xlk (xm_cd m_Mo_pieces) 131 = some (.iadd, 1, (0, 0, 0, [])) := rfl
theorem l_Mo_pieces_132 : xlk (xm_cd m_Mo_pieces) 132 = some (.goto 7, 3, (0, 139, 0, [])) := rfl
theorem l_Mo_pieces_135 : xlk (xm_cd m_Mo_pieces) 135 = some (.aload_n 0, 1, (0, 0, 0, [])) := rfl
theorem l_Mo_pieces_136 : xlk (xm_cd m_Mo_pieces) 136 = some (.getfield 254, 3, (879, 11, 30, [])) := rfl
theorem l_Mo_pieces_139 : xlk (xm_cd m_Mo_pieces) 139 = some (.putfield 254, 3, (879, 11, 30, [(0, 0)])) := rfl
theorem l_Mo_pieces_142 : xlk (xm_cd m_Mo_pieces) 142 = some (.iinc 6 1, 3, (0, 0, 0, [])) := rfl
theorem l_Mo_pieces_145 : xlk (xm_cd m_Mo_pieces) 145 = some (.goto (-129), 3, (0, 16, 0, [])) := rfl
theorem l_Mo_pieces_148 : xlk (xm_cd m_Mo_pieces) 148 = some (.iload 5, 2, (0, 0, 0, [])) := rfl
theorem l_Mo_pieces_150 : xlk (xm_cd m_Mo_pieces) 150 = some (.ireturn, 1, (0, 0, 0, [])) := rfl
def B_Mo_pieces_0 (d : Nat) (E : Option Value → xH → Prop) (f : xH) (a0 : Nat) (a1 : Nat) (x2 : Int32) (x3 : Int32) (x4 : Int32) : Prop :=
  xpf f a0 11 29 (.int 0) (fun f1 => xpf f1 a0 11 30 (.int 0) (fun f2 => xWp (xT0, xSp xT0 d, none, m_Mo_pieces, E) 16 [some (.ref a0), some (.ref a1), some (.int x2), some (.int x3), some (.int x4), some (.int 0), some (.int 0), none, none, none] [] f2 0 0))
theorem b_Mo_pieces_0 {d : Nat} {E : Option Value → xH → Prop} {f : xH} {a0 : Nat} {a1 : Nat} {x2 : Int32} {x3 : Int32} {x4 : Int32} (h : B_Mo_pieces_0 d E f a0 a1 x2 x3 x4) : xWp (xT0, xSp xT0 d, none, m_Mo_pieces, E) 0 [some (.ref a0), some (.ref a1), some (.int x2), some (.int x3), some (.int x4), none, none, none, none, none] [] f 0 0 := by
  unfold B_Mo_pieces_0 at h
  refine s_ic 0 l_Mo_pieces_0 rfl ?_
  refine s_is l_Mo_pieces_1 (Nat.le_of_ble_eq_true rfl) ?_
  refine s_aln l_Mo_pieces_3 rfl ?_
  refine s_ic 0 l_Mo_pieces_4 rfl ?_
  refine s_pf l_Mo_pieces_5 ⟨_, rfl⟩ h (fun f1 h => ?_)
  refine s_aln l_Mo_pieces_8 rfl ?_
  refine s_ic 0 l_Mo_pieces_9 rfl ?_
  refine s_pf l_Mo_pieces_10 ⟨_, rfl⟩ h (fun f2 h => ?_)
  refine s_ic 0 l_Mo_pieces_13 rfl ?_
  refine s_is l_Mo_pieces_14 (Nat.le_of_ble_eq_true rfl) ?_
  exact h
def B_Mo_pieces_16 (d : Nat) (E : Option Value → xH → Prop) (f : xH) (a0 : Nat) (a1 : Nat) (x2 : Int32) (x3 : Int32) (x4 : Int32) (x5 : Int32) (x6 : Int32) (u7 : Option Value) (u8 : Option Value) (u9 : Option Value) : Prop :=
  xbr (x3 ≤ x6) (E (some (.int x5)) f) (xal f a1 0 (x2 + x6) (fun v1 => xbr (x6 ≤ 0) (xWp (xT0, xSp xT0 d, none, m_Mo_pieces, E) 47 [some (.ref a0), some (.ref a1), some (.int x2), some (.int x3), some (.int x4), some (.int x5), some (.int x6), some (.int v1), u8, u9] [.int 0] f 0 0) (xal f a1 0 ((x2 + x6) - 1) (fun v2 => xWp (xT0, xSp xT0 d, none, m_Mo_pieces, E) 47 [some (.ref a0), some (.ref a1), some (.int x2), some (.int x3), some (.int x4), some (.int x5), some (.int x6), some (.int v1), u8, u9] [.int v2] f 0 0))))
theorem b_Mo_pieces_16 {d : Nat} {E : Option Value → xH → Prop} {f : xH} {a0 : Nat} {a1 : Nat} {x2 : Int32} {x3 : Int32} {x4 : Int32} {x5 : Int32} {x6 : Int32} {u7 : Option Value} {u8 : Option Value} {u9 : Option Value} (h : B_Mo_pieces_16 d E f a0 a1 x2 x3 x4 x5 x6 u7 u8 u9) : xWp (xT0, xSp xT0 d, none, m_Mo_pieces, E) 16 [some (.ref a0), some (.ref a1), some (.int x2), some (.int x3), some (.int x4), some (.int x5), some (.int x6), u7, u8, u9] [] f 0 0 := by
  unfold B_Mo_pieces_16 at h
  refine s_il l_Mo_pieces_16 rfl ?_
  refine s_iln l_Mo_pieces_18 rfl ?_
  refine s_ifc l_Mo_pieces_19 h (fun h => ?_) (fun h => ?_)
  · refine s_il l_Mo_pieces_148 rfl ?_
    exact s_iret l_Mo_pieces_150 rfl ⟨Nat.zero_le _, Nat.zero_le _⟩ h
  · refine s_aln l_Mo_pieces_22 rfl ?_
    refine s_iln l_Mo_pieces_23 rfl ?_
    refine s_il l_Mo_pieces_24 rfl ?_
    refine s_iadd l_Mo_pieces_26 ?_
    refine s_ial l_Mo_pieces_27 rfl h (fun v1 h => ?_)
    refine s_is l_Mo_pieces_28 (Nat.le_of_ble_eq_true rfl) ?_
    refine s_il l_Mo_pieces_30 rfl ?_
    refine s_if l_Mo_pieces_32 h (fun h => ?_) (fun h => ?_)
    · refine s_ic 0 l_Mo_pieces_46 rfl ?_
      exact h
    · refine s_aln l_Mo_pieces_35 rfl ?_
      refine s_iln l_Mo_pieces_36 rfl ?_
      refine s_il l_Mo_pieces_37 rfl ?_
      refine s_iadd l_Mo_pieces_39 ?_
      refine s_ic 1 l_Mo_pieces_40 rfl ?_
      refine s_isub l_Mo_pieces_41 ?_
      refine s_ial l_Mo_pieces_42 rfl h (fun v2 h => ?_)
      refine s_goto l_Mo_pieces_43 ?_
      exact h
def B_Mo_pieces_47 (d : Nat) (E : Option Value → xH → Prop) (f : xH) (a0 : Nat) (a1 : Nat) (x2 : Int32) (x3 : Int32) (x4 : Int32) (x5 : Int32) (x6 : Int32) (x7 : Int32) (u8 : Option Value) (u9 : Option Value) (s0 : Int32) : Prop :=
  xbr (x6 ≤ 0) (xWp (xT0, xSp xT0 d, none, m_Mo_pieces, E) 86 [some (.ref a0), some (.ref a1), some (.int x2), some (.int x3), some (.int x4), some (.int x5), some (.int x6), some (.int x7), some (.int s0), u9] [.int 0] f 0 0) (xbr ((0 : Int32) ≤ x7) (xbr (s0 < 0) (xWp (xT0, xSp xT0 d, none, m_Mo_pieces, E) 86 [some (.ref a0), some (.ref a1), some (.int x2), some (.int x3), some (.int x4), some (.int x5), some (.int x6), some (.int x7), some (.int s0), u9] [.int 0] f 0 0) (xbr (¬ x7 = (s0 + 1)) (xWp (xT0, xSp xT0 d, none, m_Mo_pieces, E) 86 [some (.ref a0), some (.ref a1), some (.int x2), some (.int x3), some (.int x4), some (.int x5), some (.int x6), some (.int x7), some (.int s0), u9] [.int 0] f 0 0) (xWp (xT0, xSp xT0 d, none, m_Mo_pieces, E) 86 [some (.ref a0), some (.ref a1), some (.int x2), some (.int x3), some (.int x4), some (.int x5), some (.int x6), some (.int x7), some (.int s0), u9] [.int 1] f 0 0))) (xbr ((0 : Int32) ≤ s0) (xWp (xT0, xSp xT0 d, none, m_Mo_pieces, E) 86 [some (.ref a0), some (.ref a1), some (.int x2), some (.int x3), some (.int x4), some (.int x5), some (.int x6), some (.int x7), some (.int s0), u9] [.int 0] f 0 0) (xWp (xT0, xSp xT0 d, none, m_Mo_pieces, E) 86 [some (.ref a0), some (.ref a1), some (.int x2), some (.int x3), some (.int x4), some (.int x5), some (.int x6), some (.int x7), some (.int s0), u9] [.int 1] f 0 0)))
theorem b_Mo_pieces_47 {d : Nat} {E : Option Value → xH → Prop} {f : xH} {a0 : Nat} {a1 : Nat} {x2 : Int32} {x3 : Int32} {x4 : Int32} {x5 : Int32} {x6 : Int32} {x7 : Int32} {u8 : Option Value} {u9 : Option Value} {s0 : Int32} (h : B_Mo_pieces_47 d E f a0 a1 x2 x3 x4 x5 x6 x7 u8 u9 s0) : xWp (xT0, xSp xT0 d, none, m_Mo_pieces, E) 47 [some (.ref a0), some (.ref a1), some (.int x2), some (.int x3), some (.int x4), some (.int x5), some (.int x6), some (.int x7), u8, u9] [.int s0] f 0 0 := by
  unfold B_Mo_pieces_47 at h
  refine s_is l_Mo_pieces_47 (Nat.le_of_ble_eq_true rfl) ?_
  refine s_il l_Mo_pieces_49 rfl ?_
  refine s_if l_Mo_pieces_51 h (fun h => ?_) (fun h => ?_)
  · refine s_ic 0 l_Mo_pieces_85 rfl ?_
    exact h
  · refine s_il l_Mo_pieces_54 rfl ?_
    refine s_if l_Mo_pieces_56 h (fun h => ?_) (fun h => ?_)
    · refine s_il l_Mo_pieces_67 rfl ?_
      refine s_if l_Mo_pieces_69 h (fun h => ?_) (fun h => ?_)
      · refine s_ic 0 l_Mo_pieces_85 rfl ?_
        exact h
      · refine s_il l_Mo_pieces_72 rfl ?_
        refine s_il l_Mo_pieces_74 rfl ?_
        refine s_ic 1 l_Mo_pieces_76 rfl ?_
        refine s_iadd l_Mo_pieces_77 ?_
        refine s_ifc l_Mo_pieces_78 h (fun h => ?_) (fun h => ?_)
        · refine s_ic 0 l_Mo_pieces_85 rfl ?_
          exact h
        · refine s_ic 1 l_Mo_pieces_81 rfl ?_
          refine s_goto l_Mo_pieces_82 ?_
          exact h
    · refine s_il l_Mo_pieces_59 rfl ?_
      refine s_if l_Mo_pieces_61 h (fun h => ?_) (fun h => ?_)
      · refine s_ic 0 l_Mo_pieces_85 rfl ?_
        exact h
      · refine s_goto l_Mo_pieces_64 ?_
        refine s_ic 1 l_Mo_pieces_81 rfl ?_
        refine s_goto l_Mo_pieces_82 ?_
        exact h
def B_Mo_pieces_86 (d : Nat) (E : Option Value → xH → Prop) (f : xH) (a0 : Nat) (a1 : Nat) (x2 : Int32) (x3 : Int32) (x4 : Int32) (x5 : Int32) (x6 : Int32) (x7 : Int32) (x8 : Int32) (u9 : Option Value) (s0 : Int32) : Prop :=
  xbr (¬ s0 = 0) (xWp (xT0, xSp xT0 d, none, m_Mo_pieces, E) 118 [some (.ref a0), some (.ref a1), some (.int x2), some (.int x3), some (.int x4), some (.int x5), some (.int x6), some (.int x7), some (.int x8), some (.int s0)] [] f 0 0) (xbr (¬ (x5 + 1) = (x4 + 1)) (xgi f a0 11 29 (fun v1 => xpf f a0 11 29 (.int v1) (fun f2 => xWp (xT0, xSp xT0 d, none, m_Mo_pieces, E) 118 [some (.ref a0), some (.ref a1), some (.int x2), some (.int x3), some (.int x4), some (.int (x5 + 1)), some (.int x6), some (.int x7), some (.int x8), some (.int s0)] [] f2 0 0))) (xpf f a0 11 29 (.int x6) (fun f3 => xWp (xT0, xSp xT0 d, none, m_Mo_pieces, E) 118 [some (.ref a0), some (.ref a1), some (.int x2), some (.int x3), some (.int x4), some (.int (x5 + 1)), some (.int x6), some (.int x7), some (.int x8), some (.int s0)] [] f3 0 0)))
theorem b_Mo_pieces_86 {d : Nat} {E : Option Value → xH → Prop} {f : xH} {a0 : Nat} {a1 : Nat} {x2 : Int32} {x3 : Int32} {x4 : Int32} {x5 : Int32} {x6 : Int32} {x7 : Int32} {x8 : Int32} {u9 : Option Value} {s0 : Int32} (h : B_Mo_pieces_86 d E f a0 a1 x2 x3 x4 x5 x6 x7 x8 u9 s0) : xWp (xT0, xSp xT0 d, none, m_Mo_pieces, E) 86 [some (.ref a0), some (.ref a1), some (.int x2), some (.int x3), some (.int x4), some (.int x5), some (.int x6), some (.int x7), some (.int x8), u9] [.int s0] f 0 0 := by
  unfold B_Mo_pieces_86 at h
  refine s_is l_Mo_pieces_86 (Nat.le_of_ble_eq_true rfl) ?_
  refine s_il l_Mo_pieces_88 rfl ?_
  refine s_if l_Mo_pieces_90 h (fun h => ?_) (fun h => ?_)
  · exact h
  · refine s_inc 1 l_Mo_pieces_93 rfl rfl ?_
    refine s_aln l_Mo_pieces_96 rfl ?_
    refine s_il l_Mo_pieces_97 rfl ?_
    refine s_il l_Mo_pieces_99 rfl ?_
    refine s_ic 1 l_Mo_pieces_101 rfl ?_
    refine s_iadd l_Mo_pieces_102 ?_
    refine s_ifc l_Mo_pieces_103 h (fun h => ?_) (fun h => ?_)
    · refine s_aln l_Mo_pieces_111 rfl ?_
      refine s_gi l_Mo_pieces_112 h (fun v1 h => ?_)
      refine s_pf l_Mo_pieces_115 ⟨_, rfl⟩ h (fun f2 h => ?_)
      exact h
    · refine s_il l_Mo_pieces_106 rfl ?_
      refine s_goto l_Mo_pieces_108 ?_
      refine s_pf l_Mo_pieces_115 ⟨_, rfl⟩ h (fun f3 h => ?_)
      exact h
def B_Mo_pieces_118 (d : Nat) (E : Option Value → xH → Prop) (f : xH) (a0 : Nat) (a1 : Nat) (x2 : Int32) (x3 : Int32) (x4 : Int32) (x5 : Int32) (x6 : Int32) (x7 : Int32) (x8 : Int32) (x9 : Int32) : Prop :=
  xbr (¬ x5 = (x4 + 1)) (xgi f a0 11 30 (fun v1 => xpf f a0 11 30 (.int v1) (fun f2 => xWp (xT0, xSp xT0 d, none, m_Mo_pieces, E) 16 [some (.ref a0), some (.ref a1), some (.int x2), some (.int x3), some (.int x4), some (.int x5), some (.int (x6 + 1)), some (.int x7), some (.int x8), some (.int x9)] [] f2 0 0))) (xpf f a0 11 30 (.int (x6 + 1)) (fun f3 => xWp (xT0, xSp xT0 d, none, m_Mo_pieces, E) 16 [some (.ref a0), some (.ref a1), some (.int x2), some (.int x3), some (.int x4), some (.int x5), some (.int (x6 + 1)), some (.int x7), some (.int x8), some (.int x9)] [] f3 0 0))
theorem b_Mo_pieces_118 {d : Nat} {E : Option Value → xH → Prop} {f : xH} {a0 : Nat} {a1 : Nat} {x2 : Int32} {x3 : Int32} {x4 : Int32} {x5 : Int32} {x6 : Int32} {x7 : Int32} {x8 : Int32} {x9 : Int32} (h : B_Mo_pieces_118 d E f a0 a1 x2 x3 x4 x5 x6 x7 x8 x9) : xWp (xT0, xSp xT0 d, none, m_Mo_pieces, E) 118 [some (.ref a0), some (.ref a1), some (.int x2), some (.int x3), some (.int x4), some (.int x5), some (.int x6), some (.int x7), some (.int x8), some (.int x9)] [] f 0 0 := by
  unfold B_Mo_pieces_118 at h
  refine s_aln l_Mo_pieces_118 rfl ?_
  refine s_il l_Mo_pieces_119 rfl ?_
  refine s_il l_Mo_pieces_121 rfl ?_
  refine s_ic 1 l_Mo_pieces_123 rfl ?_
  refine s_iadd l_Mo_pieces_124 ?_
  refine s_ifc l_Mo_pieces_125 h (fun h => ?_) (fun h => ?_)
  · refine s_aln l_Mo_pieces_135 rfl ?_
    refine s_gi l_Mo_pieces_136 h (fun v1 h => ?_)
    refine s_pf l_Mo_pieces_139 ⟨_, rfl⟩ h (fun f2 h => ?_)
    refine s_inc 1 l_Mo_pieces_142 rfl rfl ?_
    refine s_goto l_Mo_pieces_145 ?_
    exact h
  · refine s_il l_Mo_pieces_128 rfl ?_
    refine s_ic 1 l_Mo_pieces_130 rfl ?_
    refine s_iadd l_Mo_pieces_131 ?_
    refine s_goto l_Mo_pieces_132 ?_
    refine s_pf l_Mo_pieces_139 ⟨_, rfl⟩ h (fun f3 h => ?_)
    refine s_inc 1 l_Mo_pieces_142 rfl rfl ?_
    refine s_goto l_Mo_pieces_145 ?_
    exact h
theorem l_Mo_stepByte_0 : xlk (xm_cd m_Mo_stepByte) 0 = some (.aload_n 0, 1, (0, 0, 0, [])) := rfl
theorem l_Mo_stepByte_1 : xlk (xm_cd m_Mo_stepByte) 1 = some (.iconst 0, 1, (0, 0, 0, [])) := rfl
theorem l_Mo_stepByte_2 : xlk (xm_cd m_Mo_stepByte) 2 = some (.putfield 1, 3, (849, 11, 0, [(0, 0)])) := rfl
theorem l_Mo_stepByte_5 : xlk (xm_cd m_Mo_stepByte) 5 = some (.aload_n 0, 1, (0, 0, 0, [])) := rfl
theorem l_Mo_stepByte_6 : xlk (xm_cd m_Mo_stepByte) 6 = some (.iload_n 1, 1, (0, 0, 0, [])) := rfl
theorem l_Mo_stepByte_7 : xlk (xm_cd m_Mo_stepByte) 7 = some (.invokevirtual 257, 3, (1081, 185, 1, [])) := rfl
theorem l_Mo_stepByte_10 : xlk (xm_cd m_Mo_stepByte) 10 = some (.ifCond .ne 47, 3, (0, 57, 0, [])) := rfl
theorem l_Mo_stepByte_13 : xlk (xm_cd m_Mo_stepByte) 13 = some (.iload_n 3, 1, (0, 0, 0, [])) := rfl
theorem l_Mo_stepByte_14 : xlk (xm_cd m_Mo_stepByte) 14 = some (.i2l, 1, (0, 0, 0, [])) := rfl
theorem l_Mo_stepByte_15 : xlk (xm_cd m_Mo_stepByte) 15 = some (.lconst 0, 1, (0, 0, 0, [])) := rfl
theorem l_Mo_stepByte_16 : xlk (xm_cd m_Mo_stepByte) 16 = some (.lconst 1, 1, (0, 0, 0, [])) := rfl
theorem l_Mo_stepByte_17 : xlk (xm_cd m_Mo_stepByte) 17 = some (.invokestatic 132, 3, (955, 0, 0, [(2, 2)])) := rfl
theorem l_Mo_stepByte_20 : xlk (xm_cd m_Mo_stepByte) 20 = some (.ifCond .eq 37, 3, (0, 57, 0, [])) := rfl
theorem l_Mo_stepByte_23 : xlk (xm_cd m_Mo_stepByte) 23 = some (.iload_n 2, 1, (0, 0, 0, [])) := rfl
theorem l_Mo_stepByte_24 : xlk (xm_cd m_Mo_stepByte) 24 = some (.i2l, 1, (0, 0, 0, [])) := rfl
theorem l_Mo_stepByte_25 : xlk (xm_cd m_Mo_stepByte) 25 = some (.lconst 0, 1, (0, 0, 0, [])) := rfl
theorem l_Mo_stepByte_26 : xlk (xm_cd m_Mo_stepByte) 26 = some (.aload_n 0, 1, (0, 0, 0, [])) := rfl
theorem l_Mo_stepByte_27 : xlk (xm_cd m_Mo_stepByte) 27 = some (.getfield 69, 3, (871, 11, 22, [])) := rfl
theorem l_Mo_stepByte_30 : xlk (xm_cd m_Mo_stepByte) 30 = some (.iload_n 1, 1, (0, 0, 0, [])) := rfl
theorem l_Mo_stepByte_31 : xlk (xm_cd m_Mo_stepByte) 31 = some (.i2l, 1, (0, 0, 0, [])) := rfl
theorem l_Mo_stepByte_32 : xlk (xm_cd m_Mo_stepByte) 32 = some (.lconst 0, 1, (0, 0, 0, [])) := rfl
theorem l_Mo_stepByte_33 : xlk (xm_cd m_Mo_stepByte) 33 = some (.ldc2_w 270, 3, (1095, 0, 0, [(7, 0)])) := rfl
theorem l_Mo_stepByte_36 : xlk (xm_cd m_Mo_stepByte) 36 = some (.invokestatic 132, 3, (955, 0, 0, [(2, 2)])) := rfl
theorem l_Mo_stepByte_39 : xlk (xm_cd m_Mo_stepByte) 39 = some (.ifCond .eq 7, 3, (0, 46, 0, [])) := rfl
theorem l_Mo_stepByte_42 : xlk (xm_cd m_Mo_stepByte) 42 = some (.iload_n 1, 1, (0, 0, 0, [])) := rfl
theorem l_Mo_stepByte_43 : xlk (xm_cd m_Mo_stepByte) 43 = some (.goto 4, 3, (0, 47, 0, [])) := rfl
theorem l_Mo_stepByte_46 : xlk (xm_cd m_Mo_stepByte) 46 = some (.iconst 0, 1, (0, 0, 0, [])) := rfl
theorem l_Mo_stepByte_47 : xlk (xm_cd m_Mo_stepByte) 47 = some (.iaload, 1, (0, 0, 0, [])) := rfl
theorem l_Mo_stepByte_48 : xlk (xm_cd m_Mo_stepByte) 48 = some (.iconst 1, 1, (0, 0, 0, [])) := rfl
theorem l_Mo_stepByte_49 : xlk (xm_cd m_Mo_stepByte) 49 = some (.isub, 1, (0, 0, 0, [])) := rfl
theorem l_Mo_stepByte_50 : xlk (xm_cd m_Mo_stepByte) 50 = some (.i2l, 1, (0, 0, 0, [])) := rfl
theorem l_Mo_stepByte_51 : xlk (xm_cd m_Mo_stepByte) 51 = some (.invokestatic 132, 3, (955, 0, 0, [(2, 2)])) := rfl
theorem l_Mo_stepByte_54 : xlk (xm_cd m_Mo_stepByte) 54 = some (.ifCond .ne 5, 3, (0, 59, 0, [])) := rfl
theorem l_Mo_stepByte_57 : xlk (xm_cd m_Mo_stepByte) 57 = some (.iconst (-1), 1, (0, 0, 0, [])) := rfl
theorem l_Mo_stepByte_58 : xlk (xm_cd m_Mo_stepByte) 58 = some (.ireturn, 1, (0, 0, 0, [])) := rfl
theorem l_Mo_stepByte_59 : xlk (xm_cd m_Mo_stepByte) 59 = some (.bipush 24, 2, (0, 0, 0, [])) := rfl
theorem l_Mo_stepByte_61 : xlk (xm_cd m_Mo_stepByte) 61 = some (.iload_n 1, 1, (0, 0, 0, [])) := rfl
theorem l_Mo_stepByte_62 : xlk (xm_cd m_Mo_stepByte) 62 = some (.imul, 1, (0, 0, 0, [])) := rfl
theorem l_Mo_stepByte_63 : xlk (xm_cd m_Mo_stepByte) 63 = some (.iload_n 2, 1, (0, 0, 0, [])) := rfl
theorem l_Mo_stepByte_64 : xlk (xm_cd m_Mo_stepByte) 64 = some (.iadd, 1, (0, 0, 0, [])) := rfl
theorem l_Mo_stepByte_65 : xlk (xm_cd m_Mo_stepByte) 65 = some (.istore 5, 2, (0, 0, 0, [])) := rfl
theorem l_Mo_stepByte_67 : xlk (xm_cd m_Mo_stepByte) 67 = some (.iload_n 3, 1, (0, 0, 0, [])) := rfl
theorem l_Mo_stepByte_68 : xlk (xm_cd m_Mo_stepByte) 68 = some (.ifCond .ne 41, 3, (0, 109, 0, [])) := rfl
theorem l_Mo_stepByte_71 : xlk (xm_cd m_Mo_stepByte) 71 = some (.iload 4, 2, (0, 0, 0, [])) := rfl
theorem l_Mo_stepByte_73 : xlk (xm_cd m_Mo_stepByte) 73 = some (.i2l, 1, (0, 0, 0, [])) := rfl
theorem l_Mo_stepByte_74 : xlk (xm_cd m_Mo_stepByte) 74 = some (.lconst 0, 1, (0, 0, 0, [])) := rfl
theorem l_Mo_stepByte_75 : xlk (xm_cd m_Mo_stepByte) 75 = some (.aload_n 0, 1, (0, 0, 0, [])) := rfl
theorem l_Mo_stepByte_76 : xlk (xm_cd m_Mo_stepByte) 76 = some (.getfield 42, 3, (862, 11, 13, [])) := rfl
theorem l_Mo_stepByte_79 : xlk (xm_cd m_Mo_stepByte) 79 = some (.iload 5, 2, (0, 0, 0, [])) := rfl
theorem l_Mo_stepByte_81 : xlk (xm_cd m_Mo_stepByte) 81 = some (.iaload, 1, (0, 0, 0, [])) := rfl
theorem l_Mo_stepByte_82 : xlk (xm_cd m_Mo_stepByte) 82 = some (.iconst 1, 1, (0, 0, 0, [])) := rfl
theorem l_Mo_stepByte_83 : xlk (xm_cd m_Mo_stepByte) 83 = some (.isub, 1, (0, 0, 0, [])) := rfl
theorem l_Mo_stepByte_84 : xlk (xm_cd m_Mo_stepByte) 84 = some (.i2l, 1, (0, 0, 0, [])) := rfl
theorem l_Mo_stepByte_85 : xlk (xm_cd m_Mo_stepByte) 85 = some (.invokestatic 132, 3, (955, 0, 0, [(2, 2)])) := rfl
theorem l_Mo_stepByte_88 : xlk (xm_cd m_Mo_stepByte) 88 = some (.ifCond .eq 19, 3, (0, 107, 0, [])) := rfl
theorem l_Mo_stepByte_91 : xlk (xm_cd m_Mo_stepByte) 91 = some (.aload_n 0, 1, (0, 0, 0, [])) := rfl
theorem l_Mo_stepByte_92 : xlk (xm_cd m_Mo_stepByte) 92 = some (.getfield 39, 3, (861, 11, 12, [])) := rfl
theorem l_Mo_stepByte_95 : xlk (xm_cd m_Mo_stepByte) 95 = some (.bipush 18, 2, (0, 0, 0, [])) := rfl
theorem l_Mo_stepByte_97 : xlk (xm_cd m_Mo_stepByte) 97 = some (.iload 5, 2, (0, 0, 0, [])) := rfl
theorem l_Mo_stepByte_99 : xlk (xm_cd m_Mo_stepByte) 99 = some (.imul, 1, (0, 0, 0, [])) := rfl
theorem l_Mo_stepByte_100 : xlk (xm_cd m_Mo_stepByte) 100 = some (.iload 4, 2, (0, 0, 0, [])) := rfl
theorem l_Mo_stepByte_102 : xlk (xm_cd m_Mo_stepByte) 102 = some (.iadd, 1, (0, 0, 0, [])) := rfl
theorem l_Mo_stepByte_103 : xlk (xm_cd m_Mo_stepByte) 103 = some (.baload, 1, (0, 0, 0, [])) := rfl
theorem l_Mo_stepByte_104 : xlk (xm_cd m_Mo_stepByte) 104 = some (.goto 4, 3, (0, 108, 0, [])) := rfl
theorem l_Mo_stepByte_107 : xlk (xm_cd m_Mo_stepByte) 107 = some (.iconst (-1), 1, (0, 0, 0, [])) := rfl
theorem l_Mo_stepByte_108 : xlk (xm_cd m_Mo_stepByte) 108 = some (.ireturn, 1, (0, 0, 0, [])) := rfl
theorem l_Mo_stepByte_109 : xlk (xm_cd m_Mo_stepByte) 109 = some (.iload 4, 2, (0, 0, 0, [])) := rfl
theorem l_Mo_stepByte_111 : xlk (xm_cd m_Mo_stepByte) 111 = some (.i2l, 1, (0, 0, 0, [])) := rfl
theorem l_Mo_stepByte_112 : xlk (xm_cd m_Mo_stepByte) 112 = some (.lconst 0, 1, (0, 0, 0, [])) := rfl
theorem l_Mo_stepByte_113 : xlk (xm_cd m_Mo_stepByte) 113 = some (.aload_n 0, 1, (0, 0, 0, [])) := rfl
theorem l_Mo_stepByte_114 : xlk (xm_cd m_Mo_stepByte) 114 = some (.getfield 48, 3, (864, 11, 15, [])) := rfl
theorem l_Mo_stepByte_117 : xlk (xm_cd m_Mo_stepByte) 117 = some (.iload 5, 2, (0, 0, 0, [])) := rfl
theorem l_Mo_stepByte_119 : xlk (xm_cd m_Mo_stepByte) 119 = some (.iaload, 1, (0, 0, 0, [])) := rfl
theorem l_Mo_stepByte_120 : xlk (xm_cd m_Mo_stepByte) 120 = some (.iconst 1, 1, (0, 0, 0, [])) := rfl
theorem l_Mo_stepByte_121 : xlk (xm_cd m_Mo_stepByte) 121 = some (.isub, 1, (0, 0, 0, [])) := rfl
theorem l_Mo_stepByte_122 : xlk (xm_cd m_Mo_stepByte) 122 = some (.i2l, 1, (0, 0, 0, [])) := rfl
theorem l_Mo_stepByte_123 : xlk (xm_cd m_Mo_stepByte) 123 = some (.invokestatic 132, 3, (955, 0, 0, [(2, 2)])) := rfl
theorem l_Mo_stepByte_126 : xlk (xm_cd m_Mo_stepByte) 126 = some (.ifCond .eq 19, 3, (0, 145, 0, [])) := rfl
theorem l_Mo_stepByte_129 : xlk (xm_cd m_Mo_stepByte) 129 = some (.aload_n 0, 1, (0, 0, 0, [])) := rfl
theorem l_Mo_stepByte_130 : xlk (xm_cd m_Mo_stepByte) 130 = some (.getfield 45, 3, (863, 11, 14, [])) := rfl
theorem l_Mo_stepByte_133 : xlk (xm_cd m_Mo_stepByte) 133 = some (.bipush 18, 2, (0, 0, 0, [])) := rfl
theorem l_Mo_stepByte_135 : xlk (xm_cd m_Mo_stepByte) 135 = some (.iload 5, 2, (0, 0, 0, [])) := rfl
theorem l_Mo_stepByte_137 : xlk (xm_cd m_Mo_stepByte) 137 = some (.imul, 1, (0, 0, 0, [])) := rfl
theorem l_Mo_stepByte_138 : xlk (xm_cd m_Mo_stepByte) 138 = some (.iload 4, 2, (0, 0, 0, [])) := rfl
theorem l_Mo_stepByte_140 : xlk (xm_cd m_Mo_stepByte) 140 = some (.iadd, 1, (0, 0, 0, [])) := rfl
theorem l_Mo_stepByte_141 : xlk (xm_cd m_Mo_stepByte) 141 = some (.baload, 1, (0, 0, 0, [])) := rfl
theorem l_Mo_stepByte_142 : xlk (xm_cd m_Mo_stepByte) 142 = some (.goto 4, 3, (0, 146, 0, [])) := rfl
theorem l_Mo_stepByte_145 : xlk (xm_cd m_Mo_stepByte) 145 = some (.iconst (-1), 1, (0, 0, 0, [])) := rfl
theorem l_Mo_stepByte_146 : xlk (xm_cd m_Mo_stepByte) 146 = some (.ireturn, 1, (0, 0, 0, [])) := rfl
def B_Mo_stepByte_0 (d : Nat) (E : Option Value → xH → Prop) (f : xH) (a0 : Nat) (x1 : Int32) (x2 : Int32) (x3 : Int32) (x4 : Int32) : Prop :=
  xpf f a0 11 0 (.int 0) (fun f1 => (∃ fs, f1 a0 = some (xO 11 fs)) ∧ xSp xT0 d j_Mo_noPatch [.ref a0, .int x1] f1 (fun w2 f3 => xvi w2 (fun v4 => xbr (¬ v4 = 0) (E (some (.int (-1))) f3) (xbr ((if (0 : Int64) ≤ x3.toInt64 ∧ x3.toInt64 ≤ 1 then 1 else 0) = 0) (E (some (.int (-1))) f3) (xgr f3 a0 11 22 (fun r5 => xbr ((if (0 : Int64) ≤ x1.toInt64 ∧ x1.toInt64 ≤ 7 then 1 else 0) = 0) (xal f3 r5 0 0 (fun v6 => xbr (¬ (if (0 : Int64) ≤ x2.toInt64 ∧ x2.toInt64 ≤ (v6 - 1).toInt64 then 1 else 0) = 0) (xbr (¬ x3 = 0) (xgr f3 a0 11 15 (fun r7 => xal f3 r7 0 ((24 * x1) + x2) (fun v8 => xbr ((if (0 : Int64) ≤ x4.toInt64 ∧ x4.toInt64 ≤ (v8 - 1).toInt64 then 1 else 0) = 0) (E (some (.int (-1))) f3) (xgr f3 a0 11 14 (fun r9 => xal f3 r9 2 ((18 * ((24 * x1) + x2)) + x4) (fun v10 => E (some (.int v10)) f3)))))) (xgr f3 a0 11 13 (fun r11 => xal f3 r11 0 ((24 * x1) + x2) (fun v12 => xbr ((if (0 : Int64) ≤ x4.toInt64 ∧ x4.toInt64 ≤ (v12 - 1).toInt64 then 1 else 0) = 0) (E (some (.int (-1))) f3) (xgr f3 a0 11 12 (fun r13 => xal f3 r13 2 ((18 * ((24 * x1) + x2)) + x4) (fun v14 => E (some (.int v14)) f3))))))) (E (some (.int (-1))) f3))) (xal f3 r5 0 x1 (fun v15 => xbr (¬ (if (0 : Int64) ≤ x2.toInt64 ∧ x2.toInt64 ≤ (v15 - 1).toInt64 then 1 else 0) = 0) (xbr (¬ x3 = 0) (xgr f3 a0 11 15 (fun r16 => xal f3 r16 0 ((24 * x1) + x2) (fun v17 => xbr ((if (0 : Int64) ≤ x4.toInt64 ∧ x4.toInt64 ≤ (v17 - 1).toInt64 then 1 else 0) = 0) (E (some (.int (-1))) f3) (xgr f3 a0 11 14 (fun r18 => xal f3 r18 2 ((18 * ((24 * x1) + x2)) + x4) (fun v19 => E (some (.int v19)) f3)))))) (xgr f3 a0 11 13 (fun r20 => xal f3 r20 0 ((24 * x1) + x2) (fun v21 => xbr ((if (0 : Int64) ≤ x4.toInt64 ∧ x4.toInt64 ≤ (v21 - 1).toInt64 then 1 else 0) = 0) (E (some (.int (-1))) f3) (xgr f3 a0 11 12 (fun r22 => xal f3 r22 2 ((18 * ((24 * x1) + x2)) + x4) (fun v23 => E (some (.int v23)) f3))))))) (E (some (.int (-1))) f3)))))))))
theorem b_Mo_stepByte_0 {d : Nat} {E : Option Value → xH → Prop} {f : xH} {a0 : Nat} {x1 : Int32} {x2 : Int32} {x3 : Int32} {x4 : Int32} (h : B_Mo_stepByte_0 d E f a0 x1 x2 x3 x4) : xWp (xT0, xSp xT0 d, none, m_Mo_stepByte, E) 0 [some (.ref a0), some (.int x1), some (.int x2), some (.int x3), some (.int x4), none] [] f 0 0 := by
  unfold B_Mo_stepByte_0 at h
  refine s_aln l_Mo_stepByte_0 rfl ?_
  refine s_ic 0 l_Mo_stepByte_1 rfl ?_
  refine s_pf l_Mo_stepByte_2 ⟨_, rfl⟩ h (fun f1 h => ?_)
  refine s_aln l_Mo_stepByte_5 rfl ?_
  refine s_iln l_Mo_stepByte_6 rfl ?_
  refine s_cvi (As := [.int x1]) (r := []) l_Mo_stepByte_7 rfl ⟨rfl, rfl⟩ rfl (Nat.le_of_ble_eq_true rfl) rfl ⟨Nat.zero_le _, Nat.zero_le _⟩ h (fun v4 f3 h => ?_)
  refine s_if l_Mo_stepByte_10 h (fun h => ?_) (fun h => ?_)
  · refine s_ic (-1) l_Mo_stepByte_57 rfl ?_
    exact s_iret l_Mo_stepByte_58 rfl ⟨Nat.zero_le _, Nat.zero_le _⟩ h
  · refine s_iln l_Mo_stepByte_13 rfl ?_
    refine s_i2l l_Mo_stepByte_14 ?_
    refine s_lc 0 l_Mo_stepByte_15 rfl ?_
    refine s_lc 1 l_Mo_stepByte_16 rfl ?_
    refine s_in l_Mo_stepByte_17 (Nat.le_of_ble_eq_true rfl) ⟨Nat.zero_le _, Nat.zero_le _⟩ ?_
    refine s_if l_Mo_stepByte_20 h (fun h => ?_) (fun h => ?_)
    · refine s_ic (-1) l_Mo_stepByte_57 rfl ?_
      exact s_iret l_Mo_stepByte_58 rfl ⟨Nat.zero_le _, Nat.zero_le _⟩ h
    · refine s_iln l_Mo_stepByte_23 rfl ?_
      refine s_i2l l_Mo_stepByte_24 ?_
      refine s_lc 0 l_Mo_stepByte_25 rfl ?_
      refine s_aln l_Mo_stepByte_26 rfl ?_
      refine s_gr l_Mo_stepByte_27 h (fun r5 h => ?_)
      refine s_iln l_Mo_stepByte_30 rfl ?_
      refine s_i2l l_Mo_stepByte_31 ?_
      refine s_lc 0 l_Mo_stepByte_32 rfl ?_
      refine s_ldc2 7 l_Mo_stepByte_33 rfl ?_
      refine s_in l_Mo_stepByte_36 (Nat.le_of_ble_eq_true rfl) ⟨Nat.zero_le _, Nat.zero_le _⟩ ?_
      refine s_if l_Mo_stepByte_39 h (fun h => ?_) (fun h => ?_)
      · refine s_ic 0 l_Mo_stepByte_46 rfl ?_
        refine s_ial l_Mo_stepByte_47 rfl h (fun v6 h => ?_)
        refine s_ic 1 l_Mo_stepByte_48 rfl ?_
        refine s_isub l_Mo_stepByte_49 ?_
        refine s_i2l l_Mo_stepByte_50 ?_
        refine s_in l_Mo_stepByte_51 (Nat.le_of_ble_eq_true rfl) ⟨Nat.zero_le _, Nat.zero_le _⟩ ?_
        refine s_if l_Mo_stepByte_54 h (fun h => ?_) (fun h => ?_)
        · refine s_bp 24 l_Mo_stepByte_59 rfl ?_
          refine s_iln l_Mo_stepByte_61 rfl ?_
          refine s_imul l_Mo_stepByte_62 ?_
          refine s_iln l_Mo_stepByte_63 rfl ?_
          refine s_iadd l_Mo_stepByte_64 ?_
          refine s_is l_Mo_stepByte_65 (Nat.le_of_ble_eq_true rfl) ?_
          refine s_iln l_Mo_stepByte_67 rfl ?_
          refine s_if l_Mo_stepByte_68 h (fun h => ?_) (fun h => ?_)
          · refine s_il l_Mo_stepByte_109 rfl ?_
            refine s_i2l l_Mo_stepByte_111 ?_
            refine s_lc 0 l_Mo_stepByte_112 rfl ?_
            refine s_aln l_Mo_stepByte_113 rfl ?_
            refine s_gr l_Mo_stepByte_114 h (fun r7 h => ?_)
            refine s_il l_Mo_stepByte_117 rfl ?_
            refine s_ial l_Mo_stepByte_119 rfl h (fun v8 h => ?_)
            refine s_ic 1 l_Mo_stepByte_120 rfl ?_
            refine s_isub l_Mo_stepByte_121 ?_
            refine s_i2l l_Mo_stepByte_122 ?_
            refine s_in l_Mo_stepByte_123 (Nat.le_of_ble_eq_true rfl) ⟨Nat.zero_le _, Nat.zero_le _⟩ ?_
            refine s_if l_Mo_stepByte_126 h (fun h => ?_) (fun h => ?_)
            · refine s_ic (-1) l_Mo_stepByte_145 rfl ?_
              exact s_iret l_Mo_stepByte_146 rfl ⟨Nat.zero_le _, Nat.zero_le _⟩ h
            · refine s_aln l_Mo_stepByte_129 rfl ?_
              refine s_gr l_Mo_stepByte_130 h (fun r9 h => ?_)
              refine s_bp 18 l_Mo_stepByte_133 rfl ?_
              refine s_il l_Mo_stepByte_135 rfl ?_
              refine s_imul l_Mo_stepByte_137 ?_
              refine s_il l_Mo_stepByte_138 rfl ?_
              refine s_iadd l_Mo_stepByte_140 ?_
              refine s_bal l_Mo_stepByte_141 (Or.inr rfl) h (fun v10 h => ?_)
              refine s_goto l_Mo_stepByte_142 ?_
              exact s_iret l_Mo_stepByte_146 rfl ⟨Nat.zero_le _, Nat.zero_le _⟩ h
          · refine s_il l_Mo_stepByte_71 rfl ?_
            refine s_i2l l_Mo_stepByte_73 ?_
            refine s_lc 0 l_Mo_stepByte_74 rfl ?_
            refine s_aln l_Mo_stepByte_75 rfl ?_
            refine s_gr l_Mo_stepByte_76 h (fun r11 h => ?_)
            refine s_il l_Mo_stepByte_79 rfl ?_
            refine s_ial l_Mo_stepByte_81 rfl h (fun v12 h => ?_)
            refine s_ic 1 l_Mo_stepByte_82 rfl ?_
            refine s_isub l_Mo_stepByte_83 ?_
            refine s_i2l l_Mo_stepByte_84 ?_
            refine s_in l_Mo_stepByte_85 (Nat.le_of_ble_eq_true rfl) ⟨Nat.zero_le _, Nat.zero_le _⟩ ?_
            refine s_if l_Mo_stepByte_88 h (fun h => ?_) (fun h => ?_)
            · refine s_ic (-1) l_Mo_stepByte_107 rfl ?_
              exact s_iret l_Mo_stepByte_108 rfl ⟨Nat.zero_le _, Nat.zero_le _⟩ h
            · refine s_aln l_Mo_stepByte_91 rfl ?_
              refine s_gr l_Mo_stepByte_92 h (fun r13 h => ?_)
              refine s_bp 18 l_Mo_stepByte_95 rfl ?_
              refine s_il l_Mo_stepByte_97 rfl ?_
              refine s_imul l_Mo_stepByte_99 ?_
              refine s_il l_Mo_stepByte_100 rfl ?_
              refine s_iadd l_Mo_stepByte_102 ?_
              refine s_bal l_Mo_stepByte_103 (Or.inr rfl) h (fun v14 h => ?_)
              refine s_goto l_Mo_stepByte_104 ?_
              exact s_iret l_Mo_stepByte_108 rfl ⟨Nat.zero_le _, Nat.zero_le _⟩ h
        · refine s_ic (-1) l_Mo_stepByte_57 rfl ?_
          exact s_iret l_Mo_stepByte_58 rfl ⟨Nat.zero_le _, Nat.zero_le _⟩ h
      · refine s_iln l_Mo_stepByte_42 rfl ?_
        refine s_goto l_Mo_stepByte_43 ?_
        refine s_ial l_Mo_stepByte_47 rfl h (fun v15 h => ?_)
        refine s_ic 1 l_Mo_stepByte_48 rfl ?_
        refine s_isub l_Mo_stepByte_49 ?_
        refine s_i2l l_Mo_stepByte_50 ?_
        refine s_in l_Mo_stepByte_51 (Nat.le_of_ble_eq_true rfl) ⟨Nat.zero_le _, Nat.zero_le _⟩ ?_
        refine s_if l_Mo_stepByte_54 h (fun h => ?_) (fun h => ?_)
        · refine s_bp 24 l_Mo_stepByte_59 rfl ?_
          refine s_iln l_Mo_stepByte_61 rfl ?_
          refine s_imul l_Mo_stepByte_62 ?_
          refine s_iln l_Mo_stepByte_63 rfl ?_
          refine s_iadd l_Mo_stepByte_64 ?_
          refine s_is l_Mo_stepByte_65 (Nat.le_of_ble_eq_true rfl) ?_
          refine s_iln l_Mo_stepByte_67 rfl ?_
          refine s_if l_Mo_stepByte_68 h (fun h => ?_) (fun h => ?_)
          · refine s_il l_Mo_stepByte_109 rfl ?_
            refine s_i2l l_Mo_stepByte_111 ?_
            refine s_lc 0 l_Mo_stepByte_112 rfl ?_
            refine s_aln l_Mo_stepByte_113 rfl ?_
            refine s_gr l_Mo_stepByte_114 h (fun r16 h => ?_)
            refine s_il l_Mo_stepByte_117 rfl ?_
            refine s_ial l_Mo_stepByte_119 rfl h (fun v17 h => ?_)
            refine s_ic 1 l_Mo_stepByte_120 rfl ?_
            refine s_isub l_Mo_stepByte_121 ?_
            refine s_i2l l_Mo_stepByte_122 ?_
            refine s_in l_Mo_stepByte_123 (Nat.le_of_ble_eq_true rfl) ⟨Nat.zero_le _, Nat.zero_le _⟩ ?_
            refine s_if l_Mo_stepByte_126 h (fun h => ?_) (fun h => ?_)
            · refine s_ic (-1) l_Mo_stepByte_145 rfl ?_
              exact s_iret l_Mo_stepByte_146 rfl ⟨Nat.zero_le _, Nat.zero_le _⟩ h
            · refine s_aln l_Mo_stepByte_129 rfl ?_
              refine s_gr l_Mo_stepByte_130 h (fun r18 h => ?_)
              refine s_bp 18 l_Mo_stepByte_133 rfl ?_
              refine s_il l_Mo_stepByte_135 rfl ?_
              refine s_imul l_Mo_stepByte_137 ?_
              refine s_il l_Mo_stepByte_138 rfl ?_
              refine s_iadd l_Mo_stepByte_140 ?_
              refine s_bal l_Mo_stepByte_141 (Or.inr rfl) h (fun v19 h => ?_)
              refine s_goto l_Mo_stepByte_142 ?_
              exact s_iret l_Mo_stepByte_146 rfl ⟨Nat.zero_le _, Nat.zero_le _⟩ h
          · refine s_il l_Mo_stepByte_71 rfl ?_
            refine s_i2l l_Mo_stepByte_73 ?_
            refine s_lc 0 l_Mo_stepByte_74 rfl ?_
            refine s_aln l_Mo_stepByte_75 rfl ?_
            refine s_gr l_Mo_stepByte_76 h (fun r20 h => ?_)
            refine s_il l_Mo_stepByte_79 rfl ?_
            refine s_ial l_Mo_stepByte_81 rfl h (fun v21 h => ?_)
            refine s_ic 1 l_Mo_stepByte_82 rfl ?_
            refine s_isub l_Mo_stepByte_83 ?_
            refine s_i2l l_Mo_stepByte_84 ?_
            refine s_in l_Mo_stepByte_85 (Nat.le_of_ble_eq_true rfl) ⟨Nat.zero_le _, Nat.zero_le _⟩ ?_
            refine s_if l_Mo_stepByte_88 h (fun h => ?_) (fun h => ?_)
            · refine s_ic (-1) l_Mo_stepByte_107 rfl ?_
              exact s_iret l_Mo_stepByte_108 rfl ⟨Nat.zero_le _, Nat.zero_le _⟩ h
            · refine s_aln l_Mo_stepByte_91 rfl ?_
              refine s_gr l_Mo_stepByte_92 h (fun r22 h => ?_)
              refine s_bp 18 l_Mo_stepByte_95 rfl ?_
              refine s_il l_Mo_stepByte_97 rfl ?_
              refine s_imul l_Mo_stepByte_99 ?_
              refine s_il l_Mo_stepByte_100 rfl ?_
              refine s_iadd l_Mo_stepByte_102 ?_
              refine s_bal l_Mo_stepByte_103 (Or.inr rfl) h (fun v23 h => ?_)
              refine s_goto l_Mo_stepByte_104 ?_
              exact s_iret l_Mo_stepByte_108 rfl ⟨Nat.zero_le _, Nat.zero_le _⟩ h
        · refine s_ic (-1) l_Mo_stepByte_57 rfl ?_
          exact s_iret l_Mo_stepByte_58 rfl ⟨Nat.zero_le _, Nat.zero_le _⟩ h
theorem l_Mo_piece_0 : xlk (xm_cd m_Mo_piece) 0 = some (.aload_n 0, 1, (0, 0, 0, [])) := rfl
theorem l_Mo_piece_1 : xlk (xm_cd m_Mo_piece) 1 = some (.iconst 0, 1, (0, 0, 0, [])) := rfl
theorem l_Mo_piece_2 : xlk (xm_cd m_Mo_piece) 2 = some (.putfield 1, 3, (849, 11, 0, [(0, 0)])) := rfl
theorem l_Mo_piece_5 : xlk (xm_cd m_Mo_piece) 5 = some (.aload_n 0, 1, (0, 0, 0, [])) := rfl
theorem l_Mo_piece_6 : xlk (xm_cd m_Mo_piece) 6 = some (.iload_n 1, 1, (0, 0, 0, [])) := rfl
theorem l_Mo_piece_7 : xlk (xm_cd m_Mo_piece) 7 = some (.invokevirtual 257, 3, (1081, 185, 1, [])) := rfl
theorem l_Mo_piece_10 : xlk (xm_cd m_Mo_piece) 10 = some (.ifCond .ne 47, 3, (0, 57, 0, [])) := rfl
theorem l_Mo_piece_13 : xlk (xm_cd m_Mo_piece) 13 = some (.iload_n 3, 1, (0, 0, 0, [])) := rfl
theorem l_Mo_piece_14 : xlk (xm_cd m_Mo_piece) 14 = some (.i2l, 1, (0, 0, 0, [])) := rfl
theorem l_Mo_piece_15 : xlk (xm_cd m_Mo_piece) 15 = some (.lconst 0, 1, (0, 0, 0, [])) := rfl
theorem l_Mo_piece_16 : xlk (xm_cd m_Mo_piece) 16 = some (.lconst 1, 1, (0, 0, 0, [])) := rfl
theorem l_Mo_piece_17 : xlk (xm_cd m_Mo_piece) 17 = some (.invokestatic 132, 3, (955, 0, 0, [(2, 2)])) := rfl
theorem l_Mo_piece_20 : xlk (xm_cd m_Mo_piece) 20 = some (.ifCond .eq 37, 3, (0, 57, 0, [])) := rfl
theorem l_Mo_piece_23 : xlk (xm_cd m_Mo_piece) 23 = some (.iload_n 2, 1, (0, 0, 0, [])) := rfl
theorem l_Mo_piece_24 : xlk (xm_cd m_Mo_piece) 24 = some (.i2l, 1, (0, 0, 0, [])) := rfl
theorem l_Mo_piece_25 : xlk (xm_cd m_Mo_piece) 25 = some (.lconst 0, 1, (0, 0, 0, [])) := rfl
theorem l_Mo_piece_26 : xlk (xm_cd m_Mo_piece) 26 = some (.aload_n 0, 1, (0, 0, 0, [])) := rfl
theorem l_Mo_piece_27 : xlk (xm_cd m_Mo_piece) 27 = some (.getfield 69, 3, (871, 11, 22, [])) := rfl
theorem l_Mo_piece_30 : xlk (xm_cd m_Mo_piece) 30 = some (.iload_n 1, 1, (0, 0, 0, [])) := rfl
theorem l_Mo_piece_31 : xlk (xm_cd m_Mo_piece) 31 = some (.i2l, 1, (0, 0, 0, [])) := rfl
theorem l_Mo_piece_32 : xlk (xm_cd m_Mo_piece) 32 = some (.lconst 0, 1, (0, 0, 0, [])) := rfl
theorem l_Mo_piece_33 : xlk (xm_cd m_Mo_piece) 33 = some (.ldc2_w 270, 3, (1095, 0, 0, [(7, 0)])) := rfl
theorem l_Mo_piece_36 : xlk (xm_cd m_Mo_piece) 36 = some (.invokestatic 132, 3, (955, 0, 0, [(2, 2)])) := rfl
theorem l_Mo_piece_39 : xlk (xm_cd m_Mo_piece) 39 = some (.ifCond .eq 7, 3, (0, 46, 0, [])) := rfl
theorem l_Mo_piece_42 : xlk (xm_cd m_Mo_piece) 42 = some (.iload_n 1, 1, (0, 0, 0, [])) := rfl
theorem l_Mo_piece_43 : xlk (xm_cd m_Mo_piece) 43 = some (.goto 4, 3, (0, 47, 0, [])) := rfl
theorem l_Mo_piece_46 : xlk (xm_cd m_Mo_piece) 46 = some (.iconst 0, 1, (0, 0, 0, [])) := rfl
theorem l_Mo_piece_47 : xlk (xm_cd m_Mo_piece) 47 = some (.iaload, 1, (0, 0, 0, [])) := rfl
theorem l_Mo_piece_48 : xlk (xm_cd m_Mo_piece) 48 = some (.iconst 1, 1, (0, 0, 0, [])) := rfl
theorem l_Mo_piece_49 : xlk (xm_cd m_Mo_piece) 49 = some (.isub, 1, (0, 0, 0, [])) := rfl
theorem l_Mo_piece_50 : xlk (xm_cd m_Mo_piece) 50 = some (.i2l, 1, (0, 0, 0, [])) := rfl
theorem l_Mo_piece_51 : xlk (xm_cd m_Mo_piece) 51 = some (.invokestatic 132, 3, (955, 0, 0, [(2, 2)])) := rfl
theorem l_Mo_piece_54 : xlk (xm_cd m_Mo_piece) 54 = some (.ifCond .ne 5, 3, (0, 59, 0, [])) := rfl
theorem l_Mo_piece_57 : xlk (xm_cd m_Mo_piece) 57 = some (.iconst (-1), 1, (0, 0, 0, [])) := rfl
theorem l_Mo_piece_58 : xlk (xm_cd m_Mo_piece) 58 = some (.ireturn, 1, (0, 0, 0, [])) := rfl
theorem l_Mo_piece_59 : xlk (xm_cd m_Mo_piece) 59 = some (.bipush 24, 2, (0, 0, 0, [])) := rfl
theorem l_Mo_piece_61 : xlk (xm_cd m_Mo_piece) 61 = some (.iload_n 1, 1, (0, 0, 0, [])) := rfl
theorem l_Mo_piece_62 : xlk (xm_cd m_Mo_piece) 62 = some (.imul, 1, (0, 0, 0, [])) := rfl
theorem l_Mo_piece_63 : xlk (xm_cd m_Mo_piece) 63 = some (.iload_n 2, 1, (0, 0, 0, [])) := rfl
theorem l_Mo_piece_64 : xlk (xm_cd m_Mo_piece) 64 = some (.iadd, 1, (0, 0, 0, [])) := rfl
theorem l_Mo_piece_65 : xlk (xm_cd m_Mo_piece) 65 = some (.istore 6, 2, (0, 0, 0, [])) := rfl
theorem l_Mo_piece_67 : xlk (xm_cd m_Mo_piece) 67 = some (.iload_n 3, 1, (0, 0, 0, [])) := rfl
theorem l_Mo_piece_68 : xlk (xm_cd m_Mo_piece) 68 = some (.ifCond .ne 10, 3, (0, 78, 0, [])) := rfl
theorem l_Mo_piece_71 : xlk (xm_cd m_Mo_piece) 71 = some (.aload_n 0, 1, (0, 0, 0, [])) := rfl
theorem l_Mo_piece_72 : xlk (xm_cd m_Mo_piece) 72 = some (.getfield 63, 3, (869, 11, 20, [])) := rfl
theorem l_Mo_piece_75 : xlk (xm_cd m_Mo_piece) 75 = some (.goto 7, 3, (0, 82, 0, [])) := rfl
theorem l_Mo_piece_78 : xlk (xm_cd m_Mo_piece) 78 = some (.aload_n 0, 1, (0, 0, 0, [])) := rfl
theorem l_Mo_piece_79 : xlk (xm_cd m_Mo_piece) 79 = some (.getfield 66, 3, (870, 11, 21, [])) := rfl
theorem l_Mo_piece_82 : xlk (xm_cd m_Mo_piece) 82 = some (.astore 7, 2, (0, 0, 0, [])) := rfl
theorem l_Mo_piece_84 : xlk (xm_cd m_Mo_piece) 84 = some (.iload_n 3, 1, (0, 0, 0, [])) := rfl
theorem l_Mo_piece_85 : xlk (xm_cd m_Mo_piece) 85 = some (.ifCond .ne 13, 3, (0, 98, 0, [])) := rfl
theorem l_Mo_piece_88 : xlk (xm_cd m_Mo_piece) 88 = some (.aload_n 0, 1, (0, 0, 0, [])) := rfl
theorem l_Mo_piece_89 : xlk (xm_cd m_Mo_piece) 89 = some (.getfield 57, 3, (867, 11, 18, [])) := rfl
theorem l_Mo_piece_92 : xlk (xm_cd m_Mo_piece) 92 = some (.iload 6, 2, (0, 0, 0, [])) := rfl
theorem l_Mo_piece_94 : xlk (xm_cd m_Mo_piece) 94 = some (.iaload, 1, (0, 0, 0, [])) := rfl
theorem l_Mo_piece_95 : xlk (xm_cd m_Mo_piece) 95 = some (.goto 10, 3, (0, 105, 0, [])) := rfl
theorem l_Mo_piece_98 : xlk (xm_cd m_Mo_piece) 98 = some (.aload_n 0, 1, (0, 0, 0, [])) := rfl
theorem l_Mo_piece_99 : xlk (xm_cd m_Mo_piece) 99 = some (.getfield 51, 3, (865, 11, 16, [])) := rfl
theorem l_Mo_piece_102 : xlk (xm_cd m_Mo_piece) 102 = some (.iload 6, 2, (0, 0, 0, [])) := rfl
theorem l_Mo_piece_104 : xlk (xm_cd m_Mo_piece) 104 = some (.iaload, 1, (0, 0, 0, [])) := rfl
theorem l_Mo_piece_105 : xlk (xm_cd m_Mo_piece) 105 = some (.invokestatic 262, 3, (1085, 186, 1, [])) := rfl
theorem l_Mo_piece_108 : xlk (xm_cd m_Mo_piece) 108 = some (.istore 8, 2, (0, 0, 0, [])) := rfl
theorem l_Mo_piece_110 : xlk (xm_cd m_Mo_piece) 110 = some (.iload 4, 2, (0, 0, 0, [])) := rfl
theorem l_Mo_piece_112 : xlk (xm_cd m_Mo_piece) 112 = some (.i2l, 1, (0, 0, 0, [])) := rfl
theorem l_Mo_piece_113 : xlk (xm_cd m_Mo_piece) 113 = some (.lconst 0, 1, (0, 0, 0, [])) := rfl
theorem l_Mo_piece_114 : xlk (xm_cd m_Mo_piece) 114 = some (.aload_n 0, 1, (0, 0, 0, [])) := rfl
theorem l_Mo_piece_115 : xlk (xm_cd m_Mo_piece) 115 = some (.aload 7, 2, (0, 0, 0, [])) := rfl
theorem l_Mo_piece_117 : xlk (xm_cd m_Mo_piece) 117 = some (.bipush 48, 2, (0, 0, 0, [])) := rfl
theorem l_Mo_piece_119 : xlk (xm_cd m_Mo_piece) 119 = some (.iload 6, 2, (0, 0, 0, [])) := rfl
theorem l_Mo_piece_121 : xlk (xm_cd m_Mo_piece) 121 = some (.imul, 1, (0, 0, 0, [])) := rfl
theorem l_Mo_piece_122 : xlk (xm_cd m_Mo_piece) 122 = some (.iload 8, 2, (0, 0, 0, [])) := rfl
theorem l_Mo_piece_124 : xlk (xm_cd m_Mo_piece) 124 = some (.iload 4, 2, (0, 0, 0, [])) := rfl
theorem l_Mo_piece_126 : xlk (xm_cd m_Mo_piece) 126 = some (.invokevirtual 266, 3, (1088, 187, 4, [])) := rfl
theorem l_Mo_piece_129 : xlk (xm_cd m_Mo_piece) 129 = some (.iconst 1, 1, (0, 0, 0, [])) := rfl
theorem l_Mo_piece_130 : xlk (xm_cd m_Mo_piece) 130 = some (.isub, 1, (0, 0, 0, [])) := rfl
theorem l_Mo_piece_131 : xlk (xm_cd m_Mo_piece) 131 = some (.i2l, 1, (0, 0, 0, [])) := rfl
theorem l_Mo_piece_132 : xlk (xm_cd m_Mo_piece) 132 = some (.invokestatic 132, 3, (955, 0, 0, [(2, 2)])) := rfl
theorem l_Mo_piece_135 : xlk (xm_cd m_Mo_piece) 135 = some (.ifCond .eq 10, 3, (0, 145, 0, [])) := rfl
theorem l_Mo_piece_138 : xlk (xm_cd m_Mo_piece) 138 = some (.iload 5, 2, (0, 0, 0, [])) := rfl
theorem l_Mo_piece_140 : xlk (xm_cd m_Mo_piece) 140 = some (.bipush (-2), 2, (0, 0, 0, [])) := rfl
theorem l_Mo_piece_142 : xlk (xm_cd m_Mo_piece) 142 = some (.if_icmp .ge 5, 3, (0, 147, 0, [])) := rfl
theorem l_Mo_piece_145 : xlk (xm_cd m_Mo_piece) 145 = some (.iconst (-1), 1, (0, 0, 0, [])) := rfl
theorem l_Mo_piece_146 : xlk (xm_cd m_Mo_piece) 146 = some (.ireturn, 1, (0, 0, 0, [])) := rfl
theorem l_Mo_piece_147 : xlk (xm_cd m_Mo_piece) 147 = some (.aload 7, 2, (0, 0, 0, [])) := rfl
theorem l_Mo_piece_149 : xlk (xm_cd m_Mo_piece) 149 = some (.bipush 48, 2, (0, 0, 0, [])) := rfl
theorem l_Mo_piece_151 : xlk (xm_cd m_Mo_piece) 151 = some (.iload 6, 2, (0, 0, 0, [])) := rfl
theorem l_Mo_piece_153 : xlk (xm_cd m_Mo_piece) 153 = some (.imul, 1, (0, 0, 0, [])) := rfl
theorem l_Mo_piece_154 : xlk (xm_cd m_Mo_piece) 154 = some (.aload_n 0, 1, (0, 0, 0, [])) := rfl
theorem l_Mo_piece_155 : xlk (xm_cd m_Mo_piece) 155 = some (.getfield 251, 3, (878, 11, 29, [])) := rfl
theorem l_Mo_piece_158 : xlk (xm_cd m_Mo_piece) 158 = some (.iadd, 1, (0, 0, 0, [])) := rfl
theorem l_Mo_piece_159 : xlk (xm_cd m_Mo_piece) 159 = some (.iaload, 1, (0, 0, 0, [])) := rfl
theorem l_Mo_piece_160 : xlk (xm_cd m_Mo_piece) 160 = some (.istore 9, 2, (0, 0, 0, [])) := rfl
theorem l_Mo_piece_162 : xlk (xm_cd m_Mo_piece) 162 = some (.iload 5, 2, (0, 0, 0, [])) := rfl
theorem l_Mo_piece_164 : xlk (xm_cd m_Mo_piece) 164 = some (.bipush (-2), 2, (0, 0, 0, [])) := rfl
theorem l_Mo_piece_166 : xlk (xm_cd m_Mo_piece) 166 = some (.if_icmp .ne 13, 3, (0, 179, 0, [])) := rfl
theorem l_Mo_piece_169 : xlk (xm_cd m_Mo_piece) 169 = some (.aload_n 0, 1, (0, 0, 0, [])) := rfl
theorem l_Mo_piece_170 : xlk (xm_cd m_Mo_piece) 170 = some (.getfield 254, 3, (879, 11, 30, [])) := rfl
theorem l_Mo_piece_173 : xlk (xm_cd m_Mo_piece) 173 = some (.aload_n 0, 1, (0, 0, 0, [])) := rfl
theorem l_Mo_piece_174 : xlk (xm_cd m_Mo_piece) 174 = some (.getfield 251, 3, (878, 11, 29, [])) := rfl
theorem l_Mo_piece_177 : xlk (xm_cd m_Mo_piece) 177 = some (.isub, 1, (0, 0, 0, [])) := rfl
theorem l_Mo_piece_178 : xlk (xm_cd m_Mo_piece) 178 = some (.ireturn, 1, (0, 0, 0, [])) := rfl
theorem l_Mo_piece_179 : xlk (xm_cd m_Mo_piece) 179 = some (.iload 5, 2, (0, 0, 0, [])) := rfl
theorem l_Mo_piece_181 : xlk (xm_cd m_Mo_piece) 181 = some (.iconst (-1), 1, (0, 0, 0, [])) := rfl
theorem l_Mo_piece_182 : xlk (xm_cd m_Mo_piece) 182 = some (.if_icmp .ne 16, 3, (0, 198, 0, [])) := rfl
theorem l_Mo_piece_185 : xlk (xm_cd m_Mo_piece) 185 = some (.iload 9, 2, (0, 0, 0, [])) := rfl
theorem l_Mo_piece_187 : xlk (xm_cd m_Mo_piece) 187 = some (.ifCond .ge 8, 3, (0, 195, 0, [])) := rfl
theorem l_Mo_piece_190 : xlk (xm_cd m_Mo_piece) 190 = some (.bipush (-2), 2, (0, 0, 0, [])) := rfl
theorem l_Mo_piece_192 : xlk (xm_cd m_Mo_piece) 192 = some (.goto 5, 3, (0, 197, 0, [])) := rfl
theorem l_Mo_piece_195 : xlk (xm_cd m_Mo_piece) 195 = some (.iload 9, 2, (0, 0, 0, [])) := rfl
theorem l_Mo_piece_197 : xlk (xm_cd m_Mo_piece) 197 = some (.ireturn, 1, (0, 0, 0, [])) := rfl
theorem l_Mo_piece_198 : xlk (xm_cd m_Mo_piece) 198 = some (.iload 9, 2, (0, 0, 0, [])) := rfl
theorem l_Mo_piece_200 : xlk (xm_cd m_Mo_piece) 200 = some (.ifCond .ge 38, 3, (0, 238, 0, [])) := rfl
theorem l_Mo_piece_203 : xlk (xm_cd m_Mo_piece) 203 = some (.iload 5, 2, (0, 0, 0, [])) := rfl
theorem l_Mo_piece_205 : xlk (xm_cd m_Mo_piece) 205 = some (.aload_n 0, 1, (0, 0, 0, [])) := rfl
theorem l_Mo_piece_206 : xlk (xm_cd m_Mo_piece) 206 = some (.getfield 254, 3, (879, 11, 30, [])) := rfl
theorem l_Mo_piece_209 : xlk (xm_cd m_Mo_piece) 209 = some (.aload_n 0, 1, (0, 0, 0, [])) := rfl
theorem l_Mo_piece_210 : xlk (xm_cd m_Mo_piece) 210 = some (.getfield 251, 3, (878, 11, 29, [])) := rfl
theorem l_Mo_piece_213 : xlk (xm_cd m_Mo_piece) 213 = some (.isub, 1, (0, 0, 0, [])) := rfl
theorem l_Mo_piece_214 : xlk (xm_cd m_Mo_piece) 214 = some (.if_icmp .ge 24, 3, (0, 238, 0, [])) := rfl
theorem l_Mo_piece_217 : xlk (xm_cd m_Mo_piece) 217 = some (.iconst (-1), 1, (0, 0, 0, [])) := rfl
theorem l_Mo_piece_218 : xlk (xm_cd m_Mo_piece) 218 = some (.aload 7, 2, (0, 0, 0, [])) := rfl
theorem l_Mo_piece_220 : xlk (xm_cd m_Mo_piece) 220 = some (.bipush 48, 2, (0, 0, 0, [])) := rfl
theorem l_Mo_piece_222 : xlk (xm_cd m_Mo_piece) 222 = some (.iload 6, 2, (0, 0, 0, [])) := rfl
theorem l_Mo_piece_224 : xlk (xm_cd m_Mo_piece) 224 = some (.imul, 1, (0, 0, 0, [])) := rfl
theorem l_Mo_piece_225 : xlk (xm_cd m_Mo_piece) 225 = some (.aload_n 0, 1, (0, 0, 0, [])) := rfl
theorem l_Mo_piece_226 : xlk (xm_cd m_Mo_piece) 226 = some (.getfield 251, 3, (878, 11, 29, [])) := rfl
theorem l_Mo_piece_229 : xlk (xm_cd m_Mo_piece) 229 = some (.iadd, 1, (0, 0, 0, [])) := rfl
theorem l_Mo_piece_230 : xlk (xm_cd m_Mo_piece) 230 = some (.iload 5, 2, (0, 0, 0, [])) := rfl
theorem l_Mo_piece_232 : xlk (xm_cd m_Mo_piece) 232 = some (.iadd, 1, (0, 0, 0, [])) := rfl
theorem l_Mo_piece_233 : xlk (xm_cd m_Mo_piece) 233 = some (.iaload, 1, (0, 0, 0, [])) := rfl
theorem l_Mo_piece_234 : xlk (xm_cd m_Mo_piece) 234 = some (.isub, 1, (0, 0, 0, [])) := rfl
theorem l_Mo_piece_235 : xlk (xm_cd m_Mo_piece) 235 = some (.goto 4, 3, (0, 239, 0, [])) := rfl
theorem l_Mo_piece_238 : xlk (xm_cd m_Mo_piece) 238 = some (.iconst (-1), 1, (0, 0, 0, [])) := rfl
theorem l_Mo_piece_239 : xlk (xm_cd m_Mo_piece) 239 = some (.ireturn, 1, (0, 0, 0, [])) := rfl
def B_Mo_piece_0 (d : Nat) (E : Option Value → xH → Prop) (f : xH) (a0 : Nat) (x1 : Int32) (x2 : Int32) (x3 : Int32) (x4 : Int32) (x5 : Int32) : Prop :=
  xpf f a0 11 0 (.int 0) (fun f1 => (∃ fs, f1 a0 = some (xO 11 fs)) ∧ xSp xT0 d j_Mo_noPatch [.ref a0, .int x1] f1 (fun w2 f3 => xvi w2 (fun v4 => xbr (¬ v4 = 0) (E (some (.int (-1))) f3) (xbr ((if (0 : Int64) ≤ x3.toInt64 ∧ x3.toInt64 ≤ 1 then 1 else 0) = 0) (E (some (.int (-1))) f3) (xgr f3 a0 11 22 (fun r5 => xbr ((if (0 : Int64) ≤ x1.toInt64 ∧ x1.toInt64 ≤ 7 then 1 else 0) = 0) (xal f3 r5 0 0 (fun v6 => xbr (¬ (if (0 : Int64) ≤ x2.toInt64 ∧ x2.toInt64 ≤ (v6 - 1).toInt64 then 1 else 0) = 0) (xbr (¬ x3 = 0) (xgr f3 a0 11 21 (fun r7 => xWp (xT0, xSp xT0 d, none, m_Mo_piece, E) 82 [some (.ref a0), some (.int x1), some (.int x2), some (.int x3), some (.int x4), some (.int x5), some (.int ((24 * x1) + x2)), none, none, none] [.ref r7] f3 0 0)) (xgr f3 a0 11 20 (fun r8 => xWp (xT0, xSp xT0 d, none, m_Mo_piece, E) 82 [some (.ref a0), some (.int x1), some (.int x2), some (.int x3), some (.int x4), some (.int x5), some (.int ((24 * x1) + x2)), none, none, none] [.ref r8] f3 0 0))) (E (some (.int (-1))) f3))) (xal f3 r5 0 x1 (fun v9 => xbr (¬ (if (0 : Int64) ≤ x2.toInt64 ∧ x2.toInt64 ≤ (v9 - 1).toInt64 then 1 else 0) = 0) (xbr (¬ x3 = 0) (xgr f3 a0 11 21 (fun r10 => xWp (xT0, xSp xT0 d, none, m_Mo_piece, E) 82 [some (.ref a0), some (.int x1), some (.int x2), some (.int x3), some (.int x4), some (.int x5), some (.int ((24 * x1) + x2)), none, none, none] [.ref r10] f3 0 0)) (xgr f3 a0 11 20 (fun r11 => xWp (xT0, xSp xT0 d, none, m_Mo_piece, E) 82 [some (.ref a0), some (.int x1), some (.int x2), some (.int x3), some (.int x4), some (.int x5), some (.int ((24 * x1) + x2)), none, none, none] [.ref r11] f3 0 0))) (E (some (.int (-1))) f3)))))))))
theorem b_Mo_piece_0 {d : Nat} {E : Option Value → xH → Prop} {f : xH} {a0 : Nat} {x1 : Int32} {x2 : Int32} {x3 : Int32} {x4 : Int32} {x5 : Int32} (h : B_Mo_piece_0 d E f a0 x1 x2 x3 x4 x5) : xWp (xT0, xSp xT0 d, none, m_Mo_piece, E) 0 [some (.ref a0), some (.int x1), some (.int x2), some (.int x3), some (.int x4), some (.int x5), none, none, none, none] [] f 0 0 := by
  unfold B_Mo_piece_0 at h
  refine s_aln l_Mo_piece_0 rfl ?_
  refine s_ic 0 l_Mo_piece_1 rfl ?_
  refine s_pf l_Mo_piece_2 ⟨_, rfl⟩ h (fun f1 h => ?_)
  refine s_aln l_Mo_piece_5 rfl ?_
  refine s_iln l_Mo_piece_6 rfl ?_
  refine s_cvi (As := [.int x1]) (r := []) l_Mo_piece_7 rfl ⟨rfl, rfl⟩ rfl (Nat.le_of_ble_eq_true rfl) rfl ⟨Nat.zero_le _, Nat.zero_le _⟩ h (fun v4 f3 h => ?_)
  refine s_if l_Mo_piece_10 h (fun h => ?_) (fun h => ?_)
  · refine s_ic (-1) l_Mo_piece_57 rfl ?_
    exact s_iret l_Mo_piece_58 rfl ⟨Nat.zero_le _, Nat.zero_le _⟩ h
  · refine s_iln l_Mo_piece_13 rfl ?_
    refine s_i2l l_Mo_piece_14 ?_
    refine s_lc 0 l_Mo_piece_15 rfl ?_
    refine s_lc 1 l_Mo_piece_16 rfl ?_
    refine s_in l_Mo_piece_17 (Nat.le_of_ble_eq_true rfl) ⟨Nat.zero_le _, Nat.zero_le _⟩ ?_
    refine s_if l_Mo_piece_20 h (fun h => ?_) (fun h => ?_)
    · refine s_ic (-1) l_Mo_piece_57 rfl ?_
      exact s_iret l_Mo_piece_58 rfl ⟨Nat.zero_le _, Nat.zero_le _⟩ h
    · refine s_iln l_Mo_piece_23 rfl ?_
      refine s_i2l l_Mo_piece_24 ?_
      refine s_lc 0 l_Mo_piece_25 rfl ?_
      refine s_aln l_Mo_piece_26 rfl ?_
      refine s_gr l_Mo_piece_27 h (fun r5 h => ?_)
      refine s_iln l_Mo_piece_30 rfl ?_
      refine s_i2l l_Mo_piece_31 ?_
      refine s_lc 0 l_Mo_piece_32 rfl ?_
      refine s_ldc2 7 l_Mo_piece_33 rfl ?_
      refine s_in l_Mo_piece_36 (Nat.le_of_ble_eq_true rfl) ⟨Nat.zero_le _, Nat.zero_le _⟩ ?_
      refine s_if l_Mo_piece_39 h (fun h => ?_) (fun h => ?_)
      · refine s_ic 0 l_Mo_piece_46 rfl ?_
        refine s_ial l_Mo_piece_47 rfl h (fun v6 h => ?_)
        refine s_ic 1 l_Mo_piece_48 rfl ?_
        refine s_isub l_Mo_piece_49 ?_
        refine s_i2l l_Mo_piece_50 ?_
        refine s_in l_Mo_piece_51 (Nat.le_of_ble_eq_true rfl) ⟨Nat.zero_le _, Nat.zero_le _⟩ ?_
        refine s_if l_Mo_piece_54 h (fun h => ?_) (fun h => ?_)
        · refine s_bp 24 l_Mo_piece_59 rfl ?_
          refine s_iln l_Mo_piece_61 rfl ?_
          refine s_imul l_Mo_piece_62 ?_
          refine s_iln l_Mo_piece_63 rfl ?_
          refine s_iadd l_Mo_piece_64 ?_
          refine s_is l_Mo_piece_65 (Nat.le_of_ble_eq_true rfl) ?_
          refine s_iln l_Mo_piece_67 rfl ?_
          refine s_if l_Mo_piece_68 h (fun h => ?_) (fun h => ?_)
          · refine s_aln l_Mo_piece_78 rfl ?_
            refine s_gr l_Mo_piece_79 h (fun r7 h => ?_)
            exact h
          · refine s_aln l_Mo_piece_71 rfl ?_
            refine s_gr l_Mo_piece_72 h (fun r8 h => ?_)
            refine s_goto l_Mo_piece_75 ?_
            exact h
        · refine s_ic (-1) l_Mo_piece_57 rfl ?_
          exact s_iret l_Mo_piece_58 rfl ⟨Nat.zero_le _, Nat.zero_le _⟩ h
      · refine s_iln l_Mo_piece_42 rfl ?_
        refine s_goto l_Mo_piece_43 ?_
        refine s_ial l_Mo_piece_47 rfl h (fun v9 h => ?_)
        refine s_ic 1 l_Mo_piece_48 rfl ?_
        refine s_isub l_Mo_piece_49 ?_
        refine s_i2l l_Mo_piece_50 ?_
        refine s_in l_Mo_piece_51 (Nat.le_of_ble_eq_true rfl) ⟨Nat.zero_le _, Nat.zero_le _⟩ ?_
        refine s_if l_Mo_piece_54 h (fun h => ?_) (fun h => ?_)
        · refine s_bp 24 l_Mo_piece_59 rfl ?_
          refine s_iln l_Mo_piece_61 rfl ?_
          refine s_imul l_Mo_piece_62 ?_
          refine s_iln l_Mo_piece_63 rfl ?_
          refine s_iadd l_Mo_piece_64 ?_
          refine s_is l_Mo_piece_65 (Nat.le_of_ble_eq_true rfl) ?_
          refine s_iln l_Mo_piece_67 rfl ?_
          refine s_if l_Mo_piece_68 h (fun h => ?_) (fun h => ?_)
          · refine s_aln l_Mo_piece_78 rfl ?_
            refine s_gr l_Mo_piece_79 h (fun r10 h => ?_)
            exact h
          · refine s_aln l_Mo_piece_71 rfl ?_
            refine s_gr l_Mo_piece_72 h (fun r11 h => ?_)
            refine s_goto l_Mo_piece_75 ?_
            exact h
        · refine s_ic (-1) l_Mo_piece_57 rfl ?_
          exact s_iret l_Mo_piece_58 rfl ⟨Nat.zero_le _, Nat.zero_le _⟩ h
def B_Mo_piece_82 (d : Nat) (E : Option Value → xH → Prop) (f : xH) (a0 : Nat) (x1 : Int32) (x2 : Int32) (x3 : Int32) (x4 : Int32) (x5 : Int32) (x6 : Int32) (u7 : Option Value) (u8 : Option Value) (u9 : Option Value) (s0 : Nat) : Prop :=
  xbr (¬ x3 = 0) (xgr f a0 11 16 (fun r1 => xal f r1 0 x6 (fun v2 => xWp (xT0, xSp xT0 d, none, m_Mo_piece, E) 105 [some (.ref a0), some (.int x1), some (.int x2), some (.int x3), some (.int x4), some (.int x5), some (.int x6), some (.ref s0), u8, u9] [.int v2] f 0 0))) (xgr f a0 11 18 (fun r3 => xal f r3 0 x6 (fun v4 => xWp (xT0, xSp xT0 d, none, m_Mo_piece, E) 105 [some (.ref a0), some (.int x1), some (.int x2), some (.int x3), some (.int x4), some (.int x5), some (.int x6), some (.ref s0), u8, u9] [.int v4] f 0 0)))
theorem b_Mo_piece_82 {d : Nat} {E : Option Value → xH → Prop} {f : xH} {a0 : Nat} {x1 : Int32} {x2 : Int32} {x3 : Int32} {x4 : Int32} {x5 : Int32} {x6 : Int32} {u7 : Option Value} {u8 : Option Value} {u9 : Option Value} {s0 : Nat} (h : B_Mo_piece_82 d E f a0 x1 x2 x3 x4 x5 x6 u7 u8 u9 s0) : xWp (xT0, xSp xT0 d, none, m_Mo_piece, E) 82 [some (.ref a0), some (.int x1), some (.int x2), some (.int x3), some (.int x4), some (.int x5), some (.int x6), u7, u8, u9] [.ref s0] f 0 0 := by
  unfold B_Mo_piece_82 at h
  refine s_as l_Mo_piece_82 (Nat.le_of_ble_eq_true rfl) ?_
  refine s_iln l_Mo_piece_84 rfl ?_
  refine s_if l_Mo_piece_85 h (fun h => ?_) (fun h => ?_)
  · refine s_aln l_Mo_piece_98 rfl ?_
    refine s_gr l_Mo_piece_99 h (fun r1 h => ?_)
    refine s_il l_Mo_piece_102 rfl ?_
    refine s_ial l_Mo_piece_104 rfl h (fun v2 h => ?_)
    exact h
  · refine s_aln l_Mo_piece_88 rfl ?_
    refine s_gr l_Mo_piece_89 h (fun r3 h => ?_)
    refine s_il l_Mo_piece_92 rfl ?_
    refine s_ial l_Mo_piece_94 rfl h (fun v4 h => ?_)
    refine s_goto l_Mo_piece_95 ?_
    exact h
def B_Mo_piece_105 (d : Nat) (E : Option Value → xH → Prop) (f : xH) (a0 : Nat) (x1 : Int32) (x2 : Int32) (x3 : Int32) (x4 : Int32) (x5 : Int32) (x6 : Int32) (a7 : Nat) (u8 : Option Value) (u9 : Option Value) (s0 : Int32) : Prop :=
  xSp xT0 d j_Mo_bytesOf [.int s0] f (fun w1 f2 => xvi w1 (fun v3 => (∃ fs, f2 a0 = some (xO 11 fs)) ∧ xSp xT0 d j_Mo_pieces [.ref a0, .ref a7, .int (48 * x6), .int v3, .int x4] f2 (fun w4 f5 => xvi w4 (fun v6 => xbr ((if (0 : Int64) ≤ x4.toInt64 ∧ x4.toInt64 ≤ (v6 - 1).toInt64 then 1 else 0) = 0) (E (some (.int (-1))) f5) (xbr ((-2) ≤ x5) (xgi f5 a0 11 29 (fun v7 => xal f5 a7 0 ((48 * x6) + v7) (fun v8 => xbr (¬ x5 = (-2)) (xbr (¬ x5 = (-1)) (xbr ((0 : Int32) ≤ v8) (E (some (.int (-1))) f5) (xgi f5 a0 11 30 (fun v9 => xgi f5 a0 11 29 (fun v10 => xbr ((v9 - v10) ≤ x5) (E (some (.int (-1))) f5) (xgi f5 a0 11 29 (fun v11 => xal f5 a7 0 (((48 * x6) + v11) + x5) (fun v12 => E (some (.int ((-1) - v12))) f5))))))) (xbr ((0 : Int32) ≤ v8) (E (some (.int v8)) f5) (E (some (.int (-2))) f5))) (xgi f5 a0 11 30 (fun v13 => xgi f5 a0 11 29 (fun v14 => E (some (.int (v13 - v14))) f5)))))) (E (some (.int (-1))) f5))))))
theorem b_Mo_piece_105 {d : Nat} {E : Option Value → xH → Prop} {f : xH} {a0 : Nat} {x1 : Int32} {x2 : Int32} {x3 : Int32} {x4 : Int32} {x5 : Int32} {x6 : Int32} {a7 : Nat} {u8 : Option Value} {u9 : Option Value} {s0 : Int32} (h : B_Mo_piece_105 d E f a0 x1 x2 x3 x4 x5 x6 a7 u8 u9 s0) : xWp (xT0, xSp xT0 d, none, m_Mo_piece, E) 105 [some (.ref a0), some (.int x1), some (.int x2), some (.int x3), some (.int x4), some (.int x5), some (.int x6), some (.ref a7), u8, u9] [.int s0] f 0 0 := by
  unfold B_Mo_piece_105 at h
  refine s_csi (As := [.int s0]) (r := []) l_Mo_piece_105 rfl ⟨rfl, rfl⟩ rfl (Nat.le_of_ble_eq_true rfl) rfl ⟨Nat.zero_le _, Nat.zero_le _⟩ h (fun v3 f2 h => ?_)
  refine s_is l_Mo_piece_108 (Nat.le_of_ble_eq_true rfl) ?_
  refine s_il l_Mo_piece_110 rfl ?_
  refine s_i2l l_Mo_piece_112 ?_
  refine s_lc 0 l_Mo_piece_113 rfl ?_
  refine s_aln l_Mo_piece_114 rfl ?_
  refine s_al l_Mo_piece_115 rfl ?_
  refine s_bp 48 l_Mo_piece_117 rfl ?_
  refine s_il l_Mo_piece_119 rfl ?_
  refine s_imul l_Mo_piece_121 ?_
  refine s_il l_Mo_piece_122 rfl ?_
  refine s_il l_Mo_piece_124 rfl ?_
  refine s_cvi (As := [.ref a7, .int (48 * x6), .int v3, .int x4]) (r := [.long 0, .long x4.toInt64]) l_Mo_piece_126 rfl ⟨rfl, rfl⟩ rfl (Nat.le_of_ble_eq_true rfl) rfl ⟨Nat.zero_le _, Nat.zero_le _⟩ h (fun v6 f5 h => ?_)
  refine s_ic 1 l_Mo_piece_129 rfl ?_
  refine s_isub l_Mo_piece_130 ?_
  refine s_i2l l_Mo_piece_131 ?_
  refine s_in l_Mo_piece_132 (Nat.le_of_ble_eq_true rfl) ⟨Nat.zero_le _, Nat.zero_le _⟩ ?_
  refine s_if l_Mo_piece_135 h (fun h => ?_) (fun h => ?_)
  · refine s_ic (-1) l_Mo_piece_145 rfl ?_
    exact s_iret l_Mo_piece_146 rfl ⟨Nat.zero_le _, Nat.zero_le _⟩ h
  · refine s_il l_Mo_piece_138 rfl ?_
    refine s_bp (-2) l_Mo_piece_140 rfl ?_
    refine s_ifc l_Mo_piece_142 h (fun h => ?_) (fun h => ?_)
    · refine s_al l_Mo_piece_147 rfl ?_
      refine s_bp 48 l_Mo_piece_149 rfl ?_
      refine s_il l_Mo_piece_151 rfl ?_
      refine s_imul l_Mo_piece_153 ?_
      refine s_aln l_Mo_piece_154 rfl ?_
      refine s_gi l_Mo_piece_155 h (fun v7 h => ?_)
      refine s_iadd l_Mo_piece_158 ?_
      refine s_ial l_Mo_piece_159 rfl h (fun v8 h => ?_)
      refine s_is l_Mo_piece_160 (Nat.le_of_ble_eq_true rfl) ?_
      refine s_il l_Mo_piece_162 rfl ?_
      refine s_bp (-2) l_Mo_piece_164 rfl ?_
      refine s_ifc l_Mo_piece_166 h (fun h => ?_) (fun h => ?_)
      · refine s_il l_Mo_piece_179 rfl ?_
        refine s_ic (-1) l_Mo_piece_181 rfl ?_
        refine s_ifc l_Mo_piece_182 h (fun h => ?_) (fun h => ?_)
        · refine s_il l_Mo_piece_198 rfl ?_
          refine s_if l_Mo_piece_200 h (fun h => ?_) (fun h => ?_)
          · refine s_ic (-1) l_Mo_piece_238 rfl ?_
            exact s_iret l_Mo_piece_239 rfl ⟨Nat.zero_le _, Nat.zero_le _⟩ h
          · refine s_il l_Mo_piece_203 rfl ?_
            refine s_aln l_Mo_piece_205 rfl ?_
            refine s_gi l_Mo_piece_206 h (fun v9 h => ?_)
            refine s_aln l_Mo_piece_209 rfl ?_
            refine s_gi l_Mo_piece_210 h (fun v10 h => ?_)
            refine s_isub l_Mo_piece_213 ?_
            refine s_ifc l_Mo_piece_214 h (fun h => ?_) (fun h => ?_)
            · refine s_ic (-1) l_Mo_piece_238 rfl ?_
              exact s_iret l_Mo_piece_239 rfl ⟨Nat.zero_le _, Nat.zero_le _⟩ h
            · refine s_ic (-1) l_Mo_piece_217 rfl ?_
              refine s_al l_Mo_piece_218 rfl ?_
              refine s_bp 48 l_Mo_piece_220 rfl ?_
              refine s_il l_Mo_piece_222 rfl ?_
              refine s_imul l_Mo_piece_224 ?_
              refine s_aln l_Mo_piece_225 rfl ?_
              refine s_gi l_Mo_piece_226 h (fun v11 h => ?_)
              refine s_iadd l_Mo_piece_229 ?_
              refine s_il l_Mo_piece_230 rfl ?_
              refine s_iadd l_Mo_piece_232 ?_
              refine s_ial l_Mo_piece_233 rfl h (fun v12 h => ?_)
              refine s_isub l_Mo_piece_234 ?_
              refine s_goto l_Mo_piece_235 ?_
              exact s_iret l_Mo_piece_239 rfl ⟨Nat.zero_le _, Nat.zero_le _⟩ h
        · refine s_il l_Mo_piece_185 rfl ?_
          refine s_if l_Mo_piece_187 h (fun h => ?_) (fun h => ?_)
          · refine s_il l_Mo_piece_195 rfl ?_
            exact s_iret l_Mo_piece_197 rfl ⟨Nat.zero_le _, Nat.zero_le _⟩ h
          · refine s_bp (-2) l_Mo_piece_190 rfl ?_
            refine s_goto l_Mo_piece_192 ?_
            exact s_iret l_Mo_piece_197 rfl ⟨Nat.zero_le _, Nat.zero_le _⟩ h
      · refine s_aln l_Mo_piece_169 rfl ?_
        refine s_gi l_Mo_piece_170 h (fun v13 h => ?_)
        refine s_aln l_Mo_piece_173 rfl ?_
        refine s_gi l_Mo_piece_174 h (fun v14 h => ?_)
        refine s_isub l_Mo_piece_177 ?_
        exact s_iret l_Mo_piece_178 rfl ⟨Nat.zero_le _, Nat.zero_le _⟩ h
    · refine s_ic (-1) l_Mo_piece_145 rfl ?_
      exact s_iret l_Mo_piece_146 rfl ⟨Nat.zero_le _, Nat.zero_le _⟩ h
theorem l_Mo_apply_0 : xlk (xm_cd m_Mo_apply) 0 = some (.aload_n 0, 1, (0, 0, 0, [])) := rfl
theorem l_Mo_apply_1 : xlk (xm_cd m_Mo_apply) 1 = some (.iconst 0, 1, (0, 0, 0, [])) := rfl
theorem l_Mo_apply_2 : xlk (xm_cd m_Mo_apply) 2 = some (.putfield 1, 3, (849, 11, 0, [(0, 0)])) := rfl
theorem l_Mo_apply_5 : xlk (xm_cd m_Mo_apply) 5 = some (.aload_n 0, 1, (0, 0, 0, [])) := rfl
theorem l_Mo_apply_6 : xlk (xm_cd m_Mo_apply) 6 = some (.iload_n 1, 1, (0, 0, 0, [])) := rfl
theorem l_Mo_apply_7 : xlk (xm_cd m_Mo_apply) 7 = some (.invokevirtual 257, 3, (1081, 185, 1, [])) := rfl
theorem l_Mo_apply_10 : xlk (xm_cd m_Mo_apply) 10 = some (.ifCond .ne 11, 3, (0, 21, 0, [])) := rfl
theorem l_Mo_apply_13 : xlk (xm_cd m_Mo_apply) 13 = some (.aload_n 0, 1, (0, 0, 0, [])) := rfl
theorem l_Mo_apply_14 : xlk (xm_cd m_Mo_apply) 14 = some (.iload_n 2, 1, (0, 0, 0, [])) := rfl
theorem l_Mo_apply_15 : xlk (xm_cd m_Mo_apply) 15 = some (.invokevirtual 170, 3, (968, 151, 1, [])) := rfl
theorem l_Mo_apply_18 : xlk (xm_cd m_Mo_apply) 18 = some (.ifCond .eq 5, 3, (0, 23, 0, [])) := rfl
theorem l_Mo_apply_21 : xlk (xm_cd m_Mo_apply) 21 = some (.iconst (-1), 1, (0, 0, 0, [])) := rfl
theorem l_Mo_apply_22 : xlk (xm_cd m_Mo_apply) 22 = some (.ireturn, 1, (0, 0, 0, [])) := rfl
theorem l_Mo_apply_23 : xlk (xm_cd m_Mo_apply) 23 = some (.aload_n 0, 1, (0, 0, 0, [])) := rfl
theorem l_Mo_apply_24 : xlk (xm_cd m_Mo_apply) 24 = some (.getfield 152, 3, (859, 11, 10, [])) := rfl
theorem l_Mo_apply_27 : xlk (xm_cd m_Mo_apply) 27 = some (.bipush 12, 2, (0, 0, 0, [])) := rfl
theorem l_Mo_apply_29 : xlk (xm_cd m_Mo_apply) 29 = some (.if_icmp .ne 6, 3, (0, 35, 0, [])) := rfl
theorem l_Mo_apply_32 : xlk (xm_cd m_Mo_apply) 32 = some (.bipush (-3), 2, (0, 0, 0, [])) := rfl
theorem l_Mo_apply_34 : xlk (xm_cd m_Mo_apply) 34 = some (.ireturn, 1, (0, 0, 0, [])) := rfl
theorem l_Mo_apply_35 : xlk (xm_cd m_Mo_apply) 35 = some (.aload_n 0, 1, (0, 0, 0, [])) := rfl
theorem l_Mo_apply_36 : xlk (xm_cd m_Mo_apply) 36 = some (.iconst 0, 1, (0, 0, 0, [])) := rfl
theorem l_Mo_apply_37 : xlk (xm_cd m_Mo_apply) 37 = some (.putfield 282, 3, (883, 11, 34, [(0, 0)])) := rfl
theorem l_Mo_apply_40 : xlk (xm_cd m_Mo_apply) 40 = some (.iconst 0, 1, (0, 0, 0, [])) := rfl
theorem l_Mo_apply_41 : xlk (xm_cd m_Mo_apply) 41 = some (.istore 4, 2, (0, 0, 0, [])) := rfl
theorem l_Mo_apply_43 : xlk (xm_cd m_Mo_apply) 43 = some (.iload 4, 2, (0, 0, 0, [])) := rfl
theorem l_Mo_apply_45 : xlk (xm_cd m_Mo_apply) 45 = some (.bipush 24, 2, (0, 0, 0, [])) := rfl
theorem l_Mo_apply_47 : xlk (xm_cd m_Mo_apply) 47 = some (.if_icmp .ge 17, 3, (0, 64, 0, [])) := rfl
theorem l_Mo_apply_50 : xlk (xm_cd m_Mo_apply) 50 = some (.aload_n 0, 1, (0, 0, 0, [])) := rfl
theorem l_Mo_apply_51 : xlk (xm_cd m_Mo_apply) 51 = some (.getfield 87, 3, (880, 11, 31, [])) := rfl
theorem l_Mo_apply_54 : xlk (xm_cd m_Mo_apply) 54 = some (.iload 4, 2, (0, 0, 0, [])) := rfl
theorem l_Mo_apply_56 : xlk (xm_cd m_Mo_apply) 56 = some (.iconst 1, 1, (0, 0, 0, [])) := rfl
theorem l_Mo_apply_57 : xlk (xm_cd m_Mo_apply) 57 = some (.bastore, 1, (0, 0, 0, [])) := rfl
theorem l_Mo_apply_58 : xlk (xm_cd m_Mo_apply) 58 = some (.iinc 4 1, 3, (0, 0, 0, [])) := rfl
theorem l_Mo_apply_61 : xlk (xm_cd m_Mo_apply) 61 = some (.goto (-18), 3, (0, 43, 0, [])) := rfl
theorem l_Mo_apply_64 : xlk (xm_cd m_Mo_apply) 64 = some (.iconst 0, 1, (0, 0, 0, [])) := rfl
theorem l_Mo_apply_65 : xlk (xm_cd m_Mo_apply) 65 = some (.istore 4, 2, (0, 0, 0, [])) := rfl
theorem l_Mo_apply_67 : xlk (xm_cd m_Mo_apply) 67 = some (.iload 4, 2, (0, 0, 0, [])) := rfl
theorem l_Mo_apply_69 : xlk (xm_cd m_Mo_apply) 69 = some (.aload_n 0, 1, (0, 0, 0, [])) := rfl
theorem l_Mo_apply_70 : xlk (xm_cd m_Mo_apply) 70 = some (.getfield 69, 3, (871, 11, 22, [])) := rfl
theorem l_Mo_apply_73 : xlk (xm_cd m_Mo_apply) 73 = some (.iload_n 1, 1, (0, 0, 0, [])) := rfl
theorem l_Mo_apply_74 : xlk (xm_cd m_Mo_apply) 74 = some (.iaload, 1, (0, 0, 0, [])) := rfl
theorem l_Mo_apply_75 : xlk (xm_cd m_Mo_apply) 75 = some (.if_icmp .ge 95, 3, (0, 170, 0, [])) := rfl
theorem l_Mo_apply_78 : xlk (xm_cd m_Mo_apply) 78 = some (.aload_n 0, 1, (0, 0, 0, [])) := rfl
theorem l_Mo_apply_79 : xlk (xm_cd m_Mo_apply) 79 = some (.getfield 87, 3, (880, 11, 31, [])) := rfl
theorem l_Mo_apply_82 : xlk (xm_cd m_Mo_apply) 82 = some (.iload 4, 2, (0, 0, 0, [])) := rfl
theorem l_Mo_apply_84 : xlk (xm_cd m_Mo_apply) 84 = some (.baload, 1, (0, 0, 0, [])) := rfl
theorem l_Mo_apply_85 : xlk (xm_cd m_Mo_apply) 85 = some (.ifCond .eq 14, 3, (0, 99, 0, [])) := rfl
theorem l_Mo_apply_88 : xlk (xm_cd m_Mo_apply) 88 = some (.aload_n 0, 1, (0, 0, 0, [])) := rfl
theorem l_Mo_apply_89 : xlk (xm_cd m_Mo_apply) 89 = some (.iload_n 1, 1, (0, 0, 0, [])) := rfl
theorem l_Mo_apply_90 : xlk (xm_cd m_Mo_apply) 90 = some (.iload 4, 2, (0, 0, 0, [])) := rfl
theorem l_Mo_apply_92 : xlk (xm_cd m_Mo_apply) 92 = some (.iload_n 2, 1, (0, 0, 0, [])) := rfl
theorem l_Mo_apply_93 : xlk (xm_cd m_Mo_apply) 93 = some (.invokevirtual 285, 3, (1104, 191, 3, [])) := rfl
theorem l_Mo_apply_96 : xlk (xm_cd m_Mo_apply) 96 = some (.goto 4, 3, (0, 100, 0, [])) := rfl
theorem l_Mo_apply_99 : xlk (xm_cd m_Mo_apply) 99 = some (.iconst 0, 1, (0, 0, 0, [])) := rfl
theorem l_Mo_apply_100 : xlk (xm_cd m_Mo_apply) 100 = some (.istore 5, 2, (0, 0, 0, [])) := rfl
theorem l_Mo_apply_102 : xlk (xm_cd m_Mo_apply) 102 = some (.iinc 4 1, 3, (0, 0, 0, [])) := rfl
theorem l_Mo_apply_105 : xlk (xm_cd m_Mo_apply) 105 = some (.iload 5, 2, (0, 0, 0, [])) := rfl
theorem l_Mo_apply_107 : xlk (xm_cd m_Mo_apply) 107 = some (.ifCond .le 60, 3, (0, 167, 0, [])) := rfl
theorem l_Mo_apply_110 : xlk (xm_cd m_Mo_apply) 110 = some (.aload_n 0, 1, (0, 0, 0, [])) := rfl
theorem l_Mo_apply_111 : xlk (xm_cd m_Mo_apply) 111 = some (.getfield 91, 3, (881, 11, 32, [])) := rfl
theorem l_Mo_apply_114 : xlk (xm_cd m_Mo_apply) 114 = some (.aload_n 0, 1, (0, 0, 0, [])) := rfl
theorem l_Mo_apply_115 : xlk (xm_cd m_Mo_apply) 115 = some (.getfield 282, 3, (883, 11, 34, [])) := rfl
theorem l_Mo_apply_118 : xlk (xm_cd m_Mo_apply) 118 = some (.iload 4, 2, (0, 0, 0, [])) := rfl
theorem l_Mo_apply_120 : xlk (xm_cd m_Mo_apply) 120 = some (.iconst 1, 1, (0, 0, 0, [])) := rfl
theorem l_Mo_apply_121 : xlk (xm_cd m_Mo_apply) 121 = some (.isub, 1, (0, 0, 0, [])) := rfl
theorem l_Mo_apply_122 : xlk (xm_cd m_Mo_apply) 122 = some (.iastore, 1, (0, 0, 0, [])) := rfl
theorem l_Mo_apply_123 : xlk (xm_cd m_Mo_apply) 123 = some (.aload_n 0, 1, (0, 0, 0, [])) := rfl
theorem l_Mo_apply_124 : xlk (xm_cd m_Mo_apply) 124 = some (.getfield 94, 3, (882, 11, 33, [])) := rfl
theorem l_Mo_apply_127 : xlk (xm_cd m_Mo_apply) 127 = some (.aload_n 0, 1, (0, 0, 0, [])) := rfl
theorem l_Mo_apply_128 : xlk (xm_cd m_Mo_apply) 128 = some (.getfield 282, 3, (883, 11, 34, [])) := rfl
theorem l_Mo_apply_131 : xlk (xm_cd m_Mo_apply) 131 = some (.iload 5, 2, (0, 0, 0, [])) := rfl
theorem l_Mo_apply_133 : xlk (xm_cd m_Mo_apply) 133 = some (.iastore, 1, (0, 0, 0, [])) := rfl
theorem l_Mo_apply_134 : xlk (xm_cd m_Mo_apply) 134 = some (.aload_n 0, 1, (0, 0, 0, [])) := rfl
theorem l_Mo_apply_135 : xlk (xm_cd m_Mo_apply) 135 = some (.dup, 1, (0, 0, 0, [])) := rfl
theorem l_Mo_apply_136 : xlk (xm_cd m_Mo_apply) 136 = some (.getfield 282, 3, (883, 11, 34, [])) := rfl
theorem l_Mo_apply_139 : xlk (xm_cd m_Mo_apply) 139 = some (.iconst 1, 1, (0, 0, 0, [])) := rfl
theorem l_Mo_apply_140 : xlk (xm_cd m_Mo_apply) 140 = some (.iadd, 1, (0, 0, 0, [])) := rfl
theorem l_Mo_apply_141 : xlk (xm_cd m_Mo_apply) 141 = some (.putfield 282, 3, (883, 11, 34, [(0, 0)])) := rfl
theorem l_Mo_apply_144 : xlk (xm_cd m_Mo_apply) 144 = some (.aload_n 0, 1, (0, 0, 0, [])) := rfl
theorem l_Mo_apply_145 : xlk (xm_cd m_Mo_apply) 145 = some (.getfield 87, 3, (880, 11, 31, [])) := rfl
theorem l_Mo_apply_148 : xlk (xm_cd m_Mo_apply) 148 = some (.iload 4, 2, (0, 0, 0, [])) := rfl
theorem l_Mo_apply_150 : xlk (xm_cd m_Mo_apply) 150 = some (.iconst 1, 1, (0, 0, 0, [])) := rfl
theorem l_Mo_apply_151 : xlk (xm_cd m_Mo_apply) 151 = some (.isub, 1, (0, 0, 0, [])) := rfl
theorem l_Mo_apply_152 : xlk (xm_cd m_Mo_apply) 152 = some (.iconst 0, 1, (0, 0, 0, [])) := rfl
theorem l_Mo_apply_153 : xlk (xm_cd m_Mo_apply) 153 = some (.bastore, 1, (0, 0, 0, [])) := rfl
theorem l_Mo_apply_154 : xlk (xm_cd m_Mo_apply) 154 = some (.iload_n 3, 1, (0, 0, 0, [])) := rfl
theorem l_Mo_apply_155 : xlk (xm_cd m_Mo_apply) 155 = some (.ifCond .eq 9, 3, (0, 164, 0, [])) := rfl
theorem l_Mo_apply_158 : xlk (xm_cd m_Mo_apply) 158 = some (.bipush (-10), 2, (0, 0, 0, [])) := rfl
theorem l_Mo_apply_160 : xlk (xm_cd m_Mo_apply) 160 = some (.iload 5, 2, (0, 0, 0, [])) := rfl
theorem l_Mo_apply_162 : xlk (xm_cd m_Mo_apply) 162 = some (.isub, 1, (0, 0, 0, [])) := rfl
theorem l_Mo_apply_163 : xlk (xm_cd m_Mo_apply) 163 = some (.ireturn, 1, (0, 0, 0, [])) := rfl
theorem l_Mo_apply_164 : xlk (xm_cd m_Mo_apply) 164 = some (.iconst 0, 1, (0, 0, 0, [])) := rfl
theorem l_Mo_apply_165 : xlk (xm_cd m_Mo_apply) 165 = some (.istore 4, 2, (0, 0, 0, [])) := rfl
theorem l_Mo_apply_167 : xlk (xm_cd m_Mo_apply) 167 = some (.goto (-100), 3, (0, 67, 0, [])) := rfl
theorem l_Mo_apply_170 : xlk (xm_cd m_Mo_apply) 170 = some (.aload_n 0, 1, (0, 0, 0, [])) := rfl
theorem l_Mo_apply_171 : xlk (xm_cd m_Mo_apply) 171 = some (.iload_n 1, 1, (0, 0, 0, [])) := rfl
theorem l_Mo_apply_172 : xlk (xm_cd m_Mo_apply) 172 = some (.iload_n 2, 1, (0, 0, 0, [])) := rfl
theorem l_Mo_apply_173 : xlk (xm_cd m_Mo_apply) 173 = some (.invokevirtual 289, 3, (1116, 195, 2, [])) := rfl
theorem l_Mo_apply_176 : xlk (xm_cd m_Mo_apply) 176 = some (.ifCond .ne 6, 3, (0, 182, 0, [])) := rfl
theorem l_Mo_apply_179 : xlk (xm_cd m_Mo_apply) 179 = some (.bipush (-15), 2, (0, 0, 0, [])) := rfl
theorem l_Mo_apply_181 : xlk (xm_cd m_Mo_apply) 181 = some (.ireturn, 1, (0, 0, 0, [])) := rfl
theorem l_Mo_apply_182 : xlk (xm_cd m_Mo_apply) 182 = some (.aload_n 0, 1, (0, 0, 0, [])) := rfl
theorem l_Mo_apply_183 : xlk (xm_cd m_Mo_apply) 183 = some (.dup, 1, (0, 0, 0, [])) := rfl
theorem l_Mo_apply_184 : xlk (xm_cd m_Mo_apply) 184 = some (.getfield 152, 3, (859, 11, 10, [])) := rfl
theorem l_Mo_apply_187 : xlk (xm_cd m_Mo_apply) 187 = some (.iconst 1, 1, (0, 0, 0, [])) := rfl
theorem l_Mo_apply_188 : xlk (xm_cd m_Mo_apply) 188 = some (.iadd, 1, (0, 0, 0, [])) := rfl
theorem l_Mo_apply_189 : xlk (xm_cd m_Mo_apply) 189 = some (.putfield 152, 3, (859, 11, 10, [(0, 0)])) := rfl
theorem l_Mo_apply_192 : xlk (xm_cd m_Mo_apply) 192 = some (.aload_n 0, 1, (0, 0, 0, [])) := rfl
theorem l_Mo_apply_193 : xlk (xm_cd m_Mo_apply) 193 = some (.getfield 152, 3, (859, 11, 10, [])) := rfl
theorem l_Mo_apply_196 : xlk (xm_cd m_Mo_apply) 196 = some (.iconst 1, 1, (0, 0, 0, [])) := rfl
theorem l_Mo_apply_197 : xlk (xm_cd m_Mo_apply) 197 = some (.isub, 1, (0, 0, 0, [])) := rfl
theorem l_Mo_apply_198 : xlk (xm_cd m_Mo_apply) 198 = some (.ireturn, 1, (0, 0, 0, [])) := rfl
def B_Mo_apply_0 (d : Nat) (E : Option Value → xH → Prop) (f : xH) (a0 : Nat) (x1 : Int32) (x2 : Int32) (x3 : Int32) : Prop :=
  xpf f a0 11 0 (.int 0) (fun f1 => (∃ fs, f1 a0 = some (xO 11 fs)) ∧ xSp xT0 d j_Mo_noPatch [.ref a0, .int x1] f1 (fun w2 f3 => xvi w2 (fun v4 => xbr (¬ v4 = 0) (E (some (.int (-1))) f3) ((∃ fs, f3 a0 = some (xO 11 fs)) ∧ xSp xT0 d j_Mo_noTree [.ref a0, .int x2] f3 (fun w5 f6 => xvi w5 (fun v7 => xbr (v7 = 0) (xgi f6 a0 11 10 (fun v8 => xbr (¬ v8 = 12) (xpf f6 a0 11 34 (.int 0) (fun f9 => xWp (xT0, xSp xT0 d, none, m_Mo_apply, E) 43 [some (.ref a0), some (.int x1), some (.int x2), some (.int x3), some (.int 0), none] [] f9 0 0)) (E (some (.int (-3))) f6))) (E (some (.int (-1))) f6)))))))
theorem b_Mo_apply_0 {d : Nat} {E : Option Value → xH → Prop} {f : xH} {a0 : Nat} {x1 : Int32} {x2 : Int32} {x3 : Int32} (h : B_Mo_apply_0 d E f a0 x1 x2 x3) : xWp (xT0, xSp xT0 d, none, m_Mo_apply, E) 0 [some (.ref a0), some (.int x1), some (.int x2), some (.int x3), none, none] [] f 0 0 := by
  unfold B_Mo_apply_0 at h
  refine s_aln l_Mo_apply_0 rfl ?_
  refine s_ic 0 l_Mo_apply_1 rfl ?_
  refine s_pf l_Mo_apply_2 ⟨_, rfl⟩ h (fun f1 h => ?_)
  refine s_aln l_Mo_apply_5 rfl ?_
  refine s_iln l_Mo_apply_6 rfl ?_
  refine s_cvi (As := [.int x1]) (r := []) l_Mo_apply_7 rfl ⟨rfl, rfl⟩ rfl (Nat.le_of_ble_eq_true rfl) rfl ⟨Nat.zero_le _, Nat.zero_le _⟩ h (fun v4 f3 h => ?_)
  refine s_if l_Mo_apply_10 h (fun h => ?_) (fun h => ?_)
  · refine s_ic (-1) l_Mo_apply_21 rfl ?_
    exact s_iret l_Mo_apply_22 rfl ⟨Nat.zero_le _, Nat.zero_le _⟩ h
  · refine s_aln l_Mo_apply_13 rfl ?_
    refine s_iln l_Mo_apply_14 rfl ?_
    refine s_cvi (As := [.int x2]) (r := []) l_Mo_apply_15 rfl ⟨rfl, rfl⟩ rfl (Nat.le_of_ble_eq_true rfl) rfl ⟨Nat.zero_le _, Nat.zero_le _⟩ h (fun v7 f6 h => ?_)
    refine s_if l_Mo_apply_18 h (fun h => ?_) (fun h => ?_)
    · refine s_aln l_Mo_apply_23 rfl ?_
      refine s_gi l_Mo_apply_24 h (fun v8 h => ?_)
      refine s_bp 12 l_Mo_apply_27 rfl ?_
      refine s_ifc l_Mo_apply_29 h (fun h => ?_) (fun h => ?_)
      · refine s_aln l_Mo_apply_35 rfl ?_
        refine s_ic 0 l_Mo_apply_36 rfl ?_
        refine s_pf l_Mo_apply_37 ⟨_, rfl⟩ h (fun f9 h => ?_)
        refine s_ic 0 l_Mo_apply_40 rfl ?_
        refine s_is l_Mo_apply_41 (Nat.le_of_ble_eq_true rfl) ?_
        exact h
      · refine s_bp (-3) l_Mo_apply_32 rfl ?_
        exact s_iret l_Mo_apply_34 rfl ⟨Nat.zero_le _, Nat.zero_le _⟩ h
    · refine s_ic (-1) l_Mo_apply_21 rfl ?_
      exact s_iret l_Mo_apply_22 rfl ⟨Nat.zero_le _, Nat.zero_le _⟩ h
def B_Mo_apply_43 (d : Nat) (E : Option Value → xH → Prop) (f : xH) (a0 : Nat) (x1 : Int32) (x2 : Int32) (x3 : Int32) (x4 : Int32) (u5 : Option Value) : Prop :=
  xbr ((24 : Int32) ≤ x4) (xWp (xT0, xSp xT0 d, none, m_Mo_apply, E) 67 [some (.ref a0), some (.int x1), some (.int x2), some (.int x3), some (.int 0), u5] [] f 0 0) (xgr f a0 11 31 (fun r1 => xas f r1 1 x4 1 (fun f2 => xWp (xT0, xSp xT0 d, none, m_Mo_apply, E) 43 [some (.ref a0), some (.int x1), some (.int x2), some (.int x3), some (.int (x4 + 1)), u5] [] f2 0 0)))
theorem b_Mo_apply_43 {d : Nat} {E : Option Value → xH → Prop} {f : xH} {a0 : Nat} {x1 : Int32} {x2 : Int32} {x3 : Int32} {x4 : Int32} {u5 : Option Value} (h : B_Mo_apply_43 d E f a0 x1 x2 x3 x4 u5) : xWp (xT0, xSp xT0 d, none, m_Mo_apply, E) 43 [some (.ref a0), some (.int x1), some (.int x2), some (.int x3), some (.int x4), u5] [] f 0 0 := by
  unfold B_Mo_apply_43 at h
  refine s_il l_Mo_apply_43 rfl ?_
  refine s_bp 24 l_Mo_apply_45 rfl ?_
  refine s_ifc l_Mo_apply_47 h (fun h => ?_) (fun h => ?_)
  · refine s_ic 0 l_Mo_apply_64 rfl ?_
    refine s_is l_Mo_apply_65 (Nat.le_of_ble_eq_true rfl) ?_
    exact h
  · refine s_aln l_Mo_apply_50 rfl ?_
    refine s_gr l_Mo_apply_51 h (fun r1 h => ?_)
    refine s_il l_Mo_apply_54 rfl ?_
    refine s_ic 1 l_Mo_apply_56 rfl ?_
    refine s_zast l_Mo_apply_57 ⟨Or.inr rfl, h⟩ (fun f2 h => ?_)
    refine s_inc 1 l_Mo_apply_58 rfl rfl ?_
    refine s_goto l_Mo_apply_61 ?_
    exact h
def B_Mo_apply_67 (d : Nat) (E : Option Value → xH → Prop) (f : xH) (a0 : Nat) (x1 : Int32) (x2 : Int32) (x3 : Int32) (x4 : Int32) (u5 : Option Value) : Prop :=
  xgr f a0 11 22 (fun r1 => xal f r1 0 x1 (fun v2 => xbr (v2 ≤ x4) ((∃ fs, f a0 = some (xO 11 fs)) ∧ xSp xT0 d j_Mo_makeTree [.ref a0, .int x1, .int x2] f (fun w3 f4 => xvi w3 (fun v5 => xbr (¬ v5 = 0) (xgi f4 a0 11 10 (fun v6 => xpf f4 a0 11 10 (.int (v6 + 1)) (fun f7 => xgi f7 a0 11 10 (fun v8 => E (some (.int (v8 - 1))) f7)))) (E (some (.int (-15))) f4)))) (xgr f a0 11 31 (fun r9 => xal f r9 1 x4 (fun v10 => xbr (v10 = 0) (xWp (xT0, xSp xT0 d, none, m_Mo_apply, E) 100 [some (.ref a0), some (.int x1), some (.int x2), some (.int x3), some (.int x4), u5] [.int 0] f 0 0) ((∃ fs, f a0 = some (xO 11 fs)) ∧ xSp xT0 d j_Mo_ruleOf [.ref a0, .int x1, .int x4, .int x2] f (fun w11 f12 => xvi w11 (fun v13 => xWp (xT0, xSp xT0 d, none, m_Mo_apply, E) 100 [some (.ref a0), some (.int x1), some (.int x2), some (.int x3), some (.int x4), u5] [.int v13] f12 0 0))))))))
theorem b_Mo_apply_67 {d : Nat} {E : Option Value → xH → Prop} {f : xH} {a0 : Nat} {x1 : Int32} {x2 : Int32} {x3 : Int32} {x4 : Int32} {u5 : Option Value} (h : B_Mo_apply_67 d E f a0 x1 x2 x3 x4 u5) : xWp (xT0, xSp xT0 d, none, m_Mo_apply, E) 67 [some (.ref a0), some (.int x1), some (.int x2), some (.int x3), some (.int x4), u5] [] f 0 0 := by
  unfold B_Mo_apply_67 at h
  refine s_il l_Mo_apply_67 rfl ?_
  refine s_aln l_Mo_apply_69 rfl ?_
  refine s_gr l_Mo_apply_70 h (fun r1 h => ?_)
  refine s_iln l_Mo_apply_73 rfl ?_
  refine s_ial l_Mo_apply_74 rfl h (fun v2 h => ?_)
  refine s_ifc l_Mo_apply_75 h (fun h => ?_) (fun h => ?_)
  · refine s_aln l_Mo_apply_170 rfl ?_
    refine s_iln l_Mo_apply_171 rfl ?_
    refine s_iln l_Mo_apply_172 rfl ?_
    refine s_cvi (As := [.int x1, .int x2]) (r := []) l_Mo_apply_173 rfl ⟨rfl, rfl⟩ rfl (Nat.le_of_ble_eq_true rfl) rfl ⟨Nat.zero_le _, Nat.zero_le _⟩ h (fun v5 f4 h => ?_)
    refine s_if l_Mo_apply_176 h (fun h => ?_) (fun h => ?_)
    · refine s_aln l_Mo_apply_182 rfl ?_
      refine s_dup l_Mo_apply_183 rfl ?_
      refine s_gi l_Mo_apply_184 h (fun v6 h => ?_)
      refine s_ic 1 l_Mo_apply_187 rfl ?_
      refine s_iadd l_Mo_apply_188 ?_
      refine s_pf l_Mo_apply_189 ⟨_, rfl⟩ h (fun f7 h => ?_)
      refine s_aln l_Mo_apply_192 rfl ?_
      refine s_gi l_Mo_apply_193 h (fun v8 h => ?_)
      refine s_ic 1 l_Mo_apply_196 rfl ?_
      refine s_isub l_Mo_apply_197 ?_
      exact s_iret l_Mo_apply_198 rfl ⟨Nat.zero_le _, Nat.zero_le _⟩ h
    · refine s_bp (-15) l_Mo_apply_179 rfl ?_
      exact s_iret l_Mo_apply_181 rfl ⟨Nat.zero_le _, Nat.zero_le _⟩ h
  · refine s_aln l_Mo_apply_78 rfl ?_
    refine s_gr l_Mo_apply_79 h (fun r9 h => ?_)
    refine s_il l_Mo_apply_82 rfl ?_
    refine s_bal l_Mo_apply_84 (Or.inl rfl) h (fun v10 h => ?_)
    refine s_if l_Mo_apply_85 h (fun h => ?_) (fun h => ?_)
    · refine s_ic 0 l_Mo_apply_99 rfl ?_
      exact h
    · refine s_aln l_Mo_apply_88 rfl ?_
      refine s_iln l_Mo_apply_89 rfl ?_
      refine s_il l_Mo_apply_90 rfl ?_
      refine s_iln l_Mo_apply_92 rfl ?_
      refine s_cvi (As := [.int x1, .int x4, .int x2]) (r := []) l_Mo_apply_93 rfl ⟨rfl, rfl⟩ rfl (Nat.le_of_ble_eq_true rfl) rfl ⟨Nat.zero_le _, Nat.zero_le _⟩ h (fun v13 f12 h => ?_)
      refine s_goto l_Mo_apply_96 ?_
      exact h
def B_Mo_apply_100 (d : Nat) (E : Option Value → xH → Prop) (f : xH) (a0 : Nat) (x1 : Int32) (x2 : Int32) (x3 : Int32) (x4 : Int32) (u5 : Option Value) (s0 : Int32) : Prop :=
  xbr (s0 ≤ 0) (xWp (xT0, xSp xT0 d, none, m_Mo_apply, E) 67 [some (.ref a0), some (.int x1), some (.int x2), some (.int x3), some (.int (x4 + 1)), some (.int s0)] [] f 0 0) (xgr f a0 11 32 (fun r1 => xgi f a0 11 34 (fun v2 => xas f r1 0 v2 ((x4 + 1) - 1) (fun f3 => xgr f3 a0 11 33 (fun r4 => xgi f3 a0 11 34 (fun v5 => xas f3 r4 0 v5 s0 (fun f6 => xgi f6 a0 11 34 (fun v7 => xpf f6 a0 11 34 (.int (v7 + 1)) (fun f8 => xgr f8 a0 11 31 (fun r9 => xas f8 r9 1 ((x4 + 1) - 1) 0 (fun f10 => xbr (x3 = 0) (xWp (xT0, xSp xT0 d, none, m_Mo_apply, E) 67 [some (.ref a0), some (.int x1), some (.int x2), some (.int x3), some (.int 0), some (.int s0)] [] f10 0 0) (E (some (.int ((-10) - s0))) f10))))))))))))
theorem b_Mo_apply_100 {d : Nat} {E : Option Value → xH → Prop} {f : xH} {a0 : Nat} {x1 : Int32} {x2 : Int32} {x3 : Int32} {x4 : Int32} {u5 : Option Value} {s0 : Int32} (h : B_Mo_apply_100 d E f a0 x1 x2 x3 x4 u5 s0) : xWp (xT0, xSp xT0 d, none, m_Mo_apply, E) 100 [some (.ref a0), some (.int x1), some (.int x2), some (.int x3), some (.int x4), u5] [.int s0] f 0 0 := by
  unfold B_Mo_apply_100 at h
  refine s_is l_Mo_apply_100 (Nat.le_of_ble_eq_true rfl) ?_
  refine s_inc 1 l_Mo_apply_102 rfl rfl ?_
  refine s_il l_Mo_apply_105 rfl ?_
  refine s_if l_Mo_apply_107 h (fun h => ?_) (fun h => ?_)
  · refine s_goto l_Mo_apply_167 ?_
    exact h
  · refine s_aln l_Mo_apply_110 rfl ?_
    refine s_gr l_Mo_apply_111 h (fun r1 h => ?_)
    refine s_aln l_Mo_apply_114 rfl ?_
    refine s_gi l_Mo_apply_115 h (fun v2 h => ?_)
    refine s_il l_Mo_apply_118 rfl ?_
    refine s_ic 1 l_Mo_apply_120 rfl ?_
    refine s_isub l_Mo_apply_121 ?_
    refine s_iast l_Mo_apply_122 h (fun f3 h => ?_)
    refine s_aln l_Mo_apply_123 rfl ?_
    refine s_gr l_Mo_apply_124 h (fun r4 h => ?_)
    refine s_aln l_Mo_apply_127 rfl ?_
    refine s_gi l_Mo_apply_128 h (fun v5 h => ?_)
    refine s_il l_Mo_apply_131 rfl ?_
    refine s_iast l_Mo_apply_133 h (fun f6 h => ?_)
    refine s_aln l_Mo_apply_134 rfl ?_
    refine s_dup l_Mo_apply_135 rfl ?_
    refine s_gi l_Mo_apply_136 h (fun v7 h => ?_)
    refine s_ic 1 l_Mo_apply_139 rfl ?_
    refine s_iadd l_Mo_apply_140 ?_
    refine s_pf l_Mo_apply_141 ⟨_, rfl⟩ h (fun f8 h => ?_)
    refine s_aln l_Mo_apply_144 rfl ?_
    refine s_gr l_Mo_apply_145 h (fun r9 h => ?_)
    refine s_il l_Mo_apply_148 rfl ?_
    refine s_ic 1 l_Mo_apply_150 rfl ?_
    refine s_isub l_Mo_apply_151 ?_
    refine s_ic 0 l_Mo_apply_152 rfl ?_
    refine s_zast l_Mo_apply_153 ⟨Or.inl rfl, h⟩ (fun f10 h => ?_)
    refine s_iln l_Mo_apply_154 rfl ?_
    refine s_if l_Mo_apply_155 h (fun h => ?_) (fun h => ?_)
    · refine s_ic 0 l_Mo_apply_164 rfl ?_
      refine s_is l_Mo_apply_165 (Nat.le_of_ble_eq_true rfl) ?_
      refine s_goto l_Mo_apply_167 ?_
      exact h
    · refine s_bp (-10) l_Mo_apply_158 rfl ?_
      refine s_il l_Mo_apply_160 rfl ?_
      refine s_isub l_Mo_apply_162 ?_
      exact s_iret l_Mo_apply_163 rfl ⟨Nat.zero_le _, Nat.zero_le _⟩ h
theorem l_Mo_ruleOf_0 : xlk (xm_cd m_Mo_ruleOf) 0 = some (.bipush 24, 2, (0, 0, 0, [])) := rfl
theorem l_Mo_ruleOf_2 : xlk (xm_cd m_Mo_ruleOf) 2 = some (.iload_n 1, 1, (0, 0, 0, [])) := rfl
theorem l_Mo_ruleOf_3 : xlk (xm_cd m_Mo_ruleOf) 3 = some (.imul, 1, (0, 0, 0, [])) := rfl
theorem l_Mo_ruleOf_4 : xlk (xm_cd m_Mo_ruleOf) 4 = some (.iload_n 2, 1, (0, 0, 0, [])) := rfl
theorem l_Mo_ruleOf_5 : xlk (xm_cd m_Mo_ruleOf) 5 = some (.iadd, 1, (0, 0, 0, [])) := rfl
theorem l_Mo_ruleOf_6 : xlk (xm_cd m_Mo_ruleOf) 6 = some (.istore 4, 2, (0, 0, 0, [])) := rfl
theorem l_Mo_ruleOf_8 : xlk (xm_cd m_Mo_ruleOf) 8 = some (.aload_n 0, 1, (0, 0, 0, [])) := rfl
theorem l_Mo_ruleOf_9 : xlk (xm_cd m_Mo_ruleOf) 9 = some (.iload 4, 2, (0, 0, 0, [])) := rfl
theorem l_Mo_ruleOf_11 : xlk (xm_cd m_Mo_ruleOf) 11 = some (.iload_n 3, 1, (0, 0, 0, [])) := rfl
theorem l_Mo_ruleOf_12 : xlk (xm_cd m_Mo_ruleOf) 12 = some (.invokevirtual 272, 3, (1107, 192, 2, [])) := rfl
theorem l_Mo_ruleOf_15 : xlk (xm_cd m_Mo_ruleOf) 15 = some (.istore 5, 2, (0, 0, 0, [])) := rfl
theorem l_Mo_ruleOf_17 : xlk (xm_cd m_Mo_ruleOf) 17 = some (.aload_n 0, 1, (0, 0, 0, [])) := rfl
theorem l_Mo_ruleOf_18 : xlk (xm_cd m_Mo_ruleOf) 18 = some (.getfield 36, 3, (860, 11, 11, [])) := rfl
theorem l_Mo_ruleOf_21 : xlk (xm_cd m_Mo_ruleOf) 21 = some (.iload 4, 2, (0, 0, 0, [])) := rfl
theorem l_Mo_ruleOf_23 : xlk (xm_cd m_Mo_ruleOf) 23 = some (.iaload, 1, (0, 0, 0, [])) := rfl
theorem l_Mo_ruleOf_24 : xlk (xm_cd m_Mo_ruleOf) 24 = some (.ifCond .eq 68, 3, (0, 92, 0, [])) := rfl
theorem l_Mo_ruleOf_27 : xlk (xm_cd m_Mo_ruleOf) 27 = some (.iload 5, 2, (0, 0, 0, [])) := rfl
theorem l_Mo_ruleOf_29 : xlk (xm_cd m_Mo_ruleOf) 29 = some (.bipush (-2), 2, (0, 0, 0, [])) := rfl
theorem l_Mo_ruleOf_31 : xlk (xm_cd m_Mo_ruleOf) 31 = some (.if_icmp .ne 5, 3, (0, 36, 0, [])) := rfl
theorem l_Mo_ruleOf_34 : xlk (xm_cd m_Mo_ruleOf) 34 = some (.iconst 1, 1, (0, 0, 0, [])) := rfl
theorem l_Mo_ruleOf_35 : xlk (xm_cd m_Mo_ruleOf) 35 = some (.ireturn, 1, (0, 0, 0, [])) := rfl
theorem l_Mo_ruleOf_36 : xlk (xm_cd m_Mo_ruleOf) 36 = some (.iload_n 3, 1, (0, 0, 0, [])) := rfl
theorem l_Mo_ruleOf_37 : xlk (xm_cd m_Mo_ruleOf) 37 = some (.iload 5, 2, (0, 0, 0, [])) := rfl
theorem l_Mo_ruleOf_39 : xlk (xm_cd m_Mo_ruleOf) 39 = some (.invokestatic 155, 3, (971, 152, 2, [])) := rfl
theorem l_Mo_ruleOf_42 : xlk (xm_cd m_Mo_ruleOf) 42 = some (.istore 6, 2, (0, 0, 0, [])) := rfl
theorem l_Mo_ruleOf_44 : xlk (xm_cd m_Mo_ruleOf) 44 = some (.aload_n 0, 1, (0, 0, 0, [])) := rfl
theorem l_Mo_ruleOf_45 : xlk (xm_cd m_Mo_ruleOf) 45 = some (.getfield 30, 3, (857, 11, 8, [])) := rfl
theorem l_Mo_ruleOf_48 : xlk (xm_cd m_Mo_ruleOf) 48 = some (.iload 6, 2, (0, 0, 0, [])) := rfl
theorem l_Mo_ruleOf_50 : xlk (xm_cd m_Mo_ruleOf) 50 = some (.iaload, 1, (0, 0, 0, [])) := rfl
theorem l_Mo_ruleOf_51 : xlk (xm_cd m_Mo_ruleOf) 51 = some (.aload_n 0, 1, (0, 0, 0, [])) := rfl
theorem l_Mo_ruleOf_52 : xlk (xm_cd m_Mo_ruleOf) 52 = some (.getfield 51, 3, (865, 11, 16, [])) := rfl
theorem l_Mo_ruleOf_55 : xlk (xm_cd m_Mo_ruleOf) 55 = some (.iload 4, 2, (0, 0, 0, [])) := rfl
theorem l_Mo_ruleOf_57 : xlk (xm_cd m_Mo_ruleOf) 57 = some (.iaload, 1, (0, 0, 0, [])) := rfl
theorem l_Mo_ruleOf_58 : xlk (xm_cd m_Mo_ruleOf) 58 = some (.if_icmp .ne 32, 3, (0, 90, 0, [])) := rfl
theorem l_Mo_ruleOf_61 : xlk (xm_cd m_Mo_ruleOf) 61 = some (.aload_n 0, 1, (0, 0, 0, [])) := rfl
theorem l_Mo_ruleOf_62 : xlk (xm_cd m_Mo_ruleOf) 62 = some (.getfield 27, 3, (856, 11, 7, [])) := rfl
theorem l_Mo_ruleOf_65 : xlk (xm_cd m_Mo_ruleOf) 65 = some (.bipush 48, 2, (0, 0, 0, [])) := rfl
theorem l_Mo_ruleOf_67 : xlk (xm_cd m_Mo_ruleOf) 67 = some (.iload 6, 2, (0, 0, 0, [])) := rfl
theorem l_Mo_ruleOf_69 : xlk (xm_cd m_Mo_ruleOf) 69 = some (.imul, 1, (0, 0, 0, [])) := rfl
theorem l_Mo_ruleOf_70 : xlk (xm_cd m_Mo_ruleOf) 70 = some (.aload_n 0, 1, (0, 0, 0, [])) := rfl
theorem l_Mo_ruleOf_71 : xlk (xm_cd m_Mo_ruleOf) 71 = some (.getfield 30, 3, (857, 11, 8, [])) := rfl
theorem l_Mo_ruleOf_74 : xlk (xm_cd m_Mo_ruleOf) 74 = some (.iload 6, 2, (0, 0, 0, [])) := rfl
theorem l_Mo_ruleOf_76 : xlk (xm_cd m_Mo_ruleOf) 76 = some (.iaload, 1, (0, 0, 0, [])) := rfl
theorem l_Mo_ruleOf_77 : xlk (xm_cd m_Mo_ruleOf) 77 = some (.invokestatic 188, 3, (1011, 164, 3, [])) := rfl
theorem l_Mo_ruleOf_80 : xlk (xm_cd m_Mo_ruleOf) 80 = some (.aload_n 0, 1, (0, 0, 0, [])) := rfl
theorem l_Mo_ruleOf_81 : xlk (xm_cd m_Mo_ruleOf) 81 = some (.getfield 54, 3, (866, 11, 17, [])) := rfl
theorem l_Mo_ruleOf_84 : xlk (xm_cd m_Mo_ruleOf) 84 = some (.iload 4, 2, (0, 0, 0, [])) := rfl
theorem l_Mo_ruleOf_86 : xlk (xm_cd m_Mo_ruleOf) 86 = some (.iaload, 1, (0, 0, 0, [])) := rfl
theorem l_Mo_ruleOf_87 : xlk (xm_cd m_Mo_ruleOf) 87 = some (.if_icmp .eq 5, 3, (0, 92, 0, [])) := rfl
theorem l_Mo_ruleOf_90 : xlk (xm_cd m_Mo_ruleOf) 90 = some (.iconst 2, 1, (0, 0, 0, [])) := rfl
theorem l_Mo_ruleOf_91 : xlk (xm_cd m_Mo_ruleOf) 91 = some (.ireturn, 1, (0, 0, 0, [])) := rfl
theorem l_Mo_ruleOf_92 : xlk (xm_cd m_Mo_ruleOf) 92 = some (.aload_n 0, 1, (0, 0, 0, [])) := rfl
theorem l_Mo_ruleOf_93 : xlk (xm_cd m_Mo_ruleOf) 93 = some (.getfield 36, 3, (860, 11, 11, [])) := rfl
theorem l_Mo_ruleOf_96 : xlk (xm_cd m_Mo_ruleOf) 96 = some (.iload 4, 2, (0, 0, 0, [])) := rfl
theorem l_Mo_ruleOf_98 : xlk (xm_cd m_Mo_ruleOf) 98 = some (.iaload, 1, (0, 0, 0, [])) := rfl
theorem l_Mo_ruleOf_99 : xlk (xm_cd m_Mo_ruleOf) 99 = some (.iconst 1, 1, (0, 0, 0, [])) := rfl
theorem l_Mo_ruleOf_100 : xlk (xm_cd m_Mo_ruleOf) 100 = some (.if_icmp .ne 5, 3, (0, 105, 0, [])) := rfl
theorem l_Mo_ruleOf_103 : xlk (xm_cd m_Mo_ruleOf) 103 = some (.iconst 0, 1, (0, 0, 0, [])) := rfl
theorem l_Mo_ruleOf_104 : xlk (xm_cd m_Mo_ruleOf) 104 = some (.ireturn, 1, (0, 0, 0, [])) := rfl
theorem l_Mo_ruleOf_105 : xlk (xm_cd m_Mo_ruleOf) 105 = some (.aload_n 0, 1, (0, 0, 0, [])) := rfl
theorem l_Mo_ruleOf_106 : xlk (xm_cd m_Mo_ruleOf) 106 = some (.iload 4, 2, (0, 0, 0, [])) := rfl
theorem l_Mo_ruleOf_108 : xlk (xm_cd m_Mo_ruleOf) 108 = some (.aload_n 0, 1, (0, 0, 0, [])) := rfl
theorem l_Mo_ruleOf_109 : xlk (xm_cd m_Mo_ruleOf) 109 = some (.getfield 27, 3, (856, 11, 7, [])) := rfl
theorem l_Mo_ruleOf_112 : xlk (xm_cd m_Mo_ruleOf) 112 = some (.iload 5, 2, (0, 0, 0, [])) := rfl
theorem l_Mo_ruleOf_114 : xlk (xm_cd m_Mo_ruleOf) 114 = some (.bipush (-2), 2, (0, 0, 0, [])) := rfl
theorem l_Mo_ruleOf_116 : xlk (xm_cd m_Mo_ruleOf) 116 = some (.if_icmp .ne 7, 3, (0, 123, 0, [])) := rfl
theorem l_Mo_ruleOf_119 : xlk (xm_cd m_Mo_ruleOf) 119 = some (.iconst 0, 1, (0, 0, 0, [])) := rfl
theorem l_Mo_ruleOf_120 : xlk (xm_cd m_Mo_ruleOf) 120 = some (.goto 12, 3, (0, 132, 0, [])) := rfl
theorem l_Mo_ruleOf_123 : xlk (xm_cd m_Mo_ruleOf) 123 = some (.bipush 48, 2, (0, 0, 0, [])) := rfl
theorem l_Mo_ruleOf_125 : xlk (xm_cd m_Mo_ruleOf) 125 = some (.iload_n 3, 1, (0, 0, 0, [])) := rfl
theorem l_Mo_ruleOf_126 : xlk (xm_cd m_Mo_ruleOf) 126 = some (.iload 5, 2, (0, 0, 0, [])) := rfl
theorem l_Mo_ruleOf_128 : xlk (xm_cd m_Mo_ruleOf) 128 = some (.invokestatic 155, 3, (971, 152, 2, [])) := rfl
theorem l_Mo_ruleOf_131 : xlk (xm_cd m_Mo_ruleOf) 131 = some (.imul, 1, (0, 0, 0, [])) := rfl
theorem l_Mo_ruleOf_132 : xlk (xm_cd m_Mo_ruleOf) 132 = some (.iconst 0, 1, (0, 0, 0, [])) := rfl
theorem l_Mo_ruleOf_133 : xlk (xm_cd m_Mo_ruleOf) 133 = some (.invokevirtual 275, 3, (1110, 193, 4, [])) := rfl
theorem l_Mo_ruleOf_136 : xlk (xm_cd m_Mo_ruleOf) 136 = some (.aload_n 0, 1, (0, 0, 0, [])) := rfl
theorem l_Mo_ruleOf_137 : xlk (xm_cd m_Mo_ruleOf) 137 = some (.getfield 97, 3, (884, 11, 35, [])) := rfl
theorem l_Mo_ruleOf_140 : xlk (xm_cd m_Mo_ruleOf) 140 = some (.iconst 0, 1, (0, 0, 0, [])) := rfl
theorem l_Mo_ruleOf_141 : xlk (xm_cd m_Mo_ruleOf) 141 = some (.aload_n 0, 1, (0, 0, 0, [])) := rfl
theorem l_Mo_ruleOf_142 : xlk (xm_cd m_Mo_ruleOf) 142 = some (.getfield 57, 3, (867, 11, 18, [])) := rfl
theorem l_Mo_ruleOf_145 : xlk (xm_cd m_Mo_ruleOf) 145 = some (.iload 4, 2, (0, 0, 0, [])) := rfl
theorem l_Mo_ruleOf_147 : xlk (xm_cd m_Mo_ruleOf) 147 = some (.iaload, 1, (0, 0, 0, [])) := rfl
theorem l_Mo_ruleOf_148 : xlk (xm_cd m_Mo_ruleOf) 148 = some (.invokestatic 188, 3, (1011, 164, 3, [])) := rfl
theorem l_Mo_ruleOf_151 : xlk (xm_cd m_Mo_ruleOf) 151 = some (.aload_n 0, 1, (0, 0, 0, [])) := rfl
theorem l_Mo_ruleOf_152 : xlk (xm_cd m_Mo_ruleOf) 152 = some (.getfield 60, 3, (868, 11, 19, [])) := rfl
theorem l_Mo_ruleOf_155 : xlk (xm_cd m_Mo_ruleOf) 155 = some (.iload 4, 2, (0, 0, 0, [])) := rfl
theorem l_Mo_ruleOf_157 : xlk (xm_cd m_Mo_ruleOf) 157 = some (.iaload, 1, (0, 0, 0, [])) := rfl
theorem l_Mo_ruleOf_158 : xlk (xm_cd m_Mo_ruleOf) 158 = some (.if_icmp .eq 5, 3, (0, 163, 0, [])) := rfl
theorem l_Mo_ruleOf_161 : xlk (xm_cd m_Mo_ruleOf) 161 = some (.iconst 4, 1, (0, 0, 0, [])) := rfl
theorem l_Mo_ruleOf_162 : xlk (xm_cd m_Mo_ruleOf) 162 = some (.ireturn, 1, (0, 0, 0, [])) := rfl
theorem l_Mo_ruleOf_163 : xlk (xm_cd m_Mo_ruleOf) 163 = some (.aload_n 0, 1, (0, 0, 0, [])) := rfl
theorem l_Mo_ruleOf_164 : xlk (xm_cd m_Mo_ruleOf) 164 = some (.iload_n 3, 1, (0, 0, 0, [])) := rfl
theorem l_Mo_ruleOf_165 : xlk (xm_cd m_Mo_ruleOf) 165 = some (.aload_n 0, 1, (0, 0, 0, [])) := rfl
theorem l_Mo_ruleOf_166 : xlk (xm_cd m_Mo_ruleOf) 166 = some (.getfield 39, 3, (861, 11, 12, [])) := rfl
theorem l_Mo_ruleOf_169 : xlk (xm_cd m_Mo_ruleOf) 169 = some (.bipush 18, 2, (0, 0, 0, [])) := rfl
theorem l_Mo_ruleOf_171 : xlk (xm_cd m_Mo_ruleOf) 171 = some (.iload 4, 2, (0, 0, 0, [])) := rfl
theorem l_Mo_ruleOf_173 : xlk (xm_cd m_Mo_ruleOf) 173 = some (.imul, 1, (0, 0, 0, [])) := rfl
theorem l_Mo_ruleOf_174 : xlk (xm_cd m_Mo_ruleOf) 174 = some (.aload_n 0, 1, (0, 0, 0, [])) := rfl
theorem l_Mo_ruleOf_175 : xlk (xm_cd m_Mo_ruleOf) 175 = some (.getfield 42, 3, (862, 11, 13, [])) := rfl
theorem l_Mo_ruleOf_178 : xlk (xm_cd m_Mo_ruleOf) 178 = some (.iload 4, 2, (0, 0, 0, [])) := rfl
theorem l_Mo_ruleOf_180 : xlk (xm_cd m_Mo_ruleOf) 180 = some (.iaload, 1, (0, 0, 0, [])) := rfl
theorem l_Mo_ruleOf_181 : xlk (xm_cd m_Mo_ruleOf) 181 = some (.invokevirtual 174, 3, (984, 156, 4, [])) := rfl
theorem l_Mo_ruleOf_184 : xlk (xm_cd m_Mo_ruleOf) 184 = some (.ifCond .lt 31, 3, (0, 215, 0, [])) := rfl
theorem l_Mo_ruleOf_187 : xlk (xm_cd m_Mo_ruleOf) 187 = some (.aload_n 0, 1, (0, 0, 0, [])) := rfl
theorem l_Mo_ruleOf_188 : xlk (xm_cd m_Mo_ruleOf) 188 = some (.iload_n 1, 1, (0, 0, 0, [])) := rfl
theorem l_Mo_ruleOf_189 : xlk (xm_cd m_Mo_ruleOf) 189 = some (.aload_n 0, 1, (0, 0, 0, [])) := rfl
theorem l_Mo_ruleOf_190 : xlk (xm_cd m_Mo_ruleOf) 190 = some (.getfield 39, 3, (861, 11, 12, [])) := rfl
theorem l_Mo_ruleOf_193 : xlk (xm_cd m_Mo_ruleOf) 193 = some (.bipush 18, 2, (0, 0, 0, [])) := rfl
theorem l_Mo_ruleOf_195 : xlk (xm_cd m_Mo_ruleOf) 195 = some (.iload 4, 2, (0, 0, 0, [])) := rfl
theorem l_Mo_ruleOf_197 : xlk (xm_cd m_Mo_ruleOf) 197 = some (.imul, 1, (0, 0, 0, [])) := rfl
theorem l_Mo_ruleOf_198 : xlk (xm_cd m_Mo_ruleOf) 198 = some (.aload_n 0, 1, (0, 0, 0, [])) := rfl
theorem l_Mo_ruleOf_199 : xlk (xm_cd m_Mo_ruleOf) 199 = some (.getfield 42, 3, (862, 11, 13, [])) := rfl
theorem l_Mo_ruleOf_202 : xlk (xm_cd m_Mo_ruleOf) 202 = some (.iload 4, 2, (0, 0, 0, [])) := rfl
theorem l_Mo_ruleOf_204 : xlk (xm_cd m_Mo_ruleOf) 204 = some (.iaload, 1, (0, 0, 0, [])) := rfl
theorem l_Mo_ruleOf_205 : xlk (xm_cd m_Mo_ruleOf) 205 = some (.invokevirtual 279, 3, (1113, 194, 4, [])) := rfl
theorem l_Mo_ruleOf_208 : xlk (xm_cd m_Mo_ruleOf) 208 = some (.ifCond .ne 7, 3, (0, 215, 0, [])) := rfl
theorem l_Mo_ruleOf_211 : xlk (xm_cd m_Mo_ruleOf) 211 = some (.iconst 3, 1, (0, 0, 0, [])) := rfl
theorem l_Mo_ruleOf_212 : xlk (xm_cd m_Mo_ruleOf) 212 = some (.goto 4, 3, (0, 216, 0, [])) := rfl
theorem l_Mo_ruleOf_215 : xlk (xm_cd m_Mo_ruleOf) 215 = some (.iconst 0, 1, (0, 0, 0, [])) := rfl
theorem l_Mo_ruleOf_216 : xlk (xm_cd m_Mo_ruleOf) 216 = some (.ireturn, 1, (0, 0, 0, [])) := rfl
def B_Mo_ruleOf_0 (d : Nat) (E : Option Value → xH → Prop) (f : xH) (a0 : Nat) (x1 : Int32) (x2 : Int32) (x3 : Int32) : Prop :=
  (∃ fs, f a0 = some (xO 11 fs)) ∧ xSp xT0 d j_Mo_sourceOf [.ref a0, .int ((24 * x1) + x2), .int x3] f (fun w1 f2 => xvi w1 (fun v3 => xgr f2 a0 11 11 (fun r4 => xal f2 r4 0 ((24 * x1) + x2) (fun v5 => xbr (v5 = 0) (xWp (xT0, xSp xT0 d, none, m_Mo_ruleOf, E) 92 [some (.ref a0), some (.int x1), some (.int x2), some (.int x3), some (.int ((24 * x1) + x2)), some (.int v3), none] [] f2 0 0) (xbr (¬ v3 = (-2)) (xSp xT0 d j_Mo_at [.int x3, .int v3] f2 (fun w6 f7 => xvi w6 (fun v8 => xgr f7 a0 11 8 (fun r9 => xal f7 r9 0 v8 (fun v10 => xgr f7 a0 11 16 (fun r11 => xal f7 r11 0 ((24 * x1) + x2) (fun v12 => xbr (¬ v10 = v12) (E (some (.int 2)) f7) (xgr f7 a0 11 7 (fun r13 => xgr f7 a0 11 8 (fun r14 => xal f7 r14 0 v8 (fun v15 => xSp xT0 d j_Mo_sum [.ref r13, .int (48 * v8), .int v15] f7 (fun w16 f17 => xvi w16 (fun v18 => xgr f17 a0 11 17 (fun r19 => xal f17 r19 0 ((24 * x1) + x2) (fun v20 => xbr (v18 = v20) (xWp (xT0, xSp xT0 d, none, m_Mo_ruleOf, E) 92 [some (.ref a0), some (.int x1), some (.int x2), some (.int x3), some (.int ((24 * x1) + x2)), some (.int v3), some (.int v8)] [] f17 0 0) (E (some (.int 2)) f17)))))))))))))))) (E (some (.int 1)) f2))))))
theorem b_Mo_ruleOf_0 {d : Nat} {E : Option Value → xH → Prop} {f : xH} {a0 : Nat} {x1 : Int32} {x2 : Int32} {x3 : Int32} (h : B_Mo_ruleOf_0 d E f a0 x1 x2 x3) : xWp (xT0, xSp xT0 d, none, m_Mo_ruleOf, E) 0 [some (.ref a0), some (.int x1), some (.int x2), some (.int x3), none, none, none] [] f 0 0 := by
  unfold B_Mo_ruleOf_0 at h
  refine s_bp 24 l_Mo_ruleOf_0 rfl ?_
  refine s_iln l_Mo_ruleOf_2 rfl ?_
  refine s_imul l_Mo_ruleOf_3 ?_
  refine s_iln l_Mo_ruleOf_4 rfl ?_
  refine s_iadd l_Mo_ruleOf_5 ?_
  refine s_is l_Mo_ruleOf_6 (Nat.le_of_ble_eq_true rfl) ?_
  refine s_aln l_Mo_ruleOf_8 rfl ?_
  refine s_il l_Mo_ruleOf_9 rfl ?_
  refine s_iln l_Mo_ruleOf_11 rfl ?_
  refine s_cvi (As := [.int ((24 * x1) + x2), .int x3]) (r := []) l_Mo_ruleOf_12 rfl ⟨rfl, rfl⟩ rfl (Nat.le_of_ble_eq_true rfl) rfl ⟨Nat.zero_le _, Nat.zero_le _⟩ h (fun v3 f2 h => ?_)
  refine s_is l_Mo_ruleOf_15 (Nat.le_of_ble_eq_true rfl) ?_
  refine s_aln l_Mo_ruleOf_17 rfl ?_
  refine s_gr l_Mo_ruleOf_18 h (fun r4 h => ?_)
  refine s_il l_Mo_ruleOf_21 rfl ?_
  refine s_ial l_Mo_ruleOf_23 rfl h (fun v5 h => ?_)
  refine s_if l_Mo_ruleOf_24 h (fun h => ?_) (fun h => ?_)
  · exact h
  · refine s_il l_Mo_ruleOf_27 rfl ?_
    refine s_bp (-2) l_Mo_ruleOf_29 rfl ?_
    refine s_ifc l_Mo_ruleOf_31 h (fun h => ?_) (fun h => ?_)
    · refine s_iln l_Mo_ruleOf_36 rfl ?_
      refine s_il l_Mo_ruleOf_37 rfl ?_
      refine s_csi (As := [.int x3, .int v3]) (r := []) l_Mo_ruleOf_39 rfl ⟨rfl, rfl⟩ rfl (Nat.le_of_ble_eq_true rfl) rfl ⟨Nat.zero_le _, Nat.zero_le _⟩ h (fun v8 f7 h => ?_)
      refine s_is l_Mo_ruleOf_42 (Nat.le_of_ble_eq_true rfl) ?_
      refine s_aln l_Mo_ruleOf_44 rfl ?_
      refine s_gr l_Mo_ruleOf_45 h (fun r9 h => ?_)
      refine s_il l_Mo_ruleOf_48 rfl ?_
      refine s_ial l_Mo_ruleOf_50 rfl h (fun v10 h => ?_)
      refine s_aln l_Mo_ruleOf_51 rfl ?_
      refine s_gr l_Mo_ruleOf_52 h (fun r11 h => ?_)
      refine s_il l_Mo_ruleOf_55 rfl ?_
      refine s_ial l_Mo_ruleOf_57 rfl h (fun v12 h => ?_)
      refine s_ifc l_Mo_ruleOf_58 h (fun h => ?_) (fun h => ?_)
      · refine s_ic 2 l_Mo_ruleOf_90 rfl ?_
        exact s_iret l_Mo_ruleOf_91 rfl ⟨Nat.zero_le _, Nat.zero_le _⟩ h
      · refine s_aln l_Mo_ruleOf_61 rfl ?_
        refine s_gr l_Mo_ruleOf_62 h (fun r13 h => ?_)
        refine s_bp 48 l_Mo_ruleOf_65 rfl ?_
        refine s_il l_Mo_ruleOf_67 rfl ?_
        refine s_imul l_Mo_ruleOf_69 ?_
        refine s_aln l_Mo_ruleOf_70 rfl ?_
        refine s_gr l_Mo_ruleOf_71 h (fun r14 h => ?_)
        refine s_il l_Mo_ruleOf_74 rfl ?_
        refine s_ial l_Mo_ruleOf_76 rfl h (fun v15 h => ?_)
        refine s_csi (As := [.ref r13, .int (48 * v8), .int v15]) (r := []) l_Mo_ruleOf_77 rfl ⟨rfl, rfl⟩ rfl (Nat.le_of_ble_eq_true rfl) rfl ⟨Nat.zero_le _, Nat.zero_le _⟩ h (fun v18 f17 h => ?_)
        refine s_aln l_Mo_ruleOf_80 rfl ?_
        refine s_gr l_Mo_ruleOf_81 h (fun r19 h => ?_)
        refine s_il l_Mo_ruleOf_84 rfl ?_
        refine s_ial l_Mo_ruleOf_86 rfl h (fun v20 h => ?_)
        refine s_ifc l_Mo_ruleOf_87 h (fun h => ?_) (fun h => ?_)
        · exact h
        · refine s_ic 2 l_Mo_ruleOf_90 rfl ?_
          exact s_iret l_Mo_ruleOf_91 rfl ⟨Nat.zero_le _, Nat.zero_le _⟩ h
    · refine s_ic 1 l_Mo_ruleOf_34 rfl ?_
      exact s_iret l_Mo_ruleOf_35 rfl ⟨Nat.zero_le _, Nat.zero_le _⟩ h
def B_Mo_ruleOf_92 (d : Nat) (E : Option Value → xH → Prop) (f : xH) (a0 : Nat) (x1 : Int32) (x2 : Int32) (x3 : Int32) (x4 : Int32) (x5 : Int32) (u6 : Option Value) : Prop :=
  xgr f a0 11 11 (fun r1 => xal f r1 0 x4 (fun v2 => xbr (¬ v2 = 1) (xgr f a0 11 7 (fun r3 => xbr (¬ x5 = (-2)) (xSp xT0 d j_Mo_at [.int x3, .int x5] f (fun w4 f5 => xvi w4 (fun v6 => xWp (xT0, xSp xT0 d, none, m_Mo_ruleOf, E) 132 [some (.ref a0), some (.int x1), some (.int x2), some (.int x3), some (.int x4), some (.int x5), u6] [.int (48 * v6), .ref r3, .int x4, .ref a0] f5 0 0))) (xWp (xT0, xSp xT0 d, none, m_Mo_ruleOf, E) 132 [some (.ref a0), some (.int x1), some (.int x2), some (.int x3), some (.int x4), some (.int x5), u6] [.int 0, .ref r3, .int x4, .ref a0] f 0 0))) (E (some (.int 0)) f)))
theorem b_Mo_ruleOf_92 {d : Nat} {E : Option Value → xH → Prop} {f : xH} {a0 : Nat} {x1 : Int32} {x2 : Int32} {x3 : Int32} {x4 : Int32} {x5 : Int32} {u6 : Option Value} (h : B_Mo_ruleOf_92 d E f a0 x1 x2 x3 x4 x5 u6) : xWp (xT0, xSp xT0 d, none, m_Mo_ruleOf, E) 92 [some (.ref a0), some (.int x1), some (.int x2), some (.int x3), some (.int x4), some (.int x5), u6] [] f 0 0 := by
  unfold B_Mo_ruleOf_92 at h
  refine s_aln l_Mo_ruleOf_92 rfl ?_
  refine s_gr l_Mo_ruleOf_93 h (fun r1 h => ?_)
  refine s_il l_Mo_ruleOf_96 rfl ?_
  refine s_ial l_Mo_ruleOf_98 rfl h (fun v2 h => ?_)
  refine s_ic 1 l_Mo_ruleOf_99 rfl ?_
  refine s_ifc l_Mo_ruleOf_100 h (fun h => ?_) (fun h => ?_)
  · refine s_aln l_Mo_ruleOf_105 rfl ?_
    refine s_il l_Mo_ruleOf_106 rfl ?_
    refine s_aln l_Mo_ruleOf_108 rfl ?_
    refine s_gr l_Mo_ruleOf_109 h (fun r3 h => ?_)
    refine s_il l_Mo_ruleOf_112 rfl ?_
    refine s_bp (-2) l_Mo_ruleOf_114 rfl ?_
    refine s_ifc l_Mo_ruleOf_116 h (fun h => ?_) (fun h => ?_)
    · refine s_bp 48 l_Mo_ruleOf_123 rfl ?_
      refine s_iln l_Mo_ruleOf_125 rfl ?_
      refine s_il l_Mo_ruleOf_126 rfl ?_
      refine s_csi (As := [.int x3, .int x5]) (r := [.int 48, .ref r3, .int x4, .ref a0]) l_Mo_ruleOf_128 rfl ⟨rfl, rfl⟩ rfl (Nat.le_of_ble_eq_true rfl) rfl ⟨Nat.zero_le _, Nat.zero_le _⟩ h (fun v6 f5 h => ?_)
      refine s_imul l_Mo_ruleOf_131 ?_
      exact h
    · refine s_ic 0 l_Mo_ruleOf_119 rfl ?_
      refine s_goto l_Mo_ruleOf_120 ?_
      exact h
  · refine s_ic 0 l_Mo_ruleOf_103 rfl ?_
    exact s_iret l_Mo_ruleOf_104 rfl ⟨Nat.zero_le _, Nat.zero_le _⟩ h
def B_Mo_ruleOf_132 (d : Nat) (E : Option Value → xH → Prop) (f : xH) (a0 : Nat) (x1 : Int32) (x2 : Int32) (x3 : Int32) (x4 : Int32) (x5 : Int32) (u6 : Option Value) (s0 : Int32) (s1 : Nat) (s2 : Int32) (s3 : Nat) : Prop :=
  (∃ fs, f s3 = some (xO 11 fs)) ∧ xSp xT0 d j_Mo_make [.ref s3, .int s2, .ref s1, .int s0, .int 0] f (fun w1 f2 => xvv w1 (xgr f2 a0 11 35 (fun r3 => xgr f2 a0 11 18 (fun r4 => xal f2 r4 0 x4 (fun v5 => xSp xT0 d j_Mo_sum [.ref r3, .int 0, .int v5] f2 (fun w6 f7 => xvi w6 (fun v8 => xgr f7 a0 11 19 (fun r9 => xal f7 r9 0 x4 (fun v10 => xbr (v8 = v10) (xgr f7 a0 11 12 (fun r11 => xgr f7 a0 11 13 (fun r12 => xal f7 r12 0 x4 (fun v13 => (∃ fs, f7 a0 = some (xO 11 fs)) ∧ xSp xT0 d j_Mo_find [.ref a0, .int x3, .ref r11, .int (18 * x4), .int v13] f7 (fun w14 f15 => xvi w14 (fun v16 => xbr (v16 < 0) (E (some (.int 0)) f15) (xgr f15 a0 11 12 (fun r17 => xgr f15 a0 11 13 (fun r18 => xal f15 r18 0 x4 (fun v19 => (∃ fs, f15 a0 = some (xO 11 fs)) ∧ xSp xT0 d j_Mo_isSource [.ref a0, .int x1, .ref r17, .int (18 * x4), .int v19] f15 (fun w20 f21 => xvi w20 (fun v22 => xbr (¬ v22 = 0) (E (some (.int 0)) f21) (E (some (.int 3)) f21))))))))))))) (E (some (.int 4)) f7))))))))))
theorem b_Mo_ruleOf_132 {d : Nat} {E : Option Value → xH → Prop} {f : xH} {a0 : Nat} {x1 : Int32} {x2 : Int32} {x3 : Int32} {x4 : Int32} {x5 : Int32} {u6 : Option Value} {s0 : Int32} {s1 : Nat} {s2 : Int32} {s3 : Nat} (h : B_Mo_ruleOf_132 d E f a0 x1 x2 x3 x4 x5 u6 s0 s1 s2 s3) : xWp (xT0, xSp xT0 d, none, m_Mo_ruleOf, E) 132 [some (.ref a0), some (.int x1), some (.int x2), some (.int x3), some (.int x4), some (.int x5), u6] [.int s0, .ref s1, .int s2, .ref s3] f 0 0 := by
  unfold B_Mo_ruleOf_132 at h
  refine s_ic 0 l_Mo_ruleOf_132 rfl ?_
  refine s_cvv (As := [.int s2, .ref s1, .int s0, .int 0]) (r := []) l_Mo_ruleOf_133 rfl ⟨rfl, rfl⟩ rfl (Nat.le_of_ble_eq_true rfl) rfl ⟨Nat.zero_le _, Nat.zero_le _⟩ h (fun f2 h => ?_)
  refine s_aln l_Mo_ruleOf_136 rfl ?_
  refine s_gr l_Mo_ruleOf_137 h (fun r3 h => ?_)
  refine s_ic 0 l_Mo_ruleOf_140 rfl ?_
  refine s_aln l_Mo_ruleOf_141 rfl ?_
  refine s_gr l_Mo_ruleOf_142 h (fun r4 h => ?_)
  refine s_il l_Mo_ruleOf_145 rfl ?_
  refine s_ial l_Mo_ruleOf_147 rfl h (fun v5 h => ?_)
  refine s_csi (As := [.ref r3, .int 0, .int v5]) (r := []) l_Mo_ruleOf_148 rfl ⟨rfl, rfl⟩ rfl (Nat.le_of_ble_eq_true rfl) rfl ⟨Nat.zero_le _, Nat.zero_le _⟩ h (fun v8 f7 h => ?_)
  refine s_aln l_Mo_ruleOf_151 rfl ?_
  refine s_gr l_Mo_ruleOf_152 h (fun r9 h => ?_)
  refine s_il l_Mo_ruleOf_155 rfl ?_
  refine s_ial l_Mo_ruleOf_157 rfl h (fun v10 h => ?_)
  refine s_ifc l_Mo_ruleOf_158 h (fun h => ?_) (fun h => ?_)
  · refine s_aln l_Mo_ruleOf_163 rfl ?_
    refine s_iln l_Mo_ruleOf_164 rfl ?_
    refine s_aln l_Mo_ruleOf_165 rfl ?_
    refine s_gr l_Mo_ruleOf_166 h (fun r11 h => ?_)
    refine s_bp 18 l_Mo_ruleOf_169 rfl ?_
    refine s_il l_Mo_ruleOf_171 rfl ?_
    refine s_imul l_Mo_ruleOf_173 ?_
    refine s_aln l_Mo_ruleOf_174 rfl ?_
    refine s_gr l_Mo_ruleOf_175 h (fun r12 h => ?_)
    refine s_il l_Mo_ruleOf_178 rfl ?_
    refine s_ial l_Mo_ruleOf_180 rfl h (fun v13 h => ?_)
    refine s_cvi (As := [.int x3, .ref r11, .int (18 * x4), .int v13]) (r := []) l_Mo_ruleOf_181 rfl ⟨rfl, rfl⟩ rfl (Nat.le_of_ble_eq_true rfl) rfl ⟨Nat.zero_le _, Nat.zero_le _⟩ h (fun v16 f15 h => ?_)
    refine s_if l_Mo_ruleOf_184 h (fun h => ?_) (fun h => ?_)
    · refine s_ic 0 l_Mo_ruleOf_215 rfl ?_
      exact s_iret l_Mo_ruleOf_216 rfl ⟨Nat.zero_le _, Nat.zero_le _⟩ h
    · refine s_aln l_Mo_ruleOf_187 rfl ?_
      refine s_iln l_Mo_ruleOf_188 rfl ?_
      refine s_aln l_Mo_ruleOf_189 rfl ?_
      refine s_gr l_Mo_ruleOf_190 h (fun r17 h => ?_)
      refine s_bp 18 l_Mo_ruleOf_193 rfl ?_
      refine s_il l_Mo_ruleOf_195 rfl ?_
      refine s_imul l_Mo_ruleOf_197 ?_
      refine s_aln l_Mo_ruleOf_198 rfl ?_
      refine s_gr l_Mo_ruleOf_199 h (fun r18 h => ?_)
      refine s_il l_Mo_ruleOf_202 rfl ?_
      refine s_ial l_Mo_ruleOf_204 rfl h (fun v19 h => ?_)
      refine s_cvi (As := [.int x1, .ref r17, .int (18 * x4), .int v19]) (r := []) l_Mo_ruleOf_205 rfl ⟨rfl, rfl⟩ rfl (Nat.le_of_ble_eq_true rfl) rfl ⟨Nat.zero_le _, Nat.zero_le _⟩ h (fun v22 f21 h => ?_)
      refine s_if l_Mo_ruleOf_208 h (fun h => ?_) (fun h => ?_)
      · refine s_ic 0 l_Mo_ruleOf_215 rfl ?_
        exact s_iret l_Mo_ruleOf_216 rfl ⟨Nat.zero_le _, Nat.zero_le _⟩ h
      · refine s_ic 3 l_Mo_ruleOf_211 rfl ?_
        refine s_goto l_Mo_ruleOf_212 ?_
        exact s_iret l_Mo_ruleOf_216 rfl ⟨Nat.zero_le _, Nat.zero_le _⟩ h
  · refine s_ic 4 l_Mo_ruleOf_161 rfl ?_
    exact s_iret l_Mo_ruleOf_162 rfl ⟨Nat.zero_le _, Nat.zero_le _⟩ h
theorem l_Mo_sourceOf_0 : xlk (xm_cd m_Mo_sourceOf) 0 = some (.aload_n 0, 1, (0, 0, 0, [])) := rfl
theorem l_Mo_sourceOf_1 : xlk (xm_cd m_Mo_sourceOf) 1 = some (.getfield 36, 3, (860, 11, 11, [])) := rfl
theorem l_Mo_sourceOf_4 : xlk (xm_cd m_Mo_sourceOf) 4 = some (.iload_n 1, 1, (0, 0, 0, [])) := rfl
theorem l_Mo_sourceOf_5 : xlk (xm_cd m_Mo_sourceOf) 5 = some (.iaload, 1, (0, 0, 0, [])) := rfl
theorem l_Mo_sourceOf_6 : xlk (xm_cd m_Mo_sourceOf) 6 = some (.ifCond .ne 8, 3, (0, 14, 0, [])) := rfl
theorem l_Mo_sourceOf_9 : xlk (xm_cd m_Mo_sourceOf) 9 = some (.bipush (-2), 2, (0, 0, 0, [])) := rfl
theorem l_Mo_sourceOf_11 : xlk (xm_cd m_Mo_sourceOf) 11 = some (.goto 22, 3, (0, 33, 0, [])) := rfl
theorem l_Mo_sourceOf_14 : xlk (xm_cd m_Mo_sourceOf) 14 = some (.aload_n 0, 1, (0, 0, 0, [])) := rfl
theorem l_Mo_sourceOf_15 : xlk (xm_cd m_Mo_sourceOf) 15 = some (.iload_n 2, 1, (0, 0, 0, [])) := rfl
theorem l_Mo_sourceOf_16 : xlk (xm_cd m_Mo_sourceOf) 16 = some (.aload_n 0, 1, (0, 0, 0, [])) := rfl
theorem l_Mo_sourceOf_17 : xlk (xm_cd m_Mo_sourceOf) 17 = some (.getfield 45, 3, (863, 11, 14, [])) := rfl
theorem l_Mo_sourceOf_20 : xlk (xm_cd m_Mo_sourceOf) 20 = some (.bipush 18, 2, (0, 0, 0, [])) := rfl
theorem l_Mo_sourceOf_22 : xlk (xm_cd m_Mo_sourceOf) 22 = some (.iload_n 1, 1, (0, 0, 0, [])) := rfl
theorem l_Mo_sourceOf_23 : xlk (xm_cd m_Mo_sourceOf) 23 = some (.imul, 1, (0, 0, 0, [])) := rfl
theorem l_Mo_sourceOf_24 : xlk (xm_cd m_Mo_sourceOf) 24 = some (.aload_n 0, 1, (0, 0, 0, [])) := rfl
theorem l_Mo_sourceOf_25 : xlk (xm_cd m_Mo_sourceOf) 25 = some (.getfield 48, 3, (864, 11, 15, [])) := rfl
theorem l_Mo_sourceOf_28 : xlk (xm_cd m_Mo_sourceOf) 28 = some (.iload_n 1, 1, (0, 0, 0, [])) := rfl
theorem l_Mo_sourceOf_29 : xlk (xm_cd m_Mo_sourceOf) 29 = some (.iaload, 1, (0, 0, 0, [])) := rfl
theorem l_Mo_sourceOf_30 : xlk (xm_cd m_Mo_sourceOf) 30 = some (.invokevirtual 174, 3, (984, 156, 4, [])) := rfl
theorem l_Mo_sourceOf_33 : xlk (xm_cd m_Mo_sourceOf) 33 = some (.ireturn, 1, (0, 0, 0, [])) := rfl
def B_Mo_sourceOf_0 (d : Nat) (E : Option Value → xH → Prop) (f : xH) (a0 : Nat) (x1 : Int32) (x2 : Int32) : Prop :=
  xgr f a0 11 11 (fun r1 => xal f r1 0 x1 (fun v2 => xbr (¬ v2 = 0) (xgr f a0 11 14 (fun r3 => xgr f a0 11 15 (fun r4 => xal f r4 0 x1 (fun v5 => (∃ fs, f a0 = some (xO 11 fs)) ∧ xSp xT0 d j_Mo_find [.ref a0, .int x2, .ref r3, .int (18 * x1), .int v5] f (fun w6 f7 => xvi w6 (fun v8 => E (some (.int v8)) f7)))))) (E (some (.int (-2))) f)))
theorem b_Mo_sourceOf_0 {d : Nat} {E : Option Value → xH → Prop} {f : xH} {a0 : Nat} {x1 : Int32} {x2 : Int32} (h : B_Mo_sourceOf_0 d E f a0 x1 x2) : xWp (xT0, xSp xT0 d, none, m_Mo_sourceOf, E) 0 [some (.ref a0), some (.int x1), some (.int x2)] [] f 0 0 := by
  unfold B_Mo_sourceOf_0 at h
  refine s_aln l_Mo_sourceOf_0 rfl ?_
  refine s_gr l_Mo_sourceOf_1 h (fun r1 h => ?_)
  refine s_iln l_Mo_sourceOf_4 rfl ?_
  refine s_ial l_Mo_sourceOf_5 rfl h (fun v2 h => ?_)
  refine s_if l_Mo_sourceOf_6 h (fun h => ?_) (fun h => ?_)
  · refine s_aln l_Mo_sourceOf_14 rfl ?_
    refine s_iln l_Mo_sourceOf_15 rfl ?_
    refine s_aln l_Mo_sourceOf_16 rfl ?_
    refine s_gr l_Mo_sourceOf_17 h (fun r3 h => ?_)
    refine s_bp 18 l_Mo_sourceOf_20 rfl ?_
    refine s_iln l_Mo_sourceOf_22 rfl ?_
    refine s_imul l_Mo_sourceOf_23 ?_
    refine s_aln l_Mo_sourceOf_24 rfl ?_
    refine s_gr l_Mo_sourceOf_25 h (fun r4 h => ?_)
    refine s_iln l_Mo_sourceOf_28 rfl ?_
    refine s_ial l_Mo_sourceOf_29 rfl h (fun v5 h => ?_)
    refine s_cvi (As := [.int x2, .ref r3, .int (18 * x1), .int v5]) (r := []) l_Mo_sourceOf_30 rfl ⟨rfl, rfl⟩ rfl (Nat.le_of_ble_eq_true rfl) rfl ⟨Nat.zero_le _, Nat.zero_le _⟩ h (fun v8 f7 h => ?_)
    exact s_iret l_Mo_sourceOf_33 rfl ⟨Nat.zero_le _, Nat.zero_le _⟩ h
  · refine s_bp (-2) l_Mo_sourceOf_9 rfl ?_
    refine s_goto l_Mo_sourceOf_11 ?_
    exact s_iret l_Mo_sourceOf_33 rfl ⟨Nat.zero_le _, Nat.zero_le _⟩ h
theorem l_Mo_make_0 : xlk (xm_cd m_Mo_make) 0 = some (.iconst 0, 1, (0, 0, 0, [])) := rfl
theorem l_Mo_make_1 : xlk (xm_cd m_Mo_make) 1 = some (.istore 5, 2, (0, 0, 0, [])) := rfl
theorem l_Mo_make_3 : xlk (xm_cd m_Mo_make) 3 = some (.iload 5, 2, (0, 0, 0, [])) := rfl
theorem l_Mo_make_5 : xlk (xm_cd m_Mo_make) 5 = some (.aload_n 0, 1, (0, 0, 0, [])) := rfl
theorem l_Mo_make_6 : xlk (xm_cd m_Mo_make) 6 = some (.getfield 57, 3, (867, 11, 18, [])) := rfl
theorem l_Mo_make_9 : xlk (xm_cd m_Mo_make) 9 = some (.iload_n 1, 1, (0, 0, 0, [])) := rfl
theorem l_Mo_make_10 : xlk (xm_cd m_Mo_make) 10 = some (.iaload, 1, (0, 0, 0, [])) := rfl
theorem l_Mo_make_11 : xlk (xm_cd m_Mo_make) 11 = some (.invokestatic 262, 3, (1085, 186, 1, [])) := rfl
theorem l_Mo_make_14 : xlk (xm_cd m_Mo_make) 14 = some (.if_icmp .ge 52, 3, (0, 66, 0, [])) := rfl
theorem l_Mo_make_17 : xlk (xm_cd m_Mo_make) 17 = some (.aload_n 0, 1, (0, 0, 0, [])) := rfl
theorem l_Mo_make_18 : xlk (xm_cd m_Mo_make) 18 = some (.getfield 63, 3, (869, 11, 20, [])) := rfl
theorem l_Mo_make_21 : xlk (xm_cd m_Mo_make) 21 = some (.bipush 48, 2, (0, 0, 0, [])) := rfl
theorem l_Mo_make_23 : xlk (xm_cd m_Mo_make) 23 = some (.iload_n 1, 1, (0, 0, 0, [])) := rfl
theorem l_Mo_make_24 : xlk (xm_cd m_Mo_make) 24 = some (.imul, 1, (0, 0, 0, [])) := rfl
theorem l_Mo_make_25 : xlk (xm_cd m_Mo_make) 25 = some (.iload 5, 2, (0, 0, 0, [])) := rfl
theorem l_Mo_make_27 : xlk (xm_cd m_Mo_make) 27 = some (.iadd, 1, (0, 0, 0, [])) := rfl
theorem l_Mo_make_28 : xlk (xm_cd m_Mo_make) 28 = some (.iaload, 1, (0, 0, 0, [])) := rfl
theorem l_Mo_make_29 : xlk (xm_cd m_Mo_make) 29 = some (.istore 6, 2, (0, 0, 0, [])) := rfl
theorem l_Mo_make_31 : xlk (xm_cd m_Mo_make) 31 = some (.aload_n 0, 1, (0, 0, 0, [])) := rfl
theorem l_Mo_make_32 : xlk (xm_cd m_Mo_make) 32 = some (.getfield 97, 3, (884, 11, 35, [])) := rfl
theorem l_Mo_make_35 : xlk (xm_cd m_Mo_make) 35 = some (.iload 4, 2, (0, 0, 0, [])) := rfl
theorem l_Mo_make_37 : xlk (xm_cd m_Mo_make) 37 = some (.iload 5, 2, (0, 0, 0, [])) := rfl
theorem l_Mo_make_39 : xlk (xm_cd m_Mo_make) 39 = some (.iadd, 1, (0, 0, 0, [])) := rfl
theorem l_Mo_make_40 : xlk (xm_cd m_Mo_make) 40 = some (.iload 6, 2, (0, 0, 0, [])) := rfl
theorem l_Mo_make_42 : xlk (xm_cd m_Mo_make) 42 = some (.ifCond .ge 11, 3, (0, 53, 0, [])) := rfl
theorem l_Mo_make_45 : xlk (xm_cd m_Mo_make) 45 = some (.iconst (-1), 1, (0, 0, 0, [])) := rfl
theorem l_Mo_make_46 : xlk (xm_cd m_Mo_make) 46 = some (.iload 6, 2, (0, 0, 0, [])) := rfl
theorem l_Mo_make_48 : xlk (xm_cd m_Mo_make) 48 = some (.isub, 1, (0, 0, 0, [])) := rfl
theorem l_Mo_make_49 : xlk (xm_cd m_Mo_make) 49 = some (.i2b, 1, (0, 0, 0, [])) := rfl
theorem l_Mo_make_50 : xlk (xm_cd m_Mo_make) 50 = some (.goto 9, 3, (0, 59, 0, [])) := rfl
theorem l_Mo_make_53 : xlk (xm_cd m_Mo_make) 53 = some (.aload_n 2, 1, (0, 0, 0, [])) := rfl
theorem l_Mo_make_54 : xlk (xm_cd m_Mo_make) 54 = some (.iload_n 3, 1, (0, 0, 0, [])) := rfl
theorem l_Mo_make_55 : xlk (xm_cd m_Mo_make) 55 = some (.iload 6, 2, (0, 0, 0, [])) := rfl
theorem l_Mo_make_57 : xlk (xm_cd m_Mo_make) 57 = some (.iadd, 1, (0, 0, 0, [])) := rfl
theorem l_Mo_make_58 : xlk (xm_cd m_Mo_make) 58 = some (.baload, 1, (0, 0, 0, [])) := rfl
theorem l_Mo_make_59 : xlk (xm_cd m_Mo_make) 59 = some (.bastore, 1, (0, 0, 0, [])) := rfl
theorem l_Mo_make_60 : xlk (xm_cd m_Mo_make) 60 = some (.iinc 5 1, 3, (0, 0, 0, [])) := rfl
theorem l_Mo_make_63 : xlk (xm_cd m_Mo_make) 63 = some (.goto (-60), 3, (0, 3, 0, [])) := rfl
theorem l_Mo_make_66 : xlk (xm_cd m_Mo_make) 66 = some (.return_, 1, (0, 0, 0, [])) := rfl
def B_Mo_make_0 (d : Nat) (E : Option Value → xH → Prop) (f : xH) (a0 : Nat) (x1 : Int32) (a2 : Nat) (x3 : Int32) (x4 : Int32) : Prop :=
  xWp (xT0, xSp xT0 d, none, m_Mo_make, E) 3 [some (.ref a0), some (.int x1), some (.ref a2), some (.int x3), some (.int x4), some (.int 0), none] [] f 0 0
theorem b_Mo_make_0 {d : Nat} {E : Option Value → xH → Prop} {f : xH} {a0 : Nat} {x1 : Int32} {a2 : Nat} {x3 : Int32} {x4 : Int32} (h : B_Mo_make_0 d E f a0 x1 a2 x3 x4) : xWp (xT0, xSp xT0 d, none, m_Mo_make, E) 0 [some (.ref a0), some (.int x1), some (.ref a2), some (.int x3), some (.int x4), none, none] [] f 0 0 := by
  unfold B_Mo_make_0 at h
  refine s_ic 0 l_Mo_make_0 rfl ?_
  refine s_is l_Mo_make_1 (Nat.le_of_ble_eq_true rfl) ?_
  exact h
def B_Mo_make_3 (d : Nat) (E : Option Value → xH → Prop) (f : xH) (a0 : Nat) (x1 : Int32) (a2 : Nat) (x3 : Int32) (x4 : Int32) (x5 : Int32) (u6 : Option Value) : Prop :=
  xgr f a0 11 18 (fun r1 => xal f r1 0 x1 (fun v2 => xSp xT0 d j_Mo_bytesOf [.int v2] f (fun w3 f4 => xvi w3 (fun v5 => xbr (v5 ≤ x5) (E none f4) (xgr f4 a0 11 20 (fun r6 => xal f4 r6 0 ((48 * x1) + x5) (fun v7 => xgr f4 a0 11 35 (fun r8 => xbr ((0 : Int32) ≤ v7) (xal f4 a2 2 (x3 + v7) (fun v9 => xas f4 r8 2 (x4 + x5) v9.toInt8.toInt32 (fun f10 => xWp (xT0, xSp xT0 d, none, m_Mo_make, E) 3 [some (.ref a0), some (.int x1), some (.ref a2), some (.int x3), some (.int x4), some (.int (x5 + 1)), some (.int v7)] [] f10 0 0))) (xas f4 r8 2 (x4 + x5) (((-1) - v7).toInt8.toInt32).toInt8.toInt32 (fun f11 => xWp (xT0, xSp xT0 d, none, m_Mo_make, E) 3 [some (.ref a0), some (.int x1), some (.ref a2), some (.int x3), some (.int x4), some (.int (x5 + 1)), some (.int v7)] [] f11 0 0))))))))))
theorem b_Mo_make_3 {d : Nat} {E : Option Value → xH → Prop} {f : xH} {a0 : Nat} {x1 : Int32} {a2 : Nat} {x3 : Int32} {x4 : Int32} {x5 : Int32} {u6 : Option Value} (h : B_Mo_make_3 d E f a0 x1 a2 x3 x4 x5 u6) : xWp (xT0, xSp xT0 d, none, m_Mo_make, E) 3 [some (.ref a0), some (.int x1), some (.ref a2), some (.int x3), some (.int x4), some (.int x5), u6] [] f 0 0 := by
  unfold B_Mo_make_3 at h
  refine s_il l_Mo_make_3 rfl ?_
  refine s_aln l_Mo_make_5 rfl ?_
  refine s_gr l_Mo_make_6 h (fun r1 h => ?_)
  refine s_iln l_Mo_make_9 rfl ?_
  refine s_ial l_Mo_make_10 rfl h (fun v2 h => ?_)
  refine s_csi (As := [.int v2]) (r := [.int x5]) l_Mo_make_11 rfl ⟨rfl, rfl⟩ rfl (Nat.le_of_ble_eq_true rfl) rfl ⟨Nat.zero_le _, Nat.zero_le _⟩ h (fun v5 f4 h => ?_)
  refine s_ifc l_Mo_make_14 h (fun h => ?_) (fun h => ?_)
  · exact s_ret l_Mo_make_66 ⟨Nat.zero_le _, Nat.zero_le _⟩ h
  · refine s_aln l_Mo_make_17 rfl ?_
    refine s_gr l_Mo_make_18 h (fun r6 h => ?_)
    refine s_bp 48 l_Mo_make_21 rfl ?_
    refine s_iln l_Mo_make_23 rfl ?_
    refine s_imul l_Mo_make_24 ?_
    refine s_il l_Mo_make_25 rfl ?_
    refine s_iadd l_Mo_make_27 ?_
    refine s_ial l_Mo_make_28 rfl h (fun v7 h => ?_)
    refine s_is l_Mo_make_29 (Nat.le_of_ble_eq_true rfl) ?_
    refine s_aln l_Mo_make_31 rfl ?_
    refine s_gr l_Mo_make_32 h (fun r8 h => ?_)
    refine s_il l_Mo_make_35 rfl ?_
    refine s_il l_Mo_make_37 rfl ?_
    refine s_iadd l_Mo_make_39 ?_
    refine s_il l_Mo_make_40 rfl ?_
    refine s_if l_Mo_make_42 h (fun h => ?_) (fun h => ?_)
    · refine s_aln l_Mo_make_53 rfl ?_
      refine s_iln l_Mo_make_54 rfl ?_
      refine s_il l_Mo_make_55 rfl ?_
      refine s_iadd l_Mo_make_57 ?_
      refine s_bal l_Mo_make_58 (Or.inr rfl) h (fun v9 h => ?_)
      refine s_bast l_Mo_make_59 h (fun f10 h => ?_)
      refine s_inc 1 l_Mo_make_60 rfl rfl ?_
      refine s_goto l_Mo_make_63 ?_
      exact h
    · refine s_ic (-1) l_Mo_make_45 rfl ?_
      refine s_il l_Mo_make_46 rfl ?_
      refine s_isub l_Mo_make_48 ?_
      refine s_i2b l_Mo_make_49 ?_
      refine s_goto l_Mo_make_50 ?_
      refine s_bast l_Mo_make_59 h (fun f11 h => ?_)
      refine s_inc 1 l_Mo_make_60 rfl rfl ?_
      refine s_goto l_Mo_make_63 ?_
      exact h
