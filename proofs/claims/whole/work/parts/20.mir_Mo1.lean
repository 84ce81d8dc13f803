/-! blocks of Mo, 1 -/
theorem l_Mo_addFile_0 : xlk (xm_cd m_Mo_addFile) 0 = some (.aload_n 0, 1, (0, 0, 0, [])) := rfl
theorem l_Mo_addFile_1 : xlk (xm_cd m_Mo_addFile) 1 = some (.getfield 33, 3, (858, 11, 9, [])) := rfl
theorem l_Mo_addFile_4 : xlk (xm_cd m_Mo_addFile) 4 = some (.iload_n 1, 1, (0, 0, 0, [])) := rfl
theorem l_Mo_addFile_5 : xlk (xm_cd m_Mo_addFile) 5 = some (.iaload, 1, (0, 0, 0, [])) := rfl
theorem l_Mo_addFile_6 : xlk (xm_cd m_Mo_addFile) 6 = some (.istore 8, 2, (0, 0, 0, [])) := rfl
theorem l_Mo_addFile_8 : xlk (xm_cd m_Mo_addFile) 8 = some (.iload 8, 2, (0, 0, 0, [])) := rfl
theorem l_Mo_addFile_10 : xlk (xm_cd m_Mo_addFile) 10 = some (.ifCond .le 65, 3, (0, 75, 0, [])) := rfl
theorem l_Mo_addFile_13 : xlk (xm_cd m_Mo_addFile) 13 = some (.aload_n 0, 1, (0, 0, 0, [])) := rfl
theorem l_Mo_addFile_14 : xlk (xm_cd m_Mo_addFile) 14 = some (.getfield 20, 3, (854, 11, 5, [])) := rfl
theorem l_Mo_addFile_17 : xlk (xm_cd m_Mo_addFile) 17 = some (.bipush 18, 2, (0, 0, 0, [])) := rfl
theorem l_Mo_addFile_19 : xlk (xm_cd m_Mo_addFile) 19 = some (.iload_n 1, 1, (0, 0, 0, [])) := rfl
theorem l_Mo_addFile_20 : xlk (xm_cd m_Mo_addFile) 20 = some (.iload 8, 2, (0, 0, 0, [])) := rfl
theorem l_Mo_addFile_22 : xlk (xm_cd m_Mo_addFile) 22 = some (.iconst 1, 1, (0, 0, 0, [])) := rfl
theorem l_Mo_addFile_23 : xlk (xm_cd m_Mo_addFile) 23 = some (.isub, 1, (0, 0, 0, [])) := rfl
theorem l_Mo_addFile_24 : xlk (xm_cd m_Mo_addFile) 24 = some (.invokestatic 155, 3, (971, 152, 2, [])) := rfl
theorem l_Mo_addFile_27 : xlk (xm_cd m_Mo_addFile) 27 = some (.imul, 1, (0, 0, 0, [])) := rfl
theorem l_Mo_addFile_28 : xlk (xm_cd m_Mo_addFile) 28 = some (.aload_n 0, 1, (0, 0, 0, [])) := rfl
theorem l_Mo_addFile_29 : xlk (xm_cd m_Mo_addFile) 29 = some (.getfield 23, 3, (855, 11, 6, [])) := rfl
theorem l_Mo_addFile_32 : xlk (xm_cd m_Mo_addFile) 32 = some (.iload_n 1, 1, (0, 0, 0, [])) := rfl
theorem l_Mo_addFile_33 : xlk (xm_cd m_Mo_addFile) 33 = some (.iload 8, 2, (0, 0, 0, [])) := rfl
theorem l_Mo_addFile_35 : xlk (xm_cd m_Mo_addFile) 35 = some (.iconst 1, 1, (0, 0, 0, [])) := rfl
theorem l_Mo_addFile_36 : xlk (xm_cd m_Mo_addFile) 36 = some (.isub, 1, (0, 0, 0, [])) := rfl
theorem l_Mo_addFile_37 : xlk (xm_cd m_Mo_addFile) 37 = some (.invokestatic 155, 3, (971, 152, 2, [])) := rfl
theorem l_Mo_addFile_40 : xlk (xm_cd m_Mo_addFile) 40 = some (.iaload, 1, (0, 0, 0, [])) := rfl
theorem l_Mo_addFile_41 : xlk (xm_cd m_Mo_addFile) 41 = some (.aload_n 2, 1, (0, 0, 0, [])) := rfl
theorem l_Mo_addFile_42 : xlk (xm_cd m_Mo_addFile) 42 = some (.iload_n 3, 1, (0, 0, 0, [])) := rfl
theorem l_Mo_addFile_43 : xlk (xm_cd m_Mo_addFile) 43 = some (.iload 4, 2, (0, 0, 0, [])) := rfl
theorem l_Mo_addFile_45 : xlk (xm_cd m_Mo_addFile) 45 = some (.invokestatic 143, 3, (987, 157, 6, [])) := rfl
theorem l_Mo_addFile_48 : xlk (xm_cd m_Mo_addFile) 48 = some (.ifCond .le 27, 3, (0, 75, 0, [])) := rfl
theorem l_Mo_addFile_51 : xlk (xm_cd m_Mo_addFile) 51 = some (.aload_n 0, 1, (0, 0, 0, [])) := rfl
theorem l_Mo_addFile_52 : xlk (xm_cd m_Mo_addFile) 52 = some (.iload_n 1, 1, (0, 0, 0, [])) := rfl
theorem l_Mo_addFile_53 : xlk (xm_cd m_Mo_addFile) 53 = some (.iload 8, 2, (0, 0, 0, [])) := rfl
theorem l_Mo_addFile_55 : xlk (xm_cd m_Mo_addFile) 55 = some (.iconst 1, 1, (0, 0, 0, [])) := rfl
theorem l_Mo_addFile_56 : xlk (xm_cd m_Mo_addFile) 56 = some (.isub, 1, (0, 0, 0, [])) := rfl
theorem l_Mo_addFile_57 : xlk (xm_cd m_Mo_addFile) 57 = some (.invokestatic 155, 3, (971, 152, 2, [])) := rfl
theorem l_Mo_addFile_60 : xlk (xm_cd m_Mo_addFile) 60 = some (.iload_n 1, 1, (0, 0, 0, [])) := rfl
theorem l_Mo_addFile_61 : xlk (xm_cd m_Mo_addFile) 61 = some (.iload 8, 2, (0, 0, 0, [])) := rfl
theorem l_Mo_addFile_63 : xlk (xm_cd m_Mo_addFile) 63 = some (.invokestatic 155, 3, (971, 152, 2, [])) := rfl
theorem l_Mo_addFile_66 : xlk (xm_cd m_Mo_addFile) 66 = some (.invokevirtual 166, 3, (974, 153, 2, [])) := rfl
theorem l_Mo_addFile_69 : xlk (xm_cd m_Mo_addFile) 69 = some (.iinc 8 (-1), 3, (0, 0, 0, [])) := rfl
theorem l_Mo_addFile_72 : xlk (xm_cd m_Mo_addFile) 72 = some (.goto (-64), 3, (0, 8, 0, [])) := rfl
theorem l_Mo_addFile_75 : xlk (xm_cd m_Mo_addFile) 75 = some (.iload_n 1, 1, (0, 0, 0, [])) := rfl
theorem l_Mo_addFile_76 : xlk (xm_cd m_Mo_addFile) 76 = some (.iload 8, 2, (0, 0, 0, [])) := rfl
theorem l_Mo_addFile_78 : xlk (xm_cd m_Mo_addFile) 78 = some (.invokestatic 155, 3, (971, 152, 2, [])) := rfl
theorem l_Mo_addFile_81 : xlk (xm_cd m_Mo_addFile) 81 = some (.istore 9, 2, (0, 0, 0, [])) := rfl
theorem l_Mo_addFile_83 : xlk (xm_cd m_Mo_addFile) 83 = some (.aload_n 2, 1, (0, 0, 0, [])) := rfl
theorem l_Mo_addFile_84 : xlk (xm_cd m_Mo_addFile) 84 = some (.iload_n 3, 1, (0, 0, 0, [])) := rfl
theorem l_Mo_addFile_85 : xlk (xm_cd m_Mo_addFile) 85 = some (.aload_n 0, 1, (0, 0, 0, [])) := rfl
theorem l_Mo_addFile_86 : xlk (xm_cd m_Mo_addFile) 86 = some (.getfield 20, 3, (854, 11, 5, [])) := rfl
theorem l_Mo_addFile_89 : xlk (xm_cd m_Mo_addFile) 89 = some (.bipush 18, 2, (0, 0, 0, [])) := rfl
theorem l_Mo_addFile_91 : xlk (xm_cd m_Mo_addFile) 91 = some (.iload 9, 2, (0, 0, 0, [])) := rfl
theorem l_Mo_addFile_93 : xlk (xm_cd m_Mo_addFile) 93 = some (.imul, 1, (0, 0, 0, [])) := rfl
theorem l_Mo_addFile_94 : xlk (xm_cd m_Mo_addFile) 94 = some (.iload 4, 2, (0, 0, 0, [])) := rfl
theorem l_Mo_addFile_96 : xlk (xm_cd m_Mo_addFile) 96 = some (.invokestatic 162, 3, (977, 154, 5, [])) := rfl
theorem l_Mo_addFile_99 : xlk (xm_cd m_Mo_addFile) 99 = some (.aload_n 0, 1, (0, 0, 0, [])) := rfl
theorem l_Mo_addFile_100 : xlk (xm_cd m_Mo_addFile) 100 = some (.getfield 23, 3, (855, 11, 6, [])) := rfl
theorem l_Mo_addFile_103 : xlk (xm_cd m_Mo_addFile) 103 = some (.iload 9, 2, (0, 0, 0, [])) := rfl
theorem l_Mo_addFile_105 : xlk (xm_cd m_Mo_addFile) 105 = some (.iload 4, 2, (0, 0, 0, [])) := rfl
theorem l_Mo_addFile_107 : xlk (xm_cd m_Mo_addFile) 107 = some (.iastore, 1, (0, 0, 0, [])) := rfl
theorem l_Mo_addFile_108 : xlk (xm_cd m_Mo_addFile) 108 = some (.aload 5, 2, (0, 0, 0, [])) := rfl
theorem l_Mo_addFile_110 : xlk (xm_cd m_Mo_addFile) 110 = some (.iload 6, 2, (0, 0, 0, [])) := rfl
theorem l_Mo_addFile_112 : xlk (xm_cd m_Mo_addFile) 112 = some (.aload_n 0, 1, (0, 0, 0, [])) := rfl
theorem l_Mo_addFile_113 : xlk (xm_cd m_Mo_addFile) 113 = some (.getfield 27, 3, (856, 11, 7, [])) := rfl
theorem l_Mo_addFile_116 : xlk (xm_cd m_Mo_addFile) 116 = some (.bipush 48, 2, (0, 0, 0, [])) := rfl
theorem l_Mo_addFile_118 : xlk (xm_cd m_Mo_addFile) 118 = some (.iload 9, 2, (0, 0, 0, [])) := rfl
theorem l_Mo_addFile_120 : xlk (xm_cd m_Mo_addFile) 120 = some (.imul, 1, (0, 0, 0, [])) := rfl
theorem l_Mo_addFile_121 : xlk (xm_cd m_Mo_addFile) 121 = some (.iload 7, 2, (0, 0, 0, [])) := rfl
theorem l_Mo_addFile_123 : xlk (xm_cd m_Mo_addFile) 123 = some (.invokestatic 162, 3, (977, 154, 5, [])) := rfl
theorem l_Mo_addFile_126 : xlk (xm_cd m_Mo_addFile) 126 = some (.aload_n 0, 1, (0, 0, 0, [])) := rfl
theorem l_Mo_addFile_127 : xlk (xm_cd m_Mo_addFile) 127 = some (.getfield 30, 3, (857, 11, 8, [])) := rfl
theorem l_Mo_addFile_130 : xlk (xm_cd m_Mo_addFile) 130 = some (.iload 9, 2, (0, 0, 0, [])) := rfl
theorem l_Mo_addFile_132 : xlk (xm_cd m_Mo_addFile) 132 = some (.iload 7, 2, (0, 0, 0, [])) := rfl
theorem l_Mo_addFile_134 : xlk (xm_cd m_Mo_addFile) 134 = some (.iastore, 1, (0, 0, 0, [])) := rfl
theorem l_Mo_addFile_135 : xlk (xm_cd m_Mo_addFile) 135 = some (.aload_n 0, 1, (0, 0, 0, [])) := rfl
theorem l_Mo_addFile_136 : xlk (xm_cd m_Mo_addFile) 136 = some (.getfield 33, 3, (858, 11, 9, [])) := rfl
theorem l_Mo_addFile_139 : xlk (xm_cd m_Mo_addFile) 139 = some (.iload_n 1, 1, (0, 0, 0, [])) := rfl
theorem l_Mo_addFile_140 : xlk (xm_cd m_Mo_addFile) 140 = some (.dup2, 1, (0, 0, 0, [])) := rfl
theorem l_Mo_addFile_141 : xlk (xm_cd m_Mo_addFile) 141 = some (.iaload, 1, (0, 0, 0, [])) := rfl
theorem l_Mo_addFile_142 : xlk (xm_cd m_Mo_addFile) 142 = some (.iconst 1, 1, (0, 0, 0, [])) := rfl
theorem l_Mo_addFile_143 : xlk (xm_cd m_Mo_addFile) 143 = some (.iadd, 1, (0, 0, 0, [])) := rfl
theorem l_Mo_addFile_144 : xlk (xm_cd m_Mo_addFile) 144 = some (.iastore, 1, (0, 0, 0, [])) := rfl
set_option maxRecDepth 20000 in
theorem l_Mo_addFile_145 : xlk (xm_cd m_Mo_addFile) 145 = some (.return_, 1, (0, 0, 0, [])) := rfl
def B_Mo_addFile_0 (d : Nat) (E : Option Value → xH → Prop) (f : xH) (a0 : Nat) (x1 : Int32) (a2 : Nat) (x3 : Int32) (x4 : Int32) (a5 : Nat) (x6 : Int32) (x7 : Int32) : Prop :=
  xgr f a0 11 9 (fun r1 => xal f r1 0 x1 (fun v2 => xWp (xT0, xSp xT0 d, none, m_Mo_addFile, E) 8 [some (.ref a0), some (.int x1), some (.ref a2), some (.int x3), some (.int x4), some (.ref a5), some (.int x6), some (.int x7), some (.int v2), none] [] f 0 0))
theorem b_Mo_addFile_0 {d : Nat} {E : Option Value → xH → Prop} {f : xH} {a0 : Nat} {x1 : Int32} {a2 : Nat} {x3 : Int32} {x4 : Int32} {a5 : Nat} {x6 : Int32} {x7 : Int32} (h : B_Mo_addFile_0 d E f a0 x1 a2 x3 x4 a5 x6 x7) : xWp (xT0, xSp xT0 d, none, m_Mo_addFile, E) 0 [some (.ref a0), some (.int x1), some (.ref a2), some (.int x3), some (.int x4), some (.ref a5), some (.int x6), some (.int x7), none, none] [] f 0 0 := by
  unfold B_Mo_addFile_0 at h
  refine s_aln l_Mo_addFile_0 rfl ?_
  refine s_gr l_Mo_addFile_1 h (fun r1 h => ?_)
  refine s_iln l_Mo_addFile_4 rfl ?_
  refine s_ial l_Mo_addFile_5 rfl h (fun v2 h => ?_)
  refine s_is l_Mo_addFile_6 (Nat.le_of_ble_eq_true rfl) ?_
  exact h
def B_Mo_addFile_8 (d : Nat) (E : Option Value → xH → Prop) (f : xH) (a0 : Nat) (x1 : Int32) (a2 : Nat) (x3 : Int32) (x4 : Int32) (a5 : Nat) (x6 : Int32) (x7 : Int32) (x8 : Int32) (u9 : Option Value) : Prop :=
  xbr (x8 ≤ 0) (xWp (xT0, xSp xT0 d, none, m_Mo_addFile, E) 75 [some (.ref a0), some (.int x1), some (.ref a2), some (.int x3), some (.int x4), some (.ref a5), some (.int x6), some (.int x7), some (.int x8), u9] [] f 0 0) (xgr f a0 11 5 (fun r1 => xSp xT0 d j_Mo_at [.int x1, .int (x8 - 1)] f (fun w2 f3 => xvi w2 (fun v4 => xgr f3 a0 11 6 (fun r5 => xSp xT0 d j_Mo_at [.int x1, .int (x8 - 1)] f3 (fun w6 f7 => xvi w6 (fun v8 => xal f7 r5 0 v8 (fun v9 => xSp xT0 d j_Mo_order [.ref r1, .int (18 * v4), .int v9, .ref a2, .int x3, .int x4] f7 (fun w10 f11 => xvi w10 (fun v12 => xbr (v12 ≤ 0) (xWp (xT0, xSp xT0 d, none, m_Mo_addFile, E) 75 [some (.ref a0), some (.int x1), some (.ref a2), some (.int x3), some (.int x4), some (.ref a5), some (.int x6), some (.int x7), some (.int x8), u9] [] f11 0 0) (xSp xT0 d j_Mo_at [.int x1, .int (x8 - 1)] f11 (fun w13 f14 => xvi w13 (fun v15 => xSp xT0 d j_Mo_at [.int x1, .int x8] f14 (fun w16 f17 => xvi w16 (fun v18 => (∃ fs, f17 a0 = some (xO 11 fs)) ∧ xSp xT0 d j_Mo_moveFile [.ref a0, .int v15, .int v18] f17 (fun w19 f20 => xvv w19 (xWp (xT0, xSp xT0 d, none, m_Mo_addFile, E) 8 [some (.ref a0), some (.int x1), some (.ref a2), some (.int x3), some (.int x4), some (.ref a5), some (.int x6), some (.int x7), some (.int (x8 + (-1))), u9] [] f20 0 0)))))))))))))))))
theorem b_Mo_addFile_8 {d : Nat} {E : Option Value → xH → Prop} {f : xH} {a0 : Nat} {x1 : Int32} {a2 : Nat} {x3 : Int32} {x4 : Int32} {a5 : Nat} {x6 : Int32} {x7 : Int32} {x8 : Int32} {u9 : Option Value} (h : B_Mo_addFile_8 d E f a0 x1 a2 x3 x4 a5 x6 x7 x8 u9) : xWp (xT0, xSp xT0 d, none, m_Mo_addFile, E) 8 [some (.ref a0), some (.int x1), some (.ref a2), some (.int x3), some (.int x4), some (.ref a5), some (.int x6), some (.int x7), some (.int x8), u9] [] f 0 0 := by
  unfold B_Mo_addFile_8 at h
  refine s_il l_Mo_addFile_8 rfl ?_
  refine s_if l_Mo_addFile_10 h (fun h => ?_) (fun h => ?_)
  · exact h
  · refine s_aln l_Mo_addFile_13 rfl ?_
    refine s_gr l_Mo_addFile_14 h (fun r1 h => ?_)
    refine s_bp 18 l_Mo_addFile_17 rfl ?_
    refine s_iln l_Mo_addFile_19 rfl ?_
    refine s_il l_Mo_addFile_20 rfl ?_
    refine s_ic 1 l_Mo_addFile_22 rfl ?_
    refine s_isub l_Mo_addFile_23 ?_
    refine s_csi (As := [.int x1, .int (x8 - 1)]) (r := [.int 18, .ref r1]) l_Mo_addFile_24 rfl ⟨rfl, rfl⟩ rfl (Nat.le_of_ble_eq_true rfl) rfl ⟨Nat.zero_le _, Nat.zero_le _⟩ h (fun v4 f3 h => ?_)
    refine s_imul l_Mo_addFile_27 ?_
    refine s_aln l_Mo_addFile_28 rfl ?_
    refine s_gr l_Mo_addFile_29 h (fun r5 h => ?_)
    refine s_iln l_Mo_addFile_32 rfl ?_
    refine s_il l_Mo_addFile_33 rfl ?_
    refine s_ic 1 l_Mo_addFile_35 rfl ?_
    refine s_isub l_Mo_addFile_36 ?_
    refine s_csi (As := [.int x1, .int (x8 - 1)]) (r := [.ref r5, .int (18 * v4), .ref r1]) l_Mo_addFile_37 rfl ⟨rfl, rfl⟩ rfl (Nat.le_of_ble_eq_true rfl) rfl ⟨Nat.zero_le _, Nat.zero_le _⟩ h (fun v8 f7 h => ?_)
    refine s_ial l_Mo_addFile_40 rfl h (fun v9 h => ?_)
    refine s_aln l_Mo_addFile_41 rfl ?_
    refine s_iln l_Mo_addFile_42 rfl ?_
    refine s_il l_Mo_addFile_43 rfl ?_
    refine s_csi (As := [.ref r1, .int (18 * v4), .int v9, .ref a2, .int x3, .int x4]) (r := []) l_Mo_addFile_45 rfl ⟨rfl, rfl⟩ rfl (Nat.le_of_ble_eq_true rfl) rfl ⟨Nat.zero_le _, Nat.zero_le _⟩ h (fun v12 f11 h => ?_)
    refine s_if l_Mo_addFile_48 h (fun h => ?_) (fun h => ?_)
    · exact h
    · refine s_aln l_Mo_addFile_51 rfl ?_
      refine s_iln l_Mo_addFile_52 rfl ?_
      refine s_il l_Mo_addFile_53 rfl ?_
      refine s_ic 1 l_Mo_addFile_55 rfl ?_
      refine s_isub l_Mo_addFile_56 ?_
      refine s_csi (As := [.int x1, .int (x8 - 1)]) (r := [.ref a0]) l_Mo_addFile_57 rfl ⟨rfl, rfl⟩ rfl (Nat.le_of_ble_eq_true rfl) rfl ⟨Nat.zero_le _, Nat.zero_le _⟩ h (fun v15 f14 h => ?_)
      refine s_iln l_Mo_addFile_60 rfl ?_
      refine s_il l_Mo_addFile_61 rfl ?_
      refine s_csi (As := [.int x1, .int x8]) (r := [.int v15, .ref a0]) l_Mo_addFile_63 rfl ⟨rfl, rfl⟩ rfl (Nat.le_of_ble_eq_true rfl) rfl ⟨Nat.zero_le _, Nat.zero_le _⟩ h (fun v18 f17 h => ?_)
      refine s_cvv (As := [.int v15, .int v18]) (r := []) l_Mo_addFile_66 rfl ⟨rfl, rfl⟩ rfl (Nat.le_of_ble_eq_true rfl) rfl ⟨Nat.zero_le _, Nat.zero_le _⟩ h (fun f20 h => ?_)
      refine s_inc (-1) l_Mo_addFile_69 rfl rfl ?_
      refine s_goto l_Mo_addFile_72 ?_
      exact h
def B_Mo_addFile_75 (d : Nat) (E : Option Value → xH → Prop) (f : xH) (a0 : Nat) (x1 : Int32) (a2 : Nat) (x3 : Int32) (x4 : Int32) (a5 : Nat) (x6 : Int32) (x7 : Int32) (x8 : Int32) (u9 : Option Value) : Prop :=
  xSp xT0 d j_Mo_at [.int x1, .int x8] f (fun w1 f2 => xvi w1 (fun v3 => xgr f2 a0 11 5 (fun r4 => xSp xT0 d j_Mo_move [.ref a2, .int x3, .ref r4, .int (18 * v3), .int x4] f2 (fun w5 f6 => xvv w5 (xgr f6 a0 11 6 (fun r7 => xas f6 r7 0 v3 x4 (fun f8 => xgr f8 a0 11 7 (fun r9 => xSp xT0 d j_Mo_move [.ref a5, .int x6, .ref r9, .int (48 * v3), .int x7] f8 (fun w10 f11 => xvv w10 (xgr f11 a0 11 8 (fun r12 => xas f11 r12 0 v3 x7 (fun f13 => xgr f13 a0 11 9 (fun r14 => xal f13 r14 0 x1 (fun v15 => xas f13 r14 0 x1 (v15 + 1) (fun f16 => E none f16)))))))))))))))
theorem b_Mo_addFile_75 {d : Nat} {E : Option Value → xH → Prop} {f : xH} {a0 : Nat} {x1 : Int32} {a2 : Nat} {x3 : Int32} {x4 : Int32} {a5 : Nat} {x6 : Int32} {x7 : Int32} {x8 : Int32} {u9 : Option Value} (h : B_Mo_addFile_75 d E f a0 x1 a2 x3 x4 a5 x6 x7 x8 u9) : xWp (xT0, xSp xT0 d, none, m_Mo_addFile, E) 75 [some (.ref a0), some (.int x1), some (.ref a2), some (.int x3), some (.int x4), some (.ref a5), some (.int x6), some (.int x7), some (.int x8), u9] [] f 0 0 := by
  unfold B_Mo_addFile_75 at h
  refine s_iln l_Mo_addFile_75 rfl ?_
  refine s_il l_Mo_addFile_76 rfl ?_
  refine s_csi (As := [.int x1, .int x8]) (r := []) l_Mo_addFile_78 rfl ⟨rfl, rfl⟩ rfl (Nat.le_of_ble_eq_true rfl) rfl ⟨Nat.zero_le _, Nat.zero_le _⟩ h (fun v3 f2 h => ?_)
  refine s_is l_Mo_addFile_81 (Nat.le_of_ble_eq_true rfl) ?_
  refine s_aln l_Mo_addFile_83 rfl ?_
  refine s_iln l_Mo_addFile_84 rfl ?_
  refine s_aln l_Mo_addFile_85 rfl ?_
  refine s_gr l_Mo_addFile_86 h (fun r4 h => ?_)
  refine s_bp 18 l_Mo_addFile_89 rfl ?_
  refine s_il l_Mo_addFile_91 rfl ?_
  refine s_imul l_Mo_addFile_93 ?_
  refine s_il l_Mo_addFile_94 rfl ?_
  refine s_csv (As := [.ref a2, .int x3, .ref r4, .int (18 * v3), .int x4]) (r := []) l_Mo_addFile_96 rfl ⟨rfl, rfl⟩ rfl (Nat.le_of_ble_eq_true rfl) rfl ⟨Nat.zero_le _, Nat.zero_le _⟩ h (fun f6 h => ?_)
  refine s_aln l_Mo_addFile_99 rfl ?_
  refine s_gr l_Mo_addFile_100 h (fun r7 h => ?_)
  refine s_il l_Mo_addFile_103 rfl ?_
  refine s_il l_Mo_addFile_105 rfl ?_
  refine s_iast l_Mo_addFile_107 h (fun f8 h => ?_)
  refine s_al l_Mo_addFile_108 rfl ?_
  refine s_il l_Mo_addFile_110 rfl ?_
  refine s_aln l_Mo_addFile_112 rfl ?_
  refine s_gr l_Mo_addFile_113 h (fun r9 h => ?_)
  refine s_bp 48 l_Mo_addFile_116 rfl ?_
  refine s_il l_Mo_addFile_118 rfl ?_
  refine s_imul l_Mo_addFile_120 ?_
  refine s_il l_Mo_addFile_121 rfl ?_
  refine s_csv (As := [.ref a5, .int x6, .ref r9, .int (48 * v3), .int x7]) (r := []) l_Mo_addFile_123 rfl ⟨rfl, rfl⟩ rfl (Nat.le_of_ble_eq_true rfl) rfl ⟨Nat.zero_le _, Nat.zero_le _⟩ h (fun f11 h => ?_)
  refine s_aln l_Mo_addFile_126 rfl ?_
  refine s_gr l_Mo_addFile_127 h (fun r12 h => ?_)
  refine s_il l_Mo_addFile_130 rfl ?_
  refine s_il l_Mo_addFile_132 rfl ?_
  refine s_iast l_Mo_addFile_134 h (fun f13 h => ?_)
  refine s_aln l_Mo_addFile_135 rfl ?_
  refine s_gr l_Mo_addFile_136 h (fun r14 h => ?_)
  refine s_iln l_Mo_addFile_139 rfl ?_
  refine s_dup2 l_Mo_addFile_140 rfl rfl ?_
  refine s_ial l_Mo_addFile_141 rfl h (fun v15 h => ?_)
  refine s_ic 1 l_Mo_addFile_142 rfl ?_
  refine s_iadd l_Mo_addFile_143 ?_
  refine s_iast l_Mo_addFile_144 h (fun f16 h => ?_)
  exact s_ret l_Mo_addFile_145 ⟨Nat.zero_le _, Nat.zero_le _⟩ h
theorem l_Mo_drop_0 : xlk (xm_cd m_Mo_drop) 0 = some (.aload_n 0, 1, (0, 0, 0, [])) := rfl
theorem l_Mo_drop_1 : xlk (xm_cd m_Mo_drop) 1 = some (.iconst 0, 1, (0, 0, 0, [])) := rfl
theorem l_Mo_drop_2 : xlk (xm_cd m_Mo_drop) 2 = some (.putfield 1, 3, (849, 11, 0, [(0, 0)])) := rfl
theorem l_Mo_drop_5 : xlk (xm_cd m_Mo_drop) 5 = some (.aload_n 0, 1, (0, 0, 0, [])) := rfl
theorem l_Mo_drop_6 : xlk (xm_cd m_Mo_drop) 6 = some (.iload_n 1, 1, (0, 0, 0, [])) := rfl
theorem l_Mo_drop_7 : xlk (xm_cd m_Mo_drop) 7 = some (.invokevirtual 170, 3, (968, 151, 1, [])) := rfl
theorem l_Mo_drop_10 : xlk (xm_cd m_Mo_drop) 10 = some (.ifCond .ne 10, 3, (0, 20, 0, [])) := rfl
theorem l_Mo_drop_13 : xlk (xm_cd m_Mo_drop) 13 = some (.aload_n 0, 1, (0, 0, 0, [])) := rfl
theorem l_Mo_drop_14 : xlk (xm_cd m_Mo_drop) 14 = some (.getfield 140, 3, (853, 11, 4, [])) := rfl
theorem l_Mo_drop_17 : xlk (xm_cd m_Mo_drop) 17 = some (.ifCond .ne 5, 3, (0, 22, 0, [])) := rfl
theorem l_Mo_drop_20 : xlk (xm_cd m_Mo_drop) 20 = some (.iconst (-1), 1, (0, 0, 0, [])) := rfl
theorem l_Mo_drop_21 : xlk (xm_cd m_Mo_drop) 21 = some (.ireturn, 1, (0, 0, 0, [])) := rfl
theorem l_Mo_drop_22 : xlk (xm_cd m_Mo_drop) 22 = some (.aload_n 0, 1, (0, 0, 0, [])) := rfl
theorem l_Mo_drop_23 : xlk (xm_cd m_Mo_drop) 23 = some (.iload_n 1, 1, (0, 0, 0, [])) := rfl
theorem l_Mo_drop_24 : xlk (xm_cd m_Mo_drop) 24 = some (.aload_n 0, 1, (0, 0, 0, [])) := rfl
theorem l_Mo_drop_25 : xlk (xm_cd m_Mo_drop) 25 = some (.getfield 17, 3, (852, 11, 3, [])) := rfl
theorem l_Mo_drop_28 : xlk (xm_cd m_Mo_drop) 28 = some (.iconst 0, 1, (0, 0, 0, [])) := rfl
theorem l_Mo_drop_29 : xlk (xm_cd m_Mo_drop) 29 = some (.aload_n 0, 1, (0, 0, 0, [])) := rfl
theorem l_Mo_drop_30 : xlk (xm_cd m_Mo_drop) 30 = some (.getfield 140, 3, (853, 11, 4, [])) := rfl
theorem l_Mo_drop_33 : xlk (xm_cd m_Mo_drop) 33 = some (.invokevirtual 174, 3, (984, 156, 4, [])) := rfl
theorem l_Mo_drop_36 : xlk (xm_cd m_Mo_drop) 36 = some (.istore_n 2, 1, (0, 0, 0, [])) := rfl
theorem l_Mo_drop_37 : xlk (xm_cd m_Mo_drop) 37 = some (.iload_n 2, 1, (0, 0, 0, [])) := rfl
theorem l_Mo_drop_38 : xlk (xm_cd m_Mo_drop) 38 = some (.bipush (-2), 2, (0, 0, 0, [])) := rfl
theorem l_Mo_drop_40 : xlk (xm_cd m_Mo_drop) 40 = some (.if_icmp .ne 5, 3, (0, 45, 0, [])) := rfl
theorem l_Mo_drop_43 : xlk (xm_cd m_Mo_drop) 43 = some (.iconst (-1), 1, (0, 0, 0, [])) := rfl
theorem l_Mo_drop_44 : xlk (xm_cd m_Mo_drop) 44 = some (.ireturn, 1, (0, 0, 0, [])) := rfl
theorem l_Mo_drop_45 : xlk (xm_cd m_Mo_drop) 45 = some (.aload_n 0, 1, (0, 0, 0, [])) := rfl
theorem l_Mo_drop_46 : xlk (xm_cd m_Mo_drop) 46 = some (.getfield 33, 3, (858, 11, 9, [])) := rfl
theorem l_Mo_drop_49 : xlk (xm_cd m_Mo_drop) 49 = some (.iload_n 1, 1, (0, 0, 0, [])) := rfl
theorem l_Mo_drop_50 : xlk (xm_cd m_Mo_drop) 50 = some (.dup2, 1, (0, 0, 0, [])) := rfl
theorem l_Mo_drop_51 : xlk (xm_cd m_Mo_drop) 51 = some (.iaload, 1, (0, 0, 0, [])) := rfl
theorem l_Mo_drop_52 : xlk (xm_cd m_Mo_drop) 52 = some (.iconst 1, 1, (0, 0, 0, [])) := rfl
theorem l_Mo_drop_53 : xlk (xm_cd m_Mo_drop) 53 = some (.isub, 1, (0, 0, 0, [])) := rfl
theorem l_Mo_drop_54 : xlk (xm_cd m_Mo_drop) 54 = some (.iastore, 1, (0, 0, 0, [])) := rfl
theorem l_Mo_drop_55 : xlk (xm_cd m_Mo_drop) 55 = some (.iload_n 2, 1, (0, 0, 0, [])) := rfl
theorem l_Mo_drop_56 : xlk (xm_cd m_Mo_drop) 56 = some (.istore_n 3, 1, (0, 0, 0, [])) := rfl
theorem l_Mo_drop_57 : xlk (xm_cd m_Mo_drop) 57 = some (.iload_n 3, 1, (0, 0, 0, [])) := rfl
theorem l_Mo_drop_58 : xlk (xm_cd m_Mo_drop) 58 = some (.aload_n 0, 1, (0, 0, 0, [])) := rfl
theorem l_Mo_drop_59 : xlk (xm_cd m_Mo_drop) 59 = some (.getfield 33, 3, (858, 11, 9, [])) := rfl
theorem l_Mo_drop_62 : xlk (xm_cd m_Mo_drop) 62 = some (.iload_n 1, 1, (0, 0, 0, [])) := rfl
theorem l_Mo_drop_63 : xlk (xm_cd m_Mo_drop) 63 = some (.iaload, 1, (0, 0, 0, [])) := rfl
theorem l_Mo_drop_64 : xlk (xm_cd m_Mo_drop) 64 = some (.if_icmp .ge 25, 3, (0, 89, 0, [])) := rfl
theorem l_Mo_drop_67 : xlk (xm_cd m_Mo_drop) 67 = some (.aload_n 0, 1, (0, 0, 0, [])) := rfl
theorem l_Mo_drop_68 : xlk (xm_cd m_Mo_drop) 68 = some (.iload_n 1, 1, (0, 0, 0, [])) := rfl
theorem l_Mo_drop_69 : xlk (xm_cd m_Mo_drop) 69 = some (.iload_n 3, 1, (0, 0, 0, [])) := rfl
theorem l_Mo_drop_70 : xlk (xm_cd m_Mo_drop) 70 = some (.iconst 1, 1, (0, 0, 0, [])) := rfl
theorem l_Mo_drop_71 : xlk (xm_cd m_Mo_drop) 71 = some (.iadd, 1, (0, 0, 0, [])) := rfl
theorem l_Mo_drop_72 : xlk (xm_cd m_Mo_drop) 72 = some (.invokestatic 155, 3, (971, 152, 2, [])) := rfl
theorem l_Mo_drop_75 : xlk (xm_cd m_Mo_drop) 75 = some (.iload_n 1, 1, (0, 0, 0, [])) := rfl
theorem l_Mo_drop_76 : xlk (xm_cd m_Mo_drop) 76 = some (.iload_n 3, 1, (0, 0, 0, [])) := rfl
theorem l_Mo_drop_77 : xlk (xm_cd m_Mo_drop) 77 = some (.invokestatic 155, 3, (971, 152, 2, [])) := rfl
theorem l_Mo_drop_80 : xlk (xm_cd m_Mo_drop) 80 = some (.invokevirtual 166, 3, (974, 153, 2, [])) := rfl
theorem l_Mo_drop_83 : xlk (xm_cd m_Mo_drop) 83 = some (.iinc 3 1, 3, (0, 0, 0, [])) := rfl
theorem l_Mo_drop_86 : xlk (xm_cd m_Mo_drop) 86 = some (.goto (-29), 3, (0, 57, 0, [])) := rfl
theorem l_Mo_drop_89 : xlk (xm_cd m_Mo_drop) 89 = some (.aload_n 0, 1, (0, 0, 0, [])) := rfl
theorem l_Mo_drop_90 : xlk (xm_cd m_Mo_drop) 90 = some (.getfield 33, 3, (858, 11, 9, [])) := rfl
theorem l_Mo_drop_93 : xlk (xm_cd m_Mo_drop) 93 = some (.iload_n 1, 1, (0, 0, 0, [])) := rfl
theorem l_Mo_drop_94 : xlk (xm_cd m_Mo_drop) 94 = some (.iaload, 1, (0, 0, 0, [])) := rfl
theorem l_Mo_drop_95 : xlk (xm_cd m_Mo_drop) 95 = some (.ireturn, 1, (0, 0, 0, [])) := rfl
def B_Mo_drop_0 (d : Nat) (E : Option Value → xH → Prop) (f : xH) (a0 : Nat) (x1 : Int32) : Prop :=
  xpf f a0 11 0 (.int 0) (fun f1 => (∃ fs, f1 a0 = some (xO 11 fs)) ∧ xSp xT0 d j_Mo_noTree [.ref a0, .int x1] f1 (fun w2 f3 => xvi w2 (fun v4 => xbr (¬ v4 = 0) (E (some (.int (-1))) f3) (xgi f3 a0 11 4 (fun v5 => xbr (¬ v5 = 0) (xgr f3 a0 11 3 (fun r6 => xgi f3 a0 11 4 (fun v7 => (∃ fs, f3 a0 = some (xO 11 fs)) ∧ xSp xT0 d j_Mo_find [.ref a0, .int x1, .ref r6, .int 0, .int v7] f3 (fun w8 f9 => xvi w8 (fun v10 => xbr (¬ v10 = (-2)) (xgr f9 a0 11 9 (fun r11 => xal f9 r11 0 x1 (fun v12 => xas f9 r11 0 x1 (v12 - 1) (fun f13 => xWp (xT0, xSp xT0 d, none, m_Mo_drop, E) 57 [some (.ref a0), some (.int x1), some (.int v10), some (.int v10)] [] f13 0 0)))) (E (some (.int (-1))) f9)))))) (E (some (.int (-1))) f3))))))
theorem b_Mo_drop_0 {d : Nat} {E : Option Value → xH → Prop} {f : xH} {a0 : Nat} {x1 : Int32} (h : B_Mo_drop_0 d E f a0 x1) : xWp (xT0, xSp xT0 d, none, m_Mo_drop, E) 0 [some (.ref a0), some (.int x1), none, none] [] f 0 0 := by
  unfold B_Mo_drop_0 at h
  refine s_aln l_Mo_drop_0 rfl ?_
  refine s_ic 0 l_Mo_drop_1 rfl ?_
  refine s_pf l_Mo_drop_2 ⟨_, rfl⟩ h (fun f1 h => ?_)
  refine s_aln l_Mo_drop_5 rfl ?_
  refine s_iln l_Mo_drop_6 rfl ?_
  refine s_cvi (As := [.int x1]) (r := []) l_Mo_drop_7 rfl ⟨rfl, rfl⟩ rfl (Nat.le_of_ble_eq_true rfl) rfl ⟨Nat.zero_le _, Nat.zero_le _⟩ h (fun v4 f3 h => ?_)
  refine s_if l_Mo_drop_10 h (fun h => ?_) (fun h => ?_)
  · refine s_ic (-1) l_Mo_drop_20 rfl ?_
    exact s_iret l_Mo_drop_21 rfl ⟨Nat.zero_le _, Nat.zero_le _⟩ h
  · refine s_aln l_Mo_drop_13 rfl ?_
    refine s_gi l_Mo_drop_14 h (fun v5 h => ?_)
    refine s_if l_Mo_drop_17 h (fun h => ?_) (fun h => ?_)
    · refine s_aln l_Mo_drop_22 rfl ?_
      refine s_iln l_Mo_drop_23 rfl ?_
      refine s_aln l_Mo_drop_24 rfl ?_
      refine s_gr l_Mo_drop_25 h (fun r6 h => ?_)
      refine s_ic 0 l_Mo_drop_28 rfl ?_
      refine s_aln l_Mo_drop_29 rfl ?_
      refine s_gi l_Mo_drop_30 h (fun v7 h => ?_)
      refine s_cvi (As := [.int x1, .ref r6, .int 0, .int v7]) (r := []) l_Mo_drop_33 rfl ⟨rfl, rfl⟩ rfl (Nat.le_of_ble_eq_true rfl) rfl ⟨Nat.zero_le _, Nat.zero_le _⟩ h (fun v10 f9 h => ?_)
      refine s_isn l_Mo_drop_36 (Nat.le_of_ble_eq_true rfl) ?_
      refine s_iln l_Mo_drop_37 rfl ?_
      refine s_bp (-2) l_Mo_drop_38 rfl ?_
      refine s_ifc l_Mo_drop_40 h (fun h => ?_) (fun h => ?_)
      · refine s_aln l_Mo_drop_45 rfl ?_
        refine s_gr l_Mo_drop_46 h (fun r11 h => ?_)
        refine s_iln l_Mo_drop_49 rfl ?_
        refine s_dup2 l_Mo_drop_50 rfl rfl ?_
        refine s_ial l_Mo_drop_51 rfl h (fun v12 h => ?_)
        refine s_ic 1 l_Mo_drop_52 rfl ?_
        refine s_isub l_Mo_drop_53 ?_
        refine s_iast l_Mo_drop_54 h (fun f13 h => ?_)
        refine s_iln l_Mo_drop_55 rfl ?_
        refine s_isn l_Mo_drop_56 (Nat.le_of_ble_eq_true rfl) ?_
        exact h
      · refine s_ic (-1) l_Mo_drop_43 rfl ?_
        exact s_iret l_Mo_drop_44 rfl ⟨Nat.zero_le _, Nat.zero_le _⟩ h
    · refine s_ic (-1) l_Mo_drop_20 rfl ?_
      exact s_iret l_Mo_drop_21 rfl ⟨Nat.zero_le _, Nat.zero_le _⟩ h
def B_Mo_drop_57 (d : Nat) (E : Option Value → xH → Prop) (f : xH) (a0 : Nat) (x1 : Int32) (x2 : Int32) (x3 : Int32) : Prop :=
  xgr f a0 11 9 (fun r1 => xal f r1 0 x1 (fun v2 => xbr (v2 ≤ x3) (xgr f a0 11 9 (fun r3 => xal f r3 0 x1 (fun v4 => E (some (.int v4)) f))) (xSp xT0 d j_Mo_at [.int x1, .int (x3 + 1)] f (fun w5 f6 => xvi w5 (fun v7 => xSp xT0 d j_Mo_at [.int x1, .int x3] f6 (fun w8 f9 => xvi w8 (fun v10 => (∃ fs, f9 a0 = some (xO 11 fs)) ∧ xSp xT0 d j_Mo_moveFile [.ref a0, .int v7, .int v10] f9 (fun w11 f12 => xvv w11 (xWp (xT0, xSp xT0 d, none, m_Mo_drop, E) 57 [some (.ref a0), some (.int x1), some (.int x2), some (.int (x3 + 1))] [] f12 0 0)))))))))
theorem b_Mo_drop_57 {d : Nat} {E : Option Value → xH → Prop} {f : xH} {a0 : Nat} {x1 : Int32} {x2 : Int32} {x3 : Int32} (h : B_Mo_drop_57 d E f a0 x1 x2 x3) : xWp (xT0, xSp xT0 d, none, m_Mo_drop, E) 57 [some (.ref a0), some (.int x1), some (.int x2), some (.int x3)] [] f 0 0 := by
  unfold B_Mo_drop_57 at h
  refine s_iln l_Mo_drop_57 rfl ?_
  refine s_aln l_Mo_drop_58 rfl ?_
  refine s_gr l_Mo_drop_59 h (fun r1 h => ?_)
  refine s_iln l_Mo_drop_62 rfl ?_
  refine s_ial l_Mo_drop_63 rfl h (fun v2 h => ?_)
  refine s_ifc l_Mo_drop_64 h (fun h => ?_) (fun h => ?_)
  · refine s_aln l_Mo_drop_89 rfl ?_
    refine s_gr l_Mo_drop_90 h (fun r3 h => ?_)
    refine s_iln l_Mo_drop_93 rfl ?_
    refine s_ial l_Mo_drop_94 rfl h (fun v4 h => ?_)
    exact s_iret l_Mo_drop_95 rfl ⟨Nat.zero_le _, Nat.zero_le _⟩ h
  · refine s_aln l_Mo_drop_67 rfl ?_
    refine s_iln l_Mo_drop_68 rfl ?_
    refine s_iln l_Mo_drop_69 rfl ?_
    refine s_ic 1 l_Mo_drop_70 rfl ?_
    refine s_iadd l_Mo_drop_71 ?_
    refine s_csi (As := [.int x1, .int (x3 + 1)]) (r := [.ref a0]) l_Mo_drop_72 rfl ⟨rfl, rfl⟩ rfl (Nat.le_of_ble_eq_true rfl) rfl ⟨Nat.zero_le _, Nat.zero_le _⟩ h (fun v7 f6 h => ?_)
    refine s_iln l_Mo_drop_75 rfl ?_
    refine s_iln l_Mo_drop_76 rfl ?_
    refine s_csi (As := [.int x1, .int x3]) (r := [.int v7, .ref a0]) l_Mo_drop_77 rfl ⟨rfl, rfl⟩ rfl (Nat.le_of_ble_eq_true rfl) rfl ⟨Nat.zero_le _, Nat.zero_le _⟩ h (fun v10 f9 h => ?_)
    refine s_cvv (As := [.int v7, .int v10]) (r := []) l_Mo_drop_80 rfl ⟨rfl, rfl⟩ rfl (Nat.le_of_ble_eq_true rfl) rfl ⟨Nat.zero_le _, Nat.zero_le _⟩ h (fun f12 h => ?_)
    refine s_inc 1 l_Mo_drop_83 rfl rfl ?_
    refine s_goto l_Mo_drop_86 ?_
    exact h
theorem l_Mo_file_0 : xlk (xm_cd m_Mo_file) 0 = some (.aload_n 0, 1, (0, 0, 0, [])) := rfl
theorem l_Mo_file_1 : xlk (xm_cd m_Mo_file) 1 = some (.iconst 0, 1, (0, 0, 0, [])) := rfl
theorem l_Mo_file_2 : xlk (xm_cd m_Mo_file) 2 = some (.putfield 1, 3, (849, 11, 0, [(0, 0)])) := rfl
theorem l_Mo_file_5 : xlk (xm_cd m_Mo_file) 5 = some (.aload_n 0, 1, (0, 0, 0, [])) := rfl
theorem l_Mo_file_6 : xlk (xm_cd m_Mo_file) 6 = some (.iload_n 1, 1, (0, 0, 0, [])) := rfl
theorem l_Mo_file_7 : xlk (xm_cd m_Mo_file) 7 = some (.invokevirtual 170, 3, (968, 151, 1, [])) := rfl
theorem l_Mo_file_10 : xlk (xm_cd m_Mo_file) 10 = some (.ifCond .ne 15, 3, (0, 25, 0, [])) := rfl
theorem l_Mo_file_13 : xlk (xm_cd m_Mo_file) 13 = some (.iload_n 3, 1, (0, 0, 0, [])) := rfl
theorem l_Mo_file_14 : xlk (xm_cd m_Mo_file) 14 = some (.i2l, 1, (0, 0, 0, [])) := rfl
theorem l_Mo_file_15 : xlk (xm_cd m_Mo_file) 15 = some (.lconst 0, 1, (0, 0, 0, [])) := rfl
theorem l_Mo_file_16 : xlk (xm_cd m_Mo_file) 16 = some (.ldc2_w 186, 3, (1010, 0, 0, [(3, 0)])) := rfl
theorem l_Mo_file_19 : xlk (xm_cd m_Mo_file) 19 = some (.invokestatic 132, 3, (955, 0, 0, [(2, 2)])) := rfl
theorem l_Mo_file_22 : xlk (xm_cd m_Mo_file) 22 = some (.ifCond .ne 5, 3, (0, 27, 0, [])) := rfl
theorem l_Mo_file_25 : xlk (xm_cd m_Mo_file) 25 = some (.iconst (-1), 1, (0, 0, 0, [])) := rfl
theorem l_Mo_file_26 : xlk (xm_cd m_Mo_file) 26 = some (.ireturn, 1, (0, 0, 0, [])) := rfl
theorem l_Mo_file_27 : xlk (xm_cd m_Mo_file) 27 = some (.iload_n 3, 1, (0, 0, 0, [])) := rfl
theorem l_Mo_file_28 : xlk (xm_cd m_Mo_file) 28 = some (.iconst 3, 1, (0, 0, 0, [])) := rfl
theorem l_Mo_file_29 : xlk (xm_cd m_Mo_file) 29 = some (.if_icmp .ne 10, 3, (0, 39, 0, [])) := rfl
theorem l_Mo_file_32 : xlk (xm_cd m_Mo_file) 32 = some (.aload_n 0, 1, (0, 0, 0, [])) := rfl
theorem l_Mo_file_33 : xlk (xm_cd m_Mo_file) 33 = some (.getfield 33, 3, (858, 11, 9, [])) := rfl
theorem l_Mo_file_36 : xlk (xm_cd m_Mo_file) 36 = some (.iload_n 1, 1, (0, 0, 0, [])) := rfl
theorem l_Mo_file_37 : xlk (xm_cd m_Mo_file) 37 = some (.iaload, 1, (0, 0, 0, [])) := rfl
theorem l_Mo_file_38 : xlk (xm_cd m_Mo_file) 38 = some (.ireturn, 1, (0, 0, 0, [])) := rfl
theorem l_Mo_file_39 : xlk (xm_cd m_Mo_file) 39 = some (.iload_n 2, 1, (0, 0, 0, [])) := rfl
theorem l_Mo_file_40 : xlk (xm_cd m_Mo_file) 40 = some (.i2l, 1, (0, 0, 0, [])) := rfl
theorem l_Mo_file_41 : xlk (xm_cd m_Mo_file) 41 = some (.lconst 0, 1, (0, 0, 0, [])) := rfl
theorem l_Mo_file_42 : xlk (xm_cd m_Mo_file) 42 = some (.aload_n 0, 1, (0, 0, 0, [])) := rfl
theorem l_Mo_file_43 : xlk (xm_cd m_Mo_file) 43 = some (.getfield 33, 3, (858, 11, 9, [])) := rfl
theorem l_Mo_file_46 : xlk (xm_cd m_Mo_file) 46 = some (.iload_n 1, 1, (0, 0, 0, [])) := rfl
theorem l_Mo_file_47 : xlk (xm_cd m_Mo_file) 47 = some (.iaload, 1, (0, 0, 0, [])) := rfl
theorem l_Mo_file_48 : xlk (xm_cd m_Mo_file) 48 = some (.iconst 1, 1, (0, 0, 0, [])) := rfl
theorem l_Mo_file_49 : xlk (xm_cd m_Mo_file) 49 = some (.isub, 1, (0, 0, 0, [])) := rfl
theorem l_Mo_file_50 : xlk (xm_cd m_Mo_file) 50 = some (.i2l, 1, (0, 0, 0, [])) := rfl
theorem l_Mo_file_51 : xlk (xm_cd m_Mo_file) 51 = some (.invokestatic 132, 3, (955, 0, 0, [(2, 2)])) := rfl
theorem l_Mo_file_54 : xlk (xm_cd m_Mo_file) 54 = some (.ifCond .ne 5, 3, (0, 59, 0, [])) := rfl
theorem l_Mo_file_57 : xlk (xm_cd m_Mo_file) 57 = some (.iconst (-1), 1, (0, 0, 0, [])) := rfl
theorem l_Mo_file_58 : xlk (xm_cd m_Mo_file) 58 = some (.ireturn, 1, (0, 0, 0, [])) := rfl
theorem l_Mo_file_59 : xlk (xm_cd m_Mo_file) 59 = some (.iload_n 1, 1, (0, 0, 0, [])) := rfl
theorem l_Mo_file_60 : xlk (xm_cd m_Mo_file) 60 = some (.iload_n 2, 1, (0, 0, 0, [])) := rfl
theorem l_Mo_file_61 : xlk (xm_cd m_Mo_file) 61 = some (.invokestatic 155, 3, (971, 152, 2, [])) := rfl
theorem l_Mo_file_64 : xlk (xm_cd m_Mo_file) 64 = some (.istore 4, 2, (0, 0, 0, [])) := rfl
theorem l_Mo_file_66 : xlk (xm_cd m_Mo_file) 66 = some (.iload_n 3, 1, (0, 0, 0, [])) := rfl
theorem l_Mo_file_67 : xlk (xm_cd m_Mo_file) 67 = some (.ifCond .ne 13, 3, (0, 80, 0, [])) := rfl
theorem l_Mo_file_70 : xlk (xm_cd m_Mo_file) 70 = some (.aload_n 0, 1, (0, 0, 0, [])) := rfl
theorem l_Mo_file_71 : xlk (xm_cd m_Mo_file) 71 = some (.getfield 23, 3, (855, 11, 6, [])) := rfl
theorem l_Mo_file_74 : xlk (xm_cd m_Mo_file) 74 = some (.iload 4, 2, (0, 0, 0, [])) := rfl
theorem l_Mo_file_76 : xlk (xm_cd m_Mo_file) 76 = some (.iaload, 1, (0, 0, 0, [])) := rfl
theorem l_Mo_file_77 : xlk (xm_cd m_Mo_file) 77 = some (.goto 37, 3, (0, 114, 0, [])) := rfl
theorem l_Mo_file_80 : xlk (xm_cd m_Mo_file) 80 = some (.iload_n 3, 1, (0, 0, 0, [])) := rfl
theorem l_Mo_file_81 : xlk (xm_cd m_Mo_file) 81 = some (.iconst 1, 1, (0, 0, 0, [])) := rfl
theorem l_Mo_file_82 : xlk (xm_cd m_Mo_file) 82 = some (.if_icmp .ne 13, 3, (0, 95, 0, [])) := rfl
theorem l_Mo_file_85 : xlk (xm_cd m_Mo_file) 85 = some (.aload_n 0, 1, (0, 0, 0, [])) := rfl
theorem l_Mo_file_86 : xlk (xm_cd m_Mo_file) 86 = some (.getfield 30, 3, (857, 11, 8, [])) := rfl
theorem l_Mo_file_89 : xlk (xm_cd m_Mo_file) 89 = some (.iload 4, 2, (0, 0, 0, [])) := rfl
theorem l_Mo_file_91 : xlk (xm_cd m_Mo_file) 91 = some (.iaload, 1, (0, 0, 0, [])) := rfl
theorem l_Mo_file_92 : xlk (xm_cd m_Mo_file) 92 = some (.goto 22, 3, (0, 114, 0, [])) := rfl
theorem l_Mo_file_95 : xlk (xm_cd m_Mo_file) 95 = some (.aload_n 0, 1, (0, 0, 0, [])) := rfl
theorem l_Mo_file_96 : xlk (xm_cd m_Mo_file) 96 = some (.getfield 27, 3, (856, 11, 7, [])) := rfl
theorem l_Mo_file_99 : xlk (xm_cd m_Mo_file) 99 = some (.bipush 48, 2, (0, 0, 0, [])) := rfl
theorem l_Mo_file_101 : xlk (xm_cd m_Mo_file) 101 = some (.iload 4, 2, (0, 0, 0, [])) := rfl
theorem l_Mo_file_103 : xlk (xm_cd m_Mo_file) 103 = some (.imul, 1, (0, 0, 0, [])) := rfl
theorem l_Mo_file_104 : xlk (xm_cd m_Mo_file) 104 = some (.aload_n 0, 1, (0, 0, 0, [])) := rfl
theorem l_Mo_file_105 : xlk (xm_cd m_Mo_file) 105 = some (.getfield 30, 3, (857, 11, 8, [])) := rfl
theorem l_Mo_file_108 : xlk (xm_cd m_Mo_file) 108 = some (.iload 4, 2, (0, 0, 0, [])) := rfl
theorem l_Mo_file_110 : xlk (xm_cd m_Mo_file) 110 = some (.iaload, 1, (0, 0, 0, [])) := rfl
theorem l_Mo_file_111 : xlk (xm_cd m_Mo_file) 111 = some (.invokestatic 188, 3, (1011, 164, 3, [])) := rfl
theorem l_Mo_file_114 : xlk (xm_cd m_Mo_file) 114 = some (.ireturn, 1, (0, 0, 0, [])) := rfl
def B_Mo_file_0 (d : Nat) (E : Option Value → xH → Prop) (f : xH) (a0 : Nat) (x1 : Int32) (x2 : Int32) (x3 : Int32) : Prop :=
  xpf f a0 11 0 (.int 0) (fun f1 => (∃ fs, f1 a0 = some (xO 11 fs)) ∧ xSp xT0 d j_Mo_noTree [.ref a0, .int x1] f1 (fun w2 f3 => xvi w2 (fun v4 => xbr (¬ v4 = 0) (E (some (.int (-1))) f3) (xbr (¬ (if (0 : Int64) ≤ x3.toInt64 ∧ x3.toInt64 ≤ 3 then (1 : Int32) else 0) = 0) (xbr (¬ x3 = 3) (xgr f3 a0 11 9 (fun r5 => xal f3 r5 0 x1 (fun v6 => xbr (¬ (if (0 : Int64) ≤ x2.toInt64 ∧ x2.toInt64 ≤ (v6 - 1).toInt64 then (1 : Int32) else 0) = 0) (xSp xT0 d j_Mo_at [.int x1, .int x2] f3 (fun w7 f8 => xvi w7 (fun v9 => xbr (¬ x3 = 0) (xbr (¬ x3 = 1) (xgr f8 a0 11 7 (fun r10 => xgr f8 a0 11 8 (fun r11 => xal f8 r11 0 v9 (fun v12 => xSp xT0 d j_Mo_sum [.ref r10, .int (48 * v9), .int v12] f8 (fun w13 f14 => xvi w13 (fun v15 => E (some (.int v15)) f14)))))) (xgr f8 a0 11 8 (fun r16 => xal f8 r16 0 v9 (fun v17 => E (some (.int v17)) f8)))) (xgr f8 a0 11 6 (fun r18 => xal f8 r18 0 v9 (fun v19 => E (some (.int v19)) f8)))))) (E (some (.int (-1))) f3)))) (xgr f3 a0 11 9 (fun r20 => xal f3 r20 0 x1 (fun v21 => E (some (.int v21)) f3)))) (E (some (.int (-1))) f3)))))
theorem b_Mo_file_0 {d : Nat} {E : Option Value → xH → Prop} {f : xH} {a0 : Nat} {x1 : Int32} {x2 : Int32} {x3 : Int32} (h : B_Mo_file_0 d E f a0 x1 x2 x3) : xWp (xT0, xSp xT0 d, none, m_Mo_file, E) 0 [some (.ref a0), some (.int x1), some (.int x2), some (.int x3), none] [] f 0 0 := by
  unfold B_Mo_file_0 at h
  refine s_aln l_Mo_file_0 rfl ?_
  refine s_ic 0 l_Mo_file_1 rfl ?_
  refine s_pf l_Mo_file_2 ⟨_, rfl⟩ h (fun f1 h => ?_)
  refine s_aln l_Mo_file_5 rfl ?_
  refine s_iln l_Mo_file_6 rfl ?_
  refine s_cvi (As := [.int x1]) (r := []) l_Mo_file_7 rfl ⟨rfl, rfl⟩ rfl (Nat.le_of_ble_eq_true rfl) rfl ⟨Nat.zero_le _, Nat.zero_le _⟩ h (fun v4 f3 h => ?_)
  refine s_if l_Mo_file_10 h (fun h => ?_) (fun h => ?_)
  · refine s_ic (-1) l_Mo_file_25 rfl ?_
    exact s_iret l_Mo_file_26 rfl ⟨Nat.zero_le _, Nat.zero_le _⟩ h
  · refine s_iln l_Mo_file_13 rfl ?_
    refine s_i2l l_Mo_file_14 ?_
    refine s_lc 0 l_Mo_file_15 rfl ?_
    refine s_ldc2 3 l_Mo_file_16 rfl ?_
    refine s_in l_Mo_file_19 (Nat.le_of_ble_eq_true rfl) ⟨Nat.zero_le _, Nat.zero_le _⟩ ?_
    refine s_if l_Mo_file_22 h (fun h => ?_) (fun h => ?_)
    · refine s_iln l_Mo_file_27 rfl ?_
      refine s_ic 3 l_Mo_file_28 rfl ?_
      refine s_ifc l_Mo_file_29 h (fun h => ?_) (fun h => ?_)
      · refine s_iln l_Mo_file_39 rfl ?_
        refine s_i2l l_Mo_file_40 ?_
        refine s_lc 0 l_Mo_file_41 rfl ?_
        refine s_aln l_Mo_file_42 rfl ?_
        refine s_gr l_Mo_file_43 h (fun r5 h => ?_)
        refine s_iln l_Mo_file_46 rfl ?_
        refine s_ial l_Mo_file_47 rfl h (fun v6 h => ?_)
        refine s_ic 1 l_Mo_file_48 rfl ?_
        refine s_isub l_Mo_file_49 ?_
        refine s_i2l l_Mo_file_50 ?_
        refine s_in l_Mo_file_51 (Nat.le_of_ble_eq_true rfl) ⟨Nat.zero_le _, Nat.zero_le _⟩ ?_
        refine s_if l_Mo_file_54 h (fun h => ?_) (fun h => ?_)
        · refine s_iln l_Mo_file_59 rfl ?_
          refine s_iln l_Mo_file_60 rfl ?_
          refine s_csi (As := [.int x1, .int x2]) (r := []) l_Mo_file_61 rfl ⟨rfl, rfl⟩ rfl (Nat.le_of_ble_eq_true rfl) rfl ⟨Nat.zero_le _, Nat.zero_le _⟩ h (fun v9 f8 h => ?_)
          refine s_is l_Mo_file_64 (Nat.le_of_ble_eq_true rfl) ?_
          refine s_iln l_Mo_file_66 rfl ?_
          refine s_if l_Mo_file_67 h (fun h => ?_) (fun h => ?_)
          · refine s_iln l_Mo_file_80 rfl ?_
            refine s_ic 1 l_Mo_file_81 rfl ?_
            refine s_ifc l_Mo_file_82 h (fun h => ?_) (fun h => ?_)
            · refine s_aln l_Mo_file_95 rfl ?_
              refine s_gr l_Mo_file_96 h (fun r10 h => ?_)
              refine s_bp 48 l_Mo_file_99 rfl ?_
              refine s_il l_Mo_file_101 rfl ?_
              refine s_imul l_Mo_file_103 ?_
              refine s_aln l_Mo_file_104 rfl ?_
              refine s_gr l_Mo_file_105 h (fun r11 h => ?_)
              refine s_il l_Mo_file_108 rfl ?_
              refine s_ial l_Mo_file_110 rfl h (fun v12 h => ?_)
              refine s_csi (As := [.ref r10, .int (48 * v9), .int v12]) (r := []) l_Mo_file_111 rfl ⟨rfl, rfl⟩ rfl (Nat.le_of_ble_eq_true rfl) rfl ⟨Nat.zero_le _, Nat.zero_le _⟩ h (fun v15 f14 h => ?_)
              exact s_iret l_Mo_file_114 rfl ⟨Nat.zero_le _, Nat.zero_le _⟩ h
            · refine s_aln l_Mo_file_85 rfl ?_
              refine s_gr l_Mo_file_86 h (fun r16 h => ?_)
              refine s_il l_Mo_file_89 rfl ?_
              refine s_ial l_Mo_file_91 rfl h (fun v17 h => ?_)
              refine s_goto l_Mo_file_92 ?_
              exact s_iret l_Mo_file_114 rfl ⟨Nat.zero_le _, Nat.zero_le _⟩ h
          · refine s_aln l_Mo_file_70 rfl ?_
            refine s_gr l_Mo_file_71 h (fun r18 h => ?_)
            refine s_il l_Mo_file_74 rfl ?_
            refine s_ial l_Mo_file_76 rfl h (fun v19 h => ?_)
            refine s_goto l_Mo_file_77 ?_
            exact s_iret l_Mo_file_114 rfl ⟨Nat.zero_le _, Nat.zero_le _⟩ h
        · refine s_ic (-1) l_Mo_file_57 rfl ?_
          exact s_iret l_Mo_file_58 rfl ⟨Nat.zero_le _, Nat.zero_le _⟩ h
      · refine s_aln l_Mo_file_32 rfl ?_
        refine s_gr l_Mo_file_33 h (fun r20 h => ?_)
        refine s_iln l_Mo_file_36 rfl ?_
        refine s_ial l_Mo_file_37 rfl h (fun v21 h => ?_)
        exact s_iret l_Mo_file_38 rfl ⟨Nat.zero_le _, Nat.zero_le _⟩ h
    · refine s_ic (-1) l_Mo_file_25 rfl ?_
      exact s_iret l_Mo_file_26 rfl ⟨Nat.zero_le _, Nat.zero_le _⟩ h
theorem l_Mo_sum_0 : xlk (xm_cd m_Mo_sum) 0 = some (.sipush 5381, 3, (0, 0, 0, [])) := rfl
theorem l_Mo_sum_3 : xlk (xm_cd m_Mo_sum) 3 = some (.istore_n 3, 1, (0, 0, 0, [])) := rfl
theorem l_Mo_sum_4 : xlk (xm_cd m_Mo_sum) 4 = some (.iconst 0, 1, (0, 0, 0, [])) := rfl
theorem l_Mo_sum_5 : xlk (xm_cd m_Mo_sum) 5 = some (.istore 4, 2, (0, 0, 0, [])) := rfl
theorem l_Mo_sum_7 : xlk (xm_cd m_Mo_sum) 7 = some (.iload 4, 2, (0, 0, 0, [])) := rfl
theorem l_Mo_sum_9 : xlk (xm_cd m_Mo_sum) 9 = some (.iload_n 2, 1, (0, 0, 0, [])) := rfl
theorem l_Mo_sum_10 : xlk (xm_cd m_Mo_sum) 10 = some (.if_icmp .ge 28, 3, (0, 38, 0, [])) := rfl
theorem l_Mo_sum_13 : xlk (xm_cd m_Mo_sum) 13 = some (.bipush 33, 2, (0, 0, 0, [])) := rfl
theorem l_Mo_sum_15 : xlk (xm_cd m_Mo_sum) 15 = some (.iload_n 3, 1, (0, 0, 0, [])) := rfl
theorem l_Mo_sum_16 : xlk (xm_cd m_Mo_sum) 16 = some (.imul, 1, (0, 0, 0, [])) := rfl
theorem l_Mo_sum_17 : xlk (xm_cd m_Mo_sum) 17 = some (.aload_n 0, 1, (0, 0, 0, [])) := rfl
theorem l_Mo_sum_18 : xlk (xm_cd m_Mo_sum) 18 = some (.iload_n 1, 1, (0, 0, 0, [])) := rfl
theorem l_Mo_sum_19 : xlk (xm_cd m_Mo_sum) 19 = some (.iload 4, 2, (0, 0, 0, [])) := rfl
theorem l_Mo_sum_21 : xlk (xm_cd m_Mo_sum) 21 = some (.iadd, 1, (0, 0, 0, [])) := rfl
theorem l_Mo_sum_22 : xlk (xm_cd m_Mo_sum) 22 = some (.baload, 1, (0, 0, 0, [])) := rfl
theorem l_Mo_sum_23 : xlk (xm_cd m_Mo_sum) 23 = some (.sipush 255, 3, (0, 0, 0, [])) := rfl
theorem l_Mo_sum_26 : xlk (xm_cd m_Mo_sum) 26 = some (.iand, 1, (0, 0, 0, [])) := rfl
theorem l_Mo_sum_27 : xlk (xm_cd m_Mo_sum) 27 = some (.ixor, 1, (0, 0, 0, [])) := rfl
theorem l_Mo_sum_28 : xlk (xm_cd m_Mo_sum) 28 = some (.ldc 151, 2, (1014, 0, 0, [(65535, 0)])) := rfl
theorem l_Mo_sum_30 : xlk (xm_cd m_Mo_sum) 30 = some (.iand, 1, (0, 0, 0, [])) := rfl
theorem l_Mo_sum_31 : xlk (xm_cd m_Mo_sum) 31 = some (.istore_n 3, 1, (0, 0, 0, [])) := rfl
theorem l_Mo_sum_32 : xlk (xm_cd m_Mo_sum) 32 = some (.iinc 4 1, 3, (0, 0, 0, [])) := rfl
theorem l_Mo_sum_35 : xlk (xm_cd m_Mo_sum) 35 = some (.goto (-28), 3, (0, 7, 0, [])) := rfl
theorem l_Mo_sum_38 : xlk (xm_cd m_Mo_sum) 38 = some (.iload_n 3, 1, (0, 0, 0, [])) := rfl
theorem l_Mo_sum_39 : xlk (xm_cd m_Mo_sum) 39 = some (.ireturn, 1, (0, 0, 0, [])) := rfl
def B_Mo_sum_0 (d : Nat) (E : Option Value → xH → Prop) (f : xH) (a0 : Nat) (x1 : Int32) (x2 : Int32) : Prop :=
  xWp (xT0, xSp xT0 d, none, m_Mo_sum, E) 7 [some (.ref a0), some (.int x1), some (.int x2), some (.int 5381), some (.int 0)] [] f 0 0
theorem b_Mo_sum_0 {d : Nat} {E : Option Value → xH → Prop} {f : xH} {a0 : Nat} {x1 : Int32} {x2 : Int32} (h : B_Mo_sum_0 d E f a0 x1 x2) : xWp (xT0, xSp xT0 d, none, m_Mo_sum, E) 0 [some (.ref a0), some (.int x1), some (.int x2), none, none] [] f 0 0 := by
  unfold B_Mo_sum_0 at h
  refine s_sp 5381 l_Mo_sum_0 rfl ?_
  refine s_isn l_Mo_sum_3 (Nat.le_of_ble_eq_true rfl) ?_
  refine s_ic 0 l_Mo_sum_4 rfl ?_
  refine s_is l_Mo_sum_5 (Nat.le_of_ble_eq_true rfl) ?_
  exact h
def B_Mo_sum_7 (d : Nat) (E : Option Value → xH → Prop) (f : xH) (a0 : Nat) (x1 : Int32) (x2 : Int32) (x3 : Int32) (x4 : Int32) : Prop :=
  xbr (x2 ≤ x4) (E (some (.int x3)) f) (xal f a0 2 (x1 + x4) (fun v1 => xWp (xT0, xSp xT0 d, none, m_Mo_sum, E) 7 [some (.ref a0), some (.int x1), some (.int x2), some (.int (((33 * x3) ^^^ (v1 &&& 255)) &&& 65535)), some (.int (x4 + 1))] [] f 0 0))
theorem b_Mo_sum_7 {d : Nat} {E : Option Value → xH → Prop} {f : xH} {a0 : Nat} {x1 : Int32} {x2 : Int32} {x3 : Int32} {x4 : Int32} (h : B_Mo_sum_7 d E f a0 x1 x2 x3 x4) : xWp (xT0, xSp xT0 d, none, m_Mo_sum, E) 7 [some (.ref a0), some (.int x1), some (.int x2), some (.int x3), some (.int x4)] [] f 0 0 := by
  unfold B_Mo_sum_7 at h
  refine s_il l_Mo_sum_7 rfl ?_
  refine s_iln l_Mo_sum_9 rfl ?_
  refine s_ifc l_Mo_sum_10 h (fun h => ?_) (fun h => ?_)
  · refine s_iln l_Mo_sum_38 rfl ?_
    exact s_iret l_Mo_sum_39 rfl ⟨Nat.zero_le _, Nat.zero_le _⟩ h
  · refine s_bp 33 l_Mo_sum_13 rfl ?_
    refine s_iln l_Mo_sum_15 rfl ?_
    refine s_imul l_Mo_sum_16 ?_
    refine s_aln l_Mo_sum_17 rfl ?_
    refine s_iln l_Mo_sum_18 rfl ?_
    refine s_il l_Mo_sum_19 rfl ?_
    refine s_iadd l_Mo_sum_21 ?_
    refine s_bal l_Mo_sum_22 (Or.inr rfl) h (fun v1 h => ?_)
    refine s_sp 255 l_Mo_sum_23 rfl ?_
    refine s_iand l_Mo_sum_26 ?_
    refine s_ixor l_Mo_sum_27 ?_
    refine s_ldc 65535 l_Mo_sum_28 rfl ?_
    refine s_iand l_Mo_sum_30 ?_
    refine s_isn l_Mo_sum_31 (Nat.le_of_ble_eq_true rfl) ?_
    refine s_inc 1 l_Mo_sum_32 rfl rfl ?_
    refine s_goto l_Mo_sum_35 ?_
    exact h
theorem l_Mo_byteOf_0 : xlk (xm_cd m_Mo_byteOf) 0 = some (.aload_n 0, 1, (0, 0, 0, [])) := rfl
theorem l_Mo_byteOf_1 : xlk (xm_cd m_Mo_byteOf) 1 = some (.iconst 0, 1, (0, 0, 0, [])) := rfl
theorem l_Mo_byteOf_2 : xlk (xm_cd m_Mo_byteOf) 2 = some (.putfield 1, 3, (849, 11, 0, [(0, 0)])) := rfl
theorem l_Mo_byteOf_5 : xlk (xm_cd m_Mo_byteOf) 5 = some (.aload_n 0, 1, (0, 0, 0, [])) := rfl
theorem l_Mo_byteOf_6 : xlk (xm_cd m_Mo_byteOf) 6 = some (.iload_n 1, 1, (0, 0, 0, [])) := rfl
theorem l_Mo_byteOf_7 : xlk (xm_cd m_Mo_byteOf) 7 = some (.invokevirtual 170, 3, (968, 151, 1, [])) := rfl
theorem l_Mo_byteOf_10 : xlk (xm_cd m_Mo_byteOf) 10 = some (.ifCond .ne 47, 3, (0, 57, 0, [])) := rfl
theorem l_Mo_byteOf_13 : xlk (xm_cd m_Mo_byteOf) 13 = some (.iload_n 2, 1, (0, 0, 0, [])) := rfl
theorem l_Mo_byteOf_14 : xlk (xm_cd m_Mo_byteOf) 14 = some (.i2l, 1, (0, 0, 0, [])) := rfl
theorem l_Mo_byteOf_15 : xlk (xm_cd m_Mo_byteOf) 15 = some (.lconst 0, 1, (0, 0, 0, [])) := rfl
theorem l_Mo_byteOf_16 : xlk (xm_cd m_Mo_byteOf) 16 = some (.aload_n 0, 1, (0, 0, 0, [])) := rfl
theorem l_Mo_byteOf_17 : xlk (xm_cd m_Mo_byteOf) 17 = some (.getfield 33, 3, (858, 11, 9, [])) := rfl
theorem l_Mo_byteOf_20 : xlk (xm_cd m_Mo_byteOf) 20 = some (.iload_n 1, 1, (0, 0, 0, [])) := rfl
theorem l_Mo_byteOf_21 : xlk (xm_cd m_Mo_byteOf) 21 = some (.i2l, 1, (0, 0, 0, [])) := rfl
theorem l_Mo_byteOf_22 : xlk (xm_cd m_Mo_byteOf) 22 = some (.lconst 0, 1, (0, 0, 0, [])) := rfl
theorem l_Mo_byteOf_23 : xlk (xm_cd m_Mo_byteOf) 23 = some (.ldc2_w 192, 3, (1019, 0, 0, [(11, 0)])) := rfl
theorem l_Mo_byteOf_26 : xlk (xm_cd m_Mo_byteOf) 26 = some (.invokestatic 132, 3, (955, 0, 0, [(2, 2)])) := rfl
theorem l_Mo_byteOf_29 : xlk (xm_cd m_Mo_byteOf) 29 = some (.ifCond .eq 7, 3, (0, 36, 0, [])) := rfl
theorem l_Mo_byteOf_32 : xlk (xm_cd m_Mo_byteOf) 32 = some (.iload_n 1, 1, (0, 0, 0, [])) := rfl
theorem l_Mo_byteOf_33 : xlk (xm_cd m_Mo_byteOf) 33 = some (.goto 4, 3, (0, 37, 0, [])) := rfl
theorem l_Mo_byteOf_36 : xlk (xm_cd m_Mo_byteOf) 36 = some (.iconst 0, 1, (0, 0, 0, [])) := rfl
theorem l_Mo_byteOf_37 : xlk (xm_cd m_Mo_byteOf) 37 = some (.iaload, 1, (0, 0, 0, [])) := rfl
theorem l_Mo_byteOf_38 : xlk (xm_cd m_Mo_byteOf) 38 = some (.iconst 1, 1, (0, 0, 0, [])) := rfl
theorem l_Mo_byteOf_39 : xlk (xm_cd m_Mo_byteOf) 39 = some (.isub, 1, (0, 0, 0, [])) := rfl
theorem l_Mo_byteOf_40 : xlk (xm_cd m_Mo_byteOf) 40 = some (.i2l, 1, (0, 0, 0, [])) := rfl
theorem l_Mo_byteOf_41 : xlk (xm_cd m_Mo_byteOf) 41 = some (.invokestatic 132, 3, (955, 0, 0, [(2, 2)])) := rfl
theorem l_Mo_byteOf_44 : xlk (xm_cd m_Mo_byteOf) 44 = some (.ifCond .eq 13, 3, (0, 57, 0, [])) := rfl
theorem l_Mo_byteOf_47 : xlk (xm_cd m_Mo_byteOf) 47 = some (.iload_n 3, 1, (0, 0, 0, [])) := rfl
theorem l_Mo_byteOf_48 : xlk (xm_cd m_Mo_byteOf) 48 = some (.i2l, 1, (0, 0, 0, [])) := rfl
theorem l_Mo_byteOf_49 : xlk (xm_cd m_Mo_byteOf) 49 = some (.lconst 0, 1, (0, 0, 0, [])) := rfl
theorem l_Mo_byteOf_50 : xlk (xm_cd m_Mo_byteOf) 50 = some (.lconst 1, 1, (0, 0, 0, [])) := rfl
theorem l_Mo_byteOf_51 : xlk (xm_cd m_Mo_byteOf) 51 = some (.invokestatic 132, 3, (955, 0, 0, [(2, 2)])) := rfl
theorem l_Mo_byteOf_54 : xlk (xm_cd m_Mo_byteOf) 54 = some (.ifCond .ne 5, 3, (0, 59, 0, [])) := rfl
theorem l_Mo_byteOf_57 : xlk (xm_cd m_Mo_byteOf) 57 = some (.iconst (-1), 1, (0, 0, 0, [])) := rfl
theorem l_Mo_byteOf_58 : xlk (xm_cd m_Mo_byteOf) 58 = some (.ireturn, 1, (0, 0, 0, [])) := rfl
theorem l_Mo_byteOf_59 : xlk (xm_cd m_Mo_byteOf) 59 = some (.iload_n 1, 1, (0, 0, 0, [])) := rfl
theorem l_Mo_byteOf_60 : xlk (xm_cd m_Mo_byteOf) 60 = some (.iload_n 2, 1, (0, 0, 0, [])) := rfl
theorem l_Mo_byteOf_61 : xlk (xm_cd m_Mo_byteOf) 61 = some (.invokestatic 155, 3, (971, 152, 2, [])) := rfl
theorem l_Mo_byteOf_64 : xlk (xm_cd m_Mo_byteOf) 64 = some (.istore 5, 2, (0, 0, 0, [])) := rfl
theorem l_Mo_byteOf_66 : xlk (xm_cd m_Mo_byteOf) 66 = some (.iload_n 3, 1, (0, 0, 0, [])) := rfl
theorem l_Mo_byteOf_67 : xlk (xm_cd m_Mo_byteOf) 67 = some (.ifCond .ne 45, 3, (0, 112, 0, [])) := rfl
theorem l_Mo_byteOf_70 : xlk (xm_cd m_Mo_byteOf) 70 = some (.iload 4, 2, (0, 0, 0, [])) := rfl
theorem l_Mo_byteOf_72 : xlk (xm_cd m_Mo_byteOf) 72 = some (.i2l, 1, (0, 0, 0, [])) := rfl
theorem l_Mo_byteOf_73 : xlk (xm_cd m_Mo_byteOf) 73 = some (.lconst 0, 1, (0, 0, 0, [])) := rfl
theorem l_Mo_byteOf_74 : xlk (xm_cd m_Mo_byteOf) 74 = some (.aload_n 0, 1, (0, 0, 0, [])) := rfl
theorem l_Mo_byteOf_75 : xlk (xm_cd m_Mo_byteOf) 75 = some (.getfield 30, 3, (857, 11, 8, [])) := rfl
theorem l_Mo_byteOf_78 : xlk (xm_cd m_Mo_byteOf) 78 = some (.iload 5, 2, (0, 0, 0, [])) := rfl
theorem l_Mo_byteOf_80 : xlk (xm_cd m_Mo_byteOf) 80 = some (.iaload, 1, (0, 0, 0, [])) := rfl
theorem l_Mo_byteOf_81 : xlk (xm_cd m_Mo_byteOf) 81 = some (.iconst 1, 1, (0, 0, 0, [])) := rfl
theorem l_Mo_byteOf_82 : xlk (xm_cd m_Mo_byteOf) 82 = some (.isub, 1, (0, 0, 0, [])) := rfl
theorem l_Mo_byteOf_83 : xlk (xm_cd m_Mo_byteOf) 83 = some (.i2l, 1, (0, 0, 0, [])) := rfl
theorem l_Mo_byteOf_84 : xlk (xm_cd m_Mo_byteOf) 84 = some (.invokestatic 132, 3, (955, 0, 0, [(2, 2)])) := rfl
theorem l_Mo_byteOf_87 : xlk (xm_cd m_Mo_byteOf) 87 = some (.ifCond .eq 23, 3, (0, 110, 0, [])) := rfl
theorem l_Mo_byteOf_90 : xlk (xm_cd m_Mo_byteOf) 90 = some (.aload_n 0, 1, (0, 0, 0, [])) := rfl
theorem l_Mo_byteOf_91 : xlk (xm_cd m_Mo_byteOf) 91 = some (.getfield 27, 3, (856, 11, 7, [])) := rfl
theorem l_Mo_byteOf_94 : xlk (xm_cd m_Mo_byteOf) 94 = some (.bipush 48, 2, (0, 0, 0, [])) := rfl
theorem l_Mo_byteOf_96 : xlk (xm_cd m_Mo_byteOf) 96 = some (.iload 5, 2, (0, 0, 0, [])) := rfl
theorem l_Mo_byteOf_98 : xlk (xm_cd m_Mo_byteOf) 98 = some (.imul, 1, (0, 0, 0, [])) := rfl
theorem l_Mo_byteOf_99 : xlk (xm_cd m_Mo_byteOf) 99 = some (.iload 4, 2, (0, 0, 0, [])) := rfl
theorem l_Mo_byteOf_101 : xlk (xm_cd m_Mo_byteOf) 101 = some (.iadd, 1, (0, 0, 0, [])) := rfl
theorem l_Mo_byteOf_102 : xlk (xm_cd m_Mo_byteOf) 102 = some (.baload, 1, (0, 0, 0, [])) := rfl
theorem l_Mo_byteOf_103 : xlk (xm_cd m_Mo_byteOf) 103 = some (.sipush 255, 3, (0, 0, 0, [])) := rfl
theorem l_Mo_byteOf_106 : xlk (xm_cd m_Mo_byteOf) 106 = some (.iand, 1, (0, 0, 0, [])) := rfl
theorem l_Mo_byteOf_107 : xlk (xm_cd m_Mo_byteOf) 107 = some (.goto 4, 3, (0, 111, 0, [])) := rfl
theorem l_Mo_byteOf_110 : xlk (xm_cd m_Mo_byteOf) 110 = some (.iconst (-1), 1, (0, 0, 0, [])) := rfl
theorem l_Mo_byteOf_111 : xlk (xm_cd m_Mo_byteOf) 111 = some (.ireturn, 1, (0, 0, 0, [])) := rfl
theorem l_Mo_byteOf_112 : xlk (xm_cd m_Mo_byteOf) 112 = some (.iload 4, 2, (0, 0, 0, [])) := rfl
theorem l_Mo_byteOf_114 : xlk (xm_cd m_Mo_byteOf) 114 = some (.i2l, 1, (0, 0, 0, [])) := rfl
theorem l_Mo_byteOf_115 : xlk (xm_cd m_Mo_byteOf) 115 = some (.lconst 0, 1, (0, 0, 0, [])) := rfl
theorem l_Mo_byteOf_116 : xlk (xm_cd m_Mo_byteOf) 116 = some (.aload_n 0, 1, (0, 0, 0, [])) := rfl
theorem l_Mo_byteOf_117 : xlk (xm_cd m_Mo_byteOf) 117 = some (.getfield 23, 3, (855, 11, 6, [])) := rfl
theorem l_Mo_byteOf_120 : xlk (xm_cd m_Mo_byteOf) 120 = some (.iload 5, 2, (0, 0, 0, [])) := rfl
theorem l_Mo_byteOf_122 : xlk (xm_cd m_Mo_byteOf) 122 = some (.iaload, 1, (0, 0, 0, [])) := rfl
theorem l_Mo_byteOf_123 : xlk (xm_cd m_Mo_byteOf) 123 = some (.iconst 1, 1, (0, 0, 0, [])) := rfl
theorem l_Mo_byteOf_124 : xlk (xm_cd m_Mo_byteOf) 124 = some (.isub, 1, (0, 0, 0, [])) := rfl
theorem l_Mo_byteOf_125 : xlk (xm_cd m_Mo_byteOf) 125 = some (.i2l, 1, (0, 0, 0, [])) := rfl
theorem l_Mo_byteOf_126 : xlk (xm_cd m_Mo_byteOf) 126 = some (.invokestatic 132, 3, (955, 0, 0, [(2, 2)])) := rfl
theorem l_Mo_byteOf_129 : xlk (xm_cd m_Mo_byteOf) 129 = some (.ifCond .eq 19, 3, (0, 148, 0, [])) := rfl
theorem l_Mo_byteOf_132 : xlk (xm_cd m_Mo_byteOf) 132 = some (.aload_n 0, 1, (0, 0, 0, [])) := rfl
theorem l_Mo_byteOf_133 : xlk (xm_cd m_Mo_byteOf) 133 = some (.getfield 20, 3, (854, 11, 5, [])) := rfl
theorem l_Mo_byteOf_136 : xlk (xm_cd m_Mo_byteOf) 136 = some (.bipush 18, 2, (0, 0, 0, [])) := rfl
set_option maxRecDepth 20000 in
theorem l_Mo_byteOf_138 : xlk (xm_cd m_Mo_byteOf) 138 = some (.iload 5, 2, (0, 0, 0, [])) := rfl
set_option maxRecDepth 20000 in
theorem l_Mo_byteOf_140 : xlk (xm_cd m_Mo_byteOf) 140 = some (.imul, 1, (0, 0, 0, [])) := rfl
set_option maxRecDepth 20000 in
theorem l_Mo_byteOf_141 : xlk (xm_cd m_Mo_byteOf) 141 = some (.iload 4, 2, (0, 0, 0, [])) := rfl
set_option maxRecDepth 20000 in
theorem l_Mo_byteOf_143 : xlk (xm_cd m_Mo_byteOf) 143 = some (.iadd, 1, (0, 0, 0, [])) := rfl
set_option maxRecDepth 20000 in
theorem l_Mo_byteOf_144 : xlk (xm_cd m_Mo_byteOf) 144 = some (.baload, 1, (0, 0, 0, [])) := rfl
set_option maxRecDepth 20000 in
theorem l_Mo_byteOf_145 : xlk (xm_cd m_Mo_byteOf) 145 = some (.goto 4, 3, (0, 149, 0, [])) := rfl
set_option maxRecDepth 20000 in
theorem l_Mo_byteOf_148 : xlk (xm_cd m_Mo_byteOf) 148 = some (.iconst (-1), 1, (0, 0, 0, [])) := rfl
set_option maxRecDepth 20000 in
theorem l_Mo_byteOf_149 : xlk (xm_cd m_Mo_byteOf) 149 = some (.ireturn, 1, (0, 0, 0, [])) := rfl
def B_Mo_byteOf_0 (d : Nat) (E : Option Value → xH → Prop) (f : xH) (a0 : Nat) (x1 : Int32) (x2 : Int32) (x3 : Int32) (x4 : Int32) : Prop :=
  xpf f a0 11 0 (.int 0) (fun f1 => (∃ fs, f1 a0 = some (xO 11 fs)) ∧ xSp xT0 d j_Mo_noTree [.ref a0, .int x1] f1 (fun w2 f3 => xvi w2 (fun v4 => xbr (¬ v4 = 0) (E (some (.int (-1))) f3) (xgr f3 a0 11 9 (fun r5 => xbr ((if (0 : Int64) ≤ x1.toInt64 ∧ x1.toInt64 ≤ 11 then (1 : Int32) else 0) = 0) (xal f3 r5 0 0 (fun v6 => xbr ((if (0 : Int64) ≤ x2.toInt64 ∧ x2.toInt64 ≤ (v6 - 1).toInt64 then (1 : Int32) else 0) = 0) (E (some (.int (-1))) f3) (xbr (¬ (if (0 : Int64) ≤ x3.toInt64 ∧ x3.toInt64 ≤ 1 then (1 : Int32) else 0) = 0) (xSp xT0 d j_Mo_at [.int x1, .int x2] f3 (fun w7 f8 => xvi w7 (fun v9 => xbr (¬ x3 = 0) (xgr f8 a0 11 6 (fun r10 => xal f8 r10 0 v9 (fun v11 => xbr ((if (0 : Int64) ≤ x4.toInt64 ∧ x4.toInt64 ≤ (v11 - 1).toInt64 then (1 : Int32) else 0) = 0) (E (some (.int (-1))) f8) (xgr f8 a0 11 5 (fun r12 => xal f8 r12 2 ((18 * v9) + x4) (fun v13 => E (some (.int v13)) f8)))))) (xgr f8 a0 11 8 (fun r14 => xal f8 r14 0 v9 (fun v15 => xbr ((if (0 : Int64) ≤ x4.toInt64 ∧ x4.toInt64 ≤ (v15 - 1).toInt64 then (1 : Int32) else 0) = 0) (E (some (.int (-1))) f8) (xgr f8 a0 11 7 (fun r16 => xal f8 r16 2 ((48 * v9) + x4) (fun v17 => E (some (.int (v17 &&& 255))) f8))))))))) (E (some (.int (-1))) f3)))) (xal f3 r5 0 x1 (fun v18 => xbr ((if (0 : Int64) ≤ x2.toInt64 ∧ x2.toInt64 ≤ (v18 - 1).toInt64 then (1 : Int32) else 0) = 0) (E (some (.int (-1))) f3) (xbr (¬ (if (0 : Int64) ≤ x3.toInt64 ∧ x3.toInt64 ≤ 1 then (1 : Int32) else 0) = 0) (xSp xT0 d j_Mo_at [.int x1, .int x2] f3 (fun w19 f20 => xvi w19 (fun v21 => xbr (¬ x3 = 0) (xgr f20 a0 11 6 (fun r22 => xal f20 r22 0 v21 (fun v23 => xbr ((if (0 : Int64) ≤ x4.toInt64 ∧ x4.toInt64 ≤ (v23 - 1).toInt64 then (1 : Int32) else 0) = 0) (E (some (.int (-1))) f20) (xgr f20 a0 11 5 (fun r24 => xal f20 r24 2 ((18 * v21) + x4) (fun v25 => E (some (.int v25)) f20)))))) (xgr f20 a0 11 8 (fun r26 => xal f20 r26 0 v21 (fun v27 => xbr ((if (0 : Int64) ≤ x4.toInt64 ∧ x4.toInt64 ≤ (v27 - 1).toInt64 then (1 : Int32) else 0) = 0) (E (some (.int (-1))) f20) (xgr f20 a0 11 7 (fun r28 => xal f20 r28 2 ((48 * v21) + x4) (fun v29 => E (some (.int (v29 &&& 255))) f20))))))))) (E (some (.int (-1))) f3)))))))))
theorem b_Mo_byteOf_0 {d : Nat} {E : Option Value → xH → Prop} {f : xH} {a0 : Nat} {x1 : Int32} {x2 : Int32} {x3 : Int32} {x4 : Int32} (h : B_Mo_byteOf_0 d E f a0 x1 x2 x3 x4) : xWp (xT0, xSp xT0 d, none, m_Mo_byteOf, E) 0 [some (.ref a0), some (.int x1), some (.int x2), some (.int x3), some (.int x4), none] [] f 0 0 := by
  unfold B_Mo_byteOf_0 at h
  refine s_aln l_Mo_byteOf_0 rfl ?_
  refine s_ic 0 l_Mo_byteOf_1 rfl ?_
  refine s_pf l_Mo_byteOf_2 ⟨_, rfl⟩ h (fun f1 h => ?_)
  refine s_aln l_Mo_byteOf_5 rfl ?_
  refine s_iln l_Mo_byteOf_6 rfl ?_
  refine s_cvi (As := [.int x1]) (r := []) l_Mo_byteOf_7 rfl ⟨rfl, rfl⟩ rfl (Nat.le_of_ble_eq_true rfl) rfl ⟨Nat.zero_le _, Nat.zero_le _⟩ h (fun v4 f3 h => ?_)
  refine s_if l_Mo_byteOf_10 h (fun h => ?_) (fun h => ?_)
  · refine s_ic (-1) l_Mo_byteOf_57 rfl ?_
    exact s_iret l_Mo_byteOf_58 rfl ⟨Nat.zero_le _, Nat.zero_le _⟩ h
  · refine s_iln l_Mo_byteOf_13 rfl ?_
    refine s_i2l l_Mo_byteOf_14 ?_
    refine s_lc 0 l_Mo_byteOf_15 rfl ?_
    refine s_aln l_Mo_byteOf_16 rfl ?_
    refine s_gr l_Mo_byteOf_17 h (fun r5 h => ?_)
    refine s_iln l_Mo_byteOf_20 rfl ?_
    refine s_i2l l_Mo_byteOf_21 ?_
    refine s_lc 0 l_Mo_byteOf_22 rfl ?_
    refine s_ldc2 11 l_Mo_byteOf_23 rfl ?_
    refine s_in l_Mo_byteOf_26 (Nat.le_of_ble_eq_true rfl) ⟨Nat.zero_le _, Nat.zero_le _⟩ ?_
    refine s_if l_Mo_byteOf_29 h (fun h => ?_) (fun h => ?_)
    · refine s_ic 0 l_Mo_byteOf_36 rfl ?_
      refine s_ial l_Mo_byteOf_37 rfl h (fun v6 h => ?_)
      refine s_ic 1 l_Mo_byteOf_38 rfl ?_
      refine s_isub l_Mo_byteOf_39 ?_
      refine s_i2l l_Mo_byteOf_40 ?_
      refine s_in l_Mo_byteOf_41 (Nat.le_of_ble_eq_true rfl) ⟨Nat.zero_le _, Nat.zero_le _⟩ ?_
      refine s_if l_Mo_byteOf_44 h (fun h => ?_) (fun h => ?_)
      · refine s_ic (-1) l_Mo_byteOf_57 rfl ?_
        exact s_iret l_Mo_byteOf_58 rfl ⟨Nat.zero_le _, Nat.zero_le _⟩ h
      · refine s_iln l_Mo_byteOf_47 rfl ?_
        refine s_i2l l_Mo_byteOf_48 ?_
        refine s_lc 0 l_Mo_byteOf_49 rfl ?_
        refine s_lc 1 l_Mo_byteOf_50 rfl ?_
        refine s_in l_Mo_byteOf_51 (Nat.le_of_ble_eq_true rfl) ⟨Nat.zero_le _, Nat.zero_le _⟩ ?_
        refine s_if l_Mo_byteOf_54 h (fun h => ?_) (fun h => ?_)
        · refine s_iln l_Mo_byteOf_59 rfl ?_
          refine s_iln l_Mo_byteOf_60 rfl ?_
          refine s_csi (As := [.int x1, .int x2]) (r := []) l_Mo_byteOf_61 rfl ⟨rfl, rfl⟩ rfl (Nat.le_of_ble_eq_true rfl) rfl ⟨Nat.zero_le _, Nat.zero_le _⟩ h (fun v9 f8 h => ?_)
          refine s_is l_Mo_byteOf_64 (Nat.le_of_ble_eq_true rfl) ?_
          refine s_iln l_Mo_byteOf_66 rfl ?_
          refine s_if l_Mo_byteOf_67 h (fun h => ?_) (fun h => ?_)
          · refine s_il l_Mo_byteOf_112 rfl ?_
            refine s_i2l l_Mo_byteOf_114 ?_
            refine s_lc 0 l_Mo_byteOf_115 rfl ?_
            refine s_aln l_Mo_byteOf_116 rfl ?_
            refine s_gr l_Mo_byteOf_117 h (fun r10 h => ?_)
            refine s_il l_Mo_byteOf_120 rfl ?_
            refine s_ial l_Mo_byteOf_122 rfl h (fun v11 h => ?_)
            refine s_ic 1 l_Mo_byteOf_123 rfl ?_
            refine s_isub l_Mo_byteOf_124 ?_
            refine s_i2l l_Mo_byteOf_125 ?_
            refine s_in l_Mo_byteOf_126 (Nat.le_of_ble_eq_true rfl) ⟨Nat.zero_le _, Nat.zero_le _⟩ ?_
            refine s_if l_Mo_byteOf_129 h (fun h => ?_) (fun h => ?_)
            · refine s_ic (-1) l_Mo_byteOf_148 rfl ?_
              exact s_iret l_Mo_byteOf_149 rfl ⟨Nat.zero_le _, Nat.zero_le _⟩ h
            · refine s_aln l_Mo_byteOf_132 rfl ?_
              refine s_gr l_Mo_byteOf_133 h (fun r12 h => ?_)
              refine s_bp 18 l_Mo_byteOf_136 rfl ?_
              refine s_il l_Mo_byteOf_138 rfl ?_
              refine s_imul l_Mo_byteOf_140 ?_
              refine s_il l_Mo_byteOf_141 rfl ?_
              refine s_iadd l_Mo_byteOf_143 ?_
              refine s_bal l_Mo_byteOf_144 (Or.inr rfl) h (fun v13 h => ?_)
              refine s_goto l_Mo_byteOf_145 ?_
              exact s_iret l_Mo_byteOf_149 rfl ⟨Nat.zero_le _, Nat.zero_le _⟩ h
          · refine s_il l_Mo_byteOf_70 rfl ?_
            refine s_i2l l_Mo_byteOf_72 ?_
            refine s_lc 0 l_Mo_byteOf_73 rfl ?_
            refine s_aln l_Mo_byteOf_74 rfl ?_
            refine s_gr l_Mo_byteOf_75 h (fun r14 h => ?_)
            refine s_il l_Mo_byteOf_78 rfl ?_
            refine s_ial l_Mo_byteOf_80 rfl h (fun v15 h => ?_)
            refine s_ic 1 l_Mo_byteOf_81 rfl ?_
            refine s_isub l_Mo_byteOf_82 ?_
            refine s_i2l l_Mo_byteOf_83 ?_
            refine s_in l_Mo_byteOf_84 (Nat.le_of_ble_eq_true rfl) ⟨Nat.zero_le _, Nat.zero_le _⟩ ?_
            refine s_if l_Mo_byteOf_87 h (fun h => ?_) (fun h => ?_)
            · refine s_ic (-1) l_Mo_byteOf_110 rfl ?_
              exact s_iret l_Mo_byteOf_111 rfl ⟨Nat.zero_le _, Nat.zero_le _⟩ h
            · refine s_aln l_Mo_byteOf_90 rfl ?_
              refine s_gr l_Mo_byteOf_91 h (fun r16 h => ?_)
              refine s_bp 48 l_Mo_byteOf_94 rfl ?_
              refine s_il l_Mo_byteOf_96 rfl ?_
              refine s_imul l_Mo_byteOf_98 ?_
              refine s_il l_Mo_byteOf_99 rfl ?_
              refine s_iadd l_Mo_byteOf_101 ?_
              refine s_bal l_Mo_byteOf_102 (Or.inr rfl) h (fun v17 h => ?_)
              refine s_sp 255 l_Mo_byteOf_103 rfl ?_
              refine s_iand l_Mo_byteOf_106 ?_
              refine s_goto l_Mo_byteOf_107 ?_
              exact s_iret l_Mo_byteOf_111 rfl ⟨Nat.zero_le _, Nat.zero_le _⟩ h
        · refine s_ic (-1) l_Mo_byteOf_57 rfl ?_
          exact s_iret l_Mo_byteOf_58 rfl ⟨Nat.zero_le _, Nat.zero_le _⟩ h
    · refine s_iln l_Mo_byteOf_32 rfl ?_
      refine s_goto l_Mo_byteOf_33 ?_
      refine s_ial l_Mo_byteOf_37 rfl h (fun v18 h => ?_)
      refine s_ic 1 l_Mo_byteOf_38 rfl ?_
      refine s_isub l_Mo_byteOf_39 ?_
      refine s_i2l l_Mo_byteOf_40 ?_
      refine s_in l_Mo_byteOf_41 (Nat.le_of_ble_eq_true rfl) ⟨Nat.zero_le _, Nat.zero_le _⟩ ?_
      refine s_if l_Mo_byteOf_44 h (fun h => ?_) (fun h => ?_)
      · refine s_ic (-1) l_Mo_byteOf_57 rfl ?_
        exact s_iret l_Mo_byteOf_58 rfl ⟨Nat.zero_le _, Nat.zero_le _⟩ h
      · refine s_iln l_Mo_byteOf_47 rfl ?_
        refine s_i2l l_Mo_byteOf_48 ?_
        refine s_lc 0 l_Mo_byteOf_49 rfl ?_
        refine s_lc 1 l_Mo_byteOf_50 rfl ?_
        refine s_in l_Mo_byteOf_51 (Nat.le_of_ble_eq_true rfl) ⟨Nat.zero_le _, Nat.zero_le _⟩ ?_
        refine s_if l_Mo_byteOf_54 h (fun h => ?_) (fun h => ?_)
        · refine s_iln l_Mo_byteOf_59 rfl ?_
          refine s_iln l_Mo_byteOf_60 rfl ?_
          refine s_csi (As := [.int x1, .int x2]) (r := []) l_Mo_byteOf_61 rfl ⟨rfl, rfl⟩ rfl (Nat.le_of_ble_eq_true rfl) rfl ⟨Nat.zero_le _, Nat.zero_le _⟩ h (fun v21 f20 h => ?_)
          refine s_is l_Mo_byteOf_64 (Nat.le_of_ble_eq_true rfl) ?_
          refine s_iln l_Mo_byteOf_66 rfl ?_
          refine s_if l_Mo_byteOf_67 h (fun h => ?_) (fun h => ?_)
          · refine s_il l_Mo_byteOf_112 rfl ?_
            refine s_i2l l_Mo_byteOf_114 ?_
            refine s_lc 0 l_Mo_byteOf_115 rfl ?_
            refine s_aln l_Mo_byteOf_116 rfl ?_
            refine s_gr l_Mo_byteOf_117 h (fun r22 h => ?_)
            refine s_il l_Mo_byteOf_120 rfl ?_
            refine s_ial l_Mo_byteOf_122 rfl h (fun v23 h => ?_)
            refine s_ic 1 l_Mo_byteOf_123 rfl ?_
            refine s_isub l_Mo_byteOf_124 ?_
            refine s_i2l l_Mo_byteOf_125 ?_
            refine s_in l_Mo_byteOf_126 (Nat.le_of_ble_eq_true rfl) ⟨Nat.zero_le _, Nat.zero_le _⟩ ?_
            refine s_if l_Mo_byteOf_129 h (fun h => ?_) (fun h => ?_)
            · refine s_ic (-1) l_Mo_byteOf_148 rfl ?_
              exact s_iret l_Mo_byteOf_149 rfl ⟨Nat.zero_le _, Nat.zero_le _⟩ h
            · refine s_aln l_Mo_byteOf_132 rfl ?_
              refine s_gr l_Mo_byteOf_133 h (fun r24 h => ?_)
              refine s_bp 18 l_Mo_byteOf_136 rfl ?_
              refine s_il l_Mo_byteOf_138 rfl ?_
              refine s_imul l_Mo_byteOf_140 ?_
              refine s_il l_Mo_byteOf_141 rfl ?_
              refine s_iadd l_Mo_byteOf_143 ?_
              refine s_bal l_Mo_byteOf_144 (Or.inr rfl) h (fun v25 h => ?_)
              refine s_goto l_Mo_byteOf_145 ?_
              exact s_iret l_Mo_byteOf_149 rfl ⟨Nat.zero_le _, Nat.zero_le _⟩ h
          · refine s_il l_Mo_byteOf_70 rfl ?_
            refine s_i2l l_Mo_byteOf_72 ?_
            refine s_lc 0 l_Mo_byteOf_73 rfl ?_
            refine s_aln l_Mo_byteOf_74 rfl ?_
            refine s_gr l_Mo_byteOf_75 h (fun r26 h => ?_)
            refine s_il l_Mo_byteOf_78 rfl ?_
            refine s_ial l_Mo_byteOf_80 rfl h (fun v27 h => ?_)
            refine s_ic 1 l_Mo_byteOf_81 rfl ?_
            refine s_isub l_Mo_byteOf_82 ?_
            refine s_i2l l_Mo_byteOf_83 ?_
            refine s_in l_Mo_byteOf_84 (Nat.le_of_ble_eq_true rfl) ⟨Nat.zero_le _, Nat.zero_le _⟩ ?_
            refine s_if l_Mo_byteOf_87 h (fun h => ?_) (fun h => ?_)
            · refine s_ic (-1) l_Mo_byteOf_110 rfl ?_
              exact s_iret l_Mo_byteOf_111 rfl ⟨Nat.zero_le _, Nat.zero_le _⟩ h
            · refine s_aln l_Mo_byteOf_90 rfl ?_
              refine s_gr l_Mo_byteOf_91 h (fun r28 h => ?_)
              refine s_bp 48 l_Mo_byteOf_94 rfl ?_
              refine s_il l_Mo_byteOf_96 rfl ?_
              refine s_imul l_Mo_byteOf_98 ?_
              refine s_il l_Mo_byteOf_99 rfl ?_
              refine s_iadd l_Mo_byteOf_101 ?_
              refine s_bal l_Mo_byteOf_102 (Or.inr rfl) h (fun v29 h => ?_)
              refine s_sp 255 l_Mo_byteOf_103 rfl ?_
              refine s_iand l_Mo_byteOf_106 ?_
              refine s_goto l_Mo_byteOf_107 ?_
              exact s_iret l_Mo_byteOf_111 rfl ⟨Nat.zero_le _, Nat.zero_le _⟩ h
        · refine s_ic (-1) l_Mo_byteOf_57 rfl ?_
          exact s_iret l_Mo_byteOf_58 rfl ⟨Nat.zero_le _, Nat.zero_le _⟩ h
theorem l_Mo_same_0 : xlk (xm_cd m_Mo_same) 0 = some (.aload_n 0, 1, (0, 0, 0, [])) := rfl
theorem l_Mo_same_1 : xlk (xm_cd m_Mo_same) 1 = some (.iconst 0, 1, (0, 0, 0, [])) := rfl
theorem l_Mo_same_2 : xlk (xm_cd m_Mo_same) 2 = some (.putfield 1, 3, (849, 11, 0, [(0, 0)])) := rfl
theorem l_Mo_same_5 : xlk (xm_cd m_Mo_same) 5 = some (.aload_n 0, 1, (0, 0, 0, [])) := rfl
theorem l_Mo_same_6 : xlk (xm_cd m_Mo_same) 6 = some (.iload_n 1, 1, (0, 0, 0, [])) := rfl
theorem l_Mo_same_7 : xlk (xm_cd m_Mo_same) 7 = some (.invokevirtual 170, 3, (968, 151, 1, [])) := rfl
theorem l_Mo_same_10 : xlk (xm_cd m_Mo_same) 10 = some (.ifCond .ne 11, 3, (0, 21, 0, [])) := rfl
theorem l_Mo_same_13 : xlk (xm_cd m_Mo_same) 13 = some (.aload_n 0, 1, (0, 0, 0, [])) := rfl
theorem l_Mo_same_14 : xlk (xm_cd m_Mo_same) 14 = some (.iload_n 2, 1, (0, 0, 0, [])) := rfl
theorem l_Mo_same_15 : xlk (xm_cd m_Mo_same) 15 = some (.invokevirtual 170, 3, (968, 151, 1, [])) := rfl
theorem l_Mo_same_18 : xlk (xm_cd m_Mo_same) 18 = some (.ifCond .eq 5, 3, (0, 23, 0, [])) := rfl
theorem l_Mo_same_21 : xlk (xm_cd m_Mo_same) 21 = some (.iconst (-1), 1, (0, 0, 0, [])) := rfl
theorem l_Mo_same_22 : xlk (xm_cd m_Mo_same) 22 = some (.ireturn, 1, (0, 0, 0, [])) := rfl
theorem l_Mo_same_23 : xlk (xm_cd m_Mo_same) 23 = some (.aload_n 0, 1, (0, 0, 0, [])) := rfl
theorem l_Mo_same_24 : xlk (xm_cd m_Mo_same) 24 = some (.getfield 33, 3, (858, 11, 9, [])) := rfl
theorem l_Mo_same_27 : xlk (xm_cd m_Mo_same) 27 = some (.iload_n 1, 1, (0, 0, 0, [])) := rfl
theorem l_Mo_same_28 : xlk (xm_cd m_Mo_same) 28 = some (.iaload, 1, (0, 0, 0, [])) := rfl
theorem l_Mo_same_29 : xlk (xm_cd m_Mo_same) 29 = some (.aload_n 0, 1, (0, 0, 0, [])) := rfl
theorem l_Mo_same_30 : xlk (xm_cd m_Mo_same) 30 = some (.getfield 33, 3, (858, 11, 9, [])) := rfl
theorem l_Mo_same_33 : xlk (xm_cd m_Mo_same) 33 = some (.iload_n 2, 1, (0, 0, 0, [])) := rfl
theorem l_Mo_same_34 : xlk (xm_cd m_Mo_same) 34 = some (.iaload, 1, (0, 0, 0, [])) := rfl
theorem l_Mo_same_35 : xlk (xm_cd m_Mo_same) 35 = some (.if_icmp .ne 7, 3, (0, 42, 0, [])) := rfl
theorem l_Mo_same_38 : xlk (xm_cd m_Mo_same) 38 = some (.iconst 1, 1, (0, 0, 0, [])) := rfl
theorem l_Mo_same_39 : xlk (xm_cd m_Mo_same) 39 = some (.goto 4, 3, (0, 43, 0, [])) := rfl
theorem l_Mo_same_42 : xlk (xm_cd m_Mo_same) 42 = some (.iconst 0, 1, (0, 0, 0, [])) := rfl
theorem l_Mo_same_43 : xlk (xm_cd m_Mo_same) 43 = some (.istore_n 3, 1, (0, 0, 0, [])) := rfl
theorem l_Mo_same_44 : xlk (xm_cd m_Mo_same) 44 = some (.iconst 0, 1, (0, 0, 0, [])) := rfl
theorem l_Mo_same_45 : xlk (xm_cd m_Mo_same) 45 = some (.istore 4, 2, (0, 0, 0, [])) := rfl
theorem l_Mo_same_47 : xlk (xm_cd m_Mo_same) 47 = some (.iload 4, 2, (0, 0, 0, [])) := rfl
theorem l_Mo_same_49 : xlk (xm_cd m_Mo_same) 49 = some (.aload_n 0, 1, (0, 0, 0, [])) := rfl
theorem l_Mo_same_50 : xlk (xm_cd m_Mo_same) 50 = some (.getfield 33, 3, (858, 11, 9, [])) := rfl
theorem l_Mo_same_53 : xlk (xm_cd m_Mo_same) 53 = some (.iload_n 1, 1, (0, 0, 0, [])) := rfl
theorem l_Mo_same_54 : xlk (xm_cd m_Mo_same) 54 = some (.iaload, 1, (0, 0, 0, [])) := rfl
theorem l_Mo_same_55 : xlk (xm_cd m_Mo_same) 55 = some (.if_icmp .ge 84, 3, (0, 139, 0, [])) := rfl
theorem l_Mo_same_58 : xlk (xm_cd m_Mo_same) 58 = some (.iload_n 3, 1, (0, 0, 0, [])) := rfl
theorem l_Mo_same_59 : xlk (xm_cd m_Mo_same) 59 = some (.ifCond .eq 80, 3, (0, 139, 0, [])) := rfl
theorem l_Mo_same_62 : xlk (xm_cd m_Mo_same) 62 = some (.iload_n 1, 1, (0, 0, 0, [])) := rfl
theorem l_Mo_same_63 : xlk (xm_cd m_Mo_same) 63 = some (.iload 4, 2, (0, 0, 0, [])) := rfl
theorem l_Mo_same_65 : xlk (xm_cd m_Mo_same) 65 = some (.invokestatic 155, 3, (971, 152, 2, [])) := rfl
theorem l_Mo_same_68 : xlk (xm_cd m_Mo_same) 68 = some (.istore 5, 2, (0, 0, 0, [])) := rfl
theorem l_Mo_same_70 : xlk (xm_cd m_Mo_same) 70 = some (.iload_n 2, 1, (0, 0, 0, [])) := rfl
theorem l_Mo_same_71 : xlk (xm_cd m_Mo_same) 71 = some (.iload 4, 2, (0, 0, 0, [])) := rfl
theorem l_Mo_same_73 : xlk (xm_cd m_Mo_same) 73 = some (.invokestatic 155, 3, (971, 152, 2, [])) := rfl
theorem l_Mo_same_76 : xlk (xm_cd m_Mo_same) 76 = some (.istore 6, 2, (0, 0, 0, [])) := rfl
theorem l_Mo_same_78 : xlk (xm_cd m_Mo_same) 78 = some (.aload_n 0, 1, (0, 0, 0, [])) := rfl
theorem l_Mo_same_79 : xlk (xm_cd m_Mo_same) 79 = some (.getfield 20, 3, (854, 11, 5, [])) := rfl
theorem l_Mo_same_82 : xlk (xm_cd m_Mo_same) 82 = some (.bipush 18, 2, (0, 0, 0, [])) := rfl
theorem l_Mo_same_84 : xlk (xm_cd m_Mo_same) 84 = some (.iload 5, 2, (0, 0, 0, [])) := rfl
theorem l_Mo_same_86 : xlk (xm_cd m_Mo_same) 86 = some (.imul, 1, (0, 0, 0, [])) := rfl
theorem l_Mo_same_87 : xlk (xm_cd m_Mo_same) 87 = some (.aload_n 0, 1, (0, 0, 0, [])) := rfl
theorem l_Mo_same_88 : xlk (xm_cd m_Mo_same) 88 = some (.getfield 23, 3, (855, 11, 6, [])) := rfl
theorem l_Mo_same_91 : xlk (xm_cd m_Mo_same) 91 = some (.iload 5, 2, (0, 0, 0, [])) := rfl
theorem l_Mo_same_93 : xlk (xm_cd m_Mo_same) 93 = some (.iaload, 1, (0, 0, 0, [])) := rfl
theorem l_Mo_same_94 : xlk (xm_cd m_Mo_same) 94 = some (.aload_n 0, 1, (0, 0, 0, [])) := rfl
theorem l_Mo_same_95 : xlk (xm_cd m_Mo_same) 95 = some (.getfield 20, 3, (854, 11, 5, [])) := rfl
theorem l_Mo_same_98 : xlk (xm_cd m_Mo_same) 98 = some (.bipush 18, 2, (0, 0, 0, [])) := rfl
theorem l_Mo_same_100 : xlk (xm_cd m_Mo_same) 100 = some (.iload 6, 2, (0, 0, 0, [])) := rfl
theorem l_Mo_same_102 : xlk (xm_cd m_Mo_same) 102 = some (.imul, 1, (0, 0, 0, [])) := rfl
theorem l_Mo_same_103 : xlk (xm_cd m_Mo_same) 103 = some (.aload_n 0, 1, (0, 0, 0, [])) := rfl
theorem l_Mo_same_104 : xlk (xm_cd m_Mo_same) 104 = some (.getfield 23, 3, (855, 11, 6, [])) := rfl
theorem l_Mo_same_107 : xlk (xm_cd m_Mo_same) 107 = some (.iload 6, 2, (0, 0, 0, [])) := rfl
theorem l_Mo_same_109 : xlk (xm_cd m_Mo_same) 109 = some (.iaload, 1, (0, 0, 0, [])) := rfl
theorem l_Mo_same_110 : xlk (xm_cd m_Mo_same) 110 = some (.invokestatic 143, 3, (987, 157, 6, [])) := rfl
theorem l_Mo_same_113 : xlk (xm_cd m_Mo_same) 113 = some (.ifCond .ne 18, 3, (0, 131, 0, [])) := rfl
theorem l_Mo_same_116 : xlk (xm_cd m_Mo_same) 116 = some (.aload_n 0, 1, (0, 0, 0, [])) := rfl
theorem l_Mo_same_117 : xlk (xm_cd m_Mo_same) 117 = some (.iload 5, 2, (0, 0, 0, [])) := rfl
theorem l_Mo_same_119 : xlk (xm_cd m_Mo_same) 119 = some (.iload 6, 2, (0, 0, 0, [])) := rfl
theorem l_Mo_same_121 : xlk (xm_cd m_Mo_same) 121 = some (.invokevirtual 194, 3, (1024, 167, 2, [])) := rfl
theorem l_Mo_same_124 : xlk (xm_cd m_Mo_same) 124 = some (.ifCond .eq 7, 3, (0, 131, 0, [])) := rfl
theorem l_Mo_same_127 : xlk (xm_cd m_Mo_same) 127 = some (.iconst 1, 1, (0, 0, 0, [])) := rfl
theorem l_Mo_same_128 : xlk (xm_cd m_Mo_same) 128 = some (.goto 4, 3, (0, 132, 0, [])) := rfl
theorem l_Mo_same_131 : xlk (xm_cd m_Mo_same) 131 = some (.iconst 0, 1, (0, 0, 0, [])) := rfl
theorem l_Mo_same_132 : xlk (xm_cd m_Mo_same) 132 = some (.istore_n 3, 1, (0, 0, 0, [])) := rfl
theorem l_Mo_same_133 : xlk (xm_cd m_Mo_same) 133 = some (.iinc 4 1, 3, (0, 0, 0, [])) := rfl
theorem l_Mo_same_136 : xlk (xm_cd m_Mo_same) 136 = some (.goto (-89), 3, (0, 47, 0, [])) := rfl
theorem l_Mo_same_139 : xlk (xm_cd m_Mo_same) 139 = some (.iload_n 3, 1, (0, 0, 0, [])) := rfl
theorem l_Mo_same_140 : xlk (xm_cd m_Mo_same) 140 = some (.ifCond .eq 7, 3, (0, 147, 0, [])) := rfl
theorem l_Mo_same_143 : xlk (xm_cd m_Mo_same) 143 = some (.iconst 1, 1, (0, 0, 0, [])) := rfl
theorem l_Mo_same_144 : xlk (xm_cd m_Mo_same) 144 = some (.goto 4, 3, (0, 148, 0, [])) := rfl
theorem l_Mo_same_147 : xlk (xm_cd m_Mo_same) 147 = some (.iconst 0, 1, (0, 0, 0, [])) := rfl
theorem l_Mo_same_148 : xlk (xm_cd m_Mo_same) 148 = some (.ireturn, 1, (0, 0, 0, [])) := rfl
def B_Mo_same_0 (d : Nat) (E : Option Value → xH → Prop) (f : xH) (a0 : Nat) (x1 : Int32) (x2 : Int32) : Prop :=
  xpf f a0 11 0 (.int 0) (fun f1 => (∃ fs, f1 a0 = some (xO 11 fs)) ∧ xSp xT0 d j_Mo_noTree [.ref a0, .int x1] f1 (fun w2 f3 => xvi w2 (fun v4 => xbr (¬ v4 = 0) (E (some (.int (-1))) f3) ((∃ fs, f3 a0 = some (xO 11 fs)) ∧ xSp xT0 d j_Mo_noTree [.ref a0, .int x2] f3 (fun w5 f6 => xvi w5 (fun v7 => xbr (v7 = 0) (xgr f6 a0 11 9 (fun r8 => xal f6 r8 0 x1 (fun v9 => xgr f6 a0 11 9 (fun r10 => xal f6 r10 0 x2 (fun v11 => xbr (¬ v9 = v11) (xWp (xT0, xSp xT0 d, none, m_Mo_same, E) 47 [some (.ref a0), some (.int x1), some (.int x2), some (.int 0), some (.int 0), none, none] [] f6 0 0) (xWp (xT0, xSp xT0 d, none, m_Mo_same, E) 47 [some (.ref a0), some (.int x1), some (.int x2), some (.int 1), some (.int 0), none, none] [] f6 0 0)))))) (E (some (.int (-1))) f6)))))))
theorem b_Mo_same_0 {d : Nat} {E : Option Value → xH → Prop} {f : xH} {a0 : Nat} {x1 : Int32} {x2 : Int32} (h : B_Mo_same_0 d E f a0 x1 x2) : xWp (xT0, xSp xT0 d, none, m_Mo_same, E) 0 [some (.ref a0), some (.int x1), some (.int x2), none, none, none, none] [] f 0 0 := by
  unfold B_Mo_same_0 at h
  refine s_aln l_Mo_same_0 rfl ?_
  refine s_ic 0 l_Mo_same_1 rfl ?_
  refine s_pf l_Mo_same_2 ⟨_, rfl⟩ h (fun f1 h => ?_)
  refine s_aln l_Mo_same_5 rfl ?_
  refine s_iln l_Mo_same_6 rfl ?_
  refine s_cvi (As := [.int x1]) (r := []) l_Mo_same_7 rfl ⟨rfl, rfl⟩ rfl (Nat.le_of_ble_eq_true rfl) rfl ⟨Nat.zero_le _, Nat.zero_le _⟩ h (fun v4 f3 h => ?_)
  refine s_if l_Mo_same_10 h (fun h => ?_) (fun h => ?_)
  · refine s_ic (-1) l_Mo_same_21 rfl ?_
    exact s_iret l_Mo_same_22 rfl ⟨Nat.zero_le _, Nat.zero_le _⟩ h
  · refine s_aln l_Mo_same_13 rfl ?_
    refine s_iln l_Mo_same_14 rfl ?_
    refine s_cvi (As := [.int x2]) (r := []) l_Mo_same_15 rfl ⟨rfl, rfl⟩ rfl (Nat.le_of_ble_eq_true rfl) rfl ⟨Nat.zero_le _, Nat.zero_le _⟩ h (fun v7 f6 h => ?_)
    refine s_if l_Mo_same_18 h (fun h => ?_) (fun h => ?_)
    · refine s_aln l_Mo_same_23 rfl ?_
      refine s_gr l_Mo_same_24 h (fun r8 h => ?_)
      refine s_iln l_Mo_same_27 rfl ?_
      refine s_ial l_Mo_same_28 rfl h (fun v9 h => ?_)
      refine s_aln l_Mo_same_29 rfl ?_
      refine s_gr l_Mo_same_30 h (fun r10 h => ?_)
      refine s_iln l_Mo_same_33 rfl ?_
      refine s_ial l_Mo_same_34 rfl h (fun v11 h => ?_)
      refine s_ifc l_Mo_same_35 h (fun h => ?_) (fun h => ?_)
      · refine s_ic 0 l_Mo_same_42 rfl ?_
        refine s_isn l_Mo_same_43 (Nat.le_of_ble_eq_true rfl) ?_
        refine s_ic 0 l_Mo_same_44 rfl ?_
        refine s_is l_Mo_same_45 (Nat.le_of_ble_eq_true rfl) ?_
        exact h
      · refine s_ic 1 l_Mo_same_38 rfl ?_
        refine s_goto l_Mo_same_39 ?_
        refine s_isn l_Mo_same_43 (Nat.le_of_ble_eq_true rfl) ?_
        refine s_ic 0 l_Mo_same_44 rfl ?_
        refine s_is l_Mo_same_45 (Nat.le_of_ble_eq_true rfl) ?_
        exact h
    · refine s_ic (-1) l_Mo_same_21 rfl ?_
      exact s_iret l_Mo_same_22 rfl ⟨Nat.zero_le _, Nat.zero_le _⟩ h
def B_Mo_same_47 (d : Nat) (E : Option Value → xH → Prop) (f : xH) (a0 : Nat) (x1 : Int32) (x2 : Int32) (x3 : Int32) (x4 : Int32) (u5 : Option Value) (u6 : Option Value) : Prop :=
  xgr f a0 11 9 (fun r1 => xal f r1 0 x1 (fun v2 => xbr (v2 ≤ x4) (xWp (xT0, xSp xT0 d, none, m_Mo_same, E) 139 [some (.ref a0), some (.int x1), some (.int x2), some (.int x3), some (.int x4), u5, u6] [] f 0 0) (xbr (x3 = 0) (xWp (xT0, xSp xT0 d, none, m_Mo_same, E) 139 [some (.ref a0), some (.int x1), some (.int x2), some (.int x3), some (.int x4), u5, u6] [] f 0 0) (xSp xT0 d j_Mo_at [.int x1, .int x4] f (fun w3 f4 => xvi w3 (fun v5 => xSp xT0 d j_Mo_at [.int x2, .int x4] f4 (fun w6 f7 => xvi w6 (fun v8 => xgr f7 a0 11 5 (fun r9 => xgr f7 a0 11 6 (fun r10 => xal f7 r10 0 v5 (fun v11 => xgr f7 a0 11 5 (fun r12 => xgr f7 a0 11 6 (fun r13 => xal f7 r13 0 v8 (fun v14 => xSp xT0 d j_Mo_order [.ref r9, .int (18 * v5), .int v11, .ref r12, .int (18 * v8), .int v14] f7 (fun w15 f16 => xvi w15 (fun v17 => xbr (¬ v17 = 0) (xWp (xT0, xSp xT0 d, none, m_Mo_same, E) 47 [some (.ref a0), some (.int x1), some (.int x2), some (.int 0), some (.int (x4 + 1)), some (.int v5), some (.int v8)] [] f16 0 0) ((∃ fs, f16 a0 = some (xO 11 fs)) ∧ xSp xT0 d j_Mo_isAlike [.ref a0, .int v5, .int v8] f16 (fun w18 f19 => xvi w18 (fun v20 => xbr (v20 = 0) (xWp (xT0, xSp xT0 d, none, m_Mo_same, E) 47 [some (.ref a0), some (.int x1), some (.int x2), some (.int 0), some (.int (x4 + 1)), some (.int v5), some (.int v8)] [] f19 0 0) (xWp (xT0, xSp xT0 d, none, m_Mo_same, E) 47 [some (.ref a0), some (.int x1), some (.int x2), some (.int 1), some (.int (x4 + 1)), some (.int v5), some (.int v8)] [] f19 0 0))))))))))))))))))))
theorem b_Mo_same_47 {d : Nat} {E : Option Value → xH → Prop} {f : xH} {a0 : Nat} {x1 : Int32} {x2 : Int32} {x3 : Int32} {x4 : Int32} {u5 : Option Value} {u6 : Option Value} (h : B_Mo_same_47 d E f a0 x1 x2 x3 x4 u5 u6) : xWp (xT0, xSp xT0 d, none, m_Mo_same, E) 47 [some (.ref a0), some (.int x1), some (.int x2), some (.int x3), some (.int x4), u5, u6] [] f 0 0 := by
  unfold B_Mo_same_47 at h
  refine s_il l_Mo_same_47 rfl ?_
  refine s_aln l_Mo_same_49 rfl ?_
  refine s_gr l_Mo_same_50 h (fun r1 h => ?_)
  refine s_iln l_Mo_same_53 rfl ?_
  refine s_ial l_Mo_same_54 rfl h (fun v2 h => ?_)
  refine s_ifc l_Mo_same_55 h (fun h => ?_) (fun h => ?_)
  · exact h
  · refine s_iln l_Mo_same_58 rfl ?_
    refine s_if l_Mo_same_59 h (fun h => ?_) (fun h => ?_)
    · exact h
    · refine s_iln l_Mo_same_62 rfl ?_
      refine s_il l_Mo_same_63 rfl ?_
      refine s_csi (As := [.int x1, .int x4]) (r := []) l_Mo_same_65 rfl ⟨rfl, rfl⟩ rfl (Nat.le_of_ble_eq_true rfl) rfl ⟨Nat.zero_le _, Nat.zero_le _⟩ h (fun v5 f4 h => ?_)
      refine s_is l_Mo_same_68 (Nat.le_of_ble_eq_true rfl) ?_
      refine s_iln l_Mo_same_70 rfl ?_
      refine s_il l_Mo_same_71 rfl ?_
      refine s_csi (As := [.int x2, .int x4]) (r := []) l_Mo_same_73 rfl ⟨rfl, rfl⟩ rfl (Nat.le_of_ble_eq_true rfl) rfl ⟨Nat.zero_le _, Nat.zero_le _⟩ h (fun v8 f7 h => ?_)
      refine s_is l_Mo_same_76 (Nat.le_of_ble_eq_true rfl) ?_
      refine s_aln l_Mo_same_78 rfl ?_
      refine s_gr l_Mo_same_79 h (fun r9 h => ?_)
      refine s_bp 18 l_Mo_same_82 rfl ?_
      refine s_il l_Mo_same_84 rfl ?_
      refine s_imul l_Mo_same_86 ?_
      refine s_aln l_Mo_same_87 rfl ?_
      refine s_gr l_Mo_same_88 h (fun r10 h => ?_)
      refine s_il l_Mo_same_91 rfl ?_
      refine s_ial l_Mo_same_93 rfl h (fun v11 h => ?_)
      refine s_aln l_Mo_same_94 rfl ?_
      refine s_gr l_Mo_same_95 h (fun r12 h => ?_)
      refine s_bp 18 l_Mo_same_98 rfl ?_
      refine s_il l_Mo_same_100 rfl ?_
      refine s_imul l_Mo_same_102 ?_
      refine s_aln l_Mo_same_103 rfl ?_
      refine s_gr l_Mo_same_104 h (fun r13 h => ?_)
      refine s_il l_Mo_same_107 rfl ?_
      refine s_ial l_Mo_same_109 rfl h (fun v14 h => ?_)
      refine s_csi (As := [.ref r9, .int (18 * v5), .int v11, .ref r12, .int (18 * v8), .int v14]) (r := []) l_Mo_same_110 rfl ⟨rfl, rfl⟩ rfl (Nat.le_of_ble_eq_true rfl) rfl ⟨Nat.zero_le _, Nat.zero_le _⟩ h (fun v17 f16 h => ?_)
      refine s_if l_Mo_same_113 h (fun h => ?_) (fun h => ?_)
      · refine s_ic 0 l_Mo_same_131 rfl ?_
        refine s_isn l_Mo_same_132 (Nat.le_of_ble_eq_true rfl) ?_
        refine s_inc 1 l_Mo_same_133 rfl rfl ?_
        refine s_goto l_Mo_same_136 ?_
        exact h
      · refine s_aln l_Mo_same_116 rfl ?_
        refine s_il l_Mo_same_117 rfl ?_
        refine s_il l_Mo_same_119 rfl ?_
        refine s_cvi (As := [.int v5, .int v8]) (r := []) l_Mo_same_121 rfl ⟨rfl, rfl⟩ rfl (Nat.le_of_ble_eq_true rfl) rfl ⟨Nat.zero_le _, Nat.zero_le _⟩ h (fun v20 f19 h => ?_)
        refine s_if l_Mo_same_124 h (fun h => ?_) (fun h => ?_)
        · refine s_ic 0 l_Mo_same_131 rfl ?_
          refine s_isn l_Mo_same_132 (Nat.le_of_ble_eq_true rfl) ?_
          refine s_inc 1 l_Mo_same_133 rfl rfl ?_
          refine s_goto l_Mo_same_136 ?_
          exact h
        · refine s_ic 1 l_Mo_same_127 rfl ?_
          refine s_goto l_Mo_same_128 ?_
          refine s_isn l_Mo_same_132 (Nat.le_of_ble_eq_true rfl) ?_
          refine s_inc 1 l_Mo_same_133 rfl rfl ?_
          refine s_goto l_Mo_same_136 ?_
          exact h
def B_Mo_same_139 (d : Nat) (E : Option Value → xH → Prop) (f : xH) (a0 : Nat) (x1 : Int32) (x2 : Int32) (x3 : Int32) (x4 : Int32) (u5 : Option Value) (u6 : Option Value) : Prop :=
  xbr (x3 = 0) (E (some (.int 0)) f) (E (some (.int 1)) f)
theorem b_Mo_same_139 {d : Nat} {E : Option Value → xH → Prop} {f : xH} {a0 : Nat} {x1 : Int32} {x2 : Int32} {x3 : Int32} {x4 : Int32} {u5 : Option Value} {u6 : Option Value} (h : B_Mo_same_139 d E f a0 x1 x2 x3 x4 u5 u6) : xWp (xT0, xSp xT0 d, none, m_Mo_same, E) 139 [some (.ref a0), some (.int x1), some (.int x2), some (.int x3), some (.int x4), u5, u6] [] f 0 0 := by
  unfold B_Mo_same_139 at h
  refine s_iln l_Mo_same_139 rfl ?_
  refine s_if l_Mo_same_140 h (fun h => ?_) (fun h => ?_)
  · refine s_ic 0 l_Mo_same_147 rfl ?_
    exact s_iret l_Mo_same_148 rfl ⟨Nat.zero_le _, Nat.zero_le _⟩ h
  · refine s_ic 1 l_Mo_same_143 rfl ?_
    refine s_goto l_Mo_same_144 ?_
    exact s_iret l_Mo_same_148 rfl ⟨Nat.zero_le _, Nat.zero_le _⟩ h
theorem l_Mo_isAlike_0 : xlk (xm_cd m_Mo_isAlike) 0 = some (.aload_n 0, 1, (0, 0, 0, [])) := rfl
theorem l_Mo_isAlike_1 : xlk (xm_cd m_Mo_isAlike) 1 = some (.getfield 27, 3, (856, 11, 7, [])) := rfl
theorem l_Mo_isAlike_4 : xlk (xm_cd m_Mo_isAlike) 4 = some (.bipush 48, 2, (0, 0, 0, [])) := rfl
theorem l_Mo_isAlike_6 : xlk (xm_cd m_Mo_isAlike) 6 = some (.iload_n 1, 1, (0, 0, 0, [])) := rfl
theorem l_Mo_isAlike_7 : xlk (xm_cd m_Mo_isAlike) 7 = some (.imul, 1, (0, 0, 0, [])) := rfl
theorem l_Mo_isAlike_8 : xlk (xm_cd m_Mo_isAlike) 8 = some (.aload_n 0, 1, (0, 0, 0, [])) := rfl
theorem l_Mo_isAlike_9 : xlk (xm_cd m_Mo_isAlike) 9 = some (.getfield 30, 3, (857, 11, 8, [])) := rfl
theorem l_Mo_isAlike_12 : xlk (xm_cd m_Mo_isAlike) 12 = some (.iload_n 1, 1, (0, 0, 0, [])) := rfl
theorem l_Mo_isAlike_13 : xlk (xm_cd m_Mo_isAlike) 13 = some (.iaload, 1, (0, 0, 0, [])) := rfl
theorem l_Mo_isAlike_14 : xlk (xm_cd m_Mo_isAlike) 14 = some (.aload_n 0, 1, (0, 0, 0, [])) := rfl
theorem l_Mo_isAlike_15 : xlk (xm_cd m_Mo_isAlike) 15 = some (.getfield 27, 3, (856, 11, 7, [])) := rfl
theorem l_Mo_isAlike_18 : xlk (xm_cd m_Mo_isAlike) 18 = some (.bipush 48, 2, (0, 0, 0, [])) := rfl
theorem l_Mo_isAlike_20 : xlk (xm_cd m_Mo_isAlike) 20 = some (.iload_n 2, 1, (0, 0, 0, [])) := rfl
theorem l_Mo_isAlike_21 : xlk (xm_cd m_Mo_isAlike) 21 = some (.imul, 1, (0, 0, 0, [])) := rfl
theorem l_Mo_isAlike_22 : xlk (xm_cd m_Mo_isAlike) 22 = some (.aload_n 0, 1, (0, 0, 0, [])) := rfl
theorem l_Mo_isAlike_23 : xlk (xm_cd m_Mo_isAlike) 23 = some (.getfield 30, 3, (857, 11, 8, [])) := rfl
theorem l_Mo_isAlike_26 : xlk (xm_cd m_Mo_isAlike) 26 = some (.iload_n 2, 1, (0, 0, 0, [])) := rfl
theorem l_Mo_isAlike_27 : xlk (xm_cd m_Mo_isAlike) 27 = some (.iaload, 1, (0, 0, 0, [])) := rfl
theorem l_Mo_isAlike_28 : xlk (xm_cd m_Mo_isAlike) 28 = some (.invokestatic 143, 3, (987, 157, 6, [])) := rfl
theorem l_Mo_isAlike_31 : xlk (xm_cd m_Mo_isAlike) 31 = some (.ifCond .ne 7, 3, (0, 38, 0, [])) := rfl
theorem l_Mo_isAlike_34 : xlk (xm_cd m_Mo_isAlike) 34 = some (.iconst 1, 1, (0, 0, 0, [])) := rfl
theorem l_Mo_isAlike_35 : xlk (xm_cd m_Mo_isAlike) 35 = some (.goto 4, 3, (0, 39, 0, [])) := rfl
theorem l_Mo_isAlike_38 : xlk (xm_cd m_Mo_isAlike) 38 = some (.iconst 0, 1, (0, 0, 0, [])) := rfl
theorem l_Mo_isAlike_39 : xlk (xm_cd m_Mo_isAlike) 39 = some (.ireturn, 1, (0, 0, 0, [])) := rfl
def B_Mo_isAlike_0 (d : Nat) (E : Option Value → xH → Prop) (f : xH) (a0 : Nat) (x1 : Int32) (x2 : Int32) : Prop :=
  xgr f a0 11 7 (fun r1 => xgr f a0 11 8 (fun r2 => xal f r2 0 x1 (fun v3 => xgr f a0 11 7 (fun r4 => xgr f a0 11 8 (fun r5 => xal f r5 0 x2 (fun v6 => xSp xT0 d j_Mo_order [.ref r1, .int (48 * x1), .int v3, .ref r4, .int (48 * x2), .int v6] f (fun w7 f8 => xvi w7 (fun v9 => xbr (¬ v9 = 0) (E (some (.int 0)) f8) (E (some (.int 1)) f8)))))))))
theorem b_Mo_isAlike_0 {d : Nat} {E : Option Value → xH → Prop} {f : xH} {a0 : Nat} {x1 : Int32} {x2 : Int32} (h : B_Mo_isAlike_0 d E f a0 x1 x2) : xWp (xT0, xSp xT0 d, none, m_Mo_isAlike, E) 0 [some (.ref a0), some (.int x1), some (.int x2)] [] f 0 0 := by
  unfold B_Mo_isAlike_0 at h
  refine s_aln l_Mo_isAlike_0 rfl ?_
  refine s_gr l_Mo_isAlike_1 h (fun r1 h => ?_)
  refine s_bp 48 l_Mo_isAlike_4 rfl ?_
  refine s_iln l_Mo_isAlike_6 rfl ?_
  refine s_imul l_Mo_isAlike_7 ?_
  refine s_aln l_Mo_isAlike_8 rfl ?_
  refine s_gr l_Mo_isAlike_9 h (fun r2 h => ?_)
  refine s_iln l_Mo_isAlike_12 rfl ?_
  refine s_ial l_Mo_isAlike_13 rfl h (fun v3 h => ?_)
  refine s_aln l_Mo_isAlike_14 rfl ?_
  refine s_gr l_Mo_isAlike_15 h (fun r4 h => ?_)
  refine s_bp 48 l_Mo_isAlike_18 rfl ?_
  refine s_iln l_Mo_isAlike_20 rfl ?_
  refine s_imul l_Mo_isAlike_21 ?_
  refine s_aln l_Mo_isAlike_22 rfl ?_
  refine s_gr l_Mo_isAlike_23 h (fun r5 h => ?_)
  refine s_iln l_Mo_isAlike_26 rfl ?_
  refine s_ial l_Mo_isAlike_27 rfl h (fun v6 h => ?_)
  refine s_csi (As := [.ref r1, .int (48 * x1), .int v3, .ref r4, .int (48 * x2), .int v6]) (r := []) l_Mo_isAlike_28 rfl ⟨rfl, rfl⟩ rfl (Nat.le_of_ble_eq_true rfl) rfl ⟨Nat.zero_le _, Nat.zero_le _⟩ h (fun v9 f8 h => ?_)
  refine s_if l_Mo_isAlike_31 h (fun h => ?_) (fun h => ?_)
  · refine s_ic 0 l_Mo_isAlike_38 rfl ?_
    exact s_zret l_Mo_isAlike_39 rfl ⟨Nat.zero_le _, Nat.zero_le _⟩ ⟨Or.inl rfl, h⟩
  · refine s_ic 1 l_Mo_isAlike_34 rfl ?_
    refine s_goto l_Mo_isAlike_35 ?_
    exact s_zret l_Mo_isAlike_39 rfl ⟨Nat.zero_le _, Nat.zero_le _⟩ ⟨Or.inr rfl, h⟩
theorem l_Mo_clear_0 : xlk (xm_cd m_Mo_clear) 0 = some (.aload_n 0, 1, (0, 0, 0, [])) := rfl
theorem l_Mo_clear_1 : xlk (xm_cd m_Mo_clear) 1 = some (.iconst 0, 1, (0, 0, 0, [])) := rfl
theorem l_Mo_clear_2 : xlk (xm_cd m_Mo_clear) 2 = some (.putfield 1, 3, (849, 11, 0, [(0, 0)])) := rfl
theorem l_Mo_clear_5 : xlk (xm_cd m_Mo_clear) 5 = some (.aload_n 0, 1, (0, 0, 0, [])) := rfl
theorem l_Mo_clear_6 : xlk (xm_cd m_Mo_clear) 6 = some (.getfield 152, 3, (859, 11, 10, [])) := rfl
theorem l_Mo_clear_9 : xlk (xm_cd m_Mo_clear) 9 = some (.istore_n 1, 1, (0, 0, 0, [])) := rfl
theorem l_Mo_clear_10 : xlk (xm_cd m_Mo_clear) 10 = some (.aload_n 0, 1, (0, 0, 0, [])) := rfl
theorem l_Mo_clear_11 : xlk (xm_cd m_Mo_clear) 11 = some (.iconst 0, 1, (0, 0, 0, [])) := rfl
theorem l_Mo_clear_12 : xlk (xm_cd m_Mo_clear) 12 = some (.putfield 152, 3, (859, 11, 10, [(0, 0)])) := rfl
theorem l_Mo_clear_15 : xlk (xm_cd m_Mo_clear) 15 = some (.aload_n 0, 1, (0, 0, 0, [])) := rfl
theorem l_Mo_clear_16 : xlk (xm_cd m_Mo_clear) 16 = some (.iconst 0, 1, (0, 0, 0, [])) := rfl
theorem l_Mo_clear_17 : xlk (xm_cd m_Mo_clear) 17 = some (.putfield 198, 3, (872, 11, 23, [(0, 0)])) := rfl
theorem l_Mo_clear_20 : xlk (xm_cd m_Mo_clear) 20 = some (.iload_n 1, 1, (0, 0, 0, [])) := rfl
theorem l_Mo_clear_21 : xlk (xm_cd m_Mo_clear) 21 = some (.ireturn, 1, (0, 0, 0, [])) := rfl
def B_Mo_clear_0 (d : Nat) (E : Option Value → xH → Prop) (f : xH) (a0 : Nat) : Prop :=
  xpf f a0 11 0 (.int 0) (fun f1 => xgi f1 a0 11 10 (fun v2 => xpf f1 a0 11 10 (.int 0) (fun f3 => xpf f3 a0 11 23 (.int 0) (fun f4 => E (some (.int v2)) f4))))
theorem b_Mo_clear_0 {d : Nat} {E : Option Value → xH → Prop} {f : xH} {a0 : Nat} (h : B_Mo_clear_0 d E f a0) : xWp (xT0, xSp xT0 d, none, m_Mo_clear, E) 0 [some (.ref a0), none] [] f 0 0 := by
  unfold B_Mo_clear_0 at h
  refine s_aln l_Mo_clear_0 rfl ?_
  refine s_ic 0 l_Mo_clear_1 rfl ?_
  refine s_pf l_Mo_clear_2 ⟨_, rfl⟩ h (fun f1 h => ?_)
  refine s_aln l_Mo_clear_5 rfl ?_
  refine s_gi l_Mo_clear_6 h (fun v2 h => ?_)
  refine s_isn l_Mo_clear_9 (Nat.le_of_ble_eq_true rfl) ?_
  refine s_aln l_Mo_clear_10 rfl ?_
  refine s_ic 0 l_Mo_clear_11 rfl ?_
  refine s_pf l_Mo_clear_12 ⟨_, rfl⟩ h (fun f3 h => ?_)
  refine s_aln l_Mo_clear_15 rfl ?_
  refine s_ic 0 l_Mo_clear_16 rfl ?_
  refine s_pf l_Mo_clear_17 ⟨_, rfl⟩ h (fun f4 h => ?_)
  refine s_iln l_Mo_clear_20 rfl ?_
  exact s_iret l_Mo_clear_21 rfl ⟨Nat.zero_le _, Nat.zero_le _⟩ h
