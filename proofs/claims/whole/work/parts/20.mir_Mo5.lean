/-! blocks of Mo, 5 -/
theorem l_Mo_apply_0 : xlk (xm_cd m_Mo_apply) 0 = some (.aload_n 0, 1, (0, 0, 0, [])) := rfl
theorem l_Mo_apply_1 : xlk (xm_cd m_Mo_apply) 1 = some (.iconst 0, 1, (0, 0, 0, [])) := rfl
theorem l_Mo_apply_2 : xlk (xm_cd m_Mo_apply) 2 = some (.putfield 1, 3, (849, 11, 0, [(0, 0)])) := rfl
theorem l_Mo_apply_5 : xlk (xm_cd m_Mo_apply) 5 = some (.aload_n 0, 1, (0, 0, 0, [])) := rfl
theorem l_Mo_apply_6 : xlk (xm_cd m_Mo_apply) 6 = some (.iload_n 1, 1, (0, 0, 0, [])) := rfl
theorem l_Mo_apply_7 : xlk (xm_cd m_Mo_apply) 7 = some (.invokevirtual 257, 3, (1081, 185, 1, [])) := rfl
theorem l_Mo_apply_10 : xlk (xm_cd m_Mo_apply) 10 = some (.ifCond .ne 11, 3, (0, 21, 0, [])) := rfl
theorem l_Mo_apply_13 : xlk (xm_cd m_Mo_apply) 13 = some (.aload_n 0, 1, (0, 0, 0, [])) := rfl
theorem l_Mo_apply_14 : xlk (xm_cd m_Mo_apply) 14 = some (.iload_n 2, 1, (0, 0, 0, [])) := rfl
theorem l_Mo_apply_15 : xlk (xm_cd m_Mo_apply) 15 = some (.invokevirtual 170, 3, (968, 151, 1, [])) := rfl
theorem l_Mo_apply_18 : xlk (xm_cd m_Mo_apply) 18 = some (.ifCond .eq 5, 3, (0, 23, 0, [])) := rfl
theorem l_Mo_apply_21 : xlk (xm_cd m_Mo_apply) 21 = some (.iconst (-1), 1, (0, 0, 0, [])) := rfl
theorem l_Mo_apply_22 : xlk (xm_cd m_Mo_apply) 22 = some (.ireturn, 1, (0, 0, 0, [])) := rfl
theorem l_Mo_apply_23 : xlk (xm_cd m_Mo_apply) 23 = some (.aload_n 0, 1, (0, 0, 0, [])) := rfl
theorem l_Mo_apply_24 : xlk (xm_cd m_Mo_apply) 24 = some (.getfield 152, 3, (859, 11, 10, [])) := rfl
theorem l_Mo_apply_27 : xlk (xm_cd m_Mo_apply) 27 = some (.bipush 12, 2, (0, 0, 0, [])) := rfl
theorem l_Mo_apply_29 : xlk (xm_cd m_Mo_apply) 29 = some (.if_icmp .ne 6, 3, (0, 35, 0, [])) := rfl
theorem l_Mo_apply_32 : xlk (xm_cd m_Mo_apply) 32 = some (.bipush (-3), 2, (0, 0, 0, [])) := rfl
theorem l_Mo_apply_34 : xlk (xm_cd m_Mo_apply) 34 = some (.ireturn, 1, (0, 0, 0, [])) := rfl
theorem l_Mo_apply_35 : xlk (xm_cd m_Mo_apply) 35 = some (.aload_n 0, 1, (0, 0, 0, [])) := rfl
theorem l_Mo_apply_36 : xlk (xm_cd m_Mo_apply) 36 = some (.iconst 0, 1, (0, 0, 0, [])) := rfl
theorem l_Mo_apply_37 : xlk (xm_cd m_Mo_apply) 37 = some (.putfield 282, 3, (883, 11, 34, [(0, 0)])) := rfl
theorem l_Mo_apply_40 : xlk (xm_cd m_Mo_apply) 40 = some (.iconst 0, 1, (0, 0, 0, [])) := rfl
theorem l_Mo_apply_41 : xlk (xm_cd m_Mo_apply) 41 = some (.istore 4, 2, (0, 0, 0, [])) := rfl
theorem l_Mo_apply_43 : xlk (xm_cd m_Mo_apply) 43 = some (.iload 4, 2, (0, 0, 0, [])) := rfl
theorem l_Mo_apply_45 : xlk (xm_cd m_Mo_apply) 45 = some (.bipush 24, 2, (0, 0, 0, [])) := rfl
theorem l_Mo_apply_47 : xlk (xm_cd m_Mo_apply) 47 = some (.if_icmp .ge 17, 3, (0, 64, 0, [])) := rfl
theorem l_Mo_apply_50 : xlk (xm_cd m_Mo_apply) 50 = some (.aload_n 0, 1, (0, 0, 0, [])) := rfl
theorem l_Mo_apply_51 : xlk (xm_cd m_Mo_apply) 51 = some (.getfield 87, 3, (880, 11, 31, [])) := rfl
theorem l_Mo_apply_54 : xlk (xm_cd m_Mo_apply) 54 = some (.iload 4, 2, (0, 0, 0, [])) := rfl
theorem l_Mo_apply_56 : xlk (xm_cd m_Mo_apply) 56 = some (.iconst 1, 1, (0, 0, 0, [])) := rfl
theorem l_Mo_apply_57 : xlk (xm_cd m_Mo_apply) 57 = some (.bastore, 1, (0, 0, 0, [])) := rfl
theorem l_Mo_apply_58 : xlk (xm_cd m_Mo_apply) 58 = some (.iinc 4 1, 3, (0, 0, 0, [])) := rfl
theorem l_Mo_apply_61 : xlk (xm_cd m_Mo_apply) 61 = some (.goto (-18), 3, (0, 43, 0, [])) := rfl
theorem l_Mo_apply_64 : xlk (xm_cd m_Mo_apply) 64 = some (.iconst 0, 1, (0, 0, 0, [])) := rfl
theorem l_Mo_apply_65 : xlk (xm_cd m_Mo_apply) 65 = some (.istore 4, 2, (0, 0, 0, [])) := rfl
theorem l_Mo_apply_67 : xlk (xm_cd m_Mo_apply) 67 = some (.iload 4, 2, (0, 0, 0, [])) := rfl
theorem l_Mo_apply_69 : xlk (xm_cd m_Mo_apply) 69 = some (.aload_n 0, 1, (0, 0, 0, [])) := rfl
theorem l_Mo_apply_70 : xlk (xm_cd m_Mo_apply) 70 = some (.getfield 69, 3, (871, 11, 22, [])) := rfl
theorem l_Mo_apply_73 : xlk (xm_cd m_Mo_apply) 73 = some (.iload_n 1, 1, (0, 0, 0, [])) := rfl
theorem l_Mo_apply_74 : xlk (xm_cd m_Mo_apply) 74 = some (.iaload, 1, (0, 0, 0, [])) := rfl
theorem l_Mo_apply_75 : xlk (xm_cd m_Mo_apply) 75 = some (.if_icmp .ge 95, 3, (0, 170, 0, [])) := rfl
theorem l_Mo_apply_78 : xlk (xm_cd m_Mo_apply) 78 = some (.aload_n 0, 1, (0, 0, 0, [])) := rfl
theorem l_Mo_apply_79 : xlk (xm_cd m_Mo_apply) 79 = some (.getfield 87, 3, (880, 11, 31, [])) := rfl
theorem l_Mo_apply_82 : xlk (xm_cd m_Mo_apply) 82 = some (.iload 4, 2, (0, 0, 0, [])) := rfl
theorem l_Mo_apply_84 : xlk (xm_cd m_Mo_apply) 84 = some (.baload, 1, (0, 0, 0, [])) := rfl
theorem l_Mo_apply_85 : xlk (xm_cd m_Mo_apply) 85 = some (.ifCond .eq 14, 3, (0, 99, 0, [])) := rfl
theorem l_Mo_apply_88 : xlk (xm_cd m_Mo_apply) 88 = some (.aload_n 0, 1, (0, 0, 0, [])) := rfl
theorem l_Mo_apply_89 : xlk (xm_cd m_Mo_apply) 89 = some (.iload_n 1, 1, (0, 0, 0, [])) := rfl
theorem l_Mo_apply_90 : xlk (xm_cd m_Mo_apply) 90 = some (.iload 4, 2, (0, 0, 0, [])) := rfl
theorem l_Mo_apply_92 : xlk (xm_cd m_Mo_apply) 92 = some (.iload_n 2, 1, (0, 0, 0, [])) := rfl
theorem l_Mo_apply_93 : xlk (xm_cd m_Mo_apply) 93 = some (.invokevirtual 285, 3, (1104, 191, 3, [])) := rfl
theorem l_Mo_apply_96 : xlk (xm_cd m_Mo_apply) 96 = some (.goto 4, 3, (0, 100, 0, [])) := rfl
theorem l_Mo_apply_99 : xlk (xm_cd m_Mo_apply) 99 = some (.iconst 0, 1, (0, 0, 0, [])) := rfl
theorem l_Mo_apply_100 : xlk (xm_cd m_Mo_apply) 100 = some (.istore 5, 2, (0, 0, 0, [])) := rfl
theorem l_Mo_apply_102 : xlk (xm_cd m_Mo_apply) 102 = some (.iinc 4 1, 3, (0, 0, 0, [])) := rfl
theorem l_Mo_apply_105 : xlk (xm_cd m_Mo_apply) 105 = some (.iload 5, 2, (0, 0, 0, [])) := rfl
theorem l_Mo_apply_107 : xlk (xm_cd m_Mo_apply) 107 = some (.ifCond .le 60, 3, (0, 167, 0, [])) := rfl
theorem l_Mo_apply_110 : xlk (xm_cd m_Mo_apply) 110 = some (.aload_n 0, 1, (0, 0, 0, [])) := rfl
theorem l_Mo_apply_111 : xlk (xm_cd m_Mo_apply) 111 = some (.getfield 91, 3, (881, 11, 32, [])) := rfl
theorem l_Mo_apply_114 : xlk (xm_cd m_Mo_apply) 114 = some (.aload_n 0, 1, (0, 0, 0, [])) := rfl
theorem l_Mo_apply_115 : xlk (xm_cd m_Mo_apply) 115 = some (.getfield 282, 3, (883, 11, 34, [])) := rfl
theorem l_Mo_apply_118 : xlk (xm_cd m_Mo_apply) 118 = some (.iload 4, 2, (0, 0, 0, [])) := rfl
theorem l_Mo_apply_120 : xlk (xm_cd m_Mo_apply) 120 = some (.iconst 1, 1, (0, 0, 0, [])) := rfl
theorem l_Mo_apply_121 : xlk (xm_cd m_Mo_apply) 121 = some (.isub, 1, (0, 0, 0, [])) := rfl
theorem l_Mo_apply_122 : xlk (xm_cd m_Mo_apply) 122 = some (.iastore, 1, (0, 0, 0, [])) := rfl
theorem l_Mo_apply_123 : xlk (xm_cd m_Mo_apply) 123 = some (.aload_n 0, 1, (0, 0, 0, [])) := rfl
theorem l_Mo_apply_124 : xlk (xm_cd m_Mo_apply) 124 = some (.getfield 94, 3, (882, 11, 33, [])) := rfl
theorem l_Mo_apply_127 : xlk (xm_cd m_Mo_apply) 127 = some (.aload_n 0, 1, (0, 0, 0, [])) := rfl
theorem l_Mo_apply_128 : xlk (xm_cd m_Mo_apply) 128 = some (.getfield 282, 3, (883, 11, 34, [])) := rfl
theorem l_Mo_apply_131 : xlk (xm_cd m_Mo_apply) 131 = some (.iload 5, 2, (0, 0, 0, [])) := rfl
theorem l_Mo_apply_133 : xlk (xm_cd m_Mo_apply) 133 = some (.iastore, 1, (0, 0, 0, [])) := rfl
theorem l_Mo_apply_134 : xlk (xm_cd m_Mo_apply) 134 = some (.aload_n 0, 1, (0, 0, 0, [])) := rfl
theorem l_Mo_apply_135 : xlk (xm_cd m_Mo_apply) 135 = some (.dup, 1, (0, 0, 0, [])) := rfl
theorem l_Mo_apply_136 : xlk (xm_cd m_Mo_apply) 136 = some (.getfield 282, 3, (883, 11, 34, [])) := rfl
theorem l_Mo_apply_139 : xlk (xm_cd m_Mo_apply) 139 = some (.iconst 1, 1, (0, 0, 0, [])) := rfl
theorem l_Mo_apply_140 : xlk (xm_cd m_Mo_apply) 140 = some (.iadd, 1, (0, 0, 0, [])) := rfl
theorem l_Mo_apply_141 : xlk (xm_cd m_Mo_apply) 141 = some (.putfield 282, 3, (883, 11, 34, [(0, 0)])) := rfl
theorem l_Mo_apply_144 : xlk (xm_cd m_Mo_apply) 144 = some (.aload_n 0, 1, (0, 0, 0, [])) := rfl
theorem l_Mo_apply_145 : xlk (xm_cd m_Mo_apply) 145 = some (.getfield 87, 3, (880, 11, 31, [])) := rfl
theorem l_Mo_apply_148 : xlk (xm_cd m_Mo_apply) 148 = some (.iload 4, 2, (0, 0, 0, [])) := rfl
set_option maxRecDepth 20000 in
theorem l_Mo_apply_150 : xlk (xm_cd m_Mo_apply) 150 = some (.iconst 1, 1, (0, 0, 0, [])) := rfl
set_option maxRecDepth 20000 in
theorem l_Mo_apply_151 : xlk (xm_cd m_Mo_apply) 151 = some (.isub, 1, (0, 0, 0, [])) := rfl
set_option maxRecDepth 20000 in
theorem l_Mo_apply_152 : xlk (xm_cd m_Mo_apply) 152 = some (.iconst 0, 1, (0, 0, 0, [])) := rfl
set_option maxRecDepth 20000 in
theorem l_Mo_apply_153 : xlk (xm_cd m_Mo_apply) 153 = some (.bastore, 1, (0, 0, 0, [])) := rfl
set_option maxRecDepth 20000 in
theorem l_Mo_apply_154 : xlk (xm_cd m_Mo_apply) 154 = some (.iload_n 3, 1, (0, 0, 0, [])) := rfl
set_option maxRecDepth 20000 in
theorem l_Mo_apply_155 : xlk (xm_cd m_Mo_apply) 155 = some (.ifCond .eq 9, 3, (0, 164, 0, [])) := rfl
set_option maxRecDepth 20000 in
theorem l_Mo_apply_158 : xlk (xm_cd m_Mo_apply) 158 = some (.bipush (-10), 2, (0, 0, 0, [])) := rfl
set_option maxRecDepth 20000 in
theorem l_Mo_apply_160 : xlk (xm_cd m_Mo_apply) 160 = some (.iload 5, 2, (0, 0, 0, [])) := rfl
set_option maxRecDepth 20000 in
theorem l_Mo_apply_162 : xlk (xm_cd m_Mo_apply) 162 = some (.isub, 1, (0, 0, 0, [])) := rfl
set_option maxRecDepth 20000 in
theorem l_Mo_apply_163 : xlk (xm_cd m_Mo_apply) 163 = some (.ireturn, 1, (0, 0, 0, [])) := rfl
set_option maxRecDepth 20000 in
theorem l_Mo_apply_164 : xlk (xm_cd m_Mo_apply) 164 = some (.iconst 0, 1, (0, 0, 0, [])) := rfl
set_option maxRecDepth 20000 in
theorem l_Mo_apply_165 : xlk (xm_cd m_Mo_apply) 165 = some (.istore 4, 2, (0, 0, 0, [])) := rfl
set_option maxRecDepth 20000 in
theorem l_Mo_apply_167 : xlk (xm_cd m_Mo_apply) 167 = some (.goto (-100), 3, (0, 67, 0, [])) := rfl
set_option maxRecDepth 20000 in
theorem l_Mo_apply_170 : xlk (xm_cd m_Mo_apply) 170 = some (.aload_n 0, 1, (0, 0, 0, [])) := rfl
set_option maxRecDepth 20000 in
theorem l_Mo_apply_171 : xlk (xm_cd m_Mo_apply) 171 = some (.iload_n 1, 1, (0, 0, 0, [])) := rfl
set_option maxRecDepth 20000 in
theorem l_Mo_apply_172 : xlk (xm_cd m_Mo_apply) 172 = some (.iload_n 2, 1, (0, 0, 0, [])) := rfl
set_option maxRecDepth 20000 in
theorem l_Mo_apply_173 : xlk (xm_cd m_Mo_apply) 173 = some (.invokevirtual 289, 3, (1116, 195, 2, [])) := rfl
set_option maxRecDepth 20000 in
theorem l_Mo_apply_176 : xlk (xm_cd m_Mo_apply) 176 = some (.ifCond .ne 6, 3, (0, 182, 0, [])) := rfl
set_option maxRecDepth 20000 in
theorem l_Mo_apply_179 : xlk (xm_cd m_Mo_apply) 179 = some (.bipush (-15), 2, (0, 0, 0, [])) := rfl
set_option maxRecDepth 20000 in
theorem l_Mo_apply_181 : xlk (xm_cd m_Mo_apply) 181 = some (.ireturn, 1, (0, 0, 0, [])) := rfl
set_option maxRecDepth 20000 in
theorem l_Mo_apply_182 : xlk (xm_cd m_Mo_apply) 182 = some (.aload_n 0, 1, (0, 0, 0, [])) := rfl
set_option maxRecDepth 20000 in
theorem l_Mo_apply_183 : xlk (xm_cd m_Mo_apply) 183 = some (.dup, 1, (0, 0, 0, [])) := rfl
set_option maxRecDepth 20000 in
theorem l_Mo_apply_184 : xlk (xm_cd m_Mo_apply) 184 = some (.getfield 152, 3, (859, 11, 10, [])) := rfl
set_option maxRecDepth 20000 in
theorem l_Mo_apply_187 : xlk (xm_cd m_Mo_apply) 187 = some (.iconst 1, 1, (0, 0, 0, [])) := rfl
set_option maxRecDepth 20000 in
theorem l_Mo_apply_188 : xlk (xm_cd m_Mo_apply) 188 = some (.iadd, 1, (0, 0, 0, [])) := rfl
set_option maxRecDepth 20000 in
theorem l_Mo_apply_189 : xlk (xm_cd m_Mo_apply) 189 = some (.putfield 152, 3, (859, 11, 10, [(0, 0)])) := rfl
set_option maxRecDepth 20000 in
theorem l_Mo_apply_192 : xlk (xm_cd m_Mo_apply) 192 = some (.aload_n 0, 1, (0, 0, 0, [])) := rfl
set_option maxRecDepth 20000 in
theorem l_Mo_apply_193 : xlk (xm_cd m_Mo_apply) 193 = some (.getfield 152, 3, (859, 11, 10, [])) := rfl
set_option maxRecDepth 20000 in
theorem l_Mo_apply_196 : xlk (xm_cd m_Mo_apply) 196 = some (.iconst 1, 1, (0, 0, 0, [])) := rfl
set_option maxRecDepth 20000 in
theorem l_Mo_apply_197 : xlk (xm_cd m_Mo_apply) 197 = some (.isub, 1, (0, 0, 0, [])) := rfl
set_option maxRecDepth 20000 in
theorem l_Mo_apply_198 : xlk (xm_cd m_Mo_apply) 198 = some (.ireturn, 1, (0, 0, 0, [])) := rfl
def B_Mo_apply_0 (d : Nat) (E : Option Value → xH → Prop) (f : xH) (a0 : Nat) (x1 : Int32) (x2 : Int32) (x3 : Int32) : Prop :=
  xpf f a0 11 0 (.int 0) (fun f1 => (∃ fs, f1 a0 = some (xO 11 fs)) ∧ xSp xT0 d j_Mo_noPatch [.ref a0, .int x1] f1 (fun w2 f3 => xvi w2 (fun v4 => xbr (¬ v4 = 0) (E (some (.int (-1))) f3) ((∃ fs, f3 a0 = some (xO 11 fs)) ∧ xSp xT0 d j_Mo_noTree [.ref a0, .int x2] f3 (fun w5 f6 => xvi w5 (fun v7 => xbr (v7 = 0) (xgi f6 a0 11 10 (fun v8 => xbr (¬ v8 = 12) (xpf f6 a0 11 34 (.int 0) (fun f9 => xWp (xT0, xSp xT0 d, none, m_Mo_apply, E) 43 [some (.ref a0), some (.int x1), some (.int x2), some (.int x3), some (.int 0), none] [] f9 0 0)) (E (some (.int (-3))) f6))) (E (some (.int (-1))) f6)))))))
theorem b_Mo_apply_0 {d : Nat} {E : Option Value → xH → Prop} {f : xH} {a0 : Nat} {x1 : Int32} {x2 : Int32} {x3 : Int32} (h : B_Mo_apply_0 d E f a0 x1 x2 x3) : xWp (xT0, xSp xT0 d, none, m_Mo_apply, E) 0 [some (.ref a0), some (.int x1), some (.int x2), some (.int x3), none, none] [] f 0 0 := by
  unfold B_Mo_apply_0 at h
  refine s_aln l_Mo_apply_0 rfl ?_
  refine s_ic 0 l_Mo_apply_1 rfl ?_
  refine s_pf l_Mo_apply_2 ⟨_, rfl⟩ h (fun f1 h => ?_)
  refine s_aln l_Mo_apply_5 rfl ?_
  refine s_iln l_Mo_apply_6 rfl ?_
  refine s_cvi (As := [.int x1]) (r := []) l_Mo_apply_7 rfl ⟨rfl, rfl⟩ rfl (Nat.le_of_ble_eq_true rfl) rfl ⟨Nat.zero_le _, Nat.zero_le _⟩ h (fun v4 f3 h => ?_)
  refine s_if l_Mo_apply_10 h (fun h => ?_) (fun h => ?_)
  · refine s_ic (-1) l_Mo_apply_21 rfl ?_
    exact s_iret l_Mo_apply_22 rfl ⟨Nat.zero_le _, Nat.zero_le _⟩ h
  · refine s_aln l_Mo_apply_13 rfl ?_
    refine s_iln l_Mo_apply_14 rfl ?_
    refine s_cvi (As := [.int x2]) (r := []) l_Mo_apply_15 rfl ⟨rfl, rfl⟩ rfl (Nat.le_of_ble_eq_true rfl) rfl ⟨Nat.zero_le _, Nat.zero_le _⟩ h (fun v7 f6 h => ?_)
    refine s_if l_Mo_apply_18 h (fun h => ?_) (fun h => ?_)
    · refine s_aln l_Mo_apply_23 rfl ?_
      refine s_gi l_Mo_apply_24 h (fun v8 h => ?_)
      refine s_bp 12 l_Mo_apply_27 rfl ?_
      refine s_ifc l_Mo_apply_29 h (fun h => ?_) (fun h => ?_)
      · refine s_aln l_Mo_apply_35 rfl ?_
        refine s_ic 0 l_Mo_apply_36 rfl ?_
        refine s_pf l_Mo_apply_37 ⟨_, rfl⟩ h (fun f9 h => ?_)
        refine s_ic 0 l_Mo_apply_40 rfl ?_
        refine s_is l_Mo_apply_41 (Nat.le_of_ble_eq_true rfl) ?_
        exact h
      · refine s_bp (-3) l_Mo_apply_32 rfl ?_
        exact s_iret l_Mo_apply_34 rfl ⟨Nat.zero_le _, Nat.zero_le _⟩ h
    · refine s_ic (-1) l_Mo_apply_21 rfl ?_
      exact s_iret l_Mo_apply_22 rfl ⟨Nat.zero_le _, Nat.zero_le _⟩ h
def B_Mo_apply_43 (d : Nat) (E : Option Value → xH → Prop) (f : xH) (a0 : Nat) (x1 : Int32) (x2 : Int32) (x3 : Int32) (x4 : Int32) (u5 : Option Value) : Prop :=
  xbr ((24 : Int32) ≤ x4) (xWp (xT0, xSp xT0 d, none, m_Mo_apply, E) 67 [some (.ref a0), some (.int x1), some (.int x2), some (.int x3), some (.int 0), u5] [] f 0 0) (xgr f a0 11 31 (fun r1 => xas f r1 1 x4 1 (fun f2 => xWp (xT0, xSp xT0 d, none, m_Mo_apply, E) 43 [some (.ref a0), some (.int x1), some (.int x2), some (.int x3), some (.int (x4 + 1)), u5] [] f2 0 0)))
theorem b_Mo_apply_43 {d : Nat} {E : Option Value → xH → Prop} {f : xH} {a0 : Nat} {x1 : Int32} {x2 : Int32} {x3 : Int32} {x4 : Int32} {u5 : Option Value} (h : B_Mo_apply_43 d E f a0 x1 x2 x3 x4 u5) : xWp (xT0, xSp xT0 d, none, m_Mo_apply, E) 43 [some (.ref a0), some (.int x1), some (.int x2), some (.int x3), some (.int x4), u5] [] f 0 0 := by
  unfold B_Mo_apply_43 at h
  refine s_il l_Mo_apply_43 rfl ?_
  refine s_bp 24 l_Mo_apply_45 rfl ?_
  refine s_ifc l_Mo_apply_47 h (fun h => ?_) (fun h => ?_)
  · refine s_ic 0 l_Mo_apply_64 rfl ?_
    refine s_is l_Mo_apply_65 (Nat.le_of_ble_eq_true rfl) ?_
    exact h
  · refine s_aln l_Mo_apply_50 rfl ?_
    refine s_gr l_Mo_apply_51 h (fun r1 h => ?_)
    refine s_il l_Mo_apply_54 rfl ?_
    refine s_ic 1 l_Mo_apply_56 rfl ?_
    refine s_zast l_Mo_apply_57 ⟨Or.inr rfl, h⟩ (fun f2 h => ?_)
    refine s_inc 1 l_Mo_apply_58 rfl rfl ?_
    refine s_goto l_Mo_apply_61 ?_
    exact h
def B_Mo_apply_67 (d : Nat) (E : Option Value → xH → Prop) (f : xH) (a0 : Nat) (x1 : Int32) (x2 : Int32) (x3 : Int32) (x4 : Int32) (u5 : Option Value) : Prop :=
  xgr f a0 11 22 (fun r1 => xal f r1 0 x1 (fun v2 => xbr (v2 ≤ x4) ((∃ fs, f a0 = some (xO 11 fs)) ∧ xSp xT0 d j_Mo_makeTree [.ref a0, .int x1, .int x2] f (fun w3 f4 => xvi w3 (fun v5 => xbr (¬ v5 = 0) (xgi f4 a0 11 10 (fun v6 => xpf f4 a0 11 10 (.int (v6 + 1)) (fun f7 => xgi f7 a0 11 10 (fun v8 => E (some (.int (v8 - 1))) f7)))) (E (some (.int (-15))) f4)))) (xgr f a0 11 31 (fun r9 => xal f r9 1 x4 (fun v10 => xbr (v10 = 0) (xWp (xT0, xSp xT0 d, none, m_Mo_apply, E) 100 [some (.ref a0), some (.int x1), some (.int x2), some (.int x3), some (.int x4), u5] [.int 0] f 0 0) ((∃ fs, f a0 = some (xO 11 fs)) ∧ xSp xT0 d j_Mo_ruleOf [.ref a0, .int x1, .int x4, .int x2] f (fun w11 f12 => xvi w11 (fun v13 => xWp (xT0, xSp xT0 d, none, m_Mo_apply, E) 100 [some (.ref a0), some (.int x1), some (.int x2), some (.int x3), some (.int x4), u5] [.int v13] f12 0 0))))))))
theorem b_Mo_apply_67 {d : Nat} {E : Option Value → xH → Prop} {f : xH} {a0 : Nat} {x1 : Int32} {x2 : Int32} {x3 : Int32} {x4 : Int32} {u5 : Option Value} (h : B_Mo_apply_67 d E f a0 x1 x2 x3 x4 u5) : xWp (xT0, xSp xT0 d, none, m_Mo_apply, E) 67 [some (.ref a0), some (.int x1), some (.int x2), some (.int x3), some (.int x4), u5] [] f 0 0 := by
  unfold B_Mo_apply_67 at h
  refine s_il l_Mo_apply_67 rfl ?_
  refine s_aln l_Mo_apply_69 rfl ?_
  refine s_gr l_Mo_apply_70 h (fun r1 h => ?_)
  refine s_iln l_Mo_apply_73 rfl ?_
  refine s_ial l_Mo_apply_74 rfl h (fun v2 h => ?_)
  refine s_ifc l_Mo_apply_75 h (fun h => ?_) (fun h => ?_)
  · refine s_aln l_Mo_apply_170 rfl ?_
    refine s_iln l_Mo_apply_171 rfl ?_
    refine s_iln l_Mo_apply_172 rfl ?_
    refine s_cvi (As := [.int x1, .int x2]) (r := []) l_Mo_apply_173 rfl ⟨rfl, rfl⟩ rfl (Nat.le_of_ble_eq_true rfl) rfl ⟨Nat.zero_le _, Nat.zero_le _⟩ h (fun v5 f4 h => ?_)
    refine s_if l_Mo_apply_176 h (fun h => ?_) (fun h => ?_)
    · refine s_aln l_Mo_apply_182 rfl ?_
      refine s_dup l_Mo_apply_183 rfl ?_
      refine s_gi l_Mo_apply_184 h (fun v6 h => ?_)
      refine s_ic 1 l_Mo_apply_187 rfl ?_
      refine s_iadd l_Mo_apply_188 ?_
      refine s_pf l_Mo_apply_189 ⟨_, rfl⟩ h (fun f7 h => ?_)
      refine s_aln l_Mo_apply_192 rfl ?_
      refine s_gi l_Mo_apply_193 h (fun v8 h => ?_)
      refine s_ic 1 l_Mo_apply_196 rfl ?_
      refine s_isub l_Mo_apply_197 ?_
      exact s_iret l_Mo_apply_198 rfl ⟨Nat.zero_le _, Nat.zero_le _⟩ h
    · refine s_bp (-15) l_Mo_apply_179 rfl ?_
      exact s_iret l_Mo_apply_181 rfl ⟨Nat.zero_le _, Nat.zero_le _⟩ h
  · refine s_aln l_Mo_apply_78 rfl ?_
    refine s_gr l_Mo_apply_79 h (fun r9 h => ?_)
    refine s_il l_Mo_apply_82 rfl ?_
    refine s_bal l_Mo_apply_84 (Or.inl rfl) h (fun v10 h => ?_)
    refine s_if l_Mo_apply_85 h (fun h => ?_) (fun h => ?_)
    · refine s_ic 0 l_Mo_apply_99 rfl ?_
      exact h
    · refine s_aln l_Mo_apply_88 rfl ?_
      refine s_iln l_Mo_apply_89 rfl ?_
      refine s_il l_Mo_apply_90 rfl ?_
      refine s_iln l_Mo_apply_92 rfl ?_
      refine s_cvi (As := [.int x1, .int x4, .int x2]) (r := []) l_Mo_apply_93 rfl ⟨rfl, rfl⟩ rfl (Nat.le_of_ble_eq_true rfl) rfl ⟨Nat.zero_le _, Nat.zero_le _⟩ h (fun v13 f12 h => ?_)
      refine s_goto l_Mo_apply_96 ?_
      exact h
def B_Mo_apply_100 (d : Nat) (E : Option Value → xH → Prop) (f : xH) (a0 : Nat) (x1 : Int32) (x2 : Int32) (x3 : Int32) (x4 : Int32) (u5 : Option Value) (s0 : Int32) : Prop :=
  xbr (s0 ≤ 0) (xWp (xT0, xSp xT0 d, none, m_Mo_apply, E) 67 [some (.ref a0), some (.int x1), some (.int x2), some (.int x3), some (.int (x4 + 1)), some (.int s0)] [] f 0 0) (xgr f a0 11 32 (fun r1 => xgi f a0 11 34 (fun v2 => xas f r1 0 v2 ((x4 + 1) - 1) (fun f3 => xgr f3 a0 11 33 (fun r4 => xgi f3 a0 11 34 (fun v5 => xas f3 r4 0 v5 s0 (fun f6 => xgi f6 a0 11 34 (fun v7 => xpf f6 a0 11 34 (.int (v7 + 1)) (fun f8 => xgr f8 a0 11 31 (fun r9 => xas f8 r9 1 ((x4 + 1) - 1) 0 (fun f10 => xbr (x3 = 0) (xWp (xT0, xSp xT0 d, none, m_Mo_apply, E) 67 [some (.ref a0), some (.int x1), some (.int x2), some (.int x3), some (.int 0), some (.int s0)] [] f10 0 0) (E (some (.int ((-10) - s0))) f10))))))))))))
theorem b_Mo_apply_100 {d : Nat} {E : Option Value → xH → Prop} {f : xH} {a0 : Nat} {x1 : Int32} {x2 : Int32} {x3 : Int32} {x4 : Int32} {u5 : Option Value} {s0 : Int32} (h : B_Mo_apply_100 d E f a0 x1 x2 x3 x4 u5 s0) : xWp (xT0, xSp xT0 d, none, m_Mo_apply, E) 100 [some (.ref a0), some (.int x1), some (.int x2), some (.int x3), some (.int x4), u5] [.int s0] f 0 0 := by
  unfold B_Mo_apply_100 at h
  refine s_is l_Mo_apply_100 (Nat.le_of_ble_eq_true rfl) ?_
  refine s_inc 1 l_Mo_apply_102 rfl rfl ?_
  refine s_il l_Mo_apply_105 rfl ?_
  refine s_if l_Mo_apply_107 h (fun h => ?_) (fun h => ?_)
  · refine s_goto l_Mo_apply_167 ?_
    exact h
  · refine s_aln l_Mo_apply_110 rfl ?_
    refine s_gr l_Mo_apply_111 h (fun r1 h => ?_)
    refine s_aln l_Mo_apply_114 rfl ?_
    refine s_gi l_Mo_apply_115 h (fun v2 h => ?_)
    refine s_il l_Mo_apply_118 rfl ?_
    refine s_ic 1 l_Mo_apply_120 rfl ?_
    refine s_isub l_Mo_apply_121 ?_
    refine s_iast l_Mo_apply_122 h (fun f3 h => ?_)
    refine s_aln l_Mo_apply_123 rfl ?_
    refine s_gr l_Mo_apply_124 h (fun r4 h => ?_)
    refine s_aln l_Mo_apply_127 rfl ?_
    refine s_gi l_Mo_apply_128 h (fun v5 h => ?_)
    refine s_il l_Mo_apply_131 rfl ?_
    refine s_iast l_Mo_apply_133 h (fun f6 h => ?_)
    refine s_aln l_Mo_apply_134 rfl ?_
    refine s_dup l_Mo_apply_135 rfl ?_
    refine s_gi l_Mo_apply_136 h (fun v7 h => ?_)
    refine s_ic 1 l_Mo_apply_139 rfl ?_
    refine s_iadd l_Mo_apply_140 ?_
    refine s_pf l_Mo_apply_141 ⟨_, rfl⟩ h (fun f8 h => ?_)
    refine s_aln l_Mo_apply_144 rfl ?_
    refine s_gr l_Mo_apply_145 h (fun r9 h => ?_)
    refine s_il l_Mo_apply_148 rfl ?_
    refine s_ic 1 l_Mo_apply_150 rfl ?_
    refine s_isub l_Mo_apply_151 ?_
    refine s_ic 0 l_Mo_apply_152 rfl ?_
    refine s_zast l_Mo_apply_153 ⟨Or.inl rfl, h⟩ (fun f10 h => ?_)
    refine s_iln l_Mo_apply_154 rfl ?_
    refine s_if l_Mo_apply_155 h (fun h => ?_) (fun h => ?_)
    · refine s_ic 0 l_Mo_apply_164 rfl ?_
      refine s_is l_Mo_apply_165 (Nat.le_of_ble_eq_true rfl) ?_
      refine s_goto l_Mo_apply_167 ?_
      exact h
    · refine s_bp (-10) l_Mo_apply_158 rfl ?_
      refine s_il l_Mo_apply_160 rfl ?_
      refine s_isub l_Mo_apply_162 ?_
      exact s_iret l_Mo_apply_163 rfl ⟨Nat.zero_le _, Nat.zero_le _⟩ h
theorem l_Mo_ruleOf_0 : xlk (xm_cd m_Mo_ruleOf) 0 = some (.bipush 24, 2, (0, 0, 0, [])) := rfl
theorem l_Mo_ruleOf_2 : xlk (xm_cd m_Mo_ruleOf) 2 = some (.iload_n 1, 1, (0, 0, 0, [])) := rfl
theorem l_Mo_ruleOf_3 : xlk (xm_cd m_Mo_ruleOf) 3 = some (.imul, 1, (0, 0, 0, [])) := rfl
theorem l_Mo_ruleOf_4 : xlk (xm_cd m_Mo_ruleOf) 4 = some (.iload_n 2, 1, (0, 0, 0, [])) := rfl
theorem l_Mo_ruleOf_5 : xlk (xm_cd m_Mo_ruleOf) 5 = some (.iadd, 1, (0, 0, 0, [])) := rfl
theorem l_Mo_ruleOf_6 : xlk (xm_cd m_Mo_ruleOf) 6 = some (.istore 4, 2, (0, 0, 0, [])) := rfl
theorem l_Mo_ruleOf_8 : xlk (xm_cd m_Mo_ruleOf) 8 = some (.aload_n 0, 1, (0, 0, 0, [])) := rfl
theorem l_Mo_ruleOf_9 : xlk (xm_cd m_Mo_ruleOf) 9 = some (.iload 4, 2, (0, 0, 0, [])) := rfl
theorem l_Mo_ruleOf_11 : xlk (xm_cd m_Mo_ruleOf) 11 = some (.iload_n 3, 1, (0, 0, 0, [])) := rfl
theorem l_Mo_ruleOf_12 : xlk (xm_cd m_Mo_ruleOf) 12 = some (.invokevirtual 272, 3, (1107, 192, 2, [])) := rfl
theorem l_Mo_ruleOf_15 : xlk (xm_cd m_Mo_ruleOf) 15 = some (.istore 5, 2, (0, 0, 0, [])) := rfl
theorem l_Mo_ruleOf_17 : xlk (xm_cd m_Mo_ruleOf) 17 = some (.aload_n 0, 1, (0, 0, 0, [])) := rfl
theorem l_Mo_ruleOf_18 : xlk (xm_cd m_Mo_ruleOf) 18 = some (.getfield 36, 3, (860, 11, 11, [])) := rfl
theorem l_Mo_ruleOf_21 : xlk (xm_cd m_Mo_ruleOf) 21 = some (.iload 4, 2, (0, 0, 0, [])) := rfl
theorem l_Mo_ruleOf_23 : xlk (xm_cd m_Mo_ruleOf) 23 = some (.iaload, 1, (0, 0, 0, [])) := rfl
theorem l_Mo_ruleOf_24 : xlk (xm_cd m_Mo_ruleOf) 24 = some (.ifCond .eq 68, 3, (0, 92, 0, [])) := rfl
theorem l_Mo_ruleOf_27 : xlk (xm_cd m_Mo_ruleOf) 27 = some (.iload 5, 2, (0, 0, 0, [])) := rfl
theorem l_Mo_ruleOf_29 : xlk (xm_cd m_Mo_ruleOf) 29 = some (.bipush (-2), 2, (0, 0, 0, [])) := rfl
theorem l_Mo_ruleOf_31 : xlk (xm_cd m_Mo_ruleOf) 31 = some (.if_icmp .ne 5, 3, (0, 36, 0, [])) := rfl
theorem l_Mo_ruleOf_34 : xlk (xm_cd m_Mo_ruleOf) 34 = some (.iconst 1, 1, (0, 0, 0, [])) := rfl
theorem l_Mo_ruleOf_35 : xlk (xm_cd m_Mo_ruleOf) 35 = some (.ireturn, 1, (0, 0, 0, [])) := rfl
theorem l_Mo_ruleOf_36 : xlk (xm_cd m_Mo_ruleOf) 36 = some (.iload_n 3, 1, (0, 0, 0, [])) := rfl
theorem l_Mo_ruleOf_37 : xlk (xm_cd m_Mo_ruleOf) 37 = some (.iload 5, 2, (0, 0, 0, [])) := rfl
theorem l_Mo_ruleOf_39 : xlk (xm_cd m_Mo_ruleOf) 39 = some (.invokestatic 155, 3, (971, 152, 2, [])) := rfl
theorem l_Mo_ruleOf_42 : xlk (xm_cd m_Mo_ruleOf) 42 = some (.istore 6, 2, (0, 0, 0, [])) := rfl
theorem l_Mo_ruleOf_44 : xlk (xm_cd m_Mo_ruleOf) 44 = some (.aload_n 0, 1, (0, 0, 0, [])) := rfl
theorem l_Mo_ruleOf_45 : xlk (xm_cd m_Mo_ruleOf) 45 = some (.getfield 30, 3, (857, 11, 8, [])) := rfl
theorem l_Mo_ruleOf_48 : xlk (xm_cd m_Mo_ruleOf) 48 = some (.iload 6, 2, (0, 0, 0, [])) := rfl
theorem l_Mo_ruleOf_50 : xlk (xm_cd m_Mo_ruleOf) 50 = some (.iaload, 1, (0, 0, 0, [])) := rfl
theorem l_Mo_ruleOf_51 : xlk (xm_cd m_Mo_ruleOf) 51 = some (.aload_n 0, 1, (0, 0, 0, [])) := rfl
theorem l_Mo_ruleOf_52 : xlk (xm_cd m_Mo_ruleOf) 52 = some (.getfield 51, 3, (865, 11, 16, [])) := rfl
theorem l_Mo_ruleOf_55 : xlk (xm_cd m_Mo_ruleOf) 55 = some (.iload 4, 2, (0, 0, 0, [])) := rfl
theorem l_Mo_ruleOf_57 : xlk (xm_cd m_Mo_ruleOf) 57 = some (.iaload, 1, (0, 0, 0, [])) := rfl
theorem l_Mo_ruleOf_58 : xlk (xm_cd m_Mo_ruleOf) 58 = some (.if_icmp .ne 32, 3, (0, 90, 0, [])) := rfl
theorem l_Mo_ruleOf_61 : xlk (xm_cd m_Mo_ruleOf) 61 = some (.aload_n 0, 1, (0, 0, 0, [])) := rfl
theorem l_Mo_ruleOf_62 : xlk (xm_cd m_Mo_ruleOf) 62 = some (.getfield 27, 3, (856, 11, 7, [])) := rfl
theorem l_Mo_ruleOf_65 : xlk (xm_cd m_Mo_ruleOf) 65 = some (.bipush 48, 2, (0, 0, 0, [])) := rfl
theorem l_Mo_ruleOf_67 : xlk (xm_cd m_Mo_ruleOf) 67 = some (.iload 6, 2, (0, 0, 0, [])) := rfl
theorem l_Mo_ruleOf_69 : xlk (xm_cd m_Mo_ruleOf) 69 = some (.imul, 1, (0, 0, 0, [])) := rfl
theorem l_Mo_ruleOf_70 : xlk (xm_cd m_Mo_ruleOf) 70 = some (.aload_n 0, 1, (0, 0, 0, [])) := rfl
theorem l_Mo_ruleOf_71 : xlk (xm_cd m_Mo_ruleOf) 71 = some (.getfield 30, 3, (857, 11, 8, [])) := rfl
theorem l_Mo_ruleOf_74 : xlk (xm_cd m_Mo_ruleOf) 74 = some (.iload 6, 2, (0, 0, 0, [])) := rfl
theorem l_Mo_ruleOf_76 : xlk (xm_cd m_Mo_ruleOf) 76 = some (.iaload, 1, (0, 0, 0, [])) := rfl
theorem l_Mo_ruleOf_77 : xlk (xm_cd m_Mo_ruleOf) 77 = some (.invokestatic 188, 3, (1011, 164, 3, [])) := rfl
theorem l_Mo_ruleOf_80 : xlk (xm_cd m_Mo_ruleOf) 80 = some (.aload_n 0, 1, (0, 0, 0, [])) := rfl
theorem l_Mo_ruleOf_81 : xlk (xm_cd m_Mo_ruleOf) 81 = some (.getfield 54, 3, (866, 11, 17, [])) := rfl
theorem l_Mo_ruleOf_84 : xlk (xm_cd m_Mo_ruleOf) 84 = some (.iload 4, 2, (0, 0, 0, [])) := rfl
theorem l_Mo_ruleOf_86 : xlk (xm_cd m_Mo_ruleOf) 86 = some (.iaload, 1, (0, 0, 0, [])) := rfl
theorem l_Mo_ruleOf_87 : xlk (xm_cd m_Mo_ruleOf) 87 = some (.if_icmp .eq 5, 3, (0, 92, 0, [])) := rfl
theorem l_Mo_ruleOf_90 : xlk (xm_cd m_Mo_ruleOf) 90 = some (.iconst 2, 1, (0, 0, 0, [])) := rfl
theorem l_Mo_ruleOf_91 : xlk (xm_cd m_Mo_ruleOf) 91 = some (.ireturn, 1, (0, 0, 0, [])) := rfl
theorem l_Mo_ruleOf_92 : xlk (xm_cd m_Mo_ruleOf) 92 = some (.aload_n 0, 1, (0, 0, 0, [])) := rfl
theorem l_Mo_ruleOf_93 : xlk (xm_cd m_Mo_ruleOf) 93 = some (.getfield 36, 3, (860, 11, 11, [])) := rfl
theorem l_Mo_ruleOf_96 : xlk (xm_cd m_Mo_ruleOf) 96 = some (.iload 4, 2, (0, 0, 0, [])) := rfl
theorem l_Mo_ruleOf_98 : xlk (xm_cd m_Mo_ruleOf) 98 = some (.iaload, 1, (0, 0, 0, [])) := rfl
theorem l_Mo_ruleOf_99 : xlk (xm_cd m_Mo_ruleOf) 99 = some (.iconst 1, 1, (0, 0, 0, [])) := rfl
theorem l_Mo_ruleOf_100 : xlk (xm_cd m_Mo_ruleOf) 100 = some (.if_icmp .ne 5, 3, (0, 105, 0, [])) := rfl
theorem l_Mo_ruleOf_103 : xlk (xm_cd m_Mo_ruleOf) 103 = some (.iconst 0, 1, (0, 0, 0, [])) := rfl
theorem l_Mo_ruleOf_104 : xlk (xm_cd m_Mo_ruleOf) 104 = some (.ireturn, 1, (0, 0, 0, [])) := rfl
theorem l_Mo_ruleOf_105 : xlk (xm_cd m_Mo_ruleOf) 105 = some (.aload_n 0, 1, (0, 0, 0, [])) := rfl
theorem l_Mo_ruleOf_106 : xlk (xm_cd m_Mo_ruleOf) 106 = some (.iload 4, 2, (0, 0, 0, [])) := rfl
theorem l_Mo_ruleOf_108 : xlk (xm_cd m_Mo_ruleOf) 108 = some (.aload_n 0, 1, (0, 0, 0, [])) := rfl
theorem l_Mo_ruleOf_109 : xlk (xm_cd m_Mo_ruleOf) 109 = some (.getfield 27, 3, (856, 11, 7, [])) := rfl
theorem l_Mo_ruleOf_112 : xlk (xm_cd m_Mo_ruleOf) 112 = some (.iload 5, 2, (0, 0, 0, [])) := rfl
theorem l_Mo_ruleOf_114 : xlk (xm_cd m_Mo_ruleOf) 114 = some (.bipush (-2), 2, (0, 0, 0, [])) := rfl
theorem l_Mo_ruleOf_116 : xlk (xm_cd m_Mo_ruleOf) 116 = some (.if_icmp .ne 7, 3, (0, 123, 0, [])) := rfl
theorem l_Mo_ruleOf_119 : xlk (xm_cd m_Mo_ruleOf) 119 = some (.iconst 0, 1, (0, 0, 0, [])) := rfl
theorem l_Mo_ruleOf_120 : xlk (xm_cd m_Mo_ruleOf) 120 = some (.goto 12, 3, (0, 132, 0, [])) := rfl
theorem l_Mo_ruleOf_123 : xlk (xm_cd m_Mo_ruleOf) 123 = some (.bipush 48, 2, (0, 0, 0, [])) := rfl
theorem l_Mo_ruleOf_125 : xlk (xm_cd m_Mo_ruleOf) 125 = some (.iload_n 3, 1, (0, 0, 0, [])) := rfl
theorem l_Mo_ruleOf_126 : xlk (xm_cd m_Mo_ruleOf) 126 = some (.iload 5, 2, (0, 0, 0, [])) := rfl
theorem l_Mo_ruleOf_128 : xlk (xm_cd m_Mo_ruleOf) 128 = some (.invokestatic 155, 3, (971, 152, 2, [])) := rfl
theorem l_Mo_ruleOf_131 : xlk (xm_cd m_Mo_ruleOf) 131 = some (.imul, 1, (0, 0, 0, [])) := rfl
theorem l_Mo_ruleOf_132 : xlk (xm_cd m_Mo_ruleOf) 132 = some (.iconst 0, 1, (0, 0, 0, [])) := rfl
theorem l_Mo_ruleOf_133 : xlk (xm_cd m_Mo_ruleOf) 133 = some (.invokevirtual 275, 3, (1110, 193, 4, [])) := rfl
theorem l_Mo_ruleOf_136 : xlk (xm_cd m_Mo_ruleOf) 136 = some (.aload_n 0, 1, (0, 0, 0, [])) := rfl
theorem l_Mo_ruleOf_137 : xlk (xm_cd m_Mo_ruleOf) 137 = some (.getfield 97, 3, (884, 11, 35, [])) := rfl
theorem l_Mo_ruleOf_140 : xlk (xm_cd m_Mo_ruleOf) 140 = some (.iconst 0, 1, (0, 0, 0, [])) := rfl
theorem l_Mo_ruleOf_141 : xlk (xm_cd m_Mo_ruleOf) 141 = some (.aload_n 0, 1, (0, 0, 0, [])) := rfl
theorem l_Mo_ruleOf_142 : xlk (xm_cd m_Mo_ruleOf) 142 = some (.getfield 57, 3, (867, 11, 18, [])) := rfl
theorem l_Mo_ruleOf_145 : xlk (xm_cd m_Mo_ruleOf) 145 = some (.iload 4, 2, (0, 0, 0, [])) := rfl
set_option maxRecDepth 20000 in
theorem l_Mo_ruleOf_147 : xlk (xm_cd m_Mo_ruleOf) 147 = some (.iaload, 1, (0, 0, 0, [])) := rfl
set_option maxRecDepth 20000 in
theorem l_Mo_ruleOf_148 : xlk (xm_cd m_Mo_ruleOf) 148 = some (.invokestatic 188, 3, (1011, 164, 3, [])) := rfl
set_option maxRecDepth 20000 in
theorem l_Mo_ruleOf_151 : xlk (xm_cd m_Mo_ruleOf) 151 = some (.aload_n 0, 1, (0, 0, 0, [])) := rfl
set_option maxRecDepth 20000 in
theorem l_Mo_ruleOf_152 : xlk (xm_cd m_Mo_ruleOf) 152 = some (.getfield 60, 3, (868, 11, 19, [])) := rfl
set_option maxRecDepth 20000 in
theorem l_Mo_ruleOf_155 : xlk (xm_cd m_Mo_ruleOf) 155 = some (.iload 4, 2, (0, 0, 0, [])) := rfl
set_option maxRecDepth 20000 in
theorem l_Mo_ruleOf_157 : xlk (xm_cd m_Mo_ruleOf) 157 = some (.iaload, 1, (0, 0, 0, [])) := rfl
set_option maxRecDepth 20000 in
theorem l_Mo_ruleOf_158 : xlk (xm_cd m_Mo_ruleOf) 158 = some (.if_icmp .eq 5, 3, (0, 163, 0, [])) := rfl
set_option maxRecDepth 20000 in
theorem l_Mo_ruleOf_161 : xlk (xm_cd m_Mo_ruleOf) 161 = some (.iconst 4, 1, (0, 0, 0, [])) := rfl
set_option maxRecDepth 20000 in
theorem l_Mo_ruleOf_162 : xlk (xm_cd m_Mo_ruleOf) 162 = some (.ireturn, 1, (0, 0, 0, [])) := rfl
set_option maxRecDepth 20000 in
theorem l_Mo_ruleOf_163 : xlk (xm_cd m_Mo_ruleOf) 163 = some (.aload_n 0, 1, (0, 0, 0, [])) := rfl
set_option maxRecDepth 20000 in
theorem l_Mo_ruleOf_164 : xlk (xm_cd m_Mo_ruleOf) 164 = some (.iload_n 3, 1, (0, 0, 0, [])) := rfl
set_option maxRecDepth 20000 in
theorem l_Mo_ruleOf_165 : xlk (xm_cd m_Mo_ruleOf) 165 = some (.aload_n 0, 1, (0, 0, 0, [])) := rfl
set_option maxRecDepth 20000 in
theorem l_Mo_ruleOf_166 : xlk (xm_cd m_Mo_ruleOf) 166 = some (.getfield 39, 3, (861, 11, 12, [])) := rfl
set_option maxRecDepth 20000 in
theorem l_Mo_ruleOf_169 : xlk (xm_cd m_Mo_ruleOf) 169 = some (.bipush 18, 2, (0, 0, 0, [])) := rfl
set_option maxRecDepth 20000 in
theorem l_Mo_ruleOf_171 : xlk (xm_cd m_Mo_ruleOf) 171 = some (.iload 4, 2, (0, 0, 0, [])) := rfl
set_option maxRecDepth 20000 in
theorem l_Mo_ruleOf_173 : xlk (xm_cd m_Mo_ruleOf) 173 = some (.imul, 1, (0, 0, 0, [])) := rfl
set_option maxRecDepth 20000 in
theorem l_Mo_ruleOf_174 : xlk (xm_cd m_Mo_ruleOf) 174 = some (.aload_n 0, 1, (0, 0, 0, [])) := rfl
set_option maxRecDepth 20000 in
theorem l_Mo_ruleOf_175 : xlk (xm_cd m_Mo_ruleOf) 175 = some (.getfield 42, 3, (862, 11, 13, [])) := rfl
set_option maxRecDepth 20000 in
theorem l_Mo_ruleOf_178 : xlk (xm_cd m_Mo_ruleOf) 178 = some (.iload 4, 2, (0, 0, 0, [])) := rfl
set_option maxRecDepth 20000 in
theorem l_Mo_ruleOf_180 : xlk (xm_cd m_Mo_ruleOf) 180 = some (.iaload, 1, (0, 0, 0, [])) := rfl
set_option maxRecDepth 20000 in
theorem l_Mo_ruleOf_181 : xlk (xm_cd m_Mo_ruleOf) 181 = some (.invokevirtual 174, 3, (984, 156, 4, [])) := rfl
set_option maxRecDepth 20000 in
theorem l_Mo_ruleOf_184 : xlk (xm_cd m_Mo_ruleOf) 184 = some (.ifCond .lt 31, 3, (0, 215, 0, [])) := rfl
set_option maxRecDepth 20000 in
theorem l_Mo_ruleOf_187 : xlk (xm_cd m_Mo_ruleOf) 187 = some (.aload_n 0, 1, (0, 0, 0, [])) := rfl
set_option maxRecDepth 20000 in
theorem l_Mo_ruleOf_188 : xlk (xm_cd m_Mo_ruleOf) 188 = some (.iload_n 1, 1, (0, 0, 0, [])) := rfl
set_option maxRecDepth 20000 in
theorem l_Mo_ruleOf_189 : xlk (xm_cd m_Mo_ruleOf) 189 = some (.aload_n 0, 1, (0, 0, 0, [])) := rfl
set_option maxRecDepth 20000 in
theorem l_Mo_ruleOf_190 : xlk (xm_cd m_Mo_ruleOf) 190 = some (.getfield 39, 3, (861, 11, 12, [])) := rfl
set_option maxRecDepth 20000 in
theorem l_Mo_ruleOf_193 : xlk (xm_cd m_Mo_ruleOf) 193 = some (.bipush 18, 2, (0, 0, 0, [])) := rfl
set_option maxRecDepth 20000 in
theorem l_Mo_ruleOf_195 : xlk (xm_cd m_Mo_ruleOf) 195 = some (.iload 4, 2, (0, 0, 0, [])) := rfl
set_option maxRecDepth 20000 in
theorem l_Mo_ruleOf_197 : xlk (xm_cd m_Mo_ruleOf) 197 = some (.imul, 1, (0, 0, 0, [])) := rfl
set_option maxRecDepth 20000 in
theorem l_Mo_ruleOf_198 : xlk (xm_cd m_Mo_ruleOf) 198 = some (.aload_n 0, 1, (0, 0, 0, [])) := rfl
set_option maxRecDepth 20000 in
theorem l_Mo_ruleOf_199 : xlk (xm_cd m_Mo_ruleOf) 199 = some (.getfield 42, 3, (862, 11, 13, [])) := rfl
set_option maxRecDepth 20000 in
theorem l_Mo_ruleOf_202 : xlk (xm_cd m_Mo_ruleOf) 202 = some (.iload 4, 2, (0, 0, 0, [])) := rfl
set_option maxRecDepth 20000 in
theorem l_Mo_ruleOf_204 : xlk (xm_cd m_Mo_ruleOf) 204 = some (.iaload, 1, (0, 0, 0, [])) := rfl
set_option maxRecDepth 20000 in
theorem l_Mo_ruleOf_205 : xlk (xm_cd m_Mo_ruleOf) 205 = some (.invokevirtual 279, 3, (1113, 194, 4, [])) := rfl
set_option maxRecDepth 20000 in
theorem l_Mo_ruleOf_208 : xlk (xm_cd m_Mo_ruleOf) 208 = some (.ifCond .ne 7, 3, (0, 215, 0, [])) := rfl
set_option maxRecDepth 20000 in
theorem l_Mo_ruleOf_211 : xlk (xm_cd m_Mo_ruleOf) 211 = some (.iconst 3, 1, (0, 0, 0, [])) := rfl
set_option maxRecDepth 20000 in
theorem l_Mo_ruleOf_212 : xlk (xm_cd m_Mo_ruleOf) 212 = some (.goto 4, 3, (0, 216, 0, [])) := rfl
set_option maxRecDepth 20000 in
theorem l_Mo_ruleOf_215 : xlk (xm_cd m_Mo_ruleOf) 215 = some (.iconst 0, 1, (0, 0, 0, [])) := rfl
set_option maxRecDepth 20000 in
theorem l_Mo_ruleOf_216 : xlk (xm_cd m_Mo_ruleOf) 216 = some (.ireturn, 1, (0, 0, 0, [])) := rfl
def B_Mo_ruleOf_0 (d : Nat) (E : Option Value → xH → Prop) (f : xH) (a0 : Nat) (x1 : Int32) (x2 : Int32) (x3 : Int32) : Prop :=
  (∃ fs, f a0 = some (xO 11 fs)) ∧ xSp xT0 d j_Mo_sourceOf [.ref a0, .int ((24 * x1) + x2), .int x3] f (fun w1 f2 => xvi w1 (fun v3 => xgr f2 a0 11 11 (fun r4 => xal f2 r4 0 ((24 * x1) + x2) (fun v5 => xbr (v5 = 0) (xWp (xT0, xSp xT0 d, none, m_Mo_ruleOf, E) 92 [some (.ref a0), some (.int x1), some (.int x2), some (.int x3), some (.int ((24 * x1) + x2)), some (.int v3), none] [] f2 0 0) (xbr (¬ v3 = (-2)) (xSp xT0 d j_Mo_at [.int x3, .int v3] f2 (fun w6 f7 => xvi w6 (fun v8 => xgr f7 a0 11 8 (fun r9 => xal f7 r9 0 v8 (fun v10 => xgr f7 a0 11 16 (fun r11 => xal f7 r11 0 ((24 * x1) + x2) (fun v12 => xbr (¬ v10 = v12) (E (some (.int 2)) f7) (xgr f7 a0 11 7 (fun r13 => xgr f7 a0 11 8 (fun r14 => xal f7 r14 0 v8 (fun v15 => xSp xT0 d j_Mo_sum [.ref r13, .int (48 * v8), .int v15] f7 (fun w16 f17 => xvi w16 (fun v18 => xgr f17 a0 11 17 (fun r19 => xal f17 r19 0 ((24 * x1) + x2) (fun v20 => xbr (v18 = v20) (xWp (xT0, xSp xT0 d, none, m_Mo_ruleOf, E) 92 [some (.ref a0), some (.int x1), some (.int x2), some (.int x3), some (.int ((24 * x1) + x2)), some (.int v3), some (.int v8)] [] f17 0 0) (E (some (.int 2)) f17)))))))))))))))) (E (some (.int 1)) f2))))))
theorem b_Mo_ruleOf_0 {d : Nat} {E : Option Value → xH → Prop} {f : xH} {a0 : Nat} {x1 : Int32} {x2 : Int32} {x3 : Int32} (h : B_Mo_ruleOf_0 d E f a0 x1 x2 x3) : xWp (xT0, xSp xT0 d, none, m_Mo_ruleOf, E) 0 [some (.ref a0), some (.int x1), some (.int x2), some (.int x3), none, none, none] [] f 0 0 := by
  unfold B_Mo_ruleOf_0 at h
  refine s_bp 24 l_Mo_ruleOf_0 rfl ?_
  refine s_iln l_Mo_ruleOf_2 rfl ?_
  refine s_imul l_Mo_ruleOf_3 ?_
  refine s_iln l_Mo_ruleOf_4 rfl ?_
  refine s_iadd l_Mo_ruleOf_5 ?_
  refine s_is l_Mo_ruleOf_6 (Nat.le_of_ble_eq_true rfl) ?_
  refine s_aln l_Mo_ruleOf_8 rfl ?_
  refine s_il l_Mo_ruleOf_9 rfl ?_
  refine s_iln l_Mo_ruleOf_11 rfl ?_
  refine s_cvi (As := [.int ((24 * x1) + x2), .int x3]) (r := []) l_Mo_ruleOf_12 rfl ⟨rfl, rfl⟩ rfl (Nat.le_of_ble_eq_true rfl) rfl ⟨Nat.zero_le _, Nat.zero_le _⟩ h (fun v3 f2 h => ?_)
  refine s_is l_Mo_ruleOf_15 (Nat.le_of_ble_eq_true rfl) ?_
  refine s_aln l_Mo_ruleOf_17 rfl ?_
  refine s_gr l_Mo_ruleOf_18 h (fun r4 h => ?_)
  refine s_il l_Mo_ruleOf_21 rfl ?_
  refine s_ial l_Mo_ruleOf_23 rfl h (fun v5 h => ?_)
  refine s_if l_Mo_ruleOf_24 h (fun h => ?_) (fun h => ?_)
  · exact h
  · refine s_il l_Mo_ruleOf_27 rfl ?_
    refine s_bp (-2) l_Mo_ruleOf_29 rfl ?_
    refine s_ifc l_Mo_ruleOf_31 h (fun h => ?_) (fun h => ?_)
    · refine s_iln l_Mo_ruleOf_36 rfl ?_
      refine s_il l_Mo_ruleOf_37 rfl ?_
      refine s_csi (As := [.int x3, .int v3]) (r := []) l_Mo_ruleOf_39 rfl ⟨rfl, rfl⟩ rfl (Nat.le_of_ble_eq_true rfl) rfl ⟨Nat.zero_le _, Nat.zero_le _⟩ h (fun v8 f7 h => ?_)
      refine s_is l_Mo_ruleOf_42 (Nat.le_of_ble_eq_true rfl) ?_
      refine s_aln l_Mo_ruleOf_44 rfl ?_
      refine s_gr l_Mo_ruleOf_45 h (fun r9 h => ?_)
      refine s_il l_Mo_ruleOf_48 rfl ?_
      refine s_ial l_Mo_ruleOf_50 rfl h (fun v10 h => ?_)
      refine s_aln l_Mo_ruleOf_51 rfl ?_
      refine s_gr l_Mo_ruleOf_52 h (fun r11 h => ?_)
      refine s_il l_Mo_ruleOf_55 rfl ?_
      refine s_ial l_Mo_ruleOf_57 rfl h (fun v12 h => ?_)
      refine s_ifc l_Mo_ruleOf_58 h (fun h => ?_) (fun h => ?_)
      · refine s_ic 2 l_Mo_ruleOf_90 rfl ?_
        exact s_iret l_Mo_ruleOf_91 rfl ⟨Nat.zero_le _, Nat.zero_le _⟩ h
      · refine s_aln l_Mo_ruleOf_61 rfl ?_
        refine s_gr l_Mo_ruleOf_62 h (fun r13 h => ?_)
        refine s_bp 48 l_Mo_ruleOf_65 rfl ?_
        refine s_il l_Mo_ruleOf_67 rfl ?_
        refine s_imul l_Mo_ruleOf_69 ?_
        refine s_aln l_Mo_ruleOf_70 rfl ?_
        refine s_gr l_Mo_ruleOf_71 h (fun r14 h => ?_)
        refine s_il l_Mo_ruleOf_74 rfl ?_
        refine s_ial l_Mo_ruleOf_76 rfl h (fun v15 h => ?_)
        refine s_csi (As := [.ref r13, .int (48 * v8), .int v15]) (r := []) l_Mo_ruleOf_77 rfl ⟨rfl, rfl⟩ rfl (Nat.le_of_ble_eq_true rfl) rfl ⟨Nat.zero_le _, Nat.zero_le _⟩ h (fun v18 f17 h => ?_)
        refine s_aln l_Mo_ruleOf_80 rfl ?_
        refine s_gr l_Mo_ruleOf_81 h (fun r19 h => ?_)
        refine s_il l_Mo_ruleOf_84 rfl ?_
        refine s_ial l_Mo_ruleOf_86 rfl h (fun v20 h => ?_)
        refine s_ifc l_Mo_ruleOf_87 h (fun h => ?_) (fun h => ?_)
        · exact h
        · refine s_ic 2 l_Mo_ruleOf_90 rfl ?_
          exact s_iret l_Mo_ruleOf_91 rfl ⟨Nat.zero_le _, Nat.zero_le _⟩ h
    · refine s_ic 1 l_Mo_ruleOf_34 rfl ?_
      exact s_iret l_Mo_ruleOf_35 rfl ⟨Nat.zero_le _, Nat.zero_le _⟩ h
def B_Mo_ruleOf_92 (d : Nat) (E : Option Value → xH → Prop) (f : xH) (a0 : Nat) (x1 : Int32) (x2 : Int32) (x3 : Int32) (x4 : Int32) (x5 : Int32) (u6 : Option Value) : Prop :=
  xgr f a0 11 11 (fun r1 => xal f r1 0 x4 (fun v2 => xbr (¬ v2 = 1) (xgr f a0 11 7 (fun r3 => xbr (¬ x5 = (-2)) (xSp xT0 d j_Mo_at [.int x3, .int x5] f (fun w4 f5 => xvi w4 (fun v6 => xWp (xT0, xSp xT0 d, none, m_Mo_ruleOf, E) 132 [some (.ref a0), some (.int x1), some (.int x2), some (.int x3), some (.int x4), some (.int x5), u6] [.int (48 * v6), .ref r3, .int x4, .ref a0] f5 0 0))) (xWp (xT0, xSp xT0 d, none, m_Mo_ruleOf, E) 132 [some (.ref a0), some (.int x1), some (.int x2), some (.int x3), some (.int x4), some (.int x5), u6] [.int 0, .ref r3, .int x4, .ref a0] f 0 0))) (E (some (.int 0)) f)))
theorem b_Mo_ruleOf_92 {d : Nat} {E : Option Value → xH → Prop} {f : xH} {a0 : Nat} {x1 : Int32} {x2 : Int32} {x3 : Int32} {x4 : Int32} {x5 : Int32} {u6 : Option Value} (h : B_Mo_ruleOf_92 d E f a0 x1 x2 x3 x4 x5 u6) : xWp (xT0, xSp xT0 d, none, m_Mo_ruleOf, E) 92 [some (.ref a0), some (.int x1), some (.int x2), some (.int x3), some (.int x4), some (.int x5), u6] [] f 0 0 := by
  unfold B_Mo_ruleOf_92 at h
  refine s_aln l_Mo_ruleOf_92 rfl ?_
  refine s_gr l_Mo_ruleOf_93 h (fun r1 h => ?_)
  refine s_il l_Mo_ruleOf_96 rfl ?_
  refine s_ial l_Mo_ruleOf_98 rfl h (fun v2 h => ?_)
  refine s_ic 1 l_Mo_ruleOf_99 rfl ?_
  refine s_ifc l_Mo_ruleOf_100 h (fun h => ?_) (fun h => ?_)
  · refine s_aln l_Mo_ruleOf_105 rfl ?_
    refine s_il l_Mo_ruleOf_106 rfl ?_
    refine s_aln l_Mo_ruleOf_108 rfl ?_
    refine s_gr l_Mo_ruleOf_109 h (fun r3 h => ?_)
    refine s_il l_Mo_ruleOf_112 rfl ?_
    refine s_bp (-2) l_Mo_ruleOf_114 rfl ?_
    refine s_ifc l_Mo_ruleOf_116 h (fun h => ?_) (fun h => ?_)
    · refine s_bp 48 l_Mo_ruleOf_123 rfl ?_
      refine s_iln l_Mo_ruleOf_125 rfl ?_
      refine s_il l_Mo_ruleOf_126 rfl ?_
      refine s_csi (As := [.int x3, .int x5]) (r := [.int 48, .ref r3, .int x4, .ref a0]) l_Mo_ruleOf_128 rfl ⟨rfl, rfl⟩ rfl (Nat.le_of_ble_eq_true rfl) rfl ⟨Nat.zero_le _, Nat.zero_le _⟩ h (fun v6 f5 h => ?_)
      refine s_imul l_Mo_ruleOf_131 ?_
      exact h
    · refine s_ic 0 l_Mo_ruleOf_119 rfl ?_
      refine s_goto l_Mo_ruleOf_120 ?_
      exact h
  · refine s_ic 0 l_Mo_ruleOf_103 rfl ?_
    exact s_iret l_Mo_ruleOf_104 rfl ⟨Nat.zero_le _, Nat.zero_le _⟩ h
def B_Mo_ruleOf_132 (d : Nat) (E : Option Value → xH → Prop) (f : xH) (a0 : Nat) (x1 : Int32) (x2 : Int32) (x3 : Int32) (x4 : Int32) (x5 : Int32) (u6 : Option Value) (s0 : Int32) (s1 : Nat) (s2 : Int32) (s3 : Nat) : Prop :=
  (∃ fs, f s3 = some (xO 11 fs)) ∧ xSp xT0 d j_Mo_make [.ref s3, .int s2, .ref s1, .int s0, .int 0] f (fun w1 f2 => xvv w1 (xgr f2 a0 11 35 (fun r3 => xgr f2 a0 11 18 (fun r4 => xal f2 r4 0 x4 (fun v5 => xSp xT0 d j_Mo_sum [.ref r3, .int 0, .int v5] f2 (fun w6 f7 => xvi w6 (fun v8 => xgr f7 a0 11 19 (fun r9 => xal f7 r9 0 x4 (fun v10 => xbr (v8 = v10) (xgr f7 a0 11 12 (fun r11 => xgr f7 a0 11 13 (fun r12 => xal f7 r12 0 x4 (fun v13 => (∃ fs, f7 a0 = some (xO 11 fs)) ∧ xSp xT0 d j_Mo_find [.ref a0, .int x3, .ref r11, .int (18 * x4), .int v13] f7 (fun w14 f15 => xvi w14 (fun v16 => xbr (v16 < 0) (E (some (.int 0)) f15) (xgr f15 a0 11 12 (fun r17 => xgr f15 a0 11 13 (fun r18 => xal f15 r18 0 x4 (fun v19 => (∃ fs, f15 a0 = some (xO 11 fs)) ∧ xSp xT0 d j_Mo_isSource [.ref a0, .int x1, .ref r17, .int (18 * x4), .int v19] f15 (fun w20 f21 => xvi w20 (fun v22 => xbr (¬ v22 = 0) (E (some (.int 0)) f21) (E (some (.int 3)) f21))))))))))))) (E (some (.int 4)) f7))))))))))
theorem b_Mo_ruleOf_132 {d : Nat} {E : Option Value → xH → Prop} {f : xH} {a0 : Nat} {x1 : Int32} {x2 : Int32} {x3 : Int32} {x4 : Int32} {x5 : Int32} {u6 : Option Value} {s0 : Int32} {s1 : Nat} {s2 : Int32} {s3 : Nat} (h : B_Mo_ruleOf_132 d E f a0 x1 x2 x3 x4 x5 u6 s0 s1 s2 s3) : xWp (xT0, xSp xT0 d, none, m_Mo_ruleOf, E) 132 [some (.ref a0), some (.int x1), some (.int x2), some (.int x3), some (.int x4), some (.int x5), u6] [.int s0, .ref s1, .int s2, .ref s3] f 0 0 := by
  unfold B_Mo_ruleOf_132 at h
  refine s_ic 0 l_Mo_ruleOf_132 rfl ?_
  refine s_cvv (As := [.int s2, .ref s1, .int s0, .int 0]) (r := []) l_Mo_ruleOf_133 rfl ⟨rfl, rfl⟩ rfl (Nat.le_of_ble_eq_true rfl) rfl ⟨Nat.zero_le _, Nat.zero_le _⟩ h (fun f2 h => ?_)
  refine s_aln l_Mo_ruleOf_136 rfl ?_
  refine s_gr l_Mo_ruleOf_137 h (fun r3 h => ?_)
  refine s_ic 0 l_Mo_ruleOf_140 rfl ?_
  refine s_aln l_Mo_ruleOf_141 rfl ?_
  refine s_gr l_Mo_ruleOf_142 h (fun r4 h => ?_)
  refine s_il l_Mo_ruleOf_145 rfl ?_
  refine s_ial l_Mo_ruleOf_147 rfl h (fun v5 h => ?_)
  refine s_csi (As := [.ref r3, .int 0, .int v5]) (r := []) l_Mo_ruleOf_148 rfl ⟨rfl, rfl⟩ rfl (Nat.le_of_ble_eq_true rfl) rfl ⟨Nat.zero_le _, Nat.zero_le _⟩ h (fun v8 f7 h => ?_)
  refine s_aln l_Mo_ruleOf_151 rfl ?_
  refine s_gr l_Mo_ruleOf_152 h (fun r9 h => ?_)
  refine s_il l_Mo_ruleOf_155 rfl ?_
  refine s_ial l_Mo_ruleOf_157 rfl h (fun v10 h => ?_)
  refine s_ifc l_Mo_ruleOf_158 h (fun h => ?_) (fun h => ?_)
  · refine s_aln l_Mo_ruleOf_163 rfl ?_
    refine s_iln l_Mo_ruleOf_164 rfl ?_
    refine s_aln l_Mo_ruleOf_165 rfl ?_
    refine s_gr l_Mo_ruleOf_166 h (fun r11 h => ?_)
    refine s_bp 18 l_Mo_ruleOf_169 rfl ?_
    refine s_il l_Mo_ruleOf_171 rfl ?_
    refine s_imul l_Mo_ruleOf_173 ?_
    refine s_aln l_Mo_ruleOf_174 rfl ?_
    refine s_gr l_Mo_ruleOf_175 h (fun r12 h => ?_)
    refine s_il l_Mo_ruleOf_178 rfl ?_
    refine s_ial l_Mo_ruleOf_180 rfl h (fun v13 h => ?_)
    refine s_cvi (As := [.int x3, .ref r11, .int (18 * x4), .int v13]) (r := []) l_Mo_ruleOf_181 rfl ⟨rfl, rfl⟩ rfl (Nat.le_of_ble_eq_true rfl) rfl ⟨Nat.zero_le _, Nat.zero_le _⟩ h (fun v16 f15 h => ?_)
    refine s_if l_Mo_ruleOf_184 h (fun h => ?_) (fun h => ?_)
    · refine s_ic 0 l_Mo_ruleOf_215 rfl ?_
      exact s_iret l_Mo_ruleOf_216 rfl ⟨Nat.zero_le _, Nat.zero_le _⟩ h
    · refine s_aln l_Mo_ruleOf_187 rfl ?_
      refine s_iln l_Mo_ruleOf_188 rfl ?_
      refine s_aln l_Mo_ruleOf_189 rfl ?_
      refine s_gr l_Mo_ruleOf_190 h (fun r17 h => ?_)
      refine s_bp 18 l_Mo_ruleOf_193 rfl ?_
      refine s_il l_Mo_ruleOf_195 rfl ?_
      refine s_imul l_Mo_ruleOf_197 ?_
      refine s_aln l_Mo_ruleOf_198 rfl ?_
      refine s_gr l_Mo_ruleOf_199 h (fun r18 h => ?_)
      refine s_il l_Mo_ruleOf_202 rfl ?_
      refine s_ial l_Mo_ruleOf_204 rfl h (fun v19 h => ?_)
      refine s_cvi (As := [.int x1, .ref r17, .int (18 * x4), .int v19]) (r := []) l_Mo_ruleOf_205 rfl ⟨rfl, rfl⟩ rfl (Nat.le_of_ble_eq_true rfl) rfl ⟨Nat.zero_le _, Nat.zero_le _⟩ h (fun v22 f21 h => ?_)
      refine s_if l_Mo_ruleOf_208 h (fun h => ?_) (fun h => ?_)
      · refine s_ic 0 l_Mo_ruleOf_215 rfl ?_
        exact s_iret l_Mo_ruleOf_216 rfl ⟨Nat.zero_le _, Nat.zero_le _⟩ h
      · refine s_ic 3 l_Mo_ruleOf_211 rfl ?_
        refine s_goto l_Mo_ruleOf_212 ?_
        exact s_iret l_Mo_ruleOf_216 rfl ⟨Nat.zero_le _, Nat.zero_le _⟩ h
  · refine s_ic 4 l_Mo_ruleOf_161 rfl ?_
    exact s_iret l_Mo_ruleOf_162 rfl ⟨Nat.zero_le _, Nat.zero_le _⟩ h
theorem l_Mo_sourceOf_0 : xlk (xm_cd m_Mo_sourceOf) 0 = some (.aload_n 0, 1, (0, 0, 0, [])) := rfl
theorem l_Mo_sourceOf_1 : xlk (xm_cd m_Mo_sourceOf) 1 = some (.getfield 36, 3, (860, 11, 11, [])) := rfl
theorem l_Mo_sourceOf_4 : xlk (xm_cd m_Mo_sourceOf) 4 = some (.iload_n 1, 1, (0, 0, 0, [])) := rfl
theorem l_Mo_sourceOf_5 : xlk (xm_cd m_Mo_sourceOf) 5 = some (.iaload, 1, (0, 0, 0, [])) := rfl
theorem l_Mo_sourceOf_6 : xlk (xm_cd m_Mo_sourceOf) 6 = some (.ifCond .ne 8, 3, (0, 14, 0, [])) := rfl
theorem l_Mo_sourceOf_9 : xlk (xm_cd m_Mo_sourceOf) 9 = some (.bipush (-2), 2, (0, 0, 0, [])) := rfl
theorem l_Mo_sourceOf_11 : xlk (xm_cd m_Mo_sourceOf) 11 = some (.goto 22, 3, (0, 33, 0, [])) := rfl
theorem l_Mo_sourceOf_14 : xlk (xm_cd m_Mo_sourceOf) 14 = some (.aload_n 0, 1, (0, 0, 0, [])) := rfl
theorem l_Mo_sourceOf_15 : xlk (xm_cd m_Mo_sourceOf) 15 = some (.iload_n 2, 1, (0, 0, 0, [])) := rfl
theorem l_Mo_sourceOf_16 : xlk (xm_cd m_Mo_sourceOf) 16 = some (.aload_n 0, 1, (0, 0, 0, [])) := rfl
theorem l_Mo_sourceOf_17 : xlk (xm_cd m_Mo_sourceOf) 17 = some (.getfield 45, 3, (863, 11, 14, [])) := rfl
theorem l_Mo_sourceOf_20 : xlk (xm_cd m_Mo_sourceOf) 20 = some (.bipush 18, 2, (0, 0, 0, [])) := rfl
theorem l_Mo_sourceOf_22 : xlk (xm_cd m_Mo_sourceOf) 22 = some (.iload_n 1, 1, (0, 0, 0, [])) := rfl
theorem l_Mo_sourceOf_23 : xlk (xm_cd m_Mo_sourceOf) 23 = some (.imul, 1, (0, 0, 0, [])) := rfl
theorem l_Mo_sourceOf_24 : xlk (xm_cd m_Mo_sourceOf) 24 = some (.aload_n 0, 1, (0, 0, 0, [])) := rfl
theorem l_Mo_sourceOf_25 : xlk (xm_cd m_Mo_sourceOf) 25 = some (.getfield 48, 3, (864, 11, 15, [])) := rfl
theorem l_Mo_sourceOf_28 : xlk (xm_cd m_Mo_sourceOf) 28 = some (.iload_n 1, 1, (0, 0, 0, [])) := rfl
theorem l_Mo_sourceOf_29 : xlk (xm_cd m_Mo_sourceOf) 29 = some (.iaload, 1, (0, 0, 0, [])) := rfl
theorem l_Mo_sourceOf_30 : xlk (xm_cd m_Mo_sourceOf) 30 = some (.invokevirtual 174, 3, (984, 156, 4, [])) := rfl
theorem l_Mo_sourceOf_33 : xlk (xm_cd m_Mo_sourceOf) 33 = some (.ireturn, 1, (0, 0, 0, [])) := rfl
def B_Mo_sourceOf_0 (d : Nat) (E : Option Value → xH → Prop) (f : xH) (a0 : Nat) (x1 : Int32) (x2 : Int32) : Prop :=
  xgr f a0 11 11 (fun r1 => xal f r1 0 x1 (fun v2 => xbr (¬ v2 = 0) (xgr f a0 11 14 (fun r3 => xgr f a0 11 15 (fun r4 => xal f r4 0 x1 (fun v5 => (∃ fs, f a0 = some (xO 11 fs)) ∧ xSp xT0 d j_Mo_find [.ref a0, .int x2, .ref r3, .int (18 * x1), .int v5] f (fun w6 f7 => xvi w6 (fun v8 => E (some (.int v8)) f7)))))) (E (some (.int (-2))) f)))
theorem b_Mo_sourceOf_0 {d : Nat} {E : Option Value → xH → Prop} {f : xH} {a0 : Nat} {x1 : Int32} {x2 : Int32} (h : B_Mo_sourceOf_0 d E f a0 x1 x2) : xWp (xT0, xSp xT0 d, none, m_Mo_sourceOf, E) 0 [some (.ref a0), some (.int x1), some (.int x2)] [] f 0 0 := by
  unfold B_Mo_sourceOf_0 at h
  refine s_aln l_Mo_sourceOf_0 rfl ?_
  refine s_gr l_Mo_sourceOf_1 h (fun r1 h => ?_)
  refine s_iln l_Mo_sourceOf_4 rfl ?_
  refine s_ial l_Mo_sourceOf_5 rfl h (fun v2 h => ?_)
  refine s_if l_Mo_sourceOf_6 h (fun h => ?_) (fun h => ?_)
  · refine s_aln l_Mo_sourceOf_14 rfl ?_
    refine s_iln l_Mo_sourceOf_15 rfl ?_
    refine s_aln l_Mo_sourceOf_16 rfl ?_
    refine s_gr l_Mo_sourceOf_17 h (fun r3 h => ?_)
    refine s_bp 18 l_Mo_sourceOf_20 rfl ?_
    refine s_iln l_Mo_sourceOf_22 rfl ?_
    refine s_imul l_Mo_sourceOf_23 ?_
    refine s_aln l_Mo_sourceOf_24 rfl ?_
    refine s_gr l_Mo_sourceOf_25 h (fun r4 h => ?_)
    refine s_iln l_Mo_sourceOf_28 rfl ?_
    refine s_ial l_Mo_sourceOf_29 rfl h (fun v5 h => ?_)
    refine s_cvi (As := [.int x2, .ref r3, .int (18 * x1), .int v5]) (r := []) l_Mo_sourceOf_30 rfl ⟨rfl, rfl⟩ rfl (Nat.le_of_ble_eq_true rfl) rfl ⟨Nat.zero_le _, Nat.zero_le _⟩ h (fun v8 f7 h => ?_)
    exact s_iret l_Mo_sourceOf_33 rfl ⟨Nat.zero_le _, Nat.zero_le _⟩ h
  · refine s_bp (-2) l_Mo_sourceOf_9 rfl ?_
    refine s_goto l_Mo_sourceOf_11 ?_
    exact s_iret l_Mo_sourceOf_33 rfl ⟨Nat.zero_le _, Nat.zero_le _⟩ h
theorem l_Mo_make_0 : xlk (xm_cd m_Mo_make) 0 = some (.iconst 0, 1, (0, 0, 0, [])) := rfl
theorem l_Mo_make_1 : xlk (xm_cd m_Mo_make) 1 = some (.istore 5, 2, (0, 0, 0, [])) := rfl
theorem l_Mo_make_3 : xlk (xm_cd m_Mo_make) 3 = some (.iload 5, 2, (0, 0, 0, [])) := rfl
theorem l_Mo_make_5 : xlk (xm_cd m_Mo_make) 5 = some (.aload_n 0, 1, (0, 0, 0, [])) := rfl
theorem l_Mo_make_6 : xlk (xm_cd m_Mo_make) 6 = some (.getfield 57, 3, (867, 11, 18, [])) := rfl
theorem l_Mo_make_9 : xlk (xm_cd m_Mo_make) 9 = some (.iload_n 1, 1, (0, 0, 0, [])) := rfl
theorem l_Mo_make_10 : xlk (xm_cd m_Mo_make) 10 = some (.iaload, 1, (0, 0, 0, [])) := rfl
theorem l_Mo_make_11 : xlk (xm_cd m_Mo_make) 11 = some (.invokestatic 262, 3, (1085, 186, 1, [])) := rfl
theorem l_Mo_make_14 : xlk (xm_cd m_Mo_make) 14 = some (.if_icmp .ge 52, 3, (0, 66, 0, [])) := rfl
theorem l_Mo_make_17 : xlk (xm_cd m_Mo_make) 17 = some (.aload_n 0, 1, (0, 0, 0, [])) := rfl
theorem l_Mo_make_18 : xlk (xm_cd m_Mo_make) 18 = some (.getfield 63, 3, (869, 11, 20, [])) := rfl
theorem l_Mo_make_21 : xlk (xm_cd m_Mo_make) 21 = some (.bipush 48, 2, (0, 0, 0, [])) := rfl
theorem l_Mo_make_23 : xlk (xm_cd m_Mo_make) 23 = some (.iload_n 1, 1, (0, 0, 0, [])) := rfl
theorem l_Mo_make_24 : xlk (xm_cd m_Mo_make) 24 = some (.imul, 1, (0, 0, 0, [])) := rfl
theorem l_Mo_make_25 : xlk (xm_cd m_Mo_make) 25 = some (.iload 5, 2, (0, 0, 0, [])) := rfl
theorem l_Mo_make_27 : xlk (xm_cd m_Mo_make) 27 = some (.iadd, 1, (0, 0, 0, [])) := rfl
theorem l_Mo_make_28 : xlk (xm_cd m_Mo_make) 28 = some (.iaload, 1, (0, 0, 0, [])) := rfl
theorem l_Mo_make_29 : xlk (xm_cd m_Mo_make) 29 = some (.istore 6, 2, (0, 0, 0, [])) := rfl
theorem l_Mo_make_31 : xlk (xm_cd m_Mo_make) 31 = some (.aload_n 0, 1, (0, 0, 0, [])) := rfl
theorem l_Mo_make_32 : xlk (xm_cd m_Mo_make) 32 = some (.getfield 97, 3, (884, 11, 35, [])) := rfl
theorem l_Mo_make_35 : xlk (xm_cd m_Mo_make) 35 = some (.iload 4, 2, (0, 0, 0, [])) := rfl
theorem l_Mo_make_37 : xlk (xm_cd m_Mo_make) 37 = some (.iload 5, 2, (0, 0, 0, [])) := rfl
theorem l_Mo_make_39 : xlk (xm_cd m_Mo_make) 39 = some (.iadd, 1, (0, 0, 0, [])) := rfl
theorem l_Mo_make_40 : xlk (xm_cd m_Mo_make) 40 = some (.iload 6, 2, (0, 0, 0, [])) := rfl
theorem l_Mo_make_42 : xlk (xm_cd m_Mo_make) 42 = some (.ifCond .ge 11, 3, (0, 53, 0, [])) := rfl
theorem l_Mo_make_45 : xlk (xm_cd m_Mo_make) 45 = some (.iconst (-1), 1, (0, 0, 0, [])) := rfl
theorem l_Mo_make_46 : xlk (xm_cd m_Mo_make) 46 = some (.iload 6, 2, (0, 0, 0, [])) := rfl
theorem l_Mo_make_48 : xlk (xm_cd m_Mo_make) 48 = some (.isub, 1, (0, 0, 0, [])) := rfl
theorem l_Mo_make_49 : xlk (xm_cd m_Mo_make) 49 = some (.i2b, 1, (0, 0, 0, [])) := rfl
theorem l_Mo_make_50 : xlk (xm_cd m_Mo_make) 50 = some (.goto 9, 3, (0, 59, 0, [])) := rfl
theorem l_Mo_make_53 : xlk (xm_cd m_Mo_make) 53 = some (.aload_n 2, 1, (0, 0, 0, [])) := rfl
theorem l_Mo_make_54 : xlk (xm_cd m_Mo_make) 54 = some (.iload_n 3, 1, (0, 0, 0, [])) := rfl
theorem l_Mo_make_55 : xlk (xm_cd m_Mo_make) 55 = some (.iload 6, 2, (0, 0, 0, [])) := rfl
theorem l_Mo_make_57 : xlk (xm_cd m_Mo_make) 57 = some (.iadd, 1, (0, 0, 0, [])) := rfl
theorem l_Mo_make_58 : xlk (xm_cd m_Mo_make) 58 = some (.baload, 1, (0, 0, 0, [])) := rfl
theorem l_Mo_make_59 : xlk (xm_cd m_Mo_make) 59 = some (.bastore, 1, (0, 0, 0, [])) := rfl
theorem l_Mo_make_60 : xlk (xm_cd m_Mo_make) 60 = some (.iinc 5 1, 3, (0, 0, 0, [])) := rfl
theorem l_Mo_make_63 : xlk (xm_cd m_Mo_make) 63 = some (.goto (-60), 3, (0, 3, 0, [])) := rfl
theorem l_Mo_make_66 : xlk (xm_cd m_Mo_make) 66 = some (.return_, 1, (0, 0, 0, [])) := rfl
def B_Mo_make_0 (d : Nat) (E : Option Value → xH → Prop) (f : xH) (a0 : Nat) (x1 : Int32) (a2 : Nat) (x3 : Int32) (x4 : Int32) : Prop :=
  xWp (xT0, xSp xT0 d, none, m_Mo_make, E) 3 [some (.ref a0), some (.int x1), some (.ref a2), some (.int x3), some (.int x4), some (.int 0), none] [] f 0 0
theorem b_Mo_make_0 {d : Nat} {E : Option Value → xH → Prop} {f : xH} {a0 : Nat} {x1 : Int32} {a2 : Nat} {x3 : Int32} {x4 : Int32} (h : B_Mo_make_0 d E f a0 x1 a2 x3 x4) : xWp (xT0, xSp xT0 d, none, m_Mo_make, E) 0 [some (.ref a0), some (.int x1), some (.ref a2), some (.int x3), some (.int x4), none, none] [] f 0 0 := by
  unfold B_Mo_make_0 at h
  refine s_ic 0 l_Mo_make_0 rfl ?_
  refine s_is l_Mo_make_1 (Nat.le_of_ble_eq_true rfl) ?_
  exact h
def B_Mo_make_3 (d : Nat) (E : Option Value → xH → Prop) (f : xH) (a0 : Nat) (x1 : Int32) (a2 : Nat) (x3 : Int32) (x4 : Int32) (x5 : Int32) (u6 : Option Value) : Prop :=
  xgr f a0 11 18 (fun r1 => xal f r1 0 x1 (fun v2 => xSp xT0 d j_Mo_bytesOf [.int v2] f (fun w3 f4 => xvi w3 (fun v5 => xbr (v5 ≤ x5) (E none f4) (xgr f4 a0 11 20 (fun r6 => xal f4 r6 0 ((48 * x1) + x5) (fun v7 => xgr f4 a0 11 35 (fun r8 => xbr ((0 : Int32) ≤ v7) (xal f4 a2 2 (x3 + v7) (fun v9 => xas f4 r8 2 (x4 + x5) v9.toInt8.toInt32 (fun f10 => xWp (xT0, xSp xT0 d, none, m_Mo_make, E) 3 [some (.ref a0), some (.int x1), some (.ref a2), some (.int x3), some (.int x4), some (.int (x5 + 1)), some (.int v7)] [] f10 0 0))) (xas f4 r8 2 (x4 + x5) (((-1) - v7).toInt8.toInt32).toInt8.toInt32 (fun f11 => xWp (xT0, xSp xT0 d, none, m_Mo_make, E) 3 [some (.ref a0), some (.int x1), some (.ref a2), some (.int x3), some (.int x4), some (.int (x5 + 1)), some (.int v7)] [] f11 0 0))))))))))
theorem b_Mo_make_3 {d : Nat} {E : Option Value → xH → Prop} {f : xH} {a0 : Nat} {x1 : Int32} {a2 : Nat} {x3 : Int32} {x4 : Int32} {x5 : Int32} {u6 : Option Value} (h : B_Mo_make_3 d E f a0 x1 a2 x3 x4 x5 u6) : xWp (xT0, xSp xT0 d, none, m_Mo_make, E) 3 [some (.ref a0), some (.int x1), some (.ref a2), some (.int x3), some (.int x4), some (.int x5), u6] [] f 0 0 := by
  unfold B_Mo_make_3 at h
  refine s_il l_Mo_make_3 rfl ?_
  refine s_aln l_Mo_make_5 rfl ?_
  refine s_gr l_Mo_make_6 h (fun r1 h => ?_)
  refine s_iln l_Mo_make_9 rfl ?_
  refine s_ial l_Mo_make_10 rfl h (fun v2 h => ?_)
  refine s_csi (As := [.int v2]) (r := [.int x5]) l_Mo_make_11 rfl ⟨rfl, rfl⟩ rfl (Nat.le_of_ble_eq_true rfl) rfl ⟨Nat.zero_le _, Nat.zero_le _⟩ h (fun v5 f4 h => ?_)
  refine s_ifc l_Mo_make_14 h (fun h => ?_) (fun h => ?_)
  · exact s_ret l_Mo_make_66 ⟨Nat.zero_le _, Nat.zero_le _⟩ h
  · refine s_aln l_Mo_make_17 rfl ?_
    refine s_gr l_Mo_make_18 h (fun r6 h => ?_)
    refine s_bp 48 l_Mo_make_21 rfl ?_
    refine s_iln l_Mo_make_23 rfl ?_
    refine s_imul l_Mo_make_24 ?_
    refine s_il l_Mo_make_25 rfl ?_
    refine s_iadd l_Mo_make_27 ?_
    refine s_ial l_Mo_make_28 rfl h (fun v7 h => ?_)
    refine s_is l_Mo_make_29 (Nat.le_of_ble_eq_true rfl) ?_
    refine s_aln l_Mo_make_31 rfl ?_
    refine s_gr l_Mo_make_32 h (fun r8 h => ?_)
    refine s_il l_Mo_make_35 rfl ?_
    refine s_il l_Mo_make_37 rfl ?_
    refine s_iadd l_Mo_make_39 ?_
    refine s_il l_Mo_make_40 rfl ?_
    refine s_if l_Mo_make_42 h (fun h => ?_) (fun h => ?_)
    · refine s_aln l_Mo_make_53 rfl ?_
      refine s_iln l_Mo_make_54 rfl ?_
      refine s_il l_Mo_make_55 rfl ?_
      refine s_iadd l_Mo_make_57 ?_
      refine s_bal l_Mo_make_58 (Or.inr rfl) h (fun v9 h => ?_)
      refine s_bast l_Mo_make_59 h (fun f10 h => ?_)
      refine s_inc 1 l_Mo_make_60 rfl rfl ?_
      refine s_goto l_Mo_make_63 ?_
      exact h
    · refine s_ic (-1) l_Mo_make_45 rfl ?_
      refine s_il l_Mo_make_46 rfl ?_
      refine s_isub l_Mo_make_48 ?_
      refine s_i2b l_Mo_make_49 ?_
      refine s_goto l_Mo_make_50 ?_
      refine s_bast l_Mo_make_59 h (fun f11 h => ?_)
      refine s_inc 1 l_Mo_make_60 rfl rfl ?_
      refine s_goto l_Mo_make_63 ?_
      exact h
theorem l_Mo_isSource_0 : xlk (xm_cd m_Mo_isSource) 0 = some (.iconst 0, 1, (0, 0, 0, [])) := rfl
theorem l_Mo_isSource_1 : xlk (xm_cd m_Mo_isSource) 1 = some (.istore 5, 2, (0, 0, 0, [])) := rfl
theorem l_Mo_isSource_3 : xlk (xm_cd m_Mo_isSource) 3 = some (.iconst 0, 1, (0, 0, 0, [])) := rfl
theorem l_Mo_isSource_4 : xlk (xm_cd m_Mo_isSource) 4 = some (.istore 6, 2, (0, 0, 0, [])) := rfl
theorem l_Mo_isSource_6 : xlk (xm_cd m_Mo_isSource) 6 = some (.iload 6, 2, (0, 0, 0, [])) := rfl
theorem l_Mo_isSource_8 : xlk (xm_cd m_Mo_isSource) 8 = some (.aload_n 0, 1, (0, 0, 0, [])) := rfl
theorem l_Mo_isSource_9 : xlk (xm_cd m_Mo_isSource) 9 = some (.getfield 69, 3, (871, 11, 22, [])) := rfl
theorem l_Mo_isSource_12 : xlk (xm_cd m_Mo_isSource) 12 = some (.iload_n 1, 1, (0, 0, 0, [])) := rfl
theorem l_Mo_isSource_13 : xlk (xm_cd m_Mo_isSource) 13 = some (.iaload, 1, (0, 0, 0, [])) := rfl
theorem l_Mo_isSource_14 : xlk (xm_cd m_Mo_isSource) 14 = some (.if_icmp .ge 76, 3, (0, 90, 0, [])) := rfl
theorem l_Mo_isSource_17 : xlk (xm_cd m_Mo_isSource) 17 = some (.bipush 24, 2, (0, 0, 0, [])) := rfl
theorem l_Mo_isSource_19 : xlk (xm_cd m_Mo_isSource) 19 = some (.iload_n 1, 1, (0, 0, 0, [])) := rfl
theorem l_Mo_isSource_20 : xlk (xm_cd m_Mo_isSource) 20 = some (.imul, 1, (0, 0, 0, [])) := rfl
theorem l_Mo_isSource_21 : xlk (xm_cd m_Mo_isSource) 21 = some (.iload 6, 2, (0, 0, 0, [])) := rfl
theorem l_Mo_isSource_23 : xlk (xm_cd m_Mo_isSource) 23 = some (.iadd, 1, (0, 0, 0, [])) := rfl
theorem l_Mo_isSource_24 : xlk (xm_cd m_Mo_isSource) 24 = some (.istore 7, 2, (0, 0, 0, [])) := rfl
theorem l_Mo_isSource_26 : xlk (xm_cd m_Mo_isSource) 26 = some (.iload 5, 2, (0, 0, 0, [])) := rfl
theorem l_Mo_isSource_28 : xlk (xm_cd m_Mo_isSource) 28 = some (.ifCond .ne 49, 3, (0, 77, 0, [])) := rfl
theorem l_Mo_isSource_31 : xlk (xm_cd m_Mo_isSource) 31 = some (.aload_n 0, 1, (0, 0, 0, [])) := rfl
theorem l_Mo_isSource_32 : xlk (xm_cd m_Mo_isSource) 32 = some (.getfield 87, 3, (880, 11, 31, [])) := rfl
theorem l_Mo_isSource_35 : xlk (xm_cd m_Mo_isSource) 35 = some (.iload 6, 2, (0, 0, 0, [])) := rfl
theorem l_Mo_isSource_37 : xlk (xm_cd m_Mo_isSource) 37 = some (.baload, 1, (0, 0, 0, [])) := rfl
theorem l_Mo_isSource_38 : xlk (xm_cd m_Mo_isSource) 38 = some (.ifCond .eq 43, 3, (0, 81, 0, [])) := rfl
theorem l_Mo_isSource_41 : xlk (xm_cd m_Mo_isSource) 41 = some (.aload_n 0, 1, (0, 0, 0, [])) := rfl
theorem l_Mo_isSource_42 : xlk (xm_cd m_Mo_isSource) 42 = some (.getfield 36, 3, (860, 11, 11, [])) := rfl
theorem l_Mo_isSource_45 : xlk (xm_cd m_Mo_isSource) 45 = some (.iload 7, 2, (0, 0, 0, [])) := rfl
theorem l_Mo_isSource_47 : xlk (xm_cd m_Mo_isSource) 47 = some (.iaload, 1, (0, 0, 0, [])) := rfl
theorem l_Mo_isSource_48 : xlk (xm_cd m_Mo_isSource) 48 = some (.ifCond .eq 33, 3, (0, 81, 0, [])) := rfl
theorem l_Mo_isSource_51 : xlk (xm_cd m_Mo_isSource) 51 = some (.aload_n 0, 1, (0, 0, 0, [])) := rfl
theorem l_Mo_isSource_52 : xlk (xm_cd m_Mo_isSource) 52 = some (.getfield 45, 3, (863, 11, 14, [])) := rfl
theorem l_Mo_isSource_55 : xlk (xm_cd m_Mo_isSource) 55 = some (.bipush 18, 2, (0, 0, 0, [])) := rfl
theorem l_Mo_isSource_57 : xlk (xm_cd m_Mo_isSource) 57 = some (.iload 7, 2, (0, 0, 0, [])) := rfl
theorem l_Mo_isSource_59 : xlk (xm_cd m_Mo_isSource) 59 = some (.imul, 1, (0, 0, 0, [])) := rfl
theorem l_Mo_isSource_60 : xlk (xm_cd m_Mo_isSource) 60 = some (.aload_n 0, 1, (0, 0, 0, [])) := rfl
theorem l_Mo_isSource_61 : xlk (xm_cd m_Mo_isSource) 61 = some (.getfield 48, 3, (864, 11, 15, [])) := rfl
theorem l_Mo_isSource_64 : xlk (xm_cd m_Mo_isSource) 64 = some (.iload 7, 2, (0, 0, 0, [])) := rfl
theorem l_Mo_isSource_66 : xlk (xm_cd m_Mo_isSource) 66 = some (.iaload, 1, (0, 0, 0, [])) := rfl
theorem l_Mo_isSource_67 : xlk (xm_cd m_Mo_isSource) 67 = some (.aload_n 2, 1, (0, 0, 0, [])) := rfl
theorem l_Mo_isSource_68 : xlk (xm_cd m_Mo_isSource) 68 = some (.iload_n 3, 1, (0, 0, 0, [])) := rfl
theorem l_Mo_isSource_69 : xlk (xm_cd m_Mo_isSource) 69 = some (.iload 4, 2, (0, 0, 0, [])) := rfl
theorem l_Mo_isSource_71 : xlk (xm_cd m_Mo_isSource) 71 = some (.invokestatic 143, 3, (987, 157, 6, [])) := rfl
theorem l_Mo_isSource_74 : xlk (xm_cd m_Mo_isSource) 74 = some (.ifCond .ne 7, 3, (0, 81, 0, [])) := rfl
theorem l_Mo_isSource_77 : xlk (xm_cd m_Mo_isSource) 77 = some (.iconst 1, 1, (0, 0, 0, [])) := rfl
theorem l_Mo_isSource_78 : xlk (xm_cd m_Mo_isSource) 78 = some (.goto 4, 3, (0, 82, 0, [])) := rfl
theorem l_Mo_isSource_81 : xlk (xm_cd m_Mo_isSource) 81 = some (.iconst 0, 1, (0, 0, 0, [])) := rfl
theorem l_Mo_isSource_82 : xlk (xm_cd m_Mo_isSource) 82 = some (.istore 5, 2, (0, 0, 0, [])) := rfl
theorem l_Mo_isSource_84 : xlk (xm_cd m_Mo_isSource) 84 = some (.iinc 6 1, 3, (0, 0, 0, [])) := rfl
theorem l_Mo_isSource_87 : xlk (xm_cd m_Mo_isSource) 87 = some (.goto (-81), 3, (0, 6, 0, [])) := rfl
theorem l_Mo_isSource_90 : xlk (xm_cd m_Mo_isSource) 90 = some (.iload 5, 2, (0, 0, 0, [])) := rfl
theorem l_Mo_isSource_92 : xlk (xm_cd m_Mo_isSource) 92 = some (.ireturn, 1, (0, 0, 0, [])) := rfl
def B_Mo_isSource_0 (d : Nat) (E : Option Value → xH → Prop) (f : xH) (a0 : Nat) (x1 : Int32) (a2 : Nat) (x3 : Int32) (x4 : Int32) : Prop :=
  xWp (xT0, xSp xT0 d, none, m_Mo_isSource, E) 6 [some (.ref a0), some (.int x1), some (.ref a2), some (.int x3), some (.int x4), some (.int 0), some (.int 0), none] [] f 0 0
theorem b_Mo_isSource_0 {d : Nat} {E : Option Value → xH → Prop} {f : xH} {a0 : Nat} {x1 : Int32} {a2 : Nat} {x3 : Int32} {x4 : Int32} (h : B_Mo_isSource_0 d E f a0 x1 a2 x3 x4) : xWp (xT0, xSp xT0 d, none, m_Mo_isSource, E) 0 [some (.ref a0), some (.int x1), some (.ref a2), some (.int x3), some (.int x4), none, none, none] [] f 0 0 := by
  unfold B_Mo_isSource_0 at h
  refine s_ic 0 l_Mo_isSource_0 rfl ?_
  refine s_is l_Mo_isSource_1 (Nat.le_of_ble_eq_true rfl) ?_
  refine s_ic 0 l_Mo_isSource_3 rfl ?_
  refine s_is l_Mo_isSource_4 (Nat.le_of_ble_eq_true rfl) ?_
  exact h
def B_Mo_isSource_6 (d : Nat) (E : Option Value → xH → Prop) (f : xH) (a0 : Nat) (x1 : Int32) (a2 : Nat) (x3 : Int32) (x4 : Int32) (x5 : Int32) (x6 : Int32) (u7 : Option Value) : Prop :=
  xgr f a0 11 22 (fun r1 => xal f r1 0 x1 (fun v2 => xbr (v2 ≤ x6) ((x5 = 0 ∨ x5 = 1) ∧ E (some (.int x5)) f) (xbr (¬ x5 = 0) (xWp (xT0, xSp xT0 d, none, m_Mo_isSource, E) 6 [some (.ref a0), some (.int x1), some (.ref a2), some (.int x3), some (.int x4), some (.int 1), some (.int (x6 + 1)), some (.int ((24 * x1) + x6))] [] f 0 0) (xgr f a0 11 31 (fun r3 => xal f r3 1 x6 (fun v4 => xbr (v4 = 0) (xWp (xT0, xSp xT0 d, none, m_Mo_isSource, E) 6 [some (.ref a0), some (.int x1), some (.ref a2), some (.int x3), some (.int x4), some (.int 0), some (.int (x6 + 1)), some (.int ((24 * x1) + x6))] [] f 0 0) (xgr f a0 11 11 (fun r5 => xal f r5 0 ((24 * x1) + x6) (fun v6 => xbr (v6 = 0) (xWp (xT0, xSp xT0 d, none, m_Mo_isSource, E) 6 [some (.ref a0), some (.int x1), some (.ref a2), some (.int x3), some (.int x4), some (.int 0), some (.int (x6 + 1)), some (.int ((24 * x1) + x6))] [] f 0 0) (xgr f a0 11 14 (fun r7 => xgr f a0 11 15 (fun r8 => xal f r8 0 ((24 * x1) + x6) (fun v9 => xSp xT0 d j_Mo_order [.ref r7, .int (18 * ((24 * x1) + x6)), .int v9, .ref a2, .int x3, .int x4] f (fun w10 f11 => xvi w10 (fun v12 => xbr (¬ v12 = 0) (xWp (xT0, xSp xT0 d, none, m_Mo_isSource, E) 6 [some (.ref a0), some (.int x1), some (.ref a2), some (.int x3), some (.int x4), some (.int 0), some (.int (x6 + 1)), some (.int ((24 * x1) + x6))] [] f11 0 0) (xWp (xT0, xSp xT0 d, none, m_Mo_isSource, E) 6 [some (.ref a0), some (.int x1), some (.ref a2), some (.int x3), some (.int x4), some (.int 1), some (.int (x6 + 1)), some (.int ((24 * x1) + x6))] [] f11 0 0))))))))))))))))
theorem b_Mo_isSource_6 {d : Nat} {E : Option Value → xH → Prop} {f : xH} {a0 : Nat} {x1 : Int32} {a2 : Nat} {x3 : Int32} {x4 : Int32} {x5 : Int32} {x6 : Int32} {u7 : Option Value} (h : B_Mo_isSource_6 d E f a0 x1 a2 x3 x4 x5 x6 u7) : xWp (xT0, xSp xT0 d, none, m_Mo_isSource, E) 6 [some (.ref a0), some (.int x1), some (.ref a2), some (.int x3), some (.int x4), some (.int x5), some (.int x6), u7] [] f 0 0 := by
  unfold B_Mo_isSource_6 at h
  refine s_il l_Mo_isSource_6 rfl ?_
  refine s_aln l_Mo_isSource_8 rfl ?_
  refine s_gr l_Mo_isSource_9 h (fun r1 h => ?_)
  refine s_iln l_Mo_isSource_12 rfl ?_
  refine s_ial l_Mo_isSource_13 rfl h (fun v2 h => ?_)
  refine s_ifc l_Mo_isSource_14 h (fun h => ?_) (fun h => ?_)
  · refine s_il l_Mo_isSource_90 rfl ?_
    exact s_zret l_Mo_isSource_92 rfl ⟨Nat.zero_le _, Nat.zero_le _⟩ h
  · refine s_bp 24 l_Mo_isSource_17 rfl ?_
    refine s_iln l_Mo_isSource_19 rfl ?_
    refine s_imul l_Mo_isSource_20 ?_
    refine s_il l_Mo_isSource_21 rfl ?_
    refine s_iadd l_Mo_isSource_23 ?_
    refine s_is l_Mo_isSource_24 (Nat.le_of_ble_eq_true rfl) ?_
    refine s_il l_Mo_isSource_26 rfl ?_
    refine s_if l_Mo_isSource_28 h (fun h => ?_) (fun h => ?_)
    · refine s_ic 1 l_Mo_isSource_77 rfl ?_
      refine s_goto l_Mo_isSource_78 ?_
      refine s_is l_Mo_isSource_82 (Nat.le_of_ble_eq_true rfl) ?_
      refine s_inc 1 l_Mo_isSource_84 rfl rfl ?_
      refine s_goto l_Mo_isSource_87 ?_
      exact h
    · refine s_aln l_Mo_isSource_31 rfl ?_
      refine s_gr l_Mo_isSource_32 h (fun r3 h => ?_)
      refine s_il l_Mo_isSource_35 rfl ?_
      refine s_bal l_Mo_isSource_37 (Or.inl rfl) h (fun v4 h => ?_)
      refine s_if l_Mo_isSource_38 h (fun h => ?_) (fun h => ?_)
      · refine s_ic 0 l_Mo_isSource_81 rfl ?_
        refine s_is l_Mo_isSource_82 (Nat.le_of_ble_eq_true rfl) ?_
        refine s_inc 1 l_Mo_isSource_84 rfl rfl ?_
        refine s_goto l_Mo_isSource_87 ?_
        exact h
      · refine s_aln l_Mo_isSource_41 rfl ?_
        refine s_gr l_Mo_isSource_42 h (fun r5 h => ?_)
        refine s_il l_Mo_isSource_45 rfl ?_
        refine s_ial l_Mo_isSource_47 rfl h (fun v6 h => ?_)
        refine s_if l_Mo_isSource_48 h (fun h => ?_) (fun h => ?_)
        · refine s_ic 0 l_Mo_isSource_81 rfl ?_
          refine s_is l_Mo_isSource_82 (Nat.le_of_ble_eq_true rfl) ?_
          refine s_inc 1 l_Mo_isSource_84 rfl rfl ?_
          refine s_goto l_Mo_isSource_87 ?_
          exact h
        · refine s_aln l_Mo_isSource_51 rfl ?_
          refine s_gr l_Mo_isSource_52 h (fun r7 h => ?_)
          refine s_bp 18 l_Mo_isSource_55 rfl ?_
          refine s_il l_Mo_isSource_57 rfl ?_
          refine s_imul l_Mo_isSource_59 ?_
          refine s_aln l_Mo_isSource_60 rfl ?_
          refine s_gr l_Mo_isSource_61 h (fun r8 h => ?_)
          refine s_il l_Mo_isSource_64 rfl ?_
          refine s_ial l_Mo_isSource_66 rfl h (fun v9 h => ?_)
          refine s_aln l_Mo_isSource_67 rfl ?_
          refine s_iln l_Mo_isSource_68 rfl ?_
          refine s_il l_Mo_isSource_69 rfl ?_
          refine s_csi (As := [.ref r7, .int (18 * ((24 * x1) + x6)), .int v9, .ref a2, .int x3, .int x4]) (r := []) l_Mo_isSource_71 rfl ⟨rfl, rfl⟩ rfl (Nat.le_of_ble_eq_true rfl) rfl ⟨Nat.zero_le _, Nat.zero_le _⟩ h (fun v12 f11 h => ?_)
          refine s_if l_Mo_isSource_74 h (fun h => ?_) (fun h => ?_)
          · refine s_ic 0 l_Mo_isSource_81 rfl ?_
            refine s_is l_Mo_isSource_82 (Nat.le_of_ble_eq_true rfl) ?_
            refine s_inc 1 l_Mo_isSource_84 rfl rfl ?_
            refine s_goto l_Mo_isSource_87 ?_
            exact h
          · refine s_ic 1 l_Mo_isSource_77 rfl ?_
            refine s_goto l_Mo_isSource_78 ?_
            refine s_is l_Mo_isSource_82 (Nat.le_of_ble_eq_true rfl) ?_
            refine s_inc 1 l_Mo_isSource_84 rfl rfl ?_
            refine s_goto l_Mo_isSource_87 ?_
            exact h
theorem l_Mo_makeTree_0 : xlk (xm_cd m_Mo_makeTree) 0 = some (.aload_n 0, 1, (0, 0, 0, [])) := rfl
theorem l_Mo_makeTree_1 : xlk (xm_cd m_Mo_makeTree) 1 = some (.getfield 152, 3, (859, 11, 10, [])) := rfl
theorem l_Mo_makeTree_4 : xlk (xm_cd m_Mo_makeTree) 4 = some (.istore_n 3, 1, (0, 0, 0, [])) := rfl
theorem l_Mo_makeTree_5 : xlk (xm_cd m_Mo_makeTree) 5 = some (.aload_n 0, 1, (0, 0, 0, [])) := rfl
theorem l_Mo_makeTree_6 : xlk (xm_cd m_Mo_makeTree) 6 = some (.getfield 33, 3, (858, 11, 9, [])) := rfl
theorem l_Mo_makeTree_9 : xlk (xm_cd m_Mo_makeTree) 9 = some (.iload_n 3, 1, (0, 0, 0, [])) := rfl
theorem l_Mo_makeTree_10 : xlk (xm_cd m_Mo_makeTree) 10 = some (.iconst 0, 1, (0, 0, 0, [])) := rfl
theorem l_Mo_makeTree_11 : xlk (xm_cd m_Mo_makeTree) 11 = some (.iastore, 1, (0, 0, 0, [])) := rfl
theorem l_Mo_makeTree_12 : xlk (xm_cd m_Mo_makeTree) 12 = some (.iconst 0, 1, (0, 0, 0, [])) := rfl
theorem l_Mo_makeTree_13 : xlk (xm_cd m_Mo_makeTree) 13 = some (.istore 4, 2, (0, 0, 0, [])) := rfl
theorem l_Mo_makeTree_15 : xlk (xm_cd m_Mo_makeTree) 15 = some (.iconst 0, 1, (0, 0, 0, [])) := rfl
theorem l_Mo_makeTree_16 : xlk (xm_cd m_Mo_makeTree) 16 = some (.istore 5, 2, (0, 0, 0, [])) := rfl
theorem l_Mo_makeTree_18 : xlk (xm_cd m_Mo_makeTree) 18 = some (.iload 5, 2, (0, 0, 0, [])) := rfl
theorem l_Mo_makeTree_20 : xlk (xm_cd m_Mo_makeTree) 20 = some (.aload_n 0, 1, (0, 0, 0, [])) := rfl
theorem l_Mo_makeTree_21 : xlk (xm_cd m_Mo_makeTree) 21 = some (.getfield 33, 3, (858, 11, 9, [])) := rfl
theorem l_Mo_makeTree_24 : xlk (xm_cd m_Mo_makeTree) 24 = some (.iload_n 2, 1, (0, 0, 0, [])) := rfl
theorem l_Mo_makeTree_25 : xlk (xm_cd m_Mo_makeTree) 25 = some (.iaload, 1, (0, 0, 0, [])) := rfl
theorem l_Mo_makeTree_26 : xlk (xm_cd m_Mo_makeTree) 26 = some (.if_icmp .ge 52, 3, (0, 78, 0, [])) := rfl
theorem l_Mo_makeTree_29 : xlk (xm_cd m_Mo_makeTree) 29 = some (.iload_n 2, 1, (0, 0, 0, [])) := rfl
theorem l_Mo_makeTree_30 : xlk (xm_cd m_Mo_makeTree) 30 = some (.iload 5, 2, (0, 0, 0, [])) := rfl
theorem l_Mo_makeTree_32 : xlk (xm_cd m_Mo_makeTree) 32 = some (.invokestatic 155, 3, (971, 152, 2, [])) := rfl
theorem l_Mo_makeTree_35 : xlk (xm_cd m_Mo_makeTree) 35 = some (.istore 6, 2, (0, 0, 0, [])) := rfl
theorem l_Mo_makeTree_37 : xlk (xm_cd m_Mo_makeTree) 37 = some (.aload_n 0, 1, (0, 0, 0, [])) := rfl
theorem l_Mo_makeTree_38 : xlk (xm_cd m_Mo_makeTree) 38 = some (.iload_n 1, 1, (0, 0, 0, [])) := rfl
theorem l_Mo_makeTree_39 : xlk (xm_cd m_Mo_makeTree) 39 = some (.aload_n 0, 1, (0, 0, 0, [])) := rfl
theorem l_Mo_makeTree_40 : xlk (xm_cd m_Mo_makeTree) 40 = some (.getfield 20, 3, (854, 11, 5, [])) := rfl
theorem l_Mo_makeTree_43 : xlk (xm_cd m_Mo_makeTree) 43 = some (.bipush 18, 2, (0, 0, 0, [])) := rfl
theorem l_Mo_makeTree_45 : xlk (xm_cd m_Mo_makeTree) 45 = some (.iload 6, 2, (0, 0, 0, [])) := rfl
theorem l_Mo_makeTree_47 : xlk (xm_cd m_Mo_makeTree) 47 = some (.imul, 1, (0, 0, 0, [])) := rfl
theorem l_Mo_makeTree_48 : xlk (xm_cd m_Mo_makeTree) 48 = some (.aload_n 0, 1, (0, 0, 0, [])) := rfl
theorem l_Mo_makeTree_49 : xlk (xm_cd m_Mo_makeTree) 49 = some (.getfield 23, 3, (855, 11, 6, [])) := rfl
theorem l_Mo_makeTree_52 : xlk (xm_cd m_Mo_makeTree) 52 = some (.iload 6, 2, (0, 0, 0, [])) := rfl
theorem l_Mo_makeTree_54 : xlk (xm_cd m_Mo_makeTree) 54 = some (.iaload, 1, (0, 0, 0, [])) := rfl
theorem l_Mo_makeTree_55 : xlk (xm_cd m_Mo_makeTree) 55 = some (.invokevirtual 279, 3, (1113, 194, 4, [])) := rfl
theorem l_Mo_makeTree_58 : xlk (xm_cd m_Mo_makeTree) 58 = some (.ifCond .eq 8, 3, (0, 66, 0, [])) := rfl
theorem l_Mo_makeTree_61 : xlk (xm_cd m_Mo_makeTree) 61 = some (.iload 4, 2, (0, 0, 0, [])) := rfl
theorem l_Mo_makeTree_63 : xlk (xm_cd m_Mo_makeTree) 63 = some (.goto 7, 3, (0, 70, 0, [])) := rfl
theorem l_Mo_makeTree_66 : xlk (xm_cd m_Mo_makeTree) 66 = some (.iload 4, 2, (0, 0, 0, [])) := rfl
theorem l_Mo_makeTree_68 : xlk (xm_cd m_Mo_makeTree) 68 = some (.iconst 1, 1, (0, 0, 0, [])) := rfl
theorem l_Mo_makeTree_69 : xlk (xm_cd m_Mo_makeTree) 69 = some (.iadd, 1, (0, 0, 0, [])) := rfl
theorem l_Mo_makeTree_70 : xlk (xm_cd m_Mo_makeTree) 70 = some (.istore 4, 2, (0, 0, 0, [])) := rfl
theorem l_Mo_makeTree_72 : xlk (xm_cd m_Mo_makeTree) 72 = some (.iinc 5 1, 3, (0, 0, 0, [])) := rfl
theorem l_Mo_makeTree_75 : xlk (xm_cd m_Mo_makeTree) 75 = some (.goto (-57), 3, (0, 18, 0, [])) := rfl
theorem l_Mo_makeTree_78 : xlk (xm_cd m_Mo_makeTree) 78 = some (.iconst 0, 1, (0, 0, 0, [])) := rfl
theorem l_Mo_makeTree_79 : xlk (xm_cd m_Mo_makeTree) 79 = some (.istore 5, 2, (0, 0, 0, [])) := rfl
theorem l_Mo_makeTree_81 : xlk (xm_cd m_Mo_makeTree) 81 = some (.iload 5, 2, (0, 0, 0, [])) := rfl
theorem l_Mo_makeTree_83 : xlk (xm_cd m_Mo_makeTree) 83 = some (.aload_n 0, 1, (0, 0, 0, [])) := rfl
theorem l_Mo_makeTree_84 : xlk (xm_cd m_Mo_makeTree) 84 = some (.getfield 69, 3, (871, 11, 22, [])) := rfl
theorem l_Mo_makeTree_87 : xlk (xm_cd m_Mo_makeTree) 87 = some (.iload_n 1, 1, (0, 0, 0, [])) := rfl
theorem l_Mo_makeTree_88 : xlk (xm_cd m_Mo_makeTree) 88 = some (.iaload, 1, (0, 0, 0, [])) := rfl
theorem l_Mo_makeTree_89 : xlk (xm_cd m_Mo_makeTree) 89 = some (.if_icmp .ge 46, 3, (0, 135, 0, [])) := rfl
theorem l_Mo_makeTree_92 : xlk (xm_cd m_Mo_makeTree) 92 = some (.aload_n 0, 1, (0, 0, 0, [])) := rfl
theorem l_Mo_makeTree_93 : xlk (xm_cd m_Mo_makeTree) 93 = some (.getfield 87, 3, (880, 11, 31, [])) := rfl
theorem l_Mo_makeTree_96 : xlk (xm_cd m_Mo_makeTree) 96 = some (.iload 5, 2, (0, 0, 0, [])) := rfl
theorem l_Mo_makeTree_98 : xlk (xm_cd m_Mo_makeTree) 98 = some (.baload, 1, (0, 0, 0, [])) := rfl
theorem l_Mo_makeTree_99 : xlk (xm_cd m_Mo_makeTree) 99 = some (.ifCond .eq 26, 3, (0, 125, 0, [])) := rfl
theorem l_Mo_makeTree_102 : xlk (xm_cd m_Mo_makeTree) 102 = some (.aload_n 0, 1, (0, 0, 0, [])) := rfl
theorem l_Mo_makeTree_103 : xlk (xm_cd m_Mo_makeTree) 103 = some (.getfield 36, 3, (860, 11, 11, [])) := rfl
theorem l_Mo_makeTree_106 : xlk (xm_cd m_Mo_makeTree) 106 = some (.bipush 24, 2, (0, 0, 0, [])) := rfl
theorem l_Mo_makeTree_108 : xlk (xm_cd m_Mo_makeTree) 108 = some (.iload_n 1, 1, (0, 0, 0, [])) := rfl
theorem l_Mo_makeTree_109 : xlk (xm_cd m_Mo_makeTree) 109 = some (.imul, 1, (0, 0, 0, [])) := rfl
theorem l_Mo_makeTree_110 : xlk (xm_cd m_Mo_makeTree) 110 = some (.iload 5, 2, (0, 0, 0, [])) := rfl
theorem l_Mo_makeTree_112 : xlk (xm_cd m_Mo_makeTree) 112 = some (.iadd, 1, (0, 0, 0, [])) := rfl
theorem l_Mo_makeTree_113 : xlk (xm_cd m_Mo_makeTree) 113 = some (.iaload, 1, (0, 0, 0, [])) := rfl
theorem l_Mo_makeTree_114 : xlk (xm_cd m_Mo_makeTree) 114 = some (.iconst 1, 1, (0, 0, 0, [])) := rfl
theorem l_Mo_makeTree_115 : xlk (xm_cd m_Mo_makeTree) 115 = some (.if_icmp .eq 10, 3, (0, 125, 0, [])) := rfl
theorem l_Mo_makeTree_118 : xlk (xm_cd m_Mo_makeTree) 118 = some (.iload 4, 2, (0, 0, 0, [])) := rfl
theorem l_Mo_makeTree_120 : xlk (xm_cd m_Mo_makeTree) 120 = some (.iconst 1, 1, (0, 0, 0, [])) := rfl
theorem l_Mo_makeTree_121 : xlk (xm_cd m_Mo_makeTree) 121 = some (.iadd, 1, (0, 0, 0, [])) := rfl
theorem l_Mo_makeTree_122 : xlk (xm_cd m_Mo_makeTree) 122 = some (.goto 5, 3, (0, 127, 0, [])) := rfl
theorem l_Mo_makeTree_125 : xlk (xm_cd m_Mo_makeTree) 125 = some (.iload 4, 2, (0, 0, 0, [])) := rfl
theorem l_Mo_makeTree_127 : xlk (xm_cd m_Mo_makeTree) 127 = some (.istore 4, 2, (0, 0, 0, [])) := rfl
theorem l_Mo_makeTree_129 : xlk (xm_cd m_Mo_makeTree) 129 = some (.iinc 5 1, 3, (0, 0, 0, [])) := rfl
theorem l_Mo_makeTree_132 : xlk (xm_cd m_Mo_makeTree) 132 = some (.goto (-51), 3, (0, 81, 0, [])) := rfl
theorem l_Mo_makeTree_135 : xlk (xm_cd m_Mo_makeTree) 135 = some (.iload 4, 2, (0, 0, 0, [])) := rfl
theorem l_Mo_makeTree_137 : xlk (xm_cd m_Mo_makeTree) 137 = some (.bipush 10, 2, (0, 0, 0, [])) := rfl
theorem l_Mo_makeTree_139 : xlk (xm_cd m_Mo_makeTree) 139 = some (.if_icmp .le 5, 3, (0, 144, 0, [])) := rfl
theorem l_Mo_makeTree_142 : xlk (xm_cd m_Mo_makeTree) 142 = some (.iconst 0, 1, (0, 0, 0, [])) := rfl
theorem l_Mo_makeTree_143 : xlk (xm_cd m_Mo_makeTree) 143 = some (.ireturn, 1, (0, 0, 0, [])) := rfl
theorem l_Mo_makeTree_144 : xlk (xm_cd m_Mo_makeTree) 144 = some (.iconst 0, 1, (0, 0, 0, [])) := rfl
theorem l_Mo_makeTree_145 : xlk (xm_cd m_Mo_makeTree) 145 = some (.istore 5, 2, (0, 0, 0, [])) := rfl
set_option maxRecDepth 20000 in
theorem l_Mo_makeTree_147 : xlk (xm_cd m_Mo_makeTree) 147 = some (.iload 5, 2, (0, 0, 0, [])) := rfl
set_option maxRecDepth 20000 in
theorem l_Mo_makeTree_149 : xlk (xm_cd m_Mo_makeTree) 149 = some (.aload_n 0, 1, (0, 0, 0, [])) := rfl
set_option maxRecDepth 20000 in
theorem l_Mo_makeTree_150 : xlk (xm_cd m_Mo_makeTree) 150 = some (.getfield 33, 3, (858, 11, 9, [])) := rfl
set_option maxRecDepth 20000 in
theorem l_Mo_makeTree_153 : xlk (xm_cd m_Mo_makeTree) 153 = some (.iload_n 2, 1, (0, 0, 0, [])) := rfl
set_option maxRecDepth 20000 in
theorem l_Mo_makeTree_154 : xlk (xm_cd m_Mo_makeTree) 154 = some (.iaload, 1, (0, 0, 0, [])) := rfl
set_option maxRecDepth 20000 in
theorem l_Mo_makeTree_155 : xlk (xm_cd m_Mo_makeTree) 155 = some (.if_icmp .ge 78, 3, (0, 233, 0, [])) := rfl
set_option maxRecDepth 20000 in
theorem l_Mo_makeTree_158 : xlk (xm_cd m_Mo_makeTree) 158 = some (.iload_n 2, 1, (0, 0, 0, [])) := rfl
set_option maxRecDepth 20000 in
theorem l_Mo_makeTree_159 : xlk (xm_cd m_Mo_makeTree) 159 = some (.iload 5, 2, (0, 0, 0, [])) := rfl
set_option maxRecDepth 20000 in
theorem l_Mo_makeTree_161 : xlk (xm_cd m_Mo_makeTree) 161 = some (.invokestatic 155, 3, (971, 152, 2, [])) := rfl
set_option maxRecDepth 20000 in
theorem l_Mo_makeTree_164 : xlk (xm_cd m_Mo_makeTree) 164 = some (.istore 6, 2, (0, 0, 0, [])) := rfl
set_option maxRecDepth 20000 in
theorem l_Mo_makeTree_166 : xlk (xm_cd m_Mo_makeTree) 166 = some (.aload_n 0, 1, (0, 0, 0, [])) := rfl
set_option maxRecDepth 20000 in
theorem l_Mo_makeTree_167 : xlk (xm_cd m_Mo_makeTree) 167 = some (.iload_n 1, 1, (0, 0, 0, [])) := rfl
set_option maxRecDepth 20000 in
theorem l_Mo_makeTree_168 : xlk (xm_cd m_Mo_makeTree) 168 = some (.aload_n 0, 1, (0, 0, 0, [])) := rfl
set_option maxRecDepth 20000 in
theorem l_Mo_makeTree_169 : xlk (xm_cd m_Mo_makeTree) 169 = some (.getfield 20, 3, (854, 11, 5, [])) := rfl
set_option maxRecDepth 20000 in
theorem l_Mo_makeTree_172 : xlk (xm_cd m_Mo_makeTree) 172 = some (.bipush 18, 2, (0, 0, 0, [])) := rfl
set_option maxRecDepth 20000 in
theorem l_Mo_makeTree_174 : xlk (xm_cd m_Mo_makeTree) 174 = some (.iload 6, 2, (0, 0, 0, [])) := rfl
set_option maxRecDepth 20000 in
theorem l_Mo_makeTree_176 : xlk (xm_cd m_Mo_makeTree) 176 = some (.imul, 1, (0, 0, 0, [])) := rfl
set_option maxRecDepth 20000 in
theorem l_Mo_makeTree_177 : xlk (xm_cd m_Mo_makeTree) 177 = some (.aload_n 0, 1, (0, 0, 0, [])) := rfl
set_option maxRecDepth 20000 in
theorem l_Mo_makeTree_178 : xlk (xm_cd m_Mo_makeTree) 178 = some (.getfield 23, 3, (855, 11, 6, [])) := rfl
set_option maxRecDepth 20000 in
theorem l_Mo_makeTree_181 : xlk (xm_cd m_Mo_makeTree) 181 = some (.iload 6, 2, (0, 0, 0, [])) := rfl
set_option maxRecDepth 20000 in
theorem l_Mo_makeTree_183 : xlk (xm_cd m_Mo_makeTree) 183 = some (.iaload, 1, (0, 0, 0, [])) := rfl
set_option maxRecDepth 20000 in
theorem l_Mo_makeTree_184 : xlk (xm_cd m_Mo_makeTree) 184 = some (.invokevirtual 279, 3, (1113, 194, 4, [])) := rfl
set_option maxRecDepth 20000 in
theorem l_Mo_makeTree_187 : xlk (xm_cd m_Mo_makeTree) 187 = some (.ifCond .ne 40, 3, (0, 227, 0, [])) := rfl
set_option maxRecDepth 20000 in
theorem l_Mo_makeTree_190 : xlk (xm_cd m_Mo_makeTree) 190 = some (.aload_n 0, 1, (0, 0, 0, [])) := rfl
set_option maxRecDepth 20000 in
theorem l_Mo_makeTree_191 : xlk (xm_cd m_Mo_makeTree) 191 = some (.iload_n 3, 1, (0, 0, 0, [])) := rfl
set_option maxRecDepth 20000 in
theorem l_Mo_makeTree_192 : xlk (xm_cd m_Mo_makeTree) 192 = some (.aload_n 0, 1, (0, 0, 0, [])) := rfl
set_option maxRecDepth 20000 in
theorem l_Mo_makeTree_193 : xlk (xm_cd m_Mo_makeTree) 193 = some (.getfield 20, 3, (854, 11, 5, [])) := rfl
set_option maxRecDepth 20000 in
theorem l_Mo_makeTree_196 : xlk (xm_cd m_Mo_makeTree) 196 = some (.bipush 18, 2, (0, 0, 0, [])) := rfl
set_option maxRecDepth 20000 in
theorem l_Mo_makeTree_198 : xlk (xm_cd m_Mo_makeTree) 198 = some (.iload 6, 2, (0, 0, 0, [])) := rfl
set_option maxRecDepth 20000 in
theorem l_Mo_makeTree_200 : xlk (xm_cd m_Mo_makeTree) 200 = some (.imul, 1, (0, 0, 0, [])) := rfl
set_option maxRecDepth 20000 in
theorem l_Mo_makeTree_201 : xlk (xm_cd m_Mo_makeTree) 201 = some (.aload_n 0, 1, (0, 0, 0, [])) := rfl
set_option maxRecDepth 20000 in
theorem l_Mo_makeTree_202 : xlk (xm_cd m_Mo_makeTree) 202 = some (.getfield 23, 3, (855, 11, 6, [])) := rfl
set_option maxRecDepth 20000 in
theorem l_Mo_makeTree_205 : xlk (xm_cd m_Mo_makeTree) 205 = some (.iload 6, 2, (0, 0, 0, [])) := rfl
set_option maxRecDepth 20000 in
theorem l_Mo_makeTree_207 : xlk (xm_cd m_Mo_makeTree) 207 = some (.iaload, 1, (0, 0, 0, [])) := rfl
set_option maxRecDepth 20000 in
theorem l_Mo_makeTree_208 : xlk (xm_cd m_Mo_makeTree) 208 = some (.aload_n 0, 1, (0, 0, 0, [])) := rfl
set_option maxRecDepth 20000 in
theorem l_Mo_makeTree_209 : xlk (xm_cd m_Mo_makeTree) 209 = some (.getfield 27, 3, (856, 11, 7, [])) := rfl
set_option maxRecDepth 20000 in
theorem l_Mo_makeTree_212 : xlk (xm_cd m_Mo_makeTree) 212 = some (.bipush 48, 2, (0, 0, 0, [])) := rfl
set_option maxRecDepth 20000 in
theorem l_Mo_makeTree_214 : xlk (xm_cd m_Mo_makeTree) 214 = some (.iload 6, 2, (0, 0, 0, [])) := rfl
set_option maxRecDepth 20000 in
theorem l_Mo_makeTree_216 : xlk (xm_cd m_Mo_makeTree) 216 = some (.imul, 1, (0, 0, 0, [])) := rfl
set_option maxRecDepth 20000 in
theorem l_Mo_makeTree_217 : xlk (xm_cd m_Mo_makeTree) 217 = some (.aload_n 0, 1, (0, 0, 0, [])) := rfl
set_option maxRecDepth 20000 in
theorem l_Mo_makeTree_218 : xlk (xm_cd m_Mo_makeTree) 218 = some (.getfield 30, 3, (857, 11, 8, [])) := rfl
set_option maxRecDepth 20000 in
theorem l_Mo_makeTree_221 : xlk (xm_cd m_Mo_makeTree) 221 = some (.iload 6, 2, (0, 0, 0, [])) := rfl
set_option maxRecDepth 20000 in
theorem l_Mo_makeTree_223 : xlk (xm_cd m_Mo_makeTree) 223 = some (.iaload, 1, (0, 0, 0, [])) := rfl
set_option maxRecDepth 20000 in
theorem l_Mo_makeTree_224 : xlk (xm_cd m_Mo_makeTree) 224 = some (.invokevirtual 182, 3, (999, 161, 7, [])) := rfl
set_option maxRecDepth 20000 in
theorem l_Mo_makeTree_227 : xlk (xm_cd m_Mo_makeTree) 227 = some (.iinc 5 1, 3, (0, 0, 0, [])) := rfl
set_option maxRecDepth 20000 in
theorem l_Mo_makeTree_230 : xlk (xm_cd m_Mo_makeTree) 230 = some (.goto (-83), 3, (0, 147, 0, [])) := rfl
set_option maxRecDepth 20000 in
theorem l_Mo_makeTree_233 : xlk (xm_cd m_Mo_makeTree) 233 = some (.iconst 0, 1, (0, 0, 0, [])) := rfl
set_option maxRecDepth 20000 in
theorem l_Mo_makeTree_234 : xlk (xm_cd m_Mo_makeTree) 234 = some (.istore 5, 2, (0, 0, 0, [])) := rfl
set_option maxRecDepth 20000 in
theorem l_Mo_makeTree_236 : xlk (xm_cd m_Mo_makeTree) 236 = some (.iload 5, 2, (0, 0, 0, [])) := rfl
set_option maxRecDepth 20000 in
theorem l_Mo_makeTree_238 : xlk (xm_cd m_Mo_makeTree) 238 = some (.aload_n 0, 1, (0, 0, 0, [])) := rfl
set_option maxRecDepth 20000 in
theorem l_Mo_makeTree_239 : xlk (xm_cd m_Mo_makeTree) 239 = some (.getfield 69, 3, (871, 11, 22, [])) := rfl
set_option maxRecDepth 20000 in
theorem l_Mo_makeTree_242 : xlk (xm_cd m_Mo_makeTree) 242 = some (.iload_n 1, 1, (0, 0, 0, [])) := rfl
set_option maxRecDepth 20000 in
theorem l_Mo_makeTree_243 : xlk (xm_cd m_Mo_makeTree) 243 = some (.iaload, 1, (0, 0, 0, [])) := rfl
set_option maxRecDepth 20000 in
theorem l_Mo_makeTree_244 : xlk (xm_cd m_Mo_makeTree) 244 = some (.if_icmp .ge 112, 3, (0, 356, 0, [])) := rfl
set_option maxRecDepth 20000 in
theorem l_Mo_makeTree_247 : xlk (xm_cd m_Mo_makeTree) 247 = some (.bipush 24, 2, (0, 0, 0, [])) := rfl
set_option maxRecDepth 20000 in
theorem l_Mo_makeTree_249 : xlk (xm_cd m_Mo_makeTree) 249 = some (.iload_n 1, 1, (0, 0, 0, [])) := rfl
set_option maxRecDepth 20000 in
theorem l_Mo_makeTree_250 : xlk (xm_cd m_Mo_makeTree) 250 = some (.imul, 1, (0, 0, 0, [])) := rfl
set_option maxRecDepth 20000 in
theorem l_Mo_makeTree_251 : xlk (xm_cd m_Mo_makeTree) 251 = some (.iload 5, 2, (0, 0, 0, [])) := rfl
set_option maxRecDepth 20000 in
theorem l_Mo_makeTree_253 : xlk (xm_cd m_Mo_makeTree) 253 = some (.iadd, 1, (0, 0, 0, [])) := rfl
set_option maxRecDepth 20000 in
theorem l_Mo_makeTree_254 : xlk (xm_cd m_Mo_makeTree) 254 = some (.istore 6, 2, (0, 0, 0, [])) := rfl
set_option maxRecDepth 20000 in
theorem l_Mo_makeTree_256 : xlk (xm_cd m_Mo_makeTree) 256 = some (.aload_n 0, 1, (0, 0, 0, [])) := rfl
set_option maxRecDepth 20000 in
theorem l_Mo_makeTree_257 : xlk (xm_cd m_Mo_makeTree) 257 = some (.getfield 87, 3, (880, 11, 31, [])) := rfl
set_option maxRecDepth 20000 in
theorem l_Mo_makeTree_260 : xlk (xm_cd m_Mo_makeTree) 260 = some (.iload 5, 2, (0, 0, 0, [])) := rfl
set_option maxRecDepth 20000 in
theorem l_Mo_makeTree_262 : xlk (xm_cd m_Mo_makeTree) 262 = some (.baload, 1, (0, 0, 0, [])) := rfl
set_option maxRecDepth 20000 in
theorem l_Mo_makeTree_263 : xlk (xm_cd m_Mo_makeTree) 263 = some (.ifCond .eq 87, 3, (0, 350, 0, [])) := rfl
set_option maxRecDepth 20000 in
theorem l_Mo_makeTree_266 : xlk (xm_cd m_Mo_makeTree) 266 = some (.aload_n 0, 1, (0, 0, 0, [])) := rfl
set_option maxRecDepth 20000 in
theorem l_Mo_makeTree_267 : xlk (xm_cd m_Mo_makeTree) 267 = some (.getfield 36, 3, (860, 11, 11, [])) := rfl
set_option maxRecDepth 20000 in
theorem l_Mo_makeTree_270 : xlk (xm_cd m_Mo_makeTree) 270 = some (.iload 6, 2, (0, 0, 0, [])) := rfl
set_option maxRecDepth 20000 in
theorem l_Mo_makeTree_272 : xlk (xm_cd m_Mo_makeTree) 272 = some (.iaload, 1, (0, 0, 0, [])) := rfl
set_option maxRecDepth 20000 in
theorem l_Mo_makeTree_273 : xlk (xm_cd m_Mo_makeTree) 273 = some (.iconst 1, 1, (0, 0, 0, [])) := rfl
set_option maxRecDepth 20000 in
theorem l_Mo_makeTree_274 : xlk (xm_cd m_Mo_makeTree) 274 = some (.if_icmp .eq 76, 3, (0, 350, 0, [])) := rfl
set_option maxRecDepth 20000 in
theorem l_Mo_makeTree_277 : xlk (xm_cd m_Mo_makeTree) 277 = some (.aload_n 0, 1, (0, 0, 0, [])) := rfl
set_option maxRecDepth 20000 in
theorem l_Mo_makeTree_278 : xlk (xm_cd m_Mo_makeTree) 278 = some (.iload 6, 2, (0, 0, 0, [])) := rfl
set_option maxRecDepth 20000 in
theorem l_Mo_makeTree_280 : xlk (xm_cd m_Mo_makeTree) 280 = some (.iload_n 2, 1, (0, 0, 0, [])) := rfl
set_option maxRecDepth 20000 in
theorem l_Mo_makeTree_281 : xlk (xm_cd m_Mo_makeTree) 281 = some (.invokevirtual 272, 3, (1107, 192, 2, [])) := rfl
set_option maxRecDepth 20000 in
theorem l_Mo_makeTree_284 : xlk (xm_cd m_Mo_makeTree) 284 = some (.istore 7, 2, (0, 0, 0, [])) := rfl
set_option maxRecDepth 20000 in
theorem l_Mo_makeTree_286 : xlk (xm_cd m_Mo_makeTree) 286 = some (.aload_n 0, 1, (0, 0, 0, [])) := rfl
set_option maxRecDepth 20000 in
theorem l_Mo_makeTree_287 : xlk (xm_cd m_Mo_makeTree) 287 = some (.iload 6, 2, (0, 0, 0, [])) := rfl
set_option maxRecDepth 20000 in
theorem l_Mo_makeTree_289 : xlk (xm_cd m_Mo_makeTree) 289 = some (.aload_n 0, 1, (0, 0, 0, [])) := rfl
set_option maxRecDepth 20000 in
theorem l_Mo_makeTree_290 : xlk (xm_cd m_Mo_makeTree) 290 = some (.getfield 27, 3, (856, 11, 7, [])) := rfl
set_option maxRecDepth 20000 in
theorem l_Mo_makeTree_293 : xlk (xm_cd m_Mo_makeTree) 293 = some (.iload 7, 2, (0, 0, 0, [])) := rfl
set_option maxRecDepth 20000 in
theorem l_Mo_makeTree_295 : xlk (xm_cd m_Mo_makeTree) 295 = some (.bipush (-2), 2, (0, 0, 0, [])) := rfl
set_option maxRecDepth 20000 in
theorem l_Mo_makeTree_297 : xlk (xm_cd m_Mo_makeTree) 297 = some (.if_icmp .ne 7, 3, (0, 304, 0, [])) := rfl
set_option maxRecDepth 20000 in
theorem l_Mo_makeTree_300 : xlk (xm_cd m_Mo_makeTree) 300 = some (.iconst 0, 1, (0, 0, 0, [])) := rfl
set_option maxRecDepth 20000 in
theorem l_Mo_makeTree_301 : xlk (xm_cd m_Mo_makeTree) 301 = some (.goto 12, 3, (0, 313, 0, [])) := rfl
set_option maxRecDepth 20000 in
theorem l_Mo_makeTree_304 : xlk (xm_cd m_Mo_makeTree) 304 = some (.bipush 48, 2, (0, 0, 0, [])) := rfl
set_option maxRecDepth 20000 in
theorem l_Mo_makeTree_306 : xlk (xm_cd m_Mo_makeTree) 306 = some (.iload_n 2, 1, (0, 0, 0, [])) := rfl
set_option maxRecDepth 20000 in
theorem l_Mo_makeTree_307 : xlk (xm_cd m_Mo_makeTree) 307 = some (.iload 7, 2, (0, 0, 0, [])) := rfl
set_option maxRecDepth 20000 in
theorem l_Mo_makeTree_309 : xlk (xm_cd m_Mo_makeTree) 309 = some (.invokestatic 155, 3, (971, 152, 2, [])) := rfl
set_option maxRecDepth 20000 in
theorem l_Mo_makeTree_312 : xlk (xm_cd m_Mo_makeTree) 312 = some (.imul, 1, (0, 0, 0, [])) := rfl
set_option maxRecDepth 20000 in
theorem l_Mo_makeTree_313 : xlk (xm_cd m_Mo_makeTree) 313 = some (.iconst 0, 1, (0, 0, 0, [])) := rfl
set_option maxRecDepth 20000 in
theorem l_Mo_makeTree_314 : xlk (xm_cd m_Mo_makeTree) 314 = some (.invokevirtual 275, 3, (1110, 193, 4, [])) := rfl
set_option maxRecDepth 20000 in
theorem l_Mo_makeTree_317 : xlk (xm_cd m_Mo_makeTree) 317 = some (.aload_n 0, 1, (0, 0, 0, [])) := rfl
set_option maxRecDepth 20000 in
theorem l_Mo_makeTree_318 : xlk (xm_cd m_Mo_makeTree) 318 = some (.iload_n 3, 1, (0, 0, 0, [])) := rfl
set_option maxRecDepth 20000 in
theorem l_Mo_makeTree_319 : xlk (xm_cd m_Mo_makeTree) 319 = some (.aload_n 0, 1, (0, 0, 0, [])) := rfl
set_option maxRecDepth 20000 in
theorem l_Mo_makeTree_320 : xlk (xm_cd m_Mo_makeTree) 320 = some (.getfield 39, 3, (861, 11, 12, [])) := rfl
set_option maxRecDepth 20000 in
theorem l_Mo_makeTree_323 : xlk (xm_cd m_Mo_makeTree) 323 = some (.bipush 18, 2, (0, 0, 0, [])) := rfl
set_option maxRecDepth 20000 in
theorem l_Mo_makeTree_325 : xlk (xm_cd m_Mo_makeTree) 325 = some (.iload 6, 2, (0, 0, 0, [])) := rfl
set_option maxRecDepth 20000 in
theorem l_Mo_makeTree_327 : xlk (xm_cd m_Mo_makeTree) 327 = some (.imul, 1, (0, 0, 0, [])) := rfl
set_option maxRecDepth 20000 in
theorem l_Mo_makeTree_328 : xlk (xm_cd m_Mo_makeTree) 328 = some (.aload_n 0, 1, (0, 0, 0, [])) := rfl
set_option maxRecDepth 20000 in
theorem l_Mo_makeTree_329 : xlk (xm_cd m_Mo_makeTree) 329 = some (.getfield 42, 3, (862, 11, 13, [])) := rfl
set_option maxRecDepth 20000 in
theorem l_Mo_makeTree_332 : xlk (xm_cd m_Mo_makeTree) 332 = some (.iload 6, 2, (0, 0, 0, [])) := rfl
set_option maxRecDepth 20000 in
theorem l_Mo_makeTree_334 : xlk (xm_cd m_Mo_makeTree) 334 = some (.iaload, 1, (0, 0, 0, [])) := rfl
set_option maxRecDepth 20000 in
theorem l_Mo_makeTree_335 : xlk (xm_cd m_Mo_makeTree) 335 = some (.aload_n 0, 1, (0, 0, 0, [])) := rfl
set_option maxRecDepth 20000 in
theorem l_Mo_makeTree_336 : xlk (xm_cd m_Mo_makeTree) 336 = some (.getfield 97, 3, (884, 11, 35, [])) := rfl
set_option maxRecDepth 20000 in
theorem l_Mo_makeTree_339 : xlk (xm_cd m_Mo_makeTree) 339 = some (.iconst 0, 1, (0, 0, 0, [])) := rfl
set_option maxRecDepth 20000 in
theorem l_Mo_makeTree_340 : xlk (xm_cd m_Mo_makeTree) 340 = some (.aload_n 0, 1, (0, 0, 0, [])) := rfl
set_option maxRecDepth 20000 in
theorem l_Mo_makeTree_341 : xlk (xm_cd m_Mo_makeTree) 341 = some (.getfield 57, 3, (867, 11, 18, [])) := rfl
set_option maxRecDepth 20000 in
theorem l_Mo_makeTree_344 : xlk (xm_cd m_Mo_makeTree) 344 = some (.iload 6, 2, (0, 0, 0, [])) := rfl
set_option maxRecDepth 20000 in
theorem l_Mo_makeTree_346 : xlk (xm_cd m_Mo_makeTree) 346 = some (.iaload, 1, (0, 0, 0, [])) := rfl
set_option maxRecDepth 20000 in
theorem l_Mo_makeTree_347 : xlk (xm_cd m_Mo_makeTree) 347 = some (.invokevirtual 182, 3, (999, 161, 7, [])) := rfl
set_option maxRecDepth 20000 in
theorem l_Mo_makeTree_350 : xlk (xm_cd m_Mo_makeTree) 350 = some (.iinc 5 1, 3, (0, 0, 0, [])) := rfl
set_option maxRecDepth 20000 in
theorem l_Mo_makeTree_353 : xlk (xm_cd m_Mo_makeTree) 353 = some (.goto (-117), 3, (0, 236, 0, [])) := rfl
set_option maxRecDepth 20000 in
theorem l_Mo_makeTree_356 : xlk (xm_cd m_Mo_makeTree) 356 = some (.iconst 1, 1, (0, 0, 0, [])) := rfl
set_option maxRecDepth 20000 in
theorem l_Mo_makeTree_357 : xlk (xm_cd m_Mo_makeTree) 357 = some (.istore 5, 2, (0, 0, 0, [])) := rfl
set_option maxRecDepth 20000 in
theorem l_Mo_makeTree_359 : xlk (xm_cd m_Mo_makeTree) 359 = some (.iconst 0, 1, (0, 0, 0, [])) := rfl
set_option maxRecDepth 20000 in
theorem l_Mo_makeTree_360 : xlk (xm_cd m_Mo_makeTree) 360 = some (.istore 6, 2, (0, 0, 0, [])) := rfl
set_option maxRecDepth 20000 in
theorem l_Mo_makeTree_362 : xlk (xm_cd m_Mo_makeTree) 362 = some (.iload 6, 2, (0, 0, 0, [])) := rfl
set_option maxRecDepth 20000 in
theorem l_Mo_makeTree_364 : xlk (xm_cd m_Mo_makeTree) 364 = some (.aload_n 0, 1, (0, 0, 0, [])) := rfl
set_option maxRecDepth 20000 in
theorem l_Mo_makeTree_365 : xlk (xm_cd m_Mo_makeTree) 365 = some (.getfield 33, 3, (858, 11, 9, [])) := rfl
set_option maxRecDepth 20000 in
theorem l_Mo_makeTree_368 : xlk (xm_cd m_Mo_makeTree) 368 = some (.iload_n 3, 1, (0, 0, 0, [])) := rfl
set_option maxRecDepth 20000 in
theorem l_Mo_makeTree_369 : xlk (xm_cd m_Mo_makeTree) 369 = some (.iaload, 1, (0, 0, 0, [])) := rfl
set_option maxRecDepth 20000 in
theorem l_Mo_makeTree_370 : xlk (xm_cd m_Mo_makeTree) 370 = some (.if_icmp .ge 53, 3, (0, 423, 0, [])) := rfl
set_option maxRecDepth 20000 in
theorem l_Mo_makeTree_373 : xlk (xm_cd m_Mo_makeTree) 373 = some (.iload_n 3, 1, (0, 0, 0, [])) := rfl
set_option maxRecDepth 20000 in
theorem l_Mo_makeTree_374 : xlk (xm_cd m_Mo_makeTree) 374 = some (.iload 6, 2, (0, 0, 0, [])) := rfl
set_option maxRecDepth 20000 in
theorem l_Mo_makeTree_376 : xlk (xm_cd m_Mo_makeTree) 376 = some (.invokestatic 155, 3, (971, 152, 2, [])) := rfl
set_option maxRecDepth 20000 in
theorem l_Mo_makeTree_379 : xlk (xm_cd m_Mo_makeTree) 379 = some (.istore 7, 2, (0, 0, 0, [])) := rfl
set_option maxRecDepth 20000 in
theorem l_Mo_makeTree_381 : xlk (xm_cd m_Mo_makeTree) 381 = some (.iload 5, 2, (0, 0, 0, [])) := rfl
set_option maxRecDepth 20000 in
theorem l_Mo_makeTree_383 : xlk (xm_cd m_Mo_makeTree) 383 = some (.ifCond .eq 31, 3, (0, 414, 0, [])) := rfl
set_option maxRecDepth 20000 in
theorem l_Mo_makeTree_386 : xlk (xm_cd m_Mo_makeTree) 386 = some (.aload_n 0, 1, (0, 0, 0, [])) := rfl
set_option maxRecDepth 20000 in
theorem l_Mo_makeTree_387 : xlk (xm_cd m_Mo_makeTree) 387 = some (.iload_n 3, 1, (0, 0, 0, [])) := rfl
set_option maxRecDepth 20000 in
theorem l_Mo_makeTree_388 : xlk (xm_cd m_Mo_makeTree) 388 = some (.aload_n 0, 1, (0, 0, 0, [])) := rfl
set_option maxRecDepth 20000 in
theorem l_Mo_makeTree_389 : xlk (xm_cd m_Mo_makeTree) 389 = some (.getfield 20, 3, (854, 11, 5, [])) := rfl
set_option maxRecDepth 20000 in
theorem l_Mo_makeTree_392 : xlk (xm_cd m_Mo_makeTree) 392 = some (.bipush 18, 2, (0, 0, 0, [])) := rfl
set_option maxRecDepth 20000 in
theorem l_Mo_makeTree_394 : xlk (xm_cd m_Mo_makeTree) 394 = some (.iload 7, 2, (0, 0, 0, [])) := rfl
set_option maxRecDepth 20000 in
theorem l_Mo_makeTree_396 : xlk (xm_cd m_Mo_makeTree) 396 = some (.imul, 1, (0, 0, 0, [])) := rfl
set_option maxRecDepth 20000 in
theorem l_Mo_makeTree_397 : xlk (xm_cd m_Mo_makeTree) 397 = some (.aload_n 0, 1, (0, 0, 0, [])) := rfl
set_option maxRecDepth 20000 in
theorem l_Mo_makeTree_398 : xlk (xm_cd m_Mo_makeTree) 398 = some (.getfield 23, 3, (855, 11, 6, [])) := rfl
set_option maxRecDepth 20000 in
theorem l_Mo_makeTree_401 : xlk (xm_cd m_Mo_makeTree) 401 = some (.iload 7, 2, (0, 0, 0, [])) := rfl
set_option maxRecDepth 20000 in
theorem l_Mo_makeTree_403 : xlk (xm_cd m_Mo_makeTree) 403 = some (.iaload, 1, (0, 0, 0, [])) := rfl
set_option maxRecDepth 20000 in
theorem l_Mo_makeTree_404 : xlk (xm_cd m_Mo_makeTree) 404 = some (.invokevirtual 178, 3, (990, 158, 4, [])) := rfl
set_option maxRecDepth 20000 in
theorem l_Mo_makeTree_407 : xlk (xm_cd m_Mo_makeTree) 407 = some (.ifCond .ne 7, 3, (0, 414, 0, [])) := rfl
set_option maxRecDepth 20000 in
theorem l_Mo_makeTree_410 : xlk (xm_cd m_Mo_makeTree) 410 = some (.iconst 1, 1, (0, 0, 0, [])) := rfl
set_option maxRecDepth 20000 in
theorem l_Mo_makeTree_411 : xlk (xm_cd m_Mo_makeTree) 411 = some (.goto 4, 3, (0, 415, 0, [])) := rfl
set_option maxRecDepth 20000 in
theorem l_Mo_makeTree_414 : xlk (xm_cd m_Mo_makeTree) 414 = some (.iconst 0, 1, (0, 0, 0, [])) := rfl
set_option maxRecDepth 20000 in
theorem l_Mo_makeTree_415 : xlk (xm_cd m_Mo_makeTree) 415 = some (.istore 5, 2, (0, 0, 0, [])) := rfl
set_option maxRecDepth 20000 in
theorem l_Mo_makeTree_417 : xlk (xm_cd m_Mo_makeTree) 417 = some (.iinc 6 1, 3, (0, 0, 0, [])) := rfl
set_option maxRecDepth 20000 in
theorem l_Mo_makeTree_420 : xlk (xm_cd m_Mo_makeTree) 420 = some (.goto (-58), 3, (0, 362, 0, [])) := rfl
set_option maxRecDepth 20000 in
theorem l_Mo_makeTree_423 : xlk (xm_cd m_Mo_makeTree) 423 = some (.iload 5, 2, (0, 0, 0, [])) := rfl
set_option maxRecDepth 20000 in
theorem l_Mo_makeTree_425 : xlk (xm_cd m_Mo_makeTree) 425 = some (.ireturn, 1, (0, 0, 0, [])) := rfl
def B_Mo_makeTree_0 (d : Nat) (E : Option Value → xH → Prop) (f : xH) (a0 : Nat) (x1 : Int32) (x2 : Int32) : Prop :=
  xgi f a0 11 10 (fun v1 => xgr f a0 11 9 (fun r2 => xas f r2 0 v1 0 (fun f3 => xWp (xT0, xSp xT0 d, none, m_Mo_makeTree, E) 18 [some (.ref a0), some (.int x1), some (.int x2), some (.int v1), some (.int 0), some (.int 0), none, none] [] f3 0 0)))
theorem b_Mo_makeTree_0 {d : Nat} {E : Option Value → xH → Prop} {f : xH} {a0 : Nat} {x1 : Int32} {x2 : Int32} (h : B_Mo_makeTree_0 d E f a0 x1 x2) : xWp (xT0, xSp xT0 d, none, m_Mo_makeTree, E) 0 [some (.ref a0), some (.int x1), some (.int x2), none, none, none, none, none] [] f 0 0 := by
  unfold B_Mo_makeTree_0 at h
  refine s_aln l_Mo_makeTree_0 rfl ?_
  refine s_gi l_Mo_makeTree_1 h (fun v1 h => ?_)
  refine s_isn l_Mo_makeTree_4 (Nat.le_of_ble_eq_true rfl) ?_
  refine s_aln l_Mo_makeTree_5 rfl ?_
  refine s_gr l_Mo_makeTree_6 h (fun r2 h => ?_)
  refine s_iln l_Mo_makeTree_9 rfl ?_
  refine s_ic 0 l_Mo_makeTree_10 rfl ?_
  refine s_iast l_Mo_makeTree_11 h (fun f3 h => ?_)
  refine s_ic 0 l_Mo_makeTree_12 rfl ?_
  refine s_is l_Mo_makeTree_13 (Nat.le_of_ble_eq_true rfl) ?_
  refine s_ic 0 l_Mo_makeTree_15 rfl ?_
  refine s_is l_Mo_makeTree_16 (Nat.le_of_ble_eq_true rfl) ?_
  exact h
def B_Mo_makeTree_18 (d : Nat) (E : Option Value → xH → Prop) (f : xH) (a0 : Nat) (x1 : Int32) (x2 : Int32) (x3 : Int32) (x4 : Int32) (x5 : Int32) (u6 : Option Value) (u7 : Option Value) : Prop :=
  xgr f a0 11 9 (fun r1 => xal f r1 0 x2 (fun v2 => xbr (v2 ≤ x5) (xWp (xT0, xSp xT0 d, none, m_Mo_makeTree, E) 81 [some (.ref a0), some (.int x1), some (.int x2), some (.int x3), some (.int x4), some (.int 0), u6, u7] [] f 0 0) (xSp xT0 d j_Mo_at [.int x2, .int x5] f (fun w3 f4 => xvi w3 (fun v5 => xgr f4 a0 11 5 (fun r6 => xgr f4 a0 11 6 (fun r7 => xal f4 r7 0 v5 (fun v8 => (∃ fs, f4 a0 = some (xO 11 fs)) ∧ xSp xT0 d j_Mo_isSource [.ref a0, .int x1, .ref r6, .int (18 * v5), .int v8] f4 (fun w9 f10 => xvi w9 (fun v11 => xbr (v11 = 0) (xWp (xT0, xSp xT0 d, none, m_Mo_makeTree, E) 18 [some (.ref a0), some (.int x1), some (.int x2), some (.int x3), some (.int (x4 + 1)), some (.int (x5 + 1)), some (.int v5), u7] [] f10 0 0) (xWp (xT0, xSp xT0 d, none, m_Mo_makeTree, E) 18 [some (.ref a0), some (.int x1), some (.int x2), some (.int x3), some (.int x4), some (.int (x5 + 1)), some (.int v5), u7] [] f10 0 0)))))))))))
theorem b_Mo_makeTree_18 {d : Nat} {E : Option Value → xH → Prop} {f : xH} {a0 : Nat} {x1 : Int32} {x2 : Int32} {x3 : Int32} {x4 : Int32} {x5 : Int32} {u6 : Option Value} {u7 : Option Value} (h : B_Mo_makeTree_18 d E f a0 x1 x2 x3 x4 x5 u6 u7) : xWp (xT0, xSp xT0 d, none, m_Mo_makeTree, E) 18 [some (.ref a0), some (.int x1), some (.int x2), some (.int x3), some (.int x4), some (.int x5), u6, u7] [] f 0 0 := by
  unfold B_Mo_makeTree_18 at h
  refine s_il l_Mo_makeTree_18 rfl ?_
  refine s_aln l_Mo_makeTree_20 rfl ?_
  refine s_gr l_Mo_makeTree_21 h (fun r1 h => ?_)
  refine s_iln l_Mo_makeTree_24 rfl ?_
  refine s_ial l_Mo_makeTree_25 rfl h (fun v2 h => ?_)
  refine s_ifc l_Mo_makeTree_26 h (fun h => ?_) (fun h => ?_)
  · refine s_ic 0 l_Mo_makeTree_78 rfl ?_
    refine s_is l_Mo_makeTree_79 (Nat.le_of_ble_eq_true rfl) ?_
    exact h
  · refine s_iln l_Mo_makeTree_29 rfl ?_
    refine s_il l_Mo_makeTree_30 rfl ?_
    refine s_csi (As := [.int x2, .int x5]) (r := []) l_Mo_makeTree_32 rfl ⟨rfl, rfl⟩ rfl (Nat.le_of_ble_eq_true rfl) rfl ⟨Nat.zero_le _, Nat.zero_le _⟩ h (fun v5 f4 h => ?_)
    refine s_is l_Mo_makeTree_35 (Nat.le_of_ble_eq_true rfl) ?_
    refine s_aln l_Mo_makeTree_37 rfl ?_
    refine s_iln l_Mo_makeTree_38 rfl ?_
    refine s_aln l_Mo_makeTree_39 rfl ?_
    refine s_gr l_Mo_makeTree_40 h (fun r6 h => ?_)
    refine s_bp 18 l_Mo_makeTree_43 rfl ?_
    refine s_il l_Mo_makeTree_45 rfl ?_
    refine s_imul l_Mo_makeTree_47 ?_
    refine s_aln l_Mo_makeTree_48 rfl ?_
    refine s_gr l_Mo_makeTree_49 h (fun r7 h => ?_)
    refine s_il l_Mo_makeTree_52 rfl ?_
    refine s_ial l_Mo_makeTree_54 rfl h (fun v8 h => ?_)
    refine s_cvi (As := [.int x1, .ref r6, .int (18 * v5), .int v8]) (r := []) l_Mo_makeTree_55 rfl ⟨rfl, rfl⟩ rfl (Nat.le_of_ble_eq_true rfl) rfl ⟨Nat.zero_le _, Nat.zero_le _⟩ h (fun v11 f10 h => ?_)
    refine s_if l_Mo_makeTree_58 h (fun h => ?_) (fun h => ?_)
    · refine s_il l_Mo_makeTree_66 rfl ?_
      refine s_ic 1 l_Mo_makeTree_68 rfl ?_
      refine s_iadd l_Mo_makeTree_69 ?_
      refine s_is l_Mo_makeTree_70 (Nat.le_of_ble_eq_true rfl) ?_
      refine s_inc 1 l_Mo_makeTree_72 rfl rfl ?_
      refine s_goto l_Mo_makeTree_75 ?_
      exact h
    · refine s_il l_Mo_makeTree_61 rfl ?_
      refine s_goto l_Mo_makeTree_63 ?_
      refine s_is l_Mo_makeTree_70 (Nat.le_of_ble_eq_true rfl) ?_
      refine s_inc 1 l_Mo_makeTree_72 rfl rfl ?_
      refine s_goto l_Mo_makeTree_75 ?_
      exact h
def B_Mo_makeTree_81 (d : Nat) (E : Option Value → xH → Prop) (f : xH) (a0 : Nat) (x1 : Int32) (x2 : Int32) (x3 : Int32) (x4 : Int32) (x5 : Int32) (u6 : Option Value) (u7 : Option Value) : Prop :=
  xgr f a0 11 22 (fun r1 => xal f r1 0 x1 (fun v2 => xbr (v2 ≤ x5) (xbr (x4 ≤ 10) (xWp (xT0, xSp xT0 d, none, m_Mo_makeTree, E) 147 [some (.ref a0), some (.int x1), some (.int x2), some (.int x3), some (.int x4), some (.int 0), u6, u7] [] f 0 0) (E (some (.int 0)) f)) (xgr f a0 11 31 (fun r3 => xal f r3 1 x5 (fun v4 => xbr (v4 = 0) (xWp (xT0, xSp xT0 d, none, m_Mo_makeTree, E) 81 [some (.ref a0), some (.int x1), some (.int x2), some (.int x3), some (.int x4), some (.int (x5 + 1)), u6, u7] [] f 0 0) (xgr f a0 11 11 (fun r5 => xal f r5 0 ((24 * x1) + x5) (fun v6 => xbr (v6 = 1) (xWp (xT0, xSp xT0 d, none, m_Mo_makeTree, E) 81 [some (.ref a0), some (.int x1), some (.int x2), some (.int x3), some (.int x4), some (.int (x5 + 1)), u6, u7] [] f 0 0) (xWp (xT0, xSp xT0 d, none, m_Mo_makeTree, E) 81 [some (.ref a0), some (.int x1), some (.int x2), some (.int x3), some (.int (x4 + 1)), some (.int (x5 + 1)), u6, u7] [] f 0 0)))))))))
theorem b_Mo_makeTree_81 {d : Nat} {E : Option Value → xH → Prop} {f : xH} {a0 : Nat} {x1 : Int32} {x2 : Int32} {x3 : Int32} {x4 : Int32} {x5 : Int32} {u6 : Option Value} {u7 : Option Value} (h : B_Mo_makeTree_81 d E f a0 x1 x2 x3 x4 x5 u6 u7) : xWp (xT0, xSp xT0 d, none, m_Mo_makeTree, E) 81 [some (.ref a0), some (.int x1), some (.int x2), some (.int x3), some (.int x4), some (.int x5), u6, u7] [] f 0 0 := by
  unfold B_Mo_makeTree_81 at h
  refine s_il l_Mo_makeTree_81 rfl ?_
  refine s_aln l_Mo_makeTree_83 rfl ?_
  refine s_gr l_Mo_makeTree_84 h (fun r1 h => ?_)
  refine s_iln l_Mo_makeTree_87 rfl ?_
  refine s_ial l_Mo_makeTree_88 rfl h (fun v2 h => ?_)
  refine s_ifc l_Mo_makeTree_89 h (fun h => ?_) (fun h => ?_)
  · refine s_il l_Mo_makeTree_135 rfl ?_
    refine s_bp 10 l_Mo_makeTree_137 rfl ?_
    refine s_ifc l_Mo_makeTree_139 h (fun h => ?_) (fun h => ?_)
    · refine s_ic 0 l_Mo_makeTree_144 rfl ?_
      refine s_is l_Mo_makeTree_145 (Nat.le_of_ble_eq_true rfl) ?_
      exact h
    · refine s_ic 0 l_Mo_makeTree_142 rfl ?_
      exact s_zret l_Mo_makeTree_143 rfl ⟨Nat.zero_le _, Nat.zero_le _⟩ ⟨Or.inl rfl, h⟩
  · refine s_aln l_Mo_makeTree_92 rfl ?_
    refine s_gr l_Mo_makeTree_93 h (fun r3 h => ?_)
    refine s_il l_Mo_makeTree_96 rfl ?_
    refine s_bal l_Mo_makeTree_98 (Or.inl rfl) h (fun v4 h => ?_)
    refine s_if l_Mo_makeTree_99 h (fun h => ?_) (fun h => ?_)
    · refine s_il l_Mo_makeTree_125 rfl ?_
      refine s_is l_Mo_makeTree_127 (Nat.le_of_ble_eq_true rfl) ?_
      refine s_inc 1 l_Mo_makeTree_129 rfl rfl ?_
      refine s_goto l_Mo_makeTree_132 ?_
      exact h
    · refine s_aln l_Mo_makeTree_102 rfl ?_
      refine s_gr l_Mo_makeTree_103 h (fun r5 h => ?_)
      refine s_bp 24 l_Mo_makeTree_106 rfl ?_
      refine s_iln l_Mo_makeTree_108 rfl ?_
      refine s_imul l_Mo_makeTree_109 ?_
      refine s_il l_Mo_makeTree_110 rfl ?_
      refine s_iadd l_Mo_makeTree_112 ?_
      refine s_ial l_Mo_makeTree_113 rfl h (fun v6 h => ?_)
      refine s_ic 1 l_Mo_makeTree_114 rfl ?_
      refine s_ifc l_Mo_makeTree_115 h (fun h => ?_) (fun h => ?_)
      · refine s_il l_Mo_makeTree_125 rfl ?_
        refine s_is l_Mo_makeTree_127 (Nat.le_of_ble_eq_true rfl) ?_
        refine s_inc 1 l_Mo_makeTree_129 rfl rfl ?_
        refine s_goto l_Mo_makeTree_132 ?_
        exact h
      · refine s_il l_Mo_makeTree_118 rfl ?_
        refine s_ic 1 l_Mo_makeTree_120 rfl ?_
        refine s_iadd l_Mo_makeTree_121 ?_
        refine s_goto l_Mo_makeTree_122 ?_
        refine s_is l_Mo_makeTree_127 (Nat.le_of_ble_eq_true rfl) ?_
        refine s_inc 1 l_Mo_makeTree_129 rfl rfl ?_
        refine s_goto l_Mo_makeTree_132 ?_
        exact h
def B_Mo_makeTree_147 (d : Nat) (E : Option Value → xH → Prop) (f : xH) (a0 : Nat) (x1 : Int32) (x2 : Int32) (x3 : Int32) (x4 : Int32) (x5 : Int32) (u6 : Option Value) (u7 : Option Value) : Prop :=
  xgr f a0 11 9 (fun r1 => xal f r1 0 x2 (fun v2 => xbr (v2 ≤ x5) (xWp (xT0, xSp xT0 d, none, m_Mo_makeTree, E) 236 [some (.ref a0), some (.int x1), some (.int x2), some (.int x3), some (.int x4), some (.int 0), u6, u7] [] f 0 0) (xSp xT0 d j_Mo_at [.int x2, .int x5] f (fun w3 f4 => xvi w3 (fun v5 => xgr f4 a0 11 5 (fun r6 => xgr f4 a0 11 6 (fun r7 => xal f4 r7 0 v5 (fun v8 => (∃ fs, f4 a0 = some (xO 11 fs)) ∧ xSp xT0 d j_Mo_isSource [.ref a0, .int x1, .ref r6, .int (18 * v5), .int v8] f4 (fun w9 f10 => xvi w9 (fun v11 => xbr (¬ v11 = 0) (xWp (xT0, xSp xT0 d, none, m_Mo_makeTree, E) 147 [some (.ref a0), some (.int x1), some (.int x2), some (.int x3), some (.int x4), some (.int (x5 + 1)), some (.int v5), u7] [] f10 0 0) (xgr f10 a0 11 5 (fun r12 => xgr f10 a0 11 6 (fun r13 => xal f10 r13 0 v5 (fun v14 => xgr f10 a0 11 7 (fun r15 => xgr f10 a0 11 8 (fun r16 => xal f10 r16 0 v5 (fun v17 => (∃ fs, f10 a0 = some (xO 11 fs)) ∧ xSp xT0 d j_Mo_addFile [.ref a0, .int x3, .ref r12, .int (18 * v5), .int v14, .ref r15, .int (48 * v5), .int v17] f10 (fun w18 f19 => xvv w18 (xWp (xT0, xSp xT0 d, none, m_Mo_makeTree, E) 147 [some (.ref a0), some (.int x1), some (.int x2), some (.int x3), some (.int x4), some (.int (x5 + 1)), some (.int v5), u7] [] f19 0 0)))))))))))))))))))
theorem b_Mo_makeTree_147 {d : Nat} {E : Option Value → xH → Prop} {f : xH} {a0 : Nat} {x1 : Int32} {x2 : Int32} {x3 : Int32} {x4 : Int32} {x5 : Int32} {u6 : Option Value} {u7 : Option Value} (h : B_Mo_makeTree_147 d E f a0 x1 x2 x3 x4 x5 u6 u7) : xWp (xT0, xSp xT0 d, none, m_Mo_makeTree, E) 147 [some (.ref a0), some (.int x1), some (.int x2), some (.int x3), some (.int x4), some (.int x5), u6, u7] [] f 0 0 := by
  unfold B_Mo_makeTree_147 at h
  refine s_il l_Mo_makeTree_147 rfl ?_
  refine s_aln l_Mo_makeTree_149 rfl ?_
  refine s_gr l_Mo_makeTree_150 h (fun r1 h => ?_)
  refine s_iln l_Mo_makeTree_153 rfl ?_
  refine s_ial l_Mo_makeTree_154 rfl h (fun v2 h => ?_)
  refine s_ifc l_Mo_makeTree_155 h (fun h => ?_) (fun h => ?_)
  · refine s_ic 0 l_Mo_makeTree_233 rfl ?_
    refine s_is l_Mo_makeTree_234 (Nat.le_of_ble_eq_true rfl) ?_
    exact h
  · refine s_iln l_Mo_makeTree_158 rfl ?_
    refine s_il l_Mo_makeTree_159 rfl ?_
    refine s_csi (As := [.int x2, .int x5]) (r := []) l_Mo_makeTree_161 rfl ⟨rfl, rfl⟩ rfl (Nat.le_of_ble_eq_true rfl) rfl ⟨Nat.zero_le _, Nat.zero_le _⟩ h (fun v5 f4 h => ?_)
    refine s_is l_Mo_makeTree_164 (Nat.le_of_ble_eq_true rfl) ?_
    refine s_aln l_Mo_makeTree_166 rfl ?_
    refine s_iln l_Mo_makeTree_167 rfl ?_
    refine s_aln l_Mo_makeTree_168 rfl ?_
    refine s_gr l_Mo_makeTree_169 h (fun r6 h => ?_)
    refine s_bp 18 l_Mo_makeTree_172 rfl ?_
    refine s_il l_Mo_makeTree_174 rfl ?_
    refine s_imul l_Mo_makeTree_176 ?_
    refine s_aln l_Mo_makeTree_177 rfl ?_
    refine s_gr l_Mo_makeTree_178 h (fun r7 h => ?_)
    refine s_il l_Mo_makeTree_181 rfl ?_
    refine s_ial l_Mo_makeTree_183 rfl h (fun v8 h => ?_)
    refine s_cvi (As := [.int x1, .ref r6, .int (18 * v5), .int v8]) (r := []) l_Mo_makeTree_184 rfl ⟨rfl, rfl⟩ rfl (Nat.le_of_ble_eq_true rfl) rfl ⟨Nat.zero_le _, Nat.zero_le _⟩ h (fun v11 f10 h => ?_)
    refine s_if l_Mo_makeTree_187 h (fun h => ?_) (fun h => ?_)
    · refine s_inc 1 l_Mo_makeTree_227 rfl rfl ?_
      refine s_goto l_Mo_makeTree_230 ?_
      exact h
    · refine s_aln l_Mo_makeTree_190 rfl ?_
      refine s_iln l_Mo_makeTree_191 rfl ?_
      refine s_aln l_Mo_makeTree_192 rfl ?_
      refine s_gr l_Mo_makeTree_193 h (fun r12 h => ?_)
      refine s_bp 18 l_Mo_makeTree_196 rfl ?_
      refine s_il l_Mo_makeTree_198 rfl ?_
      refine s_imul l_Mo_makeTree_200 ?_
      refine s_aln l_Mo_makeTree_201 rfl ?_
      refine s_gr l_Mo_makeTree_202 h (fun r13 h => ?_)
      refine s_il l_Mo_makeTree_205 rfl ?_
      refine s_ial l_Mo_makeTree_207 rfl h (fun v14 h => ?_)
      refine s_aln l_Mo_makeTree_208 rfl ?_
      refine s_gr l_Mo_makeTree_209 h (fun r15 h => ?_)
      refine s_bp 48 l_Mo_makeTree_212 rfl ?_
      refine s_il l_Mo_makeTree_214 rfl ?_
      refine s_imul l_Mo_makeTree_216 ?_
      refine s_aln l_Mo_makeTree_217 rfl ?_
      refine s_gr l_Mo_makeTree_218 h (fun r16 h => ?_)
      refine s_il l_Mo_makeTree_221 rfl ?_
      refine s_ial l_Mo_makeTree_223 rfl h (fun v17 h => ?_)
      refine s_cvv (As := [.int x3, .ref r12, .int (18 * v5), .int v14, .ref r15, .int (48 * v5), .int v17]) (r := []) l_Mo_makeTree_224 rfl ⟨rfl, rfl⟩ rfl (Nat.le_of_ble_eq_true rfl) rfl ⟨Nat.zero_le _, Nat.zero_le _⟩ h (fun f19 h => ?_)
      refine s_inc 1 l_Mo_makeTree_227 rfl rfl ?_
      refine s_goto l_Mo_makeTree_230 ?_
      exact h
def B_Mo_makeTree_236 (d : Nat) (E : Option Value → xH → Prop) (f : xH) (a0 : Nat) (x1 : Int32) (x2 : Int32) (x3 : Int32) (x4 : Int32) (x5 : Int32) (u6 : Option Value) (u7 : Option Value) : Prop :=
  xgr f a0 11 22 (fun r1 => xal f r1 0 x1 (fun v2 => xbr (v2 ≤ x5) (xWp (xT0, xSp xT0 d, none, m_Mo_makeTree, E) 362 [some (.ref a0), some (.int x1), some (.int x2), some (.int x3), some (.int x4), some (.int 1), some (.int 0), u7] [] f 0 0) (xgr f a0 11 31 (fun r3 => xal f r3 1 x5 (fun v4 => xbr (v4 = 0) (xWp (xT0, xSp xT0 d, none, m_Mo_makeTree, E) 236 [some (.ref a0), some (.int x1), some (.int x2), some (.int x3), some (.int x4), some (.int (x5 + 1)), some (.int ((24 * x1) + x5)), u7] [] f 0 0) (xgr f a0 11 11 (fun r5 => xal f r5 0 ((24 * x1) + x5) (fun v6 => xbr (v6 = 1) (xWp (xT0, xSp xT0 d, none, m_Mo_makeTree, E) 236 [some (.ref a0), some (.int x1), some (.int x2), some (.int x3), some (.int x4), some (.int (x5 + 1)), some (.int ((24 * x1) + x5)), u7] [] f 0 0) ((∃ fs, f a0 = some (xO 11 fs)) ∧ xSp xT0 d j_Mo_sourceOf [.ref a0, .int ((24 * x1) + x5), .int x2] f (fun w7 f8 => xvi w7 (fun v9 => xgr f8 a0 11 7 (fun r10 => xbr (¬ v9 = (-2)) (xSp xT0 d j_Mo_at [.int x2, .int v9] f8 (fun w11 f12 => xvi w11 (fun v13 => xWp (xT0, xSp xT0 d, none, m_Mo_makeTree, E) 313 [some (.ref a0), some (.int x1), some (.int x2), some (.int x3), some (.int x4), some (.int x5), some (.int ((24 * x1) + x5)), some (.int v9)] [.int (48 * v13), .ref r10, .int ((24 * x1) + x5), .ref a0] f12 0 0))) (xWp (xT0, xSp xT0 d, none, m_Mo_makeTree, E) 313 [some (.ref a0), some (.int x1), some (.int x2), some (.int x3), some (.int x4), some (.int x5), some (.int ((24 * x1) + x5)), some (.int v9)] [.int 0, .ref r10, .int ((24 * x1) + x5), .ref a0] f8 0 0)))))))))))))
theorem b_Mo_makeTree_236 {d : Nat} {E : Option Value → xH → Prop} {f : xH} {a0 : Nat} {x1 : Int32} {x2 : Int32} {x3 : Int32} {x4 : Int32} {x5 : Int32} {u6 : Option Value} {u7 : Option Value} (h : B_Mo_makeTree_236 d E f a0 x1 x2 x3 x4 x5 u6 u7) : xWp (xT0, xSp xT0 d, none, m_Mo_makeTree, E) 236 [some (.ref a0), some (.int x1), some (.int x2), some (.int x3), some (.int x4), some (.int x5), u6, u7] [] f 0 0 := by
  unfold B_Mo_makeTree_236 at h
  refine s_il l_Mo_makeTree_236 rfl ?_
  refine s_aln l_Mo_makeTree_238 rfl ?_
  refine s_gr l_Mo_makeTree_239 h (fun r1 h => ?_)
  refine s_iln l_Mo_makeTree_242 rfl ?_
  refine s_ial l_Mo_makeTree_243 rfl h (fun v2 h => ?_)
  refine s_ifc l_Mo_makeTree_244 h (fun h => ?_) (fun h => ?_)
  · refine s_ic 1 l_Mo_makeTree_356 rfl ?_
    refine s_is l_Mo_makeTree_357 (Nat.le_of_ble_eq_true rfl) ?_
    refine s_ic 0 l_Mo_makeTree_359 rfl ?_
    refine s_is l_Mo_makeTree_360 (Nat.le_of_ble_eq_true rfl) ?_
    exact h
  · refine s_bp 24 l_Mo_makeTree_247 rfl ?_
    refine s_iln l_Mo_makeTree_249 rfl ?_
    refine s_imul l_Mo_makeTree_250 ?_
    refine s_il l_Mo_makeTree_251 rfl ?_
    refine s_iadd l_Mo_makeTree_253 ?_
    refine s_is l_Mo_makeTree_254 (Nat.le_of_ble_eq_true rfl) ?_
    refine s_aln l_Mo_makeTree_256 rfl ?_
    refine s_gr l_Mo_makeTree_257 h (fun r3 h => ?_)
    refine s_il l_Mo_makeTree_260 rfl ?_
    refine s_bal l_Mo_makeTree_262 (Or.inl rfl) h (fun v4 h => ?_)
    refine s_if l_Mo_makeTree_263 h (fun h => ?_) (fun h => ?_)
    · refine s_inc 1 l_Mo_makeTree_350 rfl rfl ?_
      refine s_goto l_Mo_makeTree_353 ?_
      exact h
    · refine s_aln l_Mo_makeTree_266 rfl ?_
      refine s_gr l_Mo_makeTree_267 h (fun r5 h => ?_)
      refine s_il l_Mo_makeTree_270 rfl ?_
      refine s_ial l_Mo_makeTree_272 rfl h (fun v6 h => ?_)
      refine s_ic 1 l_Mo_makeTree_273 rfl ?_
      refine s_ifc l_Mo_makeTree_274 h (fun h => ?_) (fun h => ?_)
      · refine s_inc 1 l_Mo_makeTree_350 rfl rfl ?_
        refine s_goto l_Mo_makeTree_353 ?_
        exact h
      · refine s_aln l_Mo_makeTree_277 rfl ?_
        refine s_il l_Mo_makeTree_278 rfl ?_
        refine s_iln l_Mo_makeTree_280 rfl ?_
        refine s_cvi (As := [.int ((24 * x1) + x5), .int x2]) (r := []) l_Mo_makeTree_281 rfl ⟨rfl, rfl⟩ rfl (Nat.le_of_ble_eq_true rfl) rfl ⟨Nat.zero_le _, Nat.zero_le _⟩ h (fun v9 f8 h => ?_)
        refine s_is l_Mo_makeTree_284 (Nat.le_of_ble_eq_true rfl) ?_
        refine s_aln l_Mo_makeTree_286 rfl ?_
        refine s_il l_Mo_makeTree_287 rfl ?_
        refine s_aln l_Mo_makeTree_289 rfl ?_
        refine s_gr l_Mo_makeTree_290 h (fun r10 h => ?_)
        refine s_il l_Mo_makeTree_293 rfl ?_
        refine s_bp (-2) l_Mo_makeTree_295 rfl ?_
        refine s_ifc l_Mo_makeTree_297 h (fun h => ?_) (fun h => ?_)
        · refine s_bp 48 l_Mo_makeTree_304 rfl ?_
          refine s_iln l_Mo_makeTree_306 rfl ?_
          refine s_il l_Mo_makeTree_307 rfl ?_
          refine s_csi (As := [.int x2, .int v9]) (r := [.int 48, .ref r10, .int ((24 * x1) + x5), .ref a0]) l_Mo_makeTree_309 rfl ⟨rfl, rfl⟩ rfl (Nat.le_of_ble_eq_true rfl) rfl ⟨Nat.zero_le _, Nat.zero_le _⟩ h (fun v13 f12 h => ?_)
          refine s_imul l_Mo_makeTree_312 ?_
          exact h
        · refine s_ic 0 l_Mo_makeTree_300 rfl ?_
          refine s_goto l_Mo_makeTree_301 ?_
          exact h
def B_Mo_makeTree_313 (d : Nat) (E : Option Value → xH → Prop) (f : xH) (a0 : Nat) (x1 : Int32) (x2 : Int32) (x3 : Int32) (x4 : Int32) (x5 : Int32) (x6 : Int32) (x7 : Int32) (s0 : Int32) (s1 : Nat) (s2 : Int32) (s3 : Nat) : Prop :=
  (∃ fs, f s3 = some (xO 11 fs)) ∧ xSp xT0 d j_Mo_make [.ref s3, .int s2, .ref s1, .int s0, .int 0] f (fun w1 f2 => xvv w1 (xgr f2 a0 11 12 (fun r3 => xgr f2 a0 11 13 (fun r4 => xal f2 r4 0 x6 (fun v5 => xgr f2 a0 11 35 (fun r6 => xgr f2 a0 11 18 (fun r7 => xal f2 r7 0 x6 (fun v8 => (∃ fs, f2 a0 = some (xO 11 fs)) ∧ xSp xT0 d j_Mo_addFile [.ref a0, .int x3, .ref r3, .int (18 * x6), .int v5, .ref r6, .int 0, .int v8] f2 (fun w9 f10 => xvv w9 (xWp (xT0, xSp xT0 d, none, m_Mo_makeTree, E) 236 [some (.ref a0), some (.int x1), some (.int x2), some (.int x3), some (.int x4), some (.int (x5 + 1)), some (.int x6), some (.int x7)] [] f10 0 0))))))))))
theorem b_Mo_makeTree_313 {d : Nat} {E : Option Value → xH → Prop} {f : xH} {a0 : Nat} {x1 : Int32} {x2 : Int32} {x3 : Int32} {x4 : Int32} {x5 : Int32} {x6 : Int32} {x7 : Int32} {s0 : Int32} {s1 : Nat} {s2 : Int32} {s3 : Nat} (h : B_Mo_makeTree_313 d E f a0 x1 x2 x3 x4 x5 x6 x7 s0 s1 s2 s3) : xWp (xT0, xSp xT0 d, none, m_Mo_makeTree, E) 313 [some (.ref a0), some (.int x1), some (.int x2), some (.int x3), some (.int x4), some (.int x5), some (.int x6), some (.int x7)] [.int s0, .ref s1, .int s2, .ref s3] f 0 0 := by
  unfold B_Mo_makeTree_313 at h
  refine s_ic 0 l_Mo_makeTree_313 rfl ?_
  refine s_cvv (As := [.int s2, .ref s1, .int s0, .int 0]) (r := []) l_Mo_makeTree_314 rfl ⟨rfl, rfl⟩ rfl (Nat.le_of_ble_eq_true rfl) rfl ⟨Nat.zero_le _, Nat.zero_le _⟩ h (fun f2 h => ?_)
  refine s_aln l_Mo_makeTree_317 rfl ?_
  refine s_iln l_Mo_makeTree_318 rfl ?_
  refine s_aln l_Mo_makeTree_319 rfl ?_
  refine s_gr l_Mo_makeTree_320 h (fun r3 h => ?_)
  refine s_bp 18 l_Mo_makeTree_323 rfl ?_
  refine s_il l_Mo_makeTree_325 rfl ?_
  refine s_imul l_Mo_makeTree_327 ?_
  refine s_aln l_Mo_makeTree_328 rfl ?_
  refine s_gr l_Mo_makeTree_329 h (fun r4 h => ?_)
  refine s_il l_Mo_makeTree_332 rfl ?_
  refine s_ial l_Mo_makeTree_334 rfl h (fun v5 h => ?_)
  refine s_aln l_Mo_makeTree_335 rfl ?_
  refine s_gr l_Mo_makeTree_336 h (fun r6 h => ?_)
  refine s_ic 0 l_Mo_makeTree_339 rfl ?_
  refine s_aln l_Mo_makeTree_340 rfl ?_
  refine s_gr l_Mo_makeTree_341 h (fun r7 h => ?_)
  refine s_il l_Mo_makeTree_344 rfl ?_
  refine s_ial l_Mo_makeTree_346 rfl h (fun v8 h => ?_)
  refine s_cvv (As := [.int x3, .ref r3, .int (18 * x6), .int v5, .ref r6, .int 0, .int v8]) (r := []) l_Mo_makeTree_347 rfl ⟨rfl, rfl⟩ rfl (Nat.le_of_ble_eq_true rfl) rfl ⟨Nat.zero_le _, Nat.zero_le _⟩ h (fun f10 h => ?_)
  refine s_inc 1 l_Mo_makeTree_350 rfl rfl ?_
  refine s_goto l_Mo_makeTree_353 ?_
  exact h
def B_Mo_makeTree_362 (d : Nat) (E : Option Value → xH → Prop) (f : xH) (a0 : Nat) (x1 : Int32) (x2 : Int32) (x3 : Int32) (x4 : Int32) (x5 : Int32) (x6 : Int32) (u7 : Option Value) : Prop :=
  xgr f a0 11 9 (fun r1 => xal f r1 0 x3 (fun v2 => xbr (v2 ≤ x6) ((x5 = 0 ∨ x5 = 1) ∧ E (some (.int x5)) f) (xSp xT0 d j_Mo_at [.int x3, .int x6] f (fun w3 f4 => xvi w3 (fun v5 => xbr (x5 = 0) (xWp (xT0, xSp xT0 d, none, m_Mo_makeTree, E) 362 [some (.ref a0), some (.int x1), some (.int x2), some (.int x3), some (.int x4), some (.int 0), some (.int (x6 + 1)), some (.int v5)] [] f4 0 0) (xgr f4 a0 11 5 (fun r6 => xgr f4 a0 11 6 (fun r7 => xal f4 r7 0 v5 (fun v8 => (∃ fs, f4 a0 = some (xO 11 fs)) ∧ xSp xT0 d j_Mo_isBlocked [.ref a0, .int x3, .ref r6, .int (18 * v5), .int v8] f4 (fun w9 f10 => xvi w9 (fun v11 => xbr (¬ v11 = 0) (xWp (xT0, xSp xT0 d, none, m_Mo_makeTree, E) 362 [some (.ref a0), some (.int x1), some (.int x2), some (.int x3), some (.int x4), some (.int 0), some (.int (x6 + 1)), some (.int v5)] [] f10 0 0) (xWp (xT0, xSp xT0 d, none, m_Mo_makeTree, E) 362 [some (.ref a0), some (.int x1), some (.int x2), some (.int x3), some (.int x4), some (.int 1), some (.int (x6 + 1)), some (.int v5)] [] f10 0 0))))))))))))
theorem b_Mo_makeTree_362 {d : Nat} {E : Option Value → xH → Prop} {f : xH} {a0 : Nat} {x1 : Int32} {x2 : Int32} {x3 : Int32} {x4 : Int32} {x5 : Int32} {x6 : Int32} {u7 : Option Value} (h : B_Mo_makeTree_362 d E f a0 x1 x2 x3 x4 x5 x6 u7) : xWp (xT0, xSp xT0 d, none, m_Mo_makeTree, E) 362 [some (.ref a0), some (.int x1), some (.int x2), some (.int x3), some (.int x4), some (.int x5), some (.int x6), u7] [] f 0 0 := by
  unfold B_Mo_makeTree_362 at h
  refine s_il l_Mo_makeTree_362 rfl ?_
  refine s_aln l_Mo_makeTree_364 rfl ?_
  refine s_gr l_Mo_makeTree_365 h (fun r1 h => ?_)
  refine s_iln l_Mo_makeTree_368 rfl ?_
  refine s_ial l_Mo_makeTree_369 rfl h (fun v2 h => ?_)
  refine s_ifc l_Mo_makeTree_370 h (fun h => ?_) (fun h => ?_)
  · refine s_il l_Mo_makeTree_423 rfl ?_
    exact s_zret l_Mo_makeTree_425 rfl ⟨Nat.zero_le _, Nat.zero_le _⟩ h
  · refine s_iln l_Mo_makeTree_373 rfl ?_
    refine s_il l_Mo_makeTree_374 rfl ?_
    refine s_csi (As := [.int x3, .int x6]) (r := []) l_Mo_makeTree_376 rfl ⟨rfl, rfl⟩ rfl (Nat.le_of_ble_eq_true rfl) rfl ⟨Nat.zero_le _, Nat.zero_le _⟩ h (fun v5 f4 h => ?_)
    refine s_is l_Mo_makeTree_379 (Nat.le_of_ble_eq_true rfl) ?_
    refine s_il l_Mo_makeTree_381 rfl ?_
    refine s_if l_Mo_makeTree_383 h (fun h => ?_) (fun h => ?_)
    · refine s_ic 0 l_Mo_makeTree_414 rfl ?_
      refine s_is l_Mo_makeTree_415 (Nat.le_of_ble_eq_true rfl) ?_
      refine s_inc 1 l_Mo_makeTree_417 rfl rfl ?_
      refine s_goto l_Mo_makeTree_420 ?_
      exact h
    · refine s_aln l_Mo_makeTree_386 rfl ?_
      refine s_iln l_Mo_makeTree_387 rfl ?_
      refine s_aln l_Mo_makeTree_388 rfl ?_
      refine s_gr l_Mo_makeTree_389 h (fun r6 h => ?_)
      refine s_bp 18 l_Mo_makeTree_392 rfl ?_
      refine s_il l_Mo_makeTree_394 rfl ?_
      refine s_imul l_Mo_makeTree_396 ?_
      refine s_aln l_Mo_makeTree_397 rfl ?_
      refine s_gr l_Mo_makeTree_398 h (fun r7 h => ?_)
      refine s_il l_Mo_makeTree_401 rfl ?_
      refine s_ial l_Mo_makeTree_403 rfl h (fun v8 h => ?_)
      refine s_cvi (As := [.int x3, .ref r6, .int (18 * v5), .int v8]) (r := []) l_Mo_makeTree_404 rfl ⟨rfl, rfl⟩ rfl (Nat.le_of_ble_eq_true rfl) rfl ⟨Nat.zero_le _, Nat.zero_le _⟩ h (fun v11 f10 h => ?_)
      refine s_if l_Mo_makeTree_407 h (fun h => ?_) (fun h => ?_)
      · refine s_ic 0 l_Mo_makeTree_414 rfl ?_
        refine s_is l_Mo_makeTree_415 (Nat.le_of_ble_eq_true rfl) ?_
        refine s_inc 1 l_Mo_makeTree_417 rfl rfl ?_
        refine s_goto l_Mo_makeTree_420 ?_
        exact h
      · refine s_ic 1 l_Mo_makeTree_410 rfl ?_
        refine s_goto l_Mo_makeTree_411 ?_
        refine s_is l_Mo_makeTree_415 (Nat.le_of_ble_eq_true rfl) ?_
        refine s_inc 1 l_Mo_makeTree_417 rfl rfl ?_
        refine s_goto l_Mo_makeTree_420 ?_
        exact h
