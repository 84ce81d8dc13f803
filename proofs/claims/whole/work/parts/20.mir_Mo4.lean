/-! blocks of Mo, 4 -/
theorem l_Mo_like_0 : xlk (xm_cd m_Mo_like) 0 = some (.aload_n 0, 1, (0, 0, 0, [])) := rfl
theorem l_Mo_like_1 : xlk (xm_cd m_Mo_like) 1 = some (.getfield 30, 3, (857, 11, 8, [])) := rfl
theorem l_Mo_like_4 : xlk (xm_cd m_Mo_like) 4 = some (.iload_n 1, 1, (0, 0, 0, [])) := rfl
theorem l_Mo_like_5 : xlk (xm_cd m_Mo_like) 5 = some (.iaload, 1, (0, 0, 0, [])) := rfl
theorem l_Mo_like_6 : xlk (xm_cd m_Mo_like) 6 = some (.istore_n 3, 1, (0, 0, 0, [])) := rfl
theorem l_Mo_like_7 : xlk (xm_cd m_Mo_like) 7 = some (.aload_n 0, 1, (0, 0, 0, [])) := rfl
theorem l_Mo_like_8 : xlk (xm_cd m_Mo_like) 8 = some (.getfield 30, 3, (857, 11, 8, [])) := rfl
theorem l_Mo_like_11 : xlk (xm_cd m_Mo_like) 11 = some (.iload_n 2, 1, (0, 0, 0, [])) := rfl
theorem l_Mo_like_12 : xlk (xm_cd m_Mo_like) 12 = some (.iaload, 1, (0, 0, 0, [])) := rfl
theorem l_Mo_like_13 : xlk (xm_cd m_Mo_like) 13 = some (.istore 4, 2, (0, 0, 0, [])) := rfl
theorem l_Mo_like_15 : xlk (xm_cd m_Mo_like) 15 = some (.iload_n 3, 1, (0, 0, 0, [])) := rfl
theorem l_Mo_like_16 : xlk (xm_cd m_Mo_like) 16 = some (.iload 4, 2, (0, 0, 0, [])) := rfl
theorem l_Mo_like_18 : xlk (xm_cd m_Mo_like) 18 = some (.iadd, 1, (0, 0, 0, [])) := rfl
theorem l_Mo_like_19 : xlk (xm_cd m_Mo_like) 19 = some (.ifCond .ne 5, 3, (0, 24, 0, [])) := rfl
theorem l_Mo_like_22 : xlk (xm_cd m_Mo_like) 22 = some (.iconst 0, 1, (0, 0, 0, [])) := rfl
theorem l_Mo_like_23 : xlk (xm_cd m_Mo_like) 23 = some (.ireturn, 1, (0, 0, 0, [])) := rfl
theorem l_Mo_like_24 : xlk (xm_cd m_Mo_like) 24 = some (.iload_n 3, 1, (0, 0, 0, [])) := rfl
theorem l_Mo_like_25 : xlk (xm_cd m_Mo_like) 25 = some (.istore 5, 2, (0, 0, 0, [])) := rfl
theorem l_Mo_like_27 : xlk (xm_cd m_Mo_like) 27 = some (.iload 5, 2, (0, 0, 0, [])) := rfl
theorem l_Mo_like_29 : xlk (xm_cd m_Mo_like) 29 = some (.ifCond .lt 153, 3, (0, 182, 0, [])) := rfl
theorem l_Mo_like_32 : xlk (xm_cd m_Mo_like) 32 = some (.iload 4, 2, (0, 0, 0, [])) := rfl
theorem l_Mo_like_34 : xlk (xm_cd m_Mo_like) 34 = some (.istore 6, 2, (0, 0, 0, [])) := rfl
theorem l_Mo_like_36 : xlk (xm_cd m_Mo_like) 36 = some (.iload 6, 2, (0, 0, 0, [])) := rfl
theorem l_Mo_like_38 : xlk (xm_cd m_Mo_like) 38 = some (.ifCond .lt 138, 3, (0, 176, 0, [])) := rfl
theorem l_Mo_like_41 : xlk (xm_cd m_Mo_like) 41 = some (.iconst 0, 1, (0, 0, 0, [])) := rfl
theorem l_Mo_like_42 : xlk (xm_cd m_Mo_like) 42 = some (.istore 7, 2, (0, 0, 0, [])) := rfl
theorem l_Mo_like_44 : xlk (xm_cd m_Mo_like) 44 = some (.iload 5, 2, (0, 0, 0, [])) := rfl
theorem l_Mo_like_46 : xlk (xm_cd m_Mo_like) 46 = some (.iload_n 3, 1, (0, 0, 0, [])) := rfl
theorem l_Mo_like_47 : xlk (xm_cd m_Mo_like) 47 = some (.if_icmp .ge 108, 3, (0, 155, 0, [])) := rfl
theorem l_Mo_like_50 : xlk (xm_cd m_Mo_like) 50 = some (.iload 6, 2, (0, 0, 0, [])) := rfl
theorem l_Mo_like_52 : xlk (xm_cd m_Mo_like) 52 = some (.iload 4, 2, (0, 0, 0, [])) := rfl
theorem l_Mo_like_54 : xlk (xm_cd m_Mo_like) 54 = some (.if_icmp .ge 101, 3, (0, 155, 0, [])) := rfl
theorem l_Mo_like_57 : xlk (xm_cd m_Mo_like) 57 = some (.aload_n 0, 1, (0, 0, 0, [])) := rfl
theorem l_Mo_like_58 : xlk (xm_cd m_Mo_like) 58 = some (.getfield 78, 3, (875, 11, 26, [])) := rfl
theorem l_Mo_like_61 : xlk (xm_cd m_Mo_like) 61 = some (.bipush 50, 2, (0, 0, 0, [])) := rfl
theorem l_Mo_like_63 : xlk (xm_cd m_Mo_like) 63 = some (.iload 5, 2, (0, 0, 0, [])) := rfl
theorem l_Mo_like_65 : xlk (xm_cd m_Mo_like) 65 = some (.iconst 1, 1, (0, 0, 0, [])) := rfl
theorem l_Mo_like_66 : xlk (xm_cd m_Mo_like) 66 = some (.iadd, 1, (0, 0, 0, [])) := rfl
theorem l_Mo_like_67 : xlk (xm_cd m_Mo_like) 67 = some (.imul, 1, (0, 0, 0, [])) := rfl
theorem l_Mo_like_68 : xlk (xm_cd m_Mo_like) 68 = some (.iload 6, 2, (0, 0, 0, [])) := rfl
theorem l_Mo_like_70 : xlk (xm_cd m_Mo_like) 70 = some (.iadd, 1, (0, 0, 0, [])) := rfl
theorem l_Mo_like_71 : xlk (xm_cd m_Mo_like) 71 = some (.iaload, 1, (0, 0, 0, [])) := rfl
theorem l_Mo_like_72 : xlk (xm_cd m_Mo_like) 72 = some (.istore 8, 2, (0, 0, 0, [])) := rfl
theorem l_Mo_like_74 : xlk (xm_cd m_Mo_like) 74 = some (.aload_n 0, 1, (0, 0, 0, [])) := rfl
theorem l_Mo_like_75 : xlk (xm_cd m_Mo_like) 75 = some (.getfield 78, 3, (875, 11, 26, [])) := rfl
theorem l_Mo_like_78 : xlk (xm_cd m_Mo_like) 78 = some (.bipush 50, 2, (0, 0, 0, [])) := rfl
theorem l_Mo_like_80 : xlk (xm_cd m_Mo_like) 80 = some (.iload 5, 2, (0, 0, 0, [])) := rfl
theorem l_Mo_like_82 : xlk (xm_cd m_Mo_like) 82 = some (.imul, 1, (0, 0, 0, [])) := rfl
theorem l_Mo_like_83 : xlk (xm_cd m_Mo_like) 83 = some (.iload 6, 2, (0, 0, 0, [])) := rfl
theorem l_Mo_like_85 : xlk (xm_cd m_Mo_like) 85 = some (.iadd, 1, (0, 0, 0, [])) := rfl
theorem l_Mo_like_86 : xlk (xm_cd m_Mo_like) 86 = some (.iconst 1, 1, (0, 0, 0, [])) := rfl
theorem l_Mo_like_87 : xlk (xm_cd m_Mo_like) 87 = some (.iadd, 1, (0, 0, 0, [])) := rfl
theorem l_Mo_like_88 : xlk (xm_cd m_Mo_like) 88 = some (.iaload, 1, (0, 0, 0, [])) := rfl
theorem l_Mo_like_89 : xlk (xm_cd m_Mo_like) 89 = some (.istore 9, 2, (0, 0, 0, [])) := rfl
theorem l_Mo_like_91 : xlk (xm_cd m_Mo_like) 91 = some (.iload 8, 2, (0, 0, 0, [])) := rfl
theorem l_Mo_like_93 : xlk (xm_cd m_Mo_like) 93 = some (.iload 9, 2, (0, 0, 0, [])) := rfl
theorem l_Mo_like_95 : xlk (xm_cd m_Mo_like) 95 = some (.if_icmp .le 8, 3, (0, 103, 0, [])) := rfl
theorem l_Mo_like_98 : xlk (xm_cd m_Mo_like) 98 = some (.iload 8, 2, (0, 0, 0, [])) := rfl
theorem l_Mo_like_100 : xlk (xm_cd m_Mo_like) 100 = some (.goto 5, 3, (0, 105, 0, [])) := rfl
theorem l_Mo_like_103 : xlk (xm_cd m_Mo_like) 103 = some (.iload 9, 2, (0, 0, 0, [])) := rfl
theorem l_Mo_like_105 : xlk (xm_cd m_Mo_like) 105 = some (.istore 7, 2, (0, 0, 0, [])) := rfl
theorem l_Mo_like_107 : xlk (xm_cd m_Mo_like) 107 = some (.aload_n 0, 1, (0, 0, 0, [])) := rfl
theorem l_Mo_like_108 : xlk (xm_cd m_Mo_like) 108 = some (.getfield 27, 3, (856, 11, 7, [])) := rfl
theorem l_Mo_like_111 : xlk (xm_cd m_Mo_like) 111 = some (.bipush 48, 2, (0, 0, 0, [])) := rfl
theorem l_Mo_like_113 : xlk (xm_cd m_Mo_like) 113 = some (.iload_n 1, 1, (0, 0, 0, [])) := rfl
theorem l_Mo_like_114 : xlk (xm_cd m_Mo_like) 114 = some (.imul, 1, (0, 0, 0, [])) := rfl
theorem l_Mo_like_115 : xlk (xm_cd m_Mo_like) 115 = some (.iload 5, 2, (0, 0, 0, [])) := rfl
theorem l_Mo_like_117 : xlk (xm_cd m_Mo_like) 117 = some (.iadd, 1, (0, 0, 0, [])) := rfl
theorem l_Mo_like_118 : xlk (xm_cd m_Mo_like) 118 = some (.baload, 1, (0, 0, 0, [])) := rfl
theorem l_Mo_like_119 : xlk (xm_cd m_Mo_like) 119 = some (.aload_n 0, 1, (0, 0, 0, [])) := rfl
theorem l_Mo_like_120 : xlk (xm_cd m_Mo_like) 120 = some (.getfield 27, 3, (856, 11, 7, [])) := rfl
theorem l_Mo_like_123 : xlk (xm_cd m_Mo_like) 123 = some (.bipush 48, 2, (0, 0, 0, [])) := rfl
theorem l_Mo_like_125 : xlk (xm_cd m_Mo_like) 125 = some (.iload_n 2, 1, (0, 0, 0, [])) := rfl
theorem l_Mo_like_126 : xlk (xm_cd m_Mo_like) 126 = some (.imul, 1, (0, 0, 0, [])) := rfl
theorem l_Mo_like_127 : xlk (xm_cd m_Mo_like) 127 = some (.iload 6, 2, (0, 0, 0, [])) := rfl
theorem l_Mo_like_129 : xlk (xm_cd m_Mo_like) 129 = some (.iadd, 1, (0, 0, 0, [])) := rfl
theorem l_Mo_like_130 : xlk (xm_cd m_Mo_like) 130 = some (.baload, 1, (0, 0, 0, [])) := rfl
theorem l_Mo_like_131 : xlk (xm_cd m_Mo_like) 131 = some (.if_icmp .ne 24, 3, (0, 155, 0, [])) := rfl
theorem l_Mo_like_134 : xlk (xm_cd m_Mo_like) 134 = some (.aload_n 0, 1, (0, 0, 0, [])) := rfl
theorem l_Mo_like_135 : xlk (xm_cd m_Mo_like) 135 = some (.getfield 78, 3, (875, 11, 26, [])) := rfl
theorem l_Mo_like_138 : xlk (xm_cd m_Mo_like) 138 = some (.bipush 50, 2, (0, 0, 0, [])) := rfl
set_option maxRecDepth 20000 in
theorem l_Mo_like_140 : xlk (xm_cd m_Mo_like) 140 = some (.iload 5, 2, (0, 0, 0, [])) := rfl
set_option maxRecDepth 20000 in
theorem l_Mo_like_142 : xlk (xm_cd m_Mo_like) 142 = some (.iconst 1, 1, (0, 0, 0, [])) := rfl
set_option maxRecDepth 20000 in
theorem l_Mo_like_143 : xlk (xm_cd m_Mo_like) 143 = some (.iadd, 1, (0, 0, 0, [])) := rfl
set_option maxRecDepth 20000 in
theorem l_Mo_like_144 : xlk (xm_cd m_Mo_like) 144 = some (.imul, 1, (0, 0, 0, [])) := rfl
set_option maxRecDepth 20000 in
theorem l_Mo_like_145 : xlk (xm_cd m_Mo_like) 145 = some (.iload 6, 2, (0, 0, 0, [])) := rfl
set_option maxRecDepth 20000 in
theorem l_Mo_like_147 : xlk (xm_cd m_Mo_like) 147 = some (.iadd, 1, (0, 0, 0, [])) := rfl
set_option maxRecDepth 20000 in
theorem l_Mo_like_148 : xlk (xm_cd m_Mo_like) 148 = some (.iconst 1, 1, (0, 0, 0, [])) := rfl
set_option maxRecDepth 20000 in
theorem l_Mo_like_149 : xlk (xm_cd m_Mo_like) 149 = some (.iadd, 1, (0, 0, 0, [])) := rfl
set_option maxRecDepth 20000 in
theorem l_Mo_like_150 : xlk (xm_cd m_Mo_like) 150 = some (.iaload, 1, (0, 0, 0, [])) := rfl
set_option maxRecDepth 20000 in
theorem l_Mo_like_151 : xlk (xm_cd m_Mo_like) 151 = some (.iconst 1, 1, (0, 0, 0, [])) := rfl
set_option maxRecDepth 20000 in
theorem l_Mo_like_152 : xlk (xm_cd m_Mo_like) 152 = some (.iadd, 1, (0, 0, 0, [])) := rfl
set_option maxRecDepth 20000 in
theorem l_Mo_like_153 : xlk (xm_cd m_Mo_like) 153 = some (.istore 7, 2, (0, 0, 0, [])) := rfl
set_option maxRecDepth 20000 in
theorem l_Mo_like_155 : xlk (xm_cd m_Mo_like) 155 = some (.aload_n 0, 1, (0, 0, 0, [])) := rfl
set_option maxRecDepth 20000 in
theorem l_Mo_like_156 : xlk (xm_cd m_Mo_like) 156 = some (.getfield 78, 3, (875, 11, 26, [])) := rfl
set_option maxRecDepth 20000 in
theorem l_Mo_like_159 : xlk (xm_cd m_Mo_like) 159 = some (.bipush 50, 2, (0, 0, 0, [])) := rfl
set_option maxRecDepth 20000 in
theorem l_Mo_like_161 : xlk (xm_cd m_Mo_like) 161 = some (.iload 5, 2, (0, 0, 0, [])) := rfl
set_option maxRecDepth 20000 in
theorem l_Mo_like_163 : xlk (xm_cd m_Mo_like) 163 = some (.imul, 1, (0, 0, 0, [])) := rfl
set_option maxRecDepth 20000 in
theorem l_Mo_like_164 : xlk (xm_cd m_Mo_like) 164 = some (.iload 6, 2, (0, 0, 0, [])) := rfl
set_option maxRecDepth 20000 in
theorem l_Mo_like_166 : xlk (xm_cd m_Mo_like) 166 = some (.iadd, 1, (0, 0, 0, [])) := rfl
set_option maxRecDepth 20000 in
theorem l_Mo_like_167 : xlk (xm_cd m_Mo_like) 167 = some (.iload 7, 2, (0, 0, 0, [])) := rfl
set_option maxRecDepth 20000 in
theorem l_Mo_like_169 : xlk (xm_cd m_Mo_like) 169 = some (.iastore, 1, (0, 0, 0, [])) := rfl
set_option maxRecDepth 20000 in
theorem l_Mo_like_170 : xlk (xm_cd m_Mo_like) 170 = some (.iinc 6 (-1), 3, (0, 0, 0, [])) := rfl
set_option maxRecDepth 20000 in
theorem l_Mo_like_173 : xlk (xm_cd m_Mo_like) 173 = some (.goto (-137), 3, (0, 36, 0, [])) := rfl
set_option maxRecDepth 20000 in
theorem l_Mo_like_176 : xlk (xm_cd m_Mo_like) 176 = some (.iinc 5 (-1), 3, (0, 0, 0, [])) := rfl
set_option maxRecDepth 20000 in
theorem l_Mo_like_179 : xlk (xm_cd m_Mo_like) 179 = some (.goto (-152), 3, (0, 27, 0, [])) := rfl
set_option maxRecDepth 20000 in
theorem l_Mo_like_182 : xlk (xm_cd m_Mo_like) 182 = some (.sipush 2000, 3, (0, 0, 0, [])) := rfl
set_option maxRecDepth 20000 in
theorem l_Mo_like_185 : xlk (xm_cd m_Mo_like) 185 = some (.aload_n 0, 1, (0, 0, 0, [])) := rfl
set_option maxRecDepth 20000 in
theorem l_Mo_like_186 : xlk (xm_cd m_Mo_like) 186 = some (.getfield 78, 3, (875, 11, 26, [])) := rfl
set_option maxRecDepth 20000 in
theorem l_Mo_like_189 : xlk (xm_cd m_Mo_like) 189 = some (.iconst 0, 1, (0, 0, 0, [])) := rfl
set_option maxRecDepth 20000 in
theorem l_Mo_like_190 : xlk (xm_cd m_Mo_like) 190 = some (.iaload, 1, (0, 0, 0, [])) := rfl
set_option maxRecDepth 20000 in
theorem l_Mo_like_191 : xlk (xm_cd m_Mo_like) 191 = some (.imul, 1, (0, 0, 0, [])) := rfl
set_option maxRecDepth 20000 in
theorem l_Mo_like_192 : xlk (xm_cd m_Mo_like) 192 = some (.iload_n 3, 1, (0, 0, 0, [])) := rfl
set_option maxRecDepth 20000 in
theorem l_Mo_like_193 : xlk (xm_cd m_Mo_like) 193 = some (.iload 4, 2, (0, 0, 0, [])) := rfl
set_option maxRecDepth 20000 in
theorem l_Mo_like_195 : xlk (xm_cd m_Mo_like) 195 = some (.iadd, 1, (0, 0, 0, [])) := rfl
set_option maxRecDepth 20000 in
theorem l_Mo_like_196 : xlk (xm_cd m_Mo_like) 196 = some (.idiv, 1, (0, 0, 0, [])) := rfl
set_option maxRecDepth 20000 in
theorem l_Mo_like_197 : xlk (xm_cd m_Mo_like) 197 = some (.ireturn, 1, (0, 0, 0, [])) := rfl
def B_Mo_like_0 (d : Nat) (E : Option Value → xH → Prop) (f : xH) (a0 : Nat) (x1 : Int32) (x2 : Int32) : Prop :=
  xgr f a0 11 8 (fun r1 => xal f r1 0 x1 (fun v2 => xgr f a0 11 8 (fun r3 => xal f r3 0 x2 (fun v4 => xbr (¬ (v2 + v4) = 0) (xWp (xT0, xSp xT0 d, none, m_Mo_like, E) 27 [some (.ref a0), some (.int x1), some (.int x2), some (.int v2), some (.int v4), some (.int v2), none, none, none, none] [] f 0 0) (E (some (.int 0)) f)))))
theorem b_Mo_like_0 {d : Nat} {E : Option Value → xH → Prop} {f : xH} {a0 : Nat} {x1 : Int32} {x2 : Int32} (h : B_Mo_like_0 d E f a0 x1 x2) : xWp (xT0, xSp xT0 d, none, m_Mo_like, E) 0 [some (.ref a0), some (.int x1), some (.int x2), none, none, none, none, none, none, none] [] f 0 0 := by
  unfold B_Mo_like_0 at h
  refine s_aln l_Mo_like_0 rfl ?_
  refine s_gr l_Mo_like_1 h (fun r1 h => ?_)
  refine s_iln l_Mo_like_4 rfl ?_
  refine s_ial l_Mo_like_5 rfl h (fun v2 h => ?_)
  refine s_isn l_Mo_like_6 (Nat.le_of_ble_eq_true rfl) ?_
  refine s_aln l_Mo_like_7 rfl ?_
  refine s_gr l_Mo_like_8 h (fun r3 h => ?_)
  refine s_iln l_Mo_like_11 rfl ?_
  refine s_ial l_Mo_like_12 rfl h (fun v4 h => ?_)
  refine s_is l_Mo_like_13 (Nat.le_of_ble_eq_true rfl) ?_
  refine s_iln l_Mo_like_15 rfl ?_
  refine s_il l_Mo_like_16 rfl ?_
  refine s_iadd l_Mo_like_18 ?_
  refine s_if l_Mo_like_19 h (fun h => ?_) (fun h => ?_)
  · refine s_iln l_Mo_like_24 rfl ?_
    refine s_is l_Mo_like_25 (Nat.le_of_ble_eq_true rfl) ?_
    exact h
  · refine s_ic 0 l_Mo_like_22 rfl ?_
    exact s_iret l_Mo_like_23 rfl ⟨Nat.zero_le _, Nat.zero_le _⟩ h
def B_Mo_like_27 (d : Nat) (E : Option Value → xH → Prop) (f : xH) (a0 : Nat) (x1 : Int32) (x2 : Int32) (x3 : Int32) (x4 : Int32) (x5 : Int32) (u6 : Option Value) (u7 : Option Value) (u8 : Option Value) (u9 : Option Value) : Prop :=
  xbr (x5 < 0) (xgr f a0 11 26 (fun r1 => xal f r1 0 0 (fun v2 => (¬ (x3 + x4) = (0 : Int32)) ∧ (E (some (.int ((2000 * v2) / (x3 + x4)))) f)))) (xWp (xT0, xSp xT0 d, none, m_Mo_like, E) 36 [some (.ref a0), some (.int x1), some (.int x2), some (.int x3), some (.int x4), some (.int x5), some (.int x4), u7, u8, u9] [] f 0 0)
theorem b_Mo_like_27 {d : Nat} {E : Option Value → xH → Prop} {f : xH} {a0 : Nat} {x1 : Int32} {x2 : Int32} {x3 : Int32} {x4 : Int32} {x5 : Int32} {u6 : Option Value} {u7 : Option Value} {u8 : Option Value} {u9 : Option Value} (h : B_Mo_like_27 d E f a0 x1 x2 x3 x4 x5 u6 u7 u8 u9) : xWp (xT0, xSp xT0 d, none, m_Mo_like, E) 27 [some (.ref a0), some (.int x1), some (.int x2), some (.int x3), some (.int x4), some (.int x5), u6, u7, u8, u9] [] f 0 0 := by
  unfold B_Mo_like_27 at h
  refine s_il l_Mo_like_27 rfl ?_
  refine s_if l_Mo_like_29 h (fun h => ?_) (fun h => ?_)
  · refine s_sp 2000 l_Mo_like_182 rfl ?_
    refine s_aln l_Mo_like_185 rfl ?_
    refine s_gr l_Mo_like_186 h (fun r1 h => ?_)
    refine s_ic 0 l_Mo_like_189 rfl ?_
    refine s_ial l_Mo_like_190 rfl h (fun v2 h => ?_)
    refine s_imul l_Mo_like_191 ?_
    refine s_iln l_Mo_like_192 rfl ?_
    refine s_il l_Mo_like_193 rfl ?_
    refine s_iadd l_Mo_like_195 ?_
    refine s_div l_Mo_like_196 ⟨h.1, ?_⟩
    have h := h.2
    exact s_iret l_Mo_like_197 rfl ⟨Nat.zero_le _, Nat.zero_le _⟩ h
  · refine s_il l_Mo_like_32 rfl ?_
    refine s_is l_Mo_like_34 (Nat.le_of_ble_eq_true rfl) ?_
    exact h
def B_Mo_like_36 (d : Nat) (E : Option Value → xH → Prop) (f : xH) (a0 : Nat) (x1 : Int32) (x2 : Int32) (x3 : Int32) (x4 : Int32) (x5 : Int32) (x6 : Int32) (u7 : Option Value) (u8 : Option Value) (u9 : Option Value) : Prop :=
  xbr (x6 < 0) (xWp (xT0, xSp xT0 d, none, m_Mo_like, E) 27 [some (.ref a0), some (.int x1), some (.int x2), some (.int x3), some (.int x4), some (.int (x5 + (-1))), some (.int x6), u7, u8, u9] [] f 0 0) (xbr (x3 ≤ x5) (xWp (xT0, xSp xT0 d, none, m_Mo_like, E) 155 [some (.ref a0), some (.int x1), some (.int x2), some (.int x3), some (.int x4), some (.int x5), some (.int x6), some (.int 0), u8, u9] [] f 0 0) (xbr (x4 ≤ x6) (xWp (xT0, xSp xT0 d, none, m_Mo_like, E) 155 [some (.ref a0), some (.int x1), some (.int x2), some (.int x3), some (.int x4), some (.int x5), some (.int x6), some (.int 0), u8, u9] [] f 0 0) (xgr f a0 11 26 (fun r1 => xal f r1 0 ((50 * (x5 + 1)) + x6) (fun v2 => xgr f a0 11 26 (fun r3 => xal f r3 0 (((50 * x5) + x6) + 1) (fun v4 => xbr (v2 ≤ v4) (xWp (xT0, xSp xT0 d, none, m_Mo_like, E) 105 [some (.ref a0), some (.int x1), some (.int x2), some (.int x3), some (.int x4), some (.int x5), some (.int x6), some (.int 0), some (.int v2), some (.int v4)] [.int v4] f 0 0) (xWp (xT0, xSp xT0 d, none, m_Mo_like, E) 105 [some (.ref a0), some (.int x1), some (.int x2), some (.int x3), some (.int x4), some (.int x5), some (.int x6), some (.int 0), some (.int v2), some (.int v4)] [.int v2] f 0 0))))))))
theorem b_Mo_like_36 {d : Nat} {E : Option Value → xH → Prop} {f : xH} {a0 : Nat} {x1 : Int32} {x2 : Int32} {x3 : Int32} {x4 : Int32} {x5 : Int32} {x6 : Int32} {u7 : Option Value} {u8 : Option Value} {u9 : Option Value} (h : B_Mo_like_36 d E f a0 x1 x2 x3 x4 x5 x6 u7 u8 u9) : xWp (xT0, xSp xT0 d, none, m_Mo_like, E) 36 [some (.ref a0), some (.int x1), some (.int x2), some (.int x3), some (.int x4), some (.int x5), some (.int x6), u7, u8, u9] [] f 0 0 := by
  unfold B_Mo_like_36 at h
  refine s_il l_Mo_like_36 rfl ?_
  refine s_if l_Mo_like_38 h (fun h => ?_) (fun h => ?_)
  · refine s_inc (-1) l_Mo_like_176 rfl rfl ?_
    refine s_goto l_Mo_like_179 ?_
    exact h
  · refine s_ic 0 l_Mo_like_41 rfl ?_
    refine s_is l_Mo_like_42 (Nat.le_of_ble_eq_true rfl) ?_
    refine s_il l_Mo_like_44 rfl ?_
    refine s_iln l_Mo_like_46 rfl ?_
    refine s_ifc l_Mo_like_47 h (fun h => ?_) (fun h => ?_)
    · exact h
    · refine s_il l_Mo_like_50 rfl ?_
      refine s_il l_Mo_like_52 rfl ?_
      refine s_ifc l_Mo_like_54 h (fun h => ?_) (fun h => ?_)
      · exact h
      · refine s_aln l_Mo_like_57 rfl ?_
        refine s_gr l_Mo_like_58 h (fun r1 h => ?_)
        refine s_bp 50 l_Mo_like_61 rfl ?_
        refine s_il l_Mo_like_63 rfl ?_
        refine s_ic 1 l_Mo_like_65 rfl ?_
        refine s_iadd l_Mo_like_66 ?_
        refine s_imul l_Mo_like_67 ?_
        refine s_il l_Mo_like_68 rfl ?_
        refine s_iadd l_Mo_like_70 ?_
        refine s_ial l_Mo_like_71 rfl h (fun v2 h => ?_)
        refine s_is l_Mo_like_72 (Nat.le_of_ble_eq_true rfl) ?_
        refine s_aln l_Mo_like_74 rfl ?_
        refine s_gr l_Mo_like_75 h (fun r3 h => ?_)
        refine s_bp 50 l_Mo_like_78 rfl ?_
        refine s_il l_Mo_like_80 rfl ?_
        refine s_imul l_Mo_like_82 ?_
        refine s_il l_Mo_like_83 rfl ?_
        refine s_iadd l_Mo_like_85 ?_
        refine s_ic 1 l_Mo_like_86 rfl ?_
        refine s_iadd l_Mo_like_87 ?_
        refine s_ial l_Mo_like_88 rfl h (fun v4 h => ?_)
        refine s_is l_Mo_like_89 (Nat.le_of_ble_eq_true rfl) ?_
        refine s_il l_Mo_like_91 rfl ?_
        refine s_il l_Mo_like_93 rfl ?_
        refine s_ifc l_Mo_like_95 h (fun h => ?_) (fun h => ?_)
        · refine s_il l_Mo_like_103 rfl ?_
          exact h
        · refine s_il l_Mo_like_98 rfl ?_
          refine s_goto l_Mo_like_100 ?_
          exact h
def B_Mo_like_105 (d : Nat) (E : Option Value → xH → Prop) (f : xH) (a0 : Nat) (x1 : Int32) (x2 : Int32) (x3 : Int32) (x4 : Int32) (x5 : Int32) (x6 : Int32) (x7 : Int32) (x8 : Int32) (x9 : Int32) (s0 : Int32) : Prop :=
  xgr f a0 11 7 (fun r1 => xal f r1 2 ((48 * x1) + x5) (fun v2 => xgr f a0 11 7 (fun r3 => xal f r3 2 ((48 * x2) + x6) (fun v4 => xbr (¬ v2 = v4) (xWp (xT0, xSp xT0 d, none, m_Mo_like, E) 155 [some (.ref a0), some (.int x1), some (.int x2), some (.int x3), some (.int x4), some (.int x5), some (.int x6), some (.int s0), some (.int x8), some (.int x9)] [] f 0 0) (xgr f a0 11 26 (fun r5 => xal f r5 0 (((50 * (x5 + 1)) + x6) + 1) (fun v6 => xWp (xT0, xSp xT0 d, none, m_Mo_like, E) 155 [some (.ref a0), some (.int x1), some (.int x2), some (.int x3), some (.int x4), some (.int x5), some (.int x6), some (.int (v6 + 1)), some (.int x8), some (.int x9)] [] f 0 0)))))))
theorem b_Mo_like_105 {d : Nat} {E : Option Value → xH → Prop} {f : xH} {a0 : Nat} {x1 : Int32} {x2 : Int32} {x3 : Int32} {x4 : Int32} {x5 : Int32} {x6 : Int32} {x7 : Int32} {x8 : Int32} {x9 : Int32} {s0 : Int32} (h : B_Mo_like_105 d E f a0 x1 x2 x3 x4 x5 x6 x7 x8 x9 s0) : xWp (xT0, xSp xT0 d, none, m_Mo_like, E) 105 [some (.ref a0), some (.int x1), some (.int x2), some (.int x3), some (.int x4), some (.int x5), some (.int x6), some (.int x7), some (.int x8), some (.int x9)] [.int s0] f 0 0 := by
  unfold B_Mo_like_105 at h
  refine s_is l_Mo_like_105 (Nat.le_of_ble_eq_true rfl) ?_
  refine s_aln l_Mo_like_107 rfl ?_
  refine s_gr l_Mo_like_108 h (fun r1 h => ?_)
  refine s_bp 48 l_Mo_like_111 rfl ?_
  refine s_iln l_Mo_like_113 rfl ?_
  refine s_imul l_Mo_like_114 ?_
  refine s_il l_Mo_like_115 rfl ?_
  refine s_iadd l_Mo_like_117 ?_
  refine s_bal l_Mo_like_118 (Or.inr rfl) h (fun v2 h => ?_)
  refine s_aln l_Mo_like_119 rfl ?_
  refine s_gr l_Mo_like_120 h (fun r3 h => ?_)
  refine s_bp 48 l_Mo_like_123 rfl ?_
  refine s_iln l_Mo_like_125 rfl ?_
  refine s_imul l_Mo_like_126 ?_
  refine s_il l_Mo_like_127 rfl ?_
  refine s_iadd l_Mo_like_129 ?_
  refine s_bal l_Mo_like_130 (Or.inr rfl) h (fun v4 h => ?_)
  refine s_ifc l_Mo_like_131 h (fun h => ?_) (fun h => ?_)
  · exact h
  · refine s_aln l_Mo_like_134 rfl ?_
    refine s_gr l_Mo_like_135 h (fun r5 h => ?_)
    refine s_bp 50 l_Mo_like_138 rfl ?_
    refine s_il l_Mo_like_140 rfl ?_
    refine s_ic 1 l_Mo_like_142 rfl ?_
    refine s_iadd l_Mo_like_143 ?_
    refine s_imul l_Mo_like_144 ?_
    refine s_il l_Mo_like_145 rfl ?_
    refine s_iadd l_Mo_like_147 ?_
    refine s_ic 1 l_Mo_like_148 rfl ?_
    refine s_iadd l_Mo_like_149 ?_
    refine s_ial l_Mo_like_150 rfl h (fun v6 h => ?_)
    refine s_ic 1 l_Mo_like_151 rfl ?_
    refine s_iadd l_Mo_like_152 ?_
    refine s_is l_Mo_like_153 (Nat.le_of_ble_eq_true rfl) ?_
    exact h
def B_Mo_like_155 (d : Nat) (E : Option Value → xH → Prop) (f : xH) (a0 : Nat) (x1 : Int32) (x2 : Int32) (x3 : Int32) (x4 : Int32) (x5 : Int32) (x6 : Int32) (x7 : Int32) (u8 : Option Value) (u9 : Option Value) : Prop :=
  xgr f a0 11 26 (fun r1 => xas f r1 0 ((50 * x5) + x6) x7 (fun f2 => xWp (xT0, xSp xT0 d, none, m_Mo_like, E) 36 [some (.ref a0), some (.int x1), some (.int x2), some (.int x3), some (.int x4), some (.int x5), some (.int (x6 + (-1))), some (.int x7), u8, u9] [] f2 0 0))
theorem b_Mo_like_155 {d : Nat} {E : Option Value → xH → Prop} {f : xH} {a0 : Nat} {x1 : Int32} {x2 : Int32} {x3 : Int32} {x4 : Int32} {x5 : Int32} {x6 : Int32} {x7 : Int32} {u8 : Option Value} {u9 : Option Value} (h : B_Mo_like_155 d E f a0 x1 x2 x3 x4 x5 x6 x7 u8 u9) : xWp (xT0, xSp xT0 d, none, m_Mo_like, E) 155 [some (.ref a0), some (.int x1), some (.int x2), some (.int x3), some (.int x4), some (.int x5), some (.int x6), some (.int x7), u8, u9] [] f 0 0 := by
  unfold B_Mo_like_155 at h
  refine s_aln l_Mo_like_155 rfl ?_
  refine s_gr l_Mo_like_156 h (fun r1 h => ?_)
  refine s_bp 50 l_Mo_like_159 rfl ?_
  refine s_il l_Mo_like_161 rfl ?_
  refine s_imul l_Mo_like_163 ?_
  refine s_il l_Mo_like_164 rfl ?_
  refine s_iadd l_Mo_like_166 ?_
  refine s_il l_Mo_like_167 rfl ?_
  refine s_iast l_Mo_like_169 h (fun f2 h => ?_)
  refine s_inc (-1) l_Mo_like_170 rfl rfl ?_
  refine s_goto l_Mo_like_173 ?_
  exact h
theorem l_Mo_step_0 : xlk (xm_cd m_Mo_step) 0 = some (.aload_n 0, 1, (0, 0, 0, [])) := rfl
theorem l_Mo_step_1 : xlk (xm_cd m_Mo_step) 1 = some (.iconst 0, 1, (0, 0, 0, [])) := rfl
theorem l_Mo_step_2 : xlk (xm_cd m_Mo_step) 2 = some (.putfield 1, 3, (849, 11, 0, [(0, 0)])) := rfl
theorem l_Mo_step_5 : xlk (xm_cd m_Mo_step) 5 = some (.aload_n 0, 1, (0, 0, 0, [])) := rfl
theorem l_Mo_step_6 : xlk (xm_cd m_Mo_step) 6 = some (.iload_n 1, 1, (0, 0, 0, [])) := rfl
theorem l_Mo_step_7 : xlk (xm_cd m_Mo_step) 7 = some (.invokevirtual 257, 3, (1081, 185, 1, [])) := rfl
theorem l_Mo_step_10 : xlk (xm_cd m_Mo_step) 10 = some (.ifCond .ne 15, 3, (0, 25, 0, [])) := rfl
theorem l_Mo_step_13 : xlk (xm_cd m_Mo_step) 13 = some (.iload_n 3, 1, (0, 0, 0, [])) := rfl
theorem l_Mo_step_14 : xlk (xm_cd m_Mo_step) 14 = some (.i2l, 1, (0, 0, 0, [])) := rfl
theorem l_Mo_step_15 : xlk (xm_cd m_Mo_step) 15 = some (.lconst 0, 1, (0, 0, 0, [])) := rfl
theorem l_Mo_step_16 : xlk (xm_cd m_Mo_step) 16 = some (.ldc2_w 260, 3, (1084, 0, 0, [(9, 0)])) := rfl
theorem l_Mo_step_19 : xlk (xm_cd m_Mo_step) 19 = some (.invokestatic 132, 3, (955, 0, 0, [(2, 2)])) := rfl
theorem l_Mo_step_22 : xlk (xm_cd m_Mo_step) 22 = some (.ifCond .ne 5, 3, (0, 27, 0, [])) := rfl
theorem l_Mo_step_25 : xlk (xm_cd m_Mo_step) 25 = some (.iconst (-1), 1, (0, 0, 0, [])) := rfl
theorem l_Mo_step_26 : xlk (xm_cd m_Mo_step) 26 = some (.ireturn, 1, (0, 0, 0, [])) := rfl
theorem l_Mo_step_27 : xlk (xm_cd m_Mo_step) 27 = some (.iload_n 3, 1, (0, 0, 0, [])) := rfl
theorem l_Mo_step_28 : xlk (xm_cd m_Mo_step) 28 = some (.bipush 9, 2, (0, 0, 0, [])) := rfl
theorem l_Mo_step_30 : xlk (xm_cd m_Mo_step) 30 = some (.if_icmp .ne 10, 3, (0, 40, 0, [])) := rfl
theorem l_Mo_step_33 : xlk (xm_cd m_Mo_step) 33 = some (.aload_n 0, 1, (0, 0, 0, [])) := rfl
theorem l_Mo_step_34 : xlk (xm_cd m_Mo_step) 34 = some (.getfield 69, 3, (871, 11, 22, [])) := rfl
theorem l_Mo_step_37 : xlk (xm_cd m_Mo_step) 37 = some (.iload_n 1, 1, (0, 0, 0, [])) := rfl
theorem l_Mo_step_38 : xlk (xm_cd m_Mo_step) 38 = some (.iaload, 1, (0, 0, 0, [])) := rfl
theorem l_Mo_step_39 : xlk (xm_cd m_Mo_step) 39 = some (.ireturn, 1, (0, 0, 0, [])) := rfl
theorem l_Mo_step_40 : xlk (xm_cd m_Mo_step) 40 = some (.iload_n 2, 1, (0, 0, 0, [])) := rfl
theorem l_Mo_step_41 : xlk (xm_cd m_Mo_step) 41 = some (.i2l, 1, (0, 0, 0, [])) := rfl
theorem l_Mo_step_42 : xlk (xm_cd m_Mo_step) 42 = some (.lconst 0, 1, (0, 0, 0, [])) := rfl
theorem l_Mo_step_43 : xlk (xm_cd m_Mo_step) 43 = some (.aload_n 0, 1, (0, 0, 0, [])) := rfl
theorem l_Mo_step_44 : xlk (xm_cd m_Mo_step) 44 = some (.getfield 69, 3, (871, 11, 22, [])) := rfl
theorem l_Mo_step_47 : xlk (xm_cd m_Mo_step) 47 = some (.iload_n 1, 1, (0, 0, 0, [])) := rfl
theorem l_Mo_step_48 : xlk (xm_cd m_Mo_step) 48 = some (.iaload, 1, (0, 0, 0, [])) := rfl
theorem l_Mo_step_49 : xlk (xm_cd m_Mo_step) 49 = some (.iconst 1, 1, (0, 0, 0, [])) := rfl
theorem l_Mo_step_50 : xlk (xm_cd m_Mo_step) 50 = some (.isub, 1, (0, 0, 0, [])) := rfl
theorem l_Mo_step_51 : xlk (xm_cd m_Mo_step) 51 = some (.i2l, 1, (0, 0, 0, [])) := rfl
theorem l_Mo_step_52 : xlk (xm_cd m_Mo_step) 52 = some (.invokestatic 132, 3, (955, 0, 0, [(2, 2)])) := rfl
theorem l_Mo_step_55 : xlk (xm_cd m_Mo_step) 55 = some (.ifCond .ne 5, 3, (0, 60, 0, [])) := rfl
theorem l_Mo_step_58 : xlk (xm_cd m_Mo_step) 58 = some (.iconst (-1), 1, (0, 0, 0, [])) := rfl
theorem l_Mo_step_59 : xlk (xm_cd m_Mo_step) 59 = some (.ireturn, 1, (0, 0, 0, [])) := rfl
theorem l_Mo_step_60 : xlk (xm_cd m_Mo_step) 60 = some (.bipush 24, 2, (0, 0, 0, [])) := rfl
theorem l_Mo_step_62 : xlk (xm_cd m_Mo_step) 62 = some (.iload_n 1, 1, (0, 0, 0, [])) := rfl
theorem l_Mo_step_63 : xlk (xm_cd m_Mo_step) 63 = some (.imul, 1, (0, 0, 0, [])) := rfl
theorem l_Mo_step_64 : xlk (xm_cd m_Mo_step) 64 = some (.iload_n 2, 1, (0, 0, 0, [])) := rfl
theorem l_Mo_step_65 : xlk (xm_cd m_Mo_step) 65 = some (.iadd, 1, (0, 0, 0, [])) := rfl
theorem l_Mo_step_66 : xlk (xm_cd m_Mo_step) 66 = some (.istore 4, 2, (0, 0, 0, [])) := rfl
theorem l_Mo_step_68 : xlk (xm_cd m_Mo_step) 68 = some (.iload_n 3, 1, (0, 0, 0, [])) := rfl
theorem l_Mo_step_69 : xlk (xm_cd m_Mo_step) 69 = some (.tableswitch 129 0 7 #[47, 55, 63, 71, 79, 87, 95, 103], 47, (0, 198, 0, [(0, 116), (1, 124), (2, 132), (3, 140), (4, 148), (5, 156), (6, 164), (7, 172)])) := rfl
theorem l_Mo_step_116 : xlk (xm_cd m_Mo_step) 116 = some (.aload_n 0, 1, (0, 0, 0, [])) := rfl
theorem l_Mo_step_117 : xlk (xm_cd m_Mo_step) 117 = some (.getfield 36, 3, (860, 11, 11, [])) := rfl
theorem l_Mo_step_120 : xlk (xm_cd m_Mo_step) 120 = some (.iload 4, 2, (0, 0, 0, [])) := rfl
theorem l_Mo_step_122 : xlk (xm_cd m_Mo_step) 122 = some (.iaload, 1, (0, 0, 0, [])) := rfl
theorem l_Mo_step_123 : xlk (xm_cd m_Mo_step) 123 = some (.ireturn, 1, (0, 0, 0, [])) := rfl
theorem l_Mo_step_124 : xlk (xm_cd m_Mo_step) 124 = some (.aload_n 0, 1, (0, 0, 0, [])) := rfl
theorem l_Mo_step_125 : xlk (xm_cd m_Mo_step) 125 = some (.getfield 51, 3, (865, 11, 16, [])) := rfl
theorem l_Mo_step_128 : xlk (xm_cd m_Mo_step) 128 = some (.iload 4, 2, (0, 0, 0, [])) := rfl
theorem l_Mo_step_130 : xlk (xm_cd m_Mo_step) 130 = some (.iaload, 1, (0, 0, 0, [])) := rfl
theorem l_Mo_step_131 : xlk (xm_cd m_Mo_step) 131 = some (.ireturn, 1, (0, 0, 0, [])) := rfl
theorem l_Mo_step_132 : xlk (xm_cd m_Mo_step) 132 = some (.aload_n 0, 1, (0, 0, 0, [])) := rfl
theorem l_Mo_step_133 : xlk (xm_cd m_Mo_step) 133 = some (.getfield 54, 3, (866, 11, 17, [])) := rfl
theorem l_Mo_step_136 : xlk (xm_cd m_Mo_step) 136 = some (.iload 4, 2, (0, 0, 0, [])) := rfl
theorem l_Mo_step_138 : xlk (xm_cd m_Mo_step) 138 = some (.iaload, 1, (0, 0, 0, [])) := rfl
theorem l_Mo_step_139 : xlk (xm_cd m_Mo_step) 139 = some (.ireturn, 1, (0, 0, 0, [])) := rfl
theorem l_Mo_step_140 : xlk (xm_cd m_Mo_step) 140 = some (.aload_n 0, 1, (0, 0, 0, [])) := rfl
theorem l_Mo_step_141 : xlk (xm_cd m_Mo_step) 141 = some (.getfield 57, 3, (867, 11, 18, [])) := rfl
theorem l_Mo_step_144 : xlk (xm_cd m_Mo_step) 144 = some (.iload 4, 2, (0, 0, 0, [])) := rfl
theorem l_Mo_step_146 : xlk (xm_cd m_Mo_step) 146 = some (.iaload, 1, (0, 0, 0, [])) := rfl
theorem l_Mo_step_147 : xlk (xm_cd m_Mo_step) 147 = some (.ireturn, 1, (0, 0, 0, [])) := rfl
theorem l_Mo_step_148 : xlk (xm_cd m_Mo_step) 148 = some (.aload_n 0, 1, (0, 0, 0, [])) := rfl
theorem l_Mo_step_149 : xlk (xm_cd m_Mo_step) 149 = some (.getfield 60, 3, (868, 11, 19, [])) := rfl
theorem l_Mo_step_152 : xlk (xm_cd m_Mo_step) 152 = some (.iload 4, 2, (0, 0, 0, [])) := rfl
theorem l_Mo_step_154 : xlk (xm_cd m_Mo_step) 154 = some (.iaload, 1, (0, 0, 0, [])) := rfl
theorem l_Mo_step_155 : xlk (xm_cd m_Mo_step) 155 = some (.ireturn, 1, (0, 0, 0, [])) := rfl
theorem l_Mo_step_156 : xlk (xm_cd m_Mo_step) 156 = some (.aload_n 0, 1, (0, 0, 0, [])) := rfl
theorem l_Mo_step_157 : xlk (xm_cd m_Mo_step) 157 = some (.getfield 42, 3, (862, 11, 13, [])) := rfl
theorem l_Mo_step_160 : xlk (xm_cd m_Mo_step) 160 = some (.iload 4, 2, (0, 0, 0, [])) := rfl
theorem l_Mo_step_162 : xlk (xm_cd m_Mo_step) 162 = some (.iaload, 1, (0, 0, 0, [])) := rfl
theorem l_Mo_step_163 : xlk (xm_cd m_Mo_step) 163 = some (.ireturn, 1, (0, 0, 0, [])) := rfl
theorem l_Mo_step_164 : xlk (xm_cd m_Mo_step) 164 = some (.aload_n 0, 1, (0, 0, 0, [])) := rfl
theorem l_Mo_step_165 : xlk (xm_cd m_Mo_step) 165 = some (.getfield 48, 3, (864, 11, 15, [])) := rfl
theorem l_Mo_step_168 : xlk (xm_cd m_Mo_step) 168 = some (.iload 4, 2, (0, 0, 0, [])) := rfl
theorem l_Mo_step_170 : xlk (xm_cd m_Mo_step) 170 = some (.iaload, 1, (0, 0, 0, [])) := rfl
theorem l_Mo_step_171 : xlk (xm_cd m_Mo_step) 171 = some (.ireturn, 1, (0, 0, 0, [])) := rfl
theorem l_Mo_step_172 : xlk (xm_cd m_Mo_step) 172 = some (.aload_n 0, 1, (0, 0, 0, [])) := rfl
set_option maxRecDepth 20000 in
theorem l_Mo_step_173 : xlk (xm_cd m_Mo_step) 173 = some (.aload_n 0, 1, (0, 0, 0, [])) := rfl
set_option maxRecDepth 20000 in
theorem l_Mo_step_174 : xlk (xm_cd m_Mo_step) 174 = some (.getfield 63, 3, (869, 11, 20, [])) := rfl
set_option maxRecDepth 20000 in
theorem l_Mo_step_177 : xlk (xm_cd m_Mo_step) 177 = some (.bipush 48, 2, (0, 0, 0, [])) := rfl
set_option maxRecDepth 20000 in
theorem l_Mo_step_179 : xlk (xm_cd m_Mo_step) 179 = some (.iload 4, 2, (0, 0, 0, [])) := rfl
set_option maxRecDepth 20000 in
theorem l_Mo_step_181 : xlk (xm_cd m_Mo_step) 181 = some (.imul, 1, (0, 0, 0, [])) := rfl
set_option maxRecDepth 20000 in
theorem l_Mo_step_182 : xlk (xm_cd m_Mo_step) 182 = some (.aload_n 0, 1, (0, 0, 0, [])) := rfl
set_option maxRecDepth 20000 in
theorem l_Mo_step_183 : xlk (xm_cd m_Mo_step) 183 = some (.getfield 57, 3, (867, 11, 18, [])) := rfl
set_option maxRecDepth 20000 in
theorem l_Mo_step_186 : xlk (xm_cd m_Mo_step) 186 = some (.iload 4, 2, (0, 0, 0, [])) := rfl
set_option maxRecDepth 20000 in
theorem l_Mo_step_188 : xlk (xm_cd m_Mo_step) 188 = some (.iaload, 1, (0, 0, 0, [])) := rfl
set_option maxRecDepth 20000 in
theorem l_Mo_step_189 : xlk (xm_cd m_Mo_step) 189 = some (.invokestatic 262, 3, (1085, 186, 1, [])) := rfl
set_option maxRecDepth 20000 in
theorem l_Mo_step_192 : xlk (xm_cd m_Mo_step) 192 = some (.bipush (-2), 2, (0, 0, 0, [])) := rfl
set_option maxRecDepth 20000 in
theorem l_Mo_step_194 : xlk (xm_cd m_Mo_step) 194 = some (.invokevirtual 266, 3, (1088, 187, 4, [])) := rfl
set_option maxRecDepth 20000 in
theorem l_Mo_step_197 : xlk (xm_cd m_Mo_step) 197 = some (.ireturn, 1, (0, 0, 0, [])) := rfl
set_option maxRecDepth 20000 in
theorem l_Mo_step_198 : xlk (xm_cd m_Mo_step) 198 = some (.aload_n 0, 1, (0, 0, 0, [])) := rfl
set_option maxRecDepth 20000 in
theorem l_Mo_step_199 : xlk (xm_cd m_Mo_step) 199 = some (.aload_n 0, 1, (0, 0, 0, [])) := rfl
set_option maxRecDepth 20000 in
theorem l_Mo_step_200 : xlk (xm_cd m_Mo_step) 200 = some (.getfield 66, 3, (870, 11, 21, [])) := rfl
set_option maxRecDepth 20000 in
theorem l_Mo_step_203 : xlk (xm_cd m_Mo_step) 203 = some (.bipush 48, 2, (0, 0, 0, [])) := rfl
set_option maxRecDepth 20000 in
theorem l_Mo_step_205 : xlk (xm_cd m_Mo_step) 205 = some (.iload 4, 2, (0, 0, 0, [])) := rfl
set_option maxRecDepth 20000 in
theorem l_Mo_step_207 : xlk (xm_cd m_Mo_step) 207 = some (.imul, 1, (0, 0, 0, [])) := rfl
set_option maxRecDepth 20000 in
theorem l_Mo_step_208 : xlk (xm_cd m_Mo_step) 208 = some (.aload_n 0, 1, (0, 0, 0, [])) := rfl
set_option maxRecDepth 20000 in
theorem l_Mo_step_209 : xlk (xm_cd m_Mo_step) 209 = some (.getfield 51, 3, (865, 11, 16, [])) := rfl
set_option maxRecDepth 20000 in
theorem l_Mo_step_212 : xlk (xm_cd m_Mo_step) 212 = some (.iload 4, 2, (0, 0, 0, [])) := rfl
set_option maxRecDepth 20000 in
theorem l_Mo_step_214 : xlk (xm_cd m_Mo_step) 214 = some (.iaload, 1, (0, 0, 0, [])) := rfl
set_option maxRecDepth 20000 in
theorem l_Mo_step_215 : xlk (xm_cd m_Mo_step) 215 = some (.invokestatic 262, 3, (1085, 186, 1, [])) := rfl
set_option maxRecDepth 20000 in
theorem l_Mo_step_218 : xlk (xm_cd m_Mo_step) 218 = some (.bipush (-2), 2, (0, 0, 0, [])) := rfl
set_option maxRecDepth 20000 in
theorem l_Mo_step_220 : xlk (xm_cd m_Mo_step) 220 = some (.invokevirtual 266, 3, (1088, 187, 4, [])) := rfl
set_option maxRecDepth 20000 in
theorem l_Mo_step_223 : xlk (xm_cd m_Mo_step) 223 = some (.ireturn, 1, (0, 0, 0, [])) := rfl
def B_Mo_step_0 (d : Nat) (E : Option Value → xH → Prop) (f : xH) (a0 : Nat) (x1 : Int32) (x2 : Int32) (x3 : Int32) : Prop :=
  xpf f a0 11 0 (.int 0) (fun f1 => (∃ fs, f1 a0 = some (xO 11 fs)) ∧ xSp xT0 d j_Mo_noPatch [.ref a0, .int x1] f1 (fun w2 f3 => xvi w2 (fun v4 => xbr (¬ v4 = 0) (E (some (.int (-1))) f3) (xbr (¬ (if (0 : Int64) ≤ x3.toInt64 ∧ x3.toInt64 ≤ 9 then (1 : Int32) else 0) = 0) (xbr (¬ x3 = 9) (xgr f3 a0 11 22 (fun r5 => xal f3 r5 0 x1 (fun v6 => xbr (¬ (if (0 : Int64) ≤ x2.toInt64 ∧ x2.toInt64 ≤ (v6 - 1).toInt64 then (1 : Int32) else 0) = 0) (xbr (x3 = 0) (xgr f3 a0 11 11 (fun r7 => xal f3 r7 0 ((24 * x1) + x2) (fun v8 => E (some (.int v8)) f3))) (xbr (x3 = 1) (xgr f3 a0 11 16 (fun r9 => xal f3 r9 0 ((24 * x1) + x2) (fun v10 => E (some (.int v10)) f3))) (xbr (x3 = 2) (xgr f3 a0 11 17 (fun r11 => xal f3 r11 0 ((24 * x1) + x2) (fun v12 => E (some (.int v12)) f3))) (xbr (x3 = 3) (xgr f3 a0 11 18 (fun r13 => xal f3 r13 0 ((24 * x1) + x2) (fun v14 => E (some (.int v14)) f3))) (xbr (x3 = 4) (xgr f3 a0 11 19 (fun r15 => xal f3 r15 0 ((24 * x1) + x2) (fun v16 => E (some (.int v16)) f3))) (xbr (x3 = 5) (xgr f3 a0 11 13 (fun r17 => xal f3 r17 0 ((24 * x1) + x2) (fun v18 => E (some (.int v18)) f3))) (xbr (x3 = 6) (xgr f3 a0 11 15 (fun r19 => xal f3 r19 0 ((24 * x1) + x2) (fun v20 => E (some (.int v20)) f3))) (xbr (x3 = 7) (xgr f3 a0 11 20 (fun r21 => xgr f3 a0 11 18 (fun r22 => xal f3 r22 0 ((24 * x1) + x2) (fun v23 => xSp xT0 d j_Mo_bytesOf [.int v23] f3 (fun w24 f25 => xvi w24 (fun v26 => (∃ fs, f25 a0 = some (xO 11 fs)) ∧ xSp xT0 d j_Mo_pieces [.ref a0, .ref r21, .int (48 * ((24 * x1) + x2)), .int v26, .int (-2)] f25 (fun w27 f28 => xvi w27 (fun v29 => E (some (.int v29)) f28)))))))) (xgr f3 a0 11 21 (fun r30 => xgr f3 a0 11 16 (fun r31 => xal f3 r31 0 ((24 * x1) + x2) (fun v32 => xSp xT0 d j_Mo_bytesOf [.int v32] f3 (fun w33 f34 => xvi w33 (fun v35 => (∃ fs, f34 a0 = some (xO 11 fs)) ∧ xSp xT0 d j_Mo_pieces [.ref a0, .ref r30, .int (48 * ((24 * x1) + x2)), .int v35, .int (-2)] f34 (fun w36 f37 => xvi w36 (fun v38 => E (some (.int v38)) f37)))))))))))))))) (E (some (.int (-1))) f3)))) (xgr f3 a0 11 22 (fun r39 => xal f3 r39 0 x1 (fun v40 => E (some (.int v40)) f3)))) (E (some (.int (-1))) f3)))))
theorem b_Mo_step_0 {d : Nat} {E : Option Value → xH → Prop} {f : xH} {a0 : Nat} {x1 : Int32} {x2 : Int32} {x3 : Int32} (h : B_Mo_step_0 d E f a0 x1 x2 x3) : xWp (xT0, xSp xT0 d, none, m_Mo_step, E) 0 [some (.ref a0), some (.int x1), some (.int x2), some (.int x3), none] [] f 0 0 := by
  unfold B_Mo_step_0 at h
  refine s_aln l_Mo_step_0 rfl ?_
  refine s_ic 0 l_Mo_step_1 rfl ?_
  refine s_pf l_Mo_step_2 ⟨_, rfl⟩ h (fun f1 h => ?_)
  refine s_aln l_Mo_step_5 rfl ?_
  refine s_iln l_Mo_step_6 rfl ?_
  refine s_cvi (As := [.int x1]) (r := []) l_Mo_step_7 rfl ⟨rfl, rfl⟩ rfl (Nat.le_of_ble_eq_true rfl) rfl ⟨Nat.zero_le _, Nat.zero_le _⟩ h (fun v4 f3 h => ?_)
  refine s_if l_Mo_step_10 h (fun h => ?_) (fun h => ?_)
  · refine s_ic (-1) l_Mo_step_25 rfl ?_
    exact s_iret l_Mo_step_26 rfl ⟨Nat.zero_le _, Nat.zero_le _⟩ h
  · refine s_iln l_Mo_step_13 rfl ?_
    refine s_i2l l_Mo_step_14 ?_
    refine s_lc 0 l_Mo_step_15 rfl ?_
    refine s_ldc2 9 l_Mo_step_16 rfl ?_
    refine s_in l_Mo_step_19 (Nat.le_of_ble_eq_true rfl) ⟨Nat.zero_le _, Nat.zero_le _⟩ ?_
    refine s_if l_Mo_step_22 h (fun h => ?_) (fun h => ?_)
    · refine s_iln l_Mo_step_27 rfl ?_
      refine s_bp 9 l_Mo_step_28 rfl ?_
      refine s_ifc l_Mo_step_30 h (fun h => ?_) (fun h => ?_)
      · refine s_iln l_Mo_step_40 rfl ?_
        refine s_i2l l_Mo_step_41 ?_
        refine s_lc 0 l_Mo_step_42 rfl ?_
        refine s_aln l_Mo_step_43 rfl ?_
        refine s_gr l_Mo_step_44 h (fun r5 h => ?_)
        refine s_iln l_Mo_step_47 rfl ?_
        refine s_ial l_Mo_step_48 rfl h (fun v6 h => ?_)
        refine s_ic 1 l_Mo_step_49 rfl ?_
        refine s_isub l_Mo_step_50 ?_
        refine s_i2l l_Mo_step_51 ?_
        refine s_in l_Mo_step_52 (Nat.le_of_ble_eq_true rfl) ⟨Nat.zero_le _, Nat.zero_le _⟩ ?_
        refine s_if l_Mo_step_55 h (fun h => ?_) (fun h => ?_)
        · refine s_bp 24 l_Mo_step_60 rfl ?_
          refine s_iln l_Mo_step_62 rfl ?_
          refine s_imul l_Mo_step_63 ?_
          refine s_iln l_Mo_step_64 rfl ?_
          refine s_iadd l_Mo_step_65 ?_
          refine s_is l_Mo_step_66 (Nat.le_of_ble_eq_true rfl) ?_
          refine s_iln l_Mo_step_68 rfl ?_
          refine s_ts l_Mo_step_69 ⟨fun q0 => ?_, fun n0 => ⟨fun q1 => ?_, fun n1 => ⟨fun q2 => ?_, fun n2 => ⟨fun q3 => ?_, fun n3 => ⟨fun q4 => ?_, fun n4 => ⟨fun q5 => ?_, fun n5 => ⟨fun q6 => ?_, fun n6 => ⟨fun q7 => ?_, fun n7 => ?_⟩⟩⟩⟩⟩⟩⟩⟩
          · have h := (h).1 q0
            refine s_aln l_Mo_step_116 rfl ?_
            refine s_gr l_Mo_step_117 h (fun r7 h => ?_)
            refine s_il l_Mo_step_120 rfl ?_
            refine s_ial l_Mo_step_122 rfl h (fun v8 h => ?_)
            exact s_iret l_Mo_step_123 rfl ⟨Nat.zero_le _, Nat.zero_le _⟩ h
          · have h := ((h).2 n0).1 q1
            refine s_aln l_Mo_step_124 rfl ?_
            refine s_gr l_Mo_step_125 h (fun r9 h => ?_)
            refine s_il l_Mo_step_128 rfl ?_
            refine s_ial l_Mo_step_130 rfl h (fun v10 h => ?_)
            exact s_iret l_Mo_step_131 rfl ⟨Nat.zero_le _, Nat.zero_le _⟩ h
          · have h := (((h).2 n0).2 n1).1 q2
            refine s_aln l_Mo_step_132 rfl ?_
            refine s_gr l_Mo_step_133 h (fun r11 h => ?_)
            refine s_il l_Mo_step_136 rfl ?_
            refine s_ial l_Mo_step_138 rfl h (fun v12 h => ?_)
            exact s_iret l_Mo_step_139 rfl ⟨Nat.zero_le _, Nat.zero_le _⟩ h
          · have h := ((((h).2 n0).2 n1).2 n2).1 q3
            refine s_aln l_Mo_step_140 rfl ?_
            refine s_gr l_Mo_step_141 h (fun r13 h => ?_)
            refine s_il l_Mo_step_144 rfl ?_
            refine s_ial l_Mo_step_146 rfl h (fun v14 h => ?_)
            exact s_iret l_Mo_step_147 rfl ⟨Nat.zero_le _, Nat.zero_le _⟩ h
          · have h := (((((h).2 n0).2 n1).2 n2).2 n3).1 q4
            refine s_aln l_Mo_step_148 rfl ?_
            refine s_gr l_Mo_step_149 h (fun r15 h => ?_)
            refine s_il l_Mo_step_152 rfl ?_
            refine s_ial l_Mo_step_154 rfl h (fun v16 h => ?_)
            exact s_iret l_Mo_step_155 rfl ⟨Nat.zero_le _, Nat.zero_le _⟩ h
          · have h := ((((((h).2 n0).2 n1).2 n2).2 n3).2 n4).1 q5
            refine s_aln l_Mo_step_156 rfl ?_
            refine s_gr l_Mo_step_157 h (fun r17 h => ?_)
            refine s_il l_Mo_step_160 rfl ?_
            refine s_ial l_Mo_step_162 rfl h (fun v18 h => ?_)
            exact s_iret l_Mo_step_163 rfl ⟨Nat.zero_le _, Nat.zero_le _⟩ h
          · have h := (((((((h).2 n0).2 n1).2 n2).2 n3).2 n4).2 n5).1 q6
            refine s_aln l_Mo_step_164 rfl ?_
            refine s_gr l_Mo_step_165 h (fun r19 h => ?_)
            refine s_il l_Mo_step_168 rfl ?_
            refine s_ial l_Mo_step_170 rfl h (fun v20 h => ?_)
            exact s_iret l_Mo_step_171 rfl ⟨Nat.zero_le _, Nat.zero_le _⟩ h
          · have h := ((((((((h).2 n0).2 n1).2 n2).2 n3).2 n4).2 n5).2 n6).1 q7
            refine s_aln l_Mo_step_172 rfl ?_
            refine s_aln l_Mo_step_173 rfl ?_
            refine s_gr l_Mo_step_174 h (fun r21 h => ?_)
            refine s_bp 48 l_Mo_step_177 rfl ?_
            refine s_il l_Mo_step_179 rfl ?_
            refine s_imul l_Mo_step_181 ?_
            refine s_aln l_Mo_step_182 rfl ?_
            refine s_gr l_Mo_step_183 h (fun r22 h => ?_)
            refine s_il l_Mo_step_186 rfl ?_
            refine s_ial l_Mo_step_188 rfl h (fun v23 h => ?_)
            refine s_csi (As := [.int v23]) (r := [.int (48 * ((24 * x1) + x2)), .ref r21, .ref a0]) l_Mo_step_189 rfl ⟨rfl, rfl⟩ rfl (Nat.le_of_ble_eq_true rfl) rfl ⟨Nat.zero_le _, Nat.zero_le _⟩ h (fun v26 f25 h => ?_)
            refine s_bp (-2) l_Mo_step_192 rfl ?_
            refine s_cvi (As := [.ref r21, .int (48 * ((24 * x1) + x2)), .int v26, .int (-2)]) (r := []) l_Mo_step_194 rfl ⟨rfl, rfl⟩ rfl (Nat.le_of_ble_eq_true rfl) rfl ⟨Nat.zero_le _, Nat.zero_le _⟩ h (fun v29 f28 h => ?_)
            exact s_iret l_Mo_step_197 rfl ⟨Nat.zero_le _, Nat.zero_le _⟩ h
          · have h := ((((((((h).2 n0).2 n1).2 n2).2 n3).2 n4).2 n5).2 n6).2 n7
            refine s_aln l_Mo_step_198 rfl ?_
            refine s_aln l_Mo_step_199 rfl ?_
            refine s_gr l_Mo_step_200 h (fun r30 h => ?_)
            refine s_bp 48 l_Mo_step_203 rfl ?_
            refine s_il l_Mo_step_205 rfl ?_
            refine s_imul l_Mo_step_207 ?_
            refine s_aln l_Mo_step_208 rfl ?_
            refine s_gr l_Mo_step_209 h (fun r31 h => ?_)
            refine s_il l_Mo_step_212 rfl ?_
            refine s_ial l_Mo_step_214 rfl h (fun v32 h => ?_)
            refine s_csi (As := [.int v32]) (r := [.int (48 * ((24 * x1) + x2)), .ref r30, .ref a0]) l_Mo_step_215 rfl ⟨rfl, rfl⟩ rfl (Nat.le_of_ble_eq_true rfl) rfl ⟨Nat.zero_le _, Nat.zero_le _⟩ h (fun v35 f34 h => ?_)
            refine s_bp (-2) l_Mo_step_218 rfl ?_
            refine s_cvi (As := [.ref r30, .int (48 * ((24 * x1) + x2)), .int v35, .int (-2)]) (r := []) l_Mo_step_220 rfl ⟨rfl, rfl⟩ rfl (Nat.le_of_ble_eq_true rfl) rfl ⟨Nat.zero_le _, Nat.zero_le _⟩ h (fun v38 f37 h => ?_)
            exact s_iret l_Mo_step_223 rfl ⟨Nat.zero_le _, Nat.zero_le _⟩ h
        · refine s_ic (-1) l_Mo_step_58 rfl ?_
          exact s_iret l_Mo_step_59 rfl ⟨Nat.zero_le _, Nat.zero_le _⟩ h
      · refine s_aln l_Mo_step_33 rfl ?_
        refine s_gr l_Mo_step_34 h (fun r39 h => ?_)
        refine s_iln l_Mo_step_37 rfl ?_
        refine s_ial l_Mo_step_38 rfl h (fun v40 h => ?_)
        exact s_iret l_Mo_step_39 rfl ⟨Nat.zero_le _, Nat.zero_le _⟩ h
    · refine s_ic (-1) l_Mo_step_25 rfl ?_
      exact s_iret l_Mo_step_26 rfl ⟨Nat.zero_le _, Nat.zero_le _⟩ h
theorem l_Mo_noPatch_0 : xlk (xm_cd m_Mo_noPatch) 0 = some (.iload_n 1, 1, (0, 0, 0, [])) := rfl
theorem l_Mo_noPatch_1 : xlk (xm_cd m_Mo_noPatch) 1 = some (.i2l, 1, (0, 0, 0, [])) := rfl
theorem l_Mo_noPatch_2 : xlk (xm_cd m_Mo_noPatch) 2 = some (.lconst 0, 1, (0, 0, 0, [])) := rfl
theorem l_Mo_noPatch_3 : xlk (xm_cd m_Mo_noPatch) 3 = some (.aload_n 0, 1, (0, 0, 0, [])) := rfl
theorem l_Mo_noPatch_4 : xlk (xm_cd m_Mo_noPatch) 4 = some (.getfield 198, 3, (872, 11, 23, [])) := rfl
theorem l_Mo_noPatch_7 : xlk (xm_cd m_Mo_noPatch) 7 = some (.iconst 1, 1, (0, 0, 0, [])) := rfl
theorem l_Mo_noPatch_8 : xlk (xm_cd m_Mo_noPatch) 8 = some (.isub, 1, (0, 0, 0, [])) := rfl
theorem l_Mo_noPatch_9 : xlk (xm_cd m_Mo_noPatch) 9 = some (.i2l, 1, (0, 0, 0, [])) := rfl
theorem l_Mo_noPatch_10 : xlk (xm_cd m_Mo_noPatch) 10 = some (.invokestatic 132, 3, (955, 0, 0, [(2, 2)])) := rfl
theorem l_Mo_noPatch_13 : xlk (xm_cd m_Mo_noPatch) 13 = some (.ifCond .ne 7, 3, (0, 20, 0, [])) := rfl
theorem l_Mo_noPatch_16 : xlk (xm_cd m_Mo_noPatch) 16 = some (.iconst 1, 1, (0, 0, 0, [])) := rfl
theorem l_Mo_noPatch_17 : xlk (xm_cd m_Mo_noPatch) 17 = some (.goto 4, 3, (0, 21, 0, [])) := rfl
theorem l_Mo_noPatch_20 : xlk (xm_cd m_Mo_noPatch) 20 = some (.iconst 0, 1, (0, 0, 0, [])) := rfl
theorem l_Mo_noPatch_21 : xlk (xm_cd m_Mo_noPatch) 21 = some (.ireturn, 1, (0, 0, 0, [])) := rfl
def B_Mo_noPatch_0 (d : Nat) (E : Option Value → xH → Prop) (f : xH) (a0 : Nat) (x1 : Int32) : Prop :=
  xgi f a0 11 23 (fun v1 => xbr (¬ (if (0 : Int64) ≤ x1.toInt64 ∧ x1.toInt64 ≤ (v1 - 1).toInt64 then (1 : Int32) else 0) = 0) (E (some (.int 0)) f) (E (some (.int 1)) f))
theorem b_Mo_noPatch_0 {d : Nat} {E : Option Value → xH → Prop} {f : xH} {a0 : Nat} {x1 : Int32} (h : B_Mo_noPatch_0 d E f a0 x1) : xWp (xT0, xSp xT0 d, none, m_Mo_noPatch, E) 0 [some (.ref a0), some (.int x1)] [] f 0 0 := by
  unfold B_Mo_noPatch_0 at h
  refine s_iln l_Mo_noPatch_0 rfl ?_
  refine s_i2l l_Mo_noPatch_1 ?_
  refine s_lc 0 l_Mo_noPatch_2 rfl ?_
  refine s_aln l_Mo_noPatch_3 rfl ?_
  refine s_gi l_Mo_noPatch_4 h (fun v1 h => ?_)
  refine s_ic 1 l_Mo_noPatch_7 rfl ?_
  refine s_isub l_Mo_noPatch_8 ?_
  refine s_i2l l_Mo_noPatch_9 ?_
  refine s_in l_Mo_noPatch_10 (Nat.le_of_ble_eq_true rfl) ⟨Nat.zero_le _, Nat.zero_le _⟩ ?_
  refine s_if l_Mo_noPatch_13 h (fun h => ?_) (fun h => ?_)
  · refine s_ic 0 l_Mo_noPatch_20 rfl ?_
    exact s_zret l_Mo_noPatch_21 rfl ⟨Nat.zero_le _, Nat.zero_le _⟩ ⟨Or.inl rfl, h⟩
  · refine s_ic 1 l_Mo_noPatch_16 rfl ?_
    refine s_goto l_Mo_noPatch_17 ?_
    exact s_zret l_Mo_noPatch_21 rfl ⟨Nat.zero_le _, Nat.zero_le _⟩ ⟨Or.inr rfl, h⟩
theorem l_Mo_bytesOf_0 : xlk (xm_cd m_Mo_bytesOf) 0 = some (.iload_n 0, 1, (0, 0, 0, [])) := rfl
theorem l_Mo_bytesOf_1 : xlk (xm_cd m_Mo_bytesOf) 1 = some (.ifCond .ge 7, 3, (0, 8, 0, [])) := rfl
theorem l_Mo_bytesOf_4 : xlk (xm_cd m_Mo_bytesOf) 4 = some (.iconst 0, 1, (0, 0, 0, [])) := rfl
theorem l_Mo_bytesOf_5 : xlk (xm_cd m_Mo_bytesOf) 5 = some (.goto 4, 3, (0, 9, 0, [])) := rfl
theorem l_Mo_bytesOf_8 : xlk (xm_cd m_Mo_bytesOf) 8 = some (.iload_n 0, 1, (0, 0, 0, [])) := rfl
theorem l_Mo_bytesOf_9 : xlk (xm_cd m_Mo_bytesOf) 9 = some (.ireturn, 1, (0, 0, 0, [])) := rfl
def B_Mo_bytesOf_0 (d : Nat) (E : Option Value → xH → Prop) (f : xH) (x0 : Int32) : Prop :=
  xbr ((0 : Int32) ≤ x0) (E (some (.int x0)) f) (E (some (.int 0)) f)
theorem b_Mo_bytesOf_0 {d : Nat} {E : Option Value → xH → Prop} {f : xH} {x0 : Int32} (h : B_Mo_bytesOf_0 d E f x0) : xWp (xT0, xSp xT0 d, none, m_Mo_bytesOf, E) 0 [some (.int x0)] [] f 0 0 := by
  unfold B_Mo_bytesOf_0 at h
  refine s_iln l_Mo_bytesOf_0 rfl ?_
  refine s_if l_Mo_bytesOf_1 h (fun h => ?_) (fun h => ?_)
  · refine s_iln l_Mo_bytesOf_8 rfl ?_
    exact s_iret l_Mo_bytesOf_9 rfl ⟨Nat.zero_le _, Nat.zero_le _⟩ h
  · refine s_ic 0 l_Mo_bytesOf_4 rfl ?_
    refine s_goto l_Mo_bytesOf_5 ?_
    exact s_iret l_Mo_bytesOf_9 rfl ⟨Nat.zero_le _, Nat.zero_le _⟩ h
theorem l_Mo_pieces_0 : xlk (xm_cd m_Mo_pieces) 0 = some (.iconst 0, 1, (0, 0, 0, [])) := rfl
theorem l_Mo_pieces_1 : xlk (xm_cd m_Mo_pieces) 1 = some (.istore 5, 2, (0, 0, 0, [])) := rfl
theorem l_Mo_pieces_3 : xlk (xm_cd m_Mo_pieces) 3 = some (.aload_n 0, 1, (0, 0, 0, [])) := rfl
theorem l_Mo_pieces_4 : xlk (xm_cd m_Mo_pieces) 4 = some (.iconst 0, 1, (0, 0, 0, [])) := rfl
theorem l_Mo_pieces_5 : xlk (xm_cd m_Mo_pieces) 5 = some (.putfield 251, 3, (878, 11, 29, [(0, 0)])) := rfl
theorem l_Mo_pieces_8 : xlk (xm_cd m_Mo_pieces) 8 = some (.aload_n 0, 1, (0, 0, 0, [])) := rfl
theorem l_Mo_pieces_9 : xlk (xm_cd m_Mo_pieces) 9 = some (.iconst 0, 1, (0, 0, 0, [])) := rfl
theorem l_Mo_pieces_10 : xlk (xm_cd m_Mo_pieces) 10 = some (.putfield 254, 3, (879, 11, 30, [(0, 0)])) := rfl
theorem l_Mo_pieces_13 : xlk (xm_cd m_Mo_pieces) 13 = some (.iconst 0, 1, (0, 0, 0, [])) := rfl
theorem l_Mo_pieces_14 : xlk (xm_cd m_Mo_pieces) 14 = some (.istore 6, 2, (0, 0, 0, [])) := rfl
theorem l_Mo_pieces_16 : xlk (xm_cd m_Mo_pieces) 16 = some (.iload 6, 2, (0, 0, 0, [])) := rfl
theorem l_Mo_pieces_18 : xlk (xm_cd m_Mo_pieces) 18 = some (.iload_n 3, 1, (0, 0, 0, [])) := rfl
theorem l_Mo_pieces_19 : xlk (xm_cd m_Mo_pieces) 19 = some (.if_icmp .ge 129, 3, (0, 148, 0, [])) := rfl
theorem l_Mo_pieces_22 : xlk (xm_cd m_Mo_pieces) 22 = some (.aload_n 1, 1, (0, 0, 0, [])) := rfl
theorem l_Mo_pieces_23 : xlk (xm_cd m_Mo_pieces) 23 = some (.iload_n 2, 1, (0, 0, 0, [])) := rfl
theorem l_Mo_pieces_24 : xlk (xm_cd m_Mo_pieces) 24 = some (.iload 6, 2, (0, 0, 0, [])) := rfl
theorem l_Mo_pieces_26 : xlk (xm_cd m_Mo_pieces) 26 = some (.iadd, 1, (0, 0, 0, [])) := rfl
theorem l_Mo_pieces_27 : xlk (xm_cd m_Mo_pieces) 27 = some (.iaload, 1, (0, 0, 0, [])) := rfl
theorem l_Mo_pieces_28 : xlk (xm_cd m_Mo_pieces) 28 = some (.istore 7, 2, (0, 0, 0, [])) := rfl
theorem l_Mo_pieces_30 : xlk (xm_cd m_Mo_pieces) 30 = some (.iload 6, 2, (0, 0, 0, [])) := rfl
theorem l_Mo_pieces_32 : xlk (xm_cd m_Mo_pieces) 32 = some (.ifCond .le 14, 3, (0, 46, 0, [])) := rfl
theorem l_Mo_pieces_35 : xlk (xm_cd m_Mo_pieces) 35 = some (.aload_n 1, 1, (0, 0, 0, [])) := rfl
theorem l_Mo_pieces_36 : xlk (xm_cd m_Mo_pieces) 36 = some (.iload_n 2, 1, (0, 0, 0, [])) := rfl
theorem l_Mo_pieces_37 : xlk (xm_cd m_Mo_pieces) 37 = some (.iload 6, 2, (0, 0, 0, [])) := rfl
theorem l_Mo_pieces_39 : xlk (xm_cd m_Mo_pieces) 39 = some (.iadd, 1, (0, 0, 0, [])) := rfl
theorem l_Mo_pieces_40 : xlk (xm_cd m_Mo_pieces) 40 = some (.iconst 1, 1, (0, 0, 0, [])) := rfl
theorem l_Mo_pieces_41 : xlk (xm_cd m_Mo_pieces) 41 = some (.isub, 1, (0, 0, 0, [])) := rfl
theorem l_Mo_pieces_42 : xlk (xm_cd m_Mo_pieces) 42 = some (.iaload, 1, (0, 0, 0, [])) := rfl
theorem l_Mo_pieces_43 : xlk (xm_cd m_Mo_pieces) 43 = some (.goto 4, 3, (0, 47, 0, [])) := rfl
theorem l_Mo_pieces_46 : xlk (xm_cd m_Mo_pieces) 46 = some (.iconst 0, 1, (0, 0, 0, [])) := rfl
theorem l_Mo_pieces_47 : xlk (xm_cd m_Mo_pieces) 47 = some (.istore 8, 2, (0, 0, 0, [])) := rfl
theorem l_Mo_pieces_49 : xlk (xm_cd m_Mo_pieces) 49 = some (.iload 6, 2, (0, 0, 0, [])) := rfl
theorem l_Mo_pieces_51 : xlk (xm_cd m_Mo_pieces) 51 = some (.ifCond .le 34, 3, (0, 85, 0, [])) := rfl
theorem l_Mo_pieces_54 : xlk (xm_cd m_Mo_pieces) 54 = some (.iload 7, 2, (0, 0, 0, [])) := rfl
theorem l_Mo_pieces_56 : xlk (xm_cd m_Mo_pieces) 56 = some (.ifCond .ge 11, 3, (0, 67, 0, [])) := rfl
theorem l_Mo_pieces_59 : xlk (xm_cd m_Mo_pieces) 59 = some (.iload 8, 2, (0, 0, 0, [])) := rfl
theorem l_Mo_pieces_61 : xlk (xm_cd m_Mo_pieces) 61 = some (.ifCond .ge 24, 3, (0, 85, 0, [])) := rfl
theorem l_Mo_pieces_64 : xlk (xm_cd m_Mo_pieces) 64 = some (.goto 17, 3, (0, 81, 0, [])) := rfl
theorem l_Mo_pieces_67 : xlk (xm_cd m_Mo_pieces) 67 = some (.iload 8, 2, (0, 0, 0, [])) := rfl
theorem l_Mo_pieces_69 : xlk (xm_cd m_Mo_pieces) 69 = some (.ifCond .lt 16, 3, (0, 85, 0, [])) := rfl
theorem l_Mo_pieces_72 : xlk (xm_cd m_Mo_pieces) 72 = some (.iload 7, 2, (0, 0, 0, [])) := rfl
theorem l_Mo_pieces_74 : xlk (xm_cd m_Mo_pieces) 74 = some (.iload 8, 2, (0, 0, 0, [])) := rfl
theorem l_Mo_pieces_76 : xlk (xm_cd m_Mo_pieces) 76 = some (.iconst 1, 1, (0, 0, 0, [])) := rfl
theorem l_Mo_pieces_77 : xlk (xm_cd m_Mo_pieces) 77 = some (.iadd, 1, (0, 0, 0, [])) := rfl
theorem l_Mo_pieces_78 : xlk (xm_cd m_Mo_pieces) 78 = some (.if_icmp .ne 7, 3, (0, 85, 0, [])) := rfl
theorem l_Mo_pieces_81 : xlk (xm_cd m_Mo_pieces) 81 = some (.iconst 1, 1, (0, 0, 0, [])) := rfl
theorem l_Mo_pieces_82 : xlk (xm_cd m_Mo_pieces) 82 = some (.goto 4, 3, (0, 86, 0, [])) := rfl
theorem l_Mo_pieces_85 : xlk (xm_cd m_Mo_pieces) 85 = some (.iconst 0, 1, (0, 0, 0, [])) := rfl
theorem l_Mo_pieces_86 : xlk (xm_cd m_Mo_pieces) 86 = some (.istore 9, 2, (0, 0, 0, [])) := rfl
theorem l_Mo_pieces_88 : xlk (xm_cd m_Mo_pieces) 88 = some (.iload 9, 2, (0, 0, 0, [])) := rfl
theorem l_Mo_pieces_90 : xlk (xm_cd m_Mo_pieces) 90 = some (.ifCond .ne 28, 3, (0, 118, 0, [])) := rfl
theorem l_Mo_pieces_93 : xlk (xm_cd m_Mo_pieces) 93 = some (.iinc 5 1, 3, (0, 0, 0, [])) := rfl
theorem l_Mo_pieces_96 : xlk (xm_cd m_Mo_pieces) 96 = some (.aload_n 0, 1, (0, 0, 0, [])) := rfl
theorem l_Mo_pieces_97 : xlk (xm_cd m_Mo_pieces) 97 = some (.iload 5, 2, (0, 0, 0, [])) := rfl
theorem l_Mo_pieces_99 : xlk (xm_cd m_Mo_pieces) 99 = some (.iload 4, 2, (0, 0, 0, [])) := rfl
theorem l_Mo_pieces_101 : xlk (xm_cd m_Mo_pieces) 101 = some (.iconst 1, 1, (0, 0, 0, [])) := rfl
theorem l_Mo_pieces_102 : xlk (xm_cd m_Mo_pieces) 102 = some (.iadd, 1, (0, 0, 0, [])) := rfl
theorem l_Mo_pieces_103 : xlk (xm_cd m_Mo_pieces) 103 = some (.if_icmp .ne 8, 3, (0, 111, 0, [])) := rfl
theorem l_Mo_pieces_106 : xlk (xm_cd m_Mo_pieces) 106 = some (.iload 6, 2, (0, 0, 0, [])) := rfl
theorem l_Mo_pieces_108 : xlk (xm_cd m_Mo_pieces) 108 = some (.goto 7, 3, (0, 115, 0, [])) := rfl
theorem l_Mo_pieces_111 : xlk (xm_cd m_Mo_pieces) 111 = some (.aload_n 0, 1, (0, 0, 0, [])) := rfl
theorem l_Mo_pieces_112 : xlk (xm_cd m_Mo_pieces) 112 = some (.getfield 251, 3, (878, 11, 29, [])) := rfl
theorem l_Mo_pieces_115 : xlk (xm_cd m_Mo_pieces) 115 = some (.putfield 251, 3, (878, 11, 29, [(0, 0)])) := rfl
theorem l_Mo_pieces_118 : xlk (xm_cd m_Mo_pieces) 118 = some (.aload_n 0, 1, (0, 0, 0, [])) := rfl
theorem l_Mo_pieces_119 : xlk (xm_cd m_Mo_pieces) 119 = some (.iload 5, 2, (0, 0, 0, [])) := rfl
theorem l_Mo_pieces_121 : xlk (xm_cd m_Mo_pieces) 121 = some (.iload 4, 2, (0, 0, 0, [])) := rfl
theorem l_Mo_pieces_123 : xlk (xm_cd m_Mo_pieces) 123 = some (.iconst 1, 1, (0, 0, 0, [])) := rfl
theorem l_Mo_pieces_124 : xlk (xm_cd m_Mo_pieces) 124 = some (.iadd, 1, (0, 0, 0, [])) := rfl
theorem l_Mo_pieces_125 : xlk (xm_cd m_Mo_pieces) 125 = some (.if_icmp .ne 10, 3, (0, 135, 0, [])) := rfl
theorem l_Mo_pieces_128 : xlk (xm_cd m_Mo_pieces) 128 = some (.iload 6, 2, (0, 0, 0, [])) := rfl
theorem l_Mo_pieces_130 : xlk (xm_cd m_Mo_pieces) 130 = some (.iconst 1, 1, (0, 0, 0, [])) := rfl
theorem l_Mo_pieces_131 : xlk (xm_cd m_Mo_pieces) 131 = some (.iadd, 1, (0, 0, 0, [])) := rfl
theorem l_Mo_pieces_132 : xlk (xm_cd m_Mo_pieces) 132 = some (.goto 7, 3, (0, 139, 0, [])) := rfl
theorem l_Mo_pieces_135 : xlk (xm_cd m_Mo_pieces) 135 = some (.aload_n 0, 1, (0, 0, 0, [])) := rfl
theorem l_Mo_pieces_136 : xlk (xm_cd m_Mo_pieces) 136 = some (.getfield 254, 3, (879, 11, 30, [])) := rfl
theorem l_Mo_pieces_139 : xlk (xm_cd m_Mo_pieces) 139 = some (.putfield 254, 3, (879, 11, 30, [(0, 0)])) := rfl
theorem l_Mo_pieces_142 : xlk (xm_cd m_Mo_pieces) 142 = some (.iinc 6 1, 3, (0, 0, 0, [])) := rfl
theorem l_Mo_pieces_145 : xlk (xm_cd m_Mo_pieces) 145 = some (.goto (-129), 3, (0, 16, 0, [])) := rfl
theorem l_Mo_pieces_148 : xlk (xm_cd m_Mo_pieces) 148 = some (.iload 5, 2, (0, 0, 0, [])) := rfl
theorem l_Mo_pieces_150 : xlk (xm_cd m_Mo_pieces) 150 = some (.ireturn, 1, (0, 0, 0, [])) := rfl
def B_Mo_pieces_0 (d : Nat) (E : Option Value → xH → Prop) (f : xH) (a0 : Nat) (a1 : Nat) (x2 : Int32) (x3 : Int32) (x4 : Int32) : Prop :=
  xpf f a0 11 29 (.int 0) (fun f1 => xpf f1 a0 11 30 (.int 0) (fun f2 => xWp (xT0, xSp xT0 d, none, m_Mo_pieces, E) 16 [some (.ref a0), some (.ref a1), some (.int x2), some (.int x3), some (.int x4), some (.int 0), some (.int 0), none, none, none] [] f2 0 0))
theorem b_Mo_pieces_0 {d : Nat} {E : Option Value → xH → Prop} {f : xH} {a0 : Nat} {a1 : Nat} {x2 : Int32} {x3 : Int32} {x4 : Int32} (h : B_Mo_pieces_0 d E f a0 a1 x2 x3 x4) : xWp (xT0, xSp xT0 d, none, m_Mo_pieces, E) 0 [some (.ref a0), some (.ref a1), some (.int x2), some (.int x3), some (.int x4), none, none, none, none, none] [] f 0 0 := by
  unfold B_Mo_pieces_0 at h
  refine s_ic 0 l_Mo_pieces_0 rfl ?_
  refine s_is l_Mo_pieces_1 (Nat.le_of_ble_eq_true rfl) ?_
  refine s_aln l_Mo_pieces_3 rfl ?_
  refine s_ic 0 l_Mo_pieces_4 rfl ?_
  refine s_pf l_Mo_pieces_5 ⟨_, rfl⟩ h (fun f1 h => ?_)
  refine s_aln l_Mo_pieces_8 rfl ?_
  refine s_ic 0 l_Mo_pieces_9 rfl ?_
  refine s_pf l_Mo_pieces_10 ⟨_, rfl⟩ h (fun f2 h => ?_)
  refine s_ic 0 l_Mo_pieces_13 rfl ?_
  refine s_is l_Mo_pieces_14 (Nat.le_of_ble_eq_true rfl) ?_
  exact h
def B_Mo_pieces_16 (d : Nat) (E : Option Value → xH → Prop) (f : xH) (a0 : Nat) (a1 : Nat) (x2 : Int32) (x3 : Int32) (x4 : Int32) (x5 : Int32) (x6 : Int32) (u7 : Option Value) (u8 : Option Value) (u9 : Option Value) : Prop :=
  xbr (x3 ≤ x6) (E (some (.int x5)) f) (xal f a1 0 (x2 + x6) (fun v1 => xbr (x6 ≤ 0) (xWp (xT0, xSp xT0 d, none, m_Mo_pieces, E) 47 [some (.ref a0), some (.ref a1), some (.int x2), some (.int x3), some (.int x4), some (.int x5), some (.int x6), some (.int v1), u8, u9] [.int 0] f 0 0) (xal f a1 0 ((x2 + x6) - 1) (fun v2 => xWp (xT0, xSp xT0 d, none, m_Mo_pieces, E) 47 [some (.ref a0), some (.ref a1), some (.int x2), some (.int x3), some (.int x4), some (.int x5), some (.int x6), some (.int v1), u8, u9] [.int v2] f 0 0))))
theorem b_Mo_pieces_16 {d : Nat} {E : Option Value → xH → Prop} {f : xH} {a0 : Nat} {a1 : Nat} {x2 : Int32} {x3 : Int32} {x4 : Int32} {x5 : Int32} {x6 : Int32} {u7 : Option Value} {u8 : Option Value} {u9 : Option Value} (h : B_Mo_pieces_16 d E f a0 a1 x2 x3 x4 x5 x6 u7 u8 u9) : xWp (xT0, xSp xT0 d, none, m_Mo_pieces, E) 16 [some (.ref a0), some (.ref a1), some (.int x2), some (.int x3), some (.int x4), some (.int x5), some (.int x6), u7, u8, u9] [] f 0 0 := by
  unfold B_Mo_pieces_16 at h
  refine s_il l_Mo_pieces_16 rfl ?_
  refine s_iln l_Mo_pieces_18 rfl ?_
  refine s_ifc l_Mo_pieces_19 h (fun h => ?_) (fun h => ?_)
  · refine s_il l_Mo_pieces_148 rfl ?_
    exact s_iret l_Mo_pieces_150 rfl ⟨Nat.zero_le _, Nat.zero_le _⟩ h
  · refine s_aln l_Mo_pieces_22 rfl ?_
    refine s_iln l_Mo_pieces_23 rfl ?_
    refine s_il l_Mo_pieces_24 rfl ?_
    refine s_iadd l_Mo_pieces_26 ?_
    refine s_ial l_Mo_pieces_27 rfl h (fun v1 h => ?_)
    refine s_is l_Mo_pieces_28 (Nat.le_of_ble_eq_true rfl) ?_
    refine s_il l_Mo_pieces_30 rfl ?_
    refine s_if l_Mo_pieces_32 h (fun h => ?_) (fun h => ?_)
    · refine s_ic 0 l_Mo_pieces_46 rfl ?_
      exact h
    · refine s_aln l_Mo_pieces_35 rfl ?_
      refine s_iln l_Mo_pieces_36 rfl ?_
      refine s_il l_Mo_pieces_37 rfl ?_
      refine s_iadd l_Mo_pieces_39 ?_
      refine s_ic 1 l_Mo_pieces_40 rfl ?_
      refine s_isub l_Mo_pieces_41 ?_
      refine s_ial l_Mo_pieces_42 rfl h (fun v2 h => ?_)
      refine s_goto l_Mo_pieces_43 ?_
      exact h
def B_Mo_pieces_47 (d : Nat) (E : Option Value → xH → Prop) (f : xH) (a0 : Nat) (a1 : Nat) (x2 : Int32) (x3 : Int32) (x4 : Int32) (x5 : Int32) (x6 : Int32) (x7 : Int32) (u8 : Option Value) (u9 : Option Value) (s0 : Int32) : Prop :=
  xbr (x6 ≤ 0) (xWp (xT0, xSp xT0 d, none, m_Mo_pieces, E) 86 [some (.ref a0), some (.ref a1), some (.int x2), some (.int x3), some (.int x4), some (.int x5), some (.int x6), some (.int x7), some (.int s0), u9] [.int 0] f 0 0) (xbr ((0 : Int32) ≤ x7) (xbr (s0 < 0) (xWp (xT0, xSp xT0 d, none, m_Mo_pieces, E) 86 [some (.ref a0), some (.ref a1), some (.int x2), some (.int x3), some (.int x4), some (.int x5), some (.int x6), some (.int x7), some (.int s0), u9] [.int 0] f 0 0) (xbr (¬ x7 = (s0 + 1)) (xWp (xT0, xSp xT0 d, none, m_Mo_pieces, E) 86 [some (.ref a0), some (.ref a1), some (.int x2), some (.int x3), some (.int x4), some (.int x5), some (.int x6), some (.int x7), some (.int s0), u9] [.int 0] f 0 0) (xWp (xT0, xSp xT0 d, none, m_Mo_pieces, E) 86 [some (.ref a0), some (.ref a1), some (.int x2), some (.int x3), some (.int x4), some (.int x5), some (.int x6), some (.int x7), some (.int s0), u9] [.int 1] f 0 0))) (xbr ((0 : Int32) ≤ s0) (xWp (xT0, xSp xT0 d, none, m_Mo_pieces, E) 86 [some (.ref a0), some (.ref a1), some (.int x2), some (.int x3), some (.int x4), some (.int x5), some (.int x6), some (.int x7), some (.int s0), u9] [.int 0] f 0 0) (xWp (xT0, xSp xT0 d, none, m_Mo_pieces, E) 86 [some (.ref a0), some (.ref a1), some (.int x2), some (.int x3), some (.int x4), some (.int x5), some (.int x6), some (.int x7), some (.int s0), u9] [.int 1] f 0 0)))
theorem b_Mo_pieces_47 {d : Nat} {E : Option Value → xH → Prop} {f : xH} {a0 : Nat} {a1 : Nat} {x2 : Int32} {x3 : Int32} {x4 : Int32} {x5 : Int32} {x6 : Int32} {x7 : Int32} {u8 : Option Value} {u9 : Option Value} {s0 : Int32} (h : B_Mo_pieces_47 d E f a0 a1 x2 x3 x4 x5 x6 x7 u8 u9 s0) : xWp (xT0, xSp xT0 d, none, m_Mo_pieces, E) 47 [some (.ref a0), some (.ref a1), some (.int x2), some (.int x3), some (.int x4), some (.int x5), some (.int x6), some (.int x7), u8, u9] [.int s0] f 0 0 := by
  unfold B_Mo_pieces_47 at h
  refine s_is l_Mo_pieces_47 (Nat.le_of_ble_eq_true rfl) ?_
  refine s_il l_Mo_pieces_49 rfl ?_
  refine s_if l_Mo_pieces_51 h (fun h => ?_) (fun h => ?_)
  · refine s_ic 0 l_Mo_pieces_85 rfl ?_
    exact h
  · refine s_il l_Mo_pieces_54 rfl ?_
    refine s_if l_Mo_pieces_56 h (fun h => ?_) (fun h => ?_)
    · refine s_il l_Mo_pieces_67 rfl ?_
      refine s_if l_Mo_pieces_69 h (fun h => ?_) (fun h => ?_)
      · refine s_ic 0 l_Mo_pieces_85 rfl ?_
        exact h
      · refine s_il l_Mo_pieces_72 rfl ?_
        refine s_il l_Mo_pieces_74 rfl ?_
        refine s_ic 1 l_Mo_pieces_76 rfl ?_
        refine s_iadd l_Mo_pieces_77 ?_
        refine s_ifc l_Mo_pieces_78 h (fun h => ?_) (fun h => ?_)
        · refine s_ic 0 l_Mo_pieces_85 rfl ?_
          exact h
        · refine s_ic 1 l_Mo_pieces_81 rfl ?_
          refine s_goto l_Mo_pieces_82 ?_
          exact h
    · refine s_il l_Mo_pieces_59 rfl ?_
      refine s_if l_Mo_pieces_61 h (fun h => ?_) (fun h => ?_)
      · refine s_ic 0 l_Mo_pieces_85 rfl ?_
        exact h
      · refine s_goto l_Mo_pieces_64 ?_
        refine s_ic 1 l_Mo_pieces_81 rfl ?_
        refine s_goto l_Mo_pieces_82 ?_
        exact h
def B_Mo_pieces_86 (d : Nat) (E : Option Value → xH → Prop) (f : xH) (a0 : Nat) (a1 : Nat) (x2 : Int32) (x3 : Int32) (x4 : Int32) (x5 : Int32) (x6 : Int32) (x7 : Int32) (x8 : Int32) (u9 : Option Value) (s0 : Int32) : Prop :=
  xbr (¬ s0 = 0) (xWp (xT0, xSp xT0 d, none, m_Mo_pieces, E) 118 [some (.ref a0), some (.ref a1), some (.int x2), some (.int x3), some (.int x4), some (.int x5), some (.int x6), some (.int x7), some (.int x8), some (.int s0)] [] f 0 0) (xbr (¬ (x5 + 1) = (x4 + 1)) (xgi f a0 11 29 (fun v1 => xpf f a0 11 29 (.int v1) (fun f2 => xWp (xT0, xSp xT0 d, none, m_Mo_pieces, E) 118 [some (.ref a0), some (.ref a1), some (.int x2), some (.int x3), some (.int x4), some (.int (x5 + 1)), some (.int x6), some (.int x7), some (.int x8), some (.int s0)] [] f2 0 0))) (xpf f a0 11 29 (.int x6) (fun f3 => xWp (xT0, xSp xT0 d, none, m_Mo_pieces, E) 118 [some (.ref a0), some (.ref a1), some (.int x2), some (.int x3), some (.int x4), some (.int (x5 + 1)), some (.int x6), some (.int x7), some (.int x8), some (.int s0)] [] f3 0 0)))
theorem b_Mo_pieces_86 {d : Nat} {E : Option Value → xH → Prop} {f : xH} {a0 : Nat} {a1 : Nat} {x2 : Int32} {x3 : Int32} {x4 : Int32} {x5 : Int32} {x6 : Int32} {x7 : Int32} {x8 : Int32} {u9 : Option Value} {s0 : Int32} (h : B_Mo_pieces_86 d E f a0 a1 x2 x3 x4 x5 x6 x7 x8 u9 s0) : xWp (xT0, xSp xT0 d, none, m_Mo_pieces, E) 86 [some (.ref a0), some (.ref a1), some (.int x2), some (.int x3), some (.int x4), some (.int x5), some (.int x6), some (.int x7), some (.int x8), u9] [.int s0] f 0 0 := by
  unfold B_Mo_pieces_86 at h
  refine s_is l_Mo_pieces_86 (Nat.le_of_ble_eq_true rfl) ?_
  refine s_il l_Mo_pieces_88 rfl ?_
  refine s_if l_Mo_pieces_90 h (fun h => ?_) (fun h => ?_)
  · exact h
  · refine s_inc 1 l_Mo_pieces_93 rfl rfl ?_
    refine s_aln l_Mo_pieces_96 rfl ?_
    refine s_il l_Mo_pieces_97 rfl ?_
    refine s_il l_Mo_pieces_99 rfl ?_
    refine s_ic 1 l_Mo_pieces_101 rfl ?_
    refine s_iadd l_Mo_pieces_102 ?_
    refine s_ifc l_Mo_pieces_103 h (fun h => ?_) (fun h => ?_)
    · refine s_aln l_Mo_pieces_111 rfl ?_
      refine s_gi l_Mo_pieces_112 h (fun v1 h => ?_)
      refine s_pf l_Mo_pieces_115 ⟨_, rfl⟩ h (fun f2 h => ?_)
      exact h
    · refine s_il l_Mo_pieces_106 rfl ?_
      refine s_goto l_Mo_pieces_108 ?_
      refine s_pf l_Mo_pieces_115 ⟨_, rfl⟩ h (fun f3 h => ?_)
      exact h
def B_Mo_pieces_118 (d : Nat) (E : Option Value → xH → Prop) (f : xH) (a0 : Nat) (a1 : Nat) (x2 : Int32) (x3 : Int32) (x4 : Int32) (x5 : Int32) (x6 : Int32) (x7 : Int32) (x8 : Int32) (x9 : Int32) : Prop :=
  xbr (¬ x5 = (x4 + 1)) (xgi f a0 11 30 (fun v1 => xpf f a0 11 30 (.int v1) (fun f2 => xWp (xT0, xSp xT0 d, none, m_Mo_pieces, E) 16 [some (.ref a0), some (.ref a1), some (.int x2), some (.int x3), some (.int x4), some (.int x5), some (.int (x6 + 1)), some (.int x7), some (.int x8), some (.int x9)] [] f2 0 0))) (xpf f a0 11 30 (.int (x6 + 1)) (fun f3 => xWp (xT0, xSp xT0 d, none, m_Mo_pieces, E) 16 [some (.ref a0), some (.ref a1), some (.int x2), some (.int x3), some (.int x4), some (.int x5), some (.int (x6 + 1)), some (.int x7), some (.int x8), some (.int x9)] [] f3 0 0))
theorem b_Mo_pieces_118 {d : Nat} {E : Option Value → xH → Prop} {f : xH} {a0 : Nat} {a1 : Nat} {x2 : Int32} {x3 : Int32} {x4 : Int32} {x5 : Int32} {x6 : Int32} {x7 : Int32} {x8 : Int32} {x9 : Int32} (h : B_Mo_pieces_118 d E f a0 a1 x2 x3 x4 x5 x6 x7 x8 x9) : xWp (xT0, xSp xT0 d, none, m_Mo_pieces, E) 118 [some (.ref a0), some (.ref a1), some (.int x2), some (.int x3), some (.int x4), some (.int x5), some (.int x6), some (.int x7), some (.int x8), some (.int x9)] [] f 0 0 := by
  unfold B_Mo_pieces_118 at h
  refine s_aln l_Mo_pieces_118 rfl ?_
  refine s_il l_Mo_pieces_119 rfl ?_
  refine s_il l_Mo_pieces_121 rfl ?_
  refine s_ic 1 l_Mo_pieces_123 rfl ?_
  refine s_iadd l_Mo_pieces_124 ?_
  refine s_ifc l_Mo_pieces_125 h (fun h => ?_) (fun h => ?_)
  · refine s_aln l_Mo_pieces_135 rfl ?_
    refine s_gi l_Mo_pieces_136 h (fun v1 h => ?_)
    refine s_pf l_Mo_pieces_139 ⟨_, rfl⟩ h (fun f2 h => ?_)
    refine s_inc 1 l_Mo_pieces_142 rfl rfl ?_
    refine s_goto l_Mo_pieces_145 ?_
    exact h
  · refine s_il l_Mo_pieces_128 rfl ?_
    refine s_ic 1 l_Mo_pieces_130 rfl ?_
    refine s_iadd l_Mo_pieces_131 ?_
    refine s_goto l_Mo_pieces_132 ?_
    refine s_pf l_Mo_pieces_139 ⟨_, rfl⟩ h (fun f3 h => ?_)
    refine s_inc 1 l_Mo_pieces_142 rfl rfl ?_
    refine s_goto l_Mo_pieces_145 ?_
    exact h
theorem l_Mo_stepByte_0 : xlk (xm_cd m_Mo_stepByte) 0 = some (.aload_n 0, 1, (0, 0, 0, [])) := rfl
theorem l_Mo_stepByte_1 : xlk (xm_cd m_Mo_stepByte) 1 = some (.iconst 0, 1, (0, 0, 0, [])) := rfl
theorem l_Mo_stepByte_2 : xlk (xm_cd m_Mo_stepByte) 2 = some (.putfield 1, 3, (849, 11, 0, [(0, 0)])) := rfl
theorem l_Mo_stepByte_5 : xlk (xm_cd m_Mo_stepByte) 5 = some (.aload_n 0, 1, (0, 0, 0, [])) := rfl
theorem l_Mo_stepByte_6 : xlk (xm_cd m_Mo_stepByte) 6 = some (.iload_n 1, 1, (0, 0, 0, [])) := rfl
theorem l_Mo_stepByte_7 : xlk (xm_cd m_Mo_stepByte) 7 = some (.invokevirtual 257, 3, (1081, 185, 1, [])) := rfl
theorem l_Mo_stepByte_10 : xlk (xm_cd m_Mo_stepByte) 10 = some (.ifCond .ne 47, 3, (0, 57, 0, [])) := rfl
theorem l_Mo_stepByte_13 : xlk (xm_cd m_Mo_stepByte) 13 = some (.iload_n 3, 1, (0, 0, 0, [])) := rfl
theorem l_Mo_stepByte_14 : xlk (xm_cd m_Mo_stepByte) 14 = some (.i2l, 1, (0, 0, 0, [])) := rfl
theorem l_Mo_stepByte_15 : xlk (xm_cd m_Mo_stepByte) 15 = some (.lconst 0, 1, (0, 0, 0, [])) := rfl
theorem l_Mo_stepByte_16 : xlk (xm_cd m_Mo_stepByte) 16 = some (.lconst 1, 1, (0, 0, 0, [])) := rfl
theorem l_Mo_stepByte_17 : xlk (xm_cd m_Mo_stepByte) 17 = some (.invokestatic 132, 3, (955, 0, 0, [(2, 2)])) := rfl
theorem l_Mo_stepByte_20 : xlk (xm_cd m_Mo_stepByte) 20 = some (.ifCond .eq 37, 3, (0, 57, 0, [])) := rfl
theorem l_Mo_stepByte_23 : xlk (xm_cd m_Mo_stepByte) 23 = some (.iload_n 2, 1, (0, 0, 0, [])) := rfl
theorem l_Mo_stepByte_24 : xlk (xm_cd m_Mo_stepByte) 24 = some (.i2l, 1, (0, 0, 0, [])) := rfl
theorem l_Mo_stepByte_25 : xlk (xm_cd m_Mo_stepByte) 25 = some (.lconst 0, 1, (0, 0, 0, [])) := rfl
theorem l_Mo_stepByte_26 : xlk (xm_cd m_Mo_stepByte) 26 = some (.aload_n 0, 1, (0, 0, 0, [])) := rfl
theorem l_Mo_stepByte_27 : xlk (xm_cd m_Mo_stepByte) 27 = some (.getfield 69, 3, (871, 11, 22, [])) := rfl
theorem l_Mo_stepByte_30 : xlk (xm_cd m_Mo_stepByte) 30 = some (.iload_n 1, 1, (0, 0, 0, [])) := rfl
theorem l_Mo_stepByte_31 : xlk (xm_cd m_Mo_stepByte) 31 = some (.i2l, 1, (0, 0, 0, [])) := rfl
theorem l_Mo_stepByte_32 : xlk (xm_cd m_Mo_stepByte) 32 = some (.lconst 0, 1, (0, 0, 0, [])) := rfl
theorem l_Mo_stepByte_33 : xlk (xm_cd m_Mo_stepByte) 33 = some (.ldc2_w 270, 3, (1095, 0, 0, [(7, 0)])) := rfl
theorem l_Mo_stepByte_36 : xlk (xm_cd m_Mo_stepByte) 36 = some (.invokestatic 132, 3, (955, 0, 0, [(2, 2)])) := rfl
theorem l_Mo_stepByte_39 : xlk (xm_cd m_Mo_stepByte) 39 = some (.ifCond .eq 7, 3, (0, 46, 0, [])) := rfl
theorem l_Mo_stepByte_42 : xlk (xm_cd m_Mo_stepByte) 42 = some (.iload_n 1, 1, (0, 0, 0, [])) := rfl
theorem l_Mo_stepByte_43 : xlk (xm_cd m_Mo_stepByte) 43 = some (.goto 4, 3, (0, 47, 0, [])) := rfl
theorem l_Mo_stepByte_46 : xlk (xm_cd m_Mo_stepByte) 46 = some (.iconst 0, 1, (0, 0, 0, [])) := rfl
theorem l_Mo_stepByte_47 : xlk (xm_cd m_Mo_stepByte) 47 = some (.iaload, 1, (0, 0, 0, [])) := rfl
theorem l_Mo_stepByte_48 : xlk (xm_cd m_Mo_stepByte) 48 = some (.iconst 1, 1, (0, 0, 0, [])) := rfl
theorem l_Mo_stepByte_49 : xlk (xm_cd m_Mo_stepByte) 49 = some (.isub, 1, (0, 0, 0, [])) := rfl
theorem l_Mo_stepByte_50 : xlk (xm_cd m_Mo_stepByte) 50 = some (.i2l, 1, (0, 0, 0, [])) := rfl
theorem l_Mo_stepByte_51 : xlk (xm_cd m_Mo_stepByte) 51 = some (.invokestatic 132, 3, (955, 0, 0, [(2, 2)])) := rfl
theorem l_Mo_stepByte_54 : xlk (xm_cd m_Mo_stepByte) 54 = some (.ifCond .ne 5, 3, (0, 59, 0, [])) := rfl
theorem l_Mo_stepByte_57 : xlk (xm_cd m_Mo_stepByte) 57 = some (.iconst (-1), 1, (0, 0, 0, [])) := rfl
theorem l_Mo_stepByte_58 : xlk (xm_cd m_Mo_stepByte) 58 = some (.ireturn, 1, (0, 0, 0, [])) := rfl
theorem l_Mo_stepByte_59 : xlk (xm_cd m_Mo_stepByte) 59 = some (.bipush 24, 2, (0, 0, 0, [])) := rfl
theorem l_Mo_stepByte_61 : xlk (xm_cd m_Mo_stepByte) 61 = some (.iload_n 1, 1, (0, 0, 0, [])) := rfl
theorem l_Mo_stepByte_62 : xlk (xm_cd m_Mo_stepByte) 62 = some (.imul, 1, (0, 0, 0, [])) := rfl
theorem l_Mo_stepByte_63 : xlk (xm_cd m_Mo_stepByte) 63 = some (.iload_n 2, 1, (0, 0, 0, [])) := rfl
theorem l_Mo_stepByte_64 : xlk (xm_cd m_Mo_stepByte) 64 = some (.iadd, 1, (0, 0, 0, [])) := rfl
theorem l_Mo_stepByte_65 : xlk (xm_cd m_Mo_stepByte) 65 = some (.istore 5, 2, (0, 0, 0, [])) := rfl
theorem l_Mo_stepByte_67 : xlk (xm_cd m_Mo_stepByte) 67 = some (.iload_n 3, 1, (0, 0, 0, [])) := rfl
theorem l_Mo_stepByte_68 : xlk (xm_cd m_Mo_stepByte) 68 = some (.ifCond .ne 41, 3, (0, 109, 0, [])) := rfl
theorem l_Mo_stepByte_71 : xlk (xm_cd m_Mo_stepByte) 71 = some (.iload 4, 2, (0, 0, 0, [])) := rfl
theorem l_Mo_stepByte_73 : xlk (xm_cd m_Mo_stepByte) 73 = some (.i2l, 1, (0, 0, 0, [])) := rfl
theorem l_Mo_stepByte_74 : xlk (xm_cd m_Mo_stepByte) 74 = some (.lconst 0, 1, (0, 0, 0, [])) := rfl
theorem l_Mo_stepByte_75 : xlk (xm_cd m_Mo_stepByte) 75 = some (.aload_n 0, 1, (0, 0, 0, [])) := rfl
theorem l_Mo_stepByte_76 : xlk (xm_cd m_Mo_stepByte) 76 = some (.getfield 42, 3, (862, 11, 13, [])) := rfl
theorem l_Mo_stepByte_79 : xlk (xm_cd m_Mo_stepByte) 79 = some (.iload 5, 2, (0, 0, 0, [])) := rfl
theorem l_Mo_stepByte_81 : xlk (xm_cd m_Mo_stepByte) 81 = some (.iaload, 1, (0, 0, 0, [])) := rfl
theorem l_Mo_stepByte_82 : xlk (xm_cd m_Mo_stepByte) 82 = some (.iconst 1, 1, (0, 0, 0, [])) := rfl
theorem l_Mo_stepByte_83 : xlk (xm_cd m_Mo_stepByte) 83 = some (.isub, 1, (0, 0, 0, [])) := rfl
theorem l_Mo_stepByte_84 : xlk (xm_cd m_Mo_stepByte) 84 = some (.i2l, 1, (0, 0, 0, [])) := rfl
theorem l_Mo_stepByte_85 : xlk (xm_cd m_Mo_stepByte) 85 = some (.invokestatic 132, 3, (955, 0, 0, [(2, 2)])) := rfl
theorem l_Mo_stepByte_88 : xlk (xm_cd m_Mo_stepByte) 88 = some (.ifCond .eq 19, 3, (0, 107, 0, [])) := rfl
theorem l_Mo_stepByte_91 : xlk (xm_cd m_Mo_stepByte) 91 = some (.aload_n 0, 1, (0, 0, 0, [])) := rfl
theorem l_Mo_stepByte_92 : xlk (xm_cd m_Mo_stepByte) 92 = some (.getfield 39, 3, (861, 11, 12, [])) := rfl
theorem l_Mo_stepByte_95 : xlk (xm_cd m_Mo_stepByte) 95 = some (.bipush 18, 2, (0, 0, 0, [])) := rfl
theorem l_Mo_stepByte_97 : xlk (xm_cd m_Mo_stepByte) 97 = some (.iload 5, 2, (0, 0, 0, [])) := rfl
theorem l_Mo_stepByte_99 : xlk (xm_cd m_Mo_stepByte) 99 = some (.imul, 1, (0, 0, 0, [])) := rfl
theorem l_Mo_stepByte_100 : xlk (xm_cd m_Mo_stepByte) 100 = some (.iload 4, 2, (0, 0, 0, [])) := rfl
theorem l_Mo_stepByte_102 : xlk (xm_cd m_Mo_stepByte) 102 = some (.iadd, 1, (0, 0, 0, [])) := rfl
theorem l_Mo_stepByte_103 : xlk (xm_cd m_Mo_stepByte) 103 = some (.baload, 1, (0, 0, 0, [])) := rfl
theorem l_Mo_stepByte_104 : xlk (xm_cd m_Mo_stepByte) 104 = some (.goto 4, 3, (0, 108, 0, [])) := rfl
theorem l_Mo_stepByte_107 : xlk (xm_cd m_Mo_stepByte) 107 = some (.iconst (-1), 1, (0, 0, 0, [])) := rfl
theorem l_Mo_stepByte_108 : xlk (xm_cd m_Mo_stepByte) 108 = some (.ireturn, 1, (0, 0, 0, [])) := rfl
theorem l_Mo_stepByte_109 : xlk (xm_cd m_Mo_stepByte) 109 = some (.iload 4, 2, (0, 0, 0, [])) := rfl
theorem l_Mo_stepByte_111 : xlk (xm_cd m_Mo_stepByte) 111 = some (.i2l, 1, (0, 0, 0, [])) := rfl
theorem l_Mo_stepByte_112 : xlk (xm_cd m_Mo_stepByte) 112 = some (.lconst 0, 1, (0, 0, 0, [])) := rfl
theorem l_Mo_stepByte_113 : xlk (xm_cd m_Mo_stepByte) 113 = some (.aload_n 0, 1, (0, 0, 0, [])) := rfl
theorem l_Mo_stepByte_114 : xlk (xm_cd m_Mo_stepByte) 114 = some (.getfield 48, 3, (864, 11, 15, [])) := rfl
theorem l_Mo_stepByte_117 : xlk (xm_cd m_Mo_stepByte) 117 = some (.iload 5, 2, (0, 0, 0, [])) := rfl
theorem l_Mo_stepByte_119 : xlk (xm_cd m_Mo_stepByte) 119 = some (.iaload, 1, (0, 0, 0, [])) := rfl
theorem l_Mo_stepByte_120 : xlk (xm_cd m_Mo_stepByte) 120 = some (.iconst 1, 1, (0, 0, 0, [])) := rfl
theorem l_Mo_stepByte_121 : xlk (xm_cd m_Mo_stepByte) 121 = some (.isub, 1, (0, 0, 0, [])) := rfl
theorem l_Mo_stepByte_122 : xlk (xm_cd m_Mo_stepByte) 122 = some (.i2l, 1, (0, 0, 0, [])) := rfl
theorem l_Mo_stepByte_123 : xlk (xm_cd m_Mo_stepByte) 123 = some (.invokestatic 132, 3, (955, 0, 0, [(2, 2)])) := rfl
theorem l_Mo_stepByte_126 : xlk (xm_cd m_Mo_stepByte) 126 = some (.ifCond .eq 19, 3, (0, 145, 0, [])) := rfl
theorem l_Mo_stepByte_129 : xlk (xm_cd m_Mo_stepByte) 129 = some (.aload_n 0, 1, (0, 0, 0, [])) := rfl
theorem l_Mo_stepByte_130 : xlk (xm_cd m_Mo_stepByte) 130 = some (.getfield 45, 3, (863, 11, 14, [])) := rfl
theorem l_Mo_stepByte_133 : xlk (xm_cd m_Mo_stepByte) 133 = some (.bipush 18, 2, (0, 0, 0, [])) := rfl
set_option maxRecDepth 20000 in
theorem l_Mo_stepByte_135 : xlk (xm_cd m_Mo_stepByte) 135 = some (.iload 5, 2, (0, 0, 0, [])) := rfl
set_option maxRecDepth 20000 in
theorem l_Mo_stepByte_137 : xlk (xm_cd m_Mo_stepByte) 137 = some (.imul, 1, (0, 0, 0, [])) := rfl
set_option maxRecDepth 20000 in
theorem l_Mo_stepByte_138 : xlk (xm_cd m_Mo_stepByte) 138 = some (.iload 4, 2, (0, 0, 0, [])) := rfl
set_option maxRecDepth 20000 in
theorem l_Mo_stepByte_140 : xlk (xm_cd m_Mo_stepByte) 140 = some (.iadd, 1, (0, 0, 0, [])) := rfl
set_option maxRecDepth 20000 in
theorem l_Mo_stepByte_141 : xlk (xm_cd m_Mo_stepByte) 141 = some (.baload, 1, (0, 0, 0, [])) := rfl
set_option maxRecDepth 20000 in
theorem l_Mo_stepByte_142 : xlk (xm_cd m_Mo_stepByte) 142 = some (.goto 4, 3, (0, 146, 0, [])) := rfl
set_option maxRecDepth 20000 in
theorem l_Mo_stepByte_145 : xlk (xm_cd m_Mo_stepByte) 145 = some (.iconst (-1), 1, (0, 0, 0, [])) := rfl
set_option maxRecDepth 20000 in
theorem l_Mo_stepByte_146 : xlk (xm_cd m_Mo_stepByte) 146 = some (.ireturn, 1, (0, 0, 0, [])) := rfl
def B_Mo_stepByte_0 (d : Nat) (E : Option Value → xH → Prop) (f : xH) (a0 : Nat) (x1 : Int32) (x2 : Int32) (x3 : Int32) (x4 : Int32) : Prop :=
  xpf f a0 11 0 (.int 0) (fun f1 => (∃ fs, f1 a0 = some (xO 11 fs)) ∧ xSp xT0 d j_Mo_noPatch [.ref a0, .int x1] f1 (fun w2 f3 => xvi w2 (fun v4 => xbr (¬ v4 = 0) (E (some (.int (-1))) f3) (xbr ((if (0 : Int64) ≤ x3.toInt64 ∧ x3.toInt64 ≤ 1 then (1 : Int32) else 0) = 0) (E (some (.int (-1))) f3) (xgr f3 a0 11 22 (fun r5 => xbr ((if (0 : Int64) ≤ x1.toInt64 ∧ x1.toInt64 ≤ 7 then (1 : Int32) else 0) = 0) (xal f3 r5 0 0 (fun v6 => xbr (¬ (if (0 : Int64) ≤ x2.toInt64 ∧ x2.toInt64 ≤ (v6 - 1).toInt64 then (1 : Int32) else 0) = 0) (xbr (¬ x3 = 0) (xgr f3 a0 11 15 (fun r7 => xal f3 r7 0 ((24 * x1) + x2) (fun v8 => xbr ((if (0 : Int64) ≤ x4.toInt64 ∧ x4.toInt64 ≤ (v8 - 1).toInt64 then (1 : Int32) else 0) = 0) (E (some (.int (-1))) f3) (xgr f3 a0 11 14 (fun r9 => xal f3 r9 2 ((18 * ((24 * x1) + x2)) + x4) (fun v10 => E (some (.int v10)) f3)))))) (xgr f3 a0 11 13 (fun r11 => xal f3 r11 0 ((24 * x1) + x2) (fun v12 => xbr ((if (0 : Int64) ≤ x4.toInt64 ∧ x4.toInt64 ≤ (v12 - 1).toInt64 then (1 : Int32) else 0) = 0) (E (some (.int (-1))) f3) (xgr f3 a0 11 12 (fun r13 => xal f3 r13 2 ((18 * ((24 * x1) + x2)) + x4) (fun v14 => E (some (.int v14)) f3))))))) (E (some (.int (-1))) f3))) (xal f3 r5 0 x1 (fun v15 => xbr (¬ (if (0 : Int64) ≤ x2.toInt64 ∧ x2.toInt64 ≤ (v15 - 1).toInt64 then (1 : Int32) else 0) = 0) (xbr (¬ x3 = 0) (xgr f3 a0 11 15 (fun r16 => xal f3 r16 0 ((24 * x1) + x2) (fun v17 => xbr ((if (0 : Int64) ≤ x4.toInt64 ∧ x4.toInt64 ≤ (v17 - 1).toInt64 then (1 : Int32) else 0) = 0) (E (some (.int (-1))) f3) (xgr f3 a0 11 14 (fun r18 => xal f3 r18 2 ((18 * ((24 * x1) + x2)) + x4) (fun v19 => E (some (.int v19)) f3)))))) (xgr f3 a0 11 13 (fun r20 => xal f3 r20 0 ((24 * x1) + x2) (fun v21 => xbr ((if (0 : Int64) ≤ x4.toInt64 ∧ x4.toInt64 ≤ (v21 - 1).toInt64 then (1 : Int32) else 0) = 0) (E (some (.int (-1))) f3) (xgr f3 a0 11 12 (fun r22 => xal f3 r22 2 ((18 * ((24 * x1) + x2)) + x4) (fun v23 => E (some (.int v23)) f3))))))) (E (some (.int (-1))) f3)))))))))
theorem b_Mo_stepByte_0 {d : Nat} {E : Option Value → xH → Prop} {f : xH} {a0 : Nat} {x1 : Int32} {x2 : Int32} {x3 : Int32} {x4 : Int32} (h : B_Mo_stepByte_0 d E f a0 x1 x2 x3 x4) : xWp (xT0, xSp xT0 d, none, m_Mo_stepByte, E) 0 [some (.ref a0), some (.int x1), some (.int x2), some (.int x3), some (.int x4), none] [] f 0 0 := by
  unfold B_Mo_stepByte_0 at h
  refine s_aln l_Mo_stepByte_0 rfl ?_
  refine s_ic 0 l_Mo_stepByte_1 rfl ?_
  refine s_pf l_Mo_stepByte_2 ⟨_, rfl⟩ h (fun f1 h => ?_)
  refine s_aln l_Mo_stepByte_5 rfl ?_
  refine s_iln l_Mo_stepByte_6 rfl ?_
  refine s_cvi (As := [.int x1]) (r := []) l_Mo_stepByte_7 rfl ⟨rfl, rfl⟩ rfl (Nat.le_of_ble_eq_true rfl) rfl ⟨Nat.zero_le _, Nat.zero_le _⟩ h (fun v4 f3 h => ?_)
  refine s_if l_Mo_stepByte_10 h (fun h => ?_) (fun h => ?_)
  · refine s_ic (-1) l_Mo_stepByte_57 rfl ?_
    exact s_iret l_Mo_stepByte_58 rfl ⟨Nat.zero_le _, Nat.zero_le _⟩ h
  · refine s_iln l_Mo_stepByte_13 rfl ?_
    refine s_i2l l_Mo_stepByte_14 ?_
    refine s_lc 0 l_Mo_stepByte_15 rfl ?_
    refine s_lc 1 l_Mo_stepByte_16 rfl ?_
    refine s_in l_Mo_stepByte_17 (Nat.le_of_ble_eq_true rfl) ⟨Nat.zero_le _, Nat.zero_le _⟩ ?_
    refine s_if l_Mo_stepByte_20 h (fun h => ?_) (fun h => ?_)
    · refine s_ic (-1) l_Mo_stepByte_57 rfl ?_
      exact s_iret l_Mo_stepByte_58 rfl ⟨Nat.zero_le _, Nat.zero_le _⟩ h
    · refine s_iln l_Mo_stepByte_23 rfl ?_
      refine s_i2l l_Mo_stepByte_24 ?_
      refine s_lc 0 l_Mo_stepByte_25 rfl ?_
      refine s_aln l_Mo_stepByte_26 rfl ?_
      refine s_gr l_Mo_stepByte_27 h (fun r5 h => ?_)
      refine s_iln l_Mo_stepByte_30 rfl ?_
      refine s_i2l l_Mo_stepByte_31 ?_
      refine s_lc 0 l_Mo_stepByte_32 rfl ?_
      refine s_ldc2 7 l_Mo_stepByte_33 rfl ?_
      refine s_in l_Mo_stepByte_36 (Nat.le_of_ble_eq_true rfl) ⟨Nat.zero_le _, Nat.zero_le _⟩ ?_
      refine s_if l_Mo_stepByte_39 h (fun h => ?_) (fun h => ?_)
      · refine s_ic 0 l_Mo_stepByte_46 rfl ?_
        refine s_ial l_Mo_stepByte_47 rfl h (fun v6 h => ?_)
        refine s_ic 1 l_Mo_stepByte_48 rfl ?_
        refine s_isub l_Mo_stepByte_49 ?_
        refine s_i2l l_Mo_stepByte_50 ?_
        refine s_in l_Mo_stepByte_51 (Nat.le_of_ble_eq_true rfl) ⟨Nat.zero_le _, Nat.zero_le _⟩ ?_
        refine s_if l_Mo_stepByte_54 h (fun h => ?_) (fun h => ?_)
        · refine s_bp 24 l_Mo_stepByte_59 rfl ?_
          refine s_iln l_Mo_stepByte_61 rfl ?_
          refine s_imul l_Mo_stepByte_62 ?_
          refine s_iln l_Mo_stepByte_63 rfl ?_
          refine s_iadd l_Mo_stepByte_64 ?_
          refine s_is l_Mo_stepByte_65 (Nat.le_of_ble_eq_true rfl) ?_
          refine s_iln l_Mo_stepByte_67 rfl ?_
          refine s_if l_Mo_stepByte_68 h (fun h => ?_) (fun h => ?_)
          · refine s_il l_Mo_stepByte_109 rfl ?_
            refine s_i2l l_Mo_stepByte_111 ?_
            refine s_lc 0 l_Mo_stepByte_112 rfl ?_
            refine s_aln l_Mo_stepByte_113 rfl ?_
            refine s_gr l_Mo_stepByte_114 h (fun r7 h => ?_)
            refine s_il l_Mo_stepByte_117 rfl ?_
            refine s_ial l_Mo_stepByte_119 rfl h (fun v8 h => ?_)
            refine s_ic 1 l_Mo_stepByte_120 rfl ?_
            refine s_isub l_Mo_stepByte_121 ?_
            refine s_i2l l_Mo_stepByte_122 ?_
            refine s_in l_Mo_stepByte_123 (Nat.le_of_ble_eq_true rfl) ⟨Nat.zero_le _, Nat.zero_le _⟩ ?_
            refine s_if l_Mo_stepByte_126 h (fun h => ?_) (fun h => ?_)
            · refine s_ic (-1) l_Mo_stepByte_145 rfl ?_
              exact s_iret l_Mo_stepByte_146 rfl ⟨Nat.zero_le _, Nat.zero_le _⟩ h
            · refine s_aln l_Mo_stepByte_129 rfl ?_
              refine s_gr l_Mo_stepByte_130 h (fun r9 h => ?_)
              refine s_bp 18 l_Mo_stepByte_133 rfl ?_
              refine s_il l_Mo_stepByte_135 rfl ?_
              refine s_imul l_Mo_stepByte_137 ?_
              refine s_il l_Mo_stepByte_138 rfl ?_
              refine s_iadd l_Mo_stepByte_140 ?_
              refine s_bal l_Mo_stepByte_141 (Or.inr rfl) h (fun v10 h => ?_)
              refine s_goto l_Mo_stepByte_142 ?_
              exact s_iret l_Mo_stepByte_146 rfl ⟨Nat.zero_le _, Nat.zero_le _⟩ h
          · refine s_il l_Mo_stepByte_71 rfl ?_
            refine s_i2l l_Mo_stepByte_73 ?_
            refine s_lc 0 l_Mo_stepByte_74 rfl ?_
            refine s_aln l_Mo_stepByte_75 rfl ?_
            refine s_gr l_Mo_stepByte_76 h (fun r11 h => ?_)
            refine s_il l_Mo_stepByte_79 rfl ?_
            refine s_ial l_Mo_stepByte_81 rfl h (fun v12 h => ?_)
            refine s_ic 1 l_Mo_stepByte_82 rfl ?_
            refine s_isub l_Mo_stepByte_83 ?_
            refine s_i2l l_Mo_stepByte_84 ?_
            refine s_in l_Mo_stepByte_85 (Nat.le_of_ble_eq_true rfl) ⟨Nat.zero_le _, Nat.zero_le _⟩ ?_
            refine s_if l_Mo_stepByte_88 h (fun h => ?_) (fun h => ?_)
            · refine s_ic (-1) l_Mo_stepByte_107 rfl ?_
              exact s_iret l_Mo_stepByte_108 rfl ⟨Nat.zero_le _, Nat.zero_le _⟩ h
            · refine s_aln l_Mo_stepByte_91 rfl ?_
              refine s_gr l_Mo_stepByte_92 h (fun r13 h => ?_)
              refine s_bp 18 l_Mo_stepByte_95 rfl ?_
              refine s_il l_Mo_stepByte_97 rfl ?_
              refine s_imul l_Mo_stepByte_99 ?_
              refine s_il l_Mo_stepByte_100 rfl ?_
              refine s_iadd l_Mo_stepByte_102 ?_
              refine s_bal l_Mo_stepByte_103 (Or.inr rfl) h (fun v14 h => ?_)
              refine s_goto l_Mo_stepByte_104 ?_
              exact s_iret l_Mo_stepByte_108 rfl ⟨Nat.zero_le _, Nat.zero_le _⟩ h
        · refine s_ic (-1) l_Mo_stepByte_57 rfl ?_
          exact s_iret l_Mo_stepByte_58 rfl ⟨Nat.zero_le _, Nat.zero_le _⟩ h
      · refine s_iln l_Mo_stepByte_42 rfl ?_
        refine s_goto l_Mo_stepByte_43 ?_
        refine s_ial l_Mo_stepByte_47 rfl h (fun v15 h => ?_)
        refine s_ic 1 l_Mo_stepByte_48 rfl ?_
        refine s_isub l_Mo_stepByte_49 ?_
        refine s_i2l l_Mo_stepByte_50 ?_
        refine s_in l_Mo_stepByte_51 (Nat.le_of_ble_eq_true rfl) ⟨Nat.zero_le _, Nat.zero_le _⟩ ?_
        refine s_if l_Mo_stepByte_54 h (fun h => ?_) (fun h => ?_)
        · refine s_bp 24 l_Mo_stepByte_59 rfl ?_
          refine s_iln l_Mo_stepByte_61 rfl ?_
          refine s_imul l_Mo_stepByte_62 ?_
          refine s_iln l_Mo_stepByte_63 rfl ?_
          refine s_iadd l_Mo_stepByte_64 ?_
          refine s_is l_Mo_stepByte_65 (Nat.le_of_ble_eq_true rfl) ?_
          refine s_iln l_Mo_stepByte_67 rfl ?_
          refine s_if l_Mo_stepByte_68 h (fun h => ?_) (fun h => ?_)
          · refine s_il l_Mo_stepByte_109 rfl ?_
            refine s_i2l l_Mo_stepByte_111 ?_
            refine s_lc 0 l_Mo_stepByte_112 rfl ?_
            refine s_aln l_Mo_stepByte_113 rfl ?_
            refine s_gr l_Mo_stepByte_114 h (fun r16 h => ?_)
            refine s_il l_Mo_stepByte_117 rfl ?_
            refine s_ial l_Mo_stepByte_119 rfl h (fun v17 h => ?_)
            refine s_ic 1 l_Mo_stepByte_120 rfl ?_
            refine s_isub l_Mo_stepByte_121 ?_
            refine s_i2l l_Mo_stepByte_122 ?_
            refine s_in l_Mo_stepByte_123 (Nat.le_of_ble_eq_true rfl) ⟨Nat.zero_le _, Nat.zero_le _⟩ ?_
            refine s_if l_Mo_stepByte_126 h (fun h => ?_) (fun h => ?_)
            · refine s_ic (-1) l_Mo_stepByte_145 rfl ?_
              exact s_iret l_Mo_stepByte_146 rfl ⟨Nat.zero_le _, Nat.zero_le _⟩ h
            · refine s_aln l_Mo_stepByte_129 rfl ?_
              refine s_gr l_Mo_stepByte_130 h (fun r18 h => ?_)
              refine s_bp 18 l_Mo_stepByte_133 rfl ?_
              refine s_il l_Mo_stepByte_135 rfl ?_
              refine s_imul l_Mo_stepByte_137 ?_
              refine s_il l_Mo_stepByte_138 rfl ?_
              refine s_iadd l_Mo_stepByte_140 ?_
              refine s_bal l_Mo_stepByte_141 (Or.inr rfl) h (fun v19 h => ?_)
              refine s_goto l_Mo_stepByte_142 ?_
              exact s_iret l_Mo_stepByte_146 rfl ⟨Nat.zero_le _, Nat.zero_le _⟩ h
          · refine s_il l_Mo_stepByte_71 rfl ?_
            refine s_i2l l_Mo_stepByte_73 ?_
            refine s_lc 0 l_Mo_stepByte_74 rfl ?_
            refine s_aln l_Mo_stepByte_75 rfl ?_
            refine s_gr l_Mo_stepByte_76 h (fun r20 h => ?_)
            refine s_il l_Mo_stepByte_79 rfl ?_
            refine s_ial l_Mo_stepByte_81 rfl h (fun v21 h => ?_)
            refine s_ic 1 l_Mo_stepByte_82 rfl ?_
            refine s_isub l_Mo_stepByte_83 ?_
            refine s_i2l l_Mo_stepByte_84 ?_
            refine s_in l_Mo_stepByte_85 (Nat.le_of_ble_eq_true rfl) ⟨Nat.zero_le _, Nat.zero_le _⟩ ?_
            refine s_if l_Mo_stepByte_88 h (fun h => ?_) (fun h => ?_)
            · refine s_ic (-1) l_Mo_stepByte_107 rfl ?_
              exact s_iret l_Mo_stepByte_108 rfl ⟨Nat.zero_le _, Nat.zero_le _⟩ h
            · refine s_aln l_Mo_stepByte_91 rfl ?_
              refine s_gr l_Mo_stepByte_92 h (fun r22 h => ?_)
              refine s_bp 18 l_Mo_stepByte_95 rfl ?_
              refine s_il l_Mo_stepByte_97 rfl ?_
              refine s_imul l_Mo_stepByte_99 ?_
              refine s_il l_Mo_stepByte_100 rfl ?_
              refine s_iadd l_Mo_stepByte_102 ?_
              refine s_bal l_Mo_stepByte_103 (Or.inr rfl) h (fun v23 h => ?_)
              refine s_goto l_Mo_stepByte_104 ?_
              exact s_iret l_Mo_stepByte_108 rfl ⟨Nat.zero_le _, Nat.zero_le _⟩ h
        · refine s_ic (-1) l_Mo_stepByte_57 rfl ?_
          exact s_iret l_Mo_stepByte_58 rfl ⟨Nat.zero_le _, Nat.zero_le _⟩ h
theorem l_Mo_piece_0 : xlk (xm_cd m_Mo_piece) 0 = some (.aload_n 0, 1, (0, 0, 0, [])) := rfl
theorem l_Mo_piece_1 : xlk (xm_cd m_Mo_piece) 1 = some (.iconst 0, 1, (0, 0, 0, [])) := rfl
theorem l_Mo_piece_2 : xlk (xm_cd m_Mo_piece) 2 = some (.putfield 1, 3, (849, 11, 0, [(0, 0)])) := rfl
theorem l_Mo_piece_5 : xlk (xm_cd m_Mo_piece) 5 = some (.aload_n 0, 1, (0, 0, 0, [])) := rfl
theorem l_Mo_piece_6 : xlk (xm_cd m_Mo_piece) 6 = some (.iload_n 1, 1, (0, 0, 0, [])) := rfl
theorem l_Mo_piece_7 : xlk (xm_cd m_Mo_piece) 7 = some (.invokevirtual 257, 3, (1081, 185, 1, [])) := rfl
theorem l_Mo_piece_10 : xlk (xm_cd m_Mo_piece) 10 = some (.ifCond .ne 47, 3, (0, 57, 0, [])) := rfl
theorem l_Mo_piece_13 : xlk (xm_cd m_Mo_piece) 13 = some (.iload_n 3, 1, (0, 0, 0, [])) := rfl
theorem l_Mo_piece_14 : xlk (xm_cd m_Mo_piece) 14 = some (.i2l, 1, (0, 0, 0, [])) := rfl
theorem l_Mo_piece_15 : xlk (xm_cd m_Mo_piece) 15 = some (.lconst 0, 1, (0, 0, 0, [])) := rfl
theorem l_Mo_piece_16 : xlk (xm_cd m_Mo_piece) 16 = some (.lconst 1, 1, (0, 0, 0, [])) := rfl
theorem l_Mo_piece_17 : xlk (xm_cd m_Mo_piece) 17 = some (.invokestatic 132, 3, (955, 0, 0, [(2, 2)])) := rfl
theorem l_Mo_piece_20 : xlk (xm_cd m_Mo_piece) 20 = some (.ifCond .eq 37, 3, (0, 57, 0, [])) := rfl
theorem l_Mo_piece_23 : xlk (xm_cd m_Mo_piece) 23 = some (.iload_n 2, 1, (0, 0, 0, [])) := rfl
theorem l_Mo_piece_24 : xlk (xm_cd m_Mo_piece) 24 = some (.i2l, 1, (0, 0, 0, [])) := rfl
theorem l_Mo_piece_25 : xlk (xm_cd m_Mo_piece) 25 = some (.lconst 0, 1, (0, 0, 0, [])) := rfl
theorem l_Mo_piece_26 : xlk (xm_cd m_Mo_piece) 26 = some (.aload_n 0, 1, (0, 0, 0, [])) := rfl
theorem l_Mo_piece_27 : xlk (xm_cd m_Mo_piece) 27 = some (.getfield 69, 3, (871, 11, 22, [])) := rfl
theorem l_Mo_piece_30 : xlk (xm_cd m_Mo_piece) 30 = some (.iload_n 1, 1, (0, 0, 0, [])) := rfl
theorem l_Mo_piece_31 : xlk (xm_cd m_Mo_piece) 31 = some (.i2l, 1, (0, 0, 0, [])) := rfl
theorem l_Mo_piece_32 : xlk (xm_cd m_Mo_piece) 32 = some (.lconst 0, 1, (0, 0, 0, [])) := rfl
theorem l_Mo_piece_33 : xlk (xm_cd m_Mo_piece) 33 = some (.ldc2_w 270, 3, (1095, 0, 0, [(7, 0)])) := rfl
theorem l_Mo_piece_36 : xlk (xm_cd m_Mo_piece) 36 = some (.invokestatic 132, 3, (955, 0, 0, [(2, 2)])) := rfl
theorem l_Mo_piece_39 : xlk (xm_cd m_Mo_piece) 39 = some (.ifCond .eq 7, 3, (0, 46, 0, [])) := rfl
theorem l_Mo_piece_42 : xlk (xm_cd m_Mo_piece) 42 = some (.iload_n 1, 1, (0, 0, 0, [])) := rfl
theorem l_Mo_piece_43 : xlk (xm_cd m_Mo_piece) 43 = some (.goto 4, 3, (0, 47, 0, [])) := rfl
theorem l_Mo_piece_46 : xlk (xm_cd m_Mo_piece) 46 = some (.iconst 0, 1, (0, 0, 0, [])) := rfl
theorem l_Mo_piece_47 : xlk (xm_cd m_Mo_piece) 47 = some (.iaload, 1, (0, 0, 0, [])) := rfl
theorem l_Mo_piece_48 : xlk (xm_cd m_Mo_piece) 48 = some (.iconst 1, 1, (0, 0, 0, [])) := rfl
theorem l_Mo_piece_49 : xlk (xm_cd m_Mo_piece) 49 = some (.isub, 1, (0, 0, 0, [])) := rfl
theorem l_Mo_piece_50 : xlk (xm_cd m_Mo_piece) 50 = some (.i2l, 1, (0, 0, 0, [])) := rfl
theorem l_Mo_piece_51 : xlk (xm_cd m_Mo_piece) 51 = some (.invokestatic 132, 3, (955, 0, 0, [(2, 2)])) := rfl
theorem l_Mo_piece_54 : xlk (xm_cd m_Mo_piece) 54 = some (.ifCond .ne 5, 3, (0, 59, 0, [])) := rfl
theorem l_Mo_piece_57 : xlk (xm_cd m_Mo_piece) 57 = some (.iconst (-1), 1, (0, 0, 0, [])) := rfl
theorem l_Mo_piece_58 : xlk (xm_cd m_Mo_piece) 58 = some (.ireturn, 1, (0, 0, 0, [])) := rfl
theorem l_Mo_piece_59 : xlk (xm_cd m_Mo_piece) 59 = some (.bipush 24, 2, (0, 0, 0, [])) := rfl
theorem l_Mo_piece_61 : xlk (xm_cd m_Mo_piece) 61 = some (.iload_n 1, 1, (0, 0, 0, [])) := rfl
theorem l_Mo_piece_62 : xlk (xm_cd m_Mo_piece) 62 = some (.imul, 1, (0, 0, 0, [])) := rfl
theorem l_Mo_piece_63 : xlk (xm_cd m_Mo_piece) 63 = some (.iload_n 2, 1, (0, 0, 0, [])) := rfl
theorem l_Mo_piece_64 : xlk (xm_cd m_Mo_piece) 64 = some (.iadd, 1, (0, 0, 0, [])) := rfl
theorem l_Mo_piece_65 : xlk (xm_cd m_Mo_piece) 65 = some (.istore 6, 2, (0, 0, 0, [])) := rfl
theorem l_Mo_piece_67 : xlk (xm_cd m_Mo_piece) 67 = some (.iload_n 3, 1, (0, 0, 0, [])) := rfl
theorem l_Mo_piece_68 : xlk (xm_cd m_Mo_piece) 68 = some (.ifCond .ne 10, 3, (0, 78, 0, [])) := rfl
theorem l_Mo_piece_71 : xlk (xm_cd m_Mo_piece) 71 = some (.aload_n 0, 1, (0, 0, 0, [])) := rfl
theorem l_Mo_piece_72 : xlk (xm_cd m_Mo_piece) 72 = some (.getfield 63, 3, (869, 11, 20, [])) := rfl
theorem l_Mo_piece_75 : xlk (xm_cd m_Mo_piece) 75 = some (.goto 7, 3, (0, 82, 0, [])) := rfl
theorem l_Mo_piece_78 : xlk (xm_cd m_Mo_piece) 78 = some (.aload_n 0, 1, (0, 0, 0, [])) := rfl
theorem l_Mo_piece_79 : xlk (xm_cd m_Mo_piece) 79 = some (.getfield 66, 3, (870, 11, 21, [])) := rfl
theorem l_Mo_piece_82 : xlk (xm_cd m_Mo_piece) 82 = some (.astore 7, 2, (0, 0, 0, [])) := rfl
theorem l_Mo_piece_84 : xlk (xm_cd m_Mo_piece) 84 = some (.iload_n 3, 1, (0, 0, 0, [])) := rfl
theorem l_Mo_piece_85 : xlk (xm_cd m_Mo_piece) 85 = some (.ifCond .ne 13, 3, (0, 98, 0, [])) := rfl
theorem l_Mo_piece_88 : xlk (xm_cd m_Mo_piece) 88 = some (.aload_n 0, 1, (0, 0, 0, [])) := rfl
theorem l_Mo_piece_89 : xlk (xm_cd m_Mo_piece) 89 = some (.getfield 57, 3, (867, 11, 18, [])) := rfl
theorem l_Mo_piece_92 : xlk (xm_cd m_Mo_piece) 92 = some (.iload 6, 2, (0, 0, 0, [])) := rfl
theorem l_Mo_piece_94 : xlk (xm_cd m_Mo_piece) 94 = some (.iaload, 1, (0, 0, 0, [])) := rfl
theorem l_Mo_piece_95 : xlk (xm_cd m_Mo_piece) 95 = some (.goto 10, 3, (0, 105, 0, [])) := rfl
theorem l_Mo_piece_98 : xlk (xm_cd m_Mo_piece) 98 = some (.aload_n 0, 1, (0, 0, 0, [])) := rfl
theorem l_Mo_piece_99 : xlk (xm_cd m_Mo_piece) 99 = some (.getfield 51, 3, (865, 11, 16, [])) := rfl
theorem l_Mo_piece_102 : xlk (xm_cd m_Mo_piece) 102 = some (.iload 6, 2, (0, 0, 0, [])) := rfl
theorem l_Mo_piece_104 : xlk (xm_cd m_Mo_piece) 104 = some (.iaload, 1, (0, 0, 0, [])) := rfl
theorem l_Mo_piece_105 : xlk (xm_cd m_Mo_piece) 105 = some (.invokestatic 262, 3, (1085, 186, 1, [])) := rfl
theorem l_Mo_piece_108 : xlk (xm_cd m_Mo_piece) 108 = some (.istore 8, 2, (0, 0, 0, [])) := rfl
theorem l_Mo_piece_110 : xlk (xm_cd m_Mo_piece) 110 = some (.iload 4, 2, (0, 0, 0, [])) := rfl
theorem l_Mo_piece_112 : xlk (xm_cd m_Mo_piece) 112 = some (.i2l, 1, (0, 0, 0, [])) := rfl
theorem l_Mo_piece_113 : xlk (xm_cd m_Mo_piece) 113 = some (.lconst 0, 1, (0, 0, 0, [])) := rfl
theorem l_Mo_piece_114 : xlk (xm_cd m_Mo_piece) 114 = some (.aload_n 0, 1, (0, 0, 0, [])) := rfl
theorem l_Mo_piece_115 : xlk (xm_cd m_Mo_piece) 115 = some (.aload 7, 2, (0, 0, 0, [])) := rfl
theorem l_Mo_piece_117 : xlk (xm_cd m_Mo_piece) 117 = some (.bipush 48, 2, (0, 0, 0, [])) := rfl
theorem l_Mo_piece_119 : xlk (xm_cd m_Mo_piece) 119 = some (.iload 6, 2, (0, 0, 0, [])) := rfl
theorem l_Mo_piece_121 : xlk (xm_cd m_Mo_piece) 121 = some (.imul, 1, (0, 0, 0, [])) := rfl
theorem l_Mo_piece_122 : xlk (xm_cd m_Mo_piece) 122 = some (.iload 8, 2, (0, 0, 0, [])) := rfl
theorem l_Mo_piece_124 : xlk (xm_cd m_Mo_piece) 124 = some (.iload 4, 2, (0, 0, 0, [])) := rfl
theorem l_Mo_piece_126 : xlk (xm_cd m_Mo_piece) 126 = some (.invokevirtual 266, 3, (1088, 187, 4, [])) := rfl
theorem l_Mo_piece_129 : xlk (xm_cd m_Mo_piece) 129 = some (.iconst 1, 1, (0, 0, 0, [])) := rfl
theorem l_Mo_piece_130 : xlk (xm_cd m_Mo_piece) 130 = some (.isub, 1, (0, 0, 0, [])) := rfl
theorem l_Mo_piece_131 : xlk (xm_cd m_Mo_piece) 131 = some (.i2l, 1, (0, 0, 0, [])) := rfl
theorem l_Mo_piece_132 : xlk (xm_cd m_Mo_piece) 132 = some (.invokestatic 132, 3, (955, 0, 0, [(2, 2)])) := rfl
theorem l_Mo_piece_135 : xlk (xm_cd m_Mo_piece) 135 = some (.ifCond .eq 10, 3, (0, 145, 0, [])) := rfl
theorem l_Mo_piece_138 : xlk (xm_cd m_Mo_piece) 138 = some (.iload 5, 2, (0, 0, 0, [])) := rfl
theorem l_Mo_piece_140 : xlk (xm_cd m_Mo_piece) 140 = some (.bipush (-2), 2, (0, 0, 0, [])) := rfl
theorem l_Mo_piece_142 : xlk (xm_cd m_Mo_piece) 142 = some (.if_icmp .ge 5, 3, (0, 147, 0, [])) := rfl
set_option maxRecDepth 20000 in
theorem l_Mo_piece_145 : xlk (xm_cd m_Mo_piece) 145 = some (.iconst (-1), 1, (0, 0, 0, [])) := rfl
set_option maxRecDepth 20000 in
theorem l_Mo_piece_146 : xlk (xm_cd m_Mo_piece) 146 = some (.ireturn, 1, (0, 0, 0, [])) := rfl
set_option maxRecDepth 20000 in
theorem l_Mo_piece_147 : xlk (xm_cd m_Mo_piece) 147 = some (.aload 7, 2, (0, 0, 0, [])) := rfl
set_option maxRecDepth 20000 in
theorem l_Mo_piece_149 : xlk (xm_cd m_Mo_piece) 149 = some (.bipush 48, 2, (0, 0, 0, [])) := rfl
set_option maxRecDepth 20000 in
theorem l_Mo_piece_151 : xlk (xm_cd m_Mo_piece) 151 = some (.iload 6, 2, (0, 0, 0, [])) := rfl
set_option maxRecDepth 20000 in
theorem l_Mo_piece_153 : xlk (xm_cd m_Mo_piece) 153 = some (.imul, 1, (0, 0, 0, [])) := rfl
set_option maxRecDepth 20000 in
theorem l_Mo_piece_154 : xlk (xm_cd m_Mo_piece) 154 = some (.aload_n 0, 1, (0, 0, 0, [])) := rfl
set_option maxRecDepth 20000 in
theorem l_Mo_piece_155 : xlk (xm_cd m_Mo_piece) 155 = some (.getfield 251, 3, (878, 11, 29, [])) := rfl
set_option maxRecDepth 20000 in
theorem l_Mo_piece_158 : xlk (xm_cd m_Mo_piece) 158 = some (.iadd, 1, (0, 0, 0, [])) := rfl
set_option maxRecDepth 20000 in
theorem l_Mo_piece_159 : xlk (xm_cd m_Mo_piece) 159 = some (.iaload, 1, (0, 0, 0, [])) := rfl
set_option maxRecDepth 20000 in
theorem l_Mo_piece_160 : xlk (xm_cd m_Mo_piece) 160 = some (.istore 9, 2, (0, 0, 0, [])) := rfl
set_option maxRecDepth 20000 in
theorem l_Mo_piece_162 : xlk (xm_cd m_Mo_piece) 162 = some (.iload 5, 2, (0, 0, 0, [])) := rfl
set_option maxRecDepth 20000 in
theorem l_Mo_piece_164 : xlk (xm_cd m_Mo_piece) 164 = some (.bipush (-2), 2, (0, 0, 0, [])) := rfl
set_option maxRecDepth 20000 in
theorem l_Mo_piece_166 : xlk (xm_cd m_Mo_piece) 166 = some (.if_icmp .ne 13, 3, (0, 179, 0, [])) := rfl
set_option maxRecDepth 20000 in
theorem l_Mo_piece_169 : xlk (xm_cd m_Mo_piece) 169 = some (.aload_n 0, 1, (0, 0, 0, [])) := rfl
set_option maxRecDepth 20000 in
theorem l_Mo_piece_170 : xlk (xm_cd m_Mo_piece) 170 = some (.getfield 254, 3, (879, 11, 30, [])) := rfl
set_option maxRecDepth 20000 in
theorem l_Mo_piece_173 : xlk (xm_cd m_Mo_piece) 173 = some (.aload_n 0, 1, (0, 0, 0, [])) := rfl
set_option maxRecDepth 20000 in
theorem l_Mo_piece_174 : xlk (xm_cd m_Mo_piece) 174 = some (.getfield 251, 3, (878, 11, 29, [])) := rfl
set_option maxRecDepth 20000 in
theorem l_Mo_piece_177 : xlk (xm_cd m_Mo_piece) 177 = some (.isub, 1, (0, 0, 0, [])) := rfl
set_option maxRecDepth 20000 in
theorem l_Mo_piece_178 : xlk (xm_cd m_Mo_piece) 178 = some (.ireturn, 1, (0, 0, 0, [])) := rfl
set_option maxRecDepth 20000 in
theorem l_Mo_piece_179 : xlk (xm_cd m_Mo_piece) 179 = some (.iload 5, 2, (0, 0, 0, [])) := rfl
set_option maxRecDepth 20000 in
theorem l_Mo_piece_181 : xlk (xm_cd m_Mo_piece) 181 = some (.iconst (-1), 1, (0, 0, 0, [])) := rfl
set_option maxRecDepth 20000 in
theorem l_Mo_piece_182 : xlk (xm_cd m_Mo_piece) 182 = some (.if_icmp .ne 16, 3, (0, 198, 0, [])) := rfl
set_option maxRecDepth 20000 in
theorem l_Mo_piece_185 : xlk (xm_cd m_Mo_piece) 185 = some (.iload 9, 2, (0, 0, 0, [])) := rfl
set_option maxRecDepth 20000 in
theorem l_Mo_piece_187 : xlk (xm_cd m_Mo_piece) 187 = some (.ifCond .ge 8, 3, (0, 195, 0, [])) := rfl
set_option maxRecDepth 20000 in
theorem l_Mo_piece_190 : xlk (xm_cd m_Mo_piece) 190 = some (.bipush (-2), 2, (0, 0, 0, [])) := rfl
set_option maxRecDepth 20000 in
theorem l_Mo_piece_192 : xlk (xm_cd m_Mo_piece) 192 = some (.goto 5, 3, (0, 197, 0, [])) := rfl
set_option maxRecDepth 20000 in
theorem l_Mo_piece_195 : xlk (xm_cd m_Mo_piece) 195 = some (.iload 9, 2, (0, 0, 0, [])) := rfl
set_option maxRecDepth 20000 in
theorem l_Mo_piece_197 : xlk (xm_cd m_Mo_piece) 197 = some (.ireturn, 1, (0, 0, 0, [])) := rfl
set_option maxRecDepth 20000 in
theorem l_Mo_piece_198 : xlk (xm_cd m_Mo_piece) 198 = some (.iload 9, 2, (0, 0, 0, [])) := rfl
set_option maxRecDepth 20000 in
theorem l_Mo_piece_200 : xlk (xm_cd m_Mo_piece) 200 = some (.ifCond .ge 38, 3, (0, 238, 0, [])) := rfl
set_option maxRecDepth 20000 in
theorem l_Mo_piece_203 : xlk (xm_cd m_Mo_piece) 203 = some (.iload 5, 2, (0, 0, 0, [])) := rfl
set_option maxRecDepth 20000 in
theorem l_Mo_piece_205 : xlk (xm_cd m_Mo_piece) 205 = some (.aload_n 0, 1, (0, 0, 0, [])) := rfl
set_option maxRecDepth 20000 in
theorem l_Mo_piece_206 : xlk (xm_cd m_Mo_piece) 206 = some (.getfield 254, 3, (879, 11, 30, [])) := rfl
set_option maxRecDepth 20000 in
theorem l_Mo_piece_209 : xlk (xm_cd m_Mo_piece) 209 = some (.aload_n 0, 1, (0, 0, 0, [])) := rfl
set_option maxRecDepth 20000 in
theorem l_Mo_piece_210 : xlk (xm_cd m_Mo_piece) 210 = some (.getfield 251, 3, (878, 11, 29, [])) := rfl
set_option maxRecDepth 20000 in
theorem l_Mo_piece_213 : xlk (xm_cd m_Mo_piece) 213 = some (.isub, 1, (0, 0, 0, [])) := rfl
set_option maxRecDepth 20000 in
theorem l_Mo_piece_214 : xlk (xm_cd m_Mo_piece) 214 = some (.if_icmp .ge 24, 3, (0, 238, 0, [])) := rfl
set_option maxRecDepth 20000 in
theorem l_Mo_piece_217 : xlk (xm_cd m_Mo_piece) 217 = some (.iconst (-1), 1, (0, 0, 0, [])) := rfl
set_option maxRecDepth 20000 in
theorem l_Mo_piece_218 : xlk (xm_cd m_Mo_piece) 218 = some (.aload 7, 2, (0, 0, 0, [])) := rfl
set_option maxRecDepth 20000 in
theorem l_Mo_piece_220 : xlk (xm_cd m_Mo_piece) 220 = some (.bipush 48, 2, (0, 0, 0, [])) := rfl
set_option maxRecDepth 20000 in
theorem l_Mo_piece_222 : xlk (xm_cd m_Mo_piece) 222 = some (.iload 6, 2, (0, 0, 0, [])) := rfl
set_option maxRecDepth 20000 in
theorem l_Mo_piece_224 : xlk (xm_cd m_Mo_piece) 224 = some (.imul, 1, (0, 0, 0, [])) := rfl
set_option maxRecDepth 20000 in
theorem l_Mo_piece_225 : xlk (xm_cd m_Mo_piece) 225 = some (.aload_n 0, 1, (0, 0, 0, [])) := rfl
set_option maxRecDepth 20000 in
theorem l_Mo_piece_226 : xlk (xm_cd m_Mo_piece) 226 = some (.getfield 251, 3, (878, 11, 29, [])) := rfl
set_option maxRecDepth 20000 in
theorem l_Mo_piece_229 : xlk (xm_cd m_Mo_piece) 229 = some (.iadd, 1, (0, 0, 0, [])) := rfl
set_option maxRecDepth 20000 in
theorem l_Mo_piece_230 : xlk (xm_cd m_Mo_piece) 230 = some (.iload 5, 2, (0, 0, 0, [])) := rfl
set_option maxRecDepth 20000 in
theorem l_Mo_piece_232 : xlk (xm_cd m_Mo_piece) 232 = some (.iadd, 1, (0, 0, 0, [])) := rfl
set_option maxRecDepth 20000 in
theorem l_Mo_piece_233 : xlk (xm_cd m_Mo_piece) 233 = some (.iaload, 1, (0, 0, 0, [])) := rfl
set_option maxRecDepth 20000 in
theorem l_Mo_piece_234 : xlk (xm_cd m_Mo_piece) 234 = some (.isub, 1, (0, 0, 0, [])) := rfl
set_option maxRecDepth 20000 in
theorem l_Mo_piece_235 : xlk (xm_cd m_Mo_piece) 235 = some (.goto 4, 3, (0, 239, 0, [])) := rfl
set_option maxRecDepth 20000 in
theorem l_Mo_piece_238 : xlk (xm_cd m_Mo_piece) 238 = some (.iconst (-1), 1, (0, 0, 0, [])) := rfl
set_option maxRecDepth 20000 in
theorem l_Mo_piece_239 : xlk (xm_cd m_Mo_piece) 239 = some (.ireturn, 1, (0, 0, 0, [])) := rfl
def B_Mo_piece_0 (d : Nat) (E : Option Value → xH → Prop) (f : xH) (a0 : Nat) (x1 : Int32) (x2 : Int32) (x3 : Int32) (x4 : Int32) (x5 : Int32) : Prop :=
  xpf f a0 11 0 (.int 0) (fun f1 => (∃ fs, f1 a0 = some (xO 11 fs)) ∧ xSp xT0 d j_Mo_noPatch [.ref a0, .int x1] f1 (fun w2 f3 => xvi w2 (fun v4 => xbr (¬ v4 = 0) (E (some (.int (-1))) f3) (xbr ((if (0 : Int64) ≤ x3.toInt64 ∧ x3.toInt64 ≤ 1 then (1 : Int32) else 0) = 0) (E (some (.int (-1))) f3) (xgr f3 a0 11 22 (fun r5 => xbr ((if (0 : Int64) ≤ x1.toInt64 ∧ x1.toInt64 ≤ 7 then (1 : Int32) else 0) = 0) (xal f3 r5 0 0 (fun v6 => xbr (¬ (if (0 : Int64) ≤ x2.toInt64 ∧ x2.toInt64 ≤ (v6 - 1).toInt64 then (1 : Int32) else 0) = 0) (xbr (¬ x3 = 0) (xgr f3 a0 11 21 (fun r7 => xWp (xT0, xSp xT0 d, none, m_Mo_piece, E) 82 [some (.ref a0), some (.int x1), some (.int x2), some (.int x3), some (.int x4), some (.int x5), some (.int ((24 * x1) + x2)), none, none, none] [.ref r7] f3 0 0)) (xgr f3 a0 11 20 (fun r8 => xWp (xT0, xSp xT0 d, none, m_Mo_piece, E) 82 [some (.ref a0), some (.int x1), some (.int x2), some (.int x3), some (.int x4), some (.int x5), some (.int ((24 * x1) + x2)), none, none, none] [.ref r8] f3 0 0))) (E (some (.int (-1))) f3))) (xal f3 r5 0 x1 (fun v9 => xbr (¬ (if (0 : Int64) ≤ x2.toInt64 ∧ x2.toInt64 ≤ (v9 - 1).toInt64 then (1 : Int32) else 0) = 0) (xbr (¬ x3 = 0) (xgr f3 a0 11 21 (fun r10 => xWp (xT0, xSp xT0 d, none, m_Mo_piece, E) 82 [some (.ref a0), some (.int x1), some (.int x2), some (.int x3), some (.int x4), some (.int x5), some (.int ((24 * x1) + x2)), none, none, none] [.ref r10] f3 0 0)) (xgr f3 a0 11 20 (fun r11 => xWp (xT0, xSp xT0 d, none, m_Mo_piece, E) 82 [some (.ref a0), some (.int x1), some (.int x2), some (.int x3), some (.int x4), some (.int x5), some (.int ((24 * x1) + x2)), none, none, none] [.ref r11] f3 0 0))) (E (some (.int (-1))) f3)))))))))
theorem b_Mo_piece_0 {d : Nat} {E : Option Value → xH → Prop} {f : xH} {a0 : Nat} {x1 : Int32} {x2 : Int32} {x3 : Int32} {x4 : Int32} {x5 : Int32} (h : B_Mo_piece_0 d E f a0 x1 x2 x3 x4 x5) : xWp (xT0, xSp xT0 d, none, m_Mo_piece, E) 0 [some (.ref a0), some (.int x1), some (.int x2), some (.int x3), some (.int x4), some (.int x5), none, none, none, none] [] f 0 0 := by
  unfold B_Mo_piece_0 at h
  refine s_aln l_Mo_piece_0 rfl ?_
  refine s_ic 0 l_Mo_piece_1 rfl ?_
  refine s_pf l_Mo_piece_2 ⟨_, rfl⟩ h (fun f1 h => ?_)
  refine s_aln l_Mo_piece_5 rfl ?_
  refine s_iln l_Mo_piece_6 rfl ?_
  refine s_cvi (As := [.int x1]) (r := []) l_Mo_piece_7 rfl ⟨rfl, rfl⟩ rfl (Nat.le_of_ble_eq_true rfl) rfl ⟨Nat.zero_le _, Nat.zero_le _⟩ h (fun v4 f3 h => ?_)
  refine s_if l_Mo_piece_10 h (fun h => ?_) (fun h => ?_)
  · refine s_ic (-1) l_Mo_piece_57 rfl ?_
    exact s_iret l_Mo_piece_58 rfl ⟨Nat.zero_le _, Nat.zero_le _⟩ h
  · refine s_iln l_Mo_piece_13 rfl ?_
    refine s_i2l l_Mo_piece_14 ?_
    refine s_lc 0 l_Mo_piece_15 rfl ?_
    refine s_lc 1 l_Mo_piece_16 rfl ?_
    refine s_in l_Mo_piece_17 (Nat.le_of_ble_eq_true rfl) ⟨Nat.zero_le _, Nat.zero_le _⟩ ?_
    refine s_if l_Mo_piece_20 h (fun h => ?_) (fun h => ?_)
    · refine s_ic (-1) l_Mo_piece_57 rfl ?_
      exact s_iret l_Mo_piece_58 rfl ⟨Nat.zero_le _, Nat.zero_le _⟩ h
    · refine s_iln l_Mo_piece_23 rfl ?_
      refine s_i2l l_Mo_piece_24 ?_
      refine s_lc 0 l_Mo_piece_25 rfl ?_
      refine s_aln l_Mo_piece_26 rfl ?_
      refine s_gr l_Mo_piece_27 h (fun r5 h => ?_)
      refine s_iln l_Mo_piece_30 rfl ?_
      refine s_i2l l_Mo_piece_31 ?_
      refine s_lc 0 l_Mo_piece_32 rfl ?_
      refine s_ldc2 7 l_Mo_piece_33 rfl ?_
      refine s_in l_Mo_piece_36 (Nat.le_of_ble_eq_true rfl) ⟨Nat.zero_le _, Nat.zero_le _⟩ ?_
      refine s_if l_Mo_piece_39 h (fun h => ?_) (fun h => ?_)
      · refine s_ic 0 l_Mo_piece_46 rfl ?_
        refine s_ial l_Mo_piece_47 rfl h (fun v6 h => ?_)
        refine s_ic 1 l_Mo_piece_48 rfl ?_
        refine s_isub l_Mo_piece_49 ?_
        refine s_i2l l_Mo_piece_50 ?_
        refine s_in l_Mo_piece_51 (Nat.le_of_ble_eq_true rfl) ⟨Nat.zero_le _, Nat.zero_le _⟩ ?_
        refine s_if l_Mo_piece_54 h (fun h => ?_) (fun h => ?_)
        · refine s_bp 24 l_Mo_piece_59 rfl ?_
          refine s_iln l_Mo_piece_61 rfl ?_
          refine s_imul l_Mo_piece_62 ?_
          refine s_iln l_Mo_piece_63 rfl ?_
          refine s_iadd l_Mo_piece_64 ?_
          refine s_is l_Mo_piece_65 (Nat.le_of_ble_eq_true rfl) ?_
          refine s_iln l_Mo_piece_67 rfl ?_
          refine s_if l_Mo_piece_68 h (fun h => ?_) (fun h => ?_)
          · refine s_aln l_Mo_piece_78 rfl ?_
            refine s_gr l_Mo_piece_79 h (fun r7 h => ?_)
            exact h
          · refine s_aln l_Mo_piece_71 rfl ?_
            refine s_gr l_Mo_piece_72 h (fun r8 h => ?_)
            refine s_goto l_Mo_piece_75 ?_
            exact h
        · refine s_ic (-1) l_Mo_piece_57 rfl ?_
          exact s_iret l_Mo_piece_58 rfl ⟨Nat.zero_le _, Nat.zero_le _⟩ h
      · refine s_iln l_Mo_piece_42 rfl ?_
        refine s_goto l_Mo_piece_43 ?_
        refine s_ial l_Mo_piece_47 rfl h (fun v9 h => ?_)
        refine s_ic 1 l_Mo_piece_48 rfl ?_
        refine s_isub l_Mo_piece_49 ?_
        refine s_i2l l_Mo_piece_50 ?_
        refine s_in l_Mo_piece_51 (Nat.le_of_ble_eq_true rfl) ⟨Nat.zero_le _, Nat.zero_le _⟩ ?_
        refine s_if l_Mo_piece_54 h (fun h => ?_) (fun h => ?_)
        · refine s_bp 24 l_Mo_piece_59 rfl ?_
          refine s_iln l_Mo_piece_61 rfl ?_
          refine s_imul l_Mo_piece_62 ?_
          refine s_iln l_Mo_piece_63 rfl ?_
          refine s_iadd l_Mo_piece_64 ?_
          refine s_is l_Mo_piece_65 (Nat.le_of_ble_eq_true rfl) ?_
          refine s_iln l_Mo_piece_67 rfl ?_
          refine s_if l_Mo_piece_68 h (fun h => ?_) (fun h => ?_)
          · refine s_aln l_Mo_piece_78 rfl ?_
            refine s_gr l_Mo_piece_79 h (fun r10 h => ?_)
            exact h
          · refine s_aln l_Mo_piece_71 rfl ?_
            refine s_gr l_Mo_piece_72 h (fun r11 h => ?_)
            refine s_goto l_Mo_piece_75 ?_
            exact h
        · refine s_ic (-1) l_Mo_piece_57 rfl ?_
          exact s_iret l_Mo_piece_58 rfl ⟨Nat.zero_le _, Nat.zero_le _⟩ h
def B_Mo_piece_82 (d : Nat) (E : Option Value → xH → Prop) (f : xH) (a0 : Nat) (x1 : Int32) (x2 : Int32) (x3 : Int32) (x4 : Int32) (x5 : Int32) (x6 : Int32) (u7 : Option Value) (u8 : Option Value) (u9 : Option Value) (s0 : Nat) : Prop :=
  xbr (¬ x3 = 0) (xgr f a0 11 16 (fun r1 => xal f r1 0 x6 (fun v2 => xWp (xT0, xSp xT0 d, none, m_Mo_piece, E) 105 [some (.ref a0), some (.int x1), some (.int x2), some (.int x3), some (.int x4), some (.int x5), some (.int x6), some (.ref s0), u8, u9] [.int v2] f 0 0))) (xgr f a0 11 18 (fun r3 => xal f r3 0 x6 (fun v4 => xWp (xT0, xSp xT0 d, none, m_Mo_piece, E) 105 [some (.ref a0), some (.int x1), some (.int x2), some (.int x3), some (.int x4), some (.int x5), some (.int x6), some (.ref s0), u8, u9] [.int v4] f 0 0)))
theorem b_Mo_piece_82 {d : Nat} {E : Option Value → xH → Prop} {f : xH} {a0 : Nat} {x1 : Int32} {x2 : Int32} {x3 : Int32} {x4 : Int32} {x5 : Int32} {x6 : Int32} {u7 : Option Value} {u8 : Option Value} {u9 : Option Value} {s0 : Nat} (h : B_Mo_piece_82 d E f a0 x1 x2 x3 x4 x5 x6 u7 u8 u9 s0) : xWp (xT0, xSp xT0 d, none, m_Mo_piece, E) 82 [some (.ref a0), some (.int x1), some (.int x2), some (.int x3), some (.int x4), some (.int x5), some (.int x6), u7, u8, u9] [.ref s0] f 0 0 := by
  unfold B_Mo_piece_82 at h
  refine s_as l_Mo_piece_82 (Nat.le_of_ble_eq_true rfl) ?_
  refine s_iln l_Mo_piece_84 rfl ?_
  refine s_if l_Mo_piece_85 h (fun h => ?_) (fun h => ?_)
  · refine s_aln l_Mo_piece_98 rfl ?_
    refine s_gr l_Mo_piece_99 h (fun r1 h => ?_)
    refine s_il l_Mo_piece_102 rfl ?_
    refine s_ial l_Mo_piece_104 rfl h (fun v2 h => ?_)
    exact h
  · refine s_aln l_Mo_piece_88 rfl ?_
    refine s_gr l_Mo_piece_89 h (fun r3 h => ?_)
    refine s_il l_Mo_piece_92 rfl ?_
    refine s_ial l_Mo_piece_94 rfl h (fun v4 h => ?_)
    refine s_goto l_Mo_piece_95 ?_
    exact h
def B_Mo_piece_105 (d : Nat) (E : Option Value → xH → Prop) (f : xH) (a0 : Nat) (x1 : Int32) (x2 : Int32) (x3 : Int32) (x4 : Int32) (x5 : Int32) (x6 : Int32) (a7 : Nat) (u8 : Option Value) (u9 : Option Value) (s0 : Int32) : Prop :=
  xSp xT0 d j_Mo_bytesOf [.int s0] f (fun w1 f2 => xvi w1 (fun v3 => (∃ fs, f2 a0 = some (xO 11 fs)) ∧ xSp xT0 d j_Mo_pieces [.ref a0, .ref a7, .int (48 * x6), .int v3, .int x4] f2 (fun w4 f5 => xvi w4 (fun v6 => xbr ((if (0 : Int64) ≤ x4.toInt64 ∧ x4.toInt64 ≤ (v6 - 1).toInt64 then (1 : Int32) else 0) = 0) (E (some (.int (-1))) f5) (xbr ((-2) ≤ x5) (xgi f5 a0 11 29 (fun v7 => xal f5 a7 0 ((48 * x6) + v7) (fun v8 => xbr (¬ x5 = (-2)) (xbr (¬ x5 = (-1)) (xbr ((0 : Int32) ≤ v8) (E (some (.int (-1))) f5) (xgi f5 a0 11 30 (fun v9 => xgi f5 a0 11 29 (fun v10 => xbr ((v9 - v10) ≤ x5) (E (some (.int (-1))) f5) (xgi f5 a0 11 29 (fun v11 => xal f5 a7 0 (((48 * x6) + v11) + x5) (fun v12 => E (some (.int ((-1) - v12))) f5))))))) (xbr ((0 : Int32) ≤ v8) (E (some (.int v8)) f5) (E (some (.int (-2))) f5))) (xgi f5 a0 11 30 (fun v13 => xgi f5 a0 11 29 (fun v14 => E (some (.int (v13 - v14))) f5)))))) (E (some (.int (-1))) f5))))))
theorem b_Mo_piece_105 {d : Nat} {E : Option Value → xH → Prop} {f : xH} {a0 : Nat} {x1 : Int32} {x2 : Int32} {x3 : Int32} {x4 : Int32} {x5 : Int32} {x6 : Int32} {a7 : Nat} {u8 : Option Value} {u9 : Option Value} {s0 : Int32} (h : B_Mo_piece_105 d E f a0 x1 x2 x3 x4 x5 x6 a7 u8 u9 s0) : xWp (xT0, xSp xT0 d, none, m_Mo_piece, E) 105 [some (.ref a0), some (.int x1), some (.int x2), some (.int x3), some (.int x4), some (.int x5), some (.int x6), some (.ref a7), u8, u9] [.int s0] f 0 0 := by
  unfold B_Mo_piece_105 at h
  refine s_csi (As := [.int s0]) (r := []) l_Mo_piece_105 rfl ⟨rfl, rfl⟩ rfl (Nat.le_of_ble_eq_true rfl) rfl ⟨Nat.zero_le _, Nat.zero_le _⟩ h (fun v3 f2 h => ?_)
  refine s_is l_Mo_piece_108 (Nat.le_of_ble_eq_true rfl) ?_
  refine s_il l_Mo_piece_110 rfl ?_
  refine s_i2l l_Mo_piece_112 ?_
  refine s_lc 0 l_Mo_piece_113 rfl ?_
  refine s_aln l_Mo_piece_114 rfl ?_
  refine s_al l_Mo_piece_115 rfl ?_
  refine s_bp 48 l_Mo_piece_117 rfl ?_
  refine s_il l_Mo_piece_119 rfl ?_
  refine s_imul l_Mo_piece_121 ?_
  refine s_il l_Mo_piece_122 rfl ?_
  refine s_il l_Mo_piece_124 rfl ?_
  refine s_cvi (As := [.ref a7, .int (48 * x6), .int v3, .int x4]) (r := [.long 0, .long x4.toInt64]) l_Mo_piece_126 rfl ⟨rfl, rfl⟩ rfl (Nat.le_of_ble_eq_true rfl) rfl ⟨Nat.zero_le _, Nat.zero_le _⟩ h (fun v6 f5 h => ?_)
  refine s_ic 1 l_Mo_piece_129 rfl ?_
  refine s_isub l_Mo_piece_130 ?_
  refine s_i2l l_Mo_piece_131 ?_
  refine s_in l_Mo_piece_132 (Nat.le_of_ble_eq_true rfl) ⟨Nat.zero_le _, Nat.zero_le _⟩ ?_
  refine s_if l_Mo_piece_135 h (fun h => ?_) (fun h => ?_)
  · refine s_ic (-1) l_Mo_piece_145 rfl ?_
    exact s_iret l_Mo_piece_146 rfl ⟨Nat.zero_le _, Nat.zero_le _⟩ h
  · refine s_il l_Mo_piece_138 rfl ?_
    refine s_bp (-2) l_Mo_piece_140 rfl ?_
    refine s_ifc l_Mo_piece_142 h (fun h => ?_) (fun h => ?_)
    · refine s_al l_Mo_piece_147 rfl ?_
      refine s_bp 48 l_Mo_piece_149 rfl ?_
      refine s_il l_Mo_piece_151 rfl ?_
      refine s_imul l_Mo_piece_153 ?_
      refine s_aln l_Mo_piece_154 rfl ?_
      refine s_gi l_Mo_piece_155 h (fun v7 h => ?_)
      refine s_iadd l_Mo_piece_158 ?_
      refine s_ial l_Mo_piece_159 rfl h (fun v8 h => ?_)
      refine s_is l_Mo_piece_160 (Nat.le_of_ble_eq_true rfl) ?_
      refine s_il l_Mo_piece_162 rfl ?_
      refine s_bp (-2) l_Mo_piece_164 rfl ?_
      refine s_ifc l_Mo_piece_166 h (fun h => ?_) (fun h => ?_)
      · refine s_il l_Mo_piece_179 rfl ?_
        refine s_ic (-1) l_Mo_piece_181 rfl ?_
        refine s_ifc l_Mo_piece_182 h (fun h => ?_) (fun h => ?_)
        · refine s_il l_Mo_piece_198 rfl ?_
          refine s_if l_Mo_piece_200 h (fun h => ?_) (fun h => ?_)
          · refine s_ic (-1) l_Mo_piece_238 rfl ?_
            exact s_iret l_Mo_piece_239 rfl ⟨Nat.zero_le _, Nat.zero_le _⟩ h
          · refine s_il l_Mo_piece_203 rfl ?_
            refine s_aln l_Mo_piece_205 rfl ?_
            refine s_gi l_Mo_piece_206 h (fun v9 h => ?_)
            refine s_aln l_Mo_piece_209 rfl ?_
            refine s_gi l_Mo_piece_210 h (fun v10 h => ?_)
            refine s_isub l_Mo_piece_213 ?_
            refine s_ifc l_Mo_piece_214 h (fun h => ?_) (fun h => ?_)
            · refine s_ic (-1) l_Mo_piece_238 rfl ?_
              exact s_iret l_Mo_piece_239 rfl ⟨Nat.zero_le _, Nat.zero_le _⟩ h
            · refine s_ic (-1) l_Mo_piece_217 rfl ?_
              refine s_al l_Mo_piece_218 rfl ?_
              refine s_bp 48 l_Mo_piece_220 rfl ?_
              refine s_il l_Mo_piece_222 rfl ?_
              refine s_imul l_Mo_piece_224 ?_
              refine s_aln l_Mo_piece_225 rfl ?_
              refine s_gi l_Mo_piece_226 h (fun v11 h => ?_)
              refine s_iadd l_Mo_piece_229 ?_
              refine s_il l_Mo_piece_230 rfl ?_
              refine s_iadd l_Mo_piece_232 ?_
              refine s_ial l_Mo_piece_233 rfl h (fun v12 h => ?_)
              refine s_isub l_Mo_piece_234 ?_
              refine s_goto l_Mo_piece_235 ?_
              exact s_iret l_Mo_piece_239 rfl ⟨Nat.zero_le _, Nat.zero_le _⟩ h
        · refine s_il l_Mo_piece_185 rfl ?_
          refine s_if l_Mo_piece_187 h (fun h => ?_) (fun h => ?_)
          · refine s_il l_Mo_piece_195 rfl ?_
            exact s_iret l_Mo_piece_197 rfl ⟨Nat.zero_le _, Nat.zero_le _⟩ h
          · refine s_bp (-2) l_Mo_piece_190 rfl ?_
            refine s_goto l_Mo_piece_192 ?_
            exact s_iret l_Mo_piece_197 rfl ⟨Nat.zero_le _, Nat.zero_le _⟩ h
      · refine s_aln l_Mo_piece_169 rfl ?_
        refine s_gi l_Mo_piece_170 h (fun v13 h => ?_)
        refine s_aln l_Mo_piece_173 rfl ?_
        refine s_gi l_Mo_piece_174 h (fun v14 h => ?_)
        refine s_isub l_Mo_piece_177 ?_
        exact s_iret l_Mo_piece_178 rfl ⟨Nat.zero_le _, Nat.zero_le _⟩ h
    · refine s_ic (-1) l_Mo_piece_145 rfl ?_
      exact s_iret l_Mo_piece_146 rfl ⟨Nat.zero_le _, Nat.zero_le _⟩ h
