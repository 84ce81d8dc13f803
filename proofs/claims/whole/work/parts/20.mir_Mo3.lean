/-! blocks of Mo, 3 -/
theorem l_Mo_findDelta_0 : xlk (xm_cd m_Mo_findDelta) 0 = some (.aload_n 0, 1, (0, 0, 0, [])) := rfl
theorem l_Mo_findDelta_1 : xlk (xm_cd m_Mo_findDelta) 1 = some (.getfield 72, 3, (873, 11, 24, [])) := rfl
theorem l_Mo_findDelta_4 : xlk (xm_cd m_Mo_findDelta) 4 = some (.iload 6, 2, (0, 0, 0, [])) := rfl
theorem l_Mo_findDelta_6 : xlk (xm_cd m_Mo_findDelta) 6 = some (.iconst 0, 1, (0, 0, 0, [])) := rfl
theorem l_Mo_findDelta_7 : xlk (xm_cd m_Mo_findDelta) 7 = some (.iastore, 1, (0, 0, 0, [])) := rfl
theorem l_Mo_findDelta_8 : xlk (xm_cd m_Mo_findDelta) 8 = some (.iload 6, 2, (0, 0, 0, [])) := rfl
theorem l_Mo_findDelta_10 : xlk (xm_cd m_Mo_findDelta) 10 = some (.iconst 1, 1, (0, 0, 0, [])) := rfl
theorem l_Mo_findDelta_11 : xlk (xm_cd m_Mo_findDelta) 11 = some (.isub, 1, (0, 0, 0, [])) := rfl
theorem l_Mo_findDelta_12 : xlk (xm_cd m_Mo_findDelta) 12 = some (.istore 9, 2, (0, 0, 0, [])) := rfl
theorem l_Mo_findDelta_14 : xlk (xm_cd m_Mo_findDelta) 14 = some (.iload 9, 2, (0, 0, 0, [])) := rfl
theorem l_Mo_findDelta_16 : xlk (xm_cd m_Mo_findDelta) 16 = some (.ifCond .lt 122, 3, (0, 138, 0, [])) := rfl
theorem l_Mo_findDelta_19 : xlk (xm_cd m_Mo_findDelta) 19 = some (.aload_n 0, 1, (0, 0, 0, [])) := rfl
theorem l_Mo_findDelta_20 : xlk (xm_cd m_Mo_findDelta) 20 = some (.getfield 72, 3, (873, 11, 24, [])) := rfl
theorem l_Mo_findDelta_23 : xlk (xm_cd m_Mo_findDelta) 23 = some (.iload 9, 2, (0, 0, 0, [])) := rfl
theorem l_Mo_findDelta_25 : xlk (xm_cd m_Mo_findDelta) 25 = some (.iconst 2, 1, (0, 0, 0, [])) := rfl
theorem l_Mo_findDelta_26 : xlk (xm_cd m_Mo_findDelta) 26 = some (.aload_n 0, 1, (0, 0, 0, [])) := rfl
theorem l_Mo_findDelta_27 : xlk (xm_cd m_Mo_findDelta) 27 = some (.getfield 72, 3, (873, 11, 24, [])) := rfl
theorem l_Mo_findDelta_30 : xlk (xm_cd m_Mo_findDelta) 30 = some (.iload 9, 2, (0, 0, 0, [])) := rfl
theorem l_Mo_findDelta_32 : xlk (xm_cd m_Mo_findDelta) 32 = some (.iconst 1, 1, (0, 0, 0, [])) := rfl
theorem l_Mo_findDelta_33 : xlk (xm_cd m_Mo_findDelta) 33 = some (.iadd, 1, (0, 0, 0, [])) := rfl
theorem l_Mo_findDelta_34 : xlk (xm_cd m_Mo_findDelta) 34 = some (.iaload, 1, (0, 0, 0, [])) := rfl
theorem l_Mo_findDelta_35 : xlk (xm_cd m_Mo_findDelta) 35 = some (.iadd, 1, (0, 0, 0, [])) := rfl
theorem l_Mo_findDelta_36 : xlk (xm_cd m_Mo_findDelta) 36 = some (.iastore, 1, (0, 0, 0, [])) := rfl
theorem l_Mo_findDelta_37 : xlk (xm_cd m_Mo_findDelta) 37 = some (.aload_n 0, 1, (0, 0, 0, [])) := rfl
theorem l_Mo_findDelta_38 : xlk (xm_cd m_Mo_findDelta) 38 = some (.getfield 75, 3, (874, 11, 25, [])) := rfl
theorem l_Mo_findDelta_41 : xlk (xm_cd m_Mo_findDelta) 41 = some (.iload 9, 2, (0, 0, 0, [])) := rfl
theorem l_Mo_findDelta_43 : xlk (xm_cd m_Mo_findDelta) 43 = some (.iconst 0, 1, (0, 0, 0, [])) := rfl
theorem l_Mo_findDelta_44 : xlk (xm_cd m_Mo_findDelta) 44 = some (.iastore, 1, (0, 0, 0, [])) := rfl
theorem l_Mo_findDelta_45 : xlk (xm_cd m_Mo_findDelta) 45 = some (.iconst 1, 1, (0, 0, 0, [])) := rfl
theorem l_Mo_findDelta_46 : xlk (xm_cd m_Mo_findDelta) 46 = some (.istore 10, 2, (0, 0, 0, [])) := rfl
theorem l_Mo_findDelta_48 : xlk (xm_cd m_Mo_findDelta) 48 = some (.iload 9, 2, (0, 0, 0, [])) := rfl
theorem l_Mo_findDelta_50 : xlk (xm_cd m_Mo_findDelta) 50 = some (.iload 10, 2, (0, 0, 0, [])) := rfl
theorem l_Mo_findDelta_52 : xlk (xm_cd m_Mo_findDelta) 52 = some (.iadd, 1, (0, 0, 0, [])) := rfl
theorem l_Mo_findDelta_53 : xlk (xm_cd m_Mo_findDelta) 53 = some (.iload 6, 2, (0, 0, 0, [])) := rfl
theorem l_Mo_findDelta_55 : xlk (xm_cd m_Mo_findDelta) 55 = some (.if_icmp .gt 77, 3, (0, 132, 0, [])) := rfl
theorem l_Mo_findDelta_58 : xlk (xm_cd m_Mo_findDelta) 58 = some (.aload_n 1, 1, (0, 0, 0, [])) := rfl
theorem l_Mo_findDelta_59 : xlk (xm_cd m_Mo_findDelta) 59 = some (.iload_n 2, 1, (0, 0, 0, [])) := rfl
theorem l_Mo_findDelta_60 : xlk (xm_cd m_Mo_findDelta) 60 = some (.iload_n 3, 1, (0, 0, 0, [])) := rfl
theorem l_Mo_findDelta_61 : xlk (xm_cd m_Mo_findDelta) 61 = some (.aload 4, 2, (0, 0, 0, [])) := rfl
theorem l_Mo_findDelta_63 : xlk (xm_cd m_Mo_findDelta) 63 = some (.iload 5, 2, (0, 0, 0, [])) := rfl
theorem l_Mo_findDelta_65 : xlk (xm_cd m_Mo_findDelta) 65 = some (.iload 9, 2, (0, 0, 0, [])) := rfl
theorem l_Mo_findDelta_67 : xlk (xm_cd m_Mo_findDelta) 67 = some (.iadd, 1, (0, 0, 0, [])) := rfl
theorem l_Mo_findDelta_68 : xlk (xm_cd m_Mo_findDelta) 68 = some (.iload 10, 2, (0, 0, 0, [])) := rfl
theorem l_Mo_findDelta_70 : xlk (xm_cd m_Mo_findDelta) 70 = some (.invokestatic 211, 3, (1050, 175, 6, [])) := rfl
theorem l_Mo_findDelta_73 : xlk (xm_cd m_Mo_findDelta) 73 = some (.ifCond .lt 59, 3, (0, 132, 0, [])) := rfl
theorem l_Mo_findDelta_76 : xlk (xm_cd m_Mo_findDelta) 76 = some (.iconst 5, 1, (0, 0, 0, [])) := rfl
theorem l_Mo_findDelta_77 : xlk (xm_cd m_Mo_findDelta) 77 = some (.aload_n 0, 1, (0, 0, 0, [])) := rfl
theorem l_Mo_findDelta_78 : xlk (xm_cd m_Mo_findDelta) 78 = some (.getfield 72, 3, (873, 11, 24, [])) := rfl
theorem l_Mo_findDelta_81 : xlk (xm_cd m_Mo_findDelta) 81 = some (.iload 9, 2, (0, 0, 0, [])) := rfl
theorem l_Mo_findDelta_83 : xlk (xm_cd m_Mo_findDelta) 83 = some (.iload 10, 2, (0, 0, 0, [])) := rfl
theorem l_Mo_findDelta_85 : xlk (xm_cd m_Mo_findDelta) 85 = some (.iadd, 1, (0, 0, 0, [])) := rfl
theorem l_Mo_findDelta_86 : xlk (xm_cd m_Mo_findDelta) 86 = some (.iaload, 1, (0, 0, 0, [])) := rfl
theorem l_Mo_findDelta_87 : xlk (xm_cd m_Mo_findDelta) 87 = some (.iadd, 1, (0, 0, 0, [])) := rfl
theorem l_Mo_findDelta_88 : xlk (xm_cd m_Mo_findDelta) 88 = some (.aload_n 0, 1, (0, 0, 0, [])) := rfl
theorem l_Mo_findDelta_89 : xlk (xm_cd m_Mo_findDelta) 89 = some (.getfield 72, 3, (873, 11, 24, [])) := rfl
theorem l_Mo_findDelta_92 : xlk (xm_cd m_Mo_findDelta) 92 = some (.iload 9, 2, (0, 0, 0, [])) := rfl
theorem l_Mo_findDelta_94 : xlk (xm_cd m_Mo_findDelta) 94 = some (.iaload, 1, (0, 0, 0, [])) := rfl
theorem l_Mo_findDelta_95 : xlk (xm_cd m_Mo_findDelta) 95 = some (.if_icmp .gt 31, 3, (0, 126, 0, [])) := rfl
theorem l_Mo_findDelta_98 : xlk (xm_cd m_Mo_findDelta) 98 = some (.aload_n 0, 1, (0, 0, 0, [])) := rfl
theorem l_Mo_findDelta_99 : xlk (xm_cd m_Mo_findDelta) 99 = some (.getfield 72, 3, (873, 11, 24, [])) := rfl
theorem l_Mo_findDelta_102 : xlk (xm_cd m_Mo_findDelta) 102 = some (.iload 9, 2, (0, 0, 0, [])) := rfl
theorem l_Mo_findDelta_104 : xlk (xm_cd m_Mo_findDelta) 104 = some (.iconst 5, 1, (0, 0, 0, [])) := rfl
theorem l_Mo_findDelta_105 : xlk (xm_cd m_Mo_findDelta) 105 = some (.aload_n 0, 1, (0, 0, 0, [])) := rfl
theorem l_Mo_findDelta_106 : xlk (xm_cd m_Mo_findDelta) 106 = some (.getfield 72, 3, (873, 11, 24, [])) := rfl
theorem l_Mo_findDelta_109 : xlk (xm_cd m_Mo_findDelta) 109 = some (.iload 9, 2, (0, 0, 0, [])) := rfl
theorem l_Mo_findDelta_111 : xlk (xm_cd m_Mo_findDelta) 111 = some (.iload 10, 2, (0, 0, 0, [])) := rfl
theorem l_Mo_findDelta_113 : xlk (xm_cd m_Mo_findDelta) 113 = some (.iadd, 1, (0, 0, 0, [])) := rfl
theorem l_Mo_findDelta_114 : xlk (xm_cd m_Mo_findDelta) 114 = some (.iaload, 1, (0, 0, 0, [])) := rfl
theorem l_Mo_findDelta_115 : xlk (xm_cd m_Mo_findDelta) 115 = some (.iadd, 1, (0, 0, 0, [])) := rfl
theorem l_Mo_findDelta_116 : xlk (xm_cd m_Mo_findDelta) 116 = some (.iastore, 1, (0, 0, 0, [])) := rfl
theorem l_Mo_findDelta_117 : xlk (xm_cd m_Mo_findDelta) 117 = some (.aload_n 0, 1, (0, 0, 0, [])) := rfl
theorem l_Mo_findDelta_118 : xlk (xm_cd m_Mo_findDelta) 118 = some (.getfield 75, 3, (874, 11, 25, [])) := rfl
theorem l_Mo_findDelta_121 : xlk (xm_cd m_Mo_findDelta) 121 = some (.iload 9, 2, (0, 0, 0, [])) := rfl
theorem l_Mo_findDelta_123 : xlk (xm_cd m_Mo_findDelta) 123 = some (.iload 10, 2, (0, 0, 0, [])) := rfl
theorem l_Mo_findDelta_125 : xlk (xm_cd m_Mo_findDelta) 125 = some (.iastore, 1, (0, 0, 0, [])) := rfl
theorem l_Mo_findDelta_126 : xlk (xm_cd m_Mo_findDelta) 126 = some (.iinc 10 1, 3, (0, 0, 0, [])) := rfl
theorem l_Mo_findDelta_129 : xlk (xm_cd m_Mo_findDelta) 129 = some (.goto (-81), 3, (0, 48, 0, [])) := rfl
theorem l_Mo_findDelta_132 : xlk (xm_cd m_Mo_findDelta) 132 = some (.iinc 9 (-1), 3, (0, 0, 0, [])) := rfl
theorem l_Mo_findDelta_135 : xlk (xm_cd m_Mo_findDelta) 135 = some (.goto (-121), 3, (0, 14, 0, [])) := rfl
theorem l_Mo_findDelta_138 : xlk (xm_cd m_Mo_findDelta) 138 = some (.iconst 0, 1, (0, 0, 0, [])) := rfl
theorem l_Mo_findDelta_139 : xlk (xm_cd m_Mo_findDelta) 139 = some (.istore 9, 2, (0, 0, 0, [])) := rfl
set_option maxRecDepth 20000 in
theorem l_Mo_findDelta_141 : xlk (xm_cd m_Mo_findDelta) 141 = some (.iload 9, 2, (0, 0, 0, [])) := rfl
set_option maxRecDepth 20000 in
theorem l_Mo_findDelta_143 : xlk (xm_cd m_Mo_findDelta) 143 = some (.iload 6, 2, (0, 0, 0, [])) := rfl
set_option maxRecDepth 20000 in
theorem l_Mo_findDelta_145 : xlk (xm_cd m_Mo_findDelta) 145 = some (.if_icmp .ge 109, 3, (0, 254, 0, [])) := rfl
set_option maxRecDepth 20000 in
theorem l_Mo_findDelta_148 : xlk (xm_cd m_Mo_findDelta) 148 = some (.aload_n 0, 1, (0, 0, 0, [])) := rfl
set_option maxRecDepth 20000 in
theorem l_Mo_findDelta_149 : xlk (xm_cd m_Mo_findDelta) 149 = some (.getfield 75, 3, (874, 11, 25, [])) := rfl
set_option maxRecDepth 20000 in
theorem l_Mo_findDelta_152 : xlk (xm_cd m_Mo_findDelta) 152 = some (.iload 9, 2, (0, 0, 0, [])) := rfl
set_option maxRecDepth 20000 in
theorem l_Mo_findDelta_154 : xlk (xm_cd m_Mo_findDelta) 154 = some (.iaload, 1, (0, 0, 0, [])) := rfl
set_option maxRecDepth 20000 in
theorem l_Mo_findDelta_155 : xlk (xm_cd m_Mo_findDelta) 155 = some (.ifCond .ne 31, 3, (0, 186, 0, [])) := rfl
set_option maxRecDepth 20000 in
theorem l_Mo_findDelta_158 : xlk (xm_cd m_Mo_findDelta) 158 = some (.aload 7, 2, (0, 0, 0, [])) := rfl
set_option maxRecDepth 20000 in
theorem l_Mo_findDelta_160 : xlk (xm_cd m_Mo_findDelta) 160 = some (.iload 8, 2, (0, 0, 0, [])) := rfl
set_option maxRecDepth 20000 in
theorem l_Mo_findDelta_162 : xlk (xm_cd m_Mo_findDelta) 162 = some (.iload 9, 2, (0, 0, 0, [])) := rfl
set_option maxRecDepth 20000 in
theorem l_Mo_findDelta_164 : xlk (xm_cd m_Mo_findDelta) 164 = some (.iadd, 1, (0, 0, 0, [])) := rfl
set_option maxRecDepth 20000 in
theorem l_Mo_findDelta_165 : xlk (xm_cd m_Mo_findDelta) 165 = some (.iconst (-1), 1, (0, 0, 0, [])) := rfl
set_option maxRecDepth 20000 in
theorem l_Mo_findDelta_166 : xlk (xm_cd m_Mo_findDelta) 166 = some (.aload 4, 2, (0, 0, 0, [])) := rfl
set_option maxRecDepth 20000 in
theorem l_Mo_findDelta_168 : xlk (xm_cd m_Mo_findDelta) 168 = some (.iload 5, 2, (0, 0, 0, [])) := rfl
set_option maxRecDepth 20000 in
theorem l_Mo_findDelta_170 : xlk (xm_cd m_Mo_findDelta) 170 = some (.iload 9, 2, (0, 0, 0, [])) := rfl
set_option maxRecDepth 20000 in
theorem l_Mo_findDelta_172 : xlk (xm_cd m_Mo_findDelta) 172 = some (.iadd, 1, (0, 0, 0, [])) := rfl
set_option maxRecDepth 20000 in
theorem l_Mo_findDelta_173 : xlk (xm_cd m_Mo_findDelta) 173 = some (.baload, 1, (0, 0, 0, [])) := rfl
set_option maxRecDepth 20000 in
theorem l_Mo_findDelta_174 : xlk (xm_cd m_Mo_findDelta) 174 = some (.sipush 255, 3, (0, 0, 0, [])) := rfl
set_option maxRecDepth 20000 in
theorem l_Mo_findDelta_177 : xlk (xm_cd m_Mo_findDelta) 177 = some (.iand, 1, (0, 0, 0, [])) := rfl
set_option maxRecDepth 20000 in
theorem l_Mo_findDelta_178 : xlk (xm_cd m_Mo_findDelta) 178 = some (.isub, 1, (0, 0, 0, [])) := rfl
set_option maxRecDepth 20000 in
theorem l_Mo_findDelta_179 : xlk (xm_cd m_Mo_findDelta) 179 = some (.iastore, 1, (0, 0, 0, [])) := rfl
set_option maxRecDepth 20000 in
theorem l_Mo_findDelta_180 : xlk (xm_cd m_Mo_findDelta) 180 = some (.iinc 9 1, 3, (0, 0, 0, [])) := rfl
set_option maxRecDepth 20000 in
theorem l_Mo_findDelta_183 : xlk (xm_cd m_Mo_findDelta) 183 = some (.goto (-42), 3, (0, 141, 0, [])) := rfl
set_option maxRecDepth 20000 in
theorem l_Mo_findDelta_186 : xlk (xm_cd m_Mo_findDelta) 186 = some (.aload_n 0, 1, (0, 0, 0, [])) := rfl
set_option maxRecDepth 20000 in
theorem l_Mo_findDelta_187 : xlk (xm_cd m_Mo_findDelta) 187 = some (.getfield 75, 3, (874, 11, 25, [])) := rfl
set_option maxRecDepth 20000 in
theorem l_Mo_findDelta_190 : xlk (xm_cd m_Mo_findDelta) 190 = some (.iload 9, 2, (0, 0, 0, [])) := rfl
set_option maxRecDepth 20000 in
theorem l_Mo_findDelta_192 : xlk (xm_cd m_Mo_findDelta) 192 = some (.iaload, 1, (0, 0, 0, [])) := rfl
set_option maxRecDepth 20000 in
theorem l_Mo_findDelta_193 : xlk (xm_cd m_Mo_findDelta) 193 = some (.istore 10, 2, (0, 0, 0, [])) := rfl
set_option maxRecDepth 20000 in
theorem l_Mo_findDelta_195 : xlk (xm_cd m_Mo_findDelta) 195 = some (.aload_n 1, 1, (0, 0, 0, [])) := rfl
set_option maxRecDepth 20000 in
theorem l_Mo_findDelta_196 : xlk (xm_cd m_Mo_findDelta) 196 = some (.iload_n 2, 1, (0, 0, 0, [])) := rfl
set_option maxRecDepth 20000 in
theorem l_Mo_findDelta_197 : xlk (xm_cd m_Mo_findDelta) 197 = some (.iload_n 3, 1, (0, 0, 0, [])) := rfl
set_option maxRecDepth 20000 in
theorem l_Mo_findDelta_198 : xlk (xm_cd m_Mo_findDelta) 198 = some (.aload 4, 2, (0, 0, 0, [])) := rfl
set_option maxRecDepth 20000 in
theorem l_Mo_findDelta_200 : xlk (xm_cd m_Mo_findDelta) 200 = some (.iload 5, 2, (0, 0, 0, [])) := rfl
set_option maxRecDepth 20000 in
theorem l_Mo_findDelta_202 : xlk (xm_cd m_Mo_findDelta) 202 = some (.iload 9, 2, (0, 0, 0, [])) := rfl
set_option maxRecDepth 20000 in
theorem l_Mo_findDelta_204 : xlk (xm_cd m_Mo_findDelta) 204 = some (.iadd, 1, (0, 0, 0, [])) := rfl
set_option maxRecDepth 20000 in
theorem l_Mo_findDelta_205 : xlk (xm_cd m_Mo_findDelta) 205 = some (.iload 10, 2, (0, 0, 0, [])) := rfl
set_option maxRecDepth 20000 in
theorem l_Mo_findDelta_207 : xlk (xm_cd m_Mo_findDelta) 207 = some (.invokestatic 211, 3, (1050, 175, 6, [])) := rfl
set_option maxRecDepth 20000 in
theorem l_Mo_findDelta_210 : xlk (xm_cd m_Mo_findDelta) 210 = some (.istore 11, 2, (0, 0, 0, [])) := rfl
set_option maxRecDepth 20000 in
theorem l_Mo_findDelta_212 : xlk (xm_cd m_Mo_findDelta) 212 = some (.iconst 0, 1, (0, 0, 0, [])) := rfl
set_option maxRecDepth 20000 in
theorem l_Mo_findDelta_213 : xlk (xm_cd m_Mo_findDelta) 213 = some (.istore 12, 2, (0, 0, 0, [])) := rfl
set_option maxRecDepth 20000 in
theorem l_Mo_findDelta_215 : xlk (xm_cd m_Mo_findDelta) 215 = some (.iload 12, 2, (0, 0, 0, [])) := rfl
set_option maxRecDepth 20000 in
theorem l_Mo_findDelta_217 : xlk (xm_cd m_Mo_findDelta) 217 = some (.iload 10, 2, (0, 0, 0, [])) := rfl
set_option maxRecDepth 20000 in
theorem l_Mo_findDelta_219 : xlk (xm_cd m_Mo_findDelta) 219 = some (.if_icmp .ge 25, 3, (0, 244, 0, [])) := rfl
set_option maxRecDepth 20000 in
theorem l_Mo_findDelta_222 : xlk (xm_cd m_Mo_findDelta) 222 = some (.aload 7, 2, (0, 0, 0, [])) := rfl
set_option maxRecDepth 20000 in
theorem l_Mo_findDelta_224 : xlk (xm_cd m_Mo_findDelta) 224 = some (.iload 8, 2, (0, 0, 0, [])) := rfl
set_option maxRecDepth 20000 in
theorem l_Mo_findDelta_226 : xlk (xm_cd m_Mo_findDelta) 226 = some (.iload 9, 2, (0, 0, 0, [])) := rfl
set_option maxRecDepth 20000 in
theorem l_Mo_findDelta_228 : xlk (xm_cd m_Mo_findDelta) 228 = some (.iadd, 1, (0, 0, 0, [])) := rfl
set_option maxRecDepth 20000 in
theorem l_Mo_findDelta_229 : xlk (xm_cd m_Mo_findDelta) 229 = some (.iload 12, 2, (0, 0, 0, [])) := rfl
set_option maxRecDepth 20000 in
theorem l_Mo_findDelta_231 : xlk (xm_cd m_Mo_findDelta) 231 = some (.iadd, 1, (0, 0, 0, [])) := rfl
set_option maxRecDepth 20000 in
theorem l_Mo_findDelta_232 : xlk (xm_cd m_Mo_findDelta) 232 = some (.iload 11, 2, (0, 0, 0, [])) := rfl
set_option maxRecDepth 20000 in
theorem l_Mo_findDelta_234 : xlk (xm_cd m_Mo_findDelta) 234 = some (.iload 12, 2, (0, 0, 0, [])) := rfl
set_option maxRecDepth 20000 in
theorem l_Mo_findDelta_236 : xlk (xm_cd m_Mo_findDelta) 236 = some (.iadd, 1, (0, 0, 0, [])) := rfl
set_option maxRecDepth 20000 in
theorem l_Mo_findDelta_237 : xlk (xm_cd m_Mo_findDelta) 237 = some (.iastore, 1, (0, 0, 0, [])) := rfl
set_option maxRecDepth 20000 in
theorem l_Mo_findDelta_238 : xlk (xm_cd m_Mo_findDelta) 238 = some (.iinc 12 1, 3, (0, 0, 0, [])) := rfl
set_option maxRecDepth 20000 in
theorem l_Mo_findDelta_241 : xlk (xm_cd m_Mo_findDelta) 241 = some (.goto (-26), 3, (0, 215, 0, [])) := rfl
set_option maxRecDepth 20000 in
theorem l_Mo_findDelta_244 : xlk (xm_cd m_Mo_findDelta) 244 = some (.iload 9, 2, (0, 0, 0, [])) := rfl
set_option maxRecDepth 20000 in
theorem l_Mo_findDelta_246 : xlk (xm_cd m_Mo_findDelta) 246 = some (.iload 10, 2, (0, 0, 0, [])) := rfl
set_option maxRecDepth 20000 in
theorem l_Mo_findDelta_248 : xlk (xm_cd m_Mo_findDelta) 248 = some (.iadd, 1, (0, 0, 0, [])) := rfl
set_option maxRecDepth 20000 in
theorem l_Mo_findDelta_249 : xlk (xm_cd m_Mo_findDelta) 249 = some (.istore 9, 2, (0, 0, 0, [])) := rfl
set_option maxRecDepth 20000 in
theorem l_Mo_findDelta_251 : xlk (xm_cd m_Mo_findDelta) 251 = some (.goto (-110), 3, (0, 141, 0, [])) := rfl
set_option maxRecDepth 20000 in
theorem l_Mo_findDelta_254 : xlk (xm_cd m_Mo_findDelta) 254 = some (.return_, 1, (0, 0, 0, [])) := rfl
def B_Mo_findDelta_0 (d : Nat) (E : Option Value → xH → Prop) (f : xH) (a0 : Nat) (a1 : Nat) (x2 : Int32) (x3 : Int32) (a4 : Nat) (x5 : Int32) (x6 : Int32) (a7 : Nat) (x8 : Int32) : Prop :=
  xgr f a0 11 24 (fun r1 => xas f r1 0 x6 0 (fun f2 => xWp (xT0, xSp xT0 d, none, m_Mo_findDelta, E) 14 [some (.ref a0), some (.ref a1), some (.int x2), some (.int x3), some (.ref a4), some (.int x5), some (.int x6), some (.ref a7), some (.int x8), some (.int (x6 - 1)), none, none, none] [] f2 0 0))
theorem b_Mo_findDelta_0 {d : Nat} {E : Option Value → xH → Prop} {f : xH} {a0 : Nat} {a1 : Nat} {x2 : Int32} {x3 : Int32} {a4 : Nat} {x5 : Int32} {x6 : Int32} {a7 : Nat} {x8 : Int32} (h : B_Mo_findDelta_0 d E f a0 a1 x2 x3 a4 x5 x6 a7 x8) : xWp (xT0, xSp xT0 d, none, m_Mo_findDelta, E) 0 [some (.ref a0), some (.ref a1), some (.int x2), some (.int x3), some (.ref a4), some (.int x5), some (.int x6), some (.ref a7), some (.int x8), none, none, none, none] [] f 0 0 := by
  unfold B_Mo_findDelta_0 at h
  refine s_aln l_Mo_findDelta_0 rfl ?_
  refine s_gr l_Mo_findDelta_1 h (fun r1 h => ?_)
  refine s_il l_Mo_findDelta_4 rfl ?_
  refine s_ic 0 l_Mo_findDelta_6 rfl ?_
  refine s_iast l_Mo_findDelta_7 h (fun f2 h => ?_)
  refine s_il l_Mo_findDelta_8 rfl ?_
  refine s_ic 1 l_Mo_findDelta_10 rfl ?_
  refine s_isub l_Mo_findDelta_11 ?_
  refine s_is l_Mo_findDelta_12 (Nat.le_of_ble_eq_true rfl) ?_
  exact h
def B_Mo_findDelta_14 (d : Nat) (E : Option Value → xH → Prop) (f : xH) (a0 : Nat) (a1 : Nat) (x2 : Int32) (x3 : Int32) (a4 : Nat) (x5 : Int32) (x6 : Int32) (a7 : Nat) (x8 : Int32) (x9 : Int32) (u10 : Option Value) (u11 : Option Value) (u12 : Option Value) : Prop :=
  xbr (x9 < 0) (xWp (xT0, xSp xT0 d, none, m_Mo_findDelta, E) 141 [some (.ref a0), some (.ref a1), some (.int x2), some (.int x3), some (.ref a4), some (.int x5), some (.int x6), some (.ref a7), some (.int x8), some (.int 0), u10, u11, u12] [] f 0 0) (xgr f a0 11 24 (fun r1 => xgr f a0 11 24 (fun r2 => xal f r2 0 (x9 + 1) (fun v3 => xas f r1 0 x9 (2 + v3) (fun f4 => xgr f4 a0 11 25 (fun r5 => xas f4 r5 0 x9 0 (fun f6 => xWp (xT0, xSp xT0 d, none, m_Mo_findDelta, E) 48 [some (.ref a0), some (.ref a1), some (.int x2), some (.int x3), some (.ref a4), some (.int x5), some (.int x6), some (.ref a7), some (.int x8), some (.int x9), some (.int 1), u11, u12] [] f6 0 0)))))))
theorem b_Mo_findDelta_14 {d : Nat} {E : Option Value → xH → Prop} {f : xH} {a0 : Nat} {a1 : Nat} {x2 : Int32} {x3 : Int32} {a4 : Nat} {x5 : Int32} {x6 : Int32} {a7 : Nat} {x8 : Int32} {x9 : Int32} {u10 : Option Value} {u11 : Option Value} {u12 : Option Value} (h : B_Mo_findDelta_14 d E f a0 a1 x2 x3 a4 x5 x6 a7 x8 x9 u10 u11 u12) : xWp (xT0, xSp xT0 d, none, m_Mo_findDelta, E) 14 [some (.ref a0), some (.ref a1), some (.int x2), some (.int x3), some (.ref a4), some (.int x5), some (.int x6), some (.ref a7), some (.int x8), some (.int x9), u10, u11, u12] [] f 0 0 := by
  unfold B_Mo_findDelta_14 at h
  refine s_il l_Mo_findDelta_14 rfl ?_
  refine s_if l_Mo_findDelta_16 h (fun h => ?_) (fun h => ?_)
  · refine s_ic 0 l_Mo_findDelta_138 rfl ?_
    refine s_is l_Mo_findDelta_139 (Nat.le_of_ble_eq_true rfl) ?_
    exact h
  · refine s_aln l_Mo_findDelta_19 rfl ?_
    refine s_gr l_Mo_findDelta_20 h (fun r1 h => ?_)
    refine s_il l_Mo_findDelta_23 rfl ?_
    refine s_ic 2 l_Mo_findDelta_25 rfl ?_
    refine s_aln l_Mo_findDelta_26 rfl ?_
    refine s_gr l_Mo_findDelta_27 h (fun r2 h => ?_)
    refine s_il l_Mo_findDelta_30 rfl ?_
    refine s_ic 1 l_Mo_findDelta_32 rfl ?_
    refine s_iadd l_Mo_findDelta_33 ?_
    refine s_ial l_Mo_findDelta_34 rfl h (fun v3 h => ?_)
    refine s_iadd l_Mo_findDelta_35 ?_
    refine s_iast l_Mo_findDelta_36 h (fun f4 h => ?_)
    refine s_aln l_Mo_findDelta_37 rfl ?_
    refine s_gr l_Mo_findDelta_38 h (fun r5 h => ?_)
    refine s_il l_Mo_findDelta_41 rfl ?_
    refine s_ic 0 l_Mo_findDelta_43 rfl ?_
    refine s_iast l_Mo_findDelta_44 h (fun f6 h => ?_)
    refine s_ic 1 l_Mo_findDelta_45 rfl ?_
    refine s_is l_Mo_findDelta_46 (Nat.le_of_ble_eq_true rfl) ?_
    exact h
def B_Mo_findDelta_48 (d : Nat) (E : Option Value → xH → Prop) (f : xH) (a0 : Nat) (a1 : Nat) (x2 : Int32) (x3 : Int32) (a4 : Nat) (x5 : Int32) (x6 : Int32) (a7 : Nat) (x8 : Int32) (x9 : Int32) (x10 : Int32) (u11 : Option Value) (u12 : Option Value) : Prop :=
  xbr (x6 < (x9 + x10)) (xWp (xT0, xSp xT0 d, none, m_Mo_findDelta, E) 14 [some (.ref a0), some (.ref a1), some (.int x2), some (.int x3), some (.ref a4), some (.int x5), some (.int x6), some (.ref a7), some (.int x8), some (.int (x9 + (-1))), some (.int x10), u11, u12] [] f 0 0) (xSp xT0 d j_Mo_placeOf [.ref a1, .int x2, .int x3, .ref a4, .int (x5 + x9), .int x10] f (fun w1 f2 => xvi w1 (fun v3 => xbr (v3 < 0) (xWp (xT0, xSp xT0 d, none, m_Mo_findDelta, E) 14 [some (.ref a0), some (.ref a1), some (.int x2), some (.int x3), some (.ref a4), some (.int x5), some (.int x6), some (.ref a7), some (.int x8), some (.int (x9 + (-1))), some (.int x10), u11, u12] [] f2 0 0) (xgr f2 a0 11 24 (fun r4 => xal f2 r4 0 (x9 + x10) (fun v5 => xgr f2 a0 11 24 (fun r6 => xal f2 r6 0 x9 (fun v7 => xbr (v7 < (5 + v5)) (xWp (xT0, xSp xT0 d, none, m_Mo_findDelta, E) 48 [some (.ref a0), some (.ref a1), some (.int x2), some (.int x3), some (.ref a4), some (.int x5), some (.int x6), some (.ref a7), some (.int x8), some (.int x9), some (.int (x10 + 1)), u11, u12] [] f2 0 0) (xgr f2 a0 11 24 (fun r8 => xgr f2 a0 11 24 (fun r9 => xal f2 r9 0 (x9 + x10) (fun v10 => xas f2 r8 0 x9 (5 + v10) (fun f11 => xgr f11 a0 11 25 (fun r12 => xas f11 r12 0 x9 x10 (fun f13 => xWp (xT0, xSp xT0 d, none, m_Mo_findDelta, E) 48 [some (.ref a0), some (.ref a1), some (.int x2), some (.int x3), some (.ref a4), some (.int x5), some (.int x6), some (.ref a7), some (.int x8), some (.int x9), some (.int (x10 + 1)), u11, u12] [] f13 0 0)))))))))))))))
theorem b_Mo_findDelta_48 {d : Nat} {E : Option Value → xH → Prop} {f : xH} {a0 : Nat} {a1 : Nat} {x2 : Int32} {x3 : Int32} {a4 : Nat} {x5 : Int32} {x6 : Int32} {a7 : Nat} {x8 : Int32} {x9 : Int32} {x10 : Int32} {u11 : Option Value} {u12 : Option Value} (h : B_Mo_findDelta_48 d E f a0 a1 x2 x3 a4 x5 x6 a7 x8 x9 x10 u11 u12) : xWp (xT0, xSp xT0 d, none, m_Mo_findDelta, E) 48 [some (.ref a0), some (.ref a1), some (.int x2), some (.int x3), some (.ref a4), some (.int x5), some (.int x6), some (.ref a7), some (.int x8), some (.int x9), some (.int x10), u11, u12] [] f 0 0 := by
  unfold B_Mo_findDelta_48 at h
  refine s_il l_Mo_findDelta_48 rfl ?_
  refine s_il l_Mo_findDelta_50 rfl ?_
  refine s_iadd l_Mo_findDelta_52 ?_
  refine s_il l_Mo_findDelta_53 rfl ?_
  refine s_ifc l_Mo_findDelta_55 h (fun h => ?_) (fun h => ?_)
  · refine s_inc (-1) l_Mo_findDelta_132 rfl rfl ?_
    refine s_goto l_Mo_findDelta_135 ?_
    exact h
  · refine s_aln l_Mo_findDelta_58 rfl ?_
    refine s_iln l_Mo_findDelta_59 rfl ?_
    refine s_iln l_Mo_findDelta_60 rfl ?_
    refine s_al l_Mo_findDelta_61 rfl ?_
    refine s_il l_Mo_findDelta_63 rfl ?_
    refine s_il l_Mo_findDelta_65 rfl ?_
    refine s_iadd l_Mo_findDelta_67 ?_
    refine s_il l_Mo_findDelta_68 rfl ?_
    refine s_csi (As := [.ref a1, .int x2, .int x3, .ref a4, .int (x5 + x9), .int x10]) (r := []) l_Mo_findDelta_70 rfl ⟨rfl, rfl⟩ rfl (Nat.le_of_ble_eq_true rfl) rfl ⟨Nat.zero_le _, Nat.zero_le _⟩ h (fun v3 f2 h => ?_)
    refine s_if l_Mo_findDelta_73 h (fun h => ?_) (fun h => ?_)
    · refine s_inc (-1) l_Mo_findDelta_132 rfl rfl ?_
      refine s_goto l_Mo_findDelta_135 ?_
      exact h
    · refine s_ic 5 l_Mo_findDelta_76 rfl ?_
      refine s_aln l_Mo_findDelta_77 rfl ?_
      refine s_gr l_Mo_findDelta_78 h (fun r4 h => ?_)
      refine s_il l_Mo_findDelta_81 rfl ?_
      refine s_il l_Mo_findDelta_83 rfl ?_
      refine s_iadd l_Mo_findDelta_85 ?_
      refine s_ial l_Mo_findDelta_86 rfl h (fun v5 h => ?_)
      refine s_iadd l_Mo_findDelta_87 ?_
      refine s_aln l_Mo_findDelta_88 rfl ?_
      refine s_gr l_Mo_findDelta_89 h (fun r6 h => ?_)
      refine s_il l_Mo_findDelta_92 rfl ?_
      refine s_ial l_Mo_findDelta_94 rfl h (fun v7 h => ?_)
      refine s_ifc l_Mo_findDelta_95 h (fun h => ?_) (fun h => ?_)
      · refine s_inc 1 l_Mo_findDelta_126 rfl rfl ?_
        refine s_goto l_Mo_findDelta_129 ?_
        exact h
      · refine s_aln l_Mo_findDelta_98 rfl ?_
        refine s_gr l_Mo_findDelta_99 h (fun r8 h => ?_)
        refine s_il l_Mo_findDelta_102 rfl ?_
        refine s_ic 5 l_Mo_findDelta_104 rfl ?_
        refine s_aln l_Mo_findDelta_105 rfl ?_
        refine s_gr l_Mo_findDelta_106 h (fun r9 h => ?_)
        refine s_il l_Mo_findDelta_109 rfl ?_
        refine s_il l_Mo_findDelta_111 rfl ?_
        refine s_iadd l_Mo_findDelta_113 ?_
        refine s_ial l_Mo_findDelta_114 rfl h (fun v10 h => ?_)
        refine s_iadd l_Mo_findDelta_115 ?_
        refine s_iast l_Mo_findDelta_116 h (fun f11 h => ?_)
        refine s_aln l_Mo_findDelta_117 rfl ?_
        refine s_gr l_Mo_findDelta_118 h (fun r12 h => ?_)
        refine s_il l_Mo_findDelta_121 rfl ?_
        refine s_il l_Mo_findDelta_123 rfl ?_
        refine s_iast l_Mo_findDelta_125 h (fun f13 h => ?_)
        refine s_inc 1 l_Mo_findDelta_126 rfl rfl ?_
        refine s_goto l_Mo_findDelta_129 ?_
        exact h
def B_Mo_findDelta_141 (d : Nat) (E : Option Value → xH → Prop) (f : xH) (a0 : Nat) (a1 : Nat) (x2 : Int32) (x3 : Int32) (a4 : Nat) (x5 : Int32) (x6 : Int32) (a7 : Nat) (x8 : Int32) (x9 : Int32) (u10 : Option Value) (u11 : Option Value) (u12 : Option Value) : Prop :=
  xbr (x6 ≤ x9) (E none f) (xgr f a0 11 25 (fun r1 => xal f r1 0 x9 (fun v2 => xbr (¬ v2 = 0) (xgr f a0 11 25 (fun r3 => xal f r3 0 x9 (fun v4 => xSp xT0 d j_Mo_placeOf [.ref a1, .int x2, .int x3, .ref a4, .int (x5 + x9), .int v4] f (fun w5 f6 => xvi w5 (fun v7 => xWp (xT0, xSp xT0 d, none, m_Mo_findDelta, E) 215 [some (.ref a0), some (.ref a1), some (.int x2), some (.int x3), some (.ref a4), some (.int x5), some (.int x6), some (.ref a7), some (.int x8), some (.int x9), some (.int v4), some (.int v7), some (.int 0)] [] f6 0 0))))) (xal f a4 2 (x5 + x9) (fun v8 => xas f a7 0 (x8 + x9) ((-1) - (v8 &&& 255)) (fun f9 => xWp (xT0, xSp xT0 d, none, m_Mo_findDelta, E) 141 [some (.ref a0), some (.ref a1), some (.int x2), some (.int x3), some (.ref a4), some (.int x5), some (.int x6), some (.ref a7), some (.int x8), some (.int (x9 + 1)), u10, u11, u12] [] f9 0 0))))))
theorem b_Mo_findDelta_141 {d : Nat} {E : Option Value → xH → Prop} {f : xH} {a0 : Nat} {a1 : Nat} {x2 : Int32} {x3 : Int32} {a4 : Nat} {x5 : Int32} {x6 : Int32} {a7 : Nat} {x8 : Int32} {x9 : Int32} {u10 : Option Value} {u11 : Option Value} {u12 : Option Value} (h : B_Mo_findDelta_141 d E f a0 a1 x2 x3 a4 x5 x6 a7 x8 x9 u10 u11 u12) : xWp (xT0, xSp xT0 d, none, m_Mo_findDelta, E) 141 [some (.ref a0), some (.ref a1), some (.int x2), some (.int x3), some (.ref a4), some (.int x5), some (.int x6), some (.ref a7), some (.int x8), some (.int x9), u10, u11, u12] [] f 0 0 := by
  unfold B_Mo_findDelta_141 at h
  refine s_il l_Mo_findDelta_141 rfl ?_
  refine s_il l_Mo_findDelta_143 rfl ?_
  refine s_ifc l_Mo_findDelta_145 h (fun h => ?_) (fun h => ?_)
  · exact s_ret l_Mo_findDelta_254 ⟨Nat.zero_le _, Nat.zero_le _⟩ h
  · refine s_aln l_Mo_findDelta_148 rfl ?_
    refine s_gr l_Mo_findDelta_149 h (fun r1 h => ?_)
    refine s_il l_Mo_findDelta_152 rfl ?_
    refine s_ial l_Mo_findDelta_154 rfl h (fun v2 h => ?_)
    refine s_if l_Mo_findDelta_155 h (fun h => ?_) (fun h => ?_)
    · refine s_aln l_Mo_findDelta_186 rfl ?_
      refine s_gr l_Mo_findDelta_187 h (fun r3 h => ?_)
      refine s_il l_Mo_findDelta_190 rfl ?_
      refine s_ial l_Mo_findDelta_192 rfl h (fun v4 h => ?_)
      refine s_is l_Mo_findDelta_193 (Nat.le_of_ble_eq_true rfl) ?_
      refine s_aln l_Mo_findDelta_195 rfl ?_
      refine s_iln l_Mo_findDelta_196 rfl ?_
      refine s_iln l_Mo_findDelta_197 rfl ?_
      refine s_al l_Mo_findDelta_198 rfl ?_
      refine s_il l_Mo_findDelta_200 rfl ?_
      refine s_il l_Mo_findDelta_202 rfl ?_
      refine s_iadd l_Mo_findDelta_204 ?_
      refine s_il l_Mo_findDelta_205 rfl ?_
      refine s_csi (As := [.ref a1, .int x2, .int x3, .ref a4, .int (x5 + x9), .int v4]) (r := []) l_Mo_findDelta_207 rfl ⟨rfl, rfl⟩ rfl (Nat.le_of_ble_eq_true rfl) rfl ⟨Nat.zero_le _, Nat.zero_le _⟩ h (fun v7 f6 h => ?_)
      refine s_is l_Mo_findDelta_210 (Nat.le_of_ble_eq_true rfl) ?_
      refine s_ic 0 l_Mo_findDelta_212 rfl ?_
      refine s_is l_Mo_findDelta_213 (Nat.le_of_ble_eq_true rfl) ?_
      exact h
    · refine s_al l_Mo_findDelta_158 rfl ?_
      refine s_il l_Mo_findDelta_160 rfl ?_
      refine s_il l_Mo_findDelta_162 rfl ?_
      refine s_iadd l_Mo_findDelta_164 ?_
      refine s_ic (-1) l_Mo_findDelta_165 rfl ?_
      refine s_al l_Mo_findDelta_166 rfl ?_
      refine s_il l_Mo_findDelta_168 rfl ?_
      refine s_il l_Mo_findDelta_170 rfl ?_
      refine s_iadd l_Mo_findDelta_172 ?_
      refine s_bal l_Mo_findDelta_173 (Or.inr rfl) h (fun v8 h => ?_)
      refine s_sp 255 l_Mo_findDelta_174 rfl ?_
      refine s_iand l_Mo_findDelta_177 ?_
      refine s_isub l_Mo_findDelta_178 ?_
      refine s_iast l_Mo_findDelta_179 h (fun f9 h => ?_)
      refine s_inc 1 l_Mo_findDelta_180 rfl rfl ?_
      refine s_goto l_Mo_findDelta_183 ?_
      exact h
def B_Mo_findDelta_215 (d : Nat) (E : Option Value → xH → Prop) (f : xH) (a0 : Nat) (a1 : Nat) (x2 : Int32) (x3 : Int32) (a4 : Nat) (x5 : Int32) (x6 : Int32) (a7 : Nat) (x8 : Int32) (x9 : Int32) (x10 : Int32) (x11 : Int32) (x12 : Int32) : Prop :=
  xbr (x10 ≤ x12) (xWp (xT0, xSp xT0 d, none, m_Mo_findDelta, E) 141 [some (.ref a0), some (.ref a1), some (.int x2), some (.int x3), some (.ref a4), some (.int x5), some (.int x6), some (.ref a7), some (.int x8), some (.int (x9 + x10)), some (.int x10), some (.int x11), some (.int x12)] [] f 0 0) (xas f a7 0 ((x8 + x9) + x12) (x11 + x12) (fun f1 => xWp (xT0, xSp xT0 d, none, m_Mo_findDelta, E) 215 [some (.ref a0), some (.ref a1), some (.int x2), some (.int x3), some (.ref a4), some (.int x5), some (.int x6), some (.ref a7), some (.int x8), some (.int x9), some (.int x10), some (.int x11), some (.int (x12 + 1))] [] f1 0 0))
theorem b_Mo_findDelta_215 {d : Nat} {E : Option Value → xH → Prop} {f : xH} {a0 : Nat} {a1 : Nat} {x2 : Int32} {x3 : Int32} {a4 : Nat} {x5 : Int32} {x6 : Int32} {a7 : Nat} {x8 : Int32} {x9 : Int32} {x10 : Int32} {x11 : Int32} {x12 : Int32} (h : B_Mo_findDelta_215 d E f a0 a1 x2 x3 a4 x5 x6 a7 x8 x9 x10 x11 x12) : xWp (xT0, xSp xT0 d, none, m_Mo_findDelta, E) 215 [some (.ref a0), some (.ref a1), some (.int x2), some (.int x3), some (.ref a4), some (.int x5), some (.int x6), some (.ref a7), some (.int x8), some (.int x9), some (.int x10), some (.int x11), some (.int x12)] [] f 0 0 := by
  unfold B_Mo_findDelta_215 at h
  refine s_il l_Mo_findDelta_215 rfl ?_
  refine s_il l_Mo_findDelta_217 rfl ?_
  refine s_ifc l_Mo_findDelta_219 h (fun h => ?_) (fun h => ?_)
  · refine s_il l_Mo_findDelta_244 rfl ?_
    refine s_il l_Mo_findDelta_246 rfl ?_
    refine s_iadd l_Mo_findDelta_248 ?_
    refine s_is l_Mo_findDelta_249 (Nat.le_of_ble_eq_true rfl) ?_
    refine s_goto l_Mo_findDelta_251 ?_
    exact h
  · refine s_al l_Mo_findDelta_222 rfl ?_
    refine s_il l_Mo_findDelta_224 rfl ?_
    refine s_il l_Mo_findDelta_226 rfl ?_
    refine s_iadd l_Mo_findDelta_228 ?_
    refine s_il l_Mo_findDelta_229 rfl ?_
    refine s_iadd l_Mo_findDelta_231 ?_
    refine s_il l_Mo_findDelta_232 rfl ?_
    refine s_il l_Mo_findDelta_234 rfl ?_
    refine s_iadd l_Mo_findDelta_236 ?_
    refine s_iast l_Mo_findDelta_237 h (fun f1 h => ?_)
    refine s_inc 1 l_Mo_findDelta_238 rfl rfl ?_
    refine s_goto l_Mo_findDelta_241 ?_
    exact h
theorem l_Mo_placeOf_0 : xlk (xm_cd m_Mo_placeOf) 0 = some (.iconst 0, 1, (0, 0, 0, [])) := rfl
theorem l_Mo_placeOf_1 : xlk (xm_cd m_Mo_placeOf) 1 = some (.istore 6, 2, (0, 0, 0, [])) := rfl
theorem l_Mo_placeOf_3 : xlk (xm_cd m_Mo_placeOf) 3 = some (.iload 6, 2, (0, 0, 0, [])) := rfl
theorem l_Mo_placeOf_5 : xlk (xm_cd m_Mo_placeOf) 5 = some (.iload 5, 2, (0, 0, 0, [])) := rfl
theorem l_Mo_placeOf_7 : xlk (xm_cd m_Mo_placeOf) 7 = some (.iadd, 1, (0, 0, 0, [])) := rfl
theorem l_Mo_placeOf_8 : xlk (xm_cd m_Mo_placeOf) 8 = some (.iload_n 2, 1, (0, 0, 0, [])) := rfl
theorem l_Mo_placeOf_9 : xlk (xm_cd m_Mo_placeOf) 9 = some (.if_icmp .gt 28, 3, (0, 37, 0, [])) := rfl
theorem l_Mo_placeOf_12 : xlk (xm_cd m_Mo_placeOf) 12 = some (.aload_n 0, 1, (0, 0, 0, [])) := rfl
theorem l_Mo_placeOf_13 : xlk (xm_cd m_Mo_placeOf) 13 = some (.iload_n 1, 1, (0, 0, 0, [])) := rfl
theorem l_Mo_placeOf_14 : xlk (xm_cd m_Mo_placeOf) 14 = some (.iload_n 2, 1, (0, 0, 0, [])) := rfl
theorem l_Mo_placeOf_15 : xlk (xm_cd m_Mo_placeOf) 15 = some (.iload 6, 2, (0, 0, 0, [])) := rfl
theorem l_Mo_placeOf_17 : xlk (xm_cd m_Mo_placeOf) 17 = some (.aload_n 3, 1, (0, 0, 0, [])) := rfl
theorem l_Mo_placeOf_18 : xlk (xm_cd m_Mo_placeOf) 18 = some (.iload 4, 2, (0, 0, 0, [])) := rfl
theorem l_Mo_placeOf_20 : xlk (xm_cd m_Mo_placeOf) 20 = some (.iload 5, 2, (0, 0, 0, [])) := rfl
theorem l_Mo_placeOf_22 : xlk (xm_cd m_Mo_placeOf) 22 = some (.invokestatic 207, 3, (1053, 176, 7, [])) := rfl
theorem l_Mo_placeOf_25 : xlk (xm_cd m_Mo_placeOf) 25 = some (.ifCond .eq 6, 3, (0, 31, 0, [])) := rfl
theorem l_Mo_placeOf_28 : xlk (xm_cd m_Mo_placeOf) 28 = some (.iload 6, 2, (0, 0, 0, [])) := rfl
theorem l_Mo_placeOf_30 : xlk (xm_cd m_Mo_placeOf) 30 = some (.ireturn, 1, (0, 0, 0, [])) := rfl
theorem l_Mo_placeOf_31 : xlk (xm_cd m_Mo_placeOf) 31 = some (.iinc 6 1, 3, (0, 0, 0, [])) := rfl
theorem l_Mo_placeOf_34 : xlk (xm_cd m_Mo_placeOf) 34 = some (.goto (-31), 3, (0, 3, 0, [])) := rfl
theorem l_Mo_placeOf_37 : xlk (xm_cd m_Mo_placeOf) 37 = some (.bipush (-2), 2, (0, 0, 0, [])) := rfl
theorem l_Mo_placeOf_39 : xlk (xm_cd m_Mo_placeOf) 39 = some (.ireturn, 1, (0, 0, 0, [])) := rfl
def B_Mo_placeOf_0 (d : Nat) (E : Option Value → xH → Prop) (f : xH) (a0 : Nat) (x1 : Int32) (x2 : Int32) (a3 : Nat) (x4 : Int32) (x5 : Int32) : Prop :=
  xWp (xT0, xSp xT0 d, none, m_Mo_placeOf, E) 3 [some (.ref a0), some (.int x1), some (.int x2), some (.ref a3), some (.int x4), some (.int x5), some (.int 0)] [] f 0 0
theorem b_Mo_placeOf_0 {d : Nat} {E : Option Value → xH → Prop} {f : xH} {a0 : Nat} {x1 : Int32} {x2 : Int32} {a3 : Nat} {x4 : Int32} {x5 : Int32} (h : B_Mo_placeOf_0 d E f a0 x1 x2 a3 x4 x5) : xWp (xT0, xSp xT0 d, none, m_Mo_placeOf, E) 0 [some (.ref a0), some (.int x1), some (.int x2), some (.ref a3), some (.int x4), some (.int x5), none] [] f 0 0 := by
  unfold B_Mo_placeOf_0 at h
  refine s_ic 0 l_Mo_placeOf_0 rfl ?_
  refine s_is l_Mo_placeOf_1 (Nat.le_of_ble_eq_true rfl) ?_
  exact h
def B_Mo_placeOf_3 (d : Nat) (E : Option Value → xH → Prop) (f : xH) (a0 : Nat) (x1 : Int32) (x2 : Int32) (a3 : Nat) (x4 : Int32) (x5 : Int32) (x6 : Int32) : Prop :=
  xbr (x2 < (x6 + x5)) (E (some (.int (-2))) f) (xSp xT0 d j_Mo_stands [.ref a0, .int x1, .int x2, .int x6, .ref a3, .int x4, .int x5] f (fun w1 f2 => xvi w1 (fun v3 => xbr (v3 = 0) (xWp (xT0, xSp xT0 d, none, m_Mo_placeOf, E) 3 [some (.ref a0), some (.int x1), some (.int x2), some (.ref a3), some (.int x4), some (.int x5), some (.int (x6 + 1))] [] f2 0 0) (E (some (.int x6)) f2))))
theorem b_Mo_placeOf_3 {d : Nat} {E : Option Value → xH → Prop} {f : xH} {a0 : Nat} {x1 : Int32} {x2 : Int32} {a3 : Nat} {x4 : Int32} {x5 : Int32} {x6 : Int32} (h : B_Mo_placeOf_3 d E f a0 x1 x2 a3 x4 x5 x6) : xWp (xT0, xSp xT0 d, none, m_Mo_placeOf, E) 3 [some (.ref a0), some (.int x1), some (.int x2), some (.ref a3), some (.int x4), some (.int x5), some (.int x6)] [] f 0 0 := by
  unfold B_Mo_placeOf_3 at h
  refine s_il l_Mo_placeOf_3 rfl ?_
  refine s_il l_Mo_placeOf_5 rfl ?_
  refine s_iadd l_Mo_placeOf_7 ?_
  refine s_iln l_Mo_placeOf_8 rfl ?_
  refine s_ifc l_Mo_placeOf_9 h (fun h => ?_) (fun h => ?_)
  · refine s_bp (-2) l_Mo_placeOf_37 rfl ?_
    exact s_iret l_Mo_placeOf_39 rfl ⟨Nat.zero_le _, Nat.zero_le _⟩ h
  · refine s_aln l_Mo_placeOf_12 rfl ?_
    refine s_iln l_Mo_placeOf_13 rfl ?_
    refine s_iln l_Mo_placeOf_14 rfl ?_
    refine s_il l_Mo_placeOf_15 rfl ?_
    refine s_aln l_Mo_placeOf_17 rfl ?_
    refine s_il l_Mo_placeOf_18 rfl ?_
    refine s_il l_Mo_placeOf_20 rfl ?_
    refine s_csi (As := [.ref a0, .int x1, .int x2, .int x6, .ref a3, .int x4, .int x5]) (r := []) l_Mo_placeOf_22 rfl ⟨rfl, rfl⟩ rfl (Nat.le_of_ble_eq_true rfl) rfl ⟨Nat.zero_le _, Nat.zero_le _⟩ h (fun v3 f2 h => ?_)
    refine s_if l_Mo_placeOf_25 h (fun h => ?_) (fun h => ?_)
    · refine s_inc 1 l_Mo_placeOf_31 rfl rfl ?_
      refine s_goto l_Mo_placeOf_34 ?_
      exact h
    · refine s_il l_Mo_placeOf_28 rfl ?_
      exact s_iret l_Mo_placeOf_30 rfl ⟨Nat.zero_le _, Nat.zero_le _⟩ h
theorem l_Mo_stands_0 : xlk (xm_cd m_Mo_stands) 0 = some (.iload_n 3, 1, (0, 0, 0, [])) := rfl
theorem l_Mo_stands_1 : xlk (xm_cd m_Mo_stands) 1 = some (.iload 6, 2, (0, 0, 0, [])) := rfl
theorem l_Mo_stands_3 : xlk (xm_cd m_Mo_stands) 3 = some (.iadd, 1, (0, 0, 0, [])) := rfl
theorem l_Mo_stands_4 : xlk (xm_cd m_Mo_stands) 4 = some (.iload_n 2, 1, (0, 0, 0, [])) := rfl
theorem l_Mo_stands_5 : xlk (xm_cd m_Mo_stands) 5 = some (.if_icmp .le 5, 3, (0, 10, 0, [])) := rfl
theorem l_Mo_stands_8 : xlk (xm_cd m_Mo_stands) 8 = some (.iconst 0, 1, (0, 0, 0, [])) := rfl
theorem l_Mo_stands_9 : xlk (xm_cd m_Mo_stands) 9 = some (.ireturn, 1, (0, 0, 0, [])) := rfl
theorem l_Mo_stands_10 : xlk (xm_cd m_Mo_stands) 10 = some (.iconst 0, 1, (0, 0, 0, [])) := rfl
theorem l_Mo_stands_11 : xlk (xm_cd m_Mo_stands) 11 = some (.istore 7, 2, (0, 0, 0, [])) := rfl
theorem l_Mo_stands_13 : xlk (xm_cd m_Mo_stands) 13 = some (.iload 7, 2, (0, 0, 0, [])) := rfl
theorem l_Mo_stands_15 : xlk (xm_cd m_Mo_stands) 15 = some (.iload 6, 2, (0, 0, 0, [])) := rfl
theorem l_Mo_stands_17 : xlk (xm_cd m_Mo_stands) 17 = some (.if_icmp .ge 30, 3, (0, 47, 0, [])) := rfl
theorem l_Mo_stands_20 : xlk (xm_cd m_Mo_stands) 20 = some (.aload_n 0, 1, (0, 0, 0, [])) := rfl
theorem l_Mo_stands_21 : xlk (xm_cd m_Mo_stands) 21 = some (.iload_n 1, 1, (0, 0, 0, [])) := rfl
theorem l_Mo_stands_22 : xlk (xm_cd m_Mo_stands) 22 = some (.iload_n 3, 1, (0, 0, 0, [])) := rfl
theorem l_Mo_stands_23 : xlk (xm_cd m_Mo_stands) 23 = some (.iadd, 1, (0, 0, 0, [])) := rfl
theorem l_Mo_stands_24 : xlk (xm_cd m_Mo_stands) 24 = some (.iload 7, 2, (0, 0, 0, [])) := rfl
theorem l_Mo_stands_26 : xlk (xm_cd m_Mo_stands) 26 = some (.iadd, 1, (0, 0, 0, [])) := rfl
theorem l_Mo_stands_27 : xlk (xm_cd m_Mo_stands) 27 = some (.baload, 1, (0, 0, 0, [])) := rfl
theorem l_Mo_stands_28 : xlk (xm_cd m_Mo_stands) 28 = some (.aload 4, 2, (0, 0, 0, [])) := rfl
theorem l_Mo_stands_30 : xlk (xm_cd m_Mo_stands) 30 = some (.iload 5, 2, (0, 0, 0, [])) := rfl
theorem l_Mo_stands_32 : xlk (xm_cd m_Mo_stands) 32 = some (.iload 7, 2, (0, 0, 0, [])) := rfl
theorem l_Mo_stands_34 : xlk (xm_cd m_Mo_stands) 34 = some (.iadd, 1, (0, 0, 0, [])) := rfl
theorem l_Mo_stands_35 : xlk (xm_cd m_Mo_stands) 35 = some (.baload, 1, (0, 0, 0, [])) := rfl
theorem l_Mo_stands_36 : xlk (xm_cd m_Mo_stands) 36 = some (.if_icmp .eq 5, 3, (0, 41, 0, [])) := rfl
theorem l_Mo_stands_39 : xlk (xm_cd m_Mo_stands) 39 = some (.iconst 0, 1, (0, 0, 0, [])) := rfl
theorem l_Mo_stands_40 : xlk (xm_cd m_Mo_stands) 40 = some (.ireturn, 1, (0, 0, 0, [])) := rfl
theorem l_Mo_stands_41 : xlk (xm_cd m_Mo_stands) 41 = some (.iinc 7 1, 3, (0, 0, 0, [])) := rfl
theorem l_Mo_stands_44 : xlk (xm_cd m_Mo_stands) 44 = some (.goto (-31), 3, (0, 13, 0, [])) := rfl
theorem l_Mo_stands_47 : xlk (xm_cd m_Mo_stands) 47 = some (.iconst 1, 1, (0, 0, 0, [])) := rfl
theorem l_Mo_stands_48 : xlk (xm_cd m_Mo_stands) 48 = some (.ireturn, 1, (0, 0, 0, [])) := rfl
def B_Mo_stands_0 (d : Nat) (E : Option Value → xH → Prop) (f : xH) (a0 : Nat) (x1 : Int32) (x2 : Int32) (x3 : Int32) (a4 : Nat) (x5 : Int32) (x6 : Int32) : Prop :=
  xbr ((x3 + x6) ≤ x2) (xWp (xT0, xSp xT0 d, none, m_Mo_stands, E) 13 [some (.ref a0), some (.int x1), some (.int x2), some (.int x3), some (.ref a4), some (.int x5), some (.int x6), some (.int 0)] [] f 0 0) (E (some (.int 0)) f)
theorem b_Mo_stands_0 {d : Nat} {E : Option Value → xH → Prop} {f : xH} {a0 : Nat} {x1 : Int32} {x2 : Int32} {x3 : Int32} {a4 : Nat} {x5 : Int32} {x6 : Int32} (h : B_Mo_stands_0 d E f a0 x1 x2 x3 a4 x5 x6) : xWp (xT0, xSp xT0 d, none, m_Mo_stands, E) 0 [some (.ref a0), some (.int x1), some (.int x2), some (.int x3), some (.ref a4), some (.int x5), some (.int x6), none] [] f 0 0 := by
  unfold B_Mo_stands_0 at h
  refine s_iln l_Mo_stands_0 rfl ?_
  refine s_il l_Mo_stands_1 rfl ?_
  refine s_iadd l_Mo_stands_3 ?_
  refine s_iln l_Mo_stands_4 rfl ?_
  refine s_ifc l_Mo_stands_5 h (fun h => ?_) (fun h => ?_)
  · refine s_ic 0 l_Mo_stands_10 rfl ?_
    refine s_is l_Mo_stands_11 (Nat.le_of_ble_eq_true rfl) ?_
    exact h
  · refine s_ic 0 l_Mo_stands_8 rfl ?_
    exact s_zret l_Mo_stands_9 rfl ⟨Nat.zero_le _, Nat.zero_le _⟩ ⟨Or.inl rfl, h⟩
def B_Mo_stands_13 (d : Nat) (E : Option Value → xH → Prop) (f : xH) (a0 : Nat) (x1 : Int32) (x2 : Int32) (x3 : Int32) (a4 : Nat) (x5 : Int32) (x6 : Int32) (x7 : Int32) : Prop :=
  xbr (x6 ≤ x7) (E (some (.int 1)) f) (xal f a0 2 ((x1 + x3) + x7) (fun v1 => xal f a4 2 (x5 + x7) (fun v2 => xbr (v1 = v2) (xWp (xT0, xSp xT0 d, none, m_Mo_stands, E) 13 [some (.ref a0), some (.int x1), some (.int x2), some (.int x3), some (.ref a4), some (.int x5), some (.int x6), some (.int (x7 + 1))] [] f 0 0) (E (some (.int 0)) f))))
theorem b_Mo_stands_13 {d : Nat} {E : Option Value → xH → Prop} {f : xH} {a0 : Nat} {x1 : Int32} {x2 : Int32} {x3 : Int32} {a4 : Nat} {x5 : Int32} {x6 : Int32} {x7 : Int32} (h : B_Mo_stands_13 d E f a0 x1 x2 x3 a4 x5 x6 x7) : xWp (xT0, xSp xT0 d, none, m_Mo_stands, E) 13 [some (.ref a0), some (.int x1), some (.int x2), some (.int x3), some (.ref a4), some (.int x5), some (.int x6), some (.int x7)] [] f 0 0 := by
  unfold B_Mo_stands_13 at h
  refine s_il l_Mo_stands_13 rfl ?_
  refine s_il l_Mo_stands_15 rfl ?_
  refine s_ifc l_Mo_stands_17 h (fun h => ?_) (fun h => ?_)
  · refine s_ic 1 l_Mo_stands_47 rfl ?_
    exact s_zret l_Mo_stands_48 rfl ⟨Nat.zero_le _, Nat.zero_le _⟩ ⟨Or.inr rfl, h⟩
  · refine s_aln l_Mo_stands_20 rfl ?_
    refine s_iln l_Mo_stands_21 rfl ?_
    refine s_iln l_Mo_stands_22 rfl ?_
    refine s_iadd l_Mo_stands_23 ?_
    refine s_il l_Mo_stands_24 rfl ?_
    refine s_iadd l_Mo_stands_26 ?_
    refine s_bal l_Mo_stands_27 (Or.inr rfl) h (fun v1 h => ?_)
    refine s_al l_Mo_stands_28 rfl ?_
    refine s_il l_Mo_stands_30 rfl ?_
    refine s_il l_Mo_stands_32 rfl ?_
    refine s_iadd l_Mo_stands_34 ?_
    refine s_bal l_Mo_stands_35 (Or.inr rfl) h (fun v2 h => ?_)
    refine s_ifc l_Mo_stands_36 h (fun h => ?_) (fun h => ?_)
    · refine s_inc 1 l_Mo_stands_41 rfl rfl ?_
      refine s_goto l_Mo_stands_44 ?_
      exact h
    · refine s_ic 0 l_Mo_stands_39 rfl ?_
      exact s_zret l_Mo_stands_40 rfl ⟨Nat.zero_le _, Nat.zero_le _⟩ ⟨Or.inl rfl, h⟩
theorem l_Mo_addSpare_0 : xlk (xm_cd m_Mo_addSpare) 0 = some (.aload_n 0, 1, (0, 0, 0, [])) := rfl
theorem l_Mo_addSpare_1 : xlk (xm_cd m_Mo_addSpare) 1 = some (.getfield 69, 3, (871, 11, 22, [])) := rfl
theorem l_Mo_addSpare_4 : xlk (xm_cd m_Mo_addSpare) 4 = some (.iload_n 1, 1, (0, 0, 0, [])) := rfl
theorem l_Mo_addSpare_5 : xlk (xm_cd m_Mo_addSpare) 5 = some (.iaload, 1, (0, 0, 0, [])) := rfl
theorem l_Mo_addSpare_6 : xlk (xm_cd m_Mo_addSpare) 6 = some (.istore_n 2, 1, (0, 0, 0, [])) := rfl
theorem l_Mo_addSpare_7 : xlk (xm_cd m_Mo_addSpare) 7 = some (.iload_n 2, 1, (0, 0, 0, [])) := rfl
theorem l_Mo_addSpare_8 : xlk (xm_cd m_Mo_addSpare) 8 = some (.ifCond .le 45, 3, (0, 53, 0, [])) := rfl
theorem l_Mo_addSpare_11 : xlk (xm_cd m_Mo_addSpare) 11 = some (.aload_n 0, 1, (0, 0, 0, [])) := rfl
theorem l_Mo_addSpare_12 : xlk (xm_cd m_Mo_addSpare) 12 = some (.bipush 24, 2, (0, 0, 0, [])) := rfl
theorem l_Mo_addSpare_14 : xlk (xm_cd m_Mo_addSpare) 14 = some (.iload_n 1, 1, (0, 0, 0, [])) := rfl
theorem l_Mo_addSpare_15 : xlk (xm_cd m_Mo_addSpare) 15 = some (.imul, 1, (0, 0, 0, [])) := rfl
theorem l_Mo_addSpare_16 : xlk (xm_cd m_Mo_addSpare) 16 = some (.iload_n 2, 1, (0, 0, 0, [])) := rfl
theorem l_Mo_addSpare_17 : xlk (xm_cd m_Mo_addSpare) 17 = some (.iadd, 1, (0, 0, 0, [])) := rfl
theorem l_Mo_addSpare_18 : xlk (xm_cd m_Mo_addSpare) 18 = some (.iconst 1, 1, (0, 0, 0, [])) := rfl
theorem l_Mo_addSpare_19 : xlk (xm_cd m_Mo_addSpare) 19 = some (.isub, 1, (0, 0, 0, [])) := rfl
theorem l_Mo_addSpare_20 : xlk (xm_cd m_Mo_addSpare) 20 = some (.sipush 217, 3, (0, 0, 0, [])) := rfl
theorem l_Mo_addSpare_23 : xlk (xm_cd m_Mo_addSpare) 23 = some (.invokevirtual 201, 3, (1059, 178, 2, [])) := rfl
theorem l_Mo_addSpare_26 : xlk (xm_cd m_Mo_addSpare) 26 = some (.ifCond .le 27, 3, (0, 53, 0, [])) := rfl
theorem l_Mo_addSpare_29 : xlk (xm_cd m_Mo_addSpare) 29 = some (.aload_n 0, 1, (0, 0, 0, [])) := rfl
theorem l_Mo_addSpare_30 : xlk (xm_cd m_Mo_addSpare) 30 = some (.bipush 24, 2, (0, 0, 0, [])) := rfl
theorem l_Mo_addSpare_32 : xlk (xm_cd m_Mo_addSpare) 32 = some (.iload_n 1, 1, (0, 0, 0, [])) := rfl
theorem l_Mo_addSpare_33 : xlk (xm_cd m_Mo_addSpare) 33 = some (.imul, 1, (0, 0, 0, [])) := rfl
theorem l_Mo_addSpare_34 : xlk (xm_cd m_Mo_addSpare) 34 = some (.iload_n 2, 1, (0, 0, 0, [])) := rfl
theorem l_Mo_addSpare_35 : xlk (xm_cd m_Mo_addSpare) 35 = some (.iadd, 1, (0, 0, 0, [])) := rfl
theorem l_Mo_addSpare_36 : xlk (xm_cd m_Mo_addSpare) 36 = some (.iconst 1, 1, (0, 0, 0, [])) := rfl
theorem l_Mo_addSpare_37 : xlk (xm_cd m_Mo_addSpare) 37 = some (.isub, 1, (0, 0, 0, [])) := rfl
theorem l_Mo_addSpare_38 : xlk (xm_cd m_Mo_addSpare) 38 = some (.bipush 24, 2, (0, 0, 0, [])) := rfl
theorem l_Mo_addSpare_40 : xlk (xm_cd m_Mo_addSpare) 40 = some (.iload_n 1, 1, (0, 0, 0, [])) := rfl
theorem l_Mo_addSpare_41 : xlk (xm_cd m_Mo_addSpare) 41 = some (.imul, 1, (0, 0, 0, [])) := rfl
theorem l_Mo_addSpare_42 : xlk (xm_cd m_Mo_addSpare) 42 = some (.iload_n 2, 1, (0, 0, 0, [])) := rfl
theorem l_Mo_addSpare_43 : xlk (xm_cd m_Mo_addSpare) 43 = some (.iadd, 1, (0, 0, 0, [])) := rfl
theorem l_Mo_addSpare_44 : xlk (xm_cd m_Mo_addSpare) 44 = some (.invokevirtual 204, 3, (1062, 179, 2, [])) := rfl
theorem l_Mo_addSpare_47 : xlk (xm_cd m_Mo_addSpare) 47 = some (.iinc 2 (-1), 3, (0, 0, 0, [])) := rfl
theorem l_Mo_addSpare_50 : xlk (xm_cd m_Mo_addSpare) 50 = some (.goto (-43), 3, (0, 7, 0, [])) := rfl
theorem l_Mo_addSpare_53 : xlk (xm_cd m_Mo_addSpare) 53 = some (.aload_n 0, 1, (0, 0, 0, [])) := rfl
theorem l_Mo_addSpare_54 : xlk (xm_cd m_Mo_addSpare) 54 = some (.sipush 217, 3, (0, 0, 0, [])) := rfl
theorem l_Mo_addSpare_57 : xlk (xm_cd m_Mo_addSpare) 57 = some (.bipush 24, 2, (0, 0, 0, [])) := rfl
theorem l_Mo_addSpare_59 : xlk (xm_cd m_Mo_addSpare) 59 = some (.iload_n 1, 1, (0, 0, 0, [])) := rfl
theorem l_Mo_addSpare_60 : xlk (xm_cd m_Mo_addSpare) 60 = some (.imul, 1, (0, 0, 0, [])) := rfl
theorem l_Mo_addSpare_61 : xlk (xm_cd m_Mo_addSpare) 61 = some (.iload_n 2, 1, (0, 0, 0, [])) := rfl
theorem l_Mo_addSpare_62 : xlk (xm_cd m_Mo_addSpare) 62 = some (.iadd, 1, (0, 0, 0, [])) := rfl
theorem l_Mo_addSpare_63 : xlk (xm_cd m_Mo_addSpare) 63 = some (.invokevirtual 204, 3, (1062, 179, 2, [])) := rfl
theorem l_Mo_addSpare_66 : xlk (xm_cd m_Mo_addSpare) 66 = some (.aload_n 0, 1, (0, 0, 0, [])) := rfl
theorem l_Mo_addSpare_67 : xlk (xm_cd m_Mo_addSpare) 67 = some (.getfield 69, 3, (871, 11, 22, [])) := rfl
theorem l_Mo_addSpare_70 : xlk (xm_cd m_Mo_addSpare) 70 = some (.iload_n 1, 1, (0, 0, 0, [])) := rfl
theorem l_Mo_addSpare_71 : xlk (xm_cd m_Mo_addSpare) 71 = some (.dup2, 1, (0, 0, 0, [])) := rfl
theorem l_Mo_addSpare_72 : xlk (xm_cd m_Mo_addSpare) 72 = some (.iaload, 1, (0, 0, 0, [])) := rfl
theorem l_Mo_addSpare_73 : xlk (xm_cd m_Mo_addSpare) 73 = some (.iconst 1, 1, (0, 0, 0, [])) := rfl
theorem l_Mo_addSpare_74 : xlk (xm_cd m_Mo_addSpare) 74 = some (.iadd, 1, (0, 0, 0, [])) := rfl
theorem l_Mo_addSpare_75 : xlk (xm_cd m_Mo_addSpare) 75 = some (.iastore, 1, (0, 0, 0, [])) := rfl
theorem l_Mo_addSpare_76 : xlk (xm_cd m_Mo_addSpare) 76 = some (.return_, 1, (0, 0, 0, [])) := rfl
def B_Mo_addSpare_0 (d : Nat) (E : Option Value → xH → Prop) (f : xH) (a0 : Nat) (x1 : Int32) : Prop :=
  xgr f a0 11 22 (fun r1 => xal f r1 0 x1 (fun v2 => xWp (xT0, xSp xT0 d, none, m_Mo_addSpare, E) 7 [some (.ref a0), some (.int x1), some (.int v2)] [] f 0 0))
theorem b_Mo_addSpare_0 {d : Nat} {E : Option Value → xH → Prop} {f : xH} {a0 : Nat} {x1 : Int32} (h : B_Mo_addSpare_0 d E f a0 x1) : xWp (xT0, xSp xT0 d, none, m_Mo_addSpare, E) 0 [some (.ref a0), some (.int x1), none] [] f 0 0 := by
  unfold B_Mo_addSpare_0 at h
  refine s_aln l_Mo_addSpare_0 rfl ?_
  refine s_gr l_Mo_addSpare_1 h (fun r1 h => ?_)
  refine s_iln l_Mo_addSpare_4 rfl ?_
  refine s_ial l_Mo_addSpare_5 rfl h (fun v2 h => ?_)
  refine s_isn l_Mo_addSpare_6 (Nat.le_of_ble_eq_true rfl) ?_
  exact h
def B_Mo_addSpare_7 (d : Nat) (E : Option Value → xH → Prop) (f : xH) (a0 : Nat) (x1 : Int32) (x2 : Int32) : Prop :=
  xbr (x2 ≤ 0) (xWp (xT0, xSp xT0 d, none, m_Mo_addSpare, E) 53 [some (.ref a0), some (.int x1), some (.int x2)] [] f 0 0) ((∃ fs, f a0 = some (xO 11 fs)) ∧ xSp xT0 d j_Mo_orderOf [.ref a0, .int (((24 * x1) + x2) - 1), .int 217] f (fun w1 f2 => xvi w1 (fun v3 => xbr (v3 ≤ 0) (xWp (xT0, xSp xT0 d, none, m_Mo_addSpare, E) 53 [some (.ref a0), some (.int x1), some (.int x2)] [] f2 0 0) ((∃ fs, f2 a0 = some (xO 11 fs)) ∧ xSp xT0 d j_Mo_moveStep [.ref a0, .int (((24 * x1) + x2) - 1), .int ((24 * x1) + x2)] f2 (fun w4 f5 => xvv w4 (xWp (xT0, xSp xT0 d, none, m_Mo_addSpare, E) 7 [some (.ref a0), some (.int x1), some (.int (x2 + (-1)))] [] f5 0 0))))))
theorem b_Mo_addSpare_7 {d : Nat} {E : Option Value → xH → Prop} {f : xH} {a0 : Nat} {x1 : Int32} {x2 : Int32} (h : B_Mo_addSpare_7 d E f a0 x1 x2) : xWp (xT0, xSp xT0 d, none, m_Mo_addSpare, E) 7 [some (.ref a0), some (.int x1), some (.int x2)] [] f 0 0 := by
  unfold B_Mo_addSpare_7 at h
  refine s_iln l_Mo_addSpare_7 rfl ?_
  refine s_if l_Mo_addSpare_8 h (fun h => ?_) (fun h => ?_)
  · exact h
  · refine s_aln l_Mo_addSpare_11 rfl ?_
    refine s_bp 24 l_Mo_addSpare_12 rfl ?_
    refine s_iln l_Mo_addSpare_14 rfl ?_
    refine s_imul l_Mo_addSpare_15 ?_
    refine s_iln l_Mo_addSpare_16 rfl ?_
    refine s_iadd l_Mo_addSpare_17 ?_
    refine s_ic 1 l_Mo_addSpare_18 rfl ?_
    refine s_isub l_Mo_addSpare_19 ?_
    refine s_sp 217 l_Mo_addSpare_20 rfl ?_
    refine s_cvi (As := [.int (((24 * x1) + x2) - 1), .int 217]) (r := []) l_Mo_addSpare_23 rfl ⟨rfl, rfl⟩ rfl (Nat.le_of_ble_eq_true rfl) rfl ⟨Nat.zero_le _, Nat.zero_le _⟩ h (fun v3 f2 h => ?_)
    refine s_if l_Mo_addSpare_26 h (fun h => ?_) (fun h => ?_)
    · exact h
    · refine s_aln l_Mo_addSpare_29 rfl ?_
      refine s_bp 24 l_Mo_addSpare_30 rfl ?_
      refine s_iln l_Mo_addSpare_32 rfl ?_
      refine s_imul l_Mo_addSpare_33 ?_
      refine s_iln l_Mo_addSpare_34 rfl ?_
      refine s_iadd l_Mo_addSpare_35 ?_
      refine s_ic 1 l_Mo_addSpare_36 rfl ?_
      refine s_isub l_Mo_addSpare_37 ?_
      refine s_bp 24 l_Mo_addSpare_38 rfl ?_
      refine s_iln l_Mo_addSpare_40 rfl ?_
      refine s_imul l_Mo_addSpare_41 ?_
      refine s_iln l_Mo_addSpare_42 rfl ?_
      refine s_iadd l_Mo_addSpare_43 ?_
      refine s_cvv (As := [.int (((24 * x1) + x2) - 1), .int ((24 * x1) + x2)]) (r := []) l_Mo_addSpare_44 rfl ⟨rfl, rfl⟩ rfl (Nat.le_of_ble_eq_true rfl) rfl ⟨Nat.zero_le _, Nat.zero_le _⟩ h (fun f5 h => ?_)
      refine s_inc (-1) l_Mo_addSpare_47 rfl rfl ?_
      refine s_goto l_Mo_addSpare_50 ?_
      exact h
def B_Mo_addSpare_53 (d : Nat) (E : Option Value → xH → Prop) (f : xH) (a0 : Nat) (x1 : Int32) (x2 : Int32) : Prop :=
  (∃ fs, f a0 = some (xO 11 fs)) ∧ xSp xT0 d j_Mo_moveStep [.ref a0, .int 217, .int ((24 * x1) + x2)] f (fun w1 f2 => xvv w1 (xgr f2 a0 11 22 (fun r3 => xal f2 r3 0 x1 (fun v4 => xas f2 r3 0 x1 (v4 + 1) (fun f5 => E none f5)))))
theorem b_Mo_addSpare_53 {d : Nat} {E : Option Value → xH → Prop} {f : xH} {a0 : Nat} {x1 : Int32} {x2 : Int32} (h : B_Mo_addSpare_53 d E f a0 x1 x2) : xWp (xT0, xSp xT0 d, none, m_Mo_addSpare, E) 53 [some (.ref a0), some (.int x1), some (.int x2)] [] f 0 0 := by
  unfold B_Mo_addSpare_53 at h
  refine s_aln l_Mo_addSpare_53 rfl ?_
  refine s_sp 217 l_Mo_addSpare_54 rfl ?_
  refine s_bp 24 l_Mo_addSpare_57 rfl ?_
  refine s_iln l_Mo_addSpare_59 rfl ?_
  refine s_imul l_Mo_addSpare_60 ?_
  refine s_iln l_Mo_addSpare_61 rfl ?_
  refine s_iadd l_Mo_addSpare_62 ?_
  refine s_cvv (As := [.int 217, .int ((24 * x1) + x2)]) (r := []) l_Mo_addSpare_63 rfl ⟨rfl, rfl⟩ rfl (Nat.le_of_ble_eq_true rfl) rfl ⟨Nat.zero_le _, Nat.zero_le _⟩ h (fun f2 h => ?_)
  refine s_aln l_Mo_addSpare_66 rfl ?_
  refine s_gr l_Mo_addSpare_67 h (fun r3 h => ?_)
  refine s_iln l_Mo_addSpare_70 rfl ?_
  refine s_dup2 l_Mo_addSpare_71 rfl rfl ?_
  refine s_ial l_Mo_addSpare_72 rfl h (fun v4 h => ?_)
  refine s_ic 1 l_Mo_addSpare_73 rfl ?_
  refine s_iadd l_Mo_addSpare_74 ?_
  refine s_iast l_Mo_addSpare_75 h (fun f5 h => ?_)
  exact s_ret l_Mo_addSpare_76 ⟨Nat.zero_le _, Nat.zero_le _⟩ h
theorem l_Mo_orderOf_0 : xlk (xm_cd m_Mo_orderOf) 0 = some (.aload_n 0, 1, (0, 0, 0, [])) := rfl
theorem l_Mo_orderOf_1 : xlk (xm_cd m_Mo_orderOf) 1 = some (.getfield 39, 3, (861, 11, 12, [])) := rfl
theorem l_Mo_orderOf_4 : xlk (xm_cd m_Mo_orderOf) 4 = some (.bipush 18, 2, (0, 0, 0, [])) := rfl
theorem l_Mo_orderOf_6 : xlk (xm_cd m_Mo_orderOf) 6 = some (.iload_n 1, 1, (0, 0, 0, [])) := rfl
theorem l_Mo_orderOf_7 : xlk (xm_cd m_Mo_orderOf) 7 = some (.imul, 1, (0, 0, 0, [])) := rfl
theorem l_Mo_orderOf_8 : xlk (xm_cd m_Mo_orderOf) 8 = some (.aload_n 0, 1, (0, 0, 0, [])) := rfl
theorem l_Mo_orderOf_9 : xlk (xm_cd m_Mo_orderOf) 9 = some (.getfield 42, 3, (862, 11, 13, [])) := rfl
theorem l_Mo_orderOf_12 : xlk (xm_cd m_Mo_orderOf) 12 = some (.iload_n 1, 1, (0, 0, 0, [])) := rfl
theorem l_Mo_orderOf_13 : xlk (xm_cd m_Mo_orderOf) 13 = some (.iaload, 1, (0, 0, 0, [])) := rfl
theorem l_Mo_orderOf_14 : xlk (xm_cd m_Mo_orderOf) 14 = some (.aload_n 0, 1, (0, 0, 0, [])) := rfl
theorem l_Mo_orderOf_15 : xlk (xm_cd m_Mo_orderOf) 15 = some (.getfield 39, 3, (861, 11, 12, [])) := rfl
theorem l_Mo_orderOf_18 : xlk (xm_cd m_Mo_orderOf) 18 = some (.bipush 18, 2, (0, 0, 0, [])) := rfl
theorem l_Mo_orderOf_20 : xlk (xm_cd m_Mo_orderOf) 20 = some (.iload_n 2, 1, (0, 0, 0, [])) := rfl
theorem l_Mo_orderOf_21 : xlk (xm_cd m_Mo_orderOf) 21 = some (.imul, 1, (0, 0, 0, [])) := rfl
theorem l_Mo_orderOf_22 : xlk (xm_cd m_Mo_orderOf) 22 = some (.aload_n 0, 1, (0, 0, 0, [])) := rfl
theorem l_Mo_orderOf_23 : xlk (xm_cd m_Mo_orderOf) 23 = some (.getfield 42, 3, (862, 11, 13, [])) := rfl
theorem l_Mo_orderOf_26 : xlk (xm_cd m_Mo_orderOf) 26 = some (.iload_n 2, 1, (0, 0, 0, [])) := rfl
theorem l_Mo_orderOf_27 : xlk (xm_cd m_Mo_orderOf) 27 = some (.iaload, 1, (0, 0, 0, [])) := rfl
theorem l_Mo_orderOf_28 : xlk (xm_cd m_Mo_orderOf) 28 = some (.invokestatic 143, 3, (987, 157, 6, [])) := rfl
theorem l_Mo_orderOf_31 : xlk (xm_cd m_Mo_orderOf) 31 = some (.istore_n 3, 1, (0, 0, 0, [])) := rfl
theorem l_Mo_orderOf_32 : xlk (xm_cd m_Mo_orderOf) 32 = some (.iload_n 3, 1, (0, 0, 0, [])) := rfl
theorem l_Mo_orderOf_33 : xlk (xm_cd m_Mo_orderOf) 33 = some (.ifCond .eq 7, 3, (0, 40, 0, [])) := rfl
theorem l_Mo_orderOf_36 : xlk (xm_cd m_Mo_orderOf) 36 = some (.iload_n 3, 1, (0, 0, 0, [])) := rfl
theorem l_Mo_orderOf_37 : xlk (xm_cd m_Mo_orderOf) 37 = some (.goto 32, 3, (0, 69, 0, [])) := rfl
theorem l_Mo_orderOf_40 : xlk (xm_cd m_Mo_orderOf) 40 = some (.aload_n 0, 1, (0, 0, 0, [])) := rfl
theorem l_Mo_orderOf_41 : xlk (xm_cd m_Mo_orderOf) 41 = some (.getfield 36, 3, (860, 11, 11, [])) := rfl
theorem l_Mo_orderOf_44 : xlk (xm_cd m_Mo_orderOf) 44 = some (.iload_n 1, 1, (0, 0, 0, [])) := rfl
theorem l_Mo_orderOf_45 : xlk (xm_cd m_Mo_orderOf) 45 = some (.iaload, 1, (0, 0, 0, [])) := rfl
theorem l_Mo_orderOf_46 : xlk (xm_cd m_Mo_orderOf) 46 = some (.iconst 1, 1, (0, 0, 0, [])) := rfl
theorem l_Mo_orderOf_47 : xlk (xm_cd m_Mo_orderOf) 47 = some (.if_icmp .ne 7, 3, (0, 54, 0, [])) := rfl
theorem l_Mo_orderOf_50 : xlk (xm_cd m_Mo_orderOf) 50 = some (.iconst (-1), 1, (0, 0, 0, [])) := rfl
theorem l_Mo_orderOf_51 : xlk (xm_cd m_Mo_orderOf) 51 = some (.goto 18, 3, (0, 69, 0, [])) := rfl
theorem l_Mo_orderOf_54 : xlk (xm_cd m_Mo_orderOf) 54 = some (.aload_n 0, 1, (0, 0, 0, [])) := rfl
theorem l_Mo_orderOf_55 : xlk (xm_cd m_Mo_orderOf) 55 = some (.getfield 36, 3, (860, 11, 11, [])) := rfl
theorem l_Mo_orderOf_58 : xlk (xm_cd m_Mo_orderOf) 58 = some (.iload_n 2, 1, (0, 0, 0, [])) := rfl
theorem l_Mo_orderOf_59 : xlk (xm_cd m_Mo_orderOf) 59 = some (.iaload, 1, (0, 0, 0, [])) := rfl
theorem l_Mo_orderOf_60 : xlk (xm_cd m_Mo_orderOf) 60 = some (.iconst 1, 1, (0, 0, 0, [])) := rfl
theorem l_Mo_orderOf_61 : xlk (xm_cd m_Mo_orderOf) 61 = some (.if_icmp .ne 7, 3, (0, 68, 0, [])) := rfl
theorem l_Mo_orderOf_64 : xlk (xm_cd m_Mo_orderOf) 64 = some (.iconst 1, 1, (0, 0, 0, [])) := rfl
theorem l_Mo_orderOf_65 : xlk (xm_cd m_Mo_orderOf) 65 = some (.goto 4, 3, (0, 69, 0, [])) := rfl
theorem l_Mo_orderOf_68 : xlk (xm_cd m_Mo_orderOf) 68 = some (.iconst 0, 1, (0, 0, 0, [])) := rfl
theorem l_Mo_orderOf_69 : xlk (xm_cd m_Mo_orderOf) 69 = some (.ireturn, 1, (0, 0, 0, [])) := rfl
def B_Mo_orderOf_0 (d : Nat) (E : Option Value → xH → Prop) (f : xH) (a0 : Nat) (x1 : Int32) (x2 : Int32) : Prop :=
  xgr f a0 11 12 (fun r1 => xgr f a0 11 13 (fun r2 => xal f r2 0 x1 (fun v3 => xgr f a0 11 12 (fun r4 => xgr f a0 11 13 (fun r5 => xal f r5 0 x2 (fun v6 => xSp xT0 d j_Mo_order [.ref r1, .int (18 * x1), .int v3, .ref r4, .int (18 * x2), .int v6] f (fun w7 f8 => xvi w7 (fun v9 => xbr (v9 = 0) (xgr f8 a0 11 11 (fun r10 => xal f8 r10 0 x1 (fun v11 => xbr (¬ v11 = 1) (xgr f8 a0 11 11 (fun r12 => xal f8 r12 0 x2 (fun v13 => xbr (¬ v13 = 1) (E (some (.int 0)) f8) (E (some (.int 1)) f8)))) (E (some (.int (-1))) f8)))) (E (some (.int v9)) f8)))))))))
theorem b_Mo_orderOf_0 {d : Nat} {E : Option Value → xH → Prop} {f : xH} {a0 : Nat} {x1 : Int32} {x2 : Int32} (h : B_Mo_orderOf_0 d E f a0 x1 x2) : xWp (xT0, xSp xT0 d, none, m_Mo_orderOf, E) 0 [some (.ref a0), some (.int x1), some (.int x2), none] [] f 0 0 := by
  unfold B_Mo_orderOf_0 at h
  refine s_aln l_Mo_orderOf_0 rfl ?_
  refine s_gr l_Mo_orderOf_1 h (fun r1 h => ?_)
  refine s_bp 18 l_Mo_orderOf_4 rfl ?_
  refine s_iln l_Mo_orderOf_6 rfl ?_
  refine s_imul l_Mo_orderOf_7 ?_
  refine s_aln l_Mo_orderOf_8 rfl ?_
  refine s_gr l_Mo_orderOf_9 h (fun r2 h => ?_)
  refine s_iln l_Mo_orderOf_12 rfl ?_
  refine s_ial l_Mo_orderOf_13 rfl h (fun v3 h => ?_)
  refine s_aln l_Mo_orderOf_14 rfl ?_
  refine s_gr l_Mo_orderOf_15 h (fun r4 h => ?_)
  refine s_bp 18 l_Mo_orderOf_18 rfl ?_
  refine s_iln l_Mo_orderOf_20 rfl ?_
  refine s_imul l_Mo_orderOf_21 ?_
  refine s_aln l_Mo_orderOf_22 rfl ?_
  refine s_gr l_Mo_orderOf_23 h (fun r5 h => ?_)
  refine s_iln l_Mo_orderOf_26 rfl ?_
  refine s_ial l_Mo_orderOf_27 rfl h (fun v6 h => ?_)
  refine s_csi (As := [.ref r1, .int (18 * x1), .int v3, .ref r4, .int (18 * x2), .int v6]) (r := []) l_Mo_orderOf_28 rfl ⟨rfl, rfl⟩ rfl (Nat.le_of_ble_eq_true rfl) rfl ⟨Nat.zero_le _, Nat.zero_le _⟩ h (fun v9 f8 h => ?_)
  refine s_isn l_Mo_orderOf_31 (Nat.le_of_ble_eq_true rfl) ?_
  refine s_iln l_Mo_orderOf_32 rfl ?_
  refine s_if l_Mo_orderOf_33 h (fun h => ?_) (fun h => ?_)
  · refine s_aln l_Mo_orderOf_40 rfl ?_
    refine s_gr l_Mo_orderOf_41 h (fun r10 h => ?_)
    refine s_iln l_Mo_orderOf_44 rfl ?_
    refine s_ial l_Mo_orderOf_45 rfl h (fun v11 h => ?_)
    refine s_ic 1 l_Mo_orderOf_46 rfl ?_
    refine s_ifc l_Mo_orderOf_47 h (fun h => ?_) (fun h => ?_)
    · refine s_aln l_Mo_orderOf_54 rfl ?_
      refine s_gr l_Mo_orderOf_55 h (fun r12 h => ?_)
      refine s_iln l_Mo_orderOf_58 rfl ?_
      refine s_ial l_Mo_orderOf_59 rfl h (fun v13 h => ?_)
      refine s_ic 1 l_Mo_orderOf_60 rfl ?_
      refine s_ifc l_Mo_orderOf_61 h (fun h => ?_) (fun h => ?_)
      · refine s_ic 0 l_Mo_orderOf_68 rfl ?_
        exact s_iret l_Mo_orderOf_69 rfl ⟨Nat.zero_le _, Nat.zero_le _⟩ h
      · refine s_ic 1 l_Mo_orderOf_64 rfl ?_
        refine s_goto l_Mo_orderOf_65 ?_
        exact s_iret l_Mo_orderOf_69 rfl ⟨Nat.zero_le _, Nat.zero_le _⟩ h
    · refine s_ic (-1) l_Mo_orderOf_50 rfl ?_
      refine s_goto l_Mo_orderOf_51 ?_
      exact s_iret l_Mo_orderOf_69 rfl ⟨Nat.zero_le _, Nat.zero_le _⟩ h
  · refine s_iln l_Mo_orderOf_36 rfl ?_
    refine s_goto l_Mo_orderOf_37 ?_
    exact s_iret l_Mo_orderOf_69 rfl ⟨Nat.zero_le _, Nat.zero_le _⟩ h
theorem l_Mo_moveStep_0 : xlk (xm_cd m_Mo_moveStep) 0 = some (.aload_n 0, 1, (0, 0, 0, [])) := rfl
theorem l_Mo_moveStep_1 : xlk (xm_cd m_Mo_moveStep) 1 = some (.getfield 36, 3, (860, 11, 11, [])) := rfl
theorem l_Mo_moveStep_4 : xlk (xm_cd m_Mo_moveStep) 4 = some (.iload_n 2, 1, (0, 0, 0, [])) := rfl
theorem l_Mo_moveStep_5 : xlk (xm_cd m_Mo_moveStep) 5 = some (.aload_n 0, 1, (0, 0, 0, [])) := rfl
theorem l_Mo_moveStep_6 : xlk (xm_cd m_Mo_moveStep) 6 = some (.getfield 36, 3, (860, 11, 11, [])) := rfl
theorem l_Mo_moveStep_9 : xlk (xm_cd m_Mo_moveStep) 9 = some (.iload_n 1, 1, (0, 0, 0, [])) := rfl
theorem l_Mo_moveStep_10 : xlk (xm_cd m_Mo_moveStep) 10 = some (.iaload, 1, (0, 0, 0, [])) := rfl
theorem l_Mo_moveStep_11 : xlk (xm_cd m_Mo_moveStep) 11 = some (.iastore, 1, (0, 0, 0, [])) := rfl
theorem l_Mo_moveStep_12 : xlk (xm_cd m_Mo_moveStep) 12 = some (.aload_n 0, 1, (0, 0, 0, [])) := rfl
theorem l_Mo_moveStep_13 : xlk (xm_cd m_Mo_moveStep) 13 = some (.getfield 39, 3, (861, 11, 12, [])) := rfl
theorem l_Mo_moveStep_16 : xlk (xm_cd m_Mo_moveStep) 16 = some (.bipush 18, 2, (0, 0, 0, [])) := rfl
theorem l_Mo_moveStep_18 : xlk (xm_cd m_Mo_moveStep) 18 = some (.iload_n 1, 1, (0, 0, 0, [])) := rfl
theorem l_Mo_moveStep_19 : xlk (xm_cd m_Mo_moveStep) 19 = some (.imul, 1, (0, 0, 0, [])) := rfl
theorem l_Mo_moveStep_20 : xlk (xm_cd m_Mo_moveStep) 20 = some (.aload_n 0, 1, (0, 0, 0, [])) := rfl
theorem l_Mo_moveStep_21 : xlk (xm_cd m_Mo_moveStep) 21 = some (.getfield 39, 3, (861, 11, 12, [])) := rfl
theorem l_Mo_moveStep_24 : xlk (xm_cd m_Mo_moveStep) 24 = some (.bipush 18, 2, (0, 0, 0, [])) := rfl
theorem l_Mo_moveStep_26 : xlk (xm_cd m_Mo_moveStep) 26 = some (.iload_n 2, 1, (0, 0, 0, [])) := rfl
theorem l_Mo_moveStep_27 : xlk (xm_cd m_Mo_moveStep) 27 = some (.imul, 1, (0, 0, 0, [])) := rfl
theorem l_Mo_moveStep_28 : xlk (xm_cd m_Mo_moveStep) 28 = some (.aload_n 0, 1, (0, 0, 0, [])) := rfl
theorem l_Mo_moveStep_29 : xlk (xm_cd m_Mo_moveStep) 29 = some (.getfield 42, 3, (862, 11, 13, [])) := rfl
theorem l_Mo_moveStep_32 : xlk (xm_cd m_Mo_moveStep) 32 = some (.iload_n 1, 1, (0, 0, 0, [])) := rfl
theorem l_Mo_moveStep_33 : xlk (xm_cd m_Mo_moveStep) 33 = some (.iaload, 1, (0, 0, 0, [])) := rfl
theorem l_Mo_moveStep_34 : xlk (xm_cd m_Mo_moveStep) 34 = some (.invokestatic 162, 3, (977, 154, 5, [])) := rfl
theorem l_Mo_moveStep_37 : xlk (xm_cd m_Mo_moveStep) 37 = some (.aload_n 0, 1, (0, 0, 0, [])) := rfl
theorem l_Mo_moveStep_38 : xlk (xm_cd m_Mo_moveStep) 38 = some (.getfield 42, 3, (862, 11, 13, [])) := rfl
theorem l_Mo_moveStep_41 : xlk (xm_cd m_Mo_moveStep) 41 = some (.iload_n 2, 1, (0, 0, 0, [])) := rfl
theorem l_Mo_moveStep_42 : xlk (xm_cd m_Mo_moveStep) 42 = some (.aload_n 0, 1, (0, 0, 0, [])) := rfl
theorem l_Mo_moveStep_43 : xlk (xm_cd m_Mo_moveStep) 43 = some (.getfield 42, 3, (862, 11, 13, [])) := rfl
theorem l_Mo_moveStep_46 : xlk (xm_cd m_Mo_moveStep) 46 = some (.iload_n 1, 1, (0, 0, 0, [])) := rfl
theorem l_Mo_moveStep_47 : xlk (xm_cd m_Mo_moveStep) 47 = some (.iaload, 1, (0, 0, 0, [])) := rfl
theorem l_Mo_moveStep_48 : xlk (xm_cd m_Mo_moveStep) 48 = some (.iastore, 1, (0, 0, 0, [])) := rfl
theorem l_Mo_moveStep_49 : xlk (xm_cd m_Mo_moveStep) 49 = some (.aload_n 0, 1, (0, 0, 0, [])) := rfl
theorem l_Mo_moveStep_50 : xlk (xm_cd m_Mo_moveStep) 50 = some (.getfield 45, 3, (863, 11, 14, [])) := rfl
theorem l_Mo_moveStep_53 : xlk (xm_cd m_Mo_moveStep) 53 = some (.bipush 18, 2, (0, 0, 0, [])) := rfl
theorem l_Mo_moveStep_55 : xlk (xm_cd m_Mo_moveStep) 55 = some (.iload_n 1, 1, (0, 0, 0, [])) := rfl
theorem l_Mo_moveStep_56 : xlk (xm_cd m_Mo_moveStep) 56 = some (.imul, 1, (0, 0, 0, [])) := rfl
theorem l_Mo_moveStep_57 : xlk (xm_cd m_Mo_moveStep) 57 = some (.aload_n 0, 1, (0, 0, 0, [])) := rfl
theorem l_Mo_moveStep_58 : xlk (xm_cd m_Mo_moveStep) 58 = some (.getfield 45, 3, (863, 11, 14, [])) := rfl
theorem l_Mo_moveStep_61 : xlk (xm_cd m_Mo_moveStep) 61 = some (.bipush 18, 2, (0, 0, 0, [])) := rfl
theorem l_Mo_moveStep_63 : xlk (xm_cd m_Mo_moveStep) 63 = some (.iload_n 2, 1, (0, 0, 0, [])) := rfl
theorem l_Mo_moveStep_64 : xlk (xm_cd m_Mo_moveStep) 64 = some (.imul, 1, (0, 0, 0, [])) := rfl
theorem l_Mo_moveStep_65 : xlk (xm_cd m_Mo_moveStep) 65 = some (.aload_n 0, 1, (0, 0, 0, [])) := rfl
theorem l_Mo_moveStep_66 : xlk (xm_cd m_Mo_moveStep) 66 = some (.getfield 48, 3, (864, 11, 15, [])) := rfl
theorem l_Mo_moveStep_69 : xlk (xm_cd m_Mo_moveStep) 69 = some (.iload_n 1, 1, (0, 0, 0, [])) := rfl
theorem l_Mo_moveStep_70 : xlk (xm_cd m_Mo_moveStep) 70 = some (.iaload, 1, (0, 0, 0, [])) := rfl
theorem l_Mo_moveStep_71 : xlk (xm_cd m_Mo_moveStep) 71 = some (.invokestatic 162, 3, (977, 154, 5, [])) := rfl
theorem l_Mo_moveStep_74 : xlk (xm_cd m_Mo_moveStep) 74 = some (.aload_n 0, 1, (0, 0, 0, [])) := rfl
theorem l_Mo_moveStep_75 : xlk (xm_cd m_Mo_moveStep) 75 = some (.getfield 48, 3, (864, 11, 15, [])) := rfl
theorem l_Mo_moveStep_78 : xlk (xm_cd m_Mo_moveStep) 78 = some (.iload_n 2, 1, (0, 0, 0, [])) := rfl
theorem l_Mo_moveStep_79 : xlk (xm_cd m_Mo_moveStep) 79 = some (.aload_n 0, 1, (0, 0, 0, [])) := rfl
theorem l_Mo_moveStep_80 : xlk (xm_cd m_Mo_moveStep) 80 = some (.getfield 48, 3, (864, 11, 15, [])) := rfl
theorem l_Mo_moveStep_83 : xlk (xm_cd m_Mo_moveStep) 83 = some (.iload_n 1, 1, (0, 0, 0, [])) := rfl
theorem l_Mo_moveStep_84 : xlk (xm_cd m_Mo_moveStep) 84 = some (.iaload, 1, (0, 0, 0, [])) := rfl
theorem l_Mo_moveStep_85 : xlk (xm_cd m_Mo_moveStep) 85 = some (.iastore, 1, (0, 0, 0, [])) := rfl
theorem l_Mo_moveStep_86 : xlk (xm_cd m_Mo_moveStep) 86 = some (.aload_n 0, 1, (0, 0, 0, [])) := rfl
theorem l_Mo_moveStep_87 : xlk (xm_cd m_Mo_moveStep) 87 = some (.getfield 51, 3, (865, 11, 16, [])) := rfl
theorem l_Mo_moveStep_90 : xlk (xm_cd m_Mo_moveStep) 90 = some (.iload_n 2, 1, (0, 0, 0, [])) := rfl
theorem l_Mo_moveStep_91 : xlk (xm_cd m_Mo_moveStep) 91 = some (.aload_n 0, 1, (0, 0, 0, [])) := rfl
theorem l_Mo_moveStep_92 : xlk (xm_cd m_Mo_moveStep) 92 = some (.getfield 51, 3, (865, 11, 16, [])) := rfl
theorem l_Mo_moveStep_95 : xlk (xm_cd m_Mo_moveStep) 95 = some (.iload_n 1, 1, (0, 0, 0, [])) := rfl
theorem l_Mo_moveStep_96 : xlk (xm_cd m_Mo_moveStep) 96 = some (.iaload, 1, (0, 0, 0, [])) := rfl
theorem l_Mo_moveStep_97 : xlk (xm_cd m_Mo_moveStep) 97 = some (.iastore, 1, (0, 0, 0, [])) := rfl
theorem l_Mo_moveStep_98 : xlk (xm_cd m_Mo_moveStep) 98 = some (.aload_n 0, 1, (0, 0, 0, [])) := rfl
theorem l_Mo_moveStep_99 : xlk (xm_cd m_Mo_moveStep) 99 = some (.getfield 54, 3, (866, 11, 17, [])) := rfl
theorem l_Mo_moveStep_102 : xlk (xm_cd m_Mo_moveStep) 102 = some (.iload_n 2, 1, (0, 0, 0, [])) := rfl
theorem l_Mo_moveStep_103 : xlk (xm_cd m_Mo_moveStep) 103 = some (.aload_n 0, 1, (0, 0, 0, [])) := rfl
theorem l_Mo_moveStep_104 : xlk (xm_cd m_Mo_moveStep) 104 = some (.getfield 54, 3, (866, 11, 17, [])) := rfl
theorem l_Mo_moveStep_107 : xlk (xm_cd m_Mo_moveStep) 107 = some (.iload_n 1, 1, (0, 0, 0, [])) := rfl
theorem l_Mo_moveStep_108 : xlk (xm_cd m_Mo_moveStep) 108 = some (.iaload, 1, (0, 0, 0, [])) := rfl
theorem l_Mo_moveStep_109 : xlk (xm_cd m_Mo_moveStep) 109 = some (.iastore, 1, (0, 0, 0, [])) := rfl
theorem l_Mo_moveStep_110 : xlk (xm_cd m_Mo_moveStep) 110 = some (.aload_n 0, 1, (0, 0, 0, [])) := rfl
theorem l_Mo_moveStep_111 : xlk (xm_cd m_Mo_moveStep) 111 = some (.getfield 57, 3, (867, 11, 18, [])) := rfl
theorem l_Mo_moveStep_114 : xlk (xm_cd m_Mo_moveStep) 114 = some (.iload_n 2, 1, (0, 0, 0, [])) := rfl
theorem l_Mo_moveStep_115 : xlk (xm_cd m_Mo_moveStep) 115 = some (.aload_n 0, 1, (0, 0, 0, [])) := rfl
theorem l_Mo_moveStep_116 : xlk (xm_cd m_Mo_moveStep) 116 = some (.getfield 57, 3, (867, 11, 18, [])) := rfl
theorem l_Mo_moveStep_119 : xlk (xm_cd m_Mo_moveStep) 119 = some (.iload_n 1, 1, (0, 0, 0, [])) := rfl
theorem l_Mo_moveStep_120 : xlk (xm_cd m_Mo_moveStep) 120 = some (.iaload, 1, (0, 0, 0, [])) := rfl
theorem l_Mo_moveStep_121 : xlk (xm_cd m_Mo_moveStep) 121 = some (.iastore, 1, (0, 0, 0, [])) := rfl
theorem l_Mo_moveStep_122 : xlk (xm_cd m_Mo_moveStep) 122 = some (.aload_n 0, 1, (0, 0, 0, [])) := rfl
theorem l_Mo_moveStep_123 : xlk (xm_cd m_Mo_moveStep) 123 = some (.getfield 60, 3, (868, 11, 19, [])) := rfl
theorem l_Mo_moveStep_126 : xlk (xm_cd m_Mo_moveStep) 126 = some (.iload_n 2, 1, (0, 0, 0, [])) := rfl
set_option maxRecDepth 20000 in
theorem l_Mo_moveStep_127 : xlk (xm_cd m_Mo_moveStep) 127 = some (.aload_n 0, 1, (0, 0, 0, [])) := rfl
set_option maxRecDepth 20000 in
theorem l_Mo_moveStep_128 : xlk (xm_cd m_Mo_moveStep) 128 = some (.getfield 60, 3, (868, 11, 19, [])) := rfl
set_option maxRecDepth 20000 in
theorem l_Mo_moveStep_131 : xlk (xm_cd m_Mo_moveStep) 131 = some (.iload_n 1, 1, (0, 0, 0, [])) := rfl
set_option maxRecDepth 20000 in
theorem l_Mo_moveStep_132 : xlk (xm_cd m_Mo_moveStep) 132 = some (.iaload, 1, (0, 0, 0, [])) := rfl
set_option maxRecDepth 20000 in
theorem l_Mo_moveStep_133 : xlk (xm_cd m_Mo_moveStep) 133 = some (.iastore, 1, (0, 0, 0, [])) := rfl
set_option maxRecDepth 20000 in
theorem l_Mo_moveStep_134 : xlk (xm_cd m_Mo_moveStep) 134 = some (.iconst 0, 1, (0, 0, 0, [])) := rfl
set_option maxRecDepth 20000 in
theorem l_Mo_moveStep_135 : xlk (xm_cd m_Mo_moveStep) 135 = some (.istore_n 3, 1, (0, 0, 0, [])) := rfl
set_option maxRecDepth 20000 in
theorem l_Mo_moveStep_136 : xlk (xm_cd m_Mo_moveStep) 136 = some (.iload_n 3, 1, (0, 0, 0, [])) := rfl
set_option maxRecDepth 20000 in
theorem l_Mo_moveStep_137 : xlk (xm_cd m_Mo_moveStep) 137 = some (.bipush 48, 2, (0, 0, 0, [])) := rfl
set_option maxRecDepth 20000 in
theorem l_Mo_moveStep_139 : xlk (xm_cd m_Mo_moveStep) 139 = some (.if_icmp .ge 53, 3, (0, 192, 0, [])) := rfl
set_option maxRecDepth 20000 in
theorem l_Mo_moveStep_142 : xlk (xm_cd m_Mo_moveStep) 142 = some (.aload_n 0, 1, (0, 0, 0, [])) := rfl
set_option maxRecDepth 20000 in
theorem l_Mo_moveStep_143 : xlk (xm_cd m_Mo_moveStep) 143 = some (.getfield 63, 3, (869, 11, 20, [])) := rfl
set_option maxRecDepth 20000 in
theorem l_Mo_moveStep_146 : xlk (xm_cd m_Mo_moveStep) 146 = some (.bipush 48, 2, (0, 0, 0, [])) := rfl
set_option maxRecDepth 20000 in
theorem l_Mo_moveStep_148 : xlk (xm_cd m_Mo_moveStep) 148 = some (.iload_n 2, 1, (0, 0, 0, [])) := rfl
set_option maxRecDepth 20000 in
theorem l_Mo_moveStep_149 : xlk (xm_cd m_Mo_moveStep) 149 = some (.imul, 1, (0, 0, 0, [])) := rfl
set_option maxRecDepth 20000 in
theorem l_Mo_moveStep_150 : xlk (xm_cd m_Mo_moveStep) 150 = some (.iload_n 3, 1, (0, 0, 0, [])) := rfl
set_option maxRecDepth 20000 in
theorem l_Mo_moveStep_151 : xlk (xm_cd m_Mo_moveStep) 151 = some (.iadd, 1, (0, 0, 0, [])) := rfl
set_option maxRecDepth 20000 in
theorem l_Mo_moveStep_152 : xlk (xm_cd m_Mo_moveStep) 152 = some (.aload_n 0, 1, (0, 0, 0, [])) := rfl
set_option maxRecDepth 20000 in
theorem l_Mo_moveStep_153 : xlk (xm_cd m_Mo_moveStep) 153 = some (.getfield 63, 3, (869, 11, 20, [])) := rfl
set_option maxRecDepth 20000 in
theorem l_Mo_moveStep_156 : xlk (xm_cd m_Mo_moveStep) 156 = some (.bipush 48, 2, (0, 0, 0, [])) := rfl
set_option maxRecDepth 20000 in
theorem l_Mo_moveStep_158 : xlk (xm_cd m_Mo_moveStep) 158 = some (.iload_n 1, 1, (0, 0, 0, [])) := rfl
set_option maxRecDepth 20000 in
theorem l_Mo_moveStep_159 : xlk (xm_cd m_Mo_moveStep) 159 = some (.imul, 1, (0, 0, 0, [])) := rfl
set_option maxRecDepth 20000 in
theorem l_Mo_moveStep_160 : xlk (xm_cd m_Mo_moveStep) 160 = some (.iload_n 3, 1, (0, 0, 0, [])) := rfl
set_option maxRecDepth 20000 in
theorem l_Mo_moveStep_161 : xlk (xm_cd m_Mo_moveStep) 161 = some (.iadd, 1, (0, 0, 0, [])) := rfl
set_option maxRecDepth 20000 in
theorem l_Mo_moveStep_162 : xlk (xm_cd m_Mo_moveStep) 162 = some (.iaload, 1, (0, 0, 0, [])) := rfl
set_option maxRecDepth 20000 in
theorem l_Mo_moveStep_163 : xlk (xm_cd m_Mo_moveStep) 163 = some (.iastore, 1, (0, 0, 0, [])) := rfl
set_option maxRecDepth 20000 in
theorem l_Mo_moveStep_164 : xlk (xm_cd m_Mo_moveStep) 164 = some (.aload_n 0, 1, (0, 0, 0, [])) := rfl
set_option maxRecDepth 20000 in
theorem l_Mo_moveStep_165 : xlk (xm_cd m_Mo_moveStep) 165 = some (.getfield 66, 3, (870, 11, 21, [])) := rfl
set_option maxRecDepth 20000 in
theorem l_Mo_moveStep_168 : xlk (xm_cd m_Mo_moveStep) 168 = some (.bipush 48, 2, (0, 0, 0, [])) := rfl
set_option maxRecDepth 20000 in
theorem l_Mo_moveStep_170 : xlk (xm_cd m_Mo_moveStep) 170 = some (.iload_n 2, 1, (0, 0, 0, [])) := rfl
set_option maxRecDepth 20000 in
theorem l_Mo_moveStep_171 : xlk (xm_cd m_Mo_moveStep) 171 = some (.imul, 1, (0, 0, 0, [])) := rfl
set_option maxRecDepth 20000 in
theorem l_Mo_moveStep_172 : xlk (xm_cd m_Mo_moveStep) 172 = some (.iload_n 3, 1, (0, 0, 0, [])) := rfl
set_option maxRecDepth 20000 in
theorem l_Mo_moveStep_173 : xlk (xm_cd m_Mo_moveStep) 173 = some (.iadd, 1, (0, 0, 0, [])) := rfl
set_option maxRecDepth 20000 in
theorem l_Mo_moveStep_174 : xlk (xm_cd m_Mo_moveStep) 174 = some (.aload_n 0, 1, (0, 0, 0, [])) := rfl
set_option maxRecDepth 20000 in
theorem l_Mo_moveStep_175 : xlk (xm_cd m_Mo_moveStep) 175 = some (.getfield 66, 3, (870, 11, 21, [])) := rfl
set_option maxRecDepth 20000 in
theorem l_Mo_moveStep_178 : xlk (xm_cd m_Mo_moveStep) 178 = some (.bipush 48, 2, (0, 0, 0, [])) := rfl
set_option maxRecDepth 20000 in
theorem l_Mo_moveStep_180 : xlk (xm_cd m_Mo_moveStep) 180 = some (.iload_n 1, 1, (0, 0, 0, [])) := rfl
set_option maxRecDepth 20000 in
theorem l_Mo_moveStep_181 : xlk (xm_cd m_Mo_moveStep) 181 = some (.imul, 1, (0, 0, 0, [])) := rfl
set_option maxRecDepth 20000 in
theorem l_Mo_moveStep_182 : xlk (xm_cd m_Mo_moveStep) 182 = some (.iload_n 3, 1, (0, 0, 0, [])) := rfl
set_option maxRecDepth 20000 in
theorem l_Mo_moveStep_183 : xlk (xm_cd m_Mo_moveStep) 183 = some (.iadd, 1, (0, 0, 0, [])) := rfl
set_option maxRecDepth 20000 in
theorem l_Mo_moveStep_184 : xlk (xm_cd m_Mo_moveStep) 184 = some (.iaload, 1, (0, 0, 0, [])) := rfl
set_option maxRecDepth 20000 in
theorem l_Mo_moveStep_185 : xlk (xm_cd m_Mo_moveStep) 185 = some (.iastore, 1, (0, 0, 0, [])) := rfl
set_option maxRecDepth 20000 in
theorem l_Mo_moveStep_186 : xlk (xm_cd m_Mo_moveStep) 186 = some (.iinc 3 1, 3, (0, 0, 0, [])) := rfl
set_option maxRecDepth 20000 in
theorem l_Mo_moveStep_189 : xlk (xm_cd m_Mo_moveStep) 189 = some (.goto (-53), 3, (0, 136, 0, [])) := rfl
set_option maxRecDepth 20000 in
theorem l_Mo_moveStep_192 : xlk (xm_cd m_Mo_moveStep) 192 = some (.return_, 1, (0, 0, 0, [])) := rfl
def B_Mo_moveStep_0 (d : Nat) (E : Option Value → xH → Prop) (f : xH) (a0 : Nat) (x1 : Int32) (x2 : Int32) : Prop :=
  xgr f a0 11 11 (fun r1 => xgr f a0 11 11 (fun r2 => xal f r2 0 x1 (fun v3 => xas f r1 0 x2 v3 (fun f4 => xgr f4 a0 11 12 (fun r5 => xgr f4 a0 11 12 (fun r6 => xgr f4 a0 11 13 (fun r7 => xal f4 r7 0 x1 (fun v8 => xSp xT0 d j_Mo_move [.ref r5, .int (18 * x1), .ref r6, .int (18 * x2), .int v8] f4 (fun w9 f10 => xvv w9 (xgr f10 a0 11 13 (fun r11 => xgr f10 a0 11 13 (fun r12 => xal f10 r12 0 x1 (fun v13 => xas f10 r11 0 x2 v13 (fun f14 => xgr f14 a0 11 14 (fun r15 => xgr f14 a0 11 14 (fun r16 => xgr f14 a0 11 15 (fun r17 => xal f14 r17 0 x1 (fun v18 => xSp xT0 d j_Mo_move [.ref r15, .int (18 * x1), .ref r16, .int (18 * x2), .int v18] f14 (fun w19 f20 => xvv w19 (xgr f20 a0 11 15 (fun r21 => xgr f20 a0 11 15 (fun r22 => xal f20 r22 0 x1 (fun v23 => xas f20 r21 0 x2 v23 (fun f24 => xgr f24 a0 11 16 (fun r25 => xgr f24 a0 11 16 (fun r26 => xal f24 r26 0 x1 (fun v27 => xas f24 r25 0 x2 v27 (fun f28 => xgr f28 a0 11 17 (fun r29 => xgr f28 a0 11 17 (fun r30 => xal f28 r30 0 x1 (fun v31 => xas f28 r29 0 x2 v31 (fun f32 => xgr f32 a0 11 18 (fun r33 => xgr f32 a0 11 18 (fun r34 => xal f32 r34 0 x1 (fun v35 => xas f32 r33 0 x2 v35 (fun f36 => xgr f36 a0 11 19 (fun r37 => xgr f36 a0 11 19 (fun r38 => xal f36 r38 0 x1 (fun v39 => xas f36 r37 0 x2 v39 (fun f40 => xWp (xT0, xSp xT0 d, none, m_Mo_moveStep, E) 136 [some (.ref a0), some (.int x1), some (.int x2), some (.int 0)] [] f40 0 0))))))))))))))))))))))))))))))))))))))))
theorem b_Mo_moveStep_0 {d : Nat} {E : Option Value → xH → Prop} {f : xH} {a0 : Nat} {x1 : Int32} {x2 : Int32} (h : B_Mo_moveStep_0 d E f a0 x1 x2) : xWp (xT0, xSp xT0 d, none, m_Mo_moveStep, E) 0 [some (.ref a0), some (.int x1), some (.int x2), none] [] f 0 0 := by
  unfold B_Mo_moveStep_0 at h
  refine s_aln l_Mo_moveStep_0 rfl ?_
  refine s_gr l_Mo_moveStep_1 h (fun r1 h => ?_)
  refine s_iln l_Mo_moveStep_4 rfl ?_
  refine s_aln l_Mo_moveStep_5 rfl ?_
  refine s_gr l_Mo_moveStep_6 h (fun r2 h => ?_)
  refine s_iln l_Mo_moveStep_9 rfl ?_
  refine s_ial l_Mo_moveStep_10 rfl h (fun v3 h => ?_)
  refine s_iast l_Mo_moveStep_11 h (fun f4 h => ?_)
  refine s_aln l_Mo_moveStep_12 rfl ?_
  refine s_gr l_Mo_moveStep_13 h (fun r5 h => ?_)
  refine s_bp 18 l_Mo_moveStep_16 rfl ?_
  refine s_iln l_Mo_moveStep_18 rfl ?_
  refine s_imul l_Mo_moveStep_19 ?_
  refine s_aln l_Mo_moveStep_20 rfl ?_
  refine s_gr l_Mo_moveStep_21 h (fun r6 h => ?_)
  refine s_bp 18 l_Mo_moveStep_24 rfl ?_
  refine s_iln l_Mo_moveStep_26 rfl ?_
  refine s_imul l_Mo_moveStep_27 ?_
  refine s_aln l_Mo_moveStep_28 rfl ?_
  refine s_gr l_Mo_moveStep_29 h (fun r7 h => ?_)
  refine s_iln l_Mo_moveStep_32 rfl ?_
  refine s_ial l_Mo_moveStep_33 rfl h (fun v8 h => ?_)
  refine s_csv (As := [.ref r5, .int (18 * x1), .ref r6, .int (18 * x2), .int v8]) (r := []) l_Mo_moveStep_34 rfl ⟨rfl, rfl⟩ rfl (Nat.le_of_ble_eq_true rfl) rfl ⟨Nat.zero_le _, Nat.zero_le _⟩ h (fun f10 h => ?_)
  refine s_aln l_Mo_moveStep_37 rfl ?_
  refine s_gr l_Mo_moveStep_38 h (fun r11 h => ?_)
  refine s_iln l_Mo_moveStep_41 rfl ?_
  refine s_aln l_Mo_moveStep_42 rfl ?_
  refine s_gr l_Mo_moveStep_43 h (fun r12 h => ?_)
  refine s_iln l_Mo_moveStep_46 rfl ?_
  refine s_ial l_Mo_moveStep_47 rfl h (fun v13 h => ?_)
  refine s_iast l_Mo_moveStep_48 h (fun f14 h => ?_)
  refine s_aln l_Mo_moveStep_49 rfl ?_
  refine s_gr l_Mo_moveStep_50 h (fun r15 h => ?_)
  refine s_bp 18 l_Mo_moveStep_53 rfl ?_
  refine s_iln l_Mo_moveStep_55 rfl ?_
  refine s_imul l_Mo_moveStep_56 ?_
  refine s_aln l_Mo_moveStep_57 rfl ?_
  refine s_gr l_Mo_moveStep_58 h (fun r16 h => ?_)
  refine s_bp 18 l_Mo_moveStep_61 rfl ?_
  refine s_iln l_Mo_moveStep_63 rfl ?_
  refine s_imul l_Mo_moveStep_64 ?_
  refine s_aln l_Mo_moveStep_65 rfl ?_
  refine s_gr l_Mo_moveStep_66 h (fun r17 h => ?_)
  refine s_iln l_Mo_moveStep_69 rfl ?_
  refine s_ial l_Mo_moveStep_70 rfl h (fun v18 h => ?_)
  refine s_csv (As := [.ref r15, .int (18 * x1), .ref r16, .int (18 * x2), .int v18]) (r := []) l_Mo_moveStep_71 rfl ⟨rfl, rfl⟩ rfl (Nat.le_of_ble_eq_true rfl) rfl ⟨Nat.zero_le _, Nat.zero_le _⟩ h (fun f20 h => ?_)
  refine s_aln l_Mo_moveStep_74 rfl ?_
  refine s_gr l_Mo_moveStep_75 h (fun r21 h => ?_)
  refine s_iln l_Mo_moveStep_78 rfl ?_
  refine s_aln l_Mo_moveStep_79 rfl ?_
  refine s_gr l_Mo_moveStep_80 h (fun r22 h => ?_)
  refine s_iln l_Mo_moveStep_83 rfl ?_
  refine s_ial l_Mo_moveStep_84 rfl h (fun v23 h => ?_)
  refine s_iast l_Mo_moveStep_85 h (fun f24 h => ?_)
  refine s_aln l_Mo_moveStep_86 rfl ?_
  refine s_gr l_Mo_moveStep_87 h (fun r25 h => ?_)
  refine s_iln l_Mo_moveStep_90 rfl ?_
  refine s_aln l_Mo_moveStep_91 rfl ?_
  refine s_gr l_Mo_moveStep_92 h (fun r26 h => ?_)
  refine s_iln l_Mo_moveStep_95 rfl ?_
  refine s_ial l_Mo_moveStep_96 rfl h (fun v27 h => ?_)
  refine s_iast l_Mo_moveStep_97 h (fun f28 h => ?_)
  refine s_aln l_Mo_moveStep_98 rfl ?_
  refine s_gr l_Mo_moveStep_99 h (fun r29 h => ?_)
  refine s_iln l_Mo_moveStep_102 rfl ?_
  refine s_aln l_Mo_moveStep_103 rfl ?_
  refine s_gr l_Mo_moveStep_104 h (fun r30 h => ?_)
  refine s_iln l_Mo_moveStep_107 rfl ?_
  refine s_ial l_Mo_moveStep_108 rfl h (fun v31 h => ?_)
  refine s_iast l_Mo_moveStep_109 h (fun f32 h => ?_)
  refine s_aln l_Mo_moveStep_110 rfl ?_
  refine s_gr l_Mo_moveStep_111 h (fun r33 h => ?_)
  refine s_iln l_Mo_moveStep_114 rfl ?_
  refine s_aln l_Mo_moveStep_115 rfl ?_
  refine s_gr l_Mo_moveStep_116 h (fun r34 h => ?_)
  refine s_iln l_Mo_moveStep_119 rfl ?_
  refine s_ial l_Mo_moveStep_120 rfl h (fun v35 h => ?_)
  refine s_iast l_Mo_moveStep_121 h (fun f36 h => ?_)
  refine s_aln l_Mo_moveStep_122 rfl ?_
  refine s_gr l_Mo_moveStep_123 h (fun r37 h => ?_)
  refine s_iln l_Mo_moveStep_126 rfl ?_
  refine s_aln l_Mo_moveStep_127 rfl ?_
  refine s_gr l_Mo_moveStep_128 h (fun r38 h => ?_)
  refine s_iln l_Mo_moveStep_131 rfl ?_
  refine s_ial l_Mo_moveStep_132 rfl h (fun v39 h => ?_)
  refine s_iast l_Mo_moveStep_133 h (fun f40 h => ?_)
  refine s_ic 0 l_Mo_moveStep_134 rfl ?_
  refine s_isn l_Mo_moveStep_135 (Nat.le_of_ble_eq_true rfl) ?_
  exact h
def B_Mo_moveStep_136 (d : Nat) (E : Option Value → xH → Prop) (f : xH) (a0 : Nat) (x1 : Int32) (x2 : Int32) (x3 : Int32) : Prop :=
  xbr ((48 : Int32) ≤ x3) (E none f) (xgr f a0 11 20 (fun r1 => xgr f a0 11 20 (fun r2 => xal f r2 0 ((48 * x1) + x3) (fun v3 => xas f r1 0 ((48 * x2) + x3) v3 (fun f4 => xgr f4 a0 11 21 (fun r5 => xgr f4 a0 11 21 (fun r6 => xal f4 r6 0 ((48 * x1) + x3) (fun v7 => xas f4 r5 0 ((48 * x2) + x3) v7 (fun f8 => xWp (xT0, xSp xT0 d, none, m_Mo_moveStep, E) 136 [some (.ref a0), some (.int x1), some (.int x2), some (.int (x3 + 1))] [] f8 0 0)))))))))
theorem b_Mo_moveStep_136 {d : Nat} {E : Option Value → xH → Prop} {f : xH} {a0 : Nat} {x1 : Int32} {x2 : Int32} {x3 : Int32} (h : B_Mo_moveStep_136 d E f a0 x1 x2 x3) : xWp (xT0, xSp xT0 d, none, m_Mo_moveStep, E) 136 [some (.ref a0), some (.int x1), some (.int x2), some (.int x3)] [] f 0 0 := by
  unfold B_Mo_moveStep_136 at h
  refine s_iln l_Mo_moveStep_136 rfl ?_
  refine s_bp 48 l_Mo_moveStep_137 rfl ?_
  refine s_ifc l_Mo_moveStep_139 h (fun h => ?_) (fun h => ?_)
  · exact s_ret l_Mo_moveStep_192 ⟨Nat.zero_le _, Nat.zero_le _⟩ h
  · refine s_aln l_Mo_moveStep_142 rfl ?_
    refine s_gr l_Mo_moveStep_143 h (fun r1 h => ?_)
    refine s_bp 48 l_Mo_moveStep_146 rfl ?_
    refine s_iln l_Mo_moveStep_148 rfl ?_
    refine s_imul l_Mo_moveStep_149 ?_
    refine s_iln l_Mo_moveStep_150 rfl ?_
    refine s_iadd l_Mo_moveStep_151 ?_
    refine s_aln l_Mo_moveStep_152 rfl ?_
    refine s_gr l_Mo_moveStep_153 h (fun r2 h => ?_)
    refine s_bp 48 l_Mo_moveStep_156 rfl ?_
    refine s_iln l_Mo_moveStep_158 rfl ?_
    refine s_imul l_Mo_moveStep_159 ?_
    refine s_iln l_Mo_moveStep_160 rfl ?_
    refine s_iadd l_Mo_moveStep_161 ?_
    refine s_ial l_Mo_moveStep_162 rfl h (fun v3 h => ?_)
    refine s_iast l_Mo_moveStep_163 h (fun f4 h => ?_)
    refine s_aln l_Mo_moveStep_164 rfl ?_
    refine s_gr l_Mo_moveStep_165 h (fun r5 h => ?_)
    refine s_bp 48 l_Mo_moveStep_168 rfl ?_
    refine s_iln l_Mo_moveStep_170 rfl ?_
    refine s_imul l_Mo_moveStep_171 ?_
    refine s_iln l_Mo_moveStep_172 rfl ?_
    refine s_iadd l_Mo_moveStep_173 ?_
    refine s_aln l_Mo_moveStep_174 rfl ?_
    refine s_gr l_Mo_moveStep_175 h (fun r6 h => ?_)
    refine s_bp 48 l_Mo_moveStep_178 rfl ?_
    refine s_iln l_Mo_moveStep_180 rfl ?_
    refine s_imul l_Mo_moveStep_181 ?_
    refine s_iln l_Mo_moveStep_182 rfl ?_
    refine s_iadd l_Mo_moveStep_183 ?_
    refine s_ial l_Mo_moveStep_184 rfl h (fun v7 h => ?_)
    refine s_iast l_Mo_moveStep_185 h (fun f8 h => ?_)
    refine s_inc 1 l_Mo_moveStep_186 rfl rfl ?_
    refine s_goto l_Mo_moveStep_189 ?_
    exact h
theorem l_Mo_pairSame_0 : xlk (xm_cd m_Mo_pairSame) 0 = some (.iconst 0, 1, (0, 0, 0, [])) := rfl
theorem l_Mo_pairSame_1 : xlk (xm_cd m_Mo_pairSame) 1 = some (.istore_n 3, 1, (0, 0, 0, [])) := rfl
theorem l_Mo_pairSame_2 : xlk (xm_cd m_Mo_pairSame) 2 = some (.iload_n 3, 1, (0, 0, 0, [])) := rfl
theorem l_Mo_pairSame_3 : xlk (xm_cd m_Mo_pairSame) 3 = some (.aload_n 0, 1, (0, 0, 0, [])) := rfl
theorem l_Mo_pairSame_4 : xlk (xm_cd m_Mo_pairSame) 4 = some (.getfield 33, 3, (858, 11, 9, [])) := rfl
theorem l_Mo_pairSame_7 : xlk (xm_cd m_Mo_pairSame) 7 = some (.iload_n 2, 1, (0, 0, 0, [])) := rfl
theorem l_Mo_pairSame_8 : xlk (xm_cd m_Mo_pairSame) 8 = some (.iaload, 1, (0, 0, 0, [])) := rfl
theorem l_Mo_pairSame_9 : xlk (xm_cd m_Mo_pairSame) 9 = some (.if_icmp .ge 113, 3, (0, 122, 0, [])) := rfl
theorem l_Mo_pairSame_12 : xlk (xm_cd m_Mo_pairSame) 12 = some (.iconst 0, 1, (0, 0, 0, [])) := rfl
theorem l_Mo_pairSame_13 : xlk (xm_cd m_Mo_pairSame) 13 = some (.istore 4, 2, (0, 0, 0, [])) := rfl
theorem l_Mo_pairSame_15 : xlk (xm_cd m_Mo_pairSame) 15 = some (.iload 4, 2, (0, 0, 0, [])) := rfl
theorem l_Mo_pairSame_17 : xlk (xm_cd m_Mo_pairSame) 17 = some (.aload_n 0, 1, (0, 0, 0, [])) := rfl
theorem l_Mo_pairSame_18 : xlk (xm_cd m_Mo_pairSame) 18 = some (.getfield 33, 3, (858, 11, 9, [])) := rfl
theorem l_Mo_pairSame_21 : xlk (xm_cd m_Mo_pairSame) 21 = some (.iload_n 1, 1, (0, 0, 0, [])) := rfl
theorem l_Mo_pairSame_22 : xlk (xm_cd m_Mo_pairSame) 22 = some (.iaload, 1, (0, 0, 0, [])) := rfl
theorem l_Mo_pairSame_23 : xlk (xm_cd m_Mo_pairSame) 23 = some (.if_icmp .ge 93, 3, (0, 116, 0, [])) := rfl
theorem l_Mo_pairSame_26 : xlk (xm_cd m_Mo_pairSame) 26 = some (.aload_n 0, 1, (0, 0, 0, [])) := rfl
theorem l_Mo_pairSame_27 : xlk (xm_cd m_Mo_pairSame) 27 = some (.getfield 30, 3, (857, 11, 8, [])) := rfl
theorem l_Mo_pairSame_30 : xlk (xm_cd m_Mo_pairSame) 30 = some (.iload_n 2, 1, (0, 0, 0, [])) := rfl
theorem l_Mo_pairSame_31 : xlk (xm_cd m_Mo_pairSame) 31 = some (.iload_n 3, 1, (0, 0, 0, [])) := rfl
theorem l_Mo_pairSame_32 : xlk (xm_cd m_Mo_pairSame) 32 = some (.invokestatic 155, 3, (971, 152, 2, [])) := rfl
theorem l_Mo_pairSame_35 : xlk (xm_cd m_Mo_pairSame) 35 = some (.iaload, 1, (0, 0, 0, [])) := rfl
theorem l_Mo_pairSame_36 : xlk (xm_cd m_Mo_pairSame) 36 = some (.ifCond .le 50, 3, (0, 86, 0, [])) := rfl
theorem l_Mo_pairSame_39 : xlk (xm_cd m_Mo_pairSame) 39 = some (.aload_n 0, 1, (0, 0, 0, [])) := rfl
theorem l_Mo_pairSame_40 : xlk (xm_cd m_Mo_pairSame) 40 = some (.aload_n 0, 1, (0, 0, 0, [])) := rfl
theorem l_Mo_pairSame_41 : xlk (xm_cd m_Mo_pairSame) 41 = some (.getfield 84, 3, (877, 11, 28, [])) := rfl
theorem l_Mo_pairSame_44 : xlk (xm_cd m_Mo_pairSame) 44 = some (.iload_n 3, 1, (0, 0, 0, [])) := rfl
theorem l_Mo_pairSame_45 : xlk (xm_cd m_Mo_pairSame) 45 = some (.invokevirtual 233, 3, (1068, 181, 2, [])) := rfl
theorem l_Mo_pairSame_48 : xlk (xm_cd m_Mo_pairSame) 48 = some (.ifCond .eq 38, 3, (0, 86, 0, [])) := rfl
theorem l_Mo_pairSame_51 : xlk (xm_cd m_Mo_pairSame) 51 = some (.aload_n 0, 1, (0, 0, 0, [])) := rfl
theorem l_Mo_pairSame_52 : xlk (xm_cd m_Mo_pairSame) 52 = some (.aload_n 0, 1, (0, 0, 0, [])) := rfl
theorem l_Mo_pairSame_53 : xlk (xm_cd m_Mo_pairSame) 53 = some (.getfield 81, 3, (876, 11, 27, [])) := rfl
theorem l_Mo_pairSame_56 : xlk (xm_cd m_Mo_pairSame) 56 = some (.iload 4, 2, (0, 0, 0, [])) := rfl
theorem l_Mo_pairSame_58 : xlk (xm_cd m_Mo_pairSame) 58 = some (.invokevirtual 233, 3, (1068, 181, 2, [])) := rfl
theorem l_Mo_pairSame_61 : xlk (xm_cd m_Mo_pairSame) 61 = some (.ifCond .eq 25, 3, (0, 86, 0, [])) := rfl
theorem l_Mo_pairSame_64 : xlk (xm_cd m_Mo_pairSame) 64 = some (.aload_n 0, 1, (0, 0, 0, [])) := rfl
theorem l_Mo_pairSame_65 : xlk (xm_cd m_Mo_pairSame) 65 = some (.iload_n 1, 1, (0, 0, 0, [])) := rfl
theorem l_Mo_pairSame_66 : xlk (xm_cd m_Mo_pairSame) 66 = some (.iload 4, 2, (0, 0, 0, [])) := rfl
theorem l_Mo_pairSame_68 : xlk (xm_cd m_Mo_pairSame) 68 = some (.invokestatic 155, 3, (971, 152, 2, [])) := rfl
theorem l_Mo_pairSame_71 : xlk (xm_cd m_Mo_pairSame) 71 = some (.iload_n 2, 1, (0, 0, 0, [])) := rfl
theorem l_Mo_pairSame_72 : xlk (xm_cd m_Mo_pairSame) 72 = some (.iload_n 3, 1, (0, 0, 0, [])) := rfl
theorem l_Mo_pairSame_73 : xlk (xm_cd m_Mo_pairSame) 73 = some (.invokestatic 155, 3, (971, 152, 2, [])) := rfl
theorem l_Mo_pairSame_76 : xlk (xm_cd m_Mo_pairSame) 76 = some (.invokevirtual 194, 3, (1024, 167, 2, [])) := rfl
theorem l_Mo_pairSame_79 : xlk (xm_cd m_Mo_pairSame) 79 = some (.ifCond .eq 7, 3, (0, 86, 0, [])) := rfl
theorem l_Mo_pairSame_82 : xlk (xm_cd m_Mo_pairSame) 82 = some (.iconst 1, 1, (0, 0, 0, [])) := rfl
theorem l_Mo_pairSame_83 : xlk (xm_cd m_Mo_pairSame) 83 = some (.goto 4, 3, (0, 87, 0, [])) := rfl
theorem l_Mo_pairSame_86 : xlk (xm_cd m_Mo_pairSame) 86 = some (.iconst 0, 1, (0, 0, 0, [])) := rfl
theorem l_Mo_pairSame_87 : xlk (xm_cd m_Mo_pairSame) 87 = some (.istore 5, 2, (0, 0, 0, [])) := rfl
theorem l_Mo_pairSame_89 : xlk (xm_cd m_Mo_pairSame) 89 = some (.iload 5, 2, (0, 0, 0, [])) := rfl
theorem l_Mo_pairSame_91 : xlk (xm_cd m_Mo_pairSame) 91 = some (.ifCond .eq 19, 3, (0, 110, 0, [])) := rfl
theorem l_Mo_pairSame_94 : xlk (xm_cd m_Mo_pairSame) 94 = some (.aload_n 0, 1, (0, 0, 0, [])) := rfl
theorem l_Mo_pairSame_95 : xlk (xm_cd m_Mo_pairSame) 95 = some (.getfield 84, 3, (877, 11, 28, [])) := rfl
theorem l_Mo_pairSame_98 : xlk (xm_cd m_Mo_pairSame) 98 = some (.iload_n 3, 1, (0, 0, 0, [])) := rfl
theorem l_Mo_pairSame_99 : xlk (xm_cd m_Mo_pairSame) 99 = some (.iload 4, 2, (0, 0, 0, [])) := rfl
theorem l_Mo_pairSame_101 : xlk (xm_cd m_Mo_pairSame) 101 = some (.iastore, 1, (0, 0, 0, [])) := rfl
theorem l_Mo_pairSame_102 : xlk (xm_cd m_Mo_pairSame) 102 = some (.aload_n 0, 1, (0, 0, 0, [])) := rfl
theorem l_Mo_pairSame_103 : xlk (xm_cd m_Mo_pairSame) 103 = some (.getfield 81, 3, (876, 11, 27, [])) := rfl
theorem l_Mo_pairSame_106 : xlk (xm_cd m_Mo_pairSame) 106 = some (.iload 4, 2, (0, 0, 0, [])) := rfl
theorem l_Mo_pairSame_108 : xlk (xm_cd m_Mo_pairSame) 108 = some (.iload_n 3, 1, (0, 0, 0, [])) := rfl
theorem l_Mo_pairSame_109 : xlk (xm_cd m_Mo_pairSame) 109 = some (.iastore, 1, (0, 0, 0, [])) := rfl
theorem l_Mo_pairSame_110 : xlk (xm_cd m_Mo_pairSame) 110 = some (.iinc 4 1, 3, (0, 0, 0, [])) := rfl
theorem l_Mo_pairSame_113 : xlk (xm_cd m_Mo_pairSame) 113 = some (.goto (-98), 3, (0, 15, 0, [])) := rfl
theorem l_Mo_pairSame_116 : xlk (xm_cd m_Mo_pairSame) 116 = some (.iinc 3 1, 3, (0, 0, 0, [])) := rfl
theorem l_Mo_pairSame_119 : xlk (xm_cd m_Mo_pairSame) 119 = some (.goto (-117), 3, (0, 2, 0, [])) := rfl
theorem l_Mo_pairSame_122 : xlk (xm_cd m_Mo_pairSame) 122 = some (.return_, 1, (0, 0, 0, [])) := rfl
def B_Mo_pairSame_0 (d : Nat) (E : Option Value → xH → Prop) (f : xH) (a0 : Nat) (x1 : Int32) (x2 : Int32) : Prop :=
  xWp (xT0, xSp xT0 d, none, m_Mo_pairSame, E) 2 [some (.ref a0), some (.int x1), some (.int x2), some (.int 0), none, none] [] f 0 0
theorem b_Mo_pairSame_0 {d : Nat} {E : Option Value → xH → Prop} {f : xH} {a0 : Nat} {x1 : Int32} {x2 : Int32} (h : B_Mo_pairSame_0 d E f a0 x1 x2) : xWp (xT0, xSp xT0 d, none, m_Mo_pairSame, E) 0 [some (.ref a0), some (.int x1), some (.int x2), none, none, none] [] f 0 0 := by
  unfold B_Mo_pairSame_0 at h
  refine s_ic 0 l_Mo_pairSame_0 rfl ?_
  refine s_isn l_Mo_pairSame_1 (Nat.le_of_ble_eq_true rfl) ?_
  exact h
def B_Mo_pairSame_2 (d : Nat) (E : Option Value → xH → Prop) (f : xH) (a0 : Nat) (x1 : Int32) (x2 : Int32) (x3 : Int32) (u4 : Option Value) (u5 : Option Value) : Prop :=
  xgr f a0 11 9 (fun r1 => xal f r1 0 x2 (fun v2 => xbr (v2 ≤ x3) (E none f) (xWp (xT0, xSp xT0 d, none, m_Mo_pairSame, E) 15 [some (.ref a0), some (.int x1), some (.int x2), some (.int x3), some (.int 0), u5] [] f 0 0)))
theorem b_Mo_pairSame_2 {d : Nat} {E : Option Value → xH → Prop} {f : xH} {a0 : Nat} {x1 : Int32} {x2 : Int32} {x3 : Int32} {u4 : Option Value} {u5 : Option Value} (h : B_Mo_pairSame_2 d E f a0 x1 x2 x3 u4 u5) : xWp (xT0, xSp xT0 d, none, m_Mo_pairSame, E) 2 [some (.ref a0), some (.int x1), some (.int x2), some (.int x3), u4, u5] [] f 0 0 := by
  unfold B_Mo_pairSame_2 at h
  refine s_iln l_Mo_pairSame_2 rfl ?_
  refine s_aln l_Mo_pairSame_3 rfl ?_
  refine s_gr l_Mo_pairSame_4 h (fun r1 h => ?_)
  refine s_iln l_Mo_pairSame_7 rfl ?_
  refine s_ial l_Mo_pairSame_8 rfl h (fun v2 h => ?_)
  refine s_ifc l_Mo_pairSame_9 h (fun h => ?_) (fun h => ?_)
  · exact s_ret l_Mo_pairSame_122 ⟨Nat.zero_le _, Nat.zero_le _⟩ h
  · refine s_ic 0 l_Mo_pairSame_12 rfl ?_
    refine s_is l_Mo_pairSame_13 (Nat.le_of_ble_eq_true rfl) ?_
    exact h
def B_Mo_pairSame_15 (d : Nat) (E : Option Value → xH → Prop) (f : xH) (a0 : Nat) (x1 : Int32) (x2 : Int32) (x3 : Int32) (x4 : Int32) (u5 : Option Value) : Prop :=
  xgr f a0 11 9 (fun r1 => xal f r1 0 x1 (fun v2 => xbr (v2 ≤ x4) (xWp (xT0, xSp xT0 d, none, m_Mo_pairSame, E) 2 [some (.ref a0), some (.int x1), some (.int x2), some (.int (x3 + 1)), some (.int x4), u5] [] f 0 0) (xgr f a0 11 8 (fun r3 => xSp xT0 d j_Mo_at [.int x2, .int x3] f (fun w4 f5 => xvi w4 (fun v6 => xal f5 r3 0 v6 (fun v7 => xbr (v7 ≤ 0) (xWp (xT0, xSp xT0 d, none, m_Mo_pairSame, E) 87 [some (.ref a0), some (.int x1), some (.int x2), some (.int x3), some (.int x4), u5] [.int 0] f5 0 0) (xgr f5 a0 11 28 (fun r8 => (∃ fs, f5 a0 = some (xO 11 fs)) ∧ xSp xT0 d j_Mo_isFree [.ref a0, .ref r8, .int x3] f5 (fun w9 f10 => xvi w9 (fun v11 => xbr (v11 = 0) (xWp (xT0, xSp xT0 d, none, m_Mo_pairSame, E) 87 [some (.ref a0), some (.int x1), some (.int x2), some (.int x3), some (.int x4), u5] [.int 0] f10 0 0) (xgr f10 a0 11 27 (fun r12 => (∃ fs, f10 a0 = some (xO 11 fs)) ∧ xSp xT0 d j_Mo_isFree [.ref a0, .ref r12, .int x4] f10 (fun w13 f14 => xvi w13 (fun v15 => xbr (v15 = 0) (xWp (xT0, xSp xT0 d, none, m_Mo_pairSame, E) 87 [some (.ref a0), some (.int x1), some (.int x2), some (.int x3), some (.int x4), u5] [.int 0] f14 0 0) (xSp xT0 d j_Mo_at [.int x1, .int x4] f14 (fun w16 f17 => xvi w16 (fun v18 => xSp xT0 d j_Mo_at [.int x2, .int x3] f17 (fun w19 f20 => xvi w19 (fun v21 => (∃ fs, f20 a0 = some (xO 11 fs)) ∧ xSp xT0 d j_Mo_isAlike [.ref a0, .int v18, .int v21] f20 (fun w22 f23 => xvi w22 (fun v24 => xbr (v24 = 0) (xWp (xT0, xSp xT0 d, none, m_Mo_pairSame, E) 87 [some (.ref a0), some (.int x1), some (.int x2), some (.int x3), some (.int x4), u5] [.int 0] f23 0 0) (xWp (xT0, xSp xT0 d, none, m_Mo_pairSame, E) 87 [some (.ref a0), some (.int x1), some (.int x2), some (.int x3), some (.int x4), u5] [.int 1] f23 0 0)))))))))))))))))))))))
theorem b_Mo_pairSame_15 {d : Nat} {E : Option Value → xH → Prop} {f : xH} {a0 : Nat} {x1 : Int32} {x2 : Int32} {x3 : Int32} {x4 : Int32} {u5 : Option Value} (h : B_Mo_pairSame_15 d E f a0 x1 x2 x3 x4 u5) : xWp (xT0, xSp xT0 d, none, m_Mo_pairSame, E) 15 [some (.ref a0), some (.int x1), some (.int x2), some (.int x3), some (.int x4), u5] [] f 0 0 := by
  unfold B_Mo_pairSame_15 at h
  refine s_il l_Mo_pairSame_15 rfl ?_
  refine s_aln l_Mo_pairSame_17 rfl ?_
  refine s_gr l_Mo_pairSame_18 h (fun r1 h => ?_)
  refine s_iln l_Mo_pairSame_21 rfl ?_
  refine s_ial l_Mo_pairSame_22 rfl h (fun v2 h => ?_)
  refine s_ifc l_Mo_pairSame_23 h (fun h => ?_) (fun h => ?_)
  · refine s_inc 1 l_Mo_pairSame_116 rfl rfl ?_
    refine s_goto l_Mo_pairSame_119 ?_
    exact h
  · refine s_aln l_Mo_pairSame_26 rfl ?_
    refine s_gr l_Mo_pairSame_27 h (fun r3 h => ?_)
    refine s_iln l_Mo_pairSame_30 rfl ?_
    refine s_iln l_Mo_pairSame_31 rfl ?_
    refine s_csi (As := [.int x2, .int x3]) (r := [.ref r3]) l_Mo_pairSame_32 rfl ⟨rfl, rfl⟩ rfl (Nat.le_of_ble_eq_true rfl) rfl ⟨Nat.zero_le _, Nat.zero_le _⟩ h (fun v6 f5 h => ?_)
    refine s_ial l_Mo_pairSame_35 rfl h (fun v7 h => ?_)
    refine s_if l_Mo_pairSame_36 h (fun h => ?_) (fun h => ?_)
    · refine s_ic 0 l_Mo_pairSame_86 rfl ?_
      exact h
    · refine s_aln l_Mo_pairSame_39 rfl ?_
      refine s_aln l_Mo_pairSame_40 rfl ?_
      refine s_gr l_Mo_pairSame_41 h (fun r8 h => ?_)
      refine s_iln l_Mo_pairSame_44 rfl ?_
      refine s_cvi (As := [.ref r8, .int x3]) (r := []) l_Mo_pairSame_45 rfl ⟨rfl, rfl⟩ rfl (Nat.le_of_ble_eq_true rfl) rfl ⟨Nat.zero_le _, Nat.zero_le _⟩ h (fun v11 f10 h => ?_)
      refine s_if l_Mo_pairSame_48 h (fun h => ?_) (fun h => ?_)
      · refine s_ic 0 l_Mo_pairSame_86 rfl ?_
        exact h
      · refine s_aln l_Mo_pairSame_51 rfl ?_
        refine s_aln l_Mo_pairSame_52 rfl ?_
        refine s_gr l_Mo_pairSame_53 h (fun r12 h => ?_)
        refine s_il l_Mo_pairSame_56 rfl ?_
        refine s_cvi (As := [.ref r12, .int x4]) (r := []) l_Mo_pairSame_58 rfl ⟨rfl, rfl⟩ rfl (Nat.le_of_ble_eq_true rfl) rfl ⟨Nat.zero_le _, Nat.zero_le _⟩ h (fun v15 f14 h => ?_)
        refine s_if l_Mo_pairSame_61 h (fun h => ?_) (fun h => ?_)
        · refine s_ic 0 l_Mo_pairSame_86 rfl ?_
          exact h
        · refine s_aln l_Mo_pairSame_64 rfl ?_
          refine s_iln l_Mo_pairSame_65 rfl ?_
          refine s_il l_Mo_pairSame_66 rfl ?_
          refine s_csi (As := [.int x1, .int x4]) (r := [.ref a0]) l_Mo_pairSame_68 rfl ⟨rfl, rfl⟩ rfl (Nat.le_of_ble_eq_true rfl) rfl ⟨Nat.zero_le _, Nat.zero_le _⟩ h (fun v18 f17 h => ?_)
          refine s_iln l_Mo_pairSame_71 rfl ?_
          refine s_iln l_Mo_pairSame_72 rfl ?_
          refine s_csi (As := [.int x2, .int x3]) (r := [.int v18, .ref a0]) l_Mo_pairSame_73 rfl ⟨rfl, rfl⟩ rfl (Nat.le_of_ble_eq_true rfl) rfl ⟨Nat.zero_le _, Nat.zero_le _⟩ h (fun v21 f20 h => ?_)
          refine s_cvi (As := [.int v18, .int v21]) (r := []) l_Mo_pairSame_76 rfl ⟨rfl, rfl⟩ rfl (Nat.le_of_ble_eq_true rfl) rfl ⟨Nat.zero_le _, Nat.zero_le _⟩ h (fun v24 f23 h => ?_)
          refine s_if l_Mo_pairSame_79 h (fun h => ?_) (fun h => ?_)
          · refine s_ic 0 l_Mo_pairSame_86 rfl ?_
            exact h
          · refine s_ic 1 l_Mo_pairSame_82 rfl ?_
            refine s_goto l_Mo_pairSame_83 ?_
            exact h
def B_Mo_pairSame_87 (d : Nat) (E : Option Value → xH → Prop) (f : xH) (a0 : Nat) (x1 : Int32) (x2 : Int32) (x3 : Int32) (x4 : Int32) (u5 : Option Value) (s0 : Int32) : Prop :=
  xbr (s0 = 0) (xWp (xT0, xSp xT0 d, none, m_Mo_pairSame, E) 15 [some (.ref a0), some (.int x1), some (.int x2), some (.int x3), some (.int (x4 + 1)), some (.int s0)] [] f 0 0) (xgr f a0 11 28 (fun r1 => xas f r1 0 x3 x4 (fun f2 => xgr f2 a0 11 27 (fun r3 => xas f2 r3 0 x4 x3 (fun f4 => xWp (xT0, xSp xT0 d, none, m_Mo_pairSame, E) 15 [some (.ref a0), some (.int x1), some (.int x2), some (.int x3), some (.int (x4 + 1)), some (.int s0)] [] f4 0 0)))))
theorem b_Mo_pairSame_87 {d : Nat} {E : Option Value → xH → Prop} {f : xH} {a0 : Nat} {x1 : Int32} {x2 : Int32} {x3 : Int32} {x4 : Int32} {u5 : Option Value} {s0 : Int32} (h : B_Mo_pairSame_87 d E f a0 x1 x2 x3 x4 u5 s0) : xWp (xT0, xSp xT0 d, none, m_Mo_pairSame, E) 87 [some (.ref a0), some (.int x1), some (.int x2), some (.int x3), some (.int x4), u5] [.int s0] f 0 0 := by
  unfold B_Mo_pairSame_87 at h
  refine s_is l_Mo_pairSame_87 (Nat.le_of_ble_eq_true rfl) ?_
  refine s_il l_Mo_pairSame_89 rfl ?_
  refine s_if l_Mo_pairSame_91 h (fun h => ?_) (fun h => ?_)
  · refine s_inc 1 l_Mo_pairSame_110 rfl rfl ?_
    refine s_goto l_Mo_pairSame_113 ?_
    exact h
  · refine s_aln l_Mo_pairSame_94 rfl ?_
    refine s_gr l_Mo_pairSame_95 h (fun r1 h => ?_)
    refine s_iln l_Mo_pairSame_98 rfl ?_
    refine s_il l_Mo_pairSame_99 rfl ?_
    refine s_iast l_Mo_pairSame_101 h (fun f2 h => ?_)
    refine s_aln l_Mo_pairSame_102 rfl ?_
    refine s_gr l_Mo_pairSame_103 h (fun r3 h => ?_)
    refine s_il l_Mo_pairSame_106 rfl ?_
    refine s_iln l_Mo_pairSame_108 rfl ?_
    refine s_iast l_Mo_pairSame_109 h (fun f4 h => ?_)
    refine s_inc 1 l_Mo_pairSame_110 rfl rfl ?_
    refine s_goto l_Mo_pairSame_113 ?_
    exact h
theorem l_Mo_isFree_0 : xlk (xm_cd m_Mo_isFree) 0 = some (.aload_n 1, 1, (0, 0, 0, [])) := rfl
theorem l_Mo_isFree_1 : xlk (xm_cd m_Mo_isFree) 1 = some (.iload_n 2, 1, (0, 0, 0, [])) := rfl
theorem l_Mo_isFree_2 : xlk (xm_cd m_Mo_isFree) 2 = some (.iaload, 1, (0, 0, 0, [])) := rfl
theorem l_Mo_isFree_3 : xlk (xm_cd m_Mo_isFree) 3 = some (.bipush (-2), 2, (0, 0, 0, [])) := rfl
theorem l_Mo_isFree_5 : xlk (xm_cd m_Mo_isFree) 5 = some (.if_icmp .ne 7, 3, (0, 12, 0, [])) := rfl
theorem l_Mo_isFree_8 : xlk (xm_cd m_Mo_isFree) 8 = some (.iconst 1, 1, (0, 0, 0, [])) := rfl
theorem l_Mo_isFree_9 : xlk (xm_cd m_Mo_isFree) 9 = some (.goto 4, 3, (0, 13, 0, [])) := rfl
theorem l_Mo_isFree_12 : xlk (xm_cd m_Mo_isFree) 12 = some (.iconst 0, 1, (0, 0, 0, [])) := rfl
theorem l_Mo_isFree_13 : xlk (xm_cd m_Mo_isFree) 13 = some (.ireturn, 1, (0, 0, 0, [])) := rfl
def B_Mo_isFree_0 (d : Nat) (E : Option Value → xH → Prop) (f : xH) (a0 : Nat) (a1 : Nat) (x2 : Int32) : Prop :=
  xal f a1 0 x2 (fun v1 => xbr (¬ v1 = (-2)) (E (some (.int 0)) f) (E (some (.int 1)) f))
theorem b_Mo_isFree_0 {d : Nat} {E : Option Value → xH → Prop} {f : xH} {a0 : Nat} {a1 : Nat} {x2 : Int32} (h : B_Mo_isFree_0 d E f a0 a1 x2) : xWp (xT0, xSp xT0 d, none, m_Mo_isFree, E) 0 [some (.ref a0), some (.ref a1), some (.int x2)] [] f 0 0 := by
  unfold B_Mo_isFree_0 at h
  refine s_aln l_Mo_isFree_0 rfl ?_
  refine s_iln l_Mo_isFree_1 rfl ?_
  refine s_ial l_Mo_isFree_2 rfl h (fun v1 h => ?_)
  refine s_bp (-2) l_Mo_isFree_3 rfl ?_
  refine s_ifc l_Mo_isFree_5 h (fun h => ?_) (fun h => ?_)
  · refine s_ic 0 l_Mo_isFree_12 rfl ?_
    exact s_zret l_Mo_isFree_13 rfl ⟨Nat.zero_le _, Nat.zero_le _⟩ ⟨Or.inl rfl, h⟩
  · refine s_ic 1 l_Mo_isFree_8 rfl ?_
    refine s_goto l_Mo_isFree_9 ?_
    exact s_zret l_Mo_isFree_13 rfl ⟨Nat.zero_le _, Nat.zero_le _⟩ ⟨Or.inr rfl, h⟩
theorem l_Mo_pairLike_0 : xlk (xm_cd m_Mo_pairLike) 0 = some (.sipush 599, 3, (0, 0, 0, [])) := rfl
theorem l_Mo_pairLike_3 : xlk (xm_cd m_Mo_pairLike) 3 = some (.istore 4, 2, (0, 0, 0, [])) := rfl
theorem l_Mo_pairLike_5 : xlk (xm_cd m_Mo_pairLike) 5 = some (.bipush (-2), 2, (0, 0, 0, [])) := rfl
theorem l_Mo_pairLike_7 : xlk (xm_cd m_Mo_pairLike) 7 = some (.istore 5, 2, (0, 0, 0, [])) := rfl
theorem l_Mo_pairLike_9 : xlk (xm_cd m_Mo_pairLike) 9 = some (.bipush (-2), 2, (0, 0, 0, [])) := rfl
theorem l_Mo_pairLike_11 : xlk (xm_cd m_Mo_pairLike) 11 = some (.istore 6, 2, (0, 0, 0, [])) := rfl
theorem l_Mo_pairLike_13 : xlk (xm_cd m_Mo_pairLike) 13 = some (.iconst 0, 1, (0, 0, 0, [])) := rfl
theorem l_Mo_pairLike_14 : xlk (xm_cd m_Mo_pairLike) 14 = some (.istore 7, 2, (0, 0, 0, [])) := rfl
theorem l_Mo_pairLike_16 : xlk (xm_cd m_Mo_pairLike) 16 = some (.iload 7, 2, (0, 0, 0, [])) := rfl
theorem l_Mo_pairLike_18 : xlk (xm_cd m_Mo_pairLike) 18 = some (.aload_n 0, 1, (0, 0, 0, [])) := rfl
theorem l_Mo_pairLike_19 : xlk (xm_cd m_Mo_pairLike) 19 = some (.getfield 33, 3, (858, 11, 9, [])) := rfl
theorem l_Mo_pairLike_22 : xlk (xm_cd m_Mo_pairLike) 22 = some (.iload_n 3, 1, (0, 0, 0, [])) := rfl
theorem l_Mo_pairLike_23 : xlk (xm_cd m_Mo_pairLike) 23 = some (.iaload, 1, (0, 0, 0, [])) := rfl
theorem l_Mo_pairLike_24 : xlk (xm_cd m_Mo_pairLike) 24 = some (.if_icmp .ge 92, 3, (0, 116, 0, [])) := rfl
theorem l_Mo_pairLike_27 : xlk (xm_cd m_Mo_pairLike) 27 = some (.iconst 0, 1, (0, 0, 0, [])) := rfl
theorem l_Mo_pairLike_28 : xlk (xm_cd m_Mo_pairLike) 28 = some (.istore 8, 2, (0, 0, 0, [])) := rfl
theorem l_Mo_pairLike_30 : xlk (xm_cd m_Mo_pairLike) 30 = some (.iload 8, 2, (0, 0, 0, [])) := rfl
theorem l_Mo_pairLike_32 : xlk (xm_cd m_Mo_pairLike) 32 = some (.aload_n 0, 1, (0, 0, 0, [])) := rfl
theorem l_Mo_pairLike_33 : xlk (xm_cd m_Mo_pairLike) 33 = some (.getfield 33, 3, (858, 11, 9, [])) := rfl
theorem l_Mo_pairLike_36 : xlk (xm_cd m_Mo_pairLike) 36 = some (.iload_n 2, 1, (0, 0, 0, [])) := rfl
theorem l_Mo_pairLike_37 : xlk (xm_cd m_Mo_pairLike) 37 = some (.iaload, 1, (0, 0, 0, [])) := rfl
theorem l_Mo_pairLike_38 : xlk (xm_cd m_Mo_pairLike) 38 = some (.if_icmp .ge 72, 3, (0, 110, 0, [])) := rfl
theorem l_Mo_pairLike_41 : xlk (xm_cd m_Mo_pairLike) 41 = some (.aload_n 0, 1, (0, 0, 0, [])) := rfl
theorem l_Mo_pairLike_42 : xlk (xm_cd m_Mo_pairLike) 42 = some (.aload_n 0, 1, (0, 0, 0, [])) := rfl
theorem l_Mo_pairLike_43 : xlk (xm_cd m_Mo_pairLike) 43 = some (.getfield 84, 3, (877, 11, 28, [])) := rfl
theorem l_Mo_pairLike_46 : xlk (xm_cd m_Mo_pairLike) 46 = some (.iload 7, 2, (0, 0, 0, [])) := rfl
theorem l_Mo_pairLike_48 : xlk (xm_cd m_Mo_pairLike) 48 = some (.invokevirtual 233, 3, (1068, 181, 2, [])) := rfl
theorem l_Mo_pairLike_51 : xlk (xm_cd m_Mo_pairLike) 51 = some (.ifCond .eq 53, 3, (0, 104, 0, [])) := rfl
theorem l_Mo_pairLike_54 : xlk (xm_cd m_Mo_pairLike) 54 = some (.aload_n 0, 1, (0, 0, 0, [])) := rfl
theorem l_Mo_pairLike_55 : xlk (xm_cd m_Mo_pairLike) 55 = some (.aload_n 0, 1, (0, 0, 0, [])) := rfl
theorem l_Mo_pairLike_56 : xlk (xm_cd m_Mo_pairLike) 56 = some (.getfield 81, 3, (876, 11, 27, [])) := rfl
theorem l_Mo_pairLike_59 : xlk (xm_cd m_Mo_pairLike) 59 = some (.iload 8, 2, (0, 0, 0, [])) := rfl
theorem l_Mo_pairLike_61 : xlk (xm_cd m_Mo_pairLike) 61 = some (.invokevirtual 233, 3, (1068, 181, 2, [])) := rfl
theorem l_Mo_pairLike_64 : xlk (xm_cd m_Mo_pairLike) 64 = some (.ifCond .eq 40, 3, (0, 104, 0, [])) := rfl
theorem l_Mo_pairLike_67 : xlk (xm_cd m_Mo_pairLike) 67 = some (.aload_n 0, 1, (0, 0, 0, [])) := rfl
theorem l_Mo_pairLike_68 : xlk (xm_cd m_Mo_pairLike) 68 = some (.iload_n 2, 1, (0, 0, 0, [])) := rfl
theorem l_Mo_pairLike_69 : xlk (xm_cd m_Mo_pairLike) 69 = some (.iload 8, 2, (0, 0, 0, [])) := rfl
theorem l_Mo_pairLike_71 : xlk (xm_cd m_Mo_pairLike) 71 = some (.invokestatic 155, 3, (971, 152, 2, [])) := rfl
theorem l_Mo_pairLike_74 : xlk (xm_cd m_Mo_pairLike) 74 = some (.iload_n 3, 1, (0, 0, 0, [])) := rfl
theorem l_Mo_pairLike_75 : xlk (xm_cd m_Mo_pairLike) 75 = some (.iload 7, 2, (0, 0, 0, [])) := rfl
theorem l_Mo_pairLike_77 : xlk (xm_cd m_Mo_pairLike) 77 = some (.invokestatic 155, 3, (971, 152, 2, [])) := rfl
theorem l_Mo_pairLike_80 : xlk (xm_cd m_Mo_pairLike) 80 = some (.invokevirtual 237, 3, (1074, 183, 2, [])) := rfl
theorem l_Mo_pairLike_83 : xlk (xm_cd m_Mo_pairLike) 83 = some (.istore 9, 2, (0, 0, 0, [])) := rfl
theorem l_Mo_pairLike_85 : xlk (xm_cd m_Mo_pairLike) 85 = some (.iload 9, 2, (0, 0, 0, [])) := rfl
theorem l_Mo_pairLike_87 : xlk (xm_cd m_Mo_pairLike) 87 = some (.iload 4, 2, (0, 0, 0, [])) := rfl
theorem l_Mo_pairLike_89 : xlk (xm_cd m_Mo_pairLike) 89 = some (.if_icmp .le 15, 3, (0, 104, 0, [])) := rfl
theorem l_Mo_pairLike_92 : xlk (xm_cd m_Mo_pairLike) 92 = some (.iload 9, 2, (0, 0, 0, [])) := rfl
theorem l_Mo_pairLike_94 : xlk (xm_cd m_Mo_pairLike) 94 = some (.istore 4, 2, (0, 0, 0, [])) := rfl
theorem l_Mo_pairLike_96 : xlk (xm_cd m_Mo_pairLike) 96 = some (.iload 8, 2, (0, 0, 0, [])) := rfl
theorem l_Mo_pairLike_98 : xlk (xm_cd m_Mo_pairLike) 98 = some (.istore 5, 2, (0, 0, 0, [])) := rfl
theorem l_Mo_pairLike_100 : xlk (xm_cd m_Mo_pairLike) 100 = some (.iload 7, 2, (0, 0, 0, [])) := rfl
theorem l_Mo_pairLike_102 : xlk (xm_cd m_Mo_pairLike) 102 = some (.istore 6, 2, (0, 0, 0, [])) := rfl
theorem l_Mo_pairLike_104 : xlk (xm_cd m_Mo_pairLike) 104 = some (.iinc 8 1, 3, (0, 0, 0, [])) := rfl
theorem l_Mo_pairLike_107 : xlk (xm_cd m_Mo_pairLike) 107 = some (.goto (-77), 3, (0, 30, 0, [])) := rfl
theorem l_Mo_pairLike_110 : xlk (xm_cd m_Mo_pairLike) 110 = some (.iinc 7 1, 3, (0, 0, 0, [])) := rfl
theorem l_Mo_pairLike_113 : xlk (xm_cd m_Mo_pairLike) 113 = some (.goto (-97), 3, (0, 16, 0, [])) := rfl
theorem l_Mo_pairLike_116 : xlk (xm_cd m_Mo_pairLike) 116 = some (.iload 5, 2, (0, 0, 0, [])) := rfl
theorem l_Mo_pairLike_118 : xlk (xm_cd m_Mo_pairLike) 118 = some (.bipush (-2), 2, (0, 0, 0, [])) := rfl
theorem l_Mo_pairLike_120 : xlk (xm_cd m_Mo_pairLike) 120 = some (.if_icmp .ne 5, 3, (0, 125, 0, [])) := rfl
theorem l_Mo_pairLike_123 : xlk (xm_cd m_Mo_pairLike) 123 = some (.iconst 0, 1, (0, 0, 0, [])) := rfl
theorem l_Mo_pairLike_124 : xlk (xm_cd m_Mo_pairLike) 124 = some (.ireturn, 1, (0, 0, 0, [])) := rfl
theorem l_Mo_pairLike_125 : xlk (xm_cd m_Mo_pairLike) 125 = some (.aload_n 0, 1, (0, 0, 0, [])) := rfl
theorem l_Mo_pairLike_126 : xlk (xm_cd m_Mo_pairLike) 126 = some (.getfield 84, 3, (877, 11, 28, [])) := rfl
theorem l_Mo_pairLike_129 : xlk (xm_cd m_Mo_pairLike) 129 = some (.iload 6, 2, (0, 0, 0, [])) := rfl
theorem l_Mo_pairLike_131 : xlk (xm_cd m_Mo_pairLike) 131 = some (.iload 5, 2, (0, 0, 0, [])) := rfl
theorem l_Mo_pairLike_133 : xlk (xm_cd m_Mo_pairLike) 133 = some (.iastore, 1, (0, 0, 0, [])) := rfl
theorem l_Mo_pairLike_134 : xlk (xm_cd m_Mo_pairLike) 134 = some (.aload_n 0, 1, (0, 0, 0, [])) := rfl
theorem l_Mo_pairLike_135 : xlk (xm_cd m_Mo_pairLike) 135 = some (.getfield 81, 3, (876, 11, 27, [])) := rfl
theorem l_Mo_pairLike_138 : xlk (xm_cd m_Mo_pairLike) 138 = some (.iload 5, 2, (0, 0, 0, [])) := rfl
theorem l_Mo_pairLike_140 : xlk (xm_cd m_Mo_pairLike) 140 = some (.iload 6, 2, (0, 0, 0, [])) := rfl
theorem l_Mo_pairLike_142 : xlk (xm_cd m_Mo_pairLike) 142 = some (.iastore, 1, (0, 0, 0, [])) := rfl
theorem l_Mo_pairLike_143 : xlk (xm_cd m_Mo_pairLike) 143 = some (.aload_n 0, 1, (0, 0, 0, [])) := rfl
theorem l_Mo_pairLike_144 : xlk (xm_cd m_Mo_pairLike) 144 = some (.iload_n 1, 1, (0, 0, 0, [])) := rfl
theorem l_Mo_pairLike_145 : xlk (xm_cd m_Mo_pairLike) 145 = some (.iconst 4, 1, (0, 0, 0, [])) := rfl
theorem l_Mo_pairLike_146 : xlk (xm_cd m_Mo_pairLike) 146 = some (.iload_n 2, 1, (0, 0, 0, [])) := rfl
theorem l_Mo_pairLike_147 : xlk (xm_cd m_Mo_pairLike) 147 = some (.iload 5, 2, (0, 0, 0, [])) := rfl
theorem l_Mo_pairLike_149 : xlk (xm_cd m_Mo_pairLike) 149 = some (.invokestatic 155, 3, (971, 152, 2, [])) := rfl
theorem l_Mo_pairLike_152 : xlk (xm_cd m_Mo_pairLike) 152 = some (.iload_n 3, 1, (0, 0, 0, [])) := rfl
theorem l_Mo_pairLike_153 : xlk (xm_cd m_Mo_pairLike) 153 = some (.iload 6, 2, (0, 0, 0, [])) := rfl
theorem l_Mo_pairLike_155 : xlk (xm_cd m_Mo_pairLike) 155 = some (.invokestatic 155, 3, (971, 152, 2, [])) := rfl
theorem l_Mo_pairLike_158 : xlk (xm_cd m_Mo_pairLike) 158 = some (.iconst 0, 1, (0, 0, 0, [])) := rfl
set_option maxRecDepth 20000 in
theorem l_Mo_pairLike_159 : xlk (xm_cd m_Mo_pairLike) 159 = some (.invokevirtual 240, 3, (1035, 170, 5, [])) := rfl
set_option maxRecDepth 20000 in
theorem l_Mo_pairLike_162 : xlk (xm_cd m_Mo_pairLike) 162 = some (.iconst 1, 1, (0, 0, 0, [])) := rfl
set_option maxRecDepth 20000 in
theorem l_Mo_pairLike_163 : xlk (xm_cd m_Mo_pairLike) 163 = some (.ireturn, 1, (0, 0, 0, [])) := rfl
def B_Mo_pairLike_0 (d : Nat) (E : Option Value → xH → Prop) (f : xH) (a0 : Nat) (x1 : Int32) (x2 : Int32) (x3 : Int32) : Prop :=
  xWp (xT0, xSp xT0 d, none, m_Mo_pairLike, E) 16 [some (.ref a0), some (.int x1), some (.int x2), some (.int x3), some (.int 599), some (.int (-2)), some (.int (-2)), some (.int 0), none, none] [] f 0 0
theorem b_Mo_pairLike_0 {d : Nat} {E : Option Value → xH → Prop} {f : xH} {a0 : Nat} {x1 : Int32} {x2 : Int32} {x3 : Int32} (h : B_Mo_pairLike_0 d E f a0 x1 x2 x3) : xWp (xT0, xSp xT0 d, none, m_Mo_pairLike, E) 0 [some (.ref a0), some (.int x1), some (.int x2), some (.int x3), none, none, none, none, none, none] [] f 0 0 := by
  unfold B_Mo_pairLike_0 at h
  refine s_sp 599 l_Mo_pairLike_0 rfl ?_
  refine s_is l_Mo_pairLike_3 (Nat.le_of_ble_eq_true rfl) ?_
  refine s_bp (-2) l_Mo_pairLike_5 rfl ?_
  refine s_is l_Mo_pairLike_7 (Nat.le_of_ble_eq_true rfl) ?_
  refine s_bp (-2) l_Mo_pairLike_9 rfl ?_
  refine s_is l_Mo_pairLike_11 (Nat.le_of_ble_eq_true rfl) ?_
  refine s_ic 0 l_Mo_pairLike_13 rfl ?_
  refine s_is l_Mo_pairLike_14 (Nat.le_of_ble_eq_true rfl) ?_
  exact h
def B_Mo_pairLike_16 (d : Nat) (E : Option Value → xH → Prop) (f : xH) (a0 : Nat) (x1 : Int32) (x2 : Int32) (x3 : Int32) (x4 : Int32) (x5 : Int32) (x6 : Int32) (x7 : Int32) (u8 : Option Value) (u9 : Option Value) : Prop :=
  xgr f a0 11 9 (fun r1 => xal f r1 0 x3 (fun v2 => xbr (v2 ≤ x7) (xbr (¬ x5 = (-2)) (xgr f a0 11 28 (fun r3 => xas f r3 0 x6 x5 (fun f4 => xgr f4 a0 11 27 (fun r5 => xas f4 r5 0 x5 x6 (fun f6 => xSp xT0 d j_Mo_at [.int x2, .int x5] f6 (fun w7 f8 => xvi w7 (fun v9 => xSp xT0 d j_Mo_at [.int x3, .int x6] f8 (fun w10 f11 => xvi w10 (fun v12 => (∃ fs, f11 a0 = some (xO 11 fs)) ∧ xSp xT0 d j_Mo_addStep [.ref a0, .int x1, .int 4, .int v9, .int v12, .int 0] f11 (fun w13 f14 => xvv w13 (E (some (.int 1)) f14))))))))))) (E (some (.int 0)) f)) (xWp (xT0, xSp xT0 d, none, m_Mo_pairLike, E) 30 [some (.ref a0), some (.int x1), some (.int x2), some (.int x3), some (.int x4), some (.int x5), some (.int x6), some (.int x7), some (.int 0), u9] [] f 0 0)))
theorem b_Mo_pairLike_16 {d : Nat} {E : Option Value → xH → Prop} {f : xH} {a0 : Nat} {x1 : Int32} {x2 : Int32} {x3 : Int32} {x4 : Int32} {x5 : Int32} {x6 : Int32} {x7 : Int32} {u8 : Option Value} {u9 : Option Value} (h : B_Mo_pairLike_16 d E f a0 x1 x2 x3 x4 x5 x6 x7 u8 u9) : xWp (xT0, xSp xT0 d, none, m_Mo_pairLike, E) 16 [some (.ref a0), some (.int x1), some (.int x2), some (.int x3), some (.int x4), some (.int x5), some (.int x6), some (.int x7), u8, u9] [] f 0 0 := by
  unfold B_Mo_pairLike_16 at h
  refine s_il l_Mo_pairLike_16 rfl ?_
  refine s_aln l_Mo_pairLike_18 rfl ?_
  refine s_gr l_Mo_pairLike_19 h (fun r1 h => ?_)
  refine s_iln l_Mo_pairLike_22 rfl ?_
  refine s_ial l_Mo_pairLike_23 rfl h (fun v2 h => ?_)
  refine s_ifc l_Mo_pairLike_24 h (fun h => ?_) (fun h => ?_)
  · refine s_il l_Mo_pairLike_116 rfl ?_
    refine s_bp (-2) l_Mo_pairLike_118 rfl ?_
    refine s_ifc l_Mo_pairLike_120 h (fun h => ?_) (fun h => ?_)
    · refine s_aln l_Mo_pairLike_125 rfl ?_
      refine s_gr l_Mo_pairLike_126 h (fun r3 h => ?_)
      refine s_il l_Mo_pairLike_129 rfl ?_
      refine s_il l_Mo_pairLike_131 rfl ?_
      refine s_iast l_Mo_pairLike_133 h (fun f4 h => ?_)
      refine s_aln l_Mo_pairLike_134 rfl ?_
      refine s_gr l_Mo_pairLike_135 h (fun r5 h => ?_)
      refine s_il l_Mo_pairLike_138 rfl ?_
      refine s_il l_Mo_pairLike_140 rfl ?_
      refine s_iast l_Mo_pairLike_142 h (fun f6 h => ?_)
      refine s_aln l_Mo_pairLike_143 rfl ?_
      refine s_iln l_Mo_pairLike_144 rfl ?_
      refine s_ic 4 l_Mo_pairLike_145 rfl ?_
      refine s_iln l_Mo_pairLike_146 rfl ?_
      refine s_il l_Mo_pairLike_147 rfl ?_
      refine s_csi (As := [.int x2, .int x5]) (r := [.int 4, .int x1, .ref a0]) l_Mo_pairLike_149 rfl ⟨rfl, rfl⟩ rfl (Nat.le_of_ble_eq_true rfl) rfl ⟨Nat.zero_le _, Nat.zero_le _⟩ h (fun v9 f8 h => ?_)
      refine s_iln l_Mo_pairLike_152 rfl ?_
      refine s_il l_Mo_pairLike_153 rfl ?_
      refine s_csi (As := [.int x3, .int x6]) (r := [.int v9, .int 4, .int x1, .ref a0]) l_Mo_pairLike_155 rfl ⟨rfl, rfl⟩ rfl (Nat.le_of_ble_eq_true rfl) rfl ⟨Nat.zero_le _, Nat.zero_le _⟩ h (fun v12 f11 h => ?_)
      refine s_ic 0 l_Mo_pairLike_158 rfl ?_
      refine s_cvv (As := [.int x1, .int 4, .int v9, .int v12, .int 0]) (r := []) l_Mo_pairLike_159 rfl ⟨rfl, rfl⟩ rfl (Nat.le_of_ble_eq_true rfl) rfl ⟨Nat.zero_le _, Nat.zero_le _⟩ h (fun f14 h => ?_)
      refine s_ic 1 l_Mo_pairLike_162 rfl ?_
      exact s_zret l_Mo_pairLike_163 rfl ⟨Nat.zero_le _, Nat.zero_le _⟩ ⟨Or.inr rfl, h⟩
    · refine s_ic 0 l_Mo_pairLike_123 rfl ?_
      exact s_zret l_Mo_pairLike_124 rfl ⟨Nat.zero_le _, Nat.zero_le _⟩ ⟨Or.inl rfl, h⟩
  · refine s_ic 0 l_Mo_pairLike_27 rfl ?_
    refine s_is l_Mo_pairLike_28 (Nat.le_of_ble_eq_true rfl) ?_
    exact h
def B_Mo_pairLike_30 (d : Nat) (E : Option Value → xH → Prop) (f : xH) (a0 : Nat) (x1 : Int32) (x2 : Int32) (x3 : Int32) (x4 : Int32) (x5 : Int32) (x6 : Int32) (x7 : Int32) (x8 : Int32) (u9 : Option Value) : Prop :=
  xgr f a0 11 9 (fun r1 => xal f r1 0 x2 (fun v2 => xbr (v2 ≤ x8) (xWp (xT0, xSp xT0 d, none, m_Mo_pairLike, E) 16 [some (.ref a0), some (.int x1), some (.int x2), some (.int x3), some (.int x4), some (.int x5), some (.int x6), some (.int (x7 + 1)), some (.int x8), u9] [] f 0 0) (xgr f a0 11 28 (fun r3 => (∃ fs, f a0 = some (xO 11 fs)) ∧ xSp xT0 d j_Mo_isFree [.ref a0, .ref r3, .int x7] f (fun w4 f5 => xvi w4 (fun v6 => xbr (v6 = 0) (xWp (xT0, xSp xT0 d, none, m_Mo_pairLike, E) 30 [some (.ref a0), some (.int x1), some (.int x2), some (.int x3), some (.int x4), some (.int x5), some (.int x6), some (.int x7), some (.int (x8 + 1)), u9] [] f5 0 0) (xgr f5 a0 11 27 (fun r7 => (∃ fs, f5 a0 = some (xO 11 fs)) ∧ xSp xT0 d j_Mo_isFree [.ref a0, .ref r7, .int x8] f5 (fun w8 f9 => xvi w8 (fun v10 => xbr (v10 = 0) (xWp (xT0, xSp xT0 d, none, m_Mo_pairLike, E) 30 [some (.ref a0), some (.int x1), some (.int x2), some (.int x3), some (.int x4), some (.int x5), some (.int x6), some (.int x7), some (.int (x8 + 1)), u9] [] f9 0 0) (xSp xT0 d j_Mo_at [.int x2, .int x8] f9 (fun w11 f12 => xvi w11 (fun v13 => xSp xT0 d j_Mo_at [.int x3, .int x7] f12 (fun w14 f15 => xvi w14 (fun v16 => (∃ fs, f15 a0 = some (xO 11 fs)) ∧ xSp xT0 d j_Mo_like [.ref a0, .int v13, .int v16] f15 (fun w17 f18 => xvi w17 (fun v19 => xbr (v19 ≤ x4) (xWp (xT0, xSp xT0 d, none, m_Mo_pairLike, E) 30 [some (.ref a0), some (.int x1), some (.int x2), some (.int x3), some (.int x4), some (.int x5), some (.int x6), some (.int x7), some (.int (x8 + 1)), some (.int v19)] [] f18 0 0) (xWp (xT0, xSp xT0 d, none, m_Mo_pairLike, E) 30 [some (.ref a0), some (.int x1), some (.int x2), some (.int x3), some (.int v19), some (.int x8), some (.int x7), some (.int x7), some (.int (x8 + 1)), some (.int v19)] [] f18 0 0))))))))))))))))))
theorem b_Mo_pairLike_30 {d : Nat} {E : Option Value → xH → Prop} {f : xH} {a0 : Nat} {x1 : Int32} {x2 : Int32} {x3 : Int32} {x4 : Int32} {x5 : Int32} {x6 : Int32} {x7 : Int32} {x8 : Int32} {u9 : Option Value} (h : B_Mo_pairLike_30 d E f a0 x1 x2 x3 x4 x5 x6 x7 x8 u9) : xWp (xT0, xSp xT0 d, none, m_Mo_pairLike, E) 30 [some (.ref a0), some (.int x1), some (.int x2), some (.int x3), some (.int x4), some (.int x5), some (.int x6), some (.int x7), some (.int x8), u9] [] f 0 0 := by
  unfold B_Mo_pairLike_30 at h
  refine s_il l_Mo_pairLike_30 rfl ?_
  refine s_aln l_Mo_pairLike_32 rfl ?_
  refine s_gr l_Mo_pairLike_33 h (fun r1 h => ?_)
  refine s_iln l_Mo_pairLike_36 rfl ?_
  refine s_ial l_Mo_pairLike_37 rfl h (fun v2 h => ?_)
  refine s_ifc l_Mo_pairLike_38 h (fun h => ?_) (fun h => ?_)
  · refine s_inc 1 l_Mo_pairLike_110 rfl rfl ?_
    refine s_goto l_Mo_pairLike_113 ?_
    exact h
  · refine s_aln l_Mo_pairLike_41 rfl ?_
    refine s_aln l_Mo_pairLike_42 rfl ?_
    refine s_gr l_Mo_pairLike_43 h (fun r3 h => ?_)
    refine s_il l_Mo_pairLike_46 rfl ?_
    refine s_cvi (As := [.ref r3, .int x7]) (r := []) l_Mo_pairLike_48 rfl ⟨rfl, rfl⟩ rfl (Nat.le_of_ble_eq_true rfl) rfl ⟨Nat.zero_le _, Nat.zero_le _⟩ h (fun v6 f5 h => ?_)
    refine s_if l_Mo_pairLike_51 h (fun h => ?_) (fun h => ?_)
    · refine s_inc 1 l_Mo_pairLike_104 rfl rfl ?_
      refine s_goto l_Mo_pairLike_107 ?_
      exact h
    · refine s_aln l_Mo_pairLike_54 rfl ?_
      refine s_aln l_Mo_pairLike_55 rfl ?_
      refine s_gr l_Mo_pairLike_56 h (fun r7 h => ?_)
      refine s_il l_Mo_pairLike_59 rfl ?_
      refine s_cvi (As := [.ref r7, .int x8]) (r := []) l_Mo_pairLike_61 rfl ⟨rfl, rfl⟩ rfl (Nat.le_of_ble_eq_true rfl) rfl ⟨Nat.zero_le _, Nat.zero_le _⟩ h (fun v10 f9 h => ?_)
      refine s_if l_Mo_pairLike_64 h (fun h => ?_) (fun h => ?_)
      · refine s_inc 1 l_Mo_pairLike_104 rfl rfl ?_
        refine s_goto l_Mo_pairLike_107 ?_
        exact h
      · refine s_aln l_Mo_pairLike_67 rfl ?_
        refine s_iln l_Mo_pairLike_68 rfl ?_
        refine s_il l_Mo_pairLike_69 rfl ?_
        refine s_csi (As := [.int x2, .int x8]) (r := [.ref a0]) l_Mo_pairLike_71 rfl ⟨rfl, rfl⟩ rfl (Nat.le_of_ble_eq_true rfl) rfl ⟨Nat.zero_le _, Nat.zero_le _⟩ h (fun v13 f12 h => ?_)
        refine s_iln l_Mo_pairLike_74 rfl ?_
        refine s_il l_Mo_pairLike_75 rfl ?_
        refine s_csi (As := [.int x3, .int x7]) (r := [.int v13, .ref a0]) l_Mo_pairLike_77 rfl ⟨rfl, rfl⟩ rfl (Nat.le_of_ble_eq_true rfl) rfl ⟨Nat.zero_le _, Nat.zero_le _⟩ h (fun v16 f15 h => ?_)
        refine s_cvi (As := [.int v13, .int v16]) (r := []) l_Mo_pairLike_80 rfl ⟨rfl, rfl⟩ rfl (Nat.le_of_ble_eq_true rfl) rfl ⟨Nat.zero_le _, Nat.zero_le _⟩ h (fun v19 f18 h => ?_)
        refine s_is l_Mo_pairLike_83 (Nat.le_of_ble_eq_true rfl) ?_
        refine s_il l_Mo_pairLike_85 rfl ?_
        refine s_il l_Mo_pairLike_87 rfl ?_
        refine s_ifc l_Mo_pairLike_89 h (fun h => ?_) (fun h => ?_)
        · refine s_inc 1 l_Mo_pairLike_104 rfl rfl ?_
          refine s_goto l_Mo_pairLike_107 ?_
          exact h
        · refine s_il l_Mo_pairLike_92 rfl ?_
          refine s_is l_Mo_pairLike_94 (Nat.le_of_ble_eq_true rfl) ?_
          refine s_il l_Mo_pairLike_96 rfl ?_
          refine s_is l_Mo_pairLike_98 (Nat.le_of_ble_eq_true rfl) ?_
          refine s_il l_Mo_pairLike_100 rfl ?_
          refine s_is l_Mo_pairLike_102 (Nat.le_of_ble_eq_true rfl) ?_
          refine s_inc 1 l_Mo_pairLike_104 rfl rfl ?_
          refine s_goto l_Mo_pairLike_107 ?_
          exact h
