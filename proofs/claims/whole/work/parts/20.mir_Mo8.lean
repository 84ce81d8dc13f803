/-! blocks of Mo, 8 -/
theorem l_Mo_install_0 : xlk (xm_cd m_Mo_install) 0 = some (.aload_n 0, 1, (0, 0, 0, [])) := rfl
theorem l_Mo_install_1 : xlk (xm_cd m_Mo_install) 1 = some (.iconst 0, 1, (0, 0, 0, [])) := rfl
theorem l_Mo_install_2 : xlk (xm_cd m_Mo_install) 2 = some (.putfield 1, 3, (849, 11, 0, [(0, 0)])) := rfl
theorem l_Mo_install_5 : xlk (xm_cd m_Mo_install) 5 = some (.aload_n 0, 1, (0, 0, 0, [])) := rfl
theorem l_Mo_install_6 : xlk (xm_cd m_Mo_install) 6 = some (.iload_n 1, 1, (0, 0, 0, [])) := rfl
theorem l_Mo_install_7 : xlk (xm_cd m_Mo_install) 7 = some (.invokevirtual 170, 3, (968, 151, 1, [])) := rfl
theorem l_Mo_install_10 : xlk (xm_cd m_Mo_install) 10 = some (.ifCond .eq 5, 3, (0, 15, 0, [])) := rfl
theorem l_Mo_install_13 : xlk (xm_cd m_Mo_install) 13 = some (.iconst (-1), 1, (0, 0, 0, [])) := rfl
theorem l_Mo_install_14 : xlk (xm_cd m_Mo_install) 14 = some (.ireturn, 1, (0, 0, 0, [])) := rfl
theorem l_Mo_install_15 : xlk (xm_cd m_Mo_install) 15 = some (.aload_n 0, 1, (0, 0, 0, [])) := rfl
theorem l_Mo_install_16 : xlk (xm_cd m_Mo_install) 16 = some (.getfield 334, 3, (894, 11, 45, [])) := rfl
theorem l_Mo_install_19 : xlk (xm_cd m_Mo_install) 19 = some (.ifCond .eq 6, 3, (0, 25, 0, [])) := rfl
theorem l_Mo_install_22 : xlk (xm_cd m_Mo_install) 22 = some (.bipush (-4), 2, (0, 0, 0, [])) := rfl
theorem l_Mo_install_24 : xlk (xm_cd m_Mo_install) 24 = some (.ireturn, 1, (0, 0, 0, [])) := rfl
theorem l_Mo_install_25 : xlk (xm_cd m_Mo_install) 25 = some (.aload_n 0, 1, (0, 0, 0, [])) := rfl
theorem l_Mo_install_26 : xlk (xm_cd m_Mo_install) 26 = some (.getfield 338, 3, (895, 11, 46, [])) := rfl
theorem l_Mo_install_29 : xlk (xm_cd m_Mo_install) 29 = some (.istore_n 2, 1, (0, 0, 0, [])) := rfl
theorem l_Mo_install_30 : xlk (xm_cd m_Mo_install) 30 = some (.iconst 0, 1, (0, 0, 0, [])) := rfl
theorem l_Mo_install_31 : xlk (xm_cd m_Mo_install) 31 = some (.istore_n 3, 1, (0, 0, 0, [])) := rfl
theorem l_Mo_install_32 : xlk (xm_cd m_Mo_install) 32 = some (.iload_n 3, 1, (0, 0, 0, [])) := rfl
theorem l_Mo_install_33 : xlk (xm_cd m_Mo_install) 33 = some (.aload_n 0, 1, (0, 0, 0, [])) := rfl
theorem l_Mo_install_34 : xlk (xm_cd m_Mo_install) 34 = some (.getfield 33, 3, (858, 11, 9, [])) := rfl
theorem l_Mo_install_37 : xlk (xm_cd m_Mo_install) 37 = some (.iload_n 1, 1, (0, 0, 0, [])) := rfl
theorem l_Mo_install_38 : xlk (xm_cd m_Mo_install) 38 = some (.iaload, 1, (0, 0, 0, [])) := rfl
theorem l_Mo_install_39 : xlk (xm_cd m_Mo_install) 39 = some (.if_icmp .ge 119, 3, (0, 158, 0, [])) := rfl
theorem l_Mo_install_42 : xlk (xm_cd m_Mo_install) 42 = some (.iload_n 1, 1, (0, 0, 0, [])) := rfl
theorem l_Mo_install_43 : xlk (xm_cd m_Mo_install) 43 = some (.iload_n 3, 1, (0, 0, 0, [])) := rfl
theorem l_Mo_install_44 : xlk (xm_cd m_Mo_install) 44 = some (.invokestatic 155, 3, (971, 152, 2, [])) := rfl
theorem l_Mo_install_47 : xlk (xm_cd m_Mo_install) 47 = some (.istore 4, 2, (0, 0, 0, [])) := rfl
theorem l_Mo_install_49 : xlk (xm_cd m_Mo_install) 49 = some (.aload_n 0, 1, (0, 0, 0, [])) := rfl
theorem l_Mo_install_50 : xlk (xm_cd m_Mo_install) 50 = some (.iload 4, 2, (0, 0, 0, [])) := rfl
theorem l_Mo_install_52 : xlk (xm_cd m_Mo_install) 52 = some (.invokevirtual 344, 3, (1177, 213, 1, [])) := rfl
theorem l_Mo_install_55 : xlk (xm_cd m_Mo_install) 55 = some (.istore 5, 2, (0, 0, 0, [])) := rfl
theorem l_Mo_install_57 : xlk (xm_cd m_Mo_install) 57 = some (.iload 5, 2, (0, 0, 0, [])) := rfl
theorem l_Mo_install_59 : xlk (xm_cd m_Mo_install) 59 = some (.bipush (-2), 2, (0, 0, 0, [])) := rfl
theorem l_Mo_install_61 : xlk (xm_cd m_Mo_install) 61 = some (.if_icmp .ne 83, 3, (0, 144, 0, [])) := rfl
theorem l_Mo_install_64 : xlk (xm_cd m_Mo_install) 64 = some (.iconst 0, 1, (0, 0, 0, [])) := rfl
theorem l_Mo_install_65 : xlk (xm_cd m_Mo_install) 65 = some (.istore 5, 2, (0, 0, 0, [])) := rfl
theorem l_Mo_install_67 : xlk (xm_cd m_Mo_install) 67 = some (.aload_n 0, 1, (0, 0, 0, [])) := rfl
theorem l_Mo_install_68 : xlk (xm_cd m_Mo_install) 68 = some (.iload 5, 2, (0, 0, 0, [])) := rfl
theorem l_Mo_install_70 : xlk (xm_cd m_Mo_install) 70 = some (.invokevirtual 347, 3, (1180, 214, 1, [])) := rfl
theorem l_Mo_install_73 : xlk (xm_cd m_Mo_install) 73 = some (.ifCond .ne 13, 3, (0, 86, 0, [])) := rfl
theorem l_Mo_install_76 : xlk (xm_cd m_Mo_install) 76 = some (.aload_n 0, 1, (0, 0, 0, [])) := rfl
theorem l_Mo_install_77 : xlk (xm_cd m_Mo_install) 77 = some (.iload 5, 2, (0, 0, 0, [])) := rfl
theorem l_Mo_install_79 : xlk (xm_cd m_Mo_install) 79 = some (.iload_n 3, 1, (0, 0, 0, [])) := rfl
theorem l_Mo_install_80 : xlk (xm_cd m_Mo_install) 80 = some (.invokevirtual 350, 3, (1183, 215, 2, [])) := rfl
theorem l_Mo_install_83 : xlk (xm_cd m_Mo_install) 83 = some (.ifCond .eq 9, 3, (0, 92, 0, [])) := rfl
theorem l_Mo_install_86 : xlk (xm_cd m_Mo_install) 86 = some (.iinc 5 1, 3, (0, 0, 0, [])) := rfl
theorem l_Mo_install_89 : xlk (xm_cd m_Mo_install) 89 = some (.goto (-22), 3, (0, 67, 0, [])) := rfl
theorem l_Mo_install_92 : xlk (xm_cd m_Mo_install) 92 = some (.aload_n 0, 1, (0, 0, 0, [])) := rfl
theorem l_Mo_install_93 : xlk (xm_cd m_Mo_install) 93 = some (.invokevirtual 353, 3, (1186, 216, 0, [])) := rfl
theorem l_Mo_install_96 : xlk (xm_cd m_Mo_install) 96 = some (.ifCond .ne 6, 3, (0, 102, 0, [])) := rfl
theorem l_Mo_install_99 : xlk (xm_cd m_Mo_install) 99 = some (.bipush (-4), 2, (0, 0, 0, [])) := rfl
theorem l_Mo_install_101 : xlk (xm_cd m_Mo_install) 101 = some (.ireturn, 1, (0, 0, 0, [])) := rfl
theorem l_Mo_install_102 : xlk (xm_cd m_Mo_install) 102 = some (.aload_n 0, 1, (0, 0, 0, [])) := rfl
theorem l_Mo_install_103 : xlk (xm_cd m_Mo_install) 103 = some (.getfield 27, 3, (856, 11, 7, [])) := rfl
theorem l_Mo_install_106 : xlk (xm_cd m_Mo_install) 106 = some (.bipush 48, 2, (0, 0, 0, [])) := rfl
theorem l_Mo_install_108 : xlk (xm_cd m_Mo_install) 108 = some (.iload 4, 2, (0, 0, 0, [])) := rfl
theorem l_Mo_install_110 : xlk (xm_cd m_Mo_install) 110 = some (.imul, 1, (0, 0, 0, [])) := rfl
theorem l_Mo_install_111 : xlk (xm_cd m_Mo_install) 111 = some (.aload_n 0, 1, (0, 0, 0, [])) := rfl
theorem l_Mo_install_112 : xlk (xm_cd m_Mo_install) 112 = some (.getfield 103, 3, (886, 11, 37, [])) := rfl
theorem l_Mo_install_115 : xlk (xm_cd m_Mo_install) 115 = some (.bipush 48, 2, (0, 0, 0, [])) := rfl
theorem l_Mo_install_117 : xlk (xm_cd m_Mo_install) 117 = some (.iload 5, 2, (0, 0, 0, [])) := rfl
theorem l_Mo_install_119 : xlk (xm_cd m_Mo_install) 119 = some (.imul, 1, (0, 0, 0, [])) := rfl
theorem l_Mo_install_120 : xlk (xm_cd m_Mo_install) 120 = some (.aload_n 0, 1, (0, 0, 0, [])) := rfl
theorem l_Mo_install_121 : xlk (xm_cd m_Mo_install) 121 = some (.getfield 30, 3, (857, 11, 8, [])) := rfl
theorem l_Mo_install_124 : xlk (xm_cd m_Mo_install) 124 = some (.iload 4, 2, (0, 0, 0, [])) := rfl
theorem l_Mo_install_126 : xlk (xm_cd m_Mo_install) 126 = some (.iaload, 1, (0, 0, 0, [])) := rfl
theorem l_Mo_install_127 : xlk (xm_cd m_Mo_install) 127 = some (.invokestatic 162, 3, (977, 154, 5, [])) := rfl
theorem l_Mo_install_130 : xlk (xm_cd m_Mo_install) 130 = some (.aload_n 0, 1, (0, 0, 0, [])) := rfl
theorem l_Mo_install_131 : xlk (xm_cd m_Mo_install) 131 = some (.getfield 106, 3, (887, 11, 38, [])) := rfl
theorem l_Mo_install_134 : xlk (xm_cd m_Mo_install) 134 = some (.iload 5, 2, (0, 0, 0, [])) := rfl
theorem l_Mo_install_136 : xlk (xm_cd m_Mo_install) 136 = some (.aload_n 0, 1, (0, 0, 0, [])) := rfl
theorem l_Mo_install_137 : xlk (xm_cd m_Mo_install) 137 = some (.getfield 30, 3, (857, 11, 8, [])) := rfl
theorem l_Mo_install_140 : xlk (xm_cd m_Mo_install) 140 = some (.iload 4, 2, (0, 0, 0, [])) := rfl
theorem l_Mo_install_142 : xlk (xm_cd m_Mo_install) 142 = some (.iaload, 1, (0, 0, 0, [])) := rfl
theorem l_Mo_install_143 : xlk (xm_cd m_Mo_install) 143 = some (.iastore, 1, (0, 0, 0, [])) := rfl
theorem l_Mo_install_144 : xlk (xm_cd m_Mo_install) 144 = some (.aload_n 0, 1, (0, 0, 0, [])) := rfl
theorem l_Mo_install_145 : xlk (xm_cd m_Mo_install) 145 = some (.getfield 124, 3, (896, 11, 47, [])) := rfl
theorem l_Mo_install_148 : xlk (xm_cd m_Mo_install) 148 = some (.iload_n 3, 1, (0, 0, 0, [])) := rfl
theorem l_Mo_install_149 : xlk (xm_cd m_Mo_install) 149 = some (.iload 5, 2, (0, 0, 0, [])) := rfl
set_option maxRecDepth 20000 in
theorem l_Mo_install_151 : xlk (xm_cd m_Mo_install) 151 = some (.iastore, 1, (0, 0, 0, [])) := rfl
set_option maxRecDepth 20000 in
theorem l_Mo_install_152 : xlk (xm_cd m_Mo_install) 152 = some (.iinc 3 1, 3, (0, 0, 0, [])) := rfl
set_option maxRecDepth 20000 in
theorem l_Mo_install_155 : xlk (xm_cd m_Mo_install) 155 = some (.goto (-123), 3, (0, 32, 0, [])) := rfl
set_option maxRecDepth 20000 in
theorem l_Mo_install_158 : xlk (xm_cd m_Mo_install) 158 = some (.aload_n 0, 1, (0, 0, 0, [])) := rfl
set_option maxRecDepth 20000 in
theorem l_Mo_install_159 : xlk (xm_cd m_Mo_install) 159 = some (.invokevirtual 353, 3, (1186, 216, 0, [])) := rfl
set_option maxRecDepth 20000 in
theorem l_Mo_install_162 : xlk (xm_cd m_Mo_install) 162 = some (.ifCond .ne 6, 3, (0, 168, 0, [])) := rfl
set_option maxRecDepth 20000 in
theorem l_Mo_install_165 : xlk (xm_cd m_Mo_install) 165 = some (.bipush (-4), 2, (0, 0, 0, [])) := rfl
set_option maxRecDepth 20000 in
theorem l_Mo_install_167 : xlk (xm_cd m_Mo_install) 167 = some (.ireturn, 1, (0, 0, 0, [])) := rfl
set_option maxRecDepth 20000 in
theorem l_Mo_install_168 : xlk (xm_cd m_Mo_install) 168 = some (.iconst 1, 1, (0, 0, 0, [])) := rfl
set_option maxRecDepth 20000 in
theorem l_Mo_install_169 : xlk (xm_cd m_Mo_install) 169 = some (.aload_n 0, 1, (0, 0, 0, [])) := rfl
set_option maxRecDepth 20000 in
theorem l_Mo_install_170 : xlk (xm_cd m_Mo_install) 170 = some (.getfield 341, 3, (892, 11, 43, [])) := rfl
set_option maxRecDepth 20000 in
theorem l_Mo_install_173 : xlk (xm_cd m_Mo_install) 173 = some (.isub, 1, (0, 0, 0, [])) := rfl
set_option maxRecDepth 20000 in
theorem l_Mo_install_174 : xlk (xm_cd m_Mo_install) 174 = some (.istore_n 3, 1, (0, 0, 0, [])) := rfl
set_option maxRecDepth 20000 in
theorem l_Mo_install_175 : xlk (xm_cd m_Mo_install) 175 = some (.aload_n 0, 1, (0, 0, 0, [])) := rfl
set_option maxRecDepth 20000 in
theorem l_Mo_install_176 : xlk (xm_cd m_Mo_install) 176 = some (.getfield 118, 3, (891, 11, 42, [])) := rfl
set_option maxRecDepth 20000 in
theorem l_Mo_install_179 : xlk (xm_cd m_Mo_install) 179 = some (.iload_n 3, 1, (0, 0, 0, [])) := rfl
set_option maxRecDepth 20000 in
theorem l_Mo_install_180 : xlk (xm_cd m_Mo_install) 180 = some (.aload_n 0, 1, (0, 0, 0, [])) := rfl
set_option maxRecDepth 20000 in
theorem l_Mo_install_181 : xlk (xm_cd m_Mo_install) 181 = some (.getfield 33, 3, (858, 11, 9, [])) := rfl
set_option maxRecDepth 20000 in
theorem l_Mo_install_184 : xlk (xm_cd m_Mo_install) 184 = some (.iload_n 1, 1, (0, 0, 0, [])) := rfl
set_option maxRecDepth 20000 in
theorem l_Mo_install_185 : xlk (xm_cd m_Mo_install) 185 = some (.iaload, 1, (0, 0, 0, [])) := rfl
set_option maxRecDepth 20000 in
theorem l_Mo_install_186 : xlk (xm_cd m_Mo_install) 186 = some (.iastore, 1, (0, 0, 0, [])) := rfl
set_option maxRecDepth 20000 in
theorem l_Mo_install_187 : xlk (xm_cd m_Mo_install) 187 = some (.iconst 0, 1, (0, 0, 0, [])) := rfl
set_option maxRecDepth 20000 in
theorem l_Mo_install_188 : xlk (xm_cd m_Mo_install) 188 = some (.istore 4, 2, (0, 0, 0, [])) := rfl
set_option maxRecDepth 20000 in
theorem l_Mo_install_190 : xlk (xm_cd m_Mo_install) 190 = some (.iload 4, 2, (0, 0, 0, [])) := rfl
set_option maxRecDepth 20000 in
theorem l_Mo_install_192 : xlk (xm_cd m_Mo_install) 192 = some (.aload_n 0, 1, (0, 0, 0, [])) := rfl
set_option maxRecDepth 20000 in
theorem l_Mo_install_193 : xlk (xm_cd m_Mo_install) 193 = some (.getfield 33, 3, (858, 11, 9, [])) := rfl
set_option maxRecDepth 20000 in
theorem l_Mo_install_196 : xlk (xm_cd m_Mo_install) 196 = some (.iload_n 1, 1, (0, 0, 0, [])) := rfl
set_option maxRecDepth 20000 in
theorem l_Mo_install_197 : xlk (xm_cd m_Mo_install) 197 = some (.iaload, 1, (0, 0, 0, [])) := rfl
set_option maxRecDepth 20000 in
theorem l_Mo_install_198 : xlk (xm_cd m_Mo_install) 198 = some (.if_icmp .ge 82, 3, (0, 280, 0, [])) := rfl
set_option maxRecDepth 20000 in
theorem l_Mo_install_201 : xlk (xm_cd m_Mo_install) 201 = some (.iload_n 1, 1, (0, 0, 0, [])) := rfl
set_option maxRecDepth 20000 in
theorem l_Mo_install_202 : xlk (xm_cd m_Mo_install) 202 = some (.iload 4, 2, (0, 0, 0, [])) := rfl
set_option maxRecDepth 20000 in
theorem l_Mo_install_204 : xlk (xm_cd m_Mo_install) 204 = some (.invokestatic 155, 3, (971, 152, 2, [])) := rfl
set_option maxRecDepth 20000 in
theorem l_Mo_install_207 : xlk (xm_cd m_Mo_install) 207 = some (.istore 5, 2, (0, 0, 0, [])) := rfl
set_option maxRecDepth 20000 in
theorem l_Mo_install_209 : xlk (xm_cd m_Mo_install) 209 = some (.bipush 10, 2, (0, 0, 0, [])) := rfl
set_option maxRecDepth 20000 in
theorem l_Mo_install_211 : xlk (xm_cd m_Mo_install) 211 = some (.iload_n 3, 1, (0, 0, 0, [])) := rfl
set_option maxRecDepth 20000 in
theorem l_Mo_install_212 : xlk (xm_cd m_Mo_install) 212 = some (.imul, 1, (0, 0, 0, [])) := rfl
set_option maxRecDepth 20000 in
theorem l_Mo_install_213 : xlk (xm_cd m_Mo_install) 213 = some (.iload 4, 2, (0, 0, 0, [])) := rfl
set_option maxRecDepth 20000 in
theorem l_Mo_install_215 : xlk (xm_cd m_Mo_install) 215 = some (.iadd, 1, (0, 0, 0, [])) := rfl
set_option maxRecDepth 20000 in
theorem l_Mo_install_216 : xlk (xm_cd m_Mo_install) 216 = some (.istore 6, 2, (0, 0, 0, [])) := rfl
set_option maxRecDepth 20000 in
theorem l_Mo_install_218 : xlk (xm_cd m_Mo_install) 218 = some (.aload_n 0, 1, (0, 0, 0, [])) := rfl
set_option maxRecDepth 20000 in
theorem l_Mo_install_219 : xlk (xm_cd m_Mo_install) 219 = some (.getfield 20, 3, (854, 11, 5, [])) := rfl
set_option maxRecDepth 20000 in
theorem l_Mo_install_222 : xlk (xm_cd m_Mo_install) 222 = some (.bipush 18, 2, (0, 0, 0, [])) := rfl
set_option maxRecDepth 20000 in
theorem l_Mo_install_224 : xlk (xm_cd m_Mo_install) 224 = some (.iload 5, 2, (0, 0, 0, [])) := rfl
set_option maxRecDepth 20000 in
theorem l_Mo_install_226 : xlk (xm_cd m_Mo_install) 226 = some (.imul, 1, (0, 0, 0, [])) := rfl
set_option maxRecDepth 20000 in
theorem l_Mo_install_227 : xlk (xm_cd m_Mo_install) 227 = some (.aload_n 0, 1, (0, 0, 0, [])) := rfl
set_option maxRecDepth 20000 in
theorem l_Mo_install_228 : xlk (xm_cd m_Mo_install) 228 = some (.getfield 109, 3, (888, 11, 39, [])) := rfl
set_option maxRecDepth 20000 in
theorem l_Mo_install_231 : xlk (xm_cd m_Mo_install) 231 = some (.bipush 18, 2, (0, 0, 0, [])) := rfl
set_option maxRecDepth 20000 in
theorem l_Mo_install_233 : xlk (xm_cd m_Mo_install) 233 = some (.iload 6, 2, (0, 0, 0, [])) := rfl
set_option maxRecDepth 20000 in
theorem l_Mo_install_235 : xlk (xm_cd m_Mo_install) 235 = some (.imul, 1, (0, 0, 0, [])) := rfl
set_option maxRecDepth 20000 in
theorem l_Mo_install_236 : xlk (xm_cd m_Mo_install) 236 = some (.aload_n 0, 1, (0, 0, 0, [])) := rfl
set_option maxRecDepth 20000 in
theorem l_Mo_install_237 : xlk (xm_cd m_Mo_install) 237 = some (.getfield 23, 3, (855, 11, 6, [])) := rfl
set_option maxRecDepth 20000 in
theorem l_Mo_install_240 : xlk (xm_cd m_Mo_install) 240 = some (.iload 5, 2, (0, 0, 0, [])) := rfl
set_option maxRecDepth 20000 in
theorem l_Mo_install_242 : xlk (xm_cd m_Mo_install) 242 = some (.iaload, 1, (0, 0, 0, [])) := rfl
set_option maxRecDepth 20000 in
theorem l_Mo_install_243 : xlk (xm_cd m_Mo_install) 243 = some (.invokestatic 162, 3, (977, 154, 5, [])) := rfl
set_option maxRecDepth 20000 in
theorem l_Mo_install_246 : xlk (xm_cd m_Mo_install) 246 = some (.aload_n 0, 1, (0, 0, 0, [])) := rfl
set_option maxRecDepth 20000 in
theorem l_Mo_install_247 : xlk (xm_cd m_Mo_install) 247 = some (.getfield 112, 3, (889, 11, 40, [])) := rfl
set_option maxRecDepth 20000 in
theorem l_Mo_install_250 : xlk (xm_cd m_Mo_install) 250 = some (.iload 6, 2, (0, 0, 0, [])) := rfl
set_option maxRecDepth 20000 in
theorem l_Mo_install_252 : xlk (xm_cd m_Mo_install) 252 = some (.aload_n 0, 1, (0, 0, 0, [])) := rfl
set_option maxRecDepth 20000 in
theorem l_Mo_install_253 : xlk (xm_cd m_Mo_install) 253 = some (.getfield 23, 3, (855, 11, 6, [])) := rfl
set_option maxRecDepth 20000 in
theorem l_Mo_install_256 : xlk (xm_cd m_Mo_install) 256 = some (.iload 5, 2, (0, 0, 0, [])) := rfl
set_option maxRecDepth 20000 in
theorem l_Mo_install_258 : xlk (xm_cd m_Mo_install) 258 = some (.iaload, 1, (0, 0, 0, [])) := rfl
set_option maxRecDepth 20000 in
theorem l_Mo_install_259 : xlk (xm_cd m_Mo_install) 259 = some (.iastore, 1, (0, 0, 0, [])) := rfl
set_option maxRecDepth 20000 in
theorem l_Mo_install_260 : xlk (xm_cd m_Mo_install) 260 = some (.aload_n 0, 1, (0, 0, 0, [])) := rfl
set_option maxRecDepth 20000 in
theorem l_Mo_install_261 : xlk (xm_cd m_Mo_install) 261 = some (.getfield 115, 3, (890, 11, 41, [])) := rfl
set_option maxRecDepth 20000 in
theorem l_Mo_install_264 : xlk (xm_cd m_Mo_install) 264 = some (.iload 6, 2, (0, 0, 0, [])) := rfl
set_option maxRecDepth 20000 in
theorem l_Mo_install_266 : xlk (xm_cd m_Mo_install) 266 = some (.aload_n 0, 1, (0, 0, 0, [])) := rfl
set_option maxRecDepth 20000 in
theorem l_Mo_install_267 : xlk (xm_cd m_Mo_install) 267 = some (.getfield 124, 3, (896, 11, 47, [])) := rfl
set_option maxRecDepth 20000 in
theorem l_Mo_install_270 : xlk (xm_cd m_Mo_install) 270 = some (.iload 4, 2, (0, 0, 0, [])) := rfl
set_option maxRecDepth 20000 in
theorem l_Mo_install_272 : xlk (xm_cd m_Mo_install) 272 = some (.iaload, 1, (0, 0, 0, [])) := rfl
set_option maxRecDepth 20000 in
theorem l_Mo_install_273 : xlk (xm_cd m_Mo_install) 273 = some (.iastore, 1, (0, 0, 0, [])) := rfl
set_option maxRecDepth 20000 in
theorem l_Mo_install_274 : xlk (xm_cd m_Mo_install) 274 = some (.iinc 4 1, 3, (0, 0, 0, [])) := rfl
set_option maxRecDepth 20000 in
theorem l_Mo_install_277 : xlk (xm_cd m_Mo_install) 277 = some (.goto (-87), 3, (0, 190, 0, [])) := rfl
set_option maxRecDepth 20000 in
theorem l_Mo_install_280 : xlk (xm_cd m_Mo_install) 280 = some (.aload_n 0, 1, (0, 0, 0, [])) := rfl
set_option maxRecDepth 20000 in
theorem l_Mo_install_281 : xlk (xm_cd m_Mo_install) 281 = some (.invokevirtual 353, 3, (1186, 216, 0, [])) := rfl
set_option maxRecDepth 20000 in
theorem l_Mo_install_284 : xlk (xm_cd m_Mo_install) 284 = some (.ifCond .ne 6, 3, (0, 290, 0, [])) := rfl
set_option maxRecDepth 20000 in
theorem l_Mo_install_287 : xlk (xm_cd m_Mo_install) 287 = some (.bipush (-4), 2, (0, 0, 0, [])) := rfl
set_option maxRecDepth 20000 in
theorem l_Mo_install_289 : xlk (xm_cd m_Mo_install) 289 = some (.ireturn, 1, (0, 0, 0, [])) := rfl
set_option maxRecDepth 20000 in
theorem l_Mo_install_290 : xlk (xm_cd m_Mo_install) 290 = some (.aload_n 0, 1, (0, 0, 0, [])) := rfl
set_option maxRecDepth 20000 in
theorem l_Mo_install_291 : xlk (xm_cd m_Mo_install) 291 = some (.iload_n 3, 1, (0, 0, 0, [])) := rfl
set_option maxRecDepth 20000 in
theorem l_Mo_install_292 : xlk (xm_cd m_Mo_install) 292 = some (.putfield 341, 3, (892, 11, 43, [(0, 0)])) := rfl
set_option maxRecDepth 20000 in
theorem l_Mo_install_295 : xlk (xm_cd m_Mo_install) 295 = some (.aload_n 0, 1, (0, 0, 0, [])) := rfl
set_option maxRecDepth 20000 in
theorem l_Mo_install_296 : xlk (xm_cd m_Mo_install) 296 = some (.getfield 338, 3, (895, 11, 46, [])) := rfl
set_option maxRecDepth 20000 in
theorem l_Mo_install_299 : xlk (xm_cd m_Mo_install) 299 = some (.iload_n 2, 1, (0, 0, 0, [])) := rfl
set_option maxRecDepth 20000 in
theorem l_Mo_install_300 : xlk (xm_cd m_Mo_install) 300 = some (.isub, 1, (0, 0, 0, [])) := rfl
set_option maxRecDepth 20000 in
theorem l_Mo_install_301 : xlk (xm_cd m_Mo_install) 301 = some (.ireturn, 1, (0, 0, 0, [])) := rfl
def B_Mo_install_0 (d : Nat) (E : Option Value → xH → Prop) (f : xH) (a0 : Nat) (x1 : Int32) : Prop :=
  xpf f a0 11 0 (.int 0) (fun f1 => (∃ fs, f1 a0 = some (xO 11 fs)) ∧ xSp xT0 d j_Mo_noTree [.ref a0, .int x1] f1 (fun w2 f3 => xvi w2 (fun v4 => xbr (v4 = 0) (xgi f3 a0 11 45 (fun v5 => xbr (v5 = 0) (xgi f3 a0 11 46 (fun v6 => xWp (xT0, xSp xT0 d, none, m_Mo_install, E) 32 [some (.ref a0), some (.int x1), some (.int v6), some (.int 0), none, none, none] [] f3 0 0)) (E (some (.int (-4))) f3))) (E (some (.int (-1))) f3))))
theorem b_Mo_install_0 {d : Nat} {E : Option Value → xH → Prop} {f : xH} {a0 : Nat} {x1 : Int32} (h : B_Mo_install_0 d E f a0 x1) : xWp (xT0, xSp xT0 d, none, m_Mo_install, E) 0 [some (.ref a0), some (.int x1), none, none, none, none, none] [] f 0 0 := by
  unfold B_Mo_install_0 at h
  refine s_aln l_Mo_install_0 rfl ?_
  refine s_ic 0 l_Mo_install_1 rfl ?_
  refine s_pf l_Mo_install_2 ⟨_, rfl⟩ h (fun f1 h => ?_)
  refine s_aln l_Mo_install_5 rfl ?_
  refine s_iln l_Mo_install_6 rfl ?_
  refine s_cvi (As := [.int x1]) (r := []) l_Mo_install_7 rfl ⟨rfl, rfl⟩ rfl (Nat.le_of_ble_eq_true rfl) rfl ⟨Nat.zero_le _, Nat.zero_le _⟩ h (fun v4 f3 h => ?_)
  refine s_if l_Mo_install_10 h (fun h => ?_) (fun h => ?_)
  · refine s_aln l_Mo_install_15 rfl ?_
    refine s_gi l_Mo_install_16 h (fun v5 h => ?_)
    refine s_if l_Mo_install_19 h (fun h => ?_) (fun h => ?_)
    · refine s_aln l_Mo_install_25 rfl ?_
      refine s_gi l_Mo_install_26 h (fun v6 h => ?_)
      refine s_isn l_Mo_install_29 (Nat.le_of_ble_eq_true rfl) ?_
      refine s_ic 0 l_Mo_install_30 rfl ?_
      refine s_isn l_Mo_install_31 (Nat.le_of_ble_eq_true rfl) ?_
      exact h
    · refine s_bp (-4) l_Mo_install_22 rfl ?_
      exact s_iret l_Mo_install_24 rfl ⟨Nat.zero_le _, Nat.zero_le _⟩ h
  · refine s_ic (-1) l_Mo_install_13 rfl ?_
    exact s_iret l_Mo_install_14 rfl ⟨Nat.zero_le _, Nat.zero_le _⟩ h
def B_Mo_install_32 (d : Nat) (E : Option Value → xH → Prop) (f : xH) (a0 : Nat) (x1 : Int32) (x2 : Int32) (x3 : Int32) (u4 : Option Value) (u5 : Option Value) (u6 : Option Value) : Prop :=
  xgr f a0 11 9 (fun r1 => xal f r1 0 x1 (fun v2 => xbr (v2 ≤ x3) ((∃ fs, f a0 = some (xO 11 fs)) ∧ xSp xT0 d j_Mo_mayWrite [.ref a0] f (fun w3 f4 => xvi w3 (fun v5 => xbr (¬ v5 = 0) (xgi f4 a0 11 43 (fun v6 => xgr f4 a0 11 42 (fun r7 => xgr f4 a0 11 9 (fun r8 => xal f4 r8 0 x1 (fun v9 => xas f4 r7 0 (1 - v6) v9 (fun f10 => xWp (xT0, xSp xT0 d, none, m_Mo_install, E) 190 [some (.ref a0), some (.int x1), some (.int x2), some (.int (1 - v6)), some (.int 0), u5, u6] [] f10 0 0)))))) (E (some (.int (-4))) f4)))) (xSp xT0 d j_Mo_at [.int x1, .int x3] f (fun w11 f12 => xvi w11 (fun v13 => (∃ fs, f12 a0 = some (xO 11 fs)) ∧ xSp xT0 d j_Mo_kept [.ref a0, .int v13] f12 (fun w14 f15 => xvi w14 (fun v16 => xbr (¬ v16 = (-2)) (xWp (xT0, xSp xT0 d, none, m_Mo_install, E) 144 [some (.ref a0), some (.int x1), some (.int x2), some (.int x3), some (.int v13), some (.int v16), u6] [] f15 0 0) (xWp (xT0, xSp xT0 d, none, m_Mo_install, E) 67 [some (.ref a0), some (.int x1), some (.int x2), some (.int x3), some (.int v13), some (.int 0), u6] [] f15 0 0))))))))
theorem b_Mo_install_32 {d : Nat} {E : Option Value → xH → Prop} {f : xH} {a0 : Nat} {x1 : Int32} {x2 : Int32} {x3 : Int32} {u4 : Option Value} {u5 : Option Value} {u6 : Option Value} (h : B_Mo_install_32 d E f a0 x1 x2 x3 u4 u5 u6) : xWp (xT0, xSp xT0 d, none, m_Mo_install, E) 32 [some (.ref a0), some (.int x1), some (.int x2), some (.int x3), u4, u5, u6] [] f 0 0 := by
  unfold B_Mo_install_32 at h
  refine s_iln l_Mo_install_32 rfl ?_
  refine s_aln l_Mo_install_33 rfl ?_
  refine s_gr l_Mo_install_34 h (fun r1 h => ?_)
  refine s_iln l_Mo_install_37 rfl ?_
  refine s_ial l_Mo_install_38 rfl h (fun v2 h => ?_)
  refine s_ifc l_Mo_install_39 h (fun h => ?_) (fun h => ?_)
  · refine s_aln l_Mo_install_158 rfl ?_
    refine s_cvi (As := []) (r := []) l_Mo_install_159 rfl ⟨rfl, rfl⟩ rfl (Nat.le_of_ble_eq_true rfl) rfl ⟨Nat.zero_le _, Nat.zero_le _⟩ h (fun v5 f4 h => ?_)
    refine s_if l_Mo_install_162 h (fun h => ?_) (fun h => ?_)
    · refine s_ic 1 l_Mo_install_168 rfl ?_
      refine s_aln l_Mo_install_169 rfl ?_
      refine s_gi l_Mo_install_170 h (fun v6 h => ?_)
      refine s_isub l_Mo_install_173 ?_
      refine s_isn l_Mo_install_174 (Nat.le_of_ble_eq_true rfl) ?_
      refine s_aln l_Mo_install_175 rfl ?_
      refine s_gr l_Mo_install_176 h (fun r7 h => ?_)
      refine s_iln l_Mo_install_179 rfl ?_
      refine s_aln l_Mo_install_180 rfl ?_
      refine s_gr l_Mo_install_181 h (fun r8 h => ?_)
      refine s_iln l_Mo_install_184 rfl ?_
      refine s_ial l_Mo_install_185 rfl h (fun v9 h => ?_)
      refine s_iast l_Mo_install_186 h (fun f10 h => ?_)
      refine s_ic 0 l_Mo_install_187 rfl ?_
      refine s_is l_Mo_install_188 (Nat.le_of_ble_eq_true rfl) ?_
      exact h
    · refine s_bp (-4) l_Mo_install_165 rfl ?_
      exact s_iret l_Mo_install_167 rfl ⟨Nat.zero_le _, Nat.zero_le _⟩ h
  · refine s_iln l_Mo_install_42 rfl ?_
    refine s_iln l_Mo_install_43 rfl ?_
    refine s_csi (As := [.int x1, .int x3]) (r := []) l_Mo_install_44 rfl ⟨rfl, rfl⟩ rfl (Nat.le_of_ble_eq_true rfl) rfl ⟨Nat.zero_le _, Nat.zero_le _⟩ h (fun v13 f12 h => ?_)
    refine s_is l_Mo_install_47 (Nat.le_of_ble_eq_true rfl) ?_
    refine s_aln l_Mo_install_49 rfl ?_
    refine s_il l_Mo_install_50 rfl ?_
    refine s_cvi (As := [.int v13]) (r := []) l_Mo_install_52 rfl ⟨rfl, rfl⟩ rfl (Nat.le_of_ble_eq_true rfl) rfl ⟨Nat.zero_le _, Nat.zero_le _⟩ h (fun v16 f15 h => ?_)
    refine s_is l_Mo_install_55 (Nat.le_of_ble_eq_true rfl) ?_
    refine s_il l_Mo_install_57 rfl ?_
    refine s_bp (-2) l_Mo_install_59 rfl ?_
    refine s_ifc l_Mo_install_61 h (fun h => ?_) (fun h => ?_)
    · exact h
    · refine s_ic 0 l_Mo_install_64 rfl ?_
      refine s_is l_Mo_install_65 (Nat.le_of_ble_eq_true rfl) ?_
      exact h
def B_Mo_install_67 (d : Nat) (E : Option Value → xH → Prop) (f : xH) (a0 : Nat) (x1 : Int32) (x2 : Int32) (x3 : Int32) (x4 : Int32) (x5 : Int32) (u6 : Option Value) : Prop :=
  (∃ fs, f a0 = some (xO 11 fs)) ∧ xSp xT0 d j_Mo_isInList [.ref a0, .int x5] f (fun w1 f2 => xvi w1 (fun v3 => xbr (¬ v3 = 0) (xWp (xT0, xSp xT0 d, none, m_Mo_install, E) 67 [some (.ref a0), some (.int x1), some (.int x2), some (.int x3), some (.int x4), some (.int (x5 + 1)), u6] [] f2 0 0) ((∃ fs, f2 a0 = some (xO 11 fs)) ∧ xSp xT0 d j_Mo_isChosen [.ref a0, .int x5, .int x3] f2 (fun w4 f5 => xvi w4 (fun v6 => xbr (v6 = 0) ((∃ fs, f5 a0 = some (xO 11 fs)) ∧ xSp xT0 d j_Mo_mayWrite [.ref a0] f5 (fun w7 f8 => xvi w7 (fun v9 => xbr (¬ v9 = 0) (xgr f8 a0 11 7 (fun r10 => xgr f8 a0 11 37 (fun r11 => xgr f8 a0 11 8 (fun r12 => xal f8 r12 0 x4 (fun v13 => xSp xT0 d j_Mo_move [.ref r10, .int (48 * x4), .ref r11, .int (48 * x5), .int v13] f8 (fun w14 f15 => xvv w14 (xgr f15 a0 11 38 (fun r16 => xgr f15 a0 11 8 (fun r17 => xal f15 r17 0 x4 (fun v18 => xas f15 r16 0 x5 v18 (fun f19 => xWp (xT0, xSp xT0 d, none, m_Mo_install, E) 144 [some (.ref a0), some (.int x1), some (.int x2), some (.int x3), some (.int x4), some (.int x5), u6] [] f19 0 0))))))))))) (E (some (.int (-4))) f8)))) (xWp (xT0, xSp xT0 d, none, m_Mo_install, E) 67 [some (.ref a0), some (.int x1), some (.int x2), some (.int x3), some (.int x4), some (.int (x5 + 1)), u6] [] f5 0 0))))))
theorem b_Mo_install_67 {d : Nat} {E : Option Value → xH → Prop} {f : xH} {a0 : Nat} {x1 : Int32} {x2 : Int32} {x3 : Int32} {x4 : Int32} {x5 : Int32} {u6 : Option Value} (h : B_Mo_install_67 d E f a0 x1 x2 x3 x4 x5 u6) : xWp (xT0, xSp xT0 d, none, m_Mo_install, E) 67 [some (.ref a0), some (.int x1), some (.int x2), some (.int x3), some (.int x4), some (.int x5), u6] [] f 0 0 := by
  unfold B_Mo_install_67 at h
  refine s_aln l_Mo_install_67 rfl ?_
  refine s_il l_Mo_install_68 rfl ?_
  refine s_cvi (As := [.int x5]) (r := []) l_Mo_install_70 rfl ⟨rfl, rfl⟩ rfl (Nat.le_of_ble_eq_true rfl) rfl ⟨Nat.zero_le _, Nat.zero_le _⟩ h (fun v3 f2 h => ?_)
  refine s_if l_Mo_install_73 h (fun h => ?_) (fun h => ?_)
  · refine s_inc 1 l_Mo_install_86 rfl rfl ?_
    refine s_goto l_Mo_install_89 ?_
    exact h
  · refine s_aln l_Mo_install_76 rfl ?_
    refine s_il l_Mo_install_77 rfl ?_
    refine s_iln l_Mo_install_79 rfl ?_
    refine s_cvi (As := [.int x5, .int x3]) (r := []) l_Mo_install_80 rfl ⟨rfl, rfl⟩ rfl (Nat.le_of_ble_eq_true rfl) rfl ⟨Nat.zero_le _, Nat.zero_le _⟩ h (fun v6 f5 h => ?_)
    refine s_if l_Mo_install_83 h (fun h => ?_) (fun h => ?_)
    · refine s_aln l_Mo_install_92 rfl ?_
      refine s_cvi (As := []) (r := []) l_Mo_install_93 rfl ⟨rfl, rfl⟩ rfl (Nat.le_of_ble_eq_true rfl) rfl ⟨Nat.zero_le _, Nat.zero_le _⟩ h (fun v9 f8 h => ?_)
      refine s_if l_Mo_install_96 h (fun h => ?_) (fun h => ?_)
      · refine s_aln l_Mo_install_102 rfl ?_
        refine s_gr l_Mo_install_103 h (fun r10 h => ?_)
        refine s_bp 48 l_Mo_install_106 rfl ?_
        refine s_il l_Mo_install_108 rfl ?_
        refine s_imul l_Mo_install_110 ?_
        refine s_aln l_Mo_install_111 rfl ?_
        refine s_gr l_Mo_install_112 h (fun r11 h => ?_)
        refine s_bp 48 l_Mo_install_115 rfl ?_
        refine s_il l_Mo_install_117 rfl ?_
        refine s_imul l_Mo_install_119 ?_
        refine s_aln l_Mo_install_120 rfl ?_
        refine s_gr l_Mo_install_121 h (fun r12 h => ?_)
        refine s_il l_Mo_install_124 rfl ?_
        refine s_ial l_Mo_install_126 rfl h (fun v13 h => ?_)
        refine s_csv (As := [.ref r10, .int (48 * x4), .ref r11, .int (48 * x5), .int v13]) (r := []) l_Mo_install_127 rfl ⟨rfl, rfl⟩ rfl (Nat.le_of_ble_eq_true rfl) rfl ⟨Nat.zero_le _, Nat.zero_le _⟩ h (fun f15 h => ?_)
        refine s_aln l_Mo_install_130 rfl ?_
        refine s_gr l_Mo_install_131 h (fun r16 h => ?_)
        refine s_il l_Mo_install_134 rfl ?_
        refine s_aln l_Mo_install_136 rfl ?_
        refine s_gr l_Mo_install_137 h (fun r17 h => ?_)
        refine s_il l_Mo_install_140 rfl ?_
        refine s_ial l_Mo_install_142 rfl h (fun v18 h => ?_)
        refine s_iast l_Mo_install_143 h (fun f19 h => ?_)
        exact h
      · refine s_bp (-4) l_Mo_install_99 rfl ?_
        exact s_iret l_Mo_install_101 rfl ⟨Nat.zero_le _, Nat.zero_le _⟩ h
    · refine s_inc 1 l_Mo_install_86 rfl rfl ?_
      refine s_goto l_Mo_install_89 ?_
      exact h
def B_Mo_install_144 (d : Nat) (E : Option Value → xH → Prop) (f : xH) (a0 : Nat) (x1 : Int32) (x2 : Int32) (x3 : Int32) (x4 : Int32) (x5 : Int32) (u6 : Option Value) : Prop :=
  xgr f a0 11 47 (fun r1 => xas f r1 0 x3 x5 (fun f2 => xWp (xT0, xSp xT0 d, none, m_Mo_install, E) 32 [some (.ref a0), some (.int x1), some (.int x2), some (.int (x3 + 1)), some (.int x4), some (.int x5), u6] [] f2 0 0))
theorem b_Mo_install_144 {d : Nat} {E : Option Value → xH → Prop} {f : xH} {a0 : Nat} {x1 : Int32} {x2 : Int32} {x3 : Int32} {x4 : Int32} {x5 : Int32} {u6 : Option Value} (h : B_Mo_install_144 d E f a0 x1 x2 x3 x4 x5 u6) : xWp (xT0, xSp xT0 d, none, m_Mo_install, E) 144 [some (.ref a0), some (.int x1), some (.int x2), some (.int x3), some (.int x4), some (.int x5), u6] [] f 0 0 := by
  unfold B_Mo_install_144 at h
  refine s_aln l_Mo_install_144 rfl ?_
  refine s_gr l_Mo_install_145 h (fun r1 h => ?_)
  refine s_iln l_Mo_install_148 rfl ?_
  refine s_il l_Mo_install_149 rfl ?_
  refine s_iast l_Mo_install_151 h (fun f2 h => ?_)
  refine s_inc 1 l_Mo_install_152 rfl rfl ?_
  refine s_goto l_Mo_install_155 ?_
  exact h
def B_Mo_install_190 (d : Nat) (E : Option Value → xH → Prop) (f : xH) (a0 : Nat) (x1 : Int32) (x2 : Int32) (x3 : Int32) (x4 : Int32) (u5 : Option Value) (u6 : Option Value) : Prop :=
  xgr f a0 11 9 (fun r1 => xal f r1 0 x1 (fun v2 => xbr (v2 ≤ x4) ((∃ fs, f a0 = some (xO 11 fs)) ∧ xSp xT0 d j_Mo_mayWrite [.ref a0] f (fun w3 f4 => xvi w3 (fun v5 => xbr (¬ v5 = 0) (xpf f4 a0 11 43 (.int x3) (fun f6 => xgi f6 a0 11 46 (fun v7 => E (some (.int (v7 - x2))) f6))) (E (some (.int (-4))) f4)))) (xSp xT0 d j_Mo_at [.int x1, .int x4] f (fun w8 f9 => xvi w8 (fun v10 => xgr f9 a0 11 5 (fun r11 => xgr f9 a0 11 39 (fun r12 => xgr f9 a0 11 6 (fun r13 => xal f9 r13 0 v10 (fun v14 => xSp xT0 d j_Mo_move [.ref r11, .int (18 * v10), .ref r12, .int (18 * ((10 * x3) + x4)), .int v14] f9 (fun w15 f16 => xvv w15 (xgr f16 a0 11 40 (fun r17 => xgr f16 a0 11 6 (fun r18 => xal f16 r18 0 v10 (fun v19 => xas f16 r17 0 ((10 * x3) + x4) v19 (fun f20 => xgr f20 a0 11 41 (fun r21 => xgr f20 a0 11 47 (fun r22 => xal f20 r22 0 x4 (fun v23 => xas f20 r21 0 ((10 * x3) + x4) v23 (fun f24 => xWp (xT0, xSp xT0 d, none, m_Mo_install, E) 190 [some (.ref a0), some (.int x1), some (.int x2), some (.int x3), some (.int (x4 + 1)), some (.int v10), some (.int ((10 * x3) + x4))] [] f24 0 0)))))))))))))))))))
theorem b_Mo_install_190 {d : Nat} {E : Option Value → xH → Prop} {f : xH} {a0 : Nat} {x1 : Int32} {x2 : Int32} {x3 : Int32} {x4 : Int32} {u5 : Option Value} {u6 : Option Value} (h : B_Mo_install_190 d E f a0 x1 x2 x3 x4 u5 u6) : xWp (xT0, xSp xT0 d, none, m_Mo_install, E) 190 [some (.ref a0), some (.int x1), some (.int x2), some (.int x3), some (.int x4), u5, u6] [] f 0 0 := by
  unfold B_Mo_install_190 at h
  refine s_il l_Mo_install_190 rfl ?_
  refine s_aln l_Mo_install_192 rfl ?_
  refine s_gr l_Mo_install_193 h (fun r1 h => ?_)
  refine s_iln l_Mo_install_196 rfl ?_
  refine s_ial l_Mo_install_197 rfl h (fun v2 h => ?_)
  refine s_ifc l_Mo_install_198 h (fun h => ?_) (fun h => ?_)
  · refine s_aln l_Mo_install_280 rfl ?_
    refine s_cvi (As := []) (r := []) l_Mo_install_281 rfl ⟨rfl, rfl⟩ rfl (Nat.le_of_ble_eq_true rfl) rfl ⟨Nat.zero_le _, Nat.zero_le _⟩ h (fun v5 f4 h => ?_)
    refine s_if l_Mo_install_284 h (fun h => ?_) (fun h => ?_)
    · refine s_aln l_Mo_install_290 rfl ?_
      refine s_iln l_Mo_install_291 rfl ?_
      refine s_pf l_Mo_install_292 ⟨_, rfl⟩ h (fun f6 h => ?_)
      refine s_aln l_Mo_install_295 rfl ?_
      refine s_gi l_Mo_install_296 h (fun v7 h => ?_)
      refine s_iln l_Mo_install_299 rfl ?_
      refine s_isub l_Mo_install_300 ?_
      exact s_iret l_Mo_install_301 rfl ⟨Nat.zero_le _, Nat.zero_le _⟩ h
    · refine s_bp (-4) l_Mo_install_287 rfl ?_
      exact s_iret l_Mo_install_289 rfl ⟨Nat.zero_le _, Nat.zero_le _⟩ h
  · refine s_iln l_Mo_install_201 rfl ?_
    refine s_il l_Mo_install_202 rfl ?_
    refine s_csi (As := [.int x1, .int x4]) (r := []) l_Mo_install_204 rfl ⟨rfl, rfl⟩ rfl (Nat.le_of_ble_eq_true rfl) rfl ⟨Nat.zero_le _, Nat.zero_le _⟩ h (fun v10 f9 h => ?_)
    refine s_is l_Mo_install_207 (Nat.le_of_ble_eq_true rfl) ?_
    refine s_bp 10 l_Mo_install_209 rfl ?_
    refine s_iln l_Mo_install_211 rfl ?_
    refine s_imul l_Mo_install_212 ?_
    refine s_il l_Mo_install_213 rfl ?_
    refine s_iadd l_Mo_install_215 ?_
    refine s_is l_Mo_install_216 (Nat.le_of_ble_eq_true rfl) ?_
    refine s_aln l_Mo_install_218 rfl ?_
    refine s_gr l_Mo_install_219 h (fun r11 h => ?_)
    refine s_bp 18 l_Mo_install_222 rfl ?_
    refine s_il l_Mo_install_224 rfl ?_
    refine s_imul l_Mo_install_226 ?_
    refine s_aln l_Mo_install_227 rfl ?_
    refine s_gr l_Mo_install_228 h (fun r12 h => ?_)
    refine s_bp 18 l_Mo_install_231 rfl ?_
    refine s_il l_Mo_install_233 rfl ?_
    refine s_imul l_Mo_install_235 ?_
    refine s_aln l_Mo_install_236 rfl ?_
    refine s_gr l_Mo_install_237 h (fun r13 h => ?_)
    refine s_il l_Mo_install_240 rfl ?_
    refine s_ial l_Mo_install_242 rfl h (fun v14 h => ?_)
    refine s_csv (As := [.ref r11, .int (18 * v10), .ref r12, .int (18 * ((10 * x3) + x4)), .int v14]) (r := []) l_Mo_install_243 rfl ⟨rfl, rfl⟩ rfl (Nat.le_of_ble_eq_true rfl) rfl ⟨Nat.zero_le _, Nat.zero_le _⟩ h (fun f16 h => ?_)
    refine s_aln l_Mo_install_246 rfl ?_
    refine s_gr l_Mo_install_247 h (fun r17 h => ?_)
    refine s_il l_Mo_install_250 rfl ?_
    refine s_aln l_Mo_install_252 rfl ?_
    refine s_gr l_Mo_install_253 h (fun r18 h => ?_)
    refine s_il l_Mo_install_256 rfl ?_
    refine s_ial l_Mo_install_258 rfl h (fun v19 h => ?_)
    refine s_iast l_Mo_install_259 h (fun f20 h => ?_)
    refine s_aln l_Mo_install_260 rfl ?_
    refine s_gr l_Mo_install_261 h (fun r21 h => ?_)
    refine s_il l_Mo_install_264 rfl ?_
    refine s_aln l_Mo_install_266 rfl ?_
    refine s_gr l_Mo_install_267 h (fun r22 h => ?_)
    refine s_il l_Mo_install_270 rfl ?_
    refine s_ial l_Mo_install_272 rfl h (fun v23 h => ?_)
    refine s_iast l_Mo_install_273 h (fun f24 h => ?_)
    refine s_inc 1 l_Mo_install_274 rfl rfl ?_
    refine s_goto l_Mo_install_277 ?_
    exact h
theorem l_Mo_kept_0 : xlk (xm_cd m_Mo_kept) 0 = some (.iconst 0, 1, (0, 0, 0, [])) := rfl
theorem l_Mo_kept_1 : xlk (xm_cd m_Mo_kept) 1 = some (.istore_n 2, 1, (0, 0, 0, [])) := rfl
theorem l_Mo_kept_2 : xlk (xm_cd m_Mo_kept) 2 = some (.iload_n 2, 1, (0, 0, 0, [])) := rfl
theorem l_Mo_kept_3 : xlk (xm_cd m_Mo_kept) 3 = some (.aload_n 0, 1, (0, 0, 0, [])) := rfl
theorem l_Mo_kept_4 : xlk (xm_cd m_Mo_kept) 4 = some (.getfield 118, 3, (891, 11, 42, [])) := rfl
theorem l_Mo_kept_7 : xlk (xm_cd m_Mo_kept) 7 = some (.aload_n 0, 1, (0, 0, 0, [])) := rfl
theorem l_Mo_kept_8 : xlk (xm_cd m_Mo_kept) 8 = some (.getfield 341, 3, (892, 11, 43, [])) := rfl
theorem l_Mo_kept_11 : xlk (xm_cd m_Mo_kept) 11 = some (.iaload, 1, (0, 0, 0, [])) := rfl
theorem l_Mo_kept_12 : xlk (xm_cd m_Mo_kept) 12 = some (.if_icmp .ge 100, 3, (0, 112, 0, [])) := rfl
theorem l_Mo_kept_15 : xlk (xm_cd m_Mo_kept) 15 = some (.bipush 10, 2, (0, 0, 0, [])) := rfl
theorem l_Mo_kept_17 : xlk (xm_cd m_Mo_kept) 17 = some (.aload_n 0, 1, (0, 0, 0, [])) := rfl
theorem l_Mo_kept_18 : xlk (xm_cd m_Mo_kept) 18 = some (.getfield 341, 3, (892, 11, 43, [])) := rfl
theorem l_Mo_kept_21 : xlk (xm_cd m_Mo_kept) 21 = some (.imul, 1, (0, 0, 0, [])) := rfl
theorem l_Mo_kept_22 : xlk (xm_cd m_Mo_kept) 22 = some (.iload_n 2, 1, (0, 0, 0, [])) := rfl
theorem l_Mo_kept_23 : xlk (xm_cd m_Mo_kept) 23 = some (.iadd, 1, (0, 0, 0, [])) := rfl
theorem l_Mo_kept_24 : xlk (xm_cd m_Mo_kept) 24 = some (.istore_n 3, 1, (0, 0, 0, [])) := rfl
theorem l_Mo_kept_25 : xlk (xm_cd m_Mo_kept) 25 = some (.aload_n 0, 1, (0, 0, 0, [])) := rfl
theorem l_Mo_kept_26 : xlk (xm_cd m_Mo_kept) 26 = some (.getfield 115, 3, (890, 11, 41, [])) := rfl
theorem l_Mo_kept_29 : xlk (xm_cd m_Mo_kept) 29 = some (.iload_n 3, 1, (0, 0, 0, [])) := rfl
theorem l_Mo_kept_30 : xlk (xm_cd m_Mo_kept) 30 = some (.iaload, 1, (0, 0, 0, [])) := rfl
theorem l_Mo_kept_31 : xlk (xm_cd m_Mo_kept) 31 = some (.istore 4, 2, (0, 0, 0, [])) := rfl
theorem l_Mo_kept_33 : xlk (xm_cd m_Mo_kept) 33 = some (.aload_n 0, 1, (0, 0, 0, [])) := rfl
theorem l_Mo_kept_34 : xlk (xm_cd m_Mo_kept) 34 = some (.getfield 109, 3, (888, 11, 39, [])) := rfl
theorem l_Mo_kept_37 : xlk (xm_cd m_Mo_kept) 37 = some (.bipush 18, 2, (0, 0, 0, [])) := rfl
theorem l_Mo_kept_39 : xlk (xm_cd m_Mo_kept) 39 = some (.iload_n 3, 1, (0, 0, 0, [])) := rfl
theorem l_Mo_kept_40 : xlk (xm_cd m_Mo_kept) 40 = some (.imul, 1, (0, 0, 0, [])) := rfl
theorem l_Mo_kept_41 : xlk (xm_cd m_Mo_kept) 41 = some (.aload_n 0, 1, (0, 0, 0, [])) := rfl
theorem l_Mo_kept_42 : xlk (xm_cd m_Mo_kept) 42 = some (.getfield 112, 3, (889, 11, 40, [])) := rfl
theorem l_Mo_kept_45 : xlk (xm_cd m_Mo_kept) 45 = some (.iload_n 3, 1, (0, 0, 0, [])) := rfl
theorem l_Mo_kept_46 : xlk (xm_cd m_Mo_kept) 46 = some (.iaload, 1, (0, 0, 0, [])) := rfl
theorem l_Mo_kept_47 : xlk (xm_cd m_Mo_kept) 47 = some (.aload_n 0, 1, (0, 0, 0, [])) := rfl
theorem l_Mo_kept_48 : xlk (xm_cd m_Mo_kept) 48 = some (.getfield 20, 3, (854, 11, 5, [])) := rfl
theorem l_Mo_kept_51 : xlk (xm_cd m_Mo_kept) 51 = some (.bipush 18, 2, (0, 0, 0, [])) := rfl
theorem l_Mo_kept_53 : xlk (xm_cd m_Mo_kept) 53 = some (.iload_n 1, 1, (0, 0, 0, [])) := rfl
theorem l_Mo_kept_54 : xlk (xm_cd m_Mo_kept) 54 = some (.imul, 1, (0, 0, 0, [])) := rfl
theorem l_Mo_kept_55 : xlk (xm_cd m_Mo_kept) 55 = some (.aload_n 0, 1, (0, 0, 0, [])) := rfl
theorem l_Mo_kept_56 : xlk (xm_cd m_Mo_kept) 56 = some (.getfield 23, 3, (855, 11, 6, [])) := rfl
theorem l_Mo_kept_59 : xlk (xm_cd m_Mo_kept) 59 = some (.iload_n 1, 1, (0, 0, 0, [])) := rfl
theorem l_Mo_kept_60 : xlk (xm_cd m_Mo_kept) 60 = some (.iaload, 1, (0, 0, 0, [])) := rfl
theorem l_Mo_kept_61 : xlk (xm_cd m_Mo_kept) 61 = some (.invokestatic 143, 3, (987, 157, 6, [])) := rfl
theorem l_Mo_kept_64 : xlk (xm_cd m_Mo_kept) 64 = some (.ifCond .ne 42, 3, (0, 106, 0, [])) := rfl
theorem l_Mo_kept_67 : xlk (xm_cd m_Mo_kept) 67 = some (.aload_n 0, 1, (0, 0, 0, [])) := rfl
theorem l_Mo_kept_68 : xlk (xm_cd m_Mo_kept) 68 = some (.getfield 103, 3, (886, 11, 37, [])) := rfl
theorem l_Mo_kept_71 : xlk (xm_cd m_Mo_kept) 71 = some (.bipush 48, 2, (0, 0, 0, [])) := rfl
theorem l_Mo_kept_73 : xlk (xm_cd m_Mo_kept) 73 = some (.iload 4, 2, (0, 0, 0, [])) := rfl
theorem l_Mo_kept_75 : xlk (xm_cd m_Mo_kept) 75 = some (.imul, 1, (0, 0, 0, [])) := rfl
theorem l_Mo_kept_76 : xlk (xm_cd m_Mo_kept) 76 = some (.aload_n 0, 1, (0, 0, 0, [])) := rfl
theorem l_Mo_kept_77 : xlk (xm_cd m_Mo_kept) 77 = some (.getfield 106, 3, (887, 11, 38, [])) := rfl
theorem l_Mo_kept_80 : xlk (xm_cd m_Mo_kept) 80 = some (.iload 4, 2, (0, 0, 0, [])) := rfl
theorem l_Mo_kept_82 : xlk (xm_cd m_Mo_kept) 82 = some (.iaload, 1, (0, 0, 0, [])) := rfl
theorem l_Mo_kept_83 : xlk (xm_cd m_Mo_kept) 83 = some (.aload_n 0, 1, (0, 0, 0, [])) := rfl
theorem l_Mo_kept_84 : xlk (xm_cd m_Mo_kept) 84 = some (.getfield 27, 3, (856, 11, 7, [])) := rfl
theorem l_Mo_kept_87 : xlk (xm_cd m_Mo_kept) 87 = some (.bipush 48, 2, (0, 0, 0, [])) := rfl
theorem l_Mo_kept_89 : xlk (xm_cd m_Mo_kept) 89 = some (.iload_n 1, 1, (0, 0, 0, [])) := rfl
theorem l_Mo_kept_90 : xlk (xm_cd m_Mo_kept) 90 = some (.imul, 1, (0, 0, 0, [])) := rfl
theorem l_Mo_kept_91 : xlk (xm_cd m_Mo_kept) 91 = some (.aload_n 0, 1, (0, 0, 0, [])) := rfl
theorem l_Mo_kept_92 : xlk (xm_cd m_Mo_kept) 92 = some (.getfield 30, 3, (857, 11, 8, [])) := rfl
theorem l_Mo_kept_95 : xlk (xm_cd m_Mo_kept) 95 = some (.iload_n 1, 1, (0, 0, 0, [])) := rfl
theorem l_Mo_kept_96 : xlk (xm_cd m_Mo_kept) 96 = some (.iaload, 1, (0, 0, 0, [])) := rfl
theorem l_Mo_kept_97 : xlk (xm_cd m_Mo_kept) 97 = some (.invokestatic 143, 3, (987, 157, 6, [])) := rfl
theorem l_Mo_kept_100 : xlk (xm_cd m_Mo_kept) 100 = some (.ifCond .ne 6, 3, (0, 106, 0, [])) := rfl
theorem l_Mo_kept_103 : xlk (xm_cd m_Mo_kept) 103 = some (.iload 4, 2, (0, 0, 0, [])) := rfl
theorem l_Mo_kept_105 : xlk (xm_cd m_Mo_kept) 105 = some (.ireturn, 1, (0, 0, 0, [])) := rfl
theorem l_Mo_kept_106 : xlk (xm_cd m_Mo_kept) 106 = some (.iinc 2 1, 3, (0, 0, 0, [])) := rfl
theorem l_Mo_kept_109 : xlk (xm_cd m_Mo_kept) 109 = some (.goto (-107), 3, (0, 2, 0, [])) := rfl
theorem l_Mo_kept_112 : xlk (xm_cd m_Mo_kept) 112 = some (.bipush (-2), 2, (0, 0, 0, [])) := rfl
theorem l_Mo_kept_114 : xlk (xm_cd m_Mo_kept) 114 = some (.ireturn, 1, (0, 0, 0, [])) := rfl
def B_Mo_kept_0 (d : Nat) (E : Option Value → xH → Prop) (f : xH) (a0 : Nat) (x1 : Int32) : Prop :=
  xWp (xT0, xSp xT0 d, none, m_Mo_kept, E) 2 [some (.ref a0), some (.int x1), some (.int 0), none, none] [] f 0 0
theorem b_Mo_kept_0 {d : Nat} {E : Option Value → xH → Prop} {f : xH} {a0 : Nat} {x1 : Int32} (h : B_Mo_kept_0 d E f a0 x1) : xWp (xT0, xSp xT0 d, none, m_Mo_kept, E) 0 [some (.ref a0), some (.int x1), none, none, none] [] f 0 0 := by
  unfold B_Mo_kept_0 at h
  refine s_ic 0 l_Mo_kept_0 rfl ?_
  refine s_isn l_Mo_kept_1 (Nat.le_of_ble_eq_true rfl) ?_
  exact h
def B_Mo_kept_2 (d : Nat) (E : Option Value → xH → Prop) (f : xH) (a0 : Nat) (x1 : Int32) (x2 : Int32) (u3 : Option Value) (u4 : Option Value) : Prop :=
  xgr f a0 11 42 (fun r1 => xgi f a0 11 43 (fun v2 => xal f r1 0 v2 (fun v3 => xbr (v3 ≤ x2) (E (some (.int (-2))) f) (xgi f a0 11 43 (fun v4 => xgr f a0 11 41 (fun r5 => xal f r5 0 ((10 * v4) + x2) (fun v6 => xgr f a0 11 39 (fun r7 => xgr f a0 11 40 (fun r8 => xal f r8 0 ((10 * v4) + x2) (fun v9 => xgr f a0 11 5 (fun r10 => xgr f a0 11 6 (fun r11 => xal f r11 0 x1 (fun v12 => xSp xT0 d j_Mo_order [.ref r7, .int (18 * ((10 * v4) + x2)), .int v9, .ref r10, .int (18 * x1), .int v12] f (fun w13 f14 => xvi w13 (fun v15 => xbr (¬ v15 = 0) (xWp (xT0, xSp xT0 d, none, m_Mo_kept, E) 2 [some (.ref a0), some (.int x1), some (.int (x2 + 1)), some (.int ((10 * v4) + x2)), some (.int v6)] [] f14 0 0) (xgr f14 a0 11 37 (fun r16 => xgr f14 a0 11 38 (fun r17 => xal f14 r17 0 v6 (fun v18 => xgr f14 a0 11 7 (fun r19 => xgr f14 a0 11 8 (fun r20 => xal f14 r20 0 x1 (fun v21 => xSp xT0 d j_Mo_order [.ref r16, .int (48 * v6), .int v18, .ref r19, .int (48 * x1), .int v21] f14 (fun w22 f23 => xvi w22 (fun v24 => xbr (¬ v24 = 0) (xWp (xT0, xSp xT0 d, none, m_Mo_kept, E) 2 [some (.ref a0), some (.int x1), some (.int (x2 + 1)), some (.int ((10 * v4) + x2)), some (.int v6)] [] f23 0 0) (E (some (.int v6)) f23)))))))))))))))))))))))))
theorem b_Mo_kept_2 {d : Nat} {E : Option Value → xH → Prop} {f : xH} {a0 : Nat} {x1 : Int32} {x2 : Int32} {u3 : Option Value} {u4 : Option Value} (h : B_Mo_kept_2 d E f a0 x1 x2 u3 u4) : xWp (xT0, xSp xT0 d, none, m_Mo_kept, E) 2 [some (.ref a0), some (.int x1), some (.int x2), u3, u4] [] f 0 0 := by
  unfold B_Mo_kept_2 at h
  refine s_iln l_Mo_kept_2 rfl ?_
  refine s_aln l_Mo_kept_3 rfl ?_
  refine s_gr l_Mo_kept_4 h (fun r1 h => ?_)
  refine s_aln l_Mo_kept_7 rfl ?_
  refine s_gi l_Mo_kept_8 h (fun v2 h => ?_)
  refine s_ial l_Mo_kept_11 rfl h (fun v3 h => ?_)
  refine s_ifc l_Mo_kept_12 h (fun h => ?_) (fun h => ?_)
  · refine s_bp (-2) l_Mo_kept_112 rfl ?_
    exact s_iret l_Mo_kept_114 rfl ⟨Nat.zero_le _, Nat.zero_le _⟩ h
  · refine s_bp 10 l_Mo_kept_15 rfl ?_
    refine s_aln l_Mo_kept_17 rfl ?_
    refine s_gi l_Mo_kept_18 h (fun v4 h => ?_)
    refine s_imul l_Mo_kept_21 ?_
    refine s_iln l_Mo_kept_22 rfl ?_
    refine s_iadd l_Mo_kept_23 ?_
    refine s_isn l_Mo_kept_24 (Nat.le_of_ble_eq_true rfl) ?_
    refine s_aln l_Mo_kept_25 rfl ?_
    refine s_gr l_Mo_kept_26 h (fun r5 h => ?_)
    refine s_iln l_Mo_kept_29 rfl ?_
    refine s_ial l_Mo_kept_30 rfl h (fun v6 h => ?_)
    refine s_is l_Mo_kept_31 (Nat.le_of_ble_eq_true rfl) ?_
    refine s_aln l_Mo_kept_33 rfl ?_
    refine s_gr l_Mo_kept_34 h (fun r7 h => ?_)
    refine s_bp 18 l_Mo_kept_37 rfl ?_
    refine s_iln l_Mo_kept_39 rfl ?_
    refine s_imul l_Mo_kept_40 ?_
    refine s_aln l_Mo_kept_41 rfl ?_
    refine s_gr l_Mo_kept_42 h (fun r8 h => ?_)
    refine s_iln l_Mo_kept_45 rfl ?_
    refine s_ial l_Mo_kept_46 rfl h (fun v9 h => ?_)
    refine s_aln l_Mo_kept_47 rfl ?_
    refine s_gr l_Mo_kept_48 h (fun r10 h => ?_)
    refine s_bp 18 l_Mo_kept_51 rfl ?_
    refine s_iln l_Mo_kept_53 rfl ?_
    refine s_imul l_Mo_kept_54 ?_
    refine s_aln l_Mo_kept_55 rfl ?_
    refine s_gr l_Mo_kept_56 h (fun r11 h => ?_)
    refine s_iln l_Mo_kept_59 rfl ?_
    refine s_ial l_Mo_kept_60 rfl h (fun v12 h => ?_)
    refine s_csi (As := [.ref r7, .int (18 * ((10 * v4) + x2)), .int v9, .ref r10, .int (18 * x1), .int v12]) (r := []) l_Mo_kept_61 rfl ⟨rfl, rfl⟩ rfl (Nat.le_of_ble_eq_true rfl) rfl ⟨Nat.zero_le _, Nat.zero_le _⟩ h (fun v15 f14 h => ?_)
    refine s_if l_Mo_kept_64 h (fun h => ?_) (fun h => ?_)
    · refine s_inc 1 l_Mo_kept_106 rfl rfl ?_
      refine s_goto l_Mo_kept_109 ?_
      exact h
    · refine s_aln l_Mo_kept_67 rfl ?_
      refine s_gr l_Mo_kept_68 h (fun r16 h => ?_)
      refine s_bp 48 l_Mo_kept_71 rfl ?_
      refine s_il l_Mo_kept_73 rfl ?_
      refine s_imul l_Mo_kept_75 ?_
      refine s_aln l_Mo_kept_76 rfl ?_
      refine s_gr l_Mo_kept_77 h (fun r17 h => ?_)
      refine s_il l_Mo_kept_80 rfl ?_
      refine s_ial l_Mo_kept_82 rfl h (fun v18 h => ?_)
      refine s_aln l_Mo_kept_83 rfl ?_
      refine s_gr l_Mo_kept_84 h (fun r19 h => ?_)
      refine s_bp 48 l_Mo_kept_87 rfl ?_
      refine s_iln l_Mo_kept_89 rfl ?_
      refine s_imul l_Mo_kept_90 ?_
      refine s_aln l_Mo_kept_91 rfl ?_
      refine s_gr l_Mo_kept_92 h (fun r20 h => ?_)
      refine s_iln l_Mo_kept_95 rfl ?_
      refine s_ial l_Mo_kept_96 rfl h (fun v21 h => ?_)
      refine s_csi (As := [.ref r16, .int (48 * v6), .int v18, .ref r19, .int (48 * x1), .int v21]) (r := []) l_Mo_kept_97 rfl ⟨rfl, rfl⟩ rfl (Nat.le_of_ble_eq_true rfl) rfl ⟨Nat.zero_le _, Nat.zero_le _⟩ h (fun v24 f23 h => ?_)
      refine s_if l_Mo_kept_100 h (fun h => ?_) (fun h => ?_)
      · refine s_inc 1 l_Mo_kept_106 rfl rfl ?_
        refine s_goto l_Mo_kept_109 ?_
        exact h
      · refine s_il l_Mo_kept_103 rfl ?_
        exact s_iret l_Mo_kept_105 rfl ⟨Nat.zero_le _, Nat.zero_le _⟩ h
theorem l_Mo_isInList_0 : xlk (xm_cd m_Mo_isInList) 0 = some (.iconst 0, 1, (0, 0, 0, [])) := rfl
theorem l_Mo_isInList_1 : xlk (xm_cd m_Mo_isInList) 1 = some (.istore_n 2, 1, (0, 0, 0, [])) := rfl
theorem l_Mo_isInList_2 : xlk (xm_cd m_Mo_isInList) 2 = some (.iconst 0, 1, (0, 0, 0, [])) := rfl
theorem l_Mo_isInList_3 : xlk (xm_cd m_Mo_isInList) 3 = some (.istore_n 3, 1, (0, 0, 0, [])) := rfl
theorem l_Mo_isInList_4 : xlk (xm_cd m_Mo_isInList) 4 = some (.iload_n 3, 1, (0, 0, 0, [])) := rfl
theorem l_Mo_isInList_5 : xlk (xm_cd m_Mo_isInList) 5 = some (.aload_n 0, 1, (0, 0, 0, [])) := rfl
theorem l_Mo_isInList_6 : xlk (xm_cd m_Mo_isInList) 6 = some (.getfield 118, 3, (891, 11, 42, [])) := rfl
theorem l_Mo_isInList_9 : xlk (xm_cd m_Mo_isInList) 9 = some (.aload_n 0, 1, (0, 0, 0, [])) := rfl
theorem l_Mo_isInList_10 : xlk (xm_cd m_Mo_isInList) 10 = some (.getfield 341, 3, (892, 11, 43, [])) := rfl
theorem l_Mo_isInList_13 : xlk (xm_cd m_Mo_isInList) 13 = some (.iaload, 1, (0, 0, 0, [])) := rfl
theorem l_Mo_isInList_14 : xlk (xm_cd m_Mo_isInList) 14 = some (.if_icmp .ge 37, 3, (0, 51, 0, [])) := rfl
theorem l_Mo_isInList_17 : xlk (xm_cd m_Mo_isInList) 17 = some (.iload_n 2, 1, (0, 0, 0, [])) := rfl
theorem l_Mo_isInList_18 : xlk (xm_cd m_Mo_isInList) 18 = some (.ifCond .ne 21, 3, (0, 39, 0, [])) := rfl
theorem l_Mo_isInList_21 : xlk (xm_cd m_Mo_isInList) 21 = some (.aload_n 0, 1, (0, 0, 0, [])) := rfl
theorem l_Mo_isInList_22 : xlk (xm_cd m_Mo_isInList) 22 = some (.getfield 115, 3, (890, 11, 41, [])) := rfl
theorem l_Mo_isInList_25 : xlk (xm_cd m_Mo_isInList) 25 = some (.bipush 10, 2, (0, 0, 0, [])) := rfl
theorem l_Mo_isInList_27 : xlk (xm_cd m_Mo_isInList) 27 = some (.aload_n 0, 1, (0, 0, 0, [])) := rfl
theorem l_Mo_isInList_28 : xlk (xm_cd m_Mo_isInList) 28 = some (.getfield 341, 3, (892, 11, 43, [])) := rfl
theorem l_Mo_isInList_31 : xlk (xm_cd m_Mo_isInList) 31 = some (.imul, 1, (0, 0, 0, [])) := rfl
theorem l_Mo_isInList_32 : xlk (xm_cd m_Mo_isInList) 32 = some (.iload_n 3, 1, (0, 0, 0, [])) := rfl
theorem l_Mo_isInList_33 : xlk (xm_cd m_Mo_isInList) 33 = some (.iadd, 1, (0, 0, 0, [])) := rfl
theorem l_Mo_isInList_34 : xlk (xm_cd m_Mo_isInList) 34 = some (.iaload, 1, (0, 0, 0, [])) := rfl
theorem l_Mo_isInList_35 : xlk (xm_cd m_Mo_isInList) 35 = some (.iload_n 1, 1, (0, 0, 0, [])) := rfl
theorem l_Mo_isInList_36 : xlk (xm_cd m_Mo_isInList) 36 = some (.if_icmp .ne 7, 3, (0, 43, 0, [])) := rfl
theorem l_Mo_isInList_39 : xlk (xm_cd m_Mo_isInList) 39 = some (.iconst 1, 1, (0, 0, 0, [])) := rfl
theorem l_Mo_isInList_40 : xlk (xm_cd m_Mo_isInList) 40 = some (.goto 4, 3, (0, 44, 0, [])) := rfl
theorem l_Mo_isInList_43 : xlk (xm_cd m_Mo_isInList) 43 = some (.iconst 0, 1, (0, 0, 0, [])) := rfl
theorem l_Mo_isInList_44 : xlk (xm_cd m_Mo_isInList) 44 = some (.istore_n 2, 1, (0, 0, 0, [])) := rfl
theorem l_Mo_isInList_45 : xlk (xm_cd m_Mo_isInList) 45 = some (.iinc 3 1, 3, (0, 0, 0, [])) := rfl
theorem l_Mo_isInList_48 : xlk (xm_cd m_Mo_isInList) 48 = some (.goto (-44), 3, (0, 4, 0, [])) := rfl
theorem l_Mo_isInList_51 : xlk (xm_cd m_Mo_isInList) 51 = some (.iload_n 2, 1, (0, 0, 0, [])) := rfl
theorem l_Mo_isInList_52 : xlk (xm_cd m_Mo_isInList) 52 = some (.ireturn, 1, (0, 0, 0, [])) := rfl
def B_Mo_isInList_0 (d : Nat) (E : Option Value → xH → Prop) (f : xH) (a0 : Nat) (x1 : Int32) : Prop :=
  xWp (xT0, xSp xT0 d, none, m_Mo_isInList, E) 4 [some (.ref a0), some (.int x1), some (.int 0), some (.int 0)] [] f 0 0
theorem b_Mo_isInList_0 {d : Nat} {E : Option Value → xH → Prop} {f : xH} {a0 : Nat} {x1 : Int32} (h : B_Mo_isInList_0 d E f a0 x1) : xWp (xT0, xSp xT0 d, none, m_Mo_isInList, E) 0 [some (.ref a0), some (.int x1), none, none] [] f 0 0 := by
  unfold B_Mo_isInList_0 at h
  refine s_ic 0 l_Mo_isInList_0 rfl ?_
  refine s_isn l_Mo_isInList_1 (Nat.le_of_ble_eq_true rfl) ?_
  refine s_ic 0 l_Mo_isInList_2 rfl ?_
  refine s_isn l_Mo_isInList_3 (Nat.le_of_ble_eq_true rfl) ?_
  exact h
def B_Mo_isInList_4 (d : Nat) (E : Option Value → xH → Prop) (f : xH) (a0 : Nat) (x1 : Int32) (x2 : Int32) (x3 : Int32) : Prop :=
  xgr f a0 11 42 (fun r1 => xgi f a0 11 43 (fun v2 => xal f r1 0 v2 (fun v3 => xbr (v3 ≤ x3) ((x2 = 0 ∨ x2 = 1) ∧ E (some (.int x2)) f) (xbr (¬ x2 = 0) (xWp (xT0, xSp xT0 d, none, m_Mo_isInList, E) 4 [some (.ref a0), some (.int x1), some (.int 1), some (.int (x3 + 1))] [] f 0 0) (xgr f a0 11 41 (fun r4 => xgi f a0 11 43 (fun v5 => xal f r4 0 ((10 * v5) + x3) (fun v6 => xbr (¬ v6 = x1) (xWp (xT0, xSp xT0 d, none, m_Mo_isInList, E) 4 [some (.ref a0), some (.int x1), some (.int 0), some (.int (x3 + 1))] [] f 0 0) (xWp (xT0, xSp xT0 d, none, m_Mo_isInList, E) 4 [some (.ref a0), some (.int x1), some (.int 1), some (.int (x3 + 1))] [] f 0 0)))))))))
theorem b_Mo_isInList_4 {d : Nat} {E : Option Value → xH → Prop} {f : xH} {a0 : Nat} {x1 : Int32} {x2 : Int32} {x3 : Int32} (h : B_Mo_isInList_4 d E f a0 x1 x2 x3) : xWp (xT0, xSp xT0 d, none, m_Mo_isInList, E) 4 [some (.ref a0), some (.int x1), some (.int x2), some (.int x3)] [] f 0 0 := by
  unfold B_Mo_isInList_4 at h
  refine s_iln l_Mo_isInList_4 rfl ?_
  refine s_aln l_Mo_isInList_5 rfl ?_
  refine s_gr l_Mo_isInList_6 h (fun r1 h => ?_)
  refine s_aln l_Mo_isInList_9 rfl ?_
  refine s_gi l_Mo_isInList_10 h (fun v2 h => ?_)
  refine s_ial l_Mo_isInList_13 rfl h (fun v3 h => ?_)
  refine s_ifc l_Mo_isInList_14 h (fun h => ?_) (fun h => ?_)
  · refine s_iln l_Mo_isInList_51 rfl ?_
    exact s_zret l_Mo_isInList_52 rfl ⟨Nat.zero_le _, Nat.zero_le _⟩ h
  · refine s_iln l_Mo_isInList_17 rfl ?_
    refine s_if l_Mo_isInList_18 h (fun h => ?_) (fun h => ?_)
    · refine s_ic 1 l_Mo_isInList_39 rfl ?_
      refine s_goto l_Mo_isInList_40 ?_
      refine s_isn l_Mo_isInList_44 (Nat.le_of_ble_eq_true rfl) ?_
      refine s_inc 1 l_Mo_isInList_45 rfl rfl ?_
      refine s_goto l_Mo_isInList_48 ?_
      exact h
    · refine s_aln l_Mo_isInList_21 rfl ?_
      refine s_gr l_Mo_isInList_22 h (fun r4 h => ?_)
      refine s_bp 10 l_Mo_isInList_25 rfl ?_
      refine s_aln l_Mo_isInList_27 rfl ?_
      refine s_gi l_Mo_isInList_28 h (fun v5 h => ?_)
      refine s_imul l_Mo_isInList_31 ?_
      refine s_iln l_Mo_isInList_32 rfl ?_
      refine s_iadd l_Mo_isInList_33 ?_
      refine s_ial l_Mo_isInList_34 rfl h (fun v6 h => ?_)
      refine s_iln l_Mo_isInList_35 rfl ?_
      refine s_ifc l_Mo_isInList_36 h (fun h => ?_) (fun h => ?_)
      · refine s_ic 0 l_Mo_isInList_43 rfl ?_
        refine s_isn l_Mo_isInList_44 (Nat.le_of_ble_eq_true rfl) ?_
        refine s_inc 1 l_Mo_isInList_45 rfl rfl ?_
        refine s_goto l_Mo_isInList_48 ?_
        exact h
      · refine s_ic 1 l_Mo_isInList_39 rfl ?_
        refine s_goto l_Mo_isInList_40 ?_
        refine s_isn l_Mo_isInList_44 (Nat.le_of_ble_eq_true rfl) ?_
        refine s_inc 1 l_Mo_isInList_45 rfl rfl ?_
        refine s_goto l_Mo_isInList_48 ?_
        exact h
theorem l_Mo_isChosen_0 : xlk (xm_cd m_Mo_isChosen) 0 = some (.iconst 0, 1, (0, 0, 0, [])) := rfl
theorem l_Mo_isChosen_1 : xlk (xm_cd m_Mo_isChosen) 1 = some (.istore_n 3, 1, (0, 0, 0, [])) := rfl
theorem l_Mo_isChosen_2 : xlk (xm_cd m_Mo_isChosen) 2 = some (.iconst 0, 1, (0, 0, 0, [])) := rfl
theorem l_Mo_isChosen_3 : xlk (xm_cd m_Mo_isChosen) 3 = some (.istore 4, 2, (0, 0, 0, [])) := rfl
theorem l_Mo_isChosen_5 : xlk (xm_cd m_Mo_isChosen) 5 = some (.iload 4, 2, (0, 0, 0, [])) := rfl
theorem l_Mo_isChosen_7 : xlk (xm_cd m_Mo_isChosen) 7 = some (.iload_n 2, 1, (0, 0, 0, [])) := rfl
theorem l_Mo_isChosen_8 : xlk (xm_cd m_Mo_isChosen) 8 = some (.if_icmp .ge 30, 3, (0, 38, 0, [])) := rfl
theorem l_Mo_isChosen_11 : xlk (xm_cd m_Mo_isChosen) 11 = some (.iload_n 3, 1, (0, 0, 0, [])) := rfl
theorem l_Mo_isChosen_12 : xlk (xm_cd m_Mo_isChosen) 12 = some (.ifCond .ne 14, 3, (0, 26, 0, [])) := rfl
theorem l_Mo_isChosen_15 : xlk (xm_cd m_Mo_isChosen) 15 = some (.aload_n 0, 1, (0, 0, 0, [])) := rfl
theorem l_Mo_isChosen_16 : xlk (xm_cd m_Mo_isChosen) 16 = some (.getfield 124, 3, (896, 11, 47, [])) := rfl
theorem l_Mo_isChosen_19 : xlk (xm_cd m_Mo_isChosen) 19 = some (.iload 4, 2, (0, 0, 0, [])) := rfl
theorem l_Mo_isChosen_21 : xlk (xm_cd m_Mo_isChosen) 21 = some (.iaload, 1, (0, 0, 0, [])) := rfl
theorem l_Mo_isChosen_22 : xlk (xm_cd m_Mo_isChosen) 22 = some (.iload_n 1, 1, (0, 0, 0, [])) := rfl
theorem l_Mo_isChosen_23 : xlk (xm_cd m_Mo_isChosen) 23 = some (.if_icmp .ne 7, 3, (0, 30, 0, [])) := rfl
theorem l_Mo_isChosen_26 : xlk (xm_cd m_Mo_isChosen) 26 = some (.iconst 1, 1, (0, 0, 0, [])) := rfl
theorem l_Mo_isChosen_27 : xlk (xm_cd m_Mo_isChosen) 27 = some (.goto 4, 3, (0, 31, 0, [])) := rfl
theorem l_Mo_isChosen_30 : xlk (xm_cd m_Mo_isChosen) 30 = some (.iconst 0, 1, (0, 0, 0, [])) := rfl
theorem l_Mo_isChosen_31 : xlk (xm_cd m_Mo_isChosen) 31 = some (.istore_n 3, 1, (0, 0, 0, [])) := rfl
theorem l_Mo_isChosen_32 : xlk (xm_cd m_Mo_isChosen) 32 = some (.iinc 4 1, 3, (0, 0, 0, [])) := rfl
theorem l_Mo_isChosen_35 : xlk (xm_cd m_Mo_isChosen) 35 = some (.goto (-30), 3, (0, 5, 0, [])) := rfl
theorem l_Mo_isChosen_38 : xlk (xm_cd m_Mo_isChosen) 38 = some (.iload_n 3, 1, (0, 0, 0, [])) := rfl
theorem l_Mo_isChosen_39 : xlk (xm_cd m_Mo_isChosen) 39 = some (.ireturn, 1, (0, 0, 0, [])) := rfl
def B_Mo_isChosen_0 (d : Nat) (E : Option Value → xH → Prop) (f : xH) (a0 : Nat) (x1 : Int32) (x2 : Int32) : Prop :=
  xWp (xT0, xSp xT0 d, none, m_Mo_isChosen, E) 5 [some (.ref a0), some (.int x1), some (.int x2), some (.int 0), some (.int 0)] [] f 0 0
theorem b_Mo_isChosen_0 {d : Nat} {E : Option Value → xH → Prop} {f : xH} {a0 : Nat} {x1 : Int32} {x2 : Int32} (h : B_Mo_isChosen_0 d E f a0 x1 x2) : xWp (xT0, xSp xT0 d, none, m_Mo_isChosen, E) 0 [some (.ref a0), some (.int x1), some (.int x2), none, none] [] f 0 0 := by
  unfold B_Mo_isChosen_0 at h
  refine s_ic 0 l_Mo_isChosen_0 rfl ?_
  refine s_isn l_Mo_isChosen_1 (Nat.le_of_ble_eq_true rfl) ?_
  refine s_ic 0 l_Mo_isChosen_2 rfl ?_
  refine s_is l_Mo_isChosen_3 (Nat.le_of_ble_eq_true rfl) ?_
  exact h
def B_Mo_isChosen_5 (d : Nat) (E : Option Value → xH → Prop) (f : xH) (a0 : Nat) (x1 : Int32) (x2 : Int32) (x3 : Int32) (x4 : Int32) : Prop :=
  xbr (x2 ≤ x4) ((x3 = 0 ∨ x3 = 1) ∧ E (some (.int x3)) f) (xbr (¬ x3 = 0) (xWp (xT0, xSp xT0 d, none, m_Mo_isChosen, E) 5 [some (.ref a0), some (.int x1), some (.int x2), some (.int 1), some (.int (x4 + 1))] [] f 0 0) (xgr f a0 11 47 (fun r1 => xal f r1 0 x4 (fun v2 => xbr (¬ v2 = x1) (xWp (xT0, xSp xT0 d, none, m_Mo_isChosen, E) 5 [some (.ref a0), some (.int x1), some (.int x2), some (.int 0), some (.int (x4 + 1))] [] f 0 0) (xWp (xT0, xSp xT0 d, none, m_Mo_isChosen, E) 5 [some (.ref a0), some (.int x1), some (.int x2), some (.int 1), some (.int (x4 + 1))] [] f 0 0)))))
theorem b_Mo_isChosen_5 {d : Nat} {E : Option Value → xH → Prop} {f : xH} {a0 : Nat} {x1 : Int32} {x2 : Int32} {x3 : Int32} {x4 : Int32} (h : B_Mo_isChosen_5 d E f a0 x1 x2 x3 x4) : xWp (xT0, xSp xT0 d, none, m_Mo_isChosen, E) 5 [some (.ref a0), some (.int x1), some (.int x2), some (.int x3), some (.int x4)] [] f 0 0 := by
  unfold B_Mo_isChosen_5 at h
  refine s_il l_Mo_isChosen_5 rfl ?_
  refine s_iln l_Mo_isChosen_7 rfl ?_
  refine s_ifc l_Mo_isChosen_8 h (fun h => ?_) (fun h => ?_)
  · refine s_iln l_Mo_isChosen_38 rfl ?_
    exact s_zret l_Mo_isChosen_39 rfl ⟨Nat.zero_le _, Nat.zero_le _⟩ h
  · refine s_iln l_Mo_isChosen_11 rfl ?_
    refine s_if l_Mo_isChosen_12 h (fun h => ?_) (fun h => ?_)
    · refine s_ic 1 l_Mo_isChosen_26 rfl ?_
      refine s_goto l_Mo_isChosen_27 ?_
      refine s_isn l_Mo_isChosen_31 (Nat.le_of_ble_eq_true rfl) ?_
      refine s_inc 1 l_Mo_isChosen_32 rfl rfl ?_
      refine s_goto l_Mo_isChosen_35 ?_
      exact h
    · refine s_aln l_Mo_isChosen_15 rfl ?_
      refine s_gr l_Mo_isChosen_16 h (fun r1 h => ?_)
      refine s_il l_Mo_isChosen_19 rfl ?_
      refine s_ial l_Mo_isChosen_21 rfl h (fun v2 h => ?_)
      refine s_iln l_Mo_isChosen_22 rfl ?_
      refine s_ifc l_Mo_isChosen_23 h (fun h => ?_) (fun h => ?_)
      · refine s_ic 0 l_Mo_isChosen_30 rfl ?_
        refine s_isn l_Mo_isChosen_31 (Nat.le_of_ble_eq_true rfl) ?_
        refine s_inc 1 l_Mo_isChosen_32 rfl rfl ?_
        refine s_goto l_Mo_isChosen_35 ?_
        exact h
      · refine s_ic 1 l_Mo_isChosen_26 rfl ?_
        refine s_goto l_Mo_isChosen_27 ?_
        refine s_isn l_Mo_isChosen_31 (Nat.le_of_ble_eq_true rfl) ?_
        refine s_inc 1 l_Mo_isChosen_32 rfl rfl ?_
        refine s_goto l_Mo_isChosen_35 ?_
        exact h
theorem l_Mo_mayWrite_0 : xlk (xm_cd m_Mo_mayWrite) 0 = some (.aload_n 0, 1, (0, 0, 0, [])) := rfl
theorem l_Mo_mayWrite_1 : xlk (xm_cd m_Mo_mayWrite) 1 = some (.getfield 121, 3, (893, 11, 44, [])) := rfl
theorem l_Mo_mayWrite_4 : xlk (xm_cd m_Mo_mayWrite) 4 = some (.ifCond .ne 10, 3, (0, 14, 0, [])) := rfl
theorem l_Mo_mayWrite_7 : xlk (xm_cd m_Mo_mayWrite) 7 = some (.aload_n 0, 1, (0, 0, 0, [])) := rfl
theorem l_Mo_mayWrite_8 : xlk (xm_cd m_Mo_mayWrite) 8 = some (.iconst 1, 1, (0, 0, 0, [])) := rfl
theorem l_Mo_mayWrite_9 : xlk (xm_cd m_Mo_mayWrite) 9 = some (.putfield 334, 3, (894, 11, 45, [(0, 2)])) := rfl
theorem l_Mo_mayWrite_12 : xlk (xm_cd m_Mo_mayWrite) 12 = some (.iconst 0, 1, (0, 0, 0, [])) := rfl
theorem l_Mo_mayWrite_13 : xlk (xm_cd m_Mo_mayWrite) 13 = some (.ireturn, 1, (0, 0, 0, [])) := rfl
theorem l_Mo_mayWrite_14 : xlk (xm_cd m_Mo_mayWrite) 14 = some (.aload_n 0, 1, (0, 0, 0, [])) := rfl
theorem l_Mo_mayWrite_15 : xlk (xm_cd m_Mo_mayWrite) 15 = some (.aload_n 0, 1, (0, 0, 0, [])) := rfl
theorem l_Mo_mayWrite_16 : xlk (xm_cd m_Mo_mayWrite) 16 = some (.getfield 121, 3, (893, 11, 44, [])) := rfl
theorem l_Mo_mayWrite_19 : xlk (xm_cd m_Mo_mayWrite) 19 = some (.ifCond .le 12, 3, (0, 31, 0, [])) := rfl
theorem l_Mo_mayWrite_22 : xlk (xm_cd m_Mo_mayWrite) 22 = some (.aload_n 0, 1, (0, 0, 0, [])) := rfl
theorem l_Mo_mayWrite_23 : xlk (xm_cd m_Mo_mayWrite) 23 = some (.getfield 121, 3, (893, 11, 44, [])) := rfl
theorem l_Mo_mayWrite_26 : xlk (xm_cd m_Mo_mayWrite) 26 = some (.iconst 1, 1, (0, 0, 0, [])) := rfl
theorem l_Mo_mayWrite_27 : xlk (xm_cd m_Mo_mayWrite) 27 = some (.isub, 1, (0, 0, 0, [])) := rfl
theorem l_Mo_mayWrite_28 : xlk (xm_cd m_Mo_mayWrite) 28 = some (.goto 7, 3, (0, 35, 0, [])) := rfl
theorem l_Mo_mayWrite_31 : xlk (xm_cd m_Mo_mayWrite) 31 = some (.aload_n 0, 1, (0, 0, 0, [])) := rfl
theorem l_Mo_mayWrite_32 : xlk (xm_cd m_Mo_mayWrite) 32 = some (.getfield 121, 3, (893, 11, 44, [])) := rfl
theorem l_Mo_mayWrite_35 : xlk (xm_cd m_Mo_mayWrite) 35 = some (.putfield 121, 3, (893, 11, 44, [(0, 0)])) := rfl
theorem l_Mo_mayWrite_38 : xlk (xm_cd m_Mo_mayWrite) 38 = some (.aload_n 0, 1, (0, 0, 0, [])) := rfl
theorem l_Mo_mayWrite_39 : xlk (xm_cd m_Mo_mayWrite) 39 = some (.dup, 1, (0, 0, 0, [])) := rfl
theorem l_Mo_mayWrite_40 : xlk (xm_cd m_Mo_mayWrite) 40 = some (.getfield 338, 3, (895, 11, 46, [])) := rfl
theorem l_Mo_mayWrite_43 : xlk (xm_cd m_Mo_mayWrite) 43 = some (.iconst 1, 1, (0, 0, 0, [])) := rfl
theorem l_Mo_mayWrite_44 : xlk (xm_cd m_Mo_mayWrite) 44 = some (.iadd, 1, (0, 0, 0, [])) := rfl
theorem l_Mo_mayWrite_45 : xlk (xm_cd m_Mo_mayWrite) 45 = some (.putfield 338, 3, (895, 11, 46, [(0, 0)])) := rfl
theorem l_Mo_mayWrite_48 : xlk (xm_cd m_Mo_mayWrite) 48 = some (.iconst 1, 1, (0, 0, 0, [])) := rfl
theorem l_Mo_mayWrite_49 : xlk (xm_cd m_Mo_mayWrite) 49 = some (.ireturn, 1, (0, 0, 0, [])) := rfl
def B_Mo_mayWrite_0 (d : Nat) (E : Option Value → xH → Prop) (f : xH) (a0 : Nat) : Prop :=
  xgi f a0 11 44 (fun v1 => xbr (¬ v1 = 0) (xgi f a0 11 44 (fun v2 => xbr (v2 ≤ 0) (xgi f a0 11 44 (fun v3 => xWp (xT0, xSp xT0 d, none, m_Mo_mayWrite, E) 35 [some (.ref a0)] [.int v3, .ref a0] f 0 0)) (xgi f a0 11 44 (fun v4 => xWp (xT0, xSp xT0 d, none, m_Mo_mayWrite, E) 35 [some (.ref a0)] [.int (v4 - 1), .ref a0] f 0 0)))) (xpf f a0 11 45 (.int 1) (fun f5 => E (some (.int 0)) f5)))
theorem b_Mo_mayWrite_0 {d : Nat} {E : Option Value → xH → Prop} {f : xH} {a0 : Nat} (h : B_Mo_mayWrite_0 d E f a0) : xWp (xT0, xSp xT0 d, none, m_Mo_mayWrite, E) 0 [some (.ref a0)] [] f 0 0 := by
  unfold B_Mo_mayWrite_0 at h
  refine s_aln l_Mo_mayWrite_0 rfl ?_
  refine s_gi l_Mo_mayWrite_1 h (fun v1 h => ?_)
  refine s_if l_Mo_mayWrite_4 h (fun h => ?_) (fun h => ?_)
  · refine s_aln l_Mo_mayWrite_14 rfl ?_
    refine s_aln l_Mo_mayWrite_15 rfl ?_
    refine s_gi l_Mo_mayWrite_16 h (fun v2 h => ?_)
    refine s_if l_Mo_mayWrite_19 h (fun h => ?_) (fun h => ?_)
    · refine s_aln l_Mo_mayWrite_31 rfl ?_
      refine s_gi l_Mo_mayWrite_32 h (fun v3 h => ?_)
      exact h
    · refine s_aln l_Mo_mayWrite_22 rfl ?_
      refine s_gi l_Mo_mayWrite_23 h (fun v4 h => ?_)
      refine s_ic 1 l_Mo_mayWrite_26 rfl ?_
      refine s_isub l_Mo_mayWrite_27 ?_
      refine s_goto l_Mo_mayWrite_28 ?_
      exact h
  · refine s_aln l_Mo_mayWrite_7 rfl ?_
    refine s_ic 1 l_Mo_mayWrite_8 rfl ?_
    refine s_pf l_Mo_mayWrite_9 (Or.inr rfl) h (fun f5 h => ?_)
    refine s_ic 0 l_Mo_mayWrite_12 rfl ?_
    exact s_zret l_Mo_mayWrite_13 rfl ⟨Nat.zero_le _, Nat.zero_le _⟩ ⟨Or.inl rfl, h⟩
def B_Mo_mayWrite_35 (d : Nat) (E : Option Value → xH → Prop) (f : xH) (a0 : Nat) (s0 : Int32) (s1 : Nat) : Prop :=
  xpf f s1 11 44 (.int s0) (fun f1 => xgi f1 a0 11 46 (fun v2 => xpf f1 a0 11 46 (.int (v2 + 1)) (fun f3 => E (some (.int 1)) f3)))
theorem b_Mo_mayWrite_35 {d : Nat} {E : Option Value → xH → Prop} {f : xH} {a0 : Nat} {s0 : Int32} {s1 : Nat} (h : B_Mo_mayWrite_35 d E f a0 s0 s1) : xWp (xT0, xSp xT0 d, none, m_Mo_mayWrite, E) 35 [some (.ref a0)] [.int s0, .ref s1] f 0 0 := by
  unfold B_Mo_mayWrite_35 at h
  refine s_pf l_Mo_mayWrite_35 ⟨_, rfl⟩ h (fun f1 h => ?_)
  refine s_aln l_Mo_mayWrite_38 rfl ?_
  refine s_dup l_Mo_mayWrite_39 rfl ?_
  refine s_gi l_Mo_mayWrite_40 h (fun v2 h => ?_)
  refine s_ic 1 l_Mo_mayWrite_43 rfl ?_
  refine s_iadd l_Mo_mayWrite_44 ?_
  refine s_pf l_Mo_mayWrite_45 ⟨_, rfl⟩ h (fun f3 h => ?_)
  refine s_ic 1 l_Mo_mayWrite_48 rfl ?_
  exact s_zret l_Mo_mayWrite_49 rfl ⟨Nat.zero_le _, Nat.zero_le _⟩ ⟨Or.inr rfl, h⟩
theorem l_Mo_open_0 : xlk (xm_cd m_Mo_open) 0 = some (.aload_n 0, 1, (0, 0, 0, [])) := rfl
theorem l_Mo_open_1 : xlk (xm_cd m_Mo_open) 1 = some (.iconst 0, 1, (0, 0, 0, [])) := rfl
theorem l_Mo_open_2 : xlk (xm_cd m_Mo_open) 2 = some (.putfield 1, 3, (849, 11, 0, [(0, 0)])) := rfl
theorem l_Mo_open_5 : xlk (xm_cd m_Mo_open) 5 = some (.aload_n 0, 1, (0, 0, 0, [])) := rfl
theorem l_Mo_open_6 : xlk (xm_cd m_Mo_open) 6 = some (.getfield 152, 3, (859, 11, 10, [])) := rfl
theorem l_Mo_open_9 : xlk (xm_cd m_Mo_open) 9 = some (.bipush 12, 2, (0, 0, 0, [])) := rfl
theorem l_Mo_open_11 : xlk (xm_cd m_Mo_open) 11 = some (.if_icmp .ne 6, 3, (0, 17, 0, [])) := rfl
theorem l_Mo_open_14 : xlk (xm_cd m_Mo_open) 14 = some (.bipush (-3), 2, (0, 0, 0, [])) := rfl
theorem l_Mo_open_16 : xlk (xm_cd m_Mo_open) 16 = some (.ireturn, 1, (0, 0, 0, [])) := rfl
theorem l_Mo_open_17 : xlk (xm_cd m_Mo_open) 17 = some (.aload_n 0, 1, (0, 0, 0, [])) := rfl
theorem l_Mo_open_18 : xlk (xm_cd m_Mo_open) 18 = some (.getfield 33, 3, (858, 11, 9, [])) := rfl
theorem l_Mo_open_21 : xlk (xm_cd m_Mo_open) 21 = some (.aload_n 0, 1, (0, 0, 0, [])) := rfl
theorem l_Mo_open_22 : xlk (xm_cd m_Mo_open) 22 = some (.getfield 152, 3, (859, 11, 10, [])) := rfl
theorem l_Mo_open_25 : xlk (xm_cd m_Mo_open) 25 = some (.iconst 0, 1, (0, 0, 0, [])) := rfl
theorem l_Mo_open_26 : xlk (xm_cd m_Mo_open) 26 = some (.iastore, 1, (0, 0, 0, [])) := rfl
theorem l_Mo_open_27 : xlk (xm_cd m_Mo_open) 27 = some (.iconst 0, 1, (0, 0, 0, [])) := rfl
theorem l_Mo_open_28 : xlk (xm_cd m_Mo_open) 28 = some (.istore_n 1, 1, (0, 0, 0, [])) := rfl
theorem l_Mo_open_29 : xlk (xm_cd m_Mo_open) 29 = some (.iload_n 1, 1, (0, 0, 0, [])) := rfl
theorem l_Mo_open_30 : xlk (xm_cd m_Mo_open) 30 = some (.aload_n 0, 1, (0, 0, 0, [])) := rfl
theorem l_Mo_open_31 : xlk (xm_cd m_Mo_open) 31 = some (.getfield 118, 3, (891, 11, 42, [])) := rfl
theorem l_Mo_open_34 : xlk (xm_cd m_Mo_open) 34 = some (.aload_n 0, 1, (0, 0, 0, [])) := rfl
theorem l_Mo_open_35 : xlk (xm_cd m_Mo_open) 35 = some (.getfield 341, 3, (892, 11, 43, [])) := rfl
theorem l_Mo_open_38 : xlk (xm_cd m_Mo_open) 38 = some (.iaload, 1, (0, 0, 0, [])) := rfl
theorem l_Mo_open_39 : xlk (xm_cd m_Mo_open) 39 = some (.if_icmp .ge 62, 3, (0, 101, 0, [])) := rfl
theorem l_Mo_open_42 : xlk (xm_cd m_Mo_open) 42 = some (.bipush 10, 2, (0, 0, 0, [])) := rfl
theorem l_Mo_open_44 : xlk (xm_cd m_Mo_open) 44 = some (.aload_n 0, 1, (0, 0, 0, [])) := rfl
theorem l_Mo_open_45 : xlk (xm_cd m_Mo_open) 45 = some (.getfield 341, 3, (892, 11, 43, [])) := rfl
theorem l_Mo_open_48 : xlk (xm_cd m_Mo_open) 48 = some (.imul, 1, (0, 0, 0, [])) := rfl
theorem l_Mo_open_49 : xlk (xm_cd m_Mo_open) 49 = some (.iload_n 1, 1, (0, 0, 0, [])) := rfl
theorem l_Mo_open_50 : xlk (xm_cd m_Mo_open) 50 = some (.iadd, 1, (0, 0, 0, [])) := rfl
theorem l_Mo_open_51 : xlk (xm_cd m_Mo_open) 51 = some (.istore_n 2, 1, (0, 0, 0, [])) := rfl
theorem l_Mo_open_52 : xlk (xm_cd m_Mo_open) 52 = some (.aload_n 0, 1, (0, 0, 0, [])) := rfl
theorem l_Mo_open_53 : xlk (xm_cd m_Mo_open) 53 = some (.getfield 115, 3, (890, 11, 41, [])) := rfl
theorem l_Mo_open_56 : xlk (xm_cd m_Mo_open) 56 = some (.iload_n 2, 1, (0, 0, 0, [])) := rfl
theorem l_Mo_open_57 : xlk (xm_cd m_Mo_open) 57 = some (.iaload, 1, (0, 0, 0, [])) := rfl
theorem l_Mo_open_58 : xlk (xm_cd m_Mo_open) 58 = some (.istore_n 3, 1, (0, 0, 0, [])) := rfl
theorem l_Mo_open_59 : xlk (xm_cd m_Mo_open) 59 = some (.aload_n 0, 1, (0, 0, 0, [])) := rfl
theorem l_Mo_open_60 : xlk (xm_cd m_Mo_open) 60 = some (.aload_n 0, 1, (0, 0, 0, [])) := rfl
theorem l_Mo_open_61 : xlk (xm_cd m_Mo_open) 61 = some (.getfield 152, 3, (859, 11, 10, [])) := rfl
theorem l_Mo_open_64 : xlk (xm_cd m_Mo_open) 64 = some (.aload_n 0, 1, (0, 0, 0, [])) := rfl
theorem l_Mo_open_65 : xlk (xm_cd m_Mo_open) 65 = some (.getfield 109, 3, (888, 11, 39, [])) := rfl
theorem l_Mo_open_68 : xlk (xm_cd m_Mo_open) 68 = some (.bipush 18, 2, (0, 0, 0, [])) := rfl
theorem l_Mo_open_70 : xlk (xm_cd m_Mo_open) 70 = some (.iload_n 2, 1, (0, 0, 0, [])) := rfl
theorem l_Mo_open_71 : xlk (xm_cd m_Mo_open) 71 = some (.imul, 1, (0, 0, 0, [])) := rfl
theorem l_Mo_open_72 : xlk (xm_cd m_Mo_open) 72 = some (.aload_n 0, 1, (0, 0, 0, [])) := rfl
theorem l_Mo_open_73 : xlk (xm_cd m_Mo_open) 73 = some (.getfield 112, 3, (889, 11, 40, [])) := rfl
theorem l_Mo_open_76 : xlk (xm_cd m_Mo_open) 76 = some (.iload_n 2, 1, (0, 0, 0, [])) := rfl
theorem l_Mo_open_77 : xlk (xm_cd m_Mo_open) 77 = some (.iaload, 1, (0, 0, 0, [])) := rfl
theorem l_Mo_open_78 : xlk (xm_cd m_Mo_open) 78 = some (.aload_n 0, 1, (0, 0, 0, [])) := rfl
theorem l_Mo_open_79 : xlk (xm_cd m_Mo_open) 79 = some (.getfield 103, 3, (886, 11, 37, [])) := rfl
theorem l_Mo_open_82 : xlk (xm_cd m_Mo_open) 82 = some (.bipush 48, 2, (0, 0, 0, [])) := rfl
theorem l_Mo_open_84 : xlk (xm_cd m_Mo_open) 84 = some (.iload_n 3, 1, (0, 0, 0, [])) := rfl
theorem l_Mo_open_85 : xlk (xm_cd m_Mo_open) 85 = some (.imul, 1, (0, 0, 0, [])) := rfl
theorem l_Mo_open_86 : xlk (xm_cd m_Mo_open) 86 = some (.aload_n 0, 1, (0, 0, 0, [])) := rfl
theorem l_Mo_open_87 : xlk (xm_cd m_Mo_open) 87 = some (.getfield 106, 3, (887, 11, 38, [])) := rfl
theorem l_Mo_open_90 : xlk (xm_cd m_Mo_open) 90 = some (.iload_n 3, 1, (0, 0, 0, [])) := rfl
theorem l_Mo_open_91 : xlk (xm_cd m_Mo_open) 91 = some (.iaload, 1, (0, 0, 0, [])) := rfl
theorem l_Mo_open_92 : xlk (xm_cd m_Mo_open) 92 = some (.invokevirtual 182, 3, (999, 161, 7, [])) := rfl
theorem l_Mo_open_95 : xlk (xm_cd m_Mo_open) 95 = some (.iinc 1 1, 3, (0, 0, 0, [])) := rfl
theorem l_Mo_open_98 : xlk (xm_cd m_Mo_open) 98 = some (.goto (-69), 3, (0, 29, 0, [])) := rfl
theorem l_Mo_open_101 : xlk (xm_cd m_Mo_open) 101 = some (.aload_n 0, 1, (0, 0, 0, [])) := rfl
theorem l_Mo_open_102 : xlk (xm_cd m_Mo_open) 102 = some (.iconst (-1), 1, (0, 0, 0, [])) := rfl
theorem l_Mo_open_103 : xlk (xm_cd m_Mo_open) 103 = some (.putfield 121, 3, (893, 11, 44, [(0, 0)])) := rfl
theorem l_Mo_open_106 : xlk (xm_cd m_Mo_open) 106 = some (.aload_n 0, 1, (0, 0, 0, [])) := rfl
theorem l_Mo_open_107 : xlk (xm_cd m_Mo_open) 107 = some (.iconst 0, 1, (0, 0, 0, [])) := rfl
theorem l_Mo_open_108 : xlk (xm_cd m_Mo_open) 108 = some (.putfield 334, 3, (894, 11, 45, [(0, 2)])) := rfl
theorem l_Mo_open_111 : xlk (xm_cd m_Mo_open) 111 = some (.aload_n 0, 1, (0, 0, 0, [])) := rfl
theorem l_Mo_open_112 : xlk (xm_cd m_Mo_open) 112 = some (.dup, 1, (0, 0, 0, [])) := rfl
theorem l_Mo_open_113 : xlk (xm_cd m_Mo_open) 113 = some (.getfield 152, 3, (859, 11, 10, [])) := rfl
theorem l_Mo_open_116 : xlk (xm_cd m_Mo_open) 116 = some (.iconst 1, 1, (0, 0, 0, [])) := rfl
theorem l_Mo_open_117 : xlk (xm_cd m_Mo_open) 117 = some (.iadd, 1, (0, 0, 0, [])) := rfl
theorem l_Mo_open_118 : xlk (xm_cd m_Mo_open) 118 = some (.putfield 152, 3, (859, 11, 10, [(0, 0)])) := rfl
theorem l_Mo_open_121 : xlk (xm_cd m_Mo_open) 121 = some (.aload_n 0, 1, (0, 0, 0, [])) := rfl
theorem l_Mo_open_122 : xlk (xm_cd m_Mo_open) 122 = some (.getfield 152, 3, (859, 11, 10, [])) := rfl
theorem l_Mo_open_125 : xlk (xm_cd m_Mo_open) 125 = some (.iconst 1, 1, (0, 0, 0, [])) := rfl
theorem l_Mo_open_126 : xlk (xm_cd m_Mo_open) 126 = some (.isub, 1, (0, 0, 0, [])) := rfl
theorem l_Mo_open_127 : xlk (xm_cd m_Mo_open) 127 = some (.ireturn, 1, (0, 0, 0, [])) := rfl
def B_Mo_open_0 (d : Nat) (E : Option Value → xH → Prop) (f : xH) (a0 : Nat) : Prop :=
  xpf f a0 11 0 (.int 0) (fun f1 => xgi f1 a0 11 10 (fun v2 => xbr (¬ v2 = 12) (xgr f1 a0 11 9 (fun r3 => xgi f1 a0 11 10 (fun v4 => xas f1 r3 0 v4 0 (fun f5 => xWp (xT0, xSp xT0 d, none, m_Mo_open, E) 29 [some (.ref a0), some (.int 0), none, none] [] f5 0 0)))) (E (some (.int (-3))) f1)))
theorem b_Mo_open_0 {d : Nat} {E : Option Value → xH → Prop} {f : xH} {a0 : Nat} (h : B_Mo_open_0 d E f a0) : xWp (xT0, xSp xT0 d, none, m_Mo_open, E) 0 [some (.ref a0), none, none, none] [] f 0 0 := by
  unfold B_Mo_open_0 at h
  refine s_aln l_Mo_open_0 rfl ?_
  refine s_ic 0 l_Mo_open_1 rfl ?_
  refine s_pf l_Mo_open_2 ⟨_, rfl⟩ h (fun f1 h => ?_)
  refine s_aln l_Mo_open_5 rfl ?_
  refine s_gi l_Mo_open_6 h (fun v2 h => ?_)
  refine s_bp 12 l_Mo_open_9 rfl ?_
  refine s_ifc l_Mo_open_11 h (fun h => ?_) (fun h => ?_)
  · refine s_aln l_Mo_open_17 rfl ?_
    refine s_gr l_Mo_open_18 h (fun r3 h => ?_)
    refine s_aln l_Mo_open_21 rfl ?_
    refine s_gi l_Mo_open_22 h (fun v4 h => ?_)
    refine s_ic 0 l_Mo_open_25 rfl ?_
    refine s_iast l_Mo_open_26 h (fun f5 h => ?_)
    refine s_ic 0 l_Mo_open_27 rfl ?_
    refine s_isn l_Mo_open_28 (Nat.le_of_ble_eq_true rfl) ?_
    exact h
  · refine s_bp (-3) l_Mo_open_14 rfl ?_
    exact s_iret l_Mo_open_16 rfl ⟨Nat.zero_le _, Nat.zero_le _⟩ h
def B_Mo_open_29 (d : Nat) (E : Option Value → xH → Prop) (f : xH) (a0 : Nat) (x1 : Int32) (u2 : Option Value) (u3 : Option Value) : Prop :=
  xgr f a0 11 42 (fun r1 => xgi f a0 11 43 (fun v2 => xal f r1 0 v2 (fun v3 => xbr (v3 ≤ x1) (xpf f a0 11 44 (.int (-1)) (fun f4 => xpf f4 a0 11 45 (.int 0) (fun f5 => xgi f5 a0 11 10 (fun v6 => xpf f5 a0 11 10 (.int (v6 + 1)) (fun f7 => xgi f7 a0 11 10 (fun v8 => E (some (.int (v8 - 1))) f7)))))) (xgi f a0 11 43 (fun v9 => xgr f a0 11 41 (fun r10 => xal f r10 0 ((10 * v9) + x1) (fun v11 => xgi f a0 11 10 (fun v12 => xgr f a0 11 39 (fun r13 => xgr f a0 11 40 (fun r14 => xal f r14 0 ((10 * v9) + x1) (fun v15 => xgr f a0 11 37 (fun r16 => xgr f a0 11 38 (fun r17 => xal f r17 0 v11 (fun v18 => (∃ fs, f a0 = some (xO 11 fs)) ∧ xSp xT0 d j_Mo_addFile [.ref a0, .int v12, .ref r13, .int (18 * ((10 * v9) + x1)), .int v15, .ref r16, .int (48 * v11), .int v18] f (fun w19 f20 => xvv w19 (xWp (xT0, xSp xT0 d, none, m_Mo_open, E) 29 [some (.ref a0), some (.int (x1 + 1)), some (.int ((10 * v9) + x1)), some (.int v11)] [] f20 0 0))))))))))))))))
theorem b_Mo_open_29 {d : Nat} {E : Option Value → xH → Prop} {f : xH} {a0 : Nat} {x1 : Int32} {u2 : Option Value} {u3 : Option Value} (h : B_Mo_open_29 d E f a0 x1 u2 u3) : xWp (xT0, xSp xT0 d, none, m_Mo_open, E) 29 [some (.ref a0), some (.int x1), u2, u3] [] f 0 0 := by
  unfold B_Mo_open_29 at h
  refine s_iln l_Mo_open_29 rfl ?_
  refine s_aln l_Mo_open_30 rfl ?_
  refine s_gr l_Mo_open_31 h (fun r1 h => ?_)
  refine s_aln l_Mo_open_34 rfl ?_
  refine s_gi l_Mo_open_35 h (fun v2 h => ?_)
  refine s_ial l_Mo_open_38 rfl h (fun v3 h => ?_)
  refine s_ifc l_Mo_open_39 h (fun h => ?_) (fun h => ?_)
  · refine s_aln l_Mo_open_101 rfl ?_
    refine s_ic (-1) l_Mo_open_102 rfl ?_
    refine s_pf l_Mo_open_103 ⟨_, rfl⟩ h (fun f4 h => ?_)
    refine s_aln l_Mo_open_106 rfl ?_
    refine s_ic 0 l_Mo_open_107 rfl ?_
    refine s_pf l_Mo_open_108 (Or.inl rfl) h (fun f5 h => ?_)
    refine s_aln l_Mo_open_111 rfl ?_
    refine s_dup l_Mo_open_112 rfl ?_
    refine s_gi l_Mo_open_113 h (fun v6 h => ?_)
    refine s_ic 1 l_Mo_open_116 rfl ?_
    refine s_iadd l_Mo_open_117 ?_
    refine s_pf l_Mo_open_118 ⟨_, rfl⟩ h (fun f7 h => ?_)
    refine s_aln l_Mo_open_121 rfl ?_
    refine s_gi l_Mo_open_122 h (fun v8 h => ?_)
    refine s_ic 1 l_Mo_open_125 rfl ?_
    refine s_isub l_Mo_open_126 ?_
    exact s_iret l_Mo_open_127 rfl ⟨Nat.zero_le _, Nat.zero_le _⟩ h
  · refine s_bp 10 l_Mo_open_42 rfl ?_
    refine s_aln l_Mo_open_44 rfl ?_
    refine s_gi l_Mo_open_45 h (fun v9 h => ?_)
    refine s_imul l_Mo_open_48 ?_
    refine s_iln l_Mo_open_49 rfl ?_
    refine s_iadd l_Mo_open_50 ?_
    refine s_isn l_Mo_open_51 (Nat.le_of_ble_eq_true rfl) ?_
    refine s_aln l_Mo_open_52 rfl ?_
    refine s_gr l_Mo_open_53 h (fun r10 h => ?_)
    refine s_iln l_Mo_open_56 rfl ?_
    refine s_ial l_Mo_open_57 rfl h (fun v11 h => ?_)
    refine s_isn l_Mo_open_58 (Nat.le_of_ble_eq_true rfl) ?_
    refine s_aln l_Mo_open_59 rfl ?_
    refine s_aln l_Mo_open_60 rfl ?_
    refine s_gi l_Mo_open_61 h (fun v12 h => ?_)
    refine s_aln l_Mo_open_64 rfl ?_
    refine s_gr l_Mo_open_65 h (fun r13 h => ?_)
    refine s_bp 18 l_Mo_open_68 rfl ?_
    refine s_iln l_Mo_open_70 rfl ?_
    refine s_imul l_Mo_open_71 ?_
    refine s_aln l_Mo_open_72 rfl ?_
    refine s_gr l_Mo_open_73 h (fun r14 h => ?_)
    refine s_iln l_Mo_open_76 rfl ?_
    refine s_ial l_Mo_open_77 rfl h (fun v15 h => ?_)
    refine s_aln l_Mo_open_78 rfl ?_
    refine s_gr l_Mo_open_79 h (fun r16 h => ?_)
    refine s_bp 48 l_Mo_open_82 rfl ?_
    refine s_iln l_Mo_open_84 rfl ?_
    refine s_imul l_Mo_open_85 ?_
    refine s_aln l_Mo_open_86 rfl ?_
    refine s_gr l_Mo_open_87 h (fun r17 h => ?_)
    refine s_iln l_Mo_open_90 rfl ?_
    refine s_ial l_Mo_open_91 rfl h (fun v18 h => ?_)
    refine s_cvv (As := [.int v12, .ref r13, .int (18 * ((10 * v9) + x1)), .int v15, .ref r16, .int (48 * v11), .int v18]) (r := []) l_Mo_open_92 rfl ⟨rfl, rfl⟩ rfl (Nat.le_of_ble_eq_true rfl) rfl ⟨Nat.zero_le _, Nat.zero_le _⟩ h (fun f20 h => ?_)
    refine s_inc 1 l_Mo_open_95 rfl rfl ?_
    refine s_goto l_Mo_open_98 ?_
    exact h
theorem l_Mo_slot_0 : xlk (xm_cd m_Mo_slot) 0 = some (.aload_n 0, 1, (0, 0, 0, [])) := rfl
theorem l_Mo_slot_1 : xlk (xm_cd m_Mo_slot) 1 = some (.iconst 0, 1, (0, 0, 0, [])) := rfl
theorem l_Mo_slot_2 : xlk (xm_cd m_Mo_slot) 2 = some (.putfield 1, 3, (849, 11, 0, [(0, 0)])) := rfl
theorem l_Mo_slot_5 : xlk (xm_cd m_Mo_slot) 5 = some (.iload_n 1, 1, (0, 0, 0, [])) := rfl
theorem l_Mo_slot_6 : xlk (xm_cd m_Mo_slot) 6 = some (.i2l, 1, (0, 0, 0, [])) := rfl
theorem l_Mo_slot_7 : xlk (xm_cd m_Mo_slot) 7 = some (.lconst 0, 1, (0, 0, 0, [])) := rfl
theorem l_Mo_slot_8 : xlk (xm_cd m_Mo_slot) 8 = some (.ldc2_w 356, 3, (1197, 0, 0, [(29, 0)])) := rfl
theorem l_Mo_slot_11 : xlk (xm_cd m_Mo_slot) 11 = some (.invokestatic 132, 3, (955, 0, 0, [(2, 2)])) := rfl
theorem l_Mo_slot_14 : xlk (xm_cd m_Mo_slot) 14 = some (.ifCond .eq 15, 3, (0, 29, 0, [])) := rfl
theorem l_Mo_slot_17 : xlk (xm_cd m_Mo_slot) 17 = some (.iload_n 2, 1, (0, 0, 0, [])) := rfl
theorem l_Mo_slot_18 : xlk (xm_cd m_Mo_slot) 18 = some (.i2l, 1, (0, 0, 0, [])) := rfl
theorem l_Mo_slot_19 : xlk (xm_cd m_Mo_slot) 19 = some (.lconst 0, 1, (0, 0, 0, [])) := rfl
theorem l_Mo_slot_20 : xlk (xm_cd m_Mo_slot) 20 = some (.ldc2_w 358, 3, (1198, 0, 0, [(2, 0)])) := rfl
theorem l_Mo_slot_23 : xlk (xm_cd m_Mo_slot) 23 = some (.invokestatic 132, 3, (955, 0, 0, [(2, 2)])) := rfl
theorem l_Mo_slot_26 : xlk (xm_cd m_Mo_slot) 26 = some (.ifCond .ne 5, 3, (0, 31, 0, [])) := rfl
theorem l_Mo_slot_29 : xlk (xm_cd m_Mo_slot) 29 = some (.iconst (-1), 1, (0, 0, 0, [])) := rfl
theorem l_Mo_slot_30 : xlk (xm_cd m_Mo_slot) 30 = some (.ireturn, 1, (0, 0, 0, [])) := rfl
theorem l_Mo_slot_31 : xlk (xm_cd m_Mo_slot) 31 = some (.iload_n 2, 1, (0, 0, 0, [])) := rfl
theorem l_Mo_slot_32 : xlk (xm_cd m_Mo_slot) 32 = some (.iconst 2, 1, (0, 0, 0, [])) := rfl
theorem l_Mo_slot_33 : xlk (xm_cd m_Mo_slot) 33 = some (.if_icmp .ne 17, 3, (0, 50, 0, [])) := rfl
theorem l_Mo_slot_36 : xlk (xm_cd m_Mo_slot) 36 = some (.aload_n 0, 1, (0, 0, 0, [])) := rfl
theorem l_Mo_slot_37 : xlk (xm_cd m_Mo_slot) 37 = some (.iload_n 1, 1, (0, 0, 0, [])) := rfl
theorem l_Mo_slot_38 : xlk (xm_cd m_Mo_slot) 38 = some (.invokevirtual 347, 3, (1180, 214, 1, [])) := rfl
theorem l_Mo_slot_41 : xlk (xm_cd m_Mo_slot) 41 = some (.ifCond .eq 7, 3, (0, 48, 0, [])) := rfl
theorem l_Mo_slot_44 : xlk (xm_cd m_Mo_slot) 44 = some (.iconst 1, 1, (0, 0, 0, [])) := rfl
theorem l_Mo_slot_45 : xlk (xm_cd m_Mo_slot) 45 = some (.goto 4, 3, (0, 49, 0, [])) := rfl
theorem l_Mo_slot_48 : xlk (xm_cd m_Mo_slot) 48 = some (.iconst 0, 1, (0, 0, 0, [])) := rfl
theorem l_Mo_slot_49 : xlk (xm_cd m_Mo_slot) 49 = some (.ireturn, 1, (0, 0, 0, [])) := rfl
theorem l_Mo_slot_50 : xlk (xm_cd m_Mo_slot) 50 = some (.aload_n 0, 1, (0, 0, 0, [])) := rfl
theorem l_Mo_slot_51 : xlk (xm_cd m_Mo_slot) 51 = some (.getfield 106, 3, (887, 11, 38, [])) := rfl
theorem l_Mo_slot_54 : xlk (xm_cd m_Mo_slot) 54 = some (.iload_n 1, 1, (0, 0, 0, [])) := rfl
theorem l_Mo_slot_55 : xlk (xm_cd m_Mo_slot) 55 = some (.iaload, 1, (0, 0, 0, [])) := rfl
theorem l_Mo_slot_56 : xlk (xm_cd m_Mo_slot) 56 = some (.ifCond .ge 8, 3, (0, 64, 0, [])) := rfl
theorem l_Mo_slot_59 : xlk (xm_cd m_Mo_slot) 59 = some (.bipush (-2), 2, (0, 0, 0, [])) := rfl
theorem l_Mo_slot_61 : xlk (xm_cd m_Mo_slot) 61 = some (.goto 33, 3, (0, 94, 0, [])) := rfl
theorem l_Mo_slot_64 : xlk (xm_cd m_Mo_slot) 64 = some (.iload_n 2, 1, (0, 0, 0, [])) := rfl
theorem l_Mo_slot_65 : xlk (xm_cd m_Mo_slot) 65 = some (.ifCond .ne 12, 3, (0, 77, 0, [])) := rfl
theorem l_Mo_slot_68 : xlk (xm_cd m_Mo_slot) 68 = some (.aload_n 0, 1, (0, 0, 0, [])) := rfl
theorem l_Mo_slot_69 : xlk (xm_cd m_Mo_slot) 69 = some (.getfield 106, 3, (887, 11, 38, [])) := rfl
theorem l_Mo_slot_72 : xlk (xm_cd m_Mo_slot) 72 = some (.iload_n 1, 1, (0, 0, 0, [])) := rfl
theorem l_Mo_slot_73 : xlk (xm_cd m_Mo_slot) 73 = some (.iaload, 1, (0, 0, 0, [])) := rfl
theorem l_Mo_slot_74 : xlk (xm_cd m_Mo_slot) 74 = some (.goto 20, 3, (0, 94, 0, [])) := rfl
theorem l_Mo_slot_77 : xlk (xm_cd m_Mo_slot) 77 = some (.aload_n 0, 1, (0, 0, 0, [])) := rfl
theorem l_Mo_slot_78 : xlk (xm_cd m_Mo_slot) 78 = some (.getfield 103, 3, (886, 11, 37, [])) := rfl
theorem l_Mo_slot_81 : xlk (xm_cd m_Mo_slot) 81 = some (.bipush 48, 2, (0, 0, 0, [])) := rfl
theorem l_Mo_slot_83 : xlk (xm_cd m_Mo_slot) 83 = some (.iload_n 1, 1, (0, 0, 0, [])) := rfl
theorem l_Mo_slot_84 : xlk (xm_cd m_Mo_slot) 84 = some (.imul, 1, (0, 0, 0, [])) := rfl
theorem l_Mo_slot_85 : xlk (xm_cd m_Mo_slot) 85 = some (.aload_n 0, 1, (0, 0, 0, [])) := rfl
theorem l_Mo_slot_86 : xlk (xm_cd m_Mo_slot) 86 = some (.getfield 106, 3, (887, 11, 38, [])) := rfl
theorem l_Mo_slot_89 : xlk (xm_cd m_Mo_slot) 89 = some (.iload_n 1, 1, (0, 0, 0, [])) := rfl
theorem l_Mo_slot_90 : xlk (xm_cd m_Mo_slot) 90 = some (.iaload, 1, (0, 0, 0, [])) := rfl
theorem l_Mo_slot_91 : xlk (xm_cd m_Mo_slot) 91 = some (.invokestatic 188, 3, (1011, 164, 3, [])) := rfl
theorem l_Mo_slot_94 : xlk (xm_cd m_Mo_slot) 94 = some (.ireturn, 1, (0, 0, 0, [])) := rfl
def B_Mo_slot_0 (d : Nat) (E : Option Value → xH → Prop) (f : xH) (a0 : Nat) (x1 : Int32) (x2 : Int32) : Prop :=
  xpf f a0 11 0 (.int 0) (fun f1 => xbr ((if (0 : Int64) ≤ x1.toInt64 ∧ x1.toInt64 ≤ 29 then (1 : Int32) else 0) = 0) (E (some (.int (-1))) f1) (xbr (¬ (if (0 : Int64) ≤ x2.toInt64 ∧ x2.toInt64 ≤ 2 then (1 : Int32) else 0) = 0) (xbr (¬ x2 = 2) (xgr f1 a0 11 38 (fun r2 => xal f1 r2 0 x1 (fun v3 => xbr ((0 : Int32) ≤ v3) (xbr (¬ x2 = 0) (xgr f1 a0 11 37 (fun r4 => xgr f1 a0 11 38 (fun r5 => xal f1 r5 0 x1 (fun v6 => xSp xT0 d j_Mo_sum [.ref r4, .int (48 * x1), .int v6] f1 (fun w7 f8 => xvi w7 (fun v9 => E (some (.int v9)) f8)))))) (xgr f1 a0 11 38 (fun r10 => xal f1 r10 0 x1 (fun v11 => E (some (.int v11)) f1)))) (E (some (.int (-2))) f1)))) ((∃ fs, f1 a0 = some (xO 11 fs)) ∧ xSp xT0 d j_Mo_isInList [.ref a0, .int x1] f1 (fun w12 f13 => xvi w12 (fun v14 => xbr (v14 = 0) (E (some (.int 0)) f13) (E (some (.int 1)) f13))))) (E (some (.int (-1))) f1)))
theorem b_Mo_slot_0 {d : Nat} {E : Option Value → xH → Prop} {f : xH} {a0 : Nat} {x1 : Int32} {x2 : Int32} (h : B_Mo_slot_0 d E f a0 x1 x2) : xWp (xT0, xSp xT0 d, none, m_Mo_slot, E) 0 [some (.ref a0), some (.int x1), some (.int x2)] [] f 0 0 := by
  unfold B_Mo_slot_0 at h
  refine s_aln l_Mo_slot_0 rfl ?_
  refine s_ic 0 l_Mo_slot_1 rfl ?_
  refine s_pf l_Mo_slot_2 ⟨_, rfl⟩ h (fun f1 h => ?_)
  refine s_iln l_Mo_slot_5 rfl ?_
  refine s_i2l l_Mo_slot_6 ?_
  refine s_lc 0 l_Mo_slot_7 rfl ?_
  refine s_ldc2 29 l_Mo_slot_8 rfl ?_
  refine s_in l_Mo_slot_11 (Nat.le_of_ble_eq_true rfl) ⟨Nat.zero_le _, Nat.zero_le _⟩ ?_
  refine s_if l_Mo_slot_14 h (fun h => ?_) (fun h => ?_)
  · refine s_ic (-1) l_Mo_slot_29 rfl ?_
    exact s_iret l_Mo_slot_30 rfl ⟨Nat.zero_le _, Nat.zero_le _⟩ h
  · refine s_iln l_Mo_slot_17 rfl ?_
    refine s_i2l l_Mo_slot_18 ?_
    refine s_lc 0 l_Mo_slot_19 rfl ?_
    refine s_ldc2 2 l_Mo_slot_20 rfl ?_
    refine s_in l_Mo_slot_23 (Nat.le_of_ble_eq_true rfl) ⟨Nat.zero_le _, Nat.zero_le _⟩ ?_
    refine s_if l_Mo_slot_26 h (fun h => ?_) (fun h => ?_)
    · refine s_iln l_Mo_slot_31 rfl ?_
      refine s_ic 2 l_Mo_slot_32 rfl ?_
      refine s_ifc l_Mo_slot_33 h (fun h => ?_) (fun h => ?_)
      · refine s_aln l_Mo_slot_50 rfl ?_
        refine s_gr l_Mo_slot_51 h (fun r2 h => ?_)
        refine s_iln l_Mo_slot_54 rfl ?_
        refine s_ial l_Mo_slot_55 rfl h (fun v3 h => ?_)
        refine s_if l_Mo_slot_56 h (fun h => ?_) (fun h => ?_)
        · refine s_iln l_Mo_slot_64 rfl ?_
          refine s_if l_Mo_slot_65 h (fun h => ?_) (fun h => ?_)
          · refine s_aln l_Mo_slot_77 rfl ?_
            refine s_gr l_Mo_slot_78 h (fun r4 h => ?_)
            refine s_bp 48 l_Mo_slot_81 rfl ?_
            refine s_iln l_Mo_slot_83 rfl ?_
            refine s_imul l_Mo_slot_84 ?_
            refine s_aln l_Mo_slot_85 rfl ?_
            refine s_gr l_Mo_slot_86 h (fun r5 h => ?_)
            refine s_iln l_Mo_slot_89 rfl ?_
            refine s_ial l_Mo_slot_90 rfl h (fun v6 h => ?_)
            refine s_csi (As := [.ref r4, .int (48 * x1), .int v6]) (r := []) l_Mo_slot_91 rfl ⟨rfl, rfl⟩ rfl (Nat.le_of_ble_eq_true rfl) rfl ⟨Nat.zero_le _, Nat.zero_le _⟩ h (fun v9 f8 h => ?_)
            exact s_iret l_Mo_slot_94 rfl ⟨Nat.zero_le _, Nat.zero_le _⟩ h
          · refine s_aln l_Mo_slot_68 rfl ?_
            refine s_gr l_Mo_slot_69 h (fun r10 h => ?_)
            refine s_iln l_Mo_slot_72 rfl ?_
            refine s_ial l_Mo_slot_73 rfl h (fun v11 h => ?_)
            refine s_goto l_Mo_slot_74 ?_
            exact s_iret l_Mo_slot_94 rfl ⟨Nat.zero_le _, Nat.zero_le _⟩ h
        · refine s_bp (-2) l_Mo_slot_59 rfl ?_
          refine s_goto l_Mo_slot_61 ?_
          exact s_iret l_Mo_slot_94 rfl ⟨Nat.zero_le _, Nat.zero_le _⟩ h
      · refine s_aln l_Mo_slot_36 rfl ?_
        refine s_iln l_Mo_slot_37 rfl ?_
        refine s_cvi (As := [.int x1]) (r := []) l_Mo_slot_38 rfl ⟨rfl, rfl⟩ rfl (Nat.le_of_ble_eq_true rfl) rfl ⟨Nat.zero_le _, Nat.zero_le _⟩ h (fun v14 f13 h => ?_)
        refine s_if l_Mo_slot_41 h (fun h => ?_) (fun h => ?_)
        · refine s_ic 0 l_Mo_slot_48 rfl ?_
          exact s_iret l_Mo_slot_49 rfl ⟨Nat.zero_le _, Nat.zero_le _⟩ h
        · refine s_ic 1 l_Mo_slot_44 rfl ?_
          refine s_goto l_Mo_slot_45 ?_
          exact s_iret l_Mo_slot_49 rfl ⟨Nat.zero_le _, Nat.zero_le _⟩ h
    · refine s_ic (-1) l_Mo_slot_29 rfl ?_
      exact s_iret l_Mo_slot_30 rfl ⟨Nat.zero_le _, Nat.zero_le _⟩ h
theorem l_Mo_count_0 : xlk (xm_cd m_Mo_count) 0 = some (.aload_n 0, 1, (0, 0, 0, [])) := rfl
theorem l_Mo_count_1 : xlk (xm_cd m_Mo_count) 1 = some (.iconst 0, 1, (0, 0, 0, [])) := rfl
theorem l_Mo_count_2 : xlk (xm_cd m_Mo_count) 2 = some (.putfield 1, 3, (849, 11, 0, [(0, 0)])) := rfl
theorem l_Mo_count_5 : xlk (xm_cd m_Mo_count) 5 = some (.iload_n 1, 1, (0, 0, 0, [])) := rfl
theorem l_Mo_count_6 : xlk (xm_cd m_Mo_count) 6 = some (.tableswitch 99 0 7 #[46, 51, 56, 61, 66, 76, 81, 94], 46, (0, 105, 0, [(0, 52), (1, 57), (2, 62), (3, 67), (4, 72), (5, 82), (6, 87), (7, 100)])) := rfl
theorem l_Mo_count_52 : xlk (xm_cd m_Mo_count) 52 = some (.aload_n 0, 1, (0, 0, 0, [])) := rfl
theorem l_Mo_count_53 : xlk (xm_cd m_Mo_count) 53 = some (.getfield 152, 3, (859, 11, 10, [])) := rfl
theorem l_Mo_count_56 : xlk (xm_cd m_Mo_count) 56 = some (.ireturn, 1, (0, 0, 0, [])) := rfl
theorem l_Mo_count_57 : xlk (xm_cd m_Mo_count) 57 = some (.aload_n 0, 1, (0, 0, 0, [])) := rfl
theorem l_Mo_count_58 : xlk (xm_cd m_Mo_count) 58 = some (.getfield 198, 3, (872, 11, 23, [])) := rfl
theorem l_Mo_count_61 : xlk (xm_cd m_Mo_count) 61 = some (.ireturn, 1, (0, 0, 0, [])) := rfl
theorem l_Mo_count_62 : xlk (xm_cd m_Mo_count) 62 = some (.aload_n 0, 1, (0, 0, 0, [])) := rfl
theorem l_Mo_count_63 : xlk (xm_cd m_Mo_count) 63 = some (.getfield 127, 3, (851, 11, 2, [])) := rfl
theorem l_Mo_count_66 : xlk (xm_cd m_Mo_count) 66 = some (.ireturn, 1, (0, 0, 0, [])) := rfl
theorem l_Mo_count_67 : xlk (xm_cd m_Mo_count) 67 = some (.aload_n 0, 1, (0, 0, 0, [])) := rfl
theorem l_Mo_count_68 : xlk (xm_cd m_Mo_count) 68 = some (.getfield 140, 3, (853, 11, 4, [])) := rfl
theorem l_Mo_count_71 : xlk (xm_cd m_Mo_count) 71 = some (.ireturn, 1, (0, 0, 0, [])) := rfl
theorem l_Mo_count_72 : xlk (xm_cd m_Mo_count) 72 = some (.aload_n 0, 1, (0, 0, 0, [])) := rfl
theorem l_Mo_count_73 : xlk (xm_cd m_Mo_count) 73 = some (.getfield 118, 3, (891, 11, 42, [])) := rfl
theorem l_Mo_count_76 : xlk (xm_cd m_Mo_count) 76 = some (.aload_n 0, 1, (0, 0, 0, [])) := rfl
theorem l_Mo_count_77 : xlk (xm_cd m_Mo_count) 77 = some (.getfield 341, 3, (892, 11, 43, [])) := rfl
theorem l_Mo_count_80 : xlk (xm_cd m_Mo_count) 80 = some (.iaload, 1, (0, 0, 0, [])) := rfl
theorem l_Mo_count_81 : xlk (xm_cd m_Mo_count) 81 = some (.ireturn, 1, (0, 0, 0, [])) := rfl
theorem l_Mo_count_82 : xlk (xm_cd m_Mo_count) 82 = some (.aload_n 0, 1, (0, 0, 0, [])) := rfl
theorem l_Mo_count_83 : xlk (xm_cd m_Mo_count) 83 = some (.getfield 338, 3, (895, 11, 46, [])) := rfl
theorem l_Mo_count_86 : xlk (xm_cd m_Mo_count) 86 = some (.ireturn, 1, (0, 0, 0, [])) := rfl
theorem l_Mo_count_87 : xlk (xm_cd m_Mo_count) 87 = some (.aload_n 0, 1, (0, 0, 0, [])) := rfl
theorem l_Mo_count_88 : xlk (xm_cd m_Mo_count) 88 = some (.getfield 334, 3, (894, 11, 45, [])) := rfl
theorem l_Mo_count_91 : xlk (xm_cd m_Mo_count) 91 = some (.ifCond .eq 7, 3, (0, 98, 0, [])) := rfl
theorem l_Mo_count_94 : xlk (xm_cd m_Mo_count) 94 = some (.iconst 1, 1, (0, 0, 0, [])) := rfl
theorem l_Mo_count_95 : xlk (xm_cd m_Mo_count) 95 = some (.goto 4, 3, (0, 99, 0, [])) := rfl
theorem l_Mo_count_98 : xlk (xm_cd m_Mo_count) 98 = some (.iconst 0, 1, (0, 0, 0, [])) := rfl
theorem l_Mo_count_99 : xlk (xm_cd m_Mo_count) 99 = some (.ireturn, 1, (0, 0, 0, [])) := rfl
theorem l_Mo_count_100 : xlk (xm_cd m_Mo_count) 100 = some (.aload_n 0, 1, (0, 0, 0, [])) := rfl
theorem l_Mo_count_101 : xlk (xm_cd m_Mo_count) 101 = some (.getfield 341, 3, (892, 11, 43, [])) := rfl
theorem l_Mo_count_104 : xlk (xm_cd m_Mo_count) 104 = some (.ireturn, 1, (0, 0, 0, [])) := rfl
theorem l_Mo_count_105 : xlk (xm_cd m_Mo_count) 105 = some (.iconst (-1), 1, (0, 0, 0, [])) := rfl
theorem l_Mo_count_106 : xlk (xm_cd m_Mo_count) 106 = some (.ireturn, 1, (0, 0, 0, [])) := rfl
def B_Mo_count_0 (d : Nat) (E : Option Value → xH → Prop) (f : xH) (a0 : Nat) (x1 : Int32) : Prop :=
  xpf f a0 11 0 (.int 0) (fun f1 => xbr (x1 = 0) (xgi f1 a0 11 10 (fun v2 => E (some (.int v2)) f1)) (xbr (x1 = 1) (xgi f1 a0 11 23 (fun v3 => E (some (.int v3)) f1)) (xbr (x1 = 2) (xgi f1 a0 11 2 (fun v4 => E (some (.int v4)) f1)) (xbr (x1 = 3) (xgi f1 a0 11 4 (fun v5 => E (some (.int v5)) f1)) (xbr (x1 = 4) (xgr f1 a0 11 42 (fun r6 => xgi f1 a0 11 43 (fun v7 => xal f1 r6 0 v7 (fun v8 => E (some (.int v8)) f1)))) (xbr (x1 = 5) (xgi f1 a0 11 46 (fun v9 => E (some (.int v9)) f1)) (xbr (x1 = 6) (xgi f1 a0 11 45 (fun v10 => xbr (v10 = 0) (E (some (.int 0)) f1) (E (some (.int 1)) f1))) (xbr (x1 = 7) (xgi f1 a0 11 43 (fun v11 => E (some (.int v11)) f1)) (E (some (.int (-1))) f1)))))))))
theorem b_Mo_count_0 {d : Nat} {E : Option Value → xH → Prop} {f : xH} {a0 : Nat} {x1 : Int32} (h : B_Mo_count_0 d E f a0 x1) : xWp (xT0, xSp xT0 d, none, m_Mo_count, E) 0 [some (.ref a0), some (.int x1)] [] f 0 0 := by
  unfold B_Mo_count_0 at h
  refine s_aln l_Mo_count_0 rfl ?_
  refine s_ic 0 l_Mo_count_1 rfl ?_
  refine s_pf l_Mo_count_2 ⟨_, rfl⟩ h (fun f1 h => ?_)
  refine s_iln l_Mo_count_5 rfl ?_
  refine s_ts l_Mo_count_6 ⟨fun q0 => ?_, fun n0 => ⟨fun q1 => ?_, fun n1 => ⟨fun q2 => ?_, fun n2 => ⟨fun q3 => ?_, fun n3 => ⟨fun q4 => ?_, fun n4 => ⟨fun q5 => ?_, fun n5 => ⟨fun q6 => ?_, fun n6 => ⟨fun q7 => ?_, fun n7 => ?_⟩⟩⟩⟩⟩⟩⟩⟩
  · have h := (h).1 q0
    refine s_aln l_Mo_count_52 rfl ?_
    refine s_gi l_Mo_count_53 h (fun v2 h => ?_)
    exact s_iret l_Mo_count_56 rfl ⟨Nat.zero_le _, Nat.zero_le _⟩ h
  · have h := ((h).2 n0).1 q1
    refine s_aln l_Mo_count_57 rfl ?_
    refine s_gi l_Mo_count_58 h (fun v3 h => ?_)
    exact s_iret l_Mo_count_61 rfl ⟨Nat.zero_le _, Nat.zero_le _⟩ h
  · have h := (((h).2 n0).2 n1).1 q2
    refine s_aln l_Mo_count_62 rfl ?_
    refine s_gi l_Mo_count_63 h (fun v4 h => ?_)
    exact s_iret l_Mo_count_66 rfl ⟨Nat.zero_le _, Nat.zero_le _⟩ h
  · have h := ((((h).2 n0).2 n1).2 n2).1 q3
    refine s_aln l_Mo_count_67 rfl ?_
    refine s_gi l_Mo_count_68 h (fun v5 h => ?_)
    exact s_iret l_Mo_count_71 rfl ⟨Nat.zero_le _, Nat.zero_le _⟩ h
  · have h := (((((h).2 n0).2 n1).2 n2).2 n3).1 q4
    refine s_aln l_Mo_count_72 rfl ?_
    refine s_gr l_Mo_count_73 h (fun r6 h => ?_)
    refine s_aln l_Mo_count_76 rfl ?_
    refine s_gi l_Mo_count_77 h (fun v7 h => ?_)
    refine s_ial l_Mo_count_80 rfl h (fun v8 h => ?_)
    exact s_iret l_Mo_count_81 rfl ⟨Nat.zero_le _, Nat.zero_le _⟩ h
  · have h := ((((((h).2 n0).2 n1).2 n2).2 n3).2 n4).1 q5
    refine s_aln l_Mo_count_82 rfl ?_
    refine s_gi l_Mo_count_83 h (fun v9 h => ?_)
    exact s_iret l_Mo_count_86 rfl ⟨Nat.zero_le _, Nat.zero_le _⟩ h
  · have h := (((((((h).2 n0).2 n1).2 n2).2 n3).2 n4).2 n5).1 q6
    refine s_aln l_Mo_count_87 rfl ?_
    refine s_gi l_Mo_count_88 h (fun v10 h => ?_)
    refine s_if l_Mo_count_91 h (fun h => ?_) (fun h => ?_)
    · refine s_ic 0 l_Mo_count_98 rfl ?_
      exact s_iret l_Mo_count_99 rfl ⟨Nat.zero_le _, Nat.zero_le _⟩ h
    · refine s_ic 1 l_Mo_count_94 rfl ?_
      refine s_goto l_Mo_count_95 ?_
      exact s_iret l_Mo_count_99 rfl ⟨Nat.zero_le _, Nat.zero_le _⟩ h
  · have h := ((((((((h).2 n0).2 n1).2 n2).2 n3).2 n4).2 n5).2 n6).1 q7
    refine s_aln l_Mo_count_100 rfl ?_
    refine s_gi l_Mo_count_101 h (fun v11 h => ?_)
    exact s_iret l_Mo_count_104 rfl ⟨Nat.zero_le _, Nat.zero_le _⟩ h
  · have h := ((((((((h).2 n0).2 n1).2 n2).2 n3).2 n4).2 n5).2 n6).2 n7
    refine s_ic (-1) l_Mo_count_105 rfl ?_
    exact s_iret l_Mo_count_106 rfl ⟨Nat.zero_le _, Nat.zero_le _⟩ h
