/-! blocks of Mo, 2 -/
theorem l_Mo_patch_0 : xlk (xm_cd m_Mo_patch) 0 = some (.aload_n 0, 1, (0, 0, 0, [])) := rfl
theorem l_Mo_patch_1 : xlk (xm_cd m_Mo_patch) 1 = some (.iconst 0, 1, (0, 0, 0, [])) := rfl
theorem l_Mo_patch_2 : xlk (xm_cd m_Mo_patch) 2 = some (.putfield 1, 3, (849, 11, 0, [(0, 0)])) := rfl
theorem l_Mo_patch_5 : xlk (xm_cd m_Mo_patch) 5 = some (.aload_n 0, 1, (0, 0, 0, [])) := rfl
theorem l_Mo_patch_6 : xlk (xm_cd m_Mo_patch) 6 = some (.iload_n 1, 1, (0, 0, 0, [])) := rfl
theorem l_Mo_patch_7 : xlk (xm_cd m_Mo_patch) 7 = some (.invokevirtual 170, 3, (968, 151, 1, [])) := rfl
theorem l_Mo_patch_10 : xlk (xm_cd m_Mo_patch) 10 = some (.ifCond .ne 11, 3, (0, 21, 0, [])) := rfl
theorem l_Mo_patch_13 : xlk (xm_cd m_Mo_patch) 13 = some (.aload_n 0, 1, (0, 0, 0, [])) := rfl
theorem l_Mo_patch_14 : xlk (xm_cd m_Mo_patch) 14 = some (.iload_n 2, 1, (0, 0, 0, [])) := rfl
theorem l_Mo_patch_15 : xlk (xm_cd m_Mo_patch) 15 = some (.invokevirtual 170, 3, (968, 151, 1, [])) := rfl
theorem l_Mo_patch_18 : xlk (xm_cd m_Mo_patch) 18 = some (.ifCond .eq 5, 3, (0, 23, 0, [])) := rfl
theorem l_Mo_patch_21 : xlk (xm_cd m_Mo_patch) 21 = some (.iconst (-1), 1, (0, 0, 0, [])) := rfl
theorem l_Mo_patch_22 : xlk (xm_cd m_Mo_patch) 22 = some (.ireturn, 1, (0, 0, 0, [])) := rfl
theorem l_Mo_patch_23 : xlk (xm_cd m_Mo_patch) 23 = some (.aload_n 0, 1, (0, 0, 0, [])) := rfl
theorem l_Mo_patch_24 : xlk (xm_cd m_Mo_patch) 24 = some (.getfield 198, 3, (872, 11, 23, [])) := rfl
theorem l_Mo_patch_27 : xlk (xm_cd m_Mo_patch) 27 = some (.bipush 8, 2, (0, 0, 0, [])) := rfl
theorem l_Mo_patch_29 : xlk (xm_cd m_Mo_patch) 29 = some (.if_icmp .ne 6, 3, (0, 35, 0, [])) := rfl
theorem l_Mo_patch_32 : xlk (xm_cd m_Mo_patch) 32 = some (.bipush (-3), 2, (0, 0, 0, [])) := rfl
theorem l_Mo_patch_34 : xlk (xm_cd m_Mo_patch) 34 = some (.ireturn, 1, (0, 0, 0, [])) := rfl
theorem l_Mo_patch_35 : xlk (xm_cd m_Mo_patch) 35 = some (.aload_n 0, 1, (0, 0, 0, [])) := rfl
theorem l_Mo_patch_36 : xlk (xm_cd m_Mo_patch) 36 = some (.getfield 198, 3, (872, 11, 23, [])) := rfl
theorem l_Mo_patch_39 : xlk (xm_cd m_Mo_patch) 39 = some (.istore_n 3, 1, (0, 0, 0, [])) := rfl
theorem l_Mo_patch_40 : xlk (xm_cd m_Mo_patch) 40 = some (.aload_n 0, 1, (0, 0, 0, [])) := rfl
theorem l_Mo_patch_41 : xlk (xm_cd m_Mo_patch) 41 = some (.getfield 69, 3, (871, 11, 22, [])) := rfl
theorem l_Mo_patch_44 : xlk (xm_cd m_Mo_patch) 44 = some (.iload_n 3, 1, (0, 0, 0, [])) := rfl
theorem l_Mo_patch_45 : xlk (xm_cd m_Mo_patch) 45 = some (.iconst 0, 1, (0, 0, 0, [])) := rfl
theorem l_Mo_patch_46 : xlk (xm_cd m_Mo_patch) 46 = some (.iastore, 1, (0, 0, 0, [])) := rfl
theorem l_Mo_patch_47 : xlk (xm_cd m_Mo_patch) 47 = some (.iconst 0, 1, (0, 0, 0, [])) := rfl
theorem l_Mo_patch_48 : xlk (xm_cd m_Mo_patch) 48 = some (.istore 4, 2, (0, 0, 0, [])) := rfl
theorem l_Mo_patch_50 : xlk (xm_cd m_Mo_patch) 50 = some (.iload 4, 2, (0, 0, 0, [])) := rfl
theorem l_Mo_patch_52 : xlk (xm_cd m_Mo_patch) 52 = some (.aload_n 0, 1, (0, 0, 0, [])) := rfl
theorem l_Mo_patch_53 : xlk (xm_cd m_Mo_patch) 53 = some (.getfield 33, 3, (858, 11, 9, [])) := rfl
theorem l_Mo_patch_56 : xlk (xm_cd m_Mo_patch) 56 = some (.iload_n 1, 1, (0, 0, 0, [])) := rfl
theorem l_Mo_patch_57 : xlk (xm_cd m_Mo_patch) 57 = some (.iaload, 1, (0, 0, 0, [])) := rfl
theorem l_Mo_patch_58 : xlk (xm_cd m_Mo_patch) 58 = some (.if_icmp .ge 55, 3, (0, 113, 0, [])) := rfl
theorem l_Mo_patch_61 : xlk (xm_cd m_Mo_patch) 61 = some (.aload_n 0, 1, (0, 0, 0, [])) := rfl
theorem l_Mo_patch_62 : xlk (xm_cd m_Mo_patch) 62 = some (.getfield 81, 3, (876, 11, 27, [])) := rfl
theorem l_Mo_patch_65 : xlk (xm_cd m_Mo_patch) 65 = some (.iload 4, 2, (0, 0, 0, [])) := rfl
theorem l_Mo_patch_67 : xlk (xm_cd m_Mo_patch) 67 = some (.aload_n 0, 1, (0, 0, 0, [])) := rfl
theorem l_Mo_patch_68 : xlk (xm_cd m_Mo_patch) 68 = some (.iload_n 2, 1, (0, 0, 0, [])) := rfl
theorem l_Mo_patch_69 : xlk (xm_cd m_Mo_patch) 69 = some (.aload_n 0, 1, (0, 0, 0, [])) := rfl
theorem l_Mo_patch_70 : xlk (xm_cd m_Mo_patch) 70 = some (.getfield 20, 3, (854, 11, 5, [])) := rfl
theorem l_Mo_patch_73 : xlk (xm_cd m_Mo_patch) 73 = some (.bipush 18, 2, (0, 0, 0, [])) := rfl
theorem l_Mo_patch_75 : xlk (xm_cd m_Mo_patch) 75 = some (.iload_n 1, 1, (0, 0, 0, [])) := rfl
theorem l_Mo_patch_76 : xlk (xm_cd m_Mo_patch) 76 = some (.iload 4, 2, (0, 0, 0, [])) := rfl
theorem l_Mo_patch_78 : xlk (xm_cd m_Mo_patch) 78 = some (.invokestatic 155, 3, (971, 152, 2, [])) := rfl
theorem l_Mo_patch_81 : xlk (xm_cd m_Mo_patch) 81 = some (.imul, 1, (0, 0, 0, [])) := rfl
theorem l_Mo_patch_82 : xlk (xm_cd m_Mo_patch) 82 = some (.aload_n 0, 1, (0, 0, 0, [])) := rfl
theorem l_Mo_patch_83 : xlk (xm_cd m_Mo_patch) 83 = some (.getfield 23, 3, (855, 11, 6, [])) := rfl
theorem l_Mo_patch_86 : xlk (xm_cd m_Mo_patch) 86 = some (.iload_n 1, 1, (0, 0, 0, [])) := rfl
theorem l_Mo_patch_87 : xlk (xm_cd m_Mo_patch) 87 = some (.iload 4, 2, (0, 0, 0, [])) := rfl
theorem l_Mo_patch_89 : xlk (xm_cd m_Mo_patch) 89 = some (.invokestatic 155, 3, (971, 152, 2, [])) := rfl
theorem l_Mo_patch_92 : xlk (xm_cd m_Mo_patch) 92 = some (.iaload, 1, (0, 0, 0, [])) := rfl
theorem l_Mo_patch_93 : xlk (xm_cd m_Mo_patch) 93 = some (.invokevirtual 174, 3, (984, 156, 4, [])) := rfl
theorem l_Mo_patch_96 : xlk (xm_cd m_Mo_patch) 96 = some (.ifCond .lt 8, 3, (0, 104, 0, [])) := rfl
theorem l_Mo_patch_99 : xlk (xm_cd m_Mo_patch) 99 = some (.bipush (-3), 2, (0, 0, 0, [])) := rfl
theorem l_Mo_patch_101 : xlk (xm_cd m_Mo_patch) 101 = some (.goto 5, 3, (0, 106, 0, [])) := rfl
theorem l_Mo_patch_104 : xlk (xm_cd m_Mo_patch) 104 = some (.bipush (-2), 2, (0, 0, 0, [])) := rfl
theorem l_Mo_patch_106 : xlk (xm_cd m_Mo_patch) 106 = some (.iastore, 1, (0, 0, 0, [])) := rfl
theorem l_Mo_patch_107 : xlk (xm_cd m_Mo_patch) 107 = some (.iinc 4 1, 3, (0, 0, 0, [])) := rfl
theorem l_Mo_patch_110 : xlk (xm_cd m_Mo_patch) 110 = some (.goto (-60), 3, (0, 50, 0, [])) := rfl
theorem l_Mo_patch_113 : xlk (xm_cd m_Mo_patch) 113 = some (.iconst 0, 1, (0, 0, 0, [])) := rfl
theorem l_Mo_patch_114 : xlk (xm_cd m_Mo_patch) 114 = some (.istore 4, 2, (0, 0, 0, [])) := rfl
theorem l_Mo_patch_116 : xlk (xm_cd m_Mo_patch) 116 = some (.iload 4, 2, (0, 0, 0, [])) := rfl
theorem l_Mo_patch_118 : xlk (xm_cd m_Mo_patch) 118 = some (.aload_n 0, 1, (0, 0, 0, [])) := rfl
theorem l_Mo_patch_119 : xlk (xm_cd m_Mo_patch) 119 = some (.getfield 33, 3, (858, 11, 9, [])) := rfl
theorem l_Mo_patch_122 : xlk (xm_cd m_Mo_patch) 122 = some (.iload_n 2, 1, (0, 0, 0, [])) := rfl
theorem l_Mo_patch_123 : xlk (xm_cd m_Mo_patch) 123 = some (.iaload, 1, (0, 0, 0, [])) := rfl
theorem l_Mo_patch_124 : xlk (xm_cd m_Mo_patch) 124 = some (.if_icmp .ge 102, 3, (0, 226, 0, [])) := rfl
theorem l_Mo_patch_127 : xlk (xm_cd m_Mo_patch) 127 = some (.aload_n 0, 1, (0, 0, 0, [])) := rfl
theorem l_Mo_patch_128 : xlk (xm_cd m_Mo_patch) 128 = some (.iload_n 1, 1, (0, 0, 0, [])) := rfl
theorem l_Mo_patch_129 : xlk (xm_cd m_Mo_patch) 129 = some (.aload_n 0, 1, (0, 0, 0, [])) := rfl
theorem l_Mo_patch_130 : xlk (xm_cd m_Mo_patch) 130 = some (.getfield 20, 3, (854, 11, 5, [])) := rfl
theorem l_Mo_patch_133 : xlk (xm_cd m_Mo_patch) 133 = some (.bipush 18, 2, (0, 0, 0, [])) := rfl
theorem l_Mo_patch_135 : xlk (xm_cd m_Mo_patch) 135 = some (.iload_n 2, 1, (0, 0, 0, [])) := rfl
theorem l_Mo_patch_136 : xlk (xm_cd m_Mo_patch) 136 = some (.iload 4, 2, (0, 0, 0, [])) := rfl
theorem l_Mo_patch_138 : xlk (xm_cd m_Mo_patch) 138 = some (.invokestatic 155, 3, (971, 152, 2, [])) := rfl
theorem l_Mo_patch_141 : xlk (xm_cd m_Mo_patch) 141 = some (.imul, 1, (0, 0, 0, [])) := rfl
theorem l_Mo_patch_142 : xlk (xm_cd m_Mo_patch) 142 = some (.aload_n 0, 1, (0, 0, 0, [])) := rfl
theorem l_Mo_patch_143 : xlk (xm_cd m_Mo_patch) 143 = some (.getfield 23, 3, (855, 11, 6, [])) := rfl
theorem l_Mo_patch_146 : xlk (xm_cd m_Mo_patch) 146 = some (.iload_n 2, 1, (0, 0, 0, [])) := rfl
set_option maxRecDepth 20000 in
theorem l_Mo_patch_147 : xlk (xm_cd m_Mo_patch) 147 = some (.iload 4, 2, (0, 0, 0, [])) := rfl
set_option maxRecDepth 20000 in
theorem l_Mo_patch_149 : xlk (xm_cd m_Mo_patch) 149 = some (.invokestatic 155, 3, (971, 152, 2, [])) := rfl
set_option maxRecDepth 20000 in
theorem l_Mo_patch_152 : xlk (xm_cd m_Mo_patch) 152 = some (.iaload, 1, (0, 0, 0, [])) := rfl
set_option maxRecDepth 20000 in
theorem l_Mo_patch_153 : xlk (xm_cd m_Mo_patch) 153 = some (.invokevirtual 174, 3, (984, 156, 4, [])) := rfl
set_option maxRecDepth 20000 in
theorem l_Mo_patch_156 : xlk (xm_cd m_Mo_patch) 156 = some (.istore 5, 2, (0, 0, 0, [])) := rfl
set_option maxRecDepth 20000 in
theorem l_Mo_patch_158 : xlk (xm_cd m_Mo_patch) 158 = some (.aload_n 0, 1, (0, 0, 0, [])) := rfl
set_option maxRecDepth 20000 in
theorem l_Mo_patch_159 : xlk (xm_cd m_Mo_patch) 159 = some (.getfield 84, 3, (877, 11, 28, [])) := rfl
set_option maxRecDepth 20000 in
theorem l_Mo_patch_162 : xlk (xm_cd m_Mo_patch) 162 = some (.iload 4, 2, (0, 0, 0, [])) := rfl
set_option maxRecDepth 20000 in
theorem l_Mo_patch_164 : xlk (xm_cd m_Mo_patch) 164 = some (.iload 5, 2, (0, 0, 0, [])) := rfl
set_option maxRecDepth 20000 in
theorem l_Mo_patch_166 : xlk (xm_cd m_Mo_patch) 166 = some (.ifCond .lt 8, 3, (0, 174, 0, [])) := rfl
set_option maxRecDepth 20000 in
theorem l_Mo_patch_169 : xlk (xm_cd m_Mo_patch) 169 = some (.bipush (-3), 2, (0, 0, 0, [])) := rfl
set_option maxRecDepth 20000 in
theorem l_Mo_patch_171 : xlk (xm_cd m_Mo_patch) 171 = some (.goto 5, 3, (0, 176, 0, [])) := rfl
set_option maxRecDepth 20000 in
theorem l_Mo_patch_174 : xlk (xm_cd m_Mo_patch) 174 = some (.bipush (-2), 2, (0, 0, 0, [])) := rfl
set_option maxRecDepth 20000 in
theorem l_Mo_patch_176 : xlk (xm_cd m_Mo_patch) 176 = some (.iastore, 1, (0, 0, 0, [])) := rfl
set_option maxRecDepth 20000 in
theorem l_Mo_patch_177 : xlk (xm_cd m_Mo_patch) 177 = some (.iload 5, 2, (0, 0, 0, [])) := rfl
set_option maxRecDepth 20000 in
theorem l_Mo_patch_179 : xlk (xm_cd m_Mo_patch) 179 = some (.ifCond .lt 41, 3, (0, 220, 0, [])) := rfl
set_option maxRecDepth 20000 in
theorem l_Mo_patch_182 : xlk (xm_cd m_Mo_patch) 182 = some (.aload_n 0, 1, (0, 0, 0, [])) := rfl
set_option maxRecDepth 20000 in
theorem l_Mo_patch_183 : xlk (xm_cd m_Mo_patch) 183 = some (.iload_n 1, 1, (0, 0, 0, [])) := rfl
set_option maxRecDepth 20000 in
theorem l_Mo_patch_184 : xlk (xm_cd m_Mo_patch) 184 = some (.iload 5, 2, (0, 0, 0, [])) := rfl
set_option maxRecDepth 20000 in
theorem l_Mo_patch_186 : xlk (xm_cd m_Mo_patch) 186 = some (.invokestatic 155, 3, (971, 152, 2, [])) := rfl
set_option maxRecDepth 20000 in
theorem l_Mo_patch_189 : xlk (xm_cd m_Mo_patch) 189 = some (.iload_n 2, 1, (0, 0, 0, [])) := rfl
set_option maxRecDepth 20000 in
theorem l_Mo_patch_190 : xlk (xm_cd m_Mo_patch) 190 = some (.iload 4, 2, (0, 0, 0, [])) := rfl
set_option maxRecDepth 20000 in
theorem l_Mo_patch_192 : xlk (xm_cd m_Mo_patch) 192 = some (.invokestatic 155, 3, (971, 152, 2, [])) := rfl
set_option maxRecDepth 20000 in
theorem l_Mo_patch_195 : xlk (xm_cd m_Mo_patch) 195 = some (.invokevirtual 194, 3, (1024, 167, 2, [])) := rfl
set_option maxRecDepth 20000 in
theorem l_Mo_patch_198 : xlk (xm_cd m_Mo_patch) 198 = some (.ifCond .ne 22, 3, (0, 220, 0, [])) := rfl
set_option maxRecDepth 20000 in
theorem l_Mo_patch_201 : xlk (xm_cd m_Mo_patch) 201 = some (.aload_n 0, 1, (0, 0, 0, [])) := rfl
set_option maxRecDepth 20000 in
theorem l_Mo_patch_202 : xlk (xm_cd m_Mo_patch) 202 = some (.iload_n 3, 1, (0, 0, 0, [])) := rfl
set_option maxRecDepth 20000 in
theorem l_Mo_patch_203 : xlk (xm_cd m_Mo_patch) 203 = some (.iconst 2, 1, (0, 0, 0, [])) := rfl
set_option maxRecDepth 20000 in
theorem l_Mo_patch_204 : xlk (xm_cd m_Mo_patch) 204 = some (.iload_n 1, 1, (0, 0, 0, [])) := rfl
set_option maxRecDepth 20000 in
theorem l_Mo_patch_205 : xlk (xm_cd m_Mo_patch) 205 = some (.iload 5, 2, (0, 0, 0, [])) := rfl
set_option maxRecDepth 20000 in
theorem l_Mo_patch_207 : xlk (xm_cd m_Mo_patch) 207 = some (.invokestatic 155, 3, (971, 152, 2, [])) := rfl
set_option maxRecDepth 20000 in
theorem l_Mo_patch_210 : xlk (xm_cd m_Mo_patch) 210 = some (.iload_n 2, 1, (0, 0, 0, [])) := rfl
set_option maxRecDepth 20000 in
theorem l_Mo_patch_211 : xlk (xm_cd m_Mo_patch) 211 = some (.iload 4, 2, (0, 0, 0, [])) := rfl
set_option maxRecDepth 20000 in
theorem l_Mo_patch_213 : xlk (xm_cd m_Mo_patch) 213 = some (.invokestatic 155, 3, (971, 152, 2, [])) := rfl
set_option maxRecDepth 20000 in
theorem l_Mo_patch_216 : xlk (xm_cd m_Mo_patch) 216 = some (.iconst 0, 1, (0, 0, 0, [])) := rfl
set_option maxRecDepth 20000 in
theorem l_Mo_patch_217 : xlk (xm_cd m_Mo_patch) 217 = some (.invokevirtual 240, 3, (1035, 170, 5, [])) := rfl
set_option maxRecDepth 20000 in
theorem l_Mo_patch_220 : xlk (xm_cd m_Mo_patch) 220 = some (.iinc 4 1, 3, (0, 0, 0, [])) := rfl
set_option maxRecDepth 20000 in
theorem l_Mo_patch_223 : xlk (xm_cd m_Mo_patch) 223 = some (.goto (-107), 3, (0, 116, 0, [])) := rfl
set_option maxRecDepth 20000 in
theorem l_Mo_patch_226 : xlk (xm_cd m_Mo_patch) 226 = some (.aload_n 0, 1, (0, 0, 0, [])) := rfl
set_option maxRecDepth 20000 in
theorem l_Mo_patch_227 : xlk (xm_cd m_Mo_patch) 227 = some (.iload_n 1, 1, (0, 0, 0, [])) := rfl
set_option maxRecDepth 20000 in
theorem l_Mo_patch_228 : xlk (xm_cd m_Mo_patch) 228 = some (.iload_n 2, 1, (0, 0, 0, [])) := rfl
set_option maxRecDepth 20000 in
theorem l_Mo_patch_229 : xlk (xm_cd m_Mo_patch) 229 = some (.invokevirtual 244, 3, (1065, 180, 2, [])) := rfl
set_option maxRecDepth 20000 in
theorem l_Mo_patch_232 : xlk (xm_cd m_Mo_patch) 232 = some (.iconst 0, 1, (0, 0, 0, [])) := rfl
set_option maxRecDepth 20000 in
theorem l_Mo_patch_233 : xlk (xm_cd m_Mo_patch) 233 = some (.istore 4, 2, (0, 0, 0, [])) := rfl
set_option maxRecDepth 20000 in
theorem l_Mo_patch_235 : xlk (xm_cd m_Mo_patch) 235 = some (.iload 4, 2, (0, 0, 0, [])) := rfl
set_option maxRecDepth 20000 in
theorem l_Mo_patch_237 : xlk (xm_cd m_Mo_patch) 237 = some (.aload_n 0, 1, (0, 0, 0, [])) := rfl
set_option maxRecDepth 20000 in
theorem l_Mo_patch_238 : xlk (xm_cd m_Mo_patch) 238 = some (.getfield 33, 3, (858, 11, 9, [])) := rfl
set_option maxRecDepth 20000 in
theorem l_Mo_patch_241 : xlk (xm_cd m_Mo_patch) 241 = some (.iload_n 2, 1, (0, 0, 0, [])) := rfl
set_option maxRecDepth 20000 in
theorem l_Mo_patch_242 : xlk (xm_cd m_Mo_patch) 242 = some (.iaload, 1, (0, 0, 0, [])) := rfl
set_option maxRecDepth 20000 in
theorem l_Mo_patch_243 : xlk (xm_cd m_Mo_patch) 243 = some (.if_icmp .ge 43, 3, (0, 286, 0, [])) := rfl
set_option maxRecDepth 20000 in
theorem l_Mo_patch_246 : xlk (xm_cd m_Mo_patch) 246 = some (.aload_n 0, 1, (0, 0, 0, [])) := rfl
set_option maxRecDepth 20000 in
theorem l_Mo_patch_247 : xlk (xm_cd m_Mo_patch) 247 = some (.getfield 84, 3, (877, 11, 28, [])) := rfl
set_option maxRecDepth 20000 in
theorem l_Mo_patch_250 : xlk (xm_cd m_Mo_patch) 250 = some (.iload 4, 2, (0, 0, 0, [])) := rfl
set_option maxRecDepth 20000 in
theorem l_Mo_patch_252 : xlk (xm_cd m_Mo_patch) 252 = some (.iaload, 1, (0, 0, 0, [])) := rfl
set_option maxRecDepth 20000 in
theorem l_Mo_patch_253 : xlk (xm_cd m_Mo_patch) 253 = some (.ifCond .lt 27, 3, (0, 280, 0, [])) := rfl
set_option maxRecDepth 20000 in
theorem l_Mo_patch_256 : xlk (xm_cd m_Mo_patch) 256 = some (.aload_n 0, 1, (0, 0, 0, [])) := rfl
set_option maxRecDepth 20000 in
theorem l_Mo_patch_257 : xlk (xm_cd m_Mo_patch) 257 = some (.iload_n 3, 1, (0, 0, 0, [])) := rfl
set_option maxRecDepth 20000 in
theorem l_Mo_patch_258 : xlk (xm_cd m_Mo_patch) 258 = some (.iconst 3, 1, (0, 0, 0, [])) := rfl
set_option maxRecDepth 20000 in
theorem l_Mo_patch_259 : xlk (xm_cd m_Mo_patch) 259 = some (.iload_n 1, 1, (0, 0, 0, [])) := rfl
set_option maxRecDepth 20000 in
theorem l_Mo_patch_260 : xlk (xm_cd m_Mo_patch) 260 = some (.aload_n 0, 1, (0, 0, 0, [])) := rfl
set_option maxRecDepth 20000 in
theorem l_Mo_patch_261 : xlk (xm_cd m_Mo_patch) 261 = some (.getfield 84, 3, (877, 11, 28, [])) := rfl
set_option maxRecDepth 20000 in
theorem l_Mo_patch_264 : xlk (xm_cd m_Mo_patch) 264 = some (.iload 4, 2, (0, 0, 0, [])) := rfl
set_option maxRecDepth 20000 in
theorem l_Mo_patch_266 : xlk (xm_cd m_Mo_patch) 266 = some (.iaload, 1, (0, 0, 0, [])) := rfl
set_option maxRecDepth 20000 in
theorem l_Mo_patch_267 : xlk (xm_cd m_Mo_patch) 267 = some (.invokestatic 155, 3, (971, 152, 2, [])) := rfl
set_option maxRecDepth 20000 in
theorem l_Mo_patch_270 : xlk (xm_cd m_Mo_patch) 270 = some (.iload_n 2, 1, (0, 0, 0, [])) := rfl
set_option maxRecDepth 20000 in
theorem l_Mo_patch_271 : xlk (xm_cd m_Mo_patch) 271 = some (.iload 4, 2, (0, 0, 0, [])) := rfl
set_option maxRecDepth 20000 in
theorem l_Mo_patch_273 : xlk (xm_cd m_Mo_patch) 273 = some (.invokestatic 155, 3, (971, 152, 2, [])) := rfl
set_option maxRecDepth 20000 in
theorem l_Mo_patch_276 : xlk (xm_cd m_Mo_patch) 276 = some (.iconst 1, 1, (0, 0, 0, [])) := rfl
set_option maxRecDepth 20000 in
theorem l_Mo_patch_277 : xlk (xm_cd m_Mo_patch) 277 = some (.invokevirtual 240, 3, (1035, 170, 5, [])) := rfl
set_option maxRecDepth 20000 in
theorem l_Mo_patch_280 : xlk (xm_cd m_Mo_patch) 280 = some (.iinc 4 1, 3, (0, 0, 0, [])) := rfl
set_option maxRecDepth 20000 in
theorem l_Mo_patch_283 : xlk (xm_cd m_Mo_patch) 283 = some (.goto (-48), 3, (0, 235, 0, [])) := rfl
set_option maxRecDepth 20000 in
theorem l_Mo_patch_286 : xlk (xm_cd m_Mo_patch) 286 = some (.iconst 1, 1, (0, 0, 0, [])) := rfl
set_option maxRecDepth 20000 in
theorem l_Mo_patch_287 : xlk (xm_cd m_Mo_patch) 287 = some (.istore 4, 2, (0, 0, 0, [])) := rfl
set_option maxRecDepth 20000 in
theorem l_Mo_patch_289 : xlk (xm_cd m_Mo_patch) 289 = some (.iload 4, 2, (0, 0, 0, [])) := rfl
set_option maxRecDepth 20000 in
theorem l_Mo_patch_291 : xlk (xm_cd m_Mo_patch) 291 = some (.ifCond .eq 15, 3, (0, 306, 0, [])) := rfl
set_option maxRecDepth 20000 in
theorem l_Mo_patch_294 : xlk (xm_cd m_Mo_patch) 294 = some (.aload_n 0, 1, (0, 0, 0, [])) := rfl
set_option maxRecDepth 20000 in
theorem l_Mo_patch_295 : xlk (xm_cd m_Mo_patch) 295 = some (.iload_n 3, 1, (0, 0, 0, [])) := rfl
set_option maxRecDepth 20000 in
theorem l_Mo_patch_296 : xlk (xm_cd m_Mo_patch) 296 = some (.iload_n 1, 1, (0, 0, 0, [])) := rfl
set_option maxRecDepth 20000 in
theorem l_Mo_patch_297 : xlk (xm_cd m_Mo_patch) 297 = some (.iload_n 2, 1, (0, 0, 0, [])) := rfl
set_option maxRecDepth 20000 in
theorem l_Mo_patch_298 : xlk (xm_cd m_Mo_patch) 298 = some (.invokevirtual 247, 3, (1071, 182, 3, [])) := rfl
set_option maxRecDepth 20000 in
theorem l_Mo_patch_301 : xlk (xm_cd m_Mo_patch) 301 = some (.istore 4, 2, (0, 0, 0, [])) := rfl
set_option maxRecDepth 20000 in
theorem l_Mo_patch_303 : xlk (xm_cd m_Mo_patch) 303 = some (.goto (-14), 3, (0, 289, 0, [])) := rfl
set_option maxRecDepth 20000 in
theorem l_Mo_patch_306 : xlk (xm_cd m_Mo_patch) 306 = some (.iconst 0, 1, (0, 0, 0, [])) := rfl
set_option maxRecDepth 20000 in
theorem l_Mo_patch_307 : xlk (xm_cd m_Mo_patch) 307 = some (.istore 5, 2, (0, 0, 0, [])) := rfl
set_option maxRecDepth 20000 in
theorem l_Mo_patch_309 : xlk (xm_cd m_Mo_patch) 309 = some (.iload 5, 2, (0, 0, 0, [])) := rfl
set_option maxRecDepth 20000 in
theorem l_Mo_patch_311 : xlk (xm_cd m_Mo_patch) 311 = some (.aload_n 0, 1, (0, 0, 0, [])) := rfl
set_option maxRecDepth 20000 in
theorem l_Mo_patch_312 : xlk (xm_cd m_Mo_patch) 312 = some (.getfield 33, 3, (858, 11, 9, [])) := rfl
set_option maxRecDepth 20000 in
theorem l_Mo_patch_315 : xlk (xm_cd m_Mo_patch) 315 = some (.iload_n 2, 1, (0, 0, 0, [])) := rfl
set_option maxRecDepth 20000 in
theorem l_Mo_patch_316 : xlk (xm_cd m_Mo_patch) 316 = some (.iaload, 1, (0, 0, 0, [])) := rfl
set_option maxRecDepth 20000 in
theorem l_Mo_patch_317 : xlk (xm_cd m_Mo_patch) 317 = some (.if_icmp .ge 35, 3, (0, 352, 0, [])) := rfl
set_option maxRecDepth 20000 in
theorem l_Mo_patch_320 : xlk (xm_cd m_Mo_patch) 320 = some (.aload_n 0, 1, (0, 0, 0, [])) := rfl
set_option maxRecDepth 20000 in
theorem l_Mo_patch_321 : xlk (xm_cd m_Mo_patch) 321 = some (.getfield 84, 3, (877, 11, 28, [])) := rfl
set_option maxRecDepth 20000 in
theorem l_Mo_patch_324 : xlk (xm_cd m_Mo_patch) 324 = some (.iload 5, 2, (0, 0, 0, [])) := rfl
set_option maxRecDepth 20000 in
theorem l_Mo_patch_326 : xlk (xm_cd m_Mo_patch) 326 = some (.iaload, 1, (0, 0, 0, [])) := rfl
set_option maxRecDepth 20000 in
theorem l_Mo_patch_327 : xlk (xm_cd m_Mo_patch) 327 = some (.bipush (-2), 2, (0, 0, 0, [])) := rfl
set_option maxRecDepth 20000 in
theorem l_Mo_patch_329 : xlk (xm_cd m_Mo_patch) 329 = some (.if_icmp .ne 17, 3, (0, 346, 0, [])) := rfl
set_option maxRecDepth 20000 in
theorem l_Mo_patch_332 : xlk (xm_cd m_Mo_patch) 332 = some (.aload_n 0, 1, (0, 0, 0, [])) := rfl
set_option maxRecDepth 20000 in
theorem l_Mo_patch_333 : xlk (xm_cd m_Mo_patch) 333 = some (.iload_n 3, 1, (0, 0, 0, [])) := rfl
set_option maxRecDepth 20000 in
theorem l_Mo_patch_334 : xlk (xm_cd m_Mo_patch) 334 = some (.iconst 0, 1, (0, 0, 0, [])) := rfl
set_option maxRecDepth 20000 in
theorem l_Mo_patch_335 : xlk (xm_cd m_Mo_patch) 335 = some (.iconst (-1), 1, (0, 0, 0, [])) := rfl
set_option maxRecDepth 20000 in
theorem l_Mo_patch_336 : xlk (xm_cd m_Mo_patch) 336 = some (.iload_n 2, 1, (0, 0, 0, [])) := rfl
set_option maxRecDepth 20000 in
theorem l_Mo_patch_337 : xlk (xm_cd m_Mo_patch) 337 = some (.iload 5, 2, (0, 0, 0, [])) := rfl
set_option maxRecDepth 20000 in
theorem l_Mo_patch_339 : xlk (xm_cd m_Mo_patch) 339 = some (.invokestatic 155, 3, (971, 152, 2, [])) := rfl
set_option maxRecDepth 20000 in
theorem l_Mo_patch_342 : xlk (xm_cd m_Mo_patch) 342 = some (.iconst 0, 1, (0, 0, 0, [])) := rfl
set_option maxRecDepth 20000 in
theorem l_Mo_patch_343 : xlk (xm_cd m_Mo_patch) 343 = some (.invokevirtual 240, 3, (1035, 170, 5, [])) := rfl
set_option maxRecDepth 20000 in
theorem l_Mo_patch_346 : xlk (xm_cd m_Mo_patch) 346 = some (.iinc 5 1, 3, (0, 0, 0, [])) := rfl
set_option maxRecDepth 20000 in
theorem l_Mo_patch_349 : xlk (xm_cd m_Mo_patch) 349 = some (.goto (-40), 3, (0, 309, 0, [])) := rfl
set_option maxRecDepth 20000 in
theorem l_Mo_patch_352 : xlk (xm_cd m_Mo_patch) 352 = some (.iconst 0, 1, (0, 0, 0, [])) := rfl
set_option maxRecDepth 20000 in
theorem l_Mo_patch_353 : xlk (xm_cd m_Mo_patch) 353 = some (.istore 5, 2, (0, 0, 0, [])) := rfl
set_option maxRecDepth 20000 in
theorem l_Mo_patch_355 : xlk (xm_cd m_Mo_patch) 355 = some (.iload 5, 2, (0, 0, 0, [])) := rfl
set_option maxRecDepth 20000 in
theorem l_Mo_patch_357 : xlk (xm_cd m_Mo_patch) 357 = some (.aload_n 0, 1, (0, 0, 0, [])) := rfl
set_option maxRecDepth 20000 in
theorem l_Mo_patch_358 : xlk (xm_cd m_Mo_patch) 358 = some (.getfield 33, 3, (858, 11, 9, [])) := rfl
set_option maxRecDepth 20000 in
theorem l_Mo_patch_361 : xlk (xm_cd m_Mo_patch) 361 = some (.iload_n 1, 1, (0, 0, 0, [])) := rfl
set_option maxRecDepth 20000 in
theorem l_Mo_patch_362 : xlk (xm_cd m_Mo_patch) 362 = some (.iaload, 1, (0, 0, 0, [])) := rfl
set_option maxRecDepth 20000 in
theorem l_Mo_patch_363 : xlk (xm_cd m_Mo_patch) 363 = some (.if_icmp .ge 35, 3, (0, 398, 0, [])) := rfl
set_option maxRecDepth 20000 in
theorem l_Mo_patch_366 : xlk (xm_cd m_Mo_patch) 366 = some (.aload_n 0, 1, (0, 0, 0, [])) := rfl
set_option maxRecDepth 20000 in
theorem l_Mo_patch_367 : xlk (xm_cd m_Mo_patch) 367 = some (.getfield 81, 3, (876, 11, 27, [])) := rfl
set_option maxRecDepth 20000 in
theorem l_Mo_patch_370 : xlk (xm_cd m_Mo_patch) 370 = some (.iload 5, 2, (0, 0, 0, [])) := rfl
set_option maxRecDepth 20000 in
theorem l_Mo_patch_372 : xlk (xm_cd m_Mo_patch) 372 = some (.iaload, 1, (0, 0, 0, [])) := rfl
set_option maxRecDepth 20000 in
theorem l_Mo_patch_373 : xlk (xm_cd m_Mo_patch) 373 = some (.bipush (-2), 2, (0, 0, 0, [])) := rfl
set_option maxRecDepth 20000 in
theorem l_Mo_patch_375 : xlk (xm_cd m_Mo_patch) 375 = some (.if_icmp .ne 17, 3, (0, 392, 0, [])) := rfl
set_option maxRecDepth 20000 in
theorem l_Mo_patch_378 : xlk (xm_cd m_Mo_patch) 378 = some (.aload_n 0, 1, (0, 0, 0, [])) := rfl
set_option maxRecDepth 20000 in
theorem l_Mo_patch_379 : xlk (xm_cd m_Mo_patch) 379 = some (.iload_n 3, 1, (0, 0, 0, [])) := rfl
set_option maxRecDepth 20000 in
theorem l_Mo_patch_380 : xlk (xm_cd m_Mo_patch) 380 = some (.iconst 1, 1, (0, 0, 0, [])) := rfl
set_option maxRecDepth 20000 in
theorem l_Mo_patch_381 : xlk (xm_cd m_Mo_patch) 381 = some (.iload_n 1, 1, (0, 0, 0, [])) := rfl
set_option maxRecDepth 20000 in
theorem l_Mo_patch_382 : xlk (xm_cd m_Mo_patch) 382 = some (.iload 5, 2, (0, 0, 0, [])) := rfl
set_option maxRecDepth 20000 in
theorem l_Mo_patch_384 : xlk (xm_cd m_Mo_patch) 384 = some (.invokestatic 155, 3, (971, 152, 2, [])) := rfl
set_option maxRecDepth 20000 in
theorem l_Mo_patch_387 : xlk (xm_cd m_Mo_patch) 387 = some (.iconst (-1), 1, (0, 0, 0, [])) := rfl
set_option maxRecDepth 20000 in
theorem l_Mo_patch_388 : xlk (xm_cd m_Mo_patch) 388 = some (.iconst 0, 1, (0, 0, 0, [])) := rfl
set_option maxRecDepth 20000 in
theorem l_Mo_patch_389 : xlk (xm_cd m_Mo_patch) 389 = some (.invokevirtual 240, 3, (1035, 170, 5, [])) := rfl
set_option maxRecDepth 20000 in
theorem l_Mo_patch_392 : xlk (xm_cd m_Mo_patch) 392 = some (.iinc 5 1, 3, (0, 0, 0, [])) := rfl
set_option maxRecDepth 20000 in
theorem l_Mo_patch_395 : xlk (xm_cd m_Mo_patch) 395 = some (.goto (-40), 3, (0, 355, 0, [])) := rfl
set_option maxRecDepth 20000 in
theorem l_Mo_patch_398 : xlk (xm_cd m_Mo_patch) 398 = some (.aload_n 0, 1, (0, 0, 0, [])) := rfl
set_option maxRecDepth 20000 in
theorem l_Mo_patch_399 : xlk (xm_cd m_Mo_patch) 399 = some (.dup, 1, (0, 0, 0, [])) := rfl
set_option maxRecDepth 20000 in
theorem l_Mo_patch_400 : xlk (xm_cd m_Mo_patch) 400 = some (.getfield 198, 3, (872, 11, 23, [])) := rfl
set_option maxRecDepth 20000 in
theorem l_Mo_patch_403 : xlk (xm_cd m_Mo_patch) 403 = some (.iconst 1, 1, (0, 0, 0, [])) := rfl
set_option maxRecDepth 20000 in
theorem l_Mo_patch_404 : xlk (xm_cd m_Mo_patch) 404 = some (.iadd, 1, (0, 0, 0, [])) := rfl
set_option maxRecDepth 20000 in
theorem l_Mo_patch_405 : xlk (xm_cd m_Mo_patch) 405 = some (.putfield 198, 3, (872, 11, 23, [(0, 0)])) := rfl
set_option maxRecDepth 20000 in
theorem l_Mo_patch_408 : xlk (xm_cd m_Mo_patch) 408 = some (.iload_n 3, 1, (0, 0, 0, [])) := rfl
set_option maxRecDepth 20000 in
theorem l_Mo_patch_409 : xlk (xm_cd m_Mo_patch) 409 = some (.ireturn, 1, (0, 0, 0, [])) := rfl
def B_Mo_patch_0 (d : Nat) (E : Option Value → xH → Prop) (f : xH) (a0 : Nat) (x1 : Int32) (x2 : Int32) : Prop :=
  xpf f a0 11 0 (.int 0) (fun f1 => (∃ fs, f1 a0 = some (xO 11 fs)) ∧ xSp xT0 d j_Mo_noTree [.ref a0, .int x1] f1 (fun w2 f3 => xvi w2 (fun v4 => xbr (¬ v4 = 0) (E (some (.int (-1))) f3) ((∃ fs, f3 a0 = some (xO 11 fs)) ∧ xSp xT0 d j_Mo_noTree [.ref a0, .int x2] f3 (fun w5 f6 => xvi w5 (fun v7 => xbr (v7 = 0) (xgi f6 a0 11 23 (fun v8 => xbr (¬ v8 = 8) (xgi f6 a0 11 23 (fun v9 => xgr f6 a0 11 22 (fun r10 => xas f6 r10 0 v9 0 (fun f11 => xWp (xT0, xSp xT0 d, none, m_Mo_patch, E) 50 [some (.ref a0), some (.int x1), some (.int x2), some (.int v9), some (.int 0), none] [] f11 0 0)))) (E (some (.int (-3))) f6))) (E (some (.int (-1))) f6)))))))
theorem b_Mo_patch_0 {d : Nat} {E : Option Value → xH → Prop} {f : xH} {a0 : Nat} {x1 : Int32} {x2 : Int32} (h : B_Mo_patch_0 d E f a0 x1 x2) : xWp (xT0, xSp xT0 d, none, m_Mo_patch, E) 0 [some (.ref a0), some (.int x1), some (.int x2), none, none, none] [] f 0 0 := by
  unfold B_Mo_patch_0 at h
  refine s_aln l_Mo_patch_0 rfl ?_
  refine s_ic 0 l_Mo_patch_1 rfl ?_
  refine s_pf l_Mo_patch_2 ⟨_, rfl⟩ h (fun f1 h => ?_)
  refine s_aln l_Mo_patch_5 rfl ?_
  refine s_iln l_Mo_patch_6 rfl ?_
  refine s_cvi (As := [.int x1]) (r := []) l_Mo_patch_7 rfl ⟨rfl, rfl⟩ rfl (Nat.le_of_ble_eq_true rfl) rfl ⟨Nat.zero_le _, Nat.zero_le _⟩ h (fun v4 f3 h => ?_)
  refine s_if l_Mo_patch_10 h (fun h => ?_) (fun h => ?_)
  · refine s_ic (-1) l_Mo_patch_21 rfl ?_
    exact s_iret l_Mo_patch_22 rfl ⟨Nat.zero_le _, Nat.zero_le _⟩ h
  · refine s_aln l_Mo_patch_13 rfl ?_
    refine s_iln l_Mo_patch_14 rfl ?_
    refine s_cvi (As := [.int x2]) (r := []) l_Mo_patch_15 rfl ⟨rfl, rfl⟩ rfl (Nat.le_of_ble_eq_true rfl) rfl ⟨Nat.zero_le _, Nat.zero_le _⟩ h (fun v7 f6 h => ?_)
    refine s_if l_Mo_patch_18 h (fun h => ?_) (fun h => ?_)
    · refine s_aln l_Mo_patch_23 rfl ?_
      refine s_gi l_Mo_patch_24 h (fun v8 h => ?_)
      refine s_bp 8 l_Mo_patch_27 rfl ?_
      refine s_ifc l_Mo_patch_29 h (fun h => ?_) (fun h => ?_)
      · refine s_aln l_Mo_patch_35 rfl ?_
        refine s_gi l_Mo_patch_36 h (fun v9 h => ?_)
        refine s_isn l_Mo_patch_39 (Nat.le_of_ble_eq_true rfl) ?_
        refine s_aln l_Mo_patch_40 rfl ?_
        refine s_gr l_Mo_patch_41 h (fun r10 h => ?_)
        refine s_iln l_Mo_patch_44 rfl ?_
        refine s_ic 0 l_Mo_patch_45 rfl ?_
        refine s_iast l_Mo_patch_46 h (fun f11 h => ?_)
        refine s_ic 0 l_Mo_patch_47 rfl ?_
        refine s_is l_Mo_patch_48 (Nat.le_of_ble_eq_true rfl) ?_
        exact h
      · refine s_bp (-3) l_Mo_patch_32 rfl ?_
        exact s_iret l_Mo_patch_34 rfl ⟨Nat.zero_le _, Nat.zero_le _⟩ h
    · refine s_ic (-1) l_Mo_patch_21 rfl ?_
      exact s_iret l_Mo_patch_22 rfl ⟨Nat.zero_le _, Nat.zero_le _⟩ h
def B_Mo_patch_50 (d : Nat) (E : Option Value → xH → Prop) (f : xH) (a0 : Nat) (x1 : Int32) (x2 : Int32) (x3 : Int32) (x4 : Int32) (u5 : Option Value) : Prop :=
  xgr f a0 11 9 (fun r1 => xal f r1 0 x1 (fun v2 => xbr (v2 ≤ x4) (xWp (xT0, xSp xT0 d, none, m_Mo_patch, E) 116 [some (.ref a0), some (.int x1), some (.int x2), some (.int x3), some (.int 0), u5] [] f 0 0) (xgr f a0 11 27 (fun r3 => xgr f a0 11 5 (fun r4 => xSp xT0 d j_Mo_at [.int x1, .int x4] f (fun w5 f6 => xvi w5 (fun v7 => xgr f6 a0 11 6 (fun r8 => xSp xT0 d j_Mo_at [.int x1, .int x4] f6 (fun w9 f10 => xvi w9 (fun v11 => xal f10 r8 0 v11 (fun v12 => (∃ fs, f10 a0 = some (xO 11 fs)) ∧ xSp xT0 d j_Mo_find [.ref a0, .int x2, .ref r4, .int (18 * v7), .int v12] f10 (fun w13 f14 => xvi w13 (fun v15 => xbr (v15 < 0) (xas f14 r3 0 x4 (-2) (fun f16 => xWp (xT0, xSp xT0 d, none, m_Mo_patch, E) 50 [some (.ref a0), some (.int x1), some (.int x2), some (.int x3), some (.int (x4 + 1)), u5] [] f16 0 0)) (xas f14 r3 0 x4 (-3) (fun f17 => xWp (xT0, xSp xT0 d, none, m_Mo_patch, E) 50 [some (.ref a0), some (.int x1), some (.int x2), some (.int x3), some (.int (x4 + 1)), u5] [] f17 0 0)))))))))))))))
theorem b_Mo_patch_50 {d : Nat} {E : Option Value → xH → Prop} {f : xH} {a0 : Nat} {x1 : Int32} {x2 : Int32} {x3 : Int32} {x4 : Int32} {u5 : Option Value} (h : B_Mo_patch_50 d E f a0 x1 x2 x3 x4 u5) : xWp (xT0, xSp xT0 d, none, m_Mo_patch, E) 50 [some (.ref a0), some (.int x1), some (.int x2), some (.int x3), some (.int x4), u5] [] f 0 0 := by
  unfold B_Mo_patch_50 at h
  refine s_il l_Mo_patch_50 rfl ?_
  refine s_aln l_Mo_patch_52 rfl ?_
  refine s_gr l_Mo_patch_53 h (fun r1 h => ?_)
  refine s_iln l_Mo_patch_56 rfl ?_
  refine s_ial l_Mo_patch_57 rfl h (fun v2 h => ?_)
  refine s_ifc l_Mo_patch_58 h (fun h => ?_) (fun h => ?_)
  · refine s_ic 0 l_Mo_patch_113 rfl ?_
    refine s_is l_Mo_patch_114 (Nat.le_of_ble_eq_true rfl) ?_
    exact h
  · refine s_aln l_Mo_patch_61 rfl ?_
    refine s_gr l_Mo_patch_62 h (fun r3 h => ?_)
    refine s_il l_Mo_patch_65 rfl ?_
    refine s_aln l_Mo_patch_67 rfl ?_
    refine s_iln l_Mo_patch_68 rfl ?_
    refine s_aln l_Mo_patch_69 rfl ?_
    refine s_gr l_Mo_patch_70 h (fun r4 h => ?_)
    refine s_bp 18 l_Mo_patch_73 rfl ?_
    refine s_iln l_Mo_patch_75 rfl ?_
    refine s_il l_Mo_patch_76 rfl ?_
    refine s_csi (As := [.int x1, .int x4]) (r := [.int 18, .ref r4, .int x2, .ref a0, .int x4, .ref r3]) l_Mo_patch_78 rfl ⟨rfl, rfl⟩ rfl (Nat.le_of_ble_eq_true rfl) rfl ⟨Nat.zero_le _, Nat.zero_le _⟩ h (fun v7 f6 h => ?_)
    refine s_imul l_Mo_patch_81 ?_
    refine s_aln l_Mo_patch_82 rfl ?_
    refine s_gr l_Mo_patch_83 h (fun r8 h => ?_)
    refine s_iln l_Mo_patch_86 rfl ?_
    refine s_il l_Mo_patch_87 rfl ?_
    refine s_csi (As := [.int x1, .int x4]) (r := [.ref r8, .int (18 * v7), .ref r4, .int x2, .ref a0, .int x4, .ref r3]) l_Mo_patch_89 rfl ⟨rfl, rfl⟩ rfl (Nat.le_of_ble_eq_true rfl) rfl ⟨Nat.zero_le _, Nat.zero_le _⟩ h (fun v11 f10 h => ?_)
    refine s_ial l_Mo_patch_92 rfl h (fun v12 h => ?_)
    refine s_cvi (As := [.int x2, .ref r4, .int (18 * v7), .int v12]) (r := [.int x4, .ref r3]) l_Mo_patch_93 rfl ⟨rfl, rfl⟩ rfl (Nat.le_of_ble_eq_true rfl) rfl ⟨Nat.zero_le _, Nat.zero_le _⟩ h (fun v15 f14 h => ?_)
    refine s_if l_Mo_patch_96 h (fun h => ?_) (fun h => ?_)
    · refine s_bp (-2) l_Mo_patch_104 rfl ?_
      refine s_iast l_Mo_patch_106 h (fun f16 h => ?_)
      refine s_inc 1 l_Mo_patch_107 rfl rfl ?_
      refine s_goto l_Mo_patch_110 ?_
      exact h
    · refine s_bp (-3) l_Mo_patch_99 rfl ?_
      refine s_goto l_Mo_patch_101 ?_
      refine s_iast l_Mo_patch_106 h (fun f17 h => ?_)
      refine s_inc 1 l_Mo_patch_107 rfl rfl ?_
      refine s_goto l_Mo_patch_110 ?_
      exact h
def B_Mo_patch_116 (d : Nat) (E : Option Value → xH → Prop) (f : xH) (a0 : Nat) (x1 : Int32) (x2 : Int32) (x3 : Int32) (x4 : Int32) (u5 : Option Value) : Prop :=
  xgr f a0 11 9 (fun r1 => xal f r1 0 x2 (fun v2 => xbr (v2 ≤ x4) ((∃ fs, f a0 = some (xO 11 fs)) ∧ xSp xT0 d j_Mo_pairSame [.ref a0, .int x1, .int x2] f (fun w3 f4 => xvv w3 (xWp (xT0, xSp xT0 d, none, m_Mo_patch, E) 235 [some (.ref a0), some (.int x1), some (.int x2), some (.int x3), some (.int 0), u5] [] f4 0 0))) (xgr f a0 11 5 (fun r5 => xSp xT0 d j_Mo_at [.int x2, .int x4] f (fun w6 f7 => xvi w6 (fun v8 => xgr f7 a0 11 6 (fun r9 => xSp xT0 d j_Mo_at [.int x2, .int x4] f7 (fun w10 f11 => xvi w10 (fun v12 => xal f11 r9 0 v12 (fun v13 => (∃ fs, f11 a0 = some (xO 11 fs)) ∧ xSp xT0 d j_Mo_find [.ref a0, .int x1, .ref r5, .int (18 * v8), .int v13] f11 (fun w14 f15 => xvi w14 (fun v16 => xgr f15 a0 11 28 (fun r17 => xbr (v16 < 0) (xWp (xT0, xSp xT0 d, none, m_Mo_patch, E) 176 [some (.ref a0), some (.int x1), some (.int x2), some (.int x3), some (.int x4), some (.int v16)] [.int (-2), .int x4, .ref r17] f15 0 0) (xWp (xT0, xSp xT0 d, none, m_Mo_patch, E) 176 [some (.ref a0), some (.int x1), some (.int x2), some (.int x3), some (.int x4), some (.int v16)] [.int (-3), .int x4, .ref r17] f15 0 0))))))))))))))
theorem b_Mo_patch_116 {d : Nat} {E : Option Value → xH → Prop} {f : xH} {a0 : Nat} {x1 : Int32} {x2 : Int32} {x3 : Int32} {x4 : Int32} {u5 : Option Value} (h : B_Mo_patch_116 d E f a0 x1 x2 x3 x4 u5) : xWp (xT0, xSp xT0 d, none, m_Mo_patch, E) 116 [some (.ref a0), some (.int x1), some (.int x2), some (.int x3), some (.int x4), u5] [] f 0 0 := by
  unfold B_Mo_patch_116 at h
  refine s_il l_Mo_patch_116 rfl ?_
  refine s_aln l_Mo_patch_118 rfl ?_
  refine s_gr l_Mo_patch_119 h (fun r1 h => ?_)
  refine s_iln l_Mo_patch_122 rfl ?_
  refine s_ial l_Mo_patch_123 rfl h (fun v2 h => ?_)
  refine s_ifc l_Mo_patch_124 h (fun h => ?_) (fun h => ?_)
  · refine s_aln l_Mo_patch_226 rfl ?_
    refine s_iln l_Mo_patch_227 rfl ?_
    refine s_iln l_Mo_patch_228 rfl ?_
    refine s_cvv (As := [.int x1, .int x2]) (r := []) l_Mo_patch_229 rfl ⟨rfl, rfl⟩ rfl (Nat.le_of_ble_eq_true rfl) rfl ⟨Nat.zero_le _, Nat.zero_le _⟩ h (fun f4 h => ?_)
    refine s_ic 0 l_Mo_patch_232 rfl ?_
    refine s_is l_Mo_patch_233 (Nat.le_of_ble_eq_true rfl) ?_
    exact h
  · refine s_aln l_Mo_patch_127 rfl ?_
    refine s_iln l_Mo_patch_128 rfl ?_
    refine s_aln l_Mo_patch_129 rfl ?_
    refine s_gr l_Mo_patch_130 h (fun r5 h => ?_)
    refine s_bp 18 l_Mo_patch_133 rfl ?_
    refine s_iln l_Mo_patch_135 rfl ?_
    refine s_il l_Mo_patch_136 rfl ?_
    refine s_csi (As := [.int x2, .int x4]) (r := [.int 18, .ref r5, .int x1, .ref a0]) l_Mo_patch_138 rfl ⟨rfl, rfl⟩ rfl (Nat.le_of_ble_eq_true rfl) rfl ⟨Nat.zero_le _, Nat.zero_le _⟩ h (fun v8 f7 h => ?_)
    refine s_imul l_Mo_patch_141 ?_
    refine s_aln l_Mo_patch_142 rfl ?_
    refine s_gr l_Mo_patch_143 h (fun r9 h => ?_)
    refine s_iln l_Mo_patch_146 rfl ?_
    refine s_il l_Mo_patch_147 rfl ?_
    refine s_csi (As := [.int x2, .int x4]) (r := [.ref r9, .int (18 * v8), .ref r5, .int x1, .ref a0]) l_Mo_patch_149 rfl ⟨rfl, rfl⟩ rfl (Nat.le_of_ble_eq_true rfl) rfl ⟨Nat.zero_le _, Nat.zero_le _⟩ h (fun v12 f11 h => ?_)
    refine s_ial l_Mo_patch_152 rfl h (fun v13 h => ?_)
    refine s_cvi (As := [.int x1, .ref r5, .int (18 * v8), .int v13]) (r := []) l_Mo_patch_153 rfl ⟨rfl, rfl⟩ rfl (Nat.le_of_ble_eq_true rfl) rfl ⟨Nat.zero_le _, Nat.zero_le _⟩ h (fun v16 f15 h => ?_)
    refine s_is l_Mo_patch_156 (Nat.le_of_ble_eq_true rfl) ?_
    refine s_aln l_Mo_patch_158 rfl ?_
    refine s_gr l_Mo_patch_159 h (fun r17 h => ?_)
    refine s_il l_Mo_patch_162 rfl ?_
    refine s_il l_Mo_patch_164 rfl ?_
    refine s_if l_Mo_patch_166 h (fun h => ?_) (fun h => ?_)
    · refine s_bp (-2) l_Mo_patch_174 rfl ?_
      exact h
    · refine s_bp (-3) l_Mo_patch_169 rfl ?_
      refine s_goto l_Mo_patch_171 ?_
      exact h
def B_Mo_patch_176 (d : Nat) (E : Option Value → xH → Prop) (f : xH) (a0 : Nat) (x1 : Int32) (x2 : Int32) (x3 : Int32) (x4 : Int32) (x5 : Int32) (s0 : Int32) (s1 : Int32) (s2 : Nat) : Prop :=
  xas f s2 0 s1 s0 (fun f1 => xbr (x5 < 0) (xWp (xT0, xSp xT0 d, none, m_Mo_patch, E) 116 [some (.ref a0), some (.int x1), some (.int x2), some (.int x3), some (.int (x4 + 1)), some (.int x5)] [] f1 0 0) (xSp xT0 d j_Mo_at [.int x1, .int x5] f1 (fun w2 f3 => xvi w2 (fun v4 => xSp xT0 d j_Mo_at [.int x2, .int x4] f3 (fun w5 f6 => xvi w5 (fun v7 => (∃ fs, f6 a0 = some (xO 11 fs)) ∧ xSp xT0 d j_Mo_isAlike [.ref a0, .int v4, .int v7] f6 (fun w8 f9 => xvi w8 (fun v10 => xbr (¬ v10 = 0) (xWp (xT0, xSp xT0 d, none, m_Mo_patch, E) 116 [some (.ref a0), some (.int x1), some (.int x2), some (.int x3), some (.int (x4 + 1)), some (.int x5)] [] f9 0 0) (xSp xT0 d j_Mo_at [.int x1, .int x5] f9 (fun w11 f12 => xvi w11 (fun v13 => xSp xT0 d j_Mo_at [.int x2, .int x4] f12 (fun w14 f15 => xvi w14 (fun v16 => (∃ fs, f15 a0 = some (xO 11 fs)) ∧ xSp xT0 d j_Mo_addStep [.ref a0, .int x3, .int 2, .int v13, .int v16, .int 0] f15 (fun w17 f18 => xvv w17 (xWp (xT0, xSp xT0 d, none, m_Mo_patch, E) 116 [some (.ref a0), some (.int x1), some (.int x2), some (.int x3), some (.int (x4 + 1)), some (.int x5)] [] f18 0 0)))))))))))))))
theorem b_Mo_patch_176 {d : Nat} {E : Option Value → xH → Prop} {f : xH} {a0 : Nat} {x1 : Int32} {x2 : Int32} {x3 : Int32} {x4 : Int32} {x5 : Int32} {s0 : Int32} {s1 : Int32} {s2 : Nat} (h : B_Mo_patch_176 d E f a0 x1 x2 x3 x4 x5 s0 s1 s2) : xWp (xT0, xSp xT0 d, none, m_Mo_patch, E) 176 [some (.ref a0), some (.int x1), some (.int x2), some (.int x3), some (.int x4), some (.int x5)] [.int s0, .int s1, .ref s2] f 0 0 := by
  unfold B_Mo_patch_176 at h
  refine s_iast l_Mo_patch_176 h (fun f1 h => ?_)
  refine s_il l_Mo_patch_177 rfl ?_
  refine s_if l_Mo_patch_179 h (fun h => ?_) (fun h => ?_)
  · refine s_inc 1 l_Mo_patch_220 rfl rfl ?_
    refine s_goto l_Mo_patch_223 ?_
    exact h
  · refine s_aln l_Mo_patch_182 rfl ?_
    refine s_iln l_Mo_patch_183 rfl ?_
    refine s_il l_Mo_patch_184 rfl ?_
    refine s_csi (As := [.int x1, .int x5]) (r := [.ref a0]) l_Mo_patch_186 rfl ⟨rfl, rfl⟩ rfl (Nat.le_of_ble_eq_true rfl) rfl ⟨Nat.zero_le _, Nat.zero_le _⟩ h (fun v4 f3 h => ?_)
    refine s_iln l_Mo_patch_189 rfl ?_
    refine s_il l_Mo_patch_190 rfl ?_
    refine s_csi (As := [.int x2, .int x4]) (r := [.int v4, .ref a0]) l_Mo_patch_192 rfl ⟨rfl, rfl⟩ rfl (Nat.le_of_ble_eq_true rfl) rfl ⟨Nat.zero_le _, Nat.zero_le _⟩ h (fun v7 f6 h => ?_)
    refine s_cvi (As := [.int v4, .int v7]) (r := []) l_Mo_patch_195 rfl ⟨rfl, rfl⟩ rfl (Nat.le_of_ble_eq_true rfl) rfl ⟨Nat.zero_le _, Nat.zero_le _⟩ h (fun v10 f9 h => ?_)
    refine s_if l_Mo_patch_198 h (fun h => ?_) (fun h => ?_)
    · refine s_inc 1 l_Mo_patch_220 rfl rfl ?_
      refine s_goto l_Mo_patch_223 ?_
      exact h
    · refine s_aln l_Mo_patch_201 rfl ?_
      refine s_iln l_Mo_patch_202 rfl ?_
      refine s_ic 2 l_Mo_patch_203 rfl ?_
      refine s_iln l_Mo_patch_204 rfl ?_
      refine s_il l_Mo_patch_205 rfl ?_
      refine s_csi (As := [.int x1, .int x5]) (r := [.int 2, .int x3, .ref a0]) l_Mo_patch_207 rfl ⟨rfl, rfl⟩ rfl (Nat.le_of_ble_eq_true rfl) rfl ⟨Nat.zero_le _, Nat.zero_le _⟩ h (fun v13 f12 h => ?_)
      refine s_iln l_Mo_patch_210 rfl ?_
      refine s_il l_Mo_patch_211 rfl ?_
      refine s_csi (As := [.int x2, .int x4]) (r := [.int v13, .int 2, .int x3, .ref a0]) l_Mo_patch_213 rfl ⟨rfl, rfl⟩ rfl (Nat.le_of_ble_eq_true rfl) rfl ⟨Nat.zero_le _, Nat.zero_le _⟩ h (fun v16 f15 h => ?_)
      refine s_ic 0 l_Mo_patch_216 rfl ?_
      refine s_cvv (As := [.int x3, .int 2, .int v13, .int v16, .int 0]) (r := []) l_Mo_patch_217 rfl ⟨rfl, rfl⟩ rfl (Nat.le_of_ble_eq_true rfl) rfl ⟨Nat.zero_le _, Nat.zero_le _⟩ h (fun f18 h => ?_)
      refine s_inc 1 l_Mo_patch_220 rfl rfl ?_
      refine s_goto l_Mo_patch_223 ?_
      exact h
def B_Mo_patch_235 (d : Nat) (E : Option Value → xH → Prop) (f : xH) (a0 : Nat) (x1 : Int32) (x2 : Int32) (x3 : Int32) (x4 : Int32) (u5 : Option Value) : Prop :=
  xgr f a0 11 9 (fun r1 => xal f r1 0 x2 (fun v2 => xbr (v2 ≤ x4) (xWp (xT0, xSp xT0 d, none, m_Mo_patch, E) 289 [some (.ref a0), some (.int x1), some (.int x2), some (.int x3), some (.int 1), u5] [] f 0 0) (xgr f a0 11 28 (fun r3 => xal f r3 0 x4 (fun v4 => xbr (v4 < 0) (xWp (xT0, xSp xT0 d, none, m_Mo_patch, E) 235 [some (.ref a0), some (.int x1), some (.int x2), some (.int x3), some (.int (x4 + 1)), u5] [] f 0 0) (xgr f a0 11 28 (fun r5 => xal f r5 0 x4 (fun v6 => xSp xT0 d j_Mo_at [.int x1, .int v6] f (fun w7 f8 => xvi w7 (fun v9 => xSp xT0 d j_Mo_at [.int x2, .int x4] f8 (fun w10 f11 => xvi w10 (fun v12 => (∃ fs, f11 a0 = some (xO 11 fs)) ∧ xSp xT0 d j_Mo_addStep [.ref a0, .int x3, .int 3, .int v9, .int v12, .int 1] f11 (fun w13 f14 => xvv w13 (xWp (xT0, xSp xT0 d, none, m_Mo_patch, E) 235 [some (.ref a0), some (.int x1), some (.int x2), some (.int x3), some (.int (x4 + 1)), u5] [] f14 0 0))))))))))))))
theorem b_Mo_patch_235 {d : Nat} {E : Option Value → xH → Prop} {f : xH} {a0 : Nat} {x1 : Int32} {x2 : Int32} {x3 : Int32} {x4 : Int32} {u5 : Option Value} (h : B_Mo_patch_235 d E f a0 x1 x2 x3 x4 u5) : xWp (xT0, xSp xT0 d, none, m_Mo_patch, E) 235 [some (.ref a0), some (.int x1), some (.int x2), some (.int x3), some (.int x4), u5] [] f 0 0 := by
  unfold B_Mo_patch_235 at h
  refine s_il l_Mo_patch_235 rfl ?_
  refine s_aln l_Mo_patch_237 rfl ?_
  refine s_gr l_Mo_patch_238 h (fun r1 h => ?_)
  refine s_iln l_Mo_patch_241 rfl ?_
  refine s_ial l_Mo_patch_242 rfl h (fun v2 h => ?_)
  refine s_ifc l_Mo_patch_243 h (fun h => ?_) (fun h => ?_)
  · refine s_ic 1 l_Mo_patch_286 rfl ?_
    refine s_is l_Mo_patch_287 (Nat.le_of_ble_eq_true rfl) ?_
    exact h
  · refine s_aln l_Mo_patch_246 rfl ?_
    refine s_gr l_Mo_patch_247 h (fun r3 h => ?_)
    refine s_il l_Mo_patch_250 rfl ?_
    refine s_ial l_Mo_patch_252 rfl h (fun v4 h => ?_)
    refine s_if l_Mo_patch_253 h (fun h => ?_) (fun h => ?_)
    · refine s_inc 1 l_Mo_patch_280 rfl rfl ?_
      refine s_goto l_Mo_patch_283 ?_
      exact h
    · refine s_aln l_Mo_patch_256 rfl ?_
      refine s_iln l_Mo_patch_257 rfl ?_
      refine s_ic 3 l_Mo_patch_258 rfl ?_
      refine s_iln l_Mo_patch_259 rfl ?_
      refine s_aln l_Mo_patch_260 rfl ?_
      refine s_gr l_Mo_patch_261 h (fun r5 h => ?_)
      refine s_il l_Mo_patch_264 rfl ?_
      refine s_ial l_Mo_patch_266 rfl h (fun v6 h => ?_)
      refine s_csi (As := [.int x1, .int v6]) (r := [.int 3, .int x3, .ref a0]) l_Mo_patch_267 rfl ⟨rfl, rfl⟩ rfl (Nat.le_of_ble_eq_true rfl) rfl ⟨Nat.zero_le _, Nat.zero_le _⟩ h (fun v9 f8 h => ?_)
      refine s_iln l_Mo_patch_270 rfl ?_
      refine s_il l_Mo_patch_271 rfl ?_
      refine s_csi (As := [.int x2, .int x4]) (r := [.int v9, .int 3, .int x3, .ref a0]) l_Mo_patch_273 rfl ⟨rfl, rfl⟩ rfl (Nat.le_of_ble_eq_true rfl) rfl ⟨Nat.zero_le _, Nat.zero_le _⟩ h (fun v12 f11 h => ?_)
      refine s_ic 1 l_Mo_patch_276 rfl ?_
      refine s_cvv (As := [.int x3, .int 3, .int v9, .int v12, .int 1]) (r := []) l_Mo_patch_277 rfl ⟨rfl, rfl⟩ rfl (Nat.le_of_ble_eq_true rfl) rfl ⟨Nat.zero_le _, Nat.zero_le _⟩ h (fun f14 h => ?_)
      refine s_inc 1 l_Mo_patch_280 rfl rfl ?_
      refine s_goto l_Mo_patch_283 ?_
      exact h
def B_Mo_patch_289 (d : Nat) (E : Option Value → xH → Prop) (f : xH) (a0 : Nat) (x1 : Int32) (x2 : Int32) (x3 : Int32) (x4 : Int32) (u5 : Option Value) : Prop :=
  xbr (x4 = 0) (xWp (xT0, xSp xT0 d, none, m_Mo_patch, E) 309 [some (.ref a0), some (.int x1), some (.int x2), some (.int x3), some (.int x4), some (.int 0)] [] f 0 0) ((∃ fs, f a0 = some (xO 11 fs)) ∧ xSp xT0 d j_Mo_pairLike [.ref a0, .int x3, .int x1, .int x2] f (fun w1 f2 => xvi w1 (fun v3 => xWp (xT0, xSp xT0 d, none, m_Mo_patch, E) 289 [some (.ref a0), some (.int x1), some (.int x2), some (.int x3), some (.int v3), u5] [] f2 0 0)))
theorem b_Mo_patch_289 {d : Nat} {E : Option Value → xH → Prop} {f : xH} {a0 : Nat} {x1 : Int32} {x2 : Int32} {x3 : Int32} {x4 : Int32} {u5 : Option Value} (h : B_Mo_patch_289 d E f a0 x1 x2 x3 x4 u5) : xWp (xT0, xSp xT0 d, none, m_Mo_patch, E) 289 [some (.ref a0), some (.int x1), some (.int x2), some (.int x3), some (.int x4), u5] [] f 0 0 := by
  unfold B_Mo_patch_289 at h
  refine s_il l_Mo_patch_289 rfl ?_
  refine s_if l_Mo_patch_291 h (fun h => ?_) (fun h => ?_)
  · refine s_ic 0 l_Mo_patch_306 rfl ?_
    refine s_is l_Mo_patch_307 (Nat.le_of_ble_eq_true rfl) ?_
    exact h
  · refine s_aln l_Mo_patch_294 rfl ?_
    refine s_iln l_Mo_patch_295 rfl ?_
    refine s_iln l_Mo_patch_296 rfl ?_
    refine s_iln l_Mo_patch_297 rfl ?_
    refine s_cvi (As := [.int x3, .int x1, .int x2]) (r := []) l_Mo_patch_298 rfl ⟨rfl, rfl⟩ rfl (Nat.le_of_ble_eq_true rfl) rfl ⟨Nat.zero_le _, Nat.zero_le _⟩ h (fun v3 f2 h => ?_)
    refine s_is l_Mo_patch_301 (Nat.le_of_ble_eq_true rfl) ?_
    refine s_goto l_Mo_patch_303 ?_
    exact h
def B_Mo_patch_309 (d : Nat) (E : Option Value → xH → Prop) (f : xH) (a0 : Nat) (x1 : Int32) (x2 : Int32) (x3 : Int32) (x4 : Int32) (x5 : Int32) : Prop :=
  xgr f a0 11 9 (fun r1 => xal f r1 0 x2 (fun v2 => xbr (v2 ≤ x5) (xWp (xT0, xSp xT0 d, none, m_Mo_patch, E) 355 [some (.ref a0), some (.int x1), some (.int x2), some (.int x3), some (.int x4), some (.int 0)] [] f 0 0) (xgr f a0 11 28 (fun r3 => xal f r3 0 x5 (fun v4 => xbr (¬ v4 = (-2)) (xWp (xT0, xSp xT0 d, none, m_Mo_patch, E) 309 [some (.ref a0), some (.int x1), some (.int x2), some (.int x3), some (.int x4), some (.int (x5 + 1))] [] f 0 0) (xSp xT0 d j_Mo_at [.int x2, .int x5] f (fun w5 f6 => xvi w5 (fun v7 => (∃ fs, f6 a0 = some (xO 11 fs)) ∧ xSp xT0 d j_Mo_addStep [.ref a0, .int x3, .int 0, .int (-1), .int v7, .int 0] f6 (fun w8 f9 => xvv w8 (xWp (xT0, xSp xT0 d, none, m_Mo_patch, E) 309 [some (.ref a0), some (.int x1), some (.int x2), some (.int x3), some (.int x4), some (.int (x5 + 1))] [] f9 0 0))))))))))
theorem b_Mo_patch_309 {d : Nat} {E : Option Value → xH → Prop} {f : xH} {a0 : Nat} {x1 : Int32} {x2 : Int32} {x3 : Int32} {x4 : Int32} {x5 : Int32} (h : B_Mo_patch_309 d E f a0 x1 x2 x3 x4 x5) : xWp (xT0, xSp xT0 d, none, m_Mo_patch, E) 309 [some (.ref a0), some (.int x1), some (.int x2), some (.int x3), some (.int x4), some (.int x5)] [] f 0 0 := by
  unfold B_Mo_patch_309 at h
  refine s_il l_Mo_patch_309 rfl ?_
  refine s_aln l_Mo_patch_311 rfl ?_
  refine s_gr l_Mo_patch_312 h (fun r1 h => ?_)
  refine s_iln l_Mo_patch_315 rfl ?_
  refine s_ial l_Mo_patch_316 rfl h (fun v2 h => ?_)
  refine s_ifc l_Mo_patch_317 h (fun h => ?_) (fun h => ?_)
  · refine s_ic 0 l_Mo_patch_352 rfl ?_
    refine s_is l_Mo_patch_353 (Nat.le_of_ble_eq_true rfl) ?_
    exact h
  · refine s_aln l_Mo_patch_320 rfl ?_
    refine s_gr l_Mo_patch_321 h (fun r3 h => ?_)
    refine s_il l_Mo_patch_324 rfl ?_
    refine s_ial l_Mo_patch_326 rfl h (fun v4 h => ?_)
    refine s_bp (-2) l_Mo_patch_327 rfl ?_
    refine s_ifc l_Mo_patch_329 h (fun h => ?_) (fun h => ?_)
    · refine s_inc 1 l_Mo_patch_346 rfl rfl ?_
      refine s_goto l_Mo_patch_349 ?_
      exact h
    · refine s_aln l_Mo_patch_332 rfl ?_
      refine s_iln l_Mo_patch_333 rfl ?_
      refine s_ic 0 l_Mo_patch_334 rfl ?_
      refine s_ic (-1) l_Mo_patch_335 rfl ?_
      refine s_iln l_Mo_patch_336 rfl ?_
      refine s_il l_Mo_patch_337 rfl ?_
      refine s_csi (As := [.int x2, .int x5]) (r := [.int (-1), .int 0, .int x3, .ref a0]) l_Mo_patch_339 rfl ⟨rfl, rfl⟩ rfl (Nat.le_of_ble_eq_true rfl) rfl ⟨Nat.zero_le _, Nat.zero_le _⟩ h (fun v7 f6 h => ?_)
      refine s_ic 0 l_Mo_patch_342 rfl ?_
      refine s_cvv (As := [.int x3, .int 0, .int (-1), .int v7, .int 0]) (r := []) l_Mo_patch_343 rfl ⟨rfl, rfl⟩ rfl (Nat.le_of_ble_eq_true rfl) rfl ⟨Nat.zero_le _, Nat.zero_le _⟩ h (fun f9 h => ?_)
      refine s_inc 1 l_Mo_patch_346 rfl rfl ?_
      refine s_goto l_Mo_patch_349 ?_
      exact h
def B_Mo_patch_355 (d : Nat) (E : Option Value → xH → Prop) (f : xH) (a0 : Nat) (x1 : Int32) (x2 : Int32) (x3 : Int32) (x4 : Int32) (x5 : Int32) : Prop :=
  xgr f a0 11 9 (fun r1 => xal f r1 0 x1 (fun v2 => xbr (v2 ≤ x5) (xgi f a0 11 23 (fun v3 => xpf f a0 11 23 (.int (v3 + 1)) (fun f4 => E (some (.int x3)) f4))) (xgr f a0 11 27 (fun r5 => xal f r5 0 x5 (fun v6 => xbr (¬ v6 = (-2)) (xWp (xT0, xSp xT0 d, none, m_Mo_patch, E) 355 [some (.ref a0), some (.int x1), some (.int x2), some (.int x3), some (.int x4), some (.int (x5 + 1))] [] f 0 0) (xSp xT0 d j_Mo_at [.int x1, .int x5] f (fun w7 f8 => xvi w7 (fun v9 => (∃ fs, f8 a0 = some (xO 11 fs)) ∧ xSp xT0 d j_Mo_addStep [.ref a0, .int x3, .int 1, .int v9, .int (-1), .int 0] f8 (fun w10 f11 => xvv w10 (xWp (xT0, xSp xT0 d, none, m_Mo_patch, E) 355 [some (.ref a0), some (.int x1), some (.int x2), some (.int x3), some (.int x4), some (.int (x5 + 1))] [] f11 0 0))))))))))
theorem b_Mo_patch_355 {d : Nat} {E : Option Value → xH → Prop} {f : xH} {a0 : Nat} {x1 : Int32} {x2 : Int32} {x3 : Int32} {x4 : Int32} {x5 : Int32} (h : B_Mo_patch_355 d E f a0 x1 x2 x3 x4 x5) : xWp (xT0, xSp xT0 d, none, m_Mo_patch, E) 355 [some (.ref a0), some (.int x1), some (.int x2), some (.int x3), some (.int x4), some (.int x5)] [] f 0 0 := by
  unfold B_Mo_patch_355 at h
  refine s_il l_Mo_patch_355 rfl ?_
  refine s_aln l_Mo_patch_357 rfl ?_
  refine s_gr l_Mo_patch_358 h (fun r1 h => ?_)
  refine s_iln l_Mo_patch_361 rfl ?_
  refine s_ial l_Mo_patch_362 rfl h (fun v2 h => ?_)
  refine s_ifc l_Mo_patch_363 h (fun h => ?_) (fun h => ?_)
  · refine s_aln l_Mo_patch_398 rfl ?_
    refine s_dup l_Mo_patch_399 rfl ?_
    refine s_gi l_Mo_patch_400 h (fun v3 h => ?_)
    refine s_ic 1 l_Mo_patch_403 rfl ?_
    refine s_iadd l_Mo_patch_404 ?_
    refine s_pf l_Mo_patch_405 ⟨_, rfl⟩ h (fun f4 h => ?_)
    refine s_iln l_Mo_patch_408 rfl ?_
    exact s_iret l_Mo_patch_409 rfl ⟨Nat.zero_le _, Nat.zero_le _⟩ h
  · refine s_aln l_Mo_patch_366 rfl ?_
    refine s_gr l_Mo_patch_367 h (fun r5 h => ?_)
    refine s_il l_Mo_patch_370 rfl ?_
    refine s_ial l_Mo_patch_372 rfl h (fun v6 h => ?_)
    refine s_bp (-2) l_Mo_patch_373 rfl ?_
    refine s_ifc l_Mo_patch_375 h (fun h => ?_) (fun h => ?_)
    · refine s_inc 1 l_Mo_patch_392 rfl rfl ?_
      refine s_goto l_Mo_patch_395 ?_
      exact h
    · refine s_aln l_Mo_patch_378 rfl ?_
      refine s_iln l_Mo_patch_379 rfl ?_
      refine s_ic 1 l_Mo_patch_380 rfl ?_
      refine s_iln l_Mo_patch_381 rfl ?_
      refine s_il l_Mo_patch_382 rfl ?_
      refine s_csi (As := [.int x1, .int x5]) (r := [.int 1, .int x3, .ref a0]) l_Mo_patch_384 rfl ⟨rfl, rfl⟩ rfl (Nat.le_of_ble_eq_true rfl) rfl ⟨Nat.zero_le _, Nat.zero_le _⟩ h (fun v9 f8 h => ?_)
      refine s_ic (-1) l_Mo_patch_387 rfl ?_
      refine s_ic 0 l_Mo_patch_388 rfl ?_
      refine s_cvv (As := [.int x3, .int 1, .int v9, .int (-1), .int 0]) (r := []) l_Mo_patch_389 rfl ⟨rfl, rfl⟩ rfl (Nat.le_of_ble_eq_true rfl) rfl ⟨Nat.zero_le _, Nat.zero_le _⟩ h (fun f11 h => ?_)
      refine s_inc 1 l_Mo_patch_392 rfl rfl ?_
      refine s_goto l_Mo_patch_395 ?_
      exact h
theorem l_Mo_addStep_0 : xlk (xm_cd m_Mo_addStep) 0 = some (.iload_n 3, 1, (0, 0, 0, [])) := rfl
theorem l_Mo_addStep_1 : xlk (xm_cd m_Mo_addStep) 1 = some (.ifCond .ge 8, 3, (0, 9, 0, [])) := rfl
theorem l_Mo_addStep_4 : xlk (xm_cd m_Mo_addStep) 4 = some (.iload 4, 2, (0, 0, 0, [])) := rfl
theorem l_Mo_addStep_6 : xlk (xm_cd m_Mo_addStep) 6 = some (.goto 4, 3, (0, 10, 0, [])) := rfl
theorem l_Mo_addStep_9 : xlk (xm_cd m_Mo_addStep) 9 = some (.iload_n 3, 1, (0, 0, 0, [])) := rfl
theorem l_Mo_addStep_10 : xlk (xm_cd m_Mo_addStep) 10 = some (.istore 6, 2, (0, 0, 0, [])) := rfl
theorem l_Mo_addStep_12 : xlk (xm_cd m_Mo_addStep) 12 = some (.iload 4, 2, (0, 0, 0, [])) := rfl
theorem l_Mo_addStep_14 : xlk (xm_cd m_Mo_addStep) 14 = some (.ifCond .ge 7, 3, (0, 21, 0, [])) := rfl
theorem l_Mo_addStep_17 : xlk (xm_cd m_Mo_addStep) 17 = some (.iload_n 3, 1, (0, 0, 0, [])) := rfl
theorem l_Mo_addStep_18 : xlk (xm_cd m_Mo_addStep) 18 = some (.goto 5, 3, (0, 23, 0, [])) := rfl
theorem l_Mo_addStep_21 : xlk (xm_cd m_Mo_addStep) 21 = some (.iload 4, 2, (0, 0, 0, [])) := rfl
theorem l_Mo_addStep_23 : xlk (xm_cd m_Mo_addStep) 23 = some (.istore 7, 2, (0, 0, 0, [])) := rfl
theorem l_Mo_addStep_25 : xlk (xm_cd m_Mo_addStep) 25 = some (.aload_n 0, 1, (0, 0, 0, [])) := rfl
theorem l_Mo_addStep_26 : xlk (xm_cd m_Mo_addStep) 26 = some (.iload_n 2, 1, (0, 0, 0, [])) := rfl
theorem l_Mo_addStep_27 : xlk (xm_cd m_Mo_addStep) 27 = some (.aload_n 0, 1, (0, 0, 0, [])) := rfl
theorem l_Mo_addStep_28 : xlk (xm_cd m_Mo_addStep) 28 = some (.getfield 20, 3, (854, 11, 5, [])) := rfl
theorem l_Mo_addStep_31 : xlk (xm_cd m_Mo_addStep) 31 = some (.bipush 18, 2, (0, 0, 0, [])) := rfl
theorem l_Mo_addStep_33 : xlk (xm_cd m_Mo_addStep) 33 = some (.iload 6, 2, (0, 0, 0, [])) := rfl
theorem l_Mo_addStep_35 : xlk (xm_cd m_Mo_addStep) 35 = some (.imul, 1, (0, 0, 0, [])) := rfl
theorem l_Mo_addStep_36 : xlk (xm_cd m_Mo_addStep) 36 = some (.aload_n 0, 1, (0, 0, 0, [])) := rfl
theorem l_Mo_addStep_37 : xlk (xm_cd m_Mo_addStep) 37 = some (.getfield 23, 3, (855, 11, 6, [])) := rfl
theorem l_Mo_addStep_40 : xlk (xm_cd m_Mo_addStep) 40 = some (.iload 6, 2, (0, 0, 0, [])) := rfl
theorem l_Mo_addStep_42 : xlk (xm_cd m_Mo_addStep) 42 = some (.iaload, 1, (0, 0, 0, [])) := rfl
theorem l_Mo_addStep_43 : xlk (xm_cd m_Mo_addStep) 43 = some (.aload_n 0, 1, (0, 0, 0, [])) := rfl
theorem l_Mo_addStep_44 : xlk (xm_cd m_Mo_addStep) 44 = some (.getfield 20, 3, (854, 11, 5, [])) := rfl
theorem l_Mo_addStep_47 : xlk (xm_cd m_Mo_addStep) 47 = some (.bipush 18, 2, (0, 0, 0, [])) := rfl
theorem l_Mo_addStep_49 : xlk (xm_cd m_Mo_addStep) 49 = some (.iload 7, 2, (0, 0, 0, [])) := rfl
theorem l_Mo_addStep_51 : xlk (xm_cd m_Mo_addStep) 51 = some (.imul, 1, (0, 0, 0, [])) := rfl
theorem l_Mo_addStep_52 : xlk (xm_cd m_Mo_addStep) 52 = some (.aload_n 0, 1, (0, 0, 0, [])) := rfl
theorem l_Mo_addStep_53 : xlk (xm_cd m_Mo_addStep) 53 = some (.getfield 23, 3, (855, 11, 6, [])) := rfl
theorem l_Mo_addStep_56 : xlk (xm_cd m_Mo_addStep) 56 = some (.iload 7, 2, (0, 0, 0, [])) := rfl
theorem l_Mo_addStep_58 : xlk (xm_cd m_Mo_addStep) 58 = some (.iaload, 1, (0, 0, 0, [])) := rfl
theorem l_Mo_addStep_59 : xlk (xm_cd m_Mo_addStep) 59 = some (.invokevirtual 222, 3, (1038, 171, 7, [])) := rfl
theorem l_Mo_addStep_62 : xlk (xm_cd m_Mo_addStep) 62 = some (.aload_n 0, 1, (0, 0, 0, [])) := rfl
theorem l_Mo_addStep_63 : xlk (xm_cd m_Mo_addStep) 63 = some (.iload_n 3, 1, (0, 0, 0, [])) := rfl
theorem l_Mo_addStep_64 : xlk (xm_cd m_Mo_addStep) 64 = some (.iload 4, 2, (0, 0, 0, [])) := rfl
theorem l_Mo_addStep_66 : xlk (xm_cd m_Mo_addStep) 66 = some (.iload 5, 2, (0, 0, 0, [])) := rfl
theorem l_Mo_addStep_68 : xlk (xm_cd m_Mo_addStep) 68 = some (.invokevirtual 225, 3, (1041, 172, 3, [])) := rfl
theorem l_Mo_addStep_71 : xlk (xm_cd m_Mo_addStep) 71 = some (.aload_n 0, 1, (0, 0, 0, [])) := rfl
theorem l_Mo_addStep_72 : xlk (xm_cd m_Mo_addStep) 72 = some (.iload_n 1, 1, (0, 0, 0, [])) := rfl
theorem l_Mo_addStep_73 : xlk (xm_cd m_Mo_addStep) 73 = some (.invokevirtual 229, 3, (1056, 177, 1, [])) := rfl
theorem l_Mo_addStep_76 : xlk (xm_cd m_Mo_addStep) 76 = some (.return_, 1, (0, 0, 0, [])) := rfl
def B_Mo_addStep_0 (d : Nat) (E : Option Value → xH → Prop) (f : xH) (a0 : Nat) (x1 : Int32) (x2 : Int32) (x3 : Int32) (x4 : Int32) (x5 : Int32) : Prop :=
  xbr ((0 : Int32) ≤ x3) (xbr ((0 : Int32) ≤ x4) (xWp (xT0, xSp xT0 d, none, m_Mo_addStep, E) 23 [some (.ref a0), some (.int x1), some (.int x2), some (.int x3), some (.int x4), some (.int x5), some (.int x3), none] [.int x4] f 0 0) (xWp (xT0, xSp xT0 d, none, m_Mo_addStep, E) 23 [some (.ref a0), some (.int x1), some (.int x2), some (.int x3), some (.int x4), some (.int x5), some (.int x3), none] [.int x3] f 0 0)) (xbr ((0 : Int32) ≤ x4) (xWp (xT0, xSp xT0 d, none, m_Mo_addStep, E) 23 [some (.ref a0), some (.int x1), some (.int x2), some (.int x3), some (.int x4), some (.int x5), some (.int x4), none] [.int x4] f 0 0) (xWp (xT0, xSp xT0 d, none, m_Mo_addStep, E) 23 [some (.ref a0), some (.int x1), some (.int x2), some (.int x3), some (.int x4), some (.int x5), some (.int x4), none] [.int x3] f 0 0))
theorem b_Mo_addStep_0 {d : Nat} {E : Option Value → xH → Prop} {f : xH} {a0 : Nat} {x1 : Int32} {x2 : Int32} {x3 : Int32} {x4 : Int32} {x5 : Int32} (h : B_Mo_addStep_0 d E f a0 x1 x2 x3 x4 x5) : xWp (xT0, xSp xT0 d, none, m_Mo_addStep, E) 0 [some (.ref a0), some (.int x1), some (.int x2), some (.int x3), some (.int x4), some (.int x5), none, none] [] f 0 0 := by
  unfold B_Mo_addStep_0 at h
  refine s_iln l_Mo_addStep_0 rfl ?_
  refine s_if l_Mo_addStep_1 h (fun h => ?_) (fun h => ?_)
  · refine s_iln l_Mo_addStep_9 rfl ?_
    refine s_is l_Mo_addStep_10 (Nat.le_of_ble_eq_true rfl) ?_
    refine s_il l_Mo_addStep_12 rfl ?_
    refine s_if l_Mo_addStep_14 h (fun h => ?_) (fun h => ?_)
    · refine s_il l_Mo_addStep_21 rfl ?_
      exact h
    · refine s_iln l_Mo_addStep_17 rfl ?_
      refine s_goto l_Mo_addStep_18 ?_
      exact h
  · refine s_il l_Mo_addStep_4 rfl ?_
    refine s_goto l_Mo_addStep_6 ?_
    refine s_is l_Mo_addStep_10 (Nat.le_of_ble_eq_true rfl) ?_
    refine s_il l_Mo_addStep_12 rfl ?_
    refine s_if l_Mo_addStep_14 h (fun h => ?_) (fun h => ?_)
    · refine s_il l_Mo_addStep_21 rfl ?_
      exact h
    · refine s_iln l_Mo_addStep_17 rfl ?_
      refine s_goto l_Mo_addStep_18 ?_
      exact h
def B_Mo_addStep_23 (d : Nat) (E : Option Value → xH → Prop) (f : xH) (a0 : Nat) (x1 : Int32) (x2 : Int32) (x3 : Int32) (x4 : Int32) (x5 : Int32) (x6 : Int32) (u7 : Option Value) (s0 : Int32) : Prop :=
  xgr f a0 11 5 (fun r1 => xgr f a0 11 6 (fun r2 => xal f r2 0 x6 (fun v3 => xgr f a0 11 5 (fun r4 => xgr f a0 11 6 (fun r5 => xal f r5 0 s0 (fun v6 => (∃ fs, f a0 = some (xO 11 fs)) ∧ xSp xT0 d j_Mo_nameSpare [.ref a0, .int x2, .ref r1, .int (18 * x6), .int v3, .ref r4, .int (18 * s0), .int v6] f (fun w7 f8 => xvv w7 ((∃ fs, f8 a0 = some (xO 11 fs)) ∧ xSp xT0 d j_Mo_fillSpare [.ref a0, .int x3, .int x4, .int x5] f8 (fun w9 f10 => xvv w9 ((∃ fs, f10 a0 = some (xO 11 fs)) ∧ xSp xT0 d j_Mo_addSpare [.ref a0, .int x1] f10 (fun w11 f12 => xvv w11 (E none f12))))))))))))
theorem b_Mo_addStep_23 {d : Nat} {E : Option Value → xH → Prop} {f : xH} {a0 : Nat} {x1 : Int32} {x2 : Int32} {x3 : Int32} {x4 : Int32} {x5 : Int32} {x6 : Int32} {u7 : Option Value} {s0 : Int32} (h : B_Mo_addStep_23 d E f a0 x1 x2 x3 x4 x5 x6 u7 s0) : xWp (xT0, xSp xT0 d, none, m_Mo_addStep, E) 23 [some (.ref a0), some (.int x1), some (.int x2), some (.int x3), some (.int x4), some (.int x5), some (.int x6), u7] [.int s0] f 0 0 := by
  unfold B_Mo_addStep_23 at h
  refine s_is l_Mo_addStep_23 (Nat.le_of_ble_eq_true rfl) ?_
  refine s_aln l_Mo_addStep_25 rfl ?_
  refine s_iln l_Mo_addStep_26 rfl ?_
  refine s_aln l_Mo_addStep_27 rfl ?_
  refine s_gr l_Mo_addStep_28 h (fun r1 h => ?_)
  refine s_bp 18 l_Mo_addStep_31 rfl ?_
  refine s_il l_Mo_addStep_33 rfl ?_
  refine s_imul l_Mo_addStep_35 ?_
  refine s_aln l_Mo_addStep_36 rfl ?_
  refine s_gr l_Mo_addStep_37 h (fun r2 h => ?_)
  refine s_il l_Mo_addStep_40 rfl ?_
  refine s_ial l_Mo_addStep_42 rfl h (fun v3 h => ?_)
  refine s_aln l_Mo_addStep_43 rfl ?_
  refine s_gr l_Mo_addStep_44 h (fun r4 h => ?_)
  refine s_bp 18 l_Mo_addStep_47 rfl ?_
  refine s_il l_Mo_addStep_49 rfl ?_
  refine s_imul l_Mo_addStep_51 ?_
  refine s_aln l_Mo_addStep_52 rfl ?_
  refine s_gr l_Mo_addStep_53 h (fun r5 h => ?_)
  refine s_il l_Mo_addStep_56 rfl ?_
  refine s_ial l_Mo_addStep_58 rfl h (fun v6 h => ?_)
  refine s_cvv (As := [.int x2, .ref r1, .int (18 * x6), .int v3, .ref r4, .int (18 * s0), .int v6]) (r := []) l_Mo_addStep_59 rfl ⟨rfl, rfl⟩ rfl (Nat.le_of_ble_eq_true rfl) rfl ⟨Nat.zero_le _, Nat.zero_le _⟩ h (fun f8 h => ?_)
  refine s_aln l_Mo_addStep_62 rfl ?_
  refine s_iln l_Mo_addStep_63 rfl ?_
  refine s_il l_Mo_addStep_64 rfl ?_
  refine s_il l_Mo_addStep_66 rfl ?_
  refine s_cvv (As := [.int x3, .int x4, .int x5]) (r := []) l_Mo_addStep_68 rfl ⟨rfl, rfl⟩ rfl (Nat.le_of_ble_eq_true rfl) rfl ⟨Nat.zero_le _, Nat.zero_le _⟩ h (fun f10 h => ?_)
  refine s_aln l_Mo_addStep_71 rfl ?_
  refine s_iln l_Mo_addStep_72 rfl ?_
  refine s_cvv (As := [.int x1]) (r := []) l_Mo_addStep_73 rfl ⟨rfl, rfl⟩ rfl (Nat.le_of_ble_eq_true rfl) rfl ⟨Nat.zero_le _, Nat.zero_le _⟩ h (fun f12 h => ?_)
  exact s_ret l_Mo_addStep_76 ⟨Nat.zero_le _, Nat.zero_le _⟩ h
theorem l_Mo_nameSpare_0 : xlk (xm_cd m_Mo_nameSpare) 0 = some (.aload_n 0, 1, (0, 0, 0, [])) := rfl
theorem l_Mo_nameSpare_1 : xlk (xm_cd m_Mo_nameSpare) 1 = some (.getfield 36, 3, (860, 11, 11, [])) := rfl
theorem l_Mo_nameSpare_4 : xlk (xm_cd m_Mo_nameSpare) 4 = some (.sipush 217, 3, (0, 0, 0, [])) := rfl
theorem l_Mo_nameSpare_7 : xlk (xm_cd m_Mo_nameSpare) 7 = some (.iload_n 1, 1, (0, 0, 0, [])) := rfl
theorem l_Mo_nameSpare_8 : xlk (xm_cd m_Mo_nameSpare) 8 = some (.iastore, 1, (0, 0, 0, [])) := rfl
theorem l_Mo_nameSpare_9 : xlk (xm_cd m_Mo_nameSpare) 9 = some (.aload_n 2, 1, (0, 0, 0, [])) := rfl
theorem l_Mo_nameSpare_10 : xlk (xm_cd m_Mo_nameSpare) 10 = some (.iload_n 3, 1, (0, 0, 0, [])) := rfl
theorem l_Mo_nameSpare_11 : xlk (xm_cd m_Mo_nameSpare) 11 = some (.aload_n 0, 1, (0, 0, 0, [])) := rfl
theorem l_Mo_nameSpare_12 : xlk (xm_cd m_Mo_nameSpare) 12 = some (.getfield 45, 3, (863, 11, 14, [])) := rfl
theorem l_Mo_nameSpare_15 : xlk (xm_cd m_Mo_nameSpare) 15 = some (.sipush 3906, 3, (0, 0, 0, [])) := rfl
theorem l_Mo_nameSpare_18 : xlk (xm_cd m_Mo_nameSpare) 18 = some (.iload 4, 2, (0, 0, 0, [])) := rfl
theorem l_Mo_nameSpare_20 : xlk (xm_cd m_Mo_nameSpare) 20 = some (.invokestatic 162, 3, (977, 154, 5, [])) := rfl
theorem l_Mo_nameSpare_23 : xlk (xm_cd m_Mo_nameSpare) 23 = some (.aload_n 0, 1, (0, 0, 0, [])) := rfl
theorem l_Mo_nameSpare_24 : xlk (xm_cd m_Mo_nameSpare) 24 = some (.getfield 48, 3, (864, 11, 15, [])) := rfl
theorem l_Mo_nameSpare_27 : xlk (xm_cd m_Mo_nameSpare) 27 = some (.sipush 217, 3, (0, 0, 0, [])) := rfl
theorem l_Mo_nameSpare_30 : xlk (xm_cd m_Mo_nameSpare) 30 = some (.iload 4, 2, (0, 0, 0, [])) := rfl
theorem l_Mo_nameSpare_32 : xlk (xm_cd m_Mo_nameSpare) 32 = some (.iastore, 1, (0, 0, 0, [])) := rfl
theorem l_Mo_nameSpare_33 : xlk (xm_cd m_Mo_nameSpare) 33 = some (.aload 5, 2, (0, 0, 0, [])) := rfl
theorem l_Mo_nameSpare_35 : xlk (xm_cd m_Mo_nameSpare) 35 = some (.iload 6, 2, (0, 0, 0, [])) := rfl
theorem l_Mo_nameSpare_37 : xlk (xm_cd m_Mo_nameSpare) 37 = some (.aload_n 0, 1, (0, 0, 0, [])) := rfl
theorem l_Mo_nameSpare_38 : xlk (xm_cd m_Mo_nameSpare) 38 = some (.getfield 39, 3, (861, 11, 12, [])) := rfl
theorem l_Mo_nameSpare_41 : xlk (xm_cd m_Mo_nameSpare) 41 = some (.sipush 3906, 3, (0, 0, 0, [])) := rfl
theorem l_Mo_nameSpare_44 : xlk (xm_cd m_Mo_nameSpare) 44 = some (.iload 7, 2, (0, 0, 0, [])) := rfl
theorem l_Mo_nameSpare_46 : xlk (xm_cd m_Mo_nameSpare) 46 = some (.invokestatic 162, 3, (977, 154, 5, [])) := rfl
theorem l_Mo_nameSpare_49 : xlk (xm_cd m_Mo_nameSpare) 49 = some (.aload_n 0, 1, (0, 0, 0, [])) := rfl
theorem l_Mo_nameSpare_50 : xlk (xm_cd m_Mo_nameSpare) 50 = some (.getfield 42, 3, (862, 11, 13, [])) := rfl
theorem l_Mo_nameSpare_53 : xlk (xm_cd m_Mo_nameSpare) 53 = some (.sipush 217, 3, (0, 0, 0, [])) := rfl
theorem l_Mo_nameSpare_56 : xlk (xm_cd m_Mo_nameSpare) 56 = some (.iload 7, 2, (0, 0, 0, [])) := rfl
theorem l_Mo_nameSpare_58 : xlk (xm_cd m_Mo_nameSpare) 58 = some (.iastore, 1, (0, 0, 0, [])) := rfl
theorem l_Mo_nameSpare_59 : xlk (xm_cd m_Mo_nameSpare) 59 = some (.return_, 1, (0, 0, 0, [])) := rfl
def B_Mo_nameSpare_0 (d : Nat) (E : Option Value → xH → Prop) (f : xH) (a0 : Nat) (x1 : Int32) (a2 : Nat) (x3 : Int32) (x4 : Int32) (a5 : Nat) (x6 : Int32) (x7 : Int32) : Prop :=
  xgr f a0 11 11 (fun r1 => xas f r1 0 217 x1 (fun f2 => xgr f2 a0 11 14 (fun r3 => xSp xT0 d j_Mo_move [.ref a2, .int x3, .ref r3, .int 3906, .int x4] f2 (fun w4 f5 => xvv w4 (xgr f5 a0 11 15 (fun r6 => xas f5 r6 0 217 x4 (fun f7 => xgr f7 a0 11 12 (fun r8 => xSp xT0 d j_Mo_move [.ref a5, .int x6, .ref r8, .int 3906, .int x7] f7 (fun w9 f10 => xvv w9 (xgr f10 a0 11 13 (fun r11 => xas f10 r11 0 217 x7 (fun f12 => E none f12))))))))))))
theorem b_Mo_nameSpare_0 {d : Nat} {E : Option Value → xH → Prop} {f : xH} {a0 : Nat} {x1 : Int32} {a2 : Nat} {x3 : Int32} {x4 : Int32} {a5 : Nat} {x6 : Int32} {x7 : Int32} (h : B_Mo_nameSpare_0 d E f a0 x1 a2 x3 x4 a5 x6 x7) : xWp (xT0, xSp xT0 d, none, m_Mo_nameSpare, E) 0 [some (.ref a0), some (.int x1), some (.ref a2), some (.int x3), some (.int x4), some (.ref a5), some (.int x6), some (.int x7)] [] f 0 0 := by
  unfold B_Mo_nameSpare_0 at h
  refine s_aln l_Mo_nameSpare_0 rfl ?_
  refine s_gr l_Mo_nameSpare_1 h (fun r1 h => ?_)
  refine s_sp 217 l_Mo_nameSpare_4 rfl ?_
  refine s_iln l_Mo_nameSpare_7 rfl ?_
  refine s_iast l_Mo_nameSpare_8 h (fun f2 h => ?_)
  refine s_aln l_Mo_nameSpare_9 rfl ?_
  refine s_iln l_Mo_nameSpare_10 rfl ?_
  refine s_aln l_Mo_nameSpare_11 rfl ?_
  refine s_gr l_Mo_nameSpare_12 h (fun r3 h => ?_)
  refine s_sp 3906 l_Mo_nameSpare_15 rfl ?_
  refine s_il l_Mo_nameSpare_18 rfl ?_
  refine s_csv (As := [.ref a2, .int x3, .ref r3, .int 3906, .int x4]) (r := []) l_Mo_nameSpare_20 rfl ⟨rfl, rfl⟩ rfl (Nat.le_of_ble_eq_true rfl) rfl ⟨Nat.zero_le _, Nat.zero_le _⟩ h (fun f5 h => ?_)
  refine s_aln l_Mo_nameSpare_23 rfl ?_
  refine s_gr l_Mo_nameSpare_24 h (fun r6 h => ?_)
  refine s_sp 217 l_Mo_nameSpare_27 rfl ?_
  refine s_il l_Mo_nameSpare_30 rfl ?_
  refine s_iast l_Mo_nameSpare_32 h (fun f7 h => ?_)
  refine s_al l_Mo_nameSpare_33 rfl ?_
  refine s_il l_Mo_nameSpare_35 rfl ?_
  refine s_aln l_Mo_nameSpare_37 rfl ?_
  refine s_gr l_Mo_nameSpare_38 h (fun r8 h => ?_)
  refine s_sp 3906 l_Mo_nameSpare_41 rfl ?_
  refine s_il l_Mo_nameSpare_44 rfl ?_
  refine s_csv (As := [.ref a5, .int x6, .ref r8, .int 3906, .int x7]) (r := []) l_Mo_nameSpare_46 rfl ⟨rfl, rfl⟩ rfl (Nat.le_of_ble_eq_true rfl) rfl ⟨Nat.zero_le _, Nat.zero_le _⟩ h (fun f10 h => ?_)
  refine s_aln l_Mo_nameSpare_49 rfl ?_
  refine s_gr l_Mo_nameSpare_50 h (fun r11 h => ?_)
  refine s_sp 217 l_Mo_nameSpare_53 rfl ?_
  refine s_il l_Mo_nameSpare_56 rfl ?_
  refine s_iast l_Mo_nameSpare_58 h (fun f12 h => ?_)
  exact s_ret l_Mo_nameSpare_59 ⟨Nat.zero_le _, Nat.zero_le _⟩ h
theorem l_Mo_fillSpare_0 : xlk (xm_cd m_Mo_fillSpare) 0 = some (.iload_n 1, 1, (0, 0, 0, [])) := rfl
theorem l_Mo_fillSpare_1 : xlk (xm_cd m_Mo_fillSpare) 1 = some (.ifCond .ge 7, 3, (0, 8, 0, [])) := rfl
theorem l_Mo_fillSpare_4 : xlk (xm_cd m_Mo_fillSpare) 4 = some (.iconst 0, 1, (0, 0, 0, [])) := rfl
theorem l_Mo_fillSpare_5 : xlk (xm_cd m_Mo_fillSpare) 5 = some (.goto 9, 3, (0, 14, 0, [])) := rfl
theorem l_Mo_fillSpare_8 : xlk (xm_cd m_Mo_fillSpare) 8 = some (.aload_n 0, 1, (0, 0, 0, [])) := rfl
theorem l_Mo_fillSpare_9 : xlk (xm_cd m_Mo_fillSpare) 9 = some (.getfield 30, 3, (857, 11, 8, [])) := rfl
theorem l_Mo_fillSpare_12 : xlk (xm_cd m_Mo_fillSpare) 12 = some (.iload_n 1, 1, (0, 0, 0, [])) := rfl
theorem l_Mo_fillSpare_13 : xlk (xm_cd m_Mo_fillSpare) 13 = some (.iaload, 1, (0, 0, 0, [])) := rfl
theorem l_Mo_fillSpare_14 : xlk (xm_cd m_Mo_fillSpare) 14 = some (.istore 4, 2, (0, 0, 0, [])) := rfl
theorem l_Mo_fillSpare_16 : xlk (xm_cd m_Mo_fillSpare) 16 = some (.iload_n 2, 1, (0, 0, 0, [])) := rfl
theorem l_Mo_fillSpare_17 : xlk (xm_cd m_Mo_fillSpare) 17 = some (.ifCond .ge 7, 3, (0, 24, 0, [])) := rfl
theorem l_Mo_fillSpare_20 : xlk (xm_cd m_Mo_fillSpare) 20 = some (.iconst 0, 1, (0, 0, 0, [])) := rfl
theorem l_Mo_fillSpare_21 : xlk (xm_cd m_Mo_fillSpare) 21 = some (.goto 9, 3, (0, 30, 0, [])) := rfl
theorem l_Mo_fillSpare_24 : xlk (xm_cd m_Mo_fillSpare) 24 = some (.aload_n 0, 1, (0, 0, 0, [])) := rfl
theorem l_Mo_fillSpare_25 : xlk (xm_cd m_Mo_fillSpare) 25 = some (.getfield 30, 3, (857, 11, 8, [])) := rfl
theorem l_Mo_fillSpare_28 : xlk (xm_cd m_Mo_fillSpare) 28 = some (.iload_n 2, 1, (0, 0, 0, [])) := rfl
theorem l_Mo_fillSpare_29 : xlk (xm_cd m_Mo_fillSpare) 29 = some (.iaload, 1, (0, 0, 0, [])) := rfl
theorem l_Mo_fillSpare_30 : xlk (xm_cd m_Mo_fillSpare) 30 = some (.istore 5, 2, (0, 0, 0, [])) := rfl
theorem l_Mo_fillSpare_32 : xlk (xm_cd m_Mo_fillSpare) 32 = some (.iload_n 1, 1, (0, 0, 0, [])) := rfl
theorem l_Mo_fillSpare_33 : xlk (xm_cd m_Mo_fillSpare) 33 = some (.ifCond .ge 7, 3, (0, 40, 0, [])) := rfl
theorem l_Mo_fillSpare_36 : xlk (xm_cd m_Mo_fillSpare) 36 = some (.iconst 0, 1, (0, 0, 0, [])) := rfl
theorem l_Mo_fillSpare_37 : xlk (xm_cd m_Mo_fillSpare) 37 = some (.goto 7, 3, (0, 44, 0, [])) := rfl
theorem l_Mo_fillSpare_40 : xlk (xm_cd m_Mo_fillSpare) 40 = some (.bipush 48, 2, (0, 0, 0, [])) := rfl
theorem l_Mo_fillSpare_42 : xlk (xm_cd m_Mo_fillSpare) 42 = some (.iload_n 1, 1, (0, 0, 0, [])) := rfl
theorem l_Mo_fillSpare_43 : xlk (xm_cd m_Mo_fillSpare) 43 = some (.imul, 1, (0, 0, 0, [])) := rfl
theorem l_Mo_fillSpare_44 : xlk (xm_cd m_Mo_fillSpare) 44 = some (.istore 6, 2, (0, 0, 0, [])) := rfl
theorem l_Mo_fillSpare_46 : xlk (xm_cd m_Mo_fillSpare) 46 = some (.iload_n 2, 1, (0, 0, 0, [])) := rfl
theorem l_Mo_fillSpare_47 : xlk (xm_cd m_Mo_fillSpare) 47 = some (.ifCond .ge 7, 3, (0, 54, 0, [])) := rfl
theorem l_Mo_fillSpare_50 : xlk (xm_cd m_Mo_fillSpare) 50 = some (.iconst 0, 1, (0, 0, 0, [])) := rfl
theorem l_Mo_fillSpare_51 : xlk (xm_cd m_Mo_fillSpare) 51 = some (.goto 7, 3, (0, 58, 0, [])) := rfl
theorem l_Mo_fillSpare_54 : xlk (xm_cd m_Mo_fillSpare) 54 = some (.bipush 48, 2, (0, 0, 0, [])) := rfl
theorem l_Mo_fillSpare_56 : xlk (xm_cd m_Mo_fillSpare) 56 = some (.iload_n 2, 1, (0, 0, 0, [])) := rfl
theorem l_Mo_fillSpare_57 : xlk (xm_cd m_Mo_fillSpare) 57 = some (.imul, 1, (0, 0, 0, [])) := rfl
theorem l_Mo_fillSpare_58 : xlk (xm_cd m_Mo_fillSpare) 58 = some (.istore 7, 2, (0, 0, 0, [])) := rfl
theorem l_Mo_fillSpare_60 : xlk (xm_cd m_Mo_fillSpare) 60 = some (.aload_n 0, 1, (0, 0, 0, [])) := rfl
theorem l_Mo_fillSpare_61 : xlk (xm_cd m_Mo_fillSpare) 61 = some (.getfield 51, 3, (865, 11, 16, [])) := rfl
theorem l_Mo_fillSpare_64 : xlk (xm_cd m_Mo_fillSpare) 64 = some (.sipush 217, 3, (0, 0, 0, [])) := rfl
theorem l_Mo_fillSpare_67 : xlk (xm_cd m_Mo_fillSpare) 67 = some (.iload_n 1, 1, (0, 0, 0, [])) := rfl
theorem l_Mo_fillSpare_68 : xlk (xm_cd m_Mo_fillSpare) 68 = some (.ifCond .ge 8, 3, (0, 76, 0, [])) := rfl
theorem l_Mo_fillSpare_71 : xlk (xm_cd m_Mo_fillSpare) 71 = some (.bipush (-2), 2, (0, 0, 0, [])) := rfl
theorem l_Mo_fillSpare_73 : xlk (xm_cd m_Mo_fillSpare) 73 = some (.goto 5, 3, (0, 78, 0, [])) := rfl
theorem l_Mo_fillSpare_76 : xlk (xm_cd m_Mo_fillSpare) 76 = some (.iload 4, 2, (0, 0, 0, [])) := rfl
theorem l_Mo_fillSpare_78 : xlk (xm_cd m_Mo_fillSpare) 78 = some (.iastore, 1, (0, 0, 0, [])) := rfl
theorem l_Mo_fillSpare_79 : xlk (xm_cd m_Mo_fillSpare) 79 = some (.aload_n 0, 1, (0, 0, 0, [])) := rfl
theorem l_Mo_fillSpare_80 : xlk (xm_cd m_Mo_fillSpare) 80 = some (.getfield 54, 3, (866, 11, 17, [])) := rfl
theorem l_Mo_fillSpare_83 : xlk (xm_cd m_Mo_fillSpare) 83 = some (.sipush 217, 3, (0, 0, 0, [])) := rfl
theorem l_Mo_fillSpare_86 : xlk (xm_cd m_Mo_fillSpare) 86 = some (.iload_n 1, 1, (0, 0, 0, [])) := rfl
theorem l_Mo_fillSpare_87 : xlk (xm_cd m_Mo_fillSpare) 87 = some (.ifCond .ge 8, 3, (0, 95, 0, [])) := rfl
theorem l_Mo_fillSpare_90 : xlk (xm_cd m_Mo_fillSpare) 90 = some (.bipush (-2), 2, (0, 0, 0, [])) := rfl
theorem l_Mo_fillSpare_92 : xlk (xm_cd m_Mo_fillSpare) 92 = some (.goto 14, 3, (0, 106, 0, [])) := rfl
theorem l_Mo_fillSpare_95 : xlk (xm_cd m_Mo_fillSpare) 95 = some (.aload_n 0, 1, (0, 0, 0, [])) := rfl
theorem l_Mo_fillSpare_96 : xlk (xm_cd m_Mo_fillSpare) 96 = some (.getfield 27, 3, (856, 11, 7, [])) := rfl
theorem l_Mo_fillSpare_99 : xlk (xm_cd m_Mo_fillSpare) 99 = some (.iload 6, 2, (0, 0, 0, [])) := rfl
theorem l_Mo_fillSpare_101 : xlk (xm_cd m_Mo_fillSpare) 101 = some (.iload 4, 2, (0, 0, 0, [])) := rfl
theorem l_Mo_fillSpare_103 : xlk (xm_cd m_Mo_fillSpare) 103 = some (.invokestatic 188, 3, (1011, 164, 3, [])) := rfl
theorem l_Mo_fillSpare_106 : xlk (xm_cd m_Mo_fillSpare) 106 = some (.iastore, 1, (0, 0, 0, [])) := rfl
theorem l_Mo_fillSpare_107 : xlk (xm_cd m_Mo_fillSpare) 107 = some (.aload_n 0, 1, (0, 0, 0, [])) := rfl
theorem l_Mo_fillSpare_108 : xlk (xm_cd m_Mo_fillSpare) 108 = some (.getfield 57, 3, (867, 11, 18, [])) := rfl
theorem l_Mo_fillSpare_111 : xlk (xm_cd m_Mo_fillSpare) 111 = some (.sipush 217, 3, (0, 0, 0, [])) := rfl
theorem l_Mo_fillSpare_114 : xlk (xm_cd m_Mo_fillSpare) 114 = some (.iload_n 2, 1, (0, 0, 0, [])) := rfl
theorem l_Mo_fillSpare_115 : xlk (xm_cd m_Mo_fillSpare) 115 = some (.ifCond .ge 8, 3, (0, 123, 0, [])) := rfl
theorem l_Mo_fillSpare_118 : xlk (xm_cd m_Mo_fillSpare) 118 = some (.bipush (-2), 2, (0, 0, 0, [])) := rfl
theorem l_Mo_fillSpare_120 : xlk (xm_cd m_Mo_fillSpare) 120 = some (.goto 5, 3, (0, 125, 0, [])) := rfl
theorem l_Mo_fillSpare_123 : xlk (xm_cd m_Mo_fillSpare) 123 = some (.iload 5, 2, (0, 0, 0, [])) := rfl
theorem l_Mo_fillSpare_125 : xlk (xm_cd m_Mo_fillSpare) 125 = some (.iastore, 1, (0, 0, 0, [])) := rfl
theorem l_Mo_fillSpare_126 : xlk (xm_cd m_Mo_fillSpare) 126 = some (.aload_n 0, 1, (0, 0, 0, [])) := rfl
theorem l_Mo_fillSpare_127 : xlk (xm_cd m_Mo_fillSpare) 127 = some (.getfield 60, 3, (868, 11, 19, [])) := rfl
theorem l_Mo_fillSpare_130 : xlk (xm_cd m_Mo_fillSpare) 130 = some (.sipush 217, 3, (0, 0, 0, [])) := rfl
theorem l_Mo_fillSpare_133 : xlk (xm_cd m_Mo_fillSpare) 133 = some (.iload_n 2, 1, (0, 0, 0, [])) := rfl
theorem l_Mo_fillSpare_134 : xlk (xm_cd m_Mo_fillSpare) 134 = some (.ifCond .ge 8, 3, (0, 142, 0, [])) := rfl
theorem l_Mo_fillSpare_137 : xlk (xm_cd m_Mo_fillSpare) 137 = some (.bipush (-2), 2, (0, 0, 0, [])) := rfl
theorem l_Mo_fillSpare_139 : xlk (xm_cd m_Mo_fillSpare) 139 = some (.goto 14, 3, (0, 153, 0, [])) := rfl
theorem l_Mo_fillSpare_142 : xlk (xm_cd m_Mo_fillSpare) 142 = some (.aload_n 0, 1, (0, 0, 0, [])) := rfl
theorem l_Mo_fillSpare_143 : xlk (xm_cd m_Mo_fillSpare) 143 = some (.getfield 27, 3, (856, 11, 7, [])) := rfl
theorem l_Mo_fillSpare_146 : xlk (xm_cd m_Mo_fillSpare) 146 = some (.iload 7, 2, (0, 0, 0, [])) := rfl
theorem l_Mo_fillSpare_148 : xlk (xm_cd m_Mo_fillSpare) 148 = some (.iload 5, 2, (0, 0, 0, [])) := rfl
theorem l_Mo_fillSpare_150 : xlk (xm_cd m_Mo_fillSpare) 150 = some (.invokestatic 188, 3, (1011, 164, 3, [])) := rfl
theorem l_Mo_fillSpare_153 : xlk (xm_cd m_Mo_fillSpare) 153 = some (.iastore, 1, (0, 0, 0, [])) := rfl
theorem l_Mo_fillSpare_154 : xlk (xm_cd m_Mo_fillSpare) 154 = some (.iload_n 3, 1, (0, 0, 0, [])) := rfl
theorem l_Mo_fillSpare_155 : xlk (xm_cd m_Mo_fillSpare) 155 = some (.ifCond .eq 30, 3, (0, 185, 0, [])) := rfl
theorem l_Mo_fillSpare_158 : xlk (xm_cd m_Mo_fillSpare) 158 = some (.iload 5, 2, (0, 0, 0, [])) := rfl
set_option maxRecDepth 20000 in
theorem l_Mo_fillSpare_160 : xlk (xm_cd m_Mo_fillSpare) 160 = some (.aload_n 0, 1, (0, 0, 0, [])) := rfl
set_option maxRecDepth 20000 in
theorem l_Mo_fillSpare_161 : xlk (xm_cd m_Mo_fillSpare) 161 = some (.getfield 63, 3, (869, 11, 20, [])) := rfl
set_option maxRecDepth 20000 in
theorem l_Mo_fillSpare_164 : xlk (xm_cd m_Mo_fillSpare) 164 = some (.sipush 10416, 3, (0, 0, 0, [])) := rfl
set_option maxRecDepth 20000 in
theorem l_Mo_fillSpare_167 : xlk (xm_cd m_Mo_fillSpare) 167 = some (.invokestatic 214, 3, (1044, 173, 3, [])) := rfl
set_option maxRecDepth 20000 in
theorem l_Mo_fillSpare_170 : xlk (xm_cd m_Mo_fillSpare) 170 = some (.iload 4, 2, (0, 0, 0, [])) := rfl
set_option maxRecDepth 20000 in
theorem l_Mo_fillSpare_172 : xlk (xm_cd m_Mo_fillSpare) 172 = some (.aload_n 0, 1, (0, 0, 0, [])) := rfl
set_option maxRecDepth 20000 in
theorem l_Mo_fillSpare_173 : xlk (xm_cd m_Mo_fillSpare) 173 = some (.getfield 66, 3, (870, 11, 21, [])) := rfl
set_option maxRecDepth 20000 in
theorem l_Mo_fillSpare_176 : xlk (xm_cd m_Mo_fillSpare) 176 = some (.sipush 10416, 3, (0, 0, 0, [])) := rfl
set_option maxRecDepth 20000 in
theorem l_Mo_fillSpare_179 : xlk (xm_cd m_Mo_fillSpare) 179 = some (.invokestatic 214, 3, (1044, 173, 3, [])) := rfl
set_option maxRecDepth 20000 in
theorem l_Mo_fillSpare_182 : xlk (xm_cd m_Mo_fillSpare) 182 = some (.goto 57, 3, (0, 239, 0, [])) := rfl
set_option maxRecDepth 20000 in
theorem l_Mo_fillSpare_185 : xlk (xm_cd m_Mo_fillSpare) 185 = some (.aload_n 0, 1, (0, 0, 0, [])) := rfl
set_option maxRecDepth 20000 in
theorem l_Mo_fillSpare_186 : xlk (xm_cd m_Mo_fillSpare) 186 = some (.aload_n 0, 1, (0, 0, 0, [])) := rfl
set_option maxRecDepth 20000 in
theorem l_Mo_fillSpare_187 : xlk (xm_cd m_Mo_fillSpare) 187 = some (.getfield 27, 3, (856, 11, 7, [])) := rfl
set_option maxRecDepth 20000 in
theorem l_Mo_fillSpare_190 : xlk (xm_cd m_Mo_fillSpare) 190 = some (.iload 6, 2, (0, 0, 0, [])) := rfl
set_option maxRecDepth 20000 in
theorem l_Mo_fillSpare_192 : xlk (xm_cd m_Mo_fillSpare) 192 = some (.iload 4, 2, (0, 0, 0, [])) := rfl
set_option maxRecDepth 20000 in
theorem l_Mo_fillSpare_194 : xlk (xm_cd m_Mo_fillSpare) 194 = some (.aload_n 0, 1, (0, 0, 0, [])) := rfl
set_option maxRecDepth 20000 in
theorem l_Mo_fillSpare_195 : xlk (xm_cd m_Mo_fillSpare) 195 = some (.getfield 27, 3, (856, 11, 7, [])) := rfl
set_option maxRecDepth 20000 in
theorem l_Mo_fillSpare_198 : xlk (xm_cd m_Mo_fillSpare) 198 = some (.iload 7, 2, (0, 0, 0, [])) := rfl
set_option maxRecDepth 20000 in
theorem l_Mo_fillSpare_200 : xlk (xm_cd m_Mo_fillSpare) 200 = some (.iload 5, 2, (0, 0, 0, [])) := rfl
set_option maxRecDepth 20000 in
theorem l_Mo_fillSpare_202 : xlk (xm_cd m_Mo_fillSpare) 202 = some (.aload_n 0, 1, (0, 0, 0, [])) := rfl
set_option maxRecDepth 20000 in
theorem l_Mo_fillSpare_203 : xlk (xm_cd m_Mo_fillSpare) 203 = some (.getfield 63, 3, (869, 11, 20, [])) := rfl
set_option maxRecDepth 20000 in
theorem l_Mo_fillSpare_206 : xlk (xm_cd m_Mo_fillSpare) 206 = some (.sipush 10416, 3, (0, 0, 0, [])) := rfl
set_option maxRecDepth 20000 in
theorem l_Mo_fillSpare_209 : xlk (xm_cd m_Mo_fillSpare) 209 = some (.invokevirtual 218, 3, (1047, 174, 8, [])) := rfl
set_option maxRecDepth 20000 in
theorem l_Mo_fillSpare_212 : xlk (xm_cd m_Mo_fillSpare) 212 = some (.aload_n 0, 1, (0, 0, 0, [])) := rfl
set_option maxRecDepth 20000 in
theorem l_Mo_fillSpare_213 : xlk (xm_cd m_Mo_fillSpare) 213 = some (.aload_n 0, 1, (0, 0, 0, [])) := rfl
set_option maxRecDepth 20000 in
theorem l_Mo_fillSpare_214 : xlk (xm_cd m_Mo_fillSpare) 214 = some (.getfield 27, 3, (856, 11, 7, [])) := rfl
set_option maxRecDepth 20000 in
theorem l_Mo_fillSpare_217 : xlk (xm_cd m_Mo_fillSpare) 217 = some (.iload 7, 2, (0, 0, 0, [])) := rfl
set_option maxRecDepth 20000 in
theorem l_Mo_fillSpare_219 : xlk (xm_cd m_Mo_fillSpare) 219 = some (.iload 5, 2, (0, 0, 0, [])) := rfl
set_option maxRecDepth 20000 in
theorem l_Mo_fillSpare_221 : xlk (xm_cd m_Mo_fillSpare) 221 = some (.aload_n 0, 1, (0, 0, 0, [])) := rfl
set_option maxRecDepth 20000 in
theorem l_Mo_fillSpare_222 : xlk (xm_cd m_Mo_fillSpare) 222 = some (.getfield 27, 3, (856, 11, 7, [])) := rfl
set_option maxRecDepth 20000 in
theorem l_Mo_fillSpare_225 : xlk (xm_cd m_Mo_fillSpare) 225 = some (.iload 6, 2, (0, 0, 0, [])) := rfl
set_option maxRecDepth 20000 in
theorem l_Mo_fillSpare_227 : xlk (xm_cd m_Mo_fillSpare) 227 = some (.iload 4, 2, (0, 0, 0, [])) := rfl
set_option maxRecDepth 20000 in
theorem l_Mo_fillSpare_229 : xlk (xm_cd m_Mo_fillSpare) 229 = some (.aload_n 0, 1, (0, 0, 0, [])) := rfl
set_option maxRecDepth 20000 in
theorem l_Mo_fillSpare_230 : xlk (xm_cd m_Mo_fillSpare) 230 = some (.getfield 66, 3, (870, 11, 21, [])) := rfl
set_option maxRecDepth 20000 in
theorem l_Mo_fillSpare_233 : xlk (xm_cd m_Mo_fillSpare) 233 = some (.sipush 10416, 3, (0, 0, 0, [])) := rfl
set_option maxRecDepth 20000 in
theorem l_Mo_fillSpare_236 : xlk (xm_cd m_Mo_fillSpare) 236 = some (.invokevirtual 218, 3, (1047, 174, 8, [])) := rfl
set_option maxRecDepth 20000 in
theorem l_Mo_fillSpare_239 : xlk (xm_cd m_Mo_fillSpare) 239 = some (.return_, 1, (0, 0, 0, [])) := rfl
def B_Mo_fillSpare_0 (d : Nat) (E : Option Value → xH → Prop) (f : xH) (a0 : Nat) (x1 : Int32) (x2 : Int32) (x3 : Int32) : Prop :=
  xbr ((0 : Int32) ≤ x1) (xgr f a0 11 8 (fun r1 => xal f r1 0 x1 (fun v2 => xWp (xT0, xSp xT0 d, none, m_Mo_fillSpare, E) 14 [some (.ref a0), some (.int x1), some (.int x2), some (.int x3), none, none, none, none] [.int v2] f 0 0))) (xWp (xT0, xSp xT0 d, none, m_Mo_fillSpare, E) 14 [some (.ref a0), some (.int x1), some (.int x2), some (.int x3), none, none, none, none] [.int 0] f 0 0)
theorem b_Mo_fillSpare_0 {d : Nat} {E : Option Value → xH → Prop} {f : xH} {a0 : Nat} {x1 : Int32} {x2 : Int32} {x3 : Int32} (h : B_Mo_fillSpare_0 d E f a0 x1 x2 x3) : xWp (xT0, xSp xT0 d, none, m_Mo_fillSpare, E) 0 [some (.ref a0), some (.int x1), some (.int x2), some (.int x3), none, none, none, none] [] f 0 0 := by
  unfold B_Mo_fillSpare_0 at h
  refine s_iln l_Mo_fillSpare_0 rfl ?_
  refine s_if l_Mo_fillSpare_1 h (fun h => ?_) (fun h => ?_)
  · refine s_aln l_Mo_fillSpare_8 rfl ?_
    refine s_gr l_Mo_fillSpare_9 h (fun r1 h => ?_)
    refine s_iln l_Mo_fillSpare_12 rfl ?_
    refine s_ial l_Mo_fillSpare_13 rfl h (fun v2 h => ?_)
    exact h
  · refine s_ic 0 l_Mo_fillSpare_4 rfl ?_
    refine s_goto l_Mo_fillSpare_5 ?_
    exact h
def B_Mo_fillSpare_14 (d : Nat) (E : Option Value → xH → Prop) (f : xH) (a0 : Nat) (x1 : Int32) (x2 : Int32) (x3 : Int32) (u4 : Option Value) (u5 : Option Value) (u6 : Option Value) (u7 : Option Value) (s0 : Int32) : Prop :=
  xbr ((0 : Int32) ≤ x2) (xgr f a0 11 8 (fun r1 => xal f r1 0 x2 (fun v2 => xWp (xT0, xSp xT0 d, none, m_Mo_fillSpare, E) 30 [some (.ref a0), some (.int x1), some (.int x2), some (.int x3), some (.int s0), u5, u6, u7] [.int v2] f 0 0))) (xWp (xT0, xSp xT0 d, none, m_Mo_fillSpare, E) 30 [some (.ref a0), some (.int x1), some (.int x2), some (.int x3), some (.int s0), u5, u6, u7] [.int 0] f 0 0)
theorem b_Mo_fillSpare_14 {d : Nat} {E : Option Value → xH → Prop} {f : xH} {a0 : Nat} {x1 : Int32} {x2 : Int32} {x3 : Int32} {u4 : Option Value} {u5 : Option Value} {u6 : Option Value} {u7 : Option Value} {s0 : Int32} (h : B_Mo_fillSpare_14 d E f a0 x1 x2 x3 u4 u5 u6 u7 s0) : xWp (xT0, xSp xT0 d, none, m_Mo_fillSpare, E) 14 [some (.ref a0), some (.int x1), some (.int x2), some (.int x3), u4, u5, u6, u7] [.int s0] f 0 0 := by
  unfold B_Mo_fillSpare_14 at h
  refine s_is l_Mo_fillSpare_14 (Nat.le_of_ble_eq_true rfl) ?_
  refine s_iln l_Mo_fillSpare_16 rfl ?_
  refine s_if l_Mo_fillSpare_17 h (fun h => ?_) (fun h => ?_)
  · refine s_aln l_Mo_fillSpare_24 rfl ?_
    refine s_gr l_Mo_fillSpare_25 h (fun r1 h => ?_)
    refine s_iln l_Mo_fillSpare_28 rfl ?_
    refine s_ial l_Mo_fillSpare_29 rfl h (fun v2 h => ?_)
    exact h
  · refine s_ic 0 l_Mo_fillSpare_20 rfl ?_
    refine s_goto l_Mo_fillSpare_21 ?_
    exact h
def B_Mo_fillSpare_30 (d : Nat) (E : Option Value → xH → Prop) (f : xH) (a0 : Nat) (x1 : Int32) (x2 : Int32) (x3 : Int32) (x4 : Int32) (u5 : Option Value) (u6 : Option Value) (u7 : Option Value) (s0 : Int32) : Prop :=
  xbr ((0 : Int32) ≤ x1) (xbr ((0 : Int32) ≤ x2) (xWp (xT0, xSp xT0 d, none, m_Mo_fillSpare, E) 58 [some (.ref a0), some (.int x1), some (.int x2), some (.int x3), some (.int x4), some (.int s0), some (.int (48 * x1)), u7] [.int (48 * x2)] f 0 0) (xWp (xT0, xSp xT0 d, none, m_Mo_fillSpare, E) 58 [some (.ref a0), some (.int x1), some (.int x2), some (.int x3), some (.int x4), some (.int s0), some (.int (48 * x1)), u7] [.int 0] f 0 0)) (xbr ((0 : Int32) ≤ x2) (xWp (xT0, xSp xT0 d, none, m_Mo_fillSpare, E) 58 [some (.ref a0), some (.int x1), some (.int x2), some (.int x3), some (.int x4), some (.int s0), some (.int 0), u7] [.int (48 * x2)] f 0 0) (xWp (xT0, xSp xT0 d, none, m_Mo_fillSpare, E) 58 [some (.ref a0), some (.int x1), some (.int x2), some (.int x3), some (.int x4), some (.int s0), some (.int 0), u7] [.int 0] f 0 0))
theorem b_Mo_fillSpare_30 {d : Nat} {E : Option Value → xH → Prop} {f : xH} {a0 : Nat} {x1 : Int32} {x2 : Int32} {x3 : Int32} {x4 : Int32} {u5 : Option Value} {u6 : Option Value} {u7 : Option Value} {s0 : Int32} (h : B_Mo_fillSpare_30 d E f a0 x1 x2 x3 x4 u5 u6 u7 s0) : xWp (xT0, xSp xT0 d, none, m_Mo_fillSpare, E) 30 [some (.ref a0), some (.int x1), some (.int x2), some (.int x3), some (.int x4), u5, u6, u7] [.int s0] f 0 0 := by
  unfold B_Mo_fillSpare_30 at h
  refine s_is l_Mo_fillSpare_30 (Nat.le_of_ble_eq_true rfl) ?_
  refine s_iln l_Mo_fillSpare_32 rfl ?_
  refine s_if l_Mo_fillSpare_33 h (fun h => ?_) (fun h => ?_)
  · refine s_bp 48 l_Mo_fillSpare_40 rfl ?_
    refine s_iln l_Mo_fillSpare_42 rfl ?_
    refine s_imul l_Mo_fillSpare_43 ?_
    refine s_is l_Mo_fillSpare_44 (Nat.le_of_ble_eq_true rfl) ?_
    refine s_iln l_Mo_fillSpare_46 rfl ?_
    refine s_if l_Mo_fillSpare_47 h (fun h => ?_) (fun h => ?_)
    · refine s_bp 48 l_Mo_fillSpare_54 rfl ?_
      refine s_iln l_Mo_fillSpare_56 rfl ?_
      refine s_imul l_Mo_fillSpare_57 ?_
      exact h
    · refine s_ic 0 l_Mo_fillSpare_50 rfl ?_
      refine s_goto l_Mo_fillSpare_51 ?_
      exact h
  · refine s_ic 0 l_Mo_fillSpare_36 rfl ?_
    refine s_goto l_Mo_fillSpare_37 ?_
    refine s_is l_Mo_fillSpare_44 (Nat.le_of_ble_eq_true rfl) ?_
    refine s_iln l_Mo_fillSpare_46 rfl ?_
    refine s_if l_Mo_fillSpare_47 h (fun h => ?_) (fun h => ?_)
    · refine s_bp 48 l_Mo_fillSpare_54 rfl ?_
      refine s_iln l_Mo_fillSpare_56 rfl ?_
      refine s_imul l_Mo_fillSpare_57 ?_
      exact h
    · refine s_ic 0 l_Mo_fillSpare_50 rfl ?_
      refine s_goto l_Mo_fillSpare_51 ?_
      exact h
def B_Mo_fillSpare_58 (d : Nat) (E : Option Value → xH → Prop) (f : xH) (a0 : Nat) (x1 : Int32) (x2 : Int32) (x3 : Int32) (x4 : Int32) (x5 : Int32) (x6 : Int32) (u7 : Option Value) (s0 : Int32) : Prop :=
  xgr f a0 11 16 (fun r1 => xbr ((0 : Int32) ≤ x1) (xWp (xT0, xSp xT0 d, none, m_Mo_fillSpare, E) 78 [some (.ref a0), some (.int x1), some (.int x2), some (.int x3), some (.int x4), some (.int x5), some (.int x6), some (.int s0)] [.int x4, .int 217, .ref r1] f 0 0) (xWp (xT0, xSp xT0 d, none, m_Mo_fillSpare, E) 78 [some (.ref a0), some (.int x1), some (.int x2), some (.int x3), some (.int x4), some (.int x5), some (.int x6), some (.int s0)] [.int (-2), .int 217, .ref r1] f 0 0))
theorem b_Mo_fillSpare_58 {d : Nat} {E : Option Value → xH → Prop} {f : xH} {a0 : Nat} {x1 : Int32} {x2 : Int32} {x3 : Int32} {x4 : Int32} {x5 : Int32} {x6 : Int32} {u7 : Option Value} {s0 : Int32} (h : B_Mo_fillSpare_58 d E f a0 x1 x2 x3 x4 x5 x6 u7 s0) : xWp (xT0, xSp xT0 d, none, m_Mo_fillSpare, E) 58 [some (.ref a0), some (.int x1), some (.int x2), some (.int x3), some (.int x4), some (.int x5), some (.int x6), u7] [.int s0] f 0 0 := by
  unfold B_Mo_fillSpare_58 at h
  refine s_is l_Mo_fillSpare_58 (Nat.le_of_ble_eq_true rfl) ?_
  refine s_aln l_Mo_fillSpare_60 rfl ?_
  refine s_gr l_Mo_fillSpare_61 h (fun r1 h => ?_)
  refine s_sp 217 l_Mo_fillSpare_64 rfl ?_
  refine s_iln l_Mo_fillSpare_67 rfl ?_
  refine s_if l_Mo_fillSpare_68 h (fun h => ?_) (fun h => ?_)
  · refine s_il l_Mo_fillSpare_76 rfl ?_
    exact h
  · refine s_bp (-2) l_Mo_fillSpare_71 rfl ?_
    refine s_goto l_Mo_fillSpare_73 ?_
    exact h
def B_Mo_fillSpare_78 (d : Nat) (E : Option Value → xH → Prop) (f : xH) (a0 : Nat) (x1 : Int32) (x2 : Int32) (x3 : Int32) (x4 : Int32) (x5 : Int32) (x6 : Int32) (x7 : Int32) (s0 : Int32) (s1 : Int32) (s2 : Nat) : Prop :=
  xas f s2 0 s1 s0 (fun f1 => xgr f1 a0 11 17 (fun r2 => xbr ((0 : Int32) ≤ x1) (xgr f1 a0 11 7 (fun r3 => xSp xT0 d j_Mo_sum [.ref r3, .int x6, .int x4] f1 (fun w4 f5 => xvi w4 (fun v6 => xWp (xT0, xSp xT0 d, none, m_Mo_fillSpare, E) 106 [some (.ref a0), some (.int x1), some (.int x2), some (.int x3), some (.int x4), some (.int x5), some (.int x6), some (.int x7)] [.int v6, .int 217, .ref r2] f5 0 0)))) (xWp (xT0, xSp xT0 d, none, m_Mo_fillSpare, E) 106 [some (.ref a0), some (.int x1), some (.int x2), some (.int x3), some (.int x4), some (.int x5), some (.int x6), some (.int x7)] [.int (-2), .int 217, .ref r2] f1 0 0)))
theorem b_Mo_fillSpare_78 {d : Nat} {E : Option Value → xH → Prop} {f : xH} {a0 : Nat} {x1 : Int32} {x2 : Int32} {x3 : Int32} {x4 : Int32} {x5 : Int32} {x6 : Int32} {x7 : Int32} {s0 : Int32} {s1 : Int32} {s2 : Nat} (h : B_Mo_fillSpare_78 d E f a0 x1 x2 x3 x4 x5 x6 x7 s0 s1 s2) : xWp (xT0, xSp xT0 d, none, m_Mo_fillSpare, E) 78 [some (.ref a0), some (.int x1), some (.int x2), some (.int x3), some (.int x4), some (.int x5), some (.int x6), some (.int x7)] [.int s0, .int s1, .ref s2] f 0 0 := by
  unfold B_Mo_fillSpare_78 at h
  refine s_iast l_Mo_fillSpare_78 h (fun f1 h => ?_)
  refine s_aln l_Mo_fillSpare_79 rfl ?_
  refine s_gr l_Mo_fillSpare_80 h (fun r2 h => ?_)
  refine s_sp 217 l_Mo_fillSpare_83 rfl ?_
  refine s_iln l_Mo_fillSpare_86 rfl ?_
  refine s_if l_Mo_fillSpare_87 h (fun h => ?_) (fun h => ?_)
  · refine s_aln l_Mo_fillSpare_95 rfl ?_
    refine s_gr l_Mo_fillSpare_96 h (fun r3 h => ?_)
    refine s_il l_Mo_fillSpare_99 rfl ?_
    refine s_il l_Mo_fillSpare_101 rfl ?_
    refine s_csi (As := [.ref r3, .int x6, .int x4]) (r := [.int 217, .ref r2]) l_Mo_fillSpare_103 rfl ⟨rfl, rfl⟩ rfl (Nat.le_of_ble_eq_true rfl) rfl ⟨Nat.zero_le _, Nat.zero_le _⟩ h (fun v6 f5 h => ?_)
    exact h
  · refine s_bp (-2) l_Mo_fillSpare_90 rfl ?_
    refine s_goto l_Mo_fillSpare_92 ?_
    exact h
def B_Mo_fillSpare_106 (d : Nat) (E : Option Value → xH → Prop) (f : xH) (a0 : Nat) (x1 : Int32) (x2 : Int32) (x3 : Int32) (x4 : Int32) (x5 : Int32) (x6 : Int32) (x7 : Int32) (s0 : Int32) (s1 : Int32) (s2 : Nat) : Prop :=
  xas f s2 0 s1 s0 (fun f1 => xgr f1 a0 11 18 (fun r2 => xbr ((0 : Int32) ≤ x2) (xWp (xT0, xSp xT0 d, none, m_Mo_fillSpare, E) 125 [some (.ref a0), some (.int x1), some (.int x2), some (.int x3), some (.int x4), some (.int x5), some (.int x6), some (.int x7)] [.int x5, .int 217, .ref r2] f1 0 0) (xWp (xT0, xSp xT0 d, none, m_Mo_fillSpare, E) 125 [some (.ref a0), some (.int x1), some (.int x2), some (.int x3), some (.int x4), some (.int x5), some (.int x6), some (.int x7)] [.int (-2), .int 217, .ref r2] f1 0 0)))
theorem b_Mo_fillSpare_106 {d : Nat} {E : Option Value → xH → Prop} {f : xH} {a0 : Nat} {x1 : Int32} {x2 : Int32} {x3 : Int32} {x4 : Int32} {x5 : Int32} {x6 : Int32} {x7 : Int32} {s0 : Int32} {s1 : Int32} {s2 : Nat} (h : B_Mo_fillSpare_106 d E f a0 x1 x2 x3 x4 x5 x6 x7 s0 s1 s2) : xWp (xT0, xSp xT0 d, none, m_Mo_fillSpare, E) 106 [some (.ref a0), some (.int x1), some (.int x2), some (.int x3), some (.int x4), some (.int x5), some (.int x6), some (.int x7)] [.int s0, .int s1, .ref s2] f 0 0 := by
  unfold B_Mo_fillSpare_106 at h
  refine s_iast l_Mo_fillSpare_106 h (fun f1 h => ?_)
  refine s_aln l_Mo_fillSpare_107 rfl ?_
  refine s_gr l_Mo_fillSpare_108 h (fun r2 h => ?_)
  refine s_sp 217 l_Mo_fillSpare_111 rfl ?_
  refine s_iln l_Mo_fillSpare_114 rfl ?_
  refine s_if l_Mo_fillSpare_115 h (fun h => ?_) (fun h => ?_)
  · refine s_il l_Mo_fillSpare_123 rfl ?_
    exact h
  · refine s_bp (-2) l_Mo_fillSpare_118 rfl ?_
    refine s_goto l_Mo_fillSpare_120 ?_
    exact h
def B_Mo_fillSpare_125 (d : Nat) (E : Option Value → xH → Prop) (f : xH) (a0 : Nat) (x1 : Int32) (x2 : Int32) (x3 : Int32) (x4 : Int32) (x5 : Int32) (x6 : Int32) (x7 : Int32) (s0 : Int32) (s1 : Int32) (s2 : Nat) : Prop :=
  xas f s2 0 s1 s0 (fun f1 => xgr f1 a0 11 19 (fun r2 => xbr ((0 : Int32) ≤ x2) (xgr f1 a0 11 7 (fun r3 => xSp xT0 d j_Mo_sum [.ref r3, .int x7, .int x5] f1 (fun w4 f5 => xvi w4 (fun v6 => xWp (xT0, xSp xT0 d, none, m_Mo_fillSpare, E) 153 [some (.ref a0), some (.int x1), some (.int x2), some (.int x3), some (.int x4), some (.int x5), some (.int x6), some (.int x7)] [.int v6, .int 217, .ref r2] f5 0 0)))) (xWp (xT0, xSp xT0 d, none, m_Mo_fillSpare, E) 153 [some (.ref a0), some (.int x1), some (.int x2), some (.int x3), some (.int x4), some (.int x5), some (.int x6), some (.int x7)] [.int (-2), .int 217, .ref r2] f1 0 0)))
theorem b_Mo_fillSpare_125 {d : Nat} {E : Option Value → xH → Prop} {f : xH} {a0 : Nat} {x1 : Int32} {x2 : Int32} {x3 : Int32} {x4 : Int32} {x5 : Int32} {x6 : Int32} {x7 : Int32} {s0 : Int32} {s1 : Int32} {s2 : Nat} (h : B_Mo_fillSpare_125 d E f a0 x1 x2 x3 x4 x5 x6 x7 s0 s1 s2) : xWp (xT0, xSp xT0 d, none, m_Mo_fillSpare, E) 125 [some (.ref a0), some (.int x1), some (.int x2), some (.int x3), some (.int x4), some (.int x5), some (.int x6), some (.int x7)] [.int s0, .int s1, .ref s2] f 0 0 := by
  unfold B_Mo_fillSpare_125 at h
  refine s_iast l_Mo_fillSpare_125 h (fun f1 h => ?_)
  refine s_aln l_Mo_fillSpare_126 rfl ?_
  refine s_gr l_Mo_fillSpare_127 h (fun r2 h => ?_)
  refine s_sp 217 l_Mo_fillSpare_130 rfl ?_
  refine s_iln l_Mo_fillSpare_133 rfl ?_
  refine s_if l_Mo_fillSpare_134 h (fun h => ?_) (fun h => ?_)
  · refine s_aln l_Mo_fillSpare_142 rfl ?_
    refine s_gr l_Mo_fillSpare_143 h (fun r3 h => ?_)
    refine s_il l_Mo_fillSpare_146 rfl ?_
    refine s_il l_Mo_fillSpare_148 rfl ?_
    refine s_csi (As := [.ref r3, .int x7, .int x5]) (r := [.int 217, .ref r2]) l_Mo_fillSpare_150 rfl ⟨rfl, rfl⟩ rfl (Nat.le_of_ble_eq_true rfl) rfl ⟨Nat.zero_le _, Nat.zero_le _⟩ h (fun v6 f5 h => ?_)
    exact h
  · refine s_bp (-2) l_Mo_fillSpare_137 rfl ?_
    refine s_goto l_Mo_fillSpare_139 ?_
    exact h
def B_Mo_fillSpare_153 (d : Nat) (E : Option Value → xH → Prop) (f : xH) (a0 : Nat) (x1 : Int32) (x2 : Int32) (x3 : Int32) (x4 : Int32) (x5 : Int32) (x6 : Int32) (x7 : Int32) (s0 : Int32) (s1 : Int32) (s2 : Nat) : Prop :=
  xas f s2 0 s1 s0 (fun f1 => xbr (x3 = 0) (xgr f1 a0 11 7 (fun r2 => xgr f1 a0 11 7 (fun r3 => xgr f1 a0 11 20 (fun r4 => (∃ fs, f1 a0 = some (xO 11 fs)) ∧ xSp xT0 d j_Mo_findDelta [.ref a0, .ref r2, .int x6, .int x4, .ref r3, .int x7, .int x5, .ref r4, .int 10416] f1 (fun w5 f6 => xvv w5 (xgr f6 a0 11 7 (fun r7 => xgr f6 a0 11 7 (fun r8 => xgr f6 a0 11 21 (fun r9 => (∃ fs, f6 a0 = some (xO 11 fs)) ∧ xSp xT0 d j_Mo_findDelta [.ref a0, .ref r7, .int x7, .int x5, .ref r8, .int x6, .int x4, .ref r9, .int 10416] f6 (fun w10 f11 => xvv w10 (E none f11))))))))))) (xgr f1 a0 11 20 (fun r12 => xSp xT0 d j_Mo_whole [.int x5, .ref r12, .int 10416] f1 (fun w13 f14 => xvv w13 (xgr f14 a0 11 21 (fun r15 => xSp xT0 d j_Mo_whole [.int x4, .ref r15, .int 10416] f14 (fun w16 f17 => xvv w16 (E none f17))))))))
theorem b_Mo_fillSpare_153 {d : Nat} {E : Option Value → xH → Prop} {f : xH} {a0 : Nat} {x1 : Int32} {x2 : Int32} {x3 : Int32} {x4 : Int32} {x5 : Int32} {x6 : Int32} {x7 : Int32} {s0 : Int32} {s1 : Int32} {s2 : Nat} (h : B_Mo_fillSpare_153 d E f a0 x1 x2 x3 x4 x5 x6 x7 s0 s1 s2) : xWp (xT0, xSp xT0 d, none, m_Mo_fillSpare, E) 153 [some (.ref a0), some (.int x1), some (.int x2), some (.int x3), some (.int x4), some (.int x5), some (.int x6), some (.int x7)] [.int s0, .int s1, .ref s2] f 0 0 := by
  unfold B_Mo_fillSpare_153 at h
  refine s_iast l_Mo_fillSpare_153 h (fun f1 h => ?_)
  refine s_iln l_Mo_fillSpare_154 rfl ?_
  refine s_if l_Mo_fillSpare_155 h (fun h => ?_) (fun h => ?_)
  · refine s_aln l_Mo_fillSpare_185 rfl ?_
    refine s_aln l_Mo_fillSpare_186 rfl ?_
    refine s_gr l_Mo_fillSpare_187 h (fun r2 h => ?_)
    refine s_il l_Mo_fillSpare_190 rfl ?_
    refine s_il l_Mo_fillSpare_192 rfl ?_
    refine s_aln l_Mo_fillSpare_194 rfl ?_
    refine s_gr l_Mo_fillSpare_195 h (fun r3 h => ?_)
    refine s_il l_Mo_fillSpare_198 rfl ?_
    refine s_il l_Mo_fillSpare_200 rfl ?_
    refine s_aln l_Mo_fillSpare_202 rfl ?_
    refine s_gr l_Mo_fillSpare_203 h (fun r4 h => ?_)
    refine s_sp 10416 l_Mo_fillSpare_206 rfl ?_
    refine s_cvv (As := [.ref r2, .int x6, .int x4, .ref r3, .int x7, .int x5, .ref r4, .int 10416]) (r := []) l_Mo_fillSpare_209 rfl ⟨rfl, rfl⟩ rfl (Nat.le_of_ble_eq_true rfl) rfl ⟨Nat.zero_le _, Nat.zero_le _⟩ h (fun f6 h => ?_)
    refine s_aln l_Mo_fillSpare_212 rfl ?_
    refine s_aln l_Mo_fillSpare_213 rfl ?_
    refine s_gr l_Mo_fillSpare_214 h (fun r7 h => ?_)
    refine s_il l_Mo_fillSpare_217 rfl ?_
    refine s_il l_Mo_fillSpare_219 rfl ?_
    refine s_aln l_Mo_fillSpare_221 rfl ?_
    refine s_gr l_Mo_fillSpare_222 h (fun r8 h => ?_)
    refine s_il l_Mo_fillSpare_225 rfl ?_
    refine s_il l_Mo_fillSpare_227 rfl ?_
    refine s_aln l_Mo_fillSpare_229 rfl ?_
    refine s_gr l_Mo_fillSpare_230 h (fun r9 h => ?_)
    refine s_sp 10416 l_Mo_fillSpare_233 rfl ?_
    refine s_cvv (As := [.ref r7, .int x7, .int x5, .ref r8, .int x6, .int x4, .ref r9, .int 10416]) (r := []) l_Mo_fillSpare_236 rfl ⟨rfl, rfl⟩ rfl (Nat.le_of_ble_eq_true rfl) rfl ⟨Nat.zero_le _, Nat.zero_le _⟩ h (fun f11 h => ?_)
    exact s_ret l_Mo_fillSpare_239 ⟨Nat.zero_le _, Nat.zero_le _⟩ h
  · refine s_il l_Mo_fillSpare_158 rfl ?_
    refine s_aln l_Mo_fillSpare_160 rfl ?_
    refine s_gr l_Mo_fillSpare_161 h (fun r12 h => ?_)
    refine s_sp 10416 l_Mo_fillSpare_164 rfl ?_
    refine s_csv (As := [.int x5, .ref r12, .int 10416]) (r := []) l_Mo_fillSpare_167 rfl ⟨rfl, rfl⟩ rfl (Nat.le_of_ble_eq_true rfl) rfl ⟨Nat.zero_le _, Nat.zero_le _⟩ h (fun f14 h => ?_)
    refine s_il l_Mo_fillSpare_170 rfl ?_
    refine s_aln l_Mo_fillSpare_172 rfl ?_
    refine s_gr l_Mo_fillSpare_173 h (fun r15 h => ?_)
    refine s_sp 10416 l_Mo_fillSpare_176 rfl ?_
    refine s_csv (As := [.int x4, .ref r15, .int 10416]) (r := []) l_Mo_fillSpare_179 rfl ⟨rfl, rfl⟩ rfl (Nat.le_of_ble_eq_true rfl) rfl ⟨Nat.zero_le _, Nat.zero_le _⟩ h (fun f17 h => ?_)
    refine s_goto l_Mo_fillSpare_182 ?_
    exact s_ret l_Mo_fillSpare_239 ⟨Nat.zero_le _, Nat.zero_le _⟩ h
theorem l_Mo_whole_0 : xlk (xm_cd m_Mo_whole) 0 = some (.iconst 0, 1, (0, 0, 0, [])) := rfl
theorem l_Mo_whole_1 : xlk (xm_cd m_Mo_whole) 1 = some (.istore_n 3, 1, (0, 0, 0, [])) := rfl
theorem l_Mo_whole_2 : xlk (xm_cd m_Mo_whole) 2 = some (.iload_n 3, 1, (0, 0, 0, [])) := rfl
theorem l_Mo_whole_3 : xlk (xm_cd m_Mo_whole) 3 = some (.iload_n 0, 1, (0, 0, 0, [])) := rfl
theorem l_Mo_whole_4 : xlk (xm_cd m_Mo_whole) 4 = some (.if_icmp .ge 15, 3, (0, 19, 0, [])) := rfl
theorem l_Mo_whole_7 : xlk (xm_cd m_Mo_whole) 7 = some (.aload_n 1, 1, (0, 0, 0, [])) := rfl
theorem l_Mo_whole_8 : xlk (xm_cd m_Mo_whole) 8 = some (.iload_n 2, 1, (0, 0, 0, [])) := rfl
theorem l_Mo_whole_9 : xlk (xm_cd m_Mo_whole) 9 = some (.iload_n 3, 1, (0, 0, 0, [])) := rfl
theorem l_Mo_whole_10 : xlk (xm_cd m_Mo_whole) 10 = some (.iadd, 1, (0, 0, 0, [])) := rfl
theorem l_Mo_whole_11 : xlk (xm_cd m_Mo_whole) 11 = some (.iload_n 3, 1, (0, 0, 0, [])) := rfl
theorem l_Mo_whole_12 : xlk (xm_cd m_Mo_whole) 12 = some (.iastore, 1, (0, 0, 0, [])) := rfl
theorem l_Mo_whole_13 : xlk (xm_cd m_Mo_whole) 13 = some (.iinc 3 1, 3, (0, 0, 0, [])) := rfl
theorem l_Mo_whole_16 : xlk (xm_cd m_Mo_whole) 16 = some (.goto (-14), 3, (0, 2, 0, [])) := rfl
theorem l_Mo_whole_19 : xlk (xm_cd m_Mo_whole) 19 = some (.return_, 1, (0, 0, 0, [])) := rfl
def B_Mo_whole_0 (d : Nat) (E : Option Value → xH → Prop) (f : xH) (x0 : Int32) (a1 : Nat) (x2 : Int32) : Prop :=
  xWp (xT0, xSp xT0 d, none, m_Mo_whole, E) 2 [some (.int x0), some (.ref a1), some (.int x2), some (.int 0)] [] f 0 0
theorem b_Mo_whole_0 {d : Nat} {E : Option Value → xH → Prop} {f : xH} {x0 : Int32} {a1 : Nat} {x2 : Int32} (h : B_Mo_whole_0 d E f x0 a1 x2) : xWp (xT0, xSp xT0 d, none, m_Mo_whole, E) 0 [some (.int x0), some (.ref a1), some (.int x2), none] [] f 0 0 := by
  unfold B_Mo_whole_0 at h
  refine s_ic 0 l_Mo_whole_0 rfl ?_
  refine s_isn l_Mo_whole_1 (Nat.le_of_ble_eq_true rfl) ?_
  exact h
def B_Mo_whole_2 (d : Nat) (E : Option Value → xH → Prop) (f : xH) (x0 : Int32) (a1 : Nat) (x2 : Int32) (x3 : Int32) : Prop :=
  xbr (x0 ≤ x3) (E none f) (xas f a1 0 (x2 + x3) x3 (fun f1 => xWp (xT0, xSp xT0 d, none, m_Mo_whole, E) 2 [some (.int x0), some (.ref a1), some (.int x2), some (.int (x3 + 1))] [] f1 0 0))
theorem b_Mo_whole_2 {d : Nat} {E : Option Value → xH → Prop} {f : xH} {x0 : Int32} {a1 : Nat} {x2 : Int32} {x3 : Int32} (h : B_Mo_whole_2 d E f x0 a1 x2 x3) : xWp (xT0, xSp xT0 d, none, m_Mo_whole, E) 2 [some (.int x0), some (.ref a1), some (.int x2), some (.int x3)] [] f 0 0 := by
  unfold B_Mo_whole_2 at h
  refine s_iln l_Mo_whole_2 rfl ?_
  refine s_iln l_Mo_whole_3 rfl ?_
  refine s_ifc l_Mo_whole_4 h (fun h => ?_) (fun h => ?_)
  · exact s_ret l_Mo_whole_19 ⟨Nat.zero_le _, Nat.zero_le _⟩ h
  · refine s_aln l_Mo_whole_7 rfl ?_
    refine s_iln l_Mo_whole_8 rfl ?_
    refine s_iln l_Mo_whole_9 rfl ?_
    refine s_iadd l_Mo_whole_10 ?_
    refine s_iln l_Mo_whole_11 rfl ?_
    refine s_iast l_Mo_whole_12 h (fun f1 h => ?_)
    refine s_inc 1 l_Mo_whole_13 rfl rfl ?_
    refine s_goto l_Mo_whole_16 ?_
    exact h
