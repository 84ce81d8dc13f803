/-! blocks of the law -/
theorem l_law_0 : xlk (xm_cd m_law) 0 = some (.new 7, 3, (89, 0, 9, [(0, 1), (0, 1), (0, 1), (0, 1), (0, 1), (0, 1), (0, 1), (0, 0), (0, 0)])) := rfl
theorem l_law_3 : xlk (xm_cd m_law) 3 = some (.dup, 1, (0, 0, 0, [])) := rfl
theorem l_law_4 : xlk (xm_cd m_law) 4 = some (.invokespecial 9, 3, (91, 0, 0, [])) := rfl
theorem l_law_7 : xlk (xm_cd m_law) 7 = some (.astore_n 1, 1, (0, 0, 0, [])) := rfl
theorem l_law_8 : xlk (xm_cd m_law) 8 = some (.new 10, 3, (843, 11, 48, [(0, 0), (0, 1), (0, 0), (0, 1), (0, 0), (0, 1), (0, 1), (0, 1), (0, 1), (0, 1), (0, 0), (0, 1), (0, 1), (0, 1), (0, 1), (0, 1), (0, 1), (0, 1), (0, 1), (0, 1), (0, 1), (0, 1), (0, 1), (0, 0), (0, 1), (0, 1), (0, 1), (0, 1), (0, 1), (0, 0), (0, 0), (0, 1), (0, 1), (0, 1), (0, 0), (0, 1), (0, 1), (0, 1), (0, 1), (0, 1), (0, 1), (0, 1), (0, 1), (0, 0), (0, 0), (0, 2), (0, 0), (0, 1)])) := rfl
theorem l_law_11 : xlk (xm_cd m_law) 11 = some (.dup, 1, (0, 0, 0, [])) := rfl
theorem l_law_12 : xlk (xm_cd m_law) 12 = some (.invokespecial 12, 3, (845, 146, 0, [])) := rfl
theorem l_law_15 : xlk (xm_cd m_law) 15 = some (.astore_n 2, 1, (0, 0, 0, [])) := rfl
theorem l_law_16 : xlk (xm_cd m_law) 16 = some (.iconst 0, 1, (0, 0, 0, [])) := rfl
theorem l_law_17 : xlk (xm_cd m_law) 17 = some (.istore_n 3, 1, (0, 0, 0, [])) := rfl
theorem l_law_18 : xlk (xm_cd m_law) 18 = some (.iload_n 3, 1, (0, 0, 0, [])) := rfl
theorem l_law_19 : xlk (xm_cd m_law) 19 = some (.aload_n 0, 1, (0, 0, 0, [])) := rfl
theorem l_law_20 : xlk (xm_cd m_law) 20 = some (.arraylength, 1, (0, 0, 0, [])) := rfl
theorem l_law_21 : xlk (xm_cd m_law) 21 = some (.bipush 6, 2, (0, 0, 0, [])) := rfl
theorem l_law_23 : xlk (xm_cd m_law) 23 = some (.isub, 1, (0, 0, 0, [])) := rfl
theorem l_law_24 : xlk (xm_cd m_law) 24 = some (.if_icmp .gt 887, 3, (0, 911, 0, [])) := rfl
theorem l_law_27 : xlk (xm_cd m_law) 27 = some (.aload_n 0, 1, (0, 0, 0, [])) := rfl
theorem l_law_28 : xlk (xm_cd m_law) 28 = some (.iload_n 3, 1, (0, 0, 0, [])) := rfl
theorem l_law_29 : xlk (xm_cd m_law) 29 = some (.iaload, 1, (0, 0, 0, [])) := rfl
theorem l_law_30 : xlk (xm_cd m_law) 30 = some (.bipush 31, 2, (0, 0, 0, [])) := rfl
theorem l_law_32 : xlk (xm_cd m_law) 32 = some (.iand, 1, (0, 0, 0, [])) := rfl
theorem l_law_33 : xlk (xm_cd m_law) 33 = some (.tableswitch 872 0 22 #[107, 170, 193, 206, 229, 252, 275, 318, 371, 404, 417, 450, 493, 546, 609, 668, 701, 724, 757, 780, 803, 816, 849], 107, (0, 905, 0, [(0, 140), (1, 203), (2, 226), (3, 239), (4, 262), (5, 285), (6, 308), (7, 351), (8, 404), (9, 437), (10, 450), (11, 483), (12, 526), (13, 579), (14, 642), (15, 701), (16, 734), (17, 757), (18, 790), (19, 813), (20, 836), (21, 849), (22, 882)])) := rfl
theorem l_law_140 : xlk (xm_cd m_law) 140 = some (.aload_n 1, 1, (0, 0, 0, [])) := rfl
theorem l_law_141 : xlk (xm_cd m_law) 141 = some (.aload_n 0, 1, (0, 0, 0, [])) := rfl
theorem l_law_142 : xlk (xm_cd m_law) 142 = some (.iload_n 3, 1, (0, 0, 0, [])) := rfl
theorem l_law_143 : xlk (xm_cd m_law) 143 = some (.iconst 1, 1, (0, 0, 0, [])) := rfl
theorem l_law_144 : xlk (xm_cd m_law) 144 = some (.iadd, 1, (0, 0, 0, [])) := rfl
theorem l_law_145 : xlk (xm_cd m_law) 145 = some (.iaload, 1, (0, 0, 0, [])) := rfl
theorem l_law_146 : xlk (xm_cd m_law) 146 = some (.aload_n 0, 1, (0, 0, 0, [])) := rfl
theorem l_law_147 : xlk (xm_cd m_law) 147 = some (.iload_n 3, 1, (0, 0, 0, [])) := rfl
theorem l_law_148 : xlk (xm_cd m_law) 148 = some (.iconst 2, 1, (0, 0, 0, [])) := rfl
theorem l_law_149 : xlk (xm_cd m_law) 149 = some (.iadd, 1, (0, 0, 0, [])) := rfl
theorem l_law_150 : xlk (xm_cd m_law) 150 = some (.iaload, 1, (0, 0, 0, [])) := rfl
theorem l_law_151 : xlk (xm_cd m_law) 151 = some (.aload_n 0, 1, (0, 0, 0, [])) := rfl
theorem l_law_152 : xlk (xm_cd m_law) 152 = some (.iload_n 3, 1, (0, 0, 0, [])) := rfl
theorem l_law_153 : xlk (xm_cd m_law) 153 = some (.iconst 3, 1, (0, 0, 0, [])) := rfl
theorem l_law_154 : xlk (xm_cd m_law) 154 = some (.iadd, 1, (0, 0, 0, [])) := rfl
theorem l_law_155 : xlk (xm_cd m_law) 155 = some (.iaload, 1, (0, 0, 0, [])) := rfl
theorem l_law_156 : xlk (xm_cd m_law) 156 = some (.aload_n 0, 1, (0, 0, 0, [])) := rfl
theorem l_law_157 : xlk (xm_cd m_law) 157 = some (.iload_n 3, 1, (0, 0, 0, [])) := rfl
theorem l_law_158 : xlk (xm_cd m_law) 158 = some (.iconst 4, 1, (0, 0, 0, [])) := rfl
theorem l_law_159 : xlk (xm_cd m_law) 159 = some (.iadd, 1, (0, 0, 0, [])) := rfl
theorem l_law_160 : xlk (xm_cd m_law) 160 = some (.iaload, 1, (0, 0, 0, [])) := rfl
theorem l_law_161 : xlk (xm_cd m_law) 161 = some (.aload_n 0, 1, (0, 0, 0, [])) := rfl
theorem l_law_162 : xlk (xm_cd m_law) 162 = some (.iload_n 3, 1, (0, 0, 0, [])) := rfl
theorem l_law_163 : xlk (xm_cd m_law) 163 = some (.iconst 5, 1, (0, 0, 0, [])) := rfl
theorem l_law_164 : xlk (xm_cd m_law) 164 = some (.iadd, 1, (0, 0, 0, [])) := rfl
theorem l_law_165 : xlk (xm_cd m_law) 165 = some (.iaload, 1, (0, 0, 0, [])) := rfl
theorem l_law_166 : xlk (xm_cd m_law) 166 = some (.invokevirtual 13, 3, (279, 11, 5, [])) := rfl
theorem l_law_169 : xlk (xm_cd m_law) 169 = some (.aload_n 2, 1, (0, 0, 0, [])) := rfl
theorem l_law_170 : xlk (xm_cd m_law) 170 = some (.aload_n 0, 1, (0, 0, 0, [])) := rfl
theorem l_law_171 : xlk (xm_cd m_law) 171 = some (.iload_n 3, 1, (0, 0, 0, [])) := rfl
theorem l_law_172 : xlk (xm_cd m_law) 172 = some (.iconst 1, 1, (0, 0, 0, [])) := rfl
theorem l_law_173 : xlk (xm_cd m_law) 173 = some (.iadd, 1, (0, 0, 0, [])) := rfl
theorem l_law_174 : xlk (xm_cd m_law) 174 = some (.iaload, 1, (0, 0, 0, [])) := rfl
theorem l_law_175 : xlk (xm_cd m_law) 175 = some (.aload_n 0, 1, (0, 0, 0, [])) := rfl
theorem l_law_176 : xlk (xm_cd m_law) 176 = some (.iload_n 3, 1, (0, 0, 0, [])) := rfl
theorem l_law_177 : xlk (xm_cd m_law) 177 = some (.iconst 2, 1, (0, 0, 0, [])) := rfl
theorem l_law_178 : xlk (xm_cd m_law) 178 = some (.iadd, 1, (0, 0, 0, [])) := rfl
theorem l_law_179 : xlk (xm_cd m_law) 179 = some (.iaload, 1, (0, 0, 0, [])) := rfl
theorem l_law_180 : xlk (xm_cd m_law) 180 = some (.aload_n 0, 1, (0, 0, 0, [])) := rfl
theorem l_law_181 : xlk (xm_cd m_law) 181 = some (.iload_n 3, 1, (0, 0, 0, [])) := rfl
theorem l_law_182 : xlk (xm_cd m_law) 182 = some (.iconst 3, 1, (0, 0, 0, [])) := rfl
theorem l_law_183 : xlk (xm_cd m_law) 183 = some (.iadd, 1, (0, 0, 0, [])) := rfl
theorem l_law_184 : xlk (xm_cd m_law) 184 = some (.iaload, 1, (0, 0, 0, [])) := rfl
theorem l_law_185 : xlk (xm_cd m_law) 185 = some (.aload_n 0, 1, (0, 0, 0, [])) := rfl
theorem l_law_186 : xlk (xm_cd m_law) 186 = some (.iload_n 3, 1, (0, 0, 0, [])) := rfl
theorem l_law_187 : xlk (xm_cd m_law) 187 = some (.iconst 4, 1, (0, 0, 0, [])) := rfl
theorem l_law_188 : xlk (xm_cd m_law) 188 = some (.iadd, 1, (0, 0, 0, [])) := rfl
theorem l_law_189 : xlk (xm_cd m_law) 189 = some (.iaload, 1, (0, 0, 0, [])) := rfl
theorem l_law_190 : xlk (xm_cd m_law) 190 = some (.aload_n 0, 1, (0, 0, 0, [])) := rfl
theorem l_law_191 : xlk (xm_cd m_law) 191 = some (.iload_n 3, 1, (0, 0, 0, [])) := rfl
theorem l_law_192 : xlk (xm_cd m_law) 192 = some (.iconst 5, 1, (0, 0, 0, [])) := rfl
theorem l_law_193 : xlk (xm_cd m_law) 193 = some (.iadd, 1, (0, 0, 0, [])) := rfl
theorem l_law_194 : xlk (xm_cd m_law) 194 = some (.iaload, 1, (0, 0, 0, [])) := rfl
theorem l_law_195 : xlk (xm_cd m_law) 195 = some (.invokevirtual 17, 3, (946, 147, 5, [])) := rfl
theorem l_law_198 : xlk (xm_cd m_law) 198 = some (.if_icmp .eq 707, 3, (0, 905, 0, [])) := rfl
theorem l_law_201 : xlk (xm_cd m_law) 201 = some (.iconst 0, 1, (0, 0, 0, [])) := rfl
theorem l_law_202 : xlk (xm_cd m_law) 202 = some (.ireturn, 1, (0, 0, 0, [])) := rfl
theorem l_law_203 : xlk (xm_cd m_law) 203 = some (.aload_n 1, 1, (0, 0, 0, [])) := rfl
theorem l_law_204 : xlk (xm_cd m_law) 204 = some (.aload_n 0, 1, (0, 0, 0, [])) := rfl
set_option maxRecDepth 100000 in
theorem l_law_205 : xlk (xm_cd m_law) 205 = some (.iload_n 3, 1, (0, 0, 0, [])) := rfl
set_option maxRecDepth 100000 in
theorem l_law_206 : xlk (xm_cd m_law) 206 = some (.iconst 1, 1, (0, 0, 0, [])) := rfl
set_option maxRecDepth 100000 in
theorem l_law_207 : xlk (xm_cd m_law) 207 = some (.iadd, 1, (0, 0, 0, [])) := rfl
set_option maxRecDepth 100000 in
theorem l_law_208 : xlk (xm_cd m_law) 208 = some (.iaload, 1, (0, 0, 0, [])) := rfl
set_option maxRecDepth 100000 in
theorem l_law_209 : xlk (xm_cd m_law) 209 = some (.invokevirtual 18, 3, (295, 15, 1, [])) := rfl
set_option maxRecDepth 100000 in
theorem l_law_212 : xlk (xm_cd m_law) 212 = some (.aload_n 2, 1, (0, 0, 0, [])) := rfl
set_option maxRecDepth 100000 in
theorem l_law_213 : xlk (xm_cd m_law) 213 = some (.aload_n 0, 1, (0, 0, 0, [])) := rfl
set_option maxRecDepth 100000 in
theorem l_law_214 : xlk (xm_cd m_law) 214 = some (.iload_n 3, 1, (0, 0, 0, [])) := rfl
set_option maxRecDepth 100000 in
theorem l_law_215 : xlk (xm_cd m_law) 215 = some (.iconst 1, 1, (0, 0, 0, [])) := rfl
set_option maxRecDepth 100000 in
theorem l_law_216 : xlk (xm_cd m_law) 216 = some (.iadd, 1, (0, 0, 0, [])) := rfl
set_option maxRecDepth 100000 in
theorem l_law_217 : xlk (xm_cd m_law) 217 = some (.iaload, 1, (0, 0, 0, [])) := rfl
set_option maxRecDepth 100000 in
theorem l_law_218 : xlk (xm_cd m_law) 218 = some (.invokevirtual 22, 3, (950, 148, 1, [])) := rfl
set_option maxRecDepth 100000 in
theorem l_law_221 : xlk (xm_cd m_law) 221 = some (.if_icmp .eq 684, 3, (0, 905, 0, [])) := rfl
set_option maxRecDepth 100000 in
theorem l_law_224 : xlk (xm_cd m_law) 224 = some (.iconst 0, 1, (0, 0, 0, [])) := rfl
set_option maxRecDepth 100000 in
theorem l_law_225 : xlk (xm_cd m_law) 225 = some (.ireturn, 1, (0, 0, 0, [])) := rfl
set_option maxRecDepth 100000 in
theorem l_law_226 : xlk (xm_cd m_law) 226 = some (.aload_n 1, 1, (0, 0, 0, [])) := rfl
set_option maxRecDepth 100000 in
theorem l_law_227 : xlk (xm_cd m_law) 227 = some (.invokevirtual 23, 3, (303, 17, 0, [])) := rfl
set_option maxRecDepth 100000 in
theorem l_law_230 : xlk (xm_cd m_law) 230 = some (.aload_n 2, 1, (0, 0, 0, [])) := rfl
set_option maxRecDepth 100000 in
theorem l_law_231 : xlk (xm_cd m_law) 231 = some (.invokevirtual 27, 3, (958, 149, 0, [])) := rfl
set_option maxRecDepth 100000 in
theorem l_law_234 : xlk (xm_cd m_law) 234 = some (.if_icmp .eq 671, 3, (0, 905, 0, [])) := rfl
set_option maxRecDepth 100000 in
theorem l_law_237 : xlk (xm_cd m_law) 237 = some (.iconst 0, 1, (0, 0, 0, [])) := rfl
set_option maxRecDepth 100000 in
theorem l_law_238 : xlk (xm_cd m_law) 238 = some (.ireturn, 1, (0, 0, 0, [])) := rfl
set_option maxRecDepth 100000 in
theorem l_law_239 : xlk (xm_cd m_law) 239 = some (.aload_n 1, 1, (0, 0, 0, [])) := rfl
set_option maxRecDepth 100000 in
theorem l_law_240 : xlk (xm_cd m_law) 240 = some (.aload_n 0, 1, (0, 0, 0, [])) := rfl
set_option maxRecDepth 100000 in
theorem l_law_241 : xlk (xm_cd m_law) 241 = some (.iload_n 3, 1, (0, 0, 0, [])) := rfl
set_option maxRecDepth 100000 in
theorem l_law_242 : xlk (xm_cd m_law) 242 = some (.iconst 1, 1, (0, 0, 0, [])) := rfl
set_option maxRecDepth 100000 in
theorem l_law_243 : xlk (xm_cd m_law) 243 = some (.iadd, 1, (0, 0, 0, [])) := rfl
set_option maxRecDepth 100000 in
theorem l_law_244 : xlk (xm_cd m_law) 244 = some (.iaload, 1, (0, 0, 0, [])) := rfl
set_option maxRecDepth 100000 in
theorem l_law_245 : xlk (xm_cd m_law) 245 = some (.invokevirtual 28, 3, (322, 21, 1, [])) := rfl
set_option maxRecDepth 100000 in
theorem l_law_248 : xlk (xm_cd m_law) 248 = some (.aload_n 2, 1, (0, 0, 0, [])) := rfl
set_option maxRecDepth 100000 in
theorem l_law_249 : xlk (xm_cd m_law) 249 = some (.aload_n 0, 1, (0, 0, 0, [])) := rfl
set_option maxRecDepth 100000 in
theorem l_law_250 : xlk (xm_cd m_law) 250 = some (.iload_n 3, 1, (0, 0, 0, [])) := rfl
set_option maxRecDepth 100000 in
theorem l_law_251 : xlk (xm_cd m_law) 251 = some (.iconst 1, 1, (0, 0, 0, [])) := rfl
set_option maxRecDepth 100000 in
theorem l_law_252 : xlk (xm_cd m_law) 252 = some (.iadd, 1, (0, 0, 0, [])) := rfl
set_option maxRecDepth 100000 in
theorem l_law_253 : xlk (xm_cd m_law) 253 = some (.iaload, 1, (0, 0, 0, [])) := rfl
set_option maxRecDepth 100000 in
theorem l_law_254 : xlk (xm_cd m_law) 254 = some (.invokevirtual 31, 3, (964, 150, 1, [])) := rfl
set_option maxRecDepth 100000 in
theorem l_law_257 : xlk (xm_cd m_law) 257 = some (.if_icmp .eq 648, 3, (0, 905, 0, [])) := rfl
set_option maxRecDepth 100000 in
theorem l_law_260 : xlk (xm_cd m_law) 260 = some (.iconst 0, 1, (0, 0, 0, [])) := rfl
set_option maxRecDepth 100000 in
theorem l_law_261 : xlk (xm_cd m_law) 261 = some (.ireturn, 1, (0, 0, 0, [])) := rfl
set_option maxRecDepth 100000 in
theorem l_law_262 : xlk (xm_cd m_law) 262 = some (.aload_n 1, 1, (0, 0, 0, [])) := rfl
set_option maxRecDepth 100000 in
theorem l_law_263 : xlk (xm_cd m_law) 263 = some (.aload_n 0, 1, (0, 0, 0, [])) := rfl
set_option maxRecDepth 100000 in
theorem l_law_264 : xlk (xm_cd m_law) 264 = some (.iload_n 3, 1, (0, 0, 0, [])) := rfl
set_option maxRecDepth 100000 in
theorem l_law_265 : xlk (xm_cd m_law) 265 = some (.iconst 1, 1, (0, 0, 0, [])) := rfl
set_option maxRecDepth 100000 in
theorem l_law_266 : xlk (xm_cd m_law) 266 = some (.iadd, 1, (0, 0, 0, [])) := rfl
set_option maxRecDepth 100000 in
theorem l_law_267 : xlk (xm_cd m_law) 267 = some (.iaload, 1, (0, 0, 0, [])) := rfl
set_option maxRecDepth 100000 in
theorem l_law_268 : xlk (xm_cd m_law) 268 = some (.invokevirtual 32, 3, (341, 26, 1, [])) := rfl
set_option maxRecDepth 100000 in
theorem l_law_271 : xlk (xm_cd m_law) 271 = some (.aload_n 2, 1, (0, 0, 0, [])) := rfl
set_option maxRecDepth 100000 in
theorem l_law_272 : xlk (xm_cd m_law) 272 = some (.aload_n 0, 1, (0, 0, 0, [])) := rfl
set_option maxRecDepth 100000 in
theorem l_law_273 : xlk (xm_cd m_law) 273 = some (.iload_n 3, 1, (0, 0, 0, [])) := rfl
set_option maxRecDepth 100000 in
theorem l_law_274 : xlk (xm_cd m_law) 274 = some (.iconst 1, 1, (0, 0, 0, [])) := rfl
set_option maxRecDepth 100000 in
theorem l_law_275 : xlk (xm_cd m_law) 275 = some (.iadd, 1, (0, 0, 0, [])) := rfl
set_option maxRecDepth 100000 in
theorem l_law_276 : xlk (xm_cd m_law) 276 = some (.iaload, 1, (0, 0, 0, [])) := rfl
set_option maxRecDepth 100000 in
theorem l_law_277 : xlk (xm_cd m_law) 277 = some (.invokevirtual 35, 3, (980, 155, 1, [])) := rfl
set_option maxRecDepth 100000 in
theorem l_law_280 : xlk (xm_cd m_law) 280 = some (.if_icmp .eq 625, 3, (0, 905, 0, [])) := rfl
set_option maxRecDepth 100000 in
theorem l_law_283 : xlk (xm_cd m_law) 283 = some (.iconst 0, 1, (0, 0, 0, [])) := rfl
set_option maxRecDepth 100000 in
theorem l_law_284 : xlk (xm_cd m_law) 284 = some (.ireturn, 1, (0, 0, 0, [])) := rfl
set_option maxRecDepth 100000 in
theorem l_law_285 : xlk (xm_cd m_law) 285 = some (.aload_n 1, 1, (0, 0, 0, [])) := rfl
set_option maxRecDepth 100000 in
theorem l_law_286 : xlk (xm_cd m_law) 286 = some (.aload_n 0, 1, (0, 0, 0, [])) := rfl
set_option maxRecDepth 100000 in
theorem l_law_287 : xlk (xm_cd m_law) 287 = some (.iload_n 3, 1, (0, 0, 0, [])) := rfl
set_option maxRecDepth 100000 in
theorem l_law_288 : xlk (xm_cd m_law) 288 = some (.iconst 1, 1, (0, 0, 0, [])) := rfl
set_option maxRecDepth 100000 in
theorem l_law_289 : xlk (xm_cd m_law) 289 = some (.iadd, 1, (0, 0, 0, [])) := rfl
set_option maxRecDepth 100000 in
theorem l_law_290 : xlk (xm_cd m_law) 290 = some (.iaload, 1, (0, 0, 0, [])) := rfl
set_option maxRecDepth 100000 in
theorem l_law_291 : xlk (xm_cd m_law) 291 = some (.invokevirtual 36, 3, (372, 34, 1, [])) := rfl
set_option maxRecDepth 100000 in
theorem l_law_294 : xlk (xm_cd m_law) 294 = some (.aload_n 2, 1, (0, 0, 0, [])) := rfl
set_option maxRecDepth 100000 in
theorem l_law_295 : xlk (xm_cd m_law) 295 = some (.aload_n 0, 1, (0, 0, 0, [])) := rfl
set_option maxRecDepth 100000 in
theorem l_law_296 : xlk (xm_cd m_law) 296 = some (.iload_n 3, 1, (0, 0, 0, [])) := rfl
set_option maxRecDepth 100000 in
theorem l_law_297 : xlk (xm_cd m_law) 297 = some (.iconst 1, 1, (0, 0, 0, [])) := rfl
set_option maxRecDepth 100000 in
theorem l_law_298 : xlk (xm_cd m_law) 298 = some (.iadd, 1, (0, 0, 0, [])) := rfl
set_option maxRecDepth 100000 in
theorem l_law_299 : xlk (xm_cd m_law) 299 = some (.iaload, 1, (0, 0, 0, [])) := rfl
set_option maxRecDepth 100000 in
theorem l_law_300 : xlk (xm_cd m_law) 300 = some (.invokevirtual 39, 3, (1002, 162, 1, [])) := rfl
set_option maxRecDepth 100000 in
theorem l_law_303 : xlk (xm_cd m_law) 303 = some (.if_icmp .eq 602, 3, (0, 905, 0, [])) := rfl
set_option maxRecDepth 100000 in
theorem l_law_306 : xlk (xm_cd m_law) 306 = some (.iconst 0, 1, (0, 0, 0, [])) := rfl
set_option maxRecDepth 100000 in
theorem l_law_307 : xlk (xm_cd m_law) 307 = some (.ireturn, 1, (0, 0, 0, [])) := rfl
set_option maxRecDepth 100000 in
theorem l_law_308 : xlk (xm_cd m_law) 308 = some (.aload_n 1, 1, (0, 0, 0, [])) := rfl
set_option maxRecDepth 100000 in
theorem l_law_309 : xlk (xm_cd m_law) 309 = some (.aload_n 0, 1, (0, 0, 0, [])) := rfl
set_option maxRecDepth 100000 in
theorem l_law_310 : xlk (xm_cd m_law) 310 = some (.iload_n 3, 1, (0, 0, 0, [])) := rfl
set_option maxRecDepth 100000 in
theorem l_law_311 : xlk (xm_cd m_law) 311 = some (.iconst 1, 1, (0, 0, 0, [])) := rfl
set_option maxRecDepth 100000 in
theorem l_law_312 : xlk (xm_cd m_law) 312 = some (.iadd, 1, (0, 0, 0, [])) := rfl
set_option maxRecDepth 100000 in
theorem l_law_313 : xlk (xm_cd m_law) 313 = some (.iaload, 1, (0, 0, 0, [])) := rfl
set_option maxRecDepth 100000 in
theorem l_law_314 : xlk (xm_cd m_law) 314 = some (.aload_n 0, 1, (0, 0, 0, [])) := rfl
set_option maxRecDepth 100000 in
theorem l_law_315 : xlk (xm_cd m_law) 315 = some (.iload_n 3, 1, (0, 0, 0, [])) := rfl
set_option maxRecDepth 100000 in
theorem l_law_316 : xlk (xm_cd m_law) 316 = some (.iconst 2, 1, (0, 0, 0, [])) := rfl
set_option maxRecDepth 100000 in
theorem l_law_317 : xlk (xm_cd m_law) 317 = some (.iadd, 1, (0, 0, 0, [])) := rfl
set_option maxRecDepth 100000 in
theorem l_law_318 : xlk (xm_cd m_law) 318 = some (.iaload, 1, (0, 0, 0, [])) := rfl
set_option maxRecDepth 100000 in
theorem l_law_319 : xlk (xm_cd m_law) 319 = some (.aload_n 0, 1, (0, 0, 0, [])) := rfl
set_option maxRecDepth 100000 in
theorem l_law_320 : xlk (xm_cd m_law) 320 = some (.iload_n 3, 1, (0, 0, 0, [])) := rfl
set_option maxRecDepth 100000 in
theorem l_law_321 : xlk (xm_cd m_law) 321 = some (.iconst 3, 1, (0, 0, 0, [])) := rfl
set_option maxRecDepth 100000 in
theorem l_law_322 : xlk (xm_cd m_law) 322 = some (.iadd, 1, (0, 0, 0, [])) := rfl
set_option maxRecDepth 100000 in
theorem l_law_323 : xlk (xm_cd m_law) 323 = some (.iaload, 1, (0, 0, 0, [])) := rfl
set_option maxRecDepth 100000 in
theorem l_law_324 : xlk (xm_cd m_law) 324 = some (.invokevirtual 40, 3, (389, 38, 3, [])) := rfl
set_option maxRecDepth 100000 in
theorem l_law_327 : xlk (xm_cd m_law) 327 = some (.aload_n 2, 1, (0, 0, 0, [])) := rfl
set_option maxRecDepth 100000 in
theorem l_law_328 : xlk (xm_cd m_law) 328 = some (.aload_n 0, 1, (0, 0, 0, [])) := rfl
set_option maxRecDepth 100000 in
theorem l_law_329 : xlk (xm_cd m_law) 329 = some (.iload_n 3, 1, (0, 0, 0, [])) := rfl
set_option maxRecDepth 100000 in
theorem l_law_330 : xlk (xm_cd m_law) 330 = some (.iconst 1, 1, (0, 0, 0, [])) := rfl
set_option maxRecDepth 100000 in
theorem l_law_331 : xlk (xm_cd m_law) 331 = some (.iadd, 1, (0, 0, 0, [])) := rfl
set_option maxRecDepth 100000 in
theorem l_law_332 : xlk (xm_cd m_law) 332 = some (.iaload, 1, (0, 0, 0, [])) := rfl
set_option maxRecDepth 100000 in
theorem l_law_333 : xlk (xm_cd m_law) 333 = some (.aload_n 0, 1, (0, 0, 0, [])) := rfl
set_option maxRecDepth 100000 in
theorem l_law_334 : xlk (xm_cd m_law) 334 = some (.iload_n 3, 1, (0, 0, 0, [])) := rfl
set_option maxRecDepth 100000 in
theorem l_law_335 : xlk (xm_cd m_law) 335 = some (.iconst 2, 1, (0, 0, 0, [])) := rfl
set_option maxRecDepth 100000 in
theorem l_law_336 : xlk (xm_cd m_law) 336 = some (.iadd, 1, (0, 0, 0, [])) := rfl
set_option maxRecDepth 100000 in
theorem l_law_337 : xlk (xm_cd m_law) 337 = some (.iaload, 1, (0, 0, 0, [])) := rfl
set_option maxRecDepth 100000 in
theorem l_law_338 : xlk (xm_cd m_law) 338 = some (.aload_n 0, 1, (0, 0, 0, [])) := rfl
set_option maxRecDepth 100000 in
theorem l_law_339 : xlk (xm_cd m_law) 339 = some (.iload_n 3, 1, (0, 0, 0, [])) := rfl
set_option maxRecDepth 100000 in
theorem l_law_340 : xlk (xm_cd m_law) 340 = some (.iconst 3, 1, (0, 0, 0, [])) := rfl
set_option maxRecDepth 100000 in
theorem l_law_341 : xlk (xm_cd m_law) 341 = some (.iadd, 1, (0, 0, 0, [])) := rfl
set_option maxRecDepth 100000 in
theorem l_law_342 : xlk (xm_cd m_law) 342 = some (.iaload, 1, (0, 0, 0, [])) := rfl
set_option maxRecDepth 100000 in
theorem l_law_343 : xlk (xm_cd m_law) 343 = some (.invokevirtual 44, 3, (1006, 163, 3, [])) := rfl
set_option maxRecDepth 100000 in
theorem l_law_346 : xlk (xm_cd m_law) 346 = some (.if_icmp .eq 559, 3, (0, 905, 0, [])) := rfl
set_option maxRecDepth 100000 in
theorem l_law_349 : xlk (xm_cd m_law) 349 = some (.iconst 0, 1, (0, 0, 0, [])) := rfl
set_option maxRecDepth 100000 in
theorem l_law_350 : xlk (xm_cd m_law) 350 = some (.ireturn, 1, (0, 0, 0, [])) := rfl
set_option maxRecDepth 100000 in
theorem l_law_351 : xlk (xm_cd m_law) 351 = some (.aload_n 1, 1, (0, 0, 0, [])) := rfl
set_option maxRecDepth 100000 in
theorem l_law_352 : xlk (xm_cd m_law) 352 = some (.aload_n 0, 1, (0, 0, 0, [])) := rfl
set_option maxRecDepth 100000 in
theorem l_law_353 : xlk (xm_cd m_law) 353 = some (.iload_n 3, 1, (0, 0, 0, [])) := rfl
set_option maxRecDepth 100000 in
theorem l_law_354 : xlk (xm_cd m_law) 354 = some (.iconst 1, 1, (0, 0, 0, [])) := rfl
set_option maxRecDepth 100000 in
theorem l_law_355 : xlk (xm_cd m_law) 355 = some (.iadd, 1, (0, 0, 0, [])) := rfl
set_option maxRecDepth 100000 in
theorem l_law_356 : xlk (xm_cd m_law) 356 = some (.iaload, 1, (0, 0, 0, [])) := rfl
set_option maxRecDepth 100000 in
theorem l_law_357 : xlk (xm_cd m_law) 357 = some (.aload_n 0, 1, (0, 0, 0, [])) := rfl
set_option maxRecDepth 100000 in
theorem l_law_358 : xlk (xm_cd m_law) 358 = some (.iload_n 3, 1, (0, 0, 0, [])) := rfl
set_option maxRecDepth 100000 in
theorem l_law_359 : xlk (xm_cd m_law) 359 = some (.iconst 2, 1, (0, 0, 0, [])) := rfl
set_option maxRecDepth 100000 in
theorem l_law_360 : xlk (xm_cd m_law) 360 = some (.iadd, 1, (0, 0, 0, [])) := rfl
set_option maxRecDepth 100000 in
theorem l_law_361 : xlk (xm_cd m_law) 361 = some (.iaload, 1, (0, 0, 0, [])) := rfl
set_option maxRecDepth 100000 in
theorem l_law_362 : xlk (xm_cd m_law) 362 = some (.aload_n 0, 1, (0, 0, 0, [])) := rfl
set_option maxRecDepth 100000 in
theorem l_law_363 : xlk (xm_cd m_law) 363 = some (.iload_n 3, 1, (0, 0, 0, [])) := rfl
set_option maxRecDepth 100000 in
theorem l_law_364 : xlk (xm_cd m_law) 364 = some (.iconst 3, 1, (0, 0, 0, [])) := rfl
set_option maxRecDepth 100000 in
theorem l_law_365 : xlk (xm_cd m_law) 365 = some (.iadd, 1, (0, 0, 0, [])) := rfl
set_option maxRecDepth 100000 in
theorem l_law_366 : xlk (xm_cd m_law) 366 = some (.iaload, 1, (0, 0, 0, [])) := rfl
set_option maxRecDepth 100000 in
theorem l_law_367 : xlk (xm_cd m_law) 367 = some (.aload_n 0, 1, (0, 0, 0, [])) := rfl
set_option maxRecDepth 100000 in
theorem l_law_368 : xlk (xm_cd m_law) 368 = some (.iload_n 3, 1, (0, 0, 0, [])) := rfl
set_option maxRecDepth 100000 in
theorem l_law_369 : xlk (xm_cd m_law) 369 = some (.iconst 4, 1, (0, 0, 0, [])) := rfl
set_option maxRecDepth 100000 in
theorem l_law_370 : xlk (xm_cd m_law) 370 = some (.iadd, 1, (0, 0, 0, [])) := rfl
set_option maxRecDepth 100000 in
theorem l_law_371 : xlk (xm_cd m_law) 371 = some (.iaload, 1, (0, 0, 0, [])) := rfl
set_option maxRecDepth 100000 in
theorem l_law_372 : xlk (xm_cd m_law) 372 = some (.invokevirtual 45, 3, (407, 42, 4, [])) := rfl
set_option maxRecDepth 100000 in
theorem l_law_375 : xlk (xm_cd m_law) 375 = some (.aload_n 2, 1, (0, 0, 0, [])) := rfl
set_option maxRecDepth 100000 in
theorem l_law_376 : xlk (xm_cd m_law) 376 = some (.aload_n 0, 1, (0, 0, 0, [])) := rfl
set_option maxRecDepth 100000 in
theorem l_law_377 : xlk (xm_cd m_law) 377 = some (.iload_n 3, 1, (0, 0, 0, [])) := rfl
set_option maxRecDepth 100000 in
theorem l_law_378 : xlk (xm_cd m_law) 378 = some (.iconst 1, 1, (0, 0, 0, [])) := rfl
set_option maxRecDepth 100000 in
theorem l_law_379 : xlk (xm_cd m_law) 379 = some (.iadd, 1, (0, 0, 0, [])) := rfl
set_option maxRecDepth 100000 in
theorem l_law_380 : xlk (xm_cd m_law) 380 = some (.iaload, 1, (0, 0, 0, [])) := rfl
set_option maxRecDepth 100000 in
theorem l_law_381 : xlk (xm_cd m_law) 381 = some (.aload_n 0, 1, (0, 0, 0, [])) := rfl
set_option maxRecDepth 100000 in
theorem l_law_382 : xlk (xm_cd m_law) 382 = some (.iload_n 3, 1, (0, 0, 0, [])) := rfl
set_option maxRecDepth 100000 in
theorem l_law_383 : xlk (xm_cd m_law) 383 = some (.iconst 2, 1, (0, 0, 0, [])) := rfl
set_option maxRecDepth 100000 in
theorem l_law_384 : xlk (xm_cd m_law) 384 = some (.iadd, 1, (0, 0, 0, [])) := rfl
set_option maxRecDepth 100000 in
theorem l_law_385 : xlk (xm_cd m_law) 385 = some (.iaload, 1, (0, 0, 0, [])) := rfl
set_option maxRecDepth 100000 in
theorem l_law_386 : xlk (xm_cd m_law) 386 = some (.aload_n 0, 1, (0, 0, 0, [])) := rfl
set_option maxRecDepth 100000 in
theorem l_law_387 : xlk (xm_cd m_law) 387 = some (.iload_n 3, 1, (0, 0, 0, [])) := rfl
set_option maxRecDepth 100000 in
theorem l_law_388 : xlk (xm_cd m_law) 388 = some (.iconst 3, 1, (0, 0, 0, [])) := rfl
set_option maxRecDepth 100000 in
theorem l_law_389 : xlk (xm_cd m_law) 389 = some (.iadd, 1, (0, 0, 0, [])) := rfl
set_option maxRecDepth 100000 in
theorem l_law_390 : xlk (xm_cd m_law) 390 = some (.iaload, 1, (0, 0, 0, [])) := rfl
set_option maxRecDepth 100000 in
theorem l_law_391 : xlk (xm_cd m_law) 391 = some (.aload_n 0, 1, (0, 0, 0, [])) := rfl
set_option maxRecDepth 100000 in
theorem l_law_392 : xlk (xm_cd m_law) 392 = some (.iload_n 3, 1, (0, 0, 0, [])) := rfl
set_option maxRecDepth 100000 in
theorem l_law_393 : xlk (xm_cd m_law) 393 = some (.iconst 4, 1, (0, 0, 0, [])) := rfl
set_option maxRecDepth 100000 in
theorem l_law_394 : xlk (xm_cd m_law) 394 = some (.iadd, 1, (0, 0, 0, [])) := rfl
set_option maxRecDepth 100000 in
theorem l_law_395 : xlk (xm_cd m_law) 395 = some (.iaload, 1, (0, 0, 0, [])) := rfl
set_option maxRecDepth 100000 in
theorem l_law_396 : xlk (xm_cd m_law) 396 = some (.invokevirtual 49, 3, (1015, 165, 4, [])) := rfl
set_option maxRecDepth 100000 in
theorem l_law_399 : xlk (xm_cd m_law) 399 = some (.if_icmp .eq 506, 3, (0, 905, 0, [])) := rfl
set_option maxRecDepth 100000 in
theorem l_law_402 : xlk (xm_cd m_law) 402 = some (.iconst 0, 1, (0, 0, 0, [])) := rfl
set_option maxRecDepth 100000 in
theorem l_law_403 : xlk (xm_cd m_law) 403 = some (.ireturn, 1, (0, 0, 0, [])) := rfl
set_option maxRecDepth 100000 in
theorem l_law_404 : xlk (xm_cd m_law) 404 = some (.aload_n 1, 1, (0, 0, 0, [])) := rfl
set_option maxRecDepth 100000 in
theorem l_law_405 : xlk (xm_cd m_law) 405 = some (.aload_n 0, 1, (0, 0, 0, [])) := rfl
set_option maxRecDepth 100000 in
theorem l_law_406 : xlk (xm_cd m_law) 406 = some (.iload_n 3, 1, (0, 0, 0, [])) := rfl
set_option maxRecDepth 100000 in
theorem l_law_407 : xlk (xm_cd m_law) 407 = some (.iconst 1, 1, (0, 0, 0, [])) := rfl
set_option maxRecDepth 100000 in
theorem l_law_408 : xlk (xm_cd m_law) 408 = some (.iadd, 1, (0, 0, 0, [])) := rfl
set_option maxRecDepth 100000 in
theorem l_law_409 : xlk (xm_cd m_law) 409 = some (.iaload, 1, (0, 0, 0, [])) := rfl
set_option maxRecDepth 100000 in
theorem l_law_410 : xlk (xm_cd m_law) 410 = some (.aload_n 0, 1, (0, 0, 0, [])) := rfl
set_option maxRecDepth 100000 in
theorem l_law_411 : xlk (xm_cd m_law) 411 = some (.iload_n 3, 1, (0, 0, 0, [])) := rfl
set_option maxRecDepth 100000 in
theorem l_law_412 : xlk (xm_cd m_law) 412 = some (.iconst 2, 1, (0, 0, 0, [])) := rfl
set_option maxRecDepth 100000 in
theorem l_law_413 : xlk (xm_cd m_law) 413 = some (.iadd, 1, (0, 0, 0, [])) := rfl
set_option maxRecDepth 100000 in
theorem l_law_414 : xlk (xm_cd m_law) 414 = some (.iaload, 1, (0, 0, 0, [])) := rfl
set_option maxRecDepth 100000 in
theorem l_law_415 : xlk (xm_cd m_law) 415 = some (.invokevirtual 50, 3, (415, 44, 2, [])) := rfl
set_option maxRecDepth 100000 in
theorem l_law_418 : xlk (xm_cd m_law) 418 = some (.aload_n 2, 1, (0, 0, 0, [])) := rfl
set_option maxRecDepth 100000 in
theorem l_law_419 : xlk (xm_cd m_law) 419 = some (.aload_n 0, 1, (0, 0, 0, [])) := rfl
set_option maxRecDepth 100000 in
theorem l_law_420 : xlk (xm_cd m_law) 420 = some (.iload_n 3, 1, (0, 0, 0, [])) := rfl
set_option maxRecDepth 100000 in
theorem l_law_421 : xlk (xm_cd m_law) 421 = some (.iconst 1, 1, (0, 0, 0, [])) := rfl
set_option maxRecDepth 100000 in
theorem l_law_422 : xlk (xm_cd m_law) 422 = some (.iadd, 1, (0, 0, 0, [])) := rfl
set_option maxRecDepth 100000 in
theorem l_law_423 : xlk (xm_cd m_law) 423 = some (.iaload, 1, (0, 0, 0, [])) := rfl
set_option maxRecDepth 100000 in
theorem l_law_424 : xlk (xm_cd m_law) 424 = some (.aload_n 0, 1, (0, 0, 0, [])) := rfl
set_option maxRecDepth 100000 in
theorem l_law_425 : xlk (xm_cd m_law) 425 = some (.iload_n 3, 1, (0, 0, 0, [])) := rfl
set_option maxRecDepth 100000 in
theorem l_law_426 : xlk (xm_cd m_law) 426 = some (.iconst 2, 1, (0, 0, 0, [])) := rfl
set_option maxRecDepth 100000 in
theorem l_law_427 : xlk (xm_cd m_law) 427 = some (.iadd, 1, (0, 0, 0, [])) := rfl
set_option maxRecDepth 100000 in
theorem l_law_428 : xlk (xm_cd m_law) 428 = some (.iaload, 1, (0, 0, 0, [])) := rfl
set_option maxRecDepth 100000 in
theorem l_law_429 : xlk (xm_cd m_law) 429 = some (.invokevirtual 54, 3, (1020, 166, 2, [])) := rfl
set_option maxRecDepth 100000 in
theorem l_law_432 : xlk (xm_cd m_law) 432 = some (.if_icmp .eq 473, 3, (0, 905, 0, [])) := rfl
set_option maxRecDepth 100000 in
theorem l_law_435 : xlk (xm_cd m_law) 435 = some (.iconst 0, 1, (0, 0, 0, [])) := rfl
set_option maxRecDepth 100000 in
theorem l_law_436 : xlk (xm_cd m_law) 436 = some (.ireturn, 1, (0, 0, 0, [])) := rfl
set_option maxRecDepth 100000 in
theorem l_law_437 : xlk (xm_cd m_law) 437 = some (.aload_n 1, 1, (0, 0, 0, [])) := rfl
set_option maxRecDepth 100000 in
theorem l_law_438 : xlk (xm_cd m_law) 438 = some (.invokevirtual 55, 3, (423, 46, 0, [])) := rfl
set_option maxRecDepth 100000 in
theorem l_law_441 : xlk (xm_cd m_law) 441 = some (.aload_n 2, 1, (0, 0, 0, [])) := rfl
set_option maxRecDepth 100000 in
theorem l_law_442 : xlk (xm_cd m_law) 442 = some (.invokevirtual 58, 3, (1027, 168, 0, [])) := rfl
set_option maxRecDepth 100000 in
theorem l_law_445 : xlk (xm_cd m_law) 445 = some (.if_icmp .eq 460, 3, (0, 905, 0, [])) := rfl
set_option maxRecDepth 100000 in
theorem l_law_448 : xlk (xm_cd m_law) 448 = some (.iconst 0, 1, (0, 0, 0, [])) := rfl
set_option maxRecDepth 100000 in
theorem l_law_449 : xlk (xm_cd m_law) 449 = some (.ireturn, 1, (0, 0, 0, [])) := rfl
set_option maxRecDepth 100000 in
theorem l_law_450 : xlk (xm_cd m_law) 450 = some (.aload_n 1, 1, (0, 0, 0, [])) := rfl
set_option maxRecDepth 100000 in
theorem l_law_451 : xlk (xm_cd m_law) 451 = some (.aload_n 0, 1, (0, 0, 0, [])) := rfl
set_option maxRecDepth 100000 in
theorem l_law_452 : xlk (xm_cd m_law) 452 = some (.iload_n 3, 1, (0, 0, 0, [])) := rfl
set_option maxRecDepth 100000 in
theorem l_law_453 : xlk (xm_cd m_law) 453 = some (.iconst 1, 1, (0, 0, 0, [])) := rfl
set_option maxRecDepth 100000 in
theorem l_law_454 : xlk (xm_cd m_law) 454 = some (.iadd, 1, (0, 0, 0, [])) := rfl
set_option maxRecDepth 100000 in
theorem l_law_455 : xlk (xm_cd m_law) 455 = some (.iaload, 1, (0, 0, 0, [])) := rfl
set_option maxRecDepth 100000 in
theorem l_law_456 : xlk (xm_cd m_law) 456 = some (.aload_n 0, 1, (0, 0, 0, [])) := rfl
set_option maxRecDepth 100000 in
theorem l_law_457 : xlk (xm_cd m_law) 457 = some (.iload_n 3, 1, (0, 0, 0, [])) := rfl
set_option maxRecDepth 100000 in
theorem l_law_458 : xlk (xm_cd m_law) 458 = some (.iconst 2, 1, (0, 0, 0, [])) := rfl
set_option maxRecDepth 100000 in
theorem l_law_459 : xlk (xm_cd m_law) 459 = some (.iadd, 1, (0, 0, 0, [])) := rfl
set_option maxRecDepth 100000 in
theorem l_law_460 : xlk (xm_cd m_law) 460 = some (.iaload, 1, (0, 0, 0, [])) := rfl
set_option maxRecDepth 100000 in
theorem l_law_461 : xlk (xm_cd m_law) 461 = some (.invokevirtual 59, 3, (427, 47, 2, [])) := rfl
set_option maxRecDepth 100000 in
theorem l_law_464 : xlk (xm_cd m_law) 464 = some (.aload_n 2, 1, (0, 0, 0, [])) := rfl
set_option maxRecDepth 100000 in
theorem l_law_465 : xlk (xm_cd m_law) 465 = some (.aload_n 0, 1, (0, 0, 0, [])) := rfl
set_option maxRecDepth 100000 in
theorem l_law_466 : xlk (xm_cd m_law) 466 = some (.iload_n 3, 1, (0, 0, 0, [])) := rfl
set_option maxRecDepth 100000 in
theorem l_law_467 : xlk (xm_cd m_law) 467 = some (.iconst 1, 1, (0, 0, 0, [])) := rfl
set_option maxRecDepth 100000 in
theorem l_law_468 : xlk (xm_cd m_law) 468 = some (.iadd, 1, (0, 0, 0, [])) := rfl
set_option maxRecDepth 100000 in
theorem l_law_469 : xlk (xm_cd m_law) 469 = some (.iaload, 1, (0, 0, 0, [])) := rfl
set_option maxRecDepth 100000 in
theorem l_law_470 : xlk (xm_cd m_law) 470 = some (.aload_n 0, 1, (0, 0, 0, [])) := rfl
set_option maxRecDepth 100000 in
theorem l_law_471 : xlk (xm_cd m_law) 471 = some (.iload_n 3, 1, (0, 0, 0, [])) := rfl
set_option maxRecDepth 100000 in
theorem l_law_472 : xlk (xm_cd m_law) 472 = some (.iconst 2, 1, (0, 0, 0, [])) := rfl
set_option maxRecDepth 100000 in
theorem l_law_473 : xlk (xm_cd m_law) 473 = some (.iadd, 1, (0, 0, 0, [])) := rfl
set_option maxRecDepth 100000 in
theorem l_law_474 : xlk (xm_cd m_law) 474 = some (.iaload, 1, (0, 0, 0, [])) := rfl
set_option maxRecDepth 100000 in
theorem l_law_475 : xlk (xm_cd m_law) 475 = some (.invokevirtual 62, 3, (1031, 169, 2, [])) := rfl
set_option maxRecDepth 100000 in
theorem l_law_478 : xlk (xm_cd m_law) 478 = some (.if_icmp .eq 427, 3, (0, 905, 0, [])) := rfl
set_option maxRecDepth 100000 in
theorem l_law_481 : xlk (xm_cd m_law) 481 = some (.iconst 0, 1, (0, 0, 0, [])) := rfl
set_option maxRecDepth 100000 in
theorem l_law_482 : xlk (xm_cd m_law) 482 = some (.ireturn, 1, (0, 0, 0, [])) := rfl
set_option maxRecDepth 100000 in
theorem l_law_483 : xlk (xm_cd m_law) 483 = some (.aload_n 1, 1, (0, 0, 0, [])) := rfl
set_option maxRecDepth 100000 in
theorem l_law_484 : xlk (xm_cd m_law) 484 = some (.aload_n 0, 1, (0, 0, 0, [])) := rfl
set_option maxRecDepth 100000 in
theorem l_law_485 : xlk (xm_cd m_law) 485 = some (.iload_n 3, 1, (0, 0, 0, [])) := rfl
set_option maxRecDepth 100000 in
theorem l_law_486 : xlk (xm_cd m_law) 486 = some (.iconst 1, 1, (0, 0, 0, [])) := rfl
set_option maxRecDepth 100000 in
theorem l_law_487 : xlk (xm_cd m_law) 487 = some (.iadd, 1, (0, 0, 0, [])) := rfl
set_option maxRecDepth 100000 in
theorem l_law_488 : xlk (xm_cd m_law) 488 = some (.iaload, 1, (0, 0, 0, [])) := rfl
set_option maxRecDepth 100000 in
theorem l_law_489 : xlk (xm_cd m_law) 489 = some (.aload_n 0, 1, (0, 0, 0, [])) := rfl
set_option maxRecDepth 100000 in
theorem l_law_490 : xlk (xm_cd m_law) 490 = some (.iload_n 3, 1, (0, 0, 0, [])) := rfl
set_option maxRecDepth 100000 in
theorem l_law_491 : xlk (xm_cd m_law) 491 = some (.iconst 2, 1, (0, 0, 0, [])) := rfl
set_option maxRecDepth 100000 in
theorem l_law_492 : xlk (xm_cd m_law) 492 = some (.iadd, 1, (0, 0, 0, [])) := rfl
set_option maxRecDepth 100000 in
theorem l_law_493 : xlk (xm_cd m_law) 493 = some (.iaload, 1, (0, 0, 0, [])) := rfl
set_option maxRecDepth 100000 in
theorem l_law_494 : xlk (xm_cd m_law) 494 = some (.aload_n 0, 1, (0, 0, 0, [])) := rfl
set_option maxRecDepth 100000 in
theorem l_law_495 : xlk (xm_cd m_law) 495 = some (.iload_n 3, 1, (0, 0, 0, [])) := rfl
set_option maxRecDepth 100000 in
theorem l_law_496 : xlk (xm_cd m_law) 496 = some (.iconst 3, 1, (0, 0, 0, [])) := rfl
set_option maxRecDepth 100000 in
theorem l_law_497 : xlk (xm_cd m_law) 497 = some (.iadd, 1, (0, 0, 0, [])) := rfl
set_option maxRecDepth 100000 in
theorem l_law_498 : xlk (xm_cd m_law) 498 = some (.iaload, 1, (0, 0, 0, [])) := rfl
set_option maxRecDepth 100000 in
theorem l_law_499 : xlk (xm_cd m_law) 499 = some (.invokevirtual 63, 3, (545, 76, 3, [])) := rfl
set_option maxRecDepth 100000 in
theorem l_law_502 : xlk (xm_cd m_law) 502 = some (.aload_n 2, 1, (0, 0, 0, [])) := rfl
set_option maxRecDepth 100000 in
theorem l_law_503 : xlk (xm_cd m_law) 503 = some (.aload_n 0, 1, (0, 0, 0, [])) := rfl
set_option maxRecDepth 100000 in
theorem l_law_504 : xlk (xm_cd m_law) 504 = some (.iload_n 3, 1, (0, 0, 0, [])) := rfl
set_option maxRecDepth 100000 in
theorem l_law_505 : xlk (xm_cd m_law) 505 = some (.iconst 1, 1, (0, 0, 0, [])) := rfl
set_option maxRecDepth 100000 in
theorem l_law_506 : xlk (xm_cd m_law) 506 = some (.iadd, 1, (0, 0, 0, [])) := rfl
set_option maxRecDepth 100000 in
theorem l_law_507 : xlk (xm_cd m_law) 507 = some (.iaload, 1, (0, 0, 0, [])) := rfl
set_option maxRecDepth 100000 in
theorem l_law_508 : xlk (xm_cd m_law) 508 = some (.aload_n 0, 1, (0, 0, 0, [])) := rfl
set_option maxRecDepth 100000 in
theorem l_law_509 : xlk (xm_cd m_law) 509 = some (.iload_n 3, 1, (0, 0, 0, [])) := rfl
set_option maxRecDepth 100000 in
theorem l_law_510 : xlk (xm_cd m_law) 510 = some (.iconst 2, 1, (0, 0, 0, [])) := rfl
set_option maxRecDepth 100000 in
theorem l_law_511 : xlk (xm_cd m_law) 511 = some (.iadd, 1, (0, 0, 0, [])) := rfl
set_option maxRecDepth 100000 in
theorem l_law_512 : xlk (xm_cd m_law) 512 = some (.iaload, 1, (0, 0, 0, [])) := rfl
set_option maxRecDepth 100000 in
theorem l_law_513 : xlk (xm_cd m_law) 513 = some (.aload_n 0, 1, (0, 0, 0, [])) := rfl
set_option maxRecDepth 100000 in
theorem l_law_514 : xlk (xm_cd m_law) 514 = some (.iload_n 3, 1, (0, 0, 0, [])) := rfl
set_option maxRecDepth 100000 in
theorem l_law_515 : xlk (xm_cd m_law) 515 = some (.iconst 3, 1, (0, 0, 0, [])) := rfl
set_option maxRecDepth 100000 in
theorem l_law_516 : xlk (xm_cd m_law) 516 = some (.iadd, 1, (0, 0, 0, [])) := rfl
set_option maxRecDepth 100000 in
theorem l_law_517 : xlk (xm_cd m_law) 517 = some (.iaload, 1, (0, 0, 0, [])) := rfl
set_option maxRecDepth 100000 in
theorem l_law_518 : xlk (xm_cd m_law) 518 = some (.invokevirtual 66, 3, (1077, 184, 3, [])) := rfl
set_option maxRecDepth 100000 in
theorem l_law_521 : xlk (xm_cd m_law) 521 = some (.if_icmp .eq 384, 3, (0, 905, 0, [])) := rfl
set_option maxRecDepth 100000 in
theorem l_law_524 : xlk (xm_cd m_law) 524 = some (.iconst 0, 1, (0, 0, 0, [])) := rfl
set_option maxRecDepth 100000 in
theorem l_law_525 : xlk (xm_cd m_law) 525 = some (.ireturn, 1, (0, 0, 0, [])) := rfl
set_option maxRecDepth 100000 in
theorem l_law_526 : xlk (xm_cd m_law) 526 = some (.aload_n 1, 1, (0, 0, 0, [])) := rfl
set_option maxRecDepth 100000 in
theorem l_law_527 : xlk (xm_cd m_law) 527 = some (.aload_n 0, 1, (0, 0, 0, [])) := rfl
set_option maxRecDepth 100000 in
theorem l_law_528 : xlk (xm_cd m_law) 528 = some (.iload_n 3, 1, (0, 0, 0, [])) := rfl
set_option maxRecDepth 100000 in
theorem l_law_529 : xlk (xm_cd m_law) 529 = some (.iconst 1, 1, (0, 0, 0, [])) := rfl
set_option maxRecDepth 100000 in
theorem l_law_530 : xlk (xm_cd m_law) 530 = some (.iadd, 1, (0, 0, 0, [])) := rfl
set_option maxRecDepth 100000 in
theorem l_law_531 : xlk (xm_cd m_law) 531 = some (.iaload, 1, (0, 0, 0, [])) := rfl
set_option maxRecDepth 100000 in
theorem l_law_532 : xlk (xm_cd m_law) 532 = some (.aload_n 0, 1, (0, 0, 0, [])) := rfl
set_option maxRecDepth 100000 in
theorem l_law_533 : xlk (xm_cd m_law) 533 = some (.iload_n 3, 1, (0, 0, 0, [])) := rfl
set_option maxRecDepth 100000 in
theorem l_law_534 : xlk (xm_cd m_law) 534 = some (.iconst 2, 1, (0, 0, 0, [])) := rfl
set_option maxRecDepth 100000 in
theorem l_law_535 : xlk (xm_cd m_law) 535 = some (.iadd, 1, (0, 0, 0, [])) := rfl
set_option maxRecDepth 100000 in
theorem l_law_536 : xlk (xm_cd m_law) 536 = some (.iaload, 1, (0, 0, 0, [])) := rfl
set_option maxRecDepth 100000 in
theorem l_law_537 : xlk (xm_cd m_law) 537 = some (.aload_n 0, 1, (0, 0, 0, [])) := rfl
set_option maxRecDepth 100000 in
theorem l_law_538 : xlk (xm_cd m_law) 538 = some (.iload_n 3, 1, (0, 0, 0, [])) := rfl
set_option maxRecDepth 100000 in
theorem l_law_539 : xlk (xm_cd m_law) 539 = some (.iconst 3, 1, (0, 0, 0, [])) := rfl
set_option maxRecDepth 100000 in
theorem l_law_540 : xlk (xm_cd m_law) 540 = some (.iadd, 1, (0, 0, 0, [])) := rfl
set_option maxRecDepth 100000 in
theorem l_law_541 : xlk (xm_cd m_law) 541 = some (.iaload, 1, (0, 0, 0, [])) := rfl
set_option maxRecDepth 100000 in
theorem l_law_542 : xlk (xm_cd m_law) 542 = some (.aload_n 0, 1, (0, 0, 0, [])) := rfl
set_option maxRecDepth 100000 in
theorem l_law_543 : xlk (xm_cd m_law) 543 = some (.iload_n 3, 1, (0, 0, 0, [])) := rfl
set_option maxRecDepth 100000 in
theorem l_law_544 : xlk (xm_cd m_law) 544 = some (.iconst 4, 1, (0, 0, 0, [])) := rfl
set_option maxRecDepth 100000 in
theorem l_law_545 : xlk (xm_cd m_law) 545 = some (.iadd, 1, (0, 0, 0, [])) := rfl
set_option maxRecDepth 100000 in
theorem l_law_546 : xlk (xm_cd m_law) 546 = some (.iaload, 1, (0, 0, 0, [])) := rfl
set_option maxRecDepth 100000 in
theorem l_law_547 : xlk (xm_cd m_law) 547 = some (.invokevirtual 67, 3, (576, 84, 4, [])) := rfl
set_option maxRecDepth 100000 in
theorem l_law_550 : xlk (xm_cd m_law) 550 = some (.aload_n 2, 1, (0, 0, 0, [])) := rfl
set_option maxRecDepth 100000 in
theorem l_law_551 : xlk (xm_cd m_law) 551 = some (.aload_n 0, 1, (0, 0, 0, [])) := rfl
set_option maxRecDepth 100000 in
theorem l_law_552 : xlk (xm_cd m_law) 552 = some (.iload_n 3, 1, (0, 0, 0, [])) := rfl
set_option maxRecDepth 100000 in
theorem l_law_553 : xlk (xm_cd m_law) 553 = some (.iconst 1, 1, (0, 0, 0, [])) := rfl
set_option maxRecDepth 100000 in
theorem l_law_554 : xlk (xm_cd m_law) 554 = some (.iadd, 1, (0, 0, 0, [])) := rfl
set_option maxRecDepth 100000 in
theorem l_law_555 : xlk (xm_cd m_law) 555 = some (.iaload, 1, (0, 0, 0, [])) := rfl
set_option maxRecDepth 100000 in
theorem l_law_556 : xlk (xm_cd m_law) 556 = some (.aload_n 0, 1, (0, 0, 0, [])) := rfl
set_option maxRecDepth 100000 in
theorem l_law_557 : xlk (xm_cd m_law) 557 = some (.iload_n 3, 1, (0, 0, 0, [])) := rfl
set_option maxRecDepth 100000 in
theorem l_law_558 : xlk (xm_cd m_law) 558 = some (.iconst 2, 1, (0, 0, 0, [])) := rfl
set_option maxRecDepth 100000 in
theorem l_law_559 : xlk (xm_cd m_law) 559 = some (.iadd, 1, (0, 0, 0, [])) := rfl
set_option maxRecDepth 100000 in
theorem l_law_560 : xlk (xm_cd m_law) 560 = some (.iaload, 1, (0, 0, 0, [])) := rfl
set_option maxRecDepth 100000 in
theorem l_law_561 : xlk (xm_cd m_law) 561 = some (.aload_n 0, 1, (0, 0, 0, [])) := rfl
set_option maxRecDepth 100000 in
theorem l_law_562 : xlk (xm_cd m_law) 562 = some (.iload_n 3, 1, (0, 0, 0, [])) := rfl
set_option maxRecDepth 100000 in
theorem l_law_563 : xlk (xm_cd m_law) 563 = some (.iconst 3, 1, (0, 0, 0, [])) := rfl
set_option maxRecDepth 100000 in
theorem l_law_564 : xlk (xm_cd m_law) 564 = some (.iadd, 1, (0, 0, 0, [])) := rfl
set_option maxRecDepth 100000 in
theorem l_law_565 : xlk (xm_cd m_law) 565 = some (.iaload, 1, (0, 0, 0, [])) := rfl
set_option maxRecDepth 100000 in
theorem l_law_566 : xlk (xm_cd m_law) 566 = some (.aload_n 0, 1, (0, 0, 0, [])) := rfl
set_option maxRecDepth 100000 in
theorem l_law_567 : xlk (xm_cd m_law) 567 = some (.iload_n 3, 1, (0, 0, 0, [])) := rfl
set_option maxRecDepth 100000 in
theorem l_law_568 : xlk (xm_cd m_law) 568 = some (.iconst 4, 1, (0, 0, 0, [])) := rfl
set_option maxRecDepth 100000 in
theorem l_law_569 : xlk (xm_cd m_law) 569 = some (.iadd, 1, (0, 0, 0, [])) := rfl
set_option maxRecDepth 100000 in
theorem l_law_570 : xlk (xm_cd m_law) 570 = some (.iaload, 1, (0, 0, 0, [])) := rfl
set_option maxRecDepth 100000 in
theorem l_law_571 : xlk (xm_cd m_law) 571 = some (.invokevirtual 70, 3, (1091, 188, 4, [])) := rfl
set_option maxRecDepth 100000 in
theorem l_law_574 : xlk (xm_cd m_law) 574 = some (.if_icmp .eq 331, 3, (0, 905, 0, [])) := rfl
set_option maxRecDepth 100000 in
theorem l_law_577 : xlk (xm_cd m_law) 577 = some (.iconst 0, 1, (0, 0, 0, [])) := rfl
set_option maxRecDepth 100000 in
theorem l_law_578 : xlk (xm_cd m_law) 578 = some (.ireturn, 1, (0, 0, 0, [])) := rfl
set_option maxRecDepth 100000 in
theorem l_law_579 : xlk (xm_cd m_law) 579 = some (.aload_n 1, 1, (0, 0, 0, [])) := rfl
set_option maxRecDepth 100000 in
theorem l_law_580 : xlk (xm_cd m_law) 580 = some (.aload_n 0, 1, (0, 0, 0, [])) := rfl
set_option maxRecDepth 100000 in
theorem l_law_581 : xlk (xm_cd m_law) 581 = some (.iload_n 3, 1, (0, 0, 0, [])) := rfl
set_option maxRecDepth 100000 in
theorem l_law_582 : xlk (xm_cd m_law) 582 = some (.iconst 1, 1, (0, 0, 0, [])) := rfl
set_option maxRecDepth 100000 in
theorem l_law_583 : xlk (xm_cd m_law) 583 = some (.iadd, 1, (0, 0, 0, [])) := rfl
set_option maxRecDepth 100000 in
theorem l_law_584 : xlk (xm_cd m_law) 584 = some (.iaload, 1, (0, 0, 0, [])) := rfl
set_option maxRecDepth 100000 in
theorem l_law_585 : xlk (xm_cd m_law) 585 = some (.aload_n 0, 1, (0, 0, 0, [])) := rfl
set_option maxRecDepth 100000 in
theorem l_law_586 : xlk (xm_cd m_law) 586 = some (.iload_n 3, 1, (0, 0, 0, [])) := rfl
set_option maxRecDepth 100000 in
theorem l_law_587 : xlk (xm_cd m_law) 587 = some (.iconst 2, 1, (0, 0, 0, [])) := rfl
set_option maxRecDepth 100000 in
theorem l_law_588 : xlk (xm_cd m_law) 588 = some (.iadd, 1, (0, 0, 0, [])) := rfl
set_option maxRecDepth 100000 in
theorem l_law_589 : xlk (xm_cd m_law) 589 = some (.iaload, 1, (0, 0, 0, [])) := rfl
set_option maxRecDepth 100000 in
theorem l_law_590 : xlk (xm_cd m_law) 590 = some (.aload_n 0, 1, (0, 0, 0, [])) := rfl
set_option maxRecDepth 100000 in
theorem l_law_591 : xlk (xm_cd m_law) 591 = some (.iload_n 3, 1, (0, 0, 0, [])) := rfl
set_option maxRecDepth 100000 in
theorem l_law_592 : xlk (xm_cd m_law) 592 = some (.iconst 3, 1, (0, 0, 0, [])) := rfl
set_option maxRecDepth 100000 in
theorem l_law_593 : xlk (xm_cd m_law) 593 = some (.iadd, 1, (0, 0, 0, [])) := rfl
set_option maxRecDepth 100000 in
theorem l_law_594 : xlk (xm_cd m_law) 594 = some (.iaload, 1, (0, 0, 0, [])) := rfl
set_option maxRecDepth 100000 in
theorem l_law_595 : xlk (xm_cd m_law) 595 = some (.aload_n 0, 1, (0, 0, 0, [])) := rfl
set_option maxRecDepth 100000 in
theorem l_law_596 : xlk (xm_cd m_law) 596 = some (.iload_n 3, 1, (0, 0, 0, [])) := rfl
set_option maxRecDepth 100000 in
theorem l_law_597 : xlk (xm_cd m_law) 597 = some (.iconst 4, 1, (0, 0, 0, [])) := rfl
set_option maxRecDepth 100000 in
theorem l_law_598 : xlk (xm_cd m_law) 598 = some (.iadd, 1, (0, 0, 0, [])) := rfl
set_option maxRecDepth 100000 in
theorem l_law_599 : xlk (xm_cd m_law) 599 = some (.iaload, 1, (0, 0, 0, [])) := rfl
set_option maxRecDepth 100000 in
theorem l_law_600 : xlk (xm_cd m_law) 600 = some (.aload_n 0, 1, (0, 0, 0, [])) := rfl
set_option maxRecDepth 100000 in
theorem l_law_601 : xlk (xm_cd m_law) 601 = some (.iload_n 3, 1, (0, 0, 0, [])) := rfl
set_option maxRecDepth 100000 in
theorem l_law_602 : xlk (xm_cd m_law) 602 = some (.iconst 5, 1, (0, 0, 0, [])) := rfl
set_option maxRecDepth 100000 in
theorem l_law_603 : xlk (xm_cd m_law) 603 = some (.iadd, 1, (0, 0, 0, [])) := rfl
set_option maxRecDepth 100000 in
theorem l_law_604 : xlk (xm_cd m_law) 604 = some (.iaload, 1, (0, 0, 0, [])) := rfl
set_option maxRecDepth 100000 in
theorem l_law_605 : xlk (xm_cd m_law) 605 = some (.invokevirtual 71, 3, (580, 85, 5, [])) := rfl
set_option maxRecDepth 100000 in
theorem l_law_608 : xlk (xm_cd m_law) 608 = some (.aload_n 2, 1, (0, 0, 0, [])) := rfl
set_option maxRecDepth 100000 in
theorem l_law_609 : xlk (xm_cd m_law) 609 = some (.aload_n 0, 1, (0, 0, 0, [])) := rfl
set_option maxRecDepth 100000 in
theorem l_law_610 : xlk (xm_cd m_law) 610 = some (.iload_n 3, 1, (0, 0, 0, [])) := rfl
set_option maxRecDepth 100000 in
theorem l_law_611 : xlk (xm_cd m_law) 611 = some (.iconst 1, 1, (0, 0, 0, [])) := rfl
set_option maxRecDepth 100000 in
theorem l_law_612 : xlk (xm_cd m_law) 612 = some (.iadd, 1, (0, 0, 0, [])) := rfl
set_option maxRecDepth 100000 in
theorem l_law_613 : xlk (xm_cd m_law) 613 = some (.iaload, 1, (0, 0, 0, [])) := rfl
set_option maxRecDepth 100000 in
theorem l_law_614 : xlk (xm_cd m_law) 614 = some (.aload_n 0, 1, (0, 0, 0, [])) := rfl
set_option maxRecDepth 100000 in
theorem l_law_615 : xlk (xm_cd m_law) 615 = some (.iload_n 3, 1, (0, 0, 0, [])) := rfl
set_option maxRecDepth 100000 in
theorem l_law_616 : xlk (xm_cd m_law) 616 = some (.iconst 2, 1, (0, 0, 0, [])) := rfl
set_option maxRecDepth 100000 in
theorem l_law_617 : xlk (xm_cd m_law) 617 = some (.iadd, 1, (0, 0, 0, [])) := rfl
set_option maxRecDepth 100000 in
theorem l_law_618 : xlk (xm_cd m_law) 618 = some (.iaload, 1, (0, 0, 0, [])) := rfl
set_option maxRecDepth 100000 in
theorem l_law_619 : xlk (xm_cd m_law) 619 = some (.aload_n 0, 1, (0, 0, 0, [])) := rfl
set_option maxRecDepth 100000 in
theorem l_law_620 : xlk (xm_cd m_law) 620 = some (.iload_n 3, 1, (0, 0, 0, [])) := rfl
set_option maxRecDepth 100000 in
theorem l_law_621 : xlk (xm_cd m_law) 621 = some (.iconst 3, 1, (0, 0, 0, [])) := rfl
set_option maxRecDepth 100000 in
theorem l_law_622 : xlk (xm_cd m_law) 622 = some (.iadd, 1, (0, 0, 0, [])) := rfl
set_option maxRecDepth 100000 in
theorem l_law_623 : xlk (xm_cd m_law) 623 = some (.iaload, 1, (0, 0, 0, [])) := rfl
set_option maxRecDepth 100000 in
theorem l_law_624 : xlk (xm_cd m_law) 624 = some (.aload_n 0, 1, (0, 0, 0, [])) := rfl
set_option maxRecDepth 100000 in
theorem l_law_625 : xlk (xm_cd m_law) 625 = some (.iload_n 3, 1, (0, 0, 0, [])) := rfl
set_option maxRecDepth 100000 in
theorem l_law_626 : xlk (xm_cd m_law) 626 = some (.iconst 4, 1, (0, 0, 0, [])) := rfl
set_option maxRecDepth 100000 in
theorem l_law_627 : xlk (xm_cd m_law) 627 = some (.iadd, 1, (0, 0, 0, [])) := rfl
set_option maxRecDepth 100000 in
theorem l_law_628 : xlk (xm_cd m_law) 628 = some (.iaload, 1, (0, 0, 0, [])) := rfl
set_option maxRecDepth 100000 in
theorem l_law_629 : xlk (xm_cd m_law) 629 = some (.aload_n 0, 1, (0, 0, 0, [])) := rfl
set_option maxRecDepth 100000 in
theorem l_law_630 : xlk (xm_cd m_law) 630 = some (.iload_n 3, 1, (0, 0, 0, [])) := rfl
set_option maxRecDepth 100000 in
theorem l_law_631 : xlk (xm_cd m_law) 631 = some (.iconst 5, 1, (0, 0, 0, [])) := rfl
set_option maxRecDepth 100000 in
theorem l_law_632 : xlk (xm_cd m_law) 632 = some (.iadd, 1, (0, 0, 0, [])) := rfl
set_option maxRecDepth 100000 in
theorem l_law_633 : xlk (xm_cd m_law) 633 = some (.iaload, 1, (0, 0, 0, [])) := rfl
set_option maxRecDepth 100000 in
theorem l_law_634 : xlk (xm_cd m_law) 634 = some (.invokevirtual 74, 3, (1096, 189, 5, [])) := rfl
set_option maxRecDepth 100000 in
theorem l_law_637 : xlk (xm_cd m_law) 637 = some (.if_icmp .eq 268, 3, (0, 905, 0, [])) := rfl
set_option maxRecDepth 100000 in
theorem l_law_640 : xlk (xm_cd m_law) 640 = some (.iconst 0, 1, (0, 0, 0, [])) := rfl
set_option maxRecDepth 100000 in
theorem l_law_641 : xlk (xm_cd m_law) 641 = some (.ireturn, 1, (0, 0, 0, [])) := rfl
set_option maxRecDepth 100000 in
theorem l_law_642 : xlk (xm_cd m_law) 642 = some (.aload_n 1, 1, (0, 0, 0, [])) := rfl
set_option maxRecDepth 100000 in
theorem l_law_643 : xlk (xm_cd m_law) 643 = some (.aload_n 0, 1, (0, 0, 0, [])) := rfl
set_option maxRecDepth 100000 in
theorem l_law_644 : xlk (xm_cd m_law) 644 = some (.iload_n 3, 1, (0, 0, 0, [])) := rfl
set_option maxRecDepth 100000 in
theorem l_law_645 : xlk (xm_cd m_law) 645 = some (.iconst 1, 1, (0, 0, 0, [])) := rfl
set_option maxRecDepth 100000 in
theorem l_law_646 : xlk (xm_cd m_law) 646 = some (.iadd, 1, (0, 0, 0, [])) := rfl
set_option maxRecDepth 100000 in
theorem l_law_647 : xlk (xm_cd m_law) 647 = some (.iaload, 1, (0, 0, 0, [])) := rfl
set_option maxRecDepth 100000 in
theorem l_law_648 : xlk (xm_cd m_law) 648 = some (.aload_n 0, 1, (0, 0, 0, [])) := rfl
set_option maxRecDepth 100000 in
theorem l_law_649 : xlk (xm_cd m_law) 649 = some (.iload_n 3, 1, (0, 0, 0, [])) := rfl
set_option maxRecDepth 100000 in
theorem l_law_650 : xlk (xm_cd m_law) 650 = some (.iconst 2, 1, (0, 0, 0, [])) := rfl
set_option maxRecDepth 100000 in
theorem l_law_651 : xlk (xm_cd m_law) 651 = some (.iadd, 1, (0, 0, 0, [])) := rfl
set_option maxRecDepth 100000 in
theorem l_law_652 : xlk (xm_cd m_law) 652 = some (.iaload, 1, (0, 0, 0, [])) := rfl
set_option maxRecDepth 100000 in
theorem l_law_653 : xlk (xm_cd m_law) 653 = some (.aload_n 0, 1, (0, 0, 0, [])) := rfl
set_option maxRecDepth 100000 in
theorem l_law_654 : xlk (xm_cd m_law) 654 = some (.iload_n 3, 1, (0, 0, 0, [])) := rfl
set_option maxRecDepth 100000 in
theorem l_law_655 : xlk (xm_cd m_law) 655 = some (.iconst 3, 1, (0, 0, 0, [])) := rfl
set_option maxRecDepth 100000 in
theorem l_law_656 : xlk (xm_cd m_law) 656 = some (.iadd, 1, (0, 0, 0, [])) := rfl
set_option maxRecDepth 100000 in
theorem l_law_657 : xlk (xm_cd m_law) 657 = some (.iaload, 1, (0, 0, 0, [])) := rfl
set_option maxRecDepth 100000 in
theorem l_law_658 : xlk (xm_cd m_law) 658 = some (.ifCond .eq 7, 3, (0, 665, 0, [])) := rfl
set_option maxRecDepth 100000 in
theorem l_law_661 : xlk (xm_cd m_law) 661 = some (.iconst 1, 1, (0, 0, 0, [])) := rfl
set_option maxRecDepth 100000 in
theorem l_law_662 : xlk (xm_cd m_law) 662 = some (.goto 4, 3, (0, 666, 0, [])) := rfl
set_option maxRecDepth 100000 in
theorem l_law_665 : xlk (xm_cd m_law) 665 = some (.iconst 0, 1, (0, 0, 0, [])) := rfl
set_option maxRecDepth 100000 in
theorem l_law_666 : xlk (xm_cd m_law) 666 = some (.invokevirtual 75, 3, (594, 89, 3, [])) := rfl
set_option maxRecDepth 100000 in
theorem l_law_669 : xlk (xm_cd m_law) 669 = some (.aload_n 2, 1, (0, 0, 0, [])) := rfl
set_option maxRecDepth 100000 in
theorem l_law_670 : xlk (xm_cd m_law) 670 = some (.aload_n 0, 1, (0, 0, 0, [])) := rfl
set_option maxRecDepth 100000 in
theorem l_law_671 : xlk (xm_cd m_law) 671 = some (.iload_n 3, 1, (0, 0, 0, [])) := rfl
set_option maxRecDepth 100000 in
theorem l_law_672 : xlk (xm_cd m_law) 672 = some (.iconst 1, 1, (0, 0, 0, [])) := rfl
set_option maxRecDepth 100000 in
theorem l_law_673 : xlk (xm_cd m_law) 673 = some (.iadd, 1, (0, 0, 0, [])) := rfl
set_option maxRecDepth 100000 in
theorem l_law_674 : xlk (xm_cd m_law) 674 = some (.iaload, 1, (0, 0, 0, [])) := rfl
set_option maxRecDepth 100000 in
theorem l_law_675 : xlk (xm_cd m_law) 675 = some (.aload_n 0, 1, (0, 0, 0, [])) := rfl
set_option maxRecDepth 100000 in
theorem l_law_676 : xlk (xm_cd m_law) 676 = some (.iload_n 3, 1, (0, 0, 0, [])) := rfl
set_option maxRecDepth 100000 in
theorem l_law_677 : xlk (xm_cd m_law) 677 = some (.iconst 2, 1, (0, 0, 0, [])) := rfl
set_option maxRecDepth 100000 in
theorem l_law_678 : xlk (xm_cd m_law) 678 = some (.iadd, 1, (0, 0, 0, [])) := rfl
set_option maxRecDepth 100000 in
theorem l_law_679 : xlk (xm_cd m_law) 679 = some (.iaload, 1, (0, 0, 0, [])) := rfl
set_option maxRecDepth 100000 in
theorem l_law_680 : xlk (xm_cd m_law) 680 = some (.aload_n 0, 1, (0, 0, 0, [])) := rfl
set_option maxRecDepth 100000 in
theorem l_law_681 : xlk (xm_cd m_law) 681 = some (.iload_n 3, 1, (0, 0, 0, [])) := rfl
set_option maxRecDepth 100000 in
theorem l_law_682 : xlk (xm_cd m_law) 682 = some (.iconst 3, 1, (0, 0, 0, [])) := rfl
set_option maxRecDepth 100000 in
theorem l_law_683 : xlk (xm_cd m_law) 683 = some (.iadd, 1, (0, 0, 0, [])) := rfl
set_option maxRecDepth 100000 in
theorem l_law_684 : xlk (xm_cd m_law) 684 = some (.iaload, 1, (0, 0, 0, [])) := rfl
set_option maxRecDepth 100000 in
theorem l_law_685 : xlk (xm_cd m_law) 685 = some (.ifCond .eq 7, 3, (0, 692, 0, [])) := rfl
set_option maxRecDepth 100000 in
theorem l_law_688 : xlk (xm_cd m_law) 688 = some (.iconst 1, 1, (0, 0, 0, [])) := rfl
set_option maxRecDepth 100000 in
theorem l_law_689 : xlk (xm_cd m_law) 689 = some (.goto 4, 3, (0, 693, 0, [])) := rfl
set_option maxRecDepth 100000 in
theorem l_law_692 : xlk (xm_cd m_law) 692 = some (.iconst 0, 1, (0, 0, 0, [])) := rfl
set_option maxRecDepth 100000 in
theorem l_law_693 : xlk (xm_cd m_law) 693 = some (.invokevirtual 79, 3, (1100, 190, 3, [])) := rfl
set_option maxRecDepth 100000 in
theorem l_law_696 : xlk (xm_cd m_law) 696 = some (.if_icmp .eq 209, 3, (0, 905, 0, [])) := rfl
set_option maxRecDepth 100000 in
theorem l_law_699 : xlk (xm_cd m_law) 699 = some (.iconst 0, 1, (0, 0, 0, [])) := rfl
set_option maxRecDepth 100000 in
theorem l_law_700 : xlk (xm_cd m_law) 700 = some (.ireturn, 1, (0, 0, 0, [])) := rfl
set_option maxRecDepth 100000 in
theorem l_law_701 : xlk (xm_cd m_law) 701 = some (.aload_n 1, 1, (0, 0, 0, [])) := rfl
set_option maxRecDepth 100000 in
theorem l_law_702 : xlk (xm_cd m_law) 702 = some (.aload_n 0, 1, (0, 0, 0, [])) := rfl
set_option maxRecDepth 100000 in
theorem l_law_703 : xlk (xm_cd m_law) 703 = some (.iload_n 3, 1, (0, 0, 0, [])) := rfl
set_option maxRecDepth 100000 in
theorem l_law_704 : xlk (xm_cd m_law) 704 = some (.iconst 1, 1, (0, 0, 0, [])) := rfl
set_option maxRecDepth 100000 in
theorem l_law_705 : xlk (xm_cd m_law) 705 = some (.iadd, 1, (0, 0, 0, [])) := rfl
set_option maxRecDepth 100000 in
theorem l_law_706 : xlk (xm_cd m_law) 706 = some (.iaload, 1, (0, 0, 0, [])) := rfl
set_option maxRecDepth 100000 in
theorem l_law_707 : xlk (xm_cd m_law) 707 = some (.aload_n 0, 1, (0, 0, 0, [])) := rfl
set_option maxRecDepth 100000 in
theorem l_law_708 : xlk (xm_cd m_law) 708 = some (.iload_n 3, 1, (0, 0, 0, [])) := rfl
set_option maxRecDepth 100000 in
theorem l_law_709 : xlk (xm_cd m_law) 709 = some (.iconst 2, 1, (0, 0, 0, [])) := rfl
set_option maxRecDepth 100000 in
theorem l_law_710 : xlk (xm_cd m_law) 710 = some (.iadd, 1, (0, 0, 0, [])) := rfl
set_option maxRecDepth 100000 in
theorem l_law_711 : xlk (xm_cd m_law) 711 = some (.iaload, 1, (0, 0, 0, [])) := rfl
set_option maxRecDepth 100000 in
theorem l_law_712 : xlk (xm_cd m_law) 712 = some (.invokevirtual 80, 3, (640, 98, 2, [])) := rfl
set_option maxRecDepth 100000 in
theorem l_law_715 : xlk (xm_cd m_law) 715 = some (.aload_n 2, 1, (0, 0, 0, [])) := rfl
set_option maxRecDepth 100000 in
theorem l_law_716 : xlk (xm_cd m_law) 716 = some (.aload_n 0, 1, (0, 0, 0, [])) := rfl
set_option maxRecDepth 100000 in
theorem l_law_717 : xlk (xm_cd m_law) 717 = some (.iload_n 3, 1, (0, 0, 0, [])) := rfl
set_option maxRecDepth 100000 in
theorem l_law_718 : xlk (xm_cd m_law) 718 = some (.iconst 1, 1, (0, 0, 0, [])) := rfl
set_option maxRecDepth 100000 in
theorem l_law_719 : xlk (xm_cd m_law) 719 = some (.iadd, 1, (0, 0, 0, [])) := rfl
set_option maxRecDepth 100000 in
theorem l_law_720 : xlk (xm_cd m_law) 720 = some (.iaload, 1, (0, 0, 0, [])) := rfl
set_option maxRecDepth 100000 in
theorem l_law_721 : xlk (xm_cd m_law) 721 = some (.aload_n 0, 1, (0, 0, 0, [])) := rfl
set_option maxRecDepth 100000 in
theorem l_law_722 : xlk (xm_cd m_law) 722 = some (.iload_n 3, 1, (0, 0, 0, [])) := rfl
set_option maxRecDepth 100000 in
theorem l_law_723 : xlk (xm_cd m_law) 723 = some (.iconst 2, 1, (0, 0, 0, [])) := rfl
set_option maxRecDepth 100000 in
theorem l_law_724 : xlk (xm_cd m_law) 724 = some (.iadd, 1, (0, 0, 0, [])) := rfl
set_option maxRecDepth 100000 in
theorem l_law_725 : xlk (xm_cd m_law) 725 = some (.iaload, 1, (0, 0, 0, [])) := rfl
set_option maxRecDepth 100000 in
theorem l_law_726 : xlk (xm_cd m_law) 726 = some (.invokevirtual 83, 3, (1119, 196, 2, [])) := rfl
set_option maxRecDepth 100000 in
theorem l_law_729 : xlk (xm_cd m_law) 729 = some (.if_icmp .eq 176, 3, (0, 905, 0, [])) := rfl
set_option maxRecDepth 100000 in
theorem l_law_732 : xlk (xm_cd m_law) 732 = some (.iconst 0, 1, (0, 0, 0, [])) := rfl
set_option maxRecDepth 100000 in
theorem l_law_733 : xlk (xm_cd m_law) 733 = some (.ireturn, 1, (0, 0, 0, [])) := rfl
set_option maxRecDepth 100000 in
theorem l_law_734 : xlk (xm_cd m_law) 734 = some (.aload_n 1, 1, (0, 0, 0, [])) := rfl
set_option maxRecDepth 100000 in
theorem l_law_735 : xlk (xm_cd m_law) 735 = some (.aload_n 0, 1, (0, 0, 0, [])) := rfl
set_option maxRecDepth 100000 in
theorem l_law_736 : xlk (xm_cd m_law) 736 = some (.iload_n 3, 1, (0, 0, 0, [])) := rfl
set_option maxRecDepth 100000 in
theorem l_law_737 : xlk (xm_cd m_law) 737 = some (.iconst 1, 1, (0, 0, 0, [])) := rfl
set_option maxRecDepth 100000 in
theorem l_law_738 : xlk (xm_cd m_law) 738 = some (.iadd, 1, (0, 0, 0, [])) := rfl
set_option maxRecDepth 100000 in
theorem l_law_739 : xlk (xm_cd m_law) 739 = some (.iaload, 1, (0, 0, 0, [])) := rfl
set_option maxRecDepth 100000 in
theorem l_law_740 : xlk (xm_cd m_law) 740 = some (.invokevirtual 84, 3, (648, 100, 1, [])) := rfl
set_option maxRecDepth 100000 in
theorem l_law_743 : xlk (xm_cd m_law) 743 = some (.aload_n 2, 1, (0, 0, 0, [])) := rfl
set_option maxRecDepth 100000 in
theorem l_law_744 : xlk (xm_cd m_law) 744 = some (.aload_n 0, 1, (0, 0, 0, [])) := rfl
set_option maxRecDepth 100000 in
theorem l_law_745 : xlk (xm_cd m_law) 745 = some (.iload_n 3, 1, (0, 0, 0, [])) := rfl
set_option maxRecDepth 100000 in
theorem l_law_746 : xlk (xm_cd m_law) 746 = some (.iconst 1, 1, (0, 0, 0, [])) := rfl
set_option maxRecDepth 100000 in
theorem l_law_747 : xlk (xm_cd m_law) 747 = some (.iadd, 1, (0, 0, 0, [])) := rfl
set_option maxRecDepth 100000 in
theorem l_law_748 : xlk (xm_cd m_law) 748 = some (.iaload, 1, (0, 0, 0, [])) := rfl
set_option maxRecDepth 100000 in
theorem l_law_749 : xlk (xm_cd m_law) 749 = some (.invokevirtual 87, 3, (1123, 197, 1, [])) := rfl
set_option maxRecDepth 100000 in
theorem l_law_752 : xlk (xm_cd m_law) 752 = some (.if_icmp .eq 153, 3, (0, 905, 0, [])) := rfl
set_option maxRecDepth 100000 in
theorem l_law_755 : xlk (xm_cd m_law) 755 = some (.iconst 0, 1, (0, 0, 0, [])) := rfl
set_option maxRecDepth 100000 in
theorem l_law_756 : xlk (xm_cd m_law) 756 = some (.ireturn, 1, (0, 0, 0, [])) := rfl
set_option maxRecDepth 100000 in
theorem l_law_757 : xlk (xm_cd m_law) 757 = some (.aload_n 1, 1, (0, 0, 0, [])) := rfl
set_option maxRecDepth 100000 in
theorem l_law_758 : xlk (xm_cd m_law) 758 = some (.aload_n 0, 1, (0, 0, 0, [])) := rfl
set_option maxRecDepth 100000 in
theorem l_law_759 : xlk (xm_cd m_law) 759 = some (.iload_n 3, 1, (0, 0, 0, [])) := rfl
set_option maxRecDepth 100000 in
theorem l_law_760 : xlk (xm_cd m_law) 760 = some (.iconst 1, 1, (0, 0, 0, [])) := rfl
set_option maxRecDepth 100000 in
theorem l_law_761 : xlk (xm_cd m_law) 761 = some (.iadd, 1, (0, 0, 0, [])) := rfl
set_option maxRecDepth 100000 in
theorem l_law_762 : xlk (xm_cd m_law) 762 = some (.iaload, 1, (0, 0, 0, [])) := rfl
set_option maxRecDepth 100000 in
theorem l_law_763 : xlk (xm_cd m_law) 763 = some (.aload_n 0, 1, (0, 0, 0, [])) := rfl
set_option maxRecDepth 100000 in
theorem l_law_764 : xlk (xm_cd m_law) 764 = some (.iload_n 3, 1, (0, 0, 0, [])) := rfl
set_option maxRecDepth 100000 in
theorem l_law_765 : xlk (xm_cd m_law) 765 = some (.iconst 2, 1, (0, 0, 0, [])) := rfl
set_option maxRecDepth 100000 in
theorem l_law_766 : xlk (xm_cd m_law) 766 = some (.iadd, 1, (0, 0, 0, [])) := rfl
set_option maxRecDepth 100000 in
theorem l_law_767 : xlk (xm_cd m_law) 767 = some (.iaload, 1, (0, 0, 0, [])) := rfl
set_option maxRecDepth 100000 in
theorem l_law_768 : xlk (xm_cd m_law) 768 = some (.invokevirtual 88, 3, (667, 104, 2, [])) := rfl
set_option maxRecDepth 100000 in
theorem l_law_771 : xlk (xm_cd m_law) 771 = some (.aload_n 2, 1, (0, 0, 0, [])) := rfl
set_option maxRecDepth 100000 in
theorem l_law_772 : xlk (xm_cd m_law) 772 = some (.aload_n 0, 1, (0, 0, 0, [])) := rfl
set_option maxRecDepth 100000 in
theorem l_law_773 : xlk (xm_cd m_law) 773 = some (.iload_n 3, 1, (0, 0, 0, [])) := rfl
set_option maxRecDepth 100000 in
theorem l_law_774 : xlk (xm_cd m_law) 774 = some (.iconst 1, 1, (0, 0, 0, [])) := rfl
set_option maxRecDepth 100000 in
theorem l_law_775 : xlk (xm_cd m_law) 775 = some (.iadd, 1, (0, 0, 0, [])) := rfl
set_option maxRecDepth 100000 in
theorem l_law_776 : xlk (xm_cd m_law) 776 = some (.iaload, 1, (0, 0, 0, [])) := rfl
set_option maxRecDepth 100000 in
theorem l_law_777 : xlk (xm_cd m_law) 777 = some (.aload_n 0, 1, (0, 0, 0, [])) := rfl
set_option maxRecDepth 100000 in
theorem l_law_778 : xlk (xm_cd m_law) 778 = some (.iload_n 3, 1, (0, 0, 0, [])) := rfl
set_option maxRecDepth 100000 in
theorem l_law_779 : xlk (xm_cd m_law) 779 = some (.iconst 2, 1, (0, 0, 0, [])) := rfl
set_option maxRecDepth 100000 in
theorem l_law_780 : xlk (xm_cd m_law) 780 = some (.iadd, 1, (0, 0, 0, [])) := rfl
set_option maxRecDepth 100000 in
theorem l_law_781 : xlk (xm_cd m_law) 781 = some (.iaload, 1, (0, 0, 0, [])) := rfl
set_option maxRecDepth 100000 in
theorem l_law_782 : xlk (xm_cd m_law) 782 = some (.invokevirtual 91, 3, (1130, 199, 2, [])) := rfl
set_option maxRecDepth 100000 in
theorem l_law_785 : xlk (xm_cd m_law) 785 = some (.if_icmp .eq 120, 3, (0, 905, 0, [])) := rfl
set_option maxRecDepth 100000 in
theorem l_law_788 : xlk (xm_cd m_law) 788 = some (.iconst 0, 1, (0, 0, 0, [])) := rfl
set_option maxRecDepth 100000 in
theorem l_law_789 : xlk (xm_cd m_law) 789 = some (.ireturn, 1, (0, 0, 0, [])) := rfl
set_option maxRecDepth 100000 in
theorem l_law_790 : xlk (xm_cd m_law) 790 = some (.aload_n 1, 1, (0, 0, 0, [])) := rfl
set_option maxRecDepth 100000 in
theorem l_law_791 : xlk (xm_cd m_law) 791 = some (.aload_n 0, 1, (0, 0, 0, [])) := rfl
set_option maxRecDepth 100000 in
theorem l_law_792 : xlk (xm_cd m_law) 792 = some (.iload_n 3, 1, (0, 0, 0, [])) := rfl
set_option maxRecDepth 100000 in
theorem l_law_793 : xlk (xm_cd m_law) 793 = some (.iconst 1, 1, (0, 0, 0, [])) := rfl
set_option maxRecDepth 100000 in
theorem l_law_794 : xlk (xm_cd m_law) 794 = some (.iadd, 1, (0, 0, 0, [])) := rfl
set_option maxRecDepth 100000 in
theorem l_law_795 : xlk (xm_cd m_law) 795 = some (.iaload, 1, (0, 0, 0, [])) := rfl
set_option maxRecDepth 100000 in
theorem l_law_796 : xlk (xm_cd m_law) 796 = some (.invokevirtual 92, 3, (743, 123, 1, [])) := rfl
set_option maxRecDepth 100000 in
theorem l_law_799 : xlk (xm_cd m_law) 799 = some (.aload_n 2, 1, (0, 0, 0, [])) := rfl
set_option maxRecDepth 100000 in
theorem l_law_800 : xlk (xm_cd m_law) 800 = some (.aload_n 0, 1, (0, 0, 0, [])) := rfl
set_option maxRecDepth 100000 in
theorem l_law_801 : xlk (xm_cd m_law) 801 = some (.iload_n 3, 1, (0, 0, 0, [])) := rfl
set_option maxRecDepth 100000 in
theorem l_law_802 : xlk (xm_cd m_law) 802 = some (.iconst 1, 1, (0, 0, 0, [])) := rfl
set_option maxRecDepth 100000 in
theorem l_law_803 : xlk (xm_cd m_law) 803 = some (.iadd, 1, (0, 0, 0, [])) := rfl
set_option maxRecDepth 100000 in
theorem l_law_804 : xlk (xm_cd m_law) 804 = some (.iaload, 1, (0, 0, 0, [])) := rfl
set_option maxRecDepth 100000 in
theorem l_law_805 : xlk (xm_cd m_law) 805 = some (.invokevirtual 95, 3, (1167, 211, 1, [])) := rfl
set_option maxRecDepth 100000 in
theorem l_law_808 : xlk (xm_cd m_law) 808 = some (.if_icmp .eq 97, 3, (0, 905, 0, [])) := rfl
set_option maxRecDepth 100000 in
theorem l_law_811 : xlk (xm_cd m_law) 811 = some (.iconst 0, 1, (0, 0, 0, [])) := rfl
set_option maxRecDepth 100000 in
theorem l_law_812 : xlk (xm_cd m_law) 812 = some (.ireturn, 1, (0, 0, 0, [])) := rfl
set_option maxRecDepth 100000 in
theorem l_law_813 : xlk (xm_cd m_law) 813 = some (.aload_n 1, 1, (0, 0, 0, [])) := rfl
set_option maxRecDepth 100000 in
theorem l_law_814 : xlk (xm_cd m_law) 814 = some (.aload_n 0, 1, (0, 0, 0, [])) := rfl
set_option maxRecDepth 100000 in
theorem l_law_815 : xlk (xm_cd m_law) 815 = some (.iload_n 3, 1, (0, 0, 0, [])) := rfl
set_option maxRecDepth 100000 in
theorem l_law_816 : xlk (xm_cd m_law) 816 = some (.iconst 1, 1, (0, 0, 0, [])) := rfl
set_option maxRecDepth 100000 in
theorem l_law_817 : xlk (xm_cd m_law) 817 = some (.iadd, 1, (0, 0, 0, [])) := rfl
set_option maxRecDepth 100000 in
theorem l_law_818 : xlk (xm_cd m_law) 818 = some (.iaload, 1, (0, 0, 0, [])) := rfl
set_option maxRecDepth 100000 in
theorem l_law_819 : xlk (xm_cd m_law) 819 = some (.invokevirtual 96, 3, (751, 125, 1, [])) := rfl
set_option maxRecDepth 100000 in
theorem l_law_822 : xlk (xm_cd m_law) 822 = some (.aload_n 2, 1, (0, 0, 0, [])) := rfl
set_option maxRecDepth 100000 in
theorem l_law_823 : xlk (xm_cd m_law) 823 = some (.aload_n 0, 1, (0, 0, 0, [])) := rfl
set_option maxRecDepth 100000 in
theorem l_law_824 : xlk (xm_cd m_law) 824 = some (.iload_n 3, 1, (0, 0, 0, [])) := rfl
set_option maxRecDepth 100000 in
theorem l_law_825 : xlk (xm_cd m_law) 825 = some (.iconst 1, 1, (0, 0, 0, [])) := rfl
set_option maxRecDepth 100000 in
theorem l_law_826 : xlk (xm_cd m_law) 826 = some (.iadd, 1, (0, 0, 0, [])) := rfl
set_option maxRecDepth 100000 in
theorem l_law_827 : xlk (xm_cd m_law) 827 = some (.iaload, 1, (0, 0, 0, [])) := rfl
set_option maxRecDepth 100000 in
theorem l_law_828 : xlk (xm_cd m_law) 828 = some (.invokevirtual 99, 3, (1173, 212, 1, [])) := rfl
set_option maxRecDepth 100000 in
theorem l_law_831 : xlk (xm_cd m_law) 831 = some (.if_icmp .eq 74, 3, (0, 905, 0, [])) := rfl
set_option maxRecDepth 100000 in
theorem l_law_834 : xlk (xm_cd m_law) 834 = some (.iconst 0, 1, (0, 0, 0, [])) := rfl
set_option maxRecDepth 100000 in
theorem l_law_835 : xlk (xm_cd m_law) 835 = some (.ireturn, 1, (0, 0, 0, [])) := rfl
set_option maxRecDepth 100000 in
theorem l_law_836 : xlk (xm_cd m_law) 836 = some (.aload_n 1, 1, (0, 0, 0, [])) := rfl
set_option maxRecDepth 100000 in
theorem l_law_837 : xlk (xm_cd m_law) 837 = some (.invokevirtual 100, 3, (799, 136, 0, [])) := rfl
set_option maxRecDepth 100000 in
theorem l_law_840 : xlk (xm_cd m_law) 840 = some (.aload_n 2, 1, (0, 0, 0, [])) := rfl
set_option maxRecDepth 100000 in
theorem l_law_841 : xlk (xm_cd m_law) 841 = some (.invokevirtual 103, 3, (1189, 217, 0, [])) := rfl
set_option maxRecDepth 100000 in
theorem l_law_844 : xlk (xm_cd m_law) 844 = some (.if_icmp .eq 61, 3, (0, 905, 0, [])) := rfl
set_option maxRecDepth 100000 in
theorem l_law_847 : xlk (xm_cd m_law) 847 = some (.iconst 0, 1, (0, 0, 0, [])) := rfl
set_option maxRecDepth 100000 in
theorem l_law_848 : xlk (xm_cd m_law) 848 = some (.ireturn, 1, (0, 0, 0, [])) := rfl
set_option maxRecDepth 100000 in
theorem l_law_849 : xlk (xm_cd m_law) 849 = some (.aload_n 1, 1, (0, 0, 0, [])) := rfl
set_option maxRecDepth 100000 in
theorem l_law_850 : xlk (xm_cd m_law) 850 = some (.aload_n 0, 1, (0, 0, 0, [])) := rfl
set_option maxRecDepth 100000 in
theorem l_law_851 : xlk (xm_cd m_law) 851 = some (.iload_n 3, 1, (0, 0, 0, [])) := rfl
set_option maxRecDepth 100000 in
theorem l_law_852 : xlk (xm_cd m_law) 852 = some (.iconst 1, 1, (0, 0, 0, [])) := rfl
set_option maxRecDepth 100000 in
theorem l_law_853 : xlk (xm_cd m_law) 853 = some (.iadd, 1, (0, 0, 0, [])) := rfl
set_option maxRecDepth 100000 in
theorem l_law_854 : xlk (xm_cd m_law) 854 = some (.iaload, 1, (0, 0, 0, [])) := rfl
set_option maxRecDepth 100000 in
theorem l_law_855 : xlk (xm_cd m_law) 855 = some (.aload_n 0, 1, (0, 0, 0, [])) := rfl
set_option maxRecDepth 100000 in
theorem l_law_856 : xlk (xm_cd m_law) 856 = some (.iload_n 3, 1, (0, 0, 0, [])) := rfl
set_option maxRecDepth 100000 in
theorem l_law_857 : xlk (xm_cd m_law) 857 = some (.iconst 2, 1, (0, 0, 0, [])) := rfl
set_option maxRecDepth 100000 in
theorem l_law_858 : xlk (xm_cd m_law) 858 = some (.iadd, 1, (0, 0, 0, [])) := rfl
set_option maxRecDepth 100000 in
theorem l_law_859 : xlk (xm_cd m_law) 859 = some (.iaload, 1, (0, 0, 0, [])) := rfl
set_option maxRecDepth 100000 in
theorem l_law_860 : xlk (xm_cd m_law) 860 = some (.invokevirtual 104, 3, (813, 139, 2, [])) := rfl
set_option maxRecDepth 100000 in
theorem l_law_863 : xlk (xm_cd m_law) 863 = some (.aload_n 2, 1, (0, 0, 0, [])) := rfl
set_option maxRecDepth 100000 in
theorem l_law_864 : xlk (xm_cd m_law) 864 = some (.aload_n 0, 1, (0, 0, 0, [])) := rfl
set_option maxRecDepth 100000 in
theorem l_law_865 : xlk (xm_cd m_law) 865 = some (.iload_n 3, 1, (0, 0, 0, [])) := rfl
set_option maxRecDepth 100000 in
theorem l_law_866 : xlk (xm_cd m_law) 866 = some (.iconst 1, 1, (0, 0, 0, [])) := rfl
set_option maxRecDepth 100000 in
theorem l_law_867 : xlk (xm_cd m_law) 867 = some (.iadd, 1, (0, 0, 0, [])) := rfl
set_option maxRecDepth 100000 in
theorem l_law_868 : xlk (xm_cd m_law) 868 = some (.iaload, 1, (0, 0, 0, [])) := rfl
set_option maxRecDepth 100000 in
theorem l_law_869 : xlk (xm_cd m_law) 869 = some (.aload_n 0, 1, (0, 0, 0, [])) := rfl
set_option maxRecDepth 100000 in
theorem l_law_870 : xlk (xm_cd m_law) 870 = some (.iload_n 3, 1, (0, 0, 0, [])) := rfl
set_option maxRecDepth 100000 in
theorem l_law_871 : xlk (xm_cd m_law) 871 = some (.iconst 2, 1, (0, 0, 0, [])) := rfl
set_option maxRecDepth 100000 in
theorem l_law_872 : xlk (xm_cd m_law) 872 = some (.iadd, 1, (0, 0, 0, [])) := rfl
set_option maxRecDepth 100000 in
theorem l_law_873 : xlk (xm_cd m_law) 873 = some (.iaload, 1, (0, 0, 0, [])) := rfl
set_option maxRecDepth 100000 in
theorem l_law_874 : xlk (xm_cd m_law) 874 = some (.invokevirtual 107, 3, (1193, 218, 2, [])) := rfl
set_option maxRecDepth 100000 in
theorem l_law_877 : xlk (xm_cd m_law) 877 = some (.if_icmp .eq 28, 3, (0, 905, 0, [])) := rfl
set_option maxRecDepth 100000 in
theorem l_law_880 : xlk (xm_cd m_law) 880 = some (.iconst 0, 1, (0, 0, 0, [])) := rfl
set_option maxRecDepth 100000 in
theorem l_law_881 : xlk (xm_cd m_law) 881 = some (.ireturn, 1, (0, 0, 0, [])) := rfl
set_option maxRecDepth 100000 in
theorem l_law_882 : xlk (xm_cd m_law) 882 = some (.aload_n 1, 1, (0, 0, 0, [])) := rfl
set_option maxRecDepth 100000 in
theorem l_law_883 : xlk (xm_cd m_law) 883 = some (.aload_n 0, 1, (0, 0, 0, [])) := rfl
set_option maxRecDepth 100000 in
theorem l_law_884 : xlk (xm_cd m_law) 884 = some (.iload_n 3, 1, (0, 0, 0, [])) := rfl
set_option maxRecDepth 100000 in
theorem l_law_885 : xlk (xm_cd m_law) 885 = some (.iconst 1, 1, (0, 0, 0, [])) := rfl
set_option maxRecDepth 100000 in
theorem l_law_886 : xlk (xm_cd m_law) 886 = some (.iadd, 1, (0, 0, 0, [])) := rfl
set_option maxRecDepth 100000 in
theorem l_law_887 : xlk (xm_cd m_law) 887 = some (.iaload, 1, (0, 0, 0, [])) := rfl
set_option maxRecDepth 100000 in
theorem l_law_888 : xlk (xm_cd m_law) 888 = some (.invokevirtual 108, 3, (823, 141, 1, [])) := rfl
set_option maxRecDepth 100000 in
theorem l_law_891 : xlk (xm_cd m_law) 891 = some (.aload_n 2, 1, (0, 0, 0, [])) := rfl
set_option maxRecDepth 100000 in
theorem l_law_892 : xlk (xm_cd m_law) 892 = some (.aload_n 0, 1, (0, 0, 0, [])) := rfl
set_option maxRecDepth 100000 in
theorem l_law_893 : xlk (xm_cd m_law) 893 = some (.iload_n 3, 1, (0, 0, 0, [])) := rfl
set_option maxRecDepth 100000 in
theorem l_law_894 : xlk (xm_cd m_law) 894 = some (.iconst 1, 1, (0, 0, 0, [])) := rfl
set_option maxRecDepth 100000 in
theorem l_law_895 : xlk (xm_cd m_law) 895 = some (.iadd, 1, (0, 0, 0, [])) := rfl
set_option maxRecDepth 100000 in
theorem l_law_896 : xlk (xm_cd m_law) 896 = some (.iaload, 1, (0, 0, 0, [])) := rfl
set_option maxRecDepth 100000 in
theorem l_law_897 : xlk (xm_cd m_law) 897 = some (.invokevirtual 111, 3, (1199, 219, 1, [])) := rfl
set_option maxRecDepth 100000 in
theorem l_law_900 : xlk (xm_cd m_law) 900 = some (.if_icmp .eq 5, 3, (0, 905, 0, [])) := rfl
set_option maxRecDepth 100000 in
theorem l_law_903 : xlk (xm_cd m_law) 903 = some (.iconst 0, 1, (0, 0, 0, [])) := rfl
set_option maxRecDepth 100000 in
theorem l_law_904 : xlk (xm_cd m_law) 904 = some (.ireturn, 1, (0, 0, 0, [])) := rfl
set_option maxRecDepth 100000 in
theorem l_law_905 : xlk (xm_cd m_law) 905 = some (.iinc 3 6, 3, (0, 0, 0, [])) := rfl
set_option maxRecDepth 100000 in
theorem l_law_908 : xlk (xm_cd m_law) 908 = some (.goto (-890), 3, (0, 18, 0, [])) := rfl
set_option maxRecDepth 100000 in
theorem l_law_911 : xlk (xm_cd m_law) 911 = some (.iconst 1, 1, (0, 0, 0, [])) := rfl
set_option maxRecDepth 100000 in
theorem l_law_912 : xlk (xm_cd m_law) 912 = some (.ireturn, 1, (0, 0, 0, [])) := rfl
def B_law_0 (d : Nat) (E : Option Value → xH → Prop) (f : xH) (L : Nat) (xs : Nat → Int32) (a0 : Nat) : Prop :=
  (1 ≤ 600000 ∧ 9 ≤ 7302250) ∧ xnw f (xO 0 [.null, .null, .null, .null, .null, .null, .null, .int 0, .int 0]) (fun q1 f2 => (2500 ≤ 600000 ∧ 80728 ≤ 7302250) ∧ xSp xT0 d j_PC_init [.ref q1] f2 (fun w3 f4 => xvv w3 ((2501 ≤ 600000 ∧ 80776 ≤ 7302250) ∧ xnw f4 (xO 11 [.int 0, .null, .int 0, .null, .int 0, .null, .null, .null, .null, .null, .int 0, .null, .null, .null, .null, .null, .null, .null, .null, .null, .null, .null, .null, .int 0, .null, .null, .null, .null, .null, .int 0, .int 0, .null, .null, .null, .int 0, .null, .null, .null, .null, .null, .null, .null, .null, .int 0, .int 0, .int 0, .int 0, .null]) (fun q5 f6 => (2561 ≤ 600000 ∧ 140776 ≤ 7302250) ∧ xSp xT0 d j_Mo_init [.ref q5] f6 (fun w7 f8 => xvv w7 (xWp (xT0, xSp xT0 d, some (a0, L, xs), m_law, E) 18 [some (.ref a0), some (.ref q1), some (.ref q5), some (.int 0)] [] f8 2561 140776))))))
theorem b_law_0 {d : Nat} {E : Option Value → xH → Prop} {f : xH} {L : Nat} {xs : Nat → Int32} {a0 : Nat} (h : B_law_0 d E f L xs a0) : xWp (xT0, xSp xT0 d, some (a0, L, xs), m_law, E) 0 [some (.ref a0), none, none, none] [] f 0 0 := by
  unfold B_law_0 at h
  refine s_new 9 l_law_0 rfl rfl h.1.1 h.1.2 h.2 (fun q1 f2 h => ?_)
  refine s_dup l_law_3 rfl ?_
  refine s_csp (As := []) (r := [.ref q1]) (mc := 2499) (ms := 80719) l_law_4 rfl ⟨rfl, rfl⟩ rfl (Nat.le_of_ble_eq_true rfl) rfl h.1.1 h.1.2 h.2 (fun f4 h => ?_)
  refine s_asn l_law_7 (Nat.le_of_ble_eq_true rfl) ?_
  refine s_new 48 l_law_8 rfl rfl h.1.1 h.1.2 h.2 (fun q5 f6 h => ?_)
  refine s_dup l_law_11 rfl ?_
  refine s_csp (As := []) (r := [.ref q5]) (mc := 60) (ms := 60000) l_law_12 rfl ⟨rfl, rfl⟩ rfl (Nat.le_of_ble_eq_true rfl) rfl h.1.1 h.1.2 h.2 (fun f8 h => ?_)
  refine s_asn l_law_15 (Nat.le_of_ble_eq_true rfl) ?_
  refine s_ic 0 l_law_16 rfl ?_
  refine s_isn l_law_17 (Nat.le_of_ble_eq_true rfl) ?_
  exact h
def B_law_18 (d : Nat) (E : Option Value → xH → Prop) (f : xH) (L : Nat) (xs : Nat → Int32) (cu su : Nat) (a0 : Nat) (a1 : Nat) (a2 : Nat) (x3 : Int32) : Prop :=
  xbr (((Int32.ofNat L) - 6) < x3) (E (some (.int 1)) f) (xsl L xs x3 (fun v1 => xbr ((v1 &&& 31) = 0) (xsl L xs (x3 + 1) (fun v2 => xsl L xs (x3 + 2) (fun v3 => xsl L xs (x3 + 3) (fun v4 => xsl L xs (x3 + 4) (fun v5 => xsl L xs (x3 + 5) (fun v6 => (∃ fs, f a1 = some (xO 0 fs)) ∧ xSp xT0 d j_PC_feed [.ref a1, .int v2, .int v3, .int v4, .int v5, .int v6] f (fun w7 f8 => xvi w7 (fun v9 => xsl L xs (x3 + 1) (fun v10 => xsl L xs (x3 + 2) (fun v11 => xsl L xs (x3 + 3) (fun v12 => xsl L xs (x3 + 4) (fun v13 => xsl L xs (x3 + 5) (fun v14 => (∃ fs, f8 a2 = some (xO 11 fs)) ∧ xSp xT0 d j_Mo_feed [.ref a2, .int v10, .int v11, .int v12, .int v13, .int v14] f8 (fun w15 f16 => xvi w15 (fun v17 => xbr (v9 = v17) (xWp (xT0, xSp xT0 d, some (a0, L, xs), m_law, E) 18 [some (.ref a0), some (.ref a1), some (.ref a2), some (.int (x3 + 6))] [] f16 cu su) (E (some (.int 0)) f16)))))))))))))))) (xbr ((v1 &&& 31) = 1) (xsl L xs (x3 + 1) (fun v18 => (∃ fs, f a1 = some (xO 0 fs)) ∧ xSp xT0 d j_PC_end [.ref a1, .int v18] f (fun w19 f20 => xvi w19 (fun v21 => xsl L xs (x3 + 1) (fun v22 => (∃ fs, f20 a2 = some (xO 11 fs)) ∧ xSp xT0 d j_Mo_end [.ref a2, .int v22] f20 (fun w23 f24 => xvi w23 (fun v25 => xbr (v21 = v25) (xWp (xT0, xSp xT0 d, some (a0, L, xs), m_law, E) 18 [some (.ref a0), some (.ref a1), some (.ref a2), some (.int (x3 + 6))] [] f24 cu su) (E (some (.int 0)) f24)))))))) (xbr ((v1 &&& 31) = 2) ((∃ fs, f a1 = some (xO 0 fs)) ∧ xSp xT0 d j_PC_path [.ref a1] f (fun w26 f27 => xvi w26 (fun v28 => (∃ fs, f27 a2 = some (xO 11 fs)) ∧ xSp xT0 d j_Mo_path [.ref a2] f27 (fun w29 f30 => xvi w29 (fun v31 => xbr (v28 = v31) (xWp (xT0, xSp xT0 d, some (a0, L, xs), m_law, E) 18 [some (.ref a0), some (.ref a1), some (.ref a2), some (.int (x3 + 6))] [] f30 cu su) (E (some (.int 0)) f30)))))) (xbr ((v1 &&& 31) = 3) (xsl L xs (x3 + 1) (fun v32 => (∃ fs, f a1 = some (xO 0 fs)) ∧ xSp xT0 d j_PC_tree [.ref a1, .int v32] f (fun w33 f34 => xvi w33 (fun v35 => xsl L xs (x3 + 1) (fun v36 => (∃ fs, f34 a2 = some (xO 11 fs)) ∧ xSp xT0 d j_Mo_tree [.ref a2, .int v36] f34 (fun w37 f38 => xvi w37 (fun v39 => xbr (v35 = v39) (xWp (xT0, xSp xT0 d, some (a0, L, xs), m_law, E) 18 [some (.ref a0), some (.ref a1), some (.ref a2), some (.int (x3 + 6))] [] f38 cu su) (E (some (.int 0)) f38)))))))) (xbr ((v1 &&& 31) = 4) (xsl L xs (x3 + 1) (fun v40 => (∃ fs, f a1 = some (xO 0 fs)) ∧ xSp xT0 d j_PC_put [.ref a1, .int v40] f (fun w41 f42 => xvi w41 (fun v43 => xsl L xs (x3 + 1) (fun v44 => (∃ fs, f42 a2 = some (xO 11 fs)) ∧ xSp xT0 d j_Mo_put [.ref a2, .int v44] f42 (fun w45 f46 => xvi w45 (fun v47 => xbr (v43 = v47) (xWp (xT0, xSp xT0 d, some (a0, L, xs), m_law, E) 18 [some (.ref a0), some (.ref a1), some (.ref a2), some (.int (x3 + 6))] [] f46 cu su) (E (some (.int 0)) f46)))))))) (xbr ((v1 &&& 31) = 5) (xsl L xs (x3 + 1) (fun v48 => (∃ fs, f a1 = some (xO 0 fs)) ∧ xSp xT0 d j_PC_drop [.ref a1, .int v48] f (fun w49 f50 => xvi w49 (fun v51 => xsl L xs (x3 + 1) (fun v52 => (∃ fs, f50 a2 = some (xO 11 fs)) ∧ xSp xT0 d j_Mo_drop [.ref a2, .int v52] f50 (fun w53 f54 => xvi w53 (fun v55 => xbr (v51 = v55) (xWp (xT0, xSp xT0 d, some (a0, L, xs), m_law, E) 18 [some (.ref a0), some (.ref a1), some (.ref a2), some (.int (x3 + 6))] [] f54 cu su) (E (some (.int 0)) f54)))))))) (xbr ((v1 &&& 31) = 6) (xsl L xs (x3 + 1) (fun v56 => xsl L xs (x3 + 2) (fun v57 => xsl L xs (x3 + 3) (fun v58 => (∃ fs, f a1 = some (xO 0 fs)) ∧ xSp xT0 d j_PC_file [.ref a1, .int v56, .int v57, .int v58] f (fun w59 f60 => xvi w59 (fun v61 => xsl L xs (x3 + 1) (fun v62 => xsl L xs (x3 + 2) (fun v63 => xsl L xs (x3 + 3) (fun v64 => (∃ fs, f60 a2 = some (xO 11 fs)) ∧ xSp xT0 d j_Mo_file [.ref a2, .int v62, .int v63, .int v64] f60 (fun w65 f66 => xvi w65 (fun v67 => xbr (v61 = v67) (xWp (xT0, xSp xT0 d, some (a0, L, xs), m_law, E) 18 [some (.ref a0), some (.ref a1), some (.ref a2), some (.int (x3 + 6))] [] f66 cu su) (E (some (.int 0)) f66)))))))))))) (xbr ((v1 &&& 31) = 7) (xsl L xs (x3 + 1) (fun v68 => xsl L xs (x3 + 2) (fun v69 => xsl L xs (x3 + 3) (fun v70 => xsl L xs (x3 + 4) (fun v71 => (∃ fs, f a1 = some (xO 0 fs)) ∧ xSp xT0 d j_PC_byteOf [.ref a1, .int v68, .int v69, .int v70, .int v71] f (fun w72 f73 => xvi w72 (fun v74 => xsl L xs (x3 + 1) (fun v75 => xsl L xs (x3 + 2) (fun v76 => xsl L xs (x3 + 3) (fun v77 => xsl L xs (x3 + 4) (fun v78 => (∃ fs, f73 a2 = some (xO 11 fs)) ∧ xSp xT0 d j_Mo_byteOf [.ref a2, .int v75, .int v76, .int v77, .int v78] f73 (fun w79 f80 => xvi w79 (fun v81 => xbr (v74 = v81) (xWp (xT0, xSp xT0 d, some (a0, L, xs), m_law, E) 18 [some (.ref a0), some (.ref a1), some (.ref a2), some (.int (x3 + 6))] [] f80 cu su) (E (some (.int 0)) f80)))))))))))))) (xbr ((v1 &&& 31) = 8) (xsl L xs (x3 + 1) (fun v82 => xsl L xs (x3 + 2) (fun v83 => (∃ fs, f a1 = some (xO 0 fs)) ∧ xSp xT0 d j_PC_same [.ref a1, .int v82, .int v83] f (fun w84 f85 => xvi w84 (fun v86 => xsl L xs (x3 + 1) (fun v87 => xsl L xs (x3 + 2) (fun v88 => (∃ fs, f85 a2 = some (xO 11 fs)) ∧ xSp xT0 d j_Mo_same [.ref a2, .int v87, .int v88] f85 (fun w89 f90 => xvi w89 (fun v91 => xbr (v86 = v91) (xWp (xT0, xSp xT0 d, some (a0, L, xs), m_law, E) 18 [some (.ref a0), some (.ref a1), some (.ref a2), some (.int (x3 + 6))] [] f90 cu su) (E (some (.int 0)) f90)))))))))) (xbr ((v1 &&& 31) = 9) ((∃ fs, f a1 = some (xO 0 fs)) ∧ xSp xT0 d j_PC_clear [.ref a1] f (fun w92 f93 => xvi w92 (fun v94 => (∃ fs, f93 a2 = some (xO 11 fs)) ∧ xSp xT0 d j_Mo_clear [.ref a2] f93 (fun w95 f96 => xvi w95 (fun v97 => xbr (v94 = v97) (xWp (xT0, xSp xT0 d, some (a0, L, xs), m_law, E) 18 [some (.ref a0), some (.ref a1), some (.ref a2), some (.int (x3 + 6))] [] f96 cu su) (E (some (.int 0)) f96)))))) (xbr ((v1 &&& 31) = 10) (xsl L xs (x3 + 1) (fun v98 => xsl L xs (x3 + 2) (fun v99 => (∃ fs, f a1 = some (xO 0 fs)) ∧ xSp xT0 d j_PC_patch [.ref a1, .int v98, .int v99] f (fun w100 f101 => xvi w100 (fun v102 => xsl L xs (x3 + 1) (fun v103 => xsl L xs (x3 + 2) (fun v104 => (∃ fs, f101 a2 = some (xO 11 fs)) ∧ xSp xT0 d j_Mo_patch [.ref a2, .int v103, .int v104] f101 (fun w105 f106 => xvi w105 (fun v107 => xbr (v102 = v107) (xWp (xT0, xSp xT0 d, some (a0, L, xs), m_law, E) 18 [some (.ref a0), some (.ref a1), some (.ref a2), some (.int (x3 + 6))] [] f106 cu su) (E (some (.int 0)) f106)))))))))) (xbr ((v1 &&& 31) = 11) (xsl L xs (x3 + 1) (fun v108 => xsl L xs (x3 + 2) (fun v109 => xsl L xs (x3 + 3) (fun v110 => (∃ fs, f a1 = some (xO 0 fs)) ∧ xSp xT0 d j_PC_step [.ref a1, .int v108, .int v109, .int v110] f (fun w111 f112 => xvi w111 (fun v113 => xsl L xs (x3 + 1) (fun v114 => xsl L xs (x3 + 2) (fun v115 => xsl L xs (x3 + 3) (fun v116 => (∃ fs, f112 a2 = some (xO 11 fs)) ∧ xSp xT0 d j_Mo_step [.ref a2, .int v114, .int v115, .int v116] f112 (fun w117 f118 => xvi w117 (fun v119 => xbr (v113 = v119) (xWp (xT0, xSp xT0 d, some (a0, L, xs), m_law, E) 18 [some (.ref a0), some (.ref a1), some (.ref a2), some (.int (x3 + 6))] [] f118 cu su) (E (some (.int 0)) f118)))))))))))) (xbr ((v1 &&& 31) = 12) (xsl L xs (x3 + 1) (fun v120 => xsl L xs (x3 + 2) (fun v121 => xsl L xs (x3 + 3) (fun v122 => xsl L xs (x3 + 4) (fun v123 => (∃ fs, f a1 = some (xO 0 fs)) ∧ xSp xT0 d j_PC_stepByte [.ref a1, .int v120, .int v121, .int v122, .int v123] f (fun w124 f125 => xvi w124 (fun v126 => xsl L xs (x3 + 1) (fun v127 => xsl L xs (x3 + 2) (fun v128 => xsl L xs (x3 + 3) (fun v129 => xsl L xs (x3 + 4) (fun v130 => (∃ fs, f125 a2 = some (xO 11 fs)) ∧ xSp xT0 d j_Mo_stepByte [.ref a2, .int v127, .int v128, .int v129, .int v130] f125 (fun w131 f132 => xvi w131 (fun v133 => xbr (v126 = v133) (xWp (xT0, xSp xT0 d, some (a0, L, xs), m_law, E) 18 [some (.ref a0), some (.ref a1), some (.ref a2), some (.int (x3 + 6))] [] f132 cu su) (E (some (.int 0)) f132)))))))))))))) (xbr ((v1 &&& 31) = 13) (xsl L xs (x3 + 1) (fun v134 => xsl L xs (x3 + 2) (fun v135 => xsl L xs (x3 + 3) (fun v136 => xsl L xs (x3 + 4) (fun v137 => xsl L xs (x3 + 5) (fun v138 => (∃ fs, f a1 = some (xO 0 fs)) ∧ xSp xT0 d j_PC_piece [.ref a1, .int v134, .int v135, .int v136, .int v137, .int v138] f (fun w139 f140 => xvi w139 (fun v141 => xsl L xs (x3 + 1) (fun v142 => xsl L xs (x3 + 2) (fun v143 => xsl L xs (x3 + 3) (fun v144 => xsl L xs (x3 + 4) (fun v145 => xsl L xs (x3 + 5) (fun v146 => (∃ fs, f140 a2 = some (xO 11 fs)) ∧ xSp xT0 d j_Mo_piece [.ref a2, .int v142, .int v143, .int v144, .int v145, .int v146] f140 (fun w147 f148 => xvi w147 (fun v149 => xbr (v141 = v149) (xWp (xT0, xSp xT0 d, some (a0, L, xs), m_law, E) 18 [some (.ref a0), some (.ref a1), some (.ref a2), some (.int (x3 + 6))] [] f148 cu su) (E (some (.int 0)) f148)))))))))))))))) (xbr ((v1 &&& 31) = 14) (xsl L xs (x3 + 1) (fun v150 => xsl L xs (x3 + 2) (fun v151 => xsl L xs (x3 + 3) (fun v152 => xbr (v152 = 0) (xWp (xT0, xSp xT0 d, some (a0, L, xs), m_law, E) 666 [some (.ref a0), some (.ref a1), some (.ref a2), some (.int x3)] [.int 0, .int v151, .int v150, .ref a1] f cu su) (xWp (xT0, xSp xT0 d, some (a0, L, xs), m_law, E) 666 [some (.ref a0), some (.ref a1), some (.ref a2), some (.int x3)] [.int 1, .int v151, .int v150, .ref a1] f cu su))))) (xbr ((v1 &&& 31) = 15) (xsl L xs (x3 + 1) (fun v153 => xsl L xs (x3 + 2) (fun v154 => (∃ fs, f a1 = some (xO 0 fs)) ∧ xSp xT0 d j_PC_conflict [.ref a1, .int v153, .int v154] f (fun w155 f156 => xvi w155 (fun v157 => xsl L xs (x3 + 1) (fun v158 => xsl L xs (x3 + 2) (fun v159 => (∃ fs, f156 a2 = some (xO 11 fs)) ∧ xSp xT0 d j_Mo_conflict [.ref a2, .int v158, .int v159] f156 (fun w160 f161 => xvi w160 (fun v162 => xbr (v157 = v162) (xWp (xT0, xSp xT0 d, some (a0, L, xs), m_law, E) 18 [some (.ref a0), some (.ref a1), some (.ref a2), some (.int (x3 + 6))] [] f161 cu su) (E (some (.int 0)) f161)))))))))) (xbr ((v1 &&& 31) = 16) (xsl L xs (x3 + 1) (fun v163 => (∃ fs, f a1 = some (xO 0 fs)) ∧ xSp xT0 d j_PC_inverse [.ref a1, .int v163] f (fun w164 f165 => xvi w164 (fun v166 => xsl L xs (x3 + 1) (fun v167 => (∃ fs, f165 a2 = some (xO 11 fs)) ∧ xSp xT0 d j_Mo_inverse [.ref a2, .int v167] f165 (fun w168 f169 => xvi w168 (fun v170 => xbr (v166 = v170) (xWp (xT0, xSp xT0 d, some (a0, L, xs), m_law, E) 18 [some (.ref a0), some (.ref a1), some (.ref a2), some (.int (x3 + 6))] [] f169 cu su) (E (some (.int 0)) f169)))))))) (xbr ((v1 &&& 31) = 17) (xsl L xs (x3 + 1) (fun v171 => xsl L xs (x3 + 2) (fun v172 => (∃ fs, f a1 = some (xO 0 fs)) ∧ xSp xT0 d j_PC_chain [.ref a1, .int v171, .int v172] f (fun w173 f174 => xvi w173 (fun v175 => xsl L xs (x3 + 1) (fun v176 => xsl L xs (x3 + 2) (fun v177 => (∃ fs, f174 a2 = some (xO 11 fs)) ∧ xSp xT0 d j_Mo_chain [.ref a2, .int v176, .int v177] f174 (fun w178 f179 => xvi w178 (fun v180 => xbr (v175 = v180) (xWp (xT0, xSp xT0 d, some (a0, L, xs), m_law, E) 18 [some (.ref a0), some (.ref a1), some (.ref a2), some (.int (x3 + 6))] [] f179 cu su) (E (some (.int 0)) f179)))))))))) (xbr ((v1 &&& 31) = 18) (xsl L xs (x3 + 1) (fun v181 => (∃ fs, f a1 = some (xO 0 fs)) ∧ xSp xT0 d j_PC_power [.ref a1, .int v181] f (fun w182 f183 => xvi w182 (fun v184 => xsl L xs (x3 + 1) (fun v185 => (∃ fs, f183 a2 = some (xO 11 fs)) ∧ xSp xT0 d j_Mo_power [.ref a2, .int v185] f183 (fun w186 f187 => xvi w186 (fun v188 => xbr (v184 = v188) (xWp (xT0, xSp xT0 d, some (a0, L, xs), m_law, E) 18 [some (.ref a0), some (.ref a1), some (.ref a2), some (.int (x3 + 6))] [] f187 cu su) (E (some (.int 0)) f187)))))))) (xbr ((v1 &&& 31) = 19) (xsl L xs (x3 + 1) (fun v189 => (∃ fs, f a1 = some (xO 0 fs)) ∧ xSp xT0 d j_PC_install [.ref a1, .int v189] f (fun w190 f191 => xvi w190 (fun v192 => xsl L xs (x3 + 1) (fun v193 => (∃ fs, f191 a2 = some (xO 11 fs)) ∧ xSp xT0 d j_Mo_install [.ref a2, .int v193] f191 (fun w194 f195 => xvi w194 (fun v196 => xbr (v192 = v196) (xWp (xT0, xSp xT0 d, some (a0, L, xs), m_law, E) 18 [some (.ref a0), some (.ref a1), some (.ref a2), some (.int (x3 + 6))] [] f195 cu su) (E (some (.int 0)) f195)))))))) (xbr ((v1 &&& 31) = 20) ((∃ fs, f a1 = some (xO 0 fs)) ∧ xSp xT0 d j_PC_open [.ref a1] f (fun w197 f198 => xvi w197 (fun v199 => (∃ fs, f198 a2 = some (xO 11 fs)) ∧ xSp xT0 d j_Mo_open [.ref a2] f198 (fun w200 f201 => xvi w200 (fun v202 => xbr (v199 = v202) (xWp (xT0, xSp xT0 d, some (a0, L, xs), m_law, E) 18 [some (.ref a0), some (.ref a1), some (.ref a2), some (.int (x3 + 6))] [] f201 cu su) (E (some (.int 0)) f201)))))) (xbr ((v1 &&& 31) = 21) (xsl L xs (x3 + 1) (fun v203 => xsl L xs (x3 + 2) (fun v204 => (∃ fs, f a1 = some (xO 0 fs)) ∧ xSp xT0 d j_PC_slot [.ref a1, .int v203, .int v204] f (fun w205 f206 => xvi w205 (fun v207 => xsl L xs (x3 + 1) (fun v208 => xsl L xs (x3 + 2) (fun v209 => (∃ fs, f206 a2 = some (xO 11 fs)) ∧ xSp xT0 d j_Mo_slot [.ref a2, .int v208, .int v209] f206 (fun w210 f211 => xvi w210 (fun v212 => xbr (v207 = v212) (xWp (xT0, xSp xT0 d, some (a0, L, xs), m_law, E) 18 [some (.ref a0), some (.ref a1), some (.ref a2), some (.int (x3 + 6))] [] f211 cu su) (E (some (.int 0)) f211)))))))))) (xbr ((v1 &&& 31) = 22) (xsl L xs (x3 + 1) (fun v213 => (∃ fs, f a1 = some (xO 0 fs)) ∧ xSp xT0 d j_PC_count [.ref a1, .int v213] f (fun w214 f215 => xvi w214 (fun v216 => xsl L xs (x3 + 1) (fun v217 => (∃ fs, f215 a2 = some (xO 11 fs)) ∧ xSp xT0 d j_Mo_count [.ref a2, .int v217] f215 (fun w218 f219 => xvi w218 (fun v220 => xbr (v216 = v220) (xWp (xT0, xSp xT0 d, some (a0, L, xs), m_law, E) 18 [some (.ref a0), some (.ref a1), some (.ref a2), some (.int (x3 + 6))] [] f219 cu su) (E (some (.int 0)) f219)))))))) (xWp (xT0, xSp xT0 d, some (a0, L, xs), m_law, E) 18 [some (.ref a0), some (.ref a1), some (.ref a2), some (.int (x3 + 6))] [] f cu su)))))))))))))))))))))))))
theorem b_law_18 {d : Nat} {E : Option Value → xH → Prop} {f : xH} {L : Nat} {xs : Nat → Int32} {cu su : Nat} {a0 : Nat} {a1 : Nat} {a2 : Nat} {x3 : Int32} (hf : cu ≤ 600000 ∧ su ≤ 7302250) (h : B_law_18 d E f L xs cu su a0 a1 a2 x3) : xWp (xT0, xSp xT0 d, some (a0, L, xs), m_law, E) 18 [some (.ref a0), some (.ref a1), some (.ref a2), some (.int x3)] [] f cu su := by
  unfold B_law_18 at h
  refine s_iln l_law_18 rfl ?_
  refine s_aln l_law_19 rfl ?_
  refine s_lsc l_law_20 rfl ?_
  refine s_bp 6 l_law_21 rfl ?_
  refine s_isub l_law_23 ?_
  refine s_ifc l_law_24 h (fun h => ?_) (fun h => ?_)
  · refine s_ic 1 l_law_911 rfl ?_
    exact s_zret l_law_912 rfl hf ⟨Or.inr rfl, h⟩
  · refine s_aln l_law_27 rfl ?_
    refine s_iln l_law_28 rfl ?_
    refine s_isc l_law_29 h (fun v1 h => ?_)
    refine s_bp 31 l_law_30 rfl ?_
    refine s_iand l_law_32 ?_
    refine s_ts l_law_33 ⟨fun q0 => ?_, fun n0 => ⟨fun q1 => ?_, fun n1 => ⟨fun q2 => ?_, fun n2 => ⟨fun q3 => ?_, fun n3 => ⟨fun q4 => ?_, fun n4 => ⟨fun q5 => ?_, fun n5 => ⟨fun q6 => ?_, fun n6 => ⟨fun q7 => ?_, fun n7 => ⟨fun q8 => ?_, fun n8 => ⟨fun q9 => ?_, fun n9 => ⟨fun q10 => ?_, fun n10 => ⟨fun q11 => ?_, fun n11 => ⟨fun q12 => ?_, fun n12 => ⟨fun q13 => ?_, fun n13 => ⟨fun q14 => ?_, fun n14 => ⟨fun q15 => ?_, fun n15 => ⟨fun q16 => ?_, fun n16 => ⟨fun q17 => ?_, fun n17 => ⟨fun q18 => ?_, fun n18 => ⟨fun q19 => ?_, fun n19 => ⟨fun q20 => ?_, fun n20 => ⟨fun q21 => ?_, fun n21 => ⟨fun q22 => ?_, fun n22 => ?_⟩⟩⟩⟩⟩⟩⟩⟩⟩⟩⟩⟩⟩⟩⟩⟩⟩⟩⟩⟩⟩⟩⟩
    · have h := (h).1 q0
      refine s_aln l_law_140 rfl ?_
      refine s_aln l_law_141 rfl ?_
      refine s_iln l_law_142 rfl ?_
      refine s_ic 1 l_law_143 rfl ?_
      refine s_iadd l_law_144 ?_
      refine s_isc l_law_145 h (fun v2 h => ?_)
      refine s_aln l_law_146 rfl ?_
      refine s_iln l_law_147 rfl ?_
      refine s_ic 2 l_law_148 rfl ?_
      refine s_iadd l_law_149 ?_
      refine s_isc l_law_150 h (fun v3 h => ?_)
      refine s_aln l_law_151 rfl ?_
      refine s_iln l_law_152 rfl ?_
      refine s_ic 3 l_law_153 rfl ?_
      refine s_iadd l_law_154 ?_
      refine s_isc l_law_155 h (fun v4 h => ?_)
      refine s_aln l_law_156 rfl ?_
      refine s_iln l_law_157 rfl ?_
      refine s_ic 4 l_law_158 rfl ?_
      refine s_iadd l_law_159 ?_
      refine s_isc l_law_160 h (fun v5 h => ?_)
      refine s_aln l_law_161 rfl ?_
      refine s_iln l_law_162 rfl ?_
      refine s_ic 5 l_law_163 rfl ?_
      refine s_iadd l_law_164 ?_
      refine s_isc l_law_165 h (fun v6 h => ?_)
      refine s_cvi (As := [.int v2, .int v3, .int v4, .int v5, .int v6]) (r := []) l_law_166 rfl ⟨rfl, rfl⟩ rfl (Nat.le_of_ble_eq_true rfl) rfl hf h (fun v9 f8 h => ?_)
      refine s_aln l_law_169 rfl ?_
      refine s_aln l_law_170 rfl ?_
      refine s_iln l_law_171 rfl ?_
      refine s_ic 1 l_law_172 rfl ?_
      refine s_iadd l_law_173 ?_
      refine s_isc l_law_174 h (fun v10 h => ?_)
      refine s_aln l_law_175 rfl ?_
      refine s_iln l_law_176 rfl ?_
      refine s_ic 2 l_law_177 rfl ?_
      refine s_iadd l_law_178 ?_
      refine s_isc l_law_179 h (fun v11 h => ?_)
      refine s_aln l_law_180 rfl ?_
      refine s_iln l_law_181 rfl ?_
      refine s_ic 3 l_law_182 rfl ?_
      refine s_iadd l_law_183 ?_
      refine s_isc l_law_184 h (fun v12 h => ?_)
      refine s_aln l_law_185 rfl ?_
      refine s_iln l_law_186 rfl ?_
      refine s_ic 4 l_law_187 rfl ?_
      refine s_iadd l_law_188 ?_
      refine s_isc l_law_189 h (fun v13 h => ?_)
      refine s_aln l_law_190 rfl ?_
      refine s_iln l_law_191 rfl ?_
      refine s_ic 5 l_law_192 rfl ?_
      refine s_iadd l_law_193 ?_
      refine s_isc l_law_194 h (fun v14 h => ?_)
      refine s_cvi (As := [.int v10, .int v11, .int v12, .int v13, .int v14]) (r := [.int v9]) l_law_195 rfl ⟨rfl, rfl⟩ rfl (Nat.le_of_ble_eq_true rfl) rfl hf h (fun v17 f16 h => ?_)
      refine s_ifc l_law_198 h (fun h => ?_) (fun h => ?_)
      · refine s_inc 6 l_law_905 rfl rfl ?_
        refine s_goto l_law_908 ?_
        exact h
      · refine s_ic 0 l_law_201 rfl ?_
        exact s_zret l_law_202 rfl hf ⟨Or.inl rfl, h⟩
    · have h := ((h).2 n0).1 q1
      refine s_aln l_law_203 rfl ?_
      refine s_aln l_law_204 rfl ?_
      refine s_iln l_law_205 rfl ?_
      refine s_ic 1 l_law_206 rfl ?_
      refine s_iadd l_law_207 ?_
      refine s_isc l_law_208 h (fun v18 h => ?_)
      refine s_cvi (As := [.int v18]) (r := []) l_law_209 rfl ⟨rfl, rfl⟩ rfl (Nat.le_of_ble_eq_true rfl) rfl hf h (fun v21 f20 h => ?_)
      refine s_aln l_law_212 rfl ?_
      refine s_aln l_law_213 rfl ?_
      refine s_iln l_law_214 rfl ?_
      refine s_ic 1 l_law_215 rfl ?_
      refine s_iadd l_law_216 ?_
      refine s_isc l_law_217 h (fun v22 h => ?_)
      refine s_cvi (As := [.int v22]) (r := [.int v21]) l_law_218 rfl ⟨rfl, rfl⟩ rfl (Nat.le_of_ble_eq_true rfl) rfl hf h (fun v25 f24 h => ?_)
      refine s_ifc l_law_221 h (fun h => ?_) (fun h => ?_)
      · refine s_inc 6 l_law_905 rfl rfl ?_
        refine s_goto l_law_908 ?_
        exact h
      · refine s_ic 0 l_law_224 rfl ?_
        exact s_zret l_law_225 rfl hf ⟨Or.inl rfl, h⟩
    · have h := (((h).2 n0).2 n1).1 q2
      refine s_aln l_law_226 rfl ?_
      refine s_cvi (As := []) (r := []) l_law_227 rfl ⟨rfl, rfl⟩ rfl (Nat.le_of_ble_eq_true rfl) rfl hf h (fun v28 f27 h => ?_)
      refine s_aln l_law_230 rfl ?_
      refine s_cvi (As := []) (r := [.int v28]) l_law_231 rfl ⟨rfl, rfl⟩ rfl (Nat.le_of_ble_eq_true rfl) rfl hf h (fun v31 f30 h => ?_)
      refine s_ifc l_law_234 h (fun h => ?_) (fun h => ?_)
      · refine s_inc 6 l_law_905 rfl rfl ?_
        refine s_goto l_law_908 ?_
        exact h
      · refine s_ic 0 l_law_237 rfl ?_
        exact s_zret l_law_238 rfl hf ⟨Or.inl rfl, h⟩
    · have h := ((((h).2 n0).2 n1).2 n2).1 q3
      refine s_aln l_law_239 rfl ?_
      refine s_aln l_law_240 rfl ?_
      refine s_iln l_law_241 rfl ?_
      refine s_ic 1 l_law_242 rfl ?_
      refine s_iadd l_law_243 ?_
      refine s_isc l_law_244 h (fun v32 h => ?_)
      refine s_cvi (As := [.int v32]) (r := []) l_law_245 rfl ⟨rfl, rfl⟩ rfl (Nat.le_of_ble_eq_true rfl) rfl hf h (fun v35 f34 h => ?_)
      refine s_aln l_law_248 rfl ?_
      refine s_aln l_law_249 rfl ?_
      refine s_iln l_law_250 rfl ?_
      refine s_ic 1 l_law_251 rfl ?_
      refine s_iadd l_law_252 ?_
      refine s_isc l_law_253 h (fun v36 h => ?_)
      refine s_cvi (As := [.int v36]) (r := [.int v35]) l_law_254 rfl ⟨rfl, rfl⟩ rfl (Nat.le_of_ble_eq_true rfl) rfl hf h (fun v39 f38 h => ?_)
      refine s_ifc l_law_257 h (fun h => ?_) (fun h => ?_)
      · refine s_inc 6 l_law_905 rfl rfl ?_
        refine s_goto l_law_908 ?_
        exact h
      · refine s_ic 0 l_law_260 rfl ?_
        exact s_zret l_law_261 rfl hf ⟨Or.inl rfl, h⟩
    · have h := (((((h).2 n0).2 n1).2 n2).2 n3).1 q4
      refine s_aln l_law_262 rfl ?_
      refine s_aln l_law_263 rfl ?_
      refine s_iln l_law_264 rfl ?_
      refine s_ic 1 l_law_265 rfl ?_
      refine s_iadd l_law_266 ?_
      refine s_isc l_law_267 h (fun v40 h => ?_)
      refine s_cvi (As := [.int v40]) (r := []) l_law_268 rfl ⟨rfl, rfl⟩ rfl (Nat.le_of_ble_eq_true rfl) rfl hf h (fun v43 f42 h => ?_)
      refine s_aln l_law_271 rfl ?_
      refine s_aln l_law_272 rfl ?_
      refine s_iln l_law_273 rfl ?_
      refine s_ic 1 l_law_274 rfl ?_
      refine s_iadd l_law_275 ?_
      refine s_isc l_law_276 h (fun v44 h => ?_)
      refine s_cvi (As := [.int v44]) (r := [.int v43]) l_law_277 rfl ⟨rfl, rfl⟩ rfl (Nat.le_of_ble_eq_true rfl) rfl hf h (fun v47 f46 h => ?_)
      refine s_ifc l_law_280 h (fun h => ?_) (fun h => ?_)
      · refine s_inc 6 l_law_905 rfl rfl ?_
        refine s_goto l_law_908 ?_
        exact h
      · refine s_ic 0 l_law_283 rfl ?_
        exact s_zret l_law_284 rfl hf ⟨Or.inl rfl, h⟩
    · have h := ((((((h).2 n0).2 n1).2 n2).2 n3).2 n4).1 q5
      refine s_aln l_law_285 rfl ?_
      refine s_aln l_law_286 rfl ?_
      refine s_iln l_law_287 rfl ?_
      refine s_ic 1 l_law_288 rfl ?_
      refine s_iadd l_law_289 ?_
      refine s_isc l_law_290 h (fun v48 h => ?_)
      refine s_cvi (As := [.int v48]) (r := []) l_law_291 rfl ⟨rfl, rfl⟩ rfl (Nat.le_of_ble_eq_true rfl) rfl hf h (fun v51 f50 h => ?_)
      refine s_aln l_law_294 rfl ?_
      refine s_aln l_law_295 rfl ?_
      refine s_iln l_law_296 rfl ?_
      refine s_ic 1 l_law_297 rfl ?_
      refine s_iadd l_law_298 ?_
      refine s_isc l_law_299 h (fun v52 h => ?_)
      refine s_cvi (As := [.int v52]) (r := [.int v51]) l_law_300 rfl ⟨rfl, rfl⟩ rfl (Nat.le_of_ble_eq_true rfl) rfl hf h (fun v55 f54 h => ?_)
      refine s_ifc l_law_303 h (fun h => ?_) (fun h => ?_)
      · refine s_inc 6 l_law_905 rfl rfl ?_
        refine s_goto l_law_908 ?_
        exact h
      · refine s_ic 0 l_law_306 rfl ?_
        exact s_zret l_law_307 rfl hf ⟨Or.inl rfl, h⟩
    · have h := (((((((h).2 n0).2 n1).2 n2).2 n3).2 n4).2 n5).1 q6
      refine s_aln l_law_308 rfl ?_
      refine s_aln l_law_309 rfl ?_
      refine s_iln l_law_310 rfl ?_
      refine s_ic 1 l_law_311 rfl ?_
      refine s_iadd l_law_312 ?_
      refine s_isc l_law_313 h (fun v56 h => ?_)
      refine s_aln l_law_314 rfl ?_
      refine s_iln l_law_315 rfl ?_
      refine s_ic 2 l_law_316 rfl ?_
      refine s_iadd l_law_317 ?_
      refine s_isc l_law_318 h (fun v57 h => ?_)
      refine s_aln l_law_319 rfl ?_
      refine s_iln l_law_320 rfl ?_
      refine s_ic 3 l_law_321 rfl ?_
      refine s_iadd l_law_322 ?_
      refine s_isc l_law_323 h (fun v58 h => ?_)
      refine s_cvi (As := [.int v56, .int v57, .int v58]) (r := []) l_law_324 rfl ⟨rfl, rfl⟩ rfl (Nat.le_of_ble_eq_true rfl) rfl hf h (fun v61 f60 h => ?_)
      refine s_aln l_law_327 rfl ?_
      refine s_aln l_law_328 rfl ?_
      refine s_iln l_law_329 rfl ?_
      refine s_ic 1 l_law_330 rfl ?_
      refine s_iadd l_law_331 ?_
      refine s_isc l_law_332 h (fun v62 h => ?_)
      refine s_aln l_law_333 rfl ?_
      refine s_iln l_law_334 rfl ?_
      refine s_ic 2 l_law_335 rfl ?_
      refine s_iadd l_law_336 ?_
      refine s_isc l_law_337 h (fun v63 h => ?_)
      refine s_aln l_law_338 rfl ?_
      refine s_iln l_law_339 rfl ?_
      refine s_ic 3 l_law_340 rfl ?_
      refine s_iadd l_law_341 ?_
      refine s_isc l_law_342 h (fun v64 h => ?_)
      refine s_cvi (As := [.int v62, .int v63, .int v64]) (r := [.int v61]) l_law_343 rfl ⟨rfl, rfl⟩ rfl (Nat.le_of_ble_eq_true rfl) rfl hf h (fun v67 f66 h => ?_)
      refine s_ifc l_law_346 h (fun h => ?_) (fun h => ?_)
      · refine s_inc 6 l_law_905 rfl rfl ?_
        refine s_goto l_law_908 ?_
        exact h
      · refine s_ic 0 l_law_349 rfl ?_
        exact s_zret l_law_350 rfl hf ⟨Or.inl rfl, h⟩
    · have h := ((((((((h).2 n0).2 n1).2 n2).2 n3).2 n4).2 n5).2 n6).1 q7
      refine s_aln l_law_351 rfl ?_
      refine s_aln l_law_352 rfl ?_
      refine s_iln l_law_353 rfl ?_
      refine s_ic 1 l_law_354 rfl ?_
      refine s_iadd l_law_355 ?_
      refine s_isc l_law_356 h (fun v68 h => ?_)
      refine s_aln l_law_357 rfl ?_
      refine s_iln l_law_358 rfl ?_
      refine s_ic 2 l_law_359 rfl ?_
      refine s_iadd l_law_360 ?_
      refine s_isc l_law_361 h (fun v69 h => ?_)
      refine s_aln l_law_362 rfl ?_
      refine s_iln l_law_363 rfl ?_
      refine s_ic 3 l_law_364 rfl ?_
      refine s_iadd l_law_365 ?_
      refine s_isc l_law_366 h (fun v70 h => ?_)
      refine s_aln l_law_367 rfl ?_
      refine s_iln l_law_368 rfl ?_
      refine s_ic 4 l_law_369 rfl ?_
      refine s_iadd l_law_370 ?_
      refine s_isc l_law_371 h (fun v71 h => ?_)
      refine s_cvi (As := [.int v68, .int v69, .int v70, .int v71]) (r := []) l_law_372 rfl ⟨rfl, rfl⟩ rfl (Nat.le_of_ble_eq_true rfl) rfl hf h (fun v74 f73 h => ?_)
      refine s_aln l_law_375 rfl ?_
      refine s_aln l_law_376 rfl ?_
      refine s_iln l_law_377 rfl ?_
      refine s_ic 1 l_law_378 rfl ?_
      refine s_iadd l_law_379 ?_
      refine s_isc l_law_380 h (fun v75 h => ?_)
      refine s_aln l_law_381 rfl ?_
      refine s_iln l_law_382 rfl ?_
      refine s_ic 2 l_law_383 rfl ?_
      refine s_iadd l_law_384 ?_
      refine s_isc l_law_385 h (fun v76 h => ?_)
      refine s_aln l_law_386 rfl ?_
      refine s_iln l_law_387 rfl ?_
      refine s_ic 3 l_law_388 rfl ?_
      refine s_iadd l_law_389 ?_
      refine s_isc l_law_390 h (fun v77 h => ?_)
      refine s_aln l_law_391 rfl ?_
      refine s_iln l_law_392 rfl ?_
      refine s_ic 4 l_law_393 rfl ?_
      refine s_iadd l_law_394 ?_
      refine s_isc l_law_395 h (fun v78 h => ?_)
      refine s_cvi (As := [.int v75, .int v76, .int v77, .int v78]) (r := [.int v74]) l_law_396 rfl ⟨rfl, rfl⟩ rfl (Nat.le_of_ble_eq_true rfl) rfl hf h (fun v81 f80 h => ?_)
      refine s_ifc l_law_399 h (fun h => ?_) (fun h => ?_)
      · refine s_inc 6 l_law_905 rfl rfl ?_
        refine s_goto l_law_908 ?_
        exact h
      · refine s_ic 0 l_law_402 rfl ?_
        exact s_zret l_law_403 rfl hf ⟨Or.inl rfl, h⟩
    · have h := (((((((((h).2 n0).2 n1).2 n2).2 n3).2 n4).2 n5).2 n6).2 n7).1 q8
      refine s_aln l_law_404 rfl ?_
      refine s_aln l_law_405 rfl ?_
      refine s_iln l_law_406 rfl ?_
      refine s_ic 1 l_law_407 rfl ?_
      refine s_iadd l_law_408 ?_
      refine s_isc l_law_409 h (fun v82 h => ?_)
      refine s_aln l_law_410 rfl ?_
      refine s_iln l_law_411 rfl ?_
      refine s_ic 2 l_law_412 rfl ?_
      refine s_iadd l_law_413 ?_
      refine s_isc l_law_414 h (fun v83 h => ?_)
      refine s_cvi (As := [.int v82, .int v83]) (r := []) l_law_415 rfl ⟨rfl, rfl⟩ rfl (Nat.le_of_ble_eq_true rfl) rfl hf h (fun v86 f85 h => ?_)
      refine s_aln l_law_418 rfl ?_
      refine s_aln l_law_419 rfl ?_
      refine s_iln l_law_420 rfl ?_
      refine s_ic 1 l_law_421 rfl ?_
      refine s_iadd l_law_422 ?_
      refine s_isc l_law_423 h (fun v87 h => ?_)
      refine s_aln l_law_424 rfl ?_
      refine s_iln l_law_425 rfl ?_
      refine s_ic 2 l_law_426 rfl ?_
      refine s_iadd l_law_427 ?_
      refine s_isc l_law_428 h (fun v88 h => ?_)
      refine s_cvi (As := [.int v87, .int v88]) (r := [.int v86]) l_law_429 rfl ⟨rfl, rfl⟩ rfl (Nat.le_of_ble_eq_true rfl) rfl hf h (fun v91 f90 h => ?_)
      refine s_ifc l_law_432 h (fun h => ?_) (fun h => ?_)
      · refine s_inc 6 l_law_905 rfl rfl ?_
        refine s_goto l_law_908 ?_
        exact h
      · refine s_ic 0 l_law_435 rfl ?_
        exact s_zret l_law_436 rfl hf ⟨Or.inl rfl, h⟩
    · have h := ((((((((((h).2 n0).2 n1).2 n2).2 n3).2 n4).2 n5).2 n6).2 n7).2 n8).1 q9
      refine s_aln l_law_437 rfl ?_
      refine s_cvi (As := []) (r := []) l_law_438 rfl ⟨rfl, rfl⟩ rfl (Nat.le_of_ble_eq_true rfl) rfl hf h (fun v94 f93 h => ?_)
      refine s_aln l_law_441 rfl ?_
      refine s_cvi (As := []) (r := [.int v94]) l_law_442 rfl ⟨rfl, rfl⟩ rfl (Nat.le_of_ble_eq_true rfl) rfl hf h (fun v97 f96 h => ?_)
      refine s_ifc l_law_445 h (fun h => ?_) (fun h => ?_)
      · refine s_inc 6 l_law_905 rfl rfl ?_
        refine s_goto l_law_908 ?_
        exact h
      · refine s_ic 0 l_law_448 rfl ?_
        exact s_zret l_law_449 rfl hf ⟨Or.inl rfl, h⟩
    · have h := (((((((((((h).2 n0).2 n1).2 n2).2 n3).2 n4).2 n5).2 n6).2 n7).2 n8).2 n9).1 q10
      refine s_aln l_law_450 rfl ?_
      refine s_aln l_law_451 rfl ?_
      refine s_iln l_law_452 rfl ?_
      refine s_ic 1 l_law_453 rfl ?_
      refine s_iadd l_law_454 ?_
      refine s_isc l_law_455 h (fun v98 h => ?_)
      refine s_aln l_law_456 rfl ?_
      refine s_iln l_law_457 rfl ?_
      refine s_ic 2 l_law_458 rfl ?_
      refine s_iadd l_law_459 ?_
      refine s_isc l_law_460 h (fun v99 h => ?_)
      refine s_cvi (As := [.int v98, .int v99]) (r := []) l_law_461 rfl ⟨rfl, rfl⟩ rfl (Nat.le_of_ble_eq_true rfl) rfl hf h (fun v102 f101 h => ?_)
      refine s_aln l_law_464 rfl ?_
      refine s_aln l_law_465 rfl ?_
      refine s_iln l_law_466 rfl ?_
      refine s_ic 1 l_law_467 rfl ?_
      refine s_iadd l_law_468 ?_
      refine s_isc l_law_469 h (fun v103 h => ?_)
      refine s_aln l_law_470 rfl ?_
      refine s_iln l_law_471 rfl ?_
      refine s_ic 2 l_law_472 rfl ?_
      refine s_iadd l_law_473 ?_
      refine s_isc l_law_474 h (fun v104 h => ?_)
      refine s_cvi (As := [.int v103, .int v104]) (r := [.int v102]) l_law_475 rfl ⟨rfl, rfl⟩ rfl (Nat.le_of_ble_eq_true rfl) rfl hf h (fun v107 f106 h => ?_)
      refine s_ifc l_law_478 h (fun h => ?_) (fun h => ?_)
      · refine s_inc 6 l_law_905 rfl rfl ?_
        refine s_goto l_law_908 ?_
        exact h
      · refine s_ic 0 l_law_481 rfl ?_
        exact s_zret l_law_482 rfl hf ⟨Or.inl rfl, h⟩
    · have h := ((((((((((((h).2 n0).2 n1).2 n2).2 n3).2 n4).2 n5).2 n6).2 n7).2 n8).2 n9).2 n10).1 q11
      refine s_aln l_law_483 rfl ?_
      refine s_aln l_law_484 rfl ?_
      refine s_iln l_law_485 rfl ?_
      refine s_ic 1 l_law_486 rfl ?_
      refine s_iadd l_law_487 ?_
      refine s_isc l_law_488 h (fun v108 h => ?_)
      refine s_aln l_law_489 rfl ?_
      refine s_iln l_law_490 rfl ?_
      refine s_ic 2 l_law_491 rfl ?_
      refine s_iadd l_law_492 ?_
      refine s_isc l_law_493 h (fun v109 h => ?_)
      refine s_aln l_law_494 rfl ?_
      refine s_iln l_law_495 rfl ?_
      refine s_ic 3 l_law_496 rfl ?_
      refine s_iadd l_law_497 ?_
      refine s_isc l_law_498 h (fun v110 h => ?_)
      refine s_cvi (As := [.int v108, .int v109, .int v110]) (r := []) l_law_499 rfl ⟨rfl, rfl⟩ rfl (Nat.le_of_ble_eq_true rfl) rfl hf h (fun v113 f112 h => ?_)
      refine s_aln l_law_502 rfl ?_
      refine s_aln l_law_503 rfl ?_
      refine s_iln l_law_504 rfl ?_
      refine s_ic 1 l_law_505 rfl ?_
      refine s_iadd l_law_506 ?_
      refine s_isc l_law_507 h (fun v114 h => ?_)
      refine s_aln l_law_508 rfl ?_
      refine s_iln l_law_509 rfl ?_
      refine s_ic 2 l_law_510 rfl ?_
      refine s_iadd l_law_511 ?_
      refine s_isc l_law_512 h (fun v115 h => ?_)
      refine s_aln l_law_513 rfl ?_
      refine s_iln l_law_514 rfl ?_
      refine s_ic 3 l_law_515 rfl ?_
      refine s_iadd l_law_516 ?_
      refine s_isc l_law_517 h (fun v116 h => ?_)
      refine s_cvi (As := [.int v114, .int v115, .int v116]) (r := [.int v113]) l_law_518 rfl ⟨rfl, rfl⟩ rfl (Nat.le_of_ble_eq_true rfl) rfl hf h (fun v119 f118 h => ?_)
      refine s_ifc l_law_521 h (fun h => ?_) (fun h => ?_)
      · refine s_inc 6 l_law_905 rfl rfl ?_
        refine s_goto l_law_908 ?_
        exact h
      · refine s_ic 0 l_law_524 rfl ?_
        exact s_zret l_law_525 rfl hf ⟨Or.inl rfl, h⟩
    · have h := (((((((((((((h).2 n0).2 n1).2 n2).2 n3).2 n4).2 n5).2 n6).2 n7).2 n8).2 n9).2 n10).2 n11).1 q12
      refine s_aln l_law_526 rfl ?_
      refine s_aln l_law_527 rfl ?_
      refine s_iln l_law_528 rfl ?_
      refine s_ic 1 l_law_529 rfl ?_
      refine s_iadd l_law_530 ?_
      refine s_isc l_law_531 h (fun v120 h => ?_)
      refine s_aln l_law_532 rfl ?_
      refine s_iln l_law_533 rfl ?_
      refine s_ic 2 l_law_534 rfl ?_
      refine s_iadd l_law_535 ?_
      refine s_isc l_law_536 h (fun v121 h => ?_)
      refine s_aln l_law_537 rfl ?_
      refine s_iln l_law_538 rfl ?_
      refine s_ic 3 l_law_539 rfl ?_
      refine s_iadd l_law_540 ?_
      refine s_isc l_law_541 h (fun v122 h => ?_)
      refine s_aln l_law_542 rfl ?_
      refine s_iln l_law_543 rfl ?_
      refine s_ic 4 l_law_544 rfl ?_
      refine s_iadd l_law_545 ?_
      refine s_isc l_law_546 h (fun v123 h => ?_)
      refine s_cvi (As := [.int v120, .int v121, .int v122, .int v123]) (r := []) l_law_547 rfl ⟨rfl, rfl⟩ rfl (Nat.le_of_ble_eq_true rfl) rfl hf h (fun v126 f125 h => ?_)
      refine s_aln l_law_550 rfl ?_
      refine s_aln l_law_551 rfl ?_
      refine s_iln l_law_552 rfl ?_
      refine s_ic 1 l_law_553 rfl ?_
      refine s_iadd l_law_554 ?_
      refine s_isc l_law_555 h (fun v127 h => ?_)
      refine s_aln l_law_556 rfl ?_
      refine s_iln l_law_557 rfl ?_
      refine s_ic 2 l_law_558 rfl ?_
      refine s_iadd l_law_559 ?_
      refine s_isc l_law_560 h (fun v128 h => ?_)
      refine s_aln l_law_561 rfl ?_
      refine s_iln l_law_562 rfl ?_
      refine s_ic 3 l_law_563 rfl ?_
      refine s_iadd l_law_564 ?_
      refine s_isc l_law_565 h (fun v129 h => ?_)
      refine s_aln l_law_566 rfl ?_
      refine s_iln l_law_567 rfl ?_
      refine s_ic 4 l_law_568 rfl ?_
      refine s_iadd l_law_569 ?_
      refine s_isc l_law_570 h (fun v130 h => ?_)
      refine s_cvi (As := [.int v127, .int v128, .int v129, .int v130]) (r := [.int v126]) l_law_571 rfl ⟨rfl, rfl⟩ rfl (Nat.le_of_ble_eq_true rfl) rfl hf h (fun v133 f132 h => ?_)
      refine s_ifc l_law_574 h (fun h => ?_) (fun h => ?_)
      · refine s_inc 6 l_law_905 rfl rfl ?_
        refine s_goto l_law_908 ?_
        exact h
      · refine s_ic 0 l_law_577 rfl ?_
        exact s_zret l_law_578 rfl hf ⟨Or.inl rfl, h⟩
    · have h := ((((((((((((((h).2 n0).2 n1).2 n2).2 n3).2 n4).2 n5).2 n6).2 n7).2 n8).2 n9).2 n10).2 n11).2 n12).1 q13
      refine s_aln l_law_579 rfl ?_
      refine s_aln l_law_580 rfl ?_
      refine s_iln l_law_581 rfl ?_
      refine s_ic 1 l_law_582 rfl ?_
      refine s_iadd l_law_583 ?_
      refine s_isc l_law_584 h (fun v134 h => ?_)
      refine s_aln l_law_585 rfl ?_
      refine s_iln l_law_586 rfl ?_
      refine s_ic 2 l_law_587 rfl ?_
      refine s_iadd l_law_588 ?_
      refine s_isc l_law_589 h (fun v135 h => ?_)
      refine s_aln l_law_590 rfl ?_
      refine s_iln l_law_591 rfl ?_
      refine s_ic 3 l_law_592 rfl ?_
      refine s_iadd l_law_593 ?_
      refine s_isc l_law_594 h (fun v136 h => ?_)
      refine s_aln l_law_595 rfl ?_
      refine s_iln l_law_596 rfl ?_
      refine s_ic 4 l_law_597 rfl ?_
      refine s_iadd l_law_598 ?_
      refine s_isc l_law_599 h (fun v137 h => ?_)
      refine s_aln l_law_600 rfl ?_
      refine s_iln l_law_601 rfl ?_
      refine s_ic 5 l_law_602 rfl ?_
      refine s_iadd l_law_603 ?_
      refine s_isc l_law_604 h (fun v138 h => ?_)
      refine s_cvi (As := [.int v134, .int v135, .int v136, .int v137, .int v138]) (r := []) l_law_605 rfl ⟨rfl, rfl⟩ rfl (Nat.le_of_ble_eq_true rfl) rfl hf h (fun v141 f140 h => ?_)
      refine s_aln l_law_608 rfl ?_
      refine s_aln l_law_609 rfl ?_
      refine s_iln l_law_610 rfl ?_
      refine s_ic 1 l_law_611 rfl ?_
      refine s_iadd l_law_612 ?_
      refine s_isc l_law_613 h (fun v142 h => ?_)
      refine s_aln l_law_614 rfl ?_
      refine s_iln l_law_615 rfl ?_
      refine s_ic 2 l_law_616 rfl ?_
      refine s_iadd l_law_617 ?_
      refine s_isc l_law_618 h (fun v143 h => ?_)
      refine s_aln l_law_619 rfl ?_
      refine s_iln l_law_620 rfl ?_
      refine s_ic 3 l_law_621 rfl ?_
      refine s_iadd l_law_622 ?_
      refine s_isc l_law_623 h (fun v144 h => ?_)
      refine s_aln l_law_624 rfl ?_
      refine s_iln l_law_625 rfl ?_
      refine s_ic 4 l_law_626 rfl ?_
      refine s_iadd l_law_627 ?_
      refine s_isc l_law_628 h (fun v145 h => ?_)
      refine s_aln l_law_629 rfl ?_
      refine s_iln l_law_630 rfl ?_
      refine s_ic 5 l_law_631 rfl ?_
      refine s_iadd l_law_632 ?_
      refine s_isc l_law_633 h (fun v146 h => ?_)
      refine s_cvi (As := [.int v142, .int v143, .int v144, .int v145, .int v146]) (r := [.int v141]) l_law_634 rfl ⟨rfl, rfl⟩ rfl (Nat.le_of_ble_eq_true rfl) rfl hf h (fun v149 f148 h => ?_)
      refine s_ifc l_law_637 h (fun h => ?_) (fun h => ?_)
      · refine s_inc 6 l_law_905 rfl rfl ?_
        refine s_goto l_law_908 ?_
        exact h
      · refine s_ic 0 l_law_640 rfl ?_
        exact s_zret l_law_641 rfl hf ⟨Or.inl rfl, h⟩
    · have h := (((((((((((((((h).2 n0).2 n1).2 n2).2 n3).2 n4).2 n5).2 n6).2 n7).2 n8).2 n9).2 n10).2 n11).2 n12).2 n13).1 q14
      refine s_aln l_law_642 rfl ?_
      refine s_aln l_law_643 rfl ?_
      refine s_iln l_law_644 rfl ?_
      refine s_ic 1 l_law_645 rfl ?_
      refine s_iadd l_law_646 ?_
      refine s_isc l_law_647 h (fun v150 h => ?_)
      refine s_aln l_law_648 rfl ?_
      refine s_iln l_law_649 rfl ?_
      refine s_ic 2 l_law_650 rfl ?_
      refine s_iadd l_law_651 ?_
      refine s_isc l_law_652 h (fun v151 h => ?_)
      refine s_aln l_law_653 rfl ?_
      refine s_iln l_law_654 rfl ?_
      refine s_ic 3 l_law_655 rfl ?_
      refine s_iadd l_law_656 ?_
      refine s_isc l_law_657 h (fun v152 h => ?_)
      refine s_if l_law_658 h (fun h => ?_) (fun h => ?_)
      · refine s_ic 0 l_law_665 rfl ?_
        exact h
      · refine s_ic 1 l_law_661 rfl ?_
        refine s_goto l_law_662 ?_
        exact h
    · have h := ((((((((((((((((h).2 n0).2 n1).2 n2).2 n3).2 n4).2 n5).2 n6).2 n7).2 n8).2 n9).2 n10).2 n11).2 n12).2 n13).2 n14).1 q15
      refine s_aln l_law_701 rfl ?_
      refine s_aln l_law_702 rfl ?_
      refine s_iln l_law_703 rfl ?_
      refine s_ic 1 l_law_704 rfl ?_
      refine s_iadd l_law_705 ?_
      refine s_isc l_law_706 h (fun v153 h => ?_)
      refine s_aln l_law_707 rfl ?_
      refine s_iln l_law_708 rfl ?_
      refine s_ic 2 l_law_709 rfl ?_
      refine s_iadd l_law_710 ?_
      refine s_isc l_law_711 h (fun v154 h => ?_)
      refine s_cvi (As := [.int v153, .int v154]) (r := []) l_law_712 rfl ⟨rfl, rfl⟩ rfl (Nat.le_of_ble_eq_true rfl) rfl hf h (fun v157 f156 h => ?_)
      refine s_aln l_law_715 rfl ?_
      refine s_aln l_law_716 rfl ?_
      refine s_iln l_law_717 rfl ?_
      refine s_ic 1 l_law_718 rfl ?_
      refine s_iadd l_law_719 ?_
      refine s_isc l_law_720 h (fun v158 h => ?_)
      refine s_aln l_law_721 rfl ?_
      refine s_iln l_law_722 rfl ?_
      refine s_ic 2 l_law_723 rfl ?_
      refine s_iadd l_law_724 ?_
      refine s_isc l_law_725 h (fun v159 h => ?_)
      refine s_cvi (As := [.int v158, .int v159]) (r := [.int v157]) l_law_726 rfl ⟨rfl, rfl⟩ rfl (Nat.le_of_ble_eq_true rfl) rfl hf h (fun v162 f161 h => ?_)
      refine s_ifc l_law_729 h (fun h => ?_) (fun h => ?_)
      · refine s_inc 6 l_law_905 rfl rfl ?_
        refine s_goto l_law_908 ?_
        exact h
      · refine s_ic 0 l_law_732 rfl ?_
        exact s_zret l_law_733 rfl hf ⟨Or.inl rfl, h⟩
    · have h := (((((((((((((((((h).2 n0).2 n1).2 n2).2 n3).2 n4).2 n5).2 n6).2 n7).2 n8).2 n9).2 n10).2 n11).2 n12).2 n13).2 n14).2 n15).1 q16
      refine s_aln l_law_734 rfl ?_
      refine s_aln l_law_735 rfl ?_
      refine s_iln l_law_736 rfl ?_
      refine s_ic 1 l_law_737 rfl ?_
      refine s_iadd l_law_738 ?_
      refine s_isc l_law_739 h (fun v163 h => ?_)
      refine s_cvi (As := [.int v163]) (r := []) l_law_740 rfl ⟨rfl, rfl⟩ rfl (Nat.le_of_ble_eq_true rfl) rfl hf h (fun v166 f165 h => ?_)
      refine s_aln l_law_743 rfl ?_
      refine s_aln l_law_744 rfl ?_
      refine s_iln l_law_745 rfl ?_
      refine s_ic 1 l_law_746 rfl ?_
      refine s_iadd l_law_747 ?_
      refine s_isc l_law_748 h (fun v167 h => ?_)
      refine s_cvi (As := [.int v167]) (r := [.int v166]) l_law_749 rfl ⟨rfl, rfl⟩ rfl (Nat.le_of_ble_eq_true rfl) rfl hf h (fun v170 f169 h => ?_)
      refine s_ifc l_law_752 h (fun h => ?_) (fun h => ?_)
      · refine s_inc 6 l_law_905 rfl rfl ?_
        refine s_goto l_law_908 ?_
        exact h
      · refine s_ic 0 l_law_755 rfl ?_
        exact s_zret l_law_756 rfl hf ⟨Or.inl rfl, h⟩
    · have h := ((((((((((((((((((h).2 n0).2 n1).2 n2).2 n3).2 n4).2 n5).2 n6).2 n7).2 n8).2 n9).2 n10).2 n11).2 n12).2 n13).2 n14).2 n15).2 n16).1 q17
      refine s_aln l_law_757 rfl ?_
      refine s_aln l_law_758 rfl ?_
      refine s_iln l_law_759 rfl ?_
      refine s_ic 1 l_law_760 rfl ?_
      refine s_iadd l_law_761 ?_
      refine s_isc l_law_762 h (fun v171 h => ?_)
      refine s_aln l_law_763 rfl ?_
      refine s_iln l_law_764 rfl ?_
      refine s_ic 2 l_law_765 rfl ?_
      refine s_iadd l_law_766 ?_
      refine s_isc l_law_767 h (fun v172 h => ?_)
      refine s_cvi (As := [.int v171, .int v172]) (r := []) l_law_768 rfl ⟨rfl, rfl⟩ rfl (Nat.le_of_ble_eq_true rfl) rfl hf h (fun v175 f174 h => ?_)
      refine s_aln l_law_771 rfl ?_
      refine s_aln l_law_772 rfl ?_
      refine s_iln l_law_773 rfl ?_
      refine s_ic 1 l_law_774 rfl ?_
      refine s_iadd l_law_775 ?_
      refine s_isc l_law_776 h (fun v176 h => ?_)
      refine s_aln l_law_777 rfl ?_
      refine s_iln l_law_778 rfl ?_
      refine s_ic 2 l_law_779 rfl ?_
      refine s_iadd l_law_780 ?_
      refine s_isc l_law_781 h (fun v177 h => ?_)
      refine s_cvi (As := [.int v176, .int v177]) (r := [.int v175]) l_law_782 rfl ⟨rfl, rfl⟩ rfl (Nat.le_of_ble_eq_true rfl) rfl hf h (fun v180 f179 h => ?_)
      refine s_ifc l_law_785 h (fun h => ?_) (fun h => ?_)
      · refine s_inc 6 l_law_905 rfl rfl ?_
        refine s_goto l_law_908 ?_
        exact h
      · refine s_ic 0 l_law_788 rfl ?_
        exact s_zret l_law_789 rfl hf ⟨Or.inl rfl, h⟩
    · have h := (((((((((((((((((((h).2 n0).2 n1).2 n2).2 n3).2 n4).2 n5).2 n6).2 n7).2 n8).2 n9).2 n10).2 n11).2 n12).2 n13).2 n14).2 n15).2 n16).2 n17).1 q18
      refine s_aln l_law_790 rfl ?_
      refine s_aln l_law_791 rfl ?_
      refine s_iln l_law_792 rfl ?_
      refine s_ic 1 l_law_793 rfl ?_
      refine s_iadd l_law_794 ?_
      refine s_isc l_law_795 h (fun v181 h => ?_)
      refine s_cvi (As := [.int v181]) (r := []) l_law_796 rfl ⟨rfl, rfl⟩ rfl (Nat.le_of_ble_eq_true rfl) rfl hf h (fun v184 f183 h => ?_)
      refine s_aln l_law_799 rfl ?_
      refine s_aln l_law_800 rfl ?_
      refine s_iln l_law_801 rfl ?_
      refine s_ic 1 l_law_802 rfl ?_
      refine s_iadd l_law_803 ?_
      refine s_isc l_law_804 h (fun v185 h => ?_)
      refine s_cvi (As := [.int v185]) (r := [.int v184]) l_law_805 rfl ⟨rfl, rfl⟩ rfl (Nat.le_of_ble_eq_true rfl) rfl hf h (fun v188 f187 h => ?_)
      refine s_ifc l_law_808 h (fun h => ?_) (fun h => ?_)
      · refine s_inc 6 l_law_905 rfl rfl ?_
        refine s_goto l_law_908 ?_
        exact h
      · refine s_ic 0 l_law_811 rfl ?_
        exact s_zret l_law_812 rfl hf ⟨Or.inl rfl, h⟩
    · have h := ((((((((((((((((((((h).2 n0).2 n1).2 n2).2 n3).2 n4).2 n5).2 n6).2 n7).2 n8).2 n9).2 n10).2 n11).2 n12).2 n13).2 n14).2 n15).2 n16).2 n17).2 n18).1 q19
      refine s_aln l_law_813 rfl ?_
      refine s_aln l_law_814 rfl ?_
      refine s_iln l_law_815 rfl ?_
      refine s_ic 1 l_law_816 rfl ?_
      refine s_iadd l_law_817 ?_
      refine s_isc l_law_818 h (fun v189 h => ?_)
      refine s_cvi (As := [.int v189]) (r := []) l_law_819 rfl ⟨rfl, rfl⟩ rfl (Nat.le_of_ble_eq_true rfl) rfl hf h (fun v192 f191 h => ?_)
      refine s_aln l_law_822 rfl ?_
      refine s_aln l_law_823 rfl ?_
      refine s_iln l_law_824 rfl ?_
      refine s_ic 1 l_law_825 rfl ?_
      refine s_iadd l_law_826 ?_
      refine s_isc l_law_827 h (fun v193 h => ?_)
      refine s_cvi (As := [.int v193]) (r := [.int v192]) l_law_828 rfl ⟨rfl, rfl⟩ rfl (Nat.le_of_ble_eq_true rfl) rfl hf h (fun v196 f195 h => ?_)
      refine s_ifc l_law_831 h (fun h => ?_) (fun h => ?_)
      · refine s_inc 6 l_law_905 rfl rfl ?_
        refine s_goto l_law_908 ?_
        exact h
      · refine s_ic 0 l_law_834 rfl ?_
        exact s_zret l_law_835 rfl hf ⟨Or.inl rfl, h⟩
    · have h := (((((((((((((((((((((h).2 n0).2 n1).2 n2).2 n3).2 n4).2 n5).2 n6).2 n7).2 n8).2 n9).2 n10).2 n11).2 n12).2 n13).2 n14).2 n15).2 n16).2 n17).2 n18).2 n19).1 q20
      refine s_aln l_law_836 rfl ?_
      refine s_cvi (As := []) (r := []) l_law_837 rfl ⟨rfl, rfl⟩ rfl (Nat.le_of_ble_eq_true rfl) rfl hf h (fun v199 f198 h => ?_)
      refine s_aln l_law_840 rfl ?_
      refine s_cvi (As := []) (r := [.int v199]) l_law_841 rfl ⟨rfl, rfl⟩ rfl (Nat.le_of_ble_eq_true rfl) rfl hf h (fun v202 f201 h => ?_)
      refine s_ifc l_law_844 h (fun h => ?_) (fun h => ?_)
      · refine s_inc 6 l_law_905 rfl rfl ?_
        refine s_goto l_law_908 ?_
        exact h
      · refine s_ic 0 l_law_847 rfl ?_
        exact s_zret l_law_848 rfl hf ⟨Or.inl rfl, h⟩
    · have h := ((((((((((((((((((((((h).2 n0).2 n1).2 n2).2 n3).2 n4).2 n5).2 n6).2 n7).2 n8).2 n9).2 n10).2 n11).2 n12).2 n13).2 n14).2 n15).2 n16).2 n17).2 n18).2 n19).2 n20).1 q21
      refine s_aln l_law_849 rfl ?_
      refine s_aln l_law_850 rfl ?_
      refine s_iln l_law_851 rfl ?_
      refine s_ic 1 l_law_852 rfl ?_
      refine s_iadd l_law_853 ?_
      refine s_isc l_law_854 h (fun v203 h => ?_)
      refine s_aln l_law_855 rfl ?_
      refine s_iln l_law_856 rfl ?_
      refine s_ic 2 l_law_857 rfl ?_
      refine s_iadd l_law_858 ?_
      refine s_isc l_law_859 h (fun v204 h => ?_)
      refine s_cvi (As := [.int v203, .int v204]) (r := []) l_law_860 rfl ⟨rfl, rfl⟩ rfl (Nat.le_of_ble_eq_true rfl) rfl hf h (fun v207 f206 h => ?_)
      refine s_aln l_law_863 rfl ?_
      refine s_aln l_law_864 rfl ?_
      refine s_iln l_law_865 rfl ?_
      refine s_ic 1 l_law_866 rfl ?_
      refine s_iadd l_law_867 ?_
      refine s_isc l_law_868 h (fun v208 h => ?_)
      refine s_aln l_law_869 rfl ?_
      refine s_iln l_law_870 rfl ?_
      refine s_ic 2 l_law_871 rfl ?_
      refine s_iadd l_law_872 ?_
      refine s_isc l_law_873 h (fun v209 h => ?_)
      refine s_cvi (As := [.int v208, .int v209]) (r := [.int v207]) l_law_874 rfl ⟨rfl, rfl⟩ rfl (Nat.le_of_ble_eq_true rfl) rfl hf h (fun v212 f211 h => ?_)
      refine s_ifc l_law_877 h (fun h => ?_) (fun h => ?_)
      · refine s_inc 6 l_law_905 rfl rfl ?_
        refine s_goto l_law_908 ?_
        exact h
      · refine s_ic 0 l_law_880 rfl ?_
        exact s_zret l_law_881 rfl hf ⟨Or.inl rfl, h⟩
    · have h := (((((((((((((((((((((((h).2 n0).2 n1).2 n2).2 n3).2 n4).2 n5).2 n6).2 n7).2 n8).2 n9).2 n10).2 n11).2 n12).2 n13).2 n14).2 n15).2 n16).2 n17).2 n18).2 n19).2 n20).2 n21).1 q22
      refine s_aln l_law_882 rfl ?_
      refine s_aln l_law_883 rfl ?_
      refine s_iln l_law_884 rfl ?_
      refine s_ic 1 l_law_885 rfl ?_
      refine s_iadd l_law_886 ?_
      refine s_isc l_law_887 h (fun v213 h => ?_)
      refine s_cvi (As := [.int v213]) (r := []) l_law_888 rfl ⟨rfl, rfl⟩ rfl (Nat.le_of_ble_eq_true rfl) rfl hf h (fun v216 f215 h => ?_)
      refine s_aln l_law_891 rfl ?_
      refine s_aln l_law_892 rfl ?_
      refine s_iln l_law_893 rfl ?_
      refine s_ic 1 l_law_894 rfl ?_
      refine s_iadd l_law_895 ?_
      refine s_isc l_law_896 h (fun v217 h => ?_)
      refine s_cvi (As := [.int v217]) (r := [.int v216]) l_law_897 rfl ⟨rfl, rfl⟩ rfl (Nat.le_of_ble_eq_true rfl) rfl hf h (fun v220 f219 h => ?_)
      refine s_ifc l_law_900 h (fun h => ?_) (fun h => ?_)
      · refine s_inc 6 l_law_905 rfl rfl ?_
        refine s_goto l_law_908 ?_
        exact h
      · refine s_ic 0 l_law_903 rfl ?_
        exact s_zret l_law_904 rfl hf ⟨Or.inl rfl, h⟩
    · have h := (((((((((((((((((((((((h).2 n0).2 n1).2 n2).2 n3).2 n4).2 n5).2 n6).2 n7).2 n8).2 n9).2 n10).2 n11).2 n12).2 n13).2 n14).2 n15).2 n16).2 n17).2 n18).2 n19).2 n20).2 n21).2 n22
      refine s_inc 6 l_law_905 rfl rfl ?_
      refine s_goto l_law_908 ?_
      exact h
def B_law_666 (d : Nat) (E : Option Value → xH → Prop) (f : xH) (L : Nat) (xs : Nat → Int32) (cu su : Nat) (a0 : Nat) (a1 : Nat) (a2 : Nat) (x3 : Int32) (s0 : Int32) (s1 : Int32) (s2 : Int32) (s3 : Nat) : Prop :=
  (∃ fs, f s3 = some (xO 0 fs)) ∧ xSp xT0 d j_PC_apply [.ref s3, .int s2, .int s1, .int s0] f (fun w1 f2 => xvi w1 (fun v3 => xsl L xs (x3 + 1) (fun v4 => xsl L xs (x3 + 2) (fun v5 => xsl L xs (x3 + 3) (fun v6 => xbr (v6 = 0) ((∃ fs, f2 a2 = some (xO 11 fs)) ∧ xSp xT0 d j_Mo_apply [.ref a2, .int v4, .int v5, .int 0] f2 (fun w7 f8 => xvi w7 (fun v9 => xbr (v3 = v9) (xWp (xT0, xSp xT0 d, some (a0, L, xs), m_law, E) 18 [some (.ref a0), some (.ref a1), some (.ref a2), some (.int (x3 + 6))] [] f8 cu su) (E (some (.int 0)) f8)))) ((∃ fs, f2 a2 = some (xO 11 fs)) ∧ xSp xT0 d j_Mo_apply [.ref a2, .int v4, .int v5, .int 1] f2 (fun w10 f11 => xvi w10 (fun v12 => xbr (v3 = v12) (xWp (xT0, xSp xT0 d, some (a0, L, xs), m_law, E) 18 [some (.ref a0), some (.ref a1), some (.ref a2), some (.int (x3 + 6))] [] f11 cu su) (E (some (.int 0)) f11)))))))))
theorem b_law_666 {d : Nat} {E : Option Value → xH → Prop} {f : xH} {L : Nat} {xs : Nat → Int32} {cu su : Nat} {a0 : Nat} {a1 : Nat} {a2 : Nat} {x3 : Int32} {s0 : Int32} {s1 : Int32} {s2 : Int32} {s3 : Nat} (hf : cu ≤ 600000 ∧ su ≤ 7302250) (h : B_law_666 d E f L xs cu su a0 a1 a2 x3 s0 s1 s2 s3) : xWp (xT0, xSp xT0 d, some (a0, L, xs), m_law, E) 666 [some (.ref a0), some (.ref a1), some (.ref a2), some (.int x3)] [.int s0, .int s1, .int s2, .ref s3] f cu su := by
  unfold B_law_666 at h
  refine s_cvi (As := [.int s2, .int s1, .int s0]) (r := []) l_law_666 rfl ⟨rfl, rfl⟩ rfl (Nat.le_of_ble_eq_true rfl) rfl hf h (fun v3 f2 h => ?_)
  refine s_aln l_law_669 rfl ?_
  refine s_aln l_law_670 rfl ?_
  refine s_iln l_law_671 rfl ?_
  refine s_ic 1 l_law_672 rfl ?_
  refine s_iadd l_law_673 ?_
  refine s_isc l_law_674 h (fun v4 h => ?_)
  refine s_aln l_law_675 rfl ?_
  refine s_iln l_law_676 rfl ?_
  refine s_ic 2 l_law_677 rfl ?_
  refine s_iadd l_law_678 ?_
  refine s_isc l_law_679 h (fun v5 h => ?_)
  refine s_aln l_law_680 rfl ?_
  refine s_iln l_law_681 rfl ?_
  refine s_ic 3 l_law_682 rfl ?_
  refine s_iadd l_law_683 ?_
  refine s_isc l_law_684 h (fun v6 h => ?_)
  refine s_if l_law_685 h (fun h => ?_) (fun h => ?_)
  · refine s_ic 0 l_law_692 rfl ?_
    refine s_cvi (As := [.int v4, .int v5, .int 0]) (r := [.int v3]) l_law_693 rfl ⟨rfl, rfl⟩ rfl (Nat.le_of_ble_eq_true rfl) rfl hf h (fun v9 f8 h => ?_)
    refine s_ifc l_law_696 h (fun h => ?_) (fun h => ?_)
    · refine s_inc 6 l_law_905 rfl rfl ?_
      refine s_goto l_law_908 ?_
      exact h
    · refine s_ic 0 l_law_699 rfl ?_
      exact s_zret l_law_700 rfl hf ⟨Or.inl rfl, h⟩
  · refine s_ic 1 l_law_688 rfl ?_
    refine s_goto l_law_689 ?_
    refine s_cvi (As := [.int v4, .int v5, .int 1]) (r := [.int v3]) l_law_693 rfl ⟨rfl, rfl⟩ rfl (Nat.le_of_ble_eq_true rfl) rfl hf h (fun v12 f11 h => ?_)
    refine s_ifc l_law_696 h (fun h => ?_) (fun h => ?_)
    · refine s_inc 6 l_law_905 rfl rfl ?_
      refine s_goto l_law_908 ?_
      exact h
    · refine s_ic 0 l_law_699 rfl ?_
      exact s_zret l_law_700 rfl hf ⟨Or.inl rfl, h⟩
