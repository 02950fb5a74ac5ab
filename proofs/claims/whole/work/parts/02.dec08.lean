theorem dX9_worked_130 : decode cX9_worked 130 = .ok (.iload 4, 2) := by decide +kernel
theorem dX9_worked_132 : decode cX9_worked 132 = .ok (.bipush 25, 2) := by decide +kernel
theorem dX9_worked_134 : decode cX9_worked 134 = .ok (.if_icmp .ne 46, 3) := by decide +kernel
theorem dX9_worked_137 : decode cX9_worked 137 = .ok (.aload_n 0, 1) := by decide +kernel
theorem dX9_worked_138 : decode cX9_worked 138 = .ok (.iload_n 2, 1) := by decide +kernel
theorem dX9_worked_139 : decode cX9_worked 139 = .ok (.invokevirtual 196, 3) := by decide +kernel
theorem dX9_worked_142 : decode cX9_worked 142 = .ok (.aload_n 0, 1) := by decide +kernel
theorem dX9_worked_143 : decode cX9_worked 143 = .ok (.getfield 57, 3) := by decide +kernel
theorem dX9_worked_146 : decode cX9_worked 146 = .ok (.iload_n 2, 1) := by decide +kernel
theorem dX9_worked_147 : decode cX9_worked 147 = .ok (.aload_n 0, 1) := by decide +kernel
theorem dX9_worked_148 : decode cX9_worked 148 = .ok (.getfield 63, 3) := by decide +kernel
theorem dX9_worked_151 : decode cX9_worked 151 = .ok (.iload_n 2, 1) := by decide +kernel
theorem dX9_worked_152 : decode cX9_worked 152 = .ok (.iaload, 1) := by decide +kernel
theorem dX9_worked_153 : decode cX9_worked 153 = .ok (.iastore, 1) := by decide +kernel
theorem dX9_worked_154 : decode cX9_worked 154 = .ok (.aload_n 0, 1) := by decide +kernel
theorem dX9_worked_155 : decode cX9_worked 155 = .ok (.getfield 60, 3) := by decide +kernel
theorem dX9_worked_158 : decode cX9_worked 158 = .ok (.iload_n 2, 1) := by decide +kernel
theorem dX9_worked_159 : decode cX9_worked 159 = .ok (.iload 4, 2) := by decide +kernel
theorem dX9_worked_161 : decode cX9_worked 161 = .ok (.iastore, 1) := by decide +kernel
theorem dX9_worked_162 : decode cX9_worked 162 = .ok (.aload_n 0, 1) := by decide +kernel
theorem dX9_worked_163 : decode cX9_worked 163 = .ok (.getfield 63, 3) := by decide +kernel
theorem dX9_worked_166 : decode cX9_worked 166 = .ok (.iload_n 2, 1) := by decide +kernel
theorem dX9_worked_167 : decode cX9_worked 167 = .ok (.iconst 0, 1) := by decide +kernel
theorem dX9_worked_168 : decode cX9_worked 168 = .ok (.iastore, 1) := by decide +kernel
theorem dX9_worked_169 : decode cX9_worked 169 = .ok (.aload_n 0, 1) := by decide +kernel
theorem dX9_worked_170 : decode cX9_worked 170 = .ok (.getfield 66, 3) := by decide +kernel
theorem dX9_worked_173 : decode cX9_worked 173 = .ok (.iload_n 2, 1) := by decide +kernel
theorem dX9_worked_174 : decode cX9_worked 174 = .ok (.bipush 20, 2) := by decide +kernel
theorem dX9_worked_176 : decode cX9_worked 176 = .ok (.iastore, 1) := by decide +kernel
theorem dX9_worked_177 : decode cX9_worked 177 = .ok (.goto 152, 3) := by decide +kernel
theorem dX9_worked_180 : decode cX9_worked 180 = .ok (.iload 4, 2) := by decide +kernel
theorem dX9_worked_182 : decode cX9_worked 182 = .ok (.bipush 26, 2) := by decide +kernel
theorem dX9_worked_184 : decode cX9_worked 184 = .ok (.if_icmp .eq 10, 3) := by decide +kernel
theorem dX9_worked_187 : decode cX9_worked 187 = .ok (.iload 4, 2) := by decide +kernel
theorem dX9_worked_189 : decode cX9_worked 189 = .ok (.bipush 27, 2) := by decide +kernel
theorem dX9_worked_191 : decode cX9_worked 191 = .ok (.if_icmp .ne 19, 3) := by decide +kernel
theorem dX9_worked_194 : decode cX9_worked 194 = .ok (.aload_n 0, 1) := by decide +kernel
theorem dX9_worked_195 : decode cX9_worked 195 = .ok (.iload_n 2, 1) := by decide +kernel
theorem dX9_worked_196 : decode cX9_worked 196 = .ok (.invokevirtual 202, 3) := by decide +kernel
theorem dX9_worked_199 : decode cX9_worked 199 = .ok (.aload_n 0, 1) := by decide +kernel
theorem dX9_worked_200 : decode cX9_worked 200 = .ok (.getfield 54, 3) := by decide +kernel
theorem dX9_worked_203 : decode cX9_worked 203 = .ok (.iload_n 2, 1) := by decide +kernel
theorem dX9_worked_204 : decode cX9_worked 204 = .ok (.iload 4, 2) := by decide +kernel
theorem dX9_worked_206 : decode cX9_worked 206 = .ok (.iastore, 1) := by decide +kernel
theorem dX9_worked_207 : decode cX9_worked 207 = .ok (.goto 122, 3) := by decide +kernel
theorem dX9_worked_210 : decode cX9_worked 210 = .ok (.iload 4, 2) := by decide +kernel
theorem dX9_worked_212 : decode cX9_worked 212 = .ok (.bipush 100, 2) := by decide +kernel
theorem dX9_worked_214 : decode cX9_worked 214 = .ok (.if_icmp .lt 11, 3) := by decide +kernel
theorem dX9_worked_217 : decode cX9_worked 217 = .ok (.iload 4, 2) := by decide +kernel
theorem dX9_worked_219 : decode cX9_worked 219 = .ok (.bipush 100, 2) := by decide +kernel
theorem dX9_worked_221 : decode cX9_worked 221 = .ok (.isub, 1) := by decide +kernel
theorem dX9_worked_222 : decode cX9_worked 222 = .ok (.goto 21, 3) := by decide +kernel
theorem dX9_worked_225 : decode cX9_worked 225 = .ok (.iload 4, 2) := by decide +kernel
theorem dX9_worked_227 : decode cX9_worked 227 = .ok (.bipush 20, 2) := by decide +kernel
theorem dX9_worked_229 : decode cX9_worked 229 = .ok (.if_icmp .ge 13, 3) := by decide +kernel
theorem dX9_worked_232 : decode cX9_worked 232 = .ok (.aload_n 0, 1) := by decide +kernel
theorem dX9_worked_233 : decode cX9_worked 233 = .ok (.getfield 78, 3) := by decide +kernel
theorem dX9_worked_236 : decode cX9_worked 236 = .ok (.iload 4, 2) := by decide +kernel
theorem dX9_worked_238 : decode cX9_worked 238 = .ok (.iaload, 1) := by decide +kernel
theorem dX9_worked_239 : decode cX9_worked 239 = .ok (.goto 4, 3) := by decide +kernel
theorem dX9_worked_242 : decode cX9_worked 242 = .ok (.iconst 0, 1) := by decide +kernel
theorem dX9_worked_243 : decode cX9_worked 243 = .ok (.istore 5, 2) := by decide +kernel
theorem dX9_worked_245 : decode cX9_worked 245 = .ok (.iload 4, 2) := by decide +kernel
theorem dX9_worked_247 : decode cX9_worked 247 = .ok (.bipush 29, 2) := by decide +kernel
theorem dX9_worked_249 : decode cX9_worked 249 = .ok (.if_icmp .ne 19, 3) := by decide +kernel
theorem dX9_worked_252 : decode cX9_worked 252 = .ok (.aload_n 0, 1) := by decide +kernel
theorem dX9_worked_253 : decode cX9_worked 253 = .ok (.iload_n 2, 1) := by decide +kernel
theorem dX9_worked_254 : decode cX9_worked 254 = .ok (.invokevirtual 202, 3) := by decide +kernel
theorem dX9_worked_257 : decode cX9_worked 257 = .ok (.aload_n 0, 1) := by decide +kernel
theorem dX9_worked_258 : decode cX9_worked 258 = .ok (.getfield 51, 3) := by decide +kernel
theorem dX9_worked_261 : decode cX9_worked 261 = .ok (.iload_n 2, 1) := by decide +kernel
theorem dX9_worked_262 : decode cX9_worked 262 = .ok (.iaload, 1) := by decide +kernel
theorem dX9_worked_263 : decode cX9_worked 263 = .ok (.istore 5, 2) := by decide +kernel
theorem dX9_worked_265 : decode cX9_worked 265 = .ok (.iinc 2 (-1), 3) := by decide +kernel
theorem dX9_worked_268 : decode cX9_worked 268 = .ok (.iload_n 2, 1) := by decide +kernel
theorem dX9_worked_269 : decode cX9_worked 269 = .ok (.ifCond .le 31, 3) := by decide +kernel
theorem dX9_worked_272 : decode cX9_worked 272 = .ok (.aload_n 0, 1) := by decide +kernel
theorem dX9_worked_273 : decode cX9_worked 273 = .ok (.getfield 75, 3) := by decide +kernel
theorem dX9_worked_276 : decode cX9_worked 276 = .ok (.iload_n 2, 1) := by decide +kernel
theorem dX9_worked_277 : decode cX9_worked 277 = .ok (.iaload, 1) := by decide +kernel
theorem dX9_worked_278 : decode cX9_worked 278 = .ok (.iconst 1, 1) := by decide +kernel
theorem dX9_worked_279 : decode cX9_worked 279 = .ok (.if_icmp .ne 21, 3) := by decide +kernel
theorem dX9_worked_282 : decode cX9_worked 282 = .ok (.iload 5, 2) := by decide +kernel
theorem dX9_worked_284 : decode cX9_worked 284 = .ok (.ifCond .ne 7, 3) := by decide +kernel
theorem dX9_worked_287 : decode cX9_worked 287 = .ok (.iconst 1, 1) := by decide +kernel
theorem dX9_worked_288 : decode cX9_worked 288 = .ok (.goto 4, 3) := by decide +kernel
theorem dX9_worked_291 : decode cX9_worked 291 = .ok (.iconst 0, 1) := by decide +kernel
theorem dX9_worked_292 : decode cX9_worked 292 = .ok (.istore 5, 2) := by decide +kernel
theorem dX9_worked_294 : decode cX9_worked 294 = .ok (.iinc 2 (-1), 3) := by decide +kernel
theorem dX9_worked_297 : decode cX9_worked 297 = .ok (.goto (-29), 3) := by decide +kernel
theorem dX9_worked_300 : decode cX9_worked 300 = .ok (.aload_n 0, 1) := by decide +kernel
theorem dX9_worked_301 : decode cX9_worked 301 = .ok (.getfield 69, 3) := by decide +kernel
theorem dX9_worked_304 : decode cX9_worked 304 = .ok (.iload_n 2, 1) := by decide +kernel
theorem dX9_worked_305 : decode cX9_worked 305 = .ok (.aload_n 0, 1) := by decide +kernel
theorem dX9_worked_306 : decode cX9_worked 306 = .ok (.getfield 72, 3) := by decide +kernel
theorem dX9_worked_309 : decode cX9_worked 309 = .ok (.iload_n 2, 1) := by decide +kernel
theorem dX9_worked_310 : decode cX9_worked 310 = .ok (.iaload, 1) := by decide +kernel
theorem dX9_worked_311 : decode cX9_worked 311 = .ok (.ifCond .ne 8, 3) := by decide +kernel
theorem dX9_worked_314 : decode cX9_worked 314 = .ok (.iload 5, 2) := by decide +kernel
theorem dX9_worked_316 : decode cX9_worked 316 = .ok (.goto 12, 3) := by decide +kernel
theorem dX9_worked_319 : decode cX9_worked 319 = .ok (.aload_n 0, 1) := by decide +kernel
theorem dX9_worked_320 : decode cX9_worked 320 = .ok (.getfield 69, 3) := by decide +kernel
theorem dX9_worked_323 : decode cX9_worked 323 = .ok (.iload_n 2, 1) := by decide +kernel
theorem dX9_worked_324 : decode cX9_worked 324 = .ok (.iaload, 1) := by decide +kernel
theorem dX9_worked_325 : decode cX9_worked 325 = .ok (.iload 5, 2) := by decide +kernel
theorem dX9_worked_327 : decode cX9_worked 327 = .ok (.imul, 1) := by decide +kernel
theorem dX9_worked_328 : decode cX9_worked 328 = .ok (.iastore, 1) := by decide +kernel
theorem dX9_worked_329 : decode cX9_worked 329 = .ok (.iinc 3 1, 3) := by decide +kernel
theorem dX9_worked_332 : decode cX9_worked 332 = .ok (.goto (-318), 3) := by decide +kernel
theorem dX9_worked_335 : decode cX9_worked 335 = .ok (.aload_n 0, 1) := by decide +kernel
theorem dX9_worked_336 : decode cX9_worked 336 = .ok (.iconst 0, 1) := by decide +kernel
theorem dX9_worked_337 : decode cX9_worked 337 = .ok (.invokevirtual 202, 3) := by decide +kernel
theorem dX9_worked_340 : decode cX9_worked 340 = .ok (.aload_n 0, 1) := by decide +kernel
theorem dX9_worked_341 : decode cX9_worked 341 = .ok (.getfield 51, 3) := by decide +kernel
theorem dX9_worked_344 : decode cX9_worked 344 = .ok (.iconst 0, 1) := by decide +kernel
theorem dX9_worked_345 : decode cX9_worked 345 = .ok (.iaload, 1) := by decide +kernel
theorem dX9_worked_346 : decode cX9_worked 346 = .ok (.ireturn, 1) := by decide +kernel
theorem dX9_isKept_0 : decode cX9_isKept 0 = .ok (.aload_n 0, 1) := by decide +kernel
theorem dX9_isKept_1 : decode cX9_isKept 1 = .ok (.getfield 134, 3) := by decide +kernel
theorem dX9_isKept_4 : decode cX9_isKept 4 = .ok (.iconst 1, 1) := by decide +kernel
theorem dX9_isKept_5 : decode cX9_isKept 5 = .ok (.if_icmp .eq 5, 3) := by decide +kernel
theorem dX9_isKept_8 : decode cX9_isKept 8 = .ok (.iconst 1, 1) := by decide +kernel
theorem dX9_isKept_9 : decode cX9_isKept 9 = .ok (.ireturn, 1) := by decide +kernel
theorem dX9_isKept_10 : decode cX9_isKept 10 = .ok (.aload_n 0, 1) := by decide +kernel
theorem dX9_isKept_11 : decode cX9_isKept 11 = .ok (.getfield 127, 3) := by decide +kernel
theorem dX9_isKept_14 : decode cX9_isKept 14 = .ok (.ldc2_w 163, 3) := by decide +kernel
theorem dX9_isKept_17 : decode cX9_isKept 17 = .ok (.lcmp, 1) := by decide +kernel
theorem dX9_isKept_18 : decode cX9_isKept 18 = .ok (.ifCond .eq 212, 3) := by decide +kernel
theorem dX9_isKept_21 : decode cX9_isKept 21 = .ok (.aload_n 0, 1) := by decide +kernel
theorem dX9_isKept_22 : decode cX9_isKept 22 = .ok (.getfield 127, 3) := by decide +kernel
theorem dX9_isKept_25 : decode cX9_isKept 25 = .ok (.ldc2_w 205, 3) := by decide +kernel
theorem dX9_isKept_28 : decode cX9_isKept 28 = .ok (.lcmp, 1) := by decide +kernel
theorem dX9_isKept_29 : decode cX9_isKept 29 = .ok (.ifCond .eq 201, 3) := by decide +kernel
theorem dX9_isKept_32 : decode cX9_isKept 32 = .ok (.aload_n 0, 1) := by decide +kernel
theorem dX9_isKept_33 : decode cX9_isKept 33 = .ok (.getfield 127, 3) := by decide +kernel
theorem dX9_isKept_36 : decode cX9_isKept 36 = .ok (.ldc2_w 207, 3) := by decide +kernel
theorem dX9_isKept_39 : decode cX9_isKept 39 = .ok (.lcmp, 1) := by decide +kernel
theorem dX9_isKept_40 : decode cX9_isKept 40 = .ok (.ifCond .eq 190, 3) := by decide +kernel
theorem dX9_isKept_43 : decode cX9_isKept 43 = .ok (.aload_n 0, 1) := by decide +kernel
theorem dX9_isKept_44 : decode cX9_isKept 44 = .ok (.getfield 127, 3) := by decide +kernel
theorem dX9_isKept_47 : decode cX9_isKept 47 = .ok (.ldc2_w 209, 3) := by decide +kernel
theorem dX9_isKept_50 : decode cX9_isKept 50 = .ok (.lcmp, 1) := by decide +kernel
theorem dX9_isKept_51 : decode cX9_isKept 51 = .ok (.ifCond .eq 179, 3) := by decide +kernel
theorem dX9_isKept_54 : decode cX9_isKept 54 = .ok (.aload_n 0, 1) := by decide +kernel
theorem dX9_isKept_55 : decode cX9_isKept 55 = .ok (.getfield 127, 3) := by decide +kernel
theorem dX9_isKept_58 : decode cX9_isKept 58 = .ok (.ldc2_w 211, 3) := by decide +kernel
theorem dX9_isKept_61 : decode cX9_isKept 61 = .ok (.lcmp, 1) := by decide +kernel
theorem dX9_isKept_62 : decode cX9_isKept 62 = .ok (.ifCond .eq 168, 3) := by decide +kernel
theorem dX9_isKept_65 : decode cX9_isKept 65 = .ok (.aload_n 0, 1) := by decide +kernel
theorem dX9_isKept_66 : decode cX9_isKept 66 = .ok (.getfield 127, 3) := by decide +kernel
theorem dX9_isKept_69 : decode cX9_isKept 69 = .ok (.ldc2_w 213, 3) := by decide +kernel
theorem dX9_isKept_72 : decode cX9_isKept 72 = .ok (.lcmp, 1) := by decide +kernel
theorem dX9_isKept_73 : decode cX9_isKept 73 = .ok (.ifCond .eq 157, 3) := by decide +kernel
theorem dX9_isKept_76 : decode cX9_isKept 76 = .ok (.aload_n 0, 1) := by decide +kernel
theorem dX9_isKept_77 : decode cX9_isKept 77 = .ok (.getfield 127, 3) := by decide +kernel
theorem dX9_isKept_80 : decode cX9_isKept 80 = .ok (.ldc2_w 215, 3) := by decide +kernel
theorem dX9_isKept_83 : decode cX9_isKept 83 = .ok (.lcmp, 1) := by decide +kernel
theorem dX9_isKept_84 : decode cX9_isKept 84 = .ok (.ifCond .eq 146, 3) := by decide +kernel
theorem dX9_isKept_87 : decode cX9_isKept 87 = .ok (.aload_n 0, 1) := by decide +kernel
theorem dX9_isKept_88 : decode cX9_isKept 88 = .ok (.getfield 127, 3) := by decide +kernel
theorem dX9_isKept_91 : decode cX9_isKept 91 = .ok (.ldc2_w 217, 3) := by decide +kernel
theorem dX9_isKept_94 : decode cX9_isKept 94 = .ok (.lcmp, 1) := by decide +kernel
theorem dX9_isKept_95 : decode cX9_isKept 95 = .ok (.ifCond .eq 135, 3) := by decide +kernel
theorem dX9_isKept_98 : decode cX9_isKept 98 = .ok (.aload_n 0, 1) := by decide +kernel
theorem dX9_isKept_99 : decode cX9_isKept 99 = .ok (.getfield 127, 3) := by decide +kernel
theorem dX9_isKept_102 : decode cX9_isKept 102 = .ok (.ldc2_w 219, 3) := by decide +kernel
theorem dX9_isKept_105 : decode cX9_isKept 105 = .ok (.lcmp, 1) := by decide +kernel
theorem dX9_isKept_106 : decode cX9_isKept 106 = .ok (.ifCond .eq 124, 3) := by decide +kernel
theorem dX9_isKept_109 : decode cX9_isKept 109 = .ok (.aload_n 0, 1) := by decide +kernel
theorem dX9_isKept_110 : decode cX9_isKept 110 = .ok (.getfield 127, 3) := by decide +kernel
theorem dX9_isKept_113 : decode cX9_isKept 113 = .ok (.ldc2_w 221, 3) := by decide +kernel
theorem dX9_isKept_116 : decode cX9_isKept 116 = .ok (.lcmp, 1) := by decide +kernel
theorem dX9_isKept_117 : decode cX9_isKept 117 = .ok (.ifCond .eq 113, 3) := by decide +kernel
theorem dX9_isKept_120 : decode cX9_isKept 120 = .ok (.aload_n 0, 1) := by decide +kernel
theorem dX9_isKept_121 : decode cX9_isKept 121 = .ok (.getfield 127, 3) := by decide +kernel
theorem dX9_isKept_124 : decode cX9_isKept 124 = .ok (.ldc2_w 155, 3) := by decide +kernel
theorem dX9_isKept_127 : decode cX9_isKept 127 = .ok (.lcmp, 1) := by decide +kernel
theorem dX9_isKept_128 : decode cX9_isKept 128 = .ok (.ifCond .eq 102, 3) := by decide +kernel
theorem dX9_isKept_131 : decode cX9_isKept 131 = .ok (.aload_n 0, 1) := by decide +kernel
theorem dX9_isKept_132 : decode cX9_isKept 132 = .ok (.getfield 127, 3) := by decide +kernel
theorem dX9_isKept_135 : decode cX9_isKept 135 = .ok (.ldc2_w 223, 3) := by decide +kernel
theorem dX9_isKept_138 : decode cX9_isKept 138 = .ok (.lcmp, 1) := by decide +kernel
theorem dX9_isKept_139 : decode cX9_isKept 139 = .ok (.ifCond .eq 91, 3) := by decide +kernel
theorem dX9_isKept_142 : decode cX9_isKept 142 = .ok (.aload_n 0, 1) := by decide +kernel
theorem dX9_isKept_143 : decode cX9_isKept 143 = .ok (.getfield 127, 3) := by decide +kernel
theorem dX9_isKept_146 : decode cX9_isKept 146 = .ok (.ldc2_w 225, 3) := by decide +kernel
theorem dX9_isKept_149 : decode cX9_isKept 149 = .ok (.lcmp, 1) := by decide +kernel
theorem dX9_isKept_150 : decode cX9_isKept 150 = .ok (.ifCond .eq 80, 3) := by decide +kernel
theorem dX9_isKept_153 : decode cX9_isKept 153 = .ok (.aload_n 0, 1) := by decide +kernel
theorem dX9_isKept_154 : decode cX9_isKept 154 = .ok (.getfield 127, 3) := by decide +kernel
theorem dX9_isKept_157 : decode cX9_isKept 157 = .ok (.ldc2_w 227, 3) := by decide +kernel
theorem dX9_isKept_160 : decode cX9_isKept 160 = .ok (.lcmp, 1) := by decide +kernel
theorem dX9_isKept_161 : decode cX9_isKept 161 = .ok (.ifCond .eq 69, 3) := by decide +kernel
theorem dX9_isKept_164 : decode cX9_isKept 164 = .ok (.aload_n 0, 1) := by decide +kernel
theorem dX9_isKept_165 : decode cX9_isKept 165 = .ok (.getfield 127, 3) := by decide +kernel
theorem dX9_isKept_168 : decode cX9_isKept 168 = .ok (.ldc2_w 229, 3) := by decide +kernel
theorem dX9_isKept_171 : decode cX9_isKept 171 = .ok (.lcmp, 1) := by decide +kernel
theorem dX9_isKept_172 : decode cX9_isKept 172 = .ok (.ifCond .eq 58, 3) := by decide +kernel
theorem dX9_isKept_175 : decode cX9_isKept 175 = .ok (.aload_n 0, 1) := by decide +kernel
theorem dX9_isKept_176 : decode cX9_isKept 176 = .ok (.getfield 127, 3) := by decide +kernel
theorem dX9_isKept_179 : decode cX9_isKept 179 = .ok (.ldc2_w 231, 3) := by decide +kernel
theorem dX9_isKept_182 : decode cX9_isKept 182 = .ok (.lcmp, 1) := by decide +kernel
theorem dX9_isKept_183 : decode cX9_isKept 183 = .ok (.ifCond .eq 47, 3) := by decide +kernel
theorem dX9_isKept_186 : decode cX9_isKept 186 = .ok (.aload_n 0, 1) := by decide +kernel
theorem dX9_isKept_187 : decode cX9_isKept 187 = .ok (.getfield 127, 3) := by decide +kernel
theorem dX9_isKept_190 : decode cX9_isKept 190 = .ok (.ldc2_w 233, 3) := by decide +kernel
theorem dX9_isKept_193 : decode cX9_isKept 193 = .ok (.lcmp, 1) := by decide +kernel
theorem dX9_isKept_194 : decode cX9_isKept 194 = .ok (.ifCond .eq 36, 3) := by decide +kernel
theorem dX9_isKept_197 : decode cX9_isKept 197 = .ok (.aload_n 0, 1) := by decide +kernel
theorem dX9_isKept_198 : decode cX9_isKept 198 = .ok (.getfield 127, 3) := by decide +kernel
theorem dX9_isKept_201 : decode cX9_isKept 201 = .ok (.ldc2_w 173, 3) := by decide +kernel
theorem dX9_isKept_204 : decode cX9_isKept 204 = .ok (.lcmp, 1) := by decide +kernel
theorem dX9_isKept_205 : decode cX9_isKept 205 = .ok (.ifCond .eq 25, 3) := by decide +kernel
theorem dX9_isKept_208 : decode cX9_isKept 208 = .ok (.aload_n 0, 1) := by decide +kernel
theorem dX9_isKept_209 : decode cX9_isKept 209 = .ok (.getfield 127, 3) := by decide +kernel
theorem dX9_isKept_212 : decode cX9_isKept 212 = .ok (.ldc2_w 192, 3) := by decide +kernel
theorem dX9_isKept_215 : decode cX9_isKept 215 = .ok (.lcmp, 1) := by decide +kernel
theorem dX9_isKept_216 : decode cX9_isKept 216 = .ok (.ifCond .eq 14, 3) := by decide +kernel
theorem dX9_isKept_219 : decode cX9_isKept 219 = .ok (.aload_n 0, 1) := by decide +kernel
theorem dX9_isKept_220 : decode cX9_isKept 220 = .ok (.getfield 127, 3) := by decide +kernel
theorem dX9_isKept_223 : decode cX9_isKept 223 = .ok (.ldc2_w 194, 3) := by decide +kernel
theorem dX9_isKept_226 : decode cX9_isKept 226 = .ok (.lcmp, 1) := by decide +kernel
theorem dX9_isKept_227 : decode cX9_isKept 227 = .ok (.ifCond .ne 7, 3) := by decide +kernel
theorem dX9_isKept_230 : decode cX9_isKept 230 = .ok (.iconst 1, 1) := by decide +kernel
theorem dX9_isKept_231 : decode cX9_isKept 231 = .ok (.goto 4, 3) := by decide +kernel
theorem dX9_isKept_234 : decode cX9_isKept 234 = .ok (.iconst 0, 1) := by decide +kernel
theorem dX9_isKept_235 : decode cX9_isKept 235 = .ok (.ireturn, 1) := by decide +kernel
theorem dX9_needsNumber_0 : decode cX9_needsNumber 0 = .ok (.aload_n 0, 1) := by decide +kernel
theorem dX9_needsNumber_1 : decode cX9_needsNumber 1 = .ok (.getfield 134, 3) := by decide +kernel
theorem dX9_needsNumber_4 : decode cX9_needsNumber 4 = .ok (.iconst 2, 1) := by decide +kernel
theorem dX9_needsNumber_5 : decode cX9_needsNumber 5 = .ok (.if_icmp .eq 9, 3) := by decide +kernel
theorem dX9_needsNumber_8 : decode cX9_needsNumber 8 = .ok (.aload_n 0, 1) := by decide +kernel
theorem dX9_needsNumber_9 : decode cX9_needsNumber 9 = .ok (.iconst 1, 1) := by decide +kernel
theorem dX9_needsNumber_10 : decode cX9_needsNumber 10 = .ok (.invokevirtual 183, 3) := by decide +kernel
theorem dX9_needsNumber_13 : decode cX9_needsNumber 13 = .ok (.ireturn, 1) := by decide +kernel
theorem dX9_needsNumber_14 : decode cX9_needsNumber 14 = .ok (.aload_n 0, 1) := by decide +kernel
theorem dX9_needsNumber_15 : decode cX9_needsNumber 15 = .ok (.getfield 131, 3) := by decide +kernel
theorem dX9_needsNumber_18 : decode cX9_needsNumber 18 = .ok (.iload_n 1, 1) := by decide +kernel
theorem dX9_needsNumber_19 : decode cX9_needsNumber 19 = .ok (.iload_n 2, 1) := by decide +kernel
theorem dX9_needsNumber_20 : decode cX9_needsNumber 20 = .ok (.invokestatic 235, 3) := by decide +kernel
theorem dX9_needsNumber_23 : decode cX9_needsNumber 23 = .ok (.ifCond .ne 9, 3) := by decide +kernel
theorem dX9_needsNumber_26 : decode cX9_needsNumber 26 = .ok (.aload_n 0, 1) := by decide +kernel
theorem dX9_needsNumber_27 : decode cX9_needsNumber 27 = .ok (.iconst 4, 1) := by decide +kernel
theorem dX9_needsNumber_28 : decode cX9_needsNumber 28 = .ok (.invokevirtual 183, 3) := by decide +kernel
theorem dX9_needsNumber_31 : decode cX9_needsNumber 31 = .ok (.ireturn, 1) := by decide +kernel
theorem dX9_needsNumber_32 : decode cX9_needsNumber 32 = .ok (.aload_n 0, 1) := by decide +kernel
theorem dX9_needsNumber_33 : decode cX9_needsNumber 33 = .ok (.aload_n 0, 1) := by decide +kernel
theorem dX9_needsNumber_34 : decode cX9_needsNumber 34 = .ok (.getfield 131, 3) := by decide +kernel
theorem dX9_needsNumber_37 : decode cX9_needsNumber 37 = .ok (.putfield 239, 3) := by decide +kernel
theorem dX9_needsNumber_40 : decode cX9_needsNumber 40 = .ok (.aload_n 0, 1) := by decide +kernel
theorem dX9_needsNumber_41 : decode cX9_needsNumber 41 = .ok (.invokevirtual 189, 3) := by decide +kernel
theorem dX9_needsNumber_44 : decode cX9_needsNumber 44 = .ok (.iconst 1, 1) := by decide +kernel
theorem dX9_needsNumber_45 : decode cX9_needsNumber 45 = .ok (.ireturn, 1) := by decide +kernel
theorem dX9_needsWord_0 : decode cX9_needsWord 0 = .ok (.aload_n 0, 1) := by decide +kernel
theorem dX9_needsWord_1 : decode cX9_needsWord 1 = .ok (.lload_n 1, 1) := by decide +kernel
theorem dX9_needsWord_2 : decode cX9_needsWord 2 = .ok (.invokevirtual 175, 3) := by decide +kernel
theorem dX9_needsWord_5 : decode cX9_needsWord 5 = .ok (.ifCond .ne 9, 3) := by decide +kernel
theorem dX9_needsWord_8 : decode cX9_needsWord 8 = .ok (.aload_n 0, 1) := by decide +kernel
theorem dX9_needsWord_9 : decode cX9_needsWord 9 = .ok (.iconst 1, 1) := by decide +kernel
theorem dX9_needsWord_10 : decode cX9_needsWord 10 = .ok (.invokevirtual 183, 3) := by decide +kernel
theorem dX9_needsWord_13 : decode cX9_needsWord 13 = .ok (.ireturn, 1) := by decide +kernel
theorem dX9_needsWord_14 : decode cX9_needsWord 14 = .ok (.aload_n 0, 1) := by decide +kernel
theorem dX9_needsWord_15 : decode cX9_needsWord 15 = .ok (.invokevirtual 189, 3) := by decide +kernel
theorem dX9_needsWord_18 : decode cX9_needsWord 18 = .ok (.iconst 1, 1) := by decide +kernel
theorem dX9_needsWord_19 : decode cX9_needsWord 19 = .ok (.ireturn, 1) := by decide +kernel
theorem dX9_ends_0 : decode cX9_ends 0 = .ok (.aload_n 0, 1) := by decide +kernel
theorem dX9_ends_1 : decode cX9_ends 1 = .ok (.bipush 59, 2) := by decide +kernel
theorem dX9_ends_3 : decode cX9_ends 3 = .ok (.invokevirtual 179, 3) := by decide +kernel
theorem dX9_ends_6 : decode cX9_ends 6 = .ok (.ifCond .ne 9, 3) := by decide +kernel
theorem dX9_ends_9 : decode cX9_ends 9 = .ok (.aload_n 0, 1) := by decide +kernel
theorem dX9_ends_10 : decode cX9_ends 10 = .ok (.iconst 1, 1) := by decide +kernel
theorem dX9_ends_11 : decode cX9_ends 11 = .ok (.invokevirtual 183, 3) := by decide +kernel
theorem dX9_ends_14 : decode cX9_ends 14 = .ok (.ireturn, 1) := by decide +kernel
theorem dX9_ends_15 : decode cX9_ends 15 = .ok (.aload_n 0, 1) := by decide +kernel
theorem dX9_ends_16 : decode cX9_ends 16 = .ok (.invokevirtual 189, 3) := by decide +kernel
theorem dX9_ends_19 : decode cX9_ends 19 = .ok (.iconst 1, 1) := by decide +kernel
theorem dX9_ends_20 : decode cX9_ends 20 = .ok (.ireturn, 1) := by decide +kernel
theorem dX9_readsOne_0 : decode cX9_readsOne 0 = .ok (.aload_n 0, 1) := by decide +kernel
theorem dX9_readsOne_1 : decode cX9_readsOne 1 = .ok (.getfield 242, 3) := by decide +kernel
theorem dX9_readsOne_4 : decode cX9_readsOne 4 = .ok (.iload_n 1, 1) := by decide +kernel
theorem dX9_readsOne_5 : decode cX9_readsOne 5 = .ok (.ishr, 1) := by decide +kernel
theorem dX9_readsOne_6 : decode cX9_readsOne 6 = .ok (.iconst 1, 1) := by decide +kernel
theorem dX9_readsOne_7 : decode cX9_readsOne 7 = .ok (.iand, 1) := by decide +kernel
theorem dX9_readsOne_8 : decode cX9_readsOne 8 = .ok (.iconst 1, 1) := by decide +kernel
theorem dX9_readsOne_9 : decode cX9_readsOne 9 = .ok (.if_icmp .ne 9, 3) := by decide +kernel
theorem dX9_readsOne_12 : decode cX9_readsOne 12 = .ok (.aload_n 0, 1) := by decide +kernel
theorem dX9_readsOne_13 : decode cX9_readsOne 13 = .ok (.iconst 3, 1) := by decide +kernel
theorem dX9_readsOne_14 : decode cX9_readsOne 14 = .ok (.invokevirtual 183, 3) := by decide +kernel
theorem dX9_readsOne_17 : decode cX9_readsOne 17 = .ok (.ireturn, 1) := by decide +kernel
theorem dX9_readsOne_18 : decode cX9_readsOne 18 = .ok (.aload_n 0, 1) := by decide +kernel
theorem dX9_readsOne_19 : decode cX9_readsOne 19 = .ok (.dup, 1) := by decide +kernel
theorem dX9_readsOne_20 : decode cX9_readsOne 20 = .ok (.getfield 242, 3) := by decide +kernel
theorem dX9_readsOne_23 : decode cX9_readsOne 23 = .ok (.iconst 1, 1) := by decide +kernel
theorem dX9_readsOne_24 : decode cX9_readsOne 24 = .ok (.iload_n 1, 1) := by decide +kernel
theorem dX9_readsOne_25 : decode cX9_readsOne 25 = .ok (.ishl, 1) := by decide +kernel
theorem dX9_readsOne_26 : decode cX9_readsOne 26 = .ok (.ior, 1) := by decide +kernel
theorem dX9_readsOne_27 : decode cX9_readsOne 27 = .ok (.putfield 242, 3) := by decide +kernel
theorem dX9_readsOne_30 : decode cX9_readsOne 30 = .ok (.aload_n 0, 1) := by decide +kernel
theorem dX9_readsOne_31 : decode cX9_readsOne 31 = .ok (.invokevirtual 189, 3) := by decide +kernel
theorem dX9_readsOne_34 : decode cX9_readsOne 34 = .ok (.aload_n 0, 1) := by decide +kernel
theorem dX9_readsOne_35 : decode cX9_readsOne 35 = .ok (.iload_n 2, 1) := by decide +kernel
theorem dX9_readsOne_36 : decode cX9_readsOne 36 = .ok (.iload_n 3, 1) := by decide +kernel
theorem dX9_readsOne_37 : decode cX9_readsOne 37 = .ok (.invokevirtual 245, 3) := by decide +kernel
theorem dX9_readsOne_40 : decode cX9_readsOne 40 = .ok (.ifCond .ne 5, 3) := by decide +kernel
theorem dX9_readsOne_43 : decode cX9_readsOne 43 = .ok (.iconst 0, 1) := by decide +kernel
theorem dX9_readsOne_44 : decode cX9_readsOne 44 = .ok (.ireturn, 1) := by decide +kernel
theorem dX9_readsOne_45 : decode cX9_readsOne 45 = .ok (.aload_n 0, 1) := by decide +kernel
theorem dX9_readsOne_46 : decode cX9_readsOne 46 = .ok (.getfield 13, 3) := by decide +kernel
theorem dX9_readsOne_49 : decode cX9_readsOne 49 = .ok (.iconst 5, 1) := by decide +kernel
theorem dX9_readsOne_50 : decode cX9_readsOne 50 = .ok (.iload_n 1, 1) := by decide +kernel
theorem dX9_readsOne_51 : decode cX9_readsOne 51 = .ok (.iadd, 1) := by decide +kernel
theorem dX9_readsOne_52 : decode cX9_readsOne 52 = .ok (.aload_n 0, 1) := by decide +kernel
theorem dX9_readsOne_53 : decode cX9_readsOne 53 = .ok (.getfield 239, 3) := by decide +kernel
theorem dX9_readsOne_56 : decode cX9_readsOne 56 = .ok (.iastore, 1) := by decide +kernel
theorem dX9_readsOne_57 : decode cX9_readsOne 57 = .ok (.aload_n 0, 1) := by decide +kernel
theorem dX9_readsOne_58 : decode cX9_readsOne 58 = .ok (.invokevirtual 249, 3) := by decide +kernel
theorem dX9_readsOne_61 : decode cX9_readsOne 61 = .ok (.ireturn, 1) := by decide +kernel
theorem dX9_readsLaw_0 : decode cX9_readsLaw 0 = .ok (.aload_n 0, 1) := by decide +kernel
theorem dX9_readsLaw_1 : decode cX9_readsLaw 1 = .ok (.getfield 38, 3) := by decide +kernel
theorem dX9_readsLaw_4 : decode cX9_readsLaw 4 = .ok (.iconst 2, 1) := by decide +kernel
theorem dX9_readsLaw_5 : decode cX9_readsLaw 5 = .ok (.iload_n 1, 1) := by decide +kernel
theorem dX9_readsLaw_6 : decode cX9_readsLaw 6 = .ok (.iadd, 1) := by decide +kernel
theorem dX9_readsLaw_7 : decode cX9_readsLaw 7 = .ok (.iaload, 1) := by decide +kernel
theorem dX9_readsLaw_8 : decode cX9_readsLaw 8 = .ok (.aload_n 0, 1) := by decide +kernel
theorem dX9_readsLaw_9 : decode cX9_readsLaw 9 = .ok (.getfield 35, 3) := by decide +kernel
theorem dX9_readsLaw_12 : decode cX9_readsLaw 12 = .ok (.iconst 2, 1) := by decide +kernel
theorem dX9_readsLaw_13 : decode cX9_readsLaw 13 = .ok (.iload_n 1, 1) := by decide +kernel
theorem dX9_readsLaw_14 : decode cX9_readsLaw 14 = .ok (.iadd, 1) := by decide +kernel
theorem dX9_readsLaw_15 : decode cX9_readsLaw 15 = .ok (.iaload, 1) := by decide +kernel
theorem dX9_readsLaw_16 : decode cX9_readsLaw 16 = .ok (.if_icmp .le 9, 3) := by decide +kernel
theorem dX9_readsLaw_19 : decode cX9_readsLaw 19 = .ok (.aload_n 0, 1) := by decide +kernel
theorem dX9_readsLaw_20 : decode cX9_readsLaw 20 = .ok (.iconst 3, 1) := by decide +kernel
theorem dX9_readsLaw_21 : decode cX9_readsLaw 21 = .ok (.invokevirtual 183, 3) := by decide +kernel
theorem dX9_readsLaw_24 : decode cX9_readsLaw 24 = .ok (.ireturn, 1) := by decide +kernel
theorem dX9_readsLaw_25 : decode cX9_readsLaw 25 = .ok (.aload_n 0, 1) := by decide +kernel
theorem dX9_readsLaw_26 : decode cX9_readsLaw 26 = .ok (.iload_n 1, 1) := by decide +kernel
theorem dX9_readsLaw_27 : decode cX9_readsLaw 27 = .ok (.iconst 1, 1) := by decide +kernel
theorem dX9_readsLaw_28 : decode cX9_readsLaw 28 = .ok (.if_icmp .ne 7, 3) := by decide +kernel
theorem dX9_readsLaw_31 : decode cX9_readsLaw 31 = .ok (.iconst 1, 1) := by decide +kernel
theorem dX9_readsLaw_32 : decode cX9_readsLaw 32 = .ok (.goto 4, 3) := by decide +kernel
theorem dX9_readsLaw_35 : decode cX9_readsLaw 35 = .ok (.iconst 0, 1) := by decide +kernel
theorem dX9_readsLaw_36 : decode cX9_readsLaw 36 = .ok (.putfield 151, 3) := by decide +kernel
theorem dX9_readsLaw_39 : decode cX9_readsLaw 39 = .ok (.aload_n 0, 1) := by decide +kernel
theorem dX9_readsLaw_40 : decode cX9_readsLaw 40 = .ok (.invokevirtual 189, 3) := by decide +kernel
theorem dX9_readsLaw_43 : decode cX9_readsLaw 43 = .ok (.aload_n 0, 1) := by decide +kernel
theorem dX9_readsLaw_44 : decode cX9_readsLaw 44 = .ok (.getfield 35, 3) := by decide +kernel
theorem dX9_readsLaw_47 : decode cX9_readsLaw 47 = .ok (.iconst 2, 1) := by decide +kernel
theorem dX9_readsLaw_48 : decode cX9_readsLaw 48 = .ok (.iload_n 1, 1) := by decide +kernel
theorem dX9_readsLaw_49 : decode cX9_readsLaw 49 = .ok (.iadd, 1) := by decide +kernel
theorem dX9_readsLaw_50 : decode cX9_readsLaw 50 = .ok (.aload_n 0, 1) := by decide +kernel
theorem dX9_readsLaw_51 : decode cX9_readsLaw 51 = .ok (.getfield 148, 3) := by decide +kernel
theorem dX9_readsLaw_54 : decode cX9_readsLaw 54 = .ok (.iastore, 1) := by decide +kernel
theorem dX9_readsLaw_55 : decode cX9_readsLaw 55 = .ok (.aload_n 0, 1) := by decide +kernel
theorem dX9_readsLaw_56 : decode cX9_readsLaw 56 = .ok (.invokevirtual 253, 3) := by decide +kernel
theorem dX9_readsLaw_59 : decode cX9_readsLaw 59 = .ok (.ifCond .ne 5, 3) := by decide +kernel
theorem dX9_readsLaw_62 : decode cX9_readsLaw 62 = .ok (.iconst 0, 1) := by decide +kernel
theorem dX9_readsLaw_63 : decode cX9_readsLaw 63 = .ok (.ireturn, 1) := by decide +kernel
theorem dX9_readsLaw_64 : decode cX9_readsLaw 64 = .ok (.aload_n 0, 1) := by decide +kernel
theorem dX9_readsLaw_65 : decode cX9_readsLaw 65 = .ok (.getfield 38, 3) := by decide +kernel
theorem dX9_readsLaw_68 : decode cX9_readsLaw 68 = .ok (.iconst 2, 1) := by decide +kernel
theorem dX9_readsLaw_69 : decode cX9_readsLaw 69 = .ok (.iload_n 1, 1) := by decide +kernel
theorem dX9_readsLaw_70 : decode cX9_readsLaw 70 = .ok (.iadd, 1) := by decide +kernel
theorem dX9_readsLaw_71 : decode cX9_readsLaw 71 = .ok (.aload_n 0, 1) := by decide +kernel
theorem dX9_readsLaw_72 : decode cX9_readsLaw 72 = .ok (.getfield 148, 3) := by decide +kernel
theorem dX9_readsLaw_75 : decode cX9_readsLaw 75 = .ok (.iastore, 1) := by decide +kernel
theorem dX9_readsLaw_76 : decode cX9_readsLaw 76 = .ok (.iconst 1, 1) := by decide +kernel
theorem dX9_readsLaw_77 : decode cX9_readsLaw 77 = .ok (.ireturn, 1) := by decide +kernel
theorem dX9_kindAt_0 : decode cX9_kindAt 0 = .ok (.aload_n 0, 1) := by decide +kernel
theorem dX9_kindAt_1 : decode cX9_kindAt 1 = .ok (.ldc2_w 223, 3) := by decide +kernel
theorem dX9_kindAt_4 : decode cX9_kindAt 4 = .ok (.invokevirtual 175, 3) := by decide +kernel
theorem dX9_kindAt_7 : decode cX9_kindAt 7 = .ok (.ifCond .eq 7, 3) := by decide +kernel
theorem dX9_kindAt_10 : decode cX9_kindAt 10 = .ok (.iconst 0, 1) := by decide +kernel
theorem dX9_kindAt_11 : decode cX9_kindAt 11 = .ok (.goto 74, 3) := by decide +kernel
theorem dX9_kindAt_14 : decode cX9_kindAt 14 = .ok (.aload_n 0, 1) := by decide +kernel
theorem dX9_kindAt_15 : decode cX9_kindAt 15 = .ok (.ldc2_w 225, 3) := by decide +kernel
theorem dX9_kindAt_18 : decode cX9_kindAt 18 = .ok (.invokevirtual 175, 3) := by decide +kernel
theorem dX9_kindAt_21 : decode cX9_kindAt 21 = .ok (.ifCond .eq 7, 3) := by decide +kernel
theorem dX9_kindAt_24 : decode cX9_kindAt 24 = .ok (.iconst 1, 1) := by decide +kernel
theorem dX9_kindAt_25 : decode cX9_kindAt 25 = .ok (.goto 60, 3) := by decide +kernel
theorem dX9_kindAt_28 : decode cX9_kindAt 28 = .ok (.aload_n 0, 1) := by decide +kernel
theorem dX9_kindAt_29 : decode cX9_kindAt 29 = .ok (.ldc2_w 227, 3) := by decide +kernel
theorem dX9_kindAt_32 : decode cX9_kindAt 32 = .ok (.invokevirtual 175, 3) := by decide +kernel
theorem dX9_kindAt_35 : decode cX9_kindAt 35 = .ok (.ifCond .eq 7, 3) := by decide +kernel
theorem dX9_kindAt_38 : decode cX9_kindAt 38 = .ok (.iconst 2, 1) := by decide +kernel
theorem dX9_kindAt_39 : decode cX9_kindAt 39 = .ok (.goto 46, 3) := by decide +kernel
theorem dX9_kindAt_42 : decode cX9_kindAt 42 = .ok (.aload_n 0, 1) := by decide +kernel
theorem dX9_kindAt_43 : decode cX9_kindAt 43 = .ok (.ldc2_w 229, 3) := by decide +kernel
theorem dX9_kindAt_46 : decode cX9_kindAt 46 = .ok (.invokevirtual 175, 3) := by decide +kernel
theorem dX9_kindAt_49 : decode cX9_kindAt 49 = .ok (.ifCond .eq 7, 3) := by decide +kernel
theorem dX9_kindAt_52 : decode cX9_kindAt 52 = .ok (.iconst 3, 1) := by decide +kernel
theorem dX9_kindAt_53 : decode cX9_kindAt 53 = .ok (.goto 32, 3) := by decide +kernel
theorem dX9_kindAt_56 : decode cX9_kindAt 56 = .ok (.aload_n 0, 1) := by decide +kernel
theorem dX9_kindAt_57 : decode cX9_kindAt 57 = .ok (.ldc2_w 231, 3) := by decide +kernel
theorem dX9_kindAt_60 : decode cX9_kindAt 60 = .ok (.invokevirtual 175, 3) := by decide +kernel
theorem dX9_kindAt_63 : decode cX9_kindAt 63 = .ok (.ifCond .eq 7, 3) := by decide +kernel
theorem dX9_kindAt_66 : decode cX9_kindAt 66 = .ok (.iconst 4, 1) := by decide +kernel
theorem dX9_kindAt_67 : decode cX9_kindAt 67 = .ok (.goto 18, 3) := by decide +kernel
theorem dX9_kindAt_70 : decode cX9_kindAt 70 = .ok (.aload_n 0, 1) := by decide +kernel
theorem dX9_kindAt_71 : decode cX9_kindAt 71 = .ok (.ldc2_w 233, 3) := by decide +kernel
theorem dX9_kindAt_74 : decode cX9_kindAt 74 = .ok (.invokevirtual 175, 3) := by decide +kernel
theorem dX9_kindAt_77 : decode cX9_kindAt 77 = .ok (.ifCond .eq 7, 3) := by decide +kernel
theorem dX9_kindAt_80 : decode cX9_kindAt 80 = .ok (.iconst 5, 1) := by decide +kernel
theorem dX9_kindAt_81 : decode cX9_kindAt 81 = .ok (.goto 4, 3) := by decide +kernel
theorem dX9_kindAt_84 : decode cX9_kindAt 84 = .ok (.iconst (-1), 1) := by decide +kernel
theorem dX9_kindAt_85 : decode cX9_kindAt 85 = .ok (.ireturn, 1) := by decide +kernel
theorem dX9_readsKite_0 : decode cX9_readsKite 0 = .ok (.aload_n 0, 1) := by decide +kernel
theorem dX9_readsKite_1 : decode cX9_readsKite 1 = .ok (.getfield 13, 3) := by decide +kernel
theorem dX9_readsKite_4 : decode cX9_readsKite 4 = .ok (.bipush 9, 2) := by decide +kernel
theorem dX9_readsKite_6 : decode cX9_readsKite 6 = .ok (.iaload, 1) := by decide +kernel
theorem dX9_readsKite_7 : decode cX9_readsKite 7 = .ok (.bipush 6, 2) := by decide +kernel
theorem dX9_readsKite_9 : decode cX9_readsKite 9 = .ok (.if_icmp .ne 9, 3) := by decide +kernel
theorem dX9_readsKite_12 : decode cX9_readsKite 12 = .ok (.aload_n 0, 1) := by decide +kernel
theorem dX9_readsKite_13 : decode cX9_readsKite 13 = .ok (.iconst 5, 1) := by decide +kernel
theorem dX9_readsKite_14 : decode cX9_readsKite 14 = .ok (.invokevirtual 183, 3) := by decide +kernel
theorem dX9_readsKite_17 : decode cX9_readsKite 17 = .ok (.ireturn, 1) := by decide +kernel
theorem dX9_readsKite_18 : decode cX9_readsKite 18 = .ok (.bipush 6, 2) := by decide +kernel
theorem dX9_readsKite_20 : decode cX9_readsKite 20 = .ok (.aload_n 0, 1) := by decide +kernel
theorem dX9_readsKite_21 : decode cX9_readsKite 21 = .ok (.getfield 13, 3) := by decide +kernel
theorem dX9_readsKite_24 : decode cX9_readsKite 24 = .ok (.bipush 9, 2) := by decide +kernel
theorem dX9_readsKite_26 : decode cX9_readsKite 26 = .ok (.iaload, 1) := by decide +kernel
theorem dX9_readsKite_27 : decode cX9_readsKite 27 = .ok (.iadd, 1) := by decide +kernel
theorem dX9_readsKite_28 : decode cX9_readsKite 28 = .ok (.istore_n 1, 1) := by decide +kernel
theorem dX9_readsKite_29 : decode cX9_readsKite 29 = .ok (.aload_n 0, 1) := by decide +kernel
theorem dX9_readsKite_30 : decode cX9_readsKite 30 = .ok (.invokevirtual 189, 3) := by decide +kernel
theorem dX9_readsKite_33 : decode cX9_readsKite 33 = .ok (.aload_n 0, 1) := by decide +kernel
theorem dX9_readsKite_34 : decode cX9_readsKite 34 = .ok (.invokevirtual 256, 3) := by decide +kernel
theorem dX9_readsKite_37 : decode cX9_readsKite 37 = .ok (.ifCond .eq 9, 3) := by decide +kernel
theorem dX9_readsKite_40 : decode cX9_readsKite 40 = .ok (.aload_n 0, 1) := by decide +kernel
theorem dX9_readsKite_41 : decode cX9_readsKite 41 = .ok (.iconst 1, 1) := by decide +kernel
theorem dX9_readsKite_42 : decode cX9_readsKite 42 = .ok (.invokevirtual 183, 3) := by decide +kernel
theorem dX9_readsKite_45 : decode cX9_readsKite 45 = .ok (.ireturn, 1) := by decide +kernel
theorem dX9_readsKite_46 : decode cX9_readsKite 46 = .ok (.iconst 0, 1) := by decide +kernel
theorem dX9_readsKite_47 : decode cX9_readsKite 47 = .ok (.istore_n 2, 1) := by decide +kernel
theorem dX9_readsKite_48 : decode cX9_readsKite 48 = .ok (.iload_n 2, 1) := by decide +kernel
theorem dX9_readsKite_49 : decode cX9_readsKite 49 = .ok (.aload_n 0, 1) := by decide +kernel
theorem dX9_readsKite_50 : decode cX9_readsKite 50 = .ok (.getfield 13, 3) := by decide +kernel
theorem dX9_readsKite_53 : decode cX9_readsKite 53 = .ok (.bipush 9, 2) := by decide +kernel
theorem dX9_readsKite_55 : decode cX9_readsKite 55 = .ok (.iaload, 1) := by decide +kernel
theorem dX9_readsKite_56 : decode cX9_readsKite 56 = .ok (.if_icmp .ge 29, 3) := by decide +kernel
theorem dX9_readsKite_59 : decode cX9_readsKite 59 = .ok (.aload_n 0, 1) := by decide +kernel
theorem dX9_readsKite_60 : decode cX9_readsKite 60 = .ok (.getfield 31, 3) := by decide +kernel
theorem dX9_readsKite_63 : decode cX9_readsKite 63 = .ok (.iload_n 2, 1) := by decide +kernel
theorem dX9_readsKite_64 : decode cX9_readsKite 64 = .ok (.laload, 1) := by decide +kernel
theorem dX9_readsKite_65 : decode cX9_readsKite 65 = .ok (.aload_n 0, 1) := by decide +kernel
theorem dX9_readsKite_66 : decode cX9_readsKite 66 = .ok (.getfield 127, 3) := by decide +kernel
theorem dX9_readsKite_69 : decode cX9_readsKite 69 = .ok (.lcmp, 1) := by decide +kernel
theorem dX9_readsKite_70 : decode cX9_readsKite 70 = .ok (.ifCond .ne 9, 3) := by decide +kernel
theorem dX9_readsKite_73 : decode cX9_readsKite 73 = .ok (.aload_n 0, 1) := by decide +kernel
theorem dX9_readsKite_74 : decode cX9_readsKite 74 = .ok (.iconst 3, 1) := by decide +kernel
theorem dX9_readsKite_75 : decode cX9_readsKite 75 = .ok (.invokevirtual 183, 3) := by decide +kernel
theorem dX9_readsKite_78 : decode cX9_readsKite 78 = .ok (.ireturn, 1) := by decide +kernel
theorem dX9_readsKite_79 : decode cX9_readsKite 79 = .ok (.iinc 2 1, 3) := by decide +kernel
theorem dX9_readsKite_82 : decode cX9_readsKite 82 = .ok (.goto (-34), 3) := by decide +kernel
theorem dX9_readsKite_85 : decode cX9_readsKite 85 = .ok (.aload_n 0, 1) := by decide +kernel
theorem dX9_readsKite_86 : decode cX9_readsKite 86 = .ok (.getfield 31, 3) := by decide +kernel
theorem dX9_readsKite_89 : decode cX9_readsKite 89 = .ok (.aload_n 0, 1) := by decide +kernel
theorem dX9_readsKite_90 : decode cX9_readsKite 90 = .ok (.getfield 13, 3) := by decide +kernel
theorem dX9_readsKite_93 : decode cX9_readsKite 93 = .ok (.bipush 9, 2) := by decide +kernel
theorem dX9_readsKite_95 : decode cX9_readsKite 95 = .ok (.iaload, 1) := by decide +kernel
theorem dX9_readsKite_96 : decode cX9_readsKite 96 = .ok (.aload_n 0, 1) := by decide +kernel
theorem dX9_readsKite_97 : decode cX9_readsKite 97 = .ok (.getfield 127, 3) := by decide +kernel
theorem dX9_readsKite_100 : decode cX9_readsKite 100 = .ok (.lastore, 1) := by decide +kernel
theorem dX9_readsKite_101 : decode cX9_readsKite 101 = .ok (.aload_n 0, 1) := by decide +kernel
theorem dX9_readsKite_102 : decode cX9_readsKite 102 = .ok (.invokevirtual 189, 3) := by decide +kernel
theorem dX9_readsKite_105 : decode cX9_readsKite 105 = .ok (.aload_n 0, 1) := by decide +kernel
theorem dX9_readsKite_106 : decode cX9_readsKite 106 = .ok (.getfield 16, 3) := by decide +kernel
theorem dX9_readsKite_109 : decode cX9_readsKite 109 = .ok (.iload_n 1, 1) := by decide +kernel
theorem dX9_readsKite_110 : decode cX9_readsKite 110 = .ok (.aload_n 0, 1) := by decide +kernel
theorem dX9_readsKite_111 : decode cX9_readsKite 111 = .ok (.invokevirtual 259, 3) := by decide +kernel
theorem dX9_readsKite_114 : decode cX9_readsKite 114 = .ok (.iastore, 1) := by decide +kernel
theorem dX9_readsKite_115 : decode cX9_readsKite 115 = .ok (.aload_n 0, 1) := by decide +kernel
theorem dX9_readsKite_116 : decode cX9_readsKite 116 = .ok (.getfield 16, 3) := by decide +kernel
theorem dX9_readsKite_119 : decode cX9_readsKite 119 = .ok (.iload_n 1, 1) := by decide +kernel
theorem dX9_readsKite_120 : decode cX9_readsKite 120 = .ok (.iaload, 1) := by decide +kernel
theorem dX9_readsKite_121 : decode cX9_readsKite 121 = .ok (.ifCond .ge 9, 3) := by decide +kernel
theorem dX9_readsKite_124 : decode cX9_readsKite 124 = .ok (.aload_n 0, 1) := by decide +kernel
theorem dX9_readsKite_125 : decode cX9_readsKite 125 = .ok (.iconst 1, 1) := by decide +kernel
theorem dX9_readsKite_126 : decode cX9_readsKite 126 = .ok (.invokevirtual 183, 3) := by decide +kernel
theorem dX9_readsKite_129 : decode cX9_readsKite 129 = .ok (.ireturn, 1) := by decide +kernel
theorem dX9_readsKite_130 : decode cX9_readsKite 130 = .ok (.aload_n 0, 1) := by decide +kernel
theorem dX9_readsKite_131 : decode cX9_readsKite 131 = .ok (.invokevirtual 189, 3) := by decide +kernel
theorem dX9_readsKite_134 : decode cX9_readsKite 134 = .ok (.aload_n 0, 1) := by decide +kernel
theorem dX9_readsKite_135 : decode cX9_readsKite 135 = .ok (.ldc2_w 217, 3) := by decide +kernel
theorem dX9_readsKite_138 : decode cX9_readsKite 138 = .ok (.invokevirtual 262, 3) := by decide +kernel
theorem dX9_readsKite_141 : decode cX9_readsKite 141 = .ok (.ifCond .eq 13, 3) := by decide +kernel
theorem dX9_readsKite_144 : decode cX9_readsKite 144 = .ok (.aload_n 0, 1) := by decide +kernel
theorem dX9_readsKite_145 : decode cX9_readsKite 145 = .ok (.iconst 0, 1) := by decide +kernel
theorem dX9_readsKite_146 : decode cX9_readsKite 146 = .ok (.bipush 99, 2) := by decide +kernel
theorem dX9_readsKite_148 : decode cX9_readsKite 148 = .ok (.invokevirtual 245, 3) := by decide +kernel
theorem dX9_readsKite_151 : decode cX9_readsKite 151 = .ok (.ifCond .ne 5, 3) := by decide +kernel
theorem dX9_readsKite_154 : decode cX9_readsKite 154 = .ok (.iconst 0, 1) := by decide +kernel
theorem dX9_readsKite_155 : decode cX9_readsKite 155 = .ok (.ireturn, 1) := by decide +kernel
theorem dX9_readsKite_156 : decode cX9_readsKite 156 = .ok (.aload_n 0, 1) := by decide +kernel
theorem dX9_readsKite_157 : decode cX9_readsKite 157 = .ok (.getfield 19, 3) := by decide +kernel
theorem dX9_readsKite_160 : decode cX9_readsKite 160 = .ok (.iload_n 1, 1) := by decide +kernel
theorem dX9_readsKite_161 : decode cX9_readsKite 161 = .ok (.aload_n 0, 1) := by decide +kernel
theorem dX9_readsKite_162 : decode cX9_readsKite 162 = .ok (.getfield 239, 3) := by decide +kernel
theorem dX9_readsKite_165 : decode cX9_readsKite 165 = .ok (.iastore, 1) := by decide +kernel
theorem dX9_readsKite_166 : decode cX9_readsKite 166 = .ok (.aload_n 0, 1) := by decide +kernel
theorem dX9_readsKite_167 : decode cX9_readsKite 167 = .ok (.ldc2_w 219, 3) := by decide +kernel
theorem dX9_readsKite_170 : decode cX9_readsKite 170 = .ok (.invokevirtual 262, 3) := by decide +kernel
theorem dX9_readsKite_173 : decode cX9_readsKite 173 = .ok (.ifCond .eq 13, 3) := by decide +kernel
theorem dX9_readsKite_176 : decode cX9_readsKite 176 = .ok (.aload_n 0, 1) := by decide +kernel
theorem dX9_readsKite_177 : decode cX9_readsKite 177 = .ok (.iconst 1, 1) := by decide +kernel
theorem dX9_readsKite_178 : decode cX9_readsKite 178 = .ok (.bipush 20, 2) := by decide +kernel
theorem dX9_readsKite_180 : decode cX9_readsKite 180 = .ok (.invokevirtual 245, 3) := by decide +kernel
theorem dX9_readsKite_183 : decode cX9_readsKite 183 = .ok (.ifCond .ne 5, 3) := by decide +kernel
theorem dX9_readsKite_186 : decode cX9_readsKite 186 = .ok (.iconst 0, 1) := by decide +kernel
theorem dX9_readsKite_187 : decode cX9_readsKite 187 = .ok (.ireturn, 1) := by decide +kernel
theorem dX9_readsKite_188 : decode cX9_readsKite 188 = .ok (.aload_n 0, 1) := by decide +kernel
theorem dX9_readsKite_189 : decode cX9_readsKite 189 = .ok (.getfield 22, 3) := by decide +kernel
theorem dX9_readsKite_192 : decode cX9_readsKite 192 = .ok (.iload_n 1, 1) := by decide +kernel
theorem dX9_readsKite_193 : decode cX9_readsKite 193 = .ok (.aload_n 0, 1) := by decide +kernel
theorem dX9_readsKite_194 : decode cX9_readsKite 194 = .ok (.getfield 239, 3) := by decide +kernel
theorem dX9_readsKite_197 : decode cX9_readsKite 197 = .ok (.iastore, 1) := by decide +kernel
theorem dX9_readsKite_198 : decode cX9_readsKite 198 = .ok (.aload_n 0, 1) := by decide +kernel
theorem dX9_readsKite_199 : decode cX9_readsKite 199 = .ok (.ldc2_w 221, 3) := by decide +kernel
theorem dX9_readsKite_202 : decode cX9_readsKite 202 = .ok (.invokevirtual 262, 3) := by decide +kernel
theorem dX9_readsKite_205 : decode cX9_readsKite 205 = .ok (.ifCond .eq 13, 3) := by decide +kernel
theorem dX9_readsKite_208 : decode cX9_readsKite 208 = .ok (.aload_n 0, 1) := by decide +kernel
theorem dX9_readsKite_209 : decode cX9_readsKite 209 = .ok (.iconst 0, 1) := by decide +kernel
theorem dX9_readsKite_210 : decode cX9_readsKite 210 = .ok (.bipush 99, 2) := by decide +kernel
theorem dX9_readsKite_212 : decode cX9_readsKite 212 = .ok (.invokevirtual 245, 3) := by decide +kernel
theorem dX9_readsKite_215 : decode cX9_readsKite 215 = .ok (.ifCond .ne 5, 3) := by decide +kernel
theorem dX9_readsKite_218 : decode cX9_readsKite 218 = .ok (.iconst 0, 1) := by decide +kernel
theorem dX9_readsKite_219 : decode cX9_readsKite 219 = .ok (.ireturn, 1) := by decide +kernel
theorem dX9_readsKite_220 : decode cX9_readsKite 220 = .ok (.aload_n 0, 1) := by decide +kernel
theorem dX9_readsKite_221 : decode cX9_readsKite 221 = .ok (.getfield 25, 3) := by decide +kernel
theorem dX9_readsKite_224 : decode cX9_readsKite 224 = .ok (.iload_n 1, 1) := by decide +kernel
theorem dX9_readsKite_225 : decode cX9_readsKite 225 = .ok (.aload_n 0, 1) := by decide +kernel
theorem dX9_readsKite_226 : decode cX9_readsKite 226 = .ok (.getfield 239, 3) := by decide +kernel
theorem dX9_readsKite_229 : decode cX9_readsKite 229 = .ok (.iastore, 1) := by decide +kernel
theorem dX9_readsKite_230 : decode cX9_readsKite 230 = .ok (.aload_n 0, 1) := by decide +kernel
theorem dX9_readsKite_231 : decode cX9_readsKite 231 = .ok (.ldc2_w 155, 3) := by decide +kernel
theorem dX9_readsKite_234 : decode cX9_readsKite 234 = .ok (.invokevirtual 262, 3) := by decide +kernel
theorem dX9_readsKite_237 : decode cX9_readsKite 237 = .ok (.ifCond .eq 13, 3) := by decide +kernel
theorem dX9_readsKite_240 : decode cX9_readsKite 240 = .ok (.aload_n 0, 1) := by decide +kernel
theorem dX9_readsKite_241 : decode cX9_readsKite 241 = .ok (.iconst 0, 1) := by decide +kernel
theorem dX9_readsKite_242 : decode cX9_readsKite 242 = .ok (.bipush 40, 2) := by decide +kernel
theorem dX9_readsKite_244 : decode cX9_readsKite 244 = .ok (.invokevirtual 245, 3) := by decide +kernel
theorem dX9_readsKite_247 : decode cX9_readsKite 247 = .ok (.ifCond .ne 5, 3) := by decide +kernel
theorem dX9_readsKite_250 : decode cX9_readsKite 250 = .ok (.iconst 0, 1) := by decide +kernel
theorem dX9_readsKite_251 : decode cX9_readsKite 251 = .ok (.ireturn, 1) := by decide +kernel
theorem dX9_readsKite_252 : decode cX9_readsKite 252 = .ok (.aload_n 0, 1) := by decide +kernel
theorem dX9_readsKite_253 : decode cX9_readsKite 253 = .ok (.getfield 28, 3) := by decide +kernel
theorem dX9_readsKite_256 : decode cX9_readsKite 256 = .ok (.iload_n 1, 1) := by decide +kernel
theorem dX9_readsKite_257 : decode cX9_readsKite 257 = .ok (.aload_n 0, 1) := by decide +kernel
theorem dX9_readsKite_258 : decode cX9_readsKite 258 = .ok (.getfield 239, 3) := by decide +kernel
theorem dX9_readsKite_261 : decode cX9_readsKite 261 = .ok (.iastore, 1) := by decide +kernel
theorem dX9_readsKite_262 : decode cX9_readsKite 262 = .ok (.aload_n 0, 1) := by decide +kernel
theorem dX9_readsKite_263 : decode cX9_readsKite 263 = .ok (.getfield 13, 3) := by decide +kernel
theorem dX9_readsKite_266 : decode cX9_readsKite 266 = .ok (.bipush 9, 2) := by decide +kernel
theorem dX9_readsKite_268 : decode cX9_readsKite 268 = .ok (.dup2, 1) := by decide +kernel
theorem dX9_readsKite_269 : decode cX9_readsKite 269 = .ok (.iaload, 1) := by decide +kernel
theorem dX9_readsKite_270 : decode cX9_readsKite 270 = .ok (.iconst 1, 1) := by decide +kernel
theorem dX9_readsKite_271 : decode cX9_readsKite 271 = .ok (.iadd, 1) := by decide +kernel
theorem dX9_readsKite_272 : decode cX9_readsKite 272 = .ok (.iastore, 1) := by decide +kernel
theorem dX9_readsKite_273 : decode cX9_readsKite 273 = .ok (.aload_n 0, 1) := by decide +kernel
theorem dX9_readsKite_274 : decode cX9_readsKite 274 = .ok (.invokevirtual 249, 3) := by decide +kernel
theorem dX9_readsKite_277 : decode cX9_readsKite 277 = .ok (.ireturn, 1) := by decide +kernel
theorem dX9_readsAll_0 : decode cX9_readsAll 0 = .ok (.aload_n 0, 1) := by decide +kernel
theorem dX9_readsAll_1 : decode cX9_readsAll 1 = .ok (.iconst 1, 1) := by decide +kernel
theorem dX9_readsAll_2 : decode cX9_readsAll 2 = .ok (.invokevirtual 105, 3) := by decide +kernel
theorem dX9_readsAll_5 : decode cX9_readsAll 5 = .ok (.aload_n 0, 1) := by decide +kernel
theorem dX9_readsAll_6 : decode cX9_readsAll 6 = .ok (.iconst 0, 1) := by decide +kernel
theorem dX9_readsAll_7 : decode cX9_readsAll 7 = .ok (.putfield 242, 3) := by decide +kernel
theorem dX9_readsAll_10 : decode cX9_readsAll 10 = .ok (.aload_n 0, 1) := by decide +kernel
theorem dX9_readsAll_11 : decode cX9_readsAll 11 = .ok (.sipush 1000, 3) := by decide +kernel
theorem dX9_readsAll_14 : decode cX9_readsAll 14 = .ok (.putfield 148, 3) := by decide +kernel
theorem dX9_readsAll_17 : decode cX9_readsAll 17 = .ok (.aload_n 0, 1) := by decide +kernel
theorem dX9_readsAll_18 : decode cX9_readsAll 18 = .ok (.aload_n 0, 1) := by decide +kernel
theorem dX9_readsAll_19 : decode cX9_readsAll 19 = .ok (.getfield 115, 3) := by decide +kernel
theorem dX9_readsAll_22 : decode cX9_readsAll 22 = .ok (.putfield 118, 3) := by decide +kernel
theorem dX9_readsAll_25 : decode cX9_readsAll 25 = .ok (.aload_n 0, 1) := by decide +kernel
theorem dX9_readsAll_26 : decode cX9_readsAll 26 = .ok (.iconst 0, 1) := by decide +kernel
theorem dX9_readsAll_27 : decode cX9_readsAll 27 = .ok (.putfield 115, 3) := by decide +kernel
theorem dX9_readsAll_30 : decode cX9_readsAll 30 = .ok (.aload_n 0, 1) := by decide +kernel
theorem dX9_readsAll_31 : decode cX9_readsAll 31 = .ok (.iconst 0, 1) := by decide +kernel
theorem dX9_readsAll_32 : decode cX9_readsAll 32 = .ok (.putfield 121, 3) := by decide +kernel
theorem dX9_readsAll_35 : decode cX9_readsAll 35 = .ok (.aload_n 0, 1) := by decide +kernel
theorem dX9_readsAll_36 : decode cX9_readsAll 36 = .ok (.invokevirtual 189, 3) := by decide +kernel
theorem dX9_readsAll_39 : decode cX9_readsAll 39 = .ok (.aload_n 0, 1) := by decide +kernel
theorem dX9_readsAll_40 : decode cX9_readsAll 40 = .ok (.getfield 134, 3) := by decide +kernel
theorem dX9_readsAll_43 : decode cX9_readsAll 43 = .ok (.ifCond .eq 155, 3) := by decide +kernel
theorem dX9_readsAll_46 : decode cX9_readsAll 46 = .ok (.aload_n 0, 1) := by decide +kernel
theorem dX9_readsAll_47 : decode cX9_readsAll 47 = .ok (.ldc2_w 163, 3) := by decide +kernel
theorem dX9_readsAll_50 : decode cX9_readsAll 50 = .ok (.invokevirtual 175, 3) := by decide +kernel
theorem dX9_readsAll_53 : decode cX9_readsAll 53 = .ok (.ifCond .eq 11, 3) := by decide +kernel
theorem dX9_readsAll_56 : decode cX9_readsAll 56 = .ok (.aload_n 0, 1) := by decide +kernel
theorem dX9_readsAll_57 : decode cX9_readsAll 57 = .ok (.iconst 0, 1) := by decide +kernel
theorem dX9_readsAll_58 : decode cX9_readsAll 58 = .ok (.invokevirtual 265, 3) := by decide +kernel
theorem dX9_readsAll_61 : decode cX9_readsAll 61 = .ok (.goto 127, 3) := by decide +kernel
theorem dX9_readsAll_64 : decode cX9_readsAll 64 = .ok (.aload_n 0, 1) := by decide +kernel
theorem dX9_readsAll_65 : decode cX9_readsAll 65 = .ok (.ldc2_w 205, 3) := by decide +kernel
theorem dX9_readsAll_68 : decode cX9_readsAll 68 = .ok (.invokevirtual 175, 3) := by decide +kernel
theorem dX9_readsAll_71 : decode cX9_readsAll 71 = .ok (.ifCond .eq 11, 3) := by decide +kernel
theorem dX9_readsAll_74 : decode cX9_readsAll 74 = .ok (.aload_n 0, 1) := by decide +kernel
theorem dX9_readsAll_75 : decode cX9_readsAll 75 = .ok (.iconst 1, 1) := by decide +kernel
theorem dX9_readsAll_76 : decode cX9_readsAll 76 = .ok (.invokevirtual 265, 3) := by decide +kernel
theorem dX9_readsAll_79 : decode cX9_readsAll 79 = .ok (.goto 109, 3) := by decide +kernel
theorem dX9_readsAll_82 : decode cX9_readsAll 82 = .ok (.aload_n 0, 1) := by decide +kernel
theorem dX9_readsAll_83 : decode cX9_readsAll 83 = .ok (.ldc2_w 207, 3) := by decide +kernel
theorem dX9_readsAll_86 : decode cX9_readsAll 86 = .ok (.invokevirtual 175, 3) := by decide +kernel
theorem dX9_readsAll_89 : decode cX9_readsAll 89 = .ok (.ifCond .eq 15, 3) := by decide +kernel
theorem dX9_readsAll_92 : decode cX9_readsAll 92 = .ok (.aload_n 0, 1) := by decide +kernel
theorem dX9_readsAll_93 : decode cX9_readsAll 93 = .ok (.iconst 0, 1) := by decide +kernel
theorem dX9_readsAll_94 : decode cX9_readsAll 94 = .ok (.iconst 0, 1) := by decide +kernel
theorem dX9_readsAll_95 : decode cX9_readsAll 95 = .ok (.sipush 999, 3) := by decide +kernel
theorem dX9_readsAll_98 : decode cX9_readsAll 98 = .ok (.invokevirtual 268, 3) := by decide +kernel
theorem dX9_readsAll_101 : decode cX9_readsAll 101 = .ok (.goto 87, 3) := by decide +kernel
theorem dX9_readsAll_104 : decode cX9_readsAll 104 = .ok (.aload_n 0, 1) := by decide +kernel
theorem dX9_readsAll_105 : decode cX9_readsAll 105 = .ok (.ldc2_w 209, 3) := by decide +kernel
theorem dX9_readsAll_108 : decode cX9_readsAll 108 = .ok (.invokevirtual 175, 3) := by decide +kernel
theorem dX9_readsAll_111 : decode cX9_readsAll 111 = .ok (.ifCond .eq 13, 3) := by decide +kernel
theorem dX9_readsAll_114 : decode cX9_readsAll 114 = .ok (.aload_n 0, 1) := by decide +kernel
theorem dX9_readsAll_115 : decode cX9_readsAll 115 = .ok (.iconst 1, 1) := by decide +kernel
theorem dX9_readsAll_116 : decode cX9_readsAll 116 = .ok (.iconst 1, 1) := by decide +kernel
theorem dX9_readsAll_117 : decode cX9_readsAll 117 = .ok (.iconst 5, 1) := by decide +kernel
theorem dX9_readsAll_118 : decode cX9_readsAll 118 = .ok (.invokevirtual 268, 3) := by decide +kernel
theorem dX9_readsAll_121 : decode cX9_readsAll 121 = .ok (.goto 67, 3) := by decide +kernel
theorem dX9_readsAll_124 : decode cX9_readsAll 124 = .ok (.aload_n 0, 1) := by decide +kernel
theorem dX9_readsAll_125 : decode cX9_readsAll 125 = .ok (.ldc2_w 211, 3) := by decide +kernel
theorem dX9_readsAll_128 : decode cX9_readsAll 128 = .ok (.invokevirtual 175, 3) := by decide +kernel
theorem dX9_readsAll_131 : decode cX9_readsAll 131 = .ok (.ifCond .eq 14, 3) := by decide +kernel
theorem dX9_readsAll_134 : decode cX9_readsAll 134 = .ok (.aload_n 0, 1) := by decide +kernel
theorem dX9_readsAll_135 : decode cX9_readsAll 135 = .ok (.iconst 2, 1) := by decide +kernel
theorem dX9_readsAll_136 : decode cX9_readsAll 136 = .ok (.iconst 1, 1) := by decide +kernel
theorem dX9_readsAll_137 : decode cX9_readsAll 137 = .ok (.bipush 20, 2) := by decide +kernel
theorem dX9_readsAll_139 : decode cX9_readsAll 139 = .ok (.invokevirtual 268, 3) := by decide +kernel
theorem dX9_readsAll_142 : decode cX9_readsAll 142 = .ok (.goto 46, 3) := by decide +kernel
theorem dX9_readsAll_145 : decode cX9_readsAll 145 = .ok (.aload_n 0, 1) := by decide +kernel
theorem dX9_readsAll_146 : decode cX9_readsAll 146 = .ok (.ldc2_w 213, 3) := by decide +kernel
theorem dX9_readsAll_149 : decode cX9_readsAll 149 = .ok (.invokevirtual 175, 3) := by decide +kernel
theorem dX9_readsAll_152 : decode cX9_readsAll 152 = .ok (.ifCond .eq 14, 3) := by decide +kernel
theorem dX9_readsAll_155 : decode cX9_readsAll 155 = .ok (.aload_n 0, 1) := by decide +kernel
theorem dX9_readsAll_156 : decode cX9_readsAll 156 = .ok (.iconst 3, 1) := by decide +kernel
theorem dX9_readsAll_157 : decode cX9_readsAll 157 = .ok (.iconst 0, 1) := by decide +kernel
theorem dX9_readsAll_158 : decode cX9_readsAll 158 = .ok (.bipush 50, 2) := by decide +kernel
theorem dX9_readsAll_160 : decode cX9_readsAll 160 = .ok (.invokevirtual 268, 3) := by decide +kernel
theorem dX9_readsAll_163 : decode cX9_readsAll 163 = .ok (.goto 25, 3) := by decide +kernel
theorem dX9_readsAll_166 : decode cX9_readsAll 166 = .ok (.aload_n 0, 1) := by decide +kernel
theorem dX9_readsAll_167 : decode cX9_readsAll 167 = .ok (.ldc2_w 215, 3) := by decide +kernel
theorem dX9_readsAll_170 : decode cX9_readsAll 170 = .ok (.invokevirtual 175, 3) := by decide +kernel
theorem dX9_readsAll_173 : decode cX9_readsAll 173 = .ok (.ifCond .eq 10, 3) := by decide +kernel
theorem dX9_readsAll_176 : decode cX9_readsAll 176 = .ok (.aload_n 0, 1) := by decide +kernel
theorem dX9_readsAll_177 : decode cX9_readsAll 177 = .ok (.invokevirtual 271, 3) := by decide +kernel
theorem dX9_readsAll_180 : decode cX9_readsAll 180 = .ok (.goto 8, 3) := by decide +kernel
theorem dX9_readsAll_183 : decode cX9_readsAll 183 = .ok (.aload_n 0, 1) := by decide +kernel
theorem dX9_readsAll_184 : decode cX9_readsAll 184 = .ok (.iconst 1, 1) := by decide +kernel
theorem dX9_readsAll_185 : decode cX9_readsAll 185 = .ok (.invokevirtual 183, 3) := by decide +kernel
theorem dX9_readsAll_188 : decode cX9_readsAll 188 = .ok (.istore_n 1, 1) := by decide +kernel
theorem dX9_readsAll_189 : decode cX9_readsAll 189 = .ok (.iload_n 1, 1) := by decide +kernel
theorem dX9_readsAll_190 : decode cX9_readsAll 190 = .ok (.ifCond .ne 5, 3) := by decide +kernel
theorem dX9_readsAll_193 : decode cX9_readsAll 193 = .ok (.iconst 0, 1) := by decide +kernel
theorem dX9_readsAll_194 : decode cX9_readsAll 194 = .ok (.ireturn, 1) := by decide +kernel
theorem dX9_readsAll_195 : decode cX9_readsAll 195 = .ok (.goto (-156), 3) := by decide +kernel
theorem dX9_readsAll_198 : decode cX9_readsAll 198 = .ok (.iconst 1, 1) := by decide +kernel
theorem dX9_readsAll_199 : decode cX9_readsAll 199 = .ok (.ireturn, 1) := by decide +kernel
theorem dX9_moves_0 : decode cX9_moves 0 = .ok (.iconst 0, 1) := by decide +kernel
theorem dX9_moves_1 : decode cX9_moves 1 = .ok (.istore 4, 2) := by decide +kernel
theorem dX9_moves_3 : decode cX9_moves 3 = .ok (.iload 4, 2) := by decide +kernel
theorem dX9_moves_5 : decode cX9_moves 5 = .ok (.iload_n 1, 1) := by decide +kernel
theorem dX9_moves_6 : decode cX9_moves 6 = .ok (.if_icmp .ge 25, 3) := by decide +kernel
theorem dX9_moves_9 : decode cX9_moves 9 = .ok (.aload_n 0, 1) := by decide +kernel
theorem dX9_moves_10 : decode cX9_moves 10 = .ok (.iload_n 1, 1) := by decide +kernel
theorem dX9_moves_11 : decode cX9_moves 11 = .ok (.iload_n 3, 1) := by decide +kernel
theorem dX9_moves_12 : decode cX9_moves 12 = .ok (.imul, 1) := by decide +kernel
theorem dX9_moves_13 : decode cX9_moves 13 = .ok (.iload 4, 2) := by decide +kernel
theorem dX9_moves_15 : decode cX9_moves 15 = .ok (.iadd, 1) := by decide +kernel
theorem dX9_moves_16 : decode cX9_moves 16 = .ok (.aload_n 0, 1) := by decide +kernel
theorem dX9_moves_17 : decode cX9_moves 17 = .ok (.iload_n 1, 1) := by decide +kernel
theorem dX9_moves_18 : decode cX9_moves 18 = .ok (.iload_n 2, 1) := by decide +kernel
theorem dX9_moves_19 : decode cX9_moves 19 = .ok (.imul, 1) := by decide +kernel
theorem dX9_moves_20 : decode cX9_moves 20 = .ok (.iload 4, 2) := by decide +kernel
theorem dX9_moves_22 : decode cX9_moves 22 = .ok (.iadd, 1) := by decide +kernel
theorem dX9_moves_23 : decode cX9_moves 23 = .ok (.iaload, 1) := by decide +kernel
theorem dX9_moves_24 : decode cX9_moves 24 = .ok (.iastore, 1) := by decide +kernel
theorem dX9_moves_25 : decode cX9_moves 25 = .ok (.iinc 4 1, 3) := by decide +kernel
theorem dX9_moves_28 : decode cX9_moves 28 = .ok (.goto (-25), 3) := by decide +kernel
theorem dX9_moves_31 : decode cX9_moves 31 = .ok (.return_, 1) := by decide +kernel
theorem dX9_lays_0 : decode cX9_lays 0 = .ok (.aload_n 0, 1) := by decide +kernel
theorem dX9_lays_1 : decode cX9_lays 1 = .ok (.getfield 13, 3) := by decide +kernel
theorem dX9_lays_4 : decode cX9_lays 4 = .ok (.iconst 5, 1) := by decide +kernel
theorem dX9_lays_5 : decode cX9_lays 5 = .ok (.iload_n 1, 1) := by decide +kernel
theorem dX9_lays_6 : decode cX9_lays 6 = .ok (.iload_n 2, 1) := by decide +kernel
theorem dX9_lays_7 : decode cX9_lays 7 = .ok (.invokestatic 274, 3) := by decide +kernel
theorem dX9_lays_10 : decode cX9_lays 10 = .ok (.aload_n 0, 1) := by decide +kernel
theorem dX9_lays_11 : decode cX9_lays 11 = .ok (.getfield 16, 3) := by decide +kernel
theorem dX9_lays_14 : decode cX9_lays 14 = .ok (.bipush 6, 2) := by decide +kernel
theorem dX9_lays_16 : decode cX9_lays 16 = .ok (.iload_n 1, 1) := by decide +kernel
theorem dX9_lays_17 : decode cX9_lays 17 = .ok (.iload_n 2, 1) := by decide +kernel
theorem dX9_lays_18 : decode cX9_lays 18 = .ok (.invokestatic 274, 3) := by decide +kernel
theorem dX9_lays_21 : decode cX9_lays 21 = .ok (.aload_n 0, 1) := by decide +kernel
theorem dX9_lays_22 : decode cX9_lays 22 = .ok (.getfield 19, 3) := by decide +kernel
theorem dX9_lays_25 : decode cX9_lays 25 = .ok (.bipush 6, 2) := by decide +kernel
theorem dX9_lays_27 : decode cX9_lays 27 = .ok (.iload_n 1, 1) := by decide +kernel
theorem dX9_lays_28 : decode cX9_lays 28 = .ok (.iload_n 2, 1) := by decide +kernel
theorem dX9_lays_29 : decode cX9_lays 29 = .ok (.invokestatic 274, 3) := by decide +kernel
theorem dX9_lays_32 : decode cX9_lays 32 = .ok (.aload_n 0, 1) := by decide +kernel
theorem dX9_lays_33 : decode cX9_lays 33 = .ok (.getfield 22, 3) := by decide +kernel
