theorem dq_Md_requestLine_0 : decode prog_14_method_7_code 0 = .ok (.lconst 0, 1) := by decide +kernel
theorem dq_Md_requestLine_1 : decode prog_14_method_7_code 1 = .ok (.lstore_n 3, 1) := by decide +kernel
theorem dq_Md_requestLine_2 : decode prog_14_method_7_code 2 = .ok (.iconst 0, 1) := by decide +kernel
theorem dq_Md_requestLine_3 : decode prog_14_method_7_code 3 = .ok (.istore 5, 2) := by decide +kernel
theorem dq_Md_requestLine_5 : decode prog_14_method_7_code 5 = .ok (.iload 5, 2) := by decide +kernel
theorem dq_Md_requestLine_7 : decode prog_14_method_7_code 7 = .ok (.iload_n 2, 1) := by decide +kernel
theorem dq_Md_requestLine_8 : decode prog_14_method_7_code 8 = .ok (.if_icmp .ge 55, 3) := by decide +kernel
theorem dq_Md_requestLine_11 : decode prog_14_method_7_code 11 = .ok (.iload 5, 2) := by decide +kernel
theorem dq_Md_requestLine_13 : decode prog_14_method_7_code 13 = .ok (.bipush 7, 2) := by decide +kernel
theorem dq_Md_requestLine_15 : decode prog_14_method_7_code 15 = .ok (.if_icmp .ge 48, 3) := by decide +kernel
theorem dq_Md_requestLine_18 : decode prog_14_method_7_code 18 = .ok (.aload_n 0, 1) := by decide +kernel
theorem dq_Md_requestLine_19 : decode prog_14_method_7_code 19 = .ok (.getfield 7, 3) := by decide +kernel
theorem dq_Md_requestLine_22 : decode prog_14_method_7_code 22 = .ok (.sipush 4200, 3) := by decide +kernel
theorem dq_Md_requestLine_25 : decode prog_14_method_7_code 25 = .ok (.iload_n 1, 1) := by decide +kernel
theorem dq_Md_requestLine_26 : decode prog_14_method_7_code 26 = .ok (.imul, 1) := by decide +kernel
theorem dq_Md_requestLine_27 : decode prog_14_method_7_code 27 = .ok (.iload 5, 2) := by decide +kernel
theorem dq_Md_requestLine_29 : decode prog_14_method_7_code 29 = .ok (.iadd, 1) := by decide +kernel
theorem dq_Md_requestLine_30 : decode prog_14_method_7_code 30 = .ok (.iaload, 1) := by decide +kernel
theorem dq_Md_requestLine_31 : decode prog_14_method_7_code 31 = .ok (.bipush 32, 2) := by decide +kernel
theorem dq_Md_requestLine_33 : decode prog_14_method_7_code 33 = .ok (.if_icmp .eq 30, 3) := by decide +kernel
theorem dq_Md_requestLine_36 : decode prog_14_method_7_code 36 = .ok (.lload_n 3, 1) := by decide +kernel
theorem dq_Md_requestLine_37 : decode prog_14_method_7_code 37 = .ok (.ldc2_w 226, 3) := by decide +kernel
theorem dq_Md_requestLine_40 : decode prog_14_method_7_code 40 = .ok (.lmul, 1) := by decide +kernel
theorem dq_Md_requestLine_41 : decode prog_14_method_7_code 41 = .ok (.aload_n 0, 1) := by decide +kernel
theorem dq_Md_requestLine_42 : decode prog_14_method_7_code 42 = .ok (.getfield 7, 3) := by decide +kernel
theorem dq_Md_requestLine_45 : decode prog_14_method_7_code 45 = .ok (.sipush 4200, 3) := by decide +kernel
theorem dq_Md_requestLine_48 : decode prog_14_method_7_code 48 = .ok (.iload_n 1, 1) := by decide +kernel
theorem dq_Md_requestLine_49 : decode prog_14_method_7_code 49 = .ok (.imul, 1) := by decide +kernel
theorem dq_Md_requestLine_50 : decode prog_14_method_7_code 50 = .ok (.iload 5, 2) := by decide +kernel
theorem dq_Md_requestLine_52 : decode prog_14_method_7_code 52 = .ok (.iadd, 1) := by decide +kernel
theorem dq_Md_requestLine_53 : decode prog_14_method_7_code 53 = .ok (.iaload, 1) := by decide +kernel
theorem dq_Md_requestLine_54 : decode prog_14_method_7_code 54 = .ok (.i2l, 1) := by decide +kernel
theorem dq_Md_requestLine_55 : decode prog_14_method_7_code 55 = .ok (.ladd, 1) := by decide +kernel
theorem dq_Md_requestLine_56 : decode prog_14_method_7_code 56 = .ok (.lstore_n 3, 1) := by decide +kernel
theorem dq_Md_requestLine_57 : decode prog_14_method_7_code 57 = .ok (.iinc 5 1, 3) := by decide +kernel
theorem dq_Md_requestLine_60 : decode prog_14_method_7_code 60 = .ok (.goto (-55), 3) := by decide +kernel
theorem dq_Md_requestLine_63 : decode prog_14_method_7_code 63 = .ok (.aload_n 0, 1) := by decide +kernel
theorem dq_Md_requestLine_64 : decode prog_14_method_7_code 64 = .ok (.getfield 41, 3) := by decide +kernel
theorem dq_Md_requestLine_67 : decode prog_14_method_7_code 67 = .ok (.bipush 8, 2) := by decide +kernel
theorem dq_Md_requestLine_69 : decode prog_14_method_7_code 69 = .ok (.lload_n 3, 1) := by decide +kernel
theorem dq_Md_requestLine_70 : decode prog_14_method_7_code 70 = .ok (.ldc2_w 228, 3) := by decide +kernel
theorem dq_Md_requestLine_73 : decode prog_14_method_7_code 73 = .ok (.lcmp, 1) := by decide +kernel
theorem dq_Md_requestLine_74 : decode prog_14_method_7_code 74 = .ok (.ifCond .ne 7, 3) := by decide +kernel
theorem dq_Md_requestLine_77 : decode prog_14_method_7_code 77 = .ok (.iconst 0, 1) := by decide +kernel
theorem dq_Md_requestLine_78 : decode prog_14_method_7_code 78 = .ok (.goto 40, 3) := by decide +kernel
theorem dq_Md_requestLine_81 : decode prog_14_method_7_code 81 = .ok (.lload_n 3, 1) := by decide +kernel
theorem dq_Md_requestLine_82 : decode prog_14_method_7_code 82 = .ok (.ldc2_w 230, 3) := by decide +kernel
theorem dq_Md_requestLine_85 : decode prog_14_method_7_code 85 = .ok (.lcmp, 1) := by decide +kernel
theorem dq_Md_requestLine_86 : decode prog_14_method_7_code 86 = .ok (.ifCond .ne 7, 3) := by decide +kernel
theorem dq_Md_requestLine_89 : decode prog_14_method_7_code 89 = .ok (.iconst 1, 1) := by decide +kernel
theorem dq_Md_requestLine_90 : decode prog_14_method_7_code 90 = .ok (.goto 28, 3) := by decide +kernel
theorem dq_Md_requestLine_93 : decode prog_14_method_7_code 93 = .ok (.lload_n 3, 1) := by decide +kernel
theorem dq_Md_requestLine_94 : decode prog_14_method_7_code 94 = .ok (.ldc2_w 232, 3) := by decide +kernel
theorem dq_Md_requestLine_97 : decode prog_14_method_7_code 97 = .ok (.lcmp, 1) := by decide +kernel
theorem dq_Md_requestLine_98 : decode prog_14_method_7_code 98 = .ok (.ifCond .ne 7, 3) := by decide +kernel
theorem dq_Md_requestLine_101 : decode prog_14_method_7_code 101 = .ok (.iconst 2, 1) := by decide +kernel
theorem dq_Md_requestLine_102 : decode prog_14_method_7_code 102 = .ok (.goto 16, 3) := by decide +kernel
theorem dq_Md_requestLine_105 : decode prog_14_method_7_code 105 = .ok (.lload_n 3, 1) := by decide +kernel
theorem dq_Md_requestLine_106 : decode prog_14_method_7_code 106 = .ok (.ldc2_w 234, 3) := by decide +kernel
theorem dq_Md_requestLine_109 : decode prog_14_method_7_code 109 = .ok (.lcmp, 1) := by decide +kernel
theorem dq_Md_requestLine_110 : decode prog_14_method_7_code 110 = .ok (.ifCond .ne 7, 3) := by decide +kernel
theorem dq_Md_requestLine_113 : decode prog_14_method_7_code 113 = .ok (.iconst 3, 1) := by decide +kernel
theorem dq_Md_requestLine_114 : decode prog_14_method_7_code 114 = .ok (.goto 4, 3) := by decide +kernel
theorem dq_Md_requestLine_117 : decode prog_14_method_7_code 117 = .ok (.iconst (-1), 1) := by decide +kernel
theorem dq_Md_requestLine_118 : decode prog_14_method_7_code 118 = .ok (.iastore, 1) := by decide +kernel
theorem dq_Md_requestLine_119 : decode prog_14_method_7_code 119 = .ok (.aload_n 0, 1) := by decide +kernel
theorem dq_Md_requestLine_120 : decode prog_14_method_7_code 120 = .ok (.getfield 41, 3) := by decide +kernel
theorem dq_Md_requestLine_123 : decode prog_14_method_7_code 123 = .ok (.bipush 8, 2) := by decide +kernel
theorem dq_Md_requestLine_125 : decode prog_14_method_7_code 125 = .ok (.iaload, 1) := by decide +kernel
theorem dq_Md_requestLine_126 : decode prog_14_method_7_code 126 = .ok (.ifCond .lt 49, 3) := by decide +kernel
theorem dq_Md_requestLine_129 : decode prog_14_method_7_code 129 = .ok (.iload 5, 2) := by decide +kernel
theorem dq_Md_requestLine_131 : decode prog_14_method_7_code 131 = .ok (.iconst 1, 1) := by decide +kernel
theorem dq_Md_requestLine_132 : decode prog_14_method_7_code 132 = .ok (.iadd, 1) := by decide +kernel
theorem dq_Md_requestLine_133 : decode prog_14_method_7_code 133 = .ok (.iload_n 2, 1) := by decide +kernel
theorem dq_Md_requestLine_134 : decode prog_14_method_7_code 134 = .ok (.if_icmp .ge 41, 3) := by decide +kernel
theorem dq_Md_requestLine_137 : decode prog_14_method_7_code 137 = .ok (.aload_n 0, 1) := by decide +kernel
theorem dq_Md_requestLine_138 : decode prog_14_method_7_code 138 = .ok (.getfield 7, 3) := by decide +kernel
theorem dq_Md_requestLine_141 : decode prog_14_method_7_code 141 = .ok (.sipush 4200, 3) := by decide +kernel
theorem dq_Md_requestLine_144 : decode prog_14_method_7_code 144 = .ok (.iload_n 1, 1) := by decide +kernel
theorem dq_Md_requestLine_145 : decode prog_14_method_7_code 145 = .ok (.imul, 1) := by decide +kernel
theorem dq_Md_requestLine_146 : decode prog_14_method_7_code 146 = .ok (.iload 5, 2) := by decide +kernel
theorem dq_Md_requestLine_148 : decode prog_14_method_7_code 148 = .ok (.iadd, 1) := by decide +kernel
theorem dq_Md_requestLine_149 : decode prog_14_method_7_code 149 = .ok (.iaload, 1) := by decide +kernel
theorem dq_Md_requestLine_150 : decode prog_14_method_7_code 150 = .ok (.bipush 32, 2) := by decide +kernel
theorem dq_Md_requestLine_152 : decode prog_14_method_7_code 152 = .ok (.if_icmp .ne 23, 3) := by decide +kernel
theorem dq_Md_requestLine_155 : decode prog_14_method_7_code 155 = .ok (.aload_n 0, 1) := by decide +kernel
theorem dq_Md_requestLine_156 : decode prog_14_method_7_code 156 = .ok (.getfield 7, 3) := by decide +kernel
theorem dq_Md_requestLine_159 : decode prog_14_method_7_code 159 = .ok (.sipush 4200, 3) := by decide +kernel
theorem dq_Md_requestLine_162 : decode prog_14_method_7_code 162 = .ok (.iload_n 1, 1) := by decide +kernel
theorem dq_Md_requestLine_163 : decode prog_14_method_7_code 163 = .ok (.imul, 1) := by decide +kernel
theorem dq_Md_requestLine_164 : decode prog_14_method_7_code 164 = .ok (.iload 5, 2) := by decide +kernel
theorem dq_Md_requestLine_166 : decode prog_14_method_7_code 166 = .ok (.iadd, 1) := by decide +kernel
theorem dq_Md_requestLine_167 : decode prog_14_method_7_code 167 = .ok (.iconst 1, 1) := by decide +kernel
theorem dq_Md_requestLine_168 : decode prog_14_method_7_code 168 = .ok (.iadd, 1) := by decide +kernel
theorem dq_Md_requestLine_169 : decode prog_14_method_7_code 169 = .ok (.iaload, 1) := by decide +kernel
theorem dq_Md_requestLine_170 : decode prog_14_method_7_code 170 = .ok (.bipush 47, 2) := by decide +kernel
theorem dq_Md_requestLine_172 : decode prog_14_method_7_code 172 = .ok (.if_icmp .eq 7, 3) := by decide +kernel
theorem dq_Md_requestLine_175 : decode prog_14_method_7_code 175 = .ok (.sipush 400, 3) := by decide +kernel
theorem dq_Md_requestLine_178 : decode prog_14_method_7_code 178 = .ok (.ireturn, 1) := by decide +kernel
theorem dq_Md_requestLine_179 : decode prog_14_method_7_code 179 = .ok (.iconst 0, 1) := by decide +kernel
theorem dq_Md_requestLine_180 : decode prog_14_method_7_code 180 = .ok (.istore 6, 2) := by decide +kernel
theorem dq_Md_requestLine_182 : decode prog_14_method_7_code 182 = .ok (.iload 5, 2) := by decide +kernel
theorem dq_Md_requestLine_184 : decode prog_14_method_7_code 184 = .ok (.iconst 1, 1) := by decide +kernel
theorem dq_Md_requestLine_185 : decode prog_14_method_7_code 185 = .ok (.iadd, 1) := by decide +kernel
theorem dq_Md_requestLine_186 : decode prog_14_method_7_code 186 = .ok (.istore 7, 2) := by decide +kernel
theorem dq_Md_requestLine_188 : decode prog_14_method_7_code 188 = .ok (.iload 7, 2) := by decide +kernel
theorem dq_Md_requestLine_190 : decode prog_14_method_7_code 190 = .ok (.iload_n 2, 1) := by decide +kernel
theorem dq_Md_requestLine_191 : decode prog_14_method_7_code 191 = .ok (.if_icmp .ge 259, 3) := by decide +kernel
theorem dq_Md_requestLine_194 : decode prog_14_method_7_code 194 = .ok (.aload_n 0, 1) := by decide +kernel
theorem dq_Md_requestLine_195 : decode prog_14_method_7_code 195 = .ok (.getfield 7, 3) := by decide +kernel
theorem dq_Md_requestLine_198 : decode prog_14_method_7_code 198 = .ok (.sipush 4200, 3) := by decide +kernel
theorem dq_Md_requestLine_201 : decode prog_14_method_7_code 201 = .ok (.iload_n 1, 1) := by decide +kernel
theorem dq_Md_requestLine_202 : decode prog_14_method_7_code 202 = .ok (.imul, 1) := by decide +kernel
theorem dq_Md_requestLine_203 : decode prog_14_method_7_code 203 = .ok (.iload 7, 2) := by decide +kernel
theorem dq_Md_requestLine_205 : decode prog_14_method_7_code 205 = .ok (.iadd, 1) := by decide +kernel
theorem dq_Md_requestLine_206 : decode prog_14_method_7_code 206 = .ok (.iaload, 1) := by decide +kernel
theorem dq_Md_requestLine_207 : decode prog_14_method_7_code 207 = .ok (.istore 8, 2) := by decide +kernel
theorem dq_Md_requestLine_209 : decode prog_14_method_7_code 209 = .ok (.iload 8, 2) := by decide +kernel
theorem dq_Md_requestLine_211 : decode prog_14_method_7_code 211 = .ok (.bipush 37, 2) := by decide +kernel
theorem dq_Md_requestLine_213 : decode prog_14_method_7_code 213 = .ok (.if_icmp .ne 7, 3) := by decide +kernel
theorem dq_Md_requestLine_216 : decode prog_14_method_7_code 216 = .ok (.iconst 1, 1) := by decide +kernel
theorem dq_Md_requestLine_217 : decode prog_14_method_7_code 217 = .ok (.goto 4, 3) := by decide +kernel
theorem dq_Md_requestLine_220 : decode prog_14_method_7_code 220 = .ok (.iconst 0, 1) := by decide +kernel
theorem dq_Md_requestLine_221 : decode prog_14_method_7_code 221 = .ok (.istore 9, 2) := by decide +kernel
theorem dq_Md_requestLine_223 : decode prog_14_method_7_code 223 = .ok (.iload 9, 2) := by decide +kernel
theorem dq_Md_requestLine_225 : decode prog_14_method_7_code 225 = .ok (.ifCond .eq 32, 3) := by decide +kernel
theorem dq_Md_requestLine_228 : decode prog_14_method_7_code 228 = .ok (.iload 7, 2) := by decide +kernel
theorem dq_Md_requestLine_230 : decode prog_14_method_7_code 230 = .ok (.iconst 2, 1) := by decide +kernel
theorem dq_Md_requestLine_231 : decode prog_14_method_7_code 231 = .ok (.iadd, 1) := by decide +kernel
theorem dq_Md_requestLine_232 : decode prog_14_method_7_code 232 = .ok (.iload_n 2, 1) := by decide +kernel
theorem dq_Md_requestLine_233 : decode prog_14_method_7_code 233 = .ok (.if_icmp .ge 24, 3) := by decide +kernel
theorem dq_Md_requestLine_236 : decode prog_14_method_7_code 236 = .ok (.aload_n 0, 1) := by decide +kernel
theorem dq_Md_requestLine_237 : decode prog_14_method_7_code 237 = .ok (.getfield 7, 3) := by decide +kernel
theorem dq_Md_requestLine_240 : decode prog_14_method_7_code 240 = .ok (.sipush 4200, 3) := by decide +kernel
theorem dq_Md_requestLine_243 : decode prog_14_method_7_code 243 = .ok (.iload_n 1, 1) := by decide +kernel
theorem dq_Md_requestLine_244 : decode prog_14_method_7_code 244 = .ok (.imul, 1) := by decide +kernel
theorem dq_Md_requestLine_245 : decode prog_14_method_7_code 245 = .ok (.iload 7, 2) := by decide +kernel
theorem dq_Md_requestLine_247 : decode prog_14_method_7_code 247 = .ok (.iadd, 1) := by decide +kernel
theorem dq_Md_requestLine_248 : decode prog_14_method_7_code 248 = .ok (.iconst 1, 1) := by decide +kernel
theorem dq_Md_requestLine_249 : decode prog_14_method_7_code 249 = .ok (.iadd, 1) := by decide +kernel
theorem dq_Md_requestLine_250 : decode prog_14_method_7_code 250 = .ok (.iaload, 1) := by decide +kernel
theorem dq_Md_requestLine_251 : decode prog_14_method_7_code 251 = .ok (.invokestatic 236, 3) := by decide +kernel
theorem dq_Md_requestLine_254 : decode prog_14_method_7_code 254 = .ok (.goto 4, 3) := by decide +kernel
theorem dq_Md_requestLine_257 : decode prog_14_method_7_code 257 = .ok (.iconst (-1), 1) := by decide +kernel
theorem dq_Md_requestLine_258 : decode prog_14_method_7_code 258 = .ok (.istore 10, 2) := by decide +kernel
theorem dq_Md_requestLine_260 : decode prog_14_method_7_code 260 = .ok (.iload 9, 2) := by decide +kernel
theorem dq_Md_requestLine_262 : decode prog_14_method_7_code 262 = .ok (.ifCond .eq 32, 3) := by decide +kernel
theorem dq_Md_requestLine_265 : decode prog_14_method_7_code 265 = .ok (.iload 7, 2) := by decide +kernel
theorem dq_Md_requestLine_267 : decode prog_14_method_7_code 267 = .ok (.iconst 2, 1) := by decide +kernel
theorem dq_Md_requestLine_268 : decode prog_14_method_7_code 268 = .ok (.iadd, 1) := by decide +kernel
theorem dq_Md_requestLine_269 : decode prog_14_method_7_code 269 = .ok (.iload_n 2, 1) := by decide +kernel
theorem dq_Md_requestLine_270 : decode prog_14_method_7_code 270 = .ok (.if_icmp .ge 24, 3) := by decide +kernel
theorem dq_Md_requestLine_273 : decode prog_14_method_7_code 273 = .ok (.aload_n 0, 1) := by decide +kernel
theorem dq_Md_requestLine_274 : decode prog_14_method_7_code 274 = .ok (.getfield 7, 3) := by decide +kernel
theorem dq_Md_requestLine_277 : decode prog_14_method_7_code 277 = .ok (.sipush 4200, 3) := by decide +kernel
theorem dq_Md_requestLine_280 : decode prog_14_method_7_code 280 = .ok (.iload_n 1, 1) := by decide +kernel
theorem dq_Md_requestLine_281 : decode prog_14_method_7_code 281 = .ok (.imul, 1) := by decide +kernel
theorem dq_Md_requestLine_282 : decode prog_14_method_7_code 282 = .ok (.iload 7, 2) := by decide +kernel
theorem dq_Md_requestLine_284 : decode prog_14_method_7_code 284 = .ok (.iadd, 1) := by decide +kernel
theorem dq_Md_requestLine_285 : decode prog_14_method_7_code 285 = .ok (.iconst 2, 1) := by decide +kernel
theorem dq_Md_requestLine_286 : decode prog_14_method_7_code 286 = .ok (.iadd, 1) := by decide +kernel
theorem dq_Md_requestLine_287 : decode prog_14_method_7_code 287 = .ok (.iaload, 1) := by decide +kernel
theorem dq_Md_requestLine_288 : decode prog_14_method_7_code 288 = .ok (.invokestatic 236, 3) := by decide +kernel
theorem dq_Md_requestLine_291 : decode prog_14_method_7_code 291 = .ok (.goto 4, 3) := by decide +kernel
theorem dq_Md_requestLine_294 : decode prog_14_method_7_code 294 = .ok (.iconst (-1), 1) := by decide +kernel
theorem dq_Md_requestLine_295 : decode prog_14_method_7_code 295 = .ok (.istore 11, 2) := by decide +kernel
theorem dq_Md_requestLine_297 : decode prog_14_method_7_code 297 = .ok (.iload 8, 2) := by decide +kernel
theorem dq_Md_requestLine_299 : decode prog_14_method_7_code 299 = .ok (.bipush 33, 2) := by decide +kernel
theorem dq_Md_requestLine_301 : decode prog_14_method_7_code 301 = .ok (.if_icmp .lt 25, 3) := by decide +kernel
theorem dq_Md_requestLine_304 : decode prog_14_method_7_code 304 = .ok (.iload 8, 2) := by decide +kernel
theorem dq_Md_requestLine_306 : decode prog_14_method_7_code 306 = .ok (.bipush 126, 2) := by decide +kernel
theorem dq_Md_requestLine_308 : decode prog_14_method_7_code 308 = .ok (.if_icmp .gt 18, 3) := by decide +kernel
theorem dq_Md_requestLine_311 : decode prog_14_method_7_code 311 = .ok (.iload 9, 2) := by decide +kernel
theorem dq_Md_requestLine_313 : decode prog_14_method_7_code 313 = .ok (.ifCond .eq 17, 3) := by decide +kernel
theorem dq_Md_requestLine_316 : decode prog_14_method_7_code 316 = .ok (.iload 10, 2) := by decide +kernel
theorem dq_Md_requestLine_318 : decode prog_14_method_7_code 318 = .ok (.ifCond .lt 8, 3) := by decide +kernel
theorem dq_Md_requestLine_321 : decode prog_14_method_7_code 321 = .ok (.iload 11, 2) := by decide +kernel
theorem dq_Md_requestLine_323 : decode prog_14_method_7_code 323 = .ok (.ifCond .ge 7, 3) := by decide +kernel
theorem dq_Md_requestLine_326 : decode prog_14_method_7_code 326 = .ok (.sipush 400, 3) := by decide +kernel
theorem dq_Md_requestLine_329 : decode prog_14_method_7_code 329 = .ok (.ireturn, 1) := by decide +kernel
theorem dq_Md_requestLine_330 : decode prog_14_method_7_code 330 = .ok (.bipush 16, 2) := by decide +kernel
theorem dq_Md_requestLine_332 : decode prog_14_method_7_code 332 = .ok (.iload 10, 2) := by decide +kernel
theorem dq_Md_requestLine_334 : decode prog_14_method_7_code 334 = .ok (.imul, 1) := by decide +kernel
theorem dq_Md_requestLine_335 : decode prog_14_method_7_code 335 = .ok (.iload 11, 2) := by decide +kernel
theorem dq_Md_requestLine_337 : decode prog_14_method_7_code 337 = .ok (.iadd, 1) := by decide +kernel
theorem dq_Md_requestLine_338 : decode prog_14_method_7_code 338 = .ok (.istore 12, 2) := by decide +kernel
theorem dq_Md_requestLine_340 : decode prog_14_method_7_code 340 = .ok (.iload 9, 2) := by decide +kernel
theorem dq_Md_requestLine_342 : decode prog_14_method_7_code 342 = .ok (.ifCond .eq 26, 3) := by decide +kernel
theorem dq_Md_requestLine_345 : decode prog_14_method_7_code 345 = .ok (.iload 12, 2) := by decide +kernel
theorem dq_Md_requestLine_347 : decode prog_14_method_7_code 347 = .ok (.invokestatic 239, 3) := by decide +kernel
theorem dq_Md_requestLine_350 : decode prog_14_method_7_code 350 = .ok (.ifCond .eq 18, 3) := by decide +kernel
theorem dq_Md_requestLine_353 : decode prog_14_method_7_code 353 = .ok (.aload_n 0, 1) := by decide +kernel
theorem dq_Md_requestLine_354 : decode prog_14_method_7_code 354 = .ok (.getfield 63, 3) := by decide +kernel
theorem dq_Md_requestLine_357 : decode prog_14_method_7_code 357 = .ok (.iload 6, 2) := by decide +kernel
theorem dq_Md_requestLine_359 : decode prog_14_method_7_code 359 = .ok (.iload 12, 2) := by decide +kernel
theorem dq_Md_requestLine_361 : decode prog_14_method_7_code 361 = .ok (.iastore, 1) := by decide +kernel
theorem dq_Md_requestLine_362 : decode prog_14_method_7_code 362 = .ok (.iinc 6 1, 3) := by decide +kernel
theorem dq_Md_requestLine_365 : decode prog_14_method_7_code 365 = .ok (.goto 63, 3) := by decide +kernel
theorem dq_Md_requestLine_368 : decode prog_14_method_7_code 368 = .ok (.iload 9, 2) := by decide +kernel
theorem dq_Md_requestLine_370 : decode prog_14_method_7_code 370 = .ok (.ifCond .eq 46, 3) := by decide +kernel
theorem dq_Md_requestLine_373 : decode prog_14_method_7_code 373 = .ok (.aload_n 0, 1) := by decide +kernel
theorem dq_Md_requestLine_374 : decode prog_14_method_7_code 374 = .ok (.getfield 63, 3) := by decide +kernel
theorem dq_Md_requestLine_377 : decode prog_14_method_7_code 377 = .ok (.iload 6, 2) := by decide +kernel
theorem dq_Md_requestLine_379 : decode prog_14_method_7_code 379 = .ok (.bipush 37, 2) := by decide +kernel
theorem dq_Md_requestLine_381 : decode prog_14_method_7_code 381 = .ok (.iastore, 1) := by decide +kernel
theorem dq_Md_requestLine_382 : decode prog_14_method_7_code 382 = .ok (.aload_n 0, 1) := by decide +kernel
theorem dq_Md_requestLine_383 : decode prog_14_method_7_code 383 = .ok (.getfield 63, 3) := by decide +kernel
theorem dq_Md_requestLine_386 : decode prog_14_method_7_code 386 = .ok (.iload 6, 2) := by decide +kernel
theorem dq_Md_requestLine_388 : decode prog_14_method_7_code 388 = .ok (.iconst 1, 1) := by decide +kernel
theorem dq_Md_requestLine_389 : decode prog_14_method_7_code 389 = .ok (.iadd, 1) := by decide +kernel
theorem dq_Md_requestLine_390 : decode prog_14_method_7_code 390 = .ok (.iload 10, 2) := by decide +kernel
theorem dq_Md_requestLine_392 : decode prog_14_method_7_code 392 = .ok (.invokestatic 242, 3) := by decide +kernel
theorem dq_Md_requestLine_395 : decode prog_14_method_7_code 395 = .ok (.iastore, 1) := by decide +kernel
theorem dq_Md_requestLine_396 : decode prog_14_method_7_code 396 = .ok (.aload_n 0, 1) := by decide +kernel
theorem dq_Md_requestLine_397 : decode prog_14_method_7_code 397 = .ok (.getfield 63, 3) := by decide +kernel
theorem dq_Md_requestLine_400 : decode prog_14_method_7_code 400 = .ok (.iload 6, 2) := by decide +kernel
theorem dq_Md_requestLine_402 : decode prog_14_method_7_code 402 = .ok (.iconst 2, 1) := by decide +kernel
theorem dq_Md_requestLine_403 : decode prog_14_method_7_code 403 = .ok (.iadd, 1) := by decide +kernel
theorem dq_Md_requestLine_404 : decode prog_14_method_7_code 404 = .ok (.iload 11, 2) := by decide +kernel
theorem dq_Md_requestLine_406 : decode prog_14_method_7_code 406 = .ok (.invokestatic 242, 3) := by decide +kernel
theorem dq_Md_requestLine_409 : decode prog_14_method_7_code 409 = .ok (.iastore, 1) := by decide +kernel
theorem dq_Md_requestLine_410 : decode prog_14_method_7_code 410 = .ok (.iinc 6 3, 3) := by decide +kernel
theorem dq_Md_requestLine_413 : decode prog_14_method_7_code 413 = .ok (.goto 15, 3) := by decide +kernel
theorem dq_Md_requestLine_416 : decode prog_14_method_7_code 416 = .ok (.aload_n 0, 1) := by decide +kernel
theorem dq_Md_requestLine_417 : decode prog_14_method_7_code 417 = .ok (.getfield 63, 3) := by decide +kernel
theorem dq_Md_requestLine_420 : decode prog_14_method_7_code 420 = .ok (.iload 6, 2) := by decide +kernel
theorem dq_Md_requestLine_422 : decode prog_14_method_7_code 422 = .ok (.iload 8, 2) := by decide +kernel
theorem dq_Md_requestLine_424 : decode prog_14_method_7_code 424 = .ok (.iastore, 1) := by decide +kernel
theorem dq_Md_requestLine_425 : decode prog_14_method_7_code 425 = .ok (.iinc 6 1, 3) := by decide +kernel
theorem dq_Md_requestLine_428 : decode prog_14_method_7_code 428 = .ok (.iload 9, 2) := by decide +kernel
theorem dq_Md_requestLine_430 : decode prog_14_method_7_code 430 = .ok (.ifCond .eq 10, 3) := by decide +kernel
theorem dq_Md_requestLine_433 : decode prog_14_method_7_code 433 = .ok (.iload 7, 2) := by decide +kernel
theorem dq_Md_requestLine_435 : decode prog_14_method_7_code 435 = .ok (.iconst 2, 1) := by decide +kernel
theorem dq_Md_requestLine_436 : decode prog_14_method_7_code 436 = .ok (.iadd, 1) := by decide +kernel
theorem dq_Md_requestLine_437 : decode prog_14_method_7_code 437 = .ok (.goto 5, 3) := by decide +kernel
theorem dq_Md_requestLine_440 : decode prog_14_method_7_code 440 = .ok (.iload 7, 2) := by decide +kernel
theorem dq_Md_requestLine_442 : decode prog_14_method_7_code 442 = .ok (.istore 7, 2) := by decide +kernel
theorem dq_Md_requestLine_444 : decode prog_14_method_7_code 444 = .ok (.iinc 7 1, 3) := by decide +kernel
theorem dq_Md_requestLine_447 : decode prog_14_method_7_code 447 = .ok (.goto (-259), 3) := by decide +kernel
theorem dq_Md_requestLine_450 : decode prog_14_method_7_code 450 = .ok (.aload_n 0, 1) := by decide +kernel
theorem dq_Md_requestLine_451 : decode prog_14_method_7_code 451 = .ok (.iload 6, 2) := by decide +kernel
theorem dq_Md_requestLine_453 : decode prog_14_method_7_code 453 = .ok (.invokevirtual 245, 3) := by decide +kernel
theorem dq_Md_requestLine_456 : decode prog_14_method_7_code 456 = .ok (.ireturn, 1) := by decide +kernel
set_option maxRecDepth 100000 in
def pq_Md_requestLine_175 (E : wo_E) (mc ms : Nat) (Post : Int32 → wo_W → Prop) (G : wo_W) (c s : Nat) : Prop := Post (400 : Int32) G
set_option maxRecDepth 100000 in
def pq_Md_requestLine_326 (E : wo_E) (mc ms : Nat) (Post : Int32 → wo_W → Prop) (G : wo_W) (c s : Nat) : Prop := Post (400 : Int32) G
set_option maxRecDepth 100000 in
def pq_Md_requestLine_442 (E : wo_E) (mc ms : Nat) (Post : Int32 → wo_W → Prop) (k188 : wo_W → Nat → Nat → Nat → Int32 → Int32 → Int32 → Int32 → Prop) (G : wo_W) (c s : Nat) (x0 : Nat) (x1 : Int32) (x2 : Int32) (x6 : Int32) (y0 : Int32) : Prop := k188 G c s x0 x1 x2 x6 (y0 + (1 : Int32))
set_option maxRecDepth 100000 in
def pq_Md_requestLine_428 (E : wo_E) (mc ms : Nat) (Post : Int32 → wo_W → Prop) (k188 : wo_W → Nat → Nat → Nat → Int32 → Int32 → Int32 → Int32 → Prop) (G : wo_W) (c s : Nat) (x0 : Nat) (x1 : Int32) (x2 : Int32) (x6 : Int32) (x7 : Int32) (x9 : Int32) : Prop := ((x9 = (0 : Int32) → pq_Md_requestLine_442 E mc ms Post k188 G c s x0 x1 x2 x6 x7) ∧
  (¬ x9 = (0 : Int32) → pq_Md_requestLine_442 E mc ms Post k188 G c s x0 x1 x2 x6 (x7 + (2 : Int32))))
set_option maxRecDepth 100000 in
def pq_Md_requestLine_368 (E : wo_E) (mc ms : Nat) (Post : Int32 → wo_W → Prop) (k188 : wo_W → Nat → Nat → Nat → Int32 → Int32 → Int32 → Int32 → Prop) (G : wo_W) (c s : Nat) (x0 : Nat) (x1 : Int32) (x2 : Int32) (x6 : Int32) (x7 : Int32) (x8 : Int32) (x9 : Int32) (x10 : Int32) (x11 : Int32) : Prop := ((x9 = (0 : Int32) → wo_ty G x0 = 15 ∧ ∀ r2 : Option Nat, r2 = wo_gr G 916 x0 → ∃ a4 : Nat, r2 = some a4 ∧ wo_ty G a4 = 66 ∧ vp_in x6 (wo_len G a4) ∧ en_bs E ≤ a4 ∧ ∀ G8 : wo_W, G8 = wo_sei G a4 x6.toNatClampNeg x8 → 
    pq_Md_requestLine_428 E mc ms Post k188 G8 c s x0 x1 x2 (x6 + (1 : Int32)) x7 x9) ∧
  (¬ x9 = (0 : Int32) → wo_ty G x0 = 15 ∧ ∀ r11 : Option Nat, r11 = wo_gr G 916 x0 → ∃ a13 : Nat, r11 = some a13 ∧ wo_ty G a13 = 66 ∧ vp_in x6 (wo_len G a13) ∧ en_bs E ≤ a13 ∧ ∀ G17 : wo_W, G17 = wo_sei G a13 x6.toNatClampNeg (37 : Int32) → 
    ∀ r19 : Option Nat, r19 = wo_gr G17 916 x0 → ∃ mc21 ms22 : Nat, (c + mc21) ≤ mc ∧ (s + ms22) ≤ ms ∧ pq_Md_digit E mc21 ms22 (fun v24 G23 => 
    ∃ a25 : Nat, r19 = some a25 ∧ wo_ty G23 a25 = 66 ∧ vp_in (x6 + (1 : Int32)) (wo_len G23 a25) ∧ en_bs E ≤ a25 ∧ ∀ G29 : wo_W, G29 = wo_sei G23 a25 (x6 + (1 : Int32)).toNatClampNeg v24 → 
      wo_ty G29 x0 = 15 ∧ ∀ r32 : Option Nat, r32 = wo_gr G29 916 x0 → ∃ mc34 ms35 : Nat, ((c + mc21) + mc34) ≤ mc ∧ ((s + ms22) + ms35) ≤ ms ∧ pq_Md_digit E mc34 ms35 (fun v37 G36 => 
      ∃ a38 : Nat, r32 = some a38 ∧ wo_ty G36 a38 = 66 ∧ vp_in (x6 + (2 : Int32)) (wo_len G36 a38) ∧ en_bs E ≤ a38 ∧ ∀ G42 : wo_W, G42 = wo_sei G36 a38 (x6 + (2 : Int32)).toNatClampNeg v37 → 
        pq_Md_requestLine_428 E mc ms Post k188 G42 ((c + mc21) + mc34) ((s + ms22) + ms35) x0 x1 x2 (x6 + (3 : Int32)) x7 x9) G29 x11) G17 x10))
set_option maxRecDepth 100000 in
def pq_Md_requestLine_330 (E : wo_E) (mc ms : Nat) (Post : Int32 → wo_W → Prop) (k188 : wo_W → Nat → Nat → Nat → Int32 → Int32 → Int32 → Int32 → Prop) (G : wo_W) (c s : Nat) (x0 : Nat) (x1 : Int32) (x2 : Int32) (x6 : Int32) (x7 : Int32) (x8 : Int32) (x9 : Int32) (x10 : Int32) (x11 : Int32) : Prop := ((x9 = (0 : Int32) → pq_Md_requestLine_368 E mc ms Post k188 G c s x0 x1 x2 x6 x7 x8 x9 x10 x11) ∧
  (¬ x9 = (0 : Int32) → ∃ mc1 ms2 : Nat, (c + mc1) ≤ mc ∧ (s + ms2) ≤ ms ∧ pq_Md_unreserved E mc1 ms2 (fun v4 G3 => 
    ((v4 = (0 : Int32) → pq_Md_requestLine_368 E mc ms Post k188 G3 (c + mc1) (s + ms2) x0 x1 x2 x6 x7 x8 x9 x10 x11) ∧
      (¬ v4 = (0 : Int32) → wo_ty G3 x0 = 15 ∧ ∀ r6 : Option Nat, r6 = wo_gr G3 916 x0 → ∃ a8 : Nat, r6 = some a8 ∧ wo_ty G3 a8 = 66 ∧ vp_in x6 (wo_len G3 a8) ∧ en_bs E ≤ a8 ∧ ∀ G12 : wo_W, G12 = wo_sei G3 a8 x6.toNatClampNeg (((16 : Int32) * x10) + x11) → 
        pq_Md_requestLine_428 E mc ms Post k188 G12 (c + mc1) (s + ms2) x0 x1 x2 (x6 + (1 : Int32)) x7 x9))) G (((16 : Int32) * x10) + x11)))
set_option maxRecDepth 100000 in
def pq_Md_requestLine_295 (E : wo_E) (mc ms : Nat) (Post : Int32 → wo_W → Prop) (k188 : wo_W → Nat → Nat → Nat → Int32 → Int32 → Int32 → Int32 → Prop) (G : wo_W) (c s : Nat) (x0 : Nat) (x1 : Int32) (x2 : Int32) (x6 : Int32) (x7 : Int32) (x8 : Int32) (x9 : Int32) (x10 : Int32) (y0 : Int32) : Prop := ((x8 < (33 : Int32) → pq_Md_requestLine_326 E mc ms Post G c s) ∧
  (¬ x8 < (33 : Int32) → (((126 : Int32) < x8 → pq_Md_requestLine_326 E mc ms Post G c s) ∧
    (¬ (126 : Int32) < x8 → ((x9 = (0 : Int32) → pq_Md_requestLine_330 E mc ms Post k188 G c s x0 x1 x2 x6 x7 x8 x9 x10 y0) ∧
      (¬ x9 = (0 : Int32) → ((x10 < (0 : Int32) → pq_Md_requestLine_326 E mc ms Post G c s) ∧
        (¬ x10 < (0 : Int32) → (((0 : Int32) ≤ y0 → pq_Md_requestLine_330 E mc ms Post k188 G c s x0 x1 x2 x6 x7 x8 x9 x10 y0) ∧
          (¬ (0 : Int32) ≤ y0 → pq_Md_requestLine_326 E mc ms Post G c s))))))))))
set_option maxRecDepth 100000 in
def pq_Md_requestLine_294 (E : wo_E) (mc ms : Nat) (Post : Int32 → wo_W → Prop) (k188 : wo_W → Nat → Nat → Nat → Int32 → Int32 → Int32 → Int32 → Prop) (G : wo_W) (c s : Nat) (x0 : Nat) (x1 : Int32) (x2 : Int32) (x6 : Int32) (x7 : Int32) (x8 : Int32) (x9 : Int32) (x10 : Int32) : Prop := pq_Md_requestLine_295 E mc ms Post k188 G c s x0 x1 x2 x6 x7 x8 x9 x10 (-1 : Int32)
set_option maxRecDepth 100000 in
def pq_Md_requestLine_258 (E : wo_E) (mc ms : Nat) (Post : Int32 → wo_W → Prop) (k188 : wo_W → Nat → Nat → Nat → Int32 → Int32 → Int32 → Int32 → Prop) (G : wo_W) (c s : Nat) (x0 : Nat) (x1 : Int32) (x2 : Int32) (x6 : Int32) (x7 : Int32) (x8 : Int32) (x9 : Int32) (y0 : Int32) : Prop := ((x9 = (0 : Int32) → pq_Md_requestLine_294 E mc ms Post k188 G c s x0 x1 x2 x6 x7 x8 x9 y0) ∧
  (¬ x9 = (0 : Int32) → ((x2 ≤ (x7 + (2 : Int32)) → pq_Md_requestLine_294 E mc ms Post k188 G c s x0 x1 x2 x6 x7 x8 x9 y0) ∧
    (¬ x2 ≤ (x7 + (2 : Int32)) → wo_ty G x0 = 15 ∧ ∀ r2 : Option Nat, r2 = wo_gr G 896 x0 → ∃ a4 : Nat, r2 = some a4 ∧ wo_ty G a4 = 66 ∧ vp_in ((((4200 : Int32) * x1) + x7) + (2 : Int32)) (wo_len G a4) ∧ ∃ mc7 ms8 : Nat, (c + mc7) ≤ mc ∧ (s + ms8) ≤ ms ∧ pq_Md_hex E mc7 ms8 (fun v10 G9 => 
      pq_Md_requestLine_295 E mc ms Post k188 G9 (c + mc7) (s + ms8) x0 x1 x2 x6 x7 x8 x9 y0 v10) G (wo_ei G a4 ((((4200 : Int32) * x1) + x7) + (2 : Int32)).toNatClampNeg)))))
set_option maxRecDepth 100000 in
def pq_Md_requestLine_257 (E : wo_E) (mc ms : Nat) (Post : Int32 → wo_W → Prop) (k188 : wo_W → Nat → Nat → Nat → Int32 → Int32 → Int32 → Int32 → Prop) (G : wo_W) (c s : Nat) (x0 : Nat) (x1 : Int32) (x2 : Int32) (x6 : Int32) (x7 : Int32) (x8 : Int32) (x9 : Int32) : Prop := pq_Md_requestLine_258 E mc ms Post k188 G c s x0 x1 x2 x6 x7 x8 x9 (-1 : Int32)
set_option maxRecDepth 100000 in
def pq_Md_requestLine_221 (E : wo_E) (mc ms : Nat) (Post : Int32 → wo_W → Prop) (k188 : wo_W → Nat → Nat → Nat → Int32 → Int32 → Int32 → Int32 → Prop) (G : wo_W) (c s : Nat) (x0 : Nat) (x1 : Int32) (x2 : Int32) (x6 : Int32) (x7 : Int32) (x8 : Int32) (y0 : Int32) : Prop := ((y0 = (0 : Int32) → pq_Md_requestLine_257 E mc ms Post k188 G c s x0 x1 x2 x6 x7 x8 y0) ∧
  (¬ y0 = (0 : Int32) → ((x2 ≤ (x7 + (2 : Int32)) → pq_Md_requestLine_257 E mc ms Post k188 G c s x0 x1 x2 x6 x7 x8 y0) ∧
    (¬ x2 ≤ (x7 + (2 : Int32)) → wo_ty G x0 = 15 ∧ ∀ r2 : Option Nat, r2 = wo_gr G 896 x0 → ∃ a4 : Nat, r2 = some a4 ∧ wo_ty G a4 = 66 ∧ vp_in ((((4200 : Int32) * x1) + x7) + (1 : Int32)) (wo_len G a4) ∧ ∃ mc7 ms8 : Nat, (c + mc7) ≤ mc ∧ (s + ms8) ≤ ms ∧ pq_Md_hex E mc7 ms8 (fun v10 G9 => 
      pq_Md_requestLine_258 E mc ms Post k188 G9 (c + mc7) (s + ms8) x0 x1 x2 x6 x7 x8 y0 v10) G (wo_ei G a4 ((((4200 : Int32) * x1) + x7) + (1 : Int32)).toNatClampNeg)))))
set_option maxRecDepth 100000 in
def pq_Md_requestLine_188 (E : wo_E) (mc ms : Nat) (Post : Int32 → wo_W → Prop) : Nat → wo_W → Nat → Nat → Nat → Int32 → Int32 → Int32 → Int32 → Prop
  | 0 => fun _ _ _ _ _ _ _ _ => False
  | n + 1 => fun G c s x0 x1 x2 x6 x7 => ((x2 ≤ x7 → wo_ty G x0 = 15 ∧ ∃ mc2 ms3 : Nat, (c + mc2) ≤ mc ∧ (s + ms3) ≤ ms ∧ pq_Md_normal E mc2 ms3 (fun v5 G4 => 
    Post v5 G4) G x0 x6) ∧
  (¬ x2 ≤ x7 → wo_ty G x0 = 15 ∧ ∀ r7 : Option Nat, r7 = wo_gr G 896 x0 → ∃ a9 : Nat, r7 = some a9 ∧ wo_ty G a9 = 66 ∧ vp_in (((4200 : Int32) * x1) + x7) (wo_len G a9) ∧ ((¬ (wo_ei G a9 (((4200 : Int32) * x1) + x7).toNatClampNeg) = (37 : Int32) → pq_Md_requestLine_221 E mc ms Post (pq_Md_requestLine_188 E mc ms Post n) G c s x0 x1 x2 x6 x7 (wo_ei G a9 (((4200 : Int32) * x1) + x7).toNatClampNeg) (0 : Int32)) ∧
    ((wo_ei G a9 (((4200 : Int32) * x1) + x7).toNatClampNeg) = (37 : Int32) → pq_Md_requestLine_221 E mc ms Post (pq_Md_requestLine_188 E mc ms Post n) G c s x0 x1 x2 x6 x7 (wo_ei G a9 (((4200 : Int32) * x1) + x7).toNatClampNeg) (1 : Int32)))))
set_option maxRecDepth 100000 in
def pq_Md_requestLine_118 (E : wo_E) (mc ms : Nat) (Post : Int32 → wo_W → Prop) (G : wo_W) (c s : Nat) (x0 : Nat) (x1 : Int32) (x2 : Int32) (x5 : Int32) (y0 : Option Nat) (y1 : Int32) (y2 : Int32) : Prop := ∃ a1 : Nat, y0 = some a1 ∧ wo_ty G a1 = 66 ∧ vp_in y1 (wo_len G a1) ∧ en_bs E ≤ a1 ∧ ∀ G5 : wo_W, G5 = wo_sei G a1 y1.toNatClampNeg y2 → 
  wo_ty G5 x0 = 15 ∧ ∀ r8 : Option Nat, r8 = wo_gr G5 907 x0 → ∃ a10 : Nat, r8 = some a10 ∧ wo_ty G5 a10 = 66 ∧ vp_in (8 : Int32) (wo_len G5 a10) ∧ (((wo_ei G5 a10 (8 : Int32).toNatClampNeg) < (0 : Int32) → pq_Md_requestLine_175 E mc ms Post G5 c s) ∧
  (¬ (wo_ei G5 a10 (8 : Int32).toNatClampNeg) < (0 : Int32) → ((x2 ≤ (x5 + (1 : Int32)) → pq_Md_requestLine_175 E mc ms Post G5 c s) ∧
    (¬ x2 ≤ (x5 + (1 : Int32)) → ∀ r13 : Option Nat, r13 = wo_gr G5 896 x0 → ∃ a15 : Nat, r13 = some a15 ∧ wo_ty G5 a15 = 66 ∧ vp_in (((4200 : Int32) * x1) + x5) (wo_len G5 a15) ∧ ((¬ (wo_ei G5 a15 (((4200 : Int32) * x1) + x5).toNatClampNeg) = (32 : Int32) → pq_Md_requestLine_175 E mc ms Post G5 c s) ∧
      ((wo_ei G5 a15 (((4200 : Int32) * x1) + x5).toNatClampNeg) = (32 : Int32) → ∀ r18 : Option Nat, r18 = wo_gr G5 896 x0 → ∃ a20 : Nat, r18 = some a20 ∧ wo_ty G5 a20 = 66 ∧ vp_in ((((4200 : Int32) * x1) + x5) + (1 : Int32)) (wo_len G5 a20) ∧ (((wo_ei G5 a20 ((((4200 : Int32) * x1) + x5) + (1 : Int32)).toNatClampNeg) = (47 : Int32) → ∃ n1 : Nat, pq_Md_requestLine_188 E mc ms Post n1 G5 c s x0 x1 x2 (0 : Int32) (x5 + (1 : Int32))) ∧
        (¬ (wo_ei G5 a20 ((((4200 : Int32) * x1) + x5) + (1 : Int32)).toNatClampNeg) = (47 : Int32) → pq_Md_requestLine_175 E mc ms Post G5 c s))))))))
set_option maxRecDepth 100000 in
def pq_Md_requestLine_63 (E : wo_E) (mc ms : Nat) (Post : Int32 → wo_W → Prop) (G : wo_W) (c s : Nat) (x0 : Nat) (x1 : Int32) (x2 : Int32) (x3 : Int64) (x5 : Int32) : Prop := wo_ty G x0 = 15 ∧ ∀ r2 : Option Nat, r2 = wo_gr G 907 x0 → ((¬ (lg_cmp x3 (4670804 : Int64)) = (0 : Int32) → ((¬ (lg_cmp x3 (1212498244 : Int64)) = (0 : Int32) → ((¬ (lg_cmp x3 (5264724 : Int64)) = (0 : Int32) → ((¬ (lg_cmp x3 (75064423044165 : Int64)) = (0 : Int32) → pq_Md_requestLine_118 E mc ms Post G c s x0 x1 x2 x5 r2 (8 : Int32) (-1 : Int32)) ∧
        ((lg_cmp x3 (75064423044165 : Int64)) = (0 : Int32) → pq_Md_requestLine_118 E mc ms Post G c s x0 x1 x2 x5 r2 (8 : Int32) (3 : Int32)))) ∧
      ((lg_cmp x3 (5264724 : Int64)) = (0 : Int32) → pq_Md_requestLine_118 E mc ms Post G c s x0 x1 x2 x5 r2 (8 : Int32) (2 : Int32)))) ∧
    ((lg_cmp x3 (1212498244 : Int64)) = (0 : Int32) → pq_Md_requestLine_118 E mc ms Post G c s x0 x1 x2 x5 r2 (8 : Int32) (1 : Int32)))) ∧
  ((lg_cmp x3 (4670804 : Int64)) = (0 : Int32) → pq_Md_requestLine_118 E mc ms Post G c s x0 x1 x2 x5 r2 (8 : Int32) (0 : Int32)))
set_option maxRecDepth 100000 in
def pq_Md_requestLine_5 (E : wo_E) (mc ms : Nat) (Post : Int32 → wo_W → Prop) : Nat → wo_W → Nat → Nat → Nat → Int32 → Int32 → Int64 → Int32 → Prop
  | 0 => fun _ _ _ _ _ _ _ _ => False
  | n + 1 => fun G c s x0 x1 x2 x3 x5 => ((x2 ≤ x5 → pq_Md_requestLine_63 E mc ms Post G c s x0 x1 x2 x3 x5) ∧
  (¬ x2 ≤ x5 → (((7 : Int32) ≤ x5 → pq_Md_requestLine_63 E mc ms Post G c s x0 x1 x2 x3 x5) ∧
    (¬ (7 : Int32) ≤ x5 → wo_ty G x0 = 15 ∧ ∀ r2 : Option Nat, r2 = wo_gr G 896 x0 → ∃ a4 : Nat, r2 = some a4 ∧ wo_ty G a4 = 66 ∧ vp_in (((4200 : Int32) * x1) + x5) (wo_len G a4) ∧ (((wo_ei G a4 (((4200 : Int32) * x1) + x5).toNatClampNeg) = (32 : Int32) → pq_Md_requestLine_63 E mc ms Post G c s x0 x1 x2 x3 x5) ∧
      (¬ (wo_ei G a4 (((4200 : Int32) * x1) + x5).toNatClampNeg) = (32 : Int32) → ∀ r7 : Option Nat, r7 = wo_gr G 896 x0 → ∃ a9 : Nat, r7 = some a9 ∧ wo_ty G a9 = 66 ∧ vp_in (((4200 : Int32) * x1) + x5) (wo_len G a9) ∧ pq_Md_requestLine_5 E mc ms Post n G c s x0 x1 x2 ((x3 * (256 : Int64)) + (wo_ei G a9 (((4200 : Int32) * x1) + x5).toNatClampNeg).toInt64) (x5 + (1 : Int32))))))))
set_option maxRecDepth 100000 in
def pq_Md_requestLine_0 (E : wo_E) (mc ms : Nat) (Post : Int32 → wo_W → Prop) (G : wo_W) (c s : Nat) (x0 : Nat) (x1 : Int32) (x2 : Int32) : Prop := ∃ n1 : Nat, pq_Md_requestLine_5 E mc ms Post n1 G c s x0 x1 x2 (0 : Int64) (0 : Int32)
def pq_Md_requestLine (E : wo_E) (mc ms : Nat) (Post : Int32 → wo_W → Prop) (G : wo_W) (x0 : Nat) (x1 : Int32) (x2 : Int32) : Prop := pq_Md_requestLine_0 E mc ms Post G 0 0 x0 x1 x2
set_option maxRecDepth 100000 in
set_option maxHeartbeats 4000000 in
theorem tq_Md_requestLine_175 {p : Program} {l : Launch} {e : Env} {R : Room} {s₀ : State} {m : MethodId} {args : Array Value} {below : List Frame} {meth : Method} {cd : Code} {E : wo_E} {mc ms : Nat} {Post : Int32 → wo_W → Prop} (hC : wo_Cx E "EdgeCacheModel" prog_14_method_7_code 13 1 28 ((Option.some Jvm.ClassFile.FieldType.int)) "requestLine" mc ms p R s₀ m args meth cd) : ∀ {G : wo_W} {c s : Nat}, pq_Md_requestLine_175 E mc ms Post G c s → ∀ {H : Heap} {locs : List Loc} {ls : Array Slot}, wo_Se E G H → va_S (en_A E) s₀.heap H locs → lx_has ls 13 [] → c ≤ mc → s ≤ ms → W p l e R s₀ m args below meth cd H locs c s (MQ below (va_Qi Post (wo_B E) (en_A E)) args s₀ mc ms (en_A E)) (F0 m 175 ls []) := by
  intro G c s hw H locs ls hG hS hl hcc hss
  dsimp only [pq_Md_requestLine_175] at hw
  have hx := hC.1
  have hb := hC.2.1
  refine lv_sipush (v := (400 : Int32)) hx hb dq_Md_requestLine_175 rfl ?_
  exact wo_iret hC hG hS hcc hss hw dq_Md_requestLine_178
set_option maxRecDepth 100000 in
set_option maxHeartbeats 4000000 in
theorem tq_Md_requestLine_326 {p : Program} {l : Launch} {e : Env} {R : Room} {s₀ : State} {m : MethodId} {args : Array Value} {below : List Frame} {meth : Method} {cd : Code} {E : wo_E} {mc ms : Nat} {Post : Int32 → wo_W → Prop} (hC : wo_Cx E "EdgeCacheModel" prog_14_method_7_code 13 1 28 ((Option.some Jvm.ClassFile.FieldType.int)) "requestLine" mc ms p R s₀ m args meth cd) : ∀ {G : wo_W} {c s : Nat}, pq_Md_requestLine_326 E mc ms Post G c s → ∀ {H : Heap} {locs : List Loc} {ls : Array Slot}, wo_Se E G H → va_S (en_A E) s₀.heap H locs → lx_has ls 13 [] → c ≤ mc → s ≤ ms → W p l e R s₀ m args below meth cd H locs c s (MQ below (va_Qi Post (wo_B E) (en_A E)) args s₀ mc ms (en_A E)) (F0 m 326 ls []) := by
  intro G c s hw H locs ls hG hS hl hcc hss
  dsimp only [pq_Md_requestLine_326] at hw
  have hx := hC.1
  have hb := hC.2.1
  refine lv_sipush (v := (400 : Int32)) hx hb dq_Md_requestLine_326 rfl ?_
  exact wo_iret hC hG hS hcc hss hw dq_Md_requestLine_329
set_option maxRecDepth 100000 in
set_option maxHeartbeats 4000000 in
theorem tq_Md_requestLine_442 {p : Program} {l : Launch} {e : Env} {R : Room} {s₀ : State} {m : MethodId} {args : Array Value} {below : List Frame} {meth : Method} {cd : Code} {E : wo_E} {mc ms : Nat} {Post : Int32 → wo_W → Prop} {k188 : wo_W → Nat → Nat → Nat → Int32 → Int32 → Int32 → Int32 → Prop} (hC : wo_Cx E "EdgeCacheModel" prog_14_method_7_code 13 1 28 ((Option.some Jvm.ClassFile.FieldType.int)) "requestLine" mc ms p R s₀ m args meth cd) (hk188 : ∀ {G : wo_W} {c s : Nat} {x0 : Nat} {x1 : Int32} {x2 : Int32} {x6 : Int32} {x7 : Int32}, k188 G c s x0 x1 x2 x6 x7 → ∀ {H : Heap} {locs : List Loc} {ls : Array Slot}, wo_Se E G H → va_S (en_A E) s₀.heap H locs → lx_has ls 13 [(0, 1, .ref x0), (1, 1, .int x1), (2, 1, .int x2), (6, 1, .int x6), (7, 1, .int x7)] → c ≤ mc → s ≤ ms → W p l e R s₀ m args below meth cd H locs c s (MQ below (va_Qi Post (wo_B E) (en_A E)) args s₀ mc ms (en_A E)) (F0 m 188 ls [])) : ∀ {G : wo_W} {c s : Nat} {x0 : Nat} {x1 : Int32} {x2 : Int32} {x6 : Int32} {y0 : Int32}, pq_Md_requestLine_442 E mc ms Post k188 G c s x0 x1 x2 x6 y0 → ∀ {H : Heap} {locs : List Loc} {ls : Array Slot}, wo_Se E G H → va_S (en_A E) s₀.heap H locs → lx_has ls 13 [(0, 1, .ref x0), (1, 1, .int x1), (2, 1, .int x2), (6, 1, .int x6)] → c ≤ mc → s ≤ ms → W p l e R s₀ m args below meth cd H locs c s (MQ below (va_Qi Post (wo_B E) (en_A E)) args s₀ mc ms (en_A E)) (F0 m 442 ls [.int y0]) := by
  intro G c s x0 x1 x2 x6 y0 hw H locs ls hG hS hl hcc hss
  dsimp only [pq_Md_requestLine_442] at hw
  have hx := hC.1
  have hb := hC.2.1
  refine lx_istore (lv' := [(7, 1, .int y0), (0, 1, .ref x0), (1, 1, .int x1), (2, 1, .int x2), (6, 1, .int x6)]) hx hb dq_Md_requestLine_442 hl (by decide) rfl (fun ls hl' => ?_)
  clear hl
  have hl := hl'
  clear hl'
  refine lx_iinc (k := 0) (v := (y0 + (1 : Int32))) (lv' := [(7, 1, .int (y0 + (1 : Int32))), (0, 1, .ref x0), (1, 1, .int x1), (2, 1, .int x2), (6, 1, .int x6)]) hx hb dq_Md_requestLine_444 hl rfl rfl (by decide) rfl (fun ls hl' => ?_)
  clear hl
  have hl := hl'
  clear hl'
  refine lv_goto (tgt := 188) hx hb dq_Md_requestLine_447 rfl ?_
  exact hk188 hw hG hS (lx_sub hl [1, 2, 3, 4, 0] rfl) hcc hss
set_option maxRecDepth 100000 in
set_option maxHeartbeats 4000000 in
theorem tq_Md_requestLine_428 {p : Program} {l : Launch} {e : Env} {R : Room} {s₀ : State} {m : MethodId} {args : Array Value} {below : List Frame} {meth : Method} {cd : Code} {E : wo_E} {mc ms : Nat} {Post : Int32 → wo_W → Prop} {k188 : wo_W → Nat → Nat → Nat → Int32 → Int32 → Int32 → Int32 → Prop} (hC : wo_Cx E "EdgeCacheModel" prog_14_method_7_code 13 1 28 ((Option.some Jvm.ClassFile.FieldType.int)) "requestLine" mc ms p R s₀ m args meth cd) (hk188 : ∀ {G : wo_W} {c s : Nat} {x0 : Nat} {x1 : Int32} {x2 : Int32} {x6 : Int32} {x7 : Int32}, k188 G c s x0 x1 x2 x6 x7 → ∀ {H : Heap} {locs : List Loc} {ls : Array Slot}, wo_Se E G H → va_S (en_A E) s₀.heap H locs → lx_has ls 13 [(0, 1, .ref x0), (1, 1, .int x1), (2, 1, .int x2), (6, 1, .int x6), (7, 1, .int x7)] → c ≤ mc → s ≤ ms → W p l e R s₀ m args below meth cd H locs c s (MQ below (va_Qi Post (wo_B E) (en_A E)) args s₀ mc ms (en_A E)) (F0 m 188 ls [])) : ∀ {G : wo_W} {c s : Nat} {x0 : Nat} {x1 : Int32} {x2 : Int32} {x6 : Int32} {x7 : Int32} {x9 : Int32}, pq_Md_requestLine_428 E mc ms Post k188 G c s x0 x1 x2 x6 x7 x9 → ∀ {H : Heap} {locs : List Loc} {ls : Array Slot}, wo_Se E G H → va_S (en_A E) s₀.heap H locs → lx_has ls 13 [(0, 1, .ref x0), (1, 1, .int x1), (2, 1, .int x2), (6, 1, .int x6), (7, 1, .int x7), (9, 1, .int x9)] → c ≤ mc → s ≤ ms → W p l e R s₀ m args below meth cd H locs c s (MQ below (va_Qi Post (wo_B E) (en_A E)) args s₀ mc ms (en_A E)) (F0 m 428 ls []) := by
  intro G c s x0 x1 x2 x6 x7 x9 hw H locs ls hG hS hl hcc hss
  dsimp only [pq_Md_requestLine_428] at hw
  have hx := hC.1
  have hb := hC.2.1
  refine lv_iload hx hb dq_Md_requestLine_428 (lx_at hl 5 rfl) ?_
  refine lv_if_eq (tgt := 440) hx hb dq_Md_requestLine_430 rfl (fun h => ?_) (fun h => ?_)
  · replace hw := hw.1 h
    refine lv_iload hx hb dq_Md_requestLine_440 (lx_at hl 4 rfl) ?_
    exact tq_Md_requestLine_442 hC hk188 hw hG hS (lx_sub hl [0, 1, 2, 3] rfl) hcc hss
  · replace hw := hw.2 h
    refine lv_iload hx hb dq_Md_requestLine_433 (lx_at hl 4 rfl) ?_
    refine lv_iconst (v := (2 : Int32)) hx hb dq_Md_requestLine_435 rfl ?_
    refine lv_iadd hx hb dq_Md_requestLine_436 ?_
    refine lv_goto (tgt := 442) hx hb dq_Md_requestLine_437 rfl ?_
    exact tq_Md_requestLine_442 hC hk188 hw hG hS (lx_sub hl [0, 1, 2, 3] rfl) hcc hss
set_option maxRecDepth 100000 in
set_option maxHeartbeats 4000000 in
theorem tq_Md_requestLine_368 {p : Program} {l : Launch} {e : Env} {R : Room} {s₀ : State} {m : MethodId} {args : Array Value} {below : List Frame} {meth : Method} {cd : Code} {E : wo_E} {mc ms : Nat} {Post : Int32 → wo_W → Prop} {k188 : wo_W → Nat → Nat → Nat → Int32 → Int32 → Int32 → Int32 → Prop} (hC : wo_Cx E "EdgeCacheModel" prog_14_method_7_code 13 1 28 ((Option.some Jvm.ClassFile.FieldType.int)) "requestLine" mc ms p R s₀ m args meth cd) (hk188 : ∀ {G : wo_W} {c s : Nat} {x0 : Nat} {x1 : Int32} {x2 : Int32} {x6 : Int32} {x7 : Int32}, k188 G c s x0 x1 x2 x6 x7 → ∀ {H : Heap} {locs : List Loc} {ls : Array Slot}, wo_Se E G H → va_S (en_A E) s₀.heap H locs → lx_has ls 13 [(0, 1, .ref x0), (1, 1, .int x1), (2, 1, .int x2), (6, 1, .int x6), (7, 1, .int x7)] → c ≤ mc → s ≤ ms → W p l e R s₀ m args below meth cd H locs c s (MQ below (va_Qi Post (wo_B E) (en_A E)) args s₀ mc ms (en_A E)) (F0 m 188 ls [])) : ∀ {G : wo_W} {c s : Nat} {x0 : Nat} {x1 : Int32} {x2 : Int32} {x6 : Int32} {x7 : Int32} {x8 : Int32} {x9 : Int32} {x10 : Int32} {x11 : Int32}, pq_Md_requestLine_368 E mc ms Post k188 G c s x0 x1 x2 x6 x7 x8 x9 x10 x11 → ∀ {H : Heap} {locs : List Loc} {ls : Array Slot}, wo_Se E G H → va_S (en_A E) s₀.heap H locs → lx_has ls 13 [(0, 1, .ref x0), (1, 1, .int x1), (2, 1, .int x2), (6, 1, .int x6), (7, 1, .int x7), (8, 1, .int x8), (9, 1, .int x9), (10, 1, .int x10), (11, 1, .int x11)] → c ≤ mc → s ≤ ms → W p l e R s₀ m args below meth cd H locs c s (MQ below (va_Qi Post (wo_B E) (en_A E)) args s₀ mc ms (en_A E)) (F0 m 368 ls []) := by
  intro G c s x0 x1 x2 x6 x7 x8 x9 x10 x11 hw H locs ls hG hS hl hcc hss
  dsimp only [pq_Md_requestLine_368] at hw
  have hx := hC.1
  have hb := hC.2.1
  refine lv_iload hx hb dq_Md_requestLine_368 (lx_at hl 6 rfl) ?_
  refine lv_if_eq (tgt := 416) hx hb dq_Md_requestLine_370 rfl (fun h => ?_) (fun h => ?_)
  · replace hw := hw.1 h
    refine lv_aload_n hx hb dq_Md_requestLine_416 rfl (lx_at hl 0 rfl) ?_
    obtain ⟨t1, hw⟩ := hw
    refine wo_getR hC fq_Md_63 rfl hG t1 dq_Md_requestLine_417 (fun r2 e3 => ?_)
    replace hw := hw r2 e3
    refine lv_iload hx hb dq_Md_requestLine_420 (lx_at hl 3 rfl) ?_
    refine lv_iload hx hb dq_Md_requestLine_422 (lx_at hl 5 rfl) ?_
    obtain ⟨a4, rfl, hw⟩ := hw
    obtain ⟨t5, hw⟩ := hw
    obtain ⟨h6, hw⟩ := hw
    obtain ⟨h7, hw⟩ := hw
    refine wo_iast (j := 2) hC rfl hG hS t5 h6 h7 dq_Md_requestLine_424 (fun G8 H locs e9 hG hS => ?_)
    replace hw := hw G8 e9
    refine lx_iinc (k := 3) (v := (x6 + (1 : Int32))) (lv' := [(6, 1, .int (x6 + (1 : Int32))), (0, 1, .ref x0), (1, 1, .int x1), (2, 1, .int x2), (7, 1, .int x7), (8, 1, .int x8), (9, 1, .int x9), (10, 1, .int x10), (11, 1, .int x11)]) hx hb dq_Md_requestLine_425 hl rfl rfl (by decide) rfl (fun ls hl' => ?_)
    clear hl
    have hl := hl'
    clear hl'
    exact tq_Md_requestLine_428 hC hk188 hw hG hS (lx_sub hl [1, 2, 3, 0, 4, 6] rfl) hcc hss
  · replace hw := hw.2 h
    refine lv_aload_n hx hb dq_Md_requestLine_373 rfl (lx_at hl 0 rfl) ?_
    obtain ⟨t10, hw⟩ := hw
    refine wo_getR hC fq_Md_63 rfl hG t10 dq_Md_requestLine_374 (fun r11 e12 => ?_)
    replace hw := hw r11 e12
    refine lv_iload hx hb dq_Md_requestLine_377 (lx_at hl 3 rfl) ?_
    refine lv_bipush (v := (37 : Int32)) hx hb dq_Md_requestLine_379 rfl ?_
    obtain ⟨a13, rfl, hw⟩ := hw
    obtain ⟨t14, hw⟩ := hw
    obtain ⟨h15, hw⟩ := hw
    obtain ⟨h16, hw⟩ := hw
    refine wo_iast (j := 2) hC rfl hG hS t14 h15 h16 dq_Md_requestLine_381 (fun G17 H locs e18 hG hS => ?_)
    replace hw := hw G17 e18
    refine lv_aload_n hx hb dq_Md_requestLine_382 rfl (lx_at hl 0 rfl) ?_
    refine wo_getR hC fq_Md_63 rfl hG (ty_sei e18 t10) dq_Md_requestLine_383 (fun r19 e20 => ?_)
    replace hw := hw r19 e20
    refine lv_iload hx hb dq_Md_requestLine_386 (lx_at hl 3 rfl) ?_
    refine lv_iconst (v := (1 : Int32)) hx hb dq_Md_requestLine_388 rfl ?_
    refine lv_iadd hx hb dq_Md_requestLine_389 ?_
    refine lv_iload hx hb dq_Md_requestLine_390 (lx_at hl 7 rfl) ?_
    obtain ⟨mc21, ms22, hc1, hs1, hw⟩ := hw
    refine va_calli (wo_runS hC lq_Md_242 (mq_Md_digit hw) hG hS rfl (lx_sz hl) rfl (lx_rm (Nat.le_of_ble_eq_true rfl)) (by decide) dq_Md_requestLine_392 ⟨hc1, hs1⟩) hS (fun _ _ h => h) (fun _ h => h) (fun v24 G23 t H locs ht hvm hw' hB _ _ hS => ?_)
    clear hw
    have hw := hw'
    clear hw'
    replace hG := wo_bk ht hB
    replace hcc := hc1
    replace hss := hs1
    obtain ⟨a25, rfl, hw⟩ := hw
    obtain ⟨t26, hw⟩ := hw
    obtain ⟨h27, hw⟩ := hw
    obtain ⟨h28, hw⟩ := hw
    refine wo_iast (j := 2) hC rfl hG hS t26 h27 h28 dq_Md_requestLine_395 (fun G29 H locs e30 hG hS => ?_)
    replace hw := hw G29 e30
    refine lv_aload_n hx hb dq_Md_requestLine_396 rfl (lx_at hl 0 rfl) ?_
    obtain ⟨t31, hw⟩ := hw
    refine wo_getR hC fq_Md_63 rfl hG t31 dq_Md_requestLine_397 (fun r32 e33 => ?_)
    replace hw := hw r32 e33
    refine lv_iload hx hb dq_Md_requestLine_400 (lx_at hl 3 rfl) ?_
    refine lv_iconst (v := (2 : Int32)) hx hb dq_Md_requestLine_402 rfl ?_
    refine lv_iadd hx hb dq_Md_requestLine_403 ?_
    refine lv_iload hx hb dq_Md_requestLine_404 (lx_at hl 8 rfl) ?_
    obtain ⟨mc34, ms35, hc1, hs1, hw⟩ := hw
    refine va_calli (wo_runS hC lq_Md_242 (mq_Md_digit hw) hG hS rfl (lx_sz hl) rfl (lx_rm (Nat.le_of_ble_eq_true rfl)) (by decide) dq_Md_requestLine_406 ⟨hc1, hs1⟩) hS (fun _ _ h => h) (fun _ h => h) (fun v37 G36 t H locs ht hvm hw' hB _ _ hS => ?_)
    clear hw
    have hw := hw'
    clear hw'
    replace hG := wo_bk ht hB
    replace hcc := hc1
    replace hss := hs1
    obtain ⟨a38, rfl, hw⟩ := hw
    obtain ⟨t39, hw⟩ := hw
    obtain ⟨h40, hw⟩ := hw
    obtain ⟨h41, hw⟩ := hw
    refine wo_iast (j := 2) hC rfl hG hS t39 h40 h41 dq_Md_requestLine_409 (fun G42 H locs e43 hG hS => ?_)
    replace hw := hw G42 e43
    refine lx_iinc (k := 3) (v := (x6 + (3 : Int32))) (lv' := [(6, 1, .int (x6 + (3 : Int32))), (0, 1, .ref x0), (1, 1, .int x1), (2, 1, .int x2), (7, 1, .int x7), (8, 1, .int x8), (9, 1, .int x9), (10, 1, .int x10), (11, 1, .int x11)]) hx hb dq_Md_requestLine_410 hl rfl rfl (by decide) rfl (fun ls hl' => ?_)
    clear hl
    have hl := hl'
    clear hl'
    refine lv_goto (tgt := 428) hx hb dq_Md_requestLine_413 rfl ?_
    exact tq_Md_requestLine_428 hC hk188 hw hG hS (lx_sub hl [1, 2, 3, 0, 4, 6] rfl) hcc hss
set_option maxRecDepth 100000 in
set_option maxHeartbeats 4000000 in
theorem tq_Md_requestLine_330 {p : Program} {l : Launch} {e : Env} {R : Room} {s₀ : State} {m : MethodId} {args : Array Value} {below : List Frame} {meth : Method} {cd : Code} {E : wo_E} {mc ms : Nat} {Post : Int32 → wo_W → Prop} {k188 : wo_W → Nat → Nat → Nat → Int32 → Int32 → Int32 → Int32 → Prop} (hC : wo_Cx E "EdgeCacheModel" prog_14_method_7_code 13 1 28 ((Option.some Jvm.ClassFile.FieldType.int)) "requestLine" mc ms p R s₀ m args meth cd) (hk188 : ∀ {G : wo_W} {c s : Nat} {x0 : Nat} {x1 : Int32} {x2 : Int32} {x6 : Int32} {x7 : Int32}, k188 G c s x0 x1 x2 x6 x7 → ∀ {H : Heap} {locs : List Loc} {ls : Array Slot}, wo_Se E G H → va_S (en_A E) s₀.heap H locs → lx_has ls 13 [(0, 1, .ref x0), (1, 1, .int x1), (2, 1, .int x2), (6, 1, .int x6), (7, 1, .int x7)] → c ≤ mc → s ≤ ms → W p l e R s₀ m args below meth cd H locs c s (MQ below (va_Qi Post (wo_B E) (en_A E)) args s₀ mc ms (en_A E)) (F0 m 188 ls [])) : ∀ {G : wo_W} {c s : Nat} {x0 : Nat} {x1 : Int32} {x2 : Int32} {x6 : Int32} {x7 : Int32} {x8 : Int32} {x9 : Int32} {x10 : Int32} {x11 : Int32}, pq_Md_requestLine_330 E mc ms Post k188 G c s x0 x1 x2 x6 x7 x8 x9 x10 x11 → ∀ {H : Heap} {locs : List Loc} {ls : Array Slot}, wo_Se E G H → va_S (en_A E) s₀.heap H locs → lx_has ls 13 [(0, 1, .ref x0), (1, 1, .int x1), (2, 1, .int x2), (6, 1, .int x6), (7, 1, .int x7), (8, 1, .int x8), (9, 1, .int x9), (10, 1, .int x10), (11, 1, .int x11)] → c ≤ mc → s ≤ ms → W p l e R s₀ m args below meth cd H locs c s (MQ below (va_Qi Post (wo_B E) (en_A E)) args s₀ mc ms (en_A E)) (F0 m 330 ls []) := by
  intro G c s x0 x1 x2 x6 x7 x8 x9 x10 x11 hw H locs ls hG hS hl hcc hss
  dsimp only [pq_Md_requestLine_330] at hw
  have hx := hC.1
  have hb := hC.2.1
  refine lv_bipush (v := (16 : Int32)) hx hb dq_Md_requestLine_330 rfl ?_
  refine lv_iload hx hb dq_Md_requestLine_332 (lx_at hl 7 rfl) ?_
  refine lv_imul hx hb dq_Md_requestLine_334 ?_
  refine lv_iload hx hb dq_Md_requestLine_335 (lx_at hl 8 rfl) ?_
  refine lv_iadd hx hb dq_Md_requestLine_337 ?_
  refine lx_istore (lv' := [(12, 1, .int (((16 : Int32) * x10) + x11)), (0, 1, .ref x0), (1, 1, .int x1), (2, 1, .int x2), (6, 1, .int x6), (7, 1, .int x7), (8, 1, .int x8), (9, 1, .int x9), (10, 1, .int x10), (11, 1, .int x11)]) hx hb dq_Md_requestLine_338 hl (by decide) rfl (fun ls hl' => ?_)
  clear hl
  have hl := hl'
  clear hl'
  refine lv_iload hx hb dq_Md_requestLine_340 (lx_at hl 7 rfl) ?_
  refine lv_if_eq (tgt := 368) hx hb dq_Md_requestLine_342 rfl (fun h => ?_) (fun h => ?_)
  · replace hw := hw.1 h
    exact tq_Md_requestLine_368 hC hk188 hw hG hS (lx_sub hl [1, 2, 3, 4, 5, 6, 7, 8, 9] rfl) hcc hss
  · replace hw := hw.2 h
    refine lv_iload hx hb dq_Md_requestLine_345 (lx_at hl 0 rfl) ?_
    obtain ⟨mc1, ms2, hc1, hs1, hw⟩ := hw
    refine va_calli (wo_runS hC lq_Md_239 (mq_Md_unreserved hw) hG hS rfl (lx_sz hl) rfl (Nat.zero_le _) (by decide) dq_Md_requestLine_347 ⟨hc1, hs1⟩) hS (fun _ _ h => h) (fun _ h => h) (fun v4 G3 t H locs ht hvm hw' hB _ _ hS => ?_)
    clear hw
    have hw := hw'
    clear hw'
    replace hG := wo_bk ht hB
    replace hcc := hc1
    replace hss := hs1
    refine lv_if_eq (tgt := 368) hx hb dq_Md_requestLine_350 rfl (fun h => ?_) (fun h => ?_)
    · replace hw := hw.1 h
      exact tq_Md_requestLine_368 hC hk188 hw hG hS (lx_sub hl [1, 2, 3, 4, 5, 6, 7, 8, 9] rfl) hcc hss
    · replace hw := hw.2 h
      refine lv_aload_n hx hb dq_Md_requestLine_353 rfl (lx_at hl 1 rfl) ?_
      obtain ⟨t5, hw⟩ := hw
      refine wo_getR hC fq_Md_63 rfl hG t5 dq_Md_requestLine_354 (fun r6 e7 => ?_)
      replace hw := hw r6 e7
      refine lv_iload hx hb dq_Md_requestLine_357 (lx_at hl 4 rfl) ?_
      refine lv_iload hx hb dq_Md_requestLine_359 (lx_at hl 0 rfl) ?_
      obtain ⟨a8, rfl, hw⟩ := hw
      obtain ⟨t9, hw⟩ := hw
      obtain ⟨h10, hw⟩ := hw
      obtain ⟨h11, hw⟩ := hw
      refine wo_iast (j := 2) hC rfl hG hS t9 h10 h11 dq_Md_requestLine_361 (fun G12 H locs e13 hG hS => ?_)
      replace hw := hw G12 e13
      refine lx_iinc (k := 4) (v := (x6 + (1 : Int32))) (lv' := [(6, 1, .int (x6 + (1 : Int32))), (12, 1, .int (((16 : Int32) * x10) + x11)), (0, 1, .ref x0), (1, 1, .int x1), (2, 1, .int x2), (7, 1, .int x7), (8, 1, .int x8), (9, 1, .int x9), (10, 1, .int x10), (11, 1, .int x11)]) hx hb dq_Md_requestLine_362 hl rfl rfl (by decide) rfl (fun ls hl' => ?_)
      clear hl
      have hl := hl'
      clear hl'
      refine lv_goto (tgt := 428) hx hb dq_Md_requestLine_365 rfl ?_
      exact tq_Md_requestLine_428 hC hk188 hw hG hS (lx_sub hl [2, 3, 4, 0, 5, 7] rfl) hcc hss
set_option maxRecDepth 100000 in
set_option maxHeartbeats 4000000 in
theorem tq_Md_requestLine_295 {p : Program} {l : Launch} {e : Env} {R : Room} {s₀ : State} {m : MethodId} {args : Array Value} {below : List Frame} {meth : Method} {cd : Code} {E : wo_E} {mc ms : Nat} {Post : Int32 → wo_W → Prop} {k188 : wo_W → Nat → Nat → Nat → Int32 → Int32 → Int32 → Int32 → Prop} (hC : wo_Cx E "EdgeCacheModel" prog_14_method_7_code 13 1 28 ((Option.some Jvm.ClassFile.FieldType.int)) "requestLine" mc ms p R s₀ m args meth cd) (hk188 : ∀ {G : wo_W} {c s : Nat} {x0 : Nat} {x1 : Int32} {x2 : Int32} {x6 : Int32} {x7 : Int32}, k188 G c s x0 x1 x2 x6 x7 → ∀ {H : Heap} {locs : List Loc} {ls : Array Slot}, wo_Se E G H → va_S (en_A E) s₀.heap H locs → lx_has ls 13 [(0, 1, .ref x0), (1, 1, .int x1), (2, 1, .int x2), (6, 1, .int x6), (7, 1, .int x7)] → c ≤ mc → s ≤ ms → W p l e R s₀ m args below meth cd H locs c s (MQ below (va_Qi Post (wo_B E) (en_A E)) args s₀ mc ms (en_A E)) (F0 m 188 ls [])) : ∀ {G : wo_W} {c s : Nat} {x0 : Nat} {x1 : Int32} {x2 : Int32} {x6 : Int32} {x7 : Int32} {x8 : Int32} {x9 : Int32} {x10 : Int32} {y0 : Int32}, pq_Md_requestLine_295 E mc ms Post k188 G c s x0 x1 x2 x6 x7 x8 x9 x10 y0 → ∀ {H : Heap} {locs : List Loc} {ls : Array Slot}, wo_Se E G H → va_S (en_A E) s₀.heap H locs → lx_has ls 13 [(0, 1, .ref x0), (1, 1, .int x1), (2, 1, .int x2), (6, 1, .int x6), (7, 1, .int x7), (8, 1, .int x8), (9, 1, .int x9), (10, 1, .int x10)] → c ≤ mc → s ≤ ms → W p l e R s₀ m args below meth cd H locs c s (MQ below (va_Qi Post (wo_B E) (en_A E)) args s₀ mc ms (en_A E)) (F0 m 295 ls [.int y0]) := by
  intro G c s x0 x1 x2 x6 x7 x8 x9 x10 y0 hw H locs ls hG hS hl hcc hss
  dsimp only [pq_Md_requestLine_295] at hw
  have hx := hC.1
  have hb := hC.2.1
  refine lx_istore (lv' := [(11, 1, .int y0), (0, 1, .ref x0), (1, 1, .int x1), (2, 1, .int x2), (6, 1, .int x6), (7, 1, .int x7), (8, 1, .int x8), (9, 1, .int x9), (10, 1, .int x10)]) hx hb dq_Md_requestLine_295 hl (by decide) rfl (fun ls hl' => ?_)
  clear hl
  have hl := hl'
  clear hl'
  refine lv_iload hx hb dq_Md_requestLine_297 (lx_at hl 6 rfl) ?_
  refine lv_bipush (v := (33 : Int32)) hx hb dq_Md_requestLine_299 rfl ?_
  refine lv_icmp_lt (tgt := 326) hx hb dq_Md_requestLine_301 rfl (fun h => ?_) (fun h => ?_)
  · replace hw := hw.1 h
    exact tq_Md_requestLine_326 hC hw hG hS (lx_sub hl [] rfl) hcc hss
  · replace hw := hw.2 h
    refine lv_iload hx hb dq_Md_requestLine_304 (lx_at hl 6 rfl) ?_
    refine lv_bipush (v := (126 : Int32)) hx hb dq_Md_requestLine_306 rfl ?_
    refine lv_icmp_gt (tgt := 326) hx hb dq_Md_requestLine_308 rfl (fun h => ?_) (fun h => ?_)
    · replace hw := hw.1 h
      exact tq_Md_requestLine_326 hC hw hG hS (lx_sub hl [] rfl) hcc hss
    · replace hw := hw.2 h
      refine lv_iload hx hb dq_Md_requestLine_311 (lx_at hl 7 rfl) ?_
      refine lv_if_eq (tgt := 330) hx hb dq_Md_requestLine_313 rfl (fun h => ?_) (fun h => ?_)
      · replace hw := hw.1 h
        exact tq_Md_requestLine_330 hC hk188 hw hG hS (lx_sub hl [1, 2, 3, 4, 5, 6, 7, 8, 0] rfl) hcc hss
      · replace hw := hw.2 h
        refine lv_iload hx hb dq_Md_requestLine_316 (lx_at hl 8 rfl) ?_
        refine lv_if_lt (tgt := 326) hx hb dq_Md_requestLine_318 rfl (fun h => ?_) (fun h => ?_)
        · replace hw := hw.1 h
          exact tq_Md_requestLine_326 hC hw hG hS (lx_sub hl [] rfl) hcc hss
        · replace hw := hw.2 h
          refine lv_iload hx hb dq_Md_requestLine_321 (lx_at hl 0 rfl) ?_
          refine lv_if_ge (tgt := 330) hx hb dq_Md_requestLine_323 rfl (fun h => ?_) (fun h => ?_)
          · replace hw := hw.1 h
            exact tq_Md_requestLine_330 hC hk188 hw hG hS (lx_sub hl [1, 2, 3, 4, 5, 6, 7, 8, 0] rfl) hcc hss
          · replace hw := hw.2 h
            exact tq_Md_requestLine_326 hC hw hG hS (lx_sub hl [] rfl) hcc hss
set_option maxRecDepth 100000 in
set_option maxHeartbeats 4000000 in
theorem tq_Md_requestLine_294 {p : Program} {l : Launch} {e : Env} {R : Room} {s₀ : State} {m : MethodId} {args : Array Value} {below : List Frame} {meth : Method} {cd : Code} {E : wo_E} {mc ms : Nat} {Post : Int32 → wo_W → Prop} {k188 : wo_W → Nat → Nat → Nat → Int32 → Int32 → Int32 → Int32 → Prop} (hC : wo_Cx E "EdgeCacheModel" prog_14_method_7_code 13 1 28 ((Option.some Jvm.ClassFile.FieldType.int)) "requestLine" mc ms p R s₀ m args meth cd) (hk188 : ∀ {G : wo_W} {c s : Nat} {x0 : Nat} {x1 : Int32} {x2 : Int32} {x6 : Int32} {x7 : Int32}, k188 G c s x0 x1 x2 x6 x7 → ∀ {H : Heap} {locs : List Loc} {ls : Array Slot}, wo_Se E G H → va_S (en_A E) s₀.heap H locs → lx_has ls 13 [(0, 1, .ref x0), (1, 1, .int x1), (2, 1, .int x2), (6, 1, .int x6), (7, 1, .int x7)] → c ≤ mc → s ≤ ms → W p l e R s₀ m args below meth cd H locs c s (MQ below (va_Qi Post (wo_B E) (en_A E)) args s₀ mc ms (en_A E)) (F0 m 188 ls [])) : ∀ {G : wo_W} {c s : Nat} {x0 : Nat} {x1 : Int32} {x2 : Int32} {x6 : Int32} {x7 : Int32} {x8 : Int32} {x9 : Int32} {x10 : Int32}, pq_Md_requestLine_294 E mc ms Post k188 G c s x0 x1 x2 x6 x7 x8 x9 x10 → ∀ {H : Heap} {locs : List Loc} {ls : Array Slot}, wo_Se E G H → va_S (en_A E) s₀.heap H locs → lx_has ls 13 [(0, 1, .ref x0), (1, 1, .int x1), (2, 1, .int x2), (6, 1, .int x6), (7, 1, .int x7), (8, 1, .int x8), (9, 1, .int x9), (10, 1, .int x10)] → c ≤ mc → s ≤ ms → W p l e R s₀ m args below meth cd H locs c s (MQ below (va_Qi Post (wo_B E) (en_A E)) args s₀ mc ms (en_A E)) (F0 m 294 ls []) := by
  intro G c s x0 x1 x2 x6 x7 x8 x9 x10 hw H locs ls hG hS hl hcc hss
  dsimp only [pq_Md_requestLine_294] at hw
  have hx := hC.1
  have hb := hC.2.1
  refine lv_iconst (v := (-1 : Int32)) hx hb dq_Md_requestLine_294 rfl ?_
  exact tq_Md_requestLine_295 hC hk188 hw hG hS (lx_sub hl [0, 1, 2, 3, 4, 5, 6, 7] rfl) hcc hss
set_option maxRecDepth 100000 in
set_option maxHeartbeats 4000000 in
theorem tq_Md_requestLine_258 {p : Program} {l : Launch} {e : Env} {R : Room} {s₀ : State} {m : MethodId} {args : Array Value} {below : List Frame} {meth : Method} {cd : Code} {E : wo_E} {mc ms : Nat} {Post : Int32 → wo_W → Prop} {k188 : wo_W → Nat → Nat → Nat → Int32 → Int32 → Int32 → Int32 → Prop} (hC : wo_Cx E "EdgeCacheModel" prog_14_method_7_code 13 1 28 ((Option.some Jvm.ClassFile.FieldType.int)) "requestLine" mc ms p R s₀ m args meth cd) (hk188 : ∀ {G : wo_W} {c s : Nat} {x0 : Nat} {x1 : Int32} {x2 : Int32} {x6 : Int32} {x7 : Int32}, k188 G c s x0 x1 x2 x6 x7 → ∀ {H : Heap} {locs : List Loc} {ls : Array Slot}, wo_Se E G H → va_S (en_A E) s₀.heap H locs → lx_has ls 13 [(0, 1, .ref x0), (1, 1, .int x1), (2, 1, .int x2), (6, 1, .int x6), (7, 1, .int x7)] → c ≤ mc → s ≤ ms → W p l e R s₀ m args below meth cd H locs c s (MQ below (va_Qi Post (wo_B E) (en_A E)) args s₀ mc ms (en_A E)) (F0 m 188 ls [])) : ∀ {G : wo_W} {c s : Nat} {x0 : Nat} {x1 : Int32} {x2 : Int32} {x6 : Int32} {x7 : Int32} {x8 : Int32} {x9 : Int32} {y0 : Int32}, pq_Md_requestLine_258 E mc ms Post k188 G c s x0 x1 x2 x6 x7 x8 x9 y0 → ∀ {H : Heap} {locs : List Loc} {ls : Array Slot}, wo_Se E G H → va_S (en_A E) s₀.heap H locs → lx_has ls 13 [(0, 1, .ref x0), (1, 1, .int x1), (2, 1, .int x2), (6, 1, .int x6), (7, 1, .int x7), (8, 1, .int x8), (9, 1, .int x9)] → c ≤ mc → s ≤ ms → W p l e R s₀ m args below meth cd H locs c s (MQ below (va_Qi Post (wo_B E) (en_A E)) args s₀ mc ms (en_A E)) (F0 m 258 ls [.int y0]) := by
  intro G c s x0 x1 x2 x6 x7 x8 x9 y0 hw H locs ls hG hS hl hcc hss
  dsimp only [pq_Md_requestLine_258] at hw
  have hx := hC.1
  have hb := hC.2.1
  refine lx_istore (lv' := [(10, 1, .int y0), (0, 1, .ref x0), (1, 1, .int x1), (2, 1, .int x2), (6, 1, .int x6), (7, 1, .int x7), (8, 1, .int x8), (9, 1, .int x9)]) hx hb dq_Md_requestLine_258 hl (by decide) rfl (fun ls hl' => ?_)
  clear hl
  have hl := hl'
  clear hl'
  refine lv_iload hx hb dq_Md_requestLine_260 (lx_at hl 7 rfl) ?_
  refine lv_if_eq (tgt := 294) hx hb dq_Md_requestLine_262 rfl (fun h => ?_) (fun h => ?_)
  · replace hw := hw.1 h
    exact tq_Md_requestLine_294 hC hk188 hw hG hS (lx_sub hl [1, 2, 3, 4, 5, 6, 7, 0] rfl) hcc hss
  · replace hw := hw.2 h
    refine lv_iload hx hb dq_Md_requestLine_265 (lx_at hl 5 rfl) ?_
    refine lv_iconst (v := (2 : Int32)) hx hb dq_Md_requestLine_267 rfl ?_
    refine lv_iadd hx hb dq_Md_requestLine_268 ?_
    refine lv_iload_n hx hb dq_Md_requestLine_269 rfl (lx_at hl 3 rfl) ?_
    refine lv_icmp_ge (tgt := 294) hx hb dq_Md_requestLine_270 rfl (fun h => ?_) (fun h => ?_)
    · replace hw := hw.1 h
      exact tq_Md_requestLine_294 hC hk188 hw hG hS (lx_sub hl [1, 2, 3, 4, 5, 6, 7, 0] rfl) hcc hss
    · replace hw := hw.2 h
      refine lv_aload_n hx hb dq_Md_requestLine_273 rfl (lx_at hl 1 rfl) ?_
      obtain ⟨t1, hw⟩ := hw
      refine wo_getR hC fq_Md_7 rfl hG t1 dq_Md_requestLine_274 (fun r2 e3 => ?_)
      replace hw := hw r2 e3
      refine lv_sipush (v := (4200 : Int32)) hx hb dq_Md_requestLine_277 rfl ?_
      refine lv_iload_n hx hb dq_Md_requestLine_280 rfl (lx_at hl 2 rfl) ?_
      refine lv_imul hx hb dq_Md_requestLine_281 ?_
      refine lv_iload hx hb dq_Md_requestLine_282 (lx_at hl 5 rfl) ?_
      refine lv_iadd hx hb dq_Md_requestLine_284 ?_
      refine lv_iconst (v := (2 : Int32)) hx hb dq_Md_requestLine_285 rfl ?_
      refine lv_iadd hx hb dq_Md_requestLine_286 ?_
      obtain ⟨a4, rfl, hw⟩ := hw
      obtain ⟨t5, hw⟩ := hw
      obtain ⟨h6, hw⟩ := hw
      refine wo_iald (j := 2) hC rfl hG t5 h6 dq_Md_requestLine_287 ?_
      obtain ⟨mc7, ms8, hc1, hs1, hw⟩ := hw
      refine va_calli (wo_runS hC lq_Md_236 (mq_Md_hex hw) hG hS rfl (lx_sz hl) rfl (Nat.zero_le _) (by decide) dq_Md_requestLine_288 ⟨hc1, hs1⟩) hS (fun _ _ h => h) (fun _ h => h) (fun v10 G9 t H locs ht hvm hw' hB _ _ hS => ?_)
      clear hw
      have hw := hw'
      clear hw'
      replace hG := wo_bk ht hB
      replace hcc := hc1
      replace hss := hs1
      refine lv_goto (tgt := 295) hx hb dq_Md_requestLine_291 rfl ?_
      exact tq_Md_requestLine_295 hC hk188 hw hG hS (lx_sub hl [1, 2, 3, 4, 5, 6, 7, 0] rfl) hcc hss
set_option maxRecDepth 100000 in
set_option maxHeartbeats 4000000 in
theorem tq_Md_requestLine_257 {p : Program} {l : Launch} {e : Env} {R : Room} {s₀ : State} {m : MethodId} {args : Array Value} {below : List Frame} {meth : Method} {cd : Code} {E : wo_E} {mc ms : Nat} {Post : Int32 → wo_W → Prop} {k188 : wo_W → Nat → Nat → Nat → Int32 → Int32 → Int32 → Int32 → Prop} (hC : wo_Cx E "EdgeCacheModel" prog_14_method_7_code 13 1 28 ((Option.some Jvm.ClassFile.FieldType.int)) "requestLine" mc ms p R s₀ m args meth cd) (hk188 : ∀ {G : wo_W} {c s : Nat} {x0 : Nat} {x1 : Int32} {x2 : Int32} {x6 : Int32} {x7 : Int32}, k188 G c s x0 x1 x2 x6 x7 → ∀ {H : Heap} {locs : List Loc} {ls : Array Slot}, wo_Se E G H → va_S (en_A E) s₀.heap H locs → lx_has ls 13 [(0, 1, .ref x0), (1, 1, .int x1), (2, 1, .int x2), (6, 1, .int x6), (7, 1, .int x7)] → c ≤ mc → s ≤ ms → W p l e R s₀ m args below meth cd H locs c s (MQ below (va_Qi Post (wo_B E) (en_A E)) args s₀ mc ms (en_A E)) (F0 m 188 ls [])) : ∀ {G : wo_W} {c s : Nat} {x0 : Nat} {x1 : Int32} {x2 : Int32} {x6 : Int32} {x7 : Int32} {x8 : Int32} {x9 : Int32}, pq_Md_requestLine_257 E mc ms Post k188 G c s x0 x1 x2 x6 x7 x8 x9 → ∀ {H : Heap} {locs : List Loc} {ls : Array Slot}, wo_Se E G H → va_S (en_A E) s₀.heap H locs → lx_has ls 13 [(0, 1, .ref x0), (1, 1, .int x1), (2, 1, .int x2), (6, 1, .int x6), (7, 1, .int x7), (8, 1, .int x8), (9, 1, .int x9)] → c ≤ mc → s ≤ ms → W p l e R s₀ m args below meth cd H locs c s (MQ below (va_Qi Post (wo_B E) (en_A E)) args s₀ mc ms (en_A E)) (F0 m 257 ls []) := by
  intro G c s x0 x1 x2 x6 x7 x8 x9 hw H locs ls hG hS hl hcc hss
  dsimp only [pq_Md_requestLine_257] at hw
  have hx := hC.1
  have hb := hC.2.1
  refine lv_iconst (v := (-1 : Int32)) hx hb dq_Md_requestLine_257 rfl ?_
  exact tq_Md_requestLine_258 hC hk188 hw hG hS (lx_sub hl [0, 1, 2, 3, 4, 5, 6] rfl) hcc hss
set_option maxRecDepth 100000 in
set_option maxHeartbeats 4000000 in
theorem tq_Md_requestLine_221 {p : Program} {l : Launch} {e : Env} {R : Room} {s₀ : State} {m : MethodId} {args : Array Value} {below : List Frame} {meth : Method} {cd : Code} {E : wo_E} {mc ms : Nat} {Post : Int32 → wo_W → Prop} {k188 : wo_W → Nat → Nat → Nat → Int32 → Int32 → Int32 → Int32 → Prop} (hC : wo_Cx E "EdgeCacheModel" prog_14_method_7_code 13 1 28 ((Option.some Jvm.ClassFile.FieldType.int)) "requestLine" mc ms p R s₀ m args meth cd) (hk188 : ∀ {G : wo_W} {c s : Nat} {x0 : Nat} {x1 : Int32} {x2 : Int32} {x6 : Int32} {x7 : Int32}, k188 G c s x0 x1 x2 x6 x7 → ∀ {H : Heap} {locs : List Loc} {ls : Array Slot}, wo_Se E G H → va_S (en_A E) s₀.heap H locs → lx_has ls 13 [(0, 1, .ref x0), (1, 1, .int x1), (2, 1, .int x2), (6, 1, .int x6), (7, 1, .int x7)] → c ≤ mc → s ≤ ms → W p l e R s₀ m args below meth cd H locs c s (MQ below (va_Qi Post (wo_B E) (en_A E)) args s₀ mc ms (en_A E)) (F0 m 188 ls [])) : ∀ {G : wo_W} {c s : Nat} {x0 : Nat} {x1 : Int32} {x2 : Int32} {x6 : Int32} {x7 : Int32} {x8 : Int32} {y0 : Int32}, pq_Md_requestLine_221 E mc ms Post k188 G c s x0 x1 x2 x6 x7 x8 y0 → ∀ {H : Heap} {locs : List Loc} {ls : Array Slot}, wo_Se E G H → va_S (en_A E) s₀.heap H locs → lx_has ls 13 [(0, 1, .ref x0), (1, 1, .int x1), (2, 1, .int x2), (6, 1, .int x6), (7, 1, .int x7), (8, 1, .int x8)] → c ≤ mc → s ≤ ms → W p l e R s₀ m args below meth cd H locs c s (MQ below (va_Qi Post (wo_B E) (en_A E)) args s₀ mc ms (en_A E)) (F0 m 221 ls [.int y0]) := by
  intro G c s x0 x1 x2 x6 x7 x8 y0 hw H locs ls hG hS hl hcc hss
  dsimp only [pq_Md_requestLine_221] at hw
  have hx := hC.1
  have hb := hC.2.1
  refine lx_istore (lv' := [(9, 1, .int y0), (0, 1, .ref x0), (1, 1, .int x1), (2, 1, .int x2), (6, 1, .int x6), (7, 1, .int x7), (8, 1, .int x8)]) hx hb dq_Md_requestLine_221 hl (by decide) rfl (fun ls hl' => ?_)
  clear hl
  have hl := hl'
  clear hl'
  refine lv_iload hx hb dq_Md_requestLine_223 (lx_at hl 0 rfl) ?_
  refine lv_if_eq (tgt := 257) hx hb dq_Md_requestLine_225 rfl (fun h => ?_) (fun h => ?_)
  · replace hw := hw.1 h
    exact tq_Md_requestLine_257 hC hk188 hw hG hS (lx_sub hl [1, 2, 3, 4, 5, 6, 0] rfl) hcc hss
  · replace hw := hw.2 h
    refine lv_iload hx hb dq_Md_requestLine_228 (lx_at hl 5 rfl) ?_
    refine lv_iconst (v := (2 : Int32)) hx hb dq_Md_requestLine_230 rfl ?_
    refine lv_iadd hx hb dq_Md_requestLine_231 ?_
    refine lv_iload_n hx hb dq_Md_requestLine_232 rfl (lx_at hl 3 rfl) ?_
    refine lv_icmp_ge (tgt := 257) hx hb dq_Md_requestLine_233 rfl (fun h => ?_) (fun h => ?_)
    · replace hw := hw.1 h
      exact tq_Md_requestLine_257 hC hk188 hw hG hS (lx_sub hl [1, 2, 3, 4, 5, 6, 0] rfl) hcc hss
    · replace hw := hw.2 h
      refine lv_aload_n hx hb dq_Md_requestLine_236 rfl (lx_at hl 1 rfl) ?_
      obtain ⟨t1, hw⟩ := hw
      refine wo_getR hC fq_Md_7 rfl hG t1 dq_Md_requestLine_237 (fun r2 e3 => ?_)
      replace hw := hw r2 e3
      refine lv_sipush (v := (4200 : Int32)) hx hb dq_Md_requestLine_240 rfl ?_
      refine lv_iload_n hx hb dq_Md_requestLine_243 rfl (lx_at hl 2 rfl) ?_
      refine lv_imul hx hb dq_Md_requestLine_244 ?_
      refine lv_iload hx hb dq_Md_requestLine_245 (lx_at hl 5 rfl) ?_
      refine lv_iadd hx hb dq_Md_requestLine_247 ?_
      refine lv_iconst (v := (1 : Int32)) hx hb dq_Md_requestLine_248 rfl ?_
      refine lv_iadd hx hb dq_Md_requestLine_249 ?_
      obtain ⟨a4, rfl, hw⟩ := hw
      obtain ⟨t5, hw⟩ := hw
      obtain ⟨h6, hw⟩ := hw
      refine wo_iald (j := 2) hC rfl hG t5 h6 dq_Md_requestLine_250 ?_
      obtain ⟨mc7, ms8, hc1, hs1, hw⟩ := hw
      refine va_calli (wo_runS hC lq_Md_236 (mq_Md_hex hw) hG hS rfl (lx_sz hl) rfl (Nat.zero_le _) (by decide) dq_Md_requestLine_251 ⟨hc1, hs1⟩) hS (fun _ _ h => h) (fun _ h => h) (fun v10 G9 t H locs ht hvm hw' hB _ _ hS => ?_)
      clear hw
      have hw := hw'
      clear hw'
      replace hG := wo_bk ht hB
      replace hcc := hc1
      replace hss := hs1
      refine lv_goto (tgt := 258) hx hb dq_Md_requestLine_254 rfl ?_
      exact tq_Md_requestLine_258 hC hk188 hw hG hS (lx_sub hl [1, 2, 3, 4, 5, 6, 0] rfl) hcc hss
set_option maxRecDepth 100000 in
set_option maxHeartbeats 4000000 in
theorem tq_Md_requestLine_188 {p : Program} {l : Launch} {e : Env} {R : Room} {s₀ : State} {m : MethodId} {args : Array Value} {below : List Frame} {meth : Method} {cd : Code} {E : wo_E} {mc ms : Nat} {Post : Int32 → wo_W → Prop} (hC : wo_Cx E "EdgeCacheModel" prog_14_method_7_code 13 1 28 ((Option.some Jvm.ClassFile.FieldType.int)) "requestLine" mc ms p R s₀ m args meth cd) : ∀ n : Nat, ∀ {G : wo_W} {c s : Nat} {x0 : Nat} {x1 : Int32} {x2 : Int32} {x6 : Int32} {x7 : Int32}, pq_Md_requestLine_188 E mc ms Post n G c s x0 x1 x2 x6 x7 → ∀ {H : Heap} {locs : List Loc} {ls : Array Slot}, wo_Se E G H → va_S (en_A E) s₀.heap H locs → lx_has ls 13 [(0, 1, .ref x0), (1, 1, .int x1), (2, 1, .int x2), (6, 1, .int x6), (7, 1, .int x7)] → c ≤ mc → s ≤ ms → W p l e R s₀ m args below meth cd H locs c s (MQ below (va_Qi Post (wo_B E) (en_A E)) args s₀ mc ms (en_A E)) (F0 m 188 ls []) := by
  intro n
  induction n with
  | zero => intro G c s x0 x1 x2 x6 x7 hw; exact hw.elim
  | succ n ih =>
    intro G c s x0 x1 x2 x6 x7 hw H locs ls hG hS hl hcc hss
    dsimp only [pq_Md_requestLine_188] at hw
    have hx := hC.1
    have hb := hC.2.1
    refine lv_iload hx hb dq_Md_requestLine_188 (lx_at hl 4 rfl) ?_
    refine lv_iload_n hx hb dq_Md_requestLine_190 rfl (lx_at hl 2 rfl) ?_
    refine lv_icmp_ge (tgt := 450) hx hb dq_Md_requestLine_191 rfl (fun h => ?_) (fun h => ?_)
    · replace hw := hw.1 h
      refine lv_aload_n hx hb dq_Md_requestLine_450 rfl (lx_at hl 0 rfl) ?_
      refine lv_iload hx hb dq_Md_requestLine_451 (lx_at hl 3 rfl) ?_
      obtain ⟨t1, hw⟩ := hw
      obtain ⟨mc2, ms3, hc1, hs1, hw⟩ := hw
      refine va_calli (wo_runV hC lq_Md_245 (mq_Md_normal hw) hG hS t1 rfl (lx_sz hl) rfl (Nat.zero_le _) (by decide) dq_Md_requestLine_453 ⟨hc1, hs1⟩) hS (fun _ _ h => h) (fun _ h => h) (fun v5 G4 t H locs ht hvm hw' hB _ _ hS => ?_)
      clear hw
      have hw := hw'
      clear hw'
      replace hG := wo_bk ht hB
      replace hcc := hc1
      replace hss := hs1
      exact wo_iret hC hG hS hcc hss hw dq_Md_requestLine_456
    · replace hw := hw.2 h
      refine lv_aload_n hx hb dq_Md_requestLine_194 rfl (lx_at hl 0 rfl) ?_
      obtain ⟨t6, hw⟩ := hw
      refine wo_getR hC fq_Md_7 rfl hG t6 dq_Md_requestLine_195 (fun r7 e8 => ?_)
      replace hw := hw r7 e8
      refine lv_sipush (v := (4200 : Int32)) hx hb dq_Md_requestLine_198 rfl ?_
      refine lv_iload_n hx hb dq_Md_requestLine_201 rfl (lx_at hl 1 rfl) ?_
      refine lv_imul hx hb dq_Md_requestLine_202 ?_
      refine lv_iload hx hb dq_Md_requestLine_203 (lx_at hl 4 rfl) ?_
      refine lv_iadd hx hb dq_Md_requestLine_205 ?_
      obtain ⟨a9, rfl, hw⟩ := hw
      obtain ⟨t10, hw⟩ := hw
      obtain ⟨h11, hw⟩ := hw
      refine wo_iald (j := 2) hC rfl hG t10 h11 dq_Md_requestLine_206 ?_
      refine lx_istore (lv' := [(8, 1, .int (wo_ei G a9 (((4200 : Int32) * x1) + x7).toNatClampNeg)), (0, 1, .ref x0), (1, 1, .int x1), (2, 1, .int x2), (6, 1, .int x6), (7, 1, .int x7)]) hx hb dq_Md_requestLine_207 hl (by decide) rfl (fun ls hl' => ?_)
      clear hl
      have hl := hl'
      clear hl'
      refine lv_iload hx hb dq_Md_requestLine_209 (lx_at hl 0 rfl) ?_
      refine lv_bipush (v := (37 : Int32)) hx hb dq_Md_requestLine_211 rfl ?_
      refine lv_icmp_ne (tgt := 220) hx hb dq_Md_requestLine_213 rfl (fun h => ?_) (fun h => ?_)
      · replace hw := hw.1 h
        refine lv_iconst (v := (0 : Int32)) hx hb dq_Md_requestLine_220 rfl ?_
        exact tq_Md_requestLine_221 hC ih hw hG hS (lx_sub hl [1, 2, 3, 4, 5, 0] rfl) hcc hss
      · replace hw := hw.2 h
        refine lv_iconst (v := (1 : Int32)) hx hb dq_Md_requestLine_216 rfl ?_
        refine lv_goto (tgt := 221) hx hb dq_Md_requestLine_217 rfl ?_
        exact tq_Md_requestLine_221 hC ih hw hG hS (lx_sub hl [1, 2, 3, 4, 5, 0] rfl) hcc hss
set_option maxRecDepth 100000 in
set_option maxHeartbeats 4000000 in
theorem tq_Md_requestLine_118 {p : Program} {l : Launch} {e : Env} {R : Room} {s₀ : State} {m : MethodId} {args : Array Value} {below : List Frame} {meth : Method} {cd : Code} {E : wo_E} {mc ms : Nat} {Post : Int32 → wo_W → Prop} (hC : wo_Cx E "EdgeCacheModel" prog_14_method_7_code 13 1 28 ((Option.some Jvm.ClassFile.FieldType.int)) "requestLine" mc ms p R s₀ m args meth cd) : ∀ {G : wo_W} {c s : Nat} {x0 : Nat} {x1 : Int32} {x2 : Int32} {x5 : Int32} {y0 : Option Nat} {y1 : Int32} {y2 : Int32}, pq_Md_requestLine_118 E mc ms Post G c s x0 x1 x2 x5 y0 y1 y2 → ∀ {H : Heap} {locs : List Loc} {ls : Array Slot}, wo_Se E G H → va_S (en_A E) s₀.heap H locs → lx_has ls 13 [(0, 1, .ref x0), (1, 1, .int x1), (2, 1, .int x2), (5, 1, .int x5)] → c ≤ mc → s ≤ ms → W p l e R s₀ m args below meth cd H locs c s (MQ below (va_Qi Post (wo_B E) (en_A E)) args s₀ mc ms (en_A E)) (F0 m 118 ls [.int y2, .int y1, va_rf y0]) := by
  intro G c s x0 x1 x2 x5 y0 y1 y2 hw H locs ls hG hS hl hcc hss
  dsimp only [pq_Md_requestLine_118] at hw
  have hx := hC.1
  have hb := hC.2.1
  obtain ⟨a1, rfl, hw⟩ := hw
  obtain ⟨t2, hw⟩ := hw
  obtain ⟨h3, hw⟩ := hw
  obtain ⟨h4, hw⟩ := hw
  refine wo_iast (j := 2) hC rfl hG hS t2 h3 h4 dq_Md_requestLine_118 (fun G5 H locs e6 hG hS => ?_)
  replace hw := hw G5 e6
  refine lv_aload_n hx hb dq_Md_requestLine_119 rfl (lx_at hl 0 rfl) ?_
  obtain ⟨t7, hw⟩ := hw
  refine wo_getR hC fq_Md_41 rfl hG t7 dq_Md_requestLine_120 (fun r8 e9 => ?_)
  replace hw := hw r8 e9
  refine lv_bipush (v := (8 : Int32)) hx hb dq_Md_requestLine_123 rfl ?_
  obtain ⟨a10, rfl, hw⟩ := hw
  obtain ⟨t11, hw⟩ := hw
  obtain ⟨h12, hw⟩ := hw
  refine wo_iald (j := 2) hC rfl hG t11 h12 dq_Md_requestLine_125 ?_
  refine lv_if_lt (tgt := 175) hx hb dq_Md_requestLine_126 rfl (fun h => ?_) (fun h => ?_)
  · replace hw := hw.1 h
    exact tq_Md_requestLine_175 hC hw hG hS (lx_sub hl [] rfl) hcc hss
  · replace hw := hw.2 h
    refine lv_iload hx hb dq_Md_requestLine_129 (lx_at hl 3 rfl) ?_
    refine lv_iconst (v := (1 : Int32)) hx hb dq_Md_requestLine_131 rfl ?_
    refine lv_iadd hx hb dq_Md_requestLine_132 ?_
    refine lv_iload_n hx hb dq_Md_requestLine_133 rfl (lx_at hl 2 rfl) ?_
    refine lv_icmp_ge (tgt := 175) hx hb dq_Md_requestLine_134 rfl (fun h => ?_) (fun h => ?_)
    · replace hw := hw.1 h
      exact tq_Md_requestLine_175 hC hw hG hS (lx_sub hl [] rfl) hcc hss
    · replace hw := hw.2 h
      refine lv_aload_n hx hb dq_Md_requestLine_137 rfl (lx_at hl 0 rfl) ?_
      refine wo_getR hC fq_Md_7 rfl hG t7 dq_Md_requestLine_138 (fun r13 e14 => ?_)
      replace hw := hw r13 e14
      refine lv_sipush (v := (4200 : Int32)) hx hb dq_Md_requestLine_141 rfl ?_
      refine lv_iload_n hx hb dq_Md_requestLine_144 rfl (lx_at hl 1 rfl) ?_
      refine lv_imul hx hb dq_Md_requestLine_145 ?_
      refine lv_iload hx hb dq_Md_requestLine_146 (lx_at hl 3 rfl) ?_
      refine lv_iadd hx hb dq_Md_requestLine_148 ?_
      obtain ⟨a15, rfl, hw⟩ := hw
      obtain ⟨t16, hw⟩ := hw
      obtain ⟨h17, hw⟩ := hw
      refine wo_iald (j := 2) hC rfl hG t16 h17 dq_Md_requestLine_149 ?_
      refine lv_bipush (v := (32 : Int32)) hx hb dq_Md_requestLine_150 rfl ?_
      refine lv_icmp_ne (tgt := 175) hx hb dq_Md_requestLine_152 rfl (fun h => ?_) (fun h => ?_)
      · replace hw := hw.1 h
        exact tq_Md_requestLine_175 hC hw hG hS (lx_sub hl [] rfl) hcc hss
      · replace hw := hw.2 h
        refine lv_aload_n hx hb dq_Md_requestLine_155 rfl (lx_at hl 0 rfl) ?_
        refine wo_getR hC fq_Md_7 rfl hG t7 dq_Md_requestLine_156 (fun r18 e19 => ?_)
        replace hw := hw r18 e19
        refine lv_sipush (v := (4200 : Int32)) hx hb dq_Md_requestLine_159 rfl ?_
        refine lv_iload_n hx hb dq_Md_requestLine_162 rfl (lx_at hl 1 rfl) ?_
        refine lv_imul hx hb dq_Md_requestLine_163 ?_
        refine lv_iload hx hb dq_Md_requestLine_164 (lx_at hl 3 rfl) ?_
        refine lv_iadd hx hb dq_Md_requestLine_166 ?_
        refine lv_iconst (v := (1 : Int32)) hx hb dq_Md_requestLine_167 rfl ?_
        refine lv_iadd hx hb dq_Md_requestLine_168 ?_
        obtain ⟨a20, rfl, hw⟩ := hw
        obtain ⟨t21, hw⟩ := hw
        obtain ⟨h22, hw⟩ := hw
        refine wo_iald (j := 2) hC rfl hG t21 h22 dq_Md_requestLine_169 ?_
        refine lv_bipush (v := (47 : Int32)) hx hb dq_Md_requestLine_170 rfl ?_
        refine lv_icmp_eq (tgt := 179) hx hb dq_Md_requestLine_172 rfl (fun h => ?_) (fun h => ?_)
        · replace hw := hw.1 h
          refine lv_iconst (v := (0 : Int32)) hx hb dq_Md_requestLine_179 rfl ?_
          refine lx_istore (lv' := [(6, 1, .int (0 : Int32)), (0, 1, .ref x0), (1, 1, .int x1), (2, 1, .int x2), (5, 1, .int x5)]) hx hb dq_Md_requestLine_180 hl (by decide) rfl (fun ls hl' => ?_)
          clear hl
          have hl := hl'
          clear hl'
          refine lv_iload hx hb dq_Md_requestLine_182 (lx_at hl 4 rfl) ?_
          refine lv_iconst (v := (1 : Int32)) hx hb dq_Md_requestLine_184 rfl ?_
          refine lv_iadd hx hb dq_Md_requestLine_185 ?_
          refine lx_istore (lv' := [(7, 1, .int (x5 + (1 : Int32))), (6, 1, .int (0 : Int32)), (0, 1, .ref x0), (1, 1, .int x1), (2, 1, .int x2), (5, 1, .int x5)]) hx hb dq_Md_requestLine_186 hl (by decide) rfl (fun ls hl' => ?_)
          clear hl
          have hl := hl'
          clear hl'
          obtain ⟨n1, hw⟩ := hw
          exact tq_Md_requestLine_188 hC n1 hw hG hS (lx_sub hl [2, 3, 4, 1, 0] rfl) hcc hss
        · replace hw := hw.2 h
          exact tq_Md_requestLine_175 hC hw hG hS (lx_sub hl [] rfl) hcc hss
set_option maxRecDepth 100000 in
set_option maxHeartbeats 4000000 in
theorem tq_Md_requestLine_63 {p : Program} {l : Launch} {e : Env} {R : Room} {s₀ : State} {m : MethodId} {args : Array Value} {below : List Frame} {meth : Method} {cd : Code} {E : wo_E} {mc ms : Nat} {Post : Int32 → wo_W → Prop} (hC : wo_Cx E "EdgeCacheModel" prog_14_method_7_code 13 1 28 ((Option.some Jvm.ClassFile.FieldType.int)) "requestLine" mc ms p R s₀ m args meth cd) : ∀ {G : wo_W} {c s : Nat} {x0 : Nat} {x1 : Int32} {x2 : Int32} {x3 : Int64} {x5 : Int32}, pq_Md_requestLine_63 E mc ms Post G c s x0 x1 x2 x3 x5 → ∀ {H : Heap} {locs : List Loc} {ls : Array Slot}, wo_Se E G H → va_S (en_A E) s₀.heap H locs → lx_has ls 13 [(0, 1, .ref x0), (1, 1, .int x1), (2, 1, .int x2), (3, 2, .long x3), (5, 1, .int x5)] → c ≤ mc → s ≤ ms → W p l e R s₀ m args below meth cd H locs c s (MQ below (va_Qi Post (wo_B E) (en_A E)) args s₀ mc ms (en_A E)) (F0 m 63 ls []) := by
  intro G c s x0 x1 x2 x3 x5 hw H locs ls hG hS hl hcc hss
  dsimp only [pq_Md_requestLine_63] at hw
  have hx := hC.1
  have hb := hC.2.1
  refine lv_aload_n hx hb dq_Md_requestLine_63 rfl (lx_at hl 0 rfl) ?_
  obtain ⟨t1, hw⟩ := hw
  refine wo_getR hC fq_Md_41 rfl hG t1 dq_Md_requestLine_64 (fun r2 e3 => ?_)
  replace hw := hw r2 e3
  refine lv_bipush (v := (8 : Int32)) hx hb dq_Md_requestLine_67 rfl ?_
  refine lv_lload_n hx hb dq_Md_requestLine_69 rfl (lx_at hl 3 rfl) ?_
  refine lv_ldc2 hx hb hC.2.2.2.2.2.1 (hC.2.2.2.2.2.2.1 _ cq_Md_228) dq_Md_requestLine_70 ?_
  refine W.lcmp hx hb dq_Md_requestLine_73 ?_
  refine lv_if_ne (tgt := 81) hx hb dq_Md_requestLine_74 rfl (fun h => ?_) (fun h => ?_)
  · replace hw := hw.1 h
    refine lv_lload_n hx hb dq_Md_requestLine_81 rfl (lx_at hl 3 rfl) ?_
    refine lv_ldc2 hx hb hC.2.2.2.2.2.1 (hC.2.2.2.2.2.2.1 _ cq_Md_230) dq_Md_requestLine_82 ?_
    refine W.lcmp hx hb dq_Md_requestLine_85 ?_
    refine lv_if_ne (tgt := 93) hx hb dq_Md_requestLine_86 rfl (fun h => ?_) (fun h => ?_)
    · replace hw := hw.1 h
      refine lv_lload_n hx hb dq_Md_requestLine_93 rfl (lx_at hl 3 rfl) ?_
      refine lv_ldc2 hx hb hC.2.2.2.2.2.1 (hC.2.2.2.2.2.2.1 _ cq_Md_232) dq_Md_requestLine_94 ?_
      refine W.lcmp hx hb dq_Md_requestLine_97 ?_
      refine lv_if_ne (tgt := 105) hx hb dq_Md_requestLine_98 rfl (fun h => ?_) (fun h => ?_)
      · replace hw := hw.1 h
        refine lv_lload_n hx hb dq_Md_requestLine_105 rfl (lx_at hl 3 rfl) ?_
        refine lv_ldc2 hx hb hC.2.2.2.2.2.1 (hC.2.2.2.2.2.2.1 _ cq_Md_234) dq_Md_requestLine_106 ?_
        refine W.lcmp hx hb dq_Md_requestLine_109 ?_
        refine lv_if_ne (tgt := 117) hx hb dq_Md_requestLine_110 rfl (fun h => ?_) (fun h => ?_)
        · replace hw := hw.1 h
          refine lv_iconst (v := (-1 : Int32)) hx hb dq_Md_requestLine_117 rfl ?_
          exact tq_Md_requestLine_118 hC hw hG hS (lx_sub hl [0, 1, 2, 4] rfl) hcc hss
        · replace hw := hw.2 h
          refine lv_iconst (v := (3 : Int32)) hx hb dq_Md_requestLine_113 rfl ?_
          refine lv_goto (tgt := 118) hx hb dq_Md_requestLine_114 rfl ?_
          exact tq_Md_requestLine_118 hC hw hG hS (lx_sub hl [0, 1, 2, 4] rfl) hcc hss
      · replace hw := hw.2 h
        refine lv_iconst (v := (2 : Int32)) hx hb dq_Md_requestLine_101 rfl ?_
        refine lv_goto (tgt := 118) hx hb dq_Md_requestLine_102 rfl ?_
        exact tq_Md_requestLine_118 hC hw hG hS (lx_sub hl [0, 1, 2, 4] rfl) hcc hss
    · replace hw := hw.2 h
      refine lv_iconst (v := (1 : Int32)) hx hb dq_Md_requestLine_89 rfl ?_
      refine lv_goto (tgt := 118) hx hb dq_Md_requestLine_90 rfl ?_
      exact tq_Md_requestLine_118 hC hw hG hS (lx_sub hl [0, 1, 2, 4] rfl) hcc hss
  · replace hw := hw.2 h
    refine lv_iconst (v := (0 : Int32)) hx hb dq_Md_requestLine_77 rfl ?_
    refine lv_goto (tgt := 118) hx hb dq_Md_requestLine_78 rfl ?_
    exact tq_Md_requestLine_118 hC hw hG hS (lx_sub hl [0, 1, 2, 4] rfl) hcc hss
set_option maxRecDepth 100000 in
set_option maxHeartbeats 4000000 in
theorem tq_Md_requestLine_5 {p : Program} {l : Launch} {e : Env} {R : Room} {s₀ : State} {m : MethodId} {args : Array Value} {below : List Frame} {meth : Method} {cd : Code} {E : wo_E} {mc ms : Nat} {Post : Int32 → wo_W → Prop} (hC : wo_Cx E "EdgeCacheModel" prog_14_method_7_code 13 1 28 ((Option.some Jvm.ClassFile.FieldType.int)) "requestLine" mc ms p R s₀ m args meth cd) : ∀ n : Nat, ∀ {G : wo_W} {c s : Nat} {x0 : Nat} {x1 : Int32} {x2 : Int32} {x3 : Int64} {x5 : Int32}, pq_Md_requestLine_5 E mc ms Post n G c s x0 x1 x2 x3 x5 → ∀ {H : Heap} {locs : List Loc} {ls : Array Slot}, wo_Se E G H → va_S (en_A E) s₀.heap H locs → lx_has ls 13 [(0, 1, .ref x0), (1, 1, .int x1), (2, 1, .int x2), (3, 2, .long x3), (5, 1, .int x5)] → c ≤ mc → s ≤ ms → W p l e R s₀ m args below meth cd H locs c s (MQ below (va_Qi Post (wo_B E) (en_A E)) args s₀ mc ms (en_A E)) (F0 m 5 ls []) := by
  intro n
  induction n with
  | zero => intro G c s x0 x1 x2 x3 x5 hw; exact hw.elim
  | succ n ih =>
    intro G c s x0 x1 x2 x3 x5 hw H locs ls hG hS hl hcc hss
    dsimp only [pq_Md_requestLine_5] at hw
    have hx := hC.1
    have hb := hC.2.1
    refine lv_iload hx hb dq_Md_requestLine_5 (lx_at hl 4 rfl) ?_
    refine lv_iload_n hx hb dq_Md_requestLine_7 rfl (lx_at hl 2 rfl) ?_
    refine lv_icmp_ge (tgt := 63) hx hb dq_Md_requestLine_8 rfl (fun h => ?_) (fun h => ?_)
    · replace hw := hw.1 h
      exact tq_Md_requestLine_63 hC hw hG hS (lx_sub hl [0, 1, 2, 3, 4] rfl) hcc hss
    · replace hw := hw.2 h
      refine lv_iload hx hb dq_Md_requestLine_11 (lx_at hl 4 rfl) ?_
      refine lv_bipush (v := (7 : Int32)) hx hb dq_Md_requestLine_13 rfl ?_
      refine lv_icmp_ge (tgt := 63) hx hb dq_Md_requestLine_15 rfl (fun h => ?_) (fun h => ?_)
      · replace hw := hw.1 h
        exact tq_Md_requestLine_63 hC hw hG hS (lx_sub hl [0, 1, 2, 3, 4] rfl) hcc hss
      · replace hw := hw.2 h
        refine lv_aload_n hx hb dq_Md_requestLine_18 rfl (lx_at hl 0 rfl) ?_
        obtain ⟨t1, hw⟩ := hw
        refine wo_getR hC fq_Md_7 rfl hG t1 dq_Md_requestLine_19 (fun r2 e3 => ?_)
        replace hw := hw r2 e3
        refine lv_sipush (v := (4200 : Int32)) hx hb dq_Md_requestLine_22 rfl ?_
        refine lv_iload_n hx hb dq_Md_requestLine_25 rfl (lx_at hl 1 rfl) ?_
        refine lv_imul hx hb dq_Md_requestLine_26 ?_
        refine lv_iload hx hb dq_Md_requestLine_27 (lx_at hl 4 rfl) ?_
        refine lv_iadd hx hb dq_Md_requestLine_29 ?_
        obtain ⟨a4, rfl, hw⟩ := hw
        obtain ⟨t5, hw⟩ := hw
        obtain ⟨h6, hw⟩ := hw
        refine wo_iald (j := 2) hC rfl hG t5 h6 dq_Md_requestLine_30 ?_
        refine lv_bipush (v := (32 : Int32)) hx hb dq_Md_requestLine_31 rfl ?_
        refine lv_icmp_eq (tgt := 63) hx hb dq_Md_requestLine_33 rfl (fun h => ?_) (fun h => ?_)
        · replace hw := hw.1 h
          exact tq_Md_requestLine_63 hC hw hG hS (lx_sub hl [0, 1, 2, 3, 4] rfl) hcc hss
        · replace hw := hw.2 h
          refine lv_lload_n hx hb dq_Md_requestLine_36 rfl (lx_at hl 3 rfl) ?_
          refine lv_ldc2 hx hb hC.2.2.2.2.2.1 (hC.2.2.2.2.2.2.1 _ cq_Md_226) dq_Md_requestLine_37 ?_
          refine lv_lmul hx hb dq_Md_requestLine_40 ?_
          refine lv_aload_n hx hb dq_Md_requestLine_41 rfl (lx_at hl 0 rfl) ?_
          refine wo_getR hC fq_Md_7 rfl hG t1 dq_Md_requestLine_42 (fun r7 e8 => ?_)
          replace hw := hw r7 e8
          refine lv_sipush (v := (4200 : Int32)) hx hb dq_Md_requestLine_45 rfl ?_
          refine lv_iload_n hx hb dq_Md_requestLine_48 rfl (lx_at hl 1 rfl) ?_
          refine lv_imul hx hb dq_Md_requestLine_49 ?_
          refine lv_iload hx hb dq_Md_requestLine_50 (lx_at hl 4 rfl) ?_
          refine lv_iadd hx hb dq_Md_requestLine_52 ?_
          obtain ⟨a9, rfl, hw⟩ := hw
          obtain ⟨t10, hw⟩ := hw
          obtain ⟨h11, hw⟩ := hw
          refine wo_iald (j := 2) hC rfl hG t10 h11 dq_Md_requestLine_53 ?_
          refine lv_i2l (v := (wo_ei G a9 (((4200 : Int32) * x1) + x5).toNatClampNeg).toInt64) hx hb dq_Md_requestLine_54 rfl ?_
          refine lv_ladd hx hb dq_Md_requestLine_55 ?_
          refine lx_lstore_n (lv' := [(3, 2, .long ((x3 * (256 : Int64)) + (wo_ei G a9 (((4200 : Int32) * x1) + x5).toNatClampNeg).toInt64)), (0, 1, .ref x0), (1, 1, .int x1), (2, 1, .int x2), (5, 1, .int x5)]) hx hb dq_Md_requestLine_56 rfl hl (by decide) rfl (fun ls hl' => ?_)
          clear hl
          have hl := hl'
          clear hl'
          refine lx_iinc (k := 4) (v := (x5 + (1 : Int32))) (lv' := [(5, 1, .int (x5 + (1 : Int32))), (3, 2, .long ((x3 * (256 : Int64)) + (wo_ei G a9 (((4200 : Int32) * x1) + x5).toNatClampNeg).toInt64)), (0, 1, .ref x0), (1, 1, .int x1), (2, 1, .int x2)]) hx hb dq_Md_requestLine_57 hl rfl rfl (by decide) rfl (fun ls hl' => ?_)
          clear hl
          have hl := hl'
          clear hl'
          refine lv_goto (tgt := 5) hx hb dq_Md_requestLine_60 rfl ?_
          exact ih hw hG hS (lx_sub hl [2, 3, 4, 1, 0] rfl) hcc hss
set_option maxRecDepth 100000 in
set_option maxHeartbeats 4000000 in
theorem tq_Md_requestLine_0 {p : Program} {l : Launch} {e : Env} {R : Room} {s₀ : State} {m : MethodId} {args : Array Value} {below : List Frame} {meth : Method} {cd : Code} {E : wo_E} {mc ms : Nat} {Post : Int32 → wo_W → Prop} (hC : wo_Cx E "EdgeCacheModel" prog_14_method_7_code 13 1 28 ((Option.some Jvm.ClassFile.FieldType.int)) "requestLine" mc ms p R s₀ m args meth cd) : ∀ {G : wo_W} {c s : Nat} {x0 : Nat} {x1 : Int32} {x2 : Int32}, pq_Md_requestLine_0 E mc ms Post G c s x0 x1 x2 → ∀ {H : Heap} {locs : List Loc} {ls : Array Slot}, wo_Se E G H → va_S (en_A E) s₀.heap H locs → lx_has ls 13 [(0, 1, .ref x0), (1, 1, .int x1), (2, 1, .int x2)] → c ≤ mc → s ≤ ms → W p l e R s₀ m args below meth cd H locs c s (MQ below (va_Qi Post (wo_B E) (en_A E)) args s₀ mc ms (en_A E)) (F0 m 0 ls []) := by
  intro G c s x0 x1 x2 hw H locs ls hG hS hl hcc hss
  dsimp only [pq_Md_requestLine_0] at hw
  have hx := hC.1
  have hb := hC.2.1
  refine lv_lconst (v := (0 : Int64)) hx hb dq_Md_requestLine_0 rfl ?_
  refine lx_lstore_n (lv' := [(3, 2, .long (0 : Int64)), (0, 1, .ref x0), (1, 1, .int x1), (2, 1, .int x2)]) hx hb dq_Md_requestLine_1 rfl hl (by decide) rfl (fun ls hl' => ?_)
  clear hl
  have hl := hl'
  clear hl'
  refine lv_iconst (v := (0 : Int32)) hx hb dq_Md_requestLine_2 rfl ?_
  refine lx_istore (lv' := [(5, 1, .int (0 : Int32)), (3, 2, .long (0 : Int64)), (0, 1, .ref x0), (1, 1, .int x1), (2, 1, .int x2)]) hx hb dq_Md_requestLine_3 hl (by decide) rfl (fun ls hl' => ?_)
  clear hl
  have hl := hl'
  clear hl'
  obtain ⟨n1, hw⟩ := hw
  exact tq_Md_requestLine_5 hC n1 hw hG hS (lx_sub hl [2, 3, 4, 1, 0] rfl) hcc hss
set_option maxHeartbeats 4000000 in
theorem mq_Md_requestLine {l : Launch} {E : wo_E} {mc ms : Nat} {Post : Int32 → wo_W → Prop} {G : wo_W} {x0 : Nat} {x1 : Int32} {x2 : Int32} (hw : pq_Md_requestLine E mc ms Post G x0 x1 x2) : Met l yq_Md_requestLine (Cond.code yq_Md_requestLine prog_14_method_7_code 13 ((Option.some Jvm.ClassFile.FieldType.int)) :: vw_WG) { frames := 1, cells := mc, slots := ms, locals := 28 } (va_Pc [.ref x0, .int x1, .int x2] (wo_Ok E G)) (va_Qi Post (wo_B E) (en_A E)) mc ms (en_A E) := by
  unfold pq_Md_requestLine at hw
  exact wo_met [(1, .ref x0), (1, .int x1), (1, .int x2)] rfl (by decide) (fun q hq => by simp only [List.mem_cons, List.not_mem_nil, or_false] at hq; rcases hq with rfl | rfl | rfl <;> first | rfl | exact lx_cR _) (Nat.le_of_ble_eq_true rfl) (fun p e R s m args below meth cd ls hC hG hS hl => tq_Md_requestLine_0 hC hw hG hS (lx_sub hl [0, 1, 2] rfl) (Nat.zero_le _) (Nat.zero_le _))
