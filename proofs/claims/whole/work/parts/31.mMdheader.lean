theorem dq_Md_header_0 : decode prog_14_method_12_code 0 = .ok (.aload_n 0, 1) := by decide +kernel
theorem dq_Md_header_1 : decode prog_14_method_12_code 1 = .ok (.getfield 7, 3) := by decide +kernel
theorem dq_Md_header_4 : decode prog_14_method_12_code 4 = .ok (.sipush 4200, 3) := by decide +kernel
theorem dq_Md_header_7 : decode prog_14_method_12_code 7 = .ok (.iload_n 1, 1) := by decide +kernel
theorem dq_Md_header_8 : decode prog_14_method_12_code 8 = .ok (.imul, 1) := by decide +kernel
theorem dq_Md_header_9 : decode prog_14_method_12_code 9 = .ok (.iload_n 2, 1) := by decide +kernel
theorem dq_Md_header_10 : decode prog_14_method_12_code 10 = .ok (.iadd, 1) := by decide +kernel
theorem dq_Md_header_11 : decode prog_14_method_12_code 11 = .ok (.iaload, 1) := by decide +kernel
theorem dq_Md_header_12 : decode prog_14_method_12_code 12 = .ok (.istore 4, 2) := by decide +kernel
theorem dq_Md_header_14 : decode prog_14_method_12_code 14 = .ok (.iload_n 3, 1) := by decide +kernel
theorem dq_Md_header_15 : decode prog_14_method_12_code 15 = .ok (.iload_n 2, 1) := by decide +kernel
theorem dq_Md_header_16 : decode prog_14_method_12_code 16 = .ok (.isub, 1) := by decide +kernel
theorem dq_Md_header_17 : decode prog_14_method_12_code 17 = .ok (.iconst 2, 1) := by decide +kernel
theorem dq_Md_header_18 : decode prog_14_method_12_code 18 = .ok (.if_icmp .lt 36, 3) := by decide +kernel
theorem dq_Md_header_21 : decode prog_14_method_12_code 21 = .ok (.iload 4, 2) := by decide +kernel
theorem dq_Md_header_23 : decode prog_14_method_12_code 23 = .ok (.bipush 65, 2) := by decide +kernel
theorem dq_Md_header_25 : decode prog_14_method_12_code 25 = .ok (.if_icmp .lt 29, 3) := by decide +kernel
theorem dq_Md_header_28 : decode prog_14_method_12_code 28 = .ok (.iload 4, 2) := by decide +kernel
theorem dq_Md_header_30 : decode prog_14_method_12_code 30 = .ok (.bipush 90, 2) := by decide +kernel
theorem dq_Md_header_32 : decode prog_14_method_12_code 32 = .ok (.if_icmp .gt 22, 3) := by decide +kernel
theorem dq_Md_header_35 : decode prog_14_method_12_code 35 = .ok (.aload_n 0, 1) := by decide +kernel
theorem dq_Md_header_36 : decode prog_14_method_12_code 36 = .ok (.getfield 7, 3) := by decide +kernel
theorem dq_Md_header_39 : decode prog_14_method_12_code 39 = .ok (.sipush 4200, 3) := by decide +kernel
theorem dq_Md_header_42 : decode prog_14_method_12_code 42 = .ok (.iload_n 1, 1) := by decide +kernel
theorem dq_Md_header_43 : decode prog_14_method_12_code 43 = .ok (.imul, 1) := by decide +kernel
theorem dq_Md_header_44 : decode prog_14_method_12_code 44 = .ok (.iload_n 2, 1) := by decide +kernel
theorem dq_Md_header_45 : decode prog_14_method_12_code 45 = .ok (.iadd, 1) := by decide +kernel
theorem dq_Md_header_46 : decode prog_14_method_12_code 46 = .ok (.iconst 1, 1) := by decide +kernel
theorem dq_Md_header_47 : decode prog_14_method_12_code 47 = .ok (.iadd, 1) := by decide +kernel
theorem dq_Md_header_48 : decode prog_14_method_12_code 48 = .ok (.iaload, 1) := by decide +kernel
theorem dq_Md_header_49 : decode prog_14_method_12_code 49 = .ok (.bipush 58, 2) := by decide +kernel
theorem dq_Md_header_51 : decode prog_14_method_12_code 51 = .ok (.if_icmp .eq 7, 3) := by decide +kernel
theorem dq_Md_header_54 : decode prog_14_method_12_code 54 = .ok (.sipush 400, 3) := by decide +kernel
theorem dq_Md_header_57 : decode prog_14_method_12_code 57 = .ok (.ireturn, 1) := by decide +kernel
theorem dq_Md_header_58 : decode prog_14_method_12_code 58 = .ok (.lconst 0, 1) := by decide +kernel
theorem dq_Md_header_59 : decode prog_14_method_12_code 59 = .ok (.lstore 5, 2) := by decide +kernel
theorem dq_Md_header_61 : decode prog_14_method_12_code 61 = .ok (.iload_n 3, 1) := by decide +kernel
theorem dq_Md_header_62 : decode prog_14_method_12_code 62 = .ok (.iload_n 2, 1) := by decide +kernel
theorem dq_Md_header_63 : decode prog_14_method_12_code 63 = .ok (.isub, 1) := by decide +kernel
theorem dq_Md_header_64 : decode prog_14_method_12_code 64 = .ok (.iconst 2, 1) := by decide +kernel
theorem dq_Md_header_65 : decode prog_14_method_12_code 65 = .ok (.isub, 1) := by decide +kernel
theorem dq_Md_header_66 : decode prog_14_method_12_code 66 = .ok (.istore 7, 2) := by decide +kernel
theorem dq_Md_header_68 : decode prog_14_method_12_code 68 = .ok (.iconst 0, 1) := by decide +kernel
theorem dq_Md_header_69 : decode prog_14_method_12_code 69 = .ok (.istore 8, 2) := by decide +kernel
theorem dq_Md_header_71 : decode prog_14_method_12_code 71 = .ok (.iload 8, 2) := by decide +kernel
theorem dq_Md_header_73 : decode prog_14_method_12_code 73 = .ok (.iload 7, 2) := by decide +kernel
theorem dq_Md_header_75 : decode prog_14_method_12_code 75 = .ok (.if_icmp .ge 71, 3) := by decide +kernel
theorem dq_Md_header_78 : decode prog_14_method_12_code 78 = .ok (.aload_n 0, 1) := by decide +kernel
theorem dq_Md_header_79 : decode prog_14_method_12_code 79 = .ok (.getfield 7, 3) := by decide +kernel
theorem dq_Md_header_82 : decode prog_14_method_12_code 82 = .ok (.sipush 4200, 3) := by decide +kernel
theorem dq_Md_header_85 : decode prog_14_method_12_code 85 = .ok (.iload_n 1, 1) := by decide +kernel
theorem dq_Md_header_86 : decode prog_14_method_12_code 86 = .ok (.imul, 1) := by decide +kernel
theorem dq_Md_header_87 : decode prog_14_method_12_code 87 = .ok (.iload_n 2, 1) := by decide +kernel
theorem dq_Md_header_88 : decode prog_14_method_12_code 88 = .ok (.iadd, 1) := by decide +kernel
theorem dq_Md_header_89 : decode prog_14_method_12_code 89 = .ok (.iconst 2, 1) := by decide +kernel
theorem dq_Md_header_90 : decode prog_14_method_12_code 90 = .ok (.iadd, 1) := by decide +kernel
theorem dq_Md_header_91 : decode prog_14_method_12_code 91 = .ok (.iload 8, 2) := by decide +kernel
theorem dq_Md_header_93 : decode prog_14_method_12_code 93 = .ok (.iadd, 1) := by decide +kernel
theorem dq_Md_header_94 : decode prog_14_method_12_code 94 = .ok (.iaload, 1) := by decide +kernel
theorem dq_Md_header_95 : decode prog_14_method_12_code 95 = .ok (.istore 9, 2) := by decide +kernel
theorem dq_Md_header_97 : decode prog_14_method_12_code 97 = .ok (.iload 9, 2) := by decide +kernel
theorem dq_Md_header_99 : decode prog_14_method_12_code 99 = .ok (.bipush 32, 2) := by decide +kernel
theorem dq_Md_header_101 : decode prog_14_method_12_code 101 = .ok (.if_icmp .lt 10, 3) := by decide +kernel
theorem dq_Md_header_104 : decode prog_14_method_12_code 104 = .ok (.iload 9, 2) := by decide +kernel
theorem dq_Md_header_106 : decode prog_14_method_12_code 106 = .ok (.bipush 126, 2) := by decide +kernel
theorem dq_Md_header_108 : decode prog_14_method_12_code 108 = .ok (.if_icmp .le 7, 3) := by decide +kernel
theorem dq_Md_header_111 : decode prog_14_method_12_code 111 = .ok (.sipush 400, 3) := by decide +kernel
theorem dq_Md_header_114 : decode prog_14_method_12_code 114 = .ok (.ireturn, 1) := by decide +kernel
theorem dq_Md_header_115 : decode prog_14_method_12_code 115 = .ok (.lload 5, 2) := by decide +kernel
theorem dq_Md_header_117 : decode prog_14_method_12_code 117 = .ok (.iload 8, 2) := by decide +kernel
theorem dq_Md_header_119 : decode prog_14_method_12_code 119 = .ok (.bipush 8, 2) := by decide +kernel
theorem dq_Md_header_121 : decode prog_14_method_12_code 121 = .ok (.if_icmp .ge 15, 3) := by decide +kernel
theorem dq_Md_header_124 : decode prog_14_method_12_code 124 = .ok (.iload 9, 2) := by decide +kernel
theorem dq_Md_header_126 : decode prog_14_method_12_code 126 = .ok (.i2l, 1) := by decide +kernel
theorem dq_Md_header_127 : decode prog_14_method_12_code 127 = .ok (.bipush 8, 2) := by decide +kernel
theorem dq_Md_header_129 : decode prog_14_method_12_code 129 = .ok (.iload 8, 2) := by decide +kernel
theorem dq_Md_header_131 : decode prog_14_method_12_code 131 = .ok (.imul, 1) := by decide +kernel
theorem dq_Md_header_132 : decode prog_14_method_12_code 132 = .ok (.lshl, 1) := by decide +kernel
theorem dq_Md_header_133 : decode prog_14_method_12_code 133 = .ok (.goto 4, 3) := by decide +kernel
theorem dq_Md_header_136 : decode prog_14_method_12_code 136 = .ok (.lconst 0, 1) := by decide +kernel
theorem dq_Md_header_137 : decode prog_14_method_12_code 137 = .ok (.lor, 1) := by decide +kernel
theorem dq_Md_header_138 : decode prog_14_method_12_code 138 = .ok (.lstore 5, 2) := by decide +kernel
theorem dq_Md_header_140 : decode prog_14_method_12_code 140 = .ok (.iinc 8 1, 3) := by decide +kernel
theorem dq_Md_header_143 : decode prog_14_method_12_code 143 = .ok (.goto (-72), 3) := by decide +kernel
theorem dq_Md_header_146 : decode prog_14_method_12_code 146 = .ok (.iload 7, 2) := by decide +kernel
theorem dq_Md_header_148 : decode prog_14_method_12_code 148 = .ok (.bipush 8, 2) := by decide +kernel
theorem dq_Md_header_150 : decode prog_14_method_12_code 150 = .ok (.if_icmp .le 7, 3) := by decide +kernel
theorem dq_Md_header_153 : decode prog_14_method_12_code 153 = .ok (.sipush 431, 3) := by decide +kernel
theorem dq_Md_header_156 : decode prog_14_method_12_code 156 = .ok (.ireturn, 1) := by decide +kernel
theorem dq_Md_header_157 : decode prog_14_method_12_code 157 = .ok (.iload 4, 2) := by decide +kernel
theorem dq_Md_header_159 : decode prog_14_method_12_code 159 = .ok (.bipush 76, 2) := by decide +kernel
theorem dq_Md_header_161 : decode prog_14_method_12_code 161 = .ok (.if_icmp .ne 54, 3) := by decide +kernel
theorem dq_Md_header_164 : decode prog_14_method_12_code 164 = .ok (.iload 7, 2) := by decide +kernel
theorem dq_Md_header_166 : decode prog_14_method_12_code 166 = .ok (.iconst 2, 1) := by decide +kernel
theorem dq_Md_header_167 : decode prog_14_method_12_code 167 = .ok (.if_icmp .le 7, 3) := by decide +kernel
theorem dq_Md_header_170 : decode prog_14_method_12_code 170 = .ok (.iconst (-1), 1) := by decide +kernel
theorem dq_Md_header_171 : decode prog_14_method_12_code 171 = .ok (.goto 11, 3) := by decide +kernel
theorem dq_Md_header_174 : decode prog_14_method_12_code 174 = .ok (.lload 5, 2) := by decide +kernel
theorem dq_Md_header_176 : decode prog_14_method_12_code 176 = .ok (.iconst 0, 1) := by decide +kernel
theorem dq_Md_header_177 : decode prog_14_method_12_code 177 = .ok (.iload 7, 2) := by decide +kernel
theorem dq_Md_header_179 : decode prog_14_method_12_code 179 = .ok (.invokestatic 248, 3) := by decide +kernel
theorem dq_Md_header_182 : decode prog_14_method_12_code 182 = .ok (.istore 8, 2) := by decide +kernel
theorem dq_Md_header_184 : decode prog_14_method_12_code 184 = .ok (.iload 8, 2) := by decide +kernel
theorem dq_Md_header_186 : decode prog_14_method_12_code 186 = .ok (.ifCond .lt 19, 3) := by decide +kernel
theorem dq_Md_header_189 : decode prog_14_method_12_code 189 = .ok (.aload_n 0, 1) := by decide +kernel
theorem dq_Md_header_190 : decode prog_14_method_12_code 190 = .ok (.getfield 209, 3) := by decide +kernel
theorem dq_Md_header_193 : decode prog_14_method_12_code 193 = .ok (.ifCond .lt 16, 3) := by decide +kernel
theorem dq_Md_header_196 : decode prog_14_method_12_code 196 = .ok (.aload_n 0, 1) := by decide +kernel
theorem dq_Md_header_197 : decode prog_14_method_12_code 197 = .ok (.getfield 209, 3) := by decide +kernel
theorem dq_Md_header_200 : decode prog_14_method_12_code 200 = .ok (.iload 8, 2) := by decide +kernel
theorem dq_Md_header_202 : decode prog_14_method_12_code 202 = .ok (.if_icmp .eq 7, 3) := by decide +kernel
theorem dq_Md_header_205 : decode prog_14_method_12_code 205 = .ok (.sipush 400, 3) := by decide +kernel
theorem dq_Md_header_208 : decode prog_14_method_12_code 208 = .ok (.ireturn, 1) := by decide +kernel
theorem dq_Md_header_209 : decode prog_14_method_12_code 209 = .ok (.aload_n 0, 1) := by decide +kernel
theorem dq_Md_header_210 : decode prog_14_method_12_code 210 = .ok (.iload 8, 2) := by decide +kernel
theorem dq_Md_header_212 : decode prog_14_method_12_code 212 = .ok (.putfield 209, 3) := by decide +kernel
theorem dq_Md_header_215 : decode prog_14_method_12_code 215 = .ok (.iload 4, 2) := by decide +kernel
theorem dq_Md_header_217 : decode prog_14_method_12_code 217 = .ok (.bipush 84, 2) := by decide +kernel
theorem dq_Md_header_219 : decode prog_14_method_12_code 219 = .ok (.if_icmp .ne 31, 3) := by decide +kernel
theorem dq_Md_header_222 : decode prog_14_method_12_code 222 = .ok (.aload_n 0, 1) := by decide +kernel
theorem dq_Md_header_223 : decode prog_14_method_12_code 223 = .ok (.iconst 1, 1) := by decide +kernel
theorem dq_Md_header_224 : decode prog_14_method_12_code 224 = .ok (.putfield 212, 3) := by decide +kernel
theorem dq_Md_header_227 : decode prog_14_method_12_code 227 = .ok (.iload 7, 2) := by decide +kernel
theorem dq_Md_header_229 : decode prog_14_method_12_code 229 = .ok (.iconst 1, 1) := by decide +kernel
theorem dq_Md_header_230 : decode prog_14_method_12_code 230 = .ok (.if_icmp .ne 16, 3) := by decide +kernel
theorem dq_Md_header_233 : decode prog_14_method_12_code 233 = .ok (.lload 5, 2) := by decide +kernel
theorem dq_Md_header_235 : decode prog_14_method_12_code 235 = .ok (.ldc2_w 252, 3) := by decide +kernel
theorem dq_Md_header_238 : decode prog_14_method_12_code 238 = .ok (.lcmp, 1) := by decide +kernel
theorem dq_Md_header_239 : decode prog_14_method_12_code 239 = .ok (.ifCond .ne 7, 3) := by decide +kernel
theorem dq_Md_header_242 : decode prog_14_method_12_code 242 = .ok (.iconst 0, 1) := by decide +kernel
theorem dq_Md_header_243 : decode prog_14_method_12_code 243 = .ok (.goto 6, 3) := by decide +kernel
theorem dq_Md_header_246 : decode prog_14_method_12_code 246 = .ok (.sipush 400, 3) := by decide +kernel
theorem dq_Md_header_249 : decode prog_14_method_12_code 249 = .ok (.ireturn, 1) := by decide +kernel
theorem dq_Md_header_250 : decode prog_14_method_12_code 250 = .ok (.iload 4, 2) := by decide +kernel
theorem dq_Md_header_252 : decode prog_14_method_12_code 252 = .ok (.bipush 77, 2) := by decide +kernel
theorem dq_Md_header_254 : decode prog_14_method_12_code 254 = .ok (.if_icmp .ne 7, 3) := by decide +kernel
theorem dq_Md_header_257 : decode prog_14_method_12_code 257 = .ok (.iconst 0, 1) := by decide +kernel
theorem dq_Md_header_258 : decode prog_14_method_12_code 258 = .ok (.goto 83, 3) := by decide +kernel
theorem dq_Md_header_261 : decode prog_14_method_12_code 261 = .ok (.iload 4, 2) := by decide +kernel
theorem dq_Md_header_263 : decode prog_14_method_12_code 263 = .ok (.bipush 78, 2) := by decide +kernel
theorem dq_Md_header_265 : decode prog_14_method_12_code 265 = .ok (.if_icmp .ne 7, 3) := by decide +kernel
theorem dq_Md_header_268 : decode prog_14_method_12_code 268 = .ok (.iconst 1, 1) := by decide +kernel
theorem dq_Md_header_269 : decode prog_14_method_12_code 269 = .ok (.goto 72, 3) := by decide +kernel
theorem dq_Md_header_272 : decode prog_14_method_12_code 272 = .ok (.iload 4, 2) := by decide +kernel
theorem dq_Md_header_274 : decode prog_14_method_12_code 274 = .ok (.bipush 82, 2) := by decide +kernel
theorem dq_Md_header_276 : decode prog_14_method_12_code 276 = .ok (.if_icmp .ne 7, 3) := by decide +kernel
theorem dq_Md_header_279 : decode prog_14_method_12_code 279 = .ok (.iconst 2, 1) := by decide +kernel
theorem dq_Md_header_280 : decode prog_14_method_12_code 280 = .ok (.goto 61, 3) := by decide +kernel
theorem dq_Md_header_283 : decode prog_14_method_12_code 283 = .ok (.iload 4, 2) := by decide +kernel
theorem dq_Md_header_285 : decode prog_14_method_12_code 285 = .ok (.bipush 73, 2) := by decide +kernel
theorem dq_Md_header_287 : decode prog_14_method_12_code 287 = .ok (.if_icmp .ne 7, 3) := by decide +kernel
theorem dq_Md_header_290 : decode prog_14_method_12_code 290 = .ok (.iconst 3, 1) := by decide +kernel
theorem dq_Md_header_291 : decode prog_14_method_12_code 291 = .ok (.goto 50, 3) := by decide +kernel
theorem dq_Md_header_294 : decode prog_14_method_12_code 294 = .ok (.iload 4, 2) := by decide +kernel
theorem dq_Md_header_296 : decode prog_14_method_12_code 296 = .ok (.bipush 67, 2) := by decide +kernel
theorem dq_Md_header_298 : decode prog_14_method_12_code 298 = .ok (.if_icmp .ne 7, 3) := by decide +kernel
theorem dq_Md_header_301 : decode prog_14_method_12_code 301 = .ok (.iconst 4, 1) := by decide +kernel
theorem dq_Md_header_302 : decode prog_14_method_12_code 302 = .ok (.goto 39, 3) := by decide +kernel
theorem dq_Md_header_305 : decode prog_14_method_12_code 305 = .ok (.iload 4, 2) := by decide +kernel
theorem dq_Md_header_307 : decode prog_14_method_12_code 307 = .ok (.bipush 86, 2) := by decide +kernel
theorem dq_Md_header_309 : decode prog_14_method_12_code 309 = .ok (.if_icmp .ne 7, 3) := by decide +kernel
theorem dq_Md_header_312 : decode prog_14_method_12_code 312 = .ok (.iconst 5, 1) := by decide +kernel
theorem dq_Md_header_313 : decode prog_14_method_12_code 313 = .ok (.goto 28, 3) := by decide +kernel
theorem dq_Md_header_316 : decode prog_14_method_12_code 316 = .ok (.iload 4, 2) := by decide +kernel
theorem dq_Md_header_318 : decode prog_14_method_12_code 318 = .ok (.bipush 75, 2) := by decide +kernel
theorem dq_Md_header_320 : decode prog_14_method_12_code 320 = .ok (.if_icmp .ne 8, 3) := by decide +kernel
theorem dq_Md_header_323 : decode prog_14_method_12_code 323 = .ok (.bipush 6, 2) := by decide +kernel
theorem dq_Md_header_325 : decode prog_14_method_12_code 325 = .ok (.goto 16, 3) := by decide +kernel
theorem dq_Md_header_328 : decode prog_14_method_12_code 328 = .ok (.iload 4, 2) := by decide +kernel
theorem dq_Md_header_330 : decode prog_14_method_12_code 330 = .ok (.bipush 80, 2) := by decide +kernel
theorem dq_Md_header_332 : decode prog_14_method_12_code 332 = .ok (.if_icmp .ne 8, 3) := by decide +kernel
theorem dq_Md_header_335 : decode prog_14_method_12_code 335 = .ok (.bipush 7, 2) := by decide +kernel
theorem dq_Md_header_337 : decode prog_14_method_12_code 337 = .ok (.goto 4, 3) := by decide +kernel
theorem dq_Md_header_340 : decode prog_14_method_12_code 340 = .ok (.iconst (-1), 1) := by decide +kernel
theorem dq_Md_header_341 : decode prog_14_method_12_code 341 = .ok (.istore 8, 2) := by decide +kernel
theorem dq_Md_header_343 : decode prog_14_method_12_code 343 = .ok (.iload 8, 2) := by decide +kernel
theorem dq_Md_header_345 : decode prog_14_method_12_code 345 = .ok (.ifCond .lt 27, 3) := by decide +kernel
theorem dq_Md_header_348 : decode prog_14_method_12_code 348 = .ok (.aload_n 0, 1) := by decide +kernel
theorem dq_Md_header_349 : decode prog_14_method_12_code 349 = .ok (.getfield 51, 3) := by decide +kernel
theorem dq_Md_header_352 : decode prog_14_method_12_code 352 = .ok (.bipush 64, 2) := by decide +kernel
theorem dq_Md_header_354 : decode prog_14_method_12_code 354 = .ok (.iload 8, 2) := by decide +kernel
theorem dq_Md_header_356 : decode prog_14_method_12_code 356 = .ok (.iadd, 1) := by decide +kernel
theorem dq_Md_header_357 : decode prog_14_method_12_code 357 = .ok (.lload 5, 2) := by decide +kernel
theorem dq_Md_header_359 : decode prog_14_method_12_code 359 = .ok (.lastore, 1) := by decide +kernel
theorem dq_Md_header_360 : decode prog_14_method_12_code 360 = .ok (.aload_n 0, 1) := by decide +kernel
theorem dq_Md_header_361 : decode prog_14_method_12_code 361 = .ok (.getfield 54, 3) := by decide +kernel
theorem dq_Md_header_364 : decode prog_14_method_12_code 364 = .ok (.bipush 64, 2) := by decide +kernel
theorem dq_Md_header_366 : decode prog_14_method_12_code 366 = .ok (.iload 8, 2) := by decide +kernel
theorem dq_Md_header_368 : decode prog_14_method_12_code 368 = .ok (.iadd, 1) := by decide +kernel
theorem dq_Md_header_369 : decode prog_14_method_12_code 369 = .ok (.iload 7, 2) := by decide +kernel
theorem dq_Md_header_371 : decode prog_14_method_12_code 371 = .ok (.iastore, 1) := by decide +kernel
theorem dq_Md_header_372 : decode prog_14_method_12_code 372 = .ok (.iconst 0, 1) := by decide +kernel
theorem dq_Md_header_373 : decode prog_14_method_12_code 373 = .ok (.ireturn, 1) := by decide +kernel
set_option maxRecDepth 100000 in
def pq_Md_header_54 (E : wo_E) (mc ms : Nat) (Post : Int32 → wo_W → Prop) (G : wo_W) (c s : Nat) : Prop := Post (400 : Int32) G
set_option maxRecDepth 100000 in
def pq_Md_header_372 (E : wo_E) (mc ms : Nat) (Post : Int32 → wo_W → Prop) (G : wo_W) (c s : Nat) : Prop := Post (0 : Int32) G
set_option maxRecDepth 100000 in
def pq_Md_header_341 (E : wo_E) (mc ms : Nat) (Post : Int32 → wo_W → Prop) (G : wo_W) (c s : Nat) (x0 : Nat) (x5 : Int64) (x7 : Int32) (y0 : Int32) : Prop := ((y0 < (0 : Int32) → pq_Md_header_372 E mc ms Post G c s) ∧
  (¬ y0 < (0 : Int32) → wo_ty G x0 = 15 ∧ ∀ r2 : Option Nat, r2 = wo_gr G 910 x0 → ∃ a4 : Nat, r2 = some a4 ∧ wo_ty G a4 = 73 ∧ vp_in ((64 : Int32) + y0) (wo_len G a4) ∧ en_bs E ≤ a4 ∧ ∀ G8 : wo_W, G8 = wo_sel G a4 ((64 : Int32) + y0).toNatClampNeg x5 → 
    ∀ r10 : Option Nat, r10 = wo_gr G8 911 x0 → ∃ a12 : Nat, r10 = some a12 ∧ wo_ty G8 a12 = 66 ∧ vp_in ((64 : Int32) + y0) (wo_len G8 a12) ∧ en_bs E ≤ a12 ∧ ∀ G16 : wo_W, G16 = wo_sei G8 a12 ((64 : Int32) + y0).toNatClampNeg x7 → 
    pq_Md_header_372 E mc ms Post G16 c s))
set_option maxRecDepth 100000 in
def pq_Md_header_249 (E : wo_E) (mc ms : Nat) (Post : Int32 → wo_W → Prop) (G : wo_W) (c s : Nat) (y0 : Int32) : Prop := Post y0 G
set_option maxRecDepth 100000 in
def pq_Md_header_246 (E : wo_E) (mc ms : Nat) (Post : Int32 → wo_W → Prop) (G : wo_W) (c s : Nat) : Prop := pq_Md_header_249 E mc ms Post G c s (400 : Int32)
set_option maxRecDepth 100000 in
def pq_Md_header_215 (E : wo_E) (mc ms : Nat) (Post : Int32 → wo_W → Prop) (G : wo_W) (c s : Nat) (x0 : Nat) (x4 : Int32) (x5 : Int64) (x7 : Int32) : Prop := ((¬ x4 = (84 : Int32) → ((¬ x4 = (77 : Int32) → ((¬ x4 = (78 : Int32) → ((¬ x4 = (82 : Int32) → ((¬ x4 = (73 : Int32) → ((¬ x4 = (67 : Int32) → ((¬ x4 = (86 : Int32) → ((¬ x4 = (75 : Int32) → ((¬ x4 = (80 : Int32) → pq_Md_header_341 E mc ms Post G c s x0 x5 x7 (-1 : Int32)) ∧
                  (x4 = (80 : Int32) → pq_Md_header_341 E mc ms Post G c s x0 x5 x7 (7 : Int32)))) ∧
                (x4 = (75 : Int32) → pq_Md_header_341 E mc ms Post G c s x0 x5 x7 (6 : Int32)))) ∧
              (x4 = (86 : Int32) → pq_Md_header_341 E mc ms Post G c s x0 x5 x7 (5 : Int32)))) ∧
            (x4 = (67 : Int32) → pq_Md_header_341 E mc ms Post G c s x0 x5 x7 (4 : Int32)))) ∧
          (x4 = (73 : Int32) → pq_Md_header_341 E mc ms Post G c s x0 x5 x7 (3 : Int32)))) ∧
        (x4 = (82 : Int32) → pq_Md_header_341 E mc ms Post G c s x0 x5 x7 (2 : Int32)))) ∧
      (x4 = (78 : Int32) → pq_Md_header_341 E mc ms Post G c s x0 x5 x7 (1 : Int32)))) ∧
    (x4 = (77 : Int32) → pq_Md_header_341 E mc ms Post G c s x0 x5 x7 (0 : Int32)))) ∧
  (x4 = (84 : Int32) → wo_ty G x0 = 15 ∧ en_bs E ≤ x0 ∧ wo_okI .boolean (1 : Int32) ∧ ∀ G4 : wo_W, G4 = wo_si G 915 x0 (1 : Int32) → 
    ((¬ x7 = (1 : Int32) → pq_Md_header_246 E mc ms Post G4 c s) ∧
    (x7 = (1 : Int32) → ((¬ (lg_cmp x5 (99 : Int64)) = (0 : Int32) → pq_Md_header_246 E mc ms Post G4 c s) ∧
      ((lg_cmp x5 (99 : Int64)) = (0 : Int32) → pq_Md_header_249 E mc ms Post G4 c s (0 : Int32)))))))
set_option maxRecDepth 100000 in
def pq_Md_header_205 (E : wo_E) (mc ms : Nat) (Post : Int32 → wo_W → Prop) (G : wo_W) (c s : Nat) : Prop := Post (400 : Int32) G
set_option maxRecDepth 100000 in
def pq_Md_header_209 (E : wo_E) (mc ms : Nat) (Post : Int32 → wo_W → Prop) (G : wo_W) (c s : Nat) (x0 : Nat) (x4 : Int32) (x5 : Int64) (x7 : Int32) (x8 : Int32) : Prop := wo_ty G x0 = 15 ∧ en_bs E ≤ x0 ∧ ∀ G3 : wo_W, G3 = wo_si G 914 x0 x8 → 
  pq_Md_header_215 E mc ms Post G3 c s x0 x4 x5 x7
set_option maxRecDepth 100000 in
def pq_Md_header_182 (E : wo_E) (mc ms : Nat) (Post : Int32 → wo_W → Prop) (G : wo_W) (c s : Nat) (x0 : Nat) (x4 : Int32) (x5 : Int64) (x7 : Int32) (y0 : Int32) : Prop := ((y0 < (0 : Int32) → pq_Md_header_205 E mc ms Post G c s) ∧
  (¬ y0 < (0 : Int32) → wo_ty G x0 = 15 ∧ (((wo_gi G 914 x0) < (0 : Int32) → pq_Md_header_209 E mc ms Post G c s x0 x4 x5 x7 y0) ∧
    (¬ (wo_gi G 914 x0) < (0 : Int32) → (((wo_gi G 914 x0) = y0 → pq_Md_header_209 E mc ms Post G c s x0 x4 x5 x7 y0) ∧
      (¬ (wo_gi G 914 x0) = y0 → pq_Md_header_205 E mc ms Post G c s))))))
set_option maxRecDepth 100000 in
def pq_Md_header_111 (E : wo_E) (mc ms : Nat) (Post : Int32 → wo_W → Prop) (G : wo_W) (c s : Nat) : Prop := Post (400 : Int32) G
set_option maxRecDepth 100000 in
def pq_Md_header_137 (E : wo_E) (mc ms : Nat) (Post : Int32 → wo_W → Prop) (k71 : wo_W → Nat → Nat → Nat → Int32 → Int32 → Int32 → Int64 → Int32 → Int32 → Prop) (G : wo_W) (c s : Nat) (x0 : Nat) (x1 : Int32) (x2 : Int32) (x4 : Int32) (x7 : Int32) (x8 : Int32) (y0 : Int64) (y1 : Int64) : Prop := k71 G c s x0 x1 x2 x4 (y0 ||| y1) x7 (x8 + (1 : Int32))
set_option maxRecDepth 100000 in
def pq_Md_header_71 (E : wo_E) (mc ms : Nat) (Post : Int32 → wo_W → Prop) : Nat → wo_W → Nat → Nat → Nat → Int32 → Int32 → Int32 → Int64 → Int32 → Int32 → Prop
  | 0 => fun _ _ _ _ _ _ _ _ _ _ => False
  | n + 1 => fun G c s x0 x1 x2 x4 x5 x7 x8 => ((x7 ≤ x8 → ((x7 ≤ (8 : Int32) → ((¬ x4 = (76 : Int32) → pq_Md_header_215 E mc ms Post G c s x0 x4 x5 x7) ∧
      (x4 = (76 : Int32) → ((x7 ≤ (2 : Int32) → ∃ mc1 ms2 : Nat, (c + mc1) ≤ mc ∧ (s + ms2) ≤ ms ∧ pq_Md_digits E mc1 ms2 (fun v4 G3 => 
          pq_Md_header_182 E mc ms Post G3 (c + mc1) (s + ms2) x0 x4 x5 x7 v4) G x5 (0 : Int32) x7) ∧
        (¬ x7 ≤ (2 : Int32) → pq_Md_header_182 E mc ms Post G c s x0 x4 x5 x7 (-1 : Int32)))))) ∧
    (¬ x7 ≤ (8 : Int32) → Post (431 : Int32) G))) ∧
  (¬ x7 ≤ x8 → wo_ty G x0 = 15 ∧ ∀ r6 : Option Nat, r6 = wo_gr G 896 x0 → ∃ a8 : Nat, r6 = some a8 ∧ wo_ty G a8 = 66 ∧ vp_in (((((4200 : Int32) * x1) + x2) + (2 : Int32)) + x8) (wo_len G a8) ∧ (((wo_ei G a8 (((((4200 : Int32) * x1) + x2) + (2 : Int32)) + x8).toNatClampNeg) < (32 : Int32) → pq_Md_header_111 E mc ms Post G c s) ∧
    (¬ (wo_ei G a8 (((((4200 : Int32) * x1) + x2) + (2 : Int32)) + x8).toNatClampNeg) < (32 : Int32) → (((wo_ei G a8 (((((4200 : Int32) * x1) + x2) + (2 : Int32)) + x8).toNatClampNeg) ≤ (126 : Int32) → (((8 : Int32) ≤ x8 → pq_Md_header_137 E mc ms Post (pq_Md_header_71 E mc ms Post n) G c s x0 x1 x2 x4 x7 x8 x5 (0 : Int64)) ∧
        (¬ (8 : Int32) ≤ x8 → pq_Md_header_137 E mc ms Post (pq_Md_header_71 E mc ms Post n) G c s x0 x1 x2 x4 x7 x8 x5 ((wo_ei G a8 (((((4200 : Int32) * x1) + x2) + (2 : Int32)) + x8).toNatClampNeg).toInt64 <<< (((8 : Int32) * x8).toInt64 &&& 63))))) ∧
      (¬ (wo_ei G a8 (((((4200 : Int32) * x1) + x2) + (2 : Int32)) + x8).toNatClampNeg) ≤ (126 : Int32) → pq_Md_header_111 E mc ms Post G c s))))))
set_option maxRecDepth 100000 in
def pq_Md_header_0 (E : wo_E) (mc ms : Nat) (Post : Int32 → wo_W → Prop) (G : wo_W) (c s : Nat) (x0 : Nat) (x1 : Int32) (x2 : Int32) (x3 : Int32) : Prop := wo_ty G x0 = 15 ∧ ∀ r2 : Option Nat, r2 = wo_gr G 896 x0 → ∃ a4 : Nat, r2 = some a4 ∧ wo_ty G a4 = 66 ∧ vp_in (((4200 : Int32) * x1) + x2) (wo_len G a4) ∧ (((x3 - x2) < (2 : Int32) → pq_Md_header_54 E mc ms Post G c s) ∧
  (¬ (x3 - x2) < (2 : Int32) → (((wo_ei G a4 (((4200 : Int32) * x1) + x2).toNatClampNeg) < (65 : Int32) → pq_Md_header_54 E mc ms Post G c s) ∧
    (¬ (wo_ei G a4 (((4200 : Int32) * x1) + x2).toNatClampNeg) < (65 : Int32) → (((90 : Int32) < (wo_ei G a4 (((4200 : Int32) * x1) + x2).toNatClampNeg) → pq_Md_header_54 E mc ms Post G c s) ∧
      (¬ (90 : Int32) < (wo_ei G a4 (((4200 : Int32) * x1) + x2).toNatClampNeg) → ∀ r7 : Option Nat, r7 = wo_gr G 896 x0 → ∃ a9 : Nat, r7 = some a9 ∧ wo_ty G a9 = 66 ∧ vp_in ((((4200 : Int32) * x1) + x2) + (1 : Int32)) (wo_len G a9) ∧ (((wo_ei G a9 ((((4200 : Int32) * x1) + x2) + (1 : Int32)).toNatClampNeg) = (58 : Int32) → ∃ n1 : Nat, pq_Md_header_71 E mc ms Post n1 G c s x0 x1 x2 (wo_ei G a4 (((4200 : Int32) * x1) + x2).toNatClampNeg) (0 : Int64) ((x3 - x2) - (2 : Int32)) (0 : Int32)) ∧
        (¬ (wo_ei G a9 ((((4200 : Int32) * x1) + x2) + (1 : Int32)).toNatClampNeg) = (58 : Int32) → pq_Md_header_54 E mc ms Post G c s))))))))
def pq_Md_header (E : wo_E) (mc ms : Nat) (Post : Int32 → wo_W → Prop) (G : wo_W) (x0 : Nat) (x1 : Int32) (x2 : Int32) (x3 : Int32) : Prop := pq_Md_header_0 E mc ms Post G 0 0 x0 x1 x2 x3
set_option maxRecDepth 100000 in
set_option maxHeartbeats 4000000 in
theorem tq_Md_header_54 {p : Program} {l : Launch} {e : Env} {R : Room} {s₀ : State} {m : MethodId} {args : Array Value} {below : List Frame} {meth : Method} {cd : Code} {E : wo_E} {mc ms : Nat} {Post : Int32 → wo_W → Prop} (hC : wo_Cx E "EdgeCacheModel" prog_14_method_12_code 10 2 48 ((Option.some Jvm.ClassFile.FieldType.int)) "header" mc ms p R s₀ m args meth cd) : ∀ {G : wo_W} {c s : Nat}, pq_Md_header_54 E mc ms Post G c s → ∀ {H : Heap} {locs : List Loc} {ls : Array Slot}, wo_Se E G H → va_S (en_A E) s₀.heap H locs → lx_has ls 10 [] → c ≤ mc → s ≤ ms → W p l e R s₀ m args below meth cd H locs c s (MQ below (va_Qi Post (wo_B E) (en_A E)) args s₀ mc ms (en_A E)) (F0 m 54 ls []) := by
  intro G c s hw H locs ls hG hS hl hcc hss
  dsimp only [pq_Md_header_54] at hw
  have hx := hC.1
  have hb := hC.2.1
  refine lv_sipush (v := (400 : Int32)) hx hb dq_Md_header_54 rfl ?_
  exact wo_iret hC hG hS hcc hss hw dq_Md_header_57
set_option maxRecDepth 100000 in
set_option maxHeartbeats 4000000 in
theorem tq_Md_header_372 {p : Program} {l : Launch} {e : Env} {R : Room} {s₀ : State} {m : MethodId} {args : Array Value} {below : List Frame} {meth : Method} {cd : Code} {E : wo_E} {mc ms : Nat} {Post : Int32 → wo_W → Prop} (hC : wo_Cx E "EdgeCacheModel" prog_14_method_12_code 10 2 48 ((Option.some Jvm.ClassFile.FieldType.int)) "header" mc ms p R s₀ m args meth cd) : ∀ {G : wo_W} {c s : Nat}, pq_Md_header_372 E mc ms Post G c s → ∀ {H : Heap} {locs : List Loc} {ls : Array Slot}, wo_Se E G H → va_S (en_A E) s₀.heap H locs → lx_has ls 10 [] → c ≤ mc → s ≤ ms → W p l e R s₀ m args below meth cd H locs c s (MQ below (va_Qi Post (wo_B E) (en_A E)) args s₀ mc ms (en_A E)) (F0 m 372 ls []) := by
  intro G c s hw H locs ls hG hS hl hcc hss
  dsimp only [pq_Md_header_372] at hw
  have hx := hC.1
  have hb := hC.2.1
  refine lv_iconst (v := (0 : Int32)) hx hb dq_Md_header_372 rfl ?_
  exact wo_iret hC hG hS hcc hss hw dq_Md_header_373
set_option maxRecDepth 100000 in
set_option maxHeartbeats 4000000 in
theorem tq_Md_header_341 {p : Program} {l : Launch} {e : Env} {R : Room} {s₀ : State} {m : MethodId} {args : Array Value} {below : List Frame} {meth : Method} {cd : Code} {E : wo_E} {mc ms : Nat} {Post : Int32 → wo_W → Prop} (hC : wo_Cx E "EdgeCacheModel" prog_14_method_12_code 10 2 48 ((Option.some Jvm.ClassFile.FieldType.int)) "header" mc ms p R s₀ m args meth cd) : ∀ {G : wo_W} {c s : Nat} {x0 : Nat} {x5 : Int64} {x7 : Int32} {y0 : Int32}, pq_Md_header_341 E mc ms Post G c s x0 x5 x7 y0 → ∀ {H : Heap} {locs : List Loc} {ls : Array Slot}, wo_Se E G H → va_S (en_A E) s₀.heap H locs → lx_has ls 10 [(0, 1, .ref x0), (5, 2, .long x5), (7, 1, .int x7)] → c ≤ mc → s ≤ ms → W p l e R s₀ m args below meth cd H locs c s (MQ below (va_Qi Post (wo_B E) (en_A E)) args s₀ mc ms (en_A E)) (F0 m 341 ls [.int y0]) := by
  intro G c s x0 x5 x7 y0 hw H locs ls hG hS hl hcc hss
  dsimp only [pq_Md_header_341] at hw
  have hx := hC.1
  have hb := hC.2.1
  refine lx_istore (lv' := [(8, 1, .int y0), (0, 1, .ref x0), (5, 2, .long x5), (7, 1, .int x7)]) hx hb dq_Md_header_341 hl (by decide) rfl (fun ls hl' => ?_)
  clear hl
  have hl := hl'
  clear hl'
  refine lv_iload hx hb dq_Md_header_343 (lx_at hl 0 rfl) ?_
  refine lv_if_lt (tgt := 372) hx hb dq_Md_header_345 rfl (fun h => ?_) (fun h => ?_)
  · replace hw := hw.1 h
    exact tq_Md_header_372 hC hw hG hS (lx_sub hl [] rfl) hcc hss
  · replace hw := hw.2 h
    refine lv_aload_n hx hb dq_Md_header_348 rfl (lx_at hl 1 rfl) ?_
    obtain ⟨t1, hw⟩ := hw
    refine wo_getR hC fq_Md_51 rfl hG t1 dq_Md_header_349 (fun r2 e3 => ?_)
    replace hw := hw r2 e3
    refine lv_bipush (v := (64 : Int32)) hx hb dq_Md_header_352 rfl ?_
    refine lv_iload hx hb dq_Md_header_354 (lx_at hl 0 rfl) ?_
    refine lv_iadd hx hb dq_Md_header_356 ?_
    refine lv_lload hx hb dq_Md_header_357 (lx_at hl 2 rfl) ?_
    obtain ⟨a4, rfl, hw⟩ := hw
    obtain ⟨t5, hw⟩ := hw
    obtain ⟨h6, hw⟩ := hw
    obtain ⟨h7, hw⟩ := hw
    refine wo_last (j := 9) hC rfl hG hS t5 h6 h7 dq_Md_header_359 (fun G8 H locs e9 hG hS => ?_)
    replace hw := hw G8 e9
    refine lv_aload_n hx hb dq_Md_header_360 rfl (lx_at hl 1 rfl) ?_
    refine wo_getR hC fq_Md_54 rfl hG (ty_sel e9 t1) dq_Md_header_361 (fun r10 e11 => ?_)
    replace hw := hw r10 e11
    refine lv_bipush (v := (64 : Int32)) hx hb dq_Md_header_364 rfl ?_
    refine lv_iload hx hb dq_Md_header_366 (lx_at hl 0 rfl) ?_
    refine lv_iadd hx hb dq_Md_header_368 ?_
    refine lv_iload hx hb dq_Md_header_369 (lx_at hl 3 rfl) ?_
    obtain ⟨a12, rfl, hw⟩ := hw
    obtain ⟨t13, hw⟩ := hw
    obtain ⟨h14, hw⟩ := hw
    obtain ⟨h15, hw⟩ := hw
    refine wo_iast (j := 2) hC rfl hG hS t13 h14 h15 dq_Md_header_371 (fun G16 H locs e17 hG hS => ?_)
    replace hw := hw G16 e17
    exact tq_Md_header_372 hC hw hG hS (lx_sub hl [] rfl) hcc hss
set_option maxRecDepth 100000 in
set_option maxHeartbeats 4000000 in
theorem tq_Md_header_249 {p : Program} {l : Launch} {e : Env} {R : Room} {s₀ : State} {m : MethodId} {args : Array Value} {below : List Frame} {meth : Method} {cd : Code} {E : wo_E} {mc ms : Nat} {Post : Int32 → wo_W → Prop} (hC : wo_Cx E "EdgeCacheModel" prog_14_method_12_code 10 2 48 ((Option.some Jvm.ClassFile.FieldType.int)) "header" mc ms p R s₀ m args meth cd) : ∀ {G : wo_W} {c s : Nat} {y0 : Int32}, pq_Md_header_249 E mc ms Post G c s y0 → ∀ {H : Heap} {locs : List Loc} {ls : Array Slot}, wo_Se E G H → va_S (en_A E) s₀.heap H locs → lx_has ls 10 [] → c ≤ mc → s ≤ ms → W p l e R s₀ m args below meth cd H locs c s (MQ below (va_Qi Post (wo_B E) (en_A E)) args s₀ mc ms (en_A E)) (F0 m 249 ls [.int y0]) := by
  intro G c s y0 hw H locs ls hG hS hl hcc hss
  dsimp only [pq_Md_header_249] at hw
  have hx := hC.1
  have hb := hC.2.1
  exact wo_iret hC hG hS hcc hss hw dq_Md_header_249
set_option maxRecDepth 100000 in
set_option maxHeartbeats 4000000 in
theorem tq_Md_header_246 {p : Program} {l : Launch} {e : Env} {R : Room} {s₀ : State} {m : MethodId} {args : Array Value} {below : List Frame} {meth : Method} {cd : Code} {E : wo_E} {mc ms : Nat} {Post : Int32 → wo_W → Prop} (hC : wo_Cx E "EdgeCacheModel" prog_14_method_12_code 10 2 48 ((Option.some Jvm.ClassFile.FieldType.int)) "header" mc ms p R s₀ m args meth cd) : ∀ {G : wo_W} {c s : Nat}, pq_Md_header_246 E mc ms Post G c s → ∀ {H : Heap} {locs : List Loc} {ls : Array Slot}, wo_Se E G H → va_S (en_A E) s₀.heap H locs → lx_has ls 10 [] → c ≤ mc → s ≤ ms → W p l e R s₀ m args below meth cd H locs c s (MQ below (va_Qi Post (wo_B E) (en_A E)) args s₀ mc ms (en_A E)) (F0 m 246 ls []) := by
  intro G c s hw H locs ls hG hS hl hcc hss
  dsimp only [pq_Md_header_246] at hw
  have hx := hC.1
  have hb := hC.2.1
  refine lv_sipush (v := (400 : Int32)) hx hb dq_Md_header_246 rfl ?_
  exact tq_Md_header_249 hC hw hG hS (lx_sub hl [] rfl) hcc hss
set_option maxRecDepth 100000 in
set_option maxHeartbeats 4000000 in
theorem tq_Md_header_215 {p : Program} {l : Launch} {e : Env} {R : Room} {s₀ : State} {m : MethodId} {args : Array Value} {below : List Frame} {meth : Method} {cd : Code} {E : wo_E} {mc ms : Nat} {Post : Int32 → wo_W → Prop} (hC : wo_Cx E "EdgeCacheModel" prog_14_method_12_code 10 2 48 ((Option.some Jvm.ClassFile.FieldType.int)) "header" mc ms p R s₀ m args meth cd) : ∀ {G : wo_W} {c s : Nat} {x0 : Nat} {x4 : Int32} {x5 : Int64} {x7 : Int32}, pq_Md_header_215 E mc ms Post G c s x0 x4 x5 x7 → ∀ {H : Heap} {locs : List Loc} {ls : Array Slot}, wo_Se E G H → va_S (en_A E) s₀.heap H locs → lx_has ls 10 [(0, 1, .ref x0), (4, 1, .int x4), (5, 2, .long x5), (7, 1, .int x7)] → c ≤ mc → s ≤ ms → W p l e R s₀ m args below meth cd H locs c s (MQ below (va_Qi Post (wo_B E) (en_A E)) args s₀ mc ms (en_A E)) (F0 m 215 ls []) := by
  intro G c s x0 x4 x5 x7 hw H locs ls hG hS hl hcc hss
  dsimp only [pq_Md_header_215] at hw
  have hx := hC.1
  have hb := hC.2.1
  refine lv_iload hx hb dq_Md_header_215 (lx_at hl 1 rfl) ?_
  refine lv_bipush (v := (84 : Int32)) hx hb dq_Md_header_217 rfl ?_
  refine lv_icmp_ne (tgt := 250) hx hb dq_Md_header_219 rfl (fun h => ?_) (fun h => ?_)
  · replace hw := hw.1 h
    refine lv_iload hx hb dq_Md_header_250 (lx_at hl 1 rfl) ?_
    refine lv_bipush (v := (77 : Int32)) hx hb dq_Md_header_252 rfl ?_
    refine lv_icmp_ne (tgt := 261) hx hb dq_Md_header_254 rfl (fun h => ?_) (fun h => ?_)
    · replace hw := hw.1 h
      refine lv_iload hx hb dq_Md_header_261 (lx_at hl 1 rfl) ?_
      refine lv_bipush (v := (78 : Int32)) hx hb dq_Md_header_263 rfl ?_
      refine lv_icmp_ne (tgt := 272) hx hb dq_Md_header_265 rfl (fun h => ?_) (fun h => ?_)
      · replace hw := hw.1 h
        refine lv_iload hx hb dq_Md_header_272 (lx_at hl 1 rfl) ?_
        refine lv_bipush (v := (82 : Int32)) hx hb dq_Md_header_274 rfl ?_
        refine lv_icmp_ne (tgt := 283) hx hb dq_Md_header_276 rfl (fun h => ?_) (fun h => ?_)
        · replace hw := hw.1 h
          refine lv_iload hx hb dq_Md_header_283 (lx_at hl 1 rfl) ?_
          refine lv_bipush (v := (73 : Int32)) hx hb dq_Md_header_285 rfl ?_
          refine lv_icmp_ne (tgt := 294) hx hb dq_Md_header_287 rfl (fun h => ?_) (fun h => ?_)
          · replace hw := hw.1 h
            refine lv_iload hx hb dq_Md_header_294 (lx_at hl 1 rfl) ?_
            refine lv_bipush (v := (67 : Int32)) hx hb dq_Md_header_296 rfl ?_
            refine lv_icmp_ne (tgt := 305) hx hb dq_Md_header_298 rfl (fun h => ?_) (fun h => ?_)
            · replace hw := hw.1 h
              refine lv_iload hx hb dq_Md_header_305 (lx_at hl 1 rfl) ?_
              refine lv_bipush (v := (86 : Int32)) hx hb dq_Md_header_307 rfl ?_
              refine lv_icmp_ne (tgt := 316) hx hb dq_Md_header_309 rfl (fun h => ?_) (fun h => ?_)
              · replace hw := hw.1 h
                refine lv_iload hx hb dq_Md_header_316 (lx_at hl 1 rfl) ?_
                refine lv_bipush (v := (75 : Int32)) hx hb dq_Md_header_318 rfl ?_
                refine lv_icmp_ne (tgt := 328) hx hb dq_Md_header_320 rfl (fun h => ?_) (fun h => ?_)
                · replace hw := hw.1 h
                  refine lv_iload hx hb dq_Md_header_328 (lx_at hl 1 rfl) ?_
                  refine lv_bipush (v := (80 : Int32)) hx hb dq_Md_header_330 rfl ?_
                  refine lv_icmp_ne (tgt := 340) hx hb dq_Md_header_332 rfl (fun h => ?_) (fun h => ?_)
                  · replace hw := hw.1 h
                    refine lv_iconst (v := (-1 : Int32)) hx hb dq_Md_header_340 rfl ?_
                    exact tq_Md_header_341 hC hw hG hS (lx_sub hl [0, 2, 3] rfl) hcc hss
                  · replace hw := hw.2 h
                    refine lv_bipush (v := (7 : Int32)) hx hb dq_Md_header_335 rfl ?_
                    refine lv_goto (tgt := 341) hx hb dq_Md_header_337 rfl ?_
                    exact tq_Md_header_341 hC hw hG hS (lx_sub hl [0, 2, 3] rfl) hcc hss
                · replace hw := hw.2 h
                  refine lv_bipush (v := (6 : Int32)) hx hb dq_Md_header_323 rfl ?_
                  refine lv_goto (tgt := 341) hx hb dq_Md_header_325 rfl ?_
                  exact tq_Md_header_341 hC hw hG hS (lx_sub hl [0, 2, 3] rfl) hcc hss
              · replace hw := hw.2 h
                refine lv_iconst (v := (5 : Int32)) hx hb dq_Md_header_312 rfl ?_
                refine lv_goto (tgt := 341) hx hb dq_Md_header_313 rfl ?_
                exact tq_Md_header_341 hC hw hG hS (lx_sub hl [0, 2, 3] rfl) hcc hss
            · replace hw := hw.2 h
              refine lv_iconst (v := (4 : Int32)) hx hb dq_Md_header_301 rfl ?_
              refine lv_goto (tgt := 341) hx hb dq_Md_header_302 rfl ?_
              exact tq_Md_header_341 hC hw hG hS (lx_sub hl [0, 2, 3] rfl) hcc hss
          · replace hw := hw.2 h
            refine lv_iconst (v := (3 : Int32)) hx hb dq_Md_header_290 rfl ?_
            refine lv_goto (tgt := 341) hx hb dq_Md_header_291 rfl ?_
            exact tq_Md_header_341 hC hw hG hS (lx_sub hl [0, 2, 3] rfl) hcc hss
        · replace hw := hw.2 h
          refine lv_iconst (v := (2 : Int32)) hx hb dq_Md_header_279 rfl ?_
          refine lv_goto (tgt := 341) hx hb dq_Md_header_280 rfl ?_
          exact tq_Md_header_341 hC hw hG hS (lx_sub hl [0, 2, 3] rfl) hcc hss
      · replace hw := hw.2 h
        refine lv_iconst (v := (1 : Int32)) hx hb dq_Md_header_268 rfl ?_
        refine lv_goto (tgt := 341) hx hb dq_Md_header_269 rfl ?_
        exact tq_Md_header_341 hC hw hG hS (lx_sub hl [0, 2, 3] rfl) hcc hss
    · replace hw := hw.2 h
      refine lv_iconst (v := (0 : Int32)) hx hb dq_Md_header_257 rfl ?_
      refine lv_goto (tgt := 341) hx hb dq_Md_header_258 rfl ?_
      exact tq_Md_header_341 hC hw hG hS (lx_sub hl [0, 2, 3] rfl) hcc hss
  · replace hw := hw.2 h
    refine lv_aload_n hx hb dq_Md_header_222 rfl (lx_at hl 0 rfl) ?_
    refine lv_iconst (v := (1 : Int32)) hx hb dq_Md_header_223 rfl ?_
    obtain ⟨t1, hw⟩ := hw
    obtain ⟨h2, hw⟩ := hw
    obtain ⟨h3, hw⟩ := hw
    refine wo_putI hC fq_Md_212 (Or.inl rfl) rfl h3 hG hS t1 h2 dq_Md_header_224 (fun G4 H locs e5 hG hS => ?_)
    replace hw := hw G4 e5
    refine lv_iload hx hb dq_Md_header_227 (lx_at hl 3 rfl) ?_
    refine lv_iconst (v := (1 : Int32)) hx hb dq_Md_header_229 rfl ?_
    refine lv_icmp_ne (tgt := 246) hx hb dq_Md_header_230 rfl (fun h => ?_) (fun h => ?_)
    · replace hw := hw.1 h
      exact tq_Md_header_246 hC hw hG hS (lx_sub hl [] rfl) hcc hss
    · replace hw := hw.2 h
      refine lv_lload hx hb dq_Md_header_233 (lx_at hl 2 rfl) ?_
      refine lv_ldc2 hx hb hC.2.2.2.2.2.1 (hC.2.2.2.2.2.2.1 _ cq_Md_252) dq_Md_header_235 ?_
      refine W.lcmp hx hb dq_Md_header_238 ?_
      refine lv_if_ne (tgt := 246) hx hb dq_Md_header_239 rfl (fun h => ?_) (fun h => ?_)
      · replace hw := hw.1 h
        exact tq_Md_header_246 hC hw hG hS (lx_sub hl [] rfl) hcc hss
      · replace hw := hw.2 h
        refine lv_iconst (v := (0 : Int32)) hx hb dq_Md_header_242 rfl ?_
        refine lv_goto (tgt := 249) hx hb dq_Md_header_243 rfl ?_
        exact tq_Md_header_249 hC hw hG hS (lx_sub hl [] rfl) hcc hss
set_option maxRecDepth 100000 in
set_option maxHeartbeats 4000000 in
theorem tq_Md_header_205 {p : Program} {l : Launch} {e : Env} {R : Room} {s₀ : State} {m : MethodId} {args : Array Value} {below : List Frame} {meth : Method} {cd : Code} {E : wo_E} {mc ms : Nat} {Post : Int32 → wo_W → Prop} (hC : wo_Cx E "EdgeCacheModel" prog_14_method_12_code 10 2 48 ((Option.some Jvm.ClassFile.FieldType.int)) "header" mc ms p R s₀ m args meth cd) : ∀ {G : wo_W} {c s : Nat}, pq_Md_header_205 E mc ms Post G c s → ∀ {H : Heap} {locs : List Loc} {ls : Array Slot}, wo_Se E G H → va_S (en_A E) s₀.heap H locs → lx_has ls 10 [] → c ≤ mc → s ≤ ms → W p l e R s₀ m args below meth cd H locs c s (MQ below (va_Qi Post (wo_B E) (en_A E)) args s₀ mc ms (en_A E)) (F0 m 205 ls []) := by
  intro G c s hw H locs ls hG hS hl hcc hss
  dsimp only [pq_Md_header_205] at hw
  have hx := hC.1
  have hb := hC.2.1
  refine lv_sipush (v := (400 : Int32)) hx hb dq_Md_header_205 rfl ?_
  exact wo_iret hC hG hS hcc hss hw dq_Md_header_208
set_option maxRecDepth 100000 in
set_option maxHeartbeats 4000000 in
theorem tq_Md_header_209 {p : Program} {l : Launch} {e : Env} {R : Room} {s₀ : State} {m : MethodId} {args : Array Value} {below : List Frame} {meth : Method} {cd : Code} {E : wo_E} {mc ms : Nat} {Post : Int32 → wo_W → Prop} (hC : wo_Cx E "EdgeCacheModel" prog_14_method_12_code 10 2 48 ((Option.some Jvm.ClassFile.FieldType.int)) "header" mc ms p R s₀ m args meth cd) : ∀ {G : wo_W} {c s : Nat} {x0 : Nat} {x4 : Int32} {x5 : Int64} {x7 : Int32} {x8 : Int32}, pq_Md_header_209 E mc ms Post G c s x0 x4 x5 x7 x8 → ∀ {H : Heap} {locs : List Loc} {ls : Array Slot}, wo_Se E G H → va_S (en_A E) s₀.heap H locs → lx_has ls 10 [(0, 1, .ref x0), (4, 1, .int x4), (5, 2, .long x5), (7, 1, .int x7), (8, 1, .int x8)] → c ≤ mc → s ≤ ms → W p l e R s₀ m args below meth cd H locs c s (MQ below (va_Qi Post (wo_B E) (en_A E)) args s₀ mc ms (en_A E)) (F0 m 209 ls []) := by
  intro G c s x0 x4 x5 x7 x8 hw H locs ls hG hS hl hcc hss
  dsimp only [pq_Md_header_209] at hw
  have hx := hC.1
  have hb := hC.2.1
  refine lv_aload_n hx hb dq_Md_header_209 rfl (lx_at hl 0 rfl) ?_
  refine lv_iload hx hb dq_Md_header_210 (lx_at hl 4 rfl) ?_
  obtain ⟨t1, hw⟩ := hw
  obtain ⟨h2, hw⟩ := hw
  refine wo_putI hC fq_Md_209 (Or.inl rfl) rfl (wo_ok_int _) hG hS t1 h2 dq_Md_header_212 (fun G3 H locs e4 hG hS => ?_)
  replace hw := hw G3 e4
  exact tq_Md_header_215 hC hw hG hS (lx_sub hl [0, 1, 2, 3] rfl) hcc hss
set_option maxRecDepth 100000 in
set_option maxHeartbeats 4000000 in
theorem tq_Md_header_182 {p : Program} {l : Launch} {e : Env} {R : Room} {s₀ : State} {m : MethodId} {args : Array Value} {below : List Frame} {meth : Method} {cd : Code} {E : wo_E} {mc ms : Nat} {Post : Int32 → wo_W → Prop} (hC : wo_Cx E "EdgeCacheModel" prog_14_method_12_code 10 2 48 ((Option.some Jvm.ClassFile.FieldType.int)) "header" mc ms p R s₀ m args meth cd) : ∀ {G : wo_W} {c s : Nat} {x0 : Nat} {x4 : Int32} {x5 : Int64} {x7 : Int32} {y0 : Int32}, pq_Md_header_182 E mc ms Post G c s x0 x4 x5 x7 y0 → ∀ {H : Heap} {locs : List Loc} {ls : Array Slot}, wo_Se E G H → va_S (en_A E) s₀.heap H locs → lx_has ls 10 [(0, 1, .ref x0), (4, 1, .int x4), (5, 2, .long x5), (7, 1, .int x7)] → c ≤ mc → s ≤ ms → W p l e R s₀ m args below meth cd H locs c s (MQ below (va_Qi Post (wo_B E) (en_A E)) args s₀ mc ms (en_A E)) (F0 m 182 ls [.int y0]) := by
  intro G c s x0 x4 x5 x7 y0 hw H locs ls hG hS hl hcc hss
  dsimp only [pq_Md_header_182] at hw
  have hx := hC.1
  have hb := hC.2.1
  refine lx_istore (lv' := [(8, 1, .int y0), (0, 1, .ref x0), (4, 1, .int x4), (5, 2, .long x5), (7, 1, .int x7)]) hx hb dq_Md_header_182 hl (by decide) rfl (fun ls hl' => ?_)
  clear hl
  have hl := hl'
  clear hl'
  refine lv_iload hx hb dq_Md_header_184 (lx_at hl 0 rfl) ?_
  refine lv_if_lt (tgt := 205) hx hb dq_Md_header_186 rfl (fun h => ?_) (fun h => ?_)
  · replace hw := hw.1 h
    exact tq_Md_header_205 hC hw hG hS (lx_sub hl [] rfl) hcc hss
  · replace hw := hw.2 h
    refine lv_aload_n hx hb dq_Md_header_189 rfl (lx_at hl 1 rfl) ?_
    obtain ⟨t1, hw⟩ := hw
    refine wo_getI hC fq_Md_209 rfl hG t1 dq_Md_header_190 ?_
    refine lv_if_lt (tgt := 209) hx hb dq_Md_header_193 rfl (fun h => ?_) (fun h => ?_)
    · replace hw := hw.1 h
      exact tq_Md_header_209 hC hw hG hS (lx_sub hl [1, 2, 3, 4, 0] rfl) hcc hss
    · replace hw := hw.2 h
      refine lv_aload_n hx hb dq_Md_header_196 rfl (lx_at hl 1 rfl) ?_
      refine wo_getI hC fq_Md_209 rfl hG t1 dq_Md_header_197 ?_
      refine lv_iload hx hb dq_Md_header_200 (lx_at hl 0 rfl) ?_
      refine lv_icmp_eq (tgt := 209) hx hb dq_Md_header_202 rfl (fun h => ?_) (fun h => ?_)
      · replace hw := hw.1 h
        exact tq_Md_header_209 hC hw hG hS (lx_sub hl [1, 2, 3, 4, 0] rfl) hcc hss
      · replace hw := hw.2 h
        exact tq_Md_header_205 hC hw hG hS (lx_sub hl [] rfl) hcc hss
set_option maxRecDepth 100000 in
set_option maxHeartbeats 4000000 in
theorem tq_Md_header_111 {p : Program} {l : Launch} {e : Env} {R : Room} {s₀ : State} {m : MethodId} {args : Array Value} {below : List Frame} {meth : Method} {cd : Code} {E : wo_E} {mc ms : Nat} {Post : Int32 → wo_W → Prop} (hC : wo_Cx E "EdgeCacheModel" prog_14_method_12_code 10 2 48 ((Option.some Jvm.ClassFile.FieldType.int)) "header" mc ms p R s₀ m args meth cd) : ∀ {G : wo_W} {c s : Nat}, pq_Md_header_111 E mc ms Post G c s → ∀ {H : Heap} {locs : List Loc} {ls : Array Slot}, wo_Se E G H → va_S (en_A E) s₀.heap H locs → lx_has ls 10 [] → c ≤ mc → s ≤ ms → W p l e R s₀ m args below meth cd H locs c s (MQ below (va_Qi Post (wo_B E) (en_A E)) args s₀ mc ms (en_A E)) (F0 m 111 ls []) := by
  intro G c s hw H locs ls hG hS hl hcc hss
  dsimp only [pq_Md_header_111] at hw
  have hx := hC.1
  have hb := hC.2.1
  refine lv_sipush (v := (400 : Int32)) hx hb dq_Md_header_111 rfl ?_
  exact wo_iret hC hG hS hcc hss hw dq_Md_header_114
set_option maxRecDepth 100000 in
set_option maxHeartbeats 4000000 in
theorem tq_Md_header_137 {p : Program} {l : Launch} {e : Env} {R : Room} {s₀ : State} {m : MethodId} {args : Array Value} {below : List Frame} {meth : Method} {cd : Code} {E : wo_E} {mc ms : Nat} {Post : Int32 → wo_W → Prop} {k71 : wo_W → Nat → Nat → Nat → Int32 → Int32 → Int32 → Int64 → Int32 → Int32 → Prop} (hC : wo_Cx E "EdgeCacheModel" prog_14_method_12_code 10 2 48 ((Option.some Jvm.ClassFile.FieldType.int)) "header" mc ms p R s₀ m args meth cd) (hk71 : ∀ {G : wo_W} {c s : Nat} {x0 : Nat} {x1 : Int32} {x2 : Int32} {x4 : Int32} {x5 : Int64} {x7 : Int32} {x8 : Int32}, k71 G c s x0 x1 x2 x4 x5 x7 x8 → ∀ {H : Heap} {locs : List Loc} {ls : Array Slot}, wo_Se E G H → va_S (en_A E) s₀.heap H locs → lx_has ls 10 [(0, 1, .ref x0), (1, 1, .int x1), (2, 1, .int x2), (4, 1, .int x4), (5, 2, .long x5), (7, 1, .int x7), (8, 1, .int x8)] → c ≤ mc → s ≤ ms → W p l e R s₀ m args below meth cd H locs c s (MQ below (va_Qi Post (wo_B E) (en_A E)) args s₀ mc ms (en_A E)) (F0 m 71 ls [])) : ∀ {G : wo_W} {c s : Nat} {x0 : Nat} {x1 : Int32} {x2 : Int32} {x4 : Int32} {x7 : Int32} {x8 : Int32} {y0 : Int64} {y1 : Int64}, pq_Md_header_137 E mc ms Post k71 G c s x0 x1 x2 x4 x7 x8 y0 y1 → ∀ {H : Heap} {locs : List Loc} {ls : Array Slot}, wo_Se E G H → va_S (en_A E) s₀.heap H locs → lx_has ls 10 [(0, 1, .ref x0), (1, 1, .int x1), (2, 1, .int x2), (4, 1, .int x4), (7, 1, .int x7), (8, 1, .int x8)] → c ≤ mc → s ≤ ms → W p l e R s₀ m args below meth cd H locs c s (MQ below (va_Qi Post (wo_B E) (en_A E)) args s₀ mc ms (en_A E)) (F0 m 137 ls [.long y1, .long y0]) := by
  intro G c s x0 x1 x2 x4 x7 x8 y0 y1 hw H locs ls hG hS hl hcc hss
  dsimp only [pq_Md_header_137] at hw
  have hx := hC.1
  have hb := hC.2.1
  refine lv_lor hx hb dq_Md_header_137 ?_
  refine lx_lstore (lv' := [(5, 2, .long (y0 ||| y1)), (0, 1, .ref x0), (1, 1, .int x1), (2, 1, .int x2), (4, 1, .int x4), (7, 1, .int x7), (8, 1, .int x8)]) hx hb dq_Md_header_138 hl (by decide) rfl (fun ls hl' => ?_)
  clear hl
  have hl := hl'
  clear hl'
  refine lx_iinc (k := 6) (v := (x8 + (1 : Int32))) (lv' := [(8, 1, .int (x8 + (1 : Int32))), (5, 2, .long (y0 ||| y1)), (0, 1, .ref x0), (1, 1, .int x1), (2, 1, .int x2), (4, 1, .int x4), (7, 1, .int x7)]) hx hb dq_Md_header_140 hl rfl rfl (by decide) rfl (fun ls hl' => ?_)
  clear hl
  have hl := hl'
  clear hl'
  refine lv_goto (tgt := 71) hx hb dq_Md_header_143 rfl ?_
  exact hk71 hw hG hS (lx_sub hl [2, 3, 4, 5, 1, 6, 0] rfl) hcc hss
set_option maxRecDepth 100000 in
set_option maxHeartbeats 4000000 in
theorem tq_Md_header_71 {p : Program} {l : Launch} {e : Env} {R : Room} {s₀ : State} {m : MethodId} {args : Array Value} {below : List Frame} {meth : Method} {cd : Code} {E : wo_E} {mc ms : Nat} {Post : Int32 → wo_W → Prop} (hC : wo_Cx E "EdgeCacheModel" prog_14_method_12_code 10 2 48 ((Option.some Jvm.ClassFile.FieldType.int)) "header" mc ms p R s₀ m args meth cd) : ∀ n : Nat, ∀ {G : wo_W} {c s : Nat} {x0 : Nat} {x1 : Int32} {x2 : Int32} {x4 : Int32} {x5 : Int64} {x7 : Int32} {x8 : Int32}, pq_Md_header_71 E mc ms Post n G c s x0 x1 x2 x4 x5 x7 x8 → ∀ {H : Heap} {locs : List Loc} {ls : Array Slot}, wo_Se E G H → va_S (en_A E) s₀.heap H locs → lx_has ls 10 [(0, 1, .ref x0), (1, 1, .int x1), (2, 1, .int x2), (4, 1, .int x4), (5, 2, .long x5), (7, 1, .int x7), (8, 1, .int x8)] → c ≤ mc → s ≤ ms → W p l e R s₀ m args below meth cd H locs c s (MQ below (va_Qi Post (wo_B E) (en_A E)) args s₀ mc ms (en_A E)) (F0 m 71 ls []) := by
  intro n
  induction n with
  | zero => intro G c s x0 x1 x2 x4 x5 x7 x8 hw; exact hw.elim
  | succ n ih =>
    intro G c s x0 x1 x2 x4 x5 x7 x8 hw H locs ls hG hS hl hcc hss
    dsimp only [pq_Md_header_71] at hw
    have hx := hC.1
    have hb := hC.2.1
    refine lv_iload hx hb dq_Md_header_71 (lx_at hl 6 rfl) ?_
    refine lv_iload hx hb dq_Md_header_73 (lx_at hl 5 rfl) ?_
    refine lv_icmp_ge (tgt := 146) hx hb dq_Md_header_75 rfl (fun h => ?_) (fun h => ?_)
    · replace hw := hw.1 h
      refine lv_iload hx hb dq_Md_header_146 (lx_at hl 5 rfl) ?_
      refine lv_bipush (v := (8 : Int32)) hx hb dq_Md_header_148 rfl ?_
      refine lv_icmp_le (tgt := 157) hx hb dq_Md_header_150 rfl (fun h => ?_) (fun h => ?_)
      · replace hw := hw.1 h
        refine lv_iload hx hb dq_Md_header_157 (lx_at hl 3 rfl) ?_
        refine lv_bipush (v := (76 : Int32)) hx hb dq_Md_header_159 rfl ?_
        refine lv_icmp_ne (tgt := 215) hx hb dq_Md_header_161 rfl (fun h => ?_) (fun h => ?_)
        · replace hw := hw.1 h
          exact tq_Md_header_215 hC hw hG hS (lx_sub hl [0, 3, 4, 5] rfl) hcc hss
        · replace hw := hw.2 h
          refine lv_iload hx hb dq_Md_header_164 (lx_at hl 5 rfl) ?_
          refine lv_iconst (v := (2 : Int32)) hx hb dq_Md_header_166 rfl ?_
          refine lv_icmp_le (tgt := 174) hx hb dq_Md_header_167 rfl (fun h => ?_) (fun h => ?_)
          · replace hw := hw.1 h
            refine lv_lload hx hb dq_Md_header_174 (lx_at hl 4 rfl) ?_
            refine lv_iconst (v := (0 : Int32)) hx hb dq_Md_header_176 rfl ?_
            refine lv_iload hx hb dq_Md_header_177 (lx_at hl 5 rfl) ?_
            obtain ⟨mc1, ms2, hc1, hs1, hw⟩ := hw
            refine va_calli (wo_runS hC lq_Md_248 (mq_Md_digits hw) hG hS rfl (lx_sz hl) rfl (Nat.zero_le _) (by decide) dq_Md_header_179 ⟨hc1, hs1⟩) hS (fun _ _ h => h) (fun _ h => h) (fun v4 G3 t H locs ht hvm hw' hB _ _ hS => ?_)
            clear hw
            have hw := hw'
            clear hw'
            replace hG := wo_bk ht hB
            replace hcc := hc1
            replace hss := hs1
            exact tq_Md_header_182 hC hw hG hS (lx_sub hl [0, 3, 4, 5] rfl) hcc hss
          · replace hw := hw.2 h
            refine lv_iconst (v := (-1 : Int32)) hx hb dq_Md_header_170 rfl ?_
            refine lv_goto (tgt := 182) hx hb dq_Md_header_171 rfl ?_
            exact tq_Md_header_182 hC hw hG hS (lx_sub hl [0, 3, 4, 5] rfl) hcc hss
      · replace hw := hw.2 h
        refine lv_sipush (v := (431 : Int32)) hx hb dq_Md_header_153 rfl ?_
        exact wo_iret hC hG hS hcc hss hw dq_Md_header_156
    · replace hw := hw.2 h
      refine lv_aload_n hx hb dq_Md_header_78 rfl (lx_at hl 0 rfl) ?_
      obtain ⟨t5, hw⟩ := hw
      refine wo_getR hC fq_Md_7 rfl hG t5 dq_Md_header_79 (fun r6 e7 => ?_)
      replace hw := hw r6 e7
      refine lv_sipush (v := (4200 : Int32)) hx hb dq_Md_header_82 rfl ?_
      refine lv_iload_n hx hb dq_Md_header_85 rfl (lx_at hl 1 rfl) ?_
      refine lv_imul hx hb dq_Md_header_86 ?_
      refine lv_iload_n hx hb dq_Md_header_87 rfl (lx_at hl 2 rfl) ?_
      refine lv_iadd hx hb dq_Md_header_88 ?_
      refine lv_iconst (v := (2 : Int32)) hx hb dq_Md_header_89 rfl ?_
      refine lv_iadd hx hb dq_Md_header_90 ?_
      refine lv_iload hx hb dq_Md_header_91 (lx_at hl 6 rfl) ?_
      refine lv_iadd hx hb dq_Md_header_93 ?_
      obtain ⟨a8, rfl, hw⟩ := hw
      obtain ⟨t9, hw⟩ := hw
      obtain ⟨h10, hw⟩ := hw
      refine wo_iald (j := 2) hC rfl hG t9 h10 dq_Md_header_94 ?_
      refine lx_istore (lv' := [(9, 1, .int (wo_ei G a8 (((((4200 : Int32) * x1) + x2) + (2 : Int32)) + x8).toNatClampNeg)), (0, 1, .ref x0), (1, 1, .int x1), (2, 1, .int x2), (4, 1, .int x4), (5, 2, .long x5), (7, 1, .int x7), (8, 1, .int x8)]) hx hb dq_Md_header_95 hl (by decide) rfl (fun ls hl' => ?_)
      clear hl
      have hl := hl'
      clear hl'
      refine lv_iload hx hb dq_Md_header_97 (lx_at hl 0 rfl) ?_
      refine lv_bipush (v := (32 : Int32)) hx hb dq_Md_header_99 rfl ?_
      refine lv_icmp_lt (tgt := 111) hx hb dq_Md_header_101 rfl (fun h => ?_) (fun h => ?_)
      · replace hw := hw.1 h
        exact tq_Md_header_111 hC hw hG hS (lx_sub hl [] rfl) hcc hss
      · replace hw := hw.2 h
        refine lv_iload hx hb dq_Md_header_104 (lx_at hl 0 rfl) ?_
        refine lv_bipush (v := (126 : Int32)) hx hb dq_Md_header_106 rfl ?_
        refine lv_icmp_le (tgt := 115) hx hb dq_Md_header_108 rfl (fun h => ?_) (fun h => ?_)
        · replace hw := hw.1 h
          refine lv_lload hx hb dq_Md_header_115 (lx_at hl 5 rfl) ?_
          refine lv_iload hx hb dq_Md_header_117 (lx_at hl 7 rfl) ?_
          refine lv_bipush (v := (8 : Int32)) hx hb dq_Md_header_119 rfl ?_
          refine lv_icmp_ge (tgt := 136) hx hb dq_Md_header_121 rfl (fun h => ?_) (fun h => ?_)
          · replace hw := hw.1 h
            refine lv_lconst (v := (0 : Int64)) hx hb dq_Md_header_136 rfl ?_
            exact tq_Md_header_137 hC ih hw hG hS (lx_sub hl [1, 2, 3, 4, 6, 7] rfl) hcc hss
          · replace hw := hw.2 h
            refine lv_iload hx hb dq_Md_header_124 (lx_at hl 0 rfl) ?_
            refine lv_i2l (v := (wo_ei G a8 (((((4200 : Int32) * x1) + x2) + (2 : Int32)) + x8).toNatClampNeg).toInt64) hx hb dq_Md_header_126 rfl ?_
            refine lv_bipush (v := (8 : Int32)) hx hb dq_Md_header_127 rfl ?_
            refine lv_iload hx hb dq_Md_header_129 (lx_at hl 7 rfl) ?_
            refine lv_imul hx hb dq_Md_header_131 ?_
            refine lv_lshl hx hb dq_Md_header_132 rfl ?_
            refine lv_goto (tgt := 137) hx hb dq_Md_header_133 rfl ?_
            exact tq_Md_header_137 hC ih hw hG hS (lx_sub hl [1, 2, 3, 4, 6, 7] rfl) hcc hss
        · replace hw := hw.2 h
          exact tq_Md_header_111 hC hw hG hS (lx_sub hl [] rfl) hcc hss
set_option maxRecDepth 100000 in
set_option maxHeartbeats 4000000 in
theorem tq_Md_header_0 {p : Program} {l : Launch} {e : Env} {R : Room} {s₀ : State} {m : MethodId} {args : Array Value} {below : List Frame} {meth : Method} {cd : Code} {E : wo_E} {mc ms : Nat} {Post : Int32 → wo_W → Prop} (hC : wo_Cx E "EdgeCacheModel" prog_14_method_12_code 10 2 48 ((Option.some Jvm.ClassFile.FieldType.int)) "header" mc ms p R s₀ m args meth cd) : ∀ {G : wo_W} {c s : Nat} {x0 : Nat} {x1 : Int32} {x2 : Int32} {x3 : Int32}, pq_Md_header_0 E mc ms Post G c s x0 x1 x2 x3 → ∀ {H : Heap} {locs : List Loc} {ls : Array Slot}, wo_Se E G H → va_S (en_A E) s₀.heap H locs → lx_has ls 10 [(0, 1, .ref x0), (1, 1, .int x1), (2, 1, .int x2), (3, 1, .int x3)] → c ≤ mc → s ≤ ms → W p l e R s₀ m args below meth cd H locs c s (MQ below (va_Qi Post (wo_B E) (en_A E)) args s₀ mc ms (en_A E)) (F0 m 0 ls []) := by
  intro G c s x0 x1 x2 x3 hw H locs ls hG hS hl hcc hss
  dsimp only [pq_Md_header_0] at hw
  have hx := hC.1
  have hb := hC.2.1
  refine lv_aload_n hx hb dq_Md_header_0 rfl (lx_at hl 0 rfl) ?_
  obtain ⟨t1, hw⟩ := hw
  refine wo_getR hC fq_Md_7 rfl hG t1 dq_Md_header_1 (fun r2 e3 => ?_)
  replace hw := hw r2 e3
  refine lv_sipush (v := (4200 : Int32)) hx hb dq_Md_header_4 rfl ?_
  refine lv_iload_n hx hb dq_Md_header_7 rfl (lx_at hl 1 rfl) ?_
  refine lv_imul hx hb dq_Md_header_8 ?_
  refine lv_iload_n hx hb dq_Md_header_9 rfl (lx_at hl 2 rfl) ?_
  refine lv_iadd hx hb dq_Md_header_10 ?_
  obtain ⟨a4, rfl, hw⟩ := hw
  obtain ⟨t5, hw⟩ := hw
  obtain ⟨h6, hw⟩ := hw
  refine wo_iald (j := 2) hC rfl hG t5 h6 dq_Md_header_11 ?_
  refine lx_istore (lv' := [(4, 1, .int (wo_ei G a4 (((4200 : Int32) * x1) + x2).toNatClampNeg)), (0, 1, .ref x0), (1, 1, .int x1), (2, 1, .int x2), (3, 1, .int x3)]) hx hb dq_Md_header_12 hl (by decide) rfl (fun ls hl' => ?_)
  clear hl
  have hl := hl'
  clear hl'
  refine lv_iload_n hx hb dq_Md_header_14 rfl (lx_at hl 4 rfl) ?_
  refine lv_iload_n hx hb dq_Md_header_15 rfl (lx_at hl 3 rfl) ?_
  refine lv_isub hx hb dq_Md_header_16 ?_
  refine lv_iconst (v := (2 : Int32)) hx hb dq_Md_header_17 rfl ?_
  refine lv_icmp_lt (tgt := 54) hx hb dq_Md_header_18 rfl (fun h => ?_) (fun h => ?_)
  · replace hw := hw.1 h
    exact tq_Md_header_54 hC hw hG hS (lx_sub hl [] rfl) hcc hss
  · replace hw := hw.2 h
    refine lv_iload hx hb dq_Md_header_21 (lx_at hl 0 rfl) ?_
    refine lv_bipush (v := (65 : Int32)) hx hb dq_Md_header_23 rfl ?_
    refine lv_icmp_lt (tgt := 54) hx hb dq_Md_header_25 rfl (fun h => ?_) (fun h => ?_)
    · replace hw := hw.1 h
      exact tq_Md_header_54 hC hw hG hS (lx_sub hl [] rfl) hcc hss
    · replace hw := hw.2 h
      refine lv_iload hx hb dq_Md_header_28 (lx_at hl 0 rfl) ?_
      refine lv_bipush (v := (90 : Int32)) hx hb dq_Md_header_30 rfl ?_
      refine lv_icmp_gt (tgt := 54) hx hb dq_Md_header_32 rfl (fun h => ?_) (fun h => ?_)
      · replace hw := hw.1 h
        exact tq_Md_header_54 hC hw hG hS (lx_sub hl [] rfl) hcc hss
      · replace hw := hw.2 h
        refine lv_aload_n hx hb dq_Md_header_35 rfl (lx_at hl 1 rfl) ?_
        refine wo_getR hC fq_Md_7 rfl hG t1 dq_Md_header_36 (fun r7 e8 => ?_)
        replace hw := hw r7 e8
        refine lv_sipush (v := (4200 : Int32)) hx hb dq_Md_header_39 rfl ?_
        refine lv_iload_n hx hb dq_Md_header_42 rfl (lx_at hl 2 rfl) ?_
        refine lv_imul hx hb dq_Md_header_43 ?_
        refine lv_iload_n hx hb dq_Md_header_44 rfl (lx_at hl 3 rfl) ?_
        refine lv_iadd hx hb dq_Md_header_45 ?_
        refine lv_iconst (v := (1 : Int32)) hx hb dq_Md_header_46 rfl ?_
        refine lv_iadd hx hb dq_Md_header_47 ?_
        obtain ⟨a9, rfl, hw⟩ := hw
        obtain ⟨t10, hw⟩ := hw
        obtain ⟨h11, hw⟩ := hw
        refine wo_iald (j := 2) hC rfl hG t10 h11 dq_Md_header_48 ?_
        refine lv_bipush (v := (58 : Int32)) hx hb dq_Md_header_49 rfl ?_
        refine lv_icmp_eq (tgt := 58) hx hb dq_Md_header_51 rfl (fun h => ?_) (fun h => ?_)
        · replace hw := hw.1 h
          refine lv_lconst (v := (0 : Int64)) hx hb dq_Md_header_58 rfl ?_
          refine lx_lstore (lv' := [(5, 2, .long (0 : Int64)), (4, 1, .int (wo_ei G a4 (((4200 : Int32) * x1) + x2).toNatClampNeg)), (0, 1, .ref x0), (1, 1, .int x1), (2, 1, .int x2), (3, 1, .int x3)]) hx hb dq_Md_header_59 hl (by decide) rfl (fun ls hl' => ?_)
          clear hl
          have hl := hl'
          clear hl'
          refine lv_iload_n hx hb dq_Md_header_61 rfl (lx_at hl 5 rfl) ?_
          refine lv_iload_n hx hb dq_Md_header_62 rfl (lx_at hl 4 rfl) ?_
          refine lv_isub hx hb dq_Md_header_63 ?_
          refine lv_iconst (v := (2 : Int32)) hx hb dq_Md_header_64 rfl ?_
          refine lv_isub hx hb dq_Md_header_65 ?_
          refine lx_istore (lv' := [(7, 1, .int ((x3 - x2) - (2 : Int32))), (5, 2, .long (0 : Int64)), (4, 1, .int (wo_ei G a4 (((4200 : Int32) * x1) + x2).toNatClampNeg)), (0, 1, .ref x0), (1, 1, .int x1), (2, 1, .int x2), (3, 1, .int x3)]) hx hb dq_Md_header_66 hl (by decide) rfl (fun ls hl' => ?_)
          clear hl
          have hl := hl'
          clear hl'
          refine lv_iconst (v := (0 : Int32)) hx hb dq_Md_header_68 rfl ?_
          refine lx_istore (lv' := [(8, 1, .int (0 : Int32)), (7, 1, .int ((x3 - x2) - (2 : Int32))), (5, 2, .long (0 : Int64)), (4, 1, .int (wo_ei G a4 (((4200 : Int32) * x1) + x2).toNatClampNeg)), (0, 1, .ref x0), (1, 1, .int x1), (2, 1, .int x2), (3, 1, .int x3)]) hx hb dq_Md_header_69 hl (by decide) rfl (fun ls hl' => ?_)
          clear hl
          have hl := hl'
          clear hl'
          obtain ⟨n1, hw⟩ := hw
          exact tq_Md_header_71 hC n1 hw hG hS (lx_sub hl [4, 5, 6, 3, 2, 1, 0] rfl) hcc hss
        · replace hw := hw.2 h
          exact tq_Md_header_54 hC hw hG hS (lx_sub hl [] rfl) hcc hss
set_option maxHeartbeats 4000000 in
theorem mq_Md_header {l : Launch} {E : wo_E} {mc ms : Nat} {Post : Int32 → wo_W → Prop} {G : wo_W} {x0 : Nat} {x1 : Int32} {x2 : Int32} {x3 : Int32} (hw : pq_Md_header E mc ms Post G x0 x1 x2 x3) : Met l yq_Md_header (Cond.code yq_Md_header prog_14_method_12_code 10 ((Option.some Jvm.ClassFile.FieldType.int)) :: vw_WG) { frames := 2, cells := mc, slots := ms, locals := 48 } (va_Pc [.ref x0, .int x1, .int x2, .int x3] (wo_Ok E G)) (va_Qi Post (wo_B E) (en_A E)) mc ms (en_A E) := by
  unfold pq_Md_header at hw
  exact wo_met [(1, .ref x0), (1, .int x1), (1, .int x2), (1, .int x3)] rfl (by decide) (fun q hq => by simp only [List.mem_cons, List.not_mem_nil, or_false] at hq; rcases hq with rfl | rfl | rfl | rfl <;> first | rfl | exact lx_cR _) (Nat.le_of_ble_eq_true rfl) (fun p e R s m args below meth cd ls hC hG hS hl => tq_Md_header_0 hC hw hG hS (lx_sub hl [0, 1, 2, 3] rfl) (Nat.zero_le _) (Nat.zero_le _))

theorem dq_Md_plainBody_0 : decode prog_14_method_13_code 0 = .ok (.aload_n 0, 1) := by decide +kernel
theorem dq_Md_plainBody_1 : decode prog_14_method_13_code 1 = .ok (.getfield 209, 3) := by decide +kernel
theorem dq_Md_plainBody_4 : decode prog_14_method_13_code 4 = .ok (.ifCond .ge 7, 3) := by decide +kernel
theorem dq_Md_plainBody_7 : decode prog_14_method_13_code 7 = .ok (.iconst 0, 1) := by decide +kernel
theorem dq_Md_plainBody_8 : decode prog_14_method_13_code 8 = .ok (.goto 7, 3) := by decide +kernel
theorem dq_Md_plainBody_11 : decode prog_14_method_13_code 11 = .ok (.aload_n 0, 1) := by decide +kernel
theorem dq_Md_plainBody_12 : decode prog_14_method_13_code 12 = .ok (.getfield 209, 3) := by decide +kernel
theorem dq_Md_plainBody_15 : decode prog_14_method_13_code 15 = .ok (.istore_n 3, 1) := by decide +kernel
theorem dq_Md_plainBody_16 : decode prog_14_method_13_code 16 = .ok (.aload_n 0, 1) := by decide +kernel
theorem dq_Md_plainBody_17 : decode prog_14_method_13_code 17 = .ok (.getfield 13, 3) := by decide +kernel
theorem dq_Md_plainBody_20 : decode prog_14_method_13_code 20 = .ok (.iload_n 1, 1) := by decide +kernel
theorem dq_Md_plainBody_21 : decode prog_14_method_13_code 21 = .ok (.iaload, 1) := by decide +kernel
theorem dq_Md_plainBody_22 : decode prog_14_method_13_code 22 = .ok (.iload_n 2, 1) := by decide +kernel
theorem dq_Md_plainBody_23 : decode prog_14_method_13_code 23 = .ok (.isub, 1) := by decide +kernel
theorem dq_Md_plainBody_24 : decode prog_14_method_13_code 24 = .ok (.iload_n 3, 1) := by decide +kernel
theorem dq_Md_plainBody_25 : decode prog_14_method_13_code 25 = .ok (.if_icmp .ge 5, 3) := by decide +kernel
theorem dq_Md_plainBody_28 : decode prog_14_method_13_code 28 = .ok (.iconst 0, 1) := by decide +kernel
theorem dq_Md_plainBody_29 : decode prog_14_method_13_code 29 = .ok (.ireturn, 1) := by decide +kernel
theorem dq_Md_plainBody_30 : decode prog_14_method_13_code 30 = .ok (.aload_n 0, 1) := by decide +kernel
theorem dq_Md_plainBody_31 : decode prog_14_method_13_code 31 = .ok (.getfield 57, 3) := by decide +kernel
theorem dq_Md_plainBody_34 : decode prog_14_method_13_code 34 = .ok (.bipush 8, 2) := by decide +kernel
theorem dq_Md_plainBody_36 : decode prog_14_method_13_code 36 = .ok (.lconst 0, 1) := by decide +kernel
theorem dq_Md_plainBody_37 : decode prog_14_method_13_code 37 = .ok (.lastore, 1) := by decide +kernel
theorem dq_Md_plainBody_38 : decode prog_14_method_13_code 38 = .ok (.iconst 0, 1) := by decide +kernel
theorem dq_Md_plainBody_39 : decode prog_14_method_13_code 39 = .ok (.istore 4, 2) := by decide +kernel
theorem dq_Md_plainBody_41 : decode prog_14_method_13_code 41 = .ok (.iload 4, 2) := by decide +kernel
theorem dq_Md_plainBody_43 : decode prog_14_method_13_code 43 = .ok (.iload_n 3, 1) := by decide +kernel
theorem dq_Md_plainBody_44 : decode prog_14_method_13_code 44 = .ok (.if_icmp .ge 41, 3) := by decide +kernel
theorem dq_Md_plainBody_47 : decode prog_14_method_13_code 47 = .ok (.aload_n 0, 1) := by decide +kernel
theorem dq_Md_plainBody_48 : decode prog_14_method_13_code 48 = .ok (.getfield 57, 3) := by decide +kernel
theorem dq_Md_plainBody_51 : decode prog_14_method_13_code 51 = .ok (.bipush 8, 2) := by decide +kernel
theorem dq_Md_plainBody_53 : decode prog_14_method_13_code 53 = .ok (.dup2, 1) := by decide +kernel
theorem dq_Md_plainBody_54 : decode prog_14_method_13_code 54 = .ok (.laload, 1) := by decide +kernel
theorem dq_Md_plainBody_55 : decode prog_14_method_13_code 55 = .ok (.aload_n 0, 1) := by decide +kernel
theorem dq_Md_plainBody_56 : decode prog_14_method_13_code 56 = .ok (.getfield 7, 3) := by decide +kernel
theorem dq_Md_plainBody_59 : decode prog_14_method_13_code 59 = .ok (.sipush 4200, 3) := by decide +kernel
theorem dq_Md_plainBody_62 : decode prog_14_method_13_code 62 = .ok (.iload_n 1, 1) := by decide +kernel
theorem dq_Md_plainBody_63 : decode prog_14_method_13_code 63 = .ok (.imul, 1) := by decide +kernel
theorem dq_Md_plainBody_64 : decode prog_14_method_13_code 64 = .ok (.iload_n 2, 1) := by decide +kernel
theorem dq_Md_plainBody_65 : decode prog_14_method_13_code 65 = .ok (.iadd, 1) := by decide +kernel
theorem dq_Md_plainBody_66 : decode prog_14_method_13_code 66 = .ok (.iload 4, 2) := by decide +kernel
theorem dq_Md_plainBody_68 : decode prog_14_method_13_code 68 = .ok (.iadd, 1) := by decide +kernel
theorem dq_Md_plainBody_69 : decode prog_14_method_13_code 69 = .ok (.iaload, 1) := by decide +kernel
theorem dq_Md_plainBody_70 : decode prog_14_method_13_code 70 = .ok (.i2l, 1) := by decide +kernel
theorem dq_Md_plainBody_71 : decode prog_14_method_13_code 71 = .ok (.bipush 8, 2) := by decide +kernel
theorem dq_Md_plainBody_73 : decode prog_14_method_13_code 73 = .ok (.iload 4, 2) := by decide +kernel
theorem dq_Md_plainBody_75 : decode prog_14_method_13_code 75 = .ok (.imul, 1) := by decide +kernel
theorem dq_Md_plainBody_76 : decode prog_14_method_13_code 76 = .ok (.lshl, 1) := by decide +kernel
theorem dq_Md_plainBody_77 : decode prog_14_method_13_code 77 = .ok (.lor, 1) := by decide +kernel
theorem dq_Md_plainBody_78 : decode prog_14_method_13_code 78 = .ok (.lastore, 1) := by decide +kernel
theorem dq_Md_plainBody_79 : decode prog_14_method_13_code 79 = .ok (.iinc 4 1, 3) := by decide +kernel
theorem dq_Md_plainBody_82 : decode prog_14_method_13_code 82 = .ok (.goto (-41), 3) := by decide +kernel
theorem dq_Md_plainBody_85 : decode prog_14_method_13_code 85 = .ok (.aload_n 0, 1) := by decide +kernel
theorem dq_Md_plainBody_86 : decode prog_14_method_13_code 86 = .ok (.getfield 60, 3) := by decide +kernel
theorem dq_Md_plainBody_89 : decode prog_14_method_13_code 89 = .ok (.bipush 8, 2) := by decide +kernel
theorem dq_Md_plainBody_91 : decode prog_14_method_13_code 91 = .ok (.iload_n 3, 1) := by decide +kernel
theorem dq_Md_plainBody_92 : decode prog_14_method_13_code 92 = .ok (.iastore, 1) := by decide +kernel
theorem dq_Md_plainBody_93 : decode prog_14_method_13_code 93 = .ok (.iconst 1, 1) := by decide +kernel
theorem dq_Md_plainBody_94 : decode prog_14_method_13_code 94 = .ok (.ireturn, 1) := by decide +kernel
set_option maxRecDepth 100000 in
def pq_Md_plainBody_41 (E : wo_E) (mc ms : Nat) (Post : Int32 → wo_W → Prop) : Nat → wo_W → Nat → Nat → Nat → Int32 → Int32 → Int32 → Int32 → Prop
  | 0 => fun _ _ _ _ _ _ _ _ => False
  | n + 1 => fun G c s x0 x1 x2 x3 x4 => ((x3 ≤ x4 → wo_ty G x0 = 15 ∧ ∀ r2 : Option Nat, r2 = wo_gr G 913 x0 → ∃ a4 : Nat, r2 = some a4 ∧ wo_ty G a4 = 66 ∧ vp_in (8 : Int32) (wo_len G a4) ∧ en_bs E ≤ a4 ∧ ∀ G8 : wo_W, G8 = wo_sei G a4 (8 : Int32).toNatClampNeg x3 → 
    Post (1 : Int32) G8) ∧
  (¬ x3 ≤ x4 → wo_ty G x0 = 15 ∧ ∀ r11 : Option Nat, r11 = wo_gr G 912 x0 → ∃ a13 : Nat, r11 = some a13 ∧ wo_ty G a13 = 73 ∧ vp_in (8 : Int32) (wo_len G a13) ∧ ∀ r16 : Option Nat, r16 = wo_gr G 896 x0 → ∃ a18 : Nat, r16 = some a18 ∧ wo_ty G a18 = 66 ∧ vp_in ((((4200 : Int32) * x1) + x2) + x4) (wo_len G a18) ∧ vp_in (8 : Int32) (wo_len G a13) ∧ en_bs E ≤ a13 ∧ ∀ G23 : wo_W, G23 = wo_sel G a13 (8 : Int32).toNatClampNeg ((wo_el G a13 (8 : Int32).toNatClampNeg) ||| ((wo_ei G a18 ((((4200 : Int32) * x1) + x2) + x4).toNatClampNeg).toInt64 <<< (((8 : Int32) * x4).toInt64 &&& 63))) → 
    pq_Md_plainBody_41 E mc ms Post n G23 c s x0 x1 x2 x3 (x4 + (1 : Int32))))
set_option maxRecDepth 100000 in
def pq_Md_plainBody_15 (E : wo_E) (mc ms : Nat) (Post : Int32 → wo_W → Prop) (G : wo_W) (c s : Nat) (x0 : Nat) (x1 : Int32) (x2 : Int32) (y0 : Int32) : Prop := wo_ty G x0 = 15 ∧ ∀ r2 : Option Nat, r2 = wo_gr G 897 x0 → ∃ a4 : Nat, r2 = some a4 ∧ wo_ty G a4 = 66 ∧ vp_in x1 (wo_len G a4) ∧ ((y0 ≤ ((wo_ei G a4 x1.toNatClampNeg) - x2) → ∀ r7 : Option Nat, r7 = wo_gr G 912 x0 → ∃ a9 : Nat, r7 = some a9 ∧ wo_ty G a9 = 73 ∧ vp_in (8 : Int32) (wo_len G a9) ∧ en_bs E ≤ a9 ∧ ∀ G13 : wo_W, G13 = wo_sel G a9 (8 : Int32).toNatClampNeg (0 : Int64) → 
    ∃ n1 : Nat, pq_Md_plainBody_41 E mc ms Post n1 G13 c s x0 x1 x2 y0 (0 : Int32)) ∧
  (¬ y0 ≤ ((wo_ei G a4 x1.toNatClampNeg) - x2) → Post (0 : Int32) G))
set_option maxRecDepth 100000 in
def pq_Md_plainBody_0 (E : wo_E) (mc ms : Nat) (Post : Int32 → wo_W → Prop) (G : wo_W) (c s : Nat) (x0 : Nat) (x1 : Int32) (x2 : Int32) : Prop := wo_ty G x0 = 15 ∧ (((0 : Int32) ≤ (wo_gi G 914 x0) → pq_Md_plainBody_15 E mc ms Post G c s x0 x1 x2 (wo_gi G 914 x0)) ∧
  (¬ (0 : Int32) ≤ (wo_gi G 914 x0) → pq_Md_plainBody_15 E mc ms Post G c s x0 x1 x2 (0 : Int32)))
def pq_Md_plainBody (E : wo_E) (mc ms : Nat) (Post : Int32 → wo_W → Prop) (G : wo_W) (x0 : Nat) (x1 : Int32) (x2 : Int32) : Prop := pq_Md_plainBody_0 E mc ms Post G 0 0 x0 x1 x2
set_option maxRecDepth 100000 in
set_option maxHeartbeats 4000000 in
theorem tq_Md_plainBody_41 {p : Program} {l : Launch} {e : Env} {R : Room} {s₀ : State} {m : MethodId} {args : Array Value} {below : List Frame} {meth : Method} {cd : Code} {E : wo_E} {mc ms : Nat} {Post : Int32 → wo_W → Prop} (hC : wo_Cx E "EdgeCacheModel" prog_14_method_13_code 5 0 0 ((Option.some Jvm.ClassFile.FieldType.int)) "plainBody" mc ms p R s₀ m args meth cd) : ∀ n : Nat, ∀ {G : wo_W} {c s : Nat} {x0 : Nat} {x1 : Int32} {x2 : Int32} {x3 : Int32} {x4 : Int32}, pq_Md_plainBody_41 E mc ms Post n G c s x0 x1 x2 x3 x4 → ∀ {H : Heap} {locs : List Loc} {ls : Array Slot}, wo_Se E G H → va_S (en_A E) s₀.heap H locs → lx_has ls 5 [(0, 1, .ref x0), (1, 1, .int x1), (2, 1, .int x2), (3, 1, .int x3), (4, 1, .int x4)] → c ≤ mc → s ≤ ms → W p l e R s₀ m args below meth cd H locs c s (MQ below (va_Qi Post (wo_B E) (en_A E)) args s₀ mc ms (en_A E)) (F0 m 41 ls []) := by
  intro n
  induction n with
  | zero => intro G c s x0 x1 x2 x3 x4 hw; exact hw.elim
  | succ n ih =>
    intro G c s x0 x1 x2 x3 x4 hw H locs ls hG hS hl hcc hss
    dsimp only [pq_Md_plainBody_41] at hw
    have hx := hC.1
    have hb := hC.2.1
    refine lv_iload hx hb dq_Md_plainBody_41 (lx_at hl 4 rfl) ?_
    refine lv_iload_n hx hb dq_Md_plainBody_43 rfl (lx_at hl 3 rfl) ?_
    refine lv_icmp_ge (tgt := 85) hx hb dq_Md_plainBody_44 rfl (fun h => ?_) (fun h => ?_)
    · replace hw := hw.1 h
      refine lv_aload_n hx hb dq_Md_plainBody_85 rfl (lx_at hl 0 rfl) ?_
      obtain ⟨t1, hw⟩ := hw
      refine wo_getR hC fq_Md_60 rfl hG t1 dq_Md_plainBody_86 (fun r2 e3 => ?_)
      replace hw := hw r2 e3
      refine lv_bipush (v := (8 : Int32)) hx hb dq_Md_plainBody_89 rfl ?_
      refine lv_iload_n hx hb dq_Md_plainBody_91 rfl (lx_at hl 3 rfl) ?_
      obtain ⟨a4, rfl, hw⟩ := hw
      obtain ⟨t5, hw⟩ := hw
      obtain ⟨h6, hw⟩ := hw
      obtain ⟨h7, hw⟩ := hw
      refine wo_iast (j := 2) hC rfl hG hS t5 h6 h7 dq_Md_plainBody_92 (fun G8 H locs e9 hG hS => ?_)
      replace hw := hw G8 e9
      refine lv_iconst (v := (1 : Int32)) hx hb dq_Md_plainBody_93 rfl ?_
      exact wo_iret hC hG hS hcc hss hw dq_Md_plainBody_94
    · replace hw := hw.2 h
      refine lv_aload_n hx hb dq_Md_plainBody_47 rfl (lx_at hl 0 rfl) ?_
      obtain ⟨t10, hw⟩ := hw
      refine wo_getR hC fq_Md_57 rfl hG t10 dq_Md_plainBody_48 (fun r11 e12 => ?_)
      replace hw := hw r11 e12
      refine lv_bipush (v := (8 : Int32)) hx hb dq_Md_plainBody_51 rfl ?_
      refine lv_dup2_11 hx hb dq_Md_plainBody_53 rfl (lx_cR _) ?_
      obtain ⟨a13, rfl, hw⟩ := hw
      obtain ⟨t14, hw⟩ := hw
      obtain ⟨h15, hw⟩ := hw
      refine wo_lald (j := 9) hC rfl hG t14 h15 dq_Md_plainBody_54 ?_
      refine lv_aload_n hx hb dq_Md_plainBody_55 rfl (lx_at hl 0 rfl) ?_
      refine wo_getR hC fq_Md_7 rfl hG t10 dq_Md_plainBody_56 (fun r16 e17 => ?_)
      replace hw := hw r16 e17
      refine lv_sipush (v := (4200 : Int32)) hx hb dq_Md_plainBody_59 rfl ?_
      refine lv_iload_n hx hb dq_Md_plainBody_62 rfl (lx_at hl 1 rfl) ?_
      refine lv_imul hx hb dq_Md_plainBody_63 ?_
      refine lv_iload_n hx hb dq_Md_plainBody_64 rfl (lx_at hl 2 rfl) ?_
      refine lv_iadd hx hb dq_Md_plainBody_65 ?_
      refine lv_iload hx hb dq_Md_plainBody_66 (lx_at hl 4 rfl) ?_
      refine lv_iadd hx hb dq_Md_plainBody_68 ?_
      obtain ⟨a18, rfl, hw⟩ := hw
      obtain ⟨t19, hw⟩ := hw
      obtain ⟨h20, hw⟩ := hw
      refine wo_iald (j := 2) hC rfl hG t19 h20 dq_Md_plainBody_69 ?_
      refine lv_i2l (v := (wo_ei G a18 ((((4200 : Int32) * x1) + x2) + x4).toNatClampNeg).toInt64) hx hb dq_Md_plainBody_70 rfl ?_
      refine lv_bipush (v := (8 : Int32)) hx hb dq_Md_plainBody_71 rfl ?_
      refine lv_iload hx hb dq_Md_plainBody_73 (lx_at hl 4 rfl) ?_
      refine lv_imul hx hb dq_Md_plainBody_75 ?_
      refine lv_lshl hx hb dq_Md_plainBody_76 rfl ?_
      refine lv_lor hx hb dq_Md_plainBody_77 ?_
      obtain ⟨h21, hw⟩ := hw
      obtain ⟨h22, hw⟩ := hw
      refine wo_last (j := 9) hC rfl hG hS t14 h21 h22 dq_Md_plainBody_78 (fun G23 H locs e24 hG hS => ?_)
      replace hw := hw G23 e24
      refine lx_iinc (k := 4) (v := (x4 + (1 : Int32))) (lv' := [(4, 1, .int (x4 + (1 : Int32))), (0, 1, .ref x0), (1, 1, .int x1), (2, 1, .int x2), (3, 1, .int x3)]) hx hb dq_Md_plainBody_79 hl rfl rfl (by decide) rfl (fun ls hl' => ?_)
      clear hl
      have hl := hl'
      clear hl'
      refine lv_goto (tgt := 41) hx hb dq_Md_plainBody_82 rfl ?_
      exact ih hw hG hS (lx_sub hl [1, 2, 3, 4, 0] rfl) hcc hss
set_option maxRecDepth 100000 in
set_option maxHeartbeats 4000000 in
theorem tq_Md_plainBody_15 {p : Program} {l : Launch} {e : Env} {R : Room} {s₀ : State} {m : MethodId} {args : Array Value} {below : List Frame} {meth : Method} {cd : Code} {E : wo_E} {mc ms : Nat} {Post : Int32 → wo_W → Prop} (hC : wo_Cx E "EdgeCacheModel" prog_14_method_13_code 5 0 0 ((Option.some Jvm.ClassFile.FieldType.int)) "plainBody" mc ms p R s₀ m args meth cd) : ∀ {G : wo_W} {c s : Nat} {x0 : Nat} {x1 : Int32} {x2 : Int32} {y0 : Int32}, pq_Md_plainBody_15 E mc ms Post G c s x0 x1 x2 y0 → ∀ {H : Heap} {locs : List Loc} {ls : Array Slot}, wo_Se E G H → va_S (en_A E) s₀.heap H locs → lx_has ls 5 [(0, 1, .ref x0), (1, 1, .int x1), (2, 1, .int x2)] → c ≤ mc → s ≤ ms → W p l e R s₀ m args below meth cd H locs c s (MQ below (va_Qi Post (wo_B E) (en_A E)) args s₀ mc ms (en_A E)) (F0 m 15 ls [.int y0]) := by
  intro G c s x0 x1 x2 y0 hw H locs ls hG hS hl hcc hss
  dsimp only [pq_Md_plainBody_15] at hw
  have hx := hC.1
  have hb := hC.2.1
  refine lx_istore_n (lv' := [(3, 1, .int y0), (0, 1, .ref x0), (1, 1, .int x1), (2, 1, .int x2)]) hx hb dq_Md_plainBody_15 rfl hl (by decide) rfl (fun ls hl' => ?_)
  clear hl
  have hl := hl'
  clear hl'
  refine lv_aload_n hx hb dq_Md_plainBody_16 rfl (lx_at hl 1 rfl) ?_
  obtain ⟨t1, hw⟩ := hw
  refine wo_getR hC fq_Md_13 rfl hG t1 dq_Md_plainBody_17 (fun r2 e3 => ?_)
  replace hw := hw r2 e3
  refine lv_iload_n hx hb dq_Md_plainBody_20 rfl (lx_at hl 2 rfl) ?_
  obtain ⟨a4, rfl, hw⟩ := hw
  obtain ⟨t5, hw⟩ := hw
  obtain ⟨h6, hw⟩ := hw
  refine wo_iald (j := 2) hC rfl hG t5 h6 dq_Md_plainBody_21 ?_
  refine lv_iload_n hx hb dq_Md_plainBody_22 rfl (lx_at hl 3 rfl) ?_
  refine lv_isub hx hb dq_Md_plainBody_23 ?_
  refine lv_iload_n hx hb dq_Md_plainBody_24 rfl (lx_at hl 0 rfl) ?_
  refine lv_icmp_ge (tgt := 30) hx hb dq_Md_plainBody_25 rfl (fun h => ?_) (fun h => ?_)
  · replace hw := hw.1 h
    refine lv_aload_n hx hb dq_Md_plainBody_30 rfl (lx_at hl 1 rfl) ?_
    refine wo_getR hC fq_Md_57 rfl hG t1 dq_Md_plainBody_31 (fun r7 e8 => ?_)
    replace hw := hw r7 e8
    refine lv_bipush (v := (8 : Int32)) hx hb dq_Md_plainBody_34 rfl ?_
    refine lv_lconst (v := (0 : Int64)) hx hb dq_Md_plainBody_36 rfl ?_
    obtain ⟨a9, rfl, hw⟩ := hw
    obtain ⟨t10, hw⟩ := hw
    obtain ⟨h11, hw⟩ := hw
    obtain ⟨h12, hw⟩ := hw
    refine wo_last (j := 9) hC rfl hG hS t10 h11 h12 dq_Md_plainBody_37 (fun G13 H locs e14 hG hS => ?_)
    replace hw := hw G13 e14
    refine lv_iconst (v := (0 : Int32)) hx hb dq_Md_plainBody_38 rfl ?_
    refine lx_istore (lv' := [(4, 1, .int (0 : Int32)), (3, 1, .int y0), (0, 1, .ref x0), (1, 1, .int x1), (2, 1, .int x2)]) hx hb dq_Md_plainBody_39 hl (by decide) rfl (fun ls hl' => ?_)
    clear hl
    have hl := hl'
    clear hl'
    obtain ⟨n1, hw⟩ := hw
    exact tq_Md_plainBody_41 hC n1 hw hG hS (lx_sub hl [2, 3, 4, 1, 0] rfl) hcc hss
  · replace hw := hw.2 h
    refine lv_iconst (v := (0 : Int32)) hx hb dq_Md_plainBody_28 rfl ?_
    exact wo_iret hC hG hS hcc hss hw dq_Md_plainBody_29
set_option maxRecDepth 100000 in
set_option maxHeartbeats 4000000 in
theorem tq_Md_plainBody_0 {p : Program} {l : Launch} {e : Env} {R : Room} {s₀ : State} {m : MethodId} {args : Array Value} {below : List Frame} {meth : Method} {cd : Code} {E : wo_E} {mc ms : Nat} {Post : Int32 → wo_W → Prop} (hC : wo_Cx E "EdgeCacheModel" prog_14_method_13_code 5 0 0 ((Option.some Jvm.ClassFile.FieldType.int)) "plainBody" mc ms p R s₀ m args meth cd) : ∀ {G : wo_W} {c s : Nat} {x0 : Nat} {x1 : Int32} {x2 : Int32}, pq_Md_plainBody_0 E mc ms Post G c s x0 x1 x2 → ∀ {H : Heap} {locs : List Loc} {ls : Array Slot}, wo_Se E G H → va_S (en_A E) s₀.heap H locs → lx_has ls 5 [(0, 1, .ref x0), (1, 1, .int x1), (2, 1, .int x2)] → c ≤ mc → s ≤ ms → W p l e R s₀ m args below meth cd H locs c s (MQ below (va_Qi Post (wo_B E) (en_A E)) args s₀ mc ms (en_A E)) (F0 m 0 ls []) := by
  intro G c s x0 x1 x2 hw H locs ls hG hS hl hcc hss
  dsimp only [pq_Md_plainBody_0] at hw
  have hx := hC.1
  have hb := hC.2.1
  refine lv_aload_n hx hb dq_Md_plainBody_0 rfl (lx_at hl 0 rfl) ?_
  obtain ⟨t1, hw⟩ := hw
  refine wo_getI hC fq_Md_209 rfl hG t1 dq_Md_plainBody_1 ?_
  refine lv_if_ge (tgt := 11) hx hb dq_Md_plainBody_4 rfl (fun h => ?_) (fun h => ?_)
  · replace hw := hw.1 h
    refine lv_aload_n hx hb dq_Md_plainBody_11 rfl (lx_at hl 0 rfl) ?_
    refine wo_getI hC fq_Md_209 rfl hG t1 dq_Md_plainBody_12 ?_
    exact tq_Md_plainBody_15 hC hw hG hS (lx_sub hl [0, 1, 2] rfl) hcc hss
  · replace hw := hw.2 h
    refine lv_iconst (v := (0 : Int32)) hx hb dq_Md_plainBody_7 rfl ?_
    refine lv_goto (tgt := 15) hx hb dq_Md_plainBody_8 rfl ?_
    exact tq_Md_plainBody_15 hC hw hG hS (lx_sub hl [0, 1, 2] rfl) hcc hss
set_option maxHeartbeats 4000000 in
theorem mq_Md_plainBody {l : Launch} {E : wo_E} {mc ms : Nat} {Post : Int32 → wo_W → Prop} {G : wo_W} {x0 : Nat} {x1 : Int32} {x2 : Int32} (hw : pq_Md_plainBody E mc ms Post G x0 x1 x2) : Met l yq_Md_plainBody (Cond.code yq_Md_plainBody prog_14_method_13_code 5 ((Option.some Jvm.ClassFile.FieldType.int)) :: vw_WG) { frames := 0, cells := mc, slots := ms, locals := 0 } (va_Pc [.ref x0, .int x1, .int x2] (wo_Ok E G)) (va_Qi Post (wo_B E) (en_A E)) mc ms (en_A E) := by
  unfold pq_Md_plainBody at hw
  exact wo_met [(1, .ref x0), (1, .int x1), (1, .int x2)] rfl (by decide) (fun q hq => by simp only [List.mem_cons, List.not_mem_nil, or_false] at hq; rcases hq with rfl | rfl | rfl <;> first | rfl | exact lx_cR _) (Nat.le_of_ble_eq_true rfl) (fun p e R s m args below meth cd ls hC hG hS hl => tq_Md_plainBody_0 hC hw hG hS (lx_sub hl [0, 1, 2] rfl) (Nat.zero_le _) (Nat.zero_le _))

theorem dq_Md_digit_0 : decode prog_14_method_9_code 0 = .ok (.iload_n 0, 1) := by decide +kernel
theorem dq_Md_digit_1 : decode prog_14_method_9_code 1 = .ok (.bipush 10, 2) := by decide +kernel
theorem dq_Md_digit_3 : decode prog_14_method_9_code 3 = .ok (.if_icmp .ge 10, 3) := by decide +kernel
theorem dq_Md_digit_6 : decode prog_14_method_9_code 6 = .ok (.bipush 48, 2) := by decide +kernel
theorem dq_Md_digit_8 : decode prog_14_method_9_code 8 = .ok (.iload_n 0, 1) := by decide +kernel
theorem dq_Md_digit_9 : decode prog_14_method_9_code 9 = .ok (.iadd, 1) := by decide +kernel
theorem dq_Md_digit_10 : decode prog_14_method_9_code 10 = .ok (.goto 7, 3) := by decide +kernel
theorem dq_Md_digit_13 : decode prog_14_method_9_code 13 = .ok (.bipush 55, 2) := by decide +kernel
theorem dq_Md_digit_15 : decode prog_14_method_9_code 15 = .ok (.iload_n 0, 1) := by decide +kernel
theorem dq_Md_digit_16 : decode prog_14_method_9_code 16 = .ok (.iadd, 1) := by decide +kernel
theorem dq_Md_digit_17 : decode prog_14_method_9_code 17 = .ok (.ireturn, 1) := by decide +kernel
set_option maxRecDepth 100000 in
def pq_Md_digit_17 (E : wo_E) (mc ms : Nat) (Post : Int32 → wo_W → Prop) (G : wo_W) (c s : Nat) (y0 : Int32) : Prop := Post y0 G
set_option maxRecDepth 100000 in
def pq_Md_digit_0 (E : wo_E) (mc ms : Nat) (Post : Int32 → wo_W → Prop) (G : wo_W) (c s : Nat) (x0 : Int32) : Prop := (((10 : Int32) ≤ x0 → pq_Md_digit_17 E mc ms Post G c s ((55 : Int32) + x0)) ∧
  (¬ (10 : Int32) ≤ x0 → pq_Md_digit_17 E mc ms Post G c s ((48 : Int32) + x0)))
def pq_Md_digit (E : wo_E) (mc ms : Nat) (Post : Int32 → wo_W → Prop) (G : wo_W) (x0 : Int32) : Prop := pq_Md_digit_0 E mc ms Post G 0 0 x0
set_option maxRecDepth 100000 in
set_option maxHeartbeats 4000000 in
theorem tq_Md_digit_17 {p : Program} {l : Launch} {e : Env} {R : Room} {s₀ : State} {m : MethodId} {args : Array Value} {below : List Frame} {meth : Method} {cd : Code} {E : wo_E} {mc ms : Nat} {Post : Int32 → wo_W → Prop} (hC : wo_Cx E "EdgeCacheModel" prog_14_method_9_code 1 0 0 ((Option.some Jvm.ClassFile.FieldType.int)) "digit" mc ms p R s₀ m args meth cd) : ∀ {G : wo_W} {c s : Nat} {y0 : Int32}, pq_Md_digit_17 E mc ms Post G c s y0 → ∀ {H : Heap} {locs : List Loc} {ls : Array Slot}, wo_Se E G H → va_S (en_A E) s₀.heap H locs → lx_has ls 1 [] → c ≤ mc → s ≤ ms → W p l e R s₀ m args below meth cd H locs c s (MQ below (va_Qi Post (wo_B E) (en_A E)) args s₀ mc ms (en_A E)) (F0 m 17 ls [.int y0]) := by
  intro G c s y0 hw H locs ls hG hS hl hcc hss
  dsimp only [pq_Md_digit_17] at hw
  have hx := hC.1
  have hb := hC.2.1
  exact wo_iret hC hG hS hcc hss hw dq_Md_digit_17
set_option maxRecDepth 100000 in
set_option maxHeartbeats 4000000 in
theorem tq_Md_digit_0 {p : Program} {l : Launch} {e : Env} {R : Room} {s₀ : State} {m : MethodId} {args : Array Value} {below : List Frame} {meth : Method} {cd : Code} {E : wo_E} {mc ms : Nat} {Post : Int32 → wo_W → Prop} (hC : wo_Cx E "EdgeCacheModel" prog_14_method_9_code 1 0 0 ((Option.some Jvm.ClassFile.FieldType.int)) "digit" mc ms p R s₀ m args meth cd) : ∀ {G : wo_W} {c s : Nat} {x0 : Int32}, pq_Md_digit_0 E mc ms Post G c s x0 → ∀ {H : Heap} {locs : List Loc} {ls : Array Slot}, wo_Se E G H → va_S (en_A E) s₀.heap H locs → lx_has ls 1 [(0, 1, .int x0)] → c ≤ mc → s ≤ ms → W p l e R s₀ m args below meth cd H locs c s (MQ below (va_Qi Post (wo_B E) (en_A E)) args s₀ mc ms (en_A E)) (F0 m 0 ls []) := by
  intro G c s x0 hw H locs ls hG hS hl hcc hss
  dsimp only [pq_Md_digit_0] at hw
  have hx := hC.1
  have hb := hC.2.1
  refine lv_iload_n hx hb dq_Md_digit_0 rfl (lx_at hl 0 rfl) ?_
  refine lv_bipush (v := (10 : Int32)) hx hb dq_Md_digit_1 rfl ?_
  refine lv_icmp_ge (tgt := 13) hx hb dq_Md_digit_3 rfl (fun h => ?_) (fun h => ?_)
  · replace hw := hw.1 h
    refine lv_bipush (v := (55 : Int32)) hx hb dq_Md_digit_13 rfl ?_
    refine lv_iload_n hx hb dq_Md_digit_15 rfl (lx_at hl 0 rfl) ?_
    refine lv_iadd hx hb dq_Md_digit_16 ?_
    exact tq_Md_digit_17 hC hw hG hS (lx_sub hl [] rfl) hcc hss
  · replace hw := hw.2 h
    refine lv_bipush (v := (48 : Int32)) hx hb dq_Md_digit_6 rfl ?_
    refine lv_iload_n hx hb dq_Md_digit_8 rfl (lx_at hl 0 rfl) ?_
    refine lv_iadd hx hb dq_Md_digit_9 ?_
    refine lv_goto (tgt := 17) hx hb dq_Md_digit_10 rfl ?_
    exact tq_Md_digit_17 hC hw hG hS (lx_sub hl [] rfl) hcc hss
set_option maxHeartbeats 4000000 in
theorem mq_Md_digit {l : Launch} {E : wo_E} {mc ms : Nat} {Post : Int32 → wo_W → Prop} {G : wo_W} {x0 : Int32} (hw : pq_Md_digit E mc ms Post G x0) : Met l yq_Md_digit (Cond.code yq_Md_digit prog_14_method_9_code 1 ((Option.some Jvm.ClassFile.FieldType.int)) :: vw_WG) { frames := 0, cells := mc, slots := ms, locals := 0 } (va_Pc [.int x0] (wo_Ok E G)) (va_Qi Post (wo_B E) (en_A E)) mc ms (en_A E) := by
  unfold pq_Md_digit at hw
  exact wo_met [(1, .int x0)] rfl (by decide) (fun q hq => by simp only [List.mem_cons, List.not_mem_nil, or_false] at hq; rcases hq with rfl <;> first | rfl | exact lx_cR _) (Nat.le_of_ble_eq_true rfl) (fun p e R s m args below meth cd ls hC hG hS hl => tq_Md_digit_0 hC hw hG hS (lx_sub hl [0] rfl) (Nat.zero_le _) (Nat.zero_le _))
