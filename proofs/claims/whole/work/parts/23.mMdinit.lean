theorem dq_Md_init_0 : decode prog_14_method_1_code 0 = .ok (.aload_n 0, 1) := by decide +kernel
theorem dq_Md_init_1 : decode prog_14_method_1_code 1 = .ok (.invokespecial 1, 3) := by decide +kernel
theorem dq_Md_init_4 : decode prog_14_method_1_code 4 = .ok (.aload_n 0, 1) := by decide +kernel
theorem dq_Md_init_5 : decode prog_14_method_1_code 5 = .ok (.sipush 12600, 3) := by decide +kernel
theorem dq_Md_init_8 : decode prog_14_method_1_code 8 = .ok (.newarray .int, 2) := by decide +kernel
theorem dq_Md_init_10 : decode prog_14_method_1_code 10 = .ok (.putfield 7, 3) := by decide +kernel
theorem dq_Md_init_13 : decode prog_14_method_1_code 13 = .ok (.aload_n 0, 1) := by decide +kernel
theorem dq_Md_init_14 : decode prog_14_method_1_code 14 = .ok (.iconst 3, 1) := by decide +kernel
theorem dq_Md_init_15 : decode prog_14_method_1_code 15 = .ok (.newarray .int, 2) := by decide +kernel
theorem dq_Md_init_17 : decode prog_14_method_1_code 17 = .ok (.putfield 13, 3) := by decide +kernel
theorem dq_Md_init_20 : decode prog_14_method_1_code 20 = .ok (.aload_n 0, 1) := by decide +kernel
theorem dq_Md_init_21 : decode prog_14_method_1_code 21 = .ok (.iconst 3, 1) := by decide +kernel
theorem dq_Md_init_22 : decode prog_14_method_1_code 22 = .ok (.newarray .boolean, 2) := by decide +kernel
theorem dq_Md_init_24 : decode prog_14_method_1_code 24 = .ok (.putfield 16, 3) := by decide +kernel
theorem dq_Md_init_27 : decode prog_14_method_1_code 27 = .ok (.aload_n 0, 1) := by decide +kernel
theorem dq_Md_init_28 : decode prog_14_method_1_code 28 = .ok (.sipush 1920, 3) := by decide +kernel
theorem dq_Md_init_31 : decode prog_14_method_1_code 31 = .ok (.newarray .int, 2) := by decide +kernel
theorem dq_Md_init_33 : decode prog_14_method_1_code 33 = .ok (.putfield 20, 3) := by decide +kernel
theorem dq_Md_init_36 : decode prog_14_method_1_code 36 = .ok (.aload_n 0, 1) := by decide +kernel
theorem dq_Md_init_37 : decode prog_14_method_1_code 37 = .ok (.iconst 3, 1) := by decide +kernel
theorem dq_Md_init_38 : decode prog_14_method_1_code 38 = .ok (.newarray .int, 2) := by decide +kernel
theorem dq_Md_init_40 : decode prog_14_method_1_code 40 = .ok (.putfield 23, 3) := by decide +kernel
theorem dq_Md_init_43 : decode prog_14_method_1_code 43 = .ok (.aload_n 0, 1) := by decide +kernel
theorem dq_Md_init_44 : decode prog_14_method_1_code 44 = .ok (.sipush 1152, 3) := by decide +kernel
theorem dq_Md_init_47 : decode prog_14_method_1_code 47 = .ok (.newarray .int, 2) := by decide +kernel
theorem dq_Md_init_49 : decode prog_14_method_1_code 49 = .ok (.putfield 26, 3) := by decide +kernel
theorem dq_Md_init_52 : decode prog_14_method_1_code 52 = .ok (.aload_n 0, 1) := by decide +kernel
theorem dq_Md_init_53 : decode prog_14_method_1_code 53 = .ok (.bipush 12, 2) := by decide +kernel
theorem dq_Md_init_55 : decode prog_14_method_1_code 55 = .ok (.newarray .int, 2) := by decide +kernel
theorem dq_Md_init_57 : decode prog_14_method_1_code 57 = .ok (.putfield 29, 3) := by decide +kernel
theorem dq_Md_init_60 : decode prog_14_method_1_code 60 = .ok (.aload_n 0, 1) := by decide +kernel
theorem dq_Md_init_61 : decode prog_14_method_1_code 61 = .ok (.iconst 3, 1) := by decide +kernel
theorem dq_Md_init_62 : decode prog_14_method_1_code 62 = .ok (.newarray .int, 2) := by decide +kernel
theorem dq_Md_init_64 : decode prog_14_method_1_code 64 = .ok (.putfield 32, 3) := by decide +kernel
theorem dq_Md_init_67 : decode prog_14_method_1_code 67 = .ok (.aload_n 0, 1) := by decide +kernel
theorem dq_Md_init_68 : decode prog_14_method_1_code 68 = .ok (.iconst 3, 1) := by decide +kernel
theorem dq_Md_init_69 : decode prog_14_method_1_code 69 = .ok (.newarray .int, 2) := by decide +kernel
theorem dq_Md_init_71 : decode prog_14_method_1_code 71 = .ok (.putfield 35, 3) := by decide +kernel
theorem dq_Md_init_74 : decode prog_14_method_1_code 74 = .ok (.aload_n 0, 1) := by decide +kernel
theorem dq_Md_init_75 : decode prog_14_method_1_code 75 = .ok (.sipush 128, 3) := by decide +kernel
theorem dq_Md_init_78 : decode prog_14_method_1_code 78 = .ok (.newarray .int, 2) := by decide +kernel
theorem dq_Md_init_80 : decode prog_14_method_1_code 80 = .ok (.putfield 38, 3) := by decide +kernel
theorem dq_Md_init_83 : decode prog_14_method_1_code 83 = .ok (.aload_n 0, 1) := by decide +kernel
theorem dq_Md_init_84 : decode prog_14_method_1_code 84 = .ok (.bipush 9, 2) := by decide +kernel
theorem dq_Md_init_86 : decode prog_14_method_1_code 86 = .ok (.newarray .int, 2) := by decide +kernel
theorem dq_Md_init_88 : decode prog_14_method_1_code 88 = .ok (.putfield 41, 3) := by decide +kernel
theorem dq_Md_init_91 : decode prog_14_method_1_code 91 = .ok (.aload_n 0, 1) := by decide +kernel
theorem dq_Md_init_92 : decode prog_14_method_1_code 92 = .ok (.bipush 9, 2) := by decide +kernel
theorem dq_Md_init_94 : decode prog_14_method_1_code 94 = .ok (.newarray .long, 2) := by decide +kernel
theorem dq_Md_init_96 : decode prog_14_method_1_code 96 = .ok (.putfield 44, 3) := by decide +kernel
theorem dq_Md_init_99 : decode prog_14_method_1_code 99 = .ok (.aload_n 0, 1) := by decide +kernel
theorem dq_Md_init_100 : decode prog_14_method_1_code 100 = .ok (.bipush 9, 2) := by decide +kernel
theorem dq_Md_init_102 : decode prog_14_method_1_code 102 = .ok (.newarray .int, 2) := by decide +kernel
theorem dq_Md_init_104 : decode prog_14_method_1_code 104 = .ok (.putfield 48, 3) := by decide +kernel
theorem dq_Md_init_107 : decode prog_14_method_1_code 107 = .ok (.aload_n 0, 1) := by decide +kernel
theorem dq_Md_init_108 : decode prog_14_method_1_code 108 = .ok (.bipush 72, 2) := by decide +kernel
theorem dq_Md_init_110 : decode prog_14_method_1_code 110 = .ok (.newarray .long, 2) := by decide +kernel
theorem dq_Md_init_112 : decode prog_14_method_1_code 112 = .ok (.putfield 51, 3) := by decide +kernel
theorem dq_Md_init_115 : decode prog_14_method_1_code 115 = .ok (.aload_n 0, 1) := by decide +kernel
theorem dq_Md_init_116 : decode prog_14_method_1_code 116 = .ok (.bipush 72, 2) := by decide +kernel
theorem dq_Md_init_118 : decode prog_14_method_1_code 118 = .ok (.newarray .int, 2) := by decide +kernel
theorem dq_Md_init_120 : decode prog_14_method_1_code 120 = .ok (.putfield 54, 3) := by decide +kernel
theorem dq_Md_init_123 : decode prog_14_method_1_code 123 = .ok (.aload_n 0, 1) := by decide +kernel
theorem dq_Md_init_124 : decode prog_14_method_1_code 124 = .ok (.bipush 9, 2) := by decide +kernel
theorem dq_Md_init_126 : decode prog_14_method_1_code 126 = .ok (.newarray .long, 2) := by decide +kernel
theorem dq_Md_init_128 : decode prog_14_method_1_code 128 = .ok (.putfield 57, 3) := by decide +kernel
theorem dq_Md_init_131 : decode prog_14_method_1_code 131 = .ok (.aload_n 0, 1) := by decide +kernel
theorem dq_Md_init_132 : decode prog_14_method_1_code 132 = .ok (.bipush 9, 2) := by decide +kernel
theorem dq_Md_init_134 : decode prog_14_method_1_code 134 = .ok (.newarray .int, 2) := by decide +kernel
theorem dq_Md_init_136 : decode prog_14_method_1_code 136 = .ok (.putfield 60, 3) := by decide +kernel
theorem dq_Md_init_139 : decode prog_14_method_1_code 139 = .ok (.aload_n 0, 1) := by decide +kernel
theorem dq_Md_init_140 : decode prog_14_method_1_code 140 = .ok (.bipush 24, 2) := by decide +kernel
theorem dq_Md_init_142 : decode prog_14_method_1_code 142 = .ok (.newarray .int, 2) := by decide +kernel
theorem dq_Md_init_144 : decode prog_14_method_1_code 144 = .ok (.putfield 63, 3) := by decide +kernel
theorem dq_Md_init_147 : decode prog_14_method_1_code 147 = .ok (.aload_n 0, 1) := by decide +kernel
theorem dq_Md_init_148 : decode prog_14_method_1_code 148 = .ok (.bipush 24, 2) := by decide +kernel
theorem dq_Md_init_150 : decode prog_14_method_1_code 150 = .ok (.newarray .int, 2) := by decide +kernel
theorem dq_Md_init_152 : decode prog_14_method_1_code 152 = .ok (.putfield 66, 3) := by decide +kernel
theorem dq_Md_init_155 : decode prog_14_method_1_code 155 = .ok (.aload_n 0, 1) := by decide +kernel
theorem dq_Md_init_156 : decode prog_14_method_1_code 156 = .ok (.bipush 8, 2) := by decide +kernel
theorem dq_Md_init_158 : decode prog_14_method_1_code 158 = .ok (.newarray .int, 2) := by decide +kernel
theorem dq_Md_init_160 : decode prog_14_method_1_code 160 = .ok (.putfield 69, 3) := by decide +kernel
theorem dq_Md_init_163 : decode prog_14_method_1_code 163 = .ok (.aload_n 0, 1) := by decide +kernel
theorem dq_Md_init_164 : decode prog_14_method_1_code 164 = .ok (.bipush 8, 2) := by decide +kernel
theorem dq_Md_init_166 : decode prog_14_method_1_code 166 = .ok (.newarray .int, 2) := by decide +kernel
theorem dq_Md_init_168 : decode prog_14_method_1_code 168 = .ok (.putfield 72, 3) := by decide +kernel
theorem dq_Md_init_171 : decode prog_14_method_1_code 171 = .ok (.aload_n 0, 1) := by decide +kernel
theorem dq_Md_init_172 : decode prog_14_method_1_code 172 = .ok (.bipush 8, 2) := by decide +kernel
theorem dq_Md_init_174 : decode prog_14_method_1_code 174 = .ok (.newarray .int, 2) := by decide +kernel
theorem dq_Md_init_176 : decode prog_14_method_1_code 176 = .ok (.putfield 75, 3) := by decide +kernel
theorem dq_Md_init_179 : decode prog_14_method_1_code 179 = .ok (.aload_n 0, 1) := by decide +kernel
theorem dq_Md_init_180 : decode prog_14_method_1_code 180 = .ok (.bipush 8, 2) := by decide +kernel
theorem dq_Md_init_182 : decode prog_14_method_1_code 182 = .ok (.newarray .int, 2) := by decide +kernel
theorem dq_Md_init_184 : decode prog_14_method_1_code 184 = .ok (.putfield 78, 3) := by decide +kernel
theorem dq_Md_init_187 : decode prog_14_method_1_code 187 = .ok (.aload_n 0, 1) := by decide +kernel
theorem dq_Md_init_188 : decode prog_14_method_1_code 188 = .ok (.bipush 8, 2) := by decide +kernel
theorem dq_Md_init_190 : decode prog_14_method_1_code 190 = .ok (.newarray .int, 2) := by decide +kernel
theorem dq_Md_init_192 : decode prog_14_method_1_code 192 = .ok (.putfield 81, 3) := by decide +kernel
theorem dq_Md_init_195 : decode prog_14_method_1_code 195 = .ok (.aload_n 0, 1) := by decide +kernel
theorem dq_Md_init_196 : decode prog_14_method_1_code 196 = .ok (.bipush 8, 2) := by decide +kernel
theorem dq_Md_init_198 : decode prog_14_method_1_code 198 = .ok (.newarray .int, 2) := by decide +kernel
theorem dq_Md_init_200 : decode prog_14_method_1_code 200 = .ok (.putfield 84, 3) := by decide +kernel
theorem dq_Md_init_203 : decode prog_14_method_1_code 203 = .ok (.aload_n 0, 1) := by decide +kernel
theorem dq_Md_init_204 : decode prog_14_method_1_code 204 = .ok (.bipush 8, 2) := by decide +kernel
theorem dq_Md_init_206 : decode prog_14_method_1_code 206 = .ok (.newarray .boolean, 2) := by decide +kernel
theorem dq_Md_init_208 : decode prog_14_method_1_code 208 = .ok (.putfield 87, 3) := by decide +kernel
theorem dq_Md_init_211 : decode prog_14_method_1_code 211 = .ok (.aload_n 0, 1) := by decide +kernel
theorem dq_Md_init_212 : decode prog_14_method_1_code 212 = .ok (.bipush 8, 2) := by decide +kernel
theorem dq_Md_init_214 : decode prog_14_method_1_code 214 = .ok (.newarray .boolean, 2) := by decide +kernel
theorem dq_Md_init_216 : decode prog_14_method_1_code 216 = .ok (.putfield 90, 3) := by decide +kernel
theorem dq_Md_init_219 : decode prog_14_method_1_code 219 = .ok (.aload_n 0, 1) := by decide +kernel
theorem dq_Md_init_220 : decode prog_14_method_1_code 220 = .ok (.bipush 8, 2) := by decide +kernel
theorem dq_Md_init_222 : decode prog_14_method_1_code 222 = .ok (.newarray .int, 2) := by decide +kernel
theorem dq_Md_init_224 : decode prog_14_method_1_code 224 = .ok (.putfield 93, 3) := by decide +kernel
theorem dq_Md_init_227 : decode prog_14_method_1_code 227 = .ok (.aload_n 0, 1) := by decide +kernel
theorem dq_Md_init_228 : decode prog_14_method_1_code 228 = .ok (.bipush 9, 2) := by decide +kernel
theorem dq_Md_init_230 : decode prog_14_method_1_code 230 = .ok (.newarray .int, 2) := by decide +kernel
theorem dq_Md_init_232 : decode prog_14_method_1_code 232 = .ok (.putfield 96, 3) := by decide +kernel
theorem dq_Md_init_235 : decode prog_14_method_1_code 235 = .ok (.aload_n 0, 1) := by decide +kernel
theorem dq_Md_init_236 : decode prog_14_method_1_code 236 = .ok (.bipush 40, 2) := by decide +kernel
theorem dq_Md_init_238 : decode prog_14_method_1_code 238 = .ok (.newarray .int, 2) := by decide +kernel
theorem dq_Md_init_240 : decode prog_14_method_1_code 240 = .ok (.putfield 99, 3) := by decide +kernel
theorem dq_Md_init_243 : decode prog_14_method_1_code 243 = .ok (.aload_n 0, 1) := by decide +kernel
theorem dq_Md_init_244 : decode prog_14_method_1_code 244 = .ok (.bipush 40, 2) := by decide +kernel
theorem dq_Md_init_246 : decode prog_14_method_1_code 246 = .ok (.newarray .long, 2) := by decide +kernel
theorem dq_Md_init_248 : decode prog_14_method_1_code 248 = .ok (.putfield 102, 3) := by decide +kernel
theorem dq_Md_init_251 : decode prog_14_method_1_code 251 = .ok (.aload_n 0, 1) := by decide +kernel
theorem dq_Md_init_252 : decode prog_14_method_1_code 252 = .ok (.bipush 40, 2) := by decide +kernel
theorem dq_Md_init_254 : decode prog_14_method_1_code 254 = .ok (.newarray .int, 2) := by decide +kernel
theorem dq_Md_init_256 : decode prog_14_method_1_code 256 = .ok (.putfield 105, 3) := by decide +kernel
theorem dq_Md_init_259 : decode prog_14_method_1_code 259 = .ok (.aload_n 0, 1) := by decide +kernel
theorem dq_Md_init_260 : decode prog_14_method_1_code 260 = .ok (.bipush 40, 2) := by decide +kernel
theorem dq_Md_init_262 : decode prog_14_method_1_code 262 = .ok (.newarray .int, 2) := by decide +kernel
theorem dq_Md_init_264 : decode prog_14_method_1_code 264 = .ok (.putfield 108, 3) := by decide +kernel
theorem dq_Md_init_267 : decode prog_14_method_1_code 267 = .ok (.aload_n 0, 1) := by decide +kernel
theorem dq_Md_init_268 : decode prog_14_method_1_code 268 = .ok (.bipush 40, 2) := by decide +kernel
theorem dq_Md_init_270 : decode prog_14_method_1_code 270 = .ok (.newarray .long, 2) := by decide +kernel
theorem dq_Md_init_272 : decode prog_14_method_1_code 272 = .ok (.putfield 111, 3) := by decide +kernel
theorem dq_Md_init_275 : decode prog_14_method_1_code 275 = .ok (.aload_n 0, 1) := by decide +kernel
theorem dq_Md_init_276 : decode prog_14_method_1_code 276 = .ok (.bipush 40, 2) := by decide +kernel
theorem dq_Md_init_278 : decode prog_14_method_1_code 278 = .ok (.newarray .int, 2) := by decide +kernel
theorem dq_Md_init_280 : decode prog_14_method_1_code 280 = .ok (.putfield 114, 3) := by decide +kernel
theorem dq_Md_init_283 : decode prog_14_method_1_code 283 = .ok (.aload_n 0, 1) := by decide +kernel
theorem dq_Md_init_284 : decode prog_14_method_1_code 284 = .ok (.bipush 40, 2) := by decide +kernel
theorem dq_Md_init_286 : decode prog_14_method_1_code 286 = .ok (.newarray .boolean, 2) := by decide +kernel
theorem dq_Md_init_288 : decode prog_14_method_1_code 288 = .ok (.putfield 117, 3) := by decide +kernel
theorem dq_Md_init_291 : decode prog_14_method_1_code 291 = .ok (.aload_n 0, 1) := by decide +kernel
theorem dq_Md_init_292 : decode prog_14_method_1_code 292 = .ok (.bipush 20, 2) := by decide +kernel
theorem dq_Md_init_294 : decode prog_14_method_1_code 294 = .ok (.newarray .boolean, 2) := by decide +kernel
theorem dq_Md_init_296 : decode prog_14_method_1_code 296 = .ok (.putfield 120, 3) := by decide +kernel
theorem dq_Md_init_299 : decode prog_14_method_1_code 299 = .ok (.aload_n 0, 1) := by decide +kernel
theorem dq_Md_init_300 : decode prog_14_method_1_code 300 = .ok (.bipush 20, 2) := by decide +kernel
theorem dq_Md_init_302 : decode prog_14_method_1_code 302 = .ok (.newarray .long, 2) := by decide +kernel
theorem dq_Md_init_304 : decode prog_14_method_1_code 304 = .ok (.putfield 123, 3) := by decide +kernel
theorem dq_Md_init_307 : decode prog_14_method_1_code 307 = .ok (.aload_n 0, 1) := by decide +kernel
theorem dq_Md_init_308 : decode prog_14_method_1_code 308 = .ok (.bipush 20, 2) := by decide +kernel
theorem dq_Md_init_310 : decode prog_14_method_1_code 310 = .ok (.newarray .int, 2) := by decide +kernel
theorem dq_Md_init_312 : decode prog_14_method_1_code 312 = .ok (.putfield 126, 3) := by decide +kernel
theorem dq_Md_init_315 : decode prog_14_method_1_code 315 = .ok (.aload_n 0, 1) := by decide +kernel
theorem dq_Md_init_316 : decode prog_14_method_1_code 316 = .ok (.bipush 20, 2) := by decide +kernel
theorem dq_Md_init_318 : decode prog_14_method_1_code 318 = .ok (.newarray .long, 2) := by decide +kernel
theorem dq_Md_init_320 : decode prog_14_method_1_code 320 = .ok (.putfield 129, 3) := by decide +kernel
theorem dq_Md_init_323 : decode prog_14_method_1_code 323 = .ok (.aload_n 0, 1) := by decide +kernel
theorem dq_Md_init_324 : decode prog_14_method_1_code 324 = .ok (.bipush 20, 2) := by decide +kernel
theorem dq_Md_init_326 : decode prog_14_method_1_code 326 = .ok (.newarray .int, 2) := by decide +kernel
theorem dq_Md_init_328 : decode prog_14_method_1_code 328 = .ok (.putfield 132, 3) := by decide +kernel
theorem dq_Md_init_331 : decode prog_14_method_1_code 331 = .ok (.aload_n 0, 1) := by decide +kernel
theorem dq_Md_init_332 : decode prog_14_method_1_code 332 = .ok (.bipush 20, 2) := by decide +kernel
theorem dq_Md_init_334 : decode prog_14_method_1_code 334 = .ok (.newarray .int, 2) := by decide +kernel
theorem dq_Md_init_336 : decode prog_14_method_1_code 336 = .ok (.putfield 135, 3) := by decide +kernel
theorem dq_Md_init_339 : decode prog_14_method_1_code 339 = .ok (.aload_n 0, 1) := by decide +kernel
theorem dq_Md_init_340 : decode prog_14_method_1_code 340 = .ok (.bipush 20, 2) := by decide +kernel
theorem dq_Md_init_342 : decode prog_14_method_1_code 342 = .ok (.newarray .int, 2) := by decide +kernel
theorem dq_Md_init_344 : decode prog_14_method_1_code 344 = .ok (.putfield 138, 3) := by decide +kernel
theorem dq_Md_init_347 : decode prog_14_method_1_code 347 = .ok (.aload_n 0, 1) := by decide +kernel
theorem dq_Md_init_348 : decode prog_14_method_1_code 348 = .ok (.bipush 20, 2) := by decide +kernel
theorem dq_Md_init_350 : decode prog_14_method_1_code 350 = .ok (.newarray .int, 2) := by decide +kernel
theorem dq_Md_init_352 : decode prog_14_method_1_code 352 = .ok (.putfield 141, 3) := by decide +kernel
theorem dq_Md_init_355 : decode prog_14_method_1_code 355 = .ok (.aload_n 0, 1) := by decide +kernel
theorem dq_Md_init_356 : decode prog_14_method_1_code 356 = .ok (.bipush 6, 2) := by decide +kernel
theorem dq_Md_init_358 : decode prog_14_method_1_code 358 = .ok (.newarray .boolean, 2) := by decide +kernel
theorem dq_Md_init_360 : decode prog_14_method_1_code 360 = .ok (.putfield 144, 3) := by decide +kernel
theorem dq_Md_init_363 : decode prog_14_method_1_code 363 = .ok (.aload_n 0, 1) := by decide +kernel
theorem dq_Md_init_364 : decode prog_14_method_1_code 364 = .ok (.bipush 6, 2) := by decide +kernel
theorem dq_Md_init_366 : decode prog_14_method_1_code 366 = .ok (.newarray .long, 2) := by decide +kernel
theorem dq_Md_init_368 : decode prog_14_method_1_code 368 = .ok (.putfield 147, 3) := by decide +kernel
theorem dq_Md_init_371 : decode prog_14_method_1_code 371 = .ok (.aload_n 0, 1) := by decide +kernel
theorem dq_Md_init_372 : decode prog_14_method_1_code 372 = .ok (.bipush 6, 2) := by decide +kernel
theorem dq_Md_init_374 : decode prog_14_method_1_code 374 = .ok (.newarray .int, 2) := by decide +kernel
theorem dq_Md_init_376 : decode prog_14_method_1_code 376 = .ok (.putfield 150, 3) := by decide +kernel
theorem dq_Md_init_379 : decode prog_14_method_1_code 379 = .ok (.aload_n 0, 1) := by decide +kernel
theorem dq_Md_init_380 : decode prog_14_method_1_code 380 = .ok (.bipush 6, 2) := by decide +kernel
theorem dq_Md_init_382 : decode prog_14_method_1_code 382 = .ok (.newarray .long, 2) := by decide +kernel
theorem dq_Md_init_384 : decode prog_14_method_1_code 384 = .ok (.putfield 153, 3) := by decide +kernel
theorem dq_Md_init_387 : decode prog_14_method_1_code 387 = .ok (.aload_n 0, 1) := by decide +kernel
theorem dq_Md_init_388 : decode prog_14_method_1_code 388 = .ok (.bipush 6, 2) := by decide +kernel
theorem dq_Md_init_390 : decode prog_14_method_1_code 390 = .ok (.newarray .int, 2) := by decide +kernel
theorem dq_Md_init_392 : decode prog_14_method_1_code 392 = .ok (.putfield 156, 3) := by decide +kernel
theorem dq_Md_init_395 : decode prog_14_method_1_code 395 = .ok (.aload_n 0, 1) := by decide +kernel
theorem dq_Md_init_396 : decode prog_14_method_1_code 396 = .ok (.bipush 18, 2) := by decide +kernel
theorem dq_Md_init_398 : decode prog_14_method_1_code 398 = .ok (.newarray .long, 2) := by decide +kernel
theorem dq_Md_init_400 : decode prog_14_method_1_code 400 = .ok (.putfield 159, 3) := by decide +kernel
theorem dq_Md_init_403 : decode prog_14_method_1_code 403 = .ok (.aload_n 0, 1) := by decide +kernel
theorem dq_Md_init_404 : decode prog_14_method_1_code 404 = .ok (.bipush 18, 2) := by decide +kernel
theorem dq_Md_init_406 : decode prog_14_method_1_code 406 = .ok (.newarray .int, 2) := by decide +kernel
theorem dq_Md_init_408 : decode prog_14_method_1_code 408 = .ok (.putfield 162, 3) := by decide +kernel
theorem dq_Md_init_411 : decode prog_14_method_1_code 411 = .ok (.aload_n 0, 1) := by decide +kernel
theorem dq_Md_init_412 : decode prog_14_method_1_code 412 = .ok (.bipush 18, 2) := by decide +kernel
theorem dq_Md_init_414 : decode prog_14_method_1_code 414 = .ok (.newarray .int, 2) := by decide +kernel
theorem dq_Md_init_416 : decode prog_14_method_1_code 416 = .ok (.putfield 165, 3) := by decide +kernel
theorem dq_Md_init_419 : decode prog_14_method_1_code 419 = .ok (.aload_n 0, 1) := by decide +kernel
theorem dq_Md_init_420 : decode prog_14_method_1_code 420 = .ok (.iconst 2, 1) := by decide +kernel
theorem dq_Md_init_421 : decode prog_14_method_1_code 421 = .ok (.newarray .int, 2) := by decide +kernel
theorem dq_Md_init_423 : decode prog_14_method_1_code 423 = .ok (.putfield 168, 3) := by decide +kernel
theorem dq_Md_init_426 : decode prog_14_method_1_code 426 = .ok (.aload_n 0, 1) := by decide +kernel
theorem dq_Md_init_427 : decode prog_14_method_1_code 427 = .ok (.iconst 2, 1) := by decide +kernel
theorem dq_Md_init_428 : decode prog_14_method_1_code 428 = .ok (.newarray .int, 2) := by decide +kernel
theorem dq_Md_init_430 : decode prog_14_method_1_code 430 = .ok (.putfield 171, 3) := by decide +kernel
theorem dq_Md_init_433 : decode prog_14_method_1_code 433 = .ok (.aload_n 0, 1) := by decide +kernel
theorem dq_Md_init_434 : decode prog_14_method_1_code 434 = .ok (.iload_n 1, 1) := by decide +kernel
theorem dq_Md_init_435 : decode prog_14_method_1_code 435 = .ok (.ifCond .ge 7, 3) := by decide +kernel
theorem dq_Md_init_438 : decode prog_14_method_1_code 438 = .ok (.iconst 0, 1) := by decide +kernel
theorem dq_Md_init_439 : decode prog_14_method_1_code 439 = .ok (.goto 17, 3) := by decide +kernel
theorem dq_Md_init_442 : decode prog_14_method_1_code 442 = .ok (.iload_n 1, 1) := by decide +kernel
theorem dq_Md_init_443 : decode prog_14_method_1_code 443 = .ok (.sipush 300, 3) := by decide +kernel
theorem dq_Md_init_446 : decode prog_14_method_1_code 446 = .ok (.if_icmp .le 9, 3) := by decide +kernel
theorem dq_Md_init_449 : decode prog_14_method_1_code 449 = .ok (.sipush 300, 3) := by decide +kernel
theorem dq_Md_init_452 : decode prog_14_method_1_code 452 = .ok (.goto 4, 3) := by decide +kernel
theorem dq_Md_init_455 : decode prog_14_method_1_code 455 = .ok (.iload_n 1, 1) := by decide +kernel
theorem dq_Md_init_456 : decode prog_14_method_1_code 456 = .ok (.putfield 174, 3) := by decide +kernel
theorem dq_Md_init_459 : decode prog_14_method_1_code 459 = .ok (.return_, 1) := by decide +kernel
set_option maxRecDepth 100000 in
def pq_Md_init_456 (E : wo_E) (mc ms : Nat) (Post : wo_W → Prop) (G : wo_W) (c s : Nat) (y0 : Nat) (y1 : Int32) : Prop := wo_ty G y0 = 15 ∧ en_bs E ≤ y0 ∧ ∀ G3 : wo_W, G3 = wo_si G 955 y0 y1 → 
  Post G3
set_option maxRecDepth 100000 in
def pq_Md_init_379 (E : wo_E) (mc ms : Nat) (Post : wo_W → Prop) (G : wo_W) (c s : Nat) (x0 : Nat) (x1 : Int32) : Prop := ¬ (6 : Int32) < 0 ∧ (6 : Int32).toNatClampNeg ≤ 65536 ∧ (c + 1) ≤ mc ∧ (s + (6 : Int32).toNatClampNeg) ≤ ms ∧ ∀ q5 : Nat, wo_ty G q5 = 0 → en_bs E ≤ q5 → ∀ G8 : wo_W, G8 = wo_na G q5 73 (6 : Int32).toNatClampNeg → 
  wo_ty G8 x0 = 15 ∧ en_bs E ≤ x0 ∧ ∀ G12 : wo_W, G12 = wo_sr G8 948 x0 (some q5) → 
  ¬ (6 : Int32) < 0 ∧ (6 : Int32).toNatClampNeg ≤ 65536 ∧ ((c + 1) + 1) ≤ mc ∧ ((s + (6 : Int32).toNatClampNeg) + (6 : Int32).toNatClampNeg) ≤ ms ∧ ∀ q18 : Nat, wo_ty G12 q18 = 0 → en_bs E ≤ q18 → ∀ G21 : wo_W, G21 = wo_na G12 q18 66 (6 : Int32).toNatClampNeg → 
  en_bs E ≤ x0 ∧ ∀ G24 : wo_W, G24 = wo_sr G21 949 x0 (some q18) → 
  ¬ (18 : Int32) < 0 ∧ (18 : Int32).toNatClampNeg ≤ 65536 ∧ (((c + 1) + 1) + 1) ≤ mc ∧ (((s + (6 : Int32).toNatClampNeg) + (6 : Int32).toNatClampNeg) + (18 : Int32).toNatClampNeg) ≤ ms ∧ ∀ q30 : Nat, wo_ty G24 q30 = 0 → en_bs E ≤ q30 → ∀ G33 : wo_W, G33 = wo_na G24 q30 73 (18 : Int32).toNatClampNeg → 
  en_bs E ≤ x0 ∧ ∀ G36 : wo_W, G36 = wo_sr G33 950 x0 (some q30) → 
  ¬ (18 : Int32) < 0 ∧ (18 : Int32).toNatClampNeg ≤ 65536 ∧ ((((c + 1) + 1) + 1) + 1) ≤ mc ∧ ((((s + (6 : Int32).toNatClampNeg) + (6 : Int32).toNatClampNeg) + (18 : Int32).toNatClampNeg) + (18 : Int32).toNatClampNeg) ≤ ms ∧ ∀ q42 : Nat, wo_ty G36 q42 = 0 → en_bs E ≤ q42 → ∀ G45 : wo_W, G45 = wo_na G36 q42 66 (18 : Int32).toNatClampNeg → 
  en_bs E ≤ x0 ∧ ∀ G48 : wo_W, G48 = wo_sr G45 951 x0 (some q42) → 
  ¬ (18 : Int32) < 0 ∧ (18 : Int32).toNatClampNeg ≤ 65536 ∧ (((((c + 1) + 1) + 1) + 1) + 1) ≤ mc ∧ (((((s + (6 : Int32).toNatClampNeg) + (6 : Int32).toNatClampNeg) + (18 : Int32).toNatClampNeg) + (18 : Int32).toNatClampNeg) + (18 : Int32).toNatClampNeg) ≤ ms ∧ ∀ q54 : Nat, wo_ty G48 q54 = 0 → en_bs E ≤ q54 → ∀ G57 : wo_W, G57 = wo_na G48 q54 66 (18 : Int32).toNatClampNeg → 
  en_bs E ≤ x0 ∧ ∀ G60 : wo_W, G60 = wo_sr G57 952 x0 (some q54) → 
  ¬ (2 : Int32) < 0 ∧ (2 : Int32).toNatClampNeg ≤ 65536 ∧ ((((((c + 1) + 1) + 1) + 1) + 1) + 1) ≤ mc ∧ ((((((s + (6 : Int32).toNatClampNeg) + (6 : Int32).toNatClampNeg) + (18 : Int32).toNatClampNeg) + (18 : Int32).toNatClampNeg) + (18 : Int32).toNatClampNeg) + (2 : Int32).toNatClampNeg) ≤ ms ∧ ∀ q66 : Nat, wo_ty G60 q66 = 0 → en_bs E ≤ q66 → ∀ G69 : wo_W, G69 = wo_na G60 q66 66 (2 : Int32).toNatClampNeg → 
  en_bs E ≤ x0 ∧ ∀ G72 : wo_W, G72 = wo_sr G69 953 x0 (some q66) → 
  ¬ (2 : Int32) < 0 ∧ (2 : Int32).toNatClampNeg ≤ 65536 ∧ (((((((c + 1) + 1) + 1) + 1) + 1) + 1) + 1) ≤ mc ∧ (((((((s + (6 : Int32).toNatClampNeg) + (6 : Int32).toNatClampNeg) + (18 : Int32).toNatClampNeg) + (18 : Int32).toNatClampNeg) + (18 : Int32).toNatClampNeg) + (2 : Int32).toNatClampNeg) + (2 : Int32).toNatClampNeg) ≤ ms ∧ ∀ q78 : Nat, wo_ty G72 q78 = 0 → en_bs E ≤ q78 → ∀ G81 : wo_W, G81 = wo_na G72 q78 66 (2 : Int32).toNatClampNeg → 
  en_bs E ≤ x0 ∧ ∀ G84 : wo_W, G84 = wo_sr G81 954 x0 (some q78) → 
  (((0 : Int32) ≤ x1 → ((x1 ≤ (300 : Int32) → pq_Md_init_456 E mc ms Post G84 (((((((c + 1) + 1) + 1) + 1) + 1) + 1) + 1) (((((((s + (6 : Int32).toNatClampNeg) + (6 : Int32).toNatClampNeg) + (18 : Int32).toNatClampNeg) + (18 : Int32).toNatClampNeg) + (18 : Int32).toNatClampNeg) + (2 : Int32).toNatClampNeg) + (2 : Int32).toNatClampNeg) x0 x1) ∧
    (¬ x1 ≤ (300 : Int32) → pq_Md_init_456 E mc ms Post G84 (((((((c + 1) + 1) + 1) + 1) + 1) + 1) + 1) (((((((s + (6 : Int32).toNatClampNeg) + (6 : Int32).toNatClampNeg) + (18 : Int32).toNatClampNeg) + (18 : Int32).toNatClampNeg) + (18 : Int32).toNatClampNeg) + (2 : Int32).toNatClampNeg) + (2 : Int32).toNatClampNeg) x0 (300 : Int32)))) ∧
  (¬ (0 : Int32) ≤ x1 → pq_Md_init_456 E mc ms Post G84 (((((((c + 1) + 1) + 1) + 1) + 1) + 1) + 1) (((((((s + (6 : Int32).toNatClampNeg) + (6 : Int32).toNatClampNeg) + (18 : Int32).toNatClampNeg) + (18 : Int32).toNatClampNeg) + (18 : Int32).toNatClampNeg) + (2 : Int32).toNatClampNeg) + (2 : Int32).toNatClampNeg) x0 (0 : Int32)))
set_option maxRecDepth 100000 in
def pq_Md_init_251 (E : wo_E) (mc ms : Nat) (Post : wo_W → Prop) (G : wo_W) (c s : Nat) (x0 : Nat) (x1 : Int32) : Prop := ¬ (40 : Int32) < 0 ∧ (40 : Int32).toNatClampNeg ≤ 65536 ∧ (c + 1) ≤ mc ∧ (s + (40 : Int32).toNatClampNeg) ≤ ms ∧ ∀ q5 : Nat, wo_ty G q5 = 0 → en_bs E ≤ q5 → ∀ G8 : wo_W, G8 = wo_na G q5 66 (40 : Int32).toNatClampNeg → 
  wo_ty G8 x0 = 15 ∧ en_bs E ≤ x0 ∧ ∀ G12 : wo_W, G12 = wo_sr G8 931 x0 (some q5) → 
  ¬ (40 : Int32) < 0 ∧ (40 : Int32).toNatClampNeg ≤ 65536 ∧ ((c + 1) + 1) ≤ mc ∧ ((s + (40 : Int32).toNatClampNeg) + (40 : Int32).toNatClampNeg) ≤ ms ∧ ∀ q18 : Nat, wo_ty G12 q18 = 0 → en_bs E ≤ q18 → ∀ G21 : wo_W, G21 = wo_na G12 q18 66 (40 : Int32).toNatClampNeg → 
  en_bs E ≤ x0 ∧ ∀ G24 : wo_W, G24 = wo_sr G21 932 x0 (some q18) → 
  ¬ (40 : Int32) < 0 ∧ (40 : Int32).toNatClampNeg ≤ 65536 ∧ (((c + 1) + 1) + 1) ≤ mc ∧ (((s + (40 : Int32).toNatClampNeg) + (40 : Int32).toNatClampNeg) + (40 : Int32).toNatClampNeg) ≤ ms ∧ ∀ q30 : Nat, wo_ty G24 q30 = 0 → en_bs E ≤ q30 → ∀ G33 : wo_W, G33 = wo_na G24 q30 73 (40 : Int32).toNatClampNeg → 
  en_bs E ≤ x0 ∧ ∀ G36 : wo_W, G36 = wo_sr G33 933 x0 (some q30) → 
  ¬ (40 : Int32) < 0 ∧ (40 : Int32).toNatClampNeg ≤ 65536 ∧ ((((c + 1) + 1) + 1) + 1) ≤ mc ∧ ((((s + (40 : Int32).toNatClampNeg) + (40 : Int32).toNatClampNeg) + (40 : Int32).toNatClampNeg) + (40 : Int32).toNatClampNeg) ≤ ms ∧ ∀ q42 : Nat, wo_ty G36 q42 = 0 → en_bs E ≤ q42 → ∀ G45 : wo_W, G45 = wo_na G36 q42 66 (40 : Int32).toNatClampNeg → 
  en_bs E ≤ x0 ∧ ∀ G48 : wo_W, G48 = wo_sr G45 934 x0 (some q42) → 
  ¬ (40 : Int32) < 0 ∧ (40 : Int32).toNatClampNeg ≤ 65536 ∧ (((((c + 1) + 1) + 1) + 1) + 1) ≤ mc ∧ (((((s + (40 : Int32).toNatClampNeg) + (40 : Int32).toNatClampNeg) + (40 : Int32).toNatClampNeg) + (40 : Int32).toNatClampNeg) + (40 : Int32).toNatClampNeg) ≤ ms ∧ ∀ q54 : Nat, wo_ty G48 q54 = 0 → en_bs E ≤ q54 → ∀ G57 : wo_W, G57 = wo_na G48 q54 72 (40 : Int32).toNatClampNeg → 
  en_bs E ≤ x0 ∧ ∀ G60 : wo_W, G60 = wo_sr G57 935 x0 (some q54) → 
  ¬ (20 : Int32) < 0 ∧ (20 : Int32).toNatClampNeg ≤ 65536 ∧ ((((((c + 1) + 1) + 1) + 1) + 1) + 1) ≤ mc ∧ ((((((s + (40 : Int32).toNatClampNeg) + (40 : Int32).toNatClampNeg) + (40 : Int32).toNatClampNeg) + (40 : Int32).toNatClampNeg) + (40 : Int32).toNatClampNeg) + (20 : Int32).toNatClampNeg) ≤ ms ∧ ∀ q66 : Nat, wo_ty G60 q66 = 0 → en_bs E ≤ q66 → ∀ G69 : wo_W, G69 = wo_na G60 q66 72 (20 : Int32).toNatClampNeg → 
  en_bs E ≤ x0 ∧ ∀ G72 : wo_W, G72 = wo_sr G69 936 x0 (some q66) → 
  ¬ (20 : Int32) < 0 ∧ (20 : Int32).toNatClampNeg ≤ 65536 ∧ (((((((c + 1) + 1) + 1) + 1) + 1) + 1) + 1) ≤ mc ∧ (((((((s + (40 : Int32).toNatClampNeg) + (40 : Int32).toNatClampNeg) + (40 : Int32).toNatClampNeg) + (40 : Int32).toNatClampNeg) + (40 : Int32).toNatClampNeg) + (20 : Int32).toNatClampNeg) + (20 : Int32).toNatClampNeg) ≤ ms ∧ ∀ q78 : Nat, wo_ty G72 q78 = 0 → en_bs E ≤ q78 → ∀ G81 : wo_W, G81 = wo_na G72 q78 73 (20 : Int32).toNatClampNeg → 
  en_bs E ≤ x0 ∧ ∀ G84 : wo_W, G84 = wo_sr G81 937 x0 (some q78) → 
  ¬ (20 : Int32) < 0 ∧ (20 : Int32).toNatClampNeg ≤ 65536 ∧ ((((((((c + 1) + 1) + 1) + 1) + 1) + 1) + 1) + 1) ≤ mc ∧ ((((((((s + (40 : Int32).toNatClampNeg) + (40 : Int32).toNatClampNeg) + (40 : Int32).toNatClampNeg) + (40 : Int32).toNatClampNeg) + (40 : Int32).toNatClampNeg) + (20 : Int32).toNatClampNeg) + (20 : Int32).toNatClampNeg) + (20 : Int32).toNatClampNeg) ≤ ms ∧ ∀ q90 : Nat, wo_ty G84 q90 = 0 → en_bs E ≤ q90 → ∀ G93 : wo_W, G93 = wo_na G84 q90 66 (20 : Int32).toNatClampNeg → 
  en_bs E ≤ x0 ∧ ∀ G96 : wo_W, G96 = wo_sr G93 938 x0 (some q90) → 
  ¬ (20 : Int32) < 0 ∧ (20 : Int32).toNatClampNeg ≤ 65536 ∧ (((((((((c + 1) + 1) + 1) + 1) + 1) + 1) + 1) + 1) + 1) ≤ mc ∧ (((((((((s + (40 : Int32).toNatClampNeg) + (40 : Int32).toNatClampNeg) + (40 : Int32).toNatClampNeg) + (40 : Int32).toNatClampNeg) + (40 : Int32).toNatClampNeg) + (20 : Int32).toNatClampNeg) + (20 : Int32).toNatClampNeg) + (20 : Int32).toNatClampNeg) + (20 : Int32).toNatClampNeg) ≤ ms ∧ ∀ q102 : Nat, wo_ty G96 q102 = 0 → en_bs E ≤ q102 → ∀ G105 : wo_W, G105 = wo_na G96 q102 73 (20 : Int32).toNatClampNeg → 
  en_bs E ≤ x0 ∧ ∀ G108 : wo_W, G108 = wo_sr G105 939 x0 (some q102) → 
  ¬ (20 : Int32) < 0 ∧ (20 : Int32).toNatClampNeg ≤ 65536 ∧ ((((((((((c + 1) + 1) + 1) + 1) + 1) + 1) + 1) + 1) + 1) + 1) ≤ mc ∧ ((((((((((s + (40 : Int32).toNatClampNeg) + (40 : Int32).toNatClampNeg) + (40 : Int32).toNatClampNeg) + (40 : Int32).toNatClampNeg) + (40 : Int32).toNatClampNeg) + (20 : Int32).toNatClampNeg) + (20 : Int32).toNatClampNeg) + (20 : Int32).toNatClampNeg) + (20 : Int32).toNatClampNeg) + (20 : Int32).toNatClampNeg) ≤ ms ∧ ∀ q114 : Nat, wo_ty G108 q114 = 0 → en_bs E ≤ q114 → ∀ G117 : wo_W, G117 = wo_na G108 q114 66 (20 : Int32).toNatClampNeg → 
  en_bs E ≤ x0 ∧ ∀ G120 : wo_W, G120 = wo_sr G117 940 x0 (some q114) → 
  ¬ (20 : Int32) < 0 ∧ (20 : Int32).toNatClampNeg ≤ 65536 ∧ (((((((((((c + 1) + 1) + 1) + 1) + 1) + 1) + 1) + 1) + 1) + 1) + 1) ≤ mc ∧ (((((((((((s + (40 : Int32).toNatClampNeg) + (40 : Int32).toNatClampNeg) + (40 : Int32).toNatClampNeg) + (40 : Int32).toNatClampNeg) + (40 : Int32).toNatClampNeg) + (20 : Int32).toNatClampNeg) + (20 : Int32).toNatClampNeg) + (20 : Int32).toNatClampNeg) + (20 : Int32).toNatClampNeg) + (20 : Int32).toNatClampNeg) + (20 : Int32).toNatClampNeg) ≤ ms ∧ ∀ q126 : Nat, wo_ty G120 q126 = 0 → en_bs E ≤ q126 → ∀ G129 : wo_W, G129 = wo_na G120 q126 66 (20 : Int32).toNatClampNeg → 
  en_bs E ≤ x0 ∧ ∀ G132 : wo_W, G132 = wo_sr G129 941 x0 (some q126) → 
  ¬ (20 : Int32) < 0 ∧ (20 : Int32).toNatClampNeg ≤ 65536 ∧ ((((((((((((c + 1) + 1) + 1) + 1) + 1) + 1) + 1) + 1) + 1) + 1) + 1) + 1) ≤ mc ∧ ((((((((((((s + (40 : Int32).toNatClampNeg) + (40 : Int32).toNatClampNeg) + (40 : Int32).toNatClampNeg) + (40 : Int32).toNatClampNeg) + (40 : Int32).toNatClampNeg) + (20 : Int32).toNatClampNeg) + (20 : Int32).toNatClampNeg) + (20 : Int32).toNatClampNeg) + (20 : Int32).toNatClampNeg) + (20 : Int32).toNatClampNeg) + (20 : Int32).toNatClampNeg) + (20 : Int32).toNatClampNeg) ≤ ms ∧ ∀ q138 : Nat, wo_ty G132 q138 = 0 → en_bs E ≤ q138 → ∀ G141 : wo_W, G141 = wo_na G132 q138 66 (20 : Int32).toNatClampNeg → 
  en_bs E ≤ x0 ∧ ∀ G144 : wo_W, G144 = wo_sr G141 942 x0 (some q138) → 
  ¬ (20 : Int32) < 0 ∧ (20 : Int32).toNatClampNeg ≤ 65536 ∧ (((((((((((((c + 1) + 1) + 1) + 1) + 1) + 1) + 1) + 1) + 1) + 1) + 1) + 1) + 1) ≤ mc ∧ (((((((((((((s + (40 : Int32).toNatClampNeg) + (40 : Int32).toNatClampNeg) + (40 : Int32).toNatClampNeg) + (40 : Int32).toNatClampNeg) + (40 : Int32).toNatClampNeg) + (20 : Int32).toNatClampNeg) + (20 : Int32).toNatClampNeg) + (20 : Int32).toNatClampNeg) + (20 : Int32).toNatClampNeg) + (20 : Int32).toNatClampNeg) + (20 : Int32).toNatClampNeg) + (20 : Int32).toNatClampNeg) + (20 : Int32).toNatClampNeg) ≤ ms ∧ ∀ q150 : Nat, wo_ty G144 q150 = 0 → en_bs E ≤ q150 → ∀ G153 : wo_W, G153 = wo_na G144 q150 66 (20 : Int32).toNatClampNeg → 
  en_bs E ≤ x0 ∧ ∀ G156 : wo_W, G156 = wo_sr G153 943 x0 (some q150) → 
  ¬ (6 : Int32) < 0 ∧ (6 : Int32).toNatClampNeg ≤ 65536 ∧ ((((((((((((((c + 1) + 1) + 1) + 1) + 1) + 1) + 1) + 1) + 1) + 1) + 1) + 1) + 1) + 1) ≤ mc ∧ ((((((((((((((s + (40 : Int32).toNatClampNeg) + (40 : Int32).toNatClampNeg) + (40 : Int32).toNatClampNeg) + (40 : Int32).toNatClampNeg) + (40 : Int32).toNatClampNeg) + (20 : Int32).toNatClampNeg) + (20 : Int32).toNatClampNeg) + (20 : Int32).toNatClampNeg) + (20 : Int32).toNatClampNeg) + (20 : Int32).toNatClampNeg) + (20 : Int32).toNatClampNeg) + (20 : Int32).toNatClampNeg) + (20 : Int32).toNatClampNeg) + (6 : Int32).toNatClampNeg) ≤ ms ∧ ∀ q162 : Nat, wo_ty G156 q162 = 0 → en_bs E ≤ q162 → ∀ G165 : wo_W, G165 = wo_na G156 q162 72 (6 : Int32).toNatClampNeg → 
  en_bs E ≤ x0 ∧ ∀ G168 : wo_W, G168 = wo_sr G165 945 x0 (some q162) → 
  ¬ (6 : Int32) < 0 ∧ (6 : Int32).toNatClampNeg ≤ 65536 ∧ (((((((((((((((c + 1) + 1) + 1) + 1) + 1) + 1) + 1) + 1) + 1) + 1) + 1) + 1) + 1) + 1) + 1) ≤ mc ∧ (((((((((((((((s + (40 : Int32).toNatClampNeg) + (40 : Int32).toNatClampNeg) + (40 : Int32).toNatClampNeg) + (40 : Int32).toNatClampNeg) + (40 : Int32).toNatClampNeg) + (20 : Int32).toNatClampNeg) + (20 : Int32).toNatClampNeg) + (20 : Int32).toNatClampNeg) + (20 : Int32).toNatClampNeg) + (20 : Int32).toNatClampNeg) + (20 : Int32).toNatClampNeg) + (20 : Int32).toNatClampNeg) + (20 : Int32).toNatClampNeg) + (6 : Int32).toNatClampNeg) + (6 : Int32).toNatClampNeg) ≤ ms ∧ ∀ q174 : Nat, wo_ty G168 q174 = 0 → en_bs E ≤ q174 → ∀ G177 : wo_W, G177 = wo_na G168 q174 73 (6 : Int32).toNatClampNeg → 
  en_bs E ≤ x0 ∧ ∀ G180 : wo_W, G180 = wo_sr G177 946 x0 (some q174) → 
  ¬ (6 : Int32) < 0 ∧ (6 : Int32).toNatClampNeg ≤ 65536 ∧ ((((((((((((((((c + 1) + 1) + 1) + 1) + 1) + 1) + 1) + 1) + 1) + 1) + 1) + 1) + 1) + 1) + 1) + 1) ≤ mc ∧ ((((((((((((((((s + (40 : Int32).toNatClampNeg) + (40 : Int32).toNatClampNeg) + (40 : Int32).toNatClampNeg) + (40 : Int32).toNatClampNeg) + (40 : Int32).toNatClampNeg) + (20 : Int32).toNatClampNeg) + (20 : Int32).toNatClampNeg) + (20 : Int32).toNatClampNeg) + (20 : Int32).toNatClampNeg) + (20 : Int32).toNatClampNeg) + (20 : Int32).toNatClampNeg) + (20 : Int32).toNatClampNeg) + (20 : Int32).toNatClampNeg) + (6 : Int32).toNatClampNeg) + (6 : Int32).toNatClampNeg) + (6 : Int32).toNatClampNeg) ≤ ms ∧ ∀ q186 : Nat, wo_ty G180 q186 = 0 → en_bs E ≤ q186 → ∀ G189 : wo_W, G189 = wo_na G180 q186 66 (6 : Int32).toNatClampNeg → 
  en_bs E ≤ x0 ∧ ∀ G192 : wo_W, G192 = wo_sr G189 947 x0 (some q186) → 
  pq_Md_init_379 E mc ms Post G192 ((((((((((((((((c + 1) + 1) + 1) + 1) + 1) + 1) + 1) + 1) + 1) + 1) + 1) + 1) + 1) + 1) + 1) + 1) ((((((((((((((((s + (40 : Int32).toNatClampNeg) + (40 : Int32).toNatClampNeg) + (40 : Int32).toNatClampNeg) + (40 : Int32).toNatClampNeg) + (40 : Int32).toNatClampNeg) + (20 : Int32).toNatClampNeg) + (20 : Int32).toNatClampNeg) + (20 : Int32).toNatClampNeg) + (20 : Int32).toNatClampNeg) + (20 : Int32).toNatClampNeg) + (20 : Int32).toNatClampNeg) + (20 : Int32).toNatClampNeg) + (20 : Int32).toNatClampNeg) + (6 : Int32).toNatClampNeg) + (6 : Int32).toNatClampNeg) + (6 : Int32).toNatClampNeg) x0 x1
set_option maxRecDepth 100000 in
def pq_Md_init_123 (E : wo_E) (mc ms : Nat) (Post : wo_W → Prop) (G : wo_W) (c s : Nat) (x0 : Nat) (x1 : Int32) : Prop := ¬ (9 : Int32) < 0 ∧ (9 : Int32).toNatClampNeg ≤ 65536 ∧ (c + 1) ≤ mc ∧ (s + (9 : Int32).toNatClampNeg) ≤ ms ∧ ∀ q5 : Nat, wo_ty G q5 = 0 → en_bs E ≤ q5 → ∀ G8 : wo_W, G8 = wo_na G q5 73 (9 : Int32).toNatClampNeg → 
  wo_ty G8 x0 = 15 ∧ en_bs E ≤ x0 ∧ ∀ G12 : wo_W, G12 = wo_sr G8 912 x0 (some q5) → 
  ¬ (9 : Int32) < 0 ∧ (9 : Int32).toNatClampNeg ≤ 65536 ∧ ((c + 1) + 1) ≤ mc ∧ ((s + (9 : Int32).toNatClampNeg) + (9 : Int32).toNatClampNeg) ≤ ms ∧ ∀ q18 : Nat, wo_ty G12 q18 = 0 → en_bs E ≤ q18 → ∀ G21 : wo_W, G21 = wo_na G12 q18 66 (9 : Int32).toNatClampNeg → 
  en_bs E ≤ x0 ∧ ∀ G24 : wo_W, G24 = wo_sr G21 913 x0 (some q18) → 
  ¬ (24 : Int32) < 0 ∧ (24 : Int32).toNatClampNeg ≤ 65536 ∧ (((c + 1) + 1) + 1) ≤ mc ∧ (((s + (9 : Int32).toNatClampNeg) + (9 : Int32).toNatClampNeg) + (24 : Int32).toNatClampNeg) ≤ ms ∧ ∀ q30 : Nat, wo_ty G24 q30 = 0 → en_bs E ≤ q30 → ∀ G33 : wo_W, G33 = wo_na G24 q30 66 (24 : Int32).toNatClampNeg → 
  en_bs E ≤ x0 ∧ ∀ G36 : wo_W, G36 = wo_sr G33 916 x0 (some q30) → 
  ¬ (24 : Int32) < 0 ∧ (24 : Int32).toNatClampNeg ≤ 65536 ∧ ((((c + 1) + 1) + 1) + 1) ≤ mc ∧ ((((s + (9 : Int32).toNatClampNeg) + (9 : Int32).toNatClampNeg) + (24 : Int32).toNatClampNeg) + (24 : Int32).toNatClampNeg) ≤ ms ∧ ∀ q42 : Nat, wo_ty G36 q42 = 0 → en_bs E ≤ q42 → ∀ G45 : wo_W, G45 = wo_na G36 q42 66 (24 : Int32).toNatClampNeg → 
  en_bs E ≤ x0 ∧ ∀ G48 : wo_W, G48 = wo_sr G45 917 x0 (some q42) → 
  ¬ (8 : Int32) < 0 ∧ (8 : Int32).toNatClampNeg ≤ 65536 ∧ (((((c + 1) + 1) + 1) + 1) + 1) ≤ mc ∧ (((((s + (9 : Int32).toNatClampNeg) + (9 : Int32).toNatClampNeg) + (24 : Int32).toNatClampNeg) + (24 : Int32).toNatClampNeg) + (8 : Int32).toNatClampNeg) ≤ ms ∧ ∀ q54 : Nat, wo_ty G48 q54 = 0 → en_bs E ≤ q54 → ∀ G57 : wo_W, G57 = wo_na G48 q54 66 (8 : Int32).toNatClampNeg → 
  en_bs E ≤ x0 ∧ ∀ G60 : wo_W, G60 = wo_sr G57 918 x0 (some q54) → 
  ¬ (8 : Int32) < 0 ∧ (8 : Int32).toNatClampNeg ≤ 65536 ∧ ((((((c + 1) + 1) + 1) + 1) + 1) + 1) ≤ mc ∧ ((((((s + (9 : Int32).toNatClampNeg) + (9 : Int32).toNatClampNeg) + (24 : Int32).toNatClampNeg) + (24 : Int32).toNatClampNeg) + (8 : Int32).toNatClampNeg) + (8 : Int32).toNatClampNeg) ≤ ms ∧ ∀ q66 : Nat, wo_ty G60 q66 = 0 → en_bs E ≤ q66 → ∀ G69 : wo_W, G69 = wo_na G60 q66 66 (8 : Int32).toNatClampNeg → 
  en_bs E ≤ x0 ∧ ∀ G72 : wo_W, G72 = wo_sr G69 919 x0 (some q66) → 
  ¬ (8 : Int32) < 0 ∧ (8 : Int32).toNatClampNeg ≤ 65536 ∧ (((((((c + 1) + 1) + 1) + 1) + 1) + 1) + 1) ≤ mc ∧ (((((((s + (9 : Int32).toNatClampNeg) + (9 : Int32).toNatClampNeg) + (24 : Int32).toNatClampNeg) + (24 : Int32).toNatClampNeg) + (8 : Int32).toNatClampNeg) + (8 : Int32).toNatClampNeg) + (8 : Int32).toNatClampNeg) ≤ ms ∧ ∀ q78 : Nat, wo_ty G72 q78 = 0 → en_bs E ≤ q78 → ∀ G81 : wo_W, G81 = wo_na G72 q78 66 (8 : Int32).toNatClampNeg → 
  en_bs E ≤ x0 ∧ ∀ G84 : wo_W, G84 = wo_sr G81 920 x0 (some q78) → 
  ¬ (8 : Int32) < 0 ∧ (8 : Int32).toNatClampNeg ≤ 65536 ∧ ((((((((c + 1) + 1) + 1) + 1) + 1) + 1) + 1) + 1) ≤ mc ∧ ((((((((s + (9 : Int32).toNatClampNeg) + (9 : Int32).toNatClampNeg) + (24 : Int32).toNatClampNeg) + (24 : Int32).toNatClampNeg) + (8 : Int32).toNatClampNeg) + (8 : Int32).toNatClampNeg) + (8 : Int32).toNatClampNeg) + (8 : Int32).toNatClampNeg) ≤ ms ∧ ∀ q90 : Nat, wo_ty G84 q90 = 0 → en_bs E ≤ q90 → ∀ G93 : wo_W, G93 = wo_na G84 q90 66 (8 : Int32).toNatClampNeg → 
  en_bs E ≤ x0 ∧ ∀ G96 : wo_W, G96 = wo_sr G93 921 x0 (some q90) → 
  ¬ (8 : Int32) < 0 ∧ (8 : Int32).toNatClampNeg ≤ 65536 ∧ (((((((((c + 1) + 1) + 1) + 1) + 1) + 1) + 1) + 1) + 1) ≤ mc ∧ (((((((((s + (9 : Int32).toNatClampNeg) + (9 : Int32).toNatClampNeg) + (24 : Int32).toNatClampNeg) + (24 : Int32).toNatClampNeg) + (8 : Int32).toNatClampNeg) + (8 : Int32).toNatClampNeg) + (8 : Int32).toNatClampNeg) + (8 : Int32).toNatClampNeg) + (8 : Int32).toNatClampNeg) ≤ ms ∧ ∀ q102 : Nat, wo_ty G96 q102 = 0 → en_bs E ≤ q102 → ∀ G105 : wo_W, G105 = wo_na G96 q102 66 (8 : Int32).toNatClampNeg → 
  en_bs E ≤ x0 ∧ ∀ G108 : wo_W, G108 = wo_sr G105 922 x0 (some q102) → 
  ¬ (8 : Int32) < 0 ∧ (8 : Int32).toNatClampNeg ≤ 65536 ∧ ((((((((((c + 1) + 1) + 1) + 1) + 1) + 1) + 1) + 1) + 1) + 1) ≤ mc ∧ ((((((((((s + (9 : Int32).toNatClampNeg) + (9 : Int32).toNatClampNeg) + (24 : Int32).toNatClampNeg) + (24 : Int32).toNatClampNeg) + (8 : Int32).toNatClampNeg) + (8 : Int32).toNatClampNeg) + (8 : Int32).toNatClampNeg) + (8 : Int32).toNatClampNeg) + (8 : Int32).toNatClampNeg) + (8 : Int32).toNatClampNeg) ≤ ms ∧ ∀ q114 : Nat, wo_ty G108 q114 = 0 → en_bs E ≤ q114 → ∀ G117 : wo_W, G117 = wo_na G108 q114 66 (8 : Int32).toNatClampNeg → 
  en_bs E ≤ x0 ∧ ∀ G120 : wo_W, G120 = wo_sr G117 923 x0 (some q114) → 
  ¬ (8 : Int32) < 0 ∧ (8 : Int32).toNatClampNeg ≤ 65536 ∧ (((((((((((c + 1) + 1) + 1) + 1) + 1) + 1) + 1) + 1) + 1) + 1) + 1) ≤ mc ∧ (((((((((((s + (9 : Int32).toNatClampNeg) + (9 : Int32).toNatClampNeg) + (24 : Int32).toNatClampNeg) + (24 : Int32).toNatClampNeg) + (8 : Int32).toNatClampNeg) + (8 : Int32).toNatClampNeg) + (8 : Int32).toNatClampNeg) + (8 : Int32).toNatClampNeg) + (8 : Int32).toNatClampNeg) + (8 : Int32).toNatClampNeg) + (8 : Int32).toNatClampNeg) ≤ ms ∧ ∀ q126 : Nat, wo_ty G120 q126 = 0 → en_bs E ≤ q126 → ∀ G129 : wo_W, G129 = wo_na G120 q126 72 (8 : Int32).toNatClampNeg → 
  en_bs E ≤ x0 ∧ ∀ G132 : wo_W, G132 = wo_sr G129 924 x0 (some q126) → 
  ¬ (8 : Int32) < 0 ∧ (8 : Int32).toNatClampNeg ≤ 65536 ∧ ((((((((((((c + 1) + 1) + 1) + 1) + 1) + 1) + 1) + 1) + 1) + 1) + 1) + 1) ≤ mc ∧ ((((((((((((s + (9 : Int32).toNatClampNeg) + (9 : Int32).toNatClampNeg) + (24 : Int32).toNatClampNeg) + (24 : Int32).toNatClampNeg) + (8 : Int32).toNatClampNeg) + (8 : Int32).toNatClampNeg) + (8 : Int32).toNatClampNeg) + (8 : Int32).toNatClampNeg) + (8 : Int32).toNatClampNeg) + (8 : Int32).toNatClampNeg) + (8 : Int32).toNatClampNeg) + (8 : Int32).toNatClampNeg) ≤ ms ∧ ∀ q138 : Nat, wo_ty G132 q138 = 0 → en_bs E ≤ q138 → ∀ G141 : wo_W, G141 = wo_na G132 q138 72 (8 : Int32).toNatClampNeg → 
  en_bs E ≤ x0 ∧ ∀ G144 : wo_W, G144 = wo_sr G141 925 x0 (some q138) → 
  ¬ (8 : Int32) < 0 ∧ (8 : Int32).toNatClampNeg ≤ 65536 ∧ (((((((((((((c + 1) + 1) + 1) + 1) + 1) + 1) + 1) + 1) + 1) + 1) + 1) + 1) + 1) ≤ mc ∧ (((((((((((((s + (9 : Int32).toNatClampNeg) + (9 : Int32).toNatClampNeg) + (24 : Int32).toNatClampNeg) + (24 : Int32).toNatClampNeg) + (8 : Int32).toNatClampNeg) + (8 : Int32).toNatClampNeg) + (8 : Int32).toNatClampNeg) + (8 : Int32).toNatClampNeg) + (8 : Int32).toNatClampNeg) + (8 : Int32).toNatClampNeg) + (8 : Int32).toNatClampNeg) + (8 : Int32).toNatClampNeg) + (8 : Int32).toNatClampNeg) ≤ ms ∧ ∀ q150 : Nat, wo_ty G144 q150 = 0 → en_bs E ≤ q150 → ∀ G153 : wo_W, G153 = wo_na G144 q150 66 (8 : Int32).toNatClampNeg → 
  en_bs E ≤ x0 ∧ ∀ G156 : wo_W, G156 = wo_sr G153 926 x0 (some q150) → 
  ¬ (9 : Int32) < 0 ∧ (9 : Int32).toNatClampNeg ≤ 65536 ∧ ((((((((((((((c + 1) + 1) + 1) + 1) + 1) + 1) + 1) + 1) + 1) + 1) + 1) + 1) + 1) + 1) ≤ mc ∧ ((((((((((((((s + (9 : Int32).toNatClampNeg) + (9 : Int32).toNatClampNeg) + (24 : Int32).toNatClampNeg) + (24 : Int32).toNatClampNeg) + (8 : Int32).toNatClampNeg) + (8 : Int32).toNatClampNeg) + (8 : Int32).toNatClampNeg) + (8 : Int32).toNatClampNeg) + (8 : Int32).toNatClampNeg) + (8 : Int32).toNatClampNeg) + (8 : Int32).toNatClampNeg) + (8 : Int32).toNatClampNeg) + (8 : Int32).toNatClampNeg) + (9 : Int32).toNatClampNeg) ≤ ms ∧ ∀ q162 : Nat, wo_ty G156 q162 = 0 → en_bs E ≤ q162 → ∀ G165 : wo_W, G165 = wo_na G156 q162 66 (9 : Int32).toNatClampNeg → 
  en_bs E ≤ x0 ∧ ∀ G168 : wo_W, G168 = wo_sr G165 927 x0 (some q162) → 
  ¬ (40 : Int32) < 0 ∧ (40 : Int32).toNatClampNeg ≤ 65536 ∧ (((((((((((((((c + 1) + 1) + 1) + 1) + 1) + 1) + 1) + 1) + 1) + 1) + 1) + 1) + 1) + 1) + 1) ≤ mc ∧ (((((((((((((((s + (9 : Int32).toNatClampNeg) + (9 : Int32).toNatClampNeg) + (24 : Int32).toNatClampNeg) + (24 : Int32).toNatClampNeg) + (8 : Int32).toNatClampNeg) + (8 : Int32).toNatClampNeg) + (8 : Int32).toNatClampNeg) + (8 : Int32).toNatClampNeg) + (8 : Int32).toNatClampNeg) + (8 : Int32).toNatClampNeg) + (8 : Int32).toNatClampNeg) + (8 : Int32).toNatClampNeg) + (8 : Int32).toNatClampNeg) + (9 : Int32).toNatClampNeg) + (40 : Int32).toNatClampNeg) ≤ ms ∧ ∀ q174 : Nat, wo_ty G168 q174 = 0 → en_bs E ≤ q174 → ∀ G177 : wo_W, G177 = wo_na G168 q174 66 (40 : Int32).toNatClampNeg → 
  en_bs E ≤ x0 ∧ ∀ G180 : wo_W, G180 = wo_sr G177 929 x0 (some q174) → 
  ¬ (40 : Int32) < 0 ∧ (40 : Int32).toNatClampNeg ≤ 65536 ∧ ((((((((((((((((c + 1) + 1) + 1) + 1) + 1) + 1) + 1) + 1) + 1) + 1) + 1) + 1) + 1) + 1) + 1) + 1) ≤ mc ∧ ((((((((((((((((s + (9 : Int32).toNatClampNeg) + (9 : Int32).toNatClampNeg) + (24 : Int32).toNatClampNeg) + (24 : Int32).toNatClampNeg) + (8 : Int32).toNatClampNeg) + (8 : Int32).toNatClampNeg) + (8 : Int32).toNatClampNeg) + (8 : Int32).toNatClampNeg) + (8 : Int32).toNatClampNeg) + (8 : Int32).toNatClampNeg) + (8 : Int32).toNatClampNeg) + (8 : Int32).toNatClampNeg) + (8 : Int32).toNatClampNeg) + (9 : Int32).toNatClampNeg) + (40 : Int32).toNatClampNeg) + (40 : Int32).toNatClampNeg) ≤ ms ∧ ∀ q186 : Nat, wo_ty G180 q186 = 0 → en_bs E ≤ q186 → ∀ G189 : wo_W, G189 = wo_na G180 q186 73 (40 : Int32).toNatClampNeg → 
  en_bs E ≤ x0 ∧ ∀ G192 : wo_W, G192 = wo_sr G189 930 x0 (some q186) → 
  pq_Md_init_251 E mc ms Post G192 ((((((((((((((((c + 1) + 1) + 1) + 1) + 1) + 1) + 1) + 1) + 1) + 1) + 1) + 1) + 1) + 1) + 1) + 1) ((((((((((((((((s + (9 : Int32).toNatClampNeg) + (9 : Int32).toNatClampNeg) + (24 : Int32).toNatClampNeg) + (24 : Int32).toNatClampNeg) + (8 : Int32).toNatClampNeg) + (8 : Int32).toNatClampNeg) + (8 : Int32).toNatClampNeg) + (8 : Int32).toNatClampNeg) + (8 : Int32).toNatClampNeg) + (8 : Int32).toNatClampNeg) + (8 : Int32).toNatClampNeg) + (8 : Int32).toNatClampNeg) + (8 : Int32).toNatClampNeg) + (9 : Int32).toNatClampNeg) + (40 : Int32).toNatClampNeg) + (40 : Int32).toNatClampNeg) x0 x1
set_option maxRecDepth 100000 in
def pq_Md_init_0 (E : wo_E) (mc ms : Nat) (Post : wo_W → Prop) (G : wo_W) (c s : Nat) (x0 : Nat) (x1 : Int32) : Prop := ¬ (12600 : Int32) < 0 ∧ (12600 : Int32).toNatClampNeg ≤ 65536 ∧ (c + 1) ≤ mc ∧ (s + (12600 : Int32).toNatClampNeg) ≤ ms ∧ ∀ q5 : Nat, wo_ty G q5 = 0 → en_bs E ≤ q5 → ∀ G8 : wo_W, G8 = wo_na G q5 66 (12600 : Int32).toNatClampNeg → 
  wo_ty G8 x0 = 15 ∧ en_bs E ≤ x0 ∧ ∀ G12 : wo_W, G12 = wo_sr G8 896 x0 (some q5) → 
  ¬ (3 : Int32) < 0 ∧ (3 : Int32).toNatClampNeg ≤ 65536 ∧ ((c + 1) + 1) ≤ mc ∧ ((s + (12600 : Int32).toNatClampNeg) + (3 : Int32).toNatClampNeg) ≤ ms ∧ ∀ q18 : Nat, wo_ty G12 q18 = 0 → en_bs E ≤ q18 → ∀ G21 : wo_W, G21 = wo_na G12 q18 66 (3 : Int32).toNatClampNeg → 
  en_bs E ≤ x0 ∧ ∀ G24 : wo_W, G24 = wo_sr G21 897 x0 (some q18) → 
  ¬ (3 : Int32) < 0 ∧ (3 : Int32).toNatClampNeg ≤ 65536 ∧ (((c + 1) + 1) + 1) ≤ mc ∧ (((s + (12600 : Int32).toNatClampNeg) + (3 : Int32).toNatClampNeg) + (3 : Int32).toNatClampNeg) ≤ ms ∧ ∀ q30 : Nat, wo_ty G24 q30 = 0 → en_bs E ≤ q30 → ∀ G33 : wo_W, G33 = wo_na G24 q30 72 (3 : Int32).toNatClampNeg → 
  en_bs E ≤ x0 ∧ ∀ G36 : wo_W, G36 = wo_sr G33 898 x0 (some q30) → 
  ¬ (1920 : Int32) < 0 ∧ (1920 : Int32).toNatClampNeg ≤ 65536 ∧ ((((c + 1) + 1) + 1) + 1) ≤ mc ∧ ((((s + (12600 : Int32).toNatClampNeg) + (3 : Int32).toNatClampNeg) + (3 : Int32).toNatClampNeg) + (1920 : Int32).toNatClampNeg) ≤ ms ∧ ∀ q42 : Nat, wo_ty G36 q42 = 0 → en_bs E ≤ q42 → ∀ G45 : wo_W, G45 = wo_na G36 q42 66 (1920 : Int32).toNatClampNeg → 
  en_bs E ≤ x0 ∧ ∀ G48 : wo_W, G48 = wo_sr G45 899 x0 (some q42) → 
  ¬ (3 : Int32) < 0 ∧ (3 : Int32).toNatClampNeg ≤ 65536 ∧ (((((c + 1) + 1) + 1) + 1) + 1) ≤ mc ∧ (((((s + (12600 : Int32).toNatClampNeg) + (3 : Int32).toNatClampNeg) + (3 : Int32).toNatClampNeg) + (1920 : Int32).toNatClampNeg) + (3 : Int32).toNatClampNeg) ≤ ms ∧ ∀ q54 : Nat, wo_ty G48 q54 = 0 → en_bs E ≤ q54 → ∀ G57 : wo_W, G57 = wo_na G48 q54 66 (3 : Int32).toNatClampNeg → 
  en_bs E ≤ x0 ∧ ∀ G60 : wo_W, G60 = wo_sr G57 900 x0 (some q54) → 
  ¬ (1152 : Int32) < 0 ∧ (1152 : Int32).toNatClampNeg ≤ 65536 ∧ ((((((c + 1) + 1) + 1) + 1) + 1) + 1) ≤ mc ∧ ((((((s + (12600 : Int32).toNatClampNeg) + (3 : Int32).toNatClampNeg) + (3 : Int32).toNatClampNeg) + (1920 : Int32).toNatClampNeg) + (3 : Int32).toNatClampNeg) + (1152 : Int32).toNatClampNeg) ≤ ms ∧ ∀ q66 : Nat, wo_ty G60 q66 = 0 → en_bs E ≤ q66 → ∀ G69 : wo_W, G69 = wo_na G60 q66 66 (1152 : Int32).toNatClampNeg → 
  en_bs E ≤ x0 ∧ ∀ G72 : wo_W, G72 = wo_sr G69 901 x0 (some q66) → 
  ¬ (12 : Int32) < 0 ∧ (12 : Int32).toNatClampNeg ≤ 65536 ∧ (((((((c + 1) + 1) + 1) + 1) + 1) + 1) + 1) ≤ mc ∧ (((((((s + (12600 : Int32).toNatClampNeg) + (3 : Int32).toNatClampNeg) + (3 : Int32).toNatClampNeg) + (1920 : Int32).toNatClampNeg) + (3 : Int32).toNatClampNeg) + (1152 : Int32).toNatClampNeg) + (12 : Int32).toNatClampNeg) ≤ ms ∧ ∀ q78 : Nat, wo_ty G72 q78 = 0 → en_bs E ≤ q78 → ∀ G81 : wo_W, G81 = wo_na G72 q78 66 (12 : Int32).toNatClampNeg → 
  en_bs E ≤ x0 ∧ ∀ G84 : wo_W, G84 = wo_sr G81 902 x0 (some q78) → 
  ¬ (3 : Int32) < 0 ∧ (3 : Int32).toNatClampNeg ≤ 65536 ∧ ((((((((c + 1) + 1) + 1) + 1) + 1) + 1) + 1) + 1) ≤ mc ∧ ((((((((s + (12600 : Int32).toNatClampNeg) + (3 : Int32).toNatClampNeg) + (3 : Int32).toNatClampNeg) + (1920 : Int32).toNatClampNeg) + (3 : Int32).toNatClampNeg) + (1152 : Int32).toNatClampNeg) + (12 : Int32).toNatClampNeg) + (3 : Int32).toNatClampNeg) ≤ ms ∧ ∀ q90 : Nat, wo_ty G84 q90 = 0 → en_bs E ≤ q90 → ∀ G93 : wo_W, G93 = wo_na G84 q90 66 (3 : Int32).toNatClampNeg → 
  en_bs E ≤ x0 ∧ ∀ G96 : wo_W, G96 = wo_sr G93 903 x0 (some q90) → 
  ¬ (3 : Int32) < 0 ∧ (3 : Int32).toNatClampNeg ≤ 65536 ∧ (((((((((c + 1) + 1) + 1) + 1) + 1) + 1) + 1) + 1) + 1) ≤ mc ∧ (((((((((s + (12600 : Int32).toNatClampNeg) + (3 : Int32).toNatClampNeg) + (3 : Int32).toNatClampNeg) + (1920 : Int32).toNatClampNeg) + (3 : Int32).toNatClampNeg) + (1152 : Int32).toNatClampNeg) + (12 : Int32).toNatClampNeg) + (3 : Int32).toNatClampNeg) + (3 : Int32).toNatClampNeg) ≤ ms ∧ ∀ q102 : Nat, wo_ty G96 q102 = 0 → en_bs E ≤ q102 → ∀ G105 : wo_W, G105 = wo_na G96 q102 66 (3 : Int32).toNatClampNeg → 
  en_bs E ≤ x0 ∧ ∀ G108 : wo_W, G108 = wo_sr G105 904 x0 (some q102) → 
  ¬ (128 : Int32) < 0 ∧ (128 : Int32).toNatClampNeg ≤ 65536 ∧ ((((((((((c + 1) + 1) + 1) + 1) + 1) + 1) + 1) + 1) + 1) + 1) ≤ mc ∧ ((((((((((s + (12600 : Int32).toNatClampNeg) + (3 : Int32).toNatClampNeg) + (3 : Int32).toNatClampNeg) + (1920 : Int32).toNatClampNeg) + (3 : Int32).toNatClampNeg) + (1152 : Int32).toNatClampNeg) + (12 : Int32).toNatClampNeg) + (3 : Int32).toNatClampNeg) + (3 : Int32).toNatClampNeg) + (128 : Int32).toNatClampNeg) ≤ ms ∧ ∀ q114 : Nat, wo_ty G108 q114 = 0 → en_bs E ≤ q114 → ∀ G117 : wo_W, G117 = wo_na G108 q114 66 (128 : Int32).toNatClampNeg → 
  en_bs E ≤ x0 ∧ ∀ G120 : wo_W, G120 = wo_sr G117 905 x0 (some q114) → 
  ¬ (9 : Int32) < 0 ∧ (9 : Int32).toNatClampNeg ≤ 65536 ∧ (((((((((((c + 1) + 1) + 1) + 1) + 1) + 1) + 1) + 1) + 1) + 1) + 1) ≤ mc ∧ (((((((((((s + (12600 : Int32).toNatClampNeg) + (3 : Int32).toNatClampNeg) + (3 : Int32).toNatClampNeg) + (1920 : Int32).toNatClampNeg) + (3 : Int32).toNatClampNeg) + (1152 : Int32).toNatClampNeg) + (12 : Int32).toNatClampNeg) + (3 : Int32).toNatClampNeg) + (3 : Int32).toNatClampNeg) + (128 : Int32).toNatClampNeg) + (9 : Int32).toNatClampNeg) ≤ ms ∧ ∀ q126 : Nat, wo_ty G120 q126 = 0 → en_bs E ≤ q126 → ∀ G129 : wo_W, G129 = wo_na G120 q126 66 (9 : Int32).toNatClampNeg → 
  en_bs E ≤ x0 ∧ ∀ G132 : wo_W, G132 = wo_sr G129 907 x0 (some q126) → 
  ¬ (9 : Int32) < 0 ∧ (9 : Int32).toNatClampNeg ≤ 65536 ∧ ((((((((((((c + 1) + 1) + 1) + 1) + 1) + 1) + 1) + 1) + 1) + 1) + 1) + 1) ≤ mc ∧ ((((((((((((s + (12600 : Int32).toNatClampNeg) + (3 : Int32).toNatClampNeg) + (3 : Int32).toNatClampNeg) + (1920 : Int32).toNatClampNeg) + (3 : Int32).toNatClampNeg) + (1152 : Int32).toNatClampNeg) + (12 : Int32).toNatClampNeg) + (3 : Int32).toNatClampNeg) + (3 : Int32).toNatClampNeg) + (128 : Int32).toNatClampNeg) + (9 : Int32).toNatClampNeg) + (9 : Int32).toNatClampNeg) ≤ ms ∧ ∀ q138 : Nat, wo_ty G132 q138 = 0 → en_bs E ≤ q138 → ∀ G141 : wo_W, G141 = wo_na G132 q138 73 (9 : Int32).toNatClampNeg → 
  en_bs E ≤ x0 ∧ ∀ G144 : wo_W, G144 = wo_sr G141 908 x0 (some q138) → 
  ¬ (9 : Int32) < 0 ∧ (9 : Int32).toNatClampNeg ≤ 65536 ∧ (((((((((((((c + 1) + 1) + 1) + 1) + 1) + 1) + 1) + 1) + 1) + 1) + 1) + 1) + 1) ≤ mc ∧ (((((((((((((s + (12600 : Int32).toNatClampNeg) + (3 : Int32).toNatClampNeg) + (3 : Int32).toNatClampNeg) + (1920 : Int32).toNatClampNeg) + (3 : Int32).toNatClampNeg) + (1152 : Int32).toNatClampNeg) + (12 : Int32).toNatClampNeg) + (3 : Int32).toNatClampNeg) + (3 : Int32).toNatClampNeg) + (128 : Int32).toNatClampNeg) + (9 : Int32).toNatClampNeg) + (9 : Int32).toNatClampNeg) + (9 : Int32).toNatClampNeg) ≤ ms ∧ ∀ q150 : Nat, wo_ty G144 q150 = 0 → en_bs E ≤ q150 → ∀ G153 : wo_W, G153 = wo_na G144 q150 66 (9 : Int32).toNatClampNeg → 
  en_bs E ≤ x0 ∧ ∀ G156 : wo_W, G156 = wo_sr G153 909 x0 (some q150) → 
  ¬ (72 : Int32) < 0 ∧ (72 : Int32).toNatClampNeg ≤ 65536 ∧ ((((((((((((((c + 1) + 1) + 1) + 1) + 1) + 1) + 1) + 1) + 1) + 1) + 1) + 1) + 1) + 1) ≤ mc ∧ ((((((((((((((s + (12600 : Int32).toNatClampNeg) + (3 : Int32).toNatClampNeg) + (3 : Int32).toNatClampNeg) + (1920 : Int32).toNatClampNeg) + (3 : Int32).toNatClampNeg) + (1152 : Int32).toNatClampNeg) + (12 : Int32).toNatClampNeg) + (3 : Int32).toNatClampNeg) + (3 : Int32).toNatClampNeg) + (128 : Int32).toNatClampNeg) + (9 : Int32).toNatClampNeg) + (9 : Int32).toNatClampNeg) + (9 : Int32).toNatClampNeg) + (72 : Int32).toNatClampNeg) ≤ ms ∧ ∀ q162 : Nat, wo_ty G156 q162 = 0 → en_bs E ≤ q162 → ∀ G165 : wo_W, G165 = wo_na G156 q162 73 (72 : Int32).toNatClampNeg → 
  en_bs E ≤ x0 ∧ ∀ G168 : wo_W, G168 = wo_sr G165 910 x0 (some q162) → 
  ¬ (72 : Int32) < 0 ∧ (72 : Int32).toNatClampNeg ≤ 65536 ∧ (((((((((((((((c + 1) + 1) + 1) + 1) + 1) + 1) + 1) + 1) + 1) + 1) + 1) + 1) + 1) + 1) + 1) ≤ mc ∧ (((((((((((((((s + (12600 : Int32).toNatClampNeg) + (3 : Int32).toNatClampNeg) + (3 : Int32).toNatClampNeg) + (1920 : Int32).toNatClampNeg) + (3 : Int32).toNatClampNeg) + (1152 : Int32).toNatClampNeg) + (12 : Int32).toNatClampNeg) + (3 : Int32).toNatClampNeg) + (3 : Int32).toNatClampNeg) + (128 : Int32).toNatClampNeg) + (9 : Int32).toNatClampNeg) + (9 : Int32).toNatClampNeg) + (9 : Int32).toNatClampNeg) + (72 : Int32).toNatClampNeg) + (72 : Int32).toNatClampNeg) ≤ ms ∧ ∀ q174 : Nat, wo_ty G168 q174 = 0 → en_bs E ≤ q174 → ∀ G177 : wo_W, G177 = wo_na G168 q174 66 (72 : Int32).toNatClampNeg → 
  en_bs E ≤ x0 ∧ ∀ G180 : wo_W, G180 = wo_sr G177 911 x0 (some q174) → 
  pq_Md_init_123 E mc ms Post G180 (((((((((((((((c + 1) + 1) + 1) + 1) + 1) + 1) + 1) + 1) + 1) + 1) + 1) + 1) + 1) + 1) + 1) (((((((((((((((s + (12600 : Int32).toNatClampNeg) + (3 : Int32).toNatClampNeg) + (3 : Int32).toNatClampNeg) + (1920 : Int32).toNatClampNeg) + (3 : Int32).toNatClampNeg) + (1152 : Int32).toNatClampNeg) + (12 : Int32).toNatClampNeg) + (3 : Int32).toNatClampNeg) + (3 : Int32).toNatClampNeg) + (128 : Int32).toNatClampNeg) + (9 : Int32).toNatClampNeg) + (9 : Int32).toNatClampNeg) + (9 : Int32).toNatClampNeg) + (72 : Int32).toNatClampNeg) + (72 : Int32).toNatClampNeg) x0 x1
def pq_Md_init (E : wo_E) (mc ms : Nat) (Post : wo_W → Prop) (G : wo_W) (x0 : Nat) (x1 : Int32) : Prop := pq_Md_init_0 E mc ms Post G 0 0 x0 x1
set_option maxRecDepth 100000 in
set_option maxHeartbeats 4000000 in
theorem tq_Md_init_456 {p : Program} {l : Launch} {e : Env} {R : Room} {s₀ : State} {m : MethodId} {args : Array Value} {below : List Frame} {meth : Method} {cd : Code} {E : wo_E} {mc ms : Nat} {Post : wo_W → Prop} (hC : wo_Cx E "EdgeCacheModel" prog_14_method_1_code 2 1 28 ((Option.none : Option Jvm.ClassFile.FieldType)) "<init>" mc ms p R s₀ m args meth cd) : ∀ {G : wo_W} {c s : Nat} {y0 : Nat} {y1 : Int32}, pq_Md_init_456 E mc ms Post G c s y0 y1 → ∀ {H : Heap} {locs : List Loc} {ls : Array Slot}, wo_Se E G H → va_S (en_A E) s₀.heap H locs → lx_has ls 2 [] → c ≤ mc → s ≤ ms → W p l e R s₀ m args below meth cd H locs c s (MQ below (va_Qv Post (wo_B E) (en_A E)) args s₀ mc ms (en_A E)) (F0 m 456 ls [.int y1, .ref y0]) := by
  intro G c s y0 y1 hw H locs ls hG hS hl hcc hss
  dsimp only [pq_Md_init_456] at hw
  have hx := hC.1
  have hb := hC.2.1
  obtain ⟨t1, hw⟩ := hw
  obtain ⟨h2, hw⟩ := hw
  refine wo_putI hC fq_Md_174 (Or.inl rfl) rfl (wo_ok_int _) hG hS t1 h2 dq_Md_init_456 (fun G3 H locs e4 hG hS => ?_)
  replace hw := hw G3 e4
  exact wo_vret hC hG hS hcc hss hw dq_Md_init_459
set_option maxRecDepth 100000 in
set_option maxHeartbeats 4000000 in
theorem tq_Md_init_379 {p : Program} {l : Launch} {e : Env} {R : Room} {s₀ : State} {m : MethodId} {args : Array Value} {below : List Frame} {meth : Method} {cd : Code} {E : wo_E} {mc ms : Nat} {Post : wo_W → Prop} (hC : wo_Cx E "EdgeCacheModel" prog_14_method_1_code 2 1 28 ((Option.none : Option Jvm.ClassFile.FieldType)) "<init>" mc ms p R s₀ m args meth cd) : ∀ {G : wo_W} {c s : Nat} {x0 : Nat} {x1 : Int32}, pq_Md_init_379 E mc ms Post G c s x0 x1 → ∀ {H : Heap} {locs : List Loc} {ls : Array Slot}, wo_Se E G H → va_S (en_A E) s₀.heap H locs → lx_has ls 2 [(0, 1, .ref x0), (1, 1, .int x1)] → c ≤ mc → s ≤ ms → W p l e R s₀ m args below meth cd H locs c s (MQ below (va_Qv Post (wo_B E) (en_A E)) args s₀ mc ms (en_A E)) (F0 m 379 ls []) := by
  intro G c s x0 x1 hw H locs ls hG hS hl hcc hss
  dsimp only [pq_Md_init_379] at hw
  have hx := hC.1
  have hb := hC.2.1
  refine lv_aload_n hx hb dq_Md_init_379 rfl (lx_at hl 0 rfl) ?_
  refine lv_bipush (v := (6 : Int32)) hx hb dq_Md_init_380 rfl ?_
  obtain ⟨h1, hw⟩ := hw
  obtain ⟨h2, hw⟩ := hw
  obtain ⟨h3, hw⟩ := hw
  obtain ⟨h4, hw⟩ := hw
  refine wo_newa (j := 9) (at_ := .long) hC rfl rfl aq_9 hG hS h1 h2 h3 h4 dq_Md_init_382 (fun q5 G8 H z6 b7 e9 hG hS => ?_)
  replace hw := hw q5 z6 b7 G8 e9
  replace hcc := h3
  replace hss := h4
  obtain ⟨t10, hw⟩ := hw
  obtain ⟨h11, hw⟩ := hw
  refine wo_putR (x := (some q5)) hC fq_Md_153 (Or.inl rfl) rfl hG hS t10 h11 dq_Md_init_384 (fun G12 H locs e13 hG hS => ?_)
  replace hw := hw G12 e13
  refine lv_aload_n hx hb dq_Md_init_387 rfl (lx_at hl 0 rfl) ?_
  refine lv_bipush (v := (6 : Int32)) hx hb dq_Md_init_388 rfl ?_
  obtain ⟨h14, hw⟩ := hw
  obtain ⟨h15, hw⟩ := hw
  obtain ⟨h16, hw⟩ := hw
  obtain ⟨h17, hw⟩ := hw
  refine wo_newa (j := 2) (at_ := .int) hC rfl rfl aq_2 hG hS h14 h15 h16 h17 dq_Md_init_390 (fun q18 G21 H z19 b20 e22 hG hS => ?_)
  replace hw := hw q18 z19 b20 G21 e22
  replace hcc := h16
  replace hss := h17
  obtain ⟨h23, hw⟩ := hw
  refine wo_putR (x := (some q18)) hC fq_Md_156 (Or.inl rfl) rfl hG hS (ty_na (by decide) z19 e22 (ty_sr e13 t10)) h23 dq_Md_init_392 (fun G24 H locs e25 hG hS => ?_)
  replace hw := hw G24 e25
  refine lv_aload_n hx hb dq_Md_init_395 rfl (lx_at hl 0 rfl) ?_
  refine lv_bipush (v := (18 : Int32)) hx hb dq_Md_init_396 rfl ?_
  obtain ⟨h26, hw⟩ := hw
  obtain ⟨h27, hw⟩ := hw
  obtain ⟨h28, hw⟩ := hw
  obtain ⟨h29, hw⟩ := hw
  refine wo_newa (j := 9) (at_ := .long) hC rfl rfl aq_9 hG hS h26 h27 h28 h29 dq_Md_init_398 (fun q30 G33 H z31 b32 e34 hG hS => ?_)
  replace hw := hw q30 z31 b32 G33 e34
  replace hcc := h28
  replace hss := h29
  obtain ⟨h35, hw⟩ := hw
  refine wo_putR (x := (some q30)) hC fq_Md_159 (Or.inl rfl) rfl hG hS (ty_na (by decide) z31 e34 (ty_sr e25 (ty_na (by decide) z19 e22 (ty_sr e13 t10)))) h35 dq_Md_init_400 (fun G36 H locs e37 hG hS => ?_)
  replace hw := hw G36 e37
  refine lv_aload_n hx hb dq_Md_init_403 rfl (lx_at hl 0 rfl) ?_
  refine lv_bipush (v := (18 : Int32)) hx hb dq_Md_init_404 rfl ?_
  obtain ⟨h38, hw⟩ := hw
  obtain ⟨h39, hw⟩ := hw
  obtain ⟨h40, hw⟩ := hw
  obtain ⟨h41, hw⟩ := hw
  refine wo_newa (j := 2) (at_ := .int) hC rfl rfl aq_2 hG hS h38 h39 h40 h41 dq_Md_init_406 (fun q42 G45 H z43 b44 e46 hG hS => ?_)
  replace hw := hw q42 z43 b44 G45 e46
  replace hcc := h40
  replace hss := h41
  obtain ⟨h47, hw⟩ := hw
  refine wo_putR (x := (some q42)) hC fq_Md_162 (Or.inl rfl) rfl hG hS (ty_na (by decide) z43 e46 (ty_sr e37 (ty_na (by decide) z31 e34 (ty_sr e25 (ty_na (by decide) z19 e22 (ty_sr e13 t10)))))) h47 dq_Md_init_408 (fun G48 H locs e49 hG hS => ?_)
  replace hw := hw G48 e49
  refine lv_aload_n hx hb dq_Md_init_411 rfl (lx_at hl 0 rfl) ?_
  refine lv_bipush (v := (18 : Int32)) hx hb dq_Md_init_412 rfl ?_
  obtain ⟨h50, hw⟩ := hw
  obtain ⟨h51, hw⟩ := hw
  obtain ⟨h52, hw⟩ := hw
  obtain ⟨h53, hw⟩ := hw
  refine wo_newa (j := 2) (at_ := .int) hC rfl rfl aq_2 hG hS h50 h51 h52 h53 dq_Md_init_414 (fun q54 G57 H z55 b56 e58 hG hS => ?_)
  replace hw := hw q54 z55 b56 G57 e58
  replace hcc := h52
  replace hss := h53
  obtain ⟨h59, hw⟩ := hw
  refine wo_putR (x := (some q54)) hC fq_Md_165 (Or.inl rfl) rfl hG hS (ty_na (by decide) z55 e58 (ty_sr e49 (ty_na (by decide) z43 e46 (ty_sr e37 (ty_na (by decide) z31 e34 (ty_sr e25 (ty_na (by decide) z19 e22 (ty_sr e13 t10)))))))) h59 dq_Md_init_416 (fun G60 H locs e61 hG hS => ?_)
  replace hw := hw G60 e61
  refine lv_aload_n hx hb dq_Md_init_419 rfl (lx_at hl 0 rfl) ?_
  refine lv_iconst (v := (2 : Int32)) hx hb dq_Md_init_420 rfl ?_
  obtain ⟨h62, hw⟩ := hw
  obtain ⟨h63, hw⟩ := hw
  obtain ⟨h64, hw⟩ := hw
  obtain ⟨h65, hw⟩ := hw
  refine wo_newa (j := 2) (at_ := .int) hC rfl rfl aq_2 hG hS h62 h63 h64 h65 dq_Md_init_421 (fun q66 G69 H z67 b68 e70 hG hS => ?_)
  replace hw := hw q66 z67 b68 G69 e70
  replace hcc := h64
  replace hss := h65
  obtain ⟨h71, hw⟩ := hw
  refine wo_putR (x := (some q66)) hC fq_Md_168 (Or.inl rfl) rfl hG hS (ty_na (by decide) z67 e70 (ty_sr e61 (ty_na (by decide) z55 e58 (ty_sr e49 (ty_na (by decide) z43 e46 (ty_sr e37 (ty_na (by decide) z31 e34 (ty_sr e25 (ty_na (by decide) z19 e22 (ty_sr e13 t10)))))))))) h71 dq_Md_init_423 (fun G72 H locs e73 hG hS => ?_)
  replace hw := hw G72 e73
  refine lv_aload_n hx hb dq_Md_init_426 rfl (lx_at hl 0 rfl) ?_
  refine lv_iconst (v := (2 : Int32)) hx hb dq_Md_init_427 rfl ?_
  obtain ⟨h74, hw⟩ := hw
  obtain ⟨h75, hw⟩ := hw
  obtain ⟨h76, hw⟩ := hw
  obtain ⟨h77, hw⟩ := hw
  refine wo_newa (j := 2) (at_ := .int) hC rfl rfl aq_2 hG hS h74 h75 h76 h77 dq_Md_init_428 (fun q78 G81 H z79 b80 e82 hG hS => ?_)
  replace hw := hw q78 z79 b80 G81 e82
  replace hcc := h76
  replace hss := h77
  obtain ⟨h83, hw⟩ := hw
  refine wo_putR (x := (some q78)) hC fq_Md_171 (Or.inl rfl) rfl hG hS (ty_na (by decide) z79 e82 (ty_sr e73 (ty_na (by decide) z67 e70 (ty_sr e61 (ty_na (by decide) z55 e58 (ty_sr e49 (ty_na (by decide) z43 e46 (ty_sr e37 (ty_na (by decide) z31 e34 (ty_sr e25 (ty_na (by decide) z19 e22 (ty_sr e13 t10)))))))))))) h83 dq_Md_init_430 (fun G84 H locs e85 hG hS => ?_)
  replace hw := hw G84 e85
  refine lv_aload_n hx hb dq_Md_init_433 rfl (lx_at hl 0 rfl) ?_
  refine lv_iload_n hx hb dq_Md_init_434 rfl (lx_at hl 1 rfl) ?_
  refine lv_if_ge (tgt := 442) hx hb dq_Md_init_435 rfl (fun h => ?_) (fun h => ?_)
  · replace hw := hw.1 h
    refine lv_iload_n hx hb dq_Md_init_442 rfl (lx_at hl 1 rfl) ?_
    refine lv_sipush (v := (300 : Int32)) hx hb dq_Md_init_443 rfl ?_
    refine lv_icmp_le (tgt := 455) hx hb dq_Md_init_446 rfl (fun h => ?_) (fun h => ?_)
    · replace hw := hw.1 h
      refine lv_iload_n hx hb dq_Md_init_455 rfl (lx_at hl 1 rfl) ?_
      exact tq_Md_init_456 hC hw hG hS (lx_sub hl [] rfl) hcc hss
    · replace hw := hw.2 h
      refine lv_sipush (v := (300 : Int32)) hx hb dq_Md_init_449 rfl ?_
      refine lv_goto (tgt := 456) hx hb dq_Md_init_452 rfl ?_
      exact tq_Md_init_456 hC hw hG hS (lx_sub hl [] rfl) hcc hss
  · replace hw := hw.2 h
    refine lv_iconst (v := (0 : Int32)) hx hb dq_Md_init_438 rfl ?_
    refine lv_goto (tgt := 456) hx hb dq_Md_init_439 rfl ?_
    exact tq_Md_init_456 hC hw hG hS (lx_sub hl [] rfl) hcc hss
set_option maxRecDepth 100000 in
set_option maxHeartbeats 4000000 in
theorem tq_Md_init_251 {p : Program} {l : Launch} {e : Env} {R : Room} {s₀ : State} {m : MethodId} {args : Array Value} {below : List Frame} {meth : Method} {cd : Code} {E : wo_E} {mc ms : Nat} {Post : wo_W → Prop} (hC : wo_Cx E "EdgeCacheModel" prog_14_method_1_code 2 1 28 ((Option.none : Option Jvm.ClassFile.FieldType)) "<init>" mc ms p R s₀ m args meth cd) : ∀ {G : wo_W} {c s : Nat} {x0 : Nat} {x1 : Int32}, pq_Md_init_251 E mc ms Post G c s x0 x1 → ∀ {H : Heap} {locs : List Loc} {ls : Array Slot}, wo_Se E G H → va_S (en_A E) s₀.heap H locs → lx_has ls 2 [(0, 1, .ref x0), (1, 1, .int x1)] → c ≤ mc → s ≤ ms → W p l e R s₀ m args below meth cd H locs c s (MQ below (va_Qv Post (wo_B E) (en_A E)) args s₀ mc ms (en_A E)) (F0 m 251 ls []) := by
  intro G c s x0 x1 hw H locs ls hG hS hl hcc hss
  dsimp only [pq_Md_init_251] at hw
  have hx := hC.1
  have hb := hC.2.1
  refine lv_aload_n hx hb dq_Md_init_251 rfl (lx_at hl 0 rfl) ?_
  refine lv_bipush (v := (40 : Int32)) hx hb dq_Md_init_252 rfl ?_
  obtain ⟨h1, hw⟩ := hw
  obtain ⟨h2, hw⟩ := hw
  obtain ⟨h3, hw⟩ := hw
  obtain ⟨h4, hw⟩ := hw
  refine wo_newa (j := 2) (at_ := .int) hC rfl rfl aq_2 hG hS h1 h2 h3 h4 dq_Md_init_254 (fun q5 G8 H z6 b7 e9 hG hS => ?_)
  replace hw := hw q5 z6 b7 G8 e9
  replace hcc := h3
  replace hss := h4
  obtain ⟨t10, hw⟩ := hw
  obtain ⟨h11, hw⟩ := hw
  refine wo_putR (x := (some q5)) hC fq_Md_105 (Or.inl rfl) rfl hG hS t10 h11 dq_Md_init_256 (fun G12 H locs e13 hG hS => ?_)
  replace hw := hw G12 e13
  refine lv_aload_n hx hb dq_Md_init_259 rfl (lx_at hl 0 rfl) ?_
  refine lv_bipush (v := (40 : Int32)) hx hb dq_Md_init_260 rfl ?_
  obtain ⟨h14, hw⟩ := hw
  obtain ⟨h15, hw⟩ := hw
  obtain ⟨h16, hw⟩ := hw
  obtain ⟨h17, hw⟩ := hw
  refine wo_newa (j := 2) (at_ := .int) hC rfl rfl aq_2 hG hS h14 h15 h16 h17 dq_Md_init_262 (fun q18 G21 H z19 b20 e22 hG hS => ?_)
  replace hw := hw q18 z19 b20 G21 e22
  replace hcc := h16
  replace hss := h17
  obtain ⟨h23, hw⟩ := hw
  refine wo_putR (x := (some q18)) hC fq_Md_108 (Or.inl rfl) rfl hG hS (ty_na (by decide) z19 e22 (ty_sr e13 t10)) h23 dq_Md_init_264 (fun G24 H locs e25 hG hS => ?_)
  replace hw := hw G24 e25
  refine lv_aload_n hx hb dq_Md_init_267 rfl (lx_at hl 0 rfl) ?_
  refine lv_bipush (v := (40 : Int32)) hx hb dq_Md_init_268 rfl ?_
  obtain ⟨h26, hw⟩ := hw
  obtain ⟨h27, hw⟩ := hw
  obtain ⟨h28, hw⟩ := hw
  obtain ⟨h29, hw⟩ := hw
  refine wo_newa (j := 9) (at_ := .long) hC rfl rfl aq_9 hG hS h26 h27 h28 h29 dq_Md_init_270 (fun q30 G33 H z31 b32 e34 hG hS => ?_)
  replace hw := hw q30 z31 b32 G33 e34
  replace hcc := h28
  replace hss := h29
  obtain ⟨h35, hw⟩ := hw
  refine wo_putR (x := (some q30)) hC fq_Md_111 (Or.inl rfl) rfl hG hS (ty_na (by decide) z31 e34 (ty_sr e25 (ty_na (by decide) z19 e22 (ty_sr e13 t10)))) h35 dq_Md_init_272 (fun G36 H locs e37 hG hS => ?_)
  replace hw := hw G36 e37
  refine lv_aload_n hx hb dq_Md_init_275 rfl (lx_at hl 0 rfl) ?_
  refine lv_bipush (v := (40 : Int32)) hx hb dq_Md_init_276 rfl ?_
  obtain ⟨h38, hw⟩ := hw
  obtain ⟨h39, hw⟩ := hw
  obtain ⟨h40, hw⟩ := hw
  obtain ⟨h41, hw⟩ := hw
  refine wo_newa (j := 2) (at_ := .int) hC rfl rfl aq_2 hG hS h38 h39 h40 h41 dq_Md_init_278 (fun q42 G45 H z43 b44 e46 hG hS => ?_)
  replace hw := hw q42 z43 b44 G45 e46
  replace hcc := h40
  replace hss := h41
  obtain ⟨h47, hw⟩ := hw
  refine wo_putR (x := (some q42)) hC fq_Md_114 (Or.inl rfl) rfl hG hS (ty_na (by decide) z43 e46 (ty_sr e37 (ty_na (by decide) z31 e34 (ty_sr e25 (ty_na (by decide) z19 e22 (ty_sr e13 t10)))))) h47 dq_Md_init_280 (fun G48 H locs e49 hG hS => ?_)
  replace hw := hw G48 e49
  refine lv_aload_n hx hb dq_Md_init_283 rfl (lx_at hl 0 rfl) ?_
  refine lv_bipush (v := (40 : Int32)) hx hb dq_Md_init_284 rfl ?_
  obtain ⟨h50, hw⟩ := hw
  obtain ⟨h51, hw⟩ := hw
  obtain ⟨h52, hw⟩ := hw
  obtain ⟨h53, hw⟩ := hw
  refine wo_newa (j := 8) (at_ := .boolean) hC rfl rfl aq_8 hG hS h50 h51 h52 h53 dq_Md_init_286 (fun q54 G57 H z55 b56 e58 hG hS => ?_)
  replace hw := hw q54 z55 b56 G57 e58
  replace hcc := h52
  replace hss := h53
  obtain ⟨h59, hw⟩ := hw
  refine wo_putR (x := (some q54)) hC fq_Md_117 (Or.inl rfl) rfl hG hS (ty_na (by decide) z55 e58 (ty_sr e49 (ty_na (by decide) z43 e46 (ty_sr e37 (ty_na (by decide) z31 e34 (ty_sr e25 (ty_na (by decide) z19 e22 (ty_sr e13 t10)))))))) h59 dq_Md_init_288 (fun G60 H locs e61 hG hS => ?_)
  replace hw := hw G60 e61
  refine lv_aload_n hx hb dq_Md_init_291 rfl (lx_at hl 0 rfl) ?_
  refine lv_bipush (v := (20 : Int32)) hx hb dq_Md_init_292 rfl ?_
  obtain ⟨h62, hw⟩ := hw
  obtain ⟨h63, hw⟩ := hw
  obtain ⟨h64, hw⟩ := hw
  obtain ⟨h65, hw⟩ := hw
  refine wo_newa (j := 8) (at_ := .boolean) hC rfl rfl aq_8 hG hS h62 h63 h64 h65 dq_Md_init_294 (fun q66 G69 H z67 b68 e70 hG hS => ?_)
  replace hw := hw q66 z67 b68 G69 e70
  replace hcc := h64
  replace hss := h65
  obtain ⟨h71, hw⟩ := hw
  refine wo_putR (x := (some q66)) hC fq_Md_120 (Or.inl rfl) rfl hG hS (ty_na (by decide) z67 e70 (ty_sr e61 (ty_na (by decide) z55 e58 (ty_sr e49 (ty_na (by decide) z43 e46 (ty_sr e37 (ty_na (by decide) z31 e34 (ty_sr e25 (ty_na (by decide) z19 e22 (ty_sr e13 t10)))))))))) h71 dq_Md_init_296 (fun G72 H locs e73 hG hS => ?_)
  replace hw := hw G72 e73
  refine lv_aload_n hx hb dq_Md_init_299 rfl (lx_at hl 0 rfl) ?_
  refine lv_bipush (v := (20 : Int32)) hx hb dq_Md_init_300 rfl ?_
  obtain ⟨h74, hw⟩ := hw
  obtain ⟨h75, hw⟩ := hw
  obtain ⟨h76, hw⟩ := hw
  obtain ⟨h77, hw⟩ := hw
  refine wo_newa (j := 9) (at_ := .long) hC rfl rfl aq_9 hG hS h74 h75 h76 h77 dq_Md_init_302 (fun q78 G81 H z79 b80 e82 hG hS => ?_)
  replace hw := hw q78 z79 b80 G81 e82
  replace hcc := h76
  replace hss := h77
  obtain ⟨h83, hw⟩ := hw
  refine wo_putR (x := (some q78)) hC fq_Md_123 (Or.inl rfl) rfl hG hS (ty_na (by decide) z79 e82 (ty_sr e73 (ty_na (by decide) z67 e70 (ty_sr e61 (ty_na (by decide) z55 e58 (ty_sr e49 (ty_na (by decide) z43 e46 (ty_sr e37 (ty_na (by decide) z31 e34 (ty_sr e25 (ty_na (by decide) z19 e22 (ty_sr e13 t10)))))))))))) h83 dq_Md_init_304 (fun G84 H locs e85 hG hS => ?_)
  replace hw := hw G84 e85
  refine lv_aload_n hx hb dq_Md_init_307 rfl (lx_at hl 0 rfl) ?_
  refine lv_bipush (v := (20 : Int32)) hx hb dq_Md_init_308 rfl ?_
  obtain ⟨h86, hw⟩ := hw
  obtain ⟨h87, hw⟩ := hw
  obtain ⟨h88, hw⟩ := hw
  obtain ⟨h89, hw⟩ := hw
  refine wo_newa (j := 2) (at_ := .int) hC rfl rfl aq_2 hG hS h86 h87 h88 h89 dq_Md_init_310 (fun q90 G93 H z91 b92 e94 hG hS => ?_)
  replace hw := hw q90 z91 b92 G93 e94
  replace hcc := h88
  replace hss := h89
  obtain ⟨h95, hw⟩ := hw
  refine wo_putR (x := (some q90)) hC fq_Md_126 (Or.inl rfl) rfl hG hS (ty_na (by decide) z91 e94 (ty_sr e85 (ty_na (by decide) z79 e82 (ty_sr e73 (ty_na (by decide) z67 e70 (ty_sr e61 (ty_na (by decide) z55 e58 (ty_sr e49 (ty_na (by decide) z43 e46 (ty_sr e37 (ty_na (by decide) z31 e34 (ty_sr e25 (ty_na (by decide) z19 e22 (ty_sr e13 t10)))))))))))))) h95 dq_Md_init_312 (fun G96 H locs e97 hG hS => ?_)
  replace hw := hw G96 e97
  refine lv_aload_n hx hb dq_Md_init_315 rfl (lx_at hl 0 rfl) ?_
  refine lv_bipush (v := (20 : Int32)) hx hb dq_Md_init_316 rfl ?_
  obtain ⟨h98, hw⟩ := hw
  obtain ⟨h99, hw⟩ := hw
  obtain ⟨h100, hw⟩ := hw
  obtain ⟨h101, hw⟩ := hw
  refine wo_newa (j := 9) (at_ := .long) hC rfl rfl aq_9 hG hS h98 h99 h100 h101 dq_Md_init_318 (fun q102 G105 H z103 b104 e106 hG hS => ?_)
  replace hw := hw q102 z103 b104 G105 e106
  replace hcc := h100
  replace hss := h101
  obtain ⟨h107, hw⟩ := hw
  refine wo_putR (x := (some q102)) hC fq_Md_129 (Or.inl rfl) rfl hG hS (ty_na (by decide) z103 e106 (ty_sr e97 (ty_na (by decide) z91 e94 (ty_sr e85 (ty_na (by decide) z79 e82 (ty_sr e73 (ty_na (by decide) z67 e70 (ty_sr e61 (ty_na (by decide) z55 e58 (ty_sr e49 (ty_na (by decide) z43 e46 (ty_sr e37 (ty_na (by decide) z31 e34 (ty_sr e25 (ty_na (by decide) z19 e22 (ty_sr e13 t10)))))))))))))))) h107 dq_Md_init_320 (fun G108 H locs e109 hG hS => ?_)
  replace hw := hw G108 e109
  refine lv_aload_n hx hb dq_Md_init_323 rfl (lx_at hl 0 rfl) ?_
  refine lv_bipush (v := (20 : Int32)) hx hb dq_Md_init_324 rfl ?_
  obtain ⟨h110, hw⟩ := hw
  obtain ⟨h111, hw⟩ := hw
  obtain ⟨h112, hw⟩ := hw
  obtain ⟨h113, hw⟩ := hw
  refine wo_newa (j := 2) (at_ := .int) hC rfl rfl aq_2 hG hS h110 h111 h112 h113 dq_Md_init_326 (fun q114 G117 H z115 b116 e118 hG hS => ?_)
  replace hw := hw q114 z115 b116 G117 e118
  replace hcc := h112
  replace hss := h113
  obtain ⟨h119, hw⟩ := hw
  refine wo_putR (x := (some q114)) hC fq_Md_132 (Or.inl rfl) rfl hG hS (ty_na (by decide) z115 e118 (ty_sr e109 (ty_na (by decide) z103 e106 (ty_sr e97 (ty_na (by decide) z91 e94 (ty_sr e85 (ty_na (by decide) z79 e82 (ty_sr e73 (ty_na (by decide) z67 e70 (ty_sr e61 (ty_na (by decide) z55 e58 (ty_sr e49 (ty_na (by decide) z43 e46 (ty_sr e37 (ty_na (by decide) z31 e34 (ty_sr e25 (ty_na (by decide) z19 e22 (ty_sr e13 t10)))))))))))))))))) h119 dq_Md_init_328 (fun G120 H locs e121 hG hS => ?_)
  replace hw := hw G120 e121
  refine lv_aload_n hx hb dq_Md_init_331 rfl (lx_at hl 0 rfl) ?_
  refine lv_bipush (v := (20 : Int32)) hx hb dq_Md_init_332 rfl ?_
  obtain ⟨h122, hw⟩ := hw
  obtain ⟨h123, hw⟩ := hw
  obtain ⟨h124, hw⟩ := hw
  obtain ⟨h125, hw⟩ := hw
  refine wo_newa (j := 2) (at_ := .int) hC rfl rfl aq_2 hG hS h122 h123 h124 h125 dq_Md_init_334 (fun q126 G129 H z127 b128 e130 hG hS => ?_)
  replace hw := hw q126 z127 b128 G129 e130
  replace hcc := h124
  replace hss := h125
  obtain ⟨h131, hw⟩ := hw
  refine wo_putR (x := (some q126)) hC fq_Md_135 (Or.inl rfl) rfl hG hS (ty_na (by decide) z127 e130 (ty_sr e121 (ty_na (by decide) z115 e118 (ty_sr e109 (ty_na (by decide) z103 e106 (ty_sr e97 (ty_na (by decide) z91 e94 (ty_sr e85 (ty_na (by decide) z79 e82 (ty_sr e73 (ty_na (by decide) z67 e70 (ty_sr e61 (ty_na (by decide) z55 e58 (ty_sr e49 (ty_na (by decide) z43 e46 (ty_sr e37 (ty_na (by decide) z31 e34 (ty_sr e25 (ty_na (by decide) z19 e22 (ty_sr e13 t10)))))))))))))))))))) h131 dq_Md_init_336 (fun G132 H locs e133 hG hS => ?_)
  replace hw := hw G132 e133
  refine lv_aload_n hx hb dq_Md_init_339 rfl (lx_at hl 0 rfl) ?_
  refine lv_bipush (v := (20 : Int32)) hx hb dq_Md_init_340 rfl ?_
  obtain ⟨h134, hw⟩ := hw
  obtain ⟨h135, hw⟩ := hw
  obtain ⟨h136, hw⟩ := hw
  obtain ⟨h137, hw⟩ := hw
  refine wo_newa (j := 2) (at_ := .int) hC rfl rfl aq_2 hG hS h134 h135 h136 h137 dq_Md_init_342 (fun q138 G141 H z139 b140 e142 hG hS => ?_)
  replace hw := hw q138 z139 b140 G141 e142
  replace hcc := h136
  replace hss := h137
  obtain ⟨h143, hw⟩ := hw
  refine wo_putR (x := (some q138)) hC fq_Md_138 (Or.inl rfl) rfl hG hS (ty_na (by decide) z139 e142 (ty_sr e133 (ty_na (by decide) z127 e130 (ty_sr e121 (ty_na (by decide) z115 e118 (ty_sr e109 (ty_na (by decide) z103 e106 (ty_sr e97 (ty_na (by decide) z91 e94 (ty_sr e85 (ty_na (by decide) z79 e82 (ty_sr e73 (ty_na (by decide) z67 e70 (ty_sr e61 (ty_na (by decide) z55 e58 (ty_sr e49 (ty_na (by decide) z43 e46 (ty_sr e37 (ty_na (by decide) z31 e34 (ty_sr e25 (ty_na (by decide) z19 e22 (ty_sr e13 t10)))))))))))))))))))))) h143 dq_Md_init_344 (fun G144 H locs e145 hG hS => ?_)
  replace hw := hw G144 e145
  refine lv_aload_n hx hb dq_Md_init_347 rfl (lx_at hl 0 rfl) ?_
  refine lv_bipush (v := (20 : Int32)) hx hb dq_Md_init_348 rfl ?_
  obtain ⟨h146, hw⟩ := hw
  obtain ⟨h147, hw⟩ := hw
  obtain ⟨h148, hw⟩ := hw
  obtain ⟨h149, hw⟩ := hw
  refine wo_newa (j := 2) (at_ := .int) hC rfl rfl aq_2 hG hS h146 h147 h148 h149 dq_Md_init_350 (fun q150 G153 H z151 b152 e154 hG hS => ?_)
  replace hw := hw q150 z151 b152 G153 e154
  replace hcc := h148
  replace hss := h149
  obtain ⟨h155, hw⟩ := hw
  refine wo_putR (x := (some q150)) hC fq_Md_141 (Or.inl rfl) rfl hG hS (ty_na (by decide) z151 e154 (ty_sr e145 (ty_na (by decide) z139 e142 (ty_sr e133 (ty_na (by decide) z127 e130 (ty_sr e121 (ty_na (by decide) z115 e118 (ty_sr e109 (ty_na (by decide) z103 e106 (ty_sr e97 (ty_na (by decide) z91 e94 (ty_sr e85 (ty_na (by decide) z79 e82 (ty_sr e73 (ty_na (by decide) z67 e70 (ty_sr e61 (ty_na (by decide) z55 e58 (ty_sr e49 (ty_na (by decide) z43 e46 (ty_sr e37 (ty_na (by decide) z31 e34 (ty_sr e25 (ty_na (by decide) z19 e22 (ty_sr e13 t10)))))))))))))))))))))))) h155 dq_Md_init_352 (fun G156 H locs e157 hG hS => ?_)
  replace hw := hw G156 e157
  refine lv_aload_n hx hb dq_Md_init_355 rfl (lx_at hl 0 rfl) ?_
  refine lv_bipush (v := (6 : Int32)) hx hb dq_Md_init_356 rfl ?_
  obtain ⟨h158, hw⟩ := hw
  obtain ⟨h159, hw⟩ := hw
  obtain ⟨h160, hw⟩ := hw
  obtain ⟨h161, hw⟩ := hw
  refine wo_newa (j := 8) (at_ := .boolean) hC rfl rfl aq_8 hG hS h158 h159 h160 h161 dq_Md_init_358 (fun q162 G165 H z163 b164 e166 hG hS => ?_)
  replace hw := hw q162 z163 b164 G165 e166
  replace hcc := h160
  replace hss := h161
  obtain ⟨h167, hw⟩ := hw
  refine wo_putR (x := (some q162)) hC fq_Md_144 (Or.inl rfl) rfl hG hS (ty_na (by decide) z163 e166 (ty_sr e157 (ty_na (by decide) z151 e154 (ty_sr e145 (ty_na (by decide) z139 e142 (ty_sr e133 (ty_na (by decide) z127 e130 (ty_sr e121 (ty_na (by decide) z115 e118 (ty_sr e109 (ty_na (by decide) z103 e106 (ty_sr e97 (ty_na (by decide) z91 e94 (ty_sr e85 (ty_na (by decide) z79 e82 (ty_sr e73 (ty_na (by decide) z67 e70 (ty_sr e61 (ty_na (by decide) z55 e58 (ty_sr e49 (ty_na (by decide) z43 e46 (ty_sr e37 (ty_na (by decide) z31 e34 (ty_sr e25 (ty_na (by decide) z19 e22 (ty_sr e13 t10)))))))))))))))))))))))))) h167 dq_Md_init_360 (fun G168 H locs e169 hG hS => ?_)
  replace hw := hw G168 e169
  refine lv_aload_n hx hb dq_Md_init_363 rfl (lx_at hl 0 rfl) ?_
  refine lv_bipush (v := (6 : Int32)) hx hb dq_Md_init_364 rfl ?_
  obtain ⟨h170, hw⟩ := hw
  obtain ⟨h171, hw⟩ := hw
  obtain ⟨h172, hw⟩ := hw
  obtain ⟨h173, hw⟩ := hw
  refine wo_newa (j := 9) (at_ := .long) hC rfl rfl aq_9 hG hS h170 h171 h172 h173 dq_Md_init_366 (fun q174 G177 H z175 b176 e178 hG hS => ?_)
  replace hw := hw q174 z175 b176 G177 e178
  replace hcc := h172
  replace hss := h173
  obtain ⟨h179, hw⟩ := hw
  refine wo_putR (x := (some q174)) hC fq_Md_147 (Or.inl rfl) rfl hG hS (ty_na (by decide) z175 e178 (ty_sr e169 (ty_na (by decide) z163 e166 (ty_sr e157 (ty_na (by decide) z151 e154 (ty_sr e145 (ty_na (by decide) z139 e142 (ty_sr e133 (ty_na (by decide) z127 e130 (ty_sr e121 (ty_na (by decide) z115 e118 (ty_sr e109 (ty_na (by decide) z103 e106 (ty_sr e97 (ty_na (by decide) z91 e94 (ty_sr e85 (ty_na (by decide) z79 e82 (ty_sr e73 (ty_na (by decide) z67 e70 (ty_sr e61 (ty_na (by decide) z55 e58 (ty_sr e49 (ty_na (by decide) z43 e46 (ty_sr e37 (ty_na (by decide) z31 e34 (ty_sr e25 (ty_na (by decide) z19 e22 (ty_sr e13 t10)))))))))))))))))))))))))))) h179 dq_Md_init_368 (fun G180 H locs e181 hG hS => ?_)
  replace hw := hw G180 e181
  refine lv_aload_n hx hb dq_Md_init_371 rfl (lx_at hl 0 rfl) ?_
  refine lv_bipush (v := (6 : Int32)) hx hb dq_Md_init_372 rfl ?_
  obtain ⟨h182, hw⟩ := hw
  obtain ⟨h183, hw⟩ := hw
  obtain ⟨h184, hw⟩ := hw
  obtain ⟨h185, hw⟩ := hw
  refine wo_newa (j := 2) (at_ := .int) hC rfl rfl aq_2 hG hS h182 h183 h184 h185 dq_Md_init_374 (fun q186 G189 H z187 b188 e190 hG hS => ?_)
  replace hw := hw q186 z187 b188 G189 e190
  replace hcc := h184
  replace hss := h185
  obtain ⟨h191, hw⟩ := hw
  refine wo_putR (x := (some q186)) hC fq_Md_150 (Or.inl rfl) rfl hG hS (ty_na (by decide) z187 e190 (ty_sr e181 (ty_na (by decide) z175 e178 (ty_sr e169 (ty_na (by decide) z163 e166 (ty_sr e157 (ty_na (by decide) z151 e154 (ty_sr e145 (ty_na (by decide) z139 e142 (ty_sr e133 (ty_na (by decide) z127 e130 (ty_sr e121 (ty_na (by decide) z115 e118 (ty_sr e109 (ty_na (by decide) z103 e106 (ty_sr e97 (ty_na (by decide) z91 e94 (ty_sr e85 (ty_na (by decide) z79 e82 (ty_sr e73 (ty_na (by decide) z67 e70 (ty_sr e61 (ty_na (by decide) z55 e58 (ty_sr e49 (ty_na (by decide) z43 e46 (ty_sr e37 (ty_na (by decide) z31 e34 (ty_sr e25 (ty_na (by decide) z19 e22 (ty_sr e13 t10)))))))))))))))))))))))))))))) h191 dq_Md_init_376 (fun G192 H locs e193 hG hS => ?_)
  replace hw := hw G192 e193
  exact tq_Md_init_379 hC hw hG hS (lx_sub hl [0, 1] rfl) hcc hss
set_option maxRecDepth 100000 in
set_option maxHeartbeats 4000000 in
theorem tq_Md_init_123 {p : Program} {l : Launch} {e : Env} {R : Room} {s₀ : State} {m : MethodId} {args : Array Value} {below : List Frame} {meth : Method} {cd : Code} {E : wo_E} {mc ms : Nat} {Post : wo_W → Prop} (hC : wo_Cx E "EdgeCacheModel" prog_14_method_1_code 2 1 28 ((Option.none : Option Jvm.ClassFile.FieldType)) "<init>" mc ms p R s₀ m args meth cd) : ∀ {G : wo_W} {c s : Nat} {x0 : Nat} {x1 : Int32}, pq_Md_init_123 E mc ms Post G c s x0 x1 → ∀ {H : Heap} {locs : List Loc} {ls : Array Slot}, wo_Se E G H → va_S (en_A E) s₀.heap H locs → lx_has ls 2 [(0, 1, .ref x0), (1, 1, .int x1)] → c ≤ mc → s ≤ ms → W p l e R s₀ m args below meth cd H locs c s (MQ below (va_Qv Post (wo_B E) (en_A E)) args s₀ mc ms (en_A E)) (F0 m 123 ls []) := by
  intro G c s x0 x1 hw H locs ls hG hS hl hcc hss
  dsimp only [pq_Md_init_123] at hw
  have hx := hC.1
  have hb := hC.2.1
  refine lv_aload_n hx hb dq_Md_init_123 rfl (lx_at hl 0 rfl) ?_
  refine lv_bipush (v := (9 : Int32)) hx hb dq_Md_init_124 rfl ?_
  obtain ⟨h1, hw⟩ := hw
  obtain ⟨h2, hw⟩ := hw
  obtain ⟨h3, hw⟩ := hw
  obtain ⟨h4, hw⟩ := hw
  refine wo_newa (j := 9) (at_ := .long) hC rfl rfl aq_9 hG hS h1 h2 h3 h4 dq_Md_init_126 (fun q5 G8 H z6 b7 e9 hG hS => ?_)
  replace hw := hw q5 z6 b7 G8 e9
  replace hcc := h3
  replace hss := h4
  obtain ⟨t10, hw⟩ := hw
  obtain ⟨h11, hw⟩ := hw
  refine wo_putR (x := (some q5)) hC fq_Md_57 (Or.inl rfl) rfl hG hS t10 h11 dq_Md_init_128 (fun G12 H locs e13 hG hS => ?_)
  replace hw := hw G12 e13
  refine lv_aload_n hx hb dq_Md_init_131 rfl (lx_at hl 0 rfl) ?_
  refine lv_bipush (v := (9 : Int32)) hx hb dq_Md_init_132 rfl ?_
  obtain ⟨h14, hw⟩ := hw
  obtain ⟨h15, hw⟩ := hw
  obtain ⟨h16, hw⟩ := hw
  obtain ⟨h17, hw⟩ := hw
  refine wo_newa (j := 2) (at_ := .int) hC rfl rfl aq_2 hG hS h14 h15 h16 h17 dq_Md_init_134 (fun q18 G21 H z19 b20 e22 hG hS => ?_)
  replace hw := hw q18 z19 b20 G21 e22
  replace hcc := h16
  replace hss := h17
  obtain ⟨h23, hw⟩ := hw
  refine wo_putR (x := (some q18)) hC fq_Md_60 (Or.inl rfl) rfl hG hS (ty_na (by decide) z19 e22 (ty_sr e13 t10)) h23 dq_Md_init_136 (fun G24 H locs e25 hG hS => ?_)
  replace hw := hw G24 e25
  refine lv_aload_n hx hb dq_Md_init_139 rfl (lx_at hl 0 rfl) ?_
  refine lv_bipush (v := (24 : Int32)) hx hb dq_Md_init_140 rfl ?_
  obtain ⟨h26, hw⟩ := hw
  obtain ⟨h27, hw⟩ := hw
  obtain ⟨h28, hw⟩ := hw
  obtain ⟨h29, hw⟩ := hw
  refine wo_newa (j := 2) (at_ := .int) hC rfl rfl aq_2 hG hS h26 h27 h28 h29 dq_Md_init_142 (fun q30 G33 H z31 b32 e34 hG hS => ?_)
  replace hw := hw q30 z31 b32 G33 e34
  replace hcc := h28
  replace hss := h29
  obtain ⟨h35, hw⟩ := hw
  refine wo_putR (x := (some q30)) hC fq_Md_63 (Or.inl rfl) rfl hG hS (ty_na (by decide) z31 e34 (ty_sr e25 (ty_na (by decide) z19 e22 (ty_sr e13 t10)))) h35 dq_Md_init_144 (fun G36 H locs e37 hG hS => ?_)
  replace hw := hw G36 e37
  refine lv_aload_n hx hb dq_Md_init_147 rfl (lx_at hl 0 rfl) ?_
  refine lv_bipush (v := (24 : Int32)) hx hb dq_Md_init_148 rfl ?_
  obtain ⟨h38, hw⟩ := hw
  obtain ⟨h39, hw⟩ := hw
  obtain ⟨h40, hw⟩ := hw
  obtain ⟨h41, hw⟩ := hw
  refine wo_newa (j := 2) (at_ := .int) hC rfl rfl aq_2 hG hS h38 h39 h40 h41 dq_Md_init_150 (fun q42 G45 H z43 b44 e46 hG hS => ?_)
  replace hw := hw q42 z43 b44 G45 e46
  replace hcc := h40
  replace hss := h41
  obtain ⟨h47, hw⟩ := hw
  refine wo_putR (x := (some q42)) hC fq_Md_66 (Or.inl rfl) rfl hG hS (ty_na (by decide) z43 e46 (ty_sr e37 (ty_na (by decide) z31 e34 (ty_sr e25 (ty_na (by decide) z19 e22 (ty_sr e13 t10)))))) h47 dq_Md_init_152 (fun G48 H locs e49 hG hS => ?_)
  replace hw := hw G48 e49
  refine lv_aload_n hx hb dq_Md_init_155 rfl (lx_at hl 0 rfl) ?_
  refine lv_bipush (v := (8 : Int32)) hx hb dq_Md_init_156 rfl ?_
  obtain ⟨h50, hw⟩ := hw
  obtain ⟨h51, hw⟩ := hw
  obtain ⟨h52, hw⟩ := hw
  obtain ⟨h53, hw⟩ := hw
  refine wo_newa (j := 2) (at_ := .int) hC rfl rfl aq_2 hG hS h50 h51 h52 h53 dq_Md_init_158 (fun q54 G57 H z55 b56 e58 hG hS => ?_)
  replace hw := hw q54 z55 b56 G57 e58
  replace hcc := h52
  replace hss := h53
  obtain ⟨h59, hw⟩ := hw
  refine wo_putR (x := (some q54)) hC fq_Md_69 (Or.inl rfl) rfl hG hS (ty_na (by decide) z55 e58 (ty_sr e49 (ty_na (by decide) z43 e46 (ty_sr e37 (ty_na (by decide) z31 e34 (ty_sr e25 (ty_na (by decide) z19 e22 (ty_sr e13 t10)))))))) h59 dq_Md_init_160 (fun G60 H locs e61 hG hS => ?_)
  replace hw := hw G60 e61
  refine lv_aload_n hx hb dq_Md_init_163 rfl (lx_at hl 0 rfl) ?_
  refine lv_bipush (v := (8 : Int32)) hx hb dq_Md_init_164 rfl ?_
  obtain ⟨h62, hw⟩ := hw
  obtain ⟨h63, hw⟩ := hw
  obtain ⟨h64, hw⟩ := hw
  obtain ⟨h65, hw⟩ := hw
  refine wo_newa (j := 2) (at_ := .int) hC rfl rfl aq_2 hG hS h62 h63 h64 h65 dq_Md_init_166 (fun q66 G69 H z67 b68 e70 hG hS => ?_)
  replace hw := hw q66 z67 b68 G69 e70
  replace hcc := h64
  replace hss := h65
  obtain ⟨h71, hw⟩ := hw
  refine wo_putR (x := (some q66)) hC fq_Md_72 (Or.inl rfl) rfl hG hS (ty_na (by decide) z67 e70 (ty_sr e61 (ty_na (by decide) z55 e58 (ty_sr e49 (ty_na (by decide) z43 e46 (ty_sr e37 (ty_na (by decide) z31 e34 (ty_sr e25 (ty_na (by decide) z19 e22 (ty_sr e13 t10)))))))))) h71 dq_Md_init_168 (fun G72 H locs e73 hG hS => ?_)
  replace hw := hw G72 e73
  refine lv_aload_n hx hb dq_Md_init_171 rfl (lx_at hl 0 rfl) ?_
  refine lv_bipush (v := (8 : Int32)) hx hb dq_Md_init_172 rfl ?_
  obtain ⟨h74, hw⟩ := hw
  obtain ⟨h75, hw⟩ := hw
  obtain ⟨h76, hw⟩ := hw
  obtain ⟨h77, hw⟩ := hw
  refine wo_newa (j := 2) (at_ := .int) hC rfl rfl aq_2 hG hS h74 h75 h76 h77 dq_Md_init_174 (fun q78 G81 H z79 b80 e82 hG hS => ?_)
  replace hw := hw q78 z79 b80 G81 e82
  replace hcc := h76
  replace hss := h77
  obtain ⟨h83, hw⟩ := hw
  refine wo_putR (x := (some q78)) hC fq_Md_75 (Or.inl rfl) rfl hG hS (ty_na (by decide) z79 e82 (ty_sr e73 (ty_na (by decide) z67 e70 (ty_sr e61 (ty_na (by decide) z55 e58 (ty_sr e49 (ty_na (by decide) z43 e46 (ty_sr e37 (ty_na (by decide) z31 e34 (ty_sr e25 (ty_na (by decide) z19 e22 (ty_sr e13 t10)))))))))))) h83 dq_Md_init_176 (fun G84 H locs e85 hG hS => ?_)
  replace hw := hw G84 e85
  refine lv_aload_n hx hb dq_Md_init_179 rfl (lx_at hl 0 rfl) ?_
  refine lv_bipush (v := (8 : Int32)) hx hb dq_Md_init_180 rfl ?_
  obtain ⟨h86, hw⟩ := hw
  obtain ⟨h87, hw⟩ := hw
  obtain ⟨h88, hw⟩ := hw
  obtain ⟨h89, hw⟩ := hw
  refine wo_newa (j := 2) (at_ := .int) hC rfl rfl aq_2 hG hS h86 h87 h88 h89 dq_Md_init_182 (fun q90 G93 H z91 b92 e94 hG hS => ?_)
  replace hw := hw q90 z91 b92 G93 e94
  replace hcc := h88
  replace hss := h89
  obtain ⟨h95, hw⟩ := hw
  refine wo_putR (x := (some q90)) hC fq_Md_78 (Or.inl rfl) rfl hG hS (ty_na (by decide) z91 e94 (ty_sr e85 (ty_na (by decide) z79 e82 (ty_sr e73 (ty_na (by decide) z67 e70 (ty_sr e61 (ty_na (by decide) z55 e58 (ty_sr e49 (ty_na (by decide) z43 e46 (ty_sr e37 (ty_na (by decide) z31 e34 (ty_sr e25 (ty_na (by decide) z19 e22 (ty_sr e13 t10)))))))))))))) h95 dq_Md_init_184 (fun G96 H locs e97 hG hS => ?_)
  replace hw := hw G96 e97
  refine lv_aload_n hx hb dq_Md_init_187 rfl (lx_at hl 0 rfl) ?_
  refine lv_bipush (v := (8 : Int32)) hx hb dq_Md_init_188 rfl ?_
  obtain ⟨h98, hw⟩ := hw
  obtain ⟨h99, hw⟩ := hw
  obtain ⟨h100, hw⟩ := hw
  obtain ⟨h101, hw⟩ := hw
  refine wo_newa (j := 2) (at_ := .int) hC rfl rfl aq_2 hG hS h98 h99 h100 h101 dq_Md_init_190 (fun q102 G105 H z103 b104 e106 hG hS => ?_)
  replace hw := hw q102 z103 b104 G105 e106
  replace hcc := h100
  replace hss := h101
  obtain ⟨h107, hw⟩ := hw
  refine wo_putR (x := (some q102)) hC fq_Md_81 (Or.inl rfl) rfl hG hS (ty_na (by decide) z103 e106 (ty_sr e97 (ty_na (by decide) z91 e94 (ty_sr e85 (ty_na (by decide) z79 e82 (ty_sr e73 (ty_na (by decide) z67 e70 (ty_sr e61 (ty_na (by decide) z55 e58 (ty_sr e49 (ty_na (by decide) z43 e46 (ty_sr e37 (ty_na (by decide) z31 e34 (ty_sr e25 (ty_na (by decide) z19 e22 (ty_sr e13 t10)))))))))))))))) h107 dq_Md_init_192 (fun G108 H locs e109 hG hS => ?_)
  replace hw := hw G108 e109
  refine lv_aload_n hx hb dq_Md_init_195 rfl (lx_at hl 0 rfl) ?_
  refine lv_bipush (v := (8 : Int32)) hx hb dq_Md_init_196 rfl ?_
  obtain ⟨h110, hw⟩ := hw
  obtain ⟨h111, hw⟩ := hw
  obtain ⟨h112, hw⟩ := hw
  obtain ⟨h113, hw⟩ := hw
  refine wo_newa (j := 2) (at_ := .int) hC rfl rfl aq_2 hG hS h110 h111 h112 h113 dq_Md_init_198 (fun q114 G117 H z115 b116 e118 hG hS => ?_)
  replace hw := hw q114 z115 b116 G117 e118
  replace hcc := h112
  replace hss := h113
  obtain ⟨h119, hw⟩ := hw
  refine wo_putR (x := (some q114)) hC fq_Md_84 (Or.inl rfl) rfl hG hS (ty_na (by decide) z115 e118 (ty_sr e109 (ty_na (by decide) z103 e106 (ty_sr e97 (ty_na (by decide) z91 e94 (ty_sr e85 (ty_na (by decide) z79 e82 (ty_sr e73 (ty_na (by decide) z67 e70 (ty_sr e61 (ty_na (by decide) z55 e58 (ty_sr e49 (ty_na (by decide) z43 e46 (ty_sr e37 (ty_na (by decide) z31 e34 (ty_sr e25 (ty_na (by decide) z19 e22 (ty_sr e13 t10)))))))))))))))))) h119 dq_Md_init_200 (fun G120 H locs e121 hG hS => ?_)
  replace hw := hw G120 e121
  refine lv_aload_n hx hb dq_Md_init_203 rfl (lx_at hl 0 rfl) ?_
  refine lv_bipush (v := (8 : Int32)) hx hb dq_Md_init_204 rfl ?_
  obtain ⟨h122, hw⟩ := hw
  obtain ⟨h123, hw⟩ := hw
  obtain ⟨h124, hw⟩ := hw
  obtain ⟨h125, hw⟩ := hw
  refine wo_newa (j := 8) (at_ := .boolean) hC rfl rfl aq_8 hG hS h122 h123 h124 h125 dq_Md_init_206 (fun q126 G129 H z127 b128 e130 hG hS => ?_)
  replace hw := hw q126 z127 b128 G129 e130
  replace hcc := h124
  replace hss := h125
  obtain ⟨h131, hw⟩ := hw
  refine wo_putR (x := (some q126)) hC fq_Md_87 (Or.inl rfl) rfl hG hS (ty_na (by decide) z127 e130 (ty_sr e121 (ty_na (by decide) z115 e118 (ty_sr e109 (ty_na (by decide) z103 e106 (ty_sr e97 (ty_na (by decide) z91 e94 (ty_sr e85 (ty_na (by decide) z79 e82 (ty_sr e73 (ty_na (by decide) z67 e70 (ty_sr e61 (ty_na (by decide) z55 e58 (ty_sr e49 (ty_na (by decide) z43 e46 (ty_sr e37 (ty_na (by decide) z31 e34 (ty_sr e25 (ty_na (by decide) z19 e22 (ty_sr e13 t10)))))))))))))))))))) h131 dq_Md_init_208 (fun G132 H locs e133 hG hS => ?_)
  replace hw := hw G132 e133
  refine lv_aload_n hx hb dq_Md_init_211 rfl (lx_at hl 0 rfl) ?_
  refine lv_bipush (v := (8 : Int32)) hx hb dq_Md_init_212 rfl ?_
  obtain ⟨h134, hw⟩ := hw
  obtain ⟨h135, hw⟩ := hw
  obtain ⟨h136, hw⟩ := hw
  obtain ⟨h137, hw⟩ := hw
  refine wo_newa (j := 8) (at_ := .boolean) hC rfl rfl aq_8 hG hS h134 h135 h136 h137 dq_Md_init_214 (fun q138 G141 H z139 b140 e142 hG hS => ?_)
  replace hw := hw q138 z139 b140 G141 e142
  replace hcc := h136
  replace hss := h137
  obtain ⟨h143, hw⟩ := hw
  refine wo_putR (x := (some q138)) hC fq_Md_90 (Or.inl rfl) rfl hG hS (ty_na (by decide) z139 e142 (ty_sr e133 (ty_na (by decide) z127 e130 (ty_sr e121 (ty_na (by decide) z115 e118 (ty_sr e109 (ty_na (by decide) z103 e106 (ty_sr e97 (ty_na (by decide) z91 e94 (ty_sr e85 (ty_na (by decide) z79 e82 (ty_sr e73 (ty_na (by decide) z67 e70 (ty_sr e61 (ty_na (by decide) z55 e58 (ty_sr e49 (ty_na (by decide) z43 e46 (ty_sr e37 (ty_na (by decide) z31 e34 (ty_sr e25 (ty_na (by decide) z19 e22 (ty_sr e13 t10)))))))))))))))))))))) h143 dq_Md_init_216 (fun G144 H locs e145 hG hS => ?_)
  replace hw := hw G144 e145
  refine lv_aload_n hx hb dq_Md_init_219 rfl (lx_at hl 0 rfl) ?_
  refine lv_bipush (v := (8 : Int32)) hx hb dq_Md_init_220 rfl ?_
  obtain ⟨h146, hw⟩ := hw
  obtain ⟨h147, hw⟩ := hw
  obtain ⟨h148, hw⟩ := hw
  obtain ⟨h149, hw⟩ := hw
  refine wo_newa (j := 2) (at_ := .int) hC rfl rfl aq_2 hG hS h146 h147 h148 h149 dq_Md_init_222 (fun q150 G153 H z151 b152 e154 hG hS => ?_)
  replace hw := hw q150 z151 b152 G153 e154
  replace hcc := h148
  replace hss := h149
  obtain ⟨h155, hw⟩ := hw
  refine wo_putR (x := (some q150)) hC fq_Md_93 (Or.inl rfl) rfl hG hS (ty_na (by decide) z151 e154 (ty_sr e145 (ty_na (by decide) z139 e142 (ty_sr e133 (ty_na (by decide) z127 e130 (ty_sr e121 (ty_na (by decide) z115 e118 (ty_sr e109 (ty_na (by decide) z103 e106 (ty_sr e97 (ty_na (by decide) z91 e94 (ty_sr e85 (ty_na (by decide) z79 e82 (ty_sr e73 (ty_na (by decide) z67 e70 (ty_sr e61 (ty_na (by decide) z55 e58 (ty_sr e49 (ty_na (by decide) z43 e46 (ty_sr e37 (ty_na (by decide) z31 e34 (ty_sr e25 (ty_na (by decide) z19 e22 (ty_sr e13 t10)))))))))))))))))))))))) h155 dq_Md_init_224 (fun G156 H locs e157 hG hS => ?_)
  replace hw := hw G156 e157
  refine lv_aload_n hx hb dq_Md_init_227 rfl (lx_at hl 0 rfl) ?_
  refine lv_bipush (v := (9 : Int32)) hx hb dq_Md_init_228 rfl ?_
  obtain ⟨h158, hw⟩ := hw
  obtain ⟨h159, hw⟩ := hw
  obtain ⟨h160, hw⟩ := hw
  obtain ⟨h161, hw⟩ := hw
  refine wo_newa (j := 2) (at_ := .int) hC rfl rfl aq_2 hG hS h158 h159 h160 h161 dq_Md_init_230 (fun q162 G165 H z163 b164 e166 hG hS => ?_)
  replace hw := hw q162 z163 b164 G165 e166
  replace hcc := h160
  replace hss := h161
  obtain ⟨h167, hw⟩ := hw
  refine wo_putR (x := (some q162)) hC fq_Md_96 (Or.inl rfl) rfl hG hS (ty_na (by decide) z163 e166 (ty_sr e157 (ty_na (by decide) z151 e154 (ty_sr e145 (ty_na (by decide) z139 e142 (ty_sr e133 (ty_na (by decide) z127 e130 (ty_sr e121 (ty_na (by decide) z115 e118 (ty_sr e109 (ty_na (by decide) z103 e106 (ty_sr e97 (ty_na (by decide) z91 e94 (ty_sr e85 (ty_na (by decide) z79 e82 (ty_sr e73 (ty_na (by decide) z67 e70 (ty_sr e61 (ty_na (by decide) z55 e58 (ty_sr e49 (ty_na (by decide) z43 e46 (ty_sr e37 (ty_na (by decide) z31 e34 (ty_sr e25 (ty_na (by decide) z19 e22 (ty_sr e13 t10)))))))))))))))))))))))))) h167 dq_Md_init_232 (fun G168 H locs e169 hG hS => ?_)
  replace hw := hw G168 e169
  refine lv_aload_n hx hb dq_Md_init_235 rfl (lx_at hl 0 rfl) ?_
  refine lv_bipush (v := (40 : Int32)) hx hb dq_Md_init_236 rfl ?_
  obtain ⟨h170, hw⟩ := hw
  obtain ⟨h171, hw⟩ := hw
  obtain ⟨h172, hw⟩ := hw
  obtain ⟨h173, hw⟩ := hw
  refine wo_newa (j := 2) (at_ := .int) hC rfl rfl aq_2 hG hS h170 h171 h172 h173 dq_Md_init_238 (fun q174 G177 H z175 b176 e178 hG hS => ?_)
  replace hw := hw q174 z175 b176 G177 e178
  replace hcc := h172
  replace hss := h173
  obtain ⟨h179, hw⟩ := hw
  refine wo_putR (x := (some q174)) hC fq_Md_99 (Or.inl rfl) rfl hG hS (ty_na (by decide) z175 e178 (ty_sr e169 (ty_na (by decide) z163 e166 (ty_sr e157 (ty_na (by decide) z151 e154 (ty_sr e145 (ty_na (by decide) z139 e142 (ty_sr e133 (ty_na (by decide) z127 e130 (ty_sr e121 (ty_na (by decide) z115 e118 (ty_sr e109 (ty_na (by decide) z103 e106 (ty_sr e97 (ty_na (by decide) z91 e94 (ty_sr e85 (ty_na (by decide) z79 e82 (ty_sr e73 (ty_na (by decide) z67 e70 (ty_sr e61 (ty_na (by decide) z55 e58 (ty_sr e49 (ty_na (by decide) z43 e46 (ty_sr e37 (ty_na (by decide) z31 e34 (ty_sr e25 (ty_na (by decide) z19 e22 (ty_sr e13 t10)))))))))))))))))))))))))))) h179 dq_Md_init_240 (fun G180 H locs e181 hG hS => ?_)
  replace hw := hw G180 e181
  refine lv_aload_n hx hb dq_Md_init_243 rfl (lx_at hl 0 rfl) ?_
  refine lv_bipush (v := (40 : Int32)) hx hb dq_Md_init_244 rfl ?_
  obtain ⟨h182, hw⟩ := hw
  obtain ⟨h183, hw⟩ := hw
  obtain ⟨h184, hw⟩ := hw
  obtain ⟨h185, hw⟩ := hw
  refine wo_newa (j := 9) (at_ := .long) hC rfl rfl aq_9 hG hS h182 h183 h184 h185 dq_Md_init_246 (fun q186 G189 H z187 b188 e190 hG hS => ?_)
  replace hw := hw q186 z187 b188 G189 e190
  replace hcc := h184
  replace hss := h185
  obtain ⟨h191, hw⟩ := hw
  refine wo_putR (x := (some q186)) hC fq_Md_102 (Or.inl rfl) rfl hG hS (ty_na (by decide) z187 e190 (ty_sr e181 (ty_na (by decide) z175 e178 (ty_sr e169 (ty_na (by decide) z163 e166 (ty_sr e157 (ty_na (by decide) z151 e154 (ty_sr e145 (ty_na (by decide) z139 e142 (ty_sr e133 (ty_na (by decide) z127 e130 (ty_sr e121 (ty_na (by decide) z115 e118 (ty_sr e109 (ty_na (by decide) z103 e106 (ty_sr e97 (ty_na (by decide) z91 e94 (ty_sr e85 (ty_na (by decide) z79 e82 (ty_sr e73 (ty_na (by decide) z67 e70 (ty_sr e61 (ty_na (by decide) z55 e58 (ty_sr e49 (ty_na (by decide) z43 e46 (ty_sr e37 (ty_na (by decide) z31 e34 (ty_sr e25 (ty_na (by decide) z19 e22 (ty_sr e13 t10)))))))))))))))))))))))))))))) h191 dq_Md_init_248 (fun G192 H locs e193 hG hS => ?_)
  replace hw := hw G192 e193
  exact tq_Md_init_251 hC hw hG hS (lx_sub hl [0, 1] rfl) hcc hss
set_option maxRecDepth 100000 in
set_option maxHeartbeats 4000000 in
theorem tq_Md_init_0 {p : Program} {l : Launch} {e : Env} {R : Room} {s₀ : State} {m : MethodId} {args : Array Value} {below : List Frame} {meth : Method} {cd : Code} {E : wo_E} {mc ms : Nat} {Post : wo_W → Prop} (hC : wo_Cx E "EdgeCacheModel" prog_14_method_1_code 2 1 28 ((Option.none : Option Jvm.ClassFile.FieldType)) "<init>" mc ms p R s₀ m args meth cd) : ∀ {G : wo_W} {c s : Nat} {x0 : Nat} {x1 : Int32}, pq_Md_init_0 E mc ms Post G c s x0 x1 → ∀ {H : Heap} {locs : List Loc} {ls : Array Slot}, wo_Se E G H → va_S (en_A E) s₀.heap H locs → lx_has ls 2 [(0, 1, .ref x0), (1, 1, .int x1)] → c ≤ mc → s ≤ ms → W p l e R s₀ m args below meth cd H locs c s (MQ below (va_Qv Post (wo_B E) (en_A E)) args s₀ mc ms (en_A E)) (F0 m 0 ls []) := by
  intro G c s x0 x1 hw H locs ls hG hS hl hcc hss
  dsimp only [pq_Md_init_0] at hw
  have hx := hC.1
  have hb := hC.2.1
  refine lv_aload_n hx hb dq_Md_init_0 rfl (lx_at hl 0 rfl) ?_
  refine wo_objI hC lq_Md_1 (lx_sz hl) (by decide) (lx_rk (Nat.le_of_ble_eq_true rfl)) dq_Md_init_1 ?_
  refine lv_aload_n hx hb dq_Md_init_4 rfl (lx_at hl 0 rfl) ?_
  refine lv_sipush (v := (12600 : Int32)) hx hb dq_Md_init_5 rfl ?_
  obtain ⟨h1, hw⟩ := hw
  obtain ⟨h2, hw⟩ := hw
  obtain ⟨h3, hw⟩ := hw
  obtain ⟨h4, hw⟩ := hw
  refine wo_newa (j := 2) (at_ := .int) hC rfl rfl aq_2 hG hS h1 h2 h3 h4 dq_Md_init_8 (fun q5 G8 H z6 b7 e9 hG hS => ?_)
  replace hw := hw q5 z6 b7 G8 e9
  replace hcc := h3
  replace hss := h4
  obtain ⟨t10, hw⟩ := hw
  obtain ⟨h11, hw⟩ := hw
  refine wo_putR (x := (some q5)) hC fq_Md_7 (Or.inl rfl) rfl hG hS t10 h11 dq_Md_init_10 (fun G12 H locs e13 hG hS => ?_)
  replace hw := hw G12 e13
  refine lv_aload_n hx hb dq_Md_init_13 rfl (lx_at hl 0 rfl) ?_
  refine lv_iconst (v := (3 : Int32)) hx hb dq_Md_init_14 rfl ?_
  obtain ⟨h14, hw⟩ := hw
  obtain ⟨h15, hw⟩ := hw
  obtain ⟨h16, hw⟩ := hw
  obtain ⟨h17, hw⟩ := hw
  refine wo_newa (j := 2) (at_ := .int) hC rfl rfl aq_2 hG hS h14 h15 h16 h17 dq_Md_init_15 (fun q18 G21 H z19 b20 e22 hG hS => ?_)
  replace hw := hw q18 z19 b20 G21 e22
  replace hcc := h16
  replace hss := h17
  obtain ⟨h23, hw⟩ := hw
  refine wo_putR (x := (some q18)) hC fq_Md_13 (Or.inl rfl) rfl hG hS (ty_na (by decide) z19 e22 (ty_sr e13 t10)) h23 dq_Md_init_17 (fun G24 H locs e25 hG hS => ?_)
  replace hw := hw G24 e25
  refine lv_aload_n hx hb dq_Md_init_20 rfl (lx_at hl 0 rfl) ?_
  refine lv_iconst (v := (3 : Int32)) hx hb dq_Md_init_21 rfl ?_
  obtain ⟨h26, hw⟩ := hw
  obtain ⟨h27, hw⟩ := hw
  obtain ⟨h28, hw⟩ := hw
  obtain ⟨h29, hw⟩ := hw
  refine wo_newa (j := 8) (at_ := .boolean) hC rfl rfl aq_8 hG hS h26 h27 h28 h29 dq_Md_init_22 (fun q30 G33 H z31 b32 e34 hG hS => ?_)
  replace hw := hw q30 z31 b32 G33 e34
  replace hcc := h28
  replace hss := h29
  obtain ⟨h35, hw⟩ := hw
  refine wo_putR (x := (some q30)) hC fq_Md_16 (Or.inl rfl) rfl hG hS (ty_na (by decide) z31 e34 (ty_sr e25 (ty_na (by decide) z19 e22 (ty_sr e13 t10)))) h35 dq_Md_init_24 (fun G36 H locs e37 hG hS => ?_)
  replace hw := hw G36 e37
  refine lv_aload_n hx hb dq_Md_init_27 rfl (lx_at hl 0 rfl) ?_
  refine lv_sipush (v := (1920 : Int32)) hx hb dq_Md_init_28 rfl ?_
  obtain ⟨h38, hw⟩ := hw
  obtain ⟨h39, hw⟩ := hw
  obtain ⟨h40, hw⟩ := hw
  obtain ⟨h41, hw⟩ := hw
  refine wo_newa (j := 2) (at_ := .int) hC rfl rfl aq_2 hG hS h38 h39 h40 h41 dq_Md_init_31 (fun q42 G45 H z43 b44 e46 hG hS => ?_)
  replace hw := hw q42 z43 b44 G45 e46
  replace hcc := h40
  replace hss := h41
  obtain ⟨h47, hw⟩ := hw
  refine wo_putR (x := (some q42)) hC fq_Md_20 (Or.inl rfl) rfl hG hS (ty_na (by decide) z43 e46 (ty_sr e37 (ty_na (by decide) z31 e34 (ty_sr e25 (ty_na (by decide) z19 e22 (ty_sr e13 t10)))))) h47 dq_Md_init_33 (fun G48 H locs e49 hG hS => ?_)
  replace hw := hw G48 e49
  refine lv_aload_n hx hb dq_Md_init_36 rfl (lx_at hl 0 rfl) ?_
  refine lv_iconst (v := (3 : Int32)) hx hb dq_Md_init_37 rfl ?_
  obtain ⟨h50, hw⟩ := hw
  obtain ⟨h51, hw⟩ := hw
  obtain ⟨h52, hw⟩ := hw
  obtain ⟨h53, hw⟩ := hw
  refine wo_newa (j := 2) (at_ := .int) hC rfl rfl aq_2 hG hS h50 h51 h52 h53 dq_Md_init_38 (fun q54 G57 H z55 b56 e58 hG hS => ?_)
  replace hw := hw q54 z55 b56 G57 e58
  replace hcc := h52
  replace hss := h53
  obtain ⟨h59, hw⟩ := hw
  refine wo_putR (x := (some q54)) hC fq_Md_23 (Or.inl rfl) rfl hG hS (ty_na (by decide) z55 e58 (ty_sr e49 (ty_na (by decide) z43 e46 (ty_sr e37 (ty_na (by decide) z31 e34 (ty_sr e25 (ty_na (by decide) z19 e22 (ty_sr e13 t10)))))))) h59 dq_Md_init_40 (fun G60 H locs e61 hG hS => ?_)
  replace hw := hw G60 e61
  refine lv_aload_n hx hb dq_Md_init_43 rfl (lx_at hl 0 rfl) ?_
  refine lv_sipush (v := (1152 : Int32)) hx hb dq_Md_init_44 rfl ?_
  obtain ⟨h62, hw⟩ := hw
  obtain ⟨h63, hw⟩ := hw
  obtain ⟨h64, hw⟩ := hw
  obtain ⟨h65, hw⟩ := hw
  refine wo_newa (j := 2) (at_ := .int) hC rfl rfl aq_2 hG hS h62 h63 h64 h65 dq_Md_init_47 (fun q66 G69 H z67 b68 e70 hG hS => ?_)
  replace hw := hw q66 z67 b68 G69 e70
  replace hcc := h64
  replace hss := h65
  obtain ⟨h71, hw⟩ := hw
  refine wo_putR (x := (some q66)) hC fq_Md_26 (Or.inl rfl) rfl hG hS (ty_na (by decide) z67 e70 (ty_sr e61 (ty_na (by decide) z55 e58 (ty_sr e49 (ty_na (by decide) z43 e46 (ty_sr e37 (ty_na (by decide) z31 e34 (ty_sr e25 (ty_na (by decide) z19 e22 (ty_sr e13 t10)))))))))) h71 dq_Md_init_49 (fun G72 H locs e73 hG hS => ?_)
  replace hw := hw G72 e73
  refine lv_aload_n hx hb dq_Md_init_52 rfl (lx_at hl 0 rfl) ?_
  refine lv_bipush (v := (12 : Int32)) hx hb dq_Md_init_53 rfl ?_
  obtain ⟨h74, hw⟩ := hw
  obtain ⟨h75, hw⟩ := hw
  obtain ⟨h76, hw⟩ := hw
  obtain ⟨h77, hw⟩ := hw
  refine wo_newa (j := 2) (at_ := .int) hC rfl rfl aq_2 hG hS h74 h75 h76 h77 dq_Md_init_55 (fun q78 G81 H z79 b80 e82 hG hS => ?_)
  replace hw := hw q78 z79 b80 G81 e82
  replace hcc := h76
  replace hss := h77
  obtain ⟨h83, hw⟩ := hw
  refine wo_putR (x := (some q78)) hC fq_Md_29 (Or.inl rfl) rfl hG hS (ty_na (by decide) z79 e82 (ty_sr e73 (ty_na (by decide) z67 e70 (ty_sr e61 (ty_na (by decide) z55 e58 (ty_sr e49 (ty_na (by decide) z43 e46 (ty_sr e37 (ty_na (by decide) z31 e34 (ty_sr e25 (ty_na (by decide) z19 e22 (ty_sr e13 t10)))))))))))) h83 dq_Md_init_57 (fun G84 H locs e85 hG hS => ?_)
  replace hw := hw G84 e85
  refine lv_aload_n hx hb dq_Md_init_60 rfl (lx_at hl 0 rfl) ?_
  refine lv_iconst (v := (3 : Int32)) hx hb dq_Md_init_61 rfl ?_
  obtain ⟨h86, hw⟩ := hw
  obtain ⟨h87, hw⟩ := hw
  obtain ⟨h88, hw⟩ := hw
  obtain ⟨h89, hw⟩ := hw
  refine wo_newa (j := 2) (at_ := .int) hC rfl rfl aq_2 hG hS h86 h87 h88 h89 dq_Md_init_62 (fun q90 G93 H z91 b92 e94 hG hS => ?_)
  replace hw := hw q90 z91 b92 G93 e94
  replace hcc := h88
  replace hss := h89
  obtain ⟨h95, hw⟩ := hw
  refine wo_putR (x := (some q90)) hC fq_Md_32 (Or.inl rfl) rfl hG hS (ty_na (by decide) z91 e94 (ty_sr e85 (ty_na (by decide) z79 e82 (ty_sr e73 (ty_na (by decide) z67 e70 (ty_sr e61 (ty_na (by decide) z55 e58 (ty_sr e49 (ty_na (by decide) z43 e46 (ty_sr e37 (ty_na (by decide) z31 e34 (ty_sr e25 (ty_na (by decide) z19 e22 (ty_sr e13 t10)))))))))))))) h95 dq_Md_init_64 (fun G96 H locs e97 hG hS => ?_)
  replace hw := hw G96 e97
  refine lv_aload_n hx hb dq_Md_init_67 rfl (lx_at hl 0 rfl) ?_
  refine lv_iconst (v := (3 : Int32)) hx hb dq_Md_init_68 rfl ?_
  obtain ⟨h98, hw⟩ := hw
  obtain ⟨h99, hw⟩ := hw
  obtain ⟨h100, hw⟩ := hw
  obtain ⟨h101, hw⟩ := hw
  refine wo_newa (j := 2) (at_ := .int) hC rfl rfl aq_2 hG hS h98 h99 h100 h101 dq_Md_init_69 (fun q102 G105 H z103 b104 e106 hG hS => ?_)
  replace hw := hw q102 z103 b104 G105 e106
  replace hcc := h100
  replace hss := h101
  obtain ⟨h107, hw⟩ := hw
  refine wo_putR (x := (some q102)) hC fq_Md_35 (Or.inl rfl) rfl hG hS (ty_na (by decide) z103 e106 (ty_sr e97 (ty_na (by decide) z91 e94 (ty_sr e85 (ty_na (by decide) z79 e82 (ty_sr e73 (ty_na (by decide) z67 e70 (ty_sr e61 (ty_na (by decide) z55 e58 (ty_sr e49 (ty_na (by decide) z43 e46 (ty_sr e37 (ty_na (by decide) z31 e34 (ty_sr e25 (ty_na (by decide) z19 e22 (ty_sr e13 t10)))))))))))))))) h107 dq_Md_init_71 (fun G108 H locs e109 hG hS => ?_)
  replace hw := hw G108 e109
  refine lv_aload_n hx hb dq_Md_init_74 rfl (lx_at hl 0 rfl) ?_
  refine lv_sipush (v := (128 : Int32)) hx hb dq_Md_init_75 rfl ?_
  obtain ⟨h110, hw⟩ := hw
  obtain ⟨h111, hw⟩ := hw
  obtain ⟨h112, hw⟩ := hw
  obtain ⟨h113, hw⟩ := hw
  refine wo_newa (j := 2) (at_ := .int) hC rfl rfl aq_2 hG hS h110 h111 h112 h113 dq_Md_init_78 (fun q114 G117 H z115 b116 e118 hG hS => ?_)
  replace hw := hw q114 z115 b116 G117 e118
  replace hcc := h112
  replace hss := h113
  obtain ⟨h119, hw⟩ := hw
  refine wo_putR (x := (some q114)) hC fq_Md_38 (Or.inl rfl) rfl hG hS (ty_na (by decide) z115 e118 (ty_sr e109 (ty_na (by decide) z103 e106 (ty_sr e97 (ty_na (by decide) z91 e94 (ty_sr e85 (ty_na (by decide) z79 e82 (ty_sr e73 (ty_na (by decide) z67 e70 (ty_sr e61 (ty_na (by decide) z55 e58 (ty_sr e49 (ty_na (by decide) z43 e46 (ty_sr e37 (ty_na (by decide) z31 e34 (ty_sr e25 (ty_na (by decide) z19 e22 (ty_sr e13 t10)))))))))))))))))) h119 dq_Md_init_80 (fun G120 H locs e121 hG hS => ?_)
  replace hw := hw G120 e121
  refine lv_aload_n hx hb dq_Md_init_83 rfl (lx_at hl 0 rfl) ?_
  refine lv_bipush (v := (9 : Int32)) hx hb dq_Md_init_84 rfl ?_
  obtain ⟨h122, hw⟩ := hw
  obtain ⟨h123, hw⟩ := hw
  obtain ⟨h124, hw⟩ := hw
  obtain ⟨h125, hw⟩ := hw
  refine wo_newa (j := 2) (at_ := .int) hC rfl rfl aq_2 hG hS h122 h123 h124 h125 dq_Md_init_86 (fun q126 G129 H z127 b128 e130 hG hS => ?_)
  replace hw := hw q126 z127 b128 G129 e130
  replace hcc := h124
  replace hss := h125
  obtain ⟨h131, hw⟩ := hw
  refine wo_putR (x := (some q126)) hC fq_Md_41 (Or.inl rfl) rfl hG hS (ty_na (by decide) z127 e130 (ty_sr e121 (ty_na (by decide) z115 e118 (ty_sr e109 (ty_na (by decide) z103 e106 (ty_sr e97 (ty_na (by decide) z91 e94 (ty_sr e85 (ty_na (by decide) z79 e82 (ty_sr e73 (ty_na (by decide) z67 e70 (ty_sr e61 (ty_na (by decide) z55 e58 (ty_sr e49 (ty_na (by decide) z43 e46 (ty_sr e37 (ty_na (by decide) z31 e34 (ty_sr e25 (ty_na (by decide) z19 e22 (ty_sr e13 t10)))))))))))))))))))) h131 dq_Md_init_88 (fun G132 H locs e133 hG hS => ?_)
  replace hw := hw G132 e133
  refine lv_aload_n hx hb dq_Md_init_91 rfl (lx_at hl 0 rfl) ?_
  refine lv_bipush (v := (9 : Int32)) hx hb dq_Md_init_92 rfl ?_
  obtain ⟨h134, hw⟩ := hw
  obtain ⟨h135, hw⟩ := hw
  obtain ⟨h136, hw⟩ := hw
  obtain ⟨h137, hw⟩ := hw
  refine wo_newa (j := 9) (at_ := .long) hC rfl rfl aq_9 hG hS h134 h135 h136 h137 dq_Md_init_94 (fun q138 G141 H z139 b140 e142 hG hS => ?_)
  replace hw := hw q138 z139 b140 G141 e142
  replace hcc := h136
  replace hss := h137
  obtain ⟨h143, hw⟩ := hw
  refine wo_putR (x := (some q138)) hC fq_Md_44 (Or.inl rfl) rfl hG hS (ty_na (by decide) z139 e142 (ty_sr e133 (ty_na (by decide) z127 e130 (ty_sr e121 (ty_na (by decide) z115 e118 (ty_sr e109 (ty_na (by decide) z103 e106 (ty_sr e97 (ty_na (by decide) z91 e94 (ty_sr e85 (ty_na (by decide) z79 e82 (ty_sr e73 (ty_na (by decide) z67 e70 (ty_sr e61 (ty_na (by decide) z55 e58 (ty_sr e49 (ty_na (by decide) z43 e46 (ty_sr e37 (ty_na (by decide) z31 e34 (ty_sr e25 (ty_na (by decide) z19 e22 (ty_sr e13 t10)))))))))))))))))))))) h143 dq_Md_init_96 (fun G144 H locs e145 hG hS => ?_)
  replace hw := hw G144 e145
  refine lv_aload_n hx hb dq_Md_init_99 rfl (lx_at hl 0 rfl) ?_
  refine lv_bipush (v := (9 : Int32)) hx hb dq_Md_init_100 rfl ?_
  obtain ⟨h146, hw⟩ := hw
  obtain ⟨h147, hw⟩ := hw
  obtain ⟨h148, hw⟩ := hw
  obtain ⟨h149, hw⟩ := hw
  refine wo_newa (j := 2) (at_ := .int) hC rfl rfl aq_2 hG hS h146 h147 h148 h149 dq_Md_init_102 (fun q150 G153 H z151 b152 e154 hG hS => ?_)
  replace hw := hw q150 z151 b152 G153 e154
  replace hcc := h148
  replace hss := h149
  obtain ⟨h155, hw⟩ := hw
  refine wo_putR (x := (some q150)) hC fq_Md_48 (Or.inl rfl) rfl hG hS (ty_na (by decide) z151 e154 (ty_sr e145 (ty_na (by decide) z139 e142 (ty_sr e133 (ty_na (by decide) z127 e130 (ty_sr e121 (ty_na (by decide) z115 e118 (ty_sr e109 (ty_na (by decide) z103 e106 (ty_sr e97 (ty_na (by decide) z91 e94 (ty_sr e85 (ty_na (by decide) z79 e82 (ty_sr e73 (ty_na (by decide) z67 e70 (ty_sr e61 (ty_na (by decide) z55 e58 (ty_sr e49 (ty_na (by decide) z43 e46 (ty_sr e37 (ty_na (by decide) z31 e34 (ty_sr e25 (ty_na (by decide) z19 e22 (ty_sr e13 t10)))))))))))))))))))))))) h155 dq_Md_init_104 (fun G156 H locs e157 hG hS => ?_)
  replace hw := hw G156 e157
  refine lv_aload_n hx hb dq_Md_init_107 rfl (lx_at hl 0 rfl) ?_
  refine lv_bipush (v := (72 : Int32)) hx hb dq_Md_init_108 rfl ?_
  obtain ⟨h158, hw⟩ := hw
  obtain ⟨h159, hw⟩ := hw
  obtain ⟨h160, hw⟩ := hw
  obtain ⟨h161, hw⟩ := hw
  refine wo_newa (j := 9) (at_ := .long) hC rfl rfl aq_9 hG hS h158 h159 h160 h161 dq_Md_init_110 (fun q162 G165 H z163 b164 e166 hG hS => ?_)
  replace hw := hw q162 z163 b164 G165 e166
  replace hcc := h160
  replace hss := h161
  obtain ⟨h167, hw⟩ := hw
  refine wo_putR (x := (some q162)) hC fq_Md_51 (Or.inl rfl) rfl hG hS (ty_na (by decide) z163 e166 (ty_sr e157 (ty_na (by decide) z151 e154 (ty_sr e145 (ty_na (by decide) z139 e142 (ty_sr e133 (ty_na (by decide) z127 e130 (ty_sr e121 (ty_na (by decide) z115 e118 (ty_sr e109 (ty_na (by decide) z103 e106 (ty_sr e97 (ty_na (by decide) z91 e94 (ty_sr e85 (ty_na (by decide) z79 e82 (ty_sr e73 (ty_na (by decide) z67 e70 (ty_sr e61 (ty_na (by decide) z55 e58 (ty_sr e49 (ty_na (by decide) z43 e46 (ty_sr e37 (ty_na (by decide) z31 e34 (ty_sr e25 (ty_na (by decide) z19 e22 (ty_sr e13 t10)))))))))))))))))))))))))) h167 dq_Md_init_112 (fun G168 H locs e169 hG hS => ?_)
  replace hw := hw G168 e169
  refine lv_aload_n hx hb dq_Md_init_115 rfl (lx_at hl 0 rfl) ?_
  refine lv_bipush (v := (72 : Int32)) hx hb dq_Md_init_116 rfl ?_
  obtain ⟨h170, hw⟩ := hw
  obtain ⟨h171, hw⟩ := hw
  obtain ⟨h172, hw⟩ := hw
  obtain ⟨h173, hw⟩ := hw
  refine wo_newa (j := 2) (at_ := .int) hC rfl rfl aq_2 hG hS h170 h171 h172 h173 dq_Md_init_118 (fun q174 G177 H z175 b176 e178 hG hS => ?_)
  replace hw := hw q174 z175 b176 G177 e178
  replace hcc := h172
  replace hss := h173
  obtain ⟨h179, hw⟩ := hw
  refine wo_putR (x := (some q174)) hC fq_Md_54 (Or.inl rfl) rfl hG hS (ty_na (by decide) z175 e178 (ty_sr e169 (ty_na (by decide) z163 e166 (ty_sr e157 (ty_na (by decide) z151 e154 (ty_sr e145 (ty_na (by decide) z139 e142 (ty_sr e133 (ty_na (by decide) z127 e130 (ty_sr e121 (ty_na (by decide) z115 e118 (ty_sr e109 (ty_na (by decide) z103 e106 (ty_sr e97 (ty_na (by decide) z91 e94 (ty_sr e85 (ty_na (by decide) z79 e82 (ty_sr e73 (ty_na (by decide) z67 e70 (ty_sr e61 (ty_na (by decide) z55 e58 (ty_sr e49 (ty_na (by decide) z43 e46 (ty_sr e37 (ty_na (by decide) z31 e34 (ty_sr e25 (ty_na (by decide) z19 e22 (ty_sr e13 t10)))))))))))))))))))))))))))) h179 dq_Md_init_120 (fun G180 H locs e181 hG hS => ?_)
  replace hw := hw G180 e181
  exact tq_Md_init_123 hC hw hG hS (lx_sub hl [0, 1] rfl) hcc hss
set_option maxHeartbeats 4000000 in
theorem mq_Md_init {l : Launch} {E : wo_E} {mc ms : Nat} {Post : wo_W → Prop} {G : wo_W} {x0 : Nat} {x1 : Int32} (hw : pq_Md_init E mc ms Post G x0 x1) : Met l yq_Md_init (Cond.code yq_Md_init prog_14_method_1_code 2 ((Option.none : Option Jvm.ClassFile.FieldType)) :: vw_WG) { frames := 1, cells := mc, slots := ms, locals := 28 } (va_Pc [.ref x0, .int x1] (wo_Ok E G)) (va_Qv Post (wo_B E) (en_A E)) mc ms (en_A E) := by
  unfold pq_Md_init at hw
  exact wo_met [(1, .ref x0), (1, .int x1)] rfl (by decide) (fun q hq => by simp only [List.mem_cons, List.not_mem_nil, or_false] at hq; rcases hq with rfl | rfl <;> first | rfl | exact lx_cR _) (Nat.le_of_ble_eq_true rfl) (fun p e R s m args below meth cd ls hC hG hS hl => tq_Md_init_0 hC hw hG hS (lx_sub hl [0, 1] rfl) (Nat.zero_le _) (Nat.zero_le _))

theorem dq_Md_has_0 : decode prog_14_method_18_code 0 = .ok (.aload_n 0, 1) := by decide +kernel
theorem dq_Md_has_1 : decode prog_14_method_18_code 1 = .ok (.getfield 54, 3) := by decide +kernel
theorem dq_Md_has_4 : decode prog_14_method_18_code 4 = .ok (.bipush 8, 2) := by decide +kernel
theorem dq_Md_has_6 : decode prog_14_method_18_code 6 = .ok (.iload_n 1, 1) := by decide +kernel
theorem dq_Md_has_7 : decode prog_14_method_18_code 7 = .ok (.imul, 1) := by decide +kernel
theorem dq_Md_has_8 : decode prog_14_method_18_code 8 = .ok (.iload_n 2, 1) := by decide +kernel
theorem dq_Md_has_9 : decode prog_14_method_18_code 9 = .ok (.iadd, 1) := by decide +kernel
theorem dq_Md_has_10 : decode prog_14_method_18_code 10 = .ok (.iaload, 1) := by decide +kernel
theorem dq_Md_has_11 : decode prog_14_method_18_code 11 = .ok (.ifCond .lt 7, 3) := by decide +kernel
theorem dq_Md_has_14 : decode prog_14_method_18_code 14 = .ok (.iconst 1, 1) := by decide +kernel
theorem dq_Md_has_15 : decode prog_14_method_18_code 15 = .ok (.goto 4, 3) := by decide +kernel
theorem dq_Md_has_18 : decode prog_14_method_18_code 18 = .ok (.iconst 0, 1) := by decide +kernel
theorem dq_Md_has_19 : decode prog_14_method_18_code 19 = .ok (.ireturn, 1) := by decide +kernel
set_option maxRecDepth 100000 in
def pq_Md_has_19 (E : wo_E) (mc ms : Nat) (Post : Int32 → wo_W → Prop) (G : wo_W) (c s : Nat) (y0 : Int32) : Prop := wo_okI .boolean y0 ∧ Post y0 G
set_option maxRecDepth 100000 in
def pq_Md_has_0 (E : wo_E) (mc ms : Nat) (Post : Int32 → wo_W → Prop) (G : wo_W) (c s : Nat) (x0 : Nat) (x1 : Int32) (x2 : Int32) : Prop := wo_ty G x0 = 15 ∧ ∀ r2 : Option Nat, r2 = wo_gr G 911 x0 → ∃ a4 : Nat, r2 = some a4 ∧ wo_ty G a4 = 66 ∧ vp_in (((8 : Int32) * x1) + x2) (wo_len G a4) ∧ (((wo_ei G a4 (((8 : Int32) * x1) + x2).toNatClampNeg) < (0 : Int32) → pq_Md_has_19 E mc ms Post G c s (0 : Int32)) ∧
  (¬ (wo_ei G a4 (((8 : Int32) * x1) + x2).toNatClampNeg) < (0 : Int32) → pq_Md_has_19 E mc ms Post G c s (1 : Int32)))
def pq_Md_has (E : wo_E) (mc ms : Nat) (Post : Int32 → wo_W → Prop) (G : wo_W) (x0 : Nat) (x1 : Int32) (x2 : Int32) : Prop := pq_Md_has_0 E mc ms Post G 0 0 x0 x1 x2
set_option maxRecDepth 100000 in
set_option maxHeartbeats 4000000 in
theorem tq_Md_has_19 {p : Program} {l : Launch} {e : Env} {R : Room} {s₀ : State} {m : MethodId} {args : Array Value} {below : List Frame} {meth : Method} {cd : Code} {E : wo_E} {mc ms : Nat} {Post : Int32 → wo_W → Prop} (hC : wo_Cx E "EdgeCacheModel" prog_14_method_18_code 3 0 0 ((Option.some Jvm.ClassFile.FieldType.boolean)) "has" mc ms p R s₀ m args meth cd) : ∀ {G : wo_W} {c s : Nat} {y0 : Int32}, pq_Md_has_19 E mc ms Post G c s y0 → ∀ {H : Heap} {locs : List Loc} {ls : Array Slot}, wo_Se E G H → va_S (en_A E) s₀.heap H locs → lx_has ls 3 [] → c ≤ mc → s ≤ ms → W p l e R s₀ m args below meth cd H locs c s (MQ below (va_Qi Post (wo_B E) (en_A E)) args s₀ mc ms (en_A E)) (F0 m 19 ls [.int y0]) := by
  intro G c s y0 hw H locs ls hG hS hl hcc hss
  dsimp only [pq_Md_has_19] at hw
  have hx := hC.1
  have hb := hC.2.1
  obtain ⟨h1, hw⟩ := hw
  exact wo_zret hC h1.1 hG hS hcc hss hw dq_Md_has_19
set_option maxRecDepth 100000 in
set_option maxHeartbeats 4000000 in
theorem tq_Md_has_0 {p : Program} {l : Launch} {e : Env} {R : Room} {s₀ : State} {m : MethodId} {args : Array Value} {below : List Frame} {meth : Method} {cd : Code} {E : wo_E} {mc ms : Nat} {Post : Int32 → wo_W → Prop} (hC : wo_Cx E "EdgeCacheModel" prog_14_method_18_code 3 0 0 ((Option.some Jvm.ClassFile.FieldType.boolean)) "has" mc ms p R s₀ m args meth cd) : ∀ {G : wo_W} {c s : Nat} {x0 : Nat} {x1 : Int32} {x2 : Int32}, pq_Md_has_0 E mc ms Post G c s x0 x1 x2 → ∀ {H : Heap} {locs : List Loc} {ls : Array Slot}, wo_Se E G H → va_S (en_A E) s₀.heap H locs → lx_has ls 3 [(0, 1, .ref x0), (1, 1, .int x1), (2, 1, .int x2)] → c ≤ mc → s ≤ ms → W p l e R s₀ m args below meth cd H locs c s (MQ below (va_Qi Post (wo_B E) (en_A E)) args s₀ mc ms (en_A E)) (F0 m 0 ls []) := by
  intro G c s x0 x1 x2 hw H locs ls hG hS hl hcc hss
  dsimp only [pq_Md_has_0] at hw
  have hx := hC.1
  have hb := hC.2.1
  refine lv_aload_n hx hb dq_Md_has_0 rfl (lx_at hl 0 rfl) ?_
  obtain ⟨t1, hw⟩ := hw
  refine wo_getR hC fq_Md_54 rfl hG t1 dq_Md_has_1 (fun r2 e3 => ?_)
  replace hw := hw r2 e3
  refine lv_bipush (v := (8 : Int32)) hx hb dq_Md_has_4 rfl ?_
  refine lv_iload_n hx hb dq_Md_has_6 rfl (lx_at hl 1 rfl) ?_
  refine lv_imul hx hb dq_Md_has_7 ?_
  refine lv_iload_n hx hb dq_Md_has_8 rfl (lx_at hl 2 rfl) ?_
  refine lv_iadd hx hb dq_Md_has_9 ?_
  obtain ⟨a4, rfl, hw⟩ := hw
  obtain ⟨t5, hw⟩ := hw
  obtain ⟨h6, hw⟩ := hw
  refine wo_iald (j := 2) hC rfl hG t5 h6 dq_Md_has_10 ?_
  refine lv_if_lt (tgt := 18) hx hb dq_Md_has_11 rfl (fun h => ?_) (fun h => ?_)
  · replace hw := hw.1 h
    refine lv_iconst (v := (0 : Int32)) hx hb dq_Md_has_18 rfl ?_
    exact tq_Md_has_19 hC hw hG hS (lx_sub hl [] rfl) hcc hss
  · replace hw := hw.2 h
    refine lv_iconst (v := (1 : Int32)) hx hb dq_Md_has_14 rfl ?_
    refine lv_goto (tgt := 19) hx hb dq_Md_has_15 rfl ?_
    exact tq_Md_has_19 hC hw hG hS (lx_sub hl [] rfl) hcc hss
set_option maxHeartbeats 4000000 in
theorem mq_Md_has {l : Launch} {E : wo_E} {mc ms : Nat} {Post : Int32 → wo_W → Prop} {G : wo_W} {x0 : Nat} {x1 : Int32} {x2 : Int32} (hw : pq_Md_has E mc ms Post G x0 x1 x2) : Met l yq_Md_has (Cond.code yq_Md_has prog_14_method_18_code 3 ((Option.some Jvm.ClassFile.FieldType.boolean)) :: vw_WG) { frames := 0, cells := mc, slots := ms, locals := 0 } (va_Pc [.ref x0, .int x1, .int x2] (wo_Ok E G)) (va_Qi Post (wo_B E) (en_A E)) mc ms (en_A E) := by
  unfold pq_Md_has at hw
  exact wo_met [(1, .ref x0), (1, .int x1), (1, .int x2)] rfl (by decide) (fun q hq => by simp only [List.mem_cons, List.not_mem_nil, or_false] at hq; rcases hq with rfl | rfl | rfl <;> first | rfl | exact lx_cR _) (Nat.le_of_ble_eq_true rfl) (fun p e R s m args below meth cd ls hC hG hS hl => tq_Md_has_0 hC hw hG hS (lx_sub hl [0, 1, 2] rfl) (Nat.zero_le _) (Nat.zero_le _))

theorem dq_Md_byteOf_0 : decode prog_14_method_15_code 0 = .ok (.lload_n 0, 1) := by decide +kernel
theorem dq_Md_byteOf_1 : decode prog_14_method_15_code 1 = .ok (.bipush 8, 2) := by decide +kernel
theorem dq_Md_byteOf_3 : decode prog_14_method_15_code 3 = .ok (.iload_n 2, 1) := by decide +kernel
theorem dq_Md_byteOf_4 : decode prog_14_method_15_code 4 = .ok (.imul, 1) := by decide +kernel
theorem dq_Md_byteOf_5 : decode prog_14_method_15_code 5 = .ok (.lushr, 1) := by decide +kernel
theorem dq_Md_byteOf_6 : decode prog_14_method_15_code 6 = .ok (.l2i, 1) := by decide +kernel
theorem dq_Md_byteOf_7 : decode prog_14_method_15_code 7 = .ok (.sipush 255, 3) := by decide +kernel
theorem dq_Md_byteOf_10 : decode prog_14_method_15_code 10 = .ok (.iand, 1) := by decide +kernel
theorem dq_Md_byteOf_11 : decode prog_14_method_15_code 11 = .ok (.ireturn, 1) := by decide +kernel
set_option maxRecDepth 100000 in
def pq_Md_byteOf_0 (E : wo_E) (mc ms : Nat) (Post : Int32 → wo_W → Prop) (G : wo_W) (c s : Nat) (x0 : Int64) (x2 : Int32) : Prop := Post ((wo_lushr x0 ((8 : Int32) * x2)).toInt32 &&& (255 : Int32)) G
def pq_Md_byteOf (E : wo_E) (mc ms : Nat) (Post : Int32 → wo_W → Prop) (G : wo_W) (x0 : Int64) (x2 : Int32) : Prop := pq_Md_byteOf_0 E mc ms Post G 0 0 x0 x2
set_option maxRecDepth 100000 in
set_option maxHeartbeats 4000000 in
theorem tq_Md_byteOf_0 {p : Program} {l : Launch} {e : Env} {R : Room} {s₀ : State} {m : MethodId} {args : Array Value} {below : List Frame} {meth : Method} {cd : Code} {E : wo_E} {mc ms : Nat} {Post : Int32 → wo_W → Prop} (hC : wo_Cx E "EdgeCacheModel" prog_14_method_15_code 3 0 0 ((Option.some Jvm.ClassFile.FieldType.int)) "byteOf" mc ms p R s₀ m args meth cd) : ∀ {G : wo_W} {c s : Nat} {x0 : Int64} {x2 : Int32}, pq_Md_byteOf_0 E mc ms Post G c s x0 x2 → ∀ {H : Heap} {locs : List Loc} {ls : Array Slot}, wo_Se E G H → va_S (en_A E) s₀.heap H locs → lx_has ls 3 [(0, 2, .long x0), (2, 1, .int x2)] → c ≤ mc → s ≤ ms → W p l e R s₀ m args below meth cd H locs c s (MQ below (va_Qi Post (wo_B E) (en_A E)) args s₀ mc ms (en_A E)) (F0 m 0 ls []) := by
  intro G c s x0 x2 hw H locs ls hG hS hl hcc hss
  dsimp only [pq_Md_byteOf_0] at hw
  have hx := hC.1
  have hb := hC.2.1
  refine lv_lload_n hx hb dq_Md_byteOf_0 rfl (lx_at hl 0 rfl) ?_
  refine lv_bipush (v := (8 : Int32)) hx hb dq_Md_byteOf_1 rfl ?_
  refine lv_iload_n hx hb dq_Md_byteOf_3 rfl (lx_at hl 1 rfl) ?_
  refine lv_imul hx hb dq_Md_byteOf_4 ?_
  refine lv_lushr (v := (wo_lushr x0 ((8 : Int32) * x2))) hx hb dq_Md_byteOf_5 rfl ?_
  refine lv_l2i (v := (wo_lushr x0 ((8 : Int32) * x2)).toInt32) hx hb dq_Md_byteOf_6 rfl ?_
  refine lv_sipush (v := (255 : Int32)) hx hb dq_Md_byteOf_7 rfl ?_
  refine lv_iand hx hb dq_Md_byteOf_10 ?_
  exact wo_iret hC hG hS hcc hss hw dq_Md_byteOf_11
set_option maxHeartbeats 4000000 in
theorem mq_Md_byteOf {l : Launch} {E : wo_E} {mc ms : Nat} {Post : Int32 → wo_W → Prop} {G : wo_W} {x0 : Int64} {x2 : Int32} (hw : pq_Md_byteOf E mc ms Post G x0 x2) : Met l yq_Md_byteOf (Cond.code yq_Md_byteOf prog_14_method_15_code 3 ((Option.some Jvm.ClassFile.FieldType.int)) :: vw_WG) { frames := 0, cells := mc, slots := ms, locals := 0 } (va_Pc [.long x0, .int x2] (wo_Ok E G)) (va_Qi Post (wo_B E) (en_A E)) mc ms (en_A E) := by
  unfold pq_Md_byteOf at hw
  exact wo_met [(2, .long x0), (1, .int x2)] rfl (by decide) (fun q hq => by simp only [List.mem_cons, List.not_mem_nil, or_false] at hq; rcases hq with rfl | rfl <;> first | rfl | exact lx_cR _) (Nat.le_of_ble_eq_true rfl) (fun p e R s m args below meth cd ls hC hG hS hl => tq_Md_byteOf_0 hC hw hG hS (lx_sub hl [0, 1] rfl) (Nat.zero_le _) (Nat.zero_le _))

theorem dq_Md_digits_0 : decode prog_14_method_16_code 0 = .ok (.iload_n 3, 1) := by decide +kernel
theorem dq_Md_digits_1 : decode prog_14_method_16_code 1 = .ok (.iload_n 2, 1) := by decide +kernel
theorem dq_Md_digits_2 : decode prog_14_method_16_code 2 = .ok (.if_icmp .le 7, 3) := by decide +kernel
theorem dq_Md_digits_5 : decode prog_14_method_16_code 5 = .ok (.iconst 0, 1) := by decide +kernel
theorem dq_Md_digits_6 : decode prog_14_method_16_code 6 = .ok (.goto 4, 3) := by decide +kernel
theorem dq_Md_digits_9 : decode prog_14_method_16_code 9 = .ok (.iconst (-1), 1) := by decide +kernel
theorem dq_Md_digits_10 : decode prog_14_method_16_code 10 = .ok (.istore 4, 2) := by decide +kernel
theorem dq_Md_digits_12 : decode prog_14_method_16_code 12 = .ok (.iload_n 2, 1) := by decide +kernel
theorem dq_Md_digits_13 : decode prog_14_method_16_code 13 = .ok (.istore 5, 2) := by decide +kernel
theorem dq_Md_digits_15 : decode prog_14_method_16_code 15 = .ok (.iload 5, 2) := by decide +kernel
theorem dq_Md_digits_17 : decode prog_14_method_16_code 17 = .ok (.iload_n 3, 1) := by decide +kernel
theorem dq_Md_digits_18 : decode prog_14_method_16_code 18 = .ok (.if_icmp .ge 53, 3) := by decide +kernel
theorem dq_Md_digits_21 : decode prog_14_method_16_code 21 = .ok (.iload 4, 2) := by decide +kernel
theorem dq_Md_digits_23 : decode prog_14_method_16_code 23 = .ok (.ifCond .lt 48, 3) := by decide +kernel
theorem dq_Md_digits_26 : decode prog_14_method_16_code 26 = .ok (.lload_n 0, 1) := by decide +kernel
theorem dq_Md_digits_27 : decode prog_14_method_16_code 27 = .ok (.iload 5, 2) := by decide +kernel
theorem dq_Md_digits_29 : decode prog_14_method_16_code 29 = .ok (.invokestatic 254, 3) := by decide +kernel
theorem dq_Md_digits_32 : decode prog_14_method_16_code 32 = .ok (.istore 6, 2) := by decide +kernel
theorem dq_Md_digits_34 : decode prog_14_method_16_code 34 = .ok (.iload 6, 2) := by decide +kernel
theorem dq_Md_digits_36 : decode prog_14_method_16_code 36 = .ok (.bipush 48, 2) := by decide +kernel
theorem dq_Md_digits_38 : decode prog_14_method_16_code 38 = .ok (.if_icmp .lt 24, 3) := by decide +kernel
theorem dq_Md_digits_41 : decode prog_14_method_16_code 41 = .ok (.iload 6, 2) := by decide +kernel
theorem dq_Md_digits_43 : decode prog_14_method_16_code 43 = .ok (.bipush 57, 2) := by decide +kernel
theorem dq_Md_digits_45 : decode prog_14_method_16_code 45 = .ok (.if_icmp .gt 17, 3) := by decide +kernel
theorem dq_Md_digits_48 : decode prog_14_method_16_code 48 = .ok (.bipush 10, 2) := by decide +kernel
theorem dq_Md_digits_50 : decode prog_14_method_16_code 50 = .ok (.iload 4, 2) := by decide +kernel
theorem dq_Md_digits_52 : decode prog_14_method_16_code 52 = .ok (.imul, 1) := by decide +kernel
theorem dq_Md_digits_53 : decode prog_14_method_16_code 53 = .ok (.iload 6, 2) := by decide +kernel
theorem dq_Md_digits_55 : decode prog_14_method_16_code 55 = .ok (.iadd, 1) := by decide +kernel
theorem dq_Md_digits_56 : decode prog_14_method_16_code 56 = .ok (.bipush 48, 2) := by decide +kernel
theorem dq_Md_digits_58 : decode prog_14_method_16_code 58 = .ok (.isub, 1) := by decide +kernel
theorem dq_Md_digits_59 : decode prog_14_method_16_code 59 = .ok (.goto 4, 3) := by decide +kernel
theorem dq_Md_digits_62 : decode prog_14_method_16_code 62 = .ok (.iconst (-1), 1) := by decide +kernel
theorem dq_Md_digits_63 : decode prog_14_method_16_code 63 = .ok (.istore 4, 2) := by decide +kernel
theorem dq_Md_digits_65 : decode prog_14_method_16_code 65 = .ok (.iinc 5 1, 3) := by decide +kernel
theorem dq_Md_digits_68 : decode prog_14_method_16_code 68 = .ok (.goto (-53), 3) := by decide +kernel
theorem dq_Md_digits_71 : decode prog_14_method_16_code 71 = .ok (.iload 4, 2) := by decide +kernel
theorem dq_Md_digits_73 : decode prog_14_method_16_code 73 = .ok (.ireturn, 1) := by decide +kernel
set_option maxRecDepth 100000 in
def pq_Md_digits_71 (E : wo_E) (mc ms : Nat) (Post : Int32 → wo_W → Prop) (G : wo_W) (c s : Nat) (x4 : Int32) : Prop := Post x4 G
set_option maxRecDepth 100000 in
def pq_Md_digits_63 (E : wo_E) (mc ms : Nat) (Post : Int32 → wo_W → Prop) (k15 : wo_W → Nat → Nat → Int64 → Int32 → Int32 → Int32 → Prop) (G : wo_W) (c s : Nat) (x0 : Int64) (x3 : Int32) (x5 : Int32) (y0 : Int32) : Prop := k15 G c s x0 x3 y0 (x5 + (1 : Int32))
set_option maxRecDepth 100000 in
def pq_Md_digits_62 (E : wo_E) (mc ms : Nat) (Post : Int32 → wo_W → Prop) (k15 : wo_W → Nat → Nat → Int64 → Int32 → Int32 → Int32 → Prop) (G : wo_W) (c s : Nat) (x0 : Int64) (x3 : Int32) (x5 : Int32) : Prop := pq_Md_digits_63 E mc ms Post k15 G c s x0 x3 x5 (-1 : Int32)
set_option maxRecDepth 100000 in
def pq_Md_digits_15 (E : wo_E) (mc ms : Nat) (Post : Int32 → wo_W → Prop) : Nat → wo_W → Nat → Nat → Int64 → Int32 → Int32 → Int32 → Prop
  | 0 => fun _ _ _ _ _ _ _ => False
  | n + 1 => fun G c s x0 x3 x4 x5 => ((x3 ≤ x5 → pq_Md_digits_71 E mc ms Post G c s x4) ∧
  (¬ x3 ≤ x5 → ((x4 < (0 : Int32) → pq_Md_digits_71 E mc ms Post G c s x4) ∧
    (¬ x4 < (0 : Int32) → ∃ mc1 ms2 : Nat, (c + mc1) ≤ mc ∧ (s + ms2) ≤ ms ∧ pq_Md_byteOf E mc1 ms2 (fun v4 G3 => 
      ((v4 < (48 : Int32) → pq_Md_digits_62 E mc ms Post (pq_Md_digits_15 E mc ms Post n) G3 (c + mc1) (s + ms2) x0 x3 x5) ∧
        (¬ v4 < (48 : Int32) → (((57 : Int32) < v4 → pq_Md_digits_62 E mc ms Post (pq_Md_digits_15 E mc ms Post n) G3 (c + mc1) (s + ms2) x0 x3 x5) ∧
          (¬ (57 : Int32) < v4 → pq_Md_digits_63 E mc ms Post (pq_Md_digits_15 E mc ms Post n) G3 (c + mc1) (s + ms2) x0 x3 x5 ((((10 : Int32) * x4) + v4) - (48 : Int32))))))) G x0 x5))))
set_option maxRecDepth 100000 in
def pq_Md_digits_10 (E : wo_E) (mc ms : Nat) (Post : Int32 → wo_W → Prop) (G : wo_W) (c s : Nat) (x0 : Int64) (x2 : Int32) (x3 : Int32) (y0 : Int32) : Prop := ∃ n1 : Nat, pq_Md_digits_15 E mc ms Post n1 G c s x0 x3 y0 x2
set_option maxRecDepth 100000 in
def pq_Md_digits_0 (E : wo_E) (mc ms : Nat) (Post : Int32 → wo_W → Prop) (G : wo_W) (c s : Nat) (x0 : Int64) (x2 : Int32) (x3 : Int32) : Prop := ((x3 ≤ x2 → pq_Md_digits_10 E mc ms Post G c s x0 x2 x3 (-1 : Int32)) ∧
  (¬ x3 ≤ x2 → pq_Md_digits_10 E mc ms Post G c s x0 x2 x3 (0 : Int32)))
def pq_Md_digits (E : wo_E) (mc ms : Nat) (Post : Int32 → wo_W → Prop) (G : wo_W) (x0 : Int64) (x2 : Int32) (x3 : Int32) : Prop := pq_Md_digits_0 E mc ms Post G 0 0 x0 x2 x3
set_option maxRecDepth 100000 in
set_option maxHeartbeats 4000000 in
theorem tq_Md_digits_71 {p : Program} {l : Launch} {e : Env} {R : Room} {s₀ : State} {m : MethodId} {args : Array Value} {below : List Frame} {meth : Method} {cd : Code} {E : wo_E} {mc ms : Nat} {Post : Int32 → wo_W → Prop} (hC : wo_Cx E "EdgeCacheModel" prog_14_method_16_code 7 1 22 ((Option.some Jvm.ClassFile.FieldType.int)) "digits" mc ms p R s₀ m args meth cd) : ∀ {G : wo_W} {c s : Nat} {x4 : Int32}, pq_Md_digits_71 E mc ms Post G c s x4 → ∀ {H : Heap} {locs : List Loc} {ls : Array Slot}, wo_Se E G H → va_S (en_A E) s₀.heap H locs → lx_has ls 7 [(4, 1, .int x4)] → c ≤ mc → s ≤ ms → W p l e R s₀ m args below meth cd H locs c s (MQ below (va_Qi Post (wo_B E) (en_A E)) args s₀ mc ms (en_A E)) (F0 m 71 ls []) := by
  intro G c s x4 hw H locs ls hG hS hl hcc hss
  dsimp only [pq_Md_digits_71] at hw
  have hx := hC.1
  have hb := hC.2.1
  refine lv_iload hx hb dq_Md_digits_71 (lx_at hl 0 rfl) ?_
  exact wo_iret hC hG hS hcc hss hw dq_Md_digits_73
set_option maxRecDepth 100000 in
set_option maxHeartbeats 4000000 in
theorem tq_Md_digits_63 {p : Program} {l : Launch} {e : Env} {R : Room} {s₀ : State} {m : MethodId} {args : Array Value} {below : List Frame} {meth : Method} {cd : Code} {E : wo_E} {mc ms : Nat} {Post : Int32 → wo_W → Prop} {k15 : wo_W → Nat → Nat → Int64 → Int32 → Int32 → Int32 → Prop} (hC : wo_Cx E "EdgeCacheModel" prog_14_method_16_code 7 1 22 ((Option.some Jvm.ClassFile.FieldType.int)) "digits" mc ms p R s₀ m args meth cd) (hk15 : ∀ {G : wo_W} {c s : Nat} {x0 : Int64} {x3 : Int32} {x4 : Int32} {x5 : Int32}, k15 G c s x0 x3 x4 x5 → ∀ {H : Heap} {locs : List Loc} {ls : Array Slot}, wo_Se E G H → va_S (en_A E) s₀.heap H locs → lx_has ls 7 [(0, 2, .long x0), (3, 1, .int x3), (4, 1, .int x4), (5, 1, .int x5)] → c ≤ mc → s ≤ ms → W p l e R s₀ m args below meth cd H locs c s (MQ below (va_Qi Post (wo_B E) (en_A E)) args s₀ mc ms (en_A E)) (F0 m 15 ls [])) : ∀ {G : wo_W} {c s : Nat} {x0 : Int64} {x3 : Int32} {x5 : Int32} {y0 : Int32}, pq_Md_digits_63 E mc ms Post k15 G c s x0 x3 x5 y0 → ∀ {H : Heap} {locs : List Loc} {ls : Array Slot}, wo_Se E G H → va_S (en_A E) s₀.heap H locs → lx_has ls 7 [(0, 2, .long x0), (3, 1, .int x3), (5, 1, .int x5)] → c ≤ mc → s ≤ ms → W p l e R s₀ m args below meth cd H locs c s (MQ below (va_Qi Post (wo_B E) (en_A E)) args s₀ mc ms (en_A E)) (F0 m 63 ls [.int y0]) := by
  intro G c s x0 x3 x5 y0 hw H locs ls hG hS hl hcc hss
  dsimp only [pq_Md_digits_63] at hw
  have hx := hC.1
  have hb := hC.2.1
  refine lx_istore (lv' := [(4, 1, .int y0), (0, 2, .long x0), (3, 1, .int x3), (5, 1, .int x5)]) hx hb dq_Md_digits_63 hl (by decide) rfl (fun ls hl' => ?_)
  clear hl
  have hl := hl'
  clear hl'
  refine lx_iinc (k := 3) (v := (x5 + (1 : Int32))) (lv' := [(5, 1, .int (x5 + (1 : Int32))), (4, 1, .int y0), (0, 2, .long x0), (3, 1, .int x3)]) hx hb dq_Md_digits_65 hl rfl rfl (by decide) rfl (fun ls hl' => ?_)
  clear hl
  have hl := hl'
  clear hl'
  refine lv_goto (tgt := 15) hx hb dq_Md_digits_68 rfl ?_
  exact hk15 hw hG hS (lx_sub hl [2, 3, 1, 0] rfl) hcc hss
set_option maxRecDepth 100000 in
set_option maxHeartbeats 4000000 in
theorem tq_Md_digits_62 {p : Program} {l : Launch} {e : Env} {R : Room} {s₀ : State} {m : MethodId} {args : Array Value} {below : List Frame} {meth : Method} {cd : Code} {E : wo_E} {mc ms : Nat} {Post : Int32 → wo_W → Prop} {k15 : wo_W → Nat → Nat → Int64 → Int32 → Int32 → Int32 → Prop} (hC : wo_Cx E "EdgeCacheModel" prog_14_method_16_code 7 1 22 ((Option.some Jvm.ClassFile.FieldType.int)) "digits" mc ms p R s₀ m args meth cd) (hk15 : ∀ {G : wo_W} {c s : Nat} {x0 : Int64} {x3 : Int32} {x4 : Int32} {x5 : Int32}, k15 G c s x0 x3 x4 x5 → ∀ {H : Heap} {locs : List Loc} {ls : Array Slot}, wo_Se E G H → va_S (en_A E) s₀.heap H locs → lx_has ls 7 [(0, 2, .long x0), (3, 1, .int x3), (4, 1, .int x4), (5, 1, .int x5)] → c ≤ mc → s ≤ ms → W p l e R s₀ m args below meth cd H locs c s (MQ below (va_Qi Post (wo_B E) (en_A E)) args s₀ mc ms (en_A E)) (F0 m 15 ls [])) : ∀ {G : wo_W} {c s : Nat} {x0 : Int64} {x3 : Int32} {x5 : Int32}, pq_Md_digits_62 E mc ms Post k15 G c s x0 x3 x5 → ∀ {H : Heap} {locs : List Loc} {ls : Array Slot}, wo_Se E G H → va_S (en_A E) s₀.heap H locs → lx_has ls 7 [(0, 2, .long x0), (3, 1, .int x3), (5, 1, .int x5)] → c ≤ mc → s ≤ ms → W p l e R s₀ m args below meth cd H locs c s (MQ below (va_Qi Post (wo_B E) (en_A E)) args s₀ mc ms (en_A E)) (F0 m 62 ls []) := by
  intro G c s x0 x3 x5 hw H locs ls hG hS hl hcc hss
  dsimp only [pq_Md_digits_62] at hw
  have hx := hC.1
  have hb := hC.2.1
  refine lv_iconst (v := (-1 : Int32)) hx hb dq_Md_digits_62 rfl ?_
  exact tq_Md_digits_63 hC hk15 hw hG hS (lx_sub hl [0, 1, 2] rfl) hcc hss
set_option maxRecDepth 100000 in
set_option maxHeartbeats 4000000 in
theorem tq_Md_digits_15 {p : Program} {l : Launch} {e : Env} {R : Room} {s₀ : State} {m : MethodId} {args : Array Value} {below : List Frame} {meth : Method} {cd : Code} {E : wo_E} {mc ms : Nat} {Post : Int32 → wo_W → Prop} (hC : wo_Cx E "EdgeCacheModel" prog_14_method_16_code 7 1 22 ((Option.some Jvm.ClassFile.FieldType.int)) "digits" mc ms p R s₀ m args meth cd) : ∀ n : Nat, ∀ {G : wo_W} {c s : Nat} {x0 : Int64} {x3 : Int32} {x4 : Int32} {x5 : Int32}, pq_Md_digits_15 E mc ms Post n G c s x0 x3 x4 x5 → ∀ {H : Heap} {locs : List Loc} {ls : Array Slot}, wo_Se E G H → va_S (en_A E) s₀.heap H locs → lx_has ls 7 [(0, 2, .long x0), (3, 1, .int x3), (4, 1, .int x4), (5, 1, .int x5)] → c ≤ mc → s ≤ ms → W p l e R s₀ m args below meth cd H locs c s (MQ below (va_Qi Post (wo_B E) (en_A E)) args s₀ mc ms (en_A E)) (F0 m 15 ls []) := by
  intro n
  induction n with
  | zero => intro G c s x0 x3 x4 x5 hw; exact hw.elim
  | succ n ih =>
    intro G c s x0 x3 x4 x5 hw H locs ls hG hS hl hcc hss
    dsimp only [pq_Md_digits_15] at hw
    have hx := hC.1
    have hb := hC.2.1
    refine lv_iload hx hb dq_Md_digits_15 (lx_at hl 3 rfl) ?_
    refine lv_iload_n hx hb dq_Md_digits_17 rfl (lx_at hl 1 rfl) ?_
    refine lv_icmp_ge (tgt := 71) hx hb dq_Md_digits_18 rfl (fun h => ?_) (fun h => ?_)
    · replace hw := hw.1 h
      exact tq_Md_digits_71 hC hw hG hS (lx_sub hl [2] rfl) hcc hss
    · replace hw := hw.2 h
      refine lv_iload hx hb dq_Md_digits_21 (lx_at hl 2 rfl) ?_
      refine lv_if_lt (tgt := 71) hx hb dq_Md_digits_23 rfl (fun h => ?_) (fun h => ?_)
      · replace hw := hw.1 h
        exact tq_Md_digits_71 hC hw hG hS (lx_sub hl [2] rfl) hcc hss
      · replace hw := hw.2 h
        refine lv_lload_n hx hb dq_Md_digits_26 rfl (lx_at hl 0 rfl) ?_
        refine lv_iload hx hb dq_Md_digits_27 (lx_at hl 3 rfl) ?_
        obtain ⟨mc1, ms2, hc1, hs1, hw⟩ := hw
        refine va_calli (wo_runS hC lq_Md_254 (mq_Md_byteOf hw) hG hS rfl (lx_sz hl) rfl (Nat.zero_le _) (by decide) dq_Md_digits_29 ⟨hc1, hs1⟩) hS (fun _ _ h => h) (fun _ h => h) (fun v4 G3 t H locs ht hvm hw' hB _ _ hS => ?_)
        clear hw
        have hw := hw'
        clear hw'
        replace hG := wo_bk ht hB
        replace hcc := hc1
        replace hss := hs1
        refine lx_istore (lv' := [(6, 1, .int v4), (0, 2, .long x0), (3, 1, .int x3), (4, 1, .int x4), (5, 1, .int x5)]) hx hb dq_Md_digits_32 hl (by decide) rfl (fun ls hl' => ?_)
        clear hl
        have hl := hl'
        clear hl'
        refine lv_iload hx hb dq_Md_digits_34 (lx_at hl 0 rfl) ?_
        refine lv_bipush (v := (48 : Int32)) hx hb dq_Md_digits_36 rfl ?_
        refine lv_icmp_lt (tgt := 62) hx hb dq_Md_digits_38 rfl (fun h => ?_) (fun h => ?_)
        · replace hw := hw.1 h
          exact tq_Md_digits_62 hC ih hw hG hS (lx_sub hl [1, 2, 4] rfl) hcc hss
        · replace hw := hw.2 h
          refine lv_iload hx hb dq_Md_digits_41 (lx_at hl 0 rfl) ?_
          refine lv_bipush (v := (57 : Int32)) hx hb dq_Md_digits_43 rfl ?_
          refine lv_icmp_gt (tgt := 62) hx hb dq_Md_digits_45 rfl (fun h => ?_) (fun h => ?_)
          · replace hw := hw.1 h
            exact tq_Md_digits_62 hC ih hw hG hS (lx_sub hl [1, 2, 4] rfl) hcc hss
          · replace hw := hw.2 h
            refine lv_bipush (v := (10 : Int32)) hx hb dq_Md_digits_48 rfl ?_
            refine lv_iload hx hb dq_Md_digits_50 (lx_at hl 3 rfl) ?_
            refine lv_imul hx hb dq_Md_digits_52 ?_
            refine lv_iload hx hb dq_Md_digits_53 (lx_at hl 0 rfl) ?_
            refine lv_iadd hx hb dq_Md_digits_55 ?_
            refine lv_bipush (v := (48 : Int32)) hx hb dq_Md_digits_56 rfl ?_
            refine lv_isub hx hb dq_Md_digits_58 ?_
            refine lv_goto (tgt := 63) hx hb dq_Md_digits_59 rfl ?_
            exact tq_Md_digits_63 hC ih hw hG hS (lx_sub hl [1, 2, 4] rfl) hcc hss
set_option maxRecDepth 100000 in
set_option maxHeartbeats 4000000 in
theorem tq_Md_digits_10 {p : Program} {l : Launch} {e : Env} {R : Room} {s₀ : State} {m : MethodId} {args : Array Value} {below : List Frame} {meth : Method} {cd : Code} {E : wo_E} {mc ms : Nat} {Post : Int32 → wo_W → Prop} (hC : wo_Cx E "EdgeCacheModel" prog_14_method_16_code 7 1 22 ((Option.some Jvm.ClassFile.FieldType.int)) "digits" mc ms p R s₀ m args meth cd) : ∀ {G : wo_W} {c s : Nat} {x0 : Int64} {x2 : Int32} {x3 : Int32} {y0 : Int32}, pq_Md_digits_10 E mc ms Post G c s x0 x2 x3 y0 → ∀ {H : Heap} {locs : List Loc} {ls : Array Slot}, wo_Se E G H → va_S (en_A E) s₀.heap H locs → lx_has ls 7 [(0, 2, .long x0), (2, 1, .int x2), (3, 1, .int x3)] → c ≤ mc → s ≤ ms → W p l e R s₀ m args below meth cd H locs c s (MQ below (va_Qi Post (wo_B E) (en_A E)) args s₀ mc ms (en_A E)) (F0 m 10 ls [.int y0]) := by
  intro G c s x0 x2 x3 y0 hw H locs ls hG hS hl hcc hss
  dsimp only [pq_Md_digits_10] at hw
  have hx := hC.1
  have hb := hC.2.1
  refine lx_istore (lv' := [(4, 1, .int y0), (0, 2, .long x0), (2, 1, .int x2), (3, 1, .int x3)]) hx hb dq_Md_digits_10 hl (by decide) rfl (fun ls hl' => ?_)
  clear hl
  have hl := hl'
  clear hl'
  refine lv_iload_n hx hb dq_Md_digits_12 rfl (lx_at hl 2 rfl) ?_
  refine lx_istore (lv' := [(5, 1, .int x2), (4, 1, .int y0), (0, 2, .long x0), (2, 1, .int x2), (3, 1, .int x3)]) hx hb dq_Md_digits_13 hl (by decide) rfl (fun ls hl' => ?_)
  clear hl
  have hl := hl'
  clear hl'
  obtain ⟨n1, hw⟩ := hw
  exact tq_Md_digits_15 hC n1 hw hG hS (lx_sub hl [2, 4, 1, 0] rfl) hcc hss
set_option maxRecDepth 100000 in
set_option maxHeartbeats 4000000 in
theorem tq_Md_digits_0 {p : Program} {l : Launch} {e : Env} {R : Room} {s₀ : State} {m : MethodId} {args : Array Value} {below : List Frame} {meth : Method} {cd : Code} {E : wo_E} {mc ms : Nat} {Post : Int32 → wo_W → Prop} (hC : wo_Cx E "EdgeCacheModel" prog_14_method_16_code 7 1 22 ((Option.some Jvm.ClassFile.FieldType.int)) "digits" mc ms p R s₀ m args meth cd) : ∀ {G : wo_W} {c s : Nat} {x0 : Int64} {x2 : Int32} {x3 : Int32}, pq_Md_digits_0 E mc ms Post G c s x0 x2 x3 → ∀ {H : Heap} {locs : List Loc} {ls : Array Slot}, wo_Se E G H → va_S (en_A E) s₀.heap H locs → lx_has ls 7 [(0, 2, .long x0), (2, 1, .int x2), (3, 1, .int x3)] → c ≤ mc → s ≤ ms → W p l e R s₀ m args below meth cd H locs c s (MQ below (va_Qi Post (wo_B E) (en_A E)) args s₀ mc ms (en_A E)) (F0 m 0 ls []) := by
  intro G c s x0 x2 x3 hw H locs ls hG hS hl hcc hss
  dsimp only [pq_Md_digits_0] at hw
  have hx := hC.1
  have hb := hC.2.1
  refine lv_iload_n hx hb dq_Md_digits_0 rfl (lx_at hl 2 rfl) ?_
  refine lv_iload_n hx hb dq_Md_digits_1 rfl (lx_at hl 1 rfl) ?_
  refine lv_icmp_le (tgt := 9) hx hb dq_Md_digits_2 rfl (fun h => ?_) (fun h => ?_)
  · replace hw := hw.1 h
    refine lv_iconst (v := (-1 : Int32)) hx hb dq_Md_digits_9 rfl ?_
    exact tq_Md_digits_10 hC hw hG hS (lx_sub hl [0, 1, 2] rfl) hcc hss
  · replace hw := hw.2 h
    refine lv_iconst (v := (0 : Int32)) hx hb dq_Md_digits_5 rfl ?_
    refine lv_goto (tgt := 10) hx hb dq_Md_digits_6 rfl ?_
    exact tq_Md_digits_10 hC hw hG hS (lx_sub hl [0, 1, 2] rfl) hcc hss
set_option maxHeartbeats 4000000 in
theorem mq_Md_digits {l : Launch} {E : wo_E} {mc ms : Nat} {Post : Int32 → wo_W → Prop} {G : wo_W} {x0 : Int64} {x2 : Int32} {x3 : Int32} (hw : pq_Md_digits E mc ms Post G x0 x2 x3) : Met l yq_Md_digits (Cond.code yq_Md_digits prog_14_method_16_code 7 ((Option.some Jvm.ClassFile.FieldType.int)) :: vw_WG) { frames := 1, cells := mc, slots := ms, locals := 22 } (va_Pc [.long x0, .int x2, .int x3] (wo_Ok E G)) (va_Qi Post (wo_B E) (en_A E)) mc ms (en_A E) := by
  unfold pq_Md_digits at hw
  exact wo_met [(2, .long x0), (1, .int x2), (1, .int x3)] rfl (by decide) (fun q hq => by simp only [List.mem_cons, List.not_mem_nil, or_false] at hq; rcases hq with rfl | rfl | rfl <;> first | rfl | exact lx_cR _) (Nat.le_of_ble_eq_true rfl) (fun p e R s m args below meth cd ls hC hG hS hl => tq_Md_digits_0 hC hw hG hS (lx_sub hl [0, 1, 2] rfl) (Nat.zero_le _) (Nat.zero_le _))

theorem dq_Md_numberOf_0 : decode prog_14_method_17_code 0 = .ok (.iload_n 2, 1) := by decide +kernel
theorem dq_Md_numberOf_1 : decode prog_14_method_17_code 1 = .ok (.iconst 1, 1) := by decide +kernel
theorem dq_Md_numberOf_2 : decode prog_14_method_17_code 2 = .ok (.isub, 1) := by decide +kernel
theorem dq_Md_numberOf_3 : decode prog_14_method_17_code 3 = .ok (.istore 4, 2) := by decide +kernel
theorem dq_Md_numberOf_5 : decode prog_14_method_17_code 5 = .ok (.iload 4, 2) := by decide +kernel
theorem dq_Md_numberOf_7 : decode prog_14_method_17_code 7 = .ok (.ifCond .lt 70, 3) := by decide +kernel
theorem dq_Md_numberOf_10 : decode prog_14_method_17_code 10 = .ok (.lload_n 0, 1) := by decide +kernel
theorem dq_Md_numberOf_11 : decode prog_14_method_17_code 11 = .ok (.iload 4, 2) := by decide +kernel
theorem dq_Md_numberOf_13 : decode prog_14_method_17_code 13 = .ok (.invokestatic 254, 3) := by decide +kernel
theorem dq_Md_numberOf_16 : decode prog_14_method_17_code 16 = .ok (.iload_n 3, 1) := by decide +kernel
theorem dq_Md_numberOf_17 : decode prog_14_method_17_code 17 = .ok (.if_icmp .ne 54, 3) := by decide +kernel
theorem dq_Md_numberOf_20 : decode prog_14_method_17_code 20 = .ok (.iload 4, 2) := by decide +kernel
theorem dq_Md_numberOf_22 : decode prog_14_method_17_code 22 = .ok (.iconst 1, 1) := by decide +kernel
theorem dq_Md_numberOf_23 : decode prog_14_method_17_code 23 = .ok (.iadd, 1) := by decide +kernel
theorem dq_Md_numberOf_24 : decode prog_14_method_17_code 24 = .ok (.istore 5, 2) := by decide +kernel
theorem dq_Md_numberOf_26 : decode prog_14_method_17_code 26 = .ok (.iload 5, 2) := by decide +kernel
theorem dq_Md_numberOf_28 : decode prog_14_method_17_code 28 = .ok (.iload_n 2, 1) := by decide +kernel
theorem dq_Md_numberOf_29 : decode prog_14_method_17_code 29 = .ok (.if_icmp .ge 31, 3) := by decide +kernel
theorem dq_Md_numberOf_32 : decode prog_14_method_17_code 32 = .ok (.lload_n 0, 1) := by decide +kernel
theorem dq_Md_numberOf_33 : decode prog_14_method_17_code 33 = .ok (.iload 5, 2) := by decide +kernel
theorem dq_Md_numberOf_35 : decode prog_14_method_17_code 35 = .ok (.invokestatic 254, 3) := by decide +kernel
theorem dq_Md_numberOf_38 : decode prog_14_method_17_code 38 = .ok (.bipush 48, 2) := by decide +kernel
theorem dq_Md_numberOf_40 : decode prog_14_method_17_code 40 = .ok (.if_icmp .lt 20, 3) := by decide +kernel
theorem dq_Md_numberOf_43 : decode prog_14_method_17_code 43 = .ok (.lload_n 0, 1) := by decide +kernel
theorem dq_Md_numberOf_44 : decode prog_14_method_17_code 44 = .ok (.iload 5, 2) := by decide +kernel
theorem dq_Md_numberOf_46 : decode prog_14_method_17_code 46 = .ok (.invokestatic 254, 3) := by decide +kernel
theorem dq_Md_numberOf_49 : decode prog_14_method_17_code 49 = .ok (.bipush 57, 2) := by decide +kernel
theorem dq_Md_numberOf_51 : decode prog_14_method_17_code 51 = .ok (.if_icmp .gt 9, 3) := by decide +kernel
theorem dq_Md_numberOf_54 : decode prog_14_method_17_code 54 = .ok (.iinc 5 1, 3) := by decide +kernel
theorem dq_Md_numberOf_57 : decode prog_14_method_17_code 57 = .ok (.goto (-31), 3) := by decide +kernel
theorem dq_Md_numberOf_60 : decode prog_14_method_17_code 60 = .ok (.lload_n 0, 1) := by decide +kernel
theorem dq_Md_numberOf_61 : decode prog_14_method_17_code 61 = .ok (.iload 4, 2) := by decide +kernel
theorem dq_Md_numberOf_63 : decode prog_14_method_17_code 63 = .ok (.iconst 1, 1) := by decide +kernel
theorem dq_Md_numberOf_64 : decode prog_14_method_17_code 64 = .ok (.iadd, 1) := by decide +kernel
theorem dq_Md_numberOf_65 : decode prog_14_method_17_code 65 = .ok (.iload 5, 2) := by decide +kernel
theorem dq_Md_numberOf_67 : decode prog_14_method_17_code 67 = .ok (.invokestatic 248, 3) := by decide +kernel
theorem dq_Md_numberOf_70 : decode prog_14_method_17_code 70 = .ok (.ireturn, 1) := by decide +kernel
theorem dq_Md_numberOf_71 : decode prog_14_method_17_code 71 = .ok (.iinc 4 (-1), 3) := by decide +kernel
theorem dq_Md_numberOf_74 : decode prog_14_method_17_code 74 = .ok (.goto (-69), 3) := by decide +kernel
theorem dq_Md_numberOf_77 : decode prog_14_method_17_code 77 = .ok (.bipush (-2), 2) := by decide +kernel
theorem dq_Md_numberOf_79 : decode prog_14_method_17_code 79 = .ok (.ireturn, 1) := by decide +kernel
set_option maxRecDepth 100000 in
def pq_Md_numberOf_60 (E : wo_E) (mc ms : Nat) (Post : Int32 → wo_W → Prop) (G : wo_W) (c s : Nat) (x0 : Int64) (x4 : Int32) (x5 : Int32) : Prop := ∃ mc1 ms2 : Nat, (c + mc1) ≤ mc ∧ (s + ms2) ≤ ms ∧ pq_Md_digits E mc1 ms2 (fun v4 G3 => 
  Post v4 G3) G x0 (x4 + (1 : Int32)) x5
set_option maxRecDepth 100000 in
def pq_Md_numberOf_26 (E : wo_E) (mc ms : Nat) (Post : Int32 → wo_W → Prop) : Nat → wo_W → Nat → Nat → Int64 → Int32 → Int32 → Int32 → Prop
  | 0 => fun _ _ _ _ _ _ _ => False
  | n + 1 => fun G c s x0 x2 x4 x5 => ((x2 ≤ x5 → pq_Md_numberOf_60 E mc ms Post G c s x0 x4 x5) ∧
  (¬ x2 ≤ x5 → ∃ mc1 ms2 : Nat, (c + mc1) ≤ mc ∧ (s + ms2) ≤ ms ∧ pq_Md_byteOf E mc1 ms2 (fun v4 G3 => 
    ((v4 < (48 : Int32) → pq_Md_numberOf_60 E mc ms Post G3 (c + mc1) (s + ms2) x0 x4 x5) ∧
      (¬ v4 < (48 : Int32) → ∃ mc5 ms6 : Nat, ((c + mc1) + mc5) ≤ mc ∧ ((s + ms2) + ms6) ≤ ms ∧ pq_Md_byteOf E mc5 ms6 (fun v8 G7 => 
        (((57 : Int32) < v8 → pq_Md_numberOf_60 E mc ms Post G7 ((c + mc1) + mc5) ((s + ms2) + ms6) x0 x4 x5) ∧
          (¬ (57 : Int32) < v8 → pq_Md_numberOf_26 E mc ms Post n G7 ((c + mc1) + mc5) ((s + ms2) + ms6) x0 x2 x4 (x5 + (1 : Int32))))) G3 x0 x5))) G x0 x5))
set_option maxRecDepth 100000 in
def pq_Md_numberOf_5 (E : wo_E) (mc ms : Nat) (Post : Int32 → wo_W → Prop) : Nat → wo_W → Nat → Nat → Int64 → Int32 → Int32 → Int32 → Prop
  | 0 => fun _ _ _ _ _ _ _ => False
  | n + 1 => fun G c s x0 x2 x3 x4 => ((x4 < (0 : Int32) → Post (-2 : Int32) G) ∧
  (¬ x4 < (0 : Int32) → ∃ mc1 ms2 : Nat, (c + mc1) ≤ mc ∧ (s + ms2) ≤ ms ∧ pq_Md_byteOf E mc1 ms2 (fun v4 G3 => 
    ((¬ v4 = x3 → pq_Md_numberOf_5 E mc ms Post n G3 (c + mc1) (s + ms2) x0 x2 x3 (x4 + (-1 : Int32))) ∧
      (v4 = x3 → ∃ n1 : Nat, pq_Md_numberOf_26 E mc ms Post n1 G3 (c + mc1) (s + ms2) x0 x2 x4 (x4 + (1 : Int32))))) G x0 x4))
set_option maxRecDepth 100000 in
def pq_Md_numberOf_0 (E : wo_E) (mc ms : Nat) (Post : Int32 → wo_W → Prop) (G : wo_W) (c s : Nat) (x0 : Int64) (x2 : Int32) (x3 : Int32) : Prop := ∃ n1 : Nat, pq_Md_numberOf_5 E mc ms Post n1 G c s x0 x2 x3 (x2 - (1 : Int32))
def pq_Md_numberOf (E : wo_E) (mc ms : Nat) (Post : Int32 → wo_W → Prop) (G : wo_W) (x0 : Int64) (x2 : Int32) (x3 : Int32) : Prop := pq_Md_numberOf_0 E mc ms Post G 0 0 x0 x2 x3
set_option maxRecDepth 100000 in
set_option maxHeartbeats 4000000 in
theorem tq_Md_numberOf_60 {p : Program} {l : Launch} {e : Env} {R : Room} {s₀ : State} {m : MethodId} {args : Array Value} {below : List Frame} {meth : Method} {cd : Code} {E : wo_E} {mc ms : Nat} {Post : Int32 → wo_W → Prop} (hC : wo_Cx E "EdgeCacheModel" prog_14_method_17_code 6 2 48 ((Option.some Jvm.ClassFile.FieldType.int)) "numberOf" mc ms p R s₀ m args meth cd) : ∀ {G : wo_W} {c s : Nat} {x0 : Int64} {x4 : Int32} {x5 : Int32}, pq_Md_numberOf_60 E mc ms Post G c s x0 x4 x5 → ∀ {H : Heap} {locs : List Loc} {ls : Array Slot}, wo_Se E G H → va_S (en_A E) s₀.heap H locs → lx_has ls 6 [(0, 2, .long x0), (4, 1, .int x4), (5, 1, .int x5)] → c ≤ mc → s ≤ ms → W p l e R s₀ m args below meth cd H locs c s (MQ below (va_Qi Post (wo_B E) (en_A E)) args s₀ mc ms (en_A E)) (F0 m 60 ls []) := by
  intro G c s x0 x4 x5 hw H locs ls hG hS hl hcc hss
  dsimp only [pq_Md_numberOf_60] at hw
  have hx := hC.1
  have hb := hC.2.1
  refine lv_lload_n hx hb dq_Md_numberOf_60 rfl (lx_at hl 0 rfl) ?_
  refine lv_iload hx hb dq_Md_numberOf_61 (lx_at hl 1 rfl) ?_
  refine lv_iconst (v := (1 : Int32)) hx hb dq_Md_numberOf_63 rfl ?_
  refine lv_iadd hx hb dq_Md_numberOf_64 ?_
  refine lv_iload hx hb dq_Md_numberOf_65 (lx_at hl 2 rfl) ?_
  obtain ⟨mc1, ms2, hc1, hs1, hw⟩ := hw
  refine va_calli (wo_runS hC lq_Md_248 (mq_Md_digits hw) hG hS rfl (lx_sz hl) rfl (Nat.zero_le _) (by decide) dq_Md_numberOf_67 ⟨hc1, hs1⟩) hS (fun _ _ h => h) (fun _ h => h) (fun v4 G3 t H locs ht hvm hw' hB _ _ hS => ?_)
  clear hw
  have hw := hw'
  clear hw'
  replace hG := wo_bk ht hB
  replace hcc := hc1
  replace hss := hs1
  exact wo_iret hC hG hS hcc hss hw dq_Md_numberOf_70
set_option maxRecDepth 100000 in
set_option maxHeartbeats 4000000 in
theorem tq_Md_numberOf_26 {p : Program} {l : Launch} {e : Env} {R : Room} {s₀ : State} {m : MethodId} {args : Array Value} {below : List Frame} {meth : Method} {cd : Code} {E : wo_E} {mc ms : Nat} {Post : Int32 → wo_W → Prop} (hC : wo_Cx E "EdgeCacheModel" prog_14_method_17_code 6 2 48 ((Option.some Jvm.ClassFile.FieldType.int)) "numberOf" mc ms p R s₀ m args meth cd) : ∀ n : Nat, ∀ {G : wo_W} {c s : Nat} {x0 : Int64} {x2 : Int32} {x4 : Int32} {x5 : Int32}, pq_Md_numberOf_26 E mc ms Post n G c s x0 x2 x4 x5 → ∀ {H : Heap} {locs : List Loc} {ls : Array Slot}, wo_Se E G H → va_S (en_A E) s₀.heap H locs → lx_has ls 6 [(0, 2, .long x0), (2, 1, .int x2), (4, 1, .int x4), (5, 1, .int x5)] → c ≤ mc → s ≤ ms → W p l e R s₀ m args below meth cd H locs c s (MQ below (va_Qi Post (wo_B E) (en_A E)) args s₀ mc ms (en_A E)) (F0 m 26 ls []) := by
  intro n
  induction n with
  | zero => intro G c s x0 x2 x4 x5 hw; exact hw.elim
  | succ n ih =>
    intro G c s x0 x2 x4 x5 hw H locs ls hG hS hl hcc hss
    dsimp only [pq_Md_numberOf_26] at hw
    have hx := hC.1
    have hb := hC.2.1
    refine lv_iload hx hb dq_Md_numberOf_26 (lx_at hl 3 rfl) ?_
    refine lv_iload_n hx hb dq_Md_numberOf_28 rfl (lx_at hl 1 rfl) ?_
    refine lv_icmp_ge (tgt := 60) hx hb dq_Md_numberOf_29 rfl (fun h => ?_) (fun h => ?_)
    · replace hw := hw.1 h
      exact tq_Md_numberOf_60 hC hw hG hS (lx_sub hl [0, 2, 3] rfl) hcc hss
    · replace hw := hw.2 h
      refine lv_lload_n hx hb dq_Md_numberOf_32 rfl (lx_at hl 0 rfl) ?_
      refine lv_iload hx hb dq_Md_numberOf_33 (lx_at hl 3 rfl) ?_
      obtain ⟨mc1, ms2, hc1, hs1, hw⟩ := hw
      refine va_calli (wo_runS hC lq_Md_254 (mq_Md_byteOf hw) hG hS rfl (lx_sz hl) rfl (Nat.zero_le _) (by decide) dq_Md_numberOf_35 ⟨hc1, hs1⟩) hS (fun _ _ h => h) (fun _ h => h) (fun v4 G3 t H locs ht hvm hw' hB _ _ hS => ?_)
      clear hw
      have hw := hw'
      clear hw'
      replace hG := wo_bk ht hB
      replace hcc := hc1
      replace hss := hs1
      refine lv_bipush (v := (48 : Int32)) hx hb dq_Md_numberOf_38 rfl ?_
      refine lv_icmp_lt (tgt := 60) hx hb dq_Md_numberOf_40 rfl (fun h => ?_) (fun h => ?_)
      · replace hw := hw.1 h
        exact tq_Md_numberOf_60 hC hw hG hS (lx_sub hl [0, 2, 3] rfl) hcc hss
      · replace hw := hw.2 h
        refine lv_lload_n hx hb dq_Md_numberOf_43 rfl (lx_at hl 0 rfl) ?_
        refine lv_iload hx hb dq_Md_numberOf_44 (lx_at hl 3 rfl) ?_
        obtain ⟨mc5, ms6, hc1, hs1, hw⟩ := hw
        refine va_calli (wo_runS hC lq_Md_254 (mq_Md_byteOf hw) hG hS rfl (lx_sz hl) rfl (Nat.zero_le _) (by decide) dq_Md_numberOf_46 ⟨hc1, hs1⟩) hS (fun _ _ h => h) (fun _ h => h) (fun v8 G7 t H locs ht hvm hw' hB _ _ hS => ?_)
        clear hw
        have hw := hw'
        clear hw'
        replace hG := wo_bk ht hB
        replace hcc := hc1
        replace hss := hs1
        refine lv_bipush (v := (57 : Int32)) hx hb dq_Md_numberOf_49 rfl ?_
        refine lv_icmp_gt (tgt := 60) hx hb dq_Md_numberOf_51 rfl (fun h => ?_) (fun h => ?_)
        · replace hw := hw.1 h
          exact tq_Md_numberOf_60 hC hw hG hS (lx_sub hl [0, 2, 3] rfl) hcc hss
        · replace hw := hw.2 h
          refine lx_iinc (k := 3) (v := (x5 + (1 : Int32))) (lv' := [(5, 1, .int (x5 + (1 : Int32))), (0, 2, .long x0), (2, 1, .int x2), (4, 1, .int x4)]) hx hb dq_Md_numberOf_54 hl rfl rfl (by decide) rfl (fun ls hl' => ?_)
          clear hl
          have hl := hl'
          clear hl'
          refine lv_goto (tgt := 26) hx hb dq_Md_numberOf_57 rfl ?_
          exact ih hw hG hS (lx_sub hl [1, 2, 3, 0] rfl) hcc hss
set_option maxRecDepth 100000 in
set_option maxHeartbeats 4000000 in
theorem tq_Md_numberOf_5 {p : Program} {l : Launch} {e : Env} {R : Room} {s₀ : State} {m : MethodId} {args : Array Value} {below : List Frame} {meth : Method} {cd : Code} {E : wo_E} {mc ms : Nat} {Post : Int32 → wo_W → Prop} (hC : wo_Cx E "EdgeCacheModel" prog_14_method_17_code 6 2 48 ((Option.some Jvm.ClassFile.FieldType.int)) "numberOf" mc ms p R s₀ m args meth cd) : ∀ n : Nat, ∀ {G : wo_W} {c s : Nat} {x0 : Int64} {x2 : Int32} {x3 : Int32} {x4 : Int32}, pq_Md_numberOf_5 E mc ms Post n G c s x0 x2 x3 x4 → ∀ {H : Heap} {locs : List Loc} {ls : Array Slot}, wo_Se E G H → va_S (en_A E) s₀.heap H locs → lx_has ls 6 [(0, 2, .long x0), (2, 1, .int x2), (3, 1, .int x3), (4, 1, .int x4)] → c ≤ mc → s ≤ ms → W p l e R s₀ m args below meth cd H locs c s (MQ below (va_Qi Post (wo_B E) (en_A E)) args s₀ mc ms (en_A E)) (F0 m 5 ls []) := by
  intro n
  induction n with
  | zero => intro G c s x0 x2 x3 x4 hw; exact hw.elim
  | succ n ih =>
    intro G c s x0 x2 x3 x4 hw H locs ls hG hS hl hcc hss
    dsimp only [pq_Md_numberOf_5] at hw
    have hx := hC.1
    have hb := hC.2.1
    refine lv_iload hx hb dq_Md_numberOf_5 (lx_at hl 3 rfl) ?_
    refine lv_if_lt (tgt := 77) hx hb dq_Md_numberOf_7 rfl (fun h => ?_) (fun h => ?_)
    · replace hw := hw.1 h
      refine lv_bipush (v := (-2 : Int32)) hx hb dq_Md_numberOf_77 rfl ?_
      exact wo_iret hC hG hS hcc hss hw dq_Md_numberOf_79
    · replace hw := hw.2 h
      refine lv_lload_n hx hb dq_Md_numberOf_10 rfl (lx_at hl 0 rfl) ?_
      refine lv_iload hx hb dq_Md_numberOf_11 (lx_at hl 3 rfl) ?_
      obtain ⟨mc1, ms2, hc1, hs1, hw⟩ := hw
      refine va_calli (wo_runS hC lq_Md_254 (mq_Md_byteOf hw) hG hS rfl (lx_sz hl) rfl (Nat.zero_le _) (by decide) dq_Md_numberOf_13 ⟨hc1, hs1⟩) hS (fun _ _ h => h) (fun _ h => h) (fun v4 G3 t H locs ht hvm hw' hB _ _ hS => ?_)
      clear hw
      have hw := hw'
      clear hw'
      replace hG := wo_bk ht hB
      replace hcc := hc1
      replace hss := hs1
      refine lv_iload_n hx hb dq_Md_numberOf_16 rfl (lx_at hl 2 rfl) ?_
      refine lv_icmp_ne (tgt := 71) hx hb dq_Md_numberOf_17 rfl (fun h => ?_) (fun h => ?_)
      · replace hw := hw.1 h
        refine lx_iinc (k := 3) (v := (x4 + (-1 : Int32))) (lv' := [(4, 1, .int (x4 + (-1 : Int32))), (0, 2, .long x0), (2, 1, .int x2), (3, 1, .int x3)]) hx hb dq_Md_numberOf_71 hl rfl rfl (by decide) rfl (fun ls hl' => ?_)
        clear hl
        have hl := hl'
        clear hl'
        refine lv_goto (tgt := 5) hx hb dq_Md_numberOf_74 rfl ?_
        exact ih hw hG hS (lx_sub hl [1, 2, 3, 0] rfl) hcc hss
      · replace hw := hw.2 h
        refine lv_iload hx hb dq_Md_numberOf_20 (lx_at hl 3 rfl) ?_
        refine lv_iconst (v := (1 : Int32)) hx hb dq_Md_numberOf_22 rfl ?_
        refine lv_iadd hx hb dq_Md_numberOf_23 ?_
        refine lx_istore (lv' := [(5, 1, .int (x4 + (1 : Int32))), (0, 2, .long x0), (2, 1, .int x2), (3, 1, .int x3), (4, 1, .int x4)]) hx hb dq_Md_numberOf_24 hl (by decide) rfl (fun ls hl' => ?_)
        clear hl
        have hl := hl'
        clear hl'
        obtain ⟨n1, hw⟩ := hw
        exact tq_Md_numberOf_26 hC n1 hw hG hS (lx_sub hl [1, 2, 4, 0] rfl) hcc hss
set_option maxRecDepth 100000 in
set_option maxHeartbeats 4000000 in
theorem tq_Md_numberOf_0 {p : Program} {l : Launch} {e : Env} {R : Room} {s₀ : State} {m : MethodId} {args : Array Value} {below : List Frame} {meth : Method} {cd : Code} {E : wo_E} {mc ms : Nat} {Post : Int32 → wo_W → Prop} (hC : wo_Cx E "EdgeCacheModel" prog_14_method_17_code 6 2 48 ((Option.some Jvm.ClassFile.FieldType.int)) "numberOf" mc ms p R s₀ m args meth cd) : ∀ {G : wo_W} {c s : Nat} {x0 : Int64} {x2 : Int32} {x3 : Int32}, pq_Md_numberOf_0 E mc ms Post G c s x0 x2 x3 → ∀ {H : Heap} {locs : List Loc} {ls : Array Slot}, wo_Se E G H → va_S (en_A E) s₀.heap H locs → lx_has ls 6 [(0, 2, .long x0), (2, 1, .int x2), (3, 1, .int x3)] → c ≤ mc → s ≤ ms → W p l e R s₀ m args below meth cd H locs c s (MQ below (va_Qi Post (wo_B E) (en_A E)) args s₀ mc ms (en_A E)) (F0 m 0 ls []) := by
  intro G c s x0 x2 x3 hw H locs ls hG hS hl hcc hss
  dsimp only [pq_Md_numberOf_0] at hw
  have hx := hC.1
  have hb := hC.2.1
  refine lv_iload_n hx hb dq_Md_numberOf_0 rfl (lx_at hl 1 rfl) ?_
  refine lv_iconst (v := (1 : Int32)) hx hb dq_Md_numberOf_1 rfl ?_
  refine lv_isub hx hb dq_Md_numberOf_2 ?_
  refine lx_istore (lv' := [(4, 1, .int (x2 - (1 : Int32))), (0, 2, .long x0), (2, 1, .int x2), (3, 1, .int x3)]) hx hb dq_Md_numberOf_3 hl (by decide) rfl (fun ls hl' => ?_)
  clear hl
  have hl := hl'
  clear hl'
  obtain ⟨n1, hw⟩ := hw
  exact tq_Md_numberOf_5 hC n1 hw hG hS (lx_sub hl [1, 2, 3, 0] rfl) hcc hss
set_option maxHeartbeats 4000000 in
theorem mq_Md_numberOf {l : Launch} {E : wo_E} {mc ms : Nat} {Post : Int32 → wo_W → Prop} {G : wo_W} {x0 : Int64} {x2 : Int32} {x3 : Int32} (hw : pq_Md_numberOf E mc ms Post G x0 x2 x3) : Met l yq_Md_numberOf (Cond.code yq_Md_numberOf prog_14_method_17_code 6 ((Option.some Jvm.ClassFile.FieldType.int)) :: vw_WG) { frames := 2, cells := mc, slots := ms, locals := 48 } (va_Pc [.long x0, .int x2, .int x3] (wo_Ok E G)) (va_Qi Post (wo_B E) (en_A E)) mc ms (en_A E) := by
  unfold pq_Md_numberOf at hw
  exact wo_met [(2, .long x0), (1, .int x2), (1, .int x3)] rfl (by decide) (fun q hq => by simp only [List.mem_cons, List.not_mem_nil, or_false] at hq; rcases hq with rfl | rfl | rfl <;> first | rfl | exact lx_cR _) (Nat.le_of_ble_eq_true rfl) (fun p e R s m args below meth cd ls hC hG hS hl => tq_Md_numberOf_0 hC hw hG hS (lx_sub hl [0, 1, 2] rfl) (Nat.zero_le _) (Nat.zero_le _))
