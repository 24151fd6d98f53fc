theorem dq_Md_normal_0 : decode prog_14_method_11_code 0 = .ok (.iload_n 1, 1) := by decide +kernel
theorem dq_Md_normal_1 : decode prog_14_method_11_code 1 = .ok (.istore_n 2, 1) := by decide +kernel
theorem dq_Md_normal_2 : decode prog_14_method_11_code 2 = .ok (.iload_n 1, 1) := by decide +kernel
theorem dq_Md_normal_3 : decode prog_14_method_11_code 3 = .ok (.iconst 1, 1) := by decide +kernel
theorem dq_Md_normal_4 : decode prog_14_method_11_code 4 = .ok (.isub, 1) := by decide +kernel
theorem dq_Md_normal_5 : decode prog_14_method_11_code 5 = .ok (.istore_n 3, 1) := by decide +kernel
theorem dq_Md_normal_6 : decode prog_14_method_11_code 6 = .ok (.iload_n 3, 1) := by decide +kernel
theorem dq_Md_normal_7 : decode prog_14_method_11_code 7 = .ok (.ifCond .lt 26, 3) := by decide +kernel
theorem dq_Md_normal_10 : decode prog_14_method_11_code 10 = .ok (.aload_n 0, 1) := by decide +kernel
theorem dq_Md_normal_11 : decode prog_14_method_11_code 11 = .ok (.getfield 63, 3) := by decide +kernel
theorem dq_Md_normal_14 : decode prog_14_method_11_code 14 = .ok (.iload_n 3, 1) := by decide +kernel
theorem dq_Md_normal_15 : decode prog_14_method_11_code 15 = .ok (.iaload, 1) := by decide +kernel
theorem dq_Md_normal_16 : decode prog_14_method_11_code 16 = .ok (.bipush 63, 2) := by decide +kernel
theorem dq_Md_normal_18 : decode prog_14_method_11_code 18 = .ok (.if_icmp .ne 7, 3) := by decide +kernel
theorem dq_Md_normal_21 : decode prog_14_method_11_code 21 = .ok (.iload_n 3, 1) := by decide +kernel
theorem dq_Md_normal_22 : decode prog_14_method_11_code 22 = .ok (.goto 4, 3) := by decide +kernel
theorem dq_Md_normal_25 : decode prog_14_method_11_code 25 = .ok (.iload_n 2, 1) := by decide +kernel
theorem dq_Md_normal_26 : decode prog_14_method_11_code 26 = .ok (.istore_n 2, 1) := by decide +kernel
theorem dq_Md_normal_27 : decode prog_14_method_11_code 27 = .ok (.iinc 3 (-1), 3) := by decide +kernel
theorem dq_Md_normal_30 : decode prog_14_method_11_code 30 = .ok (.goto (-24), 3) := by decide +kernel
theorem dq_Md_normal_33 : decode prog_14_method_11_code 33 = .ok (.iconst 0, 1) := by decide +kernel
theorem dq_Md_normal_34 : decode prog_14_method_11_code 34 = .ok (.istore_n 3, 1) := by decide +kernel
theorem dq_Md_normal_35 : decode prog_14_method_11_code 35 = .ok (.iconst 0, 1) := by decide +kernel
theorem dq_Md_normal_36 : decode prog_14_method_11_code 36 = .ok (.istore 4, 2) := by decide +kernel
theorem dq_Md_normal_38 : decode prog_14_method_11_code 38 = .ok (.iload 4, 2) := by decide +kernel
theorem dq_Md_normal_40 : decode prog_14_method_11_code 40 = .ok (.iload_n 2, 1) := by decide +kernel
theorem dq_Md_normal_41 : decode prog_14_method_11_code 41 = .ok (.if_icmp .ge 213, 3) := by decide +kernel
theorem dq_Md_normal_44 : decode prog_14_method_11_code 44 = .ok (.iload 4, 2) := by decide +kernel
theorem dq_Md_normal_46 : decode prog_14_method_11_code 46 = .ok (.iconst 1, 1) := by decide +kernel
theorem dq_Md_normal_47 : decode prog_14_method_11_code 47 = .ok (.iadd, 1) := by decide +kernel
theorem dq_Md_normal_48 : decode prog_14_method_11_code 48 = .ok (.istore 5, 2) := by decide +kernel
theorem dq_Md_normal_50 : decode prog_14_method_11_code 50 = .ok (.iload 5, 2) := by decide +kernel
theorem dq_Md_normal_52 : decode prog_14_method_11_code 52 = .ok (.iload_n 2, 1) := by decide +kernel
theorem dq_Md_normal_53 : decode prog_14_method_11_code 53 = .ok (.if_icmp .ge 21, 3) := by decide +kernel
theorem dq_Md_normal_56 : decode prog_14_method_11_code 56 = .ok (.aload_n 0, 1) := by decide +kernel
theorem dq_Md_normal_57 : decode prog_14_method_11_code 57 = .ok (.getfield 63, 3) := by decide +kernel
theorem dq_Md_normal_60 : decode prog_14_method_11_code 60 = .ok (.iload 5, 2) := by decide +kernel
theorem dq_Md_normal_62 : decode prog_14_method_11_code 62 = .ok (.iaload, 1) := by decide +kernel
theorem dq_Md_normal_63 : decode prog_14_method_11_code 63 = .ok (.bipush 47, 2) := by decide +kernel
theorem dq_Md_normal_65 : decode prog_14_method_11_code 65 = .ok (.if_icmp .eq 9, 3) := by decide +kernel
theorem dq_Md_normal_68 : decode prog_14_method_11_code 68 = .ok (.iinc 5 1, 3) := by decide +kernel
theorem dq_Md_normal_71 : decode prog_14_method_11_code 71 = .ok (.goto (-21), 3) := by decide +kernel
theorem dq_Md_normal_74 : decode prog_14_method_11_code 74 = .ok (.iload 5, 2) := by decide +kernel
theorem dq_Md_normal_76 : decode prog_14_method_11_code 76 = .ok (.iload 4, 2) := by decide +kernel
theorem dq_Md_normal_78 : decode prog_14_method_11_code 78 = .ok (.isub, 1) := by decide +kernel
theorem dq_Md_normal_79 : decode prog_14_method_11_code 79 = .ok (.iconst 2, 1) := by decide +kernel
theorem dq_Md_normal_80 : decode prog_14_method_11_code 80 = .ok (.if_icmp .ne 21, 3) := by decide +kernel
theorem dq_Md_normal_83 : decode prog_14_method_11_code 83 = .ok (.aload_n 0, 1) := by decide +kernel
theorem dq_Md_normal_84 : decode prog_14_method_11_code 84 = .ok (.getfield 63, 3) := by decide +kernel
theorem dq_Md_normal_87 : decode prog_14_method_11_code 87 = .ok (.iload 4, 2) := by decide +kernel
theorem dq_Md_normal_89 : decode prog_14_method_11_code 89 = .ok (.iconst 1, 1) := by decide +kernel
theorem dq_Md_normal_90 : decode prog_14_method_11_code 90 = .ok (.iadd, 1) := by decide +kernel
theorem dq_Md_normal_91 : decode prog_14_method_11_code 91 = .ok (.iaload, 1) := by decide +kernel
theorem dq_Md_normal_92 : decode prog_14_method_11_code 92 = .ok (.bipush 46, 2) := by decide +kernel
theorem dq_Md_normal_94 : decode prog_14_method_11_code 94 = .ok (.if_icmp .ne 7, 3) := by decide +kernel
theorem dq_Md_normal_97 : decode prog_14_method_11_code 97 = .ok (.iconst 1, 1) := by decide +kernel
theorem dq_Md_normal_98 : decode prog_14_method_11_code 98 = .ok (.goto 4, 3) := by decide +kernel
theorem dq_Md_normal_101 : decode prog_14_method_11_code 101 = .ok (.iconst 0, 1) := by decide +kernel
theorem dq_Md_normal_102 : decode prog_14_method_11_code 102 = .ok (.istore 6, 2) := by decide +kernel
theorem dq_Md_normal_104 : decode prog_14_method_11_code 104 = .ok (.iload 5, 2) := by decide +kernel
theorem dq_Md_normal_106 : decode prog_14_method_11_code 106 = .ok (.iload 4, 2) := by decide +kernel
theorem dq_Md_normal_108 : decode prog_14_method_11_code 108 = .ok (.isub, 1) := by decide +kernel
theorem dq_Md_normal_109 : decode prog_14_method_11_code 109 = .ok (.iconst 3, 1) := by decide +kernel
theorem dq_Md_normal_110 : decode prog_14_method_11_code 110 = .ok (.if_icmp .ne 35, 3) := by decide +kernel
theorem dq_Md_normal_113 : decode prog_14_method_11_code 113 = .ok (.aload_n 0, 1) := by decide +kernel
theorem dq_Md_normal_114 : decode prog_14_method_11_code 114 = .ok (.getfield 63, 3) := by decide +kernel
theorem dq_Md_normal_117 : decode prog_14_method_11_code 117 = .ok (.iload 4, 2) := by decide +kernel
theorem dq_Md_normal_119 : decode prog_14_method_11_code 119 = .ok (.iconst 1, 1) := by decide +kernel
theorem dq_Md_normal_120 : decode prog_14_method_11_code 120 = .ok (.iadd, 1) := by decide +kernel
theorem dq_Md_normal_121 : decode prog_14_method_11_code 121 = .ok (.iaload, 1) := by decide +kernel
theorem dq_Md_normal_122 : decode prog_14_method_11_code 122 = .ok (.bipush 46, 2) := by decide +kernel
theorem dq_Md_normal_124 : decode prog_14_method_11_code 124 = .ok (.if_icmp .ne 21, 3) := by decide +kernel
theorem dq_Md_normal_127 : decode prog_14_method_11_code 127 = .ok (.aload_n 0, 1) := by decide +kernel
theorem dq_Md_normal_128 : decode prog_14_method_11_code 128 = .ok (.getfield 63, 3) := by decide +kernel
theorem dq_Md_normal_131 : decode prog_14_method_11_code 131 = .ok (.iload 4, 2) := by decide +kernel
theorem dq_Md_normal_133 : decode prog_14_method_11_code 133 = .ok (.iconst 2, 1) := by decide +kernel
theorem dq_Md_normal_134 : decode prog_14_method_11_code 134 = .ok (.iadd, 1) := by decide +kernel
theorem dq_Md_normal_135 : decode prog_14_method_11_code 135 = .ok (.iaload, 1) := by decide +kernel
theorem dq_Md_normal_136 : decode prog_14_method_11_code 136 = .ok (.bipush 46, 2) := by decide +kernel
theorem dq_Md_normal_138 : decode prog_14_method_11_code 138 = .ok (.if_icmp .ne 7, 3) := by decide +kernel
theorem dq_Md_normal_141 : decode prog_14_method_11_code 141 = .ok (.iconst 1, 1) := by decide +kernel
theorem dq_Md_normal_142 : decode prog_14_method_11_code 142 = .ok (.goto 4, 3) := by decide +kernel
theorem dq_Md_normal_145 : decode prog_14_method_11_code 145 = .ok (.iconst 0, 1) := by decide +kernel
theorem dq_Md_normal_146 : decode prog_14_method_11_code 146 = .ok (.istore 7, 2) := by decide +kernel
theorem dq_Md_normal_148 : decode prog_14_method_11_code 148 = .ok (.iload 7, 2) := by decide +kernel
theorem dq_Md_normal_150 : decode prog_14_method_11_code 150 = .ok (.ifCond .eq 27, 3) := by decide +kernel
theorem dq_Md_normal_153 : decode prog_14_method_11_code 153 = .ok (.iload_n 3, 1) := by decide +kernel
theorem dq_Md_normal_154 : decode prog_14_method_11_code 154 = .ok (.ifCond .le 23, 3) := by decide +kernel
theorem dq_Md_normal_157 : decode prog_14_method_11_code 157 = .ok (.iinc 3 (-1), 3) := by decide +kernel
theorem dq_Md_normal_160 : decode prog_14_method_11_code 160 = .ok (.aload_n 0, 1) := by decide +kernel
theorem dq_Md_normal_161 : decode prog_14_method_11_code 161 = .ok (.getfield 66, 3) := by decide +kernel
theorem dq_Md_normal_164 : decode prog_14_method_11_code 164 = .ok (.iload_n 3, 1) := by decide +kernel
theorem dq_Md_normal_165 : decode prog_14_method_11_code 165 = .ok (.iaload, 1) := by decide +kernel
theorem dq_Md_normal_166 : decode prog_14_method_11_code 166 = .ok (.bipush 47, 2) := by decide +kernel
theorem dq_Md_normal_168 : decode prog_14_method_11_code 168 = .ok (.if_icmp .eq 9, 3) := by decide +kernel
theorem dq_Md_normal_171 : decode prog_14_method_11_code 171 = .ok (.iinc 3 (-1), 3) := by decide +kernel
theorem dq_Md_normal_174 : decode prog_14_method_11_code 174 = .ok (.goto (-14), 3) := by decide +kernel
theorem dq_Md_normal_177 : decode prog_14_method_11_code 177 = .ok (.iload 4, 2) := by decide +kernel
theorem dq_Md_normal_179 : decode prog_14_method_11_code 179 = .ok (.istore 8, 2) := by decide +kernel
theorem dq_Md_normal_181 : decode prog_14_method_11_code 181 = .ok (.iload 8, 2) := by decide +kernel
theorem dq_Md_normal_183 : decode prog_14_method_11_code 183 = .ok (.iload 5, 2) := by decide +kernel
theorem dq_Md_normal_185 : decode prog_14_method_11_code 185 = .ok (.if_icmp .ge 35, 3) := by decide +kernel
theorem dq_Md_normal_188 : decode prog_14_method_11_code 188 = .ok (.iload 6, 2) := by decide +kernel
theorem dq_Md_normal_190 : decode prog_14_method_11_code 190 = .ok (.ifCond .ne 30, 3) := by decide +kernel
theorem dq_Md_normal_193 : decode prog_14_method_11_code 193 = .ok (.iload 7, 2) := by decide +kernel
theorem dq_Md_normal_195 : decode prog_14_method_11_code 195 = .ok (.ifCond .ne 25, 3) := by decide +kernel
theorem dq_Md_normal_198 : decode prog_14_method_11_code 198 = .ok (.aload_n 0, 1) := by decide +kernel
theorem dq_Md_normal_199 : decode prog_14_method_11_code 199 = .ok (.getfield 66, 3) := by decide +kernel
theorem dq_Md_normal_202 : decode prog_14_method_11_code 202 = .ok (.iload_n 3, 1) := by decide +kernel
theorem dq_Md_normal_203 : decode prog_14_method_11_code 203 = .ok (.aload_n 0, 1) := by decide +kernel
theorem dq_Md_normal_204 : decode prog_14_method_11_code 204 = .ok (.getfield 63, 3) := by decide +kernel
theorem dq_Md_normal_207 : decode prog_14_method_11_code 207 = .ok (.iload 8, 2) := by decide +kernel
theorem dq_Md_normal_209 : decode prog_14_method_11_code 209 = .ok (.iaload, 1) := by decide +kernel
theorem dq_Md_normal_210 : decode prog_14_method_11_code 210 = .ok (.iastore, 1) := by decide +kernel
theorem dq_Md_normal_211 : decode prog_14_method_11_code 211 = .ok (.iinc 3 1, 3) := by decide +kernel
theorem dq_Md_normal_214 : decode prog_14_method_11_code 214 = .ok (.iinc 8 1, 3) := by decide +kernel
theorem dq_Md_normal_217 : decode prog_14_method_11_code 217 = .ok (.goto (-36), 3) := by decide +kernel
theorem dq_Md_normal_220 : decode prog_14_method_11_code 220 = .ok (.iload 5, 2) := by decide +kernel
theorem dq_Md_normal_222 : decode prog_14_method_11_code 222 = .ok (.iload_n 2, 1) := by decide +kernel
theorem dq_Md_normal_223 : decode prog_14_method_11_code 223 = .ok (.if_icmp .ne 24, 3) := by decide +kernel
theorem dq_Md_normal_226 : decode prog_14_method_11_code 226 = .ok (.iload 6, 2) := by decide +kernel
theorem dq_Md_normal_228 : decode prog_14_method_11_code 228 = .ok (.ifCond .ne 8, 3) := by decide +kernel
theorem dq_Md_normal_231 : decode prog_14_method_11_code 231 = .ok (.iload 7, 2) := by decide +kernel
theorem dq_Md_normal_233 : decode prog_14_method_11_code 233 = .ok (.ifCond .eq 14, 3) := by decide +kernel
theorem dq_Md_normal_236 : decode prog_14_method_11_code 236 = .ok (.aload_n 0, 1) := by decide +kernel
theorem dq_Md_normal_237 : decode prog_14_method_11_code 237 = .ok (.getfield 66, 3) := by decide +kernel
theorem dq_Md_normal_240 : decode prog_14_method_11_code 240 = .ok (.iload_n 3, 1) := by decide +kernel
theorem dq_Md_normal_241 : decode prog_14_method_11_code 241 = .ok (.bipush 47, 2) := by decide +kernel
theorem dq_Md_normal_243 : decode prog_14_method_11_code 243 = .ok (.iastore, 1) := by decide +kernel
theorem dq_Md_normal_244 : decode prog_14_method_11_code 244 = .ok (.iinc 3 1, 3) := by decide +kernel
theorem dq_Md_normal_247 : decode prog_14_method_11_code 247 = .ok (.iload 5, 2) := by decide +kernel
theorem dq_Md_normal_249 : decode prog_14_method_11_code 249 = .ok (.istore 4, 2) := by decide +kernel
theorem dq_Md_normal_251 : decode prog_14_method_11_code 251 = .ok (.goto (-213), 3) := by decide +kernel
theorem dq_Md_normal_254 : decode prog_14_method_11_code 254 = .ok (.iload_n 2, 1) := by decide +kernel
theorem dq_Md_normal_255 : decode prog_14_method_11_code 255 = .ok (.istore 5, 2) := by decide +kernel
theorem dq_Md_normal_257 : decode prog_14_method_11_code 257 = .ok (.iload 5, 2) := by decide +kernel
theorem dq_Md_normal_259 : decode prog_14_method_11_code 259 = .ok (.iload_n 1, 1) := by decide +kernel
theorem dq_Md_normal_260 : decode prog_14_method_11_code 260 = .ok (.if_icmp .ge 25, 3) := by decide +kernel
theorem dq_Md_normal_263 : decode prog_14_method_11_code 263 = .ok (.aload_n 0, 1) := by decide +kernel
theorem dq_Md_normal_264 : decode prog_14_method_11_code 264 = .ok (.getfield 66, 3) := by decide +kernel
theorem dq_Md_normal_267 : decode prog_14_method_11_code 267 = .ok (.iload_n 3, 1) := by decide +kernel
theorem dq_Md_normal_268 : decode prog_14_method_11_code 268 = .ok (.aload_n 0, 1) := by decide +kernel
theorem dq_Md_normal_269 : decode prog_14_method_11_code 269 = .ok (.getfield 63, 3) := by decide +kernel
theorem dq_Md_normal_272 : decode prog_14_method_11_code 272 = .ok (.iload 5, 2) := by decide +kernel
theorem dq_Md_normal_274 : decode prog_14_method_11_code 274 = .ok (.iaload, 1) := by decide +kernel
theorem dq_Md_normal_275 : decode prog_14_method_11_code 275 = .ok (.iastore, 1) := by decide +kernel
theorem dq_Md_normal_276 : decode prog_14_method_11_code 276 = .ok (.iinc 3 1, 3) := by decide +kernel
theorem dq_Md_normal_279 : decode prog_14_method_11_code 279 = .ok (.iinc 5 1, 3) := by decide +kernel
theorem dq_Md_normal_282 : decode prog_14_method_11_code 282 = .ok (.goto (-25), 3) := by decide +kernel
theorem dq_Md_normal_285 : decode prog_14_method_11_code 285 = .ok (.aload_n 0, 1) := by decide +kernel
theorem dq_Md_normal_286 : decode prog_14_method_11_code 286 = .ok (.getfield 44, 3) := by decide +kernel
theorem dq_Md_normal_289 : decode prog_14_method_11_code 289 = .ok (.bipush 8, 2) := by decide +kernel
theorem dq_Md_normal_291 : decode prog_14_method_11_code 291 = .ok (.lconst 0, 1) := by decide +kernel
theorem dq_Md_normal_292 : decode prog_14_method_11_code 292 = .ok (.lastore, 1) := by decide +kernel
theorem dq_Md_normal_293 : decode prog_14_method_11_code 293 = .ok (.iconst 0, 1) := by decide +kernel
theorem dq_Md_normal_294 : decode prog_14_method_11_code 294 = .ok (.istore 5, 2) := by decide +kernel
theorem dq_Md_normal_296 : decode prog_14_method_11_code 296 = .ok (.iload 5, 2) := by decide +kernel
theorem dq_Md_normal_298 : decode prog_14_method_11_code 298 = .ok (.iload_n 3, 1) := by decide +kernel
theorem dq_Md_normal_299 : decode prog_14_method_11_code 299 = .ok (.if_icmp .ge 40, 3) := by decide +kernel
theorem dq_Md_normal_302 : decode prog_14_method_11_code 302 = .ok (.iload 5, 2) := by decide +kernel
theorem dq_Md_normal_304 : decode prog_14_method_11_code 304 = .ok (.bipush 8, 2) := by decide +kernel
theorem dq_Md_normal_306 : decode prog_14_method_11_code 306 = .ok (.if_icmp .ge 33, 3) := by decide +kernel
theorem dq_Md_normal_309 : decode prog_14_method_11_code 309 = .ok (.aload_n 0, 1) := by decide +kernel
theorem dq_Md_normal_310 : decode prog_14_method_11_code 310 = .ok (.getfield 44, 3) := by decide +kernel
theorem dq_Md_normal_313 : decode prog_14_method_11_code 313 = .ok (.bipush 8, 2) := by decide +kernel
theorem dq_Md_normal_315 : decode prog_14_method_11_code 315 = .ok (.dup2, 1) := by decide +kernel
theorem dq_Md_normal_316 : decode prog_14_method_11_code 316 = .ok (.laload, 1) := by decide +kernel
theorem dq_Md_normal_317 : decode prog_14_method_11_code 317 = .ok (.aload_n 0, 1) := by decide +kernel
theorem dq_Md_normal_318 : decode prog_14_method_11_code 318 = .ok (.getfield 66, 3) := by decide +kernel
theorem dq_Md_normal_321 : decode prog_14_method_11_code 321 = .ok (.iload 5, 2) := by decide +kernel
theorem dq_Md_normal_323 : decode prog_14_method_11_code 323 = .ok (.iaload, 1) := by decide +kernel
theorem dq_Md_normal_324 : decode prog_14_method_11_code 324 = .ok (.i2l, 1) := by decide +kernel
theorem dq_Md_normal_325 : decode prog_14_method_11_code 325 = .ok (.bipush 8, 2) := by decide +kernel
theorem dq_Md_normal_327 : decode prog_14_method_11_code 327 = .ok (.iload 5, 2) := by decide +kernel
theorem dq_Md_normal_329 : decode prog_14_method_11_code 329 = .ok (.imul, 1) := by decide +kernel
theorem dq_Md_normal_330 : decode prog_14_method_11_code 330 = .ok (.lshl, 1) := by decide +kernel
theorem dq_Md_normal_331 : decode prog_14_method_11_code 331 = .ok (.lor, 1) := by decide +kernel
theorem dq_Md_normal_332 : decode prog_14_method_11_code 332 = .ok (.lastore, 1) := by decide +kernel
theorem dq_Md_normal_333 : decode prog_14_method_11_code 333 = .ok (.iinc 5 1, 3) := by decide +kernel
theorem dq_Md_normal_336 : decode prog_14_method_11_code 336 = .ok (.goto (-40), 3) := by decide +kernel
theorem dq_Md_normal_339 : decode prog_14_method_11_code 339 = .ok (.aload_n 0, 1) := by decide +kernel
theorem dq_Md_normal_340 : decode prog_14_method_11_code 340 = .ok (.getfield 48, 3) := by decide +kernel
theorem dq_Md_normal_343 : decode prog_14_method_11_code 343 = .ok (.bipush 8, 2) := by decide +kernel
theorem dq_Md_normal_345 : decode prog_14_method_11_code 345 = .ok (.iload_n 3, 1) := by decide +kernel
theorem dq_Md_normal_346 : decode prog_14_method_11_code 346 = .ok (.iastore, 1) := by decide +kernel
theorem dq_Md_normal_347 : decode prog_14_method_11_code 347 = .ok (.iload_n 3, 1) := by decide +kernel
theorem dq_Md_normal_348 : decode prog_14_method_11_code 348 = .ok (.bipush 8, 2) := by decide +kernel
theorem dq_Md_normal_350 : decode prog_14_method_11_code 350 = .ok (.if_icmp .le 9, 3) := by decide +kernel
theorem dq_Md_normal_353 : decode prog_14_method_11_code 353 = .ok (.sipush 414, 3) := by decide +kernel
theorem dq_Md_normal_356 : decode prog_14_method_11_code 356 = .ok (.goto 4, 3) := by decide +kernel
theorem dq_Md_normal_359 : decode prog_14_method_11_code 359 = .ok (.iconst 0, 1) := by decide +kernel
theorem dq_Md_normal_360 : decode prog_14_method_11_code 360 = .ok (.ireturn, 1) := by decide +kernel
set_option maxRecDepth 100000 in
def pq_Md_normal_360 (E : wo_E) (mc ms : Nat) (Post : Int32 → wo_W → Prop) (G : wo_W) (c s : Nat) (y0 : Int32) : Prop := Post y0 G
set_option maxRecDepth 100000 in
def pq_Md_normal_339 (E : wo_E) (mc ms : Nat) (Post : Int32 → wo_W → Prop) (G : wo_W) (c s : Nat) (x0 : Nat) (x3 : Int32) : Prop := wo_ty G x0 = 15 ∧ ∀ r2 : Option Nat, r2 = wo_gr G 909 x0 → ∃ a4 : Nat, r2 = some a4 ∧ wo_ty G a4 = 66 ∧ vp_in (8 : Int32) (wo_len G a4) ∧ en_bs E ≤ a4 ∧ ∀ G8 : wo_W, G8 = wo_sei G a4 (8 : Int32).toNatClampNeg x3 → 
  ((x3 ≤ (8 : Int32) → pq_Md_normal_360 E mc ms Post G8 c s (0 : Int32)) ∧
  (¬ x3 ≤ (8 : Int32) → pq_Md_normal_360 E mc ms Post G8 c s (414 : Int32)))
set_option maxRecDepth 100000 in
def pq_Md_normal_296 (E : wo_E) (mc ms : Nat) (Post : Int32 → wo_W → Prop) : Nat → wo_W → Nat → Nat → Nat → Int32 → Int32 → Prop
  | 0 => fun _ _ _ _ _ _ => False
  | n + 1 => fun G c s x0 x3 x5 => ((x3 ≤ x5 → pq_Md_normal_339 E mc ms Post G c s x0 x3) ∧
  (¬ x3 ≤ x5 → (((8 : Int32) ≤ x5 → pq_Md_normal_339 E mc ms Post G c s x0 x3) ∧
    (¬ (8 : Int32) ≤ x5 → wo_ty G x0 = 15 ∧ ∀ r2 : Option Nat, r2 = wo_gr G 908 x0 → ∃ a4 : Nat, r2 = some a4 ∧ wo_ty G a4 = 73 ∧ vp_in (8 : Int32) (wo_len G a4) ∧ ∀ r7 : Option Nat, r7 = wo_gr G 917 x0 → ∃ a9 : Nat, r7 = some a9 ∧ wo_ty G a9 = 66 ∧ vp_in x5 (wo_len G a9) ∧ vp_in (8 : Int32) (wo_len G a4) ∧ en_bs E ≤ a4 ∧ ∀ G14 : wo_W, G14 = wo_sel G a4 (8 : Int32).toNatClampNeg ((wo_el G a4 (8 : Int32).toNatClampNeg) ||| ((wo_ei G a9 x5.toNatClampNeg).toInt64 <<< (((8 : Int32) * x5).toInt64 &&& 63))) → 
      pq_Md_normal_296 E mc ms Post n G14 c s x0 x3 (x5 + (1 : Int32))))))
set_option maxRecDepth 100000 in
def pq_Md_normal_257 (E : wo_E) (mc ms : Nat) (Post : Int32 → wo_W → Prop) : Nat → wo_W → Nat → Nat → Nat → Int32 → Int32 → Int32 → Prop
  | 0 => fun _ _ _ _ _ _ _ => False
  | n + 1 => fun G c s x0 x1 x3 x5 => ((x1 ≤ x5 → wo_ty G x0 = 15 ∧ ∀ r2 : Option Nat, r2 = wo_gr G 908 x0 → ∃ a4 : Nat, r2 = some a4 ∧ wo_ty G a4 = 73 ∧ vp_in (8 : Int32) (wo_len G a4) ∧ en_bs E ≤ a4 ∧ ∀ G8 : wo_W, G8 = wo_sel G a4 (8 : Int32).toNatClampNeg (0 : Int64) → 
    ∃ n1 : Nat, pq_Md_normal_296 E mc ms Post n1 G8 c s x0 x3 (0 : Int32)) ∧
  (¬ x1 ≤ x5 → wo_ty G x0 = 15 ∧ ∀ r11 : Option Nat, r11 = wo_gr G 917 x0 → ∀ r13 : Option Nat, r13 = wo_gr G 916 x0 → ∃ a15 : Nat, r13 = some a15 ∧ wo_ty G a15 = 66 ∧ vp_in x5 (wo_len G a15) ∧ ∃ a18 : Nat, r11 = some a18 ∧ wo_ty G a18 = 66 ∧ vp_in x3 (wo_len G a18) ∧ en_bs E ≤ a18 ∧ ∀ G22 : wo_W, G22 = wo_sei G a18 x3.toNatClampNeg (wo_ei G a15 x5.toNatClampNeg) → 
    pq_Md_normal_257 E mc ms Post n G22 c s x0 x1 (x3 + (1 : Int32)) (x5 + (1 : Int32))))
set_option maxRecDepth 100000 in
def pq_Md_normal_247 (E : wo_E) (mc ms : Nat) (Post : Int32 → wo_W → Prop) (k38 : wo_W → Nat → Nat → Nat → Int32 → Int32 → Int32 → Int32 → Prop) (G : wo_W) (c s : Nat) (x0 : Nat) (x1 : Int32) (x2 : Int32) (x3 : Int32) (x5 : Int32) : Prop := k38 G c s x0 x1 x2 x3 x5
set_option maxRecDepth 100000 in
def pq_Md_normal_236 (E : wo_E) (mc ms : Nat) (Post : Int32 → wo_W → Prop) (k38 : wo_W → Nat → Nat → Nat → Int32 → Int32 → Int32 → Int32 → Prop) (G : wo_W) (c s : Nat) (x0 : Nat) (x1 : Int32) (x2 : Int32) (x3 : Int32) (x5 : Int32) : Prop := wo_ty G x0 = 15 ∧ ∀ r2 : Option Nat, r2 = wo_gr G 917 x0 → ∃ a4 : Nat, r2 = some a4 ∧ wo_ty G a4 = 66 ∧ vp_in x3 (wo_len G a4) ∧ en_bs E ≤ a4 ∧ ∀ G8 : wo_W, G8 = wo_sei G a4 x3.toNatClampNeg (47 : Int32) → 
  pq_Md_normal_247 E mc ms Post k38 G8 c s x0 x1 x2 (x3 + (1 : Int32)) x5
set_option maxRecDepth 100000 in
def pq_Md_normal_220 (E : wo_E) (mc ms : Nat) (Post : Int32 → wo_W → Prop) (k38 : wo_W → Nat → Nat → Nat → Int32 → Int32 → Int32 → Int32 → Prop) (G : wo_W) (c s : Nat) (x0 : Nat) (x1 : Int32) (x2 : Int32) (x3 : Int32) (x5 : Int32) (x6 : Int32) (x7 : Int32) : Prop := ((¬ x5 = x2 → pq_Md_normal_247 E mc ms Post k38 G c s x0 x1 x2 x3 x5) ∧
  (x5 = x2 → ((¬ x6 = (0 : Int32) → pq_Md_normal_236 E mc ms Post k38 G c s x0 x1 x2 x3 x5) ∧
    (x6 = (0 : Int32) → ((x7 = (0 : Int32) → pq_Md_normal_247 E mc ms Post k38 G c s x0 x1 x2 x3 x5) ∧
      (¬ x7 = (0 : Int32) → pq_Md_normal_236 E mc ms Post k38 G c s x0 x1 x2 x3 x5))))))
set_option maxRecDepth 100000 in
def pq_Md_normal_181 (E : wo_E) (mc ms : Nat) (Post : Int32 → wo_W → Prop) (k38 : wo_W → Nat → Nat → Nat → Int32 → Int32 → Int32 → Int32 → Prop) : Nat → wo_W → Nat → Nat → Nat → Int32 → Int32 → Int32 → Int32 → Int32 → Int32 → Int32 → Prop
  | 0 => fun _ _ _ _ _ _ _ _ _ _ _ => False
  | n + 1 => fun G c s x0 x1 x2 x3 x5 x6 x7 x8 => ((x5 ≤ x8 → pq_Md_normal_220 E mc ms Post k38 G c s x0 x1 x2 x3 x5 x6 x7) ∧
  (¬ x5 ≤ x8 → ((¬ x6 = (0 : Int32) → pq_Md_normal_220 E mc ms Post k38 G c s x0 x1 x2 x3 x5 x6 x7) ∧
    (x6 = (0 : Int32) → ((¬ x7 = (0 : Int32) → pq_Md_normal_220 E mc ms Post k38 G c s x0 x1 x2 x3 x5 x6 x7) ∧
      (x7 = (0 : Int32) → wo_ty G x0 = 15 ∧ ∀ r2 : Option Nat, r2 = wo_gr G 917 x0 → ∀ r4 : Option Nat, r4 = wo_gr G 916 x0 → ∃ a6 : Nat, r4 = some a6 ∧ wo_ty G a6 = 66 ∧ vp_in x8 (wo_len G a6) ∧ ∃ a9 : Nat, r2 = some a9 ∧ wo_ty G a9 = 66 ∧ vp_in x3 (wo_len G a9) ∧ en_bs E ≤ a9 ∧ ∀ G13 : wo_W, G13 = wo_sei G a9 x3.toNatClampNeg (wo_ei G a6 x8.toNatClampNeg) → 
        pq_Md_normal_181 E mc ms Post k38 n G13 c s x0 x1 x2 (x3 + (1 : Int32)) x5 x6 x7 (x8 + (1 : Int32))))))))
set_option maxRecDepth 100000 in
def pq_Md_normal_177 (E : wo_E) (mc ms : Nat) (Post : Int32 → wo_W → Prop) (k38 : wo_W → Nat → Nat → Nat → Int32 → Int32 → Int32 → Int32 → Prop) (G : wo_W) (c s : Nat) (x0 : Nat) (x1 : Int32) (x2 : Int32) (x3 : Int32) (x4 : Int32) (x5 : Int32) (x6 : Int32) (x7 : Int32) : Prop := ∃ n1 : Nat, pq_Md_normal_181 E mc ms Post k38 n1 G c s x0 x1 x2 x3 x5 x6 x7 x4
set_option maxRecDepth 100000 in
def pq_Md_normal_160 (E : wo_E) (mc ms : Nat) (Post : Int32 → wo_W → Prop) (k38 : wo_W → Nat → Nat → Nat → Int32 → Int32 → Int32 → Int32 → Prop) : Nat → wo_W → Nat → Nat → Nat → Int32 → Int32 → Int32 → Int32 → Int32 → Int32 → Int32 → Prop
  | 0 => fun _ _ _ _ _ _ _ _ _ _ _ => False
  | n + 1 => fun G c s x0 x1 x2 x3 x4 x5 x6 x7 => wo_ty G x0 = 15 ∧ ∀ r2 : Option Nat, r2 = wo_gr G 917 x0 → ∃ a4 : Nat, r2 = some a4 ∧ wo_ty G a4 = 66 ∧ vp_in x3 (wo_len G a4) ∧ (((wo_ei G a4 x3.toNatClampNeg) = (47 : Int32) → pq_Md_normal_177 E mc ms Post k38 G c s x0 x1 x2 x3 x4 x5 x6 x7) ∧
  (¬ (wo_ei G a4 x3.toNatClampNeg) = (47 : Int32) → pq_Md_normal_160 E mc ms Post k38 n G c s x0 x1 x2 (x3 + (-1 : Int32)) x4 x5 x6 x7))
set_option maxRecDepth 100000 in
def pq_Md_normal_146 (E : wo_E) (mc ms : Nat) (Post : Int32 → wo_W → Prop) (k38 : wo_W → Nat → Nat → Nat → Int32 → Int32 → Int32 → Int32 → Prop) (G : wo_W) (c s : Nat) (x0 : Nat) (x1 : Int32) (x2 : Int32) (x3 : Int32) (x4 : Int32) (x5 : Int32) (x6 : Int32) (y0 : Int32) : Prop := ((y0 = (0 : Int32) → pq_Md_normal_177 E mc ms Post k38 G c s x0 x1 x2 x3 x4 x5 x6 y0) ∧
  (¬ y0 = (0 : Int32) → ((x3 ≤ (0 : Int32) → pq_Md_normal_177 E mc ms Post k38 G c s x0 x1 x2 x3 x4 x5 x6 y0) ∧
    (¬ x3 ≤ (0 : Int32) → ∃ n1 : Nat, pq_Md_normal_160 E mc ms Post k38 n1 G c s x0 x1 x2 (x3 + (-1 : Int32)) x4 x5 x6 y0))))
set_option maxRecDepth 100000 in
def pq_Md_normal_145 (E : wo_E) (mc ms : Nat) (Post : Int32 → wo_W → Prop) (k38 : wo_W → Nat → Nat → Nat → Int32 → Int32 → Int32 → Int32 → Prop) (G : wo_W) (c s : Nat) (x0 : Nat) (x1 : Int32) (x2 : Int32) (x3 : Int32) (x4 : Int32) (x5 : Int32) (x6 : Int32) : Prop := pq_Md_normal_146 E mc ms Post k38 G c s x0 x1 x2 x3 x4 x5 x6 (0 : Int32)
set_option maxRecDepth 100000 in
def pq_Md_normal_102 (E : wo_E) (mc ms : Nat) (Post : Int32 → wo_W → Prop) (k38 : wo_W → Nat → Nat → Nat → Int32 → Int32 → Int32 → Int32 → Prop) (G : wo_W) (c s : Nat) (x0 : Nat) (x1 : Int32) (x2 : Int32) (x3 : Int32) (x4 : Int32) (x5 : Int32) (y0 : Int32) : Prop := ((¬ (x5 - x4) = (3 : Int32) → pq_Md_normal_145 E mc ms Post k38 G c s x0 x1 x2 x3 x4 x5 y0) ∧
  ((x5 - x4) = (3 : Int32) → wo_ty G x0 = 15 ∧ ∀ r2 : Option Nat, r2 = wo_gr G 916 x0 → ∃ a4 : Nat, r2 = some a4 ∧ wo_ty G a4 = 66 ∧ vp_in (x4 + (1 : Int32)) (wo_len G a4) ∧ ((¬ (wo_ei G a4 (x4 + (1 : Int32)).toNatClampNeg) = (46 : Int32) → pq_Md_normal_145 E mc ms Post k38 G c s x0 x1 x2 x3 x4 x5 y0) ∧
    ((wo_ei G a4 (x4 + (1 : Int32)).toNatClampNeg) = (46 : Int32) → ∀ r7 : Option Nat, r7 = wo_gr G 916 x0 → ∃ a9 : Nat, r7 = some a9 ∧ wo_ty G a9 = 66 ∧ vp_in (x4 + (2 : Int32)) (wo_len G a9) ∧ ((¬ (wo_ei G a9 (x4 + (2 : Int32)).toNatClampNeg) = (46 : Int32) → pq_Md_normal_145 E mc ms Post k38 G c s x0 x1 x2 x3 x4 x5 y0) ∧
      ((wo_ei G a9 (x4 + (2 : Int32)).toNatClampNeg) = (46 : Int32) → pq_Md_normal_146 E mc ms Post k38 G c s x0 x1 x2 x3 x4 x5 y0 (1 : Int32)))))))
set_option maxRecDepth 100000 in
def pq_Md_normal_101 (E : wo_E) (mc ms : Nat) (Post : Int32 → wo_W → Prop) (k38 : wo_W → Nat → Nat → Nat → Int32 → Int32 → Int32 → Int32 → Prop) (G : wo_W) (c s : Nat) (x0 : Nat) (x1 : Int32) (x2 : Int32) (x3 : Int32) (x4 : Int32) (x5 : Int32) : Prop := pq_Md_normal_102 E mc ms Post k38 G c s x0 x1 x2 x3 x4 x5 (0 : Int32)
set_option maxRecDepth 100000 in
def pq_Md_normal_74 (E : wo_E) (mc ms : Nat) (Post : Int32 → wo_W → Prop) (k38 : wo_W → Nat → Nat → Nat → Int32 → Int32 → Int32 → Int32 → Prop) (G : wo_W) (c s : Nat) (x0 : Nat) (x1 : Int32) (x2 : Int32) (x3 : Int32) (x4 : Int32) (x5 : Int32) : Prop := ((¬ (x5 - x4) = (2 : Int32) → pq_Md_normal_101 E mc ms Post k38 G c s x0 x1 x2 x3 x4 x5) ∧
  ((x5 - x4) = (2 : Int32) → wo_ty G x0 = 15 ∧ ∀ r2 : Option Nat, r2 = wo_gr G 916 x0 → ∃ a4 : Nat, r2 = some a4 ∧ wo_ty G a4 = 66 ∧ vp_in (x4 + (1 : Int32)) (wo_len G a4) ∧ ((¬ (wo_ei G a4 (x4 + (1 : Int32)).toNatClampNeg) = (46 : Int32) → pq_Md_normal_101 E mc ms Post k38 G c s x0 x1 x2 x3 x4 x5) ∧
    ((wo_ei G a4 (x4 + (1 : Int32)).toNatClampNeg) = (46 : Int32) → pq_Md_normal_102 E mc ms Post k38 G c s x0 x1 x2 x3 x4 x5 (1 : Int32)))))
set_option maxRecDepth 100000 in
def pq_Md_normal_50 (E : wo_E) (mc ms : Nat) (Post : Int32 → wo_W → Prop) (k38 : wo_W → Nat → Nat → Nat → Int32 → Int32 → Int32 → Int32 → Prop) : Nat → wo_W → Nat → Nat → Nat → Int32 → Int32 → Int32 → Int32 → Int32 → Prop
  | 0 => fun _ _ _ _ _ _ _ _ _ => False
  | n + 1 => fun G c s x0 x1 x2 x3 x4 x5 => ((x2 ≤ x5 → pq_Md_normal_74 E mc ms Post k38 G c s x0 x1 x2 x3 x4 x5) ∧
  (¬ x2 ≤ x5 → wo_ty G x0 = 15 ∧ ∀ r2 : Option Nat, r2 = wo_gr G 916 x0 → ∃ a4 : Nat, r2 = some a4 ∧ wo_ty G a4 = 66 ∧ vp_in x5 (wo_len G a4) ∧ (((wo_ei G a4 x5.toNatClampNeg) = (47 : Int32) → pq_Md_normal_74 E mc ms Post k38 G c s x0 x1 x2 x3 x4 x5) ∧
    (¬ (wo_ei G a4 x5.toNatClampNeg) = (47 : Int32) → pq_Md_normal_50 E mc ms Post k38 n G c s x0 x1 x2 x3 x4 (x5 + (1 : Int32))))))
set_option maxRecDepth 100000 in
def pq_Md_normal_38 (E : wo_E) (mc ms : Nat) (Post : Int32 → wo_W → Prop) : Nat → wo_W → Nat → Nat → Nat → Int32 → Int32 → Int32 → Int32 → Prop
  | 0 => fun _ _ _ _ _ _ _ _ => False
  | n + 1 => fun G c s x0 x1 x2 x3 x4 => ((x2 ≤ x4 → ∃ n1 : Nat, pq_Md_normal_257 E mc ms Post n1 G c s x0 x1 x3 x2) ∧
  (¬ x2 ≤ x4 → ∃ n1 : Nat, pq_Md_normal_50 E mc ms Post (pq_Md_normal_38 E mc ms Post n) n1 G c s x0 x1 x2 x3 x4 (x4 + (1 : Int32))))
set_option maxRecDepth 100000 in
def pq_Md_normal_26 (E : wo_E) (mc ms : Nat) (Post : Int32 → wo_W → Prop) (k6 : wo_W → Nat → Nat → Nat → Int32 → Int32 → Int32 → Prop) (G : wo_W) (c s : Nat) (x0 : Nat) (x1 : Int32) (x3 : Int32) (y0 : Int32) : Prop := k6 G c s x0 x1 y0 (x3 + (-1 : Int32))
set_option maxRecDepth 100000 in
def pq_Md_normal_6 (E : wo_E) (mc ms : Nat) (Post : Int32 → wo_W → Prop) : Nat → wo_W → Nat → Nat → Nat → Int32 → Int32 → Int32 → Prop
  | 0 => fun _ _ _ _ _ _ _ => False
  | n + 1 => fun G c s x0 x1 x2 x3 => ((x3 < (0 : Int32) → ∃ n1 : Nat, pq_Md_normal_38 E mc ms Post n1 G c s x0 x1 x2 (0 : Int32) (0 : Int32)) ∧
  (¬ x3 < (0 : Int32) → wo_ty G x0 = 15 ∧ ∀ r2 : Option Nat, r2 = wo_gr G 916 x0 → ∃ a4 : Nat, r2 = some a4 ∧ wo_ty G a4 = 66 ∧ vp_in x3 (wo_len G a4) ∧ ((¬ (wo_ei G a4 x3.toNatClampNeg) = (63 : Int32) → pq_Md_normal_26 E mc ms Post (pq_Md_normal_6 E mc ms Post n) G c s x0 x1 x3 x2) ∧
    ((wo_ei G a4 x3.toNatClampNeg) = (63 : Int32) → pq_Md_normal_26 E mc ms Post (pq_Md_normal_6 E mc ms Post n) G c s x0 x1 x3 x3))))
set_option maxRecDepth 100000 in
def pq_Md_normal_0 (E : wo_E) (mc ms : Nat) (Post : Int32 → wo_W → Prop) (G : wo_W) (c s : Nat) (x0 : Nat) (x1 : Int32) : Prop := ∃ n1 : Nat, pq_Md_normal_6 E mc ms Post n1 G c s x0 x1 x1 (x1 - (1 : Int32))
def pq_Md_normal (E : wo_E) (mc ms : Nat) (Post : Int32 → wo_W → Prop) (G : wo_W) (x0 : Nat) (x1 : Int32) : Prop := pq_Md_normal_0 E mc ms Post G 0 0 x0 x1
set_option maxRecDepth 100000 in
set_option maxHeartbeats 4000000 in
theorem tq_Md_normal_360 {p : Program} {l : Launch} {e : Env} {R : Room} {s₀ : State} {m : MethodId} {args : Array Value} {below : List Frame} {meth : Method} {cd : Code} {E : wo_E} {mc ms : Nat} {Post : Int32 → wo_W → Prop} (hC : wo_Cx E "EdgeCacheModel" prog_14_method_11_code 9 0 0 ((Option.some Jvm.ClassFile.FieldType.int)) "normal" mc ms p R s₀ m args meth cd) : ∀ {G : wo_W} {c s : Nat} {y0 : Int32}, pq_Md_normal_360 E mc ms Post G c s y0 → ∀ {H : Heap} {locs : List Loc} {ls : Array Slot}, wo_Se E G H → va_S (en_A E) s₀.heap H locs → lx_has ls 9 [] → c ≤ mc → s ≤ ms → W p l e R s₀ m args below meth cd H locs c s (MQ below (va_Qi Post (wo_B E) (en_A E)) args s₀ mc ms (en_A E)) (F0 m 360 ls [.int y0]) := by
  intro G c s y0 hw H locs ls hG hS hl hcc hss
  dsimp only [pq_Md_normal_360] at hw
  have hx := hC.1
  have hb := hC.2.1
  exact wo_iret hC hG hS hcc hss hw dq_Md_normal_360
set_option maxRecDepth 100000 in
set_option maxHeartbeats 4000000 in
theorem tq_Md_normal_339 {p : Program} {l : Launch} {e : Env} {R : Room} {s₀ : State} {m : MethodId} {args : Array Value} {below : List Frame} {meth : Method} {cd : Code} {E : wo_E} {mc ms : Nat} {Post : Int32 → wo_W → Prop} (hC : wo_Cx E "EdgeCacheModel" prog_14_method_11_code 9 0 0 ((Option.some Jvm.ClassFile.FieldType.int)) "normal" mc ms p R s₀ m args meth cd) : ∀ {G : wo_W} {c s : Nat} {x0 : Nat} {x3 : Int32}, pq_Md_normal_339 E mc ms Post G c s x0 x3 → ∀ {H : Heap} {locs : List Loc} {ls : Array Slot}, wo_Se E G H → va_S (en_A E) s₀.heap H locs → lx_has ls 9 [(0, 1, .ref x0), (3, 1, .int x3)] → c ≤ mc → s ≤ ms → W p l e R s₀ m args below meth cd H locs c s (MQ below (va_Qi Post (wo_B E) (en_A E)) args s₀ mc ms (en_A E)) (F0 m 339 ls []) := by
  intro G c s x0 x3 hw H locs ls hG hS hl hcc hss
  dsimp only [pq_Md_normal_339] at hw
  have hx := hC.1
  have hb := hC.2.1
  refine lv_aload_n hx hb dq_Md_normal_339 rfl (lx_at hl 0 rfl) ?_
  obtain ⟨t1, hw⟩ := hw
  refine wo_getR hC fq_Md_48 rfl hG t1 dq_Md_normal_340 (fun r2 e3 => ?_)
  replace hw := hw r2 e3
  refine lv_bipush (v := (8 : Int32)) hx hb dq_Md_normal_343 rfl ?_
  refine lv_iload_n hx hb dq_Md_normal_345 rfl (lx_at hl 1 rfl) ?_
  obtain ⟨a4, rfl, hw⟩ := hw
  obtain ⟨t5, hw⟩ := hw
  obtain ⟨h6, hw⟩ := hw
  obtain ⟨h7, hw⟩ := hw
  refine wo_iast (j := 2) hC rfl hG hS t5 h6 h7 dq_Md_normal_346 (fun G8 H locs e9 hG hS => ?_)
  replace hw := hw G8 e9
  refine lv_iload_n hx hb dq_Md_normal_347 rfl (lx_at hl 1 rfl) ?_
  refine lv_bipush (v := (8 : Int32)) hx hb dq_Md_normal_348 rfl ?_
  refine lv_icmp_le (tgt := 359) hx hb dq_Md_normal_350 rfl (fun h => ?_) (fun h => ?_)
  · replace hw := hw.1 h
    refine lv_iconst (v := (0 : Int32)) hx hb dq_Md_normal_359 rfl ?_
    exact tq_Md_normal_360 hC hw hG hS (lx_sub hl [] rfl) hcc hss
  · replace hw := hw.2 h
    refine lv_sipush (v := (414 : Int32)) hx hb dq_Md_normal_353 rfl ?_
    refine lv_goto (tgt := 360) hx hb dq_Md_normal_356 rfl ?_
    exact tq_Md_normal_360 hC hw hG hS (lx_sub hl [] rfl) hcc hss
set_option maxRecDepth 100000 in
set_option maxHeartbeats 4000000 in
theorem tq_Md_normal_296 {p : Program} {l : Launch} {e : Env} {R : Room} {s₀ : State} {m : MethodId} {args : Array Value} {below : List Frame} {meth : Method} {cd : Code} {E : wo_E} {mc ms : Nat} {Post : Int32 → wo_W → Prop} (hC : wo_Cx E "EdgeCacheModel" prog_14_method_11_code 9 0 0 ((Option.some Jvm.ClassFile.FieldType.int)) "normal" mc ms p R s₀ m args meth cd) : ∀ n : Nat, ∀ {G : wo_W} {c s : Nat} {x0 : Nat} {x3 : Int32} {x5 : Int32}, pq_Md_normal_296 E mc ms Post n G c s x0 x3 x5 → ∀ {H : Heap} {locs : List Loc} {ls : Array Slot}, wo_Se E G H → va_S (en_A E) s₀.heap H locs → lx_has ls 9 [(0, 1, .ref x0), (3, 1, .int x3), (5, 1, .int x5)] → c ≤ mc → s ≤ ms → W p l e R s₀ m args below meth cd H locs c s (MQ below (va_Qi Post (wo_B E) (en_A E)) args s₀ mc ms (en_A E)) (F0 m 296 ls []) := by
  intro n
  induction n with
  | zero => intro G c s x0 x3 x5 hw; exact hw.elim
  | succ n ih =>
    intro G c s x0 x3 x5 hw H locs ls hG hS hl hcc hss
    dsimp only [pq_Md_normal_296] at hw
    have hx := hC.1
    have hb := hC.2.1
    refine lv_iload hx hb dq_Md_normal_296 (lx_at hl 2 rfl) ?_
    refine lv_iload_n hx hb dq_Md_normal_298 rfl (lx_at hl 1 rfl) ?_
    refine lv_icmp_ge (tgt := 339) hx hb dq_Md_normal_299 rfl (fun h => ?_) (fun h => ?_)
    · replace hw := hw.1 h
      exact tq_Md_normal_339 hC hw hG hS (lx_sub hl [0, 1] rfl) hcc hss
    · replace hw := hw.2 h
      refine lv_iload hx hb dq_Md_normal_302 (lx_at hl 2 rfl) ?_
      refine lv_bipush (v := (8 : Int32)) hx hb dq_Md_normal_304 rfl ?_
      refine lv_icmp_ge (tgt := 339) hx hb dq_Md_normal_306 rfl (fun h => ?_) (fun h => ?_)
      · replace hw := hw.1 h
        exact tq_Md_normal_339 hC hw hG hS (lx_sub hl [0, 1] rfl) hcc hss
      · replace hw := hw.2 h
        refine lv_aload_n hx hb dq_Md_normal_309 rfl (lx_at hl 0 rfl) ?_
        obtain ⟨t1, hw⟩ := hw
        refine wo_getR hC fq_Md_44 rfl hG t1 dq_Md_normal_310 (fun r2 e3 => ?_)
        replace hw := hw r2 e3
        refine lv_bipush (v := (8 : Int32)) hx hb dq_Md_normal_313 rfl ?_
        refine lv_dup2_11 hx hb dq_Md_normal_315 rfl (lx_cR _) ?_
        obtain ⟨a4, rfl, hw⟩ := hw
        obtain ⟨t5, hw⟩ := hw
        obtain ⟨h6, hw⟩ := hw
        refine wo_lald (j := 9) hC rfl hG t5 h6 dq_Md_normal_316 ?_
        refine lv_aload_n hx hb dq_Md_normal_317 rfl (lx_at hl 0 rfl) ?_
        refine wo_getR hC fq_Md_66 rfl hG t1 dq_Md_normal_318 (fun r7 e8 => ?_)
        replace hw := hw r7 e8
        refine lv_iload hx hb dq_Md_normal_321 (lx_at hl 2 rfl) ?_
        obtain ⟨a9, rfl, hw⟩ := hw
        obtain ⟨t10, hw⟩ := hw
        obtain ⟨h11, hw⟩ := hw
        refine wo_iald (j := 2) hC rfl hG t10 h11 dq_Md_normal_323 ?_
        refine lv_i2l (v := (wo_ei G a9 x5.toNatClampNeg).toInt64) hx hb dq_Md_normal_324 rfl ?_
        refine lv_bipush (v := (8 : Int32)) hx hb dq_Md_normal_325 rfl ?_
        refine lv_iload hx hb dq_Md_normal_327 (lx_at hl 2 rfl) ?_
        refine lv_imul hx hb dq_Md_normal_329 ?_
        refine lv_lshl hx hb dq_Md_normal_330 rfl ?_
        refine lv_lor hx hb dq_Md_normal_331 ?_
        obtain ⟨h12, hw⟩ := hw
        obtain ⟨h13, hw⟩ := hw
        refine wo_last (j := 9) hC rfl hG hS t5 h12 h13 dq_Md_normal_332 (fun G14 H locs e15 hG hS => ?_)
        replace hw := hw G14 e15
        refine lx_iinc (k := 2) (v := (x5 + (1 : Int32))) (lv' := [(5, 1, .int (x5 + (1 : Int32))), (0, 1, .ref x0), (3, 1, .int x3)]) hx hb dq_Md_normal_333 hl rfl rfl (by decide) rfl (fun ls hl' => ?_)
        clear hl
        have hl := hl'
        clear hl'
        refine lv_goto (tgt := 296) hx hb dq_Md_normal_336 rfl ?_
        exact ih hw hG hS (lx_sub hl [1, 2, 0] rfl) hcc hss
set_option maxRecDepth 100000 in
set_option maxHeartbeats 4000000 in
theorem tq_Md_normal_257 {p : Program} {l : Launch} {e : Env} {R : Room} {s₀ : State} {m : MethodId} {args : Array Value} {below : List Frame} {meth : Method} {cd : Code} {E : wo_E} {mc ms : Nat} {Post : Int32 → wo_W → Prop} (hC : wo_Cx E "EdgeCacheModel" prog_14_method_11_code 9 0 0 ((Option.some Jvm.ClassFile.FieldType.int)) "normal" mc ms p R s₀ m args meth cd) : ∀ n : Nat, ∀ {G : wo_W} {c s : Nat} {x0 : Nat} {x1 : Int32} {x3 : Int32} {x5 : Int32}, pq_Md_normal_257 E mc ms Post n G c s x0 x1 x3 x5 → ∀ {H : Heap} {locs : List Loc} {ls : Array Slot}, wo_Se E G H → va_S (en_A E) s₀.heap H locs → lx_has ls 9 [(0, 1, .ref x0), (1, 1, .int x1), (3, 1, .int x3), (5, 1, .int x5)] → c ≤ mc → s ≤ ms → W p l e R s₀ m args below meth cd H locs c s (MQ below (va_Qi Post (wo_B E) (en_A E)) args s₀ mc ms (en_A E)) (F0 m 257 ls []) := by
  intro n
  induction n with
  | zero => intro G c s x0 x1 x3 x5 hw; exact hw.elim
  | succ n ih =>
    intro G c s x0 x1 x3 x5 hw H locs ls hG hS hl hcc hss
    dsimp only [pq_Md_normal_257] at hw
    have hx := hC.1
    have hb := hC.2.1
    refine lv_iload hx hb dq_Md_normal_257 (lx_at hl 3 rfl) ?_
    refine lv_iload_n hx hb dq_Md_normal_259 rfl (lx_at hl 1 rfl) ?_
    refine lv_icmp_ge (tgt := 285) hx hb dq_Md_normal_260 rfl (fun h => ?_) (fun h => ?_)
    · replace hw := hw.1 h
      refine lv_aload_n hx hb dq_Md_normal_285 rfl (lx_at hl 0 rfl) ?_
      obtain ⟨t1, hw⟩ := hw
      refine wo_getR hC fq_Md_44 rfl hG t1 dq_Md_normal_286 (fun r2 e3 => ?_)
      replace hw := hw r2 e3
      refine lv_bipush (v := (8 : Int32)) hx hb dq_Md_normal_289 rfl ?_
      refine lv_lconst (v := (0 : Int64)) hx hb dq_Md_normal_291 rfl ?_
      obtain ⟨a4, rfl, hw⟩ := hw
      obtain ⟨t5, hw⟩ := hw
      obtain ⟨h6, hw⟩ := hw
      obtain ⟨h7, hw⟩ := hw
      refine wo_last (j := 9) hC rfl hG hS t5 h6 h7 dq_Md_normal_292 (fun G8 H locs e9 hG hS => ?_)
      replace hw := hw G8 e9
      refine lv_iconst (v := (0 : Int32)) hx hb dq_Md_normal_293 rfl ?_
      refine lx_istore (lv' := [(5, 1, .int (0 : Int32)), (0, 1, .ref x0), (1, 1, .int x1), (3, 1, .int x3)]) hx hb dq_Md_normal_294 hl (by decide) rfl (fun ls hl' => ?_)
      clear hl
      have hl := hl'
      clear hl'
      obtain ⟨n1, hw⟩ := hw
      exact tq_Md_normal_296 hC n1 hw hG hS (lx_sub hl [1, 3, 0] rfl) hcc hss
    · replace hw := hw.2 h
      refine lv_aload_n hx hb dq_Md_normal_263 rfl (lx_at hl 0 rfl) ?_
      obtain ⟨t10, hw⟩ := hw
      refine wo_getR hC fq_Md_66 rfl hG t10 dq_Md_normal_264 (fun r11 e12 => ?_)
      replace hw := hw r11 e12
      refine lv_iload_n hx hb dq_Md_normal_267 rfl (lx_at hl 2 rfl) ?_
      refine lv_aload_n hx hb dq_Md_normal_268 rfl (lx_at hl 0 rfl) ?_
      refine wo_getR hC fq_Md_63 rfl hG t10 dq_Md_normal_269 (fun r13 e14 => ?_)
      replace hw := hw r13 e14
      refine lv_iload hx hb dq_Md_normal_272 (lx_at hl 3 rfl) ?_
      obtain ⟨a15, rfl, hw⟩ := hw
      obtain ⟨t16, hw⟩ := hw
      obtain ⟨h17, hw⟩ := hw
      refine wo_iald (j := 2) hC rfl hG t16 h17 dq_Md_normal_274 ?_
      obtain ⟨a18, rfl, hw⟩ := hw
      obtain ⟨t19, hw⟩ := hw
      obtain ⟨h20, hw⟩ := hw
      obtain ⟨h21, hw⟩ := hw
      refine wo_iast (j := 2) hC rfl hG hS t19 h20 h21 dq_Md_normal_275 (fun G22 H locs e23 hG hS => ?_)
      replace hw := hw G22 e23
      refine lx_iinc (k := 2) (v := (x3 + (1 : Int32))) (lv' := [(3, 1, .int (x3 + (1 : Int32))), (0, 1, .ref x0), (1, 1, .int x1), (5, 1, .int x5)]) hx hb dq_Md_normal_276 hl rfl rfl (by decide) rfl (fun ls hl' => ?_)
      clear hl
      have hl := hl'
      clear hl'
      refine lx_iinc (k := 3) (v := (x5 + (1 : Int32))) (lv' := [(5, 1, .int (x5 + (1 : Int32))), (3, 1, .int (x3 + (1 : Int32))), (0, 1, .ref x0), (1, 1, .int x1)]) hx hb dq_Md_normal_279 hl rfl rfl (by decide) rfl (fun ls hl' => ?_)
      clear hl
      have hl := hl'
      clear hl'
      refine lv_goto (tgt := 257) hx hb dq_Md_normal_282 rfl ?_
      exact ih hw hG hS (lx_sub hl [2, 3, 1, 0] rfl) hcc hss
set_option maxRecDepth 100000 in
set_option maxHeartbeats 4000000 in
theorem tq_Md_normal_247 {p : Program} {l : Launch} {e : Env} {R : Room} {s₀ : State} {m : MethodId} {args : Array Value} {below : List Frame} {meth : Method} {cd : Code} {E : wo_E} {mc ms : Nat} {Post : Int32 → wo_W → Prop} {k38 : wo_W → Nat → Nat → Nat → Int32 → Int32 → Int32 → Int32 → Prop} (hC : wo_Cx E "EdgeCacheModel" prog_14_method_11_code 9 0 0 ((Option.some Jvm.ClassFile.FieldType.int)) "normal" mc ms p R s₀ m args meth cd) (hk38 : ∀ {G : wo_W} {c s : Nat} {x0 : Nat} {x1 : Int32} {x2 : Int32} {x3 : Int32} {x4 : Int32}, k38 G c s x0 x1 x2 x3 x4 → ∀ {H : Heap} {locs : List Loc} {ls : Array Slot}, wo_Se E G H → va_S (en_A E) s₀.heap H locs → lx_has ls 9 [(0, 1, .ref x0), (1, 1, .int x1), (2, 1, .int x2), (3, 1, .int x3), (4, 1, .int x4)] → c ≤ mc → s ≤ ms → W p l e R s₀ m args below meth cd H locs c s (MQ below (va_Qi Post (wo_B E) (en_A E)) args s₀ mc ms (en_A E)) (F0 m 38 ls [])) : ∀ {G : wo_W} {c s : Nat} {x0 : Nat} {x1 : Int32} {x2 : Int32} {x3 : Int32} {x5 : Int32}, pq_Md_normal_247 E mc ms Post k38 G c s x0 x1 x2 x3 x5 → ∀ {H : Heap} {locs : List Loc} {ls : Array Slot}, wo_Se E G H → va_S (en_A E) s₀.heap H locs → lx_has ls 9 [(0, 1, .ref x0), (1, 1, .int x1), (2, 1, .int x2), (3, 1, .int x3), (5, 1, .int x5)] → c ≤ mc → s ≤ ms → W p l e R s₀ m args below meth cd H locs c s (MQ below (va_Qi Post (wo_B E) (en_A E)) args s₀ mc ms (en_A E)) (F0 m 247 ls []) := by
  intro G c s x0 x1 x2 x3 x5 hw H locs ls hG hS hl hcc hss
  dsimp only [pq_Md_normal_247] at hw
  have hx := hC.1
  have hb := hC.2.1
  refine lv_iload hx hb dq_Md_normal_247 (lx_at hl 4 rfl) ?_
  refine lx_istore (lv' := [(4, 1, .int x5), (0, 1, .ref x0), (1, 1, .int x1), (2, 1, .int x2), (3, 1, .int x3), (5, 1, .int x5)]) hx hb dq_Md_normal_249 hl (by decide) rfl (fun ls hl' => ?_)
  clear hl
  have hl := hl'
  clear hl'
  refine lv_goto (tgt := 38) hx hb dq_Md_normal_251 rfl ?_
  exact hk38 hw hG hS (lx_sub hl [1, 2, 3, 4, 0] rfl) hcc hss
set_option maxRecDepth 100000 in
set_option maxHeartbeats 4000000 in
theorem tq_Md_normal_236 {p : Program} {l : Launch} {e : Env} {R : Room} {s₀ : State} {m : MethodId} {args : Array Value} {below : List Frame} {meth : Method} {cd : Code} {E : wo_E} {mc ms : Nat} {Post : Int32 → wo_W → Prop} {k38 : wo_W → Nat → Nat → Nat → Int32 → Int32 → Int32 → Int32 → Prop} (hC : wo_Cx E "EdgeCacheModel" prog_14_method_11_code 9 0 0 ((Option.some Jvm.ClassFile.FieldType.int)) "normal" mc ms p R s₀ m args meth cd) (hk38 : ∀ {G : wo_W} {c s : Nat} {x0 : Nat} {x1 : Int32} {x2 : Int32} {x3 : Int32} {x4 : Int32}, k38 G c s x0 x1 x2 x3 x4 → ∀ {H : Heap} {locs : List Loc} {ls : Array Slot}, wo_Se E G H → va_S (en_A E) s₀.heap H locs → lx_has ls 9 [(0, 1, .ref x0), (1, 1, .int x1), (2, 1, .int x2), (3, 1, .int x3), (4, 1, .int x4)] → c ≤ mc → s ≤ ms → W p l e R s₀ m args below meth cd H locs c s (MQ below (va_Qi Post (wo_B E) (en_A E)) args s₀ mc ms (en_A E)) (F0 m 38 ls [])) : ∀ {G : wo_W} {c s : Nat} {x0 : Nat} {x1 : Int32} {x2 : Int32} {x3 : Int32} {x5 : Int32}, pq_Md_normal_236 E mc ms Post k38 G c s x0 x1 x2 x3 x5 → ∀ {H : Heap} {locs : List Loc} {ls : Array Slot}, wo_Se E G H → va_S (en_A E) s₀.heap H locs → lx_has ls 9 [(0, 1, .ref x0), (1, 1, .int x1), (2, 1, .int x2), (3, 1, .int x3), (5, 1, .int x5)] → c ≤ mc → s ≤ ms → W p l e R s₀ m args below meth cd H locs c s (MQ below (va_Qi Post (wo_B E) (en_A E)) args s₀ mc ms (en_A E)) (F0 m 236 ls []) := by
  intro G c s x0 x1 x2 x3 x5 hw H locs ls hG hS hl hcc hss
  dsimp only [pq_Md_normal_236] at hw
  have hx := hC.1
  have hb := hC.2.1
  refine lv_aload_n hx hb dq_Md_normal_236 rfl (lx_at hl 0 rfl) ?_
  obtain ⟨t1, hw⟩ := hw
  refine wo_getR hC fq_Md_66 rfl hG t1 dq_Md_normal_237 (fun r2 e3 => ?_)
  replace hw := hw r2 e3
  refine lv_iload_n hx hb dq_Md_normal_240 rfl (lx_at hl 3 rfl) ?_
  refine lv_bipush (v := (47 : Int32)) hx hb dq_Md_normal_241 rfl ?_
  obtain ⟨a4, rfl, hw⟩ := hw
  obtain ⟨t5, hw⟩ := hw
  obtain ⟨h6, hw⟩ := hw
  obtain ⟨h7, hw⟩ := hw
  refine wo_iast (j := 2) hC rfl hG hS t5 h6 h7 dq_Md_normal_243 (fun G8 H locs e9 hG hS => ?_)
  replace hw := hw G8 e9
  refine lx_iinc (k := 3) (v := (x3 + (1 : Int32))) (lv' := [(3, 1, .int (x3 + (1 : Int32))), (0, 1, .ref x0), (1, 1, .int x1), (2, 1, .int x2), (5, 1, .int x5)]) hx hb dq_Md_normal_244 hl rfl rfl (by decide) rfl (fun ls hl' => ?_)
  clear hl
  have hl := hl'
  clear hl'
  exact tq_Md_normal_247 hC hk38 hw hG hS (lx_sub hl [1, 2, 3, 0, 4] rfl) hcc hss
set_option maxRecDepth 100000 in
set_option maxHeartbeats 4000000 in
theorem tq_Md_normal_220 {p : Program} {l : Launch} {e : Env} {R : Room} {s₀ : State} {m : MethodId} {args : Array Value} {below : List Frame} {meth : Method} {cd : Code} {E : wo_E} {mc ms : Nat} {Post : Int32 → wo_W → Prop} {k38 : wo_W → Nat → Nat → Nat → Int32 → Int32 → Int32 → Int32 → Prop} (hC : wo_Cx E "EdgeCacheModel" prog_14_method_11_code 9 0 0 ((Option.some Jvm.ClassFile.FieldType.int)) "normal" mc ms p R s₀ m args meth cd) (hk38 : ∀ {G : wo_W} {c s : Nat} {x0 : Nat} {x1 : Int32} {x2 : Int32} {x3 : Int32} {x4 : Int32}, k38 G c s x0 x1 x2 x3 x4 → ∀ {H : Heap} {locs : List Loc} {ls : Array Slot}, wo_Se E G H → va_S (en_A E) s₀.heap H locs → lx_has ls 9 [(0, 1, .ref x0), (1, 1, .int x1), (2, 1, .int x2), (3, 1, .int x3), (4, 1, .int x4)] → c ≤ mc → s ≤ ms → W p l e R s₀ m args below meth cd H locs c s (MQ below (va_Qi Post (wo_B E) (en_A E)) args s₀ mc ms (en_A E)) (F0 m 38 ls [])) : ∀ {G : wo_W} {c s : Nat} {x0 : Nat} {x1 : Int32} {x2 : Int32} {x3 : Int32} {x5 : Int32} {x6 : Int32} {x7 : Int32}, pq_Md_normal_220 E mc ms Post k38 G c s x0 x1 x2 x3 x5 x6 x7 → ∀ {H : Heap} {locs : List Loc} {ls : Array Slot}, wo_Se E G H → va_S (en_A E) s₀.heap H locs → lx_has ls 9 [(0, 1, .ref x0), (1, 1, .int x1), (2, 1, .int x2), (3, 1, .int x3), (5, 1, .int x5), (6, 1, .int x6), (7, 1, .int x7)] → c ≤ mc → s ≤ ms → W p l e R s₀ m args below meth cd H locs c s (MQ below (va_Qi Post (wo_B E) (en_A E)) args s₀ mc ms (en_A E)) (F0 m 220 ls []) := by
  intro G c s x0 x1 x2 x3 x5 x6 x7 hw H locs ls hG hS hl hcc hss
  dsimp only [pq_Md_normal_220] at hw
  have hx := hC.1
  have hb := hC.2.1
  refine lv_iload hx hb dq_Md_normal_220 (lx_at hl 4 rfl) ?_
  refine lv_iload_n hx hb dq_Md_normal_222 rfl (lx_at hl 2 rfl) ?_
  refine lv_icmp_ne (tgt := 247) hx hb dq_Md_normal_223 rfl (fun h => ?_) (fun h => ?_)
  · replace hw := hw.1 h
    exact tq_Md_normal_247 hC hk38 hw hG hS (lx_sub hl [0, 1, 2, 3, 4] rfl) hcc hss
  · replace hw := hw.2 h
    refine lv_iload hx hb dq_Md_normal_226 (lx_at hl 5 rfl) ?_
    refine lv_if_ne (tgt := 236) hx hb dq_Md_normal_228 rfl (fun h => ?_) (fun h => ?_)
    · replace hw := hw.1 h
      exact tq_Md_normal_236 hC hk38 hw hG hS (lx_sub hl [0, 1, 2, 3, 4] rfl) hcc hss
    · replace hw := hw.2 h
      refine lv_iload hx hb dq_Md_normal_231 (lx_at hl 6 rfl) ?_
      refine lv_if_eq (tgt := 247) hx hb dq_Md_normal_233 rfl (fun h => ?_) (fun h => ?_)
      · replace hw := hw.1 h
        exact tq_Md_normal_247 hC hk38 hw hG hS (lx_sub hl [0, 1, 2, 3, 4] rfl) hcc hss
      · replace hw := hw.2 h
        exact tq_Md_normal_236 hC hk38 hw hG hS (lx_sub hl [0, 1, 2, 3, 4] rfl) hcc hss
set_option maxRecDepth 100000 in
set_option maxHeartbeats 4000000 in
theorem tq_Md_normal_181 {p : Program} {l : Launch} {e : Env} {R : Room} {s₀ : State} {m : MethodId} {args : Array Value} {below : List Frame} {meth : Method} {cd : Code} {E : wo_E} {mc ms : Nat} {Post : Int32 → wo_W → Prop} {k38 : wo_W → Nat → Nat → Nat → Int32 → Int32 → Int32 → Int32 → Prop} (hC : wo_Cx E "EdgeCacheModel" prog_14_method_11_code 9 0 0 ((Option.some Jvm.ClassFile.FieldType.int)) "normal" mc ms p R s₀ m args meth cd) (hk38 : ∀ {G : wo_W} {c s : Nat} {x0 : Nat} {x1 : Int32} {x2 : Int32} {x3 : Int32} {x4 : Int32}, k38 G c s x0 x1 x2 x3 x4 → ∀ {H : Heap} {locs : List Loc} {ls : Array Slot}, wo_Se E G H → va_S (en_A E) s₀.heap H locs → lx_has ls 9 [(0, 1, .ref x0), (1, 1, .int x1), (2, 1, .int x2), (3, 1, .int x3), (4, 1, .int x4)] → c ≤ mc → s ≤ ms → W p l e R s₀ m args below meth cd H locs c s (MQ below (va_Qi Post (wo_B E) (en_A E)) args s₀ mc ms (en_A E)) (F0 m 38 ls [])) : ∀ n : Nat, ∀ {G : wo_W} {c s : Nat} {x0 : Nat} {x1 : Int32} {x2 : Int32} {x3 : Int32} {x5 : Int32} {x6 : Int32} {x7 : Int32} {x8 : Int32}, pq_Md_normal_181 E mc ms Post k38 n G c s x0 x1 x2 x3 x5 x6 x7 x8 → ∀ {H : Heap} {locs : List Loc} {ls : Array Slot}, wo_Se E G H → va_S (en_A E) s₀.heap H locs → lx_has ls 9 [(0, 1, .ref x0), (1, 1, .int x1), (2, 1, .int x2), (3, 1, .int x3), (5, 1, .int x5), (6, 1, .int x6), (7, 1, .int x7), (8, 1, .int x8)] → c ≤ mc → s ≤ ms → W p l e R s₀ m args below meth cd H locs c s (MQ below (va_Qi Post (wo_B E) (en_A E)) args s₀ mc ms (en_A E)) (F0 m 181 ls []) := by
  intro n
  induction n with
  | zero => intro G c s x0 x1 x2 x3 x5 x6 x7 x8 hw; exact hw.elim
  | succ n ih =>
    intro G c s x0 x1 x2 x3 x5 x6 x7 x8 hw H locs ls hG hS hl hcc hss
    dsimp only [pq_Md_normal_181] at hw
    have hx := hC.1
    have hb := hC.2.1
    refine lv_iload hx hb dq_Md_normal_181 (lx_at hl 7 rfl) ?_
    refine lv_iload hx hb dq_Md_normal_183 (lx_at hl 4 rfl) ?_
    refine lv_icmp_ge (tgt := 220) hx hb dq_Md_normal_185 rfl (fun h => ?_) (fun h => ?_)
    · replace hw := hw.1 h
      exact tq_Md_normal_220 hC hk38 hw hG hS (lx_sub hl [0, 1, 2, 3, 4, 5, 6] rfl) hcc hss
    · replace hw := hw.2 h
      refine lv_iload hx hb dq_Md_normal_188 (lx_at hl 5 rfl) ?_
      refine lv_if_ne (tgt := 220) hx hb dq_Md_normal_190 rfl (fun h => ?_) (fun h => ?_)
      · replace hw := hw.1 h
        exact tq_Md_normal_220 hC hk38 hw hG hS (lx_sub hl [0, 1, 2, 3, 4, 5, 6] rfl) hcc hss
      · replace hw := hw.2 h
        refine lv_iload hx hb dq_Md_normal_193 (lx_at hl 6 rfl) ?_
        refine lv_if_ne (tgt := 220) hx hb dq_Md_normal_195 rfl (fun h => ?_) (fun h => ?_)
        · replace hw := hw.1 h
          exact tq_Md_normal_220 hC hk38 hw hG hS (lx_sub hl [0, 1, 2, 3, 4, 5, 6] rfl) hcc hss
        · replace hw := hw.2 h
          refine lv_aload_n hx hb dq_Md_normal_198 rfl (lx_at hl 0 rfl) ?_
          obtain ⟨t1, hw⟩ := hw
          refine wo_getR hC fq_Md_66 rfl hG t1 dq_Md_normal_199 (fun r2 e3 => ?_)
          replace hw := hw r2 e3
          refine lv_iload_n hx hb dq_Md_normal_202 rfl (lx_at hl 3 rfl) ?_
          refine lv_aload_n hx hb dq_Md_normal_203 rfl (lx_at hl 0 rfl) ?_
          refine wo_getR hC fq_Md_63 rfl hG t1 dq_Md_normal_204 (fun r4 e5 => ?_)
          replace hw := hw r4 e5
          refine lv_iload hx hb dq_Md_normal_207 (lx_at hl 7 rfl) ?_
          obtain ⟨a6, rfl, hw⟩ := hw
          obtain ⟨t7, hw⟩ := hw
          obtain ⟨h8, hw⟩ := hw
          refine wo_iald (j := 2) hC rfl hG t7 h8 dq_Md_normal_209 ?_
          obtain ⟨a9, rfl, hw⟩ := hw
          obtain ⟨t10, hw⟩ := hw
          obtain ⟨h11, hw⟩ := hw
          obtain ⟨h12, hw⟩ := hw
          refine wo_iast (j := 2) hC rfl hG hS t10 h11 h12 dq_Md_normal_210 (fun G13 H locs e14 hG hS => ?_)
          replace hw := hw G13 e14
          refine lx_iinc (k := 3) (v := (x3 + (1 : Int32))) (lv' := [(3, 1, .int (x3 + (1 : Int32))), (0, 1, .ref x0), (1, 1, .int x1), (2, 1, .int x2), (5, 1, .int x5), (6, 1, .int x6), (7, 1, .int x7), (8, 1, .int x8)]) hx hb dq_Md_normal_211 hl rfl rfl (by decide) rfl (fun ls hl' => ?_)
          clear hl
          have hl := hl'
          clear hl'
          refine lx_iinc (k := 7) (v := (x8 + (1 : Int32))) (lv' := [(8, 1, .int (x8 + (1 : Int32))), (3, 1, .int (x3 + (1 : Int32))), (0, 1, .ref x0), (1, 1, .int x1), (2, 1, .int x2), (5, 1, .int x5), (6, 1, .int x6), (7, 1, .int x7)]) hx hb dq_Md_normal_214 hl rfl rfl (by decide) rfl (fun ls hl' => ?_)
          clear hl
          have hl := hl'
          clear hl'
          refine lv_goto (tgt := 181) hx hb dq_Md_normal_217 rfl ?_
          exact ih hw hG hS (lx_sub hl [2, 3, 4, 1, 5, 6, 7, 0] rfl) hcc hss
set_option maxRecDepth 100000 in
set_option maxHeartbeats 4000000 in
theorem tq_Md_normal_177 {p : Program} {l : Launch} {e : Env} {R : Room} {s₀ : State} {m : MethodId} {args : Array Value} {below : List Frame} {meth : Method} {cd : Code} {E : wo_E} {mc ms : Nat} {Post : Int32 → wo_W → Prop} {k38 : wo_W → Nat → Nat → Nat → Int32 → Int32 → Int32 → Int32 → Prop} (hC : wo_Cx E "EdgeCacheModel" prog_14_method_11_code 9 0 0 ((Option.some Jvm.ClassFile.FieldType.int)) "normal" mc ms p R s₀ m args meth cd) (hk38 : ∀ {G : wo_W} {c s : Nat} {x0 : Nat} {x1 : Int32} {x2 : Int32} {x3 : Int32} {x4 : Int32}, k38 G c s x0 x1 x2 x3 x4 → ∀ {H : Heap} {locs : List Loc} {ls : Array Slot}, wo_Se E G H → va_S (en_A E) s₀.heap H locs → lx_has ls 9 [(0, 1, .ref x0), (1, 1, .int x1), (2, 1, .int x2), (3, 1, .int x3), (4, 1, .int x4)] → c ≤ mc → s ≤ ms → W p l e R s₀ m args below meth cd H locs c s (MQ below (va_Qi Post (wo_B E) (en_A E)) args s₀ mc ms (en_A E)) (F0 m 38 ls [])) : ∀ {G : wo_W} {c s : Nat} {x0 : Nat} {x1 : Int32} {x2 : Int32} {x3 : Int32} {x4 : Int32} {x5 : Int32} {x6 : Int32} {x7 : Int32}, pq_Md_normal_177 E mc ms Post k38 G c s x0 x1 x2 x3 x4 x5 x6 x7 → ∀ {H : Heap} {locs : List Loc} {ls : Array Slot}, wo_Se E G H → va_S (en_A E) s₀.heap H locs → lx_has ls 9 [(0, 1, .ref x0), (1, 1, .int x1), (2, 1, .int x2), (3, 1, .int x3), (4, 1, .int x4), (5, 1, .int x5), (6, 1, .int x6), (7, 1, .int x7)] → c ≤ mc → s ≤ ms → W p l e R s₀ m args below meth cd H locs c s (MQ below (va_Qi Post (wo_B E) (en_A E)) args s₀ mc ms (en_A E)) (F0 m 177 ls []) := by
  intro G c s x0 x1 x2 x3 x4 x5 x6 x7 hw H locs ls hG hS hl hcc hss
  dsimp only [pq_Md_normal_177] at hw
  have hx := hC.1
  have hb := hC.2.1
  refine lv_iload hx hb dq_Md_normal_177 (lx_at hl 4 rfl) ?_
  refine lx_istore (lv' := [(8, 1, .int x4), (0, 1, .ref x0), (1, 1, .int x1), (2, 1, .int x2), (3, 1, .int x3), (4, 1, .int x4), (5, 1, .int x5), (6, 1, .int x6), (7, 1, .int x7)]) hx hb dq_Md_normal_179 hl (by decide) rfl (fun ls hl' => ?_)
  clear hl
  have hl := hl'
  clear hl'
  obtain ⟨n1, hw⟩ := hw
  exact tq_Md_normal_181 hC hk38 n1 hw hG hS (lx_sub hl [1, 2, 3, 4, 6, 7, 8, 0] rfl) hcc hss
set_option maxRecDepth 100000 in
set_option maxHeartbeats 4000000 in
theorem tq_Md_normal_160 {p : Program} {l : Launch} {e : Env} {R : Room} {s₀ : State} {m : MethodId} {args : Array Value} {below : List Frame} {meth : Method} {cd : Code} {E : wo_E} {mc ms : Nat} {Post : Int32 → wo_W → Prop} {k38 : wo_W → Nat → Nat → Nat → Int32 → Int32 → Int32 → Int32 → Prop} (hC : wo_Cx E "EdgeCacheModel" prog_14_method_11_code 9 0 0 ((Option.some Jvm.ClassFile.FieldType.int)) "normal" mc ms p R s₀ m args meth cd) (hk38 : ∀ {G : wo_W} {c s : Nat} {x0 : Nat} {x1 : Int32} {x2 : Int32} {x3 : Int32} {x4 : Int32}, k38 G c s x0 x1 x2 x3 x4 → ∀ {H : Heap} {locs : List Loc} {ls : Array Slot}, wo_Se E G H → va_S (en_A E) s₀.heap H locs → lx_has ls 9 [(0, 1, .ref x0), (1, 1, .int x1), (2, 1, .int x2), (3, 1, .int x3), (4, 1, .int x4)] → c ≤ mc → s ≤ ms → W p l e R s₀ m args below meth cd H locs c s (MQ below (va_Qi Post (wo_B E) (en_A E)) args s₀ mc ms (en_A E)) (F0 m 38 ls [])) : ∀ n : Nat, ∀ {G : wo_W} {c s : Nat} {x0 : Nat} {x1 : Int32} {x2 : Int32} {x3 : Int32} {x4 : Int32} {x5 : Int32} {x6 : Int32} {x7 : Int32}, pq_Md_normal_160 E mc ms Post k38 n G c s x0 x1 x2 x3 x4 x5 x6 x7 → ∀ {H : Heap} {locs : List Loc} {ls : Array Slot}, wo_Se E G H → va_S (en_A E) s₀.heap H locs → lx_has ls 9 [(0, 1, .ref x0), (1, 1, .int x1), (2, 1, .int x2), (3, 1, .int x3), (4, 1, .int x4), (5, 1, .int x5), (6, 1, .int x6), (7, 1, .int x7)] → c ≤ mc → s ≤ ms → W p l e R s₀ m args below meth cd H locs c s (MQ below (va_Qi Post (wo_B E) (en_A E)) args s₀ mc ms (en_A E)) (F0 m 160 ls []) := by
  intro n
  induction n with
  | zero => intro G c s x0 x1 x2 x3 x4 x5 x6 x7 hw; exact hw.elim
  | succ n ih =>
    intro G c s x0 x1 x2 x3 x4 x5 x6 x7 hw H locs ls hG hS hl hcc hss
    dsimp only [pq_Md_normal_160] at hw
    have hx := hC.1
    have hb := hC.2.1
    refine lv_aload_n hx hb dq_Md_normal_160 rfl (lx_at hl 0 rfl) ?_
    obtain ⟨t1, hw⟩ := hw
    refine wo_getR hC fq_Md_66 rfl hG t1 dq_Md_normal_161 (fun r2 e3 => ?_)
    replace hw := hw r2 e3
    refine lv_iload_n hx hb dq_Md_normal_164 rfl (lx_at hl 3 rfl) ?_
    obtain ⟨a4, rfl, hw⟩ := hw
    obtain ⟨t5, hw⟩ := hw
    obtain ⟨h6, hw⟩ := hw
    refine wo_iald (j := 2) hC rfl hG t5 h6 dq_Md_normal_165 ?_
    refine lv_bipush (v := (47 : Int32)) hx hb dq_Md_normal_166 rfl ?_
    refine lv_icmp_eq (tgt := 177) hx hb dq_Md_normal_168 rfl (fun h => ?_) (fun h => ?_)
    · replace hw := hw.1 h
      exact tq_Md_normal_177 hC hk38 hw hG hS (lx_sub hl [0, 1, 2, 3, 4, 5, 6, 7] rfl) hcc hss
    · replace hw := hw.2 h
      refine lx_iinc (k := 3) (v := (x3 + (-1 : Int32))) (lv' := [(3, 1, .int (x3 + (-1 : Int32))), (0, 1, .ref x0), (1, 1, .int x1), (2, 1, .int x2), (4, 1, .int x4), (5, 1, .int x5), (6, 1, .int x6), (7, 1, .int x7)]) hx hb dq_Md_normal_171 hl rfl rfl (by decide) rfl (fun ls hl' => ?_)
      clear hl
      have hl := hl'
      clear hl'
      refine lv_goto (tgt := 160) hx hb dq_Md_normal_174 rfl ?_
      exact ih hw hG hS (lx_sub hl [1, 2, 3, 0, 4, 5, 6, 7] rfl) hcc hss
set_option maxRecDepth 100000 in
set_option maxHeartbeats 4000000 in
theorem tq_Md_normal_146 {p : Program} {l : Launch} {e : Env} {R : Room} {s₀ : State} {m : MethodId} {args : Array Value} {below : List Frame} {meth : Method} {cd : Code} {E : wo_E} {mc ms : Nat} {Post : Int32 → wo_W → Prop} {k38 : wo_W → Nat → Nat → Nat → Int32 → Int32 → Int32 → Int32 → Prop} (hC : wo_Cx E "EdgeCacheModel" prog_14_method_11_code 9 0 0 ((Option.some Jvm.ClassFile.FieldType.int)) "normal" mc ms p R s₀ m args meth cd) (hk38 : ∀ {G : wo_W} {c s : Nat} {x0 : Nat} {x1 : Int32} {x2 : Int32} {x3 : Int32} {x4 : Int32}, k38 G c s x0 x1 x2 x3 x4 → ∀ {H : Heap} {locs : List Loc} {ls : Array Slot}, wo_Se E G H → va_S (en_A E) s₀.heap H locs → lx_has ls 9 [(0, 1, .ref x0), (1, 1, .int x1), (2, 1, .int x2), (3, 1, .int x3), (4, 1, .int x4)] → c ≤ mc → s ≤ ms → W p l e R s₀ m args below meth cd H locs c s (MQ below (va_Qi Post (wo_B E) (en_A E)) args s₀ mc ms (en_A E)) (F0 m 38 ls [])) : ∀ {G : wo_W} {c s : Nat} {x0 : Nat} {x1 : Int32} {x2 : Int32} {x3 : Int32} {x4 : Int32} {x5 : Int32} {x6 : Int32} {y0 : Int32}, pq_Md_normal_146 E mc ms Post k38 G c s x0 x1 x2 x3 x4 x5 x6 y0 → ∀ {H : Heap} {locs : List Loc} {ls : Array Slot}, wo_Se E G H → va_S (en_A E) s₀.heap H locs → lx_has ls 9 [(0, 1, .ref x0), (1, 1, .int x1), (2, 1, .int x2), (3, 1, .int x3), (4, 1, .int x4), (5, 1, .int x5), (6, 1, .int x6)] → c ≤ mc → s ≤ ms → W p l e R s₀ m args below meth cd H locs c s (MQ below (va_Qi Post (wo_B E) (en_A E)) args s₀ mc ms (en_A E)) (F0 m 146 ls [.int y0]) := by
  intro G c s x0 x1 x2 x3 x4 x5 x6 y0 hw H locs ls hG hS hl hcc hss
  dsimp only [pq_Md_normal_146] at hw
  have hx := hC.1
  have hb := hC.2.1
  refine lx_istore (lv' := [(7, 1, .int y0), (0, 1, .ref x0), (1, 1, .int x1), (2, 1, .int x2), (3, 1, .int x3), (4, 1, .int x4), (5, 1, .int x5), (6, 1, .int x6)]) hx hb dq_Md_normal_146 hl (by decide) rfl (fun ls hl' => ?_)
  clear hl
  have hl := hl'
  clear hl'
  refine lv_iload hx hb dq_Md_normal_148 (lx_at hl 0 rfl) ?_
  refine lv_if_eq (tgt := 177) hx hb dq_Md_normal_150 rfl (fun h => ?_) (fun h => ?_)
  · replace hw := hw.1 h
    exact tq_Md_normal_177 hC hk38 hw hG hS (lx_sub hl [1, 2, 3, 4, 5, 6, 7, 0] rfl) hcc hss
  · replace hw := hw.2 h
    refine lv_iload_n hx hb dq_Md_normal_153 rfl (lx_at hl 4 rfl) ?_
    refine lv_if_le (tgt := 177) hx hb dq_Md_normal_154 rfl (fun h => ?_) (fun h => ?_)
    · replace hw := hw.1 h
      exact tq_Md_normal_177 hC hk38 hw hG hS (lx_sub hl [1, 2, 3, 4, 5, 6, 7, 0] rfl) hcc hss
    · replace hw := hw.2 h
      refine lx_iinc (k := 4) (v := (x3 + (-1 : Int32))) (lv' := [(3, 1, .int (x3 + (-1 : Int32))), (7, 1, .int y0), (0, 1, .ref x0), (1, 1, .int x1), (2, 1, .int x2), (4, 1, .int x4), (5, 1, .int x5), (6, 1, .int x6)]) hx hb dq_Md_normal_157 hl rfl rfl (by decide) rfl (fun ls hl' => ?_)
      clear hl
      have hl := hl'
      clear hl'
      obtain ⟨n1, hw⟩ := hw
      exact tq_Md_normal_160 hC hk38 n1 hw hG hS (lx_sub hl [2, 3, 4, 0, 5, 6, 7, 1] rfl) hcc hss
set_option maxRecDepth 100000 in
set_option maxHeartbeats 4000000 in
theorem tq_Md_normal_145 {p : Program} {l : Launch} {e : Env} {R : Room} {s₀ : State} {m : MethodId} {args : Array Value} {below : List Frame} {meth : Method} {cd : Code} {E : wo_E} {mc ms : Nat} {Post : Int32 → wo_W → Prop} {k38 : wo_W → Nat → Nat → Nat → Int32 → Int32 → Int32 → Int32 → Prop} (hC : wo_Cx E "EdgeCacheModel" prog_14_method_11_code 9 0 0 ((Option.some Jvm.ClassFile.FieldType.int)) "normal" mc ms p R s₀ m args meth cd) (hk38 : ∀ {G : wo_W} {c s : Nat} {x0 : Nat} {x1 : Int32} {x2 : Int32} {x3 : Int32} {x4 : Int32}, k38 G c s x0 x1 x2 x3 x4 → ∀ {H : Heap} {locs : List Loc} {ls : Array Slot}, wo_Se E G H → va_S (en_A E) s₀.heap H locs → lx_has ls 9 [(0, 1, .ref x0), (1, 1, .int x1), (2, 1, .int x2), (3, 1, .int x3), (4, 1, .int x4)] → c ≤ mc → s ≤ ms → W p l e R s₀ m args below meth cd H locs c s (MQ below (va_Qi Post (wo_B E) (en_A E)) args s₀ mc ms (en_A E)) (F0 m 38 ls [])) : ∀ {G : wo_W} {c s : Nat} {x0 : Nat} {x1 : Int32} {x2 : Int32} {x3 : Int32} {x4 : Int32} {x5 : Int32} {x6 : Int32}, pq_Md_normal_145 E mc ms Post k38 G c s x0 x1 x2 x3 x4 x5 x6 → ∀ {H : Heap} {locs : List Loc} {ls : Array Slot}, wo_Se E G H → va_S (en_A E) s₀.heap H locs → lx_has ls 9 [(0, 1, .ref x0), (1, 1, .int x1), (2, 1, .int x2), (3, 1, .int x3), (4, 1, .int x4), (5, 1, .int x5), (6, 1, .int x6)] → c ≤ mc → s ≤ ms → W p l e R s₀ m args below meth cd H locs c s (MQ below (va_Qi Post (wo_B E) (en_A E)) args s₀ mc ms (en_A E)) (F0 m 145 ls []) := by
  intro G c s x0 x1 x2 x3 x4 x5 x6 hw H locs ls hG hS hl hcc hss
  dsimp only [pq_Md_normal_145] at hw
  have hx := hC.1
  have hb := hC.2.1
  refine lv_iconst (v := (0 : Int32)) hx hb dq_Md_normal_145 rfl ?_
  exact tq_Md_normal_146 hC hk38 hw hG hS (lx_sub hl [0, 1, 2, 3, 4, 5, 6] rfl) hcc hss
set_option maxRecDepth 100000 in
set_option maxHeartbeats 4000000 in
theorem tq_Md_normal_102 {p : Program} {l : Launch} {e : Env} {R : Room} {s₀ : State} {m : MethodId} {args : Array Value} {below : List Frame} {meth : Method} {cd : Code} {E : wo_E} {mc ms : Nat} {Post : Int32 → wo_W → Prop} {k38 : wo_W → Nat → Nat → Nat → Int32 → Int32 → Int32 → Int32 → Prop} (hC : wo_Cx E "EdgeCacheModel" prog_14_method_11_code 9 0 0 ((Option.some Jvm.ClassFile.FieldType.int)) "normal" mc ms p R s₀ m args meth cd) (hk38 : ∀ {G : wo_W} {c s : Nat} {x0 : Nat} {x1 : Int32} {x2 : Int32} {x3 : Int32} {x4 : Int32}, k38 G c s x0 x1 x2 x3 x4 → ∀ {H : Heap} {locs : List Loc} {ls : Array Slot}, wo_Se E G H → va_S (en_A E) s₀.heap H locs → lx_has ls 9 [(0, 1, .ref x0), (1, 1, .int x1), (2, 1, .int x2), (3, 1, .int x3), (4, 1, .int x4)] → c ≤ mc → s ≤ ms → W p l e R s₀ m args below meth cd H locs c s (MQ below (va_Qi Post (wo_B E) (en_A E)) args s₀ mc ms (en_A E)) (F0 m 38 ls [])) : ∀ {G : wo_W} {c s : Nat} {x0 : Nat} {x1 : Int32} {x2 : Int32} {x3 : Int32} {x4 : Int32} {x5 : Int32} {y0 : Int32}, pq_Md_normal_102 E mc ms Post k38 G c s x0 x1 x2 x3 x4 x5 y0 → ∀ {H : Heap} {locs : List Loc} {ls : Array Slot}, wo_Se E G H → va_S (en_A E) s₀.heap H locs → lx_has ls 9 [(0, 1, .ref x0), (1, 1, .int x1), (2, 1, .int x2), (3, 1, .int x3), (4, 1, .int x4), (5, 1, .int x5)] → c ≤ mc → s ≤ ms → W p l e R s₀ m args below meth cd H locs c s (MQ below (va_Qi Post (wo_B E) (en_A E)) args s₀ mc ms (en_A E)) (F0 m 102 ls [.int y0]) := by
  intro G c s x0 x1 x2 x3 x4 x5 y0 hw H locs ls hG hS hl hcc hss
  dsimp only [pq_Md_normal_102] at hw
  have hx := hC.1
  have hb := hC.2.1
  refine lx_istore (lv' := [(6, 1, .int y0), (0, 1, .ref x0), (1, 1, .int x1), (2, 1, .int x2), (3, 1, .int x3), (4, 1, .int x4), (5, 1, .int x5)]) hx hb dq_Md_normal_102 hl (by decide) rfl (fun ls hl' => ?_)
  clear hl
  have hl := hl'
  clear hl'
  refine lv_iload hx hb dq_Md_normal_104 (lx_at hl 6 rfl) ?_
  refine lv_iload hx hb dq_Md_normal_106 (lx_at hl 5 rfl) ?_
  refine lv_isub hx hb dq_Md_normal_108 ?_
  refine lv_iconst (v := (3 : Int32)) hx hb dq_Md_normal_109 rfl ?_
  refine lv_icmp_ne (tgt := 145) hx hb dq_Md_normal_110 rfl (fun h => ?_) (fun h => ?_)
  · replace hw := hw.1 h
    exact tq_Md_normal_145 hC hk38 hw hG hS (lx_sub hl [1, 2, 3, 4, 5, 6, 0] rfl) hcc hss
  · replace hw := hw.2 h
    refine lv_aload_n hx hb dq_Md_normal_113 rfl (lx_at hl 1 rfl) ?_
    obtain ⟨t1, hw⟩ := hw
    refine wo_getR hC fq_Md_63 rfl hG t1 dq_Md_normal_114 (fun r2 e3 => ?_)
    replace hw := hw r2 e3
    refine lv_iload hx hb dq_Md_normal_117 (lx_at hl 5 rfl) ?_
    refine lv_iconst (v := (1 : Int32)) hx hb dq_Md_normal_119 rfl ?_
    refine lv_iadd hx hb dq_Md_normal_120 ?_
    obtain ⟨a4, rfl, hw⟩ := hw
    obtain ⟨t5, hw⟩ := hw
    obtain ⟨h6, hw⟩ := hw
    refine wo_iald (j := 2) hC rfl hG t5 h6 dq_Md_normal_121 ?_
    refine lv_bipush (v := (46 : Int32)) hx hb dq_Md_normal_122 rfl ?_
    refine lv_icmp_ne (tgt := 145) hx hb dq_Md_normal_124 rfl (fun h => ?_) (fun h => ?_)
    · replace hw := hw.1 h
      exact tq_Md_normal_145 hC hk38 hw hG hS (lx_sub hl [1, 2, 3, 4, 5, 6, 0] rfl) hcc hss
    · replace hw := hw.2 h
      refine lv_aload_n hx hb dq_Md_normal_127 rfl (lx_at hl 1 rfl) ?_
      refine wo_getR hC fq_Md_63 rfl hG t1 dq_Md_normal_128 (fun r7 e8 => ?_)
      replace hw := hw r7 e8
      refine lv_iload hx hb dq_Md_normal_131 (lx_at hl 5 rfl) ?_
      refine lv_iconst (v := (2 : Int32)) hx hb dq_Md_normal_133 rfl ?_
      refine lv_iadd hx hb dq_Md_normal_134 ?_
      obtain ⟨a9, rfl, hw⟩ := hw
      obtain ⟨t10, hw⟩ := hw
      obtain ⟨h11, hw⟩ := hw
      refine wo_iald (j := 2) hC rfl hG t10 h11 dq_Md_normal_135 ?_
      refine lv_bipush (v := (46 : Int32)) hx hb dq_Md_normal_136 rfl ?_
      refine lv_icmp_ne (tgt := 145) hx hb dq_Md_normal_138 rfl (fun h => ?_) (fun h => ?_)
      · replace hw := hw.1 h
        exact tq_Md_normal_145 hC hk38 hw hG hS (lx_sub hl [1, 2, 3, 4, 5, 6, 0] rfl) hcc hss
      · replace hw := hw.2 h
        refine lv_iconst (v := (1 : Int32)) hx hb dq_Md_normal_141 rfl ?_
        refine lv_goto (tgt := 146) hx hb dq_Md_normal_142 rfl ?_
        exact tq_Md_normal_146 hC hk38 hw hG hS (lx_sub hl [1, 2, 3, 4, 5, 6, 0] rfl) hcc hss
set_option maxRecDepth 100000 in
set_option maxHeartbeats 4000000 in
theorem tq_Md_normal_101 {p : Program} {l : Launch} {e : Env} {R : Room} {s₀ : State} {m : MethodId} {args : Array Value} {below : List Frame} {meth : Method} {cd : Code} {E : wo_E} {mc ms : Nat} {Post : Int32 → wo_W → Prop} {k38 : wo_W → Nat → Nat → Nat → Int32 → Int32 → Int32 → Int32 → Prop} (hC : wo_Cx E "EdgeCacheModel" prog_14_method_11_code 9 0 0 ((Option.some Jvm.ClassFile.FieldType.int)) "normal" mc ms p R s₀ m args meth cd) (hk38 : ∀ {G : wo_W} {c s : Nat} {x0 : Nat} {x1 : Int32} {x2 : Int32} {x3 : Int32} {x4 : Int32}, k38 G c s x0 x1 x2 x3 x4 → ∀ {H : Heap} {locs : List Loc} {ls : Array Slot}, wo_Se E G H → va_S (en_A E) s₀.heap H locs → lx_has ls 9 [(0, 1, .ref x0), (1, 1, .int x1), (2, 1, .int x2), (3, 1, .int x3), (4, 1, .int x4)] → c ≤ mc → s ≤ ms → W p l e R s₀ m args below meth cd H locs c s (MQ below (va_Qi Post (wo_B E) (en_A E)) args s₀ mc ms (en_A E)) (F0 m 38 ls [])) : ∀ {G : wo_W} {c s : Nat} {x0 : Nat} {x1 : Int32} {x2 : Int32} {x3 : Int32} {x4 : Int32} {x5 : Int32}, pq_Md_normal_101 E mc ms Post k38 G c s x0 x1 x2 x3 x4 x5 → ∀ {H : Heap} {locs : List Loc} {ls : Array Slot}, wo_Se E G H → va_S (en_A E) s₀.heap H locs → lx_has ls 9 [(0, 1, .ref x0), (1, 1, .int x1), (2, 1, .int x2), (3, 1, .int x3), (4, 1, .int x4), (5, 1, .int x5)] → c ≤ mc → s ≤ ms → W p l e R s₀ m args below meth cd H locs c s (MQ below (va_Qi Post (wo_B E) (en_A E)) args s₀ mc ms (en_A E)) (F0 m 101 ls []) := by
  intro G c s x0 x1 x2 x3 x4 x5 hw H locs ls hG hS hl hcc hss
  dsimp only [pq_Md_normal_101] at hw
  have hx := hC.1
  have hb := hC.2.1
  refine lv_iconst (v := (0 : Int32)) hx hb dq_Md_normal_101 rfl ?_
  exact tq_Md_normal_102 hC hk38 hw hG hS (lx_sub hl [0, 1, 2, 3, 4, 5] rfl) hcc hss
set_option maxRecDepth 100000 in
set_option maxHeartbeats 4000000 in
theorem tq_Md_normal_74 {p : Program} {l : Launch} {e : Env} {R : Room} {s₀ : State} {m : MethodId} {args : Array Value} {below : List Frame} {meth : Method} {cd : Code} {E : wo_E} {mc ms : Nat} {Post : Int32 → wo_W → Prop} {k38 : wo_W → Nat → Nat → Nat → Int32 → Int32 → Int32 → Int32 → Prop} (hC : wo_Cx E "EdgeCacheModel" prog_14_method_11_code 9 0 0 ((Option.some Jvm.ClassFile.FieldType.int)) "normal" mc ms p R s₀ m args meth cd) (hk38 : ∀ {G : wo_W} {c s : Nat} {x0 : Nat} {x1 : Int32} {x2 : Int32} {x3 : Int32} {x4 : Int32}, k38 G c s x0 x1 x2 x3 x4 → ∀ {H : Heap} {locs : List Loc} {ls : Array Slot}, wo_Se E G H → va_S (en_A E) s₀.heap H locs → lx_has ls 9 [(0, 1, .ref x0), (1, 1, .int x1), (2, 1, .int x2), (3, 1, .int x3), (4, 1, .int x4)] → c ≤ mc → s ≤ ms → W p l e R s₀ m args below meth cd H locs c s (MQ below (va_Qi Post (wo_B E) (en_A E)) args s₀ mc ms (en_A E)) (F0 m 38 ls [])) : ∀ {G : wo_W} {c s : Nat} {x0 : Nat} {x1 : Int32} {x2 : Int32} {x3 : Int32} {x4 : Int32} {x5 : Int32}, pq_Md_normal_74 E mc ms Post k38 G c s x0 x1 x2 x3 x4 x5 → ∀ {H : Heap} {locs : List Loc} {ls : Array Slot}, wo_Se E G H → va_S (en_A E) s₀.heap H locs → lx_has ls 9 [(0, 1, .ref x0), (1, 1, .int x1), (2, 1, .int x2), (3, 1, .int x3), (4, 1, .int x4), (5, 1, .int x5)] → c ≤ mc → s ≤ ms → W p l e R s₀ m args below meth cd H locs c s (MQ below (va_Qi Post (wo_B E) (en_A E)) args s₀ mc ms (en_A E)) (F0 m 74 ls []) := by
  intro G c s x0 x1 x2 x3 x4 x5 hw H locs ls hG hS hl hcc hss
  dsimp only [pq_Md_normal_74] at hw
  have hx := hC.1
  have hb := hC.2.1
  refine lv_iload hx hb dq_Md_normal_74 (lx_at hl 5 rfl) ?_
  refine lv_iload hx hb dq_Md_normal_76 (lx_at hl 4 rfl) ?_
  refine lv_isub hx hb dq_Md_normal_78 ?_
  refine lv_iconst (v := (2 : Int32)) hx hb dq_Md_normal_79 rfl ?_
  refine lv_icmp_ne (tgt := 101) hx hb dq_Md_normal_80 rfl (fun h => ?_) (fun h => ?_)
  · replace hw := hw.1 h
    exact tq_Md_normal_101 hC hk38 hw hG hS (lx_sub hl [0, 1, 2, 3, 4, 5] rfl) hcc hss
  · replace hw := hw.2 h
    refine lv_aload_n hx hb dq_Md_normal_83 rfl (lx_at hl 0 rfl) ?_
    obtain ⟨t1, hw⟩ := hw
    refine wo_getR hC fq_Md_63 rfl hG t1 dq_Md_normal_84 (fun r2 e3 => ?_)
    replace hw := hw r2 e3
    refine lv_iload hx hb dq_Md_normal_87 (lx_at hl 4 rfl) ?_
    refine lv_iconst (v := (1 : Int32)) hx hb dq_Md_normal_89 rfl ?_
    refine lv_iadd hx hb dq_Md_normal_90 ?_
    obtain ⟨a4, rfl, hw⟩ := hw
    obtain ⟨t5, hw⟩ := hw
    obtain ⟨h6, hw⟩ := hw
    refine wo_iald (j := 2) hC rfl hG t5 h6 dq_Md_normal_91 ?_
    refine lv_bipush (v := (46 : Int32)) hx hb dq_Md_normal_92 rfl ?_
    refine lv_icmp_ne (tgt := 101) hx hb dq_Md_normal_94 rfl (fun h => ?_) (fun h => ?_)
    · replace hw := hw.1 h
      exact tq_Md_normal_101 hC hk38 hw hG hS (lx_sub hl [0, 1, 2, 3, 4, 5] rfl) hcc hss
    · replace hw := hw.2 h
      refine lv_iconst (v := (1 : Int32)) hx hb dq_Md_normal_97 rfl ?_
      refine lv_goto (tgt := 102) hx hb dq_Md_normal_98 rfl ?_
      exact tq_Md_normal_102 hC hk38 hw hG hS (lx_sub hl [0, 1, 2, 3, 4, 5] rfl) hcc hss
set_option maxRecDepth 100000 in
set_option maxHeartbeats 4000000 in
theorem tq_Md_normal_50 {p : Program} {l : Launch} {e : Env} {R : Room} {s₀ : State} {m : MethodId} {args : Array Value} {below : List Frame} {meth : Method} {cd : Code} {E : wo_E} {mc ms : Nat} {Post : Int32 → wo_W → Prop} {k38 : wo_W → Nat → Nat → Nat → Int32 → Int32 → Int32 → Int32 → Prop} (hC : wo_Cx E "EdgeCacheModel" prog_14_method_11_code 9 0 0 ((Option.some Jvm.ClassFile.FieldType.int)) "normal" mc ms p R s₀ m args meth cd) (hk38 : ∀ {G : wo_W} {c s : Nat} {x0 : Nat} {x1 : Int32} {x2 : Int32} {x3 : Int32} {x4 : Int32}, k38 G c s x0 x1 x2 x3 x4 → ∀ {H : Heap} {locs : List Loc} {ls : Array Slot}, wo_Se E G H → va_S (en_A E) s₀.heap H locs → lx_has ls 9 [(0, 1, .ref x0), (1, 1, .int x1), (2, 1, .int x2), (3, 1, .int x3), (4, 1, .int x4)] → c ≤ mc → s ≤ ms → W p l e R s₀ m args below meth cd H locs c s (MQ below (va_Qi Post (wo_B E) (en_A E)) args s₀ mc ms (en_A E)) (F0 m 38 ls [])) : ∀ n : Nat, ∀ {G : wo_W} {c s : Nat} {x0 : Nat} {x1 : Int32} {x2 : Int32} {x3 : Int32} {x4 : Int32} {x5 : Int32}, pq_Md_normal_50 E mc ms Post k38 n G c s x0 x1 x2 x3 x4 x5 → ∀ {H : Heap} {locs : List Loc} {ls : Array Slot}, wo_Se E G H → va_S (en_A E) s₀.heap H locs → lx_has ls 9 [(0, 1, .ref x0), (1, 1, .int x1), (2, 1, .int x2), (3, 1, .int x3), (4, 1, .int x4), (5, 1, .int x5)] → c ≤ mc → s ≤ ms → W p l e R s₀ m args below meth cd H locs c s (MQ below (va_Qi Post (wo_B E) (en_A E)) args s₀ mc ms (en_A E)) (F0 m 50 ls []) := by
  intro n
  induction n with
  | zero => intro G c s x0 x1 x2 x3 x4 x5 hw; exact hw.elim
  | succ n ih =>
    intro G c s x0 x1 x2 x3 x4 x5 hw H locs ls hG hS hl hcc hss
    dsimp only [pq_Md_normal_50] at hw
    have hx := hC.1
    have hb := hC.2.1
    refine lv_iload hx hb dq_Md_normal_50 (lx_at hl 5 rfl) ?_
    refine lv_iload_n hx hb dq_Md_normal_52 rfl (lx_at hl 2 rfl) ?_
    refine lv_icmp_ge (tgt := 74) hx hb dq_Md_normal_53 rfl (fun h => ?_) (fun h => ?_)
    · replace hw := hw.1 h
      exact tq_Md_normal_74 hC hk38 hw hG hS (lx_sub hl [0, 1, 2, 3, 4, 5] rfl) hcc hss
    · replace hw := hw.2 h
      refine lv_aload_n hx hb dq_Md_normal_56 rfl (lx_at hl 0 rfl) ?_
      obtain ⟨t1, hw⟩ := hw
      refine wo_getR hC fq_Md_63 rfl hG t1 dq_Md_normal_57 (fun r2 e3 => ?_)
      replace hw := hw r2 e3
      refine lv_iload hx hb dq_Md_normal_60 (lx_at hl 5 rfl) ?_
      obtain ⟨a4, rfl, hw⟩ := hw
      obtain ⟨t5, hw⟩ := hw
      obtain ⟨h6, hw⟩ := hw
      refine wo_iald (j := 2) hC rfl hG t5 h6 dq_Md_normal_62 ?_
      refine lv_bipush (v := (47 : Int32)) hx hb dq_Md_normal_63 rfl ?_
      refine lv_icmp_eq (tgt := 74) hx hb dq_Md_normal_65 rfl (fun h => ?_) (fun h => ?_)
      · replace hw := hw.1 h
        exact tq_Md_normal_74 hC hk38 hw hG hS (lx_sub hl [0, 1, 2, 3, 4, 5] rfl) hcc hss
      · replace hw := hw.2 h
        refine lx_iinc (k := 5) (v := (x5 + (1 : Int32))) (lv' := [(5, 1, .int (x5 + (1 : Int32))), (0, 1, .ref x0), (1, 1, .int x1), (2, 1, .int x2), (3, 1, .int x3), (4, 1, .int x4)]) hx hb dq_Md_normal_68 hl rfl rfl (by decide) rfl (fun ls hl' => ?_)
        clear hl
        have hl := hl'
        clear hl'
        refine lv_goto (tgt := 50) hx hb dq_Md_normal_71 rfl ?_
        exact ih hw hG hS (lx_sub hl [1, 2, 3, 4, 5, 0] rfl) hcc hss
set_option maxRecDepth 100000 in
set_option maxHeartbeats 4000000 in
theorem tq_Md_normal_38 {p : Program} {l : Launch} {e : Env} {R : Room} {s₀ : State} {m : MethodId} {args : Array Value} {below : List Frame} {meth : Method} {cd : Code} {E : wo_E} {mc ms : Nat} {Post : Int32 → wo_W → Prop} (hC : wo_Cx E "EdgeCacheModel" prog_14_method_11_code 9 0 0 ((Option.some Jvm.ClassFile.FieldType.int)) "normal" mc ms p R s₀ m args meth cd) : ∀ n : Nat, ∀ {G : wo_W} {c s : Nat} {x0 : Nat} {x1 : Int32} {x2 : Int32} {x3 : Int32} {x4 : Int32}, pq_Md_normal_38 E mc ms Post n G c s x0 x1 x2 x3 x4 → ∀ {H : Heap} {locs : List Loc} {ls : Array Slot}, wo_Se E G H → va_S (en_A E) s₀.heap H locs → lx_has ls 9 [(0, 1, .ref x0), (1, 1, .int x1), (2, 1, .int x2), (3, 1, .int x3), (4, 1, .int x4)] → c ≤ mc → s ≤ ms → W p l e R s₀ m args below meth cd H locs c s (MQ below (va_Qi Post (wo_B E) (en_A E)) args s₀ mc ms (en_A E)) (F0 m 38 ls []) := by
  intro n
  induction n with
  | zero => intro G c s x0 x1 x2 x3 x4 hw; exact hw.elim
  | succ n ih =>
    intro G c s x0 x1 x2 x3 x4 hw H locs ls hG hS hl hcc hss
    dsimp only [pq_Md_normal_38] at hw
    have hx := hC.1
    have hb := hC.2.1
    refine lv_iload hx hb dq_Md_normal_38 (lx_at hl 4 rfl) ?_
    refine lv_iload_n hx hb dq_Md_normal_40 rfl (lx_at hl 2 rfl) ?_
    refine lv_icmp_ge (tgt := 254) hx hb dq_Md_normal_41 rfl (fun h => ?_) (fun h => ?_)
    · replace hw := hw.1 h
      refine lv_iload_n hx hb dq_Md_normal_254 rfl (lx_at hl 2 rfl) ?_
      refine lx_istore (lv' := [(5, 1, .int x2), (0, 1, .ref x0), (1, 1, .int x1), (2, 1, .int x2), (3, 1, .int x3), (4, 1, .int x4)]) hx hb dq_Md_normal_255 hl (by decide) rfl (fun ls hl' => ?_)
      clear hl
      have hl := hl'
      clear hl'
      obtain ⟨n1, hw⟩ := hw
      exact tq_Md_normal_257 hC n1 hw hG hS (lx_sub hl [1, 2, 4, 0] rfl) hcc hss
    · replace hw := hw.2 h
      refine lv_iload hx hb dq_Md_normal_44 (lx_at hl 4 rfl) ?_
      refine lv_iconst (v := (1 : Int32)) hx hb dq_Md_normal_46 rfl ?_
      refine lv_iadd hx hb dq_Md_normal_47 ?_
      refine lx_istore (lv' := [(5, 1, .int (x4 + (1 : Int32))), (0, 1, .ref x0), (1, 1, .int x1), (2, 1, .int x2), (3, 1, .int x3), (4, 1, .int x4)]) hx hb dq_Md_normal_48 hl (by decide) rfl (fun ls hl' => ?_)
      clear hl
      have hl := hl'
      clear hl'
      obtain ⟨n1, hw⟩ := hw
      exact tq_Md_normal_50 hC ih n1 hw hG hS (lx_sub hl [1, 2, 3, 4, 5, 0] rfl) hcc hss
set_option maxRecDepth 100000 in
set_option maxHeartbeats 4000000 in
theorem tq_Md_normal_26 {p : Program} {l : Launch} {e : Env} {R : Room} {s₀ : State} {m : MethodId} {args : Array Value} {below : List Frame} {meth : Method} {cd : Code} {E : wo_E} {mc ms : Nat} {Post : Int32 → wo_W → Prop} {k6 : wo_W → Nat → Nat → Nat → Int32 → Int32 → Int32 → Prop} (hC : wo_Cx E "EdgeCacheModel" prog_14_method_11_code 9 0 0 ((Option.some Jvm.ClassFile.FieldType.int)) "normal" mc ms p R s₀ m args meth cd) (hk6 : ∀ {G : wo_W} {c s : Nat} {x0 : Nat} {x1 : Int32} {x2 : Int32} {x3 : Int32}, k6 G c s x0 x1 x2 x3 → ∀ {H : Heap} {locs : List Loc} {ls : Array Slot}, wo_Se E G H → va_S (en_A E) s₀.heap H locs → lx_has ls 9 [(0, 1, .ref x0), (1, 1, .int x1), (2, 1, .int x2), (3, 1, .int x3)] → c ≤ mc → s ≤ ms → W p l e R s₀ m args below meth cd H locs c s (MQ below (va_Qi Post (wo_B E) (en_A E)) args s₀ mc ms (en_A E)) (F0 m 6 ls [])) : ∀ {G : wo_W} {c s : Nat} {x0 : Nat} {x1 : Int32} {x3 : Int32} {y0 : Int32}, pq_Md_normal_26 E mc ms Post k6 G c s x0 x1 x3 y0 → ∀ {H : Heap} {locs : List Loc} {ls : Array Slot}, wo_Se E G H → va_S (en_A E) s₀.heap H locs → lx_has ls 9 [(0, 1, .ref x0), (1, 1, .int x1), (3, 1, .int x3)] → c ≤ mc → s ≤ ms → W p l e R s₀ m args below meth cd H locs c s (MQ below (va_Qi Post (wo_B E) (en_A E)) args s₀ mc ms (en_A E)) (F0 m 26 ls [.int y0]) := by
  intro G c s x0 x1 x3 y0 hw H locs ls hG hS hl hcc hss
  dsimp only [pq_Md_normal_26] at hw
  have hx := hC.1
  have hb := hC.2.1
  refine lx_istore_n (lv' := [(2, 1, .int y0), (0, 1, .ref x0), (1, 1, .int x1), (3, 1, .int x3)]) hx hb dq_Md_normal_26 rfl hl (by decide) rfl (fun ls hl' => ?_)
  clear hl
  have hl := hl'
  clear hl'
  refine lx_iinc (k := 3) (v := (x3 + (-1 : Int32))) (lv' := [(3, 1, .int (x3 + (-1 : Int32))), (2, 1, .int y0), (0, 1, .ref x0), (1, 1, .int x1)]) hx hb dq_Md_normal_27 hl rfl rfl (by decide) rfl (fun ls hl' => ?_)
  clear hl
  have hl := hl'
  clear hl'
  refine lv_goto (tgt := 6) hx hb dq_Md_normal_30 rfl ?_
  exact hk6 hw hG hS (lx_sub hl [2, 3, 1, 0] rfl) hcc hss
set_option maxRecDepth 100000 in
set_option maxHeartbeats 4000000 in
theorem tq_Md_normal_6 {p : Program} {l : Launch} {e : Env} {R : Room} {s₀ : State} {m : MethodId} {args : Array Value} {below : List Frame} {meth : Method} {cd : Code} {E : wo_E} {mc ms : Nat} {Post : Int32 → wo_W → Prop} (hC : wo_Cx E "EdgeCacheModel" prog_14_method_11_code 9 0 0 ((Option.some Jvm.ClassFile.FieldType.int)) "normal" mc ms p R s₀ m args meth cd) : ∀ n : Nat, ∀ {G : wo_W} {c s : Nat} {x0 : Nat} {x1 : Int32} {x2 : Int32} {x3 : Int32}, pq_Md_normal_6 E mc ms Post n G c s x0 x1 x2 x3 → ∀ {H : Heap} {locs : List Loc} {ls : Array Slot}, wo_Se E G H → va_S (en_A E) s₀.heap H locs → lx_has ls 9 [(0, 1, .ref x0), (1, 1, .int x1), (2, 1, .int x2), (3, 1, .int x3)] → c ≤ mc → s ≤ ms → W p l e R s₀ m args below meth cd H locs c s (MQ below (va_Qi Post (wo_B E) (en_A E)) args s₀ mc ms (en_A E)) (F0 m 6 ls []) := by
  intro n
  induction n with
  | zero => intro G c s x0 x1 x2 x3 hw; exact hw.elim
  | succ n ih =>
    intro G c s x0 x1 x2 x3 hw H locs ls hG hS hl hcc hss
    dsimp only [pq_Md_normal_6] at hw
    have hx := hC.1
    have hb := hC.2.1
    refine lv_iload_n hx hb dq_Md_normal_6 rfl (lx_at hl 3 rfl) ?_
    refine lv_if_lt (tgt := 33) hx hb dq_Md_normal_7 rfl (fun h => ?_) (fun h => ?_)
    · replace hw := hw.1 h
      refine lv_iconst (v := (0 : Int32)) hx hb dq_Md_normal_33 rfl ?_
      refine lx_istore_n (lv' := [(3, 1, .int (0 : Int32)), (0, 1, .ref x0), (1, 1, .int x1), (2, 1, .int x2)]) hx hb dq_Md_normal_34 rfl hl (by decide) rfl (fun ls hl' => ?_)
      clear hl
      have hl := hl'
      clear hl'
      refine lv_iconst (v := (0 : Int32)) hx hb dq_Md_normal_35 rfl ?_
      refine lx_istore (lv' := [(4, 1, .int (0 : Int32)), (3, 1, .int (0 : Int32)), (0, 1, .ref x0), (1, 1, .int x1), (2, 1, .int x2)]) hx hb dq_Md_normal_36 hl (by decide) rfl (fun ls hl' => ?_)
      clear hl
      have hl := hl'
      clear hl'
      obtain ⟨n1, hw⟩ := hw
      exact tq_Md_normal_38 hC n1 hw hG hS (lx_sub hl [2, 3, 4, 1, 0] rfl) hcc hss
    · replace hw := hw.2 h
      refine lv_aload_n hx hb dq_Md_normal_10 rfl (lx_at hl 0 rfl) ?_
      obtain ⟨t1, hw⟩ := hw
      refine wo_getR hC fq_Md_63 rfl hG t1 dq_Md_normal_11 (fun r2 e3 => ?_)
      replace hw := hw r2 e3
      refine lv_iload_n hx hb dq_Md_normal_14 rfl (lx_at hl 3 rfl) ?_
      obtain ⟨a4, rfl, hw⟩ := hw
      obtain ⟨t5, hw⟩ := hw
      obtain ⟨h6, hw⟩ := hw
      refine wo_iald (j := 2) hC rfl hG t5 h6 dq_Md_normal_15 ?_
      refine lv_bipush (v := (63 : Int32)) hx hb dq_Md_normal_16 rfl ?_
      refine lv_icmp_ne (tgt := 25) hx hb dq_Md_normal_18 rfl (fun h => ?_) (fun h => ?_)
      · replace hw := hw.1 h
        refine lv_iload_n hx hb dq_Md_normal_25 rfl (lx_at hl 2 rfl) ?_
        exact tq_Md_normal_26 hC ih hw hG hS (lx_sub hl [0, 1, 3] rfl) hcc hss
      · replace hw := hw.2 h
        refine lv_iload_n hx hb dq_Md_normal_21 rfl (lx_at hl 3 rfl) ?_
        refine lv_goto (tgt := 26) hx hb dq_Md_normal_22 rfl ?_
        exact tq_Md_normal_26 hC ih hw hG hS (lx_sub hl [0, 1, 3] rfl) hcc hss
set_option maxRecDepth 100000 in
set_option maxHeartbeats 4000000 in
theorem tq_Md_normal_0 {p : Program} {l : Launch} {e : Env} {R : Room} {s₀ : State} {m : MethodId} {args : Array Value} {below : List Frame} {meth : Method} {cd : Code} {E : wo_E} {mc ms : Nat} {Post : Int32 → wo_W → Prop} (hC : wo_Cx E "EdgeCacheModel" prog_14_method_11_code 9 0 0 ((Option.some Jvm.ClassFile.FieldType.int)) "normal" mc ms p R s₀ m args meth cd) : ∀ {G : wo_W} {c s : Nat} {x0 : Nat} {x1 : Int32}, pq_Md_normal_0 E mc ms Post G c s x0 x1 → ∀ {H : Heap} {locs : List Loc} {ls : Array Slot}, wo_Se E G H → va_S (en_A E) s₀.heap H locs → lx_has ls 9 [(0, 1, .ref x0), (1, 1, .int x1)] → c ≤ mc → s ≤ ms → W p l e R s₀ m args below meth cd H locs c s (MQ below (va_Qi Post (wo_B E) (en_A E)) args s₀ mc ms (en_A E)) (F0 m 0 ls []) := by
  intro G c s x0 x1 hw H locs ls hG hS hl hcc hss
  dsimp only [pq_Md_normal_0] at hw
  have hx := hC.1
  have hb := hC.2.1
  refine lv_iload_n hx hb dq_Md_normal_0 rfl (lx_at hl 1 rfl) ?_
  refine lx_istore_n (lv' := [(2, 1, .int x1), (0, 1, .ref x0), (1, 1, .int x1)]) hx hb dq_Md_normal_1 rfl hl (by decide) rfl (fun ls hl' => ?_)
  clear hl
  have hl := hl'
  clear hl'
  refine lv_iload_n hx hb dq_Md_normal_2 rfl (lx_at hl 2 rfl) ?_
  refine lv_iconst (v := (1 : Int32)) hx hb dq_Md_normal_3 rfl ?_
  refine lv_isub hx hb dq_Md_normal_4 ?_
  refine lx_istore_n (lv' := [(3, 1, .int (x1 - (1 : Int32))), (2, 1, .int x1), (0, 1, .ref x0), (1, 1, .int x1)]) hx hb dq_Md_normal_5 rfl hl (by decide) rfl (fun ls hl' => ?_)
  clear hl
  have hl := hl'
  clear hl'
  obtain ⟨n1, hw⟩ := hw
  exact tq_Md_normal_6 hC n1 hw hG hS (lx_sub hl [2, 3, 1, 0] rfl) hcc hss
set_option maxHeartbeats 4000000 in
theorem mq_Md_normal {l : Launch} {E : wo_E} {mc ms : Nat} {Post : Int32 → wo_W → Prop} {G : wo_W} {x0 : Nat} {x1 : Int32} (hw : pq_Md_normal E mc ms Post G x0 x1) : Met l yq_Md_normal (Cond.code yq_Md_normal prog_14_method_11_code 9 ((Option.some Jvm.ClassFile.FieldType.int)) :: vw_WG) { frames := 0, cells := mc, slots := ms, locals := 0 } (va_Pc [.ref x0, .int x1] (wo_Ok E G)) (va_Qi Post (wo_B E) (en_A E)) mc ms (en_A E) := by
  unfold pq_Md_normal at hw
  exact wo_met [(1, .ref x0), (1, .int x1)] rfl (by decide) (fun q hq => by simp only [List.mem_cons, List.not_mem_nil, or_false] at hq; rcases hq with rfl | rfl <;> first | rfl | exact lx_cR _) (Nat.le_of_ble_eq_true rfl) (fun p e R s m args below meth cd ls hC hG hS hl => tq_Md_normal_0 hC hw hG hS (lx_sub hl [0, 1] rfl) (Nat.zero_le _) (Nat.zero_le _))

theorem dq_Md_unreserved_0 : decode prog_14_method_10_code 0 = .ok (.iload_n 0, 1) := by decide +kernel
theorem dq_Md_unreserved_1 : decode prog_14_method_10_code 1 = .ok (.bipush 97, 2) := by decide +kernel
theorem dq_Md_unreserved_3 : decode prog_14_method_10_code 3 = .ok (.if_icmp .lt 9, 3) := by decide +kernel
theorem dq_Md_unreserved_6 : decode prog_14_method_10_code 6 = .ok (.iload_n 0, 1) := by decide +kernel
theorem dq_Md_unreserved_7 : decode prog_14_method_10_code 7 = .ok (.bipush 122, 2) := by decide +kernel
theorem dq_Md_unreserved_9 : decode prog_14_method_10_code 9 = .ok (.if_icmp .le 51, 3) := by decide +kernel
theorem dq_Md_unreserved_12 : decode prog_14_method_10_code 12 = .ok (.iload_n 0, 1) := by decide +kernel
theorem dq_Md_unreserved_13 : decode prog_14_method_10_code 13 = .ok (.bipush 65, 2) := by decide +kernel
theorem dq_Md_unreserved_15 : decode prog_14_method_10_code 15 = .ok (.if_icmp .lt 9, 3) := by decide +kernel
theorem dq_Md_unreserved_18 : decode prog_14_method_10_code 18 = .ok (.iload_n 0, 1) := by decide +kernel
theorem dq_Md_unreserved_19 : decode prog_14_method_10_code 19 = .ok (.bipush 90, 2) := by decide +kernel
theorem dq_Md_unreserved_21 : decode prog_14_method_10_code 21 = .ok (.if_icmp .le 39, 3) := by decide +kernel
theorem dq_Md_unreserved_24 : decode prog_14_method_10_code 24 = .ok (.iload_n 0, 1) := by decide +kernel
theorem dq_Md_unreserved_25 : decode prog_14_method_10_code 25 = .ok (.bipush 48, 2) := by decide +kernel
theorem dq_Md_unreserved_27 : decode prog_14_method_10_code 27 = .ok (.if_icmp .lt 9, 3) := by decide +kernel
theorem dq_Md_unreserved_30 : decode prog_14_method_10_code 30 = .ok (.iload_n 0, 1) := by decide +kernel
theorem dq_Md_unreserved_31 : decode prog_14_method_10_code 31 = .ok (.bipush 57, 2) := by decide +kernel
theorem dq_Md_unreserved_33 : decode prog_14_method_10_code 33 = .ok (.if_icmp .le 27, 3) := by decide +kernel
theorem dq_Md_unreserved_36 : decode prog_14_method_10_code 36 = .ok (.iload_n 0, 1) := by decide +kernel
theorem dq_Md_unreserved_37 : decode prog_14_method_10_code 37 = .ok (.bipush 45, 2) := by decide +kernel
theorem dq_Md_unreserved_39 : decode prog_14_method_10_code 39 = .ok (.if_icmp .eq 21, 3) := by decide +kernel
theorem dq_Md_unreserved_42 : decode prog_14_method_10_code 42 = .ok (.iload_n 0, 1) := by decide +kernel
theorem dq_Md_unreserved_43 : decode prog_14_method_10_code 43 = .ok (.bipush 46, 2) := by decide +kernel
theorem dq_Md_unreserved_45 : decode prog_14_method_10_code 45 = .ok (.if_icmp .eq 15, 3) := by decide +kernel
theorem dq_Md_unreserved_48 : decode prog_14_method_10_code 48 = .ok (.iload_n 0, 1) := by decide +kernel
theorem dq_Md_unreserved_49 : decode prog_14_method_10_code 49 = .ok (.bipush 95, 2) := by decide +kernel
theorem dq_Md_unreserved_51 : decode prog_14_method_10_code 51 = .ok (.if_icmp .eq 9, 3) := by decide +kernel
theorem dq_Md_unreserved_54 : decode prog_14_method_10_code 54 = .ok (.iload_n 0, 1) := by decide +kernel
theorem dq_Md_unreserved_55 : decode prog_14_method_10_code 55 = .ok (.bipush 126, 2) := by decide +kernel
theorem dq_Md_unreserved_57 : decode prog_14_method_10_code 57 = .ok (.if_icmp .ne 7, 3) := by decide +kernel
theorem dq_Md_unreserved_60 : decode prog_14_method_10_code 60 = .ok (.iconst 1, 1) := by decide +kernel
theorem dq_Md_unreserved_61 : decode prog_14_method_10_code 61 = .ok (.goto 4, 3) := by decide +kernel
theorem dq_Md_unreserved_64 : decode prog_14_method_10_code 64 = .ok (.iconst 0, 1) := by decide +kernel
theorem dq_Md_unreserved_65 : decode prog_14_method_10_code 65 = .ok (.ireturn, 1) := by decide +kernel
set_option maxRecDepth 100000 in
def pq_Md_unreserved_65 (E : wo_E) (mc ms : Nat) (Post : Int32 → wo_W → Prop) (G : wo_W) (c s : Nat) (y0 : Int32) : Prop := wo_okI .boolean y0 ∧ Post y0 G
set_option maxRecDepth 100000 in
def pq_Md_unreserved_60 (E : wo_E) (mc ms : Nat) (Post : Int32 → wo_W → Prop) (G : wo_W) (c s : Nat) : Prop := pq_Md_unreserved_65 E mc ms Post G c s (1 : Int32)
set_option maxRecDepth 100000 in
def pq_Md_unreserved_36 (E : wo_E) (mc ms : Nat) (Post : Int32 → wo_W → Prop) (G : wo_W) (c s : Nat) (x0 : Int32) : Prop := ((x0 = (45 : Int32) → pq_Md_unreserved_60 E mc ms Post G c s) ∧
  (¬ x0 = (45 : Int32) → ((x0 = (46 : Int32) → pq_Md_unreserved_60 E mc ms Post G c s) ∧
    (¬ x0 = (46 : Int32) → ((x0 = (95 : Int32) → pq_Md_unreserved_60 E mc ms Post G c s) ∧
      (¬ x0 = (95 : Int32) → ((¬ x0 = (126 : Int32) → pq_Md_unreserved_65 E mc ms Post G c s (0 : Int32)) ∧
        (x0 = (126 : Int32) → pq_Md_unreserved_60 E mc ms Post G c s))))))))
set_option maxRecDepth 100000 in
def pq_Md_unreserved_24 (E : wo_E) (mc ms : Nat) (Post : Int32 → wo_W → Prop) (G : wo_W) (c s : Nat) (x0 : Int32) : Prop := ((x0 < (48 : Int32) → pq_Md_unreserved_36 E mc ms Post G c s x0) ∧
  (¬ x0 < (48 : Int32) → ((x0 ≤ (57 : Int32) → pq_Md_unreserved_60 E mc ms Post G c s) ∧
    (¬ x0 ≤ (57 : Int32) → pq_Md_unreserved_36 E mc ms Post G c s x0))))
set_option maxRecDepth 100000 in
def pq_Md_unreserved_12 (E : wo_E) (mc ms : Nat) (Post : Int32 → wo_W → Prop) (G : wo_W) (c s : Nat) (x0 : Int32) : Prop := ((x0 < (65 : Int32) → pq_Md_unreserved_24 E mc ms Post G c s x0) ∧
  (¬ x0 < (65 : Int32) → ((x0 ≤ (90 : Int32) → pq_Md_unreserved_60 E mc ms Post G c s) ∧
    (¬ x0 ≤ (90 : Int32) → pq_Md_unreserved_24 E mc ms Post G c s x0))))
set_option maxRecDepth 100000 in
def pq_Md_unreserved_0 (E : wo_E) (mc ms : Nat) (Post : Int32 → wo_W → Prop) (G : wo_W) (c s : Nat) (x0 : Int32) : Prop := ((x0 < (97 : Int32) → pq_Md_unreserved_12 E mc ms Post G c s x0) ∧
  (¬ x0 < (97 : Int32) → ((x0 ≤ (122 : Int32) → pq_Md_unreserved_60 E mc ms Post G c s) ∧
    (¬ x0 ≤ (122 : Int32) → pq_Md_unreserved_12 E mc ms Post G c s x0))))
def pq_Md_unreserved (E : wo_E) (mc ms : Nat) (Post : Int32 → wo_W → Prop) (G : wo_W) (x0 : Int32) : Prop := pq_Md_unreserved_0 E mc ms Post G 0 0 x0
set_option maxRecDepth 100000 in
set_option maxHeartbeats 4000000 in
theorem tq_Md_unreserved_65 {p : Program} {l : Launch} {e : Env} {R : Room} {s₀ : State} {m : MethodId} {args : Array Value} {below : List Frame} {meth : Method} {cd : Code} {E : wo_E} {mc ms : Nat} {Post : Int32 → wo_W → Prop} (hC : wo_Cx E "EdgeCacheModel" prog_14_method_10_code 1 0 0 ((Option.some Jvm.ClassFile.FieldType.boolean)) "unreserved" mc ms p R s₀ m args meth cd) : ∀ {G : wo_W} {c s : Nat} {y0 : Int32}, pq_Md_unreserved_65 E mc ms Post G c s y0 → ∀ {H : Heap} {locs : List Loc} {ls : Array Slot}, wo_Se E G H → va_S (en_A E) s₀.heap H locs → lx_has ls 1 [] → c ≤ mc → s ≤ ms → W p l e R s₀ m args below meth cd H locs c s (MQ below (va_Qi Post (wo_B E) (en_A E)) args s₀ mc ms (en_A E)) (F0 m 65 ls [.int y0]) := by
  intro G c s y0 hw H locs ls hG hS hl hcc hss
  dsimp only [pq_Md_unreserved_65] at hw
  have hx := hC.1
  have hb := hC.2.1
  obtain ⟨h1, hw⟩ := hw
  exact wo_zret hC h1.1 hG hS hcc hss hw dq_Md_unreserved_65
set_option maxRecDepth 100000 in
set_option maxHeartbeats 4000000 in
theorem tq_Md_unreserved_60 {p : Program} {l : Launch} {e : Env} {R : Room} {s₀ : State} {m : MethodId} {args : Array Value} {below : List Frame} {meth : Method} {cd : Code} {E : wo_E} {mc ms : Nat} {Post : Int32 → wo_W → Prop} (hC : wo_Cx E "EdgeCacheModel" prog_14_method_10_code 1 0 0 ((Option.some Jvm.ClassFile.FieldType.boolean)) "unreserved" mc ms p R s₀ m args meth cd) : ∀ {G : wo_W} {c s : Nat}, pq_Md_unreserved_60 E mc ms Post G c s → ∀ {H : Heap} {locs : List Loc} {ls : Array Slot}, wo_Se E G H → va_S (en_A E) s₀.heap H locs → lx_has ls 1 [] → c ≤ mc → s ≤ ms → W p l e R s₀ m args below meth cd H locs c s (MQ below (va_Qi Post (wo_B E) (en_A E)) args s₀ mc ms (en_A E)) (F0 m 60 ls []) := by
  intro G c s hw H locs ls hG hS hl hcc hss
  dsimp only [pq_Md_unreserved_60] at hw
  have hx := hC.1
  have hb := hC.2.1
  refine lv_iconst (v := (1 : Int32)) hx hb dq_Md_unreserved_60 rfl ?_
  refine lv_goto (tgt := 65) hx hb dq_Md_unreserved_61 rfl ?_
  exact tq_Md_unreserved_65 hC hw hG hS (lx_sub hl [] rfl) hcc hss
set_option maxRecDepth 100000 in
set_option maxHeartbeats 4000000 in
theorem tq_Md_unreserved_36 {p : Program} {l : Launch} {e : Env} {R : Room} {s₀ : State} {m : MethodId} {args : Array Value} {below : List Frame} {meth : Method} {cd : Code} {E : wo_E} {mc ms : Nat} {Post : Int32 → wo_W → Prop} (hC : wo_Cx E "EdgeCacheModel" prog_14_method_10_code 1 0 0 ((Option.some Jvm.ClassFile.FieldType.boolean)) "unreserved" mc ms p R s₀ m args meth cd) : ∀ {G : wo_W} {c s : Nat} {x0 : Int32}, pq_Md_unreserved_36 E mc ms Post G c s x0 → ∀ {H : Heap} {locs : List Loc} {ls : Array Slot}, wo_Se E G H → va_S (en_A E) s₀.heap H locs → lx_has ls 1 [(0, 1, .int x0)] → c ≤ mc → s ≤ ms → W p l e R s₀ m args below meth cd H locs c s (MQ below (va_Qi Post (wo_B E) (en_A E)) args s₀ mc ms (en_A E)) (F0 m 36 ls []) := by
  intro G c s x0 hw H locs ls hG hS hl hcc hss
  dsimp only [pq_Md_unreserved_36] at hw
  have hx := hC.1
  have hb := hC.2.1
  refine lv_iload_n hx hb dq_Md_unreserved_36 rfl (lx_at hl 0 rfl) ?_
  refine lv_bipush (v := (45 : Int32)) hx hb dq_Md_unreserved_37 rfl ?_
  refine lv_icmp_eq (tgt := 60) hx hb dq_Md_unreserved_39 rfl (fun h => ?_) (fun h => ?_)
  · replace hw := hw.1 h
    exact tq_Md_unreserved_60 hC hw hG hS (lx_sub hl [] rfl) hcc hss
  · replace hw := hw.2 h
    refine lv_iload_n hx hb dq_Md_unreserved_42 rfl (lx_at hl 0 rfl) ?_
    refine lv_bipush (v := (46 : Int32)) hx hb dq_Md_unreserved_43 rfl ?_
    refine lv_icmp_eq (tgt := 60) hx hb dq_Md_unreserved_45 rfl (fun h => ?_) (fun h => ?_)
    · replace hw := hw.1 h
      exact tq_Md_unreserved_60 hC hw hG hS (lx_sub hl [] rfl) hcc hss
    · replace hw := hw.2 h
      refine lv_iload_n hx hb dq_Md_unreserved_48 rfl (lx_at hl 0 rfl) ?_
      refine lv_bipush (v := (95 : Int32)) hx hb dq_Md_unreserved_49 rfl ?_
      refine lv_icmp_eq (tgt := 60) hx hb dq_Md_unreserved_51 rfl (fun h => ?_) (fun h => ?_)
      · replace hw := hw.1 h
        exact tq_Md_unreserved_60 hC hw hG hS (lx_sub hl [] rfl) hcc hss
      · replace hw := hw.2 h
        refine lv_iload_n hx hb dq_Md_unreserved_54 rfl (lx_at hl 0 rfl) ?_
        refine lv_bipush (v := (126 : Int32)) hx hb dq_Md_unreserved_55 rfl ?_
        refine lv_icmp_ne (tgt := 64) hx hb dq_Md_unreserved_57 rfl (fun h => ?_) (fun h => ?_)
        · replace hw := hw.1 h
          refine lv_iconst (v := (0 : Int32)) hx hb dq_Md_unreserved_64 rfl ?_
          exact tq_Md_unreserved_65 hC hw hG hS (lx_sub hl [] rfl) hcc hss
        · replace hw := hw.2 h
          exact tq_Md_unreserved_60 hC hw hG hS (lx_sub hl [] rfl) hcc hss
set_option maxRecDepth 100000 in
set_option maxHeartbeats 4000000 in
theorem tq_Md_unreserved_24 {p : Program} {l : Launch} {e : Env} {R : Room} {s₀ : State} {m : MethodId} {args : Array Value} {below : List Frame} {meth : Method} {cd : Code} {E : wo_E} {mc ms : Nat} {Post : Int32 → wo_W → Prop} (hC : wo_Cx E "EdgeCacheModel" prog_14_method_10_code 1 0 0 ((Option.some Jvm.ClassFile.FieldType.boolean)) "unreserved" mc ms p R s₀ m args meth cd) : ∀ {G : wo_W} {c s : Nat} {x0 : Int32}, pq_Md_unreserved_24 E mc ms Post G c s x0 → ∀ {H : Heap} {locs : List Loc} {ls : Array Slot}, wo_Se E G H → va_S (en_A E) s₀.heap H locs → lx_has ls 1 [(0, 1, .int x0)] → c ≤ mc → s ≤ ms → W p l e R s₀ m args below meth cd H locs c s (MQ below (va_Qi Post (wo_B E) (en_A E)) args s₀ mc ms (en_A E)) (F0 m 24 ls []) := by
  intro G c s x0 hw H locs ls hG hS hl hcc hss
  dsimp only [pq_Md_unreserved_24] at hw
  have hx := hC.1
  have hb := hC.2.1
  refine lv_iload_n hx hb dq_Md_unreserved_24 rfl (lx_at hl 0 rfl) ?_
  refine lv_bipush (v := (48 : Int32)) hx hb dq_Md_unreserved_25 rfl ?_
  refine lv_icmp_lt (tgt := 36) hx hb dq_Md_unreserved_27 rfl (fun h => ?_) (fun h => ?_)
  · replace hw := hw.1 h
    exact tq_Md_unreserved_36 hC hw hG hS (lx_sub hl [0] rfl) hcc hss
  · replace hw := hw.2 h
    refine lv_iload_n hx hb dq_Md_unreserved_30 rfl (lx_at hl 0 rfl) ?_
    refine lv_bipush (v := (57 : Int32)) hx hb dq_Md_unreserved_31 rfl ?_
    refine lv_icmp_le (tgt := 60) hx hb dq_Md_unreserved_33 rfl (fun h => ?_) (fun h => ?_)
    · replace hw := hw.1 h
      exact tq_Md_unreserved_60 hC hw hG hS (lx_sub hl [] rfl) hcc hss
    · replace hw := hw.2 h
      exact tq_Md_unreserved_36 hC hw hG hS (lx_sub hl [0] rfl) hcc hss
set_option maxRecDepth 100000 in
set_option maxHeartbeats 4000000 in
theorem tq_Md_unreserved_12 {p : Program} {l : Launch} {e : Env} {R : Room} {s₀ : State} {m : MethodId} {args : Array Value} {below : List Frame} {meth : Method} {cd : Code} {E : wo_E} {mc ms : Nat} {Post : Int32 → wo_W → Prop} (hC : wo_Cx E "EdgeCacheModel" prog_14_method_10_code 1 0 0 ((Option.some Jvm.ClassFile.FieldType.boolean)) "unreserved" mc ms p R s₀ m args meth cd) : ∀ {G : wo_W} {c s : Nat} {x0 : Int32}, pq_Md_unreserved_12 E mc ms Post G c s x0 → ∀ {H : Heap} {locs : List Loc} {ls : Array Slot}, wo_Se E G H → va_S (en_A E) s₀.heap H locs → lx_has ls 1 [(0, 1, .int x0)] → c ≤ mc → s ≤ ms → W p l e R s₀ m args below meth cd H locs c s (MQ below (va_Qi Post (wo_B E) (en_A E)) args s₀ mc ms (en_A E)) (F0 m 12 ls []) := by
  intro G c s x0 hw H locs ls hG hS hl hcc hss
  dsimp only [pq_Md_unreserved_12] at hw
  have hx := hC.1
  have hb := hC.2.1
  refine lv_iload_n hx hb dq_Md_unreserved_12 rfl (lx_at hl 0 rfl) ?_
  refine lv_bipush (v := (65 : Int32)) hx hb dq_Md_unreserved_13 rfl ?_
  refine lv_icmp_lt (tgt := 24) hx hb dq_Md_unreserved_15 rfl (fun h => ?_) (fun h => ?_)
  · replace hw := hw.1 h
    exact tq_Md_unreserved_24 hC hw hG hS (lx_sub hl [0] rfl) hcc hss
  · replace hw := hw.2 h
    refine lv_iload_n hx hb dq_Md_unreserved_18 rfl (lx_at hl 0 rfl) ?_
    refine lv_bipush (v := (90 : Int32)) hx hb dq_Md_unreserved_19 rfl ?_
    refine lv_icmp_le (tgt := 60) hx hb dq_Md_unreserved_21 rfl (fun h => ?_) (fun h => ?_)
    · replace hw := hw.1 h
      exact tq_Md_unreserved_60 hC hw hG hS (lx_sub hl [] rfl) hcc hss
    · replace hw := hw.2 h
      exact tq_Md_unreserved_24 hC hw hG hS (lx_sub hl [0] rfl) hcc hss
set_option maxRecDepth 100000 in
set_option maxHeartbeats 4000000 in
theorem tq_Md_unreserved_0 {p : Program} {l : Launch} {e : Env} {R : Room} {s₀ : State} {m : MethodId} {args : Array Value} {below : List Frame} {meth : Method} {cd : Code} {E : wo_E} {mc ms : Nat} {Post : Int32 → wo_W → Prop} (hC : wo_Cx E "EdgeCacheModel" prog_14_method_10_code 1 0 0 ((Option.some Jvm.ClassFile.FieldType.boolean)) "unreserved" mc ms p R s₀ m args meth cd) : ∀ {G : wo_W} {c s : Nat} {x0 : Int32}, pq_Md_unreserved_0 E mc ms Post G c s x0 → ∀ {H : Heap} {locs : List Loc} {ls : Array Slot}, wo_Se E G H → va_S (en_A E) s₀.heap H locs → lx_has ls 1 [(0, 1, .int x0)] → c ≤ mc → s ≤ ms → W p l e R s₀ m args below meth cd H locs c s (MQ below (va_Qi Post (wo_B E) (en_A E)) args s₀ mc ms (en_A E)) (F0 m 0 ls []) := by
  intro G c s x0 hw H locs ls hG hS hl hcc hss
  dsimp only [pq_Md_unreserved_0] at hw
  have hx := hC.1
  have hb := hC.2.1
  refine lv_iload_n hx hb dq_Md_unreserved_0 rfl (lx_at hl 0 rfl) ?_
  refine lv_bipush (v := (97 : Int32)) hx hb dq_Md_unreserved_1 rfl ?_
  refine lv_icmp_lt (tgt := 12) hx hb dq_Md_unreserved_3 rfl (fun h => ?_) (fun h => ?_)
  · replace hw := hw.1 h
    exact tq_Md_unreserved_12 hC hw hG hS (lx_sub hl [0] rfl) hcc hss
  · replace hw := hw.2 h
    refine lv_iload_n hx hb dq_Md_unreserved_6 rfl (lx_at hl 0 rfl) ?_
    refine lv_bipush (v := (122 : Int32)) hx hb dq_Md_unreserved_7 rfl ?_
    refine lv_icmp_le (tgt := 60) hx hb dq_Md_unreserved_9 rfl (fun h => ?_) (fun h => ?_)
    · replace hw := hw.1 h
      exact tq_Md_unreserved_60 hC hw hG hS (lx_sub hl [] rfl) hcc hss
    · replace hw := hw.2 h
      exact tq_Md_unreserved_12 hC hw hG hS (lx_sub hl [0] rfl) hcc hss
set_option maxHeartbeats 4000000 in
theorem mq_Md_unreserved {l : Launch} {E : wo_E} {mc ms : Nat} {Post : Int32 → wo_W → Prop} {G : wo_W} {x0 : Int32} (hw : pq_Md_unreserved E mc ms Post G x0) : Met l yq_Md_unreserved (Cond.code yq_Md_unreserved prog_14_method_10_code 1 ((Option.some Jvm.ClassFile.FieldType.boolean)) :: vw_WG) { frames := 0, cells := mc, slots := ms, locals := 0 } (va_Pc [.int x0] (wo_Ok E G)) (va_Qi Post (wo_B E) (en_A E)) mc ms (en_A E) := by
  unfold pq_Md_unreserved at hw
  exact wo_met [(1, .int x0)] rfl (by decide) (fun q hq => by simp only [List.mem_cons, List.not_mem_nil, or_false] at hq; rcases hq with rfl <;> first | rfl | exact lx_cR _) (Nat.le_of_ble_eq_true rfl) (fun p e R s m args below meth cd ls hC hG hS hl => tq_Md_unreserved_0 hC hw hG hS (lx_sub hl [0] rfl) (Nat.zero_le _) (Nat.zero_le _))
