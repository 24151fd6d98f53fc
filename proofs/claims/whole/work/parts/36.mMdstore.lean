theorem dq_Md_store_0 : decode prog_14_method_55_code 0 = .ok (.bipush 30, 2) := by decide +kernel
theorem dq_Md_store_2 : decode prog_14_method_55_code 2 = .ok (.iload_n 1, 1) := by decide +kernel
theorem dq_Md_store_3 : decode prog_14_method_55_code 3 = .ok (.iadd, 1) := by decide +kernel
theorem dq_Md_store_4 : decode prog_14_method_55_code 4 = .ok (.istore_n 2, 1) := by decide +kernel
theorem dq_Md_store_5 : decode prog_14_method_55_code 5 = .ok (.iconst 0, 1) := by decide +kernel
theorem dq_Md_store_6 : decode prog_14_method_55_code 6 = .ok (.istore_n 3, 1) := by decide +kernel
theorem dq_Md_store_7 : decode prog_14_method_55_code 7 = .ok (.iload_n 3, 1) := by decide +kernel
theorem dq_Md_store_8 : decode prog_14_method_55_code 8 = .ok (.bipush 20, 2) := by decide +kernel
theorem dq_Md_store_10 : decode prog_14_method_55_code 10 = .ok (.if_icmp .ge 74, 3) := by decide +kernel
theorem dq_Md_store_13 : decode prog_14_method_55_code 13 = .ok (.aload_n 0, 1) := by decide +kernel
theorem dq_Md_store_14 : decode prog_14_method_55_code 14 = .ok (.iload_n 3, 1) := by decide +kernel
theorem dq_Md_store_15 : decode prog_14_method_55_code 15 = .ok (.iload_n 1, 1) := by decide +kernel
theorem dq_Md_store_16 : decode prog_14_method_55_code 16 = .ok (.invokevirtual 346, 3) := by decide +kernel
theorem dq_Md_store_19 : decode prog_14_method_55_code 19 = .ok (.ifCond .eq 31, 3) := by decide +kernel
theorem dq_Md_store_22 : decode prog_14_method_55_code 22 = .ok (.aload_n 0, 1) := by decide +kernel
theorem dq_Md_store_23 : decode prog_14_method_55_code 23 = .ok (.iload_n 3, 1) := by decide +kernel
theorem dq_Md_store_24 : decode prog_14_method_55_code 24 = .ok (.iload_n 1, 1) := by decide +kernel
theorem dq_Md_store_25 : decode prog_14_method_55_code 25 = .ok (.invokevirtual 355, 3) := by decide +kernel
theorem dq_Md_store_28 : decode prog_14_method_55_code 28 = .ok (.ifCond .ne 18, 3) := by decide +kernel
theorem dq_Md_store_31 : decode prog_14_method_55_code 31 = .ok (.aload_n 0, 1) := by decide +kernel
theorem dq_Md_store_32 : decode prog_14_method_55_code 32 = .ok (.getfield 117, 3) := by decide +kernel
theorem dq_Md_store_35 : decode prog_14_method_55_code 35 = .ok (.iload_n 3, 1) := by decide +kernel
theorem dq_Md_store_36 : decode prog_14_method_55_code 36 = .ok (.baload, 1) := by decide +kernel
theorem dq_Md_store_37 : decode prog_14_method_55_code 37 = .ok (.aload_n 0, 1) := by decide +kernel
theorem dq_Md_store_38 : decode prog_14_method_55_code 38 = .ok (.getfield 117, 3) := by decide +kernel
theorem dq_Md_store_41 : decode prog_14_method_55_code 41 = .ok (.iload_n 2, 1) := by decide +kernel
theorem dq_Md_store_42 : decode prog_14_method_55_code 42 = .ok (.baload, 1) := by decide +kernel
theorem dq_Md_store_43 : decode prog_14_method_55_code 43 = .ok (.if_icmp .eq 7, 3) := by decide +kernel
theorem dq_Md_store_46 : decode prog_14_method_55_code 46 = .ok (.iconst 1, 1) := by decide +kernel
theorem dq_Md_store_47 : decode prog_14_method_55_code 47 = .ok (.goto 4, 3) := by decide +kernel
theorem dq_Md_store_50 : decode prog_14_method_55_code 50 = .ok (.iconst 0, 1) := by decide +kernel
theorem dq_Md_store_51 : decode prog_14_method_55_code 51 = .ok (.istore 4, 2) := by decide +kernel
theorem dq_Md_store_53 : decode prog_14_method_55_code 53 = .ok (.aload_n 0, 1) := by decide +kernel
theorem dq_Md_store_54 : decode prog_14_method_55_code 54 = .ok (.getfield 120, 3) := by decide +kernel
theorem dq_Md_store_57 : decode prog_14_method_55_code 57 = .ok (.iload_n 3, 1) := by decide +kernel
theorem dq_Md_store_58 : decode prog_14_method_55_code 58 = .ok (.aload_n 0, 1) := by decide +kernel
theorem dq_Md_store_59 : decode prog_14_method_55_code 59 = .ok (.getfield 120, 3) := by decide +kernel
theorem dq_Md_store_62 : decode prog_14_method_55_code 62 = .ok (.iload_n 3, 1) := by decide +kernel
theorem dq_Md_store_63 : decode prog_14_method_55_code 63 = .ok (.baload, 1) := by decide +kernel
theorem dq_Md_store_64 : decode prog_14_method_55_code 64 = .ok (.ifCond .eq 12, 3) := by decide +kernel
theorem dq_Md_store_67 : decode prog_14_method_55_code 67 = .ok (.iload 4, 2) := by decide +kernel
theorem dq_Md_store_69 : decode prog_14_method_55_code 69 = .ok (.ifCond .ne 7, 3) := by decide +kernel
theorem dq_Md_store_72 : decode prog_14_method_55_code 72 = .ok (.iconst 1, 1) := by decide +kernel
theorem dq_Md_store_73 : decode prog_14_method_55_code 73 = .ok (.goto 4, 3) := by decide +kernel
theorem dq_Md_store_76 : decode prog_14_method_55_code 76 = .ok (.iconst 0, 1) := by decide +kernel
theorem dq_Md_store_77 : decode prog_14_method_55_code 77 = .ok (.bastore, 1) := by decide +kernel
theorem dq_Md_store_78 : decode prog_14_method_55_code 78 = .ok (.iinc 3 1, 3) := by decide +kernel
theorem dq_Md_store_81 : decode prog_14_method_55_code 81 = .ok (.goto (-74), 3) := by decide +kernel
theorem dq_Md_store_84 : decode prog_14_method_55_code 84 = .ok (.aload_n 0, 1) := by decide +kernel
theorem dq_Md_store_85 : decode prog_14_method_55_code 85 = .ok (.iload_n 2, 1) := by decide +kernel
theorem dq_Md_store_86 : decode prog_14_method_55_code 86 = .ok (.iconst (-1), 1) := by decide +kernel
theorem dq_Md_store_87 : decode prog_14_method_55_code 87 = .ok (.iconst 1, 1) := by decide +kernel
theorem dq_Md_store_88 : decode prog_14_method_55_code 88 = .ok (.invokevirtual 301, 3) := by decide +kernel
theorem dq_Md_store_91 : decode prog_14_method_55_code 91 = .ok (.aload_n 0, 1) := by decide +kernel
theorem dq_Md_store_92 : decode prog_14_method_55_code 92 = .ok (.getfield 267, 3) := by decide +kernel
theorem dq_Md_store_95 : decode prog_14_method_55_code 95 = .ok (.istore_n 3, 1) := by decide +kernel
theorem dq_Md_store_96 : decode prog_14_method_55_code 96 = .ok (.aload_n 0, 1) := by decide +kernel
theorem dq_Md_store_97 : decode prog_14_method_55_code 97 = .ok (.iload_n 2, 1) := by decide +kernel
theorem dq_Md_store_98 : decode prog_14_method_55_code 98 = .ok (.bipush 120, 2) := by decide +kernel
theorem dq_Md_store_100 : decode prog_14_method_55_code 100 = .ok (.invokevirtual 352, 3) := by decide +kernel
theorem dq_Md_store_103 : decode prog_14_method_55_code 103 = .ok (.bipush (-2), 2) := by decide +kernel
theorem dq_Md_store_105 : decode prog_14_method_55_code 105 = .ok (.if_icmp .ne 36, 3) := by decide +kernel
theorem dq_Md_store_108 : decode prog_14_method_55_code 108 = .ok (.aload_n 0, 1) := by decide +kernel
theorem dq_Md_store_109 : decode prog_14_method_55_code 109 = .ok (.iload_n 2, 1) := by decide +kernel
theorem dq_Md_store_110 : decode prog_14_method_55_code 110 = .ok (.bipush 112, 2) := by decide +kernel
theorem dq_Md_store_112 : decode prog_14_method_55_code 112 = .ok (.invokevirtual 352, 3) := by decide +kernel
theorem dq_Md_store_115 : decode prog_14_method_55_code 115 = .ok (.bipush (-2), 2) := by decide +kernel
theorem dq_Md_store_117 : decode prog_14_method_55_code 117 = .ok (.if_icmp .ne 24, 3) := by decide +kernel
theorem dq_Md_store_120 : decode prog_14_method_55_code 120 = .ok (.aload_n 0, 1) := by decide +kernel
theorem dq_Md_store_121 : decode prog_14_method_55_code 121 = .ok (.iload_n 1, 1) := by decide +kernel
theorem dq_Md_store_122 : decode prog_14_method_55_code 122 = .ok (.iconst 4, 1) := by decide +kernel
theorem dq_Md_store_123 : decode prog_14_method_55_code 123 = .ok (.bipush 120, 2) := by decide +kernel
theorem dq_Md_store_125 : decode prog_14_method_55_code 125 = .ok (.invokevirtual 314, 3) := by decide +kernel
theorem dq_Md_store_128 : decode prog_14_method_55_code 128 = .ok (.bipush (-2), 2) := by decide +kernel
theorem dq_Md_store_130 : decode prog_14_method_55_code 130 = .ok (.if_icmp .ne 11, 3) := by decide +kernel
theorem dq_Md_store_133 : decode prog_14_method_55_code 133 = .ok (.iload_n 3, 1) := by decide +kernel
theorem dq_Md_store_134 : decode prog_14_method_55_code 134 = .ok (.aload_n 0, 1) := by decide +kernel
theorem dq_Md_store_135 : decode prog_14_method_55_code 135 = .ok (.getfield 174, 3) := by decide +kernel
theorem dq_Md_store_138 : decode prog_14_method_55_code 138 = .ok (.if_icmp .le 4, 3) := by decide +kernel
theorem dq_Md_store_141 : decode prog_14_method_55_code 141 = .ok (.return_, 1) := by decide +kernel
theorem dq_Md_store_142 : decode prog_14_method_55_code 142 = .ok (.aload_n 0, 1) := by decide +kernel
theorem dq_Md_store_143 : decode prog_14_method_55_code 143 = .ok (.invokevirtual 382, 3) := by decide +kernel
theorem dq_Md_store_146 : decode prog_14_method_55_code 146 = .ok (.iload_n 3, 1) := by decide +kernel
theorem dq_Md_store_147 : decode prog_14_method_55_code 147 = .ok (.iadd, 1) := by decide +kernel
theorem dq_Md_store_148 : decode prog_14_method_55_code 148 = .ok (.aload_n 0, 1) := by decide +kernel
theorem dq_Md_store_149 : decode prog_14_method_55_code 149 = .ok (.getfield 174, 3) := by decide +kernel
theorem dq_Md_store_152 : decode prog_14_method_55_code 152 = .ok (.if_icmp .le 74, 3) := by decide +kernel
theorem dq_Md_store_155 : decode prog_14_method_55_code 155 = .ok (.iconst (-1), 1) := by decide +kernel
theorem dq_Md_store_156 : decode prog_14_method_55_code 156 = .ok (.istore 4, 2) := by decide +kernel
theorem dq_Md_store_158 : decode prog_14_method_55_code 158 = .ok (.iconst 0, 1) := by decide +kernel
theorem dq_Md_store_159 : decode prog_14_method_55_code 159 = .ok (.istore 5, 2) := by decide +kernel
theorem dq_Md_store_161 : decode prog_14_method_55_code 161 = .ok (.iload 5, 2) := by decide +kernel
theorem dq_Md_store_163 : decode prog_14_method_55_code 163 = .ok (.bipush 20, 2) := by decide +kernel
theorem dq_Md_store_165 : decode prog_14_method_55_code 165 = .ok (.if_icmp .ge 50, 3) := by decide +kernel
theorem dq_Md_store_168 : decode prog_14_method_55_code 168 = .ok (.aload_n 0, 1) := by decide +kernel
theorem dq_Md_store_169 : decode prog_14_method_55_code 169 = .ok (.getfield 120, 3) := by decide +kernel
theorem dq_Md_store_172 : decode prog_14_method_55_code 172 = .ok (.iload 5, 2) := by decide +kernel
theorem dq_Md_store_174 : decode prog_14_method_55_code 174 = .ok (.baload, 1) := by decide +kernel
theorem dq_Md_store_175 : decode prog_14_method_55_code 175 = .ok (.ifCond .eq 30, 3) := by decide +kernel
theorem dq_Md_store_178 : decode prog_14_method_55_code 178 = .ok (.iload 4, 2) := by decide +kernel
theorem dq_Md_store_180 : decode prog_14_method_55_code 180 = .ok (.ifCond .lt 20, 3) := by decide +kernel
theorem dq_Md_store_183 : decode prog_14_method_55_code 183 = .ok (.aload_n 0, 1) := by decide +kernel
theorem dq_Md_store_184 : decode prog_14_method_55_code 184 = .ok (.getfield 141, 3) := by decide +kernel
theorem dq_Md_store_187 : decode prog_14_method_55_code 187 = .ok (.iload 5, 2) := by decide +kernel
theorem dq_Md_store_189 : decode prog_14_method_55_code 189 = .ok (.iaload, 1) := by decide +kernel
theorem dq_Md_store_190 : decode prog_14_method_55_code 190 = .ok (.aload_n 0, 1) := by decide +kernel
theorem dq_Md_store_191 : decode prog_14_method_55_code 191 = .ok (.getfield 141, 3) := by decide +kernel
theorem dq_Md_store_194 : decode prog_14_method_55_code 194 = .ok (.iload 4, 2) := by decide +kernel
theorem dq_Md_store_196 : decode prog_14_method_55_code 196 = .ok (.iaload, 1) := by decide +kernel
theorem dq_Md_store_197 : decode prog_14_method_55_code 197 = .ok (.if_icmp .ge 8, 3) := by decide +kernel
theorem dq_Md_store_200 : decode prog_14_method_55_code 200 = .ok (.iload 5, 2) := by decide +kernel
theorem dq_Md_store_202 : decode prog_14_method_55_code 202 = .ok (.goto 5, 3) := by decide +kernel
theorem dq_Md_store_205 : decode prog_14_method_55_code 205 = .ok (.iload 4, 2) := by decide +kernel
theorem dq_Md_store_207 : decode prog_14_method_55_code 207 = .ok (.istore 4, 2) := by decide +kernel
theorem dq_Md_store_209 : decode prog_14_method_55_code 209 = .ok (.iinc 5 1, 3) := by decide +kernel
theorem dq_Md_store_212 : decode prog_14_method_55_code 212 = .ok (.goto (-51), 3) := by decide +kernel
theorem dq_Md_store_215 : decode prog_14_method_55_code 215 = .ok (.aload_n 0, 1) := by decide +kernel
theorem dq_Md_store_216 : decode prog_14_method_55_code 216 = .ok (.getfield 120, 3) := by decide +kernel
theorem dq_Md_store_219 : decode prog_14_method_55_code 219 = .ok (.iload 4, 2) := by decide +kernel
theorem dq_Md_store_221 : decode prog_14_method_55_code 221 = .ok (.iconst 0, 1) := by decide +kernel
theorem dq_Md_store_222 : decode prog_14_method_55_code 222 = .ok (.bastore, 1) := by decide +kernel
theorem dq_Md_store_223 : decode prog_14_method_55_code 223 = .ok (.goto (-81), 3) := by decide +kernel
theorem dq_Md_store_226 : decode prog_14_method_55_code 226 = .ok (.iconst 0, 1) := by decide +kernel
theorem dq_Md_store_227 : decode prog_14_method_55_code 227 = .ok (.istore 4, 2) := by decide +kernel
theorem dq_Md_store_229 : decode prog_14_method_55_code 229 = .ok (.aload_n 0, 1) := by decide +kernel
theorem dq_Md_store_230 : decode prog_14_method_55_code 230 = .ok (.getfield 120, 3) := by decide +kernel
theorem dq_Md_store_233 : decode prog_14_method_55_code 233 = .ok (.iload 4, 2) := by decide +kernel
theorem dq_Md_store_235 : decode prog_14_method_55_code 235 = .ok (.baload, 1) := by decide +kernel
theorem dq_Md_store_236 : decode prog_14_method_55_code 236 = .ok (.ifCond .eq 9, 3) := by decide +kernel
theorem dq_Md_store_239 : decode prog_14_method_55_code 239 = .ok (.iinc 4 1, 3) := by decide +kernel
theorem dq_Md_store_242 : decode prog_14_method_55_code 242 = .ok (.goto (-13), 3) := by decide +kernel
theorem dq_Md_store_245 : decode prog_14_method_55_code 245 = .ok (.aload_n 0, 1) := by decide +kernel
theorem dq_Md_store_246 : decode prog_14_method_55_code 246 = .ok (.iload_n 2, 1) := by decide +kernel
theorem dq_Md_store_247 : decode prog_14_method_55_code 247 = .ok (.iload 4, 2) := by decide +kernel
theorem dq_Md_store_249 : decode prog_14_method_55_code 249 = .ok (.invokevirtual 367, 3) := by decide +kernel
theorem dq_Md_store_252 : decode prog_14_method_55_code 252 = .ok (.aload_n 0, 1) := by decide +kernel
theorem dq_Md_store_253 : decode prog_14_method_55_code 253 = .ok (.getfield 120, 3) := by decide +kernel
theorem dq_Md_store_256 : decode prog_14_method_55_code 256 = .ok (.iload 4, 2) := by decide +kernel
theorem dq_Md_store_258 : decode prog_14_method_55_code 258 = .ok (.iconst 1, 1) := by decide +kernel
theorem dq_Md_store_259 : decode prog_14_method_55_code 259 = .ok (.bastore, 1) := by decide +kernel
theorem dq_Md_store_260 : decode prog_14_method_55_code 260 = .ok (.aload_n 0, 1) := by decide +kernel
theorem dq_Md_store_261 : decode prog_14_method_55_code 261 = .ok (.getfield 123, 3) := by decide +kernel
theorem dq_Md_store_264 : decode prog_14_method_55_code 264 = .ok (.iload 4, 2) := by decide +kernel
theorem dq_Md_store_266 : decode prog_14_method_55_code 266 = .ok (.aload_n 0, 1) := by decide +kernel
theorem dq_Md_store_267 : decode prog_14_method_55_code 267 = .ok (.getfield 44, 3) := by decide +kernel
theorem dq_Md_store_270 : decode prog_14_method_55_code 270 = .ok (.iload_n 1, 1) := by decide +kernel
theorem dq_Md_store_271 : decode prog_14_method_55_code 271 = .ok (.laload, 1) := by decide +kernel
theorem dq_Md_store_272 : decode prog_14_method_55_code 272 = .ok (.lastore, 1) := by decide +kernel
theorem dq_Md_store_273 : decode prog_14_method_55_code 273 = .ok (.aload_n 0, 1) := by decide +kernel
theorem dq_Md_store_274 : decode prog_14_method_55_code 274 = .ok (.getfield 126, 3) := by decide +kernel
theorem dq_Md_store_277 : decode prog_14_method_55_code 277 = .ok (.iload 4, 2) := by decide +kernel
theorem dq_Md_store_279 : decode prog_14_method_55_code 279 = .ok (.aload_n 0, 1) := by decide +kernel
theorem dq_Md_store_280 : decode prog_14_method_55_code 280 = .ok (.getfield 48, 3) := by decide +kernel
theorem dq_Md_store_283 : decode prog_14_method_55_code 283 = .ok (.iload_n 1, 1) := by decide +kernel
theorem dq_Md_store_284 : decode prog_14_method_55_code 284 = .ok (.iaload, 1) := by decide +kernel
theorem dq_Md_store_285 : decode prog_14_method_55_code 285 = .ok (.iastore, 1) := by decide +kernel
theorem dq_Md_store_286 : decode prog_14_method_55_code 286 = .ok (.aload_n 0, 1) := by decide +kernel
theorem dq_Md_store_287 : decode prog_14_method_55_code 287 = .ok (.getfield 129, 3) := by decide +kernel
theorem dq_Md_store_290 : decode prog_14_method_55_code 290 = .ok (.iload 4, 2) := by decide +kernel
theorem dq_Md_store_292 : decode prog_14_method_55_code 292 = .ok (.aload_n 0, 1) := by decide +kernel
theorem dq_Md_store_293 : decode prog_14_method_55_code 293 = .ok (.getfield 51, 3) := by decide +kernel
theorem dq_Md_store_296 : decode prog_14_method_55_code 296 = .ok (.bipush 8, 2) := by decide +kernel
theorem dq_Md_store_298 : decode prog_14_method_55_code 298 = .ok (.iload_n 1, 1) := by decide +kernel
theorem dq_Md_store_299 : decode prog_14_method_55_code 299 = .ok (.imul, 1) := by decide +kernel
theorem dq_Md_store_300 : decode prog_14_method_55_code 300 = .ok (.iconst 5, 1) := by decide +kernel
theorem dq_Md_store_301 : decode prog_14_method_55_code 301 = .ok (.iadd, 1) := by decide +kernel
theorem dq_Md_store_302 : decode prog_14_method_55_code 302 = .ok (.laload, 1) := by decide +kernel
theorem dq_Md_store_303 : decode prog_14_method_55_code 303 = .ok (.lastore, 1) := by decide +kernel
theorem dq_Md_store_304 : decode prog_14_method_55_code 304 = .ok (.aload_n 0, 1) := by decide +kernel
theorem dq_Md_store_305 : decode prog_14_method_55_code 305 = .ok (.getfield 132, 3) := by decide +kernel
theorem dq_Md_store_308 : decode prog_14_method_55_code 308 = .ok (.iload 4, 2) := by decide +kernel
theorem dq_Md_store_310 : decode prog_14_method_55_code 310 = .ok (.aload_n 0, 1) := by decide +kernel
theorem dq_Md_store_311 : decode prog_14_method_55_code 311 = .ok (.getfield 54, 3) := by decide +kernel
theorem dq_Md_store_314 : decode prog_14_method_55_code 314 = .ok (.bipush 8, 2) := by decide +kernel
theorem dq_Md_store_316 : decode prog_14_method_55_code 316 = .ok (.iload_n 1, 1) := by decide +kernel
theorem dq_Md_store_317 : decode prog_14_method_55_code 317 = .ok (.imul, 1) := by decide +kernel
theorem dq_Md_store_318 : decode prog_14_method_55_code 318 = .ok (.iconst 5, 1) := by decide +kernel
theorem dq_Md_store_319 : decode prog_14_method_55_code 319 = .ok (.iadd, 1) := by decide +kernel
theorem dq_Md_store_320 : decode prog_14_method_55_code 320 = .ok (.iaload, 1) := by decide +kernel
theorem dq_Md_store_321 : decode prog_14_method_55_code 321 = .ok (.iastore, 1) := by decide +kernel
theorem dq_Md_store_322 : decode prog_14_method_55_code 322 = .ok (.aload_n 0, 1) := by decide +kernel
theorem dq_Md_store_323 : decode prog_14_method_55_code 323 = .ok (.getfield 135, 3) := by decide +kernel
theorem dq_Md_store_326 : decode prog_14_method_55_code 326 = .ok (.iload 4, 2) := by decide +kernel
theorem dq_Md_store_328 : decode prog_14_method_55_code 328 = .ok (.aload_n 0, 1) := by decide +kernel
theorem dq_Md_store_329 : decode prog_14_method_55_code 329 = .ok (.getfield 84, 3) := by decide +kernel
theorem dq_Md_store_332 : decode prog_14_method_55_code 332 = .ok (.iload_n 1, 1) := by decide +kernel
theorem dq_Md_store_333 : decode prog_14_method_55_code 333 = .ok (.iaload, 1) := by decide +kernel
theorem dq_Md_store_334 : decode prog_14_method_55_code 334 = .ok (.iastore, 1) := by decide +kernel
theorem dq_Md_store_335 : decode prog_14_method_55_code 335 = .ok (.aload_n 0, 1) := by decide +kernel
theorem dq_Md_store_336 : decode prog_14_method_55_code 336 = .ok (.getfield 138, 3) := by decide +kernel
theorem dq_Md_store_339 : decode prog_14_method_55_code 339 = .ok (.iload 4, 2) := by decide +kernel
theorem dq_Md_store_341 : decode prog_14_method_55_code 341 = .ok (.iload_n 3, 1) := by decide +kernel
theorem dq_Md_store_342 : decode prog_14_method_55_code 342 = .ok (.iastore, 1) := by decide +kernel
theorem dq_Md_store_343 : decode prog_14_method_55_code 343 = .ok (.aload_n 0, 1) := by decide +kernel
theorem dq_Md_store_344 : decode prog_14_method_55_code 344 = .ok (.dup, 1) := by decide +kernel
theorem dq_Md_store_345 : decode prog_14_method_55_code 345 = .ok (.getfield 361, 3) := by decide +kernel
theorem dq_Md_store_348 : decode prog_14_method_55_code 348 = .ok (.iconst 1, 1) := by decide +kernel
theorem dq_Md_store_349 : decode prog_14_method_55_code 349 = .ok (.iadd, 1) := by decide +kernel
theorem dq_Md_store_350 : decode prog_14_method_55_code 350 = .ok (.putfield 361, 3) := by decide +kernel
theorem dq_Md_store_353 : decode prog_14_method_55_code 353 = .ok (.aload_n 0, 1) := by decide +kernel
theorem dq_Md_store_354 : decode prog_14_method_55_code 354 = .ok (.getfield 141, 3) := by decide +kernel
theorem dq_Md_store_357 : decode prog_14_method_55_code 357 = .ok (.iload 4, 2) := by decide +kernel
theorem dq_Md_store_359 : decode prog_14_method_55_code 359 = .ok (.aload_n 0, 1) := by decide +kernel
theorem dq_Md_store_360 : decode prog_14_method_55_code 360 = .ok (.getfield 361, 3) := by decide +kernel
theorem dq_Md_store_363 : decode prog_14_method_55_code 363 = .ok (.iastore, 1) := by decide +kernel
theorem dq_Md_store_364 : decode prog_14_method_55_code 364 = .ok (.return_, 1) := by decide +kernel
set_option maxRecDepth 100000 in
def pq_Md_store_141 (E : wo_E) (mc ms : Nat) (Post : wo_W → Prop) (G : wo_W) (c s : Nat) : Prop := Post G
set_option maxRecDepth 100000 in
def pq_Md_store_335 (E : wo_E) (mc ms : Nat) (Post : wo_W → Prop) (G : wo_W) (c s : Nat) (x0 : Nat) (x3 : Int32) (x4 : Int32) : Prop := wo_ty G x0 = 15 ∧ ∀ r2 : Option Nat, r2 = wo_gr G 942 x0 → ∃ a4 : Nat, r2 = some a4 ∧ wo_ty G a4 = 66 ∧ vp_in x4 (wo_len G a4) ∧ en_bs E ≤ a4 ∧ ∀ G8 : wo_W, G8 = wo_sei G a4 x4.toNatClampNeg x3 → 
  en_bs E ≤ x0 ∧ ∀ G11 : wo_W, G11 = wo_si G8 944 x0 ((wo_gi G8 944 x0) + (1 : Int32)) → 
  ∀ r13 : Option Nat, r13 = wo_gr G11 943 x0 → ∃ a15 : Nat, r13 = some a15 ∧ wo_ty G11 a15 = 66 ∧ vp_in x4 (wo_len G11 a15) ∧ en_bs E ≤ a15 ∧ ∀ G19 : wo_W, G19 = wo_sei G11 a15 x4.toNatClampNeg (wo_gi G11 944 x0) → 
  Post G19
set_option maxRecDepth 100000 in
def pq_Md_store_229 (E : wo_E) (mc ms : Nat) (Post : wo_W → Prop) : Nat → wo_W → Nat → Nat → Nat → Int32 → Int32 → Int32 → Int32 → Prop
  | 0 => fun _ _ _ _ _ _ _ _ => False
  | n + 1 => fun G c s x0 x1 x2 x3 x4 => wo_ty G x0 = 15 ∧ ∀ r2 : Option Nat, r2 = wo_gr G 936 x0 → ∃ a4 : Nat, r2 = some a4 ∧ wo_ty G a4 = 72 ∧ vp_in x4 (wo_len G a4) ∧ (((wo_ei G a4 x4.toNatClampNeg) = (0 : Int32) → ∃ mc7 ms8 : Nat, (c + mc7) ≤ mc ∧ (s + ms8) ≤ ms ∧ pq_Md_copy E mc7 ms8 (fun G9 => 
    wo_ty G9 x0 = 15 ∧ ∀ r11 : Option Nat, r11 = wo_gr G9 936 x0 → ∃ a13 : Nat, r11 = some a13 ∧ wo_ty G9 a13 = 72 ∧ vp_in x4 (wo_len G9 a13) ∧ en_bs E ≤ a13 ∧ ∀ G17 : wo_W, G17 = wo_sei G9 a13 x4.toNatClampNeg (vp_nar .boolean (1 : Int32)) → 
      ∀ r19 : Option Nat, r19 = wo_gr G17 937 x0 → ∀ r21 : Option Nat, r21 = wo_gr G17 908 x0 → ∃ a23 : Nat, r21 = some a23 ∧ wo_ty G17 a23 = 73 ∧ vp_in x1 (wo_len G17 a23) ∧ ∃ a26 : Nat, r19 = some a26 ∧ wo_ty G17 a26 = 73 ∧ vp_in x4 (wo_len G17 a26) ∧ en_bs E ≤ a26 ∧ ∀ G30 : wo_W, G30 = wo_sel G17 a26 x4.toNatClampNeg (wo_el G17 a23 x1.toNatClampNeg) → 
      ∀ r32 : Option Nat, r32 = wo_gr G30 938 x0 → ∀ r34 : Option Nat, r34 = wo_gr G30 909 x0 → ∃ a36 : Nat, r34 = some a36 ∧ wo_ty G30 a36 = 66 ∧ vp_in x1 (wo_len G30 a36) ∧ ∃ a39 : Nat, r32 = some a39 ∧ wo_ty G30 a39 = 66 ∧ vp_in x4 (wo_len G30 a39) ∧ en_bs E ≤ a39 ∧ ∀ G43 : wo_W, G43 = wo_sei G30 a39 x4.toNatClampNeg (wo_ei G30 a36 x1.toNatClampNeg) → 
      ∀ r45 : Option Nat, r45 = wo_gr G43 939 x0 → ∀ r47 : Option Nat, r47 = wo_gr G43 910 x0 → ∃ a49 : Nat, r47 = some a49 ∧ wo_ty G43 a49 = 73 ∧ vp_in (((8 : Int32) * x1) + (5 : Int32)) (wo_len G43 a49) ∧ ∃ a52 : Nat, r45 = some a52 ∧ wo_ty G43 a52 = 73 ∧ vp_in x4 (wo_len G43 a52) ∧ en_bs E ≤ a52 ∧ ∀ G56 : wo_W, G56 = wo_sel G43 a52 x4.toNatClampNeg (wo_el G43 a49 (((8 : Int32) * x1) + (5 : Int32)).toNatClampNeg) → 
      ∀ r58 : Option Nat, r58 = wo_gr G56 940 x0 → ∀ r60 : Option Nat, r60 = wo_gr G56 911 x0 → ∃ a62 : Nat, r60 = some a62 ∧ wo_ty G56 a62 = 66 ∧ vp_in (((8 : Int32) * x1) + (5 : Int32)) (wo_len G56 a62) ∧ ∃ a65 : Nat, r58 = some a65 ∧ wo_ty G56 a65 = 66 ∧ vp_in x4 (wo_len G56 a65) ∧ en_bs E ≤ a65 ∧ ∀ G69 : wo_W, G69 = wo_sei G56 a65 x4.toNatClampNeg (wo_ei G56 a62 (((8 : Int32) * x1) + (5 : Int32)).toNatClampNeg) → 
      ∀ r71 : Option Nat, r71 = wo_gr G69 941 x0 → ∀ r73 : Option Nat, r73 = wo_gr G69 923 x0 → ∃ a75 : Nat, r73 = some a75 ∧ wo_ty G69 a75 = 66 ∧ vp_in x1 (wo_len G69 a75) ∧ ∃ a78 : Nat, r71 = some a78 ∧ wo_ty G69 a78 = 66 ∧ vp_in x4 (wo_len G69 a78) ∧ en_bs E ≤ a78 ∧ ∀ G82 : wo_W, G82 = wo_sei G69 a78 x4.toNatClampNeg (wo_ei G69 a75 x1.toNatClampNeg) → 
      pq_Md_store_335 E mc ms Post G82 (c + mc7) (s + ms8) x0 x3 x4) G x0 x2 x4) ∧
  (¬ (wo_ei G a4 x4.toNatClampNeg) = (0 : Int32) → pq_Md_store_229 E mc ms Post n G c s x0 x1 x2 x3 (x4 + (1 : Int32))))
set_option maxRecDepth 100000 in
def pq_Md_store_207 (E : wo_E) (mc ms : Nat) (Post : wo_W → Prop) (k142 : wo_W → Nat → Nat → Nat → Int32 → Int32 → Int32 → Prop) (k161 : wo_W → Nat → Nat → Nat → Int32 → Int32 → Int32 → Int32 → Int32 → Prop) (G : wo_W) (c s : Nat) (x0 : Nat) (x1 : Int32) (x2 : Int32) (x3 : Int32) (x5 : Int32) (y0 : Int32) : Prop := k161 G c s x0 x1 x2 x3 y0 (x5 + (1 : Int32))
set_option maxRecDepth 100000 in
def pq_Md_store_205 (E : wo_E) (mc ms : Nat) (Post : wo_W → Prop) (k142 : wo_W → Nat → Nat → Nat → Int32 → Int32 → Int32 → Prop) (k161 : wo_W → Nat → Nat → Nat → Int32 → Int32 → Int32 → Int32 → Int32 → Prop) (G : wo_W) (c s : Nat) (x0 : Nat) (x1 : Int32) (x2 : Int32) (x3 : Int32) (x4 : Int32) (x5 : Int32) : Prop := pq_Md_store_207 E mc ms Post k142 k161 G c s x0 x1 x2 x3 x5 x4
set_option maxRecDepth 100000 in
def pq_Md_store_200 (E : wo_E) (mc ms : Nat) (Post : wo_W → Prop) (k142 : wo_W → Nat → Nat → Nat → Int32 → Int32 → Int32 → Prop) (k161 : wo_W → Nat → Nat → Nat → Int32 → Int32 → Int32 → Int32 → Int32 → Prop) (G : wo_W) (c s : Nat) (x0 : Nat) (x1 : Int32) (x2 : Int32) (x3 : Int32) (x5 : Int32) : Prop := pq_Md_store_207 E mc ms Post k142 k161 G c s x0 x1 x2 x3 x5 x5
set_option maxRecDepth 100000 in
def pq_Md_store_161 (E : wo_E) (mc ms : Nat) (Post : wo_W → Prop) (k142 : wo_W → Nat → Nat → Nat → Int32 → Int32 → Int32 → Prop) : Nat → wo_W → Nat → Nat → Nat → Int32 → Int32 → Int32 → Int32 → Int32 → Prop
  | 0 => fun _ _ _ _ _ _ _ _ _ => False
  | n + 1 => fun G c s x0 x1 x2 x3 x4 x5 => (((20 : Int32) ≤ x5 → wo_ty G x0 = 15 ∧ ∀ r2 : Option Nat, r2 = wo_gr G 936 x0 → ∃ a4 : Nat, r2 = some a4 ∧ wo_ty G a4 = 72 ∧ vp_in x4 (wo_len G a4) ∧ en_bs E ≤ a4 ∧ ∀ G8 : wo_W, G8 = wo_sei G a4 x4.toNatClampNeg (vp_nar .boolean (0 : Int32)) → 
    k142 G8 c s x0 x1 x2 x3) ∧
  (¬ (20 : Int32) ≤ x5 → wo_ty G x0 = 15 ∧ ∀ r11 : Option Nat, r11 = wo_gr G 936 x0 → ∃ a13 : Nat, r11 = some a13 ∧ wo_ty G a13 = 72 ∧ vp_in x5 (wo_len G a13) ∧ (((wo_ei G a13 x5.toNatClampNeg) = (0 : Int32) → pq_Md_store_205 E mc ms Post k142 (pq_Md_store_161 E mc ms Post k142 n) G c s x0 x1 x2 x3 x4 x5) ∧
    (¬ (wo_ei G a13 x5.toNatClampNeg) = (0 : Int32) → ((x4 < (0 : Int32) → pq_Md_store_200 E mc ms Post k142 (pq_Md_store_161 E mc ms Post k142 n) G c s x0 x1 x2 x3 x5) ∧
      (¬ x4 < (0 : Int32) → ∀ r16 : Option Nat, r16 = wo_gr G 943 x0 → ∃ a18 : Nat, r16 = some a18 ∧ wo_ty G a18 = 66 ∧ vp_in x5 (wo_len G a18) ∧ ∀ r21 : Option Nat, r21 = wo_gr G 943 x0 → ∃ a23 : Nat, r21 = some a23 ∧ wo_ty G a23 = 66 ∧ vp_in x4 (wo_len G a23) ∧ (((wo_ei G a23 x4.toNatClampNeg) ≤ (wo_ei G a18 x5.toNatClampNeg) → pq_Md_store_205 E mc ms Post k142 (pq_Md_store_161 E mc ms Post k142 n) G c s x0 x1 x2 x3 x4 x5) ∧
        (¬ (wo_ei G a23 x4.toNatClampNeg) ≤ (wo_ei G a18 x5.toNatClampNeg) → pq_Md_store_200 E mc ms Post k142 (pq_Md_store_161 E mc ms Post k142 n) G c s x0 x1 x2 x3 x5))))))))
set_option maxRecDepth 100000 in
def pq_Md_store_142 (E : wo_E) (mc ms : Nat) (Post : wo_W → Prop) : Nat → wo_W → Nat → Nat → Nat → Int32 → Int32 → Int32 → Prop
  | 0 => fun _ _ _ _ _ _ _ => False
  | n + 1 => fun G c s x0 x1 x2 x3 => wo_ty G x0 = 15 ∧ ∃ mc2 ms3 : Nat, (c + mc2) ≤ mc ∧ (s + ms3) ≤ ms ∧ pq_Md_bytes E mc2 ms3 (fun v5 G4 => 
  wo_ty G4 x0 = 15 ∧ (((v5 + x3) ≤ (wo_gi G4 955 x0) → ∃ n1 : Nat, pq_Md_store_229 E mc ms Post n1 G4 (c + mc2) (s + ms3) x0 x1 x2 x3 (0 : Int32)) ∧
    (¬ (v5 + x3) ≤ (wo_gi G4 955 x0) → ∃ n1 : Nat, pq_Md_store_161 E mc ms Post (pq_Md_store_142 E mc ms Post n) n1 G4 (c + mc2) (s + ms3) x0 x1 x2 x3 (-1 : Int32) (0 : Int32)))) G x0
set_option maxRecDepth 100000 in
def pq_Md_store_77 (E : wo_E) (mc ms : Nat) (Post : wo_W → Prop) (k7 : wo_W → Nat → Nat → Nat → Int32 → Int32 → Int32 → Prop) (G : wo_W) (c s : Nat) (x0 : Nat) (x1 : Int32) (x2 : Int32) (x3 : Int32) (y0 : Option Nat) (y1 : Int32) (y2 : Int32) : Prop := ∃ a1 : Nat, y0 = some a1 ∧ wo_ty G a1 = 72 ∧ vp_in y1 (wo_len G a1) ∧ en_bs E ≤ a1 ∧ ∀ G5 : wo_W, G5 = wo_sei G a1 y1.toNatClampNeg (vp_nar .boolean y2) → 
  k7 G5 c s x0 x1 x2 (x3 + (1 : Int32))
set_option maxRecDepth 100000 in
def pq_Md_store_76 (E : wo_E) (mc ms : Nat) (Post : wo_W → Prop) (k7 : wo_W → Nat → Nat → Nat → Int32 → Int32 → Int32 → Prop) (G : wo_W) (c s : Nat) (x0 : Nat) (x1 : Int32) (x2 : Int32) (x3 : Int32) (y0 : Option Nat) (y1 : Int32) : Prop := pq_Md_store_77 E mc ms Post k7 G c s x0 x1 x2 x3 y0 y1 (0 : Int32)
set_option maxRecDepth 100000 in
def pq_Md_store_51 (E : wo_E) (mc ms : Nat) (Post : wo_W → Prop) (k7 : wo_W → Nat → Nat → Nat → Int32 → Int32 → Int32 → Prop) (G : wo_W) (c s : Nat) (x0 : Nat) (x1 : Int32) (x2 : Int32) (x3 : Int32) (y0 : Int32) : Prop := wo_ty G x0 = 15 ∧ ∀ r2 : Option Nat, r2 = wo_gr G 936 x0 → ∀ r4 : Option Nat, r4 = wo_gr G 936 x0 → ∃ a6 : Nat, r4 = some a6 ∧ wo_ty G a6 = 72 ∧ vp_in x3 (wo_len G a6) ∧ (((wo_ei G a6 x3.toNatClampNeg) = (0 : Int32) → pq_Md_store_76 E mc ms Post k7 G c s x0 x1 x2 x3 r2 x3) ∧
  (¬ (wo_ei G a6 x3.toNatClampNeg) = (0 : Int32) → ((¬ y0 = (0 : Int32) → pq_Md_store_76 E mc ms Post k7 G c s x0 x1 x2 x3 r2 x3) ∧
    (y0 = (0 : Int32) → pq_Md_store_77 E mc ms Post k7 G c s x0 x1 x2 x3 r2 x3 (1 : Int32)))))
set_option maxRecDepth 100000 in
def pq_Md_store_50 (E : wo_E) (mc ms : Nat) (Post : wo_W → Prop) (k7 : wo_W → Nat → Nat → Nat → Int32 → Int32 → Int32 → Prop) (G : wo_W) (c s : Nat) (x0 : Nat) (x1 : Int32) (x2 : Int32) (x3 : Int32) : Prop := pq_Md_store_51 E mc ms Post k7 G c s x0 x1 x2 x3 (0 : Int32)
set_option maxRecDepth 100000 in
def pq_Md_store_46 (E : wo_E) (mc ms : Nat) (Post : wo_W → Prop) (k7 : wo_W → Nat → Nat → Nat → Int32 → Int32 → Int32 → Prop) (G : wo_W) (c s : Nat) (x0 : Nat) (x1 : Int32) (x2 : Int32) (x3 : Int32) : Prop := pq_Md_store_51 E mc ms Post k7 G c s x0 x1 x2 x3 (1 : Int32)
set_option maxRecDepth 100000 in
def pq_Md_store_7 (E : wo_E) (mc ms : Nat) (Post : wo_W → Prop) : Nat → wo_W → Nat → Nat → Nat → Int32 → Int32 → Int32 → Prop
  | 0 => fun _ _ _ _ _ _ _ => False
  | n + 1 => fun G c s x0 x1 x2 x3 => (((20 : Int32) ≤ x3 → wo_ty G x0 = 15 ∧ ∃ mc2 ms3 : Nat, (c + mc2) ≤ mc ∧ (s + ms3) ≤ ms ∧ pq_Md_whole E mc2 ms3 (fun G4 => 
    wo_ty G4 x0 = 15 ∧ ∃ mc6 ms7 : Nat, ((c + mc2) + mc6) ≤ mc ∧ ((s + ms3) + ms7) ≤ ms ∧ pq_Md_inPolicy E mc6 ms7 (fun v9 G8 => 
      ((¬ v9 = (-2 : Int32) → pq_Md_store_141 E mc ms Post G8 ((c + mc2) + mc6) ((s + ms3) + ms7)) ∧
        (v9 = (-2 : Int32) → wo_ty G8 x0 = 15 ∧ ∃ mc11 ms12 : Nat, (((c + mc2) + mc6) + mc11) ≤ mc ∧ (((s + ms3) + ms7) + ms12) ≤ ms ∧ pq_Md_inPolicy E mc11 ms12 (fun v14 G13 => 
          ((¬ v14 = (-2 : Int32) → pq_Md_store_141 E mc ms Post G13 (((c + mc2) + mc6) + mc11) (((s + ms3) + ms7) + ms12)) ∧
            (v14 = (-2 : Int32) → wo_ty G13 x0 = 15 ∧ ∃ mc16 ms17 : Nat, ((((c + mc2) + mc6) + mc11) + mc16) ≤ mc ∧ ((((s + ms3) + ms7) + ms12) + ms17) ≤ ms ∧ pq_Md_inValue E mc16 ms17 (fun v19 G18 => 
              ((¬ v19 = (-2 : Int32) → pq_Md_store_141 E mc ms Post G18 ((((c + mc2) + mc6) + mc11) + mc16) ((((s + ms3) + ms7) + ms12) + ms17)) ∧
                (v19 = (-2 : Int32) → wo_ty G18 x0 = 15 ∧ (((wo_gi G4 906 x0) ≤ (wo_gi G18 955 x0) → ∃ n1 : Nat, pq_Md_store_142 E mc ms Post n1 G18 ((((c + mc2) + mc6) + mc11) + mc16) ((((s + ms3) + ms7) + ms12) + ms17) x0 x1 x2 (wo_gi G4 906 x0)) ∧
                  (¬ (wo_gi G4 906 x0) ≤ (wo_gi G18 955 x0) → pq_Md_store_141 E mc ms Post G18 ((((c + mc2) + mc6) + mc11) + mc16) ((((s + ms3) + ms7) + ms12) + ms17)))))) G13 x0 x1 (4 : Int32) (120 : Int32)))) G8 x0 x2 (112 : Int32)))) G4 x0 x2 (120 : Int32)) G x0 x2 (-1 : Int32) (1 : Int32)) ∧
  (¬ (20 : Int32) ≤ x3 → wo_ty G x0 = 15 ∧ ∃ mc22 ms23 : Nat, (c + mc22) ≤ mc ∧ (s + ms23) ≤ ms ∧ pq_Md_samePath E mc22 ms23 (fun v25 G24 => 
    ((v25 = (0 : Int32) → pq_Md_store_50 E mc ms Post (pq_Md_store_7 E mc ms Post n) G24 (c + mc22) (s + ms23) x0 x1 x2 x3) ∧
      (¬ v25 = (0 : Int32) → wo_ty G24 x0 = 15 ∧ ∃ mc27 ms28 : Nat, ((c + mc22) + mc27) ≤ mc ∧ ((s + ms23) + ms28) ≤ ms ∧ pq_Md_fits E mc27 ms28 (fun v30 G29 => 
        ((¬ v30 = (0 : Int32) → pq_Md_store_46 E mc ms Post (pq_Md_store_7 E mc ms Post n) G29 ((c + mc22) + mc27) ((s + ms23) + ms28) x0 x1 x2 x3) ∧
          (v30 = (0 : Int32) → wo_ty G29 x0 = 15 ∧ ∀ r32 : Option Nat, r32 = wo_gr G29 935 x0 → ∃ a34 : Nat, r32 = some a34 ∧ wo_ty G29 a34 = 72 ∧ vp_in x3 (wo_len G29 a34) ∧ ∀ r37 : Option Nat, r37 = wo_gr G29 935 x0 → ∃ a39 : Nat, r37 = some a39 ∧ wo_ty G29 a39 = 72 ∧ vp_in x2 (wo_len G29 a39) ∧ (((wo_ei G29 a34 x3.toNatClampNeg) = (wo_ei G29 a39 x2.toNatClampNeg) → pq_Md_store_50 E mc ms Post (pq_Md_store_7 E mc ms Post n) G29 ((c + mc22) + mc27) ((s + ms23) + ms28) x0 x1 x2 x3) ∧
            (¬ (wo_ei G29 a34 x3.toNatClampNeg) = (wo_ei G29 a39 x2.toNatClampNeg) → pq_Md_store_46 E mc ms Post (pq_Md_store_7 E mc ms Post n) G29 ((c + mc22) + mc27) ((s + ms23) + ms28) x0 x1 x2 x3))))) G24 x0 x3 x1))) G x0 x3 x1))
set_option maxRecDepth 100000 in
def pq_Md_store_0 (E : wo_E) (mc ms : Nat) (Post : wo_W → Prop) (G : wo_W) (c s : Nat) (x0 : Nat) (x1 : Int32) : Prop := ∃ n1 : Nat, pq_Md_store_7 E mc ms Post n1 G c s x0 x1 ((30 : Int32) + x1) (0 : Int32)
def pq_Md_store (E : wo_E) (mc ms : Nat) (Post : wo_W → Prop) (G : wo_W) (x0 : Nat) (x1 : Int32) : Prop := pq_Md_store_0 E mc ms Post G 0 0 x0 x1
set_option maxRecDepth 100000 in
set_option maxHeartbeats 4000000 in
theorem tq_Md_store_141 {p : Program} {l : Launch} {e : Env} {R : Room} {s₀ : State} {m : MethodId} {args : Array Value} {below : List Frame} {meth : Method} {cd : Code} {E : wo_E} {mc ms : Nat} {Post : wo_W → Prop} (hC : wo_Cx E "EdgeCacheModel" prog_14_method_55_code 6 5 111 ((Option.none : Option Jvm.ClassFile.FieldType)) "store" mc ms p R s₀ m args meth cd) : ∀ {G : wo_W} {c s : Nat}, pq_Md_store_141 E mc ms Post G c s → ∀ {H : Heap} {locs : List Loc} {ls : Array Slot}, wo_Se E G H → va_S (en_A E) s₀.heap H locs → lx_has ls 6 [] → c ≤ mc → s ≤ ms → W p l e R s₀ m args below meth cd H locs c s (MQ below (va_Qv Post (wo_B E) (en_A E)) args s₀ mc ms (en_A E)) (F0 m 141 ls []) := by
  intro G c s hw H locs ls hG hS hl hcc hss
  dsimp only [pq_Md_store_141] at hw
  have hx := hC.1
  have hb := hC.2.1
  exact wo_vret hC hG hS hcc hss hw dq_Md_store_141
set_option maxRecDepth 100000 in
set_option maxHeartbeats 4000000 in
theorem tq_Md_store_335 {p : Program} {l : Launch} {e : Env} {R : Room} {s₀ : State} {m : MethodId} {args : Array Value} {below : List Frame} {meth : Method} {cd : Code} {E : wo_E} {mc ms : Nat} {Post : wo_W → Prop} (hC : wo_Cx E "EdgeCacheModel" prog_14_method_55_code 6 5 111 ((Option.none : Option Jvm.ClassFile.FieldType)) "store" mc ms p R s₀ m args meth cd) : ∀ {G : wo_W} {c s : Nat} {x0 : Nat} {x3 : Int32} {x4 : Int32}, pq_Md_store_335 E mc ms Post G c s x0 x3 x4 → ∀ {H : Heap} {locs : List Loc} {ls : Array Slot}, wo_Se E G H → va_S (en_A E) s₀.heap H locs → lx_has ls 6 [(0, 1, .ref x0), (3, 1, .int x3), (4, 1, .int x4)] → c ≤ mc → s ≤ ms → W p l e R s₀ m args below meth cd H locs c s (MQ below (va_Qv Post (wo_B E) (en_A E)) args s₀ mc ms (en_A E)) (F0 m 335 ls []) := by
  intro G c s x0 x3 x4 hw H locs ls hG hS hl hcc hss
  dsimp only [pq_Md_store_335] at hw
  have hx := hC.1
  have hb := hC.2.1
  refine lv_aload_n hx hb dq_Md_store_335 rfl (lx_at hl 0 rfl) ?_
  obtain ⟨t1, hw⟩ := hw
  refine wo_getR hC fq_Md_138 rfl hG t1 dq_Md_store_336 (fun r2 e3 => ?_)
  replace hw := hw r2 e3
  refine lv_iload hx hb dq_Md_store_339 (lx_at hl 2 rfl) ?_
  refine lv_iload_n hx hb dq_Md_store_341 rfl (lx_at hl 1 rfl) ?_
  obtain ⟨a4, rfl, hw⟩ := hw
  obtain ⟨t5, hw⟩ := hw
  obtain ⟨h6, hw⟩ := hw
  obtain ⟨h7, hw⟩ := hw
  refine wo_iast (j := 2) hC rfl hG hS t5 h6 h7 dq_Md_store_342 (fun G8 H locs e9 hG hS => ?_)
  replace hw := hw G8 e9
  refine lv_aload_n hx hb dq_Md_store_343 rfl (lx_at hl 0 rfl) ?_
  refine lv_dup hx hb dq_Md_store_344 rfl ?_
  refine wo_getI hC fq_Md_361 rfl hG (ty_sei e9 t1) dq_Md_store_345 ?_
  refine lv_iconst (v := (1 : Int32)) hx hb dq_Md_store_348 rfl ?_
  refine lv_iadd hx hb dq_Md_store_349 ?_
  obtain ⟨h10, hw⟩ := hw
  refine wo_putI hC fq_Md_361 (Or.inl rfl) rfl (wo_ok_int _) hG hS (ty_sei e9 t1) h10 dq_Md_store_350 (fun G11 H locs e12 hG hS => ?_)
  replace hw := hw G11 e12
  refine lv_aload_n hx hb dq_Md_store_353 rfl (lx_at hl 0 rfl) ?_
  refine wo_getR hC fq_Md_141 rfl hG (ty_si e12 (ty_sei e9 t1)) dq_Md_store_354 (fun r13 e14 => ?_)
  replace hw := hw r13 e14
  refine lv_iload hx hb dq_Md_store_357 (lx_at hl 2 rfl) ?_
  refine lv_aload_n hx hb dq_Md_store_359 rfl (lx_at hl 0 rfl) ?_
  refine wo_getI hC fq_Md_361 rfl hG (ty_si e12 (ty_sei e9 t1)) dq_Md_store_360 ?_
  obtain ⟨a15, rfl, hw⟩ := hw
  obtain ⟨t16, hw⟩ := hw
  obtain ⟨h17, hw⟩ := hw
  obtain ⟨h18, hw⟩ := hw
  refine wo_iast (j := 2) hC rfl hG hS t16 h17 h18 dq_Md_store_363 (fun G19 H locs e20 hG hS => ?_)
  replace hw := hw G19 e20
  exact wo_vret hC hG hS hcc hss hw dq_Md_store_364
set_option maxRecDepth 100000 in
set_option maxHeartbeats 4000000 in
theorem tq_Md_store_229 {p : Program} {l : Launch} {e : Env} {R : Room} {s₀ : State} {m : MethodId} {args : Array Value} {below : List Frame} {meth : Method} {cd : Code} {E : wo_E} {mc ms : Nat} {Post : wo_W → Prop} (hC : wo_Cx E "EdgeCacheModel" prog_14_method_55_code 6 5 111 ((Option.none : Option Jvm.ClassFile.FieldType)) "store" mc ms p R s₀ m args meth cd) : ∀ n : Nat, ∀ {G : wo_W} {c s : Nat} {x0 : Nat} {x1 : Int32} {x2 : Int32} {x3 : Int32} {x4 : Int32}, pq_Md_store_229 E mc ms Post n G c s x0 x1 x2 x3 x4 → ∀ {H : Heap} {locs : List Loc} {ls : Array Slot}, wo_Se E G H → va_S (en_A E) s₀.heap H locs → lx_has ls 6 [(0, 1, .ref x0), (1, 1, .int x1), (2, 1, .int x2), (3, 1, .int x3), (4, 1, .int x4)] → c ≤ mc → s ≤ ms → W p l e R s₀ m args below meth cd H locs c s (MQ below (va_Qv Post (wo_B E) (en_A E)) args s₀ mc ms (en_A E)) (F0 m 229 ls []) := by
  intro n
  induction n with
  | zero => intro G c s x0 x1 x2 x3 x4 hw; exact hw.elim
  | succ n ih =>
    intro G c s x0 x1 x2 x3 x4 hw H locs ls hG hS hl hcc hss
    dsimp only [pq_Md_store_229] at hw
    have hx := hC.1
    have hb := hC.2.1
    refine lv_aload_n hx hb dq_Md_store_229 rfl (lx_at hl 0 rfl) ?_
    obtain ⟨t1, hw⟩ := hw
    refine wo_getR hC fq_Md_120 rfl hG t1 dq_Md_store_230 (fun r2 e3 => ?_)
    replace hw := hw r2 e3
    refine lv_iload hx hb dq_Md_store_233 (lx_at hl 4 rfl) ?_
    obtain ⟨a4, rfl, hw⟩ := hw
    obtain ⟨t5, hw⟩ := hw
    obtain ⟨h6, hw⟩ := hw
    refine wo_zald (j := 8) hC rfl hG t5 h6 dq_Md_store_235 ?_
    refine lv_if_eq (tgt := 245) hx hb dq_Md_store_236 rfl (fun h => ?_) (fun h => ?_)
    · replace hw := hw.1 h
      refine lv_aload_n hx hb dq_Md_store_245 rfl (lx_at hl 0 rfl) ?_
      refine lv_iload_n hx hb dq_Md_store_246 rfl (lx_at hl 2 rfl) ?_
      refine lv_iload hx hb dq_Md_store_247 (lx_at hl 4 rfl) ?_
      obtain ⟨mc7, ms8, hc1, hs1, hw⟩ := hw
      refine va_callv (wo_runV hC lq_Md_367 (mq_Md_copy hw) hG hS t1 rfl (lx_sz hl) rfl (Nat.zero_le _) (by decide) dq_Md_store_249 ⟨hc1, hs1⟩) hS (fun _ _ h => h) (fun _ h => h) (fun G9 t H locs ht hvm hw' hB _ _ hS => ?_)
      clear hw
      have hw := hw'
      clear hw'
      replace hG := wo_bk ht hB
      replace hcc := hc1
      replace hss := hs1
      refine lv_aload_n hx hb dq_Md_store_252 rfl (lx_at hl 0 rfl) ?_
      obtain ⟨t10, hw⟩ := hw
      refine wo_getR hC fq_Md_120 rfl hG t10 dq_Md_store_253 (fun r11 e12 => ?_)
      replace hw := hw r11 e12
      refine lv_iload hx hb dq_Md_store_256 (lx_at hl 4 rfl) ?_
      refine lv_iconst (v := (1 : Int32)) hx hb dq_Md_store_258 rfl ?_
      obtain ⟨a13, rfl, hw⟩ := hw
      obtain ⟨t14, hw⟩ := hw
      obtain ⟨h15, hw⟩ := hw
      obtain ⟨h16, hw⟩ := hw
      refine wo_zast (j := 8) hC rfl hG hS t14 h15 h16 dq_Md_store_259 (fun G17 H locs e18 hG hS => ?_)
      replace hw := hw G17 e18
      refine lv_aload_n hx hb dq_Md_store_260 rfl (lx_at hl 0 rfl) ?_
      refine wo_getR hC fq_Md_123 rfl hG (ty_sei e18 t10) dq_Md_store_261 (fun r19 e20 => ?_)
      replace hw := hw r19 e20
      refine lv_iload hx hb dq_Md_store_264 (lx_at hl 4 rfl) ?_
      refine lv_aload_n hx hb dq_Md_store_266 rfl (lx_at hl 0 rfl) ?_
      refine wo_getR hC fq_Md_44 rfl hG (ty_sei e18 t10) dq_Md_store_267 (fun r21 e22 => ?_)
      replace hw := hw r21 e22
      refine lv_iload_n hx hb dq_Md_store_270 rfl (lx_at hl 1 rfl) ?_
      obtain ⟨a23, rfl, hw⟩ := hw
      obtain ⟨t24, hw⟩ := hw
      obtain ⟨h25, hw⟩ := hw
      refine wo_lald (j := 9) hC rfl hG t24 h25 dq_Md_store_271 ?_
      obtain ⟨a26, rfl, hw⟩ := hw
      obtain ⟨t27, hw⟩ := hw
      obtain ⟨h28, hw⟩ := hw
      obtain ⟨h29, hw⟩ := hw
      refine wo_last (j := 9) hC rfl hG hS t27 h28 h29 dq_Md_store_272 (fun G30 H locs e31 hG hS => ?_)
      replace hw := hw G30 e31
      refine lv_aload_n hx hb dq_Md_store_273 rfl (lx_at hl 0 rfl) ?_
      refine wo_getR hC fq_Md_126 rfl hG (ty_sel e31 (ty_sei e18 t10)) dq_Md_store_274 (fun r32 e33 => ?_)
      replace hw := hw r32 e33
      refine lv_iload hx hb dq_Md_store_277 (lx_at hl 4 rfl) ?_
      refine lv_aload_n hx hb dq_Md_store_279 rfl (lx_at hl 0 rfl) ?_
      refine wo_getR hC fq_Md_48 rfl hG (ty_sel e31 (ty_sei e18 t10)) dq_Md_store_280 (fun r34 e35 => ?_)
      replace hw := hw r34 e35
      refine lv_iload_n hx hb dq_Md_store_283 rfl (lx_at hl 1 rfl) ?_
      obtain ⟨a36, rfl, hw⟩ := hw
      obtain ⟨t37, hw⟩ := hw
      obtain ⟨h38, hw⟩ := hw
      refine wo_iald (j := 2) hC rfl hG t37 h38 dq_Md_store_284 ?_
      obtain ⟨a39, rfl, hw⟩ := hw
      obtain ⟨t40, hw⟩ := hw
      obtain ⟨h41, hw⟩ := hw
      obtain ⟨h42, hw⟩ := hw
      refine wo_iast (j := 2) hC rfl hG hS t40 h41 h42 dq_Md_store_285 (fun G43 H locs e44 hG hS => ?_)
      replace hw := hw G43 e44
      refine lv_aload_n hx hb dq_Md_store_286 rfl (lx_at hl 0 rfl) ?_
      refine wo_getR hC fq_Md_129 rfl hG (ty_sei e44 (ty_sel e31 (ty_sei e18 t10))) dq_Md_store_287 (fun r45 e46 => ?_)
      replace hw := hw r45 e46
      refine lv_iload hx hb dq_Md_store_290 (lx_at hl 4 rfl) ?_
      refine lv_aload_n hx hb dq_Md_store_292 rfl (lx_at hl 0 rfl) ?_
      refine wo_getR hC fq_Md_51 rfl hG (ty_sei e44 (ty_sel e31 (ty_sei e18 t10))) dq_Md_store_293 (fun r47 e48 => ?_)
      replace hw := hw r47 e48
      refine lv_bipush (v := (8 : Int32)) hx hb dq_Md_store_296 rfl ?_
      refine lv_iload_n hx hb dq_Md_store_298 rfl (lx_at hl 1 rfl) ?_
      refine lv_imul hx hb dq_Md_store_299 ?_
      refine lv_iconst (v := (5 : Int32)) hx hb dq_Md_store_300 rfl ?_
      refine lv_iadd hx hb dq_Md_store_301 ?_
      obtain ⟨a49, rfl, hw⟩ := hw
      obtain ⟨t50, hw⟩ := hw
      obtain ⟨h51, hw⟩ := hw
      refine wo_lald (j := 9) hC rfl hG t50 h51 dq_Md_store_302 ?_
      obtain ⟨a52, rfl, hw⟩ := hw
      obtain ⟨t53, hw⟩ := hw
      obtain ⟨h54, hw⟩ := hw
      obtain ⟨h55, hw⟩ := hw
      refine wo_last (j := 9) hC rfl hG hS t53 h54 h55 dq_Md_store_303 (fun G56 H locs e57 hG hS => ?_)
      replace hw := hw G56 e57
      refine lv_aload_n hx hb dq_Md_store_304 rfl (lx_at hl 0 rfl) ?_
      refine wo_getR hC fq_Md_132 rfl hG (ty_sel e57 (ty_sei e44 (ty_sel e31 (ty_sei e18 t10)))) dq_Md_store_305 (fun r58 e59 => ?_)
      replace hw := hw r58 e59
      refine lv_iload hx hb dq_Md_store_308 (lx_at hl 4 rfl) ?_
      refine lv_aload_n hx hb dq_Md_store_310 rfl (lx_at hl 0 rfl) ?_
      refine wo_getR hC fq_Md_54 rfl hG (ty_sel e57 (ty_sei e44 (ty_sel e31 (ty_sei e18 t10)))) dq_Md_store_311 (fun r60 e61 => ?_)
      replace hw := hw r60 e61
      refine lv_bipush (v := (8 : Int32)) hx hb dq_Md_store_314 rfl ?_
      refine lv_iload_n hx hb dq_Md_store_316 rfl (lx_at hl 1 rfl) ?_
      refine lv_imul hx hb dq_Md_store_317 ?_
      refine lv_iconst (v := (5 : Int32)) hx hb dq_Md_store_318 rfl ?_
      refine lv_iadd hx hb dq_Md_store_319 ?_
      obtain ⟨a62, rfl, hw⟩ := hw
      obtain ⟨t63, hw⟩ := hw
      obtain ⟨h64, hw⟩ := hw
      refine wo_iald (j := 2) hC rfl hG t63 h64 dq_Md_store_320 ?_
      obtain ⟨a65, rfl, hw⟩ := hw
      obtain ⟨t66, hw⟩ := hw
      obtain ⟨h67, hw⟩ := hw
      obtain ⟨h68, hw⟩ := hw
      refine wo_iast (j := 2) hC rfl hG hS t66 h67 h68 dq_Md_store_321 (fun G69 H locs e70 hG hS => ?_)
      replace hw := hw G69 e70
      refine lv_aload_n hx hb dq_Md_store_322 rfl (lx_at hl 0 rfl) ?_
      refine wo_getR hC fq_Md_135 rfl hG (ty_sei e70 (ty_sel e57 (ty_sei e44 (ty_sel e31 (ty_sei e18 t10))))) dq_Md_store_323 (fun r71 e72 => ?_)
      replace hw := hw r71 e72
      refine lv_iload hx hb dq_Md_store_326 (lx_at hl 4 rfl) ?_
      refine lv_aload_n hx hb dq_Md_store_328 rfl (lx_at hl 0 rfl) ?_
      refine wo_getR hC fq_Md_84 rfl hG (ty_sei e70 (ty_sel e57 (ty_sei e44 (ty_sel e31 (ty_sei e18 t10))))) dq_Md_store_329 (fun r73 e74 => ?_)
      replace hw := hw r73 e74
      refine lv_iload_n hx hb dq_Md_store_332 rfl (lx_at hl 1 rfl) ?_
      obtain ⟨a75, rfl, hw⟩ := hw
      obtain ⟨t76, hw⟩ := hw
      obtain ⟨h77, hw⟩ := hw
      refine wo_iald (j := 2) hC rfl hG t76 h77 dq_Md_store_333 ?_
      obtain ⟨a78, rfl, hw⟩ := hw
      obtain ⟨t79, hw⟩ := hw
      obtain ⟨h80, hw⟩ := hw
      obtain ⟨h81, hw⟩ := hw
      refine wo_iast (j := 2) hC rfl hG hS t79 h80 h81 dq_Md_store_334 (fun G82 H locs e83 hG hS => ?_)
      replace hw := hw G82 e83
      exact tq_Md_store_335 hC hw hG hS (lx_sub hl [0, 3, 4] rfl) hcc hss
    · replace hw := hw.2 h
      refine lx_iinc (k := 4) (v := (x4 + (1 : Int32))) (lv' := [(4, 1, .int (x4 + (1 : Int32))), (0, 1, .ref x0), (1, 1, .int x1), (2, 1, .int x2), (3, 1, .int x3)]) hx hb dq_Md_store_239 hl rfl rfl (by decide) rfl (fun ls hl' => ?_)
      clear hl
      have hl := hl'
      clear hl'
      refine lv_goto (tgt := 229) hx hb dq_Md_store_242 rfl ?_
      exact ih hw hG hS (lx_sub hl [1, 2, 3, 4, 0] rfl) hcc hss
set_option maxRecDepth 100000 in
set_option maxHeartbeats 4000000 in
theorem tq_Md_store_207 {p : Program} {l : Launch} {e : Env} {R : Room} {s₀ : State} {m : MethodId} {args : Array Value} {below : List Frame} {meth : Method} {cd : Code} {E : wo_E} {mc ms : Nat} {Post : wo_W → Prop} {k142 : wo_W → Nat → Nat → Nat → Int32 → Int32 → Int32 → Prop} {k161 : wo_W → Nat → Nat → Nat → Int32 → Int32 → Int32 → Int32 → Int32 → Prop} (hC : wo_Cx E "EdgeCacheModel" prog_14_method_55_code 6 5 111 ((Option.none : Option Jvm.ClassFile.FieldType)) "store" mc ms p R s₀ m args meth cd) (hk142 : ∀ {G : wo_W} {c s : Nat} {x0 : Nat} {x1 : Int32} {x2 : Int32} {x3 : Int32}, k142 G c s x0 x1 x2 x3 → ∀ {H : Heap} {locs : List Loc} {ls : Array Slot}, wo_Se E G H → va_S (en_A E) s₀.heap H locs → lx_has ls 6 [(0, 1, .ref x0), (1, 1, .int x1), (2, 1, .int x2), (3, 1, .int x3)] → c ≤ mc → s ≤ ms → W p l e R s₀ m args below meth cd H locs c s (MQ below (va_Qv Post (wo_B E) (en_A E)) args s₀ mc ms (en_A E)) (F0 m 142 ls [])) (hk161 : ∀ {G : wo_W} {c s : Nat} {x0 : Nat} {x1 : Int32} {x2 : Int32} {x3 : Int32} {x4 : Int32} {x5 : Int32}, k161 G c s x0 x1 x2 x3 x4 x5 → ∀ {H : Heap} {locs : List Loc} {ls : Array Slot}, wo_Se E G H → va_S (en_A E) s₀.heap H locs → lx_has ls 6 [(0, 1, .ref x0), (1, 1, .int x1), (2, 1, .int x2), (3, 1, .int x3), (4, 1, .int x4), (5, 1, .int x5)] → c ≤ mc → s ≤ ms → W p l e R s₀ m args below meth cd H locs c s (MQ below (va_Qv Post (wo_B E) (en_A E)) args s₀ mc ms (en_A E)) (F0 m 161 ls [])) : ∀ {G : wo_W} {c s : Nat} {x0 : Nat} {x1 : Int32} {x2 : Int32} {x3 : Int32} {x5 : Int32} {y0 : Int32}, pq_Md_store_207 E mc ms Post k142 k161 G c s x0 x1 x2 x3 x5 y0 → ∀ {H : Heap} {locs : List Loc} {ls : Array Slot}, wo_Se E G H → va_S (en_A E) s₀.heap H locs → lx_has ls 6 [(0, 1, .ref x0), (1, 1, .int x1), (2, 1, .int x2), (3, 1, .int x3), (5, 1, .int x5)] → c ≤ mc → s ≤ ms → W p l e R s₀ m args below meth cd H locs c s (MQ below (va_Qv Post (wo_B E) (en_A E)) args s₀ mc ms (en_A E)) (F0 m 207 ls [.int y0]) := by
  intro G c s x0 x1 x2 x3 x5 y0 hw H locs ls hG hS hl hcc hss
  dsimp only [pq_Md_store_207] at hw
  have hx := hC.1
  have hb := hC.2.1
  refine lx_istore (lv' := [(4, 1, .int y0), (0, 1, .ref x0), (1, 1, .int x1), (2, 1, .int x2), (3, 1, .int x3), (5, 1, .int x5)]) hx hb dq_Md_store_207 hl (by decide) rfl (fun ls hl' => ?_)
  clear hl
  have hl := hl'
  clear hl'
  refine lx_iinc (k := 5) (v := (x5 + (1 : Int32))) (lv' := [(5, 1, .int (x5 + (1 : Int32))), (4, 1, .int y0), (0, 1, .ref x0), (1, 1, .int x1), (2, 1, .int x2), (3, 1, .int x3)]) hx hb dq_Md_store_209 hl rfl rfl (by decide) rfl (fun ls hl' => ?_)
  clear hl
  have hl := hl'
  clear hl'
  refine lv_goto (tgt := 161) hx hb dq_Md_store_212 rfl ?_
  exact hk161 hw hG hS (lx_sub hl [2, 3, 4, 5, 1, 0] rfl) hcc hss
set_option maxRecDepth 100000 in
set_option maxHeartbeats 4000000 in
theorem tq_Md_store_205 {p : Program} {l : Launch} {e : Env} {R : Room} {s₀ : State} {m : MethodId} {args : Array Value} {below : List Frame} {meth : Method} {cd : Code} {E : wo_E} {mc ms : Nat} {Post : wo_W → Prop} {k142 : wo_W → Nat → Nat → Nat → Int32 → Int32 → Int32 → Prop} {k161 : wo_W → Nat → Nat → Nat → Int32 → Int32 → Int32 → Int32 → Int32 → Prop} (hC : wo_Cx E "EdgeCacheModel" prog_14_method_55_code 6 5 111 ((Option.none : Option Jvm.ClassFile.FieldType)) "store" mc ms p R s₀ m args meth cd) (hk142 : ∀ {G : wo_W} {c s : Nat} {x0 : Nat} {x1 : Int32} {x2 : Int32} {x3 : Int32}, k142 G c s x0 x1 x2 x3 → ∀ {H : Heap} {locs : List Loc} {ls : Array Slot}, wo_Se E G H → va_S (en_A E) s₀.heap H locs → lx_has ls 6 [(0, 1, .ref x0), (1, 1, .int x1), (2, 1, .int x2), (3, 1, .int x3)] → c ≤ mc → s ≤ ms → W p l e R s₀ m args below meth cd H locs c s (MQ below (va_Qv Post (wo_B E) (en_A E)) args s₀ mc ms (en_A E)) (F0 m 142 ls [])) (hk161 : ∀ {G : wo_W} {c s : Nat} {x0 : Nat} {x1 : Int32} {x2 : Int32} {x3 : Int32} {x4 : Int32} {x5 : Int32}, k161 G c s x0 x1 x2 x3 x4 x5 → ∀ {H : Heap} {locs : List Loc} {ls : Array Slot}, wo_Se E G H → va_S (en_A E) s₀.heap H locs → lx_has ls 6 [(0, 1, .ref x0), (1, 1, .int x1), (2, 1, .int x2), (3, 1, .int x3), (4, 1, .int x4), (5, 1, .int x5)] → c ≤ mc → s ≤ ms → W p l e R s₀ m args below meth cd H locs c s (MQ below (va_Qv Post (wo_B E) (en_A E)) args s₀ mc ms (en_A E)) (F0 m 161 ls [])) : ∀ {G : wo_W} {c s : Nat} {x0 : Nat} {x1 : Int32} {x2 : Int32} {x3 : Int32} {x4 : Int32} {x5 : Int32}, pq_Md_store_205 E mc ms Post k142 k161 G c s x0 x1 x2 x3 x4 x5 → ∀ {H : Heap} {locs : List Loc} {ls : Array Slot}, wo_Se E G H → va_S (en_A E) s₀.heap H locs → lx_has ls 6 [(0, 1, .ref x0), (1, 1, .int x1), (2, 1, .int x2), (3, 1, .int x3), (4, 1, .int x4), (5, 1, .int x5)] → c ≤ mc → s ≤ ms → W p l e R s₀ m args below meth cd H locs c s (MQ below (va_Qv Post (wo_B E) (en_A E)) args s₀ mc ms (en_A E)) (F0 m 205 ls []) := by
  intro G c s x0 x1 x2 x3 x4 x5 hw H locs ls hG hS hl hcc hss
  dsimp only [pq_Md_store_205] at hw
  have hx := hC.1
  have hb := hC.2.1
  refine lv_iload hx hb dq_Md_store_205 (lx_at hl 4 rfl) ?_
  exact tq_Md_store_207 hC hk142 hk161 hw hG hS (lx_sub hl [0, 1, 2, 3, 5] rfl) hcc hss
set_option maxRecDepth 100000 in
set_option maxHeartbeats 4000000 in
theorem tq_Md_store_200 {p : Program} {l : Launch} {e : Env} {R : Room} {s₀ : State} {m : MethodId} {args : Array Value} {below : List Frame} {meth : Method} {cd : Code} {E : wo_E} {mc ms : Nat} {Post : wo_W → Prop} {k142 : wo_W → Nat → Nat → Nat → Int32 → Int32 → Int32 → Prop} {k161 : wo_W → Nat → Nat → Nat → Int32 → Int32 → Int32 → Int32 → Int32 → Prop} (hC : wo_Cx E "EdgeCacheModel" prog_14_method_55_code 6 5 111 ((Option.none : Option Jvm.ClassFile.FieldType)) "store" mc ms p R s₀ m args meth cd) (hk142 : ∀ {G : wo_W} {c s : Nat} {x0 : Nat} {x1 : Int32} {x2 : Int32} {x3 : Int32}, k142 G c s x0 x1 x2 x3 → ∀ {H : Heap} {locs : List Loc} {ls : Array Slot}, wo_Se E G H → va_S (en_A E) s₀.heap H locs → lx_has ls 6 [(0, 1, .ref x0), (1, 1, .int x1), (2, 1, .int x2), (3, 1, .int x3)] → c ≤ mc → s ≤ ms → W p l e R s₀ m args below meth cd H locs c s (MQ below (va_Qv Post (wo_B E) (en_A E)) args s₀ mc ms (en_A E)) (F0 m 142 ls [])) (hk161 : ∀ {G : wo_W} {c s : Nat} {x0 : Nat} {x1 : Int32} {x2 : Int32} {x3 : Int32} {x4 : Int32} {x5 : Int32}, k161 G c s x0 x1 x2 x3 x4 x5 → ∀ {H : Heap} {locs : List Loc} {ls : Array Slot}, wo_Se E G H → va_S (en_A E) s₀.heap H locs → lx_has ls 6 [(0, 1, .ref x0), (1, 1, .int x1), (2, 1, .int x2), (3, 1, .int x3), (4, 1, .int x4), (5, 1, .int x5)] → c ≤ mc → s ≤ ms → W p l e R s₀ m args below meth cd H locs c s (MQ below (va_Qv Post (wo_B E) (en_A E)) args s₀ mc ms (en_A E)) (F0 m 161 ls [])) : ∀ {G : wo_W} {c s : Nat} {x0 : Nat} {x1 : Int32} {x2 : Int32} {x3 : Int32} {x5 : Int32}, pq_Md_store_200 E mc ms Post k142 k161 G c s x0 x1 x2 x3 x5 → ∀ {H : Heap} {locs : List Loc} {ls : Array Slot}, wo_Se E G H → va_S (en_A E) s₀.heap H locs → lx_has ls 6 [(0, 1, .ref x0), (1, 1, .int x1), (2, 1, .int x2), (3, 1, .int x3), (5, 1, .int x5)] → c ≤ mc → s ≤ ms → W p l e R s₀ m args below meth cd H locs c s (MQ below (va_Qv Post (wo_B E) (en_A E)) args s₀ mc ms (en_A E)) (F0 m 200 ls []) := by
  intro G c s x0 x1 x2 x3 x5 hw H locs ls hG hS hl hcc hss
  dsimp only [pq_Md_store_200] at hw
  have hx := hC.1
  have hb := hC.2.1
  refine lv_iload hx hb dq_Md_store_200 (lx_at hl 4 rfl) ?_
  refine lv_goto (tgt := 207) hx hb dq_Md_store_202 rfl ?_
  exact tq_Md_store_207 hC hk142 hk161 hw hG hS (lx_sub hl [0, 1, 2, 3, 4] rfl) hcc hss
set_option maxRecDepth 100000 in
set_option maxHeartbeats 4000000 in
theorem tq_Md_store_161 {p : Program} {l : Launch} {e : Env} {R : Room} {s₀ : State} {m : MethodId} {args : Array Value} {below : List Frame} {meth : Method} {cd : Code} {E : wo_E} {mc ms : Nat} {Post : wo_W → Prop} {k142 : wo_W → Nat → Nat → Nat → Int32 → Int32 → Int32 → Prop} (hC : wo_Cx E "EdgeCacheModel" prog_14_method_55_code 6 5 111 ((Option.none : Option Jvm.ClassFile.FieldType)) "store" mc ms p R s₀ m args meth cd) (hk142 : ∀ {G : wo_W} {c s : Nat} {x0 : Nat} {x1 : Int32} {x2 : Int32} {x3 : Int32}, k142 G c s x0 x1 x2 x3 → ∀ {H : Heap} {locs : List Loc} {ls : Array Slot}, wo_Se E G H → va_S (en_A E) s₀.heap H locs → lx_has ls 6 [(0, 1, .ref x0), (1, 1, .int x1), (2, 1, .int x2), (3, 1, .int x3)] → c ≤ mc → s ≤ ms → W p l e R s₀ m args below meth cd H locs c s (MQ below (va_Qv Post (wo_B E) (en_A E)) args s₀ mc ms (en_A E)) (F0 m 142 ls [])) : ∀ n : Nat, ∀ {G : wo_W} {c s : Nat} {x0 : Nat} {x1 : Int32} {x2 : Int32} {x3 : Int32} {x4 : Int32} {x5 : Int32}, pq_Md_store_161 E mc ms Post k142 n G c s x0 x1 x2 x3 x4 x5 → ∀ {H : Heap} {locs : List Loc} {ls : Array Slot}, wo_Se E G H → va_S (en_A E) s₀.heap H locs → lx_has ls 6 [(0, 1, .ref x0), (1, 1, .int x1), (2, 1, .int x2), (3, 1, .int x3), (4, 1, .int x4), (5, 1, .int x5)] → c ≤ mc → s ≤ ms → W p l e R s₀ m args below meth cd H locs c s (MQ below (va_Qv Post (wo_B E) (en_A E)) args s₀ mc ms (en_A E)) (F0 m 161 ls []) := by
  intro n
  induction n with
  | zero => intro G c s x0 x1 x2 x3 x4 x5 hw; exact hw.elim
  | succ n ih =>
    intro G c s x0 x1 x2 x3 x4 x5 hw H locs ls hG hS hl hcc hss
    dsimp only [pq_Md_store_161] at hw
    have hx := hC.1
    have hb := hC.2.1
    refine lv_iload hx hb dq_Md_store_161 (lx_at hl 5 rfl) ?_
    refine lv_bipush (v := (20 : Int32)) hx hb dq_Md_store_163 rfl ?_
    refine lv_icmp_ge (tgt := 215) hx hb dq_Md_store_165 rfl (fun h => ?_) (fun h => ?_)
    · replace hw := hw.1 h
      refine lv_aload_n hx hb dq_Md_store_215 rfl (lx_at hl 0 rfl) ?_
      obtain ⟨t1, hw⟩ := hw
      refine wo_getR hC fq_Md_120 rfl hG t1 dq_Md_store_216 (fun r2 e3 => ?_)
      replace hw := hw r2 e3
      refine lv_iload hx hb dq_Md_store_219 (lx_at hl 4 rfl) ?_
      refine lv_iconst (v := (0 : Int32)) hx hb dq_Md_store_221 rfl ?_
      obtain ⟨a4, rfl, hw⟩ := hw
      obtain ⟨t5, hw⟩ := hw
      obtain ⟨h6, hw⟩ := hw
      obtain ⟨h7, hw⟩ := hw
      refine wo_zast (j := 8) hC rfl hG hS t5 h6 h7 dq_Md_store_222 (fun G8 H locs e9 hG hS => ?_)
      replace hw := hw G8 e9
      refine lv_goto (tgt := 142) hx hb dq_Md_store_223 rfl ?_
      exact hk142 hw hG hS (lx_sub hl [0, 1, 2, 3] rfl) hcc hss
    · replace hw := hw.2 h
      refine lv_aload_n hx hb dq_Md_store_168 rfl (lx_at hl 0 rfl) ?_
      obtain ⟨t10, hw⟩ := hw
      refine wo_getR hC fq_Md_120 rfl hG t10 dq_Md_store_169 (fun r11 e12 => ?_)
      replace hw := hw r11 e12
      refine lv_iload hx hb dq_Md_store_172 (lx_at hl 5 rfl) ?_
      obtain ⟨a13, rfl, hw⟩ := hw
      obtain ⟨t14, hw⟩ := hw
      obtain ⟨h15, hw⟩ := hw
      refine wo_zald (j := 8) hC rfl hG t14 h15 dq_Md_store_174 ?_
      refine lv_if_eq (tgt := 205) hx hb dq_Md_store_175 rfl (fun h => ?_) (fun h => ?_)
      · replace hw := hw.1 h
        exact tq_Md_store_205 hC hk142 ih hw hG hS (lx_sub hl [0, 1, 2, 3, 4, 5] rfl) hcc hss
      · replace hw := hw.2 h
        refine lv_iload hx hb dq_Md_store_178 (lx_at hl 4 rfl) ?_
        refine lv_if_lt (tgt := 200) hx hb dq_Md_store_180 rfl (fun h => ?_) (fun h => ?_)
        · replace hw := hw.1 h
          exact tq_Md_store_200 hC hk142 ih hw hG hS (lx_sub hl [0, 1, 2, 3, 5] rfl) hcc hss
        · replace hw := hw.2 h
          refine lv_aload_n hx hb dq_Md_store_183 rfl (lx_at hl 0 rfl) ?_
          refine wo_getR hC fq_Md_141 rfl hG t10 dq_Md_store_184 (fun r16 e17 => ?_)
          replace hw := hw r16 e17
          refine lv_iload hx hb dq_Md_store_187 (lx_at hl 5 rfl) ?_
          obtain ⟨a18, rfl, hw⟩ := hw
          obtain ⟨t19, hw⟩ := hw
          obtain ⟨h20, hw⟩ := hw
          refine wo_iald (j := 2) hC rfl hG t19 h20 dq_Md_store_189 ?_
          refine lv_aload_n hx hb dq_Md_store_190 rfl (lx_at hl 0 rfl) ?_
          refine wo_getR hC fq_Md_141 rfl hG t10 dq_Md_store_191 (fun r21 e22 => ?_)
          replace hw := hw r21 e22
          refine lv_iload hx hb dq_Md_store_194 (lx_at hl 4 rfl) ?_
          obtain ⟨a23, rfl, hw⟩ := hw
          obtain ⟨t24, hw⟩ := hw
          obtain ⟨h25, hw⟩ := hw
          refine wo_iald (j := 2) hC rfl hG t24 h25 dq_Md_store_196 ?_
          refine lv_icmp_ge (tgt := 205) hx hb dq_Md_store_197 rfl (fun h => ?_) (fun h => ?_)
          · replace hw := hw.1 h
            exact tq_Md_store_205 hC hk142 ih hw hG hS (lx_sub hl [0, 1, 2, 3, 4, 5] rfl) hcc hss
          · replace hw := hw.2 h
            exact tq_Md_store_200 hC hk142 ih hw hG hS (lx_sub hl [0, 1, 2, 3, 5] rfl) hcc hss
set_option maxRecDepth 100000 in
set_option maxHeartbeats 4000000 in
theorem tq_Md_store_142 {p : Program} {l : Launch} {e : Env} {R : Room} {s₀ : State} {m : MethodId} {args : Array Value} {below : List Frame} {meth : Method} {cd : Code} {E : wo_E} {mc ms : Nat} {Post : wo_W → Prop} (hC : wo_Cx E "EdgeCacheModel" prog_14_method_55_code 6 5 111 ((Option.none : Option Jvm.ClassFile.FieldType)) "store" mc ms p R s₀ m args meth cd) : ∀ n : Nat, ∀ {G : wo_W} {c s : Nat} {x0 : Nat} {x1 : Int32} {x2 : Int32} {x3 : Int32}, pq_Md_store_142 E mc ms Post n G c s x0 x1 x2 x3 → ∀ {H : Heap} {locs : List Loc} {ls : Array Slot}, wo_Se E G H → va_S (en_A E) s₀.heap H locs → lx_has ls 6 [(0, 1, .ref x0), (1, 1, .int x1), (2, 1, .int x2), (3, 1, .int x3)] → c ≤ mc → s ≤ ms → W p l e R s₀ m args below meth cd H locs c s (MQ below (va_Qv Post (wo_B E) (en_A E)) args s₀ mc ms (en_A E)) (F0 m 142 ls []) := by
  intro n
  induction n with
  | zero => intro G c s x0 x1 x2 x3 hw; exact hw.elim
  | succ n ih =>
    intro G c s x0 x1 x2 x3 hw H locs ls hG hS hl hcc hss
    dsimp only [pq_Md_store_142] at hw
    have hx := hC.1
    have hb := hC.2.1
    refine lv_aload_n hx hb dq_Md_store_142 rfl (lx_at hl 0 rfl) ?_
    obtain ⟨t1, hw⟩ := hw
    obtain ⟨mc2, ms3, hc1, hs1, hw⟩ := hw
    refine va_calli (wo_runV hC lq_Md_382 (mq_Md_bytes hw) hG hS t1 rfl (lx_sz hl) rfl (Nat.zero_le _) (by decide) dq_Md_store_143 ⟨hc1, hs1⟩) hS (fun _ _ h => h) (fun _ h => h) (fun v5 G4 t H locs ht hvm hw' hB _ _ hS => ?_)
    clear hw
    have hw := hw'
    clear hw'
    replace hG := wo_bk ht hB
    replace hcc := hc1
    replace hss := hs1
    refine lv_iload_n hx hb dq_Md_store_146 rfl (lx_at hl 3 rfl) ?_
    refine lv_iadd hx hb dq_Md_store_147 ?_
    refine lv_aload_n hx hb dq_Md_store_148 rfl (lx_at hl 0 rfl) ?_
    obtain ⟨t6, hw⟩ := hw
    refine wo_getI hC fq_Md_174 rfl hG t6 dq_Md_store_149 ?_
    refine lv_icmp_le (tgt := 226) hx hb dq_Md_store_152 rfl (fun h => ?_) (fun h => ?_)
    · replace hw := hw.1 h
      refine lv_iconst (v := (0 : Int32)) hx hb dq_Md_store_226 rfl ?_
      refine lx_istore (lv' := [(4, 1, .int (0 : Int32)), (0, 1, .ref x0), (1, 1, .int x1), (2, 1, .int x2), (3, 1, .int x3)]) hx hb dq_Md_store_227 hl (by decide) rfl (fun ls hl' => ?_)
      clear hl
      have hl := hl'
      clear hl'
      obtain ⟨n1, hw⟩ := hw
      exact tq_Md_store_229 hC n1 hw hG hS (lx_sub hl [1, 2, 3, 4, 0] rfl) hcc hss
    · replace hw := hw.2 h
      refine lv_iconst (v := (-1 : Int32)) hx hb dq_Md_store_155 rfl ?_
      refine lx_istore (lv' := [(4, 1, .int (-1 : Int32)), (0, 1, .ref x0), (1, 1, .int x1), (2, 1, .int x2), (3, 1, .int x3)]) hx hb dq_Md_store_156 hl (by decide) rfl (fun ls hl' => ?_)
      clear hl
      have hl := hl'
      clear hl'
      refine lv_iconst (v := (0 : Int32)) hx hb dq_Md_store_158 rfl ?_
      refine lx_istore (lv' := [(5, 1, .int (0 : Int32)), (4, 1, .int (-1 : Int32)), (0, 1, .ref x0), (1, 1, .int x1), (2, 1, .int x2), (3, 1, .int x3)]) hx hb dq_Md_store_159 hl (by decide) rfl (fun ls hl' => ?_)
      clear hl
      have hl := hl'
      clear hl'
      obtain ⟨n1, hw⟩ := hw
      exact tq_Md_store_161 hC ih n1 hw hG hS (lx_sub hl [2, 3, 4, 5, 1, 0] rfl) hcc hss
set_option maxRecDepth 100000 in
set_option maxHeartbeats 4000000 in
theorem tq_Md_store_77 {p : Program} {l : Launch} {e : Env} {R : Room} {s₀ : State} {m : MethodId} {args : Array Value} {below : List Frame} {meth : Method} {cd : Code} {E : wo_E} {mc ms : Nat} {Post : wo_W → Prop} {k7 : wo_W → Nat → Nat → Nat → Int32 → Int32 → Int32 → Prop} (hC : wo_Cx E "EdgeCacheModel" prog_14_method_55_code 6 5 111 ((Option.none : Option Jvm.ClassFile.FieldType)) "store" mc ms p R s₀ m args meth cd) (hk7 : ∀ {G : wo_W} {c s : Nat} {x0 : Nat} {x1 : Int32} {x2 : Int32} {x3 : Int32}, k7 G c s x0 x1 x2 x3 → ∀ {H : Heap} {locs : List Loc} {ls : Array Slot}, wo_Se E G H → va_S (en_A E) s₀.heap H locs → lx_has ls 6 [(0, 1, .ref x0), (1, 1, .int x1), (2, 1, .int x2), (3, 1, .int x3)] → c ≤ mc → s ≤ ms → W p l e R s₀ m args below meth cd H locs c s (MQ below (va_Qv Post (wo_B E) (en_A E)) args s₀ mc ms (en_A E)) (F0 m 7 ls [])) : ∀ {G : wo_W} {c s : Nat} {x0 : Nat} {x1 : Int32} {x2 : Int32} {x3 : Int32} {y0 : Option Nat} {y1 : Int32} {y2 : Int32}, pq_Md_store_77 E mc ms Post k7 G c s x0 x1 x2 x3 y0 y1 y2 → ∀ {H : Heap} {locs : List Loc} {ls : Array Slot}, wo_Se E G H → va_S (en_A E) s₀.heap H locs → lx_has ls 6 [(0, 1, .ref x0), (1, 1, .int x1), (2, 1, .int x2), (3, 1, .int x3)] → c ≤ mc → s ≤ ms → W p l e R s₀ m args below meth cd H locs c s (MQ below (va_Qv Post (wo_B E) (en_A E)) args s₀ mc ms (en_A E)) (F0 m 77 ls [.int y2, .int y1, va_rf y0]) := by
  intro G c s x0 x1 x2 x3 y0 y1 y2 hw H locs ls hG hS hl hcc hss
  dsimp only [pq_Md_store_77] at hw
  have hx := hC.1
  have hb := hC.2.1
  obtain ⟨a1, rfl, hw⟩ := hw
  obtain ⟨t2, hw⟩ := hw
  obtain ⟨h3, hw⟩ := hw
  obtain ⟨h4, hw⟩ := hw
  refine wo_zast (j := 8) hC rfl hG hS t2 h3 h4 dq_Md_store_77 (fun G5 H locs e6 hG hS => ?_)
  replace hw := hw G5 e6
  refine lx_iinc (k := 3) (v := (x3 + (1 : Int32))) (lv' := [(3, 1, .int (x3 + (1 : Int32))), (0, 1, .ref x0), (1, 1, .int x1), (2, 1, .int x2)]) hx hb dq_Md_store_78 hl rfl rfl (by decide) rfl (fun ls hl' => ?_)
  clear hl
  have hl := hl'
  clear hl'
  refine lv_goto (tgt := 7) hx hb dq_Md_store_81 rfl ?_
  exact hk7 hw hG hS (lx_sub hl [1, 2, 3, 0] rfl) hcc hss
set_option maxRecDepth 100000 in
set_option maxHeartbeats 4000000 in
theorem tq_Md_store_76 {p : Program} {l : Launch} {e : Env} {R : Room} {s₀ : State} {m : MethodId} {args : Array Value} {below : List Frame} {meth : Method} {cd : Code} {E : wo_E} {mc ms : Nat} {Post : wo_W → Prop} {k7 : wo_W → Nat → Nat → Nat → Int32 → Int32 → Int32 → Prop} (hC : wo_Cx E "EdgeCacheModel" prog_14_method_55_code 6 5 111 ((Option.none : Option Jvm.ClassFile.FieldType)) "store" mc ms p R s₀ m args meth cd) (hk7 : ∀ {G : wo_W} {c s : Nat} {x0 : Nat} {x1 : Int32} {x2 : Int32} {x3 : Int32}, k7 G c s x0 x1 x2 x3 → ∀ {H : Heap} {locs : List Loc} {ls : Array Slot}, wo_Se E G H → va_S (en_A E) s₀.heap H locs → lx_has ls 6 [(0, 1, .ref x0), (1, 1, .int x1), (2, 1, .int x2), (3, 1, .int x3)] → c ≤ mc → s ≤ ms → W p l e R s₀ m args below meth cd H locs c s (MQ below (va_Qv Post (wo_B E) (en_A E)) args s₀ mc ms (en_A E)) (F0 m 7 ls [])) : ∀ {G : wo_W} {c s : Nat} {x0 : Nat} {x1 : Int32} {x2 : Int32} {x3 : Int32} {y0 : Option Nat} {y1 : Int32}, pq_Md_store_76 E mc ms Post k7 G c s x0 x1 x2 x3 y0 y1 → ∀ {H : Heap} {locs : List Loc} {ls : Array Slot}, wo_Se E G H → va_S (en_A E) s₀.heap H locs → lx_has ls 6 [(0, 1, .ref x0), (1, 1, .int x1), (2, 1, .int x2), (3, 1, .int x3)] → c ≤ mc → s ≤ ms → W p l e R s₀ m args below meth cd H locs c s (MQ below (va_Qv Post (wo_B E) (en_A E)) args s₀ mc ms (en_A E)) (F0 m 76 ls [.int y1, va_rf y0]) := by
  intro G c s x0 x1 x2 x3 y0 y1 hw H locs ls hG hS hl hcc hss
  dsimp only [pq_Md_store_76] at hw
  have hx := hC.1
  have hb := hC.2.1
  refine lv_iconst (v := (0 : Int32)) hx hb dq_Md_store_76 rfl ?_
  exact tq_Md_store_77 hC hk7 hw hG hS (lx_sub hl [0, 1, 2, 3] rfl) hcc hss
set_option maxRecDepth 100000 in
set_option maxHeartbeats 4000000 in
theorem tq_Md_store_51 {p : Program} {l : Launch} {e : Env} {R : Room} {s₀ : State} {m : MethodId} {args : Array Value} {below : List Frame} {meth : Method} {cd : Code} {E : wo_E} {mc ms : Nat} {Post : wo_W → Prop} {k7 : wo_W → Nat → Nat → Nat → Int32 → Int32 → Int32 → Prop} (hC : wo_Cx E "EdgeCacheModel" prog_14_method_55_code 6 5 111 ((Option.none : Option Jvm.ClassFile.FieldType)) "store" mc ms p R s₀ m args meth cd) (hk7 : ∀ {G : wo_W} {c s : Nat} {x0 : Nat} {x1 : Int32} {x2 : Int32} {x3 : Int32}, k7 G c s x0 x1 x2 x3 → ∀ {H : Heap} {locs : List Loc} {ls : Array Slot}, wo_Se E G H → va_S (en_A E) s₀.heap H locs → lx_has ls 6 [(0, 1, .ref x0), (1, 1, .int x1), (2, 1, .int x2), (3, 1, .int x3)] → c ≤ mc → s ≤ ms → W p l e R s₀ m args below meth cd H locs c s (MQ below (va_Qv Post (wo_B E) (en_A E)) args s₀ mc ms (en_A E)) (F0 m 7 ls [])) : ∀ {G : wo_W} {c s : Nat} {x0 : Nat} {x1 : Int32} {x2 : Int32} {x3 : Int32} {y0 : Int32}, pq_Md_store_51 E mc ms Post k7 G c s x0 x1 x2 x3 y0 → ∀ {H : Heap} {locs : List Loc} {ls : Array Slot}, wo_Se E G H → va_S (en_A E) s₀.heap H locs → lx_has ls 6 [(0, 1, .ref x0), (1, 1, .int x1), (2, 1, .int x2), (3, 1, .int x3)] → c ≤ mc → s ≤ ms → W p l e R s₀ m args below meth cd H locs c s (MQ below (va_Qv Post (wo_B E) (en_A E)) args s₀ mc ms (en_A E)) (F0 m 51 ls [.int y0]) := by
  intro G c s x0 x1 x2 x3 y0 hw H locs ls hG hS hl hcc hss
  dsimp only [pq_Md_store_51] at hw
  have hx := hC.1
  have hb := hC.2.1
  refine lx_istore (lv' := [(4, 1, .int y0), (0, 1, .ref x0), (1, 1, .int x1), (2, 1, .int x2), (3, 1, .int x3)]) hx hb dq_Md_store_51 hl (by decide) rfl (fun ls hl' => ?_)
  clear hl
  have hl := hl'
  clear hl'
  refine lv_aload_n hx hb dq_Md_store_53 rfl (lx_at hl 1 rfl) ?_
  obtain ⟨t1, hw⟩ := hw
  refine wo_getR hC fq_Md_120 rfl hG t1 dq_Md_store_54 (fun r2 e3 => ?_)
  replace hw := hw r2 e3
  refine lv_iload_n hx hb dq_Md_store_57 rfl (lx_at hl 4 rfl) ?_
  refine lv_aload_n hx hb dq_Md_store_58 rfl (lx_at hl 1 rfl) ?_
  refine wo_getR hC fq_Md_120 rfl hG t1 dq_Md_store_59 (fun r4 e5 => ?_)
  replace hw := hw r4 e5
  refine lv_iload_n hx hb dq_Md_store_62 rfl (lx_at hl 4 rfl) ?_
  obtain ⟨a6, rfl, hw⟩ := hw
  obtain ⟨t7, hw⟩ := hw
  obtain ⟨h8, hw⟩ := hw
  refine wo_zald (j := 8) hC rfl hG t7 h8 dq_Md_store_63 ?_
  refine lv_if_eq (tgt := 76) hx hb dq_Md_store_64 rfl (fun h => ?_) (fun h => ?_)
  · replace hw := hw.1 h
    exact tq_Md_store_76 hC hk7 hw hG hS (lx_sub hl [1, 2, 3, 4] rfl) hcc hss
  · replace hw := hw.2 h
    refine lv_iload hx hb dq_Md_store_67 (lx_at hl 0 rfl) ?_
    refine lv_if_ne (tgt := 76) hx hb dq_Md_store_69 rfl (fun h => ?_) (fun h => ?_)
    · replace hw := hw.1 h
      exact tq_Md_store_76 hC hk7 hw hG hS (lx_sub hl [1, 2, 3, 4] rfl) hcc hss
    · replace hw := hw.2 h
      refine lv_iconst (v := (1 : Int32)) hx hb dq_Md_store_72 rfl ?_
      refine lv_goto (tgt := 77) hx hb dq_Md_store_73 rfl ?_
      exact tq_Md_store_77 hC hk7 hw hG hS (lx_sub hl [1, 2, 3, 4] rfl) hcc hss
set_option maxRecDepth 100000 in
set_option maxHeartbeats 4000000 in
theorem tq_Md_store_50 {p : Program} {l : Launch} {e : Env} {R : Room} {s₀ : State} {m : MethodId} {args : Array Value} {below : List Frame} {meth : Method} {cd : Code} {E : wo_E} {mc ms : Nat} {Post : wo_W → Prop} {k7 : wo_W → Nat → Nat → Nat → Int32 → Int32 → Int32 → Prop} (hC : wo_Cx E "EdgeCacheModel" prog_14_method_55_code 6 5 111 ((Option.none : Option Jvm.ClassFile.FieldType)) "store" mc ms p R s₀ m args meth cd) (hk7 : ∀ {G : wo_W} {c s : Nat} {x0 : Nat} {x1 : Int32} {x2 : Int32} {x3 : Int32}, k7 G c s x0 x1 x2 x3 → ∀ {H : Heap} {locs : List Loc} {ls : Array Slot}, wo_Se E G H → va_S (en_A E) s₀.heap H locs → lx_has ls 6 [(0, 1, .ref x0), (1, 1, .int x1), (2, 1, .int x2), (3, 1, .int x3)] → c ≤ mc → s ≤ ms → W p l e R s₀ m args below meth cd H locs c s (MQ below (va_Qv Post (wo_B E) (en_A E)) args s₀ mc ms (en_A E)) (F0 m 7 ls [])) : ∀ {G : wo_W} {c s : Nat} {x0 : Nat} {x1 : Int32} {x2 : Int32} {x3 : Int32}, pq_Md_store_50 E mc ms Post k7 G c s x0 x1 x2 x3 → ∀ {H : Heap} {locs : List Loc} {ls : Array Slot}, wo_Se E G H → va_S (en_A E) s₀.heap H locs → lx_has ls 6 [(0, 1, .ref x0), (1, 1, .int x1), (2, 1, .int x2), (3, 1, .int x3)] → c ≤ mc → s ≤ ms → W p l e R s₀ m args below meth cd H locs c s (MQ below (va_Qv Post (wo_B E) (en_A E)) args s₀ mc ms (en_A E)) (F0 m 50 ls []) := by
  intro G c s x0 x1 x2 x3 hw H locs ls hG hS hl hcc hss
  dsimp only [pq_Md_store_50] at hw
  have hx := hC.1
  have hb := hC.2.1
  refine lv_iconst (v := (0 : Int32)) hx hb dq_Md_store_50 rfl ?_
  exact tq_Md_store_51 hC hk7 hw hG hS (lx_sub hl [0, 1, 2, 3] rfl) hcc hss
set_option maxRecDepth 100000 in
set_option maxHeartbeats 4000000 in
theorem tq_Md_store_46 {p : Program} {l : Launch} {e : Env} {R : Room} {s₀ : State} {m : MethodId} {args : Array Value} {below : List Frame} {meth : Method} {cd : Code} {E : wo_E} {mc ms : Nat} {Post : wo_W → Prop} {k7 : wo_W → Nat → Nat → Nat → Int32 → Int32 → Int32 → Prop} (hC : wo_Cx E "EdgeCacheModel" prog_14_method_55_code 6 5 111 ((Option.none : Option Jvm.ClassFile.FieldType)) "store" mc ms p R s₀ m args meth cd) (hk7 : ∀ {G : wo_W} {c s : Nat} {x0 : Nat} {x1 : Int32} {x2 : Int32} {x3 : Int32}, k7 G c s x0 x1 x2 x3 → ∀ {H : Heap} {locs : List Loc} {ls : Array Slot}, wo_Se E G H → va_S (en_A E) s₀.heap H locs → lx_has ls 6 [(0, 1, .ref x0), (1, 1, .int x1), (2, 1, .int x2), (3, 1, .int x3)] → c ≤ mc → s ≤ ms → W p l e R s₀ m args below meth cd H locs c s (MQ below (va_Qv Post (wo_B E) (en_A E)) args s₀ mc ms (en_A E)) (F0 m 7 ls [])) : ∀ {G : wo_W} {c s : Nat} {x0 : Nat} {x1 : Int32} {x2 : Int32} {x3 : Int32}, pq_Md_store_46 E mc ms Post k7 G c s x0 x1 x2 x3 → ∀ {H : Heap} {locs : List Loc} {ls : Array Slot}, wo_Se E G H → va_S (en_A E) s₀.heap H locs → lx_has ls 6 [(0, 1, .ref x0), (1, 1, .int x1), (2, 1, .int x2), (3, 1, .int x3)] → c ≤ mc → s ≤ ms → W p l e R s₀ m args below meth cd H locs c s (MQ below (va_Qv Post (wo_B E) (en_A E)) args s₀ mc ms (en_A E)) (F0 m 46 ls []) := by
  intro G c s x0 x1 x2 x3 hw H locs ls hG hS hl hcc hss
  dsimp only [pq_Md_store_46] at hw
  have hx := hC.1
  have hb := hC.2.1
  refine lv_iconst (v := (1 : Int32)) hx hb dq_Md_store_46 rfl ?_
  refine lv_goto (tgt := 51) hx hb dq_Md_store_47 rfl ?_
  exact tq_Md_store_51 hC hk7 hw hG hS (lx_sub hl [0, 1, 2, 3] rfl) hcc hss
set_option maxRecDepth 100000 in
set_option maxHeartbeats 4000000 in
theorem tq_Md_store_7 {p : Program} {l : Launch} {e : Env} {R : Room} {s₀ : State} {m : MethodId} {args : Array Value} {below : List Frame} {meth : Method} {cd : Code} {E : wo_E} {mc ms : Nat} {Post : wo_W → Prop} (hC : wo_Cx E "EdgeCacheModel" prog_14_method_55_code 6 5 111 ((Option.none : Option Jvm.ClassFile.FieldType)) "store" mc ms p R s₀ m args meth cd) : ∀ n : Nat, ∀ {G : wo_W} {c s : Nat} {x0 : Nat} {x1 : Int32} {x2 : Int32} {x3 : Int32}, pq_Md_store_7 E mc ms Post n G c s x0 x1 x2 x3 → ∀ {H : Heap} {locs : List Loc} {ls : Array Slot}, wo_Se E G H → va_S (en_A E) s₀.heap H locs → lx_has ls 6 [(0, 1, .ref x0), (1, 1, .int x1), (2, 1, .int x2), (3, 1, .int x3)] → c ≤ mc → s ≤ ms → W p l e R s₀ m args below meth cd H locs c s (MQ below (va_Qv Post (wo_B E) (en_A E)) args s₀ mc ms (en_A E)) (F0 m 7 ls []) := by
  intro n
  induction n with
  | zero => intro G c s x0 x1 x2 x3 hw; exact hw.elim
  | succ n ih =>
    intro G c s x0 x1 x2 x3 hw H locs ls hG hS hl hcc hss
    dsimp only [pq_Md_store_7] at hw
    have hx := hC.1
    have hb := hC.2.1
    refine lv_iload_n hx hb dq_Md_store_7 rfl (lx_at hl 3 rfl) ?_
    refine lv_bipush (v := (20 : Int32)) hx hb dq_Md_store_8 rfl ?_
    refine lv_icmp_ge (tgt := 84) hx hb dq_Md_store_10 rfl (fun h => ?_) (fun h => ?_)
    · replace hw := hw.1 h
      refine lv_aload_n hx hb dq_Md_store_84 rfl (lx_at hl 0 rfl) ?_
      refine lv_iload_n hx hb dq_Md_store_85 rfl (lx_at hl 2 rfl) ?_
      refine lv_iconst (v := (-1 : Int32)) hx hb dq_Md_store_86 rfl ?_
      refine lv_iconst (v := (1 : Int32)) hx hb dq_Md_store_87 rfl ?_
      obtain ⟨t1, hw⟩ := hw
      obtain ⟨mc2, ms3, hc1, hs1, hw⟩ := hw
      refine va_callv (wo_runV hC lq_Md_301 (mq_Md_whole hw) hG hS t1 rfl (lx_sz hl) rfl (Nat.zero_le _) (by decide) dq_Md_store_88 ⟨hc1, hs1⟩) hS (fun _ _ h => h) (fun _ h => h) (fun G4 t H locs ht hvm hw' hB _ _ hS => ?_)
      clear hw
      have hw := hw'
      clear hw'
      replace hG := wo_bk ht hB
      replace hcc := hc1
      replace hss := hs1
      refine lv_aload_n hx hb dq_Md_store_91 rfl (lx_at hl 0 rfl) ?_
      obtain ⟨t5, hw⟩ := hw
      refine wo_getI hC fq_Md_267 rfl hG t5 dq_Md_store_92 ?_
      refine lx_istore_n (lv' := [(3, 1, .int (wo_gi G4 906 x0)), (0, 1, .ref x0), (1, 1, .int x1), (2, 1, .int x2)]) hx hb dq_Md_store_95 rfl hl (by decide) rfl (fun ls hl' => ?_)
      clear hl
      have hl := hl'
      clear hl'
      refine lv_aload_n hx hb dq_Md_store_96 rfl (lx_at hl 1 rfl) ?_
      refine lv_iload_n hx hb dq_Md_store_97 rfl (lx_at hl 3 rfl) ?_
      refine lv_bipush (v := (120 : Int32)) hx hb dq_Md_store_98 rfl ?_
      obtain ⟨mc6, ms7, hc1, hs1, hw⟩ := hw
      refine va_calli (wo_runV hC lq_Md_352 (mq_Md_inPolicy hw) hG hS t5 rfl (lx_sz hl) rfl (Nat.zero_le _) (by decide) dq_Md_store_100 ⟨hc1, hs1⟩) hS (fun _ _ h => h) (fun _ h => h) (fun v9 G8 t H locs ht hvm hw' hB _ _ hS => ?_)
      clear hw
      have hw := hw'
      clear hw'
      replace hG := wo_bk ht hB
      replace hcc := hc1
      replace hss := hs1
      refine lv_bipush (v := (-2 : Int32)) hx hb dq_Md_store_103 rfl ?_
      refine lv_icmp_ne (tgt := 141) hx hb dq_Md_store_105 rfl (fun h => ?_) (fun h => ?_)
      · replace hw := hw.1 h
        exact tq_Md_store_141 hC hw hG hS (lx_sub hl [] rfl) hcc hss
      · replace hw := hw.2 h
        refine lv_aload_n hx hb dq_Md_store_108 rfl (lx_at hl 1 rfl) ?_
        refine lv_iload_n hx hb dq_Md_store_109 rfl (lx_at hl 3 rfl) ?_
        refine lv_bipush (v := (112 : Int32)) hx hb dq_Md_store_110 rfl ?_
        obtain ⟨t10, hw⟩ := hw
        obtain ⟨mc11, ms12, hc1, hs1, hw⟩ := hw
        refine va_calli (wo_runV hC lq_Md_352 (mq_Md_inPolicy hw) hG hS t10 rfl (lx_sz hl) rfl (Nat.zero_le _) (by decide) dq_Md_store_112 ⟨hc1, hs1⟩) hS (fun _ _ h => h) (fun _ h => h) (fun v14 G13 t H locs ht hvm hw' hB _ _ hS => ?_)
        clear hw
        have hw := hw'
        clear hw'
        replace hG := wo_bk ht hB
        replace hcc := hc1
        replace hss := hs1
        refine lv_bipush (v := (-2 : Int32)) hx hb dq_Md_store_115 rfl ?_
        refine lv_icmp_ne (tgt := 141) hx hb dq_Md_store_117 rfl (fun h => ?_) (fun h => ?_)
        · replace hw := hw.1 h
          exact tq_Md_store_141 hC hw hG hS (lx_sub hl [] rfl) hcc hss
        · replace hw := hw.2 h
          refine lv_aload_n hx hb dq_Md_store_120 rfl (lx_at hl 1 rfl) ?_
          refine lv_iload_n hx hb dq_Md_store_121 rfl (lx_at hl 2 rfl) ?_
          refine lv_iconst (v := (4 : Int32)) hx hb dq_Md_store_122 rfl ?_
          refine lv_bipush (v := (120 : Int32)) hx hb dq_Md_store_123 rfl ?_
          obtain ⟨t15, hw⟩ := hw
          obtain ⟨mc16, ms17, hc1, hs1, hw⟩ := hw
          refine va_calli (wo_runV hC lq_Md_314 (mq_Md_inValue hw) hG hS t15 rfl (lx_sz hl) rfl (Nat.zero_le _) (by decide) dq_Md_store_125 ⟨hc1, hs1⟩) hS (fun _ _ h => h) (fun _ h => h) (fun v19 G18 t H locs ht hvm hw' hB _ _ hS => ?_)
          clear hw
          have hw := hw'
          clear hw'
          replace hG := wo_bk ht hB
          replace hcc := hc1
          replace hss := hs1
          refine lv_bipush (v := (-2 : Int32)) hx hb dq_Md_store_128 rfl ?_
          refine lv_icmp_ne (tgt := 141) hx hb dq_Md_store_130 rfl (fun h => ?_) (fun h => ?_)
          · replace hw := hw.1 h
            exact tq_Md_store_141 hC hw hG hS (lx_sub hl [] rfl) hcc hss
          · replace hw := hw.2 h
            refine lv_iload_n hx hb dq_Md_store_133 rfl (lx_at hl 0 rfl) ?_
            refine lv_aload_n hx hb dq_Md_store_134 rfl (lx_at hl 1 rfl) ?_
            obtain ⟨t20, hw⟩ := hw
            refine wo_getI hC fq_Md_174 rfl hG t20 dq_Md_store_135 ?_
            refine lv_icmp_le (tgt := 142) hx hb dq_Md_store_138 rfl (fun h => ?_) (fun h => ?_)
            · replace hw := hw.1 h
              obtain ⟨n1, hw⟩ := hw
              exact tq_Md_store_142 hC n1 hw hG hS (lx_sub hl [1, 2, 3, 0] rfl) hcc hss
            · replace hw := hw.2 h
              exact tq_Md_store_141 hC hw hG hS (lx_sub hl [] rfl) hcc hss
    · replace hw := hw.2 h
      refine lv_aload_n hx hb dq_Md_store_13 rfl (lx_at hl 0 rfl) ?_
      refine lv_iload_n hx hb dq_Md_store_14 rfl (lx_at hl 3 rfl) ?_
      refine lv_iload_n hx hb dq_Md_store_15 rfl (lx_at hl 1 rfl) ?_
      obtain ⟨t21, hw⟩ := hw
      obtain ⟨mc22, ms23, hc1, hs1, hw⟩ := hw
      refine va_calli (wo_runV hC lq_Md_346 (mq_Md_samePath hw) hG hS t21 rfl (lx_sz hl) rfl (Nat.zero_le _) (by decide) dq_Md_store_16 ⟨hc1, hs1⟩) hS (fun _ _ h => h) (fun _ h => h) (fun v25 G24 t H locs ht hvm hw' hB _ _ hS => ?_)
      clear hw
      have hw := hw'
      clear hw'
      replace hG := wo_bk ht hB
      replace hcc := hc1
      replace hss := hs1
      refine lv_if_eq (tgt := 50) hx hb dq_Md_store_19 rfl (fun h => ?_) (fun h => ?_)
      · replace hw := hw.1 h
        exact tq_Md_store_50 hC ih hw hG hS (lx_sub hl [0, 1, 2, 3] rfl) hcc hss
      · replace hw := hw.2 h
        refine lv_aload_n hx hb dq_Md_store_22 rfl (lx_at hl 0 rfl) ?_
        refine lv_iload_n hx hb dq_Md_store_23 rfl (lx_at hl 3 rfl) ?_
        refine lv_iload_n hx hb dq_Md_store_24 rfl (lx_at hl 1 rfl) ?_
        obtain ⟨t26, hw⟩ := hw
        obtain ⟨mc27, ms28, hc1, hs1, hw⟩ := hw
        refine va_calli (wo_runV hC lq_Md_355 (mq_Md_fits hw) hG hS t26 rfl (lx_sz hl) rfl (Nat.zero_le _) (by decide) dq_Md_store_25 ⟨hc1, hs1⟩) hS (fun _ _ h => h) (fun _ h => h) (fun v30 G29 t H locs ht hvm hw' hB _ _ hS => ?_)
        clear hw
        have hw := hw'
        clear hw'
        replace hG := wo_bk ht hB
        replace hcc := hc1
        replace hss := hs1
        refine lv_if_ne (tgt := 46) hx hb dq_Md_store_28 rfl (fun h => ?_) (fun h => ?_)
        · replace hw := hw.1 h
          exact tq_Md_store_46 hC ih hw hG hS (lx_sub hl [0, 1, 2, 3] rfl) hcc hss
        · replace hw := hw.2 h
          refine lv_aload_n hx hb dq_Md_store_31 rfl (lx_at hl 0 rfl) ?_
          obtain ⟨t31, hw⟩ := hw
          refine wo_getR hC fq_Md_117 rfl hG t31 dq_Md_store_32 (fun r32 e33 => ?_)
          replace hw := hw r32 e33
          refine lv_iload_n hx hb dq_Md_store_35 rfl (lx_at hl 3 rfl) ?_
          obtain ⟨a34, rfl, hw⟩ := hw
          obtain ⟨t35, hw⟩ := hw
          obtain ⟨h36, hw⟩ := hw
          refine wo_zald (j := 8) hC rfl hG t35 h36 dq_Md_store_36 ?_
          refine lv_aload_n hx hb dq_Md_store_37 rfl (lx_at hl 0 rfl) ?_
          refine wo_getR hC fq_Md_117 rfl hG t31 dq_Md_store_38 (fun r37 e38 => ?_)
          replace hw := hw r37 e38
          refine lv_iload_n hx hb dq_Md_store_41 rfl (lx_at hl 2 rfl) ?_
          obtain ⟨a39, rfl, hw⟩ := hw
          obtain ⟨t40, hw⟩ := hw
          obtain ⟨h41, hw⟩ := hw
          refine wo_zald (j := 8) hC rfl hG t40 h41 dq_Md_store_42 ?_
          refine lv_icmp_eq (tgt := 50) hx hb dq_Md_store_43 rfl (fun h => ?_) (fun h => ?_)
          · replace hw := hw.1 h
            exact tq_Md_store_50 hC ih hw hG hS (lx_sub hl [0, 1, 2, 3] rfl) hcc hss
          · replace hw := hw.2 h
            exact tq_Md_store_46 hC ih hw hG hS (lx_sub hl [0, 1, 2, 3] rfl) hcc hss
set_option maxRecDepth 100000 in
set_option maxHeartbeats 4000000 in
theorem tq_Md_store_0 {p : Program} {l : Launch} {e : Env} {R : Room} {s₀ : State} {m : MethodId} {args : Array Value} {below : List Frame} {meth : Method} {cd : Code} {E : wo_E} {mc ms : Nat} {Post : wo_W → Prop} (hC : wo_Cx E "EdgeCacheModel" prog_14_method_55_code 6 5 111 ((Option.none : Option Jvm.ClassFile.FieldType)) "store" mc ms p R s₀ m args meth cd) : ∀ {G : wo_W} {c s : Nat} {x0 : Nat} {x1 : Int32}, pq_Md_store_0 E mc ms Post G c s x0 x1 → ∀ {H : Heap} {locs : List Loc} {ls : Array Slot}, wo_Se E G H → va_S (en_A E) s₀.heap H locs → lx_has ls 6 [(0, 1, .ref x0), (1, 1, .int x1)] → c ≤ mc → s ≤ ms → W p l e R s₀ m args below meth cd H locs c s (MQ below (va_Qv Post (wo_B E) (en_A E)) args s₀ mc ms (en_A E)) (F0 m 0 ls []) := by
  intro G c s x0 x1 hw H locs ls hG hS hl hcc hss
  dsimp only [pq_Md_store_0] at hw
  have hx := hC.1
  have hb := hC.2.1
  refine lv_bipush (v := (30 : Int32)) hx hb dq_Md_store_0 rfl ?_
  refine lv_iload_n hx hb dq_Md_store_2 rfl (lx_at hl 1 rfl) ?_
  refine lv_iadd hx hb dq_Md_store_3 ?_
  refine lx_istore_n (lv' := [(2, 1, .int ((30 : Int32) + x1)), (0, 1, .ref x0), (1, 1, .int x1)]) hx hb dq_Md_store_4 rfl hl (by decide) rfl (fun ls hl' => ?_)
  clear hl
  have hl := hl'
  clear hl'
  refine lv_iconst (v := (0 : Int32)) hx hb dq_Md_store_5 rfl ?_
  refine lx_istore_n (lv' := [(3, 1, .int (0 : Int32)), (2, 1, .int ((30 : Int32) + x1)), (0, 1, .ref x0), (1, 1, .int x1)]) hx hb dq_Md_store_6 rfl hl (by decide) rfl (fun ls hl' => ?_)
  clear hl
  have hl := hl'
  clear hl'
  obtain ⟨n1, hw⟩ := hw
  exact tq_Md_store_7 hC n1 hw hG hS (lx_sub hl [2, 3, 1, 0] rfl) hcc hss
set_option maxHeartbeats 4000000 in
theorem mq_Md_store {l : Launch} {E : wo_E} {mc ms : Nat} {Post : wo_W → Prop} {G : wo_W} {x0 : Nat} {x1 : Int32} (hw : pq_Md_store E mc ms Post G x0 x1) : Met l yq_Md_store (Cond.code yq_Md_store prog_14_method_55_code 6 ((Option.none : Option Jvm.ClassFile.FieldType)) :: vw_WG) { frames := 5, cells := mc, slots := ms, locals := 111 } (va_Pc [.ref x0, .int x1] (wo_Ok E G)) (va_Qv Post (wo_B E) (en_A E)) mc ms (en_A E) := by
  unfold pq_Md_store at hw
  exact wo_met [(1, .ref x0), (1, .int x1)] rfl (by decide) (fun q hq => by simp only [List.mem_cons, List.not_mem_nil, or_false] at hq; rcases hq with rfl | rfl <;> first | rfl | exact lx_cR _) (Nat.le_of_ble_eq_true rfl) (fun p e R s m args below meth cd ls hC hG hS hl => tq_Md_store_0 hC hw hG hS (lx_sub hl [0, 1] rfl) (Nat.zero_le _) (Nat.zero_le _))

theorem dq_Md_arrive_0 : decode prog_14_method_53_code 0 = .ok (.iload_n 1, 1) := by decide +kernel
theorem dq_Md_arrive_1 : decode prog_14_method_53_code 1 = .ok (.ifCond .lt 8, 3) := by decide +kernel
theorem dq_Md_arrive_4 : decode prog_14_method_53_code 4 = .ok (.iload_n 1, 1) := by decide +kernel
theorem dq_Md_arrive_5 : decode prog_14_method_53_code 5 = .ok (.iconst 1, 1) := by decide +kernel
theorem dq_Md_arrive_6 : decode prog_14_method_53_code 6 = .ok (.if_icmp .le 7, 3) := by decide +kernel
theorem dq_Md_arrive_9 : decode prog_14_method_53_code 9 = .ok (.iconst (-1), 1) := by decide +kernel
theorem dq_Md_arrive_10 : decode prog_14_method_53_code 10 = .ok (.goto 8, 3) := by decide +kernel
theorem dq_Md_arrive_13 : decode prog_14_method_53_code 13 = .ok (.aload_n 0, 1) := by decide +kernel
theorem dq_Md_arrive_14 : decode prog_14_method_53_code 14 = .ok (.iload_n 1, 1) := by decide +kernel
theorem dq_Md_arrive_15 : decode prog_14_method_53_code 15 = .ok (.invokevirtual 373, 3) := by decide +kernel
theorem dq_Md_arrive_18 : decode prog_14_method_53_code 18 = .ok (.istore_n 2, 1) := by decide +kernel
theorem dq_Md_arrive_19 : decode prog_14_method_53_code 19 = .ok (.iload_n 2, 1) := by decide +kernel
theorem dq_Md_arrive_20 : decode prog_14_method_53_code 20 = .ok (.ifCond .lt 13, 3) := by decide +kernel
theorem dq_Md_arrive_23 : decode prog_14_method_53_code 23 = .ok (.aload_n 0, 1) := by decide +kernel
theorem dq_Md_arrive_24 : decode prog_14_method_53_code 24 = .ok (.getfield 69, 3) := by decide +kernel
theorem dq_Md_arrive_27 : decode prog_14_method_53_code 27 = .ok (.iload_n 2, 1) := by decide +kernel
theorem dq_Md_arrive_28 : decode prog_14_method_53_code 28 = .ok (.iaload, 1) := by decide +kernel
theorem dq_Md_arrive_29 : decode prog_14_method_53_code 29 = .ok (.iconst 3, 1) := by decide +kernel
theorem dq_Md_arrive_30 : decode prog_14_method_53_code 30 = .ok (.if_icmp .eq 5, 3) := by decide +kernel
theorem dq_Md_arrive_33 : decode prog_14_method_53_code 33 = .ok (.iconst (-1), 1) := by decide +kernel
theorem dq_Md_arrive_34 : decode prog_14_method_53_code 34 = .ok (.ireturn, 1) := by decide +kernel
theorem dq_Md_arrive_35 : decode prog_14_method_53_code 35 = .ok (.aload_n 0, 1) := by decide +kernel
theorem dq_Md_arrive_36 : decode prog_14_method_53_code 36 = .ok (.getfield 93, 3) := by decide +kernel
theorem dq_Md_arrive_39 : decode prog_14_method_53_code 39 = .ok (.iload_n 2, 1) := by decide +kernel
theorem dq_Md_arrive_40 : decode prog_14_method_53_code 40 = .ok (.iaload, 1) := by decide +kernel
theorem dq_Md_arrive_41 : decode prog_14_method_53_code 41 = .ok (.istore_n 3, 1) := by decide +kernel
theorem dq_Md_arrive_42 : decode prog_14_method_53_code 42 = .ok (.aload_n 0, 1) := by decide +kernel
theorem dq_Md_arrive_43 : decode prog_14_method_53_code 43 = .ok (.getfield 41, 3) := by decide +kernel
theorem dq_Md_arrive_46 : decode prog_14_method_53_code 46 = .ok (.iload_n 2, 1) := by decide +kernel
theorem dq_Md_arrive_47 : decode prog_14_method_53_code 47 = .ok (.iaload, 1) := by decide +kernel
theorem dq_Md_arrive_48 : decode prog_14_method_53_code 48 = .ok (.iconst 1, 1) := by decide +kernel
theorem dq_Md_arrive_49 : decode prog_14_method_53_code 49 = .ok (.if_icmp .le 27, 3) := by decide +kernel
theorem dq_Md_arrive_52 : decode prog_14_method_53_code 52 = .ok (.aload_n 0, 1) := by decide +kernel
theorem dq_Md_arrive_53 : decode prog_14_method_53_code 53 = .ok (.iload_n 2, 1) := by decide +kernel
theorem dq_Md_arrive_54 : decode prog_14_method_53_code 54 = .ok (.iload_n 3, 1) := by decide +kernel
theorem dq_Md_arrive_55 : decode prog_14_method_53_code 55 = .ok (.invokevirtual 337, 3) := by decide +kernel
theorem dq_Md_arrive_58 : decode prog_14_method_53_code 58 = .ok (.iload_n 3, 1) := by decide +kernel
theorem dq_Md_arrive_59 : decode prog_14_method_53_code 59 = .ok (.sipush 300, 3) := by decide +kernel
theorem dq_Md_arrive_62 : decode prog_14_method_53_code 62 = .ok (.if_icmp .ge 102, 3) := by decide +kernel
theorem dq_Md_arrive_65 : decode prog_14_method_53_code 65 = .ok (.aload_n 0, 1) := by decide +kernel
theorem dq_Md_arrive_66 : decode prog_14_method_53_code 66 = .ok (.iload_n 2, 1) := by decide +kernel
theorem dq_Md_arrive_67 : decode prog_14_method_53_code 67 = .ok (.iconst 1, 1) := by decide +kernel
theorem dq_Md_arrive_68 : decode prog_14_method_53_code 68 = .ok (.iload_n 1, 1) := by decide +kernel
theorem dq_Md_arrive_69 : decode prog_14_method_53_code 69 = .ok (.isub, 1) := by decide +kernel
theorem dq_Md_arrive_70 : decode prog_14_method_53_code 70 = .ok (.invokevirtual 376, 3) := by decide +kernel
theorem dq_Md_arrive_73 : decode prog_14_method_53_code 73 = .ok (.goto 91, 3) := by decide +kernel
theorem dq_Md_arrive_76 : decode prog_14_method_53_code 76 = .ok (.iload_n 3, 1) := by decide +kernel
theorem dq_Md_arrive_77 : decode prog_14_method_53_code 77 = .ok (.sipush 400, 3) := by decide +kernel
theorem dq_Md_arrive_80 : decode prog_14_method_53_code 80 = .ok (.if_icmp .le 60, 3) := by decide +kernel
theorem dq_Md_arrive_83 : decode prog_14_method_53_code 83 = .ok (.aload_n 0, 1) := by decide +kernel
theorem dq_Md_arrive_84 : decode prog_14_method_53_code 84 = .ok (.iload_n 3, 1) := by decide +kernel
theorem dq_Md_arrive_85 : decode prog_14_method_53_code 85 = .ok (.invokevirtual 190, 3) := by decide +kernel
theorem dq_Md_arrive_88 : decode prog_14_method_53_code 88 = .ok (.pop, 1) := by decide +kernel
theorem dq_Md_arrive_89 : decode prog_14_method_53_code 89 = .ok (.iconst 0, 1) := by decide +kernel
theorem dq_Md_arrive_90 : decode prog_14_method_53_code 90 = .ok (.istore 4, 2) := by decide +kernel
theorem dq_Md_arrive_92 : decode prog_14_method_53_code 92 = .ok (.iload 4, 2) := by decide +kernel
theorem dq_Md_arrive_94 : decode prog_14_method_53_code 94 = .ok (.bipush 20, 2) := by decide +kernel
theorem dq_Md_arrive_96 : decode prog_14_method_53_code 96 = .ok (.if_icmp .ge 41, 3) := by decide +kernel
theorem dq_Md_arrive_99 : decode prog_14_method_53_code 99 = .ok (.aload_n 0, 1) := by decide +kernel
theorem dq_Md_arrive_100 : decode prog_14_method_53_code 100 = .ok (.getfield 120, 3) := by decide +kernel
theorem dq_Md_arrive_103 : decode prog_14_method_53_code 103 = .ok (.iload 4, 2) := by decide +kernel
theorem dq_Md_arrive_105 : decode prog_14_method_53_code 105 = .ok (.aload_n 0, 1) := by decide +kernel
theorem dq_Md_arrive_106 : decode prog_14_method_53_code 106 = .ok (.getfield 120, 3) := by decide +kernel
theorem dq_Md_arrive_109 : decode prog_14_method_53_code 109 = .ok (.iload 4, 2) := by decide +kernel
theorem dq_Md_arrive_111 : decode prog_14_method_53_code 111 = .ok (.baload, 1) := by decide +kernel
theorem dq_Md_arrive_112 : decode prog_14_method_53_code 112 = .ok (.ifCond .eq 17, 3) := by decide +kernel
theorem dq_Md_arrive_115 : decode prog_14_method_53_code 115 = .ok (.aload_n 0, 1) := by decide +kernel
theorem dq_Md_arrive_116 : decode prog_14_method_53_code 116 = .ok (.iload 4, 2) := by decide +kernel
theorem dq_Md_arrive_118 : decode prog_14_method_53_code 118 = .ok (.iload_n 2, 1) := by decide +kernel
theorem dq_Md_arrive_119 : decode prog_14_method_53_code 119 = .ok (.invokevirtual 355, 3) := by decide +kernel
theorem dq_Md_arrive_122 : decode prog_14_method_53_code 122 = .ok (.ifCond .ne 7, 3) := by decide +kernel
theorem dq_Md_arrive_125 : decode prog_14_method_53_code 125 = .ok (.iconst 1, 1) := by decide +kernel
theorem dq_Md_arrive_126 : decode prog_14_method_53_code 126 = .ok (.goto 4, 3) := by decide +kernel
theorem dq_Md_arrive_129 : decode prog_14_method_53_code 129 = .ok (.iconst 0, 1) := by decide +kernel
theorem dq_Md_arrive_130 : decode prog_14_method_53_code 130 = .ok (.bastore, 1) := by decide +kernel
theorem dq_Md_arrive_131 : decode prog_14_method_53_code 131 = .ok (.iinc 4 1, 3) := by decide +kernel
theorem dq_Md_arrive_134 : decode prog_14_method_53_code 134 = .ok (.goto (-42), 3) := by decide +kernel
theorem dq_Md_arrive_137 : decode prog_14_method_53_code 137 = .ok (.goto 27, 3) := by decide +kernel
theorem dq_Md_arrive_140 : decode prog_14_method_53_code 140 = .ok (.aload_n 0, 1) := by decide +kernel
theorem dq_Md_arrive_141 : decode prog_14_method_53_code 141 = .ok (.getfield 90, 3) := by decide +kernel
theorem dq_Md_arrive_144 : decode prog_14_method_53_code 144 = .ok (.iload_n 2, 1) := by decide +kernel
theorem dq_Md_arrive_145 : decode prog_14_method_53_code 145 = .ok (.baload, 1) := by decide +kernel
theorem dq_Md_arrive_146 : decode prog_14_method_53_code 146 = .ok (.ifCond .ne 8, 3) := by decide +kernel
theorem dq_Md_arrive_149 : decode prog_14_method_53_code 149 = .ok (.aload_n 0, 1) := by decide +kernel
theorem dq_Md_arrive_150 : decode prog_14_method_53_code 150 = .ok (.iload_n 2, 1) := by decide +kernel
theorem dq_Md_arrive_151 : decode prog_14_method_53_code 151 = .ok (.invokevirtual 379, 3) := by decide +kernel
theorem dq_Md_arrive_154 : decode prog_14_method_53_code 154 = .ok (.aload_n 0, 1) := by decide +kernel
theorem dq_Md_arrive_155 : decode prog_14_method_53_code 155 = .ok (.iload_n 2, 1) := by decide +kernel
theorem dq_Md_arrive_156 : decode prog_14_method_53_code 156 = .ok (.bipush 30, 2) := by decide +kernel
theorem dq_Md_arrive_158 : decode prog_14_method_53_code 158 = .ok (.iload_n 2, 1) := by decide +kernel
theorem dq_Md_arrive_159 : decode prog_14_method_53_code 159 = .ok (.iadd, 1) := by decide +kernel
theorem dq_Md_arrive_160 : decode prog_14_method_53_code 160 = .ok (.iconst (-1), 1) := by decide +kernel
theorem dq_Md_arrive_161 : decode prog_14_method_53_code 161 = .ok (.invokevirtual 343, 3) := by decide +kernel
theorem dq_Md_arrive_164 : decode prog_14_method_53_code 164 = .ok (.aload_n 0, 1) := by decide +kernel
theorem dq_Md_arrive_165 : decode prog_14_method_53_code 165 = .ok (.getfield 69, 3) := by decide +kernel
theorem dq_Md_arrive_168 : decode prog_14_method_53_code 168 = .ok (.iload_n 2, 1) := by decide +kernel
theorem dq_Md_arrive_169 : decode prog_14_method_53_code 169 = .ok (.iconst 0, 1) := by decide +kernel
theorem dq_Md_arrive_170 : decode prog_14_method_53_code 170 = .ok (.iastore, 1) := by decide +kernel
theorem dq_Md_arrive_171 : decode prog_14_method_53_code 171 = .ok (.aload_n 0, 1) := by decide +kernel
theorem dq_Md_arrive_172 : decode prog_14_method_53_code 172 = .ok (.aload_n 0, 1) := by decide +kernel
theorem dq_Md_arrive_173 : decode prog_14_method_53_code 173 = .ok (.getfield 72, 3) := by decide +kernel
theorem dq_Md_arrive_176 : decode prog_14_method_53_code 176 = .ok (.iload_n 2, 1) := by decide +kernel
theorem dq_Md_arrive_177 : decode prog_14_method_53_code 177 = .ok (.iaload, 1) := by decide +kernel
theorem dq_Md_arrive_178 : decode prog_14_method_53_code 178 = .ok (.aload_n 0, 1) := by decide +kernel
theorem dq_Md_arrive_179 : decode prog_14_method_53_code 179 = .ok (.getfield 75, 3) := by decide +kernel
theorem dq_Md_arrive_182 : decode prog_14_method_53_code 182 = .ok (.iload_n 2, 1) := by decide +kernel
theorem dq_Md_arrive_183 : decode prog_14_method_53_code 183 = .ok (.iaload, 1) := by decide +kernel
theorem dq_Md_arrive_184 : decode prog_14_method_53_code 184 = .ok (.invokevirtual 193, 3) := by decide +kernel
theorem dq_Md_arrive_187 : decode prog_14_method_53_code 187 = .ok (.aload_n 0, 1) := by decide +kernel
theorem dq_Md_arrive_188 : decode prog_14_method_53_code 188 = .ok (.invokevirtual 370, 3) := by decide +kernel
theorem dq_Md_arrive_191 : decode prog_14_method_53_code 191 = .ok (.iload_n 3, 1) := by decide +kernel
theorem dq_Md_arrive_192 : decode prog_14_method_53_code 192 = .ok (.ireturn, 1) := by decide +kernel
set_option maxRecDepth 100000 in
def pq_Md_arrive_33 (E : wo_E) (mc ms : Nat) (Post : Int32 → wo_W → Prop) (G : wo_W) (c s : Nat) : Prop := Post (-1 : Int32) G
set_option maxRecDepth 100000 in
def pq_Md_arrive_164 (E : wo_E) (mc ms : Nat) (Post : Int32 → wo_W → Prop) (G : wo_W) (c s : Nat) (x0 : Nat) (x2 : Int32) (x3 : Int32) : Prop := wo_ty G x0 = 15 ∧ ∀ r2 : Option Nat, r2 = wo_gr G 918 x0 → ∃ a4 : Nat, r2 = some a4 ∧ wo_ty G a4 = 66 ∧ vp_in x2 (wo_len G a4) ∧ en_bs E ≤ a4 ∧ ∀ G8 : wo_W, G8 = wo_sei G a4 x2.toNatClampNeg (0 : Int32) → 
  ∀ r10 : Option Nat, r10 = wo_gr G8 919 x0 → ∃ a12 : Nat, r10 = some a12 ∧ wo_ty G8 a12 = 66 ∧ vp_in x2 (wo_len G8 a12) ∧ ∀ r15 : Option Nat, r15 = wo_gr G8 920 x0 → ∃ a17 : Nat, r15 = some a17 ∧ wo_ty G8 a17 = 66 ∧ vp_in x2 (wo_len G8 a17) ∧ ∃ mc20 ms21 : Nat, (c + mc20) ≤ mc ∧ (s + ms21) ≤ ms ∧ pq_Md_finish E mc20 ms21 (fun G22 => 
  wo_ty G22 x0 = 15 ∧ ∃ mc24 ms25 : Nat, ((c + mc20) + mc24) ≤ mc ∧ ((s + ms21) + ms25) ≤ ms ∧ pq_Md_send E mc24 ms25 (fun G26 => 
    Post x3 G26) G22 x0) G8 x0 (wo_ei G8 a12 x2.toNatClampNeg) (wo_ei G8 a17 x2.toNatClampNeg)
set_option maxRecDepth 100000 in
def pq_Md_arrive_154 (E : wo_E) (mc ms : Nat) (Post : Int32 → wo_W → Prop) (G : wo_W) (c s : Nat) (x0 : Nat) (x2 : Int32) (x3 : Int32) : Prop := wo_ty G x0 = 15 ∧ ∃ mc2 ms3 : Nat, (c + mc2) ≤ mc ∧ (s + ms3) ≤ ms ∧ pq_Md_select E mc2 ms3 (fun G4 => 
  pq_Md_arrive_164 E mc ms Post G4 (c + mc2) (s + ms3) x0 x2 x3) G x0 x2 ((30 : Int32) + x2) (-1 : Int32)
set_option maxRecDepth 100000 in
def pq_Md_arrive_130 (E : wo_E) (mc ms : Nat) (Post : Int32 → wo_W → Prop) (k92 : wo_W → Nat → Nat → Nat → Int32 → Int32 → Int32 → Prop) (G : wo_W) (c s : Nat) (x0 : Nat) (x2 : Int32) (x3 : Int32) (x4 : Int32) (y0 : Option Nat) (y1 : Int32) (y2 : Int32) : Prop := ∃ a1 : Nat, y0 = some a1 ∧ wo_ty G a1 = 72 ∧ vp_in y1 (wo_len G a1) ∧ en_bs E ≤ a1 ∧ ∀ G5 : wo_W, G5 = wo_sei G a1 y1.toNatClampNeg (vp_nar .boolean y2) → 
  k92 G5 c s x0 x2 x3 (x4 + (1 : Int32))
set_option maxRecDepth 100000 in
def pq_Md_arrive_129 (E : wo_E) (mc ms : Nat) (Post : Int32 → wo_W → Prop) (k92 : wo_W → Nat → Nat → Nat → Int32 → Int32 → Int32 → Prop) (G : wo_W) (c s : Nat) (x0 : Nat) (x2 : Int32) (x3 : Int32) (x4 : Int32) (y0 : Option Nat) (y1 : Int32) : Prop := pq_Md_arrive_130 E mc ms Post k92 G c s x0 x2 x3 x4 y0 y1 (0 : Int32)
set_option maxRecDepth 100000 in
def pq_Md_arrive_92 (E : wo_E) (mc ms : Nat) (Post : Int32 → wo_W → Prop) : Nat → wo_W → Nat → Nat → Nat → Int32 → Int32 → Int32 → Prop
  | 0 => fun _ _ _ _ _ _ _ => False
  | n + 1 => fun G c s x0 x2 x3 x4 => (((20 : Int32) ≤ x4 → pq_Md_arrive_164 E mc ms Post G c s x0 x2 x3) ∧
  (¬ (20 : Int32) ≤ x4 → wo_ty G x0 = 15 ∧ ∀ r2 : Option Nat, r2 = wo_gr G 936 x0 → ∀ r4 : Option Nat, r4 = wo_gr G 936 x0 → ∃ a6 : Nat, r4 = some a6 ∧ wo_ty G a6 = 72 ∧ vp_in x4 (wo_len G a6) ∧ (((wo_ei G a6 x4.toNatClampNeg) = (0 : Int32) → pq_Md_arrive_129 E mc ms Post (pq_Md_arrive_92 E mc ms Post n) G c s x0 x2 x3 x4 r2 x4) ∧
    (¬ (wo_ei G a6 x4.toNatClampNeg) = (0 : Int32) → ∃ mc9 ms10 : Nat, (c + mc9) ≤ mc ∧ (s + ms10) ≤ ms ∧ pq_Md_fits E mc9 ms10 (fun v12 G11 => 
      ((¬ v12 = (0 : Int32) → pq_Md_arrive_129 E mc ms Post (pq_Md_arrive_92 E mc ms Post n) G11 (c + mc9) (s + ms10) x0 x2 x3 x4 r2 x4) ∧
        (v12 = (0 : Int32) → pq_Md_arrive_130 E mc ms Post (pq_Md_arrive_92 E mc ms Post n) G11 (c + mc9) (s + ms10) x0 x2 x3 x4 r2 x4 (1 : Int32)))) G x0 x4 x2))))
set_option maxRecDepth 100000 in
def pq_Md_arrive_18 (E : wo_E) (mc ms : Nat) (Post : Int32 → wo_W → Prop) (G : wo_W) (c s : Nat) (x0 : Nat) (x1 : Int32) (y0 : Int32) : Prop := ((y0 < (0 : Int32) → pq_Md_arrive_33 E mc ms Post G c s) ∧
  (¬ y0 < (0 : Int32) → wo_ty G x0 = 15 ∧ ∀ r2 : Option Nat, r2 = wo_gr G 918 x0 → ∃ a4 : Nat, r2 = some a4 ∧ wo_ty G a4 = 66 ∧ vp_in y0 (wo_len G a4) ∧ (((wo_ei G a4 y0.toNatClampNeg) = (3 : Int32) → ∀ r7 : Option Nat, r7 = wo_gr G 926 x0 → ∃ a9 : Nat, r7 = some a9 ∧ wo_ty G a9 = 66 ∧ vp_in y0 (wo_len G a9) ∧ ∀ r12 : Option Nat, r12 = wo_gr G 907 x0 → ∃ a14 : Nat, r12 = some a14 ∧ wo_ty G a14 = 66 ∧ vp_in y0 (wo_len G a14) ∧ (((wo_ei G a14 y0.toNatClampNeg) ≤ (1 : Int32) → (((wo_ei G a9 y0.toNatClampNeg) ≤ (400 : Int32) → ∀ r17 : Option Nat, r17 = wo_gr G 925 x0 → ∃ a19 : Nat, r17 = some a19 ∧ wo_ty G a19 = 72 ∧ vp_in y0 (wo_len G a19) ∧ ((¬ (wo_ei G a19 y0.toNatClampNeg) = (0 : Int32) → pq_Md_arrive_154 E mc ms Post G c s x0 y0 (wo_ei G a9 y0.toNatClampNeg)) ∧
          ((wo_ei G a19 y0.toNatClampNeg) = (0 : Int32) → ∃ mc22 ms23 : Nat, (c + mc22) ≤ mc ∧ (s + ms23) ≤ ms ∧ pq_Md_store E mc22 ms23 (fun G24 => 
            pq_Md_arrive_154 E mc ms Post G24 (c + mc22) (s + ms23) x0 y0 (wo_ei G a9 y0.toNatClampNeg)) G x0 y0))) ∧
        (¬ (wo_ei G a9 y0.toNatClampNeg) ≤ (400 : Int32) → ∃ mc25 ms26 : Nat, (c + mc25) ≤ mc ∧ (s + ms26) ≤ ms ∧ pq_Md_plain E mc25 ms26 (fun v28 G27 => 
          ∃ n1 : Nat, pq_Md_arrive_92 E mc ms Post n1 G27 (c + mc25) (s + ms26) x0 y0 (wo_ei G a9 y0.toNatClampNeg) (0 : Int32)) G x0 (wo_ei G a9 y0.toNatClampNeg)))) ∧
      (¬ (wo_ei G a14 y0.toNatClampNeg) ≤ (1 : Int32) → ∃ mc29 ms30 : Nat, (c + mc29) ≤ mc ∧ (s + ms30) ≤ ms ∧ pq_Md_changed E mc29 ms30 (fun G31 => 
        (((300 : Int32) ≤ (wo_ei G a9 y0.toNatClampNeg) → pq_Md_arrive_164 E mc ms Post G31 (c + mc29) (s + ms30) x0 y0 (wo_ei G a9 y0.toNatClampNeg)) ∧
          (¬ (300 : Int32) ≤ (wo_ei G a9 y0.toNatClampNeg) → wo_ty G31 x0 = 15 ∧ ∃ mc33 ms34 : Nat, ((c + mc29) + mc33) ≤ mc ∧ ((s + ms30) + ms34) ≤ ms ∧ pq_Md_invalidate E mc33 ms34 (fun G35 => 
            pq_Md_arrive_164 E mc ms Post G35 ((c + mc29) + mc33) ((s + ms30) + ms34) x0 y0 (wo_ei G a9 y0.toNatClampNeg)) G31 x0 y0 ((1 : Int32) - x1)))) G x0 y0 (wo_ei G a9 y0.toNatClampNeg)))) ∧
    (¬ (wo_ei G a4 y0.toNatClampNeg) = (3 : Int32) → pq_Md_arrive_33 E mc ms Post G c s))))
set_option maxRecDepth 100000 in
def pq_Md_arrive_9 (E : wo_E) (mc ms : Nat) (Post : Int32 → wo_W → Prop) (G : wo_W) (c s : Nat) (x0 : Nat) (x1 : Int32) : Prop := pq_Md_arrive_18 E mc ms Post G c s x0 x1 (-1 : Int32)
set_option maxRecDepth 100000 in
def pq_Md_arrive_0 (E : wo_E) (mc ms : Nat) (Post : Int32 → wo_W → Prop) (G : wo_W) (c s : Nat) (x0 : Nat) (x1 : Int32) : Prop := ((x1 < (0 : Int32) → pq_Md_arrive_9 E mc ms Post G c s x0 x1) ∧
  (¬ x1 < (0 : Int32) → ((x1 ≤ (1 : Int32) → wo_ty G x0 = 15 ∧ ∃ mc2 ms3 : Nat, (c + mc2) ≤ mc ∧ (s + ms3) ≤ ms ∧ pq_Md_jobOn E mc2 ms3 (fun v5 G4 => 
      pq_Md_arrive_18 E mc ms Post G4 (c + mc2) (s + ms3) x0 x1 v5) G x0 x1) ∧
    (¬ x1 ≤ (1 : Int32) → pq_Md_arrive_9 E mc ms Post G c s x0 x1))))
def pq_Md_arrive (E : wo_E) (mc ms : Nat) (Post : Int32 → wo_W → Prop) (G : wo_W) (x0 : Nat) (x1 : Int32) : Prop := pq_Md_arrive_0 E mc ms Post G 0 0 x0 x1
set_option maxRecDepth 100000 in
set_option maxHeartbeats 4000000 in
theorem tq_Md_arrive_33 {p : Program} {l : Launch} {e : Env} {R : Room} {s₀ : State} {m : MethodId} {args : Array Value} {below : List Frame} {meth : Method} {cd : Code} {E : wo_E} {mc ms : Nat} {Post : Int32 → wo_W → Prop} (hC : wo_Cx E "EdgeCacheModel" prog_14_method_53_code 5 6 138 ((Option.some Jvm.ClassFile.FieldType.int)) "arrive" mc ms p R s₀ m args meth cd) : ∀ {G : wo_W} {c s : Nat}, pq_Md_arrive_33 E mc ms Post G c s → ∀ {H : Heap} {locs : List Loc} {ls : Array Slot}, wo_Se E G H → va_S (en_A E) s₀.heap H locs → lx_has ls 5 [] → c ≤ mc → s ≤ ms → W p l e R s₀ m args below meth cd H locs c s (MQ below (va_Qi Post (wo_B E) (en_A E)) args s₀ mc ms (en_A E)) (F0 m 33 ls []) := by
  intro G c s hw H locs ls hG hS hl hcc hss
  dsimp only [pq_Md_arrive_33] at hw
  have hx := hC.1
  have hb := hC.2.1
  refine lv_iconst (v := (-1 : Int32)) hx hb dq_Md_arrive_33 rfl ?_
  exact wo_iret hC hG hS hcc hss hw dq_Md_arrive_34
set_option maxRecDepth 100000 in
set_option maxHeartbeats 4000000 in
theorem tq_Md_arrive_164 {p : Program} {l : Launch} {e : Env} {R : Room} {s₀ : State} {m : MethodId} {args : Array Value} {below : List Frame} {meth : Method} {cd : Code} {E : wo_E} {mc ms : Nat} {Post : Int32 → wo_W → Prop} (hC : wo_Cx E "EdgeCacheModel" prog_14_method_53_code 5 6 138 ((Option.some Jvm.ClassFile.FieldType.int)) "arrive" mc ms p R s₀ m args meth cd) : ∀ {G : wo_W} {c s : Nat} {x0 : Nat} {x2 : Int32} {x3 : Int32}, pq_Md_arrive_164 E mc ms Post G c s x0 x2 x3 → ∀ {H : Heap} {locs : List Loc} {ls : Array Slot}, wo_Se E G H → va_S (en_A E) s₀.heap H locs → lx_has ls 5 [(0, 1, .ref x0), (2, 1, .int x2), (3, 1, .int x3)] → c ≤ mc → s ≤ ms → W p l e R s₀ m args below meth cd H locs c s (MQ below (va_Qi Post (wo_B E) (en_A E)) args s₀ mc ms (en_A E)) (F0 m 164 ls []) := by
  intro G c s x0 x2 x3 hw H locs ls hG hS hl hcc hss
  dsimp only [pq_Md_arrive_164] at hw
  have hx := hC.1
  have hb := hC.2.1
  refine lv_aload_n hx hb dq_Md_arrive_164 rfl (lx_at hl 0 rfl) ?_
  obtain ⟨t1, hw⟩ := hw
  refine wo_getR hC fq_Md_69 rfl hG t1 dq_Md_arrive_165 (fun r2 e3 => ?_)
  replace hw := hw r2 e3
  refine lv_iload_n hx hb dq_Md_arrive_168 rfl (lx_at hl 1 rfl) ?_
  refine lv_iconst (v := (0 : Int32)) hx hb dq_Md_arrive_169 rfl ?_
  obtain ⟨a4, rfl, hw⟩ := hw
  obtain ⟨t5, hw⟩ := hw
  obtain ⟨h6, hw⟩ := hw
  obtain ⟨h7, hw⟩ := hw
  refine wo_iast (j := 2) hC rfl hG hS t5 h6 h7 dq_Md_arrive_170 (fun G8 H locs e9 hG hS => ?_)
  replace hw := hw G8 e9
  refine lv_aload_n hx hb dq_Md_arrive_171 rfl (lx_at hl 0 rfl) ?_
  refine lv_aload_n hx hb dq_Md_arrive_172 rfl (lx_at hl 0 rfl) ?_
  refine wo_getR hC fq_Md_72 rfl hG (ty_sei e9 t1) dq_Md_arrive_173 (fun r10 e11 => ?_)
  replace hw := hw r10 e11
  refine lv_iload_n hx hb dq_Md_arrive_176 rfl (lx_at hl 1 rfl) ?_
  obtain ⟨a12, rfl, hw⟩ := hw
  obtain ⟨t13, hw⟩ := hw
  obtain ⟨h14, hw⟩ := hw
  refine wo_iald (j := 2) hC rfl hG t13 h14 dq_Md_arrive_177 ?_
  refine lv_aload_n hx hb dq_Md_arrive_178 rfl (lx_at hl 0 rfl) ?_
  refine wo_getR hC fq_Md_75 rfl hG (ty_sei e9 t1) dq_Md_arrive_179 (fun r15 e16 => ?_)
  replace hw := hw r15 e16
  refine lv_iload_n hx hb dq_Md_arrive_182 rfl (lx_at hl 1 rfl) ?_
  obtain ⟨a17, rfl, hw⟩ := hw
  obtain ⟨t18, hw⟩ := hw
  obtain ⟨h19, hw⟩ := hw
  refine wo_iald (j := 2) hC rfl hG t18 h19 dq_Md_arrive_183 ?_
  obtain ⟨mc20, ms21, hc1, hs1, hw⟩ := hw
  refine va_callv (wo_runV hC lq_Md_193 (mq_Md_finish hw) hG hS (ty_sei e9 t1) rfl (lx_sz hl) rfl (Nat.zero_le _) (by decide) dq_Md_arrive_184 ⟨hc1, hs1⟩) hS (fun _ _ h => h) (fun _ h => h) (fun G22 t H locs ht hvm hw' hB _ _ hS => ?_)
  clear hw
  have hw := hw'
  clear hw'
  replace hG := wo_bk ht hB
  replace hcc := hc1
  replace hss := hs1
  refine lv_aload_n hx hb dq_Md_arrive_187 rfl (lx_at hl 0 rfl) ?_
  obtain ⟨t23, hw⟩ := hw
  obtain ⟨mc24, ms25, hc1, hs1, hw⟩ := hw
  refine va_callv (wo_runV hC lq_Md_370 (mq_Md_send hw) hG hS t23 rfl (lx_sz hl) rfl (Nat.zero_le _) (by decide) dq_Md_arrive_188 ⟨hc1, hs1⟩) hS (fun _ _ h => h) (fun _ h => h) (fun G26 t H locs ht hvm hw' hB _ _ hS => ?_)
  clear hw
  have hw := hw'
  clear hw'
  replace hG := wo_bk ht hB
  replace hcc := hc1
  replace hss := hs1
  refine lv_iload_n hx hb dq_Md_arrive_191 rfl (lx_at hl 2 rfl) ?_
  exact wo_iret hC hG hS hcc hss hw dq_Md_arrive_192
set_option maxRecDepth 100000 in
set_option maxHeartbeats 4000000 in
theorem tq_Md_arrive_154 {p : Program} {l : Launch} {e : Env} {R : Room} {s₀ : State} {m : MethodId} {args : Array Value} {below : List Frame} {meth : Method} {cd : Code} {E : wo_E} {mc ms : Nat} {Post : Int32 → wo_W → Prop} (hC : wo_Cx E "EdgeCacheModel" prog_14_method_53_code 5 6 138 ((Option.some Jvm.ClassFile.FieldType.int)) "arrive" mc ms p R s₀ m args meth cd) : ∀ {G : wo_W} {c s : Nat} {x0 : Nat} {x2 : Int32} {x3 : Int32}, pq_Md_arrive_154 E mc ms Post G c s x0 x2 x3 → ∀ {H : Heap} {locs : List Loc} {ls : Array Slot}, wo_Se E G H → va_S (en_A E) s₀.heap H locs → lx_has ls 5 [(0, 1, .ref x0), (2, 1, .int x2), (3, 1, .int x3)] → c ≤ mc → s ≤ ms → W p l e R s₀ m args below meth cd H locs c s (MQ below (va_Qi Post (wo_B E) (en_A E)) args s₀ mc ms (en_A E)) (F0 m 154 ls []) := by
  intro G c s x0 x2 x3 hw H locs ls hG hS hl hcc hss
  dsimp only [pq_Md_arrive_154] at hw
  have hx := hC.1
  have hb := hC.2.1
  refine lv_aload_n hx hb dq_Md_arrive_154 rfl (lx_at hl 0 rfl) ?_
  refine lv_iload_n hx hb dq_Md_arrive_155 rfl (lx_at hl 1 rfl) ?_
  refine lv_bipush (v := (30 : Int32)) hx hb dq_Md_arrive_156 rfl ?_
  refine lv_iload_n hx hb dq_Md_arrive_158 rfl (lx_at hl 1 rfl) ?_
  refine lv_iadd hx hb dq_Md_arrive_159 ?_
  refine lv_iconst (v := (-1 : Int32)) hx hb dq_Md_arrive_160 rfl ?_
  obtain ⟨t1, hw⟩ := hw
  obtain ⟨mc2, ms3, hc1, hs1, hw⟩ := hw
  refine va_callv (wo_runV hC lq_Md_343 (mq_Md_select hw) hG hS t1 rfl (lx_sz hl) rfl (Nat.zero_le _) (by decide) dq_Md_arrive_161 ⟨hc1, hs1⟩) hS (fun _ _ h => h) (fun _ h => h) (fun G4 t H locs ht hvm hw' hB _ _ hS => ?_)
  clear hw
  have hw := hw'
  clear hw'
  replace hG := wo_bk ht hB
  replace hcc := hc1
  replace hss := hs1
  exact tq_Md_arrive_164 hC hw hG hS (lx_sub hl [0, 1, 2] rfl) hcc hss
set_option maxRecDepth 100000 in
set_option maxHeartbeats 4000000 in
theorem tq_Md_arrive_130 {p : Program} {l : Launch} {e : Env} {R : Room} {s₀ : State} {m : MethodId} {args : Array Value} {below : List Frame} {meth : Method} {cd : Code} {E : wo_E} {mc ms : Nat} {Post : Int32 → wo_W → Prop} {k92 : wo_W → Nat → Nat → Nat → Int32 → Int32 → Int32 → Prop} (hC : wo_Cx E "EdgeCacheModel" prog_14_method_53_code 5 6 138 ((Option.some Jvm.ClassFile.FieldType.int)) "arrive" mc ms p R s₀ m args meth cd) (hk92 : ∀ {G : wo_W} {c s : Nat} {x0 : Nat} {x2 : Int32} {x3 : Int32} {x4 : Int32}, k92 G c s x0 x2 x3 x4 → ∀ {H : Heap} {locs : List Loc} {ls : Array Slot}, wo_Se E G H → va_S (en_A E) s₀.heap H locs → lx_has ls 5 [(0, 1, .ref x0), (2, 1, .int x2), (3, 1, .int x3), (4, 1, .int x4)] → c ≤ mc → s ≤ ms → W p l e R s₀ m args below meth cd H locs c s (MQ below (va_Qi Post (wo_B E) (en_A E)) args s₀ mc ms (en_A E)) (F0 m 92 ls [])) : ∀ {G : wo_W} {c s : Nat} {x0 : Nat} {x2 : Int32} {x3 : Int32} {x4 : Int32} {y0 : Option Nat} {y1 : Int32} {y2 : Int32}, pq_Md_arrive_130 E mc ms Post k92 G c s x0 x2 x3 x4 y0 y1 y2 → ∀ {H : Heap} {locs : List Loc} {ls : Array Slot}, wo_Se E G H → va_S (en_A E) s₀.heap H locs → lx_has ls 5 [(0, 1, .ref x0), (2, 1, .int x2), (3, 1, .int x3), (4, 1, .int x4)] → c ≤ mc → s ≤ ms → W p l e R s₀ m args below meth cd H locs c s (MQ below (va_Qi Post (wo_B E) (en_A E)) args s₀ mc ms (en_A E)) (F0 m 130 ls [.int y2, .int y1, va_rf y0]) := by
  intro G c s x0 x2 x3 x4 y0 y1 y2 hw H locs ls hG hS hl hcc hss
  dsimp only [pq_Md_arrive_130] at hw
  have hx := hC.1
  have hb := hC.2.1
  obtain ⟨a1, rfl, hw⟩ := hw
  obtain ⟨t2, hw⟩ := hw
  obtain ⟨h3, hw⟩ := hw
  obtain ⟨h4, hw⟩ := hw
  refine wo_zast (j := 8) hC rfl hG hS t2 h3 h4 dq_Md_arrive_130 (fun G5 H locs e6 hG hS => ?_)
  replace hw := hw G5 e6
  refine lx_iinc (k := 3) (v := (x4 + (1 : Int32))) (lv' := [(4, 1, .int (x4 + (1 : Int32))), (0, 1, .ref x0), (2, 1, .int x2), (3, 1, .int x3)]) hx hb dq_Md_arrive_131 hl rfl rfl (by decide) rfl (fun ls hl' => ?_)
  clear hl
  have hl := hl'
  clear hl'
  refine lv_goto (tgt := 92) hx hb dq_Md_arrive_134 rfl ?_
  exact hk92 hw hG hS (lx_sub hl [1, 2, 3, 0] rfl) hcc hss
set_option maxRecDepth 100000 in
set_option maxHeartbeats 4000000 in
theorem tq_Md_arrive_129 {p : Program} {l : Launch} {e : Env} {R : Room} {s₀ : State} {m : MethodId} {args : Array Value} {below : List Frame} {meth : Method} {cd : Code} {E : wo_E} {mc ms : Nat} {Post : Int32 → wo_W → Prop} {k92 : wo_W → Nat → Nat → Nat → Int32 → Int32 → Int32 → Prop} (hC : wo_Cx E "EdgeCacheModel" prog_14_method_53_code 5 6 138 ((Option.some Jvm.ClassFile.FieldType.int)) "arrive" mc ms p R s₀ m args meth cd) (hk92 : ∀ {G : wo_W} {c s : Nat} {x0 : Nat} {x2 : Int32} {x3 : Int32} {x4 : Int32}, k92 G c s x0 x2 x3 x4 → ∀ {H : Heap} {locs : List Loc} {ls : Array Slot}, wo_Se E G H → va_S (en_A E) s₀.heap H locs → lx_has ls 5 [(0, 1, .ref x0), (2, 1, .int x2), (3, 1, .int x3), (4, 1, .int x4)] → c ≤ mc → s ≤ ms → W p l e R s₀ m args below meth cd H locs c s (MQ below (va_Qi Post (wo_B E) (en_A E)) args s₀ mc ms (en_A E)) (F0 m 92 ls [])) : ∀ {G : wo_W} {c s : Nat} {x0 : Nat} {x2 : Int32} {x3 : Int32} {x4 : Int32} {y0 : Option Nat} {y1 : Int32}, pq_Md_arrive_129 E mc ms Post k92 G c s x0 x2 x3 x4 y0 y1 → ∀ {H : Heap} {locs : List Loc} {ls : Array Slot}, wo_Se E G H → va_S (en_A E) s₀.heap H locs → lx_has ls 5 [(0, 1, .ref x0), (2, 1, .int x2), (3, 1, .int x3), (4, 1, .int x4)] → c ≤ mc → s ≤ ms → W p l e R s₀ m args below meth cd H locs c s (MQ below (va_Qi Post (wo_B E) (en_A E)) args s₀ mc ms (en_A E)) (F0 m 129 ls [.int y1, va_rf y0]) := by
  intro G c s x0 x2 x3 x4 y0 y1 hw H locs ls hG hS hl hcc hss
  dsimp only [pq_Md_arrive_129] at hw
  have hx := hC.1
  have hb := hC.2.1
  refine lv_iconst (v := (0 : Int32)) hx hb dq_Md_arrive_129 rfl ?_
  exact tq_Md_arrive_130 hC hk92 hw hG hS (lx_sub hl [0, 1, 2, 3] rfl) hcc hss
set_option maxRecDepth 100000 in
set_option maxHeartbeats 4000000 in
theorem tq_Md_arrive_92 {p : Program} {l : Launch} {e : Env} {R : Room} {s₀ : State} {m : MethodId} {args : Array Value} {below : List Frame} {meth : Method} {cd : Code} {E : wo_E} {mc ms : Nat} {Post : Int32 → wo_W → Prop} (hC : wo_Cx E "EdgeCacheModel" prog_14_method_53_code 5 6 138 ((Option.some Jvm.ClassFile.FieldType.int)) "arrive" mc ms p R s₀ m args meth cd) : ∀ n : Nat, ∀ {G : wo_W} {c s : Nat} {x0 : Nat} {x2 : Int32} {x3 : Int32} {x4 : Int32}, pq_Md_arrive_92 E mc ms Post n G c s x0 x2 x3 x4 → ∀ {H : Heap} {locs : List Loc} {ls : Array Slot}, wo_Se E G H → va_S (en_A E) s₀.heap H locs → lx_has ls 5 [(0, 1, .ref x0), (2, 1, .int x2), (3, 1, .int x3), (4, 1, .int x4)] → c ≤ mc → s ≤ ms → W p l e R s₀ m args below meth cd H locs c s (MQ below (va_Qi Post (wo_B E) (en_A E)) args s₀ mc ms (en_A E)) (F0 m 92 ls []) := by
  intro n
  induction n with
  | zero => intro G c s x0 x2 x3 x4 hw; exact hw.elim
  | succ n ih =>
    intro G c s x0 x2 x3 x4 hw H locs ls hG hS hl hcc hss
    dsimp only [pq_Md_arrive_92] at hw
    have hx := hC.1
    have hb := hC.2.1
    refine lv_iload hx hb dq_Md_arrive_92 (lx_at hl 3 rfl) ?_
    refine lv_bipush (v := (20 : Int32)) hx hb dq_Md_arrive_94 rfl ?_
    refine lv_icmp_ge (tgt := 137) hx hb dq_Md_arrive_96 rfl (fun h => ?_) (fun h => ?_)
    · replace hw := hw.1 h
      refine lv_goto (tgt := 164) hx hb dq_Md_arrive_137 rfl ?_
      exact tq_Md_arrive_164 hC hw hG hS (lx_sub hl [0, 1, 2] rfl) hcc hss
    · replace hw := hw.2 h
      refine lv_aload_n hx hb dq_Md_arrive_99 rfl (lx_at hl 0 rfl) ?_
      obtain ⟨t1, hw⟩ := hw
      refine wo_getR hC fq_Md_120 rfl hG t1 dq_Md_arrive_100 (fun r2 e3 => ?_)
      replace hw := hw r2 e3
      refine lv_iload hx hb dq_Md_arrive_103 (lx_at hl 3 rfl) ?_
      refine lv_aload_n hx hb dq_Md_arrive_105 rfl (lx_at hl 0 rfl) ?_
      refine wo_getR hC fq_Md_120 rfl hG t1 dq_Md_arrive_106 (fun r4 e5 => ?_)
      replace hw := hw r4 e5
      refine lv_iload hx hb dq_Md_arrive_109 (lx_at hl 3 rfl) ?_
      obtain ⟨a6, rfl, hw⟩ := hw
      obtain ⟨t7, hw⟩ := hw
      obtain ⟨h8, hw⟩ := hw
      refine wo_zald (j := 8) hC rfl hG t7 h8 dq_Md_arrive_111 ?_
      refine lv_if_eq (tgt := 129) hx hb dq_Md_arrive_112 rfl (fun h => ?_) (fun h => ?_)
      · replace hw := hw.1 h
        exact tq_Md_arrive_129 hC ih hw hG hS (lx_sub hl [0, 1, 2, 3] rfl) hcc hss
      · replace hw := hw.2 h
        refine lv_aload_n hx hb dq_Md_arrive_115 rfl (lx_at hl 0 rfl) ?_
        refine lv_iload hx hb dq_Md_arrive_116 (lx_at hl 3 rfl) ?_
        refine lv_iload_n hx hb dq_Md_arrive_118 rfl (lx_at hl 1 rfl) ?_
        obtain ⟨mc9, ms10, hc1, hs1, hw⟩ := hw
        refine va_calli (wo_runV hC lq_Md_355 (mq_Md_fits hw) hG hS t1 rfl (lx_sz hl) rfl (lx_rm (Nat.le_of_ble_eq_true rfl)) (by decide) dq_Md_arrive_119 ⟨hc1, hs1⟩) hS (fun _ _ h => h) (fun _ h => h) (fun v12 G11 t H locs ht hvm hw' hB _ _ hS => ?_)
        clear hw
        have hw := hw'
        clear hw'
        replace hG := wo_bk ht hB
        replace hcc := hc1
        replace hss := hs1
        refine lv_if_ne (tgt := 129) hx hb dq_Md_arrive_122 rfl (fun h => ?_) (fun h => ?_)
        · replace hw := hw.1 h
          exact tq_Md_arrive_129 hC ih hw hG hS (lx_sub hl [0, 1, 2, 3] rfl) hcc hss
        · replace hw := hw.2 h
          refine lv_iconst (v := (1 : Int32)) hx hb dq_Md_arrive_125 rfl ?_
          refine lv_goto (tgt := 130) hx hb dq_Md_arrive_126 rfl ?_
          exact tq_Md_arrive_130 hC ih hw hG hS (lx_sub hl [0, 1, 2, 3] rfl) hcc hss
set_option maxRecDepth 100000 in
set_option maxHeartbeats 4000000 in
theorem tq_Md_arrive_18 {p : Program} {l : Launch} {e : Env} {R : Room} {s₀ : State} {m : MethodId} {args : Array Value} {below : List Frame} {meth : Method} {cd : Code} {E : wo_E} {mc ms : Nat} {Post : Int32 → wo_W → Prop} (hC : wo_Cx E "EdgeCacheModel" prog_14_method_53_code 5 6 138 ((Option.some Jvm.ClassFile.FieldType.int)) "arrive" mc ms p R s₀ m args meth cd) : ∀ {G : wo_W} {c s : Nat} {x0 : Nat} {x1 : Int32} {y0 : Int32}, pq_Md_arrive_18 E mc ms Post G c s x0 x1 y0 → ∀ {H : Heap} {locs : List Loc} {ls : Array Slot}, wo_Se E G H → va_S (en_A E) s₀.heap H locs → lx_has ls 5 [(0, 1, .ref x0), (1, 1, .int x1)] → c ≤ mc → s ≤ ms → W p l e R s₀ m args below meth cd H locs c s (MQ below (va_Qi Post (wo_B E) (en_A E)) args s₀ mc ms (en_A E)) (F0 m 18 ls [.int y0]) := by
  intro G c s x0 x1 y0 hw H locs ls hG hS hl hcc hss
  dsimp only [pq_Md_arrive_18] at hw
  have hx := hC.1
  have hb := hC.2.1
  refine lx_istore_n (lv' := [(2, 1, .int y0), (0, 1, .ref x0), (1, 1, .int x1)]) hx hb dq_Md_arrive_18 rfl hl (by decide) rfl (fun ls hl' => ?_)
  clear hl
  have hl := hl'
  clear hl'
  refine lv_iload_n hx hb dq_Md_arrive_19 rfl (lx_at hl 0 rfl) ?_
  refine lv_if_lt (tgt := 33) hx hb dq_Md_arrive_20 rfl (fun h => ?_) (fun h => ?_)
  · replace hw := hw.1 h
    exact tq_Md_arrive_33 hC hw hG hS (lx_sub hl [] rfl) hcc hss
  · replace hw := hw.2 h
    refine lv_aload_n hx hb dq_Md_arrive_23 rfl (lx_at hl 1 rfl) ?_
    obtain ⟨t1, hw⟩ := hw
    refine wo_getR hC fq_Md_69 rfl hG t1 dq_Md_arrive_24 (fun r2 e3 => ?_)
    replace hw := hw r2 e3
    refine lv_iload_n hx hb dq_Md_arrive_27 rfl (lx_at hl 0 rfl) ?_
    obtain ⟨a4, rfl, hw⟩ := hw
    obtain ⟨t5, hw⟩ := hw
    obtain ⟨h6, hw⟩ := hw
    refine wo_iald (j := 2) hC rfl hG t5 h6 dq_Md_arrive_28 ?_
    refine lv_iconst (v := (3 : Int32)) hx hb dq_Md_arrive_29 rfl ?_
    refine lv_icmp_eq (tgt := 35) hx hb dq_Md_arrive_30 rfl (fun h => ?_) (fun h => ?_)
    · replace hw := hw.1 h
      refine lv_aload_n hx hb dq_Md_arrive_35 rfl (lx_at hl 1 rfl) ?_
      refine wo_getR hC fq_Md_93 rfl hG t1 dq_Md_arrive_36 (fun r7 e8 => ?_)
      replace hw := hw r7 e8
      refine lv_iload_n hx hb dq_Md_arrive_39 rfl (lx_at hl 0 rfl) ?_
      obtain ⟨a9, rfl, hw⟩ := hw
      obtain ⟨t10, hw⟩ := hw
      obtain ⟨h11, hw⟩ := hw
      refine wo_iald (j := 2) hC rfl hG t10 h11 dq_Md_arrive_40 ?_
      refine lx_istore_n (lv' := [(3, 1, .int (wo_ei G a9 y0.toNatClampNeg)), (2, 1, .int y0), (0, 1, .ref x0), (1, 1, .int x1)]) hx hb dq_Md_arrive_41 rfl hl (by decide) rfl (fun ls hl' => ?_)
      clear hl
      have hl := hl'
      clear hl'
      refine lv_aload_n hx hb dq_Md_arrive_42 rfl (lx_at hl 2 rfl) ?_
      refine wo_getR hC fq_Md_41 rfl hG t1 dq_Md_arrive_43 (fun r12 e13 => ?_)
      replace hw := hw r12 e13
      refine lv_iload_n hx hb dq_Md_arrive_46 rfl (lx_at hl 1 rfl) ?_
      obtain ⟨a14, rfl, hw⟩ := hw
      obtain ⟨t15, hw⟩ := hw
      obtain ⟨h16, hw⟩ := hw
      refine wo_iald (j := 2) hC rfl hG t15 h16 dq_Md_arrive_47 ?_
      refine lv_iconst (v := (1 : Int32)) hx hb dq_Md_arrive_48 rfl ?_
      refine lv_icmp_le (tgt := 76) hx hb dq_Md_arrive_49 rfl (fun h => ?_) (fun h => ?_)
      · replace hw := hw.1 h
        refine lv_iload_n hx hb dq_Md_arrive_76 rfl (lx_at hl 0 rfl) ?_
        refine lv_sipush (v := (400 : Int32)) hx hb dq_Md_arrive_77 rfl ?_
        refine lv_icmp_le (tgt := 140) hx hb dq_Md_arrive_80 rfl (fun h => ?_) (fun h => ?_)
        · replace hw := hw.1 h
          refine lv_aload_n hx hb dq_Md_arrive_140 rfl (lx_at hl 2 rfl) ?_
          refine wo_getR hC fq_Md_90 rfl hG t1 dq_Md_arrive_141 (fun r17 e18 => ?_)
          replace hw := hw r17 e18
          refine lv_iload_n hx hb dq_Md_arrive_144 rfl (lx_at hl 1 rfl) ?_
          obtain ⟨a19, rfl, hw⟩ := hw
          obtain ⟨t20, hw⟩ := hw
          obtain ⟨h21, hw⟩ := hw
          refine wo_zald (j := 8) hC rfl hG t20 h21 dq_Md_arrive_145 ?_
          refine lv_if_ne (tgt := 154) hx hb dq_Md_arrive_146 rfl (fun h => ?_) (fun h => ?_)
          · replace hw := hw.1 h
            exact tq_Md_arrive_154 hC hw hG hS (lx_sub hl [2, 1, 0] rfl) hcc hss
          · replace hw := hw.2 h
            refine lv_aload_n hx hb dq_Md_arrive_149 rfl (lx_at hl 2 rfl) ?_
            refine lv_iload_n hx hb dq_Md_arrive_150 rfl (lx_at hl 1 rfl) ?_
            obtain ⟨mc22, ms23, hc1, hs1, hw⟩ := hw
            refine va_callv (wo_runV hC lq_Md_379 (mq_Md_store hw) hG hS t1 rfl (lx_sz hl) rfl (Nat.zero_le _) (by decide) dq_Md_arrive_151 ⟨hc1, hs1⟩) hS (fun _ _ h => h) (fun _ h => h) (fun G24 t H locs ht hvm hw' hB _ _ hS => ?_)
            clear hw
            have hw := hw'
            clear hw'
            replace hG := wo_bk ht hB
            replace hcc := hc1
            replace hss := hs1
            exact tq_Md_arrive_154 hC hw hG hS (lx_sub hl [2, 1, 0] rfl) hcc hss
        · replace hw := hw.2 h
          refine lv_aload_n hx hb dq_Md_arrive_83 rfl (lx_at hl 2 rfl) ?_
          refine lv_iload_n hx hb dq_Md_arrive_84 rfl (lx_at hl 0 rfl) ?_
          obtain ⟨mc25, ms26, hc1, hs1, hw⟩ := hw
          refine va_calli (wo_runV hC lq_Md_190 (mq_Md_plain hw) hG hS t1 rfl (lx_sz hl) rfl (Nat.zero_le _) (by decide) dq_Md_arrive_85 ⟨hc1, hs1⟩) hS (fun _ _ h => h) (fun _ h => h) (fun v28 G27 t H locs ht hvm hw' hB _ _ hS => ?_)
          clear hw
          have hw := hw'
          clear hw'
          replace hG := wo_bk ht hB
          replace hcc := hc1
          replace hss := hs1
          refine lv_pop hx hb dq_Md_arrive_88 rfl ?_
          refine lv_iconst (v := (0 : Int32)) hx hb dq_Md_arrive_89 rfl ?_
          refine lx_istore (lv' := [(4, 1, .int (0 : Int32)), (3, 1, .int (wo_ei G a9 y0.toNatClampNeg)), (2, 1, .int y0), (0, 1, .ref x0), (1, 1, .int x1)]) hx hb dq_Md_arrive_90 hl (by decide) rfl (fun ls hl' => ?_)
          clear hl
          have hl := hl'
          clear hl'
          obtain ⟨n1, hw⟩ := hw
          exact tq_Md_arrive_92 hC n1 hw hG hS (lx_sub hl [3, 2, 1, 0] rfl) hcc hss
      · replace hw := hw.2 h
        refine lv_aload_n hx hb dq_Md_arrive_52 rfl (lx_at hl 2 rfl) ?_
        refine lv_iload_n hx hb dq_Md_arrive_53 rfl (lx_at hl 1 rfl) ?_
        refine lv_iload_n hx hb dq_Md_arrive_54 rfl (lx_at hl 0 rfl) ?_
        obtain ⟨mc29, ms30, hc1, hs1, hw⟩ := hw
        refine va_callv (wo_runV hC lq_Md_337 (mq_Md_changed hw) hG hS t1 rfl (lx_sz hl) rfl (Nat.zero_le _) (by decide) dq_Md_arrive_55 ⟨hc1, hs1⟩) hS (fun _ _ h => h) (fun _ h => h) (fun G31 t H locs ht hvm hw' hB _ _ hS => ?_)
        clear hw
        have hw := hw'
        clear hw'
        replace hG := wo_bk ht hB
        replace hcc := hc1
        replace hss := hs1
        refine lv_iload_n hx hb dq_Md_arrive_58 rfl (lx_at hl 0 rfl) ?_
        refine lv_sipush (v := (300 : Int32)) hx hb dq_Md_arrive_59 rfl ?_
        refine lv_icmp_ge (tgt := 164) hx hb dq_Md_arrive_62 rfl (fun h => ?_) (fun h => ?_)
        · replace hw := hw.1 h
          exact tq_Md_arrive_164 hC hw hG hS (lx_sub hl [2, 1, 0] rfl) hcc hss
        · replace hw := hw.2 h
          refine lv_aload_n hx hb dq_Md_arrive_65 rfl (lx_at hl 2 rfl) ?_
          refine lv_iload_n hx hb dq_Md_arrive_66 rfl (lx_at hl 1 rfl) ?_
          refine lv_iconst (v := (1 : Int32)) hx hb dq_Md_arrive_67 rfl ?_
          refine lv_iload_n hx hb dq_Md_arrive_68 rfl (lx_at hl 3 rfl) ?_
          refine lv_isub hx hb dq_Md_arrive_69 ?_
          obtain ⟨t32, hw⟩ := hw
          obtain ⟨mc33, ms34, hc1, hs1, hw⟩ := hw
          refine va_callv (wo_runV hC lq_Md_376 (mq_Md_invalidate hw) hG hS t32 rfl (lx_sz hl) rfl (Nat.zero_le _) (by decide) dq_Md_arrive_70 ⟨hc1, hs1⟩) hS (fun _ _ h => h) (fun _ h => h) (fun G35 t H locs ht hvm hw' hB _ _ hS => ?_)
          clear hw
          have hw := hw'
          clear hw'
          replace hG := wo_bk ht hB
          replace hcc := hc1
          replace hss := hs1
          refine lv_goto (tgt := 164) hx hb dq_Md_arrive_73 rfl ?_
          exact tq_Md_arrive_164 hC hw hG hS (lx_sub hl [2, 1, 0] rfl) hcc hss
    · replace hw := hw.2 h
      exact tq_Md_arrive_33 hC hw hG hS (lx_sub hl [] rfl) hcc hss
set_option maxRecDepth 100000 in
set_option maxHeartbeats 4000000 in
theorem tq_Md_arrive_9 {p : Program} {l : Launch} {e : Env} {R : Room} {s₀ : State} {m : MethodId} {args : Array Value} {below : List Frame} {meth : Method} {cd : Code} {E : wo_E} {mc ms : Nat} {Post : Int32 → wo_W → Prop} (hC : wo_Cx E "EdgeCacheModel" prog_14_method_53_code 5 6 138 ((Option.some Jvm.ClassFile.FieldType.int)) "arrive" mc ms p R s₀ m args meth cd) : ∀ {G : wo_W} {c s : Nat} {x0 : Nat} {x1 : Int32}, pq_Md_arrive_9 E mc ms Post G c s x0 x1 → ∀ {H : Heap} {locs : List Loc} {ls : Array Slot}, wo_Se E G H → va_S (en_A E) s₀.heap H locs → lx_has ls 5 [(0, 1, .ref x0), (1, 1, .int x1)] → c ≤ mc → s ≤ ms → W p l e R s₀ m args below meth cd H locs c s (MQ below (va_Qi Post (wo_B E) (en_A E)) args s₀ mc ms (en_A E)) (F0 m 9 ls []) := by
  intro G c s x0 x1 hw H locs ls hG hS hl hcc hss
  dsimp only [pq_Md_arrive_9] at hw
  have hx := hC.1
  have hb := hC.2.1
  refine lv_iconst (v := (-1 : Int32)) hx hb dq_Md_arrive_9 rfl ?_
  refine lv_goto (tgt := 18) hx hb dq_Md_arrive_10 rfl ?_
  exact tq_Md_arrive_18 hC hw hG hS (lx_sub hl [0, 1] rfl) hcc hss
set_option maxRecDepth 100000 in
set_option maxHeartbeats 4000000 in
theorem tq_Md_arrive_0 {p : Program} {l : Launch} {e : Env} {R : Room} {s₀ : State} {m : MethodId} {args : Array Value} {below : List Frame} {meth : Method} {cd : Code} {E : wo_E} {mc ms : Nat} {Post : Int32 → wo_W → Prop} (hC : wo_Cx E "EdgeCacheModel" prog_14_method_53_code 5 6 138 ((Option.some Jvm.ClassFile.FieldType.int)) "arrive" mc ms p R s₀ m args meth cd) : ∀ {G : wo_W} {c s : Nat} {x0 : Nat} {x1 : Int32}, pq_Md_arrive_0 E mc ms Post G c s x0 x1 → ∀ {H : Heap} {locs : List Loc} {ls : Array Slot}, wo_Se E G H → va_S (en_A E) s₀.heap H locs → lx_has ls 5 [(0, 1, .ref x0), (1, 1, .int x1)] → c ≤ mc → s ≤ ms → W p l e R s₀ m args below meth cd H locs c s (MQ below (va_Qi Post (wo_B E) (en_A E)) args s₀ mc ms (en_A E)) (F0 m 0 ls []) := by
  intro G c s x0 x1 hw H locs ls hG hS hl hcc hss
  dsimp only [pq_Md_arrive_0] at hw
  have hx := hC.1
  have hb := hC.2.1
  refine lv_iload_n hx hb dq_Md_arrive_0 rfl (lx_at hl 1 rfl) ?_
  refine lv_if_lt (tgt := 9) hx hb dq_Md_arrive_1 rfl (fun h => ?_) (fun h => ?_)
  · replace hw := hw.1 h
    exact tq_Md_arrive_9 hC hw hG hS (lx_sub hl [0, 1] rfl) hcc hss
  · replace hw := hw.2 h
    refine lv_iload_n hx hb dq_Md_arrive_4 rfl (lx_at hl 1 rfl) ?_
    refine lv_iconst (v := (1 : Int32)) hx hb dq_Md_arrive_5 rfl ?_
    refine lv_icmp_le (tgt := 13) hx hb dq_Md_arrive_6 rfl (fun h => ?_) (fun h => ?_)
    · replace hw := hw.1 h
      refine lv_aload_n hx hb dq_Md_arrive_13 rfl (lx_at hl 0 rfl) ?_
      refine lv_iload_n hx hb dq_Md_arrive_14 rfl (lx_at hl 1 rfl) ?_
      obtain ⟨t1, hw⟩ := hw
      obtain ⟨mc2, ms3, hc1, hs1, hw⟩ := hw
      refine va_calli (wo_runV hC lq_Md_373 (mq_Md_jobOn hw) hG hS t1 rfl (lx_sz hl) rfl (Nat.zero_le _) (by decide) dq_Md_arrive_15 ⟨hc1, hs1⟩) hS (fun _ _ h => h) (fun _ h => h) (fun v5 G4 t H locs ht hvm hw' hB _ _ hS => ?_)
      clear hw
      have hw := hw'
      clear hw'
      replace hG := wo_bk ht hB
      replace hcc := hc1
      replace hss := hs1
      exact tq_Md_arrive_18 hC hw hG hS (lx_sub hl [0, 1] rfl) hcc hss
    · replace hw := hw.2 h
      exact tq_Md_arrive_9 hC hw hG hS (lx_sub hl [0, 1] rfl) hcc hss
set_option maxHeartbeats 4000000 in
theorem mq_Md_arrive {l : Launch} {E : wo_E} {mc ms : Nat} {Post : Int32 → wo_W → Prop} {G : wo_W} {x0 : Nat} {x1 : Int32} (hw : pq_Md_arrive E mc ms Post G x0 x1) : Met l yq_Md_arrive (Cond.code yq_Md_arrive prog_14_method_53_code 5 ((Option.some Jvm.ClassFile.FieldType.int)) :: vw_WG) { frames := 6, cells := mc, slots := ms, locals := 138 } (va_Pc [.ref x0, .int x1] (wo_Ok E G)) (va_Qi Post (wo_B E) (en_A E)) mc ms (en_A E) := by
  unfold pq_Md_arrive at hw
  exact wo_met [(1, .ref x0), (1, .int x1)] rfl (by decide) (fun q hq => by simp only [List.mem_cons, List.not_mem_nil, or_false] at hq; rcases hq with rfl | rfl <;> first | rfl | exact lx_cR _) (Nat.le_of_ble_eq_true rfl) (fun p e R s m args below meth cd ls hC hG hS hl => tq_Md_arrive_0 hC hw hG hS (lx_sub hl [0, 1] rfl) (Nat.zero_le _) (Nat.zero_le _))
