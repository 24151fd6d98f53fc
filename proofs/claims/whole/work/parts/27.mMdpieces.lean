theorem dq_Md_pieces_0 : decode prog_14_method_32_code 0 = .ok (.iconst 0, 1) := by decide +kernel
theorem dq_Md_pieces_1 : decode prog_14_method_32_code 1 = .ok (.istore 5, 2) := by decide +kernel
theorem dq_Md_pieces_3 : decode prog_14_method_32_code 3 = .ok (.iconst 0, 1) := by decide +kernel
theorem dq_Md_pieces_4 : decode prog_14_method_32_code 4 = .ok (.istore 6, 2) := by decide +kernel
theorem dq_Md_pieces_6 : decode prog_14_method_32_code 6 = .ok (.iconst 0, 1) := by decide +kernel
theorem dq_Md_pieces_7 : decode prog_14_method_32_code 7 = .ok (.istore 7, 2) := by decide +kernel
theorem dq_Md_pieces_9 : decode prog_14_method_32_code 9 = .ok (.iconst 0, 1) := by decide +kernel
theorem dq_Md_pieces_10 : decode prog_14_method_32_code 10 = .ok (.istore 8, 2) := by decide +kernel
theorem dq_Md_pieces_12 : decode prog_14_method_32_code 12 = .ok (.iload 8, 2) := by decide +kernel
theorem dq_Md_pieces_14 : decode prog_14_method_32_code 14 = .ok (.iload_n 3, 1) := by decide +kernel
theorem dq_Md_pieces_15 : decode prog_14_method_32_code 15 = .ok (.if_icmp .gt 277, 3) := by decide +kernel
theorem dq_Md_pieces_18 : decode prog_14_method_32_code 18 = .ok (.iload 8, 2) := by decide +kernel
theorem dq_Md_pieces_20 : decode prog_14_method_32_code 20 = .ok (.iload_n 3, 1) := by decide +kernel
theorem dq_Md_pieces_21 : decode prog_14_method_32_code 21 = .ok (.if_icmp .eq 14, 3) := by decide +kernel
theorem dq_Md_pieces_24 : decode prog_14_method_32_code 24 = .ok (.lload_n 1, 1) := by decide +kernel
theorem dq_Md_pieces_25 : decode prog_14_method_32_code 25 = .ok (.iload 8, 2) := by decide +kernel
theorem dq_Md_pieces_27 : decode prog_14_method_32_code 27 = .ok (.invokestatic 254, 3) := by decide +kernel
theorem dq_Md_pieces_30 : decode prog_14_method_32_code 30 = .ok (.bipush 44, 2) := by decide +kernel
theorem dq_Md_pieces_32 : decode prog_14_method_32_code 32 = .ok (.if_icmp .ne 254, 3) := by decide +kernel
theorem dq_Md_pieces_35 : decode prog_14_method_32_code 35 = .ok (.iload 8, 2) := by decide +kernel
theorem dq_Md_pieces_37 : decode prog_14_method_32_code 37 = .ok (.iload_n 3, 1) := by decide +kernel
theorem dq_Md_pieces_38 : decode prog_14_method_32_code 38 = .ok (.if_icmp .ge 10, 3) := by decide +kernel
theorem dq_Md_pieces_41 : decode prog_14_method_32_code 41 = .ok (.iload 6, 2) := by decide +kernel
theorem dq_Md_pieces_43 : decode prog_14_method_32_code 43 = .ok (.iconst 1, 1) := by decide +kernel
theorem dq_Md_pieces_44 : decode prog_14_method_32_code 44 = .ok (.iadd, 1) := by decide +kernel
theorem dq_Md_pieces_45 : decode prog_14_method_32_code 45 = .ok (.goto 5, 3) := by decide +kernel
theorem dq_Md_pieces_48 : decode prog_14_method_32_code 48 = .ok (.iload 6, 2) := by decide +kernel
theorem dq_Md_pieces_50 : decode prog_14_method_32_code 50 = .ok (.istore 6, 2) := by decide +kernel
theorem dq_Md_pieces_52 : decode prog_14_method_32_code 52 = .ok (.iload 7, 2) := by decide +kernel
theorem dq_Md_pieces_54 : decode prog_14_method_32_code 54 = .ok (.istore 9, 2) := by decide +kernel
theorem dq_Md_pieces_56 : decode prog_14_method_32_code 56 = .ok (.iload 9, 2) := by decide +kernel
theorem dq_Md_pieces_58 : decode prog_14_method_32_code 58 = .ok (.iload 8, 2) := by decide +kernel
theorem dq_Md_pieces_60 : decode prog_14_method_32_code 60 = .ok (.if_icmp .ge 20, 3) := by decide +kernel
theorem dq_Md_pieces_63 : decode prog_14_method_32_code 63 = .ok (.lload_n 1, 1) := by decide +kernel
theorem dq_Md_pieces_64 : decode prog_14_method_32_code 64 = .ok (.iload 9, 2) := by decide +kernel
theorem dq_Md_pieces_66 : decode prog_14_method_32_code 66 = .ok (.invokestatic 254, 3) := by decide +kernel
theorem dq_Md_pieces_69 : decode prog_14_method_32_code 69 = .ok (.bipush 45, 2) := by decide +kernel
theorem dq_Md_pieces_71 : decode prog_14_method_32_code 71 = .ok (.if_icmp .eq 9, 3) := by decide +kernel
theorem dq_Md_pieces_74 : decode prog_14_method_32_code 74 = .ok (.iinc 9 1, 3) := by decide +kernel
theorem dq_Md_pieces_77 : decode prog_14_method_32_code 77 = .ok (.goto (-21), 3) := by decide +kernel
theorem dq_Md_pieces_80 : decode prog_14_method_32_code 80 = .ok (.lload_n 1, 1) := by decide +kernel
theorem dq_Md_pieces_81 : decode prog_14_method_32_code 81 = .ok (.iload 7, 2) := by decide +kernel
theorem dq_Md_pieces_83 : decode prog_14_method_32_code 83 = .ok (.iload 9, 2) := by decide +kernel
theorem dq_Md_pieces_85 : decode prog_14_method_32_code 85 = .ok (.invokestatic 248, 3) := by decide +kernel
theorem dq_Md_pieces_88 : decode prog_14_method_32_code 88 = .ok (.istore 10, 2) := by decide +kernel
theorem dq_Md_pieces_90 : decode prog_14_method_32_code 90 = .ok (.lload_n 1, 1) := by decide +kernel
theorem dq_Md_pieces_91 : decode prog_14_method_32_code 91 = .ok (.iload 9, 2) := by decide +kernel
theorem dq_Md_pieces_93 : decode prog_14_method_32_code 93 = .ok (.iconst 1, 1) := by decide +kernel
theorem dq_Md_pieces_94 : decode prog_14_method_32_code 94 = .ok (.iadd, 1) := by decide +kernel
theorem dq_Md_pieces_95 : decode prog_14_method_32_code 95 = .ok (.iload 8, 2) := by decide +kernel
theorem dq_Md_pieces_97 : decode prog_14_method_32_code 97 = .ok (.invokestatic 248, 3) := by decide +kernel
theorem dq_Md_pieces_100 : decode prog_14_method_32_code 100 = .ok (.istore 11, 2) := by decide +kernel
theorem dq_Md_pieces_102 : decode prog_14_method_32_code 102 = .ok (.iload 9, 2) := by decide +kernel
theorem dq_Md_pieces_104 : decode prog_14_method_32_code 104 = .ok (.iload 7, 2) := by decide +kernel
theorem dq_Md_pieces_106 : decode prog_14_method_32_code 106 = .ok (.if_icmp .ne 7, 3) := by decide +kernel
theorem dq_Md_pieces_109 : decode prog_14_method_32_code 109 = .ok (.iconst 1, 1) := by decide +kernel
theorem dq_Md_pieces_110 : decode prog_14_method_32_code 110 = .ok (.goto 4, 3) := by decide +kernel
theorem dq_Md_pieces_113 : decode prog_14_method_32_code 113 = .ok (.iconst 0, 1) := by decide +kernel
theorem dq_Md_pieces_114 : decode prog_14_method_32_code 114 = .ok (.istore 12, 2) := by decide +kernel
theorem dq_Md_pieces_116 : decode prog_14_method_32_code 116 = .ok (.iload 9, 2) := by decide +kernel
theorem dq_Md_pieces_118 : decode prog_14_method_32_code 118 = .ok (.iconst 1, 1) := by decide +kernel
theorem dq_Md_pieces_119 : decode prog_14_method_32_code 119 = .ok (.iadd, 1) := by decide +kernel
theorem dq_Md_pieces_120 : decode prog_14_method_32_code 120 = .ok (.iload 8, 2) := by decide +kernel
theorem dq_Md_pieces_122 : decode prog_14_method_32_code 122 = .ok (.if_icmp .ne 7, 3) := by decide +kernel
theorem dq_Md_pieces_125 : decode prog_14_method_32_code 125 = .ok (.iconst 1, 1) := by decide +kernel
theorem dq_Md_pieces_126 : decode prog_14_method_32_code 126 = .ok (.goto 4, 3) := by decide +kernel
theorem dq_Md_pieces_129 : decode prog_14_method_32_code 129 = .ok (.iconst 0, 1) := by decide +kernel
theorem dq_Md_pieces_130 : decode prog_14_method_32_code 130 = .ok (.istore 13, 2) := by decide +kernel
theorem dq_Md_pieces_132 : decode prog_14_method_32_code 132 = .ok (.iload 9, 2) := by decide +kernel
theorem dq_Md_pieces_134 : decode prog_14_method_32_code 134 = .ok (.iload 8, 2) := by decide +kernel
theorem dq_Md_pieces_136 : decode prog_14_method_32_code 136 = .ok (.if_icmp .ge 56, 3) := by decide +kernel
theorem dq_Md_pieces_139 : decode prog_14_method_32_code 139 = .ok (.iload 6, 2) := by decide +kernel
theorem dq_Md_pieces_141 : decode prog_14_method_32_code 141 = .ok (.iconst 1, 1) := by decide +kernel
theorem dq_Md_pieces_142 : decode prog_14_method_32_code 142 = .ok (.if_icmp .gt 50, 3) := by decide +kernel
theorem dq_Md_pieces_145 : decode prog_14_method_32_code 145 = .ok (.iload 10, 2) := by decide +kernel
theorem dq_Md_pieces_147 : decode prog_14_method_32_code 147 = .ok (.ifCond .ge 8, 3) := by decide +kernel
theorem dq_Md_pieces_150 : decode prog_14_method_32_code 150 = .ok (.iload 12, 2) := by decide +kernel
theorem dq_Md_pieces_152 : decode prog_14_method_32_code 152 = .ok (.ifCond .eq 40, 3) := by decide +kernel
theorem dq_Md_pieces_155 : decode prog_14_method_32_code 155 = .ok (.iload 11, 2) := by decide +kernel
theorem dq_Md_pieces_157 : decode prog_14_method_32_code 157 = .ok (.ifCond .ge 8, 3) := by decide +kernel
theorem dq_Md_pieces_160 : decode prog_14_method_32_code 160 = .ok (.iload 13, 2) := by decide +kernel
theorem dq_Md_pieces_162 : decode prog_14_method_32_code 162 = .ok (.ifCond .eq 30, 3) := by decide +kernel
theorem dq_Md_pieces_165 : decode prog_14_method_32_code 165 = .ok (.iload 12, 2) := by decide +kernel
theorem dq_Md_pieces_167 : decode prog_14_method_32_code 167 = .ok (.ifCond .eq 8, 3) := by decide +kernel
theorem dq_Md_pieces_170 : decode prog_14_method_32_code 170 = .ok (.iload 13, 2) := by decide +kernel
theorem dq_Md_pieces_172 : decode prog_14_method_32_code 172 = .ok (.ifCond .ne 20, 3) := by decide +kernel
theorem dq_Md_pieces_175 : decode prog_14_method_32_code 175 = .ok (.iload 10, 2) := by decide +kernel
theorem dq_Md_pieces_177 : decode prog_14_method_32_code 177 = .ok (.ifCond .lt 17, 3) := by decide +kernel
theorem dq_Md_pieces_180 : decode prog_14_method_32_code 180 = .ok (.iload 11, 2) := by decide +kernel
theorem dq_Md_pieces_182 : decode prog_14_method_32_code 182 = .ok (.ifCond .lt 12, 3) := by decide +kernel
theorem dq_Md_pieces_185 : decode prog_14_method_32_code 185 = .ok (.iload 10, 2) := by decide +kernel
theorem dq_Md_pieces_187 : decode prog_14_method_32_code 187 = .ok (.iload 11, 2) := by decide +kernel
theorem dq_Md_pieces_189 : decode prog_14_method_32_code 189 = .ok (.if_icmp .le 5, 3) := by decide +kernel
theorem dq_Md_pieces_192 : decode prog_14_method_32_code 192 = .ok (.iconst (-1), 1) := by decide +kernel
theorem dq_Md_pieces_193 : decode prog_14_method_32_code 193 = .ok (.ireturn, 1) := by decide +kernel
theorem dq_Md_pieces_194 : decode prog_14_method_32_code 194 = .ok (.iload 12, 2) := by decide +kernel
theorem dq_Md_pieces_196 : decode prog_14_method_32_code 196 = .ok (.ifCond .eq 22, 3) := by decide +kernel
theorem dq_Md_pieces_199 : decode prog_14_method_32_code 199 = .ok (.iload 11, 2) := by decide +kernel
theorem dq_Md_pieces_201 : decode prog_14_method_32_code 201 = .ok (.iload 4, 2) := by decide +kernel
theorem dq_Md_pieces_203 : decode prog_14_method_32_code 203 = .ok (.if_icmp .le 7, 3) := by decide +kernel
theorem dq_Md_pieces_206 : decode prog_14_method_32_code 206 = .ok (.iconst 0, 1) := by decide +kernel
theorem dq_Md_pieces_207 : decode prog_14_method_32_code 207 = .ok (.goto 13, 3) := by decide +kernel
theorem dq_Md_pieces_210 : decode prog_14_method_32_code 210 = .ok (.iload 4, 2) := by decide +kernel
theorem dq_Md_pieces_212 : decode prog_14_method_32_code 212 = .ok (.iload 11, 2) := by decide +kernel
theorem dq_Md_pieces_214 : decode prog_14_method_32_code 214 = .ok (.isub, 1) := by decide +kernel
theorem dq_Md_pieces_215 : decode prog_14_method_32_code 215 = .ok (.goto 5, 3) := by decide +kernel
theorem dq_Md_pieces_218 : decode prog_14_method_32_code 218 = .ok (.iload 10, 2) := by decide +kernel
theorem dq_Md_pieces_220 : decode prog_14_method_32_code 220 = .ok (.istore 14, 2) := by decide +kernel
theorem dq_Md_pieces_222 : decode prog_14_method_32_code 222 = .ok (.iload 12, 2) := by decide +kernel
theorem dq_Md_pieces_224 : decode prog_14_method_32_code 224 = .ok (.ifCond .ne 17, 3) := by decide +kernel
theorem dq_Md_pieces_227 : decode prog_14_method_32_code 227 = .ok (.iload 13, 2) := by decide +kernel
theorem dq_Md_pieces_229 : decode prog_14_method_32_code 229 = .ok (.ifCond .ne 12, 3) := by decide +kernel
theorem dq_Md_pieces_232 : decode prog_14_method_32_code 232 = .ok (.iload 11, 2) := by decide +kernel
theorem dq_Md_pieces_234 : decode prog_14_method_32_code 234 = .ok (.iload 4, 2) := by decide +kernel
theorem dq_Md_pieces_236 : decode prog_14_method_32_code 236 = .ok (.iconst 1, 1) := by decide +kernel
theorem dq_Md_pieces_237 : decode prog_14_method_32_code 237 = .ok (.isub, 1) := by decide +kernel
theorem dq_Md_pieces_238 : decode prog_14_method_32_code 238 = .ok (.if_icmp .le 10, 3) := by decide +kernel
theorem dq_Md_pieces_241 : decode prog_14_method_32_code 241 = .ok (.iload 4, 2) := by decide +kernel
theorem dq_Md_pieces_243 : decode prog_14_method_32_code 243 = .ok (.iconst 1, 1) := by decide +kernel
theorem dq_Md_pieces_244 : decode prog_14_method_32_code 244 = .ok (.isub, 1) := by decide +kernel
theorem dq_Md_pieces_245 : decode prog_14_method_32_code 245 = .ok (.goto 5, 3) := by decide +kernel
theorem dq_Md_pieces_248 : decode prog_14_method_32_code 248 = .ok (.iload 11, 2) := by decide +kernel
theorem dq_Md_pieces_250 : decode prog_14_method_32_code 250 = .ok (.istore 15, 2) := by decide +kernel
theorem dq_Md_pieces_252 : decode prog_14_method_32_code 252 = .ok (.iload 14, 2) := by decide +kernel
theorem dq_Md_pieces_254 : decode prog_14_method_32_code 254 = .ok (.iload 15, 2) := by decide +kernel
theorem dq_Md_pieces_256 : decode prog_14_method_32_code 256 = .ok (.if_icmp .gt 24, 3) := by decide +kernel
theorem dq_Md_pieces_259 : decode prog_14_method_32_code 259 = .ok (.aload_n 0, 1) := by decide +kernel
theorem dq_Md_pieces_260 : decode prog_14_method_32_code 260 = .ok (.getfield 168, 3) := by decide +kernel
theorem dq_Md_pieces_263 : decode prog_14_method_32_code 263 = .ok (.iload 5, 2) := by decide +kernel
theorem dq_Md_pieces_265 : decode prog_14_method_32_code 265 = .ok (.iload 14, 2) := by decide +kernel
theorem dq_Md_pieces_267 : decode prog_14_method_32_code 267 = .ok (.iastore, 1) := by decide +kernel
theorem dq_Md_pieces_268 : decode prog_14_method_32_code 268 = .ok (.aload_n 0, 1) := by decide +kernel
theorem dq_Md_pieces_269 : decode prog_14_method_32_code 269 = .ok (.getfield 171, 3) := by decide +kernel
theorem dq_Md_pieces_272 : decode prog_14_method_32_code 272 = .ok (.iload 5, 2) := by decide +kernel
theorem dq_Md_pieces_274 : decode prog_14_method_32_code 274 = .ok (.iload 15, 2) := by decide +kernel
theorem dq_Md_pieces_276 : decode prog_14_method_32_code 276 = .ok (.iastore, 1) := by decide +kernel
theorem dq_Md_pieces_277 : decode prog_14_method_32_code 277 = .ok (.iinc 5 1, 3) := by decide +kernel
theorem dq_Md_pieces_280 : decode prog_14_method_32_code 280 = .ok (.iload 8, 2) := by decide +kernel
theorem dq_Md_pieces_282 : decode prog_14_method_32_code 282 = .ok (.iconst 1, 1) := by decide +kernel
theorem dq_Md_pieces_283 : decode prog_14_method_32_code 283 = .ok (.iadd, 1) := by decide +kernel
theorem dq_Md_pieces_284 : decode prog_14_method_32_code 284 = .ok (.istore 7, 2) := by decide +kernel
theorem dq_Md_pieces_286 : decode prog_14_method_32_code 286 = .ok (.iinc 8 1, 3) := by decide +kernel
theorem dq_Md_pieces_289 : decode prog_14_method_32_code 289 = .ok (.goto (-277), 3) := by decide +kernel
theorem dq_Md_pieces_292 : decode prog_14_method_32_code 292 = .ok (.iload 5, 2) := by decide +kernel
theorem dq_Md_pieces_294 : decode prog_14_method_32_code 294 = .ok (.ireturn, 1) := by decide +kernel
set_option maxRecDepth 100000 in
def pq_Md_pieces_192 (E : wo_E) (mc ms : Nat) (Post : Int32 → wo_W → Prop) (G : wo_W) (c s : Nat) : Prop := Post (-1 : Int32) G
set_option maxRecDepth 100000 in
def pq_Md_pieces_286 (E : wo_E) (mc ms : Nat) (Post : Int32 → wo_W → Prop) (k12 : wo_W → Nat → Nat → Nat → Int64 → Int32 → Int32 → Int32 → Int32 → Int32 → Int32 → Prop) (G : wo_W) (c s : Nat) (x0 : Nat) (x1 : Int64) (x3 : Int32) (x4 : Int32) (x5 : Int32) (x6 : Int32) (x7 : Int32) (x8 : Int32) : Prop := k12 G c s x0 x1 x3 x4 x5 x6 x7 (x8 + (1 : Int32))
set_option maxRecDepth 100000 in
def pq_Md_pieces_280 (E : wo_E) (mc ms : Nat) (Post : Int32 → wo_W → Prop) (k12 : wo_W → Nat → Nat → Nat → Int64 → Int32 → Int32 → Int32 → Int32 → Int32 → Int32 → Prop) (G : wo_W) (c s : Nat) (x0 : Nat) (x1 : Int64) (x3 : Int32) (x4 : Int32) (x5 : Int32) (x6 : Int32) (x8 : Int32) : Prop := pq_Md_pieces_286 E mc ms Post k12 G c s x0 x1 x3 x4 x5 x6 (x8 + (1 : Int32)) x8
set_option maxRecDepth 100000 in
def pq_Md_pieces_250 (E : wo_E) (mc ms : Nat) (Post : Int32 → wo_W → Prop) (k12 : wo_W → Nat → Nat → Nat → Int64 → Int32 → Int32 → Int32 → Int32 → Int32 → Int32 → Prop) (G : wo_W) (c s : Nat) (x0 : Nat) (x1 : Int64) (x3 : Int32) (x4 : Int32) (x5 : Int32) (x6 : Int32) (x8 : Int32) (x14 : Int32) (y0 : Int32) : Prop := ((y0 < x14 → pq_Md_pieces_280 E mc ms Post k12 G c s x0 x1 x3 x4 x5 x6 x8) ∧
  (¬ y0 < x14 → wo_ty G x0 = 15 ∧ ∀ r2 : Option Nat, r2 = wo_gr G 953 x0 → ∃ a4 : Nat, r2 = some a4 ∧ wo_ty G a4 = 66 ∧ vp_in x5 (wo_len G a4) ∧ en_bs E ≤ a4 ∧ ∀ G8 : wo_W, G8 = wo_sei G a4 x5.toNatClampNeg x14 → 
    ∀ r10 : Option Nat, r10 = wo_gr G8 954 x0 → ∃ a12 : Nat, r10 = some a12 ∧ wo_ty G8 a12 = 66 ∧ vp_in x5 (wo_len G8 a12) ∧ en_bs E ≤ a12 ∧ ∀ G16 : wo_W, G16 = wo_sei G8 a12 x5.toNatClampNeg y0 → 
    pq_Md_pieces_280 E mc ms Post k12 G16 c s x0 x1 x3 x4 (x5 + (1 : Int32)) x6 x8))
set_option maxRecDepth 100000 in
def pq_Md_pieces_241 (E : wo_E) (mc ms : Nat) (Post : Int32 → wo_W → Prop) (k12 : wo_W → Nat → Nat → Nat → Int64 → Int32 → Int32 → Int32 → Int32 → Int32 → Int32 → Prop) (G : wo_W) (c s : Nat) (x0 : Nat) (x1 : Int64) (x3 : Int32) (x4 : Int32) (x5 : Int32) (x6 : Int32) (x8 : Int32) (x14 : Int32) : Prop := pq_Md_pieces_250 E mc ms Post k12 G c s x0 x1 x3 x4 x5 x6 x8 x14 (x4 - (1 : Int32))
set_option maxRecDepth 100000 in
def pq_Md_pieces_220 (E : wo_E) (mc ms : Nat) (Post : Int32 → wo_W → Prop) (k12 : wo_W → Nat → Nat → Nat → Int64 → Int32 → Int32 → Int32 → Int32 → Int32 → Int32 → Prop) (G : wo_W) (c s : Nat) (x0 : Nat) (x1 : Int64) (x3 : Int32) (x4 : Int32) (x5 : Int32) (x6 : Int32) (x8 : Int32) (x11 : Int32) (x12 : Int32) (x13 : Int32) (y0 : Int32) : Prop := ((¬ x12 = (0 : Int32) → pq_Md_pieces_241 E mc ms Post k12 G c s x0 x1 x3 x4 x5 x6 x8 y0) ∧
  (x12 = (0 : Int32) → ((¬ x13 = (0 : Int32) → pq_Md_pieces_241 E mc ms Post k12 G c s x0 x1 x3 x4 x5 x6 x8 y0) ∧
    (x13 = (0 : Int32) → ((x11 ≤ (x4 - (1 : Int32)) → pq_Md_pieces_250 E mc ms Post k12 G c s x0 x1 x3 x4 x5 x6 x8 y0 x11) ∧
      (¬ x11 ≤ (x4 - (1 : Int32)) → pq_Md_pieces_241 E mc ms Post k12 G c s x0 x1 x3 x4 x5 x6 x8 y0))))))
set_option maxRecDepth 100000 in
def pq_Md_pieces_194 (E : wo_E) (mc ms : Nat) (Post : Int32 → wo_W → Prop) (k12 : wo_W → Nat → Nat → Nat → Int64 → Int32 → Int32 → Int32 → Int32 → Int32 → Int32 → Prop) (G : wo_W) (c s : Nat) (x0 : Nat) (x1 : Int64) (x3 : Int32) (x4 : Int32) (x5 : Int32) (x6 : Int32) (x8 : Int32) (x10 : Int32) (x11 : Int32) (x12 : Int32) (x13 : Int32) : Prop := ((x12 = (0 : Int32) → pq_Md_pieces_220 E mc ms Post k12 G c s x0 x1 x3 x4 x5 x6 x8 x11 x12 x13 x10) ∧
  (¬ x12 = (0 : Int32) → ((x11 ≤ x4 → pq_Md_pieces_220 E mc ms Post k12 G c s x0 x1 x3 x4 x5 x6 x8 x11 x12 x13 (x4 - x11)) ∧
    (¬ x11 ≤ x4 → pq_Md_pieces_220 E mc ms Post k12 G c s x0 x1 x3 x4 x5 x6 x8 x11 x12 x13 (0 : Int32)))))
set_option maxRecDepth 100000 in
def pq_Md_pieces_175 (E : wo_E) (mc ms : Nat) (Post : Int32 → wo_W → Prop) (k12 : wo_W → Nat → Nat → Nat → Int64 → Int32 → Int32 → Int32 → Int32 → Int32 → Int32 → Prop) (G : wo_W) (c s : Nat) (x0 : Nat) (x1 : Int64) (x3 : Int32) (x4 : Int32) (x5 : Int32) (x6 : Int32) (x8 : Int32) (x10 : Int32) (x11 : Int32) (x12 : Int32) (x13 : Int32) : Prop := ((x10 < (0 : Int32) → pq_Md_pieces_194 E mc ms Post k12 G c s x0 x1 x3 x4 x5 x6 x8 x10 x11 x12 x13) ∧
  (¬ x10 < (0 : Int32) → ((x11 < (0 : Int32) → pq_Md_pieces_194 E mc ms Post k12 G c s x0 x1 x3 x4 x5 x6 x8 x10 x11 x12 x13) ∧
    (¬ x11 < (0 : Int32) → ((x10 ≤ x11 → pq_Md_pieces_194 E mc ms Post k12 G c s x0 x1 x3 x4 x5 x6 x8 x10 x11 x12 x13) ∧
      (¬ x10 ≤ x11 → pq_Md_pieces_192 E mc ms Post G c s))))))
set_option maxRecDepth 100000 in
def pq_Md_pieces_165 (E : wo_E) (mc ms : Nat) (Post : Int32 → wo_W → Prop) (k12 : wo_W → Nat → Nat → Nat → Int64 → Int32 → Int32 → Int32 → Int32 → Int32 → Int32 → Prop) (G : wo_W) (c s : Nat) (x0 : Nat) (x1 : Int64) (x3 : Int32) (x4 : Int32) (x5 : Int32) (x6 : Int32) (x8 : Int32) (x10 : Int32) (x11 : Int32) (x12 : Int32) (x13 : Int32) : Prop := ((x12 = (0 : Int32) → pq_Md_pieces_175 E mc ms Post k12 G c s x0 x1 x3 x4 x5 x6 x8 x10 x11 x12 x13) ∧
  (¬ x12 = (0 : Int32) → ((¬ x13 = (0 : Int32) → pq_Md_pieces_192 E mc ms Post G c s) ∧
    (x13 = (0 : Int32) → pq_Md_pieces_175 E mc ms Post k12 G c s x0 x1 x3 x4 x5 x6 x8 x10 x11 x12 x13))))
set_option maxRecDepth 100000 in
def pq_Md_pieces_155 (E : wo_E) (mc ms : Nat) (Post : Int32 → wo_W → Prop) (k12 : wo_W → Nat → Nat → Nat → Int64 → Int32 → Int32 → Int32 → Int32 → Int32 → Int32 → Prop) (G : wo_W) (c s : Nat) (x0 : Nat) (x1 : Int64) (x3 : Int32) (x4 : Int32) (x5 : Int32) (x6 : Int32) (x8 : Int32) (x10 : Int32) (x11 : Int32) (x12 : Int32) (x13 : Int32) : Prop := (((0 : Int32) ≤ x11 → pq_Md_pieces_165 E mc ms Post k12 G c s x0 x1 x3 x4 x5 x6 x8 x10 x11 x12 x13) ∧
  (¬ (0 : Int32) ≤ x11 → ((x13 = (0 : Int32) → pq_Md_pieces_192 E mc ms Post G c s) ∧
    (¬ x13 = (0 : Int32) → pq_Md_pieces_165 E mc ms Post k12 G c s x0 x1 x3 x4 x5 x6 x8 x10 x11 x12 x13))))
set_option maxRecDepth 100000 in
def pq_Md_pieces_130 (E : wo_E) (mc ms : Nat) (Post : Int32 → wo_W → Prop) (k12 : wo_W → Nat → Nat → Nat → Int64 → Int32 → Int32 → Int32 → Int32 → Int32 → Int32 → Prop) (G : wo_W) (c s : Nat) (x0 : Nat) (x1 : Int64) (x3 : Int32) (x4 : Int32) (x5 : Int32) (x6 : Int32) (x8 : Int32) (x9 : Int32) (x10 : Int32) (x11 : Int32) (x12 : Int32) (y0 : Int32) : Prop := ((x8 ≤ x9 → pq_Md_pieces_192 E mc ms Post G c s) ∧
  (¬ x8 ≤ x9 → (((1 : Int32) < x6 → pq_Md_pieces_192 E mc ms Post G c s) ∧
    (¬ (1 : Int32) < x6 → (((0 : Int32) ≤ x10 → pq_Md_pieces_155 E mc ms Post k12 G c s x0 x1 x3 x4 x5 x6 x8 x10 x11 x12 y0) ∧
      (¬ (0 : Int32) ≤ x10 → ((x12 = (0 : Int32) → pq_Md_pieces_192 E mc ms Post G c s) ∧
        (¬ x12 = (0 : Int32) → pq_Md_pieces_155 E mc ms Post k12 G c s x0 x1 x3 x4 x5 x6 x8 x10 x11 x12 y0))))))))
set_option maxRecDepth 100000 in
def pq_Md_pieces_114 (E : wo_E) (mc ms : Nat) (Post : Int32 → wo_W → Prop) (k12 : wo_W → Nat → Nat → Nat → Int64 → Int32 → Int32 → Int32 → Int32 → Int32 → Int32 → Prop) (G : wo_W) (c s : Nat) (x0 : Nat) (x1 : Int64) (x3 : Int32) (x4 : Int32) (x5 : Int32) (x6 : Int32) (x8 : Int32) (x9 : Int32) (x10 : Int32) (x11 : Int32) (y0 : Int32) : Prop := ((¬ (x9 + (1 : Int32)) = x8 → pq_Md_pieces_130 E mc ms Post k12 G c s x0 x1 x3 x4 x5 x6 x8 x9 x10 x11 y0 (0 : Int32)) ∧
  ((x9 + (1 : Int32)) = x8 → pq_Md_pieces_130 E mc ms Post k12 G c s x0 x1 x3 x4 x5 x6 x8 x9 x10 x11 y0 (1 : Int32)))
set_option maxRecDepth 100000 in
def pq_Md_pieces_80 (E : wo_E) (mc ms : Nat) (Post : Int32 → wo_W → Prop) (k12 : wo_W → Nat → Nat → Nat → Int64 → Int32 → Int32 → Int32 → Int32 → Int32 → Int32 → Prop) (G : wo_W) (c s : Nat) (x0 : Nat) (x1 : Int64) (x3 : Int32) (x4 : Int32) (x5 : Int32) (x6 : Int32) (x7 : Int32) (x8 : Int32) (x9 : Int32) : Prop := ∃ mc1 ms2 : Nat, (c + mc1) ≤ mc ∧ (s + ms2) ≤ ms ∧ pq_Md_digits E mc1 ms2 (fun v4 G3 => 
  ∃ mc5 ms6 : Nat, ((c + mc1) + mc5) ≤ mc ∧ ((s + ms2) + ms6) ≤ ms ∧ pq_Md_digits E mc5 ms6 (fun v8 G7 => 
    ((¬ x9 = x7 → pq_Md_pieces_114 E mc ms Post k12 G7 ((c + mc1) + mc5) ((s + ms2) + ms6) x0 x1 x3 x4 x5 x6 x8 x9 v4 v8 (0 : Int32)) ∧
      (x9 = x7 → pq_Md_pieces_114 E mc ms Post k12 G7 ((c + mc1) + mc5) ((s + ms2) + ms6) x0 x1 x3 x4 x5 x6 x8 x9 v4 v8 (1 : Int32)))) G3 x1 (x9 + (1 : Int32)) x8) G x1 x7 x9
set_option maxRecDepth 100000 in
def pq_Md_pieces_56 (E : wo_E) (mc ms : Nat) (Post : Int32 → wo_W → Prop) (k12 : wo_W → Nat → Nat → Nat → Int64 → Int32 → Int32 → Int32 → Int32 → Int32 → Int32 → Prop) : Nat → wo_W → Nat → Nat → Nat → Int64 → Int32 → Int32 → Int32 → Int32 → Int32 → Int32 → Int32 → Prop
  | 0 => fun _ _ _ _ _ _ _ _ _ _ _ _ => False
  | n + 1 => fun G c s x0 x1 x3 x4 x5 x6 x7 x8 x9 => ((x8 ≤ x9 → pq_Md_pieces_80 E mc ms Post k12 G c s x0 x1 x3 x4 x5 x6 x7 x8 x9) ∧
  (¬ x8 ≤ x9 → ∃ mc1 ms2 : Nat, (c + mc1) ≤ mc ∧ (s + ms2) ≤ ms ∧ pq_Md_byteOf E mc1 ms2 (fun v4 G3 => 
    ((v4 = (45 : Int32) → pq_Md_pieces_80 E mc ms Post k12 G3 (c + mc1) (s + ms2) x0 x1 x3 x4 x5 x6 x7 x8 x9) ∧
      (¬ v4 = (45 : Int32) → pq_Md_pieces_56 E mc ms Post k12 n G3 (c + mc1) (s + ms2) x0 x1 x3 x4 x5 x6 x7 x8 (x9 + (1 : Int32))))) G x1 x9))
set_option maxRecDepth 100000 in
def pq_Md_pieces_50 (E : wo_E) (mc ms : Nat) (Post : Int32 → wo_W → Prop) (k12 : wo_W → Nat → Nat → Nat → Int64 → Int32 → Int32 → Int32 → Int32 → Int32 → Int32 → Prop) (G : wo_W) (c s : Nat) (x0 : Nat) (x1 : Int64) (x3 : Int32) (x4 : Int32) (x5 : Int32) (x7 : Int32) (x8 : Int32) (y0 : Int32) : Prop := ∃ n1 : Nat, pq_Md_pieces_56 E mc ms Post k12 n1 G c s x0 x1 x3 x4 x5 y0 x7 x8 x7
set_option maxRecDepth 100000 in
def pq_Md_pieces_35 (E : wo_E) (mc ms : Nat) (Post : Int32 → wo_W → Prop) (k12 : wo_W → Nat → Nat → Nat → Int64 → Int32 → Int32 → Int32 → Int32 → Int32 → Int32 → Prop) (G : wo_W) (c s : Nat) (x0 : Nat) (x1 : Int64) (x3 : Int32) (x4 : Int32) (x5 : Int32) (x6 : Int32) (x7 : Int32) (x8 : Int32) : Prop := ((x3 ≤ x8 → pq_Md_pieces_50 E mc ms Post k12 G c s x0 x1 x3 x4 x5 x7 x8 x6) ∧
  (¬ x3 ≤ x8 → pq_Md_pieces_50 E mc ms Post k12 G c s x0 x1 x3 x4 x5 x7 x8 (x6 + (1 : Int32))))
set_option maxRecDepth 100000 in
def pq_Md_pieces_12 (E : wo_E) (mc ms : Nat) (Post : Int32 → wo_W → Prop) : Nat → wo_W → Nat → Nat → Nat → Int64 → Int32 → Int32 → Int32 → Int32 → Int32 → Int32 → Prop
  | 0 => fun _ _ _ _ _ _ _ _ _ _ _ => False
  | n + 1 => fun G c s x0 x1 x3 x4 x5 x6 x7 x8 => ((x3 < x8 → Post x5 G) ∧
  (¬ x3 < x8 → ((x8 = x3 → pq_Md_pieces_35 E mc ms Post (pq_Md_pieces_12 E mc ms Post n) G c s x0 x1 x3 x4 x5 x6 x7 x8) ∧
    (¬ x8 = x3 → ∃ mc1 ms2 : Nat, (c + mc1) ≤ mc ∧ (s + ms2) ≤ ms ∧ pq_Md_byteOf E mc1 ms2 (fun v4 G3 => 
      ((¬ v4 = (44 : Int32) → pq_Md_pieces_286 E mc ms Post (pq_Md_pieces_12 E mc ms Post n) G3 (c + mc1) (s + ms2) x0 x1 x3 x4 x5 x6 x7 x8) ∧
        (v4 = (44 : Int32) → pq_Md_pieces_35 E mc ms Post (pq_Md_pieces_12 E mc ms Post n) G3 (c + mc1) (s + ms2) x0 x1 x3 x4 x5 x6 x7 x8))) G x1 x8))))
set_option maxRecDepth 100000 in
def pq_Md_pieces_0 (E : wo_E) (mc ms : Nat) (Post : Int32 → wo_W → Prop) (G : wo_W) (c s : Nat) (x0 : Nat) (x1 : Int64) (x3 : Int32) (x4 : Int32) : Prop := ∃ n1 : Nat, pq_Md_pieces_12 E mc ms Post n1 G c s x0 x1 x3 x4 (0 : Int32) (0 : Int32) (0 : Int32) (0 : Int32)
def pq_Md_pieces (E : wo_E) (mc ms : Nat) (Post : Int32 → wo_W → Prop) (G : wo_W) (x0 : Nat) (x1 : Int64) (x3 : Int32) (x4 : Int32) : Prop := pq_Md_pieces_0 E mc ms Post G 0 0 x0 x1 x3 x4
set_option maxRecDepth 100000 in
set_option maxHeartbeats 4000000 in
theorem tq_Md_pieces_192 {p : Program} {l : Launch} {e : Env} {R : Room} {s₀ : State} {m : MethodId} {args : Array Value} {below : List Frame} {meth : Method} {cd : Code} {E : wo_E} {mc ms : Nat} {Post : Int32 → wo_W → Prop} (hC : wo_Cx E "EdgeCacheModel" prog_14_method_32_code 16 2 48 ((Option.some Jvm.ClassFile.FieldType.int)) "pieces" mc ms p R s₀ m args meth cd) : ∀ {G : wo_W} {c s : Nat}, pq_Md_pieces_192 E mc ms Post G c s → ∀ {H : Heap} {locs : List Loc} {ls : Array Slot}, wo_Se E G H → va_S (en_A E) s₀.heap H locs → lx_has ls 16 [] → c ≤ mc → s ≤ ms → W p l e R s₀ m args below meth cd H locs c s (MQ below (va_Qi Post (wo_B E) (en_A E)) args s₀ mc ms (en_A E)) (F0 m 192 ls []) := by
  intro G c s hw H locs ls hG hS hl hcc hss
  dsimp only [pq_Md_pieces_192] at hw
  have hx := hC.1
  have hb := hC.2.1
  refine lv_iconst (v := (-1 : Int32)) hx hb dq_Md_pieces_192 rfl ?_
  exact wo_iret hC hG hS hcc hss hw dq_Md_pieces_193
set_option maxRecDepth 100000 in
set_option maxHeartbeats 4000000 in
theorem tq_Md_pieces_286 {p : Program} {l : Launch} {e : Env} {R : Room} {s₀ : State} {m : MethodId} {args : Array Value} {below : List Frame} {meth : Method} {cd : Code} {E : wo_E} {mc ms : Nat} {Post : Int32 → wo_W → Prop} {k12 : wo_W → Nat → Nat → Nat → Int64 → Int32 → Int32 → Int32 → Int32 → Int32 → Int32 → Prop} (hC : wo_Cx E "EdgeCacheModel" prog_14_method_32_code 16 2 48 ((Option.some Jvm.ClassFile.FieldType.int)) "pieces" mc ms p R s₀ m args meth cd) (hk12 : ∀ {G : wo_W} {c s : Nat} {x0 : Nat} {x1 : Int64} {x3 : Int32} {x4 : Int32} {x5 : Int32} {x6 : Int32} {x7 : Int32} {x8 : Int32}, k12 G c s x0 x1 x3 x4 x5 x6 x7 x8 → ∀ {H : Heap} {locs : List Loc} {ls : Array Slot}, wo_Se E G H → va_S (en_A E) s₀.heap H locs → lx_has ls 16 [(0, 1, .ref x0), (1, 2, .long x1), (3, 1, .int x3), (4, 1, .int x4), (5, 1, .int x5), (6, 1, .int x6), (7, 1, .int x7), (8, 1, .int x8)] → c ≤ mc → s ≤ ms → W p l e R s₀ m args below meth cd H locs c s (MQ below (va_Qi Post (wo_B E) (en_A E)) args s₀ mc ms (en_A E)) (F0 m 12 ls [])) : ∀ {G : wo_W} {c s : Nat} {x0 : Nat} {x1 : Int64} {x3 : Int32} {x4 : Int32} {x5 : Int32} {x6 : Int32} {x7 : Int32} {x8 : Int32}, pq_Md_pieces_286 E mc ms Post k12 G c s x0 x1 x3 x4 x5 x6 x7 x8 → ∀ {H : Heap} {locs : List Loc} {ls : Array Slot}, wo_Se E G H → va_S (en_A E) s₀.heap H locs → lx_has ls 16 [(0, 1, .ref x0), (1, 2, .long x1), (3, 1, .int x3), (4, 1, .int x4), (5, 1, .int x5), (6, 1, .int x6), (7, 1, .int x7), (8, 1, .int x8)] → c ≤ mc → s ≤ ms → W p l e R s₀ m args below meth cd H locs c s (MQ below (va_Qi Post (wo_B E) (en_A E)) args s₀ mc ms (en_A E)) (F0 m 286 ls []) := by
  intro G c s x0 x1 x3 x4 x5 x6 x7 x8 hw H locs ls hG hS hl hcc hss
  dsimp only [pq_Md_pieces_286] at hw
  have hx := hC.1
  have hb := hC.2.1
  refine lx_iinc (k := 7) (v := (x8 + (1 : Int32))) (lv' := [(8, 1, .int (x8 + (1 : Int32))), (0, 1, .ref x0), (1, 2, .long x1), (3, 1, .int x3), (4, 1, .int x4), (5, 1, .int x5), (6, 1, .int x6), (7, 1, .int x7)]) hx hb dq_Md_pieces_286 hl rfl rfl (by decide) rfl (fun ls hl' => ?_)
  clear hl
  have hl := hl'
  clear hl'
  refine lv_goto (tgt := 12) hx hb dq_Md_pieces_289 rfl ?_
  exact hk12 hw hG hS (lx_sub hl [1, 2, 3, 4, 5, 6, 7, 0] rfl) hcc hss
set_option maxRecDepth 100000 in
set_option maxHeartbeats 4000000 in
theorem tq_Md_pieces_280 {p : Program} {l : Launch} {e : Env} {R : Room} {s₀ : State} {m : MethodId} {args : Array Value} {below : List Frame} {meth : Method} {cd : Code} {E : wo_E} {mc ms : Nat} {Post : Int32 → wo_W → Prop} {k12 : wo_W → Nat → Nat → Nat → Int64 → Int32 → Int32 → Int32 → Int32 → Int32 → Int32 → Prop} (hC : wo_Cx E "EdgeCacheModel" prog_14_method_32_code 16 2 48 ((Option.some Jvm.ClassFile.FieldType.int)) "pieces" mc ms p R s₀ m args meth cd) (hk12 : ∀ {G : wo_W} {c s : Nat} {x0 : Nat} {x1 : Int64} {x3 : Int32} {x4 : Int32} {x5 : Int32} {x6 : Int32} {x7 : Int32} {x8 : Int32}, k12 G c s x0 x1 x3 x4 x5 x6 x7 x8 → ∀ {H : Heap} {locs : List Loc} {ls : Array Slot}, wo_Se E G H → va_S (en_A E) s₀.heap H locs → lx_has ls 16 [(0, 1, .ref x0), (1, 2, .long x1), (3, 1, .int x3), (4, 1, .int x4), (5, 1, .int x5), (6, 1, .int x6), (7, 1, .int x7), (8, 1, .int x8)] → c ≤ mc → s ≤ ms → W p l e R s₀ m args below meth cd H locs c s (MQ below (va_Qi Post (wo_B E) (en_A E)) args s₀ mc ms (en_A E)) (F0 m 12 ls [])) : ∀ {G : wo_W} {c s : Nat} {x0 : Nat} {x1 : Int64} {x3 : Int32} {x4 : Int32} {x5 : Int32} {x6 : Int32} {x8 : Int32}, pq_Md_pieces_280 E mc ms Post k12 G c s x0 x1 x3 x4 x5 x6 x8 → ∀ {H : Heap} {locs : List Loc} {ls : Array Slot}, wo_Se E G H → va_S (en_A E) s₀.heap H locs → lx_has ls 16 [(0, 1, .ref x0), (1, 2, .long x1), (3, 1, .int x3), (4, 1, .int x4), (5, 1, .int x5), (6, 1, .int x6), (8, 1, .int x8)] → c ≤ mc → s ≤ ms → W p l e R s₀ m args below meth cd H locs c s (MQ below (va_Qi Post (wo_B E) (en_A E)) args s₀ mc ms (en_A E)) (F0 m 280 ls []) := by
  intro G c s x0 x1 x3 x4 x5 x6 x8 hw H locs ls hG hS hl hcc hss
  dsimp only [pq_Md_pieces_280] at hw
  have hx := hC.1
  have hb := hC.2.1
  refine lv_iload hx hb dq_Md_pieces_280 (lx_at hl 6 rfl) ?_
  refine lv_iconst (v := (1 : Int32)) hx hb dq_Md_pieces_282 rfl ?_
  refine lv_iadd hx hb dq_Md_pieces_283 ?_
  refine lx_istore (lv' := [(7, 1, .int (x8 + (1 : Int32))), (0, 1, .ref x0), (1, 2, .long x1), (3, 1, .int x3), (4, 1, .int x4), (5, 1, .int x5), (6, 1, .int x6), (8, 1, .int x8)]) hx hb dq_Md_pieces_284 hl (by decide) rfl (fun ls hl' => ?_)
  clear hl
  have hl := hl'
  clear hl'
  exact tq_Md_pieces_286 hC hk12 hw hG hS (lx_sub hl [1, 2, 3, 4, 5, 6, 0, 7] rfl) hcc hss
set_option maxRecDepth 100000 in
set_option maxHeartbeats 4000000 in
theorem tq_Md_pieces_250 {p : Program} {l : Launch} {e : Env} {R : Room} {s₀ : State} {m : MethodId} {args : Array Value} {below : List Frame} {meth : Method} {cd : Code} {E : wo_E} {mc ms : Nat} {Post : Int32 → wo_W → Prop} {k12 : wo_W → Nat → Nat → Nat → Int64 → Int32 → Int32 → Int32 → Int32 → Int32 → Int32 → Prop} (hC : wo_Cx E "EdgeCacheModel" prog_14_method_32_code 16 2 48 ((Option.some Jvm.ClassFile.FieldType.int)) "pieces" mc ms p R s₀ m args meth cd) (hk12 : ∀ {G : wo_W} {c s : Nat} {x0 : Nat} {x1 : Int64} {x3 : Int32} {x4 : Int32} {x5 : Int32} {x6 : Int32} {x7 : Int32} {x8 : Int32}, k12 G c s x0 x1 x3 x4 x5 x6 x7 x8 → ∀ {H : Heap} {locs : List Loc} {ls : Array Slot}, wo_Se E G H → va_S (en_A E) s₀.heap H locs → lx_has ls 16 [(0, 1, .ref x0), (1, 2, .long x1), (3, 1, .int x3), (4, 1, .int x4), (5, 1, .int x5), (6, 1, .int x6), (7, 1, .int x7), (8, 1, .int x8)] → c ≤ mc → s ≤ ms → W p l e R s₀ m args below meth cd H locs c s (MQ below (va_Qi Post (wo_B E) (en_A E)) args s₀ mc ms (en_A E)) (F0 m 12 ls [])) : ∀ {G : wo_W} {c s : Nat} {x0 : Nat} {x1 : Int64} {x3 : Int32} {x4 : Int32} {x5 : Int32} {x6 : Int32} {x8 : Int32} {x14 : Int32} {y0 : Int32}, pq_Md_pieces_250 E mc ms Post k12 G c s x0 x1 x3 x4 x5 x6 x8 x14 y0 → ∀ {H : Heap} {locs : List Loc} {ls : Array Slot}, wo_Se E G H → va_S (en_A E) s₀.heap H locs → lx_has ls 16 [(0, 1, .ref x0), (1, 2, .long x1), (3, 1, .int x3), (4, 1, .int x4), (5, 1, .int x5), (6, 1, .int x6), (8, 1, .int x8), (14, 1, .int x14)] → c ≤ mc → s ≤ ms → W p l e R s₀ m args below meth cd H locs c s (MQ below (va_Qi Post (wo_B E) (en_A E)) args s₀ mc ms (en_A E)) (F0 m 250 ls [.int y0]) := by
  intro G c s x0 x1 x3 x4 x5 x6 x8 x14 y0 hw H locs ls hG hS hl hcc hss
  dsimp only [pq_Md_pieces_250] at hw
  have hx := hC.1
  have hb := hC.2.1
  refine lx_istore (lv' := [(15, 1, .int y0), (0, 1, .ref x0), (1, 2, .long x1), (3, 1, .int x3), (4, 1, .int x4), (5, 1, .int x5), (6, 1, .int x6), (8, 1, .int x8), (14, 1, .int x14)]) hx hb dq_Md_pieces_250 hl (by decide) rfl (fun ls hl' => ?_)
  clear hl
  have hl := hl'
  clear hl'
  refine lv_iload hx hb dq_Md_pieces_252 (lx_at hl 8 rfl) ?_
  refine lv_iload hx hb dq_Md_pieces_254 (lx_at hl 0 rfl) ?_
  refine lv_icmp_gt (tgt := 280) hx hb dq_Md_pieces_256 rfl (fun h => ?_) (fun h => ?_)
  · replace hw := hw.1 h
    exact tq_Md_pieces_280 hC hk12 hw hG hS (lx_sub hl [1, 2, 3, 4, 5, 6, 7] rfl) hcc hss
  · replace hw := hw.2 h
    refine lv_aload_n hx hb dq_Md_pieces_259 rfl (lx_at hl 1 rfl) ?_
    obtain ⟨t1, hw⟩ := hw
    refine wo_getR hC fq_Md_168 rfl hG t1 dq_Md_pieces_260 (fun r2 e3 => ?_)
    replace hw := hw r2 e3
    refine lv_iload hx hb dq_Md_pieces_263 (lx_at hl 5 rfl) ?_
    refine lv_iload hx hb dq_Md_pieces_265 (lx_at hl 8 rfl) ?_
    obtain ⟨a4, rfl, hw⟩ := hw
    obtain ⟨t5, hw⟩ := hw
    obtain ⟨h6, hw⟩ := hw
    obtain ⟨h7, hw⟩ := hw
    refine wo_iast (j := 2) hC rfl hG hS t5 h6 h7 dq_Md_pieces_267 (fun G8 H locs e9 hG hS => ?_)
    replace hw := hw G8 e9
    refine lv_aload_n hx hb dq_Md_pieces_268 rfl (lx_at hl 1 rfl) ?_
    refine wo_getR hC fq_Md_171 rfl hG (ty_sei e9 t1) dq_Md_pieces_269 (fun r10 e11 => ?_)
    replace hw := hw r10 e11
    refine lv_iload hx hb dq_Md_pieces_272 (lx_at hl 5 rfl) ?_
    refine lv_iload hx hb dq_Md_pieces_274 (lx_at hl 0 rfl) ?_
    obtain ⟨a12, rfl, hw⟩ := hw
    obtain ⟨t13, hw⟩ := hw
    obtain ⟨h14, hw⟩ := hw
    obtain ⟨h15, hw⟩ := hw
    refine wo_iast (j := 2) hC rfl hG hS t13 h14 h15 dq_Md_pieces_276 (fun G16 H locs e17 hG hS => ?_)
    replace hw := hw G16 e17
    refine lx_iinc (k := 5) (v := (x5 + (1 : Int32))) (lv' := [(5, 1, .int (x5 + (1 : Int32))), (15, 1, .int y0), (0, 1, .ref x0), (1, 2, .long x1), (3, 1, .int x3), (4, 1, .int x4), (6, 1, .int x6), (8, 1, .int x8), (14, 1, .int x14)]) hx hb dq_Md_pieces_277 hl rfl rfl (by decide) rfl (fun ls hl' => ?_)
    clear hl
    have hl := hl'
    clear hl'
    exact tq_Md_pieces_280 hC hk12 hw hG hS (lx_sub hl [2, 3, 4, 5, 0, 6, 7] rfl) hcc hss
set_option maxRecDepth 100000 in
set_option maxHeartbeats 4000000 in
theorem tq_Md_pieces_241 {p : Program} {l : Launch} {e : Env} {R : Room} {s₀ : State} {m : MethodId} {args : Array Value} {below : List Frame} {meth : Method} {cd : Code} {E : wo_E} {mc ms : Nat} {Post : Int32 → wo_W → Prop} {k12 : wo_W → Nat → Nat → Nat → Int64 → Int32 → Int32 → Int32 → Int32 → Int32 → Int32 → Prop} (hC : wo_Cx E "EdgeCacheModel" prog_14_method_32_code 16 2 48 ((Option.some Jvm.ClassFile.FieldType.int)) "pieces" mc ms p R s₀ m args meth cd) (hk12 : ∀ {G : wo_W} {c s : Nat} {x0 : Nat} {x1 : Int64} {x3 : Int32} {x4 : Int32} {x5 : Int32} {x6 : Int32} {x7 : Int32} {x8 : Int32}, k12 G c s x0 x1 x3 x4 x5 x6 x7 x8 → ∀ {H : Heap} {locs : List Loc} {ls : Array Slot}, wo_Se E G H → va_S (en_A E) s₀.heap H locs → lx_has ls 16 [(0, 1, .ref x0), (1, 2, .long x1), (3, 1, .int x3), (4, 1, .int x4), (5, 1, .int x5), (6, 1, .int x6), (7, 1, .int x7), (8, 1, .int x8)] → c ≤ mc → s ≤ ms → W p l e R s₀ m args below meth cd H locs c s (MQ below (va_Qi Post (wo_B E) (en_A E)) args s₀ mc ms (en_A E)) (F0 m 12 ls [])) : ∀ {G : wo_W} {c s : Nat} {x0 : Nat} {x1 : Int64} {x3 : Int32} {x4 : Int32} {x5 : Int32} {x6 : Int32} {x8 : Int32} {x14 : Int32}, pq_Md_pieces_241 E mc ms Post k12 G c s x0 x1 x3 x4 x5 x6 x8 x14 → ∀ {H : Heap} {locs : List Loc} {ls : Array Slot}, wo_Se E G H → va_S (en_A E) s₀.heap H locs → lx_has ls 16 [(0, 1, .ref x0), (1, 2, .long x1), (3, 1, .int x3), (4, 1, .int x4), (5, 1, .int x5), (6, 1, .int x6), (8, 1, .int x8), (14, 1, .int x14)] → c ≤ mc → s ≤ ms → W p l e R s₀ m args below meth cd H locs c s (MQ below (va_Qi Post (wo_B E) (en_A E)) args s₀ mc ms (en_A E)) (F0 m 241 ls []) := by
  intro G c s x0 x1 x3 x4 x5 x6 x8 x14 hw H locs ls hG hS hl hcc hss
  dsimp only [pq_Md_pieces_241] at hw
  have hx := hC.1
  have hb := hC.2.1
  refine lv_iload hx hb dq_Md_pieces_241 (lx_at hl 3 rfl) ?_
  refine lv_iconst (v := (1 : Int32)) hx hb dq_Md_pieces_243 rfl ?_
  refine lv_isub hx hb dq_Md_pieces_244 ?_
  refine lv_goto (tgt := 250) hx hb dq_Md_pieces_245 rfl ?_
  exact tq_Md_pieces_250 hC hk12 hw hG hS (lx_sub hl [0, 1, 2, 3, 4, 5, 6, 7] rfl) hcc hss
set_option maxRecDepth 100000 in
set_option maxHeartbeats 4000000 in
theorem tq_Md_pieces_220 {p : Program} {l : Launch} {e : Env} {R : Room} {s₀ : State} {m : MethodId} {args : Array Value} {below : List Frame} {meth : Method} {cd : Code} {E : wo_E} {mc ms : Nat} {Post : Int32 → wo_W → Prop} {k12 : wo_W → Nat → Nat → Nat → Int64 → Int32 → Int32 → Int32 → Int32 → Int32 → Int32 → Prop} (hC : wo_Cx E "EdgeCacheModel" prog_14_method_32_code 16 2 48 ((Option.some Jvm.ClassFile.FieldType.int)) "pieces" mc ms p R s₀ m args meth cd) (hk12 : ∀ {G : wo_W} {c s : Nat} {x0 : Nat} {x1 : Int64} {x3 : Int32} {x4 : Int32} {x5 : Int32} {x6 : Int32} {x7 : Int32} {x8 : Int32}, k12 G c s x0 x1 x3 x4 x5 x6 x7 x8 → ∀ {H : Heap} {locs : List Loc} {ls : Array Slot}, wo_Se E G H → va_S (en_A E) s₀.heap H locs → lx_has ls 16 [(0, 1, .ref x0), (1, 2, .long x1), (3, 1, .int x3), (4, 1, .int x4), (5, 1, .int x5), (6, 1, .int x6), (7, 1, .int x7), (8, 1, .int x8)] → c ≤ mc → s ≤ ms → W p l e R s₀ m args below meth cd H locs c s (MQ below (va_Qi Post (wo_B E) (en_A E)) args s₀ mc ms (en_A E)) (F0 m 12 ls [])) : ∀ {G : wo_W} {c s : Nat} {x0 : Nat} {x1 : Int64} {x3 : Int32} {x4 : Int32} {x5 : Int32} {x6 : Int32} {x8 : Int32} {x11 : Int32} {x12 : Int32} {x13 : Int32} {y0 : Int32}, pq_Md_pieces_220 E mc ms Post k12 G c s x0 x1 x3 x4 x5 x6 x8 x11 x12 x13 y0 → ∀ {H : Heap} {locs : List Loc} {ls : Array Slot}, wo_Se E G H → va_S (en_A E) s₀.heap H locs → lx_has ls 16 [(0, 1, .ref x0), (1, 2, .long x1), (3, 1, .int x3), (4, 1, .int x4), (5, 1, .int x5), (6, 1, .int x6), (8, 1, .int x8), (11, 1, .int x11), (12, 1, .int x12), (13, 1, .int x13)] → c ≤ mc → s ≤ ms → W p l e R s₀ m args below meth cd H locs c s (MQ below (va_Qi Post (wo_B E) (en_A E)) args s₀ mc ms (en_A E)) (F0 m 220 ls [.int y0]) := by
  intro G c s x0 x1 x3 x4 x5 x6 x8 x11 x12 x13 y0 hw H locs ls hG hS hl hcc hss
  dsimp only [pq_Md_pieces_220] at hw
  have hx := hC.1
  have hb := hC.2.1
  refine lx_istore (lv' := [(14, 1, .int y0), (0, 1, .ref x0), (1, 2, .long x1), (3, 1, .int x3), (4, 1, .int x4), (5, 1, .int x5), (6, 1, .int x6), (8, 1, .int x8), (11, 1, .int x11), (12, 1, .int x12), (13, 1, .int x13)]) hx hb dq_Md_pieces_220 hl (by decide) rfl (fun ls hl' => ?_)
  clear hl
  have hl := hl'
  clear hl'
  refine lv_iload hx hb dq_Md_pieces_222 (lx_at hl 9 rfl) ?_
  refine lv_if_ne (tgt := 241) hx hb dq_Md_pieces_224 rfl (fun h => ?_) (fun h => ?_)
  · replace hw := hw.1 h
    exact tq_Md_pieces_241 hC hk12 hw hG hS (lx_sub hl [1, 2, 3, 4, 5, 6, 7, 0] rfl) hcc hss
  · replace hw := hw.2 h
    refine lv_iload hx hb dq_Md_pieces_227 (lx_at hl 10 rfl) ?_
    refine lv_if_ne (tgt := 241) hx hb dq_Md_pieces_229 rfl (fun h => ?_) (fun h => ?_)
    · replace hw := hw.1 h
      exact tq_Md_pieces_241 hC hk12 hw hG hS (lx_sub hl [1, 2, 3, 4, 5, 6, 7, 0] rfl) hcc hss
    · replace hw := hw.2 h
      refine lv_iload hx hb dq_Md_pieces_232 (lx_at hl 8 rfl) ?_
      refine lv_iload hx hb dq_Md_pieces_234 (lx_at hl 4 rfl) ?_
      refine lv_iconst (v := (1 : Int32)) hx hb dq_Md_pieces_236 rfl ?_
      refine lv_isub hx hb dq_Md_pieces_237 ?_
      refine lv_icmp_le (tgt := 248) hx hb dq_Md_pieces_238 rfl (fun h => ?_) (fun h => ?_)
      · replace hw := hw.1 h
        refine lv_iload hx hb dq_Md_pieces_248 (lx_at hl 8 rfl) ?_
        exact tq_Md_pieces_250 hC hk12 hw hG hS (lx_sub hl [1, 2, 3, 4, 5, 6, 7, 0] rfl) hcc hss
      · replace hw := hw.2 h
        exact tq_Md_pieces_241 hC hk12 hw hG hS (lx_sub hl [1, 2, 3, 4, 5, 6, 7, 0] rfl) hcc hss
set_option maxRecDepth 100000 in
set_option maxHeartbeats 4000000 in
theorem tq_Md_pieces_194 {p : Program} {l : Launch} {e : Env} {R : Room} {s₀ : State} {m : MethodId} {args : Array Value} {below : List Frame} {meth : Method} {cd : Code} {E : wo_E} {mc ms : Nat} {Post : Int32 → wo_W → Prop} {k12 : wo_W → Nat → Nat → Nat → Int64 → Int32 → Int32 → Int32 → Int32 → Int32 → Int32 → Prop} (hC : wo_Cx E "EdgeCacheModel" prog_14_method_32_code 16 2 48 ((Option.some Jvm.ClassFile.FieldType.int)) "pieces" mc ms p R s₀ m args meth cd) (hk12 : ∀ {G : wo_W} {c s : Nat} {x0 : Nat} {x1 : Int64} {x3 : Int32} {x4 : Int32} {x5 : Int32} {x6 : Int32} {x7 : Int32} {x8 : Int32}, k12 G c s x0 x1 x3 x4 x5 x6 x7 x8 → ∀ {H : Heap} {locs : List Loc} {ls : Array Slot}, wo_Se E G H → va_S (en_A E) s₀.heap H locs → lx_has ls 16 [(0, 1, .ref x0), (1, 2, .long x1), (3, 1, .int x3), (4, 1, .int x4), (5, 1, .int x5), (6, 1, .int x6), (7, 1, .int x7), (8, 1, .int x8)] → c ≤ mc → s ≤ ms → W p l e R s₀ m args below meth cd H locs c s (MQ below (va_Qi Post (wo_B E) (en_A E)) args s₀ mc ms (en_A E)) (F0 m 12 ls [])) : ∀ {G : wo_W} {c s : Nat} {x0 : Nat} {x1 : Int64} {x3 : Int32} {x4 : Int32} {x5 : Int32} {x6 : Int32} {x8 : Int32} {x10 : Int32} {x11 : Int32} {x12 : Int32} {x13 : Int32}, pq_Md_pieces_194 E mc ms Post k12 G c s x0 x1 x3 x4 x5 x6 x8 x10 x11 x12 x13 → ∀ {H : Heap} {locs : List Loc} {ls : Array Slot}, wo_Se E G H → va_S (en_A E) s₀.heap H locs → lx_has ls 16 [(0, 1, .ref x0), (1, 2, .long x1), (3, 1, .int x3), (4, 1, .int x4), (5, 1, .int x5), (6, 1, .int x6), (8, 1, .int x8), (10, 1, .int x10), (11, 1, .int x11), (12, 1, .int x12), (13, 1, .int x13)] → c ≤ mc → s ≤ ms → W p l e R s₀ m args below meth cd H locs c s (MQ below (va_Qi Post (wo_B E) (en_A E)) args s₀ mc ms (en_A E)) (F0 m 194 ls []) := by
  intro G c s x0 x1 x3 x4 x5 x6 x8 x10 x11 x12 x13 hw H locs ls hG hS hl hcc hss
  dsimp only [pq_Md_pieces_194] at hw
  have hx := hC.1
  have hb := hC.2.1
  refine lv_iload hx hb dq_Md_pieces_194 (lx_at hl 9 rfl) ?_
  refine lv_if_eq (tgt := 218) hx hb dq_Md_pieces_196 rfl (fun h => ?_) (fun h => ?_)
  · replace hw := hw.1 h
    refine lv_iload hx hb dq_Md_pieces_218 (lx_at hl 7 rfl) ?_
    exact tq_Md_pieces_220 hC hk12 hw hG hS (lx_sub hl [0, 1, 2, 3, 4, 5, 6, 8, 9, 10] rfl) hcc hss
  · replace hw := hw.2 h
    refine lv_iload hx hb dq_Md_pieces_199 (lx_at hl 8 rfl) ?_
    refine lv_iload hx hb dq_Md_pieces_201 (lx_at hl 3 rfl) ?_
    refine lv_icmp_le (tgt := 210) hx hb dq_Md_pieces_203 rfl (fun h => ?_) (fun h => ?_)
    · replace hw := hw.1 h
      refine lv_iload hx hb dq_Md_pieces_210 (lx_at hl 3 rfl) ?_
      refine lv_iload hx hb dq_Md_pieces_212 (lx_at hl 8 rfl) ?_
      refine lv_isub hx hb dq_Md_pieces_214 ?_
      refine lv_goto (tgt := 220) hx hb dq_Md_pieces_215 rfl ?_
      exact tq_Md_pieces_220 hC hk12 hw hG hS (lx_sub hl [0, 1, 2, 3, 4, 5, 6, 8, 9, 10] rfl) hcc hss
    · replace hw := hw.2 h
      refine lv_iconst (v := (0 : Int32)) hx hb dq_Md_pieces_206 rfl ?_
      refine lv_goto (tgt := 220) hx hb dq_Md_pieces_207 rfl ?_
      exact tq_Md_pieces_220 hC hk12 hw hG hS (lx_sub hl [0, 1, 2, 3, 4, 5, 6, 8, 9, 10] rfl) hcc hss
set_option maxRecDepth 100000 in
set_option maxHeartbeats 4000000 in
theorem tq_Md_pieces_175 {p : Program} {l : Launch} {e : Env} {R : Room} {s₀ : State} {m : MethodId} {args : Array Value} {below : List Frame} {meth : Method} {cd : Code} {E : wo_E} {mc ms : Nat} {Post : Int32 → wo_W → Prop} {k12 : wo_W → Nat → Nat → Nat → Int64 → Int32 → Int32 → Int32 → Int32 → Int32 → Int32 → Prop} (hC : wo_Cx E "EdgeCacheModel" prog_14_method_32_code 16 2 48 ((Option.some Jvm.ClassFile.FieldType.int)) "pieces" mc ms p R s₀ m args meth cd) (hk12 : ∀ {G : wo_W} {c s : Nat} {x0 : Nat} {x1 : Int64} {x3 : Int32} {x4 : Int32} {x5 : Int32} {x6 : Int32} {x7 : Int32} {x8 : Int32}, k12 G c s x0 x1 x3 x4 x5 x6 x7 x8 → ∀ {H : Heap} {locs : List Loc} {ls : Array Slot}, wo_Se E G H → va_S (en_A E) s₀.heap H locs → lx_has ls 16 [(0, 1, .ref x0), (1, 2, .long x1), (3, 1, .int x3), (4, 1, .int x4), (5, 1, .int x5), (6, 1, .int x6), (7, 1, .int x7), (8, 1, .int x8)] → c ≤ mc → s ≤ ms → W p l e R s₀ m args below meth cd H locs c s (MQ below (va_Qi Post (wo_B E) (en_A E)) args s₀ mc ms (en_A E)) (F0 m 12 ls [])) : ∀ {G : wo_W} {c s : Nat} {x0 : Nat} {x1 : Int64} {x3 : Int32} {x4 : Int32} {x5 : Int32} {x6 : Int32} {x8 : Int32} {x10 : Int32} {x11 : Int32} {x12 : Int32} {x13 : Int32}, pq_Md_pieces_175 E mc ms Post k12 G c s x0 x1 x3 x4 x5 x6 x8 x10 x11 x12 x13 → ∀ {H : Heap} {locs : List Loc} {ls : Array Slot}, wo_Se E G H → va_S (en_A E) s₀.heap H locs → lx_has ls 16 [(0, 1, .ref x0), (1, 2, .long x1), (3, 1, .int x3), (4, 1, .int x4), (5, 1, .int x5), (6, 1, .int x6), (8, 1, .int x8), (10, 1, .int x10), (11, 1, .int x11), (12, 1, .int x12), (13, 1, .int x13)] → c ≤ mc → s ≤ ms → W p l e R s₀ m args below meth cd H locs c s (MQ below (va_Qi Post (wo_B E) (en_A E)) args s₀ mc ms (en_A E)) (F0 m 175 ls []) := by
  intro G c s x0 x1 x3 x4 x5 x6 x8 x10 x11 x12 x13 hw H locs ls hG hS hl hcc hss
  dsimp only [pq_Md_pieces_175] at hw
  have hx := hC.1
  have hb := hC.2.1
  refine lv_iload hx hb dq_Md_pieces_175 (lx_at hl 7 rfl) ?_
  refine lv_if_lt (tgt := 194) hx hb dq_Md_pieces_177 rfl (fun h => ?_) (fun h => ?_)
  · replace hw := hw.1 h
    exact tq_Md_pieces_194 hC hk12 hw hG hS (lx_sub hl [0, 1, 2, 3, 4, 5, 6, 7, 8, 9, 10] rfl) hcc hss
  · replace hw := hw.2 h
    refine lv_iload hx hb dq_Md_pieces_180 (lx_at hl 8 rfl) ?_
    refine lv_if_lt (tgt := 194) hx hb dq_Md_pieces_182 rfl (fun h => ?_) (fun h => ?_)
    · replace hw := hw.1 h
      exact tq_Md_pieces_194 hC hk12 hw hG hS (lx_sub hl [0, 1, 2, 3, 4, 5, 6, 7, 8, 9, 10] rfl) hcc hss
    · replace hw := hw.2 h
      refine lv_iload hx hb dq_Md_pieces_185 (lx_at hl 7 rfl) ?_
      refine lv_iload hx hb dq_Md_pieces_187 (lx_at hl 8 rfl) ?_
      refine lv_icmp_le (tgt := 194) hx hb dq_Md_pieces_189 rfl (fun h => ?_) (fun h => ?_)
      · replace hw := hw.1 h
        exact tq_Md_pieces_194 hC hk12 hw hG hS (lx_sub hl [0, 1, 2, 3, 4, 5, 6, 7, 8, 9, 10] rfl) hcc hss
      · replace hw := hw.2 h
        exact tq_Md_pieces_192 hC hw hG hS (lx_sub hl [] rfl) hcc hss
set_option maxRecDepth 100000 in
set_option maxHeartbeats 4000000 in
theorem tq_Md_pieces_165 {p : Program} {l : Launch} {e : Env} {R : Room} {s₀ : State} {m : MethodId} {args : Array Value} {below : List Frame} {meth : Method} {cd : Code} {E : wo_E} {mc ms : Nat} {Post : Int32 → wo_W → Prop} {k12 : wo_W → Nat → Nat → Nat → Int64 → Int32 → Int32 → Int32 → Int32 → Int32 → Int32 → Prop} (hC : wo_Cx E "EdgeCacheModel" prog_14_method_32_code 16 2 48 ((Option.some Jvm.ClassFile.FieldType.int)) "pieces" mc ms p R s₀ m args meth cd) (hk12 : ∀ {G : wo_W} {c s : Nat} {x0 : Nat} {x1 : Int64} {x3 : Int32} {x4 : Int32} {x5 : Int32} {x6 : Int32} {x7 : Int32} {x8 : Int32}, k12 G c s x0 x1 x3 x4 x5 x6 x7 x8 → ∀ {H : Heap} {locs : List Loc} {ls : Array Slot}, wo_Se E G H → va_S (en_A E) s₀.heap H locs → lx_has ls 16 [(0, 1, .ref x0), (1, 2, .long x1), (3, 1, .int x3), (4, 1, .int x4), (5, 1, .int x5), (6, 1, .int x6), (7, 1, .int x7), (8, 1, .int x8)] → c ≤ mc → s ≤ ms → W p l e R s₀ m args below meth cd H locs c s (MQ below (va_Qi Post (wo_B E) (en_A E)) args s₀ mc ms (en_A E)) (F0 m 12 ls [])) : ∀ {G : wo_W} {c s : Nat} {x0 : Nat} {x1 : Int64} {x3 : Int32} {x4 : Int32} {x5 : Int32} {x6 : Int32} {x8 : Int32} {x10 : Int32} {x11 : Int32} {x12 : Int32} {x13 : Int32}, pq_Md_pieces_165 E mc ms Post k12 G c s x0 x1 x3 x4 x5 x6 x8 x10 x11 x12 x13 → ∀ {H : Heap} {locs : List Loc} {ls : Array Slot}, wo_Se E G H → va_S (en_A E) s₀.heap H locs → lx_has ls 16 [(0, 1, .ref x0), (1, 2, .long x1), (3, 1, .int x3), (4, 1, .int x4), (5, 1, .int x5), (6, 1, .int x6), (8, 1, .int x8), (10, 1, .int x10), (11, 1, .int x11), (12, 1, .int x12), (13, 1, .int x13)] → c ≤ mc → s ≤ ms → W p l e R s₀ m args below meth cd H locs c s (MQ below (va_Qi Post (wo_B E) (en_A E)) args s₀ mc ms (en_A E)) (F0 m 165 ls []) := by
  intro G c s x0 x1 x3 x4 x5 x6 x8 x10 x11 x12 x13 hw H locs ls hG hS hl hcc hss
  dsimp only [pq_Md_pieces_165] at hw
  have hx := hC.1
  have hb := hC.2.1
  refine lv_iload hx hb dq_Md_pieces_165 (lx_at hl 9 rfl) ?_
  refine lv_if_eq (tgt := 175) hx hb dq_Md_pieces_167 rfl (fun h => ?_) (fun h => ?_)
  · replace hw := hw.1 h
    exact tq_Md_pieces_175 hC hk12 hw hG hS (lx_sub hl [0, 1, 2, 3, 4, 5, 6, 7, 8, 9, 10] rfl) hcc hss
  · replace hw := hw.2 h
    refine lv_iload hx hb dq_Md_pieces_170 (lx_at hl 10 rfl) ?_
    refine lv_if_ne (tgt := 192) hx hb dq_Md_pieces_172 rfl (fun h => ?_) (fun h => ?_)
    · replace hw := hw.1 h
      exact tq_Md_pieces_192 hC hw hG hS (lx_sub hl [] rfl) hcc hss
    · replace hw := hw.2 h
      exact tq_Md_pieces_175 hC hk12 hw hG hS (lx_sub hl [0, 1, 2, 3, 4, 5, 6, 7, 8, 9, 10] rfl) hcc hss
set_option maxRecDepth 100000 in
set_option maxHeartbeats 4000000 in
theorem tq_Md_pieces_155 {p : Program} {l : Launch} {e : Env} {R : Room} {s₀ : State} {m : MethodId} {args : Array Value} {below : List Frame} {meth : Method} {cd : Code} {E : wo_E} {mc ms : Nat} {Post : Int32 → wo_W → Prop} {k12 : wo_W → Nat → Nat → Nat → Int64 → Int32 → Int32 → Int32 → Int32 → Int32 → Int32 → Prop} (hC : wo_Cx E "EdgeCacheModel" prog_14_method_32_code 16 2 48 ((Option.some Jvm.ClassFile.FieldType.int)) "pieces" mc ms p R s₀ m args meth cd) (hk12 : ∀ {G : wo_W} {c s : Nat} {x0 : Nat} {x1 : Int64} {x3 : Int32} {x4 : Int32} {x5 : Int32} {x6 : Int32} {x7 : Int32} {x8 : Int32}, k12 G c s x0 x1 x3 x4 x5 x6 x7 x8 → ∀ {H : Heap} {locs : List Loc} {ls : Array Slot}, wo_Se E G H → va_S (en_A E) s₀.heap H locs → lx_has ls 16 [(0, 1, .ref x0), (1, 2, .long x1), (3, 1, .int x3), (4, 1, .int x4), (5, 1, .int x5), (6, 1, .int x6), (7, 1, .int x7), (8, 1, .int x8)] → c ≤ mc → s ≤ ms → W p l e R s₀ m args below meth cd H locs c s (MQ below (va_Qi Post (wo_B E) (en_A E)) args s₀ mc ms (en_A E)) (F0 m 12 ls [])) : ∀ {G : wo_W} {c s : Nat} {x0 : Nat} {x1 : Int64} {x3 : Int32} {x4 : Int32} {x5 : Int32} {x6 : Int32} {x8 : Int32} {x10 : Int32} {x11 : Int32} {x12 : Int32} {x13 : Int32}, pq_Md_pieces_155 E mc ms Post k12 G c s x0 x1 x3 x4 x5 x6 x8 x10 x11 x12 x13 → ∀ {H : Heap} {locs : List Loc} {ls : Array Slot}, wo_Se E G H → va_S (en_A E) s₀.heap H locs → lx_has ls 16 [(0, 1, .ref x0), (1, 2, .long x1), (3, 1, .int x3), (4, 1, .int x4), (5, 1, .int x5), (6, 1, .int x6), (8, 1, .int x8), (10, 1, .int x10), (11, 1, .int x11), (12, 1, .int x12), (13, 1, .int x13)] → c ≤ mc → s ≤ ms → W p l e R s₀ m args below meth cd H locs c s (MQ below (va_Qi Post (wo_B E) (en_A E)) args s₀ mc ms (en_A E)) (F0 m 155 ls []) := by
  intro G c s x0 x1 x3 x4 x5 x6 x8 x10 x11 x12 x13 hw H locs ls hG hS hl hcc hss
  dsimp only [pq_Md_pieces_155] at hw
  have hx := hC.1
  have hb := hC.2.1
  refine lv_iload hx hb dq_Md_pieces_155 (lx_at hl 8 rfl) ?_
  refine lv_if_ge (tgt := 165) hx hb dq_Md_pieces_157 rfl (fun h => ?_) (fun h => ?_)
  · replace hw := hw.1 h
    exact tq_Md_pieces_165 hC hk12 hw hG hS (lx_sub hl [0, 1, 2, 3, 4, 5, 6, 7, 8, 9, 10] rfl) hcc hss
  · replace hw := hw.2 h
    refine lv_iload hx hb dq_Md_pieces_160 (lx_at hl 10 rfl) ?_
    refine lv_if_eq (tgt := 192) hx hb dq_Md_pieces_162 rfl (fun h => ?_) (fun h => ?_)
    · replace hw := hw.1 h
      exact tq_Md_pieces_192 hC hw hG hS (lx_sub hl [] rfl) hcc hss
    · replace hw := hw.2 h
      exact tq_Md_pieces_165 hC hk12 hw hG hS (lx_sub hl [0, 1, 2, 3, 4, 5, 6, 7, 8, 9, 10] rfl) hcc hss
set_option maxRecDepth 100000 in
set_option maxHeartbeats 4000000 in
theorem tq_Md_pieces_130 {p : Program} {l : Launch} {e : Env} {R : Room} {s₀ : State} {m : MethodId} {args : Array Value} {below : List Frame} {meth : Method} {cd : Code} {E : wo_E} {mc ms : Nat} {Post : Int32 → wo_W → Prop} {k12 : wo_W → Nat → Nat → Nat → Int64 → Int32 → Int32 → Int32 → Int32 → Int32 → Int32 → Prop} (hC : wo_Cx E "EdgeCacheModel" prog_14_method_32_code 16 2 48 ((Option.some Jvm.ClassFile.FieldType.int)) "pieces" mc ms p R s₀ m args meth cd) (hk12 : ∀ {G : wo_W} {c s : Nat} {x0 : Nat} {x1 : Int64} {x3 : Int32} {x4 : Int32} {x5 : Int32} {x6 : Int32} {x7 : Int32} {x8 : Int32}, k12 G c s x0 x1 x3 x4 x5 x6 x7 x8 → ∀ {H : Heap} {locs : List Loc} {ls : Array Slot}, wo_Se E G H → va_S (en_A E) s₀.heap H locs → lx_has ls 16 [(0, 1, .ref x0), (1, 2, .long x1), (3, 1, .int x3), (4, 1, .int x4), (5, 1, .int x5), (6, 1, .int x6), (7, 1, .int x7), (8, 1, .int x8)] → c ≤ mc → s ≤ ms → W p l e R s₀ m args below meth cd H locs c s (MQ below (va_Qi Post (wo_B E) (en_A E)) args s₀ mc ms (en_A E)) (F0 m 12 ls [])) : ∀ {G : wo_W} {c s : Nat} {x0 : Nat} {x1 : Int64} {x3 : Int32} {x4 : Int32} {x5 : Int32} {x6 : Int32} {x8 : Int32} {x9 : Int32} {x10 : Int32} {x11 : Int32} {x12 : Int32} {y0 : Int32}, pq_Md_pieces_130 E mc ms Post k12 G c s x0 x1 x3 x4 x5 x6 x8 x9 x10 x11 x12 y0 → ∀ {H : Heap} {locs : List Loc} {ls : Array Slot}, wo_Se E G H → va_S (en_A E) s₀.heap H locs → lx_has ls 16 [(0, 1, .ref x0), (1, 2, .long x1), (3, 1, .int x3), (4, 1, .int x4), (5, 1, .int x5), (6, 1, .int x6), (8, 1, .int x8), (9, 1, .int x9), (10, 1, .int x10), (11, 1, .int x11), (12, 1, .int x12)] → c ≤ mc → s ≤ ms → W p l e R s₀ m args below meth cd H locs c s (MQ below (va_Qi Post (wo_B E) (en_A E)) args s₀ mc ms (en_A E)) (F0 m 130 ls [.int y0]) := by
  intro G c s x0 x1 x3 x4 x5 x6 x8 x9 x10 x11 x12 y0 hw H locs ls hG hS hl hcc hss
  dsimp only [pq_Md_pieces_130] at hw
  have hx := hC.1
  have hb := hC.2.1
  refine lx_istore (lv' := [(13, 1, .int y0), (0, 1, .ref x0), (1, 2, .long x1), (3, 1, .int x3), (4, 1, .int x4), (5, 1, .int x5), (6, 1, .int x6), (8, 1, .int x8), (9, 1, .int x9), (10, 1, .int x10), (11, 1, .int x11), (12, 1, .int x12)]) hx hb dq_Md_pieces_130 hl (by decide) rfl (fun ls hl' => ?_)
  clear hl
  have hl := hl'
  clear hl'
  refine lv_iload hx hb dq_Md_pieces_132 (lx_at hl 8 rfl) ?_
  refine lv_iload hx hb dq_Md_pieces_134 (lx_at hl 7 rfl) ?_
  refine lv_icmp_ge (tgt := 192) hx hb dq_Md_pieces_136 rfl (fun h => ?_) (fun h => ?_)
  · replace hw := hw.1 h
    exact tq_Md_pieces_192 hC hw hG hS (lx_sub hl [] rfl) hcc hss
  · replace hw := hw.2 h
    refine lv_iload hx hb dq_Md_pieces_139 (lx_at hl 6 rfl) ?_
    refine lv_iconst (v := (1 : Int32)) hx hb dq_Md_pieces_141 rfl ?_
    refine lv_icmp_gt (tgt := 192) hx hb dq_Md_pieces_142 rfl (fun h => ?_) (fun h => ?_)
    · replace hw := hw.1 h
      exact tq_Md_pieces_192 hC hw hG hS (lx_sub hl [] rfl) hcc hss
    · replace hw := hw.2 h
      refine lv_iload hx hb dq_Md_pieces_145 (lx_at hl 9 rfl) ?_
      refine lv_if_ge (tgt := 155) hx hb dq_Md_pieces_147 rfl (fun h => ?_) (fun h => ?_)
      · replace hw := hw.1 h
        exact tq_Md_pieces_155 hC hk12 hw hG hS (lx_sub hl [1, 2, 3, 4, 5, 6, 7, 9, 10, 11, 0] rfl) hcc hss
      · replace hw := hw.2 h
        refine lv_iload hx hb dq_Md_pieces_150 (lx_at hl 11 rfl) ?_
        refine lv_if_eq (tgt := 192) hx hb dq_Md_pieces_152 rfl (fun h => ?_) (fun h => ?_)
        · replace hw := hw.1 h
          exact tq_Md_pieces_192 hC hw hG hS (lx_sub hl [] rfl) hcc hss
        · replace hw := hw.2 h
          exact tq_Md_pieces_155 hC hk12 hw hG hS (lx_sub hl [1, 2, 3, 4, 5, 6, 7, 9, 10, 11, 0] rfl) hcc hss
set_option maxRecDepth 100000 in
set_option maxHeartbeats 4000000 in
theorem tq_Md_pieces_114 {p : Program} {l : Launch} {e : Env} {R : Room} {s₀ : State} {m : MethodId} {args : Array Value} {below : List Frame} {meth : Method} {cd : Code} {E : wo_E} {mc ms : Nat} {Post : Int32 → wo_W → Prop} {k12 : wo_W → Nat → Nat → Nat → Int64 → Int32 → Int32 → Int32 → Int32 → Int32 → Int32 → Prop} (hC : wo_Cx E "EdgeCacheModel" prog_14_method_32_code 16 2 48 ((Option.some Jvm.ClassFile.FieldType.int)) "pieces" mc ms p R s₀ m args meth cd) (hk12 : ∀ {G : wo_W} {c s : Nat} {x0 : Nat} {x1 : Int64} {x3 : Int32} {x4 : Int32} {x5 : Int32} {x6 : Int32} {x7 : Int32} {x8 : Int32}, k12 G c s x0 x1 x3 x4 x5 x6 x7 x8 → ∀ {H : Heap} {locs : List Loc} {ls : Array Slot}, wo_Se E G H → va_S (en_A E) s₀.heap H locs → lx_has ls 16 [(0, 1, .ref x0), (1, 2, .long x1), (3, 1, .int x3), (4, 1, .int x4), (5, 1, .int x5), (6, 1, .int x6), (7, 1, .int x7), (8, 1, .int x8)] → c ≤ mc → s ≤ ms → W p l e R s₀ m args below meth cd H locs c s (MQ below (va_Qi Post (wo_B E) (en_A E)) args s₀ mc ms (en_A E)) (F0 m 12 ls [])) : ∀ {G : wo_W} {c s : Nat} {x0 : Nat} {x1 : Int64} {x3 : Int32} {x4 : Int32} {x5 : Int32} {x6 : Int32} {x8 : Int32} {x9 : Int32} {x10 : Int32} {x11 : Int32} {y0 : Int32}, pq_Md_pieces_114 E mc ms Post k12 G c s x0 x1 x3 x4 x5 x6 x8 x9 x10 x11 y0 → ∀ {H : Heap} {locs : List Loc} {ls : Array Slot}, wo_Se E G H → va_S (en_A E) s₀.heap H locs → lx_has ls 16 [(0, 1, .ref x0), (1, 2, .long x1), (3, 1, .int x3), (4, 1, .int x4), (5, 1, .int x5), (6, 1, .int x6), (8, 1, .int x8), (9, 1, .int x9), (10, 1, .int x10), (11, 1, .int x11)] → c ≤ mc → s ≤ ms → W p l e R s₀ m args below meth cd H locs c s (MQ below (va_Qi Post (wo_B E) (en_A E)) args s₀ mc ms (en_A E)) (F0 m 114 ls [.int y0]) := by
  intro G c s x0 x1 x3 x4 x5 x6 x8 x9 x10 x11 y0 hw H locs ls hG hS hl hcc hss
  dsimp only [pq_Md_pieces_114] at hw
  have hx := hC.1
  have hb := hC.2.1
  refine lx_istore (lv' := [(12, 1, .int y0), (0, 1, .ref x0), (1, 2, .long x1), (3, 1, .int x3), (4, 1, .int x4), (5, 1, .int x5), (6, 1, .int x6), (8, 1, .int x8), (9, 1, .int x9), (10, 1, .int x10), (11, 1, .int x11)]) hx hb dq_Md_pieces_114 hl (by decide) rfl (fun ls hl' => ?_)
  clear hl
  have hl := hl'
  clear hl'
  refine lv_iload hx hb dq_Md_pieces_116 (lx_at hl 8 rfl) ?_
  refine lv_iconst (v := (1 : Int32)) hx hb dq_Md_pieces_118 rfl ?_
  refine lv_iadd hx hb dq_Md_pieces_119 ?_
  refine lv_iload hx hb dq_Md_pieces_120 (lx_at hl 7 rfl) ?_
  refine lv_icmp_ne (tgt := 129) hx hb dq_Md_pieces_122 rfl (fun h => ?_) (fun h => ?_)
  · replace hw := hw.1 h
    refine lv_iconst (v := (0 : Int32)) hx hb dq_Md_pieces_129 rfl ?_
    exact tq_Md_pieces_130 hC hk12 hw hG hS (lx_sub hl [1, 2, 3, 4, 5, 6, 7, 8, 9, 10, 0] rfl) hcc hss
  · replace hw := hw.2 h
    refine lv_iconst (v := (1 : Int32)) hx hb dq_Md_pieces_125 rfl ?_
    refine lv_goto (tgt := 130) hx hb dq_Md_pieces_126 rfl ?_
    exact tq_Md_pieces_130 hC hk12 hw hG hS (lx_sub hl [1, 2, 3, 4, 5, 6, 7, 8, 9, 10, 0] rfl) hcc hss
set_option maxRecDepth 100000 in
set_option maxHeartbeats 4000000 in
theorem tq_Md_pieces_80 {p : Program} {l : Launch} {e : Env} {R : Room} {s₀ : State} {m : MethodId} {args : Array Value} {below : List Frame} {meth : Method} {cd : Code} {E : wo_E} {mc ms : Nat} {Post : Int32 → wo_W → Prop} {k12 : wo_W → Nat → Nat → Nat → Int64 → Int32 → Int32 → Int32 → Int32 → Int32 → Int32 → Prop} (hC : wo_Cx E "EdgeCacheModel" prog_14_method_32_code 16 2 48 ((Option.some Jvm.ClassFile.FieldType.int)) "pieces" mc ms p R s₀ m args meth cd) (hk12 : ∀ {G : wo_W} {c s : Nat} {x0 : Nat} {x1 : Int64} {x3 : Int32} {x4 : Int32} {x5 : Int32} {x6 : Int32} {x7 : Int32} {x8 : Int32}, k12 G c s x0 x1 x3 x4 x5 x6 x7 x8 → ∀ {H : Heap} {locs : List Loc} {ls : Array Slot}, wo_Se E G H → va_S (en_A E) s₀.heap H locs → lx_has ls 16 [(0, 1, .ref x0), (1, 2, .long x1), (3, 1, .int x3), (4, 1, .int x4), (5, 1, .int x5), (6, 1, .int x6), (7, 1, .int x7), (8, 1, .int x8)] → c ≤ mc → s ≤ ms → W p l e R s₀ m args below meth cd H locs c s (MQ below (va_Qi Post (wo_B E) (en_A E)) args s₀ mc ms (en_A E)) (F0 m 12 ls [])) : ∀ {G : wo_W} {c s : Nat} {x0 : Nat} {x1 : Int64} {x3 : Int32} {x4 : Int32} {x5 : Int32} {x6 : Int32} {x7 : Int32} {x8 : Int32} {x9 : Int32}, pq_Md_pieces_80 E mc ms Post k12 G c s x0 x1 x3 x4 x5 x6 x7 x8 x9 → ∀ {H : Heap} {locs : List Loc} {ls : Array Slot}, wo_Se E G H → va_S (en_A E) s₀.heap H locs → lx_has ls 16 [(0, 1, .ref x0), (1, 2, .long x1), (3, 1, .int x3), (4, 1, .int x4), (5, 1, .int x5), (6, 1, .int x6), (7, 1, .int x7), (8, 1, .int x8), (9, 1, .int x9)] → c ≤ mc → s ≤ ms → W p l e R s₀ m args below meth cd H locs c s (MQ below (va_Qi Post (wo_B E) (en_A E)) args s₀ mc ms (en_A E)) (F0 m 80 ls []) := by
  intro G c s x0 x1 x3 x4 x5 x6 x7 x8 x9 hw H locs ls hG hS hl hcc hss
  dsimp only [pq_Md_pieces_80] at hw
  have hx := hC.1
  have hb := hC.2.1
  refine lv_lload_n hx hb dq_Md_pieces_80 rfl (lx_at hl 1 rfl) ?_
  refine lv_iload hx hb dq_Md_pieces_81 (lx_at hl 6 rfl) ?_
  refine lv_iload hx hb dq_Md_pieces_83 (lx_at hl 8 rfl) ?_
  obtain ⟨mc1, ms2, hc1, hs1, hw⟩ := hw
  refine va_calli (wo_runS hC lq_Md_248 (mq_Md_digits hw) hG hS rfl (lx_sz hl) rfl (Nat.zero_le _) (by decide) dq_Md_pieces_85 ⟨hc1, hs1⟩) hS (fun _ _ h => h) (fun _ h => h) (fun v4 G3 t H locs ht hvm hw' hB _ _ hS => ?_)
  clear hw
  have hw := hw'
  clear hw'
  replace hG := wo_bk ht hB
  replace hcc := hc1
  replace hss := hs1
  refine lx_istore (lv' := [(10, 1, .int v4), (0, 1, .ref x0), (1, 2, .long x1), (3, 1, .int x3), (4, 1, .int x4), (5, 1, .int x5), (6, 1, .int x6), (7, 1, .int x7), (8, 1, .int x8), (9, 1, .int x9)]) hx hb dq_Md_pieces_88 hl (by decide) rfl (fun ls hl' => ?_)
  clear hl
  have hl := hl'
  clear hl'
  refine lv_lload_n hx hb dq_Md_pieces_90 rfl (lx_at hl 2 rfl) ?_
  refine lv_iload hx hb dq_Md_pieces_91 (lx_at hl 9 rfl) ?_
  refine lv_iconst (v := (1 : Int32)) hx hb dq_Md_pieces_93 rfl ?_
  refine lv_iadd hx hb dq_Md_pieces_94 ?_
  refine lv_iload hx hb dq_Md_pieces_95 (lx_at hl 8 rfl) ?_
  obtain ⟨mc5, ms6, hc1, hs1, hw⟩ := hw
  refine va_calli (wo_runS hC lq_Md_248 (mq_Md_digits hw) hG hS rfl (lx_sz hl) rfl (Nat.zero_le _) (by decide) dq_Md_pieces_97 ⟨hc1, hs1⟩) hS (fun _ _ h => h) (fun _ h => h) (fun v8 G7 t H locs ht hvm hw' hB _ _ hS => ?_)
  clear hw
  have hw := hw'
  clear hw'
  replace hG := wo_bk ht hB
  replace hcc := hc1
  replace hss := hs1
  refine lx_istore (lv' := [(11, 1, .int v8), (10, 1, .int v4), (0, 1, .ref x0), (1, 2, .long x1), (3, 1, .int x3), (4, 1, .int x4), (5, 1, .int x5), (6, 1, .int x6), (7, 1, .int x7), (8, 1, .int x8), (9, 1, .int x9)]) hx hb dq_Md_pieces_100 hl (by decide) rfl (fun ls hl' => ?_)
  clear hl
  have hl := hl'
  clear hl'
  refine lv_iload hx hb dq_Md_pieces_102 (lx_at hl 10 rfl) ?_
  refine lv_iload hx hb dq_Md_pieces_104 (lx_at hl 8 rfl) ?_
  refine lv_icmp_ne (tgt := 113) hx hb dq_Md_pieces_106 rfl (fun h => ?_) (fun h => ?_)
  · replace hw := hw.1 h
    refine lv_iconst (v := (0 : Int32)) hx hb dq_Md_pieces_113 rfl ?_
    exact tq_Md_pieces_114 hC hk12 hw hG hS (lx_sub hl [2, 3, 4, 5, 6, 7, 9, 10, 1, 0] rfl) hcc hss
  · replace hw := hw.2 h
    refine lv_iconst (v := (1 : Int32)) hx hb dq_Md_pieces_109 rfl ?_
    refine lv_goto (tgt := 114) hx hb dq_Md_pieces_110 rfl ?_
    exact tq_Md_pieces_114 hC hk12 hw hG hS (lx_sub hl [2, 3, 4, 5, 6, 7, 9, 10, 1, 0] rfl) hcc hss
set_option maxRecDepth 100000 in
set_option maxHeartbeats 4000000 in
theorem tq_Md_pieces_56 {p : Program} {l : Launch} {e : Env} {R : Room} {s₀ : State} {m : MethodId} {args : Array Value} {below : List Frame} {meth : Method} {cd : Code} {E : wo_E} {mc ms : Nat} {Post : Int32 → wo_W → Prop} {k12 : wo_W → Nat → Nat → Nat → Int64 → Int32 → Int32 → Int32 → Int32 → Int32 → Int32 → Prop} (hC : wo_Cx E "EdgeCacheModel" prog_14_method_32_code 16 2 48 ((Option.some Jvm.ClassFile.FieldType.int)) "pieces" mc ms p R s₀ m args meth cd) (hk12 : ∀ {G : wo_W} {c s : Nat} {x0 : Nat} {x1 : Int64} {x3 : Int32} {x4 : Int32} {x5 : Int32} {x6 : Int32} {x7 : Int32} {x8 : Int32}, k12 G c s x0 x1 x3 x4 x5 x6 x7 x8 → ∀ {H : Heap} {locs : List Loc} {ls : Array Slot}, wo_Se E G H → va_S (en_A E) s₀.heap H locs → lx_has ls 16 [(0, 1, .ref x0), (1, 2, .long x1), (3, 1, .int x3), (4, 1, .int x4), (5, 1, .int x5), (6, 1, .int x6), (7, 1, .int x7), (8, 1, .int x8)] → c ≤ mc → s ≤ ms → W p l e R s₀ m args below meth cd H locs c s (MQ below (va_Qi Post (wo_B E) (en_A E)) args s₀ mc ms (en_A E)) (F0 m 12 ls [])) : ∀ n : Nat, ∀ {G : wo_W} {c s : Nat} {x0 : Nat} {x1 : Int64} {x3 : Int32} {x4 : Int32} {x5 : Int32} {x6 : Int32} {x7 : Int32} {x8 : Int32} {x9 : Int32}, pq_Md_pieces_56 E mc ms Post k12 n G c s x0 x1 x3 x4 x5 x6 x7 x8 x9 → ∀ {H : Heap} {locs : List Loc} {ls : Array Slot}, wo_Se E G H → va_S (en_A E) s₀.heap H locs → lx_has ls 16 [(0, 1, .ref x0), (1, 2, .long x1), (3, 1, .int x3), (4, 1, .int x4), (5, 1, .int x5), (6, 1, .int x6), (7, 1, .int x7), (8, 1, .int x8), (9, 1, .int x9)] → c ≤ mc → s ≤ ms → W p l e R s₀ m args below meth cd H locs c s (MQ below (va_Qi Post (wo_B E) (en_A E)) args s₀ mc ms (en_A E)) (F0 m 56 ls []) := by
  intro n
  induction n with
  | zero => intro G c s x0 x1 x3 x4 x5 x6 x7 x8 x9 hw; exact hw.elim
  | succ n ih =>
    intro G c s x0 x1 x3 x4 x5 x6 x7 x8 x9 hw H locs ls hG hS hl hcc hss
    dsimp only [pq_Md_pieces_56] at hw
    have hx := hC.1
    have hb := hC.2.1
    refine lv_iload hx hb dq_Md_pieces_56 (lx_at hl 8 rfl) ?_
    refine lv_iload hx hb dq_Md_pieces_58 (lx_at hl 7 rfl) ?_
    refine lv_icmp_ge (tgt := 80) hx hb dq_Md_pieces_60 rfl (fun h => ?_) (fun h => ?_)
    · replace hw := hw.1 h
      exact tq_Md_pieces_80 hC hk12 hw hG hS (lx_sub hl [0, 1, 2, 3, 4, 5, 6, 7, 8] rfl) hcc hss
    · replace hw := hw.2 h
      refine lv_lload_n hx hb dq_Md_pieces_63 rfl (lx_at hl 1 rfl) ?_
      refine lv_iload hx hb dq_Md_pieces_64 (lx_at hl 8 rfl) ?_
      obtain ⟨mc1, ms2, hc1, hs1, hw⟩ := hw
      refine va_calli (wo_runS hC lq_Md_254 (mq_Md_byteOf hw) hG hS rfl (lx_sz hl) rfl (Nat.zero_le _) (by decide) dq_Md_pieces_66 ⟨hc1, hs1⟩) hS (fun _ _ h => h) (fun _ h => h) (fun v4 G3 t H locs ht hvm hw' hB _ _ hS => ?_)
      clear hw
      have hw := hw'
      clear hw'
      replace hG := wo_bk ht hB
      replace hcc := hc1
      replace hss := hs1
      refine lv_bipush (v := (45 : Int32)) hx hb dq_Md_pieces_69 rfl ?_
      refine lv_icmp_eq (tgt := 80) hx hb dq_Md_pieces_71 rfl (fun h => ?_) (fun h => ?_)
      · replace hw := hw.1 h
        exact tq_Md_pieces_80 hC hk12 hw hG hS (lx_sub hl [0, 1, 2, 3, 4, 5, 6, 7, 8] rfl) hcc hss
      · replace hw := hw.2 h
        refine lx_iinc (k := 8) (v := (x9 + (1 : Int32))) (lv' := [(9, 1, .int (x9 + (1 : Int32))), (0, 1, .ref x0), (1, 2, .long x1), (3, 1, .int x3), (4, 1, .int x4), (5, 1, .int x5), (6, 1, .int x6), (7, 1, .int x7), (8, 1, .int x8)]) hx hb dq_Md_pieces_74 hl rfl rfl (by decide) rfl (fun ls hl' => ?_)
        clear hl
        have hl := hl'
        clear hl'
        refine lv_goto (tgt := 56) hx hb dq_Md_pieces_77 rfl ?_
        exact ih hw hG hS (lx_sub hl [1, 2, 3, 4, 5, 6, 7, 8, 0] rfl) hcc hss
set_option maxRecDepth 100000 in
set_option maxHeartbeats 4000000 in
theorem tq_Md_pieces_50 {p : Program} {l : Launch} {e : Env} {R : Room} {s₀ : State} {m : MethodId} {args : Array Value} {below : List Frame} {meth : Method} {cd : Code} {E : wo_E} {mc ms : Nat} {Post : Int32 → wo_W → Prop} {k12 : wo_W → Nat → Nat → Nat → Int64 → Int32 → Int32 → Int32 → Int32 → Int32 → Int32 → Prop} (hC : wo_Cx E "EdgeCacheModel" prog_14_method_32_code 16 2 48 ((Option.some Jvm.ClassFile.FieldType.int)) "pieces" mc ms p R s₀ m args meth cd) (hk12 : ∀ {G : wo_W} {c s : Nat} {x0 : Nat} {x1 : Int64} {x3 : Int32} {x4 : Int32} {x5 : Int32} {x6 : Int32} {x7 : Int32} {x8 : Int32}, k12 G c s x0 x1 x3 x4 x5 x6 x7 x8 → ∀ {H : Heap} {locs : List Loc} {ls : Array Slot}, wo_Se E G H → va_S (en_A E) s₀.heap H locs → lx_has ls 16 [(0, 1, .ref x0), (1, 2, .long x1), (3, 1, .int x3), (4, 1, .int x4), (5, 1, .int x5), (6, 1, .int x6), (7, 1, .int x7), (8, 1, .int x8)] → c ≤ mc → s ≤ ms → W p l e R s₀ m args below meth cd H locs c s (MQ below (va_Qi Post (wo_B E) (en_A E)) args s₀ mc ms (en_A E)) (F0 m 12 ls [])) : ∀ {G : wo_W} {c s : Nat} {x0 : Nat} {x1 : Int64} {x3 : Int32} {x4 : Int32} {x5 : Int32} {x7 : Int32} {x8 : Int32} {y0 : Int32}, pq_Md_pieces_50 E mc ms Post k12 G c s x0 x1 x3 x4 x5 x7 x8 y0 → ∀ {H : Heap} {locs : List Loc} {ls : Array Slot}, wo_Se E G H → va_S (en_A E) s₀.heap H locs → lx_has ls 16 [(0, 1, .ref x0), (1, 2, .long x1), (3, 1, .int x3), (4, 1, .int x4), (5, 1, .int x5), (7, 1, .int x7), (8, 1, .int x8)] → c ≤ mc → s ≤ ms → W p l e R s₀ m args below meth cd H locs c s (MQ below (va_Qi Post (wo_B E) (en_A E)) args s₀ mc ms (en_A E)) (F0 m 50 ls [.int y0]) := by
  intro G c s x0 x1 x3 x4 x5 x7 x8 y0 hw H locs ls hG hS hl hcc hss
  dsimp only [pq_Md_pieces_50] at hw
  have hx := hC.1
  have hb := hC.2.1
  refine lx_istore (lv' := [(6, 1, .int y0), (0, 1, .ref x0), (1, 2, .long x1), (3, 1, .int x3), (4, 1, .int x4), (5, 1, .int x5), (7, 1, .int x7), (8, 1, .int x8)]) hx hb dq_Md_pieces_50 hl (by decide) rfl (fun ls hl' => ?_)
  clear hl
  have hl := hl'
  clear hl'
  refine lv_iload hx hb dq_Md_pieces_52 (lx_at hl 6 rfl) ?_
  refine lx_istore (lv' := [(9, 1, .int x7), (6, 1, .int y0), (0, 1, .ref x0), (1, 2, .long x1), (3, 1, .int x3), (4, 1, .int x4), (5, 1, .int x5), (7, 1, .int x7), (8, 1, .int x8)]) hx hb dq_Md_pieces_54 hl (by decide) rfl (fun ls hl' => ?_)
  clear hl
  have hl := hl'
  clear hl'
  obtain ⟨n1, hw⟩ := hw
  exact tq_Md_pieces_56 hC hk12 n1 hw hG hS (lx_sub hl [2, 3, 4, 5, 6, 1, 7, 8, 0] rfl) hcc hss
set_option maxRecDepth 100000 in
set_option maxHeartbeats 4000000 in
theorem tq_Md_pieces_35 {p : Program} {l : Launch} {e : Env} {R : Room} {s₀ : State} {m : MethodId} {args : Array Value} {below : List Frame} {meth : Method} {cd : Code} {E : wo_E} {mc ms : Nat} {Post : Int32 → wo_W → Prop} {k12 : wo_W → Nat → Nat → Nat → Int64 → Int32 → Int32 → Int32 → Int32 → Int32 → Int32 → Prop} (hC : wo_Cx E "EdgeCacheModel" prog_14_method_32_code 16 2 48 ((Option.some Jvm.ClassFile.FieldType.int)) "pieces" mc ms p R s₀ m args meth cd) (hk12 : ∀ {G : wo_W} {c s : Nat} {x0 : Nat} {x1 : Int64} {x3 : Int32} {x4 : Int32} {x5 : Int32} {x6 : Int32} {x7 : Int32} {x8 : Int32}, k12 G c s x0 x1 x3 x4 x5 x6 x7 x8 → ∀ {H : Heap} {locs : List Loc} {ls : Array Slot}, wo_Se E G H → va_S (en_A E) s₀.heap H locs → lx_has ls 16 [(0, 1, .ref x0), (1, 2, .long x1), (3, 1, .int x3), (4, 1, .int x4), (5, 1, .int x5), (6, 1, .int x6), (7, 1, .int x7), (8, 1, .int x8)] → c ≤ mc → s ≤ ms → W p l e R s₀ m args below meth cd H locs c s (MQ below (va_Qi Post (wo_B E) (en_A E)) args s₀ mc ms (en_A E)) (F0 m 12 ls [])) : ∀ {G : wo_W} {c s : Nat} {x0 : Nat} {x1 : Int64} {x3 : Int32} {x4 : Int32} {x5 : Int32} {x6 : Int32} {x7 : Int32} {x8 : Int32}, pq_Md_pieces_35 E mc ms Post k12 G c s x0 x1 x3 x4 x5 x6 x7 x8 → ∀ {H : Heap} {locs : List Loc} {ls : Array Slot}, wo_Se E G H → va_S (en_A E) s₀.heap H locs → lx_has ls 16 [(0, 1, .ref x0), (1, 2, .long x1), (3, 1, .int x3), (4, 1, .int x4), (5, 1, .int x5), (6, 1, .int x6), (7, 1, .int x7), (8, 1, .int x8)] → c ≤ mc → s ≤ ms → W p l e R s₀ m args below meth cd H locs c s (MQ below (va_Qi Post (wo_B E) (en_A E)) args s₀ mc ms (en_A E)) (F0 m 35 ls []) := by
  intro G c s x0 x1 x3 x4 x5 x6 x7 x8 hw H locs ls hG hS hl hcc hss
  dsimp only [pq_Md_pieces_35] at hw
  have hx := hC.1
  have hb := hC.2.1
  refine lv_iload hx hb dq_Md_pieces_35 (lx_at hl 7 rfl) ?_
  refine lv_iload_n hx hb dq_Md_pieces_37 rfl (lx_at hl 2 rfl) ?_
  refine lv_icmp_ge (tgt := 48) hx hb dq_Md_pieces_38 rfl (fun h => ?_) (fun h => ?_)
  · replace hw := hw.1 h
    refine lv_iload hx hb dq_Md_pieces_48 (lx_at hl 5 rfl) ?_
    exact tq_Md_pieces_50 hC hk12 hw hG hS (lx_sub hl [0, 1, 2, 3, 4, 6, 7] rfl) hcc hss
  · replace hw := hw.2 h
    refine lv_iload hx hb dq_Md_pieces_41 (lx_at hl 5 rfl) ?_
    refine lv_iconst (v := (1 : Int32)) hx hb dq_Md_pieces_43 rfl ?_
    refine lv_iadd hx hb dq_Md_pieces_44 ?_
    refine lv_goto (tgt := 50) hx hb dq_Md_pieces_45 rfl ?_
    exact tq_Md_pieces_50 hC hk12 hw hG hS (lx_sub hl [0, 1, 2, 3, 4, 6, 7] rfl) hcc hss
set_option maxRecDepth 100000 in
set_option maxHeartbeats 4000000 in
theorem tq_Md_pieces_12 {p : Program} {l : Launch} {e : Env} {R : Room} {s₀ : State} {m : MethodId} {args : Array Value} {below : List Frame} {meth : Method} {cd : Code} {E : wo_E} {mc ms : Nat} {Post : Int32 → wo_W → Prop} (hC : wo_Cx E "EdgeCacheModel" prog_14_method_32_code 16 2 48 ((Option.some Jvm.ClassFile.FieldType.int)) "pieces" mc ms p R s₀ m args meth cd) : ∀ n : Nat, ∀ {G : wo_W} {c s : Nat} {x0 : Nat} {x1 : Int64} {x3 : Int32} {x4 : Int32} {x5 : Int32} {x6 : Int32} {x7 : Int32} {x8 : Int32}, pq_Md_pieces_12 E mc ms Post n G c s x0 x1 x3 x4 x5 x6 x7 x8 → ∀ {H : Heap} {locs : List Loc} {ls : Array Slot}, wo_Se E G H → va_S (en_A E) s₀.heap H locs → lx_has ls 16 [(0, 1, .ref x0), (1, 2, .long x1), (3, 1, .int x3), (4, 1, .int x4), (5, 1, .int x5), (6, 1, .int x6), (7, 1, .int x7), (8, 1, .int x8)] → c ≤ mc → s ≤ ms → W p l e R s₀ m args below meth cd H locs c s (MQ below (va_Qi Post (wo_B E) (en_A E)) args s₀ mc ms (en_A E)) (F0 m 12 ls []) := by
  intro n
  induction n with
  | zero => intro G c s x0 x1 x3 x4 x5 x6 x7 x8 hw; exact hw.elim
  | succ n ih =>
    intro G c s x0 x1 x3 x4 x5 x6 x7 x8 hw H locs ls hG hS hl hcc hss
    dsimp only [pq_Md_pieces_12] at hw
    have hx := hC.1
    have hb := hC.2.1
    refine lv_iload hx hb dq_Md_pieces_12 (lx_at hl 7 rfl) ?_
    refine lv_iload_n hx hb dq_Md_pieces_14 rfl (lx_at hl 2 rfl) ?_
    refine lv_icmp_gt (tgt := 292) hx hb dq_Md_pieces_15 rfl (fun h => ?_) (fun h => ?_)
    · replace hw := hw.1 h
      refine lv_iload hx hb dq_Md_pieces_292 (lx_at hl 4 rfl) ?_
      exact wo_iret hC hG hS hcc hss hw dq_Md_pieces_294
    · replace hw := hw.2 h
      refine lv_iload hx hb dq_Md_pieces_18 (lx_at hl 7 rfl) ?_
      refine lv_iload_n hx hb dq_Md_pieces_20 rfl (lx_at hl 2 rfl) ?_
      refine lv_icmp_eq (tgt := 35) hx hb dq_Md_pieces_21 rfl (fun h => ?_) (fun h => ?_)
      · replace hw := hw.1 h
        exact tq_Md_pieces_35 hC ih hw hG hS (lx_sub hl [0, 1, 2, 3, 4, 5, 6, 7] rfl) hcc hss
      · replace hw := hw.2 h
        refine lv_lload_n hx hb dq_Md_pieces_24 rfl (lx_at hl 1 rfl) ?_
        refine lv_iload hx hb dq_Md_pieces_25 (lx_at hl 7 rfl) ?_
        obtain ⟨mc1, ms2, hc1, hs1, hw⟩ := hw
        refine va_calli (wo_runS hC lq_Md_254 (mq_Md_byteOf hw) hG hS rfl (lx_sz hl) rfl (Nat.zero_le _) (by decide) dq_Md_pieces_27 ⟨hc1, hs1⟩) hS (fun _ _ h => h) (fun _ h => h) (fun v4 G3 t H locs ht hvm hw' hB _ _ hS => ?_)
        clear hw
        have hw := hw'
        clear hw'
        replace hG := wo_bk ht hB
        replace hcc := hc1
        replace hss := hs1
        refine lv_bipush (v := (44 : Int32)) hx hb dq_Md_pieces_30 rfl ?_
        refine lv_icmp_ne (tgt := 286) hx hb dq_Md_pieces_32 rfl (fun h => ?_) (fun h => ?_)
        · replace hw := hw.1 h
          exact tq_Md_pieces_286 hC ih hw hG hS (lx_sub hl [0, 1, 2, 3, 4, 5, 6, 7] rfl) hcc hss
        · replace hw := hw.2 h
          exact tq_Md_pieces_35 hC ih hw hG hS (lx_sub hl [0, 1, 2, 3, 4, 5, 6, 7] rfl) hcc hss
set_option maxRecDepth 100000 in
set_option maxHeartbeats 4000000 in
theorem tq_Md_pieces_0 {p : Program} {l : Launch} {e : Env} {R : Room} {s₀ : State} {m : MethodId} {args : Array Value} {below : List Frame} {meth : Method} {cd : Code} {E : wo_E} {mc ms : Nat} {Post : Int32 → wo_W → Prop} (hC : wo_Cx E "EdgeCacheModel" prog_14_method_32_code 16 2 48 ((Option.some Jvm.ClassFile.FieldType.int)) "pieces" mc ms p R s₀ m args meth cd) : ∀ {G : wo_W} {c s : Nat} {x0 : Nat} {x1 : Int64} {x3 : Int32} {x4 : Int32}, pq_Md_pieces_0 E mc ms Post G c s x0 x1 x3 x4 → ∀ {H : Heap} {locs : List Loc} {ls : Array Slot}, wo_Se E G H → va_S (en_A E) s₀.heap H locs → lx_has ls 16 [(0, 1, .ref x0), (1, 2, .long x1), (3, 1, .int x3), (4, 1, .int x4)] → c ≤ mc → s ≤ ms → W p l e R s₀ m args below meth cd H locs c s (MQ below (va_Qi Post (wo_B E) (en_A E)) args s₀ mc ms (en_A E)) (F0 m 0 ls []) := by
  intro G c s x0 x1 x3 x4 hw H locs ls hG hS hl hcc hss
  dsimp only [pq_Md_pieces_0] at hw
  have hx := hC.1
  have hb := hC.2.1
  refine lv_iconst (v := (0 : Int32)) hx hb dq_Md_pieces_0 rfl ?_
  refine lx_istore (lv' := [(5, 1, .int (0 : Int32)), (0, 1, .ref x0), (1, 2, .long x1), (3, 1, .int x3), (4, 1, .int x4)]) hx hb dq_Md_pieces_1 hl (by decide) rfl (fun ls hl' => ?_)
  clear hl
  have hl := hl'
  clear hl'
  refine lv_iconst (v := (0 : Int32)) hx hb dq_Md_pieces_3 rfl ?_
  refine lx_istore (lv' := [(6, 1, .int (0 : Int32)), (5, 1, .int (0 : Int32)), (0, 1, .ref x0), (1, 2, .long x1), (3, 1, .int x3), (4, 1, .int x4)]) hx hb dq_Md_pieces_4 hl (by decide) rfl (fun ls hl' => ?_)
  clear hl
  have hl := hl'
  clear hl'
  refine lv_iconst (v := (0 : Int32)) hx hb dq_Md_pieces_6 rfl ?_
  refine lx_istore (lv' := [(7, 1, .int (0 : Int32)), (6, 1, .int (0 : Int32)), (5, 1, .int (0 : Int32)), (0, 1, .ref x0), (1, 2, .long x1), (3, 1, .int x3), (4, 1, .int x4)]) hx hb dq_Md_pieces_7 hl (by decide) rfl (fun ls hl' => ?_)
  clear hl
  have hl := hl'
  clear hl'
  refine lv_iconst (v := (0 : Int32)) hx hb dq_Md_pieces_9 rfl ?_
  refine lx_istore (lv' := [(8, 1, .int (0 : Int32)), (7, 1, .int (0 : Int32)), (6, 1, .int (0 : Int32)), (5, 1, .int (0 : Int32)), (0, 1, .ref x0), (1, 2, .long x1), (3, 1, .int x3), (4, 1, .int x4)]) hx hb dq_Md_pieces_10 hl (by decide) rfl (fun ls hl' => ?_)
  clear hl
  have hl := hl'
  clear hl'
  obtain ⟨n1, hw⟩ := hw
  exact tq_Md_pieces_12 hC n1 hw hG hS (lx_sub hl [4, 5, 6, 7, 3, 2, 1, 0] rfl) hcc hss
set_option maxHeartbeats 4000000 in
theorem mq_Md_pieces {l : Launch} {E : wo_E} {mc ms : Nat} {Post : Int32 → wo_W → Prop} {G : wo_W} {x0 : Nat} {x1 : Int64} {x3 : Int32} {x4 : Int32} (hw : pq_Md_pieces E mc ms Post G x0 x1 x3 x4) : Met l yq_Md_pieces (Cond.code yq_Md_pieces prog_14_method_32_code 16 ((Option.some Jvm.ClassFile.FieldType.int)) :: vw_WG) { frames := 2, cells := mc, slots := ms, locals := 48 } (va_Pc [.ref x0, .long x1, .int x3, .int x4] (wo_Ok E G)) (va_Qi Post (wo_B E) (en_A E)) mc ms (en_A E) := by
  unfold pq_Md_pieces at hw
  exact wo_met [(1, .ref x0), (2, .long x1), (1, .int x3), (1, .int x4)] rfl (by decide) (fun q hq => by simp only [List.mem_cons, List.not_mem_nil, or_false] at hq; rcases hq with rfl | rfl | rfl | rfl <;> first | rfl | exact lx_cR _) (Nat.le_of_ble_eq_true rfl) (fun p e R s m args below meth cd ls hC hG hS hl => tq_Md_pieces_0 hC hw hG hS (lx_sub hl [0, 1, 2, 3] rfl) (Nat.zero_le _) (Nat.zero_le _))

theorem dq_Md_whole_0 : decode prog_14_method_30_code 0 = .ok (.aload_n 0, 1) := by decide +kernel
theorem dq_Md_whole_1 : decode prog_14_method_30_code 1 = .ok (.sipush 200, 3) := by decide +kernel
theorem dq_Md_whole_4 : decode prog_14_method_30_code 4 = .ok (.iload_n 1, 1) := by decide +kernel
theorem dq_Md_whole_5 : decode prog_14_method_30_code 5 = .ok (.iload_n 2, 1) := by decide +kernel
theorem dq_Md_whole_6 : decode prog_14_method_30_code 6 = .ok (.invokevirtual 290, 3) := by decide +kernel
theorem dq_Md_whole_9 : decode prog_14_method_30_code 9 = .ok (.aload_n 0, 1) := by decide +kernel
theorem dq_Md_whole_10 : decode prog_14_method_30_code 10 = .ok (.bipush 76, 2) := by decide +kernel
theorem dq_Md_whole_12 : decode prog_14_method_30_code 12 = .ok (.aload_n 0, 1) := by decide +kernel
theorem dq_Md_whole_13 : decode prog_14_method_30_code 13 = .ok (.getfield 105, 3) := by decide +kernel
theorem dq_Md_whole_16 : decode prog_14_method_30_code 16 = .ok (.iload_n 1, 1) := by decide +kernel
theorem dq_Md_whole_17 : decode prog_14_method_30_code 17 = .ok (.iaload, 1) := by decide +kernel
theorem dq_Md_whole_18 : decode prog_14_method_30_code 18 = .ok (.invokevirtual 283, 3) := by decide +kernel
theorem dq_Md_whole_21 : decode prog_14_method_30_code 21 = .ok (.aload_n 0, 1) := by decide +kernel
theorem dq_Md_whole_22 : decode prog_14_method_30_code 22 = .ok (.bipush 10, 2) := by decide +kernel
theorem dq_Md_whole_24 : decode prog_14_method_30_code 24 = .ok (.invokevirtual 270, 3) := by decide +kernel
theorem dq_Md_whole_27 : decode prog_14_method_30_code 27 = .ok (.aload_n 0, 1) := by decide +kernel
theorem dq_Md_whole_28 : decode prog_14_method_30_code 28 = .ok (.aload_n 0, 1) := by decide +kernel
theorem dq_Md_whole_29 : decode prog_14_method_30_code 29 = .ok (.getfield 102, 3) := by decide +kernel
theorem dq_Md_whole_32 : decode prog_14_method_30_code 32 = .ok (.iload_n 1, 1) := by decide +kernel
theorem dq_Md_whole_33 : decode prog_14_method_30_code 33 = .ok (.laload, 1) := by decide +kernel
theorem dq_Md_whole_34 : decode prog_14_method_30_code 34 = .ok (.iconst 0, 1) := by decide +kernel
theorem dq_Md_whole_35 : decode prog_14_method_30_code 35 = .ok (.iload_n 3, 1) := by decide +kernel
theorem dq_Md_whole_36 : decode prog_14_method_30_code 36 = .ok (.ifCond .eq 12, 3) := by decide +kernel
theorem dq_Md_whole_39 : decode prog_14_method_30_code 39 = .ok (.aload_n 0, 1) := by decide +kernel
theorem dq_Md_whole_40 : decode prog_14_method_30_code 40 = .ok (.getfield 105, 3) := by decide +kernel
theorem dq_Md_whole_43 : decode prog_14_method_30_code 43 = .ok (.iload_n 1, 1) := by decide +kernel
theorem dq_Md_whole_44 : decode prog_14_method_30_code 44 = .ok (.iaload, 1) := by decide +kernel
theorem dq_Md_whole_45 : decode prog_14_method_30_code 45 = .ok (.goto 4, 3) := by decide +kernel
theorem dq_Md_whole_48 : decode prog_14_method_30_code 48 = .ok (.iconst 0, 1) := by decide +kernel
theorem dq_Md_whole_49 : decode prog_14_method_30_code 49 = .ok (.invokevirtual 286, 3) := by decide +kernel
theorem dq_Md_whole_52 : decode prog_14_method_30_code 52 = .ok (.return_, 1) := by decide +kernel
set_option maxRecDepth 100000 in
def pq_Md_whole_49 (E : wo_E) (mc ms : Nat) (Post : wo_W → Prop) (G : wo_W) (c s : Nat) (y0 : Nat) (y1 : Int64) (y2 : Int32) (y3 : Int32) : Prop := wo_ty G y0 = 15 ∧ ∃ mc2 ms3 : Nat, (c + mc2) ≤ mc ∧ (s + ms3) ≤ ms ∧ pq_Md_putBytes E mc2 ms3 (fun G4 => 
  Post G4) G y0 y1 y2 y3
set_option maxRecDepth 100000 in
def pq_Md_whole_0 (E : wo_E) (mc ms : Nat) (Post : wo_W → Prop) (G : wo_W) (c s : Nat) (x0 : Nat) (x1 : Int32) (x2 : Int32) (x3 : Int32) : Prop := wo_ty G x0 = 15 ∧ ∃ mc2 ms3 : Nat, (c + mc2) ≤ mc ∧ (s + ms3) ≤ ms ∧ pq_Md_head E mc2 ms3 (fun G4 => 
  wo_ty G4 x0 = 15 ∧ ∀ r6 : Option Nat, r6 = wo_gr G4 931 x0 → ∃ a8 : Nat, r6 = some a8 ∧ wo_ty G4 a8 = 66 ∧ vp_in x1 (wo_len G4 a8) ∧ ∃ mc11 ms12 : Nat, ((c + mc2) + mc11) ≤ mc ∧ ((s + ms3) + ms12) ≤ ms ∧ pq_Md_putLine E mc11 ms12 (fun G13 => 
    wo_ty G13 x0 = 15 ∧ ∃ mc15 ms16 : Nat, (((c + mc2) + mc11) + mc15) ≤ mc ∧ (((s + ms3) + ms12) + ms16) ≤ ms ∧ pq_Md_put E mc15 ms16 (fun G17 => 
      wo_ty G17 x0 = 15 ∧ ∀ r19 : Option Nat, r19 = wo_gr G17 930 x0 → ∃ a21 : Nat, r19 = some a21 ∧ wo_ty G17 a21 = 73 ∧ vp_in x1 (wo_len G17 a21) ∧ ((x3 = (0 : Int32) → pq_Md_whole_49 E mc ms Post G17 (((c + mc2) + mc11) + mc15) (((s + ms3) + ms12) + ms16) x0 (wo_el G17 a21 x1.toNatClampNeg) (0 : Int32) (0 : Int32)) ∧
        (¬ x3 = (0 : Int32) → ∀ r24 : Option Nat, r24 = wo_gr G17 931 x0 → ∃ a26 : Nat, r24 = some a26 ∧ wo_ty G17 a26 = 66 ∧ vp_in x1 (wo_len G17 a26) ∧ pq_Md_whole_49 E mc ms Post G17 (((c + mc2) + mc11) + mc15) (((s + ms3) + ms12) + ms16) x0 (wo_el G17 a21 x1.toNatClampNeg) (0 : Int32) (wo_ei G17 a26 x1.toNatClampNeg)))) G13 x0 (10 : Int32)) G4 x0 (76 : Int32) (wo_ei G4 a8 x1.toNatClampNeg)) G x0 (200 : Int32) x1 x2
def pq_Md_whole (E : wo_E) (mc ms : Nat) (Post : wo_W → Prop) (G : wo_W) (x0 : Nat) (x1 : Int32) (x2 : Int32) (x3 : Int32) : Prop := pq_Md_whole_0 E mc ms Post G 0 0 x0 x1 x2 x3
set_option maxRecDepth 100000 in
set_option maxHeartbeats 4000000 in
theorem tq_Md_whole_49 {p : Program} {l : Launch} {e : Env} {R : Room} {s₀ : State} {m : MethodId} {args : Array Value} {below : List Frame} {meth : Method} {cd : Code} {E : wo_E} {mc ms : Nat} {Post : wo_W → Prop} (hC : wo_Cx E "EdgeCacheModel" prog_14_method_30_code 4 4 88 ((Option.none : Option Jvm.ClassFile.FieldType)) "whole" mc ms p R s₀ m args meth cd) : ∀ {G : wo_W} {c s : Nat} {y0 : Nat} {y1 : Int64} {y2 : Int32} {y3 : Int32}, pq_Md_whole_49 E mc ms Post G c s y0 y1 y2 y3 → ∀ {H : Heap} {locs : List Loc} {ls : Array Slot}, wo_Se E G H → va_S (en_A E) s₀.heap H locs → lx_has ls 4 [] → c ≤ mc → s ≤ ms → W p l e R s₀ m args below meth cd H locs c s (MQ below (va_Qv Post (wo_B E) (en_A E)) args s₀ mc ms (en_A E)) (F0 m 49 ls [.int y3, .int y2, .long y1, .ref y0]) := by
  intro G c s y0 y1 y2 y3 hw H locs ls hG hS hl hcc hss
  dsimp only [pq_Md_whole_49] at hw
  have hx := hC.1
  have hb := hC.2.1
  obtain ⟨t1, hw⟩ := hw
  obtain ⟨mc2, ms3, hc1, hs1, hw⟩ := hw
  refine va_callv (wo_runV hC lq_Md_286 (mq_Md_putBytes hw) hG hS t1 rfl (lx_sz hl) rfl (Nat.zero_le _) (by decide) dq_Md_whole_49 ⟨hc1, hs1⟩) hS (fun _ _ h => h) (fun _ h => h) (fun G4 t H locs ht hvm hw' hB _ _ hS => ?_)
  clear hw
  have hw := hw'
  clear hw'
  replace hG := wo_bk ht hB
  replace hcc := hc1
  replace hss := hs1
  exact wo_vret hC hG hS hcc hss hw dq_Md_whole_52
set_option maxRecDepth 100000 in
set_option maxHeartbeats 4000000 in
theorem tq_Md_whole_0 {p : Program} {l : Launch} {e : Env} {R : Room} {s₀ : State} {m : MethodId} {args : Array Value} {below : List Frame} {meth : Method} {cd : Code} {E : wo_E} {mc ms : Nat} {Post : wo_W → Prop} (hC : wo_Cx E "EdgeCacheModel" prog_14_method_30_code 4 4 88 ((Option.none : Option Jvm.ClassFile.FieldType)) "whole" mc ms p R s₀ m args meth cd) : ∀ {G : wo_W} {c s : Nat} {x0 : Nat} {x1 : Int32} {x2 : Int32} {x3 : Int32}, pq_Md_whole_0 E mc ms Post G c s x0 x1 x2 x3 → ∀ {H : Heap} {locs : List Loc} {ls : Array Slot}, wo_Se E G H → va_S (en_A E) s₀.heap H locs → lx_has ls 4 [(0, 1, .ref x0), (1, 1, .int x1), (2, 1, .int x2), (3, 1, .int x3)] → c ≤ mc → s ≤ ms → W p l e R s₀ m args below meth cd H locs c s (MQ below (va_Qv Post (wo_B E) (en_A E)) args s₀ mc ms (en_A E)) (F0 m 0 ls []) := by
  intro G c s x0 x1 x2 x3 hw H locs ls hG hS hl hcc hss
  dsimp only [pq_Md_whole_0] at hw
  have hx := hC.1
  have hb := hC.2.1
  refine lv_aload_n hx hb dq_Md_whole_0 rfl (lx_at hl 0 rfl) ?_
  refine lv_sipush (v := (200 : Int32)) hx hb dq_Md_whole_1 rfl ?_
  refine lv_iload_n hx hb dq_Md_whole_4 rfl (lx_at hl 1 rfl) ?_
  refine lv_iload_n hx hb dq_Md_whole_5 rfl (lx_at hl 2 rfl) ?_
  obtain ⟨t1, hw⟩ := hw
  obtain ⟨mc2, ms3, hc1, hs1, hw⟩ := hw
  refine va_callv (wo_runV hC lq_Md_290 (mq_Md_head hw) hG hS t1 rfl (lx_sz hl) rfl (Nat.zero_le _) (by decide) dq_Md_whole_6 ⟨hc1, hs1⟩) hS (fun _ _ h => h) (fun _ h => h) (fun G4 t H locs ht hvm hw' hB _ _ hS => ?_)
  clear hw
  have hw := hw'
  clear hw'
  replace hG := wo_bk ht hB
  replace hcc := hc1
  replace hss := hs1
  refine lv_aload_n hx hb dq_Md_whole_9 rfl (lx_at hl 0 rfl) ?_
  refine lv_bipush (v := (76 : Int32)) hx hb dq_Md_whole_10 rfl ?_
  refine lv_aload_n hx hb dq_Md_whole_12 rfl (lx_at hl 0 rfl) ?_
  obtain ⟨t5, hw⟩ := hw
  refine wo_getR hC fq_Md_105 rfl hG t5 dq_Md_whole_13 (fun r6 e7 => ?_)
  replace hw := hw r6 e7
  refine lv_iload_n hx hb dq_Md_whole_16 rfl (lx_at hl 1 rfl) ?_
  obtain ⟨a8, rfl, hw⟩ := hw
  obtain ⟨t9, hw⟩ := hw
  obtain ⟨h10, hw⟩ := hw
  refine wo_iald (j := 2) hC rfl hG t9 h10 dq_Md_whole_17 ?_
  obtain ⟨mc11, ms12, hc1, hs1, hw⟩ := hw
  refine va_callv (wo_runV hC lq_Md_283 (mq_Md_putLine hw) hG hS t5 rfl (lx_sz hl) rfl (Nat.zero_le _) (by decide) dq_Md_whole_18 ⟨hc1, hs1⟩) hS (fun _ _ h => h) (fun _ h => h) (fun G13 t H locs ht hvm hw' hB _ _ hS => ?_)
  clear hw
  have hw := hw'
  clear hw'
  replace hG := wo_bk ht hB
  replace hcc := hc1
  replace hss := hs1
  refine lv_aload_n hx hb dq_Md_whole_21 rfl (lx_at hl 0 rfl) ?_
  refine lv_bipush (v := (10 : Int32)) hx hb dq_Md_whole_22 rfl ?_
  obtain ⟨t14, hw⟩ := hw
  obtain ⟨mc15, ms16, hc1, hs1, hw⟩ := hw
  refine va_callv (wo_runV hC lq_Md_270 (mq_Md_put hw) hG hS t14 rfl (lx_sz hl) rfl (Nat.zero_le _) (by decide) dq_Md_whole_24 ⟨hc1, hs1⟩) hS (fun _ _ h => h) (fun _ h => h) (fun G17 t H locs ht hvm hw' hB _ _ hS => ?_)
  clear hw
  have hw := hw'
  clear hw'
  replace hG := wo_bk ht hB
  replace hcc := hc1
  replace hss := hs1
  refine lv_aload_n hx hb dq_Md_whole_27 rfl (lx_at hl 0 rfl) ?_
  refine lv_aload_n hx hb dq_Md_whole_28 rfl (lx_at hl 0 rfl) ?_
  obtain ⟨t18, hw⟩ := hw
  refine wo_getR hC fq_Md_102 rfl hG t18 dq_Md_whole_29 (fun r19 e20 => ?_)
  replace hw := hw r19 e20
  refine lv_iload_n hx hb dq_Md_whole_32 rfl (lx_at hl 1 rfl) ?_
  obtain ⟨a21, rfl, hw⟩ := hw
  obtain ⟨t22, hw⟩ := hw
  obtain ⟨h23, hw⟩ := hw
  refine wo_lald (j := 9) hC rfl hG t22 h23 dq_Md_whole_33 ?_
  refine lv_iconst (v := (0 : Int32)) hx hb dq_Md_whole_34 rfl ?_
  refine lv_iload_n hx hb dq_Md_whole_35 rfl (lx_at hl 3 rfl) ?_
  refine lv_if_eq (tgt := 48) hx hb dq_Md_whole_36 rfl (fun h => ?_) (fun h => ?_)
  · replace hw := hw.1 h
    refine lv_iconst (v := (0 : Int32)) hx hb dq_Md_whole_48 rfl ?_
    exact tq_Md_whole_49 hC hw hG hS (lx_sub hl [] rfl) hcc hss
  · replace hw := hw.2 h
    refine lv_aload_n hx hb dq_Md_whole_39 rfl (lx_at hl 0 rfl) ?_
    refine wo_getR hC fq_Md_105 rfl hG t18 dq_Md_whole_40 (fun r24 e25 => ?_)
    replace hw := hw r24 e25
    refine lv_iload_n hx hb dq_Md_whole_43 rfl (lx_at hl 1 rfl) ?_
    obtain ⟨a26, rfl, hw⟩ := hw
    obtain ⟨t27, hw⟩ := hw
    obtain ⟨h28, hw⟩ := hw
    refine wo_iald (j := 2) hC rfl hG t27 h28 dq_Md_whole_44 ?_
    refine lv_goto (tgt := 49) hx hb dq_Md_whole_45 rfl ?_
    exact tq_Md_whole_49 hC hw hG hS (lx_sub hl [] rfl) hcc hss
set_option maxHeartbeats 4000000 in
theorem mq_Md_whole {l : Launch} {E : wo_E} {mc ms : Nat} {Post : wo_W → Prop} {G : wo_W} {x0 : Nat} {x1 : Int32} {x2 : Int32} {x3 : Int32} (hw : pq_Md_whole E mc ms Post G x0 x1 x2 x3) : Met l yq_Md_whole (Cond.code yq_Md_whole prog_14_method_30_code 4 ((Option.none : Option Jvm.ClassFile.FieldType)) :: vw_WG) { frames := 4, cells := mc, slots := ms, locals := 88 } (va_Pc [.ref x0, .int x1, .int x2, .int x3] (wo_Ok E G)) (va_Qv Post (wo_B E) (en_A E)) mc ms (en_A E) := by
  unfold pq_Md_whole at hw
  exact wo_met [(1, .ref x0), (1, .int x1), (1, .int x2), (1, .int x3)] rfl (by decide) (fun q hq => by simp only [List.mem_cons, List.not_mem_nil, or_false] at hq; rcases hq with rfl | rfl | rfl | rfl <;> first | rfl | exact lx_cR _) (Nat.le_of_ble_eq_true rfl) (fun p e R s m args below meth cd ls hC hG hS hl => tq_Md_whole_0 hC hw hG hS (lx_sub hl [0, 1, 2, 3] rfl) (Nat.zero_le _) (Nat.zero_le _))

theorem dq_Md_select_0 : decode prog_14_method_31_code 0 = .ok (.aload_n 0, 1) := by decide +kernel
theorem dq_Md_select_1 : decode prog_14_method_31_code 1 = .ok (.getfield 108, 3) := by decide +kernel
theorem dq_Md_select_4 : decode prog_14_method_31_code 4 = .ok (.iload_n 2, 1) := by decide +kernel
theorem dq_Md_select_5 : decode prog_14_method_31_code 5 = .ok (.iaload, 1) := by decide +kernel
theorem dq_Md_select_6 : decode prog_14_method_31_code 6 = .ok (.istore 4, 2) := by decide +kernel
theorem dq_Md_select_8 : decode prog_14_method_31_code 8 = .ok (.aload_n 0, 1) := by decide +kernel
theorem dq_Md_select_9 : decode prog_14_method_31_code 9 = .ok (.iload_n 1, 1) := by decide +kernel
theorem dq_Md_select_10 : decode prog_14_method_31_code 10 = .ok (.iconst 0, 1) := by decide +kernel
theorem dq_Md_select_11 : decode prog_14_method_31_code 11 = .ok (.invokevirtual 258, 3) := by decide +kernel
theorem dq_Md_select_14 : decode prog_14_method_31_code 14 = .ok (.ifCond .eq 23, 3) := by decide +kernel
theorem dq_Md_select_17 : decode prog_14_method_31_code 17 = .ok (.aload_n 0, 1) := by decide +kernel
theorem dq_Md_select_18 : decode prog_14_method_31_code 18 = .ok (.iload_n 1, 1) := by decide +kernel
theorem dq_Md_select_19 : decode prog_14_method_31_code 19 = .ok (.iconst 0, 1) := by decide +kernel
theorem dq_Md_select_20 : decode prog_14_method_31_code 20 = .ok (.iload 4, 2) := by decide +kernel
theorem dq_Md_select_22 : decode prog_14_method_31_code 22 = .ok (.invokevirtual 294, 3) := by decide +kernel
theorem dq_Md_select_25 : decode prog_14_method_31_code 25 = .ok (.ifCond .ne 12, 3) := by decide +kernel
theorem dq_Md_select_28 : decode prog_14_method_31_code 28 = .ok (.aload_n 0, 1) := by decide +kernel
theorem dq_Md_select_29 : decode prog_14_method_31_code 29 = .ok (.sipush 412, 3) := by decide +kernel
theorem dq_Md_select_32 : decode prog_14_method_31_code 32 = .ok (.invokevirtual 190, 3) := by decide +kernel
theorem dq_Md_select_35 : decode prog_14_method_31_code 35 = .ok (.pop, 1) := by decide +kernel
theorem dq_Md_select_36 : decode prog_14_method_31_code 36 = .ok (.return_, 1) := by decide +kernel
theorem dq_Md_select_37 : decode prog_14_method_31_code 37 = .ok (.aload_n 0, 1) := by decide +kernel
theorem dq_Md_select_38 : decode prog_14_method_31_code 38 = .ok (.iload_n 1, 1) := by decide +kernel
theorem dq_Md_select_39 : decode prog_14_method_31_code 39 = .ok (.iconst 1, 1) := by decide +kernel
theorem dq_Md_select_40 : decode prog_14_method_31_code 40 = .ok (.invokevirtual 258, 3) := by decide +kernel
theorem dq_Md_select_43 : decode prog_14_method_31_code 43 = .ok (.ifCond .eq 30, 3) := by decide +kernel
theorem dq_Md_select_46 : decode prog_14_method_31_code 46 = .ok (.aload_n 0, 1) := by decide +kernel
theorem dq_Md_select_47 : decode prog_14_method_31_code 47 = .ok (.iload_n 1, 1) := by decide +kernel
theorem dq_Md_select_48 : decode prog_14_method_31_code 48 = .ok (.iconst 1, 1) := by decide +kernel
theorem dq_Md_select_49 : decode prog_14_method_31_code 49 = .ok (.iload 4, 2) := by decide +kernel
theorem dq_Md_select_51 : decode prog_14_method_31_code 51 = .ok (.invokevirtual 294, 3) := by decide +kernel
theorem dq_Md_select_54 : decode prog_14_method_31_code 54 = .ok (.ifCond .eq 19, 3) := by decide +kernel
theorem dq_Md_select_57 : decode prog_14_method_31_code 57 = .ok (.aload_n 0, 1) := by decide +kernel
theorem dq_Md_select_58 : decode prog_14_method_31_code 58 = .ok (.sipush 304, 3) := by decide +kernel
theorem dq_Md_select_61 : decode prog_14_method_31_code 61 = .ok (.iload_n 2, 1) := by decide +kernel
theorem dq_Md_select_62 : decode prog_14_method_31_code 62 = .ok (.iload_n 3, 1) := by decide +kernel
theorem dq_Md_select_63 : decode prog_14_method_31_code 63 = .ok (.invokevirtual 290, 3) := by decide +kernel
theorem dq_Md_select_66 : decode prog_14_method_31_code 66 = .ok (.aload_n 0, 1) := by decide +kernel
theorem dq_Md_select_67 : decode prog_14_method_31_code 67 = .ok (.bipush 10, 2) := by decide +kernel
theorem dq_Md_select_69 : decode prog_14_method_31_code 69 = .ok (.invokevirtual 270, 3) := by decide +kernel
theorem dq_Md_select_72 : decode prog_14_method_31_code 72 = .ok (.return_, 1) := by decide +kernel
theorem dq_Md_select_73 : decode prog_14_method_31_code 73 = .ok (.aload_n 0, 1) := by decide +kernel
theorem dq_Md_select_74 : decode prog_14_method_31_code 74 = .ok (.getfield 41, 3) := by decide +kernel
theorem dq_Md_select_77 : decode prog_14_method_31_code 77 = .ok (.iload_n 1, 1) := by decide +kernel
theorem dq_Md_select_78 : decode prog_14_method_31_code 78 = .ok (.iaload, 1) := by decide +kernel
theorem dq_Md_select_79 : decode prog_14_method_31_code 79 = .ok (.ifCond .ne 56, 3) := by decide +kernel
theorem dq_Md_select_82 : decode prog_14_method_31_code 82 = .ok (.aload_n 0, 1) := by decide +kernel
theorem dq_Md_select_83 : decode prog_14_method_31_code 83 = .ok (.iload_n 1, 1) := by decide +kernel
theorem dq_Md_select_84 : decode prog_14_method_31_code 84 = .ok (.iconst 2, 1) := by decide +kernel
theorem dq_Md_select_85 : decode prog_14_method_31_code 85 = .ok (.invokevirtual 258, 3) := by decide +kernel
theorem dq_Md_select_88 : decode prog_14_method_31_code 88 = .ok (.ifCond .eq 47, 3) := by decide +kernel
theorem dq_Md_select_91 : decode prog_14_method_31_code 91 = .ok (.aload_n 0, 1) := by decide +kernel
theorem dq_Md_select_92 : decode prog_14_method_31_code 92 = .ok (.iload_n 1, 1) := by decide +kernel
theorem dq_Md_select_93 : decode prog_14_method_31_code 93 = .ok (.iconst 3, 1) := by decide +kernel
theorem dq_Md_select_94 : decode prog_14_method_31_code 94 = .ok (.invokevirtual 258, 3) := by decide +kernel
theorem dq_Md_select_97 : decode prog_14_method_31_code 97 = .ok (.ifCond .eq 34, 3) := by decide +kernel
theorem dq_Md_select_100 : decode prog_14_method_31_code 100 = .ok (.aload_n 0, 1) := by decide +kernel
theorem dq_Md_select_101 : decode prog_14_method_31_code 101 = .ok (.getfield 51, 3) := by decide +kernel
theorem dq_Md_select_104 : decode prog_14_method_31_code 104 = .ok (.bipush 8, 2) := by decide +kernel
theorem dq_Md_select_106 : decode prog_14_method_31_code 106 = .ok (.iload_n 1, 1) := by decide +kernel
theorem dq_Md_select_107 : decode prog_14_method_31_code 107 = .ok (.imul, 1) := by decide +kernel
theorem dq_Md_select_108 : decode prog_14_method_31_code 108 = .ok (.iconst 3, 1) := by decide +kernel
theorem dq_Md_select_109 : decode prog_14_method_31_code 109 = .ok (.iadd, 1) := by decide +kernel
theorem dq_Md_select_110 : decode prog_14_method_31_code 110 = .ok (.laload, 1) := by decide +kernel
theorem dq_Md_select_111 : decode prog_14_method_31_code 111 = .ok (.iconst 0, 1) := by decide +kernel
theorem dq_Md_select_112 : decode prog_14_method_31_code 112 = .ok (.aload_n 0, 1) := by decide +kernel
theorem dq_Md_select_113 : decode prog_14_method_31_code 113 = .ok (.getfield 54, 3) := by decide +kernel
theorem dq_Md_select_116 : decode prog_14_method_31_code 116 = .ok (.bipush 8, 2) := by decide +kernel
theorem dq_Md_select_118 : decode prog_14_method_31_code 118 = .ok (.iload_n 1, 1) := by decide +kernel
theorem dq_Md_select_119 : decode prog_14_method_31_code 119 = .ok (.imul, 1) := by decide +kernel
theorem dq_Md_select_120 : decode prog_14_method_31_code 120 = .ok (.iconst 3, 1) := by decide +kernel
theorem dq_Md_select_121 : decode prog_14_method_31_code 121 = .ok (.iadd, 1) := by decide +kernel
theorem dq_Md_select_122 : decode prog_14_method_31_code 122 = .ok (.iaload, 1) := by decide +kernel
theorem dq_Md_select_123 : decode prog_14_method_31_code 123 = .ok (.invokestatic 248, 3) := by decide +kernel
theorem dq_Md_select_126 : decode prog_14_method_31_code 126 = .ok (.iload 4, 2) := by decide +kernel
theorem dq_Md_select_128 : decode prog_14_method_31_code 128 = .ok (.if_icmp .ne 7, 3) := by decide +kernel
theorem dq_Md_select_131 : decode prog_14_method_31_code 131 = .ok (.iconst 1, 1) := by decide +kernel
theorem dq_Md_select_132 : decode prog_14_method_31_code 132 = .ok (.goto 4, 3) := by decide +kernel
theorem dq_Md_select_135 : decode prog_14_method_31_code 135 = .ok (.iconst 0, 1) := by decide +kernel
theorem dq_Md_select_136 : decode prog_14_method_31_code 136 = .ok (.istore 5, 2) := by decide +kernel
theorem dq_Md_select_138 : decode prog_14_method_31_code 138 = .ok (.iload 5, 2) := by decide +kernel
theorem dq_Md_select_140 : decode prog_14_method_31_code 140 = .ok (.ifCond .eq 38, 3) := by decide +kernel
theorem dq_Md_select_143 : decode prog_14_method_31_code 143 = .ok (.aload_n 0, 1) := by decide +kernel
theorem dq_Md_select_144 : decode prog_14_method_31_code 144 = .ok (.aload_n 0, 1) := by decide +kernel
theorem dq_Md_select_145 : decode prog_14_method_31_code 145 = .ok (.getfield 51, 3) := by decide +kernel
theorem dq_Md_select_148 : decode prog_14_method_31_code 148 = .ok (.bipush 8, 2) := by decide +kernel
theorem dq_Md_select_150 : decode prog_14_method_31_code 150 = .ok (.iload_n 1, 1) := by decide +kernel
theorem dq_Md_select_151 : decode prog_14_method_31_code 151 = .ok (.imul, 1) := by decide +kernel
theorem dq_Md_select_152 : decode prog_14_method_31_code 152 = .ok (.iconst 2, 1) := by decide +kernel
theorem dq_Md_select_153 : decode prog_14_method_31_code 153 = .ok (.iadd, 1) := by decide +kernel
theorem dq_Md_select_154 : decode prog_14_method_31_code 154 = .ok (.laload, 1) := by decide +kernel
theorem dq_Md_select_155 : decode prog_14_method_31_code 155 = .ok (.aload_n 0, 1) := by decide +kernel
theorem dq_Md_select_156 : decode prog_14_method_31_code 156 = .ok (.getfield 54, 3) := by decide +kernel
theorem dq_Md_select_159 : decode prog_14_method_31_code 159 = .ok (.bipush 8, 2) := by decide +kernel
theorem dq_Md_select_161 : decode prog_14_method_31_code 161 = .ok (.iload_n 1, 1) := by decide +kernel
theorem dq_Md_select_162 : decode prog_14_method_31_code 162 = .ok (.imul, 1) := by decide +kernel
theorem dq_Md_select_163 : decode prog_14_method_31_code 163 = .ok (.iconst 2, 1) := by decide +kernel
theorem dq_Md_select_164 : decode prog_14_method_31_code 164 = .ok (.iadd, 1) := by decide +kernel
theorem dq_Md_select_165 : decode prog_14_method_31_code 165 = .ok (.iaload, 1) := by decide +kernel
theorem dq_Md_select_166 : decode prog_14_method_31_code 166 = .ok (.aload_n 0, 1) := by decide +kernel
theorem dq_Md_select_167 : decode prog_14_method_31_code 167 = .ok (.getfield 105, 3) := by decide +kernel
theorem dq_Md_select_170 : decode prog_14_method_31_code 170 = .ok (.iload_n 2, 1) := by decide +kernel
theorem dq_Md_select_171 : decode prog_14_method_31_code 171 = .ok (.iaload, 1) := by decide +kernel
theorem dq_Md_select_172 : decode prog_14_method_31_code 172 = .ok (.invokevirtual 298, 3) := by decide +kernel
theorem dq_Md_select_175 : decode prog_14_method_31_code 175 = .ok (.goto 4, 3) := by decide +kernel
theorem dq_Md_select_178 : decode prog_14_method_31_code 178 = .ok (.iconst (-1), 1) := by decide +kernel
theorem dq_Md_select_179 : decode prog_14_method_31_code 179 = .ok (.istore 6, 2) := by decide +kernel
theorem dq_Md_select_181 : decode prog_14_method_31_code 181 = .ok (.iload 6, 2) := by decide +kernel
theorem dq_Md_select_183 : decode prog_14_method_31_code 183 = .ok (.ifCond .ge 26, 3) := by decide +kernel
theorem dq_Md_select_186 : decode prog_14_method_31_code 186 = .ok (.aload_n 0, 1) := by decide +kernel
theorem dq_Md_select_187 : decode prog_14_method_31_code 187 = .ok (.iload_n 2, 1) := by decide +kernel
theorem dq_Md_select_188 : decode prog_14_method_31_code 188 = .ok (.iload_n 3, 1) := by decide +kernel
theorem dq_Md_select_189 : decode prog_14_method_31_code 189 = .ok (.aload_n 0, 1) := by decide +kernel
theorem dq_Md_select_190 : decode prog_14_method_31_code 190 = .ok (.getfield 41, 3) := by decide +kernel
theorem dq_Md_select_193 : decode prog_14_method_31_code 193 = .ok (.iload_n 1, 1) := by decide +kernel
theorem dq_Md_select_194 : decode prog_14_method_31_code 194 = .ok (.iaload, 1) := by decide +kernel
theorem dq_Md_select_195 : decode prog_14_method_31_code 195 = .ok (.ifCond .ne 7, 3) := by decide +kernel
theorem dq_Md_select_198 : decode prog_14_method_31_code 198 = .ok (.iconst 1, 1) := by decide +kernel
theorem dq_Md_select_199 : decode prog_14_method_31_code 199 = .ok (.goto 4, 3) := by decide +kernel
theorem dq_Md_select_202 : decode prog_14_method_31_code 202 = .ok (.iconst 0, 1) := by decide +kernel
theorem dq_Md_select_203 : decode prog_14_method_31_code 203 = .ok (.invokevirtual 301, 3) := by decide +kernel
theorem dq_Md_select_206 : decode prog_14_method_31_code 206 = .ok (.goto 73, 3) := by decide +kernel
theorem dq_Md_select_209 : decode prog_14_method_31_code 209 = .ok (.iload 6, 2) := by decide +kernel
theorem dq_Md_select_211 : decode prog_14_method_31_code 211 = .ok (.ifCond .ne 60, 3) := by decide +kernel
theorem dq_Md_select_214 : decode prog_14_method_31_code 214 = .ok (.aload_n 0, 1) := by decide +kernel
theorem dq_Md_select_215 : decode prog_14_method_31_code 215 = .ok (.sipush 416, 3) := by decide +kernel
theorem dq_Md_select_218 : decode prog_14_method_31_code 218 = .ok (.invokevirtual 280, 3) := by decide +kernel
theorem dq_Md_select_221 : decode prog_14_method_31_code 221 = .ok (.aload_n 0, 1) := by decide +kernel
theorem dq_Md_select_222 : decode prog_14_method_31_code 222 = .ok (.bipush 82, 2) := by decide +kernel
theorem dq_Md_select_224 : decode prog_14_method_31_code 224 = .ok (.invokevirtual 274, 3) := by decide +kernel
theorem dq_Md_select_227 : decode prog_14_method_31_code 227 = .ok (.aload_n 0, 1) := by decide +kernel
theorem dq_Md_select_228 : decode prog_14_method_31_code 228 = .ok (.bipush 42, 2) := by decide +kernel
theorem dq_Md_select_230 : decode prog_14_method_31_code 230 = .ok (.invokevirtual 270, 3) := by decide +kernel
theorem dq_Md_select_233 : decode prog_14_method_31_code 233 = .ok (.aload_n 0, 1) := by decide +kernel
theorem dq_Md_select_234 : decode prog_14_method_31_code 234 = .ok (.bipush 47, 2) := by decide +kernel
theorem dq_Md_select_236 : decode prog_14_method_31_code 236 = .ok (.invokevirtual 270, 3) := by decide +kernel
theorem dq_Md_select_239 : decode prog_14_method_31_code 239 = .ok (.aload_n 0, 1) := by decide +kernel
theorem dq_Md_select_240 : decode prog_14_method_31_code 240 = .ok (.aload_n 0, 1) := by decide +kernel
theorem dq_Md_select_241 : decode prog_14_method_31_code 241 = .ok (.getfield 105, 3) := by decide +kernel
theorem dq_Md_select_244 : decode prog_14_method_31_code 244 = .ok (.iload_n 2, 1) := by decide +kernel
theorem dq_Md_select_245 : decode prog_14_method_31_code 245 = .ok (.iaload, 1) := by decide +kernel
theorem dq_Md_select_246 : decode prog_14_method_31_code 246 = .ok (.invokevirtual 277, 3) := by decide +kernel
theorem dq_Md_select_249 : decode prog_14_method_31_code 249 = .ok (.aload_n 0, 1) := by decide +kernel
theorem dq_Md_select_250 : decode prog_14_method_31_code 250 = .ok (.bipush 10, 2) := by decide +kernel
theorem dq_Md_select_252 : decode prog_14_method_31_code 252 = .ok (.invokevirtual 270, 3) := by decide +kernel
theorem dq_Md_select_255 : decode prog_14_method_31_code 255 = .ok (.aload_n 0, 1) := by decide +kernel
theorem dq_Md_select_256 : decode prog_14_method_31_code 256 = .ok (.bipush 76, 2) := by decide +kernel
theorem dq_Md_select_258 : decode prog_14_method_31_code 258 = .ok (.iconst 0, 1) := by decide +kernel
theorem dq_Md_select_259 : decode prog_14_method_31_code 259 = .ok (.invokevirtual 283, 3) := by decide +kernel
theorem dq_Md_select_262 : decode prog_14_method_31_code 262 = .ok (.aload_n 0, 1) := by decide +kernel
theorem dq_Md_select_263 : decode prog_14_method_31_code 263 = .ok (.bipush 10, 2) := by decide +kernel
theorem dq_Md_select_265 : decode prog_14_method_31_code 265 = .ok (.invokevirtual 270, 3) := by decide +kernel
theorem dq_Md_select_268 : decode prog_14_method_31_code 268 = .ok (.goto 11, 3) := by decide +kernel
theorem dq_Md_select_271 : decode prog_14_method_31_code 271 = .ok (.aload_n 0, 1) := by decide +kernel
theorem dq_Md_select_272 : decode prog_14_method_31_code 272 = .ok (.iload_n 2, 1) := by decide +kernel
theorem dq_Md_select_273 : decode prog_14_method_31_code 273 = .ok (.iload_n 3, 1) := by decide +kernel
theorem dq_Md_select_274 : decode prog_14_method_31_code 274 = .ok (.iload 6, 2) := by decide +kernel
theorem dq_Md_select_276 : decode prog_14_method_31_code 276 = .ok (.invokevirtual 305, 3) := by decide +kernel
theorem dq_Md_select_279 : decode prog_14_method_31_code 279 = .ok (.return_, 1) := by decide +kernel
set_option maxRecDepth 100000 in
def pq_Md_select_279 (E : wo_E) (mc ms : Nat) (Post : wo_W → Prop) (G : wo_W) (c s : Nat) : Prop := Post G
set_option maxRecDepth 100000 in
def pq_Md_select_203 (E : wo_E) (mc ms : Nat) (Post : wo_W → Prop) (G : wo_W) (c s : Nat) (y0 : Nat) (y1 : Int32) (y2 : Int32) (y3 : Int32) : Prop := wo_ty G y0 = 15 ∧ ∃ mc2 ms3 : Nat, (c + mc2) ≤ mc ∧ (s + ms3) ≤ ms ∧ pq_Md_whole E mc2 ms3 (fun G4 => 
  pq_Md_select_279 E mc ms Post G4 (c + mc2) (s + ms3)) G y0 y1 y2 y3
set_option maxRecDepth 100000 in
def pq_Md_select_179 (E : wo_E) (mc ms : Nat) (Post : wo_W → Prop) (G : wo_W) (c s : Nat) (x0 : Nat) (x1 : Int32) (x2 : Int32) (x3 : Int32) (y0 : Int32) : Prop := (((0 : Int32) ≤ y0 → ((¬ y0 = (0 : Int32) → wo_ty G x0 = 15 ∧ ∃ mc2 ms3 : Nat, (c + mc2) ≤ mc ∧ (s + ms3) ≤ ms ∧ pq_Md_part E mc2 ms3 (fun G4 => 
      pq_Md_select_279 E mc ms Post G4 (c + mc2) (s + ms3)) G x0 x2 x3 y0) ∧
    (y0 = (0 : Int32) → wo_ty G x0 = 15 ∧ ∃ mc6 ms7 : Nat, (c + mc6) ≤ mc ∧ (s + ms7) ≤ ms ∧ pq_Md_begin E mc6 ms7 (fun G8 => 
      wo_ty G8 x0 = 15 ∧ ∃ mc10 ms11 : Nat, ((c + mc6) + mc10) ≤ mc ∧ ((s + ms7) + ms11) ≤ ms ∧ pq_Md_name E mc10 ms11 (fun G12 => 
        wo_ty G12 x0 = 15 ∧ ∃ mc14 ms15 : Nat, (((c + mc6) + mc10) + mc14) ≤ mc ∧ (((s + ms7) + ms11) + ms15) ≤ ms ∧ pq_Md_put E mc14 ms15 (fun G16 => 
          wo_ty G16 x0 = 15 ∧ ∃ mc18 ms19 : Nat, ((((c + mc6) + mc10) + mc14) + mc18) ≤ mc ∧ ((((s + ms7) + ms11) + ms15) + ms19) ≤ ms ∧ pq_Md_put E mc18 ms19 (fun G20 => 
            wo_ty G20 x0 = 15 ∧ ∀ r22 : Option Nat, r22 = wo_gr G20 931 x0 → ∃ a24 : Nat, r22 = some a24 ∧ wo_ty G20 a24 = 66 ∧ vp_in x2 (wo_len G20 a24) ∧ ∃ mc27 ms28 : Nat, (((((c + mc6) + mc10) + mc14) + mc18) + mc27) ≤ mc ∧ (((((s + ms7) + ms11) + ms15) + ms19) + ms28) ≤ ms ∧ pq_Md_putNumber E mc27 ms28 (fun G29 => 
              wo_ty G29 x0 = 15 ∧ ∃ mc31 ms32 : Nat, ((((((c + mc6) + mc10) + mc14) + mc18) + mc27) + mc31) ≤ mc ∧ ((((((s + ms7) + ms11) + ms15) + ms19) + ms28) + ms32) ≤ ms ∧ pq_Md_put E mc31 ms32 (fun G33 => 
                wo_ty G33 x0 = 15 ∧ ∃ mc35 ms36 : Nat, (((((((c + mc6) + mc10) + mc14) + mc18) + mc27) + mc31) + mc35) ≤ mc ∧ (((((((s + ms7) + ms11) + ms15) + ms19) + ms28) + ms32) + ms36) ≤ ms ∧ pq_Md_putLine E mc35 ms36 (fun G37 => 
                  wo_ty G37 x0 = 15 ∧ ∃ mc39 ms40 : Nat, ((((((((c + mc6) + mc10) + mc14) + mc18) + mc27) + mc31) + mc35) + mc39) ≤ mc ∧ ((((((((s + ms7) + ms11) + ms15) + ms19) + ms28) + ms32) + ms36) + ms40) ≤ ms ∧ pq_Md_put E mc39 ms40 (fun G41 => 
                    pq_Md_select_279 E mc ms Post G41 ((((((((c + mc6) + mc10) + mc14) + mc18) + mc27) + mc31) + mc35) + mc39) ((((((((s + ms7) + ms11) + ms15) + ms19) + ms28) + ms32) + ms36) + ms40)) G37 x0 (10 : Int32)) G33 x0 (76 : Int32) (0 : Int32)) G29 x0 (10 : Int32)) G20 x0 (wo_ei G20 a24 x2.toNatClampNeg)) G16 x0 (47 : Int32)) G12 x0 (42 : Int32)) G8 x0 (82 : Int32)) G x0 (416 : Int32)))) ∧
  (¬ (0 : Int32) ≤ y0 → wo_ty G x0 = 15 ∧ ∀ r43 : Option Nat, r43 = wo_gr G 907 x0 → ∃ a45 : Nat, r43 = some a45 ∧ wo_ty G a45 = 66 ∧ vp_in x1 (wo_len G a45) ∧ ((¬ (wo_ei G a45 x1.toNatClampNeg) = (0 : Int32) → pq_Md_select_203 E mc ms Post G c s x0 x2 x3 (0 : Int32)) ∧
    ((wo_ei G a45 x1.toNatClampNeg) = (0 : Int32) → pq_Md_select_203 E mc ms Post G c s x0 x2 x3 (1 : Int32)))))
set_option maxRecDepth 100000 in
def pq_Md_select_136 (E : wo_E) (mc ms : Nat) (Post : wo_W → Prop) (G : wo_W) (c s : Nat) (x0 : Nat) (x1 : Int32) (x2 : Int32) (x3 : Int32) (y0 : Int32) : Prop := ((y0 = (0 : Int32) → pq_Md_select_179 E mc ms Post G c s x0 x1 x2 x3 (-1 : Int32)) ∧
  (¬ y0 = (0 : Int32) → wo_ty G x0 = 15 ∧ ∀ r2 : Option Nat, r2 = wo_gr G 910 x0 → ∃ a4 : Nat, r2 = some a4 ∧ wo_ty G a4 = 73 ∧ vp_in (((8 : Int32) * x1) + (2 : Int32)) (wo_len G a4) ∧ ∀ r7 : Option Nat, r7 = wo_gr G 911 x0 → ∃ a9 : Nat, r7 = some a9 ∧ wo_ty G a9 = 66 ∧ vp_in (((8 : Int32) * x1) + (2 : Int32)) (wo_len G a9) ∧ ∀ r12 : Option Nat, r12 = wo_gr G 931 x0 → ∃ a14 : Nat, r12 = some a14 ∧ wo_ty G a14 = 66 ∧ vp_in x2 (wo_len G a14) ∧ ∃ mc17 ms18 : Nat, (c + mc17) ≤ mc ∧ (s + ms18) ≤ ms ∧ pq_Md_pieces E mc17 ms18 (fun v20 G19 => 
    pq_Md_select_179 E mc ms Post G19 (c + mc17) (s + ms18) x0 x1 x2 x3 v20) G x0 (wo_el G a4 (((8 : Int32) * x1) + (2 : Int32)).toNatClampNeg) (wo_ei G a9 (((8 : Int32) * x1) + (2 : Int32)).toNatClampNeg) (wo_ei G a14 x2.toNatClampNeg)))
set_option maxRecDepth 100000 in
def pq_Md_select_135 (E : wo_E) (mc ms : Nat) (Post : wo_W → Prop) (G : wo_W) (c s : Nat) (x0 : Nat) (x1 : Int32) (x2 : Int32) (x3 : Int32) : Prop := pq_Md_select_136 E mc ms Post G c s x0 x1 x2 x3 (0 : Int32)
set_option maxRecDepth 100000 in
def pq_Md_select_131 (E : wo_E) (mc ms : Nat) (Post : wo_W → Prop) (G : wo_W) (c s : Nat) (x0 : Nat) (x1 : Int32) (x2 : Int32) (x3 : Int32) : Prop := pq_Md_select_136 E mc ms Post G c s x0 x1 x2 x3 (1 : Int32)
set_option maxRecDepth 100000 in
def pq_Md_select_73 (E : wo_E) (mc ms : Nat) (Post : wo_W → Prop) (G : wo_W) (c s : Nat) (x0 : Nat) (x1 : Int32) (x2 : Int32) (x3 : Int32) (x4 : Int32) : Prop := wo_ty G x0 = 15 ∧ ∀ r2 : Option Nat, r2 = wo_gr G 907 x0 → ∃ a4 : Nat, r2 = some a4 ∧ wo_ty G a4 = 66 ∧ vp_in x1 (wo_len G a4) ∧ ((¬ (wo_ei G a4 x1.toNatClampNeg) = (0 : Int32) → pq_Md_select_135 E mc ms Post G c s x0 x1 x2 x3) ∧
  ((wo_ei G a4 x1.toNatClampNeg) = (0 : Int32) → ∃ mc7 ms8 : Nat, (c + mc7) ≤ mc ∧ (s + ms8) ≤ ms ∧ pq_Md_has E mc7 ms8 (fun v10 G9 => 
    ((v10 = (0 : Int32) → pq_Md_select_135 E mc ms Post G9 (c + mc7) (s + ms8) x0 x1 x2 x3) ∧
      (¬ v10 = (0 : Int32) → wo_ty G9 x0 = 15 ∧ ∃ mc12 ms13 : Nat, ((c + mc7) + mc12) ≤ mc ∧ ((s + ms8) + ms13) ≤ ms ∧ pq_Md_has E mc12 ms13 (fun v15 G14 => 
        ((v15 = (0 : Int32) → pq_Md_select_131 E mc ms Post G14 ((c + mc7) + mc12) ((s + ms8) + ms13) x0 x1 x2 x3) ∧
          (¬ v15 = (0 : Int32) → wo_ty G14 x0 = 15 ∧ ∀ r17 : Option Nat, r17 = wo_gr G14 910 x0 → ∃ a19 : Nat, r17 = some a19 ∧ wo_ty G14 a19 = 73 ∧ vp_in (((8 : Int32) * x1) + (3 : Int32)) (wo_len G14 a19) ∧ ∀ r22 : Option Nat, r22 = wo_gr G14 911 x0 → ∃ a24 : Nat, r22 = some a24 ∧ wo_ty G14 a24 = 66 ∧ vp_in (((8 : Int32) * x1) + (3 : Int32)) (wo_len G14 a24) ∧ ∃ mc27 ms28 : Nat, (((c + mc7) + mc12) + mc27) ≤ mc ∧ (((s + ms8) + ms13) + ms28) ≤ ms ∧ pq_Md_digits E mc27 ms28 (fun v30 G29 => 
            ((¬ v30 = x4 → pq_Md_select_135 E mc ms Post G29 (((c + mc7) + mc12) + mc27) (((s + ms8) + ms13) + ms28) x0 x1 x2 x3) ∧
              (v30 = x4 → pq_Md_select_131 E mc ms Post G29 (((c + mc7) + mc12) + mc27) (((s + ms8) + ms13) + ms28) x0 x1 x2 x3))) G14 (wo_el G14 a19 (((8 : Int32) * x1) + (3 : Int32)).toNatClampNeg) (0 : Int32) (wo_ei G14 a24 (((8 : Int32) * x1) + (3 : Int32)).toNatClampNeg)))) G9 x0 x1 (3 : Int32)))) G x0 x1 (2 : Int32)))
set_option maxRecDepth 100000 in
def pq_Md_select_37 (E : wo_E) (mc ms : Nat) (Post : wo_W → Prop) (G : wo_W) (c s : Nat) (x0 : Nat) (x1 : Int32) (x2 : Int32) (x3 : Int32) (x4 : Int32) : Prop := wo_ty G x0 = 15 ∧ ∃ mc2 ms3 : Nat, (c + mc2) ≤ mc ∧ (s + ms3) ≤ ms ∧ pq_Md_has E mc2 ms3 (fun v5 G4 => 
  ((v5 = (0 : Int32) → pq_Md_select_73 E mc ms Post G4 (c + mc2) (s + ms3) x0 x1 x2 x3 x4) ∧
    (¬ v5 = (0 : Int32) → wo_ty G4 x0 = 15 ∧ ∃ mc7 ms8 : Nat, ((c + mc2) + mc7) ≤ mc ∧ ((s + ms3) + ms8) ≤ ms ∧ pq_Md_matches E mc7 ms8 (fun v10 G9 => 
      ((v10 = (0 : Int32) → pq_Md_select_73 E mc ms Post G9 ((c + mc2) + mc7) ((s + ms3) + ms8) x0 x1 x2 x3 x4) ∧
        (¬ v10 = (0 : Int32) → wo_ty G9 x0 = 15 ∧ ∃ mc12 ms13 : Nat, (((c + mc2) + mc7) + mc12) ≤ mc ∧ (((s + ms3) + ms8) + ms13) ≤ ms ∧ pq_Md_head E mc12 ms13 (fun G14 => 
          wo_ty G14 x0 = 15 ∧ ∃ mc16 ms17 : Nat, ((((c + mc2) + mc7) + mc12) + mc16) ≤ mc ∧ ((((s + ms3) + ms8) + ms13) + ms17) ≤ ms ∧ pq_Md_put E mc16 ms17 (fun G18 => 
            Post G18) G14 x0 (10 : Int32)) G9 x0 (304 : Int32) x2 x3))) G4 x0 x1 (1 : Int32) x4))) G x0 x1 (1 : Int32)
set_option maxRecDepth 100000 in
def pq_Md_select_0 (E : wo_E) (mc ms : Nat) (Post : wo_W → Prop) (G : wo_W) (c s : Nat) (x0 : Nat) (x1 : Int32) (x2 : Int32) (x3 : Int32) : Prop := wo_ty G x0 = 15 ∧ ∀ r2 : Option Nat, r2 = wo_gr G 932 x0 → ∃ a4 : Nat, r2 = some a4 ∧ wo_ty G a4 = 66 ∧ vp_in x2 (wo_len G a4) ∧ ∃ mc7 ms8 : Nat, (c + mc7) ≤ mc ∧ (s + ms8) ≤ ms ∧ pq_Md_has E mc7 ms8 (fun v10 G9 => 
  ((v10 = (0 : Int32) → pq_Md_select_37 E mc ms Post G9 (c + mc7) (s + ms8) x0 x1 x2 x3 (wo_ei G a4 x2.toNatClampNeg)) ∧
    (¬ v10 = (0 : Int32) → wo_ty G9 x0 = 15 ∧ ∃ mc12 ms13 : Nat, ((c + mc7) + mc12) ≤ mc ∧ ((s + ms8) + ms13) ≤ ms ∧ pq_Md_matches E mc12 ms13 (fun v15 G14 => 
      ((¬ v15 = (0 : Int32) → pq_Md_select_37 E mc ms Post G14 ((c + mc7) + mc12) ((s + ms8) + ms13) x0 x1 x2 x3 (wo_ei G a4 x2.toNatClampNeg)) ∧
        (v15 = (0 : Int32) → wo_ty G14 x0 = 15 ∧ ∃ mc17 ms18 : Nat, (((c + mc7) + mc12) + mc17) ≤ mc ∧ (((s + ms8) + ms13) + ms18) ≤ ms ∧ pq_Md_plain E mc17 ms18 (fun v20 G19 => 
          Post G19) G14 x0 (412 : Int32)))) G9 x0 x1 (0 : Int32) (wo_ei G a4 x2.toNatClampNeg)))) G x0 x1 (0 : Int32)
def pq_Md_select (E : wo_E) (mc ms : Nat) (Post : wo_W → Prop) (G : wo_W) (x0 : Nat) (x1 : Int32) (x2 : Int32) (x3 : Int32) : Prop := pq_Md_select_0 E mc ms Post G 0 0 x0 x1 x2 x3
set_option maxRecDepth 100000 in
set_option maxHeartbeats 4000000 in
theorem tq_Md_select_279 {p : Program} {l : Launch} {e : Env} {R : Room} {s₀ : State} {m : MethodId} {args : Array Value} {below : List Frame} {meth : Method} {cd : Code} {E : wo_E} {mc ms : Nat} {Post : wo_W → Prop} (hC : wo_Cx E "EdgeCacheModel" prog_14_method_31_code 7 5 112 ((Option.none : Option Jvm.ClassFile.FieldType)) "select" mc ms p R s₀ m args meth cd) : ∀ {G : wo_W} {c s : Nat}, pq_Md_select_279 E mc ms Post G c s → ∀ {H : Heap} {locs : List Loc} {ls : Array Slot}, wo_Se E G H → va_S (en_A E) s₀.heap H locs → lx_has ls 7 [] → c ≤ mc → s ≤ ms → W p l e R s₀ m args below meth cd H locs c s (MQ below (va_Qv Post (wo_B E) (en_A E)) args s₀ mc ms (en_A E)) (F0 m 279 ls []) := by
  intro G c s hw H locs ls hG hS hl hcc hss
  dsimp only [pq_Md_select_279] at hw
  have hx := hC.1
  have hb := hC.2.1
  exact wo_vret hC hG hS hcc hss hw dq_Md_select_279
set_option maxRecDepth 100000 in
set_option maxHeartbeats 4000000 in
theorem tq_Md_select_203 {p : Program} {l : Launch} {e : Env} {R : Room} {s₀ : State} {m : MethodId} {args : Array Value} {below : List Frame} {meth : Method} {cd : Code} {E : wo_E} {mc ms : Nat} {Post : wo_W → Prop} (hC : wo_Cx E "EdgeCacheModel" prog_14_method_31_code 7 5 112 ((Option.none : Option Jvm.ClassFile.FieldType)) "select" mc ms p R s₀ m args meth cd) : ∀ {G : wo_W} {c s : Nat} {y0 : Nat} {y1 : Int32} {y2 : Int32} {y3 : Int32}, pq_Md_select_203 E mc ms Post G c s y0 y1 y2 y3 → ∀ {H : Heap} {locs : List Loc} {ls : Array Slot}, wo_Se E G H → va_S (en_A E) s₀.heap H locs → lx_has ls 7 [] → c ≤ mc → s ≤ ms → W p l e R s₀ m args below meth cd H locs c s (MQ below (va_Qv Post (wo_B E) (en_A E)) args s₀ mc ms (en_A E)) (F0 m 203 ls [.int y3, .int y2, .int y1, .ref y0]) := by
  intro G c s y0 y1 y2 y3 hw H locs ls hG hS hl hcc hss
  dsimp only [pq_Md_select_203] at hw
  have hx := hC.1
  have hb := hC.2.1
  obtain ⟨t1, hw⟩ := hw
  obtain ⟨mc2, ms3, hc1, hs1, hw⟩ := hw
  refine va_callv (wo_runV hC lq_Md_301 (mq_Md_whole hw) hG hS t1 rfl (lx_sz hl) rfl (Nat.zero_le _) (by decide) dq_Md_select_203 ⟨hc1, hs1⟩) hS (fun _ _ h => h) (fun _ h => h) (fun G4 t H locs ht hvm hw' hB _ _ hS => ?_)
  clear hw
  have hw := hw'
  clear hw'
  replace hG := wo_bk ht hB
  replace hcc := hc1
  replace hss := hs1
  refine lv_goto (tgt := 279) hx hb dq_Md_select_206 rfl ?_
  exact tq_Md_select_279 hC hw hG hS (lx_sub hl [] rfl) hcc hss
set_option maxRecDepth 100000 in
set_option maxHeartbeats 4000000 in
theorem tq_Md_select_179 {p : Program} {l : Launch} {e : Env} {R : Room} {s₀ : State} {m : MethodId} {args : Array Value} {below : List Frame} {meth : Method} {cd : Code} {E : wo_E} {mc ms : Nat} {Post : wo_W → Prop} (hC : wo_Cx E "EdgeCacheModel" prog_14_method_31_code 7 5 112 ((Option.none : Option Jvm.ClassFile.FieldType)) "select" mc ms p R s₀ m args meth cd) : ∀ {G : wo_W} {c s : Nat} {x0 : Nat} {x1 : Int32} {x2 : Int32} {x3 : Int32} {y0 : Int32}, pq_Md_select_179 E mc ms Post G c s x0 x1 x2 x3 y0 → ∀ {H : Heap} {locs : List Loc} {ls : Array Slot}, wo_Se E G H → va_S (en_A E) s₀.heap H locs → lx_has ls 7 [(0, 1, .ref x0), (1, 1, .int x1), (2, 1, .int x2), (3, 1, .int x3)] → c ≤ mc → s ≤ ms → W p l e R s₀ m args below meth cd H locs c s (MQ below (va_Qv Post (wo_B E) (en_A E)) args s₀ mc ms (en_A E)) (F0 m 179 ls [.int y0]) := by
  intro G c s x0 x1 x2 x3 y0 hw H locs ls hG hS hl hcc hss
  dsimp only [pq_Md_select_179] at hw
  have hx := hC.1
  have hb := hC.2.1
  refine lx_istore (lv' := [(6, 1, .int y0), (0, 1, .ref x0), (1, 1, .int x1), (2, 1, .int x2), (3, 1, .int x3)]) hx hb dq_Md_select_179 hl (by decide) rfl (fun ls hl' => ?_)
  clear hl
  have hl := hl'
  clear hl'
  refine lv_iload hx hb dq_Md_select_181 (lx_at hl 0 rfl) ?_
  refine lv_if_ge (tgt := 209) hx hb dq_Md_select_183 rfl (fun h => ?_) (fun h => ?_)
  · replace hw := hw.1 h
    refine lv_iload hx hb dq_Md_select_209 (lx_at hl 0 rfl) ?_
    refine lv_if_ne (tgt := 271) hx hb dq_Md_select_211 rfl (fun h => ?_) (fun h => ?_)
    · replace hw := hw.1 h
      refine lv_aload_n hx hb dq_Md_select_271 rfl (lx_at hl 1 rfl) ?_
      refine lv_iload_n hx hb dq_Md_select_272 rfl (lx_at hl 3 rfl) ?_
      refine lv_iload_n hx hb dq_Md_select_273 rfl (lx_at hl 4 rfl) ?_
      refine lv_iload hx hb dq_Md_select_274 (lx_at hl 0 rfl) ?_
      obtain ⟨t1, hw⟩ := hw
      obtain ⟨mc2, ms3, hc1, hs1, hw⟩ := hw
      refine va_callv (wo_runV hC lq_Md_305 (mq_Md_part hw) hG hS t1 rfl (lx_sz hl) rfl (Nat.zero_le _) (by decide) dq_Md_select_276 ⟨hc1, hs1⟩) hS (fun _ _ h => h) (fun _ h => h) (fun G4 t H locs ht hvm hw' hB _ _ hS => ?_)
      clear hw
      have hw := hw'
      clear hw'
      replace hG := wo_bk ht hB
      replace hcc := hc1
      replace hss := hs1
      exact tq_Md_select_279 hC hw hG hS (lx_sub hl [] rfl) hcc hss
    · replace hw := hw.2 h
      refine lv_aload_n hx hb dq_Md_select_214 rfl (lx_at hl 1 rfl) ?_
      refine lv_sipush (v := (416 : Int32)) hx hb dq_Md_select_215 rfl ?_
      obtain ⟨t5, hw⟩ := hw
      obtain ⟨mc6, ms7, hc1, hs1, hw⟩ := hw
      refine va_callv (wo_runV hC lq_Md_280 (mq_Md_begin hw) hG hS t5 rfl (lx_sz hl) rfl (Nat.zero_le _) (by decide) dq_Md_select_218 ⟨hc1, hs1⟩) hS (fun _ _ h => h) (fun _ h => h) (fun G8 t H locs ht hvm hw' hB _ _ hS => ?_)
      clear hw
      have hw := hw'
      clear hw'
      replace hG := wo_bk ht hB
      replace hcc := hc1
      replace hss := hs1
      refine lv_aload_n hx hb dq_Md_select_221 rfl (lx_at hl 1 rfl) ?_
      refine lv_bipush (v := (82 : Int32)) hx hb dq_Md_select_222 rfl ?_
      obtain ⟨t9, hw⟩ := hw
      obtain ⟨mc10, ms11, hc1, hs1, hw⟩ := hw
      refine va_callv (wo_runV hC lq_Md_274 (mq_Md_name hw) hG hS t9 rfl (lx_sz hl) rfl (Nat.zero_le _) (by decide) dq_Md_select_224 ⟨hc1, hs1⟩) hS (fun _ _ h => h) (fun _ h => h) (fun G12 t H locs ht hvm hw' hB _ _ hS => ?_)
      clear hw
      have hw := hw'
      clear hw'
      replace hG := wo_bk ht hB
      replace hcc := hc1
      replace hss := hs1
      refine lv_aload_n hx hb dq_Md_select_227 rfl (lx_at hl 1 rfl) ?_
      refine lv_bipush (v := (42 : Int32)) hx hb dq_Md_select_228 rfl ?_
      obtain ⟨t13, hw⟩ := hw
      obtain ⟨mc14, ms15, hc1, hs1, hw⟩ := hw
      refine va_callv (wo_runV hC lq_Md_270 (mq_Md_put hw) hG hS t13 rfl (lx_sz hl) rfl (Nat.zero_le _) (by decide) dq_Md_select_230 ⟨hc1, hs1⟩) hS (fun _ _ h => h) (fun _ h => h) (fun G16 t H locs ht hvm hw' hB _ _ hS => ?_)
      clear hw
      have hw := hw'
      clear hw'
      replace hG := wo_bk ht hB
      replace hcc := hc1
      replace hss := hs1
      refine lv_aload_n hx hb dq_Md_select_233 rfl (lx_at hl 1 rfl) ?_
      refine lv_bipush (v := (47 : Int32)) hx hb dq_Md_select_234 rfl ?_
      obtain ⟨t17, hw⟩ := hw
      obtain ⟨mc18, ms19, hc1, hs1, hw⟩ := hw
      refine va_callv (wo_runV hC lq_Md_270 (mq_Md_put hw) hG hS t17 rfl (lx_sz hl) rfl (Nat.zero_le _) (by decide) dq_Md_select_236 ⟨hc1, hs1⟩) hS (fun _ _ h => h) (fun _ h => h) (fun G20 t H locs ht hvm hw' hB _ _ hS => ?_)
      clear hw
      have hw := hw'
      clear hw'
      replace hG := wo_bk ht hB
      replace hcc := hc1
      replace hss := hs1
      refine lv_aload_n hx hb dq_Md_select_239 rfl (lx_at hl 1 rfl) ?_
      refine lv_aload_n hx hb dq_Md_select_240 rfl (lx_at hl 1 rfl) ?_
      obtain ⟨t21, hw⟩ := hw
      refine wo_getR hC fq_Md_105 rfl hG t21 dq_Md_select_241 (fun r22 e23 => ?_)
      replace hw := hw r22 e23
      refine lv_iload_n hx hb dq_Md_select_244 rfl (lx_at hl 3 rfl) ?_
      obtain ⟨a24, rfl, hw⟩ := hw
      obtain ⟨t25, hw⟩ := hw
      obtain ⟨h26, hw⟩ := hw
      refine wo_iald (j := 2) hC rfl hG t25 h26 dq_Md_select_245 ?_
      obtain ⟨mc27, ms28, hc1, hs1, hw⟩ := hw
      refine va_callv (wo_runV hC lq_Md_277 (mq_Md_putNumber hw) hG hS t21 rfl (lx_sz hl) rfl (Nat.zero_le _) (by decide) dq_Md_select_246 ⟨hc1, hs1⟩) hS (fun _ _ h => h) (fun _ h => h) (fun G29 t H locs ht hvm hw' hB _ _ hS => ?_)
      clear hw
      have hw := hw'
      clear hw'
      replace hG := wo_bk ht hB
      replace hcc := hc1
      replace hss := hs1
      refine lv_aload_n hx hb dq_Md_select_249 rfl (lx_at hl 1 rfl) ?_
      refine lv_bipush (v := (10 : Int32)) hx hb dq_Md_select_250 rfl ?_
      obtain ⟨t30, hw⟩ := hw
      obtain ⟨mc31, ms32, hc1, hs1, hw⟩ := hw
      refine va_callv (wo_runV hC lq_Md_270 (mq_Md_put hw) hG hS t30 rfl (lx_sz hl) rfl (Nat.zero_le _) (by decide) dq_Md_select_252 ⟨hc1, hs1⟩) hS (fun _ _ h => h) (fun _ h => h) (fun G33 t H locs ht hvm hw' hB _ _ hS => ?_)
      clear hw
      have hw := hw'
      clear hw'
      replace hG := wo_bk ht hB
      replace hcc := hc1
      replace hss := hs1
      refine lv_aload_n hx hb dq_Md_select_255 rfl (lx_at hl 1 rfl) ?_
      refine lv_bipush (v := (76 : Int32)) hx hb dq_Md_select_256 rfl ?_
      refine lv_iconst (v := (0 : Int32)) hx hb dq_Md_select_258 rfl ?_
      obtain ⟨t34, hw⟩ := hw
      obtain ⟨mc35, ms36, hc1, hs1, hw⟩ := hw
      refine va_callv (wo_runV hC lq_Md_283 (mq_Md_putLine hw) hG hS t34 rfl (lx_sz hl) rfl (Nat.zero_le _) (by decide) dq_Md_select_259 ⟨hc1, hs1⟩) hS (fun _ _ h => h) (fun _ h => h) (fun G37 t H locs ht hvm hw' hB _ _ hS => ?_)
      clear hw
      have hw := hw'
      clear hw'
      replace hG := wo_bk ht hB
      replace hcc := hc1
      replace hss := hs1
      refine lv_aload_n hx hb dq_Md_select_262 rfl (lx_at hl 1 rfl) ?_
      refine lv_bipush (v := (10 : Int32)) hx hb dq_Md_select_263 rfl ?_
      obtain ⟨t38, hw⟩ := hw
      obtain ⟨mc39, ms40, hc1, hs1, hw⟩ := hw
      refine va_callv (wo_runV hC lq_Md_270 (mq_Md_put hw) hG hS t38 rfl (lx_sz hl) rfl (Nat.zero_le _) (by decide) dq_Md_select_265 ⟨hc1, hs1⟩) hS (fun _ _ h => h) (fun _ h => h) (fun G41 t H locs ht hvm hw' hB _ _ hS => ?_)
      clear hw
      have hw := hw'
      clear hw'
      replace hG := wo_bk ht hB
      replace hcc := hc1
      replace hss := hs1
      refine lv_goto (tgt := 279) hx hb dq_Md_select_268 rfl ?_
      exact tq_Md_select_279 hC hw hG hS (lx_sub hl [] rfl) hcc hss
  · replace hw := hw.2 h
    refine lv_aload_n hx hb dq_Md_select_186 rfl (lx_at hl 1 rfl) ?_
    refine lv_iload_n hx hb dq_Md_select_187 rfl (lx_at hl 3 rfl) ?_
    refine lv_iload_n hx hb dq_Md_select_188 rfl (lx_at hl 4 rfl) ?_
    refine lv_aload_n hx hb dq_Md_select_189 rfl (lx_at hl 1 rfl) ?_
    obtain ⟨t42, hw⟩ := hw
    refine wo_getR hC fq_Md_41 rfl hG t42 dq_Md_select_190 (fun r43 e44 => ?_)
    replace hw := hw r43 e44
    refine lv_iload_n hx hb dq_Md_select_193 rfl (lx_at hl 2 rfl) ?_
    obtain ⟨a45, rfl, hw⟩ := hw
    obtain ⟨t46, hw⟩ := hw
    obtain ⟨h47, hw⟩ := hw
    refine wo_iald (j := 2) hC rfl hG t46 h47 dq_Md_select_194 ?_
    refine lv_if_ne (tgt := 202) hx hb dq_Md_select_195 rfl (fun h => ?_) (fun h => ?_)
    · replace hw := hw.1 h
      refine lv_iconst (v := (0 : Int32)) hx hb dq_Md_select_202 rfl ?_
      exact tq_Md_select_203 hC hw hG hS (lx_sub hl [] rfl) hcc hss
    · replace hw := hw.2 h
      refine lv_iconst (v := (1 : Int32)) hx hb dq_Md_select_198 rfl ?_
      refine lv_goto (tgt := 203) hx hb dq_Md_select_199 rfl ?_
      exact tq_Md_select_203 hC hw hG hS (lx_sub hl [] rfl) hcc hss
set_option maxRecDepth 100000 in
set_option maxHeartbeats 4000000 in
theorem tq_Md_select_136 {p : Program} {l : Launch} {e : Env} {R : Room} {s₀ : State} {m : MethodId} {args : Array Value} {below : List Frame} {meth : Method} {cd : Code} {E : wo_E} {mc ms : Nat} {Post : wo_W → Prop} (hC : wo_Cx E "EdgeCacheModel" prog_14_method_31_code 7 5 112 ((Option.none : Option Jvm.ClassFile.FieldType)) "select" mc ms p R s₀ m args meth cd) : ∀ {G : wo_W} {c s : Nat} {x0 : Nat} {x1 : Int32} {x2 : Int32} {x3 : Int32} {y0 : Int32}, pq_Md_select_136 E mc ms Post G c s x0 x1 x2 x3 y0 → ∀ {H : Heap} {locs : List Loc} {ls : Array Slot}, wo_Se E G H → va_S (en_A E) s₀.heap H locs → lx_has ls 7 [(0, 1, .ref x0), (1, 1, .int x1), (2, 1, .int x2), (3, 1, .int x3)] → c ≤ mc → s ≤ ms → W p l e R s₀ m args below meth cd H locs c s (MQ below (va_Qv Post (wo_B E) (en_A E)) args s₀ mc ms (en_A E)) (F0 m 136 ls [.int y0]) := by
  intro G c s x0 x1 x2 x3 y0 hw H locs ls hG hS hl hcc hss
  dsimp only [pq_Md_select_136] at hw
  have hx := hC.1
  have hb := hC.2.1
  refine lx_istore (lv' := [(5, 1, .int y0), (0, 1, .ref x0), (1, 1, .int x1), (2, 1, .int x2), (3, 1, .int x3)]) hx hb dq_Md_select_136 hl (by decide) rfl (fun ls hl' => ?_)
  clear hl
  have hl := hl'
  clear hl'
  refine lv_iload hx hb dq_Md_select_138 (lx_at hl 0 rfl) ?_
  refine lv_if_eq (tgt := 178) hx hb dq_Md_select_140 rfl (fun h => ?_) (fun h => ?_)
  · replace hw := hw.1 h
    refine lv_iconst (v := (-1 : Int32)) hx hb dq_Md_select_178 rfl ?_
    exact tq_Md_select_179 hC hw hG hS (lx_sub hl [1, 2, 3, 4] rfl) hcc hss
  · replace hw := hw.2 h
    refine lv_aload_n hx hb dq_Md_select_143 rfl (lx_at hl 1 rfl) ?_
    refine lv_aload_n hx hb dq_Md_select_144 rfl (lx_at hl 1 rfl) ?_
    obtain ⟨t1, hw⟩ := hw
    refine wo_getR hC fq_Md_51 rfl hG t1 dq_Md_select_145 (fun r2 e3 => ?_)
    replace hw := hw r2 e3
    refine lv_bipush (v := (8 : Int32)) hx hb dq_Md_select_148 rfl ?_
    refine lv_iload_n hx hb dq_Md_select_150 rfl (lx_at hl 2 rfl) ?_
    refine lv_imul hx hb dq_Md_select_151 ?_
    refine lv_iconst (v := (2 : Int32)) hx hb dq_Md_select_152 rfl ?_
    refine lv_iadd hx hb dq_Md_select_153 ?_
    obtain ⟨a4, rfl, hw⟩ := hw
    obtain ⟨t5, hw⟩ := hw
    obtain ⟨h6, hw⟩ := hw
    refine wo_lald (j := 9) hC rfl hG t5 h6 dq_Md_select_154 ?_
    refine lv_aload_n hx hb dq_Md_select_155 rfl (lx_at hl 1 rfl) ?_
    refine wo_getR hC fq_Md_54 rfl hG t1 dq_Md_select_156 (fun r7 e8 => ?_)
    replace hw := hw r7 e8
    refine lv_bipush (v := (8 : Int32)) hx hb dq_Md_select_159 rfl ?_
    refine lv_iload_n hx hb dq_Md_select_161 rfl (lx_at hl 2 rfl) ?_
    refine lv_imul hx hb dq_Md_select_162 ?_
    refine lv_iconst (v := (2 : Int32)) hx hb dq_Md_select_163 rfl ?_
    refine lv_iadd hx hb dq_Md_select_164 ?_
    obtain ⟨a9, rfl, hw⟩ := hw
    obtain ⟨t10, hw⟩ := hw
    obtain ⟨h11, hw⟩ := hw
    refine wo_iald (j := 2) hC rfl hG t10 h11 dq_Md_select_165 ?_
    refine lv_aload_n hx hb dq_Md_select_166 rfl (lx_at hl 1 rfl) ?_
    refine wo_getR hC fq_Md_105 rfl hG t1 dq_Md_select_167 (fun r12 e13 => ?_)
    replace hw := hw r12 e13
    refine lv_iload_n hx hb dq_Md_select_170 rfl (lx_at hl 3 rfl) ?_
    obtain ⟨a14, rfl, hw⟩ := hw
    obtain ⟨t15, hw⟩ := hw
    obtain ⟨h16, hw⟩ := hw
    refine wo_iald (j := 2) hC rfl hG t15 h16 dq_Md_select_171 ?_
    obtain ⟨mc17, ms18, hc1, hs1, hw⟩ := hw
    refine va_calli (wo_runV hC lq_Md_298 (mq_Md_pieces hw) hG hS t1 rfl (lx_sz hl) rfl (Nat.zero_le _) (by decide) dq_Md_select_172 ⟨hc1, hs1⟩) hS (fun _ _ h => h) (fun _ h => h) (fun v20 G19 t H locs ht hvm hw' hB _ _ hS => ?_)
    clear hw
    have hw := hw'
    clear hw'
    replace hG := wo_bk ht hB
    replace hcc := hc1
    replace hss := hs1
    refine lv_goto (tgt := 179) hx hb dq_Md_select_175 rfl ?_
    exact tq_Md_select_179 hC hw hG hS (lx_sub hl [1, 2, 3, 4] rfl) hcc hss
set_option maxRecDepth 100000 in
set_option maxHeartbeats 4000000 in
theorem tq_Md_select_135 {p : Program} {l : Launch} {e : Env} {R : Room} {s₀ : State} {m : MethodId} {args : Array Value} {below : List Frame} {meth : Method} {cd : Code} {E : wo_E} {mc ms : Nat} {Post : wo_W → Prop} (hC : wo_Cx E "EdgeCacheModel" prog_14_method_31_code 7 5 112 ((Option.none : Option Jvm.ClassFile.FieldType)) "select" mc ms p R s₀ m args meth cd) : ∀ {G : wo_W} {c s : Nat} {x0 : Nat} {x1 : Int32} {x2 : Int32} {x3 : Int32}, pq_Md_select_135 E mc ms Post G c s x0 x1 x2 x3 → ∀ {H : Heap} {locs : List Loc} {ls : Array Slot}, wo_Se E G H → va_S (en_A E) s₀.heap H locs → lx_has ls 7 [(0, 1, .ref x0), (1, 1, .int x1), (2, 1, .int x2), (3, 1, .int x3)] → c ≤ mc → s ≤ ms → W p l e R s₀ m args below meth cd H locs c s (MQ below (va_Qv Post (wo_B E) (en_A E)) args s₀ mc ms (en_A E)) (F0 m 135 ls []) := by
  intro G c s x0 x1 x2 x3 hw H locs ls hG hS hl hcc hss
  dsimp only [pq_Md_select_135] at hw
  have hx := hC.1
  have hb := hC.2.1
  refine lv_iconst (v := (0 : Int32)) hx hb dq_Md_select_135 rfl ?_
  exact tq_Md_select_136 hC hw hG hS (lx_sub hl [0, 1, 2, 3] rfl) hcc hss
set_option maxRecDepth 100000 in
set_option maxHeartbeats 4000000 in
theorem tq_Md_select_131 {p : Program} {l : Launch} {e : Env} {R : Room} {s₀ : State} {m : MethodId} {args : Array Value} {below : List Frame} {meth : Method} {cd : Code} {E : wo_E} {mc ms : Nat} {Post : wo_W → Prop} (hC : wo_Cx E "EdgeCacheModel" prog_14_method_31_code 7 5 112 ((Option.none : Option Jvm.ClassFile.FieldType)) "select" mc ms p R s₀ m args meth cd) : ∀ {G : wo_W} {c s : Nat} {x0 : Nat} {x1 : Int32} {x2 : Int32} {x3 : Int32}, pq_Md_select_131 E mc ms Post G c s x0 x1 x2 x3 → ∀ {H : Heap} {locs : List Loc} {ls : Array Slot}, wo_Se E G H → va_S (en_A E) s₀.heap H locs → lx_has ls 7 [(0, 1, .ref x0), (1, 1, .int x1), (2, 1, .int x2), (3, 1, .int x3)] → c ≤ mc → s ≤ ms → W p l e R s₀ m args below meth cd H locs c s (MQ below (va_Qv Post (wo_B E) (en_A E)) args s₀ mc ms (en_A E)) (F0 m 131 ls []) := by
  intro G c s x0 x1 x2 x3 hw H locs ls hG hS hl hcc hss
  dsimp only [pq_Md_select_131] at hw
  have hx := hC.1
  have hb := hC.2.1
  refine lv_iconst (v := (1 : Int32)) hx hb dq_Md_select_131 rfl ?_
  refine lv_goto (tgt := 136) hx hb dq_Md_select_132 rfl ?_
  exact tq_Md_select_136 hC hw hG hS (lx_sub hl [0, 1, 2, 3] rfl) hcc hss
set_option maxRecDepth 100000 in
set_option maxHeartbeats 4000000 in
theorem tq_Md_select_73 {p : Program} {l : Launch} {e : Env} {R : Room} {s₀ : State} {m : MethodId} {args : Array Value} {below : List Frame} {meth : Method} {cd : Code} {E : wo_E} {mc ms : Nat} {Post : wo_W → Prop} (hC : wo_Cx E "EdgeCacheModel" prog_14_method_31_code 7 5 112 ((Option.none : Option Jvm.ClassFile.FieldType)) "select" mc ms p R s₀ m args meth cd) : ∀ {G : wo_W} {c s : Nat} {x0 : Nat} {x1 : Int32} {x2 : Int32} {x3 : Int32} {x4 : Int32}, pq_Md_select_73 E mc ms Post G c s x0 x1 x2 x3 x4 → ∀ {H : Heap} {locs : List Loc} {ls : Array Slot}, wo_Se E G H → va_S (en_A E) s₀.heap H locs → lx_has ls 7 [(0, 1, .ref x0), (1, 1, .int x1), (2, 1, .int x2), (3, 1, .int x3), (4, 1, .int x4)] → c ≤ mc → s ≤ ms → W p l e R s₀ m args below meth cd H locs c s (MQ below (va_Qv Post (wo_B E) (en_A E)) args s₀ mc ms (en_A E)) (F0 m 73 ls []) := by
  intro G c s x0 x1 x2 x3 x4 hw H locs ls hG hS hl hcc hss
  dsimp only [pq_Md_select_73] at hw
  have hx := hC.1
  have hb := hC.2.1
  refine lv_aload_n hx hb dq_Md_select_73 rfl (lx_at hl 0 rfl) ?_
  obtain ⟨t1, hw⟩ := hw
  refine wo_getR hC fq_Md_41 rfl hG t1 dq_Md_select_74 (fun r2 e3 => ?_)
  replace hw := hw r2 e3
  refine lv_iload_n hx hb dq_Md_select_77 rfl (lx_at hl 1 rfl) ?_
  obtain ⟨a4, rfl, hw⟩ := hw
  obtain ⟨t5, hw⟩ := hw
  obtain ⟨h6, hw⟩ := hw
  refine wo_iald (j := 2) hC rfl hG t5 h6 dq_Md_select_78 ?_
  refine lv_if_ne (tgt := 135) hx hb dq_Md_select_79 rfl (fun h => ?_) (fun h => ?_)
  · replace hw := hw.1 h
    exact tq_Md_select_135 hC hw hG hS (lx_sub hl [0, 1, 2, 3] rfl) hcc hss
  · replace hw := hw.2 h
    refine lv_aload_n hx hb dq_Md_select_82 rfl (lx_at hl 0 rfl) ?_
    refine lv_iload_n hx hb dq_Md_select_83 rfl (lx_at hl 1 rfl) ?_
    refine lv_iconst (v := (2 : Int32)) hx hb dq_Md_select_84 rfl ?_
    obtain ⟨mc7, ms8, hc1, hs1, hw⟩ := hw
    refine va_calli (wo_runV hC lq_Md_258 (mq_Md_has hw) hG hS t1 rfl (lx_sz hl) rfl (Nat.zero_le _) (by decide) dq_Md_select_85 ⟨hc1, hs1⟩) hS (fun _ _ h => h) (fun _ h => h) (fun v10 G9 t H locs ht hvm hw' hB _ _ hS => ?_)
    clear hw
    have hw := hw'
    clear hw'
    replace hG := wo_bk ht hB
    replace hcc := hc1
    replace hss := hs1
    refine lv_if_eq (tgt := 135) hx hb dq_Md_select_88 rfl (fun h => ?_) (fun h => ?_)
    · replace hw := hw.1 h
      exact tq_Md_select_135 hC hw hG hS (lx_sub hl [0, 1, 2, 3] rfl) hcc hss
    · replace hw := hw.2 h
      refine lv_aload_n hx hb dq_Md_select_91 rfl (lx_at hl 0 rfl) ?_
      refine lv_iload_n hx hb dq_Md_select_92 rfl (lx_at hl 1 rfl) ?_
      refine lv_iconst (v := (3 : Int32)) hx hb dq_Md_select_93 rfl ?_
      obtain ⟨t11, hw⟩ := hw
      obtain ⟨mc12, ms13, hc1, hs1, hw⟩ := hw
      refine va_calli (wo_runV hC lq_Md_258 (mq_Md_has hw) hG hS t11 rfl (lx_sz hl) rfl (Nat.zero_le _) (by decide) dq_Md_select_94 ⟨hc1, hs1⟩) hS (fun _ _ h => h) (fun _ h => h) (fun v15 G14 t H locs ht hvm hw' hB _ _ hS => ?_)
      clear hw
      have hw := hw'
      clear hw'
      replace hG := wo_bk ht hB
      replace hcc := hc1
      replace hss := hs1
      refine lv_if_eq (tgt := 131) hx hb dq_Md_select_97 rfl (fun h => ?_) (fun h => ?_)
      · replace hw := hw.1 h
        exact tq_Md_select_131 hC hw hG hS (lx_sub hl [0, 1, 2, 3] rfl) hcc hss
      · replace hw := hw.2 h
        refine lv_aload_n hx hb dq_Md_select_100 rfl (lx_at hl 0 rfl) ?_
        obtain ⟨t16, hw⟩ := hw
        refine wo_getR hC fq_Md_51 rfl hG t16 dq_Md_select_101 (fun r17 e18 => ?_)
        replace hw := hw r17 e18
        refine lv_bipush (v := (8 : Int32)) hx hb dq_Md_select_104 rfl ?_
        refine lv_iload_n hx hb dq_Md_select_106 rfl (lx_at hl 1 rfl) ?_
        refine lv_imul hx hb dq_Md_select_107 ?_
        refine lv_iconst (v := (3 : Int32)) hx hb dq_Md_select_108 rfl ?_
        refine lv_iadd hx hb dq_Md_select_109 ?_
        obtain ⟨a19, rfl, hw⟩ := hw
        obtain ⟨t20, hw⟩ := hw
        obtain ⟨h21, hw⟩ := hw
        refine wo_lald (j := 9) hC rfl hG t20 h21 dq_Md_select_110 ?_
        refine lv_iconst (v := (0 : Int32)) hx hb dq_Md_select_111 rfl ?_
        refine lv_aload_n hx hb dq_Md_select_112 rfl (lx_at hl 0 rfl) ?_
        refine wo_getR hC fq_Md_54 rfl hG t16 dq_Md_select_113 (fun r22 e23 => ?_)
        replace hw := hw r22 e23
        refine lv_bipush (v := (8 : Int32)) hx hb dq_Md_select_116 rfl ?_
        refine lv_iload_n hx hb dq_Md_select_118 rfl (lx_at hl 1 rfl) ?_
        refine lv_imul hx hb dq_Md_select_119 ?_
        refine lv_iconst (v := (3 : Int32)) hx hb dq_Md_select_120 rfl ?_
        refine lv_iadd hx hb dq_Md_select_121 ?_
        obtain ⟨a24, rfl, hw⟩ := hw
        obtain ⟨t25, hw⟩ := hw
        obtain ⟨h26, hw⟩ := hw
        refine wo_iald (j := 2) hC rfl hG t25 h26 dq_Md_select_122 ?_
        obtain ⟨mc27, ms28, hc1, hs1, hw⟩ := hw
        refine va_calli (wo_runS hC lq_Md_248 (mq_Md_digits hw) hG hS rfl (lx_sz hl) rfl (Nat.zero_le _) (by decide) dq_Md_select_123 ⟨hc1, hs1⟩) hS (fun _ _ h => h) (fun _ h => h) (fun v30 G29 t H locs ht hvm hw' hB _ _ hS => ?_)
        clear hw
        have hw := hw'
        clear hw'
        replace hG := wo_bk ht hB
        replace hcc := hc1
        replace hss := hs1
        refine lv_iload hx hb dq_Md_select_126 (lx_at hl 4 rfl) ?_
        refine lv_icmp_ne (tgt := 135) hx hb dq_Md_select_128 rfl (fun h => ?_) (fun h => ?_)
        · replace hw := hw.1 h
          exact tq_Md_select_135 hC hw hG hS (lx_sub hl [0, 1, 2, 3] rfl) hcc hss
        · replace hw := hw.2 h
          exact tq_Md_select_131 hC hw hG hS (lx_sub hl [0, 1, 2, 3] rfl) hcc hss
set_option maxRecDepth 100000 in
set_option maxHeartbeats 4000000 in
theorem tq_Md_select_37 {p : Program} {l : Launch} {e : Env} {R : Room} {s₀ : State} {m : MethodId} {args : Array Value} {below : List Frame} {meth : Method} {cd : Code} {E : wo_E} {mc ms : Nat} {Post : wo_W → Prop} (hC : wo_Cx E "EdgeCacheModel" prog_14_method_31_code 7 5 112 ((Option.none : Option Jvm.ClassFile.FieldType)) "select" mc ms p R s₀ m args meth cd) : ∀ {G : wo_W} {c s : Nat} {x0 : Nat} {x1 : Int32} {x2 : Int32} {x3 : Int32} {x4 : Int32}, pq_Md_select_37 E mc ms Post G c s x0 x1 x2 x3 x4 → ∀ {H : Heap} {locs : List Loc} {ls : Array Slot}, wo_Se E G H → va_S (en_A E) s₀.heap H locs → lx_has ls 7 [(0, 1, .ref x0), (1, 1, .int x1), (2, 1, .int x2), (3, 1, .int x3), (4, 1, .int x4)] → c ≤ mc → s ≤ ms → W p l e R s₀ m args below meth cd H locs c s (MQ below (va_Qv Post (wo_B E) (en_A E)) args s₀ mc ms (en_A E)) (F0 m 37 ls []) := by
  intro G c s x0 x1 x2 x3 x4 hw H locs ls hG hS hl hcc hss
  dsimp only [pq_Md_select_37] at hw
  have hx := hC.1
  have hb := hC.2.1
  refine lv_aload_n hx hb dq_Md_select_37 rfl (lx_at hl 0 rfl) ?_
  refine lv_iload_n hx hb dq_Md_select_38 rfl (lx_at hl 1 rfl) ?_
  refine lv_iconst (v := (1 : Int32)) hx hb dq_Md_select_39 rfl ?_
  obtain ⟨t1, hw⟩ := hw
  obtain ⟨mc2, ms3, hc1, hs1, hw⟩ := hw
  refine va_calli (wo_runV hC lq_Md_258 (mq_Md_has hw) hG hS t1 rfl (lx_sz hl) rfl (Nat.zero_le _) (by decide) dq_Md_select_40 ⟨hc1, hs1⟩) hS (fun _ _ h => h) (fun _ h => h) (fun v5 G4 t H locs ht hvm hw' hB _ _ hS => ?_)
  clear hw
  have hw := hw'
  clear hw'
  replace hG := wo_bk ht hB
  replace hcc := hc1
  replace hss := hs1
  refine lv_if_eq (tgt := 73) hx hb dq_Md_select_43 rfl (fun h => ?_) (fun h => ?_)
  · replace hw := hw.1 h
    exact tq_Md_select_73 hC hw hG hS (lx_sub hl [0, 1, 2, 3, 4] rfl) hcc hss
  · replace hw := hw.2 h
    refine lv_aload_n hx hb dq_Md_select_46 rfl (lx_at hl 0 rfl) ?_
    refine lv_iload_n hx hb dq_Md_select_47 rfl (lx_at hl 1 rfl) ?_
    refine lv_iconst (v := (1 : Int32)) hx hb dq_Md_select_48 rfl ?_
    refine lv_iload hx hb dq_Md_select_49 (lx_at hl 4 rfl) ?_
    obtain ⟨t6, hw⟩ := hw
    obtain ⟨mc7, ms8, hc1, hs1, hw⟩ := hw
    refine va_calli (wo_runV hC lq_Md_294 (mq_Md_matches hw) hG hS t6 rfl (lx_sz hl) rfl (Nat.zero_le _) (by decide) dq_Md_select_51 ⟨hc1, hs1⟩) hS (fun _ _ h => h) (fun _ h => h) (fun v10 G9 t H locs ht hvm hw' hB _ _ hS => ?_)
    clear hw
    have hw := hw'
    clear hw'
    replace hG := wo_bk ht hB
    replace hcc := hc1
    replace hss := hs1
    refine lv_if_eq (tgt := 73) hx hb dq_Md_select_54 rfl (fun h => ?_) (fun h => ?_)
    · replace hw := hw.1 h
      exact tq_Md_select_73 hC hw hG hS (lx_sub hl [0, 1, 2, 3, 4] rfl) hcc hss
    · replace hw := hw.2 h
      refine lv_aload_n hx hb dq_Md_select_57 rfl (lx_at hl 0 rfl) ?_
      refine lv_sipush (v := (304 : Int32)) hx hb dq_Md_select_58 rfl ?_
      refine lv_iload_n hx hb dq_Md_select_61 rfl (lx_at hl 2 rfl) ?_
      refine lv_iload_n hx hb dq_Md_select_62 rfl (lx_at hl 3 rfl) ?_
      obtain ⟨t11, hw⟩ := hw
      obtain ⟨mc12, ms13, hc1, hs1, hw⟩ := hw
      refine va_callv (wo_runV hC lq_Md_290 (mq_Md_head hw) hG hS t11 rfl (lx_sz hl) rfl (Nat.zero_le _) (by decide) dq_Md_select_63 ⟨hc1, hs1⟩) hS (fun _ _ h => h) (fun _ h => h) (fun G14 t H locs ht hvm hw' hB _ _ hS => ?_)
      clear hw
      have hw := hw'
      clear hw'
      replace hG := wo_bk ht hB
      replace hcc := hc1
      replace hss := hs1
      refine lv_aload_n hx hb dq_Md_select_66 rfl (lx_at hl 0 rfl) ?_
      refine lv_bipush (v := (10 : Int32)) hx hb dq_Md_select_67 rfl ?_
      obtain ⟨t15, hw⟩ := hw
      obtain ⟨mc16, ms17, hc1, hs1, hw⟩ := hw
      refine va_callv (wo_runV hC lq_Md_270 (mq_Md_put hw) hG hS t15 rfl (lx_sz hl) rfl (Nat.zero_le _) (by decide) dq_Md_select_69 ⟨hc1, hs1⟩) hS (fun _ _ h => h) (fun _ h => h) (fun G18 t H locs ht hvm hw' hB _ _ hS => ?_)
      clear hw
      have hw := hw'
      clear hw'
      replace hG := wo_bk ht hB
      replace hcc := hc1
      replace hss := hs1
      exact wo_vret hC hG hS hcc hss hw dq_Md_select_72
set_option maxRecDepth 100000 in
set_option maxHeartbeats 4000000 in
theorem tq_Md_select_0 {p : Program} {l : Launch} {e : Env} {R : Room} {s₀ : State} {m : MethodId} {args : Array Value} {below : List Frame} {meth : Method} {cd : Code} {E : wo_E} {mc ms : Nat} {Post : wo_W → Prop} (hC : wo_Cx E "EdgeCacheModel" prog_14_method_31_code 7 5 112 ((Option.none : Option Jvm.ClassFile.FieldType)) "select" mc ms p R s₀ m args meth cd) : ∀ {G : wo_W} {c s : Nat} {x0 : Nat} {x1 : Int32} {x2 : Int32} {x3 : Int32}, pq_Md_select_0 E mc ms Post G c s x0 x1 x2 x3 → ∀ {H : Heap} {locs : List Loc} {ls : Array Slot}, wo_Se E G H → va_S (en_A E) s₀.heap H locs → lx_has ls 7 [(0, 1, .ref x0), (1, 1, .int x1), (2, 1, .int x2), (3, 1, .int x3)] → c ≤ mc → s ≤ ms → W p l e R s₀ m args below meth cd H locs c s (MQ below (va_Qv Post (wo_B E) (en_A E)) args s₀ mc ms (en_A E)) (F0 m 0 ls []) := by
  intro G c s x0 x1 x2 x3 hw H locs ls hG hS hl hcc hss
  dsimp only [pq_Md_select_0] at hw
  have hx := hC.1
  have hb := hC.2.1
  refine lv_aload_n hx hb dq_Md_select_0 rfl (lx_at hl 0 rfl) ?_
  obtain ⟨t1, hw⟩ := hw
  refine wo_getR hC fq_Md_108 rfl hG t1 dq_Md_select_1 (fun r2 e3 => ?_)
  replace hw := hw r2 e3
  refine lv_iload_n hx hb dq_Md_select_4 rfl (lx_at hl 2 rfl) ?_
  obtain ⟨a4, rfl, hw⟩ := hw
  obtain ⟨t5, hw⟩ := hw
  obtain ⟨h6, hw⟩ := hw
  refine wo_iald (j := 2) hC rfl hG t5 h6 dq_Md_select_5 ?_
  refine lx_istore (lv' := [(4, 1, .int (wo_ei G a4 x2.toNatClampNeg)), (0, 1, .ref x0), (1, 1, .int x1), (2, 1, .int x2), (3, 1, .int x3)]) hx hb dq_Md_select_6 hl (by decide) rfl (fun ls hl' => ?_)
  clear hl
  have hl := hl'
  clear hl'
  refine lv_aload_n hx hb dq_Md_select_8 rfl (lx_at hl 1 rfl) ?_
  refine lv_iload_n hx hb dq_Md_select_9 rfl (lx_at hl 2 rfl) ?_
  refine lv_iconst (v := (0 : Int32)) hx hb dq_Md_select_10 rfl ?_
  obtain ⟨mc7, ms8, hc1, hs1, hw⟩ := hw
  refine va_calli (wo_runV hC lq_Md_258 (mq_Md_has hw) hG hS t1 rfl (lx_sz hl) rfl (Nat.zero_le _) (by decide) dq_Md_select_11 ⟨hc1, hs1⟩) hS (fun _ _ h => h) (fun _ h => h) (fun v10 G9 t H locs ht hvm hw' hB _ _ hS => ?_)
  clear hw
  have hw := hw'
  clear hw'
  replace hG := wo_bk ht hB
  replace hcc := hc1
  replace hss := hs1
  refine lv_if_eq (tgt := 37) hx hb dq_Md_select_14 rfl (fun h => ?_) (fun h => ?_)
  · replace hw := hw.1 h
    exact tq_Md_select_37 hC hw hG hS (lx_sub hl [1, 2, 3, 4, 0] rfl) hcc hss
  · replace hw := hw.2 h
    refine lv_aload_n hx hb dq_Md_select_17 rfl (lx_at hl 1 rfl) ?_
    refine lv_iload_n hx hb dq_Md_select_18 rfl (lx_at hl 2 rfl) ?_
    refine lv_iconst (v := (0 : Int32)) hx hb dq_Md_select_19 rfl ?_
    refine lv_iload hx hb dq_Md_select_20 (lx_at hl 0 rfl) ?_
    obtain ⟨t11, hw⟩ := hw
    obtain ⟨mc12, ms13, hc1, hs1, hw⟩ := hw
    refine va_calli (wo_runV hC lq_Md_294 (mq_Md_matches hw) hG hS t11 rfl (lx_sz hl) rfl (Nat.zero_le _) (by decide) dq_Md_select_22 ⟨hc1, hs1⟩) hS (fun _ _ h => h) (fun _ h => h) (fun v15 G14 t H locs ht hvm hw' hB _ _ hS => ?_)
    clear hw
    have hw := hw'
    clear hw'
    replace hG := wo_bk ht hB
    replace hcc := hc1
    replace hss := hs1
    refine lv_if_ne (tgt := 37) hx hb dq_Md_select_25 rfl (fun h => ?_) (fun h => ?_)
    · replace hw := hw.1 h
      exact tq_Md_select_37 hC hw hG hS (lx_sub hl [1, 2, 3, 4, 0] rfl) hcc hss
    · replace hw := hw.2 h
      refine lv_aload_n hx hb dq_Md_select_28 rfl (lx_at hl 1 rfl) ?_
      refine lv_sipush (v := (412 : Int32)) hx hb dq_Md_select_29 rfl ?_
      obtain ⟨t16, hw⟩ := hw
      obtain ⟨mc17, ms18, hc1, hs1, hw⟩ := hw
      refine va_calli (wo_runV hC lq_Md_190 (mq_Md_plain hw) hG hS t16 rfl (lx_sz hl) rfl (Nat.zero_le _) (by decide) dq_Md_select_32 ⟨hc1, hs1⟩) hS (fun _ _ h => h) (fun _ h => h) (fun v20 G19 t H locs ht hvm hw' hB _ _ hS => ?_)
      clear hw
      have hw := hw'
      clear hw'
      replace hG := wo_bk ht hB
      replace hcc := hc1
      replace hss := hs1
      refine lv_pop hx hb dq_Md_select_35 rfl ?_
      exact wo_vret hC hG hS hcc hss hw dq_Md_select_36
set_option maxHeartbeats 4000000 in
theorem mq_Md_select {l : Launch} {E : wo_E} {mc ms : Nat} {Post : wo_W → Prop} {G : wo_W} {x0 : Nat} {x1 : Int32} {x2 : Int32} {x3 : Int32} (hw : pq_Md_select E mc ms Post G x0 x1 x2 x3) : Met l yq_Md_select (Cond.code yq_Md_select prog_14_method_31_code 7 ((Option.none : Option Jvm.ClassFile.FieldType)) :: vw_WG) { frames := 5, cells := mc, slots := ms, locals := 112 } (va_Pc [.ref x0, .int x1, .int x2, .int x3] (wo_Ok E G)) (va_Qv Post (wo_B E) (en_A E)) mc ms (en_A E) := by
  unfold pq_Md_select at hw
  exact wo_met [(1, .ref x0), (1, .int x1), (1, .int x2), (1, .int x3)] rfl (by decide) (fun q hq => by simp only [List.mem_cons, List.not_mem_nil, or_false] at hq; rcases hq with rfl | rfl | rfl | rfl <;> first | rfl | exact lx_cR _) (Nat.le_of_ble_eq_true rfl) (fun p e R s m args below meth cd ls hC hG hS hl => tq_Md_select_0 hC hw hG hS (lx_sub hl [0, 1, 2, 3] rfl) (Nat.zero_le _) (Nat.zero_le _))
