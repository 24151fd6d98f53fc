theorem dq_Md_parse_0 : decode prog_14_method_6_code 0 = .ok (.aload_n 0, 1) := by decide +kernel
theorem dq_Md_parse_1 : decode prog_14_method_6_code 1 = .ok (.iload_n 1, 1) := by decide +kernel
theorem dq_Md_parse_2 : decode prog_14_method_6_code 2 = .ok (.iconst 0, 1) := by decide +kernel
theorem dq_Md_parse_3 : decode prog_14_method_6_code 3 = .ok (.invokevirtual 202, 3) := by decide +kernel
theorem dq_Md_parse_6 : decode prog_14_method_6_code 6 = .ok (.istore_n 2, 1) := by decide +kernel
theorem dq_Md_parse_7 : decode prog_14_method_6_code 7 = .ok (.iload_n 2, 1) := by decide +kernel
theorem dq_Md_parse_8 : decode prog_14_method_6_code 8 = .ok (.ifCond .ge 16, 3) := by decide +kernel
theorem dq_Md_parse_11 : decode prog_14_method_6_code 11 = .ok (.iload_n 2, 1) := by decide +kernel
theorem dq_Md_parse_12 : decode prog_14_method_6_code 12 = .ok (.iconst (-1), 1) := by decide +kernel
theorem dq_Md_parse_13 : decode prog_14_method_6_code 13 = .ok (.if_icmp .ne 7, 3) := by decide +kernel
theorem dq_Md_parse_16 : decode prog_14_method_6_code 16 = .ok (.iconst 0, 1) := by decide +kernel
theorem dq_Md_parse_17 : decode prog_14_method_6_code 17 = .ok (.goto 6, 3) := by decide +kernel
theorem dq_Md_parse_20 : decode prog_14_method_6_code 20 = .ok (.sipush 431, 3) := by decide +kernel
theorem dq_Md_parse_23 : decode prog_14_method_6_code 23 = .ok (.ireturn, 1) := by decide +kernel
theorem dq_Md_parse_24 : decode prog_14_method_6_code 24 = .ok (.aload_n 0, 1) := by decide +kernel
theorem dq_Md_parse_25 : decode prog_14_method_6_code 25 = .ok (.iload_n 1, 1) := by decide +kernel
theorem dq_Md_parse_26 : decode prog_14_method_6_code 26 = .ok (.iload_n 2, 1) := by decide +kernel
theorem dq_Md_parse_27 : decode prog_14_method_6_code 27 = .ok (.invokevirtual 206, 3) := by decide +kernel
theorem dq_Md_parse_30 : decode prog_14_method_6_code 30 = .ok (.istore_n 3, 1) := by decide +kernel
theorem dq_Md_parse_31 : decode prog_14_method_6_code 31 = .ok (.bipush 64, 2) := by decide +kernel
theorem dq_Md_parse_33 : decode prog_14_method_6_code 33 = .ok (.istore 4, 2) := by decide +kernel
theorem dq_Md_parse_35 : decode prog_14_method_6_code 35 = .ok (.iload 4, 2) := by decide +kernel
theorem dq_Md_parse_37 : decode prog_14_method_6_code 37 = .ok (.bipush 72, 2) := by decide +kernel
theorem dq_Md_parse_39 : decode prog_14_method_6_code 39 = .ok (.if_icmp .ge 25, 3) := by decide +kernel
theorem dq_Md_parse_42 : decode prog_14_method_6_code 42 = .ok (.aload_n 0, 1) := by decide +kernel
theorem dq_Md_parse_43 : decode prog_14_method_6_code 43 = .ok (.getfield 54, 3) := by decide +kernel
theorem dq_Md_parse_46 : decode prog_14_method_6_code 46 = .ok (.iload 4, 2) := by decide +kernel
theorem dq_Md_parse_48 : decode prog_14_method_6_code 48 = .ok (.iconst (-1), 1) := by decide +kernel
theorem dq_Md_parse_49 : decode prog_14_method_6_code 49 = .ok (.iastore, 1) := by decide +kernel
theorem dq_Md_parse_50 : decode prog_14_method_6_code 50 = .ok (.aload_n 0, 1) := by decide +kernel
theorem dq_Md_parse_51 : decode prog_14_method_6_code 51 = .ok (.getfield 51, 3) := by decide +kernel
theorem dq_Md_parse_54 : decode prog_14_method_6_code 54 = .ok (.iload 4, 2) := by decide +kernel
theorem dq_Md_parse_56 : decode prog_14_method_6_code 56 = .ok (.lconst 0, 1) := by decide +kernel
theorem dq_Md_parse_57 : decode prog_14_method_6_code 57 = .ok (.lastore, 1) := by decide +kernel
theorem dq_Md_parse_58 : decode prog_14_method_6_code 58 = .ok (.iinc 4 1, 3) := by decide +kernel
theorem dq_Md_parse_61 : decode prog_14_method_6_code 61 = .ok (.goto (-26), 3) := by decide +kernel
theorem dq_Md_parse_64 : decode prog_14_method_6_code 64 = .ok (.aload_n 0, 1) := by decide +kernel
theorem dq_Md_parse_65 : decode prog_14_method_6_code 65 = .ok (.iconst (-1), 1) := by decide +kernel
theorem dq_Md_parse_66 : decode prog_14_method_6_code 66 = .ok (.putfield 209, 3) := by decide +kernel
theorem dq_Md_parse_69 : decode prog_14_method_6_code 69 = .ok (.aload_n 0, 1) := by decide +kernel
theorem dq_Md_parse_70 : decode prog_14_method_6_code 70 = .ok (.iconst 0, 1) := by decide +kernel
theorem dq_Md_parse_71 : decode prog_14_method_6_code 71 = .ok (.putfield 212, 3) := by decide +kernel
theorem dq_Md_parse_74 : decode prog_14_method_6_code 74 = .ok (.iload_n 2, 1) := by decide +kernel
theorem dq_Md_parse_75 : decode prog_14_method_6_code 75 = .ok (.iconst 1, 1) := by decide +kernel
theorem dq_Md_parse_76 : decode prog_14_method_6_code 76 = .ok (.iadd, 1) := by decide +kernel
theorem dq_Md_parse_77 : decode prog_14_method_6_code 77 = .ok (.istore 4, 2) := by decide +kernel
theorem dq_Md_parse_79 : decode prog_14_method_6_code 79 = .ok (.aload_n 0, 1) := by decide +kernel
theorem dq_Md_parse_80 : decode prog_14_method_6_code 80 = .ok (.iload_n 1, 1) := by decide +kernel
theorem dq_Md_parse_81 : decode prog_14_method_6_code 81 = .ok (.iload 4, 2) := by decide +kernel
theorem dq_Md_parse_83 : decode prog_14_method_6_code 83 = .ok (.invokevirtual 202, 3) := by decide +kernel
theorem dq_Md_parse_86 : decode prog_14_method_6_code 86 = .ok (.istore_n 2, 1) := by decide +kernel
theorem dq_Md_parse_87 : decode prog_14_method_6_code 87 = .ok (.iconst 0, 1) := by decide +kernel
theorem dq_Md_parse_88 : decode prog_14_method_6_code 88 = .ok (.istore 5, 2) := by decide +kernel
theorem dq_Md_parse_90 : decode prog_14_method_6_code 90 = .ok (.iload_n 3, 1) := by decide +kernel
theorem dq_Md_parse_91 : decode prog_14_method_6_code 91 = .ok (.ifCond .ne 50, 3) := by decide +kernel
theorem dq_Md_parse_94 : decode prog_14_method_6_code 94 = .ok (.iload_n 2, 1) := by decide +kernel
theorem dq_Md_parse_95 : decode prog_14_method_6_code 95 = .ok (.iload 4, 2) := by decide +kernel
theorem dq_Md_parse_97 : decode prog_14_method_6_code 97 = .ok (.if_icmp .le 44, 3) := by decide +kernel
theorem dq_Md_parse_100 : decode prog_14_method_6_code 100 = .ok (.iload 5, 2) := by decide +kernel
theorem dq_Md_parse_102 : decode prog_14_method_6_code 102 = .ok (.bipush 8, 2) := by decide +kernel
theorem dq_Md_parse_104 : decode prog_14_method_6_code 104 = .ok (.if_icmp .ne 9, 3) := by decide +kernel
theorem dq_Md_parse_107 : decode prog_14_method_6_code 107 = .ok (.sipush 431, 3) := by decide +kernel
theorem dq_Md_parse_110 : decode prog_14_method_6_code 110 = .ok (.goto 11, 3) := by decide +kernel
theorem dq_Md_parse_113 : decode prog_14_method_6_code 113 = .ok (.aload_n 0, 1) := by decide +kernel
theorem dq_Md_parse_114 : decode prog_14_method_6_code 114 = .ok (.iload_n 1, 1) := by decide +kernel
theorem dq_Md_parse_115 : decode prog_14_method_6_code 115 = .ok (.iload 4, 2) := by decide +kernel
theorem dq_Md_parse_117 : decode prog_14_method_6_code 117 = .ok (.iload_n 2, 1) := by decide +kernel
theorem dq_Md_parse_118 : decode prog_14_method_6_code 118 = .ok (.invokevirtual 216, 3) := by decide +kernel
theorem dq_Md_parse_121 : decode prog_14_method_6_code 121 = .ok (.istore_n 3, 1) := by decide +kernel
theorem dq_Md_parse_122 : decode prog_14_method_6_code 122 = .ok (.iinc 5 1, 3) := by decide +kernel
theorem dq_Md_parse_125 : decode prog_14_method_6_code 125 = .ok (.iload_n 2, 1) := by decide +kernel
theorem dq_Md_parse_126 : decode prog_14_method_6_code 126 = .ok (.iconst 1, 1) := by decide +kernel
theorem dq_Md_parse_127 : decode prog_14_method_6_code 127 = .ok (.iadd, 1) := by decide +kernel
theorem dq_Md_parse_128 : decode prog_14_method_6_code 128 = .ok (.istore 4, 2) := by decide +kernel
theorem dq_Md_parse_130 : decode prog_14_method_6_code 130 = .ok (.aload_n 0, 1) := by decide +kernel
theorem dq_Md_parse_131 : decode prog_14_method_6_code 131 = .ok (.iload_n 1, 1) := by decide +kernel
theorem dq_Md_parse_132 : decode prog_14_method_6_code 132 = .ok (.iload 4, 2) := by decide +kernel
theorem dq_Md_parse_134 : decode prog_14_method_6_code 134 = .ok (.invokevirtual 202, 3) := by decide +kernel
theorem dq_Md_parse_137 : decode prog_14_method_6_code 137 = .ok (.istore_n 2, 1) := by decide +kernel
theorem dq_Md_parse_138 : decode prog_14_method_6_code 138 = .ok (.goto (-48), 3) := by decide +kernel
theorem dq_Md_parse_141 : decode prog_14_method_6_code 141 = .ok (.iload_n 3, 1) := by decide +kernel
theorem dq_Md_parse_142 : decode prog_14_method_6_code 142 = .ok (.ifCond .eq 5, 3) := by decide +kernel
theorem dq_Md_parse_145 : decode prog_14_method_6_code 145 = .ok (.iload_n 3, 1) := by decide +kernel
theorem dq_Md_parse_146 : decode prog_14_method_6_code 146 = .ok (.ireturn, 1) := by decide +kernel
theorem dq_Md_parse_147 : decode prog_14_method_6_code 147 = .ok (.iload_n 2, 1) := by decide +kernel
theorem dq_Md_parse_148 : decode prog_14_method_6_code 148 = .ok (.ifCond .ge 16, 3) := by decide +kernel
theorem dq_Md_parse_151 : decode prog_14_method_6_code 151 = .ok (.iload_n 2, 1) := by decide +kernel
theorem dq_Md_parse_152 : decode prog_14_method_6_code 152 = .ok (.iconst (-1), 1) := by decide +kernel
theorem dq_Md_parse_153 : decode prog_14_method_6_code 153 = .ok (.if_icmp .ne 7, 3) := by decide +kernel
theorem dq_Md_parse_156 : decode prog_14_method_6_code 156 = .ok (.iconst 0, 1) := by decide +kernel
theorem dq_Md_parse_157 : decode prog_14_method_6_code 157 = .ok (.goto 6, 3) := by decide +kernel
theorem dq_Md_parse_160 : decode prog_14_method_6_code 160 = .ok (.sipush 431, 3) := by decide +kernel
theorem dq_Md_parse_163 : decode prog_14_method_6_code 163 = .ok (.ireturn, 1) := by decide +kernel
theorem dq_Md_parse_164 : decode prog_14_method_6_code 164 = .ok (.aload_n 0, 1) := by decide +kernel
theorem dq_Md_parse_165 : decode prog_14_method_6_code 165 = .ok (.getfield 209, 3) := by decide +kernel
theorem dq_Md_parse_168 : decode prog_14_method_6_code 168 = .ok (.ifCond .lt 16, 3) := by decide +kernel
theorem dq_Md_parse_171 : decode prog_14_method_6_code 171 = .ok (.aload_n 0, 1) := by decide +kernel
theorem dq_Md_parse_172 : decode prog_14_method_6_code 172 = .ok (.getfield 212, 3) := by decide +kernel
theorem dq_Md_parse_175 : decode prog_14_method_6_code 175 = .ok (.ifCond .eq 9, 3) := by decide +kernel
theorem dq_Md_parse_178 : decode prog_14_method_6_code 178 = .ok (.sipush 400, 3) := by decide +kernel
theorem dq_Md_parse_181 : decode prog_14_method_6_code 181 = .ok (.goto 46, 3) := by decide +kernel
theorem dq_Md_parse_184 : decode prog_14_method_6_code 184 = .ok (.aload_n 0, 1) := by decide +kernel
theorem dq_Md_parse_185 : decode prog_14_method_6_code 185 = .ok (.getfield 209, 3) := by decide +kernel
theorem dq_Md_parse_188 : decode prog_14_method_6_code 188 = .ok (.bipush 8, 2) := by decide +kernel
theorem dq_Md_parse_190 : decode prog_14_method_6_code 190 = .ok (.if_icmp .le 9, 3) := by decide +kernel
theorem dq_Md_parse_193 : decode prog_14_method_6_code 193 = .ok (.sipush 413, 3) := by decide +kernel
theorem dq_Md_parse_196 : decode prog_14_method_6_code 196 = .ok (.goto 31, 3) := by decide +kernel
theorem dq_Md_parse_199 : decode prog_14_method_6_code 199 = .ok (.aload_n 0, 1) := by decide +kernel
theorem dq_Md_parse_200 : decode prog_14_method_6_code 200 = .ok (.getfield 212, 3) := by decide +kernel
theorem dq_Md_parse_203 : decode prog_14_method_6_code 203 = .ok (.ifCond .eq 15, 3) := by decide +kernel
theorem dq_Md_parse_206 : decode prog_14_method_6_code 206 = .ok (.aload_n 0, 1) := by decide +kernel
theorem dq_Md_parse_207 : decode prog_14_method_6_code 207 = .ok (.iload_n 1, 1) := by decide +kernel
theorem dq_Md_parse_208 : decode prog_14_method_6_code 208 = .ok (.iload 4, 2) := by decide +kernel
theorem dq_Md_parse_210 : decode prog_14_method_6_code 210 = .ok (.iconst 1, 1) := by decide +kernel
theorem dq_Md_parse_211 : decode prog_14_method_6_code 211 = .ok (.iadd, 1) := by decide +kernel
theorem dq_Md_parse_212 : decode prog_14_method_6_code 212 = .ok (.invokevirtual 220, 3) := by decide +kernel
theorem dq_Md_parse_215 : decode prog_14_method_6_code 215 = .ok (.goto 12, 3) := by decide +kernel
theorem dq_Md_parse_218 : decode prog_14_method_6_code 218 = .ok (.aload_n 0, 1) := by decide +kernel
theorem dq_Md_parse_219 : decode prog_14_method_6_code 219 = .ok (.iload_n 1, 1) := by decide +kernel
theorem dq_Md_parse_220 : decode prog_14_method_6_code 220 = .ok (.iload 4, 2) := by decide +kernel
theorem dq_Md_parse_222 : decode prog_14_method_6_code 222 = .ok (.iconst 1, 1) := by decide +kernel
theorem dq_Md_parse_223 : decode prog_14_method_6_code 223 = .ok (.iadd, 1) := by decide +kernel
theorem dq_Md_parse_224 : decode prog_14_method_6_code 224 = .ok (.invokevirtual 223, 3) := by decide +kernel
theorem dq_Md_parse_227 : decode prog_14_method_6_code 227 = .ok (.ireturn, 1) := by decide +kernel
set_option maxRecDepth 100000 in
def pq_Md_parse_227 (E : wo_E) (mc ms : Nat) (Post : Int32 → wo_W → Prop) (G : wo_W) (c s : Nat) (y0 : Int32) : Prop := Post y0 G
set_option maxRecDepth 100000 in
def pq_Md_parse_184 (E : wo_E) (mc ms : Nat) (Post : Int32 → wo_W → Prop) (G : wo_W) (c s : Nat) (x0 : Nat) (x1 : Int32) (x4 : Int32) : Prop := wo_ty G x0 = 15 ∧ (((wo_gi G 914 x0) ≤ (8 : Int32) → (((wo_gi G 915 x0) = (0 : Int32) → ∃ mc2 ms3 : Nat, (c + mc2) ≤ mc ∧ (s + ms3) ≤ ms ∧ pq_Md_plainBody E mc2 ms3 (fun v5 G4 => 
      pq_Md_parse_227 E mc ms Post G4 (c + mc2) (s + ms3) v5) G x0 x1 (x4 + (1 : Int32))) ∧
    (¬ (wo_gi G 915 x0) = (0 : Int32) → ∃ mc6 ms7 : Nat, (c + mc6) ≤ mc ∧ (s + ms7) ≤ ms ∧ pq_Md_chunks E mc6 ms7 (fun v9 G8 => 
      pq_Md_parse_227 E mc ms Post G8 (c + mc6) (s + ms7) v9) G x0 x1 (x4 + (1 : Int32))))) ∧
  (¬ (wo_gi G 914 x0) ≤ (8 : Int32) → pq_Md_parse_227 E mc ms Post G c s (413 : Int32)))
set_option maxRecDepth 100000 in
def pq_Md_parse_163 (E : wo_E) (mc ms : Nat) (Post : Int32 → wo_W → Prop) (G : wo_W) (c s : Nat) (y0 : Int32) : Prop := Post y0 G
set_option maxRecDepth 100000 in
def pq_Md_parse_141 (E : wo_E) (mc ms : Nat) (Post : Int32 → wo_W → Prop) (G : wo_W) (c s : Nat) (x0 : Nat) (x1 : Int32) (x2 : Int32) (x3 : Int32) (x4 : Int32) : Prop := ((x3 = (0 : Int32) → (((0 : Int32) ≤ x2 → wo_ty G x0 = 15 ∧ (((wo_gi G 914 x0) < (0 : Int32) → pq_Md_parse_184 E mc ms Post G c s x0 x1 x4) ∧
      (¬ (wo_gi G 914 x0) < (0 : Int32) → (((wo_gi G 915 x0) = (0 : Int32) → pq_Md_parse_184 E mc ms Post G c s x0 x1 x4) ∧
        (¬ (wo_gi G 915 x0) = (0 : Int32) → pq_Md_parse_227 E mc ms Post G c s (400 : Int32)))))) ∧
    (¬ (0 : Int32) ≤ x2 → ((¬ x2 = (-1 : Int32) → pq_Md_parse_163 E mc ms Post G c s (431 : Int32)) ∧
      (x2 = (-1 : Int32) → pq_Md_parse_163 E mc ms Post G c s (0 : Int32)))))) ∧
  (¬ x3 = (0 : Int32) → Post x3 G))
set_option maxRecDepth 100000 in
def pq_Md_parse_121 (E : wo_E) (mc ms : Nat) (Post : Int32 → wo_W → Prop) (k90 : wo_W → Nat → Nat → Nat → Int32 → Int32 → Int32 → Int32 → Int32 → Prop) (G : wo_W) (c s : Nat) (x0 : Nat) (x1 : Int32) (x2 : Int32) (x5 : Int32) (y0 : Int32) : Prop := wo_ty G x0 = 15 ∧ ∃ mc2 ms3 : Nat, (c + mc2) ≤ mc ∧ (s + ms3) ≤ ms ∧ pq_Md_lineEnd E mc2 ms3 (fun v5 G4 => 
  k90 G4 (c + mc2) (s + ms3) x0 x1 v5 y0 (x2 + (1 : Int32)) (x5 + (1 : Int32))) G x0 x1 (x2 + (1 : Int32))
set_option maxRecDepth 100000 in
def pq_Md_parse_90 (E : wo_E) (mc ms : Nat) (Post : Int32 → wo_W → Prop) : Nat → wo_W → Nat → Nat → Nat → Int32 → Int32 → Int32 → Int32 → Int32 → Prop
  | 0 => fun _ _ _ _ _ _ _ _ _ => False
  | n + 1 => fun G c s x0 x1 x2 x3 x4 x5 => ((¬ x3 = (0 : Int32) → pq_Md_parse_141 E mc ms Post G c s x0 x1 x2 x3 x4) ∧
  (x3 = (0 : Int32) → ((x2 ≤ x4 → pq_Md_parse_141 E mc ms Post G c s x0 x1 x2 x3 x4) ∧
    (¬ x2 ≤ x4 → ((¬ x5 = (8 : Int32) → wo_ty G x0 = 15 ∧ ∃ mc2 ms3 : Nat, (c + mc2) ≤ mc ∧ (s + ms3) ≤ ms ∧ pq_Md_header E mc2 ms3 (fun v5 G4 => 
        pq_Md_parse_121 E mc ms Post (pq_Md_parse_90 E mc ms Post n) G4 (c + mc2) (s + ms3) x0 x1 x2 x5 v5) G x0 x1 x4 x2) ∧
      (x5 = (8 : Int32) → pq_Md_parse_121 E mc ms Post (pq_Md_parse_90 E mc ms Post n) G c s x0 x1 x2 x5 (431 : Int32)))))))
set_option maxRecDepth 100000 in
def pq_Md_parse_35 (E : wo_E) (mc ms : Nat) (Post : Int32 → wo_W → Prop) : Nat → wo_W → Nat → Nat → Nat → Int32 → Int32 → Int32 → Int32 → Prop
  | 0 => fun _ _ _ _ _ _ _ _ => False
  | n + 1 => fun G c s x0 x1 x2 x3 x4 => (((72 : Int32) ≤ x4 → wo_ty G x0 = 15 ∧ en_bs E ≤ x0 ∧ ∀ G3 : wo_W, G3 = wo_si G 914 x0 (-1 : Int32) → 
    en_bs E ≤ x0 ∧ wo_okI .boolean (0 : Int32) ∧ ∀ G7 : wo_W, G7 = wo_si G3 915 x0 (0 : Int32) → 
    ∃ mc9 ms10 : Nat, (c + mc9) ≤ mc ∧ (s + ms10) ≤ ms ∧ pq_Md_lineEnd E mc9 ms10 (fun v12 G11 => 
    ∃ n1 : Nat, pq_Md_parse_90 E mc ms Post n1 G11 (c + mc9) (s + ms10) x0 x1 v12 x3 (x2 + (1 : Int32)) (0 : Int32)) G7 x0 x1 (x2 + (1 : Int32))) ∧
  (¬ (72 : Int32) ≤ x4 → wo_ty G x0 = 15 ∧ ∀ r14 : Option Nat, r14 = wo_gr G 911 x0 → ∃ a16 : Nat, r14 = some a16 ∧ wo_ty G a16 = 66 ∧ vp_in x4 (wo_len G a16) ∧ en_bs E ≤ a16 ∧ ∀ G20 : wo_W, G20 = wo_sei G a16 x4.toNatClampNeg (-1 : Int32) → 
    ∀ r22 : Option Nat, r22 = wo_gr G20 910 x0 → ∃ a24 : Nat, r22 = some a24 ∧ wo_ty G20 a24 = 73 ∧ vp_in x4 (wo_len G20 a24) ∧ en_bs E ≤ a24 ∧ ∀ G28 : wo_W, G28 = wo_sel G20 a24 x4.toNatClampNeg (0 : Int64) → 
    pq_Md_parse_35 E mc ms Post n G28 c s x0 x1 x2 x3 (x4 + (1 : Int32))))
set_option maxRecDepth 100000 in
def pq_Md_parse_23 (E : wo_E) (mc ms : Nat) (Post : Int32 → wo_W → Prop) (G : wo_W) (c s : Nat) (y0 : Int32) : Prop := Post y0 G
set_option maxRecDepth 100000 in
def pq_Md_parse_0 (E : wo_E) (mc ms : Nat) (Post : Int32 → wo_W → Prop) (G : wo_W) (c s : Nat) (x0 : Nat) (x1 : Int32) : Prop := wo_ty G x0 = 15 ∧ ∃ mc2 ms3 : Nat, (c + mc2) ≤ mc ∧ (s + ms3) ≤ ms ∧ pq_Md_lineEnd E mc2 ms3 (fun v5 G4 => 
  (((0 : Int32) ≤ v5 → wo_ty G4 x0 = 15 ∧ ∃ mc7 ms8 : Nat, ((c + mc2) + mc7) ≤ mc ∧ ((s + ms3) + ms8) ≤ ms ∧ pq_Md_requestLine E mc7 ms8 (fun v10 G9 => 
      ∃ n1 : Nat, pq_Md_parse_35 E mc ms Post n1 G9 ((c + mc2) + mc7) ((s + ms3) + ms8) x0 x1 v5 v10 (64 : Int32)) G4 x0 x1 v5) ∧
    (¬ (0 : Int32) ≤ v5 → ((¬ v5 = (-1 : Int32) → pq_Md_parse_23 E mc ms Post G4 (c + mc2) (s + ms3) (431 : Int32)) ∧
      (v5 = (-1 : Int32) → pq_Md_parse_23 E mc ms Post G4 (c + mc2) (s + ms3) (0 : Int32)))))) G x0 x1 (0 : Int32)
def pq_Md_parse (E : wo_E) (mc ms : Nat) (Post : Int32 → wo_W → Prop) (G : wo_W) (x0 : Nat) (x1 : Int32) : Prop := pq_Md_parse_0 E mc ms Post G 0 0 x0 x1
set_option maxRecDepth 100000 in
set_option maxHeartbeats 4000000 in
theorem tq_Md_parse_227 {p : Program} {l : Launch} {e : Env} {R : Room} {s₀ : State} {m : MethodId} {args : Array Value} {below : List Frame} {meth : Method} {cd : Code} {E : wo_E} {mc ms : Nat} {Post : Int32 → wo_W → Prop} (hC : wo_Cx E "EdgeCacheModel" prog_14_method_6_code 6 3 77 ((Option.some Jvm.ClassFile.FieldType.int)) "parse" mc ms p R s₀ m args meth cd) : ∀ {G : wo_W} {c s : Nat} {y0 : Int32}, pq_Md_parse_227 E mc ms Post G c s y0 → ∀ {H : Heap} {locs : List Loc} {ls : Array Slot}, wo_Se E G H → va_S (en_A E) s₀.heap H locs → lx_has ls 6 [] → c ≤ mc → s ≤ ms → W p l e R s₀ m args below meth cd H locs c s (MQ below (va_Qi Post (wo_B E) (en_A E)) args s₀ mc ms (en_A E)) (F0 m 227 ls [.int y0]) := by
  intro G c s y0 hw H locs ls hG hS hl hcc hss
  dsimp only [pq_Md_parse_227] at hw
  have hx := hC.1
  have hb := hC.2.1
  exact wo_iret hC hG hS hcc hss hw dq_Md_parse_227
set_option maxRecDepth 100000 in
set_option maxHeartbeats 4000000 in
theorem tq_Md_parse_184 {p : Program} {l : Launch} {e : Env} {R : Room} {s₀ : State} {m : MethodId} {args : Array Value} {below : List Frame} {meth : Method} {cd : Code} {E : wo_E} {mc ms : Nat} {Post : Int32 → wo_W → Prop} (hC : wo_Cx E "EdgeCacheModel" prog_14_method_6_code 6 3 77 ((Option.some Jvm.ClassFile.FieldType.int)) "parse" mc ms p R s₀ m args meth cd) : ∀ {G : wo_W} {c s : Nat} {x0 : Nat} {x1 : Int32} {x4 : Int32}, pq_Md_parse_184 E mc ms Post G c s x0 x1 x4 → ∀ {H : Heap} {locs : List Loc} {ls : Array Slot}, wo_Se E G H → va_S (en_A E) s₀.heap H locs → lx_has ls 6 [(0, 1, .ref x0), (1, 1, .int x1), (4, 1, .int x4)] → c ≤ mc → s ≤ ms → W p l e R s₀ m args below meth cd H locs c s (MQ below (va_Qi Post (wo_B E) (en_A E)) args s₀ mc ms (en_A E)) (F0 m 184 ls []) := by
  intro G c s x0 x1 x4 hw H locs ls hG hS hl hcc hss
  dsimp only [pq_Md_parse_184] at hw
  have hx := hC.1
  have hb := hC.2.1
  refine lv_aload_n hx hb dq_Md_parse_184 rfl (lx_at hl 0 rfl) ?_
  obtain ⟨t1, hw⟩ := hw
  refine wo_getI hC fq_Md_209 rfl hG t1 dq_Md_parse_185 ?_
  refine lv_bipush (v := (8 : Int32)) hx hb dq_Md_parse_188 rfl ?_
  refine lv_icmp_le (tgt := 199) hx hb dq_Md_parse_190 rfl (fun h => ?_) (fun h => ?_)
  · replace hw := hw.1 h
    refine lv_aload_n hx hb dq_Md_parse_199 rfl (lx_at hl 0 rfl) ?_
    refine wo_getI hC fq_Md_212 rfl hG t1 dq_Md_parse_200 ?_
    refine lv_if_eq (tgt := 218) hx hb dq_Md_parse_203 rfl (fun h => ?_) (fun h => ?_)
    · replace hw := hw.1 h
      refine lv_aload_n hx hb dq_Md_parse_218 rfl (lx_at hl 0 rfl) ?_
      refine lv_iload_n hx hb dq_Md_parse_219 rfl (lx_at hl 1 rfl) ?_
      refine lv_iload hx hb dq_Md_parse_220 (lx_at hl 2 rfl) ?_
      refine lv_iconst (v := (1 : Int32)) hx hb dq_Md_parse_222 rfl ?_
      refine lv_iadd hx hb dq_Md_parse_223 ?_
      obtain ⟨mc2, ms3, hc1, hs1, hw⟩ := hw
      refine va_calli (wo_runV hC lq_Md_223 (mq_Md_plainBody hw) hG hS t1 rfl (lx_sz hl) rfl (Nat.zero_le _) (by decide) dq_Md_parse_224 ⟨hc1, hs1⟩) hS (fun _ _ h => h) (fun _ h => h) (fun v5 G4 t H locs ht hvm hw' hB _ _ hS => ?_)
      clear hw
      have hw := hw'
      clear hw'
      replace hG := wo_bk ht hB
      replace hcc := hc1
      replace hss := hs1
      exact tq_Md_parse_227 hC hw hG hS (lx_sub hl [] rfl) hcc hss
    · replace hw := hw.2 h
      refine lv_aload_n hx hb dq_Md_parse_206 rfl (lx_at hl 0 rfl) ?_
      refine lv_iload_n hx hb dq_Md_parse_207 rfl (lx_at hl 1 rfl) ?_
      refine lv_iload hx hb dq_Md_parse_208 (lx_at hl 2 rfl) ?_
      refine lv_iconst (v := (1 : Int32)) hx hb dq_Md_parse_210 rfl ?_
      refine lv_iadd hx hb dq_Md_parse_211 ?_
      obtain ⟨mc6, ms7, hc1, hs1, hw⟩ := hw
      refine va_calli (wo_runV hC lq_Md_220 (mq_Md_chunks hw) hG hS t1 rfl (lx_sz hl) rfl (Nat.zero_le _) (by decide) dq_Md_parse_212 ⟨hc1, hs1⟩) hS (fun _ _ h => h) (fun _ h => h) (fun v9 G8 t H locs ht hvm hw' hB _ _ hS => ?_)
      clear hw
      have hw := hw'
      clear hw'
      replace hG := wo_bk ht hB
      replace hcc := hc1
      replace hss := hs1
      refine lv_goto (tgt := 227) hx hb dq_Md_parse_215 rfl ?_
      exact tq_Md_parse_227 hC hw hG hS (lx_sub hl [] rfl) hcc hss
  · replace hw := hw.2 h
    refine lv_sipush (v := (413 : Int32)) hx hb dq_Md_parse_193 rfl ?_
    refine lv_goto (tgt := 227) hx hb dq_Md_parse_196 rfl ?_
    exact tq_Md_parse_227 hC hw hG hS (lx_sub hl [] rfl) hcc hss
set_option maxRecDepth 100000 in
set_option maxHeartbeats 4000000 in
theorem tq_Md_parse_163 {p : Program} {l : Launch} {e : Env} {R : Room} {s₀ : State} {m : MethodId} {args : Array Value} {below : List Frame} {meth : Method} {cd : Code} {E : wo_E} {mc ms : Nat} {Post : Int32 → wo_W → Prop} (hC : wo_Cx E "EdgeCacheModel" prog_14_method_6_code 6 3 77 ((Option.some Jvm.ClassFile.FieldType.int)) "parse" mc ms p R s₀ m args meth cd) : ∀ {G : wo_W} {c s : Nat} {y0 : Int32}, pq_Md_parse_163 E mc ms Post G c s y0 → ∀ {H : Heap} {locs : List Loc} {ls : Array Slot}, wo_Se E G H → va_S (en_A E) s₀.heap H locs → lx_has ls 6 [] → c ≤ mc → s ≤ ms → W p l e R s₀ m args below meth cd H locs c s (MQ below (va_Qi Post (wo_B E) (en_A E)) args s₀ mc ms (en_A E)) (F0 m 163 ls [.int y0]) := by
  intro G c s y0 hw H locs ls hG hS hl hcc hss
  dsimp only [pq_Md_parse_163] at hw
  have hx := hC.1
  have hb := hC.2.1
  exact wo_iret hC hG hS hcc hss hw dq_Md_parse_163
set_option maxRecDepth 100000 in
set_option maxHeartbeats 4000000 in
theorem tq_Md_parse_141 {p : Program} {l : Launch} {e : Env} {R : Room} {s₀ : State} {m : MethodId} {args : Array Value} {below : List Frame} {meth : Method} {cd : Code} {E : wo_E} {mc ms : Nat} {Post : Int32 → wo_W → Prop} (hC : wo_Cx E "EdgeCacheModel" prog_14_method_6_code 6 3 77 ((Option.some Jvm.ClassFile.FieldType.int)) "parse" mc ms p R s₀ m args meth cd) : ∀ {G : wo_W} {c s : Nat} {x0 : Nat} {x1 : Int32} {x2 : Int32} {x3 : Int32} {x4 : Int32}, pq_Md_parse_141 E mc ms Post G c s x0 x1 x2 x3 x4 → ∀ {H : Heap} {locs : List Loc} {ls : Array Slot}, wo_Se E G H → va_S (en_A E) s₀.heap H locs → lx_has ls 6 [(0, 1, .ref x0), (1, 1, .int x1), (2, 1, .int x2), (3, 1, .int x3), (4, 1, .int x4)] → c ≤ mc → s ≤ ms → W p l e R s₀ m args below meth cd H locs c s (MQ below (va_Qi Post (wo_B E) (en_A E)) args s₀ mc ms (en_A E)) (F0 m 141 ls []) := by
  intro G c s x0 x1 x2 x3 x4 hw H locs ls hG hS hl hcc hss
  dsimp only [pq_Md_parse_141] at hw
  have hx := hC.1
  have hb := hC.2.1
  refine lv_iload_n hx hb dq_Md_parse_141 rfl (lx_at hl 3 rfl) ?_
  refine lv_if_eq (tgt := 147) hx hb dq_Md_parse_142 rfl (fun h => ?_) (fun h => ?_)
  · replace hw := hw.1 h
    refine lv_iload_n hx hb dq_Md_parse_147 rfl (lx_at hl 2 rfl) ?_
    refine lv_if_ge (tgt := 164) hx hb dq_Md_parse_148 rfl (fun h => ?_) (fun h => ?_)
    · replace hw := hw.1 h
      refine lv_aload_n hx hb dq_Md_parse_164 rfl (lx_at hl 0 rfl) ?_
      obtain ⟨t1, hw⟩ := hw
      refine wo_getI hC fq_Md_209 rfl hG t1 dq_Md_parse_165 ?_
      refine lv_if_lt (tgt := 184) hx hb dq_Md_parse_168 rfl (fun h => ?_) (fun h => ?_)
      · replace hw := hw.1 h
        exact tq_Md_parse_184 hC hw hG hS (lx_sub hl [0, 1, 4] rfl) hcc hss
      · replace hw := hw.2 h
        refine lv_aload_n hx hb dq_Md_parse_171 rfl (lx_at hl 0 rfl) ?_
        refine wo_getI hC fq_Md_212 rfl hG t1 dq_Md_parse_172 ?_
        refine lv_if_eq (tgt := 184) hx hb dq_Md_parse_175 rfl (fun h => ?_) (fun h => ?_)
        · replace hw := hw.1 h
          exact tq_Md_parse_184 hC hw hG hS (lx_sub hl [0, 1, 4] rfl) hcc hss
        · replace hw := hw.2 h
          refine lv_sipush (v := (400 : Int32)) hx hb dq_Md_parse_178 rfl ?_
          refine lv_goto (tgt := 227) hx hb dq_Md_parse_181 rfl ?_
          exact tq_Md_parse_227 hC hw hG hS (lx_sub hl [] rfl) hcc hss
    · replace hw := hw.2 h
      refine lv_iload_n hx hb dq_Md_parse_151 rfl (lx_at hl 2 rfl) ?_
      refine lv_iconst (v := (-1 : Int32)) hx hb dq_Md_parse_152 rfl ?_
      refine lv_icmp_ne (tgt := 160) hx hb dq_Md_parse_153 rfl (fun h => ?_) (fun h => ?_)
      · replace hw := hw.1 h
        refine lv_sipush (v := (431 : Int32)) hx hb dq_Md_parse_160 rfl ?_
        exact tq_Md_parse_163 hC hw hG hS (lx_sub hl [] rfl) hcc hss
      · replace hw := hw.2 h
        refine lv_iconst (v := (0 : Int32)) hx hb dq_Md_parse_156 rfl ?_
        refine lv_goto (tgt := 163) hx hb dq_Md_parse_157 rfl ?_
        exact tq_Md_parse_163 hC hw hG hS (lx_sub hl [] rfl) hcc hss
  · replace hw := hw.2 h
    refine lv_iload_n hx hb dq_Md_parse_145 rfl (lx_at hl 3 rfl) ?_
    exact wo_iret hC hG hS hcc hss hw dq_Md_parse_146
set_option maxRecDepth 100000 in
set_option maxHeartbeats 4000000 in
theorem tq_Md_parse_121 {p : Program} {l : Launch} {e : Env} {R : Room} {s₀ : State} {m : MethodId} {args : Array Value} {below : List Frame} {meth : Method} {cd : Code} {E : wo_E} {mc ms : Nat} {Post : Int32 → wo_W → Prop} {k90 : wo_W → Nat → Nat → Nat → Int32 → Int32 → Int32 → Int32 → Int32 → Prop} (hC : wo_Cx E "EdgeCacheModel" prog_14_method_6_code 6 3 77 ((Option.some Jvm.ClassFile.FieldType.int)) "parse" mc ms p R s₀ m args meth cd) (hk90 : ∀ {G : wo_W} {c s : Nat} {x0 : Nat} {x1 : Int32} {x2 : Int32} {x3 : Int32} {x4 : Int32} {x5 : Int32}, k90 G c s x0 x1 x2 x3 x4 x5 → ∀ {H : Heap} {locs : List Loc} {ls : Array Slot}, wo_Se E G H → va_S (en_A E) s₀.heap H locs → lx_has ls 6 [(0, 1, .ref x0), (1, 1, .int x1), (2, 1, .int x2), (3, 1, .int x3), (4, 1, .int x4), (5, 1, .int x5)] → c ≤ mc → s ≤ ms → W p l e R s₀ m args below meth cd H locs c s (MQ below (va_Qi Post (wo_B E) (en_A E)) args s₀ mc ms (en_A E)) (F0 m 90 ls [])) : ∀ {G : wo_W} {c s : Nat} {x0 : Nat} {x1 : Int32} {x2 : Int32} {x5 : Int32} {y0 : Int32}, pq_Md_parse_121 E mc ms Post k90 G c s x0 x1 x2 x5 y0 → ∀ {H : Heap} {locs : List Loc} {ls : Array Slot}, wo_Se E G H → va_S (en_A E) s₀.heap H locs → lx_has ls 6 [(0, 1, .ref x0), (1, 1, .int x1), (2, 1, .int x2), (5, 1, .int x5)] → c ≤ mc → s ≤ ms → W p l e R s₀ m args below meth cd H locs c s (MQ below (va_Qi Post (wo_B E) (en_A E)) args s₀ mc ms (en_A E)) (F0 m 121 ls [.int y0]) := by
  intro G c s x0 x1 x2 x5 y0 hw H locs ls hG hS hl hcc hss
  dsimp only [pq_Md_parse_121] at hw
  have hx := hC.1
  have hb := hC.2.1
  refine lx_istore_n (lv' := [(3, 1, .int y0), (0, 1, .ref x0), (1, 1, .int x1), (2, 1, .int x2), (5, 1, .int x5)]) hx hb dq_Md_parse_121 rfl hl (by decide) rfl (fun ls hl' => ?_)
  clear hl
  have hl := hl'
  clear hl'
  refine lx_iinc (k := 4) (v := (x5 + (1 : Int32))) (lv' := [(5, 1, .int (x5 + (1 : Int32))), (3, 1, .int y0), (0, 1, .ref x0), (1, 1, .int x1), (2, 1, .int x2)]) hx hb dq_Md_parse_122 hl rfl rfl (by decide) rfl (fun ls hl' => ?_)
  clear hl
  have hl := hl'
  clear hl'
  refine lv_iload_n hx hb dq_Md_parse_125 rfl (lx_at hl 4 rfl) ?_
  refine lv_iconst (v := (1 : Int32)) hx hb dq_Md_parse_126 rfl ?_
  refine lv_iadd hx hb dq_Md_parse_127 ?_
  refine lx_istore (lv' := [(4, 1, .int (x2 + (1 : Int32))), (5, 1, .int (x5 + (1 : Int32))), (3, 1, .int y0), (0, 1, .ref x0), (1, 1, .int x1), (2, 1, .int x2)]) hx hb dq_Md_parse_128 hl (by decide) rfl (fun ls hl' => ?_)
  clear hl
  have hl := hl'
  clear hl'
  refine lv_aload_n hx hb dq_Md_parse_130 rfl (lx_at hl 3 rfl) ?_
  refine lv_iload_n hx hb dq_Md_parse_131 rfl (lx_at hl 4 rfl) ?_
  refine lv_iload hx hb dq_Md_parse_132 (lx_at hl 0 rfl) ?_
  obtain ⟨t1, hw⟩ := hw
  obtain ⟨mc2, ms3, hc1, hs1, hw⟩ := hw
  refine va_calli (wo_runV hC lq_Md_202 (mq_Md_lineEnd hw) hG hS t1 rfl (lx_sz hl) rfl (Nat.zero_le _) (by decide) dq_Md_parse_134 ⟨hc1, hs1⟩) hS (fun _ _ h => h) (fun _ h => h) (fun v5 G4 t H locs ht hvm hw' hB _ _ hS => ?_)
  clear hw
  have hw := hw'
  clear hw'
  replace hG := wo_bk ht hB
  replace hcc := hc1
  replace hss := hs1
  refine lx_istore_n (lv' := [(2, 1, .int v5), (4, 1, .int (x2 + (1 : Int32))), (5, 1, .int (x5 + (1 : Int32))), (3, 1, .int y0), (0, 1, .ref x0), (1, 1, .int x1)]) hx hb dq_Md_parse_137 rfl hl (by decide) rfl (fun ls hl' => ?_)
  clear hl
  have hl := hl'
  clear hl'
  refine lv_goto (tgt := 90) hx hb dq_Md_parse_138 rfl ?_
  exact hk90 hw hG hS (lx_sub hl [4, 5, 0, 3, 1, 2] rfl) hcc hss
set_option maxRecDepth 100000 in
set_option maxHeartbeats 4000000 in
theorem tq_Md_parse_90 {p : Program} {l : Launch} {e : Env} {R : Room} {s₀ : State} {m : MethodId} {args : Array Value} {below : List Frame} {meth : Method} {cd : Code} {E : wo_E} {mc ms : Nat} {Post : Int32 → wo_W → Prop} (hC : wo_Cx E "EdgeCacheModel" prog_14_method_6_code 6 3 77 ((Option.some Jvm.ClassFile.FieldType.int)) "parse" mc ms p R s₀ m args meth cd) : ∀ n : Nat, ∀ {G : wo_W} {c s : Nat} {x0 : Nat} {x1 : Int32} {x2 : Int32} {x3 : Int32} {x4 : Int32} {x5 : Int32}, pq_Md_parse_90 E mc ms Post n G c s x0 x1 x2 x3 x4 x5 → ∀ {H : Heap} {locs : List Loc} {ls : Array Slot}, wo_Se E G H → va_S (en_A E) s₀.heap H locs → lx_has ls 6 [(0, 1, .ref x0), (1, 1, .int x1), (2, 1, .int x2), (3, 1, .int x3), (4, 1, .int x4), (5, 1, .int x5)] → c ≤ mc → s ≤ ms → W p l e R s₀ m args below meth cd H locs c s (MQ below (va_Qi Post (wo_B E) (en_A E)) args s₀ mc ms (en_A E)) (F0 m 90 ls []) := by
  intro n
  induction n with
  | zero => intro G c s x0 x1 x2 x3 x4 x5 hw; exact hw.elim
  | succ n ih =>
    intro G c s x0 x1 x2 x3 x4 x5 hw H locs ls hG hS hl hcc hss
    dsimp only [pq_Md_parse_90] at hw
    have hx := hC.1
    have hb := hC.2.1
    refine lv_iload_n hx hb dq_Md_parse_90 rfl (lx_at hl 3 rfl) ?_
    refine lv_if_ne (tgt := 141) hx hb dq_Md_parse_91 rfl (fun h => ?_) (fun h => ?_)
    · replace hw := hw.1 h
      exact tq_Md_parse_141 hC hw hG hS (lx_sub hl [0, 1, 2, 3, 4] rfl) hcc hss
    · replace hw := hw.2 h
      refine lv_iload_n hx hb dq_Md_parse_94 rfl (lx_at hl 2 rfl) ?_
      refine lv_iload hx hb dq_Md_parse_95 (lx_at hl 4 rfl) ?_
      refine lv_icmp_le (tgt := 141) hx hb dq_Md_parse_97 rfl (fun h => ?_) (fun h => ?_)
      · replace hw := hw.1 h
        exact tq_Md_parse_141 hC hw hG hS (lx_sub hl [0, 1, 2, 3, 4] rfl) hcc hss
      · replace hw := hw.2 h
        refine lv_iload hx hb dq_Md_parse_100 (lx_at hl 5 rfl) ?_
        refine lv_bipush (v := (8 : Int32)) hx hb dq_Md_parse_102 rfl ?_
        refine lv_icmp_ne (tgt := 113) hx hb dq_Md_parse_104 rfl (fun h => ?_) (fun h => ?_)
        · replace hw := hw.1 h
          refine lv_aload_n hx hb dq_Md_parse_113 rfl (lx_at hl 0 rfl) ?_
          refine lv_iload_n hx hb dq_Md_parse_114 rfl (lx_at hl 1 rfl) ?_
          refine lv_iload hx hb dq_Md_parse_115 (lx_at hl 4 rfl) ?_
          refine lv_iload_n hx hb dq_Md_parse_117 rfl (lx_at hl 2 rfl) ?_
          obtain ⟨t1, hw⟩ := hw
          obtain ⟨mc2, ms3, hc1, hs1, hw⟩ := hw
          refine va_calli (wo_runV hC lq_Md_216 (mq_Md_header hw) hG hS t1 rfl (lx_sz hl) rfl (Nat.zero_le _) (by decide) dq_Md_parse_118 ⟨hc1, hs1⟩) hS (fun _ _ h => h) (fun _ h => h) (fun v5 G4 t H locs ht hvm hw' hB _ _ hS => ?_)
          clear hw
          have hw := hw'
          clear hw'
          replace hG := wo_bk ht hB
          replace hcc := hc1
          replace hss := hs1
          exact tq_Md_parse_121 hC ih hw hG hS (lx_sub hl [0, 1, 2, 5] rfl) hcc hss
        · replace hw := hw.2 h
          refine lv_sipush (v := (431 : Int32)) hx hb dq_Md_parse_107 rfl ?_
          refine lv_goto (tgt := 121) hx hb dq_Md_parse_110 rfl ?_
          exact tq_Md_parse_121 hC ih hw hG hS (lx_sub hl [0, 1, 2, 5] rfl) hcc hss
set_option maxRecDepth 100000 in
set_option maxHeartbeats 4000000 in
theorem tq_Md_parse_35 {p : Program} {l : Launch} {e : Env} {R : Room} {s₀ : State} {m : MethodId} {args : Array Value} {below : List Frame} {meth : Method} {cd : Code} {E : wo_E} {mc ms : Nat} {Post : Int32 → wo_W → Prop} (hC : wo_Cx E "EdgeCacheModel" prog_14_method_6_code 6 3 77 ((Option.some Jvm.ClassFile.FieldType.int)) "parse" mc ms p R s₀ m args meth cd) : ∀ n : Nat, ∀ {G : wo_W} {c s : Nat} {x0 : Nat} {x1 : Int32} {x2 : Int32} {x3 : Int32} {x4 : Int32}, pq_Md_parse_35 E mc ms Post n G c s x0 x1 x2 x3 x4 → ∀ {H : Heap} {locs : List Loc} {ls : Array Slot}, wo_Se E G H → va_S (en_A E) s₀.heap H locs → lx_has ls 6 [(0, 1, .ref x0), (1, 1, .int x1), (2, 1, .int x2), (3, 1, .int x3), (4, 1, .int x4)] → c ≤ mc → s ≤ ms → W p l e R s₀ m args below meth cd H locs c s (MQ below (va_Qi Post (wo_B E) (en_A E)) args s₀ mc ms (en_A E)) (F0 m 35 ls []) := by
  intro n
  induction n with
  | zero => intro G c s x0 x1 x2 x3 x4 hw; exact hw.elim
  | succ n ih =>
    intro G c s x0 x1 x2 x3 x4 hw H locs ls hG hS hl hcc hss
    dsimp only [pq_Md_parse_35] at hw
    have hx := hC.1
    have hb := hC.2.1
    refine lv_iload hx hb dq_Md_parse_35 (lx_at hl 4 rfl) ?_
    refine lv_bipush (v := (72 : Int32)) hx hb dq_Md_parse_37 rfl ?_
    refine lv_icmp_ge (tgt := 64) hx hb dq_Md_parse_39 rfl (fun h => ?_) (fun h => ?_)
    · replace hw := hw.1 h
      refine lv_aload_n hx hb dq_Md_parse_64 rfl (lx_at hl 0 rfl) ?_
      refine lv_iconst (v := (-1 : Int32)) hx hb dq_Md_parse_65 rfl ?_
      obtain ⟨t1, hw⟩ := hw
      obtain ⟨h2, hw⟩ := hw
      refine wo_putI hC fq_Md_209 (Or.inl rfl) rfl (wo_ok_int _) hG hS t1 h2 dq_Md_parse_66 (fun G3 H locs e4 hG hS => ?_)
      replace hw := hw G3 e4
      refine lv_aload_n hx hb dq_Md_parse_69 rfl (lx_at hl 0 rfl) ?_
      refine lv_iconst (v := (0 : Int32)) hx hb dq_Md_parse_70 rfl ?_
      obtain ⟨h5, hw⟩ := hw
      obtain ⟨h6, hw⟩ := hw
      refine wo_putI hC fq_Md_212 (Or.inl rfl) rfl h6 hG hS (ty_si e4 t1) h5 dq_Md_parse_71 (fun G7 H locs e8 hG hS => ?_)
      replace hw := hw G7 e8
      refine lv_iload_n hx hb dq_Md_parse_74 rfl (lx_at hl 2 rfl) ?_
      refine lv_iconst (v := (1 : Int32)) hx hb dq_Md_parse_75 rfl ?_
      refine lv_iadd hx hb dq_Md_parse_76 ?_
      refine lx_istore (lv' := [(4, 1, .int (x2 + (1 : Int32))), (0, 1, .ref x0), (1, 1, .int x1), (2, 1, .int x2), (3, 1, .int x3)]) hx hb dq_Md_parse_77 hl (by decide) rfl (fun ls hl' => ?_)
      clear hl
      have hl := hl'
      clear hl'
      refine lv_aload_n hx hb dq_Md_parse_79 rfl (lx_at hl 1 rfl) ?_
      refine lv_iload_n hx hb dq_Md_parse_80 rfl (lx_at hl 2 rfl) ?_
      refine lv_iload hx hb dq_Md_parse_81 (lx_at hl 0 rfl) ?_
      obtain ⟨mc9, ms10, hc1, hs1, hw⟩ := hw
      refine va_calli (wo_runV hC lq_Md_202 (mq_Md_lineEnd hw) hG hS (ty_si e8 (ty_si e4 t1)) rfl (lx_sz hl) rfl (Nat.zero_le _) (by decide) dq_Md_parse_83 ⟨hc1, hs1⟩) hS (fun _ _ h => h) (fun _ h => h) (fun v12 G11 t H locs ht hvm hw' hB _ _ hS => ?_)
      clear hw
      have hw := hw'
      clear hw'
      replace hG := wo_bk ht hB
      replace hcc := hc1
      replace hss := hs1
      refine lx_istore_n (lv' := [(2, 1, .int v12), (4, 1, .int (x2 + (1 : Int32))), (0, 1, .ref x0), (1, 1, .int x1), (3, 1, .int x3)]) hx hb dq_Md_parse_86 rfl hl (by decide) rfl (fun ls hl' => ?_)
      clear hl
      have hl := hl'
      clear hl'
      refine lv_iconst (v := (0 : Int32)) hx hb dq_Md_parse_87 rfl ?_
      refine lx_istore (lv' := [(5, 1, .int (0 : Int32)), (2, 1, .int v12), (4, 1, .int (x2 + (1 : Int32))), (0, 1, .ref x0), (1, 1, .int x1), (3, 1, .int x3)]) hx hb dq_Md_parse_88 hl (by decide) rfl (fun ls hl' => ?_)
      clear hl
      have hl := hl'
      clear hl'
      obtain ⟨n1, hw⟩ := hw
      exact tq_Md_parse_90 hC n1 hw hG hS (lx_sub hl [3, 4, 1, 5, 2, 0] rfl) hcc hss
    · replace hw := hw.2 h
      refine lv_aload_n hx hb dq_Md_parse_42 rfl (lx_at hl 0 rfl) ?_
      obtain ⟨t13, hw⟩ := hw
      refine wo_getR hC fq_Md_54 rfl hG t13 dq_Md_parse_43 (fun r14 e15 => ?_)
      replace hw := hw r14 e15
      refine lv_iload hx hb dq_Md_parse_46 (lx_at hl 4 rfl) ?_
      refine lv_iconst (v := (-1 : Int32)) hx hb dq_Md_parse_48 rfl ?_
      obtain ⟨a16, rfl, hw⟩ := hw
      obtain ⟨t17, hw⟩ := hw
      obtain ⟨h18, hw⟩ := hw
      obtain ⟨h19, hw⟩ := hw
      refine wo_iast (j := 2) hC rfl hG hS t17 h18 h19 dq_Md_parse_49 (fun G20 H locs e21 hG hS => ?_)
      replace hw := hw G20 e21
      refine lv_aload_n hx hb dq_Md_parse_50 rfl (lx_at hl 0 rfl) ?_
      refine wo_getR hC fq_Md_51 rfl hG (ty_sei e21 t13) dq_Md_parse_51 (fun r22 e23 => ?_)
      replace hw := hw r22 e23
      refine lv_iload hx hb dq_Md_parse_54 (lx_at hl 4 rfl) ?_
      refine lv_lconst (v := (0 : Int64)) hx hb dq_Md_parse_56 rfl ?_
      obtain ⟨a24, rfl, hw⟩ := hw
      obtain ⟨t25, hw⟩ := hw
      obtain ⟨h26, hw⟩ := hw
      obtain ⟨h27, hw⟩ := hw
      refine wo_last (j := 9) hC rfl hG hS t25 h26 h27 dq_Md_parse_57 (fun G28 H locs e29 hG hS => ?_)
      replace hw := hw G28 e29
      refine lx_iinc (k := 4) (v := (x4 + (1 : Int32))) (lv' := [(4, 1, .int (x4 + (1 : Int32))), (0, 1, .ref x0), (1, 1, .int x1), (2, 1, .int x2), (3, 1, .int x3)]) hx hb dq_Md_parse_58 hl rfl rfl (by decide) rfl (fun ls hl' => ?_)
      clear hl
      have hl := hl'
      clear hl'
      refine lv_goto (tgt := 35) hx hb dq_Md_parse_61 rfl ?_
      exact ih hw hG hS (lx_sub hl [1, 2, 3, 4, 0] rfl) hcc hss
set_option maxRecDepth 100000 in
set_option maxHeartbeats 4000000 in
theorem tq_Md_parse_23 {p : Program} {l : Launch} {e : Env} {R : Room} {s₀ : State} {m : MethodId} {args : Array Value} {below : List Frame} {meth : Method} {cd : Code} {E : wo_E} {mc ms : Nat} {Post : Int32 → wo_W → Prop} (hC : wo_Cx E "EdgeCacheModel" prog_14_method_6_code 6 3 77 ((Option.some Jvm.ClassFile.FieldType.int)) "parse" mc ms p R s₀ m args meth cd) : ∀ {G : wo_W} {c s : Nat} {y0 : Int32}, pq_Md_parse_23 E mc ms Post G c s y0 → ∀ {H : Heap} {locs : List Loc} {ls : Array Slot}, wo_Se E G H → va_S (en_A E) s₀.heap H locs → lx_has ls 6 [] → c ≤ mc → s ≤ ms → W p l e R s₀ m args below meth cd H locs c s (MQ below (va_Qi Post (wo_B E) (en_A E)) args s₀ mc ms (en_A E)) (F0 m 23 ls [.int y0]) := by
  intro G c s y0 hw H locs ls hG hS hl hcc hss
  dsimp only [pq_Md_parse_23] at hw
  have hx := hC.1
  have hb := hC.2.1
  exact wo_iret hC hG hS hcc hss hw dq_Md_parse_23
set_option maxRecDepth 100000 in
set_option maxHeartbeats 4000000 in
theorem tq_Md_parse_0 {p : Program} {l : Launch} {e : Env} {R : Room} {s₀ : State} {m : MethodId} {args : Array Value} {below : List Frame} {meth : Method} {cd : Code} {E : wo_E} {mc ms : Nat} {Post : Int32 → wo_W → Prop} (hC : wo_Cx E "EdgeCacheModel" prog_14_method_6_code 6 3 77 ((Option.some Jvm.ClassFile.FieldType.int)) "parse" mc ms p R s₀ m args meth cd) : ∀ {G : wo_W} {c s : Nat} {x0 : Nat} {x1 : Int32}, pq_Md_parse_0 E mc ms Post G c s x0 x1 → ∀ {H : Heap} {locs : List Loc} {ls : Array Slot}, wo_Se E G H → va_S (en_A E) s₀.heap H locs → lx_has ls 6 [(0, 1, .ref x0), (1, 1, .int x1)] → c ≤ mc → s ≤ ms → W p l e R s₀ m args below meth cd H locs c s (MQ below (va_Qi Post (wo_B E) (en_A E)) args s₀ mc ms (en_A E)) (F0 m 0 ls []) := by
  intro G c s x0 x1 hw H locs ls hG hS hl hcc hss
  dsimp only [pq_Md_parse_0] at hw
  have hx := hC.1
  have hb := hC.2.1
  refine lv_aload_n hx hb dq_Md_parse_0 rfl (lx_at hl 0 rfl) ?_
  refine lv_iload_n hx hb dq_Md_parse_1 rfl (lx_at hl 1 rfl) ?_
  refine lv_iconst (v := (0 : Int32)) hx hb dq_Md_parse_2 rfl ?_
  obtain ⟨t1, hw⟩ := hw
  obtain ⟨mc2, ms3, hc1, hs1, hw⟩ := hw
  refine va_calli (wo_runV hC lq_Md_202 (mq_Md_lineEnd hw) hG hS t1 rfl (lx_sz hl) rfl (Nat.zero_le _) (by decide) dq_Md_parse_3 ⟨hc1, hs1⟩) hS (fun _ _ h => h) (fun _ h => h) (fun v5 G4 t H locs ht hvm hw' hB _ _ hS => ?_)
  clear hw
  have hw := hw'
  clear hw'
  replace hG := wo_bk ht hB
  replace hcc := hc1
  replace hss := hs1
  refine lx_istore_n (lv' := [(2, 1, .int v5), (0, 1, .ref x0), (1, 1, .int x1)]) hx hb dq_Md_parse_6 rfl hl (by decide) rfl (fun ls hl' => ?_)
  clear hl
  have hl := hl'
  clear hl'
  refine lv_iload_n hx hb dq_Md_parse_7 rfl (lx_at hl 0 rfl) ?_
  refine lv_if_ge (tgt := 24) hx hb dq_Md_parse_8 rfl (fun h => ?_) (fun h => ?_)
  · replace hw := hw.1 h
    refine lv_aload_n hx hb dq_Md_parse_24 rfl (lx_at hl 1 rfl) ?_
    refine lv_iload_n hx hb dq_Md_parse_25 rfl (lx_at hl 2 rfl) ?_
    refine lv_iload_n hx hb dq_Md_parse_26 rfl (lx_at hl 0 rfl) ?_
    obtain ⟨t6, hw⟩ := hw
    obtain ⟨mc7, ms8, hc1, hs1, hw⟩ := hw
    refine va_calli (wo_runV hC lq_Md_206 (mq_Md_requestLine hw) hG hS t6 rfl (lx_sz hl) rfl (Nat.zero_le _) (by decide) dq_Md_parse_27 ⟨hc1, hs1⟩) hS (fun _ _ h => h) (fun _ h => h) (fun v10 G9 t H locs ht hvm hw' hB _ _ hS => ?_)
    clear hw
    have hw := hw'
    clear hw'
    replace hG := wo_bk ht hB
    replace hcc := hc1
    replace hss := hs1
    refine lx_istore_n (lv' := [(3, 1, .int v10), (2, 1, .int v5), (0, 1, .ref x0), (1, 1, .int x1)]) hx hb dq_Md_parse_30 rfl hl (by decide) rfl (fun ls hl' => ?_)
    clear hl
    have hl := hl'
    clear hl'
    refine lv_bipush (v := (64 : Int32)) hx hb dq_Md_parse_31 rfl ?_
    refine lx_istore (lv' := [(4, 1, .int (64 : Int32)), (3, 1, .int v10), (2, 1, .int v5), (0, 1, .ref x0), (1, 1, .int x1)]) hx hb dq_Md_parse_33 hl (by decide) rfl (fun ls hl' => ?_)
    clear hl
    have hl := hl'
    clear hl'
    obtain ⟨n1, hw⟩ := hw
    exact tq_Md_parse_35 hC n1 hw hG hS (lx_sub hl [3, 4, 2, 1, 0] rfl) hcc hss
  · replace hw := hw.2 h
    refine lv_iload_n hx hb dq_Md_parse_11 rfl (lx_at hl 0 rfl) ?_
    refine lv_iconst (v := (-1 : Int32)) hx hb dq_Md_parse_12 rfl ?_
    refine lv_icmp_ne (tgt := 20) hx hb dq_Md_parse_13 rfl (fun h => ?_) (fun h => ?_)
    · replace hw := hw.1 h
      refine lv_sipush (v := (431 : Int32)) hx hb dq_Md_parse_20 rfl ?_
      exact tq_Md_parse_23 hC hw hG hS (lx_sub hl [] rfl) hcc hss
    · replace hw := hw.2 h
      refine lv_iconst (v := (0 : Int32)) hx hb dq_Md_parse_16 rfl ?_
      refine lv_goto (tgt := 23) hx hb dq_Md_parse_17 rfl ?_
      exact tq_Md_parse_23 hC hw hG hS (lx_sub hl [] rfl) hcc hss
set_option maxHeartbeats 4000000 in
theorem mq_Md_parse {l : Launch} {E : wo_E} {mc ms : Nat} {Post : Int32 → wo_W → Prop} {G : wo_W} {x0 : Nat} {x1 : Int32} (hw : pq_Md_parse E mc ms Post G x0 x1) : Met l yq_Md_parse (Cond.code yq_Md_parse prog_14_method_6_code 6 ((Option.some Jvm.ClassFile.FieldType.int)) :: vw_WG) { frames := 3, cells := mc, slots := ms, locals := 77 } (va_Pc [.ref x0, .int x1] (wo_Ok E G)) (va_Qi Post (wo_B E) (en_A E)) mc ms (en_A E) := by
  unfold pq_Md_parse at hw
  exact wo_met [(1, .ref x0), (1, .int x1)] rfl (by decide) (fun q hq => by simp only [List.mem_cons, List.not_mem_nil, or_false] at hq; rcases hq with rfl | rfl <;> first | rfl | exact lx_cR _) (Nat.le_of_ble_eq_true rfl) (fun p e R s m args below meth cd ls hC hG hS hl => tq_Md_parse_0 hC hw hG hS (lx_sub hl [0, 1] rfl) (Nat.zero_le _) (Nat.zero_le _))

theorem dq_Md_comes_0 : decode prog_14_method_4_code 0 = .ok (.aload_n 0, 1) := by decide +kernel
theorem dq_Md_comes_1 : decode prog_14_method_4_code 1 = .ok (.getfield 7, 3) := by decide +kernel
theorem dq_Md_comes_4 : decode prog_14_method_4_code 4 = .ok (.sipush 4200, 3) := by decide +kernel
theorem dq_Md_comes_7 : decode prog_14_method_4_code 7 = .ok (.iload_n 1, 1) := by decide +kernel
theorem dq_Md_comes_8 : decode prog_14_method_4_code 8 = .ok (.imul, 1) := by decide +kernel
theorem dq_Md_comes_9 : decode prog_14_method_4_code 9 = .ok (.aload_n 0, 1) := by decide +kernel
theorem dq_Md_comes_10 : decode prog_14_method_4_code 10 = .ok (.getfield 13, 3) := by decide +kernel
theorem dq_Md_comes_13 : decode prog_14_method_4_code 13 = .ok (.iload_n 1, 1) := by decide +kernel
theorem dq_Md_comes_14 : decode prog_14_method_4_code 14 = .ok (.iaload, 1) := by decide +kernel
theorem dq_Md_comes_15 : decode prog_14_method_4_code 15 = .ok (.iadd, 1) := by decide +kernel
theorem dq_Md_comes_16 : decode prog_14_method_4_code 16 = .ok (.iload_n 2, 1) := by decide +kernel
theorem dq_Md_comes_17 : decode prog_14_method_4_code 17 = .ok (.iastore, 1) := by decide +kernel
theorem dq_Md_comes_18 : decode prog_14_method_4_code 18 = .ok (.aload_n 0, 1) := by decide +kernel
theorem dq_Md_comes_19 : decode prog_14_method_4_code 19 = .ok (.getfield 13, 3) := by decide +kernel
theorem dq_Md_comes_22 : decode prog_14_method_4_code 22 = .ok (.iload_n 1, 1) := by decide +kernel
theorem dq_Md_comes_23 : decode prog_14_method_4_code 23 = .ok (.dup2, 1) := by decide +kernel
theorem dq_Md_comes_24 : decode prog_14_method_4_code 24 = .ok (.iaload, 1) := by decide +kernel
theorem dq_Md_comes_25 : decode prog_14_method_4_code 25 = .ok (.iconst 1, 1) := by decide +kernel
theorem dq_Md_comes_26 : decode prog_14_method_4_code 26 = .ok (.iadd, 1) := by decide +kernel
theorem dq_Md_comes_27 : decode prog_14_method_4_code 27 = .ok (.iastore, 1) := by decide +kernel
theorem dq_Md_comes_28 : decode prog_14_method_4_code 28 = .ok (.iload_n 2, 1) := by decide +kernel
theorem dq_Md_comes_29 : decode prog_14_method_4_code 29 = .ok (.bipush 10, 2) := by decide +kernel
theorem dq_Md_comes_31 : decode prog_14_method_4_code 31 = .ok (.if_icmp .ne 17, 3) := by decide +kernel
theorem dq_Md_comes_34 : decode prog_14_method_4_code 34 = .ok (.aload_n 0, 1) := by decide +kernel
theorem dq_Md_comes_35 : decode prog_14_method_4_code 35 = .ok (.getfield 13, 3) := by decide +kernel
theorem dq_Md_comes_38 : decode prog_14_method_4_code 38 = .ok (.iload_n 1, 1) := by decide +kernel
theorem dq_Md_comes_39 : decode prog_14_method_4_code 39 = .ok (.iaload, 1) := by decide +kernel
theorem dq_Md_comes_40 : decode prog_14_method_4_code 40 = .ok (.iconst 1, 1) := by decide +kernel
theorem dq_Md_comes_41 : decode prog_14_method_4_code 41 = .ok (.if_icmp .ne 7, 3) := by decide +kernel
theorem dq_Md_comes_44 : decode prog_14_method_4_code 44 = .ok (.iconst (-1), 1) := by decide +kernel
theorem dq_Md_comes_45 : decode prog_14_method_4_code 45 = .ok (.goto 8, 3) := by decide +kernel
theorem dq_Md_comes_48 : decode prog_14_method_4_code 48 = .ok (.aload_n 0, 1) := by decide +kernel
theorem dq_Md_comes_49 : decode prog_14_method_4_code 49 = .ok (.iload_n 1, 1) := by decide +kernel
theorem dq_Md_comes_50 : decode prog_14_method_4_code 50 = .ok (.invokevirtual 186, 3) := by decide +kernel
theorem dq_Md_comes_53 : decode prog_14_method_4_code 53 = .ok (.istore_n 3, 1) := by decide +kernel
theorem dq_Md_comes_54 : decode prog_14_method_4_code 54 = .ok (.iload_n 3, 1) := by decide +kernel
theorem dq_Md_comes_55 : decode prog_14_method_4_code 55 = .ok (.ifCond .ne 4, 3) := by decide +kernel
theorem dq_Md_comes_58 : decode prog_14_method_4_code 58 = .ok (.return_, 1) := by decide +kernel
theorem dq_Md_comes_59 : decode prog_14_method_4_code 59 = .ok (.aload_n 0, 1) := by decide +kernel
theorem dq_Md_comes_60 : decode prog_14_method_4_code 60 = .ok (.getfield 13, 3) := by decide +kernel
theorem dq_Md_comes_63 : decode prog_14_method_4_code 63 = .ok (.iload_n 1, 1) := by decide +kernel
theorem dq_Md_comes_64 : decode prog_14_method_4_code 64 = .ok (.iconst 0, 1) := by decide +kernel
theorem dq_Md_comes_65 : decode prog_14_method_4_code 65 = .ok (.iastore, 1) := by decide +kernel
theorem dq_Md_comes_66 : decode prog_14_method_4_code 66 = .ok (.iload_n 3, 1) := by decide +kernel
theorem dq_Md_comes_67 : decode prog_14_method_4_code 67 = .ok (.ifCond .ge 4, 3) := by decide +kernel
theorem dq_Md_comes_70 : decode prog_14_method_4_code 70 = .ok (.return_, 1) := by decide +kernel
theorem dq_Md_comes_71 : decode prog_14_method_4_code 71 = .ok (.aload_n 0, 1) := by decide +kernel
theorem dq_Md_comes_72 : decode prog_14_method_4_code 72 = .ok (.getfield 32, 3) := by decide +kernel
theorem dq_Md_comes_75 : decode prog_14_method_4_code 75 = .ok (.iload_n 1, 1) := by decide +kernel
theorem dq_Md_comes_76 : decode prog_14_method_4_code 76 = .ok (.iaload, 1) := by decide +kernel
theorem dq_Md_comes_77 : decode prog_14_method_4_code 77 = .ok (.aload_n 0, 1) := by decide +kernel
theorem dq_Md_comes_78 : decode prog_14_method_4_code 78 = .ok (.getfield 35, 3) := by decide +kernel
theorem dq_Md_comes_81 : decode prog_14_method_4_code 81 = .ok (.iload_n 1, 1) := by decide +kernel
theorem dq_Md_comes_82 : decode prog_14_method_4_code 82 = .ok (.iaload, 1) := by decide +kernel
theorem dq_Md_comes_83 : decode prog_14_method_4_code 83 = .ok (.iadd, 1) := by decide +kernel
theorem dq_Md_comes_84 : decode prog_14_method_4_code 84 = .ok (.istore 4, 2) := by decide +kernel
theorem dq_Md_comes_86 : decode prog_14_method_4_code 86 = .ok (.aload_n 0, 1) := by decide +kernel
theorem dq_Md_comes_87 : decode prog_14_method_4_code 87 = .ok (.getfield 29, 3) := by decide +kernel
theorem dq_Md_comes_90 : decode prog_14_method_4_code 90 = .ok (.iconst 4, 1) := by decide +kernel
theorem dq_Md_comes_91 : decode prog_14_method_4_code 91 = .ok (.iload_n 1, 1) := by decide +kernel
theorem dq_Md_comes_92 : decode prog_14_method_4_code 92 = .ok (.imul, 1) := by decide +kernel
theorem dq_Md_comes_93 : decode prog_14_method_4_code 93 = .ok (.iload 4, 2) := by decide +kernel
theorem dq_Md_comes_95 : decode prog_14_method_4_code 95 = .ok (.iconst 4, 1) := by decide +kernel
theorem dq_Md_comes_96 : decode prog_14_method_4_code 96 = .ok (.irem, 1) := by decide +kernel
theorem dq_Md_comes_97 : decode prog_14_method_4_code 97 = .ok (.iadd, 1) := by decide +kernel
theorem dq_Md_comes_98 : decode prog_14_method_4_code 98 = .ok (.iconst (-1), 1) := by decide +kernel
theorem dq_Md_comes_99 : decode prog_14_method_4_code 99 = .ok (.iastore, 1) := by decide +kernel
theorem dq_Md_comes_100 : decode prog_14_method_4_code 100 = .ok (.aload_n 0, 1) := by decide +kernel
theorem dq_Md_comes_101 : decode prog_14_method_4_code 101 = .ok (.getfield 35, 3) := by decide +kernel
theorem dq_Md_comes_104 : decode prog_14_method_4_code 104 = .ok (.iload_n 1, 1) := by decide +kernel
theorem dq_Md_comes_105 : decode prog_14_method_4_code 105 = .ok (.dup2, 1) := by decide +kernel
theorem dq_Md_comes_106 : decode prog_14_method_4_code 106 = .ok (.iaload, 1) := by decide +kernel
theorem dq_Md_comes_107 : decode prog_14_method_4_code 107 = .ok (.iconst 1, 1) := by decide +kernel
theorem dq_Md_comes_108 : decode prog_14_method_4_code 108 = .ok (.iadd, 1) := by decide +kernel
theorem dq_Md_comes_109 : decode prog_14_method_4_code 109 = .ok (.iastore, 1) := by decide +kernel
theorem dq_Md_comes_110 : decode prog_14_method_4_code 110 = .ok (.iload_n 3, 1) := by decide +kernel
theorem dq_Md_comes_111 : decode prog_14_method_4_code 111 = .ok (.iconst 1, 1) := by decide +kernel
theorem dq_Md_comes_112 : decode prog_14_method_4_code 112 = .ok (.if_icmp .le 26, 3) := by decide +kernel
theorem dq_Md_comes_115 : decode prog_14_method_4_code 115 = .ok (.aload_n 0, 1) := by decide +kernel
theorem dq_Md_comes_116 : decode prog_14_method_4_code 116 = .ok (.iload_n 3, 1) := by decide +kernel
theorem dq_Md_comes_117 : decode prog_14_method_4_code 117 = .ok (.invokevirtual 190, 3) := by decide +kernel
theorem dq_Md_comes_120 : decode prog_14_method_4_code 120 = .ok (.pop, 1) := by decide +kernel
theorem dq_Md_comes_121 : decode prog_14_method_4_code 121 = .ok (.aload_n 0, 1) := by decide +kernel
theorem dq_Md_comes_122 : decode prog_14_method_4_code 122 = .ok (.iload_n 1, 1) := by decide +kernel
theorem dq_Md_comes_123 : decode prog_14_method_4_code 123 = .ok (.iload 4, 2) := by decide +kernel
theorem dq_Md_comes_125 : decode prog_14_method_4_code 125 = .ok (.invokevirtual 193, 3) := by decide +kernel
theorem dq_Md_comes_128 : decode prog_14_method_4_code 128 = .ok (.aload_n 0, 1) := by decide +kernel
theorem dq_Md_comes_129 : decode prog_14_method_4_code 129 = .ok (.getfield 16, 3) := by decide +kernel
theorem dq_Md_comes_132 : decode prog_14_method_4_code 132 = .ok (.iload_n 1, 1) := by decide +kernel
theorem dq_Md_comes_133 : decode prog_14_method_4_code 133 = .ok (.iconst 1, 1) := by decide +kernel
theorem dq_Md_comes_134 : decode prog_14_method_4_code 134 = .ok (.bastore, 1) := by decide +kernel
theorem dq_Md_comes_135 : decode prog_14_method_4_code 135 = .ok (.goto 29, 3) := by decide +kernel
theorem dq_Md_comes_138 : decode prog_14_method_4_code 138 = .ok (.iload_n 1, 1) := by decide +kernel
theorem dq_Md_comes_139 : decode prog_14_method_4_code 139 = .ok (.iconst 2, 1) := by decide +kernel
theorem dq_Md_comes_140 : decode prog_14_method_4_code 140 = .ok (.if_icmp .ne 17, 3) := by decide +kernel
theorem dq_Md_comes_143 : decode prog_14_method_4_code 143 = .ok (.aload_n 0, 1) := by decide +kernel
theorem dq_Md_comes_144 : decode prog_14_method_4_code 144 = .ok (.invokevirtual 196, 3) := by decide +kernel
theorem dq_Md_comes_147 : decode prog_14_method_4_code 147 = .ok (.aload_n 0, 1) := by decide +kernel
theorem dq_Md_comes_148 : decode prog_14_method_4_code 148 = .ok (.iload_n 1, 1) := by decide +kernel
theorem dq_Md_comes_149 : decode prog_14_method_4_code 149 = .ok (.iload 4, 2) := by decide +kernel
theorem dq_Md_comes_151 : decode prog_14_method_4_code 151 = .ok (.invokevirtual 193, 3) := by decide +kernel
theorem dq_Md_comes_154 : decode prog_14_method_4_code 154 = .ok (.goto 10, 3) := by decide +kernel
theorem dq_Md_comes_157 : decode prog_14_method_4_code 157 = .ok (.aload_n 0, 1) := by decide +kernel
theorem dq_Md_comes_158 : decode prog_14_method_4_code 158 = .ok (.iload_n 1, 1) := by decide +kernel
theorem dq_Md_comes_159 : decode prog_14_method_4_code 159 = .ok (.iload 4, 2) := by decide +kernel
theorem dq_Md_comes_161 : decode prog_14_method_4_code 161 = .ok (.invokevirtual 199, 3) := by decide +kernel
theorem dq_Md_comes_164 : decode prog_14_method_4_code 164 = .ok (.return_, 1) := by decide +kernel
set_option maxRecDepth 100000 in
def pq_Md_comes_164 (E : wo_E) (mc ms : Nat) (Post : wo_W → Prop) (G : wo_W) (c s : Nat) : Prop := Post G
set_option maxRecDepth 100000 in
def pq_Md_comes_53 (E : wo_E) (mc ms : Nat) (Post : wo_W → Prop) (G : wo_W) (c s : Nat) (x0 : Nat) (x1 : Int32) (y0 : Int32) : Prop := ((¬ y0 = (0 : Int32) → wo_ty G x0 = 15 ∧ ∀ r2 : Option Nat, r2 = wo_gr G 897 x0 → ∃ a4 : Nat, r2 = some a4 ∧ wo_ty G a4 = 66 ∧ vp_in x1 (wo_len G a4) ∧ en_bs E ≤ a4 ∧ ∀ G8 : wo_W, G8 = wo_sei G a4 x1.toNatClampNeg (0 : Int32) → 
    (((0 : Int32) ≤ y0 → ∀ r10 : Option Nat, r10 = wo_gr G8 903 x0 → ∃ a12 : Nat, r10 = some a12 ∧ wo_ty G8 a12 = 66 ∧ vp_in x1 (wo_len G8 a12) ∧ ∀ r15 : Option Nat, r15 = wo_gr G8 904 x0 → ∃ a17 : Nat, r15 = some a17 ∧ wo_ty G8 a17 = 66 ∧ vp_in x1 (wo_len G8 a17) ∧ ∀ r20 : Option Nat, r20 = wo_gr G8 902 x0 → ∃ a22 : Nat, r20 = some a22 ∧ wo_ty G8 a22 = 66 ∧ vp_in (((4 : Int32) * x1) + (((wo_ei G8 a12 x1.toNatClampNeg) + (wo_ei G8 a17 x1.toNatClampNeg)) - ((wo_ei G8 a12 x1.toNatClampNeg) + (wo_ei G8 a17 x1.toNatClampNeg)) / (4 : Int32) * (4 : Int32))) (wo_len G8 a22) ∧ en_bs E ≤ a22 ∧ ∀ G26 : wo_W, G26 = wo_sei G8 a22 (((4 : Int32) * x1) + (((wo_ei G8 a12 x1.toNatClampNeg) + (wo_ei G8 a17 x1.toNatClampNeg)) - ((wo_ei G8 a12 x1.toNatClampNeg) + (wo_ei G8 a17 x1.toNatClampNeg)) / (4 : Int32) * (4 : Int32))).toNatClampNeg (-1 : Int32) → 
      ∀ r28 : Option Nat, r28 = wo_gr G26 904 x0 → ∃ a30 : Nat, r28 = some a30 ∧ wo_ty G26 a30 = 66 ∧ vp_in x1 (wo_len G26 a30) ∧ vp_in x1 (wo_len G26 a30) ∧ en_bs E ≤ a30 ∧ ∀ G35 : wo_W, G35 = wo_sei G26 a30 x1.toNatClampNeg ((wo_ei G26 a30 x1.toNatClampNeg) + (1 : Int32)) → 
      ((y0 ≤ (1 : Int32) → ((¬ x1 = (2 : Int32) → ∃ mc37 ms38 : Nat, (c + mc37) ≤ mc ∧ (s + ms38) ≤ ms ∧ pq_Md_handle E mc37 ms38 (fun G39 => 
          pq_Md_comes_164 E mc ms Post G39 (c + mc37) (s + ms38)) G35 x0 x1 ((wo_ei G8 a12 x1.toNatClampNeg) + (wo_ei G8 a17 x1.toNatClampNeg))) ∧
        (x1 = (2 : Int32) → ∃ mc40 ms41 : Nat, (c + mc40) ≤ mc ∧ (s + ms41) ≤ ms ∧ pq_Md_direct E mc40 ms41 (fun G42 => 
          wo_ty G42 x0 = 15 ∧ ∃ mc44 ms45 : Nat, ((c + mc40) + mc44) ≤ mc ∧ ((s + ms41) + ms45) ≤ ms ∧ pq_Md_finish E mc44 ms45 (fun G46 => 
            pq_Md_comes_164 E mc ms Post G46 ((c + mc40) + mc44) ((s + ms41) + ms45)) G42 x0 x1 ((wo_ei G8 a12 x1.toNatClampNeg) + (wo_ei G8 a17 x1.toNatClampNeg))) G35 x0))) ∧
      (¬ y0 ≤ (1 : Int32) → ∃ mc47 ms48 : Nat, (c + mc47) ≤ mc ∧ (s + ms48) ≤ ms ∧ pq_Md_plain E mc47 ms48 (fun v50 G49 => 
        wo_ty G49 x0 = 15 ∧ ∃ mc52 ms53 : Nat, ((c + mc47) + mc52) ≤ mc ∧ ((s + ms48) + ms53) ≤ ms ∧ pq_Md_finish E mc52 ms53 (fun G54 => 
          wo_ty G54 x0 = 15 ∧ ∀ r56 : Option Nat, r56 = wo_gr G54 898 x0 → ∃ a58 : Nat, r56 = some a58 ∧ wo_ty G54 a58 = 72 ∧ vp_in x1 (wo_len G54 a58) ∧ en_bs E ≤ a58 ∧ ∀ G62 : wo_W, G62 = wo_sei G54 a58 x1.toNatClampNeg (vp_nar .boolean (1 : Int32)) → 
            pq_Md_comes_164 E mc ms Post G62 ((c + mc47) + mc52) ((s + ms48) + ms53)) G49 x0 x1 ((wo_ei G8 a12 x1.toNatClampNeg) + (wo_ei G8 a17 x1.toNatClampNeg))) G35 x0 y0))) ∧
    (¬ (0 : Int32) ≤ y0 → Post G8))) ∧
  (y0 = (0 : Int32) → Post G))
set_option maxRecDepth 100000 in
def pq_Md_comes_48 (E : wo_E) (mc ms : Nat) (Post : wo_W → Prop) (G : wo_W) (c s : Nat) (x0 : Nat) (x1 : Int32) : Prop := wo_ty G x0 = 15 ∧ ∃ mc2 ms3 : Nat, (c + mc2) ≤ mc ∧ (s + ms3) ≤ ms ∧ pq_Md_parse E mc2 ms3 (fun v5 G4 => 
  pq_Md_comes_53 E mc ms Post G4 (c + mc2) (s + ms3) x0 x1 v5) G x0 x1
set_option maxRecDepth 100000 in
def pq_Md_comes_0 (E : wo_E) (mc ms : Nat) (Post : wo_W → Prop) (G : wo_W) (c s : Nat) (x0 : Nat) (x1 : Int32) (x2 : Int32) : Prop := wo_ty G x0 = 15 ∧ ∀ r2 : Option Nat, r2 = wo_gr G 896 x0 → ∀ r4 : Option Nat, r4 = wo_gr G 897 x0 → ∃ a6 : Nat, r4 = some a6 ∧ wo_ty G a6 = 66 ∧ vp_in x1 (wo_len G a6) ∧ ∃ a9 : Nat, r2 = some a9 ∧ wo_ty G a9 = 66 ∧ vp_in (((4200 : Int32) * x1) + (wo_ei G a6 x1.toNatClampNeg)) (wo_len G a9) ∧ en_bs E ≤ a9 ∧ ∀ G13 : wo_W, G13 = wo_sei G a9 (((4200 : Int32) * x1) + (wo_ei G a6 x1.toNatClampNeg)).toNatClampNeg x2 → 
  ∀ r15 : Option Nat, r15 = wo_gr G13 897 x0 → ∃ a17 : Nat, r15 = some a17 ∧ wo_ty G13 a17 = 66 ∧ vp_in x1 (wo_len G13 a17) ∧ vp_in x1 (wo_len G13 a17) ∧ en_bs E ≤ a17 ∧ ∀ G22 : wo_W, G22 = wo_sei G13 a17 x1.toNatClampNeg ((wo_ei G13 a17 x1.toNatClampNeg) + (1 : Int32)) → 
  ((¬ x2 = (10 : Int32) → pq_Md_comes_48 E mc ms Post G22 c s x0 x1) ∧
  (x2 = (10 : Int32) → ∀ r24 : Option Nat, r24 = wo_gr G22 897 x0 → ∃ a26 : Nat, r24 = some a26 ∧ wo_ty G22 a26 = 66 ∧ vp_in x1 (wo_len G22 a26) ∧ ((¬ (wo_ei G22 a26 x1.toNatClampNeg) = (1 : Int32) → pq_Md_comes_48 E mc ms Post G22 c s x0 x1) ∧
    ((wo_ei G22 a26 x1.toNatClampNeg) = (1 : Int32) → pq_Md_comes_53 E mc ms Post G22 c s x0 x1 (-1 : Int32)))))
def pq_Md_comes (E : wo_E) (mc ms : Nat) (Post : wo_W → Prop) (G : wo_W) (x0 : Nat) (x1 : Int32) (x2 : Int32) : Prop := pq_Md_comes_0 E mc ms Post G 0 0 x0 x1 x2
set_option maxRecDepth 100000 in
set_option maxHeartbeats 4000000 in
theorem tq_Md_comes_164 {p : Program} {l : Launch} {e : Env} {R : Room} {s₀ : State} {m : MethodId} {args : Array Value} {below : List Frame} {meth : Method} {cd : Code} {E : wo_E} {mc ms : Nat} {Post : wo_W → Prop} (hC : wo_Cx E "EdgeCacheModel" prog_14_method_4_code 5 7 167 ((Option.none : Option Jvm.ClassFile.FieldType)) "comes" mc ms p R s₀ m args meth cd) : ∀ {G : wo_W} {c s : Nat}, pq_Md_comes_164 E mc ms Post G c s → ∀ {H : Heap} {locs : List Loc} {ls : Array Slot}, wo_Se E G H → va_S (en_A E) s₀.heap H locs → lx_has ls 5 [] → c ≤ mc → s ≤ ms → W p l e R s₀ m args below meth cd H locs c s (MQ below (va_Qv Post (wo_B E) (en_A E)) args s₀ mc ms (en_A E)) (F0 m 164 ls []) := by
  intro G c s hw H locs ls hG hS hl hcc hss
  dsimp only [pq_Md_comes_164] at hw
  have hx := hC.1
  have hb := hC.2.1
  exact wo_vret hC hG hS hcc hss hw dq_Md_comes_164
set_option maxRecDepth 100000 in
set_option maxHeartbeats 4000000 in
theorem tq_Md_comes_53 {p : Program} {l : Launch} {e : Env} {R : Room} {s₀ : State} {m : MethodId} {args : Array Value} {below : List Frame} {meth : Method} {cd : Code} {E : wo_E} {mc ms : Nat} {Post : wo_W → Prop} (hC : wo_Cx E "EdgeCacheModel" prog_14_method_4_code 5 7 167 ((Option.none : Option Jvm.ClassFile.FieldType)) "comes" mc ms p R s₀ m args meth cd) : ∀ {G : wo_W} {c s : Nat} {x0 : Nat} {x1 : Int32} {y0 : Int32}, pq_Md_comes_53 E mc ms Post G c s x0 x1 y0 → ∀ {H : Heap} {locs : List Loc} {ls : Array Slot}, wo_Se E G H → va_S (en_A E) s₀.heap H locs → lx_has ls 5 [(0, 1, .ref x0), (1, 1, .int x1)] → c ≤ mc → s ≤ ms → W p l e R s₀ m args below meth cd H locs c s (MQ below (va_Qv Post (wo_B E) (en_A E)) args s₀ mc ms (en_A E)) (F0 m 53 ls [.int y0]) := by
  intro G c s x0 x1 y0 hw H locs ls hG hS hl hcc hss
  dsimp only [pq_Md_comes_53] at hw
  have hx := hC.1
  have hb := hC.2.1
  refine lx_istore_n (lv' := [(3, 1, .int y0), (0, 1, .ref x0), (1, 1, .int x1)]) hx hb dq_Md_comes_53 rfl hl (by decide) rfl (fun ls hl' => ?_)
  clear hl
  have hl := hl'
  clear hl'
  refine lv_iload_n hx hb dq_Md_comes_54 rfl (lx_at hl 0 rfl) ?_
  refine lv_if_ne (tgt := 59) hx hb dq_Md_comes_55 rfl (fun h => ?_) (fun h => ?_)
  · replace hw := hw.1 h
    refine lv_aload_n hx hb dq_Md_comes_59 rfl (lx_at hl 1 rfl) ?_
    obtain ⟨t1, hw⟩ := hw
    refine wo_getR hC fq_Md_13 rfl hG t1 dq_Md_comes_60 (fun r2 e3 => ?_)
    replace hw := hw r2 e3
    refine lv_iload_n hx hb dq_Md_comes_63 rfl (lx_at hl 2 rfl) ?_
    refine lv_iconst (v := (0 : Int32)) hx hb dq_Md_comes_64 rfl ?_
    obtain ⟨a4, rfl, hw⟩ := hw
    obtain ⟨t5, hw⟩ := hw
    obtain ⟨h6, hw⟩ := hw
    obtain ⟨h7, hw⟩ := hw
    refine wo_iast (j := 2) hC rfl hG hS t5 h6 h7 dq_Md_comes_65 (fun G8 H locs e9 hG hS => ?_)
    replace hw := hw G8 e9
    refine lv_iload_n hx hb dq_Md_comes_66 rfl (lx_at hl 0 rfl) ?_
    refine lv_if_ge (tgt := 71) hx hb dq_Md_comes_67 rfl (fun h => ?_) (fun h => ?_)
    · replace hw := hw.1 h
      refine lv_aload_n hx hb dq_Md_comes_71 rfl (lx_at hl 1 rfl) ?_
      refine wo_getR hC fq_Md_32 rfl hG (ty_sei e9 t1) dq_Md_comes_72 (fun r10 e11 => ?_)
      replace hw := hw r10 e11
      refine lv_iload_n hx hb dq_Md_comes_75 rfl (lx_at hl 2 rfl) ?_
      obtain ⟨a12, rfl, hw⟩ := hw
      obtain ⟨t13, hw⟩ := hw
      obtain ⟨h14, hw⟩ := hw
      refine wo_iald (j := 2) hC rfl hG t13 h14 dq_Md_comes_76 ?_
      refine lv_aload_n hx hb dq_Md_comes_77 rfl (lx_at hl 1 rfl) ?_
      refine wo_getR hC fq_Md_35 rfl hG (ty_sei e9 t1) dq_Md_comes_78 (fun r15 e16 => ?_)
      replace hw := hw r15 e16
      refine lv_iload_n hx hb dq_Md_comes_81 rfl (lx_at hl 2 rfl) ?_
      obtain ⟨a17, rfl, hw⟩ := hw
      obtain ⟨t18, hw⟩ := hw
      obtain ⟨h19, hw⟩ := hw
      refine wo_iald (j := 2) hC rfl hG t18 h19 dq_Md_comes_82 ?_
      refine lv_iadd hx hb dq_Md_comes_83 ?_
      refine lx_istore (lv' := [(4, 1, .int ((wo_ei G8 a12 x1.toNatClampNeg) + (wo_ei G8 a17 x1.toNatClampNeg))), (3, 1, .int y0), (0, 1, .ref x0), (1, 1, .int x1)]) hx hb dq_Md_comes_84 hl (by decide) rfl (fun ls hl' => ?_)
      clear hl
      have hl := hl'
      clear hl'
      refine lv_aload_n hx hb dq_Md_comes_86 rfl (lx_at hl 2 rfl) ?_
      refine wo_getR hC fq_Md_29 rfl hG (ty_sei e9 t1) dq_Md_comes_87 (fun r20 e21 => ?_)
      replace hw := hw r20 e21
      refine lv_iconst (v := (4 : Int32)) hx hb dq_Md_comes_90 rfl ?_
      refine lv_iload_n hx hb dq_Md_comes_91 rfl (lx_at hl 3 rfl) ?_
      refine lv_imul hx hb dq_Md_comes_92 ?_
      refine lv_iload hx hb dq_Md_comes_93 (lx_at hl 0 rfl) ?_
      refine lv_iconst (v := (4 : Int32)) hx hb dq_Md_comes_95 rfl ?_
      refine lv_irem hx hb dq_Md_comes_96 (by decide) ?_
      refine lv_iadd hx hb dq_Md_comes_97 ?_
      refine lv_iconst (v := (-1 : Int32)) hx hb dq_Md_comes_98 rfl ?_
      obtain ⟨a22, rfl, hw⟩ := hw
      obtain ⟨t23, hw⟩ := hw
      obtain ⟨h24, hw⟩ := hw
      obtain ⟨h25, hw⟩ := hw
      refine wo_iast (j := 2) hC rfl hG hS t23 h24 h25 dq_Md_comes_99 (fun G26 H locs e27 hG hS => ?_)
      replace hw := hw G26 e27
      refine lv_aload_n hx hb dq_Md_comes_100 rfl (lx_at hl 2 rfl) ?_
      refine wo_getR hC fq_Md_35 rfl hG (ty_sei e27 (ty_sei e9 t1)) dq_Md_comes_101 (fun r28 e29 => ?_)
      replace hw := hw r28 e29
      refine lv_iload_n hx hb dq_Md_comes_104 rfl (lx_at hl 3 rfl) ?_
      refine lv_dup2_11 hx hb dq_Md_comes_105 rfl (lx_cR _) ?_
      obtain ⟨a30, rfl, hw⟩ := hw
      obtain ⟨t31, hw⟩ := hw
      obtain ⟨h32, hw⟩ := hw
      refine wo_iald (j := 2) hC rfl hG t31 h32 dq_Md_comes_106 ?_
      refine lv_iconst (v := (1 : Int32)) hx hb dq_Md_comes_107 rfl ?_
      refine lv_iadd hx hb dq_Md_comes_108 ?_
      obtain ⟨h33, hw⟩ := hw
      obtain ⟨h34, hw⟩ := hw
      refine wo_iast (j := 2) hC rfl hG hS t31 h33 h34 dq_Md_comes_109 (fun G35 H locs e36 hG hS => ?_)
      replace hw := hw G35 e36
      refine lv_iload_n hx hb dq_Md_comes_110 rfl (lx_at hl 1 rfl) ?_
      refine lv_iconst (v := (1 : Int32)) hx hb dq_Md_comes_111 rfl ?_
      refine lv_icmp_le (tgt := 138) hx hb dq_Md_comes_112 rfl (fun h => ?_) (fun h => ?_)
      · replace hw := hw.1 h
        refine lv_iload_n hx hb dq_Md_comes_138 rfl (lx_at hl 3 rfl) ?_
        refine lv_iconst (v := (2 : Int32)) hx hb dq_Md_comes_139 rfl ?_
        refine lv_icmp_ne (tgt := 157) hx hb dq_Md_comes_140 rfl (fun h => ?_) (fun h => ?_)
        · replace hw := hw.1 h
          refine lv_aload_n hx hb dq_Md_comes_157 rfl (lx_at hl 2 rfl) ?_
          refine lv_iload_n hx hb dq_Md_comes_158 rfl (lx_at hl 3 rfl) ?_
          refine lv_iload hx hb dq_Md_comes_159 (lx_at hl 0 rfl) ?_
          obtain ⟨mc37, ms38, hc1, hs1, hw⟩ := hw
          refine va_callv (wo_runV hC lq_Md_199 (mq_Md_handle hw) hG hS (ty_sei e36 (ty_sei e27 (ty_sei e9 t1))) rfl (lx_sz hl) rfl (Nat.zero_le _) (by decide) dq_Md_comes_161 ⟨hc1, hs1⟩) hS (fun _ _ h => h) (fun _ h => h) (fun G39 t H locs ht hvm hw' hB _ _ hS => ?_)
          clear hw
          have hw := hw'
          clear hw'
          replace hG := wo_bk ht hB
          replace hcc := hc1
          replace hss := hs1
          exact tq_Md_comes_164 hC hw hG hS (lx_sub hl [] rfl) hcc hss
        · replace hw := hw.2 h
          refine lv_aload_n hx hb dq_Md_comes_143 rfl (lx_at hl 2 rfl) ?_
          obtain ⟨mc40, ms41, hc1, hs1, hw⟩ := hw
          refine va_callv (wo_runV hC lq_Md_196 (mq_Md_direct hw) hG hS (ty_sei e36 (ty_sei e27 (ty_sei e9 t1))) rfl (lx_sz hl) rfl (Nat.zero_le _) (by decide) dq_Md_comes_144 ⟨hc1, hs1⟩) hS (fun _ _ h => h) (fun _ h => h) (fun G42 t H locs ht hvm hw' hB _ _ hS => ?_)
          clear hw
          have hw := hw'
          clear hw'
          replace hG := wo_bk ht hB
          replace hcc := hc1
          replace hss := hs1
          refine lv_aload_n hx hb dq_Md_comes_147 rfl (lx_at hl 2 rfl) ?_
          refine lv_iload_n hx hb dq_Md_comes_148 rfl (lx_at hl 3 rfl) ?_
          refine lv_iload hx hb dq_Md_comes_149 (lx_at hl 0 rfl) ?_
          obtain ⟨t43, hw⟩ := hw
          obtain ⟨mc44, ms45, hc1, hs1, hw⟩ := hw
          refine va_callv (wo_runV hC lq_Md_193 (mq_Md_finish hw) hG hS t43 rfl (lx_sz hl) rfl (Nat.zero_le _) (by decide) dq_Md_comes_151 ⟨hc1, hs1⟩) hS (fun _ _ h => h) (fun _ h => h) (fun G46 t H locs ht hvm hw' hB _ _ hS => ?_)
          clear hw
          have hw := hw'
          clear hw'
          replace hG := wo_bk ht hB
          replace hcc := hc1
          replace hss := hs1
          refine lv_goto (tgt := 164) hx hb dq_Md_comes_154 rfl ?_
          exact tq_Md_comes_164 hC hw hG hS (lx_sub hl [] rfl) hcc hss
      · replace hw := hw.2 h
        refine lv_aload_n hx hb dq_Md_comes_115 rfl (lx_at hl 2 rfl) ?_
        refine lv_iload_n hx hb dq_Md_comes_116 rfl (lx_at hl 1 rfl) ?_
        obtain ⟨mc47, ms48, hc1, hs1, hw⟩ := hw
        refine va_calli (wo_runV hC lq_Md_190 (mq_Md_plain hw) hG hS (ty_sei e36 (ty_sei e27 (ty_sei e9 t1))) rfl (lx_sz hl) rfl (Nat.zero_le _) (by decide) dq_Md_comes_117 ⟨hc1, hs1⟩) hS (fun _ _ h => h) (fun _ h => h) (fun v50 G49 t H locs ht hvm hw' hB _ _ hS => ?_)
        clear hw
        have hw := hw'
        clear hw'
        replace hG := wo_bk ht hB
        replace hcc := hc1
        replace hss := hs1
        refine lv_pop hx hb dq_Md_comes_120 rfl ?_
        refine lv_aload_n hx hb dq_Md_comes_121 rfl (lx_at hl 2 rfl) ?_
        refine lv_iload_n hx hb dq_Md_comes_122 rfl (lx_at hl 3 rfl) ?_
        refine lv_iload hx hb dq_Md_comes_123 (lx_at hl 0 rfl) ?_
        obtain ⟨t51, hw⟩ := hw
        obtain ⟨mc52, ms53, hc1, hs1, hw⟩ := hw
        refine va_callv (wo_runV hC lq_Md_193 (mq_Md_finish hw) hG hS t51 rfl (lx_sz hl) rfl (Nat.zero_le _) (by decide) dq_Md_comes_125 ⟨hc1, hs1⟩) hS (fun _ _ h => h) (fun _ h => h) (fun G54 t H locs ht hvm hw' hB _ _ hS => ?_)
        clear hw
        have hw := hw'
        clear hw'
        replace hG := wo_bk ht hB
        replace hcc := hc1
        replace hss := hs1
        refine lv_aload_n hx hb dq_Md_comes_128 rfl (lx_at hl 2 rfl) ?_
        obtain ⟨t55, hw⟩ := hw
        refine wo_getR hC fq_Md_16 rfl hG t55 dq_Md_comes_129 (fun r56 e57 => ?_)
        replace hw := hw r56 e57
        refine lv_iload_n hx hb dq_Md_comes_132 rfl (lx_at hl 3 rfl) ?_
        refine lv_iconst (v := (1 : Int32)) hx hb dq_Md_comes_133 rfl ?_
        obtain ⟨a58, rfl, hw⟩ := hw
        obtain ⟨t59, hw⟩ := hw
        obtain ⟨h60, hw⟩ := hw
        obtain ⟨h61, hw⟩ := hw
        refine wo_zast (j := 8) hC rfl hG hS t59 h60 h61 dq_Md_comes_134 (fun G62 H locs e63 hG hS => ?_)
        replace hw := hw G62 e63
        refine lv_goto (tgt := 164) hx hb dq_Md_comes_135 rfl ?_
        exact tq_Md_comes_164 hC hw hG hS (lx_sub hl [] rfl) hcc hss
    · replace hw := hw.2 h
      exact wo_vret hC hG hS hcc hss hw dq_Md_comes_70
  · replace hw := hw.2 h
    exact wo_vret hC hG hS hcc hss hw dq_Md_comes_58
set_option maxRecDepth 100000 in
set_option maxHeartbeats 4000000 in
theorem tq_Md_comes_48 {p : Program} {l : Launch} {e : Env} {R : Room} {s₀ : State} {m : MethodId} {args : Array Value} {below : List Frame} {meth : Method} {cd : Code} {E : wo_E} {mc ms : Nat} {Post : wo_W → Prop} (hC : wo_Cx E "EdgeCacheModel" prog_14_method_4_code 5 7 167 ((Option.none : Option Jvm.ClassFile.FieldType)) "comes" mc ms p R s₀ m args meth cd) : ∀ {G : wo_W} {c s : Nat} {x0 : Nat} {x1 : Int32}, pq_Md_comes_48 E mc ms Post G c s x0 x1 → ∀ {H : Heap} {locs : List Loc} {ls : Array Slot}, wo_Se E G H → va_S (en_A E) s₀.heap H locs → lx_has ls 5 [(0, 1, .ref x0), (1, 1, .int x1)] → c ≤ mc → s ≤ ms → W p l e R s₀ m args below meth cd H locs c s (MQ below (va_Qv Post (wo_B E) (en_A E)) args s₀ mc ms (en_A E)) (F0 m 48 ls []) := by
  intro G c s x0 x1 hw H locs ls hG hS hl hcc hss
  dsimp only [pq_Md_comes_48] at hw
  have hx := hC.1
  have hb := hC.2.1
  refine lv_aload_n hx hb dq_Md_comes_48 rfl (lx_at hl 0 rfl) ?_
  refine lv_iload_n hx hb dq_Md_comes_49 rfl (lx_at hl 1 rfl) ?_
  obtain ⟨t1, hw⟩ := hw
  obtain ⟨mc2, ms3, hc1, hs1, hw⟩ := hw
  refine va_calli (wo_runV hC lq_Md_186 (mq_Md_parse hw) hG hS t1 rfl (lx_sz hl) rfl (Nat.zero_le _) (by decide) dq_Md_comes_50 ⟨hc1, hs1⟩) hS (fun _ _ h => h) (fun _ h => h) (fun v5 G4 t H locs ht hvm hw' hB _ _ hS => ?_)
  clear hw
  have hw := hw'
  clear hw'
  replace hG := wo_bk ht hB
  replace hcc := hc1
  replace hss := hs1
  exact tq_Md_comes_53 hC hw hG hS (lx_sub hl [0, 1] rfl) hcc hss
set_option maxRecDepth 100000 in
set_option maxHeartbeats 4000000 in
theorem tq_Md_comes_0 {p : Program} {l : Launch} {e : Env} {R : Room} {s₀ : State} {m : MethodId} {args : Array Value} {below : List Frame} {meth : Method} {cd : Code} {E : wo_E} {mc ms : Nat} {Post : wo_W → Prop} (hC : wo_Cx E "EdgeCacheModel" prog_14_method_4_code 5 7 167 ((Option.none : Option Jvm.ClassFile.FieldType)) "comes" mc ms p R s₀ m args meth cd) : ∀ {G : wo_W} {c s : Nat} {x0 : Nat} {x1 : Int32} {x2 : Int32}, pq_Md_comes_0 E mc ms Post G c s x0 x1 x2 → ∀ {H : Heap} {locs : List Loc} {ls : Array Slot}, wo_Se E G H → va_S (en_A E) s₀.heap H locs → lx_has ls 5 [(0, 1, .ref x0), (1, 1, .int x1), (2, 1, .int x2)] → c ≤ mc → s ≤ ms → W p l e R s₀ m args below meth cd H locs c s (MQ below (va_Qv Post (wo_B E) (en_A E)) args s₀ mc ms (en_A E)) (F0 m 0 ls []) := by
  intro G c s x0 x1 x2 hw H locs ls hG hS hl hcc hss
  dsimp only [pq_Md_comes_0] at hw
  have hx := hC.1
  have hb := hC.2.1
  refine lv_aload_n hx hb dq_Md_comes_0 rfl (lx_at hl 0 rfl) ?_
  obtain ⟨t1, hw⟩ := hw
  refine wo_getR hC fq_Md_7 rfl hG t1 dq_Md_comes_1 (fun r2 e3 => ?_)
  replace hw := hw r2 e3
  refine lv_sipush (v := (4200 : Int32)) hx hb dq_Md_comes_4 rfl ?_
  refine lv_iload_n hx hb dq_Md_comes_7 rfl (lx_at hl 1 rfl) ?_
  refine lv_imul hx hb dq_Md_comes_8 ?_
  refine lv_aload_n hx hb dq_Md_comes_9 rfl (lx_at hl 0 rfl) ?_
  refine wo_getR hC fq_Md_13 rfl hG t1 dq_Md_comes_10 (fun r4 e5 => ?_)
  replace hw := hw r4 e5
  refine lv_iload_n hx hb dq_Md_comes_13 rfl (lx_at hl 1 rfl) ?_
  obtain ⟨a6, rfl, hw⟩ := hw
  obtain ⟨t7, hw⟩ := hw
  obtain ⟨h8, hw⟩ := hw
  refine wo_iald (j := 2) hC rfl hG t7 h8 dq_Md_comes_14 ?_
  refine lv_iadd hx hb dq_Md_comes_15 ?_
  refine lv_iload_n hx hb dq_Md_comes_16 rfl (lx_at hl 2 rfl) ?_
  obtain ⟨a9, rfl, hw⟩ := hw
  obtain ⟨t10, hw⟩ := hw
  obtain ⟨h11, hw⟩ := hw
  obtain ⟨h12, hw⟩ := hw
  refine wo_iast (j := 2) hC rfl hG hS t10 h11 h12 dq_Md_comes_17 (fun G13 H locs e14 hG hS => ?_)
  replace hw := hw G13 e14
  refine lv_aload_n hx hb dq_Md_comes_18 rfl (lx_at hl 0 rfl) ?_
  refine wo_getR hC fq_Md_13 rfl hG (ty_sei e14 t1) dq_Md_comes_19 (fun r15 e16 => ?_)
  replace hw := hw r15 e16
  refine lv_iload_n hx hb dq_Md_comes_22 rfl (lx_at hl 1 rfl) ?_
  refine lv_dup2_11 hx hb dq_Md_comes_23 rfl (lx_cR _) ?_
  obtain ⟨a17, rfl, hw⟩ := hw
  obtain ⟨t18, hw⟩ := hw
  obtain ⟨h19, hw⟩ := hw
  refine wo_iald (j := 2) hC rfl hG t18 h19 dq_Md_comes_24 ?_
  refine lv_iconst (v := (1 : Int32)) hx hb dq_Md_comes_25 rfl ?_
  refine lv_iadd hx hb dq_Md_comes_26 ?_
  obtain ⟨h20, hw⟩ := hw
  obtain ⟨h21, hw⟩ := hw
  refine wo_iast (j := 2) hC rfl hG hS t18 h20 h21 dq_Md_comes_27 (fun G22 H locs e23 hG hS => ?_)
  replace hw := hw G22 e23
  refine lv_iload_n hx hb dq_Md_comes_28 rfl (lx_at hl 2 rfl) ?_
  refine lv_bipush (v := (10 : Int32)) hx hb dq_Md_comes_29 rfl ?_
  refine lv_icmp_ne (tgt := 48) hx hb dq_Md_comes_31 rfl (fun h => ?_) (fun h => ?_)
  · replace hw := hw.1 h
    exact tq_Md_comes_48 hC hw hG hS (lx_sub hl [0, 1] rfl) hcc hss
  · replace hw := hw.2 h
    refine lv_aload_n hx hb dq_Md_comes_34 rfl (lx_at hl 0 rfl) ?_
    refine wo_getR hC fq_Md_13 rfl hG (ty_sei e23 (ty_sei e14 t1)) dq_Md_comes_35 (fun r24 e25 => ?_)
    replace hw := hw r24 e25
    refine lv_iload_n hx hb dq_Md_comes_38 rfl (lx_at hl 1 rfl) ?_
    obtain ⟨a26, rfl, hw⟩ := hw
    obtain ⟨t27, hw⟩ := hw
    obtain ⟨h28, hw⟩ := hw
    refine wo_iald (j := 2) hC rfl hG t27 h28 dq_Md_comes_39 ?_
    refine lv_iconst (v := (1 : Int32)) hx hb dq_Md_comes_40 rfl ?_
    refine lv_icmp_ne (tgt := 48) hx hb dq_Md_comes_41 rfl (fun h => ?_) (fun h => ?_)
    · replace hw := hw.1 h
      exact tq_Md_comes_48 hC hw hG hS (lx_sub hl [0, 1] rfl) hcc hss
    · replace hw := hw.2 h
      refine lv_iconst (v := (-1 : Int32)) hx hb dq_Md_comes_44 rfl ?_
      refine lv_goto (tgt := 53) hx hb dq_Md_comes_45 rfl ?_
      exact tq_Md_comes_53 hC hw hG hS (lx_sub hl [0, 1] rfl) hcc hss
set_option maxHeartbeats 4000000 in
theorem mq_Md_comes {l : Launch} {E : wo_E} {mc ms : Nat} {Post : wo_W → Prop} {G : wo_W} {x0 : Nat} {x1 : Int32} {x2 : Int32} (hw : pq_Md_comes E mc ms Post G x0 x1 x2) : Met l yq_Md_comes (Cond.code yq_Md_comes prog_14_method_4_code 5 ((Option.none : Option Jvm.ClassFile.FieldType)) :: vw_WG) { frames := 7, cells := mc, slots := ms, locals := 167 } (va_Pc [.ref x0, .int x1, .int x2] (wo_Ok E G)) (va_Qv Post (wo_B E) (en_A E)) mc ms (en_A E) := by
  unfold pq_Md_comes at hw
  exact wo_met [(1, .ref x0), (1, .int x1), (1, .int x2)] rfl (by decide) (fun q hq => by simp only [List.mem_cons, List.not_mem_nil, or_false] at hq; rcases hq with rfl | rfl | rfl <;> first | rfl | exact lx_cR _) (Nat.le_of_ble_eq_true rfl) (fun p e R s m args below meth cd ls hC hG hS hl => tq_Md_comes_0 hC hw hG hS (lx_sub hl [0, 1, 2] rfl) (Nat.zero_le _) (Nat.zero_le _))

theorem dq_Md_may_0 : decode prog_14_method_2_code 0 = .ok (.aload_n 0, 1) := by decide +kernel
theorem dq_Md_may_1 : decode prog_14_method_2_code 1 = .ok (.getfield 16, 3) := by decide +kernel
theorem dq_Md_may_4 : decode prog_14_method_2_code 4 = .ok (.iload_n 1, 1) := by decide +kernel
theorem dq_Md_may_5 : decode prog_14_method_2_code 5 = .ok (.baload, 1) := by decide +kernel
theorem dq_Md_may_6 : decode prog_14_method_2_code 6 = .ok (.ifCond .ne 47, 3) := by decide +kernel
theorem dq_Md_may_9 : decode prog_14_method_2_code 9 = .ok (.aload_n 0, 1) := by decide +kernel
theorem dq_Md_may_10 : decode prog_14_method_2_code 10 = .ok (.getfield 32, 3) := by decide +kernel
theorem dq_Md_may_13 : decode prog_14_method_2_code 13 = .ok (.iload_n 1, 1) := by decide +kernel
theorem dq_Md_may_14 : decode prog_14_method_2_code 14 = .ok (.iaload, 1) := by decide +kernel
theorem dq_Md_may_15 : decode prog_14_method_2_code 15 = .ok (.aload_n 0, 1) := by decide +kernel
theorem dq_Md_may_16 : decode prog_14_method_2_code 16 = .ok (.getfield 35, 3) := by decide +kernel
theorem dq_Md_may_19 : decode prog_14_method_2_code 19 = .ok (.iload_n 1, 1) := by decide +kernel
theorem dq_Md_may_20 : decode prog_14_method_2_code 20 = .ok (.iaload, 1) := by decide +kernel
theorem dq_Md_may_21 : decode prog_14_method_2_code 21 = .ok (.iadd, 1) := by decide +kernel
theorem dq_Md_may_22 : decode prog_14_method_2_code 22 = .ok (.bipush 20, 2) := by decide +kernel
theorem dq_Md_may_24 : decode prog_14_method_2_code 24 = .ok (.if_icmp .ge 29, 3) := by decide +kernel
theorem dq_Md_may_27 : decode prog_14_method_2_code 27 = .ok (.aload_n 0, 1) := by decide +kernel
theorem dq_Md_may_28 : decode prog_14_method_2_code 28 = .ok (.getfield 35, 3) := by decide +kernel
theorem dq_Md_may_31 : decode prog_14_method_2_code 31 = .ok (.iload_n 1, 1) := by decide +kernel
theorem dq_Md_may_32 : decode prog_14_method_2_code 32 = .ok (.iaload, 1) := by decide +kernel
theorem dq_Md_may_33 : decode prog_14_method_2_code 33 = .ok (.iconst 4, 1) := by decide +kernel
theorem dq_Md_may_34 : decode prog_14_method_2_code 34 = .ok (.if_icmp .ge 19, 3) := by decide +kernel
theorem dq_Md_may_37 : decode prog_14_method_2_code 37 = .ok (.aload_n 0, 1) := by decide +kernel
theorem dq_Md_may_38 : decode prog_14_method_2_code 38 = .ok (.getfield 23, 3) := by decide +kernel
theorem dq_Md_may_41 : decode prog_14_method_2_code 41 = .ok (.iload_n 1, 1) := by decide +kernel
theorem dq_Md_may_42 : decode prog_14_method_2_code 42 = .ok (.iaload, 1) := by decide +kernel
theorem dq_Md_may_43 : decode prog_14_method_2_code 43 = .ok (.sipush 200, 3) := by decide +kernel
theorem dq_Md_may_46 : decode prog_14_method_2_code 46 = .ok (.if_icmp .ge 7, 3) := by decide +kernel
theorem dq_Md_may_49 : decode prog_14_method_2_code 49 = .ok (.iconst 1, 1) := by decide +kernel
theorem dq_Md_may_50 : decode prog_14_method_2_code 50 = .ok (.goto 4, 3) := by decide +kernel
theorem dq_Md_may_53 : decode prog_14_method_2_code 53 = .ok (.iconst 0, 1) := by decide +kernel
theorem dq_Md_may_54 : decode prog_14_method_2_code 54 = .ok (.ireturn, 1) := by decide +kernel
set_option maxRecDepth 100000 in
def pq_Md_may_54 (E : wo_E) (mc ms : Nat) (Post : Int32 → wo_W → Prop) (G : wo_W) (c s : Nat) (y0 : Int32) : Prop := wo_okI .boolean y0 ∧ Post y0 G
set_option maxRecDepth 100000 in
def pq_Md_may_53 (E : wo_E) (mc ms : Nat) (Post : Int32 → wo_W → Prop) (G : wo_W) (c s : Nat) : Prop := pq_Md_may_54 E mc ms Post G c s (0 : Int32)
set_option maxRecDepth 100000 in
def pq_Md_may_0 (E : wo_E) (mc ms : Nat) (Post : Int32 → wo_W → Prop) (G : wo_W) (c s : Nat) (x0 : Nat) (x1 : Int32) : Prop := wo_ty G x0 = 15 ∧ ∀ r2 : Option Nat, r2 = wo_gr G 898 x0 → ∃ a4 : Nat, r2 = some a4 ∧ wo_ty G a4 = 72 ∧ vp_in x1 (wo_len G a4) ∧ ((¬ (wo_ei G a4 x1.toNatClampNeg) = (0 : Int32) → pq_Md_may_53 E mc ms Post G c s) ∧
  ((wo_ei G a4 x1.toNatClampNeg) = (0 : Int32) → ∀ r7 : Option Nat, r7 = wo_gr G 903 x0 → ∃ a9 : Nat, r7 = some a9 ∧ wo_ty G a9 = 66 ∧ vp_in x1 (wo_len G a9) ∧ ∀ r12 : Option Nat, r12 = wo_gr G 904 x0 → ∃ a14 : Nat, r12 = some a14 ∧ wo_ty G a14 = 66 ∧ vp_in x1 (wo_len G a14) ∧ (((20 : Int32) ≤ ((wo_ei G a9 x1.toNatClampNeg) + (wo_ei G a14 x1.toNatClampNeg)) → pq_Md_may_53 E mc ms Post G c s) ∧
    (¬ (20 : Int32) ≤ ((wo_ei G a9 x1.toNatClampNeg) + (wo_ei G a14 x1.toNatClampNeg)) → ∀ r17 : Option Nat, r17 = wo_gr G 904 x0 → ∃ a19 : Nat, r17 = some a19 ∧ wo_ty G a19 = 66 ∧ vp_in x1 (wo_len G a19) ∧ (((4 : Int32) ≤ (wo_ei G a19 x1.toNatClampNeg) → pq_Md_may_53 E mc ms Post G c s) ∧
      (¬ (4 : Int32) ≤ (wo_ei G a19 x1.toNatClampNeg) → ∀ r22 : Option Nat, r22 = wo_gr G 900 x0 → ∃ a24 : Nat, r22 = some a24 ∧ wo_ty G a24 = 66 ∧ vp_in x1 (wo_len G a24) ∧ (((200 : Int32) ≤ (wo_ei G a24 x1.toNatClampNeg) → pq_Md_may_53 E mc ms Post G c s) ∧
        (¬ (200 : Int32) ≤ (wo_ei G a24 x1.toNatClampNeg) → pq_Md_may_54 E mc ms Post G c s (1 : Int32)))))))))
def pq_Md_may (E : wo_E) (mc ms : Nat) (Post : Int32 → wo_W → Prop) (G : wo_W) (x0 : Nat) (x1 : Int32) : Prop := pq_Md_may_0 E mc ms Post G 0 0 x0 x1
set_option maxRecDepth 100000 in
set_option maxHeartbeats 4000000 in
theorem tq_Md_may_54 {p : Program} {l : Launch} {e : Env} {R : Room} {s₀ : State} {m : MethodId} {args : Array Value} {below : List Frame} {meth : Method} {cd : Code} {E : wo_E} {mc ms : Nat} {Post : Int32 → wo_W → Prop} (hC : wo_Cx E "EdgeCacheModel" prog_14_method_2_code 2 0 0 ((Option.some Jvm.ClassFile.FieldType.boolean)) "may" mc ms p R s₀ m args meth cd) : ∀ {G : wo_W} {c s : Nat} {y0 : Int32}, pq_Md_may_54 E mc ms Post G c s y0 → ∀ {H : Heap} {locs : List Loc} {ls : Array Slot}, wo_Se E G H → va_S (en_A E) s₀.heap H locs → lx_has ls 2 [] → c ≤ mc → s ≤ ms → W p l e R s₀ m args below meth cd H locs c s (MQ below (va_Qi Post (wo_B E) (en_A E)) args s₀ mc ms (en_A E)) (F0 m 54 ls [.int y0]) := by
  intro G c s y0 hw H locs ls hG hS hl hcc hss
  dsimp only [pq_Md_may_54] at hw
  have hx := hC.1
  have hb := hC.2.1
  obtain ⟨h1, hw⟩ := hw
  exact wo_zret hC h1.1 hG hS hcc hss hw dq_Md_may_54
set_option maxRecDepth 100000 in
set_option maxHeartbeats 4000000 in
theorem tq_Md_may_53 {p : Program} {l : Launch} {e : Env} {R : Room} {s₀ : State} {m : MethodId} {args : Array Value} {below : List Frame} {meth : Method} {cd : Code} {E : wo_E} {mc ms : Nat} {Post : Int32 → wo_W → Prop} (hC : wo_Cx E "EdgeCacheModel" prog_14_method_2_code 2 0 0 ((Option.some Jvm.ClassFile.FieldType.boolean)) "may" mc ms p R s₀ m args meth cd) : ∀ {G : wo_W} {c s : Nat}, pq_Md_may_53 E mc ms Post G c s → ∀ {H : Heap} {locs : List Loc} {ls : Array Slot}, wo_Se E G H → va_S (en_A E) s₀.heap H locs → lx_has ls 2 [] → c ≤ mc → s ≤ ms → W p l e R s₀ m args below meth cd H locs c s (MQ below (va_Qi Post (wo_B E) (en_A E)) args s₀ mc ms (en_A E)) (F0 m 53 ls []) := by
  intro G c s hw H locs ls hG hS hl hcc hss
  dsimp only [pq_Md_may_53] at hw
  have hx := hC.1
  have hb := hC.2.1
  refine lv_iconst (v := (0 : Int32)) hx hb dq_Md_may_53 rfl ?_
  exact tq_Md_may_54 hC hw hG hS (lx_sub hl [] rfl) hcc hss
set_option maxRecDepth 100000 in
set_option maxHeartbeats 4000000 in
theorem tq_Md_may_0 {p : Program} {l : Launch} {e : Env} {R : Room} {s₀ : State} {m : MethodId} {args : Array Value} {below : List Frame} {meth : Method} {cd : Code} {E : wo_E} {mc ms : Nat} {Post : Int32 → wo_W → Prop} (hC : wo_Cx E "EdgeCacheModel" prog_14_method_2_code 2 0 0 ((Option.some Jvm.ClassFile.FieldType.boolean)) "may" mc ms p R s₀ m args meth cd) : ∀ {G : wo_W} {c s : Nat} {x0 : Nat} {x1 : Int32}, pq_Md_may_0 E mc ms Post G c s x0 x1 → ∀ {H : Heap} {locs : List Loc} {ls : Array Slot}, wo_Se E G H → va_S (en_A E) s₀.heap H locs → lx_has ls 2 [(0, 1, .ref x0), (1, 1, .int x1)] → c ≤ mc → s ≤ ms → W p l e R s₀ m args below meth cd H locs c s (MQ below (va_Qi Post (wo_B E) (en_A E)) args s₀ mc ms (en_A E)) (F0 m 0 ls []) := by
  intro G c s x0 x1 hw H locs ls hG hS hl hcc hss
  dsimp only [pq_Md_may_0] at hw
  have hx := hC.1
  have hb := hC.2.1
  refine lv_aload_n hx hb dq_Md_may_0 rfl (lx_at hl 0 rfl) ?_
  obtain ⟨t1, hw⟩ := hw
  refine wo_getR hC fq_Md_16 rfl hG t1 dq_Md_may_1 (fun r2 e3 => ?_)
  replace hw := hw r2 e3
  refine lv_iload_n hx hb dq_Md_may_4 rfl (lx_at hl 1 rfl) ?_
  obtain ⟨a4, rfl, hw⟩ := hw
  obtain ⟨t5, hw⟩ := hw
  obtain ⟨h6, hw⟩ := hw
  refine wo_zald (j := 8) hC rfl hG t5 h6 dq_Md_may_5 ?_
  refine lv_if_ne (tgt := 53) hx hb dq_Md_may_6 rfl (fun h => ?_) (fun h => ?_)
  · replace hw := hw.1 h
    exact tq_Md_may_53 hC hw hG hS (lx_sub hl [] rfl) hcc hss
  · replace hw := hw.2 h
    refine lv_aload_n hx hb dq_Md_may_9 rfl (lx_at hl 0 rfl) ?_
    refine wo_getR hC fq_Md_32 rfl hG t1 dq_Md_may_10 (fun r7 e8 => ?_)
    replace hw := hw r7 e8
    refine lv_iload_n hx hb dq_Md_may_13 rfl (lx_at hl 1 rfl) ?_
    obtain ⟨a9, rfl, hw⟩ := hw
    obtain ⟨t10, hw⟩ := hw
    obtain ⟨h11, hw⟩ := hw
    refine wo_iald (j := 2) hC rfl hG t10 h11 dq_Md_may_14 ?_
    refine lv_aload_n hx hb dq_Md_may_15 rfl (lx_at hl 0 rfl) ?_
    refine wo_getR hC fq_Md_35 rfl hG t1 dq_Md_may_16 (fun r12 e13 => ?_)
    replace hw := hw r12 e13
    refine lv_iload_n hx hb dq_Md_may_19 rfl (lx_at hl 1 rfl) ?_
    obtain ⟨a14, rfl, hw⟩ := hw
    obtain ⟨t15, hw⟩ := hw
    obtain ⟨h16, hw⟩ := hw
    refine wo_iald (j := 2) hC rfl hG t15 h16 dq_Md_may_20 ?_
    refine lv_iadd hx hb dq_Md_may_21 ?_
    refine lv_bipush (v := (20 : Int32)) hx hb dq_Md_may_22 rfl ?_
    refine lv_icmp_ge (tgt := 53) hx hb dq_Md_may_24 rfl (fun h => ?_) (fun h => ?_)
    · replace hw := hw.1 h
      exact tq_Md_may_53 hC hw hG hS (lx_sub hl [] rfl) hcc hss
    · replace hw := hw.2 h
      refine lv_aload_n hx hb dq_Md_may_27 rfl (lx_at hl 0 rfl) ?_
      refine wo_getR hC fq_Md_35 rfl hG t1 dq_Md_may_28 (fun r17 e18 => ?_)
      replace hw := hw r17 e18
      refine lv_iload_n hx hb dq_Md_may_31 rfl (lx_at hl 1 rfl) ?_
      obtain ⟨a19, rfl, hw⟩ := hw
      obtain ⟨t20, hw⟩ := hw
      obtain ⟨h21, hw⟩ := hw
      refine wo_iald (j := 2) hC rfl hG t20 h21 dq_Md_may_32 ?_
      refine lv_iconst (v := (4 : Int32)) hx hb dq_Md_may_33 rfl ?_
      refine lv_icmp_ge (tgt := 53) hx hb dq_Md_may_34 rfl (fun h => ?_) (fun h => ?_)
      · replace hw := hw.1 h
        exact tq_Md_may_53 hC hw hG hS (lx_sub hl [] rfl) hcc hss
      · replace hw := hw.2 h
        refine lv_aload_n hx hb dq_Md_may_37 rfl (lx_at hl 0 rfl) ?_
        refine wo_getR hC fq_Md_23 rfl hG t1 dq_Md_may_38 (fun r22 e23 => ?_)
        replace hw := hw r22 e23
        refine lv_iload_n hx hb dq_Md_may_41 rfl (lx_at hl 1 rfl) ?_
        obtain ⟨a24, rfl, hw⟩ := hw
        obtain ⟨t25, hw⟩ := hw
        obtain ⟨h26, hw⟩ := hw
        refine wo_iald (j := 2) hC rfl hG t25 h26 dq_Md_may_42 ?_
        refine lv_sipush (v := (200 : Int32)) hx hb dq_Md_may_43 rfl ?_
        refine lv_icmp_ge (tgt := 53) hx hb dq_Md_may_46 rfl (fun h => ?_) (fun h => ?_)
        · replace hw := hw.1 h
          exact tq_Md_may_53 hC hw hG hS (lx_sub hl [] rfl) hcc hss
        · replace hw := hw.2 h
          refine lv_iconst (v := (1 : Int32)) hx hb dq_Md_may_49 rfl ?_
          refine lv_goto (tgt := 54) hx hb dq_Md_may_50 rfl ?_
          exact tq_Md_may_54 hC hw hG hS (lx_sub hl [] rfl) hcc hss
set_option maxHeartbeats 4000000 in
theorem mq_Md_may {l : Launch} {E : wo_E} {mc ms : Nat} {Post : Int32 → wo_W → Prop} {G : wo_W} {x0 : Nat} {x1 : Int32} (hw : pq_Md_may E mc ms Post G x0 x1) : Met l yq_Md_may (Cond.code yq_Md_may prog_14_method_2_code 2 ((Option.some Jvm.ClassFile.FieldType.boolean)) :: vw_WG) { frames := 0, cells := mc, slots := ms, locals := 0 } (va_Pc [.ref x0, .int x1] (wo_Ok E G)) (va_Qi Post (wo_B E) (en_A E)) mc ms (en_A E) := by
  unfold pq_Md_may at hw
  exact wo_met [(1, .ref x0), (1, .int x1)] rfl (by decide) (fun q hq => by simp only [List.mem_cons, List.not_mem_nil, or_false] at hq; rcases hq with rfl | rfl <;> first | rfl | exact lx_cR _) (Nat.le_of_ble_eq_true rfl) (fun p e R s m args below meth cd ls hC hG hS hl => tq_Md_may_0 hC hw hG hS (lx_sub hl [0, 1] rfl) (Nat.zero_le _) (Nat.zero_le _))

theorem dq_Md_feed_0 : decode prog_14_method_3_code 0 = .ok (.iload_n 1, 1) := by decide +kernel
theorem dq_Md_feed_1 : decode prog_14_method_3_code 1 = .ok (.ifCond .lt 8, 3) := by decide +kernel
theorem dq_Md_feed_4 : decode prog_14_method_3_code 4 = .ok (.iload_n 1, 1) := by decide +kernel
theorem dq_Md_feed_5 : decode prog_14_method_3_code 5 = .ok (.iconst 2, 1) := by decide +kernel
theorem dq_Md_feed_6 : decode prog_14_method_3_code 6 = .ok (.if_icmp .le 5, 3) := by decide +kernel
theorem dq_Md_feed_9 : decode prog_14_method_3_code 9 = .ok (.iconst 0, 1) := by decide +kernel
theorem dq_Md_feed_10 : decode prog_14_method_3_code 10 = .ok (.ireturn, 1) := by decide +kernel
theorem dq_Md_feed_11 : decode prog_14_method_3_code 11 = .ok (.iconst 0, 1) := by decide +kernel
theorem dq_Md_feed_12 : decode prog_14_method_3_code 12 = .ok (.istore 4, 2) := by decide +kernel
theorem dq_Md_feed_14 : decode prog_14_method_3_code 14 = .ok (.bipush 7, 2) := by decide +kernel
theorem dq_Md_feed_16 : decode prog_14_method_3_code 16 = .ok (.istore 5, 2) := by decide +kernel
theorem dq_Md_feed_18 : decode prog_14_method_3_code 18 = .ok (.iload 5, 2) := by decide +kernel
theorem dq_Md_feed_20 : decode prog_14_method_3_code 20 = .ok (.ifCond .lt 49, 3) := by decide +kernel
theorem dq_Md_feed_23 : decode prog_14_method_3_code 23 = .ok (.lload_n 2, 1) := by decide +kernel
theorem dq_Md_feed_24 : decode prog_14_method_3_code 24 = .ok (.bipush 8, 2) := by decide +kernel
theorem dq_Md_feed_26 : decode prog_14_method_3_code 26 = .ok (.iload 5, 2) := by decide +kernel
theorem dq_Md_feed_28 : decode prog_14_method_3_code 28 = .ok (.imul, 1) := by decide +kernel
theorem dq_Md_feed_29 : decode prog_14_method_3_code 29 = .ok (.lushr, 1) := by decide +kernel
theorem dq_Md_feed_30 : decode prog_14_method_3_code 30 = .ok (.l2i, 1) := by decide +kernel
theorem dq_Md_feed_31 : decode prog_14_method_3_code 31 = .ok (.sipush 255, 3) := by decide +kernel
theorem dq_Md_feed_34 : decode prog_14_method_3_code 34 = .ok (.iand, 1) := by decide +kernel
theorem dq_Md_feed_35 : decode prog_14_method_3_code 35 = .ok (.istore 6, 2) := by decide +kernel
theorem dq_Md_feed_37 : decode prog_14_method_3_code 37 = .ok (.iload 6, 2) := by decide +kernel
theorem dq_Md_feed_39 : decode prog_14_method_3_code 39 = .ok (.ifCond .eq 24, 3) := by decide +kernel
theorem dq_Md_feed_42 : decode prog_14_method_3_code 42 = .ok (.aload_n 0, 1) := by decide +kernel
theorem dq_Md_feed_43 : decode prog_14_method_3_code 43 = .ok (.iload_n 1, 1) := by decide +kernel
theorem dq_Md_feed_44 : decode prog_14_method_3_code 44 = .ok (.invokevirtual 178, 3) := by decide +kernel
theorem dq_Md_feed_47 : decode prog_14_method_3_code 47 = .ok (.ifCond .ne 6, 3) := by decide +kernel
theorem dq_Md_feed_50 : decode prog_14_method_3_code 50 = .ok (.iload 4, 2) := by decide +kernel
theorem dq_Md_feed_52 : decode prog_14_method_3_code 52 = .ok (.ireturn, 1) := by decide +kernel
theorem dq_Md_feed_53 : decode prog_14_method_3_code 53 = .ok (.iinc 4 1, 3) := by decide +kernel
theorem dq_Md_feed_56 : decode prog_14_method_3_code 56 = .ok (.aload_n 0, 1) := by decide +kernel
theorem dq_Md_feed_57 : decode prog_14_method_3_code 57 = .ok (.iload_n 1, 1) := by decide +kernel
theorem dq_Md_feed_58 : decode prog_14_method_3_code 58 = .ok (.iload 6, 2) := by decide +kernel
theorem dq_Md_feed_60 : decode prog_14_method_3_code 60 = .ok (.invokevirtual 182, 3) := by decide +kernel
theorem dq_Md_feed_63 : decode prog_14_method_3_code 63 = .ok (.iinc 5 (-1), 3) := by decide +kernel
theorem dq_Md_feed_66 : decode prog_14_method_3_code 66 = .ok (.goto (-48), 3) := by decide +kernel
theorem dq_Md_feed_69 : decode prog_14_method_3_code 69 = .ok (.iload 4, 2) := by decide +kernel
theorem dq_Md_feed_71 : decode prog_14_method_3_code 71 = .ok (.ireturn, 1) := by decide +kernel
set_option maxRecDepth 100000 in
def pq_Md_feed_9 (E : wo_E) (mc ms : Nat) (Post : Int32 → wo_W → Prop) (G : wo_W) (c s : Nat) : Prop := Post (0 : Int32) G
set_option maxRecDepth 100000 in
def pq_Md_feed_63 (E : wo_E) (mc ms : Nat) (Post : Int32 → wo_W → Prop) (k18 : wo_W → Nat → Nat → Nat → Int32 → Int64 → Int32 → Int32 → Prop) (G : wo_W) (c s : Nat) (x0 : Nat) (x1 : Int32) (x2 : Int64) (x4 : Int32) (x5 : Int32) : Prop := k18 G c s x0 x1 x2 x4 (x5 + (-1 : Int32))
set_option maxRecDepth 100000 in
def pq_Md_feed_18 (E : wo_E) (mc ms : Nat) (Post : Int32 → wo_W → Prop) : Nat → wo_W → Nat → Nat → Nat → Int32 → Int64 → Int32 → Int32 → Prop
  | 0 => fun _ _ _ _ _ _ _ _ => False
  | n + 1 => fun G c s x0 x1 x2 x4 x5 => ((x5 < (0 : Int32) → Post x4 G) ∧
  (¬ x5 < (0 : Int32) → ((((wo_lushr x2 ((8 : Int32) * x5)).toInt32 &&& (255 : Int32)) = (0 : Int32) → pq_Md_feed_63 E mc ms Post (pq_Md_feed_18 E mc ms Post n) G c s x0 x1 x2 x4 x5) ∧
    (¬ ((wo_lushr x2 ((8 : Int32) * x5)).toInt32 &&& (255 : Int32)) = (0 : Int32) → wo_ty G x0 = 15 ∧ ∃ mc2 ms3 : Nat, (c + mc2) ≤ mc ∧ (s + ms3) ≤ ms ∧ pq_Md_may E mc2 ms3 (fun v5 G4 => 
      ((¬ v5 = (0 : Int32) → wo_ty G4 x0 = 15 ∧ ∃ mc7 ms8 : Nat, ((c + mc2) + mc7) ≤ mc ∧ ((s + ms3) + ms8) ≤ ms ∧ pq_Md_comes E mc7 ms8 (fun G9 => 
          pq_Md_feed_63 E mc ms Post (pq_Md_feed_18 E mc ms Post n) G9 ((c + mc2) + mc7) ((s + ms3) + ms8) x0 x1 x2 (x4 + (1 : Int32)) x5) G4 x0 x1 ((wo_lushr x2 ((8 : Int32) * x5)).toInt32 &&& (255 : Int32))) ∧
        (v5 = (0 : Int32) → Post x4 G4))) G x0 x1))))
set_option maxRecDepth 100000 in
def pq_Md_feed_0 (E : wo_E) (mc ms : Nat) (Post : Int32 → wo_W → Prop) (G : wo_W) (c s : Nat) (x0 : Nat) (x1 : Int32) (x2 : Int64) : Prop := ((x1 < (0 : Int32) → pq_Md_feed_9 E mc ms Post G c s) ∧
  (¬ x1 < (0 : Int32) → ((x1 ≤ (2 : Int32) → ∃ n1 : Nat, pq_Md_feed_18 E mc ms Post n1 G c s x0 x1 x2 (0 : Int32) (7 : Int32)) ∧
    (¬ x1 ≤ (2 : Int32) → pq_Md_feed_9 E mc ms Post G c s))))
def pq_Md_feed (E : wo_E) (mc ms : Nat) (Post : Int32 → wo_W → Prop) (G : wo_W) (x0 : Nat) (x1 : Int32) (x2 : Int64) : Prop := pq_Md_feed_0 E mc ms Post G 0 0 x0 x1 x2
set_option maxRecDepth 100000 in
set_option maxHeartbeats 4000000 in
theorem tq_Md_feed_9 {p : Program} {l : Launch} {e : Env} {R : Room} {s₀ : State} {m : MethodId} {args : Array Value} {below : List Frame} {meth : Method} {cd : Code} {E : wo_E} {mc ms : Nat} {Post : Int32 → wo_W → Prop} (hC : wo_Cx E "EdgeCacheModel" prog_14_method_3_code 7 8 191 ((Option.some Jvm.ClassFile.FieldType.int)) "feed" mc ms p R s₀ m args meth cd) : ∀ {G : wo_W} {c s : Nat}, pq_Md_feed_9 E mc ms Post G c s → ∀ {H : Heap} {locs : List Loc} {ls : Array Slot}, wo_Se E G H → va_S (en_A E) s₀.heap H locs → lx_has ls 7 [] → c ≤ mc → s ≤ ms → W p l e R s₀ m args below meth cd H locs c s (MQ below (va_Qi Post (wo_B E) (en_A E)) args s₀ mc ms (en_A E)) (F0 m 9 ls []) := by
  intro G c s hw H locs ls hG hS hl hcc hss
  dsimp only [pq_Md_feed_9] at hw
  have hx := hC.1
  have hb := hC.2.1
  refine lv_iconst (v := (0 : Int32)) hx hb dq_Md_feed_9 rfl ?_
  exact wo_iret hC hG hS hcc hss hw dq_Md_feed_10
set_option maxRecDepth 100000 in
set_option maxHeartbeats 4000000 in
theorem tq_Md_feed_63 {p : Program} {l : Launch} {e : Env} {R : Room} {s₀ : State} {m : MethodId} {args : Array Value} {below : List Frame} {meth : Method} {cd : Code} {E : wo_E} {mc ms : Nat} {Post : Int32 → wo_W → Prop} {k18 : wo_W → Nat → Nat → Nat → Int32 → Int64 → Int32 → Int32 → Prop} (hC : wo_Cx E "EdgeCacheModel" prog_14_method_3_code 7 8 191 ((Option.some Jvm.ClassFile.FieldType.int)) "feed" mc ms p R s₀ m args meth cd) (hk18 : ∀ {G : wo_W} {c s : Nat} {x0 : Nat} {x1 : Int32} {x2 : Int64} {x4 : Int32} {x5 : Int32}, k18 G c s x0 x1 x2 x4 x5 → ∀ {H : Heap} {locs : List Loc} {ls : Array Slot}, wo_Se E G H → va_S (en_A E) s₀.heap H locs → lx_has ls 7 [(0, 1, .ref x0), (1, 1, .int x1), (2, 2, .long x2), (4, 1, .int x4), (5, 1, .int x5)] → c ≤ mc → s ≤ ms → W p l e R s₀ m args below meth cd H locs c s (MQ below (va_Qi Post (wo_B E) (en_A E)) args s₀ mc ms (en_A E)) (F0 m 18 ls [])) : ∀ {G : wo_W} {c s : Nat} {x0 : Nat} {x1 : Int32} {x2 : Int64} {x4 : Int32} {x5 : Int32}, pq_Md_feed_63 E mc ms Post k18 G c s x0 x1 x2 x4 x5 → ∀ {H : Heap} {locs : List Loc} {ls : Array Slot}, wo_Se E G H → va_S (en_A E) s₀.heap H locs → lx_has ls 7 [(0, 1, .ref x0), (1, 1, .int x1), (2, 2, .long x2), (4, 1, .int x4), (5, 1, .int x5)] → c ≤ mc → s ≤ ms → W p l e R s₀ m args below meth cd H locs c s (MQ below (va_Qi Post (wo_B E) (en_A E)) args s₀ mc ms (en_A E)) (F0 m 63 ls []) := by
  intro G c s x0 x1 x2 x4 x5 hw H locs ls hG hS hl hcc hss
  dsimp only [pq_Md_feed_63] at hw
  have hx := hC.1
  have hb := hC.2.1
  refine lx_iinc (k := 4) (v := (x5 + (-1 : Int32))) (lv' := [(5, 1, .int (x5 + (-1 : Int32))), (0, 1, .ref x0), (1, 1, .int x1), (2, 2, .long x2), (4, 1, .int x4)]) hx hb dq_Md_feed_63 hl rfl rfl (by decide) rfl (fun ls hl' => ?_)
  clear hl
  have hl := hl'
  clear hl'
  refine lv_goto (tgt := 18) hx hb dq_Md_feed_66 rfl ?_
  exact hk18 hw hG hS (lx_sub hl [1, 2, 3, 4, 0] rfl) hcc hss
set_option maxRecDepth 100000 in
set_option maxHeartbeats 4000000 in
theorem tq_Md_feed_18 {p : Program} {l : Launch} {e : Env} {R : Room} {s₀ : State} {m : MethodId} {args : Array Value} {below : List Frame} {meth : Method} {cd : Code} {E : wo_E} {mc ms : Nat} {Post : Int32 → wo_W → Prop} (hC : wo_Cx E "EdgeCacheModel" prog_14_method_3_code 7 8 191 ((Option.some Jvm.ClassFile.FieldType.int)) "feed" mc ms p R s₀ m args meth cd) : ∀ n : Nat, ∀ {G : wo_W} {c s : Nat} {x0 : Nat} {x1 : Int32} {x2 : Int64} {x4 : Int32} {x5 : Int32}, pq_Md_feed_18 E mc ms Post n G c s x0 x1 x2 x4 x5 → ∀ {H : Heap} {locs : List Loc} {ls : Array Slot}, wo_Se E G H → va_S (en_A E) s₀.heap H locs → lx_has ls 7 [(0, 1, .ref x0), (1, 1, .int x1), (2, 2, .long x2), (4, 1, .int x4), (5, 1, .int x5)] → c ≤ mc → s ≤ ms → W p l e R s₀ m args below meth cd H locs c s (MQ below (va_Qi Post (wo_B E) (en_A E)) args s₀ mc ms (en_A E)) (F0 m 18 ls []) := by
  intro n
  induction n with
  | zero => intro G c s x0 x1 x2 x4 x5 hw; exact hw.elim
  | succ n ih =>
    intro G c s x0 x1 x2 x4 x5 hw H locs ls hG hS hl hcc hss
    dsimp only [pq_Md_feed_18] at hw
    have hx := hC.1
    have hb := hC.2.1
    refine lv_iload hx hb dq_Md_feed_18 (lx_at hl 4 rfl) ?_
    refine lv_if_lt (tgt := 69) hx hb dq_Md_feed_20 rfl (fun h => ?_) (fun h => ?_)
    · replace hw := hw.1 h
      refine lv_iload hx hb dq_Md_feed_69 (lx_at hl 3 rfl) ?_
      exact wo_iret hC hG hS hcc hss hw dq_Md_feed_71
    · replace hw := hw.2 h
      refine lv_lload_n hx hb dq_Md_feed_23 rfl (lx_at hl 2 rfl) ?_
      refine lv_bipush (v := (8 : Int32)) hx hb dq_Md_feed_24 rfl ?_
      refine lv_iload hx hb dq_Md_feed_26 (lx_at hl 4 rfl) ?_
      refine lv_imul hx hb dq_Md_feed_28 ?_
      refine lv_lushr (v := (wo_lushr x2 ((8 : Int32) * x5))) hx hb dq_Md_feed_29 rfl ?_
      refine lv_l2i (v := (wo_lushr x2 ((8 : Int32) * x5)).toInt32) hx hb dq_Md_feed_30 rfl ?_
      refine lv_sipush (v := (255 : Int32)) hx hb dq_Md_feed_31 rfl ?_
      refine lv_iand hx hb dq_Md_feed_34 ?_
      refine lx_istore (lv' := [(6, 1, .int ((wo_lushr x2 ((8 : Int32) * x5)).toInt32 &&& (255 : Int32))), (0, 1, .ref x0), (1, 1, .int x1), (2, 2, .long x2), (4, 1, .int x4), (5, 1, .int x5)]) hx hb dq_Md_feed_35 hl (by decide) rfl (fun ls hl' => ?_)
      clear hl
      have hl := hl'
      clear hl'
      refine lv_iload hx hb dq_Md_feed_37 (lx_at hl 0 rfl) ?_
      refine lv_if_eq (tgt := 63) hx hb dq_Md_feed_39 rfl (fun h => ?_) (fun h => ?_)
      · replace hw := hw.1 h
        exact tq_Md_feed_63 hC ih hw hG hS (lx_sub hl [1, 2, 3, 4, 5] rfl) hcc hss
      · replace hw := hw.2 h
        refine lv_aload_n hx hb dq_Md_feed_42 rfl (lx_at hl 1 rfl) ?_
        refine lv_iload_n hx hb dq_Md_feed_43 rfl (lx_at hl 2 rfl) ?_
        obtain ⟨t1, hw⟩ := hw
        obtain ⟨mc2, ms3, hc1, hs1, hw⟩ := hw
        refine va_calli (wo_runV hC lq_Md_178 (mq_Md_may hw) hG hS t1 rfl (lx_sz hl) rfl (Nat.zero_le _) (by decide) dq_Md_feed_44 ⟨hc1, hs1⟩) hS (fun _ _ h => h) (fun _ h => h) (fun v5 G4 t H locs ht hvm hw' hB _ _ hS => ?_)
        clear hw
        have hw := hw'
        clear hw'
        replace hG := wo_bk ht hB
        replace hcc := hc1
        replace hss := hs1
        refine lv_if_ne (tgt := 53) hx hb dq_Md_feed_47 rfl (fun h => ?_) (fun h => ?_)
        · replace hw := hw.1 h
          refine lx_iinc (k := 4) (v := (x4 + (1 : Int32))) (lv' := [(4, 1, .int (x4 + (1 : Int32))), (6, 1, .int ((wo_lushr x2 ((8 : Int32) * x5)).toInt32 &&& (255 : Int32))), (0, 1, .ref x0), (1, 1, .int x1), (2, 2, .long x2), (5, 1, .int x5)]) hx hb dq_Md_feed_53 hl rfl rfl (by decide) rfl (fun ls hl' => ?_)
          clear hl
          have hl := hl'
          clear hl'
          refine lv_aload_n hx hb dq_Md_feed_56 rfl (lx_at hl 2 rfl) ?_
          refine lv_iload_n hx hb dq_Md_feed_57 rfl (lx_at hl 3 rfl) ?_
          refine lv_iload hx hb dq_Md_feed_58 (lx_at hl 1 rfl) ?_
          obtain ⟨t6, hw⟩ := hw
          obtain ⟨mc7, ms8, hc1, hs1, hw⟩ := hw
          refine va_callv (wo_runV hC lq_Md_182 (mq_Md_comes hw) hG hS t6 rfl (lx_sz hl) rfl (Nat.zero_le _) (by decide) dq_Md_feed_60 ⟨hc1, hs1⟩) hS (fun _ _ h => h) (fun _ h => h) (fun G9 t H locs ht hvm hw' hB _ _ hS => ?_)
          clear hw
          have hw := hw'
          clear hw'
          replace hG := wo_bk ht hB
          replace hcc := hc1
          replace hss := hs1
          exact tq_Md_feed_63 hC ih hw hG hS (lx_sub hl [2, 3, 4, 0, 5] rfl) hcc hss
        · replace hw := hw.2 h
          refine lv_iload hx hb dq_Md_feed_50 (lx_at hl 4 rfl) ?_
          exact wo_iret hC hG hS hcc hss hw dq_Md_feed_52
set_option maxRecDepth 100000 in
set_option maxHeartbeats 4000000 in
theorem tq_Md_feed_0 {p : Program} {l : Launch} {e : Env} {R : Room} {s₀ : State} {m : MethodId} {args : Array Value} {below : List Frame} {meth : Method} {cd : Code} {E : wo_E} {mc ms : Nat} {Post : Int32 → wo_W → Prop} (hC : wo_Cx E "EdgeCacheModel" prog_14_method_3_code 7 8 191 ((Option.some Jvm.ClassFile.FieldType.int)) "feed" mc ms p R s₀ m args meth cd) : ∀ {G : wo_W} {c s : Nat} {x0 : Nat} {x1 : Int32} {x2 : Int64}, pq_Md_feed_0 E mc ms Post G c s x0 x1 x2 → ∀ {H : Heap} {locs : List Loc} {ls : Array Slot}, wo_Se E G H → va_S (en_A E) s₀.heap H locs → lx_has ls 7 [(0, 1, .ref x0), (1, 1, .int x1), (2, 2, .long x2)] → c ≤ mc → s ≤ ms → W p l e R s₀ m args below meth cd H locs c s (MQ below (va_Qi Post (wo_B E) (en_A E)) args s₀ mc ms (en_A E)) (F0 m 0 ls []) := by
  intro G c s x0 x1 x2 hw H locs ls hG hS hl hcc hss
  dsimp only [pq_Md_feed_0] at hw
  have hx := hC.1
  have hb := hC.2.1
  refine lv_iload_n hx hb dq_Md_feed_0 rfl (lx_at hl 1 rfl) ?_
  refine lv_if_lt (tgt := 9) hx hb dq_Md_feed_1 rfl (fun h => ?_) (fun h => ?_)
  · replace hw := hw.1 h
    exact tq_Md_feed_9 hC hw hG hS (lx_sub hl [] rfl) hcc hss
  · replace hw := hw.2 h
    refine lv_iload_n hx hb dq_Md_feed_4 rfl (lx_at hl 1 rfl) ?_
    refine lv_iconst (v := (2 : Int32)) hx hb dq_Md_feed_5 rfl ?_
    refine lv_icmp_le (tgt := 11) hx hb dq_Md_feed_6 rfl (fun h => ?_) (fun h => ?_)
    · replace hw := hw.1 h
      refine lv_iconst (v := (0 : Int32)) hx hb dq_Md_feed_11 rfl ?_
      refine lx_istore (lv' := [(4, 1, .int (0 : Int32)), (0, 1, .ref x0), (1, 1, .int x1), (2, 2, .long x2)]) hx hb dq_Md_feed_12 hl (by decide) rfl (fun ls hl' => ?_)
      clear hl
      have hl := hl'
      clear hl'
      refine lv_bipush (v := (7 : Int32)) hx hb dq_Md_feed_14 rfl ?_
      refine lx_istore (lv' := [(5, 1, .int (7 : Int32)), (4, 1, .int (0 : Int32)), (0, 1, .ref x0), (1, 1, .int x1), (2, 2, .long x2)]) hx hb dq_Md_feed_16 hl (by decide) rfl (fun ls hl' => ?_)
      clear hl
      have hl := hl'
      clear hl'
      obtain ⟨n1, hw⟩ := hw
      exact tq_Md_feed_18 hC n1 hw hG hS (lx_sub hl [2, 3, 4, 1, 0] rfl) hcc hss
    · replace hw := hw.2 h
      exact tq_Md_feed_9 hC hw hG hS (lx_sub hl [] rfl) hcc hss
set_option maxHeartbeats 4000000 in
theorem mq_Md_feed {l : Launch} {E : wo_E} {mc ms : Nat} {Post : Int32 → wo_W → Prop} {G : wo_W} {x0 : Nat} {x1 : Int32} {x2 : Int64} (hw : pq_Md_feed E mc ms Post G x0 x1 x2) : Met l yq_Md_feed (Cond.code yq_Md_feed prog_14_method_3_code 7 ((Option.some Jvm.ClassFile.FieldType.int)) :: vw_WG) { frames := 8, cells := mc, slots := ms, locals := 191 } (va_Pc [.ref x0, .int x1, .long x2] (wo_Ok E G)) (va_Qi Post (wo_B E) (en_A E)) mc ms (en_A E) := by
  unfold pq_Md_feed at hw
  exact wo_met [(1, .ref x0), (1, .int x1), (2, .long x2)] rfl (by decide) (fun q hq => by simp only [List.mem_cons, List.not_mem_nil, or_false] at hq; rcases hq with rfl | rfl | rfl <;> first | rfl | exact lx_cR _) (Nat.le_of_ble_eq_true rfl) (fun p e R s m args below meth cd ls hC hG hS hl => tq_Md_feed_0 hC hw hG hS (lx_sub hl [0, 1, 2] rfl) (Nat.zero_le _) (Nat.zero_le _))
