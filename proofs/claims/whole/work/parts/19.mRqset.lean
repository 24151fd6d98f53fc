theorem dq_Rq_set_0 : decode prog_7_method_4_code 0 = .ok (.iload_n 1, 1) := by decide +kernel
theorem dq_Rq_set_1 : decode prog_7_method_4_code 1 = .ok (.tableswitch 159 67 86 #[127, 159, 159, 159, 159, 159, 119, 159, 143, 159, 95, 103, 159, 151, 159, 111, 159, 159, 159, 135], 95) := by decide +kernel
theorem dq_Rq_set_96 : decode prog_7_method_4_code 96 = .ok (.aload_n 0, 1) := by decide +kernel
theorem dq_Rq_set_97 : decode prog_7_method_4_code 97 = .ok (.aload_n 2, 1) := by decide +kernel
theorem dq_Rq_set_98 : decode prog_7_method_4_code 98 = .ok (.putfield 38, 3) := by decide +kernel
theorem dq_Rq_set_101 : decode prog_7_method_4_code 101 = .ok (.goto 59, 3) := by decide +kernel
theorem dq_Rq_set_104 : decode prog_7_method_4_code 104 = .ok (.aload_n 0, 1) := by decide +kernel
theorem dq_Rq_set_105 : decode prog_7_method_4_code 105 = .ok (.aload_n 2, 1) := by decide +kernel
theorem dq_Rq_set_106 : decode prog_7_method_4_code 106 = .ok (.putfield 41, 3) := by decide +kernel
theorem dq_Rq_set_109 : decode prog_7_method_4_code 109 = .ok (.goto 51, 3) := by decide +kernel
theorem dq_Rq_set_112 : decode prog_7_method_4_code 112 = .ok (.aload_n 0, 1) := by decide +kernel
theorem dq_Rq_set_113 : decode prog_7_method_4_code 113 = .ok (.aload_n 2, 1) := by decide +kernel
theorem dq_Rq_set_114 : decode prog_7_method_4_code 114 = .ok (.putfield 44, 3) := by decide +kernel
theorem dq_Rq_set_117 : decode prog_7_method_4_code 117 = .ok (.goto 43, 3) := by decide +kernel
theorem dq_Rq_set_120 : decode prog_7_method_4_code 120 = .ok (.aload_n 0, 1) := by decide +kernel
theorem dq_Rq_set_121 : decode prog_7_method_4_code 121 = .ok (.aload_n 2, 1) := by decide +kernel
theorem dq_Rq_set_122 : decode prog_7_method_4_code 122 = .ok (.putfield 47, 3) := by decide +kernel
theorem dq_Rq_set_125 : decode prog_7_method_4_code 125 = .ok (.goto 35, 3) := by decide +kernel
theorem dq_Rq_set_128 : decode prog_7_method_4_code 128 = .ok (.aload_n 0, 1) := by decide +kernel
theorem dq_Rq_set_129 : decode prog_7_method_4_code 129 = .ok (.aload_n 2, 1) := by decide +kernel
theorem dq_Rq_set_130 : decode prog_7_method_4_code 130 = .ok (.putfield 50, 3) := by decide +kernel
theorem dq_Rq_set_133 : decode prog_7_method_4_code 133 = .ok (.goto 27, 3) := by decide +kernel
theorem dq_Rq_set_136 : decode prog_7_method_4_code 136 = .ok (.aload_n 0, 1) := by decide +kernel
theorem dq_Rq_set_137 : decode prog_7_method_4_code 137 = .ok (.aload_n 2, 1) := by decide +kernel
theorem dq_Rq_set_138 : decode prog_7_method_4_code 138 = .ok (.putfield 53, 3) := by decide +kernel
theorem dq_Rq_set_141 : decode prog_7_method_4_code 141 = .ok (.goto 19, 3) := by decide +kernel
theorem dq_Rq_set_144 : decode prog_7_method_4_code 144 = .ok (.aload_n 0, 1) := by decide +kernel
theorem dq_Rq_set_145 : decode prog_7_method_4_code 145 = .ok (.aload_n 2, 1) := by decide +kernel
theorem dq_Rq_set_146 : decode prog_7_method_4_code 146 = .ok (.putfield 56, 3) := by decide +kernel
theorem dq_Rq_set_149 : decode prog_7_method_4_code 149 = .ok (.goto 11, 3) := by decide +kernel
theorem dq_Rq_set_152 : decode prog_7_method_4_code 152 = .ok (.aload_n 0, 1) := by decide +kernel
theorem dq_Rq_set_153 : decode prog_7_method_4_code 153 = .ok (.aload_n 2, 1) := by decide +kernel
theorem dq_Rq_set_154 : decode prog_7_method_4_code 154 = .ok (.putfield 59, 3) := by decide +kernel
theorem dq_Rq_set_157 : decode prog_7_method_4_code 157 = .ok (.goto 3, 3) := by decide +kernel
theorem dq_Rq_set_160 : decode prog_7_method_4_code 160 = .ok (.return_, 1) := by decide +kernel
set_option maxRecDepth 100000 in
def pq_Rq_set_160 (E : wo_E) (mc ms : Nat) (Post : wo_W → Prop) (G : wo_W) (c s : Nat) : Prop := Post G
set_option maxRecDepth 100000 in
def pq_Rq_set_0 (E : wo_E) (mc ms : Nat) (Post : wo_W → Prop) (G : wo_W) (c s : Nat) (x0 : Nat) (x1 : Int32) (x2 : Option Nat) : Prop := ((x1 = (67 : Int32) → wo_ty G x0 = 9 ∧ en_bs E ≤ x0 ∧ ∀ G3 : wo_W, G3 = wo_sr G 519 x0 x2 → 
    pq_Rq_set_160 E mc ms Post G3 c s) ∧
  (x1 = (68 : Int32) → pq_Rq_set_160 E mc ms Post G c s) ∧
  (x1 = (69 : Int32) → pq_Rq_set_160 E mc ms Post G c s) ∧
  (x1 = (70 : Int32) → pq_Rq_set_160 E mc ms Post G c s) ∧
  (x1 = (71 : Int32) → pq_Rq_set_160 E mc ms Post G c s) ∧
  (x1 = (72 : Int32) → pq_Rq_set_160 E mc ms Post G c s) ∧
  (x1 = (73 : Int32) → wo_ty G x0 = 9 ∧ en_bs E ≤ x0 ∧ ∀ G7 : wo_W, G7 = wo_sr G 518 x0 x2 → 
    pq_Rq_set_160 E mc ms Post G7 c s) ∧
  (x1 = (74 : Int32) → pq_Rq_set_160 E mc ms Post G c s) ∧
  (x1 = (75 : Int32) → wo_ty G x0 = 9 ∧ en_bs E ≤ x0 ∧ ∀ G11 : wo_W, G11 = wo_sr G 521 x0 x2 → 
    pq_Rq_set_160 E mc ms Post G11 c s) ∧
  (x1 = (76 : Int32) → pq_Rq_set_160 E mc ms Post G c s) ∧
  (x1 = (77 : Int32) → wo_ty G x0 = 9 ∧ en_bs E ≤ x0 ∧ ∀ G15 : wo_W, G15 = wo_sr G 515 x0 x2 → 
    pq_Rq_set_160 E mc ms Post G15 c s) ∧
  (x1 = (78 : Int32) → wo_ty G x0 = 9 ∧ en_bs E ≤ x0 ∧ ∀ G19 : wo_W, G19 = wo_sr G 516 x0 x2 → 
    pq_Rq_set_160 E mc ms Post G19 c s) ∧
  (x1 = (79 : Int32) → pq_Rq_set_160 E mc ms Post G c s) ∧
  (x1 = (80 : Int32) → wo_ty G x0 = 9 ∧ en_bs E ≤ x0 ∧ ∀ G23 : wo_W, G23 = wo_sr G 522 x0 x2 → 
    pq_Rq_set_160 E mc ms Post G23 c s) ∧
  (x1 = (81 : Int32) → pq_Rq_set_160 E mc ms Post G c s) ∧
  (x1 = (82 : Int32) → wo_ty G x0 = 9 ∧ en_bs E ≤ x0 ∧ ∀ G27 : wo_W, G27 = wo_sr G 517 x0 x2 → 
    pq_Rq_set_160 E mc ms Post G27 c s) ∧
  (x1 = (83 : Int32) → pq_Rq_set_160 E mc ms Post G c s) ∧
  (x1 = (84 : Int32) → pq_Rq_set_160 E mc ms Post G c s) ∧
  (x1 = (85 : Int32) → pq_Rq_set_160 E mc ms Post G c s) ∧
  (x1 = (86 : Int32) → wo_ty G x0 = 9 ∧ en_bs E ≤ x0 ∧ ∀ G31 : wo_W, G31 = wo_sr G 520 x0 x2 → 
    pq_Rq_set_160 E mc ms Post G31 c s) ∧
  (¬ x1 = (67 : Int32) → ¬ x1 = (68 : Int32) → ¬ x1 = (69 : Int32) → ¬ x1 = (70 : Int32) → ¬ x1 = (71 : Int32) → ¬ x1 = (72 : Int32) → ¬ x1 = (73 : Int32) → ¬ x1 = (74 : Int32) → ¬ x1 = (75 : Int32) → ¬ x1 = (76 : Int32) → ¬ x1 = (77 : Int32) → ¬ x1 = (78 : Int32) → ¬ x1 = (79 : Int32) → ¬ x1 = (80 : Int32) → ¬ x1 = (81 : Int32) → ¬ x1 = (82 : Int32) → ¬ x1 = (83 : Int32) → ¬ x1 = (84 : Int32) → ¬ x1 = (85 : Int32) → ¬ x1 = (86 : Int32) → pq_Rq_set_160 E mc ms Post G c s))
def pq_Rq_set (E : wo_E) (mc ms : Nat) (Post : wo_W → Prop) (G : wo_W) (x0 : Nat) (x1 : Int32) (x2 : Option Nat) : Prop := pq_Rq_set_0 E mc ms Post G 0 0 x0 x1 x2
set_option maxRecDepth 100000 in
set_option maxHeartbeats 4000000 in
theorem tq_Rq_set_160 {p : Program} {l : Launch} {e : Env} {R : Room} {s₀ : State} {m : MethodId} {args : Array Value} {below : List Frame} {meth : Method} {cd : Code} {E : wo_E} {mc ms : Nat} {Post : wo_W → Prop} (hC : wo_Cx E "EdgeCache$Request" prog_7_method_4_code 3 0 0 ((Option.none : Option Jvm.ClassFile.FieldType)) "set" mc ms p R s₀ m args meth cd) : ∀ {G : wo_W} {c s : Nat}, pq_Rq_set_160 E mc ms Post G c s → ∀ {H : Heap} {locs : List Loc} {ls : Array Slot}, wo_Se E G H → va_S (en_A E) s₀.heap H locs → lx_has ls 3 [] → c ≤ mc → s ≤ ms → W p l e R s₀ m args below meth cd H locs c s (MQ below (va_Qv Post (wo_B E) (en_A E)) args s₀ mc ms (en_A E)) (F0 m 160 ls []) := by
  intro G c s hw H locs ls hG hS hl hcc hss
  dsimp only [pq_Rq_set_160] at hw
  have hx := hC.1
  have hb := hC.2.1
  exact wo_vret hC hG hS hcc hss hw dq_Rq_set_160
set_option maxRecDepth 100000 in
set_option maxHeartbeats 4000000 in
theorem tq_Rq_set_0 {p : Program} {l : Launch} {e : Env} {R : Room} {s₀ : State} {m : MethodId} {args : Array Value} {below : List Frame} {meth : Method} {cd : Code} {E : wo_E} {mc ms : Nat} {Post : wo_W → Prop} (hC : wo_Cx E "EdgeCache$Request" prog_7_method_4_code 3 0 0 ((Option.none : Option Jvm.ClassFile.FieldType)) "set" mc ms p R s₀ m args meth cd) : ∀ {G : wo_W} {c s : Nat} {x0 : Nat} {x1 : Int32} {x2 : Option Nat}, pq_Rq_set_0 E mc ms Post G c s x0 x1 x2 → ∀ {H : Heap} {locs : List Loc} {ls : Array Slot}, wo_Se E G H → va_S (en_A E) s₀.heap H locs → lx_has ls 3 [(0, 1, .ref x0), (1, 1, .int x1), (2, 1, va_rf x2)] → c ≤ mc → s ≤ ms → W p l e R s₀ m args below meth cd H locs c s (MQ below (va_Qv Post (wo_B E) (en_A E)) args s₀ mc ms (en_A E)) (F0 m 0 ls []) := by
  intro G c s x0 x1 x2 hw H locs ls hG hS hl hcc hss
  dsimp only [pq_Rq_set_0] at hw
  have hx := hC.1
  have hb := hC.2.1
  refine lv_iload_n hx hb dq_Rq_set_0 rfl (lx_at hl 1 rfl) ?_
  by_cases h0 : x1 = (67 : Int32)
  · replace hw := hw.1 h0
    refine lv_tableIn (off := 127) (tgt := 128) hx hb dq_Rq_set_1 (by rw [h0]; decide) (by rw [h0]; decide) (by rw [h0]; rfl) rfl ?_
    refine lv_aload_n hx hb dq_Rq_set_128 rfl (lx_at hl 0 rfl) ?_
    refine lx_aloadR_n hx hb dq_Rq_set_129 rfl (lx_at hl 2 rfl) ?_
    obtain ⟨t1, hw⟩ := hw
    obtain ⟨h2, hw⟩ := hw
    refine wo_putR (x := x2) hC fq_Rq_50 (Or.inl rfl) rfl hG hS t1 h2 dq_Rq_set_130 (fun G3 H locs e4 hG hS => ?_)
    replace hw := hw G3 e4
    refine lv_goto (tgt := 160) hx hb dq_Rq_set_133 rfl ?_
    exact tq_Rq_set_160 hC hw hG hS (lx_sub hl [] rfl) hcc hss
  by_cases h1 : x1 = (68 : Int32)
  · replace hw := hw.2.1 h1
    refine lv_tableIn (off := 159) (tgt := 160) hx hb dq_Rq_set_1 (by rw [h1]; decide) (by rw [h1]; decide) (by rw [h1]; rfl) rfl ?_
    exact tq_Rq_set_160 hC hw hG hS (lx_sub hl [] rfl) hcc hss
  by_cases h2 : x1 = (69 : Int32)
  · replace hw := hw.2.2.1 h2
    refine lv_tableIn (off := 159) (tgt := 160) hx hb dq_Rq_set_1 (by rw [h2]; decide) (by rw [h2]; decide) (by rw [h2]; rfl) rfl ?_
    exact tq_Rq_set_160 hC hw hG hS (lx_sub hl [] rfl) hcc hss
  by_cases h3 : x1 = (70 : Int32)
  · replace hw := hw.2.2.2.1 h3
    refine lv_tableIn (off := 159) (tgt := 160) hx hb dq_Rq_set_1 (by rw [h3]; decide) (by rw [h3]; decide) (by rw [h3]; rfl) rfl ?_
    exact tq_Rq_set_160 hC hw hG hS (lx_sub hl [] rfl) hcc hss
  by_cases h4 : x1 = (71 : Int32)
  · replace hw := hw.2.2.2.2.1 h4
    refine lv_tableIn (off := 159) (tgt := 160) hx hb dq_Rq_set_1 (by rw [h4]; decide) (by rw [h4]; decide) (by rw [h4]; rfl) rfl ?_
    exact tq_Rq_set_160 hC hw hG hS (lx_sub hl [] rfl) hcc hss
  by_cases h5 : x1 = (72 : Int32)
  · replace hw := hw.2.2.2.2.2.1 h5
    refine lv_tableIn (off := 159) (tgt := 160) hx hb dq_Rq_set_1 (by rw [h5]; decide) (by rw [h5]; decide) (by rw [h5]; rfl) rfl ?_
    exact tq_Rq_set_160 hC hw hG hS (lx_sub hl [] rfl) hcc hss
  by_cases h6 : x1 = (73 : Int32)
  · replace hw := hw.2.2.2.2.2.2.1 h6
    refine lv_tableIn (off := 119) (tgt := 120) hx hb dq_Rq_set_1 (by rw [h6]; decide) (by rw [h6]; decide) (by rw [h6]; rfl) rfl ?_
    refine lv_aload_n hx hb dq_Rq_set_120 rfl (lx_at hl 0 rfl) ?_
    refine lx_aloadR_n hx hb dq_Rq_set_121 rfl (lx_at hl 2 rfl) ?_
    obtain ⟨t5, hw⟩ := hw
    obtain ⟨h6, hw⟩ := hw
    refine wo_putR (x := x2) hC fq_Rq_47 (Or.inl rfl) rfl hG hS t5 h6 dq_Rq_set_122 (fun G7 H locs e8 hG hS => ?_)
    replace hw := hw G7 e8
    refine lv_goto (tgt := 160) hx hb dq_Rq_set_125 rfl ?_
    exact tq_Rq_set_160 hC hw hG hS (lx_sub hl [] rfl) hcc hss
  by_cases h7 : x1 = (74 : Int32)
  · replace hw := hw.2.2.2.2.2.2.2.1 h7
    refine lv_tableIn (off := 159) (tgt := 160) hx hb dq_Rq_set_1 (by rw [h7]; decide) (by rw [h7]; decide) (by rw [h7]; rfl) rfl ?_
    exact tq_Rq_set_160 hC hw hG hS (lx_sub hl [] rfl) hcc hss
  by_cases h8 : x1 = (75 : Int32)
  · replace hw := hw.2.2.2.2.2.2.2.2.1 h8
    refine lv_tableIn (off := 143) (tgt := 144) hx hb dq_Rq_set_1 (by rw [h8]; decide) (by rw [h8]; decide) (by rw [h8]; rfl) rfl ?_
    refine lv_aload_n hx hb dq_Rq_set_144 rfl (lx_at hl 0 rfl) ?_
    refine lx_aloadR_n hx hb dq_Rq_set_145 rfl (lx_at hl 2 rfl) ?_
    obtain ⟨t9, hw⟩ := hw
    obtain ⟨h10, hw⟩ := hw
    refine wo_putR (x := x2) hC fq_Rq_56 (Or.inl rfl) rfl hG hS t9 h10 dq_Rq_set_146 (fun G11 H locs e12 hG hS => ?_)
    replace hw := hw G11 e12
    refine lv_goto (tgt := 160) hx hb dq_Rq_set_149 rfl ?_
    exact tq_Rq_set_160 hC hw hG hS (lx_sub hl [] rfl) hcc hss
  by_cases h9 : x1 = (76 : Int32)
  · replace hw := hw.2.2.2.2.2.2.2.2.2.1 h9
    refine lv_tableIn (off := 159) (tgt := 160) hx hb dq_Rq_set_1 (by rw [h9]; decide) (by rw [h9]; decide) (by rw [h9]; rfl) rfl ?_
    exact tq_Rq_set_160 hC hw hG hS (lx_sub hl [] rfl) hcc hss
  by_cases h10 : x1 = (77 : Int32)
  · replace hw := hw.2.2.2.2.2.2.2.2.2.2.1 h10
    refine lv_tableIn (off := 95) (tgt := 96) hx hb dq_Rq_set_1 (by rw [h10]; decide) (by rw [h10]; decide) (by rw [h10]; rfl) rfl ?_
    refine lv_aload_n hx hb dq_Rq_set_96 rfl (lx_at hl 0 rfl) ?_
    refine lx_aloadR_n hx hb dq_Rq_set_97 rfl (lx_at hl 2 rfl) ?_
    obtain ⟨t13, hw⟩ := hw
    obtain ⟨h14, hw⟩ := hw
    refine wo_putR (x := x2) hC fq_Rq_38 (Or.inl rfl) rfl hG hS t13 h14 dq_Rq_set_98 (fun G15 H locs e16 hG hS => ?_)
    replace hw := hw G15 e16
    refine lv_goto (tgt := 160) hx hb dq_Rq_set_101 rfl ?_
    exact tq_Rq_set_160 hC hw hG hS (lx_sub hl [] rfl) hcc hss
  by_cases h11 : x1 = (78 : Int32)
  · replace hw := hw.2.2.2.2.2.2.2.2.2.2.2.1 h11
    refine lv_tableIn (off := 103) (tgt := 104) hx hb dq_Rq_set_1 (by rw [h11]; decide) (by rw [h11]; decide) (by rw [h11]; rfl) rfl ?_
    refine lv_aload_n hx hb dq_Rq_set_104 rfl (lx_at hl 0 rfl) ?_
    refine lx_aloadR_n hx hb dq_Rq_set_105 rfl (lx_at hl 2 rfl) ?_
    obtain ⟨t17, hw⟩ := hw
    obtain ⟨h18, hw⟩ := hw
    refine wo_putR (x := x2) hC fq_Rq_41 (Or.inl rfl) rfl hG hS t17 h18 dq_Rq_set_106 (fun G19 H locs e20 hG hS => ?_)
    replace hw := hw G19 e20
    refine lv_goto (tgt := 160) hx hb dq_Rq_set_109 rfl ?_
    exact tq_Rq_set_160 hC hw hG hS (lx_sub hl [] rfl) hcc hss
  by_cases h12 : x1 = (79 : Int32)
  · replace hw := hw.2.2.2.2.2.2.2.2.2.2.2.2.1 h12
    refine lv_tableIn (off := 159) (tgt := 160) hx hb dq_Rq_set_1 (by rw [h12]; decide) (by rw [h12]; decide) (by rw [h12]; rfl) rfl ?_
    exact tq_Rq_set_160 hC hw hG hS (lx_sub hl [] rfl) hcc hss
  by_cases h13 : x1 = (80 : Int32)
  · replace hw := hw.2.2.2.2.2.2.2.2.2.2.2.2.2.1 h13
    refine lv_tableIn (off := 151) (tgt := 152) hx hb dq_Rq_set_1 (by rw [h13]; decide) (by rw [h13]; decide) (by rw [h13]; rfl) rfl ?_
    refine lv_aload_n hx hb dq_Rq_set_152 rfl (lx_at hl 0 rfl) ?_
    refine lx_aloadR_n hx hb dq_Rq_set_153 rfl (lx_at hl 2 rfl) ?_
    obtain ⟨t21, hw⟩ := hw
    obtain ⟨h22, hw⟩ := hw
    refine wo_putR (x := x2) hC fq_Rq_59 (Or.inl rfl) rfl hG hS t21 h22 dq_Rq_set_154 (fun G23 H locs e24 hG hS => ?_)
    replace hw := hw G23 e24
    refine lv_goto (tgt := 160) hx hb dq_Rq_set_157 rfl ?_
    exact tq_Rq_set_160 hC hw hG hS (lx_sub hl [] rfl) hcc hss
  by_cases h14 : x1 = (81 : Int32)
  · replace hw := hw.2.2.2.2.2.2.2.2.2.2.2.2.2.2.1 h14
    refine lv_tableIn (off := 159) (tgt := 160) hx hb dq_Rq_set_1 (by rw [h14]; decide) (by rw [h14]; decide) (by rw [h14]; rfl) rfl ?_
    exact tq_Rq_set_160 hC hw hG hS (lx_sub hl [] rfl) hcc hss
  by_cases h15 : x1 = (82 : Int32)
  · replace hw := hw.2.2.2.2.2.2.2.2.2.2.2.2.2.2.2.1 h15
    refine lv_tableIn (off := 111) (tgt := 112) hx hb dq_Rq_set_1 (by rw [h15]; decide) (by rw [h15]; decide) (by rw [h15]; rfl) rfl ?_
    refine lv_aload_n hx hb dq_Rq_set_112 rfl (lx_at hl 0 rfl) ?_
    refine lx_aloadR_n hx hb dq_Rq_set_113 rfl (lx_at hl 2 rfl) ?_
    obtain ⟨t25, hw⟩ := hw
    obtain ⟨h26, hw⟩ := hw
    refine wo_putR (x := x2) hC fq_Rq_44 (Or.inl rfl) rfl hG hS t25 h26 dq_Rq_set_114 (fun G27 H locs e28 hG hS => ?_)
    replace hw := hw G27 e28
    refine lv_goto (tgt := 160) hx hb dq_Rq_set_117 rfl ?_
    exact tq_Rq_set_160 hC hw hG hS (lx_sub hl [] rfl) hcc hss
  by_cases h16 : x1 = (83 : Int32)
  · replace hw := hw.2.2.2.2.2.2.2.2.2.2.2.2.2.2.2.2.1 h16
    refine lv_tableIn (off := 159) (tgt := 160) hx hb dq_Rq_set_1 (by rw [h16]; decide) (by rw [h16]; decide) (by rw [h16]; rfl) rfl ?_
    exact tq_Rq_set_160 hC hw hG hS (lx_sub hl [] rfl) hcc hss
  by_cases h17 : x1 = (84 : Int32)
  · replace hw := hw.2.2.2.2.2.2.2.2.2.2.2.2.2.2.2.2.2.1 h17
    refine lv_tableIn (off := 159) (tgt := 160) hx hb dq_Rq_set_1 (by rw [h17]; decide) (by rw [h17]; decide) (by rw [h17]; rfl) rfl ?_
    exact tq_Rq_set_160 hC hw hG hS (lx_sub hl [] rfl) hcc hss
  by_cases h18 : x1 = (85 : Int32)
  · replace hw := hw.2.2.2.2.2.2.2.2.2.2.2.2.2.2.2.2.2.2.1 h18
    refine lv_tableIn (off := 159) (tgt := 160) hx hb dq_Rq_set_1 (by rw [h18]; decide) (by rw [h18]; decide) (by rw [h18]; rfl) rfl ?_
    exact tq_Rq_set_160 hC hw hG hS (lx_sub hl [] rfl) hcc hss
  by_cases h19 : x1 = (86 : Int32)
  · replace hw := hw.2.2.2.2.2.2.2.2.2.2.2.2.2.2.2.2.2.2.2.1 h19
    refine lv_tableIn (off := 135) (tgt := 136) hx hb dq_Rq_set_1 (by rw [h19]; decide) (by rw [h19]; decide) (by rw [h19]; rfl) rfl ?_
    refine lv_aload_n hx hb dq_Rq_set_136 rfl (lx_at hl 0 rfl) ?_
    refine lx_aloadR_n hx hb dq_Rq_set_137 rfl (lx_at hl 2 rfl) ?_
    obtain ⟨t29, hw⟩ := hw
    obtain ⟨h30, hw⟩ := hw
    refine wo_putR (x := x2) hC fq_Rq_53 (Or.inl rfl) rfl hG hS t29 h30 dq_Rq_set_138 (fun G31 H locs e32 hG hS => ?_)
    replace hw := hw G31 e32
    refine lv_goto (tgt := 160) hx hb dq_Rq_set_141 rfl ?_
    exact tq_Rq_set_160 hC hw hG hS (lx_sub hl [] rfl) hcc hss
  replace hw := hw.2.2.2.2.2.2.2.2.2.2.2.2.2.2.2.2.2.2.2.2 h0 h1 h2 h3 h4 h5 h6 h7 h8 h9 h10 h11 h12 h13 h14 h15 h16 h17 h18 h19
  have n0 : ¬ (x1).toInt = 67 := fun q => h0 (Int32.toInt_inj.mp (q.trans (by decide)))
  have n1 : ¬ (x1).toInt = 68 := fun q => h1 (Int32.toInt_inj.mp (q.trans (by decide)))
  have n2 : ¬ (x1).toInt = 69 := fun q => h2 (Int32.toInt_inj.mp (q.trans (by decide)))
  have n3 : ¬ (x1).toInt = 70 := fun q => h3 (Int32.toInt_inj.mp (q.trans (by decide)))
  have n4 : ¬ (x1).toInt = 71 := fun q => h4 (Int32.toInt_inj.mp (q.trans (by decide)))
  have n5 : ¬ (x1).toInt = 72 := fun q => h5 (Int32.toInt_inj.mp (q.trans (by decide)))
  have n6 : ¬ (x1).toInt = 73 := fun q => h6 (Int32.toInt_inj.mp (q.trans (by decide)))
  have n7 : ¬ (x1).toInt = 74 := fun q => h7 (Int32.toInt_inj.mp (q.trans (by decide)))
  have n8 : ¬ (x1).toInt = 75 := fun q => h8 (Int32.toInt_inj.mp (q.trans (by decide)))
  have n9 : ¬ (x1).toInt = 76 := fun q => h9 (Int32.toInt_inj.mp (q.trans (by decide)))
  have n10 : ¬ (x1).toInt = 77 := fun q => h10 (Int32.toInt_inj.mp (q.trans (by decide)))
  have n11 : ¬ (x1).toInt = 78 := fun q => h11 (Int32.toInt_inj.mp (q.trans (by decide)))
  have n12 : ¬ (x1).toInt = 79 := fun q => h12 (Int32.toInt_inj.mp (q.trans (by decide)))
  have n13 : ¬ (x1).toInt = 80 := fun q => h13 (Int32.toInt_inj.mp (q.trans (by decide)))
  have n14 : ¬ (x1).toInt = 81 := fun q => h14 (Int32.toInt_inj.mp (q.trans (by decide)))
  have n15 : ¬ (x1).toInt = 82 := fun q => h15 (Int32.toInt_inj.mp (q.trans (by decide)))
  have n16 : ¬ (x1).toInt = 83 := fun q => h16 (Int32.toInt_inj.mp (q.trans (by decide)))
  have n17 : ¬ (x1).toInt = 84 := fun q => h17 (Int32.toInt_inj.mp (q.trans (by decide)))
  have n18 : ¬ (x1).toInt = 85 := fun q => h18 (Int32.toInt_inj.mp (q.trans (by decide)))
  have n19 : ¬ (x1).toInt = 86 := fun q => h19 (Int32.toInt_inj.mp (q.trans (by decide)))
  refine lv_tableOut (tgt := 160) hx hb dq_Rq_set_1 (by omega) rfl ?_
  exact tq_Rq_set_160 hC hw hG hS (lx_sub hl [] rfl) hcc hss
set_option maxHeartbeats 4000000 in
theorem mq_Rq_set {l : Launch} {E : wo_E} {mc ms : Nat} {Post : wo_W → Prop} {G : wo_W} {x0 : Nat} {x1 : Int32} {x2 : Option Nat} (hw : pq_Rq_set E mc ms Post G x0 x1 x2) : Met l yq_Rq_set (Cond.code yq_Rq_set prog_7_method_4_code 3 ((Option.none : Option Jvm.ClassFile.FieldType)) :: vw_WG) { frames := 0, cells := mc, slots := ms, locals := 0 } (va_Pc [.ref x0, .int x1, va_rf x2] (wo_Ok E G)) (va_Qv Post (wo_B E) (en_A E)) mc ms (en_A E) := by
  unfold pq_Rq_set at hw
  exact wo_met [(1, .ref x0), (1, .int x1), (1, va_rf x2)] rfl (by decide) (fun q hq => by simp only [List.mem_cons, List.not_mem_nil, or_false] at hq; rcases hq with rfl | rfl | rfl <;> first | rfl | exact lx_cR _) (Nat.le_of_ble_eq_true rfl) (fun p e R s m args below meth cd ls hC hG hS hl => tq_Rq_set_0 hC hw hG hS (lx_sub hl [0, 1, 2] rfl) (Nat.zero_le _) (Nat.zero_le _))

theorem dq_St_substring_I_0 : decode prog_22_method_91_code 0 = .ok (.aload_n 0, 1) := by decide +kernel
theorem dq_St_substring_I_1 : decode prog_22_method_91_code 1 = .ok (.iload_n 1, 1) := by decide +kernel
theorem dq_St_substring_I_2 : decode prog_22_method_91_code 2 = .ok (.aload_n 0, 1) := by decide +kernel
theorem dq_St_substring_I_3 : decode prog_22_method_91_code 3 = .ok (.invokevirtual 505, 3) := by decide +kernel
theorem dq_St_substring_I_6 : decode prog_22_method_91_code 6 = .ok (.invokevirtual 681, 3) := by decide +kernel
theorem dq_St_substring_I_9 : decode prog_22_method_91_code 9 = .ok (.areturn, 1) := by decide +kernel
set_option maxRecDepth 100000 in
def pq_St_substring_I_0 (E : wo_E) (mc ms : Nat) (Post : Option Nat → wo_W → Prop) (G : wo_W) (c s : Nat) (x0 : Nat) (x1 : Int32) : Prop := wo_ty G x0 = 10 ∧ ∃ mc2 ms3 : Nat, (c + mc2) ≤ mc ∧ (s + ms3) ≤ ms ∧ pq_St_length E mc2 ms3 (fun v5 G4 => 
  wo_ty G4 x0 = 10 ∧ ∃ mc7 ms8 : Nat, ((c + mc2) + mc7) ≤ mc ∧ ((s + ms3) + ms8) ≤ ms ∧ pq_St_substring_II E mc7 ms8 (fun v10 G9 => 
    Post v10 G9) G4 x0 x1 v5) G x0
def pq_St_substring_I (E : wo_E) (mc ms : Nat) (Post : Option Nat → wo_W → Prop) (G : wo_W) (x0 : Nat) (x1 : Int32) : Prop := pq_St_substring_I_0 E mc ms Post G 0 0 x0 x1
set_option maxRecDepth 100000 in
set_option maxHeartbeats 4000000 in
theorem tq_St_substring_I_0 {p : Program} {l : Launch} {e : Env} {R : Room} {s₀ : State} {m : MethodId} {args : Array Value} {below : List Frame} {meth : Method} {cd : Code} {E : wo_E} {mc ms : Nat} {Post : Option Nat → wo_W → Prop} (hC : wo_Cx E "java/lang/String" prog_22_method_91_code 2 5 120 ((Option.some (Jvm.ClassFile.FieldType.object "java/lang/String"))) "substring" mc ms p R s₀ m args meth cd) : ∀ {G : wo_W} {c s : Nat} {x0 : Nat} {x1 : Int32}, pq_St_substring_I_0 E mc ms Post G c s x0 x1 → ∀ {H : Heap} {locs : List Loc} {ls : Array Slot}, wo_Se E G H → va_S (en_A E) s₀.heap H locs → lx_has ls 2 [(0, 1, .ref x0), (1, 1, .int x1)] → c ≤ mc → s ≤ ms → W p l e R s₀ m args below meth cd H locs c s (MQ below (va_Qq Post (wo_B E) (en_A E)) args s₀ mc ms (en_A E)) (F0 m 0 ls []) := by
  intro G c s x0 x1 hw H locs ls hG hS hl hcc hss
  dsimp only [pq_St_substring_I_0] at hw
  have hx := hC.1
  have hb := hC.2.1
  refine lv_aload_n hx hb dq_St_substring_I_0 rfl (lx_at hl 0 rfl) ?_
  refine lv_iload_n hx hb dq_St_substring_I_1 rfl (lx_at hl 1 rfl) ?_
  refine lv_aload_n hx hb dq_St_substring_I_2 rfl (lx_at hl 0 rfl) ?_
  obtain ⟨t1, hw⟩ := hw
  obtain ⟨mc2, ms3, hc1, hs1, hw⟩ := hw
  refine va_calli (wo_runV hC lq_St_505 (mq_St_length hw) hG hS t1 rfl (lx_sz hl) rfl (lx_rm (Nat.le_of_ble_eq_true rfl)) (by decide) dq_St_substring_I_3 ⟨hc1, hs1⟩) hS (fun _ _ h => h) (fun _ h => h) (fun v5 G4 t H locs ht hvm hw' hB _ _ hS => ?_)
  clear hw
  have hw := hw'
  clear hw'
  replace hG := wo_bk ht hB
  replace hcc := hc1
  replace hss := hs1
  obtain ⟨t6, hw⟩ := hw
  obtain ⟨mc7, ms8, hc1, hs1, hw⟩ := hw
  refine va_callq (wo_runV hC lq_St_681 (mq_St_substring_II hw) hG hS t6 rfl (lx_sz hl) rfl (Nat.zero_le _) (by decide) dq_St_substring_I_6 ⟨hc1, hs1⟩) hS (fun _ _ h => h) (fun _ h => h) (fun v10 G9 t H locs ht hvm hw' hB _ _ hS => ?_)
  clear hw
  have hw := hw'
  clear hw'
  replace hG := wo_bk ht hB
  replace hcc := hc1
  replace hss := hs1
  exact wo_aret (x := v10) hC rfl hG hS hcc hss hw dq_St_substring_I_9
set_option maxHeartbeats 4000000 in
theorem mq_St_substring_I {l : Launch} {E : wo_E} {mc ms : Nat} {Post : Option Nat → wo_W → Prop} {G : wo_W} {x0 : Nat} {x1 : Int32} (hw : pq_St_substring_I E mc ms Post G x0 x1) : Met l yq_St_substring_I (Cond.code yq_St_substring_I prog_22_method_91_code 2 ((Option.some (Jvm.ClassFile.FieldType.object "java/lang/String"))) :: vw_WG) { frames := 5, cells := mc, slots := ms, locals := 120 } (va_Pc [.ref x0, .int x1] (wo_Ok E G)) (va_Qq Post (wo_B E) (en_A E)) mc ms (en_A E) := by
  unfold pq_St_substring_I at hw
  exact wo_met [(1, .ref x0), (1, .int x1)] rfl (by decide) (fun q hq => by simp only [List.mem_cons, List.not_mem_nil, or_false] at hq; rcases hq with rfl | rfl <;> first | rfl | exact lx_cR _) (Nat.le_of_ble_eq_true rfl) (fun p e R s m args below meth cd ls hC hG hS hl => tq_St_substring_I_0 hC hw hG hS (lx_sub hl [0, 1] rfl) (Nat.zero_le _) (Nat.zero_le _))

theorem dq_Rd_judgeHeader_0 : decode prog_5_method_7_code 0 = .ok (.aload_n 0, 1) := by decide +kernel
theorem dq_Rd_judgeHeader_1 : decode prog_5_method_7_code 1 = .ok (.getfield 64, 3) := by decide +kernel
theorem dq_Rd_judgeHeader_4 : decode prog_5_method_7_code 4 = .ok (.bipush 8, 2) := by decide +kernel
theorem dq_Rd_judgeHeader_6 : decode prog_5_method_7_code 6 = .ok (.if_icmp .lt 7, 3) := by decide +kernel
theorem dq_Rd_judgeHeader_9 : decode prog_5_method_7_code 9 = .ok (.sipush 431, 3) := by decide +kernel
theorem dq_Rd_judgeHeader_12 : decode prog_5_method_7_code 12 = .ok (.ireturn, 1) := by decide +kernel
theorem dq_Rd_judgeHeader_13 : decode prog_5_method_7_code 13 = .ok (.aload_n 0, 1) := by decide +kernel
theorem dq_Rd_judgeHeader_14 : decode prog_5_method_7_code 14 = .ok (.dup, 1) := by decide +kernel
theorem dq_Rd_judgeHeader_15 : decode prog_5_method_7_code 15 = .ok (.getfield 64, 3) := by decide +kernel
theorem dq_Rd_judgeHeader_18 : decode prog_5_method_7_code 18 = .ok (.iconst 1, 1) := by decide +kernel
theorem dq_Rd_judgeHeader_19 : decode prog_5_method_7_code 19 = .ok (.iadd, 1) := by decide +kernel
theorem dq_Rd_judgeHeader_20 : decode prog_5_method_7_code 20 = .ok (.putfield 64, 3) := by decide +kernel
theorem dq_Rd_judgeHeader_23 : decode prog_5_method_7_code 23 = .ok (.aload_n 1, 1) := by decide +kernel
theorem dq_Rd_judgeHeader_24 : decode prog_5_method_7_code 24 = .ok (.invokestatic 120, 3) := by decide +kernel
theorem dq_Rd_judgeHeader_27 : decode prog_5_method_7_code 27 = .ok (.ifCond .ne 7, 3) := by decide +kernel
theorem dq_Rd_judgeHeader_30 : decode prog_5_method_7_code 30 = .ok (.sipush 400, 3) := by decide +kernel
theorem dq_Rd_judgeHeader_33 : decode prog_5_method_7_code 33 = .ok (.ireturn, 1) := by decide +kernel
theorem dq_Rd_judgeHeader_34 : decode prog_5_method_7_code 34 = .ok (.aload_n 1, 1) := by decide +kernel
theorem dq_Rd_judgeHeader_35 : decode prog_5_method_7_code 35 = .ok (.iconst 0, 1) := by decide +kernel
theorem dq_Rd_judgeHeader_36 : decode prog_5_method_7_code 36 = .ok (.invokevirtual 124, 3) := by decide +kernel
theorem dq_Rd_judgeHeader_39 : decode prog_5_method_7_code 39 = .ok (.istore_n 2, 1) := by decide +kernel
theorem dq_Rd_judgeHeader_40 : decode prog_5_method_7_code 40 = .ok (.aload_n 1, 1) := by decide +kernel
theorem dq_Rd_judgeHeader_41 : decode prog_5_method_7_code 41 = .ok (.iconst 2, 1) := by decide +kernel
theorem dq_Rd_judgeHeader_42 : decode prog_5_method_7_code 42 = .ok (.invokevirtual 105, 3) := by decide +kernel
theorem dq_Rd_judgeHeader_45 : decode prog_5_method_7_code 45 = .ok (.astore_n 3, 1) := by decide +kernel
theorem dq_Rd_judgeHeader_46 : decode prog_5_method_7_code 46 = .ok (.aload_n 3, 1) := by decide +kernel
theorem dq_Rd_judgeHeader_47 : decode prog_5_method_7_code 47 = .ok (.invokevirtual 119, 3) := by decide +kernel
theorem dq_Rd_judgeHeader_50 : decode prog_5_method_7_code 50 = .ok (.bipush 8, 2) := by decide +kernel
theorem dq_Rd_judgeHeader_52 : decode prog_5_method_7_code 52 = .ok (.if_icmp .le 7, 3) := by decide +kernel
theorem dq_Rd_judgeHeader_55 : decode prog_5_method_7_code 55 = .ok (.sipush 431, 3) := by decide +kernel
theorem dq_Rd_judgeHeader_58 : decode prog_5_method_7_code 58 = .ok (.ireturn, 1) := by decide +kernel
theorem dq_Rd_judgeHeader_59 : decode prog_5_method_7_code 59 = .ok (.iload_n 2, 1) := by decide +kernel
theorem dq_Rd_judgeHeader_60 : decode prog_5_method_7_code 60 = .ok (.bipush 76, 2) := by decide +kernel
theorem dq_Rd_judgeHeader_62 : decode prog_5_method_7_code 62 = .ok (.if_icmp .ne 9, 3) := by decide +kernel
theorem dq_Rd_judgeHeader_65 : decode prog_5_method_7_code 65 = .ok (.aload_n 0, 1) := by decide +kernel
theorem dq_Rd_judgeHeader_66 : decode prog_5_method_7_code 66 = .ok (.aload_n 3, 1) := by decide +kernel
theorem dq_Rd_judgeHeader_67 : decode prog_5_method_7_code 67 = .ok (.invokevirtual 128, 3) := by decide +kernel
theorem dq_Rd_judgeHeader_70 : decode prog_5_method_7_code 70 = .ok (.ireturn, 1) := by decide +kernel
theorem dq_Rd_judgeHeader_71 : decode prog_5_method_7_code 71 = .ok (.iload_n 2, 1) := by decide +kernel
theorem dq_Rd_judgeHeader_72 : decode prog_5_method_7_code 72 = .ok (.bipush 84, 2) := by decide +kernel
theorem dq_Rd_judgeHeader_74 : decode prog_5_method_7_code 74 = .ok (.if_icmp .ne 25, 3) := by decide +kernel
theorem dq_Rd_judgeHeader_77 : decode prog_5_method_7_code 77 = .ok (.aload_n 0, 1) := by decide +kernel
theorem dq_Rd_judgeHeader_78 : decode prog_5_method_7_code 78 = .ok (.iconst 1, 1) := by decide +kernel
theorem dq_Rd_judgeHeader_79 : decode prog_5_method_7_code 79 = .ok (.putfield 67, 3) := by decide +kernel
theorem dq_Rd_judgeHeader_82 : decode prog_5_method_7_code 82 = .ok (.aload_n 3, 1) := by decide +kernel
theorem dq_Rd_judgeHeader_83 : decode prog_5_method_7_code 83 = .ok (.ldc 131, 2) := by decide +kernel
theorem dq_Rd_judgeHeader_85 : decode prog_5_method_7_code 85 = .ok (.invokevirtual 133, 3) := by decide +kernel
theorem dq_Rd_judgeHeader_88 : decode prog_5_method_7_code 88 = .ok (.ifCond .eq 7, 3) := by decide +kernel
theorem dq_Rd_judgeHeader_91 : decode prog_5_method_7_code 91 = .ok (.iconst 0, 1) := by decide +kernel
theorem dq_Rd_judgeHeader_92 : decode prog_5_method_7_code 92 = .ok (.goto 6, 3) := by decide +kernel
theorem dq_Rd_judgeHeader_95 : decode prog_5_method_7_code 95 = .ok (.sipush 400, 3) := by decide +kernel
theorem dq_Rd_judgeHeader_98 : decode prog_5_method_7_code 98 = .ok (.ireturn, 1) := by decide +kernel
theorem dq_Rd_judgeHeader_99 : decode prog_5_method_7_code 99 = .ok (.aload_n 0, 1) := by decide +kernel
theorem dq_Rd_judgeHeader_100 : decode prog_5_method_7_code 100 = .ok (.getfield 27, 3) := by decide +kernel
theorem dq_Rd_judgeHeader_103 : decode prog_5_method_7_code 103 = .ok (.iload_n 2, 1) := by decide +kernel
theorem dq_Rd_judgeHeader_104 : decode prog_5_method_7_code 104 = .ok (.aload_n 3, 1) := by decide +kernel
theorem dq_Rd_judgeHeader_105 : decode prog_5_method_7_code 105 = .ok (.invokevirtual 137, 3) := by decide +kernel
theorem dq_Rd_judgeHeader_108 : decode prog_5_method_7_code 108 = .ok (.iconst 0, 1) := by decide +kernel
theorem dq_Rd_judgeHeader_109 : decode prog_5_method_7_code 109 = .ok (.ireturn, 1) := by decide +kernel
set_option maxRecDepth 100000 in
def pq_Rd_judgeHeader_98 (E : wo_E) (mc ms : Nat) (Post : Int32 → wo_W → Prop) (G : wo_W) (c s : Nat) (y0 : Int32) : Prop := Post y0 G
set_option maxRecDepth 100000 in
def pq_Rd_judgeHeader_0 (E : wo_E) (mc ms : Nat) (Post : Int32 → wo_W → Prop) (G : wo_W) (c s : Nat) (x0 : Nat) (x1 : Option Nat) : Prop := wo_ty G x0 = 8 ∧ (((wo_gi G 453 x0) < (8 : Int32) → en_bs E ≤ x0 ∧ ∀ G3 : wo_W, G3 = wo_si G 453 x0 ((wo_gi G 453 x0) + (1 : Int32)) → 
    ∃ mc5 ms6 : Nat, (c + mc5) ≤ mc ∧ (s + ms6) ≤ ms ∧ pq_Rd_isHeader E mc5 ms6 (fun v8 G7 => 
    ((¬ v8 = (0 : Int32) → ∃ a9 : Nat, x1 = some a9 ∧ wo_ty G7 a9 = 10 ∧ ∃ mc11 ms12 : Nat, ((c + mc5) + mc11) ≤ mc ∧ ((s + ms6) + ms12) ≤ ms ∧ pq_St_charAt E mc11 ms12 (fun v14 G13 => 
        wo_ty G13 a9 = 10 ∧ ∃ mc16 ms17 : Nat, (((c + mc5) + mc11) + mc16) ≤ mc ∧ (((s + ms6) + ms12) + ms17) ≤ ms ∧ pq_St_substring_I E mc16 ms17 (fun v19 G18 => 
          ∃ a20 : Nat, v19 = some a20 ∧ wo_ty G18 a20 = 10 ∧ ∃ mc22 ms23 : Nat, ((((c + mc5) + mc11) + mc16) + mc22) ≤ mc ∧ ((((s + ms6) + ms12) + ms17) + ms23) ≤ ms ∧ pq_St_length E mc22 ms23 (fun v25 G24 => 
            ((v25 ≤ (8 : Int32) → ((¬ v14 = (76 : Int32) → ((¬ v14 = (84 : Int32) → wo_ty G24 x0 = 8 ∧ ∀ r27 : Option Nat, r27 = wo_gr G24 451 x0 → ∃ a29 : Nat, r27 = some a29 ∧ wo_ty G24 a29 = 9 ∧ ∃ mc31 ms32 : Nat, (((((c + mc5) + mc11) + mc16) + mc22) + mc31) ≤ mc ∧ (((((s + ms6) + ms12) + ms17) + ms23) + ms32) ≤ ms ∧ pq_Rq_set E mc31 ms32 (fun G33 => 
                    Post (0 : Int32) G33) G24 a29 v14 (some a20)) ∧
                  (v14 = (84 : Int32) → wo_ty G24 x0 = 8 ∧ en_bs E ≤ x0 ∧ wo_okI .boolean (1 : Int32) ∧ ∀ G37 : wo_W, G37 = wo_si G24 455 x0 (1 : Int32) → 
                    wo_ty G37 a20 = 10 ∧ ∃ mc40 ms41 : Nat, (((((c + mc5) + mc11) + mc16) + mc22) + mc40) ≤ mc ∧ (((((s + ms6) + ms12) + ms17) + ms23) + ms41) ≤ ms ∧ pq_St_equals E mc40 ms41 (fun v43 G42 => 
                    ((v43 = (0 : Int32) → pq_Rd_judgeHeader_98 E mc ms Post G42 (((((c + mc5) + mc11) + mc16) + mc22) + mc40) (((((s + ms6) + ms12) + ms17) + ms23) + ms41) (400 : Int32)) ∧
                      (¬ v43 = (0 : Int32) → pq_Rd_judgeHeader_98 E mc ms Post G42 (((((c + mc5) + mc11) + mc16) + mc22) + mc40) (((((s + ms6) + ms12) + ms17) + ms23) + ms41) (0 : Int32)))) G37 a20 (some (en_str E 10))))) ∧
                (v14 = (76 : Int32) → wo_ty G24 x0 = 8 ∧ ∃ mc45 ms46 : Nat, (((((c + mc5) + mc11) + mc16) + mc22) + mc45) ≤ mc ∧ (((((s + ms6) + ms12) + ms17) + ms23) + ms46) ≤ ms ∧ pq_Rd_takeLength E mc45 ms46 (fun v48 G47 => 
                  Post v48 G47) G24 x0 (some a20)))) ∧
              (¬ v25 ≤ (8 : Int32) → Post (431 : Int32) G24))) G18 a20) G13 a9 (2 : Int32)) G7 a9 (0 : Int32)) ∧
      (v8 = (0 : Int32) → Post (400 : Int32) G7))) G3 x1) ∧
  (¬ (wo_gi G 453 x0) < (8 : Int32) → Post (431 : Int32) G))
def pq_Rd_judgeHeader (E : wo_E) (mc ms : Nat) (Post : Int32 → wo_W → Prop) (G : wo_W) (x0 : Nat) (x1 : Option Nat) : Prop := pq_Rd_judgeHeader_0 E mc ms Post G 0 0 x0 x1
set_option maxRecDepth 100000 in
set_option maxHeartbeats 4000000 in
theorem tq_Rd_judgeHeader_98 {p : Program} {l : Launch} {e : Env} {R : Room} {s₀ : State} {m : MethodId} {args : Array Value} {below : List Frame} {meth : Method} {cd : Code} {E : wo_E} {mc ms : Nat} {Post : Int32 → wo_W → Prop} (hC : wo_Cx E "EdgeCache$Reader" prog_5_method_7_code 4 6 141 ((Option.some Jvm.ClassFile.FieldType.int)) "judgeHeader" mc ms p R s₀ m args meth cd) : ∀ {G : wo_W} {c s : Nat} {y0 : Int32}, pq_Rd_judgeHeader_98 E mc ms Post G c s y0 → ∀ {H : Heap} {locs : List Loc} {ls : Array Slot}, wo_Se E G H → va_S (en_A E) s₀.heap H locs → lx_has ls 4 [] → c ≤ mc → s ≤ ms → W p l e R s₀ m args below meth cd H locs c s (MQ below (va_Qi Post (wo_B E) (en_A E)) args s₀ mc ms (en_A E)) (F0 m 98 ls [.int y0]) := by
  intro G c s y0 hw H locs ls hG hS hl hcc hss
  dsimp only [pq_Rd_judgeHeader_98] at hw
  have hx := hC.1
  have hb := hC.2.1
  exact wo_iret hC hG hS hcc hss hw dq_Rd_judgeHeader_98
set_option maxRecDepth 100000 in
set_option maxHeartbeats 4000000 in
theorem tq_Rd_judgeHeader_0 {p : Program} {l : Launch} {e : Env} {R : Room} {s₀ : State} {m : MethodId} {args : Array Value} {below : List Frame} {meth : Method} {cd : Code} {E : wo_E} {mc ms : Nat} {Post : Int32 → wo_W → Prop} (hC : wo_Cx E "EdgeCache$Reader" prog_5_method_7_code 4 6 141 ((Option.some Jvm.ClassFile.FieldType.int)) "judgeHeader" mc ms p R s₀ m args meth cd) : ∀ {G : wo_W} {c s : Nat} {x0 : Nat} {x1 : Option Nat}, pq_Rd_judgeHeader_0 E mc ms Post G c s x0 x1 → ∀ {H : Heap} {locs : List Loc} {ls : Array Slot}, wo_Se E G H → va_S (en_A E) s₀.heap H locs → lx_has ls 4 [(0, 1, .ref x0), (1, 1, va_rf x1)] → c ≤ mc → s ≤ ms → W p l e R s₀ m args below meth cd H locs c s (MQ below (va_Qi Post (wo_B E) (en_A E)) args s₀ mc ms (en_A E)) (F0 m 0 ls []) := by
  intro G c s x0 x1 hw H locs ls hG hS hl hcc hss
  dsimp only [pq_Rd_judgeHeader_0] at hw
  have hx := hC.1
  have hb := hC.2.1
  refine lv_aload_n hx hb dq_Rd_judgeHeader_0 rfl (lx_at hl 0 rfl) ?_
  obtain ⟨t1, hw⟩ := hw
  refine wo_getI hC fq_Rd_64 rfl hG t1 dq_Rd_judgeHeader_1 ?_
  refine lv_bipush (v := (8 : Int32)) hx hb dq_Rd_judgeHeader_4 rfl ?_
  refine lv_icmp_lt (tgt := 13) hx hb dq_Rd_judgeHeader_6 rfl (fun h => ?_) (fun h => ?_)
  · replace hw := hw.1 h
    refine lv_aload_n hx hb dq_Rd_judgeHeader_13 rfl (lx_at hl 0 rfl) ?_
    refine lv_dup hx hb dq_Rd_judgeHeader_14 rfl ?_
    refine wo_getI hC fq_Rd_64 rfl hG t1 dq_Rd_judgeHeader_15 ?_
    refine lv_iconst (v := (1 : Int32)) hx hb dq_Rd_judgeHeader_18 rfl ?_
    refine lv_iadd hx hb dq_Rd_judgeHeader_19 ?_
    obtain ⟨h2, hw⟩ := hw
    refine wo_putI hC fq_Rd_64 (Or.inl rfl) rfl (wo_ok_int _) hG hS t1 h2 dq_Rd_judgeHeader_20 (fun G3 H locs e4 hG hS => ?_)
    replace hw := hw G3 e4
    refine lx_aloadR_n hx hb dq_Rd_judgeHeader_23 rfl (lx_at hl 1 rfl) ?_
    obtain ⟨mc5, ms6, hc1, hs1, hw⟩ := hw
    refine va_calli (wo_runS hC lq_Rd_120 (mq_Rd_isHeader hw) hG hS rfl (lx_sz hl) rfl (Nat.zero_le _) (by decide) dq_Rd_judgeHeader_24 ⟨hc1, hs1⟩) hS (fun _ _ h => h) (fun _ h => h) (fun v8 G7 t H locs ht hvm hw' hB _ _ hS => ?_)
    clear hw
    have hw := hw'
    clear hw'
    replace hG := wo_bk ht hB
    replace hcc := hc1
    replace hss := hs1
    refine lv_if_ne (tgt := 34) hx hb dq_Rd_judgeHeader_27 rfl (fun h => ?_) (fun h => ?_)
    · replace hw := hw.1 h
      refine lx_aloadR_n hx hb dq_Rd_judgeHeader_34 rfl (lx_at hl 1 rfl) ?_
      refine lv_iconst (v := (0 : Int32)) hx hb dq_Rd_judgeHeader_35 rfl ?_
      obtain ⟨a9, rfl, hw⟩ := hw
      obtain ⟨t10, hw⟩ := hw
      obtain ⟨mc11, ms12, hc1, hs1, hw⟩ := hw
      refine va_calli (wo_runV hC lq_Rd_124 (mq_St_charAt hw) hG hS t10 rfl (lx_sz hl) rfl (Nat.zero_le _) (by decide) dq_Rd_judgeHeader_36 ⟨hc1, hs1⟩) hS (fun _ _ h => h) (fun _ h => h) (fun v14 G13 t H locs ht hvm hw' hB _ _ hS => ?_)
      clear hw
      have hw := hw'
      clear hw'
      replace hG := wo_bk ht hB
      replace hcc := hc1
      replace hss := hs1
      refine lx_istore_n (lv' := [(2, 1, .int v14), (0, 1, .ref x0), (1, 1, .ref a9)]) hx hb dq_Rd_judgeHeader_39 rfl hl (by decide) rfl (fun ls hl' => ?_)
      clear hl
      have hl := hl'
      clear hl'
      refine lv_aload_n hx hb dq_Rd_judgeHeader_40 rfl (lx_at hl 2 rfl) ?_
      refine lv_iconst (v := (2 : Int32)) hx hb dq_Rd_judgeHeader_41 rfl ?_
      obtain ⟨t15, hw⟩ := hw
      obtain ⟨mc16, ms17, hc1, hs1, hw⟩ := hw
      refine va_callq (wo_runV hC lq_Rd_105 (mq_St_substring_I hw) hG hS t15 rfl (lx_sz hl) rfl (Nat.zero_le _) (by decide) dq_Rd_judgeHeader_42 ⟨hc1, hs1⟩) hS (fun _ _ h => h) (fun _ h => h) (fun v19 G18 t H locs ht hvm hw' hB _ _ hS => ?_)
      clear hw
      have hw := hw'
      clear hw'
      replace hG := wo_bk ht hB
      replace hcc := hc1
      replace hss := hs1
      refine lx_astoreR_n (lv' := [(3, 1, va_rf v19), (2, 1, .int v14), (0, 1, .ref x0), (1, 1, .ref a9)]) hx hb dq_Rd_judgeHeader_45 rfl hl (by decide) rfl (fun ls hl' => ?_)
      clear hl
      have hl := hl'
      clear hl'
      refine lx_aloadR_n hx hb dq_Rd_judgeHeader_46 rfl (lx_at hl 0 rfl) ?_
      obtain ⟨a20, rfl, hw⟩ := hw
      obtain ⟨t21, hw⟩ := hw
      obtain ⟨mc22, ms23, hc1, hs1, hw⟩ := hw
      refine va_calli (wo_runV hC lq_Rd_119 (mq_St_length hw) hG hS t21 rfl (lx_sz hl) rfl (Nat.zero_le _) (by decide) dq_Rd_judgeHeader_47 ⟨hc1, hs1⟩) hS (fun _ _ h => h) (fun _ h => h) (fun v25 G24 t H locs ht hvm hw' hB _ _ hS => ?_)
      clear hw
      have hw := hw'
      clear hw'
      replace hG := wo_bk ht hB
      replace hcc := hc1
      replace hss := hs1
      refine lv_bipush (v := (8 : Int32)) hx hb dq_Rd_judgeHeader_50 rfl ?_
      refine lv_icmp_le (tgt := 59) hx hb dq_Rd_judgeHeader_52 rfl (fun h => ?_) (fun h => ?_)
      · replace hw := hw.1 h
        refine lv_iload_n hx hb dq_Rd_judgeHeader_59 rfl (lx_at hl 1 rfl) ?_
        refine lv_bipush (v := (76 : Int32)) hx hb dq_Rd_judgeHeader_60 rfl ?_
        refine lv_icmp_ne (tgt := 71) hx hb dq_Rd_judgeHeader_62 rfl (fun h => ?_) (fun h => ?_)
        · replace hw := hw.1 h
          refine lv_iload_n hx hb dq_Rd_judgeHeader_71 rfl (lx_at hl 1 rfl) ?_
          refine lv_bipush (v := (84 : Int32)) hx hb dq_Rd_judgeHeader_72 rfl ?_
          refine lv_icmp_ne (tgt := 99) hx hb dq_Rd_judgeHeader_74 rfl (fun h => ?_) (fun h => ?_)
          · replace hw := hw.1 h
            refine lv_aload_n hx hb dq_Rd_judgeHeader_99 rfl (lx_at hl 2 rfl) ?_
            obtain ⟨t26, hw⟩ := hw
            refine wo_getR hC fq_Rd_27 rfl hG t26 dq_Rd_judgeHeader_100 (fun r27 e28 => ?_)
            replace hw := hw r27 e28
            refine lv_iload_n hx hb dq_Rd_judgeHeader_103 rfl (lx_at hl 1 rfl) ?_
            refine lv_aload_n hx hb dq_Rd_judgeHeader_104 rfl (lx_at hl 0 rfl) ?_
            obtain ⟨a29, rfl, hw⟩ := hw
            obtain ⟨t30, hw⟩ := hw
            obtain ⟨mc31, ms32, hc1, hs1, hw⟩ := hw
            refine va_callv (wo_runV hC lq_Rd_137 (mq_Rq_set hw) hG hS t30 rfl (lx_sz hl) rfl (Nat.zero_le _) (by decide) dq_Rd_judgeHeader_105 ⟨hc1, hs1⟩) hS (fun _ _ h => h) (fun _ h => h) (fun G33 t H locs ht hvm hw' hB _ _ hS => ?_)
            clear hw
            have hw := hw'
            clear hw'
            replace hG := wo_bk ht hB
            replace hcc := hc1
            replace hss := hs1
            refine lv_iconst (v := (0 : Int32)) hx hb dq_Rd_judgeHeader_108 rfl ?_
            exact wo_iret hC hG hS hcc hss hw dq_Rd_judgeHeader_109
          · replace hw := hw.2 h
            refine lv_aload_n hx hb dq_Rd_judgeHeader_77 rfl (lx_at hl 2 rfl) ?_
            refine lv_iconst (v := (1 : Int32)) hx hb dq_Rd_judgeHeader_78 rfl ?_
            obtain ⟨t34, hw⟩ := hw
            obtain ⟨h35, hw⟩ := hw
            obtain ⟨h36, hw⟩ := hw
            refine wo_putI hC fq_Rd_67 (Or.inl rfl) rfl h36 hG hS t34 h35 dq_Rd_judgeHeader_79 (fun G37 H locs e38 hG hS => ?_)
            replace hw := hw G37 e38
            refine lv_aload_n hx hb dq_Rd_judgeHeader_82 rfl (lx_at hl 0 rfl) ?_
            refine wo_ldcS hC gq_Rd_131 dq_Rd_judgeHeader_83 ?_
            obtain ⟨t39, hw⟩ := hw
            obtain ⟨mc40, ms41, hc1, hs1, hw⟩ := hw
            refine va_calli (wo_runV hC lq_Rd_133 (mq_St_equals hw) hG hS t39 rfl (lx_sz hl) rfl (Nat.zero_le _) (by decide) dq_Rd_judgeHeader_85 ⟨hc1, hs1⟩) hS (fun _ _ h => h) (fun _ h => h) (fun v43 G42 t H locs ht hvm hw' hB _ _ hS => ?_)
            clear hw
            have hw := hw'
            clear hw'
            replace hG := wo_bk ht hB
            replace hcc := hc1
            replace hss := hs1
            refine lv_if_eq (tgt := 95) hx hb dq_Rd_judgeHeader_88 rfl (fun h => ?_) (fun h => ?_)
            · replace hw := hw.1 h
              refine lv_sipush (v := (400 : Int32)) hx hb dq_Rd_judgeHeader_95 rfl ?_
              exact tq_Rd_judgeHeader_98 hC hw hG hS (lx_sub hl [] rfl) hcc hss
            · replace hw := hw.2 h
              refine lv_iconst (v := (0 : Int32)) hx hb dq_Rd_judgeHeader_91 rfl ?_
              refine lv_goto (tgt := 98) hx hb dq_Rd_judgeHeader_92 rfl ?_
              exact tq_Rd_judgeHeader_98 hC hw hG hS (lx_sub hl [] rfl) hcc hss
        · replace hw := hw.2 h
          refine lv_aload_n hx hb dq_Rd_judgeHeader_65 rfl (lx_at hl 2 rfl) ?_
          refine lv_aload_n hx hb dq_Rd_judgeHeader_66 rfl (lx_at hl 0 rfl) ?_
          obtain ⟨t44, hw⟩ := hw
          obtain ⟨mc45, ms46, hc1, hs1, hw⟩ := hw
          refine va_calli (wo_runV hC lq_Rd_128 (mq_Rd_takeLength hw) hG hS t44 rfl (lx_sz hl) rfl (Nat.zero_le _) (by decide) dq_Rd_judgeHeader_67 ⟨hc1, hs1⟩) hS (fun _ _ h => h) (fun _ h => h) (fun v48 G47 t H locs ht hvm hw' hB _ _ hS => ?_)
          clear hw
          have hw := hw'
          clear hw'
          replace hG := wo_bk ht hB
          replace hcc := hc1
          replace hss := hs1
          exact wo_iret hC hG hS hcc hss hw dq_Rd_judgeHeader_70
      · replace hw := hw.2 h
        refine lv_sipush (v := (431 : Int32)) hx hb dq_Rd_judgeHeader_55 rfl ?_
        exact wo_iret hC hG hS hcc hss hw dq_Rd_judgeHeader_58
    · replace hw := hw.2 h
      refine lv_sipush (v := (400 : Int32)) hx hb dq_Rd_judgeHeader_30 rfl ?_
      exact wo_iret hC hG hS hcc hss hw dq_Rd_judgeHeader_33
  · replace hw := hw.2 h
    refine lv_sipush (v := (431 : Int32)) hx hb dq_Rd_judgeHeader_9 rfl ?_
    exact wo_iret hC hG hS hcc hss hw dq_Rd_judgeHeader_12
set_option maxHeartbeats 4000000 in
theorem mq_Rd_judgeHeader {l : Launch} {E : wo_E} {mc ms : Nat} {Post : Int32 → wo_W → Prop} {G : wo_W} {x0 : Nat} {x1 : Option Nat} (hw : pq_Rd_judgeHeader E mc ms Post G x0 x1) : Met l yq_Rd_judgeHeader (Cond.code yq_Rd_judgeHeader prog_5_method_7_code 4 ((Option.some Jvm.ClassFile.FieldType.int)) :: vw_WG) { frames := 6, cells := mc, slots := ms, locals := 141 } (va_Pc [.ref x0, va_rf x1] (wo_Ok E G)) (va_Qi Post (wo_B E) (en_A E)) mc ms (en_A E) := by
  unfold pq_Rd_judgeHeader at hw
  exact wo_met [(1, .ref x0), (1, va_rf x1)] rfl (by decide) (fun q hq => by simp only [List.mem_cons, List.not_mem_nil, or_false] at hq; rcases hq with rfl | rfl <;> first | rfl | exact lx_cR _) (Nat.le_of_ble_eq_true rfl) (fun p e R s m args below meth cd ls hC hG hS hl => tq_Rd_judgeHeader_0 hC hw hG hS (lx_sub hl [0, 1] rfl) (Nat.zero_le _) (Nat.zero_le _))

theorem dq_Rq_methodNamed_0 : decode prog_7_method_2_code 0 = .ok (.aload_n 0, 1) := by decide +kernel
theorem dq_Rq_methodNamed_1 : decode prog_7_method_2_code 1 = .ok (.ldc 24, 2) := by decide +kernel
theorem dq_Rq_methodNamed_3 : decode prog_7_method_2_code 3 = .ok (.invokevirtual 26, 3) := by decide +kernel
theorem dq_Rq_methodNamed_6 : decode prog_7_method_2_code 6 = .ok (.ifCond .eq 5, 3) := by decide +kernel
theorem dq_Rq_methodNamed_9 : decode prog_7_method_2_code 9 = .ok (.iconst 0, 1) := by decide +kernel
theorem dq_Rq_methodNamed_10 : decode prog_7_method_2_code 10 = .ok (.ireturn, 1) := by decide +kernel
theorem dq_Rq_methodNamed_11 : decode prog_7_method_2_code 11 = .ok (.aload_n 0, 1) := by decide +kernel
theorem dq_Rq_methodNamed_12 : decode prog_7_method_2_code 12 = .ok (.ldc 32, 2) := by decide +kernel
theorem dq_Rq_methodNamed_14 : decode prog_7_method_2_code 14 = .ok (.invokevirtual 26, 3) := by decide +kernel
theorem dq_Rq_methodNamed_17 : decode prog_7_method_2_code 17 = .ok (.ifCond .eq 5, 3) := by decide +kernel
theorem dq_Rq_methodNamed_20 : decode prog_7_method_2_code 20 = .ok (.iconst 1, 1) := by decide +kernel
theorem dq_Rq_methodNamed_21 : decode prog_7_method_2_code 21 = .ok (.ireturn, 1) := by decide +kernel
theorem dq_Rq_methodNamed_22 : decode prog_7_method_2_code 22 = .ok (.aload_n 0, 1) := by decide +kernel
theorem dq_Rq_methodNamed_23 : decode prog_7_method_2_code 23 = .ok (.ldc 34, 2) := by decide +kernel
theorem dq_Rq_methodNamed_25 : decode prog_7_method_2_code 25 = .ok (.invokevirtual 26, 3) := by decide +kernel
theorem dq_Rq_methodNamed_28 : decode prog_7_method_2_code 28 = .ok (.ifCond .eq 5, 3) := by decide +kernel
theorem dq_Rq_methodNamed_31 : decode prog_7_method_2_code 31 = .ok (.iconst 2, 1) := by decide +kernel
theorem dq_Rq_methodNamed_32 : decode prog_7_method_2_code 32 = .ok (.ireturn, 1) := by decide +kernel
theorem dq_Rq_methodNamed_33 : decode prog_7_method_2_code 33 = .ok (.aload_n 0, 1) := by decide +kernel
theorem dq_Rq_methodNamed_34 : decode prog_7_method_2_code 34 = .ok (.ldc 36, 2) := by decide +kernel
theorem dq_Rq_methodNamed_36 : decode prog_7_method_2_code 36 = .ok (.invokevirtual 26, 3) := by decide +kernel
theorem dq_Rq_methodNamed_39 : decode prog_7_method_2_code 39 = .ok (.ifCond .eq 7, 3) := by decide +kernel
theorem dq_Rq_methodNamed_42 : decode prog_7_method_2_code 42 = .ok (.iconst 3, 1) := by decide +kernel
theorem dq_Rq_methodNamed_43 : decode prog_7_method_2_code 43 = .ok (.goto 4, 3) := by decide +kernel
theorem dq_Rq_methodNamed_46 : decode prog_7_method_2_code 46 = .ok (.iconst (-1), 1) := by decide +kernel
theorem dq_Rq_methodNamed_47 : decode prog_7_method_2_code 47 = .ok (.ireturn, 1) := by decide +kernel
set_option maxRecDepth 100000 in
def pq_Rq_methodNamed_47 (E : wo_E) (mc ms : Nat) (Post : Int32 → wo_W → Prop) (G : wo_W) (c s : Nat) (y0 : Int32) : Prop := Post y0 G
set_option maxRecDepth 100000 in
def pq_Rq_methodNamed_0 (E : wo_E) (mc ms : Nat) (Post : Int32 → wo_W → Prop) (G : wo_W) (c s : Nat) (x0 : Option Nat) : Prop := ∃ a1 : Nat, x0 = some a1 ∧ wo_ty G a1 = 10 ∧ ∃ mc3 ms4 : Nat, (c + mc3) ≤ mc ∧ (s + ms4) ≤ ms ∧ pq_St_equals E mc3 ms4 (fun v6 G5 => 
  ((v6 = (0 : Int32) → wo_ty G5 a1 = 10 ∧ ∃ mc8 ms9 : Nat, ((c + mc3) + mc8) ≤ mc ∧ ((s + ms4) + ms9) ≤ ms ∧ pq_St_equals E mc8 ms9 (fun v11 G10 => 
      ((v11 = (0 : Int32) → wo_ty G10 a1 = 10 ∧ ∃ mc13 ms14 : Nat, (((c + mc3) + mc8) + mc13) ≤ mc ∧ (((s + ms4) + ms9) + ms14) ≤ ms ∧ pq_St_equals E mc13 ms14 (fun v16 G15 => 
          ((v16 = (0 : Int32) → wo_ty G15 a1 = 10 ∧ ∃ mc18 ms19 : Nat, ((((c + mc3) + mc8) + mc13) + mc18) ≤ mc ∧ ((((s + ms4) + ms9) + ms14) + ms19) ≤ ms ∧ pq_St_equals E mc18 ms19 (fun v21 G20 => 
              ((v21 = (0 : Int32) → pq_Rq_methodNamed_47 E mc ms Post G20 ((((c + mc3) + mc8) + mc13) + mc18) ((((s + ms4) + ms9) + ms14) + ms19) (-1 : Int32)) ∧
                (¬ v21 = (0 : Int32) → pq_Rq_methodNamed_47 E mc ms Post G20 ((((c + mc3) + mc8) + mc13) + mc18) ((((s + ms4) + ms9) + ms14) + ms19) (3 : Int32)))) G15 a1 (some (en_str E 6))) ∧
            (¬ v16 = (0 : Int32) → Post (2 : Int32) G15))) G10 a1 (some (en_str E 5))) ∧
        (¬ v11 = (0 : Int32) → Post (1 : Int32) G10))) G5 a1 (some (en_str E 4))) ∧
    (¬ v6 = (0 : Int32) → Post (0 : Int32) G5))) G a1 (some (en_str E 3))
def pq_Rq_methodNamed (E : wo_E) (mc ms : Nat) (Post : Int32 → wo_W → Prop) (G : wo_W) (x0 : Option Nat) : Prop := pq_Rq_methodNamed_0 E mc ms Post G 0 0 x0
set_option maxRecDepth 100000 in
set_option maxHeartbeats 4000000 in
theorem tq_Rq_methodNamed_47 {p : Program} {l : Launch} {e : Env} {R : Room} {s₀ : State} {m : MethodId} {args : Array Value} {below : List Frame} {meth : Method} {cd : Code} {E : wo_E} {mc ms : Nat} {Post : Int32 → wo_W → Prop} (hC : wo_Cx E "EdgeCache$Request" prog_7_method_2_code 1 2 44 ((Option.some Jvm.ClassFile.FieldType.int)) "methodNamed" mc ms p R s₀ m args meth cd) : ∀ {G : wo_W} {c s : Nat} {y0 : Int32}, pq_Rq_methodNamed_47 E mc ms Post G c s y0 → ∀ {H : Heap} {locs : List Loc} {ls : Array Slot}, wo_Se E G H → va_S (en_A E) s₀.heap H locs → lx_has ls 1 [] → c ≤ mc → s ≤ ms → W p l e R s₀ m args below meth cd H locs c s (MQ below (va_Qi Post (wo_B E) (en_A E)) args s₀ mc ms (en_A E)) (F0 m 47 ls [.int y0]) := by
  intro G c s y0 hw H locs ls hG hS hl hcc hss
  dsimp only [pq_Rq_methodNamed_47] at hw
  have hx := hC.1
  have hb := hC.2.1
  exact wo_iret hC hG hS hcc hss hw dq_Rq_methodNamed_47
set_option maxRecDepth 100000 in
set_option maxHeartbeats 4000000 in
theorem tq_Rq_methodNamed_0 {p : Program} {l : Launch} {e : Env} {R : Room} {s₀ : State} {m : MethodId} {args : Array Value} {below : List Frame} {meth : Method} {cd : Code} {E : wo_E} {mc ms : Nat} {Post : Int32 → wo_W → Prop} (hC : wo_Cx E "EdgeCache$Request" prog_7_method_2_code 1 2 44 ((Option.some Jvm.ClassFile.FieldType.int)) "methodNamed" mc ms p R s₀ m args meth cd) : ∀ {G : wo_W} {c s : Nat} {x0 : Option Nat}, pq_Rq_methodNamed_0 E mc ms Post G c s x0 → ∀ {H : Heap} {locs : List Loc} {ls : Array Slot}, wo_Se E G H → va_S (en_A E) s₀.heap H locs → lx_has ls 1 [(0, 1, va_rf x0)] → c ≤ mc → s ≤ ms → W p l e R s₀ m args below meth cd H locs c s (MQ below (va_Qi Post (wo_B E) (en_A E)) args s₀ mc ms (en_A E)) (F0 m 0 ls []) := by
  intro G c s x0 hw H locs ls hG hS hl hcc hss
  dsimp only [pq_Rq_methodNamed_0] at hw
  have hx := hC.1
  have hb := hC.2.1
  refine lx_aloadR_n hx hb dq_Rq_methodNamed_0 rfl (lx_at hl 0 rfl) ?_
  refine wo_ldcS hC gq_Rq_24 dq_Rq_methodNamed_1 ?_
  obtain ⟨a1, rfl, hw⟩ := hw
  obtain ⟨t2, hw⟩ := hw
  obtain ⟨mc3, ms4, hc1, hs1, hw⟩ := hw
  refine va_calli (wo_runV hC lq_Rq_26 (mq_St_equals hw) hG hS t2 rfl (lx_sz hl) rfl (Nat.zero_le _) (by decide) dq_Rq_methodNamed_3 ⟨hc1, hs1⟩) hS (fun _ _ h => h) (fun _ h => h) (fun v6 G5 t H locs ht hvm hw' hB _ _ hS => ?_)
  clear hw
  have hw := hw'
  clear hw'
  replace hG := wo_bk ht hB
  replace hcc := hc1
  replace hss := hs1
  refine lv_if_eq (tgt := 11) hx hb dq_Rq_methodNamed_6 rfl (fun h => ?_) (fun h => ?_)
  · replace hw := hw.1 h
    refine lv_aload_n hx hb dq_Rq_methodNamed_11 rfl (lx_at hl 0 rfl) ?_
    refine wo_ldcS hC gq_Rq_32 dq_Rq_methodNamed_12 ?_
    obtain ⟨t7, hw⟩ := hw
    obtain ⟨mc8, ms9, hc1, hs1, hw⟩ := hw
    refine va_calli (wo_runV hC lq_Rq_26 (mq_St_equals hw) hG hS t7 rfl (lx_sz hl) rfl (Nat.zero_le _) (by decide) dq_Rq_methodNamed_14 ⟨hc1, hs1⟩) hS (fun _ _ h => h) (fun _ h => h) (fun v11 G10 t H locs ht hvm hw' hB _ _ hS => ?_)
    clear hw
    have hw := hw'
    clear hw'
    replace hG := wo_bk ht hB
    replace hcc := hc1
    replace hss := hs1
    refine lv_if_eq (tgt := 22) hx hb dq_Rq_methodNamed_17 rfl (fun h => ?_) (fun h => ?_)
    · replace hw := hw.1 h
      refine lv_aload_n hx hb dq_Rq_methodNamed_22 rfl (lx_at hl 0 rfl) ?_
      refine wo_ldcS hC gq_Rq_34 dq_Rq_methodNamed_23 ?_
      obtain ⟨t12, hw⟩ := hw
      obtain ⟨mc13, ms14, hc1, hs1, hw⟩ := hw
      refine va_calli (wo_runV hC lq_Rq_26 (mq_St_equals hw) hG hS t12 rfl (lx_sz hl) rfl (Nat.zero_le _) (by decide) dq_Rq_methodNamed_25 ⟨hc1, hs1⟩) hS (fun _ _ h => h) (fun _ h => h) (fun v16 G15 t H locs ht hvm hw' hB _ _ hS => ?_)
      clear hw
      have hw := hw'
      clear hw'
      replace hG := wo_bk ht hB
      replace hcc := hc1
      replace hss := hs1
      refine lv_if_eq (tgt := 33) hx hb dq_Rq_methodNamed_28 rfl (fun h => ?_) (fun h => ?_)
      · replace hw := hw.1 h
        refine lv_aload_n hx hb dq_Rq_methodNamed_33 rfl (lx_at hl 0 rfl) ?_
        refine wo_ldcS hC gq_Rq_36 dq_Rq_methodNamed_34 ?_
        obtain ⟨t17, hw⟩ := hw
        obtain ⟨mc18, ms19, hc1, hs1, hw⟩ := hw
        refine va_calli (wo_runV hC lq_Rq_26 (mq_St_equals hw) hG hS t17 rfl (lx_sz hl) rfl (Nat.zero_le _) (by decide) dq_Rq_methodNamed_36 ⟨hc1, hs1⟩) hS (fun _ _ h => h) (fun _ h => h) (fun v21 G20 t H locs ht hvm hw' hB _ _ hS => ?_)
        clear hw
        have hw := hw'
        clear hw'
        replace hG := wo_bk ht hB
        replace hcc := hc1
        replace hss := hs1
        refine lv_if_eq (tgt := 46) hx hb dq_Rq_methodNamed_39 rfl (fun h => ?_) (fun h => ?_)
        · replace hw := hw.1 h
          refine lv_iconst (v := (-1 : Int32)) hx hb dq_Rq_methodNamed_46 rfl ?_
          exact tq_Rq_methodNamed_47 hC hw hG hS (lx_sub hl [] rfl) hcc hss
        · replace hw := hw.2 h
          refine lv_iconst (v := (3 : Int32)) hx hb dq_Rq_methodNamed_42 rfl ?_
          refine lv_goto (tgt := 47) hx hb dq_Rq_methodNamed_43 rfl ?_
          exact tq_Rq_methodNamed_47 hC hw hG hS (lx_sub hl [] rfl) hcc hss
      · replace hw := hw.2 h
        refine lv_iconst (v := (2 : Int32)) hx hb dq_Rq_methodNamed_31 rfl ?_
        exact wo_iret hC hG hS hcc hss hw dq_Rq_methodNamed_32
    · replace hw := hw.2 h
      refine lv_iconst (v := (1 : Int32)) hx hb dq_Rq_methodNamed_20 rfl ?_
      exact wo_iret hC hG hS hcc hss hw dq_Rq_methodNamed_21
  · replace hw := hw.2 h
    refine lv_iconst (v := (0 : Int32)) hx hb dq_Rq_methodNamed_9 rfl ?_
    exact wo_iret hC hG hS hcc hss hw dq_Rq_methodNamed_10
set_option maxHeartbeats 4000000 in
theorem mq_Rq_methodNamed {l : Launch} {E : wo_E} {mc ms : Nat} {Post : Int32 → wo_W → Prop} {G : wo_W} {x0 : Option Nat} (hw : pq_Rq_methodNamed E mc ms Post G x0) : Met l yq_Rq_methodNamed (Cond.code yq_Rq_methodNamed prog_7_method_2_code 1 ((Option.some Jvm.ClassFile.FieldType.int)) :: vw_WG) { frames := 2, cells := mc, slots := ms, locals := 44 } (va_Pc [va_rf x0] (wo_Ok E G)) (va_Qi Post (wo_B E) (en_A E)) mc ms (en_A E) := by
  unfold pq_Rq_methodNamed at hw
  exact wo_met [(1, va_rf x0)] rfl (by decide) (fun q hq => by simp only [List.mem_cons, List.not_mem_nil, or_false] at hq; rcases hq with rfl <;> first | rfl | exact lx_cR _) (Nat.le_of_ble_eq_true rfl) (fun p e R s m args below meth cd ls hC hG hS hl => tq_Rq_methodNamed_0 hC hw hG hS (lx_sub hl [0] rfl) (Nat.zero_le _) (Nat.zero_le _))

theorem dq_Tx_isPlain_0 : decode prog_12_method_13_code 0 = .ok (.iload_n 0, 1) := by decide +kernel
theorem dq_Tx_isPlain_1 : decode prog_12_method_13_code 1 = .ok (.invokestatic 25, 3) := by decide +kernel
theorem dq_Tx_isPlain_4 : decode prog_12_method_13_code 4 = .ok (.ifCond .ne 51, 3) := by decide +kernel
theorem dq_Tx_isPlain_7 : decode prog_12_method_13_code 7 = .ok (.iload_n 0, 1) := by decide +kernel
theorem dq_Tx_isPlain_8 : decode prog_12_method_13_code 8 = .ok (.bipush 65, 2) := by decide +kernel
theorem dq_Tx_isPlain_10 : decode prog_12_method_13_code 10 = .ok (.if_icmp .lt 9, 3) := by decide +kernel
theorem dq_Tx_isPlain_13 : decode prog_12_method_13_code 13 = .ok (.iload_n 0, 1) := by decide +kernel
theorem dq_Tx_isPlain_14 : decode prog_12_method_13_code 14 = .ok (.bipush 90, 2) := by decide +kernel
theorem dq_Tx_isPlain_16 : decode prog_12_method_13_code 16 = .ok (.if_icmp .le 39, 3) := by decide +kernel
theorem dq_Tx_isPlain_19 : decode prog_12_method_13_code 19 = .ok (.iload_n 0, 1) := by decide +kernel
theorem dq_Tx_isPlain_20 : decode prog_12_method_13_code 20 = .ok (.bipush 97, 2) := by decide +kernel
theorem dq_Tx_isPlain_22 : decode prog_12_method_13_code 22 = .ok (.if_icmp .lt 9, 3) := by decide +kernel
theorem dq_Tx_isPlain_25 : decode prog_12_method_13_code 25 = .ok (.iload_n 0, 1) := by decide +kernel
theorem dq_Tx_isPlain_26 : decode prog_12_method_13_code 26 = .ok (.bipush 122, 2) := by decide +kernel
theorem dq_Tx_isPlain_28 : decode prog_12_method_13_code 28 = .ok (.if_icmp .le 27, 3) := by decide +kernel
theorem dq_Tx_isPlain_31 : decode prog_12_method_13_code 31 = .ok (.iload_n 0, 1) := by decide +kernel
theorem dq_Tx_isPlain_32 : decode prog_12_method_13_code 32 = .ok (.bipush 45, 2) := by decide +kernel
theorem dq_Tx_isPlain_34 : decode prog_12_method_13_code 34 = .ok (.if_icmp .eq 21, 3) := by decide +kernel
theorem dq_Tx_isPlain_37 : decode prog_12_method_13_code 37 = .ok (.iload_n 0, 1) := by decide +kernel
theorem dq_Tx_isPlain_38 : decode prog_12_method_13_code 38 = .ok (.bipush 46, 2) := by decide +kernel
theorem dq_Tx_isPlain_40 : decode prog_12_method_13_code 40 = .ok (.if_icmp .eq 15, 3) := by decide +kernel
theorem dq_Tx_isPlain_43 : decode prog_12_method_13_code 43 = .ok (.iload_n 0, 1) := by decide +kernel
theorem dq_Tx_isPlain_44 : decode prog_12_method_13_code 44 = .ok (.bipush 95, 2) := by decide +kernel
theorem dq_Tx_isPlain_46 : decode prog_12_method_13_code 46 = .ok (.if_icmp .eq 9, 3) := by decide +kernel
theorem dq_Tx_isPlain_49 : decode prog_12_method_13_code 49 = .ok (.iload_n 0, 1) := by decide +kernel
theorem dq_Tx_isPlain_50 : decode prog_12_method_13_code 50 = .ok (.bipush 126, 2) := by decide +kernel
theorem dq_Tx_isPlain_52 : decode prog_12_method_13_code 52 = .ok (.if_icmp .ne 7, 3) := by decide +kernel
theorem dq_Tx_isPlain_55 : decode prog_12_method_13_code 55 = .ok (.iconst 1, 1) := by decide +kernel
theorem dq_Tx_isPlain_56 : decode prog_12_method_13_code 56 = .ok (.goto 4, 3) := by decide +kernel
theorem dq_Tx_isPlain_59 : decode prog_12_method_13_code 59 = .ok (.iconst 0, 1) := by decide +kernel
theorem dq_Tx_isPlain_60 : decode prog_12_method_13_code 60 = .ok (.ireturn, 1) := by decide +kernel
set_option maxRecDepth 100000 in
def pq_Tx_isPlain_60 (E : wo_E) (mc ms : Nat) (Post : Int32 → wo_W → Prop) (G : wo_W) (c s : Nat) (y0 : Int32) : Prop := wo_okI .boolean y0 ∧ Post y0 G
set_option maxRecDepth 100000 in
def pq_Tx_isPlain_55 (E : wo_E) (mc ms : Nat) (Post : Int32 → wo_W → Prop) (G : wo_W) (c s : Nat) : Prop := pq_Tx_isPlain_60 E mc ms Post G c s (1 : Int32)
set_option maxRecDepth 100000 in
def pq_Tx_isPlain_31 (E : wo_E) (mc ms : Nat) (Post : Int32 → wo_W → Prop) (G : wo_W) (c s : Nat) (x0 : Int32) : Prop := ((x0 = (45 : Int32) → pq_Tx_isPlain_55 E mc ms Post G c s) ∧
  (¬ x0 = (45 : Int32) → ((x0 = (46 : Int32) → pq_Tx_isPlain_55 E mc ms Post G c s) ∧
    (¬ x0 = (46 : Int32) → ((x0 = (95 : Int32) → pq_Tx_isPlain_55 E mc ms Post G c s) ∧
      (¬ x0 = (95 : Int32) → ((¬ x0 = (126 : Int32) → pq_Tx_isPlain_60 E mc ms Post G c s (0 : Int32)) ∧
        (x0 = (126 : Int32) → pq_Tx_isPlain_55 E mc ms Post G c s))))))))
set_option maxRecDepth 100000 in
def pq_Tx_isPlain_19 (E : wo_E) (mc ms : Nat) (Post : Int32 → wo_W → Prop) (G : wo_W) (c s : Nat) (x0 : Int32) : Prop := ((x0 < (97 : Int32) → pq_Tx_isPlain_31 E mc ms Post G c s x0) ∧
  (¬ x0 < (97 : Int32) → ((x0 ≤ (122 : Int32) → pq_Tx_isPlain_55 E mc ms Post G c s) ∧
    (¬ x0 ≤ (122 : Int32) → pq_Tx_isPlain_31 E mc ms Post G c s x0))))
set_option maxRecDepth 100000 in
def pq_Tx_isPlain_0 (E : wo_E) (mc ms : Nat) (Post : Int32 → wo_W → Prop) (G : wo_W) (c s : Nat) (x0 : Int32) : Prop := ∃ mc1 ms2 : Nat, (c + mc1) ≤ mc ∧ (s + ms2) ≤ ms ∧ pq_Tx_isDigit E mc1 ms2 (fun v4 G3 => 
  ((¬ v4 = (0 : Int32) → pq_Tx_isPlain_55 E mc ms Post G3 (c + mc1) (s + ms2)) ∧
    (v4 = (0 : Int32) → ((x0 < (65 : Int32) → pq_Tx_isPlain_19 E mc ms Post G3 (c + mc1) (s + ms2) x0) ∧
      (¬ x0 < (65 : Int32) → ((x0 ≤ (90 : Int32) → pq_Tx_isPlain_55 E mc ms Post G3 (c + mc1) (s + ms2)) ∧
        (¬ x0 ≤ (90 : Int32) → pq_Tx_isPlain_19 E mc ms Post G3 (c + mc1) (s + ms2) x0))))))) G x0
def pq_Tx_isPlain (E : wo_E) (mc ms : Nat) (Post : Int32 → wo_W → Prop) (G : wo_W) (x0 : Int32) : Prop := pq_Tx_isPlain_0 E mc ms Post G 0 0 x0
set_option maxRecDepth 100000 in
set_option maxHeartbeats 4000000 in
theorem tq_Tx_isPlain_60 {p : Program} {l : Launch} {e : Env} {R : Room} {s₀ : State} {m : MethodId} {args : Array Value} {below : List Frame} {meth : Method} {cd : Code} {E : wo_E} {mc ms : Nat} {Post : Int32 → wo_W → Prop} (hC : wo_Cx E "EdgeCache$Text" prog_12_method_13_code 1 1 20 ((Option.some Jvm.ClassFile.FieldType.boolean)) "isPlain" mc ms p R s₀ m args meth cd) : ∀ {G : wo_W} {c s : Nat} {y0 : Int32}, pq_Tx_isPlain_60 E mc ms Post G c s y0 → ∀ {H : Heap} {locs : List Loc} {ls : Array Slot}, wo_Se E G H → va_S (en_A E) s₀.heap H locs → lx_has ls 1 [] → c ≤ mc → s ≤ ms → W p l e R s₀ m args below meth cd H locs c s (MQ below (va_Qi Post (wo_B E) (en_A E)) args s₀ mc ms (en_A E)) (F0 m 60 ls [.int y0]) := by
  intro G c s y0 hw H locs ls hG hS hl hcc hss
  dsimp only [pq_Tx_isPlain_60] at hw
  have hx := hC.1
  have hb := hC.2.1
  obtain ⟨h1, hw⟩ := hw
  exact wo_zret hC h1.1 hG hS hcc hss hw dq_Tx_isPlain_60
set_option maxRecDepth 100000 in
set_option maxHeartbeats 4000000 in
theorem tq_Tx_isPlain_55 {p : Program} {l : Launch} {e : Env} {R : Room} {s₀ : State} {m : MethodId} {args : Array Value} {below : List Frame} {meth : Method} {cd : Code} {E : wo_E} {mc ms : Nat} {Post : Int32 → wo_W → Prop} (hC : wo_Cx E "EdgeCache$Text" prog_12_method_13_code 1 1 20 ((Option.some Jvm.ClassFile.FieldType.boolean)) "isPlain" mc ms p R s₀ m args meth cd) : ∀ {G : wo_W} {c s : Nat}, pq_Tx_isPlain_55 E mc ms Post G c s → ∀ {H : Heap} {locs : List Loc} {ls : Array Slot}, wo_Se E G H → va_S (en_A E) s₀.heap H locs → lx_has ls 1 [] → c ≤ mc → s ≤ ms → W p l e R s₀ m args below meth cd H locs c s (MQ below (va_Qi Post (wo_B E) (en_A E)) args s₀ mc ms (en_A E)) (F0 m 55 ls []) := by
  intro G c s hw H locs ls hG hS hl hcc hss
  dsimp only [pq_Tx_isPlain_55] at hw
  have hx := hC.1
  have hb := hC.2.1
  refine lv_iconst (v := (1 : Int32)) hx hb dq_Tx_isPlain_55 rfl ?_
  refine lv_goto (tgt := 60) hx hb dq_Tx_isPlain_56 rfl ?_
  exact tq_Tx_isPlain_60 hC hw hG hS (lx_sub hl [] rfl) hcc hss
set_option maxRecDepth 100000 in
set_option maxHeartbeats 4000000 in
theorem tq_Tx_isPlain_31 {p : Program} {l : Launch} {e : Env} {R : Room} {s₀ : State} {m : MethodId} {args : Array Value} {below : List Frame} {meth : Method} {cd : Code} {E : wo_E} {mc ms : Nat} {Post : Int32 → wo_W → Prop} (hC : wo_Cx E "EdgeCache$Text" prog_12_method_13_code 1 1 20 ((Option.some Jvm.ClassFile.FieldType.boolean)) "isPlain" mc ms p R s₀ m args meth cd) : ∀ {G : wo_W} {c s : Nat} {x0 : Int32}, pq_Tx_isPlain_31 E mc ms Post G c s x0 → ∀ {H : Heap} {locs : List Loc} {ls : Array Slot}, wo_Se E G H → va_S (en_A E) s₀.heap H locs → lx_has ls 1 [(0, 1, .int x0)] → c ≤ mc → s ≤ ms → W p l e R s₀ m args below meth cd H locs c s (MQ below (va_Qi Post (wo_B E) (en_A E)) args s₀ mc ms (en_A E)) (F0 m 31 ls []) := by
  intro G c s x0 hw H locs ls hG hS hl hcc hss
  dsimp only [pq_Tx_isPlain_31] at hw
  have hx := hC.1
  have hb := hC.2.1
  refine lv_iload_n hx hb dq_Tx_isPlain_31 rfl (lx_at hl 0 rfl) ?_
  refine lv_bipush (v := (45 : Int32)) hx hb dq_Tx_isPlain_32 rfl ?_
  refine lv_icmp_eq (tgt := 55) hx hb dq_Tx_isPlain_34 rfl (fun h => ?_) (fun h => ?_)
  · replace hw := hw.1 h
    exact tq_Tx_isPlain_55 hC hw hG hS (lx_sub hl [] rfl) hcc hss
  · replace hw := hw.2 h
    refine lv_iload_n hx hb dq_Tx_isPlain_37 rfl (lx_at hl 0 rfl) ?_
    refine lv_bipush (v := (46 : Int32)) hx hb dq_Tx_isPlain_38 rfl ?_
    refine lv_icmp_eq (tgt := 55) hx hb dq_Tx_isPlain_40 rfl (fun h => ?_) (fun h => ?_)
    · replace hw := hw.1 h
      exact tq_Tx_isPlain_55 hC hw hG hS (lx_sub hl [] rfl) hcc hss
    · replace hw := hw.2 h
      refine lv_iload_n hx hb dq_Tx_isPlain_43 rfl (lx_at hl 0 rfl) ?_
      refine lv_bipush (v := (95 : Int32)) hx hb dq_Tx_isPlain_44 rfl ?_
      refine lv_icmp_eq (tgt := 55) hx hb dq_Tx_isPlain_46 rfl (fun h => ?_) (fun h => ?_)
      · replace hw := hw.1 h
        exact tq_Tx_isPlain_55 hC hw hG hS (lx_sub hl [] rfl) hcc hss
      · replace hw := hw.2 h
        refine lv_iload_n hx hb dq_Tx_isPlain_49 rfl (lx_at hl 0 rfl) ?_
        refine lv_bipush (v := (126 : Int32)) hx hb dq_Tx_isPlain_50 rfl ?_
        refine lv_icmp_ne (tgt := 59) hx hb dq_Tx_isPlain_52 rfl (fun h => ?_) (fun h => ?_)
        · replace hw := hw.1 h
          refine lv_iconst (v := (0 : Int32)) hx hb dq_Tx_isPlain_59 rfl ?_
          exact tq_Tx_isPlain_60 hC hw hG hS (lx_sub hl [] rfl) hcc hss
        · replace hw := hw.2 h
          exact tq_Tx_isPlain_55 hC hw hG hS (lx_sub hl [] rfl) hcc hss
set_option maxRecDepth 100000 in
set_option maxHeartbeats 4000000 in
theorem tq_Tx_isPlain_19 {p : Program} {l : Launch} {e : Env} {R : Room} {s₀ : State} {m : MethodId} {args : Array Value} {below : List Frame} {meth : Method} {cd : Code} {E : wo_E} {mc ms : Nat} {Post : Int32 → wo_W → Prop} (hC : wo_Cx E "EdgeCache$Text" prog_12_method_13_code 1 1 20 ((Option.some Jvm.ClassFile.FieldType.boolean)) "isPlain" mc ms p R s₀ m args meth cd) : ∀ {G : wo_W} {c s : Nat} {x0 : Int32}, pq_Tx_isPlain_19 E mc ms Post G c s x0 → ∀ {H : Heap} {locs : List Loc} {ls : Array Slot}, wo_Se E G H → va_S (en_A E) s₀.heap H locs → lx_has ls 1 [(0, 1, .int x0)] → c ≤ mc → s ≤ ms → W p l e R s₀ m args below meth cd H locs c s (MQ below (va_Qi Post (wo_B E) (en_A E)) args s₀ mc ms (en_A E)) (F0 m 19 ls []) := by
  intro G c s x0 hw H locs ls hG hS hl hcc hss
  dsimp only [pq_Tx_isPlain_19] at hw
  have hx := hC.1
  have hb := hC.2.1
  refine lv_iload_n hx hb dq_Tx_isPlain_19 rfl (lx_at hl 0 rfl) ?_
  refine lv_bipush (v := (97 : Int32)) hx hb dq_Tx_isPlain_20 rfl ?_
  refine lv_icmp_lt (tgt := 31) hx hb dq_Tx_isPlain_22 rfl (fun h => ?_) (fun h => ?_)
  · replace hw := hw.1 h
    exact tq_Tx_isPlain_31 hC hw hG hS (lx_sub hl [0] rfl) hcc hss
  · replace hw := hw.2 h
    refine lv_iload_n hx hb dq_Tx_isPlain_25 rfl (lx_at hl 0 rfl) ?_
    refine lv_bipush (v := (122 : Int32)) hx hb dq_Tx_isPlain_26 rfl ?_
    refine lv_icmp_le (tgt := 55) hx hb dq_Tx_isPlain_28 rfl (fun h => ?_) (fun h => ?_)
    · replace hw := hw.1 h
      exact tq_Tx_isPlain_55 hC hw hG hS (lx_sub hl [] rfl) hcc hss
    · replace hw := hw.2 h
      exact tq_Tx_isPlain_31 hC hw hG hS (lx_sub hl [0] rfl) hcc hss
set_option maxRecDepth 100000 in
set_option maxHeartbeats 4000000 in
theorem tq_Tx_isPlain_0 {p : Program} {l : Launch} {e : Env} {R : Room} {s₀ : State} {m : MethodId} {args : Array Value} {below : List Frame} {meth : Method} {cd : Code} {E : wo_E} {mc ms : Nat} {Post : Int32 → wo_W → Prop} (hC : wo_Cx E "EdgeCache$Text" prog_12_method_13_code 1 1 20 ((Option.some Jvm.ClassFile.FieldType.boolean)) "isPlain" mc ms p R s₀ m args meth cd) : ∀ {G : wo_W} {c s : Nat} {x0 : Int32}, pq_Tx_isPlain_0 E mc ms Post G c s x0 → ∀ {H : Heap} {locs : List Loc} {ls : Array Slot}, wo_Se E G H → va_S (en_A E) s₀.heap H locs → lx_has ls 1 [(0, 1, .int x0)] → c ≤ mc → s ≤ ms → W p l e R s₀ m args below meth cd H locs c s (MQ below (va_Qi Post (wo_B E) (en_A E)) args s₀ mc ms (en_A E)) (F0 m 0 ls []) := by
  intro G c s x0 hw H locs ls hG hS hl hcc hss
  dsimp only [pq_Tx_isPlain_0] at hw
  have hx := hC.1
  have hb := hC.2.1
  refine lv_iload_n hx hb dq_Tx_isPlain_0 rfl (lx_at hl 0 rfl) ?_
  obtain ⟨mc1, ms2, hc1, hs1, hw⟩ := hw
  refine va_calli (wo_runS hC lq_Tx_25 (mq_Tx_isDigit hw) hG hS rfl (lx_sz hl) rfl (Nat.zero_le _) (by decide) dq_Tx_isPlain_1 ⟨hc1, hs1⟩) hS (fun _ _ h => h) (fun _ h => h) (fun v4 G3 t H locs ht hvm hw' hB _ _ hS => ?_)
  clear hw
  have hw := hw'
  clear hw'
  replace hG := wo_bk ht hB
  replace hcc := hc1
  replace hss := hs1
  refine lv_if_ne (tgt := 55) hx hb dq_Tx_isPlain_4 rfl (fun h => ?_) (fun h => ?_)
  · replace hw := hw.1 h
    exact tq_Tx_isPlain_55 hC hw hG hS (lx_sub hl [] rfl) hcc hss
  · replace hw := hw.2 h
    refine lv_iload_n hx hb dq_Tx_isPlain_7 rfl (lx_at hl 0 rfl) ?_
    refine lv_bipush (v := (65 : Int32)) hx hb dq_Tx_isPlain_8 rfl ?_
    refine lv_icmp_lt (tgt := 19) hx hb dq_Tx_isPlain_10 rfl (fun h => ?_) (fun h => ?_)
    · replace hw := hw.1 h
      exact tq_Tx_isPlain_19 hC hw hG hS (lx_sub hl [0] rfl) hcc hss
    · replace hw := hw.2 h
      refine lv_iload_n hx hb dq_Tx_isPlain_13 rfl (lx_at hl 0 rfl) ?_
      refine lv_bipush (v := (90 : Int32)) hx hb dq_Tx_isPlain_14 rfl ?_
      refine lv_icmp_le (tgt := 55) hx hb dq_Tx_isPlain_16 rfl (fun h => ?_) (fun h => ?_)
      · replace hw := hw.1 h
        exact tq_Tx_isPlain_55 hC hw hG hS (lx_sub hl [] rfl) hcc hss
      · replace hw := hw.2 h
        exact tq_Tx_isPlain_19 hC hw hG hS (lx_sub hl [0] rfl) hcc hss
set_option maxHeartbeats 4000000 in
theorem mq_Tx_isPlain {l : Launch} {E : wo_E} {mc ms : Nat} {Post : Int32 → wo_W → Prop} {G : wo_W} {x0 : Int32} (hw : pq_Tx_isPlain E mc ms Post G x0) : Met l yq_Tx_isPlain (Cond.code yq_Tx_isPlain prog_12_method_13_code 1 ((Option.some Jvm.ClassFile.FieldType.boolean)) :: vw_WG) { frames := 1, cells := mc, slots := ms, locals := 20 } (va_Pc [.int x0] (wo_Ok E G)) (va_Qi Post (wo_B E) (en_A E)) mc ms (en_A E) := by
  unfold pq_Tx_isPlain at hw
  exact wo_met [(1, .int x0)] rfl (by decide) (fun q hq => by simp only [List.mem_cons, List.not_mem_nil, or_false] at hq; rcases hq with rfl <;> first | rfl | exact lx_cR _) (Nat.le_of_ble_eq_true rfl) (fun p e R s m args below meth cd ls hC hG hS hl => tq_Tx_isPlain_0 hC hw hG hS (lx_sub hl [0] rfl) (Nat.zero_le _) (Nat.zero_le _))

theorem dq_Tx_appendPair_0 : decode prog_12_method_8_code 0 = .ok (.iload_n 1, 1) := by decide +kernel
theorem dq_Tx_appendPair_1 : decode prog_12_method_8_code 1 = .ok (.bipush 16, 2) := by decide +kernel
theorem dq_Tx_appendPair_3 : decode prog_12_method_8_code 3 = .ok (.imul, 1) := by decide +kernel
theorem dq_Tx_appendPair_4 : decode prog_12_method_8_code 4 = .ok (.iload_n 2, 1) := by decide +kernel
theorem dq_Tx_appendPair_5 : decode prog_12_method_8_code 5 = .ok (.iadd, 1) := by decide +kernel
theorem dq_Tx_appendPair_6 : decode prog_12_method_8_code 6 = .ok (.i2c, 1) := by decide +kernel
theorem dq_Tx_appendPair_7 : decode prog_12_method_8_code 7 = .ok (.istore_n 3, 1) := by decide +kernel
theorem dq_Tx_appendPair_8 : decode prog_12_method_8_code 8 = .ok (.iload_n 3, 1) := by decide +kernel
theorem dq_Tx_appendPair_9 : decode prog_12_method_8_code 9 = .ok (.invokestatic 71, 3) := by decide +kernel
theorem dq_Tx_appendPair_12 : decode prog_12_method_8_code 12 = .ok (.ifCond .eq 10, 3) := by decide +kernel
theorem dq_Tx_appendPair_15 : decode prog_12_method_8_code 15 = .ok (.aload_n 0, 1) := by decide +kernel
theorem dq_Tx_appendPair_16 : decode prog_12_method_8_code 16 = .ok (.iload_n 3, 1) := by decide +kernel
theorem dq_Tx_appendPair_17 : decode prog_12_method_8_code 17 = .ok (.invokevirtual 55, 3) := by decide +kernel
theorem dq_Tx_appendPair_20 : decode prog_12_method_8_code 20 = .ok (.pop, 1) := by decide +kernel
theorem dq_Tx_appendPair_21 : decode prog_12_method_8_code 21 = .ok (.return_, 1) := by decide +kernel
theorem dq_Tx_appendPair_22 : decode prog_12_method_8_code 22 = .ok (.aload_n 0, 1) := by decide +kernel
theorem dq_Tx_appendPair_23 : decode prog_12_method_8_code 23 = .ok (.bipush 37, 2) := by decide +kernel
theorem dq_Tx_appendPair_25 : decode prog_12_method_8_code 25 = .ok (.invokevirtual 55, 3) := by decide +kernel
theorem dq_Tx_appendPair_28 : decode prog_12_method_8_code 28 = .ok (.pop, 1) := by decide +kernel
theorem dq_Tx_appendPair_29 : decode prog_12_method_8_code 29 = .ok (.aload_n 0, 1) := by decide +kernel
theorem dq_Tx_appendPair_30 : decode prog_12_method_8_code 30 = .ok (.ldc 74, 2) := by decide +kernel
theorem dq_Tx_appendPair_32 : decode prog_12_method_8_code 32 = .ok (.iload_n 1, 1) := by decide +kernel
theorem dq_Tx_appendPair_33 : decode prog_12_method_8_code 33 = .ok (.invokevirtual 21, 3) := by decide +kernel
theorem dq_Tx_appendPair_36 : decode prog_12_method_8_code 36 = .ok (.invokevirtual 55, 3) := by decide +kernel
theorem dq_Tx_appendPair_39 : decode prog_12_method_8_code 39 = .ok (.pop, 1) := by decide +kernel
theorem dq_Tx_appendPair_40 : decode prog_12_method_8_code 40 = .ok (.aload_n 0, 1) := by decide +kernel
theorem dq_Tx_appendPair_41 : decode prog_12_method_8_code 41 = .ok (.ldc 74, 2) := by decide +kernel
theorem dq_Tx_appendPair_43 : decode prog_12_method_8_code 43 = .ok (.iload_n 2, 1) := by decide +kernel
theorem dq_Tx_appendPair_44 : decode prog_12_method_8_code 44 = .ok (.invokevirtual 21, 3) := by decide +kernel
theorem dq_Tx_appendPair_47 : decode prog_12_method_8_code 47 = .ok (.invokevirtual 55, 3) := by decide +kernel
theorem dq_Tx_appendPair_50 : decode prog_12_method_8_code 50 = .ok (.pop, 1) := by decide +kernel
theorem dq_Tx_appendPair_51 : decode prog_12_method_8_code 51 = .ok (.return_, 1) := by decide +kernel
set_option maxRecDepth 100000 in
def pq_Tx_appendPair_0 (E : wo_E) (mc ms : Nat) (Post : wo_W → Prop) (G : wo_W) (c s : Nat) (x0 : Option Nat) (x1 : Int32) (x2 : Int32) : Prop := ∃ mc1 ms2 : Nat, (c + mc1) ≤ mc ∧ (s + ms2) ≤ ms ∧ pq_Tx_isPlain E mc1 ms2 (fun v4 G3 => 
  ((v4 = (0 : Int32) → ∃ a5 : Nat, x0 = some a5 ∧ wo_ty G3 a5 = 5 ∧ ∃ mc7 ms8 : Nat, ((c + mc1) + mc7) ≤ mc ∧ ((s + ms2) + ms8) ≤ ms ∧ pq_SB_append_C E mc7 ms8 (fun v10 G9 => 
      wo_ty G9 (en_str E 7) = 10 ∧ ∃ mc12 ms13 : Nat, (((c + mc1) + mc7) + mc12) ≤ mc ∧ (((s + ms2) + ms8) + ms13) ≤ ms ∧ pq_St_charAt E mc12 ms13 (fun v15 G14 => 
        wo_ty G14 a5 = 5 ∧ ∃ mc17 ms18 : Nat, ((((c + mc1) + mc7) + mc12) + mc17) ≤ mc ∧ ((((s + ms2) + ms8) + ms13) + ms18) ≤ ms ∧ pq_SB_append_C E mc17 ms18 (fun v20 G19 => 
          wo_ty G19 (en_str E 7) = 10 ∧ ∃ mc22 ms23 : Nat, (((((c + mc1) + mc7) + mc12) + mc17) + mc22) ≤ mc ∧ (((((s + ms2) + ms8) + ms13) + ms18) + ms23) ≤ ms ∧ pq_St_charAt E mc22 ms23 (fun v25 G24 => 
            wo_ty G24 a5 = 5 ∧ ∃ mc27 ms28 : Nat, ((((((c + mc1) + mc7) + mc12) + mc17) + mc22) + mc27) ≤ mc ∧ ((((((s + ms2) + ms8) + ms13) + ms18) + ms23) + ms28) ≤ ms ∧ pq_SB_append_C E mc27 ms28 (fun v30 G29 => 
              Post G29) G24 a5 v25) G19 (en_str E 7) x2) G14 a5 v15) G9 (en_str E 7) x1) G3 a5 (37 : Int32)) ∧
    (¬ v4 = (0 : Int32) → ∃ a31 : Nat, x0 = some a31 ∧ wo_ty G3 a31 = 5 ∧ ∃ mc33 ms34 : Nat, ((c + mc1) + mc33) ≤ mc ∧ ((s + ms2) + ms34) ≤ ms ∧ pq_SB_append_C E mc33 ms34 (fun v36 G35 => 
      Post G35) G3 a31 (wo_i2c ((x1 * (16 : Int32)) + x2))))) G (wo_i2c ((x1 * (16 : Int32)) + x2))
def pq_Tx_appendPair (E : wo_E) (mc ms : Nat) (Post : wo_W → Prop) (G : wo_W) (x0 : Option Nat) (x1 : Int32) (x2 : Int32) : Prop := pq_Tx_appendPair_0 E mc ms Post G 0 0 x0 x1 x2
set_option maxRecDepth 100000 in
set_option maxHeartbeats 4000000 in
theorem tq_Tx_appendPair_0 {p : Program} {l : Launch} {e : Env} {R : Room} {s₀ : State} {m : MethodId} {args : Array Value} {below : List Frame} {meth : Method} {cd : Code} {E : wo_E} {mc ms : Nat} {Post : wo_W → Prop} (hC : wo_Cx E "EdgeCache$Text" prog_12_method_8_code 4 6 140 ((Option.none : Option Jvm.ClassFile.FieldType)) "appendPair" mc ms p R s₀ m args meth cd) : ∀ {G : wo_W} {c s : Nat} {x0 : Option Nat} {x1 : Int32} {x2 : Int32}, pq_Tx_appendPair_0 E mc ms Post G c s x0 x1 x2 → ∀ {H : Heap} {locs : List Loc} {ls : Array Slot}, wo_Se E G H → va_S (en_A E) s₀.heap H locs → lx_has ls 4 [(0, 1, va_rf x0), (1, 1, .int x1), (2, 1, .int x2)] → c ≤ mc → s ≤ ms → W p l e R s₀ m args below meth cd H locs c s (MQ below (va_Qv Post (wo_B E) (en_A E)) args s₀ mc ms (en_A E)) (F0 m 0 ls []) := by
  intro G c s x0 x1 x2 hw H locs ls hG hS hl hcc hss
  dsimp only [pq_Tx_appendPair_0] at hw
  have hx := hC.1
  have hb := hC.2.1
  refine lv_iload_n hx hb dq_Tx_appendPair_0 rfl (lx_at hl 1 rfl) ?_
  refine lv_bipush (v := (16 : Int32)) hx hb dq_Tx_appendPair_1 rfl ?_
  refine lv_imul hx hb dq_Tx_appendPair_3 ?_
  refine lv_iload_n hx hb dq_Tx_appendPair_4 rfl (lx_at hl 2 rfl) ?_
  refine lv_iadd hx hb dq_Tx_appendPair_5 ?_
  refine lv_i2c (v := (wo_i2c ((x1 * (16 : Int32)) + x2))) hx hb dq_Tx_appendPair_6 rfl ?_
  refine lx_istore_n (lv' := [(3, 1, .int (wo_i2c ((x1 * (16 : Int32)) + x2))), (0, 1, va_rf x0), (1, 1, .int x1), (2, 1, .int x2)]) hx hb dq_Tx_appendPair_7 rfl hl (by decide) rfl (fun ls hl' => ?_)
  clear hl
  have hl := hl'
  clear hl'
  refine lv_iload_n hx hb dq_Tx_appendPair_8 rfl (lx_at hl 0 rfl) ?_
  obtain ⟨mc1, ms2, hc1, hs1, hw⟩ := hw
  refine va_calli (wo_runS hC lq_Tx_71 (mq_Tx_isPlain hw) hG hS rfl (lx_sz hl) rfl (Nat.zero_le _) (by decide) dq_Tx_appendPair_9 ⟨hc1, hs1⟩) hS (fun _ _ h => h) (fun _ h => h) (fun v4 G3 t H locs ht hvm hw' hB _ _ hS => ?_)
  clear hw
  have hw := hw'
  clear hw'
  replace hG := wo_bk ht hB
  replace hcc := hc1
  replace hss := hs1
  refine lv_if_eq (tgt := 22) hx hb dq_Tx_appendPair_12 rfl (fun h => ?_) (fun h => ?_)
  · replace hw := hw.1 h
    refine lx_aloadR_n hx hb dq_Tx_appendPair_22 rfl (lx_at hl 1 rfl) ?_
    refine lv_bipush (v := (37 : Int32)) hx hb dq_Tx_appendPair_23 rfl ?_
    obtain ⟨a5, rfl, hw⟩ := hw
    obtain ⟨t6, hw⟩ := hw
    obtain ⟨mc7, ms8, hc1, hs1, hw⟩ := hw
    refine va_callq (wo_runV hC lq_Tx_55 (mq_SB_append_C hw) hG hS t6 rfl (lx_sz hl) rfl (Nat.zero_le _) (by decide) dq_Tx_appendPair_25 ⟨hc1, hs1⟩) hS (fun _ _ h => h) (fun _ h => h) (fun v10 G9 t H locs ht hvm hw' hB _ _ hS => ?_)
    clear hw
    have hw := hw'
    clear hw'
    replace hG := wo_bk ht hB
    replace hcc := hc1
    replace hss := hs1
    refine lv_pop hx hb dq_Tx_appendPair_28 (lx_cR _) ?_
    refine lv_aload_n hx hb dq_Tx_appendPair_29 rfl (lx_at hl 1 rfl) ?_
    refine wo_ldcS hC gq_Tx_74 dq_Tx_appendPair_30 ?_
    refine lv_iload_n hx hb dq_Tx_appendPair_32 rfl (lx_at hl 2 rfl) ?_
    obtain ⟨t11, hw⟩ := hw
    obtain ⟨mc12, ms13, hc1, hs1, hw⟩ := hw
    refine va_calli (wo_runV hC lq_Tx_21 (mq_St_charAt hw) hG hS t11 rfl (lx_sz hl) rfl (lx_rm (Nat.le_of_ble_eq_true rfl)) (by decide) dq_Tx_appendPair_33 ⟨hc1, hs1⟩) hS (fun _ _ h => h) (fun _ h => h) (fun v15 G14 t H locs ht hvm hw' hB _ _ hS => ?_)
    clear hw
    have hw := hw'
    clear hw'
    replace hG := wo_bk ht hB
    replace hcc := hc1
    replace hss := hs1
    obtain ⟨t16, hw⟩ := hw
    obtain ⟨mc17, ms18, hc1, hs1, hw⟩ := hw
    refine va_callq (wo_runV hC lq_Tx_55 (mq_SB_append_C hw) hG hS t16 rfl (lx_sz hl) rfl (Nat.zero_le _) (by decide) dq_Tx_appendPair_36 ⟨hc1, hs1⟩) hS (fun _ _ h => h) (fun _ h => h) (fun v20 G19 t H locs ht hvm hw' hB _ _ hS => ?_)
    clear hw
    have hw := hw'
    clear hw'
    replace hG := wo_bk ht hB
    replace hcc := hc1
    replace hss := hs1
    refine lv_pop hx hb dq_Tx_appendPair_39 (lx_cR _) ?_
    refine lv_aload_n hx hb dq_Tx_appendPair_40 rfl (lx_at hl 1 rfl) ?_
    refine wo_ldcS hC gq_Tx_74 dq_Tx_appendPair_41 ?_
    refine lv_iload_n hx hb dq_Tx_appendPair_43 rfl (lx_at hl 3 rfl) ?_
    obtain ⟨t21, hw⟩ := hw
    obtain ⟨mc22, ms23, hc1, hs1, hw⟩ := hw
    refine va_calli (wo_runV hC lq_Tx_21 (mq_St_charAt hw) hG hS t21 rfl (lx_sz hl) rfl (lx_rm (Nat.le_of_ble_eq_true rfl)) (by decide) dq_Tx_appendPair_44 ⟨hc1, hs1⟩) hS (fun _ _ h => h) (fun _ h => h) (fun v25 G24 t H locs ht hvm hw' hB _ _ hS => ?_)
    clear hw
    have hw := hw'
    clear hw'
    replace hG := wo_bk ht hB
    replace hcc := hc1
    replace hss := hs1
    obtain ⟨t26, hw⟩ := hw
    obtain ⟨mc27, ms28, hc1, hs1, hw⟩ := hw
    refine va_callq (wo_runV hC lq_Tx_55 (mq_SB_append_C hw) hG hS t26 rfl (lx_sz hl) rfl (Nat.zero_le _) (by decide) dq_Tx_appendPair_47 ⟨hc1, hs1⟩) hS (fun _ _ h => h) (fun _ h => h) (fun v30 G29 t H locs ht hvm hw' hB _ _ hS => ?_)
    clear hw
    have hw := hw'
    clear hw'
    replace hG := wo_bk ht hB
    replace hcc := hc1
    replace hss := hs1
    refine lv_pop hx hb dq_Tx_appendPair_50 (lx_cR _) ?_
    exact wo_vret hC hG hS hcc hss hw dq_Tx_appendPair_51
  · replace hw := hw.2 h
    refine lx_aloadR_n hx hb dq_Tx_appendPair_15 rfl (lx_at hl 1 rfl) ?_
    refine lv_iload_n hx hb dq_Tx_appendPair_16 rfl (lx_at hl 0 rfl) ?_
    obtain ⟨a31, rfl, hw⟩ := hw
    obtain ⟨t32, hw⟩ := hw
    obtain ⟨mc33, ms34, hc1, hs1, hw⟩ := hw
    refine va_callq (wo_runV hC lq_Tx_55 (mq_SB_append_C hw) hG hS t32 rfl (lx_sz hl) rfl (Nat.zero_le _) (by decide) dq_Tx_appendPair_17 ⟨hc1, hs1⟩) hS (fun _ _ h => h) (fun _ h => h) (fun v36 G35 t H locs ht hvm hw' hB _ _ hS => ?_)
    clear hw
    have hw := hw'
    clear hw'
    replace hG := wo_bk ht hB
    replace hcc := hc1
    replace hss := hs1
    refine lv_pop hx hb dq_Tx_appendPair_20 (lx_cR _) ?_
    exact wo_vret hC hG hS hcc hss hw dq_Tx_appendPair_21
set_option maxHeartbeats 4000000 in
theorem mq_Tx_appendPair {l : Launch} {E : wo_E} {mc ms : Nat} {Post : wo_W → Prop} {G : wo_W} {x0 : Option Nat} {x1 : Int32} {x2 : Int32} (hw : pq_Tx_appendPair E mc ms Post G x0 x1 x2) : Met l yq_Tx_appendPair (Cond.code yq_Tx_appendPair prog_12_method_8_code 4 ((Option.none : Option Jvm.ClassFile.FieldType)) :: vw_WG) { frames := 6, cells := mc, slots := ms, locals := 140 } (va_Pc [va_rf x0, .int x1, .int x2] (wo_Ok E G)) (va_Qv Post (wo_B E) (en_A E)) mc ms (en_A E) := by
  unfold pq_Tx_appendPair at hw
  exact wo_met [(1, va_rf x0), (1, .int x1), (1, .int x2)] rfl (by decide) (fun q hq => by simp only [List.mem_cons, List.not_mem_nil, or_false] at hq; rcases hq with rfl | rfl | rfl <;> first | rfl | exact lx_cR _) (Nat.le_of_ble_eq_true rfl) (fun p e R s m args below meth cd ls hC hG hS hl => tq_Tx_appendPair_0 hC hw hG hS (lx_sub hl [0, 1, 2] rfl) (Nat.zero_le _) (Nat.zero_le _))

theorem dq_Tx_decoded_0 : decode prog_12_method_7_code 0 = .ok (.aload_n 0, 1) := by decide +kernel
theorem dq_Tx_decoded_1 : decode prog_12_method_7_code 1 = .ok (.invokevirtual 45, 3) := by decide +kernel
theorem dq_Tx_decoded_4 : decode prog_12_method_7_code 4 = .ok (.ifCond .ne 13, 3) := by decide +kernel
theorem dq_Tx_decoded_7 : decode prog_12_method_7_code 7 = .ok (.aload_n 0, 1) := by decide +kernel
theorem dq_Tx_decoded_8 : decode prog_12_method_7_code 8 = .ok (.iconst 0, 1) := by decide +kernel
theorem dq_Tx_decoded_9 : decode prog_12_method_7_code 9 = .ok (.invokevirtual 21, 3) := by decide +kernel
theorem dq_Tx_decoded_12 : decode prog_12_method_7_code 12 = .ok (.bipush 47, 2) := by decide +kernel
theorem dq_Tx_decoded_14 : decode prog_12_method_7_code 14 = .ok (.if_icmp .eq 5, 3) := by decide +kernel
theorem dq_Tx_decoded_17 : decode prog_12_method_7_code 17 = .ok (.aconst_null, 1) := by decide +kernel
theorem dq_Tx_decoded_18 : decode prog_12_method_7_code 18 = .ok (.areturn, 1) := by decide +kernel
theorem dq_Tx_decoded_19 : decode prog_12_method_7_code 19 = .ok (.aload_n 1, 1) := by decide +kernel
theorem dq_Tx_decoded_20 : decode prog_12_method_7_code 20 = .ok (.iconst 0, 1) := by decide +kernel
theorem dq_Tx_decoded_21 : decode prog_12_method_7_code 21 = .ok (.invokevirtual 49, 3) := by decide +kernel
theorem dq_Tx_decoded_24 : decode prog_12_method_7_code 24 = .ok (.iconst 0, 1) := by decide +kernel
theorem dq_Tx_decoded_25 : decode prog_12_method_7_code 25 = .ok (.istore_n 2, 1) := by decide +kernel
theorem dq_Tx_decoded_26 : decode prog_12_method_7_code 26 = .ok (.iload_n 2, 1) := by decide +kernel
theorem dq_Tx_decoded_27 : decode prog_12_method_7_code 27 = .ok (.aload_n 0, 1) := by decide +kernel
theorem dq_Tx_decoded_28 : decode prog_12_method_7_code 28 = .ok (.invokevirtual 15, 3) := by decide +kernel
theorem dq_Tx_decoded_31 : decode prog_12_method_7_code 31 = .ok (.if_icmp .ge 121, 3) := by decide +kernel
theorem dq_Tx_decoded_34 : decode prog_12_method_7_code 34 = .ok (.aload_n 0, 1) := by decide +kernel
theorem dq_Tx_decoded_35 : decode prog_12_method_7_code 35 = .ok (.iload_n 2, 1) := by decide +kernel
theorem dq_Tx_decoded_36 : decode prog_12_method_7_code 36 = .ok (.invokevirtual 21, 3) := by decide +kernel
theorem dq_Tx_decoded_39 : decode prog_12_method_7_code 39 = .ok (.istore_n 3, 1) := by decide +kernel
theorem dq_Tx_decoded_40 : decode prog_12_method_7_code 40 = .ok (.iload_n 3, 1) := by decide +kernel
theorem dq_Tx_decoded_41 : decode prog_12_method_7_code 41 = .ok (.bipush 33, 2) := by decide +kernel
theorem dq_Tx_decoded_43 : decode prog_12_method_7_code 43 = .ok (.if_icmp .lt 9, 3) := by decide +kernel
theorem dq_Tx_decoded_46 : decode prog_12_method_7_code 46 = .ok (.iload_n 3, 1) := by decide +kernel
theorem dq_Tx_decoded_47 : decode prog_12_method_7_code 47 = .ok (.bipush 126, 2) := by decide +kernel
theorem dq_Tx_decoded_49 : decode prog_12_method_7_code 49 = .ok (.if_icmp .le 5, 3) := by decide +kernel
theorem dq_Tx_decoded_52 : decode prog_12_method_7_code 52 = .ok (.aconst_null, 1) := by decide +kernel
theorem dq_Tx_decoded_53 : decode prog_12_method_7_code 53 = .ok (.areturn, 1) := by decide +kernel
theorem dq_Tx_decoded_54 : decode prog_12_method_7_code 54 = .ok (.iload_n 3, 1) := by decide +kernel
theorem dq_Tx_decoded_55 : decode prog_12_method_7_code 55 = .ok (.bipush 37, 2) := by decide +kernel
theorem dq_Tx_decoded_57 : decode prog_12_method_7_code 57 = .ok (.if_icmp .eq 12, 3) := by decide +kernel
theorem dq_Tx_decoded_60 : decode prog_12_method_7_code 60 = .ok (.aload_n 1, 1) := by decide +kernel
theorem dq_Tx_decoded_61 : decode prog_12_method_7_code 61 = .ok (.iload_n 3, 1) := by decide +kernel
theorem dq_Tx_decoded_62 : decode prog_12_method_7_code 62 = .ok (.invokevirtual 55, 3) := by decide +kernel
theorem dq_Tx_decoded_65 : decode prog_12_method_7_code 65 = .ok (.pop, 1) := by decide +kernel
theorem dq_Tx_decoded_66 : decode prog_12_method_7_code 66 = .ok (.goto 80, 3) := by decide +kernel
theorem dq_Tx_decoded_69 : decode prog_12_method_7_code 69 = .ok (.iload_n 2, 1) := by decide +kernel
theorem dq_Tx_decoded_70 : decode prog_12_method_7_code 70 = .ok (.iconst 2, 1) := by decide +kernel
theorem dq_Tx_decoded_71 : decode prog_12_method_7_code 71 = .ok (.iadd, 1) := by decide +kernel
theorem dq_Tx_decoded_72 : decode prog_12_method_7_code 72 = .ok (.aload_n 0, 1) := by decide +kernel
theorem dq_Tx_decoded_73 : decode prog_12_method_7_code 73 = .ok (.invokevirtual 15, 3) := by decide +kernel
theorem dq_Tx_decoded_76 : decode prog_12_method_7_code 76 = .ok (.if_icmp .ge 16, 3) := by decide +kernel
theorem dq_Tx_decoded_79 : decode prog_12_method_7_code 79 = .ok (.aload_n 0, 1) := by decide +kernel
theorem dq_Tx_decoded_80 : decode prog_12_method_7_code 80 = .ok (.iload_n 2, 1) := by decide +kernel
theorem dq_Tx_decoded_81 : decode prog_12_method_7_code 81 = .ok (.iconst 1, 1) := by decide +kernel
theorem dq_Tx_decoded_82 : decode prog_12_method_7_code 82 = .ok (.iadd, 1) := by decide +kernel
theorem dq_Tx_decoded_83 : decode prog_12_method_7_code 83 = .ok (.invokevirtual 21, 3) := by decide +kernel
theorem dq_Tx_decoded_86 : decode prog_12_method_7_code 86 = .ok (.invokestatic 59, 3) := by decide +kernel
theorem dq_Tx_decoded_89 : decode prog_12_method_7_code 89 = .ok (.goto 4, 3) := by decide +kernel
theorem dq_Tx_decoded_92 : decode prog_12_method_7_code 92 = .ok (.iconst (-1), 1) := by decide +kernel
theorem dq_Tx_decoded_93 : decode prog_12_method_7_code 93 = .ok (.istore 4, 2) := by decide +kernel
theorem dq_Tx_decoded_95 : decode prog_12_method_7_code 95 = .ok (.iload_n 2, 1) := by decide +kernel
theorem dq_Tx_decoded_96 : decode prog_12_method_7_code 96 = .ok (.iconst 2, 1) := by decide +kernel
theorem dq_Tx_decoded_97 : decode prog_12_method_7_code 97 = .ok (.iadd, 1) := by decide +kernel
theorem dq_Tx_decoded_98 : decode prog_12_method_7_code 98 = .ok (.aload_n 0, 1) := by decide +kernel
theorem dq_Tx_decoded_99 : decode prog_12_method_7_code 99 = .ok (.invokevirtual 15, 3) := by decide +kernel
theorem dq_Tx_decoded_102 : decode prog_12_method_7_code 102 = .ok (.if_icmp .ge 16, 3) := by decide +kernel
theorem dq_Tx_decoded_105 : decode prog_12_method_7_code 105 = .ok (.aload_n 0, 1) := by decide +kernel
theorem dq_Tx_decoded_106 : decode prog_12_method_7_code 106 = .ok (.iload_n 2, 1) := by decide +kernel
theorem dq_Tx_decoded_107 : decode prog_12_method_7_code 107 = .ok (.iconst 2, 1) := by decide +kernel
theorem dq_Tx_decoded_108 : decode prog_12_method_7_code 108 = .ok (.iadd, 1) := by decide +kernel
theorem dq_Tx_decoded_109 : decode prog_12_method_7_code 109 = .ok (.invokevirtual 21, 3) := by decide +kernel
theorem dq_Tx_decoded_112 : decode prog_12_method_7_code 112 = .ok (.invokestatic 59, 3) := by decide +kernel
theorem dq_Tx_decoded_115 : decode prog_12_method_7_code 115 = .ok (.goto 4, 3) := by decide +kernel
theorem dq_Tx_decoded_118 : decode prog_12_method_7_code 118 = .ok (.iconst (-1), 1) := by decide +kernel
theorem dq_Tx_decoded_119 : decode prog_12_method_7_code 119 = .ok (.istore 5, 2) := by decide +kernel
theorem dq_Tx_decoded_121 : decode prog_12_method_7_code 121 = .ok (.iload 4, 2) := by decide +kernel
theorem dq_Tx_decoded_123 : decode prog_12_method_7_code 123 = .ok (.iconst (-1), 1) := by decide +kernel
theorem dq_Tx_decoded_124 : decode prog_12_method_7_code 124 = .ok (.if_icmp .eq 9, 3) := by decide +kernel
theorem dq_Tx_decoded_127 : decode prog_12_method_7_code 127 = .ok (.iload 5, 2) := by decide +kernel
theorem dq_Tx_decoded_129 : decode prog_12_method_7_code 129 = .ok (.iconst (-1), 1) := by decide +kernel
theorem dq_Tx_decoded_130 : decode prog_12_method_7_code 130 = .ok (.if_icmp .ne 5, 3) := by decide +kernel
theorem dq_Tx_decoded_133 : decode prog_12_method_7_code 133 = .ok (.aconst_null, 1) := by decide +kernel
theorem dq_Tx_decoded_134 : decode prog_12_method_7_code 134 = .ok (.areturn, 1) := by decide +kernel
theorem dq_Tx_decoded_135 : decode prog_12_method_7_code 135 = .ok (.aload_n 1, 1) := by decide +kernel
theorem dq_Tx_decoded_136 : decode prog_12_method_7_code 136 = .ok (.iload 4, 2) := by decide +kernel
theorem dq_Tx_decoded_138 : decode prog_12_method_7_code 138 = .ok (.iload 5, 2) := by decide +kernel
theorem dq_Tx_decoded_140 : decode prog_12_method_7_code 140 = .ok (.invokestatic 63, 3) := by decide +kernel
theorem dq_Tx_decoded_143 : decode prog_12_method_7_code 143 = .ok (.iinc 2 2, 3) := by decide +kernel
theorem dq_Tx_decoded_146 : decode prog_12_method_7_code 146 = .ok (.iinc 2 1, 3) := by decide +kernel
theorem dq_Tx_decoded_149 : decode prog_12_method_7_code 149 = .ok (.goto (-123), 3) := by decide +kernel
theorem dq_Tx_decoded_152 : decode prog_12_method_7_code 152 = .ok (.aload_n 1, 1) := by decide +kernel
theorem dq_Tx_decoded_153 : decode prog_12_method_7_code 153 = .ok (.invokevirtual 67, 3) := by decide +kernel
theorem dq_Tx_decoded_156 : decode prog_12_method_7_code 156 = .ok (.areturn, 1) := by decide +kernel
set_option maxRecDepth 100000 in
def pq_Tx_decoded_17 (E : wo_E) (mc ms : Nat) (Post : Option Nat → wo_W → Prop) (G : wo_W) (c s : Nat) : Prop := Post none G
set_option maxRecDepth 100000 in
def pq_Tx_decoded_52 (E : wo_E) (mc ms : Nat) (Post : Option Nat → wo_W → Prop) (G : wo_W) (c s : Nat) : Prop := Post none G
set_option maxRecDepth 100000 in
def pq_Tx_decoded_133 (E : wo_E) (mc ms : Nat) (Post : Option Nat → wo_W → Prop) (G : wo_W) (c s : Nat) : Prop := Post none G
set_option maxRecDepth 100000 in
def pq_Tx_decoded_146 (E : wo_E) (mc ms : Nat) (Post : Option Nat → wo_W → Prop) (k26 : wo_W → Nat → Nat → Option Nat → Option Nat → Int32 → Prop) (G : wo_W) (c s : Nat) (x0 : Option Nat) (x1 : Option Nat) (x2 : Int32) : Prop := k26 G c s x0 x1 (x2 + (1 : Int32))
set_option maxRecDepth 100000 in
def pq_Tx_decoded_119 (E : wo_E) (mc ms : Nat) (Post : Option Nat → wo_W → Prop) (k26 : wo_W → Nat → Nat → Option Nat → Option Nat → Int32 → Prop) (G : wo_W) (c s : Nat) (x0 : Option Nat) (x1 : Option Nat) (x2 : Int32) (x4 : Int32) (y0 : Int32) : Prop := ((x4 = (-1 : Int32) → pq_Tx_decoded_133 E mc ms Post G c s) ∧
  (¬ x4 = (-1 : Int32) → ((¬ y0 = (-1 : Int32) → ∃ mc1 ms2 : Nat, (c + mc1) ≤ mc ∧ (s + ms2) ≤ ms ∧ pq_Tx_appendPair E mc1 ms2 (fun G3 => 
      pq_Tx_decoded_146 E mc ms Post k26 G3 (c + mc1) (s + ms2) x0 x1 (x2 + (2 : Int32))) G x1 x4 y0) ∧
    (y0 = (-1 : Int32) → pq_Tx_decoded_133 E mc ms Post G c s))))
set_option maxRecDepth 100000 in
def pq_Tx_decoded_93 (E : wo_E) (mc ms : Nat) (Post : Option Nat → wo_W → Prop) (k26 : wo_W → Nat → Nat → Option Nat → Option Nat → Int32 → Prop) (G : wo_W) (c s : Nat) (x0 : Option Nat) (x1 : Option Nat) (x2 : Int32) (y0 : Int32) : Prop := ∃ a1 : Nat, x0 = some a1 ∧ wo_ty G a1 = 10 ∧ ∃ mc3 ms4 : Nat, (c + mc3) ≤ mc ∧ (s + ms4) ≤ ms ∧ pq_St_length E mc3 ms4 (fun v6 G5 => 
  ((v6 ≤ (x2 + (2 : Int32)) → pq_Tx_decoded_119 E mc ms Post k26 G5 (c + mc3) (s + ms4) (some a1) x1 x2 y0 (-1 : Int32)) ∧
    (¬ v6 ≤ (x2 + (2 : Int32)) → wo_ty G5 a1 = 10 ∧ ∃ mc8 ms9 : Nat, ((c + mc3) + mc8) ≤ mc ∧ ((s + ms4) + ms9) ≤ ms ∧ pq_St_charAt E mc8 ms9 (fun v11 G10 => 
      ∃ mc12 ms13 : Nat, (((c + mc3) + mc8) + mc12) ≤ mc ∧ (((s + ms4) + ms9) + ms13) ≤ ms ∧ pq_Tx_hexadecimal E mc12 ms13 (fun v15 G14 => 
        pq_Tx_decoded_119 E mc ms Post k26 G14 (((c + mc3) + mc8) + mc12) (((s + ms4) + ms9) + ms13) (some a1) x1 x2 y0 v15) G10 v11) G5 a1 (x2 + (2 : Int32))))) G a1
set_option maxRecDepth 100000 in
def pq_Tx_decoded_26 (E : wo_E) (mc ms : Nat) (Post : Option Nat → wo_W → Prop) : Nat → wo_W → Nat → Nat → Option Nat → Option Nat → Int32 → Prop
  | 0 => fun _ _ _ _ _ _ => False
  | n + 1 => fun G c s x0 x1 x2 => ∃ a1 : Nat, x0 = some a1 ∧ wo_ty G a1 = 10 ∧ ∃ mc3 ms4 : Nat, (c + mc3) ≤ mc ∧ (s + ms4) ≤ ms ∧ pq_St_length E mc3 ms4 (fun v6 G5 => 
  ((v6 ≤ x2 → ∃ a7 : Nat, x1 = some a7 ∧ wo_ty G5 a7 = 5 ∧ ∃ mc9 ms10 : Nat, ((c + mc3) + mc9) ≤ mc ∧ ((s + ms4) + ms10) ≤ ms ∧ pq_SB_toString E mc9 ms10 (fun v12 G11 => 
      Post v12 G11) G5 a7) ∧
    (¬ v6 ≤ x2 → wo_ty G5 a1 = 10 ∧ ∃ mc14 ms15 : Nat, ((c + mc3) + mc14) ≤ mc ∧ ((s + ms4) + ms15) ≤ ms ∧ pq_St_charAt E mc14 ms15 (fun v17 G16 => 
      ((v17 < (33 : Int32) → pq_Tx_decoded_52 E mc ms Post G16 ((c + mc3) + mc14) ((s + ms4) + ms15)) ∧
        (¬ v17 < (33 : Int32) → ((v17 ≤ (126 : Int32) → ((v17 = (37 : Int32) → wo_ty G16 a1 = 10 ∧ ∃ mc19 ms20 : Nat, (((c + mc3) + mc14) + mc19) ≤ mc ∧ (((s + ms4) + ms15) + ms20) ≤ ms ∧ pq_St_length E mc19 ms20 (fun v22 G21 => 
              ((v22 ≤ (x2 + (2 : Int32)) → pq_Tx_decoded_93 E mc ms Post (pq_Tx_decoded_26 E mc ms Post n) G21 (((c + mc3) + mc14) + mc19) (((s + ms4) + ms15) + ms20) (some a1) x1 x2 (-1 : Int32)) ∧
                (¬ v22 ≤ (x2 + (2 : Int32)) → wo_ty G21 a1 = 10 ∧ ∃ mc24 ms25 : Nat, ((((c + mc3) + mc14) + mc19) + mc24) ≤ mc ∧ ((((s + ms4) + ms15) + ms20) + ms25) ≤ ms ∧ pq_St_charAt E mc24 ms25 (fun v27 G26 => 
                  ∃ mc28 ms29 : Nat, (((((c + mc3) + mc14) + mc19) + mc24) + mc28) ≤ mc ∧ (((((s + ms4) + ms15) + ms20) + ms25) + ms29) ≤ ms ∧ pq_Tx_hexadecimal E mc28 ms29 (fun v31 G30 => 
                    pq_Tx_decoded_93 E mc ms Post (pq_Tx_decoded_26 E mc ms Post n) G30 (((((c + mc3) + mc14) + mc19) + mc24) + mc28) (((((s + ms4) + ms15) + ms20) + ms25) + ms29) (some a1) x1 x2 v31) G26 v27) G21 a1 (x2 + (1 : Int32))))) G16 a1) ∧
            (¬ v17 = (37 : Int32) → ∃ a32 : Nat, x1 = some a32 ∧ wo_ty G16 a32 = 5 ∧ ∃ mc34 ms35 : Nat, (((c + mc3) + mc14) + mc34) ≤ mc ∧ (((s + ms4) + ms15) + ms35) ≤ ms ∧ pq_SB_append_C E mc34 ms35 (fun v37 G36 => 
              pq_Tx_decoded_146 E mc ms Post (pq_Tx_decoded_26 E mc ms Post n) G36 (((c + mc3) + mc14) + mc34) (((s + ms4) + ms15) + ms35) (some a1) (some a32) x2) G16 a32 v17))) ∧
          (¬ v17 ≤ (126 : Int32) → pq_Tx_decoded_52 E mc ms Post G16 ((c + mc3) + mc14) ((s + ms4) + ms15)))))) G5 a1 x2))) G a1
set_option maxRecDepth 100000 in
def pq_Tx_decoded_0 (E : wo_E) (mc ms : Nat) (Post : Option Nat → wo_W → Prop) (G : wo_W) (c s : Nat) (x0 : Option Nat) (x1 : Option Nat) : Prop := ∃ a1 : Nat, x0 = some a1 ∧ wo_ty G a1 = 10 ∧ ∃ mc3 ms4 : Nat, (c + mc3) ≤ mc ∧ (s + ms4) ≤ ms ∧ pq_St_isEmpty E mc3 ms4 (fun v6 G5 => 
  ((¬ v6 = (0 : Int32) → pq_Tx_decoded_17 E mc ms Post G5 (c + mc3) (s + ms4)) ∧
    (v6 = (0 : Int32) → wo_ty G5 a1 = 10 ∧ ∃ mc8 ms9 : Nat, ((c + mc3) + mc8) ≤ mc ∧ ((s + ms4) + ms9) ≤ ms ∧ pq_St_charAt E mc8 ms9 (fun v11 G10 => 
      ((v11 = (47 : Int32) → ∃ a12 : Nat, x1 = some a12 ∧ wo_ty G10 a12 = 5 ∧ ∃ mc14 ms15 : Nat, (((c + mc3) + mc8) + mc14) ≤ mc ∧ (((s + ms4) + ms9) + ms15) ≤ ms ∧ pq_SB_setLength E mc14 ms15 (fun G16 => 
          ∃ n1 : Nat, pq_Tx_decoded_26 E mc ms Post n1 G16 (((c + mc3) + mc8) + mc14) (((s + ms4) + ms9) + ms15) (some a1) (some a12) (0 : Int32)) G10 a12 (0 : Int32)) ∧
        (¬ v11 = (47 : Int32) → pq_Tx_decoded_17 E mc ms Post G10 ((c + mc3) + mc8) ((s + ms4) + ms9)))) G5 a1 (0 : Int32)))) G a1
def pq_Tx_decoded (E : wo_E) (mc ms : Nat) (Post : Option Nat → wo_W → Prop) (G : wo_W) (x0 : Option Nat) (x1 : Option Nat) : Prop := pq_Tx_decoded_0 E mc ms Post G 0 0 x0 x1
set_option maxRecDepth 100000 in
set_option maxHeartbeats 4000000 in
theorem tq_Tx_decoded_17 {p : Program} {l : Launch} {e : Env} {R : Room} {s₀ : State} {m : MethodId} {args : Array Value} {below : List Frame} {meth : Method} {cd : Code} {E : wo_E} {mc ms : Nat} {Post : Option Nat → wo_W → Prop} (hC : wo_Cx E "EdgeCache$Text" prog_12_method_7_code 6 7 163 ((Option.some (Jvm.ClassFile.FieldType.object "java/lang/String"))) "decoded" mc ms p R s₀ m args meth cd) : ∀ {G : wo_W} {c s : Nat}, pq_Tx_decoded_17 E mc ms Post G c s → ∀ {H : Heap} {locs : List Loc} {ls : Array Slot}, wo_Se E G H → va_S (en_A E) s₀.heap H locs → lx_has ls 6 [] → c ≤ mc → s ≤ ms → W p l e R s₀ m args below meth cd H locs c s (MQ below (va_Qq Post (wo_B E) (en_A E)) args s₀ mc ms (en_A E)) (F0 m 17 ls []) := by
  intro G c s hw H locs ls hG hS hl hcc hss
  dsimp only [pq_Tx_decoded_17] at hw
  have hx := hC.1
  have hb := hC.2.1
  refine lv_null hx hb dq_Tx_decoded_17 ?_
  exact wo_aret (x := none) hC rfl hG hS hcc hss hw dq_Tx_decoded_18
set_option maxRecDepth 100000 in
set_option maxHeartbeats 4000000 in
theorem tq_Tx_decoded_52 {p : Program} {l : Launch} {e : Env} {R : Room} {s₀ : State} {m : MethodId} {args : Array Value} {below : List Frame} {meth : Method} {cd : Code} {E : wo_E} {mc ms : Nat} {Post : Option Nat → wo_W → Prop} (hC : wo_Cx E "EdgeCache$Text" prog_12_method_7_code 6 7 163 ((Option.some (Jvm.ClassFile.FieldType.object "java/lang/String"))) "decoded" mc ms p R s₀ m args meth cd) : ∀ {G : wo_W} {c s : Nat}, pq_Tx_decoded_52 E mc ms Post G c s → ∀ {H : Heap} {locs : List Loc} {ls : Array Slot}, wo_Se E G H → va_S (en_A E) s₀.heap H locs → lx_has ls 6 [] → c ≤ mc → s ≤ ms → W p l e R s₀ m args below meth cd H locs c s (MQ below (va_Qq Post (wo_B E) (en_A E)) args s₀ mc ms (en_A E)) (F0 m 52 ls []) := by
  intro G c s hw H locs ls hG hS hl hcc hss
  dsimp only [pq_Tx_decoded_52] at hw
  have hx := hC.1
  have hb := hC.2.1
  refine lv_null hx hb dq_Tx_decoded_52 ?_
  exact wo_aret (x := none) hC rfl hG hS hcc hss hw dq_Tx_decoded_53
set_option maxRecDepth 100000 in
set_option maxHeartbeats 4000000 in
theorem tq_Tx_decoded_133 {p : Program} {l : Launch} {e : Env} {R : Room} {s₀ : State} {m : MethodId} {args : Array Value} {below : List Frame} {meth : Method} {cd : Code} {E : wo_E} {mc ms : Nat} {Post : Option Nat → wo_W → Prop} (hC : wo_Cx E "EdgeCache$Text" prog_12_method_7_code 6 7 163 ((Option.some (Jvm.ClassFile.FieldType.object "java/lang/String"))) "decoded" mc ms p R s₀ m args meth cd) : ∀ {G : wo_W} {c s : Nat}, pq_Tx_decoded_133 E mc ms Post G c s → ∀ {H : Heap} {locs : List Loc} {ls : Array Slot}, wo_Se E G H → va_S (en_A E) s₀.heap H locs → lx_has ls 6 [] → c ≤ mc → s ≤ ms → W p l e R s₀ m args below meth cd H locs c s (MQ below (va_Qq Post (wo_B E) (en_A E)) args s₀ mc ms (en_A E)) (F0 m 133 ls []) := by
  intro G c s hw H locs ls hG hS hl hcc hss
  dsimp only [pq_Tx_decoded_133] at hw
  have hx := hC.1
  have hb := hC.2.1
  refine lv_null hx hb dq_Tx_decoded_133 ?_
  exact wo_aret (x := none) hC rfl hG hS hcc hss hw dq_Tx_decoded_134
set_option maxRecDepth 100000 in
set_option maxHeartbeats 4000000 in
theorem tq_Tx_decoded_146 {p : Program} {l : Launch} {e : Env} {R : Room} {s₀ : State} {m : MethodId} {args : Array Value} {below : List Frame} {meth : Method} {cd : Code} {E : wo_E} {mc ms : Nat} {Post : Option Nat → wo_W → Prop} {k26 : wo_W → Nat → Nat → Option Nat → Option Nat → Int32 → Prop} (hC : wo_Cx E "EdgeCache$Text" prog_12_method_7_code 6 7 163 ((Option.some (Jvm.ClassFile.FieldType.object "java/lang/String"))) "decoded" mc ms p R s₀ m args meth cd) (hk26 : ∀ {G : wo_W} {c s : Nat} {x0 : Option Nat} {x1 : Option Nat} {x2 : Int32}, k26 G c s x0 x1 x2 → ∀ {H : Heap} {locs : List Loc} {ls : Array Slot}, wo_Se E G H → va_S (en_A E) s₀.heap H locs → lx_has ls 6 [(0, 1, va_rf x0), (1, 1, va_rf x1), (2, 1, .int x2)] → c ≤ mc → s ≤ ms → W p l e R s₀ m args below meth cd H locs c s (MQ below (va_Qq Post (wo_B E) (en_A E)) args s₀ mc ms (en_A E)) (F0 m 26 ls [])) : ∀ {G : wo_W} {c s : Nat} {x0 : Option Nat} {x1 : Option Nat} {x2 : Int32}, pq_Tx_decoded_146 E mc ms Post k26 G c s x0 x1 x2 → ∀ {H : Heap} {locs : List Loc} {ls : Array Slot}, wo_Se E G H → va_S (en_A E) s₀.heap H locs → lx_has ls 6 [(0, 1, va_rf x0), (1, 1, va_rf x1), (2, 1, .int x2)] → c ≤ mc → s ≤ ms → W p l e R s₀ m args below meth cd H locs c s (MQ below (va_Qq Post (wo_B E) (en_A E)) args s₀ mc ms (en_A E)) (F0 m 146 ls []) := by
  intro G c s x0 x1 x2 hw H locs ls hG hS hl hcc hss
  dsimp only [pq_Tx_decoded_146] at hw
  have hx := hC.1
  have hb := hC.2.1
  refine lx_iinc (k := 2) (v := (x2 + (1 : Int32))) (lv' := [(2, 1, .int (x2 + (1 : Int32))), (0, 1, va_rf x0), (1, 1, va_rf x1)]) hx hb dq_Tx_decoded_146 hl rfl rfl (by decide) rfl (fun ls hl' => ?_)
  clear hl
  have hl := hl'
  clear hl'
  refine lv_goto (tgt := 26) hx hb dq_Tx_decoded_149 rfl ?_
  exact hk26 hw hG hS (lx_sub hl [1, 2, 0] rfl) hcc hss
set_option maxRecDepth 100000 in
set_option maxHeartbeats 4000000 in
theorem tq_Tx_decoded_119 {p : Program} {l : Launch} {e : Env} {R : Room} {s₀ : State} {m : MethodId} {args : Array Value} {below : List Frame} {meth : Method} {cd : Code} {E : wo_E} {mc ms : Nat} {Post : Option Nat → wo_W → Prop} {k26 : wo_W → Nat → Nat → Option Nat → Option Nat → Int32 → Prop} (hC : wo_Cx E "EdgeCache$Text" prog_12_method_7_code 6 7 163 ((Option.some (Jvm.ClassFile.FieldType.object "java/lang/String"))) "decoded" mc ms p R s₀ m args meth cd) (hk26 : ∀ {G : wo_W} {c s : Nat} {x0 : Option Nat} {x1 : Option Nat} {x2 : Int32}, k26 G c s x0 x1 x2 → ∀ {H : Heap} {locs : List Loc} {ls : Array Slot}, wo_Se E G H → va_S (en_A E) s₀.heap H locs → lx_has ls 6 [(0, 1, va_rf x0), (1, 1, va_rf x1), (2, 1, .int x2)] → c ≤ mc → s ≤ ms → W p l e R s₀ m args below meth cd H locs c s (MQ below (va_Qq Post (wo_B E) (en_A E)) args s₀ mc ms (en_A E)) (F0 m 26 ls [])) : ∀ {G : wo_W} {c s : Nat} {x0 : Option Nat} {x1 : Option Nat} {x2 : Int32} {x4 : Int32} {y0 : Int32}, pq_Tx_decoded_119 E mc ms Post k26 G c s x0 x1 x2 x4 y0 → ∀ {H : Heap} {locs : List Loc} {ls : Array Slot}, wo_Se E G H → va_S (en_A E) s₀.heap H locs → lx_has ls 6 [(0, 1, va_rf x0), (1, 1, va_rf x1), (2, 1, .int x2), (4, 1, .int x4)] → c ≤ mc → s ≤ ms → W p l e R s₀ m args below meth cd H locs c s (MQ below (va_Qq Post (wo_B E) (en_A E)) args s₀ mc ms (en_A E)) (F0 m 119 ls [.int y0]) := by
  intro G c s x0 x1 x2 x4 y0 hw H locs ls hG hS hl hcc hss
  dsimp only [pq_Tx_decoded_119] at hw
  have hx := hC.1
  have hb := hC.2.1
  refine lx_istore (lv' := [(5, 1, .int y0), (0, 1, va_rf x0), (1, 1, va_rf x1), (2, 1, .int x2), (4, 1, .int x4)]) hx hb dq_Tx_decoded_119 hl (by decide) rfl (fun ls hl' => ?_)
  clear hl
  have hl := hl'
  clear hl'
  refine lv_iload hx hb dq_Tx_decoded_121 (lx_at hl 4 rfl) ?_
  refine lv_iconst (v := (-1 : Int32)) hx hb dq_Tx_decoded_123 rfl ?_
  refine lv_icmp_eq (tgt := 133) hx hb dq_Tx_decoded_124 rfl (fun h => ?_) (fun h => ?_)
  · replace hw := hw.1 h
    exact tq_Tx_decoded_133 hC hw hG hS (lx_sub hl [] rfl) hcc hss
  · replace hw := hw.2 h
    refine lv_iload hx hb dq_Tx_decoded_127 (lx_at hl 0 rfl) ?_
    refine lv_iconst (v := (-1 : Int32)) hx hb dq_Tx_decoded_129 rfl ?_
    refine lv_icmp_ne (tgt := 135) hx hb dq_Tx_decoded_130 rfl (fun h => ?_) (fun h => ?_)
    · replace hw := hw.1 h
      refine lx_aloadR_n hx hb dq_Tx_decoded_135 rfl (lx_at hl 2 rfl) ?_
      refine lv_iload hx hb dq_Tx_decoded_136 (lx_at hl 4 rfl) ?_
      refine lv_iload hx hb dq_Tx_decoded_138 (lx_at hl 0 rfl) ?_
      obtain ⟨mc1, ms2, hc1, hs1, hw⟩ := hw
      refine va_callv (wo_runS hC lq_Tx_63 (mq_Tx_appendPair hw) hG hS rfl (lx_sz hl) rfl (Nat.zero_le _) (by decide) dq_Tx_decoded_140 ⟨hc1, hs1⟩) hS (fun _ _ h => h) (fun _ h => h) (fun G3 t H locs ht hvm hw' hB _ _ hS => ?_)
      clear hw
      have hw := hw'
      clear hw'
      replace hG := wo_bk ht hB
      replace hcc := hc1
      replace hss := hs1
      refine lx_iinc (k := 3) (v := (x2 + (2 : Int32))) (lv' := [(2, 1, .int (x2 + (2 : Int32))), (5, 1, .int y0), (0, 1, va_rf x0), (1, 1, va_rf x1), (4, 1, .int x4)]) hx hb dq_Tx_decoded_143 hl rfl rfl (by decide) rfl (fun ls hl' => ?_)
      clear hl
      have hl := hl'
      clear hl'
      exact tq_Tx_decoded_146 hC hk26 hw hG hS (lx_sub hl [2, 3, 0] rfl) hcc hss
    · replace hw := hw.2 h
      exact tq_Tx_decoded_133 hC hw hG hS (lx_sub hl [] rfl) hcc hss
set_option maxRecDepth 100000 in
set_option maxHeartbeats 4000000 in
theorem tq_Tx_decoded_93 {p : Program} {l : Launch} {e : Env} {R : Room} {s₀ : State} {m : MethodId} {args : Array Value} {below : List Frame} {meth : Method} {cd : Code} {E : wo_E} {mc ms : Nat} {Post : Option Nat → wo_W → Prop} {k26 : wo_W → Nat → Nat → Option Nat → Option Nat → Int32 → Prop} (hC : wo_Cx E "EdgeCache$Text" prog_12_method_7_code 6 7 163 ((Option.some (Jvm.ClassFile.FieldType.object "java/lang/String"))) "decoded" mc ms p R s₀ m args meth cd) (hk26 : ∀ {G : wo_W} {c s : Nat} {x0 : Option Nat} {x1 : Option Nat} {x2 : Int32}, k26 G c s x0 x1 x2 → ∀ {H : Heap} {locs : List Loc} {ls : Array Slot}, wo_Se E G H → va_S (en_A E) s₀.heap H locs → lx_has ls 6 [(0, 1, va_rf x0), (1, 1, va_rf x1), (2, 1, .int x2)] → c ≤ mc → s ≤ ms → W p l e R s₀ m args below meth cd H locs c s (MQ below (va_Qq Post (wo_B E) (en_A E)) args s₀ mc ms (en_A E)) (F0 m 26 ls [])) : ∀ {G : wo_W} {c s : Nat} {x0 : Option Nat} {x1 : Option Nat} {x2 : Int32} {y0 : Int32}, pq_Tx_decoded_93 E mc ms Post k26 G c s x0 x1 x2 y0 → ∀ {H : Heap} {locs : List Loc} {ls : Array Slot}, wo_Se E G H → va_S (en_A E) s₀.heap H locs → lx_has ls 6 [(0, 1, va_rf x0), (1, 1, va_rf x1), (2, 1, .int x2)] → c ≤ mc → s ≤ ms → W p l e R s₀ m args below meth cd H locs c s (MQ below (va_Qq Post (wo_B E) (en_A E)) args s₀ mc ms (en_A E)) (F0 m 93 ls [.int y0]) := by
  intro G c s x0 x1 x2 y0 hw H locs ls hG hS hl hcc hss
  dsimp only [pq_Tx_decoded_93] at hw
  have hx := hC.1
  have hb := hC.2.1
  refine lx_istore (lv' := [(4, 1, .int y0), (0, 1, va_rf x0), (1, 1, va_rf x1), (2, 1, .int x2)]) hx hb dq_Tx_decoded_93 hl (by decide) rfl (fun ls hl' => ?_)
  clear hl
  have hl := hl'
  clear hl'
  refine lv_iload_n hx hb dq_Tx_decoded_95 rfl (lx_at hl 3 rfl) ?_
  refine lv_iconst (v := (2 : Int32)) hx hb dq_Tx_decoded_96 rfl ?_
  refine lv_iadd hx hb dq_Tx_decoded_97 ?_
  refine lx_aloadR_n hx hb dq_Tx_decoded_98 rfl (lx_at hl 1 rfl) ?_
  obtain ⟨a1, rfl, hw⟩ := hw
  obtain ⟨t2, hw⟩ := hw
  obtain ⟨mc3, ms4, hc1, hs1, hw⟩ := hw
  refine va_calli (wo_runV hC lq_Tx_15 (mq_St_length hw) hG hS t2 rfl (lx_sz hl) rfl (lx_rm (Nat.le_of_ble_eq_true rfl)) (by decide) dq_Tx_decoded_99 ⟨hc1, hs1⟩) hS (fun _ _ h => h) (fun _ h => h) (fun v6 G5 t H locs ht hvm hw' hB _ _ hS => ?_)
  clear hw
  have hw := hw'
  clear hw'
  replace hG := wo_bk ht hB
  replace hcc := hc1
  replace hss := hs1
  refine lv_icmp_ge (tgt := 118) hx hb dq_Tx_decoded_102 rfl (fun h => ?_) (fun h => ?_)
  · replace hw := hw.1 h
    refine lv_iconst (v := (-1 : Int32)) hx hb dq_Tx_decoded_118 rfl ?_
    exact tq_Tx_decoded_119 hC hk26 hw hG hS (lx_sub hl [1, 2, 3, 0] rfl) hcc hss
  · replace hw := hw.2 h
    refine lv_aload_n hx hb dq_Tx_decoded_105 rfl (lx_at hl 1 rfl) ?_
    refine lv_iload_n hx hb dq_Tx_decoded_106 rfl (lx_at hl 3 rfl) ?_
    refine lv_iconst (v := (2 : Int32)) hx hb dq_Tx_decoded_107 rfl ?_
    refine lv_iadd hx hb dq_Tx_decoded_108 ?_
    obtain ⟨t7, hw⟩ := hw
    obtain ⟨mc8, ms9, hc1, hs1, hw⟩ := hw
    refine va_calli (wo_runV hC lq_Tx_21 (mq_St_charAt hw) hG hS t7 rfl (lx_sz hl) rfl (Nat.zero_le _) (by decide) dq_Tx_decoded_109 ⟨hc1, hs1⟩) hS (fun _ _ h => h) (fun _ h => h) (fun v11 G10 t H locs ht hvm hw' hB _ _ hS => ?_)
    clear hw
    have hw := hw'
    clear hw'
    replace hG := wo_bk ht hB
    replace hcc := hc1
    replace hss := hs1
    obtain ⟨mc12, ms13, hc1, hs1, hw⟩ := hw
    refine va_calli (wo_runS hC lq_Tx_59 (mq_Tx_hexadecimal hw) hG hS rfl (lx_sz hl) rfl (Nat.zero_le _) (by decide) dq_Tx_decoded_112 ⟨hc1, hs1⟩) hS (fun _ _ h => h) (fun _ h => h) (fun v15 G14 t H locs ht hvm hw' hB _ _ hS => ?_)
    clear hw
    have hw := hw'
    clear hw'
    replace hG := wo_bk ht hB
    replace hcc := hc1
    replace hss := hs1
    refine lv_goto (tgt := 119) hx hb dq_Tx_decoded_115 rfl ?_
    exact tq_Tx_decoded_119 hC hk26 hw hG hS (lx_sub hl [1, 2, 3, 0] rfl) hcc hss
set_option maxRecDepth 100000 in
set_option maxHeartbeats 4000000 in
theorem tq_Tx_decoded_26 {p : Program} {l : Launch} {e : Env} {R : Room} {s₀ : State} {m : MethodId} {args : Array Value} {below : List Frame} {meth : Method} {cd : Code} {E : wo_E} {mc ms : Nat} {Post : Option Nat → wo_W → Prop} (hC : wo_Cx E "EdgeCache$Text" prog_12_method_7_code 6 7 163 ((Option.some (Jvm.ClassFile.FieldType.object "java/lang/String"))) "decoded" mc ms p R s₀ m args meth cd) : ∀ n : Nat, ∀ {G : wo_W} {c s : Nat} {x0 : Option Nat} {x1 : Option Nat} {x2 : Int32}, pq_Tx_decoded_26 E mc ms Post n G c s x0 x1 x2 → ∀ {H : Heap} {locs : List Loc} {ls : Array Slot}, wo_Se E G H → va_S (en_A E) s₀.heap H locs → lx_has ls 6 [(0, 1, va_rf x0), (1, 1, va_rf x1), (2, 1, .int x2)] → c ≤ mc → s ≤ ms → W p l e R s₀ m args below meth cd H locs c s (MQ below (va_Qq Post (wo_B E) (en_A E)) args s₀ mc ms (en_A E)) (F0 m 26 ls []) := by
  intro n
  induction n with
  | zero => intro G c s x0 x1 x2 hw; exact hw.elim
  | succ n ih =>
    intro G c s x0 x1 x2 hw H locs ls hG hS hl hcc hss
    dsimp only [pq_Tx_decoded_26] at hw
    have hx := hC.1
    have hb := hC.2.1
    refine lv_iload_n hx hb dq_Tx_decoded_26 rfl (lx_at hl 2 rfl) ?_
    refine lx_aloadR_n hx hb dq_Tx_decoded_27 rfl (lx_at hl 0 rfl) ?_
    obtain ⟨a1, rfl, hw⟩ := hw
    obtain ⟨t2, hw⟩ := hw
    obtain ⟨mc3, ms4, hc1, hs1, hw⟩ := hw
    refine va_calli (wo_runV hC lq_Tx_15 (mq_St_length hw) hG hS t2 rfl (lx_sz hl) rfl (lx_rm (Nat.le_of_ble_eq_true rfl)) (by decide) dq_Tx_decoded_28 ⟨hc1, hs1⟩) hS (fun _ _ h => h) (fun _ h => h) (fun v6 G5 t H locs ht hvm hw' hB _ _ hS => ?_)
    clear hw
    have hw := hw'
    clear hw'
    replace hG := wo_bk ht hB
    replace hcc := hc1
    replace hss := hs1
    refine lv_icmp_ge (tgt := 152) hx hb dq_Tx_decoded_31 rfl (fun h => ?_) (fun h => ?_)
    · replace hw := hw.1 h
      refine lx_aloadR_n hx hb dq_Tx_decoded_152 rfl (lx_at hl 1 rfl) ?_
      obtain ⟨a7, rfl, hw⟩ := hw
      obtain ⟨t8, hw⟩ := hw
      obtain ⟨mc9, ms10, hc1, hs1, hw⟩ := hw
      refine va_callq (wo_runV hC lq_Tx_67 (mq_SB_toString hw) hG hS t8 rfl (lx_sz hl) rfl (Nat.zero_le _) (by decide) dq_Tx_decoded_153 ⟨hc1, hs1⟩) hS (fun _ _ h => h) (fun _ h => h) (fun v12 G11 t H locs ht hvm hw' hB _ _ hS => ?_)
      clear hw
      have hw := hw'
      clear hw'
      replace hG := wo_bk ht hB
      replace hcc := hc1
      replace hss := hs1
      exact wo_aret (x := v12) hC rfl hG hS hcc hss hw dq_Tx_decoded_156
    · replace hw := hw.2 h
      refine lv_aload_n hx hb dq_Tx_decoded_34 rfl (lx_at hl 0 rfl) ?_
      refine lv_iload_n hx hb dq_Tx_decoded_35 rfl (lx_at hl 2 rfl) ?_
      obtain ⟨t13, hw⟩ := hw
      obtain ⟨mc14, ms15, hc1, hs1, hw⟩ := hw
      refine va_calli (wo_runV hC lq_Tx_21 (mq_St_charAt hw) hG hS t13 rfl (lx_sz hl) rfl (Nat.zero_le _) (by decide) dq_Tx_decoded_36 ⟨hc1, hs1⟩) hS (fun _ _ h => h) (fun _ h => h) (fun v17 G16 t H locs ht hvm hw' hB _ _ hS => ?_)
      clear hw
      have hw := hw'
      clear hw'
      replace hG := wo_bk ht hB
      replace hcc := hc1
      replace hss := hs1
      refine lx_istore_n (lv' := [(3, 1, .int v17), (0, 1, .ref a1), (1, 1, va_rf x1), (2, 1, .int x2)]) hx hb dq_Tx_decoded_39 rfl hl (by decide) rfl (fun ls hl' => ?_)
      clear hl
      have hl := hl'
      clear hl'
      refine lv_iload_n hx hb dq_Tx_decoded_40 rfl (lx_at hl 0 rfl) ?_
      refine lv_bipush (v := (33 : Int32)) hx hb dq_Tx_decoded_41 rfl ?_
      refine lv_icmp_lt (tgt := 52) hx hb dq_Tx_decoded_43 rfl (fun h => ?_) (fun h => ?_)
      · replace hw := hw.1 h
        exact tq_Tx_decoded_52 hC hw hG hS (lx_sub hl [] rfl) hcc hss
      · replace hw := hw.2 h
        refine lv_iload_n hx hb dq_Tx_decoded_46 rfl (lx_at hl 0 rfl) ?_
        refine lv_bipush (v := (126 : Int32)) hx hb dq_Tx_decoded_47 rfl ?_
        refine lv_icmp_le (tgt := 54) hx hb dq_Tx_decoded_49 rfl (fun h => ?_) (fun h => ?_)
        · replace hw := hw.1 h
          refine lv_iload_n hx hb dq_Tx_decoded_54 rfl (lx_at hl 0 rfl) ?_
          refine lv_bipush (v := (37 : Int32)) hx hb dq_Tx_decoded_55 rfl ?_
          refine lv_icmp_eq (tgt := 69) hx hb dq_Tx_decoded_57 rfl (fun h => ?_) (fun h => ?_)
          · replace hw := hw.1 h
            refine lv_iload_n hx hb dq_Tx_decoded_69 rfl (lx_at hl 3 rfl) ?_
            refine lv_iconst (v := (2 : Int32)) hx hb dq_Tx_decoded_70 rfl ?_
            refine lv_iadd hx hb dq_Tx_decoded_71 ?_
            refine lv_aload_n hx hb dq_Tx_decoded_72 rfl (lx_at hl 1 rfl) ?_
            obtain ⟨t18, hw⟩ := hw
            obtain ⟨mc19, ms20, hc1, hs1, hw⟩ := hw
            refine va_calli (wo_runV hC lq_Tx_15 (mq_St_length hw) hG hS t18 rfl (lx_sz hl) rfl (lx_rm (Nat.le_of_ble_eq_true rfl)) (by decide) dq_Tx_decoded_73 ⟨hc1, hs1⟩) hS (fun _ _ h => h) (fun _ h => h) (fun v22 G21 t H locs ht hvm hw' hB _ _ hS => ?_)
            clear hw
            have hw := hw'
            clear hw'
            replace hG := wo_bk ht hB
            replace hcc := hc1
            replace hss := hs1
            refine lv_icmp_ge (tgt := 92) hx hb dq_Tx_decoded_76 rfl (fun h => ?_) (fun h => ?_)
            · replace hw := hw.1 h
              refine lv_iconst (v := (-1 : Int32)) hx hb dq_Tx_decoded_92 rfl ?_
              exact tq_Tx_decoded_93 hC ih hw hG hS (lx_sub hl [1, 2, 3] rfl) hcc hss
            · replace hw := hw.2 h
              refine lv_aload_n hx hb dq_Tx_decoded_79 rfl (lx_at hl 1 rfl) ?_
              refine lv_iload_n hx hb dq_Tx_decoded_80 rfl (lx_at hl 3 rfl) ?_
              refine lv_iconst (v := (1 : Int32)) hx hb dq_Tx_decoded_81 rfl ?_
              refine lv_iadd hx hb dq_Tx_decoded_82 ?_
              obtain ⟨t23, hw⟩ := hw
              obtain ⟨mc24, ms25, hc1, hs1, hw⟩ := hw
              refine va_calli (wo_runV hC lq_Tx_21 (mq_St_charAt hw) hG hS t23 rfl (lx_sz hl) rfl (Nat.zero_le _) (by decide) dq_Tx_decoded_83 ⟨hc1, hs1⟩) hS (fun _ _ h => h) (fun _ h => h) (fun v27 G26 t H locs ht hvm hw' hB _ _ hS => ?_)
              clear hw
              have hw := hw'
              clear hw'
              replace hG := wo_bk ht hB
              replace hcc := hc1
              replace hss := hs1
              obtain ⟨mc28, ms29, hc1, hs1, hw⟩ := hw
              refine va_calli (wo_runS hC lq_Tx_59 (mq_Tx_hexadecimal hw) hG hS rfl (lx_sz hl) rfl (Nat.zero_le _) (by decide) dq_Tx_decoded_86 ⟨hc1, hs1⟩) hS (fun _ _ h => h) (fun _ h => h) (fun v31 G30 t H locs ht hvm hw' hB _ _ hS => ?_)
              clear hw
              have hw := hw'
              clear hw'
              replace hG := wo_bk ht hB
              replace hcc := hc1
              replace hss := hs1
              refine lv_goto (tgt := 93) hx hb dq_Tx_decoded_89 rfl ?_
              exact tq_Tx_decoded_93 hC ih hw hG hS (lx_sub hl [1, 2, 3] rfl) hcc hss
          · replace hw := hw.2 h
            refine lx_aloadR_n hx hb dq_Tx_decoded_60 rfl (lx_at hl 2 rfl) ?_
            refine lv_iload_n hx hb dq_Tx_decoded_61 rfl (lx_at hl 0 rfl) ?_
            obtain ⟨a32, rfl, hw⟩ := hw
            obtain ⟨t33, hw⟩ := hw
            obtain ⟨mc34, ms35, hc1, hs1, hw⟩ := hw
            refine va_callq (wo_runV hC lq_Tx_55 (mq_SB_append_C hw) hG hS t33 rfl (lx_sz hl) rfl (Nat.zero_le _) (by decide) dq_Tx_decoded_62 ⟨hc1, hs1⟩) hS (fun _ _ h => h) (fun _ h => h) (fun v37 G36 t H locs ht hvm hw' hB _ _ hS => ?_)
            clear hw
            have hw := hw'
            clear hw'
            replace hG := wo_bk ht hB
            replace hcc := hc1
            replace hss := hs1
            refine lv_pop hx hb dq_Tx_decoded_65 (lx_cR _) ?_
            refine lv_goto (tgt := 146) hx hb dq_Tx_decoded_66 rfl ?_
            exact tq_Tx_decoded_146 hC ih hw hG hS (lx_sub hl [1, 2, 3] rfl) hcc hss
        · replace hw := hw.2 h
          exact tq_Tx_decoded_52 hC hw hG hS (lx_sub hl [] rfl) hcc hss
set_option maxRecDepth 100000 in
set_option maxHeartbeats 4000000 in
theorem tq_Tx_decoded_0 {p : Program} {l : Launch} {e : Env} {R : Room} {s₀ : State} {m : MethodId} {args : Array Value} {below : List Frame} {meth : Method} {cd : Code} {E : wo_E} {mc ms : Nat} {Post : Option Nat → wo_W → Prop} (hC : wo_Cx E "EdgeCache$Text" prog_12_method_7_code 6 7 163 ((Option.some (Jvm.ClassFile.FieldType.object "java/lang/String"))) "decoded" mc ms p R s₀ m args meth cd) : ∀ {G : wo_W} {c s : Nat} {x0 : Option Nat} {x1 : Option Nat}, pq_Tx_decoded_0 E mc ms Post G c s x0 x1 → ∀ {H : Heap} {locs : List Loc} {ls : Array Slot}, wo_Se E G H → va_S (en_A E) s₀.heap H locs → lx_has ls 6 [(0, 1, va_rf x0), (1, 1, va_rf x1)] → c ≤ mc → s ≤ ms → W p l e R s₀ m args below meth cd H locs c s (MQ below (va_Qq Post (wo_B E) (en_A E)) args s₀ mc ms (en_A E)) (F0 m 0 ls []) := by
  intro G c s x0 x1 hw H locs ls hG hS hl hcc hss
  dsimp only [pq_Tx_decoded_0] at hw
  have hx := hC.1
  have hb := hC.2.1
  refine lx_aloadR_n hx hb dq_Tx_decoded_0 rfl (lx_at hl 0 rfl) ?_
  obtain ⟨a1, rfl, hw⟩ := hw
  obtain ⟨t2, hw⟩ := hw
  obtain ⟨mc3, ms4, hc1, hs1, hw⟩ := hw
  refine va_calli (wo_runV hC lq_Tx_45 (mq_St_isEmpty hw) hG hS t2 rfl (lx_sz hl) rfl (Nat.zero_le _) (by decide) dq_Tx_decoded_1 ⟨hc1, hs1⟩) hS (fun _ _ h => h) (fun _ h => h) (fun v6 G5 t H locs ht hvm hw' hB _ _ hS => ?_)
  clear hw
  have hw := hw'
  clear hw'
  replace hG := wo_bk ht hB
  replace hcc := hc1
  replace hss := hs1
  refine lv_if_ne (tgt := 17) hx hb dq_Tx_decoded_4 rfl (fun h => ?_) (fun h => ?_)
  · replace hw := hw.1 h
    exact tq_Tx_decoded_17 hC hw hG hS (lx_sub hl [] rfl) hcc hss
  · replace hw := hw.2 h
    refine lv_aload_n hx hb dq_Tx_decoded_7 rfl (lx_at hl 0 rfl) ?_
    refine lv_iconst (v := (0 : Int32)) hx hb dq_Tx_decoded_8 rfl ?_
    obtain ⟨t7, hw⟩ := hw
    obtain ⟨mc8, ms9, hc1, hs1, hw⟩ := hw
    refine va_calli (wo_runV hC lq_Tx_21 (mq_St_charAt hw) hG hS t7 rfl (lx_sz hl) rfl (Nat.zero_le _) (by decide) dq_Tx_decoded_9 ⟨hc1, hs1⟩) hS (fun _ _ h => h) (fun _ h => h) (fun v11 G10 t H locs ht hvm hw' hB _ _ hS => ?_)
    clear hw
    have hw := hw'
    clear hw'
    replace hG := wo_bk ht hB
    replace hcc := hc1
    replace hss := hs1
    refine lv_bipush (v := (47 : Int32)) hx hb dq_Tx_decoded_12 rfl ?_
    refine lv_icmp_eq (tgt := 19) hx hb dq_Tx_decoded_14 rfl (fun h => ?_) (fun h => ?_)
    · replace hw := hw.1 h
      refine lx_aloadR_n hx hb dq_Tx_decoded_19 rfl (lx_at hl 1 rfl) ?_
      refine lv_iconst (v := (0 : Int32)) hx hb dq_Tx_decoded_20 rfl ?_
      obtain ⟨a12, rfl, hw⟩ := hw
      obtain ⟨t13, hw⟩ := hw
      obtain ⟨mc14, ms15, hc1, hs1, hw⟩ := hw
      refine va_callv (wo_runV hC lq_Tx_49 (mq_SB_setLength hw) hG hS t13 rfl (lx_sz hl) rfl (Nat.zero_le _) (by decide) dq_Tx_decoded_21 ⟨hc1, hs1⟩) hS (fun _ _ h => h) (fun _ h => h) (fun G16 t H locs ht hvm hw' hB _ _ hS => ?_)
      clear hw
      have hw := hw'
      clear hw'
      replace hG := wo_bk ht hB
      replace hcc := hc1
      replace hss := hs1
      refine lv_iconst (v := (0 : Int32)) hx hb dq_Tx_decoded_24 rfl ?_
      refine lx_istore_n (lv' := [(2, 1, .int (0 : Int32)), (0, 1, .ref a1), (1, 1, .ref a12)]) hx hb dq_Tx_decoded_25 rfl hl (by decide) rfl (fun ls hl' => ?_)
      clear hl
      have hl := hl'
      clear hl'
      obtain ⟨n1, hw⟩ := hw
      exact tq_Tx_decoded_26 hC n1 hw hG hS (lx_sub hl [1, 2, 0] rfl) hcc hss
    · replace hw := hw.2 h
      exact tq_Tx_decoded_17 hC hw hG hS (lx_sub hl [] rfl) hcc hss
set_option maxHeartbeats 4000000 in
theorem mq_Tx_decoded {l : Launch} {E : wo_E} {mc ms : Nat} {Post : Option Nat → wo_W → Prop} {G : wo_W} {x0 : Option Nat} {x1 : Option Nat} (hw : pq_Tx_decoded E mc ms Post G x0 x1) : Met l yq_Tx_decoded (Cond.code yq_Tx_decoded prog_12_method_7_code 6 ((Option.some (Jvm.ClassFile.FieldType.object "java/lang/String"))) :: vw_WG) { frames := 7, cells := mc, slots := ms, locals := 163 } (va_Pc [va_rf x0, va_rf x1] (wo_Ok E G)) (va_Qq Post (wo_B E) (en_A E)) mc ms (en_A E) := by
  unfold pq_Tx_decoded at hw
  exact wo_met [(1, va_rf x0), (1, va_rf x1)] rfl (by decide) (fun q hq => by simp only [List.mem_cons, List.not_mem_nil, or_false] at hq; rcases hq with rfl | rfl <;> first | rfl | exact lx_cR _) (Nat.le_of_ble_eq_true rfl) (fun p e R s m args below meth cd ls hC hG hS hl => tq_Tx_decoded_0 hC hw hG hS (lx_sub hl [0, 1] rfl) (Nat.zero_le _) (Nat.zero_le _))

theorem dq_AB_charAt_0 : decode prog_16_method_14_code 0 = .ok (.aload_n 0, 1) := by decide +kernel
theorem dq_AB_charAt_1 : decode prog_16_method_14_code 1 = .ok (.getfield 22, 3) := by decide +kernel
theorem dq_AB_charAt_4 : decode prog_16_method_14_code 4 = .ok (.istore_n 2, 1) := by decide +kernel
theorem dq_AB_charAt_5 : decode prog_16_method_14_code 5 = .ok (.aload_n 0, 1) := by decide +kernel
theorem dq_AB_charAt_6 : decode prog_16_method_14_code 6 = .ok (.getfield 15, 3) := by decide +kernel
theorem dq_AB_charAt_9 : decode prog_16_method_14_code 9 = .ok (.astore_n 3, 1) := by decide +kernel
theorem dq_AB_charAt_10 : decode prog_16_method_14_code 10 = .ok (.aload_n 0, 1) := by decide +kernel
theorem dq_AB_charAt_11 : decode prog_16_method_14_code 11 = .ok (.getfield 79, 3) := by decide +kernel
theorem dq_AB_charAt_14 : decode prog_16_method_14_code 14 = .ok (.aload_n 3, 1) := by decide +kernel
theorem dq_AB_charAt_15 : decode prog_16_method_14_code 15 = .ok (.arraylength, 1) := by decide +kernel
theorem dq_AB_charAt_16 : decode prog_16_method_14_code 16 = .ok (.iload_n 2, 1) := by decide +kernel
theorem dq_AB_charAt_17 : decode prog_16_method_14_code 17 = .ok (.ishr, 1) := by decide +kernel
theorem dq_AB_charAt_18 : decode prog_16_method_14_code 18 = .ok (.invokestatic 138, 3) := by decide +kernel
theorem dq_AB_charAt_21 : decode prog_16_method_14_code 21 = .ok (.istore 4, 2) := by decide +kernel
theorem dq_AB_charAt_23 : decode prog_16_method_14_code 23 = .ok (.iload_n 1, 1) := by decide +kernel
theorem dq_AB_charAt_24 : decode prog_16_method_14_code 24 = .ok (.iload 4, 2) := by decide +kernel
theorem dq_AB_charAt_26 : decode prog_16_method_14_code 26 = .ok (.invokestatic 144, 3) := by decide +kernel
theorem dq_AB_charAt_29 : decode prog_16_method_14_code 29 = .ok (.iload_n 2, 1) := by decide +kernel
theorem dq_AB_charAt_30 : decode prog_16_method_14_code 30 = .ok (.ifCond .ne 12, 3) := by decide +kernel
theorem dq_AB_charAt_33 : decode prog_16_method_14_code 33 = .ok (.aload_n 3, 1) := by decide +kernel
theorem dq_AB_charAt_34 : decode prog_16_method_14_code 34 = .ok (.iload_n 1, 1) := by decide +kernel
theorem dq_AB_charAt_35 : decode prog_16_method_14_code 35 = .ok (.baload, 1) := by decide +kernel
theorem dq_AB_charAt_36 : decode prog_16_method_14_code 36 = .ok (.sipush 255, 3) := by decide +kernel
theorem dq_AB_charAt_39 : decode prog_16_method_14_code 39 = .ok (.iand, 1) := by decide +kernel
theorem dq_AB_charAt_40 : decode prog_16_method_14_code 40 = .ok (.i2c, 1) := by decide +kernel
theorem dq_AB_charAt_41 : decode prog_16_method_14_code 41 = .ok (.ireturn, 1) := by decide +kernel
set_option maxRecDepth 100000 in
def pq_AB_charAt_0 (E : wo_E) (mc ms : Nat) (Post : Int32 → wo_W → Prop) (G : wo_W) (c s : Nat) (x0 : Nat) (x1 : Int32) : Prop := wo_ty G x0 = 5 ∧ ∀ r2 : Option Nat, r2 = wo_gr G 256 x0 → ∃ a4 : Nat, r2 = some a4 ∧ wo_ty G a4 = 65 ∧ ∃ mc6 ms7 : Nat, (c + mc6) ≤ mc ∧ (s + ms7) ≤ ms ∧ pq_St_checkIndex E mc6 ms7 (fun G8 => 
  ((¬ (wo_gi G 257 x0) = (0 : Int32) → False) ∧
    ((wo_gi G 257 x0) = (0 : Int32) → wo_ty G8 a4 = 65 ∧ vp_in x1 (wo_len G8 a4) ∧ wo_okI .char (wo_i2c ((wo_ei G8 a4 x1.toNatClampNeg) &&& (255 : Int32))) ∧ Post (wo_i2c ((wo_ei G8 a4 x1.toNatClampNeg) &&& (255 : Int32))) G8))) G x1 (wo_min (wo_gi G 259 x0) ((nI (wo_len G a4)) >>> ((wo_gi G 257 x0) &&& 31)))
def pq_AB_charAt (E : wo_E) (mc ms : Nat) (Post : Int32 → wo_W → Prop) (G : wo_W) (x0 : Nat) (x1 : Int32) : Prop := pq_AB_charAt_0 E mc ms Post G 0 0 x0 x1
set_option maxRecDepth 100000 in
set_option maxHeartbeats 4000000 in
theorem tq_AB_charAt_0 {p : Program} {l : Launch} {e : Env} {R : Room} {s₀ : State} {m : MethodId} {args : Array Value} {below : List Frame} {meth : Method} {cd : Code} {E : wo_E} {mc ms : Nat} {Post : Int32 → wo_W → Prop} (hC : wo_Cx E "java/lang/AbstractStringBuilder" prog_16_method_14_code 5 2 43 ((Option.some Jvm.ClassFile.FieldType.char)) "charAt" mc ms p R s₀ m args meth cd) : ∀ {G : wo_W} {c s : Nat} {x0 : Nat} {x1 : Int32}, pq_AB_charAt_0 E mc ms Post G c s x0 x1 → ∀ {H : Heap} {locs : List Loc} {ls : Array Slot}, wo_Se E G H → va_S (en_A E) s₀.heap H locs → lx_has ls 5 [(0, 1, .ref x0), (1, 1, .int x1)] → c ≤ mc → s ≤ ms → W p l e R s₀ m args below meth cd H locs c s (MQ below (va_Qi Post (wo_B E) (en_A E)) args s₀ mc ms (en_A E)) (F0 m 0 ls []) := by
  intro G c s x0 x1 hw H locs ls hG hS hl hcc hss
  dsimp only [pq_AB_charAt_0] at hw
  have hx := hC.1
  have hb := hC.2.1
  refine lv_aload_n hx hb dq_AB_charAt_0 rfl (lx_at hl 0 rfl) ?_
  obtain ⟨t1, hw⟩ := hw
  refine wo_getI hC fq_AB_22 rfl hG t1 dq_AB_charAt_1 ?_
  refine lx_istore_n (lv' := [(2, 1, .int (wo_gi G 257 x0)), (0, 1, .ref x0), (1, 1, .int x1)]) hx hb dq_AB_charAt_4 rfl hl (by decide) rfl (fun ls hl' => ?_)
  clear hl
  have hl := hl'
  clear hl'
  refine lv_aload_n hx hb dq_AB_charAt_5 rfl (lx_at hl 1 rfl) ?_
  refine wo_getR hC fq_AB_15 rfl hG t1 dq_AB_charAt_6 (fun r2 e3 => ?_)
  replace hw := hw r2 e3
  refine lx_astoreR_n (lv' := [(3, 1, va_rf r2), (2, 1, .int (wo_gi G 257 x0)), (0, 1, .ref x0), (1, 1, .int x1)]) hx hb dq_AB_charAt_9 rfl hl (by decide) rfl (fun ls hl' => ?_)
  clear hl
  have hl := hl'
  clear hl'
  refine lv_aload_n hx hb dq_AB_charAt_10 rfl (lx_at hl 2 rfl) ?_
  refine wo_getI hC fq_AB_79 rfl hG t1 dq_AB_charAt_11 ?_
  refine lx_aloadR_n hx hb dq_AB_charAt_14 rfl (lx_at hl 0 rfl) ?_
  obtain ⟨a4, rfl, hw⟩ := hw
  obtain ⟨t5, hw⟩ := hw
  refine wo_alen (j := 1) hC rfl hG t5 dq_AB_charAt_15 ?_
  refine lv_iload_n hx hb dq_AB_charAt_16 rfl (lx_at hl 1 rfl) ?_
  refine lv_ishr hx hb dq_AB_charAt_17 ?_
  refine wo_mmin hC lq_AB_138 (lx_sz hl) hcc hss (by decide) (lx_rk (Nat.le_of_ble_eq_true rfl)) dq_AB_charAt_18 ?_
  refine lx_istore (lv' := [(4, 1, .int (wo_min (wo_gi G 259 x0) ((nI (wo_len G a4)) >>> ((wo_gi G 257 x0) &&& 31)))), (3, 1, .ref a4), (2, 1, .int (wo_gi G 257 x0)), (0, 1, .ref x0), (1, 1, .int x1)]) hx hb dq_AB_charAt_21 hl (by decide) rfl (fun ls hl' => ?_)
  clear hl
  have hl := hl'
  clear hl'
  refine lv_iload_n hx hb dq_AB_charAt_23 rfl (lx_at hl 4 rfl) ?_
  refine lv_iload hx hb dq_AB_charAt_24 (lx_at hl 0 rfl) ?_
  obtain ⟨mc6, ms7, hc1, hs1, hw⟩ := hw
  refine va_callv (wo_runS hC lq_AB_144 (mq_St_checkIndex hw) hG hS rfl (lx_sz hl) rfl (Nat.zero_le _) (by decide) dq_AB_charAt_26 ⟨hc1, hs1⟩) hS (fun _ _ h => h) (fun _ h => h) (fun G8 t H locs ht hvm hw' hB _ _ hS => ?_)
  clear hw
  have hw := hw'
  clear hw'
  replace hG := wo_bk ht hB
  replace hcc := hc1
  replace hss := hs1
  refine lv_iload_n hx hb dq_AB_charAt_29 rfl (lx_at hl 2 rfl) ?_
  refine lv_if_ne (tgt := 42) hx hb dq_AB_charAt_30 rfl (fun h => ?_) (fun h => ?_)
  · replace hw := hw.1 h
    exact hw.elim
  · replace hw := hw.2 h
    refine lv_aload_n hx hb dq_AB_charAt_33 rfl (lx_at hl 1 rfl) ?_
    refine lv_iload_n hx hb dq_AB_charAt_34 rfl (lx_at hl 4 rfl) ?_
    obtain ⟨t9, hw⟩ := hw
    obtain ⟨h10, hw⟩ := hw
    refine wo_bald (j := 1) hC rfl hG t9 h10 dq_AB_charAt_35 ?_
    refine lv_sipush (v := (255 : Int32)) hx hb dq_AB_charAt_36 rfl ?_
    refine lv_iand hx hb dq_AB_charAt_39 ?_
    refine lv_i2c (v := (wo_i2c ((wo_ei G8 a4 x1.toNatClampNeg) &&& (255 : Int32)))) hx hb dq_AB_charAt_40 rfl ?_
    obtain ⟨h11, hw⟩ := hw
    exact wo_zret hC h11.1 hG hS hcc hss hw dq_AB_charAt_41
set_option maxHeartbeats 4000000 in
theorem mq_AB_charAt {l : Launch} {E : wo_E} {mc ms : Nat} {Post : Int32 → wo_W → Prop} {G : wo_W} {x0 : Nat} {x1 : Int32} (hw : pq_AB_charAt E mc ms Post G x0 x1) : Met l yq_AB_charAt (Cond.code yq_AB_charAt prog_16_method_14_code 5 ((Option.some Jvm.ClassFile.FieldType.char)) :: vw_WG) { frames := 2, cells := mc, slots := ms, locals := 43 } (va_Pc [.ref x0, .int x1] (wo_Ok E G)) (va_Qi Post (wo_B E) (en_A E)) mc ms (en_A E) := by
  unfold pq_AB_charAt at hw
  exact wo_met [(1, .ref x0), (1, .int x1)] rfl (by decide) (fun q hq => by simp only [List.mem_cons, List.not_mem_nil, or_false] at hq; rcases hq with rfl | rfl <;> first | rfl | exact lx_cR _) (Nat.le_of_ble_eq_true rfl) (fun p e R s m args below meth cd ls hC hG hS hl => tq_AB_charAt_0 hC hw hG hS (lx_sub hl [0, 1] rfl) (Nat.zero_le _) (Nat.zero_le _))

theorem dq_SB_charAt_0 : decode prog_23_method_88_code 0 = .ok (.aload_n 0, 1) := by decide +kernel
theorem dq_SB_charAt_1 : decode prog_23_method_88_code 1 = .ok (.iload_n 1, 1) := by decide +kernel
theorem dq_SB_charAt_2 : decode prog_23_method_88_code 2 = .ok (.invokespecial 329, 3) := by decide +kernel
theorem dq_SB_charAt_5 : decode prog_23_method_88_code 5 = .ok (.ireturn, 1) := by decide +kernel
set_option maxRecDepth 100000 in
def pq_SB_charAt_0 (E : wo_E) (mc ms : Nat) (Post : Int32 → wo_W → Prop) (G : wo_W) (c s : Nat) (x0 : Nat) (x1 : Int32) : Prop := wo_ty G x0 = 5 ∧ ∃ mc2 ms3 : Nat, (c + mc2) ≤ mc ∧ (s + ms3) ≤ ms ∧ pq_AB_charAt E mc2 ms3 (fun v5 G4 => 
  wo_okI .char v5 ∧ Post v5 G4) G x0 x1
def pq_SB_charAt (E : wo_E) (mc ms : Nat) (Post : Int32 → wo_W → Prop) (G : wo_W) (x0 : Nat) (x1 : Int32) : Prop := pq_SB_charAt_0 E mc ms Post G 0 0 x0 x1
set_option maxRecDepth 100000 in
set_option maxHeartbeats 4000000 in
theorem tq_SB_charAt_0 {p : Program} {l : Launch} {e : Env} {R : Room} {s₀ : State} {m : MethodId} {args : Array Value} {below : List Frame} {meth : Method} {cd : Code} {E : wo_E} {mc ms : Nat} {Post : Int32 → wo_W → Prop} (hC : wo_Cx E "java/lang/StringBuilder" prog_23_method_88_code 2 3 67 ((Option.some Jvm.ClassFile.FieldType.char)) "charAt" mc ms p R s₀ m args meth cd) : ∀ {G : wo_W} {c s : Nat} {x0 : Nat} {x1 : Int32}, pq_SB_charAt_0 E mc ms Post G c s x0 x1 → ∀ {H : Heap} {locs : List Loc} {ls : Array Slot}, wo_Se E G H → va_S (en_A E) s₀.heap H locs → lx_has ls 2 [(0, 1, .ref x0), (1, 1, .int x1)] → c ≤ mc → s ≤ ms → W p l e R s₀ m args below meth cd H locs c s (MQ below (va_Qi Post (wo_B E) (en_A E)) args s₀ mc ms (en_A E)) (F0 m 0 ls []) := by
  intro G c s x0 x1 hw H locs ls hG hS hl hcc hss
  dsimp only [pq_SB_charAt_0] at hw
  have hx := hC.1
  have hb := hC.2.1
  refine lv_aload_n hx hb dq_SB_charAt_0 rfl (lx_at hl 0 rfl) ?_
  refine lv_iload_n hx hb dq_SB_charAt_1 rfl (lx_at hl 1 rfl) ?_
  obtain ⟨t1, hw⟩ := hw
  obtain ⟨mc2, ms3, hc1, hs1, hw⟩ := hw
  refine va_calli (wo_runP hC lq_SB_329 (mq_AB_charAt hw) hG hS t1 rfl (lx_sz hl) rfl (Nat.zero_le _) (by decide) dq_SB_charAt_2 ⟨hc1, hs1⟩) hS (fun _ _ h => h) (fun _ h => h) (fun v5 G4 t H locs ht hvm hw' hB _ _ hS => ?_)
  clear hw
  have hw := hw'
  clear hw'
  replace hG := wo_bk ht hB
  replace hcc := hc1
  replace hss := hs1
  obtain ⟨h6, hw⟩ := hw
  exact wo_zret hC h6.1 hG hS hcc hss hw dq_SB_charAt_5
set_option maxHeartbeats 4000000 in
theorem mq_SB_charAt {l : Launch} {E : wo_E} {mc ms : Nat} {Post : Int32 → wo_W → Prop} {G : wo_W} {x0 : Nat} {x1 : Int32} (hw : pq_SB_charAt E mc ms Post G x0 x1) : Met l yq_SB_charAt (Cond.code yq_SB_charAt prog_23_method_88_code 2 ((Option.some Jvm.ClassFile.FieldType.char)) :: vw_WG) { frames := 3, cells := mc, slots := ms, locals := 67 } (va_Pc [.ref x0, .int x1] (wo_Ok E G)) (va_Qi Post (wo_B E) (en_A E)) mc ms (en_A E) := by
  unfold pq_SB_charAt at hw
  exact wo_met [(1, .ref x0), (1, .int x1)] rfl (by decide) (fun q hq => by simp only [List.mem_cons, List.not_mem_nil, or_false] at hq; rcases hq with rfl | rfl <;> first | rfl | exact lx_cR _) (Nat.le_of_ble_eq_true rfl) (fun p e R s m args below meth cd ls hC hG hS hl => tq_SB_charAt_0 hC hw hG hS (lx_sub hl [0, 1] rfl) (Nat.zero_le _) (Nat.zero_le _))

theorem dq_Tx_lastSlash_0 : decode prog_12_method_11_code 0 = .ok (.aload_n 0, 1) := by decide +kernel
theorem dq_Tx_lastSlash_1 : decode prog_12_method_11_code 1 = .ok (.invokevirtual 99, 3) := by decide +kernel
theorem dq_Tx_lastSlash_4 : decode prog_12_method_11_code 4 = .ok (.iconst 1, 1) := by decide +kernel
theorem dq_Tx_lastSlash_5 : decode prog_12_method_11_code 5 = .ok (.isub, 1) := by decide +kernel
theorem dq_Tx_lastSlash_6 : decode prog_12_method_11_code 6 = .ok (.istore_n 1, 1) := by decide +kernel
theorem dq_Tx_lastSlash_7 : decode prog_12_method_11_code 7 = .ok (.iload_n 1, 1) := by decide +kernel
theorem dq_Tx_lastSlash_8 : decode prog_12_method_11_code 8 = .ok (.ifCond .lt 21, 3) := by decide +kernel
theorem dq_Tx_lastSlash_11 : decode prog_12_method_11_code 11 = .ok (.aload_n 0, 1) := by decide +kernel
theorem dq_Tx_lastSlash_12 : decode prog_12_method_11_code 12 = .ok (.iload_n 1, 1) := by decide +kernel
theorem dq_Tx_lastSlash_13 : decode prog_12_method_11_code 13 = .ok (.invokevirtual 100, 3) := by decide +kernel
theorem dq_Tx_lastSlash_16 : decode prog_12_method_11_code 16 = .ok (.bipush 47, 2) := by decide +kernel
theorem dq_Tx_lastSlash_18 : decode prog_12_method_11_code 18 = .ok (.if_icmp .ne 5, 3) := by decide +kernel
theorem dq_Tx_lastSlash_21 : decode prog_12_method_11_code 21 = .ok (.iload_n 1, 1) := by decide +kernel
theorem dq_Tx_lastSlash_22 : decode prog_12_method_11_code 22 = .ok (.ireturn, 1) := by decide +kernel
theorem dq_Tx_lastSlash_23 : decode prog_12_method_11_code 23 = .ok (.iinc 1 (-1), 3) := by decide +kernel
theorem dq_Tx_lastSlash_26 : decode prog_12_method_11_code 26 = .ok (.goto (-19), 3) := by decide +kernel
theorem dq_Tx_lastSlash_29 : decode prog_12_method_11_code 29 = .ok (.iconst 0, 1) := by decide +kernel
theorem dq_Tx_lastSlash_30 : decode prog_12_method_11_code 30 = .ok (.ireturn, 1) := by decide +kernel
set_option maxRecDepth 100000 in
def pq_Tx_lastSlash_7 (E : wo_E) (mc ms : Nat) (Post : Int32 → wo_W → Prop) : Nat → wo_W → Nat → Nat → Option Nat → Int32 → Prop
  | 0 => fun _ _ _ _ _ => False
  | n + 1 => fun G c s x0 x1 => ((x1 < (0 : Int32) → Post (0 : Int32) G) ∧
  (¬ x1 < (0 : Int32) → ∃ a1 : Nat, x0 = some a1 ∧ wo_ty G a1 = 5 ∧ ∃ mc3 ms4 : Nat, (c + mc3) ≤ mc ∧ (s + ms4) ≤ ms ∧ pq_SB_charAt E mc3 ms4 (fun v6 G5 => 
    ((¬ v6 = (47 : Int32) → pq_Tx_lastSlash_7 E mc ms Post n G5 (c + mc3) (s + ms4) (some a1) (x1 + (-1 : Int32))) ∧
      (v6 = (47 : Int32) → Post x1 G5))) G a1 x1))
set_option maxRecDepth 100000 in
def pq_Tx_lastSlash_0 (E : wo_E) (mc ms : Nat) (Post : Int32 → wo_W → Prop) (G : wo_W) (c s : Nat) (x0 : Option Nat) : Prop := ∃ a1 : Nat, x0 = some a1 ∧ wo_ty G a1 = 5 ∧ ∃ mc3 ms4 : Nat, (c + mc3) ≤ mc ∧ (s + ms4) ≤ ms ∧ pq_SB_length E mc3 ms4 (fun v6 G5 => 
  ∃ n1 : Nat, pq_Tx_lastSlash_7 E mc ms Post n1 G5 (c + mc3) (s + ms4) (some a1) (v6 - (1 : Int32))) G a1
def pq_Tx_lastSlash (E : wo_E) (mc ms : Nat) (Post : Int32 → wo_W → Prop) (G : wo_W) (x0 : Option Nat) : Prop := pq_Tx_lastSlash_0 E mc ms Post G 0 0 x0
set_option maxRecDepth 100000 in
set_option maxHeartbeats 4000000 in
theorem tq_Tx_lastSlash_7 {p : Program} {l : Launch} {e : Env} {R : Room} {s₀ : State} {m : MethodId} {args : Array Value} {below : List Frame} {meth : Method} {cd : Code} {E : wo_E} {mc ms : Nat} {Post : Int32 → wo_W → Prop} (hC : wo_Cx E "EdgeCache$Text" prog_12_method_11_code 2 4 88 ((Option.some Jvm.ClassFile.FieldType.int)) "lastSlash" mc ms p R s₀ m args meth cd) : ∀ n : Nat, ∀ {G : wo_W} {c s : Nat} {x0 : Option Nat} {x1 : Int32}, pq_Tx_lastSlash_7 E mc ms Post n G c s x0 x1 → ∀ {H : Heap} {locs : List Loc} {ls : Array Slot}, wo_Se E G H → va_S (en_A E) s₀.heap H locs → lx_has ls 2 [(0, 1, va_rf x0), (1, 1, .int x1)] → c ≤ mc → s ≤ ms → W p l e R s₀ m args below meth cd H locs c s (MQ below (va_Qi Post (wo_B E) (en_A E)) args s₀ mc ms (en_A E)) (F0 m 7 ls []) := by
  intro n
  induction n with
  | zero => intro G c s x0 x1 hw; exact hw.elim
  | succ n ih =>
    intro G c s x0 x1 hw H locs ls hG hS hl hcc hss
    dsimp only [pq_Tx_lastSlash_7] at hw
    have hx := hC.1
    have hb := hC.2.1
    refine lv_iload_n hx hb dq_Tx_lastSlash_7 rfl (lx_at hl 1 rfl) ?_
    refine lv_if_lt (tgt := 29) hx hb dq_Tx_lastSlash_8 rfl (fun h => ?_) (fun h => ?_)
    · replace hw := hw.1 h
      refine lv_iconst (v := (0 : Int32)) hx hb dq_Tx_lastSlash_29 rfl ?_
      exact wo_iret hC hG hS hcc hss hw dq_Tx_lastSlash_30
    · replace hw := hw.2 h
      refine lx_aloadR_n hx hb dq_Tx_lastSlash_11 rfl (lx_at hl 0 rfl) ?_
      refine lv_iload_n hx hb dq_Tx_lastSlash_12 rfl (lx_at hl 1 rfl) ?_
      obtain ⟨a1, rfl, hw⟩ := hw
      obtain ⟨t2, hw⟩ := hw
      obtain ⟨mc3, ms4, hc1, hs1, hw⟩ := hw
      refine va_calli (wo_runV hC lq_Tx_100 (mq_SB_charAt hw) hG hS t2 rfl (lx_sz hl) rfl (Nat.zero_le _) (by decide) dq_Tx_lastSlash_13 ⟨hc1, hs1⟩) hS (fun _ _ h => h) (fun _ h => h) (fun v6 G5 t H locs ht hvm hw' hB _ _ hS => ?_)
      clear hw
      have hw := hw'
      clear hw'
      replace hG := wo_bk ht hB
      replace hcc := hc1
      replace hss := hs1
      refine lv_bipush (v := (47 : Int32)) hx hb dq_Tx_lastSlash_16 rfl ?_
      refine lv_icmp_ne (tgt := 23) hx hb dq_Tx_lastSlash_18 rfl (fun h => ?_) (fun h => ?_)
      · replace hw := hw.1 h
        refine lx_iinc (k := 1) (v := (x1 + (-1 : Int32))) (lv' := [(1, 1, .int (x1 + (-1 : Int32))), (0, 1, .ref a1)]) hx hb dq_Tx_lastSlash_23 hl rfl rfl (by decide) rfl (fun ls hl' => ?_)
        clear hl
        have hl := hl'
        clear hl'
        refine lv_goto (tgt := 7) hx hb dq_Tx_lastSlash_26 rfl ?_
        exact ih hw hG hS (lx_sub hl [1, 0] rfl) hcc hss
      · replace hw := hw.2 h
        refine lv_iload_n hx hb dq_Tx_lastSlash_21 rfl (lx_at hl 1 rfl) ?_
        exact wo_iret hC hG hS hcc hss hw dq_Tx_lastSlash_22
set_option maxRecDepth 100000 in
set_option maxHeartbeats 4000000 in
theorem tq_Tx_lastSlash_0 {p : Program} {l : Launch} {e : Env} {R : Room} {s₀ : State} {m : MethodId} {args : Array Value} {below : List Frame} {meth : Method} {cd : Code} {E : wo_E} {mc ms : Nat} {Post : Int32 → wo_W → Prop} (hC : wo_Cx E "EdgeCache$Text" prog_12_method_11_code 2 4 88 ((Option.some Jvm.ClassFile.FieldType.int)) "lastSlash" mc ms p R s₀ m args meth cd) : ∀ {G : wo_W} {c s : Nat} {x0 : Option Nat}, pq_Tx_lastSlash_0 E mc ms Post G c s x0 → ∀ {H : Heap} {locs : List Loc} {ls : Array Slot}, wo_Se E G H → va_S (en_A E) s₀.heap H locs → lx_has ls 2 [(0, 1, va_rf x0)] → c ≤ mc → s ≤ ms → W p l e R s₀ m args below meth cd H locs c s (MQ below (va_Qi Post (wo_B E) (en_A E)) args s₀ mc ms (en_A E)) (F0 m 0 ls []) := by
  intro G c s x0 hw H locs ls hG hS hl hcc hss
  dsimp only [pq_Tx_lastSlash_0] at hw
  have hx := hC.1
  have hb := hC.2.1
  refine lx_aloadR_n hx hb dq_Tx_lastSlash_0 rfl (lx_at hl 0 rfl) ?_
  obtain ⟨a1, rfl, hw⟩ := hw
  obtain ⟨t2, hw⟩ := hw
  obtain ⟨mc3, ms4, hc1, hs1, hw⟩ := hw
  refine va_calli (wo_runV hC lq_Tx_99 (mq_SB_length hw) hG hS t2 rfl (lx_sz hl) rfl (Nat.zero_le _) (by decide) dq_Tx_lastSlash_1 ⟨hc1, hs1⟩) hS (fun _ _ h => h) (fun _ h => h) (fun v6 G5 t H locs ht hvm hw' hB _ _ hS => ?_)
  clear hw
  have hw := hw'
  clear hw'
  replace hG := wo_bk ht hB
  replace hcc := hc1
  replace hss := hs1
  refine lv_iconst (v := (1 : Int32)) hx hb dq_Tx_lastSlash_4 rfl ?_
  refine lv_isub hx hb dq_Tx_lastSlash_5 ?_
  refine lx_istore_n (lv' := [(1, 1, .int (v6 - (1 : Int32))), (0, 1, .ref a1)]) hx hb dq_Tx_lastSlash_6 rfl hl (by decide) rfl (fun ls hl' => ?_)
  clear hl
  have hl := hl'
  clear hl'
  obtain ⟨n1, hw⟩ := hw
  exact tq_Tx_lastSlash_7 hC n1 hw hG hS (lx_sub hl [1, 0] rfl) hcc hss
set_option maxHeartbeats 4000000 in
theorem mq_Tx_lastSlash {l : Launch} {E : wo_E} {mc ms : Nat} {Post : Int32 → wo_W → Prop} {G : wo_W} {x0 : Option Nat} (hw : pq_Tx_lastSlash E mc ms Post G x0) : Met l yq_Tx_lastSlash (Cond.code yq_Tx_lastSlash prog_12_method_11_code 2 ((Option.some Jvm.ClassFile.FieldType.int)) :: vw_WG) { frames := 4, cells := mc, slots := ms, locals := 88 } (va_Pc [va_rf x0] (wo_Ok E G)) (va_Qi Post (wo_B E) (en_A E)) mc ms (en_A E) := by
  unfold pq_Tx_lastSlash at hw
  exact wo_met [(1, va_rf x0)] rfl (by decide) (fun q hq => by simp only [List.mem_cons, List.not_mem_nil, or_false] at hq; rcases hq with rfl <;> first | rfl | exact lx_cR _) (Nat.le_of_ble_eq_true rfl) (fun p e R s m args below meth cd ls hC hG hS hl => tq_Tx_lastSlash_0 hC hw hG hS (lx_sub hl [0] rfl) (Nat.zero_le _) (Nat.zero_le _))
