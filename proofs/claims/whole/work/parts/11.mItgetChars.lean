theorem dq_It_getChars_0 : decode prog_19_method_12_code 0 = .ok (.iload_n 1, 1) := by decide +kernel
theorem dq_It_getChars_1 : decode prog_19_method_12_code 1 = .ok (.istore 5, 2) := by decide +kernel
theorem dq_It_getChars_3 : decode prog_19_method_12_code 3 = .ok (.iload_n 0, 1) := by decide +kernel
theorem dq_It_getChars_4 : decode prog_19_method_12_code 4 = .ok (.ifCond .ge 7, 3) := by decide +kernel
theorem dq_It_getChars_7 : decode prog_19_method_12_code 7 = .ok (.iconst 1, 1) := by decide +kernel
theorem dq_It_getChars_8 : decode prog_19_method_12_code 8 = .ok (.goto 4, 3) := by decide +kernel
theorem dq_It_getChars_11 : decode prog_19_method_12_code 11 = .ok (.iconst 0, 1) := by decide +kernel
theorem dq_It_getChars_12 : decode prog_19_method_12_code 12 = .ok (.istore 6, 2) := by decide +kernel
theorem dq_It_getChars_14 : decode prog_19_method_12_code 14 = .ok (.iload 6, 2) := by decide +kernel
theorem dq_It_getChars_16 : decode prog_19_method_12_code 16 = .ok (.ifCond .ne 6, 3) := by decide +kernel
theorem dq_It_getChars_19 : decode prog_19_method_12_code 19 = .ok (.iload_n 0, 1) := by decide +kernel
theorem dq_It_getChars_20 : decode prog_19_method_12_code 20 = .ok (.ineg, 1) := by decide +kernel
theorem dq_It_getChars_21 : decode prog_19_method_12_code 21 = .ok (.istore_n 0, 1) := by decide +kernel
theorem dq_It_getChars_22 : decode prog_19_method_12_code 22 = .ok (.iload_n 0, 1) := by decide +kernel
theorem dq_It_getChars_23 : decode prog_19_method_12_code 23 = .ok (.bipush (-100), 2) := by decide +kernel
theorem dq_It_getChars_25 : decode prog_19_method_12_code 25 = .ok (.if_icmp .gt 47, 3) := by decide +kernel
theorem dq_It_getChars_28 : decode prog_19_method_12_code 28 = .ok (.iload_n 0, 1) := by decide +kernel
theorem dq_It_getChars_29 : decode prog_19_method_12_code 29 = .ok (.bipush 100, 2) := by decide +kernel
theorem dq_It_getChars_31 : decode prog_19_method_12_code 31 = .ok (.idiv, 1) := by decide +kernel
theorem dq_It_getChars_32 : decode prog_19_method_12_code 32 = .ok (.istore_n 3, 1) := by decide +kernel
theorem dq_It_getChars_33 : decode prog_19_method_12_code 33 = .ok (.iload_n 3, 1) := by decide +kernel
theorem dq_It_getChars_34 : decode prog_19_method_12_code 34 = .ok (.bipush 100, 2) := by decide +kernel
theorem dq_It_getChars_36 : decode prog_19_method_12_code 36 = .ok (.imul, 1) := by decide +kernel
theorem dq_It_getChars_37 : decode prog_19_method_12_code 37 = .ok (.iload_n 0, 1) := by decide +kernel
theorem dq_It_getChars_38 : decode prog_19_method_12_code 38 = .ok (.isub, 1) := by decide +kernel
theorem dq_It_getChars_39 : decode prog_19_method_12_code 39 = .ok (.istore 4, 2) := by decide +kernel
theorem dq_It_getChars_41 : decode prog_19_method_12_code 41 = .ok (.iload_n 3, 1) := by decide +kernel
theorem dq_It_getChars_42 : decode prog_19_method_12_code 42 = .ok (.istore_n 0, 1) := by decide +kernel
theorem dq_It_getChars_43 : decode prog_19_method_12_code 43 = .ok (.aload_n 2, 1) := by decide +kernel
theorem dq_It_getChars_44 : decode prog_19_method_12_code 44 = .ok (.iinc 5 (-1), 3) := by decide +kernel
theorem dq_It_getChars_47 : decode prog_19_method_12_code 47 = .ok (.iload 5, 2) := by decide +kernel
theorem dq_It_getChars_49 : decode prog_19_method_12_code 49 = .ok (.getstatic 83, 3) := by decide +kernel
theorem dq_It_getChars_52 : decode prog_19_method_12_code 52 = .ok (.iload 4, 2) := by decide +kernel
theorem dq_It_getChars_54 : decode prog_19_method_12_code 54 = .ok (.baload, 1) := by decide +kernel
theorem dq_It_getChars_55 : decode prog_19_method_12_code 55 = .ok (.bastore, 1) := by decide +kernel
theorem dq_It_getChars_56 : decode prog_19_method_12_code 56 = .ok (.aload_n 2, 1) := by decide +kernel
theorem dq_It_getChars_57 : decode prog_19_method_12_code 57 = .ok (.iinc 5 (-1), 3) := by decide +kernel
theorem dq_It_getChars_60 : decode prog_19_method_12_code 60 = .ok (.iload 5, 2) := by decide +kernel
theorem dq_It_getChars_62 : decode prog_19_method_12_code 62 = .ok (.getstatic 87, 3) := by decide +kernel
theorem dq_It_getChars_65 : decode prog_19_method_12_code 65 = .ok (.iload 4, 2) := by decide +kernel
theorem dq_It_getChars_67 : decode prog_19_method_12_code 67 = .ok (.baload, 1) := by decide +kernel
theorem dq_It_getChars_68 : decode prog_19_method_12_code 68 = .ok (.bastore, 1) := by decide +kernel
theorem dq_It_getChars_69 : decode prog_19_method_12_code 69 = .ok (.goto (-47), 3) := by decide +kernel
theorem dq_It_getChars_72 : decode prog_19_method_12_code 72 = .ok (.aload_n 2, 1) := by decide +kernel
theorem dq_It_getChars_73 : decode prog_19_method_12_code 73 = .ok (.iinc 5 (-1), 3) := by decide +kernel
theorem dq_It_getChars_76 : decode prog_19_method_12_code 76 = .ok (.iload 5, 2) := by decide +kernel
theorem dq_It_getChars_78 : decode prog_19_method_12_code 78 = .ok (.getstatic 83, 3) := by decide +kernel
theorem dq_It_getChars_81 : decode prog_19_method_12_code 81 = .ok (.iload_n 0, 1) := by decide +kernel
theorem dq_It_getChars_82 : decode prog_19_method_12_code 82 = .ok (.ineg, 1) := by decide +kernel
theorem dq_It_getChars_83 : decode prog_19_method_12_code 83 = .ok (.baload, 1) := by decide +kernel
theorem dq_It_getChars_84 : decode prog_19_method_12_code 84 = .ok (.bastore, 1) := by decide +kernel
theorem dq_It_getChars_85 : decode prog_19_method_12_code 85 = .ok (.iload_n 0, 1) := by decide +kernel
theorem dq_It_getChars_86 : decode prog_19_method_12_code 86 = .ok (.bipush (-9), 2) := by decide +kernel
theorem dq_It_getChars_88 : decode prog_19_method_12_code 88 = .ok (.if_icmp .ge 16, 3) := by decide +kernel
theorem dq_It_getChars_91 : decode prog_19_method_12_code 91 = .ok (.aload_n 2, 1) := by decide +kernel
theorem dq_It_getChars_92 : decode prog_19_method_12_code 92 = .ok (.iinc 5 (-1), 3) := by decide +kernel
theorem dq_It_getChars_95 : decode prog_19_method_12_code 95 = .ok (.iload 5, 2) := by decide +kernel
theorem dq_It_getChars_97 : decode prog_19_method_12_code 97 = .ok (.getstatic 87, 3) := by decide +kernel
theorem dq_It_getChars_100 : decode prog_19_method_12_code 100 = .ok (.iload_n 0, 1) := by decide +kernel
theorem dq_It_getChars_101 : decode prog_19_method_12_code 101 = .ok (.ineg, 1) := by decide +kernel
theorem dq_It_getChars_102 : decode prog_19_method_12_code 102 = .ok (.baload, 1) := by decide +kernel
theorem dq_It_getChars_103 : decode prog_19_method_12_code 103 = .ok (.bastore, 1) := by decide +kernel
theorem dq_It_getChars_104 : decode prog_19_method_12_code 104 = .ok (.iload 6, 2) := by decide +kernel
theorem dq_It_getChars_106 : decode prog_19_method_12_code 106 = .ok (.ifCond .eq 12, 3) := by decide +kernel
theorem dq_It_getChars_109 : decode prog_19_method_12_code 109 = .ok (.aload_n 2, 1) := by decide +kernel
theorem dq_It_getChars_110 : decode prog_19_method_12_code 110 = .ok (.iinc 5 (-1), 3) := by decide +kernel
theorem dq_It_getChars_113 : decode prog_19_method_12_code 113 = .ok (.iload 5, 2) := by decide +kernel
theorem dq_It_getChars_115 : decode prog_19_method_12_code 115 = .ok (.bipush 45, 2) := by decide +kernel
theorem dq_It_getChars_117 : decode prog_19_method_12_code 117 = .ok (.bastore, 1) := by decide +kernel
theorem dq_It_getChars_118 : decode prog_19_method_12_code 118 = .ok (.iload 5, 2) := by decide +kernel
theorem dq_It_getChars_120 : decode prog_19_method_12_code 120 = .ok (.ireturn, 1) := by decide +kernel
set_option maxRecDepth 100000 in
def pq_It_getChars_118 (E : wo_E) (mc ms : Nat) (Post : Int32 → wo_W → Prop) (G : wo_W) (c s : Nat) (x5 : Int32) : Prop := Post x5 G
set_option maxRecDepth 100000 in
def pq_It_getChars_104 (E : wo_E) (mc ms : Nat) (Post : Int32 → wo_W → Prop) (G : wo_W) (c s : Nat) (x2 : Option Nat) (x5 : Int32) (x6 : Int32) : Prop := ((x6 = (0 : Int32) → pq_It_getChars_118 E mc ms Post G c s x5) ∧
  (¬ x6 = (0 : Int32) → ∃ a1 : Nat, x2 = some a1 ∧ wo_ty G a1 = 65 ∧ vp_in (x5 + (-1 : Int32)) (wo_len G a1) ∧ en_bs E ≤ a1 ∧ ∀ G5 : wo_W, G5 = wo_sei G a1 (x5 + (-1 : Int32)).toNatClampNeg (vp_nar .byte (45 : Int32)) → 
    pq_It_getChars_118 E mc ms Post G5 c s (x5 + (-1 : Int32))))
set_option maxRecDepth 100000 in
def pq_It_getChars_22 (E : wo_E) (mc ms : Nat) (Post : Int32 → wo_W → Prop) : Nat → wo_W → Nat → Nat → Int32 → Option Nat → Int32 → Int32 → Prop
  | 0 => fun _ _ _ _ _ _ _ => False
  | n + 1 => fun G c s x0 x2 x5 x6 => (((-100 : Int32) < x0 → wo_ty G (en_sta E 1) = 65 ∧ vp_in (-x0) (wo_len G (en_sta E 1)) ∧ ∃ a3 : Nat, x2 = some a3 ∧ wo_ty G a3 = 65 ∧ vp_in (x5 + (-1 : Int32)) (wo_len G a3) ∧ en_bs E ≤ a3 ∧ ∀ G7 : wo_W, G7 = wo_sei G a3 (x5 + (-1 : Int32)).toNatClampNeg (vp_nar .byte (wo_ei G (en_sta E 1) (-x0).toNatClampNeg)) → 
    (((-9 : Int32) ≤ x0 → pq_It_getChars_104 E mc ms Post G7 c s (some a3) (x5 + (-1 : Int32)) x6) ∧
    (¬ (-9 : Int32) ≤ x0 → wo_ty G7 (en_sta E 2) = 65 ∧ vp_in (-x0) (wo_len G7 (en_sta E 2)) ∧ vp_in ((x5 + (-1 : Int32)) + (-1 : Int32)) (wo_len G7 a3) ∧ en_bs E ≤ a3 ∧ ∀ G13 : wo_W, G13 = wo_sei G7 a3 ((x5 + (-1 : Int32)) + (-1 : Int32)).toNatClampNeg (vp_nar .byte (wo_ei G7 (en_sta E 2) (-x0).toNatClampNeg)) → 
      pq_It_getChars_104 E mc ms Post G13 c s (some a3) ((x5 + (-1 : Int32)) + (-1 : Int32)) x6))) ∧
  (¬ (-100 : Int32) < x0 → wo_ty G (en_sta E 1) = 65 ∧ vp_in (((x0 / (100 : Int32)) * (100 : Int32)) - x0) (wo_len G (en_sta E 1)) ∧ ∃ a17 : Nat, x2 = some a17 ∧ wo_ty G a17 = 65 ∧ vp_in (x5 + (-1 : Int32)) (wo_len G a17) ∧ en_bs E ≤ a17 ∧ ∀ G21 : wo_W, G21 = wo_sei G a17 (x5 + (-1 : Int32)).toNatClampNeg (vp_nar .byte (wo_ei G (en_sta E 1) (((x0 / (100 : Int32)) * (100 : Int32)) - x0).toNatClampNeg)) → 
    wo_ty G21 (en_sta E 2) = 65 ∧ vp_in (((x0 / (100 : Int32)) * (100 : Int32)) - x0) (wo_len G21 (en_sta E 2)) ∧ vp_in ((x5 + (-1 : Int32)) + (-1 : Int32)) (wo_len G21 a17) ∧ en_bs E ≤ a17 ∧ ∀ G27 : wo_W, G27 = wo_sei G21 a17 ((x5 + (-1 : Int32)) + (-1 : Int32)).toNatClampNeg (vp_nar .byte (wo_ei G21 (en_sta E 2) (((x0 / (100 : Int32)) * (100 : Int32)) - x0).toNatClampNeg)) → 
    pq_It_getChars_22 E mc ms Post n G27 c s (x0 / (100 : Int32)) (some a17) ((x5 + (-1 : Int32)) + (-1 : Int32)) x6))
set_option maxRecDepth 100000 in
def pq_It_getChars_12 (E : wo_E) (mc ms : Nat) (Post : Int32 → wo_W → Prop) (G : wo_W) (c s : Nat) (x0 : Int32) (x2 : Option Nat) (x5 : Int32) (y0 : Int32) : Prop := ((¬ y0 = (0 : Int32) → ∃ n1 : Nat, pq_It_getChars_22 E mc ms Post n1 G c s x0 x2 x5 y0) ∧
  (y0 = (0 : Int32) → ∃ n1 : Nat, pq_It_getChars_22 E mc ms Post n1 G c s (-x0) x2 x5 y0))
set_option maxRecDepth 100000 in
def pq_It_getChars_0 (E : wo_E) (mc ms : Nat) (Post : Int32 → wo_W → Prop) (G : wo_W) (c s : Nat) (x0 : Int32) (x1 : Int32) (x2 : Option Nat) : Prop := (((0 : Int32) ≤ x0 → pq_It_getChars_12 E mc ms Post G c s x0 x2 x1 (0 : Int32)) ∧
  (¬ (0 : Int32) ≤ x0 → pq_It_getChars_12 E mc ms Post G c s x0 x2 x1 (1 : Int32)))
def pq_It_getChars (E : wo_E) (mc ms : Nat) (Post : Int32 → wo_W → Prop) (G : wo_W) (x0 : Int32) (x1 : Int32) (x2 : Option Nat) : Prop := pq_It_getChars_0 E mc ms Post G 0 0 x0 x1 x2
set_option maxRecDepth 100000 in
set_option maxHeartbeats 4000000 in
theorem tq_It_getChars_118 {p : Program} {l : Launch} {e : Env} {R : Room} {s₀ : State} {m : MethodId} {args : Array Value} {below : List Frame} {meth : Method} {cd : Code} {E : wo_E} {mc ms : Nat} {Post : Int32 → wo_W → Prop} (hC : wo_Cx E "java/lang/Integer" prog_19_method_12_code 7 0 0 ((Option.some Jvm.ClassFile.FieldType.int)) "getChars" mc ms p R s₀ m args meth cd) : ∀ {G : wo_W} {c s : Nat} {x5 : Int32}, pq_It_getChars_118 E mc ms Post G c s x5 → ∀ {H : Heap} {locs : List Loc} {ls : Array Slot}, wo_Se E G H → va_S (en_A E) s₀.heap H locs → lx_has ls 7 [(5, 1, .int x5)] → c ≤ mc → s ≤ ms → W p l e R s₀ m args below meth cd H locs c s (MQ below (va_Qi Post (wo_B E) (en_A E)) args s₀ mc ms (en_A E)) (F0 m 118 ls []) := by
  intro G c s x5 hw H locs ls hG hS hl hcc hss
  dsimp only [pq_It_getChars_118] at hw
  have hx := hC.1
  have hb := hC.2.1
  refine lv_iload hx hb dq_It_getChars_118 (lx_at hl 0 rfl) ?_
  exact wo_iret hC hG hS hcc hss hw dq_It_getChars_120
set_option maxRecDepth 100000 in
set_option maxHeartbeats 4000000 in
theorem tq_It_getChars_104 {p : Program} {l : Launch} {e : Env} {R : Room} {s₀ : State} {m : MethodId} {args : Array Value} {below : List Frame} {meth : Method} {cd : Code} {E : wo_E} {mc ms : Nat} {Post : Int32 → wo_W → Prop} (hC : wo_Cx E "java/lang/Integer" prog_19_method_12_code 7 0 0 ((Option.some Jvm.ClassFile.FieldType.int)) "getChars" mc ms p R s₀ m args meth cd) : ∀ {G : wo_W} {c s : Nat} {x2 : Option Nat} {x5 : Int32} {x6 : Int32}, pq_It_getChars_104 E mc ms Post G c s x2 x5 x6 → ∀ {H : Heap} {locs : List Loc} {ls : Array Slot}, wo_Se E G H → va_S (en_A E) s₀.heap H locs → lx_has ls 7 [(2, 1, va_rf x2), (5, 1, .int x5), (6, 1, .int x6)] → c ≤ mc → s ≤ ms → W p l e R s₀ m args below meth cd H locs c s (MQ below (va_Qi Post (wo_B E) (en_A E)) args s₀ mc ms (en_A E)) (F0 m 104 ls []) := by
  intro G c s x2 x5 x6 hw H locs ls hG hS hl hcc hss
  dsimp only [pq_It_getChars_104] at hw
  have hx := hC.1
  have hb := hC.2.1
  refine lv_iload hx hb dq_It_getChars_104 (lx_at hl 2 rfl) ?_
  refine lv_if_eq (tgt := 118) hx hb dq_It_getChars_106 rfl (fun h => ?_) (fun h => ?_)
  · replace hw := hw.1 h
    exact tq_It_getChars_118 hC hw hG hS (lx_sub hl [1] rfl) hcc hss
  · replace hw := hw.2 h
    refine lx_aloadR_n hx hb dq_It_getChars_109 rfl (lx_at hl 0 rfl) ?_
    refine lx_iinc (k := 1) (v := (x5 + (-1 : Int32))) (lv' := [(5, 1, .int (x5 + (-1 : Int32))), (2, 1, va_rf x2), (6, 1, .int x6)]) hx hb dq_It_getChars_110 hl rfl rfl (by decide) rfl (fun ls hl' => ?_)
    clear hl
    have hl := hl'
    clear hl'
    refine lv_iload hx hb dq_It_getChars_113 (lx_at hl 0 rfl) ?_
    refine lv_bipush (v := (45 : Int32)) hx hb dq_It_getChars_115 rfl ?_
    obtain ⟨a1, rfl, hw⟩ := hw
    obtain ⟨t2, hw⟩ := hw
    obtain ⟨h3, hw⟩ := hw
    obtain ⟨h4, hw⟩ := hw
    refine wo_bast (j := 1) hC rfl hG hS t2 h3 h4 dq_It_getChars_117 (fun G5 H locs e6 hG hS => ?_)
    replace hw := hw G5 e6
    exact tq_It_getChars_118 hC hw hG hS (lx_sub hl [0] rfl) hcc hss
set_option maxRecDepth 100000 in
set_option maxHeartbeats 4000000 in
theorem tq_It_getChars_22 {p : Program} {l : Launch} {e : Env} {R : Room} {s₀ : State} {m : MethodId} {args : Array Value} {below : List Frame} {meth : Method} {cd : Code} {E : wo_E} {mc ms : Nat} {Post : Int32 → wo_W → Prop} (hC : wo_Cx E "java/lang/Integer" prog_19_method_12_code 7 0 0 ((Option.some Jvm.ClassFile.FieldType.int)) "getChars" mc ms p R s₀ m args meth cd) : ∀ n : Nat, ∀ {G : wo_W} {c s : Nat} {x0 : Int32} {x2 : Option Nat} {x5 : Int32} {x6 : Int32}, pq_It_getChars_22 E mc ms Post n G c s x0 x2 x5 x6 → ∀ {H : Heap} {locs : List Loc} {ls : Array Slot}, wo_Se E G H → va_S (en_A E) s₀.heap H locs → lx_has ls 7 [(0, 1, .int x0), (2, 1, va_rf x2), (5, 1, .int x5), (6, 1, .int x6)] → c ≤ mc → s ≤ ms → W p l e R s₀ m args below meth cd H locs c s (MQ below (va_Qi Post (wo_B E) (en_A E)) args s₀ mc ms (en_A E)) (F0 m 22 ls []) := by
  intro n
  induction n with
  | zero => intro G c s x0 x2 x5 x6 hw; exact hw.elim
  | succ n ih =>
    intro G c s x0 x2 x5 x6 hw H locs ls hG hS hl hcc hss
    dsimp only [pq_It_getChars_22] at hw
    have hx := hC.1
    have hb := hC.2.1
    refine lv_iload_n hx hb dq_It_getChars_22 rfl (lx_at hl 0 rfl) ?_
    refine lv_bipush (v := (-100 : Int32)) hx hb dq_It_getChars_23 rfl ?_
    refine lv_icmp_gt (tgt := 72) hx hb dq_It_getChars_25 rfl (fun h => ?_) (fun h => ?_)
    · replace hw := hw.1 h
      refine lx_aloadR_n hx hb dq_It_getChars_72 rfl (lx_at hl 1 rfl) ?_
      refine lx_iinc (k := 2) (v := (x5 + (-1 : Int32))) (lv' := [(5, 1, .int (x5 + (-1 : Int32))), (0, 1, .int x0), (2, 1, va_rf x2), (6, 1, .int x6)]) hx hb dq_It_getChars_73 hl rfl rfl (by decide) rfl (fun ls hl' => ?_)
      clear hl
      have hl := hl'
      clear hl'
      refine lv_iload hx hb dq_It_getChars_76 (lx_at hl 0 rfl) ?_
      refine wo_gstA hC sq_It_83 hS dq_It_getChars_78 ?_
      refine lv_iload_n hx hb dq_It_getChars_81 rfl (lx_at hl 1 rfl) ?_
      refine lv_ineg hx hb dq_It_getChars_82 ?_
      obtain ⟨t1, hw⟩ := hw
      obtain ⟨h2, hw⟩ := hw
      refine wo_bald (j := 1) hC rfl hG t1 h2 dq_It_getChars_83 ?_
      obtain ⟨a3, rfl, hw⟩ := hw
      obtain ⟨t4, hw⟩ := hw
      obtain ⟨h5, hw⟩ := hw
      obtain ⟨h6, hw⟩ := hw
      refine wo_bast (j := 1) hC rfl hG hS t4 h5 h6 dq_It_getChars_84 (fun G7 H locs e8 hG hS => ?_)
      replace hw := hw G7 e8
      refine lv_iload_n hx hb dq_It_getChars_85 rfl (lx_at hl 1 rfl) ?_
      refine lv_bipush (v := (-9 : Int32)) hx hb dq_It_getChars_86 rfl ?_
      refine lv_icmp_ge (tgt := 104) hx hb dq_It_getChars_88 rfl (fun h => ?_) (fun h => ?_)
      · replace hw := hw.1 h
        exact tq_It_getChars_104 hC hw hG hS (lx_sub hl [2, 0, 3] rfl) hcc hss
      · replace hw := hw.2 h
        refine lv_aload_n hx hb dq_It_getChars_91 rfl (lx_at hl 2 rfl) ?_
        refine lx_iinc (k := 0) (v := ((x5 + (-1 : Int32)) + (-1 : Int32))) (lv' := [(5, 1, .int ((x5 + (-1 : Int32)) + (-1 : Int32))), (0, 1, .int x0), (2, 1, .ref a3), (6, 1, .int x6)]) hx hb dq_It_getChars_92 hl rfl rfl (by decide) rfl (fun ls hl' => ?_)
        clear hl
        have hl := hl'
        clear hl'
        refine lv_iload hx hb dq_It_getChars_95 (lx_at hl 0 rfl) ?_
        refine wo_gstA hC sq_It_87 hS dq_It_getChars_97 ?_
        refine lv_iload_n hx hb dq_It_getChars_100 rfl (lx_at hl 1 rfl) ?_
        refine lv_ineg hx hb dq_It_getChars_101 ?_
        obtain ⟨t9, hw⟩ := hw
        obtain ⟨h10, hw⟩ := hw
        refine wo_bald (j := 1) hC rfl hG t9 h10 dq_It_getChars_102 ?_
        obtain ⟨h11, hw⟩ := hw
        obtain ⟨h12, hw⟩ := hw
        refine wo_bast (j := 1) hC rfl hG hS (ty_sei e8 t4) h11 h12 dq_It_getChars_103 (fun G13 H locs e14 hG hS => ?_)
        replace hw := hw G13 e14
        exact tq_It_getChars_104 hC hw hG hS (lx_sub hl [2, 0, 3] rfl) hcc hss
    · replace hw := hw.2 h
      refine lv_iload_n hx hb dq_It_getChars_28 rfl (lx_at hl 0 rfl) ?_
      refine lv_bipush (v := (100 : Int32)) hx hb dq_It_getChars_29 rfl ?_
      refine lv_idiv hx hb dq_It_getChars_31 (by decide) ?_
      refine lx_istore_n (lv' := [(3, 1, .int (x0 / (100 : Int32))), (0, 1, .int x0), (2, 1, va_rf x2), (5, 1, .int x5), (6, 1, .int x6)]) hx hb dq_It_getChars_32 rfl hl (by decide) rfl (fun ls hl' => ?_)
      clear hl
      have hl := hl'
      clear hl'
      refine lv_iload_n hx hb dq_It_getChars_33 rfl (lx_at hl 0 rfl) ?_
      refine lv_bipush (v := (100 : Int32)) hx hb dq_It_getChars_34 rfl ?_
      refine lv_imul hx hb dq_It_getChars_36 ?_
      refine lv_iload_n hx hb dq_It_getChars_37 rfl (lx_at hl 1 rfl) ?_
      refine lv_isub hx hb dq_It_getChars_38 ?_
      refine lx_istore (lv' := [(4, 1, .int (((x0 / (100 : Int32)) * (100 : Int32)) - x0)), (3, 1, .int (x0 / (100 : Int32))), (0, 1, .int x0), (2, 1, va_rf x2), (5, 1, .int x5), (6, 1, .int x6)]) hx hb dq_It_getChars_39 hl (by decide) rfl (fun ls hl' => ?_)
      clear hl
      have hl := hl'
      clear hl'
      refine lv_iload_n hx hb dq_It_getChars_41 rfl (lx_at hl 1 rfl) ?_
      refine lx_istore_n (lv' := [(0, 1, .int (x0 / (100 : Int32))), (4, 1, .int (((x0 / (100 : Int32)) * (100 : Int32)) - x0)), (3, 1, .int (x0 / (100 : Int32))), (2, 1, va_rf x2), (5, 1, .int x5), (6, 1, .int x6)]) hx hb dq_It_getChars_42 rfl hl (by decide) rfl (fun ls hl' => ?_)
      clear hl
      have hl := hl'
      clear hl'
      refine lx_aloadR_n hx hb dq_It_getChars_43 rfl (lx_at hl 3 rfl) ?_
      refine lx_iinc (k := 4) (v := (x5 + (-1 : Int32))) (lv' := [(5, 1, .int (x5 + (-1 : Int32))), (0, 1, .int (x0 / (100 : Int32))), (4, 1, .int (((x0 / (100 : Int32)) * (100 : Int32)) - x0)), (3, 1, .int (x0 / (100 : Int32))), (2, 1, va_rf x2), (6, 1, .int x6)]) hx hb dq_It_getChars_44 hl rfl rfl (by decide) rfl (fun ls hl' => ?_)
      clear hl
      have hl := hl'
      clear hl'
      refine lv_iload hx hb dq_It_getChars_47 (lx_at hl 0 rfl) ?_
      refine wo_gstA hC sq_It_83 hS dq_It_getChars_49 ?_
      refine lv_iload hx hb dq_It_getChars_52 (lx_at hl 2 rfl) ?_
      obtain ⟨t15, hw⟩ := hw
      obtain ⟨h16, hw⟩ := hw
      refine wo_bald (j := 1) hC rfl hG t15 h16 dq_It_getChars_54 ?_
      obtain ⟨a17, rfl, hw⟩ := hw
      obtain ⟨t18, hw⟩ := hw
      obtain ⟨h19, hw⟩ := hw
      obtain ⟨h20, hw⟩ := hw
      refine wo_bast (j := 1) hC rfl hG hS t18 h19 h20 dq_It_getChars_55 (fun G21 H locs e22 hG hS => ?_)
      replace hw := hw G21 e22
      refine lv_aload_n hx hb dq_It_getChars_56 rfl (lx_at hl 4 rfl) ?_
      refine lx_iinc (k := 0) (v := ((x5 + (-1 : Int32)) + (-1 : Int32))) (lv' := [(5, 1, .int ((x5 + (-1 : Int32)) + (-1 : Int32))), (0, 1, .int (x0 / (100 : Int32))), (4, 1, .int (((x0 / (100 : Int32)) * (100 : Int32)) - x0)), (3, 1, .int (x0 / (100 : Int32))), (2, 1, .ref a17), (6, 1, .int x6)]) hx hb dq_It_getChars_57 hl rfl rfl (by decide) rfl (fun ls hl' => ?_)
      clear hl
      have hl := hl'
      clear hl'
      refine lv_iload hx hb dq_It_getChars_60 (lx_at hl 0 rfl) ?_
      refine wo_gstA hC sq_It_87 hS dq_It_getChars_62 ?_
      refine lv_iload hx hb dq_It_getChars_65 (lx_at hl 2 rfl) ?_
      obtain ⟨t23, hw⟩ := hw
      obtain ⟨h24, hw⟩ := hw
      refine wo_bald (j := 1) hC rfl hG t23 h24 dq_It_getChars_67 ?_
      obtain ⟨h25, hw⟩ := hw
      obtain ⟨h26, hw⟩ := hw
      refine wo_bast (j := 1) hC rfl hG hS (ty_sei e22 t18) h25 h26 dq_It_getChars_68 (fun G27 H locs e28 hG hS => ?_)
      replace hw := hw G27 e28
      refine lv_goto (tgt := 22) hx hb dq_It_getChars_69 rfl ?_
      exact ih hw hG hS (lx_sub hl [1, 4, 0, 5] rfl) hcc hss
set_option maxRecDepth 100000 in
set_option maxHeartbeats 4000000 in
theorem tq_It_getChars_12 {p : Program} {l : Launch} {e : Env} {R : Room} {s₀ : State} {m : MethodId} {args : Array Value} {below : List Frame} {meth : Method} {cd : Code} {E : wo_E} {mc ms : Nat} {Post : Int32 → wo_W → Prop} (hC : wo_Cx E "java/lang/Integer" prog_19_method_12_code 7 0 0 ((Option.some Jvm.ClassFile.FieldType.int)) "getChars" mc ms p R s₀ m args meth cd) : ∀ {G : wo_W} {c s : Nat} {x0 : Int32} {x2 : Option Nat} {x5 : Int32} {y0 : Int32}, pq_It_getChars_12 E mc ms Post G c s x0 x2 x5 y0 → ∀ {H : Heap} {locs : List Loc} {ls : Array Slot}, wo_Se E G H → va_S (en_A E) s₀.heap H locs → lx_has ls 7 [(0, 1, .int x0), (2, 1, va_rf x2), (5, 1, .int x5)] → c ≤ mc → s ≤ ms → W p l e R s₀ m args below meth cd H locs c s (MQ below (va_Qi Post (wo_B E) (en_A E)) args s₀ mc ms (en_A E)) (F0 m 12 ls [.int y0]) := by
  intro G c s x0 x2 x5 y0 hw H locs ls hG hS hl hcc hss
  dsimp only [pq_It_getChars_12] at hw
  have hx := hC.1
  have hb := hC.2.1
  refine lx_istore (lv' := [(6, 1, .int y0), (0, 1, .int x0), (2, 1, va_rf x2), (5, 1, .int x5)]) hx hb dq_It_getChars_12 hl (by decide) rfl (fun ls hl' => ?_)
  clear hl
  have hl := hl'
  clear hl'
  refine lv_iload hx hb dq_It_getChars_14 (lx_at hl 0 rfl) ?_
  refine lv_if_ne (tgt := 22) hx hb dq_It_getChars_16 rfl (fun h => ?_) (fun h => ?_)
  · replace hw := hw.1 h
    obtain ⟨n1, hw⟩ := hw
    exact tq_It_getChars_22 hC n1 hw hG hS (lx_sub hl [1, 2, 3, 0] rfl) hcc hss
  · replace hw := hw.2 h
    refine lv_iload_n hx hb dq_It_getChars_19 rfl (lx_at hl 1 rfl) ?_
    refine lv_ineg hx hb dq_It_getChars_20 ?_
    refine lx_istore_n (lv' := [(0, 1, .int (-x0)), (6, 1, .int y0), (2, 1, va_rf x2), (5, 1, .int x5)]) hx hb dq_It_getChars_21 rfl hl (by decide) rfl (fun ls hl' => ?_)
    clear hl
    have hl := hl'
    clear hl'
    obtain ⟨n1, hw⟩ := hw
    exact tq_It_getChars_22 hC n1 hw hG hS (lx_sub hl [0, 2, 3, 1] rfl) hcc hss
set_option maxRecDepth 100000 in
set_option maxHeartbeats 4000000 in
theorem tq_It_getChars_0 {p : Program} {l : Launch} {e : Env} {R : Room} {s₀ : State} {m : MethodId} {args : Array Value} {below : List Frame} {meth : Method} {cd : Code} {E : wo_E} {mc ms : Nat} {Post : Int32 → wo_W → Prop} (hC : wo_Cx E "java/lang/Integer" prog_19_method_12_code 7 0 0 ((Option.some Jvm.ClassFile.FieldType.int)) "getChars" mc ms p R s₀ m args meth cd) : ∀ {G : wo_W} {c s : Nat} {x0 : Int32} {x1 : Int32} {x2 : Option Nat}, pq_It_getChars_0 E mc ms Post G c s x0 x1 x2 → ∀ {H : Heap} {locs : List Loc} {ls : Array Slot}, wo_Se E G H → va_S (en_A E) s₀.heap H locs → lx_has ls 7 [(0, 1, .int x0), (1, 1, .int x1), (2, 1, va_rf x2)] → c ≤ mc → s ≤ ms → W p l e R s₀ m args below meth cd H locs c s (MQ below (va_Qi Post (wo_B E) (en_A E)) args s₀ mc ms (en_A E)) (F0 m 0 ls []) := by
  intro G c s x0 x1 x2 hw H locs ls hG hS hl hcc hss
  dsimp only [pq_It_getChars_0] at hw
  have hx := hC.1
  have hb := hC.2.1
  refine lv_iload_n hx hb dq_It_getChars_0 rfl (lx_at hl 1 rfl) ?_
  refine lx_istore (lv' := [(5, 1, .int x1), (0, 1, .int x0), (1, 1, .int x1), (2, 1, va_rf x2)]) hx hb dq_It_getChars_1 hl (by decide) rfl (fun ls hl' => ?_)
  clear hl
  have hl := hl'
  clear hl'
  refine lv_iload_n hx hb dq_It_getChars_3 rfl (lx_at hl 1 rfl) ?_
  refine lv_if_ge (tgt := 11) hx hb dq_It_getChars_4 rfl (fun h => ?_) (fun h => ?_)
  · replace hw := hw.1 h
    refine lv_iconst (v := (0 : Int32)) hx hb dq_It_getChars_11 rfl ?_
    exact tq_It_getChars_12 hC hw hG hS (lx_sub hl [1, 3, 0] rfl) hcc hss
  · replace hw := hw.2 h
    refine lv_iconst (v := (1 : Int32)) hx hb dq_It_getChars_7 rfl ?_
    refine lv_goto (tgt := 12) hx hb dq_It_getChars_8 rfl ?_
    exact tq_It_getChars_12 hC hw hG hS (lx_sub hl [1, 3, 0] rfl) hcc hss
set_option maxHeartbeats 4000000 in
theorem mq_It_getChars {l : Launch} {E : wo_E} {mc ms : Nat} {Post : Int32 → wo_W → Prop} {G : wo_W} {x0 : Int32} {x1 : Int32} {x2 : Option Nat} (hw : pq_It_getChars E mc ms Post G x0 x1 x2) : Met l yq_It_getChars (Cond.code yq_It_getChars prog_19_method_12_code 7 ((Option.some Jvm.ClassFile.FieldType.int)) :: vw_WG) { frames := 0, cells := mc, slots := ms, locals := 0 } (va_Pc [.int x0, .int x1, va_rf x2] (wo_Ok E G)) (va_Qi Post (wo_B E) (en_A E)) mc ms (en_A E) := by
  unfold pq_It_getChars at hw
  exact wo_met [(1, .int x0), (1, .int x1), (1, va_rf x2)] rfl (by decide) (fun q hq => by simp only [List.mem_cons, List.not_mem_nil, or_false] at hq; rcases hq with rfl | rfl | rfl <;> first | rfl | exact lx_cR _) (Nat.le_of_ble_eq_true rfl) (fun p e R s m args below meth cd ls hC hG hS hl => tq_It_getChars_0 hC hw hG hS (lx_sub hl [0, 1, 2] rfl) (Nat.zero_le _) (Nat.zero_le _))

theorem dq_It_stringSize_0 : decode prog_19_method_13_code 0 = .ok (.iconst 1, 1) := by decide +kernel
theorem dq_It_stringSize_1 : decode prog_19_method_13_code 1 = .ok (.istore_n 1, 1) := by decide +kernel
theorem dq_It_stringSize_2 : decode prog_19_method_13_code 2 = .ok (.iload_n 0, 1) := by decide +kernel
theorem dq_It_stringSize_3 : decode prog_19_method_13_code 3 = .ok (.ifCond .lt 8, 3) := by decide +kernel
theorem dq_It_stringSize_6 : decode prog_19_method_13_code 6 = .ok (.iconst 0, 1) := by decide +kernel
theorem dq_It_stringSize_7 : decode prog_19_method_13_code 7 = .ok (.istore_n 1, 1) := by decide +kernel
theorem dq_It_stringSize_8 : decode prog_19_method_13_code 8 = .ok (.iload_n 0, 1) := by decide +kernel
theorem dq_It_stringSize_9 : decode prog_19_method_13_code 9 = .ok (.ineg, 1) := by decide +kernel
theorem dq_It_stringSize_10 : decode prog_19_method_13_code 10 = .ok (.istore_n 0, 1) := by decide +kernel
theorem dq_It_stringSize_11 : decode prog_19_method_13_code 11 = .ok (.bipush (-10), 2) := by decide +kernel
theorem dq_It_stringSize_13 : decode prog_19_method_13_code 13 = .ok (.istore_n 2, 1) := by decide +kernel
theorem dq_It_stringSize_14 : decode prog_19_method_13_code 14 = .ok (.iconst 1, 1) := by decide +kernel
theorem dq_It_stringSize_15 : decode prog_19_method_13_code 15 = .ok (.istore_n 3, 1) := by decide +kernel
theorem dq_It_stringSize_16 : decode prog_19_method_13_code 16 = .ok (.iload_n 3, 1) := by decide +kernel
theorem dq_It_stringSize_17 : decode prog_19_method_13_code 17 = .ok (.bipush 10, 2) := by decide +kernel
theorem dq_It_stringSize_19 : decode prog_19_method_13_code 19 = .ok (.if_icmp .ge 23, 3) := by decide +kernel
theorem dq_It_stringSize_22 : decode prog_19_method_13_code 22 = .ok (.iload_n 0, 1) := by decide +kernel
theorem dq_It_stringSize_23 : decode prog_19_method_13_code 23 = .ok (.iload_n 2, 1) := by decide +kernel
theorem dq_It_stringSize_24 : decode prog_19_method_13_code 24 = .ok (.if_icmp .le 7, 3) := by decide +kernel
theorem dq_It_stringSize_27 : decode prog_19_method_13_code 27 = .ok (.iload_n 3, 1) := by decide +kernel
theorem dq_It_stringSize_28 : decode prog_19_method_13_code 28 = .ok (.iload_n 1, 1) := by decide +kernel
theorem dq_It_stringSize_29 : decode prog_19_method_13_code 29 = .ok (.iadd, 1) := by decide +kernel
theorem dq_It_stringSize_30 : decode prog_19_method_13_code 30 = .ok (.ireturn, 1) := by decide +kernel
theorem dq_It_stringSize_31 : decode prog_19_method_13_code 31 = .ok (.bipush 10, 2) := by decide +kernel
theorem dq_It_stringSize_33 : decode prog_19_method_13_code 33 = .ok (.iload_n 2, 1) := by decide +kernel
theorem dq_It_stringSize_34 : decode prog_19_method_13_code 34 = .ok (.imul, 1) := by decide +kernel
theorem dq_It_stringSize_35 : decode prog_19_method_13_code 35 = .ok (.istore_n 2, 1) := by decide +kernel
theorem dq_It_stringSize_36 : decode prog_19_method_13_code 36 = .ok (.iinc 3 1, 3) := by decide +kernel
theorem dq_It_stringSize_39 : decode prog_19_method_13_code 39 = .ok (.goto (-23), 3) := by decide +kernel
theorem dq_It_stringSize_42 : decode prog_19_method_13_code 42 = .ok (.bipush 10, 2) := by decide +kernel
theorem dq_It_stringSize_44 : decode prog_19_method_13_code 44 = .ok (.iload_n 1, 1) := by decide +kernel
theorem dq_It_stringSize_45 : decode prog_19_method_13_code 45 = .ok (.iadd, 1) := by decide +kernel
theorem dq_It_stringSize_46 : decode prog_19_method_13_code 46 = .ok (.ireturn, 1) := by decide +kernel
set_option maxRecDepth 100000 in
def pq_It_stringSize_16 (E : wo_E) (mc ms : Nat) (Post : Int32 → wo_W → Prop) : Nat → wo_W → Nat → Nat → Int32 → Int32 → Int32 → Int32 → Prop
  | 0 => fun _ _ _ _ _ _ _ => False
  | n + 1 => fun G c s x0 x1 x2 x3 => (((10 : Int32) ≤ x3 → Post ((10 : Int32) + x1) G) ∧
  (¬ (10 : Int32) ≤ x3 → ((x0 ≤ x2 → pq_It_stringSize_16 E mc ms Post n G c s x0 x1 ((10 : Int32) * x2) (x3 + (1 : Int32))) ∧
    (¬ x0 ≤ x2 → Post (x3 + x1) G))))
set_option maxRecDepth 100000 in
def pq_It_stringSize_11 (E : wo_E) (mc ms : Nat) (Post : Int32 → wo_W → Prop) (G : wo_W) (c s : Nat) (x0 : Int32) (x1 : Int32) : Prop := ∃ n1 : Nat, pq_It_stringSize_16 E mc ms Post n1 G c s x0 x1 (-10 : Int32) (1 : Int32)
set_option maxRecDepth 100000 in
def pq_It_stringSize_0 (E : wo_E) (mc ms : Nat) (Post : Int32 → wo_W → Prop) (G : wo_W) (c s : Nat) (x0 : Int32) : Prop := ((x0 < (0 : Int32) → pq_It_stringSize_11 E mc ms Post G c s x0 (1 : Int32)) ∧
  (¬ x0 < (0 : Int32) → pq_It_stringSize_11 E mc ms Post G c s (-x0) (0 : Int32)))
def pq_It_stringSize (E : wo_E) (mc ms : Nat) (Post : Int32 → wo_W → Prop) (G : wo_W) (x0 : Int32) : Prop := pq_It_stringSize_0 E mc ms Post G 0 0 x0
set_option maxRecDepth 100000 in
set_option maxHeartbeats 4000000 in
theorem tq_It_stringSize_16 {p : Program} {l : Launch} {e : Env} {R : Room} {s₀ : State} {m : MethodId} {args : Array Value} {below : List Frame} {meth : Method} {cd : Code} {E : wo_E} {mc ms : Nat} {Post : Int32 → wo_W → Prop} (hC : wo_Cx E "java/lang/Integer" prog_19_method_13_code 4 0 0 ((Option.some Jvm.ClassFile.FieldType.int)) "stringSize" mc ms p R s₀ m args meth cd) : ∀ n : Nat, ∀ {G : wo_W} {c s : Nat} {x0 : Int32} {x1 : Int32} {x2 : Int32} {x3 : Int32}, pq_It_stringSize_16 E mc ms Post n G c s x0 x1 x2 x3 → ∀ {H : Heap} {locs : List Loc} {ls : Array Slot}, wo_Se E G H → va_S (en_A E) s₀.heap H locs → lx_has ls 4 [(0, 1, .int x0), (1, 1, .int x1), (2, 1, .int x2), (3, 1, .int x3)] → c ≤ mc → s ≤ ms → W p l e R s₀ m args below meth cd H locs c s (MQ below (va_Qi Post (wo_B E) (en_A E)) args s₀ mc ms (en_A E)) (F0 m 16 ls []) := by
  intro n
  induction n with
  | zero => intro G c s x0 x1 x2 x3 hw; exact hw.elim
  | succ n ih =>
    intro G c s x0 x1 x2 x3 hw H locs ls hG hS hl hcc hss
    dsimp only [pq_It_stringSize_16] at hw
    have hx := hC.1
    have hb := hC.2.1
    refine lv_iload_n hx hb dq_It_stringSize_16 rfl (lx_at hl 3 rfl) ?_
    refine lv_bipush (v := (10 : Int32)) hx hb dq_It_stringSize_17 rfl ?_
    refine lv_icmp_ge (tgt := 42) hx hb dq_It_stringSize_19 rfl (fun h => ?_) (fun h => ?_)
    · replace hw := hw.1 h
      refine lv_bipush (v := (10 : Int32)) hx hb dq_It_stringSize_42 rfl ?_
      refine lv_iload_n hx hb dq_It_stringSize_44 rfl (lx_at hl 1 rfl) ?_
      refine lv_iadd hx hb dq_It_stringSize_45 ?_
      exact wo_iret hC hG hS hcc hss hw dq_It_stringSize_46
    · replace hw := hw.2 h
      refine lv_iload_n hx hb dq_It_stringSize_22 rfl (lx_at hl 0 rfl) ?_
      refine lv_iload_n hx hb dq_It_stringSize_23 rfl (lx_at hl 2 rfl) ?_
      refine lv_icmp_le (tgt := 31) hx hb dq_It_stringSize_24 rfl (fun h => ?_) (fun h => ?_)
      · replace hw := hw.1 h
        refine lv_bipush (v := (10 : Int32)) hx hb dq_It_stringSize_31 rfl ?_
        refine lv_iload_n hx hb dq_It_stringSize_33 rfl (lx_at hl 2 rfl) ?_
        refine lv_imul hx hb dq_It_stringSize_34 ?_
        refine lx_istore_n (lv' := [(2, 1, .int ((10 : Int32) * x2)), (0, 1, .int x0), (1, 1, .int x1), (3, 1, .int x3)]) hx hb dq_It_stringSize_35 rfl hl (by decide) rfl (fun ls hl' => ?_)
        clear hl
        have hl := hl'
        clear hl'
        refine lx_iinc (k := 3) (v := (x3 + (1 : Int32))) (lv' := [(3, 1, .int (x3 + (1 : Int32))), (2, 1, .int ((10 : Int32) * x2)), (0, 1, .int x0), (1, 1, .int x1)]) hx hb dq_It_stringSize_36 hl rfl rfl (by decide) rfl (fun ls hl' => ?_)
        clear hl
        have hl := hl'
        clear hl'
        refine lv_goto (tgt := 16) hx hb dq_It_stringSize_39 rfl ?_
        exact ih hw hG hS (lx_sub hl [2, 3, 1, 0] rfl) hcc hss
      · replace hw := hw.2 h
        refine lv_iload_n hx hb dq_It_stringSize_27 rfl (lx_at hl 3 rfl) ?_
        refine lv_iload_n hx hb dq_It_stringSize_28 rfl (lx_at hl 1 rfl) ?_
        refine lv_iadd hx hb dq_It_stringSize_29 ?_
        exact wo_iret hC hG hS hcc hss hw dq_It_stringSize_30
set_option maxRecDepth 100000 in
set_option maxHeartbeats 4000000 in
theorem tq_It_stringSize_11 {p : Program} {l : Launch} {e : Env} {R : Room} {s₀ : State} {m : MethodId} {args : Array Value} {below : List Frame} {meth : Method} {cd : Code} {E : wo_E} {mc ms : Nat} {Post : Int32 → wo_W → Prop} (hC : wo_Cx E "java/lang/Integer" prog_19_method_13_code 4 0 0 ((Option.some Jvm.ClassFile.FieldType.int)) "stringSize" mc ms p R s₀ m args meth cd) : ∀ {G : wo_W} {c s : Nat} {x0 : Int32} {x1 : Int32}, pq_It_stringSize_11 E mc ms Post G c s x0 x1 → ∀ {H : Heap} {locs : List Loc} {ls : Array Slot}, wo_Se E G H → va_S (en_A E) s₀.heap H locs → lx_has ls 4 [(0, 1, .int x0), (1, 1, .int x1)] → c ≤ mc → s ≤ ms → W p l e R s₀ m args below meth cd H locs c s (MQ below (va_Qi Post (wo_B E) (en_A E)) args s₀ mc ms (en_A E)) (F0 m 11 ls []) := by
  intro G c s x0 x1 hw H locs ls hG hS hl hcc hss
  dsimp only [pq_It_stringSize_11] at hw
  have hx := hC.1
  have hb := hC.2.1
  refine lv_bipush (v := (-10 : Int32)) hx hb dq_It_stringSize_11 rfl ?_
  refine lx_istore_n (lv' := [(2, 1, .int (-10 : Int32)), (0, 1, .int x0), (1, 1, .int x1)]) hx hb dq_It_stringSize_13 rfl hl (by decide) rfl (fun ls hl' => ?_)
  clear hl
  have hl := hl'
  clear hl'
  refine lv_iconst (v := (1 : Int32)) hx hb dq_It_stringSize_14 rfl ?_
  refine lx_istore_n (lv' := [(3, 1, .int (1 : Int32)), (2, 1, .int (-10 : Int32)), (0, 1, .int x0), (1, 1, .int x1)]) hx hb dq_It_stringSize_15 rfl hl (by decide) rfl (fun ls hl' => ?_)
  clear hl
  have hl := hl'
  clear hl'
  obtain ⟨n1, hw⟩ := hw
  exact tq_It_stringSize_16 hC n1 hw hG hS (lx_sub hl [2, 3, 1, 0] rfl) hcc hss
set_option maxRecDepth 100000 in
set_option maxHeartbeats 4000000 in
theorem tq_It_stringSize_0 {p : Program} {l : Launch} {e : Env} {R : Room} {s₀ : State} {m : MethodId} {args : Array Value} {below : List Frame} {meth : Method} {cd : Code} {E : wo_E} {mc ms : Nat} {Post : Int32 → wo_W → Prop} (hC : wo_Cx E "java/lang/Integer" prog_19_method_13_code 4 0 0 ((Option.some Jvm.ClassFile.FieldType.int)) "stringSize" mc ms p R s₀ m args meth cd) : ∀ {G : wo_W} {c s : Nat} {x0 : Int32}, pq_It_stringSize_0 E mc ms Post G c s x0 → ∀ {H : Heap} {locs : List Loc} {ls : Array Slot}, wo_Se E G H → va_S (en_A E) s₀.heap H locs → lx_has ls 4 [(0, 1, .int x0)] → c ≤ mc → s ≤ ms → W p l e R s₀ m args below meth cd H locs c s (MQ below (va_Qi Post (wo_B E) (en_A E)) args s₀ mc ms (en_A E)) (F0 m 0 ls []) := by
  intro G c s x0 hw H locs ls hG hS hl hcc hss
  dsimp only [pq_It_stringSize_0] at hw
  have hx := hC.1
  have hb := hC.2.1
  refine lv_iconst (v := (1 : Int32)) hx hb dq_It_stringSize_0 rfl ?_
  refine lx_istore_n (lv' := [(1, 1, .int (1 : Int32)), (0, 1, .int x0)]) hx hb dq_It_stringSize_1 rfl hl (by decide) rfl (fun ls hl' => ?_)
  clear hl
  have hl := hl'
  clear hl'
  refine lv_iload_n hx hb dq_It_stringSize_2 rfl (lx_at hl 1 rfl) ?_
  refine lv_if_lt (tgt := 11) hx hb dq_It_stringSize_3 rfl (fun h => ?_) (fun h => ?_)
  · replace hw := hw.1 h
    exact tq_It_stringSize_11 hC hw hG hS (lx_sub hl [1, 0] rfl) hcc hss
  · replace hw := hw.2 h
    refine lv_iconst (v := (0 : Int32)) hx hb dq_It_stringSize_6 rfl ?_
    refine lx_istore_n (lv' := [(1, 1, .int (0 : Int32)), (0, 1, .int x0)]) hx hb dq_It_stringSize_7 rfl hl (by decide) rfl (fun ls hl' => ?_)
    clear hl
    have hl := hl'
    clear hl'
    refine lv_iload_n hx hb dq_It_stringSize_8 rfl (lx_at hl 1 rfl) ?_
    refine lv_ineg hx hb dq_It_stringSize_9 ?_
    refine lx_istore_n (lv' := [(0, 1, .int (-x0)), (1, 1, .int (0 : Int32))]) hx hb dq_It_stringSize_10 rfl hl (by decide) rfl (fun ls hl' => ?_)
    clear hl
    have hl := hl'
    clear hl'
    exact tq_It_stringSize_11 hC hw hG hS (lx_sub hl [0, 1] rfl) hcc hss
set_option maxHeartbeats 4000000 in
theorem mq_It_stringSize {l : Launch} {E : wo_E} {mc ms : Nat} {Post : Int32 → wo_W → Prop} {G : wo_W} {x0 : Int32} (hw : pq_It_stringSize E mc ms Post G x0) : Met l yq_It_stringSize (Cond.code yq_It_stringSize prog_19_method_13_code 4 ((Option.some Jvm.ClassFile.FieldType.int)) :: vw_WG) { frames := 0, cells := mc, slots := ms, locals := 0 } (va_Pc [.int x0] (wo_Ok E G)) (va_Qi Post (wo_B E) (en_A E)) mc ms (en_A E) := by
  unfold pq_It_stringSize at hw
  exact wo_met [(1, .int x0)] rfl (by decide) (fun q hq => by simp only [List.mem_cons, List.not_mem_nil, or_false] at hq; rcases hq with rfl <;> first | rfl | exact lx_cR _) (Nat.le_of_ble_eq_true rfl) (fun p e R s m args below meth cd ls hC hG hS hl => tq_It_stringSize_0 hC hw hG hS (lx_sub hl [0] rfl) (Nat.zero_le _) (Nat.zero_le _))

theorem dq_AB_append_I_0 : decode prog_16_method_32_code 0 = .ok (.aload_n 0, 1) := by decide +kernel
theorem dq_AB_append_I_1 : decode prog_16_method_32_code 1 = .ok (.getfield 79, 3) := by decide +kernel
theorem dq_AB_append_I_4 : decode prog_16_method_32_code 4 = .ok (.istore_n 2, 1) := by decide +kernel
theorem dq_AB_append_I_5 : decode prog_16_method_32_code 5 = .ok (.iload_n 2, 1) := by decide +kernel
theorem dq_AB_append_I_6 : decode prog_16_method_32_code 6 = .ok (.iload_n 1, 1) := by decide +kernel
theorem dq_AB_append_I_7 : decode prog_16_method_32_code 7 = .ok (.invokestatic 245, 3) := by decide +kernel
theorem dq_AB_append_I_10 : decode prog_16_method_32_code 10 = .ok (.iadd, 1) := by decide +kernel
theorem dq_AB_append_I_11 : decode prog_16_method_32_code 11 = .ok (.istore_n 3, 1) := by decide +kernel
theorem dq_AB_append_I_12 : decode prog_16_method_32_code 12 = .ok (.aload_n 0, 1) := by decide +kernel
theorem dq_AB_append_I_13 : decode prog_16_method_32_code 13 = .ok (.iload_n 3, 1) := by decide +kernel
theorem dq_AB_append_I_14 : decode prog_16_method_32_code 14 = .ok (.invokevirtual 100, 3) := by decide +kernel
theorem dq_AB_append_I_17 : decode prog_16_method_32_code 17 = .ok (.aload_n 0, 1) := by decide +kernel
theorem dq_AB_append_I_18 : decode prog_16_method_32_code 18 = .ok (.invokevirtual 83, 3) := by decide +kernel
theorem dq_AB_append_I_21 : decode prog_16_method_32_code 21 = .ok (.ifCond .eq 16, 3) := by decide +kernel
theorem dq_AB_append_I_24 : decode prog_16_method_32_code 24 = .ok (.iload_n 1, 1) := by decide +kernel
theorem dq_AB_append_I_25 : decode prog_16_method_32_code 25 = .ok (.iload_n 3, 1) := by decide +kernel
theorem dq_AB_append_I_26 : decode prog_16_method_32_code 26 = .ok (.aload_n 0, 1) := by decide +kernel
theorem dq_AB_append_I_27 : decode prog_16_method_32_code 27 = .ok (.getfield 15, 3) := by decide +kernel
theorem dq_AB_append_I_30 : decode prog_16_method_32_code 30 = .ok (.invokestatic 248, 3) := by decide +kernel
theorem dq_AB_append_I_33 : decode prog_16_method_32_code 33 = .ok (.pop, 1) := by decide +kernel
theorem dq_AB_append_I_34 : decode prog_16_method_32_code 34 = .ok (.goto 14, 3) := by decide +kernel
theorem dq_AB_append_I_48 : decode prog_16_method_32_code 48 = .ok (.aload_n 0, 1) := by decide +kernel
theorem dq_AB_append_I_49 : decode prog_16_method_32_code 49 = .ok (.iload_n 3, 1) := by decide +kernel
theorem dq_AB_append_I_50 : decode prog_16_method_32_code 50 = .ok (.putfield 79, 3) := by decide +kernel
theorem dq_AB_append_I_53 : decode prog_16_method_32_code 53 = .ok (.aload_n 0, 1) := by decide +kernel
theorem dq_AB_append_I_54 : decode prog_16_method_32_code 54 = .ok (.areturn, 1) := by decide +kernel
set_option maxRecDepth 100000 in
def pq_AB_append_I_0 (E : wo_E) (mc ms : Nat) (Post : Option Nat → wo_W → Prop) (G : wo_W) (c s : Nat) (x0 : Nat) (x1 : Int32) : Prop := wo_ty G x0 = 5 ∧ ∃ mc2 ms3 : Nat, (c + mc2) ≤ mc ∧ (s + ms3) ≤ ms ∧ pq_It_stringSize E mc2 ms3 (fun v5 G4 => 
  wo_ty G4 x0 = 5 ∧ ∃ mc7 ms8 : Nat, ((c + mc2) + mc7) ≤ mc ∧ ((s + ms3) + ms8) ≤ ms ∧ pq_AB_ensureCapacityInternal E mc7 ms8 (fun G9 => 
    wo_ty G9 x0 = 5 ∧ ∃ mc11 ms12 : Nat, (((c + mc2) + mc7) + mc11) ≤ mc ∧ (((s + ms3) + ms8) + ms12) ≤ ms ∧ pq_AB_isLatin1 E mc11 ms12 (fun v14 G13 => 
      ((v14 = (0 : Int32) → False) ∧
        (¬ v14 = (0 : Int32) → wo_ty G13 x0 = 5 ∧ ∀ r16 : Option Nat, r16 = wo_gr G13 256 x0 → ∃ mc18 ms19 : Nat, ((((c + mc2) + mc7) + mc11) + mc18) ≤ mc ∧ ((((s + ms3) + ms8) + ms12) + ms19) ≤ ms ∧ pq_It_getChars E mc18 ms19 (fun v21 G20 => 
          wo_ty G20 x0 = 5 ∧ en_bs E ≤ x0 ∧ ∀ G24 : wo_W, G24 = wo_si G20 259 x0 ((wo_gi G 259 x0) + v5) → 
            Post (some x0) G24) G13 x1 ((wo_gi G 259 x0) + v5) r16))) G9 x0) G4 x0 ((wo_gi G 259 x0) + v5)) G x1
def pq_AB_append_I (E : wo_E) (mc ms : Nat) (Post : Option Nat → wo_W → Prop) (G : wo_W) (x0 : Nat) (x1 : Int32) : Prop := pq_AB_append_I_0 E mc ms Post G 0 0 x0 x1
set_option maxRecDepth 100000 in
set_option maxHeartbeats 4000000 in
theorem tq_AB_append_I_0 {p : Program} {l : Launch} {e : Env} {R : Room} {s₀ : State} {m : MethodId} {args : Array Value} {below : List Frame} {meth : Method} {cd : Code} {E : wo_E} {mc ms : Nat} {Post : Option Nat → wo_W → Prop} (hC : wo_Cx E "java/lang/AbstractStringBuilder" prog_16_method_32_code 4 4 98 ((Option.some (Jvm.ClassFile.FieldType.object "java/lang/AbstractStringBuilder"))) "append" mc ms p R s₀ m args meth cd) : ∀ {G : wo_W} {c s : Nat} {x0 : Nat} {x1 : Int32}, pq_AB_append_I_0 E mc ms Post G c s x0 x1 → ∀ {H : Heap} {locs : List Loc} {ls : Array Slot}, wo_Se E G H → va_S (en_A E) s₀.heap H locs → lx_has ls 4 [(0, 1, .ref x0), (1, 1, .int x1)] → c ≤ mc → s ≤ ms → W p l e R s₀ m args below meth cd H locs c s (MQ below (va_Qq Post (wo_B E) (en_A E)) args s₀ mc ms (en_A E)) (F0 m 0 ls []) := by
  intro G c s x0 x1 hw H locs ls hG hS hl hcc hss
  dsimp only [pq_AB_append_I_0] at hw
  have hx := hC.1
  have hb := hC.2.1
  refine lv_aload_n hx hb dq_AB_append_I_0 rfl (lx_at hl 0 rfl) ?_
  obtain ⟨t1, hw⟩ := hw
  refine wo_getI hC fq_AB_79 rfl hG t1 dq_AB_append_I_1 ?_
  refine lx_istore_n (lv' := [(2, 1, .int (wo_gi G 259 x0)), (0, 1, .ref x0), (1, 1, .int x1)]) hx hb dq_AB_append_I_4 rfl hl (by decide) rfl (fun ls hl' => ?_)
  clear hl
  have hl := hl'
  clear hl'
  refine lv_iload_n hx hb dq_AB_append_I_5 rfl (lx_at hl 0 rfl) ?_
  refine lv_iload_n hx hb dq_AB_append_I_6 rfl (lx_at hl 2 rfl) ?_
  obtain ⟨mc2, ms3, hc1, hs1, hw⟩ := hw
  refine va_calli (wo_runS hC lq_AB_245 (mq_It_stringSize hw) hG hS rfl (lx_sz hl) rfl (lx_rm (Nat.le_of_ble_eq_true rfl)) (by decide) dq_AB_append_I_7 ⟨hc1, hs1⟩) hS (fun _ _ h => h) (fun _ h => h) (fun v5 G4 t H locs ht hvm hw' hB _ _ hS => ?_)
  clear hw
  have hw := hw'
  clear hw'
  replace hG := wo_bk ht hB
  replace hcc := hc1
  replace hss := hs1
  refine lv_iadd hx hb dq_AB_append_I_10 ?_
  refine lx_istore_n (lv' := [(3, 1, .int ((wo_gi G 259 x0) + v5)), (2, 1, .int (wo_gi G 259 x0)), (0, 1, .ref x0), (1, 1, .int x1)]) hx hb dq_AB_append_I_11 rfl hl (by decide) rfl (fun ls hl' => ?_)
  clear hl
  have hl := hl'
  clear hl'
  refine lv_aload_n hx hb dq_AB_append_I_12 rfl (lx_at hl 2 rfl) ?_
  refine lv_iload_n hx hb dq_AB_append_I_13 rfl (lx_at hl 0 rfl) ?_
  obtain ⟨t6, hw⟩ := hw
  obtain ⟨mc7, ms8, hc1, hs1, hw⟩ := hw
  refine va_callv (wo_runV hC lq_AB_100 (mq_AB_ensureCapacityInternal hw) hG hS t6 rfl (lx_sz hl) rfl (Nat.zero_le _) (by decide) dq_AB_append_I_14 ⟨hc1, hs1⟩) hS (fun _ _ h => h) (fun _ h => h) (fun G9 t H locs ht hvm hw' hB _ _ hS => ?_)
  clear hw
  have hw := hw'
  clear hw'
  replace hG := wo_bk ht hB
  replace hcc := hc1
  replace hss := hs1
  refine lv_aload_n hx hb dq_AB_append_I_17 rfl (lx_at hl 2 rfl) ?_
  obtain ⟨t10, hw⟩ := hw
  obtain ⟨mc11, ms12, hc1, hs1, hw⟩ := hw
  refine va_calli (wo_runV hC lq_AB_83 (mq_AB_isLatin1 hw) hG hS t10 rfl (lx_sz hl) rfl (Nat.zero_le _) (by decide) dq_AB_append_I_18 ⟨hc1, hs1⟩) hS (fun _ _ h => h) (fun _ h => h) (fun v14 G13 t H locs ht hvm hw' hB _ _ hS => ?_)
  clear hw
  have hw := hw'
  clear hw'
  replace hG := wo_bk ht hB
  replace hcc := hc1
  replace hss := hs1
  refine lv_if_eq (tgt := 37) hx hb dq_AB_append_I_21 rfl (fun h => ?_) (fun h => ?_)
  · replace hw := hw.1 h
    exact hw.elim
  · replace hw := hw.2 h
    refine lv_iload_n hx hb dq_AB_append_I_24 rfl (lx_at hl 3 rfl) ?_
    refine lv_iload_n hx hb dq_AB_append_I_25 rfl (lx_at hl 0 rfl) ?_
    refine lv_aload_n hx hb dq_AB_append_I_26 rfl (lx_at hl 2 rfl) ?_
    obtain ⟨t15, hw⟩ := hw
    refine wo_getR hC fq_AB_15 rfl hG t15 dq_AB_append_I_27 (fun r16 e17 => ?_)
    replace hw := hw r16 e17
    obtain ⟨mc18, ms19, hc1, hs1, hw⟩ := hw
    refine va_calli (wo_runS hC lq_AB_248 (mq_It_getChars hw) hG hS rfl (lx_sz hl) rfl (Nat.zero_le _) (by decide) dq_AB_append_I_30 ⟨hc1, hs1⟩) hS (fun _ _ h => h) (fun _ h => h) (fun v21 G20 t H locs ht hvm hw' hB _ _ hS => ?_)
    clear hw
    have hw := hw'
    clear hw'
    replace hG := wo_bk ht hB
    replace hcc := hc1
    replace hss := hs1
    refine lv_pop hx hb dq_AB_append_I_33 rfl ?_
    refine lv_goto (tgt := 48) hx hb dq_AB_append_I_34 rfl ?_
    refine lv_aload_n hx hb dq_AB_append_I_48 rfl (lx_at hl 2 rfl) ?_
    refine lv_iload_n hx hb dq_AB_append_I_49 rfl (lx_at hl 0 rfl) ?_
    obtain ⟨t22, hw⟩ := hw
    obtain ⟨h23, hw⟩ := hw
    refine wo_putI hC fq_AB_79 (Or.inl rfl) rfl (wo_ok_int _) hG hS t22 h23 dq_AB_append_I_50 (fun G24 H locs e25 hG hS => ?_)
    replace hw := hw G24 e25
    refine lv_aload_n hx hb dq_AB_append_I_53 rfl (lx_at hl 2 rfl) ?_
    exact wo_aret (x := (some x0)) hC rfl hG hS hcc hss hw dq_AB_append_I_54
set_option maxHeartbeats 4000000 in
theorem mq_AB_append_I {l : Launch} {E : wo_E} {mc ms : Nat} {Post : Option Nat → wo_W → Prop} {G : wo_W} {x0 : Nat} {x1 : Int32} (hw : pq_AB_append_I E mc ms Post G x0 x1) : Met l yq_AB_append_I (Cond.code yq_AB_append_I prog_16_method_32_code 4 ((Option.some (Jvm.ClassFile.FieldType.object "java/lang/AbstractStringBuilder"))) :: vw_WG) { frames := 4, cells := mc, slots := ms, locals := 98 } (va_Pc [.ref x0, .int x1] (wo_Ok E G)) (va_Qq Post (wo_B E) (en_A E)) mc ms (en_A E) := by
  unfold pq_AB_append_I at hw
  exact wo_met [(1, .ref x0), (1, .int x1)] rfl (by decide) (fun q hq => by simp only [List.mem_cons, List.not_mem_nil, or_false] at hq; rcases hq with rfl | rfl <;> first | rfl | exact lx_cR _) (Nat.le_of_ble_eq_true rfl) (fun p e R s m args below meth cd ls hC hG hS hl => tq_AB_append_I_0 hC hw hG hS (lx_sub hl [0, 1] rfl) (Nat.zero_le _) (Nat.zero_le _))

theorem dq_SB_append_I_0 : decode prog_23_method_15_code 0 = .ok (.aload_n 0, 1) := by decide +kernel
theorem dq_SB_append_I_1 : decode prog_23_method_15_code 1 = .ok (.iload_n 1, 1) := by decide +kernel
theorem dq_SB_append_I_2 : decode prog_23_method_15_code 2 = .ok (.invokespecial 53, 3) := by decide +kernel
theorem dq_SB_append_I_5 : decode prog_23_method_15_code 5 = .ok (.pop, 1) := by decide +kernel
theorem dq_SB_append_I_6 : decode prog_23_method_15_code 6 = .ok (.aload_n 0, 1) := by decide +kernel
theorem dq_SB_append_I_7 : decode prog_23_method_15_code 7 = .ok (.areturn, 1) := by decide +kernel
set_option maxRecDepth 100000 in
def pq_SB_append_I_0 (E : wo_E) (mc ms : Nat) (Post : Option Nat → wo_W → Prop) (G : wo_W) (c s : Nat) (x0 : Nat) (x1 : Int32) : Prop := wo_ty G x0 = 5 ∧ ∃ mc2 ms3 : Nat, (c + mc2) ≤ mc ∧ (s + ms3) ≤ ms ∧ pq_AB_append_I E mc2 ms3 (fun v5 G4 => 
  Post (some x0) G4) G x0 x1
def pq_SB_append_I (E : wo_E) (mc ms : Nat) (Post : Option Nat → wo_W → Prop) (G : wo_W) (x0 : Nat) (x1 : Int32) : Prop := pq_SB_append_I_0 E mc ms Post G 0 0 x0 x1
set_option maxRecDepth 100000 in
set_option maxHeartbeats 4000000 in
theorem tq_SB_append_I_0 {p : Program} {l : Launch} {e : Env} {R : Room} {s₀ : State} {m : MethodId} {args : Array Value} {below : List Frame} {meth : Method} {cd : Code} {E : wo_E} {mc ms : Nat} {Post : Option Nat → wo_W → Prop} (hC : wo_Cx E "java/lang/StringBuilder" prog_23_method_15_code 2 5 121 ((Option.some (Jvm.ClassFile.FieldType.object "java/lang/StringBuilder"))) "append" mc ms p R s₀ m args meth cd) : ∀ {G : wo_W} {c s : Nat} {x0 : Nat} {x1 : Int32}, pq_SB_append_I_0 E mc ms Post G c s x0 x1 → ∀ {H : Heap} {locs : List Loc} {ls : Array Slot}, wo_Se E G H → va_S (en_A E) s₀.heap H locs → lx_has ls 2 [(0, 1, .ref x0), (1, 1, .int x1)] → c ≤ mc → s ≤ ms → W p l e R s₀ m args below meth cd H locs c s (MQ below (va_Qq Post (wo_B E) (en_A E)) args s₀ mc ms (en_A E)) (F0 m 0 ls []) := by
  intro G c s x0 x1 hw H locs ls hG hS hl hcc hss
  dsimp only [pq_SB_append_I_0] at hw
  have hx := hC.1
  have hb := hC.2.1
  refine lv_aload_n hx hb dq_SB_append_I_0 rfl (lx_at hl 0 rfl) ?_
  refine lv_iload_n hx hb dq_SB_append_I_1 rfl (lx_at hl 1 rfl) ?_
  obtain ⟨t1, hw⟩ := hw
  obtain ⟨mc2, ms3, hc1, hs1, hw⟩ := hw
  refine va_callq (wo_runP hC lq_SB_53 (mq_AB_append_I hw) hG hS t1 rfl (lx_sz hl) rfl (Nat.zero_le _) (by decide) dq_SB_append_I_2 ⟨hc1, hs1⟩) hS (fun _ _ h => h) (fun _ h => h) (fun v5 G4 t H locs ht hvm hw' hB _ _ hS => ?_)
  clear hw
  have hw := hw'
  clear hw'
  replace hG := wo_bk ht hB
  replace hcc := hc1
  replace hss := hs1
  refine lv_pop hx hb dq_SB_append_I_5 (lx_cR _) ?_
  refine lv_aload_n hx hb dq_SB_append_I_6 rfl (lx_at hl 0 rfl) ?_
  exact wo_aret (x := (some x0)) hC rfl hG hS hcc hss hw dq_SB_append_I_7
set_option maxHeartbeats 4000000 in
theorem mq_SB_append_I {l : Launch} {E : wo_E} {mc ms : Nat} {Post : Option Nat → wo_W → Prop} {G : wo_W} {x0 : Nat} {x1 : Int32} (hw : pq_SB_append_I E mc ms Post G x0 x1) : Met l yq_SB_append_I (Cond.code yq_SB_append_I prog_23_method_15_code 2 ((Option.some (Jvm.ClassFile.FieldType.object "java/lang/StringBuilder"))) :: vw_WG) { frames := 5, cells := mc, slots := ms, locals := 121 } (va_Pc [.ref x0, .int x1] (wo_Ok E G)) (va_Qq Post (wo_B E) (en_A E)) mc ms (en_A E) := by
  unfold pq_SB_append_I at hw
  exact wo_met [(1, .ref x0), (1, .int x1)] rfl (by decide) (fun q hq => by simp only [List.mem_cons, List.not_mem_nil, or_false] at hq; rcases hq with rfl | rfl <;> first | rfl | exact lx_cR _) (Nat.le_of_ble_eq_true rfl) (fun p e R s m args below meth cd ls hC hG hS hl => tq_SB_append_I_0 hC hw hG hS (lx_sub hl [0, 1] rfl) (Nat.zero_le _) (Nat.zero_le _))

theorem dq_Ar_rangeCheck_0 : decode prog_30_method_30_code 0 = .ok (.iload_n 1, 1) := by decide +kernel
theorem dq_Ar_rangeCheck_1 : decode prog_30_method_30_code 1 = .ok (.iload_n 2, 1) := by decide +kernel
theorem dq_Ar_rangeCheck_2 : decode prog_30_method_30_code 2 = .ok (.if_icmp .le 44, 3) := by decide +kernel
theorem dq_Ar_rangeCheck_46 : decode prog_30_method_30_code 46 = .ok (.iload_n 1, 1) := by decide +kernel
theorem dq_Ar_rangeCheck_47 : decode prog_30_method_30_code 47 = .ok (.ifCond .ge 12, 3) := by decide +kernel
theorem dq_Ar_rangeCheck_59 : decode prog_30_method_30_code 59 = .ok (.iload_n 2, 1) := by decide +kernel
theorem dq_Ar_rangeCheck_60 : decode prog_30_method_30_code 60 = .ok (.iload_n 0, 1) := by decide +kernel
theorem dq_Ar_rangeCheck_61 : decode prog_30_method_30_code 61 = .ok (.if_icmp .le 12, 3) := by decide +kernel
theorem dq_Ar_rangeCheck_73 : decode prog_30_method_30_code 73 = .ok (.return_, 1) := by decide +kernel
set_option maxRecDepth 100000 in
def pq_Ar_rangeCheck_0 (E : wo_E) (mc ms : Nat) (Post : wo_W → Prop) (G : wo_W) (c s : Nat) (x0 : Int32) (x1 : Int32) (x2 : Int32) : Prop := ((x1 ≤ x2 → (((0 : Int32) ≤ x1 → ((x2 ≤ x0 → Post G) ∧
      (¬ x2 ≤ x0 → False))) ∧
    (¬ (0 : Int32) ≤ x1 → False))) ∧
  (¬ x1 ≤ x2 → False))
def pq_Ar_rangeCheck (E : wo_E) (mc ms : Nat) (Post : wo_W → Prop) (G : wo_W) (x0 : Int32) (x1 : Int32) (x2 : Int32) : Prop := pq_Ar_rangeCheck_0 E mc ms Post G 0 0 x0 x1 x2
set_option maxRecDepth 100000 in
set_option maxHeartbeats 4000000 in
theorem tq_Ar_rangeCheck_0 {p : Program} {l : Launch} {e : Env} {R : Room} {s₀ : State} {m : MethodId} {args : Array Value} {below : List Frame} {meth : Method} {cd : Code} {E : wo_E} {mc ms : Nat} {Post : wo_W → Prop} (hC : wo_Cx E "java/util/Arrays" prog_30_method_30_code 3 0 0 ((Option.none : Option Jvm.ClassFile.FieldType)) "rangeCheck" mc ms p R s₀ m args meth cd) : ∀ {G : wo_W} {c s : Nat} {x0 : Int32} {x1 : Int32} {x2 : Int32}, pq_Ar_rangeCheck_0 E mc ms Post G c s x0 x1 x2 → ∀ {H : Heap} {locs : List Loc} {ls : Array Slot}, wo_Se E G H → va_S (en_A E) s₀.heap H locs → lx_has ls 3 [(0, 1, .int x0), (1, 1, .int x1), (2, 1, .int x2)] → c ≤ mc → s ≤ ms → W p l e R s₀ m args below meth cd H locs c s (MQ below (va_Qv Post (wo_B E) (en_A E)) args s₀ mc ms (en_A E)) (F0 m 0 ls []) := by
  intro G c s x0 x1 x2 hw H locs ls hG hS hl hcc hss
  dsimp only [pq_Ar_rangeCheck_0] at hw
  have hx := hC.1
  have hb := hC.2.1
  refine lv_iload_n hx hb dq_Ar_rangeCheck_0 rfl (lx_at hl 1 rfl) ?_
  refine lv_iload_n hx hb dq_Ar_rangeCheck_1 rfl (lx_at hl 2 rfl) ?_
  refine lv_icmp_le (tgt := 46) hx hb dq_Ar_rangeCheck_2 rfl (fun h => ?_) (fun h => ?_)
  · replace hw := hw.1 h
    refine lv_iload_n hx hb dq_Ar_rangeCheck_46 rfl (lx_at hl 1 rfl) ?_
    refine lv_if_ge (tgt := 59) hx hb dq_Ar_rangeCheck_47 rfl (fun h => ?_) (fun h => ?_)
    · replace hw := hw.1 h
      refine lv_iload_n hx hb dq_Ar_rangeCheck_59 rfl (lx_at hl 2 rfl) ?_
      refine lv_iload_n hx hb dq_Ar_rangeCheck_60 rfl (lx_at hl 0 rfl) ?_
      refine lv_icmp_le (tgt := 73) hx hb dq_Ar_rangeCheck_61 rfl (fun h => ?_) (fun h => ?_)
      · replace hw := hw.1 h
        exact wo_vret hC hG hS hcc hss hw dq_Ar_rangeCheck_73
      · replace hw := hw.2 h
        exact hw.elim
    · replace hw := hw.2 h
      exact hw.elim
  · replace hw := hw.2 h
    exact hw.elim
set_option maxHeartbeats 4000000 in
theorem mq_Ar_rangeCheck {l : Launch} {E : wo_E} {mc ms : Nat} {Post : wo_W → Prop} {G : wo_W} {x0 : Int32} {x1 : Int32} {x2 : Int32} (hw : pq_Ar_rangeCheck E mc ms Post G x0 x1 x2) : Met l yq_Ar_rangeCheck (Cond.code yq_Ar_rangeCheck prog_30_method_30_code 3 ((Option.none : Option Jvm.ClassFile.FieldType)) :: vw_WG) { frames := 0, cells := mc, slots := ms, locals := 0 } (va_Pc [.int x0, .int x1, .int x2] (wo_Ok E G)) (va_Qv Post (wo_B E) (en_A E)) mc ms (en_A E) := by
  unfold pq_Ar_rangeCheck at hw
  exact wo_met [(1, .int x0), (1, .int x1), (1, .int x2)] rfl (by decide) (fun q hq => by simp only [List.mem_cons, List.not_mem_nil, or_false] at hq; rcases hq with rfl | rfl | rfl <;> first | rfl | exact lx_cR _) (Nat.le_of_ble_eq_true rfl) (fun p e R s m args below meth cd ls hC hG hS hl => tq_Ar_rangeCheck_0 hC hw hG hS (lx_sub hl [0, 1, 2] rfl) (Nat.zero_le _) (Nat.zero_le _))

theorem dq_Ar_fill_0 : decode prog_30_method_110_code 0 = .ok (.aload_n 0, 1) := by decide +kernel
theorem dq_Ar_fill_1 : decode prog_30_method_110_code 1 = .ok (.arraylength, 1) := by decide +kernel
theorem dq_Ar_fill_2 : decode prog_30_method_110_code 2 = .ok (.iload_n 1, 1) := by decide +kernel
theorem dq_Ar_fill_3 : decode prog_30_method_110_code 3 = .ok (.iload_n 2, 1) := by decide +kernel
theorem dq_Ar_fill_4 : decode prog_30_method_110_code 4 = .ok (.invokestatic 13, 3) := by decide +kernel
theorem dq_Ar_fill_7 : decode prog_30_method_110_code 7 = .ok (.iload_n 1, 1) := by decide +kernel
theorem dq_Ar_fill_8 : decode prog_30_method_110_code 8 = .ok (.istore 4, 2) := by decide +kernel
theorem dq_Ar_fill_10 : decode prog_30_method_110_code 10 = .ok (.iload 4, 2) := by decide +kernel
theorem dq_Ar_fill_12 : decode prog_30_method_110_code 12 = .ok (.iload_n 2, 1) := by decide +kernel
theorem dq_Ar_fill_13 : decode prog_30_method_110_code 13 = .ok (.if_icmp .ge 14, 3) := by decide +kernel
theorem dq_Ar_fill_16 : decode prog_30_method_110_code 16 = .ok (.aload_n 0, 1) := by decide +kernel
theorem dq_Ar_fill_17 : decode prog_30_method_110_code 17 = .ok (.iload 4, 2) := by decide +kernel
theorem dq_Ar_fill_19 : decode prog_30_method_110_code 19 = .ok (.iload_n 3, 1) := by decide +kernel
theorem dq_Ar_fill_20 : decode prog_30_method_110_code 20 = .ok (.bastore, 1) := by decide +kernel
theorem dq_Ar_fill_21 : decode prog_30_method_110_code 21 = .ok (.iinc 4 1, 3) := by decide +kernel
theorem dq_Ar_fill_24 : decode prog_30_method_110_code 24 = .ok (.goto (-14), 3) := by decide +kernel
theorem dq_Ar_fill_27 : decode prog_30_method_110_code 27 = .ok (.return_, 1) := by decide +kernel
set_option maxRecDepth 100000 in
def pq_Ar_fill_10 (E : wo_E) (mc ms : Nat) (Post : wo_W → Prop) : Nat → wo_W → Nat → Nat → Option Nat → Int32 → Int32 → Int32 → Prop
  | 0 => fun _ _ _ _ _ _ _ => False
  | n + 1 => fun G c s x0 x2 x3 x4 => ((x2 ≤ x4 → Post G) ∧
  (¬ x2 ≤ x4 → ∃ a1 : Nat, x0 = some a1 ∧ wo_ty G a1 = 65 ∧ vp_in x4 (wo_len G a1) ∧ en_bs E ≤ a1 ∧ ∀ G5 : wo_W, G5 = wo_sei G a1 x4.toNatClampNeg (vp_nar .byte x3) → 
    pq_Ar_fill_10 E mc ms Post n G5 c s (some a1) x2 x3 (x4 + (1 : Int32))))
set_option maxRecDepth 100000 in
def pq_Ar_fill_0 (E : wo_E) (mc ms : Nat) (Post : wo_W → Prop) (G : wo_W) (c s : Nat) (x0 : Option Nat) (x1 : Int32) (x2 : Int32) (x3 : Int32) : Prop := ∃ a1 : Nat, x0 = some a1 ∧ wo_ty G a1 = 65 ∧ ∃ mc3 ms4 : Nat, (c + mc3) ≤ mc ∧ (s + ms4) ≤ ms ∧ pq_Ar_rangeCheck E mc3 ms4 (fun G5 => 
  ∃ n1 : Nat, pq_Ar_fill_10 E mc ms Post n1 G5 (c + mc3) (s + ms4) (some a1) x2 x3 x1) G (nI (wo_len G a1)) x1 x2
def pq_Ar_fill (E : wo_E) (mc ms : Nat) (Post : wo_W → Prop) (G : wo_W) (x0 : Option Nat) (x1 : Int32) (x2 : Int32) (x3 : Int32) : Prop := pq_Ar_fill_0 E mc ms Post G 0 0 x0 x1 x2 x3
set_option maxRecDepth 100000 in
set_option maxHeartbeats 4000000 in
theorem tq_Ar_fill_10 {p : Program} {l : Launch} {e : Env} {R : Room} {s₀ : State} {m : MethodId} {args : Array Value} {below : List Frame} {meth : Method} {cd : Code} {E : wo_E} {mc ms : Nat} {Post : wo_W → Prop} (hC : wo_Cx E "java/util/Arrays" prog_30_method_110_code 5 1 22 ((Option.none : Option Jvm.ClassFile.FieldType)) "fill" mc ms p R s₀ m args meth cd) : ∀ n : Nat, ∀ {G : wo_W} {c s : Nat} {x0 : Option Nat} {x2 : Int32} {x3 : Int32} {x4 : Int32}, pq_Ar_fill_10 E mc ms Post n G c s x0 x2 x3 x4 → ∀ {H : Heap} {locs : List Loc} {ls : Array Slot}, wo_Se E G H → va_S (en_A E) s₀.heap H locs → lx_has ls 5 [(0, 1, va_rf x0), (2, 1, .int x2), (3, 1, .int x3), (4, 1, .int x4)] → c ≤ mc → s ≤ ms → W p l e R s₀ m args below meth cd H locs c s (MQ below (va_Qv Post (wo_B E) (en_A E)) args s₀ mc ms (en_A E)) (F0 m 10 ls []) := by
  intro n
  induction n with
  | zero => intro G c s x0 x2 x3 x4 hw; exact hw.elim
  | succ n ih =>
    intro G c s x0 x2 x3 x4 hw H locs ls hG hS hl hcc hss
    dsimp only [pq_Ar_fill_10] at hw
    have hx := hC.1
    have hb := hC.2.1
    refine lv_iload hx hb dq_Ar_fill_10 (lx_at hl 3 rfl) ?_
    refine lv_iload_n hx hb dq_Ar_fill_12 rfl (lx_at hl 1 rfl) ?_
    refine lv_icmp_ge (tgt := 27) hx hb dq_Ar_fill_13 rfl (fun h => ?_) (fun h => ?_)
    · replace hw := hw.1 h
      exact wo_vret hC hG hS hcc hss hw dq_Ar_fill_27
    · replace hw := hw.2 h
      refine lx_aloadR_n hx hb dq_Ar_fill_16 rfl (lx_at hl 0 rfl) ?_
      refine lv_iload hx hb dq_Ar_fill_17 (lx_at hl 3 rfl) ?_
      refine lv_iload_n hx hb dq_Ar_fill_19 rfl (lx_at hl 2 rfl) ?_
      obtain ⟨a1, rfl, hw⟩ := hw
      obtain ⟨t2, hw⟩ := hw
      obtain ⟨h3, hw⟩ := hw
      obtain ⟨h4, hw⟩ := hw
      refine wo_bast (j := 1) hC rfl hG hS t2 h3 h4 dq_Ar_fill_20 (fun G5 H locs e6 hG hS => ?_)
      replace hw := hw G5 e6
      refine lx_iinc (k := 3) (v := (x4 + (1 : Int32))) (lv' := [(4, 1, .int (x4 + (1 : Int32))), (0, 1, .ref a1), (2, 1, .int x2), (3, 1, .int x3)]) hx hb dq_Ar_fill_21 hl rfl rfl (by decide) rfl (fun ls hl' => ?_)
      clear hl
      have hl := hl'
      clear hl'
      refine lv_goto (tgt := 10) hx hb dq_Ar_fill_24 rfl ?_
      exact ih hw hG hS (lx_sub hl [1, 2, 3, 0] rfl) hcc hss
set_option maxRecDepth 100000 in
set_option maxHeartbeats 4000000 in
theorem tq_Ar_fill_0 {p : Program} {l : Launch} {e : Env} {R : Room} {s₀ : State} {m : MethodId} {args : Array Value} {below : List Frame} {meth : Method} {cd : Code} {E : wo_E} {mc ms : Nat} {Post : wo_W → Prop} (hC : wo_Cx E "java/util/Arrays" prog_30_method_110_code 5 1 22 ((Option.none : Option Jvm.ClassFile.FieldType)) "fill" mc ms p R s₀ m args meth cd) : ∀ {G : wo_W} {c s : Nat} {x0 : Option Nat} {x1 : Int32} {x2 : Int32} {x3 : Int32}, pq_Ar_fill_0 E mc ms Post G c s x0 x1 x2 x3 → ∀ {H : Heap} {locs : List Loc} {ls : Array Slot}, wo_Se E G H → va_S (en_A E) s₀.heap H locs → lx_has ls 5 [(0, 1, va_rf x0), (1, 1, .int x1), (2, 1, .int x2), (3, 1, .int x3)] → c ≤ mc → s ≤ ms → W p l e R s₀ m args below meth cd H locs c s (MQ below (va_Qv Post (wo_B E) (en_A E)) args s₀ mc ms (en_A E)) (F0 m 0 ls []) := by
  intro G c s x0 x1 x2 x3 hw H locs ls hG hS hl hcc hss
  dsimp only [pq_Ar_fill_0] at hw
  have hx := hC.1
  have hb := hC.2.1
  refine lx_aloadR_n hx hb dq_Ar_fill_0 rfl (lx_at hl 0 rfl) ?_
  obtain ⟨a1, rfl, hw⟩ := hw
  obtain ⟨t2, hw⟩ := hw
  refine wo_alen (j := 1) hC rfl hG t2 dq_Ar_fill_1 ?_
  refine lv_iload_n hx hb dq_Ar_fill_2 rfl (lx_at hl 1 rfl) ?_
  refine lv_iload_n hx hb dq_Ar_fill_3 rfl (lx_at hl 2 rfl) ?_
  obtain ⟨mc3, ms4, hc1, hs1, hw⟩ := hw
  refine va_callv (wo_runS hC lq_Ar_13 (mq_Ar_rangeCheck hw) hG hS rfl (lx_sz hl) rfl (Nat.zero_le _) (by decide) dq_Ar_fill_4 ⟨hc1, hs1⟩) hS (fun _ _ h => h) (fun _ h => h) (fun G5 t H locs ht hvm hw' hB _ _ hS => ?_)
  clear hw
  have hw := hw'
  clear hw'
  replace hG := wo_bk ht hB
  replace hcc := hc1
  replace hss := hs1
  refine lv_iload_n hx hb dq_Ar_fill_7 rfl (lx_at hl 1 rfl) ?_
  refine lx_istore (lv' := [(4, 1, .int x1), (0, 1, .ref a1), (1, 1, .int x1), (2, 1, .int x2), (3, 1, .int x3)]) hx hb dq_Ar_fill_8 hl (by decide) rfl (fun ls hl' => ?_)
  clear hl
  have hl := hl'
  clear hl'
  obtain ⟨n1, hw⟩ := hw
  exact tq_Ar_fill_10 hC n1 hw hG hS (lx_sub hl [1, 3, 4, 0] rfl) hcc hss
set_option maxHeartbeats 4000000 in
theorem mq_Ar_fill {l : Launch} {E : wo_E} {mc ms : Nat} {Post : wo_W → Prop} {G : wo_W} {x0 : Option Nat} {x1 : Int32} {x2 : Int32} {x3 : Int32} (hw : pq_Ar_fill E mc ms Post G x0 x1 x2 x3) : Met l yq_Ar_fill (Cond.code yq_Ar_fill prog_30_method_110_code 5 ((Option.none : Option Jvm.ClassFile.FieldType)) :: vw_WG) { frames := 1, cells := mc, slots := ms, locals := 22 } (va_Pc [va_rf x0, .int x1, .int x2, .int x3] (wo_Ok E G)) (va_Qv Post (wo_B E) (en_A E)) mc ms (en_A E) := by
  unfold pq_Ar_fill at hw
  exact wo_met [(1, va_rf x0), (1, .int x1), (1, .int x2), (1, .int x3)] rfl (by decide) (fun q hq => by simp only [List.mem_cons, List.not_mem_nil, or_false] at hq; rcases hq with rfl | rfl | rfl | rfl <;> first | rfl | exact lx_cR _) (Nat.le_of_ble_eq_true rfl) (fun p e R s m args below meth cd ls hC hG hS hl => tq_Ar_fill_0 hC hw hG hS (lx_sub hl [0, 1, 2, 3] rfl) (Nat.zero_le _) (Nat.zero_le _))

theorem dq_La_fillNull_0 : decode prog_24_method_48_code 0 = .ok (.aload_n 0, 1) := by decide +kernel
theorem dq_La_fillNull_1 : decode prog_24_method_48_code 1 = .ok (.iload_n 1, 1) := by decide +kernel
theorem dq_La_fillNull_2 : decode prog_24_method_48_code 2 = .ok (.iload_n 2, 1) := by decide +kernel
theorem dq_La_fillNull_3 : decode prog_24_method_48_code 3 = .ok (.iconst 0, 1) := by decide +kernel
theorem dq_La_fillNull_4 : decode prog_24_method_48_code 4 = .ok (.invokestatic 236, 3) := by decide +kernel
theorem dq_La_fillNull_7 : decode prog_24_method_48_code 7 = .ok (.return_, 1) := by decide +kernel
set_option maxRecDepth 100000 in
def pq_La_fillNull_0 (E : wo_E) (mc ms : Nat) (Post : wo_W → Prop) (G : wo_W) (c s : Nat) (x0 : Option Nat) (x1 : Int32) (x2 : Int32) : Prop := ∃ mc1 ms2 : Nat, (c + mc1) ≤ mc ∧ (s + ms2) ≤ ms ∧ pq_Ar_fill E mc1 ms2 (fun G3 => 
  Post G3) G x0 x1 x2 (0 : Int32)
def pq_La_fillNull (E : wo_E) (mc ms : Nat) (Post : wo_W → Prop) (G : wo_W) (x0 : Option Nat) (x1 : Int32) (x2 : Int32) : Prop := pq_La_fillNull_0 E mc ms Post G 0 0 x0 x1 x2
set_option maxRecDepth 100000 in
set_option maxHeartbeats 4000000 in
theorem tq_La_fillNull_0 {p : Program} {l : Launch} {e : Env} {R : Room} {s₀ : State} {m : MethodId} {args : Array Value} {below : List Frame} {meth : Method} {cd : Code} {E : wo_E} {mc ms : Nat} {Post : wo_W → Prop} (hC : wo_Cx E "java/lang/StringLatin1" prog_24_method_48_code 3 2 46 ((Option.none : Option Jvm.ClassFile.FieldType)) "fillNull" mc ms p R s₀ m args meth cd) : ∀ {G : wo_W} {c s : Nat} {x0 : Option Nat} {x1 : Int32} {x2 : Int32}, pq_La_fillNull_0 E mc ms Post G c s x0 x1 x2 → ∀ {H : Heap} {locs : List Loc} {ls : Array Slot}, wo_Se E G H → va_S (en_A E) s₀.heap H locs → lx_has ls 3 [(0, 1, va_rf x0), (1, 1, .int x1), (2, 1, .int x2)] → c ≤ mc → s ≤ ms → W p l e R s₀ m args below meth cd H locs c s (MQ below (va_Qv Post (wo_B E) (en_A E)) args s₀ mc ms (en_A E)) (F0 m 0 ls []) := by
  intro G c s x0 x1 x2 hw H locs ls hG hS hl hcc hss
  dsimp only [pq_La_fillNull_0] at hw
  have hx := hC.1
  have hb := hC.2.1
  refine lx_aloadR_n hx hb dq_La_fillNull_0 rfl (lx_at hl 0 rfl) ?_
  refine lv_iload_n hx hb dq_La_fillNull_1 rfl (lx_at hl 1 rfl) ?_
  refine lv_iload_n hx hb dq_La_fillNull_2 rfl (lx_at hl 2 rfl) ?_
  refine lv_iconst (v := (0 : Int32)) hx hb dq_La_fillNull_3 rfl ?_
  obtain ⟨mc1, ms2, hc1, hs1, hw⟩ := hw
  refine va_callv (wo_runS hC lq_La_236 (mq_Ar_fill hw) hG hS rfl (lx_sz hl) rfl (Nat.zero_le _) (by decide) dq_La_fillNull_4 ⟨hc1, hs1⟩) hS (fun _ _ h => h) (fun _ h => h) (fun G3 t H locs ht hvm hw' hB _ _ hS => ?_)
  clear hw
  have hw := hw'
  clear hw'
  replace hG := wo_bk ht hB
  replace hcc := hc1
  replace hss := hs1
  exact wo_vret hC hG hS hcc hss hw dq_La_fillNull_7
set_option maxHeartbeats 4000000 in
theorem mq_La_fillNull {l : Launch} {E : wo_E} {mc ms : Nat} {Post : wo_W → Prop} {G : wo_W} {x0 : Option Nat} {x1 : Int32} {x2 : Int32} (hw : pq_La_fillNull E mc ms Post G x0 x1 x2) : Met l yq_La_fillNull (Cond.code yq_La_fillNull prog_24_method_48_code 3 ((Option.none : Option Jvm.ClassFile.FieldType)) :: vw_WG) { frames := 2, cells := mc, slots := ms, locals := 46 } (va_Pc [va_rf x0, .int x1, .int x2] (wo_Ok E G)) (va_Qv Post (wo_B E) (en_A E)) mc ms (en_A E) := by
  unfold pq_La_fillNull at hw
  exact wo_met [(1, va_rf x0), (1, .int x1), (1, .int x2)] rfl (by decide) (fun q hq => by simp only [List.mem_cons, List.not_mem_nil, or_false] at hq; rcases hq with rfl | rfl | rfl <;> first | rfl | exact lx_cR _) (Nat.le_of_ble_eq_true rfl) (fun p e R s m args below meth cd ls hC hG hS hl => tq_La_fillNull_0 hC hw hG hS (lx_sub hl [0, 1, 2] rfl) (Nat.zero_le _) (Nat.zero_le _))

theorem dq_AB_setLength_0 : decode prog_16_method_13_code 0 = .ok (.iload_n 1, 1) := by decide +kernel
theorem dq_AB_setLength_1 : decode prog_16_method_13_code 1 = .ok (.ifCond .ge 12, 3) := by decide +kernel
theorem dq_AB_setLength_13 : decode prog_16_method_13_code 13 = .ok (.aload_n 0, 1) := by decide +kernel
theorem dq_AB_setLength_14 : decode prog_16_method_13_code 14 = .ok (.iload_n 1, 1) := by decide +kernel
theorem dq_AB_setLength_15 : decode prog_16_method_13_code 15 = .ok (.invokevirtual 100, 3) := by decide +kernel
theorem dq_AB_setLength_18 : decode prog_16_method_13_code 18 = .ok (.aload_n 0, 1) := by decide +kernel
theorem dq_AB_setLength_19 : decode prog_16_method_13_code 19 = .ok (.getfield 79, 3) := by decide +kernel
theorem dq_AB_setLength_22 : decode prog_16_method_13_code 22 = .ok (.iload_n 1, 1) := by decide +kernel
theorem dq_AB_setLength_23 : decode prog_16_method_13_code 23 = .ok (.if_icmp .ge 40, 3) := by decide +kernel
theorem dq_AB_setLength_26 : decode prog_16_method_13_code 26 = .ok (.aload_n 0, 1) := by decide +kernel
theorem dq_AB_setLength_27 : decode prog_16_method_13_code 27 = .ok (.invokevirtual 83, 3) := by decide +kernel
theorem dq_AB_setLength_30 : decode prog_16_method_13_code 30 = .ok (.ifCond .eq 18, 3) := by decide +kernel
theorem dq_AB_setLength_33 : decode prog_16_method_13_code 33 = .ok (.aload_n 0, 1) := by decide +kernel
theorem dq_AB_setLength_34 : decode prog_16_method_13_code 34 = .ok (.getfield 15, 3) := by decide +kernel
theorem dq_AB_setLength_37 : decode prog_16_method_13_code 37 = .ok (.aload_n 0, 1) := by decide +kernel
theorem dq_AB_setLength_38 : decode prog_16_method_13_code 38 = .ok (.getfield 79, 3) := by decide +kernel
theorem dq_AB_setLength_41 : decode prog_16_method_13_code 41 = .ok (.iload_n 1, 1) := by decide +kernel
theorem dq_AB_setLength_42 : decode prog_16_method_13_code 42 = .ok (.invokestatic 133, 3) := by decide +kernel
theorem dq_AB_setLength_45 : decode prog_16_method_13_code 45 = .ok (.goto 31, 3) := by decide +kernel
theorem dq_AB_setLength_63 : decode prog_16_method_13_code 63 = .ok (.aload_n 0, 1) := by decide +kernel
theorem dq_AB_setLength_64 : decode prog_16_method_13_code 64 = .ok (.getfield 79, 3) := by decide +kernel
theorem dq_AB_setLength_67 : decode prog_16_method_13_code 67 = .ok (.iload_n 1, 1) := by decide +kernel
theorem dq_AB_setLength_68 : decode prog_16_method_13_code 68 = .ok (.if_icmp .le 8, 3) := by decide +kernel
theorem dq_AB_setLength_71 : decode prog_16_method_13_code 71 = .ok (.aload_n 0, 1) := by decide +kernel
theorem dq_AB_setLength_72 : decode prog_16_method_13_code 72 = .ok (.iconst 1, 1) := by decide +kernel
theorem dq_AB_setLength_73 : decode prog_16_method_13_code 73 = .ok (.putfield 73, 3) := by decide +kernel
theorem dq_AB_setLength_76 : decode prog_16_method_13_code 76 = .ok (.aload_n 0, 1) := by decide +kernel
theorem dq_AB_setLength_77 : decode prog_16_method_13_code 77 = .ok (.iload_n 1, 1) := by decide +kernel
theorem dq_AB_setLength_78 : decode prog_16_method_13_code 78 = .ok (.putfield 79, 3) := by decide +kernel
theorem dq_AB_setLength_81 : decode prog_16_method_13_code 81 = .ok (.return_, 1) := by decide +kernel
set_option maxRecDepth 100000 in
def pq_AB_setLength_76 (E : wo_E) (mc ms : Nat) (Post : wo_W → Prop) (G : wo_W) (c s : Nat) (x0 : Nat) (x1 : Int32) : Prop := wo_ty G x0 = 5 ∧ en_bs E ≤ x0 ∧ ∀ G3 : wo_W, G3 = wo_si G 259 x0 x1 → 
  Post G3
set_option maxRecDepth 100000 in
def pq_AB_setLength_0 (E : wo_E) (mc ms : Nat) (Post : wo_W → Prop) (G : wo_W) (c s : Nat) (x0 : Nat) (x1 : Int32) : Prop := (((0 : Int32) ≤ x1 → wo_ty G x0 = 5 ∧ ∃ mc2 ms3 : Nat, (c + mc2) ≤ mc ∧ (s + ms3) ≤ ms ∧ pq_AB_ensureCapacityInternal E mc2 ms3 (fun G4 => 
    wo_ty G4 x0 = 5 ∧ ((x1 ≤ (wo_gi G4 259 x0) → (((wo_gi G4 259 x0) ≤ x1 → pq_AB_setLength_76 E mc ms Post G4 (c + mc2) (s + ms3) x0 x1) ∧
        (¬ (wo_gi G4 259 x0) ≤ x1 → en_bs E ≤ x0 ∧ wo_okI .boolean (1 : Int32) ∧ ∀ G8 : wo_W, G8 = wo_si G4 258 x0 (1 : Int32) → 
          pq_AB_setLength_76 E mc ms Post G8 (c + mc2) (s + ms3) x0 x1))) ∧
      (¬ x1 ≤ (wo_gi G4 259 x0) → ∃ mc10 ms11 : Nat, ((c + mc2) + mc10) ≤ mc ∧ ((s + ms3) + ms11) ≤ ms ∧ pq_AB_isLatin1 E mc10 ms11 (fun v13 G12 => 
        ((v13 = (0 : Int32) → False) ∧
          (¬ v13 = (0 : Int32) → wo_ty G12 x0 = 5 ∧ ∀ r15 : Option Nat, r15 = wo_gr G12 256 x0 → ∃ mc17 ms18 : Nat, (((c + mc2) + mc10) + mc17) ≤ mc ∧ (((s + ms3) + ms11) + ms18) ≤ ms ∧ pq_La_fillNull E mc17 ms18 (fun G19 => 
            pq_AB_setLength_76 E mc ms Post G19 (((c + mc2) + mc10) + mc17) (((s + ms3) + ms11) + ms18) x0 x1) G12 r15 (wo_gi G12 259 x0) x1))) G4 x0))) G x0 x1) ∧
  (¬ (0 : Int32) ≤ x1 → False))
def pq_AB_setLength (E : wo_E) (mc ms : Nat) (Post : wo_W → Prop) (G : wo_W) (x0 : Nat) (x1 : Int32) : Prop := pq_AB_setLength_0 E mc ms Post G 0 0 x0 x1
set_option maxRecDepth 100000 in
set_option maxHeartbeats 4000000 in
theorem tq_AB_setLength_76 {p : Program} {l : Launch} {e : Env} {R : Room} {s₀ : State} {m : MethodId} {args : Array Value} {below : List Frame} {meth : Method} {cd : Code} {E : wo_E} {mc ms : Nat} {Post : wo_W → Prop} (hC : wo_Cx E "java/lang/AbstractStringBuilder" prog_16_method_13_code 2 4 98 ((Option.none : Option Jvm.ClassFile.FieldType)) "setLength" mc ms p R s₀ m args meth cd) : ∀ {G : wo_W} {c s : Nat} {x0 : Nat} {x1 : Int32}, pq_AB_setLength_76 E mc ms Post G c s x0 x1 → ∀ {H : Heap} {locs : List Loc} {ls : Array Slot}, wo_Se E G H → va_S (en_A E) s₀.heap H locs → lx_has ls 2 [(0, 1, .ref x0), (1, 1, .int x1)] → c ≤ mc → s ≤ ms → W p l e R s₀ m args below meth cd H locs c s (MQ below (va_Qv Post (wo_B E) (en_A E)) args s₀ mc ms (en_A E)) (F0 m 76 ls []) := by
  intro G c s x0 x1 hw H locs ls hG hS hl hcc hss
  dsimp only [pq_AB_setLength_76] at hw
  have hx := hC.1
  have hb := hC.2.1
  refine lv_aload_n hx hb dq_AB_setLength_76 rfl (lx_at hl 0 rfl) ?_
  refine lv_iload_n hx hb dq_AB_setLength_77 rfl (lx_at hl 1 rfl) ?_
  obtain ⟨t1, hw⟩ := hw
  obtain ⟨h2, hw⟩ := hw
  refine wo_putI hC fq_AB_79 (Or.inl rfl) rfl (wo_ok_int _) hG hS t1 h2 dq_AB_setLength_78 (fun G3 H locs e4 hG hS => ?_)
  replace hw := hw G3 e4
  exact wo_vret hC hG hS hcc hss hw dq_AB_setLength_81
set_option maxRecDepth 100000 in
set_option maxHeartbeats 4000000 in
theorem tq_AB_setLength_0 {p : Program} {l : Launch} {e : Env} {R : Room} {s₀ : State} {m : MethodId} {args : Array Value} {below : List Frame} {meth : Method} {cd : Code} {E : wo_E} {mc ms : Nat} {Post : wo_W → Prop} (hC : wo_Cx E "java/lang/AbstractStringBuilder" prog_16_method_13_code 2 4 98 ((Option.none : Option Jvm.ClassFile.FieldType)) "setLength" mc ms p R s₀ m args meth cd) : ∀ {G : wo_W} {c s : Nat} {x0 : Nat} {x1 : Int32}, pq_AB_setLength_0 E mc ms Post G c s x0 x1 → ∀ {H : Heap} {locs : List Loc} {ls : Array Slot}, wo_Se E G H → va_S (en_A E) s₀.heap H locs → lx_has ls 2 [(0, 1, .ref x0), (1, 1, .int x1)] → c ≤ mc → s ≤ ms → W p l e R s₀ m args below meth cd H locs c s (MQ below (va_Qv Post (wo_B E) (en_A E)) args s₀ mc ms (en_A E)) (F0 m 0 ls []) := by
  intro G c s x0 x1 hw H locs ls hG hS hl hcc hss
  dsimp only [pq_AB_setLength_0] at hw
  have hx := hC.1
  have hb := hC.2.1
  refine lv_iload_n hx hb dq_AB_setLength_0 rfl (lx_at hl 1 rfl) ?_
  refine lv_if_ge (tgt := 13) hx hb dq_AB_setLength_1 rfl (fun h => ?_) (fun h => ?_)
  · replace hw := hw.1 h
    refine lv_aload_n hx hb dq_AB_setLength_13 rfl (lx_at hl 0 rfl) ?_
    refine lv_iload_n hx hb dq_AB_setLength_14 rfl (lx_at hl 1 rfl) ?_
    obtain ⟨t1, hw⟩ := hw
    obtain ⟨mc2, ms3, hc1, hs1, hw⟩ := hw
    refine va_callv (wo_runV hC lq_AB_100 (mq_AB_ensureCapacityInternal hw) hG hS t1 rfl (lx_sz hl) rfl (Nat.zero_le _) (by decide) dq_AB_setLength_15 ⟨hc1, hs1⟩) hS (fun _ _ h => h) (fun _ h => h) (fun G4 t H locs ht hvm hw' hB _ _ hS => ?_)
    clear hw
    have hw := hw'
    clear hw'
    replace hG := wo_bk ht hB
    replace hcc := hc1
    replace hss := hs1
    refine lv_aload_n hx hb dq_AB_setLength_18 rfl (lx_at hl 0 rfl) ?_
    obtain ⟨t5, hw⟩ := hw
    refine wo_getI hC fq_AB_79 rfl hG t5 dq_AB_setLength_19 ?_
    refine lv_iload_n hx hb dq_AB_setLength_22 rfl (lx_at hl 1 rfl) ?_
    refine lv_icmp_ge (tgt := 63) hx hb dq_AB_setLength_23 rfl (fun h => ?_) (fun h => ?_)
    · replace hw := hw.1 h
      refine lv_aload_n hx hb dq_AB_setLength_63 rfl (lx_at hl 0 rfl) ?_
      refine wo_getI hC fq_AB_79 rfl hG t5 dq_AB_setLength_64 ?_
      refine lv_iload_n hx hb dq_AB_setLength_67 rfl (lx_at hl 1 rfl) ?_
      refine lv_icmp_le (tgt := 76) hx hb dq_AB_setLength_68 rfl (fun h => ?_) (fun h => ?_)
      · replace hw := hw.1 h
        exact tq_AB_setLength_76 hC hw hG hS (lx_sub hl [0, 1] rfl) hcc hss
      · replace hw := hw.2 h
        refine lv_aload_n hx hb dq_AB_setLength_71 rfl (lx_at hl 0 rfl) ?_
        refine lv_iconst (v := (1 : Int32)) hx hb dq_AB_setLength_72 rfl ?_
        obtain ⟨h6, hw⟩ := hw
        obtain ⟨h7, hw⟩ := hw
        refine wo_putI hC fq_AB_73 (Or.inl rfl) rfl h7 hG hS t5 h6 dq_AB_setLength_73 (fun G8 H locs e9 hG hS => ?_)
        replace hw := hw G8 e9
        exact tq_AB_setLength_76 hC hw hG hS (lx_sub hl [0, 1] rfl) hcc hss
    · replace hw := hw.2 h
      refine lv_aload_n hx hb dq_AB_setLength_26 rfl (lx_at hl 0 rfl) ?_
      obtain ⟨mc10, ms11, hc1, hs1, hw⟩ := hw
      refine va_calli (wo_runV hC lq_AB_83 (mq_AB_isLatin1 hw) hG hS t5 rfl (lx_sz hl) rfl (Nat.zero_le _) (by decide) dq_AB_setLength_27 ⟨hc1, hs1⟩) hS (fun _ _ h => h) (fun _ h => h) (fun v13 G12 t H locs ht hvm hw' hB _ _ hS => ?_)
      clear hw
      have hw := hw'
      clear hw'
      replace hG := wo_bk ht hB
      replace hcc := hc1
      replace hss := hs1
      refine lv_if_eq (tgt := 48) hx hb dq_AB_setLength_30 rfl (fun h => ?_) (fun h => ?_)
      · replace hw := hw.1 h
        exact hw.elim
      · replace hw := hw.2 h
        refine lv_aload_n hx hb dq_AB_setLength_33 rfl (lx_at hl 0 rfl) ?_
        obtain ⟨t14, hw⟩ := hw
        refine wo_getR hC fq_AB_15 rfl hG t14 dq_AB_setLength_34 (fun r15 e16 => ?_)
        replace hw := hw r15 e16
        refine lv_aload_n hx hb dq_AB_setLength_37 rfl (lx_at hl 0 rfl) ?_
        refine wo_getI hC fq_AB_79 rfl hG t14 dq_AB_setLength_38 ?_
        refine lv_iload_n hx hb dq_AB_setLength_41 rfl (lx_at hl 1 rfl) ?_
        obtain ⟨mc17, ms18, hc1, hs1, hw⟩ := hw
        refine va_callv (wo_runS hC lq_AB_133 (mq_La_fillNull hw) hG hS rfl (lx_sz hl) rfl (Nat.zero_le _) (by decide) dq_AB_setLength_42 ⟨hc1, hs1⟩) hS (fun _ _ h => h) (fun _ h => h) (fun G19 t H locs ht hvm hw' hB _ _ hS => ?_)
        clear hw
        have hw := hw'
        clear hw'
        replace hG := wo_bk ht hB
        replace hcc := hc1
        replace hss := hs1
        refine lv_goto (tgt := 76) hx hb dq_AB_setLength_45 rfl ?_
        exact tq_AB_setLength_76 hC hw hG hS (lx_sub hl [0, 1] rfl) hcc hss
  · replace hw := hw.2 h
    exact hw.elim
set_option maxHeartbeats 4000000 in
theorem mq_AB_setLength {l : Launch} {E : wo_E} {mc ms : Nat} {Post : wo_W → Prop} {G : wo_W} {x0 : Nat} {x1 : Int32} (hw : pq_AB_setLength E mc ms Post G x0 x1) : Met l yq_AB_setLength (Cond.code yq_AB_setLength prog_16_method_13_code 2 ((Option.none : Option Jvm.ClassFile.FieldType)) :: vw_WG) { frames := 4, cells := mc, slots := ms, locals := 98 } (va_Pc [.ref x0, .int x1] (wo_Ok E G)) (va_Qv Post (wo_B E) (en_A E)) mc ms (en_A E) := by
  unfold pq_AB_setLength at hw
  exact wo_met [(1, .ref x0), (1, .int x1)] rfl (by decide) (fun q hq => by simp only [List.mem_cons, List.not_mem_nil, or_false] at hq; rcases hq with rfl | rfl <;> first | rfl | exact lx_cR _) (Nat.le_of_ble_eq_true rfl) (fun p e R s m args below meth cd ls hC hG hS hl => tq_AB_setLength_0 hC hw hG hS (lx_sub hl [0, 1] rfl) (Nat.zero_le _) (Nat.zero_le _))

theorem dq_SB_setLength_0 : decode prog_23_method_89_code 0 = .ok (.aload_n 0, 1) := by decide +kernel
theorem dq_SB_setLength_1 : decode prog_23_method_89_code 1 = .ok (.iload_n 1, 1) := by decide +kernel
theorem dq_SB_setLength_2 : decode prog_23_method_89_code 2 = .ok (.invokespecial 333, 3) := by decide +kernel
theorem dq_SB_setLength_5 : decode prog_23_method_89_code 5 = .ok (.return_, 1) := by decide +kernel
set_option maxRecDepth 100000 in
def pq_SB_setLength_0 (E : wo_E) (mc ms : Nat) (Post : wo_W → Prop) (G : wo_W) (c s : Nat) (x0 : Nat) (x1 : Int32) : Prop := wo_ty G x0 = 5 ∧ ∃ mc2 ms3 : Nat, (c + mc2) ≤ mc ∧ (s + ms3) ≤ ms ∧ pq_AB_setLength E mc2 ms3 (fun G4 => 
  Post G4) G x0 x1
def pq_SB_setLength (E : wo_E) (mc ms : Nat) (Post : wo_W → Prop) (G : wo_W) (x0 : Nat) (x1 : Int32) : Prop := pq_SB_setLength_0 E mc ms Post G 0 0 x0 x1
set_option maxRecDepth 100000 in
set_option maxHeartbeats 4000000 in
theorem tq_SB_setLength_0 {p : Program} {l : Launch} {e : Env} {R : Room} {s₀ : State} {m : MethodId} {args : Array Value} {below : List Frame} {meth : Method} {cd : Code} {E : wo_E} {mc ms : Nat} {Post : wo_W → Prop} (hC : wo_Cx E "java/lang/StringBuilder" prog_23_method_89_code 2 5 119 ((Option.none : Option Jvm.ClassFile.FieldType)) "setLength" mc ms p R s₀ m args meth cd) : ∀ {G : wo_W} {c s : Nat} {x0 : Nat} {x1 : Int32}, pq_SB_setLength_0 E mc ms Post G c s x0 x1 → ∀ {H : Heap} {locs : List Loc} {ls : Array Slot}, wo_Se E G H → va_S (en_A E) s₀.heap H locs → lx_has ls 2 [(0, 1, .ref x0), (1, 1, .int x1)] → c ≤ mc → s ≤ ms → W p l e R s₀ m args below meth cd H locs c s (MQ below (va_Qv Post (wo_B E) (en_A E)) args s₀ mc ms (en_A E)) (F0 m 0 ls []) := by
  intro G c s x0 x1 hw H locs ls hG hS hl hcc hss
  dsimp only [pq_SB_setLength_0] at hw
  have hx := hC.1
  have hb := hC.2.1
  refine lv_aload_n hx hb dq_SB_setLength_0 rfl (lx_at hl 0 rfl) ?_
  refine lv_iload_n hx hb dq_SB_setLength_1 rfl (lx_at hl 1 rfl) ?_
  obtain ⟨t1, hw⟩ := hw
  obtain ⟨mc2, ms3, hc1, hs1, hw⟩ := hw
  refine va_callv (wo_runP hC lq_SB_333 (mq_AB_setLength hw) hG hS t1 rfl (lx_sz hl) rfl (Nat.zero_le _) (by decide) dq_SB_setLength_2 ⟨hc1, hs1⟩) hS (fun _ _ h => h) (fun _ h => h) (fun G4 t H locs ht hvm hw' hB _ _ hS => ?_)
  clear hw
  have hw := hw'
  clear hw'
  replace hG := wo_bk ht hB
  replace hcc := hc1
  replace hss := hs1
  exact wo_vret hC hG hS hcc hss hw dq_SB_setLength_5
set_option maxHeartbeats 4000000 in
theorem mq_SB_setLength {l : Launch} {E : wo_E} {mc ms : Nat} {Post : wo_W → Prop} {G : wo_W} {x0 : Nat} {x1 : Int32} (hw : pq_SB_setLength E mc ms Post G x0 x1) : Met l yq_SB_setLength (Cond.code yq_SB_setLength prog_23_method_89_code 2 ((Option.none : Option Jvm.ClassFile.FieldType)) :: vw_WG) { frames := 5, cells := mc, slots := ms, locals := 119 } (va_Pc [.ref x0, .int x1] (wo_Ok E G)) (va_Qv Post (wo_B E) (en_A E)) mc ms (en_A E) := by
  unfold pq_SB_setLength at hw
  exact wo_met [(1, .ref x0), (1, .int x1)] rfl (by decide) (fun q hq => by simp only [List.mem_cons, List.not_mem_nil, or_false] at hq; rcases hq with rfl | rfl <;> first | rfl | exact lx_cR _) (Nat.le_of_ble_eq_true rfl) (fun p e R s m args below meth cd ls hC hG hS hl => tq_SB_setLength_0 hC hw hG hS (lx_sub hl [0, 1] rfl) (Nat.zero_le _) (Nat.zero_le _))

theorem dq_Sh_begin_0 : decode prog_9_method_5_code 0 = .ok (.aload_n 0, 1) := by decide +kernel
theorem dq_Sh_begin_1 : decode prog_9_method_5_code 1 = .ok (.getfield 12, 3) := by decide +kernel
theorem dq_Sh_begin_4 : decode prog_9_method_5_code 4 = .ok (.iconst 0, 1) := by decide +kernel
theorem dq_Sh_begin_5 : decode prog_9_method_5_code 5 = .ok (.invokevirtual 101, 3) := by decide +kernel
theorem dq_Sh_begin_8 : decode prog_9_method_5_code 8 = .ok (.aload_n 0, 1) := by decide +kernel
theorem dq_Sh_begin_9 : decode prog_9_method_5_code 9 = .ok (.getfield 12, 3) := by decide +kernel
theorem dq_Sh_begin_12 : decode prog_9_method_5_code 12 = .ok (.iload_n 1, 1) := by decide +kernel
theorem dq_Sh_begin_13 : decode prog_9_method_5_code 13 = .ok (.invokevirtual 104, 3) := by decide +kernel
theorem dq_Sh_begin_16 : decode prog_9_method_5_code 16 = .ok (.pop, 1) := by decide +kernel
theorem dq_Sh_begin_17 : decode prog_9_method_5_code 17 = .ok (.aload_n 0, 1) := by decide +kernel
theorem dq_Sh_begin_18 : decode prog_9_method_5_code 18 = .ok (.getfield 12, 3) := by decide +kernel
theorem dq_Sh_begin_21 : decode prog_9_method_5_code 21 = .ok (.bipush 10, 2) := by decide +kernel
theorem dq_Sh_begin_23 : decode prog_9_method_5_code 23 = .ok (.invokevirtual 33, 3) := by decide +kernel
theorem dq_Sh_begin_26 : decode prog_9_method_5_code 26 = .ok (.pop, 1) := by decide +kernel
theorem dq_Sh_begin_27 : decode prog_9_method_5_code 27 = .ok (.return_, 1) := by decide +kernel
set_option maxRecDepth 100000 in
def pq_Sh_begin_0 (E : wo_E) (mc ms : Nat) (Post : wo_W → Prop) (G : wo_W) (c s : Nat) (x0 : Nat) (x1 : Int32) : Prop := wo_ty G x0 = 4 ∧ ∀ r2 : Option Nat, r2 = wo_gr G 192 x0 → ∃ a4 : Nat, r2 = some a4 ∧ wo_ty G a4 = 5 ∧ ∃ mc6 ms7 : Nat, (c + mc6) ≤ mc ∧ (s + ms7) ≤ ms ∧ pq_SB_setLength E mc6 ms7 (fun G8 => 
  wo_ty G8 x0 = 4 ∧ ∀ r10 : Option Nat, r10 = wo_gr G8 192 x0 → ∃ a12 : Nat, r10 = some a12 ∧ wo_ty G8 a12 = 5 ∧ ∃ mc14 ms15 : Nat, ((c + mc6) + mc14) ≤ mc ∧ ((s + ms7) + ms15) ≤ ms ∧ pq_SB_append_I E mc14 ms15 (fun v17 G16 => 
    wo_ty G16 x0 = 4 ∧ ∀ r19 : Option Nat, r19 = wo_gr G16 192 x0 → ∃ a21 : Nat, r19 = some a21 ∧ wo_ty G16 a21 = 5 ∧ ∃ mc23 ms24 : Nat, (((c + mc6) + mc14) + mc23) ≤ mc ∧ (((s + ms7) + ms15) + ms24) ≤ ms ∧ pq_SB_append_C E mc23 ms24 (fun v26 G25 => 
      Post G25) G16 a21 (10 : Int32)) G8 a12 x1) G a4 (0 : Int32)
def pq_Sh_begin (E : wo_E) (mc ms : Nat) (Post : wo_W → Prop) (G : wo_W) (x0 : Nat) (x1 : Int32) : Prop := pq_Sh_begin_0 E mc ms Post G 0 0 x0 x1
set_option maxRecDepth 100000 in
set_option maxHeartbeats 4000000 in
theorem tq_Sh_begin_0 {p : Program} {l : Launch} {e : Env} {R : Room} {s₀ : State} {m : MethodId} {args : Array Value} {below : List Frame} {meth : Method} {cd : Code} {E : wo_E} {mc ms : Nat} {Post : wo_W → Prop} (hC : wo_Cx E "EdgeCache$Sheet" prog_9_method_5_code 2 6 142 ((Option.none : Option Jvm.ClassFile.FieldType)) "begin" mc ms p R s₀ m args meth cd) : ∀ {G : wo_W} {c s : Nat} {x0 : Nat} {x1 : Int32}, pq_Sh_begin_0 E mc ms Post G c s x0 x1 → ∀ {H : Heap} {locs : List Loc} {ls : Array Slot}, wo_Se E G H → va_S (en_A E) s₀.heap H locs → lx_has ls 2 [(0, 1, .ref x0), (1, 1, .int x1)] → c ≤ mc → s ≤ ms → W p l e R s₀ m args below meth cd H locs c s (MQ below (va_Qv Post (wo_B E) (en_A E)) args s₀ mc ms (en_A E)) (F0 m 0 ls []) := by
  intro G c s x0 x1 hw H locs ls hG hS hl hcc hss
  dsimp only [pq_Sh_begin_0] at hw
  have hx := hC.1
  have hb := hC.2.1
  refine lv_aload_n hx hb dq_Sh_begin_0 rfl (lx_at hl 0 rfl) ?_
  obtain ⟨t1, hw⟩ := hw
  refine wo_getR hC fq_Sh_12 rfl hG t1 dq_Sh_begin_1 (fun r2 e3 => ?_)
  replace hw := hw r2 e3
  refine lv_iconst (v := (0 : Int32)) hx hb dq_Sh_begin_4 rfl ?_
  obtain ⟨a4, rfl, hw⟩ := hw
  obtain ⟨t5, hw⟩ := hw
  obtain ⟨mc6, ms7, hc1, hs1, hw⟩ := hw
  refine va_callv (wo_runV hC lq_Sh_101 (mq_SB_setLength hw) hG hS t5 rfl (lx_sz hl) rfl (Nat.zero_le _) (by decide) dq_Sh_begin_5 ⟨hc1, hs1⟩) hS (fun _ _ h => h) (fun _ h => h) (fun G8 t H locs ht hvm hw' hB _ _ hS => ?_)
  clear hw
  have hw := hw'
  clear hw'
  replace hG := wo_bk ht hB
  replace hcc := hc1
  replace hss := hs1
  refine lv_aload_n hx hb dq_Sh_begin_8 rfl (lx_at hl 0 rfl) ?_
  obtain ⟨t9, hw⟩ := hw
  refine wo_getR hC fq_Sh_12 rfl hG t9 dq_Sh_begin_9 (fun r10 e11 => ?_)
  replace hw := hw r10 e11
  refine lv_iload_n hx hb dq_Sh_begin_12 rfl (lx_at hl 1 rfl) ?_
  obtain ⟨a12, rfl, hw⟩ := hw
  obtain ⟨t13, hw⟩ := hw
  obtain ⟨mc14, ms15, hc1, hs1, hw⟩ := hw
  refine va_callq (wo_runV hC lq_Sh_104 (mq_SB_append_I hw) hG hS t13 rfl (lx_sz hl) rfl (Nat.zero_le _) (by decide) dq_Sh_begin_13 ⟨hc1, hs1⟩) hS (fun _ _ h => h) (fun _ h => h) (fun v17 G16 t H locs ht hvm hw' hB _ _ hS => ?_)
  clear hw
  have hw := hw'
  clear hw'
  replace hG := wo_bk ht hB
  replace hcc := hc1
  replace hss := hs1
  refine lv_pop hx hb dq_Sh_begin_16 (lx_cR _) ?_
  refine lv_aload_n hx hb dq_Sh_begin_17 rfl (lx_at hl 0 rfl) ?_
  obtain ⟨t18, hw⟩ := hw
  refine wo_getR hC fq_Sh_12 rfl hG t18 dq_Sh_begin_18 (fun r19 e20 => ?_)
  replace hw := hw r19 e20
  refine lv_bipush (v := (10 : Int32)) hx hb dq_Sh_begin_21 rfl ?_
  obtain ⟨a21, rfl, hw⟩ := hw
  obtain ⟨t22, hw⟩ := hw
  obtain ⟨mc23, ms24, hc1, hs1, hw⟩ := hw
  refine va_callq (wo_runV hC lq_Sh_33 (mq_SB_append_C hw) hG hS t22 rfl (lx_sz hl) rfl (Nat.zero_le _) (by decide) dq_Sh_begin_23 ⟨hc1, hs1⟩) hS (fun _ _ h => h) (fun _ h => h) (fun v26 G25 t H locs ht hvm hw' hB _ _ hS => ?_)
  clear hw
  have hw := hw'
  clear hw'
  replace hG := wo_bk ht hB
  replace hcc := hc1
  replace hss := hs1
  refine lv_pop hx hb dq_Sh_begin_26 (lx_cR _) ?_
  exact wo_vret hC hG hS hcc hss hw dq_Sh_begin_27
set_option maxHeartbeats 4000000 in
theorem mq_Sh_begin {l : Launch} {E : wo_E} {mc ms : Nat} {Post : wo_W → Prop} {G : wo_W} {x0 : Nat} {x1 : Int32} (hw : pq_Sh_begin E mc ms Post G x0 x1) : Met l yq_Sh_begin (Cond.code yq_Sh_begin prog_9_method_5_code 2 ((Option.none : Option Jvm.ClassFile.FieldType)) :: vw_WG) { frames := 6, cells := mc, slots := ms, locals := 142 } (va_Pc [.ref x0, .int x1] (wo_Ok E G)) (va_Qv Post (wo_B E) (en_A E)) mc ms (en_A E) := by
  unfold pq_Sh_begin at hw
  exact wo_met [(1, .ref x0), (1, .int x1)] rfl (by decide) (fun q hq => by simp only [List.mem_cons, List.not_mem_nil, or_false] at hq; rcases hq with rfl | rfl <;> first | rfl | exact lx_cR _) (Nat.le_of_ble_eq_true rfl) (fun p e R s m args below meth cd ls hC hG hS hl => tq_Sh_begin_0 hC hw hG hS (lx_sub hl [0, 1] rfl) (Nat.zero_le _) (Nat.zero_le _))

theorem dq_Sh_numberLine_0 : decode prog_9_method_6_code 0 = .ok (.aload_n 0, 1) := by decide +kernel
theorem dq_Sh_numberLine_1 : decode prog_9_method_6_code 1 = .ok (.getfield 12, 3) := by decide +kernel
theorem dq_Sh_numberLine_4 : decode prog_9_method_6_code 4 = .ok (.iload_n 1, 1) := by decide +kernel
theorem dq_Sh_numberLine_5 : decode prog_9_method_6_code 5 = .ok (.invokevirtual 33, 3) := by decide +kernel
theorem dq_Sh_numberLine_8 : decode prog_9_method_6_code 8 = .ok (.pop, 1) := by decide +kernel
theorem dq_Sh_numberLine_9 : decode prog_9_method_6_code 9 = .ok (.aload_n 0, 1) := by decide +kernel
theorem dq_Sh_numberLine_10 : decode prog_9_method_6_code 10 = .ok (.getfield 12, 3) := by decide +kernel
theorem dq_Sh_numberLine_13 : decode prog_9_method_6_code 13 = .ok (.bipush 58, 2) := by decide +kernel
theorem dq_Sh_numberLine_15 : decode prog_9_method_6_code 15 = .ok (.invokevirtual 33, 3) := by decide +kernel
theorem dq_Sh_numberLine_18 : decode prog_9_method_6_code 18 = .ok (.pop, 1) := by decide +kernel
theorem dq_Sh_numberLine_19 : decode prog_9_method_6_code 19 = .ok (.aload_n 0, 1) := by decide +kernel
theorem dq_Sh_numberLine_20 : decode prog_9_method_6_code 20 = .ok (.getfield 12, 3) := by decide +kernel
theorem dq_Sh_numberLine_23 : decode prog_9_method_6_code 23 = .ok (.iload_n 2, 1) := by decide +kernel
theorem dq_Sh_numberLine_24 : decode prog_9_method_6_code 24 = .ok (.invokevirtual 104, 3) := by decide +kernel
theorem dq_Sh_numberLine_27 : decode prog_9_method_6_code 27 = .ok (.pop, 1) := by decide +kernel
theorem dq_Sh_numberLine_28 : decode prog_9_method_6_code 28 = .ok (.aload_n 0, 1) := by decide +kernel
theorem dq_Sh_numberLine_29 : decode prog_9_method_6_code 29 = .ok (.getfield 12, 3) := by decide +kernel
theorem dq_Sh_numberLine_32 : decode prog_9_method_6_code 32 = .ok (.bipush 10, 2) := by decide +kernel
theorem dq_Sh_numberLine_34 : decode prog_9_method_6_code 34 = .ok (.invokevirtual 33, 3) := by decide +kernel
theorem dq_Sh_numberLine_37 : decode prog_9_method_6_code 37 = .ok (.pop, 1) := by decide +kernel
theorem dq_Sh_numberLine_38 : decode prog_9_method_6_code 38 = .ok (.return_, 1) := by decide +kernel
set_option maxRecDepth 100000 in
def pq_Sh_numberLine_0 (E : wo_E) (mc ms : Nat) (Post : wo_W → Prop) (G : wo_W) (c s : Nat) (x0 : Nat) (x1 : Int32) (x2 : Int32) : Prop := wo_ty G x0 = 4 ∧ ∀ r2 : Option Nat, r2 = wo_gr G 192 x0 → ∃ a4 : Nat, r2 = some a4 ∧ wo_ty G a4 = 5 ∧ ∃ mc6 ms7 : Nat, (c + mc6) ≤ mc ∧ (s + ms7) ≤ ms ∧ pq_SB_append_C E mc6 ms7 (fun v9 G8 => 
  wo_ty G8 x0 = 4 ∧ ∀ r11 : Option Nat, r11 = wo_gr G8 192 x0 → ∃ a13 : Nat, r11 = some a13 ∧ wo_ty G8 a13 = 5 ∧ ∃ mc15 ms16 : Nat, ((c + mc6) + mc15) ≤ mc ∧ ((s + ms7) + ms16) ≤ ms ∧ pq_SB_append_C E mc15 ms16 (fun v18 G17 => 
    wo_ty G17 x0 = 4 ∧ ∀ r20 : Option Nat, r20 = wo_gr G17 192 x0 → ∃ a22 : Nat, r20 = some a22 ∧ wo_ty G17 a22 = 5 ∧ ∃ mc24 ms25 : Nat, (((c + mc6) + mc15) + mc24) ≤ mc ∧ (((s + ms7) + ms16) + ms25) ≤ ms ∧ pq_SB_append_I E mc24 ms25 (fun v27 G26 => 
      wo_ty G26 x0 = 4 ∧ ∀ r29 : Option Nat, r29 = wo_gr G26 192 x0 → ∃ a31 : Nat, r29 = some a31 ∧ wo_ty G26 a31 = 5 ∧ ∃ mc33 ms34 : Nat, ((((c + mc6) + mc15) + mc24) + mc33) ≤ mc ∧ ((((s + ms7) + ms16) + ms25) + ms34) ≤ ms ∧ pq_SB_append_C E mc33 ms34 (fun v36 G35 => 
        Post G35) G26 a31 (10 : Int32)) G17 a22 x2) G8 a13 (58 : Int32)) G a4 x1
def pq_Sh_numberLine (E : wo_E) (mc ms : Nat) (Post : wo_W → Prop) (G : wo_W) (x0 : Nat) (x1 : Int32) (x2 : Int32) : Prop := pq_Sh_numberLine_0 E mc ms Post G 0 0 x0 x1 x2
set_option maxRecDepth 100000 in
set_option maxHeartbeats 4000000 in
theorem tq_Sh_numberLine_0 {p : Program} {l : Launch} {e : Env} {R : Room} {s₀ : State} {m : MethodId} {args : Array Value} {below : List Frame} {meth : Method} {cd : Code} {E : wo_E} {mc ms : Nat} {Post : wo_W → Prop} (hC : wo_Cx E "EdgeCache$Sheet" prog_9_method_6_code 3 6 142 ((Option.none : Option Jvm.ClassFile.FieldType)) "numberLine" mc ms p R s₀ m args meth cd) : ∀ {G : wo_W} {c s : Nat} {x0 : Nat} {x1 : Int32} {x2 : Int32}, pq_Sh_numberLine_0 E mc ms Post G c s x0 x1 x2 → ∀ {H : Heap} {locs : List Loc} {ls : Array Slot}, wo_Se E G H → va_S (en_A E) s₀.heap H locs → lx_has ls 3 [(0, 1, .ref x0), (1, 1, .int x1), (2, 1, .int x2)] → c ≤ mc → s ≤ ms → W p l e R s₀ m args below meth cd H locs c s (MQ below (va_Qv Post (wo_B E) (en_A E)) args s₀ mc ms (en_A E)) (F0 m 0 ls []) := by
  intro G c s x0 x1 x2 hw H locs ls hG hS hl hcc hss
  dsimp only [pq_Sh_numberLine_0] at hw
  have hx := hC.1
  have hb := hC.2.1
  refine lv_aload_n hx hb dq_Sh_numberLine_0 rfl (lx_at hl 0 rfl) ?_
  obtain ⟨t1, hw⟩ := hw
  refine wo_getR hC fq_Sh_12 rfl hG t1 dq_Sh_numberLine_1 (fun r2 e3 => ?_)
  replace hw := hw r2 e3
  refine lv_iload_n hx hb dq_Sh_numberLine_4 rfl (lx_at hl 1 rfl) ?_
  obtain ⟨a4, rfl, hw⟩ := hw
  obtain ⟨t5, hw⟩ := hw
  obtain ⟨mc6, ms7, hc1, hs1, hw⟩ := hw
  refine va_callq (wo_runV hC lq_Sh_33 (mq_SB_append_C hw) hG hS t5 rfl (lx_sz hl) rfl (Nat.zero_le _) (by decide) dq_Sh_numberLine_5 ⟨hc1, hs1⟩) hS (fun _ _ h => h) (fun _ h => h) (fun v9 G8 t H locs ht hvm hw' hB _ _ hS => ?_)
  clear hw
  have hw := hw'
  clear hw'
  replace hG := wo_bk ht hB
  replace hcc := hc1
  replace hss := hs1
  refine lv_pop hx hb dq_Sh_numberLine_8 (lx_cR _) ?_
  refine lv_aload_n hx hb dq_Sh_numberLine_9 rfl (lx_at hl 0 rfl) ?_
  obtain ⟨t10, hw⟩ := hw
  refine wo_getR hC fq_Sh_12 rfl hG t10 dq_Sh_numberLine_10 (fun r11 e12 => ?_)
  replace hw := hw r11 e12
  refine lv_bipush (v := (58 : Int32)) hx hb dq_Sh_numberLine_13 rfl ?_
  obtain ⟨a13, rfl, hw⟩ := hw
  obtain ⟨t14, hw⟩ := hw
  obtain ⟨mc15, ms16, hc1, hs1, hw⟩ := hw
  refine va_callq (wo_runV hC lq_Sh_33 (mq_SB_append_C hw) hG hS t14 rfl (lx_sz hl) rfl (Nat.zero_le _) (by decide) dq_Sh_numberLine_15 ⟨hc1, hs1⟩) hS (fun _ _ h => h) (fun _ h => h) (fun v18 G17 t H locs ht hvm hw' hB _ _ hS => ?_)
  clear hw
  have hw := hw'
  clear hw'
  replace hG := wo_bk ht hB
  replace hcc := hc1
  replace hss := hs1
  refine lv_pop hx hb dq_Sh_numberLine_18 (lx_cR _) ?_
  refine lv_aload_n hx hb dq_Sh_numberLine_19 rfl (lx_at hl 0 rfl) ?_
  obtain ⟨t19, hw⟩ := hw
  refine wo_getR hC fq_Sh_12 rfl hG t19 dq_Sh_numberLine_20 (fun r20 e21 => ?_)
  replace hw := hw r20 e21
  refine lv_iload_n hx hb dq_Sh_numberLine_23 rfl (lx_at hl 2 rfl) ?_
  obtain ⟨a22, rfl, hw⟩ := hw
  obtain ⟨t23, hw⟩ := hw
  obtain ⟨mc24, ms25, hc1, hs1, hw⟩ := hw
  refine va_callq (wo_runV hC lq_Sh_104 (mq_SB_append_I hw) hG hS t23 rfl (lx_sz hl) rfl (Nat.zero_le _) (by decide) dq_Sh_numberLine_24 ⟨hc1, hs1⟩) hS (fun _ _ h => h) (fun _ h => h) (fun v27 G26 t H locs ht hvm hw' hB _ _ hS => ?_)
  clear hw
  have hw := hw'
  clear hw'
  replace hG := wo_bk ht hB
  replace hcc := hc1
  replace hss := hs1
  refine lv_pop hx hb dq_Sh_numberLine_27 (lx_cR _) ?_
  refine lv_aload_n hx hb dq_Sh_numberLine_28 rfl (lx_at hl 0 rfl) ?_
  obtain ⟨t28, hw⟩ := hw
  refine wo_getR hC fq_Sh_12 rfl hG t28 dq_Sh_numberLine_29 (fun r29 e30 => ?_)
  replace hw := hw r29 e30
  refine lv_bipush (v := (10 : Int32)) hx hb dq_Sh_numberLine_32 rfl ?_
  obtain ⟨a31, rfl, hw⟩ := hw
  obtain ⟨t32, hw⟩ := hw
  obtain ⟨mc33, ms34, hc1, hs1, hw⟩ := hw
  refine va_callq (wo_runV hC lq_Sh_33 (mq_SB_append_C hw) hG hS t32 rfl (lx_sz hl) rfl (Nat.zero_le _) (by decide) dq_Sh_numberLine_34 ⟨hc1, hs1⟩) hS (fun _ _ h => h) (fun _ h => h) (fun v36 G35 t H locs ht hvm hw' hB _ _ hS => ?_)
  clear hw
  have hw := hw'
  clear hw'
  replace hG := wo_bk ht hB
  replace hcc := hc1
  replace hss := hs1
  refine lv_pop hx hb dq_Sh_numberLine_37 (lx_cR _) ?_
  exact wo_vret hC hG hS hcc hss hw dq_Sh_numberLine_38
set_option maxHeartbeats 4000000 in
theorem mq_Sh_numberLine {l : Launch} {E : wo_E} {mc ms : Nat} {Post : wo_W → Prop} {G : wo_W} {x0 : Nat} {x1 : Int32} {x2 : Int32} (hw : pq_Sh_numberLine E mc ms Post G x0 x1 x2) : Met l yq_Sh_numberLine (Cond.code yq_Sh_numberLine prog_9_method_6_code 3 ((Option.none : Option Jvm.ClassFile.FieldType)) :: vw_WG) { frames := 6, cells := mc, slots := ms, locals := 142 } (va_Pc [.ref x0, .int x1, .int x2] (wo_Ok E G)) (va_Qv Post (wo_B E) (en_A E)) mc ms (en_A E) := by
  unfold pq_Sh_numberLine at hw
  exact wo_met [(1, .ref x0), (1, .int x1), (1, .int x2)] rfl (by decide) (fun q hq => by simp only [List.mem_cons, List.not_mem_nil, or_false] at hq; rcases hq with rfl | rfl | rfl <;> first | rfl | exact lx_cR _) (Nat.le_of_ble_eq_true rfl) (fun p e R s m args below meth cd ls hC hG hS hl => tq_Sh_numberLine_0 hC hw hG hS (lx_sub hl [0, 1, 2] rfl) (Nat.zero_le _) (Nat.zero_le _))

theorem dq_AB_getValue_0 : decode prog_16_method_64_code 0 = .ok (.aload_n 0, 1) := by decide +kernel
theorem dq_AB_getValue_1 : decode prog_16_method_64_code 1 = .ok (.getfield 15, 3) := by decide +kernel
theorem dq_AB_getValue_4 : decode prog_16_method_64_code 4 = .ok (.areturn, 1) := by decide +kernel
set_option maxRecDepth 100000 in
def pq_AB_getValue_0 (E : wo_E) (mc ms : Nat) (Post : Option Nat → wo_W → Prop) (G : wo_W) (c s : Nat) (x0 : Nat) : Prop := wo_ty G x0 = 5 ∧ ∀ r2 : Option Nat, r2 = wo_gr G 256 x0 → Post r2 G
def pq_AB_getValue (E : wo_E) (mc ms : Nat) (Post : Option Nat → wo_W → Prop) (G : wo_W) (x0 : Nat) : Prop := pq_AB_getValue_0 E mc ms Post G 0 0 x0
set_option maxRecDepth 100000 in
set_option maxHeartbeats 4000000 in
theorem tq_AB_getValue_0 {p : Program} {l : Launch} {e : Env} {R : Room} {s₀ : State} {m : MethodId} {args : Array Value} {below : List Frame} {meth : Method} {cd : Code} {E : wo_E} {mc ms : Nat} {Post : Option Nat → wo_W → Prop} (hC : wo_Cx E "java/lang/AbstractStringBuilder" prog_16_method_64_code 1 0 0 ((Option.some (Jvm.ClassFile.FieldType.array Jvm.ClassFile.FieldType.byte))) "getValue" mc ms p R s₀ m args meth cd) : ∀ {G : wo_W} {c s : Nat} {x0 : Nat}, pq_AB_getValue_0 E mc ms Post G c s x0 → ∀ {H : Heap} {locs : List Loc} {ls : Array Slot}, wo_Se E G H → va_S (en_A E) s₀.heap H locs → lx_has ls 1 [(0, 1, .ref x0)] → c ≤ mc → s ≤ ms → W p l e R s₀ m args below meth cd H locs c s (MQ below (va_Qq Post (wo_B E) (en_A E)) args s₀ mc ms (en_A E)) (F0 m 0 ls []) := by
  intro G c s x0 hw H locs ls hG hS hl hcc hss
  dsimp only [pq_AB_getValue_0] at hw
  have hx := hC.1
  have hb := hC.2.1
  refine lv_aload_n hx hb dq_AB_getValue_0 rfl (lx_at hl 0 rfl) ?_
  obtain ⟨t1, hw⟩ := hw
  refine wo_getR hC fq_AB_15 rfl hG t1 dq_AB_getValue_1 (fun r2 e3 => ?_)
  replace hw := hw r2 e3
  exact wo_aret (x := r2) hC rfl hG hS hcc hss hw dq_AB_getValue_4
set_option maxHeartbeats 4000000 in
theorem mq_AB_getValue {l : Launch} {E : wo_E} {mc ms : Nat} {Post : Option Nat → wo_W → Prop} {G : wo_W} {x0 : Nat} (hw : pq_AB_getValue E mc ms Post G x0) : Met l yq_AB_getValue (Cond.code yq_AB_getValue prog_16_method_64_code 1 ((Option.some (Jvm.ClassFile.FieldType.array Jvm.ClassFile.FieldType.byte))) :: vw_WG) { frames := 0, cells := mc, slots := ms, locals := 0 } (va_Pc [.ref x0] (wo_Ok E G)) (va_Qq Post (wo_B E) (en_A E)) mc ms (en_A E) := by
  unfold pq_AB_getValue at hw
  exact wo_met [(1, .ref x0)] rfl (by decide) (fun q hq => by simp only [List.mem_cons, List.not_mem_nil, or_false] at hq; rcases hq with rfl <;> first | rfl | exact lx_cR _) (Nat.le_of_ble_eq_true rfl) (fun p e R s m args below meth cd ls hC hG hS hl => tq_AB_getValue_0 hC hw hG hS (lx_sub hl [0] rfl) (Nat.zero_le _) (Nat.zero_le _))

theorem dq_AB_length_0 : decode prog_16_method_6_code 0 = .ok (.aload_n 0, 1) := by decide +kernel
theorem dq_AB_length_1 : decode prog_16_method_6_code 1 = .ok (.getfield 79, 3) := by decide +kernel
theorem dq_AB_length_4 : decode prog_16_method_6_code 4 = .ok (.ireturn, 1) := by decide +kernel
set_option maxRecDepth 100000 in
def pq_AB_length_0 (E : wo_E) (mc ms : Nat) (Post : Int32 → wo_W → Prop) (G : wo_W) (c s : Nat) (x0 : Nat) : Prop := wo_ty G x0 = 5 ∧ Post (wo_gi G 259 x0) G
def pq_AB_length (E : wo_E) (mc ms : Nat) (Post : Int32 → wo_W → Prop) (G : wo_W) (x0 : Nat) : Prop := pq_AB_length_0 E mc ms Post G 0 0 x0
set_option maxRecDepth 100000 in
set_option maxHeartbeats 4000000 in
theorem tq_AB_length_0 {p : Program} {l : Launch} {e : Env} {R : Room} {s₀ : State} {m : MethodId} {args : Array Value} {below : List Frame} {meth : Method} {cd : Code} {E : wo_E} {mc ms : Nat} {Post : Int32 → wo_W → Prop} (hC : wo_Cx E "java/lang/AbstractStringBuilder" prog_16_method_6_code 1 0 0 ((Option.some Jvm.ClassFile.FieldType.int)) "length" mc ms p R s₀ m args meth cd) : ∀ {G : wo_W} {c s : Nat} {x0 : Nat}, pq_AB_length_0 E mc ms Post G c s x0 → ∀ {H : Heap} {locs : List Loc} {ls : Array Slot}, wo_Se E G H → va_S (en_A E) s₀.heap H locs → lx_has ls 1 [(0, 1, .ref x0)] → c ≤ mc → s ≤ ms → W p l e R s₀ m args below meth cd H locs c s (MQ below (va_Qi Post (wo_B E) (en_A E)) args s₀ mc ms (en_A E)) (F0 m 0 ls []) := by
  intro G c s x0 hw H locs ls hG hS hl hcc hss
  dsimp only [pq_AB_length_0] at hw
  have hx := hC.1
  have hb := hC.2.1
  refine lv_aload_n hx hb dq_AB_length_0 rfl (lx_at hl 0 rfl) ?_
  obtain ⟨t1, hw⟩ := hw
  refine wo_getI hC fq_AB_79 rfl hG t1 dq_AB_length_1 ?_
  exact wo_iret hC hG hS hcc hss hw dq_AB_length_4
set_option maxHeartbeats 4000000 in
theorem mq_AB_length {l : Launch} {E : wo_E} {mc ms : Nat} {Post : Int32 → wo_W → Prop} {G : wo_W} {x0 : Nat} (hw : pq_AB_length E mc ms Post G x0) : Met l yq_AB_length (Cond.code yq_AB_length prog_16_method_6_code 1 ((Option.some Jvm.ClassFile.FieldType.int)) :: vw_WG) { frames := 0, cells := mc, slots := ms, locals := 0 } (va_Pc [.ref x0] (wo_Ok E G)) (va_Qi Post (wo_B E) (en_A E)) mc ms (en_A E) := by
  unfold pq_AB_length at hw
  exact wo_met [(1, .ref x0)] rfl (by decide) (fun q hq => by simp only [List.mem_cons, List.not_mem_nil, or_false] at hq; rcases hq with rfl <;> first | rfl | exact lx_cR _) (Nat.le_of_ble_eq_true rfl) (fun p e R s m args below meth cd ls hC hG hS hl => tq_AB_length_0 hC hw hG hS (lx_sub hl [0] rfl) (Nat.zero_le _) (Nat.zero_le _))

theorem dq_SB_length_0 : decode prog_23_method_93_code 0 = .ok (.aload_n 0, 1) := by decide +kernel
theorem dq_SB_length_1 : decode prog_23_method_93_code 1 = .ok (.invokespecial 343, 3) := by decide +kernel
theorem dq_SB_length_4 : decode prog_23_method_93_code 4 = .ok (.ireturn, 1) := by decide +kernel
set_option maxRecDepth 100000 in
def pq_SB_length_0 (E : wo_E) (mc ms : Nat) (Post : Int32 → wo_W → Prop) (G : wo_W) (c s : Nat) (x0 : Nat) : Prop := wo_ty G x0 = 5 ∧ ∃ mc2 ms3 : Nat, (c + mc2) ≤ mc ∧ (s + ms3) ≤ ms ∧ pq_AB_length E mc2 ms3 (fun v5 G4 => 
  Post v5 G4) G x0
def pq_SB_length (E : wo_E) (mc ms : Nat) (Post : Int32 → wo_W → Prop) (G : wo_W) (x0 : Nat) : Prop := pq_SB_length_0 E mc ms Post G 0 0 x0
set_option maxRecDepth 100000 in
set_option maxHeartbeats 4000000 in
theorem tq_SB_length_0 {p : Program} {l : Launch} {e : Env} {R : Room} {s₀ : State} {m : MethodId} {args : Array Value} {below : List Frame} {meth : Method} {cd : Code} {E : wo_E} {mc ms : Nat} {Post : Int32 → wo_W → Prop} (hC : wo_Cx E "java/lang/StringBuilder" prog_23_method_93_code 1 1 20 ((Option.some Jvm.ClassFile.FieldType.int)) "length" mc ms p R s₀ m args meth cd) : ∀ {G : wo_W} {c s : Nat} {x0 : Nat}, pq_SB_length_0 E mc ms Post G c s x0 → ∀ {H : Heap} {locs : List Loc} {ls : Array Slot}, wo_Se E G H → va_S (en_A E) s₀.heap H locs → lx_has ls 1 [(0, 1, .ref x0)] → c ≤ mc → s ≤ ms → W p l e R s₀ m args below meth cd H locs c s (MQ below (va_Qi Post (wo_B E) (en_A E)) args s₀ mc ms (en_A E)) (F0 m 0 ls []) := by
  intro G c s x0 hw H locs ls hG hS hl hcc hss
  dsimp only [pq_SB_length_0] at hw
  have hx := hC.1
  have hb := hC.2.1
  refine lv_aload_n hx hb dq_SB_length_0 rfl (lx_at hl 0 rfl) ?_
  obtain ⟨t1, hw⟩ := hw
  obtain ⟨mc2, ms3, hc1, hs1, hw⟩ := hw
  refine va_calli (wo_runP hC lq_SB_343 (mq_AB_length hw) hG hS t1 rfl (lx_sz hl) rfl (Nat.zero_le _) (by decide) dq_SB_length_1 ⟨hc1, hs1⟩) hS (fun _ _ h => h) (fun _ h => h) (fun v5 G4 t H locs ht hvm hw' hB _ _ hS => ?_)
  clear hw
  have hw := hw'
  clear hw'
  replace hG := wo_bk ht hB
  replace hcc := hc1
  replace hss := hs1
  exact wo_iret hC hG hS hcc hss hw dq_SB_length_4
set_option maxHeartbeats 4000000 in
theorem mq_SB_length {l : Launch} {E : wo_E} {mc ms : Nat} {Post : Int32 → wo_W → Prop} {G : wo_W} {x0 : Nat} (hw : pq_SB_length E mc ms Post G x0) : Met l yq_SB_length (Cond.code yq_SB_length prog_23_method_93_code 1 ((Option.some Jvm.ClassFile.FieldType.int)) :: vw_WG) { frames := 1, cells := mc, slots := ms, locals := 20 } (va_Pc [.ref x0] (wo_Ok E G)) (va_Qi Post (wo_B E) (en_A E)) mc ms (en_A E) := by
  unfold pq_SB_length at hw
  exact wo_met [(1, .ref x0)] rfl (by decide) (fun q hq => by simp only [List.mem_cons, List.not_mem_nil, or_false] at hq; rcases hq with rfl <;> first | rfl | exact lx_cR _) (Nat.le_of_ble_eq_true rfl) (fun p e R s m args below meth cd ls hC hG hS hl => tq_SB_length_0 hC hw hG hS (lx_sub hl [0] rfl) (Nat.zero_le _) (Nat.zero_le _))

theorem dq_Ar_checkLength_0 : decode prog_30_method_131_code 0 = .ok (.iload_n 1, 1) := by decide +kernel
theorem dq_Ar_checkLength_1 : decode prog_30_method_131_code 1 = .ok (.iload_n 0, 1) := by decide +kernel
theorem dq_Ar_checkLength_2 : decode prog_30_method_131_code 2 = .ok (.if_icmp .ge 35, 3) := by decide +kernel
theorem dq_Ar_checkLength_37 : decode prog_30_method_131_code 37 = .ok (.return_, 1) := by decide +kernel
set_option maxRecDepth 100000 in
def pq_Ar_checkLength_0 (E : wo_E) (mc ms : Nat) (Post : wo_W → Prop) (G : wo_W) (c s : Nat) (x0 : Int32) (x1 : Int32) : Prop := ((x0 ≤ x1 → Post G) ∧
  (¬ x0 ≤ x1 → False))
def pq_Ar_checkLength (E : wo_E) (mc ms : Nat) (Post : wo_W → Prop) (G : wo_W) (x0 : Int32) (x1 : Int32) : Prop := pq_Ar_checkLength_0 E mc ms Post G 0 0 x0 x1
set_option maxRecDepth 100000 in
set_option maxHeartbeats 4000000 in
theorem tq_Ar_checkLength_0 {p : Program} {l : Launch} {e : Env} {R : Room} {s₀ : State} {m : MethodId} {args : Array Value} {below : List Frame} {meth : Method} {cd : Code} {E : wo_E} {mc ms : Nat} {Post : wo_W → Prop} (hC : wo_Cx E "java/util/Arrays" prog_30_method_131_code 2 0 0 ((Option.none : Option Jvm.ClassFile.FieldType)) "checkLength" mc ms p R s₀ m args meth cd) : ∀ {G : wo_W} {c s : Nat} {x0 : Int32} {x1 : Int32}, pq_Ar_checkLength_0 E mc ms Post G c s x0 x1 → ∀ {H : Heap} {locs : List Loc} {ls : Array Slot}, wo_Se E G H → va_S (en_A E) s₀.heap H locs → lx_has ls 2 [(0, 1, .int x0), (1, 1, .int x1)] → c ≤ mc → s ≤ ms → W p l e R s₀ m args below meth cd H locs c s (MQ below (va_Qv Post (wo_B E) (en_A E)) args s₀ mc ms (en_A E)) (F0 m 0 ls []) := by
  intro G c s x0 x1 hw H locs ls hG hS hl hcc hss
  dsimp only [pq_Ar_checkLength_0] at hw
  have hx := hC.1
  have hb := hC.2.1
  refine lv_iload_n hx hb dq_Ar_checkLength_0 rfl (lx_at hl 1 rfl) ?_
  refine lv_iload_n hx hb dq_Ar_checkLength_1 rfl (lx_at hl 0 rfl) ?_
  refine lv_icmp_ge (tgt := 37) hx hb dq_Ar_checkLength_2 rfl (fun h => ?_) (fun h => ?_)
  · replace hw := hw.1 h
    exact wo_vret hC hG hS hcc hss hw dq_Ar_checkLength_37
  · replace hw := hw.2 h
    exact hw.elim
set_option maxHeartbeats 4000000 in
theorem mq_Ar_checkLength {l : Launch} {E : wo_E} {mc ms : Nat} {Post : wo_W → Prop} {G : wo_W} {x0 : Int32} {x1 : Int32} (hw : pq_Ar_checkLength E mc ms Post G x0 x1) : Met l yq_Ar_checkLength (Cond.code yq_Ar_checkLength prog_30_method_131_code 2 ((Option.none : Option Jvm.ClassFile.FieldType)) :: vw_WG) { frames := 0, cells := mc, slots := ms, locals := 0 } (va_Pc [.int x0, .int x1] (wo_Ok E G)) (va_Qv Post (wo_B E) (en_A E)) mc ms (en_A E) := by
  unfold pq_Ar_checkLength at hw
  exact wo_met [(1, .int x0), (1, .int x1)] rfl (by decide) (fun q hq => by simp only [List.mem_cons, List.not_mem_nil, or_false] at hq; rcases hq with rfl | rfl <;> first | rfl | exact lx_cR _) (Nat.le_of_ble_eq_true rfl) (fun p e R s m args below meth cd ls hC hG hS hl => tq_Ar_checkLength_0 hC hw hG hS (lx_sub hl [0, 1] rfl) (Nat.zero_le _) (Nat.zero_le _))

theorem dq_Ar_copyOfRangeByte_0 : decode prog_30_method_133_code 0 = .ok (.iload_n 1, 1) := by decide +kernel
theorem dq_Ar_copyOfRangeByte_1 : decode prog_30_method_133_code 1 = .ok (.iload_n 2, 1) := by decide +kernel
theorem dq_Ar_copyOfRangeByte_2 : decode prog_30_method_133_code 2 = .ok (.invokestatic 343, 3) := by decide +kernel
theorem dq_Ar_copyOfRangeByte_5 : decode prog_30_method_133_code 5 = .ok (.iload_n 2, 1) := by decide +kernel
theorem dq_Ar_copyOfRangeByte_6 : decode prog_30_method_133_code 6 = .ok (.iload_n 1, 1) := by decide +kernel
theorem dq_Ar_copyOfRangeByte_7 : decode prog_30_method_133_code 7 = .ok (.isub, 1) := by decide +kernel
theorem dq_Ar_copyOfRangeByte_8 : decode prog_30_method_133_code 8 = .ok (.istore_n 3, 1) := by decide +kernel
theorem dq_Ar_copyOfRangeByte_9 : decode prog_30_method_133_code 9 = .ok (.iload_n 3, 1) := by decide +kernel
theorem dq_Ar_copyOfRangeByte_10 : decode prog_30_method_133_code 10 = .ok (.newarray .byte, 2) := by decide +kernel
theorem dq_Ar_copyOfRangeByte_12 : decode prog_30_method_133_code 12 = .ok (.astore 4, 2) := by decide +kernel
theorem dq_Ar_copyOfRangeByte_14 : decode prog_30_method_133_code 14 = .ok (.aload_n 0, 1) := by decide +kernel
theorem dq_Ar_copyOfRangeByte_15 : decode prog_30_method_133_code 15 = .ok (.iload_n 1, 1) := by decide +kernel
theorem dq_Ar_copyOfRangeByte_16 : decode prog_30_method_133_code 16 = .ok (.aload 4, 2) := by decide +kernel
theorem dq_Ar_copyOfRangeByte_18 : decode prog_30_method_133_code 18 = .ok (.iconst 0, 1) := by decide +kernel
theorem dq_Ar_copyOfRangeByte_19 : decode prog_30_method_133_code 19 = .ok (.aload_n 0, 1) := by decide +kernel
theorem dq_Ar_copyOfRangeByte_20 : decode prog_30_method_133_code 20 = .ok (.arraylength, 1) := by decide +kernel
theorem dq_Ar_copyOfRangeByte_21 : decode prog_30_method_133_code 21 = .ok (.iload_n 1, 1) := by decide +kernel
theorem dq_Ar_copyOfRangeByte_22 : decode prog_30_method_133_code 22 = .ok (.isub, 1) := by decide +kernel
theorem dq_Ar_copyOfRangeByte_23 : decode prog_30_method_133_code 23 = .ok (.iload_n 3, 1) := by decide +kernel
theorem dq_Ar_copyOfRangeByte_24 : decode prog_30_method_133_code 24 = .ok (.invokestatic 304, 3) := by decide +kernel
theorem dq_Ar_copyOfRangeByte_27 : decode prog_30_method_133_code 27 = .ok (.invokestatic 150, 3) := by decide +kernel
theorem dq_Ar_copyOfRangeByte_30 : decode prog_30_method_133_code 30 = .ok (.aload 4, 2) := by decide +kernel
theorem dq_Ar_copyOfRangeByte_32 : decode prog_30_method_133_code 32 = .ok (.areturn, 1) := by decide +kernel
set_option maxRecDepth 100000 in
def pq_Ar_copyOfRangeByte_0 (E : wo_E) (mc ms : Nat) (Post : Option Nat → wo_W → Prop) (G : wo_W) (c s : Nat) (x0 : Option Nat) (x1 : Int32) (x2 : Int32) : Prop := ∃ mc1 ms2 : Nat, (c + mc1) ≤ mc ∧ (s + ms2) ≤ ms ∧ pq_Ar_checkLength E mc1 ms2 (fun G3 => 
  ¬ (x2 - x1) < 0 ∧ (x2 - x1).toNatClampNeg ≤ 65536 ∧ ((c + mc1) + 1) ≤ mc ∧ ((s + ms2) + (x2 - x1).toNatClampNeg) ≤ ms ∧ ∀ q8 : Nat, wo_ty G3 q8 = 0 → en_bs E ≤ q8 → ∀ G11 : wo_W, G11 = wo_na G3 q8 65 (x2 - x1).toNatClampNeg → 
    ∃ a13 : Nat, x0 = some a13 ∧ wo_ty G11 a13 = 65 ∧ ¬ x1 < 0 ∧ ¬ (0 : Int32) < 0 ∧ ¬ (wo_min ((nI (wo_len G11 a13)) - x1) (x2 - x1)) < 0 ∧ x1.toNatClampNeg + (wo_min ((nI (wo_len G11 a13)) - x1) (x2 - x1)).toNatClampNeg ≤ wo_len G11 a13 ∧ (0 : Int32).toNatClampNeg + (wo_min ((nI (wo_len G11 a13)) - x1) (x2 - x1)).toNatClampNeg ≤ wo_len G11 q8 ∧ en_bs E ≤ q8 ∧ wo_fitA .byte G11 a13 ∧ ∀ G22 : wo_W, G22 = wo_cpI G11 a13 q8 x1.toNatClampNeg (0 : Int32).toNatClampNeg (wo_min ((nI (wo_len G11 a13)) - x1) (x2 - x1)).toNatClampNeg → 
    Post (some q8) G22) G x1 x2
def pq_Ar_copyOfRangeByte (E : wo_E) (mc ms : Nat) (Post : Option Nat → wo_W → Prop) (G : wo_W) (x0 : Option Nat) (x1 : Int32) (x2 : Int32) : Prop := pq_Ar_copyOfRangeByte_0 E mc ms Post G 0 0 x0 x1 x2
set_option maxRecDepth 100000 in
set_option maxHeartbeats 4000000 in
theorem tq_Ar_copyOfRangeByte_0 {p : Program} {l : Launch} {e : Env} {R : Room} {s₀ : State} {m : MethodId} {args : Array Value} {below : List Frame} {meth : Method} {cd : Code} {E : wo_E} {mc ms : Nat} {Post : Option Nat → wo_W → Prop} (hC : wo_Cx E "java/util/Arrays" prog_30_method_133_code 5 1 28 ((Option.some (Jvm.ClassFile.FieldType.array Jvm.ClassFile.FieldType.byte))) "copyOfRangeByte" mc ms p R s₀ m args meth cd) : ∀ {G : wo_W} {c s : Nat} {x0 : Option Nat} {x1 : Int32} {x2 : Int32}, pq_Ar_copyOfRangeByte_0 E mc ms Post G c s x0 x1 x2 → ∀ {H : Heap} {locs : List Loc} {ls : Array Slot}, wo_Se E G H → va_S (en_A E) s₀.heap H locs → lx_has ls 5 [(0, 1, va_rf x0), (1, 1, .int x1), (2, 1, .int x2)] → c ≤ mc → s ≤ ms → W p l e R s₀ m args below meth cd H locs c s (MQ below (va_Qq Post (wo_B E) (en_A E)) args s₀ mc ms (en_A E)) (F0 m 0 ls []) := by
  intro G c s x0 x1 x2 hw H locs ls hG hS hl hcc hss
  dsimp only [pq_Ar_copyOfRangeByte_0] at hw
  have hx := hC.1
  have hb := hC.2.1
  refine lv_iload_n hx hb dq_Ar_copyOfRangeByte_0 rfl (lx_at hl 1 rfl) ?_
  refine lv_iload_n hx hb dq_Ar_copyOfRangeByte_1 rfl (lx_at hl 2 rfl) ?_
  obtain ⟨mc1, ms2, hc1, hs1, hw⟩ := hw
  refine va_callv (wo_runS hC lq_Ar_343 (mq_Ar_checkLength hw) hG hS rfl (lx_sz hl) rfl (Nat.zero_le _) (by decide) dq_Ar_copyOfRangeByte_2 ⟨hc1, hs1⟩) hS (fun _ _ h => h) (fun _ h => h) (fun G3 t H locs ht hvm hw' hB _ _ hS => ?_)
  clear hw
  have hw := hw'
  clear hw'
  replace hG := wo_bk ht hB
  replace hcc := hc1
  replace hss := hs1
  refine lv_iload_n hx hb dq_Ar_copyOfRangeByte_5 rfl (lx_at hl 2 rfl) ?_
  refine lv_iload_n hx hb dq_Ar_copyOfRangeByte_6 rfl (lx_at hl 1 rfl) ?_
  refine lv_isub hx hb dq_Ar_copyOfRangeByte_7 ?_
  refine lx_istore_n (lv' := [(3, 1, .int (x2 - x1)), (0, 1, va_rf x0), (1, 1, .int x1), (2, 1, .int x2)]) hx hb dq_Ar_copyOfRangeByte_8 rfl hl (by decide) rfl (fun ls hl' => ?_)
  clear hl
  have hl := hl'
  clear hl'
  refine lv_iload_n hx hb dq_Ar_copyOfRangeByte_9 rfl (lx_at hl 0 rfl) ?_
  obtain ⟨h4, hw⟩ := hw
  obtain ⟨h5, hw⟩ := hw
  obtain ⟨h6, hw⟩ := hw
  obtain ⟨h7, hw⟩ := hw
  refine wo_newa (j := 1) (at_ := .byte) hC rfl rfl aq_1 hG hS h4 h5 h6 h7 dq_Ar_copyOfRangeByte_10 (fun q8 G11 H z9 b10 e12 hG hS => ?_)
  replace hw := hw q8 z9 b10 G11 e12
  replace hcc := h6
  replace hss := h7
  refine lx_astore (lv' := [(4, 1, .ref q8), (3, 1, .int (x2 - x1)), (0, 1, va_rf x0), (1, 1, .int x1), (2, 1, .int x2)]) hx hb dq_Ar_copyOfRangeByte_12 hl (by decide) rfl (fun ls hl' => ?_)
  clear hl
  have hl := hl'
  clear hl'
  refine lx_aloadR_n hx hb dq_Ar_copyOfRangeByte_14 rfl (lx_at hl 2 rfl) ?_
  refine lv_iload_n hx hb dq_Ar_copyOfRangeByte_15 rfl (lx_at hl 3 rfl) ?_
  refine lv_aload hx hb dq_Ar_copyOfRangeByte_16 (lx_at hl 0 rfl) ?_
  refine lv_iconst (v := (0 : Int32)) hx hb dq_Ar_copyOfRangeByte_18 rfl ?_
  refine lx_aloadR_n hx hb dq_Ar_copyOfRangeByte_19 rfl (lx_at hl 2 rfl) ?_
  obtain ⟨a13, rfl, hw⟩ := hw
  obtain ⟨t14, hw⟩ := hw
  refine wo_alen (j := 1) hC rfl hG t14 dq_Ar_copyOfRangeByte_20 ?_
  refine lv_iload_n hx hb dq_Ar_copyOfRangeByte_21 rfl (lx_at hl 3 rfl) ?_
  refine lv_isub hx hb dq_Ar_copyOfRangeByte_22 ?_
  refine lv_iload_n hx hb dq_Ar_copyOfRangeByte_23 rfl (lx_at hl 1 rfl) ?_
  refine wo_mmin hC lq_Ar_304 (lx_sz hl) hcc hss (by decide) (lx_rk (Nat.le_of_ble_eq_true rfl)) dq_Ar_copyOfRangeByte_24 ?_
  obtain ⟨h15, hw⟩ := hw
  obtain ⟨h16, hw⟩ := hw
  obtain ⟨h17, hw⟩ := hw
  obtain ⟨h18, hw⟩ := hw
  obtain ⟨h19, hw⟩ := hw
  obtain ⟨h20, hw⟩ := hw
  obtain ⟨h21, hw⟩ := hw
  refine wo_cpyI (j := 1) hC rfl rfl lq_Ar_150 (lx_sz hl) hG hS t14 (ty_naq e12) h15 h16 h17 h18 h19 h20 h21 (by decide) (lx_rk (Nat.le_of_ble_eq_true rfl)) dq_Ar_copyOfRangeByte_27 (fun G22 H locs e23 hG hS => ?_)
  replace hw := hw G22 e23
  refine lv_aload hx hb dq_Ar_copyOfRangeByte_30 (lx_at hl 0 rfl) ?_
  exact wo_aret (x := (some q8)) hC rfl hG hS hcc hss hw dq_Ar_copyOfRangeByte_32
set_option maxHeartbeats 4000000 in
theorem mq_Ar_copyOfRangeByte {l : Launch} {E : wo_E} {mc ms : Nat} {Post : Option Nat → wo_W → Prop} {G : wo_W} {x0 : Option Nat} {x1 : Int32} {x2 : Int32} (hw : pq_Ar_copyOfRangeByte E mc ms Post G x0 x1 x2) : Met l yq_Ar_copyOfRangeByte (Cond.code yq_Ar_copyOfRangeByte prog_30_method_133_code 5 ((Option.some (Jvm.ClassFile.FieldType.array Jvm.ClassFile.FieldType.byte))) :: vw_WG) { frames := 1, cells := mc, slots := ms, locals := 28 } (va_Pc [va_rf x0, .int x1, .int x2] (wo_Ok E G)) (va_Qq Post (wo_B E) (en_A E)) mc ms (en_A E) := by
  unfold pq_Ar_copyOfRangeByte at hw
  exact wo_met [(1, va_rf x0), (1, .int x1), (1, .int x2)] rfl (by decide) (fun q hq => by simp only [List.mem_cons, List.not_mem_nil, or_false] at hq; rcases hq with rfl | rfl | rfl <;> first | rfl | exact lx_cR _) (Nat.le_of_ble_eq_true rfl) (fun p e R s m args below meth cd ls hC hG hS hl => tq_Ar_copyOfRangeByte_0 hC hw hG hS (lx_sub hl [0, 1, 2] rfl) (Nat.zero_le _) (Nat.zero_le _))

theorem dq_Ar_copyOfRange_0 : decode prog_30_method_132_code 0 = .ok (.iload_n 1, 1) := by decide +kernel
theorem dq_Ar_copyOfRange_1 : decode prog_30_method_132_code 1 = .ok (.ifCond .ne 9, 3) := by decide +kernel
theorem dq_Ar_copyOfRange_4 : decode prog_30_method_132_code 4 = .ok (.iload_n 2, 1) := by decide +kernel
theorem dq_Ar_copyOfRange_5 : decode prog_30_method_132_code 5 = .ok (.aload_n 0, 1) := by decide +kernel
theorem dq_Ar_copyOfRange_6 : decode prog_30_method_132_code 6 = .ok (.arraylength, 1) := by decide +kernel
theorem dq_Ar_copyOfRange_7 : decode prog_30_method_132_code 7 = .ok (.if_icmp .eq 10, 3) := by decide +kernel
theorem dq_Ar_copyOfRange_10 : decode prog_30_method_132_code 10 = .ok (.aload_n 0, 1) := by decide +kernel
theorem dq_Ar_copyOfRange_11 : decode prog_30_method_132_code 11 = .ok (.iload_n 1, 1) := by decide +kernel
theorem dq_Ar_copyOfRange_12 : decode prog_30_method_132_code 12 = .ok (.iload_n 2, 1) := by decide +kernel
theorem dq_Ar_copyOfRange_13 : decode prog_30_method_132_code 13 = .ok (.invokestatic 339, 3) := by decide +kernel
theorem dq_Ar_copyOfRange_16 : decode prog_30_method_132_code 16 = .ok (.areturn, 1) := by decide +kernel
theorem dq_Ar_copyOfRange_17 : decode prog_30_method_132_code 17 = .ok (.aload_n 0, 1) := by decide +kernel
theorem dq_Ar_copyOfRange_18 : decode prog_30_method_132_code 18 = .ok (.invokevirtual 310, 3) := by decide +kernel
theorem dq_Ar_copyOfRange_21 : decode prog_30_method_132_code 21 = .ok (.checkcast 311, 3) := by decide +kernel
theorem dq_Ar_copyOfRange_24 : decode prog_30_method_132_code 24 = .ok (.areturn, 1) := by decide +kernel
set_option maxRecDepth 100000 in
def pq_Ar_copyOfRange_10 (E : wo_E) (mc ms : Nat) (Post : Option Nat → wo_W → Prop) (G : wo_W) (c s : Nat) (x0 : Option Nat) (x1 : Int32) (x2 : Int32) : Prop := ∃ mc1 ms2 : Nat, (c + mc1) ≤ mc ∧ (s + ms2) ≤ ms ∧ pq_Ar_copyOfRangeByte E mc1 ms2 (fun v4 G3 => 
  Post v4 G3) G x0 x1 x2
set_option maxRecDepth 100000 in
def pq_Ar_copyOfRange_0 (E : wo_E) (mc ms : Nat) (Post : Option Nat → wo_W → Prop) (G : wo_W) (c s : Nat) (x0 : Option Nat) (x1 : Int32) (x2 : Int32) : Prop := ((¬ x1 = (0 : Int32) → pq_Ar_copyOfRange_10 E mc ms Post G c s x0 x1 x2) ∧
  (x1 = (0 : Int32) → ∃ a1 : Nat, x0 = some a1 ∧ wo_ty G a1 = 65 ∧ ((x2 = (nI (wo_len G a1)) → en_bs E ≤ a1 ∧ wo_fitA .byte G a1 ∧ (c + 1) ≤ mc ∧ (s + wo_len G a1) ≤ ms ∧ ∀ q7 : Nat, wo_ty G q7 = 0 → en_bs E ≤ q7 → ∀ G10 : wo_W, G10 = wo_cln G a1 q7 → 
      wo_is G10 65 (some q7) ∧ (∀ a : Nat, (some q7) = some a → en_bs E ≤ a) ∧ Post (some q7) G10) ∧
    (¬ x2 = (nI (wo_len G a1)) → pq_Ar_copyOfRange_10 E mc ms Post G c s (some a1) x1 x2))))
def pq_Ar_copyOfRange (E : wo_E) (mc ms : Nat) (Post : Option Nat → wo_W → Prop) (G : wo_W) (x0 : Option Nat) (x1 : Int32) (x2 : Int32) : Prop := pq_Ar_copyOfRange_0 E mc ms Post G 0 0 x0 x1 x2
set_option maxRecDepth 100000 in
set_option maxHeartbeats 4000000 in
theorem tq_Ar_copyOfRange_10 {p : Program} {l : Launch} {e : Env} {R : Room} {s₀ : State} {m : MethodId} {args : Array Value} {below : List Frame} {meth : Method} {cd : Code} {E : wo_E} {mc ms : Nat} {Post : Option Nat → wo_W → Prop} (hC : wo_Cx E "java/util/Arrays" prog_30_method_132_code 3 2 52 ((Option.some (Jvm.ClassFile.FieldType.array Jvm.ClassFile.FieldType.byte))) "copyOfRange" mc ms p R s₀ m args meth cd) : ∀ {G : wo_W} {c s : Nat} {x0 : Option Nat} {x1 : Int32} {x2 : Int32}, pq_Ar_copyOfRange_10 E mc ms Post G c s x0 x1 x2 → ∀ {H : Heap} {locs : List Loc} {ls : Array Slot}, wo_Se E G H → va_S (en_A E) s₀.heap H locs → lx_has ls 3 [(0, 1, va_rf x0), (1, 1, .int x1), (2, 1, .int x2)] → c ≤ mc → s ≤ ms → W p l e R s₀ m args below meth cd H locs c s (MQ below (va_Qq Post (wo_B E) (en_A E)) args s₀ mc ms (en_A E)) (F0 m 10 ls []) := by
  intro G c s x0 x1 x2 hw H locs ls hG hS hl hcc hss
  dsimp only [pq_Ar_copyOfRange_10] at hw
  have hx := hC.1
  have hb := hC.2.1
  refine lx_aloadR_n hx hb dq_Ar_copyOfRange_10 rfl (lx_at hl 0 rfl) ?_
  refine lv_iload_n hx hb dq_Ar_copyOfRange_11 rfl (lx_at hl 1 rfl) ?_
  refine lv_iload_n hx hb dq_Ar_copyOfRange_12 rfl (lx_at hl 2 rfl) ?_
  obtain ⟨mc1, ms2, hc1, hs1, hw⟩ := hw
  refine va_callq (wo_runS hC lq_Ar_339 (mq_Ar_copyOfRangeByte hw) hG hS rfl (lx_sz hl) rfl (Nat.zero_le _) (by decide) dq_Ar_copyOfRange_13 ⟨hc1, hs1⟩) hS (fun _ _ h => h) (fun _ h => h) (fun v4 G3 t H locs ht hvm hw' hB _ _ hS => ?_)
  clear hw
  have hw := hw'
  clear hw'
  replace hG := wo_bk ht hB
  replace hcc := hc1
  replace hss := hs1
  exact wo_aret (x := v4) hC rfl hG hS hcc hss hw dq_Ar_copyOfRange_16
set_option maxRecDepth 100000 in
set_option maxHeartbeats 4000000 in
theorem tq_Ar_copyOfRange_0 {p : Program} {l : Launch} {e : Env} {R : Room} {s₀ : State} {m : MethodId} {args : Array Value} {below : List Frame} {meth : Method} {cd : Code} {E : wo_E} {mc ms : Nat} {Post : Option Nat → wo_W → Prop} (hC : wo_Cx E "java/util/Arrays" prog_30_method_132_code 3 2 52 ((Option.some (Jvm.ClassFile.FieldType.array Jvm.ClassFile.FieldType.byte))) "copyOfRange" mc ms p R s₀ m args meth cd) : ∀ {G : wo_W} {c s : Nat} {x0 : Option Nat} {x1 : Int32} {x2 : Int32}, pq_Ar_copyOfRange_0 E mc ms Post G c s x0 x1 x2 → ∀ {H : Heap} {locs : List Loc} {ls : Array Slot}, wo_Se E G H → va_S (en_A E) s₀.heap H locs → lx_has ls 3 [(0, 1, va_rf x0), (1, 1, .int x1), (2, 1, .int x2)] → c ≤ mc → s ≤ ms → W p l e R s₀ m args below meth cd H locs c s (MQ below (va_Qq Post (wo_B E) (en_A E)) args s₀ mc ms (en_A E)) (F0 m 0 ls []) := by
  intro G c s x0 x1 x2 hw H locs ls hG hS hl hcc hss
  dsimp only [pq_Ar_copyOfRange_0] at hw
  have hx := hC.1
  have hb := hC.2.1
  refine lv_iload_n hx hb dq_Ar_copyOfRange_0 rfl (lx_at hl 1 rfl) ?_
  refine lv_if_ne (tgt := 10) hx hb dq_Ar_copyOfRange_1 rfl (fun h => ?_) (fun h => ?_)
  · replace hw := hw.1 h
    exact tq_Ar_copyOfRange_10 hC hw hG hS (lx_sub hl [0, 1, 2] rfl) hcc hss
  · replace hw := hw.2 h
    refine lv_iload_n hx hb dq_Ar_copyOfRange_4 rfl (lx_at hl 2 rfl) ?_
    refine lx_aloadR_n hx hb dq_Ar_copyOfRange_5 rfl (lx_at hl 0 rfl) ?_
    obtain ⟨a1, rfl, hw⟩ := hw
    obtain ⟨t2, hw⟩ := hw
    refine wo_alen (j := 1) hC rfl hG t2 dq_Ar_copyOfRange_6 ?_
    refine lv_icmp_eq (tgt := 17) hx hb dq_Ar_copyOfRange_7 rfl (fun h => ?_) (fun h => ?_)
    · replace hw := hw.1 h
      refine lv_aload_n hx hb dq_Ar_copyOfRange_17 rfl (lx_at hl 0 rfl) ?_
      obtain ⟨h3, hw⟩ := hw
      obtain ⟨h4, hw⟩ := hw
      obtain ⟨h5, hw⟩ := hw
      obtain ⟨h6, hw⟩ := hw
      refine wo_clone (j := 1) hC rfl lq_Ar_310 (lx_sz hl) hG hS t2 h3 h4 h5 h6 (by decide) (Nat.le_of_ble_eq_true rfl) dq_Ar_copyOfRange_18 (fun q7 G10 H z8 b9 e11 hG hS => ?_)
      replace hw := hw q7 z8 b9 G10 e11
      replace hcc := h5
      replace hss := h6
      obtain ⟨h12, hw⟩ := hw
      obtain ⟨h13, hw⟩ := hw
      refine wo_castA (x := (some q7)) (j := 1) hC rfl kq_Ar_311 (by decide +kernel) hG h12 h13 dq_Ar_copyOfRange_21 ?_
      exact wo_aret (x := (some q7)) hC rfl hG hS hcc hss hw dq_Ar_copyOfRange_24
    · replace hw := hw.2 h
      exact tq_Ar_copyOfRange_10 hC hw hG hS (lx_sub hl [0, 1, 2] rfl) hcc hss
set_option maxHeartbeats 4000000 in
theorem mq_Ar_copyOfRange {l : Launch} {E : wo_E} {mc ms : Nat} {Post : Option Nat → wo_W → Prop} {G : wo_W} {x0 : Option Nat} {x1 : Int32} {x2 : Int32} (hw : pq_Ar_copyOfRange E mc ms Post G x0 x1 x2) : Met l yq_Ar_copyOfRange (Cond.code yq_Ar_copyOfRange prog_30_method_132_code 3 ((Option.some (Jvm.ClassFile.FieldType.array Jvm.ClassFile.FieldType.byte))) :: vw_WG) { frames := 2, cells := mc, slots := ms, locals := 52 } (va_Pc [va_rf x0, .int x1, .int x2] (wo_Ok E G)) (va_Qq Post (wo_B E) (en_A E)) mc ms (en_A E) := by
  unfold pq_Ar_copyOfRange at hw
  exact wo_met [(1, va_rf x0), (1, .int x1), (1, .int x2)] rfl (by decide) (fun q hq => by simp only [List.mem_cons, List.not_mem_nil, or_false] at hq; rcases hq with rfl | rfl | rfl <;> first | rfl | exact lx_cR _) (Nat.le_of_ble_eq_true rfl) (fun p e R s m args below meth cd ls hC hG hS hl => tq_Ar_copyOfRange_0 hC hw hG hS (lx_sub hl [0, 1, 2] rfl) (Nat.zero_le _) (Nat.zero_le _))

theorem dq_St_init_OO_0 : decode prog_22_method_150_code 0 = .ok (.aload_n 0, 1) := by decide +kernel
theorem dq_St_init_OO_1 : decode prog_22_method_150_code 1 = .ok (.invokespecial 1, 3) := by decide +kernel
theorem dq_St_init_OO_4 : decode prog_22_method_150_code 4 = .ok (.aload_n 1, 1) := by decide +kernel
theorem dq_St_init_OO_5 : decode prog_22_method_150_code 5 = .ok (.invokevirtual 552, 3) := by decide +kernel
theorem dq_St_init_OO_8 : decode prog_22_method_150_code 8 = .ok (.astore_n 3, 1) := by decide +kernel
theorem dq_St_init_OO_9 : decode prog_22_method_150_code 9 = .ok (.aload_n 1, 1) := by decide +kernel
theorem dq_St_init_OO_10 : decode prog_22_method_150_code 10 = .ok (.invokevirtual 549, 3) := by decide +kernel
theorem dq_St_init_OO_13 : decode prog_22_method_150_code 13 = .ok (.istore 4, 2) := by decide +kernel
theorem dq_St_init_OO_15 : decode prog_22_method_150_code 15 = .ok (.aload_n 1, 1) := by decide +kernel
theorem dq_St_init_OO_16 : decode prog_22_method_150_code 16 = .ok (.invokevirtual 1047, 3) := by decide +kernel
theorem dq_St_init_OO_19 : decode prog_22_method_150_code 19 = .ok (.ifCond .eq 22, 3) := by decide +kernel
theorem dq_St_init_OO_22 : decode prog_22_method_150_code 22 = .ok (.aload_n 0, 1) := by decide +kernel
theorem dq_St_init_OO_23 : decode prog_22_method_150_code 23 = .ok (.iconst 0, 1) := by decide +kernel
theorem dq_St_init_OO_24 : decode prog_22_method_150_code 24 = .ok (.putfield 15, 3) := by decide +kernel
theorem dq_St_init_OO_27 : decode prog_22_method_150_code 27 = .ok (.aload_n 0, 1) := by decide +kernel
theorem dq_St_init_OO_28 : decode prog_22_method_150_code 28 = .ok (.aload_n 3, 1) := by decide +kernel
theorem dq_St_init_OO_29 : decode prog_22_method_150_code 29 = .ok (.iconst 0, 1) := by decide +kernel
theorem dq_St_init_OO_30 : decode prog_22_method_150_code 30 = .ok (.iload 4, 2) := by decide +kernel
theorem dq_St_init_OO_32 : decode prog_22_method_150_code 32 = .ok (.invokestatic 54, 3) := by decide +kernel
theorem dq_St_init_OO_35 : decode prog_22_method_150_code 35 = .ok (.putfield 9, 3) := by decide +kernel
theorem dq_St_init_OO_38 : decode prog_22_method_150_code 38 = .ok (.goto 59, 3) := by decide +kernel
theorem dq_St_init_OO_41 : decode prog_22_method_150_code 41 = .ok (.getstatic 38, 3) := by decide +kernel
theorem dq_St_init_OO_44 : decode prog_22_method_150_code 44 = .ok (.ifCond .eq 35, 3) := by decide +kernel
theorem dq_St_init_OO_47 : decode prog_22_method_150_code 47 = .ok (.aload_n 1, 1) := by decide +kernel
theorem dq_St_init_OO_48 : decode prog_22_method_150_code 48 = .ok (.getfield 1048, 3) := by decide +kernel
theorem dq_St_init_OO_51 : decode prog_22_method_150_code 51 = .ok (.ifCond .eq 28, 3) := by decide +kernel
theorem dq_St_init_OO_79 : decode prog_22_method_150_code 79 = .ok (.aload_n 0, 1) := by decide +kernel
theorem dq_St_init_OO_80 : decode prog_22_method_150_code 80 = .ok (.iconst 1, 1) := by decide +kernel
theorem dq_St_init_OO_81 : decode prog_22_method_150_code 81 = .ok (.putfield 15, 3) := by decide +kernel
theorem dq_St_init_OO_84 : decode prog_22_method_150_code 84 = .ok (.aload_n 0, 1) := by decide +kernel
theorem dq_St_init_OO_85 : decode prog_22_method_150_code 85 = .ok (.aload_n 3, 1) := by decide +kernel
theorem dq_St_init_OO_86 : decode prog_22_method_150_code 86 = .ok (.iconst 0, 1) := by decide +kernel
theorem dq_St_init_OO_87 : decode prog_22_method_150_code 87 = .ok (.iload 4, 2) := by decide +kernel
theorem dq_St_init_OO_89 : decode prog_22_method_150_code 89 = .ok (.iconst 1, 1) := by decide +kernel
theorem dq_St_init_OO_90 : decode prog_22_method_150_code 90 = .ok (.ishl, 1) := by decide +kernel
theorem dq_St_init_OO_91 : decode prog_22_method_150_code 91 = .ok (.invokestatic 54, 3) := by decide +kernel
theorem dq_St_init_OO_94 : decode prog_22_method_150_code 94 = .ok (.putfield 9, 3) := by decide +kernel
theorem dq_St_init_OO_97 : decode prog_22_method_150_code 97 = .ok (.return_, 1) := by decide +kernel
set_option maxRecDepth 100000 in
def pq_St_init_OO_97 (E : wo_E) (mc ms : Nat) (Post : wo_W → Prop) (G : wo_W) (c s : Nat) : Prop := Post G
set_option maxRecDepth 100000 in
def pq_St_init_OO_79 (E : wo_E) (mc ms : Nat) (Post : wo_W → Prop) (G : wo_W) (c s : Nat) (x0 : Nat) (x3 : Option Nat) (x4 : Int32) : Prop := wo_ty G x0 = 10 ∧ en_bs E ≤ x0 ∧ wo_okI .byte (1 : Int32) ∧ ∀ G4 : wo_W, G4 = wo_si G 577 x0 (1 : Int32) → 
  ∃ mc6 ms7 : Nat, (c + mc6) ≤ mc ∧ (s + ms7) ≤ ms ∧ pq_Ar_copyOfRange E mc6 ms7 (fun v9 G8 => 
  wo_ty G8 x0 = 10 ∧ en_bs E ≤ x0 ∧ ∀ G12 : wo_W, G12 = wo_sr G8 576 x0 v9 → 
    pq_St_init_OO_97 E mc ms Post G12 (c + mc6) (s + ms7)) G4 x3 (0 : Int32) (x4 <<< ((1 : Int32) &&& 31))
set_option maxRecDepth 100000 in
def pq_St_init_OO_0 (E : wo_E) (mc ms : Nat) (Post : wo_W → Prop) (G : wo_W) (c s : Nat) (x0 : Nat) (x1 : Option Nat) : Prop := ∃ a1 : Nat, x1 = some a1 ∧ wo_ty G a1 = 5 ∧ ∃ mc3 ms4 : Nat, (c + mc3) ≤ mc ∧ (s + ms4) ≤ ms ∧ pq_AB_getValue E mc3 ms4 (fun v6 G5 => 
  wo_ty G5 a1 = 5 ∧ ∃ mc8 ms9 : Nat, ((c + mc3) + mc8) ≤ mc ∧ ((s + ms4) + ms9) ≤ ms ∧ pq_SB_length E mc8 ms9 (fun v11 G10 => 
    wo_ty G10 a1 = 5 ∧ ∃ mc13 ms14 : Nat, (((c + mc3) + mc8) + mc13) ≤ mc ∧ (((s + ms4) + ms9) + ms14) ≤ ms ∧ pq_AB_isLatin1 E mc13 ms14 (fun v16 G15 => 
      ((v16 = (0 : Int32) → wo_ty G15 a1 = 5 ∧ (((wo_gi G15 258 a1) = (0 : Int32) → pq_St_init_OO_79 E mc ms Post G15 (((c + mc3) + mc8) + mc13) (((s + ms4) + ms9) + ms14) x0 v6 v11) ∧
          (¬ (wo_gi G15 258 a1) = (0 : Int32) → False))) ∧
        (¬ v16 = (0 : Int32) → wo_ty G15 x0 = 10 ∧ en_bs E ≤ x0 ∧ wo_okI .byte (0 : Int32) ∧ ∀ G21 : wo_W, G21 = wo_si G15 577 x0 (0 : Int32) → 
          ∃ mc23 ms24 : Nat, ((((c + mc3) + mc8) + mc13) + mc23) ≤ mc ∧ ((((s + ms4) + ms9) + ms14) + ms24) ≤ ms ∧ pq_Ar_copyOfRange E mc23 ms24 (fun v26 G25 => 
          wo_ty G25 x0 = 10 ∧ en_bs E ≤ x0 ∧ ∀ G29 : wo_W, G29 = wo_sr G25 576 x0 v26 → 
            pq_St_init_OO_97 E mc ms Post G29 ((((c + mc3) + mc8) + mc13) + mc23) ((((s + ms4) + ms9) + ms14) + ms24)) G21 v6 (0 : Int32) v11))) G10 a1) G5 a1) G a1
def pq_St_init_OO (E : wo_E) (mc ms : Nat) (Post : wo_W → Prop) (G : wo_W) (x0 : Nat) (x1 : Option Nat) (x2 : Option Nat) : Prop := pq_St_init_OO_0 E mc ms Post G 0 0 x0 x1
set_option maxRecDepth 100000 in
set_option maxHeartbeats 4000000 in
theorem tq_St_init_OO_97 {p : Program} {l : Launch} {e : Env} {R : Room} {s₀ : State} {m : MethodId} {args : Array Value} {below : List Frame} {meth : Method} {cd : Code} {E : wo_E} {mc ms : Nat} {Post : wo_W → Prop} (hC : wo_Cx E "java/lang/String" prog_22_method_150_code 5 3 74 ((Option.none : Option Jvm.ClassFile.FieldType)) "<init>" mc ms p R s₀ m args meth cd) : ∀ {G : wo_W} {c s : Nat}, pq_St_init_OO_97 E mc ms Post G c s → ∀ {H : Heap} {locs : List Loc} {ls : Array Slot}, wo_Se E G H → va_S (en_A E) s₀.heap H locs → lx_has ls 5 [] → c ≤ mc → s ≤ ms → W p l e R s₀ m args below meth cd H locs c s (MQ below (va_Qv Post (wo_B E) (en_A E)) args s₀ mc ms (en_A E)) (F0 m 97 ls []) := by
  intro G c s hw H locs ls hG hS hl hcc hss
  dsimp only [pq_St_init_OO_97] at hw
  have hx := hC.1
  have hb := hC.2.1
  exact wo_vret hC hG hS hcc hss hw dq_St_init_OO_97
set_option maxRecDepth 100000 in
set_option maxHeartbeats 4000000 in
theorem tq_St_init_OO_79 {p : Program} {l : Launch} {e : Env} {R : Room} {s₀ : State} {m : MethodId} {args : Array Value} {below : List Frame} {meth : Method} {cd : Code} {E : wo_E} {mc ms : Nat} {Post : wo_W → Prop} (hC : wo_Cx E "java/lang/String" prog_22_method_150_code 5 3 74 ((Option.none : Option Jvm.ClassFile.FieldType)) "<init>" mc ms p R s₀ m args meth cd) : ∀ {G : wo_W} {c s : Nat} {x0 : Nat} {x3 : Option Nat} {x4 : Int32}, pq_St_init_OO_79 E mc ms Post G c s x0 x3 x4 → ∀ {H : Heap} {locs : List Loc} {ls : Array Slot}, wo_Se E G H → va_S (en_A E) s₀.heap H locs → lx_has ls 5 [(0, 1, .ref x0), (3, 1, va_rf x3), (4, 1, .int x4)] → c ≤ mc → s ≤ ms → W p l e R s₀ m args below meth cd H locs c s (MQ below (va_Qv Post (wo_B E) (en_A E)) args s₀ mc ms (en_A E)) (F0 m 79 ls []) := by
  intro G c s x0 x3 x4 hw H locs ls hG hS hl hcc hss
  dsimp only [pq_St_init_OO_79] at hw
  have hx := hC.1
  have hb := hC.2.1
  refine lv_aload_n hx hb dq_St_init_OO_79 rfl (lx_at hl 0 rfl) ?_
  refine lv_iconst (v := (1 : Int32)) hx hb dq_St_init_OO_80 rfl ?_
  obtain ⟨t1, hw⟩ := hw
  obtain ⟨h2, hw⟩ := hw
  obtain ⟨h3, hw⟩ := hw
  refine wo_putI hC fq_St_15 (Or.inr ⟨rfl, rfl⟩) rfl h3 hG hS t1 h2 dq_St_init_OO_81 (fun G4 H locs e5 hG hS => ?_)
  replace hw := hw G4 e5
  refine lv_aload_n hx hb dq_St_init_OO_84 rfl (lx_at hl 0 rfl) ?_
  refine lx_aloadR_n hx hb dq_St_init_OO_85 rfl (lx_at hl 1 rfl) ?_
  refine lv_iconst (v := (0 : Int32)) hx hb dq_St_init_OO_86 rfl ?_
  refine lv_iload hx hb dq_St_init_OO_87 (lx_at hl 2 rfl) ?_
  refine lv_iconst (v := (1 : Int32)) hx hb dq_St_init_OO_89 rfl ?_
  refine lv_ishl hx hb dq_St_init_OO_90 ?_
  obtain ⟨mc6, ms7, hc1, hs1, hw⟩ := hw
  refine va_callq (wo_runS hC lq_St_54 (mq_Ar_copyOfRange hw) hG hS rfl (lx_sz hl) rfl (lx_rm (Nat.le_of_ble_eq_true rfl)) (by decide) dq_St_init_OO_91 ⟨hc1, hs1⟩) hS (fun _ _ h => h) (fun _ h => h) (fun v9 G8 t H locs ht hvm hw' hB _ _ hS => ?_)
  clear hw
  have hw := hw'
  clear hw'
  replace hG := wo_bk ht hB
  replace hcc := hc1
  replace hss := hs1
  obtain ⟨t10, hw⟩ := hw
  obtain ⟨h11, hw⟩ := hw
  refine wo_putR (x := v9) hC fq_St_9 (Or.inr ⟨rfl, rfl⟩) rfl hG hS t10 h11 dq_St_init_OO_94 (fun G12 H locs e13 hG hS => ?_)
  replace hw := hw G12 e13
  exact tq_St_init_OO_97 hC hw hG hS (lx_sub hl [] rfl) hcc hss
set_option maxRecDepth 100000 in
set_option maxHeartbeats 4000000 in
theorem tq_St_init_OO_0 {p : Program} {l : Launch} {e : Env} {R : Room} {s₀ : State} {m : MethodId} {args : Array Value} {below : List Frame} {meth : Method} {cd : Code} {E : wo_E} {mc ms : Nat} {Post : wo_W → Prop} (hC : wo_Cx E "java/lang/String" prog_22_method_150_code 5 3 74 ((Option.none : Option Jvm.ClassFile.FieldType)) "<init>" mc ms p R s₀ m args meth cd) : ∀ {G : wo_W} {c s : Nat} {x0 : Nat} {x1 : Option Nat}, pq_St_init_OO_0 E mc ms Post G c s x0 x1 → ∀ {H : Heap} {locs : List Loc} {ls : Array Slot}, wo_Se E G H → va_S (en_A E) s₀.heap H locs → lx_has ls 5 [(0, 1, .ref x0), (1, 1, va_rf x1)] → c ≤ mc → s ≤ ms → W p l e R s₀ m args below meth cd H locs c s (MQ below (va_Qv Post (wo_B E) (en_A E)) args s₀ mc ms (en_A E)) (F0 m 0 ls []) := by
  intro G c s x0 x1 hw H locs ls hG hS hl hcc hss
  dsimp only [pq_St_init_OO_0] at hw
  have hx := hC.1
  have hb := hC.2.1
  refine lv_aload_n hx hb dq_St_init_OO_0 rfl (lx_at hl 0 rfl) ?_
  refine wo_objI hC lq_St_1 (lx_sz hl) (by decide) (lx_rk (Nat.le_of_ble_eq_true rfl)) dq_St_init_OO_1 ?_
  refine lx_aloadR_n hx hb dq_St_init_OO_4 rfl (lx_at hl 1 rfl) ?_
  obtain ⟨a1, rfl, hw⟩ := hw
  obtain ⟨t2, hw⟩ := hw
  obtain ⟨mc3, ms4, hc1, hs1, hw⟩ := hw
  refine va_callq (wo_runV hC lq_St_552 (mq_AB_getValue hw) hG hS t2 rfl (lx_sz hl) rfl (Nat.zero_le _) (by decide) dq_St_init_OO_5 ⟨hc1, hs1⟩) hS (fun _ _ h => h) (fun _ h => h) (fun v6 G5 t H locs ht hvm hw' hB _ _ hS => ?_)
  clear hw
  have hw := hw'
  clear hw'
  replace hG := wo_bk ht hB
  replace hcc := hc1
  replace hss := hs1
  refine lx_astoreR_n (lv' := [(3, 1, va_rf v6), (0, 1, .ref x0), (1, 1, .ref a1)]) hx hb dq_St_init_OO_8 rfl hl (by decide) rfl (fun ls hl' => ?_)
  clear hl
  have hl := hl'
  clear hl'
  refine lv_aload_n hx hb dq_St_init_OO_9 rfl (lx_at hl 2 rfl) ?_
  obtain ⟨t7, hw⟩ := hw
  obtain ⟨mc8, ms9, hc1, hs1, hw⟩ := hw
  refine va_calli (wo_runU hC lq_St_549 (mq_SB_length hw) hG hS t7 rfl (lx_sz hl) rfl (Nat.zero_le _) (by decide) dq_St_init_OO_10 ⟨hc1, hs1⟩) hS (fun _ _ h => h) (fun _ h => h) (fun v11 G10 t H locs ht hvm hw' hB _ _ hS => ?_)
  clear hw
  have hw := hw'
  clear hw'
  replace hG := wo_bk ht hB
  replace hcc := hc1
  replace hss := hs1
  refine lx_istore (lv' := [(4, 1, .int v11), (3, 1, va_rf v6), (0, 1, .ref x0), (1, 1, .ref a1)]) hx hb dq_St_init_OO_13 hl (by decide) rfl (fun ls hl' => ?_)
  clear hl
  have hl := hl'
  clear hl'
  refine lv_aload_n hx hb dq_St_init_OO_15 rfl (lx_at hl 3 rfl) ?_
  obtain ⟨t12, hw⟩ := hw
  obtain ⟨mc13, ms14, hc1, hs1, hw⟩ := hw
  refine va_calli (wo_runV hC lq_St_1047 (mq_AB_isLatin1 hw) hG hS t12 rfl (lx_sz hl) rfl (Nat.zero_le _) (by decide) dq_St_init_OO_16 ⟨hc1, hs1⟩) hS (fun _ _ h => h) (fun _ h => h) (fun v16 G15 t H locs ht hvm hw' hB _ _ hS => ?_)
  clear hw
  have hw := hw'
  clear hw'
  replace hG := wo_bk ht hB
  replace hcc := hc1
  replace hss := hs1
  refine lv_if_eq (tgt := 41) hx hb dq_St_init_OO_19 rfl (fun h => ?_) (fun h => ?_)
  · replace hw := hw.1 h
    refine wo_gstI hC sq_St_38 hS dq_St_init_OO_41 ?_
    refine lv_if_eq (tgt := 79) hx hb dq_St_init_OO_44 rfl (fun h => absurd h (by decide)) (fun _ => ?_)
    refine lv_aload_n hx hb dq_St_init_OO_47 rfl (lx_at hl 3 rfl) ?_
    obtain ⟨t17, hw⟩ := hw
    refine wo_getI hC fq_St_1048 rfl hG t17 dq_St_init_OO_48 ?_
    refine lv_if_eq (tgt := 79) hx hb dq_St_init_OO_51 rfl (fun h => ?_) (fun h => ?_)
    · replace hw := hw.1 h
      exact tq_St_init_OO_79 hC hw hG hS (lx_sub hl [2, 1, 0] rfl) hcc hss
    · replace hw := hw.2 h
      exact hw.elim
  · replace hw := hw.2 h
    refine lv_aload_n hx hb dq_St_init_OO_22 rfl (lx_at hl 2 rfl) ?_
    refine lv_iconst (v := (0 : Int32)) hx hb dq_St_init_OO_23 rfl ?_
    obtain ⟨t18, hw⟩ := hw
    obtain ⟨h19, hw⟩ := hw
    obtain ⟨h20, hw⟩ := hw
    refine wo_putI hC fq_St_15 (Or.inr ⟨rfl, rfl⟩) rfl h20 hG hS t18 h19 dq_St_init_OO_24 (fun G21 H locs e22 hG hS => ?_)
    replace hw := hw G21 e22
    refine lv_aload_n hx hb dq_St_init_OO_27 rfl (lx_at hl 2 rfl) ?_
    refine lx_aloadR_n hx hb dq_St_init_OO_28 rfl (lx_at hl 1 rfl) ?_
    refine lv_iconst (v := (0 : Int32)) hx hb dq_St_init_OO_29 rfl ?_
    refine lv_iload hx hb dq_St_init_OO_30 (lx_at hl 0 rfl) ?_
    obtain ⟨mc23, ms24, hc1, hs1, hw⟩ := hw
    refine va_callq (wo_runS hC lq_St_54 (mq_Ar_copyOfRange hw) hG hS rfl (lx_sz hl) rfl (lx_rm (Nat.le_of_ble_eq_true rfl)) (by decide) dq_St_init_OO_32 ⟨hc1, hs1⟩) hS (fun _ _ h => h) (fun _ h => h) (fun v26 G25 t H locs ht hvm hw' hB _ _ hS => ?_)
    clear hw
    have hw := hw'
    clear hw'
    replace hG := wo_bk ht hB
    replace hcc := hc1
    replace hss := hs1
    obtain ⟨t27, hw⟩ := hw
    obtain ⟨h28, hw⟩ := hw
    refine wo_putR (x := v26) hC fq_St_9 (Or.inr ⟨rfl, rfl⟩) rfl hG hS t27 h28 dq_St_init_OO_35 (fun G29 H locs e30 hG hS => ?_)
    replace hw := hw G29 e30
    refine lv_goto (tgt := 97) hx hb dq_St_init_OO_38 rfl ?_
    exact tq_St_init_OO_97 hC hw hG hS (lx_sub hl [] rfl) hcc hss
set_option maxHeartbeats 4000000 in
theorem mq_St_init_OO {l : Launch} {E : wo_E} {mc ms : Nat} {Post : wo_W → Prop} {G : wo_W} {x0 : Nat} {x1 : Option Nat} {x2 : Option Nat} (hw : pq_St_init_OO E mc ms Post G x0 x1 x2) : Met l yq_St_init_OO (Cond.code yq_St_init_OO prog_22_method_150_code 5 ((Option.none : Option Jvm.ClassFile.FieldType)) :: vw_WG) { frames := 3, cells := mc, slots := ms, locals := 74 } (va_Pc [.ref x0, va_rf x1, va_rf x2] (wo_Ok E G)) (va_Qv Post (wo_B E) (en_A E)) mc ms (en_A E) := by
  unfold pq_St_init_OO at hw
  exact wo_met [(1, .ref x0), (1, va_rf x1), (1, va_rf x2)] rfl (by decide) (fun q hq => by simp only [List.mem_cons, List.not_mem_nil, or_false] at hq; rcases hq with rfl | rfl | rfl <;> first | rfl | exact lx_cR _) (Nat.le_of_ble_eq_true rfl) (fun p e R s m args below meth cd ls hC hG hS hl => tq_St_init_OO_0 hC hw hG hS (lx_sub hl [0, 1] rfl) (Nat.zero_le _) (Nat.zero_le _))

theorem dq_St_init_O_0 : decode prog_22_method_53_code 0 = .ok (.aload_n 0, 1) := by decide +kernel
theorem dq_St_init_O_1 : decode prog_22_method_53_code 1 = .ok (.aload_n 1, 1) := by decide +kernel
theorem dq_St_init_O_2 : decode prog_22_method_53_code 2 = .ok (.aconst_null, 1) := by decide +kernel
theorem dq_St_init_O_3 : decode prog_22_method_53_code 3 = .ok (.invokespecial 489, 3) := by decide +kernel
theorem dq_St_init_O_6 : decode prog_22_method_53_code 6 = .ok (.return_, 1) := by decide +kernel
set_option maxRecDepth 100000 in
def pq_St_init_O_0 (E : wo_E) (mc ms : Nat) (Post : wo_W → Prop) (G : wo_W) (c s : Nat) (x0 : Nat) (x1 : Option Nat) : Prop := wo_ty G x0 = 10 ∧ ∃ mc2 ms3 : Nat, (c + mc2) ≤ mc ∧ (s + ms3) ≤ ms ∧ pq_St_init_OO E mc2 ms3 (fun G4 => 
  Post G4) G x0 x1 none
def pq_St_init_O (E : wo_E) (mc ms : Nat) (Post : wo_W → Prop) (G : wo_W) (x0 : Nat) (x1 : Option Nat) : Prop := pq_St_init_O_0 E mc ms Post G 0 0 x0 x1
set_option maxRecDepth 100000 in
set_option maxHeartbeats 4000000 in
theorem tq_St_init_O_0 {p : Program} {l : Launch} {e : Env} {R : Room} {s₀ : State} {m : MethodId} {args : Array Value} {below : List Frame} {meth : Method} {cd : Code} {E : wo_E} {mc ms : Nat} {Post : wo_W → Prop} (hC : wo_Cx E "java/lang/String" prog_22_method_53_code 2 4 98 ((Option.none : Option Jvm.ClassFile.FieldType)) "<init>" mc ms p R s₀ m args meth cd) : ∀ {G : wo_W} {c s : Nat} {x0 : Nat} {x1 : Option Nat}, pq_St_init_O_0 E mc ms Post G c s x0 x1 → ∀ {H : Heap} {locs : List Loc} {ls : Array Slot}, wo_Se E G H → va_S (en_A E) s₀.heap H locs → lx_has ls 2 [(0, 1, .ref x0), (1, 1, va_rf x1)] → c ≤ mc → s ≤ ms → W p l e R s₀ m args below meth cd H locs c s (MQ below (va_Qv Post (wo_B E) (en_A E)) args s₀ mc ms (en_A E)) (F0 m 0 ls []) := by
  intro G c s x0 x1 hw H locs ls hG hS hl hcc hss
  dsimp only [pq_St_init_O_0] at hw
  have hx := hC.1
  have hb := hC.2.1
  refine lv_aload_n hx hb dq_St_init_O_0 rfl (lx_at hl 0 rfl) ?_
  refine lx_aloadR_n hx hb dq_St_init_O_1 rfl (lx_at hl 1 rfl) ?_
  refine lv_null hx hb dq_St_init_O_2 ?_
  obtain ⟨t1, hw⟩ := hw
  obtain ⟨mc2, ms3, hc1, hs1, hw⟩ := hw
  refine va_callv (wo_runI hC lq_St_489 (mq_St_init_OO hw) hG hS rfl (lx_sz hl) rfl (Nat.zero_le _) (by decide) dq_St_init_O_3 ⟨hc1, hs1⟩) hS (fun _ _ h => h) (fun _ h => h) (fun G4 t H locs ht hvm hw' hB _ _ hS => ?_)
  clear hw
  have hw := hw'
  clear hw'
  replace hG := wo_bk ht hB
  replace hcc := hc1
  replace hss := hs1
  exact wo_vret hC hG hS hcc hss hw dq_St_init_O_6
set_option maxHeartbeats 4000000 in
theorem mq_St_init_O {l : Launch} {E : wo_E} {mc ms : Nat} {Post : wo_W → Prop} {G : wo_W} {x0 : Nat} {x1 : Option Nat} (hw : pq_St_init_O E mc ms Post G x0 x1) : Met l yq_St_init_O (Cond.code yq_St_init_O prog_22_method_53_code 2 ((Option.none : Option Jvm.ClassFile.FieldType)) :: vw_WG) { frames := 4, cells := mc, slots := ms, locals := 98 } (va_Pc [.ref x0, va_rf x1] (wo_Ok E G)) (va_Qv Post (wo_B E) (en_A E)) mc ms (en_A E) := by
  unfold pq_St_init_O at hw
  exact wo_met [(1, .ref x0), (1, va_rf x1)] rfl (by decide) (fun q hq => by simp only [List.mem_cons, List.not_mem_nil, or_false] at hq; rcases hq with rfl | rfl <;> first | rfl | exact lx_cR _) (Nat.le_of_ble_eq_true rfl) (fun p e R s m args below meth cd ls hC hG hS hl => tq_St_init_O_0 hC hw hG hS (lx_sub hl [0, 1] rfl) (Nat.zero_le _) (Nat.zero_le _))

theorem dq_SB_toString_0 : decode prog_23_method_42_code 0 = .ok (.new 18, 3) := by decide +kernel
theorem dq_SB_toString_3 : decode prog_23_method_42_code 3 = .ok (.dup, 1) := by decide +kernel
theorem dq_SB_toString_4 : decode prog_23_method_42_code 4 = .ok (.aload_n 0, 1) := by decide +kernel
theorem dq_SB_toString_5 : decode prog_23_method_42_code 5 = .ok (.invokespecial 137, 3) := by decide +kernel
theorem dq_SB_toString_8 : decode prog_23_method_42_code 8 = .ok (.areturn, 1) := by decide +kernel
set_option maxRecDepth 100000 in
def pq_SB_toString_0 (E : wo_E) (mc ms : Nat) (Post : Option Nat → wo_W → Prop) (G : wo_W) (c s : Nat) (x0 : Nat) : Prop := (c + 1) ≤ mc ∧ (s + 4) ≤ ms ∧ ∀ q3 : Nat, wo_ty G q3 = 0 → en_bs E ≤ q3 → ∀ G6 : wo_W, G6 = wo_new G q3 10 → 
  ∃ mc8 ms9 : Nat, ((c + 1) + mc8) ≤ mc ∧ ((s + 4) + ms9) ≤ ms ∧ pq_St_init_O E mc8 ms9 (fun G10 => 
  Post (some q3) G10) G6 q3 (some x0)
def pq_SB_toString (E : wo_E) (mc ms : Nat) (Post : Option Nat → wo_W → Prop) (G : wo_W) (x0 : Nat) : Prop := pq_SB_toString_0 E mc ms Post G 0 0 x0
set_option maxRecDepth 100000 in
set_option maxHeartbeats 4000000 in
theorem tq_SB_toString_0 {p : Program} {l : Launch} {e : Env} {R : Room} {s₀ : State} {m : MethodId} {args : Array Value} {below : List Frame} {meth : Method} {cd : Code} {E : wo_E} {mc ms : Nat} {Post : Option Nat → wo_W → Prop} (hC : wo_Cx E "java/lang/StringBuilder" prog_23_method_42_code 1 5 119 ((Option.some (Jvm.ClassFile.FieldType.object "java/lang/String"))) "toString" mc ms p R s₀ m args meth cd) : ∀ {G : wo_W} {c s : Nat} {x0 : Nat}, pq_SB_toString_0 E mc ms Post G c s x0 → ∀ {H : Heap} {locs : List Loc} {ls : Array Slot}, wo_Se E G H → va_S (en_A E) s₀.heap H locs → lx_has ls 1 [(0, 1, .ref x0)] → c ≤ mc → s ≤ ms → W p l e R s₀ m args below meth cd H locs c s (MQ below (va_Qq Post (wo_B E) (en_A E)) args s₀ mc ms (en_A E)) (F0 m 0 ls []) := by
  intro G c s x0 hw H locs ls hG hS hl hcc hss
  dsimp only [pq_SB_toString_0] at hw
  have hx := hC.1
  have hb := hC.2.1
  obtain ⟨h1, hw⟩ := hw
  obtain ⟨h2, hw⟩ := hw
  refine wo_newc hC nq_SB_18 hG hS h1 h2 dq_SB_toString_0 (fun q3 G6 H z4 b5 e7 hG hS => ?_)
  replace hw := hw q3 z4 b5 G6 e7
  replace hcc := h1
  replace hss := h2
  refine lv_dup hx hb dq_SB_toString_3 rfl ?_
  refine lv_aload_n hx hb dq_SB_toString_4 rfl (lx_at hl 0 rfl) ?_
  obtain ⟨mc8, ms9, hc1, hs1, hw⟩ := hw
  refine va_callv (wo_runI hC lq_SB_137 (mq_St_init_O hw) hG hS rfl (lx_sz hl) rfl (lx_rm (Nat.le_of_ble_eq_true rfl)) (by decide) dq_SB_toString_5 ⟨hc1, hs1⟩) hS (fun _ _ h => h) (fun _ h => h) (fun G10 t H locs ht hvm hw' hB _ _ hS => ?_)
  clear hw
  have hw := hw'
  clear hw'
  replace hG := wo_bk ht hB
  replace hcc := hc1
  replace hss := hs1
  exact wo_aret (x := (some q3)) hC rfl hG hS hcc hss hw dq_SB_toString_8
set_option maxHeartbeats 4000000 in
theorem mq_SB_toString {l : Launch} {E : wo_E} {mc ms : Nat} {Post : Option Nat → wo_W → Prop} {G : wo_W} {x0 : Nat} (hw : pq_SB_toString E mc ms Post G x0) : Met l yq_SB_toString (Cond.code yq_SB_toString prog_23_method_42_code 1 ((Option.some (Jvm.ClassFile.FieldType.object "java/lang/String"))) :: vw_WG) { frames := 5, cells := mc, slots := ms, locals := 119 } (va_Pc [.ref x0] (wo_Ok E G)) (va_Qq Post (wo_B E) (en_A E)) mc ms (en_A E) := by
  unfold pq_SB_toString at hw
  exact wo_met [(1, .ref x0)] rfl (by decide) (fun q hq => by simp only [List.mem_cons, List.not_mem_nil, or_false] at hq; rcases hq with rfl <;> first | rfl | exact lx_cR _) (Nat.le_of_ble_eq_true rfl) (fun p e R s m args below meth cd ls hC hG hS hl => tq_SB_toString_0 hC hw hG hS (lx_sub hl [0] rfl) (Nat.zero_le _) (Nat.zero_le _))
