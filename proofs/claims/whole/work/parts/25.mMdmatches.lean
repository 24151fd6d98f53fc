theorem dq_Md_matches_0 : decode prog_14_method_21_code 0 = .ok (.aload_n 0, 1) := by decide +kernel
theorem dq_Md_matches_1 : decode prog_14_method_21_code 1 = .ok (.getfield 51, 3) := by decide +kernel
theorem dq_Md_matches_4 : decode prog_14_method_21_code 4 = .ok (.bipush 8, 2) := by decide +kernel
theorem dq_Md_matches_6 : decode prog_14_method_21_code 6 = .ok (.iload_n 1, 1) := by decide +kernel
theorem dq_Md_matches_7 : decode prog_14_method_21_code 7 = .ok (.imul, 1) := by decide +kernel
theorem dq_Md_matches_8 : decode prog_14_method_21_code 8 = .ok (.iload_n 2, 1) := by decide +kernel
theorem dq_Md_matches_9 : decode prog_14_method_21_code 9 = .ok (.iadd, 1) := by decide +kernel
theorem dq_Md_matches_10 : decode prog_14_method_21_code 10 = .ok (.laload, 1) := by decide +kernel
theorem dq_Md_matches_11 : decode prog_14_method_21_code 11 = .ok (.lstore 4, 2) := by decide +kernel
theorem dq_Md_matches_13 : decode prog_14_method_21_code 13 = .ok (.aload_n 0, 1) := by decide +kernel
theorem dq_Md_matches_14 : decode prog_14_method_21_code 14 = .ok (.getfield 54, 3) := by decide +kernel
theorem dq_Md_matches_17 : decode prog_14_method_21_code 17 = .ok (.bipush 8, 2) := by decide +kernel
theorem dq_Md_matches_19 : decode prog_14_method_21_code 19 = .ok (.iload_n 1, 1) := by decide +kernel
theorem dq_Md_matches_20 : decode prog_14_method_21_code 20 = .ok (.imul, 1) := by decide +kernel
theorem dq_Md_matches_21 : decode prog_14_method_21_code 21 = .ok (.iload_n 2, 1) := by decide +kernel
theorem dq_Md_matches_22 : decode prog_14_method_21_code 22 = .ok (.iadd, 1) := by decide +kernel
theorem dq_Md_matches_23 : decode prog_14_method_21_code 23 = .ok (.iaload, 1) := by decide +kernel
theorem dq_Md_matches_24 : decode prog_14_method_21_code 24 = .ok (.istore 6, 2) := by decide +kernel
theorem dq_Md_matches_26 : decode prog_14_method_21_code 26 = .ok (.iload 6, 2) := by decide +kernel
theorem dq_Md_matches_28 : decode prog_14_method_21_code 28 = .ok (.iconst 1, 1) := by decide +kernel
theorem dq_Md_matches_29 : decode prog_14_method_21_code 29 = .ok (.if_icmp .ne 14, 3) := by decide +kernel
theorem dq_Md_matches_32 : decode prog_14_method_21_code 32 = .ok (.lload 4, 2) := by decide +kernel
theorem dq_Md_matches_34 : decode prog_14_method_21_code 34 = .ok (.ldc2_w 265, 3) := by decide +kernel
theorem dq_Md_matches_37 : decode prog_14_method_21_code 37 = .ok (.lcmp, 1) := by decide +kernel
theorem dq_Md_matches_38 : decode prog_14_method_21_code 38 = .ok (.ifCond .ne 5, 3) := by decide +kernel
theorem dq_Md_matches_41 : decode prog_14_method_21_code 41 = .ok (.iconst 1, 1) := by decide +kernel
theorem dq_Md_matches_42 : decode prog_14_method_21_code 42 = .ok (.ireturn, 1) := by decide +kernel
theorem dq_Md_matches_43 : decode prog_14_method_21_code 43 = .ok (.iconst 0, 1) := by decide +kernel
theorem dq_Md_matches_44 : decode prog_14_method_21_code 44 = .ok (.istore 7, 2) := by decide +kernel
theorem dq_Md_matches_46 : decode prog_14_method_21_code 46 = .ok (.iconst 0, 1) := by decide +kernel
theorem dq_Md_matches_47 : decode prog_14_method_21_code 47 = .ok (.istore 8, 2) := by decide +kernel
theorem dq_Md_matches_49 : decode prog_14_method_21_code 49 = .ok (.iload 8, 2) := by decide +kernel
theorem dq_Md_matches_51 : decode prog_14_method_21_code 51 = .ok (.iload 6, 2) := by decide +kernel
theorem dq_Md_matches_53 : decode prog_14_method_21_code 53 = .ok (.if_icmp .gt 49, 3) := by decide +kernel
theorem dq_Md_matches_56 : decode prog_14_method_21_code 56 = .ok (.iload 8, 2) := by decide +kernel
theorem dq_Md_matches_58 : decode prog_14_method_21_code 58 = .ok (.iload 6, 2) := by decide +kernel
theorem dq_Md_matches_60 : decode prog_14_method_21_code 60 = .ok (.if_icmp .eq 15, 3) := by decide +kernel
theorem dq_Md_matches_63 : decode prog_14_method_21_code 63 = .ok (.lload 4, 2) := by decide +kernel
theorem dq_Md_matches_65 : decode prog_14_method_21_code 65 = .ok (.iload 8, 2) := by decide +kernel
theorem dq_Md_matches_67 : decode prog_14_method_21_code 67 = .ok (.invokestatic 254, 3) := by decide +kernel
theorem dq_Md_matches_70 : decode prog_14_method_21_code 70 = .ok (.bipush 44, 2) := by decide +kernel
theorem dq_Md_matches_72 : decode prog_14_method_21_code 72 = .ok (.if_icmp .ne 24, 3) := by decide +kernel
theorem dq_Md_matches_75 : decode prog_14_method_21_code 75 = .ok (.lload 4, 2) := by decide +kernel
theorem dq_Md_matches_77 : decode prog_14_method_21_code 77 = .ok (.iload 7, 2) := by decide +kernel
theorem dq_Md_matches_79 : decode prog_14_method_21_code 79 = .ok (.iload 8, 2) := by decide +kernel
theorem dq_Md_matches_81 : decode prog_14_method_21_code 81 = .ok (.invokestatic 248, 3) := by decide +kernel
theorem dq_Md_matches_84 : decode prog_14_method_21_code 84 = .ok (.iload_n 3, 1) := by decide +kernel
theorem dq_Md_matches_85 : decode prog_14_method_21_code 85 = .ok (.if_icmp .ne 5, 3) := by decide +kernel
theorem dq_Md_matches_88 : decode prog_14_method_21_code 88 = .ok (.iconst 1, 1) := by decide +kernel
theorem dq_Md_matches_89 : decode prog_14_method_21_code 89 = .ok (.ireturn, 1) := by decide +kernel
theorem dq_Md_matches_90 : decode prog_14_method_21_code 90 = .ok (.iload 8, 2) := by decide +kernel
theorem dq_Md_matches_92 : decode prog_14_method_21_code 92 = .ok (.iconst 1, 1) := by decide +kernel
theorem dq_Md_matches_93 : decode prog_14_method_21_code 93 = .ok (.iadd, 1) := by decide +kernel
theorem dq_Md_matches_94 : decode prog_14_method_21_code 94 = .ok (.istore 7, 2) := by decide +kernel
theorem dq_Md_matches_96 : decode prog_14_method_21_code 96 = .ok (.iinc 8 1, 3) := by decide +kernel
theorem dq_Md_matches_99 : decode prog_14_method_21_code 99 = .ok (.goto (-50), 3) := by decide +kernel
theorem dq_Md_matches_102 : decode prog_14_method_21_code 102 = .ok (.iconst 0, 1) := by decide +kernel
theorem dq_Md_matches_103 : decode prog_14_method_21_code 103 = .ok (.ireturn, 1) := by decide +kernel
set_option maxRecDepth 100000 in
def pq_Md_matches_96 (E : wo_E) (mc ms : Nat) (Post : Int32 → wo_W → Prop) (k49 : wo_W → Nat → Nat → Int32 → Int64 → Int32 → Int32 → Int32 → Prop) (G : wo_W) (c s : Nat) (x3 : Int32) (x4 : Int64) (x6 : Int32) (x7 : Int32) (x8 : Int32) : Prop := k49 G c s x3 x4 x6 x7 (x8 + (1 : Int32))
set_option maxRecDepth 100000 in
def pq_Md_matches_75 (E : wo_E) (mc ms : Nat) (Post : Int32 → wo_W → Prop) (k49 : wo_W → Nat → Nat → Int32 → Int64 → Int32 → Int32 → Int32 → Prop) (G : wo_W) (c s : Nat) (x3 : Int32) (x4 : Int64) (x6 : Int32) (x7 : Int32) (x8 : Int32) : Prop := ∃ mc1 ms2 : Nat, (c + mc1) ≤ mc ∧ (s + ms2) ≤ ms ∧ pq_Md_digits E mc1 ms2 (fun v4 G3 => 
  ((¬ v4 = x3 → pq_Md_matches_96 E mc ms Post k49 G3 (c + mc1) (s + ms2) x3 x4 x6 (x8 + (1 : Int32)) x8) ∧
    (v4 = x3 → Post (1 : Int32) G3))) G x4 x7 x8
set_option maxRecDepth 100000 in
def pq_Md_matches_49 (E : wo_E) (mc ms : Nat) (Post : Int32 → wo_W → Prop) : Nat → wo_W → Nat → Nat → Int32 → Int64 → Int32 → Int32 → Int32 → Prop
  | 0 => fun _ _ _ _ _ _ _ _ => False
  | n + 1 => fun G c s x3 x4 x6 x7 x8 => ((x6 < x8 → Post (0 : Int32) G) ∧
  (¬ x6 < x8 → ((x8 = x6 → pq_Md_matches_75 E mc ms Post (pq_Md_matches_49 E mc ms Post n) G c s x3 x4 x6 x7 x8) ∧
    (¬ x8 = x6 → ∃ mc1 ms2 : Nat, (c + mc1) ≤ mc ∧ (s + ms2) ≤ ms ∧ pq_Md_byteOf E mc1 ms2 (fun v4 G3 => 
      ((¬ v4 = (44 : Int32) → pq_Md_matches_96 E mc ms Post (pq_Md_matches_49 E mc ms Post n) G3 (c + mc1) (s + ms2) x3 x4 x6 x7 x8) ∧
        (v4 = (44 : Int32) → pq_Md_matches_75 E mc ms Post (pq_Md_matches_49 E mc ms Post n) G3 (c + mc1) (s + ms2) x3 x4 x6 x7 x8))) G x4 x8))))
set_option maxRecDepth 100000 in
def pq_Md_matches_43 (E : wo_E) (mc ms : Nat) (Post : Int32 → wo_W → Prop) (G : wo_W) (c s : Nat) (x3 : Int32) (x4 : Int64) (x6 : Int32) : Prop := ∃ n1 : Nat, pq_Md_matches_49 E mc ms Post n1 G c s x3 x4 x6 (0 : Int32) (0 : Int32)
set_option maxRecDepth 100000 in
def pq_Md_matches_0 (E : wo_E) (mc ms : Nat) (Post : Int32 → wo_W → Prop) (G : wo_W) (c s : Nat) (x0 : Nat) (x1 : Int32) (x2 : Int32) (x3 : Int32) : Prop := wo_ty G x0 = 15 ∧ ∀ r2 : Option Nat, r2 = wo_gr G 910 x0 → ∃ a4 : Nat, r2 = some a4 ∧ wo_ty G a4 = 73 ∧ vp_in (((8 : Int32) * x1) + x2) (wo_len G a4) ∧ ∀ r7 : Option Nat, r7 = wo_gr G 911 x0 → ∃ a9 : Nat, r7 = some a9 ∧ wo_ty G a9 = 66 ∧ vp_in (((8 : Int32) * x1) + x2) (wo_len G a9) ∧ ((¬ (wo_ei G a9 (((8 : Int32) * x1) + x2).toNatClampNeg) = (1 : Int32) → pq_Md_matches_43 E mc ms Post G c s x3 (wo_el G a4 (((8 : Int32) * x1) + x2).toNatClampNeg) (wo_ei G a9 (((8 : Int32) * x1) + x2).toNatClampNeg)) ∧
  ((wo_ei G a9 (((8 : Int32) * x1) + x2).toNatClampNeg) = (1 : Int32) → ((¬ (lg_cmp (wo_el G a4 (((8 : Int32) * x1) + x2).toNatClampNeg) (42 : Int64)) = (0 : Int32) → pq_Md_matches_43 E mc ms Post G c s x3 (wo_el G a4 (((8 : Int32) * x1) + x2).toNatClampNeg) (wo_ei G a9 (((8 : Int32) * x1) + x2).toNatClampNeg)) ∧
    ((lg_cmp (wo_el G a4 (((8 : Int32) * x1) + x2).toNatClampNeg) (42 : Int64)) = (0 : Int32) → Post (1 : Int32) G))))
def pq_Md_matches (E : wo_E) (mc ms : Nat) (Post : Int32 → wo_W → Prop) (G : wo_W) (x0 : Nat) (x1 : Int32) (x2 : Int32) (x3 : Int32) : Prop := pq_Md_matches_0 E mc ms Post G 0 0 x0 x1 x2 x3
set_option maxRecDepth 100000 in
set_option maxHeartbeats 4000000 in
theorem tq_Md_matches_96 {p : Program} {l : Launch} {e : Env} {R : Room} {s₀ : State} {m : MethodId} {args : Array Value} {below : List Frame} {meth : Method} {cd : Code} {E : wo_E} {mc ms : Nat} {Post : Int32 → wo_W → Prop} {k49 : wo_W → Nat → Nat → Int32 → Int64 → Int32 → Int32 → Int32 → Prop} (hC : wo_Cx E "EdgeCacheModel" prog_14_method_21_code 9 2 48 ((Option.some Jvm.ClassFile.FieldType.boolean)) "matches" mc ms p R s₀ m args meth cd) (hk49 : ∀ {G : wo_W} {c s : Nat} {x3 : Int32} {x4 : Int64} {x6 : Int32} {x7 : Int32} {x8 : Int32}, k49 G c s x3 x4 x6 x7 x8 → ∀ {H : Heap} {locs : List Loc} {ls : Array Slot}, wo_Se E G H → va_S (en_A E) s₀.heap H locs → lx_has ls 9 [(3, 1, .int x3), (4, 2, .long x4), (6, 1, .int x6), (7, 1, .int x7), (8, 1, .int x8)] → c ≤ mc → s ≤ ms → W p l e R s₀ m args below meth cd H locs c s (MQ below (va_Qi Post (wo_B E) (en_A E)) args s₀ mc ms (en_A E)) (F0 m 49 ls [])) : ∀ {G : wo_W} {c s : Nat} {x3 : Int32} {x4 : Int64} {x6 : Int32} {x7 : Int32} {x8 : Int32}, pq_Md_matches_96 E mc ms Post k49 G c s x3 x4 x6 x7 x8 → ∀ {H : Heap} {locs : List Loc} {ls : Array Slot}, wo_Se E G H → va_S (en_A E) s₀.heap H locs → lx_has ls 9 [(3, 1, .int x3), (4, 2, .long x4), (6, 1, .int x6), (7, 1, .int x7), (8, 1, .int x8)] → c ≤ mc → s ≤ ms → W p l e R s₀ m args below meth cd H locs c s (MQ below (va_Qi Post (wo_B E) (en_A E)) args s₀ mc ms (en_A E)) (F0 m 96 ls []) := by
  intro G c s x3 x4 x6 x7 x8 hw H locs ls hG hS hl hcc hss
  dsimp only [pq_Md_matches_96] at hw
  have hx := hC.1
  have hb := hC.2.1
  refine lx_iinc (k := 4) (v := (x8 + (1 : Int32))) (lv' := [(8, 1, .int (x8 + (1 : Int32))), (3, 1, .int x3), (4, 2, .long x4), (6, 1, .int x6), (7, 1, .int x7)]) hx hb dq_Md_matches_96 hl rfl rfl (by decide) rfl (fun ls hl' => ?_)
  clear hl
  have hl := hl'
  clear hl'
  refine lv_goto (tgt := 49) hx hb dq_Md_matches_99 rfl ?_
  exact hk49 hw hG hS (lx_sub hl [1, 2, 3, 4, 0] rfl) hcc hss
set_option maxRecDepth 100000 in
set_option maxHeartbeats 4000000 in
theorem tq_Md_matches_75 {p : Program} {l : Launch} {e : Env} {R : Room} {s₀ : State} {m : MethodId} {args : Array Value} {below : List Frame} {meth : Method} {cd : Code} {E : wo_E} {mc ms : Nat} {Post : Int32 → wo_W → Prop} {k49 : wo_W → Nat → Nat → Int32 → Int64 → Int32 → Int32 → Int32 → Prop} (hC : wo_Cx E "EdgeCacheModel" prog_14_method_21_code 9 2 48 ((Option.some Jvm.ClassFile.FieldType.boolean)) "matches" mc ms p R s₀ m args meth cd) (hk49 : ∀ {G : wo_W} {c s : Nat} {x3 : Int32} {x4 : Int64} {x6 : Int32} {x7 : Int32} {x8 : Int32}, k49 G c s x3 x4 x6 x7 x8 → ∀ {H : Heap} {locs : List Loc} {ls : Array Slot}, wo_Se E G H → va_S (en_A E) s₀.heap H locs → lx_has ls 9 [(3, 1, .int x3), (4, 2, .long x4), (6, 1, .int x6), (7, 1, .int x7), (8, 1, .int x8)] → c ≤ mc → s ≤ ms → W p l e R s₀ m args below meth cd H locs c s (MQ below (va_Qi Post (wo_B E) (en_A E)) args s₀ mc ms (en_A E)) (F0 m 49 ls [])) : ∀ {G : wo_W} {c s : Nat} {x3 : Int32} {x4 : Int64} {x6 : Int32} {x7 : Int32} {x8 : Int32}, pq_Md_matches_75 E mc ms Post k49 G c s x3 x4 x6 x7 x8 → ∀ {H : Heap} {locs : List Loc} {ls : Array Slot}, wo_Se E G H → va_S (en_A E) s₀.heap H locs → lx_has ls 9 [(3, 1, .int x3), (4, 2, .long x4), (6, 1, .int x6), (7, 1, .int x7), (8, 1, .int x8)] → c ≤ mc → s ≤ ms → W p l e R s₀ m args below meth cd H locs c s (MQ below (va_Qi Post (wo_B E) (en_A E)) args s₀ mc ms (en_A E)) (F0 m 75 ls []) := by
  intro G c s x3 x4 x6 x7 x8 hw H locs ls hG hS hl hcc hss
  dsimp only [pq_Md_matches_75] at hw
  have hx := hC.1
  have hb := hC.2.1
  refine lv_lload hx hb dq_Md_matches_75 (lx_at hl 1 rfl) ?_
  refine lv_iload hx hb dq_Md_matches_77 (lx_at hl 3 rfl) ?_
  refine lv_iload hx hb dq_Md_matches_79 (lx_at hl 4 rfl) ?_
  obtain ⟨mc1, ms2, hc1, hs1, hw⟩ := hw
  refine va_calli (wo_runS hC lq_Md_248 (mq_Md_digits hw) hG hS rfl (lx_sz hl) rfl (Nat.zero_le _) (by decide) dq_Md_matches_81 ⟨hc1, hs1⟩) hS (fun _ _ h => h) (fun _ h => h) (fun v4 G3 t H locs ht hvm hw' hB _ _ hS => ?_)
  clear hw
  have hw := hw'
  clear hw'
  replace hG := wo_bk ht hB
  replace hcc := hc1
  replace hss := hs1
  refine lv_iload_n hx hb dq_Md_matches_84 rfl (lx_at hl 0 rfl) ?_
  refine lv_icmp_ne (tgt := 90) hx hb dq_Md_matches_85 rfl (fun h => ?_) (fun h => ?_)
  · replace hw := hw.1 h
    refine lv_iload hx hb dq_Md_matches_90 (lx_at hl 4 rfl) ?_
    refine lv_iconst (v := (1 : Int32)) hx hb dq_Md_matches_92 rfl ?_
    refine lv_iadd hx hb dq_Md_matches_93 ?_
    refine lx_istore (lv' := [(7, 1, .int (x8 + (1 : Int32))), (3, 1, .int x3), (4, 2, .long x4), (6, 1, .int x6), (8, 1, .int x8)]) hx hb dq_Md_matches_94 hl (by decide) rfl (fun ls hl' => ?_)
    clear hl
    have hl := hl'
    clear hl'
    exact tq_Md_matches_96 hC hk49 hw hG hS (lx_sub hl [1, 2, 3, 0, 4] rfl) hcc hss
  · replace hw := hw.2 h
    refine lv_iconst (v := (1 : Int32)) hx hb dq_Md_matches_88 rfl ?_
    exact wo_zret hC wo_z1 hG hS hcc hss hw dq_Md_matches_89
set_option maxRecDepth 100000 in
set_option maxHeartbeats 4000000 in
theorem tq_Md_matches_49 {p : Program} {l : Launch} {e : Env} {R : Room} {s₀ : State} {m : MethodId} {args : Array Value} {below : List Frame} {meth : Method} {cd : Code} {E : wo_E} {mc ms : Nat} {Post : Int32 → wo_W → Prop} (hC : wo_Cx E "EdgeCacheModel" prog_14_method_21_code 9 2 48 ((Option.some Jvm.ClassFile.FieldType.boolean)) "matches" mc ms p R s₀ m args meth cd) : ∀ n : Nat, ∀ {G : wo_W} {c s : Nat} {x3 : Int32} {x4 : Int64} {x6 : Int32} {x7 : Int32} {x8 : Int32}, pq_Md_matches_49 E mc ms Post n G c s x3 x4 x6 x7 x8 → ∀ {H : Heap} {locs : List Loc} {ls : Array Slot}, wo_Se E G H → va_S (en_A E) s₀.heap H locs → lx_has ls 9 [(3, 1, .int x3), (4, 2, .long x4), (6, 1, .int x6), (7, 1, .int x7), (8, 1, .int x8)] → c ≤ mc → s ≤ ms → W p l e R s₀ m args below meth cd H locs c s (MQ below (va_Qi Post (wo_B E) (en_A E)) args s₀ mc ms (en_A E)) (F0 m 49 ls []) := by
  intro n
  induction n with
  | zero => intro G c s x3 x4 x6 x7 x8 hw; exact hw.elim
  | succ n ih =>
    intro G c s x3 x4 x6 x7 x8 hw H locs ls hG hS hl hcc hss
    dsimp only [pq_Md_matches_49] at hw
    have hx := hC.1
    have hb := hC.2.1
    refine lv_iload hx hb dq_Md_matches_49 (lx_at hl 4 rfl) ?_
    refine lv_iload hx hb dq_Md_matches_51 (lx_at hl 2 rfl) ?_
    refine lv_icmp_gt (tgt := 102) hx hb dq_Md_matches_53 rfl (fun h => ?_) (fun h => ?_)
    · replace hw := hw.1 h
      refine lv_iconst (v := (0 : Int32)) hx hb dq_Md_matches_102 rfl ?_
      exact wo_zret hC wo_z0 hG hS hcc hss hw dq_Md_matches_103
    · replace hw := hw.2 h
      refine lv_iload hx hb dq_Md_matches_56 (lx_at hl 4 rfl) ?_
      refine lv_iload hx hb dq_Md_matches_58 (lx_at hl 2 rfl) ?_
      refine lv_icmp_eq (tgt := 75) hx hb dq_Md_matches_60 rfl (fun h => ?_) (fun h => ?_)
      · replace hw := hw.1 h
        exact tq_Md_matches_75 hC ih hw hG hS (lx_sub hl [0, 1, 2, 3, 4] rfl) hcc hss
      · replace hw := hw.2 h
        refine lv_lload hx hb dq_Md_matches_63 (lx_at hl 1 rfl) ?_
        refine lv_iload hx hb dq_Md_matches_65 (lx_at hl 4 rfl) ?_
        obtain ⟨mc1, ms2, hc1, hs1, hw⟩ := hw
        refine va_calli (wo_runS hC lq_Md_254 (mq_Md_byteOf hw) hG hS rfl (lx_sz hl) rfl (Nat.zero_le _) (by decide) dq_Md_matches_67 ⟨hc1, hs1⟩) hS (fun _ _ h => h) (fun _ h => h) (fun v4 G3 t H locs ht hvm hw' hB _ _ hS => ?_)
        clear hw
        have hw := hw'
        clear hw'
        replace hG := wo_bk ht hB
        replace hcc := hc1
        replace hss := hs1
        refine lv_bipush (v := (44 : Int32)) hx hb dq_Md_matches_70 rfl ?_
        refine lv_icmp_ne (tgt := 96) hx hb dq_Md_matches_72 rfl (fun h => ?_) (fun h => ?_)
        · replace hw := hw.1 h
          exact tq_Md_matches_96 hC ih hw hG hS (lx_sub hl [0, 1, 2, 3, 4] rfl) hcc hss
        · replace hw := hw.2 h
          exact tq_Md_matches_75 hC ih hw hG hS (lx_sub hl [0, 1, 2, 3, 4] rfl) hcc hss
set_option maxRecDepth 100000 in
set_option maxHeartbeats 4000000 in
theorem tq_Md_matches_43 {p : Program} {l : Launch} {e : Env} {R : Room} {s₀ : State} {m : MethodId} {args : Array Value} {below : List Frame} {meth : Method} {cd : Code} {E : wo_E} {mc ms : Nat} {Post : Int32 → wo_W → Prop} (hC : wo_Cx E "EdgeCacheModel" prog_14_method_21_code 9 2 48 ((Option.some Jvm.ClassFile.FieldType.boolean)) "matches" mc ms p R s₀ m args meth cd) : ∀ {G : wo_W} {c s : Nat} {x3 : Int32} {x4 : Int64} {x6 : Int32}, pq_Md_matches_43 E mc ms Post G c s x3 x4 x6 → ∀ {H : Heap} {locs : List Loc} {ls : Array Slot}, wo_Se E G H → va_S (en_A E) s₀.heap H locs → lx_has ls 9 [(3, 1, .int x3), (4, 2, .long x4), (6, 1, .int x6)] → c ≤ mc → s ≤ ms → W p l e R s₀ m args below meth cd H locs c s (MQ below (va_Qi Post (wo_B E) (en_A E)) args s₀ mc ms (en_A E)) (F0 m 43 ls []) := by
  intro G c s x3 x4 x6 hw H locs ls hG hS hl hcc hss
  dsimp only [pq_Md_matches_43] at hw
  have hx := hC.1
  have hb := hC.2.1
  refine lv_iconst (v := (0 : Int32)) hx hb dq_Md_matches_43 rfl ?_
  refine lx_istore (lv' := [(7, 1, .int (0 : Int32)), (3, 1, .int x3), (4, 2, .long x4), (6, 1, .int x6)]) hx hb dq_Md_matches_44 hl (by decide) rfl (fun ls hl' => ?_)
  clear hl
  have hl := hl'
  clear hl'
  refine lv_iconst (v := (0 : Int32)) hx hb dq_Md_matches_46 rfl ?_
  refine lx_istore (lv' := [(8, 1, .int (0 : Int32)), (7, 1, .int (0 : Int32)), (3, 1, .int x3), (4, 2, .long x4), (6, 1, .int x6)]) hx hb dq_Md_matches_47 hl (by decide) rfl (fun ls hl' => ?_)
  clear hl
  have hl := hl'
  clear hl'
  obtain ⟨n1, hw⟩ := hw
  exact tq_Md_matches_49 hC n1 hw hG hS (lx_sub hl [2, 3, 4, 1, 0] rfl) hcc hss
set_option maxRecDepth 100000 in
set_option maxHeartbeats 4000000 in
theorem tq_Md_matches_0 {p : Program} {l : Launch} {e : Env} {R : Room} {s₀ : State} {m : MethodId} {args : Array Value} {below : List Frame} {meth : Method} {cd : Code} {E : wo_E} {mc ms : Nat} {Post : Int32 → wo_W → Prop} (hC : wo_Cx E "EdgeCacheModel" prog_14_method_21_code 9 2 48 ((Option.some Jvm.ClassFile.FieldType.boolean)) "matches" mc ms p R s₀ m args meth cd) : ∀ {G : wo_W} {c s : Nat} {x0 : Nat} {x1 : Int32} {x2 : Int32} {x3 : Int32}, pq_Md_matches_0 E mc ms Post G c s x0 x1 x2 x3 → ∀ {H : Heap} {locs : List Loc} {ls : Array Slot}, wo_Se E G H → va_S (en_A E) s₀.heap H locs → lx_has ls 9 [(0, 1, .ref x0), (1, 1, .int x1), (2, 1, .int x2), (3, 1, .int x3)] → c ≤ mc → s ≤ ms → W p l e R s₀ m args below meth cd H locs c s (MQ below (va_Qi Post (wo_B E) (en_A E)) args s₀ mc ms (en_A E)) (F0 m 0 ls []) := by
  intro G c s x0 x1 x2 x3 hw H locs ls hG hS hl hcc hss
  dsimp only [pq_Md_matches_0] at hw
  have hx := hC.1
  have hb := hC.2.1
  refine lv_aload_n hx hb dq_Md_matches_0 rfl (lx_at hl 0 rfl) ?_
  obtain ⟨t1, hw⟩ := hw
  refine wo_getR hC fq_Md_51 rfl hG t1 dq_Md_matches_1 (fun r2 e3 => ?_)
  replace hw := hw r2 e3
  refine lv_bipush (v := (8 : Int32)) hx hb dq_Md_matches_4 rfl ?_
  refine lv_iload_n hx hb dq_Md_matches_6 rfl (lx_at hl 1 rfl) ?_
  refine lv_imul hx hb dq_Md_matches_7 ?_
  refine lv_iload_n hx hb dq_Md_matches_8 rfl (lx_at hl 2 rfl) ?_
  refine lv_iadd hx hb dq_Md_matches_9 ?_
  obtain ⟨a4, rfl, hw⟩ := hw
  obtain ⟨t5, hw⟩ := hw
  obtain ⟨h6, hw⟩ := hw
  refine wo_lald (j := 9) hC rfl hG t5 h6 dq_Md_matches_10 ?_
  refine lx_lstore (lv' := [(4, 2, .long (wo_el G a4 (((8 : Int32) * x1) + x2).toNatClampNeg)), (0, 1, .ref x0), (1, 1, .int x1), (2, 1, .int x2), (3, 1, .int x3)]) hx hb dq_Md_matches_11 hl (by decide) rfl (fun ls hl' => ?_)
  clear hl
  have hl := hl'
  clear hl'
  refine lv_aload_n hx hb dq_Md_matches_13 rfl (lx_at hl 1 rfl) ?_
  refine wo_getR hC fq_Md_54 rfl hG t1 dq_Md_matches_14 (fun r7 e8 => ?_)
  replace hw := hw r7 e8
  refine lv_bipush (v := (8 : Int32)) hx hb dq_Md_matches_17 rfl ?_
  refine lv_iload_n hx hb dq_Md_matches_19 rfl (lx_at hl 2 rfl) ?_
  refine lv_imul hx hb dq_Md_matches_20 ?_
  refine lv_iload_n hx hb dq_Md_matches_21 rfl (lx_at hl 3 rfl) ?_
  refine lv_iadd hx hb dq_Md_matches_22 ?_
  obtain ⟨a9, rfl, hw⟩ := hw
  obtain ⟨t10, hw⟩ := hw
  obtain ⟨h11, hw⟩ := hw
  refine wo_iald (j := 2) hC rfl hG t10 h11 dq_Md_matches_23 ?_
  refine lx_istore (lv' := [(6, 1, .int (wo_ei G a9 (((8 : Int32) * x1) + x2).toNatClampNeg)), (4, 2, .long (wo_el G a4 (((8 : Int32) * x1) + x2).toNatClampNeg)), (0, 1, .ref x0), (1, 1, .int x1), (2, 1, .int x2), (3, 1, .int x3)]) hx hb dq_Md_matches_24 hl (by decide) rfl (fun ls hl' => ?_)
  clear hl
  have hl := hl'
  clear hl'
  refine lv_iload hx hb dq_Md_matches_26 (lx_at hl 0 rfl) ?_
  refine lv_iconst (v := (1 : Int32)) hx hb dq_Md_matches_28 rfl ?_
  refine lv_icmp_ne (tgt := 43) hx hb dq_Md_matches_29 rfl (fun h => ?_) (fun h => ?_)
  · replace hw := hw.1 h
    exact tq_Md_matches_43 hC hw hG hS (lx_sub hl [5, 1, 0] rfl) hcc hss
  · replace hw := hw.2 h
    refine lv_lload hx hb dq_Md_matches_32 (lx_at hl 1 rfl) ?_
    refine lv_ldc2 hx hb hC.2.2.2.2.2.1 (hC.2.2.2.2.2.2.1 _ cq_Md_265) dq_Md_matches_34 ?_
    refine W.lcmp hx hb dq_Md_matches_37 ?_
    refine lv_if_ne (tgt := 43) hx hb dq_Md_matches_38 rfl (fun h => ?_) (fun h => ?_)
    · replace hw := hw.1 h
      exact tq_Md_matches_43 hC hw hG hS (lx_sub hl [5, 1, 0] rfl) hcc hss
    · replace hw := hw.2 h
      refine lv_iconst (v := (1 : Int32)) hx hb dq_Md_matches_41 rfl ?_
      exact wo_zret hC wo_z1 hG hS hcc hss hw dq_Md_matches_42
set_option maxHeartbeats 4000000 in
theorem mq_Md_matches {l : Launch} {E : wo_E} {mc ms : Nat} {Post : Int32 → wo_W → Prop} {G : wo_W} {x0 : Nat} {x1 : Int32} {x2 : Int32} {x3 : Int32} (hw : pq_Md_matches E mc ms Post G x0 x1 x2 x3) : Met l yq_Md_matches (Cond.code yq_Md_matches prog_14_method_21_code 9 ((Option.some Jvm.ClassFile.FieldType.boolean)) :: vw_WG) { frames := 2, cells := mc, slots := ms, locals := 48 } (va_Pc [.ref x0, .int x1, .int x2, .int x3] (wo_Ok E G)) (va_Qi Post (wo_B E) (en_A E)) mc ms (en_A E) := by
  unfold pq_Md_matches at hw
  exact wo_met [(1, .ref x0), (1, .int x1), (1, .int x2), (1, .int x3)] rfl (by decide) (fun q hq => by simp only [List.mem_cons, List.not_mem_nil, or_false] at hq; rcases hq with rfl | rfl | rfl | rfl <;> first | rfl | exact lx_cR _) (Nat.le_of_ble_eq_true rfl) (fun p e R s m args below meth cd ls hC hG hS hl => tq_Md_matches_0 hC hw hG hS (lx_sub hl [0, 1, 2, 3] rfl) (Nat.zero_le _) (Nat.zero_le _))

theorem dq_Md_holds_0 : decode prog_14_method_40_code 0 = .ok (.aload_n 0, 1) := by decide +kernel
theorem dq_Md_holds_1 : decode prog_14_method_40_code 1 = .ok (.iload_n 1, 1) := by decide +kernel
theorem dq_Md_holds_2 : decode prog_14_method_40_code 2 = .ok (.iconst 0, 1) := by decide +kernel
theorem dq_Md_holds_3 : decode prog_14_method_40_code 3 = .ok (.invokevirtual 258, 3) := by decide +kernel
theorem dq_Md_holds_6 : decode prog_14_method_40_code 6 = .ok (.ifCond .eq 17, 3) := by decide +kernel
theorem dq_Md_holds_9 : decode prog_14_method_40_code 9 = .ok (.iload_n 2, 1) := by decide +kernel
theorem dq_Md_holds_10 : decode prog_14_method_40_code 10 = .ok (.ifCond .le 40, 3) := by decide +kernel
theorem dq_Md_holds_13 : decode prog_14_method_40_code 13 = .ok (.aload_n 0, 1) := by decide +kernel
theorem dq_Md_holds_14 : decode prog_14_method_40_code 14 = .ok (.iload_n 1, 1) := by decide +kernel
theorem dq_Md_holds_15 : decode prog_14_method_40_code 15 = .ok (.iconst 0, 1) := by decide +kernel
theorem dq_Md_holds_16 : decode prog_14_method_40_code 16 = .ok (.iload_n 2, 1) := by decide +kernel
theorem dq_Md_holds_17 : decode prog_14_method_40_code 17 = .ok (.invokevirtual 294, 3) := by decide +kernel
theorem dq_Md_holds_20 : decode prog_14_method_40_code 20 = .ok (.ifCond .eq 30, 3) := by decide +kernel
theorem dq_Md_holds_23 : decode prog_14_method_40_code 23 = .ok (.aload_n 0, 1) := by decide +kernel
theorem dq_Md_holds_24 : decode prog_14_method_40_code 24 = .ok (.iload_n 1, 1) := by decide +kernel
theorem dq_Md_holds_25 : decode prog_14_method_40_code 25 = .ok (.iconst 1, 1) := by decide +kernel
theorem dq_Md_holds_26 : decode prog_14_method_40_code 26 = .ok (.invokevirtual 258, 3) := by decide +kernel
theorem dq_Md_holds_29 : decode prog_14_method_40_code 29 = .ok (.ifCond .eq 17, 3) := by decide +kernel
theorem dq_Md_holds_32 : decode prog_14_method_40_code 32 = .ok (.iload_n 2, 1) := by decide +kernel
theorem dq_Md_holds_33 : decode prog_14_method_40_code 33 = .ok (.ifCond .le 13, 3) := by decide +kernel
theorem dq_Md_holds_36 : decode prog_14_method_40_code 36 = .ok (.aload_n 0, 1) := by decide +kernel
theorem dq_Md_holds_37 : decode prog_14_method_40_code 37 = .ok (.iload_n 1, 1) := by decide +kernel
theorem dq_Md_holds_38 : decode prog_14_method_40_code 38 = .ok (.iconst 1, 1) := by decide +kernel
theorem dq_Md_holds_39 : decode prog_14_method_40_code 39 = .ok (.iload_n 2, 1) := by decide +kernel
theorem dq_Md_holds_40 : decode prog_14_method_40_code 40 = .ok (.invokevirtual 294, 3) := by decide +kernel
theorem dq_Md_holds_43 : decode prog_14_method_40_code 43 = .ok (.ifCond .ne 7, 3) := by decide +kernel
theorem dq_Md_holds_46 : decode prog_14_method_40_code 46 = .ok (.iconst 1, 1) := by decide +kernel
theorem dq_Md_holds_47 : decode prog_14_method_40_code 47 = .ok (.goto 4, 3) := by decide +kernel
theorem dq_Md_holds_50 : decode prog_14_method_40_code 50 = .ok (.iconst 0, 1) := by decide +kernel
theorem dq_Md_holds_51 : decode prog_14_method_40_code 51 = .ok (.ireturn, 1) := by decide +kernel
set_option maxRecDepth 100000 in
def pq_Md_holds_51 (E : wo_E) (mc ms : Nat) (Post : Int32 → wo_W → Prop) (G : wo_W) (c s : Nat) (y0 : Int32) : Prop := wo_okI .boolean y0 ∧ Post y0 G
set_option maxRecDepth 100000 in
def pq_Md_holds_46 (E : wo_E) (mc ms : Nat) (Post : Int32 → wo_W → Prop) (G : wo_W) (c s : Nat) : Prop := pq_Md_holds_51 E mc ms Post G c s (1 : Int32)
set_option maxRecDepth 100000 in
def pq_Md_holds_50 (E : wo_E) (mc ms : Nat) (Post : Int32 → wo_W → Prop) (G : wo_W) (c s : Nat) : Prop := pq_Md_holds_51 E mc ms Post G c s (0 : Int32)
set_option maxRecDepth 100000 in
def pq_Md_holds_23 (E : wo_E) (mc ms : Nat) (Post : Int32 → wo_W → Prop) (G : wo_W) (c s : Nat) (x0 : Nat) (x1 : Int32) (x2 : Int32) : Prop := wo_ty G x0 = 15 ∧ ∃ mc2 ms3 : Nat, (c + mc2) ≤ mc ∧ (s + ms3) ≤ ms ∧ pq_Md_has E mc2 ms3 (fun v5 G4 => 
  ((v5 = (0 : Int32) → pq_Md_holds_46 E mc ms Post G4 (c + mc2) (s + ms3)) ∧
    (¬ v5 = (0 : Int32) → ((x2 ≤ (0 : Int32) → pq_Md_holds_46 E mc ms Post G4 (c + mc2) (s + ms3)) ∧
      (¬ x2 ≤ (0 : Int32) → wo_ty G4 x0 = 15 ∧ ∃ mc7 ms8 : Nat, ((c + mc2) + mc7) ≤ mc ∧ ((s + ms3) + ms8) ≤ ms ∧ pq_Md_matches E mc7 ms8 (fun v10 G9 => 
        ((¬ v10 = (0 : Int32) → pq_Md_holds_50 E mc ms Post G9 ((c + mc2) + mc7) ((s + ms3) + ms8)) ∧
          (v10 = (0 : Int32) → pq_Md_holds_46 E mc ms Post G9 ((c + mc2) + mc7) ((s + ms3) + ms8)))) G4 x0 x1 (1 : Int32) x2))))) G x0 x1 (1 : Int32)
set_option maxRecDepth 100000 in
def pq_Md_holds_0 (E : wo_E) (mc ms : Nat) (Post : Int32 → wo_W → Prop) (G : wo_W) (c s : Nat) (x0 : Nat) (x1 : Int32) (x2 : Int32) : Prop := wo_ty G x0 = 15 ∧ ∃ mc2 ms3 : Nat, (c + mc2) ≤ mc ∧ (s + ms3) ≤ ms ∧ pq_Md_has E mc2 ms3 (fun v5 G4 => 
  ((v5 = (0 : Int32) → pq_Md_holds_23 E mc ms Post G4 (c + mc2) (s + ms3) x0 x1 x2) ∧
    (¬ v5 = (0 : Int32) → ((x2 ≤ (0 : Int32) → pq_Md_holds_50 E mc ms Post G4 (c + mc2) (s + ms3)) ∧
      (¬ x2 ≤ (0 : Int32) → wo_ty G4 x0 = 15 ∧ ∃ mc7 ms8 : Nat, ((c + mc2) + mc7) ≤ mc ∧ ((s + ms3) + ms8) ≤ ms ∧ pq_Md_matches E mc7 ms8 (fun v10 G9 => 
        ((v10 = (0 : Int32) → pq_Md_holds_50 E mc ms Post G9 ((c + mc2) + mc7) ((s + ms3) + ms8)) ∧
          (¬ v10 = (0 : Int32) → pq_Md_holds_23 E mc ms Post G9 ((c + mc2) + mc7) ((s + ms3) + ms8) x0 x1 x2))) G4 x0 x1 (0 : Int32) x2))))) G x0 x1 (0 : Int32)
def pq_Md_holds (E : wo_E) (mc ms : Nat) (Post : Int32 → wo_W → Prop) (G : wo_W) (x0 : Nat) (x1 : Int32) (x2 : Int32) : Prop := pq_Md_holds_0 E mc ms Post G 0 0 x0 x1 x2
set_option maxRecDepth 100000 in
set_option maxHeartbeats 4000000 in
theorem tq_Md_holds_51 {p : Program} {l : Launch} {e : Env} {R : Room} {s₀ : State} {m : MethodId} {args : Array Value} {below : List Frame} {meth : Method} {cd : Code} {E : wo_E} {mc ms : Nat} {Post : Int32 → wo_W → Prop} (hC : wo_Cx E "EdgeCacheModel" prog_14_method_40_code 3 3 76 ((Option.some Jvm.ClassFile.FieldType.boolean)) "holds" mc ms p R s₀ m args meth cd) : ∀ {G : wo_W} {c s : Nat} {y0 : Int32}, pq_Md_holds_51 E mc ms Post G c s y0 → ∀ {H : Heap} {locs : List Loc} {ls : Array Slot}, wo_Se E G H → va_S (en_A E) s₀.heap H locs → lx_has ls 3 [] → c ≤ mc → s ≤ ms → W p l e R s₀ m args below meth cd H locs c s (MQ below (va_Qi Post (wo_B E) (en_A E)) args s₀ mc ms (en_A E)) (F0 m 51 ls [.int y0]) := by
  intro G c s y0 hw H locs ls hG hS hl hcc hss
  dsimp only [pq_Md_holds_51] at hw
  have hx := hC.1
  have hb := hC.2.1
  obtain ⟨h1, hw⟩ := hw
  exact wo_zret hC h1.1 hG hS hcc hss hw dq_Md_holds_51
set_option maxRecDepth 100000 in
set_option maxHeartbeats 4000000 in
theorem tq_Md_holds_46 {p : Program} {l : Launch} {e : Env} {R : Room} {s₀ : State} {m : MethodId} {args : Array Value} {below : List Frame} {meth : Method} {cd : Code} {E : wo_E} {mc ms : Nat} {Post : Int32 → wo_W → Prop} (hC : wo_Cx E "EdgeCacheModel" prog_14_method_40_code 3 3 76 ((Option.some Jvm.ClassFile.FieldType.boolean)) "holds" mc ms p R s₀ m args meth cd) : ∀ {G : wo_W} {c s : Nat}, pq_Md_holds_46 E mc ms Post G c s → ∀ {H : Heap} {locs : List Loc} {ls : Array Slot}, wo_Se E G H → va_S (en_A E) s₀.heap H locs → lx_has ls 3 [] → c ≤ mc → s ≤ ms → W p l e R s₀ m args below meth cd H locs c s (MQ below (va_Qi Post (wo_B E) (en_A E)) args s₀ mc ms (en_A E)) (F0 m 46 ls []) := by
  intro G c s hw H locs ls hG hS hl hcc hss
  dsimp only [pq_Md_holds_46] at hw
  have hx := hC.1
  have hb := hC.2.1
  refine lv_iconst (v := (1 : Int32)) hx hb dq_Md_holds_46 rfl ?_
  refine lv_goto (tgt := 51) hx hb dq_Md_holds_47 rfl ?_
  exact tq_Md_holds_51 hC hw hG hS (lx_sub hl [] rfl) hcc hss
set_option maxRecDepth 100000 in
set_option maxHeartbeats 4000000 in
theorem tq_Md_holds_50 {p : Program} {l : Launch} {e : Env} {R : Room} {s₀ : State} {m : MethodId} {args : Array Value} {below : List Frame} {meth : Method} {cd : Code} {E : wo_E} {mc ms : Nat} {Post : Int32 → wo_W → Prop} (hC : wo_Cx E "EdgeCacheModel" prog_14_method_40_code 3 3 76 ((Option.some Jvm.ClassFile.FieldType.boolean)) "holds" mc ms p R s₀ m args meth cd) : ∀ {G : wo_W} {c s : Nat}, pq_Md_holds_50 E mc ms Post G c s → ∀ {H : Heap} {locs : List Loc} {ls : Array Slot}, wo_Se E G H → va_S (en_A E) s₀.heap H locs → lx_has ls 3 [] → c ≤ mc → s ≤ ms → W p l e R s₀ m args below meth cd H locs c s (MQ below (va_Qi Post (wo_B E) (en_A E)) args s₀ mc ms (en_A E)) (F0 m 50 ls []) := by
  intro G c s hw H locs ls hG hS hl hcc hss
  dsimp only [pq_Md_holds_50] at hw
  have hx := hC.1
  have hb := hC.2.1
  refine lv_iconst (v := (0 : Int32)) hx hb dq_Md_holds_50 rfl ?_
  exact tq_Md_holds_51 hC hw hG hS (lx_sub hl [] rfl) hcc hss
set_option maxRecDepth 100000 in
set_option maxHeartbeats 4000000 in
theorem tq_Md_holds_23 {p : Program} {l : Launch} {e : Env} {R : Room} {s₀ : State} {m : MethodId} {args : Array Value} {below : List Frame} {meth : Method} {cd : Code} {E : wo_E} {mc ms : Nat} {Post : Int32 → wo_W → Prop} (hC : wo_Cx E "EdgeCacheModel" prog_14_method_40_code 3 3 76 ((Option.some Jvm.ClassFile.FieldType.boolean)) "holds" mc ms p R s₀ m args meth cd) : ∀ {G : wo_W} {c s : Nat} {x0 : Nat} {x1 : Int32} {x2 : Int32}, pq_Md_holds_23 E mc ms Post G c s x0 x1 x2 → ∀ {H : Heap} {locs : List Loc} {ls : Array Slot}, wo_Se E G H → va_S (en_A E) s₀.heap H locs → lx_has ls 3 [(0, 1, .ref x0), (1, 1, .int x1), (2, 1, .int x2)] → c ≤ mc → s ≤ ms → W p l e R s₀ m args below meth cd H locs c s (MQ below (va_Qi Post (wo_B E) (en_A E)) args s₀ mc ms (en_A E)) (F0 m 23 ls []) := by
  intro G c s x0 x1 x2 hw H locs ls hG hS hl hcc hss
  dsimp only [pq_Md_holds_23] at hw
  have hx := hC.1
  have hb := hC.2.1
  refine lv_aload_n hx hb dq_Md_holds_23 rfl (lx_at hl 0 rfl) ?_
  refine lv_iload_n hx hb dq_Md_holds_24 rfl (lx_at hl 1 rfl) ?_
  refine lv_iconst (v := (1 : Int32)) hx hb dq_Md_holds_25 rfl ?_
  obtain ⟨t1, hw⟩ := hw
  obtain ⟨mc2, ms3, hc1, hs1, hw⟩ := hw
  refine va_calli (wo_runV hC lq_Md_258 (mq_Md_has hw) hG hS t1 rfl (lx_sz hl) rfl (Nat.zero_le _) (by decide) dq_Md_holds_26 ⟨hc1, hs1⟩) hS (fun _ _ h => h) (fun _ h => h) (fun v5 G4 t H locs ht hvm hw' hB _ _ hS => ?_)
  clear hw
  have hw := hw'
  clear hw'
  replace hG := wo_bk ht hB
  replace hcc := hc1
  replace hss := hs1
  refine lv_if_eq (tgt := 46) hx hb dq_Md_holds_29 rfl (fun h => ?_) (fun h => ?_)
  · replace hw := hw.1 h
    exact tq_Md_holds_46 hC hw hG hS (lx_sub hl [] rfl) hcc hss
  · replace hw := hw.2 h
    refine lv_iload_n hx hb dq_Md_holds_32 rfl (lx_at hl 2 rfl) ?_
    refine lv_if_le (tgt := 46) hx hb dq_Md_holds_33 rfl (fun h => ?_) (fun h => ?_)
    · replace hw := hw.1 h
      exact tq_Md_holds_46 hC hw hG hS (lx_sub hl [] rfl) hcc hss
    · replace hw := hw.2 h
      refine lv_aload_n hx hb dq_Md_holds_36 rfl (lx_at hl 0 rfl) ?_
      refine lv_iload_n hx hb dq_Md_holds_37 rfl (lx_at hl 1 rfl) ?_
      refine lv_iconst (v := (1 : Int32)) hx hb dq_Md_holds_38 rfl ?_
      refine lv_iload_n hx hb dq_Md_holds_39 rfl (lx_at hl 2 rfl) ?_
      obtain ⟨t6, hw⟩ := hw
      obtain ⟨mc7, ms8, hc1, hs1, hw⟩ := hw
      refine va_calli (wo_runV hC lq_Md_294 (mq_Md_matches hw) hG hS t6 rfl (lx_sz hl) rfl (Nat.zero_le _) (by decide) dq_Md_holds_40 ⟨hc1, hs1⟩) hS (fun _ _ h => h) (fun _ h => h) (fun v10 G9 t H locs ht hvm hw' hB _ _ hS => ?_)
      clear hw
      have hw := hw'
      clear hw'
      replace hG := wo_bk ht hB
      replace hcc := hc1
      replace hss := hs1
      refine lv_if_ne (tgt := 50) hx hb dq_Md_holds_43 rfl (fun h => ?_) (fun h => ?_)
      · replace hw := hw.1 h
        exact tq_Md_holds_50 hC hw hG hS (lx_sub hl [] rfl) hcc hss
      · replace hw := hw.2 h
        exact tq_Md_holds_46 hC hw hG hS (lx_sub hl [] rfl) hcc hss
set_option maxRecDepth 100000 in
set_option maxHeartbeats 4000000 in
theorem tq_Md_holds_0 {p : Program} {l : Launch} {e : Env} {R : Room} {s₀ : State} {m : MethodId} {args : Array Value} {below : List Frame} {meth : Method} {cd : Code} {E : wo_E} {mc ms : Nat} {Post : Int32 → wo_W → Prop} (hC : wo_Cx E "EdgeCacheModel" prog_14_method_40_code 3 3 76 ((Option.some Jvm.ClassFile.FieldType.boolean)) "holds" mc ms p R s₀ m args meth cd) : ∀ {G : wo_W} {c s : Nat} {x0 : Nat} {x1 : Int32} {x2 : Int32}, pq_Md_holds_0 E mc ms Post G c s x0 x1 x2 → ∀ {H : Heap} {locs : List Loc} {ls : Array Slot}, wo_Se E G H → va_S (en_A E) s₀.heap H locs → lx_has ls 3 [(0, 1, .ref x0), (1, 1, .int x1), (2, 1, .int x2)] → c ≤ mc → s ≤ ms → W p l e R s₀ m args below meth cd H locs c s (MQ below (va_Qi Post (wo_B E) (en_A E)) args s₀ mc ms (en_A E)) (F0 m 0 ls []) := by
  intro G c s x0 x1 x2 hw H locs ls hG hS hl hcc hss
  dsimp only [pq_Md_holds_0] at hw
  have hx := hC.1
  have hb := hC.2.1
  refine lv_aload_n hx hb dq_Md_holds_0 rfl (lx_at hl 0 rfl) ?_
  refine lv_iload_n hx hb dq_Md_holds_1 rfl (lx_at hl 1 rfl) ?_
  refine lv_iconst (v := (0 : Int32)) hx hb dq_Md_holds_2 rfl ?_
  obtain ⟨t1, hw⟩ := hw
  obtain ⟨mc2, ms3, hc1, hs1, hw⟩ := hw
  refine va_calli (wo_runV hC lq_Md_258 (mq_Md_has hw) hG hS t1 rfl (lx_sz hl) rfl (Nat.zero_le _) (by decide) dq_Md_holds_3 ⟨hc1, hs1⟩) hS (fun _ _ h => h) (fun _ h => h) (fun v5 G4 t H locs ht hvm hw' hB _ _ hS => ?_)
  clear hw
  have hw := hw'
  clear hw'
  replace hG := wo_bk ht hB
  replace hcc := hc1
  replace hss := hs1
  refine lv_if_eq (tgt := 23) hx hb dq_Md_holds_6 rfl (fun h => ?_) (fun h => ?_)
  · replace hw := hw.1 h
    exact tq_Md_holds_23 hC hw hG hS (lx_sub hl [0, 1, 2] rfl) hcc hss
  · replace hw := hw.2 h
    refine lv_iload_n hx hb dq_Md_holds_9 rfl (lx_at hl 2 rfl) ?_
    refine lv_if_le (tgt := 50) hx hb dq_Md_holds_10 rfl (fun h => ?_) (fun h => ?_)
    · replace hw := hw.1 h
      exact tq_Md_holds_50 hC hw hG hS (lx_sub hl [] rfl) hcc hss
    · replace hw := hw.2 h
      refine lv_aload_n hx hb dq_Md_holds_13 rfl (lx_at hl 0 rfl) ?_
      refine lv_iload_n hx hb dq_Md_holds_14 rfl (lx_at hl 1 rfl) ?_
      refine lv_iconst (v := (0 : Int32)) hx hb dq_Md_holds_15 rfl ?_
      refine lv_iload_n hx hb dq_Md_holds_16 rfl (lx_at hl 2 rfl) ?_
      obtain ⟨t6, hw⟩ := hw
      obtain ⟨mc7, ms8, hc1, hs1, hw⟩ := hw
      refine va_calli (wo_runV hC lq_Md_294 (mq_Md_matches hw) hG hS t6 rfl (lx_sz hl) rfl (Nat.zero_le _) (by decide) dq_Md_holds_17 ⟨hc1, hs1⟩) hS (fun _ _ h => h) (fun _ h => h) (fun v10 G9 t H locs ht hvm hw' hB _ _ hS => ?_)
      clear hw
      have hw := hw'
      clear hw'
      replace hG := wo_bk ht hB
      replace hcc := hc1
      replace hss := hs1
      refine lv_if_eq (tgt := 50) hx hb dq_Md_holds_20 rfl (fun h => ?_) (fun h => ?_)
      · replace hw := hw.1 h
        exact tq_Md_holds_50 hC hw hG hS (lx_sub hl [] rfl) hcc hss
      · replace hw := hw.2 h
        exact tq_Md_holds_23 hC hw hG hS (lx_sub hl [0, 1, 2] rfl) hcc hss
set_option maxHeartbeats 4000000 in
theorem mq_Md_holds {l : Launch} {E : wo_E} {mc ms : Nat} {Post : Int32 → wo_W → Prop} {G : wo_W} {x0 : Nat} {x1 : Int32} {x2 : Int32} (hw : pq_Md_holds E mc ms Post G x0 x1 x2) : Met l yq_Md_holds (Cond.code yq_Md_holds prog_14_method_40_code 3 ((Option.some Jvm.ClassFile.FieldType.boolean)) :: vw_WG) { frames := 3, cells := mc, slots := ms, locals := 76 } (va_Pc [.ref x0, .int x1, .int x2] (wo_Ok E G)) (va_Qi Post (wo_B E) (en_A E)) mc ms (en_A E) := by
  unfold pq_Md_holds at hw
  exact wo_met [(1, .ref x0), (1, .int x1), (1, .int x2)] rfl (by decide) (fun q hq => by simp only [List.mem_cons, List.not_mem_nil, or_false] at hq; rcases hq with rfl | rfl | rfl <;> first | rfl | exact lx_cR _) (Nat.le_of_ble_eq_true rfl) (fun p e R s m args below meth cd ls hC hG hS hl => tq_Md_holds_0 hC hw hG hS (lx_sub hl [0, 1, 2] rfl) (Nat.zero_le _) (Nat.zero_le _))

theorem dq_Md_change_0 : decode prog_14_method_41_code 0 = .ok (.aload_n 0, 1) := by decide +kernel
theorem dq_Md_change_1 : decode prog_14_method_41_code 1 = .ok (.iload_n 1, 1) := by decide +kernel
theorem dq_Md_change_2 : decode prog_14_method_41_code 2 = .ok (.invokevirtual 317, 3) := by decide +kernel
theorem dq_Md_change_5 : decode prog_14_method_41_code 5 = .ok (.istore_n 2, 1) := by decide +kernel
theorem dq_Md_change_6 : decode prog_14_method_41_code 6 = .ok (.aload_n 0, 1) := by decide +kernel
theorem dq_Md_change_7 : decode prog_14_method_41_code 7 = .ok (.getfield 41, 3) := by decide +kernel
theorem dq_Md_change_10 : decode prog_14_method_41_code 10 = .ok (.iload_n 1, 1) := by decide +kernel
theorem dq_Md_change_11 : decode prog_14_method_41_code 11 = .ok (.iaload, 1) := by decide +kernel
theorem dq_Md_change_12 : decode prog_14_method_41_code 12 = .ok (.iconst 3, 1) := by decide +kernel
theorem dq_Md_change_13 : decode prog_14_method_41_code 13 = .ok (.if_icmp .ne 54, 3) := by decide +kernel
theorem dq_Md_change_16 : decode prog_14_method_41_code 16 = .ok (.iload_n 2, 1) := by decide +kernel
theorem dq_Md_change_17 : decode prog_14_method_41_code 17 = .ok (.ifCond .lt 25, 3) := by decide +kernel
theorem dq_Md_change_20 : decode prog_14_method_41_code 20 = .ok (.aload_n 0, 1) := by decide +kernel
theorem dq_Md_change_21 : decode prog_14_method_41_code 21 = .ok (.iload_n 1, 1) := by decide +kernel
theorem dq_Md_change_22 : decode prog_14_method_41_code 22 = .ok (.aload_n 0, 1) := by decide +kernel
theorem dq_Md_change_23 : decode prog_14_method_41_code 23 = .ok (.getfield 165, 3) := by decide +kernel
theorem dq_Md_change_26 : decode prog_14_method_41_code 26 = .ok (.iconst 3, 1) := by decide +kernel
theorem dq_Md_change_27 : decode prog_14_method_41_code 27 = .ok (.iload_n 2, 1) := by decide +kernel
theorem dq_Md_change_28 : decode prog_14_method_41_code 28 = .ok (.imul, 1) := by decide +kernel
theorem dq_Md_change_29 : decode prog_14_method_41_code 29 = .ok (.aload_n 0, 1) := by decide +kernel
theorem dq_Md_change_30 : decode prog_14_method_41_code 30 = .ok (.iload_n 2, 1) := by decide +kernel
theorem dq_Md_change_31 : decode prog_14_method_41_code 31 = .ok (.invokevirtual 311, 3) := by decide +kernel
theorem dq_Md_change_34 : decode prog_14_method_41_code 34 = .ok (.iadd, 1) := by decide +kernel
theorem dq_Md_change_35 : decode prog_14_method_41_code 35 = .ok (.iaload, 1) := by decide +kernel
theorem dq_Md_change_36 : decode prog_14_method_41_code 36 = .ok (.invokevirtual 323, 3) := by decide +kernel
theorem dq_Md_change_39 : decode prog_14_method_41_code 39 = .ok (.ifCond .ne 17, 3) := by decide +kernel
theorem dq_Md_change_42 : decode prog_14_method_41_code 42 = .ok (.iload_n 2, 1) := by decide +kernel
theorem dq_Md_change_43 : decode prog_14_method_41_code 43 = .ok (.ifCond .ge 9, 3) := by decide +kernel
theorem dq_Md_change_46 : decode prog_14_method_41_code 46 = .ok (.sipush 404, 3) := by decide +kernel
theorem dq_Md_change_49 : decode prog_14_method_41_code 49 = .ok (.goto 6, 3) := by decide +kernel
theorem dq_Md_change_52 : decode prog_14_method_41_code 52 = .ok (.sipush 412, 3) := by decide +kernel
theorem dq_Md_change_55 : decode prog_14_method_41_code 55 = .ok (.ireturn, 1) := by decide +kernel
theorem dq_Md_change_56 : decode prog_14_method_41_code 56 = .ok (.aload_n 0, 1) := by decide +kernel
theorem dq_Md_change_57 : decode prog_14_method_41_code 57 = .ok (.getfield 144, 3) := by decide +kernel
theorem dq_Md_change_60 : decode prog_14_method_41_code 60 = .ok (.iload_n 2, 1) := by decide +kernel
theorem dq_Md_change_61 : decode prog_14_method_41_code 61 = .ok (.iconst 0, 1) := by decide +kernel
theorem dq_Md_change_62 : decode prog_14_method_41_code 62 = .ok (.bastore, 1) := by decide +kernel
theorem dq_Md_change_63 : decode prog_14_method_41_code 63 = .ok (.sipush 204, 3) := by decide +kernel
theorem dq_Md_change_66 : decode prog_14_method_41_code 66 = .ok (.ireturn, 1) := by decide +kernel
theorem dq_Md_change_67 : decode prog_14_method_41_code 67 = .ok (.aload_n 0, 1) := by decide +kernel
theorem dq_Md_change_68 : decode prog_14_method_41_code 68 = .ok (.iload_n 1, 1) := by decide +kernel
theorem dq_Md_change_69 : decode prog_14_method_41_code 69 = .ok (.bipush 6, 2) := by decide +kernel
theorem dq_Md_change_71 : decode prog_14_method_41_code 71 = .ok (.invokevirtual 258, 3) := by decide +kernel
theorem dq_Md_change_74 : decode prog_14_method_41_code 74 = .ok (.ifCond .eq 18, 3) := by decide +kernel
theorem dq_Md_change_77 : decode prog_14_method_41_code 77 = .ok (.aload_n 0, 1) := by decide +kernel
theorem dq_Md_change_78 : decode prog_14_method_41_code 78 = .ok (.getfield 51, 3) := by decide +kernel
theorem dq_Md_change_81 : decode prog_14_method_41_code 81 = .ok (.bipush 8, 2) := by decide +kernel
theorem dq_Md_change_83 : decode prog_14_method_41_code 83 = .ok (.iload_n 1, 1) := by decide +kernel
theorem dq_Md_change_84 : decode prog_14_method_41_code 84 = .ok (.imul, 1) := by decide +kernel
theorem dq_Md_change_85 : decode prog_14_method_41_code 85 = .ok (.bipush 6, 2) := by decide +kernel
theorem dq_Md_change_87 : decode prog_14_method_41_code 87 = .ok (.iadd, 1) := by decide +kernel
theorem dq_Md_change_88 : decode prog_14_method_41_code 88 = .ok (.laload, 1) := by decide +kernel
theorem dq_Md_change_89 : decode prog_14_method_41_code 89 = .ok (.goto 6, 3) := by decide +kernel
theorem dq_Md_change_92 : decode prog_14_method_41_code 92 = .ok (.ldc2_w 326, 3) := by decide +kernel
theorem dq_Md_change_95 : decode prog_14_method_41_code 95 = .ok (.lstore_n 3, 1) := by decide +kernel
theorem dq_Md_change_96 : decode prog_14_method_41_code 96 = .ok (.aload_n 0, 1) := by decide +kernel
theorem dq_Md_change_97 : decode prog_14_method_41_code 97 = .ok (.iload_n 1, 1) := by decide +kernel
theorem dq_Md_change_98 : decode prog_14_method_41_code 98 = .ok (.bipush 6, 2) := by decide +kernel
theorem dq_Md_change_100 : decode prog_14_method_41_code 100 = .ok (.invokevirtual 258, 3) := by decide +kernel
theorem dq_Md_change_103 : decode prog_14_method_41_code 103 = .ok (.ifCond .eq 19, 3) := by decide +kernel
theorem dq_Md_change_106 : decode prog_14_method_41_code 106 = .ok (.aload_n 0, 1) := by decide +kernel
theorem dq_Md_change_107 : decode prog_14_method_41_code 107 = .ok (.getfield 54, 3) := by decide +kernel
theorem dq_Md_change_110 : decode prog_14_method_41_code 110 = .ok (.bipush 8, 2) := by decide +kernel
theorem dq_Md_change_112 : decode prog_14_method_41_code 112 = .ok (.iload_n 1, 1) := by decide +kernel
theorem dq_Md_change_113 : decode prog_14_method_41_code 113 = .ok (.imul, 1) := by decide +kernel
theorem dq_Md_change_114 : decode prog_14_method_41_code 114 = .ok (.bipush 6, 2) := by decide +kernel
theorem dq_Md_change_116 : decode prog_14_method_41_code 116 = .ok (.iadd, 1) := by decide +kernel
theorem dq_Md_change_117 : decode prog_14_method_41_code 117 = .ok (.iaload, 1) := by decide +kernel
theorem dq_Md_change_118 : decode prog_14_method_41_code 118 = .ok (.iconst 1, 1) := by decide +kernel
theorem dq_Md_change_119 : decode prog_14_method_41_code 119 = .ok (.if_icmp .ne 19, 3) := by decide +kernel
theorem dq_Md_change_122 : decode prog_14_method_41_code 122 = .ok (.lload_n 3, 1) := by decide +kernel
theorem dq_Md_change_123 : decode prog_14_method_41_code 123 = .ok (.ldc2_w 326, 3) := by decide +kernel
theorem dq_Md_change_126 : decode prog_14_method_41_code 126 = .ok (.lcmp, 1) := by decide +kernel
theorem dq_Md_change_127 : decode prog_14_method_41_code 127 = .ok (.ifCond .lt 11, 3) := by decide +kernel
theorem dq_Md_change_130 : decode prog_14_method_41_code 130 = .ok (.lload_n 3, 1) := by decide +kernel
theorem dq_Md_change_131 : decode prog_14_method_41_code 131 = .ok (.ldc2_w 252, 3) := by decide +kernel
theorem dq_Md_change_134 : decode prog_14_method_41_code 134 = .ok (.lcmp, 1) := by decide +kernel
theorem dq_Md_change_135 : decode prog_14_method_41_code 135 = .ok (.ifCond .le 7, 3) := by decide +kernel
theorem dq_Md_change_138 : decode prog_14_method_41_code 138 = .ok (.sipush 415, 3) := by decide +kernel
theorem dq_Md_change_141 : decode prog_14_method_41_code 141 = .ok (.ireturn, 1) := by decide +kernel
theorem dq_Md_change_142 : decode prog_14_method_41_code 142 = .ok (.lload_n 3, 1) := by decide +kernel
theorem dq_Md_change_143 : decode prog_14_method_41_code 143 = .ok (.l2i, 1) := by decide +kernel
theorem dq_Md_change_144 : decode prog_14_method_41_code 144 = .ok (.bipush 97, 2) := by decide +kernel
theorem dq_Md_change_146 : decode prog_14_method_41_code 146 = .ok (.isub, 1) := by decide +kernel
theorem dq_Md_change_147 : decode prog_14_method_41_code 147 = .ok (.istore 5, 2) := by decide +kernel
theorem dq_Md_change_149 : decode prog_14_method_41_code 149 = .ok (.iload_n 2, 1) := by decide +kernel
theorem dq_Md_change_150 : decode prog_14_method_41_code 150 = .ok (.ifCond .ge 7, 3) := by decide +kernel
theorem dq_Md_change_153 : decode prog_14_method_41_code 153 = .ok (.iconst 0, 1) := by decide +kernel
theorem dq_Md_change_154 : decode prog_14_method_41_code 154 = .ok (.goto 14, 3) := by decide +kernel
theorem dq_Md_change_157 : decode prog_14_method_41_code 157 = .ok (.aload_n 0, 1) := by decide +kernel
theorem dq_Md_change_158 : decode prog_14_method_41_code 158 = .ok (.getfield 165, 3) := by decide +kernel
theorem dq_Md_change_161 : decode prog_14_method_41_code 161 = .ok (.iconst 3, 1) := by decide +kernel
theorem dq_Md_change_162 : decode prog_14_method_41_code 162 = .ok (.iload_n 2, 1) := by decide +kernel
theorem dq_Md_change_163 : decode prog_14_method_41_code 163 = .ok (.imul, 1) := by decide +kernel
theorem dq_Md_change_164 : decode prog_14_method_41_code 164 = .ok (.iload 5, 2) := by decide +kernel
theorem dq_Md_change_166 : decode prog_14_method_41_code 166 = .ok (.iadd, 1) := by decide +kernel
theorem dq_Md_change_167 : decode prog_14_method_41_code 167 = .ok (.iaload, 1) := by decide +kernel
theorem dq_Md_change_168 : decode prog_14_method_41_code 168 = .ok (.istore 6, 2) := by decide +kernel
theorem dq_Md_change_170 : decode prog_14_method_41_code 170 = .ok (.aload_n 0, 1) := by decide +kernel
theorem dq_Md_change_171 : decode prog_14_method_41_code 171 = .ok (.iload_n 1, 1) := by decide +kernel
theorem dq_Md_change_172 : decode prog_14_method_41_code 172 = .ok (.iload 6, 2) := by decide +kernel
theorem dq_Md_change_174 : decode prog_14_method_41_code 174 = .ok (.invokevirtual 323, 3) := by decide +kernel
theorem dq_Md_change_177 : decode prog_14_method_41_code 177 = .ok (.ifCond .ne 7, 3) := by decide +kernel
theorem dq_Md_change_180 : decode prog_14_method_41_code 180 = .ok (.sipush 412, 3) := by decide +kernel
theorem dq_Md_change_183 : decode prog_14_method_41_code 183 = .ok (.ireturn, 1) := by decide +kernel
theorem dq_Md_change_184 : decode prog_14_method_41_code 184 = .ok (.iload_n 2, 1) := by decide +kernel
theorem dq_Md_change_185 : decode prog_14_method_41_code 185 = .ok (.ifCond .ge 9, 3) := by decide +kernel
theorem dq_Md_change_188 : decode prog_14_method_41_code 188 = .ok (.aload_n 0, 1) := by decide +kernel
theorem dq_Md_change_189 : decode prog_14_method_41_code 189 = .ok (.iload_n 1, 1) := by decide +kernel
theorem dq_Md_change_190 : decode prog_14_method_41_code 190 = .ok (.invokevirtual 328, 3) := by decide +kernel
theorem dq_Md_change_193 : decode prog_14_method_41_code 193 = .ok (.istore_n 2, 1) := by decide +kernel
theorem dq_Md_change_194 : decode prog_14_method_41_code 194 = .ok (.iload_n 2, 1) := by decide +kernel
theorem dq_Md_change_195 : decode prog_14_method_41_code 195 = .ok (.ifCond .ge 7, 3) := by decide +kernel
theorem dq_Md_change_198 : decode prog_14_method_41_code 198 = .ok (.sipush 507, 3) := by decide +kernel
theorem dq_Md_change_201 : decode prog_14_method_41_code 201 = .ok (.ireturn, 1) := by decide +kernel
theorem dq_Md_change_202 : decode prog_14_method_41_code 202 = .ok (.iconst 3, 1) := by decide +kernel
theorem dq_Md_change_203 : decode prog_14_method_41_code 203 = .ok (.iload_n 2, 1) := by decide +kernel
theorem dq_Md_change_204 : decode prog_14_method_41_code 204 = .ok (.imul, 1) := by decide +kernel
theorem dq_Md_change_205 : decode prog_14_method_41_code 205 = .ok (.iload 5, 2) := by decide +kernel
theorem dq_Md_change_207 : decode prog_14_method_41_code 207 = .ok (.iadd, 1) := by decide +kernel
theorem dq_Md_change_208 : decode prog_14_method_41_code 208 = .ok (.istore 7, 2) := by decide +kernel
theorem dq_Md_change_210 : decode prog_14_method_41_code 210 = .ok (.iload 6, 2) := by decide +kernel
theorem dq_Md_change_212 : decode prog_14_method_41_code 212 = .ok (.ifCond .eq 36, 3) := by decide +kernel
theorem dq_Md_change_215 : decode prog_14_method_41_code 215 = .ok (.aload_n 0, 1) := by decide +kernel
theorem dq_Md_change_216 : decode prog_14_method_41_code 216 = .ok (.getfield 159, 3) := by decide +kernel
theorem dq_Md_change_219 : decode prog_14_method_41_code 219 = .ok (.iload 7, 2) := by decide +kernel
theorem dq_Md_change_221 : decode prog_14_method_41_code 221 = .ok (.laload, 1) := by decide +kernel
theorem dq_Md_change_222 : decode prog_14_method_41_code 222 = .ok (.aload_n 0, 1) := by decide +kernel
theorem dq_Md_change_223 : decode prog_14_method_41_code 223 = .ok (.getfield 57, 3) := by decide +kernel
theorem dq_Md_change_226 : decode prog_14_method_41_code 226 = .ok (.iload_n 1, 1) := by decide +kernel
theorem dq_Md_change_227 : decode prog_14_method_41_code 227 = .ok (.laload, 1) := by decide +kernel
theorem dq_Md_change_228 : decode prog_14_method_41_code 228 = .ok (.lcmp, 1) := by decide +kernel
theorem dq_Md_change_229 : decode prog_14_method_41_code 229 = .ok (.ifCond .ne 19, 3) := by decide +kernel
theorem dq_Md_change_232 : decode prog_14_method_41_code 232 = .ok (.aload_n 0, 1) := by decide +kernel
theorem dq_Md_change_233 : decode prog_14_method_41_code 233 = .ok (.getfield 162, 3) := by decide +kernel
theorem dq_Md_change_236 : decode prog_14_method_41_code 236 = .ok (.iload 7, 2) := by decide +kernel
theorem dq_Md_change_238 : decode prog_14_method_41_code 238 = .ok (.iaload, 1) := by decide +kernel
theorem dq_Md_change_239 : decode prog_14_method_41_code 239 = .ok (.aload_n 0, 1) := by decide +kernel
theorem dq_Md_change_240 : decode prog_14_method_41_code 240 = .ok (.getfield 60, 3) := by decide +kernel
theorem dq_Md_change_243 : decode prog_14_method_41_code 243 = .ok (.iload_n 1, 1) := by decide +kernel
theorem dq_Md_change_244 : decode prog_14_method_41_code 244 = .ok (.iaload, 1) := by decide +kernel
theorem dq_Md_change_245 : decode prog_14_method_41_code 245 = .ok (.if_icmp .eq 24, 3) := by decide +kernel
theorem dq_Md_change_248 : decode prog_14_method_41_code 248 = .ok (.aload_n 0, 1) := by decide +kernel
theorem dq_Md_change_249 : decode prog_14_method_41_code 249 = .ok (.dup, 1) := by decide +kernel
theorem dq_Md_change_250 : decode prog_14_method_41_code 250 = .ok (.getfield 331, 3) := by decide +kernel
theorem dq_Md_change_253 : decode prog_14_method_41_code 253 = .ok (.iconst 1, 1) := by decide +kernel
theorem dq_Md_change_254 : decode prog_14_method_41_code 254 = .ok (.iadd, 1) := by decide +kernel
theorem dq_Md_change_255 : decode prog_14_method_41_code 255 = .ok (.putfield 331, 3) := by decide +kernel
theorem dq_Md_change_258 : decode prog_14_method_41_code 258 = .ok (.aload_n 0, 1) := by decide +kernel
theorem dq_Md_change_259 : decode prog_14_method_41_code 259 = .ok (.getfield 165, 3) := by decide +kernel
theorem dq_Md_change_262 : decode prog_14_method_41_code 262 = .ok (.iload 7, 2) := by decide +kernel
theorem dq_Md_change_264 : decode prog_14_method_41_code 264 = .ok (.aload_n 0, 1) := by decide +kernel
theorem dq_Md_change_265 : decode prog_14_method_41_code 265 = .ok (.getfield 331, 3) := by decide +kernel
theorem dq_Md_change_268 : decode prog_14_method_41_code 268 = .ok (.iastore, 1) := by decide +kernel
theorem dq_Md_change_269 : decode prog_14_method_41_code 269 = .ok (.aload_n 0, 1) := by decide +kernel
theorem dq_Md_change_270 : decode prog_14_method_41_code 270 = .ok (.getfield 159, 3) := by decide +kernel
theorem dq_Md_change_273 : decode prog_14_method_41_code 273 = .ok (.iload 7, 2) := by decide +kernel
theorem dq_Md_change_275 : decode prog_14_method_41_code 275 = .ok (.aload_n 0, 1) := by decide +kernel
theorem dq_Md_change_276 : decode prog_14_method_41_code 276 = .ok (.getfield 57, 3) := by decide +kernel
theorem dq_Md_change_279 : decode prog_14_method_41_code 279 = .ok (.iload_n 1, 1) := by decide +kernel
theorem dq_Md_change_280 : decode prog_14_method_41_code 280 = .ok (.laload, 1) := by decide +kernel
theorem dq_Md_change_281 : decode prog_14_method_41_code 281 = .ok (.lastore, 1) := by decide +kernel
theorem dq_Md_change_282 : decode prog_14_method_41_code 282 = .ok (.aload_n 0, 1) := by decide +kernel
theorem dq_Md_change_283 : decode prog_14_method_41_code 283 = .ok (.getfield 162, 3) := by decide +kernel
theorem dq_Md_change_286 : decode prog_14_method_41_code 286 = .ok (.iload 7, 2) := by decide +kernel
theorem dq_Md_change_288 : decode prog_14_method_41_code 288 = .ok (.aload_n 0, 1) := by decide +kernel
theorem dq_Md_change_289 : decode prog_14_method_41_code 289 = .ok (.getfield 60, 3) := by decide +kernel
theorem dq_Md_change_292 : decode prog_14_method_41_code 292 = .ok (.iload_n 1, 1) := by decide +kernel
theorem dq_Md_change_293 : decode prog_14_method_41_code 293 = .ok (.iaload, 1) := by decide +kernel
theorem dq_Md_change_294 : decode prog_14_method_41_code 294 = .ok (.iastore, 1) := by decide +kernel
theorem dq_Md_change_295 : decode prog_14_method_41_code 295 = .ok (.aload_n 0, 1) := by decide +kernel
theorem dq_Md_change_296 : decode prog_14_method_41_code 296 = .ok (.getfield 153, 3) := by decide +kernel
theorem dq_Md_change_299 : decode prog_14_method_41_code 299 = .ok (.iload_n 2, 1) := by decide +kernel
theorem dq_Md_change_300 : decode prog_14_method_41_code 300 = .ok (.aload_n 0, 1) := by decide +kernel
theorem dq_Md_change_301 : decode prog_14_method_41_code 301 = .ok (.iload_n 1, 1) := by decide +kernel
theorem dq_Md_change_302 : decode prog_14_method_41_code 302 = .ok (.bipush 7, 2) := by decide +kernel
theorem dq_Md_change_304 : decode prog_14_method_41_code 304 = .ok (.invokevirtual 258, 3) := by decide +kernel
theorem dq_Md_change_307 : decode prog_14_method_41_code 307 = .ok (.ifCond .eq 18, 3) := by decide +kernel
theorem dq_Md_change_310 : decode prog_14_method_41_code 310 = .ok (.aload_n 0, 1) := by decide +kernel
theorem dq_Md_change_311 : decode prog_14_method_41_code 311 = .ok (.getfield 51, 3) := by decide +kernel
theorem dq_Md_change_314 : decode prog_14_method_41_code 314 = .ok (.bipush 8, 2) := by decide +kernel
theorem dq_Md_change_316 : decode prog_14_method_41_code 316 = .ok (.iload_n 1, 1) := by decide +kernel
theorem dq_Md_change_317 : decode prog_14_method_41_code 317 = .ok (.imul, 1) := by decide +kernel
theorem dq_Md_change_318 : decode prog_14_method_41_code 318 = .ok (.bipush 7, 2) := by decide +kernel
theorem dq_Md_change_320 : decode prog_14_method_41_code 320 = .ok (.iadd, 1) := by decide +kernel
theorem dq_Md_change_321 : decode prog_14_method_41_code 321 = .ok (.laload, 1) := by decide +kernel
theorem dq_Md_change_322 : decode prog_14_method_41_code 322 = .ok (.goto 4, 3) := by decide +kernel
theorem dq_Md_change_325 : decode prog_14_method_41_code 325 = .ok (.lconst 0, 1) := by decide +kernel
theorem dq_Md_change_326 : decode prog_14_method_41_code 326 = .ok (.lastore, 1) := by decide +kernel
theorem dq_Md_change_327 : decode prog_14_method_41_code 327 = .ok (.aload_n 0, 1) := by decide +kernel
theorem dq_Md_change_328 : decode prog_14_method_41_code 328 = .ok (.getfield 156, 3) := by decide +kernel
theorem dq_Md_change_331 : decode prog_14_method_41_code 331 = .ok (.iload_n 2, 1) := by decide +kernel
theorem dq_Md_change_332 : decode prog_14_method_41_code 332 = .ok (.aload_n 0, 1) := by decide +kernel
theorem dq_Md_change_333 : decode prog_14_method_41_code 333 = .ok (.iload_n 1, 1) := by decide +kernel
theorem dq_Md_change_334 : decode prog_14_method_41_code 334 = .ok (.bipush 7, 2) := by decide +kernel
theorem dq_Md_change_336 : decode prog_14_method_41_code 336 = .ok (.invokevirtual 258, 3) := by decide +kernel
theorem dq_Md_change_339 : decode prog_14_method_41_code 339 = .ok (.ifCond .eq 18, 3) := by decide +kernel
theorem dq_Md_change_342 : decode prog_14_method_41_code 342 = .ok (.aload_n 0, 1) := by decide +kernel
theorem dq_Md_change_343 : decode prog_14_method_41_code 343 = .ok (.getfield 54, 3) := by decide +kernel
theorem dq_Md_change_346 : decode prog_14_method_41_code 346 = .ok (.bipush 8, 2) := by decide +kernel
theorem dq_Md_change_348 : decode prog_14_method_41_code 348 = .ok (.iload_n 1, 1) := by decide +kernel
theorem dq_Md_change_349 : decode prog_14_method_41_code 349 = .ok (.imul, 1) := by decide +kernel
theorem dq_Md_change_350 : decode prog_14_method_41_code 350 = .ok (.bipush 7, 2) := by decide +kernel
theorem dq_Md_change_352 : decode prog_14_method_41_code 352 = .ok (.iadd, 1) := by decide +kernel
theorem dq_Md_change_353 : decode prog_14_method_41_code 353 = .ok (.iaload, 1) := by decide +kernel
theorem dq_Md_change_354 : decode prog_14_method_41_code 354 = .ok (.goto 4, 3) := by decide +kernel
theorem dq_Md_change_357 : decode prog_14_method_41_code 357 = .ok (.iconst 0, 1) := by decide +kernel
theorem dq_Md_change_358 : decode prog_14_method_41_code 358 = .ok (.iastore, 1) := by decide +kernel
theorem dq_Md_change_359 : decode prog_14_method_41_code 359 = .ok (.aload_n 0, 1) := by decide +kernel
theorem dq_Md_change_360 : decode prog_14_method_41_code 360 = .ok (.getfield 96, 3) := by decide +kernel
theorem dq_Md_change_363 : decode prog_14_method_41_code 363 = .ok (.iload_n 1, 1) := by decide +kernel
theorem dq_Md_change_364 : decode prog_14_method_41_code 364 = .ok (.aload_n 0, 1) := by decide +kernel
theorem dq_Md_change_365 : decode prog_14_method_41_code 365 = .ok (.getfield 165, 3) := by decide +kernel
theorem dq_Md_change_368 : decode prog_14_method_41_code 368 = .ok (.iload 7, 2) := by decide +kernel
theorem dq_Md_change_370 : decode prog_14_method_41_code 370 = .ok (.iaload, 1) := by decide +kernel
theorem dq_Md_change_371 : decode prog_14_method_41_code 371 = .ok (.iastore, 1) := by decide +kernel
theorem dq_Md_change_372 : decode prog_14_method_41_code 372 = .ok (.iload 6, 2) := by decide +kernel
theorem dq_Md_change_374 : decode prog_14_method_41_code 374 = .ok (.ifCond .ne 9, 3) := by decide +kernel
theorem dq_Md_change_377 : decode prog_14_method_41_code 377 = .ok (.sipush 201, 3) := by decide +kernel
theorem dq_Md_change_380 : decode prog_14_method_41_code 380 = .ok (.goto 6, 3) := by decide +kernel
theorem dq_Md_change_383 : decode prog_14_method_41_code 383 = .ok (.sipush 204, 3) := by decide +kernel
theorem dq_Md_change_386 : decode prog_14_method_41_code 386 = .ok (.ireturn, 1) := by decide +kernel
set_option maxRecDepth 100000 in
def pq_Md_change_138 (E : wo_E) (mc ms : Nat) (Post : Int32 → wo_W → Prop) (G : wo_W) (c s : Nat) : Prop := Post (415 : Int32) G
set_option maxRecDepth 100000 in
def pq_Md_change_386 (E : wo_E) (mc ms : Nat) (Post : Int32 → wo_W → Prop) (G : wo_W) (c s : Nat) (y0 : Int32) : Prop := Post y0 G
set_option maxRecDepth 100000 in
def pq_Md_change_358 (E : wo_E) (mc ms : Nat) (Post : Int32 → wo_W → Prop) (G : wo_W) (c s : Nat) (x0 : Nat) (x1 : Int32) (x6 : Int32) (x7 : Int32) (y0 : Option Nat) (y1 : Int32) (y2 : Int32) : Prop := ∃ a1 : Nat, y0 = some a1 ∧ wo_ty G a1 = 66 ∧ vp_in y1 (wo_len G a1) ∧ en_bs E ≤ a1 ∧ ∀ G5 : wo_W, G5 = wo_sei G a1 y1.toNatClampNeg y2 → 
  wo_ty G5 x0 = 15 ∧ ∀ r8 : Option Nat, r8 = wo_gr G5 927 x0 → ∀ r10 : Option Nat, r10 = wo_gr G5 952 x0 → ∃ a12 : Nat, r10 = some a12 ∧ wo_ty G5 a12 = 66 ∧ vp_in x7 (wo_len G5 a12) ∧ ∃ a15 : Nat, r8 = some a15 ∧ wo_ty G5 a15 = 66 ∧ vp_in x1 (wo_len G5 a15) ∧ en_bs E ≤ a15 ∧ ∀ G19 : wo_W, G19 = wo_sei G5 a15 x1.toNatClampNeg (wo_ei G5 a12 x7.toNatClampNeg) → 
  ((¬ x6 = (0 : Int32) → pq_Md_change_386 E mc ms Post G19 c s (204 : Int32)) ∧
  (x6 = (0 : Int32) → pq_Md_change_386 E mc ms Post G19 c s (201 : Int32)))
set_option maxRecDepth 100000 in
def pq_Md_change_326 (E : wo_E) (mc ms : Nat) (Post : Int32 → wo_W → Prop) (G : wo_W) (c s : Nat) (x0 : Nat) (x1 : Int32) (x2 : Int32) (x6 : Int32) (x7 : Int32) (y0 : Option Nat) (y1 : Int32) (y2 : Int64) : Prop := ∃ a1 : Nat, y0 = some a1 ∧ wo_ty G a1 = 73 ∧ vp_in y1 (wo_len G a1) ∧ en_bs E ≤ a1 ∧ ∀ G5 : wo_W, G5 = wo_sel G a1 y1.toNatClampNeg y2 → 
  wo_ty G5 x0 = 15 ∧ ∀ r8 : Option Nat, r8 = wo_gr G5 949 x0 → ∃ mc10 ms11 : Nat, (c + mc10) ≤ mc ∧ (s + ms11) ≤ ms ∧ pq_Md_has E mc10 ms11 (fun v13 G12 => 
  ((v13 = (0 : Int32) → pq_Md_change_358 E mc ms Post G12 (c + mc10) (s + ms11) x0 x1 x6 x7 r8 x2 (0 : Int32)) ∧
    (¬ v13 = (0 : Int32) → wo_ty G12 x0 = 15 ∧ ∀ r15 : Option Nat, r15 = wo_gr G12 911 x0 → ∃ a17 : Nat, r15 = some a17 ∧ wo_ty G12 a17 = 66 ∧ vp_in (((8 : Int32) * x1) + (7 : Int32)) (wo_len G12 a17) ∧ pq_Md_change_358 E mc ms Post G12 (c + mc10) (s + ms11) x0 x1 x6 x7 r8 x2 (wo_ei G12 a17 (((8 : Int32) * x1) + (7 : Int32)).toNatClampNeg)))) G5 x0 x1 (7 : Int32)
set_option maxRecDepth 100000 in
def pq_Md_change_269 (E : wo_E) (mc ms : Nat) (Post : Int32 → wo_W → Prop) (G : wo_W) (c s : Nat) (x0 : Nat) (x1 : Int32) (x2 : Int32) (x6 : Int32) (x7 : Int32) : Prop := wo_ty G x0 = 15 ∧ ∀ r2 : Option Nat, r2 = wo_gr G 950 x0 → ∀ r4 : Option Nat, r4 = wo_gr G 912 x0 → ∃ a6 : Nat, r4 = some a6 ∧ wo_ty G a6 = 73 ∧ vp_in x1 (wo_len G a6) ∧ ∃ a9 : Nat, r2 = some a9 ∧ wo_ty G a9 = 73 ∧ vp_in x7 (wo_len G a9) ∧ en_bs E ≤ a9 ∧ ∀ G13 : wo_W, G13 = wo_sel G a9 x7.toNatClampNeg (wo_el G a6 x1.toNatClampNeg) → 
  ∀ r15 : Option Nat, r15 = wo_gr G13 951 x0 → ∀ r17 : Option Nat, r17 = wo_gr G13 913 x0 → ∃ a19 : Nat, r17 = some a19 ∧ wo_ty G13 a19 = 66 ∧ vp_in x1 (wo_len G13 a19) ∧ ∃ a22 : Nat, r15 = some a22 ∧ wo_ty G13 a22 = 66 ∧ vp_in x7 (wo_len G13 a22) ∧ en_bs E ≤ a22 ∧ ∀ G26 : wo_W, G26 = wo_sei G13 a22 x7.toNatClampNeg (wo_ei G13 a19 x1.toNatClampNeg) → 
  ∀ r28 : Option Nat, r28 = wo_gr G26 948 x0 → ∃ mc30 ms31 : Nat, (c + mc30) ≤ mc ∧ (s + ms31) ≤ ms ∧ pq_Md_has E mc30 ms31 (fun v33 G32 => 
  ((v33 = (0 : Int32) → pq_Md_change_326 E mc ms Post G32 (c + mc30) (s + ms31) x0 x1 x2 x6 x7 r28 x2 (0 : Int64)) ∧
    (¬ v33 = (0 : Int32) → wo_ty G32 x0 = 15 ∧ ∀ r35 : Option Nat, r35 = wo_gr G32 910 x0 → ∃ a37 : Nat, r35 = some a37 ∧ wo_ty G32 a37 = 73 ∧ vp_in (((8 : Int32) * x1) + (7 : Int32)) (wo_len G32 a37) ∧ pq_Md_change_326 E mc ms Post G32 (c + mc30) (s + ms31) x0 x1 x2 x6 x7 r28 x2 (wo_el G32 a37 (((8 : Int32) * x1) + (7 : Int32)).toNatClampNeg)))) G26 x0 x1 (7 : Int32)
set_option maxRecDepth 100000 in
def pq_Md_change_248 (E : wo_E) (mc ms : Nat) (Post : Int32 → wo_W → Prop) (G : wo_W) (c s : Nat) (x0 : Nat) (x1 : Int32) (x2 : Int32) (x6 : Int32) (x7 : Int32) : Prop := wo_ty G x0 = 15 ∧ en_bs E ≤ x0 ∧ ∀ G3 : wo_W, G3 = wo_si G 957 x0 ((wo_gi G 957 x0) + (1 : Int32)) → 
  ∀ r5 : Option Nat, r5 = wo_gr G3 952 x0 → ∃ a7 : Nat, r5 = some a7 ∧ wo_ty G3 a7 = 66 ∧ vp_in x7 (wo_len G3 a7) ∧ en_bs E ≤ a7 ∧ ∀ G11 : wo_W, G11 = wo_sei G3 a7 x7.toNatClampNeg (wo_gi G3 957 x0) → 
  pq_Md_change_269 E mc ms Post G11 c s x0 x1 x2 x6 x7
set_option maxRecDepth 100000 in
def pq_Md_change_194 (E : wo_E) (mc ms : Nat) (Post : Int32 → wo_W → Prop) (G : wo_W) (c s : Nat) (x0 : Nat) (x1 : Int32) (x2 : Int32) (x5 : Int32) (x6 : Int32) : Prop := (((0 : Int32) ≤ x2 → ((x6 = (0 : Int32) → pq_Md_change_248 E mc ms Post G c s x0 x1 x2 x6 (((3 : Int32) * x2) + x5)) ∧
    (¬ x6 = (0 : Int32) → wo_ty G x0 = 15 ∧ ∀ r2 : Option Nat, r2 = wo_gr G 950 x0 → ∃ a4 : Nat, r2 = some a4 ∧ wo_ty G a4 = 73 ∧ vp_in (((3 : Int32) * x2) + x5) (wo_len G a4) ∧ ∀ r7 : Option Nat, r7 = wo_gr G 912 x0 → ∃ a9 : Nat, r7 = some a9 ∧ wo_ty G a9 = 73 ∧ vp_in x1 (wo_len G a9) ∧ ((¬ (lg_cmp (wo_el G a4 (((3 : Int32) * x2) + x5).toNatClampNeg) (wo_el G a9 x1.toNatClampNeg)) = (0 : Int32) → pq_Md_change_248 E mc ms Post G c s x0 x1 x2 x6 (((3 : Int32) * x2) + x5)) ∧
      ((lg_cmp (wo_el G a4 (((3 : Int32) * x2) + x5).toNatClampNeg) (wo_el G a9 x1.toNatClampNeg)) = (0 : Int32) → ∀ r12 : Option Nat, r12 = wo_gr G 951 x0 → ∃ a14 : Nat, r12 = some a14 ∧ wo_ty G a14 = 66 ∧ vp_in (((3 : Int32) * x2) + x5) (wo_len G a14) ∧ ∀ r17 : Option Nat, r17 = wo_gr G 913 x0 → ∃ a19 : Nat, r17 = some a19 ∧ wo_ty G a19 = 66 ∧ vp_in x1 (wo_len G a19) ∧ (((wo_ei G a14 (((3 : Int32) * x2) + x5).toNatClampNeg) = (wo_ei G a19 x1.toNatClampNeg) → pq_Md_change_269 E mc ms Post G c s x0 x1 x2 x6 (((3 : Int32) * x2) + x5)) ∧
        (¬ (wo_ei G a14 (((3 : Int32) * x2) + x5).toNatClampNeg) = (wo_ei G a19 x1.toNatClampNeg) → pq_Md_change_248 E mc ms Post G c s x0 x1 x2 x6 (((3 : Int32) * x2) + x5)))))))) ∧
  (¬ (0 : Int32) ≤ x2 → Post (507 : Int32) G))
set_option maxRecDepth 100000 in
def pq_Md_change_168 (E : wo_E) (mc ms : Nat) (Post : Int32 → wo_W → Prop) (G : wo_W) (c s : Nat) (x0 : Nat) (x1 : Int32) (x2 : Int32) (x5 : Int32) (y0 : Int32) : Prop := wo_ty G x0 = 15 ∧ ∃ mc2 ms3 : Nat, (c + mc2) ≤ mc ∧ (s + ms3) ≤ ms ∧ pq_Md_holds E mc2 ms3 (fun v5 G4 => 
  ((¬ v5 = (0 : Int32) → (((0 : Int32) ≤ x2 → pq_Md_change_194 E mc ms Post G4 (c + mc2) (s + ms3) x0 x1 x2 x5 y0) ∧
      (¬ (0 : Int32) ≤ x2 → wo_ty G4 x0 = 15 ∧ ∃ mc7 ms8 : Nat, ((c + mc2) + mc7) ≤ mc ∧ ((s + ms3) + ms8) ≤ ms ∧ pq_Md_freshResource E mc7 ms8 (fun v10 G9 => 
        pq_Md_change_194 E mc ms Post G9 ((c + mc2) + mc7) ((s + ms3) + ms8) x0 x1 v10 x5 y0) G4 x0 x1))) ∧
    (v5 = (0 : Int32) → Post (412 : Int32) G4))) G x0 x1 y0
set_option maxRecDepth 100000 in
def pq_Md_change_122 (E : wo_E) (mc ms : Nat) (Post : Int32 → wo_W → Prop) (G : wo_W) (c s : Nat) (x0 : Nat) (x1 : Int32) (x2 : Int32) (x3 : Int64) : Prop := (((lg_cmp x3 (97 : Int64)) < (0 : Int32) → pq_Md_change_138 E mc ms Post G c s) ∧
  (¬ (lg_cmp x3 (97 : Int64)) < (0 : Int32) → (((lg_cmp x3 (99 : Int64)) ≤ (0 : Int32) → (((0 : Int32) ≤ x2 → wo_ty G x0 = 15 ∧ ∀ r2 : Option Nat, r2 = wo_gr G 952 x0 → ∃ a4 : Nat, r2 = some a4 ∧ wo_ty G a4 = 66 ∧ vp_in (((3 : Int32) * x2) + (x3.toInt32 - (97 : Int32))) (wo_len G a4) ∧ pq_Md_change_168 E mc ms Post G c s x0 x1 x2 (x3.toInt32 - (97 : Int32)) (wo_ei G a4 (((3 : Int32) * x2) + (x3.toInt32 - (97 : Int32))).toNatClampNeg)) ∧
      (¬ (0 : Int32) ≤ x2 → pq_Md_change_168 E mc ms Post G c s x0 x1 x2 (x3.toInt32 - (97 : Int32)) (0 : Int32)))) ∧
    (¬ (lg_cmp x3 (99 : Int64)) ≤ (0 : Int32) → pq_Md_change_138 E mc ms Post G c s))))
set_option maxRecDepth 100000 in
def pq_Md_change_95 (E : wo_E) (mc ms : Nat) (Post : Int32 → wo_W → Prop) (G : wo_W) (c s : Nat) (x0 : Nat) (x1 : Int32) (x2 : Int32) (y0 : Int64) : Prop := wo_ty G x0 = 15 ∧ ∃ mc2 ms3 : Nat, (c + mc2) ≤ mc ∧ (s + ms3) ≤ ms ∧ pq_Md_has E mc2 ms3 (fun v5 G4 => 
  ((v5 = (0 : Int32) → pq_Md_change_122 E mc ms Post G4 (c + mc2) (s + ms3) x0 x1 x2 y0) ∧
    (¬ v5 = (0 : Int32) → wo_ty G4 x0 = 15 ∧ ∀ r7 : Option Nat, r7 = wo_gr G4 911 x0 → ∃ a9 : Nat, r7 = some a9 ∧ wo_ty G4 a9 = 66 ∧ vp_in (((8 : Int32) * x1) + (6 : Int32)) (wo_len G4 a9) ∧ ((¬ (wo_ei G4 a9 (((8 : Int32) * x1) + (6 : Int32)).toNatClampNeg) = (1 : Int32) → pq_Md_change_138 E mc ms Post G4 (c + mc2) (s + ms3)) ∧
      ((wo_ei G4 a9 (((8 : Int32) * x1) + (6 : Int32)).toNatClampNeg) = (1 : Int32) → pq_Md_change_122 E mc ms Post G4 (c + mc2) (s + ms3) x0 x1 x2 y0))))) G x0 x1 (6 : Int32)
set_option maxRecDepth 100000 in
def pq_Md_change_55 (E : wo_E) (mc ms : Nat) (Post : Int32 → wo_W → Prop) (G : wo_W) (c s : Nat) (y0 : Int32) : Prop := Post y0 G
set_option maxRecDepth 100000 in
def pq_Md_change_42 (E : wo_E) (mc ms : Nat) (Post : Int32 → wo_W → Prop) (G : wo_W) (c s : Nat) (x2 : Int32) : Prop := (((0 : Int32) ≤ x2 → pq_Md_change_55 E mc ms Post G c s (412 : Int32)) ∧
  (¬ (0 : Int32) ≤ x2 → pq_Md_change_55 E mc ms Post G c s (404 : Int32)))
set_option maxRecDepth 100000 in
def pq_Md_change_0 (E : wo_E) (mc ms : Nat) (Post : Int32 → wo_W → Prop) (G : wo_W) (c s : Nat) (x0 : Nat) (x1 : Int32) : Prop := wo_ty G x0 = 15 ∧ ∃ mc2 ms3 : Nat, (c + mc2) ≤ mc ∧ (s + ms3) ≤ ms ∧ pq_Md_resource E mc2 ms3 (fun v5 G4 => 
  wo_ty G4 x0 = 15 ∧ ∀ r7 : Option Nat, r7 = wo_gr G4 907 x0 → ∃ a9 : Nat, r7 = some a9 ∧ wo_ty G4 a9 = 66 ∧ vp_in x1 (wo_len G4 a9) ∧ ((¬ (wo_ei G4 a9 x1.toNatClampNeg) = (3 : Int32) → ∃ mc12 ms13 : Nat, ((c + mc2) + mc12) ≤ mc ∧ ((s + ms3) + ms13) ≤ ms ∧ pq_Md_has E mc12 ms13 (fun v15 G14 => 
      ((v15 = (0 : Int32) → pq_Md_change_95 E mc ms Post G14 ((c + mc2) + mc12) ((s + ms3) + ms13) x0 x1 v5 (97 : Int64)) ∧
        (¬ v15 = (0 : Int32) → wo_ty G14 x0 = 15 ∧ ∀ r17 : Option Nat, r17 = wo_gr G14 910 x0 → ∃ a19 : Nat, r17 = some a19 ∧ wo_ty G14 a19 = 73 ∧ vp_in (((8 : Int32) * x1) + (6 : Int32)) (wo_len G14 a19) ∧ pq_Md_change_95 E mc ms Post G14 ((c + mc2) + mc12) ((s + ms3) + ms13) x0 x1 v5 (wo_el G14 a19 (((8 : Int32) * x1) + (6 : Int32)).toNatClampNeg)))) G4 x0 x1 (6 : Int32)) ∧
    ((wo_ei G4 a9 x1.toNatClampNeg) = (3 : Int32) → ((v5 < (0 : Int32) → pq_Md_change_42 E mc ms Post G4 (c + mc2) (s + ms3) v5) ∧
      (¬ v5 < (0 : Int32) → ∀ r22 : Option Nat, r22 = wo_gr G4 952 x0 → ∃ mc24 ms25 : Nat, ((c + mc2) + mc24) ≤ mc ∧ ((s + ms3) + ms25) ≤ ms ∧ pq_Md_least E mc24 ms25 (fun v27 G26 => 
        ∃ a28 : Nat, r22 = some a28 ∧ wo_ty G26 a28 = 66 ∧ vp_in (((3 : Int32) * v5) + v27) (wo_len G26 a28) ∧ wo_ty G26 x0 = 15 ∧ ∃ mc32 ms33 : Nat, (((c + mc2) + mc24) + mc32) ≤ mc ∧ (((s + ms3) + ms25) + ms33) ≤ ms ∧ pq_Md_holds E mc32 ms33 (fun v35 G34 => 
          ((¬ v35 = (0 : Int32) → wo_ty G34 x0 = 15 ∧ ∀ r37 : Option Nat, r37 = wo_gr G34 945 x0 → ∃ a39 : Nat, r37 = some a39 ∧ wo_ty G34 a39 = 72 ∧ vp_in v5 (wo_len G34 a39) ∧ en_bs E ≤ a39 ∧ ∀ G43 : wo_W, G43 = wo_sei G34 a39 v5.toNatClampNeg (vp_nar .boolean (0 : Int32)) → 
              Post (204 : Int32) G43) ∧
            (v35 = (0 : Int32) → pq_Md_change_42 E mc ms Post G34 (((c + mc2) + mc24) + mc32) (((s + ms3) + ms25) + ms33) v5))) G26 x0 x1 (wo_ei G26 a28 (((3 : Int32) * v5) + v27).toNatClampNeg)) G4 x0 v5))))) G x0 x1
def pq_Md_change (E : wo_E) (mc ms : Nat) (Post : Int32 → wo_W → Prop) (G : wo_W) (x0 : Nat) (x1 : Int32) : Prop := pq_Md_change_0 E mc ms Post G 0 0 x0 x1
set_option maxRecDepth 100000 in
set_option maxHeartbeats 4000000 in
theorem tq_Md_change_138 {p : Program} {l : Launch} {e : Env} {R : Room} {s₀ : State} {m : MethodId} {args : Array Value} {below : List Frame} {meth : Method} {cd : Code} {E : wo_E} {mc ms : Nat} {Post : Int32 → wo_W → Prop} (hC : wo_Cx E "EdgeCacheModel" prog_14_method_41_code 8 4 98 ((Option.some Jvm.ClassFile.FieldType.int)) "change" mc ms p R s₀ m args meth cd) : ∀ {G : wo_W} {c s : Nat}, pq_Md_change_138 E mc ms Post G c s → ∀ {H : Heap} {locs : List Loc} {ls : Array Slot}, wo_Se E G H → va_S (en_A E) s₀.heap H locs → lx_has ls 8 [] → c ≤ mc → s ≤ ms → W p l e R s₀ m args below meth cd H locs c s (MQ below (va_Qi Post (wo_B E) (en_A E)) args s₀ mc ms (en_A E)) (F0 m 138 ls []) := by
  intro G c s hw H locs ls hG hS hl hcc hss
  dsimp only [pq_Md_change_138] at hw
  have hx := hC.1
  have hb := hC.2.1
  refine lv_sipush (v := (415 : Int32)) hx hb dq_Md_change_138 rfl ?_
  exact wo_iret hC hG hS hcc hss hw dq_Md_change_141
set_option maxRecDepth 100000 in
set_option maxHeartbeats 4000000 in
theorem tq_Md_change_386 {p : Program} {l : Launch} {e : Env} {R : Room} {s₀ : State} {m : MethodId} {args : Array Value} {below : List Frame} {meth : Method} {cd : Code} {E : wo_E} {mc ms : Nat} {Post : Int32 → wo_W → Prop} (hC : wo_Cx E "EdgeCacheModel" prog_14_method_41_code 8 4 98 ((Option.some Jvm.ClassFile.FieldType.int)) "change" mc ms p R s₀ m args meth cd) : ∀ {G : wo_W} {c s : Nat} {y0 : Int32}, pq_Md_change_386 E mc ms Post G c s y0 → ∀ {H : Heap} {locs : List Loc} {ls : Array Slot}, wo_Se E G H → va_S (en_A E) s₀.heap H locs → lx_has ls 8 [] → c ≤ mc → s ≤ ms → W p l e R s₀ m args below meth cd H locs c s (MQ below (va_Qi Post (wo_B E) (en_A E)) args s₀ mc ms (en_A E)) (F0 m 386 ls [.int y0]) := by
  intro G c s y0 hw H locs ls hG hS hl hcc hss
  dsimp only [pq_Md_change_386] at hw
  have hx := hC.1
  have hb := hC.2.1
  exact wo_iret hC hG hS hcc hss hw dq_Md_change_386
set_option maxRecDepth 100000 in
set_option maxHeartbeats 4000000 in
theorem tq_Md_change_358 {p : Program} {l : Launch} {e : Env} {R : Room} {s₀ : State} {m : MethodId} {args : Array Value} {below : List Frame} {meth : Method} {cd : Code} {E : wo_E} {mc ms : Nat} {Post : Int32 → wo_W → Prop} (hC : wo_Cx E "EdgeCacheModel" prog_14_method_41_code 8 4 98 ((Option.some Jvm.ClassFile.FieldType.int)) "change" mc ms p R s₀ m args meth cd) : ∀ {G : wo_W} {c s : Nat} {x0 : Nat} {x1 : Int32} {x6 : Int32} {x7 : Int32} {y0 : Option Nat} {y1 : Int32} {y2 : Int32}, pq_Md_change_358 E mc ms Post G c s x0 x1 x6 x7 y0 y1 y2 → ∀ {H : Heap} {locs : List Loc} {ls : Array Slot}, wo_Se E G H → va_S (en_A E) s₀.heap H locs → lx_has ls 8 [(0, 1, .ref x0), (1, 1, .int x1), (6, 1, .int x6), (7, 1, .int x7)] → c ≤ mc → s ≤ ms → W p l e R s₀ m args below meth cd H locs c s (MQ below (va_Qi Post (wo_B E) (en_A E)) args s₀ mc ms (en_A E)) (F0 m 358 ls [.int y2, .int y1, va_rf y0]) := by
  intro G c s x0 x1 x6 x7 y0 y1 y2 hw H locs ls hG hS hl hcc hss
  dsimp only [pq_Md_change_358] at hw
  have hx := hC.1
  have hb := hC.2.1
  obtain ⟨a1, rfl, hw⟩ := hw
  obtain ⟨t2, hw⟩ := hw
  obtain ⟨h3, hw⟩ := hw
  obtain ⟨h4, hw⟩ := hw
  refine wo_iast (j := 2) hC rfl hG hS t2 h3 h4 dq_Md_change_358 (fun G5 H locs e6 hG hS => ?_)
  replace hw := hw G5 e6
  refine lv_aload_n hx hb dq_Md_change_359 rfl (lx_at hl 0 rfl) ?_
  obtain ⟨t7, hw⟩ := hw
  refine wo_getR hC fq_Md_96 rfl hG t7 dq_Md_change_360 (fun r8 e9 => ?_)
  replace hw := hw r8 e9
  refine lv_iload_n hx hb dq_Md_change_363 rfl (lx_at hl 1 rfl) ?_
  refine lv_aload_n hx hb dq_Md_change_364 rfl (lx_at hl 0 rfl) ?_
  refine wo_getR hC fq_Md_165 rfl hG t7 dq_Md_change_365 (fun r10 e11 => ?_)
  replace hw := hw r10 e11
  refine lv_iload hx hb dq_Md_change_368 (lx_at hl 3 rfl) ?_
  obtain ⟨a12, rfl, hw⟩ := hw
  obtain ⟨t13, hw⟩ := hw
  obtain ⟨h14, hw⟩ := hw
  refine wo_iald (j := 2) hC rfl hG t13 h14 dq_Md_change_370 ?_
  obtain ⟨a15, rfl, hw⟩ := hw
  obtain ⟨t16, hw⟩ := hw
  obtain ⟨h17, hw⟩ := hw
  obtain ⟨h18, hw⟩ := hw
  refine wo_iast (j := 2) hC rfl hG hS t16 h17 h18 dq_Md_change_371 (fun G19 H locs e20 hG hS => ?_)
  replace hw := hw G19 e20
  refine lv_iload hx hb dq_Md_change_372 (lx_at hl 2 rfl) ?_
  refine lv_if_ne (tgt := 383) hx hb dq_Md_change_374 rfl (fun h => ?_) (fun h => ?_)
  · replace hw := hw.1 h
    refine lv_sipush (v := (204 : Int32)) hx hb dq_Md_change_383 rfl ?_
    exact tq_Md_change_386 hC hw hG hS (lx_sub hl [] rfl) hcc hss
  · replace hw := hw.2 h
    refine lv_sipush (v := (201 : Int32)) hx hb dq_Md_change_377 rfl ?_
    refine lv_goto (tgt := 386) hx hb dq_Md_change_380 rfl ?_
    exact tq_Md_change_386 hC hw hG hS (lx_sub hl [] rfl) hcc hss
set_option maxRecDepth 100000 in
set_option maxHeartbeats 4000000 in
theorem tq_Md_change_326 {p : Program} {l : Launch} {e : Env} {R : Room} {s₀ : State} {m : MethodId} {args : Array Value} {below : List Frame} {meth : Method} {cd : Code} {E : wo_E} {mc ms : Nat} {Post : Int32 → wo_W → Prop} (hC : wo_Cx E "EdgeCacheModel" prog_14_method_41_code 8 4 98 ((Option.some Jvm.ClassFile.FieldType.int)) "change" mc ms p R s₀ m args meth cd) : ∀ {G : wo_W} {c s : Nat} {x0 : Nat} {x1 : Int32} {x2 : Int32} {x6 : Int32} {x7 : Int32} {y0 : Option Nat} {y1 : Int32} {y2 : Int64}, pq_Md_change_326 E mc ms Post G c s x0 x1 x2 x6 x7 y0 y1 y2 → ∀ {H : Heap} {locs : List Loc} {ls : Array Slot}, wo_Se E G H → va_S (en_A E) s₀.heap H locs → lx_has ls 8 [(0, 1, .ref x0), (1, 1, .int x1), (2, 1, .int x2), (6, 1, .int x6), (7, 1, .int x7)] → c ≤ mc → s ≤ ms → W p l e R s₀ m args below meth cd H locs c s (MQ below (va_Qi Post (wo_B E) (en_A E)) args s₀ mc ms (en_A E)) (F0 m 326 ls [.long y2, .int y1, va_rf y0]) := by
  intro G c s x0 x1 x2 x6 x7 y0 y1 y2 hw H locs ls hG hS hl hcc hss
  dsimp only [pq_Md_change_326] at hw
  have hx := hC.1
  have hb := hC.2.1
  obtain ⟨a1, rfl, hw⟩ := hw
  obtain ⟨t2, hw⟩ := hw
  obtain ⟨h3, hw⟩ := hw
  obtain ⟨h4, hw⟩ := hw
  refine wo_last (j := 9) hC rfl hG hS t2 h3 h4 dq_Md_change_326 (fun G5 H locs e6 hG hS => ?_)
  replace hw := hw G5 e6
  refine lv_aload_n hx hb dq_Md_change_327 rfl (lx_at hl 0 rfl) ?_
  obtain ⟨t7, hw⟩ := hw
  refine wo_getR hC fq_Md_156 rfl hG t7 dq_Md_change_328 (fun r8 e9 => ?_)
  replace hw := hw r8 e9
  refine lv_iload_n hx hb dq_Md_change_331 rfl (lx_at hl 2 rfl) ?_
  refine lv_aload_n hx hb dq_Md_change_332 rfl (lx_at hl 0 rfl) ?_
  refine lv_iload_n hx hb dq_Md_change_333 rfl (lx_at hl 1 rfl) ?_
  refine lv_bipush (v := (7 : Int32)) hx hb dq_Md_change_334 rfl ?_
  obtain ⟨mc10, ms11, hc1, hs1, hw⟩ := hw
  refine va_calli (wo_runV hC lq_Md_258 (mq_Md_has hw) hG hS t7 rfl (lx_sz hl) rfl (lx_rm (Nat.le_of_ble_eq_true rfl)) (by decide) dq_Md_change_336 ⟨hc1, hs1⟩) hS (fun _ _ h => h) (fun _ h => h) (fun v13 G12 t H locs ht hvm hw' hB _ _ hS => ?_)
  clear hw
  have hw := hw'
  clear hw'
  replace hG := wo_bk ht hB
  replace hcc := hc1
  replace hss := hs1
  refine lv_if_eq (tgt := 357) hx hb dq_Md_change_339 rfl (fun h => ?_) (fun h => ?_)
  · replace hw := hw.1 h
    refine lv_iconst (v := (0 : Int32)) hx hb dq_Md_change_357 rfl ?_
    exact tq_Md_change_358 hC hw hG hS (lx_sub hl [0, 1, 3, 4] rfl) hcc hss
  · replace hw := hw.2 h
    refine lv_aload_n hx hb dq_Md_change_342 rfl (lx_at hl 0 rfl) ?_
    obtain ⟨t14, hw⟩ := hw
    refine wo_getR hC fq_Md_54 rfl hG t14 dq_Md_change_343 (fun r15 e16 => ?_)
    replace hw := hw r15 e16
    refine lv_bipush (v := (8 : Int32)) hx hb dq_Md_change_346 rfl ?_
    refine lv_iload_n hx hb dq_Md_change_348 rfl (lx_at hl 1 rfl) ?_
    refine lv_imul hx hb dq_Md_change_349 ?_
    refine lv_bipush (v := (7 : Int32)) hx hb dq_Md_change_350 rfl ?_
    refine lv_iadd hx hb dq_Md_change_352 ?_
    obtain ⟨a17, rfl, hw⟩ := hw
    obtain ⟨t18, hw⟩ := hw
    obtain ⟨h19, hw⟩ := hw
    refine wo_iald (j := 2) hC rfl hG t18 h19 dq_Md_change_353 ?_
    refine lv_goto (tgt := 358) hx hb dq_Md_change_354 rfl ?_
    exact tq_Md_change_358 hC hw hG hS (lx_sub hl [0, 1, 3, 4] rfl) hcc hss
set_option maxRecDepth 100000 in
set_option maxHeartbeats 4000000 in
theorem tq_Md_change_269 {p : Program} {l : Launch} {e : Env} {R : Room} {s₀ : State} {m : MethodId} {args : Array Value} {below : List Frame} {meth : Method} {cd : Code} {E : wo_E} {mc ms : Nat} {Post : Int32 → wo_W → Prop} (hC : wo_Cx E "EdgeCacheModel" prog_14_method_41_code 8 4 98 ((Option.some Jvm.ClassFile.FieldType.int)) "change" mc ms p R s₀ m args meth cd) : ∀ {G : wo_W} {c s : Nat} {x0 : Nat} {x1 : Int32} {x2 : Int32} {x6 : Int32} {x7 : Int32}, pq_Md_change_269 E mc ms Post G c s x0 x1 x2 x6 x7 → ∀ {H : Heap} {locs : List Loc} {ls : Array Slot}, wo_Se E G H → va_S (en_A E) s₀.heap H locs → lx_has ls 8 [(0, 1, .ref x0), (1, 1, .int x1), (2, 1, .int x2), (6, 1, .int x6), (7, 1, .int x7)] → c ≤ mc → s ≤ ms → W p l e R s₀ m args below meth cd H locs c s (MQ below (va_Qi Post (wo_B E) (en_A E)) args s₀ mc ms (en_A E)) (F0 m 269 ls []) := by
  intro G c s x0 x1 x2 x6 x7 hw H locs ls hG hS hl hcc hss
  dsimp only [pq_Md_change_269] at hw
  have hx := hC.1
  have hb := hC.2.1
  refine lv_aload_n hx hb dq_Md_change_269 rfl (lx_at hl 0 rfl) ?_
  obtain ⟨t1, hw⟩ := hw
  refine wo_getR hC fq_Md_159 rfl hG t1 dq_Md_change_270 (fun r2 e3 => ?_)
  replace hw := hw r2 e3
  refine lv_iload hx hb dq_Md_change_273 (lx_at hl 4 rfl) ?_
  refine lv_aload_n hx hb dq_Md_change_275 rfl (lx_at hl 0 rfl) ?_
  refine wo_getR hC fq_Md_57 rfl hG t1 dq_Md_change_276 (fun r4 e5 => ?_)
  replace hw := hw r4 e5
  refine lv_iload_n hx hb dq_Md_change_279 rfl (lx_at hl 1 rfl) ?_
  obtain ⟨a6, rfl, hw⟩ := hw
  obtain ⟨t7, hw⟩ := hw
  obtain ⟨h8, hw⟩ := hw
  refine wo_lald (j := 9) hC rfl hG t7 h8 dq_Md_change_280 ?_
  obtain ⟨a9, rfl, hw⟩ := hw
  obtain ⟨t10, hw⟩ := hw
  obtain ⟨h11, hw⟩ := hw
  obtain ⟨h12, hw⟩ := hw
  refine wo_last (j := 9) hC rfl hG hS t10 h11 h12 dq_Md_change_281 (fun G13 H locs e14 hG hS => ?_)
  replace hw := hw G13 e14
  refine lv_aload_n hx hb dq_Md_change_282 rfl (lx_at hl 0 rfl) ?_
  refine wo_getR hC fq_Md_162 rfl hG (ty_sel e14 t1) dq_Md_change_283 (fun r15 e16 => ?_)
  replace hw := hw r15 e16
  refine lv_iload hx hb dq_Md_change_286 (lx_at hl 4 rfl) ?_
  refine lv_aload_n hx hb dq_Md_change_288 rfl (lx_at hl 0 rfl) ?_
  refine wo_getR hC fq_Md_60 rfl hG (ty_sel e14 t1) dq_Md_change_289 (fun r17 e18 => ?_)
  replace hw := hw r17 e18
  refine lv_iload_n hx hb dq_Md_change_292 rfl (lx_at hl 1 rfl) ?_
  obtain ⟨a19, rfl, hw⟩ := hw
  obtain ⟨t20, hw⟩ := hw
  obtain ⟨h21, hw⟩ := hw
  refine wo_iald (j := 2) hC rfl hG t20 h21 dq_Md_change_293 ?_
  obtain ⟨a22, rfl, hw⟩ := hw
  obtain ⟨t23, hw⟩ := hw
  obtain ⟨h24, hw⟩ := hw
  obtain ⟨h25, hw⟩ := hw
  refine wo_iast (j := 2) hC rfl hG hS t23 h24 h25 dq_Md_change_294 (fun G26 H locs e27 hG hS => ?_)
  replace hw := hw G26 e27
  refine lv_aload_n hx hb dq_Md_change_295 rfl (lx_at hl 0 rfl) ?_
  refine wo_getR hC fq_Md_153 rfl hG (ty_sei e27 (ty_sel e14 t1)) dq_Md_change_296 (fun r28 e29 => ?_)
  replace hw := hw r28 e29
  refine lv_iload_n hx hb dq_Md_change_299 rfl (lx_at hl 2 rfl) ?_
  refine lv_aload_n hx hb dq_Md_change_300 rfl (lx_at hl 0 rfl) ?_
  refine lv_iload_n hx hb dq_Md_change_301 rfl (lx_at hl 1 rfl) ?_
  refine lv_bipush (v := (7 : Int32)) hx hb dq_Md_change_302 rfl ?_
  obtain ⟨mc30, ms31, hc1, hs1, hw⟩ := hw
  refine va_calli (wo_runV hC lq_Md_258 (mq_Md_has hw) hG hS (ty_sei e27 (ty_sel e14 t1)) rfl (lx_sz hl) rfl (lx_rm (Nat.le_of_ble_eq_true rfl)) (by decide) dq_Md_change_304 ⟨hc1, hs1⟩) hS (fun _ _ h => h) (fun _ h => h) (fun v33 G32 t H locs ht hvm hw' hB _ _ hS => ?_)
  clear hw
  have hw := hw'
  clear hw'
  replace hG := wo_bk ht hB
  replace hcc := hc1
  replace hss := hs1
  refine lv_if_eq (tgt := 325) hx hb dq_Md_change_307 rfl (fun h => ?_) (fun h => ?_)
  · replace hw := hw.1 h
    refine lv_lconst (v := (0 : Int64)) hx hb dq_Md_change_325 rfl ?_
    exact tq_Md_change_326 hC hw hG hS (lx_sub hl [0, 1, 2, 3, 4] rfl) hcc hss
  · replace hw := hw.2 h
    refine lv_aload_n hx hb dq_Md_change_310 rfl (lx_at hl 0 rfl) ?_
    obtain ⟨t34, hw⟩ := hw
    refine wo_getR hC fq_Md_51 rfl hG t34 dq_Md_change_311 (fun r35 e36 => ?_)
    replace hw := hw r35 e36
    refine lv_bipush (v := (8 : Int32)) hx hb dq_Md_change_314 rfl ?_
    refine lv_iload_n hx hb dq_Md_change_316 rfl (lx_at hl 1 rfl) ?_
    refine lv_imul hx hb dq_Md_change_317 ?_
    refine lv_bipush (v := (7 : Int32)) hx hb dq_Md_change_318 rfl ?_
    refine lv_iadd hx hb dq_Md_change_320 ?_
    obtain ⟨a37, rfl, hw⟩ := hw
    obtain ⟨t38, hw⟩ := hw
    obtain ⟨h39, hw⟩ := hw
    refine wo_lald (j := 9) hC rfl hG t38 h39 dq_Md_change_321 ?_
    refine lv_goto (tgt := 326) hx hb dq_Md_change_322 rfl ?_
    exact tq_Md_change_326 hC hw hG hS (lx_sub hl [0, 1, 2, 3, 4] rfl) hcc hss
set_option maxRecDepth 100000 in
set_option maxHeartbeats 4000000 in
theorem tq_Md_change_248 {p : Program} {l : Launch} {e : Env} {R : Room} {s₀ : State} {m : MethodId} {args : Array Value} {below : List Frame} {meth : Method} {cd : Code} {E : wo_E} {mc ms : Nat} {Post : Int32 → wo_W → Prop} (hC : wo_Cx E "EdgeCacheModel" prog_14_method_41_code 8 4 98 ((Option.some Jvm.ClassFile.FieldType.int)) "change" mc ms p R s₀ m args meth cd) : ∀ {G : wo_W} {c s : Nat} {x0 : Nat} {x1 : Int32} {x2 : Int32} {x6 : Int32} {x7 : Int32}, pq_Md_change_248 E mc ms Post G c s x0 x1 x2 x6 x7 → ∀ {H : Heap} {locs : List Loc} {ls : Array Slot}, wo_Se E G H → va_S (en_A E) s₀.heap H locs → lx_has ls 8 [(0, 1, .ref x0), (1, 1, .int x1), (2, 1, .int x2), (6, 1, .int x6), (7, 1, .int x7)] → c ≤ mc → s ≤ ms → W p l e R s₀ m args below meth cd H locs c s (MQ below (va_Qi Post (wo_B E) (en_A E)) args s₀ mc ms (en_A E)) (F0 m 248 ls []) := by
  intro G c s x0 x1 x2 x6 x7 hw H locs ls hG hS hl hcc hss
  dsimp only [pq_Md_change_248] at hw
  have hx := hC.1
  have hb := hC.2.1
  refine lv_aload_n hx hb dq_Md_change_248 rfl (lx_at hl 0 rfl) ?_
  refine lv_dup hx hb dq_Md_change_249 rfl ?_
  obtain ⟨t1, hw⟩ := hw
  refine wo_getI hC fq_Md_331 rfl hG t1 dq_Md_change_250 ?_
  refine lv_iconst (v := (1 : Int32)) hx hb dq_Md_change_253 rfl ?_
  refine lv_iadd hx hb dq_Md_change_254 ?_
  obtain ⟨h2, hw⟩ := hw
  refine wo_putI hC fq_Md_331 (Or.inl rfl) rfl (wo_ok_int _) hG hS t1 h2 dq_Md_change_255 (fun G3 H locs e4 hG hS => ?_)
  replace hw := hw G3 e4
  refine lv_aload_n hx hb dq_Md_change_258 rfl (lx_at hl 0 rfl) ?_
  refine wo_getR hC fq_Md_165 rfl hG (ty_si e4 t1) dq_Md_change_259 (fun r5 e6 => ?_)
  replace hw := hw r5 e6
  refine lv_iload hx hb dq_Md_change_262 (lx_at hl 4 rfl) ?_
  refine lv_aload_n hx hb dq_Md_change_264 rfl (lx_at hl 0 rfl) ?_
  refine wo_getI hC fq_Md_331 rfl hG (ty_si e4 t1) dq_Md_change_265 ?_
  obtain ⟨a7, rfl, hw⟩ := hw
  obtain ⟨t8, hw⟩ := hw
  obtain ⟨h9, hw⟩ := hw
  obtain ⟨h10, hw⟩ := hw
  refine wo_iast (j := 2) hC rfl hG hS t8 h9 h10 dq_Md_change_268 (fun G11 H locs e12 hG hS => ?_)
  replace hw := hw G11 e12
  exact tq_Md_change_269 hC hw hG hS (lx_sub hl [0, 1, 2, 3, 4] rfl) hcc hss
set_option maxRecDepth 100000 in
set_option maxHeartbeats 4000000 in
theorem tq_Md_change_194 {p : Program} {l : Launch} {e : Env} {R : Room} {s₀ : State} {m : MethodId} {args : Array Value} {below : List Frame} {meth : Method} {cd : Code} {E : wo_E} {mc ms : Nat} {Post : Int32 → wo_W → Prop} (hC : wo_Cx E "EdgeCacheModel" prog_14_method_41_code 8 4 98 ((Option.some Jvm.ClassFile.FieldType.int)) "change" mc ms p R s₀ m args meth cd) : ∀ {G : wo_W} {c s : Nat} {x0 : Nat} {x1 : Int32} {x2 : Int32} {x5 : Int32} {x6 : Int32}, pq_Md_change_194 E mc ms Post G c s x0 x1 x2 x5 x6 → ∀ {H : Heap} {locs : List Loc} {ls : Array Slot}, wo_Se E G H → va_S (en_A E) s₀.heap H locs → lx_has ls 8 [(0, 1, .ref x0), (1, 1, .int x1), (2, 1, .int x2), (5, 1, .int x5), (6, 1, .int x6)] → c ≤ mc → s ≤ ms → W p l e R s₀ m args below meth cd H locs c s (MQ below (va_Qi Post (wo_B E) (en_A E)) args s₀ mc ms (en_A E)) (F0 m 194 ls []) := by
  intro G c s x0 x1 x2 x5 x6 hw H locs ls hG hS hl hcc hss
  dsimp only [pq_Md_change_194] at hw
  have hx := hC.1
  have hb := hC.2.1
  refine lv_iload_n hx hb dq_Md_change_194 rfl (lx_at hl 2 rfl) ?_
  refine lv_if_ge (tgt := 202) hx hb dq_Md_change_195 rfl (fun h => ?_) (fun h => ?_)
  · replace hw := hw.1 h
    refine lv_iconst (v := (3 : Int32)) hx hb dq_Md_change_202 rfl ?_
    refine lv_iload_n hx hb dq_Md_change_203 rfl (lx_at hl 2 rfl) ?_
    refine lv_imul hx hb dq_Md_change_204 ?_
    refine lv_iload hx hb dq_Md_change_205 (lx_at hl 3 rfl) ?_
    refine lv_iadd hx hb dq_Md_change_207 ?_
    refine lx_istore (lv' := [(7, 1, .int (((3 : Int32) * x2) + x5)), (0, 1, .ref x0), (1, 1, .int x1), (2, 1, .int x2), (5, 1, .int x5), (6, 1, .int x6)]) hx hb dq_Md_change_208 hl (by decide) rfl (fun ls hl' => ?_)
    clear hl
    have hl := hl'
    clear hl'
    refine lv_iload hx hb dq_Md_change_210 (lx_at hl 5 rfl) ?_
    refine lv_if_eq (tgt := 248) hx hb dq_Md_change_212 rfl (fun h => ?_) (fun h => ?_)
    · replace hw := hw.1 h
      exact tq_Md_change_248 hC hw hG hS (lx_sub hl [1, 2, 3, 5, 0] rfl) hcc hss
    · replace hw := hw.2 h
      refine lv_aload_n hx hb dq_Md_change_215 rfl (lx_at hl 1 rfl) ?_
      obtain ⟨t1, hw⟩ := hw
      refine wo_getR hC fq_Md_159 rfl hG t1 dq_Md_change_216 (fun r2 e3 => ?_)
      replace hw := hw r2 e3
      refine lv_iload hx hb dq_Md_change_219 (lx_at hl 0 rfl) ?_
      obtain ⟨a4, rfl, hw⟩ := hw
      obtain ⟨t5, hw⟩ := hw
      obtain ⟨h6, hw⟩ := hw
      refine wo_lald (j := 9) hC rfl hG t5 h6 dq_Md_change_221 ?_
      refine lv_aload_n hx hb dq_Md_change_222 rfl (lx_at hl 1 rfl) ?_
      refine wo_getR hC fq_Md_57 rfl hG t1 dq_Md_change_223 (fun r7 e8 => ?_)
      replace hw := hw r7 e8
      refine lv_iload_n hx hb dq_Md_change_226 rfl (lx_at hl 2 rfl) ?_
      obtain ⟨a9, rfl, hw⟩ := hw
      obtain ⟨t10, hw⟩ := hw
      obtain ⟨h11, hw⟩ := hw
      refine wo_lald (j := 9) hC rfl hG t10 h11 dq_Md_change_227 ?_
      refine W.lcmp hx hb dq_Md_change_228 ?_
      refine lv_if_ne (tgt := 248) hx hb dq_Md_change_229 rfl (fun h => ?_) (fun h => ?_)
      · replace hw := hw.1 h
        exact tq_Md_change_248 hC hw hG hS (lx_sub hl [1, 2, 3, 5, 0] rfl) hcc hss
      · replace hw := hw.2 h
        refine lv_aload_n hx hb dq_Md_change_232 rfl (lx_at hl 1 rfl) ?_
        refine wo_getR hC fq_Md_162 rfl hG t1 dq_Md_change_233 (fun r12 e13 => ?_)
        replace hw := hw r12 e13
        refine lv_iload hx hb dq_Md_change_236 (lx_at hl 0 rfl) ?_
        obtain ⟨a14, rfl, hw⟩ := hw
        obtain ⟨t15, hw⟩ := hw
        obtain ⟨h16, hw⟩ := hw
        refine wo_iald (j := 2) hC rfl hG t15 h16 dq_Md_change_238 ?_
        refine lv_aload_n hx hb dq_Md_change_239 rfl (lx_at hl 1 rfl) ?_
        refine wo_getR hC fq_Md_60 rfl hG t1 dq_Md_change_240 (fun r17 e18 => ?_)
        replace hw := hw r17 e18
        refine lv_iload_n hx hb dq_Md_change_243 rfl (lx_at hl 2 rfl) ?_
        obtain ⟨a19, rfl, hw⟩ := hw
        obtain ⟨t20, hw⟩ := hw
        obtain ⟨h21, hw⟩ := hw
        refine wo_iald (j := 2) hC rfl hG t20 h21 dq_Md_change_244 ?_
        refine lv_icmp_eq (tgt := 269) hx hb dq_Md_change_245 rfl (fun h => ?_) (fun h => ?_)
        · replace hw := hw.1 h
          exact tq_Md_change_269 hC hw hG hS (lx_sub hl [1, 2, 3, 5, 0] rfl) hcc hss
        · replace hw := hw.2 h
          exact tq_Md_change_248 hC hw hG hS (lx_sub hl [1, 2, 3, 5, 0] rfl) hcc hss
  · replace hw := hw.2 h
    refine lv_sipush (v := (507 : Int32)) hx hb dq_Md_change_198 rfl ?_
    exact wo_iret hC hG hS hcc hss hw dq_Md_change_201
set_option maxRecDepth 100000 in
set_option maxHeartbeats 4000000 in
theorem tq_Md_change_168 {p : Program} {l : Launch} {e : Env} {R : Room} {s₀ : State} {m : MethodId} {args : Array Value} {below : List Frame} {meth : Method} {cd : Code} {E : wo_E} {mc ms : Nat} {Post : Int32 → wo_W → Prop} (hC : wo_Cx E "EdgeCacheModel" prog_14_method_41_code 8 4 98 ((Option.some Jvm.ClassFile.FieldType.int)) "change" mc ms p R s₀ m args meth cd) : ∀ {G : wo_W} {c s : Nat} {x0 : Nat} {x1 : Int32} {x2 : Int32} {x5 : Int32} {y0 : Int32}, pq_Md_change_168 E mc ms Post G c s x0 x1 x2 x5 y0 → ∀ {H : Heap} {locs : List Loc} {ls : Array Slot}, wo_Se E G H → va_S (en_A E) s₀.heap H locs → lx_has ls 8 [(0, 1, .ref x0), (1, 1, .int x1), (2, 1, .int x2), (5, 1, .int x5)] → c ≤ mc → s ≤ ms → W p l e R s₀ m args below meth cd H locs c s (MQ below (va_Qi Post (wo_B E) (en_A E)) args s₀ mc ms (en_A E)) (F0 m 168 ls [.int y0]) := by
  intro G c s x0 x1 x2 x5 y0 hw H locs ls hG hS hl hcc hss
  dsimp only [pq_Md_change_168] at hw
  have hx := hC.1
  have hb := hC.2.1
  refine lx_istore (lv' := [(6, 1, .int y0), (0, 1, .ref x0), (1, 1, .int x1), (2, 1, .int x2), (5, 1, .int x5)]) hx hb dq_Md_change_168 hl (by decide) rfl (fun ls hl' => ?_)
  clear hl
  have hl := hl'
  clear hl'
  refine lv_aload_n hx hb dq_Md_change_170 rfl (lx_at hl 1 rfl) ?_
  refine lv_iload_n hx hb dq_Md_change_171 rfl (lx_at hl 2 rfl) ?_
  refine lv_iload hx hb dq_Md_change_172 (lx_at hl 0 rfl) ?_
  obtain ⟨t1, hw⟩ := hw
  obtain ⟨mc2, ms3, hc1, hs1, hw⟩ := hw
  refine va_calli (wo_runV hC lq_Md_323 (mq_Md_holds hw) hG hS t1 rfl (lx_sz hl) rfl (Nat.zero_le _) (by decide) dq_Md_change_174 ⟨hc1, hs1⟩) hS (fun _ _ h => h) (fun _ h => h) (fun v5 G4 t H locs ht hvm hw' hB _ _ hS => ?_)
  clear hw
  have hw := hw'
  clear hw'
  replace hG := wo_bk ht hB
  replace hcc := hc1
  replace hss := hs1
  refine lv_if_ne (tgt := 184) hx hb dq_Md_change_177 rfl (fun h => ?_) (fun h => ?_)
  · replace hw := hw.1 h
    refine lv_iload_n hx hb dq_Md_change_184 rfl (lx_at hl 3 rfl) ?_
    refine lv_if_ge (tgt := 194) hx hb dq_Md_change_185 rfl (fun h => ?_) (fun h => ?_)
    · replace hw := hw.1 h
      exact tq_Md_change_194 hC hw hG hS (lx_sub hl [1, 2, 3, 4, 0] rfl) hcc hss
    · replace hw := hw.2 h
      refine lv_aload_n hx hb dq_Md_change_188 rfl (lx_at hl 1 rfl) ?_
      refine lv_iload_n hx hb dq_Md_change_189 rfl (lx_at hl 2 rfl) ?_
      obtain ⟨t6, hw⟩ := hw
      obtain ⟨mc7, ms8, hc1, hs1, hw⟩ := hw
      refine va_calli (wo_runV hC lq_Md_328 (mq_Md_freshResource hw) hG hS t6 rfl (lx_sz hl) rfl (Nat.zero_le _) (by decide) dq_Md_change_190 ⟨hc1, hs1⟩) hS (fun _ _ h => h) (fun _ h => h) (fun v10 G9 t H locs ht hvm hw' hB _ _ hS => ?_)
      clear hw
      have hw := hw'
      clear hw'
      replace hG := wo_bk ht hB
      replace hcc := hc1
      replace hss := hs1
      refine lx_istore_n (lv' := [(2, 1, .int v10), (6, 1, .int y0), (0, 1, .ref x0), (1, 1, .int x1), (5, 1, .int x5)]) hx hb dq_Md_change_193 rfl hl (by decide) rfl (fun ls hl' => ?_)
      clear hl
      have hl := hl'
      clear hl'
      exact tq_Md_change_194 hC hw hG hS (lx_sub hl [2, 3, 0, 4, 1] rfl) hcc hss
  · replace hw := hw.2 h
    refine lv_sipush (v := (412 : Int32)) hx hb dq_Md_change_180 rfl ?_
    exact wo_iret hC hG hS hcc hss hw dq_Md_change_183
set_option maxRecDepth 100000 in
set_option maxHeartbeats 4000000 in
theorem tq_Md_change_122 {p : Program} {l : Launch} {e : Env} {R : Room} {s₀ : State} {m : MethodId} {args : Array Value} {below : List Frame} {meth : Method} {cd : Code} {E : wo_E} {mc ms : Nat} {Post : Int32 → wo_W → Prop} (hC : wo_Cx E "EdgeCacheModel" prog_14_method_41_code 8 4 98 ((Option.some Jvm.ClassFile.FieldType.int)) "change" mc ms p R s₀ m args meth cd) : ∀ {G : wo_W} {c s : Nat} {x0 : Nat} {x1 : Int32} {x2 : Int32} {x3 : Int64}, pq_Md_change_122 E mc ms Post G c s x0 x1 x2 x3 → ∀ {H : Heap} {locs : List Loc} {ls : Array Slot}, wo_Se E G H → va_S (en_A E) s₀.heap H locs → lx_has ls 8 [(0, 1, .ref x0), (1, 1, .int x1), (2, 1, .int x2), (3, 2, .long x3)] → c ≤ mc → s ≤ ms → W p l e R s₀ m args below meth cd H locs c s (MQ below (va_Qi Post (wo_B E) (en_A E)) args s₀ mc ms (en_A E)) (F0 m 122 ls []) := by
  intro G c s x0 x1 x2 x3 hw H locs ls hG hS hl hcc hss
  dsimp only [pq_Md_change_122] at hw
  have hx := hC.1
  have hb := hC.2.1
  refine lv_lload_n hx hb dq_Md_change_122 rfl (lx_at hl 3 rfl) ?_
  refine lv_ldc2 hx hb hC.2.2.2.2.2.1 (hC.2.2.2.2.2.2.1 _ cq_Md_326) dq_Md_change_123 ?_
  refine W.lcmp hx hb dq_Md_change_126 ?_
  refine lv_if_lt (tgt := 138) hx hb dq_Md_change_127 rfl (fun h => ?_) (fun h => ?_)
  · replace hw := hw.1 h
    exact tq_Md_change_138 hC hw hG hS (lx_sub hl [] rfl) hcc hss
  · replace hw := hw.2 h
    refine lv_lload_n hx hb dq_Md_change_130 rfl (lx_at hl 3 rfl) ?_
    refine lv_ldc2 hx hb hC.2.2.2.2.2.1 (hC.2.2.2.2.2.2.1 _ cq_Md_252) dq_Md_change_131 ?_
    refine W.lcmp hx hb dq_Md_change_134 ?_
    refine lv_if_le (tgt := 142) hx hb dq_Md_change_135 rfl (fun h => ?_) (fun h => ?_)
    · replace hw := hw.1 h
      refine lv_lload_n hx hb dq_Md_change_142 rfl (lx_at hl 3 rfl) ?_
      refine lv_l2i (v := x3.toInt32) hx hb dq_Md_change_143 rfl ?_
      refine lv_bipush (v := (97 : Int32)) hx hb dq_Md_change_144 rfl ?_
      refine lv_isub hx hb dq_Md_change_146 ?_
      refine lx_istore (lv' := [(5, 1, .int (x3.toInt32 - (97 : Int32))), (0, 1, .ref x0), (1, 1, .int x1), (2, 1, .int x2), (3, 2, .long x3)]) hx hb dq_Md_change_147 hl (by decide) rfl (fun ls hl' => ?_)
      clear hl
      have hl := hl'
      clear hl'
      refine lv_iload_n hx hb dq_Md_change_149 rfl (lx_at hl 3 rfl) ?_
      refine lv_if_ge (tgt := 157) hx hb dq_Md_change_150 rfl (fun h => ?_) (fun h => ?_)
      · replace hw := hw.1 h
        refine lv_aload_n hx hb dq_Md_change_157 rfl (lx_at hl 1 rfl) ?_
        obtain ⟨t1, hw⟩ := hw
        refine wo_getR hC fq_Md_165 rfl hG t1 dq_Md_change_158 (fun r2 e3 => ?_)
        replace hw := hw r2 e3
        refine lv_iconst (v := (3 : Int32)) hx hb dq_Md_change_161 rfl ?_
        refine lv_iload_n hx hb dq_Md_change_162 rfl (lx_at hl 3 rfl) ?_
        refine lv_imul hx hb dq_Md_change_163 ?_
        refine lv_iload hx hb dq_Md_change_164 (lx_at hl 0 rfl) ?_
        refine lv_iadd hx hb dq_Md_change_166 ?_
        obtain ⟨a4, rfl, hw⟩ := hw
        obtain ⟨t5, hw⟩ := hw
        obtain ⟨h6, hw⟩ := hw
        refine wo_iald (j := 2) hC rfl hG t5 h6 dq_Md_change_167 ?_
        exact tq_Md_change_168 hC hw hG hS (lx_sub hl [1, 2, 3, 0] rfl) hcc hss
      · replace hw := hw.2 h
        refine lv_iconst (v := (0 : Int32)) hx hb dq_Md_change_153 rfl ?_
        refine lv_goto (tgt := 168) hx hb dq_Md_change_154 rfl ?_
        exact tq_Md_change_168 hC hw hG hS (lx_sub hl [1, 2, 3, 0] rfl) hcc hss
    · replace hw := hw.2 h
      exact tq_Md_change_138 hC hw hG hS (lx_sub hl [] rfl) hcc hss
set_option maxRecDepth 100000 in
set_option maxHeartbeats 4000000 in
theorem tq_Md_change_95 {p : Program} {l : Launch} {e : Env} {R : Room} {s₀ : State} {m : MethodId} {args : Array Value} {below : List Frame} {meth : Method} {cd : Code} {E : wo_E} {mc ms : Nat} {Post : Int32 → wo_W → Prop} (hC : wo_Cx E "EdgeCacheModel" prog_14_method_41_code 8 4 98 ((Option.some Jvm.ClassFile.FieldType.int)) "change" mc ms p R s₀ m args meth cd) : ∀ {G : wo_W} {c s : Nat} {x0 : Nat} {x1 : Int32} {x2 : Int32} {y0 : Int64}, pq_Md_change_95 E mc ms Post G c s x0 x1 x2 y0 → ∀ {H : Heap} {locs : List Loc} {ls : Array Slot}, wo_Se E G H → va_S (en_A E) s₀.heap H locs → lx_has ls 8 [(0, 1, .ref x0), (1, 1, .int x1), (2, 1, .int x2)] → c ≤ mc → s ≤ ms → W p l e R s₀ m args below meth cd H locs c s (MQ below (va_Qi Post (wo_B E) (en_A E)) args s₀ mc ms (en_A E)) (F0 m 95 ls [.long y0]) := by
  intro G c s x0 x1 x2 y0 hw H locs ls hG hS hl hcc hss
  dsimp only [pq_Md_change_95] at hw
  have hx := hC.1
  have hb := hC.2.1
  refine lx_lstore_n (lv' := [(3, 2, .long y0), (0, 1, .ref x0), (1, 1, .int x1), (2, 1, .int x2)]) hx hb dq_Md_change_95 rfl hl (by decide) rfl (fun ls hl' => ?_)
  clear hl
  have hl := hl'
  clear hl'
  refine lv_aload_n hx hb dq_Md_change_96 rfl (lx_at hl 1 rfl) ?_
  refine lv_iload_n hx hb dq_Md_change_97 rfl (lx_at hl 2 rfl) ?_
  refine lv_bipush (v := (6 : Int32)) hx hb dq_Md_change_98 rfl ?_
  obtain ⟨t1, hw⟩ := hw
  obtain ⟨mc2, ms3, hc1, hs1, hw⟩ := hw
  refine va_calli (wo_runV hC lq_Md_258 (mq_Md_has hw) hG hS t1 rfl (lx_sz hl) rfl (Nat.zero_le _) (by decide) dq_Md_change_100 ⟨hc1, hs1⟩) hS (fun _ _ h => h) (fun _ h => h) (fun v5 G4 t H locs ht hvm hw' hB _ _ hS => ?_)
  clear hw
  have hw := hw'
  clear hw'
  replace hG := wo_bk ht hB
  replace hcc := hc1
  replace hss := hs1
  refine lv_if_eq (tgt := 122) hx hb dq_Md_change_103 rfl (fun h => ?_) (fun h => ?_)
  · replace hw := hw.1 h
    exact tq_Md_change_122 hC hw hG hS (lx_sub hl [1, 2, 3, 0] rfl) hcc hss
  · replace hw := hw.2 h
    refine lv_aload_n hx hb dq_Md_change_106 rfl (lx_at hl 1 rfl) ?_
    obtain ⟨t6, hw⟩ := hw
    refine wo_getR hC fq_Md_54 rfl hG t6 dq_Md_change_107 (fun r7 e8 => ?_)
    replace hw := hw r7 e8
    refine lv_bipush (v := (8 : Int32)) hx hb dq_Md_change_110 rfl ?_
    refine lv_iload_n hx hb dq_Md_change_112 rfl (lx_at hl 2 rfl) ?_
    refine lv_imul hx hb dq_Md_change_113 ?_
    refine lv_bipush (v := (6 : Int32)) hx hb dq_Md_change_114 rfl ?_
    refine lv_iadd hx hb dq_Md_change_116 ?_
    obtain ⟨a9, rfl, hw⟩ := hw
    obtain ⟨t10, hw⟩ := hw
    obtain ⟨h11, hw⟩ := hw
    refine wo_iald (j := 2) hC rfl hG t10 h11 dq_Md_change_117 ?_
    refine lv_iconst (v := (1 : Int32)) hx hb dq_Md_change_118 rfl ?_
    refine lv_icmp_ne (tgt := 138) hx hb dq_Md_change_119 rfl (fun h => ?_) (fun h => ?_)
    · replace hw := hw.1 h
      exact tq_Md_change_138 hC hw hG hS (lx_sub hl [] rfl) hcc hss
    · replace hw := hw.2 h
      exact tq_Md_change_122 hC hw hG hS (lx_sub hl [1, 2, 3, 0] rfl) hcc hss
set_option maxRecDepth 100000 in
set_option maxHeartbeats 4000000 in
theorem tq_Md_change_55 {p : Program} {l : Launch} {e : Env} {R : Room} {s₀ : State} {m : MethodId} {args : Array Value} {below : List Frame} {meth : Method} {cd : Code} {E : wo_E} {mc ms : Nat} {Post : Int32 → wo_W → Prop} (hC : wo_Cx E "EdgeCacheModel" prog_14_method_41_code 8 4 98 ((Option.some Jvm.ClassFile.FieldType.int)) "change" mc ms p R s₀ m args meth cd) : ∀ {G : wo_W} {c s : Nat} {y0 : Int32}, pq_Md_change_55 E mc ms Post G c s y0 → ∀ {H : Heap} {locs : List Loc} {ls : Array Slot}, wo_Se E G H → va_S (en_A E) s₀.heap H locs → lx_has ls 8 [] → c ≤ mc → s ≤ ms → W p l e R s₀ m args below meth cd H locs c s (MQ below (va_Qi Post (wo_B E) (en_A E)) args s₀ mc ms (en_A E)) (F0 m 55 ls [.int y0]) := by
  intro G c s y0 hw H locs ls hG hS hl hcc hss
  dsimp only [pq_Md_change_55] at hw
  have hx := hC.1
  have hb := hC.2.1
  exact wo_iret hC hG hS hcc hss hw dq_Md_change_55
set_option maxRecDepth 100000 in
set_option maxHeartbeats 4000000 in
theorem tq_Md_change_42 {p : Program} {l : Launch} {e : Env} {R : Room} {s₀ : State} {m : MethodId} {args : Array Value} {below : List Frame} {meth : Method} {cd : Code} {E : wo_E} {mc ms : Nat} {Post : Int32 → wo_W → Prop} (hC : wo_Cx E "EdgeCacheModel" prog_14_method_41_code 8 4 98 ((Option.some Jvm.ClassFile.FieldType.int)) "change" mc ms p R s₀ m args meth cd) : ∀ {G : wo_W} {c s : Nat} {x2 : Int32}, pq_Md_change_42 E mc ms Post G c s x2 → ∀ {H : Heap} {locs : List Loc} {ls : Array Slot}, wo_Se E G H → va_S (en_A E) s₀.heap H locs → lx_has ls 8 [(2, 1, .int x2)] → c ≤ mc → s ≤ ms → W p l e R s₀ m args below meth cd H locs c s (MQ below (va_Qi Post (wo_B E) (en_A E)) args s₀ mc ms (en_A E)) (F0 m 42 ls []) := by
  intro G c s x2 hw H locs ls hG hS hl hcc hss
  dsimp only [pq_Md_change_42] at hw
  have hx := hC.1
  have hb := hC.2.1
  refine lv_iload_n hx hb dq_Md_change_42 rfl (lx_at hl 0 rfl) ?_
  refine lv_if_ge (tgt := 52) hx hb dq_Md_change_43 rfl (fun h => ?_) (fun h => ?_)
  · replace hw := hw.1 h
    refine lv_sipush (v := (412 : Int32)) hx hb dq_Md_change_52 rfl ?_
    exact tq_Md_change_55 hC hw hG hS (lx_sub hl [] rfl) hcc hss
  · replace hw := hw.2 h
    refine lv_sipush (v := (404 : Int32)) hx hb dq_Md_change_46 rfl ?_
    refine lv_goto (tgt := 55) hx hb dq_Md_change_49 rfl ?_
    exact tq_Md_change_55 hC hw hG hS (lx_sub hl [] rfl) hcc hss
set_option maxRecDepth 100000 in
set_option maxHeartbeats 4000000 in
theorem tq_Md_change_0 {p : Program} {l : Launch} {e : Env} {R : Room} {s₀ : State} {m : MethodId} {args : Array Value} {below : List Frame} {meth : Method} {cd : Code} {E : wo_E} {mc ms : Nat} {Post : Int32 → wo_W → Prop} (hC : wo_Cx E "EdgeCacheModel" prog_14_method_41_code 8 4 98 ((Option.some Jvm.ClassFile.FieldType.int)) "change" mc ms p R s₀ m args meth cd) : ∀ {G : wo_W} {c s : Nat} {x0 : Nat} {x1 : Int32}, pq_Md_change_0 E mc ms Post G c s x0 x1 → ∀ {H : Heap} {locs : List Loc} {ls : Array Slot}, wo_Se E G H → va_S (en_A E) s₀.heap H locs → lx_has ls 8 [(0, 1, .ref x0), (1, 1, .int x1)] → c ≤ mc → s ≤ ms → W p l e R s₀ m args below meth cd H locs c s (MQ below (va_Qi Post (wo_B E) (en_A E)) args s₀ mc ms (en_A E)) (F0 m 0 ls []) := by
  intro G c s x0 x1 hw H locs ls hG hS hl hcc hss
  dsimp only [pq_Md_change_0] at hw
  have hx := hC.1
  have hb := hC.2.1
  refine lv_aload_n hx hb dq_Md_change_0 rfl (lx_at hl 0 rfl) ?_
  refine lv_iload_n hx hb dq_Md_change_1 rfl (lx_at hl 1 rfl) ?_
  obtain ⟨t1, hw⟩ := hw
  obtain ⟨mc2, ms3, hc1, hs1, hw⟩ := hw
  refine va_calli (wo_runV hC lq_Md_317 (mq_Md_resource hw) hG hS t1 rfl (lx_sz hl) rfl (Nat.zero_le _) (by decide) dq_Md_change_2 ⟨hc1, hs1⟩) hS (fun _ _ h => h) (fun _ h => h) (fun v5 G4 t H locs ht hvm hw' hB _ _ hS => ?_)
  clear hw
  have hw := hw'
  clear hw'
  replace hG := wo_bk ht hB
  replace hcc := hc1
  replace hss := hs1
  refine lx_istore_n (lv' := [(2, 1, .int v5), (0, 1, .ref x0), (1, 1, .int x1)]) hx hb dq_Md_change_5 rfl hl (by decide) rfl (fun ls hl' => ?_)
  clear hl
  have hl := hl'
  clear hl'
  refine lv_aload_n hx hb dq_Md_change_6 rfl (lx_at hl 1 rfl) ?_
  obtain ⟨t6, hw⟩ := hw
  refine wo_getR hC fq_Md_41 rfl hG t6 dq_Md_change_7 (fun r7 e8 => ?_)
  replace hw := hw r7 e8
  refine lv_iload_n hx hb dq_Md_change_10 rfl (lx_at hl 2 rfl) ?_
  obtain ⟨a9, rfl, hw⟩ := hw
  obtain ⟨t10, hw⟩ := hw
  obtain ⟨h11, hw⟩ := hw
  refine wo_iald (j := 2) hC rfl hG t10 h11 dq_Md_change_11 ?_
  refine lv_iconst (v := (3 : Int32)) hx hb dq_Md_change_12 rfl ?_
  refine lv_icmp_ne (tgt := 67) hx hb dq_Md_change_13 rfl (fun h => ?_) (fun h => ?_)
  · replace hw := hw.1 h
    refine lv_aload_n hx hb dq_Md_change_67 rfl (lx_at hl 1 rfl) ?_
    refine lv_iload_n hx hb dq_Md_change_68 rfl (lx_at hl 2 rfl) ?_
    refine lv_bipush (v := (6 : Int32)) hx hb dq_Md_change_69 rfl ?_
    obtain ⟨mc12, ms13, hc1, hs1, hw⟩ := hw
    refine va_calli (wo_runV hC lq_Md_258 (mq_Md_has hw) hG hS t6 rfl (lx_sz hl) rfl (Nat.zero_le _) (by decide) dq_Md_change_71 ⟨hc1, hs1⟩) hS (fun _ _ h => h) (fun _ h => h) (fun v15 G14 t H locs ht hvm hw' hB _ _ hS => ?_)
    clear hw
    have hw := hw'
    clear hw'
    replace hG := wo_bk ht hB
    replace hcc := hc1
    replace hss := hs1
    refine lv_if_eq (tgt := 92) hx hb dq_Md_change_74 rfl (fun h => ?_) (fun h => ?_)
    · replace hw := hw.1 h
      refine lv_ldc2 hx hb hC.2.2.2.2.2.1 (hC.2.2.2.2.2.2.1 _ cq_Md_326) dq_Md_change_92 ?_
      exact tq_Md_change_95 hC hw hG hS (lx_sub hl [1, 2, 0] rfl) hcc hss
    · replace hw := hw.2 h
      refine lv_aload_n hx hb dq_Md_change_77 rfl (lx_at hl 1 rfl) ?_
      obtain ⟨t16, hw⟩ := hw
      refine wo_getR hC fq_Md_51 rfl hG t16 dq_Md_change_78 (fun r17 e18 => ?_)
      replace hw := hw r17 e18
      refine lv_bipush (v := (8 : Int32)) hx hb dq_Md_change_81 rfl ?_
      refine lv_iload_n hx hb dq_Md_change_83 rfl (lx_at hl 2 rfl) ?_
      refine lv_imul hx hb dq_Md_change_84 ?_
      refine lv_bipush (v := (6 : Int32)) hx hb dq_Md_change_85 rfl ?_
      refine lv_iadd hx hb dq_Md_change_87 ?_
      obtain ⟨a19, rfl, hw⟩ := hw
      obtain ⟨t20, hw⟩ := hw
      obtain ⟨h21, hw⟩ := hw
      refine wo_lald (j := 9) hC rfl hG t20 h21 dq_Md_change_88 ?_
      refine lv_goto (tgt := 95) hx hb dq_Md_change_89 rfl ?_
      exact tq_Md_change_95 hC hw hG hS (lx_sub hl [1, 2, 0] rfl) hcc hss
  · replace hw := hw.2 h
    refine lv_iload_n hx hb dq_Md_change_16 rfl (lx_at hl 0 rfl) ?_
    refine lv_if_lt (tgt := 42) hx hb dq_Md_change_17 rfl (fun h => ?_) (fun h => ?_)
    · replace hw := hw.1 h
      exact tq_Md_change_42 hC hw hG hS (lx_sub hl [0] rfl) hcc hss
    · replace hw := hw.2 h
      refine lv_aload_n hx hb dq_Md_change_20 rfl (lx_at hl 1 rfl) ?_
      refine lv_iload_n hx hb dq_Md_change_21 rfl (lx_at hl 2 rfl) ?_
      refine lv_aload_n hx hb dq_Md_change_22 rfl (lx_at hl 1 rfl) ?_
      refine wo_getR hC fq_Md_165 rfl hG t6 dq_Md_change_23 (fun r22 e23 => ?_)
      replace hw := hw r22 e23
      refine lv_iconst (v := (3 : Int32)) hx hb dq_Md_change_26 rfl ?_
      refine lv_iload_n hx hb dq_Md_change_27 rfl (lx_at hl 0 rfl) ?_
      refine lv_imul hx hb dq_Md_change_28 ?_
      refine lv_aload_n hx hb dq_Md_change_29 rfl (lx_at hl 1 rfl) ?_
      refine lv_iload_n hx hb dq_Md_change_30 rfl (lx_at hl 0 rfl) ?_
      obtain ⟨mc24, ms25, hc1, hs1, hw⟩ := hw
      refine va_calli (wo_runV hC lq_Md_311 (mq_Md_least hw) hG hS t6 rfl (lx_sz hl) rfl (lx_rm (Nat.le_of_ble_eq_true rfl)) (by decide) dq_Md_change_31 ⟨hc1, hs1⟩) hS (fun _ _ h => h) (fun _ h => h) (fun v27 G26 t H locs ht hvm hw' hB _ _ hS => ?_)
      clear hw
      have hw := hw'
      clear hw'
      replace hG := wo_bk ht hB
      replace hcc := hc1
      replace hss := hs1
      refine lv_iadd hx hb dq_Md_change_34 ?_
      obtain ⟨a28, rfl, hw⟩ := hw
      obtain ⟨t29, hw⟩ := hw
      obtain ⟨h30, hw⟩ := hw
      refine wo_iald (j := 2) hC rfl hG t29 h30 dq_Md_change_35 ?_
      obtain ⟨t31, hw⟩ := hw
      obtain ⟨mc32, ms33, hc1, hs1, hw⟩ := hw
      refine va_calli (wo_runV hC lq_Md_323 (mq_Md_holds hw) hG hS t31 rfl (lx_sz hl) rfl (Nat.zero_le _) (by decide) dq_Md_change_36 ⟨hc1, hs1⟩) hS (fun _ _ h => h) (fun _ h => h) (fun v35 G34 t H locs ht hvm hw' hB _ _ hS => ?_)
      clear hw
      have hw := hw'
      clear hw'
      replace hG := wo_bk ht hB
      replace hcc := hc1
      replace hss := hs1
      refine lv_if_ne (tgt := 56) hx hb dq_Md_change_39 rfl (fun h => ?_) (fun h => ?_)
      · replace hw := hw.1 h
        refine lv_aload_n hx hb dq_Md_change_56 rfl (lx_at hl 1 rfl) ?_
        obtain ⟨t36, hw⟩ := hw
        refine wo_getR hC fq_Md_144 rfl hG t36 dq_Md_change_57 (fun r37 e38 => ?_)
        replace hw := hw r37 e38
        refine lv_iload_n hx hb dq_Md_change_60 rfl (lx_at hl 0 rfl) ?_
        refine lv_iconst (v := (0 : Int32)) hx hb dq_Md_change_61 rfl ?_
        obtain ⟨a39, rfl, hw⟩ := hw
        obtain ⟨t40, hw⟩ := hw
        obtain ⟨h41, hw⟩ := hw
        obtain ⟨h42, hw⟩ := hw
        refine wo_zast (j := 8) hC rfl hG hS t40 h41 h42 dq_Md_change_62 (fun G43 H locs e44 hG hS => ?_)
        replace hw := hw G43 e44
        refine lv_sipush (v := (204 : Int32)) hx hb dq_Md_change_63 rfl ?_
        exact wo_iret hC hG hS hcc hss hw dq_Md_change_66
      · replace hw := hw.2 h
        exact tq_Md_change_42 hC hw hG hS (lx_sub hl [0] rfl) hcc hss
set_option maxHeartbeats 4000000 in
theorem mq_Md_change {l : Launch} {E : wo_E} {mc ms : Nat} {Post : Int32 → wo_W → Prop} {G : wo_W} {x0 : Nat} {x1 : Int32} (hw : pq_Md_change E mc ms Post G x0 x1) : Met l yq_Md_change (Cond.code yq_Md_change prog_14_method_41_code 8 ((Option.some Jvm.ClassFile.FieldType.int)) :: vw_WG) { frames := 4, cells := mc, slots := ms, locals := 98 } (va_Pc [.ref x0, .int x1] (wo_Ok E G)) (va_Qi Post (wo_B E) (en_A E)) mc ms (en_A E) := by
  unfold pq_Md_change at hw
  exact wo_met [(1, .ref x0), (1, .int x1)] rfl (by decide) (fun q hq => by simp only [List.mem_cons, List.not_mem_nil, or_false] at hq; rcases hq with rfl | rfl <;> first | rfl | exact lx_cR _) (Nat.le_of_ble_eq_true rfl) (fun p e R s m args below meth cd ls hC hG hS hl => tq_Md_change_0 hC hw hG hS (lx_sub hl [0, 1] rfl) (Nat.zero_le _) (Nat.zero_le _))

theorem dq_Md_put_0 : decode prog_14_method_22_code 0 = .ok (.aload_n 0, 1) := by decide +kernel
theorem dq_Md_put_1 : decode prog_14_method_22_code 1 = .ok (.getfield 38, 3) := by decide +kernel
theorem dq_Md_put_4 : decode prog_14_method_22_code 4 = .ok (.aload_n 0, 1) := by decide +kernel
theorem dq_Md_put_5 : decode prog_14_method_22_code 5 = .ok (.getfield 267, 3) := by decide +kernel
theorem dq_Md_put_8 : decode prog_14_method_22_code 8 = .ok (.iload_n 1, 1) := by decide +kernel
theorem dq_Md_put_9 : decode prog_14_method_22_code 9 = .ok (.iastore, 1) := by decide +kernel
theorem dq_Md_put_10 : decode prog_14_method_22_code 10 = .ok (.aload_n 0, 1) := by decide +kernel
theorem dq_Md_put_11 : decode prog_14_method_22_code 11 = .ok (.dup, 1) := by decide +kernel
theorem dq_Md_put_12 : decode prog_14_method_22_code 12 = .ok (.getfield 267, 3) := by decide +kernel
theorem dq_Md_put_15 : decode prog_14_method_22_code 15 = .ok (.iconst 1, 1) := by decide +kernel
theorem dq_Md_put_16 : decode prog_14_method_22_code 16 = .ok (.iadd, 1) := by decide +kernel
theorem dq_Md_put_17 : decode prog_14_method_22_code 17 = .ok (.putfield 267, 3) := by decide +kernel
theorem dq_Md_put_20 : decode prog_14_method_22_code 20 = .ok (.return_, 1) := by decide +kernel
set_option maxRecDepth 100000 in
def pq_Md_put_0 (E : wo_E) (mc ms : Nat) (Post : wo_W → Prop) (G : wo_W) (c s : Nat) (x0 : Nat) (x1 : Int32) : Prop := wo_ty G x0 = 15 ∧ ∀ r2 : Option Nat, r2 = wo_gr G 905 x0 → ∃ a4 : Nat, r2 = some a4 ∧ wo_ty G a4 = 66 ∧ vp_in (wo_gi G 906 x0) (wo_len G a4) ∧ en_bs E ≤ a4 ∧ ∀ G8 : wo_W, G8 = wo_sei G a4 (wo_gi G 906 x0).toNatClampNeg x1 → 
  en_bs E ≤ x0 ∧ ∀ G11 : wo_W, G11 = wo_si G8 906 x0 ((wo_gi G8 906 x0) + (1 : Int32)) → 
  Post G11
def pq_Md_put (E : wo_E) (mc ms : Nat) (Post : wo_W → Prop) (G : wo_W) (x0 : Nat) (x1 : Int32) : Prop := pq_Md_put_0 E mc ms Post G 0 0 x0 x1
set_option maxRecDepth 100000 in
set_option maxHeartbeats 4000000 in
theorem tq_Md_put_0 {p : Program} {l : Launch} {e : Env} {R : Room} {s₀ : State} {m : MethodId} {args : Array Value} {below : List Frame} {meth : Method} {cd : Code} {E : wo_E} {mc ms : Nat} {Post : wo_W → Prop} (hC : wo_Cx E "EdgeCacheModel" prog_14_method_22_code 2 0 0 ((Option.none : Option Jvm.ClassFile.FieldType)) "put" mc ms p R s₀ m args meth cd) : ∀ {G : wo_W} {c s : Nat} {x0 : Nat} {x1 : Int32}, pq_Md_put_0 E mc ms Post G c s x0 x1 → ∀ {H : Heap} {locs : List Loc} {ls : Array Slot}, wo_Se E G H → va_S (en_A E) s₀.heap H locs → lx_has ls 2 [(0, 1, .ref x0), (1, 1, .int x1)] → c ≤ mc → s ≤ ms → W p l e R s₀ m args below meth cd H locs c s (MQ below (va_Qv Post (wo_B E) (en_A E)) args s₀ mc ms (en_A E)) (F0 m 0 ls []) := by
  intro G c s x0 x1 hw H locs ls hG hS hl hcc hss
  dsimp only [pq_Md_put_0] at hw
  have hx := hC.1
  have hb := hC.2.1
  refine lv_aload_n hx hb dq_Md_put_0 rfl (lx_at hl 0 rfl) ?_
  obtain ⟨t1, hw⟩ := hw
  refine wo_getR hC fq_Md_38 rfl hG t1 dq_Md_put_1 (fun r2 e3 => ?_)
  replace hw := hw r2 e3
  refine lv_aload_n hx hb dq_Md_put_4 rfl (lx_at hl 0 rfl) ?_
  refine wo_getI hC fq_Md_267 rfl hG t1 dq_Md_put_5 ?_
  refine lv_iload_n hx hb dq_Md_put_8 rfl (lx_at hl 1 rfl) ?_
  obtain ⟨a4, rfl, hw⟩ := hw
  obtain ⟨t5, hw⟩ := hw
  obtain ⟨h6, hw⟩ := hw
  obtain ⟨h7, hw⟩ := hw
  refine wo_iast (j := 2) hC rfl hG hS t5 h6 h7 dq_Md_put_9 (fun G8 H locs e9 hG hS => ?_)
  replace hw := hw G8 e9
  refine lv_aload_n hx hb dq_Md_put_10 rfl (lx_at hl 0 rfl) ?_
  refine lv_dup hx hb dq_Md_put_11 rfl ?_
  refine wo_getI hC fq_Md_267 rfl hG (ty_sei e9 t1) dq_Md_put_12 ?_
  refine lv_iconst (v := (1 : Int32)) hx hb dq_Md_put_15 rfl ?_
  refine lv_iadd hx hb dq_Md_put_16 ?_
  obtain ⟨h10, hw⟩ := hw
  refine wo_putI hC fq_Md_267 (Or.inl rfl) rfl (wo_ok_int _) hG hS (ty_sei e9 t1) h10 dq_Md_put_17 (fun G11 H locs e12 hG hS => ?_)
  replace hw := hw G11 e12
  exact wo_vret hC hG hS hcc hss hw dq_Md_put_20
set_option maxHeartbeats 4000000 in
theorem mq_Md_put {l : Launch} {E : wo_E} {mc ms : Nat} {Post : wo_W → Prop} {G : wo_W} {x0 : Nat} {x1 : Int32} (hw : pq_Md_put E mc ms Post G x0 x1) : Met l yq_Md_put (Cond.code yq_Md_put prog_14_method_22_code 2 ((Option.none : Option Jvm.ClassFile.FieldType)) :: vw_WG) { frames := 0, cells := mc, slots := ms, locals := 0 } (va_Pc [.ref x0, .int x1] (wo_Ok E G)) (va_Qv Post (wo_B E) (en_A E)) mc ms (en_A E) := by
  unfold pq_Md_put at hw
  exact wo_met [(1, .ref x0), (1, .int x1)] rfl (by decide) (fun q hq => by simp only [List.mem_cons, List.not_mem_nil, or_false] at hq; rcases hq with rfl | rfl <;> first | rfl | exact lx_cR _) (Nat.le_of_ble_eq_true rfl) (fun p e R s m args below meth cd ls hC hG hS hl => tq_Md_put_0 hC hw hG hS (lx_sub hl [0, 1] rfl) (Nat.zero_le _) (Nat.zero_le _))
