theorem dq_Md_hex_0 : decode prog_14_method_8_code 0 = .ok (.iload_n 0, 1) := by decide +kernel
theorem dq_Md_hex_1 : decode prog_14_method_8_code 1 = .ok (.bipush 48, 2) := by decide +kernel
theorem dq_Md_hex_3 : decode prog_14_method_8_code 3 = .ok (.if_icmp .lt 16, 3) := by decide +kernel
theorem dq_Md_hex_6 : decode prog_14_method_8_code 6 = .ok (.iload_n 0, 1) := by decide +kernel
theorem dq_Md_hex_7 : decode prog_14_method_8_code 7 = .ok (.bipush 57, 2) := by decide +kernel
theorem dq_Md_hex_9 : decode prog_14_method_8_code 9 = .ok (.if_icmp .gt 10, 3) := by decide +kernel
theorem dq_Md_hex_12 : decode prog_14_method_8_code 12 = .ok (.iload_n 0, 1) := by decide +kernel
theorem dq_Md_hex_13 : decode prog_14_method_8_code 13 = .ok (.bipush 48, 2) := by decide +kernel
theorem dq_Md_hex_15 : decode prog_14_method_8_code 15 = .ok (.isub, 1) := by decide +kernel
theorem dq_Md_hex_16 : decode prog_14_method_8_code 16 = .ok (.goto 42, 3) := by decide +kernel
theorem dq_Md_hex_19 : decode prog_14_method_8_code 19 = .ok (.iload_n 0, 1) := by decide +kernel
theorem dq_Md_hex_20 : decode prog_14_method_8_code 20 = .ok (.bipush 65, 2) := by decide +kernel
theorem dq_Md_hex_22 : decode prog_14_method_8_code 22 = .ok (.if_icmp .lt 16, 3) := by decide +kernel
theorem dq_Md_hex_25 : decode prog_14_method_8_code 25 = .ok (.iload_n 0, 1) := by decide +kernel
theorem dq_Md_hex_26 : decode prog_14_method_8_code 26 = .ok (.bipush 70, 2) := by decide +kernel
theorem dq_Md_hex_28 : decode prog_14_method_8_code 28 = .ok (.if_icmp .gt 10, 3) := by decide +kernel
theorem dq_Md_hex_31 : decode prog_14_method_8_code 31 = .ok (.iload_n 0, 1) := by decide +kernel
theorem dq_Md_hex_32 : decode prog_14_method_8_code 32 = .ok (.bipush 55, 2) := by decide +kernel
theorem dq_Md_hex_34 : decode prog_14_method_8_code 34 = .ok (.isub, 1) := by decide +kernel
theorem dq_Md_hex_35 : decode prog_14_method_8_code 35 = .ok (.goto 23, 3) := by decide +kernel
theorem dq_Md_hex_38 : decode prog_14_method_8_code 38 = .ok (.iload_n 0, 1) := by decide +kernel
theorem dq_Md_hex_39 : decode prog_14_method_8_code 39 = .ok (.bipush 97, 2) := by decide +kernel
theorem dq_Md_hex_41 : decode prog_14_method_8_code 41 = .ok (.if_icmp .lt 16, 3) := by decide +kernel
theorem dq_Md_hex_44 : decode prog_14_method_8_code 44 = .ok (.iload_n 0, 1) := by decide +kernel
theorem dq_Md_hex_45 : decode prog_14_method_8_code 45 = .ok (.bipush 102, 2) := by decide +kernel
theorem dq_Md_hex_47 : decode prog_14_method_8_code 47 = .ok (.if_icmp .gt 10, 3) := by decide +kernel
theorem dq_Md_hex_50 : decode prog_14_method_8_code 50 = .ok (.iload_n 0, 1) := by decide +kernel
theorem dq_Md_hex_51 : decode prog_14_method_8_code 51 = .ok (.bipush 87, 2) := by decide +kernel
theorem dq_Md_hex_53 : decode prog_14_method_8_code 53 = .ok (.isub, 1) := by decide +kernel
theorem dq_Md_hex_54 : decode prog_14_method_8_code 54 = .ok (.goto 4, 3) := by decide +kernel
theorem dq_Md_hex_57 : decode prog_14_method_8_code 57 = .ok (.iconst (-1), 1) := by decide +kernel
theorem dq_Md_hex_58 : decode prog_14_method_8_code 58 = .ok (.ireturn, 1) := by decide +kernel
set_option maxRecDepth 100000 in
def pq_Md_hex_58 (E : wo_E) (mc ms : Nat) (Post : Int32 → wo_W → Prop) (G : wo_W) (c s : Nat) (y0 : Int32) : Prop := Post y0 G
set_option maxRecDepth 100000 in
def pq_Md_hex_57 (E : wo_E) (mc ms : Nat) (Post : Int32 → wo_W → Prop) (G : wo_W) (c s : Nat) : Prop := pq_Md_hex_58 E mc ms Post G c s (-1 : Int32)
set_option maxRecDepth 100000 in
def pq_Md_hex_38 (E : wo_E) (mc ms : Nat) (Post : Int32 → wo_W → Prop) (G : wo_W) (c s : Nat) (x0 : Int32) : Prop := ((x0 < (97 : Int32) → pq_Md_hex_57 E mc ms Post G c s) ∧
  (¬ x0 < (97 : Int32) → (((102 : Int32) < x0 → pq_Md_hex_57 E mc ms Post G c s) ∧
    (¬ (102 : Int32) < x0 → pq_Md_hex_58 E mc ms Post G c s (x0 - (87 : Int32))))))
set_option maxRecDepth 100000 in
def pq_Md_hex_19 (E : wo_E) (mc ms : Nat) (Post : Int32 → wo_W → Prop) (G : wo_W) (c s : Nat) (x0 : Int32) : Prop := ((x0 < (65 : Int32) → pq_Md_hex_38 E mc ms Post G c s x0) ∧
  (¬ x0 < (65 : Int32) → (((70 : Int32) < x0 → pq_Md_hex_38 E mc ms Post G c s x0) ∧
    (¬ (70 : Int32) < x0 → pq_Md_hex_58 E mc ms Post G c s (x0 - (55 : Int32))))))
set_option maxRecDepth 100000 in
def pq_Md_hex_0 (E : wo_E) (mc ms : Nat) (Post : Int32 → wo_W → Prop) (G : wo_W) (c s : Nat) (x0 : Int32) : Prop := ((x0 < (48 : Int32) → pq_Md_hex_19 E mc ms Post G c s x0) ∧
  (¬ x0 < (48 : Int32) → (((57 : Int32) < x0 → pq_Md_hex_19 E mc ms Post G c s x0) ∧
    (¬ (57 : Int32) < x0 → pq_Md_hex_58 E mc ms Post G c s (x0 - (48 : Int32))))))
def pq_Md_hex (E : wo_E) (mc ms : Nat) (Post : Int32 → wo_W → Prop) (G : wo_W) (x0 : Int32) : Prop := pq_Md_hex_0 E mc ms Post G 0 0 x0
set_option maxRecDepth 100000 in
set_option maxHeartbeats 4000000 in
theorem tq_Md_hex_58 {p : Program} {l : Launch} {e : Env} {R : Room} {s₀ : State} {m : MethodId} {args : Array Value} {below : List Frame} {meth : Method} {cd : Code} {E : wo_E} {mc ms : Nat} {Post : Int32 → wo_W → Prop} (hC : wo_Cx E "EdgeCacheModel" prog_14_method_8_code 1 0 0 ((Option.some Jvm.ClassFile.FieldType.int)) "hex" mc ms p R s₀ m args meth cd) : ∀ {G : wo_W} {c s : Nat} {y0 : Int32}, pq_Md_hex_58 E mc ms Post G c s y0 → ∀ {H : Heap} {locs : List Loc} {ls : Array Slot}, wo_Se E G H → va_S (en_A E) s₀.heap H locs → lx_has ls 1 [] → c ≤ mc → s ≤ ms → W p l e R s₀ m args below meth cd H locs c s (MQ below (va_Qi Post (wo_B E) (en_A E)) args s₀ mc ms (en_A E)) (F0 m 58 ls [.int y0]) := by
  intro G c s y0 hw H locs ls hG hS hl hcc hss
  dsimp only [pq_Md_hex_58] at hw
  have hx := hC.1
  have hb := hC.2.1
  exact wo_iret hC hG hS hcc hss hw dq_Md_hex_58
set_option maxRecDepth 100000 in
set_option maxHeartbeats 4000000 in
theorem tq_Md_hex_57 {p : Program} {l : Launch} {e : Env} {R : Room} {s₀ : State} {m : MethodId} {args : Array Value} {below : List Frame} {meth : Method} {cd : Code} {E : wo_E} {mc ms : Nat} {Post : Int32 → wo_W → Prop} (hC : wo_Cx E "EdgeCacheModel" prog_14_method_8_code 1 0 0 ((Option.some Jvm.ClassFile.FieldType.int)) "hex" mc ms p R s₀ m args meth cd) : ∀ {G : wo_W} {c s : Nat}, pq_Md_hex_57 E mc ms Post G c s → ∀ {H : Heap} {locs : List Loc} {ls : Array Slot}, wo_Se E G H → va_S (en_A E) s₀.heap H locs → lx_has ls 1 [] → c ≤ mc → s ≤ ms → W p l e R s₀ m args below meth cd H locs c s (MQ below (va_Qi Post (wo_B E) (en_A E)) args s₀ mc ms (en_A E)) (F0 m 57 ls []) := by
  intro G c s hw H locs ls hG hS hl hcc hss
  dsimp only [pq_Md_hex_57] at hw
  have hx := hC.1
  have hb := hC.2.1
  refine lv_iconst (v := (-1 : Int32)) hx hb dq_Md_hex_57 rfl ?_
  exact tq_Md_hex_58 hC hw hG hS (lx_sub hl [] rfl) hcc hss
set_option maxRecDepth 100000 in
set_option maxHeartbeats 4000000 in
theorem tq_Md_hex_38 {p : Program} {l : Launch} {e : Env} {R : Room} {s₀ : State} {m : MethodId} {args : Array Value} {below : List Frame} {meth : Method} {cd : Code} {E : wo_E} {mc ms : Nat} {Post : Int32 → wo_W → Prop} (hC : wo_Cx E "EdgeCacheModel" prog_14_method_8_code 1 0 0 ((Option.some Jvm.ClassFile.FieldType.int)) "hex" mc ms p R s₀ m args meth cd) : ∀ {G : wo_W} {c s : Nat} {x0 : Int32}, pq_Md_hex_38 E mc ms Post G c s x0 → ∀ {H : Heap} {locs : List Loc} {ls : Array Slot}, wo_Se E G H → va_S (en_A E) s₀.heap H locs → lx_has ls 1 [(0, 1, .int x0)] → c ≤ mc → s ≤ ms → W p l e R s₀ m args below meth cd H locs c s (MQ below (va_Qi Post (wo_B E) (en_A E)) args s₀ mc ms (en_A E)) (F0 m 38 ls []) := by
  intro G c s x0 hw H locs ls hG hS hl hcc hss
  dsimp only [pq_Md_hex_38] at hw
  have hx := hC.1
  have hb := hC.2.1
  refine lv_iload_n hx hb dq_Md_hex_38 rfl (lx_at hl 0 rfl) ?_
  refine lv_bipush (v := (97 : Int32)) hx hb dq_Md_hex_39 rfl ?_
  refine lv_icmp_lt (tgt := 57) hx hb dq_Md_hex_41 rfl (fun h => ?_) (fun h => ?_)
  · replace hw := hw.1 h
    exact tq_Md_hex_57 hC hw hG hS (lx_sub hl [] rfl) hcc hss
  · replace hw := hw.2 h
    refine lv_iload_n hx hb dq_Md_hex_44 rfl (lx_at hl 0 rfl) ?_
    refine lv_bipush (v := (102 : Int32)) hx hb dq_Md_hex_45 rfl ?_
    refine lv_icmp_gt (tgt := 57) hx hb dq_Md_hex_47 rfl (fun h => ?_) (fun h => ?_)
    · replace hw := hw.1 h
      exact tq_Md_hex_57 hC hw hG hS (lx_sub hl [] rfl) hcc hss
    · replace hw := hw.2 h
      refine lv_iload_n hx hb dq_Md_hex_50 rfl (lx_at hl 0 rfl) ?_
      refine lv_bipush (v := (87 : Int32)) hx hb dq_Md_hex_51 rfl ?_
      refine lv_isub hx hb dq_Md_hex_53 ?_
      refine lv_goto (tgt := 58) hx hb dq_Md_hex_54 rfl ?_
      exact tq_Md_hex_58 hC hw hG hS (lx_sub hl [] rfl) hcc hss
set_option maxRecDepth 100000 in
set_option maxHeartbeats 4000000 in
theorem tq_Md_hex_19 {p : Program} {l : Launch} {e : Env} {R : Room} {s₀ : State} {m : MethodId} {args : Array Value} {below : List Frame} {meth : Method} {cd : Code} {E : wo_E} {mc ms : Nat} {Post : Int32 → wo_W → Prop} (hC : wo_Cx E "EdgeCacheModel" prog_14_method_8_code 1 0 0 ((Option.some Jvm.ClassFile.FieldType.int)) "hex" mc ms p R s₀ m args meth cd) : ∀ {G : wo_W} {c s : Nat} {x0 : Int32}, pq_Md_hex_19 E mc ms Post G c s x0 → ∀ {H : Heap} {locs : List Loc} {ls : Array Slot}, wo_Se E G H → va_S (en_A E) s₀.heap H locs → lx_has ls 1 [(0, 1, .int x0)] → c ≤ mc → s ≤ ms → W p l e R s₀ m args below meth cd H locs c s (MQ below (va_Qi Post (wo_B E) (en_A E)) args s₀ mc ms (en_A E)) (F0 m 19 ls []) := by
  intro G c s x0 hw H locs ls hG hS hl hcc hss
  dsimp only [pq_Md_hex_19] at hw
  have hx := hC.1
  have hb := hC.2.1
  refine lv_iload_n hx hb dq_Md_hex_19 rfl (lx_at hl 0 rfl) ?_
  refine lv_bipush (v := (65 : Int32)) hx hb dq_Md_hex_20 rfl ?_
  refine lv_icmp_lt (tgt := 38) hx hb dq_Md_hex_22 rfl (fun h => ?_) (fun h => ?_)
  · replace hw := hw.1 h
    exact tq_Md_hex_38 hC hw hG hS (lx_sub hl [0] rfl) hcc hss
  · replace hw := hw.2 h
    refine lv_iload_n hx hb dq_Md_hex_25 rfl (lx_at hl 0 rfl) ?_
    refine lv_bipush (v := (70 : Int32)) hx hb dq_Md_hex_26 rfl ?_
    refine lv_icmp_gt (tgt := 38) hx hb dq_Md_hex_28 rfl (fun h => ?_) (fun h => ?_)
    · replace hw := hw.1 h
      exact tq_Md_hex_38 hC hw hG hS (lx_sub hl [0] rfl) hcc hss
    · replace hw := hw.2 h
      refine lv_iload_n hx hb dq_Md_hex_31 rfl (lx_at hl 0 rfl) ?_
      refine lv_bipush (v := (55 : Int32)) hx hb dq_Md_hex_32 rfl ?_
      refine lv_isub hx hb dq_Md_hex_34 ?_
      refine lv_goto (tgt := 58) hx hb dq_Md_hex_35 rfl ?_
      exact tq_Md_hex_58 hC hw hG hS (lx_sub hl [] rfl) hcc hss
set_option maxRecDepth 100000 in
set_option maxHeartbeats 4000000 in
theorem tq_Md_hex_0 {p : Program} {l : Launch} {e : Env} {R : Room} {s₀ : State} {m : MethodId} {args : Array Value} {below : List Frame} {meth : Method} {cd : Code} {E : wo_E} {mc ms : Nat} {Post : Int32 → wo_W → Prop} (hC : wo_Cx E "EdgeCacheModel" prog_14_method_8_code 1 0 0 ((Option.some Jvm.ClassFile.FieldType.int)) "hex" mc ms p R s₀ m args meth cd) : ∀ {G : wo_W} {c s : Nat} {x0 : Int32}, pq_Md_hex_0 E mc ms Post G c s x0 → ∀ {H : Heap} {locs : List Loc} {ls : Array Slot}, wo_Se E G H → va_S (en_A E) s₀.heap H locs → lx_has ls 1 [(0, 1, .int x0)] → c ≤ mc → s ≤ ms → W p l e R s₀ m args below meth cd H locs c s (MQ below (va_Qi Post (wo_B E) (en_A E)) args s₀ mc ms (en_A E)) (F0 m 0 ls []) := by
  intro G c s x0 hw H locs ls hG hS hl hcc hss
  dsimp only [pq_Md_hex_0] at hw
  have hx := hC.1
  have hb := hC.2.1
  refine lv_iload_n hx hb dq_Md_hex_0 rfl (lx_at hl 0 rfl) ?_
  refine lv_bipush (v := (48 : Int32)) hx hb dq_Md_hex_1 rfl ?_
  refine lv_icmp_lt (tgt := 19) hx hb dq_Md_hex_3 rfl (fun h => ?_) (fun h => ?_)
  · replace hw := hw.1 h
    exact tq_Md_hex_19 hC hw hG hS (lx_sub hl [0] rfl) hcc hss
  · replace hw := hw.2 h
    refine lv_iload_n hx hb dq_Md_hex_6 rfl (lx_at hl 0 rfl) ?_
    refine lv_bipush (v := (57 : Int32)) hx hb dq_Md_hex_7 rfl ?_
    refine lv_icmp_gt (tgt := 19) hx hb dq_Md_hex_9 rfl (fun h => ?_) (fun h => ?_)
    · replace hw := hw.1 h
      exact tq_Md_hex_19 hC hw hG hS (lx_sub hl [0] rfl) hcc hss
    · replace hw := hw.2 h
      refine lv_iload_n hx hb dq_Md_hex_12 rfl (lx_at hl 0 rfl) ?_
      refine lv_bipush (v := (48 : Int32)) hx hb dq_Md_hex_13 rfl ?_
      refine lv_isub hx hb dq_Md_hex_15 ?_
      refine lv_goto (tgt := 58) hx hb dq_Md_hex_16 rfl ?_
      exact tq_Md_hex_58 hC hw hG hS (lx_sub hl [] rfl) hcc hss
set_option maxHeartbeats 4000000 in
theorem mq_Md_hex {l : Launch} {E : wo_E} {mc ms : Nat} {Post : Int32 → wo_W → Prop} {G : wo_W} {x0 : Int32} (hw : pq_Md_hex E mc ms Post G x0) : Met l yq_Md_hex (Cond.code yq_Md_hex prog_14_method_8_code 1 ((Option.some Jvm.ClassFile.FieldType.int)) :: vw_WG) { frames := 0, cells := mc, slots := ms, locals := 0 } (va_Pc [.int x0] (wo_Ok E G)) (va_Qi Post (wo_B E) (en_A E)) mc ms (en_A E) := by
  unfold pq_Md_hex at hw
  exact wo_met [(1, .int x0)] rfl (by decide) (fun q hq => by simp only [List.mem_cons, List.not_mem_nil, or_false] at hq; rcases hq with rfl <;> first | rfl | exact lx_cR _) (Nat.le_of_ble_eq_true rfl) (fun p e R s m args below meth cd ls hC hG hS hl => tq_Md_hex_0 hC hw hG hS (lx_sub hl [0] rfl) (Nat.zero_le _) (Nat.zero_le _))

theorem dq_Md_lineEnd_0 : decode prog_14_method_5_code 0 = .ok (.iload_n 2, 1) := by decide +kernel
theorem dq_Md_lineEnd_1 : decode prog_14_method_5_code 1 = .ok (.istore_n 3, 1) := by decide +kernel
theorem dq_Md_lineEnd_2 : decode prog_14_method_5_code 2 = .ok (.iload_n 3, 1) := by decide +kernel
theorem dq_Md_lineEnd_3 : decode prog_14_method_5_code 3 = .ok (.aload_n 0, 1) := by decide +kernel
theorem dq_Md_lineEnd_4 : decode prog_14_method_5_code 4 = .ok (.getfield 13, 3) := by decide +kernel
theorem dq_Md_lineEnd_7 : decode prog_14_method_5_code 7 = .ok (.iload_n 1, 1) := by decide +kernel
theorem dq_Md_lineEnd_8 : decode prog_14_method_5_code 8 = .ok (.iaload, 1) := by decide +kernel
theorem dq_Md_lineEnd_9 : decode prog_14_method_5_code 9 = .ok (.if_icmp .ge 28, 3) := by decide +kernel
theorem dq_Md_lineEnd_12 : decode prog_14_method_5_code 12 = .ok (.aload_n 0, 1) := by decide +kernel
theorem dq_Md_lineEnd_13 : decode prog_14_method_5_code 13 = .ok (.getfield 7, 3) := by decide +kernel
theorem dq_Md_lineEnd_16 : decode prog_14_method_5_code 16 = .ok (.sipush 4200, 3) := by decide +kernel
theorem dq_Md_lineEnd_19 : decode prog_14_method_5_code 19 = .ok (.iload_n 1, 1) := by decide +kernel
theorem dq_Md_lineEnd_20 : decode prog_14_method_5_code 20 = .ok (.imul, 1) := by decide +kernel
theorem dq_Md_lineEnd_21 : decode prog_14_method_5_code 21 = .ok (.iload_n 3, 1) := by decide +kernel
theorem dq_Md_lineEnd_22 : decode prog_14_method_5_code 22 = .ok (.iadd, 1) := by decide +kernel
theorem dq_Md_lineEnd_23 : decode prog_14_method_5_code 23 = .ok (.iaload, 1) := by decide +kernel
theorem dq_Md_lineEnd_24 : decode prog_14_method_5_code 24 = .ok (.bipush 10, 2) := by decide +kernel
theorem dq_Md_lineEnd_26 : decode prog_14_method_5_code 26 = .ok (.if_icmp .ne 5, 3) := by decide +kernel
theorem dq_Md_lineEnd_29 : decode prog_14_method_5_code 29 = .ok (.iload_n 3, 1) := by decide +kernel
theorem dq_Md_lineEnd_30 : decode prog_14_method_5_code 30 = .ok (.ireturn, 1) := by decide +kernel
theorem dq_Md_lineEnd_31 : decode prog_14_method_5_code 31 = .ok (.iinc 3 1, 3) := by decide +kernel
theorem dq_Md_lineEnd_34 : decode prog_14_method_5_code 34 = .ok (.goto (-32), 3) := by decide +kernel
theorem dq_Md_lineEnd_37 : decode prog_14_method_5_code 37 = .ok (.aload_n 0, 1) := by decide +kernel
theorem dq_Md_lineEnd_38 : decode prog_14_method_5_code 38 = .ok (.getfield 13, 3) := by decide +kernel
theorem dq_Md_lineEnd_41 : decode prog_14_method_5_code 41 = .ok (.iload_n 1, 1) := by decide +kernel
theorem dq_Md_lineEnd_42 : decode prog_14_method_5_code 42 = .ok (.iaload, 1) := by decide +kernel
theorem dq_Md_lineEnd_43 : decode prog_14_method_5_code 43 = .ok (.iload_n 2, 1) := by decide +kernel
theorem dq_Md_lineEnd_44 : decode prog_14_method_5_code 44 = .ok (.isub, 1) := by decide +kernel
theorem dq_Md_lineEnd_45 : decode prog_14_method_5_code 45 = .ok (.bipush 20, 2) := by decide +kernel
theorem dq_Md_lineEnd_47 : decode prog_14_method_5_code 47 = .ok (.if_icmp .le 8, 3) := by decide +kernel
theorem dq_Md_lineEnd_50 : decode prog_14_method_5_code 50 = .ok (.bipush (-2), 2) := by decide +kernel
theorem dq_Md_lineEnd_52 : decode prog_14_method_5_code 52 = .ok (.goto 4, 3) := by decide +kernel
theorem dq_Md_lineEnd_55 : decode prog_14_method_5_code 55 = .ok (.iconst (-1), 1) := by decide +kernel
theorem dq_Md_lineEnd_56 : decode prog_14_method_5_code 56 = .ok (.ireturn, 1) := by decide +kernel
set_option maxRecDepth 100000 in
def pq_Md_lineEnd_56 (E : wo_E) (mc ms : Nat) (Post : Int32 → wo_W → Prop) (G : wo_W) (c s : Nat) (y0 : Int32) : Prop := Post y0 G
set_option maxRecDepth 100000 in
def pq_Md_lineEnd_2 (E : wo_E) (mc ms : Nat) (Post : Int32 → wo_W → Prop) : Nat → wo_W → Nat → Nat → Nat → Int32 → Int32 → Int32 → Prop
  | 0 => fun _ _ _ _ _ _ _ => False
  | n + 1 => fun G c s x0 x1 x2 x3 => wo_ty G x0 = 15 ∧ ∀ r2 : Option Nat, r2 = wo_gr G 897 x0 → ∃ a4 : Nat, r2 = some a4 ∧ wo_ty G a4 = 66 ∧ vp_in x1 (wo_len G a4) ∧ (((wo_ei G a4 x1.toNatClampNeg) ≤ x3 → ∀ r7 : Option Nat, r7 = wo_gr G 897 x0 → ∃ a9 : Nat, r7 = some a9 ∧ wo_ty G a9 = 66 ∧ vp_in x1 (wo_len G a9) ∧ ((((wo_ei G a9 x1.toNatClampNeg) - x2) ≤ (20 : Int32) → pq_Md_lineEnd_56 E mc ms Post G c s (-1 : Int32)) ∧
    (¬ ((wo_ei G a9 x1.toNatClampNeg) - x2) ≤ (20 : Int32) → pq_Md_lineEnd_56 E mc ms Post G c s (-2 : Int32)))) ∧
  (¬ (wo_ei G a4 x1.toNatClampNeg) ≤ x3 → ∀ r12 : Option Nat, r12 = wo_gr G 896 x0 → ∃ a14 : Nat, r12 = some a14 ∧ wo_ty G a14 = 66 ∧ vp_in (((4200 : Int32) * x1) + x3) (wo_len G a14) ∧ ((¬ (wo_ei G a14 (((4200 : Int32) * x1) + x3).toNatClampNeg) = (10 : Int32) → pq_Md_lineEnd_2 E mc ms Post n G c s x0 x1 x2 (x3 + (1 : Int32))) ∧
    ((wo_ei G a14 (((4200 : Int32) * x1) + x3).toNatClampNeg) = (10 : Int32) → Post x3 G))))
set_option maxRecDepth 100000 in
def pq_Md_lineEnd_0 (E : wo_E) (mc ms : Nat) (Post : Int32 → wo_W → Prop) (G : wo_W) (c s : Nat) (x0 : Nat) (x1 : Int32) (x2 : Int32) : Prop := ∃ n1 : Nat, pq_Md_lineEnd_2 E mc ms Post n1 G c s x0 x1 x2 x2
def pq_Md_lineEnd (E : wo_E) (mc ms : Nat) (Post : Int32 → wo_W → Prop) (G : wo_W) (x0 : Nat) (x1 : Int32) (x2 : Int32) : Prop := pq_Md_lineEnd_0 E mc ms Post G 0 0 x0 x1 x2
set_option maxRecDepth 100000 in
set_option maxHeartbeats 4000000 in
theorem tq_Md_lineEnd_56 {p : Program} {l : Launch} {e : Env} {R : Room} {s₀ : State} {m : MethodId} {args : Array Value} {below : List Frame} {meth : Method} {cd : Code} {E : wo_E} {mc ms : Nat} {Post : Int32 → wo_W → Prop} (hC : wo_Cx E "EdgeCacheModel" prog_14_method_5_code 4 0 0 ((Option.some Jvm.ClassFile.FieldType.int)) "lineEnd" mc ms p R s₀ m args meth cd) : ∀ {G : wo_W} {c s : Nat} {y0 : Int32}, pq_Md_lineEnd_56 E mc ms Post G c s y0 → ∀ {H : Heap} {locs : List Loc} {ls : Array Slot}, wo_Se E G H → va_S (en_A E) s₀.heap H locs → lx_has ls 4 [] → c ≤ mc → s ≤ ms → W p l e R s₀ m args below meth cd H locs c s (MQ below (va_Qi Post (wo_B E) (en_A E)) args s₀ mc ms (en_A E)) (F0 m 56 ls [.int y0]) := by
  intro G c s y0 hw H locs ls hG hS hl hcc hss
  dsimp only [pq_Md_lineEnd_56] at hw
  have hx := hC.1
  have hb := hC.2.1
  exact wo_iret hC hG hS hcc hss hw dq_Md_lineEnd_56
set_option maxRecDepth 100000 in
set_option maxHeartbeats 4000000 in
theorem tq_Md_lineEnd_2 {p : Program} {l : Launch} {e : Env} {R : Room} {s₀ : State} {m : MethodId} {args : Array Value} {below : List Frame} {meth : Method} {cd : Code} {E : wo_E} {mc ms : Nat} {Post : Int32 → wo_W → Prop} (hC : wo_Cx E "EdgeCacheModel" prog_14_method_5_code 4 0 0 ((Option.some Jvm.ClassFile.FieldType.int)) "lineEnd" mc ms p R s₀ m args meth cd) : ∀ n : Nat, ∀ {G : wo_W} {c s : Nat} {x0 : Nat} {x1 : Int32} {x2 : Int32} {x3 : Int32}, pq_Md_lineEnd_2 E mc ms Post n G c s x0 x1 x2 x3 → ∀ {H : Heap} {locs : List Loc} {ls : Array Slot}, wo_Se E G H → va_S (en_A E) s₀.heap H locs → lx_has ls 4 [(0, 1, .ref x0), (1, 1, .int x1), (2, 1, .int x2), (3, 1, .int x3)] → c ≤ mc → s ≤ ms → W p l e R s₀ m args below meth cd H locs c s (MQ below (va_Qi Post (wo_B E) (en_A E)) args s₀ mc ms (en_A E)) (F0 m 2 ls []) := by
  intro n
  induction n with
  | zero => intro G c s x0 x1 x2 x3 hw; exact hw.elim
  | succ n ih =>
    intro G c s x0 x1 x2 x3 hw H locs ls hG hS hl hcc hss
    dsimp only [pq_Md_lineEnd_2] at hw
    have hx := hC.1
    have hb := hC.2.1
    refine lv_iload_n hx hb dq_Md_lineEnd_2 rfl (lx_at hl 3 rfl) ?_
    refine lv_aload_n hx hb dq_Md_lineEnd_3 rfl (lx_at hl 0 rfl) ?_
    obtain ⟨t1, hw⟩ := hw
    refine wo_getR hC fq_Md_13 rfl hG t1 dq_Md_lineEnd_4 (fun r2 e3 => ?_)
    replace hw := hw r2 e3
    refine lv_iload_n hx hb dq_Md_lineEnd_7 rfl (lx_at hl 1 rfl) ?_
    obtain ⟨a4, rfl, hw⟩ := hw
    obtain ⟨t5, hw⟩ := hw
    obtain ⟨h6, hw⟩ := hw
    refine wo_iald (j := 2) hC rfl hG t5 h6 dq_Md_lineEnd_8 ?_
    refine lv_icmp_ge (tgt := 37) hx hb dq_Md_lineEnd_9 rfl (fun h => ?_) (fun h => ?_)
    · replace hw := hw.1 h
      refine lv_aload_n hx hb dq_Md_lineEnd_37 rfl (lx_at hl 0 rfl) ?_
      refine wo_getR hC fq_Md_13 rfl hG t1 dq_Md_lineEnd_38 (fun r7 e8 => ?_)
      replace hw := hw r7 e8
      refine lv_iload_n hx hb dq_Md_lineEnd_41 rfl (lx_at hl 1 rfl) ?_
      obtain ⟨a9, rfl, hw⟩ := hw
      obtain ⟨t10, hw⟩ := hw
      obtain ⟨h11, hw⟩ := hw
      refine wo_iald (j := 2) hC rfl hG t10 h11 dq_Md_lineEnd_42 ?_
      refine lv_iload_n hx hb dq_Md_lineEnd_43 rfl (lx_at hl 2 rfl) ?_
      refine lv_isub hx hb dq_Md_lineEnd_44 ?_
      refine lv_bipush (v := (20 : Int32)) hx hb dq_Md_lineEnd_45 rfl ?_
      refine lv_icmp_le (tgt := 55) hx hb dq_Md_lineEnd_47 rfl (fun h => ?_) (fun h => ?_)
      · replace hw := hw.1 h
        refine lv_iconst (v := (-1 : Int32)) hx hb dq_Md_lineEnd_55 rfl ?_
        exact tq_Md_lineEnd_56 hC hw hG hS (lx_sub hl [] rfl) hcc hss
      · replace hw := hw.2 h
        refine lv_bipush (v := (-2 : Int32)) hx hb dq_Md_lineEnd_50 rfl ?_
        refine lv_goto (tgt := 56) hx hb dq_Md_lineEnd_52 rfl ?_
        exact tq_Md_lineEnd_56 hC hw hG hS (lx_sub hl [] rfl) hcc hss
    · replace hw := hw.2 h
      refine lv_aload_n hx hb dq_Md_lineEnd_12 rfl (lx_at hl 0 rfl) ?_
      refine wo_getR hC fq_Md_7 rfl hG t1 dq_Md_lineEnd_13 (fun r12 e13 => ?_)
      replace hw := hw r12 e13
      refine lv_sipush (v := (4200 : Int32)) hx hb dq_Md_lineEnd_16 rfl ?_
      refine lv_iload_n hx hb dq_Md_lineEnd_19 rfl (lx_at hl 1 rfl) ?_
      refine lv_imul hx hb dq_Md_lineEnd_20 ?_
      refine lv_iload_n hx hb dq_Md_lineEnd_21 rfl (lx_at hl 3 rfl) ?_
      refine lv_iadd hx hb dq_Md_lineEnd_22 ?_
      obtain ⟨a14, rfl, hw⟩ := hw
      obtain ⟨t15, hw⟩ := hw
      obtain ⟨h16, hw⟩ := hw
      refine wo_iald (j := 2) hC rfl hG t15 h16 dq_Md_lineEnd_23 ?_
      refine lv_bipush (v := (10 : Int32)) hx hb dq_Md_lineEnd_24 rfl ?_
      refine lv_icmp_ne (tgt := 31) hx hb dq_Md_lineEnd_26 rfl (fun h => ?_) (fun h => ?_)
      · replace hw := hw.1 h
        refine lx_iinc (k := 3) (v := (x3 + (1 : Int32))) (lv' := [(3, 1, .int (x3 + (1 : Int32))), (0, 1, .ref x0), (1, 1, .int x1), (2, 1, .int x2)]) hx hb dq_Md_lineEnd_31 hl rfl rfl (by decide) rfl (fun ls hl' => ?_)
        clear hl
        have hl := hl'
        clear hl'
        refine lv_goto (tgt := 2) hx hb dq_Md_lineEnd_34 rfl ?_
        exact ih hw hG hS (lx_sub hl [1, 2, 3, 0] rfl) hcc hss
      · replace hw := hw.2 h
        refine lv_iload_n hx hb dq_Md_lineEnd_29 rfl (lx_at hl 3 rfl) ?_
        exact wo_iret hC hG hS hcc hss hw dq_Md_lineEnd_30
set_option maxRecDepth 100000 in
set_option maxHeartbeats 4000000 in
theorem tq_Md_lineEnd_0 {p : Program} {l : Launch} {e : Env} {R : Room} {s₀ : State} {m : MethodId} {args : Array Value} {below : List Frame} {meth : Method} {cd : Code} {E : wo_E} {mc ms : Nat} {Post : Int32 → wo_W → Prop} (hC : wo_Cx E "EdgeCacheModel" prog_14_method_5_code 4 0 0 ((Option.some Jvm.ClassFile.FieldType.int)) "lineEnd" mc ms p R s₀ m args meth cd) : ∀ {G : wo_W} {c s : Nat} {x0 : Nat} {x1 : Int32} {x2 : Int32}, pq_Md_lineEnd_0 E mc ms Post G c s x0 x1 x2 → ∀ {H : Heap} {locs : List Loc} {ls : Array Slot}, wo_Se E G H → va_S (en_A E) s₀.heap H locs → lx_has ls 4 [(0, 1, .ref x0), (1, 1, .int x1), (2, 1, .int x2)] → c ≤ mc → s ≤ ms → W p l e R s₀ m args below meth cd H locs c s (MQ below (va_Qi Post (wo_B E) (en_A E)) args s₀ mc ms (en_A E)) (F0 m 0 ls []) := by
  intro G c s x0 x1 x2 hw H locs ls hG hS hl hcc hss
  dsimp only [pq_Md_lineEnd_0] at hw
  have hx := hC.1
  have hb := hC.2.1
  refine lv_iload_n hx hb dq_Md_lineEnd_0 rfl (lx_at hl 2 rfl) ?_
  refine lx_istore_n (lv' := [(3, 1, .int x2), (0, 1, .ref x0), (1, 1, .int x1), (2, 1, .int x2)]) hx hb dq_Md_lineEnd_1 rfl hl (by decide) rfl (fun ls hl' => ?_)
  clear hl
  have hl := hl'
  clear hl'
  obtain ⟨n1, hw⟩ := hw
  exact tq_Md_lineEnd_2 hC n1 hw hG hS (lx_sub hl [1, 2, 3, 0] rfl) hcc hss
set_option maxHeartbeats 4000000 in
theorem mq_Md_lineEnd {l : Launch} {E : wo_E} {mc ms : Nat} {Post : Int32 → wo_W → Prop} {G : wo_W} {x0 : Nat} {x1 : Int32} {x2 : Int32} (hw : pq_Md_lineEnd E mc ms Post G x0 x1 x2) : Met l yq_Md_lineEnd (Cond.code yq_Md_lineEnd prog_14_method_5_code 4 ((Option.some Jvm.ClassFile.FieldType.int)) :: vw_WG) { frames := 0, cells := mc, slots := ms, locals := 0 } (va_Pc [.ref x0, .int x1, .int x2] (wo_Ok E G)) (va_Qi Post (wo_B E) (en_A E)) mc ms (en_A E) := by
  unfold pq_Md_lineEnd at hw
  exact wo_met [(1, .ref x0), (1, .int x1), (1, .int x2)] rfl (by decide) (fun q hq => by simp only [List.mem_cons, List.not_mem_nil, or_false] at hq; rcases hq with rfl | rfl | rfl <;> first | rfl | exact lx_cR _) (Nat.le_of_ble_eq_true rfl) (fun p e R s m args below meth cd ls hC hG hS hl => tq_Md_lineEnd_0 hC hw hG hS (lx_sub hl [0, 1, 2] rfl) (Nat.zero_le _) (Nat.zero_le _))

theorem dq_Md_chunks_0 : decode prog_14_method_14_code 0 = .ok (.iload_n 2, 1) := by decide +kernel
theorem dq_Md_chunks_1 : decode prog_14_method_14_code 1 = .ok (.istore_n 3, 1) := by decide +kernel
theorem dq_Md_chunks_2 : decode prog_14_method_14_code 2 = .ok (.aload_n 0, 1) := by decide +kernel
theorem dq_Md_chunks_3 : decode prog_14_method_14_code 3 = .ok (.getfield 57, 3) := by decide +kernel
theorem dq_Md_chunks_6 : decode prog_14_method_14_code 6 = .ok (.bipush 8, 2) := by decide +kernel
theorem dq_Md_chunks_8 : decode prog_14_method_14_code 8 = .ok (.lconst 0, 1) := by decide +kernel
theorem dq_Md_chunks_9 : decode prog_14_method_14_code 9 = .ok (.lastore, 1) := by decide +kernel
theorem dq_Md_chunks_10 : decode prog_14_method_14_code 10 = .ok (.aload_n 0, 1) := by decide +kernel
theorem dq_Md_chunks_11 : decode prog_14_method_14_code 11 = .ok (.getfield 60, 3) := by decide +kernel
theorem dq_Md_chunks_14 : decode prog_14_method_14_code 14 = .ok (.bipush 8, 2) := by decide +kernel
theorem dq_Md_chunks_16 : decode prog_14_method_14_code 16 = .ok (.iconst 0, 1) := by decide +kernel
theorem dq_Md_chunks_17 : decode prog_14_method_14_code 17 = .ok (.iastore, 1) := by decide +kernel
theorem dq_Md_chunks_18 : decode prog_14_method_14_code 18 = .ok (.iconst 1, 1) := by decide +kernel
theorem dq_Md_chunks_19 : decode prog_14_method_14_code 19 = .ok (.istore 4, 2) := by decide +kernel
theorem dq_Md_chunks_21 : decode prog_14_method_14_code 21 = .ok (.iload 4, 2) := by decide +kernel
theorem dq_Md_chunks_23 : decode prog_14_method_14_code 23 = .ok (.ifCond .le 223, 3) := by decide +kernel
theorem dq_Md_chunks_26 : decode prog_14_method_14_code 26 = .ok (.aload_n 0, 1) := by decide +kernel
theorem dq_Md_chunks_27 : decode prog_14_method_14_code 27 = .ok (.iload_n 1, 1) := by decide +kernel
theorem dq_Md_chunks_28 : decode prog_14_method_14_code 28 = .ok (.iload_n 3, 1) := by decide +kernel
theorem dq_Md_chunks_29 : decode prog_14_method_14_code 29 = .ok (.invokevirtual 202, 3) := by decide +kernel
theorem dq_Md_chunks_32 : decode prog_14_method_14_code 32 = .ok (.istore 5, 2) := by decide +kernel
theorem dq_Md_chunks_34 : decode prog_14_method_14_code 34 = .ok (.iload 5, 2) := by decide +kernel
theorem dq_Md_chunks_36 : decode prog_14_method_14_code 36 = .ok (.ifCond .ge 17, 3) := by decide +kernel
theorem dq_Md_chunks_39 : decode prog_14_method_14_code 39 = .ok (.iload 5, 2) := by decide +kernel
theorem dq_Md_chunks_41 : decode prog_14_method_14_code 41 = .ok (.iconst (-1), 1) := by decide +kernel
theorem dq_Md_chunks_42 : decode prog_14_method_14_code 42 = .ok (.if_icmp .ne 7, 3) := by decide +kernel
theorem dq_Md_chunks_45 : decode prog_14_method_14_code 45 = .ok (.iconst 0, 1) := by decide +kernel
theorem dq_Md_chunks_46 : decode prog_14_method_14_code 46 = .ok (.goto 6, 3) := by decide +kernel
theorem dq_Md_chunks_49 : decode prog_14_method_14_code 49 = .ok (.sipush 431, 3) := by decide +kernel
theorem dq_Md_chunks_52 : decode prog_14_method_14_code 52 = .ok (.ireturn, 1) := by decide +kernel
theorem dq_Md_chunks_53 : decode prog_14_method_14_code 53 = .ok (.iload 5, 2) := by decide +kernel
theorem dq_Md_chunks_55 : decode prog_14_method_14_code 55 = .ok (.iload_n 3, 1) := by decide +kernel
theorem dq_Md_chunks_56 : decode prog_14_method_14_code 56 = .ok (.isub, 1) := by decide +kernel
theorem dq_Md_chunks_57 : decode prog_14_method_14_code 57 = .ok (.iconst 1, 1) := by decide +kernel
theorem dq_Md_chunks_58 : decode prog_14_method_14_code 58 = .ok (.if_icmp .ne 21, 3) := by decide +kernel
theorem dq_Md_chunks_61 : decode prog_14_method_14_code 61 = .ok (.aload_n 0, 1) := by decide +kernel
theorem dq_Md_chunks_62 : decode prog_14_method_14_code 62 = .ok (.getfield 7, 3) := by decide +kernel
theorem dq_Md_chunks_65 : decode prog_14_method_14_code 65 = .ok (.sipush 4200, 3) := by decide +kernel
theorem dq_Md_chunks_68 : decode prog_14_method_14_code 68 = .ok (.iload_n 1, 1) := by decide +kernel
theorem dq_Md_chunks_69 : decode prog_14_method_14_code 69 = .ok (.imul, 1) := by decide +kernel
theorem dq_Md_chunks_70 : decode prog_14_method_14_code 70 = .ok (.iload_n 3, 1) := by decide +kernel
theorem dq_Md_chunks_71 : decode prog_14_method_14_code 71 = .ok (.iadd, 1) := by decide +kernel
theorem dq_Md_chunks_72 : decode prog_14_method_14_code 72 = .ok (.iaload, 1) := by decide +kernel
theorem dq_Md_chunks_73 : decode prog_14_method_14_code 73 = .ok (.invokestatic 236, 3) := by decide +kernel
theorem dq_Md_chunks_76 : decode prog_14_method_14_code 76 = .ok (.goto 4, 3) := by decide +kernel
theorem dq_Md_chunks_79 : decode prog_14_method_14_code 79 = .ok (.iconst (-1), 1) := by decide +kernel
theorem dq_Md_chunks_80 : decode prog_14_method_14_code 80 = .ok (.istore 4, 2) := by decide +kernel
theorem dq_Md_chunks_82 : decode prog_14_method_14_code 82 = .ok (.iload 4, 2) := by decide +kernel
theorem dq_Md_chunks_84 : decode prog_14_method_14_code 84 = .ok (.ifCond .ge 7, 3) := by decide +kernel
theorem dq_Md_chunks_87 : decode prog_14_method_14_code 87 = .ok (.sipush 400, 3) := by decide +kernel
theorem dq_Md_chunks_90 : decode prog_14_method_14_code 90 = .ok (.ireturn, 1) := by decide +kernel
theorem dq_Md_chunks_91 : decode prog_14_method_14_code 91 = .ok (.aload_n 0, 1) := by decide +kernel
theorem dq_Md_chunks_92 : decode prog_14_method_14_code 92 = .ok (.getfield 60, 3) := by decide +kernel
theorem dq_Md_chunks_95 : decode prog_14_method_14_code 95 = .ok (.bipush 8, 2) := by decide +kernel
theorem dq_Md_chunks_97 : decode prog_14_method_14_code 97 = .ok (.iaload, 1) := by decide +kernel
theorem dq_Md_chunks_98 : decode prog_14_method_14_code 98 = .ok (.iload 4, 2) := by decide +kernel
theorem dq_Md_chunks_100 : decode prog_14_method_14_code 100 = .ok (.iadd, 1) := by decide +kernel
theorem dq_Md_chunks_101 : decode prog_14_method_14_code 101 = .ok (.bipush 8, 2) := by decide +kernel
theorem dq_Md_chunks_103 : decode prog_14_method_14_code 103 = .ok (.if_icmp .le 7, 3) := by decide +kernel
theorem dq_Md_chunks_106 : decode prog_14_method_14_code 106 = .ok (.sipush 413, 3) := by decide +kernel
theorem dq_Md_chunks_109 : decode prog_14_method_14_code 109 = .ok (.ireturn, 1) := by decide +kernel
theorem dq_Md_chunks_110 : decode prog_14_method_14_code 110 = .ok (.iload 5, 2) := by decide +kernel
theorem dq_Md_chunks_112 : decode prog_14_method_14_code 112 = .ok (.iconst 1, 1) := by decide +kernel
theorem dq_Md_chunks_113 : decode prog_14_method_14_code 113 = .ok (.iadd, 1) := by decide +kernel
theorem dq_Md_chunks_114 : decode prog_14_method_14_code 114 = .ok (.istore_n 3, 1) := by decide +kernel
theorem dq_Md_chunks_115 : decode prog_14_method_14_code 115 = .ok (.iload 4, 2) := by decide +kernel
theorem dq_Md_chunks_117 : decode prog_14_method_14_code 117 = .ok (.ifCond .le 18, 3) := by decide +kernel
theorem dq_Md_chunks_120 : decode prog_14_method_14_code 120 = .ok (.aload_n 0, 1) := by decide +kernel
theorem dq_Md_chunks_121 : decode prog_14_method_14_code 121 = .ok (.getfield 13, 3) := by decide +kernel
theorem dq_Md_chunks_124 : decode prog_14_method_14_code 124 = .ok (.iload_n 1, 1) := by decide +kernel
theorem dq_Md_chunks_125 : decode prog_14_method_14_code 125 = .ok (.iaload, 1) := by decide +kernel
theorem dq_Md_chunks_126 : decode prog_14_method_14_code 126 = .ok (.iload_n 3, 1) := by decide +kernel
theorem dq_Md_chunks_127 : decode prog_14_method_14_code 127 = .ok (.isub, 1) := by decide +kernel
theorem dq_Md_chunks_128 : decode prog_14_method_14_code 128 = .ok (.iload 4, 2) := by decide +kernel
theorem dq_Md_chunks_130 : decode prog_14_method_14_code 130 = .ok (.if_icmp .gt 5, 3) := by decide +kernel
theorem dq_Md_chunks_133 : decode prog_14_method_14_code 133 = .ok (.iconst 0, 1) := by decide +kernel
theorem dq_Md_chunks_134 : decode prog_14_method_14_code 134 = .ok (.ireturn, 1) := by decide +kernel
theorem dq_Md_chunks_135 : decode prog_14_method_14_code 135 = .ok (.iconst 0, 1) := by decide +kernel
theorem dq_Md_chunks_136 : decode prog_14_method_14_code 136 = .ok (.istore 6, 2) := by decide +kernel
theorem dq_Md_chunks_138 : decode prog_14_method_14_code 138 = .ok (.iload 6, 2) := by decide +kernel
theorem dq_Md_chunks_140 : decode prog_14_method_14_code 140 = .ok (.iload 4, 2) := by decide +kernel
theorem dq_Md_chunks_142 : decode prog_14_method_14_code 142 = .ok (.if_icmp .ge 57, 3) := by decide +kernel
theorem dq_Md_chunks_145 : decode prog_14_method_14_code 145 = .ok (.aload_n 0, 1) := by decide +kernel
theorem dq_Md_chunks_146 : decode prog_14_method_14_code 146 = .ok (.getfield 57, 3) := by decide +kernel
theorem dq_Md_chunks_149 : decode prog_14_method_14_code 149 = .ok (.bipush 8, 2) := by decide +kernel
theorem dq_Md_chunks_151 : decode prog_14_method_14_code 151 = .ok (.dup2, 1) := by decide +kernel
theorem dq_Md_chunks_152 : decode prog_14_method_14_code 152 = .ok (.laload, 1) := by decide +kernel
theorem dq_Md_chunks_153 : decode prog_14_method_14_code 153 = .ok (.aload_n 0, 1) := by decide +kernel
theorem dq_Md_chunks_154 : decode prog_14_method_14_code 154 = .ok (.getfield 7, 3) := by decide +kernel
theorem dq_Md_chunks_157 : decode prog_14_method_14_code 157 = .ok (.sipush 4200, 3) := by decide +kernel
theorem dq_Md_chunks_160 : decode prog_14_method_14_code 160 = .ok (.iload_n 1, 1) := by decide +kernel
theorem dq_Md_chunks_161 : decode prog_14_method_14_code 161 = .ok (.imul, 1) := by decide +kernel
theorem dq_Md_chunks_162 : decode prog_14_method_14_code 162 = .ok (.iload_n 3, 1) := by decide +kernel
theorem dq_Md_chunks_163 : decode prog_14_method_14_code 163 = .ok (.iadd, 1) := by decide +kernel
theorem dq_Md_chunks_164 : decode prog_14_method_14_code 164 = .ok (.iload 6, 2) := by decide +kernel
theorem dq_Md_chunks_166 : decode prog_14_method_14_code 166 = .ok (.iadd, 1) := by decide +kernel
theorem dq_Md_chunks_167 : decode prog_14_method_14_code 167 = .ok (.iaload, 1) := by decide +kernel
theorem dq_Md_chunks_168 : decode prog_14_method_14_code 168 = .ok (.i2l, 1) := by decide +kernel
theorem dq_Md_chunks_169 : decode prog_14_method_14_code 169 = .ok (.bipush 8, 2) := by decide +kernel
theorem dq_Md_chunks_171 : decode prog_14_method_14_code 171 = .ok (.aload_n 0, 1) := by decide +kernel
theorem dq_Md_chunks_172 : decode prog_14_method_14_code 172 = .ok (.getfield 60, 3) := by decide +kernel
theorem dq_Md_chunks_175 : decode prog_14_method_14_code 175 = .ok (.bipush 8, 2) := by decide +kernel
theorem dq_Md_chunks_177 : decode prog_14_method_14_code 177 = .ok (.iaload, 1) := by decide +kernel
theorem dq_Md_chunks_178 : decode prog_14_method_14_code 178 = .ok (.imul, 1) := by decide +kernel
theorem dq_Md_chunks_179 : decode prog_14_method_14_code 179 = .ok (.lshl, 1) := by decide +kernel
theorem dq_Md_chunks_180 : decode prog_14_method_14_code 180 = .ok (.lor, 1) := by decide +kernel
theorem dq_Md_chunks_181 : decode prog_14_method_14_code 181 = .ok (.lastore, 1) := by decide +kernel
theorem dq_Md_chunks_182 : decode prog_14_method_14_code 182 = .ok (.aload_n 0, 1) := by decide +kernel
theorem dq_Md_chunks_183 : decode prog_14_method_14_code 183 = .ok (.getfield 60, 3) := by decide +kernel
theorem dq_Md_chunks_186 : decode prog_14_method_14_code 186 = .ok (.bipush 8, 2) := by decide +kernel
theorem dq_Md_chunks_188 : decode prog_14_method_14_code 188 = .ok (.dup2, 1) := by decide +kernel
theorem dq_Md_chunks_189 : decode prog_14_method_14_code 189 = .ok (.iaload, 1) := by decide +kernel
theorem dq_Md_chunks_190 : decode prog_14_method_14_code 190 = .ok (.iconst 1, 1) := by decide +kernel
theorem dq_Md_chunks_191 : decode prog_14_method_14_code 191 = .ok (.iadd, 1) := by decide +kernel
theorem dq_Md_chunks_192 : decode prog_14_method_14_code 192 = .ok (.iastore, 1) := by decide +kernel
theorem dq_Md_chunks_193 : decode prog_14_method_14_code 193 = .ok (.iinc 6 1, 3) := by decide +kernel
theorem dq_Md_chunks_196 : decode prog_14_method_14_code 196 = .ok (.goto (-58), 3) := by decide +kernel
theorem dq_Md_chunks_199 : decode prog_14_method_14_code 199 = .ok (.iload_n 3, 1) := by decide +kernel
theorem dq_Md_chunks_200 : decode prog_14_method_14_code 200 = .ok (.iload 4, 2) := by decide +kernel
theorem dq_Md_chunks_202 : decode prog_14_method_14_code 202 = .ok (.iadd, 1) := by decide +kernel
theorem dq_Md_chunks_203 : decode prog_14_method_14_code 203 = .ok (.istore_n 3, 1) := by decide +kernel
theorem dq_Md_chunks_204 : decode prog_14_method_14_code 204 = .ok (.iload 4, 2) := by decide +kernel
theorem dq_Md_chunks_206 : decode prog_14_method_14_code 206 = .ok (.ifCond .le 24, 3) := by decide +kernel
theorem dq_Md_chunks_209 : decode prog_14_method_14_code 209 = .ok (.aload_n 0, 1) := by decide +kernel
theorem dq_Md_chunks_210 : decode prog_14_method_14_code 210 = .ok (.getfield 7, 3) := by decide +kernel
theorem dq_Md_chunks_213 : decode prog_14_method_14_code 213 = .ok (.sipush 4200, 3) := by decide +kernel
theorem dq_Md_chunks_216 : decode prog_14_method_14_code 216 = .ok (.iload_n 1, 1) := by decide +kernel
theorem dq_Md_chunks_217 : decode prog_14_method_14_code 217 = .ok (.imul, 1) := by decide +kernel
theorem dq_Md_chunks_218 : decode prog_14_method_14_code 218 = .ok (.iload_n 3, 1) := by decide +kernel
theorem dq_Md_chunks_219 : decode prog_14_method_14_code 219 = .ok (.iadd, 1) := by decide +kernel
theorem dq_Md_chunks_220 : decode prog_14_method_14_code 220 = .ok (.iaload, 1) := by decide +kernel
theorem dq_Md_chunks_221 : decode prog_14_method_14_code 221 = .ok (.bipush 10, 2) := by decide +kernel
theorem dq_Md_chunks_223 : decode prog_14_method_14_code 223 = .ok (.if_icmp .eq 7, 3) := by decide +kernel
theorem dq_Md_chunks_226 : decode prog_14_method_14_code 226 = .ok (.sipush 400, 3) := by decide +kernel
theorem dq_Md_chunks_229 : decode prog_14_method_14_code 229 = .ok (.ireturn, 1) := by decide +kernel
theorem dq_Md_chunks_230 : decode prog_14_method_14_code 230 = .ok (.iload 4, 2) := by decide +kernel
theorem dq_Md_chunks_232 : decode prog_14_method_14_code 232 = .ok (.ifCond .le 9, 3) := by decide +kernel
theorem dq_Md_chunks_235 : decode prog_14_method_14_code 235 = .ok (.iload_n 3, 1) := by decide +kernel
theorem dq_Md_chunks_236 : decode prog_14_method_14_code 236 = .ok (.iconst 1, 1) := by decide +kernel
theorem dq_Md_chunks_237 : decode prog_14_method_14_code 237 = .ok (.iadd, 1) := by decide +kernel
theorem dq_Md_chunks_238 : decode prog_14_method_14_code 238 = .ok (.goto 4, 3) := by decide +kernel
theorem dq_Md_chunks_241 : decode prog_14_method_14_code 241 = .ok (.iload_n 3, 1) := by decide +kernel
theorem dq_Md_chunks_242 : decode prog_14_method_14_code 242 = .ok (.istore_n 3, 1) := by decide +kernel
theorem dq_Md_chunks_243 : decode prog_14_method_14_code 243 = .ok (.goto (-222), 3) := by decide +kernel
theorem dq_Md_chunks_246 : decode prog_14_method_14_code 246 = .ok (.aload_n 0, 1) := by decide +kernel
theorem dq_Md_chunks_247 : decode prog_14_method_14_code 247 = .ok (.iload_n 1, 1) := by decide +kernel
theorem dq_Md_chunks_248 : decode prog_14_method_14_code 248 = .ok (.iload_n 3, 1) := by decide +kernel
theorem dq_Md_chunks_249 : decode prog_14_method_14_code 249 = .ok (.invokevirtual 202, 3) := by decide +kernel
theorem dq_Md_chunks_252 : decode prog_14_method_14_code 252 = .ok (.istore 5, 2) := by decide +kernel
theorem dq_Md_chunks_254 : decode prog_14_method_14_code 254 = .ok (.iload 5, 2) := by decide +kernel
theorem dq_Md_chunks_256 : decode prog_14_method_14_code 256 = .ok (.iload_n 3, 1) := by decide +kernel
theorem dq_Md_chunks_257 : decode prog_14_method_14_code 257 = .ok (.if_icmp .le 19, 3) := by decide +kernel
theorem dq_Md_chunks_260 : decode prog_14_method_14_code 260 = .ok (.iload 5, 2) := by decide +kernel
theorem dq_Md_chunks_262 : decode prog_14_method_14_code 262 = .ok (.iconst 1, 1) := by decide +kernel
theorem dq_Md_chunks_263 : decode prog_14_method_14_code 263 = .ok (.iadd, 1) := by decide +kernel
theorem dq_Md_chunks_264 : decode prog_14_method_14_code 264 = .ok (.istore_n 3, 1) := by decide +kernel
theorem dq_Md_chunks_265 : decode prog_14_method_14_code 265 = .ok (.aload_n 0, 1) := by decide +kernel
theorem dq_Md_chunks_266 : decode prog_14_method_14_code 266 = .ok (.iload_n 1, 1) := by decide +kernel
theorem dq_Md_chunks_267 : decode prog_14_method_14_code 267 = .ok (.iload_n 3, 1) := by decide +kernel
theorem dq_Md_chunks_268 : decode prog_14_method_14_code 268 = .ok (.invokevirtual 202, 3) := by decide +kernel
theorem dq_Md_chunks_271 : decode prog_14_method_14_code 271 = .ok (.istore 5, 2) := by decide +kernel
theorem dq_Md_chunks_273 : decode prog_14_method_14_code 273 = .ok (.goto (-19), 3) := by decide +kernel
theorem dq_Md_chunks_276 : decode prog_14_method_14_code 276 = .ok (.iload 5, 2) := by decide +kernel
theorem dq_Md_chunks_278 : decode prog_14_method_14_code 278 = .ok (.bipush (-2), 2) := by decide +kernel
theorem dq_Md_chunks_280 : decode prog_14_method_14_code 280 = .ok (.if_icmp .ne 9, 3) := by decide +kernel
theorem dq_Md_chunks_283 : decode prog_14_method_14_code 283 = .ok (.sipush 431, 3) := by decide +kernel
theorem dq_Md_chunks_286 : decode prog_14_method_14_code 286 = .ok (.goto 14, 3) := by decide +kernel
theorem dq_Md_chunks_289 : decode prog_14_method_14_code 289 = .ok (.iload 5, 2) := by decide +kernel
theorem dq_Md_chunks_291 : decode prog_14_method_14_code 291 = .ok (.iconst (-1), 1) := by decide +kernel
theorem dq_Md_chunks_292 : decode prog_14_method_14_code 292 = .ok (.if_icmp .ne 7, 3) := by decide +kernel
theorem dq_Md_chunks_295 : decode prog_14_method_14_code 295 = .ok (.iconst 0, 1) := by decide +kernel
theorem dq_Md_chunks_296 : decode prog_14_method_14_code 296 = .ok (.goto 4, 3) := by decide +kernel
theorem dq_Md_chunks_299 : decode prog_14_method_14_code 299 = .ok (.iconst 1, 1) := by decide +kernel
theorem dq_Md_chunks_300 : decode prog_14_method_14_code 300 = .ok (.ireturn, 1) := by decide +kernel
set_option maxRecDepth 100000 in
def pq_Md_chunks_300 (E : wo_E) (mc ms : Nat) (Post : Int32 → wo_W → Prop) (G : wo_W) (c s : Nat) (y0 : Int32) : Prop := Post y0 G
set_option maxRecDepth 100000 in
def pq_Md_chunks_254 (E : wo_E) (mc ms : Nat) (Post : Int32 → wo_W → Prop) : Nat → wo_W → Nat → Nat → Nat → Int32 → Int32 → Int32 → Prop
  | 0 => fun _ _ _ _ _ _ _ => False
  | n + 1 => fun G c s x0 x1 x3 x5 => ((x5 ≤ x3 → ((¬ x5 = (-2 : Int32) → ((¬ x5 = (-1 : Int32) → pq_Md_chunks_300 E mc ms Post G c s (1 : Int32)) ∧
      (x5 = (-1 : Int32) → pq_Md_chunks_300 E mc ms Post G c s (0 : Int32)))) ∧
    (x5 = (-2 : Int32) → pq_Md_chunks_300 E mc ms Post G c s (431 : Int32)))) ∧
  (¬ x5 ≤ x3 → wo_ty G x0 = 15 ∧ ∃ mc2 ms3 : Nat, (c + mc2) ≤ mc ∧ (s + ms3) ≤ ms ∧ pq_Md_lineEnd E mc2 ms3 (fun v5 G4 => 
    pq_Md_chunks_254 E mc ms Post n G4 (c + mc2) (s + ms3) x0 x1 (x5 + (1 : Int32)) v5) G x0 x1 (x5 + (1 : Int32))))
set_option maxRecDepth 100000 in
def pq_Md_chunks_242 (E : wo_E) (mc ms : Nat) (Post : Int32 → wo_W → Prop) (k21 : wo_W → Nat → Nat → Nat → Int32 → Int32 → Int32 → Prop) (G : wo_W) (c s : Nat) (x0 : Nat) (x1 : Int32) (x4 : Int32) (y0 : Int32) : Prop := k21 G c s x0 x1 y0 x4
set_option maxRecDepth 100000 in
def pq_Md_chunks_230 (E : wo_E) (mc ms : Nat) (Post : Int32 → wo_W → Prop) (k21 : wo_W → Nat → Nat → Nat → Int32 → Int32 → Int32 → Prop) (G : wo_W) (c s : Nat) (x0 : Nat) (x1 : Int32) (x3 : Int32) (x4 : Int32) : Prop := ((x4 ≤ (0 : Int32) → pq_Md_chunks_242 E mc ms Post k21 G c s x0 x1 x4 x3) ∧
  (¬ x4 ≤ (0 : Int32) → pq_Md_chunks_242 E mc ms Post k21 G c s x0 x1 x4 (x3 + (1 : Int32))))
set_option maxRecDepth 100000 in
def pq_Md_chunks_138 (E : wo_E) (mc ms : Nat) (Post : Int32 → wo_W → Prop) (k21 : wo_W → Nat → Nat → Nat → Int32 → Int32 → Int32 → Prop) : Nat → wo_W → Nat → Nat → Nat → Int32 → Int32 → Int32 → Int32 → Prop
  | 0 => fun _ _ _ _ _ _ _ _ => False
  | n + 1 => fun G c s x0 x1 x3 x4 x6 => ((x4 ≤ x6 → ((x4 ≤ (0 : Int32) → pq_Md_chunks_230 E mc ms Post k21 G c s x0 x1 (x3 + x4) x4) ∧
    (¬ x4 ≤ (0 : Int32) → wo_ty G x0 = 15 ∧ ∀ r2 : Option Nat, r2 = wo_gr G 896 x0 → ∃ a4 : Nat, r2 = some a4 ∧ wo_ty G a4 = 66 ∧ vp_in (((4200 : Int32) * x1) + (x3 + x4)) (wo_len G a4) ∧ (((wo_ei G a4 (((4200 : Int32) * x1) + (x3 + x4)).toNatClampNeg) = (10 : Int32) → pq_Md_chunks_230 E mc ms Post k21 G c s x0 x1 (x3 + x4) x4) ∧
      (¬ (wo_ei G a4 (((4200 : Int32) * x1) + (x3 + x4)).toNatClampNeg) = (10 : Int32) → Post (400 : Int32) G))))) ∧
  (¬ x4 ≤ x6 → wo_ty G x0 = 15 ∧ ∀ r8 : Option Nat, r8 = wo_gr G 912 x0 → ∃ a10 : Nat, r8 = some a10 ∧ wo_ty G a10 = 73 ∧ vp_in (8 : Int32) (wo_len G a10) ∧ ∀ r13 : Option Nat, r13 = wo_gr G 896 x0 → ∃ a15 : Nat, r13 = some a15 ∧ wo_ty G a15 = 66 ∧ vp_in ((((4200 : Int32) * x1) + x3) + x6) (wo_len G a15) ∧ ∀ r18 : Option Nat, r18 = wo_gr G 913 x0 → ∃ a20 : Nat, r18 = some a20 ∧ wo_ty G a20 = 66 ∧ vp_in (8 : Int32) (wo_len G a20) ∧ vp_in (8 : Int32) (wo_len G a10) ∧ en_bs E ≤ a10 ∧ ∀ G25 : wo_W, G25 = wo_sel G a10 (8 : Int32).toNatClampNeg ((wo_el G a10 (8 : Int32).toNatClampNeg) ||| ((wo_ei G a15 ((((4200 : Int32) * x1) + x3) + x6).toNatClampNeg).toInt64 <<< (((8 : Int32) * (wo_ei G a20 (8 : Int32).toNatClampNeg)).toInt64 &&& 63))) → 
    ∀ r27 : Option Nat, r27 = wo_gr G25 913 x0 → ∃ a29 : Nat, r27 = some a29 ∧ wo_ty G25 a29 = 66 ∧ vp_in (8 : Int32) (wo_len G25 a29) ∧ vp_in (8 : Int32) (wo_len G25 a29) ∧ en_bs E ≤ a29 ∧ ∀ G34 : wo_W, G34 = wo_sei G25 a29 (8 : Int32).toNatClampNeg ((wo_ei G25 a29 (8 : Int32).toNatClampNeg) + (1 : Int32)) → 
    pq_Md_chunks_138 E mc ms Post k21 n G34 c s x0 x1 x3 x4 (x6 + (1 : Int32))))
set_option maxRecDepth 100000 in
def pq_Md_chunks_135 (E : wo_E) (mc ms : Nat) (Post : Int32 → wo_W → Prop) (k21 : wo_W → Nat → Nat → Nat → Int32 → Int32 → Int32 → Prop) (G : wo_W) (c s : Nat) (x0 : Nat) (x1 : Int32) (x3 : Int32) (x4 : Int32) : Prop := ∃ n1 : Nat, pq_Md_chunks_138 E mc ms Post k21 n1 G c s x0 x1 x3 x4 (0 : Int32)
set_option maxRecDepth 100000 in
def pq_Md_chunks_80 (E : wo_E) (mc ms : Nat) (Post : Int32 → wo_W → Prop) (k21 : wo_W → Nat → Nat → Nat → Int32 → Int32 → Int32 → Prop) (G : wo_W) (c s : Nat) (x0 : Nat) (x1 : Int32) (x5 : Int32) (y0 : Int32) : Prop := (((0 : Int32) ≤ y0 → wo_ty G x0 = 15 ∧ ∀ r2 : Option Nat, r2 = wo_gr G 913 x0 → ∃ a4 : Nat, r2 = some a4 ∧ wo_ty G a4 = 66 ∧ vp_in (8 : Int32) (wo_len G a4) ∧ ((((wo_ei G a4 (8 : Int32).toNatClampNeg) + y0) ≤ (8 : Int32) → ((y0 ≤ (0 : Int32) → pq_Md_chunks_135 E mc ms Post k21 G c s x0 x1 (x5 + (1 : Int32)) y0) ∧
      (¬ y0 ≤ (0 : Int32) → ∀ r7 : Option Nat, r7 = wo_gr G 897 x0 → ∃ a9 : Nat, r7 = some a9 ∧ wo_ty G a9 = 66 ∧ vp_in x1 (wo_len G a9) ∧ ((y0 < ((wo_ei G a9 x1.toNatClampNeg) - (x5 + (1 : Int32))) → pq_Md_chunks_135 E mc ms Post k21 G c s x0 x1 (x5 + (1 : Int32)) y0) ∧
        (¬ y0 < ((wo_ei G a9 x1.toNatClampNeg) - (x5 + (1 : Int32))) → Post (0 : Int32) G))))) ∧
    (¬ ((wo_ei G a4 (8 : Int32).toNatClampNeg) + y0) ≤ (8 : Int32) → Post (413 : Int32) G))) ∧
  (¬ (0 : Int32) ≤ y0 → Post (400 : Int32) G))
set_option maxRecDepth 100000 in
def pq_Md_chunks_52 (E : wo_E) (mc ms : Nat) (Post : Int32 → wo_W → Prop) (G : wo_W) (c s : Nat) (y0 : Int32) : Prop := Post y0 G
set_option maxRecDepth 100000 in
def pq_Md_chunks_21 (E : wo_E) (mc ms : Nat) (Post : Int32 → wo_W → Prop) : Nat → wo_W → Nat → Nat → Nat → Int32 → Int32 → Int32 → Prop
  | 0 => fun _ _ _ _ _ _ _ => False
  | n + 1 => fun G c s x0 x1 x3 x4 => ((x4 ≤ (0 : Int32) → wo_ty G x0 = 15 ∧ ∃ mc2 ms3 : Nat, (c + mc2) ≤ mc ∧ (s + ms3) ≤ ms ∧ pq_Md_lineEnd E mc2 ms3 (fun v5 G4 => 
    ∃ n1 : Nat, pq_Md_chunks_254 E mc ms Post n1 G4 (c + mc2) (s + ms3) x0 x1 x3 v5) G x0 x1 x3) ∧
  (¬ x4 ≤ (0 : Int32) → wo_ty G x0 = 15 ∧ ∃ mc7 ms8 : Nat, (c + mc7) ≤ mc ∧ (s + ms8) ≤ ms ∧ pq_Md_lineEnd E mc7 ms8 (fun v10 G9 => 
    (((0 : Int32) ≤ v10 → ((¬ (v10 - x3) = (1 : Int32) → pq_Md_chunks_80 E mc ms Post (pq_Md_chunks_21 E mc ms Post n) G9 (c + mc7) (s + ms8) x0 x1 v10 (-1 : Int32)) ∧
        ((v10 - x3) = (1 : Int32) → wo_ty G9 x0 = 15 ∧ ∀ r12 : Option Nat, r12 = wo_gr G9 896 x0 → ∃ a14 : Nat, r12 = some a14 ∧ wo_ty G9 a14 = 66 ∧ vp_in (((4200 : Int32) * x1) + x3) (wo_len G9 a14) ∧ ∃ mc17 ms18 : Nat, ((c + mc7) + mc17) ≤ mc ∧ ((s + ms8) + ms18) ≤ ms ∧ pq_Md_hex E mc17 ms18 (fun v20 G19 => 
          pq_Md_chunks_80 E mc ms Post (pq_Md_chunks_21 E mc ms Post n) G19 ((c + mc7) + mc17) ((s + ms8) + ms18) x0 x1 v10 v20) G9 (wo_ei G9 a14 (((4200 : Int32) * x1) + x3).toNatClampNeg)))) ∧
      (¬ (0 : Int32) ≤ v10 → ((¬ v10 = (-1 : Int32) → pq_Md_chunks_52 E mc ms Post G9 (c + mc7) (s + ms8) (431 : Int32)) ∧
        (v10 = (-1 : Int32) → pq_Md_chunks_52 E mc ms Post G9 (c + mc7) (s + ms8) (0 : Int32)))))) G x0 x1 x3))
set_option maxRecDepth 100000 in
def pq_Md_chunks_0 (E : wo_E) (mc ms : Nat) (Post : Int32 → wo_W → Prop) (G : wo_W) (c s : Nat) (x0 : Nat) (x1 : Int32) (x2 : Int32) : Prop := wo_ty G x0 = 15 ∧ ∀ r2 : Option Nat, r2 = wo_gr G 912 x0 → ∃ a4 : Nat, r2 = some a4 ∧ wo_ty G a4 = 73 ∧ vp_in (8 : Int32) (wo_len G a4) ∧ en_bs E ≤ a4 ∧ ∀ G8 : wo_W, G8 = wo_sel G a4 (8 : Int32).toNatClampNeg (0 : Int64) → 
  ∀ r10 : Option Nat, r10 = wo_gr G8 913 x0 → ∃ a12 : Nat, r10 = some a12 ∧ wo_ty G8 a12 = 66 ∧ vp_in (8 : Int32) (wo_len G8 a12) ∧ en_bs E ≤ a12 ∧ ∀ G16 : wo_W, G16 = wo_sei G8 a12 (8 : Int32).toNatClampNeg (0 : Int32) → 
  ∃ n1 : Nat, pq_Md_chunks_21 E mc ms Post n1 G16 c s x0 x1 x2 (1 : Int32)
def pq_Md_chunks (E : wo_E) (mc ms : Nat) (Post : Int32 → wo_W → Prop) (G : wo_W) (x0 : Nat) (x1 : Int32) (x2 : Int32) : Prop := pq_Md_chunks_0 E mc ms Post G 0 0 x0 x1 x2
set_option maxRecDepth 100000 in
set_option maxHeartbeats 4000000 in
theorem tq_Md_chunks_300 {p : Program} {l : Launch} {e : Env} {R : Room} {s₀ : State} {m : MethodId} {args : Array Value} {below : List Frame} {meth : Method} {cd : Code} {E : wo_E} {mc ms : Nat} {Post : Int32 → wo_W → Prop} (hC : wo_Cx E "EdgeCacheModel" prog_14_method_14_code 7 1 23 ((Option.some Jvm.ClassFile.FieldType.int)) "chunks" mc ms p R s₀ m args meth cd) : ∀ {G : wo_W} {c s : Nat} {y0 : Int32}, pq_Md_chunks_300 E mc ms Post G c s y0 → ∀ {H : Heap} {locs : List Loc} {ls : Array Slot}, wo_Se E G H → va_S (en_A E) s₀.heap H locs → lx_has ls 7 [] → c ≤ mc → s ≤ ms → W p l e R s₀ m args below meth cd H locs c s (MQ below (va_Qi Post (wo_B E) (en_A E)) args s₀ mc ms (en_A E)) (F0 m 300 ls [.int y0]) := by
  intro G c s y0 hw H locs ls hG hS hl hcc hss
  dsimp only [pq_Md_chunks_300] at hw
  have hx := hC.1
  have hb := hC.2.1
  exact wo_iret hC hG hS hcc hss hw dq_Md_chunks_300
set_option maxRecDepth 100000 in
set_option maxHeartbeats 4000000 in
theorem tq_Md_chunks_254 {p : Program} {l : Launch} {e : Env} {R : Room} {s₀ : State} {m : MethodId} {args : Array Value} {below : List Frame} {meth : Method} {cd : Code} {E : wo_E} {mc ms : Nat} {Post : Int32 → wo_W → Prop} (hC : wo_Cx E "EdgeCacheModel" prog_14_method_14_code 7 1 23 ((Option.some Jvm.ClassFile.FieldType.int)) "chunks" mc ms p R s₀ m args meth cd) : ∀ n : Nat, ∀ {G : wo_W} {c s : Nat} {x0 : Nat} {x1 : Int32} {x3 : Int32} {x5 : Int32}, pq_Md_chunks_254 E mc ms Post n G c s x0 x1 x3 x5 → ∀ {H : Heap} {locs : List Loc} {ls : Array Slot}, wo_Se E G H → va_S (en_A E) s₀.heap H locs → lx_has ls 7 [(0, 1, .ref x0), (1, 1, .int x1), (3, 1, .int x3), (5, 1, .int x5)] → c ≤ mc → s ≤ ms → W p l e R s₀ m args below meth cd H locs c s (MQ below (va_Qi Post (wo_B E) (en_A E)) args s₀ mc ms (en_A E)) (F0 m 254 ls []) := by
  intro n
  induction n with
  | zero => intro G c s x0 x1 x3 x5 hw; exact hw.elim
  | succ n ih =>
    intro G c s x0 x1 x3 x5 hw H locs ls hG hS hl hcc hss
    dsimp only [pq_Md_chunks_254] at hw
    have hx := hC.1
    have hb := hC.2.1
    refine lv_iload hx hb dq_Md_chunks_254 (lx_at hl 3 rfl) ?_
    refine lv_iload_n hx hb dq_Md_chunks_256 rfl (lx_at hl 2 rfl) ?_
    refine lv_icmp_le (tgt := 276) hx hb dq_Md_chunks_257 rfl (fun h => ?_) (fun h => ?_)
    · replace hw := hw.1 h
      refine lv_iload hx hb dq_Md_chunks_276 (lx_at hl 3 rfl) ?_
      refine lv_bipush (v := (-2 : Int32)) hx hb dq_Md_chunks_278 rfl ?_
      refine lv_icmp_ne (tgt := 289) hx hb dq_Md_chunks_280 rfl (fun h => ?_) (fun h => ?_)
      · replace hw := hw.1 h
        refine lv_iload hx hb dq_Md_chunks_289 (lx_at hl 3 rfl) ?_
        refine lv_iconst (v := (-1 : Int32)) hx hb dq_Md_chunks_291 rfl ?_
        refine lv_icmp_ne (tgt := 299) hx hb dq_Md_chunks_292 rfl (fun h => ?_) (fun h => ?_)
        · replace hw := hw.1 h
          refine lv_iconst (v := (1 : Int32)) hx hb dq_Md_chunks_299 rfl ?_
          exact tq_Md_chunks_300 hC hw hG hS (lx_sub hl [] rfl) hcc hss
        · replace hw := hw.2 h
          refine lv_iconst (v := (0 : Int32)) hx hb dq_Md_chunks_295 rfl ?_
          refine lv_goto (tgt := 300) hx hb dq_Md_chunks_296 rfl ?_
          exact tq_Md_chunks_300 hC hw hG hS (lx_sub hl [] rfl) hcc hss
      · replace hw := hw.2 h
        refine lv_sipush (v := (431 : Int32)) hx hb dq_Md_chunks_283 rfl ?_
        refine lv_goto (tgt := 300) hx hb dq_Md_chunks_286 rfl ?_
        exact tq_Md_chunks_300 hC hw hG hS (lx_sub hl [] rfl) hcc hss
    · replace hw := hw.2 h
      refine lv_iload hx hb dq_Md_chunks_260 (lx_at hl 3 rfl) ?_
      refine lv_iconst (v := (1 : Int32)) hx hb dq_Md_chunks_262 rfl ?_
      refine lv_iadd hx hb dq_Md_chunks_263 ?_
      refine lx_istore_n (lv' := [(3, 1, .int (x5 + (1 : Int32))), (0, 1, .ref x0), (1, 1, .int x1), (5, 1, .int x5)]) hx hb dq_Md_chunks_264 rfl hl (by decide) rfl (fun ls hl' => ?_)
      clear hl
      have hl := hl'
      clear hl'
      refine lv_aload_n hx hb dq_Md_chunks_265 rfl (lx_at hl 1 rfl) ?_
      refine lv_iload_n hx hb dq_Md_chunks_266 rfl (lx_at hl 2 rfl) ?_
      refine lv_iload_n hx hb dq_Md_chunks_267 rfl (lx_at hl 0 rfl) ?_
      obtain ⟨t1, hw⟩ := hw
      obtain ⟨mc2, ms3, hc1, hs1, hw⟩ := hw
      refine va_calli (wo_runV hC lq_Md_202 (mq_Md_lineEnd hw) hG hS t1 rfl (lx_sz hl) rfl (Nat.zero_le _) (by decide) dq_Md_chunks_268 ⟨hc1, hs1⟩) hS (fun _ _ h => h) (fun _ h => h) (fun v5 G4 t H locs ht hvm hw' hB _ _ hS => ?_)
      clear hw
      have hw := hw'
      clear hw'
      replace hG := wo_bk ht hB
      replace hcc := hc1
      replace hss := hs1
      refine lx_istore (lv' := [(5, 1, .int v5), (3, 1, .int (x5 + (1 : Int32))), (0, 1, .ref x0), (1, 1, .int x1)]) hx hb dq_Md_chunks_271 hl (by decide) rfl (fun ls hl' => ?_)
      clear hl
      have hl := hl'
      clear hl'
      refine lv_goto (tgt := 254) hx hb dq_Md_chunks_273 rfl ?_
      exact ih hw hG hS (lx_sub hl [2, 3, 1, 0] rfl) hcc hss
set_option maxRecDepth 100000 in
set_option maxHeartbeats 4000000 in
theorem tq_Md_chunks_242 {p : Program} {l : Launch} {e : Env} {R : Room} {s₀ : State} {m : MethodId} {args : Array Value} {below : List Frame} {meth : Method} {cd : Code} {E : wo_E} {mc ms : Nat} {Post : Int32 → wo_W → Prop} {k21 : wo_W → Nat → Nat → Nat → Int32 → Int32 → Int32 → Prop} (hC : wo_Cx E "EdgeCacheModel" prog_14_method_14_code 7 1 23 ((Option.some Jvm.ClassFile.FieldType.int)) "chunks" mc ms p R s₀ m args meth cd) (hk21 : ∀ {G : wo_W} {c s : Nat} {x0 : Nat} {x1 : Int32} {x3 : Int32} {x4 : Int32}, k21 G c s x0 x1 x3 x4 → ∀ {H : Heap} {locs : List Loc} {ls : Array Slot}, wo_Se E G H → va_S (en_A E) s₀.heap H locs → lx_has ls 7 [(0, 1, .ref x0), (1, 1, .int x1), (3, 1, .int x3), (4, 1, .int x4)] → c ≤ mc → s ≤ ms → W p l e R s₀ m args below meth cd H locs c s (MQ below (va_Qi Post (wo_B E) (en_A E)) args s₀ mc ms (en_A E)) (F0 m 21 ls [])) : ∀ {G : wo_W} {c s : Nat} {x0 : Nat} {x1 : Int32} {x4 : Int32} {y0 : Int32}, pq_Md_chunks_242 E mc ms Post k21 G c s x0 x1 x4 y0 → ∀ {H : Heap} {locs : List Loc} {ls : Array Slot}, wo_Se E G H → va_S (en_A E) s₀.heap H locs → lx_has ls 7 [(0, 1, .ref x0), (1, 1, .int x1), (4, 1, .int x4)] → c ≤ mc → s ≤ ms → W p l e R s₀ m args below meth cd H locs c s (MQ below (va_Qi Post (wo_B E) (en_A E)) args s₀ mc ms (en_A E)) (F0 m 242 ls [.int y0]) := by
  intro G c s x0 x1 x4 y0 hw H locs ls hG hS hl hcc hss
  dsimp only [pq_Md_chunks_242] at hw
  have hx := hC.1
  have hb := hC.2.1
  refine lx_istore_n (lv' := [(3, 1, .int y0), (0, 1, .ref x0), (1, 1, .int x1), (4, 1, .int x4)]) hx hb dq_Md_chunks_242 rfl hl (by decide) rfl (fun ls hl' => ?_)
  clear hl
  have hl := hl'
  clear hl'
  refine lv_goto (tgt := 21) hx hb dq_Md_chunks_243 rfl ?_
  exact hk21 hw hG hS (lx_sub hl [1, 2, 0, 3] rfl) hcc hss
set_option maxRecDepth 100000 in
set_option maxHeartbeats 4000000 in
theorem tq_Md_chunks_230 {p : Program} {l : Launch} {e : Env} {R : Room} {s₀ : State} {m : MethodId} {args : Array Value} {below : List Frame} {meth : Method} {cd : Code} {E : wo_E} {mc ms : Nat} {Post : Int32 → wo_W → Prop} {k21 : wo_W → Nat → Nat → Nat → Int32 → Int32 → Int32 → Prop} (hC : wo_Cx E "EdgeCacheModel" prog_14_method_14_code 7 1 23 ((Option.some Jvm.ClassFile.FieldType.int)) "chunks" mc ms p R s₀ m args meth cd) (hk21 : ∀ {G : wo_W} {c s : Nat} {x0 : Nat} {x1 : Int32} {x3 : Int32} {x4 : Int32}, k21 G c s x0 x1 x3 x4 → ∀ {H : Heap} {locs : List Loc} {ls : Array Slot}, wo_Se E G H → va_S (en_A E) s₀.heap H locs → lx_has ls 7 [(0, 1, .ref x0), (1, 1, .int x1), (3, 1, .int x3), (4, 1, .int x4)] → c ≤ mc → s ≤ ms → W p l e R s₀ m args below meth cd H locs c s (MQ below (va_Qi Post (wo_B E) (en_A E)) args s₀ mc ms (en_A E)) (F0 m 21 ls [])) : ∀ {G : wo_W} {c s : Nat} {x0 : Nat} {x1 : Int32} {x3 : Int32} {x4 : Int32}, pq_Md_chunks_230 E mc ms Post k21 G c s x0 x1 x3 x4 → ∀ {H : Heap} {locs : List Loc} {ls : Array Slot}, wo_Se E G H → va_S (en_A E) s₀.heap H locs → lx_has ls 7 [(0, 1, .ref x0), (1, 1, .int x1), (3, 1, .int x3), (4, 1, .int x4)] → c ≤ mc → s ≤ ms → W p l e R s₀ m args below meth cd H locs c s (MQ below (va_Qi Post (wo_B E) (en_A E)) args s₀ mc ms (en_A E)) (F0 m 230 ls []) := by
  intro G c s x0 x1 x3 x4 hw H locs ls hG hS hl hcc hss
  dsimp only [pq_Md_chunks_230] at hw
  have hx := hC.1
  have hb := hC.2.1
  refine lv_iload hx hb dq_Md_chunks_230 (lx_at hl 3 rfl) ?_
  refine lv_if_le (tgt := 241) hx hb dq_Md_chunks_232 rfl (fun h => ?_) (fun h => ?_)
  · replace hw := hw.1 h
    refine lv_iload_n hx hb dq_Md_chunks_241 rfl (lx_at hl 2 rfl) ?_
    exact tq_Md_chunks_242 hC hk21 hw hG hS (lx_sub hl [0, 1, 3] rfl) hcc hss
  · replace hw := hw.2 h
    refine lv_iload_n hx hb dq_Md_chunks_235 rfl (lx_at hl 2 rfl) ?_
    refine lv_iconst (v := (1 : Int32)) hx hb dq_Md_chunks_236 rfl ?_
    refine lv_iadd hx hb dq_Md_chunks_237 ?_
    refine lv_goto (tgt := 242) hx hb dq_Md_chunks_238 rfl ?_
    exact tq_Md_chunks_242 hC hk21 hw hG hS (lx_sub hl [0, 1, 3] rfl) hcc hss
set_option maxRecDepth 100000 in
set_option maxHeartbeats 4000000 in
theorem tq_Md_chunks_138 {p : Program} {l : Launch} {e : Env} {R : Room} {s₀ : State} {m : MethodId} {args : Array Value} {below : List Frame} {meth : Method} {cd : Code} {E : wo_E} {mc ms : Nat} {Post : Int32 → wo_W → Prop} {k21 : wo_W → Nat → Nat → Nat → Int32 → Int32 → Int32 → Prop} (hC : wo_Cx E "EdgeCacheModel" prog_14_method_14_code 7 1 23 ((Option.some Jvm.ClassFile.FieldType.int)) "chunks" mc ms p R s₀ m args meth cd) (hk21 : ∀ {G : wo_W} {c s : Nat} {x0 : Nat} {x1 : Int32} {x3 : Int32} {x4 : Int32}, k21 G c s x0 x1 x3 x4 → ∀ {H : Heap} {locs : List Loc} {ls : Array Slot}, wo_Se E G H → va_S (en_A E) s₀.heap H locs → lx_has ls 7 [(0, 1, .ref x0), (1, 1, .int x1), (3, 1, .int x3), (4, 1, .int x4)] → c ≤ mc → s ≤ ms → W p l e R s₀ m args below meth cd H locs c s (MQ below (va_Qi Post (wo_B E) (en_A E)) args s₀ mc ms (en_A E)) (F0 m 21 ls [])) : ∀ n : Nat, ∀ {G : wo_W} {c s : Nat} {x0 : Nat} {x1 : Int32} {x3 : Int32} {x4 : Int32} {x6 : Int32}, pq_Md_chunks_138 E mc ms Post k21 n G c s x0 x1 x3 x4 x6 → ∀ {H : Heap} {locs : List Loc} {ls : Array Slot}, wo_Se E G H → va_S (en_A E) s₀.heap H locs → lx_has ls 7 [(0, 1, .ref x0), (1, 1, .int x1), (3, 1, .int x3), (4, 1, .int x4), (6, 1, .int x6)] → c ≤ mc → s ≤ ms → W p l e R s₀ m args below meth cd H locs c s (MQ below (va_Qi Post (wo_B E) (en_A E)) args s₀ mc ms (en_A E)) (F0 m 138 ls []) := by
  intro n
  induction n with
  | zero => intro G c s x0 x1 x3 x4 x6 hw; exact hw.elim
  | succ n ih =>
    intro G c s x0 x1 x3 x4 x6 hw H locs ls hG hS hl hcc hss
    dsimp only [pq_Md_chunks_138] at hw
    have hx := hC.1
    have hb := hC.2.1
    refine lv_iload hx hb dq_Md_chunks_138 (lx_at hl 4 rfl) ?_
    refine lv_iload hx hb dq_Md_chunks_140 (lx_at hl 3 rfl) ?_
    refine lv_icmp_ge (tgt := 199) hx hb dq_Md_chunks_142 rfl (fun h => ?_) (fun h => ?_)
    · replace hw := hw.1 h
      refine lv_iload_n hx hb dq_Md_chunks_199 rfl (lx_at hl 2 rfl) ?_
      refine lv_iload hx hb dq_Md_chunks_200 (lx_at hl 3 rfl) ?_
      refine lv_iadd hx hb dq_Md_chunks_202 ?_
      refine lx_istore_n (lv' := [(3, 1, .int (x3 + x4)), (0, 1, .ref x0), (1, 1, .int x1), (4, 1, .int x4), (6, 1, .int x6)]) hx hb dq_Md_chunks_203 rfl hl (by decide) rfl (fun ls hl' => ?_)
      clear hl
      have hl := hl'
      clear hl'
      refine lv_iload hx hb dq_Md_chunks_204 (lx_at hl 3 rfl) ?_
      refine lv_if_le (tgt := 230) hx hb dq_Md_chunks_206 rfl (fun h => ?_) (fun h => ?_)
      · replace hw := hw.1 h
        exact tq_Md_chunks_230 hC hk21 hw hG hS (lx_sub hl [1, 2, 0, 3] rfl) hcc hss
      · replace hw := hw.2 h
        refine lv_aload_n hx hb dq_Md_chunks_209 rfl (lx_at hl 1 rfl) ?_
        obtain ⟨t1, hw⟩ := hw
        refine wo_getR hC fq_Md_7 rfl hG t1 dq_Md_chunks_210 (fun r2 e3 => ?_)
        replace hw := hw r2 e3
        refine lv_sipush (v := (4200 : Int32)) hx hb dq_Md_chunks_213 rfl ?_
        refine lv_iload_n hx hb dq_Md_chunks_216 rfl (lx_at hl 2 rfl) ?_
        refine lv_imul hx hb dq_Md_chunks_217 ?_
        refine lv_iload_n hx hb dq_Md_chunks_218 rfl (lx_at hl 0 rfl) ?_
        refine lv_iadd hx hb dq_Md_chunks_219 ?_
        obtain ⟨a4, rfl, hw⟩ := hw
        obtain ⟨t5, hw⟩ := hw
        obtain ⟨h6, hw⟩ := hw
        refine wo_iald (j := 2) hC rfl hG t5 h6 dq_Md_chunks_220 ?_
        refine lv_bipush (v := (10 : Int32)) hx hb dq_Md_chunks_221 rfl ?_
        refine lv_icmp_eq (tgt := 230) hx hb dq_Md_chunks_223 rfl (fun h => ?_) (fun h => ?_)
        · replace hw := hw.1 h
          exact tq_Md_chunks_230 hC hk21 hw hG hS (lx_sub hl [1, 2, 0, 3] rfl) hcc hss
        · replace hw := hw.2 h
          refine lv_sipush (v := (400 : Int32)) hx hb dq_Md_chunks_226 rfl ?_
          exact wo_iret hC hG hS hcc hss hw dq_Md_chunks_229
    · replace hw := hw.2 h
      refine lv_aload_n hx hb dq_Md_chunks_145 rfl (lx_at hl 0 rfl) ?_
      obtain ⟨t7, hw⟩ := hw
      refine wo_getR hC fq_Md_57 rfl hG t7 dq_Md_chunks_146 (fun r8 e9 => ?_)
      replace hw := hw r8 e9
      refine lv_bipush (v := (8 : Int32)) hx hb dq_Md_chunks_149 rfl ?_
      refine lv_dup2_11 hx hb dq_Md_chunks_151 rfl (lx_cR _) ?_
      obtain ⟨a10, rfl, hw⟩ := hw
      obtain ⟨t11, hw⟩ := hw
      obtain ⟨h12, hw⟩ := hw
      refine wo_lald (j := 9) hC rfl hG t11 h12 dq_Md_chunks_152 ?_
      refine lv_aload_n hx hb dq_Md_chunks_153 rfl (lx_at hl 0 rfl) ?_
      refine wo_getR hC fq_Md_7 rfl hG t7 dq_Md_chunks_154 (fun r13 e14 => ?_)
      replace hw := hw r13 e14
      refine lv_sipush (v := (4200 : Int32)) hx hb dq_Md_chunks_157 rfl ?_
      refine lv_iload_n hx hb dq_Md_chunks_160 rfl (lx_at hl 1 rfl) ?_
      refine lv_imul hx hb dq_Md_chunks_161 ?_
      refine lv_iload_n hx hb dq_Md_chunks_162 rfl (lx_at hl 2 rfl) ?_
      refine lv_iadd hx hb dq_Md_chunks_163 ?_
      refine lv_iload hx hb dq_Md_chunks_164 (lx_at hl 4 rfl) ?_
      refine lv_iadd hx hb dq_Md_chunks_166 ?_
      obtain ⟨a15, rfl, hw⟩ := hw
      obtain ⟨t16, hw⟩ := hw
      obtain ⟨h17, hw⟩ := hw
      refine wo_iald (j := 2) hC rfl hG t16 h17 dq_Md_chunks_167 ?_
      refine lv_i2l (v := (wo_ei G a15 ((((4200 : Int32) * x1) + x3) + x6).toNatClampNeg).toInt64) hx hb dq_Md_chunks_168 rfl ?_
      refine lv_bipush (v := (8 : Int32)) hx hb dq_Md_chunks_169 rfl ?_
      refine lv_aload_n hx hb dq_Md_chunks_171 rfl (lx_at hl 0 rfl) ?_
      refine wo_getR hC fq_Md_60 rfl hG t7 dq_Md_chunks_172 (fun r18 e19 => ?_)
      replace hw := hw r18 e19
      refine lv_bipush (v := (8 : Int32)) hx hb dq_Md_chunks_175 rfl ?_
      obtain ⟨a20, rfl, hw⟩ := hw
      obtain ⟨t21, hw⟩ := hw
      obtain ⟨h22, hw⟩ := hw
      refine wo_iald (j := 2) hC rfl hG t21 h22 dq_Md_chunks_177 ?_
      refine lv_imul hx hb dq_Md_chunks_178 ?_
      refine lv_lshl hx hb dq_Md_chunks_179 rfl ?_
      refine lv_lor hx hb dq_Md_chunks_180 ?_
      obtain ⟨h23, hw⟩ := hw
      obtain ⟨h24, hw⟩ := hw
      refine wo_last (j := 9) hC rfl hG hS t11 h23 h24 dq_Md_chunks_181 (fun G25 H locs e26 hG hS => ?_)
      replace hw := hw G25 e26
      refine lv_aload_n hx hb dq_Md_chunks_182 rfl (lx_at hl 0 rfl) ?_
      refine wo_getR hC fq_Md_60 rfl hG (ty_sel e26 t7) dq_Md_chunks_183 (fun r27 e28 => ?_)
      replace hw := hw r27 e28
      refine lv_bipush (v := (8 : Int32)) hx hb dq_Md_chunks_186 rfl ?_
      refine lv_dup2_11 hx hb dq_Md_chunks_188 rfl (lx_cR _) ?_
      obtain ⟨a29, rfl, hw⟩ := hw
      obtain ⟨t30, hw⟩ := hw
      obtain ⟨h31, hw⟩ := hw
      refine wo_iald (j := 2) hC rfl hG t30 h31 dq_Md_chunks_189 ?_
      refine lv_iconst (v := (1 : Int32)) hx hb dq_Md_chunks_190 rfl ?_
      refine lv_iadd hx hb dq_Md_chunks_191 ?_
      obtain ⟨h32, hw⟩ := hw
      obtain ⟨h33, hw⟩ := hw
      refine wo_iast (j := 2) hC rfl hG hS t30 h32 h33 dq_Md_chunks_192 (fun G34 H locs e35 hG hS => ?_)
      replace hw := hw G34 e35
      refine lx_iinc (k := 4) (v := (x6 + (1 : Int32))) (lv' := [(6, 1, .int (x6 + (1 : Int32))), (0, 1, .ref x0), (1, 1, .int x1), (3, 1, .int x3), (4, 1, .int x4)]) hx hb dq_Md_chunks_193 hl rfl rfl (by decide) rfl (fun ls hl' => ?_)
      clear hl
      have hl := hl'
      clear hl'
      refine lv_goto (tgt := 138) hx hb dq_Md_chunks_196 rfl ?_
      exact ih hw hG hS (lx_sub hl [1, 2, 3, 4, 0] rfl) hcc hss
set_option maxRecDepth 100000 in
set_option maxHeartbeats 4000000 in
theorem tq_Md_chunks_135 {p : Program} {l : Launch} {e : Env} {R : Room} {s₀ : State} {m : MethodId} {args : Array Value} {below : List Frame} {meth : Method} {cd : Code} {E : wo_E} {mc ms : Nat} {Post : Int32 → wo_W → Prop} {k21 : wo_W → Nat → Nat → Nat → Int32 → Int32 → Int32 → Prop} (hC : wo_Cx E "EdgeCacheModel" prog_14_method_14_code 7 1 23 ((Option.some Jvm.ClassFile.FieldType.int)) "chunks" mc ms p R s₀ m args meth cd) (hk21 : ∀ {G : wo_W} {c s : Nat} {x0 : Nat} {x1 : Int32} {x3 : Int32} {x4 : Int32}, k21 G c s x0 x1 x3 x4 → ∀ {H : Heap} {locs : List Loc} {ls : Array Slot}, wo_Se E G H → va_S (en_A E) s₀.heap H locs → lx_has ls 7 [(0, 1, .ref x0), (1, 1, .int x1), (3, 1, .int x3), (4, 1, .int x4)] → c ≤ mc → s ≤ ms → W p l e R s₀ m args below meth cd H locs c s (MQ below (va_Qi Post (wo_B E) (en_A E)) args s₀ mc ms (en_A E)) (F0 m 21 ls [])) : ∀ {G : wo_W} {c s : Nat} {x0 : Nat} {x1 : Int32} {x3 : Int32} {x4 : Int32}, pq_Md_chunks_135 E mc ms Post k21 G c s x0 x1 x3 x4 → ∀ {H : Heap} {locs : List Loc} {ls : Array Slot}, wo_Se E G H → va_S (en_A E) s₀.heap H locs → lx_has ls 7 [(0, 1, .ref x0), (1, 1, .int x1), (3, 1, .int x3), (4, 1, .int x4)] → c ≤ mc → s ≤ ms → W p l e R s₀ m args below meth cd H locs c s (MQ below (va_Qi Post (wo_B E) (en_A E)) args s₀ mc ms (en_A E)) (F0 m 135 ls []) := by
  intro G c s x0 x1 x3 x4 hw H locs ls hG hS hl hcc hss
  dsimp only [pq_Md_chunks_135] at hw
  have hx := hC.1
  have hb := hC.2.1
  refine lv_iconst (v := (0 : Int32)) hx hb dq_Md_chunks_135 rfl ?_
  refine lx_istore (lv' := [(6, 1, .int (0 : Int32)), (0, 1, .ref x0), (1, 1, .int x1), (3, 1, .int x3), (4, 1, .int x4)]) hx hb dq_Md_chunks_136 hl (by decide) rfl (fun ls hl' => ?_)
  clear hl
  have hl := hl'
  clear hl'
  obtain ⟨n1, hw⟩ := hw
  exact tq_Md_chunks_138 hC hk21 n1 hw hG hS (lx_sub hl [1, 2, 3, 4, 0] rfl) hcc hss
set_option maxRecDepth 100000 in
set_option maxHeartbeats 4000000 in
theorem tq_Md_chunks_80 {p : Program} {l : Launch} {e : Env} {R : Room} {s₀ : State} {m : MethodId} {args : Array Value} {below : List Frame} {meth : Method} {cd : Code} {E : wo_E} {mc ms : Nat} {Post : Int32 → wo_W → Prop} {k21 : wo_W → Nat → Nat → Nat → Int32 → Int32 → Int32 → Prop} (hC : wo_Cx E "EdgeCacheModel" prog_14_method_14_code 7 1 23 ((Option.some Jvm.ClassFile.FieldType.int)) "chunks" mc ms p R s₀ m args meth cd) (hk21 : ∀ {G : wo_W} {c s : Nat} {x0 : Nat} {x1 : Int32} {x3 : Int32} {x4 : Int32}, k21 G c s x0 x1 x3 x4 → ∀ {H : Heap} {locs : List Loc} {ls : Array Slot}, wo_Se E G H → va_S (en_A E) s₀.heap H locs → lx_has ls 7 [(0, 1, .ref x0), (1, 1, .int x1), (3, 1, .int x3), (4, 1, .int x4)] → c ≤ mc → s ≤ ms → W p l e R s₀ m args below meth cd H locs c s (MQ below (va_Qi Post (wo_B E) (en_A E)) args s₀ mc ms (en_A E)) (F0 m 21 ls [])) : ∀ {G : wo_W} {c s : Nat} {x0 : Nat} {x1 : Int32} {x5 : Int32} {y0 : Int32}, pq_Md_chunks_80 E mc ms Post k21 G c s x0 x1 x5 y0 → ∀ {H : Heap} {locs : List Loc} {ls : Array Slot}, wo_Se E G H → va_S (en_A E) s₀.heap H locs → lx_has ls 7 [(0, 1, .ref x0), (1, 1, .int x1), (5, 1, .int x5)] → c ≤ mc → s ≤ ms → W p l e R s₀ m args below meth cd H locs c s (MQ below (va_Qi Post (wo_B E) (en_A E)) args s₀ mc ms (en_A E)) (F0 m 80 ls [.int y0]) := by
  intro G c s x0 x1 x5 y0 hw H locs ls hG hS hl hcc hss
  dsimp only [pq_Md_chunks_80] at hw
  have hx := hC.1
  have hb := hC.2.1
  refine lx_istore (lv' := [(4, 1, .int y0), (0, 1, .ref x0), (1, 1, .int x1), (5, 1, .int x5)]) hx hb dq_Md_chunks_80 hl (by decide) rfl (fun ls hl' => ?_)
  clear hl
  have hl := hl'
  clear hl'
  refine lv_iload hx hb dq_Md_chunks_82 (lx_at hl 0 rfl) ?_
  refine lv_if_ge (tgt := 91) hx hb dq_Md_chunks_84 rfl (fun h => ?_) (fun h => ?_)
  · replace hw := hw.1 h
    refine lv_aload_n hx hb dq_Md_chunks_91 rfl (lx_at hl 1 rfl) ?_
    obtain ⟨t1, hw⟩ := hw
    refine wo_getR hC fq_Md_60 rfl hG t1 dq_Md_chunks_92 (fun r2 e3 => ?_)
    replace hw := hw r2 e3
    refine lv_bipush (v := (8 : Int32)) hx hb dq_Md_chunks_95 rfl ?_
    obtain ⟨a4, rfl, hw⟩ := hw
    obtain ⟨t5, hw⟩ := hw
    obtain ⟨h6, hw⟩ := hw
    refine wo_iald (j := 2) hC rfl hG t5 h6 dq_Md_chunks_97 ?_
    refine lv_iload hx hb dq_Md_chunks_98 (lx_at hl 0 rfl) ?_
    refine lv_iadd hx hb dq_Md_chunks_100 ?_
    refine lv_bipush (v := (8 : Int32)) hx hb dq_Md_chunks_101 rfl ?_
    refine lv_icmp_le (tgt := 110) hx hb dq_Md_chunks_103 rfl (fun h => ?_) (fun h => ?_)
    · replace hw := hw.1 h
      refine lv_iload hx hb dq_Md_chunks_110 (lx_at hl 3 rfl) ?_
      refine lv_iconst (v := (1 : Int32)) hx hb dq_Md_chunks_112 rfl ?_
      refine lv_iadd hx hb dq_Md_chunks_113 ?_
      refine lx_istore_n (lv' := [(3, 1, .int (x5 + (1 : Int32))), (4, 1, .int y0), (0, 1, .ref x0), (1, 1, .int x1), (5, 1, .int x5)]) hx hb dq_Md_chunks_114 rfl hl (by decide) rfl (fun ls hl' => ?_)
      clear hl
      have hl := hl'
      clear hl'
      refine lv_iload hx hb dq_Md_chunks_115 (lx_at hl 1 rfl) ?_
      refine lv_if_le (tgt := 135) hx hb dq_Md_chunks_117 rfl (fun h => ?_) (fun h => ?_)
      · replace hw := hw.1 h
        exact tq_Md_chunks_135 hC hk21 hw hG hS (lx_sub hl [2, 3, 0, 1] rfl) hcc hss
      · replace hw := hw.2 h
        refine lv_aload_n hx hb dq_Md_chunks_120 rfl (lx_at hl 2 rfl) ?_
        refine wo_getR hC fq_Md_13 rfl hG t1 dq_Md_chunks_121 (fun r7 e8 => ?_)
        replace hw := hw r7 e8
        refine lv_iload_n hx hb dq_Md_chunks_124 rfl (lx_at hl 3 rfl) ?_
        obtain ⟨a9, rfl, hw⟩ := hw
        obtain ⟨t10, hw⟩ := hw
        obtain ⟨h11, hw⟩ := hw
        refine wo_iald (j := 2) hC rfl hG t10 h11 dq_Md_chunks_125 ?_
        refine lv_iload_n hx hb dq_Md_chunks_126 rfl (lx_at hl 0 rfl) ?_
        refine lv_isub hx hb dq_Md_chunks_127 ?_
        refine lv_iload hx hb dq_Md_chunks_128 (lx_at hl 1 rfl) ?_
        refine lv_icmp_gt (tgt := 135) hx hb dq_Md_chunks_130 rfl (fun h => ?_) (fun h => ?_)
        · replace hw := hw.1 h
          exact tq_Md_chunks_135 hC hk21 hw hG hS (lx_sub hl [2, 3, 0, 1] rfl) hcc hss
        · replace hw := hw.2 h
          refine lv_iconst (v := (0 : Int32)) hx hb dq_Md_chunks_133 rfl ?_
          exact wo_iret hC hG hS hcc hss hw dq_Md_chunks_134
    · replace hw := hw.2 h
      refine lv_sipush (v := (413 : Int32)) hx hb dq_Md_chunks_106 rfl ?_
      exact wo_iret hC hG hS hcc hss hw dq_Md_chunks_109
  · replace hw := hw.2 h
    refine lv_sipush (v := (400 : Int32)) hx hb dq_Md_chunks_87 rfl ?_
    exact wo_iret hC hG hS hcc hss hw dq_Md_chunks_90
set_option maxRecDepth 100000 in
set_option maxHeartbeats 4000000 in
theorem tq_Md_chunks_52 {p : Program} {l : Launch} {e : Env} {R : Room} {s₀ : State} {m : MethodId} {args : Array Value} {below : List Frame} {meth : Method} {cd : Code} {E : wo_E} {mc ms : Nat} {Post : Int32 → wo_W → Prop} (hC : wo_Cx E "EdgeCacheModel" prog_14_method_14_code 7 1 23 ((Option.some Jvm.ClassFile.FieldType.int)) "chunks" mc ms p R s₀ m args meth cd) : ∀ {G : wo_W} {c s : Nat} {y0 : Int32}, pq_Md_chunks_52 E mc ms Post G c s y0 → ∀ {H : Heap} {locs : List Loc} {ls : Array Slot}, wo_Se E G H → va_S (en_A E) s₀.heap H locs → lx_has ls 7 [] → c ≤ mc → s ≤ ms → W p l e R s₀ m args below meth cd H locs c s (MQ below (va_Qi Post (wo_B E) (en_A E)) args s₀ mc ms (en_A E)) (F0 m 52 ls [.int y0]) := by
  intro G c s y0 hw H locs ls hG hS hl hcc hss
  dsimp only [pq_Md_chunks_52] at hw
  have hx := hC.1
  have hb := hC.2.1
  exact wo_iret hC hG hS hcc hss hw dq_Md_chunks_52
set_option maxRecDepth 100000 in
set_option maxHeartbeats 4000000 in
theorem tq_Md_chunks_21 {p : Program} {l : Launch} {e : Env} {R : Room} {s₀ : State} {m : MethodId} {args : Array Value} {below : List Frame} {meth : Method} {cd : Code} {E : wo_E} {mc ms : Nat} {Post : Int32 → wo_W → Prop} (hC : wo_Cx E "EdgeCacheModel" prog_14_method_14_code 7 1 23 ((Option.some Jvm.ClassFile.FieldType.int)) "chunks" mc ms p R s₀ m args meth cd) : ∀ n : Nat, ∀ {G : wo_W} {c s : Nat} {x0 : Nat} {x1 : Int32} {x3 : Int32} {x4 : Int32}, pq_Md_chunks_21 E mc ms Post n G c s x0 x1 x3 x4 → ∀ {H : Heap} {locs : List Loc} {ls : Array Slot}, wo_Se E G H → va_S (en_A E) s₀.heap H locs → lx_has ls 7 [(0, 1, .ref x0), (1, 1, .int x1), (3, 1, .int x3), (4, 1, .int x4)] → c ≤ mc → s ≤ ms → W p l e R s₀ m args below meth cd H locs c s (MQ below (va_Qi Post (wo_B E) (en_A E)) args s₀ mc ms (en_A E)) (F0 m 21 ls []) := by
  intro n
  induction n with
  | zero => intro G c s x0 x1 x3 x4 hw; exact hw.elim
  | succ n ih =>
    intro G c s x0 x1 x3 x4 hw H locs ls hG hS hl hcc hss
    dsimp only [pq_Md_chunks_21] at hw
    have hx := hC.1
    have hb := hC.2.1
    refine lv_iload hx hb dq_Md_chunks_21 (lx_at hl 3 rfl) ?_
    refine lv_if_le (tgt := 246) hx hb dq_Md_chunks_23 rfl (fun h => ?_) (fun h => ?_)
    · replace hw := hw.1 h
      refine lv_aload_n hx hb dq_Md_chunks_246 rfl (lx_at hl 0 rfl) ?_
      refine lv_iload_n hx hb dq_Md_chunks_247 rfl (lx_at hl 1 rfl) ?_
      refine lv_iload_n hx hb dq_Md_chunks_248 rfl (lx_at hl 2 rfl) ?_
      obtain ⟨t1, hw⟩ := hw
      obtain ⟨mc2, ms3, hc1, hs1, hw⟩ := hw
      refine va_calli (wo_runV hC lq_Md_202 (mq_Md_lineEnd hw) hG hS t1 rfl (lx_sz hl) rfl (Nat.zero_le _) (by decide) dq_Md_chunks_249 ⟨hc1, hs1⟩) hS (fun _ _ h => h) (fun _ h => h) (fun v5 G4 t H locs ht hvm hw' hB _ _ hS => ?_)
      clear hw
      have hw := hw'
      clear hw'
      replace hG := wo_bk ht hB
      replace hcc := hc1
      replace hss := hs1
      refine lx_istore (lv' := [(5, 1, .int v5), (0, 1, .ref x0), (1, 1, .int x1), (3, 1, .int x3), (4, 1, .int x4)]) hx hb dq_Md_chunks_252 hl (by decide) rfl (fun ls hl' => ?_)
      clear hl
      have hl := hl'
      clear hl'
      obtain ⟨n1, hw⟩ := hw
      exact tq_Md_chunks_254 hC n1 hw hG hS (lx_sub hl [1, 2, 3, 0] rfl) hcc hss
    · replace hw := hw.2 h
      refine lv_aload_n hx hb dq_Md_chunks_26 rfl (lx_at hl 0 rfl) ?_
      refine lv_iload_n hx hb dq_Md_chunks_27 rfl (lx_at hl 1 rfl) ?_
      refine lv_iload_n hx hb dq_Md_chunks_28 rfl (lx_at hl 2 rfl) ?_
      obtain ⟨t6, hw⟩ := hw
      obtain ⟨mc7, ms8, hc1, hs1, hw⟩ := hw
      refine va_calli (wo_runV hC lq_Md_202 (mq_Md_lineEnd hw) hG hS t6 rfl (lx_sz hl) rfl (Nat.zero_le _) (by decide) dq_Md_chunks_29 ⟨hc1, hs1⟩) hS (fun _ _ h => h) (fun _ h => h) (fun v10 G9 t H locs ht hvm hw' hB _ _ hS => ?_)
      clear hw
      have hw := hw'
      clear hw'
      replace hG := wo_bk ht hB
      replace hcc := hc1
      replace hss := hs1
      refine lx_istore (lv' := [(5, 1, .int v10), (0, 1, .ref x0), (1, 1, .int x1), (3, 1, .int x3), (4, 1, .int x4)]) hx hb dq_Md_chunks_32 hl (by decide) rfl (fun ls hl' => ?_)
      clear hl
      have hl := hl'
      clear hl'
      refine lv_iload hx hb dq_Md_chunks_34 (lx_at hl 0 rfl) ?_
      refine lv_if_ge (tgt := 53) hx hb dq_Md_chunks_36 rfl (fun h => ?_) (fun h => ?_)
      · replace hw := hw.1 h
        refine lv_iload hx hb dq_Md_chunks_53 (lx_at hl 0 rfl) ?_
        refine lv_iload_n hx hb dq_Md_chunks_55 rfl (lx_at hl 3 rfl) ?_
        refine lv_isub hx hb dq_Md_chunks_56 ?_
        refine lv_iconst (v := (1 : Int32)) hx hb dq_Md_chunks_57 rfl ?_
        refine lv_icmp_ne (tgt := 79) hx hb dq_Md_chunks_58 rfl (fun h => ?_) (fun h => ?_)
        · replace hw := hw.1 h
          refine lv_iconst (v := (-1 : Int32)) hx hb dq_Md_chunks_79 rfl ?_
          exact tq_Md_chunks_80 hC ih hw hG hS (lx_sub hl [1, 2, 0] rfl) hcc hss
        · replace hw := hw.2 h
          refine lv_aload_n hx hb dq_Md_chunks_61 rfl (lx_at hl 1 rfl) ?_
          obtain ⟨t11, hw⟩ := hw
          refine wo_getR hC fq_Md_7 rfl hG t11 dq_Md_chunks_62 (fun r12 e13 => ?_)
          replace hw := hw r12 e13
          refine lv_sipush (v := (4200 : Int32)) hx hb dq_Md_chunks_65 rfl ?_
          refine lv_iload_n hx hb dq_Md_chunks_68 rfl (lx_at hl 2 rfl) ?_
          refine lv_imul hx hb dq_Md_chunks_69 ?_
          refine lv_iload_n hx hb dq_Md_chunks_70 rfl (lx_at hl 3 rfl) ?_
          refine lv_iadd hx hb dq_Md_chunks_71 ?_
          obtain ⟨a14, rfl, hw⟩ := hw
          obtain ⟨t15, hw⟩ := hw
          obtain ⟨h16, hw⟩ := hw
          refine wo_iald (j := 2) hC rfl hG t15 h16 dq_Md_chunks_72 ?_
          obtain ⟨mc17, ms18, hc1, hs1, hw⟩ := hw
          refine va_calli (wo_runS hC lq_Md_236 (mq_Md_hex hw) hG hS rfl (lx_sz hl) rfl (Nat.zero_le _) (by decide) dq_Md_chunks_73 ⟨hc1, hs1⟩) hS (fun _ _ h => h) (fun _ h => h) (fun v20 G19 t H locs ht hvm hw' hB _ _ hS => ?_)
          clear hw
          have hw := hw'
          clear hw'
          replace hG := wo_bk ht hB
          replace hcc := hc1
          replace hss := hs1
          refine lv_goto (tgt := 80) hx hb dq_Md_chunks_76 rfl ?_
          exact tq_Md_chunks_80 hC ih hw hG hS (lx_sub hl [1, 2, 0] rfl) hcc hss
      · replace hw := hw.2 h
        refine lv_iload hx hb dq_Md_chunks_39 (lx_at hl 0 rfl) ?_
        refine lv_iconst (v := (-1 : Int32)) hx hb dq_Md_chunks_41 rfl ?_
        refine lv_icmp_ne (tgt := 49) hx hb dq_Md_chunks_42 rfl (fun h => ?_) (fun h => ?_)
        · replace hw := hw.1 h
          refine lv_sipush (v := (431 : Int32)) hx hb dq_Md_chunks_49 rfl ?_
          exact tq_Md_chunks_52 hC hw hG hS (lx_sub hl [] rfl) hcc hss
        · replace hw := hw.2 h
          refine lv_iconst (v := (0 : Int32)) hx hb dq_Md_chunks_45 rfl ?_
          refine lv_goto (tgt := 52) hx hb dq_Md_chunks_46 rfl ?_
          exact tq_Md_chunks_52 hC hw hG hS (lx_sub hl [] rfl) hcc hss
set_option maxRecDepth 100000 in
set_option maxHeartbeats 4000000 in
theorem tq_Md_chunks_0 {p : Program} {l : Launch} {e : Env} {R : Room} {s₀ : State} {m : MethodId} {args : Array Value} {below : List Frame} {meth : Method} {cd : Code} {E : wo_E} {mc ms : Nat} {Post : Int32 → wo_W → Prop} (hC : wo_Cx E "EdgeCacheModel" prog_14_method_14_code 7 1 23 ((Option.some Jvm.ClassFile.FieldType.int)) "chunks" mc ms p R s₀ m args meth cd) : ∀ {G : wo_W} {c s : Nat} {x0 : Nat} {x1 : Int32} {x2 : Int32}, pq_Md_chunks_0 E mc ms Post G c s x0 x1 x2 → ∀ {H : Heap} {locs : List Loc} {ls : Array Slot}, wo_Se E G H → va_S (en_A E) s₀.heap H locs → lx_has ls 7 [(0, 1, .ref x0), (1, 1, .int x1), (2, 1, .int x2)] → c ≤ mc → s ≤ ms → W p l e R s₀ m args below meth cd H locs c s (MQ below (va_Qi Post (wo_B E) (en_A E)) args s₀ mc ms (en_A E)) (F0 m 0 ls []) := by
  intro G c s x0 x1 x2 hw H locs ls hG hS hl hcc hss
  dsimp only [pq_Md_chunks_0] at hw
  have hx := hC.1
  have hb := hC.2.1
  refine lv_iload_n hx hb dq_Md_chunks_0 rfl (lx_at hl 2 rfl) ?_
  refine lx_istore_n (lv' := [(3, 1, .int x2), (0, 1, .ref x0), (1, 1, .int x1), (2, 1, .int x2)]) hx hb dq_Md_chunks_1 rfl hl (by decide) rfl (fun ls hl' => ?_)
  clear hl
  have hl := hl'
  clear hl'
  refine lv_aload_n hx hb dq_Md_chunks_2 rfl (lx_at hl 1 rfl) ?_
  obtain ⟨t1, hw⟩ := hw
  refine wo_getR hC fq_Md_57 rfl hG t1 dq_Md_chunks_3 (fun r2 e3 => ?_)
  replace hw := hw r2 e3
  refine lv_bipush (v := (8 : Int32)) hx hb dq_Md_chunks_6 rfl ?_
  refine lv_lconst (v := (0 : Int64)) hx hb dq_Md_chunks_8 rfl ?_
  obtain ⟨a4, rfl, hw⟩ := hw
  obtain ⟨t5, hw⟩ := hw
  obtain ⟨h6, hw⟩ := hw
  obtain ⟨h7, hw⟩ := hw
  refine wo_last (j := 9) hC rfl hG hS t5 h6 h7 dq_Md_chunks_9 (fun G8 H locs e9 hG hS => ?_)
  replace hw := hw G8 e9
  refine lv_aload_n hx hb dq_Md_chunks_10 rfl (lx_at hl 1 rfl) ?_
  refine wo_getR hC fq_Md_60 rfl hG (ty_sel e9 t1) dq_Md_chunks_11 (fun r10 e11 => ?_)
  replace hw := hw r10 e11
  refine lv_bipush (v := (8 : Int32)) hx hb dq_Md_chunks_14 rfl ?_
  refine lv_iconst (v := (0 : Int32)) hx hb dq_Md_chunks_16 rfl ?_
  obtain ⟨a12, rfl, hw⟩ := hw
  obtain ⟨t13, hw⟩ := hw
  obtain ⟨h14, hw⟩ := hw
  obtain ⟨h15, hw⟩ := hw
  refine wo_iast (j := 2) hC rfl hG hS t13 h14 h15 dq_Md_chunks_17 (fun G16 H locs e17 hG hS => ?_)
  replace hw := hw G16 e17
  refine lv_iconst (v := (1 : Int32)) hx hb dq_Md_chunks_18 rfl ?_
  refine lx_istore (lv' := [(4, 1, .int (1 : Int32)), (3, 1, .int x2), (0, 1, .ref x0), (1, 1, .int x1), (2, 1, .int x2)]) hx hb dq_Md_chunks_19 hl (by decide) rfl (fun ls hl' => ?_)
  clear hl
  have hl := hl'
  clear hl'
  obtain ⟨n1, hw⟩ := hw
  exact tq_Md_chunks_21 hC n1 hw hG hS (lx_sub hl [2, 3, 1, 0] rfl) hcc hss
set_option maxHeartbeats 4000000 in
theorem mq_Md_chunks {l : Launch} {E : wo_E} {mc ms : Nat} {Post : Int32 → wo_W → Prop} {G : wo_W} {x0 : Nat} {x1 : Int32} {x2 : Int32} (hw : pq_Md_chunks E mc ms Post G x0 x1 x2) : Met l yq_Md_chunks (Cond.code yq_Md_chunks prog_14_method_14_code 7 ((Option.some Jvm.ClassFile.FieldType.int)) :: vw_WG) { frames := 1, cells := mc, slots := ms, locals := 23 } (va_Pc [.ref x0, .int x1, .int x2] (wo_Ok E G)) (va_Qi Post (wo_B E) (en_A E)) mc ms (en_A E) := by
  unfold pq_Md_chunks at hw
  exact wo_met [(1, .ref x0), (1, .int x1), (1, .int x2)] rfl (by decide) (fun q hq => by simp only [List.mem_cons, List.not_mem_nil, or_false] at hq; rcases hq with rfl | rfl | rfl <;> first | rfl | exact lx_cR _) (Nat.le_of_ble_eq_true rfl) (fun p e R s m args below meth cd ls hC hG hS hl => tq_Md_chunks_0 hC hw hG hS (lx_sub hl [0, 1, 2] rfl) (Nat.zero_le _) (Nat.zero_le _))
