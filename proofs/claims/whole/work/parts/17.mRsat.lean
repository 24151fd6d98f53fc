theorem dq_Rs_at_0 : decode prog_8_method_3_code 0 = .ok (.iload_n 1, 1) := by decide +kernel
theorem dq_Rs_at_1 : decode prog_8_method_3_code 1 = .ok (.ifCond .lt 17, 3) := by decide +kernel
theorem dq_Rs_at_4 : decode prog_8_method_3_code 4 = .ok (.iload_n 1, 1) := by decide +kernel
theorem dq_Rs_at_5 : decode prog_8_method_3_code 5 = .ok (.iconst 3, 1) := by decide +kernel
theorem dq_Rs_at_6 : decode prog_8_method_3_code 6 = .ok (.if_icmp .ge 12, 3) := by decide +kernel
theorem dq_Rs_at_9 : decode prog_8_method_3_code 9 = .ok (.aload_n 0, 1) := by decide +kernel
theorem dq_Rs_at_10 : decode prog_8_method_3_code 10 = .ok (.getfield 13, 3) := by decide +kernel
theorem dq_Rs_at_13 : decode prog_8_method_3_code 13 = .ok (.iload_n 1, 1) := by decide +kernel
theorem dq_Rs_at_14 : decode prog_8_method_3_code 14 = .ok (.aaload, 1) := by decide +kernel
theorem dq_Rs_at_15 : decode prog_8_method_3_code 15 = .ok (.goto 4, 3) := by decide +kernel
theorem dq_Rs_at_18 : decode prog_8_method_3_code 18 = .ok (.aconst_null, 1) := by decide +kernel
theorem dq_Rs_at_19 : decode prog_8_method_3_code 19 = .ok (.areturn, 1) := by decide +kernel
set_option maxRecDepth 100000 in
def pq_Rs_at_19 (E : wo_E) (mc ms : Nat) (Post : Option Nat → wo_W → Prop) (G : wo_W) (c s : Nat) (y0 : Option Nat) : Prop := Post y0 G
set_option maxRecDepth 100000 in
def pq_Rs_at_18 (E : wo_E) (mc ms : Nat) (Post : Option Nat → wo_W → Prop) (G : wo_W) (c s : Nat) : Prop := pq_Rs_at_19 E mc ms Post G c s none
set_option maxRecDepth 100000 in
def pq_Rs_at_0 (E : wo_E) (mc ms : Nat) (Post : Option Nat → wo_W → Prop) (G : wo_W) (c s : Nat) (x0 : Nat) (x1 : Int32) : Prop := ((x1 < (0 : Int32) → pq_Rs_at_18 E mc ms Post G c s) ∧
  (¬ x1 < (0 : Int32) → (((3 : Int32) ≤ x1 → pq_Rs_at_18 E mc ms Post G c s) ∧
    (¬ (3 : Int32) ≤ x1 → wo_ty G x0 = 12 ∧ ∀ r2 : Option Nat, r2 = wo_gr G 705 x0 → ∃ a4 : Nat, r2 = some a4 ∧ wo_ty G a4 = 70 ∧ vp_in x1 (wo_len G a4) ∧ ∀ r7 : Option Nat, r7 = wo_er G a4 x1.toNatClampNeg → pq_Rs_at_19 E mc ms Post G c s r7))))
def pq_Rs_at (E : wo_E) (mc ms : Nat) (Post : Option Nat → wo_W → Prop) (G : wo_W) (x0 : Nat) (x1 : Int32) : Prop := pq_Rs_at_0 E mc ms Post G 0 0 x0 x1
set_option maxRecDepth 100000 in
set_option maxHeartbeats 4000000 in
theorem tq_Rs_at_19 {p : Program} {l : Launch} {e : Env} {R : Room} {s₀ : State} {m : MethodId} {args : Array Value} {below : List Frame} {meth : Method} {cd : Code} {E : wo_E} {mc ms : Nat} {Post : Option Nat → wo_W → Prop} (hC : wo_Cx E "EdgeCache$Resource" prog_8_method_3_code 2 0 0 ((Option.some (Jvm.ClassFile.FieldType.object "EdgeCache$Representation"))) "at" mc ms p R s₀ m args meth cd) : ∀ {G : wo_W} {c s : Nat} {y0 : Option Nat}, pq_Rs_at_19 E mc ms Post G c s y0 → ∀ {H : Heap} {locs : List Loc} {ls : Array Slot}, wo_Se E G H → va_S (en_A E) s₀.heap H locs → lx_has ls 2 [] → c ≤ mc → s ≤ ms → W p l e R s₀ m args below meth cd H locs c s (MQ below (va_Qq Post (wo_B E) (en_A E)) args s₀ mc ms (en_A E)) (F0 m 19 ls [va_rf y0]) := by
  intro G c s y0 hw H locs ls hG hS hl hcc hss
  dsimp only [pq_Rs_at_19] at hw
  have hx := hC.1
  have hb := hC.2.1
  exact wo_aret (x := y0) hC rfl hG hS hcc hss hw dq_Rs_at_19
set_option maxRecDepth 100000 in
set_option maxHeartbeats 4000000 in
theorem tq_Rs_at_18 {p : Program} {l : Launch} {e : Env} {R : Room} {s₀ : State} {m : MethodId} {args : Array Value} {below : List Frame} {meth : Method} {cd : Code} {E : wo_E} {mc ms : Nat} {Post : Option Nat → wo_W → Prop} (hC : wo_Cx E "EdgeCache$Resource" prog_8_method_3_code 2 0 0 ((Option.some (Jvm.ClassFile.FieldType.object "EdgeCache$Representation"))) "at" mc ms p R s₀ m args meth cd) : ∀ {G : wo_W} {c s : Nat}, pq_Rs_at_18 E mc ms Post G c s → ∀ {H : Heap} {locs : List Loc} {ls : Array Slot}, wo_Se E G H → va_S (en_A E) s₀.heap H locs → lx_has ls 2 [] → c ≤ mc → s ≤ ms → W p l e R s₀ m args below meth cd H locs c s (MQ below (va_Qq Post (wo_B E) (en_A E)) args s₀ mc ms (en_A E)) (F0 m 18 ls []) := by
  intro G c s hw H locs ls hG hS hl hcc hss
  dsimp only [pq_Rs_at_18] at hw
  have hx := hC.1
  have hb := hC.2.1
  refine lv_null hx hb dq_Rs_at_18 ?_
  exact tq_Rs_at_19 hC hw hG hS (lx_sub hl [] rfl) hcc hss
set_option maxRecDepth 100000 in
set_option maxHeartbeats 4000000 in
theorem tq_Rs_at_0 {p : Program} {l : Launch} {e : Env} {R : Room} {s₀ : State} {m : MethodId} {args : Array Value} {below : List Frame} {meth : Method} {cd : Code} {E : wo_E} {mc ms : Nat} {Post : Option Nat → wo_W → Prop} (hC : wo_Cx E "EdgeCache$Resource" prog_8_method_3_code 2 0 0 ((Option.some (Jvm.ClassFile.FieldType.object "EdgeCache$Representation"))) "at" mc ms p R s₀ m args meth cd) : ∀ {G : wo_W} {c s : Nat} {x0 : Nat} {x1 : Int32}, pq_Rs_at_0 E mc ms Post G c s x0 x1 → ∀ {H : Heap} {locs : List Loc} {ls : Array Slot}, wo_Se E G H → va_S (en_A E) s₀.heap H locs → lx_has ls 2 [(0, 1, .ref x0), (1, 1, .int x1)] → c ≤ mc → s ≤ ms → W p l e R s₀ m args below meth cd H locs c s (MQ below (va_Qq Post (wo_B E) (en_A E)) args s₀ mc ms (en_A E)) (F0 m 0 ls []) := by
  intro G c s x0 x1 hw H locs ls hG hS hl hcc hss
  dsimp only [pq_Rs_at_0] at hw
  have hx := hC.1
  have hb := hC.2.1
  refine lv_iload_n hx hb dq_Rs_at_0 rfl (lx_at hl 1 rfl) ?_
  refine lv_if_lt (tgt := 18) hx hb dq_Rs_at_1 rfl (fun h => ?_) (fun h => ?_)
  · replace hw := hw.1 h
    exact tq_Rs_at_18 hC hw hG hS (lx_sub hl [] rfl) hcc hss
  · replace hw := hw.2 h
    refine lv_iload_n hx hb dq_Rs_at_4 rfl (lx_at hl 1 rfl) ?_
    refine lv_iconst (v := (3 : Int32)) hx hb dq_Rs_at_5 rfl ?_
    refine lv_icmp_ge (tgt := 18) hx hb dq_Rs_at_6 rfl (fun h => ?_) (fun h => ?_)
    · replace hw := hw.1 h
      exact tq_Rs_at_18 hC hw hG hS (lx_sub hl [] rfl) hcc hss
    · replace hw := hw.2 h
      refine lv_aload_n hx hb dq_Rs_at_9 rfl (lx_at hl 0 rfl) ?_
      obtain ⟨t1, hw⟩ := hw
      refine wo_getR hC fq_Rs_13 rfl hG t1 dq_Rs_at_10 (fun r2 e3 => ?_)
      replace hw := hw r2 e3
      refine lv_iload_n hx hb dq_Rs_at_13 rfl (lx_at hl 1 rfl) ?_
      obtain ⟨a4, rfl, hw⟩ := hw
      obtain ⟨t5, hw⟩ := hw
      obtain ⟨h6, hw⟩ := hw
      refine wo_aald (j := 6) hC rfl hG t5 h6 dq_Rs_at_14 (fun r7 e8 => ?_)
      replace hw := hw r7 e8
      refine lv_goto (tgt := 19) hx hb dq_Rs_at_15 rfl ?_
      exact tq_Rs_at_19 hC hw hG hS (lx_sub hl [] rfl) hcc hss
set_option maxHeartbeats 4000000 in
theorem mq_Rs_at {l : Launch} {E : wo_E} {mc ms : Nat} {Post : Option Nat → wo_W → Prop} {G : wo_W} {x0 : Nat} {x1 : Int32} (hw : pq_Rs_at E mc ms Post G x0 x1) : Met l yq_Rs_at (Cond.code yq_Rs_at prog_8_method_3_code 2 ((Option.some (Jvm.ClassFile.FieldType.object "EdgeCache$Representation"))) :: vw_WG) { frames := 0, cells := mc, slots := ms, locals := 0 } (va_Pc [.ref x0, .int x1] (wo_Ok E G)) (va_Qq Post (wo_B E) (en_A E)) mc ms (en_A E) := by
  unfold pq_Rs_at at hw
  exact wo_met [(1, .ref x0), (1, .int x1)] rfl (by decide) (fun q hq => by simp only [List.mem_cons, List.not_mem_nil, or_false] at hq; rcases hq with rfl | rfl <;> first | rfl | exact lx_cR _) (Nat.le_of_ble_eq_true rfl) (fun p e R s m args below meth cd ls hC hG hS hl => tq_Rs_at_0 hC hw hG hS (lx_sub hl [0, 1] rfl) (Nat.zero_le _) (Nat.zero_le _))

theorem dq_Rs_placeOf_0 : decode prog_8_method_2_code 0 = .ok (.aload_n 0, 1) := by decide +kernel
theorem dq_Rs_placeOf_1 : decode prog_8_method_2_code 1 = .ok (.ifnonnull 5, 3) := by decide +kernel
theorem dq_Rs_placeOf_4 : decode prog_8_method_2_code 4 = .ok (.iconst 0, 1) := by decide +kernel
theorem dq_Rs_placeOf_5 : decode prog_8_method_2_code 5 = .ok (.ireturn, 1) := by decide +kernel
theorem dq_Rs_placeOf_6 : decode prog_8_method_2_code 6 = .ok (.aload_n 0, 1) := by decide +kernel
theorem dq_Rs_placeOf_7 : decode prog_8_method_2_code 7 = .ok (.invokevirtual 21, 3) := by decide +kernel
theorem dq_Rs_placeOf_10 : decode prog_8_method_2_code 10 = .ok (.iconst 1, 1) := by decide +kernel
theorem dq_Rs_placeOf_11 : decode prog_8_method_2_code 11 = .ok (.if_icmp .ne 14, 3) := by decide +kernel
theorem dq_Rs_placeOf_14 : decode prog_8_method_2_code 14 = .ok (.aload_n 0, 1) := by decide +kernel
theorem dq_Rs_placeOf_15 : decode prog_8_method_2_code 15 = .ok (.iconst 0, 1) := by decide +kernel
theorem dq_Rs_placeOf_16 : decode prog_8_method_2_code 16 = .ok (.invokevirtual 27, 3) := by decide +kernel
theorem dq_Rs_placeOf_19 : decode prog_8_method_2_code 19 = .ok (.bipush 97, 2) := by decide +kernel
theorem dq_Rs_placeOf_21 : decode prog_8_method_2_code 21 = .ok (.isub, 1) := by decide +kernel
theorem dq_Rs_placeOf_22 : decode prog_8_method_2_code 22 = .ok (.goto 4, 3) := by decide +kernel
theorem dq_Rs_placeOf_25 : decode prog_8_method_2_code 25 = .ok (.iconst (-1), 1) := by decide +kernel
theorem dq_Rs_placeOf_26 : decode prog_8_method_2_code 26 = .ok (.istore_n 1, 1) := by decide +kernel
theorem dq_Rs_placeOf_27 : decode prog_8_method_2_code 27 = .ok (.iload_n 1, 1) := by decide +kernel
theorem dq_Rs_placeOf_28 : decode prog_8_method_2_code 28 = .ok (.ifCond .lt 12, 3) := by decide +kernel
theorem dq_Rs_placeOf_31 : decode prog_8_method_2_code 31 = .ok (.iload_n 1, 1) := by decide +kernel
theorem dq_Rs_placeOf_32 : decode prog_8_method_2_code 32 = .ok (.iconst 3, 1) := by decide +kernel
theorem dq_Rs_placeOf_33 : decode prog_8_method_2_code 33 = .ok (.if_icmp .ge 7, 3) := by decide +kernel
theorem dq_Rs_placeOf_36 : decode prog_8_method_2_code 36 = .ok (.iload_n 1, 1) := by decide +kernel
theorem dq_Rs_placeOf_37 : decode prog_8_method_2_code 37 = .ok (.goto 4, 3) := by decide +kernel
theorem dq_Rs_placeOf_40 : decode prog_8_method_2_code 40 = .ok (.iconst (-1), 1) := by decide +kernel
theorem dq_Rs_placeOf_41 : decode prog_8_method_2_code 41 = .ok (.ireturn, 1) := by decide +kernel
set_option maxRecDepth 100000 in
def pq_Rs_placeOf_41 (E : wo_E) (mc ms : Nat) (Post : Int32 → wo_W → Prop) (G : wo_W) (c s : Nat) (y0 : Int32) : Prop := Post y0 G
set_option maxRecDepth 100000 in
def pq_Rs_placeOf_40 (E : wo_E) (mc ms : Nat) (Post : Int32 → wo_W → Prop) (G : wo_W) (c s : Nat) : Prop := pq_Rs_placeOf_41 E mc ms Post G c s (-1 : Int32)
set_option maxRecDepth 100000 in
def pq_Rs_placeOf_26 (E : wo_E) (mc ms : Nat) (Post : Int32 → wo_W → Prop) (G : wo_W) (c s : Nat) (y0 : Int32) : Prop := ((y0 < (0 : Int32) → pq_Rs_placeOf_40 E mc ms Post G c s) ∧
  (¬ y0 < (0 : Int32) → (((3 : Int32) ≤ y0 → pq_Rs_placeOf_40 E mc ms Post G c s) ∧
    (¬ (3 : Int32) ≤ y0 → pq_Rs_placeOf_41 E mc ms Post G c s y0))))
set_option maxRecDepth 100000 in
def pq_Rs_placeOf_0 (E : wo_E) (mc ms : Nat) (Post : Int32 → wo_W → Prop) (G : wo_W) (c s : Nat) (x0 : Option Nat) : Prop := ((x0 = none → Post (0 : Int32) G) ∧
  (∀ a1 : Nat, x0 = some a1 → wo_ty G a1 = 10 ∧ ∃ mc3 ms4 : Nat, (c + mc3) ≤ mc ∧ (s + ms4) ≤ ms ∧ pq_St_length E mc3 ms4 (fun v6 G5 => 
    ((¬ v6 = (1 : Int32) → pq_Rs_placeOf_26 E mc ms Post G5 (c + mc3) (s + ms4) (-1 : Int32)) ∧
      (v6 = (1 : Int32) → wo_ty G5 a1 = 10 ∧ ∃ mc8 ms9 : Nat, ((c + mc3) + mc8) ≤ mc ∧ ((s + ms4) + ms9) ≤ ms ∧ pq_St_charAt E mc8 ms9 (fun v11 G10 => 
        pq_Rs_placeOf_26 E mc ms Post G10 ((c + mc3) + mc8) ((s + ms4) + ms9) (v11 - (97 : Int32))) G5 a1 (0 : Int32)))) G a1))
def pq_Rs_placeOf (E : wo_E) (mc ms : Nat) (Post : Int32 → wo_W → Prop) (G : wo_W) (x0 : Option Nat) : Prop := pq_Rs_placeOf_0 E mc ms Post G 0 0 x0
set_option maxRecDepth 100000 in
set_option maxHeartbeats 4000000 in
theorem tq_Rs_placeOf_41 {p : Program} {l : Launch} {e : Env} {R : Room} {s₀ : State} {m : MethodId} {args : Array Value} {below : List Frame} {meth : Method} {cd : Code} {E : wo_E} {mc ms : Nat} {Post : Int32 → wo_W → Prop} (hC : wo_Cx E "EdgeCache$Resource" prog_8_method_2_code 2 4 85 ((Option.some Jvm.ClassFile.FieldType.int)) "placeOf" mc ms p R s₀ m args meth cd) : ∀ {G : wo_W} {c s : Nat} {y0 : Int32}, pq_Rs_placeOf_41 E mc ms Post G c s y0 → ∀ {H : Heap} {locs : List Loc} {ls : Array Slot}, wo_Se E G H → va_S (en_A E) s₀.heap H locs → lx_has ls 2 [] → c ≤ mc → s ≤ ms → W p l e R s₀ m args below meth cd H locs c s (MQ below (va_Qi Post (wo_B E) (en_A E)) args s₀ mc ms (en_A E)) (F0 m 41 ls [.int y0]) := by
  intro G c s y0 hw H locs ls hG hS hl hcc hss
  dsimp only [pq_Rs_placeOf_41] at hw
  have hx := hC.1
  have hb := hC.2.1
  exact wo_iret hC hG hS hcc hss hw dq_Rs_placeOf_41
set_option maxRecDepth 100000 in
set_option maxHeartbeats 4000000 in
theorem tq_Rs_placeOf_40 {p : Program} {l : Launch} {e : Env} {R : Room} {s₀ : State} {m : MethodId} {args : Array Value} {below : List Frame} {meth : Method} {cd : Code} {E : wo_E} {mc ms : Nat} {Post : Int32 → wo_W → Prop} (hC : wo_Cx E "EdgeCache$Resource" prog_8_method_2_code 2 4 85 ((Option.some Jvm.ClassFile.FieldType.int)) "placeOf" mc ms p R s₀ m args meth cd) : ∀ {G : wo_W} {c s : Nat}, pq_Rs_placeOf_40 E mc ms Post G c s → ∀ {H : Heap} {locs : List Loc} {ls : Array Slot}, wo_Se E G H → va_S (en_A E) s₀.heap H locs → lx_has ls 2 [] → c ≤ mc → s ≤ ms → W p l e R s₀ m args below meth cd H locs c s (MQ below (va_Qi Post (wo_B E) (en_A E)) args s₀ mc ms (en_A E)) (F0 m 40 ls []) := by
  intro G c s hw H locs ls hG hS hl hcc hss
  dsimp only [pq_Rs_placeOf_40] at hw
  have hx := hC.1
  have hb := hC.2.1
  refine lv_iconst (v := (-1 : Int32)) hx hb dq_Rs_placeOf_40 rfl ?_
  exact tq_Rs_placeOf_41 hC hw hG hS (lx_sub hl [] rfl) hcc hss
set_option maxRecDepth 100000 in
set_option maxHeartbeats 4000000 in
theorem tq_Rs_placeOf_26 {p : Program} {l : Launch} {e : Env} {R : Room} {s₀ : State} {m : MethodId} {args : Array Value} {below : List Frame} {meth : Method} {cd : Code} {E : wo_E} {mc ms : Nat} {Post : Int32 → wo_W → Prop} (hC : wo_Cx E "EdgeCache$Resource" prog_8_method_2_code 2 4 85 ((Option.some Jvm.ClassFile.FieldType.int)) "placeOf" mc ms p R s₀ m args meth cd) : ∀ {G : wo_W} {c s : Nat} {y0 : Int32}, pq_Rs_placeOf_26 E mc ms Post G c s y0 → ∀ {H : Heap} {locs : List Loc} {ls : Array Slot}, wo_Se E G H → va_S (en_A E) s₀.heap H locs → lx_has ls 2 [] → c ≤ mc → s ≤ ms → W p l e R s₀ m args below meth cd H locs c s (MQ below (va_Qi Post (wo_B E) (en_A E)) args s₀ mc ms (en_A E)) (F0 m 26 ls [.int y0]) := by
  intro G c s y0 hw H locs ls hG hS hl hcc hss
  dsimp only [pq_Rs_placeOf_26] at hw
  have hx := hC.1
  have hb := hC.2.1
  refine lx_istore_n (lv' := [(1, 1, .int y0)]) hx hb dq_Rs_placeOf_26 rfl hl (by decide) rfl (fun ls hl' => ?_)
  clear hl
  have hl := hl'
  clear hl'
  refine lv_iload_n hx hb dq_Rs_placeOf_27 rfl (lx_at hl 0 rfl) ?_
  refine lv_if_lt (tgt := 40) hx hb dq_Rs_placeOf_28 rfl (fun h => ?_) (fun h => ?_)
  · replace hw := hw.1 h
    exact tq_Rs_placeOf_40 hC hw hG hS (lx_sub hl [] rfl) hcc hss
  · replace hw := hw.2 h
    refine lv_iload_n hx hb dq_Rs_placeOf_31 rfl (lx_at hl 0 rfl) ?_
    refine lv_iconst (v := (3 : Int32)) hx hb dq_Rs_placeOf_32 rfl ?_
    refine lv_icmp_ge (tgt := 40) hx hb dq_Rs_placeOf_33 rfl (fun h => ?_) (fun h => ?_)
    · replace hw := hw.1 h
      exact tq_Rs_placeOf_40 hC hw hG hS (lx_sub hl [] rfl) hcc hss
    · replace hw := hw.2 h
      refine lv_iload_n hx hb dq_Rs_placeOf_36 rfl (lx_at hl 0 rfl) ?_
      refine lv_goto (tgt := 41) hx hb dq_Rs_placeOf_37 rfl ?_
      exact tq_Rs_placeOf_41 hC hw hG hS (lx_sub hl [] rfl) hcc hss
set_option maxRecDepth 100000 in
set_option maxHeartbeats 4000000 in
theorem tq_Rs_placeOf_0 {p : Program} {l : Launch} {e : Env} {R : Room} {s₀ : State} {m : MethodId} {args : Array Value} {below : List Frame} {meth : Method} {cd : Code} {E : wo_E} {mc ms : Nat} {Post : Int32 → wo_W → Prop} (hC : wo_Cx E "EdgeCache$Resource" prog_8_method_2_code 2 4 85 ((Option.some Jvm.ClassFile.FieldType.int)) "placeOf" mc ms p R s₀ m args meth cd) : ∀ {G : wo_W} {c s : Nat} {x0 : Option Nat}, pq_Rs_placeOf_0 E mc ms Post G c s x0 → ∀ {H : Heap} {locs : List Loc} {ls : Array Slot}, wo_Se E G H → va_S (en_A E) s₀.heap H locs → lx_has ls 2 [(0, 1, va_rf x0)] → c ≤ mc → s ≤ ms → W p l e R s₀ m args below meth cd H locs c s (MQ below (va_Qi Post (wo_B E) (en_A E)) args s₀ mc ms (en_A E)) (F0 m 0 ls []) := by
  intro G c s x0 hw H locs ls hG hS hl hcc hss
  dsimp only [pq_Rs_placeOf_0] at hw
  have hx := hC.1
  have hb := hC.2.1
  refine lx_aloadR_n hx hb dq_Rs_placeOf_0 rfl (lx_at hl 0 rfl) ?_
  refine lx_ifnonnull (tgt := 6) hx hb dq_Rs_placeOf_1 rfl (fun h => ?_) (fun a1 h => ?_)
  · replace hw := hw.1 h
    subst h
    refine lv_iconst (v := (0 : Int32)) hx hb dq_Rs_placeOf_4 rfl ?_
    exact wo_iret hC hG hS hcc hss hw dq_Rs_placeOf_5
  · replace hw := hw.2 a1 h
    subst h
    refine lv_aload_n hx hb dq_Rs_placeOf_6 rfl (lx_at hl 0 rfl) ?_
    obtain ⟨t2, hw⟩ := hw
    obtain ⟨mc3, ms4, hc1, hs1, hw⟩ := hw
    refine va_calli (wo_runV hC lq_Rs_21 (mq_St_length hw) hG hS t2 rfl (lx_sz hl) rfl (Nat.zero_le _) (by decide) dq_Rs_placeOf_7 ⟨hc1, hs1⟩) hS (fun _ _ h => h) (fun _ h => h) (fun v6 G5 t H locs ht hvm hw' hB _ _ hS => ?_)
    clear hw
    have hw := hw'
    clear hw'
    replace hG := wo_bk ht hB
    replace hcc := hc1
    replace hss := hs1
    refine lv_iconst (v := (1 : Int32)) hx hb dq_Rs_placeOf_10 rfl ?_
    refine lv_icmp_ne (tgt := 25) hx hb dq_Rs_placeOf_11 rfl (fun h => ?_) (fun h => ?_)
    · replace hw := hw.1 h
      refine lv_iconst (v := (-1 : Int32)) hx hb dq_Rs_placeOf_25 rfl ?_
      exact tq_Rs_placeOf_26 hC hw hG hS (lx_sub hl [] rfl) hcc hss
    · replace hw := hw.2 h
      refine lv_aload_n hx hb dq_Rs_placeOf_14 rfl (lx_at hl 0 rfl) ?_
      refine lv_iconst (v := (0 : Int32)) hx hb dq_Rs_placeOf_15 rfl ?_
      obtain ⟨t7, hw⟩ := hw
      obtain ⟨mc8, ms9, hc1, hs1, hw⟩ := hw
      refine va_calli (wo_runV hC lq_Rs_27 (mq_St_charAt hw) hG hS t7 rfl (lx_sz hl) rfl (Nat.zero_le _) (by decide) dq_Rs_placeOf_16 ⟨hc1, hs1⟩) hS (fun _ _ h => h) (fun _ h => h) (fun v11 G10 t H locs ht hvm hw' hB _ _ hS => ?_)
      clear hw
      have hw := hw'
      clear hw'
      replace hG := wo_bk ht hB
      replace hcc := hc1
      replace hss := hs1
      refine lv_bipush (v := (97 : Int32)) hx hb dq_Rs_placeOf_19 rfl ?_
      refine lv_isub hx hb dq_Rs_placeOf_21 ?_
      refine lv_goto (tgt := 26) hx hb dq_Rs_placeOf_22 rfl ?_
      exact tq_Rs_placeOf_26 hC hw hG hS (lx_sub hl [] rfl) hcc hss
set_option maxHeartbeats 4000000 in
theorem mq_Rs_placeOf {l : Launch} {E : wo_E} {mc ms : Nat} {Post : Int32 → wo_W → Prop} {G : wo_W} {x0 : Option Nat} (hw : pq_Rs_placeOf E mc ms Post G x0) : Met l yq_Rs_placeOf (Cond.code yq_Rs_placeOf prog_8_method_2_code 2 ((Option.some Jvm.ClassFile.FieldType.int)) :: vw_WG) { frames := 4, cells := mc, slots := ms, locals := 85 } (va_Pc [va_rf x0] (wo_Ok E G)) (va_Qi Post (wo_B E) (en_A E)) mc ms (en_A E) := by
  unfold pq_Rs_placeOf at hw
  exact wo_met [(1, va_rf x0)] rfl (by decide) (fun q hq => by simp only [List.mem_cons, List.not_mem_nil, or_false] at hq; rcases hq with rfl <;> first | rfl | exact lx_cR _) (Nat.le_of_ble_eq_true rfl) (fun p e R s m args below meth cd ls hC hG hS hl => tq_Rs_placeOf_0 hC hw hG hS (lx_sub hl [0] rfl) (Nat.zero_le _) (Nat.zero_le _))

theorem dq_Rp_init_0 : decode prog_6_method_1_code 0 = .ok (.aload_n 0, 1) := by decide +kernel
theorem dq_Rp_init_1 : decode prog_6_method_1_code 1 = .ok (.invokespecial 1, 3) := by decide +kernel
theorem dq_Rp_init_4 : decode prog_6_method_1_code 4 = .ok (.aload_n 0, 1) := by decide +kernel
theorem dq_Rp_init_5 : decode prog_6_method_1_code 5 = .ok (.iload_n 1, 1) := by decide +kernel
theorem dq_Rp_init_6 : decode prog_6_method_1_code 6 = .ok (.putfield 7, 3) := by decide +kernel
theorem dq_Rp_init_9 : decode prog_6_method_1_code 9 = .ok (.aload_n 0, 1) := by decide +kernel
theorem dq_Rp_init_10 : decode prog_6_method_1_code 10 = .ok (.aload_n 2, 1) := by decide +kernel
theorem dq_Rp_init_11 : decode prog_6_method_1_code 11 = .ok (.putfield 13, 3) := by decide +kernel
theorem dq_Rp_init_14 : decode prog_6_method_1_code 14 = .ok (.aload_n 0, 1) := by decide +kernel
theorem dq_Rp_init_15 : decode prog_6_method_1_code 15 = .ok (.iload_n 3, 1) := by decide +kernel
theorem dq_Rp_init_16 : decode prog_6_method_1_code 16 = .ok (.putfield 17, 3) := by decide +kernel
theorem dq_Rp_init_19 : decode prog_6_method_1_code 19 = .ok (.aload_n 0, 1) := by decide +kernel
theorem dq_Rp_init_20 : decode prog_6_method_1_code 20 = .ok (.aload 4, 2) := by decide +kernel
theorem dq_Rp_init_22 : decode prog_6_method_1_code 22 = .ok (.putfield 21, 3) := by decide +kernel
theorem dq_Rp_init_25 : decode prog_6_method_1_code 25 = .ok (.aload_n 0, 1) := by decide +kernel
theorem dq_Rp_init_26 : decode prog_6_method_1_code 26 = .ok (.iload 5, 2) := by decide +kernel
theorem dq_Rp_init_28 : decode prog_6_method_1_code 28 = .ok (.putfield 24, 3) := by decide +kernel
theorem dq_Rp_init_31 : decode prog_6_method_1_code 31 = .ok (.return_, 1) := by decide +kernel
set_option maxRecDepth 100000 in
def pq_Rp_init_0 (E : wo_E) (mc ms : Nat) (Post : wo_W → Prop) (G : wo_W) (c s : Nat) (x0 : Nat) (x1 : Int32) (x2 : Option Nat) (x3 : Int32) (x4 : Option Nat) (x5 : Int32) : Prop := wo_ty G x0 = 13 ∧ en_bs E ≤ x0 ∧ wo_okI .char x1 ∧ ∀ G4 : wo_W, G4 = wo_si G 768 x0 x1 → 
  en_bs E ≤ x0 ∧ ∀ G7 : wo_W, G7 = wo_sr G4 769 x0 x2 → 
  en_bs E ≤ x0 ∧ ∀ G10 : wo_W, G10 = wo_si G7 770 x0 x3 → 
  en_bs E ≤ x0 ∧ ∀ G13 : wo_W, G13 = wo_sr G10 771 x0 x4 → 
  en_bs E ≤ x0 ∧ wo_okI .boolean x5 ∧ ∀ G17 : wo_W, G17 = wo_si G13 772 x0 x5 → 
  Post G17
def pq_Rp_init (E : wo_E) (mc ms : Nat) (Post : wo_W → Prop) (G : wo_W) (x0 : Nat) (x1 : Int32) (x2 : Option Nat) (x3 : Int32) (x4 : Option Nat) (x5 : Int32) : Prop := pq_Rp_init_0 E mc ms Post G 0 0 x0 x1 x2 x3 x4 x5
set_option maxRecDepth 100000 in
set_option maxHeartbeats 4000000 in
theorem tq_Rp_init_0 {p : Program} {l : Launch} {e : Env} {R : Room} {s₀ : State} {m : MethodId} {args : Array Value} {below : List Frame} {meth : Method} {cd : Code} {E : wo_E} {mc ms : Nat} {Post : wo_W → Prop} (hC : wo_Cx E "EdgeCache$Representation" prog_6_method_1_code 6 1 28 ((Option.none : Option Jvm.ClassFile.FieldType)) "<init>" mc ms p R s₀ m args meth cd) : ∀ {G : wo_W} {c s : Nat} {x0 : Nat} {x1 : Int32} {x2 : Option Nat} {x3 : Int32} {x4 : Option Nat} {x5 : Int32}, pq_Rp_init_0 E mc ms Post G c s x0 x1 x2 x3 x4 x5 → ∀ {H : Heap} {locs : List Loc} {ls : Array Slot}, wo_Se E G H → va_S (en_A E) s₀.heap H locs → lx_has ls 6 [(0, 1, .ref x0), (1, 1, .int x1), (2, 1, va_rf x2), (3, 1, .int x3), (4, 1, va_rf x4), (5, 1, .int x5)] → c ≤ mc → s ≤ ms → W p l e R s₀ m args below meth cd H locs c s (MQ below (va_Qv Post (wo_B E) (en_A E)) args s₀ mc ms (en_A E)) (F0 m 0 ls []) := by
  intro G c s x0 x1 x2 x3 x4 x5 hw H locs ls hG hS hl hcc hss
  dsimp only [pq_Rp_init_0] at hw
  have hx := hC.1
  have hb := hC.2.1
  refine lv_aload_n hx hb dq_Rp_init_0 rfl (lx_at hl 0 rfl) ?_
  refine wo_objI hC lq_Rp_1 (lx_sz hl) (by decide) (lx_rk (Nat.le_of_ble_eq_true rfl)) dq_Rp_init_1 ?_
  refine lv_aload_n hx hb dq_Rp_init_4 rfl (lx_at hl 0 rfl) ?_
  refine lv_iload_n hx hb dq_Rp_init_5 rfl (lx_at hl 1 rfl) ?_
  obtain ⟨t1, hw⟩ := hw
  obtain ⟨h2, hw⟩ := hw
  obtain ⟨h3, hw⟩ := hw
  refine wo_putI hC fq_Rp_7 (Or.inr ⟨rfl, rfl⟩) rfl h3 hG hS t1 h2 dq_Rp_init_6 (fun G4 H locs e5 hG hS => ?_)
  replace hw := hw G4 e5
  refine lv_aload_n hx hb dq_Rp_init_9 rfl (lx_at hl 0 rfl) ?_
  refine lx_aloadR_n hx hb dq_Rp_init_10 rfl (lx_at hl 2 rfl) ?_
  obtain ⟨h6, hw⟩ := hw
  refine wo_putR (x := x2) hC fq_Rp_13 (Or.inr ⟨rfl, rfl⟩) rfl hG hS (ty_si e5 t1) h6 dq_Rp_init_11 (fun G7 H locs e8 hG hS => ?_)
  replace hw := hw G7 e8
  refine lv_aload_n hx hb dq_Rp_init_14 rfl (lx_at hl 0 rfl) ?_
  refine lv_iload_n hx hb dq_Rp_init_15 rfl (lx_at hl 3 rfl) ?_
  obtain ⟨h9, hw⟩ := hw
  refine wo_putI hC fq_Rp_17 (Or.inr ⟨rfl, rfl⟩) rfl (wo_ok_int _) hG hS (ty_sr e8 (ty_si e5 t1)) h9 dq_Rp_init_16 (fun G10 H locs e11 hG hS => ?_)
  replace hw := hw G10 e11
  refine lv_aload_n hx hb dq_Rp_init_19 rfl (lx_at hl 0 rfl) ?_
  refine lx_aloadR hx hb dq_Rp_init_20 (lx_at hl 4 rfl) ?_
  obtain ⟨h12, hw⟩ := hw
  refine wo_putR (x := x4) hC fq_Rp_21 (Or.inr ⟨rfl, rfl⟩) rfl hG hS (ty_si e11 (ty_sr e8 (ty_si e5 t1))) h12 dq_Rp_init_22 (fun G13 H locs e14 hG hS => ?_)
  replace hw := hw G13 e14
  refine lv_aload_n hx hb dq_Rp_init_25 rfl (lx_at hl 0 rfl) ?_
  refine lv_iload hx hb dq_Rp_init_26 (lx_at hl 5 rfl) ?_
  obtain ⟨h15, hw⟩ := hw
  obtain ⟨h16, hw⟩ := hw
  refine wo_putI hC fq_Rp_24 (Or.inr ⟨rfl, rfl⟩) rfl h16 hG hS (ty_sr e14 (ty_si e11 (ty_sr e8 (ty_si e5 t1)))) h15 dq_Rp_init_28 (fun G17 H locs e18 hG hS => ?_)
  replace hw := hw G17 e18
  exact wo_vret hC hG hS hcc hss hw dq_Rp_init_31
set_option maxHeartbeats 4000000 in
theorem mq_Rp_init {l : Launch} {E : wo_E} {mc ms : Nat} {Post : wo_W → Prop} {G : wo_W} {x0 : Nat} {x1 : Int32} {x2 : Option Nat} {x3 : Int32} {x4 : Option Nat} {x5 : Int32} (hw : pq_Rp_init E mc ms Post G x0 x1 x2 x3 x4 x5) : Met l yq_Rp_init (Cond.code yq_Rp_init prog_6_method_1_code 6 ((Option.none : Option Jvm.ClassFile.FieldType)) :: vw_WG) { frames := 1, cells := mc, slots := ms, locals := 28 } (va_Pc [.ref x0, .int x1, va_rf x2, .int x3, va_rf x4, .int x5] (wo_Ok E G)) (va_Qv Post (wo_B E) (en_A E)) mc ms (en_A E) := by
  unfold pq_Rp_init at hw
  exact wo_met [(1, .ref x0), (1, .int x1), (1, va_rf x2), (1, .int x3), (1, va_rf x4), (1, .int x5)] rfl (by decide) (fun q hq => by simp only [List.mem_cons, List.not_mem_nil, or_false] at hq; rcases hq with rfl | rfl | rfl | rfl | rfl | rfl <;> first | rfl | exact lx_cR _) (Nat.le_of_ble_eq_true rfl) (fun p e R s m args below meth cd ls hC hG hS hl => tq_Rp_init_0 hC hw hG hS (lx_sub hl [0, 1, 2, 3, 4, 5] rfl) (Nat.zero_le _) (Nat.zero_le _))

theorem dq_Rs_letterCount_0 : decode prog_8_method_7_code 0 = .ok (.iconst 0, 1) := by decide +kernel
theorem dq_Rs_letterCount_1 : decode prog_8_method_7_code 1 = .ok (.istore_n 1, 1) := by decide +kernel
theorem dq_Rs_letterCount_2 : decode prog_8_method_7_code 2 = .ok (.iconst 0, 1) := by decide +kernel
theorem dq_Rs_letterCount_3 : decode prog_8_method_7_code 3 = .ok (.istore_n 2, 1) := by decide +kernel
theorem dq_Rs_letterCount_4 : decode prog_8_method_7_code 4 = .ok (.iload_n 2, 1) := by decide +kernel
theorem dq_Rs_letterCount_5 : decode prog_8_method_7_code 5 = .ok (.iconst 3, 1) := by decide +kernel
theorem dq_Rs_letterCount_6 : decode prog_8_method_7_code 6 = .ok (.if_icmp .ge 21, 3) := by decide +kernel
theorem dq_Rs_letterCount_9 : decode prog_8_method_7_code 9 = .ok (.aload_n 0, 1) := by decide +kernel
theorem dq_Rs_letterCount_10 : decode prog_8_method_7_code 10 = .ok (.getfield 13, 3) := by decide +kernel
theorem dq_Rs_letterCount_13 : decode prog_8_method_7_code 13 = .ok (.iload_n 2, 1) := by decide +kernel
theorem dq_Rs_letterCount_14 : decode prog_8_method_7_code 14 = .ok (.aaload, 1) := by decide +kernel
theorem dq_Rs_letterCount_15 : decode prog_8_method_7_code 15 = .ok (.ifnull 6, 3) := by decide +kernel
theorem dq_Rs_letterCount_18 : decode prog_8_method_7_code 18 = .ok (.iinc 1 1, 3) := by decide +kernel
theorem dq_Rs_letterCount_21 : decode prog_8_method_7_code 21 = .ok (.iinc 2 1, 3) := by decide +kernel
theorem dq_Rs_letterCount_24 : decode prog_8_method_7_code 24 = .ok (.goto (-20), 3) := by decide +kernel
theorem dq_Rs_letterCount_27 : decode prog_8_method_7_code 27 = .ok (.iload_n 1, 1) := by decide +kernel
theorem dq_Rs_letterCount_28 : decode prog_8_method_7_code 28 = .ok (.ireturn, 1) := by decide +kernel
set_option maxRecDepth 100000 in
def pq_Rs_letterCount_21 (E : wo_E) (mc ms : Nat) (Post : Int32 → wo_W → Prop) (k4 : wo_W → Nat → Nat → Nat → Int32 → Int32 → Prop) (G : wo_W) (c s : Nat) (x0 : Nat) (x1 : Int32) (x2 : Int32) : Prop := k4 G c s x0 x1 (x2 + (1 : Int32))
set_option maxRecDepth 100000 in
def pq_Rs_letterCount_4 (E : wo_E) (mc ms : Nat) (Post : Int32 → wo_W → Prop) : Nat → wo_W → Nat → Nat → Nat → Int32 → Int32 → Prop
  | 0 => fun _ _ _ _ _ _ => False
  | n + 1 => fun G c s x0 x1 x2 => (((3 : Int32) ≤ x2 → Post x1 G) ∧
  (¬ (3 : Int32) ≤ x2 → wo_ty G x0 = 12 ∧ ∀ r2 : Option Nat, r2 = wo_gr G 705 x0 → ∃ a4 : Nat, r2 = some a4 ∧ wo_ty G a4 = 70 ∧ vp_in x2 (wo_len G a4) ∧ ∀ r7 : Option Nat, r7 = wo_er G a4 x2.toNatClampNeg → ((r7 = none → pq_Rs_letterCount_21 E mc ms Post (pq_Rs_letterCount_4 E mc ms Post n) G c s x0 x1 x2) ∧
    (∀ a9 : Nat, r7 = some a9 → pq_Rs_letterCount_21 E mc ms Post (pq_Rs_letterCount_4 E mc ms Post n) G c s x0 (x1 + (1 : Int32)) x2))))
set_option maxRecDepth 100000 in
def pq_Rs_letterCount_0 (E : wo_E) (mc ms : Nat) (Post : Int32 → wo_W → Prop) (G : wo_W) (c s : Nat) (x0 : Nat) : Prop := ∃ n1 : Nat, pq_Rs_letterCount_4 E mc ms Post n1 G c s x0 (0 : Int32) (0 : Int32)
def pq_Rs_letterCount (E : wo_E) (mc ms : Nat) (Post : Int32 → wo_W → Prop) (G : wo_W) (x0 : Nat) : Prop := pq_Rs_letterCount_0 E mc ms Post G 0 0 x0
set_option maxRecDepth 100000 in
set_option maxHeartbeats 4000000 in
theorem tq_Rs_letterCount_21 {p : Program} {l : Launch} {e : Env} {R : Room} {s₀ : State} {m : MethodId} {args : Array Value} {below : List Frame} {meth : Method} {cd : Code} {E : wo_E} {mc ms : Nat} {Post : Int32 → wo_W → Prop} {k4 : wo_W → Nat → Nat → Nat → Int32 → Int32 → Prop} (hC : wo_Cx E "EdgeCache$Resource" prog_8_method_7_code 3 0 0 ((Option.some Jvm.ClassFile.FieldType.int)) "letterCount" mc ms p R s₀ m args meth cd) (hk4 : ∀ {G : wo_W} {c s : Nat} {x0 : Nat} {x1 : Int32} {x2 : Int32}, k4 G c s x0 x1 x2 → ∀ {H : Heap} {locs : List Loc} {ls : Array Slot}, wo_Se E G H → va_S (en_A E) s₀.heap H locs → lx_has ls 3 [(0, 1, .ref x0), (1, 1, .int x1), (2, 1, .int x2)] → c ≤ mc → s ≤ ms → W p l e R s₀ m args below meth cd H locs c s (MQ below (va_Qi Post (wo_B E) (en_A E)) args s₀ mc ms (en_A E)) (F0 m 4 ls [])) : ∀ {G : wo_W} {c s : Nat} {x0 : Nat} {x1 : Int32} {x2 : Int32}, pq_Rs_letterCount_21 E mc ms Post k4 G c s x0 x1 x2 → ∀ {H : Heap} {locs : List Loc} {ls : Array Slot}, wo_Se E G H → va_S (en_A E) s₀.heap H locs → lx_has ls 3 [(0, 1, .ref x0), (1, 1, .int x1), (2, 1, .int x2)] → c ≤ mc → s ≤ ms → W p l e R s₀ m args below meth cd H locs c s (MQ below (va_Qi Post (wo_B E) (en_A E)) args s₀ mc ms (en_A E)) (F0 m 21 ls []) := by
  intro G c s x0 x1 x2 hw H locs ls hG hS hl hcc hss
  dsimp only [pq_Rs_letterCount_21] at hw
  have hx := hC.1
  have hb := hC.2.1
  refine lx_iinc (k := 2) (v := (x2 + (1 : Int32))) (lv' := [(2, 1, .int (x2 + (1 : Int32))), (0, 1, .ref x0), (1, 1, .int x1)]) hx hb dq_Rs_letterCount_21 hl rfl rfl (by decide) rfl (fun ls hl' => ?_)
  clear hl
  have hl := hl'
  clear hl'
  refine lv_goto (tgt := 4) hx hb dq_Rs_letterCount_24 rfl ?_
  exact hk4 hw hG hS (lx_sub hl [1, 2, 0] rfl) hcc hss
set_option maxRecDepth 100000 in
set_option maxHeartbeats 4000000 in
theorem tq_Rs_letterCount_4 {p : Program} {l : Launch} {e : Env} {R : Room} {s₀ : State} {m : MethodId} {args : Array Value} {below : List Frame} {meth : Method} {cd : Code} {E : wo_E} {mc ms : Nat} {Post : Int32 → wo_W → Prop} (hC : wo_Cx E "EdgeCache$Resource" prog_8_method_7_code 3 0 0 ((Option.some Jvm.ClassFile.FieldType.int)) "letterCount" mc ms p R s₀ m args meth cd) : ∀ n : Nat, ∀ {G : wo_W} {c s : Nat} {x0 : Nat} {x1 : Int32} {x2 : Int32}, pq_Rs_letterCount_4 E mc ms Post n G c s x0 x1 x2 → ∀ {H : Heap} {locs : List Loc} {ls : Array Slot}, wo_Se E G H → va_S (en_A E) s₀.heap H locs → lx_has ls 3 [(0, 1, .ref x0), (1, 1, .int x1), (2, 1, .int x2)] → c ≤ mc → s ≤ ms → W p l e R s₀ m args below meth cd H locs c s (MQ below (va_Qi Post (wo_B E) (en_A E)) args s₀ mc ms (en_A E)) (F0 m 4 ls []) := by
  intro n
  induction n with
  | zero => intro G c s x0 x1 x2 hw; exact hw.elim
  | succ n ih =>
    intro G c s x0 x1 x2 hw H locs ls hG hS hl hcc hss
    dsimp only [pq_Rs_letterCount_4] at hw
    have hx := hC.1
    have hb := hC.2.1
    refine lv_iload_n hx hb dq_Rs_letterCount_4 rfl (lx_at hl 2 rfl) ?_
    refine lv_iconst (v := (3 : Int32)) hx hb dq_Rs_letterCount_5 rfl ?_
    refine lv_icmp_ge (tgt := 27) hx hb dq_Rs_letterCount_6 rfl (fun h => ?_) (fun h => ?_)
    · replace hw := hw.1 h
      refine lv_iload_n hx hb dq_Rs_letterCount_27 rfl (lx_at hl 1 rfl) ?_
      exact wo_iret hC hG hS hcc hss hw dq_Rs_letterCount_28
    · replace hw := hw.2 h
      refine lv_aload_n hx hb dq_Rs_letterCount_9 rfl (lx_at hl 0 rfl) ?_
      obtain ⟨t1, hw⟩ := hw
      refine wo_getR hC fq_Rs_13 rfl hG t1 dq_Rs_letterCount_10 (fun r2 e3 => ?_)
      replace hw := hw r2 e3
      refine lv_iload_n hx hb dq_Rs_letterCount_13 rfl (lx_at hl 2 rfl) ?_
      obtain ⟨a4, rfl, hw⟩ := hw
      obtain ⟨t5, hw⟩ := hw
      obtain ⟨h6, hw⟩ := hw
      refine wo_aald (j := 6) hC rfl hG t5 h6 dq_Rs_letterCount_14 (fun r7 e8 => ?_)
      replace hw := hw r7 e8
      refine lx_ifnull (tgt := 21) hx hb dq_Rs_letterCount_15 rfl (fun h => ?_) (fun a9 h => ?_)
      · replace hw := hw.1 h
        subst h
        exact tq_Rs_letterCount_21 hC ih hw hG hS (lx_sub hl [0, 1, 2] rfl) hcc hss
      · replace hw := hw.2 a9 h
        subst h
        refine lx_iinc (k := 1) (v := (x1 + (1 : Int32))) (lv' := [(1, 1, .int (x1 + (1 : Int32))), (0, 1, .ref x0), (2, 1, .int x2)]) hx hb dq_Rs_letterCount_18 hl rfl rfl (by decide) rfl (fun ls hl' => ?_)
        clear hl
        have hl := hl'
        clear hl'
        exact tq_Rs_letterCount_21 hC ih hw hG hS (lx_sub hl [1, 0, 2] rfl) hcc hss
set_option maxRecDepth 100000 in
set_option maxHeartbeats 4000000 in
theorem tq_Rs_letterCount_0 {p : Program} {l : Launch} {e : Env} {R : Room} {s₀ : State} {m : MethodId} {args : Array Value} {below : List Frame} {meth : Method} {cd : Code} {E : wo_E} {mc ms : Nat} {Post : Int32 → wo_W → Prop} (hC : wo_Cx E "EdgeCache$Resource" prog_8_method_7_code 3 0 0 ((Option.some Jvm.ClassFile.FieldType.int)) "letterCount" mc ms p R s₀ m args meth cd) : ∀ {G : wo_W} {c s : Nat} {x0 : Nat}, pq_Rs_letterCount_0 E mc ms Post G c s x0 → ∀ {H : Heap} {locs : List Loc} {ls : Array Slot}, wo_Se E G H → va_S (en_A E) s₀.heap H locs → lx_has ls 3 [(0, 1, .ref x0)] → c ≤ mc → s ≤ ms → W p l e R s₀ m args below meth cd H locs c s (MQ below (va_Qi Post (wo_B E) (en_A E)) args s₀ mc ms (en_A E)) (F0 m 0 ls []) := by
  intro G c s x0 hw H locs ls hG hS hl hcc hss
  dsimp only [pq_Rs_letterCount_0] at hw
  have hx := hC.1
  have hb := hC.2.1
  refine lv_iconst (v := (0 : Int32)) hx hb dq_Rs_letterCount_0 rfl ?_
  refine lx_istore_n (lv' := [(1, 1, .int (0 : Int32)), (0, 1, .ref x0)]) hx hb dq_Rs_letterCount_1 rfl hl (by decide) rfl (fun ls hl' => ?_)
  clear hl
  have hl := hl'
  clear hl'
  refine lv_iconst (v := (0 : Int32)) hx hb dq_Rs_letterCount_2 rfl ?_
  refine lx_istore_n (lv' := [(2, 1, .int (0 : Int32)), (1, 1, .int (0 : Int32)), (0, 1, .ref x0)]) hx hb dq_Rs_letterCount_3 rfl hl (by decide) rfl (fun ls hl' => ?_)
  clear hl
  have hl := hl'
  clear hl'
  obtain ⟨n1, hw⟩ := hw
  exact tq_Rs_letterCount_4 hC n1 hw hG hS (lx_sub hl [2, 1, 0] rfl) hcc hss
set_option maxHeartbeats 4000000 in
theorem mq_Rs_letterCount {l : Launch} {E : wo_E} {mc ms : Nat} {Post : Int32 → wo_W → Prop} {G : wo_W} {x0 : Nat} (hw : pq_Rs_letterCount E mc ms Post G x0) : Met l yq_Rs_letterCount (Cond.code yq_Rs_letterCount prog_8_method_7_code 3 ((Option.some Jvm.ClassFile.FieldType.int)) :: vw_WG) { frames := 0, cells := mc, slots := ms, locals := 0 } (va_Pc [.ref x0] (wo_Ok E G)) (va_Qi Post (wo_B E) (en_A E)) mc ms (en_A E) := by
  unfold pq_Rs_letterCount at hw
  exact wo_met [(1, .ref x0)] rfl (by decide) (fun q hq => by simp only [List.mem_cons, List.not_mem_nil, or_false] at hq; rcases hq with rfl <;> first | rfl | exact lx_cR _) (Nat.le_of_ble_eq_true rfl) (fun p e R s m args below meth cd ls hC hG hS hl => tq_Rs_letterCount_0 hC hw hG hS (lx_sub hl [0] rfl) (Nat.zero_le _) (Nat.zero_le _))

theorem dq_Rs_set_0 : decode prog_8_method_6_code 0 = .ok (.iload_n 1, 1) := by decide +kernel
theorem dq_Rs_set_1 : decode prog_8_method_6_code 1 = .ok (.ifCond .lt 8, 3) := by decide +kernel
theorem dq_Rs_set_4 : decode prog_8_method_6_code 4 = .ok (.iload_n 1, 1) := by decide +kernel
theorem dq_Rs_set_5 : decode prog_8_method_6_code 5 = .ok (.iconst 3, 1) := by decide +kernel
theorem dq_Rs_set_6 : decode prog_8_method_6_code 6 = .ok (.if_icmp .lt 4, 3) := by decide +kernel
theorem dq_Rs_set_9 : decode prog_8_method_6_code 9 = .ok (.return_, 1) := by decide +kernel
theorem dq_Rs_set_10 : decode prog_8_method_6_code 10 = .ok (.aload_n 0, 1) := by decide +kernel
theorem dq_Rs_set_11 : decode prog_8_method_6_code 11 = .ok (.getfield 13, 3) := by decide +kernel
theorem dq_Rs_set_14 : decode prog_8_method_6_code 14 = .ok (.iload_n 1, 1) := by decide +kernel
theorem dq_Rs_set_15 : decode prog_8_method_6_code 15 = .ok (.new 11, 3) := by decide +kernel
theorem dq_Rs_set_18 : decode prog_8_method_6_code 18 = .ok (.dup, 1) := by decide +kernel
theorem dq_Rs_set_19 : decode prog_8_method_6_code 19 = .ok (.bipush 97, 2) := by decide +kernel
theorem dq_Rs_set_21 : decode prog_8_method_6_code 21 = .ok (.iload_n 1, 1) := by decide +kernel
theorem dq_Rs_set_22 : decode prog_8_method_6_code 22 = .ok (.iadd, 1) := by decide +kernel
theorem dq_Rs_set_23 : decode prog_8_method_6_code 23 = .ok (.i2c, 1) := by decide +kernel
theorem dq_Rs_set_24 : decode prog_8_method_6_code 24 = .ok (.aload_n 2, 1) := by decide +kernel
theorem dq_Rs_set_25 : decode prog_8_method_6_code 25 = .ok (.iload_n 3, 1) := by decide +kernel
theorem dq_Rs_set_26 : decode prog_8_method_6_code 26 = .ok (.aload 4, 2) := by decide +kernel
theorem dq_Rs_set_28 : decode prog_8_method_6_code 28 = .ok (.iconst 0, 1) := by decide +kernel
theorem dq_Rs_set_29 : decode prog_8_method_6_code 29 = .ok (.invokespecial 54, 3) := by decide +kernel
theorem dq_Rs_set_32 : decode prog_8_method_6_code 32 = .ok (.aastore, 1) := by decide +kernel
theorem dq_Rs_set_33 : decode prog_8_method_6_code 33 = .ok (.aload_n 0, 1) := by decide +kernel
theorem dq_Rs_set_34 : decode prog_8_method_6_code 34 = .ok (.invokevirtual 31, 3) := by decide +kernel
theorem dq_Rs_set_37 : decode prog_8_method_6_code 37 = .ok (.iconst 1, 1) := by decide +kernel
theorem dq_Rs_set_38 : decode prog_8_method_6_code 38 = .ok (.if_icmp .le 7, 3) := by decide +kernel
theorem dq_Rs_set_41 : decode prog_8_method_6_code 41 = .ok (.iconst 1, 1) := by decide +kernel
theorem dq_Rs_set_42 : decode prog_8_method_6_code 42 = .ok (.goto 4, 3) := by decide +kernel
theorem dq_Rs_set_45 : decode prog_8_method_6_code 45 = .ok (.iconst 0, 1) := by decide +kernel
theorem dq_Rs_set_46 : decode prog_8_method_6_code 46 = .ok (.istore 5, 2) := by decide +kernel
theorem dq_Rs_set_48 : decode prog_8_method_6_code 48 = .ok (.iconst 0, 1) := by decide +kernel
theorem dq_Rs_set_49 : decode prog_8_method_6_code 49 = .ok (.istore 6, 2) := by decide +kernel
theorem dq_Rs_set_51 : decode prog_8_method_6_code 51 = .ok (.iload 6, 2) := by decide +kernel
theorem dq_Rs_set_53 : decode prog_8_method_6_code 53 = .ok (.iconst 3, 1) := by decide +kernel
theorem dq_Rs_set_54 : decode prog_8_method_6_code 54 = .ok (.if_icmp .ge 56, 3) := by decide +kernel
theorem dq_Rs_set_57 : decode prog_8_method_6_code 57 = .ok (.aload_n 0, 1) := by decide +kernel
theorem dq_Rs_set_58 : decode prog_8_method_6_code 58 = .ok (.getfield 13, 3) := by decide +kernel
theorem dq_Rs_set_61 : decode prog_8_method_6_code 61 = .ok (.iload 6, 2) := by decide +kernel
theorem dq_Rs_set_63 : decode prog_8_method_6_code 63 = .ok (.aaload, 1) := by decide +kernel
theorem dq_Rs_set_64 : decode prog_8_method_6_code 64 = .ok (.astore 7, 2) := by decide +kernel
theorem dq_Rs_set_66 : decode prog_8_method_6_code 66 = .ok (.aload 7, 2) := by decide +kernel
theorem dq_Rs_set_68 : decode prog_8_method_6_code 68 = .ok (.ifnull 36, 3) := by decide +kernel
theorem dq_Rs_set_71 : decode prog_8_method_6_code 71 = .ok (.aload_n 0, 1) := by decide +kernel
theorem dq_Rs_set_72 : decode prog_8_method_6_code 72 = .ok (.getfield 13, 3) := by decide +kernel
theorem dq_Rs_set_75 : decode prog_8_method_6_code 75 = .ok (.iload 6, 2) := by decide +kernel
theorem dq_Rs_set_77 : decode prog_8_method_6_code 77 = .ok (.new 11, 3) := by decide +kernel
theorem dq_Rs_set_80 : decode prog_8_method_6_code 80 = .ok (.dup, 1) := by decide +kernel
theorem dq_Rs_set_81 : decode prog_8_method_6_code 81 = .ok (.aload 7, 2) := by decide +kernel
theorem dq_Rs_set_83 : decode prog_8_method_6_code 83 = .ok (.getfield 40, 3) := by decide +kernel
theorem dq_Rs_set_86 : decode prog_8_method_6_code 86 = .ok (.aload 7, 2) := by decide +kernel
theorem dq_Rs_set_88 : decode prog_8_method_6_code 88 = .ok (.getfield 57, 3) := by decide +kernel
theorem dq_Rs_set_91 : decode prog_8_method_6_code 91 = .ok (.aload 7, 2) := by decide +kernel
theorem dq_Rs_set_93 : decode prog_8_method_6_code 93 = .ok (.getfield 60, 3) := by decide +kernel
theorem dq_Rs_set_96 : decode prog_8_method_6_code 96 = .ok (.aload 4, 2) := by decide +kernel
theorem dq_Rs_set_98 : decode prog_8_method_6_code 98 = .ok (.iload 5, 2) := by decide +kernel
theorem dq_Rs_set_100 : decode prog_8_method_6_code 100 = .ok (.invokespecial 54, 3) := by decide +kernel
theorem dq_Rs_set_103 : decode prog_8_method_6_code 103 = .ok (.aastore, 1) := by decide +kernel
theorem dq_Rs_set_104 : decode prog_8_method_6_code 104 = .ok (.iinc 6 1, 3) := by decide +kernel
theorem dq_Rs_set_107 : decode prog_8_method_6_code 107 = .ok (.goto (-56), 3) := by decide +kernel
theorem dq_Rs_set_110 : decode prog_8_method_6_code 110 = .ok (.return_, 1) := by decide +kernel
set_option maxRecDepth 100000 in
def pq_Rs_set_9 (E : wo_E) (mc ms : Nat) (Post : wo_W → Prop) (G : wo_W) (c s : Nat) : Prop := Post G
set_option maxRecDepth 100000 in
def pq_Rs_set_104 (E : wo_E) (mc ms : Nat) (Post : wo_W → Prop) (k51 : wo_W → Nat → Nat → Nat → Option Nat → Int32 → Int32 → Prop) (G : wo_W) (c s : Nat) (x0 : Nat) (x4 : Option Nat) (x5 : Int32) (x6 : Int32) : Prop := k51 G c s x0 x4 x5 (x6 + (1 : Int32))
set_option maxRecDepth 100000 in
def pq_Rs_set_51 (E : wo_E) (mc ms : Nat) (Post : wo_W → Prop) : Nat → wo_W → Nat → Nat → Nat → Option Nat → Int32 → Int32 → Prop
  | 0 => fun _ _ _ _ _ _ _ => False
  | n + 1 => fun G c s x0 x4 x5 x6 => (((3 : Int32) ≤ x6 → Post G) ∧
  (¬ (3 : Int32) ≤ x6 → wo_ty G x0 = 12 ∧ ∀ r2 : Option Nat, r2 = wo_gr G 705 x0 → ∃ a4 : Nat, r2 = some a4 ∧ wo_ty G a4 = 70 ∧ vp_in x6 (wo_len G a4) ∧ ∀ r7 : Option Nat, r7 = wo_er G a4 x6.toNatClampNeg → ((r7 = none → pq_Rs_set_104 E mc ms Post (pq_Rs_set_51 E mc ms Post n) G c s x0 x4 x5 x6) ∧
    (∀ a9 : Nat, r7 = some a9 → ∀ r10 : Option Nat, r10 = wo_gr G 705 x0 → (c + 1) ≤ mc ∧ (s + 5) ≤ ms ∧ ∀ q14 : Nat, wo_ty G q14 = 0 → en_bs E ≤ q14 → ∀ G17 : wo_W, G17 = wo_new G q14 13 → 
      wo_ty G17 a9 = 13 ∧ ∀ r20 : Option Nat, r20 = wo_gr G17 769 a9 → ∃ mc22 ms23 : Nat, ((c + 1) + mc22) ≤ mc ∧ ((s + 5) + ms23) ≤ ms ∧ pq_Rp_init E mc22 ms23 (fun G24 => 
      ∃ a25 : Nat, r10 = some a25 ∧ wo_ty G24 a25 = 70 ∧ vp_in x6 (wo_len G24 a25) ∧ en_bs E ≤ a25 ∧ wo_may G24 6 (some q14) ∧ ∀ G30 : wo_W, G30 = wo_ser G24 a25 x6.toNatClampNeg (some q14) → 
        pq_Rs_set_104 E mc ms Post (pq_Rs_set_51 E mc ms Post n) G30 ((c + 1) + mc22) ((s + 5) + ms23) x0 x4 x5 x6) G17 q14 (wo_gi G17 768 a9) r20 (wo_gi G17 770 a9) x4 x5))))
set_option maxRecDepth 100000 in
def pq_Rs_set_46 (E : wo_E) (mc ms : Nat) (Post : wo_W → Prop) (G : wo_W) (c s : Nat) (x0 : Nat) (x4 : Option Nat) (y0 : Int32) : Prop := ∃ n1 : Nat, pq_Rs_set_51 E mc ms Post n1 G c s x0 x4 y0 (0 : Int32)
set_option maxRecDepth 100000 in
def pq_Rs_set_0 (E : wo_E) (mc ms : Nat) (Post : wo_W → Prop) (G : wo_W) (c s : Nat) (x0 : Nat) (x1 : Int32) (x2 : Option Nat) (x3 : Int32) (x4 : Option Nat) : Prop := ((x1 < (0 : Int32) → pq_Rs_set_9 E mc ms Post G c s) ∧
  (¬ x1 < (0 : Int32) → ((x1 < (3 : Int32) → wo_ty G x0 = 12 ∧ ∀ r2 : Option Nat, r2 = wo_gr G 705 x0 → (c + 1) ≤ mc ∧ (s + 5) ≤ ms ∧ ∀ q6 : Nat, wo_ty G q6 = 0 → en_bs E ≤ q6 → ∀ G9 : wo_W, G9 = wo_new G q6 13 → 
      ∃ mc11 ms12 : Nat, ((c + 1) + mc11) ≤ mc ∧ ((s + 5) + ms12) ≤ ms ∧ pq_Rp_init E mc11 ms12 (fun G13 => 
      ∃ a14 : Nat, r2 = some a14 ∧ wo_ty G13 a14 = 70 ∧ vp_in x1 (wo_len G13 a14) ∧ en_bs E ≤ a14 ∧ wo_may G13 6 (some q6) ∧ ∀ G19 : wo_W, G19 = wo_ser G13 a14 x1.toNatClampNeg (some q6) → 
        wo_ty G19 x0 = 12 ∧ ∃ mc22 ms23 : Nat, (((c + 1) + mc11) + mc22) ≤ mc ∧ (((s + 5) + ms12) + ms23) ≤ ms ∧ pq_Rs_letterCount E mc22 ms23 (fun v25 G24 => 
        ((v25 ≤ (1 : Int32) → pq_Rs_set_46 E mc ms Post G24 (((c + 1) + mc11) + mc22) (((s + 5) + ms12) + ms23) x0 x4 (0 : Int32)) ∧
          (¬ v25 ≤ (1 : Int32) → pq_Rs_set_46 E mc ms Post G24 (((c + 1) + mc11) + mc22) (((s + 5) + ms12) + ms23) x0 x4 (1 : Int32)))) G19 x0) G9 q6 (wo_i2c ((97 : Int32) + x1)) x2 x3 x4 (0 : Int32)) ∧
    (¬ x1 < (3 : Int32) → pq_Rs_set_9 E mc ms Post G c s))))
def pq_Rs_set (E : wo_E) (mc ms : Nat) (Post : wo_W → Prop) (G : wo_W) (x0 : Nat) (x1 : Int32) (x2 : Option Nat) (x3 : Int32) (x4 : Option Nat) : Prop := pq_Rs_set_0 E mc ms Post G 0 0 x0 x1 x2 x3 x4
set_option maxRecDepth 100000 in
set_option maxHeartbeats 4000000 in
theorem tq_Rs_set_9 {p : Program} {l : Launch} {e : Env} {R : Room} {s₀ : State} {m : MethodId} {args : Array Value} {below : List Frame} {meth : Method} {cd : Code} {E : wo_E} {mc ms : Nat} {Post : wo_W → Prop} (hC : wo_Cx E "EdgeCache$Resource" prog_8_method_6_code 8 2 53 ((Option.none : Option Jvm.ClassFile.FieldType)) "set" mc ms p R s₀ m args meth cd) : ∀ {G : wo_W} {c s : Nat}, pq_Rs_set_9 E mc ms Post G c s → ∀ {H : Heap} {locs : List Loc} {ls : Array Slot}, wo_Se E G H → va_S (en_A E) s₀.heap H locs → lx_has ls 8 [] → c ≤ mc → s ≤ ms → W p l e R s₀ m args below meth cd H locs c s (MQ below (va_Qv Post (wo_B E) (en_A E)) args s₀ mc ms (en_A E)) (F0 m 9 ls []) := by
  intro G c s hw H locs ls hG hS hl hcc hss
  dsimp only [pq_Rs_set_9] at hw
  have hx := hC.1
  have hb := hC.2.1
  exact wo_vret hC hG hS hcc hss hw dq_Rs_set_9
set_option maxRecDepth 100000 in
set_option maxHeartbeats 4000000 in
theorem tq_Rs_set_104 {p : Program} {l : Launch} {e : Env} {R : Room} {s₀ : State} {m : MethodId} {args : Array Value} {below : List Frame} {meth : Method} {cd : Code} {E : wo_E} {mc ms : Nat} {Post : wo_W → Prop} {k51 : wo_W → Nat → Nat → Nat → Option Nat → Int32 → Int32 → Prop} (hC : wo_Cx E "EdgeCache$Resource" prog_8_method_6_code 8 2 53 ((Option.none : Option Jvm.ClassFile.FieldType)) "set" mc ms p R s₀ m args meth cd) (hk51 : ∀ {G : wo_W} {c s : Nat} {x0 : Nat} {x4 : Option Nat} {x5 : Int32} {x6 : Int32}, k51 G c s x0 x4 x5 x6 → ∀ {H : Heap} {locs : List Loc} {ls : Array Slot}, wo_Se E G H → va_S (en_A E) s₀.heap H locs → lx_has ls 8 [(0, 1, .ref x0), (4, 1, va_rf x4), (5, 1, .int x5), (6, 1, .int x6)] → c ≤ mc → s ≤ ms → W p l e R s₀ m args below meth cd H locs c s (MQ below (va_Qv Post (wo_B E) (en_A E)) args s₀ mc ms (en_A E)) (F0 m 51 ls [])) : ∀ {G : wo_W} {c s : Nat} {x0 : Nat} {x4 : Option Nat} {x5 : Int32} {x6 : Int32}, pq_Rs_set_104 E mc ms Post k51 G c s x0 x4 x5 x6 → ∀ {H : Heap} {locs : List Loc} {ls : Array Slot}, wo_Se E G H → va_S (en_A E) s₀.heap H locs → lx_has ls 8 [(0, 1, .ref x0), (4, 1, va_rf x4), (5, 1, .int x5), (6, 1, .int x6)] → c ≤ mc → s ≤ ms → W p l e R s₀ m args below meth cd H locs c s (MQ below (va_Qv Post (wo_B E) (en_A E)) args s₀ mc ms (en_A E)) (F0 m 104 ls []) := by
  intro G c s x0 x4 x5 x6 hw H locs ls hG hS hl hcc hss
  dsimp only [pq_Rs_set_104] at hw
  have hx := hC.1
  have hb := hC.2.1
  refine lx_iinc (k := 3) (v := (x6 + (1 : Int32))) (lv' := [(6, 1, .int (x6 + (1 : Int32))), (0, 1, .ref x0), (4, 1, va_rf x4), (5, 1, .int x5)]) hx hb dq_Rs_set_104 hl rfl rfl (by decide) rfl (fun ls hl' => ?_)
  clear hl
  have hl := hl'
  clear hl'
  refine lv_goto (tgt := 51) hx hb dq_Rs_set_107 rfl ?_
  exact hk51 hw hG hS (lx_sub hl [1, 2, 3, 0] rfl) hcc hss
set_option maxRecDepth 100000 in
set_option maxHeartbeats 4000000 in
theorem tq_Rs_set_51 {p : Program} {l : Launch} {e : Env} {R : Room} {s₀ : State} {m : MethodId} {args : Array Value} {below : List Frame} {meth : Method} {cd : Code} {E : wo_E} {mc ms : Nat} {Post : wo_W → Prop} (hC : wo_Cx E "EdgeCache$Resource" prog_8_method_6_code 8 2 53 ((Option.none : Option Jvm.ClassFile.FieldType)) "set" mc ms p R s₀ m args meth cd) : ∀ n : Nat, ∀ {G : wo_W} {c s : Nat} {x0 : Nat} {x4 : Option Nat} {x5 : Int32} {x6 : Int32}, pq_Rs_set_51 E mc ms Post n G c s x0 x4 x5 x6 → ∀ {H : Heap} {locs : List Loc} {ls : Array Slot}, wo_Se E G H → va_S (en_A E) s₀.heap H locs → lx_has ls 8 [(0, 1, .ref x0), (4, 1, va_rf x4), (5, 1, .int x5), (6, 1, .int x6)] → c ≤ mc → s ≤ ms → W p l e R s₀ m args below meth cd H locs c s (MQ below (va_Qv Post (wo_B E) (en_A E)) args s₀ mc ms (en_A E)) (F0 m 51 ls []) := by
  intro n
  induction n with
  | zero => intro G c s x0 x4 x5 x6 hw; exact hw.elim
  | succ n ih =>
    intro G c s x0 x4 x5 x6 hw H locs ls hG hS hl hcc hss
    dsimp only [pq_Rs_set_51] at hw
    have hx := hC.1
    have hb := hC.2.1
    refine lv_iload hx hb dq_Rs_set_51 (lx_at hl 3 rfl) ?_
    refine lv_iconst (v := (3 : Int32)) hx hb dq_Rs_set_53 rfl ?_
    refine lv_icmp_ge (tgt := 110) hx hb dq_Rs_set_54 rfl (fun h => ?_) (fun h => ?_)
    · replace hw := hw.1 h
      exact wo_vret hC hG hS hcc hss hw dq_Rs_set_110
    · replace hw := hw.2 h
      refine lv_aload_n hx hb dq_Rs_set_57 rfl (lx_at hl 0 rfl) ?_
      obtain ⟨t1, hw⟩ := hw
      refine wo_getR hC fq_Rs_13 rfl hG t1 dq_Rs_set_58 (fun r2 e3 => ?_)
      replace hw := hw r2 e3
      refine lv_iload hx hb dq_Rs_set_61 (lx_at hl 3 rfl) ?_
      obtain ⟨a4, rfl, hw⟩ := hw
      obtain ⟨t5, hw⟩ := hw
      obtain ⟨h6, hw⟩ := hw
      refine wo_aald (j := 6) hC rfl hG t5 h6 dq_Rs_set_63 (fun r7 e8 => ?_)
      replace hw := hw r7 e8
      refine lx_astoreR (lv' := [(7, 1, va_rf r7), (0, 1, .ref x0), (4, 1, va_rf x4), (5, 1, .int x5), (6, 1, .int x6)]) hx hb dq_Rs_set_64 hl (by decide) rfl (fun ls hl' => ?_)
      clear hl
      have hl := hl'
      clear hl'
      refine lx_aloadR hx hb dq_Rs_set_66 (lx_at hl 0 rfl) ?_
      refine lx_ifnull (tgt := 104) hx hb dq_Rs_set_68 rfl (fun h => ?_) (fun a9 h => ?_)
      · replace hw := hw.1 h
        subst h
        exact tq_Rs_set_104 hC ih hw hG hS (lx_sub hl [1, 2, 3, 4] rfl) hcc hss
      · replace hw := hw.2 a9 h
        subst h
        refine lv_aload_n hx hb dq_Rs_set_71 rfl (lx_at hl 1 rfl) ?_
        refine wo_getR hC fq_Rs_13 rfl hG t1 dq_Rs_set_72 (fun r10 e11 => ?_)
        replace hw := hw r10 e11
        refine lv_iload hx hb dq_Rs_set_75 (lx_at hl 4 rfl) ?_
        obtain ⟨h12, hw⟩ := hw
        obtain ⟨h13, hw⟩ := hw
        refine wo_newc hC nq_Rs_11 hG hS h12 h13 dq_Rs_set_77 (fun q14 G17 H z15 b16 e18 hG hS => ?_)
        replace hw := hw q14 z15 b16 G17 e18
        replace hcc := h12
        replace hss := h13
        refine lv_dup hx hb dq_Rs_set_80 rfl ?_
        refine lv_aload hx hb dq_Rs_set_81 (lx_at hl 0 rfl) ?_
        obtain ⟨t19, hw⟩ := hw
        refine wo_getI hC fq_Rs_40 rfl hG t19 dq_Rs_set_83 ?_
        refine lv_aload hx hb dq_Rs_set_86 (lx_at hl 0 rfl) ?_
        refine wo_getR hC fq_Rs_57 rfl hG t19 dq_Rs_set_88 (fun r20 e21 => ?_)
        replace hw := hw r20 e21
        refine lv_aload hx hb dq_Rs_set_91 (lx_at hl 0 rfl) ?_
        refine wo_getI hC fq_Rs_60 rfl hG t19 dq_Rs_set_93 ?_
        refine lx_aloadR hx hb dq_Rs_set_96 (lx_at hl 2 rfl) ?_
        refine lv_iload hx hb dq_Rs_set_98 (lx_at hl 3 rfl) ?_
        obtain ⟨mc22, ms23, hc1, hs1, hw⟩ := hw
        refine va_callv (wo_runI hC lq_Rs_54 (mq_Rp_init hw) hG hS rfl (lx_sz hl) rfl (lx_rm (Nat.le_of_ble_eq_true rfl)) (by decide) dq_Rs_set_100 ⟨hc1, hs1⟩) hS (fun _ _ h => h) (fun _ h => h) (fun G24 t H locs ht hvm hw' hB _ _ hS => ?_)
        clear hw
        have hw := hw'
        clear hw'
        replace hG := wo_bk ht hB
        replace hcc := hc1
        replace hss := hs1
        obtain ⟨a25, rfl, hw⟩ := hw
        obtain ⟨t26, hw⟩ := hw
        obtain ⟨h27, hw⟩ := hw
        obtain ⟨h28, hw⟩ := hw
        obtain ⟨h29, hw⟩ := hw
        refine wo_aast (x := (some q14)) (j := 6) hC rfl hG hS t26 h27 h28 h29 dq_Rs_set_103 (fun G30 H locs e31 hG hS => ?_)
        replace hw := hw G30 e31
        exact tq_Rs_set_104 hC ih hw hG hS (lx_sub hl [1, 2, 3, 4] rfl) hcc hss
set_option maxRecDepth 100000 in
set_option maxHeartbeats 4000000 in
theorem tq_Rs_set_46 {p : Program} {l : Launch} {e : Env} {R : Room} {s₀ : State} {m : MethodId} {args : Array Value} {below : List Frame} {meth : Method} {cd : Code} {E : wo_E} {mc ms : Nat} {Post : wo_W → Prop} (hC : wo_Cx E "EdgeCache$Resource" prog_8_method_6_code 8 2 53 ((Option.none : Option Jvm.ClassFile.FieldType)) "set" mc ms p R s₀ m args meth cd) : ∀ {G : wo_W} {c s : Nat} {x0 : Nat} {x4 : Option Nat} {y0 : Int32}, pq_Rs_set_46 E mc ms Post G c s x0 x4 y0 → ∀ {H : Heap} {locs : List Loc} {ls : Array Slot}, wo_Se E G H → va_S (en_A E) s₀.heap H locs → lx_has ls 8 [(0, 1, .ref x0), (4, 1, va_rf x4)] → c ≤ mc → s ≤ ms → W p l e R s₀ m args below meth cd H locs c s (MQ below (va_Qv Post (wo_B E) (en_A E)) args s₀ mc ms (en_A E)) (F0 m 46 ls [.int y0]) := by
  intro G c s x0 x4 y0 hw H locs ls hG hS hl hcc hss
  dsimp only [pq_Rs_set_46] at hw
  have hx := hC.1
  have hb := hC.2.1
  refine lx_istore (lv' := [(5, 1, .int y0), (0, 1, .ref x0), (4, 1, va_rf x4)]) hx hb dq_Rs_set_46 hl (by decide) rfl (fun ls hl' => ?_)
  clear hl
  have hl := hl'
  clear hl'
  refine lv_iconst (v := (0 : Int32)) hx hb dq_Rs_set_48 rfl ?_
  refine lx_istore (lv' := [(6, 1, .int (0 : Int32)), (5, 1, .int y0), (0, 1, .ref x0), (4, 1, va_rf x4)]) hx hb dq_Rs_set_49 hl (by decide) rfl (fun ls hl' => ?_)
  clear hl
  have hl := hl'
  clear hl'
  obtain ⟨n1, hw⟩ := hw
  exact tq_Rs_set_51 hC n1 hw hG hS (lx_sub hl [2, 3, 1, 0] rfl) hcc hss
set_option maxRecDepth 100000 in
set_option maxHeartbeats 4000000 in
theorem tq_Rs_set_0 {p : Program} {l : Launch} {e : Env} {R : Room} {s₀ : State} {m : MethodId} {args : Array Value} {below : List Frame} {meth : Method} {cd : Code} {E : wo_E} {mc ms : Nat} {Post : wo_W → Prop} (hC : wo_Cx E "EdgeCache$Resource" prog_8_method_6_code 8 2 53 ((Option.none : Option Jvm.ClassFile.FieldType)) "set" mc ms p R s₀ m args meth cd) : ∀ {G : wo_W} {c s : Nat} {x0 : Nat} {x1 : Int32} {x2 : Option Nat} {x3 : Int32} {x4 : Option Nat}, pq_Rs_set_0 E mc ms Post G c s x0 x1 x2 x3 x4 → ∀ {H : Heap} {locs : List Loc} {ls : Array Slot}, wo_Se E G H → va_S (en_A E) s₀.heap H locs → lx_has ls 8 [(0, 1, .ref x0), (1, 1, .int x1), (2, 1, va_rf x2), (3, 1, .int x3), (4, 1, va_rf x4)] → c ≤ mc → s ≤ ms → W p l e R s₀ m args below meth cd H locs c s (MQ below (va_Qv Post (wo_B E) (en_A E)) args s₀ mc ms (en_A E)) (F0 m 0 ls []) := by
  intro G c s x0 x1 x2 x3 x4 hw H locs ls hG hS hl hcc hss
  dsimp only [pq_Rs_set_0] at hw
  have hx := hC.1
  have hb := hC.2.1
  refine lv_iload_n hx hb dq_Rs_set_0 rfl (lx_at hl 1 rfl) ?_
  refine lv_if_lt (tgt := 9) hx hb dq_Rs_set_1 rfl (fun h => ?_) (fun h => ?_)
  · replace hw := hw.1 h
    exact tq_Rs_set_9 hC hw hG hS (lx_sub hl [] rfl) hcc hss
  · replace hw := hw.2 h
    refine lv_iload_n hx hb dq_Rs_set_4 rfl (lx_at hl 1 rfl) ?_
    refine lv_iconst (v := (3 : Int32)) hx hb dq_Rs_set_5 rfl ?_
    refine lv_icmp_lt (tgt := 10) hx hb dq_Rs_set_6 rfl (fun h => ?_) (fun h => ?_)
    · replace hw := hw.1 h
      refine lv_aload_n hx hb dq_Rs_set_10 rfl (lx_at hl 0 rfl) ?_
      obtain ⟨t1, hw⟩ := hw
      refine wo_getR hC fq_Rs_13 rfl hG t1 dq_Rs_set_11 (fun r2 e3 => ?_)
      replace hw := hw r2 e3
      refine lv_iload_n hx hb dq_Rs_set_14 rfl (lx_at hl 1 rfl) ?_
      obtain ⟨h4, hw⟩ := hw
      obtain ⟨h5, hw⟩ := hw
      refine wo_newc hC nq_Rs_11 hG hS h4 h5 dq_Rs_set_15 (fun q6 G9 H z7 b8 e10 hG hS => ?_)
      replace hw := hw q6 z7 b8 G9 e10
      replace hcc := h4
      replace hss := h5
      refine lv_dup hx hb dq_Rs_set_18 rfl ?_
      refine lv_bipush (v := (97 : Int32)) hx hb dq_Rs_set_19 rfl ?_
      refine lv_iload_n hx hb dq_Rs_set_21 rfl (lx_at hl 1 rfl) ?_
      refine lv_iadd hx hb dq_Rs_set_22 ?_
      refine lv_i2c (v := (wo_i2c ((97 : Int32) + x1))) hx hb dq_Rs_set_23 rfl ?_
      refine lx_aloadR_n hx hb dq_Rs_set_24 rfl (lx_at hl 2 rfl) ?_
      refine lv_iload_n hx hb dq_Rs_set_25 rfl (lx_at hl 3 rfl) ?_
      refine lx_aloadR hx hb dq_Rs_set_26 (lx_at hl 4 rfl) ?_
      refine lv_iconst (v := (0 : Int32)) hx hb dq_Rs_set_28 rfl ?_
      obtain ⟨mc11, ms12, hc1, hs1, hw⟩ := hw
      refine va_callv (wo_runI hC lq_Rs_54 (mq_Rp_init hw) hG hS rfl (lx_sz hl) rfl (lx_rm (Nat.le_of_ble_eq_true rfl)) (by decide) dq_Rs_set_29 ⟨hc1, hs1⟩) hS (fun _ _ h => h) (fun _ h => h) (fun G13 t H locs ht hvm hw' hB _ _ hS => ?_)
      clear hw
      have hw := hw'
      clear hw'
      replace hG := wo_bk ht hB
      replace hcc := hc1
      replace hss := hs1
      obtain ⟨a14, rfl, hw⟩ := hw
      obtain ⟨t15, hw⟩ := hw
      obtain ⟨h16, hw⟩ := hw
      obtain ⟨h17, hw⟩ := hw
      obtain ⟨h18, hw⟩ := hw
      refine wo_aast (x := (some q6)) (j := 6) hC rfl hG hS t15 h16 h17 h18 dq_Rs_set_32 (fun G19 H locs e20 hG hS => ?_)
      replace hw := hw G19 e20
      refine lv_aload_n hx hb dq_Rs_set_33 rfl (lx_at hl 0 rfl) ?_
      obtain ⟨t21, hw⟩ := hw
      obtain ⟨mc22, ms23, hc1, hs1, hw⟩ := hw
      refine va_calli (wo_runV hC lq_Rs_31 (mq_Rs_letterCount hw) hG hS t21 rfl (lx_sz hl) rfl (Nat.zero_le _) (by decide) dq_Rs_set_34 ⟨hc1, hs1⟩) hS (fun _ _ h => h) (fun _ h => h) (fun v25 G24 t H locs ht hvm hw' hB _ _ hS => ?_)
      clear hw
      have hw := hw'
      clear hw'
      replace hG := wo_bk ht hB
      replace hcc := hc1
      replace hss := hs1
      refine lv_iconst (v := (1 : Int32)) hx hb dq_Rs_set_37 rfl ?_
      refine lv_icmp_le (tgt := 45) hx hb dq_Rs_set_38 rfl (fun h => ?_) (fun h => ?_)
      · replace hw := hw.1 h
        refine lv_iconst (v := (0 : Int32)) hx hb dq_Rs_set_45 rfl ?_
        exact tq_Rs_set_46 hC hw hG hS (lx_sub hl [0, 4] rfl) hcc hss
      · replace hw := hw.2 h
        refine lv_iconst (v := (1 : Int32)) hx hb dq_Rs_set_41 rfl ?_
        refine lv_goto (tgt := 46) hx hb dq_Rs_set_42 rfl ?_
        exact tq_Rs_set_46 hC hw hG hS (lx_sub hl [0, 4] rfl) hcc hss
    · replace hw := hw.2 h
      exact tq_Rs_set_9 hC hw hG hS (lx_sub hl [] rfl) hcc hss
set_option maxHeartbeats 4000000 in
theorem mq_Rs_set {l : Launch} {E : wo_E} {mc ms : Nat} {Post : wo_W → Prop} {G : wo_W} {x0 : Nat} {x1 : Int32} {x2 : Option Nat} {x3 : Int32} {x4 : Option Nat} (hw : pq_Rs_set E mc ms Post G x0 x1 x2 x3 x4) : Met l yq_Rs_set (Cond.code yq_Rs_set prog_8_method_6_code 8 ((Option.none : Option Jvm.ClassFile.FieldType)) :: vw_WG) { frames := 2, cells := mc, slots := ms, locals := 53 } (va_Pc [.ref x0, .int x1, va_rf x2, .int x3, va_rf x4] (wo_Ok E G)) (va_Qv Post (wo_B E) (en_A E)) mc ms (en_A E) := by
  unfold pq_Rs_set at hw
  exact wo_met [(1, .ref x0), (1, .int x1), (1, va_rf x2), (1, .int x3), (1, va_rf x4)] rfl (by decide) (fun q hq => by simp only [List.mem_cons, List.not_mem_nil, or_false] at hq; rcases hq with rfl | rfl | rfl | rfl | rfl <;> first | rfl | exact lx_cR _) (Nat.le_of_ble_eq_true rfl) (fun p e R s m args below meth cd ls hC hG hS hl => tq_Rs_set_0 hC hw hG hS (lx_sub hl [0, 1, 2, 3, 4] rfl) (Nat.zero_le _) (Nat.zero_le _))

theorem dq_Og_put_0 : decode prog_4_method_4_code 0 = .ok (.aload_n 1, 1) := by decide +kernel
theorem dq_Og_put_1 : decode prog_4_method_4_code 1 = .ok (.getfield 18, 3) := by decide +kernel
theorem dq_Og_put_4 : decode prog_4_method_4_code 4 = .ok (.astore_n 2, 1) := by decide +kernel
theorem dq_Og_put_5 : decode prog_4_method_4_code 5 = .ok (.aload_n 2, 1) := by decide +kernel
theorem dq_Og_put_6 : decode prog_4_method_4_code 6 = .ok (.getfield 76, 3) := by decide +kernel
theorem dq_Og_put_9 : decode prog_4_method_4_code 9 = .ok (.invokestatic 79, 3) := by decide +kernel
theorem dq_Og_put_12 : decode prog_4_method_4_code 12 = .ok (.istore_n 3, 1) := by decide +kernel
theorem dq_Og_put_13 : decode prog_4_method_4_code 13 = .ok (.iload_n 3, 1) := by decide +kernel
theorem dq_Og_put_14 : decode prog_4_method_4_code 14 = .ok (.iconst (-1), 1) := by decide +kernel
theorem dq_Og_put_15 : decode prog_4_method_4_code 15 = .ok (.if_icmp .ne 11, 3) := by decide +kernel
theorem dq_Og_put_18 : decode prog_4_method_4_code 18 = .ok (.aload_n 1, 1) := by decide +kernel
theorem dq_Og_put_19 : decode prog_4_method_4_code 19 = .ok (.sipush 415, 3) := by decide +kernel
theorem dq_Og_put_22 : decode prog_4_method_4_code 22 = .ok (.putfield 48, 3) := by decide +kernel
theorem dq_Og_put_25 : decode prog_4_method_4_code 25 = .ok (.return_, 1) := by decide +kernel
theorem dq_Og_put_26 : decode prog_4_method_4_code 26 = .ok (.aload_n 0, 1) := by decide +kernel
theorem dq_Og_put_27 : decode prog_4_method_4_code 27 = .ok (.aload_n 2, 1) := by decide +kernel
theorem dq_Og_put_28 : decode prog_4_method_4_code 28 = .ok (.getfield 40, 3) := by decide +kernel
theorem dq_Og_put_31 : decode prog_4_method_4_code 31 = .ok (.invokevirtual 44, 3) := by decide +kernel
theorem dq_Og_put_34 : decode prog_4_method_4_code 34 = .ok (.istore 4, 2) := by decide +kernel
theorem dq_Og_put_36 : decode prog_4_method_4_code 36 = .ok (.iload 4, 2) := by decide +kernel
theorem dq_Og_put_38 : decode prog_4_method_4_code 38 = .ok (.iconst (-1), 1) := by decide +kernel
theorem dq_Og_put_39 : decode prog_4_method_4_code 39 = .ok (.if_icmp .ne 7, 3) := by decide +kernel
theorem dq_Og_put_42 : decode prog_4_method_4_code 42 = .ok (.aconst_null, 1) := by decide +kernel
theorem dq_Og_put_43 : decode prog_4_method_4_code 43 = .ok (.goto 19, 3) := by decide +kernel
theorem dq_Og_put_46 : decode prog_4_method_4_code 46 = .ok (.aload_n 0, 1) := by decide +kernel
theorem dq_Og_put_47 : decode prog_4_method_4_code 47 = .ok (.getfield 12, 3) := by decide +kernel
theorem dq_Og_put_50 : decode prog_4_method_4_code 50 = .ok (.iload 4, 2) := by decide +kernel
theorem dq_Og_put_52 : decode prog_4_method_4_code 52 = .ok (.invokevirtual 51, 3) := by decide +kernel
theorem dq_Og_put_55 : decode prog_4_method_4_code 55 = .ok (.checkcast 55, 3) := by decide +kernel
theorem dq_Og_put_58 : decode prog_4_method_4_code 58 = .ok (.iload_n 3, 1) := by decide +kernel
theorem dq_Og_put_59 : decode prog_4_method_4_code 59 = .ok (.invokevirtual 82, 3) := by decide +kernel
theorem dq_Og_put_62 : decode prog_4_method_4_code 62 = .ok (.astore 5, 2) := by decide +kernel
theorem dq_Og_put_64 : decode prog_4_method_4_code 64 = .ok (.aload_n 2, 1) := by decide +kernel
theorem dq_Og_put_65 : decode prog_4_method_4_code 65 = .ok (.aload 5, 2) := by decide +kernel
theorem dq_Og_put_67 : decode prog_4_method_4_code 67 = .ok (.invokestatic 86, 3) := by decide +kernel
theorem dq_Og_put_70 : decode prog_4_method_4_code 70 = .ok (.ifCond .eq 11, 3) := by decide +kernel
theorem dq_Og_put_73 : decode prog_4_method_4_code 73 = .ok (.aload_n 1, 1) := by decide +kernel
theorem dq_Og_put_74 : decode prog_4_method_4_code 74 = .ok (.sipush 412, 3) := by decide +kernel
theorem dq_Og_put_77 : decode prog_4_method_4_code 77 = .ok (.putfield 48, 3) := by decide +kernel
theorem dq_Og_put_80 : decode prog_4_method_4_code 80 = .ok (.return_, 1) := by decide +kernel
theorem dq_Og_put_81 : decode prog_4_method_4_code 81 = .ok (.iload 4, 2) := by decide +kernel
theorem dq_Og_put_83 : decode prog_4_method_4_code 83 = .ok (.iconst (-1), 1) := by decide +kernel
theorem dq_Og_put_84 : decode prog_4_method_4_code 84 = .ok (.if_icmp .ne 23, 3) := by decide +kernel
theorem dq_Og_put_87 : decode prog_4_method_4_code 87 = .ok (.aload_n 0, 1) := by decide +kernel
theorem dq_Og_put_88 : decode prog_4_method_4_code 88 = .ok (.getfield 12, 3) := by decide +kernel
theorem dq_Og_put_91 : decode prog_4_method_4_code 91 = .ok (.invokevirtual 90, 3) := by decide +kernel
theorem dq_Og_put_94 : decode prog_4_method_4_code 94 = .ok (.bipush 6, 2) := by decide +kernel
theorem dq_Og_put_96 : decode prog_4_method_4_code 96 = .ok (.if_icmp .lt 11, 3) := by decide +kernel
theorem dq_Og_put_99 : decode prog_4_method_4_code 99 = .ok (.aload_n 1, 1) := by decide +kernel
theorem dq_Og_put_100 : decode prog_4_method_4_code 100 = .ok (.sipush 507, 3) := by decide +kernel
theorem dq_Og_put_103 : decode prog_4_method_4_code 103 = .ok (.putfield 48, 3) := by decide +kernel
theorem dq_Og_put_106 : decode prog_4_method_4_code 106 = .ok (.return_, 1) := by decide +kernel
theorem dq_Og_put_107 : decode prog_4_method_4_code 107 = .ok (.iload 4, 2) := by decide +kernel
theorem dq_Og_put_109 : decode prog_4_method_4_code 109 = .ok (.iconst (-1), 1) := by decide +kernel
theorem dq_Og_put_110 : decode prog_4_method_4_code 110 = .ok (.if_icmp .ne 17, 3) := by decide +kernel
theorem dq_Og_put_113 : decode prog_4_method_4_code 113 = .ok (.new 55, 3) := by decide +kernel
theorem dq_Og_put_116 : decode prog_4_method_4_code 116 = .ok (.dup, 1) := by decide +kernel
theorem dq_Og_put_117 : decode prog_4_method_4_code 117 = .ok (.aload_n 2, 1) := by decide +kernel
theorem dq_Og_put_118 : decode prog_4_method_4_code 118 = .ok (.getfield 40, 3) := by decide +kernel
theorem dq_Og_put_121 : decode prog_4_method_4_code 121 = .ok (.invokespecial 94, 3) := by decide +kernel
theorem dq_Og_put_124 : decode prog_4_method_4_code 124 = .ok (.goto 15, 3) := by decide +kernel
theorem dq_Og_put_127 : decode prog_4_method_4_code 127 = .ok (.aload_n 0, 1) := by decide +kernel
theorem dq_Og_put_128 : decode prog_4_method_4_code 128 = .ok (.getfield 12, 3) := by decide +kernel
theorem dq_Og_put_131 : decode prog_4_method_4_code 131 = .ok (.iload 4, 2) := by decide +kernel
theorem dq_Og_put_133 : decode prog_4_method_4_code 133 = .ok (.invokevirtual 51, 3) := by decide +kernel
theorem dq_Og_put_136 : decode prog_4_method_4_code 136 = .ok (.checkcast 55, 3) := by decide +kernel
theorem dq_Og_put_139 : decode prog_4_method_4_code 139 = .ok (.astore 6, 2) := by decide +kernel
theorem dq_Og_put_141 : decode prog_4_method_4_code 141 = .ok (.iload 4, 2) := by decide +kernel
theorem dq_Og_put_143 : decode prog_4_method_4_code 143 = .ok (.iconst (-1), 1) := by decide +kernel
theorem dq_Og_put_144 : decode prog_4_method_4_code 144 = .ok (.if_icmp .ne 13, 3) := by decide +kernel
theorem dq_Og_put_147 : decode prog_4_method_4_code 147 = .ok (.aload_n 0, 1) := by decide +kernel
theorem dq_Og_put_148 : decode prog_4_method_4_code 148 = .ok (.getfield 12, 3) := by decide +kernel
theorem dq_Og_put_151 : decode prog_4_method_4_code 151 = .ok (.aload 6, 2) := by decide +kernel
theorem dq_Og_put_153 : decode prog_4_method_4_code 153 = .ok (.invokevirtual 97, 3) := by decide +kernel
theorem dq_Og_put_156 : decode prog_4_method_4_code 156 = .ok (.pop, 1) := by decide +kernel
theorem dq_Og_put_157 : decode prog_4_method_4_code 157 = .ok (.aload 5, 2) := by decide +kernel
theorem dq_Og_put_159 : decode prog_4_method_4_code 159 = .ok (.ifnull 18, 3) := by decide +kernel
theorem dq_Og_put_162 : decode prog_4_method_4_code 162 = .ok (.aload 5, 2) := by decide +kernel
theorem dq_Og_put_164 : decode prog_4_method_4_code 164 = .ok (.getfield 101, 3) := by decide +kernel
theorem dq_Og_put_167 : decode prog_4_method_4_code 167 = .ok (.aload_n 2, 1) := by decide +kernel
theorem dq_Og_put_168 : decode prog_4_method_4_code 168 = .ok (.getfield 104, 3) := by decide +kernel
theorem dq_Og_put_171 : decode prog_4_method_4_code 171 = .ok (.invokevirtual 105, 3) := by decide +kernel
theorem dq_Og_put_174 : decode prog_4_method_4_code 174 = .ok (.ifCond .ne 24, 3) := by decide +kernel
theorem dq_Og_put_177 : decode prog_4_method_4_code 177 = .ok (.aload_n 0, 1) := by decide +kernel
theorem dq_Og_put_178 : decode prog_4_method_4_code 178 = .ok (.dup, 1) := by decide +kernel
theorem dq_Og_put_179 : decode prog_4_method_4_code 179 = .ok (.getfield 110, 3) := by decide +kernel
theorem dq_Og_put_182 : decode prog_4_method_4_code 182 = .ok (.iconst 1, 1) := by decide +kernel
theorem dq_Og_put_183 : decode prog_4_method_4_code 183 = .ok (.iadd, 1) := by decide +kernel
theorem dq_Og_put_184 : decode prog_4_method_4_code 184 = .ok (.putfield 110, 3) := by decide +kernel
theorem dq_Og_put_187 : decode prog_4_method_4_code 187 = .ok (.aload_n 1, 1) := by decide +kernel
theorem dq_Og_put_188 : decode prog_4_method_4_code 188 = .ok (.aload_n 0, 1) := by decide +kernel
theorem dq_Og_put_189 : decode prog_4_method_4_code 189 = .ok (.getfield 110, 3) := by decide +kernel
theorem dq_Og_put_192 : decode prog_4_method_4_code 192 = .ok (.putfield 113, 3) := by decide +kernel
theorem dq_Og_put_195 : decode prog_4_method_4_code 195 = .ok (.goto 12, 3) := by decide +kernel
theorem dq_Og_put_198 : decode prog_4_method_4_code 198 = .ok (.aload_n 1, 1) := by decide +kernel
theorem dq_Og_put_199 : decode prog_4_method_4_code 199 = .ok (.aload 5, 2) := by decide +kernel
theorem dq_Og_put_201 : decode prog_4_method_4_code 201 = .ok (.getfield 68, 3) := by decide +kernel
theorem dq_Og_put_204 : decode prog_4_method_4_code 204 = .ok (.putfield 113, 3) := by decide +kernel
theorem dq_Og_put_207 : decode prog_4_method_4_code 207 = .ok (.aload 6, 2) := by decide +kernel
theorem dq_Og_put_209 : decode prog_4_method_4_code 209 = .ok (.iload_n 3, 1) := by decide +kernel
theorem dq_Og_put_210 : decode prog_4_method_4_code 210 = .ok (.aload_n 2, 1) := by decide +kernel
theorem dq_Og_put_211 : decode prog_4_method_4_code 211 = .ok (.getfield 104, 3) := by decide +kernel
theorem dq_Og_put_214 : decode prog_4_method_4_code 214 = .ok (.aload_n 1, 1) := by decide +kernel
theorem dq_Og_put_215 : decode prog_4_method_4_code 215 = .ok (.getfield 113, 3) := by decide +kernel
theorem dq_Og_put_218 : decode prog_4_method_4_code 218 = .ok (.aload_n 2, 1) := by decide +kernel
theorem dq_Og_put_219 : decode prog_4_method_4_code 219 = .ok (.getfield 116, 3) := by decide +kernel
theorem dq_Og_put_222 : decode prog_4_method_4_code 222 = .ok (.ifnonnull 8, 3) := by decide +kernel
theorem dq_Og_put_225 : decode prog_4_method_4_code 225 = .ok (.ldc 119, 2) := by decide +kernel
theorem dq_Og_put_227 : decode prog_4_method_4_code 227 = .ok (.goto 7, 3) := by decide +kernel
theorem dq_Og_put_230 : decode prog_4_method_4_code 230 = .ok (.aload_n 2, 1) := by decide +kernel
theorem dq_Og_put_231 : decode prog_4_method_4_code 231 = .ok (.getfield 116, 3) := by decide +kernel
theorem dq_Og_put_234 : decode prog_4_method_4_code 234 = .ok (.invokevirtual 121, 3) := by decide +kernel
theorem dq_Og_put_237 : decode prog_4_method_4_code 237 = .ok (.aload_n 1, 1) := by decide +kernel
theorem dq_Og_put_238 : decode prog_4_method_4_code 238 = .ok (.aload 5, 2) := by decide +kernel
theorem dq_Og_put_240 : decode prog_4_method_4_code 240 = .ok (.ifnonnull 9, 3) := by decide +kernel
theorem dq_Og_put_243 : decode prog_4_method_4_code 243 = .ok (.sipush 201, 3) := by decide +kernel
theorem dq_Og_put_246 : decode prog_4_method_4_code 246 = .ok (.goto 6, 3) := by decide +kernel
theorem dq_Og_put_249 : decode prog_4_method_4_code 249 = .ok (.sipush 204, 3) := by decide +kernel
theorem dq_Og_put_252 : decode prog_4_method_4_code 252 = .ok (.putfield 48, 3) := by decide +kernel
theorem dq_Og_put_255 : decode prog_4_method_4_code 255 = .ok (.return_, 1) := by decide +kernel
set_option maxRecDepth 100000 in
def pq_Og_put_252 (E : wo_E) (mc ms : Nat) (Post : wo_W → Prop) (G : wo_W) (c s : Nat) (y0 : Option Nat) (y1 : Int32) : Prop := ∃ a1 : Nat, y0 = some a1 ∧ wo_ty G a1 = 11 ∧ en_bs E ≤ a1 ∧ ∀ G4 : wo_W, G4 = wo_si G 643 a1 y1 → 
  Post G4
set_option maxRecDepth 100000 in
def pq_Og_put_234 (E : wo_E) (mc ms : Nat) (Post : wo_W → Prop) (G : wo_W) (c s : Nat) (x1 : Option Nat) (x5 : Option Nat) (y0 : Option Nat) (y1 : Int32) (y2 : Option Nat) (y3 : Int32) (y4 : Option Nat) : Prop := ∃ a1 : Nat, y0 = some a1 ∧ wo_ty G a1 = 12 ∧ ∃ mc3 ms4 : Nat, (c + mc3) ≤ mc ∧ (s + ms4) ≤ ms ∧ pq_Rs_set E mc3 ms4 (fun G5 => 
  ((x5 = none → pq_Og_put_252 E mc ms Post G5 (c + mc3) (s + ms4) x1 (201 : Int32)) ∧
    (∀ a6 : Nat, x5 = some a6 → pq_Og_put_252 E mc ms Post G5 (c + mc3) (s + ms4) x1 (204 : Int32)))) G a1 y1 y2 y3 y4
set_option maxRecDepth 100000 in
def pq_Og_put_207 (E : wo_E) (mc ms : Nat) (Post : wo_W → Prop) (G : wo_W) (c s : Nat) (x1 : Option Nat) (x2 : Option Nat) (x3 : Int32) (x5 : Option Nat) (x6 : Option Nat) : Prop := ∃ a1 : Nat, x2 = some a1 ∧ wo_ty G a1 = 9 ∧ ∀ r3 : Option Nat, r3 = wo_gr G 514 a1 → ∃ a5 : Nat, x1 = some a5 ∧ wo_ty G a5 = 11 ∧ ∀ r7 : Option Nat, r7 = wo_gr G 522 a1 → ((r7 = none → pq_Og_put_234 E mc ms Post G c s (some a5) x5 x6 x3 r3 (wo_gi G 645 a5) (some (en_str E 12))) ∧
  (∀ a9 : Nat, r7 = some a9 → ∀ r10 : Option Nat, r10 = wo_gr G 522 a1 → pq_Og_put_234 E mc ms Post G c s (some a5) x5 x6 x3 r3 (wo_gi G 645 a5) r10))
set_option maxRecDepth 100000 in
def pq_Og_put_177 (E : wo_E) (mc ms : Nat) (Post : wo_W → Prop) (G : wo_W) (c s : Nat) (x0 : Nat) (x1 : Option Nat) (x2 : Option Nat) (x3 : Int32) (x5 : Option Nat) (x6 : Option Nat) : Prop := wo_ty G x0 = 2 ∧ en_bs E ≤ x0 ∧ ∀ G3 : wo_W, G3 = wo_si G 65 x0 ((wo_gi G 65 x0) + (1 : Int32)) → 
  ∃ a5 : Nat, x1 = some a5 ∧ wo_ty G3 a5 = 11 ∧ en_bs E ≤ a5 ∧ ∀ G8 : wo_W, G8 = wo_si G3 645 a5 (wo_gi G3 65 x0) → 
  pq_Og_put_207 E mc ms Post G8 c s (some a5) x2 x3 x5 x6
set_option maxRecDepth 100000 in
def pq_Og_put_157 (E : wo_E) (mc ms : Nat) (Post : wo_W → Prop) (G : wo_W) (c s : Nat) (x0 : Nat) (x1 : Option Nat) (x2 : Option Nat) (x3 : Int32) (x5 : Option Nat) (x6 : Option Nat) : Prop := ((x5 = none → pq_Og_put_177 E mc ms Post G c s x0 x1 x2 x3 none x6) ∧
  (∀ a1 : Nat, x5 = some a1 → wo_ty G a1 = 13 ∧ ∀ r3 : Option Nat, r3 = wo_gr G 769 a1 → ∃ a5 : Nat, x2 = some a5 ∧ wo_ty G a5 = 9 ∧ ∀ r7 : Option Nat, r7 = wo_gr G 514 a5 → ∃ a9 : Nat, r3 = some a9 ∧ wo_ty G a9 = 10 ∧ ∃ mc11 ms12 : Nat, (c + mc11) ≤ mc ∧ (s + ms12) ≤ ms ∧ pq_St_equals E mc11 ms12 (fun v14 G13 => 
    ((¬ v14 = (0 : Int32) → wo_ty G13 a1 = 13 ∧ ∃ a16 : Nat, x1 = some a16 ∧ wo_ty G13 a16 = 11 ∧ en_bs E ≤ a16 ∧ ∀ G19 : wo_W, G19 = wo_si G13 645 a16 (wo_gi G13 770 a1) → 
        pq_Og_put_207 E mc ms Post G19 (c + mc11) (s + ms12) (some a16) (some a5) x3 (some a1) x6) ∧
      (v14 = (0 : Int32) → pq_Og_put_177 E mc ms Post G13 (c + mc11) (s + ms12) x0 x1 (some a5) x3 (some a1) x6))) G a9 r7))
set_option maxRecDepth 100000 in
def pq_Og_put_139 (E : wo_E) (mc ms : Nat) (Post : wo_W → Prop) (G : wo_W) (c s : Nat) (x0 : Nat) (x1 : Option Nat) (x2 : Option Nat) (x3 : Int32) (x4 : Int32) (x5 : Option Nat) (y0 : Option Nat) : Prop := ((¬ x4 = (-1 : Int32) → pq_Og_put_157 E mc ms Post G c s x0 x1 x2 x3 x5 y0) ∧
  (x4 = (-1 : Int32) → wo_ty G x0 = 2 ∧ ∀ r2 : Option Nat, r2 = wo_gr G 64 x0 → ∃ a4 : Nat, r2 = some a4 ∧ wo_ty G a4 = 3 ∧ ∃ mc6 ms7 : Nat, (c + mc6) ≤ mc ∧ (s + ms7) ≤ ms ∧ pq_Al_add_O E mc6 ms7 (fun v9 G8 => 
    pq_Og_put_157 E mc ms Post G8 (c + mc6) (s + ms7) x0 x1 x2 x3 x5 y0) G a4 y0))
set_option maxRecDepth 100000 in
def pq_Og_put_107 (E : wo_E) (mc ms : Nat) (Post : wo_W → Prop) (G : wo_W) (c s : Nat) (x0 : Nat) (x1 : Option Nat) (x2 : Option Nat) (x3 : Int32) (x4 : Int32) (x5 : Option Nat) : Prop := ((¬ x4 = (-1 : Int32) → wo_ty G x0 = 2 ∧ ∀ r2 : Option Nat, r2 = wo_gr G 64 x0 → ∃ a4 : Nat, r2 = some a4 ∧ wo_ty G a4 = 3 ∧ ∃ mc6 ms7 : Nat, (c + mc6) ≤ mc ∧ (s + ms7) ≤ ms ∧ pq_Al_get E mc6 ms7 (fun v9 G8 => 
    wo_is G8 12 v9 ∧ pq_Og_put_139 E mc ms Post G8 (c + mc6) (s + ms7) x0 x1 x2 x3 x4 x5 v9) G a4 x4) ∧
  (x4 = (-1 : Int32) → (c + 1) ≤ mc ∧ (s + 2) ≤ ms ∧ ∀ q13 : Nat, wo_ty G q13 = 0 → en_bs E ≤ q13 → ∀ G16 : wo_W, G16 = wo_new G q13 12 → 
    ∃ a18 : Nat, x2 = some a18 ∧ wo_ty G16 a18 = 9 ∧ ∀ r20 : Option Nat, r20 = wo_gr G16 513 a18 → ∃ mc22 ms23 : Nat, ((c + 1) + mc22) ≤ mc ∧ ((s + 2) + ms23) ≤ ms ∧ pq_Rs_init E mc22 ms23 (fun G24 => 
    pq_Og_put_139 E mc ms Post G24 ((c + 1) + mc22) ((s + 2) + ms23) x0 x1 (some a18) x3 x4 x5 (some q13)) G16 q13 r20))
set_option maxRecDepth 100000 in
def pq_Og_put_62 (E : wo_E) (mc ms : Nat) (Post : wo_W → Prop) (G : wo_W) (c s : Nat) (x0 : Nat) (x1 : Option Nat) (x2 : Option Nat) (x3 : Int32) (x4 : Int32) (y0 : Option Nat) : Prop := ∃ mc1 ms2 : Nat, (c + mc1) ≤ mc ∧ (s + ms2) ≤ ms ∧ pq_Og_isForbidden E mc1 ms2 (fun v4 G3 => 
  ((v4 = (0 : Int32) → ((¬ x4 = (-1 : Int32) → pq_Og_put_107 E mc ms Post G3 (c + mc1) (s + ms2) x0 x1 x2 x3 x4 y0) ∧
      (x4 = (-1 : Int32) → wo_ty G3 x0 = 2 ∧ ∀ r6 : Option Nat, r6 = wo_gr G3 64 x0 → ∃ a8 : Nat, r6 = some a8 ∧ wo_ty G3 a8 = 3 ∧ ∃ mc10 ms11 : Nat, ((c + mc1) + mc10) ≤ mc ∧ ((s + ms2) + ms11) ≤ ms ∧ pq_Al_size E mc10 ms11 (fun v13 G12 => 
        ((v13 < (6 : Int32) → pq_Og_put_107 E mc ms Post G12 ((c + mc1) + mc10) ((s + ms2) + ms11) x0 x1 x2 x3 x4 y0) ∧
          (¬ v13 < (6 : Int32) → ∃ a14 : Nat, x1 = some a14 ∧ wo_ty G12 a14 = 11 ∧ en_bs E ≤ a14 ∧ ∀ G17 : wo_W, G17 = wo_si G12 643 a14 (507 : Int32) → 
            Post G17))) G3 a8))) ∧
    (¬ v4 = (0 : Int32) → ∃ a19 : Nat, x1 = some a19 ∧ wo_ty G3 a19 = 11 ∧ en_bs E ≤ a19 ∧ ∀ G22 : wo_W, G22 = wo_si G3 643 a19 (412 : Int32) → 
      Post G22))) G x2 y0
set_option maxRecDepth 100000 in
def pq_Og_put_0 (E : wo_E) (mc ms : Nat) (Post : wo_W → Prop) (G : wo_W) (c s : Nat) (x0 : Nat) (x1 : Option Nat) : Prop := ∃ a1 : Nat, x1 = some a1 ∧ wo_ty G a1 = 11 ∧ ∀ r3 : Option Nat, r3 = wo_gr G 640 a1 → ∃ a5 : Nat, r3 = some a5 ∧ wo_ty G a5 = 9 ∧ ∀ r7 : Option Nat, r7 = wo_gr G 521 a5 → ∃ mc9 ms10 : Nat, (c + mc9) ≤ mc ∧ (s + ms10) ≤ ms ∧ pq_Rs_placeOf E mc9 ms10 (fun v12 G11 => 
  ((¬ v12 = (-1 : Int32) → wo_ty G11 a5 = 9 ∧ ∀ r14 : Option Nat, r14 = wo_gr G11 513 a5 → wo_ty G11 x0 = 2 ∧ ∃ mc17 ms18 : Nat, ((c + mc9) + mc17) ≤ mc ∧ ((s + ms10) + ms18) ≤ ms ∧ pq_Og_indexOf E mc17 ms18 (fun v20 G19 => 
      ((¬ v20 = (-1 : Int32) → wo_ty G19 x0 = 2 ∧ ∀ r22 : Option Nat, r22 = wo_gr G19 64 x0 → ∃ a24 : Nat, r22 = some a24 ∧ wo_ty G19 a24 = 3 ∧ ∃ mc26 ms27 : Nat, (((c + mc9) + mc17) + mc26) ≤ mc ∧ (((s + ms10) + ms18) + ms27) ≤ ms ∧ pq_Al_get E mc26 ms27 (fun v29 G28 => 
          wo_is G28 12 v29 ∧ ∃ a31 : Nat, v29 = some a31 ∧ wo_ty G28 a31 = 12 ∧ ∃ mc33 ms34 : Nat, ((((c + mc9) + mc17) + mc26) + mc33) ≤ mc ∧ ((((s + ms10) + ms18) + ms27) + ms34) ≤ ms ∧ pq_Rs_at E mc33 ms34 (fun v36 G35 => 
            pq_Og_put_62 E mc ms Post G35 ((((c + mc9) + mc17) + mc26) + mc33) ((((s + ms10) + ms18) + ms27) + ms34) x0 (some a1) (some a5) v12 v20 v36) G28 a31 v12) G19 a24 v20) ∧
        (v20 = (-1 : Int32) → pq_Og_put_62 E mc ms Post G19 ((c + mc9) + mc17) ((s + ms10) + ms18) x0 (some a1) (some a5) v12 v20 none))) G11 x0 r14) ∧
    (v12 = (-1 : Int32) → wo_ty G11 a1 = 11 ∧ en_bs E ≤ a1 ∧ ∀ G39 : wo_W, G39 = wo_si G11 643 a1 (415 : Int32) → 
      Post G39))) G r7
def pq_Og_put (E : wo_E) (mc ms : Nat) (Post : wo_W → Prop) (G : wo_W) (x0 : Nat) (x1 : Option Nat) : Prop := pq_Og_put_0 E mc ms Post G 0 0 x0 x1
set_option maxRecDepth 100000 in
set_option maxHeartbeats 4000000 in
theorem tq_Og_put_252 {p : Program} {l : Launch} {e : Env} {R : Room} {s₀ : State} {m : MethodId} {args : Array Value} {below : List Frame} {meth : Method} {cd : Code} {E : wo_E} {mc ms : Nat} {Post : wo_W → Prop} (hC : wo_Cx E "EdgeCache$Origin" prog_4_method_4_code 7 7 159 ((Option.none : Option Jvm.ClassFile.FieldType)) "put" mc ms p R s₀ m args meth cd) : ∀ {G : wo_W} {c s : Nat} {y0 : Option Nat} {y1 : Int32}, pq_Og_put_252 E mc ms Post G c s y0 y1 → ∀ {H : Heap} {locs : List Loc} {ls : Array Slot}, wo_Se E G H → va_S (en_A E) s₀.heap H locs → lx_has ls 7 [] → c ≤ mc → s ≤ ms → W p l e R s₀ m args below meth cd H locs c s (MQ below (va_Qv Post (wo_B E) (en_A E)) args s₀ mc ms (en_A E)) (F0 m 252 ls [.int y1, va_rf y0]) := by
  intro G c s y0 y1 hw H locs ls hG hS hl hcc hss
  dsimp only [pq_Og_put_252] at hw
  have hx := hC.1
  have hb := hC.2.1
  obtain ⟨a1, rfl, hw⟩ := hw
  obtain ⟨t2, hw⟩ := hw
  obtain ⟨h3, hw⟩ := hw
  refine wo_putI hC fq_Og_48 (Or.inl rfl) rfl (wo_ok_int _) hG hS t2 h3 dq_Og_put_252 (fun G4 H locs e5 hG hS => ?_)
  replace hw := hw G4 e5
  exact wo_vret hC hG hS hcc hss hw dq_Og_put_255
set_option maxRecDepth 100000 in
set_option maxHeartbeats 4000000 in
theorem tq_Og_put_234 {p : Program} {l : Launch} {e : Env} {R : Room} {s₀ : State} {m : MethodId} {args : Array Value} {below : List Frame} {meth : Method} {cd : Code} {E : wo_E} {mc ms : Nat} {Post : wo_W → Prop} (hC : wo_Cx E "EdgeCache$Origin" prog_4_method_4_code 7 7 159 ((Option.none : Option Jvm.ClassFile.FieldType)) "put" mc ms p R s₀ m args meth cd) : ∀ {G : wo_W} {c s : Nat} {x1 : Option Nat} {x5 : Option Nat} {y0 : Option Nat} {y1 : Int32} {y2 : Option Nat} {y3 : Int32} {y4 : Option Nat}, pq_Og_put_234 E mc ms Post G c s x1 x5 y0 y1 y2 y3 y4 → ∀ {H : Heap} {locs : List Loc} {ls : Array Slot}, wo_Se E G H → va_S (en_A E) s₀.heap H locs → lx_has ls 7 [(1, 1, va_rf x1), (5, 1, va_rf x5)] → c ≤ mc → s ≤ ms → W p l e R s₀ m args below meth cd H locs c s (MQ below (va_Qv Post (wo_B E) (en_A E)) args s₀ mc ms (en_A E)) (F0 m 234 ls [va_rf y4, .int y3, va_rf y2, .int y1, va_rf y0]) := by
  intro G c s x1 x5 y0 y1 y2 y3 y4 hw H locs ls hG hS hl hcc hss
  dsimp only [pq_Og_put_234] at hw
  have hx := hC.1
  have hb := hC.2.1
  obtain ⟨a1, rfl, hw⟩ := hw
  obtain ⟨t2, hw⟩ := hw
  obtain ⟨mc3, ms4, hc1, hs1, hw⟩ := hw
  refine va_callv (wo_runV hC lq_Og_121 (mq_Rs_set hw) hG hS t2 rfl (lx_sz hl) rfl (Nat.zero_le _) (by decide) dq_Og_put_234 ⟨hc1, hs1⟩) hS (fun _ _ h => h) (fun _ h => h) (fun G5 t H locs ht hvm hw' hB _ _ hS => ?_)
  clear hw
  have hw := hw'
  clear hw'
  replace hG := wo_bk ht hB
  replace hcc := hc1
  replace hss := hs1
  refine lx_aloadR_n hx hb dq_Og_put_237 rfl (lx_at hl 0 rfl) ?_
  refine lx_aloadR hx hb dq_Og_put_238 (lx_at hl 1 rfl) ?_
  refine lx_ifnonnull (tgt := 249) hx hb dq_Og_put_240 rfl (fun h => ?_) (fun a6 h => ?_)
  · replace hw := hw.1 h
    subst h
    refine lv_sipush (v := (201 : Int32)) hx hb dq_Og_put_243 rfl ?_
    refine lv_goto (tgt := 252) hx hb dq_Og_put_246 rfl ?_
    exact tq_Og_put_252 hC hw hG hS (lx_sub hl [] rfl) hcc hss
  · replace hw := hw.2 a6 h
    subst h
    refine lv_sipush (v := (204 : Int32)) hx hb dq_Og_put_249 rfl ?_
    exact tq_Og_put_252 hC hw hG hS (lx_sub hl [] rfl) hcc hss
set_option maxRecDepth 100000 in
set_option maxHeartbeats 4000000 in
theorem tq_Og_put_207 {p : Program} {l : Launch} {e : Env} {R : Room} {s₀ : State} {m : MethodId} {args : Array Value} {below : List Frame} {meth : Method} {cd : Code} {E : wo_E} {mc ms : Nat} {Post : wo_W → Prop} (hC : wo_Cx E "EdgeCache$Origin" prog_4_method_4_code 7 7 159 ((Option.none : Option Jvm.ClassFile.FieldType)) "put" mc ms p R s₀ m args meth cd) : ∀ {G : wo_W} {c s : Nat} {x1 : Option Nat} {x2 : Option Nat} {x3 : Int32} {x5 : Option Nat} {x6 : Option Nat}, pq_Og_put_207 E mc ms Post G c s x1 x2 x3 x5 x6 → ∀ {H : Heap} {locs : List Loc} {ls : Array Slot}, wo_Se E G H → va_S (en_A E) s₀.heap H locs → lx_has ls 7 [(1, 1, va_rf x1), (2, 1, va_rf x2), (3, 1, .int x3), (5, 1, va_rf x5), (6, 1, va_rf x6)] → c ≤ mc → s ≤ ms → W p l e R s₀ m args below meth cd H locs c s (MQ below (va_Qv Post (wo_B E) (en_A E)) args s₀ mc ms (en_A E)) (F0 m 207 ls []) := by
  intro G c s x1 x2 x3 x5 x6 hw H locs ls hG hS hl hcc hss
  dsimp only [pq_Og_put_207] at hw
  have hx := hC.1
  have hb := hC.2.1
  refine lx_aloadR hx hb dq_Og_put_207 (lx_at hl 4 rfl) ?_
  refine lv_iload_n hx hb dq_Og_put_209 rfl (lx_at hl 2 rfl) ?_
  refine lx_aloadR_n hx hb dq_Og_put_210 rfl (lx_at hl 1 rfl) ?_
  obtain ⟨a1, rfl, hw⟩ := hw
  obtain ⟨t2, hw⟩ := hw
  refine wo_getR hC fq_Og_104 rfl hG t2 dq_Og_put_211 (fun r3 e4 => ?_)
  replace hw := hw r3 e4
  refine lx_aloadR_n hx hb dq_Og_put_214 rfl (lx_at hl 0 rfl) ?_
  obtain ⟨a5, rfl, hw⟩ := hw
  obtain ⟨t6, hw⟩ := hw
  refine wo_getI hC fq_Og_113 rfl hG t6 dq_Og_put_215 ?_
  refine lv_aload_n hx hb dq_Og_put_218 rfl (lx_at hl 1 rfl) ?_
  refine wo_getR hC fq_Og_116 rfl hG t2 dq_Og_put_219 (fun r7 e8 => ?_)
  replace hw := hw r7 e8
  refine lx_ifnonnull (tgt := 230) hx hb dq_Og_put_222 rfl (fun h => ?_) (fun a9 h => ?_)
  · replace hw := hw.1 h
    subst h
    refine wo_ldcS hC gq_Og_119 dq_Og_put_225 ?_
    refine lv_goto (tgt := 234) hx hb dq_Og_put_227 rfl ?_
    exact tq_Og_put_234 hC hw hG hS (lx_sub hl [0, 3] rfl) hcc hss
  · replace hw := hw.2 a9 h
    subst h
    refine lv_aload_n hx hb dq_Og_put_230 rfl (lx_at hl 1 rfl) ?_
    refine wo_getR hC fq_Og_116 rfl hG t2 dq_Og_put_231 (fun r10 e11 => ?_)
    replace hw := hw r10 e11
    exact tq_Og_put_234 hC hw hG hS (lx_sub hl [0, 3] rfl) hcc hss
set_option maxRecDepth 100000 in
set_option maxHeartbeats 4000000 in
theorem tq_Og_put_177 {p : Program} {l : Launch} {e : Env} {R : Room} {s₀ : State} {m : MethodId} {args : Array Value} {below : List Frame} {meth : Method} {cd : Code} {E : wo_E} {mc ms : Nat} {Post : wo_W → Prop} (hC : wo_Cx E "EdgeCache$Origin" prog_4_method_4_code 7 7 159 ((Option.none : Option Jvm.ClassFile.FieldType)) "put" mc ms p R s₀ m args meth cd) : ∀ {G : wo_W} {c s : Nat} {x0 : Nat} {x1 : Option Nat} {x2 : Option Nat} {x3 : Int32} {x5 : Option Nat} {x6 : Option Nat}, pq_Og_put_177 E mc ms Post G c s x0 x1 x2 x3 x5 x6 → ∀ {H : Heap} {locs : List Loc} {ls : Array Slot}, wo_Se E G H → va_S (en_A E) s₀.heap H locs → lx_has ls 7 [(0, 1, .ref x0), (1, 1, va_rf x1), (2, 1, va_rf x2), (3, 1, .int x3), (5, 1, va_rf x5), (6, 1, va_rf x6)] → c ≤ mc → s ≤ ms → W p l e R s₀ m args below meth cd H locs c s (MQ below (va_Qv Post (wo_B E) (en_A E)) args s₀ mc ms (en_A E)) (F0 m 177 ls []) := by
  intro G c s x0 x1 x2 x3 x5 x6 hw H locs ls hG hS hl hcc hss
  dsimp only [pq_Og_put_177] at hw
  have hx := hC.1
  have hb := hC.2.1
  refine lv_aload_n hx hb dq_Og_put_177 rfl (lx_at hl 0 rfl) ?_
  refine lv_dup hx hb dq_Og_put_178 rfl ?_
  obtain ⟨t1, hw⟩ := hw
  refine wo_getI hC fq_Og_110 rfl hG t1 dq_Og_put_179 ?_
  refine lv_iconst (v := (1 : Int32)) hx hb dq_Og_put_182 rfl ?_
  refine lv_iadd hx hb dq_Og_put_183 ?_
  obtain ⟨h2, hw⟩ := hw
  refine wo_putI hC fq_Og_110 (Or.inl rfl) rfl (wo_ok_int _) hG hS t1 h2 dq_Og_put_184 (fun G3 H locs e4 hG hS => ?_)
  replace hw := hw G3 e4
  refine lx_aloadR_n hx hb dq_Og_put_187 rfl (lx_at hl 1 rfl) ?_
  refine lv_aload_n hx hb dq_Og_put_188 rfl (lx_at hl 0 rfl) ?_
  refine wo_getI hC fq_Og_110 rfl hG (ty_si e4 t1) dq_Og_put_189 ?_
  obtain ⟨a5, rfl, hw⟩ := hw
  obtain ⟨t6, hw⟩ := hw
  obtain ⟨h7, hw⟩ := hw
  refine wo_putI hC fq_Og_113 (Or.inl rfl) rfl (wo_ok_int _) hG hS t6 h7 dq_Og_put_192 (fun G8 H locs e9 hG hS => ?_)
  replace hw := hw G8 e9
  refine lv_goto (tgt := 207) hx hb dq_Og_put_195 rfl ?_
  exact tq_Og_put_207 hC hw hG hS (lx_sub hl [1, 2, 3, 4, 5] rfl) hcc hss
set_option maxRecDepth 100000 in
set_option maxHeartbeats 4000000 in
theorem tq_Og_put_157 {p : Program} {l : Launch} {e : Env} {R : Room} {s₀ : State} {m : MethodId} {args : Array Value} {below : List Frame} {meth : Method} {cd : Code} {E : wo_E} {mc ms : Nat} {Post : wo_W → Prop} (hC : wo_Cx E "EdgeCache$Origin" prog_4_method_4_code 7 7 159 ((Option.none : Option Jvm.ClassFile.FieldType)) "put" mc ms p R s₀ m args meth cd) : ∀ {G : wo_W} {c s : Nat} {x0 : Nat} {x1 : Option Nat} {x2 : Option Nat} {x3 : Int32} {x5 : Option Nat} {x6 : Option Nat}, pq_Og_put_157 E mc ms Post G c s x0 x1 x2 x3 x5 x6 → ∀ {H : Heap} {locs : List Loc} {ls : Array Slot}, wo_Se E G H → va_S (en_A E) s₀.heap H locs → lx_has ls 7 [(0, 1, .ref x0), (1, 1, va_rf x1), (2, 1, va_rf x2), (3, 1, .int x3), (5, 1, va_rf x5), (6, 1, va_rf x6)] → c ≤ mc → s ≤ ms → W p l e R s₀ m args below meth cd H locs c s (MQ below (va_Qv Post (wo_B E) (en_A E)) args s₀ mc ms (en_A E)) (F0 m 157 ls []) := by
  intro G c s x0 x1 x2 x3 x5 x6 hw H locs ls hG hS hl hcc hss
  dsimp only [pq_Og_put_157] at hw
  have hx := hC.1
  have hb := hC.2.1
  refine lx_aloadR hx hb dq_Og_put_157 (lx_at hl 4 rfl) ?_
  refine lx_ifnull (tgt := 177) hx hb dq_Og_put_159 rfl (fun h => ?_) (fun a1 h => ?_)
  · replace hw := hw.1 h
    subst h
    exact tq_Og_put_177 hC hw hG hS (lx_sub hl [0, 1, 2, 3, 4, 5] rfl) hcc hss
  · replace hw := hw.2 a1 h
    subst h
    refine lv_aload hx hb dq_Og_put_162 (lx_at hl 4 rfl) ?_
    obtain ⟨t2, hw⟩ := hw
    refine wo_getR hC fq_Og_101 rfl hG t2 dq_Og_put_164 (fun r3 e4 => ?_)
    replace hw := hw r3 e4
    refine lx_aloadR_n hx hb dq_Og_put_167 rfl (lx_at hl 2 rfl) ?_
    obtain ⟨a5, rfl, hw⟩ := hw
    obtain ⟨t6, hw⟩ := hw
    refine wo_getR hC fq_Og_104 rfl hG t6 dq_Og_put_168 (fun r7 e8 => ?_)
    replace hw := hw r7 e8
    obtain ⟨a9, rfl, hw⟩ := hw
    obtain ⟨t10, hw⟩ := hw
    obtain ⟨mc11, ms12, hc1, hs1, hw⟩ := hw
    refine va_calli (wo_runV hC lq_Og_105 (mq_St_equals hw) hG hS t10 rfl (lx_sz hl) rfl (Nat.zero_le _) (by decide) dq_Og_put_171 ⟨hc1, hs1⟩) hS (fun _ _ h => h) (fun _ h => h) (fun v14 G13 t H locs ht hvm hw' hB _ _ hS => ?_)
    clear hw
    have hw := hw'
    clear hw'
    replace hG := wo_bk ht hB
    replace hcc := hc1
    replace hss := hs1
    refine lv_if_ne (tgt := 198) hx hb dq_Og_put_174 rfl (fun h => ?_) (fun h => ?_)
    · replace hw := hw.1 h
      refine lx_aloadR_n hx hb dq_Og_put_198 rfl (lx_at hl 1 rfl) ?_
      refine lv_aload hx hb dq_Og_put_199 (lx_at hl 4 rfl) ?_
      obtain ⟨t15, hw⟩ := hw
      refine wo_getI hC fq_Og_68 rfl hG t15 dq_Og_put_201 ?_
      obtain ⟨a16, rfl, hw⟩ := hw
      obtain ⟨t17, hw⟩ := hw
      obtain ⟨h18, hw⟩ := hw
      refine wo_putI hC fq_Og_113 (Or.inl rfl) rfl (wo_ok_int _) hG hS t17 h18 dq_Og_put_204 (fun G19 H locs e20 hG hS => ?_)
      replace hw := hw G19 e20
      exact tq_Og_put_207 hC hw hG hS (lx_sub hl [1, 2, 3, 4, 5] rfl) hcc hss
    · replace hw := hw.2 h
      exact tq_Og_put_177 hC hw hG hS (lx_sub hl [0, 1, 2, 3, 4, 5] rfl) hcc hss
set_option maxRecDepth 100000 in
set_option maxHeartbeats 4000000 in
theorem tq_Og_put_139 {p : Program} {l : Launch} {e : Env} {R : Room} {s₀ : State} {m : MethodId} {args : Array Value} {below : List Frame} {meth : Method} {cd : Code} {E : wo_E} {mc ms : Nat} {Post : wo_W → Prop} (hC : wo_Cx E "EdgeCache$Origin" prog_4_method_4_code 7 7 159 ((Option.none : Option Jvm.ClassFile.FieldType)) "put" mc ms p R s₀ m args meth cd) : ∀ {G : wo_W} {c s : Nat} {x0 : Nat} {x1 : Option Nat} {x2 : Option Nat} {x3 : Int32} {x4 : Int32} {x5 : Option Nat} {y0 : Option Nat}, pq_Og_put_139 E mc ms Post G c s x0 x1 x2 x3 x4 x5 y0 → ∀ {H : Heap} {locs : List Loc} {ls : Array Slot}, wo_Se E G H → va_S (en_A E) s₀.heap H locs → lx_has ls 7 [(0, 1, .ref x0), (1, 1, va_rf x1), (2, 1, va_rf x2), (3, 1, .int x3), (4, 1, .int x4), (5, 1, va_rf x5)] → c ≤ mc → s ≤ ms → W p l e R s₀ m args below meth cd H locs c s (MQ below (va_Qv Post (wo_B E) (en_A E)) args s₀ mc ms (en_A E)) (F0 m 139 ls [va_rf y0]) := by
  intro G c s x0 x1 x2 x3 x4 x5 y0 hw H locs ls hG hS hl hcc hss
  dsimp only [pq_Og_put_139] at hw
  have hx := hC.1
  have hb := hC.2.1
  refine lx_astoreR (lv' := [(6, 1, va_rf y0), (0, 1, .ref x0), (1, 1, va_rf x1), (2, 1, va_rf x2), (3, 1, .int x3), (4, 1, .int x4), (5, 1, va_rf x5)]) hx hb dq_Og_put_139 hl (by decide) rfl (fun ls hl' => ?_)
  clear hl
  have hl := hl'
  clear hl'
  refine lv_iload hx hb dq_Og_put_141 (lx_at hl 5 rfl) ?_
  refine lv_iconst (v := (-1 : Int32)) hx hb dq_Og_put_143 rfl ?_
  refine lv_icmp_ne (tgt := 157) hx hb dq_Og_put_144 rfl (fun h => ?_) (fun h => ?_)
  · replace hw := hw.1 h
    exact tq_Og_put_157 hC hw hG hS (lx_sub hl [1, 2, 3, 4, 6, 0] rfl) hcc hss
  · replace hw := hw.2 h
    refine lv_aload_n hx hb dq_Og_put_147 rfl (lx_at hl 1 rfl) ?_
    obtain ⟨t1, hw⟩ := hw
    refine wo_getR hC fq_Og_12 rfl hG t1 dq_Og_put_148 (fun r2 e3 => ?_)
    replace hw := hw r2 e3
    refine lx_aloadR hx hb dq_Og_put_151 (lx_at hl 0 rfl) ?_
    obtain ⟨a4, rfl, hw⟩ := hw
    obtain ⟨t5, hw⟩ := hw
    obtain ⟨mc6, ms7, hc1, hs1, hw⟩ := hw
    refine va_calli (wo_runV hC lq_Og_97 (mq_Al_add_O hw) hG hS t5 rfl (lx_sz hl) rfl (Nat.zero_le _) (by decide) dq_Og_put_153 ⟨hc1, hs1⟩) hS (fun _ _ h => h) (fun _ h => h) (fun v9 G8 t H locs ht hvm hw' hB _ _ hS => ?_)
    clear hw
    have hw := hw'
    clear hw'
    replace hG := wo_bk ht hB
    replace hcc := hc1
    replace hss := hs1
    refine lv_pop hx hb dq_Og_put_156 rfl ?_
    exact tq_Og_put_157 hC hw hG hS (lx_sub hl [1, 2, 3, 4, 6, 0] rfl) hcc hss
set_option maxRecDepth 100000 in
set_option maxHeartbeats 4000000 in
theorem tq_Og_put_107 {p : Program} {l : Launch} {e : Env} {R : Room} {s₀ : State} {m : MethodId} {args : Array Value} {below : List Frame} {meth : Method} {cd : Code} {E : wo_E} {mc ms : Nat} {Post : wo_W → Prop} (hC : wo_Cx E "EdgeCache$Origin" prog_4_method_4_code 7 7 159 ((Option.none : Option Jvm.ClassFile.FieldType)) "put" mc ms p R s₀ m args meth cd) : ∀ {G : wo_W} {c s : Nat} {x0 : Nat} {x1 : Option Nat} {x2 : Option Nat} {x3 : Int32} {x4 : Int32} {x5 : Option Nat}, pq_Og_put_107 E mc ms Post G c s x0 x1 x2 x3 x4 x5 → ∀ {H : Heap} {locs : List Loc} {ls : Array Slot}, wo_Se E G H → va_S (en_A E) s₀.heap H locs → lx_has ls 7 [(0, 1, .ref x0), (1, 1, va_rf x1), (2, 1, va_rf x2), (3, 1, .int x3), (4, 1, .int x4), (5, 1, va_rf x5)] → c ≤ mc → s ≤ ms → W p l e R s₀ m args below meth cd H locs c s (MQ below (va_Qv Post (wo_B E) (en_A E)) args s₀ mc ms (en_A E)) (F0 m 107 ls []) := by
  intro G c s x0 x1 x2 x3 x4 x5 hw H locs ls hG hS hl hcc hss
  dsimp only [pq_Og_put_107] at hw
  have hx := hC.1
  have hb := hC.2.1
  refine lv_iload hx hb dq_Og_put_107 (lx_at hl 4 rfl) ?_
  refine lv_iconst (v := (-1 : Int32)) hx hb dq_Og_put_109 rfl ?_
  refine lv_icmp_ne (tgt := 127) hx hb dq_Og_put_110 rfl (fun h => ?_) (fun h => ?_)
  · replace hw := hw.1 h
    refine lv_aload_n hx hb dq_Og_put_127 rfl (lx_at hl 0 rfl) ?_
    obtain ⟨t1, hw⟩ := hw
    refine wo_getR hC fq_Og_12 rfl hG t1 dq_Og_put_128 (fun r2 e3 => ?_)
    replace hw := hw r2 e3
    refine lv_iload hx hb dq_Og_put_131 (lx_at hl 4 rfl) ?_
    obtain ⟨a4, rfl, hw⟩ := hw
    obtain ⟨t5, hw⟩ := hw
    obtain ⟨mc6, ms7, hc1, hs1, hw⟩ := hw
    refine va_callq (wo_runV hC lq_Og_51 (mq_Al_get hw) hG hS t5 rfl (lx_sz hl) rfl (Nat.zero_le _) (by decide) dq_Og_put_133 ⟨hc1, hs1⟩) hS (fun _ _ h => h) (fun _ h => h) (fun v9 G8 t H locs ht hvm hw' hB _ _ hS => ?_)
    clear hw
    have hw := hw'
    clear hw'
    replace hG := wo_bk ht hB
    replace hcc := hc1
    replace hss := hs1
    obtain ⟨h10, hw⟩ := hw
    refine wo_chk (x := v9) (c := 11) hC rfl kq_Og_55 (Or.inl rfl) hG h10 dq_Og_put_136 ?_
    exact tq_Og_put_139 hC hw hG hS (lx_sub hl [0, 1, 2, 3, 4, 5] rfl) hcc hss
  · replace hw := hw.2 h
    obtain ⟨h11, hw⟩ := hw
    obtain ⟨h12, hw⟩ := hw
    refine wo_newc hC nq_Og_55 hG hS h11 h12 dq_Og_put_113 (fun q13 G16 H z14 b15 e17 hG hS => ?_)
    replace hw := hw q13 z14 b15 G16 e17
    replace hcc := h11
    replace hss := h12
    refine lv_dup hx hb dq_Og_put_116 rfl ?_
    refine lx_aloadR_n hx hb dq_Og_put_117 rfl (lx_at hl 2 rfl) ?_
    obtain ⟨a18, rfl, hw⟩ := hw
    obtain ⟨t19, hw⟩ := hw
    refine wo_getR hC fq_Og_40 rfl hG t19 dq_Og_put_118 (fun r20 e21 => ?_)
    replace hw := hw r20 e21
    obtain ⟨mc22, ms23, hc1, hs1, hw⟩ := hw
    refine va_callv (wo_runI hC lq_Og_94 (mq_Rs_init hw) hG hS rfl (lx_sz hl) rfl (lx_rm (Nat.le_of_ble_eq_true rfl)) (by decide) dq_Og_put_121 ⟨hc1, hs1⟩) hS (fun _ _ h => h) (fun _ h => h) (fun G24 t H locs ht hvm hw' hB _ _ hS => ?_)
    clear hw
    have hw := hw'
    clear hw'
    replace hG := wo_bk ht hB
    replace hcc := hc1
    replace hss := hs1
    refine lv_goto (tgt := 139) hx hb dq_Og_put_124 rfl ?_
    exact tq_Og_put_139 hC hw hG hS (lx_sub hl [0, 1, 2, 3, 4, 5] rfl) hcc hss
set_option maxRecDepth 100000 in
set_option maxHeartbeats 4000000 in
theorem tq_Og_put_62 {p : Program} {l : Launch} {e : Env} {R : Room} {s₀ : State} {m : MethodId} {args : Array Value} {below : List Frame} {meth : Method} {cd : Code} {E : wo_E} {mc ms : Nat} {Post : wo_W → Prop} (hC : wo_Cx E "EdgeCache$Origin" prog_4_method_4_code 7 7 159 ((Option.none : Option Jvm.ClassFile.FieldType)) "put" mc ms p R s₀ m args meth cd) : ∀ {G : wo_W} {c s : Nat} {x0 : Nat} {x1 : Option Nat} {x2 : Option Nat} {x3 : Int32} {x4 : Int32} {y0 : Option Nat}, pq_Og_put_62 E mc ms Post G c s x0 x1 x2 x3 x4 y0 → ∀ {H : Heap} {locs : List Loc} {ls : Array Slot}, wo_Se E G H → va_S (en_A E) s₀.heap H locs → lx_has ls 7 [(0, 1, .ref x0), (1, 1, va_rf x1), (2, 1, va_rf x2), (3, 1, .int x3), (4, 1, .int x4)] → c ≤ mc → s ≤ ms → W p l e R s₀ m args below meth cd H locs c s (MQ below (va_Qv Post (wo_B E) (en_A E)) args s₀ mc ms (en_A E)) (F0 m 62 ls [va_rf y0]) := by
  intro G c s x0 x1 x2 x3 x4 y0 hw H locs ls hG hS hl hcc hss
  dsimp only [pq_Og_put_62] at hw
  have hx := hC.1
  have hb := hC.2.1
  refine lx_astoreR (lv' := [(5, 1, va_rf y0), (0, 1, .ref x0), (1, 1, va_rf x1), (2, 1, va_rf x2), (3, 1, .int x3), (4, 1, .int x4)]) hx hb dq_Og_put_62 hl (by decide) rfl (fun ls hl' => ?_)
  clear hl
  have hl := hl'
  clear hl'
  refine lx_aloadR_n hx hb dq_Og_put_64 rfl (lx_at hl 3 rfl) ?_
  refine lx_aloadR hx hb dq_Og_put_65 (lx_at hl 0 rfl) ?_
  obtain ⟨mc1, ms2, hc1, hs1, hw⟩ := hw
  refine va_calli (wo_runS hC lq_Og_86 (mq_Og_isForbidden hw) hG hS rfl (lx_sz hl) rfl (Nat.zero_le _) (by decide) dq_Og_put_67 ⟨hc1, hs1⟩) hS (fun _ _ h => h) (fun _ h => h) (fun v4 G3 t H locs ht hvm hw' hB _ _ hS => ?_)
  clear hw
  have hw := hw'
  clear hw'
  replace hG := wo_bk ht hB
  replace hcc := hc1
  replace hss := hs1
  refine lv_if_eq (tgt := 81) hx hb dq_Og_put_70 rfl (fun h => ?_) (fun h => ?_)
  · replace hw := hw.1 h
    refine lv_iload hx hb dq_Og_put_81 (lx_at hl 5 rfl) ?_
    refine lv_iconst (v := (-1 : Int32)) hx hb dq_Og_put_83 rfl ?_
    refine lv_icmp_ne (tgt := 107) hx hb dq_Og_put_84 rfl (fun h => ?_) (fun h => ?_)
    · replace hw := hw.1 h
      exact tq_Og_put_107 hC hw hG hS (lx_sub hl [1, 2, 3, 4, 5, 0] rfl) hcc hss
    · replace hw := hw.2 h
      refine lv_aload_n hx hb dq_Og_put_87 rfl (lx_at hl 1 rfl) ?_
      obtain ⟨t5, hw⟩ := hw
      refine wo_getR hC fq_Og_12 rfl hG t5 dq_Og_put_88 (fun r6 e7 => ?_)
      replace hw := hw r6 e7
      obtain ⟨a8, rfl, hw⟩ := hw
      obtain ⟨t9, hw⟩ := hw
      obtain ⟨mc10, ms11, hc1, hs1, hw⟩ := hw
      refine va_calli (wo_runV hC lq_Og_90 (mq_Al_size hw) hG hS t9 rfl (lx_sz hl) rfl (Nat.zero_le _) (by decide) dq_Og_put_91 ⟨hc1, hs1⟩) hS (fun _ _ h => h) (fun _ h => h) (fun v13 G12 t H locs ht hvm hw' hB _ _ hS => ?_)
      clear hw
      have hw := hw'
      clear hw'
      replace hG := wo_bk ht hB
      replace hcc := hc1
      replace hss := hs1
      refine lv_bipush (v := (6 : Int32)) hx hb dq_Og_put_94 rfl ?_
      refine lv_icmp_lt (tgt := 107) hx hb dq_Og_put_96 rfl (fun h => ?_) (fun h => ?_)
      · replace hw := hw.1 h
        exact tq_Og_put_107 hC hw hG hS (lx_sub hl [1, 2, 3, 4, 5, 0] rfl) hcc hss
      · replace hw := hw.2 h
        refine lx_aloadR_n hx hb dq_Og_put_99 rfl (lx_at hl 2 rfl) ?_
        refine lv_sipush (v := (507 : Int32)) hx hb dq_Og_put_100 rfl ?_
        obtain ⟨a14, rfl, hw⟩ := hw
        obtain ⟨t15, hw⟩ := hw
        obtain ⟨h16, hw⟩ := hw
        refine wo_putI hC fq_Og_48 (Or.inl rfl) rfl (wo_ok_int _) hG hS t15 h16 dq_Og_put_103 (fun G17 H locs e18 hG hS => ?_)
        replace hw := hw G17 e18
        exact wo_vret hC hG hS hcc hss hw dq_Og_put_106
  · replace hw := hw.2 h
    refine lx_aloadR_n hx hb dq_Og_put_73 rfl (lx_at hl 2 rfl) ?_
    refine lv_sipush (v := (412 : Int32)) hx hb dq_Og_put_74 rfl ?_
    obtain ⟨a19, rfl, hw⟩ := hw
    obtain ⟨t20, hw⟩ := hw
    obtain ⟨h21, hw⟩ := hw
    refine wo_putI hC fq_Og_48 (Or.inl rfl) rfl (wo_ok_int _) hG hS t20 h21 dq_Og_put_77 (fun G22 H locs e23 hG hS => ?_)
    replace hw := hw G22 e23
    exact wo_vret hC hG hS hcc hss hw dq_Og_put_80
set_option maxRecDepth 100000 in
set_option maxHeartbeats 4000000 in
theorem tq_Og_put_0 {p : Program} {l : Launch} {e : Env} {R : Room} {s₀ : State} {m : MethodId} {args : Array Value} {below : List Frame} {meth : Method} {cd : Code} {E : wo_E} {mc ms : Nat} {Post : wo_W → Prop} (hC : wo_Cx E "EdgeCache$Origin" prog_4_method_4_code 7 7 159 ((Option.none : Option Jvm.ClassFile.FieldType)) "put" mc ms p R s₀ m args meth cd) : ∀ {G : wo_W} {c s : Nat} {x0 : Nat} {x1 : Option Nat}, pq_Og_put_0 E mc ms Post G c s x0 x1 → ∀ {H : Heap} {locs : List Loc} {ls : Array Slot}, wo_Se E G H → va_S (en_A E) s₀.heap H locs → lx_has ls 7 [(0, 1, .ref x0), (1, 1, va_rf x1)] → c ≤ mc → s ≤ ms → W p l e R s₀ m args below meth cd H locs c s (MQ below (va_Qv Post (wo_B E) (en_A E)) args s₀ mc ms (en_A E)) (F0 m 0 ls []) := by
  intro G c s x0 x1 hw H locs ls hG hS hl hcc hss
  dsimp only [pq_Og_put_0] at hw
  have hx := hC.1
  have hb := hC.2.1
  refine lx_aloadR_n hx hb dq_Og_put_0 rfl (lx_at hl 1 rfl) ?_
  obtain ⟨a1, rfl, hw⟩ := hw
  obtain ⟨t2, hw⟩ := hw
  refine wo_getR hC fq_Og_18 rfl hG t2 dq_Og_put_1 (fun r3 e4 => ?_)
  replace hw := hw r3 e4
  refine lx_astoreR_n (lv' := [(2, 1, va_rf r3), (0, 1, .ref x0), (1, 1, .ref a1)]) hx hb dq_Og_put_4 rfl hl (by decide) rfl (fun ls hl' => ?_)
  clear hl
  have hl := hl'
  clear hl'
  refine lx_aloadR_n hx hb dq_Og_put_5 rfl (lx_at hl 0 rfl) ?_
  obtain ⟨a5, rfl, hw⟩ := hw
  obtain ⟨t6, hw⟩ := hw
  refine wo_getR hC fq_Og_76 rfl hG t6 dq_Og_put_6 (fun r7 e8 => ?_)
  replace hw := hw r7 e8
  obtain ⟨mc9, ms10, hc1, hs1, hw⟩ := hw
  refine va_calli (wo_runS hC lq_Og_79 (mq_Rs_placeOf hw) hG hS rfl (lx_sz hl) rfl (Nat.zero_le _) (by decide) dq_Og_put_9 ⟨hc1, hs1⟩) hS (fun _ _ h => h) (fun _ h => h) (fun v12 G11 t H locs ht hvm hw' hB _ _ hS => ?_)
  clear hw
  have hw := hw'
  clear hw'
  replace hG := wo_bk ht hB
  replace hcc := hc1
  replace hss := hs1
  refine lx_istore_n (lv' := [(3, 1, .int v12), (2, 1, .ref a5), (0, 1, .ref x0), (1, 1, .ref a1)]) hx hb dq_Og_put_12 rfl hl (by decide) rfl (fun ls hl' => ?_)
  clear hl
  have hl := hl'
  clear hl'
  refine lv_iload_n hx hb dq_Og_put_13 rfl (lx_at hl 0 rfl) ?_
  refine lv_iconst (v := (-1 : Int32)) hx hb dq_Og_put_14 rfl ?_
  refine lv_icmp_ne (tgt := 26) hx hb dq_Og_put_15 rfl (fun h => ?_) (fun h => ?_)
  · replace hw := hw.1 h
    refine lv_aload_n hx hb dq_Og_put_26 rfl (lx_at hl 2 rfl) ?_
    refine lv_aload_n hx hb dq_Og_put_27 rfl (lx_at hl 1 rfl) ?_
    obtain ⟨t13, hw⟩ := hw
    refine wo_getR hC fq_Og_40 rfl hG t13 dq_Og_put_28 (fun r14 e15 => ?_)
    replace hw := hw r14 e15
    obtain ⟨t16, hw⟩ := hw
    obtain ⟨mc17, ms18, hc1, hs1, hw⟩ := hw
    refine va_calli (wo_runV hC lq_Og_44 (mq_Og_indexOf hw) hG hS t16 rfl (lx_sz hl) rfl (Nat.zero_le _) (by decide) dq_Og_put_31 ⟨hc1, hs1⟩) hS (fun _ _ h => h) (fun _ h => h) (fun v20 G19 t H locs ht hvm hw' hB _ _ hS => ?_)
    clear hw
    have hw := hw'
    clear hw'
    replace hG := wo_bk ht hB
    replace hcc := hc1
    replace hss := hs1
    refine lx_istore (lv' := [(4, 1, .int v20), (3, 1, .int v12), (2, 1, .ref a5), (0, 1, .ref x0), (1, 1, .ref a1)]) hx hb dq_Og_put_34 hl (by decide) rfl (fun ls hl' => ?_)
    clear hl
    have hl := hl'
    clear hl'
    refine lv_iload hx hb dq_Og_put_36 (lx_at hl 0 rfl) ?_
    refine lv_iconst (v := (-1 : Int32)) hx hb dq_Og_put_38 rfl ?_
    refine lv_icmp_ne (tgt := 46) hx hb dq_Og_put_39 rfl (fun h => ?_) (fun h => ?_)
    · replace hw := hw.1 h
      refine lv_aload_n hx hb dq_Og_put_46 rfl (lx_at hl 3 rfl) ?_
      obtain ⟨t21, hw⟩ := hw
      refine wo_getR hC fq_Og_12 rfl hG t21 dq_Og_put_47 (fun r22 e23 => ?_)
      replace hw := hw r22 e23
      refine lv_iload hx hb dq_Og_put_50 (lx_at hl 0 rfl) ?_
      obtain ⟨a24, rfl, hw⟩ := hw
      obtain ⟨t25, hw⟩ := hw
      obtain ⟨mc26, ms27, hc1, hs1, hw⟩ := hw
      refine va_callq (wo_runV hC lq_Og_51 (mq_Al_get hw) hG hS t25 rfl (lx_sz hl) rfl (Nat.zero_le _) (by decide) dq_Og_put_52 ⟨hc1, hs1⟩) hS (fun _ _ h => h) (fun _ h => h) (fun v29 G28 t H locs ht hvm hw' hB _ _ hS => ?_)
      clear hw
      have hw := hw'
      clear hw'
      replace hG := wo_bk ht hB
      replace hcc := hc1
      replace hss := hs1
      obtain ⟨h30, hw⟩ := hw
      refine wo_chk (x := v29) (c := 11) hC rfl kq_Og_55 (Or.inl rfl) hG h30 dq_Og_put_55 ?_
      refine lv_iload_n hx hb dq_Og_put_58 rfl (lx_at hl 1 rfl) ?_
      obtain ⟨a31, rfl, hw⟩ := hw
      obtain ⟨t32, hw⟩ := hw
      obtain ⟨mc33, ms34, hc1, hs1, hw⟩ := hw
      refine va_callq (wo_runV hC lq_Og_82 (mq_Rs_at hw) hG hS t32 rfl (lx_sz hl) rfl (Nat.zero_le _) (by decide) dq_Og_put_59 ⟨hc1, hs1⟩) hS (fun _ _ h => h) (fun _ h => h) (fun v36 G35 t H locs ht hvm hw' hB _ _ hS => ?_)
      clear hw
      have hw := hw'
      clear hw'
      replace hG := wo_bk ht hB
      replace hcc := hc1
      replace hss := hs1
      exact tq_Og_put_62 hC hw hG hS (lx_sub hl [3, 4, 2, 1, 0] rfl) hcc hss
    · replace hw := hw.2 h
      refine lv_null hx hb dq_Og_put_42 ?_
      refine lv_goto (tgt := 62) hx hb dq_Og_put_43 rfl ?_
      exact tq_Og_put_62 hC hw hG hS (lx_sub hl [3, 4, 2, 1, 0] rfl) hcc hss
  · replace hw := hw.2 h
    refine lv_aload_n hx hb dq_Og_put_18 rfl (lx_at hl 3 rfl) ?_
    refine lv_sipush (v := (415 : Int32)) hx hb dq_Og_put_19 rfl ?_
    obtain ⟨t37, hw⟩ := hw
    obtain ⟨h38, hw⟩ := hw
    refine wo_putI hC fq_Og_48 (Or.inl rfl) rfl (wo_ok_int _) hG hS t37 h38 dq_Og_put_22 (fun G39 H locs e40 hG hS => ?_)
    replace hw := hw G39 e40
    exact wo_vret hC hG hS hcc hss hw dq_Og_put_25
set_option maxHeartbeats 4000000 in
theorem mq_Og_put {l : Launch} {E : wo_E} {mc ms : Nat} {Post : wo_W → Prop} {G : wo_W} {x0 : Nat} {x1 : Option Nat} (hw : pq_Og_put E mc ms Post G x0 x1) : Met l yq_Og_put (Cond.code yq_Og_put prog_4_method_4_code 7 ((Option.none : Option Jvm.ClassFile.FieldType)) :: vw_WG) { frames := 7, cells := mc, slots := ms, locals := 159 } (va_Pc [.ref x0, va_rf x1] (wo_Ok E G)) (va_Qv Post (wo_B E) (en_A E)) mc ms (en_A E) := by
  unfold pq_Og_put at hw
  exact wo_met [(1, .ref x0), (1, va_rf x1)] rfl (by decide) (fun q hq => by simp only [List.mem_cons, List.not_mem_nil, or_false] at hq; rcases hq with rfl | rfl <;> first | rfl | exact lx_cR _) (Nat.le_of_ble_eq_true rfl) (fun p e R s m args below meth cd ls hC hG hS hl => tq_Og_put_0 hC hw hG hS (lx_sub hl [0, 1] rfl) (Nat.zero_le _) (Nat.zero_le _))

theorem dq_Rs_choose_0 : decode prog_8_method_5_code 0 = .ok (.aload_n 1, 1) := by decide +kernel
theorem dq_Rs_choose_1 : decode prog_8_method_5_code 1 = .ok (.ifnull 11, 3) := by decide +kernel
theorem dq_Rs_choose_4 : decode prog_8_method_5_code 4 = .ok (.aload_n 0, 1) := by decide +kernel
theorem dq_Rs_choose_5 : decode prog_8_method_5_code 5 = .ok (.invokevirtual 31, 3) := by decide +kernel
theorem dq_Rs_choose_8 : decode prog_8_method_5_code 8 = .ok (.iconst 1, 1) := by decide +kernel
theorem dq_Rs_choose_9 : decode prog_8_method_5_code 9 = .ok (.if_icmp .ne 8, 3) := by decide +kernel
theorem dq_Rs_choose_12 : decode prog_8_method_5_code 12 = .ok (.aload_n 0, 1) := by decide +kernel
theorem dq_Rs_choose_13 : decode prog_8_method_5_code 13 = .ok (.invokevirtual 34, 3) := by decide +kernel
theorem dq_Rs_choose_16 : decode prog_8_method_5_code 16 = .ok (.areturn, 1) := by decide +kernel
theorem dq_Rs_choose_17 : decode prog_8_method_5_code 17 = .ok (.aconst_null, 1) := by decide +kernel
theorem dq_Rs_choose_18 : decode prog_8_method_5_code 18 = .ok (.astore_n 2, 1) := by decide +kernel
theorem dq_Rs_choose_19 : decode prog_8_method_5_code 19 = .ok (.iconst 0, 1) := by decide +kernel
theorem dq_Rs_choose_20 : decode prog_8_method_5_code 20 = .ok (.istore_n 3, 1) := by decide +kernel
theorem dq_Rs_choose_21 : decode prog_8_method_5_code 21 = .ok (.iconst 0, 1) := by decide +kernel
theorem dq_Rs_choose_22 : decode prog_8_method_5_code 22 = .ok (.istore 4, 2) := by decide +kernel
theorem dq_Rs_choose_24 : decode prog_8_method_5_code 24 = .ok (.iload 4, 2) := by decide +kernel
theorem dq_Rs_choose_26 : decode prog_8_method_5_code 26 = .ok (.iconst 3, 1) := by decide +kernel
theorem dq_Rs_choose_27 : decode prog_8_method_5_code 27 = .ok (.if_icmp .ge 76, 3) := by decide +kernel
theorem dq_Rs_choose_30 : decode prog_8_method_5_code 30 = .ok (.aload_n 0, 1) := by decide +kernel
theorem dq_Rs_choose_31 : decode prog_8_method_5_code 31 = .ok (.getfield 13, 3) := by decide +kernel
theorem dq_Rs_choose_34 : decode prog_8_method_5_code 34 = .ok (.iload 4, 2) := by decide +kernel
theorem dq_Rs_choose_36 : decode prog_8_method_5_code 36 = .ok (.aaload, 1) := by decide +kernel
theorem dq_Rs_choose_37 : decode prog_8_method_5_code 37 = .ok (.ifnonnull 8, 3) := by decide +kernel
theorem dq_Rs_choose_40 : decode prog_8_method_5_code 40 = .ok (.bipush (-2), 2) := by decide +kernel
theorem dq_Rs_choose_42 : decode prog_8_method_5_code 42 = .ok (.goto 17, 3) := by decide +kernel
theorem dq_Rs_choose_45 : decode prog_8_method_5_code 45 = .ok (.aload_n 1, 1) := by decide +kernel
theorem dq_Rs_choose_46 : decode prog_8_method_5_code 46 = .ok (.aload_n 0, 1) := by decide +kernel
theorem dq_Rs_choose_47 : decode prog_8_method_5_code 47 = .ok (.getfield 13, 3) := by decide +kernel
theorem dq_Rs_choose_50 : decode prog_8_method_5_code 50 = .ok (.iload 4, 2) := by decide +kernel
theorem dq_Rs_choose_52 : decode prog_8_method_5_code 52 = .ok (.aaload, 1) := by decide +kernel
theorem dq_Rs_choose_53 : decode prog_8_method_5_code 53 = .ok (.getfield 40, 3) := by decide +kernel
theorem dq_Rs_choose_56 : decode prog_8_method_5_code 56 = .ok (.invokestatic 44, 3) := by decide +kernel
theorem dq_Rs_choose_59 : decode prog_8_method_5_code 59 = .ok (.istore 5, 2) := by decide +kernel
theorem dq_Rs_choose_61 : decode prog_8_method_5_code 61 = .ok (.iload 5, 2) := by decide +kernel
theorem dq_Rs_choose_63 : decode prog_8_method_5_code 63 = .ok (.iconst (-1), 1) := by decide +kernel
theorem dq_Rs_choose_64 : decode prog_8_method_5_code 64 = .ok (.if_icmp .ne 8, 3) := by decide +kernel
theorem dq_Rs_choose_67 : decode prog_8_method_5_code 67 = .ok (.bipush 9, 2) := by decide +kernel
theorem dq_Rs_choose_69 : decode prog_8_method_5_code 69 = .ok (.goto 9, 3) := by decide +kernel
theorem dq_Rs_choose_72 : decode prog_8_method_5_code 72 = .ok (.iload 5, 2) := by decide +kernel
theorem dq_Rs_choose_74 : decode prog_8_method_5_code 74 = .ok (.iconst 0, 1) := by decide +kernel
theorem dq_Rs_choose_75 : decode prog_8_method_5_code 75 = .ok (.invokestatic 48, 3) := by decide +kernel
theorem dq_Rs_choose_78 : decode prog_8_method_5_code 78 = .ok (.istore 6, 2) := by decide +kernel
theorem dq_Rs_choose_80 : decode prog_8_method_5_code 80 = .ok (.iload 6, 2) := by decide +kernel
theorem dq_Rs_choose_82 : decode prog_8_method_5_code 82 = .ok (.iload_n 3, 1) := by decide +kernel
theorem dq_Rs_choose_83 : decode prog_8_method_5_code 83 = .ok (.if_icmp .le 14, 3) := by decide +kernel
theorem dq_Rs_choose_86 : decode prog_8_method_5_code 86 = .ok (.aload_n 0, 1) := by decide +kernel
theorem dq_Rs_choose_87 : decode prog_8_method_5_code 87 = .ok (.getfield 13, 3) := by decide +kernel
theorem dq_Rs_choose_90 : decode prog_8_method_5_code 90 = .ok (.iload 4, 2) := by decide +kernel
theorem dq_Rs_choose_92 : decode prog_8_method_5_code 92 = .ok (.aaload, 1) := by decide +kernel
theorem dq_Rs_choose_93 : decode prog_8_method_5_code 93 = .ok (.astore_n 2, 1) := by decide +kernel
theorem dq_Rs_choose_94 : decode prog_8_method_5_code 94 = .ok (.iload 6, 2) := by decide +kernel
theorem dq_Rs_choose_96 : decode prog_8_method_5_code 96 = .ok (.istore_n 3, 1) := by decide +kernel
theorem dq_Rs_choose_97 : decode prog_8_method_5_code 97 = .ok (.iinc 4 1, 3) := by decide +kernel
theorem dq_Rs_choose_100 : decode prog_8_method_5_code 100 = .ok (.goto (-76), 3) := by decide +kernel
theorem dq_Rs_choose_103 : decode prog_8_method_5_code 103 = .ok (.aload_n 2, 1) := by decide +kernel
theorem dq_Rs_choose_104 : decode prog_8_method_5_code 104 = .ok (.areturn, 1) := by decide +kernel
set_option maxRecDepth 100000 in
def pq_Rs_choose_12 (E : wo_E) (mc ms : Nat) (Post : Option Nat → wo_W → Prop) (G : wo_W) (c s : Nat) (x0 : Nat) : Prop := wo_ty G x0 = 12 ∧ ∃ mc2 ms3 : Nat, (c + mc2) ≤ mc ∧ (s + ms3) ≤ ms ∧ pq_Rs_least E mc2 ms3 (fun v5 G4 => 
  Post v5 G4) G x0
set_option maxRecDepth 100000 in
def pq_Rs_choose_97 (E : wo_E) (mc ms : Nat) (Post : Option Nat → wo_W → Prop) (k24 : wo_W → Nat → Nat → Nat → Option Nat → Option Nat → Int32 → Int32 → Prop) (G : wo_W) (c s : Nat) (x0 : Nat) (x1 : Option Nat) (x2 : Option Nat) (x3 : Int32) (x4 : Int32) : Prop := k24 G c s x0 x1 x2 x3 (x4 + (1 : Int32))
set_option maxRecDepth 100000 in
def pq_Rs_choose_78 (E : wo_E) (mc ms : Nat) (Post : Option Nat → wo_W → Prop) (k24 : wo_W → Nat → Nat → Nat → Option Nat → Option Nat → Int32 → Int32 → Prop) (G : wo_W) (c s : Nat) (x0 : Nat) (x1 : Option Nat) (x2 : Option Nat) (x3 : Int32) (x4 : Int32) (y0 : Int32) : Prop := ((y0 ≤ x3 → pq_Rs_choose_97 E mc ms Post k24 G c s x0 x1 x2 x3 x4) ∧
  (¬ y0 ≤ x3 → wo_ty G x0 = 12 ∧ ∀ r2 : Option Nat, r2 = wo_gr G 705 x0 → ∃ a4 : Nat, r2 = some a4 ∧ wo_ty G a4 = 70 ∧ vp_in x4 (wo_len G a4) ∧ ∀ r7 : Option Nat, r7 = wo_er G a4 x4.toNatClampNeg → pq_Rs_choose_97 E mc ms Post k24 G c s x0 x1 r7 y0 x4))
set_option maxRecDepth 100000 in
def pq_Rs_choose_59 (E : wo_E) (mc ms : Nat) (Post : Option Nat → wo_W → Prop) (k24 : wo_W → Nat → Nat → Nat → Option Nat → Option Nat → Int32 → Int32 → Prop) (G : wo_W) (c s : Nat) (x0 : Nat) (x1 : Option Nat) (x2 : Option Nat) (x3 : Int32) (x4 : Int32) (y0 : Int32) : Prop := ((¬ y0 = (-1 : Int32) → pq_Rs_choose_78 E mc ms Post k24 G c s x0 x1 x2 x3 x4 (wo_max y0 (0 : Int32))) ∧
  (y0 = (-1 : Int32) → pq_Rs_choose_78 E mc ms Post k24 G c s x0 x1 x2 x3 x4 (9 : Int32)))
set_option maxRecDepth 100000 in
def pq_Rs_choose_24 (E : wo_E) (mc ms : Nat) (Post : Option Nat → wo_W → Prop) : Nat → wo_W → Nat → Nat → Nat → Option Nat → Option Nat → Int32 → Int32 → Prop
  | 0 => fun _ _ _ _ _ _ _ _ => False
  | n + 1 => fun G c s x0 x1 x2 x3 x4 => (((3 : Int32) ≤ x4 → Post x2 G) ∧
  (¬ (3 : Int32) ≤ x4 → wo_ty G x0 = 12 ∧ ∀ r2 : Option Nat, r2 = wo_gr G 705 x0 → ∃ a4 : Nat, r2 = some a4 ∧ wo_ty G a4 = 70 ∧ vp_in x4 (wo_len G a4) ∧ ∀ r7 : Option Nat, r7 = wo_er G a4 x4.toNatClampNeg → ((r7 = none → pq_Rs_choose_59 E mc ms Post (pq_Rs_choose_24 E mc ms Post n) G c s x0 x1 x2 x3 x4 (-2 : Int32)) ∧
    (∀ a9 : Nat, r7 = some a9 → ∀ r10 : Option Nat, r10 = wo_gr G 705 x0 → ∃ a12 : Nat, r10 = some a12 ∧ wo_ty G a12 = 70 ∧ vp_in x4 (wo_len G a12) ∧ ∀ r15 : Option Nat, r15 = wo_er G a12 x4.toNatClampNeg → ∃ a17 : Nat, r15 = some a17 ∧ wo_ty G a17 = 13 ∧ ∃ mc19 ms20 : Nat, (c + mc19) ≤ mc ∧ (s + ms20) ≤ ms ∧ pq_Tx_number E mc19 ms20 (fun v22 G21 => 
      pq_Rs_choose_59 E mc ms Post (pq_Rs_choose_24 E mc ms Post n) G21 (c + mc19) (s + ms20) x0 x1 x2 x3 x4 v22) G x1 (wo_gi G 768 a17)))))
set_option maxRecDepth 100000 in
def pq_Rs_choose_0 (E : wo_E) (mc ms : Nat) (Post : Option Nat → wo_W → Prop) (G : wo_W) (c s : Nat) (x0 : Nat) (x1 : Option Nat) : Prop := ((x1 = none → pq_Rs_choose_12 E mc ms Post G c s x0) ∧
  (∀ a1 : Nat, x1 = some a1 → wo_ty G x0 = 12 ∧ ∃ mc3 ms4 : Nat, (c + mc3) ≤ mc ∧ (s + ms4) ≤ ms ∧ pq_Rs_letterCount E mc3 ms4 (fun v6 G5 => 
    ((¬ v6 = (1 : Int32) → ∃ n1 : Nat, pq_Rs_choose_24 E mc ms Post n1 G5 (c + mc3) (s + ms4) x0 (some a1) none (0 : Int32) (0 : Int32)) ∧
      (v6 = (1 : Int32) → pq_Rs_choose_12 E mc ms Post G5 (c + mc3) (s + ms4) x0))) G x0))
def pq_Rs_choose (E : wo_E) (mc ms : Nat) (Post : Option Nat → wo_W → Prop) (G : wo_W) (x0 : Nat) (x1 : Option Nat) : Prop := pq_Rs_choose_0 E mc ms Post G 0 0 x0 x1
set_option maxRecDepth 100000 in
set_option maxHeartbeats 4000000 in
theorem tq_Rs_choose_12 {p : Program} {l : Launch} {e : Env} {R : Room} {s₀ : State} {m : MethodId} {args : Array Value} {below : List Frame} {meth : Method} {cd : Code} {E : wo_E} {mc ms : Nat} {Post : Option Nat → wo_W → Prop} (hC : wo_Cx E "EdgeCache$Resource" prog_8_method_5_code 7 5 110 ((Option.some (Jvm.ClassFile.FieldType.object "EdgeCache$Representation"))) "choose" mc ms p R s₀ m args meth cd) : ∀ {G : wo_W} {c s : Nat} {x0 : Nat}, pq_Rs_choose_12 E mc ms Post G c s x0 → ∀ {H : Heap} {locs : List Loc} {ls : Array Slot}, wo_Se E G H → va_S (en_A E) s₀.heap H locs → lx_has ls 7 [(0, 1, .ref x0)] → c ≤ mc → s ≤ ms → W p l e R s₀ m args below meth cd H locs c s (MQ below (va_Qq Post (wo_B E) (en_A E)) args s₀ mc ms (en_A E)) (F0 m 12 ls []) := by
  intro G c s x0 hw H locs ls hG hS hl hcc hss
  dsimp only [pq_Rs_choose_12] at hw
  have hx := hC.1
  have hb := hC.2.1
  refine lv_aload_n hx hb dq_Rs_choose_12 rfl (lx_at hl 0 rfl) ?_
  obtain ⟨t1, hw⟩ := hw
  obtain ⟨mc2, ms3, hc1, hs1, hw⟩ := hw
  refine va_callq (wo_runV hC lq_Rs_34 (mq_Rs_least hw) hG hS t1 rfl (lx_sz hl) rfl (Nat.zero_le _) (by decide) dq_Rs_choose_13 ⟨hc1, hs1⟩) hS (fun _ _ h => h) (fun _ h => h) (fun v5 G4 t H locs ht hvm hw' hB _ _ hS => ?_)
  clear hw
  have hw := hw'
  clear hw'
  replace hG := wo_bk ht hB
  replace hcc := hc1
  replace hss := hs1
  exact wo_aret (x := v5) hC rfl hG hS hcc hss hw dq_Rs_choose_16
set_option maxRecDepth 100000 in
set_option maxHeartbeats 4000000 in
theorem tq_Rs_choose_97 {p : Program} {l : Launch} {e : Env} {R : Room} {s₀ : State} {m : MethodId} {args : Array Value} {below : List Frame} {meth : Method} {cd : Code} {E : wo_E} {mc ms : Nat} {Post : Option Nat → wo_W → Prop} {k24 : wo_W → Nat → Nat → Nat → Option Nat → Option Nat → Int32 → Int32 → Prop} (hC : wo_Cx E "EdgeCache$Resource" prog_8_method_5_code 7 5 110 ((Option.some (Jvm.ClassFile.FieldType.object "EdgeCache$Representation"))) "choose" mc ms p R s₀ m args meth cd) (hk24 : ∀ {G : wo_W} {c s : Nat} {x0 : Nat} {x1 : Option Nat} {x2 : Option Nat} {x3 : Int32} {x4 : Int32}, k24 G c s x0 x1 x2 x3 x4 → ∀ {H : Heap} {locs : List Loc} {ls : Array Slot}, wo_Se E G H → va_S (en_A E) s₀.heap H locs → lx_has ls 7 [(0, 1, .ref x0), (1, 1, va_rf x1), (2, 1, va_rf x2), (3, 1, .int x3), (4, 1, .int x4)] → c ≤ mc → s ≤ ms → W p l e R s₀ m args below meth cd H locs c s (MQ below (va_Qq Post (wo_B E) (en_A E)) args s₀ mc ms (en_A E)) (F0 m 24 ls [])) : ∀ {G : wo_W} {c s : Nat} {x0 : Nat} {x1 : Option Nat} {x2 : Option Nat} {x3 : Int32} {x4 : Int32}, pq_Rs_choose_97 E mc ms Post k24 G c s x0 x1 x2 x3 x4 → ∀ {H : Heap} {locs : List Loc} {ls : Array Slot}, wo_Se E G H → va_S (en_A E) s₀.heap H locs → lx_has ls 7 [(0, 1, .ref x0), (1, 1, va_rf x1), (2, 1, va_rf x2), (3, 1, .int x3), (4, 1, .int x4)] → c ≤ mc → s ≤ ms → W p l e R s₀ m args below meth cd H locs c s (MQ below (va_Qq Post (wo_B E) (en_A E)) args s₀ mc ms (en_A E)) (F0 m 97 ls []) := by
  intro G c s x0 x1 x2 x3 x4 hw H locs ls hG hS hl hcc hss
  dsimp only [pq_Rs_choose_97] at hw
  have hx := hC.1
  have hb := hC.2.1
  refine lx_iinc (k := 4) (v := (x4 + (1 : Int32))) (lv' := [(4, 1, .int (x4 + (1 : Int32))), (0, 1, .ref x0), (1, 1, va_rf x1), (2, 1, va_rf x2), (3, 1, .int x3)]) hx hb dq_Rs_choose_97 hl rfl rfl (by decide) rfl (fun ls hl' => ?_)
  clear hl
  have hl := hl'
  clear hl'
  refine lv_goto (tgt := 24) hx hb dq_Rs_choose_100 rfl ?_
  exact hk24 hw hG hS (lx_sub hl [1, 2, 3, 4, 0] rfl) hcc hss
set_option maxRecDepth 100000 in
set_option maxHeartbeats 4000000 in
theorem tq_Rs_choose_78 {p : Program} {l : Launch} {e : Env} {R : Room} {s₀ : State} {m : MethodId} {args : Array Value} {below : List Frame} {meth : Method} {cd : Code} {E : wo_E} {mc ms : Nat} {Post : Option Nat → wo_W → Prop} {k24 : wo_W → Nat → Nat → Nat → Option Nat → Option Nat → Int32 → Int32 → Prop} (hC : wo_Cx E "EdgeCache$Resource" prog_8_method_5_code 7 5 110 ((Option.some (Jvm.ClassFile.FieldType.object "EdgeCache$Representation"))) "choose" mc ms p R s₀ m args meth cd) (hk24 : ∀ {G : wo_W} {c s : Nat} {x0 : Nat} {x1 : Option Nat} {x2 : Option Nat} {x3 : Int32} {x4 : Int32}, k24 G c s x0 x1 x2 x3 x4 → ∀ {H : Heap} {locs : List Loc} {ls : Array Slot}, wo_Se E G H → va_S (en_A E) s₀.heap H locs → lx_has ls 7 [(0, 1, .ref x0), (1, 1, va_rf x1), (2, 1, va_rf x2), (3, 1, .int x3), (4, 1, .int x4)] → c ≤ mc → s ≤ ms → W p l e R s₀ m args below meth cd H locs c s (MQ below (va_Qq Post (wo_B E) (en_A E)) args s₀ mc ms (en_A E)) (F0 m 24 ls [])) : ∀ {G : wo_W} {c s : Nat} {x0 : Nat} {x1 : Option Nat} {x2 : Option Nat} {x3 : Int32} {x4 : Int32} {y0 : Int32}, pq_Rs_choose_78 E mc ms Post k24 G c s x0 x1 x2 x3 x4 y0 → ∀ {H : Heap} {locs : List Loc} {ls : Array Slot}, wo_Se E G H → va_S (en_A E) s₀.heap H locs → lx_has ls 7 [(0, 1, .ref x0), (1, 1, va_rf x1), (2, 1, va_rf x2), (3, 1, .int x3), (4, 1, .int x4)] → c ≤ mc → s ≤ ms → W p l e R s₀ m args below meth cd H locs c s (MQ below (va_Qq Post (wo_B E) (en_A E)) args s₀ mc ms (en_A E)) (F0 m 78 ls [.int y0]) := by
  intro G c s x0 x1 x2 x3 x4 y0 hw H locs ls hG hS hl hcc hss
  dsimp only [pq_Rs_choose_78] at hw
  have hx := hC.1
  have hb := hC.2.1
  refine lx_istore (lv' := [(6, 1, .int y0), (0, 1, .ref x0), (1, 1, va_rf x1), (2, 1, va_rf x2), (3, 1, .int x3), (4, 1, .int x4)]) hx hb dq_Rs_choose_78 hl (by decide) rfl (fun ls hl' => ?_)
  clear hl
  have hl := hl'
  clear hl'
  refine lv_iload hx hb dq_Rs_choose_80 (lx_at hl 0 rfl) ?_
  refine lv_iload_n hx hb dq_Rs_choose_82 rfl (lx_at hl 4 rfl) ?_
  refine lv_icmp_le (tgt := 97) hx hb dq_Rs_choose_83 rfl (fun h => ?_) (fun h => ?_)
  · replace hw := hw.1 h
    exact tq_Rs_choose_97 hC hk24 hw hG hS (lx_sub hl [1, 2, 3, 4, 5] rfl) hcc hss
  · replace hw := hw.2 h
    refine lv_aload_n hx hb dq_Rs_choose_86 rfl (lx_at hl 1 rfl) ?_
    obtain ⟨t1, hw⟩ := hw
    refine wo_getR hC fq_Rs_13 rfl hG t1 dq_Rs_choose_87 (fun r2 e3 => ?_)
    replace hw := hw r2 e3
    refine lv_iload hx hb dq_Rs_choose_90 (lx_at hl 5 rfl) ?_
    obtain ⟨a4, rfl, hw⟩ := hw
    obtain ⟨t5, hw⟩ := hw
    obtain ⟨h6, hw⟩ := hw
    refine wo_aald (j := 6) hC rfl hG t5 h6 dq_Rs_choose_92 (fun r7 e8 => ?_)
    replace hw := hw r7 e8
    refine lx_astoreR_n (lv' := [(2, 1, va_rf r7), (6, 1, .int y0), (0, 1, .ref x0), (1, 1, va_rf x1), (3, 1, .int x3), (4, 1, .int x4)]) hx hb dq_Rs_choose_93 rfl hl (by decide) rfl (fun ls hl' => ?_)
    clear hl
    have hl := hl'
    clear hl'
    refine lv_iload hx hb dq_Rs_choose_94 (lx_at hl 1 rfl) ?_
    refine lx_istore_n (lv' := [(3, 1, .int y0), (2, 1, va_rf r7), (6, 1, .int y0), (0, 1, .ref x0), (1, 1, va_rf x1), (4, 1, .int x4)]) hx hb dq_Rs_choose_96 rfl hl (by decide) rfl (fun ls hl' => ?_)
    clear hl
    have hl := hl'
    clear hl'
    exact tq_Rs_choose_97 hC hk24 hw hG hS (lx_sub hl [3, 4, 1, 0, 5] rfl) hcc hss
set_option maxRecDepth 100000 in
set_option maxHeartbeats 4000000 in
theorem tq_Rs_choose_59 {p : Program} {l : Launch} {e : Env} {R : Room} {s₀ : State} {m : MethodId} {args : Array Value} {below : List Frame} {meth : Method} {cd : Code} {E : wo_E} {mc ms : Nat} {Post : Option Nat → wo_W → Prop} {k24 : wo_W → Nat → Nat → Nat → Option Nat → Option Nat → Int32 → Int32 → Prop} (hC : wo_Cx E "EdgeCache$Resource" prog_8_method_5_code 7 5 110 ((Option.some (Jvm.ClassFile.FieldType.object "EdgeCache$Representation"))) "choose" mc ms p R s₀ m args meth cd) (hk24 : ∀ {G : wo_W} {c s : Nat} {x0 : Nat} {x1 : Option Nat} {x2 : Option Nat} {x3 : Int32} {x4 : Int32}, k24 G c s x0 x1 x2 x3 x4 → ∀ {H : Heap} {locs : List Loc} {ls : Array Slot}, wo_Se E G H → va_S (en_A E) s₀.heap H locs → lx_has ls 7 [(0, 1, .ref x0), (1, 1, va_rf x1), (2, 1, va_rf x2), (3, 1, .int x3), (4, 1, .int x4)] → c ≤ mc → s ≤ ms → W p l e R s₀ m args below meth cd H locs c s (MQ below (va_Qq Post (wo_B E) (en_A E)) args s₀ mc ms (en_A E)) (F0 m 24 ls [])) : ∀ {G : wo_W} {c s : Nat} {x0 : Nat} {x1 : Option Nat} {x2 : Option Nat} {x3 : Int32} {x4 : Int32} {y0 : Int32}, pq_Rs_choose_59 E mc ms Post k24 G c s x0 x1 x2 x3 x4 y0 → ∀ {H : Heap} {locs : List Loc} {ls : Array Slot}, wo_Se E G H → va_S (en_A E) s₀.heap H locs → lx_has ls 7 [(0, 1, .ref x0), (1, 1, va_rf x1), (2, 1, va_rf x2), (3, 1, .int x3), (4, 1, .int x4)] → c ≤ mc → s ≤ ms → W p l e R s₀ m args below meth cd H locs c s (MQ below (va_Qq Post (wo_B E) (en_A E)) args s₀ mc ms (en_A E)) (F0 m 59 ls [.int y0]) := by
  intro G c s x0 x1 x2 x3 x4 y0 hw H locs ls hG hS hl hcc hss
  dsimp only [pq_Rs_choose_59] at hw
  have hx := hC.1
  have hb := hC.2.1
  refine lx_istore (lv' := [(5, 1, .int y0), (0, 1, .ref x0), (1, 1, va_rf x1), (2, 1, va_rf x2), (3, 1, .int x3), (4, 1, .int x4)]) hx hb dq_Rs_choose_59 hl (by decide) rfl (fun ls hl' => ?_)
  clear hl
  have hl := hl'
  clear hl'
  refine lv_iload hx hb dq_Rs_choose_61 (lx_at hl 0 rfl) ?_
  refine lv_iconst (v := (-1 : Int32)) hx hb dq_Rs_choose_63 rfl ?_
  refine lv_icmp_ne (tgt := 72) hx hb dq_Rs_choose_64 rfl (fun h => ?_) (fun h => ?_)
  · replace hw := hw.1 h
    refine lv_iload hx hb dq_Rs_choose_72 (lx_at hl 0 rfl) ?_
    refine lv_iconst (v := (0 : Int32)) hx hb dq_Rs_choose_74 rfl ?_
    refine wo_mmax hC lq_Rs_48 (lx_sz hl) hcc hss (by decide) (lx_rk (Nat.le_of_ble_eq_true rfl)) dq_Rs_choose_75 ?_
    exact tq_Rs_choose_78 hC hk24 hw hG hS (lx_sub hl [1, 2, 3, 4, 5] rfl) hcc hss
  · replace hw := hw.2 h
    refine lv_bipush (v := (9 : Int32)) hx hb dq_Rs_choose_67 rfl ?_
    refine lv_goto (tgt := 78) hx hb dq_Rs_choose_69 rfl ?_
    exact tq_Rs_choose_78 hC hk24 hw hG hS (lx_sub hl [1, 2, 3, 4, 5] rfl) hcc hss
set_option maxRecDepth 100000 in
set_option maxHeartbeats 4000000 in
theorem tq_Rs_choose_24 {p : Program} {l : Launch} {e : Env} {R : Room} {s₀ : State} {m : MethodId} {args : Array Value} {below : List Frame} {meth : Method} {cd : Code} {E : wo_E} {mc ms : Nat} {Post : Option Nat → wo_W → Prop} (hC : wo_Cx E "EdgeCache$Resource" prog_8_method_5_code 7 5 110 ((Option.some (Jvm.ClassFile.FieldType.object "EdgeCache$Representation"))) "choose" mc ms p R s₀ m args meth cd) : ∀ n : Nat, ∀ {G : wo_W} {c s : Nat} {x0 : Nat} {x1 : Option Nat} {x2 : Option Nat} {x3 : Int32} {x4 : Int32}, pq_Rs_choose_24 E mc ms Post n G c s x0 x1 x2 x3 x4 → ∀ {H : Heap} {locs : List Loc} {ls : Array Slot}, wo_Se E G H → va_S (en_A E) s₀.heap H locs → lx_has ls 7 [(0, 1, .ref x0), (1, 1, va_rf x1), (2, 1, va_rf x2), (3, 1, .int x3), (4, 1, .int x4)] → c ≤ mc → s ≤ ms → W p l e R s₀ m args below meth cd H locs c s (MQ below (va_Qq Post (wo_B E) (en_A E)) args s₀ mc ms (en_A E)) (F0 m 24 ls []) := by
  intro n
  induction n with
  | zero => intro G c s x0 x1 x2 x3 x4 hw; exact hw.elim
  | succ n ih =>
    intro G c s x0 x1 x2 x3 x4 hw H locs ls hG hS hl hcc hss
    dsimp only [pq_Rs_choose_24] at hw
    have hx := hC.1
    have hb := hC.2.1
    refine lv_iload hx hb dq_Rs_choose_24 (lx_at hl 4 rfl) ?_
    refine lv_iconst (v := (3 : Int32)) hx hb dq_Rs_choose_26 rfl ?_
    refine lv_icmp_ge (tgt := 103) hx hb dq_Rs_choose_27 rfl (fun h => ?_) (fun h => ?_)
    · replace hw := hw.1 h
      refine lx_aloadR_n hx hb dq_Rs_choose_103 rfl (lx_at hl 2 rfl) ?_
      exact wo_aret (x := x2) hC rfl hG hS hcc hss hw dq_Rs_choose_104
    · replace hw := hw.2 h
      refine lv_aload_n hx hb dq_Rs_choose_30 rfl (lx_at hl 0 rfl) ?_
      obtain ⟨t1, hw⟩ := hw
      refine wo_getR hC fq_Rs_13 rfl hG t1 dq_Rs_choose_31 (fun r2 e3 => ?_)
      replace hw := hw r2 e3
      refine lv_iload hx hb dq_Rs_choose_34 (lx_at hl 4 rfl) ?_
      obtain ⟨a4, rfl, hw⟩ := hw
      obtain ⟨t5, hw⟩ := hw
      obtain ⟨h6, hw⟩ := hw
      refine wo_aald (j := 6) hC rfl hG t5 h6 dq_Rs_choose_36 (fun r7 e8 => ?_)
      replace hw := hw r7 e8
      refine lx_ifnonnull (tgt := 45) hx hb dq_Rs_choose_37 rfl (fun h => ?_) (fun a9 h => ?_)
      · replace hw := hw.1 h
        subst h
        refine lv_bipush (v := (-2 : Int32)) hx hb dq_Rs_choose_40 rfl ?_
        refine lv_goto (tgt := 59) hx hb dq_Rs_choose_42 rfl ?_
        exact tq_Rs_choose_59 hC ih hw hG hS (lx_sub hl [0, 1, 2, 3, 4] rfl) hcc hss
      · replace hw := hw.2 a9 h
        subst h
        refine lx_aloadR_n hx hb dq_Rs_choose_45 rfl (lx_at hl 1 rfl) ?_
        refine lv_aload_n hx hb dq_Rs_choose_46 rfl (lx_at hl 0 rfl) ?_
        refine wo_getR hC fq_Rs_13 rfl hG t1 dq_Rs_choose_47 (fun r10 e11 => ?_)
        replace hw := hw r10 e11
        refine lv_iload hx hb dq_Rs_choose_50 (lx_at hl 4 rfl) ?_
        obtain ⟨a12, rfl, hw⟩ := hw
        obtain ⟨t13, hw⟩ := hw
        obtain ⟨h14, hw⟩ := hw
        refine wo_aald (j := 6) hC rfl hG t13 h14 dq_Rs_choose_52 (fun r15 e16 => ?_)
        replace hw := hw r15 e16
        obtain ⟨a17, rfl, hw⟩ := hw
        obtain ⟨t18, hw⟩ := hw
        refine wo_getI hC fq_Rs_40 rfl hG t18 dq_Rs_choose_53 ?_
        obtain ⟨mc19, ms20, hc1, hs1, hw⟩ := hw
        refine va_calli (wo_runS hC lq_Rs_44 (mq_Tx_number hw) hG hS rfl (lx_sz hl) rfl (Nat.zero_le _) (by decide) dq_Rs_choose_56 ⟨hc1, hs1⟩) hS (fun _ _ h => h) (fun _ h => h) (fun v22 G21 t H locs ht hvm hw' hB _ _ hS => ?_)
        clear hw
        have hw := hw'
        clear hw'
        replace hG := wo_bk ht hB
        replace hcc := hc1
        replace hss := hs1
        exact tq_Rs_choose_59 hC ih hw hG hS (lx_sub hl [0, 1, 2, 3, 4] rfl) hcc hss
set_option maxRecDepth 100000 in
set_option maxHeartbeats 4000000 in
theorem tq_Rs_choose_0 {p : Program} {l : Launch} {e : Env} {R : Room} {s₀ : State} {m : MethodId} {args : Array Value} {below : List Frame} {meth : Method} {cd : Code} {E : wo_E} {mc ms : Nat} {Post : Option Nat → wo_W → Prop} (hC : wo_Cx E "EdgeCache$Resource" prog_8_method_5_code 7 5 110 ((Option.some (Jvm.ClassFile.FieldType.object "EdgeCache$Representation"))) "choose" mc ms p R s₀ m args meth cd) : ∀ {G : wo_W} {c s : Nat} {x0 : Nat} {x1 : Option Nat}, pq_Rs_choose_0 E mc ms Post G c s x0 x1 → ∀ {H : Heap} {locs : List Loc} {ls : Array Slot}, wo_Se E G H → va_S (en_A E) s₀.heap H locs → lx_has ls 7 [(0, 1, .ref x0), (1, 1, va_rf x1)] → c ≤ mc → s ≤ ms → W p l e R s₀ m args below meth cd H locs c s (MQ below (va_Qq Post (wo_B E) (en_A E)) args s₀ mc ms (en_A E)) (F0 m 0 ls []) := by
  intro G c s x0 x1 hw H locs ls hG hS hl hcc hss
  dsimp only [pq_Rs_choose_0] at hw
  have hx := hC.1
  have hb := hC.2.1
  refine lx_aloadR_n hx hb dq_Rs_choose_0 rfl (lx_at hl 1 rfl) ?_
  refine lx_ifnull (tgt := 12) hx hb dq_Rs_choose_1 rfl (fun h => ?_) (fun a1 h => ?_)
  · replace hw := hw.1 h
    subst h
    exact tq_Rs_choose_12 hC hw hG hS (lx_sub hl [0] rfl) hcc hss
  · replace hw := hw.2 a1 h
    subst h
    refine lv_aload_n hx hb dq_Rs_choose_4 rfl (lx_at hl 0 rfl) ?_
    obtain ⟨t2, hw⟩ := hw
    obtain ⟨mc3, ms4, hc1, hs1, hw⟩ := hw
    refine va_calli (wo_runV hC lq_Rs_31 (mq_Rs_letterCount hw) hG hS t2 rfl (lx_sz hl) rfl (Nat.zero_le _) (by decide) dq_Rs_choose_5 ⟨hc1, hs1⟩) hS (fun _ _ h => h) (fun _ h => h) (fun v6 G5 t H locs ht hvm hw' hB _ _ hS => ?_)
    clear hw
    have hw := hw'
    clear hw'
    replace hG := wo_bk ht hB
    replace hcc := hc1
    replace hss := hs1
    refine lv_iconst (v := (1 : Int32)) hx hb dq_Rs_choose_8 rfl ?_
    refine lv_icmp_ne (tgt := 17) hx hb dq_Rs_choose_9 rfl (fun h => ?_) (fun h => ?_)
    · replace hw := hw.1 h
      refine lv_null hx hb dq_Rs_choose_17 ?_
      refine lx_astoreN_n (lv' := [(2, 1, .null), (0, 1, .ref x0), (1, 1, .ref a1)]) hx hb dq_Rs_choose_18 rfl hl (by decide) rfl (fun ls hl' => ?_)
      clear hl
      have hl := hl'
      clear hl'
      refine lv_iconst (v := (0 : Int32)) hx hb dq_Rs_choose_19 rfl ?_
      refine lx_istore_n (lv' := [(3, 1, .int (0 : Int32)), (2, 1, .null), (0, 1, .ref x0), (1, 1, .ref a1)]) hx hb dq_Rs_choose_20 rfl hl (by decide) rfl (fun ls hl' => ?_)
      clear hl
      have hl := hl'
      clear hl'
      refine lv_iconst (v := (0 : Int32)) hx hb dq_Rs_choose_21 rfl ?_
      refine lx_istore (lv' := [(4, 1, .int (0 : Int32)), (3, 1, .int (0 : Int32)), (2, 1, .null), (0, 1, .ref x0), (1, 1, .ref a1)]) hx hb dq_Rs_choose_22 hl (by decide) rfl (fun ls hl' => ?_)
      clear hl
      have hl := hl'
      clear hl'
      obtain ⟨n1, hw⟩ := hw
      exact tq_Rs_choose_24 hC n1 hw hG hS (lx_sub hl [3, 4, 2, 1, 0] rfl) hcc hss
    · replace hw := hw.2 h
      exact tq_Rs_choose_12 hC hw hG hS (lx_sub hl [0] rfl) hcc hss
set_option maxHeartbeats 4000000 in
theorem mq_Rs_choose {l : Launch} {E : wo_E} {mc ms : Nat} {Post : Option Nat → wo_W → Prop} {G : wo_W} {x0 : Nat} {x1 : Option Nat} (hw : pq_Rs_choose E mc ms Post G x0 x1) : Met l yq_Rs_choose (Cond.code yq_Rs_choose prog_8_method_5_code 7 ((Option.some (Jvm.ClassFile.FieldType.object "EdgeCache$Representation"))) :: vw_WG) { frames := 5, cells := mc, slots := ms, locals := 110 } (va_Pc [.ref x0, va_rf x1] (wo_Ok E G)) (va_Qq Post (wo_B E) (en_A E)) mc ms (en_A E) := by
  unfold pq_Rs_choose at hw
  exact wo_met [(1, .ref x0), (1, va_rf x1)] rfl (by decide) (fun q hq => by simp only [List.mem_cons, List.not_mem_nil, or_false] at hq; rcases hq with rfl | rfl <;> first | rfl | exact lx_cR _) (Nat.le_of_ble_eq_true rfl) (fun p e R s m args below meth cd ls hC hG hS hl => tq_Rs_choose_0 hC hw hG hS (lx_sub hl [0, 1] rfl) (Nat.zero_le _) (Nat.zero_le _))

theorem dq_Og_read_0 : decode prog_4_method_3_code 0 = .ok (.aload_n 0, 1) := by decide +kernel
theorem dq_Og_read_1 : decode prog_4_method_3_code 1 = .ok (.aload_n 1, 1) := by decide +kernel
theorem dq_Og_read_2 : decode prog_4_method_3_code 2 = .ok (.getfield 18, 3) := by decide +kernel
theorem dq_Og_read_5 : decode prog_4_method_3_code 5 = .ok (.getfield 40, 3) := by decide +kernel
theorem dq_Og_read_8 : decode prog_4_method_3_code 8 = .ok (.invokevirtual 44, 3) := by decide +kernel
theorem dq_Og_read_11 : decode prog_4_method_3_code 11 = .ok (.istore_n 2, 1) := by decide +kernel
theorem dq_Og_read_12 : decode prog_4_method_3_code 12 = .ok (.iload_n 2, 1) := by decide +kernel
theorem dq_Og_read_13 : decode prog_4_method_3_code 13 = .ok (.iconst (-1), 1) := by decide +kernel
theorem dq_Og_read_14 : decode prog_4_method_3_code 14 = .ok (.if_icmp .ne 11, 3) := by decide +kernel
theorem dq_Og_read_17 : decode prog_4_method_3_code 17 = .ok (.aload_n 1, 1) := by decide +kernel
theorem dq_Og_read_18 : decode prog_4_method_3_code 18 = .ok (.sipush 404, 3) := by decide +kernel
theorem dq_Og_read_21 : decode prog_4_method_3_code 21 = .ok (.putfield 48, 3) := by decide +kernel
theorem dq_Og_read_24 : decode prog_4_method_3_code 24 = .ok (.return_, 1) := by decide +kernel
theorem dq_Og_read_25 : decode prog_4_method_3_code 25 = .ok (.aload_n 0, 1) := by decide +kernel
theorem dq_Og_read_26 : decode prog_4_method_3_code 26 = .ok (.getfield 12, 3) := by decide +kernel
theorem dq_Og_read_29 : decode prog_4_method_3_code 29 = .ok (.iload_n 2, 1) := by decide +kernel
theorem dq_Og_read_30 : decode prog_4_method_3_code 30 = .ok (.invokevirtual 51, 3) := by decide +kernel
theorem dq_Og_read_33 : decode prog_4_method_3_code 33 = .ok (.checkcast 55, 3) := by decide +kernel
theorem dq_Og_read_36 : decode prog_4_method_3_code 36 = .ok (.aload_n 1, 1) := by decide +kernel
theorem dq_Og_read_37 : decode prog_4_method_3_code 37 = .ok (.getfield 18, 3) := by decide +kernel
theorem dq_Og_read_40 : decode prog_4_method_3_code 40 = .ok (.getfield 57, 3) := by decide +kernel
theorem dq_Og_read_43 : decode prog_4_method_3_code 43 = .ok (.invokevirtual 60, 3) := by decide +kernel
theorem dq_Og_read_46 : decode prog_4_method_3_code 46 = .ok (.astore_n 3, 1) := by decide +kernel
theorem dq_Og_read_47 : decode prog_4_method_3_code 47 = .ok (.aload_n 3, 1) := by decide +kernel
theorem dq_Og_read_48 : decode prog_4_method_3_code 48 = .ok (.ifnonnull 11, 3) := by decide +kernel
theorem dq_Og_read_51 : decode prog_4_method_3_code 51 = .ok (.aload_n 1, 1) := by decide +kernel
theorem dq_Og_read_52 : decode prog_4_method_3_code 52 = .ok (.sipush 406, 3) := by decide +kernel
theorem dq_Og_read_55 : decode prog_4_method_3_code 55 = .ok (.putfield 48, 3) := by decide +kernel
theorem dq_Og_read_58 : decode prog_4_method_3_code 58 = .ok (.return_, 1) := by decide +kernel
theorem dq_Og_read_59 : decode prog_4_method_3_code 59 = .ok (.aload_n 1, 1) := by decide +kernel
theorem dq_Og_read_60 : decode prog_4_method_3_code 60 = .ok (.aload_n 3, 1) := by decide +kernel
theorem dq_Og_read_61 : decode prog_4_method_3_code 61 = .ok (.putfield 64, 3) := by decide +kernel
theorem dq_Og_read_64 : decode prog_4_method_3_code 64 = .ok (.aload_n 1, 1) := by decide +kernel
theorem dq_Og_read_65 : decode prog_4_method_3_code 65 = .ok (.aload_n 3, 1) := by decide +kernel
theorem dq_Og_read_66 : decode prog_4_method_3_code 66 = .ok (.getfield 68, 3) := by decide +kernel
theorem dq_Og_read_69 : decode prog_4_method_3_code 69 = .ok (.aload_n 1, 1) := by decide +kernel
theorem dq_Og_read_70 : decode prog_4_method_3_code 70 = .ok (.getfield 73, 3) := by decide +kernel
theorem dq_Og_read_73 : decode prog_4_method_3_code 73 = .ok (.if_icmp .ne 9, 3) := by decide +kernel
theorem dq_Og_read_76 : decode prog_4_method_3_code 76 = .ok (.sipush 304, 3) := by decide +kernel
theorem dq_Og_read_79 : decode prog_4_method_3_code 79 = .ok (.goto 6, 3) := by decide +kernel
theorem dq_Og_read_82 : decode prog_4_method_3_code 82 = .ok (.sipush 200, 3) := by decide +kernel
theorem dq_Og_read_85 : decode prog_4_method_3_code 85 = .ok (.putfield 48, 3) := by decide +kernel
theorem dq_Og_read_88 : decode prog_4_method_3_code 88 = .ok (.return_, 1) := by decide +kernel
set_option maxRecDepth 100000 in
def pq_Og_read_85 (E : wo_E) (mc ms : Nat) (Post : wo_W → Prop) (G : wo_W) (c s : Nat) (y0 : Option Nat) (y1 : Int32) : Prop := ∃ a1 : Nat, y0 = some a1 ∧ wo_ty G a1 = 11 ∧ en_bs E ≤ a1 ∧ ∀ G4 : wo_W, G4 = wo_si G 643 a1 y1 → 
  Post G4
set_option maxRecDepth 100000 in
def pq_Og_read_0 (E : wo_E) (mc ms : Nat) (Post : wo_W → Prop) (G : wo_W) (c s : Nat) (x0 : Nat) (x1 : Option Nat) : Prop := ∃ a1 : Nat, x1 = some a1 ∧ wo_ty G a1 = 11 ∧ ∀ r3 : Option Nat, r3 = wo_gr G 640 a1 → ∃ a5 : Nat, r3 = some a5 ∧ wo_ty G a5 = 9 ∧ ∀ r7 : Option Nat, r7 = wo_gr G 513 a5 → wo_ty G x0 = 2 ∧ ∃ mc10 ms11 : Nat, (c + mc10) ≤ mc ∧ (s + ms11) ≤ ms ∧ pq_Og_indexOf E mc10 ms11 (fun v13 G12 => 
  ((¬ v13 = (-1 : Int32) → wo_ty G12 x0 = 2 ∧ ∀ r15 : Option Nat, r15 = wo_gr G12 64 x0 → ∃ a17 : Nat, r15 = some a17 ∧ wo_ty G12 a17 = 3 ∧ ∃ mc19 ms20 : Nat, ((c + mc10) + mc19) ≤ mc ∧ ((s + ms11) + ms20) ≤ ms ∧ pq_Al_get E mc19 ms20 (fun v22 G21 => 
      wo_is G21 12 v22 ∧ wo_ty G21 a1 = 11 ∧ ∀ r25 : Option Nat, r25 = wo_gr G21 640 a1 → ∃ a27 : Nat, r25 = some a27 ∧ wo_ty G21 a27 = 9 ∧ ∀ r29 : Option Nat, r29 = wo_gr G21 520 a27 → ∃ a31 : Nat, v22 = some a31 ∧ wo_ty G21 a31 = 12 ∧ ∃ mc33 ms34 : Nat, (((c + mc10) + mc19) + mc33) ≤ mc ∧ (((s + ms11) + ms20) + ms34) ≤ ms ∧ pq_Rs_choose E mc33 ms34 (fun v36 G35 => 
        ((v36 = none → wo_ty G35 a1 = 11 ∧ en_bs E ≤ a1 ∧ ∀ G40 : wo_W, G40 = wo_si G35 643 a1 (406 : Int32) → 
            Post G40) ∧
          (∀ a37 : Nat, v36 = some a37 → wo_ty G35 a1 = 11 ∧ en_bs E ≤ a1 ∧ ∀ G44 : wo_W, G44 = wo_sr G35 644 a1 (some a37) → 
            wo_ty G44 a37 = 13 ∧ ((¬ (wo_gi G44 770 a37) = (wo_gi G44 641 a1) → pq_Og_read_85 E mc ms Post G44 (((c + mc10) + mc19) + mc33) (((s + ms11) + ms20) + ms34) (some a1) (200 : Int32)) ∧
            ((wo_gi G44 770 a37) = (wo_gi G44 641 a1) → pq_Og_read_85 E mc ms Post G44 (((c + mc10) + mc19) + mc33) (((s + ms11) + ms20) + ms34) (some a1) (304 : Int32)))))) G21 a31 r29) G12 a17 v13) ∧
    (v13 = (-1 : Int32) → wo_ty G12 a1 = 11 ∧ en_bs E ≤ a1 ∧ ∀ G49 : wo_W, G49 = wo_si G12 643 a1 (404 : Int32) → 
      Post G49))) G x0 r7
def pq_Og_read (E : wo_E) (mc ms : Nat) (Post : wo_W → Prop) (G : wo_W) (x0 : Nat) (x1 : Option Nat) : Prop := pq_Og_read_0 E mc ms Post G 0 0 x0 x1
set_option maxRecDepth 100000 in
set_option maxHeartbeats 4000000 in
theorem tq_Og_read_85 {p : Program} {l : Launch} {e : Env} {R : Room} {s₀ : State} {m : MethodId} {args : Array Value} {below : List Frame} {meth : Method} {cd : Code} {E : wo_E} {mc ms : Nat} {Post : wo_W → Prop} (hC : wo_Cx E "EdgeCache$Origin" prog_4_method_3_code 4 6 136 ((Option.none : Option Jvm.ClassFile.FieldType)) "read" mc ms p R s₀ m args meth cd) : ∀ {G : wo_W} {c s : Nat} {y0 : Option Nat} {y1 : Int32}, pq_Og_read_85 E mc ms Post G c s y0 y1 → ∀ {H : Heap} {locs : List Loc} {ls : Array Slot}, wo_Se E G H → va_S (en_A E) s₀.heap H locs → lx_has ls 4 [] → c ≤ mc → s ≤ ms → W p l e R s₀ m args below meth cd H locs c s (MQ below (va_Qv Post (wo_B E) (en_A E)) args s₀ mc ms (en_A E)) (F0 m 85 ls [.int y1, va_rf y0]) := by
  intro G c s y0 y1 hw H locs ls hG hS hl hcc hss
  dsimp only [pq_Og_read_85] at hw
  have hx := hC.1
  have hb := hC.2.1
  obtain ⟨a1, rfl, hw⟩ := hw
  obtain ⟨t2, hw⟩ := hw
  obtain ⟨h3, hw⟩ := hw
  refine wo_putI hC fq_Og_48 (Or.inl rfl) rfl (wo_ok_int _) hG hS t2 h3 dq_Og_read_85 (fun G4 H locs e5 hG hS => ?_)
  replace hw := hw G4 e5
  exact wo_vret hC hG hS hcc hss hw dq_Og_read_88
set_option maxRecDepth 100000 in
set_option maxHeartbeats 4000000 in
theorem tq_Og_read_0 {p : Program} {l : Launch} {e : Env} {R : Room} {s₀ : State} {m : MethodId} {args : Array Value} {below : List Frame} {meth : Method} {cd : Code} {E : wo_E} {mc ms : Nat} {Post : wo_W → Prop} (hC : wo_Cx E "EdgeCache$Origin" prog_4_method_3_code 4 6 136 ((Option.none : Option Jvm.ClassFile.FieldType)) "read" mc ms p R s₀ m args meth cd) : ∀ {G : wo_W} {c s : Nat} {x0 : Nat} {x1 : Option Nat}, pq_Og_read_0 E mc ms Post G c s x0 x1 → ∀ {H : Heap} {locs : List Loc} {ls : Array Slot}, wo_Se E G H → va_S (en_A E) s₀.heap H locs → lx_has ls 4 [(0, 1, .ref x0), (1, 1, va_rf x1)] → c ≤ mc → s ≤ ms → W p l e R s₀ m args below meth cd H locs c s (MQ below (va_Qv Post (wo_B E) (en_A E)) args s₀ mc ms (en_A E)) (F0 m 0 ls []) := by
  intro G c s x0 x1 hw H locs ls hG hS hl hcc hss
  dsimp only [pq_Og_read_0] at hw
  have hx := hC.1
  have hb := hC.2.1
  refine lv_aload_n hx hb dq_Og_read_0 rfl (lx_at hl 0 rfl) ?_
  refine lx_aloadR_n hx hb dq_Og_read_1 rfl (lx_at hl 1 rfl) ?_
  obtain ⟨a1, rfl, hw⟩ := hw
  obtain ⟨t2, hw⟩ := hw
  refine wo_getR hC fq_Og_18 rfl hG t2 dq_Og_read_2 (fun r3 e4 => ?_)
  replace hw := hw r3 e4
  obtain ⟨a5, rfl, hw⟩ := hw
  obtain ⟨t6, hw⟩ := hw
  refine wo_getR hC fq_Og_40 rfl hG t6 dq_Og_read_5 (fun r7 e8 => ?_)
  replace hw := hw r7 e8
  obtain ⟨t9, hw⟩ := hw
  obtain ⟨mc10, ms11, hc1, hs1, hw⟩ := hw
  refine va_calli (wo_runV hC lq_Og_44 (mq_Og_indexOf hw) hG hS t9 rfl (lx_sz hl) rfl (Nat.zero_le _) (by decide) dq_Og_read_8 ⟨hc1, hs1⟩) hS (fun _ _ h => h) (fun _ h => h) (fun v13 G12 t H locs ht hvm hw' hB _ _ hS => ?_)
  clear hw
  have hw := hw'
  clear hw'
  replace hG := wo_bk ht hB
  replace hcc := hc1
  replace hss := hs1
  refine lx_istore_n (lv' := [(2, 1, .int v13), (0, 1, .ref x0), (1, 1, .ref a1)]) hx hb dq_Og_read_11 rfl hl (by decide) rfl (fun ls hl' => ?_)
  clear hl
  have hl := hl'
  clear hl'
  refine lv_iload_n hx hb dq_Og_read_12 rfl (lx_at hl 0 rfl) ?_
  refine lv_iconst (v := (-1 : Int32)) hx hb dq_Og_read_13 rfl ?_
  refine lv_icmp_ne (tgt := 25) hx hb dq_Og_read_14 rfl (fun h => ?_) (fun h => ?_)
  · replace hw := hw.1 h
    refine lv_aload_n hx hb dq_Og_read_25 rfl (lx_at hl 1 rfl) ?_
    obtain ⟨t14, hw⟩ := hw
    refine wo_getR hC fq_Og_12 rfl hG t14 dq_Og_read_26 (fun r15 e16 => ?_)
    replace hw := hw r15 e16
    refine lv_iload_n hx hb dq_Og_read_29 rfl (lx_at hl 0 rfl) ?_
    obtain ⟨a17, rfl, hw⟩ := hw
    obtain ⟨t18, hw⟩ := hw
    obtain ⟨mc19, ms20, hc1, hs1, hw⟩ := hw
    refine va_callq (wo_runV hC lq_Og_51 (mq_Al_get hw) hG hS t18 rfl (lx_sz hl) rfl (Nat.zero_le _) (by decide) dq_Og_read_30 ⟨hc1, hs1⟩) hS (fun _ _ h => h) (fun _ h => h) (fun v22 G21 t H locs ht hvm hw' hB _ _ hS => ?_)
    clear hw
    have hw := hw'
    clear hw'
    replace hG := wo_bk ht hB
    replace hcc := hc1
    replace hss := hs1
    obtain ⟨h23, hw⟩ := hw
    refine wo_chk (x := v22) (c := 11) hC rfl kq_Og_55 (Or.inl rfl) hG h23 dq_Og_read_33 ?_
    refine lv_aload_n hx hb dq_Og_read_36 rfl (lx_at hl 2 rfl) ?_
    obtain ⟨t24, hw⟩ := hw
    refine wo_getR hC fq_Og_18 rfl hG t24 dq_Og_read_37 (fun r25 e26 => ?_)
    replace hw := hw r25 e26
    obtain ⟨a27, rfl, hw⟩ := hw
    obtain ⟨t28, hw⟩ := hw
    refine wo_getR hC fq_Og_57 rfl hG t28 dq_Og_read_40 (fun r29 e30 => ?_)
    replace hw := hw r29 e30
    obtain ⟨a31, rfl, hw⟩ := hw
    obtain ⟨t32, hw⟩ := hw
    obtain ⟨mc33, ms34, hc1, hs1, hw⟩ := hw
    refine va_callq (wo_runV hC lq_Og_60 (mq_Rs_choose hw) hG hS t32 rfl (lx_sz hl) rfl (Nat.zero_le _) (by decide) dq_Og_read_43 ⟨hc1, hs1⟩) hS (fun _ _ h => h) (fun _ h => h) (fun v36 G35 t H locs ht hvm hw' hB _ _ hS => ?_)
    clear hw
    have hw := hw'
    clear hw'
    replace hG := wo_bk ht hB
    replace hcc := hc1
    replace hss := hs1
    refine lx_astoreR_n (lv' := [(3, 1, va_rf v36), (2, 1, .int v13), (0, 1, .ref x0), (1, 1, .ref a1)]) hx hb dq_Og_read_46 rfl hl (by decide) rfl (fun ls hl' => ?_)
    clear hl
    have hl := hl'
    clear hl'
    refine lx_aloadR_n hx hb dq_Og_read_47 rfl (lx_at hl 0 rfl) ?_
    refine lx_ifnonnull (tgt := 59) hx hb dq_Og_read_48 rfl (fun h => ?_) (fun a37 h => ?_)
    · replace hw := hw.1 h
      subst h
      refine lv_aload_n hx hb dq_Og_read_51 rfl (lx_at hl 3 rfl) ?_
      refine lv_sipush (v := (406 : Int32)) hx hb dq_Og_read_52 rfl ?_
      obtain ⟨t38, hw⟩ := hw
      obtain ⟨h39, hw⟩ := hw
      refine wo_putI hC fq_Og_48 (Or.inl rfl) rfl (wo_ok_int _) hG hS t38 h39 dq_Og_read_55 (fun G40 H locs e41 hG hS => ?_)
      replace hw := hw G40 e41
      exact wo_vret hC hG hS hcc hss hw dq_Og_read_58
    · replace hw := hw.2 a37 h
      subst h
      refine lv_aload_n hx hb dq_Og_read_59 rfl (lx_at hl 3 rfl) ?_
      refine lv_aload_n hx hb dq_Og_read_60 rfl (lx_at hl 0 rfl) ?_
      obtain ⟨t42, hw⟩ := hw
      obtain ⟨h43, hw⟩ := hw
      refine wo_putR (x := (some a37)) hC fq_Og_64 (Or.inl rfl) rfl hG hS t42 h43 dq_Og_read_61 (fun G44 H locs e45 hG hS => ?_)
      replace hw := hw G44 e45
      refine lv_aload_n hx hb dq_Og_read_64 rfl (lx_at hl 3 rfl) ?_
      refine lv_aload_n hx hb dq_Og_read_65 rfl (lx_at hl 0 rfl) ?_
      obtain ⟨t46, hw⟩ := hw
      refine wo_getI hC fq_Og_68 rfl hG t46 dq_Og_read_66 ?_
      refine lv_aload_n hx hb dq_Og_read_69 rfl (lx_at hl 3 rfl) ?_
      refine wo_getI hC fq_Og_73 rfl hG (ty_sr e45 t42) dq_Og_read_70 ?_
      refine lv_icmp_ne (tgt := 82) hx hb dq_Og_read_73 rfl (fun h => ?_) (fun h => ?_)
      · replace hw := hw.1 h
        refine lv_sipush (v := (200 : Int32)) hx hb dq_Og_read_82 rfl ?_
        exact tq_Og_read_85 hC hw hG hS (lx_sub hl [] rfl) hcc hss
      · replace hw := hw.2 h
        refine lv_sipush (v := (304 : Int32)) hx hb dq_Og_read_76 rfl ?_
        refine lv_goto (tgt := 85) hx hb dq_Og_read_79 rfl ?_
        exact tq_Og_read_85 hC hw hG hS (lx_sub hl [] rfl) hcc hss
  · replace hw := hw.2 h
    refine lv_aload_n hx hb dq_Og_read_17 rfl (lx_at hl 2 rfl) ?_
    refine lv_sipush (v := (404 : Int32)) hx hb dq_Og_read_18 rfl ?_
    obtain ⟨t47, hw⟩ := hw
    obtain ⟨h48, hw⟩ := hw
    refine wo_putI hC fq_Og_48 (Or.inl rfl) rfl (wo_ok_int _) hG hS t47 h48 dq_Og_read_21 (fun G49 H locs e50 hG hS => ?_)
    replace hw := hw G49 e50
    exact wo_vret hC hG hS hcc hss hw dq_Og_read_24
set_option maxHeartbeats 4000000 in
theorem mq_Og_read {l : Launch} {E : wo_E} {mc ms : Nat} {Post : wo_W → Prop} {G : wo_W} {x0 : Nat} {x1 : Option Nat} (hw : pq_Og_read E mc ms Post G x0 x1) : Met l yq_Og_read (Cond.code yq_Og_read prog_4_method_3_code 4 ((Option.none : Option Jvm.ClassFile.FieldType)) :: vw_WG) { frames := 6, cells := mc, slots := ms, locals := 136 } (va_Pc [.ref x0, va_rf x1] (wo_Ok E G)) (va_Qv Post (wo_B E) (en_A E)) mc ms (en_A E) := by
  unfold pq_Og_read at hw
  exact wo_met [(1, .ref x0), (1, va_rf x1)] rfl (by decide) (fun q hq => by simp only [List.mem_cons, List.not_mem_nil, or_false] at hq; rcases hq with rfl | rfl <;> first | rfl | exact lx_cR _) (Nat.le_of_ble_eq_true rfl) (fun p e R s m args below meth cd ls hC hG hS hl => tq_Og_read_0 hC hw hG hS (lx_sub hl [0, 1] rfl) (Nat.zero_le _) (Nat.zero_le _))
