theorem dq_Sh_bare_0 : decode prog_9_method_2_code 0 = .ok (.aload_n 0, 1) := by decide +kernel
theorem dq_Sh_bare_1 : decode prog_9_method_2_code 1 = .ok (.iload_n 1, 1) := by decide +kernel
theorem dq_Sh_bare_2 : decode prog_9_method_2_code 2 = .ok (.invokevirtual 25, 3) := by decide +kernel
theorem dq_Sh_bare_5 : decode prog_9_method_2_code 5 = .ok (.iload_n 2, 1) := by decide +kernel
theorem dq_Sh_bare_6 : decode prog_9_method_2_code 6 = .ok (.ifCond .le 10, 3) := by decide +kernel
theorem dq_Sh_bare_9 : decode prog_9_method_2_code 9 = .ok (.aload_n 0, 1) := by decide +kernel
theorem dq_Sh_bare_10 : decode prog_9_method_2_code 10 = .ok (.bipush 69, 2) := by decide +kernel
theorem dq_Sh_bare_12 : decode prog_9_method_2_code 12 = .ok (.iload_n 2, 1) := by decide +kernel
theorem dq_Sh_bare_13 : decode prog_9_method_2_code 13 = .ok (.invokevirtual 29, 3) := by decide +kernel
theorem dq_Sh_bare_16 : decode prog_9_method_2_code 16 = .ok (.aload_n 0, 1) := by decide +kernel
theorem dq_Sh_bare_17 : decode prog_9_method_2_code 17 = .ok (.bipush 76, 2) := by decide +kernel
theorem dq_Sh_bare_19 : decode prog_9_method_2_code 19 = .ok (.iconst 0, 1) := by decide +kernel
theorem dq_Sh_bare_20 : decode prog_9_method_2_code 20 = .ok (.invokevirtual 29, 3) := by decide +kernel
theorem dq_Sh_bare_23 : decode prog_9_method_2_code 23 = .ok (.aload_n 0, 1) := by decide +kernel
theorem dq_Sh_bare_24 : decode prog_9_method_2_code 24 = .ok (.getfield 12, 3) := by decide +kernel
theorem dq_Sh_bare_27 : decode prog_9_method_2_code 27 = .ok (.bipush 10, 2) := by decide +kernel
theorem dq_Sh_bare_29 : decode prog_9_method_2_code 29 = .ok (.invokevirtual 33, 3) := by decide +kernel
theorem dq_Sh_bare_32 : decode prog_9_method_2_code 32 = .ok (.pop, 1) := by decide +kernel
theorem dq_Sh_bare_33 : decode prog_9_method_2_code 33 = .ok (.aload_n 0, 1) := by decide +kernel
theorem dq_Sh_bare_34 : decode prog_9_method_2_code 34 = .ok (.getfield 12, 3) := by decide +kernel
theorem dq_Sh_bare_37 : decode prog_9_method_2_code 37 = .ok (.invokevirtual 37, 3) := by decide +kernel
theorem dq_Sh_bare_40 : decode prog_9_method_2_code 40 = .ok (.areturn, 1) := by decide +kernel
set_option maxRecDepth 100000 in
def pq_Sh_bare_16 (E : wo_E) (mc ms : Nat) (Post : Option Nat → wo_W → Prop) (G : wo_W) (c s : Nat) (x0 : Nat) : Prop := wo_ty G x0 = 4 ∧ ∃ mc2 ms3 : Nat, (c + mc2) ≤ mc ∧ (s + ms3) ≤ ms ∧ pq_Sh_numberLine E mc2 ms3 (fun G4 => 
  wo_ty G4 x0 = 4 ∧ ∀ r6 : Option Nat, r6 = wo_gr G4 192 x0 → ∃ a8 : Nat, r6 = some a8 ∧ wo_ty G4 a8 = 5 ∧ ∃ mc10 ms11 : Nat, ((c + mc2) + mc10) ≤ mc ∧ ((s + ms3) + ms11) ≤ ms ∧ pq_SB_append_C E mc10 ms11 (fun v13 G12 => 
    wo_ty G12 x0 = 4 ∧ ∀ r15 : Option Nat, r15 = wo_gr G12 192 x0 → ∃ a17 : Nat, r15 = some a17 ∧ wo_ty G12 a17 = 5 ∧ ∃ mc19 ms20 : Nat, (((c + mc2) + mc10) + mc19) ≤ mc ∧ (((s + ms3) + ms11) + ms20) ≤ ms ∧ pq_SB_toString E mc19 ms20 (fun v22 G21 => 
      Post v22 G21) G12 a17) G4 a8 (10 : Int32)) G x0 (76 : Int32) (0 : Int32)
set_option maxRecDepth 100000 in
def pq_Sh_bare_0 (E : wo_E) (mc ms : Nat) (Post : Option Nat → wo_W → Prop) (G : wo_W) (c s : Nat) (x0 : Nat) (x1 : Int32) (x2 : Int32) : Prop := wo_ty G x0 = 4 ∧ ∃ mc2 ms3 : Nat, (c + mc2) ≤ mc ∧ (s + ms3) ≤ ms ∧ pq_Sh_begin E mc2 ms3 (fun G4 => 
  ((x2 ≤ (0 : Int32) → pq_Sh_bare_16 E mc ms Post G4 (c + mc2) (s + ms3) x0) ∧
    (¬ x2 ≤ (0 : Int32) → wo_ty G4 x0 = 4 ∧ ∃ mc6 ms7 : Nat, ((c + mc2) + mc6) ≤ mc ∧ ((s + ms3) + ms7) ≤ ms ∧ pq_Sh_numberLine E mc6 ms7 (fun G8 => 
      pq_Sh_bare_16 E mc ms Post G8 ((c + mc2) + mc6) ((s + ms3) + ms7) x0) G4 x0 (69 : Int32) x2))) G x0 x1
def pq_Sh_bare (E : wo_E) (mc ms : Nat) (Post : Option Nat → wo_W → Prop) (G : wo_W) (x0 : Nat) (x1 : Int32) (x2 : Int32) : Prop := pq_Sh_bare_0 E mc ms Post G 0 0 x0 x1 x2
set_option maxRecDepth 100000 in
set_option maxHeartbeats 4000000 in
theorem tq_Sh_bare_16 {p : Program} {l : Launch} {e : Env} {R : Room} {s₀ : State} {m : MethodId} {args : Array Value} {below : List Frame} {meth : Method} {cd : Code} {E : wo_E} {mc ms : Nat} {Post : Option Nat → wo_W → Prop} (hC : wo_Cx E "EdgeCache$Sheet" prog_9_method_2_code 3 7 164 ((Option.some (Jvm.ClassFile.FieldType.object "java/lang/String"))) "bare" mc ms p R s₀ m args meth cd) : ∀ {G : wo_W} {c s : Nat} {x0 : Nat}, pq_Sh_bare_16 E mc ms Post G c s x0 → ∀ {H : Heap} {locs : List Loc} {ls : Array Slot}, wo_Se E G H → va_S (en_A E) s₀.heap H locs → lx_has ls 3 [(0, 1, .ref x0)] → c ≤ mc → s ≤ ms → W p l e R s₀ m args below meth cd H locs c s (MQ below (va_Qq Post (wo_B E) (en_A E)) args s₀ mc ms (en_A E)) (F0 m 16 ls []) := by
  intro G c s x0 hw H locs ls hG hS hl hcc hss
  dsimp only [pq_Sh_bare_16] at hw
  have hx := hC.1
  have hb := hC.2.1
  refine lv_aload_n hx hb dq_Sh_bare_16 rfl (lx_at hl 0 rfl) ?_
  refine lv_bipush (v := (76 : Int32)) hx hb dq_Sh_bare_17 rfl ?_
  refine lv_iconst (v := (0 : Int32)) hx hb dq_Sh_bare_19 rfl ?_
  obtain ⟨t1, hw⟩ := hw
  obtain ⟨mc2, ms3, hc1, hs1, hw⟩ := hw
  refine va_callv (wo_runV hC lq_Sh_29 (mq_Sh_numberLine hw) hG hS t1 rfl (lx_sz hl) rfl (Nat.zero_le _) (by decide) dq_Sh_bare_20 ⟨hc1, hs1⟩) hS (fun _ _ h => h) (fun _ h => h) (fun G4 t H locs ht hvm hw' hB _ _ hS => ?_)
  clear hw
  have hw := hw'
  clear hw'
  replace hG := wo_bk ht hB
  replace hcc := hc1
  replace hss := hs1
  refine lv_aload_n hx hb dq_Sh_bare_23 rfl (lx_at hl 0 rfl) ?_
  obtain ⟨t5, hw⟩ := hw
  refine wo_getR hC fq_Sh_12 rfl hG t5 dq_Sh_bare_24 (fun r6 e7 => ?_)
  replace hw := hw r6 e7
  refine lv_bipush (v := (10 : Int32)) hx hb dq_Sh_bare_27 rfl ?_
  obtain ⟨a8, rfl, hw⟩ := hw
  obtain ⟨t9, hw⟩ := hw
  obtain ⟨mc10, ms11, hc1, hs1, hw⟩ := hw
  refine va_callq (wo_runV hC lq_Sh_33 (mq_SB_append_C hw) hG hS t9 rfl (lx_sz hl) rfl (Nat.zero_le _) (by decide) dq_Sh_bare_29 ⟨hc1, hs1⟩) hS (fun _ _ h => h) (fun _ h => h) (fun v13 G12 t H locs ht hvm hw' hB _ _ hS => ?_)
  clear hw
  have hw := hw'
  clear hw'
  replace hG := wo_bk ht hB
  replace hcc := hc1
  replace hss := hs1
  refine lv_pop hx hb dq_Sh_bare_32 (lx_cR _) ?_
  refine lv_aload_n hx hb dq_Sh_bare_33 rfl (lx_at hl 0 rfl) ?_
  obtain ⟨t14, hw⟩ := hw
  refine wo_getR hC fq_Sh_12 rfl hG t14 dq_Sh_bare_34 (fun r15 e16 => ?_)
  replace hw := hw r15 e16
  obtain ⟨a17, rfl, hw⟩ := hw
  obtain ⟨t18, hw⟩ := hw
  obtain ⟨mc19, ms20, hc1, hs1, hw⟩ := hw
  refine va_callq (wo_runV hC lq_Sh_37 (mq_SB_toString hw) hG hS t18 rfl (lx_sz hl) rfl (Nat.zero_le _) (by decide) dq_Sh_bare_37 ⟨hc1, hs1⟩) hS (fun _ _ h => h) (fun _ h => h) (fun v22 G21 t H locs ht hvm hw' hB _ _ hS => ?_)
  clear hw
  have hw := hw'
  clear hw'
  replace hG := wo_bk ht hB
  replace hcc := hc1
  replace hss := hs1
  exact wo_aret (x := v22) hC rfl hG hS hcc hss hw dq_Sh_bare_40
set_option maxRecDepth 100000 in
set_option maxHeartbeats 4000000 in
theorem tq_Sh_bare_0 {p : Program} {l : Launch} {e : Env} {R : Room} {s₀ : State} {m : MethodId} {args : Array Value} {below : List Frame} {meth : Method} {cd : Code} {E : wo_E} {mc ms : Nat} {Post : Option Nat → wo_W → Prop} (hC : wo_Cx E "EdgeCache$Sheet" prog_9_method_2_code 3 7 164 ((Option.some (Jvm.ClassFile.FieldType.object "java/lang/String"))) "bare" mc ms p R s₀ m args meth cd) : ∀ {G : wo_W} {c s : Nat} {x0 : Nat} {x1 : Int32} {x2 : Int32}, pq_Sh_bare_0 E mc ms Post G c s x0 x1 x2 → ∀ {H : Heap} {locs : List Loc} {ls : Array Slot}, wo_Se E G H → va_S (en_A E) s₀.heap H locs → lx_has ls 3 [(0, 1, .ref x0), (1, 1, .int x1), (2, 1, .int x2)] → c ≤ mc → s ≤ ms → W p l e R s₀ m args below meth cd H locs c s (MQ below (va_Qq Post (wo_B E) (en_A E)) args s₀ mc ms (en_A E)) (F0 m 0 ls []) := by
  intro G c s x0 x1 x2 hw H locs ls hG hS hl hcc hss
  dsimp only [pq_Sh_bare_0] at hw
  have hx := hC.1
  have hb := hC.2.1
  refine lv_aload_n hx hb dq_Sh_bare_0 rfl (lx_at hl 0 rfl) ?_
  refine lv_iload_n hx hb dq_Sh_bare_1 rfl (lx_at hl 1 rfl) ?_
  obtain ⟨t1, hw⟩ := hw
  obtain ⟨mc2, ms3, hc1, hs1, hw⟩ := hw
  refine va_callv (wo_runV hC lq_Sh_25 (mq_Sh_begin hw) hG hS t1 rfl (lx_sz hl) rfl (Nat.zero_le _) (by decide) dq_Sh_bare_2 ⟨hc1, hs1⟩) hS (fun _ _ h => h) (fun _ h => h) (fun G4 t H locs ht hvm hw' hB _ _ hS => ?_)
  clear hw
  have hw := hw'
  clear hw'
  replace hG := wo_bk ht hB
  replace hcc := hc1
  replace hss := hs1
  refine lv_iload_n hx hb dq_Sh_bare_5 rfl (lx_at hl 2 rfl) ?_
  refine lv_if_le (tgt := 16) hx hb dq_Sh_bare_6 rfl (fun h => ?_) (fun h => ?_)
  · replace hw := hw.1 h
    exact tq_Sh_bare_16 hC hw hG hS (lx_sub hl [0] rfl) hcc hss
  · replace hw := hw.2 h
    refine lv_aload_n hx hb dq_Sh_bare_9 rfl (lx_at hl 0 rfl) ?_
    refine lv_bipush (v := (69 : Int32)) hx hb dq_Sh_bare_10 rfl ?_
    refine lv_iload_n hx hb dq_Sh_bare_12 rfl (lx_at hl 2 rfl) ?_
    obtain ⟨t5, hw⟩ := hw
    obtain ⟨mc6, ms7, hc1, hs1, hw⟩ := hw
    refine va_callv (wo_runV hC lq_Sh_29 (mq_Sh_numberLine hw) hG hS t5 rfl (lx_sz hl) rfl (Nat.zero_le _) (by decide) dq_Sh_bare_13 ⟨hc1, hs1⟩) hS (fun _ _ h => h) (fun _ h => h) (fun G8 t H locs ht hvm hw' hB _ _ hS => ?_)
    clear hw
    have hw := hw'
    clear hw'
    replace hG := wo_bk ht hB
    replace hcc := hc1
    replace hss := hs1
    exact tq_Sh_bare_16 hC hw hG hS (lx_sub hl [0] rfl) hcc hss
set_option maxHeartbeats 4000000 in
theorem mq_Sh_bare {l : Launch} {E : wo_E} {mc ms : Nat} {Post : Option Nat → wo_W → Prop} {G : wo_W} {x0 : Nat} {x1 : Int32} {x2 : Int32} (hw : pq_Sh_bare E mc ms Post G x0 x1 x2) : Met l yq_Sh_bare (Cond.code yq_Sh_bare prog_9_method_2_code 3 ((Option.some (Jvm.ClassFile.FieldType.object "java/lang/String"))) :: vw_WG) { frames := 7, cells := mc, slots := ms, locals := 164 } (va_Pc [.ref x0, .int x1, .int x2] (wo_Ok E G)) (va_Qq Post (wo_B E) (en_A E)) mc ms (en_A E) := by
  unfold pq_Sh_bare at hw
  exact wo_met [(1, .ref x0), (1, .int x1), (1, .int x2)] rfl (by decide) (fun q hq => by simp only [List.mem_cons, List.not_mem_nil, or_false] at hq; rcases hq with rfl | rfl | rfl <;> first | rfl | exact lx_cR _) (Nat.le_of_ble_eq_true rfl) (fun p e R s m args below meth cd ls hC hG hS hl => tq_Sh_bare_0 hC hw hG hS (lx_sub hl [0, 1, 2] rfl) (Nat.zero_le _) (Nat.zero_le _))

theorem dq_St_isLatin1_0 : decode prog_22_method_154_code 0 = .ok (.getstatic 38, 3) := by decide +kernel
theorem dq_St_isLatin1_3 : decode prog_22_method_154_code 3 = .ok (.ifCond .eq 14, 3) := by decide +kernel
theorem dq_St_isLatin1_6 : decode prog_22_method_154_code 6 = .ok (.aload_n 0, 1) := by decide +kernel
theorem dq_St_isLatin1_7 : decode prog_22_method_154_code 7 = .ok (.getfield 15, 3) := by decide +kernel
theorem dq_St_isLatin1_10 : decode prog_22_method_154_code 10 = .ok (.ifCond .ne 7, 3) := by decide +kernel
theorem dq_St_isLatin1_13 : decode prog_22_method_154_code 13 = .ok (.iconst 1, 1) := by decide +kernel
theorem dq_St_isLatin1_14 : decode prog_22_method_154_code 14 = .ok (.goto 4, 3) := by decide +kernel
theorem dq_St_isLatin1_17 : decode prog_22_method_154_code 17 = .ok (.iconst 0, 1) := by decide +kernel
theorem dq_St_isLatin1_18 : decode prog_22_method_154_code 18 = .ok (.ireturn, 1) := by decide +kernel
set_option maxRecDepth 100000 in
def pq_St_isLatin1_18 (E : wo_E) (mc ms : Nat) (Post : Int32 → wo_W → Prop) (G : wo_W) (c s : Nat) (y0 : Int32) : Prop := wo_okI .boolean y0 ∧ Post y0 G
set_option maxRecDepth 100000 in
def pq_St_isLatin1_17 (E : wo_E) (mc ms : Nat) (Post : Int32 → wo_W → Prop) (G : wo_W) (c s : Nat) : Prop := pq_St_isLatin1_18 E mc ms Post G c s (0 : Int32)
set_option maxRecDepth 100000 in
def pq_St_isLatin1_0 (E : wo_E) (mc ms : Nat) (Post : Int32 → wo_W → Prop) (G : wo_W) (c s : Nat) (x0 : Nat) : Prop := wo_ty G x0 = 10 ∧ ((¬ (wo_gi G 577 x0) = (0 : Int32) → pq_St_isLatin1_17 E mc ms Post G c s) ∧
  ((wo_gi G 577 x0) = (0 : Int32) → pq_St_isLatin1_18 E mc ms Post G c s (1 : Int32)))
def pq_St_isLatin1 (E : wo_E) (mc ms : Nat) (Post : Int32 → wo_W → Prop) (G : wo_W) (x0 : Nat) : Prop := pq_St_isLatin1_0 E mc ms Post G 0 0 x0
set_option maxRecDepth 100000 in
set_option maxHeartbeats 4000000 in
theorem tq_St_isLatin1_18 {p : Program} {l : Launch} {e : Env} {R : Room} {s₀ : State} {m : MethodId} {args : Array Value} {below : List Frame} {meth : Method} {cd : Code} {E : wo_E} {mc ms : Nat} {Post : Int32 → wo_W → Prop} (hC : wo_Cx E "java/lang/String" prog_22_method_154_code 1 0 0 ((Option.some Jvm.ClassFile.FieldType.boolean)) "isLatin1" mc ms p R s₀ m args meth cd) : ∀ {G : wo_W} {c s : Nat} {y0 : Int32}, pq_St_isLatin1_18 E mc ms Post G c s y0 → ∀ {H : Heap} {locs : List Loc} {ls : Array Slot}, wo_Se E G H → va_S (en_A E) s₀.heap H locs → lx_has ls 1 [] → c ≤ mc → s ≤ ms → W p l e R s₀ m args below meth cd H locs c s (MQ below (va_Qi Post (wo_B E) (en_A E)) args s₀ mc ms (en_A E)) (F0 m 18 ls [.int y0]) := by
  intro G c s y0 hw H locs ls hG hS hl hcc hss
  dsimp only [pq_St_isLatin1_18] at hw
  have hx := hC.1
  have hb := hC.2.1
  obtain ⟨h1, hw⟩ := hw
  exact wo_zret hC h1.1 hG hS hcc hss hw dq_St_isLatin1_18
set_option maxRecDepth 100000 in
set_option maxHeartbeats 4000000 in
theorem tq_St_isLatin1_17 {p : Program} {l : Launch} {e : Env} {R : Room} {s₀ : State} {m : MethodId} {args : Array Value} {below : List Frame} {meth : Method} {cd : Code} {E : wo_E} {mc ms : Nat} {Post : Int32 → wo_W → Prop} (hC : wo_Cx E "java/lang/String" prog_22_method_154_code 1 0 0 ((Option.some Jvm.ClassFile.FieldType.boolean)) "isLatin1" mc ms p R s₀ m args meth cd) : ∀ {G : wo_W} {c s : Nat}, pq_St_isLatin1_17 E mc ms Post G c s → ∀ {H : Heap} {locs : List Loc} {ls : Array Slot}, wo_Se E G H → va_S (en_A E) s₀.heap H locs → lx_has ls 1 [] → c ≤ mc → s ≤ ms → W p l e R s₀ m args below meth cd H locs c s (MQ below (va_Qi Post (wo_B E) (en_A E)) args s₀ mc ms (en_A E)) (F0 m 17 ls []) := by
  intro G c s hw H locs ls hG hS hl hcc hss
  dsimp only [pq_St_isLatin1_17] at hw
  have hx := hC.1
  have hb := hC.2.1
  refine lv_iconst (v := (0 : Int32)) hx hb dq_St_isLatin1_17 rfl ?_
  exact tq_St_isLatin1_18 hC hw hG hS (lx_sub hl [] rfl) hcc hss
set_option maxRecDepth 100000 in
set_option maxHeartbeats 4000000 in
theorem tq_St_isLatin1_0 {p : Program} {l : Launch} {e : Env} {R : Room} {s₀ : State} {m : MethodId} {args : Array Value} {below : List Frame} {meth : Method} {cd : Code} {E : wo_E} {mc ms : Nat} {Post : Int32 → wo_W → Prop} (hC : wo_Cx E "java/lang/String" prog_22_method_154_code 1 0 0 ((Option.some Jvm.ClassFile.FieldType.boolean)) "isLatin1" mc ms p R s₀ m args meth cd) : ∀ {G : wo_W} {c s : Nat} {x0 : Nat}, pq_St_isLatin1_0 E mc ms Post G c s x0 → ∀ {H : Heap} {locs : List Loc} {ls : Array Slot}, wo_Se E G H → va_S (en_A E) s₀.heap H locs → lx_has ls 1 [(0, 1, .ref x0)] → c ≤ mc → s ≤ ms → W p l e R s₀ m args below meth cd H locs c s (MQ below (va_Qi Post (wo_B E) (en_A E)) args s₀ mc ms (en_A E)) (F0 m 0 ls []) := by
  intro G c s x0 hw H locs ls hG hS hl hcc hss
  dsimp only [pq_St_isLatin1_0] at hw
  have hx := hC.1
  have hb := hC.2.1
  refine wo_gstI hC sq_St_38 hS dq_St_isLatin1_0 ?_
  refine lv_if_eq (tgt := 17) hx hb dq_St_isLatin1_3 rfl (fun h => absurd h (by decide)) (fun _ => ?_)
  refine lv_aload_n hx hb dq_St_isLatin1_6 rfl (lx_at hl 0 rfl) ?_
  obtain ⟨t1, hw⟩ := hw
  refine wo_getI hC fq_St_15 rfl hG t1 dq_St_isLatin1_7 ?_
  refine lv_if_ne (tgt := 17) hx hb dq_St_isLatin1_10 rfl (fun h => ?_) (fun h => ?_)
  · replace hw := hw.1 h
    exact tq_St_isLatin1_17 hC hw hG hS (lx_sub hl [] rfl) hcc hss
  · replace hw := hw.2 h
    refine lv_iconst (v := (1 : Int32)) hx hb dq_St_isLatin1_13 rfl ?_
    refine lv_goto (tgt := 18) hx hb dq_St_isLatin1_14 rfl ?_
    exact tq_St_isLatin1_18 hC hw hG hS (lx_sub hl [] rfl) hcc hss
set_option maxHeartbeats 4000000 in
theorem mq_St_isLatin1 {l : Launch} {E : wo_E} {mc ms : Nat} {Post : Int32 → wo_W → Prop} {G : wo_W} {x0 : Nat} (hw : pq_St_isLatin1 E mc ms Post G x0) : Met l yq_St_isLatin1 (Cond.code yq_St_isLatin1 prog_22_method_154_code 1 ((Option.some Jvm.ClassFile.FieldType.boolean)) :: vw_WG) { frames := 0, cells := mc, slots := ms, locals := 0 } (va_Pc [.ref x0] (wo_Ok E G)) (va_Qi Post (wo_B E) (en_A E)) mc ms (en_A E) := by
  unfold pq_St_isLatin1 at hw
  exact wo_met [(1, .ref x0)] rfl (by decide) (fun q hq => by simp only [List.mem_cons, List.not_mem_nil, or_false] at hq; rcases hq with rfl <;> first | rfl | exact lx_cR _) (Nat.le_of_ble_eq_true rfl) (fun p e R s m args below meth cd ls hC hG hS hl => tq_St_isLatin1_0 hC hw hG hS (lx_sub hl [0] rfl) (Nat.zero_le _) (Nat.zero_le _))

theorem dq_Pc_checkIndex_0 : decode prog_37_method_11_code 0 = .ok (.iload_n 0, 1) := by decide +kernel
theorem dq_Pc_checkIndex_1 : decode prog_37_method_11_code 1 = .ok (.ifCond .lt 8, 3) := by decide +kernel
theorem dq_Pc_checkIndex_4 : decode prog_37_method_11_code 4 = .ok (.iload_n 0, 1) := by decide +kernel
theorem dq_Pc_checkIndex_5 : decode prog_37_method_11_code 5 = .ok (.iload_n 1, 1) := by decide +kernel
theorem dq_Pc_checkIndex_6 : decode prog_37_method_11_code 6 = .ok (.if_icmp .lt 10, 3) := by decide +kernel
theorem dq_Pc_checkIndex_16 : decode prog_37_method_11_code 16 = .ok (.iload_n 0, 1) := by decide +kernel
theorem dq_Pc_checkIndex_17 : decode prog_37_method_11_code 17 = .ok (.ireturn, 1) := by decide +kernel
set_option maxRecDepth 100000 in
def pq_Pc_checkIndex_0 (E : wo_E) (mc ms : Nat) (Post : Int32 → wo_W → Prop) (G : wo_W) (c s : Nat) (x0 : Int32) (x1 : Int32) (x2 : Option Nat) : Prop := ((x0 < (0 : Int32) → False) ∧
  (¬ x0 < (0 : Int32) → ((x0 < x1 → Post x0 G) ∧
    (¬ x0 < x1 → False))))
def pq_Pc_checkIndex (E : wo_E) (mc ms : Nat) (Post : Int32 → wo_W → Prop) (G : wo_W) (x0 : Int32) (x1 : Int32) (x2 : Option Nat) : Prop := pq_Pc_checkIndex_0 E mc ms Post G 0 0 x0 x1 x2
set_option maxRecDepth 100000 in
set_option maxHeartbeats 4000000 in
theorem tq_Pc_checkIndex_0 {p : Program} {l : Launch} {e : Env} {R : Room} {s₀ : State} {m : MethodId} {args : Array Value} {below : List Frame} {meth : Method} {cd : Code} {E : wo_E} {mc ms : Nat} {Post : Int32 → wo_W → Prop} (hC : wo_Cx E "jdk/internal/util/Preconditions" prog_37_method_11_code 3 0 0 ((Option.some Jvm.ClassFile.FieldType.int)) "checkIndex" mc ms p R s₀ m args meth cd) : ∀ {G : wo_W} {c s : Nat} {x0 : Int32} {x1 : Int32} {x2 : Option Nat}, pq_Pc_checkIndex_0 E mc ms Post G c s x0 x1 x2 → ∀ {H : Heap} {locs : List Loc} {ls : Array Slot}, wo_Se E G H → va_S (en_A E) s₀.heap H locs → lx_has ls 3 [(0, 1, .int x0), (1, 1, .int x1), (2, 1, va_rf x2)] → c ≤ mc → s ≤ ms → W p l e R s₀ m args below meth cd H locs c s (MQ below (va_Qi Post (wo_B E) (en_A E)) args s₀ mc ms (en_A E)) (F0 m 0 ls []) := by
  intro G c s x0 x1 x2 hw H locs ls hG hS hl hcc hss
  dsimp only [pq_Pc_checkIndex_0] at hw
  have hx := hC.1
  have hb := hC.2.1
  refine lv_iload_n hx hb dq_Pc_checkIndex_0 rfl (lx_at hl 0 rfl) ?_
  refine lv_if_lt (tgt := 9) hx hb dq_Pc_checkIndex_1 rfl (fun h => ?_) (fun h => ?_)
  · replace hw := hw.1 h
    exact hw.elim
  · replace hw := hw.2 h
    refine lv_iload_n hx hb dq_Pc_checkIndex_4 rfl (lx_at hl 0 rfl) ?_
    refine lv_iload_n hx hb dq_Pc_checkIndex_5 rfl (lx_at hl 1 rfl) ?_
    refine lv_icmp_lt (tgt := 16) hx hb dq_Pc_checkIndex_6 rfl (fun h => ?_) (fun h => ?_)
    · replace hw := hw.1 h
      refine lv_iload_n hx hb dq_Pc_checkIndex_16 rfl (lx_at hl 0 rfl) ?_
      exact wo_iret hC hG hS hcc hss hw dq_Pc_checkIndex_17
    · replace hw := hw.2 h
      exact hw.elim
set_option maxHeartbeats 4000000 in
theorem mq_Pc_checkIndex {l : Launch} {E : wo_E} {mc ms : Nat} {Post : Int32 → wo_W → Prop} {G : wo_W} {x0 : Int32} {x1 : Int32} {x2 : Option Nat} (hw : pq_Pc_checkIndex E mc ms Post G x0 x1 x2) : Met l yq_Pc_checkIndex (Cond.code yq_Pc_checkIndex prog_37_method_11_code 3 ((Option.some Jvm.ClassFile.FieldType.int)) :: vw_WG) { frames := 0, cells := mc, slots := ms, locals := 0 } (va_Pc [.int x0, .int x1, va_rf x2] (wo_Ok E G)) (va_Qi Post (wo_B E) (en_A E)) mc ms (en_A E) := by
  unfold pq_Pc_checkIndex at hw
  exact wo_met [(1, .int x0), (1, .int x1), (1, va_rf x2)] rfl (by decide) (fun q hq => by simp only [List.mem_cons, List.not_mem_nil, or_false] at hq; rcases hq with rfl | rfl | rfl <;> first | rfl | exact lx_cR _) (Nat.le_of_ble_eq_true rfl) (fun p e R s m args below meth cd ls hC hG hS hl => tq_Pc_checkIndex_0 hC hw hG hS (lx_sub hl [0, 1, 2] rfl) (Nat.zero_le _) (Nat.zero_le _))

theorem dq_St_checkIndex_0 : decode prog_22_method_155_code 0 = .ok (.iload_n 0, 1) := by decide +kernel
theorem dq_St_checkIndex_1 : decode prog_22_method_155_code 1 = .ok (.iload_n 1, 1) := by decide +kernel
theorem dq_St_checkIndex_2 : decode prog_22_method_155_code 2 = .ok (.getstatic 1053, 3) := by decide +kernel
theorem dq_St_checkIndex_5 : decode prog_22_method_155_code 5 = .ok (.invokestatic 1059, 3) := by decide +kernel
theorem dq_St_checkIndex_8 : decode prog_22_method_155_code 8 = .ok (.pop, 1) := by decide +kernel
theorem dq_St_checkIndex_9 : decode prog_22_method_155_code 9 = .ok (.return_, 1) := by decide +kernel
set_option maxRecDepth 100000 in
def pq_St_checkIndex_0 (E : wo_E) (mc ms : Nat) (Post : wo_W → Prop) (G : wo_W) (c s : Nat) (x0 : Int32) (x1 : Int32) : Prop := ∀ r1 : Option Nat, ∃ mc2 ms3 : Nat, (c + mc2) ≤ mc ∧ (s + ms3) ≤ ms ∧ pq_Pc_checkIndex E mc2 ms3 (fun v5 G4 => 
  Post G4) G x0 x1 r1
def pq_St_checkIndex (E : wo_E) (mc ms : Nat) (Post : wo_W → Prop) (G : wo_W) (x0 : Int32) (x1 : Int32) : Prop := pq_St_checkIndex_0 E mc ms Post G 0 0 x0 x1
set_option maxRecDepth 100000 in
set_option maxHeartbeats 4000000 in
theorem tq_St_checkIndex_0 {p : Program} {l : Launch} {e : Env} {R : Room} {s₀ : State} {m : MethodId} {args : Array Value} {below : List Frame} {meth : Method} {cd : Code} {E : wo_E} {mc ms : Nat} {Post : wo_W → Prop} (hC : wo_Cx E "java/lang/String" prog_22_method_155_code 2 1 22 ((Option.none : Option Jvm.ClassFile.FieldType)) "checkIndex" mc ms p R s₀ m args meth cd) : ∀ {G : wo_W} {c s : Nat} {x0 : Int32} {x1 : Int32}, pq_St_checkIndex_0 E mc ms Post G c s x0 x1 → ∀ {H : Heap} {locs : List Loc} {ls : Array Slot}, wo_Se E G H → va_S (en_A E) s₀.heap H locs → lx_has ls 2 [(0, 1, .int x0), (1, 1, .int x1)] → c ≤ mc → s ≤ ms → W p l e R s₀ m args below meth cd H locs c s (MQ below (va_Qv Post (wo_B E) (en_A E)) args s₀ mc ms (en_A E)) (F0 m 0 ls []) := by
  intro G c s x0 x1 hw H locs ls hG hS hl hcc hss
  dsimp only [pq_St_checkIndex_0] at hw
  have hx := hC.1
  have hb := hC.2.1
  refine lv_iload_n hx hb dq_St_checkIndex_0 rfl (lx_at hl 0 rfl) ?_
  refine lv_iload_n hx hb dq_St_checkIndex_1 rfl (lx_at hl 1 rfl) ?_
  refine wo_gstR hC sq_St_1053 hS dq_St_checkIndex_2 (fun r1 => ?_)
  replace hw := hw r1
  obtain ⟨mc2, ms3, hc1, hs1, hw⟩ := hw
  refine va_calli (wo_runS hC lq_St_1059 (mq_Pc_checkIndex hw) hG hS rfl (lx_sz hl) rfl (Nat.zero_le _) (by decide) dq_St_checkIndex_5 ⟨hc1, hs1⟩) hS (fun _ _ h => h) (fun _ h => h) (fun v5 G4 t H locs ht hvm hw' hB _ _ hS => ?_)
  clear hw
  have hw := hw'
  clear hw'
  replace hG := wo_bk ht hB
  replace hcc := hc1
  replace hss := hs1
  refine lv_pop hx hb dq_St_checkIndex_8 rfl ?_
  exact wo_vret hC hG hS hcc hss hw dq_St_checkIndex_9
set_option maxHeartbeats 4000000 in
theorem mq_St_checkIndex {l : Launch} {E : wo_E} {mc ms : Nat} {Post : wo_W → Prop} {G : wo_W} {x0 : Int32} {x1 : Int32} (hw : pq_St_checkIndex E mc ms Post G x0 x1) : Met l yq_St_checkIndex (Cond.code yq_St_checkIndex prog_22_method_155_code 2 ((Option.none : Option Jvm.ClassFile.FieldType)) :: vw_WG) { frames := 1, cells := mc, slots := ms, locals := 22 } (va_Pc [.int x0, .int x1] (wo_Ok E G)) (va_Qv Post (wo_B E) (en_A E)) mc ms (en_A E) := by
  unfold pq_St_checkIndex at hw
  exact wo_met [(1, .int x0), (1, .int x1)] rfl (by decide) (fun q hq => by simp only [List.mem_cons, List.not_mem_nil, or_false] at hq; rcases hq with rfl | rfl <;> first | rfl | exact lx_cR _) (Nat.le_of_ble_eq_true rfl) (fun p e R s m args below meth cd ls hC hG hS hl => tq_St_checkIndex_0 hC hw hG hS (lx_sub hl [0, 1] rfl) (Nat.zero_le _) (Nat.zero_le _))

theorem dq_La_charAt_0 : decode prog_24_method_2_code 0 = .ok (.iload_n 1, 1) := by decide +kernel
theorem dq_La_charAt_1 : decode prog_24_method_2_code 1 = .ok (.aload_n 0, 1) := by decide +kernel
theorem dq_La_charAt_2 : decode prog_24_method_2_code 2 = .ok (.arraylength, 1) := by decide +kernel
theorem dq_La_charAt_3 : decode prog_24_method_2_code 3 = .ok (.invokestatic 9, 3) := by decide +kernel
theorem dq_La_charAt_6 : decode prog_24_method_2_code 6 = .ok (.aload_n 0, 1) := by decide +kernel
theorem dq_La_charAt_7 : decode prog_24_method_2_code 7 = .ok (.iload_n 1, 1) := by decide +kernel
theorem dq_La_charAt_8 : decode prog_24_method_2_code 8 = .ok (.baload, 1) := by decide +kernel
theorem dq_La_charAt_9 : decode prog_24_method_2_code 9 = .ok (.sipush 255, 3) := by decide +kernel
theorem dq_La_charAt_12 : decode prog_24_method_2_code 12 = .ok (.iand, 1) := by decide +kernel
theorem dq_La_charAt_13 : decode prog_24_method_2_code 13 = .ok (.i2c, 1) := by decide +kernel
theorem dq_La_charAt_14 : decode prog_24_method_2_code 14 = .ok (.ireturn, 1) := by decide +kernel
set_option maxRecDepth 100000 in
def pq_La_charAt_0 (E : wo_E) (mc ms : Nat) (Post : Int32 → wo_W → Prop) (G : wo_W) (c s : Nat) (x0 : Option Nat) (x1 : Int32) : Prop := ∃ a1 : Nat, x0 = some a1 ∧ wo_ty G a1 = 65 ∧ ∃ mc3 ms4 : Nat, (c + mc3) ≤ mc ∧ (s + ms4) ≤ ms ∧ pq_St_checkIndex E mc3 ms4 (fun G5 => 
  wo_ty G5 a1 = 65 ∧ vp_in x1 (wo_len G5 a1) ∧ wo_okI .char (wo_i2c ((wo_ei G5 a1 x1.toNatClampNeg) &&& (255 : Int32))) ∧ Post (wo_i2c ((wo_ei G5 a1 x1.toNatClampNeg) &&& (255 : Int32))) G5) G x1 (nI (wo_len G a1))
def pq_La_charAt (E : wo_E) (mc ms : Nat) (Post : Int32 → wo_W → Prop) (G : wo_W) (x0 : Option Nat) (x1 : Int32) : Prop := pq_La_charAt_0 E mc ms Post G 0 0 x0 x1
set_option maxRecDepth 100000 in
set_option maxHeartbeats 4000000 in
theorem tq_La_charAt_0 {p : Program} {l : Launch} {e : Env} {R : Room} {s₀ : State} {m : MethodId} {args : Array Value} {below : List Frame} {meth : Method} {cd : Code} {E : wo_E} {mc ms : Nat} {Post : Int32 → wo_W → Prop} (hC : wo_Cx E "java/lang/StringLatin1" prog_24_method_2_code 2 2 43 ((Option.some Jvm.ClassFile.FieldType.char)) "charAt" mc ms p R s₀ m args meth cd) : ∀ {G : wo_W} {c s : Nat} {x0 : Option Nat} {x1 : Int32}, pq_La_charAt_0 E mc ms Post G c s x0 x1 → ∀ {H : Heap} {locs : List Loc} {ls : Array Slot}, wo_Se E G H → va_S (en_A E) s₀.heap H locs → lx_has ls 2 [(0, 1, va_rf x0), (1, 1, .int x1)] → c ≤ mc → s ≤ ms → W p l e R s₀ m args below meth cd H locs c s (MQ below (va_Qi Post (wo_B E) (en_A E)) args s₀ mc ms (en_A E)) (F0 m 0 ls []) := by
  intro G c s x0 x1 hw H locs ls hG hS hl hcc hss
  dsimp only [pq_La_charAt_0] at hw
  have hx := hC.1
  have hb := hC.2.1
  refine lv_iload_n hx hb dq_La_charAt_0 rfl (lx_at hl 1 rfl) ?_
  refine lx_aloadR_n hx hb dq_La_charAt_1 rfl (lx_at hl 0 rfl) ?_
  obtain ⟨a1, rfl, hw⟩ := hw
  obtain ⟨t2, hw⟩ := hw
  refine wo_alen (j := 1) hC rfl hG t2 dq_La_charAt_2 ?_
  obtain ⟨mc3, ms4, hc1, hs1, hw⟩ := hw
  refine va_callv (wo_runS hC lq_La_9 (mq_St_checkIndex hw) hG hS rfl (lx_sz hl) rfl (Nat.zero_le _) (by decide) dq_La_charAt_3 ⟨hc1, hs1⟩) hS (fun _ _ h => h) (fun _ h => h) (fun G5 t H locs ht hvm hw' hB _ _ hS => ?_)
  clear hw
  have hw := hw'
  clear hw'
  replace hG := wo_bk ht hB
  replace hcc := hc1
  replace hss := hs1
  refine lv_aload_n hx hb dq_La_charAt_6 rfl (lx_at hl 0 rfl) ?_
  refine lv_iload_n hx hb dq_La_charAt_7 rfl (lx_at hl 1 rfl) ?_
  obtain ⟨t6, hw⟩ := hw
  obtain ⟨h7, hw⟩ := hw
  refine wo_bald (j := 1) hC rfl hG t6 h7 dq_La_charAt_8 ?_
  refine lv_sipush (v := (255 : Int32)) hx hb dq_La_charAt_9 rfl ?_
  refine lv_iand hx hb dq_La_charAt_12 ?_
  refine lv_i2c (v := (wo_i2c ((wo_ei G5 a1 x1.toNatClampNeg) &&& (255 : Int32)))) hx hb dq_La_charAt_13 rfl ?_
  obtain ⟨h8, hw⟩ := hw
  exact wo_zret hC h8.1 hG hS hcc hss hw dq_La_charAt_14
set_option maxHeartbeats 4000000 in
theorem mq_La_charAt {l : Launch} {E : wo_E} {mc ms : Nat} {Post : Int32 → wo_W → Prop} {G : wo_W} {x0 : Option Nat} {x1 : Int32} (hw : pq_La_charAt E mc ms Post G x0 x1) : Met l yq_La_charAt (Cond.code yq_La_charAt prog_24_method_2_code 2 ((Option.some Jvm.ClassFile.FieldType.char)) :: vw_WG) { frames := 2, cells := mc, slots := ms, locals := 43 } (va_Pc [va_rf x0, .int x1] (wo_Ok E G)) (va_Qi Post (wo_B E) (en_A E)) mc ms (en_A E) := by
  unfold pq_La_charAt at hw
  exact wo_met [(1, va_rf x0), (1, .int x1)] rfl (by decide) (fun q hq => by simp only [List.mem_cons, List.not_mem_nil, or_false] at hq; rcases hq with rfl | rfl <;> first | rfl | exact lx_cR _) (Nat.le_of_ble_eq_true rfl) (fun p e R s m args below meth cd ls hC hG hS hl => tq_La_charAt_0 hC hw hG hS (lx_sub hl [0, 1] rfl) (Nat.zero_le _) (Nat.zero_le _))

theorem dq_St_charAt_0 : decode prog_22_method_56_code 0 = .ok (.aload_n 0, 1) := by decide +kernel
theorem dq_St_charAt_1 : decode prog_22_method_56_code 1 = .ok (.invokevirtual 492, 3) := by decide +kernel
theorem dq_St_charAt_4 : decode prog_22_method_56_code 4 = .ok (.ifCond .eq 12, 3) := by decide +kernel
theorem dq_St_charAt_7 : decode prog_22_method_56_code 7 = .ok (.aload_n 0, 1) := by decide +kernel
theorem dq_St_charAt_8 : decode prog_22_method_56_code 8 = .ok (.getfield 9, 3) := by decide +kernel
theorem dq_St_charAt_11 : decode prog_22_method_56_code 11 = .ok (.iload_n 1, 1) := by decide +kernel
theorem dq_St_charAt_12 : decode prog_22_method_56_code 12 = .ok (.invokestatic 495, 3) := by decide +kernel
theorem dq_St_charAt_15 : decode prog_22_method_56_code 15 = .ok (.ireturn, 1) := by decide +kernel
set_option maxRecDepth 100000 in
def pq_St_charAt_0 (E : wo_E) (mc ms : Nat) (Post : Int32 → wo_W → Prop) (G : wo_W) (c s : Nat) (x0 : Nat) (x1 : Int32) : Prop := wo_ty G x0 = 10 ∧ ∃ mc2 ms3 : Nat, (c + mc2) ≤ mc ∧ (s + ms3) ≤ ms ∧ pq_St_isLatin1 E mc2 ms3 (fun v5 G4 => 
  ((v5 = (0 : Int32) → False) ∧
    (¬ v5 = (0 : Int32) → wo_ty G4 x0 = 10 ∧ ∀ r7 : Option Nat, r7 = wo_gr G4 576 x0 → ∃ mc9 ms10 : Nat, ((c + mc2) + mc9) ≤ mc ∧ ((s + ms3) + ms10) ≤ ms ∧ pq_La_charAt E mc9 ms10 (fun v12 G11 => 
      wo_okI .char v12 ∧ Post v12 G11) G4 r7 x1))) G x0
def pq_St_charAt (E : wo_E) (mc ms : Nat) (Post : Int32 → wo_W → Prop) (G : wo_W) (x0 : Nat) (x1 : Int32) : Prop := pq_St_charAt_0 E mc ms Post G 0 0 x0 x1
set_option maxRecDepth 100000 in
set_option maxHeartbeats 4000000 in
theorem tq_St_charAt_0 {p : Program} {l : Launch} {e : Env} {R : Room} {s₀ : State} {m : MethodId} {args : Array Value} {below : List Frame} {meth : Method} {cd : Code} {E : wo_E} {mc ms : Nat} {Post : Int32 → wo_W → Prop} (hC : wo_Cx E "java/lang/String" prog_22_method_56_code 2 3 64 ((Option.some Jvm.ClassFile.FieldType.char)) "charAt" mc ms p R s₀ m args meth cd) : ∀ {G : wo_W} {c s : Nat} {x0 : Nat} {x1 : Int32}, pq_St_charAt_0 E mc ms Post G c s x0 x1 → ∀ {H : Heap} {locs : List Loc} {ls : Array Slot}, wo_Se E G H → va_S (en_A E) s₀.heap H locs → lx_has ls 2 [(0, 1, .ref x0), (1, 1, .int x1)] → c ≤ mc → s ≤ ms → W p l e R s₀ m args below meth cd H locs c s (MQ below (va_Qi Post (wo_B E) (en_A E)) args s₀ mc ms (en_A E)) (F0 m 0 ls []) := by
  intro G c s x0 x1 hw H locs ls hG hS hl hcc hss
  dsimp only [pq_St_charAt_0] at hw
  have hx := hC.1
  have hb := hC.2.1
  refine lv_aload_n hx hb dq_St_charAt_0 rfl (lx_at hl 0 rfl) ?_
  obtain ⟨t1, hw⟩ := hw
  obtain ⟨mc2, ms3, hc1, hs1, hw⟩ := hw
  refine va_calli (wo_runV hC lq_St_492 (mq_St_isLatin1 hw) hG hS t1 rfl (lx_sz hl) rfl (Nat.zero_le _) (by decide) dq_St_charAt_1 ⟨hc1, hs1⟩) hS (fun _ _ h => h) (fun _ h => h) (fun v5 G4 t H locs ht hvm hw' hB _ _ hS => ?_)
  clear hw
  have hw := hw'
  clear hw'
  replace hG := wo_bk ht hB
  replace hcc := hc1
  replace hss := hs1
  refine lv_if_eq (tgt := 16) hx hb dq_St_charAt_4 rfl (fun h => ?_) (fun h => ?_)
  · replace hw := hw.1 h
    exact hw.elim
  · replace hw := hw.2 h
    refine lv_aload_n hx hb dq_St_charAt_7 rfl (lx_at hl 0 rfl) ?_
    obtain ⟨t6, hw⟩ := hw
    refine wo_getR hC fq_St_9 rfl hG t6 dq_St_charAt_8 (fun r7 e8 => ?_)
    replace hw := hw r7 e8
    refine lv_iload_n hx hb dq_St_charAt_11 rfl (lx_at hl 1 rfl) ?_
    obtain ⟨mc9, ms10, hc1, hs1, hw⟩ := hw
    refine va_calli (wo_runS hC lq_St_495 (mq_La_charAt hw) hG hS rfl (lx_sz hl) rfl (Nat.zero_le _) (by decide) dq_St_charAt_12 ⟨hc1, hs1⟩) hS (fun _ _ h => h) (fun _ h => h) (fun v12 G11 t H locs ht hvm hw' hB _ _ hS => ?_)
    clear hw
    have hw := hw'
    clear hw'
    replace hG := wo_bk ht hB
    replace hcc := hc1
    replace hss := hs1
    obtain ⟨h13, hw⟩ := hw
    exact wo_zret hC h13.1 hG hS hcc hss hw dq_St_charAt_15
set_option maxHeartbeats 4000000 in
theorem mq_St_charAt {l : Launch} {E : wo_E} {mc ms : Nat} {Post : Int32 → wo_W → Prop} {G : wo_W} {x0 : Nat} {x1 : Int32} (hw : pq_St_charAt E mc ms Post G x0 x1) : Met l yq_St_charAt (Cond.code yq_St_charAt prog_22_method_56_code 2 ((Option.some Jvm.ClassFile.FieldType.char)) :: vw_WG) { frames := 3, cells := mc, slots := ms, locals := 64 } (va_Pc [.ref x0, .int x1] (wo_Ok E G)) (va_Qi Post (wo_B E) (en_A E)) mc ms (en_A E) := by
  unfold pq_St_charAt at hw
  exact wo_met [(1, .ref x0), (1, .int x1)] rfl (by decide) (fun q hq => by simp only [List.mem_cons, List.not_mem_nil, or_false] at hq; rcases hq with rfl | rfl <;> first | rfl | exact lx_cR _) (Nat.le_of_ble_eq_true rfl) (fun p e R s m args below meth cd ls hC hG hS hl => tq_St_charAt_0 hC hw hG hS (lx_sub hl [0, 1] rfl) (Nat.zero_le _) (Nat.zero_le _))

theorem dq_St_coder_0 : decode prog_22_method_152_code 0 = .ok (.getstatic 38, 3) := by decide +kernel
theorem dq_St_coder_3 : decode prog_22_method_152_code 3 = .ok (.ifCond .eq 10, 3) := by decide +kernel
theorem dq_St_coder_6 : decode prog_22_method_152_code 6 = .ok (.aload_n 0, 1) := by decide +kernel
theorem dq_St_coder_7 : decode prog_22_method_152_code 7 = .ok (.getfield 15, 3) := by decide +kernel
theorem dq_St_coder_10 : decode prog_22_method_152_code 10 = .ok (.goto 4, 3) := by decide +kernel
theorem dq_St_coder_13 : decode prog_22_method_152_code 13 = .ok (.iconst 1, 1) := by decide +kernel
theorem dq_St_coder_14 : decode prog_22_method_152_code 14 = .ok (.ireturn, 1) := by decide +kernel
set_option maxRecDepth 100000 in
def pq_St_coder_14 (E : wo_E) (mc ms : Nat) (Post : Int32 → wo_W → Prop) (G : wo_W) (c s : Nat) (y0 : Int32) : Prop := wo_okI .byte y0 ∧ Post y0 G
set_option maxRecDepth 100000 in
def pq_St_coder_0 (E : wo_E) (mc ms : Nat) (Post : Int32 → wo_W → Prop) (G : wo_W) (c s : Nat) (x0 : Nat) : Prop := wo_ty G x0 = 10 ∧ pq_St_coder_14 E mc ms Post G c s (wo_gi G 577 x0)
def pq_St_coder (E : wo_E) (mc ms : Nat) (Post : Int32 → wo_W → Prop) (G : wo_W) (x0 : Nat) : Prop := pq_St_coder_0 E mc ms Post G 0 0 x0
set_option maxRecDepth 100000 in
set_option maxHeartbeats 4000000 in
theorem tq_St_coder_14 {p : Program} {l : Launch} {e : Env} {R : Room} {s₀ : State} {m : MethodId} {args : Array Value} {below : List Frame} {meth : Method} {cd : Code} {E : wo_E} {mc ms : Nat} {Post : Int32 → wo_W → Prop} (hC : wo_Cx E "java/lang/String" prog_22_method_152_code 1 0 0 ((Option.some Jvm.ClassFile.FieldType.byte)) "coder" mc ms p R s₀ m args meth cd) : ∀ {G : wo_W} {c s : Nat} {y0 : Int32}, pq_St_coder_14 E mc ms Post G c s y0 → ∀ {H : Heap} {locs : List Loc} {ls : Array Slot}, wo_Se E G H → va_S (en_A E) s₀.heap H locs → lx_has ls 1 [] → c ≤ mc → s ≤ ms → W p l e R s₀ m args below meth cd H locs c s (MQ below (va_Qi Post (wo_B E) (en_A E)) args s₀ mc ms (en_A E)) (F0 m 14 ls [.int y0]) := by
  intro G c s y0 hw H locs ls hG hS hl hcc hss
  dsimp only [pq_St_coder_14] at hw
  have hx := hC.1
  have hb := hC.2.1
  obtain ⟨h1, hw⟩ := hw
  exact wo_zret hC h1.1 hG hS hcc hss hw dq_St_coder_14
set_option maxRecDepth 100000 in
set_option maxHeartbeats 4000000 in
theorem tq_St_coder_0 {p : Program} {l : Launch} {e : Env} {R : Room} {s₀ : State} {m : MethodId} {args : Array Value} {below : List Frame} {meth : Method} {cd : Code} {E : wo_E} {mc ms : Nat} {Post : Int32 → wo_W → Prop} (hC : wo_Cx E "java/lang/String" prog_22_method_152_code 1 0 0 ((Option.some Jvm.ClassFile.FieldType.byte)) "coder" mc ms p R s₀ m args meth cd) : ∀ {G : wo_W} {c s : Nat} {x0 : Nat}, pq_St_coder_0 E mc ms Post G c s x0 → ∀ {H : Heap} {locs : List Loc} {ls : Array Slot}, wo_Se E G H → va_S (en_A E) s₀.heap H locs → lx_has ls 1 [(0, 1, .ref x0)] → c ≤ mc → s ≤ ms → W p l e R s₀ m args below meth cd H locs c s (MQ below (va_Qi Post (wo_B E) (en_A E)) args s₀ mc ms (en_A E)) (F0 m 0 ls []) := by
  intro G c s x0 hw H locs ls hG hS hl hcc hss
  dsimp only [pq_St_coder_0] at hw
  have hx := hC.1
  have hb := hC.2.1
  refine wo_gstI hC sq_St_38 hS dq_St_coder_0 ?_
  refine lv_if_eq (tgt := 13) hx hb dq_St_coder_3 rfl (fun h => absurd h (by decide)) (fun _ => ?_)
  refine lv_aload_n hx hb dq_St_coder_6 rfl (lx_at hl 0 rfl) ?_
  obtain ⟨t1, hw⟩ := hw
  refine wo_getI hC fq_St_15 rfl hG t1 dq_St_coder_7 ?_
  refine lv_goto (tgt := 14) hx hb dq_St_coder_10 rfl ?_
  exact tq_St_coder_14 hC hw hG hS (lx_sub hl [] rfl) hcc hss
set_option maxHeartbeats 4000000 in
theorem mq_St_coder {l : Launch} {E : wo_E} {mc ms : Nat} {Post : Int32 → wo_W → Prop} {G : wo_W} {x0 : Nat} (hw : pq_St_coder E mc ms Post G x0) : Met l yq_St_coder (Cond.code yq_St_coder prog_22_method_152_code 1 ((Option.some Jvm.ClassFile.FieldType.byte)) :: vw_WG) { frames := 0, cells := mc, slots := ms, locals := 0 } (va_Pc [.ref x0] (wo_Ok E G)) (va_Qi Post (wo_B E) (en_A E)) mc ms (en_A E) := by
  unfold pq_St_coder at hw
  exact wo_met [(1, .ref x0)] rfl (by decide) (fun q hq => by simp only [List.mem_cons, List.not_mem_nil, or_false] at hq; rcases hq with rfl <;> first | rfl | exact lx_cR _) (Nat.le_of_ble_eq_true rfl) (fun p e R s m args below meth cd ls hC hG hS hl => tq_St_coder_0 hC hw hG hS (lx_sub hl [0] rfl) (Nat.zero_le _) (Nat.zero_le _))

theorem dq_St_length_0 : decode prog_22_method_54_code 0 = .ok (.aload_n 0, 1) := by decide +kernel
theorem dq_St_length_1 : decode prog_22_method_54_code 1 = .ok (.getfield 9, 3) := by decide +kernel
theorem dq_St_length_4 : decode prog_22_method_54_code 4 = .ok (.arraylength, 1) := by decide +kernel
theorem dq_St_length_5 : decode prog_22_method_54_code 5 = .ok (.aload_n 0, 1) := by decide +kernel
theorem dq_St_length_6 : decode prog_22_method_54_code 6 = .ok (.invokevirtual 335, 3) := by decide +kernel
theorem dq_St_length_9 : decode prog_22_method_54_code 9 = .ok (.ishr, 1) := by decide +kernel
theorem dq_St_length_10 : decode prog_22_method_54_code 10 = .ok (.ireturn, 1) := by decide +kernel
set_option maxRecDepth 100000 in
def pq_St_length_0 (E : wo_E) (mc ms : Nat) (Post : Int32 → wo_W → Prop) (G : wo_W) (c s : Nat) (x0 : Nat) : Prop := wo_ty G x0 = 10 ∧ ∀ r2 : Option Nat, r2 = wo_gr G 576 x0 → ∃ a4 : Nat, r2 = some a4 ∧ wo_ty G a4 = 65 ∧ ∃ mc6 ms7 : Nat, (c + mc6) ≤ mc ∧ (s + ms7) ≤ ms ∧ pq_St_coder E mc6 ms7 (fun v9 G8 => 
  Post ((nI (wo_len G a4)) >>> (v9 &&& 31)) G8) G x0
def pq_St_length (E : wo_E) (mc ms : Nat) (Post : Int32 → wo_W → Prop) (G : wo_W) (x0 : Nat) : Prop := pq_St_length_0 E mc ms Post G 0 0 x0
set_option maxRecDepth 100000 in
set_option maxHeartbeats 4000000 in
theorem tq_St_length_0 {p : Program} {l : Launch} {e : Env} {R : Room} {s₀ : State} {m : MethodId} {args : Array Value} {below : List Frame} {meth : Method} {cd : Code} {E : wo_E} {mc ms : Nat} {Post : Int32 → wo_W → Prop} (hC : wo_Cx E "java/lang/String" prog_22_method_54_code 1 1 20 ((Option.some Jvm.ClassFile.FieldType.int)) "length" mc ms p R s₀ m args meth cd) : ∀ {G : wo_W} {c s : Nat} {x0 : Nat}, pq_St_length_0 E mc ms Post G c s x0 → ∀ {H : Heap} {locs : List Loc} {ls : Array Slot}, wo_Se E G H → va_S (en_A E) s₀.heap H locs → lx_has ls 1 [(0, 1, .ref x0)] → c ≤ mc → s ≤ ms → W p l e R s₀ m args below meth cd H locs c s (MQ below (va_Qi Post (wo_B E) (en_A E)) args s₀ mc ms (en_A E)) (F0 m 0 ls []) := by
  intro G c s x0 hw H locs ls hG hS hl hcc hss
  dsimp only [pq_St_length_0] at hw
  have hx := hC.1
  have hb := hC.2.1
  refine lv_aload_n hx hb dq_St_length_0 rfl (lx_at hl 0 rfl) ?_
  obtain ⟨t1, hw⟩ := hw
  refine wo_getR hC fq_St_9 rfl hG t1 dq_St_length_1 (fun r2 e3 => ?_)
  replace hw := hw r2 e3
  obtain ⟨a4, rfl, hw⟩ := hw
  obtain ⟨t5, hw⟩ := hw
  refine wo_alen (j := 1) hC rfl hG t5 dq_St_length_4 ?_
  refine lv_aload_n hx hb dq_St_length_5 rfl (lx_at hl 0 rfl) ?_
  obtain ⟨mc6, ms7, hc1, hs1, hw⟩ := hw
  refine va_calli (wo_runV hC lq_St_335 (mq_St_coder hw) hG hS t1 rfl (lx_sz hl) rfl (lx_rm (Nat.le_of_ble_eq_true rfl)) (by decide) dq_St_length_6 ⟨hc1, hs1⟩) hS (fun _ _ h => h) (fun _ h => h) (fun v9 G8 t H locs ht hvm hw' hB _ _ hS => ?_)
  clear hw
  have hw := hw'
  clear hw'
  replace hG := wo_bk ht hB
  replace hcc := hc1
  replace hss := hs1
  refine lv_ishr hx hb dq_St_length_9 ?_
  exact wo_iret hC hG hS hcc hss hw dq_St_length_10
set_option maxHeartbeats 4000000 in
theorem mq_St_length {l : Launch} {E : wo_E} {mc ms : Nat} {Post : Int32 → wo_W → Prop} {G : wo_W} {x0 : Nat} (hw : pq_St_length E mc ms Post G x0) : Met l yq_St_length (Cond.code yq_St_length prog_22_method_54_code 1 ((Option.some Jvm.ClassFile.FieldType.int)) :: vw_WG) { frames := 1, cells := mc, slots := ms, locals := 20 } (va_Pc [.ref x0] (wo_Ok E G)) (va_Qi Post (wo_B E) (en_A E)) mc ms (en_A E) := by
  unfold pq_St_length at hw
  exact wo_met [(1, .ref x0)] rfl (by decide) (fun q hq => by simp only [List.mem_cons, List.not_mem_nil, or_false] at hq; rcases hq with rfl <;> first | rfl | exact lx_cR _) (Nat.le_of_ble_eq_true rfl) (fun p e R s m args below meth cd ls hC hG hS hl => tq_St_length_0 hC hw hG hS (lx_sub hl [0] rfl) (Nat.zero_le _) (Nat.zero_le _))

theorem dq_Tx_whole_0 : decode prog_12_method_4_code 0 = .ok (.iload_n 1, 1) := by decide +kernel
theorem dq_Tx_whole_1 : decode prog_12_method_4_code 1 = .ok (.iload_n 2, 1) := by decide +kernel
theorem dq_Tx_whole_2 : decode prog_12_method_4_code 2 = .ok (.if_icmp .ge 7, 3) := by decide +kernel
theorem dq_Tx_whole_5 : decode prog_12_method_4_code 5 = .ok (.iconst 0, 1) := by decide +kernel
theorem dq_Tx_whole_6 : decode prog_12_method_4_code 6 = .ok (.goto 4, 3) := by decide +kernel
theorem dq_Tx_whole_9 : decode prog_12_method_4_code 9 = .ok (.iconst (-1), 1) := by decide +kernel
theorem dq_Tx_whole_10 : decode prog_12_method_4_code 10 = .ok (.istore_n 3, 1) := by decide +kernel
theorem dq_Tx_whole_11 : decode prog_12_method_4_code 11 = .ok (.iload_n 1, 1) := by decide +kernel
theorem dq_Tx_whole_12 : decode prog_12_method_4_code 12 = .ok (.istore 4, 2) := by decide +kernel
theorem dq_Tx_whole_14 : decode prog_12_method_4_code 14 = .ok (.iload 4, 2) := by decide +kernel
theorem dq_Tx_whole_16 : decode prog_12_method_4_code 16 = .ok (.iload_n 2, 1) := by decide +kernel
theorem dq_Tx_whole_17 : decode prog_12_method_4_code 17 = .ok (.if_icmp .ge 51, 3) := by decide +kernel
theorem dq_Tx_whole_20 : decode prog_12_method_4_code 20 = .ok (.iload 4, 2) := by decide +kernel
theorem dq_Tx_whole_22 : decode prog_12_method_4_code 22 = .ok (.aload_n 0, 1) := by decide +kernel
theorem dq_Tx_whole_23 : decode prog_12_method_4_code 23 = .ok (.invokevirtual 15, 3) := by decide +kernel
theorem dq_Tx_whole_26 : decode prog_12_method_4_code 26 = .ok (.if_icmp .ge 42, 3) := by decide +kernel
theorem dq_Tx_whole_29 : decode prog_12_method_4_code 29 = .ok (.aload_n 0, 1) := by decide +kernel
theorem dq_Tx_whole_30 : decode prog_12_method_4_code 30 = .ok (.iload 4, 2) := by decide +kernel
theorem dq_Tx_whole_32 : decode prog_12_method_4_code 32 = .ok (.invokevirtual 21, 3) := by decide +kernel
theorem dq_Tx_whole_35 : decode prog_12_method_4_code 35 = .ok (.bipush 48, 2) := by decide +kernel
theorem dq_Tx_whole_37 : decode prog_12_method_4_code 37 = .ok (.isub, 1) := by decide +kernel
theorem dq_Tx_whole_38 : decode prog_12_method_4_code 38 = .ok (.istore 5, 2) := by decide +kernel
theorem dq_Tx_whole_40 : decode prog_12_method_4_code 40 = .ok (.iload 5, 2) := by decide +kernel
theorem dq_Tx_whole_42 : decode prog_12_method_4_code 42 = .ok (.ifCond .lt 10, 3) := by decide +kernel
theorem dq_Tx_whole_45 : decode prog_12_method_4_code 45 = .ok (.iload 5, 2) := by decide +kernel
theorem dq_Tx_whole_47 : decode prog_12_method_4_code 47 = .ok (.bipush 9, 2) := by decide +kernel
theorem dq_Tx_whole_49 : decode prog_12_method_4_code 49 = .ok (.if_icmp .le 5, 3) := by decide +kernel
theorem dq_Tx_whole_52 : decode prog_12_method_4_code 52 = .ok (.iconst (-1), 1) := by decide +kernel
theorem dq_Tx_whole_53 : decode prog_12_method_4_code 53 = .ok (.ireturn, 1) := by decide +kernel
theorem dq_Tx_whole_54 : decode prog_12_method_4_code 54 = .ok (.iload_n 3, 1) := by decide +kernel
theorem dq_Tx_whole_55 : decode prog_12_method_4_code 55 = .ok (.bipush 10, 2) := by decide +kernel
theorem dq_Tx_whole_57 : decode prog_12_method_4_code 57 = .ok (.imul, 1) := by decide +kernel
theorem dq_Tx_whole_58 : decode prog_12_method_4_code 58 = .ok (.iload 5, 2) := by decide +kernel
theorem dq_Tx_whole_60 : decode prog_12_method_4_code 60 = .ok (.iadd, 1) := by decide +kernel
theorem dq_Tx_whole_61 : decode prog_12_method_4_code 61 = .ok (.istore_n 3, 1) := by decide +kernel
theorem dq_Tx_whole_62 : decode prog_12_method_4_code 62 = .ok (.iinc 4 1, 3) := by decide +kernel
theorem dq_Tx_whole_65 : decode prog_12_method_4_code 65 = .ok (.goto (-51), 3) := by decide +kernel
theorem dq_Tx_whole_68 : decode prog_12_method_4_code 68 = .ok (.iload_n 3, 1) := by decide +kernel
theorem dq_Tx_whole_69 : decode prog_12_method_4_code 69 = .ok (.ireturn, 1) := by decide +kernel
set_option maxRecDepth 100000 in
def pq_Tx_whole_68 (E : wo_E) (mc ms : Nat) (Post : Int32 → wo_W → Prop) (G : wo_W) (c s : Nat) (x3 : Int32) : Prop := Post x3 G
set_option maxRecDepth 100000 in
def pq_Tx_whole_52 (E : wo_E) (mc ms : Nat) (Post : Int32 → wo_W → Prop) (G : wo_W) (c s : Nat) : Prop := Post (-1 : Int32) G
set_option maxRecDepth 100000 in
def pq_Tx_whole_14 (E : wo_E) (mc ms : Nat) (Post : Int32 → wo_W → Prop) : Nat → wo_W → Nat → Nat → Option Nat → Int32 → Int32 → Int32 → Prop
  | 0 => fun _ _ _ _ _ _ _ => False
  | n + 1 => fun G c s x0 x2 x3 x4 => ((x2 ≤ x4 → pq_Tx_whole_68 E mc ms Post G c s x3) ∧
  (¬ x2 ≤ x4 → ∃ a1 : Nat, x0 = some a1 ∧ wo_ty G a1 = 10 ∧ ∃ mc3 ms4 : Nat, (c + mc3) ≤ mc ∧ (s + ms4) ≤ ms ∧ pq_St_length E mc3 ms4 (fun v6 G5 => 
    ((v6 ≤ x4 → pq_Tx_whole_68 E mc ms Post G5 (c + mc3) (s + ms4) x3) ∧
      (¬ v6 ≤ x4 → wo_ty G5 a1 = 10 ∧ ∃ mc8 ms9 : Nat, ((c + mc3) + mc8) ≤ mc ∧ ((s + ms4) + ms9) ≤ ms ∧ pq_St_charAt E mc8 ms9 (fun v11 G10 => 
        (((v11 - (48 : Int32)) < (0 : Int32) → pq_Tx_whole_52 E mc ms Post G10 ((c + mc3) + mc8) ((s + ms4) + ms9)) ∧
          (¬ (v11 - (48 : Int32)) < (0 : Int32) → (((v11 - (48 : Int32)) ≤ (9 : Int32) → pq_Tx_whole_14 E mc ms Post n G10 ((c + mc3) + mc8) ((s + ms4) + ms9) (some a1) x2 ((x3 * (10 : Int32)) + (v11 - (48 : Int32))) (x4 + (1 : Int32))) ∧
            (¬ (v11 - (48 : Int32)) ≤ (9 : Int32) → pq_Tx_whole_52 E mc ms Post G10 ((c + mc3) + mc8) ((s + ms4) + ms9)))))) G5 a1 x4))) G a1))
set_option maxRecDepth 100000 in
def pq_Tx_whole_10 (E : wo_E) (mc ms : Nat) (Post : Int32 → wo_W → Prop) (G : wo_W) (c s : Nat) (x0 : Option Nat) (x1 : Int32) (x2 : Int32) (y0 : Int32) : Prop := ∃ n1 : Nat, pq_Tx_whole_14 E mc ms Post n1 G c s x0 x2 y0 x1
set_option maxRecDepth 100000 in
def pq_Tx_whole_0 (E : wo_E) (mc ms : Nat) (Post : Int32 → wo_W → Prop) (G : wo_W) (c s : Nat) (x0 : Option Nat) (x1 : Int32) (x2 : Int32) : Prop := ((x2 ≤ x1 → pq_Tx_whole_10 E mc ms Post G c s x0 x1 x2 (-1 : Int32)) ∧
  (¬ x2 ≤ x1 → pq_Tx_whole_10 E mc ms Post G c s x0 x1 x2 (0 : Int32)))
def pq_Tx_whole (E : wo_E) (mc ms : Nat) (Post : Int32 → wo_W → Prop) (G : wo_W) (x0 : Option Nat) (x1 : Int32) (x2 : Int32) : Prop := pq_Tx_whole_0 E mc ms Post G 0 0 x0 x1 x2
set_option maxRecDepth 100000 in
set_option maxHeartbeats 4000000 in
theorem tq_Tx_whole_68 {p : Program} {l : Launch} {e : Env} {R : Room} {s₀ : State} {m : MethodId} {args : Array Value} {below : List Frame} {meth : Method} {cd : Code} {E : wo_E} {mc ms : Nat} {Post : Int32 → wo_W → Prop} (hC : wo_Cx E "EdgeCache$Text" prog_12_method_4_code 6 4 85 ((Option.some Jvm.ClassFile.FieldType.int)) "whole" mc ms p R s₀ m args meth cd) : ∀ {G : wo_W} {c s : Nat} {x3 : Int32}, pq_Tx_whole_68 E mc ms Post G c s x3 → ∀ {H : Heap} {locs : List Loc} {ls : Array Slot}, wo_Se E G H → va_S (en_A E) s₀.heap H locs → lx_has ls 6 [(3, 1, .int x3)] → c ≤ mc → s ≤ ms → W p l e R s₀ m args below meth cd H locs c s (MQ below (va_Qi Post (wo_B E) (en_A E)) args s₀ mc ms (en_A E)) (F0 m 68 ls []) := by
  intro G c s x3 hw H locs ls hG hS hl hcc hss
  dsimp only [pq_Tx_whole_68] at hw
  have hx := hC.1
  have hb := hC.2.1
  refine lv_iload_n hx hb dq_Tx_whole_68 rfl (lx_at hl 0 rfl) ?_
  exact wo_iret hC hG hS hcc hss hw dq_Tx_whole_69
set_option maxRecDepth 100000 in
set_option maxHeartbeats 4000000 in
theorem tq_Tx_whole_52 {p : Program} {l : Launch} {e : Env} {R : Room} {s₀ : State} {m : MethodId} {args : Array Value} {below : List Frame} {meth : Method} {cd : Code} {E : wo_E} {mc ms : Nat} {Post : Int32 → wo_W → Prop} (hC : wo_Cx E "EdgeCache$Text" prog_12_method_4_code 6 4 85 ((Option.some Jvm.ClassFile.FieldType.int)) "whole" mc ms p R s₀ m args meth cd) : ∀ {G : wo_W} {c s : Nat}, pq_Tx_whole_52 E mc ms Post G c s → ∀ {H : Heap} {locs : List Loc} {ls : Array Slot}, wo_Se E G H → va_S (en_A E) s₀.heap H locs → lx_has ls 6 [] → c ≤ mc → s ≤ ms → W p l e R s₀ m args below meth cd H locs c s (MQ below (va_Qi Post (wo_B E) (en_A E)) args s₀ mc ms (en_A E)) (F0 m 52 ls []) := by
  intro G c s hw H locs ls hG hS hl hcc hss
  dsimp only [pq_Tx_whole_52] at hw
  have hx := hC.1
  have hb := hC.2.1
  refine lv_iconst (v := (-1 : Int32)) hx hb dq_Tx_whole_52 rfl ?_
  exact wo_iret hC hG hS hcc hss hw dq_Tx_whole_53
set_option maxRecDepth 100000 in
set_option maxHeartbeats 4000000 in
theorem tq_Tx_whole_14 {p : Program} {l : Launch} {e : Env} {R : Room} {s₀ : State} {m : MethodId} {args : Array Value} {below : List Frame} {meth : Method} {cd : Code} {E : wo_E} {mc ms : Nat} {Post : Int32 → wo_W → Prop} (hC : wo_Cx E "EdgeCache$Text" prog_12_method_4_code 6 4 85 ((Option.some Jvm.ClassFile.FieldType.int)) "whole" mc ms p R s₀ m args meth cd) : ∀ n : Nat, ∀ {G : wo_W} {c s : Nat} {x0 : Option Nat} {x2 : Int32} {x3 : Int32} {x4 : Int32}, pq_Tx_whole_14 E mc ms Post n G c s x0 x2 x3 x4 → ∀ {H : Heap} {locs : List Loc} {ls : Array Slot}, wo_Se E G H → va_S (en_A E) s₀.heap H locs → lx_has ls 6 [(0, 1, va_rf x0), (2, 1, .int x2), (3, 1, .int x3), (4, 1, .int x4)] → c ≤ mc → s ≤ ms → W p l e R s₀ m args below meth cd H locs c s (MQ below (va_Qi Post (wo_B E) (en_A E)) args s₀ mc ms (en_A E)) (F0 m 14 ls []) := by
  intro n
  induction n with
  | zero => intro G c s x0 x2 x3 x4 hw; exact hw.elim
  | succ n ih =>
    intro G c s x0 x2 x3 x4 hw H locs ls hG hS hl hcc hss
    dsimp only [pq_Tx_whole_14] at hw
    have hx := hC.1
    have hb := hC.2.1
    refine lv_iload hx hb dq_Tx_whole_14 (lx_at hl 3 rfl) ?_
    refine lv_iload_n hx hb dq_Tx_whole_16 rfl (lx_at hl 1 rfl) ?_
    refine lv_icmp_ge (tgt := 68) hx hb dq_Tx_whole_17 rfl (fun h => ?_) (fun h => ?_)
    · replace hw := hw.1 h
      exact tq_Tx_whole_68 hC hw hG hS (lx_sub hl [2] rfl) hcc hss
    · replace hw := hw.2 h
      refine lv_iload hx hb dq_Tx_whole_20 (lx_at hl 3 rfl) ?_
      refine lx_aloadR_n hx hb dq_Tx_whole_22 rfl (lx_at hl 0 rfl) ?_
      obtain ⟨a1, rfl, hw⟩ := hw
      obtain ⟨t2, hw⟩ := hw
      obtain ⟨mc3, ms4, hc1, hs1, hw⟩ := hw
      refine va_calli (wo_runV hC lq_Tx_15 (mq_St_length hw) hG hS t2 rfl (lx_sz hl) rfl (lx_rm (Nat.le_of_ble_eq_true rfl)) (by decide) dq_Tx_whole_23 ⟨hc1, hs1⟩) hS (fun _ _ h => h) (fun _ h => h) (fun v6 G5 t H locs ht hvm hw' hB _ _ hS => ?_)
      clear hw
      have hw := hw'
      clear hw'
      replace hG := wo_bk ht hB
      replace hcc := hc1
      replace hss := hs1
      refine lv_icmp_ge (tgt := 68) hx hb dq_Tx_whole_26 rfl (fun h => ?_) (fun h => ?_)
      · replace hw := hw.1 h
        exact tq_Tx_whole_68 hC hw hG hS (lx_sub hl [2] rfl) hcc hss
      · replace hw := hw.2 h
        refine lv_aload_n hx hb dq_Tx_whole_29 rfl (lx_at hl 0 rfl) ?_
        refine lv_iload hx hb dq_Tx_whole_30 (lx_at hl 3 rfl) ?_
        obtain ⟨t7, hw⟩ := hw
        obtain ⟨mc8, ms9, hc1, hs1, hw⟩ := hw
        refine va_calli (wo_runV hC lq_Tx_21 (mq_St_charAt hw) hG hS t7 rfl (lx_sz hl) rfl (Nat.zero_le _) (by decide) dq_Tx_whole_32 ⟨hc1, hs1⟩) hS (fun _ _ h => h) (fun _ h => h) (fun v11 G10 t H locs ht hvm hw' hB _ _ hS => ?_)
        clear hw
        have hw := hw'
        clear hw'
        replace hG := wo_bk ht hB
        replace hcc := hc1
        replace hss := hs1
        refine lv_bipush (v := (48 : Int32)) hx hb dq_Tx_whole_35 rfl ?_
        refine lv_isub hx hb dq_Tx_whole_37 ?_
        refine lx_istore (lv' := [(5, 1, .int (v11 - (48 : Int32))), (0, 1, .ref a1), (2, 1, .int x2), (3, 1, .int x3), (4, 1, .int x4)]) hx hb dq_Tx_whole_38 hl (by decide) rfl (fun ls hl' => ?_)
        clear hl
        have hl := hl'
        clear hl'
        refine lv_iload hx hb dq_Tx_whole_40 (lx_at hl 0 rfl) ?_
        refine lv_if_lt (tgt := 52) hx hb dq_Tx_whole_42 rfl (fun h => ?_) (fun h => ?_)
        · replace hw := hw.1 h
          exact tq_Tx_whole_52 hC hw hG hS (lx_sub hl [] rfl) hcc hss
        · replace hw := hw.2 h
          refine lv_iload hx hb dq_Tx_whole_45 (lx_at hl 0 rfl) ?_
          refine lv_bipush (v := (9 : Int32)) hx hb dq_Tx_whole_47 rfl ?_
          refine lv_icmp_le (tgt := 54) hx hb dq_Tx_whole_49 rfl (fun h => ?_) (fun h => ?_)
          · replace hw := hw.1 h
            refine lv_iload_n hx hb dq_Tx_whole_54 rfl (lx_at hl 3 rfl) ?_
            refine lv_bipush (v := (10 : Int32)) hx hb dq_Tx_whole_55 rfl ?_
            refine lv_imul hx hb dq_Tx_whole_57 ?_
            refine lv_iload hx hb dq_Tx_whole_58 (lx_at hl 0 rfl) ?_
            refine lv_iadd hx hb dq_Tx_whole_60 ?_
            refine lx_istore_n (lv' := [(3, 1, .int ((x3 * (10 : Int32)) + (v11 - (48 : Int32)))), (5, 1, .int (v11 - (48 : Int32))), (0, 1, .ref a1), (2, 1, .int x2), (4, 1, .int x4)]) hx hb dq_Tx_whole_61 rfl hl (by decide) rfl (fun ls hl' => ?_)
            clear hl
            have hl := hl'
            clear hl'
            refine lx_iinc (k := 4) (v := (x4 + (1 : Int32))) (lv' := [(4, 1, .int (x4 + (1 : Int32))), (3, 1, .int ((x3 * (10 : Int32)) + (v11 - (48 : Int32)))), (5, 1, .int (v11 - (48 : Int32))), (0, 1, .ref a1), (2, 1, .int x2)]) hx hb dq_Tx_whole_62 hl rfl rfl (by decide) rfl (fun ls hl' => ?_)
            clear hl
            have hl := hl'
            clear hl'
            refine lv_goto (tgt := 14) hx hb dq_Tx_whole_65 rfl ?_
            exact ih hw hG hS (lx_sub hl [3, 4, 1, 0] rfl) hcc hss
          · replace hw := hw.2 h
            exact tq_Tx_whole_52 hC hw hG hS (lx_sub hl [] rfl) hcc hss
set_option maxRecDepth 100000 in
set_option maxHeartbeats 4000000 in
theorem tq_Tx_whole_10 {p : Program} {l : Launch} {e : Env} {R : Room} {s₀ : State} {m : MethodId} {args : Array Value} {below : List Frame} {meth : Method} {cd : Code} {E : wo_E} {mc ms : Nat} {Post : Int32 → wo_W → Prop} (hC : wo_Cx E "EdgeCache$Text" prog_12_method_4_code 6 4 85 ((Option.some Jvm.ClassFile.FieldType.int)) "whole" mc ms p R s₀ m args meth cd) : ∀ {G : wo_W} {c s : Nat} {x0 : Option Nat} {x1 : Int32} {x2 : Int32} {y0 : Int32}, pq_Tx_whole_10 E mc ms Post G c s x0 x1 x2 y0 → ∀ {H : Heap} {locs : List Loc} {ls : Array Slot}, wo_Se E G H → va_S (en_A E) s₀.heap H locs → lx_has ls 6 [(0, 1, va_rf x0), (1, 1, .int x1), (2, 1, .int x2)] → c ≤ mc → s ≤ ms → W p l e R s₀ m args below meth cd H locs c s (MQ below (va_Qi Post (wo_B E) (en_A E)) args s₀ mc ms (en_A E)) (F0 m 10 ls [.int y0]) := by
  intro G c s x0 x1 x2 y0 hw H locs ls hG hS hl hcc hss
  dsimp only [pq_Tx_whole_10] at hw
  have hx := hC.1
  have hb := hC.2.1
  refine lx_istore_n (lv' := [(3, 1, .int y0), (0, 1, va_rf x0), (1, 1, .int x1), (2, 1, .int x2)]) hx hb dq_Tx_whole_10 rfl hl (by decide) rfl (fun ls hl' => ?_)
  clear hl
  have hl := hl'
  clear hl'
  refine lv_iload_n hx hb dq_Tx_whole_11 rfl (lx_at hl 2 rfl) ?_
  refine lx_istore (lv' := [(4, 1, .int x1), (3, 1, .int y0), (0, 1, va_rf x0), (1, 1, .int x1), (2, 1, .int x2)]) hx hb dq_Tx_whole_12 hl (by decide) rfl (fun ls hl' => ?_)
  clear hl
  have hl := hl'
  clear hl'
  obtain ⟨n1, hw⟩ := hw
  exact tq_Tx_whole_14 hC n1 hw hG hS (lx_sub hl [2, 4, 1, 0] rfl) hcc hss
set_option maxRecDepth 100000 in
set_option maxHeartbeats 4000000 in
theorem tq_Tx_whole_0 {p : Program} {l : Launch} {e : Env} {R : Room} {s₀ : State} {m : MethodId} {args : Array Value} {below : List Frame} {meth : Method} {cd : Code} {E : wo_E} {mc ms : Nat} {Post : Int32 → wo_W → Prop} (hC : wo_Cx E "EdgeCache$Text" prog_12_method_4_code 6 4 85 ((Option.some Jvm.ClassFile.FieldType.int)) "whole" mc ms p R s₀ m args meth cd) : ∀ {G : wo_W} {c s : Nat} {x0 : Option Nat} {x1 : Int32} {x2 : Int32}, pq_Tx_whole_0 E mc ms Post G c s x0 x1 x2 → ∀ {H : Heap} {locs : List Loc} {ls : Array Slot}, wo_Se E G H → va_S (en_A E) s₀.heap H locs → lx_has ls 6 [(0, 1, va_rf x0), (1, 1, .int x1), (2, 1, .int x2)] → c ≤ mc → s ≤ ms → W p l e R s₀ m args below meth cd H locs c s (MQ below (va_Qi Post (wo_B E) (en_A E)) args s₀ mc ms (en_A E)) (F0 m 0 ls []) := by
  intro G c s x0 x1 x2 hw H locs ls hG hS hl hcc hss
  dsimp only [pq_Tx_whole_0] at hw
  have hx := hC.1
  have hb := hC.2.1
  refine lv_iload_n hx hb dq_Tx_whole_0 rfl (lx_at hl 1 rfl) ?_
  refine lv_iload_n hx hb dq_Tx_whole_1 rfl (lx_at hl 2 rfl) ?_
  refine lv_icmp_ge (tgt := 9) hx hb dq_Tx_whole_2 rfl (fun h => ?_) (fun h => ?_)
  · replace hw := hw.1 h
    refine lv_iconst (v := (-1 : Int32)) hx hb dq_Tx_whole_9 rfl ?_
    exact tq_Tx_whole_10 hC hw hG hS (lx_sub hl [0, 1, 2] rfl) hcc hss
  · replace hw := hw.2 h
    refine lv_iconst (v := (0 : Int32)) hx hb dq_Tx_whole_5 rfl ?_
    refine lv_goto (tgt := 10) hx hb dq_Tx_whole_6 rfl ?_
    exact tq_Tx_whole_10 hC hw hG hS (lx_sub hl [0, 1, 2] rfl) hcc hss
set_option maxHeartbeats 4000000 in
theorem mq_Tx_whole {l : Launch} {E : wo_E} {mc ms : Nat} {Post : Int32 → wo_W → Prop} {G : wo_W} {x0 : Option Nat} {x1 : Int32} {x2 : Int32} (hw : pq_Tx_whole E mc ms Post G x0 x1 x2) : Met l yq_Tx_whole (Cond.code yq_Tx_whole prog_12_method_4_code 6 ((Option.some Jvm.ClassFile.FieldType.int)) :: vw_WG) { frames := 4, cells := mc, slots := ms, locals := 85 } (va_Pc [va_rf x0, .int x1, .int x2] (wo_Ok E G)) (va_Qi Post (wo_B E) (en_A E)) mc ms (en_A E) := by
  unfold pq_Tx_whole at hw
  exact wo_met [(1, va_rf x0), (1, .int x1), (1, .int x2)] rfl (by decide) (fun q hq => by simp only [List.mem_cons, List.not_mem_nil, or_false] at hq; rcases hq with rfl | rfl | rfl <;> first | rfl | exact lx_cR _) (Nat.le_of_ble_eq_true rfl) (fun p e R s m args below meth cd ls hC hG hS hl => tq_Tx_whole_0 hC hw hG hS (lx_sub hl [0, 1, 2] rfl) (Nat.zero_le _) (Nat.zero_le _))

theorem dq_Sh_asksForPart_0 : decode prog_9_method_13_code 0 = .ok (.aload_n 0, 1) := by decide +kernel
theorem dq_Sh_asksForPart_1 : decode prog_9_method_13_code 1 = .ok (.getfield 93, 3) := by decide +kernel
theorem dq_Sh_asksForPart_4 : decode prog_9_method_13_code 4 = .ok (.ifCond .ne 10, 3) := by decide +kernel
theorem dq_Sh_asksForPart_7 : decode prog_9_method_13_code 7 = .ok (.aload_n 0, 1) := by decide +kernel
theorem dq_Sh_asksForPart_8 : decode prog_9_method_13_code 8 = .ok (.getfield 74, 3) := by decide +kernel
theorem dq_Sh_asksForPart_11 : decode prog_9_method_13_code 11 = .ok (.ifnonnull 5, 3) := by decide +kernel
theorem dq_Sh_asksForPart_14 : decode prog_9_method_13_code 14 = .ok (.iconst 0, 1) := by decide +kernel
theorem dq_Sh_asksForPart_15 : decode prog_9_method_13_code 15 = .ok (.ireturn, 1) := by decide +kernel
theorem dq_Sh_asksForPart_16 : decode prog_9_method_13_code 16 = .ok (.aload_n 0, 1) := by decide +kernel
theorem dq_Sh_asksForPart_17 : decode prog_9_method_13_code 17 = .ok (.getfield 153, 3) := by decide +kernel
theorem dq_Sh_asksForPart_20 : decode prog_9_method_13_code 20 = .ok (.astore_n 2, 1) := by decide +kernel
theorem dq_Sh_asksForPart_21 : decode prog_9_method_13_code 21 = .ok (.aload_n 2, 1) := by decide +kernel
theorem dq_Sh_asksForPart_22 : decode prog_9_method_13_code 22 = .ok (.ifnull 16, 3) := by decide +kernel
theorem dq_Sh_asksForPart_25 : decode prog_9_method_13_code 25 = .ok (.aload_n 2, 1) := by decide +kernel
theorem dq_Sh_asksForPart_26 : decode prog_9_method_13_code 26 = .ok (.iconst 0, 1) := by decide +kernel
theorem dq_Sh_asksForPart_27 : decode prog_9_method_13_code 27 = .ok (.aload_n 2, 1) := by decide +kernel
theorem dq_Sh_asksForPart_28 : decode prog_9_method_13_code 28 = .ok (.invokevirtual 80, 3) := by decide +kernel
theorem dq_Sh_asksForPart_31 : decode prog_9_method_13_code 31 = .ok (.invokestatic 156, 3) := by decide +kernel
theorem dq_Sh_asksForPart_34 : decode prog_9_method_13_code 34 = .ok (.iload_n 1, 1) := by decide +kernel
theorem dq_Sh_asksForPart_35 : decode prog_9_method_13_code 35 = .ok (.if_icmp .ne 7, 3) := by decide +kernel
theorem dq_Sh_asksForPart_38 : decode prog_9_method_13_code 38 = .ok (.iconst 1, 1) := by decide +kernel
theorem dq_Sh_asksForPart_39 : decode prog_9_method_13_code 39 = .ok (.goto 4, 3) := by decide +kernel
theorem dq_Sh_asksForPart_42 : decode prog_9_method_13_code 42 = .ok (.iconst 0, 1) := by decide +kernel
theorem dq_Sh_asksForPart_43 : decode prog_9_method_13_code 43 = .ok (.ireturn, 1) := by decide +kernel
set_option maxRecDepth 100000 in
def pq_Sh_asksForPart_14 (E : wo_E) (mc ms : Nat) (Post : Int32 → wo_W → Prop) (G : wo_W) (c s : Nat) : Prop := Post (0 : Int32) G
set_option maxRecDepth 100000 in
def pq_Sh_asksForPart_43 (E : wo_E) (mc ms : Nat) (Post : Int32 → wo_W → Prop) (G : wo_W) (c s : Nat) (y0 : Int32) : Prop := wo_okI .boolean y0 ∧ Post y0 G
set_option maxRecDepth 100000 in
def pq_Sh_asksForPart_38 (E : wo_E) (mc ms : Nat) (Post : Int32 → wo_W → Prop) (G : wo_W) (c s : Nat) : Prop := pq_Sh_asksForPart_43 E mc ms Post G c s (1 : Int32)
set_option maxRecDepth 100000 in
def pq_Sh_asksForPart_0 (E : wo_E) (mc ms : Nat) (Post : Int32 → wo_W → Prop) (G : wo_W) (c s : Nat) (x0 : Option Nat) (x1 : Int32) : Prop := ∃ a1 : Nat, x0 = some a1 ∧ wo_ty G a1 = 9 ∧ ((¬ (wo_gi G 512 a1) = (0 : Int32) → pq_Sh_asksForPart_14 E mc ms Post G c s) ∧
  ((wo_gi G 512 a1) = (0 : Int32) → ∀ r3 : Option Nat, r3 = wo_gr G 517 a1 → ((r3 = none → pq_Sh_asksForPart_14 E mc ms Post G c s) ∧
    (∀ a5 : Nat, r3 = some a5 → ∀ r6 : Option Nat, r6 = wo_gr G 518 a1 → ((r6 = none → pq_Sh_asksForPart_38 E mc ms Post G c s) ∧
      (∀ a8 : Nat, r6 = some a8 → wo_ty G a8 = 10 ∧ ∃ mc10 ms11 : Nat, (c + mc10) ≤ mc ∧ (s + ms11) ≤ ms ∧ pq_St_length E mc10 ms11 (fun v13 G12 => 
        ∃ mc14 ms15 : Nat, ((c + mc10) + mc14) ≤ mc ∧ ((s + ms11) + ms15) ≤ ms ∧ pq_Tx_whole E mc14 ms15 (fun v17 G16 => 
          ((¬ v17 = x1 → pq_Sh_asksForPart_43 E mc ms Post G16 ((c + mc10) + mc14) ((s + ms11) + ms15) (0 : Int32)) ∧
            (v17 = x1 → pq_Sh_asksForPart_38 E mc ms Post G16 ((c + mc10) + mc14) ((s + ms11) + ms15)))) G12 (some a8) (0 : Int32) v13) G a8))))))
def pq_Sh_asksForPart (E : wo_E) (mc ms : Nat) (Post : Int32 → wo_W → Prop) (G : wo_W) (x0 : Option Nat) (x1 : Int32) : Prop := pq_Sh_asksForPart_0 E mc ms Post G 0 0 x0 x1
set_option maxRecDepth 100000 in
set_option maxHeartbeats 4000000 in
theorem tq_Sh_asksForPart_14 {p : Program} {l : Launch} {e : Env} {R : Room} {s₀ : State} {m : MethodId} {args : Array Value} {below : List Frame} {meth : Method} {cd : Code} {E : wo_E} {mc ms : Nat} {Post : Int32 → wo_W → Prop} (hC : wo_Cx E "EdgeCache$Sheet" prog_9_method_13_code 3 5 110 ((Option.some Jvm.ClassFile.FieldType.boolean)) "asksForPart" mc ms p R s₀ m args meth cd) : ∀ {G : wo_W} {c s : Nat}, pq_Sh_asksForPart_14 E mc ms Post G c s → ∀ {H : Heap} {locs : List Loc} {ls : Array Slot}, wo_Se E G H → va_S (en_A E) s₀.heap H locs → lx_has ls 3 [] → c ≤ mc → s ≤ ms → W p l e R s₀ m args below meth cd H locs c s (MQ below (va_Qi Post (wo_B E) (en_A E)) args s₀ mc ms (en_A E)) (F0 m 14 ls []) := by
  intro G c s hw H locs ls hG hS hl hcc hss
  dsimp only [pq_Sh_asksForPart_14] at hw
  have hx := hC.1
  have hb := hC.2.1
  refine lv_iconst (v := (0 : Int32)) hx hb dq_Sh_asksForPart_14 rfl ?_
  exact wo_zret hC wo_z0 hG hS hcc hss hw dq_Sh_asksForPart_15
set_option maxRecDepth 100000 in
set_option maxHeartbeats 4000000 in
theorem tq_Sh_asksForPart_43 {p : Program} {l : Launch} {e : Env} {R : Room} {s₀ : State} {m : MethodId} {args : Array Value} {below : List Frame} {meth : Method} {cd : Code} {E : wo_E} {mc ms : Nat} {Post : Int32 → wo_W → Prop} (hC : wo_Cx E "EdgeCache$Sheet" prog_9_method_13_code 3 5 110 ((Option.some Jvm.ClassFile.FieldType.boolean)) "asksForPart" mc ms p R s₀ m args meth cd) : ∀ {G : wo_W} {c s : Nat} {y0 : Int32}, pq_Sh_asksForPart_43 E mc ms Post G c s y0 → ∀ {H : Heap} {locs : List Loc} {ls : Array Slot}, wo_Se E G H → va_S (en_A E) s₀.heap H locs → lx_has ls 3 [] → c ≤ mc → s ≤ ms → W p l e R s₀ m args below meth cd H locs c s (MQ below (va_Qi Post (wo_B E) (en_A E)) args s₀ mc ms (en_A E)) (F0 m 43 ls [.int y0]) := by
  intro G c s y0 hw H locs ls hG hS hl hcc hss
  dsimp only [pq_Sh_asksForPart_43] at hw
  have hx := hC.1
  have hb := hC.2.1
  obtain ⟨h1, hw⟩ := hw
  exact wo_zret hC h1.1 hG hS hcc hss hw dq_Sh_asksForPart_43
set_option maxRecDepth 100000 in
set_option maxHeartbeats 4000000 in
theorem tq_Sh_asksForPart_38 {p : Program} {l : Launch} {e : Env} {R : Room} {s₀ : State} {m : MethodId} {args : Array Value} {below : List Frame} {meth : Method} {cd : Code} {E : wo_E} {mc ms : Nat} {Post : Int32 → wo_W → Prop} (hC : wo_Cx E "EdgeCache$Sheet" prog_9_method_13_code 3 5 110 ((Option.some Jvm.ClassFile.FieldType.boolean)) "asksForPart" mc ms p R s₀ m args meth cd) : ∀ {G : wo_W} {c s : Nat}, pq_Sh_asksForPart_38 E mc ms Post G c s → ∀ {H : Heap} {locs : List Loc} {ls : Array Slot}, wo_Se E G H → va_S (en_A E) s₀.heap H locs → lx_has ls 3 [] → c ≤ mc → s ≤ ms → W p l e R s₀ m args below meth cd H locs c s (MQ below (va_Qi Post (wo_B E) (en_A E)) args s₀ mc ms (en_A E)) (F0 m 38 ls []) := by
  intro G c s hw H locs ls hG hS hl hcc hss
  dsimp only [pq_Sh_asksForPart_38] at hw
  have hx := hC.1
  have hb := hC.2.1
  refine lv_iconst (v := (1 : Int32)) hx hb dq_Sh_asksForPart_38 rfl ?_
  refine lv_goto (tgt := 43) hx hb dq_Sh_asksForPart_39 rfl ?_
  exact tq_Sh_asksForPart_43 hC hw hG hS (lx_sub hl [] rfl) hcc hss
set_option maxRecDepth 100000 in
set_option maxHeartbeats 4000000 in
theorem tq_Sh_asksForPart_0 {p : Program} {l : Launch} {e : Env} {R : Room} {s₀ : State} {m : MethodId} {args : Array Value} {below : List Frame} {meth : Method} {cd : Code} {E : wo_E} {mc ms : Nat} {Post : Int32 → wo_W → Prop} (hC : wo_Cx E "EdgeCache$Sheet" prog_9_method_13_code 3 5 110 ((Option.some Jvm.ClassFile.FieldType.boolean)) "asksForPart" mc ms p R s₀ m args meth cd) : ∀ {G : wo_W} {c s : Nat} {x0 : Option Nat} {x1 : Int32}, pq_Sh_asksForPart_0 E mc ms Post G c s x0 x1 → ∀ {H : Heap} {locs : List Loc} {ls : Array Slot}, wo_Se E G H → va_S (en_A E) s₀.heap H locs → lx_has ls 3 [(0, 1, va_rf x0), (1, 1, .int x1)] → c ≤ mc → s ≤ ms → W p l e R s₀ m args below meth cd H locs c s (MQ below (va_Qi Post (wo_B E) (en_A E)) args s₀ mc ms (en_A E)) (F0 m 0 ls []) := by
  intro G c s x0 x1 hw H locs ls hG hS hl hcc hss
  dsimp only [pq_Sh_asksForPart_0] at hw
  have hx := hC.1
  have hb := hC.2.1
  refine lx_aloadR_n hx hb dq_Sh_asksForPart_0 rfl (lx_at hl 0 rfl) ?_
  obtain ⟨a1, rfl, hw⟩ := hw
  obtain ⟨t2, hw⟩ := hw
  refine wo_getI hC fq_Sh_93 rfl hG t2 dq_Sh_asksForPart_1 ?_
  refine lv_if_ne (tgt := 14) hx hb dq_Sh_asksForPart_4 rfl (fun h => ?_) (fun h => ?_)
  · replace hw := hw.1 h
    exact tq_Sh_asksForPart_14 hC hw hG hS (lx_sub hl [] rfl) hcc hss
  · replace hw := hw.2 h
    refine lv_aload_n hx hb dq_Sh_asksForPart_7 rfl (lx_at hl 0 rfl) ?_
    refine wo_getR hC fq_Sh_74 rfl hG t2 dq_Sh_asksForPart_8 (fun r3 e4 => ?_)
    replace hw := hw r3 e4
    refine lx_ifnonnull (tgt := 16) hx hb dq_Sh_asksForPart_11 rfl (fun h => ?_) (fun a5 h => ?_)
    · replace hw := hw.1 h
      subst h
      exact tq_Sh_asksForPart_14 hC hw hG hS (lx_sub hl [] rfl) hcc hss
    · replace hw := hw.2 a5 h
      subst h
      refine lv_aload_n hx hb dq_Sh_asksForPart_16 rfl (lx_at hl 0 rfl) ?_
      refine wo_getR hC fq_Sh_153 rfl hG t2 dq_Sh_asksForPart_17 (fun r6 e7 => ?_)
      replace hw := hw r6 e7
      refine lx_astoreR_n (lv' := [(2, 1, va_rf r6), (0, 1, .ref a1), (1, 1, .int x1)]) hx hb dq_Sh_asksForPart_20 rfl hl (by decide) rfl (fun ls hl' => ?_)
      clear hl
      have hl := hl'
      clear hl'
      refine lx_aloadR_n hx hb dq_Sh_asksForPart_21 rfl (lx_at hl 0 rfl) ?_
      refine lx_ifnull (tgt := 38) hx hb dq_Sh_asksForPart_22 rfl (fun h => ?_) (fun a8 h => ?_)
      · replace hw := hw.1 h
        subst h
        exact tq_Sh_asksForPart_38 hC hw hG hS (lx_sub hl [] rfl) hcc hss
      · replace hw := hw.2 a8 h
        subst h
        refine lv_aload_n hx hb dq_Sh_asksForPart_25 rfl (lx_at hl 0 rfl) ?_
        refine lv_iconst (v := (0 : Int32)) hx hb dq_Sh_asksForPart_26 rfl ?_
        refine lv_aload_n hx hb dq_Sh_asksForPart_27 rfl (lx_at hl 0 rfl) ?_
        obtain ⟨t9, hw⟩ := hw
        obtain ⟨mc10, ms11, hc1, hs1, hw⟩ := hw
        refine va_calli (wo_runV hC lq_Sh_80 (mq_St_length hw) hG hS t9 rfl (lx_sz hl) rfl (lx_rm (Nat.le_of_ble_eq_true rfl)) (by decide) dq_Sh_asksForPart_28 ⟨hc1, hs1⟩) hS (fun _ _ h => h) (fun _ h => h) (fun v13 G12 t H locs ht hvm hw' hB _ _ hS => ?_)
        clear hw
        have hw := hw'
        clear hw'
        replace hG := wo_bk ht hB
        replace hcc := hc1
        replace hss := hs1
        obtain ⟨mc14, ms15, hc1, hs1, hw⟩ := hw
        refine va_calli (wo_runS hC lq_Sh_156 (mq_Tx_whole hw) hG hS rfl (lx_sz hl) rfl (Nat.zero_le _) (by decide) dq_Sh_asksForPart_31 ⟨hc1, hs1⟩) hS (fun _ _ h => h) (fun _ h => h) (fun v17 G16 t H locs ht hvm hw' hB _ _ hS => ?_)
        clear hw
        have hw := hw'
        clear hw'
        replace hG := wo_bk ht hB
        replace hcc := hc1
        replace hss := hs1
        refine lv_iload_n hx hb dq_Sh_asksForPart_34 rfl (lx_at hl 2 rfl) ?_
        refine lv_icmp_ne (tgt := 42) hx hb dq_Sh_asksForPart_35 rfl (fun h => ?_) (fun h => ?_)
        · replace hw := hw.1 h
          refine lv_iconst (v := (0 : Int32)) hx hb dq_Sh_asksForPart_42 rfl ?_
          exact tq_Sh_asksForPart_43 hC hw hG hS (lx_sub hl [] rfl) hcc hss
        · replace hw := hw.2 h
          exact tq_Sh_asksForPart_38 hC hw hG hS (lx_sub hl [] rfl) hcc hss
set_option maxHeartbeats 4000000 in
theorem mq_Sh_asksForPart {l : Launch} {E : wo_E} {mc ms : Nat} {Post : Int32 → wo_W → Prop} {G : wo_W} {x0 : Option Nat} {x1 : Int32} (hw : pq_Sh_asksForPart E mc ms Post G x0 x1) : Met l yq_Sh_asksForPart (Cond.code yq_Sh_asksForPart prog_9_method_13_code 3 ((Option.some Jvm.ClassFile.FieldType.boolean)) :: vw_WG) { frames := 5, cells := mc, slots := ms, locals := 110 } (va_Pc [va_rf x0, .int x1] (wo_Ok E G)) (va_Qi Post (wo_B E) (en_A E)) mc ms (en_A E) := by
  unfold pq_Sh_asksForPart at hw
  exact wo_met [(1, va_rf x0), (1, .int x1)] rfl (by decide) (fun q hq => by simp only [List.mem_cons, List.not_mem_nil, or_false] at hq; rcases hq with rfl | rfl <;> first | rfl | exact lx_cR _) (Nat.le_of_ble_eq_true rfl) (fun p e R s m args below meth cd ls hC hG hS hl => tq_Sh_asksForPart_0 hC hw hG hS (lx_sub hl [0, 1] rfl) (Nat.zero_le _) (Nat.zero_le _))

theorem dq_St_isEmpty_0 : decode prog_22_method_55_code 0 = .ok (.aload_n 0, 1) := by decide +kernel
theorem dq_St_isEmpty_1 : decode prog_22_method_55_code 1 = .ok (.getfield 9, 3) := by decide +kernel
theorem dq_St_isEmpty_4 : decode prog_22_method_55_code 4 = .ok (.arraylength, 1) := by decide +kernel
theorem dq_St_isEmpty_5 : decode prog_22_method_55_code 5 = .ok (.ifCond .ne 7, 3) := by decide +kernel
theorem dq_St_isEmpty_8 : decode prog_22_method_55_code 8 = .ok (.iconst 1, 1) := by decide +kernel
theorem dq_St_isEmpty_9 : decode prog_22_method_55_code 9 = .ok (.goto 4, 3) := by decide +kernel
theorem dq_St_isEmpty_12 : decode prog_22_method_55_code 12 = .ok (.iconst 0, 1) := by decide +kernel
theorem dq_St_isEmpty_13 : decode prog_22_method_55_code 13 = .ok (.ireturn, 1) := by decide +kernel
set_option maxRecDepth 100000 in
def pq_St_isEmpty_13 (E : wo_E) (mc ms : Nat) (Post : Int32 → wo_W → Prop) (G : wo_W) (c s : Nat) (y0 : Int32) : Prop := wo_okI .boolean y0 ∧ Post y0 G
set_option maxRecDepth 100000 in
def pq_St_isEmpty_0 (E : wo_E) (mc ms : Nat) (Post : Int32 → wo_W → Prop) (G : wo_W) (c s : Nat) (x0 : Nat) : Prop := wo_ty G x0 = 10 ∧ ∀ r2 : Option Nat, r2 = wo_gr G 576 x0 → ∃ a4 : Nat, r2 = some a4 ∧ wo_ty G a4 = 65 ∧ ((¬ (nI (wo_len G a4)) = (0 : Int32) → pq_St_isEmpty_13 E mc ms Post G c s (0 : Int32)) ∧
  ((nI (wo_len G a4)) = (0 : Int32) → pq_St_isEmpty_13 E mc ms Post G c s (1 : Int32)))
def pq_St_isEmpty (E : wo_E) (mc ms : Nat) (Post : Int32 → wo_W → Prop) (G : wo_W) (x0 : Nat) : Prop := pq_St_isEmpty_0 E mc ms Post G 0 0 x0
set_option maxRecDepth 100000 in
set_option maxHeartbeats 4000000 in
theorem tq_St_isEmpty_13 {p : Program} {l : Launch} {e : Env} {R : Room} {s₀ : State} {m : MethodId} {args : Array Value} {below : List Frame} {meth : Method} {cd : Code} {E : wo_E} {mc ms : Nat} {Post : Int32 → wo_W → Prop} (hC : wo_Cx E "java/lang/String" prog_22_method_55_code 1 0 0 ((Option.some Jvm.ClassFile.FieldType.boolean)) "isEmpty" mc ms p R s₀ m args meth cd) : ∀ {G : wo_W} {c s : Nat} {y0 : Int32}, pq_St_isEmpty_13 E mc ms Post G c s y0 → ∀ {H : Heap} {locs : List Loc} {ls : Array Slot}, wo_Se E G H → va_S (en_A E) s₀.heap H locs → lx_has ls 1 [] → c ≤ mc → s ≤ ms → W p l e R s₀ m args below meth cd H locs c s (MQ below (va_Qi Post (wo_B E) (en_A E)) args s₀ mc ms (en_A E)) (F0 m 13 ls [.int y0]) := by
  intro G c s y0 hw H locs ls hG hS hl hcc hss
  dsimp only [pq_St_isEmpty_13] at hw
  have hx := hC.1
  have hb := hC.2.1
  obtain ⟨h1, hw⟩ := hw
  exact wo_zret hC h1.1 hG hS hcc hss hw dq_St_isEmpty_13
set_option maxRecDepth 100000 in
set_option maxHeartbeats 4000000 in
theorem tq_St_isEmpty_0 {p : Program} {l : Launch} {e : Env} {R : Room} {s₀ : State} {m : MethodId} {args : Array Value} {below : List Frame} {meth : Method} {cd : Code} {E : wo_E} {mc ms : Nat} {Post : Int32 → wo_W → Prop} (hC : wo_Cx E "java/lang/String" prog_22_method_55_code 1 0 0 ((Option.some Jvm.ClassFile.FieldType.boolean)) "isEmpty" mc ms p R s₀ m args meth cd) : ∀ {G : wo_W} {c s : Nat} {x0 : Nat}, pq_St_isEmpty_0 E mc ms Post G c s x0 → ∀ {H : Heap} {locs : List Loc} {ls : Array Slot}, wo_Se E G H → va_S (en_A E) s₀.heap H locs → lx_has ls 1 [(0, 1, .ref x0)] → c ≤ mc → s ≤ ms → W p l e R s₀ m args below meth cd H locs c s (MQ below (va_Qi Post (wo_B E) (en_A E)) args s₀ mc ms (en_A E)) (F0 m 0 ls []) := by
  intro G c s x0 hw H locs ls hG hS hl hcc hss
  dsimp only [pq_St_isEmpty_0] at hw
  have hx := hC.1
  have hb := hC.2.1
  refine lv_aload_n hx hb dq_St_isEmpty_0 rfl (lx_at hl 0 rfl) ?_
  obtain ⟨t1, hw⟩ := hw
  refine wo_getR hC fq_St_9 rfl hG t1 dq_St_isEmpty_1 (fun r2 e3 => ?_)
  replace hw := hw r2 e3
  obtain ⟨a4, rfl, hw⟩ := hw
  obtain ⟨t5, hw⟩ := hw
  refine wo_alen (j := 1) hC rfl hG t5 dq_St_isEmpty_4 ?_
  refine lv_if_ne (tgt := 12) hx hb dq_St_isEmpty_5 rfl (fun h => ?_) (fun h => ?_)
  · replace hw := hw.1 h
    refine lv_iconst (v := (0 : Int32)) hx hb dq_St_isEmpty_12 rfl ?_
    exact tq_St_isEmpty_13 hC hw hG hS (lx_sub hl [] rfl) hcc hss
  · replace hw := hw.2 h
    refine lv_iconst (v := (1 : Int32)) hx hb dq_St_isEmpty_8 rfl ?_
    refine lv_goto (tgt := 13) hx hb dq_St_isEmpty_9 rfl ?_
    exact tq_St_isEmpty_13 hC hw hG hS (lx_sub hl [] rfl) hcc hss
set_option maxHeartbeats 4000000 in
theorem mq_St_isEmpty {l : Launch} {E : wo_E} {mc ms : Nat} {Post : Int32 → wo_W → Prop} {G : wo_W} {x0 : Nat} (hw : pq_St_isEmpty E mc ms Post G x0) : Met l yq_St_isEmpty (Cond.code yq_St_isEmpty prog_22_method_55_code 1 ((Option.some Jvm.ClassFile.FieldType.boolean)) :: vw_WG) { frames := 0, cells := mc, slots := ms, locals := 0 } (va_Pc [.ref x0] (wo_Ok E G)) (va_Qi Post (wo_B E) (en_A E)) mc ms (en_A E) := by
  unfold pq_St_isEmpty at hw
  exact wo_met [(1, .ref x0)] rfl (by decide) (fun q hq => by simp only [List.mem_cons, List.not_mem_nil, or_false] at hq; rcases hq with rfl <;> first | rfl | exact lx_cR _) (Nat.le_of_ble_eq_true rfl) (fun p e R s m args below meth cd ls hC hG hS hl => tq_St_isEmpty_0 hC hw hG hS (lx_sub hl [0] rfl) (Nat.zero_le _) (Nat.zero_le _))

theorem dq_AB_inflateIfNeededFor_0 : decode prog_16_method_71_code 0 = .ok (.getstatic 18, 3) := by decide +kernel
theorem dq_AB_inflateIfNeededFor_3 : decode prog_16_method_71_code 3 = .ok (.ifCond .eq 18, 3) := by decide +kernel
theorem dq_AB_inflateIfNeededFor_6 : decode prog_16_method_71_code 6 = .ok (.aload_n 0, 1) := by decide +kernel
theorem dq_AB_inflateIfNeededFor_7 : decode prog_16_method_71_code 7 = .ok (.getfield 22, 3) := by decide +kernel
theorem dq_AB_inflateIfNeededFor_10 : decode prog_16_method_71_code 10 = .ok (.aload_n 1, 1) := by decide +kernel
theorem dq_AB_inflateIfNeededFor_11 : decode prog_16_method_71_code 11 = .ok (.invokevirtual 40, 3) := by decide +kernel
theorem dq_AB_inflateIfNeededFor_14 : decode prog_16_method_71_code 14 = .ok (.if_icmp .eq 7, 3) := by decide +kernel
theorem dq_AB_inflateIfNeededFor_21 : decode prog_16_method_71_code 21 = .ok (.return_, 1) := by decide +kernel
set_option maxRecDepth 100000 in
def pq_AB_inflateIfNeededFor_21 (E : wo_E) (mc ms : Nat) (Post : wo_W → Prop) (G : wo_W) (c s : Nat) : Prop := Post G
set_option maxRecDepth 100000 in
def pq_AB_inflateIfNeededFor_0 (E : wo_E) (mc ms : Nat) (Post : wo_W → Prop) (G : wo_W) (c s : Nat) (x0 : Nat) (x1 : Option Nat) : Prop := wo_ty G x0 = 5 ∧ ∃ a2 : Nat, x1 = some a2 ∧ wo_ty G a2 = 10 ∧ ∃ mc4 ms5 : Nat, (c + mc4) ≤ mc ∧ (s + ms5) ≤ ms ∧ pq_St_coder E mc4 ms5 (fun v7 G6 => 
  (((wo_gi G 257 x0) = v7 → pq_AB_inflateIfNeededFor_21 E mc ms Post G6 (c + mc4) (s + ms5)) ∧
    (¬ (wo_gi G 257 x0) = v7 → False))) G a2
def pq_AB_inflateIfNeededFor (E : wo_E) (mc ms : Nat) (Post : wo_W → Prop) (G : wo_W) (x0 : Nat) (x1 : Option Nat) : Prop := pq_AB_inflateIfNeededFor_0 E mc ms Post G 0 0 x0 x1
set_option maxRecDepth 100000 in
set_option maxHeartbeats 4000000 in
theorem tq_AB_inflateIfNeededFor_21 {p : Program} {l : Launch} {e : Env} {R : Room} {s₀ : State} {m : MethodId} {args : Array Value} {below : List Frame} {meth : Method} {cd : Code} {E : wo_E} {mc ms : Nat} {Post : wo_W → Prop} (hC : wo_Cx E "java/lang/AbstractStringBuilder" prog_16_method_71_code 2 1 20 ((Option.none : Option Jvm.ClassFile.FieldType)) "inflateIfNeededFor" mc ms p R s₀ m args meth cd) : ∀ {G : wo_W} {c s : Nat}, pq_AB_inflateIfNeededFor_21 E mc ms Post G c s → ∀ {H : Heap} {locs : List Loc} {ls : Array Slot}, wo_Se E G H → va_S (en_A E) s₀.heap H locs → lx_has ls 2 [] → c ≤ mc → s ≤ ms → W p l e R s₀ m args below meth cd H locs c s (MQ below (va_Qv Post (wo_B E) (en_A E)) args s₀ mc ms (en_A E)) (F0 m 21 ls []) := by
  intro G c s hw H locs ls hG hS hl hcc hss
  dsimp only [pq_AB_inflateIfNeededFor_21] at hw
  have hx := hC.1
  have hb := hC.2.1
  exact wo_vret hC hG hS hcc hss hw dq_AB_inflateIfNeededFor_21
set_option maxRecDepth 100000 in
set_option maxHeartbeats 4000000 in
theorem tq_AB_inflateIfNeededFor_0 {p : Program} {l : Launch} {e : Env} {R : Room} {s₀ : State} {m : MethodId} {args : Array Value} {below : List Frame} {meth : Method} {cd : Code} {E : wo_E} {mc ms : Nat} {Post : wo_W → Prop} (hC : wo_Cx E "java/lang/AbstractStringBuilder" prog_16_method_71_code 2 1 20 ((Option.none : Option Jvm.ClassFile.FieldType)) "inflateIfNeededFor" mc ms p R s₀ m args meth cd) : ∀ {G : wo_W} {c s : Nat} {x0 : Nat} {x1 : Option Nat}, pq_AB_inflateIfNeededFor_0 E mc ms Post G c s x0 x1 → ∀ {H : Heap} {locs : List Loc} {ls : Array Slot}, wo_Se E G H → va_S (en_A E) s₀.heap H locs → lx_has ls 2 [(0, 1, .ref x0), (1, 1, va_rf x1)] → c ≤ mc → s ≤ ms → W p l e R s₀ m args below meth cd H locs c s (MQ below (va_Qv Post (wo_B E) (en_A E)) args s₀ mc ms (en_A E)) (F0 m 0 ls []) := by
  intro G c s x0 x1 hw H locs ls hG hS hl hcc hss
  dsimp only [pq_AB_inflateIfNeededFor_0] at hw
  have hx := hC.1
  have hb := hC.2.1
  refine wo_gstI hC sq_AB_18 hS dq_AB_inflateIfNeededFor_0 ?_
  refine lv_if_eq (tgt := 21) hx hb dq_AB_inflateIfNeededFor_3 rfl (fun h => absurd h (by decide)) (fun _ => ?_)
  refine lv_aload_n hx hb dq_AB_inflateIfNeededFor_6 rfl (lx_at hl 0 rfl) ?_
  obtain ⟨t1, hw⟩ := hw
  refine wo_getI hC fq_AB_22 rfl hG t1 dq_AB_inflateIfNeededFor_7 ?_
  refine lx_aloadR_n hx hb dq_AB_inflateIfNeededFor_10 rfl (lx_at hl 1 rfl) ?_
  obtain ⟨a2, rfl, hw⟩ := hw
  obtain ⟨t3, hw⟩ := hw
  obtain ⟨mc4, ms5, hc1, hs1, hw⟩ := hw
  refine va_calli (wo_runV hC lq_AB_40 (mq_St_coder hw) hG hS t3 rfl (lx_sz hl) rfl (lx_rm (Nat.le_of_ble_eq_true rfl)) (by decide) dq_AB_inflateIfNeededFor_11 ⟨hc1, hs1⟩) hS (fun _ _ h => h) (fun _ h => h) (fun v7 G6 t H locs ht hvm hw' hB _ _ hS => ?_)
  clear hw
  have hw := hw'
  clear hw'
  replace hG := wo_bk ht hB
  replace hcc := hc1
  replace hss := hs1
  refine lv_icmp_eq (tgt := 21) hx hb dq_AB_inflateIfNeededFor_14 rfl (fun h => ?_) (fun h => ?_)
  · replace hw := hw.1 h
    exact tq_AB_inflateIfNeededFor_21 hC hw hG hS (lx_sub hl [] rfl) hcc hss
  · replace hw := hw.2 h
    exact hw.elim
set_option maxHeartbeats 4000000 in
theorem mq_AB_inflateIfNeededFor {l : Launch} {E : wo_E} {mc ms : Nat} {Post : wo_W → Prop} {G : wo_W} {x0 : Nat} {x1 : Option Nat} (hw : pq_AB_inflateIfNeededFor E mc ms Post G x0 x1) : Met l yq_AB_inflateIfNeededFor (Cond.code yq_AB_inflateIfNeededFor prog_16_method_71_code 2 ((Option.none : Option Jvm.ClassFile.FieldType)) :: vw_WG) { frames := 1, cells := mc, slots := ms, locals := 20 } (va_Pc [.ref x0, va_rf x1] (wo_Ok E G)) (va_Qv Post (wo_B E) (en_A E)) mc ms (en_A E) := by
  unfold pq_AB_inflateIfNeededFor at hw
  exact wo_met [(1, .ref x0), (1, va_rf x1)] rfl (by decide) (fun q hq => by simp only [List.mem_cons, List.not_mem_nil, or_false] at hq; rcases hq with rfl | rfl <;> first | rfl | exact lx_cR _) (Nat.le_of_ble_eq_true rfl) (fun p e R s m args below meth cd ls hC hG hS hl => tq_AB_inflateIfNeededFor_0 hC hw hG hS (lx_sub hl [0, 1] rfl) (Nat.zero_le _) (Nat.zero_le _))

theorem dq_St_getBytes_0 : decode prog_22_method_147_code 0 = .ok (.aload_n 0, 1) := by decide +kernel
theorem dq_St_getBytes_1 : decode prog_22_method_147_code 1 = .ok (.invokevirtual 335, 3) := by decide +kernel
theorem dq_St_getBytes_4 : decode prog_22_method_147_code 4 = .ok (.iload_n 3, 1) := by decide +kernel
theorem dq_St_getBytes_5 : decode prog_22_method_147_code 5 = .ok (.if_icmp .ne 23, 3) := by decide +kernel
theorem dq_St_getBytes_8 : decode prog_22_method_147_code 8 = .ok (.aload_n 0, 1) := by decide +kernel
theorem dq_St_getBytes_9 : decode prog_22_method_147_code 9 = .ok (.getfield 9, 3) := by decide +kernel
theorem dq_St_getBytes_12 : decode prog_22_method_147_code 12 = .ok (.iconst 0, 1) := by decide +kernel
theorem dq_St_getBytes_13 : decode prog_22_method_147_code 13 = .ok (.aload_n 1, 1) := by decide +kernel
theorem dq_St_getBytes_14 : decode prog_22_method_147_code 14 = .ok (.iload_n 2, 1) := by decide +kernel
theorem dq_St_getBytes_15 : decode prog_22_method_147_code 15 = .ok (.iload_n 3, 1) := by decide +kernel
theorem dq_St_getBytes_16 : decode prog_22_method_147_code 16 = .ok (.ishl, 1) := by decide +kernel
theorem dq_St_getBytes_17 : decode prog_22_method_147_code 17 = .ok (.aload_n 0, 1) := by decide +kernel
theorem dq_St_getBytes_18 : decode prog_22_method_147_code 18 = .ok (.getfield 9, 3) := by decide +kernel
theorem dq_St_getBytes_21 : decode prog_22_method_147_code 21 = .ok (.arraylength, 1) := by decide +kernel
theorem dq_St_getBytes_22 : decode prog_22_method_147_code 22 = .ok (.invokestatic 212, 3) := by decide +kernel
theorem dq_St_getBytes_25 : decode prog_22_method_147_code 25 = .ok (.goto 18, 3) := by decide +kernel
theorem dq_St_getBytes_43 : decode prog_22_method_147_code 43 = .ok (.return_, 1) := by decide +kernel
set_option maxRecDepth 100000 in
def pq_St_getBytes_0 (E : wo_E) (mc ms : Nat) (Post : wo_W → Prop) (G : wo_W) (c s : Nat) (x0 : Nat) (x1 : Option Nat) (x2 : Int32) (x3 : Int32) : Prop := wo_ty G x0 = 10 ∧ ∃ mc2 ms3 : Nat, (c + mc2) ≤ mc ∧ (s + ms3) ≤ ms ∧ pq_St_coder E mc2 ms3 (fun v5 G4 => 
  ((¬ v5 = x3 → False) ∧
    (v5 = x3 → wo_ty G4 x0 = 10 ∧ ∀ r7 : Option Nat, r7 = wo_gr G4 576 x0 → ∀ r9 : Option Nat, r9 = wo_gr G4 576 x0 → ∃ a11 : Nat, r9 = some a11 ∧ wo_ty G4 a11 = 65 ∧ ∃ a13 : Nat, r7 = some a13 ∧ ∃ a14 : Nat, x1 = some a14 ∧ wo_ty G4 a13 = 65 ∧ wo_ty G4 a14 = 65 ∧ ¬ (0 : Int32) < 0 ∧ ¬ (x2 <<< (x3 &&& 31)) < 0 ∧ ¬ (nI (wo_len G4 a11)) < 0 ∧ (0 : Int32).toNatClampNeg + (nI (wo_len G4 a11)).toNatClampNeg ≤ wo_len G4 a13 ∧ (x2 <<< (x3 &&& 31)).toNatClampNeg + (nI (wo_len G4 a11)).toNatClampNeg ≤ wo_len G4 a14 ∧ en_bs E ≤ a14 ∧ wo_fitA .byte G4 a13 ∧ ∀ G24 : wo_W, G24 = wo_cpI G4 a13 a14 (0 : Int32).toNatClampNeg (x2 <<< (x3 &&& 31)).toNatClampNeg (nI (wo_len G4 a11)).toNatClampNeg → 
      Post G24))) G x0
def pq_St_getBytes (E : wo_E) (mc ms : Nat) (Post : wo_W → Prop) (G : wo_W) (x0 : Nat) (x1 : Option Nat) (x2 : Int32) (x3 : Int32) : Prop := pq_St_getBytes_0 E mc ms Post G 0 0 x0 x1 x2 x3
set_option maxRecDepth 100000 in
set_option maxHeartbeats 4000000 in
theorem tq_St_getBytes_0 {p : Program} {l : Launch} {e : Env} {R : Room} {s₀ : State} {m : MethodId} {args : Array Value} {below : List Frame} {meth : Method} {cd : Code} {E : wo_E} {mc ms : Nat} {Post : wo_W → Prop} (hC : wo_Cx E "java/lang/String" prog_22_method_147_code 4 1 28 ((Option.none : Option Jvm.ClassFile.FieldType)) "getBytes" mc ms p R s₀ m args meth cd) : ∀ {G : wo_W} {c s : Nat} {x0 : Nat} {x1 : Option Nat} {x2 : Int32} {x3 : Int32}, pq_St_getBytes_0 E mc ms Post G c s x0 x1 x2 x3 → ∀ {H : Heap} {locs : List Loc} {ls : Array Slot}, wo_Se E G H → va_S (en_A E) s₀.heap H locs → lx_has ls 4 [(0, 1, .ref x0), (1, 1, va_rf x1), (2, 1, .int x2), (3, 1, .int x3)] → c ≤ mc → s ≤ ms → W p l e R s₀ m args below meth cd H locs c s (MQ below (va_Qv Post (wo_B E) (en_A E)) args s₀ mc ms (en_A E)) (F0 m 0 ls []) := by
  intro G c s x0 x1 x2 x3 hw H locs ls hG hS hl hcc hss
  dsimp only [pq_St_getBytes_0] at hw
  have hx := hC.1
  have hb := hC.2.1
  refine lv_aload_n hx hb dq_St_getBytes_0 rfl (lx_at hl 0 rfl) ?_
  obtain ⟨t1, hw⟩ := hw
  obtain ⟨mc2, ms3, hc1, hs1, hw⟩ := hw
  refine va_calli (wo_runV hC lq_St_335 (mq_St_coder hw) hG hS t1 rfl (lx_sz hl) rfl (Nat.zero_le _) (by decide) dq_St_getBytes_1 ⟨hc1, hs1⟩) hS (fun _ _ h => h) (fun _ h => h) (fun v5 G4 t H locs ht hvm hw' hB _ _ hS => ?_)
  clear hw
  have hw := hw'
  clear hw'
  replace hG := wo_bk ht hB
  replace hcc := hc1
  replace hss := hs1
  refine lv_iload_n hx hb dq_St_getBytes_4 rfl (lx_at hl 3 rfl) ?_
  refine lv_icmp_ne (tgt := 28) hx hb dq_St_getBytes_5 rfl (fun h => ?_) (fun h => ?_)
  · replace hw := hw.1 h
    exact hw.elim
  · replace hw := hw.2 h
    refine lv_aload_n hx hb dq_St_getBytes_8 rfl (lx_at hl 0 rfl) ?_
    obtain ⟨t6, hw⟩ := hw
    refine wo_getR hC fq_St_9 rfl hG t6 dq_St_getBytes_9 (fun r7 e8 => ?_)
    replace hw := hw r7 e8
    refine lv_iconst (v := (0 : Int32)) hx hb dq_St_getBytes_12 rfl ?_
    refine lx_aloadR_n hx hb dq_St_getBytes_13 rfl (lx_at hl 1 rfl) ?_
    refine lv_iload_n hx hb dq_St_getBytes_14 rfl (lx_at hl 2 rfl) ?_
    refine lv_iload_n hx hb dq_St_getBytes_15 rfl (lx_at hl 3 rfl) ?_
    refine lv_ishl hx hb dq_St_getBytes_16 ?_
    refine lv_aload_n hx hb dq_St_getBytes_17 rfl (lx_at hl 0 rfl) ?_
    refine wo_getR hC fq_St_9 rfl hG t6 dq_St_getBytes_18 (fun r9 e10 => ?_)
    replace hw := hw r9 e10
    obtain ⟨a11, rfl, hw⟩ := hw
    obtain ⟨t12, hw⟩ := hw
    refine wo_alen (j := 1) hC rfl hG t12 dq_St_getBytes_21 ?_
    obtain ⟨a13, rfl, hw⟩ := hw
    obtain ⟨a14, rfl, hw⟩ := hw
    obtain ⟨t15, hw⟩ := hw
    obtain ⟨t16, hw⟩ := hw
    obtain ⟨h17, hw⟩ := hw
    obtain ⟨h18, hw⟩ := hw
    obtain ⟨h19, hw⟩ := hw
    obtain ⟨h20, hw⟩ := hw
    obtain ⟨h21, hw⟩ := hw
    obtain ⟨h22, hw⟩ := hw
    obtain ⟨h23, hw⟩ := hw
    refine wo_cpyI (j := 1) hC rfl rfl lq_St_212 (lx_sz hl) hG hS t15 t16 h17 h18 h19 h20 h21 h22 h23 (by decide) (lx_rk (Nat.le_of_ble_eq_true rfl)) dq_St_getBytes_22 (fun G24 H locs e25 hG hS => ?_)
    replace hw := hw G24 e25
    refine lv_goto (tgt := 43) hx hb dq_St_getBytes_25 rfl ?_
    exact wo_vret hC hG hS hcc hss hw dq_St_getBytes_43
set_option maxHeartbeats 4000000 in
theorem mq_St_getBytes {l : Launch} {E : wo_E} {mc ms : Nat} {Post : wo_W → Prop} {G : wo_W} {x0 : Nat} {x1 : Option Nat} {x2 : Int32} {x3 : Int32} (hw : pq_St_getBytes E mc ms Post G x0 x1 x2 x3) : Met l yq_St_getBytes (Cond.code yq_St_getBytes prog_22_method_147_code 4 ((Option.none : Option Jvm.ClassFile.FieldType)) :: vw_WG) { frames := 1, cells := mc, slots := ms, locals := 28 } (va_Pc [.ref x0, va_rf x1, .int x2, .int x3] (wo_Ok E G)) (va_Qv Post (wo_B E) (en_A E)) mc ms (en_A E) := by
  unfold pq_St_getBytes at hw
  exact wo_met [(1, .ref x0), (1, va_rf x1), (1, .int x2), (1, .int x3)] rfl (by decide) (fun q hq => by simp only [List.mem_cons, List.not_mem_nil, or_false] at hq; rcases hq with rfl | rfl | rfl | rfl <;> first | rfl | exact lx_cR _) (Nat.le_of_ble_eq_true rfl) (fun p e R s m args below meth cd ls hC hG hS hl => tq_St_getBytes_0 hC hw hG hS (lx_sub hl [0, 1, 2, 3] rfl) (Nat.zero_le _) (Nat.zero_le _))

theorem dq_AB_putStringAt_0 : decode prog_16_method_73_code 0 = .ok (.aload_n 0, 1) := by decide +kernel
theorem dq_AB_putStringAt_1 : decode prog_16_method_73_code 1 = .ok (.aload_n 2, 1) := by decide +kernel
theorem dq_AB_putStringAt_2 : decode prog_16_method_73_code 2 = .ok (.invokevirtual 397, 3) := by decide +kernel
theorem dq_AB_putStringAt_5 : decode prog_16_method_73_code 5 = .ok (.aload_n 2, 1) := by decide +kernel
theorem dq_AB_putStringAt_6 : decode prog_16_method_73_code 6 = .ok (.aload_n 0, 1) := by decide +kernel
theorem dq_AB_putStringAt_7 : decode prog_16_method_73_code 7 = .ok (.getfield 15, 3) := by decide +kernel
theorem dq_AB_putStringAt_10 : decode prog_16_method_73_code 10 = .ok (.iload_n 1, 1) := by decide +kernel
theorem dq_AB_putStringAt_11 : decode prog_16_method_73_code 11 = .ok (.aload_n 0, 1) := by decide +kernel
theorem dq_AB_putStringAt_12 : decode prog_16_method_73_code 12 = .ok (.getfield 22, 3) := by decide +kernel
theorem dq_AB_putStringAt_15 : decode prog_16_method_73_code 15 = .ok (.invokevirtual 399, 3) := by decide +kernel
theorem dq_AB_putStringAt_18 : decode prog_16_method_73_code 18 = .ok (.return_, 1) := by decide +kernel
set_option maxRecDepth 100000 in
def pq_AB_putStringAt_0 (E : wo_E) (mc ms : Nat) (Post : wo_W → Prop) (G : wo_W) (c s : Nat) (x0 : Nat) (x1 : Int32) (x2 : Option Nat) : Prop := wo_ty G x0 = 5 ∧ ∃ mc2 ms3 : Nat, (c + mc2) ≤ mc ∧ (s + ms3) ≤ ms ∧ pq_AB_inflateIfNeededFor E mc2 ms3 (fun G4 => 
  wo_ty G4 x0 = 5 ∧ ∀ r6 : Option Nat, r6 = wo_gr G4 256 x0 → ∃ a8 : Nat, x2 = some a8 ∧ wo_ty G4 a8 = 10 ∧ ∃ mc10 ms11 : Nat, ((c + mc2) + mc10) ≤ mc ∧ ((s + ms3) + ms11) ≤ ms ∧ pq_St_getBytes E mc10 ms11 (fun G12 => 
    Post G12) G4 a8 r6 x1 (wo_gi G4 257 x0)) G x0 x2
def pq_AB_putStringAt (E : wo_E) (mc ms : Nat) (Post : wo_W → Prop) (G : wo_W) (x0 : Nat) (x1 : Int32) (x2 : Option Nat) : Prop := pq_AB_putStringAt_0 E mc ms Post G 0 0 x0 x1 x2
set_option maxRecDepth 100000 in
set_option maxHeartbeats 4000000 in
theorem tq_AB_putStringAt_0 {p : Program} {l : Launch} {e : Env} {R : Room} {s₀ : State} {m : MethodId} {args : Array Value} {below : List Frame} {meth : Method} {cd : Code} {E : wo_E} {mc ms : Nat} {Post : wo_W → Prop} (hC : wo_Cx E "java/lang/AbstractStringBuilder" prog_16_method_73_code 3 2 51 ((Option.none : Option Jvm.ClassFile.FieldType)) "putStringAt" mc ms p R s₀ m args meth cd) : ∀ {G : wo_W} {c s : Nat} {x0 : Nat} {x1 : Int32} {x2 : Option Nat}, pq_AB_putStringAt_0 E mc ms Post G c s x0 x1 x2 → ∀ {H : Heap} {locs : List Loc} {ls : Array Slot}, wo_Se E G H → va_S (en_A E) s₀.heap H locs → lx_has ls 3 [(0, 1, .ref x0), (1, 1, .int x1), (2, 1, va_rf x2)] → c ≤ mc → s ≤ ms → W p l e R s₀ m args below meth cd H locs c s (MQ below (va_Qv Post (wo_B E) (en_A E)) args s₀ mc ms (en_A E)) (F0 m 0 ls []) := by
  intro G c s x0 x1 x2 hw H locs ls hG hS hl hcc hss
  dsimp only [pq_AB_putStringAt_0] at hw
  have hx := hC.1
  have hb := hC.2.1
  refine lv_aload_n hx hb dq_AB_putStringAt_0 rfl (lx_at hl 0 rfl) ?_
  refine lx_aloadR_n hx hb dq_AB_putStringAt_1 rfl (lx_at hl 2 rfl) ?_
  obtain ⟨t1, hw⟩ := hw
  obtain ⟨mc2, ms3, hc1, hs1, hw⟩ := hw
  refine va_callv (wo_runV hC lq_AB_397 (mq_AB_inflateIfNeededFor hw) hG hS t1 rfl (lx_sz hl) rfl (Nat.zero_le _) (by decide) dq_AB_putStringAt_2 ⟨hc1, hs1⟩) hS (fun _ _ h => h) (fun _ h => h) (fun G4 t H locs ht hvm hw' hB _ _ hS => ?_)
  clear hw
  have hw := hw'
  clear hw'
  replace hG := wo_bk ht hB
  replace hcc := hc1
  replace hss := hs1
  refine lx_aloadR_n hx hb dq_AB_putStringAt_5 rfl (lx_at hl 2 rfl) ?_
  refine lv_aload_n hx hb dq_AB_putStringAt_6 rfl (lx_at hl 0 rfl) ?_
  obtain ⟨t5, hw⟩ := hw
  refine wo_getR hC fq_AB_15 rfl hG t5 dq_AB_putStringAt_7 (fun r6 e7 => ?_)
  replace hw := hw r6 e7
  refine lv_iload_n hx hb dq_AB_putStringAt_10 rfl (lx_at hl 1 rfl) ?_
  refine lv_aload_n hx hb dq_AB_putStringAt_11 rfl (lx_at hl 0 rfl) ?_
  refine wo_getI hC fq_AB_22 rfl hG t5 dq_AB_putStringAt_12 ?_
  obtain ⟨a8, rfl, hw⟩ := hw
  obtain ⟨t9, hw⟩ := hw
  obtain ⟨mc10, ms11, hc1, hs1, hw⟩ := hw
  refine va_callv (wo_runV hC lq_AB_399 (mq_St_getBytes hw) hG hS t9 rfl (lx_sz hl) rfl (Nat.zero_le _) (by decide) dq_AB_putStringAt_15 ⟨hc1, hs1⟩) hS (fun _ _ h => h) (fun _ h => h) (fun G12 t H locs ht hvm hw' hB _ _ hS => ?_)
  clear hw
  have hw := hw'
  clear hw'
  replace hG := wo_bk ht hB
  replace hcc := hc1
  replace hss := hs1
  exact wo_vret hC hG hS hcc hss hw dq_AB_putStringAt_18
set_option maxHeartbeats 4000000 in
theorem mq_AB_putStringAt {l : Launch} {E : wo_E} {mc ms : Nat} {Post : wo_W → Prop} {G : wo_W} {x0 : Nat} {x1 : Int32} {x2 : Option Nat} (hw : pq_AB_putStringAt E mc ms Post G x0 x1 x2) : Met l yq_AB_putStringAt (Cond.code yq_AB_putStringAt prog_16_method_73_code 3 ((Option.none : Option Jvm.ClassFile.FieldType)) :: vw_WG) { frames := 2, cells := mc, slots := ms, locals := 51 } (va_Pc [.ref x0, .int x1, va_rf x2] (wo_Ok E G)) (va_Qv Post (wo_B E) (en_A E)) mc ms (en_A E) := by
  unfold pq_AB_putStringAt at hw
  exact wo_met [(1, .ref x0), (1, .int x1), (1, va_rf x2)] rfl (by decide) (fun q hq => by simp only [List.mem_cons, List.not_mem_nil, or_false] at hq; rcases hq with rfl | rfl | rfl <;> first | rfl | exact lx_cR _) (Nat.le_of_ble_eq_true rfl) (fun p e R s m args below meth cd ls hC hG hS hl => tq_AB_putStringAt_0 hC hw hG hS (lx_sub hl [0, 1, 2] rfl) (Nat.zero_le _) (Nat.zero_le _))

theorem dq_AB_append_S_0 : decode prog_16_method_22_code 0 = .ok (.aload_n 1, 1) := by decide +kernel
theorem dq_AB_append_S_1 : decode prog_16_method_22_code 1 = .ok (.ifnonnull 8, 3) := by decide +kernel
theorem dq_AB_append_S_9 : decode prog_16_method_22_code 9 = .ok (.aload_n 1, 1) := by decide +kernel
theorem dq_AB_append_S_10 : decode prog_16_method_22_code 10 = .ok (.invokevirtual 32, 3) := by decide +kernel
theorem dq_AB_append_S_13 : decode prog_16_method_22_code 13 = .ok (.istore_n 2, 1) := by decide +kernel
theorem dq_AB_append_S_14 : decode prog_16_method_22_code 14 = .ok (.aload_n 0, 1) := by decide +kernel
theorem dq_AB_append_S_15 : decode prog_16_method_22_code 15 = .ok (.aload_n 0, 1) := by decide +kernel
theorem dq_AB_append_S_16 : decode prog_16_method_22_code 16 = .ok (.getfield 79, 3) := by decide +kernel
theorem dq_AB_append_S_19 : decode prog_16_method_22_code 19 = .ok (.iload_n 2, 1) := by decide +kernel
theorem dq_AB_append_S_20 : decode prog_16_method_22_code 20 = .ok (.iadd, 1) := by decide +kernel
theorem dq_AB_append_S_21 : decode prog_16_method_22_code 21 = .ok (.invokevirtual 100, 3) := by decide +kernel
theorem dq_AB_append_S_24 : decode prog_16_method_22_code 24 = .ok (.aload_n 0, 1) := by decide +kernel
theorem dq_AB_append_S_25 : decode prog_16_method_22_code 25 = .ok (.aload_n 0, 1) := by decide +kernel
theorem dq_AB_append_S_26 : decode prog_16_method_22_code 26 = .ok (.getfield 79, 3) := by decide +kernel
theorem dq_AB_append_S_29 : decode prog_16_method_22_code 29 = .ok (.aload_n 1, 1) := by decide +kernel
theorem dq_AB_append_S_30 : decode prog_16_method_22_code 30 = .ok (.invokevirtual 208, 3) := by decide +kernel
theorem dq_AB_append_S_33 : decode prog_16_method_22_code 33 = .ok (.aload_n 0, 1) := by decide +kernel
theorem dq_AB_append_S_34 : decode prog_16_method_22_code 34 = .ok (.dup, 1) := by decide +kernel
theorem dq_AB_append_S_35 : decode prog_16_method_22_code 35 = .ok (.getfield 79, 3) := by decide +kernel
theorem dq_AB_append_S_38 : decode prog_16_method_22_code 38 = .ok (.iload_n 2, 1) := by decide +kernel
theorem dq_AB_append_S_39 : decode prog_16_method_22_code 39 = .ok (.iadd, 1) := by decide +kernel
theorem dq_AB_append_S_40 : decode prog_16_method_22_code 40 = .ok (.putfield 79, 3) := by decide +kernel
theorem dq_AB_append_S_43 : decode prog_16_method_22_code 43 = .ok (.aload_n 0, 1) := by decide +kernel
theorem dq_AB_append_S_44 : decode prog_16_method_22_code 44 = .ok (.areturn, 1) := by decide +kernel
set_option maxRecDepth 100000 in
def pq_AB_append_S_0 (E : wo_E) (mc ms : Nat) (Post : Option Nat → wo_W → Prop) (G : wo_W) (c s : Nat) (x0 : Nat) (x1 : Option Nat) : Prop := ((x1 = none → False) ∧
  (∀ a1 : Nat, x1 = some a1 → wo_ty G a1 = 10 ∧ ∃ mc3 ms4 : Nat, (c + mc3) ≤ mc ∧ (s + ms4) ≤ ms ∧ pq_St_length E mc3 ms4 (fun v6 G5 => 
    wo_ty G5 x0 = 5 ∧ ∃ mc8 ms9 : Nat, ((c + mc3) + mc8) ≤ mc ∧ ((s + ms4) + ms9) ≤ ms ∧ pq_AB_ensureCapacityInternal E mc8 ms9 (fun G10 => 
      wo_ty G10 x0 = 5 ∧ ∃ mc12 ms13 : Nat, (((c + mc3) + mc8) + mc12) ≤ mc ∧ (((s + ms4) + ms9) + ms13) ≤ ms ∧ pq_AB_putStringAt E mc12 ms13 (fun G14 => 
        wo_ty G14 x0 = 5 ∧ en_bs E ≤ x0 ∧ ∀ G17 : wo_W, G17 = wo_si G14 259 x0 ((wo_gi G14 259 x0) + v6) → 
          Post (some x0) G17) G10 x0 (wo_gi G10 259 x0) (some a1)) G5 x0 ((wo_gi G5 259 x0) + v6)) G a1))
def pq_AB_append_S (E : wo_E) (mc ms : Nat) (Post : Option Nat → wo_W → Prop) (G : wo_W) (x0 : Nat) (x1 : Option Nat) : Prop := pq_AB_append_S_0 E mc ms Post G 0 0 x0 x1
set_option maxRecDepth 100000 in
set_option maxHeartbeats 4000000 in
theorem tq_AB_append_S_0 {p : Program} {l : Launch} {e : Env} {R : Room} {s₀ : State} {m : MethodId} {args : Array Value} {below : List Frame} {meth : Method} {cd : Code} {E : wo_E} {mc ms : Nat} {Post : Option Nat → wo_W → Prop} (hC : wo_Cx E "java/lang/AbstractStringBuilder" prog_16_method_22_code 3 4 98 ((Option.some (Jvm.ClassFile.FieldType.object "java/lang/AbstractStringBuilder"))) "append" mc ms p R s₀ m args meth cd) : ∀ {G : wo_W} {c s : Nat} {x0 : Nat} {x1 : Option Nat}, pq_AB_append_S_0 E mc ms Post G c s x0 x1 → ∀ {H : Heap} {locs : List Loc} {ls : Array Slot}, wo_Se E G H → va_S (en_A E) s₀.heap H locs → lx_has ls 3 [(0, 1, .ref x0), (1, 1, va_rf x1)] → c ≤ mc → s ≤ ms → W p l e R s₀ m args below meth cd H locs c s (MQ below (va_Qq Post (wo_B E) (en_A E)) args s₀ mc ms (en_A E)) (F0 m 0 ls []) := by
  intro G c s x0 x1 hw H locs ls hG hS hl hcc hss
  dsimp only [pq_AB_append_S_0] at hw
  have hx := hC.1
  have hb := hC.2.1
  refine lx_aloadR_n hx hb dq_AB_append_S_0 rfl (lx_at hl 1 rfl) ?_
  refine lx_ifnonnull (tgt := 9) hx hb dq_AB_append_S_1 rfl (fun h => ?_) (fun a1 h => ?_)
  · replace hw := hw.1 h
    subst h
    exact hw.elim
  · replace hw := hw.2 a1 h
    subst h
    refine lv_aload_n hx hb dq_AB_append_S_9 rfl (lx_at hl 1 rfl) ?_
    obtain ⟨t2, hw⟩ := hw
    obtain ⟨mc3, ms4, hc1, hs1, hw⟩ := hw
    refine va_calli (wo_runV hC lq_AB_32 (mq_St_length hw) hG hS t2 rfl (lx_sz hl) rfl (Nat.zero_le _) (by decide) dq_AB_append_S_10 ⟨hc1, hs1⟩) hS (fun _ _ h => h) (fun _ h => h) (fun v6 G5 t H locs ht hvm hw' hB _ _ hS => ?_)
    clear hw
    have hw := hw'
    clear hw'
    replace hG := wo_bk ht hB
    replace hcc := hc1
    replace hss := hs1
    refine lx_istore_n (lv' := [(2, 1, .int v6), (0, 1, .ref x0), (1, 1, .ref a1)]) hx hb dq_AB_append_S_13 rfl hl (by decide) rfl (fun ls hl' => ?_)
    clear hl
    have hl := hl'
    clear hl'
    refine lv_aload_n hx hb dq_AB_append_S_14 rfl (lx_at hl 1 rfl) ?_
    refine lv_aload_n hx hb dq_AB_append_S_15 rfl (lx_at hl 1 rfl) ?_
    obtain ⟨t7, hw⟩ := hw
    refine wo_getI hC fq_AB_79 rfl hG t7 dq_AB_append_S_16 ?_
    refine lv_iload_n hx hb dq_AB_append_S_19 rfl (lx_at hl 0 rfl) ?_
    refine lv_iadd hx hb dq_AB_append_S_20 ?_
    obtain ⟨mc8, ms9, hc1, hs1, hw⟩ := hw
    refine va_callv (wo_runV hC lq_AB_100 (mq_AB_ensureCapacityInternal hw) hG hS t7 rfl (lx_sz hl) rfl (Nat.zero_le _) (by decide) dq_AB_append_S_21 ⟨hc1, hs1⟩) hS (fun _ _ h => h) (fun _ h => h) (fun G10 t H locs ht hvm hw' hB _ _ hS => ?_)
    clear hw
    have hw := hw'
    clear hw'
    replace hG := wo_bk ht hB
    replace hcc := hc1
    replace hss := hs1
    refine lv_aload_n hx hb dq_AB_append_S_24 rfl (lx_at hl 1 rfl) ?_
    refine lv_aload_n hx hb dq_AB_append_S_25 rfl (lx_at hl 1 rfl) ?_
    obtain ⟨t11, hw⟩ := hw
    refine wo_getI hC fq_AB_79 rfl hG t11 dq_AB_append_S_26 ?_
    refine lv_aload_n hx hb dq_AB_append_S_29 rfl (lx_at hl 2 rfl) ?_
    obtain ⟨mc12, ms13, hc1, hs1, hw⟩ := hw
    refine va_callv (wo_runV hC lq_AB_208 (mq_AB_putStringAt hw) hG hS t11 rfl (lx_sz hl) rfl (Nat.zero_le _) (by decide) dq_AB_append_S_30 ⟨hc1, hs1⟩) hS (fun _ _ h => h) (fun _ h => h) (fun G14 t H locs ht hvm hw' hB _ _ hS => ?_)
    clear hw
    have hw := hw'
    clear hw'
    replace hG := wo_bk ht hB
    replace hcc := hc1
    replace hss := hs1
    refine lv_aload_n hx hb dq_AB_append_S_33 rfl (lx_at hl 1 rfl) ?_
    refine lv_dup hx hb dq_AB_append_S_34 rfl ?_
    obtain ⟨t15, hw⟩ := hw
    refine wo_getI hC fq_AB_79 rfl hG t15 dq_AB_append_S_35 ?_
    refine lv_iload_n hx hb dq_AB_append_S_38 rfl (lx_at hl 0 rfl) ?_
    refine lv_iadd hx hb dq_AB_append_S_39 ?_
    obtain ⟨h16, hw⟩ := hw
    refine wo_putI hC fq_AB_79 (Or.inl rfl) rfl (wo_ok_int _) hG hS t15 h16 dq_AB_append_S_40 (fun G17 H locs e18 hG hS => ?_)
    replace hw := hw G17 e18
    refine lv_aload_n hx hb dq_AB_append_S_43 rfl (lx_at hl 1 rfl) ?_
    exact wo_aret (x := (some x0)) hC rfl hG hS hcc hss hw dq_AB_append_S_44
set_option maxHeartbeats 4000000 in
theorem mq_AB_append_S {l : Launch} {E : wo_E} {mc ms : Nat} {Post : Option Nat → wo_W → Prop} {G : wo_W} {x0 : Nat} {x1 : Option Nat} (hw : pq_AB_append_S E mc ms Post G x0 x1) : Met l yq_AB_append_S (Cond.code yq_AB_append_S prog_16_method_22_code 3 ((Option.some (Jvm.ClassFile.FieldType.object "java/lang/AbstractStringBuilder"))) :: vw_WG) { frames := 4, cells := mc, slots := ms, locals := 98 } (va_Pc [.ref x0, va_rf x1] (wo_Ok E G)) (va_Qq Post (wo_B E) (en_A E)) mc ms (en_A E) := by
  unfold pq_AB_append_S at hw
  exact wo_met [(1, .ref x0), (1, va_rf x1)] rfl (by decide) (fun q hq => by simp only [List.mem_cons, List.not_mem_nil, or_false] at hq; rcases hq with rfl | rfl <;> first | rfl | exact lx_cR _) (Nat.le_of_ble_eq_true rfl) (fun p e R s m args below meth cd ls hC hG hS hl => tq_AB_append_S_0 hC hw hG hS (lx_sub hl [0, 1] rfl) (Nat.zero_le _) (Nat.zero_le _))

theorem dq_SB_append_S_0 : decode prog_23_method_7_code 0 = .ok (.aload_n 0, 1) := by decide +kernel
theorem dq_SB_append_S_1 : decode prog_23_method_7_code 1 = .ok (.aload_n 1, 1) := by decide +kernel
theorem dq_SB_append_S_2 : decode prog_23_method_7_code 2 = .ok (.invokespecial 29, 3) := by decide +kernel
theorem dq_SB_append_S_5 : decode prog_23_method_7_code 5 = .ok (.pop, 1) := by decide +kernel
theorem dq_SB_append_S_6 : decode prog_23_method_7_code 6 = .ok (.aload_n 0, 1) := by decide +kernel
theorem dq_SB_append_S_7 : decode prog_23_method_7_code 7 = .ok (.areturn, 1) := by decide +kernel
set_option maxRecDepth 100000 in
def pq_SB_append_S_0 (E : wo_E) (mc ms : Nat) (Post : Option Nat → wo_W → Prop) (G : wo_W) (c s : Nat) (x0 : Nat) (x1 : Option Nat) : Prop := wo_ty G x0 = 5 ∧ ∃ mc2 ms3 : Nat, (c + mc2) ≤ mc ∧ (s + ms3) ≤ ms ∧ pq_AB_append_S E mc2 ms3 (fun v5 G4 => 
  Post (some x0) G4) G x0 x1
def pq_SB_append_S (E : wo_E) (mc ms : Nat) (Post : Option Nat → wo_W → Prop) (G : wo_W) (x0 : Nat) (x1 : Option Nat) : Prop := pq_SB_append_S_0 E mc ms Post G 0 0 x0 x1
set_option maxRecDepth 100000 in
set_option maxHeartbeats 4000000 in
theorem tq_SB_append_S_0 {p : Program} {l : Launch} {e : Env} {R : Room} {s₀ : State} {m : MethodId} {args : Array Value} {below : List Frame} {meth : Method} {cd : Code} {E : wo_E} {mc ms : Nat} {Post : Option Nat → wo_W → Prop} (hC : wo_Cx E "java/lang/StringBuilder" prog_23_method_7_code 2 5 120 ((Option.some (Jvm.ClassFile.FieldType.object "java/lang/StringBuilder"))) "append" mc ms p R s₀ m args meth cd) : ∀ {G : wo_W} {c s : Nat} {x0 : Nat} {x1 : Option Nat}, pq_SB_append_S_0 E mc ms Post G c s x0 x1 → ∀ {H : Heap} {locs : List Loc} {ls : Array Slot}, wo_Se E G H → va_S (en_A E) s₀.heap H locs → lx_has ls 2 [(0, 1, .ref x0), (1, 1, va_rf x1)] → c ≤ mc → s ≤ ms → W p l e R s₀ m args below meth cd H locs c s (MQ below (va_Qq Post (wo_B E) (en_A E)) args s₀ mc ms (en_A E)) (F0 m 0 ls []) := by
  intro G c s x0 x1 hw H locs ls hG hS hl hcc hss
  dsimp only [pq_SB_append_S_0] at hw
  have hx := hC.1
  have hb := hC.2.1
  refine lv_aload_n hx hb dq_SB_append_S_0 rfl (lx_at hl 0 rfl) ?_
  refine lx_aloadR_n hx hb dq_SB_append_S_1 rfl (lx_at hl 1 rfl) ?_
  obtain ⟨t1, hw⟩ := hw
  obtain ⟨mc2, ms3, hc1, hs1, hw⟩ := hw
  refine va_callq (wo_runP hC lq_SB_29 (mq_AB_append_S hw) hG hS t1 rfl (lx_sz hl) rfl (Nat.zero_le _) (by decide) dq_SB_append_S_2 ⟨hc1, hs1⟩) hS (fun _ _ h => h) (fun _ h => h) (fun v5 G4 t H locs ht hvm hw' hB _ _ hS => ?_)
  clear hw
  have hw := hw'
  clear hw'
  replace hG := wo_bk ht hB
  replace hcc := hc1
  replace hss := hs1
  refine lv_pop hx hb dq_SB_append_S_5 (lx_cR _) ?_
  refine lv_aload_n hx hb dq_SB_append_S_6 rfl (lx_at hl 0 rfl) ?_
  exact wo_aret (x := (some x0)) hC rfl hG hS hcc hss hw dq_SB_append_S_7
set_option maxHeartbeats 4000000 in
theorem mq_SB_append_S {l : Launch} {E : wo_E} {mc ms : Nat} {Post : Option Nat → wo_W → Prop} {G : wo_W} {x0 : Nat} {x1 : Option Nat} (hw : pq_SB_append_S E mc ms Post G x0 x1) : Met l yq_SB_append_S (Cond.code yq_SB_append_S prog_23_method_7_code 2 ((Option.some (Jvm.ClassFile.FieldType.object "java/lang/StringBuilder"))) :: vw_WG) { frames := 5, cells := mc, slots := ms, locals := 120 } (va_Pc [.ref x0, va_rf x1] (wo_Ok E G)) (va_Qq Post (wo_B E) (en_A E)) mc ms (en_A E) := by
  unfold pq_SB_append_S at hw
  exact wo_met [(1, .ref x0), (1, va_rf x1)] rfl (by decide) (fun q hq => by simp only [List.mem_cons, List.not_mem_nil, or_false] at hq; rcases hq with rfl | rfl <;> first | rfl | exact lx_cR _) (Nat.le_of_ble_eq_true rfl) (fun p e R s m args below meth cd ls hC hG hS hl => tq_SB_append_S_0 hC hw hG hS (lx_sub hl [0, 1] rfl) (Nat.zero_le _) (Nat.zero_le _))

theorem dq_Sh_describe_0 : decode prog_9_method_7_code 0 = .ok (.aload_n 0, 1) := by decide +kernel
theorem dq_Sh_describe_1 : decode prog_9_method_7_code 1 = .ok (.iload_n 1, 1) := by decide +kernel
theorem dq_Sh_describe_2 : decode prog_9_method_7_code 2 = .ok (.invokevirtual 25, 3) := by decide +kernel
theorem dq_Sh_describe_5 : decode prog_9_method_7_code 5 = .ok (.aload_n 0, 1) := by decide +kernel
theorem dq_Sh_describe_6 : decode prog_9_method_7_code 6 = .ok (.bipush 69, 2) := by decide +kernel
theorem dq_Sh_describe_8 : decode prog_9_method_7_code 8 = .ok (.aload_n 2, 1) := by decide +kernel
theorem dq_Sh_describe_9 : decode prog_9_method_7_code 9 = .ok (.getfield 47, 3) := by decide +kernel
theorem dq_Sh_describe_12 : decode prog_9_method_7_code 12 = .ok (.invokevirtual 29, 3) := by decide +kernel
theorem dq_Sh_describe_15 : decode prog_9_method_7_code 15 = .ok (.aload_n 0, 1) := by decide +kernel
theorem dq_Sh_describe_16 : decode prog_9_method_7_code 16 = .ok (.getfield 12, 3) := by decide +kernel
theorem dq_Sh_describe_19 : decode prog_9_method_7_code 19 = .ok (.ldc 107, 2) := by decide +kernel
theorem dq_Sh_describe_21 : decode prog_9_method_7_code 21 = .ok (.invokevirtual 109, 3) := by decide +kernel
theorem dq_Sh_describe_24 : decode prog_9_method_7_code 24 = .ok (.pop, 1) := by decide +kernel
theorem dq_Sh_describe_25 : decode prog_9_method_7_code 25 = .ok (.aload_n 0, 1) := by decide +kernel
theorem dq_Sh_describe_26 : decode prog_9_method_7_code 26 = .ok (.getfield 12, 3) := by decide +kernel
theorem dq_Sh_describe_29 : decode prog_9_method_7_code 29 = .ok (.aload_n 2, 1) := by decide +kernel
theorem dq_Sh_describe_30 : decode prog_9_method_7_code 30 = .ok (.getfield 112, 3) := by decide +kernel
theorem dq_Sh_describe_33 : decode prog_9_method_7_code 33 = .ok (.invokevirtual 33, 3) := by decide +kernel
theorem dq_Sh_describe_36 : decode prog_9_method_7_code 36 = .ok (.pop, 1) := by decide +kernel
theorem dq_Sh_describe_37 : decode prog_9_method_7_code 37 = .ok (.aload_n 0, 1) := by decide +kernel
theorem dq_Sh_describe_38 : decode prog_9_method_7_code 38 = .ok (.getfield 12, 3) := by decide +kernel
theorem dq_Sh_describe_41 : decode prog_9_method_7_code 41 = .ok (.bipush 10, 2) := by decide +kernel
theorem dq_Sh_describe_43 : decode prog_9_method_7_code 43 = .ok (.invokevirtual 33, 3) := by decide +kernel
theorem dq_Sh_describe_46 : decode prog_9_method_7_code 46 = .ok (.pop, 1) := by decide +kernel
theorem dq_Sh_describe_47 : decode prog_9_method_7_code 47 = .ok (.aload_n 2, 1) := by decide +kernel
theorem dq_Sh_describe_48 : decode prog_9_method_7_code 48 = .ok (.getfield 116, 3) := by decide +kernel
theorem dq_Sh_describe_51 : decode prog_9_method_7_code 51 = .ok (.ifCond .eq 13, 3) := by decide +kernel
theorem dq_Sh_describe_54 : decode prog_9_method_7_code 54 = .ok (.aload_n 0, 1) := by decide +kernel
theorem dq_Sh_describe_55 : decode prog_9_method_7_code 55 = .ok (.getfield 12, 3) := by decide +kernel
theorem dq_Sh_describe_58 : decode prog_9_method_7_code 58 = .ok (.ldc 120, 2) := by decide +kernel
theorem dq_Sh_describe_60 : decode prog_9_method_7_code 60 = .ok (.invokevirtual 109, 3) := by decide +kernel
theorem dq_Sh_describe_63 : decode prog_9_method_7_code 63 = .ok (.pop, 1) := by decide +kernel
theorem dq_Sh_describe_64 : decode prog_9_method_7_code 64 = .ok (.aload_n 2, 1) := by decide +kernel
theorem dq_Sh_describe_65 : decode prog_9_method_7_code 65 = .ok (.getfield 122, 3) := by decide +kernel
theorem dq_Sh_describe_68 : decode prog_9_method_7_code 68 = .ok (.invokevirtual 125, 3) := by decide +kernel
theorem dq_Sh_describe_71 : decode prog_9_method_7_code 71 = .ok (.ifCond .ne 35, 3) := by decide +kernel
theorem dq_Sh_describe_74 : decode prog_9_method_7_code 74 = .ok (.aload_n 0, 1) := by decide +kernel
theorem dq_Sh_describe_75 : decode prog_9_method_7_code 75 = .ok (.getfield 12, 3) := by decide +kernel
theorem dq_Sh_describe_78 : decode prog_9_method_7_code 78 = .ok (.ldc 129, 2) := by decide +kernel
theorem dq_Sh_describe_80 : decode prog_9_method_7_code 80 = .ok (.invokevirtual 109, 3) := by decide +kernel
theorem dq_Sh_describe_83 : decode prog_9_method_7_code 83 = .ok (.pop, 1) := by decide +kernel
theorem dq_Sh_describe_84 : decode prog_9_method_7_code 84 = .ok (.aload_n 0, 1) := by decide +kernel
theorem dq_Sh_describe_85 : decode prog_9_method_7_code 85 = .ok (.getfield 12, 3) := by decide +kernel
theorem dq_Sh_describe_88 : decode prog_9_method_7_code 88 = .ok (.aload_n 2, 1) := by decide +kernel
theorem dq_Sh_describe_89 : decode prog_9_method_7_code 89 = .ok (.getfield 122, 3) := by decide +kernel
theorem dq_Sh_describe_92 : decode prog_9_method_7_code 92 = .ok (.invokevirtual 109, 3) := by decide +kernel
theorem dq_Sh_describe_95 : decode prog_9_method_7_code 95 = .ok (.pop, 1) := by decide +kernel
theorem dq_Sh_describe_96 : decode prog_9_method_7_code 96 = .ok (.aload_n 0, 1) := by decide +kernel
theorem dq_Sh_describe_97 : decode prog_9_method_7_code 97 = .ok (.getfield 12, 3) := by decide +kernel
theorem dq_Sh_describe_100 : decode prog_9_method_7_code 100 = .ok (.bipush 10, 2) := by decide +kernel
theorem dq_Sh_describe_102 : decode prog_9_method_7_code 102 = .ok (.invokevirtual 33, 3) := by decide +kernel
theorem dq_Sh_describe_105 : decode prog_9_method_7_code 105 = .ok (.pop, 1) := by decide +kernel
theorem dq_Sh_describe_106 : decode prog_9_method_7_code 106 = .ok (.iload_n 3, 1) := by decide +kernel
theorem dq_Sh_describe_107 : decode prog_9_method_7_code 107 = .ok (.iconst (-1), 1) := by decide +kernel
theorem dq_Sh_describe_108 : decode prog_9_method_7_code 108 = .ok (.if_icmp .eq 10, 3) := by decide +kernel
theorem dq_Sh_describe_111 : decode prog_9_method_7_code 111 = .ok (.aload_n 0, 1) := by decide +kernel
theorem dq_Sh_describe_112 : decode prog_9_method_7_code 112 = .ok (.bipush 65, 2) := by decide +kernel
theorem dq_Sh_describe_114 : decode prog_9_method_7_code 114 = .ok (.iload_n 3, 1) := by decide +kernel
theorem dq_Sh_describe_115 : decode prog_9_method_7_code 115 = .ok (.invokevirtual 29, 3) := by decide +kernel
theorem dq_Sh_describe_118 : decode prog_9_method_7_code 118 = .ok (.return_, 1) := by decide +kernel
set_option maxRecDepth 100000 in
def pq_Sh_describe_118 (E : wo_E) (mc ms : Nat) (Post : wo_W → Prop) (G : wo_W) (c s : Nat) : Prop := Post G
set_option maxRecDepth 100000 in
def pq_Sh_describe_106 (E : wo_E) (mc ms : Nat) (Post : wo_W → Prop) (G : wo_W) (c s : Nat) (x0 : Nat) (x3 : Int32) : Prop := ((x3 = (-1 : Int32) → pq_Sh_describe_118 E mc ms Post G c s) ∧
  (¬ x3 = (-1 : Int32) → wo_ty G x0 = 4 ∧ ∃ mc2 ms3 : Nat, (c + mc2) ≤ mc ∧ (s + ms3) ≤ ms ∧ pq_Sh_numberLine E mc2 ms3 (fun G4 => 
    pq_Sh_describe_118 E mc ms Post G4 (c + mc2) (s + ms3)) G x0 (65 : Int32) x3))
set_option maxRecDepth 100000 in
def pq_Sh_describe_64 (E : wo_E) (mc ms : Nat) (Post : wo_W → Prop) (G : wo_W) (c s : Nat) (x0 : Nat) (x2 : Option Nat) (x3 : Int32) : Prop := ∃ a1 : Nat, x2 = some a1 ∧ wo_ty G a1 = 13 ∧ ∀ r3 : Option Nat, r3 = wo_gr G 771 a1 → ∃ a5 : Nat, r3 = some a5 ∧ wo_ty G a5 = 10 ∧ ∃ mc7 ms8 : Nat, (c + mc7) ≤ mc ∧ (s + ms8) ≤ ms ∧ pq_St_isEmpty E mc7 ms8 (fun v10 G9 => 
  ((¬ v10 = (0 : Int32) → pq_Sh_describe_106 E mc ms Post G9 (c + mc7) (s + ms8) x0 x3) ∧
    (v10 = (0 : Int32) → wo_ty G9 x0 = 4 ∧ ∀ r12 : Option Nat, r12 = wo_gr G9 192 x0 → ∃ a14 : Nat, r12 = some a14 ∧ wo_ty G9 a14 = 5 ∧ ∃ mc16 ms17 : Nat, ((c + mc7) + mc16) ≤ mc ∧ ((s + ms8) + ms17) ≤ ms ∧ pq_SB_append_S E mc16 ms17 (fun v19 G18 => 
      wo_ty G18 x0 = 4 ∧ ∀ r21 : Option Nat, r21 = wo_gr G18 192 x0 → wo_ty G18 a1 = 13 ∧ ∀ r24 : Option Nat, r24 = wo_gr G18 771 a1 → ∃ a26 : Nat, r21 = some a26 ∧ wo_ty G18 a26 = 5 ∧ ∃ mc28 ms29 : Nat, (((c + mc7) + mc16) + mc28) ≤ mc ∧ (((s + ms8) + ms17) + ms29) ≤ ms ∧ pq_SB_append_S E mc28 ms29 (fun v31 G30 => 
        wo_ty G30 x0 = 4 ∧ ∀ r33 : Option Nat, r33 = wo_gr G30 192 x0 → ∃ a35 : Nat, r33 = some a35 ∧ wo_ty G30 a35 = 5 ∧ ∃ mc37 ms38 : Nat, ((((c + mc7) + mc16) + mc28) + mc37) ≤ mc ∧ ((((s + ms8) + ms17) + ms29) + ms38) ≤ ms ∧ pq_SB_append_C E mc37 ms38 (fun v40 G39 => 
          pq_Sh_describe_106 E mc ms Post G39 ((((c + mc7) + mc16) + mc28) + mc37) ((((s + ms8) + ms17) + ms29) + ms38) x0 x3) G30 a35 (10 : Int32)) G18 a26 r24) G9 a14 (some (en_str E 15))))) G a5
set_option maxRecDepth 100000 in
def pq_Sh_describe_0 (E : wo_E) (mc ms : Nat) (Post : wo_W → Prop) (G : wo_W) (c s : Nat) (x0 : Nat) (x1 : Int32) (x2 : Option Nat) (x3 : Int32) : Prop := wo_ty G x0 = 4 ∧ ∃ mc2 ms3 : Nat, (c + mc2) ≤ mc ∧ (s + ms3) ≤ ms ∧ pq_Sh_begin E mc2 ms3 (fun G4 => 
  ∃ a5 : Nat, x2 = some a5 ∧ wo_ty G4 a5 = 13 ∧ wo_ty G4 x0 = 4 ∧ ∃ mc8 ms9 : Nat, ((c + mc2) + mc8) ≤ mc ∧ ((s + ms3) + ms9) ≤ ms ∧ pq_Sh_numberLine E mc8 ms9 (fun G10 => 
    wo_ty G10 x0 = 4 ∧ ∀ r12 : Option Nat, r12 = wo_gr G10 192 x0 → ∃ a14 : Nat, r12 = some a14 ∧ wo_ty G10 a14 = 5 ∧ ∃ mc16 ms17 : Nat, (((c + mc2) + mc8) + mc16) ≤ mc ∧ (((s + ms3) + ms9) + ms17) ≤ ms ∧ pq_SB_append_S E mc16 ms17 (fun v19 G18 => 
      wo_ty G18 x0 = 4 ∧ ∀ r21 : Option Nat, r21 = wo_gr G18 192 x0 → wo_ty G18 a5 = 13 ∧ ∃ a24 : Nat, r21 = some a24 ∧ wo_ty G18 a24 = 5 ∧ ∃ mc26 ms27 : Nat, ((((c + mc2) + mc8) + mc16) + mc26) ≤ mc ∧ ((((s + ms3) + ms9) + ms17) + ms27) ≤ ms ∧ pq_SB_append_C E mc26 ms27 (fun v29 G28 => 
        wo_ty G28 x0 = 4 ∧ ∀ r31 : Option Nat, r31 = wo_gr G28 192 x0 → ∃ a33 : Nat, r31 = some a33 ∧ wo_ty G28 a33 = 5 ∧ ∃ mc35 ms36 : Nat, (((((c + mc2) + mc8) + mc16) + mc26) + mc35) ≤ mc ∧ (((((s + ms3) + ms9) + ms17) + ms27) + ms36) ≤ ms ∧ pq_SB_append_C E mc35 ms36 (fun v38 G37 => 
          wo_ty G37 a5 = 13 ∧ (((wo_gi G37 772 a5) = (0 : Int32) → pq_Sh_describe_64 E mc ms Post G37 (((((c + mc2) + mc8) + mc16) + mc26) + mc35) (((((s + ms3) + ms9) + ms17) + ms27) + ms36) x0 (some a5) x3) ∧
            (¬ (wo_gi G37 772 a5) = (0 : Int32) → wo_ty G37 x0 = 4 ∧ ∀ r41 : Option Nat, r41 = wo_gr G37 192 x0 → ∃ a43 : Nat, r41 = some a43 ∧ wo_ty G37 a43 = 5 ∧ ∃ mc45 ms46 : Nat, ((((((c + mc2) + mc8) + mc16) + mc26) + mc35) + mc45) ≤ mc ∧ ((((((s + ms3) + ms9) + ms17) + ms27) + ms36) + ms46) ≤ ms ∧ pq_SB_append_S E mc45 ms46 (fun v48 G47 => 
              pq_Sh_describe_64 E mc ms Post G47 ((((((c + mc2) + mc8) + mc16) + mc26) + mc35) + mc45) ((((((s + ms3) + ms9) + ms17) + ms27) + ms36) + ms46) x0 (some a5) x3) G37 a43 (some (en_str E 14))))) G28 a33 (10 : Int32)) G18 a24 (wo_gi G18 768 a5)) G10 a14 (some (en_str E 13))) G4 x0 (69 : Int32) (wo_gi G4 770 a5)) G x0 x1
def pq_Sh_describe (E : wo_E) (mc ms : Nat) (Post : wo_W → Prop) (G : wo_W) (x0 : Nat) (x1 : Int32) (x2 : Option Nat) (x3 : Int32) : Prop := pq_Sh_describe_0 E mc ms Post G 0 0 x0 x1 x2 x3
set_option maxRecDepth 100000 in
set_option maxHeartbeats 4000000 in
theorem tq_Sh_describe_118 {p : Program} {l : Launch} {e : Env} {R : Room} {s₀ : State} {m : MethodId} {args : Array Value} {below : List Frame} {meth : Method} {cd : Code} {E : wo_E} {mc ms : Nat} {Post : wo_W → Prop} (hC : wo_Cx E "EdgeCache$Sheet" prog_9_method_7_code 4 7 164 ((Option.none : Option Jvm.ClassFile.FieldType)) "describe" mc ms p R s₀ m args meth cd) : ∀ {G : wo_W} {c s : Nat}, pq_Sh_describe_118 E mc ms Post G c s → ∀ {H : Heap} {locs : List Loc} {ls : Array Slot}, wo_Se E G H → va_S (en_A E) s₀.heap H locs → lx_has ls 4 [] → c ≤ mc → s ≤ ms → W p l e R s₀ m args below meth cd H locs c s (MQ below (va_Qv Post (wo_B E) (en_A E)) args s₀ mc ms (en_A E)) (F0 m 118 ls []) := by
  intro G c s hw H locs ls hG hS hl hcc hss
  dsimp only [pq_Sh_describe_118] at hw
  have hx := hC.1
  have hb := hC.2.1
  exact wo_vret hC hG hS hcc hss hw dq_Sh_describe_118
set_option maxRecDepth 100000 in
set_option maxHeartbeats 4000000 in
theorem tq_Sh_describe_106 {p : Program} {l : Launch} {e : Env} {R : Room} {s₀ : State} {m : MethodId} {args : Array Value} {below : List Frame} {meth : Method} {cd : Code} {E : wo_E} {mc ms : Nat} {Post : wo_W → Prop} (hC : wo_Cx E "EdgeCache$Sheet" prog_9_method_7_code 4 7 164 ((Option.none : Option Jvm.ClassFile.FieldType)) "describe" mc ms p R s₀ m args meth cd) : ∀ {G : wo_W} {c s : Nat} {x0 : Nat} {x3 : Int32}, pq_Sh_describe_106 E mc ms Post G c s x0 x3 → ∀ {H : Heap} {locs : List Loc} {ls : Array Slot}, wo_Se E G H → va_S (en_A E) s₀.heap H locs → lx_has ls 4 [(0, 1, .ref x0), (3, 1, .int x3)] → c ≤ mc → s ≤ ms → W p l e R s₀ m args below meth cd H locs c s (MQ below (va_Qv Post (wo_B E) (en_A E)) args s₀ mc ms (en_A E)) (F0 m 106 ls []) := by
  intro G c s x0 x3 hw H locs ls hG hS hl hcc hss
  dsimp only [pq_Sh_describe_106] at hw
  have hx := hC.1
  have hb := hC.2.1
  refine lv_iload_n hx hb dq_Sh_describe_106 rfl (lx_at hl 1 rfl) ?_
  refine lv_iconst (v := (-1 : Int32)) hx hb dq_Sh_describe_107 rfl ?_
  refine lv_icmp_eq (tgt := 118) hx hb dq_Sh_describe_108 rfl (fun h => ?_) (fun h => ?_)
  · replace hw := hw.1 h
    exact tq_Sh_describe_118 hC hw hG hS (lx_sub hl [] rfl) hcc hss
  · replace hw := hw.2 h
    refine lv_aload_n hx hb dq_Sh_describe_111 rfl (lx_at hl 0 rfl) ?_
    refine lv_bipush (v := (65 : Int32)) hx hb dq_Sh_describe_112 rfl ?_
    refine lv_iload_n hx hb dq_Sh_describe_114 rfl (lx_at hl 1 rfl) ?_
    obtain ⟨t1, hw⟩ := hw
    obtain ⟨mc2, ms3, hc1, hs1, hw⟩ := hw
    refine va_callv (wo_runV hC lq_Sh_29 (mq_Sh_numberLine hw) hG hS t1 rfl (lx_sz hl) rfl (Nat.zero_le _) (by decide) dq_Sh_describe_115 ⟨hc1, hs1⟩) hS (fun _ _ h => h) (fun _ h => h) (fun G4 t H locs ht hvm hw' hB _ _ hS => ?_)
    clear hw
    have hw := hw'
    clear hw'
    replace hG := wo_bk ht hB
    replace hcc := hc1
    replace hss := hs1
    exact tq_Sh_describe_118 hC hw hG hS (lx_sub hl [] rfl) hcc hss
set_option maxRecDepth 100000 in
set_option maxHeartbeats 4000000 in
theorem tq_Sh_describe_64 {p : Program} {l : Launch} {e : Env} {R : Room} {s₀ : State} {m : MethodId} {args : Array Value} {below : List Frame} {meth : Method} {cd : Code} {E : wo_E} {mc ms : Nat} {Post : wo_W → Prop} (hC : wo_Cx E "EdgeCache$Sheet" prog_9_method_7_code 4 7 164 ((Option.none : Option Jvm.ClassFile.FieldType)) "describe" mc ms p R s₀ m args meth cd) : ∀ {G : wo_W} {c s : Nat} {x0 : Nat} {x2 : Option Nat} {x3 : Int32}, pq_Sh_describe_64 E mc ms Post G c s x0 x2 x3 → ∀ {H : Heap} {locs : List Loc} {ls : Array Slot}, wo_Se E G H → va_S (en_A E) s₀.heap H locs → lx_has ls 4 [(0, 1, .ref x0), (2, 1, va_rf x2), (3, 1, .int x3)] → c ≤ mc → s ≤ ms → W p l e R s₀ m args below meth cd H locs c s (MQ below (va_Qv Post (wo_B E) (en_A E)) args s₀ mc ms (en_A E)) (F0 m 64 ls []) := by
  intro G c s x0 x2 x3 hw H locs ls hG hS hl hcc hss
  dsimp only [pq_Sh_describe_64] at hw
  have hx := hC.1
  have hb := hC.2.1
  refine lx_aloadR_n hx hb dq_Sh_describe_64 rfl (lx_at hl 1 rfl) ?_
  obtain ⟨a1, rfl, hw⟩ := hw
  obtain ⟨t2, hw⟩ := hw
  refine wo_getR hC fq_Sh_122 rfl hG t2 dq_Sh_describe_65 (fun r3 e4 => ?_)
  replace hw := hw r3 e4
  obtain ⟨a5, rfl, hw⟩ := hw
  obtain ⟨t6, hw⟩ := hw
  obtain ⟨mc7, ms8, hc1, hs1, hw⟩ := hw
  refine va_calli (wo_runV hC lq_Sh_125 (mq_St_isEmpty hw) hG hS t6 rfl (lx_sz hl) rfl (Nat.zero_le _) (by decide) dq_Sh_describe_68 ⟨hc1, hs1⟩) hS (fun _ _ h => h) (fun _ h => h) (fun v10 G9 t H locs ht hvm hw' hB _ _ hS => ?_)
  clear hw
  have hw := hw'
  clear hw'
  replace hG := wo_bk ht hB
  replace hcc := hc1
  replace hss := hs1
  refine lv_if_ne (tgt := 106) hx hb dq_Sh_describe_71 rfl (fun h => ?_) (fun h => ?_)
  · replace hw := hw.1 h
    exact tq_Sh_describe_106 hC hw hG hS (lx_sub hl [0, 2] rfl) hcc hss
  · replace hw := hw.2 h
    refine lv_aload_n hx hb dq_Sh_describe_74 rfl (lx_at hl 0 rfl) ?_
    obtain ⟨t11, hw⟩ := hw
    refine wo_getR hC fq_Sh_12 rfl hG t11 dq_Sh_describe_75 (fun r12 e13 => ?_)
    replace hw := hw r12 e13
    refine wo_ldcS hC gq_Sh_129 dq_Sh_describe_78 ?_
    obtain ⟨a14, rfl, hw⟩ := hw
    obtain ⟨t15, hw⟩ := hw
    obtain ⟨mc16, ms17, hc1, hs1, hw⟩ := hw
    refine va_callq (wo_runV hC lq_Sh_109 (mq_SB_append_S hw) hG hS t15 rfl (lx_sz hl) rfl (Nat.zero_le _) (by decide) dq_Sh_describe_80 ⟨hc1, hs1⟩) hS (fun _ _ h => h) (fun _ h => h) (fun v19 G18 t H locs ht hvm hw' hB _ _ hS => ?_)
    clear hw
    have hw := hw'
    clear hw'
    replace hG := wo_bk ht hB
    replace hcc := hc1
    replace hss := hs1
    refine lv_pop hx hb dq_Sh_describe_83 (lx_cR _) ?_
    refine lv_aload_n hx hb dq_Sh_describe_84 rfl (lx_at hl 0 rfl) ?_
    obtain ⟨t20, hw⟩ := hw
    refine wo_getR hC fq_Sh_12 rfl hG t20 dq_Sh_describe_85 (fun r21 e22 => ?_)
    replace hw := hw r21 e22
    refine lv_aload_n hx hb dq_Sh_describe_88 rfl (lx_at hl 1 rfl) ?_
    obtain ⟨t23, hw⟩ := hw
    refine wo_getR hC fq_Sh_122 rfl hG t23 dq_Sh_describe_89 (fun r24 e25 => ?_)
    replace hw := hw r24 e25
    obtain ⟨a26, rfl, hw⟩ := hw
    obtain ⟨t27, hw⟩ := hw
    obtain ⟨mc28, ms29, hc1, hs1, hw⟩ := hw
    refine va_callq (wo_runV hC lq_Sh_109 (mq_SB_append_S hw) hG hS t27 rfl (lx_sz hl) rfl (Nat.zero_le _) (by decide) dq_Sh_describe_92 ⟨hc1, hs1⟩) hS (fun _ _ h => h) (fun _ h => h) (fun v31 G30 t H locs ht hvm hw' hB _ _ hS => ?_)
    clear hw
    have hw := hw'
    clear hw'
    replace hG := wo_bk ht hB
    replace hcc := hc1
    replace hss := hs1
    refine lv_pop hx hb dq_Sh_describe_95 (lx_cR _) ?_
    refine lv_aload_n hx hb dq_Sh_describe_96 rfl (lx_at hl 0 rfl) ?_
    obtain ⟨t32, hw⟩ := hw
    refine wo_getR hC fq_Sh_12 rfl hG t32 dq_Sh_describe_97 (fun r33 e34 => ?_)
    replace hw := hw r33 e34
    refine lv_bipush (v := (10 : Int32)) hx hb dq_Sh_describe_100 rfl ?_
    obtain ⟨a35, rfl, hw⟩ := hw
    obtain ⟨t36, hw⟩ := hw
    obtain ⟨mc37, ms38, hc1, hs1, hw⟩ := hw
    refine va_callq (wo_runV hC lq_Sh_33 (mq_SB_append_C hw) hG hS t36 rfl (lx_sz hl) rfl (Nat.zero_le _) (by decide) dq_Sh_describe_102 ⟨hc1, hs1⟩) hS (fun _ _ h => h) (fun _ h => h) (fun v40 G39 t H locs ht hvm hw' hB _ _ hS => ?_)
    clear hw
    have hw := hw'
    clear hw'
    replace hG := wo_bk ht hB
    replace hcc := hc1
    replace hss := hs1
    refine lv_pop hx hb dq_Sh_describe_105 (lx_cR _) ?_
    exact tq_Sh_describe_106 hC hw hG hS (lx_sub hl [0, 2] rfl) hcc hss
set_option maxRecDepth 100000 in
set_option maxHeartbeats 4000000 in
theorem tq_Sh_describe_0 {p : Program} {l : Launch} {e : Env} {R : Room} {s₀ : State} {m : MethodId} {args : Array Value} {below : List Frame} {meth : Method} {cd : Code} {E : wo_E} {mc ms : Nat} {Post : wo_W → Prop} (hC : wo_Cx E "EdgeCache$Sheet" prog_9_method_7_code 4 7 164 ((Option.none : Option Jvm.ClassFile.FieldType)) "describe" mc ms p R s₀ m args meth cd) : ∀ {G : wo_W} {c s : Nat} {x0 : Nat} {x1 : Int32} {x2 : Option Nat} {x3 : Int32}, pq_Sh_describe_0 E mc ms Post G c s x0 x1 x2 x3 → ∀ {H : Heap} {locs : List Loc} {ls : Array Slot}, wo_Se E G H → va_S (en_A E) s₀.heap H locs → lx_has ls 4 [(0, 1, .ref x0), (1, 1, .int x1), (2, 1, va_rf x2), (3, 1, .int x3)] → c ≤ mc → s ≤ ms → W p l e R s₀ m args below meth cd H locs c s (MQ below (va_Qv Post (wo_B E) (en_A E)) args s₀ mc ms (en_A E)) (F0 m 0 ls []) := by
  intro G c s x0 x1 x2 x3 hw H locs ls hG hS hl hcc hss
  dsimp only [pq_Sh_describe_0] at hw
  have hx := hC.1
  have hb := hC.2.1
  refine lv_aload_n hx hb dq_Sh_describe_0 rfl (lx_at hl 0 rfl) ?_
  refine lv_iload_n hx hb dq_Sh_describe_1 rfl (lx_at hl 1 rfl) ?_
  obtain ⟨t1, hw⟩ := hw
  obtain ⟨mc2, ms3, hc1, hs1, hw⟩ := hw
  refine va_callv (wo_runV hC lq_Sh_25 (mq_Sh_begin hw) hG hS t1 rfl (lx_sz hl) rfl (Nat.zero_le _) (by decide) dq_Sh_describe_2 ⟨hc1, hs1⟩) hS (fun _ _ h => h) (fun _ h => h) (fun G4 t H locs ht hvm hw' hB _ _ hS => ?_)
  clear hw
  have hw := hw'
  clear hw'
  replace hG := wo_bk ht hB
  replace hcc := hc1
  replace hss := hs1
  refine lv_aload_n hx hb dq_Sh_describe_5 rfl (lx_at hl 0 rfl) ?_
  refine lv_bipush (v := (69 : Int32)) hx hb dq_Sh_describe_6 rfl ?_
  refine lx_aloadR_n hx hb dq_Sh_describe_8 rfl (lx_at hl 2 rfl) ?_
  obtain ⟨a5, rfl, hw⟩ := hw
  obtain ⟨t6, hw⟩ := hw
  refine wo_getI hC fq_Sh_47 rfl hG t6 dq_Sh_describe_9 ?_
  obtain ⟨t7, hw⟩ := hw
  obtain ⟨mc8, ms9, hc1, hs1, hw⟩ := hw
  refine va_callv (wo_runV hC lq_Sh_29 (mq_Sh_numberLine hw) hG hS t7 rfl (lx_sz hl) rfl (Nat.zero_le _) (by decide) dq_Sh_describe_12 ⟨hc1, hs1⟩) hS (fun _ _ h => h) (fun _ h => h) (fun G10 t H locs ht hvm hw' hB _ _ hS => ?_)
  clear hw
  have hw := hw'
  clear hw'
  replace hG := wo_bk ht hB
  replace hcc := hc1
  replace hss := hs1
  refine lv_aload_n hx hb dq_Sh_describe_15 rfl (lx_at hl 0 rfl) ?_
  obtain ⟨t11, hw⟩ := hw
  refine wo_getR hC fq_Sh_12 rfl hG t11 dq_Sh_describe_16 (fun r12 e13 => ?_)
  replace hw := hw r12 e13
  refine wo_ldcS hC gq_Sh_107 dq_Sh_describe_19 ?_
  obtain ⟨a14, rfl, hw⟩ := hw
  obtain ⟨t15, hw⟩ := hw
  obtain ⟨mc16, ms17, hc1, hs1, hw⟩ := hw
  refine va_callq (wo_runV hC lq_Sh_109 (mq_SB_append_S hw) hG hS t15 rfl (lx_sz hl) rfl (Nat.zero_le _) (by decide) dq_Sh_describe_21 ⟨hc1, hs1⟩) hS (fun _ _ h => h) (fun _ h => h) (fun v19 G18 t H locs ht hvm hw' hB _ _ hS => ?_)
  clear hw
  have hw := hw'
  clear hw'
  replace hG := wo_bk ht hB
  replace hcc := hc1
  replace hss := hs1
  refine lv_pop hx hb dq_Sh_describe_24 (lx_cR _) ?_
  refine lv_aload_n hx hb dq_Sh_describe_25 rfl (lx_at hl 0 rfl) ?_
  obtain ⟨t20, hw⟩ := hw
  refine wo_getR hC fq_Sh_12 rfl hG t20 dq_Sh_describe_26 (fun r21 e22 => ?_)
  replace hw := hw r21 e22
  refine lv_aload_n hx hb dq_Sh_describe_29 rfl (lx_at hl 2 rfl) ?_
  obtain ⟨t23, hw⟩ := hw
  refine wo_getI hC fq_Sh_112 rfl hG t23 dq_Sh_describe_30 ?_
  obtain ⟨a24, rfl, hw⟩ := hw
  obtain ⟨t25, hw⟩ := hw
  obtain ⟨mc26, ms27, hc1, hs1, hw⟩ := hw
  refine va_callq (wo_runV hC lq_Sh_33 (mq_SB_append_C hw) hG hS t25 rfl (lx_sz hl) rfl (Nat.zero_le _) (by decide) dq_Sh_describe_33 ⟨hc1, hs1⟩) hS (fun _ _ h => h) (fun _ h => h) (fun v29 G28 t H locs ht hvm hw' hB _ _ hS => ?_)
  clear hw
  have hw := hw'
  clear hw'
  replace hG := wo_bk ht hB
  replace hcc := hc1
  replace hss := hs1
  refine lv_pop hx hb dq_Sh_describe_36 (lx_cR _) ?_
  refine lv_aload_n hx hb dq_Sh_describe_37 rfl (lx_at hl 0 rfl) ?_
  obtain ⟨t30, hw⟩ := hw
  refine wo_getR hC fq_Sh_12 rfl hG t30 dq_Sh_describe_38 (fun r31 e32 => ?_)
  replace hw := hw r31 e32
  refine lv_bipush (v := (10 : Int32)) hx hb dq_Sh_describe_41 rfl ?_
  obtain ⟨a33, rfl, hw⟩ := hw
  obtain ⟨t34, hw⟩ := hw
  obtain ⟨mc35, ms36, hc1, hs1, hw⟩ := hw
  refine va_callq (wo_runV hC lq_Sh_33 (mq_SB_append_C hw) hG hS t34 rfl (lx_sz hl) rfl (Nat.zero_le _) (by decide) dq_Sh_describe_43 ⟨hc1, hs1⟩) hS (fun _ _ h => h) (fun _ h => h) (fun v38 G37 t H locs ht hvm hw' hB _ _ hS => ?_)
  clear hw
  have hw := hw'
  clear hw'
  replace hG := wo_bk ht hB
  replace hcc := hc1
  replace hss := hs1
  refine lv_pop hx hb dq_Sh_describe_46 (lx_cR _) ?_
  refine lv_aload_n hx hb dq_Sh_describe_47 rfl (lx_at hl 2 rfl) ?_
  obtain ⟨t39, hw⟩ := hw
  refine wo_getI hC fq_Sh_116 rfl hG t39 dq_Sh_describe_48 ?_
  refine lv_if_eq (tgt := 64) hx hb dq_Sh_describe_51 rfl (fun h => ?_) (fun h => ?_)
  · replace hw := hw.1 h
    exact tq_Sh_describe_64 hC hw hG hS (lx_sub hl [0, 2, 3] rfl) hcc hss
  · replace hw := hw.2 h
    refine lv_aload_n hx hb dq_Sh_describe_54 rfl (lx_at hl 0 rfl) ?_
    obtain ⟨t40, hw⟩ := hw
    refine wo_getR hC fq_Sh_12 rfl hG t40 dq_Sh_describe_55 (fun r41 e42 => ?_)
    replace hw := hw r41 e42
    refine wo_ldcS hC gq_Sh_120 dq_Sh_describe_58 ?_
    obtain ⟨a43, rfl, hw⟩ := hw
    obtain ⟨t44, hw⟩ := hw
    obtain ⟨mc45, ms46, hc1, hs1, hw⟩ := hw
    refine va_callq (wo_runV hC lq_Sh_109 (mq_SB_append_S hw) hG hS t44 rfl (lx_sz hl) rfl (Nat.zero_le _) (by decide) dq_Sh_describe_60 ⟨hc1, hs1⟩) hS (fun _ _ h => h) (fun _ h => h) (fun v48 G47 t H locs ht hvm hw' hB _ _ hS => ?_)
    clear hw
    have hw := hw'
    clear hw'
    replace hG := wo_bk ht hB
    replace hcc := hc1
    replace hss := hs1
    refine lv_pop hx hb dq_Sh_describe_63 (lx_cR _) ?_
    exact tq_Sh_describe_64 hC hw hG hS (lx_sub hl [0, 2, 3] rfl) hcc hss
set_option maxHeartbeats 4000000 in
theorem mq_Sh_describe {l : Launch} {E : wo_E} {mc ms : Nat} {Post : wo_W → Prop} {G : wo_W} {x0 : Nat} {x1 : Int32} {x2 : Option Nat} {x3 : Int32} (hw : pq_Sh_describe E mc ms Post G x0 x1 x2 x3) : Met l yq_Sh_describe (Cond.code yq_Sh_describe prog_9_method_7_code 4 ((Option.none : Option Jvm.ClassFile.FieldType)) :: vw_WG) { frames := 7, cells := mc, slots := ms, locals := 164 } (va_Pc [.ref x0, .int x1, va_rf x2, .int x3] (wo_Ok E G)) (va_Qv Post (wo_B E) (en_A E)) mc ms (en_A E) := by
  unfold pq_Sh_describe at hw
  exact wo_met [(1, .ref x0), (1, .int x1), (1, va_rf x2), (1, .int x3)] rfl (by decide) (fun q hq => by simp only [List.mem_cons, List.not_mem_nil, or_false] at hq; rcases hq with rfl | rfl | rfl | rfl <;> first | rfl | exact lx_cR _) (Nat.le_of_ble_eq_true rfl) (fun p e R s m args below meth cd ls hC hG hS hl => tq_Sh_describe_0 hC hw hG hS (lx_sub hl [0, 1, 2, 3] rfl) (Nat.zero_le _) (Nat.zero_le _))

theorem dq_Sh_span_0 : decode prog_9_method_12_code 0 = .ok (.aload_n 0, 1) := by decide +kernel
theorem dq_Sh_span_1 : decode prog_9_method_12_code 1 = .ok (.getfield 12, 3) := by decide +kernel
theorem dq_Sh_span_4 : decode prog_9_method_12_code 4 = .ok (.aload_n 0, 1) := by decide +kernel
theorem dq_Sh_span_5 : decode prog_9_method_12_code 5 = .ok (.getfield 18, 3) := by decide +kernel
theorem dq_Sh_span_8 : decode prog_9_method_12_code 8 = .ok (.iload_n 1, 1) := by decide +kernel
theorem dq_Sh_span_9 : decode prog_9_method_12_code 9 = .ok (.iaload, 1) := by decide +kernel
theorem dq_Sh_span_10 : decode prog_9_method_12_code 10 = .ok (.invokevirtual 104, 3) := by decide +kernel
theorem dq_Sh_span_13 : decode prog_9_method_12_code 13 = .ok (.pop, 1) := by decide +kernel
theorem dq_Sh_span_14 : decode prog_9_method_12_code 14 = .ok (.aload_n 0, 1) := by decide +kernel
theorem dq_Sh_span_15 : decode prog_9_method_12_code 15 = .ok (.getfield 12, 3) := by decide +kernel
theorem dq_Sh_span_18 : decode prog_9_method_12_code 18 = .ok (.bipush 45, 2) := by decide +kernel
theorem dq_Sh_span_20 : decode prog_9_method_12_code 20 = .ok (.invokevirtual 33, 3) := by decide +kernel
theorem dq_Sh_span_23 : decode prog_9_method_12_code 23 = .ok (.pop, 1) := by decide +kernel
theorem dq_Sh_span_24 : decode prog_9_method_12_code 24 = .ok (.aload_n 0, 1) := by decide +kernel
theorem dq_Sh_span_25 : decode prog_9_method_12_code 25 = .ok (.getfield 12, 3) := by decide +kernel
theorem dq_Sh_span_28 : decode prog_9_method_12_code 28 = .ok (.aload_n 0, 1) := by decide +kernel
theorem dq_Sh_span_29 : decode prog_9_method_12_code 29 = .ok (.getfield 22, 3) := by decide +kernel
theorem dq_Sh_span_32 : decode prog_9_method_12_code 32 = .ok (.iload_n 1, 1) := by decide +kernel
theorem dq_Sh_span_33 : decode prog_9_method_12_code 33 = .ok (.iaload, 1) := by decide +kernel
theorem dq_Sh_span_34 : decode prog_9_method_12_code 34 = .ok (.invokevirtual 104, 3) := by decide +kernel
theorem dq_Sh_span_37 : decode prog_9_method_12_code 37 = .ok (.pop, 1) := by decide +kernel
theorem dq_Sh_span_38 : decode prog_9_method_12_code 38 = .ok (.return_, 1) := by decide +kernel
set_option maxRecDepth 100000 in
def pq_Sh_span_0 (E : wo_E) (mc ms : Nat) (Post : wo_W → Prop) (G : wo_W) (c s : Nat) (x0 : Nat) (x1 : Int32) : Prop := wo_ty G x0 = 4 ∧ ∀ r2 : Option Nat, r2 = wo_gr G 192 x0 → ∀ r4 : Option Nat, r4 = wo_gr G 193 x0 → ∃ a6 : Nat, r4 = some a6 ∧ wo_ty G a6 = 66 ∧ vp_in x1 (wo_len G a6) ∧ ∃ a9 : Nat, r2 = some a9 ∧ wo_ty G a9 = 5 ∧ ∃ mc11 ms12 : Nat, (c + mc11) ≤ mc ∧ (s + ms12) ≤ ms ∧ pq_SB_append_I E mc11 ms12 (fun v14 G13 => 
  wo_ty G13 x0 = 4 ∧ ∀ r16 : Option Nat, r16 = wo_gr G13 192 x0 → ∃ a18 : Nat, r16 = some a18 ∧ wo_ty G13 a18 = 5 ∧ ∃ mc20 ms21 : Nat, ((c + mc11) + mc20) ≤ mc ∧ ((s + ms12) + ms21) ≤ ms ∧ pq_SB_append_C E mc20 ms21 (fun v23 G22 => 
    wo_ty G22 x0 = 4 ∧ ∀ r25 : Option Nat, r25 = wo_gr G22 192 x0 → ∀ r27 : Option Nat, r27 = wo_gr G22 194 x0 → ∃ a29 : Nat, r27 = some a29 ∧ wo_ty G22 a29 = 66 ∧ vp_in x1 (wo_len G22 a29) ∧ ∃ a32 : Nat, r25 = some a32 ∧ wo_ty G22 a32 = 5 ∧ ∃ mc34 ms35 : Nat, (((c + mc11) + mc20) + mc34) ≤ mc ∧ (((s + ms12) + ms21) + ms35) ≤ ms ∧ pq_SB_append_I E mc34 ms35 (fun v37 G36 => 
      Post G36) G22 a32 (wo_ei G22 a29 x1.toNatClampNeg)) G13 a18 (45 : Int32)) G a9 (wo_ei G a6 x1.toNatClampNeg)
def pq_Sh_span (E : wo_E) (mc ms : Nat) (Post : wo_W → Prop) (G : wo_W) (x0 : Nat) (x1 : Int32) : Prop := pq_Sh_span_0 E mc ms Post G 0 0 x0 x1
set_option maxRecDepth 100000 in
set_option maxHeartbeats 4000000 in
theorem tq_Sh_span_0 {p : Program} {l : Launch} {e : Env} {R : Room} {s₀ : State} {m : MethodId} {args : Array Value} {below : List Frame} {meth : Method} {cd : Code} {E : wo_E} {mc ms : Nat} {Post : wo_W → Prop} (hC : wo_Cx E "EdgeCache$Sheet" prog_9_method_12_code 2 6 142 ((Option.none : Option Jvm.ClassFile.FieldType)) "span" mc ms p R s₀ m args meth cd) : ∀ {G : wo_W} {c s : Nat} {x0 : Nat} {x1 : Int32}, pq_Sh_span_0 E mc ms Post G c s x0 x1 → ∀ {H : Heap} {locs : List Loc} {ls : Array Slot}, wo_Se E G H → va_S (en_A E) s₀.heap H locs → lx_has ls 2 [(0, 1, .ref x0), (1, 1, .int x1)] → c ≤ mc → s ≤ ms → W p l e R s₀ m args below meth cd H locs c s (MQ below (va_Qv Post (wo_B E) (en_A E)) args s₀ mc ms (en_A E)) (F0 m 0 ls []) := by
  intro G c s x0 x1 hw H locs ls hG hS hl hcc hss
  dsimp only [pq_Sh_span_0] at hw
  have hx := hC.1
  have hb := hC.2.1
  refine lv_aload_n hx hb dq_Sh_span_0 rfl (lx_at hl 0 rfl) ?_
  obtain ⟨t1, hw⟩ := hw
  refine wo_getR hC fq_Sh_12 rfl hG t1 dq_Sh_span_1 (fun r2 e3 => ?_)
  replace hw := hw r2 e3
  refine lv_aload_n hx hb dq_Sh_span_4 rfl (lx_at hl 0 rfl) ?_
  refine wo_getR hC fq_Sh_18 rfl hG t1 dq_Sh_span_5 (fun r4 e5 => ?_)
  replace hw := hw r4 e5
  refine lv_iload_n hx hb dq_Sh_span_8 rfl (lx_at hl 1 rfl) ?_
  obtain ⟨a6, rfl, hw⟩ := hw
  obtain ⟨t7, hw⟩ := hw
  obtain ⟨h8, hw⟩ := hw
  refine wo_iald (j := 2) hC rfl hG t7 h8 dq_Sh_span_9 ?_
  obtain ⟨a9, rfl, hw⟩ := hw
  obtain ⟨t10, hw⟩ := hw
  obtain ⟨mc11, ms12, hc1, hs1, hw⟩ := hw
  refine va_callq (wo_runV hC lq_Sh_104 (mq_SB_append_I hw) hG hS t10 rfl (lx_sz hl) rfl (Nat.zero_le _) (by decide) dq_Sh_span_10 ⟨hc1, hs1⟩) hS (fun _ _ h => h) (fun _ h => h) (fun v14 G13 t H locs ht hvm hw' hB _ _ hS => ?_)
  clear hw
  have hw := hw'
  clear hw'
  replace hG := wo_bk ht hB
  replace hcc := hc1
  replace hss := hs1
  refine lv_pop hx hb dq_Sh_span_13 (lx_cR _) ?_
  refine lv_aload_n hx hb dq_Sh_span_14 rfl (lx_at hl 0 rfl) ?_
  obtain ⟨t15, hw⟩ := hw
  refine wo_getR hC fq_Sh_12 rfl hG t15 dq_Sh_span_15 (fun r16 e17 => ?_)
  replace hw := hw r16 e17
  refine lv_bipush (v := (45 : Int32)) hx hb dq_Sh_span_18 rfl ?_
  obtain ⟨a18, rfl, hw⟩ := hw
  obtain ⟨t19, hw⟩ := hw
  obtain ⟨mc20, ms21, hc1, hs1, hw⟩ := hw
  refine va_callq (wo_runV hC lq_Sh_33 (mq_SB_append_C hw) hG hS t19 rfl (lx_sz hl) rfl (Nat.zero_le _) (by decide) dq_Sh_span_20 ⟨hc1, hs1⟩) hS (fun _ _ h => h) (fun _ h => h) (fun v23 G22 t H locs ht hvm hw' hB _ _ hS => ?_)
  clear hw
  have hw := hw'
  clear hw'
  replace hG := wo_bk ht hB
  replace hcc := hc1
  replace hss := hs1
  refine lv_pop hx hb dq_Sh_span_23 (lx_cR _) ?_
  refine lv_aload_n hx hb dq_Sh_span_24 rfl (lx_at hl 0 rfl) ?_
  obtain ⟨t24, hw⟩ := hw
  refine wo_getR hC fq_Sh_12 rfl hG t24 dq_Sh_span_25 (fun r25 e26 => ?_)
  replace hw := hw r25 e26
  refine lv_aload_n hx hb dq_Sh_span_28 rfl (lx_at hl 0 rfl) ?_
  refine wo_getR hC fq_Sh_22 rfl hG t24 dq_Sh_span_29 (fun r27 e28 => ?_)
  replace hw := hw r27 e28
  refine lv_iload_n hx hb dq_Sh_span_32 rfl (lx_at hl 1 rfl) ?_
  obtain ⟨a29, rfl, hw⟩ := hw
  obtain ⟨t30, hw⟩ := hw
  obtain ⟨h31, hw⟩ := hw
  refine wo_iald (j := 2) hC rfl hG t30 h31 dq_Sh_span_33 ?_
  obtain ⟨a32, rfl, hw⟩ := hw
  obtain ⟨t33, hw⟩ := hw
  obtain ⟨mc34, ms35, hc1, hs1, hw⟩ := hw
  refine va_callq (wo_runV hC lq_Sh_104 (mq_SB_append_I hw) hG hS t33 rfl (lx_sz hl) rfl (Nat.zero_le _) (by decide) dq_Sh_span_34 ⟨hc1, hs1⟩) hS (fun _ _ h => h) (fun _ h => h) (fun v37 G36 t H locs ht hvm hw' hB _ _ hS => ?_)
  clear hw
  have hw := hw'
  clear hw'
  replace hG := wo_bk ht hB
  replace hcc := hc1
  replace hss := hs1
  refine lv_pop hx hb dq_Sh_span_37 (lx_cR _) ?_
  exact wo_vret hC hG hS hcc hss hw dq_Sh_span_38
set_option maxHeartbeats 4000000 in
theorem mq_Sh_span {l : Launch} {E : wo_E} {mc ms : Nat} {Post : wo_W → Prop} {G : wo_W} {x0 : Nat} {x1 : Int32} (hw : pq_Sh_span E mc ms Post G x0 x1) : Met l yq_Sh_span (Cond.code yq_Sh_span prog_9_method_12_code 2 ((Option.none : Option Jvm.ClassFile.FieldType)) :: vw_WG) { frames := 6, cells := mc, slots := ms, locals := 142 } (va_Pc [.ref x0, .int x1] (wo_Ok E G)) (va_Qv Post (wo_B E) (en_A E)) mc ms (en_A E) := by
  unfold pq_Sh_span at hw
  exact wo_met [(1, .ref x0), (1, .int x1)] rfl (by decide) (fun q hq => by simp only [List.mem_cons, List.not_mem_nil, or_false] at hq; rcases hq with rfl | rfl <;> first | rfl | exact lx_cR _) (Nat.le_of_ble_eq_true rfl) (fun p e R s m args below meth cd ls hC hG hS hl => tq_Sh_span_0 hC hw hG hS (lx_sub hl [0, 1] rfl) (Nat.zero_le _) (Nat.zero_le _))

theorem dq_Pc_checkFromToIndex_0 : decode prog_37_method_12_code 0 = .ok (.iload_n 0, 1) := by decide +kernel
theorem dq_Pc_checkFromToIndex_1 : decode prog_37_method_12_code 1 = .ok (.ifCond .lt 13, 3) := by decide +kernel
theorem dq_Pc_checkFromToIndex_4 : decode prog_37_method_12_code 4 = .ok (.iload_n 0, 1) := by decide +kernel
theorem dq_Pc_checkFromToIndex_5 : decode prog_37_method_12_code 5 = .ok (.iload_n 1, 1) := by decide +kernel
theorem dq_Pc_checkFromToIndex_6 : decode prog_37_method_12_code 6 = .ok (.if_icmp .gt 8, 3) := by decide +kernel
theorem dq_Pc_checkFromToIndex_9 : decode prog_37_method_12_code 9 = .ok (.iload_n 1, 1) := by decide +kernel
theorem dq_Pc_checkFromToIndex_10 : decode prog_37_method_12_code 10 = .ok (.iload_n 2, 1) := by decide +kernel
theorem dq_Pc_checkFromToIndex_11 : decode prog_37_method_12_code 11 = .ok (.if_icmp .le 11, 3) := by decide +kernel
theorem dq_Pc_checkFromToIndex_22 : decode prog_37_method_12_code 22 = .ok (.iload_n 0, 1) := by decide +kernel
theorem dq_Pc_checkFromToIndex_23 : decode prog_37_method_12_code 23 = .ok (.ireturn, 1) := by decide +kernel
set_option maxRecDepth 100000 in
def pq_Pc_checkFromToIndex_0 (E : wo_E) (mc ms : Nat) (Post : Int32 → wo_W → Prop) (G : wo_W) (c s : Nat) (x0 : Int32) (x1 : Int32) (x2 : Int32) (x3 : Option Nat) : Prop := ((x0 < (0 : Int32) → False) ∧
  (¬ x0 < (0 : Int32) → ((x1 < x0 → False) ∧
    (¬ x1 < x0 → ((x1 ≤ x2 → Post x0 G) ∧
      (¬ x1 ≤ x2 → False))))))
def pq_Pc_checkFromToIndex (E : wo_E) (mc ms : Nat) (Post : Int32 → wo_W → Prop) (G : wo_W) (x0 : Int32) (x1 : Int32) (x2 : Int32) (x3 : Option Nat) : Prop := pq_Pc_checkFromToIndex_0 E mc ms Post G 0 0 x0 x1 x2 x3
set_option maxRecDepth 100000 in
set_option maxHeartbeats 4000000 in
theorem tq_Pc_checkFromToIndex_0 {p : Program} {l : Launch} {e : Env} {R : Room} {s₀ : State} {m : MethodId} {args : Array Value} {below : List Frame} {meth : Method} {cd : Code} {E : wo_E} {mc ms : Nat} {Post : Int32 → wo_W → Prop} (hC : wo_Cx E "jdk/internal/util/Preconditions" prog_37_method_12_code 4 0 0 ((Option.some Jvm.ClassFile.FieldType.int)) "checkFromToIndex" mc ms p R s₀ m args meth cd) : ∀ {G : wo_W} {c s : Nat} {x0 : Int32} {x1 : Int32} {x2 : Int32} {x3 : Option Nat}, pq_Pc_checkFromToIndex_0 E mc ms Post G c s x0 x1 x2 x3 → ∀ {H : Heap} {locs : List Loc} {ls : Array Slot}, wo_Se E G H → va_S (en_A E) s₀.heap H locs → lx_has ls 4 [(0, 1, .int x0), (1, 1, .int x1), (2, 1, .int x2), (3, 1, va_rf x3)] → c ≤ mc → s ≤ ms → W p l e R s₀ m args below meth cd H locs c s (MQ below (va_Qi Post (wo_B E) (en_A E)) args s₀ mc ms (en_A E)) (F0 m 0 ls []) := by
  intro G c s x0 x1 x2 x3 hw H locs ls hG hS hl hcc hss
  dsimp only [pq_Pc_checkFromToIndex_0] at hw
  have hx := hC.1
  have hb := hC.2.1
  refine lv_iload_n hx hb dq_Pc_checkFromToIndex_0 rfl (lx_at hl 0 rfl) ?_
  refine lv_if_lt (tgt := 14) hx hb dq_Pc_checkFromToIndex_1 rfl (fun h => ?_) (fun h => ?_)
  · replace hw := hw.1 h
    exact hw.elim
  · replace hw := hw.2 h
    refine lv_iload_n hx hb dq_Pc_checkFromToIndex_4 rfl (lx_at hl 0 rfl) ?_
    refine lv_iload_n hx hb dq_Pc_checkFromToIndex_5 rfl (lx_at hl 1 rfl) ?_
    refine lv_icmp_gt (tgt := 14) hx hb dq_Pc_checkFromToIndex_6 rfl (fun h => ?_) (fun h => ?_)
    · replace hw := hw.1 h
      exact hw.elim
    · replace hw := hw.2 h
      refine lv_iload_n hx hb dq_Pc_checkFromToIndex_9 rfl (lx_at hl 1 rfl) ?_
      refine lv_iload_n hx hb dq_Pc_checkFromToIndex_10 rfl (lx_at hl 2 rfl) ?_
      refine lv_icmp_le (tgt := 22) hx hb dq_Pc_checkFromToIndex_11 rfl (fun h => ?_) (fun h => ?_)
      · replace hw := hw.1 h
        refine lv_iload_n hx hb dq_Pc_checkFromToIndex_22 rfl (lx_at hl 0 rfl) ?_
        exact wo_iret hC hG hS hcc hss hw dq_Pc_checkFromToIndex_23
      · replace hw := hw.2 h
        exact hw.elim
set_option maxHeartbeats 4000000 in
theorem mq_Pc_checkFromToIndex {l : Launch} {E : wo_E} {mc ms : Nat} {Post : Int32 → wo_W → Prop} {G : wo_W} {x0 : Int32} {x1 : Int32} {x2 : Int32} {x3 : Option Nat} (hw : pq_Pc_checkFromToIndex E mc ms Post G x0 x1 x2 x3) : Met l yq_Pc_checkFromToIndex (Cond.code yq_Pc_checkFromToIndex prog_37_method_12_code 4 ((Option.some Jvm.ClassFile.FieldType.int)) :: vw_WG) { frames := 0, cells := mc, slots := ms, locals := 0 } (va_Pc [.int x0, .int x1, .int x2, va_rf x3] (wo_Ok E G)) (va_Qi Post (wo_B E) (en_A E)) mc ms (en_A E) := by
  unfold pq_Pc_checkFromToIndex at hw
  exact wo_met [(1, .int x0), (1, .int x1), (1, .int x2), (1, va_rf x3)] rfl (by decide) (fun q hq => by simp only [List.mem_cons, List.not_mem_nil, or_false] at hq; rcases hq with rfl | rfl | rfl | rfl <;> first | rfl | exact lx_cR _) (Nat.le_of_ble_eq_true rfl) (fun p e R s m args below meth cd ls hC hG hS hl => tq_Pc_checkFromToIndex_0 hC hw hG hS (lx_sub hl [0, 1, 2, 3] rfl) (Nat.zero_le _) (Nat.zero_le _))

theorem dq_St_checkBoundsBeginEnd_0 : decode prog_22_method_158_code 0 = .ok (.iload_n 0, 1) := by decide +kernel
theorem dq_St_checkBoundsBeginEnd_1 : decode prog_22_method_158_code 1 = .ok (.iload_n 1, 1) := by decide +kernel
theorem dq_St_checkBoundsBeginEnd_2 : decode prog_22_method_158_code 2 = .ok (.iload_n 2, 1) := by decide +kernel
theorem dq_St_checkBoundsBeginEnd_3 : decode prog_22_method_158_code 3 = .ok (.getstatic 1053, 3) := by decide +kernel
theorem dq_St_checkBoundsBeginEnd_6 : decode prog_22_method_158_code 6 = .ok (.invokestatic 1062, 3) := by decide +kernel
theorem dq_St_checkBoundsBeginEnd_9 : decode prog_22_method_158_code 9 = .ok (.pop, 1) := by decide +kernel
theorem dq_St_checkBoundsBeginEnd_10 : decode prog_22_method_158_code 10 = .ok (.return_, 1) := by decide +kernel
set_option maxRecDepth 100000 in
def pq_St_checkBoundsBeginEnd_0 (E : wo_E) (mc ms : Nat) (Post : wo_W → Prop) (G : wo_W) (c s : Nat) (x0 : Int32) (x1 : Int32) (x2 : Int32) : Prop := ∀ r1 : Option Nat, ∃ mc2 ms3 : Nat, (c + mc2) ≤ mc ∧ (s + ms3) ≤ ms ∧ pq_Pc_checkFromToIndex E mc2 ms3 (fun v5 G4 => 
  Post G4) G x0 x1 x2 r1
def pq_St_checkBoundsBeginEnd (E : wo_E) (mc ms : Nat) (Post : wo_W → Prop) (G : wo_W) (x0 : Int32) (x1 : Int32) (x2 : Int32) : Prop := pq_St_checkBoundsBeginEnd_0 E mc ms Post G 0 0 x0 x1 x2
set_option maxRecDepth 100000 in
set_option maxHeartbeats 4000000 in
theorem tq_St_checkBoundsBeginEnd_0 {p : Program} {l : Launch} {e : Env} {R : Room} {s₀ : State} {m : MethodId} {args : Array Value} {below : List Frame} {meth : Method} {cd : Code} {E : wo_E} {mc ms : Nat} {Post : wo_W → Prop} (hC : wo_Cx E "java/lang/String" prog_22_method_158_code 3 1 23 ((Option.none : Option Jvm.ClassFile.FieldType)) "checkBoundsBeginEnd" mc ms p R s₀ m args meth cd) : ∀ {G : wo_W} {c s : Nat} {x0 : Int32} {x1 : Int32} {x2 : Int32}, pq_St_checkBoundsBeginEnd_0 E mc ms Post G c s x0 x1 x2 → ∀ {H : Heap} {locs : List Loc} {ls : Array Slot}, wo_Se E G H → va_S (en_A E) s₀.heap H locs → lx_has ls 3 [(0, 1, .int x0), (1, 1, .int x1), (2, 1, .int x2)] → c ≤ mc → s ≤ ms → W p l e R s₀ m args below meth cd H locs c s (MQ below (va_Qv Post (wo_B E) (en_A E)) args s₀ mc ms (en_A E)) (F0 m 0 ls []) := by
  intro G c s x0 x1 x2 hw H locs ls hG hS hl hcc hss
  dsimp only [pq_St_checkBoundsBeginEnd_0] at hw
  have hx := hC.1
  have hb := hC.2.1
  refine lv_iload_n hx hb dq_St_checkBoundsBeginEnd_0 rfl (lx_at hl 0 rfl) ?_
  refine lv_iload_n hx hb dq_St_checkBoundsBeginEnd_1 rfl (lx_at hl 1 rfl) ?_
  refine lv_iload_n hx hb dq_St_checkBoundsBeginEnd_2 rfl (lx_at hl 2 rfl) ?_
  refine wo_gstR hC sq_St_1053 hS dq_St_checkBoundsBeginEnd_3 (fun r1 => ?_)
  replace hw := hw r1
  obtain ⟨mc2, ms3, hc1, hs1, hw⟩ := hw
  refine va_calli (wo_runS hC lq_St_1062 (mq_Pc_checkFromToIndex hw) hG hS rfl (lx_sz hl) rfl (Nat.zero_le _) (by decide) dq_St_checkBoundsBeginEnd_6 ⟨hc1, hs1⟩) hS (fun _ _ h => h) (fun _ h => h) (fun v5 G4 t H locs ht hvm hw' hB _ _ hS => ?_)
  clear hw
  have hw := hw'
  clear hw'
  replace hG := wo_bk ht hB
  replace hcc := hc1
  replace hss := hs1
  refine lv_pop hx hb dq_St_checkBoundsBeginEnd_9 rfl ?_
  exact wo_vret hC hG hS hcc hss hw dq_St_checkBoundsBeginEnd_10
set_option maxHeartbeats 4000000 in
theorem mq_St_checkBoundsBeginEnd {l : Launch} {E : wo_E} {mc ms : Nat} {Post : wo_W → Prop} {G : wo_W} {x0 : Int32} {x1 : Int32} {x2 : Int32} (hw : pq_St_checkBoundsBeginEnd E mc ms Post G x0 x1 x2) : Met l yq_St_checkBoundsBeginEnd (Cond.code yq_St_checkBoundsBeginEnd prog_22_method_158_code 3 ((Option.none : Option Jvm.ClassFile.FieldType)) :: vw_WG) { frames := 1, cells := mc, slots := ms, locals := 23 } (va_Pc [.int x0, .int x1, .int x2] (wo_Ok E G)) (va_Qv Post (wo_B E) (en_A E)) mc ms (en_A E) := by
  unfold pq_St_checkBoundsBeginEnd at hw
  exact wo_met [(1, .int x0), (1, .int x1), (1, .int x2)] rfl (by decide) (fun q hq => by simp only [List.mem_cons, List.not_mem_nil, or_false] at hq; rcases hq with rfl | rfl | rfl <;> first | rfl | exact lx_cR _) (Nat.le_of_ble_eq_true rfl) (fun p e R s m args below meth cd ls hC hG hS hl => tq_St_checkBoundsBeginEnd_0 hC hw hG hS (lx_sub hl [0, 1, 2] rfl) (Nat.zero_le _) (Nat.zero_le _))

theorem dq_St_init_aBB_0 : decode prog_22_method_151_code 0 = .ok (.aload_n 0, 1) := by decide +kernel
theorem dq_St_init_aBB_1 : decode prog_22_method_151_code 1 = .ok (.invokespecial 1, 3) := by decide +kernel
theorem dq_St_init_aBB_4 : decode prog_22_method_151_code 4 = .ok (.aload_n 0, 1) := by decide +kernel
theorem dq_St_init_aBB_5 : decode prog_22_method_151_code 5 = .ok (.aload_n 1, 1) := by decide +kernel
theorem dq_St_init_aBB_6 : decode prog_22_method_151_code 6 = .ok (.putfield 9, 3) := by decide +kernel
theorem dq_St_init_aBB_9 : decode prog_22_method_151_code 9 = .ok (.aload_n 0, 1) := by decide +kernel
theorem dq_St_init_aBB_10 : decode prog_22_method_151_code 10 = .ok (.iload_n 2, 1) := by decide +kernel
theorem dq_St_init_aBB_11 : decode prog_22_method_151_code 11 = .ok (.putfield 15, 3) := by decide +kernel
theorem dq_St_init_aBB_14 : decode prog_22_method_151_code 14 = .ok (.return_, 1) := by decide +kernel
set_option maxRecDepth 100000 in
def pq_St_init_aBB_0 (E : wo_E) (mc ms : Nat) (Post : wo_W → Prop) (G : wo_W) (c s : Nat) (x0 : Nat) (x1 : Option Nat) (x2 : Int32) : Prop := wo_ty G x0 = 10 ∧ en_bs E ≤ x0 ∧ ∀ G3 : wo_W, G3 = wo_sr G 576 x0 x1 → 
  en_bs E ≤ x0 ∧ wo_okI .byte x2 ∧ ∀ G7 : wo_W, G7 = wo_si G3 577 x0 x2 → 
  Post G7
def pq_St_init_aBB (E : wo_E) (mc ms : Nat) (Post : wo_W → Prop) (G : wo_W) (x0 : Nat) (x1 : Option Nat) (x2 : Int32) : Prop := pq_St_init_aBB_0 E mc ms Post G 0 0 x0 x1 x2
set_option maxRecDepth 100000 in
set_option maxHeartbeats 4000000 in
theorem tq_St_init_aBB_0 {p : Program} {l : Launch} {e : Env} {R : Room} {s₀ : State} {m : MethodId} {args : Array Value} {below : List Frame} {meth : Method} {cd : Code} {E : wo_E} {mc ms : Nat} {Post : wo_W → Prop} (hC : wo_Cx E "java/lang/String" prog_22_method_151_code 3 1 28 ((Option.none : Option Jvm.ClassFile.FieldType)) "<init>" mc ms p R s₀ m args meth cd) : ∀ {G : wo_W} {c s : Nat} {x0 : Nat} {x1 : Option Nat} {x2 : Int32}, pq_St_init_aBB_0 E mc ms Post G c s x0 x1 x2 → ∀ {H : Heap} {locs : List Loc} {ls : Array Slot}, wo_Se E G H → va_S (en_A E) s₀.heap H locs → lx_has ls 3 [(0, 1, .ref x0), (1, 1, va_rf x1), (2, 1, .int x2)] → c ≤ mc → s ≤ ms → W p l e R s₀ m args below meth cd H locs c s (MQ below (va_Qv Post (wo_B E) (en_A E)) args s₀ mc ms (en_A E)) (F0 m 0 ls []) := by
  intro G c s x0 x1 x2 hw H locs ls hG hS hl hcc hss
  dsimp only [pq_St_init_aBB_0] at hw
  have hx := hC.1
  have hb := hC.2.1
  refine lv_aload_n hx hb dq_St_init_aBB_0 rfl (lx_at hl 0 rfl) ?_
  refine wo_objI hC lq_St_1 (lx_sz hl) (by decide) (lx_rk (Nat.le_of_ble_eq_true rfl)) dq_St_init_aBB_1 ?_
  refine lv_aload_n hx hb dq_St_init_aBB_4 rfl (lx_at hl 0 rfl) ?_
  refine lx_aloadR_n hx hb dq_St_init_aBB_5 rfl (lx_at hl 1 rfl) ?_
  obtain ⟨t1, hw⟩ := hw
  obtain ⟨h2, hw⟩ := hw
  refine wo_putR (x := x1) hC fq_St_9 (Or.inr ⟨rfl, rfl⟩) rfl hG hS t1 h2 dq_St_init_aBB_6 (fun G3 H locs e4 hG hS => ?_)
  replace hw := hw G3 e4
  refine lv_aload_n hx hb dq_St_init_aBB_9 rfl (lx_at hl 0 rfl) ?_
  refine lv_iload_n hx hb dq_St_init_aBB_10 rfl (lx_at hl 2 rfl) ?_
  obtain ⟨h5, hw⟩ := hw
  obtain ⟨h6, hw⟩ := hw
  refine wo_putI hC fq_St_15 (Or.inr ⟨rfl, rfl⟩) rfl h6 hG hS (ty_sr e4 t1) h5 dq_St_init_aBB_11 (fun G7 H locs e8 hG hS => ?_)
  replace hw := hw G7 e8
  exact wo_vret hC hG hS hcc hss hw dq_St_init_aBB_14
set_option maxHeartbeats 4000000 in
theorem mq_St_init_aBB {l : Launch} {E : wo_E} {mc ms : Nat} {Post : wo_W → Prop} {G : wo_W} {x0 : Nat} {x1 : Option Nat} {x2 : Int32} (hw : pq_St_init_aBB E mc ms Post G x0 x1 x2) : Met l yq_St_init_aBB (Cond.code yq_St_init_aBB prog_22_method_151_code 3 ((Option.none : Option Jvm.ClassFile.FieldType)) :: vw_WG) { frames := 1, cells := mc, slots := ms, locals := 28 } (va_Pc [.ref x0, va_rf x1, .int x2] (wo_Ok E G)) (va_Qv Post (wo_B E) (en_A E)) mc ms (en_A E) := by
  unfold pq_St_init_aBB at hw
  exact wo_met [(1, .ref x0), (1, va_rf x1), (1, .int x2)] rfl (by decide) (fun q hq => by simp only [List.mem_cons, List.not_mem_nil, or_false] at hq; rcases hq with rfl | rfl | rfl <;> first | rfl | exact lx_cR _) (Nat.le_of_ble_eq_true rfl) (fun p e R s m args below meth cd ls hC hG hS hl => tq_St_init_aBB_0 hC hw hG hS (lx_sub hl [0, 1, 2] rfl) (Nat.zero_le _) (Nat.zero_le _))

theorem dq_La_newString_0 : decode prog_24_method_47_code 0 = .ok (.iload_n 2, 1) := by decide +kernel
theorem dq_La_newString_1 : decode prog_24_method_47_code 1 = .ok (.ifCond .ne 6, 3) := by decide +kernel
theorem dq_La_newString_4 : decode prog_24_method_47_code 4 = .ok (.ldc 151, 2) := by decide +kernel
theorem dq_La_newString_6 : decode prog_24_method_47_code 6 = .ok (.areturn, 1) := by decide +kernel
theorem dq_La_newString_7 : decode prog_24_method_47_code 7 = .ok (.new 1, 3) := by decide +kernel
theorem dq_La_newString_10 : decode prog_24_method_47_code 10 = .ok (.dup, 1) := by decide +kernel
theorem dq_La_newString_11 : decode prog_24_method_47_code 11 = .ok (.aload_n 0, 1) := by decide +kernel
theorem dq_La_newString_12 : decode prog_24_method_47_code 12 = .ok (.iload_n 1, 1) := by decide +kernel
theorem dq_La_newString_13 : decode prog_24_method_47_code 13 = .ok (.iload_n 1, 1) := by decide +kernel
theorem dq_La_newString_14 : decode prog_24_method_47_code 14 = .ok (.iload_n 2, 1) := by decide +kernel
theorem dq_La_newString_15 : decode prog_24_method_47_code 15 = .ok (.iadd, 1) := by decide +kernel
theorem dq_La_newString_16 : decode prog_24_method_47_code 16 = .ok (.invokestatic 232, 3) := by decide +kernel
theorem dq_La_newString_19 : decode prog_24_method_47_code 19 = .ok (.iconst 0, 1) := by decide +kernel
theorem dq_La_newString_20 : decode prog_24_method_47_code 20 = .ok (.invokespecial 112, 3) := by decide +kernel
theorem dq_La_newString_23 : decode prog_24_method_47_code 23 = .ok (.areturn, 1) := by decide +kernel
set_option maxRecDepth 100000 in
def pq_La_newString_0 (E : wo_E) (mc ms : Nat) (Post : Option Nat → wo_W → Prop) (G : wo_W) (c s : Nat) (x0 : Option Nat) (x1 : Int32) (x2 : Int32) : Prop := ((¬ x2 = (0 : Int32) → (c + 1) ≤ mc ∧ (s + 4) ≤ ms ∧ ∀ q3 : Nat, wo_ty G q3 = 0 → en_bs E ≤ q3 → ∀ G6 : wo_W, G6 = wo_new G q3 10 → 
    ∃ mc8 ms9 : Nat, ((c + 1) + mc8) ≤ mc ∧ ((s + 4) + ms9) ≤ ms ∧ pq_Ar_copyOfRange E mc8 ms9 (fun v11 G10 => 
    wo_ty G10 q3 = 10 ∧ ∃ mc13 ms14 : Nat, (((c + 1) + mc8) + mc13) ≤ mc ∧ (((s + 4) + ms9) + ms14) ≤ ms ∧ pq_St_init_aBB E mc13 ms14 (fun G15 => 
      Post (some q3) G15) G10 q3 v11 (0 : Int32)) G6 x0 x1 (x1 + x2)) ∧
  (x2 = (0 : Int32) → Post (some (en_str E 1)) G))
def pq_La_newString (E : wo_E) (mc ms : Nat) (Post : Option Nat → wo_W → Prop) (G : wo_W) (x0 : Option Nat) (x1 : Int32) (x2 : Int32) : Prop := pq_La_newString_0 E mc ms Post G 0 0 x0 x1 x2
set_option maxRecDepth 100000 in
set_option maxHeartbeats 4000000 in
theorem tq_La_newString_0 {p : Program} {l : Launch} {e : Env} {R : Room} {s₀ : State} {m : MethodId} {args : Array Value} {below : List Frame} {meth : Method} {cd : Code} {E : wo_E} {mc ms : Nat} {Post : Option Nat → wo_W → Prop} (hC : wo_Cx E "java/lang/StringLatin1" prog_24_method_47_code 3 3 74 ((Option.some (Jvm.ClassFile.FieldType.object "java/lang/String"))) "newString" mc ms p R s₀ m args meth cd) : ∀ {G : wo_W} {c s : Nat} {x0 : Option Nat} {x1 : Int32} {x2 : Int32}, pq_La_newString_0 E mc ms Post G c s x0 x1 x2 → ∀ {H : Heap} {locs : List Loc} {ls : Array Slot}, wo_Se E G H → va_S (en_A E) s₀.heap H locs → lx_has ls 3 [(0, 1, va_rf x0), (1, 1, .int x1), (2, 1, .int x2)] → c ≤ mc → s ≤ ms → W p l e R s₀ m args below meth cd H locs c s (MQ below (va_Qq Post (wo_B E) (en_A E)) args s₀ mc ms (en_A E)) (F0 m 0 ls []) := by
  intro G c s x0 x1 x2 hw H locs ls hG hS hl hcc hss
  dsimp only [pq_La_newString_0] at hw
  have hx := hC.1
  have hb := hC.2.1
  refine lv_iload_n hx hb dq_La_newString_0 rfl (lx_at hl 2 rfl) ?_
  refine lv_if_ne (tgt := 7) hx hb dq_La_newString_1 rfl (fun h => ?_) (fun h => ?_)
  · replace hw := hw.1 h
    obtain ⟨h1, hw⟩ := hw
    obtain ⟨h2, hw⟩ := hw
    refine wo_newc hC nq_La_1 hG hS h1 h2 dq_La_newString_7 (fun q3 G6 H z4 b5 e7 hG hS => ?_)
    replace hw := hw q3 z4 b5 G6 e7
    replace hcc := h1
    replace hss := h2
    refine lv_dup hx hb dq_La_newString_10 rfl ?_
    refine lx_aloadR_n hx hb dq_La_newString_11 rfl (lx_at hl 0 rfl) ?_
    refine lv_iload_n hx hb dq_La_newString_12 rfl (lx_at hl 1 rfl) ?_
    refine lv_iload_n hx hb dq_La_newString_13 rfl (lx_at hl 1 rfl) ?_
    refine lv_iload_n hx hb dq_La_newString_14 rfl (lx_at hl 2 rfl) ?_
    refine lv_iadd hx hb dq_La_newString_15 ?_
    obtain ⟨mc8, ms9, hc1, hs1, hw⟩ := hw
    refine va_callq (wo_runS hC lq_La_232 (mq_Ar_copyOfRange hw) hG hS rfl (lx_sz hl) rfl (lx_rm (Nat.le_of_ble_eq_true rfl)) (by decide) dq_La_newString_16 ⟨hc1, hs1⟩) hS (fun _ _ h => h) (fun _ h => h) (fun v11 G10 t H locs ht hvm hw' hB _ _ hS => ?_)
    clear hw
    have hw := hw'
    clear hw'
    replace hG := wo_bk ht hB
    replace hcc := hc1
    replace hss := hs1
    refine lv_iconst (v := (0 : Int32)) hx hb dq_La_newString_19 rfl ?_
    obtain ⟨t12, hw⟩ := hw
    obtain ⟨mc13, ms14, hc1, hs1, hw⟩ := hw
    refine va_callv (wo_runI hC lq_La_112 (mq_St_init_aBB hw) hG hS rfl (lx_sz hl) rfl (lx_rm (Nat.le_of_ble_eq_true rfl)) (by decide) dq_La_newString_20 ⟨hc1, hs1⟩) hS (fun _ _ h => h) (fun _ h => h) (fun G15 t H locs ht hvm hw' hB _ _ hS => ?_)
    clear hw
    have hw := hw'
    clear hw'
    replace hG := wo_bk ht hB
    replace hcc := hc1
    replace hss := hs1
    exact wo_aret (x := (some q3)) hC rfl hG hS hcc hss hw dq_La_newString_23
  · replace hw := hw.2 h
    refine wo_ldcS hC gq_La_151 dq_La_newString_4 ?_
    exact wo_aret (x := (some (en_str E 1))) hC rfl hG hS hcc hss hw dq_La_newString_6
set_option maxHeartbeats 4000000 in
theorem mq_La_newString {l : Launch} {E : wo_E} {mc ms : Nat} {Post : Option Nat → wo_W → Prop} {G : wo_W} {x0 : Option Nat} {x1 : Int32} {x2 : Int32} (hw : pq_La_newString E mc ms Post G x0 x1 x2) : Met l yq_La_newString (Cond.code yq_La_newString prog_24_method_47_code 3 ((Option.some (Jvm.ClassFile.FieldType.object "java/lang/String"))) :: vw_WG) { frames := 3, cells := mc, slots := ms, locals := 74 } (va_Pc [va_rf x0, .int x1, .int x2] (wo_Ok E G)) (va_Qq Post (wo_B E) (en_A E)) mc ms (en_A E) := by
  unfold pq_La_newString at hw
  exact wo_met [(1, va_rf x0), (1, .int x1), (1, .int x2)] rfl (by decide) (fun q hq => by simp only [List.mem_cons, List.not_mem_nil, or_false] at hq; rcases hq with rfl | rfl | rfl <;> first | rfl | exact lx_cR _) (Nat.le_of_ble_eq_true rfl) (fun p e R s m args below meth cd ls hC hG hS hl => tq_La_newString_0 hC hw hG hS (lx_sub hl [0, 1, 2] rfl) (Nat.zero_le _) (Nat.zero_le _))
