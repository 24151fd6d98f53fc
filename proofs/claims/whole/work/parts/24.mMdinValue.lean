theorem dq_Md_inValue_0 : decode prog_14_method_19_code 0 = .ok (.aload_n 0, 1) := by decide +kernel
theorem dq_Md_inValue_1 : decode prog_14_method_19_code 1 = .ok (.iload_n 1, 1) := by decide +kernel
theorem dq_Md_inValue_2 : decode prog_14_method_19_code 2 = .ok (.iload_n 2, 1) := by decide +kernel
theorem dq_Md_inValue_3 : decode prog_14_method_19_code 3 = .ok (.invokevirtual 258, 3) := by decide +kernel
theorem dq_Md_inValue_6 : decode prog_14_method_19_code 6 = .ok (.ifCond .eq 32, 3) := by decide +kernel
theorem dq_Md_inValue_9 : decode prog_14_method_19_code 9 = .ok (.aload_n 0, 1) := by decide +kernel
theorem dq_Md_inValue_10 : decode prog_14_method_19_code 10 = .ok (.getfield 51, 3) := by decide +kernel
theorem dq_Md_inValue_13 : decode prog_14_method_19_code 13 = .ok (.bipush 8, 2) := by decide +kernel
theorem dq_Md_inValue_15 : decode prog_14_method_19_code 15 = .ok (.iload_n 1, 1) := by decide +kernel
theorem dq_Md_inValue_16 : decode prog_14_method_19_code 16 = .ok (.imul, 1) := by decide +kernel
theorem dq_Md_inValue_17 : decode prog_14_method_19_code 17 = .ok (.iload_n 2, 1) := by decide +kernel
theorem dq_Md_inValue_18 : decode prog_14_method_19_code 18 = .ok (.iadd, 1) := by decide +kernel
theorem dq_Md_inValue_19 : decode prog_14_method_19_code 19 = .ok (.laload, 1) := by decide +kernel
theorem dq_Md_inValue_20 : decode prog_14_method_19_code 20 = .ok (.aload_n 0, 1) := by decide +kernel
theorem dq_Md_inValue_21 : decode prog_14_method_19_code 21 = .ok (.getfield 54, 3) := by decide +kernel
theorem dq_Md_inValue_24 : decode prog_14_method_19_code 24 = .ok (.bipush 8, 2) := by decide +kernel
theorem dq_Md_inValue_26 : decode prog_14_method_19_code 26 = .ok (.iload_n 1, 1) := by decide +kernel
theorem dq_Md_inValue_27 : decode prog_14_method_19_code 27 = .ok (.imul, 1) := by decide +kernel
theorem dq_Md_inValue_28 : decode prog_14_method_19_code 28 = .ok (.iload_n 2, 1) := by decide +kernel
theorem dq_Md_inValue_29 : decode prog_14_method_19_code 29 = .ok (.iadd, 1) := by decide +kernel
theorem dq_Md_inValue_30 : decode prog_14_method_19_code 30 = .ok (.iaload, 1) := by decide +kernel
theorem dq_Md_inValue_31 : decode prog_14_method_19_code 31 = .ok (.iload_n 3, 1) := by decide +kernel
theorem dq_Md_inValue_32 : decode prog_14_method_19_code 32 = .ok (.invokestatic 262, 3) := by decide +kernel
theorem dq_Md_inValue_35 : decode prog_14_method_19_code 35 = .ok (.goto 5, 3) := by decide +kernel
theorem dq_Md_inValue_38 : decode prog_14_method_19_code 38 = .ok (.bipush (-2), 2) := by decide +kernel
theorem dq_Md_inValue_40 : decode prog_14_method_19_code 40 = .ok (.ireturn, 1) := by decide +kernel
set_option maxRecDepth 100000 in
def pq_Md_inValue_40 (E : wo_E) (mc ms : Nat) (Post : Int32 → wo_W → Prop) (G : wo_W) (c s : Nat) (y0 : Int32) : Prop := Post y0 G
set_option maxRecDepth 100000 in
def pq_Md_inValue_0 (E : wo_E) (mc ms : Nat) (Post : Int32 → wo_W → Prop) (G : wo_W) (c s : Nat) (x0 : Nat) (x1 : Int32) (x2 : Int32) (x3 : Int32) : Prop := wo_ty G x0 = 15 ∧ ∃ mc2 ms3 : Nat, (c + mc2) ≤ mc ∧ (s + ms3) ≤ ms ∧ pq_Md_has E mc2 ms3 (fun v5 G4 => 
  ((v5 = (0 : Int32) → pq_Md_inValue_40 E mc ms Post G4 (c + mc2) (s + ms3) (-2 : Int32)) ∧
    (¬ v5 = (0 : Int32) → wo_ty G4 x0 = 15 ∧ ∀ r7 : Option Nat, r7 = wo_gr G4 910 x0 → ∃ a9 : Nat, r7 = some a9 ∧ wo_ty G4 a9 = 73 ∧ vp_in (((8 : Int32) * x1) + x2) (wo_len G4 a9) ∧ ∀ r12 : Option Nat, r12 = wo_gr G4 911 x0 → ∃ a14 : Nat, r12 = some a14 ∧ wo_ty G4 a14 = 66 ∧ vp_in (((8 : Int32) * x1) + x2) (wo_len G4 a14) ∧ ∃ mc17 ms18 : Nat, ((c + mc2) + mc17) ≤ mc ∧ ((s + ms3) + ms18) ≤ ms ∧ pq_Md_numberOf E mc17 ms18 (fun v20 G19 => 
      pq_Md_inValue_40 E mc ms Post G19 ((c + mc2) + mc17) ((s + ms3) + ms18) v20) G4 (wo_el G4 a9 (((8 : Int32) * x1) + x2).toNatClampNeg) (wo_ei G4 a14 (((8 : Int32) * x1) + x2).toNatClampNeg) x3))) G x0 x1 x2
def pq_Md_inValue (E : wo_E) (mc ms : Nat) (Post : Int32 → wo_W → Prop) (G : wo_W) (x0 : Nat) (x1 : Int32) (x2 : Int32) (x3 : Int32) : Prop := pq_Md_inValue_0 E mc ms Post G 0 0 x0 x1 x2 x3
set_option maxRecDepth 100000 in
set_option maxHeartbeats 4000000 in
theorem tq_Md_inValue_40 {p : Program} {l : Launch} {e : Env} {R : Room} {s₀ : State} {m : MethodId} {args : Array Value} {below : List Frame} {meth : Method} {cd : Code} {E : wo_E} {mc ms : Nat} {Post : Int32 → wo_W → Prop} (hC : wo_Cx E "EdgeCacheModel" prog_14_method_19_code 4 3 73 ((Option.some Jvm.ClassFile.FieldType.int)) "inValue" mc ms p R s₀ m args meth cd) : ∀ {G : wo_W} {c s : Nat} {y0 : Int32}, pq_Md_inValue_40 E mc ms Post G c s y0 → ∀ {H : Heap} {locs : List Loc} {ls : Array Slot}, wo_Se E G H → va_S (en_A E) s₀.heap H locs → lx_has ls 4 [] → c ≤ mc → s ≤ ms → W p l e R s₀ m args below meth cd H locs c s (MQ below (va_Qi Post (wo_B E) (en_A E)) args s₀ mc ms (en_A E)) (F0 m 40 ls [.int y0]) := by
  intro G c s y0 hw H locs ls hG hS hl hcc hss
  dsimp only [pq_Md_inValue_40] at hw
  have hx := hC.1
  have hb := hC.2.1
  exact wo_iret hC hG hS hcc hss hw dq_Md_inValue_40
set_option maxRecDepth 100000 in
set_option maxHeartbeats 4000000 in
theorem tq_Md_inValue_0 {p : Program} {l : Launch} {e : Env} {R : Room} {s₀ : State} {m : MethodId} {args : Array Value} {below : List Frame} {meth : Method} {cd : Code} {E : wo_E} {mc ms : Nat} {Post : Int32 → wo_W → Prop} (hC : wo_Cx E "EdgeCacheModel" prog_14_method_19_code 4 3 73 ((Option.some Jvm.ClassFile.FieldType.int)) "inValue" mc ms p R s₀ m args meth cd) : ∀ {G : wo_W} {c s : Nat} {x0 : Nat} {x1 : Int32} {x2 : Int32} {x3 : Int32}, pq_Md_inValue_0 E mc ms Post G c s x0 x1 x2 x3 → ∀ {H : Heap} {locs : List Loc} {ls : Array Slot}, wo_Se E G H → va_S (en_A E) s₀.heap H locs → lx_has ls 4 [(0, 1, .ref x0), (1, 1, .int x1), (2, 1, .int x2), (3, 1, .int x3)] → c ≤ mc → s ≤ ms → W p l e R s₀ m args below meth cd H locs c s (MQ below (va_Qi Post (wo_B E) (en_A E)) args s₀ mc ms (en_A E)) (F0 m 0 ls []) := by
  intro G c s x0 x1 x2 x3 hw H locs ls hG hS hl hcc hss
  dsimp only [pq_Md_inValue_0] at hw
  have hx := hC.1
  have hb := hC.2.1
  refine lv_aload_n hx hb dq_Md_inValue_0 rfl (lx_at hl 0 rfl) ?_
  refine lv_iload_n hx hb dq_Md_inValue_1 rfl (lx_at hl 1 rfl) ?_
  refine lv_iload_n hx hb dq_Md_inValue_2 rfl (lx_at hl 2 rfl) ?_
  obtain ⟨t1, hw⟩ := hw
  obtain ⟨mc2, ms3, hc1, hs1, hw⟩ := hw
  refine va_calli (wo_runV hC lq_Md_258 (mq_Md_has hw) hG hS t1 rfl (lx_sz hl) rfl (Nat.zero_le _) (by decide) dq_Md_inValue_3 ⟨hc1, hs1⟩) hS (fun _ _ h => h) (fun _ h => h) (fun v5 G4 t H locs ht hvm hw' hB _ _ hS => ?_)
  clear hw
  have hw := hw'
  clear hw'
  replace hG := wo_bk ht hB
  replace hcc := hc1
  replace hss := hs1
  refine lv_if_eq (tgt := 38) hx hb dq_Md_inValue_6 rfl (fun h => ?_) (fun h => ?_)
  · replace hw := hw.1 h
    refine lv_bipush (v := (-2 : Int32)) hx hb dq_Md_inValue_38 rfl ?_
    exact tq_Md_inValue_40 hC hw hG hS (lx_sub hl [] rfl) hcc hss
  · replace hw := hw.2 h
    refine lv_aload_n hx hb dq_Md_inValue_9 rfl (lx_at hl 0 rfl) ?_
    obtain ⟨t6, hw⟩ := hw
    refine wo_getR hC fq_Md_51 rfl hG t6 dq_Md_inValue_10 (fun r7 e8 => ?_)
    replace hw := hw r7 e8
    refine lv_bipush (v := (8 : Int32)) hx hb dq_Md_inValue_13 rfl ?_
    refine lv_iload_n hx hb dq_Md_inValue_15 rfl (lx_at hl 1 rfl) ?_
    refine lv_imul hx hb dq_Md_inValue_16 ?_
    refine lv_iload_n hx hb dq_Md_inValue_17 rfl (lx_at hl 2 rfl) ?_
    refine lv_iadd hx hb dq_Md_inValue_18 ?_
    obtain ⟨a9, rfl, hw⟩ := hw
    obtain ⟨t10, hw⟩ := hw
    obtain ⟨h11, hw⟩ := hw
    refine wo_lald (j := 9) hC rfl hG t10 h11 dq_Md_inValue_19 ?_
    refine lv_aload_n hx hb dq_Md_inValue_20 rfl (lx_at hl 0 rfl) ?_
    refine wo_getR hC fq_Md_54 rfl hG t6 dq_Md_inValue_21 (fun r12 e13 => ?_)
    replace hw := hw r12 e13
    refine lv_bipush (v := (8 : Int32)) hx hb dq_Md_inValue_24 rfl ?_
    refine lv_iload_n hx hb dq_Md_inValue_26 rfl (lx_at hl 1 rfl) ?_
    refine lv_imul hx hb dq_Md_inValue_27 ?_
    refine lv_iload_n hx hb dq_Md_inValue_28 rfl (lx_at hl 2 rfl) ?_
    refine lv_iadd hx hb dq_Md_inValue_29 ?_
    obtain ⟨a14, rfl, hw⟩ := hw
    obtain ⟨t15, hw⟩ := hw
    obtain ⟨h16, hw⟩ := hw
    refine wo_iald (j := 2) hC rfl hG t15 h16 dq_Md_inValue_30 ?_
    refine lv_iload_n hx hb dq_Md_inValue_31 rfl (lx_at hl 3 rfl) ?_
    obtain ⟨mc17, ms18, hc1, hs1, hw⟩ := hw
    refine va_calli (wo_runS hC lq_Md_262 (mq_Md_numberOf hw) hG hS rfl (lx_sz hl) rfl (Nat.zero_le _) (by decide) dq_Md_inValue_32 ⟨hc1, hs1⟩) hS (fun _ _ h => h) (fun _ h => h) (fun v20 G19 t H locs ht hvm hw' hB _ _ hS => ?_)
    clear hw
    have hw := hw'
    clear hw'
    replace hG := wo_bk ht hB
    replace hcc := hc1
    replace hss := hs1
    refine lv_goto (tgt := 40) hx hb dq_Md_inValue_35 rfl ?_
    exact tq_Md_inValue_40 hC hw hG hS (lx_sub hl [] rfl) hcc hss
set_option maxHeartbeats 4000000 in
theorem mq_Md_inValue {l : Launch} {E : wo_E} {mc ms : Nat} {Post : Int32 → wo_W → Prop} {G : wo_W} {x0 : Nat} {x1 : Int32} {x2 : Int32} {x3 : Int32} (hw : pq_Md_inValue E mc ms Post G x0 x1 x2 x3) : Met l yq_Md_inValue (Cond.code yq_Md_inValue prog_14_method_19_code 4 ((Option.some Jvm.ClassFile.FieldType.int)) :: vw_WG) { frames := 3, cells := mc, slots := ms, locals := 73 } (va_Pc [.ref x0, .int x1, .int x2, .int x3] (wo_Ok E G)) (va_Qi Post (wo_B E) (en_A E)) mc ms (en_A E) := by
  unfold pq_Md_inValue at hw
  exact wo_met [(1, .ref x0), (1, .int x1), (1, .int x2), (1, .int x3)] rfl (by decide) (fun q hq => by simp only [List.mem_cons, List.not_mem_nil, or_false] at hq; rcases hq with rfl | rfl | rfl | rfl <;> first | rfl | exact lx_cR _) (Nat.le_of_ble_eq_true rfl) (fun p e R s m args below meth cd ls hC hG hS hl => tq_Md_inValue_0 hC hw hG hS (lx_sub hl [0, 1, 2, 3] rfl) (Nat.zero_le _) (Nat.zero_le _))

theorem dq_Md_least_0 : decode prog_14_method_36_code 0 = .ok (.aload_n 0, 1) := by decide +kernel
theorem dq_Md_least_1 : decode prog_14_method_36_code 1 = .ok (.getfield 165, 3) := by decide +kernel
theorem dq_Md_least_4 : decode prog_14_method_36_code 4 = .ok (.iconst 3, 1) := by decide +kernel
theorem dq_Md_least_5 : decode prog_14_method_36_code 5 = .ok (.iload_n 1, 1) := by decide +kernel
theorem dq_Md_least_6 : decode prog_14_method_36_code 6 = .ok (.imul, 1) := by decide +kernel
theorem dq_Md_least_7 : decode prog_14_method_36_code 7 = .ok (.iaload, 1) := by decide +kernel
theorem dq_Md_least_8 : decode prog_14_method_36_code 8 = .ok (.ifCond .le 7, 3) := by decide +kernel
theorem dq_Md_least_11 : decode prog_14_method_36_code 11 = .ok (.iconst 0, 1) := by decide +kernel
theorem dq_Md_least_12 : decode prog_14_method_36_code 12 = .ok (.goto 21, 3) := by decide +kernel
theorem dq_Md_least_15 : decode prog_14_method_36_code 15 = .ok (.aload_n 0, 1) := by decide +kernel
theorem dq_Md_least_16 : decode prog_14_method_36_code 16 = .ok (.getfield 165, 3) := by decide +kernel
theorem dq_Md_least_19 : decode prog_14_method_36_code 19 = .ok (.iconst 3, 1) := by decide +kernel
theorem dq_Md_least_20 : decode prog_14_method_36_code 20 = .ok (.iload_n 1, 1) := by decide +kernel
theorem dq_Md_least_21 : decode prog_14_method_36_code 21 = .ok (.imul, 1) := by decide +kernel
theorem dq_Md_least_22 : decode prog_14_method_36_code 22 = .ok (.iconst 1, 1) := by decide +kernel
theorem dq_Md_least_23 : decode prog_14_method_36_code 23 = .ok (.iadd, 1) := by decide +kernel
theorem dq_Md_least_24 : decode prog_14_method_36_code 24 = .ok (.iaload, 1) := by decide +kernel
theorem dq_Md_least_25 : decode prog_14_method_36_code 25 = .ok (.ifCond .le 7, 3) := by decide +kernel
theorem dq_Md_least_28 : decode prog_14_method_36_code 28 = .ok (.iconst 1, 1) := by decide +kernel
theorem dq_Md_least_29 : decode prog_14_method_36_code 29 = .ok (.goto 4, 3) := by decide +kernel
theorem dq_Md_least_32 : decode prog_14_method_36_code 32 = .ok (.iconst 2, 1) := by decide +kernel
theorem dq_Md_least_33 : decode prog_14_method_36_code 33 = .ok (.ireturn, 1) := by decide +kernel
set_option maxRecDepth 100000 in
def pq_Md_least_33 (E : wo_E) (mc ms : Nat) (Post : Int32 → wo_W → Prop) (G : wo_W) (c s : Nat) (y0 : Int32) : Prop := Post y0 G
set_option maxRecDepth 100000 in
def pq_Md_least_0 (E : wo_E) (mc ms : Nat) (Post : Int32 → wo_W → Prop) (G : wo_W) (c s : Nat) (x0 : Nat) (x1 : Int32) : Prop := wo_ty G x0 = 15 ∧ ∀ r2 : Option Nat, r2 = wo_gr G 952 x0 → ∃ a4 : Nat, r2 = some a4 ∧ wo_ty G a4 = 66 ∧ vp_in ((3 : Int32) * x1) (wo_len G a4) ∧ (((wo_ei G a4 ((3 : Int32) * x1).toNatClampNeg) ≤ (0 : Int32) → ∀ r7 : Option Nat, r7 = wo_gr G 952 x0 → ∃ a9 : Nat, r7 = some a9 ∧ wo_ty G a9 = 66 ∧ vp_in (((3 : Int32) * x1) + (1 : Int32)) (wo_len G a9) ∧ (((wo_ei G a9 (((3 : Int32) * x1) + (1 : Int32)).toNatClampNeg) ≤ (0 : Int32) → pq_Md_least_33 E mc ms Post G c s (2 : Int32)) ∧
    (¬ (wo_ei G a9 (((3 : Int32) * x1) + (1 : Int32)).toNatClampNeg) ≤ (0 : Int32) → pq_Md_least_33 E mc ms Post G c s (1 : Int32)))) ∧
  (¬ (wo_ei G a4 ((3 : Int32) * x1).toNatClampNeg) ≤ (0 : Int32) → pq_Md_least_33 E mc ms Post G c s (0 : Int32)))
def pq_Md_least (E : wo_E) (mc ms : Nat) (Post : Int32 → wo_W → Prop) (G : wo_W) (x0 : Nat) (x1 : Int32) : Prop := pq_Md_least_0 E mc ms Post G 0 0 x0 x1
set_option maxRecDepth 100000 in
set_option maxHeartbeats 4000000 in
theorem tq_Md_least_33 {p : Program} {l : Launch} {e : Env} {R : Room} {s₀ : State} {m : MethodId} {args : Array Value} {below : List Frame} {meth : Method} {cd : Code} {E : wo_E} {mc ms : Nat} {Post : Int32 → wo_W → Prop} (hC : wo_Cx E "EdgeCacheModel" prog_14_method_36_code 2 0 0 ((Option.some Jvm.ClassFile.FieldType.int)) "least" mc ms p R s₀ m args meth cd) : ∀ {G : wo_W} {c s : Nat} {y0 : Int32}, pq_Md_least_33 E mc ms Post G c s y0 → ∀ {H : Heap} {locs : List Loc} {ls : Array Slot}, wo_Se E G H → va_S (en_A E) s₀.heap H locs → lx_has ls 2 [] → c ≤ mc → s ≤ ms → W p l e R s₀ m args below meth cd H locs c s (MQ below (va_Qi Post (wo_B E) (en_A E)) args s₀ mc ms (en_A E)) (F0 m 33 ls [.int y0]) := by
  intro G c s y0 hw H locs ls hG hS hl hcc hss
  dsimp only [pq_Md_least_33] at hw
  have hx := hC.1
  have hb := hC.2.1
  exact wo_iret hC hG hS hcc hss hw dq_Md_least_33
set_option maxRecDepth 100000 in
set_option maxHeartbeats 4000000 in
theorem tq_Md_least_0 {p : Program} {l : Launch} {e : Env} {R : Room} {s₀ : State} {m : MethodId} {args : Array Value} {below : List Frame} {meth : Method} {cd : Code} {E : wo_E} {mc ms : Nat} {Post : Int32 → wo_W → Prop} (hC : wo_Cx E "EdgeCacheModel" prog_14_method_36_code 2 0 0 ((Option.some Jvm.ClassFile.FieldType.int)) "least" mc ms p R s₀ m args meth cd) : ∀ {G : wo_W} {c s : Nat} {x0 : Nat} {x1 : Int32}, pq_Md_least_0 E mc ms Post G c s x0 x1 → ∀ {H : Heap} {locs : List Loc} {ls : Array Slot}, wo_Se E G H → va_S (en_A E) s₀.heap H locs → lx_has ls 2 [(0, 1, .ref x0), (1, 1, .int x1)] → c ≤ mc → s ≤ ms → W p l e R s₀ m args below meth cd H locs c s (MQ below (va_Qi Post (wo_B E) (en_A E)) args s₀ mc ms (en_A E)) (F0 m 0 ls []) := by
  intro G c s x0 x1 hw H locs ls hG hS hl hcc hss
  dsimp only [pq_Md_least_0] at hw
  have hx := hC.1
  have hb := hC.2.1
  refine lv_aload_n hx hb dq_Md_least_0 rfl (lx_at hl 0 rfl) ?_
  obtain ⟨t1, hw⟩ := hw
  refine wo_getR hC fq_Md_165 rfl hG t1 dq_Md_least_1 (fun r2 e3 => ?_)
  replace hw := hw r2 e3
  refine lv_iconst (v := (3 : Int32)) hx hb dq_Md_least_4 rfl ?_
  refine lv_iload_n hx hb dq_Md_least_5 rfl (lx_at hl 1 rfl) ?_
  refine lv_imul hx hb dq_Md_least_6 ?_
  obtain ⟨a4, rfl, hw⟩ := hw
  obtain ⟨t5, hw⟩ := hw
  obtain ⟨h6, hw⟩ := hw
  refine wo_iald (j := 2) hC rfl hG t5 h6 dq_Md_least_7 ?_
  refine lv_if_le (tgt := 15) hx hb dq_Md_least_8 rfl (fun h => ?_) (fun h => ?_)
  · replace hw := hw.1 h
    refine lv_aload_n hx hb dq_Md_least_15 rfl (lx_at hl 0 rfl) ?_
    refine wo_getR hC fq_Md_165 rfl hG t1 dq_Md_least_16 (fun r7 e8 => ?_)
    replace hw := hw r7 e8
    refine lv_iconst (v := (3 : Int32)) hx hb dq_Md_least_19 rfl ?_
    refine lv_iload_n hx hb dq_Md_least_20 rfl (lx_at hl 1 rfl) ?_
    refine lv_imul hx hb dq_Md_least_21 ?_
    refine lv_iconst (v := (1 : Int32)) hx hb dq_Md_least_22 rfl ?_
    refine lv_iadd hx hb dq_Md_least_23 ?_
    obtain ⟨a9, rfl, hw⟩ := hw
    obtain ⟨t10, hw⟩ := hw
    obtain ⟨h11, hw⟩ := hw
    refine wo_iald (j := 2) hC rfl hG t10 h11 dq_Md_least_24 ?_
    refine lv_if_le (tgt := 32) hx hb dq_Md_least_25 rfl (fun h => ?_) (fun h => ?_)
    · replace hw := hw.1 h
      refine lv_iconst (v := (2 : Int32)) hx hb dq_Md_least_32 rfl ?_
      exact tq_Md_least_33 hC hw hG hS (lx_sub hl [] rfl) hcc hss
    · replace hw := hw.2 h
      refine lv_iconst (v := (1 : Int32)) hx hb dq_Md_least_28 rfl ?_
      refine lv_goto (tgt := 33) hx hb dq_Md_least_29 rfl ?_
      exact tq_Md_least_33 hC hw hG hS (lx_sub hl [] rfl) hcc hss
  · replace hw := hw.2 h
    refine lv_iconst (v := (0 : Int32)) hx hb dq_Md_least_11 rfl ?_
    refine lv_goto (tgt := 33) hx hb dq_Md_least_12 rfl ?_
    exact tq_Md_least_33 hC hw hG hS (lx_sub hl [] rfl) hcc hss
set_option maxHeartbeats 4000000 in
theorem mq_Md_least {l : Launch} {E : wo_E} {mc ms : Nat} {Post : Int32 → wo_W → Prop} {G : wo_W} {x0 : Nat} {x1 : Int32} (hw : pq_Md_least E mc ms Post G x0 x1) : Met l yq_Md_least (Cond.code yq_Md_least prog_14_method_36_code 2 ((Option.some Jvm.ClassFile.FieldType.int)) :: vw_WG) { frames := 0, cells := mc, slots := ms, locals := 0 } (va_Pc [.ref x0, .int x1] (wo_Ok E G)) (va_Qi Post (wo_B E) (en_A E)) mc ms (en_A E) := by
  unfold pq_Md_least at hw
  exact wo_met [(1, .ref x0), (1, .int x1)] rfl (by decide) (fun q hq => by simp only [List.mem_cons, List.not_mem_nil, or_false] at hq; rcases hq with rfl | rfl <;> first | rfl | exact lx_cR _) (Nat.le_of_ble_eq_true rfl) (fun p e R s m args below meth cd ls hC hG hS hl => tq_Md_least_0 hC hw hG hS (lx_sub hl [0, 1] rfl) (Nat.zero_le _) (Nat.zero_le _))

theorem dq_Md_letters_0 : decode prog_14_method_37_code 0 = .ok (.iconst 0, 1) := by decide +kernel
theorem dq_Md_letters_1 : decode prog_14_method_37_code 1 = .ok (.istore_n 2, 1) := by decide +kernel
theorem dq_Md_letters_2 : decode prog_14_method_37_code 2 = .ok (.iconst 0, 1) := by decide +kernel
theorem dq_Md_letters_3 : decode prog_14_method_37_code 3 = .ok (.istore_n 3, 1) := by decide +kernel
theorem dq_Md_letters_4 : decode prog_14_method_37_code 4 = .ok (.iload_n 3, 1) := by decide +kernel
theorem dq_Md_letters_5 : decode prog_14_method_37_code 5 = .ok (.iconst 3, 1) := by decide +kernel
theorem dq_Md_letters_6 : decode prog_14_method_37_code 6 = .ok (.if_icmp .ge 30, 3) := by decide +kernel
theorem dq_Md_letters_9 : decode prog_14_method_37_code 9 = .ok (.aload_n 0, 1) := by decide +kernel
theorem dq_Md_letters_10 : decode prog_14_method_37_code 10 = .ok (.getfield 165, 3) := by decide +kernel
theorem dq_Md_letters_13 : decode prog_14_method_37_code 13 = .ok (.iconst 3, 1) := by decide +kernel
theorem dq_Md_letters_14 : decode prog_14_method_37_code 14 = .ok (.iload_n 1, 1) := by decide +kernel
theorem dq_Md_letters_15 : decode prog_14_method_37_code 15 = .ok (.imul, 1) := by decide +kernel
theorem dq_Md_letters_16 : decode prog_14_method_37_code 16 = .ok (.iload_n 3, 1) := by decide +kernel
theorem dq_Md_letters_17 : decode prog_14_method_37_code 17 = .ok (.iadd, 1) := by decide +kernel
theorem dq_Md_letters_18 : decode prog_14_method_37_code 18 = .ok (.iaload, 1) := by decide +kernel
theorem dq_Md_letters_19 : decode prog_14_method_37_code 19 = .ok (.ifCond .le 9, 3) := by decide +kernel
theorem dq_Md_letters_22 : decode prog_14_method_37_code 22 = .ok (.iload_n 2, 1) := by decide +kernel
theorem dq_Md_letters_23 : decode prog_14_method_37_code 23 = .ok (.iconst 1, 1) := by decide +kernel
theorem dq_Md_letters_24 : decode prog_14_method_37_code 24 = .ok (.iadd, 1) := by decide +kernel
theorem dq_Md_letters_25 : decode prog_14_method_37_code 25 = .ok (.goto 4, 3) := by decide +kernel
theorem dq_Md_letters_28 : decode prog_14_method_37_code 28 = .ok (.iload_n 2, 1) := by decide +kernel
theorem dq_Md_letters_29 : decode prog_14_method_37_code 29 = .ok (.istore_n 2, 1) := by decide +kernel
theorem dq_Md_letters_30 : decode prog_14_method_37_code 30 = .ok (.iinc 3 1, 3) := by decide +kernel
theorem dq_Md_letters_33 : decode prog_14_method_37_code 33 = .ok (.goto (-29), 3) := by decide +kernel
theorem dq_Md_letters_36 : decode prog_14_method_37_code 36 = .ok (.iload_n 2, 1) := by decide +kernel
theorem dq_Md_letters_37 : decode prog_14_method_37_code 37 = .ok (.ireturn, 1) := by decide +kernel
set_option maxRecDepth 100000 in
def pq_Md_letters_29 (E : wo_E) (mc ms : Nat) (Post : Int32 → wo_W → Prop) (k4 : wo_W → Nat → Nat → Nat → Int32 → Int32 → Int32 → Prop) (G : wo_W) (c s : Nat) (x0 : Nat) (x1 : Int32) (x3 : Int32) (y0 : Int32) : Prop := k4 G c s x0 x1 y0 (x3 + (1 : Int32))
set_option maxRecDepth 100000 in
def pq_Md_letters_4 (E : wo_E) (mc ms : Nat) (Post : Int32 → wo_W → Prop) : Nat → wo_W → Nat → Nat → Nat → Int32 → Int32 → Int32 → Prop
  | 0 => fun _ _ _ _ _ _ _ => False
  | n + 1 => fun G c s x0 x1 x2 x3 => (((3 : Int32) ≤ x3 → Post x2 G) ∧
  (¬ (3 : Int32) ≤ x3 → wo_ty G x0 = 15 ∧ ∀ r2 : Option Nat, r2 = wo_gr G 952 x0 → ∃ a4 : Nat, r2 = some a4 ∧ wo_ty G a4 = 66 ∧ vp_in (((3 : Int32) * x1) + x3) (wo_len G a4) ∧ (((wo_ei G a4 (((3 : Int32) * x1) + x3).toNatClampNeg) ≤ (0 : Int32) → pq_Md_letters_29 E mc ms Post (pq_Md_letters_4 E mc ms Post n) G c s x0 x1 x3 x2) ∧
    (¬ (wo_ei G a4 (((3 : Int32) * x1) + x3).toNatClampNeg) ≤ (0 : Int32) → pq_Md_letters_29 E mc ms Post (pq_Md_letters_4 E mc ms Post n) G c s x0 x1 x3 (x2 + (1 : Int32))))))
set_option maxRecDepth 100000 in
def pq_Md_letters_0 (E : wo_E) (mc ms : Nat) (Post : Int32 → wo_W → Prop) (G : wo_W) (c s : Nat) (x0 : Nat) (x1 : Int32) : Prop := ∃ n1 : Nat, pq_Md_letters_4 E mc ms Post n1 G c s x0 x1 (0 : Int32) (0 : Int32)
def pq_Md_letters (E : wo_E) (mc ms : Nat) (Post : Int32 → wo_W → Prop) (G : wo_W) (x0 : Nat) (x1 : Int32) : Prop := pq_Md_letters_0 E mc ms Post G 0 0 x0 x1
set_option maxRecDepth 100000 in
set_option maxHeartbeats 4000000 in
theorem tq_Md_letters_29 {p : Program} {l : Launch} {e : Env} {R : Room} {s₀ : State} {m : MethodId} {args : Array Value} {below : List Frame} {meth : Method} {cd : Code} {E : wo_E} {mc ms : Nat} {Post : Int32 → wo_W → Prop} {k4 : wo_W → Nat → Nat → Nat → Int32 → Int32 → Int32 → Prop} (hC : wo_Cx E "EdgeCacheModel" prog_14_method_37_code 4 0 0 ((Option.some Jvm.ClassFile.FieldType.int)) "letters" mc ms p R s₀ m args meth cd) (hk4 : ∀ {G : wo_W} {c s : Nat} {x0 : Nat} {x1 : Int32} {x2 : Int32} {x3 : Int32}, k4 G c s x0 x1 x2 x3 → ∀ {H : Heap} {locs : List Loc} {ls : Array Slot}, wo_Se E G H → va_S (en_A E) s₀.heap H locs → lx_has ls 4 [(0, 1, .ref x0), (1, 1, .int x1), (2, 1, .int x2), (3, 1, .int x3)] → c ≤ mc → s ≤ ms → W p l e R s₀ m args below meth cd H locs c s (MQ below (va_Qi Post (wo_B E) (en_A E)) args s₀ mc ms (en_A E)) (F0 m 4 ls [])) : ∀ {G : wo_W} {c s : Nat} {x0 : Nat} {x1 : Int32} {x3 : Int32} {y0 : Int32}, pq_Md_letters_29 E mc ms Post k4 G c s x0 x1 x3 y0 → ∀ {H : Heap} {locs : List Loc} {ls : Array Slot}, wo_Se E G H → va_S (en_A E) s₀.heap H locs → lx_has ls 4 [(0, 1, .ref x0), (1, 1, .int x1), (3, 1, .int x3)] → c ≤ mc → s ≤ ms → W p l e R s₀ m args below meth cd H locs c s (MQ below (va_Qi Post (wo_B E) (en_A E)) args s₀ mc ms (en_A E)) (F0 m 29 ls [.int y0]) := by
  intro G c s x0 x1 x3 y0 hw H locs ls hG hS hl hcc hss
  dsimp only [pq_Md_letters_29] at hw
  have hx := hC.1
  have hb := hC.2.1
  refine lx_istore_n (lv' := [(2, 1, .int y0), (0, 1, .ref x0), (1, 1, .int x1), (3, 1, .int x3)]) hx hb dq_Md_letters_29 rfl hl (by decide) rfl (fun ls hl' => ?_)
  clear hl
  have hl := hl'
  clear hl'
  refine lx_iinc (k := 3) (v := (x3 + (1 : Int32))) (lv' := [(3, 1, .int (x3 + (1 : Int32))), (2, 1, .int y0), (0, 1, .ref x0), (1, 1, .int x1)]) hx hb dq_Md_letters_30 hl rfl rfl (by decide) rfl (fun ls hl' => ?_)
  clear hl
  have hl := hl'
  clear hl'
  refine lv_goto (tgt := 4) hx hb dq_Md_letters_33 rfl ?_
  exact hk4 hw hG hS (lx_sub hl [2, 3, 1, 0] rfl) hcc hss
set_option maxRecDepth 100000 in
set_option maxHeartbeats 4000000 in
theorem tq_Md_letters_4 {p : Program} {l : Launch} {e : Env} {R : Room} {s₀ : State} {m : MethodId} {args : Array Value} {below : List Frame} {meth : Method} {cd : Code} {E : wo_E} {mc ms : Nat} {Post : Int32 → wo_W → Prop} (hC : wo_Cx E "EdgeCacheModel" prog_14_method_37_code 4 0 0 ((Option.some Jvm.ClassFile.FieldType.int)) "letters" mc ms p R s₀ m args meth cd) : ∀ n : Nat, ∀ {G : wo_W} {c s : Nat} {x0 : Nat} {x1 : Int32} {x2 : Int32} {x3 : Int32}, pq_Md_letters_4 E mc ms Post n G c s x0 x1 x2 x3 → ∀ {H : Heap} {locs : List Loc} {ls : Array Slot}, wo_Se E G H → va_S (en_A E) s₀.heap H locs → lx_has ls 4 [(0, 1, .ref x0), (1, 1, .int x1), (2, 1, .int x2), (3, 1, .int x3)] → c ≤ mc → s ≤ ms → W p l e R s₀ m args below meth cd H locs c s (MQ below (va_Qi Post (wo_B E) (en_A E)) args s₀ mc ms (en_A E)) (F0 m 4 ls []) := by
  intro n
  induction n with
  | zero => intro G c s x0 x1 x2 x3 hw; exact hw.elim
  | succ n ih =>
    intro G c s x0 x1 x2 x3 hw H locs ls hG hS hl hcc hss
    dsimp only [pq_Md_letters_4] at hw
    have hx := hC.1
    have hb := hC.2.1
    refine lv_iload_n hx hb dq_Md_letters_4 rfl (lx_at hl 3 rfl) ?_
    refine lv_iconst (v := (3 : Int32)) hx hb dq_Md_letters_5 rfl ?_
    refine lv_icmp_ge (tgt := 36) hx hb dq_Md_letters_6 rfl (fun h => ?_) (fun h => ?_)
    · replace hw := hw.1 h
      refine lv_iload_n hx hb dq_Md_letters_36 rfl (lx_at hl 2 rfl) ?_
      exact wo_iret hC hG hS hcc hss hw dq_Md_letters_37
    · replace hw := hw.2 h
      refine lv_aload_n hx hb dq_Md_letters_9 rfl (lx_at hl 0 rfl) ?_
      obtain ⟨t1, hw⟩ := hw
      refine wo_getR hC fq_Md_165 rfl hG t1 dq_Md_letters_10 (fun r2 e3 => ?_)
      replace hw := hw r2 e3
      refine lv_iconst (v := (3 : Int32)) hx hb dq_Md_letters_13 rfl ?_
      refine lv_iload_n hx hb dq_Md_letters_14 rfl (lx_at hl 1 rfl) ?_
      refine lv_imul hx hb dq_Md_letters_15 ?_
      refine lv_iload_n hx hb dq_Md_letters_16 rfl (lx_at hl 3 rfl) ?_
      refine lv_iadd hx hb dq_Md_letters_17 ?_
      obtain ⟨a4, rfl, hw⟩ := hw
      obtain ⟨t5, hw⟩ := hw
      obtain ⟨h6, hw⟩ := hw
      refine wo_iald (j := 2) hC rfl hG t5 h6 dq_Md_letters_18 ?_
      refine lv_if_le (tgt := 28) hx hb dq_Md_letters_19 rfl (fun h => ?_) (fun h => ?_)
      · replace hw := hw.1 h
        refine lv_iload_n hx hb dq_Md_letters_28 rfl (lx_at hl 2 rfl) ?_
        exact tq_Md_letters_29 hC ih hw hG hS (lx_sub hl [0, 1, 3] rfl) hcc hss
      · replace hw := hw.2 h
        refine lv_iload_n hx hb dq_Md_letters_22 rfl (lx_at hl 2 rfl) ?_
        refine lv_iconst (v := (1 : Int32)) hx hb dq_Md_letters_23 rfl ?_
        refine lv_iadd hx hb dq_Md_letters_24 ?_
        refine lv_goto (tgt := 29) hx hb dq_Md_letters_25 rfl ?_
        exact tq_Md_letters_29 hC ih hw hG hS (lx_sub hl [0, 1, 3] rfl) hcc hss
set_option maxRecDepth 100000 in
set_option maxHeartbeats 4000000 in
theorem tq_Md_letters_0 {p : Program} {l : Launch} {e : Env} {R : Room} {s₀ : State} {m : MethodId} {args : Array Value} {below : List Frame} {meth : Method} {cd : Code} {E : wo_E} {mc ms : Nat} {Post : Int32 → wo_W → Prop} (hC : wo_Cx E "EdgeCacheModel" prog_14_method_37_code 4 0 0 ((Option.some Jvm.ClassFile.FieldType.int)) "letters" mc ms p R s₀ m args meth cd) : ∀ {G : wo_W} {c s : Nat} {x0 : Nat} {x1 : Int32}, pq_Md_letters_0 E mc ms Post G c s x0 x1 → ∀ {H : Heap} {locs : List Loc} {ls : Array Slot}, wo_Se E G H → va_S (en_A E) s₀.heap H locs → lx_has ls 4 [(0, 1, .ref x0), (1, 1, .int x1)] → c ≤ mc → s ≤ ms → W p l e R s₀ m args below meth cd H locs c s (MQ below (va_Qi Post (wo_B E) (en_A E)) args s₀ mc ms (en_A E)) (F0 m 0 ls []) := by
  intro G c s x0 x1 hw H locs ls hG hS hl hcc hss
  dsimp only [pq_Md_letters_0] at hw
  have hx := hC.1
  have hb := hC.2.1
  refine lv_iconst (v := (0 : Int32)) hx hb dq_Md_letters_0 rfl ?_
  refine lx_istore_n (lv' := [(2, 1, .int (0 : Int32)), (0, 1, .ref x0), (1, 1, .int x1)]) hx hb dq_Md_letters_1 rfl hl (by decide) rfl (fun ls hl' => ?_)
  clear hl
  have hl := hl'
  clear hl'
  refine lv_iconst (v := (0 : Int32)) hx hb dq_Md_letters_2 rfl ?_
  refine lx_istore_n (lv' := [(3, 1, .int (0 : Int32)), (2, 1, .int (0 : Int32)), (0, 1, .ref x0), (1, 1, .int x1)]) hx hb dq_Md_letters_3 rfl hl (by decide) rfl (fun ls hl' => ?_)
  clear hl
  have hl := hl'
  clear hl'
  obtain ⟨n1, hw⟩ := hw
  exact tq_Md_letters_4 hC n1 hw hG hS (lx_sub hl [2, 3, 1, 0] rfl) hcc hss
set_option maxHeartbeats 4000000 in
theorem mq_Md_letters {l : Launch} {E : wo_E} {mc ms : Nat} {Post : Int32 → wo_W → Prop} {G : wo_W} {x0 : Nat} {x1 : Int32} (hw : pq_Md_letters E mc ms Post G x0 x1) : Met l yq_Md_letters (Cond.code yq_Md_letters prog_14_method_37_code 4 ((Option.some Jvm.ClassFile.FieldType.int)) :: vw_WG) { frames := 0, cells := mc, slots := ms, locals := 0 } (va_Pc [.ref x0, .int x1] (wo_Ok E G)) (va_Qi Post (wo_B E) (en_A E)) mc ms (en_A E) := by
  unfold pq_Md_letters at hw
  exact wo_met [(1, .ref x0), (1, .int x1)] rfl (by decide) (fun q hq => by simp only [List.mem_cons, List.not_mem_nil, or_false] at hq; rcases hq with rfl | rfl <;> first | rfl | exact lx_cR _) (Nat.le_of_ble_eq_true rfl) (fun p e R s m args below meth cd ls hC hG hS hl => tq_Md_letters_0 hC hw hG hS (lx_sub hl [0, 1] rfl) (Nat.zero_le _) (Nat.zero_le _))

theorem dq_Md_choose_0 : decode prog_14_method_38_code 0 = .ok (.aload_n 0, 1) := by decide +kernel
theorem dq_Md_choose_1 : decode prog_14_method_38_code 1 = .ok (.iload_n 1, 1) := by decide +kernel
theorem dq_Md_choose_2 : decode prog_14_method_38_code 2 = .ok (.iconst 5, 1) := by decide +kernel
theorem dq_Md_choose_3 : decode prog_14_method_38_code 3 = .ok (.invokevirtual 258, 3) := by decide +kernel
theorem dq_Md_choose_6 : decode prog_14_method_38_code 6 = .ok (.ifCond .eq 12, 3) := by decide +kernel
theorem dq_Md_choose_9 : decode prog_14_method_38_code 9 = .ok (.aload_n 0, 1) := by decide +kernel
theorem dq_Md_choose_10 : decode prog_14_method_38_code 10 = .ok (.iload_n 2, 1) := by decide +kernel
theorem dq_Md_choose_11 : decode prog_14_method_38_code 11 = .ok (.invokevirtual 308, 3) := by decide +kernel
theorem dq_Md_choose_14 : decode prog_14_method_38_code 14 = .ok (.iconst 1, 1) := by decide +kernel
theorem dq_Md_choose_15 : decode prog_14_method_38_code 15 = .ok (.if_icmp .ne 9, 3) := by decide +kernel
theorem dq_Md_choose_18 : decode prog_14_method_38_code 18 = .ok (.aload_n 0, 1) := by decide +kernel
theorem dq_Md_choose_19 : decode prog_14_method_38_code 19 = .ok (.iload_n 2, 1) := by decide +kernel
theorem dq_Md_choose_20 : decode prog_14_method_38_code 20 = .ok (.invokevirtual 311, 3) := by decide +kernel
theorem dq_Md_choose_23 : decode prog_14_method_38_code 23 = .ok (.ireturn, 1) := by decide +kernel
theorem dq_Md_choose_24 : decode prog_14_method_38_code 24 = .ok (.iconst (-1), 1) := by decide +kernel
theorem dq_Md_choose_25 : decode prog_14_method_38_code 25 = .ok (.istore_n 3, 1) := by decide +kernel
theorem dq_Md_choose_26 : decode prog_14_method_38_code 26 = .ok (.iconst 0, 1) := by decide +kernel
theorem dq_Md_choose_27 : decode prog_14_method_38_code 27 = .ok (.istore 4, 2) := by decide +kernel
theorem dq_Md_choose_29 : decode prog_14_method_38_code 29 = .ok (.iconst 0, 1) := by decide +kernel
theorem dq_Md_choose_30 : decode prog_14_method_38_code 30 = .ok (.istore 5, 2) := by decide +kernel
theorem dq_Md_choose_32 : decode prog_14_method_38_code 32 = .ok (.iload 5, 2) := by decide +kernel
theorem dq_Md_choose_34 : decode prog_14_method_38_code 34 = .ok (.iconst 3, 1) := by decide +kernel
theorem dq_Md_choose_35 : decode prog_14_method_38_code 35 = .ok (.if_icmp .ge 76, 3) := by decide +kernel
theorem dq_Md_choose_38 : decode prog_14_method_38_code 38 = .ok (.aload_n 0, 1) := by decide +kernel
theorem dq_Md_choose_39 : decode prog_14_method_38_code 39 = .ok (.iload_n 1, 1) := by decide +kernel
theorem dq_Md_choose_40 : decode prog_14_method_38_code 40 = .ok (.iconst 5, 1) := by decide +kernel
theorem dq_Md_choose_41 : decode prog_14_method_38_code 41 = .ok (.bipush 97, 2) := by decide +kernel
theorem dq_Md_choose_43 : decode prog_14_method_38_code 43 = .ok (.iload 5, 2) := by decide +kernel
theorem dq_Md_choose_45 : decode prog_14_method_38_code 45 = .ok (.iadd, 1) := by decide +kernel
theorem dq_Md_choose_46 : decode prog_14_method_38_code 46 = .ok (.invokevirtual 314, 3) := by decide +kernel
theorem dq_Md_choose_49 : decode prog_14_method_38_code 49 = .ok (.istore 6, 2) := by decide +kernel
theorem dq_Md_choose_51 : decode prog_14_method_38_code 51 = .ok (.iload 6, 2) := by decide +kernel
theorem dq_Md_choose_53 : decode prog_14_method_38_code 53 = .ok (.bipush (-2), 2) := by decide +kernel
theorem dq_Md_choose_55 : decode prog_14_method_38_code 55 = .ok (.if_icmp .ne 7, 3) := by decide +kernel
theorem dq_Md_choose_58 : decode prog_14_method_38_code 58 = .ok (.iconst 0, 1) := by decide +kernel
theorem dq_Md_choose_59 : decode prog_14_method_38_code 59 = .ok (.goto 16, 3) := by decide +kernel
theorem dq_Md_choose_62 : decode prog_14_method_38_code 62 = .ok (.iload 6, 2) := by decide +kernel
theorem dq_Md_choose_64 : decode prog_14_method_38_code 64 = .ok (.iconst (-1), 1) := by decide +kernel
theorem dq_Md_choose_65 : decode prog_14_method_38_code 65 = .ok (.if_icmp .ne 8, 3) := by decide +kernel
theorem dq_Md_choose_68 : decode prog_14_method_38_code 68 = .ok (.bipush 9, 2) := by decide +kernel
theorem dq_Md_choose_70 : decode prog_14_method_38_code 70 = .ok (.goto 5, 3) := by decide +kernel
theorem dq_Md_choose_73 : decode prog_14_method_38_code 73 = .ok (.iload 6, 2) := by decide +kernel
theorem dq_Md_choose_75 : decode prog_14_method_38_code 75 = .ok (.istore 6, 2) := by decide +kernel
theorem dq_Md_choose_77 : decode prog_14_method_38_code 77 = .ok (.aload_n 0, 1) := by decide +kernel
theorem dq_Md_choose_78 : decode prog_14_method_38_code 78 = .ok (.getfield 165, 3) := by decide +kernel
theorem dq_Md_choose_81 : decode prog_14_method_38_code 81 = .ok (.iconst 3, 1) := by decide +kernel
theorem dq_Md_choose_82 : decode prog_14_method_38_code 82 = .ok (.iload_n 2, 1) := by decide +kernel
theorem dq_Md_choose_83 : decode prog_14_method_38_code 83 = .ok (.imul, 1) := by decide +kernel
theorem dq_Md_choose_84 : decode prog_14_method_38_code 84 = .ok (.iload 5, 2) := by decide +kernel
theorem dq_Md_choose_86 : decode prog_14_method_38_code 86 = .ok (.iadd, 1) := by decide +kernel
theorem dq_Md_choose_87 : decode prog_14_method_38_code 87 = .ok (.iaload, 1) := by decide +kernel
theorem dq_Md_choose_88 : decode prog_14_method_38_code 88 = .ok (.ifCond .le 17, 3) := by decide +kernel
theorem dq_Md_choose_91 : decode prog_14_method_38_code 91 = .ok (.iload 6, 2) := by decide +kernel
theorem dq_Md_choose_93 : decode prog_14_method_38_code 93 = .ok (.iload 4, 2) := by decide +kernel
theorem dq_Md_choose_95 : decode prog_14_method_38_code 95 = .ok (.if_icmp .le 10, 3) := by decide +kernel
theorem dq_Md_choose_98 : decode prog_14_method_38_code 98 = .ok (.iload 5, 2) := by decide +kernel
theorem dq_Md_choose_100 : decode prog_14_method_38_code 100 = .ok (.istore_n 3, 1) := by decide +kernel
theorem dq_Md_choose_101 : decode prog_14_method_38_code 101 = .ok (.iload 6, 2) := by decide +kernel
theorem dq_Md_choose_103 : decode prog_14_method_38_code 103 = .ok (.istore 4, 2) := by decide +kernel
theorem dq_Md_choose_105 : decode prog_14_method_38_code 105 = .ok (.iinc 5 1, 3) := by decide +kernel
theorem dq_Md_choose_108 : decode prog_14_method_38_code 108 = .ok (.goto (-76), 3) := by decide +kernel
theorem dq_Md_choose_111 : decode prog_14_method_38_code 111 = .ok (.iload_n 3, 1) := by decide +kernel
theorem dq_Md_choose_112 : decode prog_14_method_38_code 112 = .ok (.ireturn, 1) := by decide +kernel
set_option maxRecDepth 100000 in
def pq_Md_choose_18 (E : wo_E) (mc ms : Nat) (Post : Int32 → wo_W → Prop) (G : wo_W) (c s : Nat) (x0 : Nat) (x2 : Int32) : Prop := wo_ty G x0 = 15 ∧ ∃ mc2 ms3 : Nat, (c + mc2) ≤ mc ∧ (s + ms3) ≤ ms ∧ pq_Md_least E mc2 ms3 (fun v5 G4 => 
  Post v5 G4) G x0 x2
set_option maxRecDepth 100000 in
def pq_Md_choose_105 (E : wo_E) (mc ms : Nat) (Post : Int32 → wo_W → Prop) (k32 : wo_W → Nat → Nat → Nat → Int32 → Int32 → Int32 → Int32 → Int32 → Prop) (G : wo_W) (c s : Nat) (x0 : Nat) (x1 : Int32) (x2 : Int32) (x3 : Int32) (x4 : Int32) (x5 : Int32) : Prop := k32 G c s x0 x1 x2 x3 x4 (x5 + (1 : Int32))
set_option maxRecDepth 100000 in
def pq_Md_choose_75 (E : wo_E) (mc ms : Nat) (Post : Int32 → wo_W → Prop) (k32 : wo_W → Nat → Nat → Nat → Int32 → Int32 → Int32 → Int32 → Int32 → Prop) (G : wo_W) (c s : Nat) (x0 : Nat) (x1 : Int32) (x2 : Int32) (x3 : Int32) (x4 : Int32) (x5 : Int32) (y0 : Int32) : Prop := wo_ty G x0 = 15 ∧ ∀ r2 : Option Nat, r2 = wo_gr G 952 x0 → ∃ a4 : Nat, r2 = some a4 ∧ wo_ty G a4 = 66 ∧ vp_in (((3 : Int32) * x2) + x5) (wo_len G a4) ∧ (((wo_ei G a4 (((3 : Int32) * x2) + x5).toNatClampNeg) ≤ (0 : Int32) → pq_Md_choose_105 E mc ms Post k32 G c s x0 x1 x2 x3 x4 x5) ∧
  (¬ (wo_ei G a4 (((3 : Int32) * x2) + x5).toNatClampNeg) ≤ (0 : Int32) → ((y0 ≤ x4 → pq_Md_choose_105 E mc ms Post k32 G c s x0 x1 x2 x3 x4 x5) ∧
    (¬ y0 ≤ x4 → pq_Md_choose_105 E mc ms Post k32 G c s x0 x1 x2 x5 y0 x5))))
set_option maxRecDepth 100000 in
def pq_Md_choose_32 (E : wo_E) (mc ms : Nat) (Post : Int32 → wo_W → Prop) : Nat → wo_W → Nat → Nat → Nat → Int32 → Int32 → Int32 → Int32 → Int32 → Prop
  | 0 => fun _ _ _ _ _ _ _ _ _ => False
  | n + 1 => fun G c s x0 x1 x2 x3 x4 x5 => (((3 : Int32) ≤ x5 → Post x3 G) ∧
  (¬ (3 : Int32) ≤ x5 → wo_ty G x0 = 15 ∧ ∃ mc2 ms3 : Nat, (c + mc2) ≤ mc ∧ (s + ms3) ≤ ms ∧ pq_Md_inValue E mc2 ms3 (fun v5 G4 => 
    ((¬ v5 = (-2 : Int32) → ((¬ v5 = (-1 : Int32) → pq_Md_choose_75 E mc ms Post (pq_Md_choose_32 E mc ms Post n) G4 (c + mc2) (s + ms3) x0 x1 x2 x3 x4 x5 v5) ∧
        (v5 = (-1 : Int32) → pq_Md_choose_75 E mc ms Post (pq_Md_choose_32 E mc ms Post n) G4 (c + mc2) (s + ms3) x0 x1 x2 x3 x4 x5 (9 : Int32)))) ∧
      (v5 = (-2 : Int32) → pq_Md_choose_75 E mc ms Post (pq_Md_choose_32 E mc ms Post n) G4 (c + mc2) (s + ms3) x0 x1 x2 x3 x4 x5 (0 : Int32)))) G x0 x1 (5 : Int32) ((97 : Int32) + x5)))
set_option maxRecDepth 100000 in
def pq_Md_choose_0 (E : wo_E) (mc ms : Nat) (Post : Int32 → wo_W → Prop) (G : wo_W) (c s : Nat) (x0 : Nat) (x1 : Int32) (x2 : Int32) : Prop := wo_ty G x0 = 15 ∧ ∃ mc2 ms3 : Nat, (c + mc2) ≤ mc ∧ (s + ms3) ≤ ms ∧ pq_Md_has E mc2 ms3 (fun v5 G4 => 
  ((v5 = (0 : Int32) → pq_Md_choose_18 E mc ms Post G4 (c + mc2) (s + ms3) x0 x2) ∧
    (¬ v5 = (0 : Int32) → wo_ty G4 x0 = 15 ∧ ∃ mc7 ms8 : Nat, ((c + mc2) + mc7) ≤ mc ∧ ((s + ms3) + ms8) ≤ ms ∧ pq_Md_letters E mc7 ms8 (fun v10 G9 => 
      ((¬ v10 = (1 : Int32) → ∃ n1 : Nat, pq_Md_choose_32 E mc ms Post n1 G9 ((c + mc2) + mc7) ((s + ms3) + ms8) x0 x1 x2 (-1 : Int32) (0 : Int32) (0 : Int32)) ∧
        (v10 = (1 : Int32) → pq_Md_choose_18 E mc ms Post G9 ((c + mc2) + mc7) ((s + ms3) + ms8) x0 x2))) G4 x0 x2))) G x0 x1 (5 : Int32)
def pq_Md_choose (E : wo_E) (mc ms : Nat) (Post : Int32 → wo_W → Prop) (G : wo_W) (x0 : Nat) (x1 : Int32) (x2 : Int32) : Prop := pq_Md_choose_0 E mc ms Post G 0 0 x0 x1 x2
set_option maxRecDepth 100000 in
set_option maxHeartbeats 4000000 in
theorem tq_Md_choose_18 {p : Program} {l : Launch} {e : Env} {R : Room} {s₀ : State} {m : MethodId} {args : Array Value} {below : List Frame} {meth : Method} {cd : Code} {E : wo_E} {mc ms : Nat} {Post : Int32 → wo_W → Prop} (hC : wo_Cx E "EdgeCacheModel" prog_14_method_38_code 7 4 96 ((Option.some Jvm.ClassFile.FieldType.int)) "choose" mc ms p R s₀ m args meth cd) : ∀ {G : wo_W} {c s : Nat} {x0 : Nat} {x2 : Int32}, pq_Md_choose_18 E mc ms Post G c s x0 x2 → ∀ {H : Heap} {locs : List Loc} {ls : Array Slot}, wo_Se E G H → va_S (en_A E) s₀.heap H locs → lx_has ls 7 [(0, 1, .ref x0), (2, 1, .int x2)] → c ≤ mc → s ≤ ms → W p l e R s₀ m args below meth cd H locs c s (MQ below (va_Qi Post (wo_B E) (en_A E)) args s₀ mc ms (en_A E)) (F0 m 18 ls []) := by
  intro G c s x0 x2 hw H locs ls hG hS hl hcc hss
  dsimp only [pq_Md_choose_18] at hw
  have hx := hC.1
  have hb := hC.2.1
  refine lv_aload_n hx hb dq_Md_choose_18 rfl (lx_at hl 0 rfl) ?_
  refine lv_iload_n hx hb dq_Md_choose_19 rfl (lx_at hl 1 rfl) ?_
  obtain ⟨t1, hw⟩ := hw
  obtain ⟨mc2, ms3, hc1, hs1, hw⟩ := hw
  refine va_calli (wo_runV hC lq_Md_311 (mq_Md_least hw) hG hS t1 rfl (lx_sz hl) rfl (Nat.zero_le _) (by decide) dq_Md_choose_20 ⟨hc1, hs1⟩) hS (fun _ _ h => h) (fun _ h => h) (fun v5 G4 t H locs ht hvm hw' hB _ _ hS => ?_)
  clear hw
  have hw := hw'
  clear hw'
  replace hG := wo_bk ht hB
  replace hcc := hc1
  replace hss := hs1
  exact wo_iret hC hG hS hcc hss hw dq_Md_choose_23
set_option maxRecDepth 100000 in
set_option maxHeartbeats 4000000 in
theorem tq_Md_choose_105 {p : Program} {l : Launch} {e : Env} {R : Room} {s₀ : State} {m : MethodId} {args : Array Value} {below : List Frame} {meth : Method} {cd : Code} {E : wo_E} {mc ms : Nat} {Post : Int32 → wo_W → Prop} {k32 : wo_W → Nat → Nat → Nat → Int32 → Int32 → Int32 → Int32 → Int32 → Prop} (hC : wo_Cx E "EdgeCacheModel" prog_14_method_38_code 7 4 96 ((Option.some Jvm.ClassFile.FieldType.int)) "choose" mc ms p R s₀ m args meth cd) (hk32 : ∀ {G : wo_W} {c s : Nat} {x0 : Nat} {x1 : Int32} {x2 : Int32} {x3 : Int32} {x4 : Int32} {x5 : Int32}, k32 G c s x0 x1 x2 x3 x4 x5 → ∀ {H : Heap} {locs : List Loc} {ls : Array Slot}, wo_Se E G H → va_S (en_A E) s₀.heap H locs → lx_has ls 7 [(0, 1, .ref x0), (1, 1, .int x1), (2, 1, .int x2), (3, 1, .int x3), (4, 1, .int x4), (5, 1, .int x5)] → c ≤ mc → s ≤ ms → W p l e R s₀ m args below meth cd H locs c s (MQ below (va_Qi Post (wo_B E) (en_A E)) args s₀ mc ms (en_A E)) (F0 m 32 ls [])) : ∀ {G : wo_W} {c s : Nat} {x0 : Nat} {x1 : Int32} {x2 : Int32} {x3 : Int32} {x4 : Int32} {x5 : Int32}, pq_Md_choose_105 E mc ms Post k32 G c s x0 x1 x2 x3 x4 x5 → ∀ {H : Heap} {locs : List Loc} {ls : Array Slot}, wo_Se E G H → va_S (en_A E) s₀.heap H locs → lx_has ls 7 [(0, 1, .ref x0), (1, 1, .int x1), (2, 1, .int x2), (3, 1, .int x3), (4, 1, .int x4), (5, 1, .int x5)] → c ≤ mc → s ≤ ms → W p l e R s₀ m args below meth cd H locs c s (MQ below (va_Qi Post (wo_B E) (en_A E)) args s₀ mc ms (en_A E)) (F0 m 105 ls []) := by
  intro G c s x0 x1 x2 x3 x4 x5 hw H locs ls hG hS hl hcc hss
  dsimp only [pq_Md_choose_105] at hw
  have hx := hC.1
  have hb := hC.2.1
  refine lx_iinc (k := 5) (v := (x5 + (1 : Int32))) (lv' := [(5, 1, .int (x5 + (1 : Int32))), (0, 1, .ref x0), (1, 1, .int x1), (2, 1, .int x2), (3, 1, .int x3), (4, 1, .int x4)]) hx hb dq_Md_choose_105 hl rfl rfl (by decide) rfl (fun ls hl' => ?_)
  clear hl
  have hl := hl'
  clear hl'
  refine lv_goto (tgt := 32) hx hb dq_Md_choose_108 rfl ?_
  exact hk32 hw hG hS (lx_sub hl [1, 2, 3, 4, 5, 0] rfl) hcc hss
set_option maxRecDepth 100000 in
set_option maxHeartbeats 4000000 in
theorem tq_Md_choose_75 {p : Program} {l : Launch} {e : Env} {R : Room} {s₀ : State} {m : MethodId} {args : Array Value} {below : List Frame} {meth : Method} {cd : Code} {E : wo_E} {mc ms : Nat} {Post : Int32 → wo_W → Prop} {k32 : wo_W → Nat → Nat → Nat → Int32 → Int32 → Int32 → Int32 → Int32 → Prop} (hC : wo_Cx E "EdgeCacheModel" prog_14_method_38_code 7 4 96 ((Option.some Jvm.ClassFile.FieldType.int)) "choose" mc ms p R s₀ m args meth cd) (hk32 : ∀ {G : wo_W} {c s : Nat} {x0 : Nat} {x1 : Int32} {x2 : Int32} {x3 : Int32} {x4 : Int32} {x5 : Int32}, k32 G c s x0 x1 x2 x3 x4 x5 → ∀ {H : Heap} {locs : List Loc} {ls : Array Slot}, wo_Se E G H → va_S (en_A E) s₀.heap H locs → lx_has ls 7 [(0, 1, .ref x0), (1, 1, .int x1), (2, 1, .int x2), (3, 1, .int x3), (4, 1, .int x4), (5, 1, .int x5)] → c ≤ mc → s ≤ ms → W p l e R s₀ m args below meth cd H locs c s (MQ below (va_Qi Post (wo_B E) (en_A E)) args s₀ mc ms (en_A E)) (F0 m 32 ls [])) : ∀ {G : wo_W} {c s : Nat} {x0 : Nat} {x1 : Int32} {x2 : Int32} {x3 : Int32} {x4 : Int32} {x5 : Int32} {y0 : Int32}, pq_Md_choose_75 E mc ms Post k32 G c s x0 x1 x2 x3 x4 x5 y0 → ∀ {H : Heap} {locs : List Loc} {ls : Array Slot}, wo_Se E G H → va_S (en_A E) s₀.heap H locs → lx_has ls 7 [(0, 1, .ref x0), (1, 1, .int x1), (2, 1, .int x2), (3, 1, .int x3), (4, 1, .int x4), (5, 1, .int x5)] → c ≤ mc → s ≤ ms → W p l e R s₀ m args below meth cd H locs c s (MQ below (va_Qi Post (wo_B E) (en_A E)) args s₀ mc ms (en_A E)) (F0 m 75 ls [.int y0]) := by
  intro G c s x0 x1 x2 x3 x4 x5 y0 hw H locs ls hG hS hl hcc hss
  dsimp only [pq_Md_choose_75] at hw
  have hx := hC.1
  have hb := hC.2.1
  refine lx_istore (lv' := [(6, 1, .int y0), (0, 1, .ref x0), (1, 1, .int x1), (2, 1, .int x2), (3, 1, .int x3), (4, 1, .int x4), (5, 1, .int x5)]) hx hb dq_Md_choose_75 hl (by decide) rfl (fun ls hl' => ?_)
  clear hl
  have hl := hl'
  clear hl'
  refine lv_aload_n hx hb dq_Md_choose_77 rfl (lx_at hl 1 rfl) ?_
  obtain ⟨t1, hw⟩ := hw
  refine wo_getR hC fq_Md_165 rfl hG t1 dq_Md_choose_78 (fun r2 e3 => ?_)
  replace hw := hw r2 e3
  refine lv_iconst (v := (3 : Int32)) hx hb dq_Md_choose_81 rfl ?_
  refine lv_iload_n hx hb dq_Md_choose_82 rfl (lx_at hl 3 rfl) ?_
  refine lv_imul hx hb dq_Md_choose_83 ?_
  refine lv_iload hx hb dq_Md_choose_84 (lx_at hl 6 rfl) ?_
  refine lv_iadd hx hb dq_Md_choose_86 ?_
  obtain ⟨a4, rfl, hw⟩ := hw
  obtain ⟨t5, hw⟩ := hw
  obtain ⟨h6, hw⟩ := hw
  refine wo_iald (j := 2) hC rfl hG t5 h6 dq_Md_choose_87 ?_
  refine lv_if_le (tgt := 105) hx hb dq_Md_choose_88 rfl (fun h => ?_) (fun h => ?_)
  · replace hw := hw.1 h
    exact tq_Md_choose_105 hC hk32 hw hG hS (lx_sub hl [1, 2, 3, 4, 5, 6] rfl) hcc hss
  · replace hw := hw.2 h
    refine lv_iload hx hb dq_Md_choose_91 (lx_at hl 0 rfl) ?_
    refine lv_iload hx hb dq_Md_choose_93 (lx_at hl 5 rfl) ?_
    refine lv_icmp_le (tgt := 105) hx hb dq_Md_choose_95 rfl (fun h => ?_) (fun h => ?_)
    · replace hw := hw.1 h
      exact tq_Md_choose_105 hC hk32 hw hG hS (lx_sub hl [1, 2, 3, 4, 5, 6] rfl) hcc hss
    · replace hw := hw.2 h
      refine lv_iload hx hb dq_Md_choose_98 (lx_at hl 6 rfl) ?_
      refine lx_istore_n (lv' := [(3, 1, .int x5), (6, 1, .int y0), (0, 1, .ref x0), (1, 1, .int x1), (2, 1, .int x2), (4, 1, .int x4), (5, 1, .int x5)]) hx hb dq_Md_choose_100 rfl hl (by decide) rfl (fun ls hl' => ?_)
      clear hl
      have hl := hl'
      clear hl'
      refine lv_iload hx hb dq_Md_choose_101 (lx_at hl 1 rfl) ?_
      refine lx_istore (lv' := [(4, 1, .int y0), (3, 1, .int x5), (6, 1, .int y0), (0, 1, .ref x0), (1, 1, .int x1), (2, 1, .int x2), (5, 1, .int x5)]) hx hb dq_Md_choose_103 hl (by decide) rfl (fun ls hl' => ?_)
      clear hl
      have hl := hl'
      clear hl'
      exact tq_Md_choose_105 hC hk32 hw hG hS (lx_sub hl [3, 4, 5, 1, 0, 6] rfl) hcc hss
set_option maxRecDepth 100000 in
set_option maxHeartbeats 4000000 in
theorem tq_Md_choose_32 {p : Program} {l : Launch} {e : Env} {R : Room} {s₀ : State} {m : MethodId} {args : Array Value} {below : List Frame} {meth : Method} {cd : Code} {E : wo_E} {mc ms : Nat} {Post : Int32 → wo_W → Prop} (hC : wo_Cx E "EdgeCacheModel" prog_14_method_38_code 7 4 96 ((Option.some Jvm.ClassFile.FieldType.int)) "choose" mc ms p R s₀ m args meth cd) : ∀ n : Nat, ∀ {G : wo_W} {c s : Nat} {x0 : Nat} {x1 : Int32} {x2 : Int32} {x3 : Int32} {x4 : Int32} {x5 : Int32}, pq_Md_choose_32 E mc ms Post n G c s x0 x1 x2 x3 x4 x5 → ∀ {H : Heap} {locs : List Loc} {ls : Array Slot}, wo_Se E G H → va_S (en_A E) s₀.heap H locs → lx_has ls 7 [(0, 1, .ref x0), (1, 1, .int x1), (2, 1, .int x2), (3, 1, .int x3), (4, 1, .int x4), (5, 1, .int x5)] → c ≤ mc → s ≤ ms → W p l e R s₀ m args below meth cd H locs c s (MQ below (va_Qi Post (wo_B E) (en_A E)) args s₀ mc ms (en_A E)) (F0 m 32 ls []) := by
  intro n
  induction n with
  | zero => intro G c s x0 x1 x2 x3 x4 x5 hw; exact hw.elim
  | succ n ih =>
    intro G c s x0 x1 x2 x3 x4 x5 hw H locs ls hG hS hl hcc hss
    dsimp only [pq_Md_choose_32] at hw
    have hx := hC.1
    have hb := hC.2.1
    refine lv_iload hx hb dq_Md_choose_32 (lx_at hl 5 rfl) ?_
    refine lv_iconst (v := (3 : Int32)) hx hb dq_Md_choose_34 rfl ?_
    refine lv_icmp_ge (tgt := 111) hx hb dq_Md_choose_35 rfl (fun h => ?_) (fun h => ?_)
    · replace hw := hw.1 h
      refine lv_iload_n hx hb dq_Md_choose_111 rfl (lx_at hl 3 rfl) ?_
      exact wo_iret hC hG hS hcc hss hw dq_Md_choose_112
    · replace hw := hw.2 h
      refine lv_aload_n hx hb dq_Md_choose_38 rfl (lx_at hl 0 rfl) ?_
      refine lv_iload_n hx hb dq_Md_choose_39 rfl (lx_at hl 1 rfl) ?_
      refine lv_iconst (v := (5 : Int32)) hx hb dq_Md_choose_40 rfl ?_
      refine lv_bipush (v := (97 : Int32)) hx hb dq_Md_choose_41 rfl ?_
      refine lv_iload hx hb dq_Md_choose_43 (lx_at hl 5 rfl) ?_
      refine lv_iadd hx hb dq_Md_choose_45 ?_
      obtain ⟨t1, hw⟩ := hw
      obtain ⟨mc2, ms3, hc1, hs1, hw⟩ := hw
      refine va_calli (wo_runV hC lq_Md_314 (mq_Md_inValue hw) hG hS t1 rfl (lx_sz hl) rfl (Nat.zero_le _) (by decide) dq_Md_choose_46 ⟨hc1, hs1⟩) hS (fun _ _ h => h) (fun _ h => h) (fun v5 G4 t H locs ht hvm hw' hB _ _ hS => ?_)
      clear hw
      have hw := hw'
      clear hw'
      replace hG := wo_bk ht hB
      replace hcc := hc1
      replace hss := hs1
      refine lx_istore (lv' := [(6, 1, .int v5), (0, 1, .ref x0), (1, 1, .int x1), (2, 1, .int x2), (3, 1, .int x3), (4, 1, .int x4), (5, 1, .int x5)]) hx hb dq_Md_choose_49 hl (by decide) rfl (fun ls hl' => ?_)
      clear hl
      have hl := hl'
      clear hl'
      refine lv_iload hx hb dq_Md_choose_51 (lx_at hl 0 rfl) ?_
      refine lv_bipush (v := (-2 : Int32)) hx hb dq_Md_choose_53 rfl ?_
      refine lv_icmp_ne (tgt := 62) hx hb dq_Md_choose_55 rfl (fun h => ?_) (fun h => ?_)
      · replace hw := hw.1 h
        refine lv_iload hx hb dq_Md_choose_62 (lx_at hl 0 rfl) ?_
        refine lv_iconst (v := (-1 : Int32)) hx hb dq_Md_choose_64 rfl ?_
        refine lv_icmp_ne (tgt := 73) hx hb dq_Md_choose_65 rfl (fun h => ?_) (fun h => ?_)
        · replace hw := hw.1 h
          refine lv_iload hx hb dq_Md_choose_73 (lx_at hl 0 rfl) ?_
          exact tq_Md_choose_75 hC ih hw hG hS (lx_sub hl [1, 2, 3, 4, 5, 6] rfl) hcc hss
        · replace hw := hw.2 h
          refine lv_bipush (v := (9 : Int32)) hx hb dq_Md_choose_68 rfl ?_
          refine lv_goto (tgt := 75) hx hb dq_Md_choose_70 rfl ?_
          exact tq_Md_choose_75 hC ih hw hG hS (lx_sub hl [1, 2, 3, 4, 5, 6] rfl) hcc hss
      · replace hw := hw.2 h
        refine lv_iconst (v := (0 : Int32)) hx hb dq_Md_choose_58 rfl ?_
        refine lv_goto (tgt := 75) hx hb dq_Md_choose_59 rfl ?_
        exact tq_Md_choose_75 hC ih hw hG hS (lx_sub hl [1, 2, 3, 4, 5, 6] rfl) hcc hss
set_option maxRecDepth 100000 in
set_option maxHeartbeats 4000000 in
theorem tq_Md_choose_0 {p : Program} {l : Launch} {e : Env} {R : Room} {s₀ : State} {m : MethodId} {args : Array Value} {below : List Frame} {meth : Method} {cd : Code} {E : wo_E} {mc ms : Nat} {Post : Int32 → wo_W → Prop} (hC : wo_Cx E "EdgeCacheModel" prog_14_method_38_code 7 4 96 ((Option.some Jvm.ClassFile.FieldType.int)) "choose" mc ms p R s₀ m args meth cd) : ∀ {G : wo_W} {c s : Nat} {x0 : Nat} {x1 : Int32} {x2 : Int32}, pq_Md_choose_0 E mc ms Post G c s x0 x1 x2 → ∀ {H : Heap} {locs : List Loc} {ls : Array Slot}, wo_Se E G H → va_S (en_A E) s₀.heap H locs → lx_has ls 7 [(0, 1, .ref x0), (1, 1, .int x1), (2, 1, .int x2)] → c ≤ mc → s ≤ ms → W p l e R s₀ m args below meth cd H locs c s (MQ below (va_Qi Post (wo_B E) (en_A E)) args s₀ mc ms (en_A E)) (F0 m 0 ls []) := by
  intro G c s x0 x1 x2 hw H locs ls hG hS hl hcc hss
  dsimp only [pq_Md_choose_0] at hw
  have hx := hC.1
  have hb := hC.2.1
  refine lv_aload_n hx hb dq_Md_choose_0 rfl (lx_at hl 0 rfl) ?_
  refine lv_iload_n hx hb dq_Md_choose_1 rfl (lx_at hl 1 rfl) ?_
  refine lv_iconst (v := (5 : Int32)) hx hb dq_Md_choose_2 rfl ?_
  obtain ⟨t1, hw⟩ := hw
  obtain ⟨mc2, ms3, hc1, hs1, hw⟩ := hw
  refine va_calli (wo_runV hC lq_Md_258 (mq_Md_has hw) hG hS t1 rfl (lx_sz hl) rfl (Nat.zero_le _) (by decide) dq_Md_choose_3 ⟨hc1, hs1⟩) hS (fun _ _ h => h) (fun _ h => h) (fun v5 G4 t H locs ht hvm hw' hB _ _ hS => ?_)
  clear hw
  have hw := hw'
  clear hw'
  replace hG := wo_bk ht hB
  replace hcc := hc1
  replace hss := hs1
  refine lv_if_eq (tgt := 18) hx hb dq_Md_choose_6 rfl (fun h => ?_) (fun h => ?_)
  · replace hw := hw.1 h
    exact tq_Md_choose_18 hC hw hG hS (lx_sub hl [0, 2] rfl) hcc hss
  · replace hw := hw.2 h
    refine lv_aload_n hx hb dq_Md_choose_9 rfl (lx_at hl 0 rfl) ?_
    refine lv_iload_n hx hb dq_Md_choose_10 rfl (lx_at hl 2 rfl) ?_
    obtain ⟨t6, hw⟩ := hw
    obtain ⟨mc7, ms8, hc1, hs1, hw⟩ := hw
    refine va_calli (wo_runV hC lq_Md_308 (mq_Md_letters hw) hG hS t6 rfl (lx_sz hl) rfl (Nat.zero_le _) (by decide) dq_Md_choose_11 ⟨hc1, hs1⟩) hS (fun _ _ h => h) (fun _ h => h) (fun v10 G9 t H locs ht hvm hw' hB _ _ hS => ?_)
    clear hw
    have hw := hw'
    clear hw'
    replace hG := wo_bk ht hB
    replace hcc := hc1
    replace hss := hs1
    refine lv_iconst (v := (1 : Int32)) hx hb dq_Md_choose_14 rfl ?_
    refine lv_icmp_ne (tgt := 24) hx hb dq_Md_choose_15 rfl (fun h => ?_) (fun h => ?_)
    · replace hw := hw.1 h
      refine lv_iconst (v := (-1 : Int32)) hx hb dq_Md_choose_24 rfl ?_
      refine lx_istore_n (lv' := [(3, 1, .int (-1 : Int32)), (0, 1, .ref x0), (1, 1, .int x1), (2, 1, .int x2)]) hx hb dq_Md_choose_25 rfl hl (by decide) rfl (fun ls hl' => ?_)
      clear hl
      have hl := hl'
      clear hl'
      refine lv_iconst (v := (0 : Int32)) hx hb dq_Md_choose_26 rfl ?_
      refine lx_istore (lv' := [(4, 1, .int (0 : Int32)), (3, 1, .int (-1 : Int32)), (0, 1, .ref x0), (1, 1, .int x1), (2, 1, .int x2)]) hx hb dq_Md_choose_27 hl (by decide) rfl (fun ls hl' => ?_)
      clear hl
      have hl := hl'
      clear hl'
      refine lv_iconst (v := (0 : Int32)) hx hb dq_Md_choose_29 rfl ?_
      refine lx_istore (lv' := [(5, 1, .int (0 : Int32)), (4, 1, .int (0 : Int32)), (3, 1, .int (-1 : Int32)), (0, 1, .ref x0), (1, 1, .int x1), (2, 1, .int x2)]) hx hb dq_Md_choose_30 hl (by decide) rfl (fun ls hl' => ?_)
      clear hl
      have hl := hl'
      clear hl'
      obtain ⟨n1, hw⟩ := hw
      exact tq_Md_choose_32 hC n1 hw hG hS (lx_sub hl [3, 4, 5, 2, 1, 0] rfl) hcc hss
    · replace hw := hw.2 h
      exact tq_Md_choose_18 hC hw hG hS (lx_sub hl [0, 2] rfl) hcc hss
set_option maxHeartbeats 4000000 in
theorem mq_Md_choose {l : Launch} {E : wo_E} {mc ms : Nat} {Post : Int32 → wo_W → Prop} {G : wo_W} {x0 : Nat} {x1 : Int32} {x2 : Int32} (hw : pq_Md_choose E mc ms Post G x0 x1 x2) : Met l yq_Md_choose (Cond.code yq_Md_choose prog_14_method_38_code 7 ((Option.some Jvm.ClassFile.FieldType.int)) :: vw_WG) { frames := 4, cells := mc, slots := ms, locals := 96 } (va_Pc [.ref x0, .int x1, .int x2] (wo_Ok E G)) (va_Qi Post (wo_B E) (en_A E)) mc ms (en_A E) := by
  unfold pq_Md_choose at hw
  exact wo_met [(1, .ref x0), (1, .int x1), (1, .int x2)] rfl (by decide) (fun q hq => by simp only [List.mem_cons, List.not_mem_nil, or_false] at hq; rcases hq with rfl | rfl | rfl <;> first | rfl | exact lx_cR _) (Nat.le_of_ble_eq_true rfl) (fun p e R s m args below meth cd ls hC hG hS hl => tq_Md_choose_0 hC hw hG hS (lx_sub hl [0, 1, 2] rfl) (Nat.zero_le _) (Nat.zero_le _))

theorem dq_Md_resource_0 : decode prog_14_method_35_code 0 = .ok (.iconst 0, 1) := by decide +kernel
theorem dq_Md_resource_1 : decode prog_14_method_35_code 1 = .ok (.istore_n 2, 1) := by decide +kernel
theorem dq_Md_resource_2 : decode prog_14_method_35_code 2 = .ok (.iload_n 2, 1) := by decide +kernel
theorem dq_Md_resource_3 : decode prog_14_method_35_code 3 = .ok (.bipush 6, 2) := by decide +kernel
theorem dq_Md_resource_5 : decode prog_14_method_35_code 5 = .ok (.if_icmp .ge 51, 3) := by decide +kernel
theorem dq_Md_resource_8 : decode prog_14_method_35_code 8 = .ok (.aload_n 0, 1) := by decide +kernel
theorem dq_Md_resource_9 : decode prog_14_method_35_code 9 = .ok (.getfield 144, 3) := by decide +kernel
theorem dq_Md_resource_12 : decode prog_14_method_35_code 12 = .ok (.iload_n 2, 1) := by decide +kernel
theorem dq_Md_resource_13 : decode prog_14_method_35_code 13 = .ok (.baload, 1) := by decide +kernel
theorem dq_Md_resource_14 : decode prog_14_method_35_code 14 = .ok (.ifCond .eq 36, 3) := by decide +kernel
theorem dq_Md_resource_17 : decode prog_14_method_35_code 17 = .ok (.aload_n 0, 1) := by decide +kernel
theorem dq_Md_resource_18 : decode prog_14_method_35_code 18 = .ok (.getfield 147, 3) := by decide +kernel
theorem dq_Md_resource_21 : decode prog_14_method_35_code 21 = .ok (.iload_n 2, 1) := by decide +kernel
theorem dq_Md_resource_22 : decode prog_14_method_35_code 22 = .ok (.laload, 1) := by decide +kernel
theorem dq_Md_resource_23 : decode prog_14_method_35_code 23 = .ok (.aload_n 0, 1) := by decide +kernel
theorem dq_Md_resource_24 : decode prog_14_method_35_code 24 = .ok (.getfield 44, 3) := by decide +kernel
theorem dq_Md_resource_27 : decode prog_14_method_35_code 27 = .ok (.iload_n 1, 1) := by decide +kernel
theorem dq_Md_resource_28 : decode prog_14_method_35_code 28 = .ok (.laload, 1) := by decide +kernel
theorem dq_Md_resource_29 : decode prog_14_method_35_code 29 = .ok (.lcmp, 1) := by decide +kernel
theorem dq_Md_resource_30 : decode prog_14_method_35_code 30 = .ok (.ifCond .ne 20, 3) := by decide +kernel
theorem dq_Md_resource_33 : decode prog_14_method_35_code 33 = .ok (.aload_n 0, 1) := by decide +kernel
theorem dq_Md_resource_34 : decode prog_14_method_35_code 34 = .ok (.getfield 150, 3) := by decide +kernel
theorem dq_Md_resource_37 : decode prog_14_method_35_code 37 = .ok (.iload_n 2, 1) := by decide +kernel
theorem dq_Md_resource_38 : decode prog_14_method_35_code 38 = .ok (.iaload, 1) := by decide +kernel
theorem dq_Md_resource_39 : decode prog_14_method_35_code 39 = .ok (.aload_n 0, 1) := by decide +kernel
theorem dq_Md_resource_40 : decode prog_14_method_35_code 40 = .ok (.getfield 48, 3) := by decide +kernel
theorem dq_Md_resource_43 : decode prog_14_method_35_code 43 = .ok (.iload_n 1, 1) := by decide +kernel
theorem dq_Md_resource_44 : decode prog_14_method_35_code 44 = .ok (.iaload, 1) := by decide +kernel
theorem dq_Md_resource_45 : decode prog_14_method_35_code 45 = .ok (.if_icmp .ne 5, 3) := by decide +kernel
theorem dq_Md_resource_48 : decode prog_14_method_35_code 48 = .ok (.iload_n 2, 1) := by decide +kernel
theorem dq_Md_resource_49 : decode prog_14_method_35_code 49 = .ok (.ireturn, 1) := by decide +kernel
theorem dq_Md_resource_50 : decode prog_14_method_35_code 50 = .ok (.iinc 2 1, 3) := by decide +kernel
theorem dq_Md_resource_53 : decode prog_14_method_35_code 53 = .ok (.goto (-51), 3) := by decide +kernel
theorem dq_Md_resource_56 : decode prog_14_method_35_code 56 = .ok (.iconst (-1), 1) := by decide +kernel
theorem dq_Md_resource_57 : decode prog_14_method_35_code 57 = .ok (.ireturn, 1) := by decide +kernel
set_option maxRecDepth 100000 in
def pq_Md_resource_50 (E : wo_E) (mc ms : Nat) (Post : Int32 → wo_W → Prop) (k2 : wo_W → Nat → Nat → Nat → Int32 → Int32 → Prop) (G : wo_W) (c s : Nat) (x0 : Nat) (x1 : Int32) (x2 : Int32) : Prop := k2 G c s x0 x1 (x2 + (1 : Int32))
set_option maxRecDepth 100000 in
def pq_Md_resource_2 (E : wo_E) (mc ms : Nat) (Post : Int32 → wo_W → Prop) : Nat → wo_W → Nat → Nat → Nat → Int32 → Int32 → Prop
  | 0 => fun _ _ _ _ _ _ => False
  | n + 1 => fun G c s x0 x1 x2 => (((6 : Int32) ≤ x2 → Post (-1 : Int32) G) ∧
  (¬ (6 : Int32) ≤ x2 → wo_ty G x0 = 15 ∧ ∀ r2 : Option Nat, r2 = wo_gr G 945 x0 → ∃ a4 : Nat, r2 = some a4 ∧ wo_ty G a4 = 72 ∧ vp_in x2 (wo_len G a4) ∧ (((wo_ei G a4 x2.toNatClampNeg) = (0 : Int32) → pq_Md_resource_50 E mc ms Post (pq_Md_resource_2 E mc ms Post n) G c s x0 x1 x2) ∧
    (¬ (wo_ei G a4 x2.toNatClampNeg) = (0 : Int32) → ∀ r7 : Option Nat, r7 = wo_gr G 946 x0 → ∃ a9 : Nat, r7 = some a9 ∧ wo_ty G a9 = 73 ∧ vp_in x2 (wo_len G a9) ∧ ∀ r12 : Option Nat, r12 = wo_gr G 908 x0 → ∃ a14 : Nat, r12 = some a14 ∧ wo_ty G a14 = 73 ∧ vp_in x1 (wo_len G a14) ∧ ((¬ (lg_cmp (wo_el G a9 x2.toNatClampNeg) (wo_el G a14 x1.toNatClampNeg)) = (0 : Int32) → pq_Md_resource_50 E mc ms Post (pq_Md_resource_2 E mc ms Post n) G c s x0 x1 x2) ∧
      ((lg_cmp (wo_el G a9 x2.toNatClampNeg) (wo_el G a14 x1.toNatClampNeg)) = (0 : Int32) → ∀ r17 : Option Nat, r17 = wo_gr G 947 x0 → ∃ a19 : Nat, r17 = some a19 ∧ wo_ty G a19 = 66 ∧ vp_in x2 (wo_len G a19) ∧ ∀ r22 : Option Nat, r22 = wo_gr G 909 x0 → ∃ a24 : Nat, r22 = some a24 ∧ wo_ty G a24 = 66 ∧ vp_in x1 (wo_len G a24) ∧ ((¬ (wo_ei G a19 x2.toNatClampNeg) = (wo_ei G a24 x1.toNatClampNeg) → pq_Md_resource_50 E mc ms Post (pq_Md_resource_2 E mc ms Post n) G c s x0 x1 x2) ∧
        ((wo_ei G a19 x2.toNatClampNeg) = (wo_ei G a24 x1.toNatClampNeg) → Post x2 G))))))))
set_option maxRecDepth 100000 in
def pq_Md_resource_0 (E : wo_E) (mc ms : Nat) (Post : Int32 → wo_W → Prop) (G : wo_W) (c s : Nat) (x0 : Nat) (x1 : Int32) : Prop := ∃ n1 : Nat, pq_Md_resource_2 E mc ms Post n1 G c s x0 x1 (0 : Int32)
def pq_Md_resource (E : wo_E) (mc ms : Nat) (Post : Int32 → wo_W → Prop) (G : wo_W) (x0 : Nat) (x1 : Int32) : Prop := pq_Md_resource_0 E mc ms Post G 0 0 x0 x1
set_option maxRecDepth 100000 in
set_option maxHeartbeats 4000000 in
theorem tq_Md_resource_50 {p : Program} {l : Launch} {e : Env} {R : Room} {s₀ : State} {m : MethodId} {args : Array Value} {below : List Frame} {meth : Method} {cd : Code} {E : wo_E} {mc ms : Nat} {Post : Int32 → wo_W → Prop} {k2 : wo_W → Nat → Nat → Nat → Int32 → Int32 → Prop} (hC : wo_Cx E "EdgeCacheModel" prog_14_method_35_code 3 0 0 ((Option.some Jvm.ClassFile.FieldType.int)) "resource" mc ms p R s₀ m args meth cd) (hk2 : ∀ {G : wo_W} {c s : Nat} {x0 : Nat} {x1 : Int32} {x2 : Int32}, k2 G c s x0 x1 x2 → ∀ {H : Heap} {locs : List Loc} {ls : Array Slot}, wo_Se E G H → va_S (en_A E) s₀.heap H locs → lx_has ls 3 [(0, 1, .ref x0), (1, 1, .int x1), (2, 1, .int x2)] → c ≤ mc → s ≤ ms → W p l e R s₀ m args below meth cd H locs c s (MQ below (va_Qi Post (wo_B E) (en_A E)) args s₀ mc ms (en_A E)) (F0 m 2 ls [])) : ∀ {G : wo_W} {c s : Nat} {x0 : Nat} {x1 : Int32} {x2 : Int32}, pq_Md_resource_50 E mc ms Post k2 G c s x0 x1 x2 → ∀ {H : Heap} {locs : List Loc} {ls : Array Slot}, wo_Se E G H → va_S (en_A E) s₀.heap H locs → lx_has ls 3 [(0, 1, .ref x0), (1, 1, .int x1), (2, 1, .int x2)] → c ≤ mc → s ≤ ms → W p l e R s₀ m args below meth cd H locs c s (MQ below (va_Qi Post (wo_B E) (en_A E)) args s₀ mc ms (en_A E)) (F0 m 50 ls []) := by
  intro G c s x0 x1 x2 hw H locs ls hG hS hl hcc hss
  dsimp only [pq_Md_resource_50] at hw
  have hx := hC.1
  have hb := hC.2.1
  refine lx_iinc (k := 2) (v := (x2 + (1 : Int32))) (lv' := [(2, 1, .int (x2 + (1 : Int32))), (0, 1, .ref x0), (1, 1, .int x1)]) hx hb dq_Md_resource_50 hl rfl rfl (by decide) rfl (fun ls hl' => ?_)
  clear hl
  have hl := hl'
  clear hl'
  refine lv_goto (tgt := 2) hx hb dq_Md_resource_53 rfl ?_
  exact hk2 hw hG hS (lx_sub hl [1, 2, 0] rfl) hcc hss
set_option maxRecDepth 100000 in
set_option maxHeartbeats 4000000 in
theorem tq_Md_resource_2 {p : Program} {l : Launch} {e : Env} {R : Room} {s₀ : State} {m : MethodId} {args : Array Value} {below : List Frame} {meth : Method} {cd : Code} {E : wo_E} {mc ms : Nat} {Post : Int32 → wo_W → Prop} (hC : wo_Cx E "EdgeCacheModel" prog_14_method_35_code 3 0 0 ((Option.some Jvm.ClassFile.FieldType.int)) "resource" mc ms p R s₀ m args meth cd) : ∀ n : Nat, ∀ {G : wo_W} {c s : Nat} {x0 : Nat} {x1 : Int32} {x2 : Int32}, pq_Md_resource_2 E mc ms Post n G c s x0 x1 x2 → ∀ {H : Heap} {locs : List Loc} {ls : Array Slot}, wo_Se E G H → va_S (en_A E) s₀.heap H locs → lx_has ls 3 [(0, 1, .ref x0), (1, 1, .int x1), (2, 1, .int x2)] → c ≤ mc → s ≤ ms → W p l e R s₀ m args below meth cd H locs c s (MQ below (va_Qi Post (wo_B E) (en_A E)) args s₀ mc ms (en_A E)) (F0 m 2 ls []) := by
  intro n
  induction n with
  | zero => intro G c s x0 x1 x2 hw; exact hw.elim
  | succ n ih =>
    intro G c s x0 x1 x2 hw H locs ls hG hS hl hcc hss
    dsimp only [pq_Md_resource_2] at hw
    have hx := hC.1
    have hb := hC.2.1
    refine lv_iload_n hx hb dq_Md_resource_2 rfl (lx_at hl 2 rfl) ?_
    refine lv_bipush (v := (6 : Int32)) hx hb dq_Md_resource_3 rfl ?_
    refine lv_icmp_ge (tgt := 56) hx hb dq_Md_resource_5 rfl (fun h => ?_) (fun h => ?_)
    · replace hw := hw.1 h
      refine lv_iconst (v := (-1 : Int32)) hx hb dq_Md_resource_56 rfl ?_
      exact wo_iret hC hG hS hcc hss hw dq_Md_resource_57
    · replace hw := hw.2 h
      refine lv_aload_n hx hb dq_Md_resource_8 rfl (lx_at hl 0 rfl) ?_
      obtain ⟨t1, hw⟩ := hw
      refine wo_getR hC fq_Md_144 rfl hG t1 dq_Md_resource_9 (fun r2 e3 => ?_)
      replace hw := hw r2 e3
      refine lv_iload_n hx hb dq_Md_resource_12 rfl (lx_at hl 2 rfl) ?_
      obtain ⟨a4, rfl, hw⟩ := hw
      obtain ⟨t5, hw⟩ := hw
      obtain ⟨h6, hw⟩ := hw
      refine wo_zald (j := 8) hC rfl hG t5 h6 dq_Md_resource_13 ?_
      refine lv_if_eq (tgt := 50) hx hb dq_Md_resource_14 rfl (fun h => ?_) (fun h => ?_)
      · replace hw := hw.1 h
        exact tq_Md_resource_50 hC ih hw hG hS (lx_sub hl [0, 1, 2] rfl) hcc hss
      · replace hw := hw.2 h
        refine lv_aload_n hx hb dq_Md_resource_17 rfl (lx_at hl 0 rfl) ?_
        refine wo_getR hC fq_Md_147 rfl hG t1 dq_Md_resource_18 (fun r7 e8 => ?_)
        replace hw := hw r7 e8
        refine lv_iload_n hx hb dq_Md_resource_21 rfl (lx_at hl 2 rfl) ?_
        obtain ⟨a9, rfl, hw⟩ := hw
        obtain ⟨t10, hw⟩ := hw
        obtain ⟨h11, hw⟩ := hw
        refine wo_lald (j := 9) hC rfl hG t10 h11 dq_Md_resource_22 ?_
        refine lv_aload_n hx hb dq_Md_resource_23 rfl (lx_at hl 0 rfl) ?_
        refine wo_getR hC fq_Md_44 rfl hG t1 dq_Md_resource_24 (fun r12 e13 => ?_)
        replace hw := hw r12 e13
        refine lv_iload_n hx hb dq_Md_resource_27 rfl (lx_at hl 1 rfl) ?_
        obtain ⟨a14, rfl, hw⟩ := hw
        obtain ⟨t15, hw⟩ := hw
        obtain ⟨h16, hw⟩ := hw
        refine wo_lald (j := 9) hC rfl hG t15 h16 dq_Md_resource_28 ?_
        refine W.lcmp hx hb dq_Md_resource_29 ?_
        refine lv_if_ne (tgt := 50) hx hb dq_Md_resource_30 rfl (fun h => ?_) (fun h => ?_)
        · replace hw := hw.1 h
          exact tq_Md_resource_50 hC ih hw hG hS (lx_sub hl [0, 1, 2] rfl) hcc hss
        · replace hw := hw.2 h
          refine lv_aload_n hx hb dq_Md_resource_33 rfl (lx_at hl 0 rfl) ?_
          refine wo_getR hC fq_Md_150 rfl hG t1 dq_Md_resource_34 (fun r17 e18 => ?_)
          replace hw := hw r17 e18
          refine lv_iload_n hx hb dq_Md_resource_37 rfl (lx_at hl 2 rfl) ?_
          obtain ⟨a19, rfl, hw⟩ := hw
          obtain ⟨t20, hw⟩ := hw
          obtain ⟨h21, hw⟩ := hw
          refine wo_iald (j := 2) hC rfl hG t20 h21 dq_Md_resource_38 ?_
          refine lv_aload_n hx hb dq_Md_resource_39 rfl (lx_at hl 0 rfl) ?_
          refine wo_getR hC fq_Md_48 rfl hG t1 dq_Md_resource_40 (fun r22 e23 => ?_)
          replace hw := hw r22 e23
          refine lv_iload_n hx hb dq_Md_resource_43 rfl (lx_at hl 1 rfl) ?_
          obtain ⟨a24, rfl, hw⟩ := hw
          obtain ⟨t25, hw⟩ := hw
          obtain ⟨h26, hw⟩ := hw
          refine wo_iald (j := 2) hC rfl hG t25 h26 dq_Md_resource_44 ?_
          refine lv_icmp_ne (tgt := 50) hx hb dq_Md_resource_45 rfl (fun h => ?_) (fun h => ?_)
          · replace hw := hw.1 h
            exact tq_Md_resource_50 hC ih hw hG hS (lx_sub hl [0, 1, 2] rfl) hcc hss
          · replace hw := hw.2 h
            refine lv_iload_n hx hb dq_Md_resource_48 rfl (lx_at hl 2 rfl) ?_
            exact wo_iret hC hG hS hcc hss hw dq_Md_resource_49
set_option maxRecDepth 100000 in
set_option maxHeartbeats 4000000 in
theorem tq_Md_resource_0 {p : Program} {l : Launch} {e : Env} {R : Room} {s₀ : State} {m : MethodId} {args : Array Value} {below : List Frame} {meth : Method} {cd : Code} {E : wo_E} {mc ms : Nat} {Post : Int32 → wo_W → Prop} (hC : wo_Cx E "EdgeCacheModel" prog_14_method_35_code 3 0 0 ((Option.some Jvm.ClassFile.FieldType.int)) "resource" mc ms p R s₀ m args meth cd) : ∀ {G : wo_W} {c s : Nat} {x0 : Nat} {x1 : Int32}, pq_Md_resource_0 E mc ms Post G c s x0 x1 → ∀ {H : Heap} {locs : List Loc} {ls : Array Slot}, wo_Se E G H → va_S (en_A E) s₀.heap H locs → lx_has ls 3 [(0, 1, .ref x0), (1, 1, .int x1)] → c ≤ mc → s ≤ ms → W p l e R s₀ m args below meth cd H locs c s (MQ below (va_Qi Post (wo_B E) (en_A E)) args s₀ mc ms (en_A E)) (F0 m 0 ls []) := by
  intro G c s x0 x1 hw H locs ls hG hS hl hcc hss
  dsimp only [pq_Md_resource_0] at hw
  have hx := hC.1
  have hb := hC.2.1
  refine lv_iconst (v := (0 : Int32)) hx hb dq_Md_resource_0 rfl ?_
  refine lx_istore_n (lv' := [(2, 1, .int (0 : Int32)), (0, 1, .ref x0), (1, 1, .int x1)]) hx hb dq_Md_resource_1 rfl hl (by decide) rfl (fun ls hl' => ?_)
  clear hl
  have hl := hl'
  clear hl'
  obtain ⟨n1, hw⟩ := hw
  exact tq_Md_resource_2 hC n1 hw hG hS (lx_sub hl [1, 2, 0] rfl) hcc hss
set_option maxHeartbeats 4000000 in
theorem mq_Md_resource {l : Launch} {E : wo_E} {mc ms : Nat} {Post : Int32 → wo_W → Prop} {G : wo_W} {x0 : Nat} {x1 : Int32} (hw : pq_Md_resource E mc ms Post G x0 x1) : Met l yq_Md_resource (Cond.code yq_Md_resource prog_14_method_35_code 3 ((Option.some Jvm.ClassFile.FieldType.int)) :: vw_WG) { frames := 0, cells := mc, slots := ms, locals := 0 } (va_Pc [.ref x0, .int x1] (wo_Ok E G)) (va_Qi Post (wo_B E) (en_A E)) mc ms (en_A E) := by
  unfold pq_Md_resource at hw
  exact wo_met [(1, .ref x0), (1, .int x1)] rfl (by decide) (fun q hq => by simp only [List.mem_cons, List.not_mem_nil, or_false] at hq; rcases hq with rfl | rfl <;> first | rfl | exact lx_cR _) (Nat.le_of_ble_eq_true rfl) (fun p e R s m args below meth cd ls hC hG hS hl => tq_Md_resource_0 hC hw hG hS (lx_sub hl [0, 1] rfl) (Nat.zero_le _) (Nat.zero_le _))

theorem dq_Md_ask_0 : decode prog_14_method_39_code 0 = .ok (.aload_n 0, 1) := by decide +kernel
theorem dq_Md_ask_1 : decode prog_14_method_39_code 1 = .ok (.iload_n 1, 1) := by decide +kernel
theorem dq_Md_ask_2 : decode prog_14_method_39_code 2 = .ok (.invokevirtual 317, 3) := by decide +kernel
theorem dq_Md_ask_5 : decode prog_14_method_39_code 5 = .ok (.istore_n 3, 1) := by decide +kernel
theorem dq_Md_ask_6 : decode prog_14_method_39_code 6 = .ok (.iload_n 3, 1) := by decide +kernel
theorem dq_Md_ask_7 : decode prog_14_method_39_code 7 = .ok (.ifCond .ge 7, 3) := by decide +kernel
theorem dq_Md_ask_10 : decode prog_14_method_39_code 10 = .ok (.sipush 404, 3) := by decide +kernel
theorem dq_Md_ask_13 : decode prog_14_method_39_code 13 = .ok (.ireturn, 1) := by decide +kernel
theorem dq_Md_ask_14 : decode prog_14_method_39_code 14 = .ok (.aload_n 0, 1) := by decide +kernel
theorem dq_Md_ask_15 : decode prog_14_method_39_code 15 = .ok (.iload_n 1, 1) := by decide +kernel
theorem dq_Md_ask_16 : decode prog_14_method_39_code 16 = .ok (.iload_n 3, 1) := by decide +kernel
theorem dq_Md_ask_17 : decode prog_14_method_39_code 17 = .ok (.invokevirtual 320, 3) := by decide +kernel
theorem dq_Md_ask_20 : decode prog_14_method_39_code 20 = .ok (.istore 4, 2) := by decide +kernel
theorem dq_Md_ask_22 : decode prog_14_method_39_code 22 = .ok (.iload 4, 2) := by decide +kernel
theorem dq_Md_ask_24 : decode prog_14_method_39_code 24 = .ok (.ifCond .ge 7, 3) := by decide +kernel
theorem dq_Md_ask_27 : decode prog_14_method_39_code 27 = .ok (.sipush 406, 3) := by decide +kernel
theorem dq_Md_ask_30 : decode prog_14_method_39_code 30 = .ok (.ireturn, 1) := by decide +kernel
theorem dq_Md_ask_31 : decode prog_14_method_39_code 31 = .ok (.aload_n 0, 1) := by decide +kernel
theorem dq_Md_ask_32 : decode prog_14_method_39_code 32 = .ok (.getfield 99, 3) := by decide +kernel
theorem dq_Md_ask_35 : decode prog_14_method_39_code 35 = .ok (.iload_n 2, 1) := by decide +kernel
theorem dq_Md_ask_36 : decode prog_14_method_39_code 36 = .ok (.bipush 97, 2) := by decide +kernel
theorem dq_Md_ask_38 : decode prog_14_method_39_code 38 = .ok (.iload 4, 2) := by decide +kernel
theorem dq_Md_ask_40 : decode prog_14_method_39_code 40 = .ok (.iadd, 1) := by decide +kernel
theorem dq_Md_ask_41 : decode prog_14_method_39_code 41 = .ok (.iastore, 1) := by decide +kernel
theorem dq_Md_ask_42 : decode prog_14_method_39_code 42 = .ok (.aload_n 0, 1) := by decide +kernel
theorem dq_Md_ask_43 : decode prog_14_method_39_code 43 = .ok (.getfield 102, 3) := by decide +kernel
theorem dq_Md_ask_46 : decode prog_14_method_39_code 46 = .ok (.iload_n 2, 1) := by decide +kernel
theorem dq_Md_ask_47 : decode prog_14_method_39_code 47 = .ok (.aload_n 0, 1) := by decide +kernel
theorem dq_Md_ask_48 : decode prog_14_method_39_code 48 = .ok (.getfield 159, 3) := by decide +kernel
theorem dq_Md_ask_51 : decode prog_14_method_39_code 51 = .ok (.iconst 3, 1) := by decide +kernel
theorem dq_Md_ask_52 : decode prog_14_method_39_code 52 = .ok (.iload_n 3, 1) := by decide +kernel
theorem dq_Md_ask_53 : decode prog_14_method_39_code 53 = .ok (.imul, 1) := by decide +kernel
theorem dq_Md_ask_54 : decode prog_14_method_39_code 54 = .ok (.iload 4, 2) := by decide +kernel
theorem dq_Md_ask_56 : decode prog_14_method_39_code 56 = .ok (.iadd, 1) := by decide +kernel
theorem dq_Md_ask_57 : decode prog_14_method_39_code 57 = .ok (.laload, 1) := by decide +kernel
theorem dq_Md_ask_58 : decode prog_14_method_39_code 58 = .ok (.lastore, 1) := by decide +kernel
theorem dq_Md_ask_59 : decode prog_14_method_39_code 59 = .ok (.aload_n 0, 1) := by decide +kernel
theorem dq_Md_ask_60 : decode prog_14_method_39_code 60 = .ok (.getfield 105, 3) := by decide +kernel
theorem dq_Md_ask_63 : decode prog_14_method_39_code 63 = .ok (.iload_n 2, 1) := by decide +kernel
theorem dq_Md_ask_64 : decode prog_14_method_39_code 64 = .ok (.aload_n 0, 1) := by decide +kernel
theorem dq_Md_ask_65 : decode prog_14_method_39_code 65 = .ok (.getfield 162, 3) := by decide +kernel
theorem dq_Md_ask_68 : decode prog_14_method_39_code 68 = .ok (.iconst 3, 1) := by decide +kernel
theorem dq_Md_ask_69 : decode prog_14_method_39_code 69 = .ok (.iload_n 3, 1) := by decide +kernel
theorem dq_Md_ask_70 : decode prog_14_method_39_code 70 = .ok (.imul, 1) := by decide +kernel
theorem dq_Md_ask_71 : decode prog_14_method_39_code 71 = .ok (.iload 4, 2) := by decide +kernel
theorem dq_Md_ask_73 : decode prog_14_method_39_code 73 = .ok (.iadd, 1) := by decide +kernel
theorem dq_Md_ask_74 : decode prog_14_method_39_code 74 = .ok (.iaload, 1) := by decide +kernel
theorem dq_Md_ask_75 : decode prog_14_method_39_code 75 = .ok (.iastore, 1) := by decide +kernel
theorem dq_Md_ask_76 : decode prog_14_method_39_code 76 = .ok (.aload_n 0, 1) := by decide +kernel
theorem dq_Md_ask_77 : decode prog_14_method_39_code 77 = .ok (.getfield 108, 3) := by decide +kernel
theorem dq_Md_ask_80 : decode prog_14_method_39_code 80 = .ok (.iload_n 2, 1) := by decide +kernel
theorem dq_Md_ask_81 : decode prog_14_method_39_code 81 = .ok (.aload_n 0, 1) := by decide +kernel
theorem dq_Md_ask_82 : decode prog_14_method_39_code 82 = .ok (.getfield 165, 3) := by decide +kernel
theorem dq_Md_ask_85 : decode prog_14_method_39_code 85 = .ok (.iconst 3, 1) := by decide +kernel
theorem dq_Md_ask_86 : decode prog_14_method_39_code 86 = .ok (.iload_n 3, 1) := by decide +kernel
theorem dq_Md_ask_87 : decode prog_14_method_39_code 87 = .ok (.imul, 1) := by decide +kernel
theorem dq_Md_ask_88 : decode prog_14_method_39_code 88 = .ok (.iload 4, 2) := by decide +kernel
theorem dq_Md_ask_90 : decode prog_14_method_39_code 90 = .ok (.iadd, 1) := by decide +kernel
theorem dq_Md_ask_91 : decode prog_14_method_39_code 91 = .ok (.iaload, 1) := by decide +kernel
theorem dq_Md_ask_92 : decode prog_14_method_39_code 92 = .ok (.iastore, 1) := by decide +kernel
theorem dq_Md_ask_93 : decode prog_14_method_39_code 93 = .ok (.aload_n 0, 1) := by decide +kernel
theorem dq_Md_ask_94 : decode prog_14_method_39_code 94 = .ok (.getfield 111, 3) := by decide +kernel
theorem dq_Md_ask_97 : decode prog_14_method_39_code 97 = .ok (.iload_n 2, 1) := by decide +kernel
theorem dq_Md_ask_98 : decode prog_14_method_39_code 98 = .ok (.aload_n 0, 1) := by decide +kernel
theorem dq_Md_ask_99 : decode prog_14_method_39_code 99 = .ok (.getfield 153, 3) := by decide +kernel
theorem dq_Md_ask_102 : decode prog_14_method_39_code 102 = .ok (.iload_n 3, 1) := by decide +kernel
theorem dq_Md_ask_103 : decode prog_14_method_39_code 103 = .ok (.laload, 1) := by decide +kernel
theorem dq_Md_ask_104 : decode prog_14_method_39_code 104 = .ok (.lastore, 1) := by decide +kernel
theorem dq_Md_ask_105 : decode prog_14_method_39_code 105 = .ok (.aload_n 0, 1) := by decide +kernel
theorem dq_Md_ask_106 : decode prog_14_method_39_code 106 = .ok (.getfield 114, 3) := by decide +kernel
theorem dq_Md_ask_109 : decode prog_14_method_39_code 109 = .ok (.iload_n 2, 1) := by decide +kernel
theorem dq_Md_ask_110 : decode prog_14_method_39_code 110 = .ok (.aload_n 0, 1) := by decide +kernel
theorem dq_Md_ask_111 : decode prog_14_method_39_code 111 = .ok (.getfield 156, 3) := by decide +kernel
theorem dq_Md_ask_114 : decode prog_14_method_39_code 114 = .ok (.iload_n 3, 1) := by decide +kernel
theorem dq_Md_ask_115 : decode prog_14_method_39_code 115 = .ok (.iaload, 1) := by decide +kernel
theorem dq_Md_ask_116 : decode prog_14_method_39_code 116 = .ok (.iastore, 1) := by decide +kernel
theorem dq_Md_ask_117 : decode prog_14_method_39_code 117 = .ok (.aload_n 0, 1) := by decide +kernel
theorem dq_Md_ask_118 : decode prog_14_method_39_code 118 = .ok (.getfield 117, 3) := by decide +kernel
theorem dq_Md_ask_121 : decode prog_14_method_39_code 121 = .ok (.iload_n 2, 1) := by decide +kernel
theorem dq_Md_ask_122 : decode prog_14_method_39_code 122 = .ok (.aload_n 0, 1) := by decide +kernel
theorem dq_Md_ask_123 : decode prog_14_method_39_code 123 = .ok (.iload_n 3, 1) := by decide +kernel
theorem dq_Md_ask_124 : decode prog_14_method_39_code 124 = .ok (.invokevirtual 308, 3) := by decide +kernel
theorem dq_Md_ask_127 : decode prog_14_method_39_code 127 = .ok (.iconst 1, 1) := by decide +kernel
theorem dq_Md_ask_128 : decode prog_14_method_39_code 128 = .ok (.if_icmp .le 7, 3) := by decide +kernel
theorem dq_Md_ask_131 : decode prog_14_method_39_code 131 = .ok (.iconst 1, 1) := by decide +kernel
theorem dq_Md_ask_132 : decode prog_14_method_39_code 132 = .ok (.goto 4, 3) := by decide +kernel
theorem dq_Md_ask_135 : decode prog_14_method_39_code 135 = .ok (.iconst 0, 1) := by decide +kernel
theorem dq_Md_ask_136 : decode prog_14_method_39_code 136 = .ok (.bastore, 1) := by decide +kernel
theorem dq_Md_ask_137 : decode prog_14_method_39_code 137 = .ok (.sipush 200, 3) := by decide +kernel
theorem dq_Md_ask_140 : decode prog_14_method_39_code 140 = .ok (.ireturn, 1) := by decide +kernel
set_option maxRecDepth 100000 in
def pq_Md_ask_136 (E : wo_E) (mc ms : Nat) (Post : Int32 → wo_W → Prop) (G : wo_W) (c s : Nat) (y0 : Option Nat) (y1 : Int32) (y2 : Int32) : Prop := ∃ a1 : Nat, y0 = some a1 ∧ wo_ty G a1 = 72 ∧ vp_in y1 (wo_len G a1) ∧ en_bs E ≤ a1 ∧ ∀ G5 : wo_W, G5 = wo_sei G a1 y1.toNatClampNeg (vp_nar .boolean y2) → 
  Post (200 : Int32) G5
set_option maxRecDepth 100000 in
def pq_Md_ask_93 (E : wo_E) (mc ms : Nat) (Post : Int32 → wo_W → Prop) (G : wo_W) (c s : Nat) (x0 : Nat) (x2 : Int32) (x3 : Int32) : Prop := wo_ty G x0 = 15 ∧ ∀ r2 : Option Nat, r2 = wo_gr G 933 x0 → ∀ r4 : Option Nat, r4 = wo_gr G 948 x0 → ∃ a6 : Nat, r4 = some a6 ∧ wo_ty G a6 = 73 ∧ vp_in x3 (wo_len G a6) ∧ ∃ a9 : Nat, r2 = some a9 ∧ wo_ty G a9 = 73 ∧ vp_in x2 (wo_len G a9) ∧ en_bs E ≤ a9 ∧ ∀ G13 : wo_W, G13 = wo_sel G a9 x2.toNatClampNeg (wo_el G a6 x3.toNatClampNeg) → 
  ∀ r15 : Option Nat, r15 = wo_gr G13 934 x0 → ∀ r17 : Option Nat, r17 = wo_gr G13 949 x0 → ∃ a19 : Nat, r17 = some a19 ∧ wo_ty G13 a19 = 66 ∧ vp_in x3 (wo_len G13 a19) ∧ ∃ a22 : Nat, r15 = some a22 ∧ wo_ty G13 a22 = 66 ∧ vp_in x2 (wo_len G13 a22) ∧ en_bs E ≤ a22 ∧ ∀ G26 : wo_W, G26 = wo_sei G13 a22 x2.toNatClampNeg (wo_ei G13 a19 x3.toNatClampNeg) → 
  ∀ r28 : Option Nat, r28 = wo_gr G26 935 x0 → ∃ mc30 ms31 : Nat, (c + mc30) ≤ mc ∧ (s + ms31) ≤ ms ∧ pq_Md_letters E mc30 ms31 (fun v33 G32 => 
  ((v33 ≤ (1 : Int32) → pq_Md_ask_136 E mc ms Post G32 (c + mc30) (s + ms31) r28 x2 (0 : Int32)) ∧
    (¬ v33 ≤ (1 : Int32) → pq_Md_ask_136 E mc ms Post G32 (c + mc30) (s + ms31) r28 x2 (1 : Int32)))) G26 x0 x3
set_option maxRecDepth 100000 in
def pq_Md_ask_0 (E : wo_E) (mc ms : Nat) (Post : Int32 → wo_W → Prop) (G : wo_W) (c s : Nat) (x0 : Nat) (x1 : Int32) (x2 : Int32) : Prop := wo_ty G x0 = 15 ∧ ∃ mc2 ms3 : Nat, (c + mc2) ≤ mc ∧ (s + ms3) ≤ ms ∧ pq_Md_resource E mc2 ms3 (fun v5 G4 => 
  (((0 : Int32) ≤ v5 → wo_ty G4 x0 = 15 ∧ ∃ mc7 ms8 : Nat, ((c + mc2) + mc7) ≤ mc ∧ ((s + ms3) + ms8) ≤ ms ∧ pq_Md_choose E mc7 ms8 (fun v10 G9 => 
      (((0 : Int32) ≤ v10 → wo_ty G9 x0 = 15 ∧ ∀ r12 : Option Nat, r12 = wo_gr G9 929 x0 → ∃ a14 : Nat, r12 = some a14 ∧ wo_ty G9 a14 = 66 ∧ vp_in x2 (wo_len G9 a14) ∧ en_bs E ≤ a14 ∧ ∀ G18 : wo_W, G18 = wo_sei G9 a14 x2.toNatClampNeg ((97 : Int32) + v10) → 
          ∀ r20 : Option Nat, r20 = wo_gr G18 930 x0 → ∀ r22 : Option Nat, r22 = wo_gr G18 950 x0 → ∃ a24 : Nat, r22 = some a24 ∧ wo_ty G18 a24 = 73 ∧ vp_in (((3 : Int32) * v5) + v10) (wo_len G18 a24) ∧ ∃ a27 : Nat, r20 = some a27 ∧ wo_ty G18 a27 = 73 ∧ vp_in x2 (wo_len G18 a27) ∧ en_bs E ≤ a27 ∧ ∀ G31 : wo_W, G31 = wo_sel G18 a27 x2.toNatClampNeg (wo_el G18 a24 (((3 : Int32) * v5) + v10).toNatClampNeg) → 
          ∀ r33 : Option Nat, r33 = wo_gr G31 931 x0 → ∀ r35 : Option Nat, r35 = wo_gr G31 951 x0 → ∃ a37 : Nat, r35 = some a37 ∧ wo_ty G31 a37 = 66 ∧ vp_in (((3 : Int32) * v5) + v10) (wo_len G31 a37) ∧ ∃ a40 : Nat, r33 = some a40 ∧ wo_ty G31 a40 = 66 ∧ vp_in x2 (wo_len G31 a40) ∧ en_bs E ≤ a40 ∧ ∀ G44 : wo_W, G44 = wo_sei G31 a40 x2.toNatClampNeg (wo_ei G31 a37 (((3 : Int32) * v5) + v10).toNatClampNeg) → 
          ∀ r46 : Option Nat, r46 = wo_gr G44 932 x0 → ∀ r48 : Option Nat, r48 = wo_gr G44 952 x0 → ∃ a50 : Nat, r48 = some a50 ∧ wo_ty G44 a50 = 66 ∧ vp_in (((3 : Int32) * v5) + v10) (wo_len G44 a50) ∧ ∃ a53 : Nat, r46 = some a53 ∧ wo_ty G44 a53 = 66 ∧ vp_in x2 (wo_len G44 a53) ∧ en_bs E ≤ a53 ∧ ∀ G57 : wo_W, G57 = wo_sei G44 a53 x2.toNatClampNeg (wo_ei G44 a50 (((3 : Int32) * v5) + v10).toNatClampNeg) → 
          pq_Md_ask_93 E mc ms Post G57 ((c + mc2) + mc7) ((s + ms3) + ms8) x0 x2 v5) ∧
        (¬ (0 : Int32) ≤ v10 → Post (406 : Int32) G9))) G4 x0 x1 v5) ∧
    (¬ (0 : Int32) ≤ v5 → Post (404 : Int32) G4))) G x0 x1
def pq_Md_ask (E : wo_E) (mc ms : Nat) (Post : Int32 → wo_W → Prop) (G : wo_W) (x0 : Nat) (x1 : Int32) (x2 : Int32) : Prop := pq_Md_ask_0 E mc ms Post G 0 0 x0 x1 x2
set_option maxRecDepth 100000 in
set_option maxHeartbeats 4000000 in
theorem tq_Md_ask_136 {p : Program} {l : Launch} {e : Env} {R : Room} {s₀ : State} {m : MethodId} {args : Array Value} {below : List Frame} {meth : Method} {cd : Code} {E : wo_E} {mc ms : Nat} {Post : Int32 → wo_W → Prop} (hC : wo_Cx E "EdgeCacheModel" prog_14_method_39_code 5 5 122 ((Option.some Jvm.ClassFile.FieldType.int)) "ask" mc ms p R s₀ m args meth cd) : ∀ {G : wo_W} {c s : Nat} {y0 : Option Nat} {y1 : Int32} {y2 : Int32}, pq_Md_ask_136 E mc ms Post G c s y0 y1 y2 → ∀ {H : Heap} {locs : List Loc} {ls : Array Slot}, wo_Se E G H → va_S (en_A E) s₀.heap H locs → lx_has ls 5 [] → c ≤ mc → s ≤ ms → W p l e R s₀ m args below meth cd H locs c s (MQ below (va_Qi Post (wo_B E) (en_A E)) args s₀ mc ms (en_A E)) (F0 m 136 ls [.int y2, .int y1, va_rf y0]) := by
  intro G c s y0 y1 y2 hw H locs ls hG hS hl hcc hss
  dsimp only [pq_Md_ask_136] at hw
  have hx := hC.1
  have hb := hC.2.1
  obtain ⟨a1, rfl, hw⟩ := hw
  obtain ⟨t2, hw⟩ := hw
  obtain ⟨h3, hw⟩ := hw
  obtain ⟨h4, hw⟩ := hw
  refine wo_zast (j := 8) hC rfl hG hS t2 h3 h4 dq_Md_ask_136 (fun G5 H locs e6 hG hS => ?_)
  replace hw := hw G5 e6
  refine lv_sipush (v := (200 : Int32)) hx hb dq_Md_ask_137 rfl ?_
  exact wo_iret hC hG hS hcc hss hw dq_Md_ask_140
set_option maxRecDepth 100000 in
set_option maxHeartbeats 4000000 in
theorem tq_Md_ask_93 {p : Program} {l : Launch} {e : Env} {R : Room} {s₀ : State} {m : MethodId} {args : Array Value} {below : List Frame} {meth : Method} {cd : Code} {E : wo_E} {mc ms : Nat} {Post : Int32 → wo_W → Prop} (hC : wo_Cx E "EdgeCacheModel" prog_14_method_39_code 5 5 122 ((Option.some Jvm.ClassFile.FieldType.int)) "ask" mc ms p R s₀ m args meth cd) : ∀ {G : wo_W} {c s : Nat} {x0 : Nat} {x2 : Int32} {x3 : Int32}, pq_Md_ask_93 E mc ms Post G c s x0 x2 x3 → ∀ {H : Heap} {locs : List Loc} {ls : Array Slot}, wo_Se E G H → va_S (en_A E) s₀.heap H locs → lx_has ls 5 [(0, 1, .ref x0), (2, 1, .int x2), (3, 1, .int x3)] → c ≤ mc → s ≤ ms → W p l e R s₀ m args below meth cd H locs c s (MQ below (va_Qi Post (wo_B E) (en_A E)) args s₀ mc ms (en_A E)) (F0 m 93 ls []) := by
  intro G c s x0 x2 x3 hw H locs ls hG hS hl hcc hss
  dsimp only [pq_Md_ask_93] at hw
  have hx := hC.1
  have hb := hC.2.1
  refine lv_aload_n hx hb dq_Md_ask_93 rfl (lx_at hl 0 rfl) ?_
  obtain ⟨t1, hw⟩ := hw
  refine wo_getR hC fq_Md_111 rfl hG t1 dq_Md_ask_94 (fun r2 e3 => ?_)
  replace hw := hw r2 e3
  refine lv_iload_n hx hb dq_Md_ask_97 rfl (lx_at hl 1 rfl) ?_
  refine lv_aload_n hx hb dq_Md_ask_98 rfl (lx_at hl 0 rfl) ?_
  refine wo_getR hC fq_Md_153 rfl hG t1 dq_Md_ask_99 (fun r4 e5 => ?_)
  replace hw := hw r4 e5
  refine lv_iload_n hx hb dq_Md_ask_102 rfl (lx_at hl 2 rfl) ?_
  obtain ⟨a6, rfl, hw⟩ := hw
  obtain ⟨t7, hw⟩ := hw
  obtain ⟨h8, hw⟩ := hw
  refine wo_lald (j := 9) hC rfl hG t7 h8 dq_Md_ask_103 ?_
  obtain ⟨a9, rfl, hw⟩ := hw
  obtain ⟨t10, hw⟩ := hw
  obtain ⟨h11, hw⟩ := hw
  obtain ⟨h12, hw⟩ := hw
  refine wo_last (j := 9) hC rfl hG hS t10 h11 h12 dq_Md_ask_104 (fun G13 H locs e14 hG hS => ?_)
  replace hw := hw G13 e14
  refine lv_aload_n hx hb dq_Md_ask_105 rfl (lx_at hl 0 rfl) ?_
  refine wo_getR hC fq_Md_114 rfl hG (ty_sel e14 t1) dq_Md_ask_106 (fun r15 e16 => ?_)
  replace hw := hw r15 e16
  refine lv_iload_n hx hb dq_Md_ask_109 rfl (lx_at hl 1 rfl) ?_
  refine lv_aload_n hx hb dq_Md_ask_110 rfl (lx_at hl 0 rfl) ?_
  refine wo_getR hC fq_Md_156 rfl hG (ty_sel e14 t1) dq_Md_ask_111 (fun r17 e18 => ?_)
  replace hw := hw r17 e18
  refine lv_iload_n hx hb dq_Md_ask_114 rfl (lx_at hl 2 rfl) ?_
  obtain ⟨a19, rfl, hw⟩ := hw
  obtain ⟨t20, hw⟩ := hw
  obtain ⟨h21, hw⟩ := hw
  refine wo_iald (j := 2) hC rfl hG t20 h21 dq_Md_ask_115 ?_
  obtain ⟨a22, rfl, hw⟩ := hw
  obtain ⟨t23, hw⟩ := hw
  obtain ⟨h24, hw⟩ := hw
  obtain ⟨h25, hw⟩ := hw
  refine wo_iast (j := 2) hC rfl hG hS t23 h24 h25 dq_Md_ask_116 (fun G26 H locs e27 hG hS => ?_)
  replace hw := hw G26 e27
  refine lv_aload_n hx hb dq_Md_ask_117 rfl (lx_at hl 0 rfl) ?_
  refine wo_getR hC fq_Md_117 rfl hG (ty_sei e27 (ty_sel e14 t1)) dq_Md_ask_118 (fun r28 e29 => ?_)
  replace hw := hw r28 e29
  refine lv_iload_n hx hb dq_Md_ask_121 rfl (lx_at hl 1 rfl) ?_
  refine lv_aload_n hx hb dq_Md_ask_122 rfl (lx_at hl 0 rfl) ?_
  refine lv_iload_n hx hb dq_Md_ask_123 rfl (lx_at hl 2 rfl) ?_
  obtain ⟨mc30, ms31, hc1, hs1, hw⟩ := hw
  refine va_calli (wo_runV hC lq_Md_308 (mq_Md_letters hw) hG hS (ty_sei e27 (ty_sel e14 t1)) rfl (lx_sz hl) rfl (lx_rm (Nat.le_of_ble_eq_true rfl)) (by decide) dq_Md_ask_124 ⟨hc1, hs1⟩) hS (fun _ _ h => h) (fun _ h => h) (fun v33 G32 t H locs ht hvm hw' hB _ _ hS => ?_)
  clear hw
  have hw := hw'
  clear hw'
  replace hG := wo_bk ht hB
  replace hcc := hc1
  replace hss := hs1
  refine lv_iconst (v := (1 : Int32)) hx hb dq_Md_ask_127 rfl ?_
  refine lv_icmp_le (tgt := 135) hx hb dq_Md_ask_128 rfl (fun h => ?_) (fun h => ?_)
  · replace hw := hw.1 h
    refine lv_iconst (v := (0 : Int32)) hx hb dq_Md_ask_135 rfl ?_
    exact tq_Md_ask_136 hC hw hG hS (lx_sub hl [] rfl) hcc hss
  · replace hw := hw.2 h
    refine lv_iconst (v := (1 : Int32)) hx hb dq_Md_ask_131 rfl ?_
    refine lv_goto (tgt := 136) hx hb dq_Md_ask_132 rfl ?_
    exact tq_Md_ask_136 hC hw hG hS (lx_sub hl [] rfl) hcc hss
set_option maxRecDepth 100000 in
set_option maxHeartbeats 4000000 in
theorem tq_Md_ask_0 {p : Program} {l : Launch} {e : Env} {R : Room} {s₀ : State} {m : MethodId} {args : Array Value} {below : List Frame} {meth : Method} {cd : Code} {E : wo_E} {mc ms : Nat} {Post : Int32 → wo_W → Prop} (hC : wo_Cx E "EdgeCacheModel" prog_14_method_39_code 5 5 122 ((Option.some Jvm.ClassFile.FieldType.int)) "ask" mc ms p R s₀ m args meth cd) : ∀ {G : wo_W} {c s : Nat} {x0 : Nat} {x1 : Int32} {x2 : Int32}, pq_Md_ask_0 E mc ms Post G c s x0 x1 x2 → ∀ {H : Heap} {locs : List Loc} {ls : Array Slot}, wo_Se E G H → va_S (en_A E) s₀.heap H locs → lx_has ls 5 [(0, 1, .ref x0), (1, 1, .int x1), (2, 1, .int x2)] → c ≤ mc → s ≤ ms → W p l e R s₀ m args below meth cd H locs c s (MQ below (va_Qi Post (wo_B E) (en_A E)) args s₀ mc ms (en_A E)) (F0 m 0 ls []) := by
  intro G c s x0 x1 x2 hw H locs ls hG hS hl hcc hss
  dsimp only [pq_Md_ask_0] at hw
  have hx := hC.1
  have hb := hC.2.1
  refine lv_aload_n hx hb dq_Md_ask_0 rfl (lx_at hl 0 rfl) ?_
  refine lv_iload_n hx hb dq_Md_ask_1 rfl (lx_at hl 1 rfl) ?_
  obtain ⟨t1, hw⟩ := hw
  obtain ⟨mc2, ms3, hc1, hs1, hw⟩ := hw
  refine va_calli (wo_runV hC lq_Md_317 (mq_Md_resource hw) hG hS t1 rfl (lx_sz hl) rfl (Nat.zero_le _) (by decide) dq_Md_ask_2 ⟨hc1, hs1⟩) hS (fun _ _ h => h) (fun _ h => h) (fun v5 G4 t H locs ht hvm hw' hB _ _ hS => ?_)
  clear hw
  have hw := hw'
  clear hw'
  replace hG := wo_bk ht hB
  replace hcc := hc1
  replace hss := hs1
  refine lx_istore_n (lv' := [(3, 1, .int v5), (0, 1, .ref x0), (1, 1, .int x1), (2, 1, .int x2)]) hx hb dq_Md_ask_5 rfl hl (by decide) rfl (fun ls hl' => ?_)
  clear hl
  have hl := hl'
  clear hl'
  refine lv_iload_n hx hb dq_Md_ask_6 rfl (lx_at hl 0 rfl) ?_
  refine lv_if_ge (tgt := 14) hx hb dq_Md_ask_7 rfl (fun h => ?_) (fun h => ?_)
  · replace hw := hw.1 h
    refine lv_aload_n hx hb dq_Md_ask_14 rfl (lx_at hl 1 rfl) ?_
    refine lv_iload_n hx hb dq_Md_ask_15 rfl (lx_at hl 2 rfl) ?_
    refine lv_iload_n hx hb dq_Md_ask_16 rfl (lx_at hl 0 rfl) ?_
    obtain ⟨t6, hw⟩ := hw
    obtain ⟨mc7, ms8, hc1, hs1, hw⟩ := hw
    refine va_calli (wo_runV hC lq_Md_320 (mq_Md_choose hw) hG hS t6 rfl (lx_sz hl) rfl (Nat.zero_le _) (by decide) dq_Md_ask_17 ⟨hc1, hs1⟩) hS (fun _ _ h => h) (fun _ h => h) (fun v10 G9 t H locs ht hvm hw' hB _ _ hS => ?_)
    clear hw
    have hw := hw'
    clear hw'
    replace hG := wo_bk ht hB
    replace hcc := hc1
    replace hss := hs1
    refine lx_istore (lv' := [(4, 1, .int v10), (3, 1, .int v5), (0, 1, .ref x0), (1, 1, .int x1), (2, 1, .int x2)]) hx hb dq_Md_ask_20 hl (by decide) rfl (fun ls hl' => ?_)
    clear hl
    have hl := hl'
    clear hl'
    refine lv_iload hx hb dq_Md_ask_22 (lx_at hl 0 rfl) ?_
    refine lv_if_ge (tgt := 31) hx hb dq_Md_ask_24 rfl (fun h => ?_) (fun h => ?_)
    · replace hw := hw.1 h
      refine lv_aload_n hx hb dq_Md_ask_31 rfl (lx_at hl 2 rfl) ?_
      obtain ⟨t11, hw⟩ := hw
      refine wo_getR hC fq_Md_99 rfl hG t11 dq_Md_ask_32 (fun r12 e13 => ?_)
      replace hw := hw r12 e13
      refine lv_iload_n hx hb dq_Md_ask_35 rfl (lx_at hl 4 rfl) ?_
      refine lv_bipush (v := (97 : Int32)) hx hb dq_Md_ask_36 rfl ?_
      refine lv_iload hx hb dq_Md_ask_38 (lx_at hl 0 rfl) ?_
      refine lv_iadd hx hb dq_Md_ask_40 ?_
      obtain ⟨a14, rfl, hw⟩ := hw
      obtain ⟨t15, hw⟩ := hw
      obtain ⟨h16, hw⟩ := hw
      obtain ⟨h17, hw⟩ := hw
      refine wo_iast (j := 2) hC rfl hG hS t15 h16 h17 dq_Md_ask_41 (fun G18 H locs e19 hG hS => ?_)
      replace hw := hw G18 e19
      refine lv_aload_n hx hb dq_Md_ask_42 rfl (lx_at hl 2 rfl) ?_
      refine wo_getR hC fq_Md_102 rfl hG (ty_sei e19 t11) dq_Md_ask_43 (fun r20 e21 => ?_)
      replace hw := hw r20 e21
      refine lv_iload_n hx hb dq_Md_ask_46 rfl (lx_at hl 4 rfl) ?_
      refine lv_aload_n hx hb dq_Md_ask_47 rfl (lx_at hl 2 rfl) ?_
      refine wo_getR hC fq_Md_159 rfl hG (ty_sei e19 t11) dq_Md_ask_48 (fun r22 e23 => ?_)
      replace hw := hw r22 e23
      refine lv_iconst (v := (3 : Int32)) hx hb dq_Md_ask_51 rfl ?_
      refine lv_iload_n hx hb dq_Md_ask_52 rfl (lx_at hl 1 rfl) ?_
      refine lv_imul hx hb dq_Md_ask_53 ?_
      refine lv_iload hx hb dq_Md_ask_54 (lx_at hl 0 rfl) ?_
      refine lv_iadd hx hb dq_Md_ask_56 ?_
      obtain ⟨a24, rfl, hw⟩ := hw
      obtain ⟨t25, hw⟩ := hw
      obtain ⟨h26, hw⟩ := hw
      refine wo_lald (j := 9) hC rfl hG t25 h26 dq_Md_ask_57 ?_
      obtain ⟨a27, rfl, hw⟩ := hw
      obtain ⟨t28, hw⟩ := hw
      obtain ⟨h29, hw⟩ := hw
      obtain ⟨h30, hw⟩ := hw
      refine wo_last (j := 9) hC rfl hG hS t28 h29 h30 dq_Md_ask_58 (fun G31 H locs e32 hG hS => ?_)
      replace hw := hw G31 e32
      refine lv_aload_n hx hb dq_Md_ask_59 rfl (lx_at hl 2 rfl) ?_
      refine wo_getR hC fq_Md_105 rfl hG (ty_sel e32 (ty_sei e19 t11)) dq_Md_ask_60 (fun r33 e34 => ?_)
      replace hw := hw r33 e34
      refine lv_iload_n hx hb dq_Md_ask_63 rfl (lx_at hl 4 rfl) ?_
      refine lv_aload_n hx hb dq_Md_ask_64 rfl (lx_at hl 2 rfl) ?_
      refine wo_getR hC fq_Md_162 rfl hG (ty_sel e32 (ty_sei e19 t11)) dq_Md_ask_65 (fun r35 e36 => ?_)
      replace hw := hw r35 e36
      refine lv_iconst (v := (3 : Int32)) hx hb dq_Md_ask_68 rfl ?_
      refine lv_iload_n hx hb dq_Md_ask_69 rfl (lx_at hl 1 rfl) ?_
      refine lv_imul hx hb dq_Md_ask_70 ?_
      refine lv_iload hx hb dq_Md_ask_71 (lx_at hl 0 rfl) ?_
      refine lv_iadd hx hb dq_Md_ask_73 ?_
      obtain ⟨a37, rfl, hw⟩ := hw
      obtain ⟨t38, hw⟩ := hw
      obtain ⟨h39, hw⟩ := hw
      refine wo_iald (j := 2) hC rfl hG t38 h39 dq_Md_ask_74 ?_
      obtain ⟨a40, rfl, hw⟩ := hw
      obtain ⟨t41, hw⟩ := hw
      obtain ⟨h42, hw⟩ := hw
      obtain ⟨h43, hw⟩ := hw
      refine wo_iast (j := 2) hC rfl hG hS t41 h42 h43 dq_Md_ask_75 (fun G44 H locs e45 hG hS => ?_)
      replace hw := hw G44 e45
      refine lv_aload_n hx hb dq_Md_ask_76 rfl (lx_at hl 2 rfl) ?_
      refine wo_getR hC fq_Md_108 rfl hG (ty_sei e45 (ty_sel e32 (ty_sei e19 t11))) dq_Md_ask_77 (fun r46 e47 => ?_)
      replace hw := hw r46 e47
      refine lv_iload_n hx hb dq_Md_ask_80 rfl (lx_at hl 4 rfl) ?_
      refine lv_aload_n hx hb dq_Md_ask_81 rfl (lx_at hl 2 rfl) ?_
      refine wo_getR hC fq_Md_165 rfl hG (ty_sei e45 (ty_sel e32 (ty_sei e19 t11))) dq_Md_ask_82 (fun r48 e49 => ?_)
      replace hw := hw r48 e49
      refine lv_iconst (v := (3 : Int32)) hx hb dq_Md_ask_85 rfl ?_
      refine lv_iload_n hx hb dq_Md_ask_86 rfl (lx_at hl 1 rfl) ?_
      refine lv_imul hx hb dq_Md_ask_87 ?_
      refine lv_iload hx hb dq_Md_ask_88 (lx_at hl 0 rfl) ?_
      refine lv_iadd hx hb dq_Md_ask_90 ?_
      obtain ⟨a50, rfl, hw⟩ := hw
      obtain ⟨t51, hw⟩ := hw
      obtain ⟨h52, hw⟩ := hw
      refine wo_iald (j := 2) hC rfl hG t51 h52 dq_Md_ask_91 ?_
      obtain ⟨a53, rfl, hw⟩ := hw
      obtain ⟨t54, hw⟩ := hw
      obtain ⟨h55, hw⟩ := hw
      obtain ⟨h56, hw⟩ := hw
      refine wo_iast (j := 2) hC rfl hG hS t54 h55 h56 dq_Md_ask_92 (fun G57 H locs e58 hG hS => ?_)
      replace hw := hw G57 e58
      exact tq_Md_ask_93 hC hw hG hS (lx_sub hl [2, 4, 1] rfl) hcc hss
    · replace hw := hw.2 h
      refine lv_sipush (v := (406 : Int32)) hx hb dq_Md_ask_27 rfl ?_
      exact wo_iret hC hG hS hcc hss hw dq_Md_ask_30
  · replace hw := hw.2 h
    refine lv_sipush (v := (404 : Int32)) hx hb dq_Md_ask_10 rfl ?_
    exact wo_iret hC hG hS hcc hss hw dq_Md_ask_13
set_option maxHeartbeats 4000000 in
theorem mq_Md_ask {l : Launch} {E : wo_E} {mc ms : Nat} {Post : Int32 → wo_W → Prop} {G : wo_W} {x0 : Nat} {x1 : Int32} {x2 : Int32} (hw : pq_Md_ask E mc ms Post G x0 x1 x2) : Met l yq_Md_ask (Cond.code yq_Md_ask prog_14_method_39_code 5 ((Option.some Jvm.ClassFile.FieldType.int)) :: vw_WG) { frames := 5, cells := mc, slots := ms, locals := 122 } (va_Pc [.ref x0, .int x1, .int x2] (wo_Ok E G)) (va_Qi Post (wo_B E) (en_A E)) mc ms (en_A E) := by
  unfold pq_Md_ask at hw
  exact wo_met [(1, .ref x0), (1, .int x1), (1, .int x2)] rfl (by decide) (fun q hq => by simp only [List.mem_cons, List.not_mem_nil, or_false] at hq; rcases hq with rfl | rfl | rfl <;> first | rfl | exact lx_cR _) (Nat.le_of_ble_eq_true rfl) (fun p e R s m args below meth cd ls hC hG hS hl => tq_Md_ask_0 hC hw hG hS (lx_sub hl [0, 1, 2] rfl) (Nat.zero_le _) (Nat.zero_le _))

theorem dq_Md_freshResource_0 : decode prog_14_method_42_code 0 = .ok (.iconst 0, 1) := by decide +kernel
theorem dq_Md_freshResource_1 : decode prog_14_method_42_code 1 = .ok (.istore_n 2, 1) := by decide +kernel
theorem dq_Md_freshResource_2 : decode prog_14_method_42_code 2 = .ok (.iload_n 2, 1) := by decide +kernel
theorem dq_Md_freshResource_3 : decode prog_14_method_42_code 3 = .ok (.bipush 6, 2) := by decide +kernel
theorem dq_Md_freshResource_5 : decode prog_14_method_42_code 5 = .ok (.if_icmp .ge 75, 3) := by decide +kernel
theorem dq_Md_freshResource_8 : decode prog_14_method_42_code 8 = .ok (.aload_n 0, 1) := by decide +kernel
theorem dq_Md_freshResource_9 : decode prog_14_method_42_code 9 = .ok (.getfield 144, 3) := by decide +kernel
theorem dq_Md_freshResource_12 : decode prog_14_method_42_code 12 = .ok (.iload_n 2, 1) := by decide +kernel
theorem dq_Md_freshResource_13 : decode prog_14_method_42_code 13 = .ok (.baload, 1) := by decide +kernel
theorem dq_Md_freshResource_14 : decode prog_14_method_42_code 14 = .ok (.ifCond .ne 60, 3) := by decide +kernel
theorem dq_Md_freshResource_17 : decode prog_14_method_42_code 17 = .ok (.aload_n 0, 1) := by decide +kernel
theorem dq_Md_freshResource_18 : decode prog_14_method_42_code 18 = .ok (.getfield 144, 3) := by decide +kernel
theorem dq_Md_freshResource_21 : decode prog_14_method_42_code 21 = .ok (.iload_n 2, 1) := by decide +kernel
theorem dq_Md_freshResource_22 : decode prog_14_method_42_code 22 = .ok (.iconst 1, 1) := by decide +kernel
theorem dq_Md_freshResource_23 : decode prog_14_method_42_code 23 = .ok (.bastore, 1) := by decide +kernel
theorem dq_Md_freshResource_24 : decode prog_14_method_42_code 24 = .ok (.aload_n 0, 1) := by decide +kernel
theorem dq_Md_freshResource_25 : decode prog_14_method_42_code 25 = .ok (.getfield 147, 3) := by decide +kernel
theorem dq_Md_freshResource_28 : decode prog_14_method_42_code 28 = .ok (.iload_n 2, 1) := by decide +kernel
theorem dq_Md_freshResource_29 : decode prog_14_method_42_code 29 = .ok (.aload_n 0, 1) := by decide +kernel
theorem dq_Md_freshResource_30 : decode prog_14_method_42_code 30 = .ok (.getfield 44, 3) := by decide +kernel
theorem dq_Md_freshResource_33 : decode prog_14_method_42_code 33 = .ok (.iload_n 1, 1) := by decide +kernel
theorem dq_Md_freshResource_34 : decode prog_14_method_42_code 34 = .ok (.laload, 1) := by decide +kernel
theorem dq_Md_freshResource_35 : decode prog_14_method_42_code 35 = .ok (.lastore, 1) := by decide +kernel
theorem dq_Md_freshResource_36 : decode prog_14_method_42_code 36 = .ok (.aload_n 0, 1) := by decide +kernel
theorem dq_Md_freshResource_37 : decode prog_14_method_42_code 37 = .ok (.getfield 150, 3) := by decide +kernel
theorem dq_Md_freshResource_40 : decode prog_14_method_42_code 40 = .ok (.iload_n 2, 1) := by decide +kernel
theorem dq_Md_freshResource_41 : decode prog_14_method_42_code 41 = .ok (.aload_n 0, 1) := by decide +kernel
theorem dq_Md_freshResource_42 : decode prog_14_method_42_code 42 = .ok (.getfield 48, 3) := by decide +kernel
theorem dq_Md_freshResource_45 : decode prog_14_method_42_code 45 = .ok (.iload_n 1, 1) := by decide +kernel
theorem dq_Md_freshResource_46 : decode prog_14_method_42_code 46 = .ok (.iaload, 1) := by decide +kernel
theorem dq_Md_freshResource_47 : decode prog_14_method_42_code 47 = .ok (.iastore, 1) := by decide +kernel
theorem dq_Md_freshResource_48 : decode prog_14_method_42_code 48 = .ok (.iconst 0, 1) := by decide +kernel
theorem dq_Md_freshResource_49 : decode prog_14_method_42_code 49 = .ok (.istore_n 3, 1) := by decide +kernel
theorem dq_Md_freshResource_50 : decode prog_14_method_42_code 50 = .ok (.iload_n 3, 1) := by decide +kernel
theorem dq_Md_freshResource_51 : decode prog_14_method_42_code 51 = .ok (.iconst 3, 1) := by decide +kernel
theorem dq_Md_freshResource_52 : decode prog_14_method_42_code 52 = .ok (.if_icmp .ge 20, 3) := by decide +kernel
theorem dq_Md_freshResource_55 : decode prog_14_method_42_code 55 = .ok (.aload_n 0, 1) := by decide +kernel
theorem dq_Md_freshResource_56 : decode prog_14_method_42_code 56 = .ok (.getfield 165, 3) := by decide +kernel
theorem dq_Md_freshResource_59 : decode prog_14_method_42_code 59 = .ok (.iconst 3, 1) := by decide +kernel
theorem dq_Md_freshResource_60 : decode prog_14_method_42_code 60 = .ok (.iload_n 2, 1) := by decide +kernel
theorem dq_Md_freshResource_61 : decode prog_14_method_42_code 61 = .ok (.imul, 1) := by decide +kernel
theorem dq_Md_freshResource_62 : decode prog_14_method_42_code 62 = .ok (.iload_n 3, 1) := by decide +kernel
theorem dq_Md_freshResource_63 : decode prog_14_method_42_code 63 = .ok (.iadd, 1) := by decide +kernel
theorem dq_Md_freshResource_64 : decode prog_14_method_42_code 64 = .ok (.iconst 0, 1) := by decide +kernel
theorem dq_Md_freshResource_65 : decode prog_14_method_42_code 65 = .ok (.iastore, 1) := by decide +kernel
theorem dq_Md_freshResource_66 : decode prog_14_method_42_code 66 = .ok (.iinc 3 1, 3) := by decide +kernel
theorem dq_Md_freshResource_69 : decode prog_14_method_42_code 69 = .ok (.goto (-19), 3) := by decide +kernel
theorem dq_Md_freshResource_72 : decode prog_14_method_42_code 72 = .ok (.iload_n 2, 1) := by decide +kernel
theorem dq_Md_freshResource_73 : decode prog_14_method_42_code 73 = .ok (.ireturn, 1) := by decide +kernel
theorem dq_Md_freshResource_74 : decode prog_14_method_42_code 74 = .ok (.iinc 2 1, 3) := by decide +kernel
theorem dq_Md_freshResource_77 : decode prog_14_method_42_code 77 = .ok (.goto (-75), 3) := by decide +kernel
theorem dq_Md_freshResource_80 : decode prog_14_method_42_code 80 = .ok (.iconst (-1), 1) := by decide +kernel
theorem dq_Md_freshResource_81 : decode prog_14_method_42_code 81 = .ok (.ireturn, 1) := by decide +kernel
set_option maxRecDepth 100000 in
def pq_Md_freshResource_50 (E : wo_E) (mc ms : Nat) (Post : Int32 → wo_W → Prop) : Nat → wo_W → Nat → Nat → Nat → Int32 → Int32 → Prop
  | 0 => fun _ _ _ _ _ _ => False
  | n + 1 => fun G c s x0 x2 x3 => (((3 : Int32) ≤ x3 → Post x2 G) ∧
  (¬ (3 : Int32) ≤ x3 → wo_ty G x0 = 15 ∧ ∀ r2 : Option Nat, r2 = wo_gr G 952 x0 → ∃ a4 : Nat, r2 = some a4 ∧ wo_ty G a4 = 66 ∧ vp_in (((3 : Int32) * x2) + x3) (wo_len G a4) ∧ en_bs E ≤ a4 ∧ ∀ G8 : wo_W, G8 = wo_sei G a4 (((3 : Int32) * x2) + x3).toNatClampNeg (0 : Int32) → 
    pq_Md_freshResource_50 E mc ms Post n G8 c s x0 x2 (x3 + (1 : Int32))))
set_option maxRecDepth 100000 in
def pq_Md_freshResource_2 (E : wo_E) (mc ms : Nat) (Post : Int32 → wo_W → Prop) : Nat → wo_W → Nat → Nat → Nat → Int32 → Int32 → Prop
  | 0 => fun _ _ _ _ _ _ => False
  | n + 1 => fun G c s x0 x1 x2 => (((6 : Int32) ≤ x2 → Post (-1 : Int32) G) ∧
  (¬ (6 : Int32) ≤ x2 → wo_ty G x0 = 15 ∧ ∀ r2 : Option Nat, r2 = wo_gr G 945 x0 → ∃ a4 : Nat, r2 = some a4 ∧ wo_ty G a4 = 72 ∧ vp_in x2 (wo_len G a4) ∧ ((¬ (wo_ei G a4 x2.toNatClampNeg) = (0 : Int32) → pq_Md_freshResource_2 E mc ms Post n G c s x0 x1 (x2 + (1 : Int32))) ∧
    ((wo_ei G a4 x2.toNatClampNeg) = (0 : Int32) → ∀ r7 : Option Nat, r7 = wo_gr G 945 x0 → ∃ a9 : Nat, r7 = some a9 ∧ wo_ty G a9 = 72 ∧ vp_in x2 (wo_len G a9) ∧ en_bs E ≤ a9 ∧ ∀ G13 : wo_W, G13 = wo_sei G a9 x2.toNatClampNeg (vp_nar .boolean (1 : Int32)) → 
      ∀ r15 : Option Nat, r15 = wo_gr G13 946 x0 → ∀ r17 : Option Nat, r17 = wo_gr G13 908 x0 → ∃ a19 : Nat, r17 = some a19 ∧ wo_ty G13 a19 = 73 ∧ vp_in x1 (wo_len G13 a19) ∧ ∃ a22 : Nat, r15 = some a22 ∧ wo_ty G13 a22 = 73 ∧ vp_in x2 (wo_len G13 a22) ∧ en_bs E ≤ a22 ∧ ∀ G26 : wo_W, G26 = wo_sel G13 a22 x2.toNatClampNeg (wo_el G13 a19 x1.toNatClampNeg) → 
      ∀ r28 : Option Nat, r28 = wo_gr G26 947 x0 → ∀ r30 : Option Nat, r30 = wo_gr G26 909 x0 → ∃ a32 : Nat, r30 = some a32 ∧ wo_ty G26 a32 = 66 ∧ vp_in x1 (wo_len G26 a32) ∧ ∃ a35 : Nat, r28 = some a35 ∧ wo_ty G26 a35 = 66 ∧ vp_in x2 (wo_len G26 a35) ∧ en_bs E ≤ a35 ∧ ∀ G39 : wo_W, G39 = wo_sei G26 a35 x2.toNatClampNeg (wo_ei G26 a32 x1.toNatClampNeg) → 
      ∃ n1 : Nat, pq_Md_freshResource_50 E mc ms Post n1 G39 c s x0 x2 (0 : Int32)))))
set_option maxRecDepth 100000 in
def pq_Md_freshResource_0 (E : wo_E) (mc ms : Nat) (Post : Int32 → wo_W → Prop) (G : wo_W) (c s : Nat) (x0 : Nat) (x1 : Int32) : Prop := ∃ n1 : Nat, pq_Md_freshResource_2 E mc ms Post n1 G c s x0 x1 (0 : Int32)
def pq_Md_freshResource (E : wo_E) (mc ms : Nat) (Post : Int32 → wo_W → Prop) (G : wo_W) (x0 : Nat) (x1 : Int32) : Prop := pq_Md_freshResource_0 E mc ms Post G 0 0 x0 x1
set_option maxRecDepth 100000 in
set_option maxHeartbeats 4000000 in
theorem tq_Md_freshResource_50 {p : Program} {l : Launch} {e : Env} {R : Room} {s₀ : State} {m : MethodId} {args : Array Value} {below : List Frame} {meth : Method} {cd : Code} {E : wo_E} {mc ms : Nat} {Post : Int32 → wo_W → Prop} (hC : wo_Cx E "EdgeCacheModel" prog_14_method_42_code 4 0 0 ((Option.some Jvm.ClassFile.FieldType.int)) "freshResource" mc ms p R s₀ m args meth cd) : ∀ n : Nat, ∀ {G : wo_W} {c s : Nat} {x0 : Nat} {x2 : Int32} {x3 : Int32}, pq_Md_freshResource_50 E mc ms Post n G c s x0 x2 x3 → ∀ {H : Heap} {locs : List Loc} {ls : Array Slot}, wo_Se E G H → va_S (en_A E) s₀.heap H locs → lx_has ls 4 [(0, 1, .ref x0), (2, 1, .int x2), (3, 1, .int x3)] → c ≤ mc → s ≤ ms → W p l e R s₀ m args below meth cd H locs c s (MQ below (va_Qi Post (wo_B E) (en_A E)) args s₀ mc ms (en_A E)) (F0 m 50 ls []) := by
  intro n
  induction n with
  | zero => intro G c s x0 x2 x3 hw; exact hw.elim
  | succ n ih =>
    intro G c s x0 x2 x3 hw H locs ls hG hS hl hcc hss
    dsimp only [pq_Md_freshResource_50] at hw
    have hx := hC.1
    have hb := hC.2.1
    refine lv_iload_n hx hb dq_Md_freshResource_50 rfl (lx_at hl 2 rfl) ?_
    refine lv_iconst (v := (3 : Int32)) hx hb dq_Md_freshResource_51 rfl ?_
    refine lv_icmp_ge (tgt := 72) hx hb dq_Md_freshResource_52 rfl (fun h => ?_) (fun h => ?_)
    · replace hw := hw.1 h
      refine lv_iload_n hx hb dq_Md_freshResource_72 rfl (lx_at hl 1 rfl) ?_
      exact wo_iret hC hG hS hcc hss hw dq_Md_freshResource_73
    · replace hw := hw.2 h
      refine lv_aload_n hx hb dq_Md_freshResource_55 rfl (lx_at hl 0 rfl) ?_
      obtain ⟨t1, hw⟩ := hw
      refine wo_getR hC fq_Md_165 rfl hG t1 dq_Md_freshResource_56 (fun r2 e3 => ?_)
      replace hw := hw r2 e3
      refine lv_iconst (v := (3 : Int32)) hx hb dq_Md_freshResource_59 rfl ?_
      refine lv_iload_n hx hb dq_Md_freshResource_60 rfl (lx_at hl 1 rfl) ?_
      refine lv_imul hx hb dq_Md_freshResource_61 ?_
      refine lv_iload_n hx hb dq_Md_freshResource_62 rfl (lx_at hl 2 rfl) ?_
      refine lv_iadd hx hb dq_Md_freshResource_63 ?_
      refine lv_iconst (v := (0 : Int32)) hx hb dq_Md_freshResource_64 rfl ?_
      obtain ⟨a4, rfl, hw⟩ := hw
      obtain ⟨t5, hw⟩ := hw
      obtain ⟨h6, hw⟩ := hw
      obtain ⟨h7, hw⟩ := hw
      refine wo_iast (j := 2) hC rfl hG hS t5 h6 h7 dq_Md_freshResource_65 (fun G8 H locs e9 hG hS => ?_)
      replace hw := hw G8 e9
      refine lx_iinc (k := 2) (v := (x3 + (1 : Int32))) (lv' := [(3, 1, .int (x3 + (1 : Int32))), (0, 1, .ref x0), (2, 1, .int x2)]) hx hb dq_Md_freshResource_66 hl rfl rfl (by decide) rfl (fun ls hl' => ?_)
      clear hl
      have hl := hl'
      clear hl'
      refine lv_goto (tgt := 50) hx hb dq_Md_freshResource_69 rfl ?_
      exact ih hw hG hS (lx_sub hl [1, 2, 0] rfl) hcc hss
set_option maxRecDepth 100000 in
set_option maxHeartbeats 4000000 in
theorem tq_Md_freshResource_2 {p : Program} {l : Launch} {e : Env} {R : Room} {s₀ : State} {m : MethodId} {args : Array Value} {below : List Frame} {meth : Method} {cd : Code} {E : wo_E} {mc ms : Nat} {Post : Int32 → wo_W → Prop} (hC : wo_Cx E "EdgeCacheModel" prog_14_method_42_code 4 0 0 ((Option.some Jvm.ClassFile.FieldType.int)) "freshResource" mc ms p R s₀ m args meth cd) : ∀ n : Nat, ∀ {G : wo_W} {c s : Nat} {x0 : Nat} {x1 : Int32} {x2 : Int32}, pq_Md_freshResource_2 E mc ms Post n G c s x0 x1 x2 → ∀ {H : Heap} {locs : List Loc} {ls : Array Slot}, wo_Se E G H → va_S (en_A E) s₀.heap H locs → lx_has ls 4 [(0, 1, .ref x0), (1, 1, .int x1), (2, 1, .int x2)] → c ≤ mc → s ≤ ms → W p l e R s₀ m args below meth cd H locs c s (MQ below (va_Qi Post (wo_B E) (en_A E)) args s₀ mc ms (en_A E)) (F0 m 2 ls []) := by
  intro n
  induction n with
  | zero => intro G c s x0 x1 x2 hw; exact hw.elim
  | succ n ih =>
    intro G c s x0 x1 x2 hw H locs ls hG hS hl hcc hss
    dsimp only [pq_Md_freshResource_2] at hw
    have hx := hC.1
    have hb := hC.2.1
    refine lv_iload_n hx hb dq_Md_freshResource_2 rfl (lx_at hl 2 rfl) ?_
    refine lv_bipush (v := (6 : Int32)) hx hb dq_Md_freshResource_3 rfl ?_
    refine lv_icmp_ge (tgt := 80) hx hb dq_Md_freshResource_5 rfl (fun h => ?_) (fun h => ?_)
    · replace hw := hw.1 h
      refine lv_iconst (v := (-1 : Int32)) hx hb dq_Md_freshResource_80 rfl ?_
      exact wo_iret hC hG hS hcc hss hw dq_Md_freshResource_81
    · replace hw := hw.2 h
      refine lv_aload_n hx hb dq_Md_freshResource_8 rfl (lx_at hl 0 rfl) ?_
      obtain ⟨t1, hw⟩ := hw
      refine wo_getR hC fq_Md_144 rfl hG t1 dq_Md_freshResource_9 (fun r2 e3 => ?_)
      replace hw := hw r2 e3
      refine lv_iload_n hx hb dq_Md_freshResource_12 rfl (lx_at hl 2 rfl) ?_
      obtain ⟨a4, rfl, hw⟩ := hw
      obtain ⟨t5, hw⟩ := hw
      obtain ⟨h6, hw⟩ := hw
      refine wo_zald (j := 8) hC rfl hG t5 h6 dq_Md_freshResource_13 ?_
      refine lv_if_ne (tgt := 74) hx hb dq_Md_freshResource_14 rfl (fun h => ?_) (fun h => ?_)
      · replace hw := hw.1 h
        refine lx_iinc (k := 2) (v := (x2 + (1 : Int32))) (lv' := [(2, 1, .int (x2 + (1 : Int32))), (0, 1, .ref x0), (1, 1, .int x1)]) hx hb dq_Md_freshResource_74 hl rfl rfl (by decide) rfl (fun ls hl' => ?_)
        clear hl
        have hl := hl'
        clear hl'
        refine lv_goto (tgt := 2) hx hb dq_Md_freshResource_77 rfl ?_
        exact ih hw hG hS (lx_sub hl [1, 2, 0] rfl) hcc hss
      · replace hw := hw.2 h
        refine lv_aload_n hx hb dq_Md_freshResource_17 rfl (lx_at hl 0 rfl) ?_
        refine wo_getR hC fq_Md_144 rfl hG t1 dq_Md_freshResource_18 (fun r7 e8 => ?_)
        replace hw := hw r7 e8
        refine lv_iload_n hx hb dq_Md_freshResource_21 rfl (lx_at hl 2 rfl) ?_
        refine lv_iconst (v := (1 : Int32)) hx hb dq_Md_freshResource_22 rfl ?_
        obtain ⟨a9, rfl, hw⟩ := hw
        obtain ⟨t10, hw⟩ := hw
        obtain ⟨h11, hw⟩ := hw
        obtain ⟨h12, hw⟩ := hw
        refine wo_zast (j := 8) hC rfl hG hS t10 h11 h12 dq_Md_freshResource_23 (fun G13 H locs e14 hG hS => ?_)
        replace hw := hw G13 e14
        refine lv_aload_n hx hb dq_Md_freshResource_24 rfl (lx_at hl 0 rfl) ?_
        refine wo_getR hC fq_Md_147 rfl hG (ty_sei e14 t1) dq_Md_freshResource_25 (fun r15 e16 => ?_)
        replace hw := hw r15 e16
        refine lv_iload_n hx hb dq_Md_freshResource_28 rfl (lx_at hl 2 rfl) ?_
        refine lv_aload_n hx hb dq_Md_freshResource_29 rfl (lx_at hl 0 rfl) ?_
        refine wo_getR hC fq_Md_44 rfl hG (ty_sei e14 t1) dq_Md_freshResource_30 (fun r17 e18 => ?_)
        replace hw := hw r17 e18
        refine lv_iload_n hx hb dq_Md_freshResource_33 rfl (lx_at hl 1 rfl) ?_
        obtain ⟨a19, rfl, hw⟩ := hw
        obtain ⟨t20, hw⟩ := hw
        obtain ⟨h21, hw⟩ := hw
        refine wo_lald (j := 9) hC rfl hG t20 h21 dq_Md_freshResource_34 ?_
        obtain ⟨a22, rfl, hw⟩ := hw
        obtain ⟨t23, hw⟩ := hw
        obtain ⟨h24, hw⟩ := hw
        obtain ⟨h25, hw⟩ := hw
        refine wo_last (j := 9) hC rfl hG hS t23 h24 h25 dq_Md_freshResource_35 (fun G26 H locs e27 hG hS => ?_)
        replace hw := hw G26 e27
        refine lv_aload_n hx hb dq_Md_freshResource_36 rfl (lx_at hl 0 rfl) ?_
        refine wo_getR hC fq_Md_150 rfl hG (ty_sel e27 (ty_sei e14 t1)) dq_Md_freshResource_37 (fun r28 e29 => ?_)
        replace hw := hw r28 e29
        refine lv_iload_n hx hb dq_Md_freshResource_40 rfl (lx_at hl 2 rfl) ?_
        refine lv_aload_n hx hb dq_Md_freshResource_41 rfl (lx_at hl 0 rfl) ?_
        refine wo_getR hC fq_Md_48 rfl hG (ty_sel e27 (ty_sei e14 t1)) dq_Md_freshResource_42 (fun r30 e31 => ?_)
        replace hw := hw r30 e31
        refine lv_iload_n hx hb dq_Md_freshResource_45 rfl (lx_at hl 1 rfl) ?_
        obtain ⟨a32, rfl, hw⟩ := hw
        obtain ⟨t33, hw⟩ := hw
        obtain ⟨h34, hw⟩ := hw
        refine wo_iald (j := 2) hC rfl hG t33 h34 dq_Md_freshResource_46 ?_
        obtain ⟨a35, rfl, hw⟩ := hw
        obtain ⟨t36, hw⟩ := hw
        obtain ⟨h37, hw⟩ := hw
        obtain ⟨h38, hw⟩ := hw
        refine wo_iast (j := 2) hC rfl hG hS t36 h37 h38 dq_Md_freshResource_47 (fun G39 H locs e40 hG hS => ?_)
        replace hw := hw G39 e40
        refine lv_iconst (v := (0 : Int32)) hx hb dq_Md_freshResource_48 rfl ?_
        refine lx_istore_n (lv' := [(3, 1, .int (0 : Int32)), (0, 1, .ref x0), (1, 1, .int x1), (2, 1, .int x2)]) hx hb dq_Md_freshResource_49 rfl hl (by decide) rfl (fun ls hl' => ?_)
        clear hl
        have hl := hl'
        clear hl'
        obtain ⟨n1, hw⟩ := hw
        exact tq_Md_freshResource_50 hC n1 hw hG hS (lx_sub hl [1, 3, 0] rfl) hcc hss
set_option maxRecDepth 100000 in
set_option maxHeartbeats 4000000 in
theorem tq_Md_freshResource_0 {p : Program} {l : Launch} {e : Env} {R : Room} {s₀ : State} {m : MethodId} {args : Array Value} {below : List Frame} {meth : Method} {cd : Code} {E : wo_E} {mc ms : Nat} {Post : Int32 → wo_W → Prop} (hC : wo_Cx E "EdgeCacheModel" prog_14_method_42_code 4 0 0 ((Option.some Jvm.ClassFile.FieldType.int)) "freshResource" mc ms p R s₀ m args meth cd) : ∀ {G : wo_W} {c s : Nat} {x0 : Nat} {x1 : Int32}, pq_Md_freshResource_0 E mc ms Post G c s x0 x1 → ∀ {H : Heap} {locs : List Loc} {ls : Array Slot}, wo_Se E G H → va_S (en_A E) s₀.heap H locs → lx_has ls 4 [(0, 1, .ref x0), (1, 1, .int x1)] → c ≤ mc → s ≤ ms → W p l e R s₀ m args below meth cd H locs c s (MQ below (va_Qi Post (wo_B E) (en_A E)) args s₀ mc ms (en_A E)) (F0 m 0 ls []) := by
  intro G c s x0 x1 hw H locs ls hG hS hl hcc hss
  dsimp only [pq_Md_freshResource_0] at hw
  have hx := hC.1
  have hb := hC.2.1
  refine lv_iconst (v := (0 : Int32)) hx hb dq_Md_freshResource_0 rfl ?_
  refine lx_istore_n (lv' := [(2, 1, .int (0 : Int32)), (0, 1, .ref x0), (1, 1, .int x1)]) hx hb dq_Md_freshResource_1 rfl hl (by decide) rfl (fun ls hl' => ?_)
  clear hl
  have hl := hl'
  clear hl'
  obtain ⟨n1, hw⟩ := hw
  exact tq_Md_freshResource_2 hC n1 hw hG hS (lx_sub hl [1, 2, 0] rfl) hcc hss
set_option maxHeartbeats 4000000 in
theorem mq_Md_freshResource {l : Launch} {E : wo_E} {mc ms : Nat} {Post : Int32 → wo_W → Prop} {G : wo_W} {x0 : Nat} {x1 : Int32} (hw : pq_Md_freshResource E mc ms Post G x0 x1) : Met l yq_Md_freshResource (Cond.code yq_Md_freshResource prog_14_method_42_code 4 ((Option.some Jvm.ClassFile.FieldType.int)) :: vw_WG) { frames := 0, cells := mc, slots := ms, locals := 0 } (va_Pc [.ref x0, .int x1] (wo_Ok E G)) (va_Qi Post (wo_B E) (en_A E)) mc ms (en_A E) := by
  unfold pq_Md_freshResource at hw
  exact wo_met [(1, .ref x0), (1, .int x1)] rfl (by decide) (fun q hq => by simp only [List.mem_cons, List.not_mem_nil, or_false] at hq; rcases hq with rfl | rfl <;> first | rfl | exact lx_cR _) (Nat.le_of_ble_eq_true rfl) (fun p e R s m args below meth cd ls hC hG hS hl => tq_Md_freshResource_0 hC hw hG hS (lx_sub hl [0, 1] rfl) (Nat.zero_le _) (Nat.zero_le _))
