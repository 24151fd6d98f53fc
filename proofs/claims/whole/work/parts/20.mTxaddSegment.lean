theorem dq_Tx_addSegment_0 : decode prog_12_method_10_code 0 = .ok (.aload_n 1, 1) := by decide +kernel
theorem dq_Tx_addSegment_1 : decode prog_12_method_10_code 1 = .ok (.ldc 91, 2) := by decide +kernel
theorem dq_Tx_addSegment_3 : decode prog_12_method_10_code 3 = .ok (.invokevirtual 37, 3) := by decide +kernel
theorem dq_Tx_addSegment_6 : decode prog_12_method_10_code 6 = .ok (.istore_n 3, 1) := by decide +kernel
theorem dq_Tx_addSegment_7 : decode prog_12_method_10_code 7 = .ok (.iload_n 3, 1) := by decide +kernel
theorem dq_Tx_addSegment_8 : decode prog_12_method_10_code 8 = .ok (.ifCond .ne 26, 3) := by decide +kernel
theorem dq_Tx_addSegment_11 : decode prog_12_method_10_code 11 = .ok (.aload_n 1, 1) := by decide +kernel
theorem dq_Tx_addSegment_12 : decode prog_12_method_10_code 12 = .ok (.ldc 93, 2) := by decide +kernel
theorem dq_Tx_addSegment_14 : decode prog_12_method_10_code 14 = .ok (.invokevirtual 37, 3) := by decide +kernel
theorem dq_Tx_addSegment_17 : decode prog_12_method_10_code 17 = .ok (.ifCond .ne 17, 3) := by decide +kernel
theorem dq_Tx_addSegment_20 : decode prog_12_method_10_code 20 = .ok (.aload_n 0, 1) := by decide +kernel
theorem dq_Tx_addSegment_21 : decode prog_12_method_10_code 21 = .ok (.bipush 47, 2) := by decide +kernel
theorem dq_Tx_addSegment_23 : decode prog_12_method_10_code 23 = .ok (.invokevirtual 55, 3) := by decide +kernel
theorem dq_Tx_addSegment_26 : decode prog_12_method_10_code 26 = .ok (.pop, 1) := by decide +kernel
theorem dq_Tx_addSegment_27 : decode prog_12_method_10_code 27 = .ok (.aload_n 0, 1) := by decide +kernel
theorem dq_Tx_addSegment_28 : decode prog_12_method_10_code 28 = .ok (.aload_n 1, 1) := by decide +kernel
theorem dq_Tx_addSegment_29 : decode prog_12_method_10_code 29 = .ok (.invokevirtual 88, 3) := by decide +kernel
theorem dq_Tx_addSegment_32 : decode prog_12_method_10_code 32 = .ok (.pop, 1) := by decide +kernel
theorem dq_Tx_addSegment_33 : decode prog_12_method_10_code 33 = .ok (.return_, 1) := by decide +kernel
theorem dq_Tx_addSegment_34 : decode prog_12_method_10_code 34 = .ok (.iload_n 3, 1) := by decide +kernel
theorem dq_Tx_addSegment_35 : decode prog_12_method_10_code 35 = .ok (.ifCond .eq 11, 3) := by decide +kernel
theorem dq_Tx_addSegment_38 : decode prog_12_method_10_code 38 = .ok (.aload_n 0, 1) := by decide +kernel
theorem dq_Tx_addSegment_39 : decode prog_12_method_10_code 39 = .ok (.aload_n 0, 1) := by decide +kernel
theorem dq_Tx_addSegment_40 : decode prog_12_method_10_code 40 = .ok (.invokestatic 95, 3) := by decide +kernel
theorem dq_Tx_addSegment_43 : decode prog_12_method_10_code 43 = .ok (.invokevirtual 49, 3) := by decide +kernel
theorem dq_Tx_addSegment_46 : decode prog_12_method_10_code 46 = .ok (.iload_n 2, 1) := by decide +kernel
theorem dq_Tx_addSegment_47 : decode prog_12_method_10_code 47 = .ok (.ifCond .eq 10, 3) := by decide +kernel
theorem dq_Tx_addSegment_50 : decode prog_12_method_10_code 50 = .ok (.aload_n 0, 1) := by decide +kernel
theorem dq_Tx_addSegment_51 : decode prog_12_method_10_code 51 = .ok (.bipush 47, 2) := by decide +kernel
theorem dq_Tx_addSegment_53 : decode prog_12_method_10_code 53 = .ok (.invokevirtual 55, 3) := by decide +kernel
theorem dq_Tx_addSegment_56 : decode prog_12_method_10_code 56 = .ok (.pop, 1) := by decide +kernel
theorem dq_Tx_addSegment_57 : decode prog_12_method_10_code 57 = .ok (.return_, 1) := by decide +kernel
set_option maxRecDepth 100000 in
def pq_Tx_addSegment_57 (E : wo_E) (mc ms : Nat) (Post : wo_W → Prop) (G : wo_W) (c s : Nat) : Prop := Post G
set_option maxRecDepth 100000 in
def pq_Tx_addSegment_46 (E : wo_E) (mc ms : Nat) (Post : wo_W → Prop) (G : wo_W) (c s : Nat) (x0 : Option Nat) (x2 : Int32) : Prop := ((x2 = (0 : Int32) → pq_Tx_addSegment_57 E mc ms Post G c s) ∧
  (¬ x2 = (0 : Int32) → ∃ a1 : Nat, x0 = some a1 ∧ wo_ty G a1 = 5 ∧ ∃ mc3 ms4 : Nat, (c + mc3) ≤ mc ∧ (s + ms4) ≤ ms ∧ pq_SB_append_C E mc3 ms4 (fun v6 G5 => 
    pq_Tx_addSegment_57 E mc ms Post G5 (c + mc3) (s + ms4)) G a1 (47 : Int32)))
set_option maxRecDepth 100000 in
def pq_Tx_addSegment_34 (E : wo_E) (mc ms : Nat) (Post : wo_W → Prop) (G : wo_W) (c s : Nat) (x0 : Option Nat) (x2 : Int32) (x3 : Int32) : Prop := ((x3 = (0 : Int32) → pq_Tx_addSegment_46 E mc ms Post G c s x0 x2) ∧
  (¬ x3 = (0 : Int32) → ∃ mc1 ms2 : Nat, (c + mc1) ≤ mc ∧ (s + ms2) ≤ ms ∧ pq_Tx_lastSlash E mc1 ms2 (fun v4 G3 => 
    ∃ a5 : Nat, x0 = some a5 ∧ wo_ty G3 a5 = 5 ∧ ∃ mc7 ms8 : Nat, ((c + mc1) + mc7) ≤ mc ∧ ((s + ms2) + ms8) ≤ ms ∧ pq_SB_setLength E mc7 ms8 (fun G9 => 
      pq_Tx_addSegment_46 E mc ms Post G9 ((c + mc1) + mc7) ((s + ms2) + ms8) (some a5) x2) G3 a5 v4) G x0))
set_option maxRecDepth 100000 in
def pq_Tx_addSegment_0 (E : wo_E) (mc ms : Nat) (Post : wo_W → Prop) (G : wo_W) (c s : Nat) (x0 : Option Nat) (x1 : Option Nat) (x2 : Int32) : Prop := ∃ a1 : Nat, x1 = some a1 ∧ wo_ty G a1 = 10 ∧ ∃ mc3 ms4 : Nat, (c + mc3) ≤ mc ∧ (s + ms4) ≤ ms ∧ pq_St_equals E mc3 ms4 (fun v6 G5 => 
  ((¬ v6 = (0 : Int32) → pq_Tx_addSegment_34 E mc ms Post G5 (c + mc3) (s + ms4) x0 x2 v6) ∧
    (v6 = (0 : Int32) → wo_ty G5 a1 = 10 ∧ ∃ mc8 ms9 : Nat, ((c + mc3) + mc8) ≤ mc ∧ ((s + ms4) + ms9) ≤ ms ∧ pq_St_equals E mc8 ms9 (fun v11 G10 => 
      ((¬ v11 = (0 : Int32) → pq_Tx_addSegment_34 E mc ms Post G10 ((c + mc3) + mc8) ((s + ms4) + ms9) x0 x2 v6) ∧
        (v11 = (0 : Int32) → ∃ a12 : Nat, x0 = some a12 ∧ wo_ty G10 a12 = 5 ∧ ∃ mc14 ms15 : Nat, (((c + mc3) + mc8) + mc14) ≤ mc ∧ (((s + ms4) + ms9) + ms15) ≤ ms ∧ pq_SB_append_C E mc14 ms15 (fun v17 G16 => 
          wo_ty G16 a12 = 5 ∧ ∃ mc19 ms20 : Nat, ((((c + mc3) + mc8) + mc14) + mc19) ≤ mc ∧ ((((s + ms4) + ms9) + ms15) + ms20) ≤ ms ∧ pq_SB_append_S E mc19 ms20 (fun v22 G21 => 
            Post G21) G16 a12 (some a1)) G10 a12 (47 : Int32)))) G5 a1 (some (en_str E 9))))) G a1 (some (en_str E 8))
def pq_Tx_addSegment (E : wo_E) (mc ms : Nat) (Post : wo_W → Prop) (G : wo_W) (x0 : Option Nat) (x1 : Option Nat) (x2 : Int32) : Prop := pq_Tx_addSegment_0 E mc ms Post G 0 0 x0 x1 x2
set_option maxRecDepth 100000 in
set_option maxHeartbeats 4000000 in
theorem tq_Tx_addSegment_57 {p : Program} {l : Launch} {e : Env} {R : Room} {s₀ : State} {m : MethodId} {args : Array Value} {below : List Frame} {meth : Method} {cd : Code} {E : wo_E} {mc ms : Nat} {Post : wo_W → Prop} (hC : wo_Cx E "EdgeCache$Text" prog_12_method_10_code 4 6 141 ((Option.none : Option Jvm.ClassFile.FieldType)) "addSegment" mc ms p R s₀ m args meth cd) : ∀ {G : wo_W} {c s : Nat}, pq_Tx_addSegment_57 E mc ms Post G c s → ∀ {H : Heap} {locs : List Loc} {ls : Array Slot}, wo_Se E G H → va_S (en_A E) s₀.heap H locs → lx_has ls 4 [] → c ≤ mc → s ≤ ms → W p l e R s₀ m args below meth cd H locs c s (MQ below (va_Qv Post (wo_B E) (en_A E)) args s₀ mc ms (en_A E)) (F0 m 57 ls []) := by
  intro G c s hw H locs ls hG hS hl hcc hss
  dsimp only [pq_Tx_addSegment_57] at hw
  have hx := hC.1
  have hb := hC.2.1
  exact wo_vret hC hG hS hcc hss hw dq_Tx_addSegment_57
set_option maxRecDepth 100000 in
set_option maxHeartbeats 4000000 in
theorem tq_Tx_addSegment_46 {p : Program} {l : Launch} {e : Env} {R : Room} {s₀ : State} {m : MethodId} {args : Array Value} {below : List Frame} {meth : Method} {cd : Code} {E : wo_E} {mc ms : Nat} {Post : wo_W → Prop} (hC : wo_Cx E "EdgeCache$Text" prog_12_method_10_code 4 6 141 ((Option.none : Option Jvm.ClassFile.FieldType)) "addSegment" mc ms p R s₀ m args meth cd) : ∀ {G : wo_W} {c s : Nat} {x0 : Option Nat} {x2 : Int32}, pq_Tx_addSegment_46 E mc ms Post G c s x0 x2 → ∀ {H : Heap} {locs : List Loc} {ls : Array Slot}, wo_Se E G H → va_S (en_A E) s₀.heap H locs → lx_has ls 4 [(0, 1, va_rf x0), (2, 1, .int x2)] → c ≤ mc → s ≤ ms → W p l e R s₀ m args below meth cd H locs c s (MQ below (va_Qv Post (wo_B E) (en_A E)) args s₀ mc ms (en_A E)) (F0 m 46 ls []) := by
  intro G c s x0 x2 hw H locs ls hG hS hl hcc hss
  dsimp only [pq_Tx_addSegment_46] at hw
  have hx := hC.1
  have hb := hC.2.1
  refine lv_iload_n hx hb dq_Tx_addSegment_46 rfl (lx_at hl 1 rfl) ?_
  refine lv_if_eq (tgt := 57) hx hb dq_Tx_addSegment_47 rfl (fun h => ?_) (fun h => ?_)
  · replace hw := hw.1 h
    exact tq_Tx_addSegment_57 hC hw hG hS (lx_sub hl [] rfl) hcc hss
  · replace hw := hw.2 h
    refine lx_aloadR_n hx hb dq_Tx_addSegment_50 rfl (lx_at hl 0 rfl) ?_
    refine lv_bipush (v := (47 : Int32)) hx hb dq_Tx_addSegment_51 rfl ?_
    obtain ⟨a1, rfl, hw⟩ := hw
    obtain ⟨t2, hw⟩ := hw
    obtain ⟨mc3, ms4, hc1, hs1, hw⟩ := hw
    refine va_callq (wo_runV hC lq_Tx_55 (mq_SB_append_C hw) hG hS t2 rfl (lx_sz hl) rfl (Nat.zero_le _) (by decide) dq_Tx_addSegment_53 ⟨hc1, hs1⟩) hS (fun _ _ h => h) (fun _ h => h) (fun v6 G5 t H locs ht hvm hw' hB _ _ hS => ?_)
    clear hw
    have hw := hw'
    clear hw'
    replace hG := wo_bk ht hB
    replace hcc := hc1
    replace hss := hs1
    refine lv_pop hx hb dq_Tx_addSegment_56 (lx_cR _) ?_
    exact tq_Tx_addSegment_57 hC hw hG hS (lx_sub hl [] rfl) hcc hss
set_option maxRecDepth 100000 in
set_option maxHeartbeats 4000000 in
theorem tq_Tx_addSegment_34 {p : Program} {l : Launch} {e : Env} {R : Room} {s₀ : State} {m : MethodId} {args : Array Value} {below : List Frame} {meth : Method} {cd : Code} {E : wo_E} {mc ms : Nat} {Post : wo_W → Prop} (hC : wo_Cx E "EdgeCache$Text" prog_12_method_10_code 4 6 141 ((Option.none : Option Jvm.ClassFile.FieldType)) "addSegment" mc ms p R s₀ m args meth cd) : ∀ {G : wo_W} {c s : Nat} {x0 : Option Nat} {x2 : Int32} {x3 : Int32}, pq_Tx_addSegment_34 E mc ms Post G c s x0 x2 x3 → ∀ {H : Heap} {locs : List Loc} {ls : Array Slot}, wo_Se E G H → va_S (en_A E) s₀.heap H locs → lx_has ls 4 [(0, 1, va_rf x0), (2, 1, .int x2), (3, 1, .int x3)] → c ≤ mc → s ≤ ms → W p l e R s₀ m args below meth cd H locs c s (MQ below (va_Qv Post (wo_B E) (en_A E)) args s₀ mc ms (en_A E)) (F0 m 34 ls []) := by
  intro G c s x0 x2 x3 hw H locs ls hG hS hl hcc hss
  dsimp only [pq_Tx_addSegment_34] at hw
  have hx := hC.1
  have hb := hC.2.1
  refine lv_iload_n hx hb dq_Tx_addSegment_34 rfl (lx_at hl 2 rfl) ?_
  refine lv_if_eq (tgt := 46) hx hb dq_Tx_addSegment_35 rfl (fun h => ?_) (fun h => ?_)
  · replace hw := hw.1 h
    exact tq_Tx_addSegment_46 hC hw hG hS (lx_sub hl [0, 1] rfl) hcc hss
  · replace hw := hw.2 h
    refine lx_aloadR_n hx hb dq_Tx_addSegment_38 rfl (lx_at hl 0 rfl) ?_
    refine lx_aloadR_n hx hb dq_Tx_addSegment_39 rfl (lx_at hl 0 rfl) ?_
    obtain ⟨mc1, ms2, hc1, hs1, hw⟩ := hw
    refine va_calli (wo_runS hC lq_Tx_95 (mq_Tx_lastSlash hw) hG hS rfl (lx_sz hl) rfl (lx_rm (Nat.le_of_ble_eq_true rfl)) (by decide) dq_Tx_addSegment_40 ⟨hc1, hs1⟩) hS (fun _ _ h => h) (fun _ h => h) (fun v4 G3 t H locs ht hvm hw' hB _ _ hS => ?_)
    clear hw
    have hw := hw'
    clear hw'
    replace hG := wo_bk ht hB
    replace hcc := hc1
    replace hss := hs1
    obtain ⟨a5, rfl, hw⟩ := hw
    obtain ⟨t6, hw⟩ := hw
    obtain ⟨mc7, ms8, hc1, hs1, hw⟩ := hw
    refine va_callv (wo_runV hC lq_Tx_49 (mq_SB_setLength hw) hG hS t6 rfl (lx_sz hl) rfl (Nat.zero_le _) (by decide) dq_Tx_addSegment_43 ⟨hc1, hs1⟩) hS (fun _ _ h => h) (fun _ h => h) (fun G9 t H locs ht hvm hw' hB _ _ hS => ?_)
    clear hw
    have hw := hw'
    clear hw'
    replace hG := wo_bk ht hB
    replace hcc := hc1
    replace hss := hs1
    exact tq_Tx_addSegment_46 hC hw hG hS (lx_sub hl [0, 1] rfl) hcc hss
set_option maxRecDepth 100000 in
set_option maxHeartbeats 4000000 in
theorem tq_Tx_addSegment_0 {p : Program} {l : Launch} {e : Env} {R : Room} {s₀ : State} {m : MethodId} {args : Array Value} {below : List Frame} {meth : Method} {cd : Code} {E : wo_E} {mc ms : Nat} {Post : wo_W → Prop} (hC : wo_Cx E "EdgeCache$Text" prog_12_method_10_code 4 6 141 ((Option.none : Option Jvm.ClassFile.FieldType)) "addSegment" mc ms p R s₀ m args meth cd) : ∀ {G : wo_W} {c s : Nat} {x0 : Option Nat} {x1 : Option Nat} {x2 : Int32}, pq_Tx_addSegment_0 E mc ms Post G c s x0 x1 x2 → ∀ {H : Heap} {locs : List Loc} {ls : Array Slot}, wo_Se E G H → va_S (en_A E) s₀.heap H locs → lx_has ls 4 [(0, 1, va_rf x0), (1, 1, va_rf x1), (2, 1, .int x2)] → c ≤ mc → s ≤ ms → W p l e R s₀ m args below meth cd H locs c s (MQ below (va_Qv Post (wo_B E) (en_A E)) args s₀ mc ms (en_A E)) (F0 m 0 ls []) := by
  intro G c s x0 x1 x2 hw H locs ls hG hS hl hcc hss
  dsimp only [pq_Tx_addSegment_0] at hw
  have hx := hC.1
  have hb := hC.2.1
  refine lx_aloadR_n hx hb dq_Tx_addSegment_0 rfl (lx_at hl 1 rfl) ?_
  refine wo_ldcS hC gq_Tx_91 dq_Tx_addSegment_1 ?_
  obtain ⟨a1, rfl, hw⟩ := hw
  obtain ⟨t2, hw⟩ := hw
  obtain ⟨mc3, ms4, hc1, hs1, hw⟩ := hw
  refine va_calli (wo_runV hC lq_Tx_37 (mq_St_equals hw) hG hS t2 rfl (lx_sz hl) rfl (Nat.zero_le _) (by decide) dq_Tx_addSegment_3 ⟨hc1, hs1⟩) hS (fun _ _ h => h) (fun _ h => h) (fun v6 G5 t H locs ht hvm hw' hB _ _ hS => ?_)
  clear hw
  have hw := hw'
  clear hw'
  replace hG := wo_bk ht hB
  replace hcc := hc1
  replace hss := hs1
  refine lx_istore_n (lv' := [(3, 1, .int v6), (0, 1, va_rf x0), (1, 1, .ref a1), (2, 1, .int x2)]) hx hb dq_Tx_addSegment_6 rfl hl (by decide) rfl (fun ls hl' => ?_)
  clear hl
  have hl := hl'
  clear hl'
  refine lv_iload_n hx hb dq_Tx_addSegment_7 rfl (lx_at hl 0 rfl) ?_
  refine lv_if_ne (tgt := 34) hx hb dq_Tx_addSegment_8 rfl (fun h => ?_) (fun h => ?_)
  · replace hw := hw.1 h
    exact tq_Tx_addSegment_34 hC hw hG hS (lx_sub hl [1, 3, 0] rfl) hcc hss
  · replace hw := hw.2 h
    refine lv_aload_n hx hb dq_Tx_addSegment_11 rfl (lx_at hl 2 rfl) ?_
    refine wo_ldcS hC gq_Tx_93 dq_Tx_addSegment_12 ?_
    obtain ⟨t7, hw⟩ := hw
    obtain ⟨mc8, ms9, hc1, hs1, hw⟩ := hw
    refine va_calli (wo_runV hC lq_Tx_37 (mq_St_equals hw) hG hS t7 rfl (lx_sz hl) rfl (Nat.zero_le _) (by decide) dq_Tx_addSegment_14 ⟨hc1, hs1⟩) hS (fun _ _ h => h) (fun _ h => h) (fun v11 G10 t H locs ht hvm hw' hB _ _ hS => ?_)
    clear hw
    have hw := hw'
    clear hw'
    replace hG := wo_bk ht hB
    replace hcc := hc1
    replace hss := hs1
    refine lv_if_ne (tgt := 34) hx hb dq_Tx_addSegment_17 rfl (fun h => ?_) (fun h => ?_)
    · replace hw := hw.1 h
      exact tq_Tx_addSegment_34 hC hw hG hS (lx_sub hl [1, 3, 0] rfl) hcc hss
    · replace hw := hw.2 h
      refine lx_aloadR_n hx hb dq_Tx_addSegment_20 rfl (lx_at hl 1 rfl) ?_
      refine lv_bipush (v := (47 : Int32)) hx hb dq_Tx_addSegment_21 rfl ?_
      obtain ⟨a12, rfl, hw⟩ := hw
      obtain ⟨t13, hw⟩ := hw
      obtain ⟨mc14, ms15, hc1, hs1, hw⟩ := hw
      refine va_callq (wo_runV hC lq_Tx_55 (mq_SB_append_C hw) hG hS t13 rfl (lx_sz hl) rfl (Nat.zero_le _) (by decide) dq_Tx_addSegment_23 ⟨hc1, hs1⟩) hS (fun _ _ h => h) (fun _ h => h) (fun v17 G16 t H locs ht hvm hw' hB _ _ hS => ?_)
      clear hw
      have hw := hw'
      clear hw'
      replace hG := wo_bk ht hB
      replace hcc := hc1
      replace hss := hs1
      refine lv_pop hx hb dq_Tx_addSegment_26 (lx_cR _) ?_
      refine lv_aload_n hx hb dq_Tx_addSegment_27 rfl (lx_at hl 1 rfl) ?_
      refine lv_aload_n hx hb dq_Tx_addSegment_28 rfl (lx_at hl 2 rfl) ?_
      obtain ⟨t18, hw⟩ := hw
      obtain ⟨mc19, ms20, hc1, hs1, hw⟩ := hw
      refine va_callq (wo_runV hC lq_Tx_88 (mq_SB_append_S hw) hG hS t18 rfl (lx_sz hl) rfl (Nat.zero_le _) (by decide) dq_Tx_addSegment_29 ⟨hc1, hs1⟩) hS (fun _ _ h => h) (fun _ h => h) (fun v22 G21 t H locs ht hvm hw' hB _ _ hS => ?_)
      clear hw
      have hw := hw'
      clear hw'
      replace hG := wo_bk ht hB
      replace hcc := hc1
      replace hss := hs1
      refine lv_pop hx hb dq_Tx_addSegment_32 (lx_cR _) ?_
      exact wo_vret hC hG hS hcc hss hw dq_Tx_addSegment_33
set_option maxHeartbeats 4000000 in
theorem mq_Tx_addSegment {l : Launch} {E : wo_E} {mc ms : Nat} {Post : wo_W → Prop} {G : wo_W} {x0 : Option Nat} {x1 : Option Nat} {x2 : Int32} (hw : pq_Tx_addSegment E mc ms Post G x0 x1 x2) : Met l yq_Tx_addSegment (Cond.code yq_Tx_addSegment prog_12_method_10_code 4 ((Option.none : Option Jvm.ClassFile.FieldType)) :: vw_WG) { frames := 6, cells := mc, slots := ms, locals := 141 } (va_Pc [va_rf x0, va_rf x1, .int x2] (wo_Ok E G)) (va_Qv Post (wo_B E) (en_A E)) mc ms (en_A E) := by
  unfold pq_Tx_addSegment at hw
  exact wo_met [(1, va_rf x0), (1, va_rf x1), (1, .int x2)] rfl (by decide) (fun q hq => by simp only [List.mem_cons, List.not_mem_nil, or_false] at hq; rcases hq with rfl | rfl | rfl <;> first | rfl | exact lx_cR _) (Nat.le_of_ble_eq_true rfl) (fun p e R s m args below meth cd ls hC hG hS hl => tq_Tx_addSegment_0 hC hw hG hS (lx_sub hl [0, 1, 2] rfl) (Nat.zero_le _) (Nat.zero_le _))

theorem dq_Tx_path_0 : decode prog_12_method_9_code 0 = .ok (.aload_n 0, 1) := by decide +kernel
theorem dq_Tx_path_1 : decode prog_12_method_9_code 1 = .ok (.bipush 63, 2) := by decide +kernel
theorem dq_Tx_path_3 : decode prog_12_method_9_code 3 = .ok (.invokevirtual 76, 3) := by decide +kernel
theorem dq_Tx_path_6 : decode prog_12_method_9_code 6 = .ok (.istore_n 2, 1) := by decide +kernel
theorem dq_Tx_path_7 : decode prog_12_method_9_code 7 = .ok (.iload_n 2, 1) := by decide +kernel
theorem dq_Tx_path_8 : decode prog_12_method_9_code 8 = .ok (.ifCond .ge 10, 3) := by decide +kernel
theorem dq_Tx_path_11 : decode prog_12_method_9_code 11 = .ok (.aload_n 0, 1) := by decide +kernel
theorem dq_Tx_path_12 : decode prog_12_method_9_code 12 = .ok (.invokevirtual 15, 3) := by decide +kernel
theorem dq_Tx_path_15 : decode prog_12_method_9_code 15 = .ok (.goto 4, 3) := by decide +kernel
theorem dq_Tx_path_18 : decode prog_12_method_9_code 18 = .ok (.iload_n 2, 1) := by decide +kernel
theorem dq_Tx_path_19 : decode prog_12_method_9_code 19 = .ok (.istore_n 3, 1) := by decide +kernel
theorem dq_Tx_path_20 : decode prog_12_method_9_code 20 = .ok (.aload_n 1, 1) := by decide +kernel
theorem dq_Tx_path_21 : decode prog_12_method_9_code 21 = .ok (.iconst 0, 1) := by decide +kernel
theorem dq_Tx_path_22 : decode prog_12_method_9_code 22 = .ok (.invokevirtual 49, 3) := by decide +kernel
theorem dq_Tx_path_25 : decode prog_12_method_9_code 25 = .ok (.iconst 1, 1) := by decide +kernel
theorem dq_Tx_path_26 : decode prog_12_method_9_code 26 = .ok (.istore 4, 2) := by decide +kernel
theorem dq_Tx_path_28 : decode prog_12_method_9_code 28 = .ok (.iconst 1, 1) := by decide +kernel
theorem dq_Tx_path_29 : decode prog_12_method_9_code 29 = .ok (.istore 5, 2) := by decide +kernel
theorem dq_Tx_path_31 : decode prog_12_method_9_code 31 = .ok (.iload 5, 2) := by decide +kernel
theorem dq_Tx_path_33 : decode prog_12_method_9_code 33 = .ok (.iload_n 3, 1) := by decide +kernel
theorem dq_Tx_path_34 : decode prog_12_method_9_code 34 = .ok (.if_icmp .gt 55, 3) := by decide +kernel
theorem dq_Tx_path_37 : decode prog_12_method_9_code 37 = .ok (.iload 5, 2) := by decide +kernel
theorem dq_Tx_path_39 : decode prog_12_method_9_code 39 = .ok (.iload_n 3, 1) := by decide +kernel
theorem dq_Tx_path_40 : decode prog_12_method_9_code 40 = .ok (.if_icmp .eq 14, 3) := by decide +kernel
theorem dq_Tx_path_43 : decode prog_12_method_9_code 43 = .ok (.aload_n 0, 1) := by decide +kernel
theorem dq_Tx_path_44 : decode prog_12_method_9_code 44 = .ok (.iload 5, 2) := by decide +kernel
theorem dq_Tx_path_46 : decode prog_12_method_9_code 46 = .ok (.invokevirtual 21, 3) := by decide +kernel
theorem dq_Tx_path_49 : decode prog_12_method_9_code 49 = .ok (.bipush 47, 2) := by decide +kernel
theorem dq_Tx_path_51 : decode prog_12_method_9_code 51 = .ok (.if_icmp .ne 32, 3) := by decide +kernel
theorem dq_Tx_path_54 : decode prog_12_method_9_code 54 = .ok (.aload_n 1, 1) := by decide +kernel
theorem dq_Tx_path_55 : decode prog_12_method_9_code 55 = .ok (.aload_n 0, 1) := by decide +kernel
theorem dq_Tx_path_56 : decode prog_12_method_9_code 56 = .ok (.iload 4, 2) := by decide +kernel
theorem dq_Tx_path_58 : decode prog_12_method_9_code 58 = .ok (.iload 5, 2) := by decide +kernel
theorem dq_Tx_path_60 : decode prog_12_method_9_code 60 = .ok (.invokevirtual 80, 3) := by decide +kernel
theorem dq_Tx_path_63 : decode prog_12_method_9_code 63 = .ok (.iload 5, 2) := by decide +kernel
theorem dq_Tx_path_65 : decode prog_12_method_9_code 65 = .ok (.iload_n 3, 1) := by decide +kernel
theorem dq_Tx_path_66 : decode prog_12_method_9_code 66 = .ok (.if_icmp .ne 7, 3) := by decide +kernel
theorem dq_Tx_path_69 : decode prog_12_method_9_code 69 = .ok (.iconst 1, 1) := by decide +kernel
theorem dq_Tx_path_70 : decode prog_12_method_9_code 70 = .ok (.goto 4, 3) := by decide +kernel
theorem dq_Tx_path_73 : decode prog_12_method_9_code 73 = .ok (.iconst 0, 1) := by decide +kernel
theorem dq_Tx_path_74 : decode prog_12_method_9_code 74 = .ok (.invokestatic 84, 3) := by decide +kernel
theorem dq_Tx_path_77 : decode prog_12_method_9_code 77 = .ok (.iload 5, 2) := by decide +kernel
theorem dq_Tx_path_79 : decode prog_12_method_9_code 79 = .ok (.iconst 1, 1) := by decide +kernel
theorem dq_Tx_path_80 : decode prog_12_method_9_code 80 = .ok (.iadd, 1) := by decide +kernel
theorem dq_Tx_path_81 : decode prog_12_method_9_code 81 = .ok (.istore 4, 2) := by decide +kernel
theorem dq_Tx_path_83 : decode prog_12_method_9_code 83 = .ok (.iinc 5 1, 3) := by decide +kernel
theorem dq_Tx_path_86 : decode prog_12_method_9_code 86 = .ok (.goto (-55), 3) := by decide +kernel
theorem dq_Tx_path_89 : decode prog_12_method_9_code 89 = .ok (.aload_n 1, 1) := by decide +kernel
theorem dq_Tx_path_90 : decode prog_12_method_9_code 90 = .ok (.aload_n 0, 1) := by decide +kernel
theorem dq_Tx_path_91 : decode prog_12_method_9_code 91 = .ok (.iload_n 3, 1) := by decide +kernel
theorem dq_Tx_path_92 : decode prog_12_method_9_code 92 = .ok (.aload_n 0, 1) := by decide +kernel
theorem dq_Tx_path_93 : decode prog_12_method_9_code 93 = .ok (.invokevirtual 15, 3) := by decide +kernel
theorem dq_Tx_path_96 : decode prog_12_method_9_code 96 = .ok (.invokevirtual 80, 3) := by decide +kernel
theorem dq_Tx_path_99 : decode prog_12_method_9_code 99 = .ok (.invokevirtual 88, 3) := by decide +kernel
theorem dq_Tx_path_102 : decode prog_12_method_9_code 102 = .ok (.pop, 1) := by decide +kernel
theorem dq_Tx_path_103 : decode prog_12_method_9_code 103 = .ok (.aload_n 1, 1) := by decide +kernel
theorem dq_Tx_path_104 : decode prog_12_method_9_code 104 = .ok (.invokevirtual 67, 3) := by decide +kernel
theorem dq_Tx_path_107 : decode prog_12_method_9_code 107 = .ok (.areturn, 1) := by decide +kernel
set_option maxRecDepth 100000 in
def pq_Tx_path_83 (E : wo_E) (mc ms : Nat) (Post : Option Nat → wo_W → Prop) (k31 : wo_W → Nat → Nat → Option Nat → Option Nat → Int32 → Int32 → Int32 → Prop) (G : wo_W) (c s : Nat) (x0 : Option Nat) (x1 : Option Nat) (x3 : Int32) (x4 : Int32) (x5 : Int32) : Prop := k31 G c s x0 x1 x3 x4 (x5 + (1 : Int32))
set_option maxRecDepth 100000 in
def pq_Tx_path_74 (E : wo_E) (mc ms : Nat) (Post : Option Nat → wo_W → Prop) (k31 : wo_W → Nat → Nat → Option Nat → Option Nat → Int32 → Int32 → Int32 → Prop) (G : wo_W) (c s : Nat) (x0 : Option Nat) (x1 : Option Nat) (x3 : Int32) (x5 : Int32) (y0 : Option Nat) (y1 : Option Nat) (y2 : Int32) : Prop := ∃ mc1 ms2 : Nat, (c + mc1) ≤ mc ∧ (s + ms2) ≤ ms ∧ pq_Tx_addSegment E mc1 ms2 (fun G3 => 
  pq_Tx_path_83 E mc ms Post k31 G3 (c + mc1) (s + ms2) x0 x1 x3 (x5 + (1 : Int32)) x5) G y0 y1 y2
set_option maxRecDepth 100000 in
def pq_Tx_path_54 (E : wo_E) (mc ms : Nat) (Post : Option Nat → wo_W → Prop) (k31 : wo_W → Nat → Nat → Option Nat → Option Nat → Int32 → Int32 → Int32 → Prop) (G : wo_W) (c s : Nat) (x0 : Option Nat) (x1 : Option Nat) (x3 : Int32) (x4 : Int32) (x5 : Int32) : Prop := ∃ a1 : Nat, x0 = some a1 ∧ wo_ty G a1 = 10 ∧ ∃ mc3 ms4 : Nat, (c + mc3) ≤ mc ∧ (s + ms4) ≤ ms ∧ pq_St_substring_II E mc3 ms4 (fun v6 G5 => 
  ((¬ x5 = x3 → pq_Tx_path_74 E mc ms Post k31 G5 (c + mc3) (s + ms4) (some a1) x1 x3 x5 x1 v6 (0 : Int32)) ∧
    (x5 = x3 → pq_Tx_path_74 E mc ms Post k31 G5 (c + mc3) (s + ms4) (some a1) x1 x3 x5 x1 v6 (1 : Int32)))) G a1 x4 x5
set_option maxRecDepth 100000 in
def pq_Tx_path_31 (E : wo_E) (mc ms : Nat) (Post : Option Nat → wo_W → Prop) : Nat → wo_W → Nat → Nat → Option Nat → Option Nat → Int32 → Int32 → Int32 → Prop
  | 0 => fun _ _ _ _ _ _ _ _ => False
  | n + 1 => fun G c s x0 x1 x3 x4 x5 => ((x3 < x5 → ∃ a1 : Nat, x0 = some a1 ∧ wo_ty G a1 = 10 ∧ ∃ mc3 ms4 : Nat, (c + mc3) ≤ mc ∧ (s + ms4) ≤ ms ∧ pq_St_length E mc3 ms4 (fun v6 G5 => 
    wo_ty G5 a1 = 10 ∧ ∃ mc8 ms9 : Nat, ((c + mc3) + mc8) ≤ mc ∧ ((s + ms4) + ms9) ≤ ms ∧ pq_St_substring_II E mc8 ms9 (fun v11 G10 => 
      ∃ a12 : Nat, x1 = some a12 ∧ wo_ty G10 a12 = 5 ∧ ∃ mc14 ms15 : Nat, (((c + mc3) + mc8) + mc14) ≤ mc ∧ (((s + ms4) + ms9) + ms15) ≤ ms ∧ pq_SB_append_S E mc14 ms15 (fun v17 G16 => 
        wo_ty G16 a12 = 5 ∧ ∃ mc19 ms20 : Nat, ((((c + mc3) + mc8) + mc14) + mc19) ≤ mc ∧ ((((s + ms4) + ms9) + ms15) + ms20) ≤ ms ∧ pq_SB_toString E mc19 ms20 (fun v22 G21 => 
          Post v22 G21) G16 a12) G10 a12 v11) G5 a1 x3 v6) G a1) ∧
  (¬ x3 < x5 → ((x5 = x3 → pq_Tx_path_54 E mc ms Post (pq_Tx_path_31 E mc ms Post n) G c s x0 x1 x3 x4 x5) ∧
    (¬ x5 = x3 → ∃ a23 : Nat, x0 = some a23 ∧ wo_ty G a23 = 10 ∧ ∃ mc25 ms26 : Nat, (c + mc25) ≤ mc ∧ (s + ms26) ≤ ms ∧ pq_St_charAt E mc25 ms26 (fun v28 G27 => 
      ((¬ v28 = (47 : Int32) → pq_Tx_path_83 E mc ms Post (pq_Tx_path_31 E mc ms Post n) G27 (c + mc25) (s + ms26) (some a23) x1 x3 x4 x5) ∧
        (v28 = (47 : Int32) → pq_Tx_path_54 E mc ms Post (pq_Tx_path_31 E mc ms Post n) G27 (c + mc25) (s + ms26) (some a23) x1 x3 x4 x5))) G a23 x5))))
set_option maxRecDepth 100000 in
def pq_Tx_path_19 (E : wo_E) (mc ms : Nat) (Post : Option Nat → wo_W → Prop) (G : wo_W) (c s : Nat) (x0 : Option Nat) (x1 : Option Nat) (y0 : Int32) : Prop := ∃ a1 : Nat, x1 = some a1 ∧ wo_ty G a1 = 5 ∧ ∃ mc3 ms4 : Nat, (c + mc3) ≤ mc ∧ (s + ms4) ≤ ms ∧ pq_SB_setLength E mc3 ms4 (fun G5 => 
  ∃ n1 : Nat, pq_Tx_path_31 E mc ms Post n1 G5 (c + mc3) (s + ms4) x0 (some a1) y0 (1 : Int32) (1 : Int32)) G a1 (0 : Int32)
set_option maxRecDepth 100000 in
def pq_Tx_path_0 (E : wo_E) (mc ms : Nat) (Post : Option Nat → wo_W → Prop) (G : wo_W) (c s : Nat) (x0 : Option Nat) (x1 : Option Nat) : Prop := ∃ a1 : Nat, x0 = some a1 ∧ wo_ty G a1 = 10 ∧ ∃ mc3 ms4 : Nat, (c + mc3) ≤ mc ∧ (s + ms4) ≤ ms ∧ pq_St_indexOf_I E mc3 ms4 (fun v6 G5 => 
  (((0 : Int32) ≤ v6 → pq_Tx_path_19 E mc ms Post G5 (c + mc3) (s + ms4) (some a1) x1 v6) ∧
    (¬ (0 : Int32) ≤ v6 → wo_ty G5 a1 = 10 ∧ ∃ mc8 ms9 : Nat, ((c + mc3) + mc8) ≤ mc ∧ ((s + ms4) + ms9) ≤ ms ∧ pq_St_length E mc8 ms9 (fun v11 G10 => 
      pq_Tx_path_19 E mc ms Post G10 ((c + mc3) + mc8) ((s + ms4) + ms9) (some a1) x1 v11) G5 a1))) G a1 (63 : Int32)
def pq_Tx_path (E : wo_E) (mc ms : Nat) (Post : Option Nat → wo_W → Prop) (G : wo_W) (x0 : Option Nat) (x1 : Option Nat) : Prop := pq_Tx_path_0 E mc ms Post G 0 0 x0 x1
set_option maxRecDepth 100000 in
set_option maxHeartbeats 4000000 in
theorem tq_Tx_path_83 {p : Program} {l : Launch} {e : Env} {R : Room} {s₀ : State} {m : MethodId} {args : Array Value} {below : List Frame} {meth : Method} {cd : Code} {E : wo_E} {mc ms : Nat} {Post : Option Nat → wo_W → Prop} {k31 : wo_W → Nat → Nat → Option Nat → Option Nat → Int32 → Int32 → Int32 → Prop} (hC : wo_Cx E "EdgeCache$Text" prog_12_method_9_code 6 7 164 ((Option.some (Jvm.ClassFile.FieldType.object "java/lang/String"))) "path" mc ms p R s₀ m args meth cd) (hk31 : ∀ {G : wo_W} {c s : Nat} {x0 : Option Nat} {x1 : Option Nat} {x3 : Int32} {x4 : Int32} {x5 : Int32}, k31 G c s x0 x1 x3 x4 x5 → ∀ {H : Heap} {locs : List Loc} {ls : Array Slot}, wo_Se E G H → va_S (en_A E) s₀.heap H locs → lx_has ls 6 [(0, 1, va_rf x0), (1, 1, va_rf x1), (3, 1, .int x3), (4, 1, .int x4), (5, 1, .int x5)] → c ≤ mc → s ≤ ms → W p l e R s₀ m args below meth cd H locs c s (MQ below (va_Qq Post (wo_B E) (en_A E)) args s₀ mc ms (en_A E)) (F0 m 31 ls [])) : ∀ {G : wo_W} {c s : Nat} {x0 : Option Nat} {x1 : Option Nat} {x3 : Int32} {x4 : Int32} {x5 : Int32}, pq_Tx_path_83 E mc ms Post k31 G c s x0 x1 x3 x4 x5 → ∀ {H : Heap} {locs : List Loc} {ls : Array Slot}, wo_Se E G H → va_S (en_A E) s₀.heap H locs → lx_has ls 6 [(0, 1, va_rf x0), (1, 1, va_rf x1), (3, 1, .int x3), (4, 1, .int x4), (5, 1, .int x5)] → c ≤ mc → s ≤ ms → W p l e R s₀ m args below meth cd H locs c s (MQ below (va_Qq Post (wo_B E) (en_A E)) args s₀ mc ms (en_A E)) (F0 m 83 ls []) := by
  intro G c s x0 x1 x3 x4 x5 hw H locs ls hG hS hl hcc hss
  dsimp only [pq_Tx_path_83] at hw
  have hx := hC.1
  have hb := hC.2.1
  refine lx_iinc (k := 4) (v := (x5 + (1 : Int32))) (lv' := [(5, 1, .int (x5 + (1 : Int32))), (0, 1, va_rf x0), (1, 1, va_rf x1), (3, 1, .int x3), (4, 1, .int x4)]) hx hb dq_Tx_path_83 hl rfl rfl (by decide) rfl (fun ls hl' => ?_)
  clear hl
  have hl := hl'
  clear hl'
  refine lv_goto (tgt := 31) hx hb dq_Tx_path_86 rfl ?_
  exact hk31 hw hG hS (lx_sub hl [1, 2, 3, 4, 0] rfl) hcc hss
set_option maxRecDepth 100000 in
set_option maxHeartbeats 4000000 in
theorem tq_Tx_path_74 {p : Program} {l : Launch} {e : Env} {R : Room} {s₀ : State} {m : MethodId} {args : Array Value} {below : List Frame} {meth : Method} {cd : Code} {E : wo_E} {mc ms : Nat} {Post : Option Nat → wo_W → Prop} {k31 : wo_W → Nat → Nat → Option Nat → Option Nat → Int32 → Int32 → Int32 → Prop} (hC : wo_Cx E "EdgeCache$Text" prog_12_method_9_code 6 7 164 ((Option.some (Jvm.ClassFile.FieldType.object "java/lang/String"))) "path" mc ms p R s₀ m args meth cd) (hk31 : ∀ {G : wo_W} {c s : Nat} {x0 : Option Nat} {x1 : Option Nat} {x3 : Int32} {x4 : Int32} {x5 : Int32}, k31 G c s x0 x1 x3 x4 x5 → ∀ {H : Heap} {locs : List Loc} {ls : Array Slot}, wo_Se E G H → va_S (en_A E) s₀.heap H locs → lx_has ls 6 [(0, 1, va_rf x0), (1, 1, va_rf x1), (3, 1, .int x3), (4, 1, .int x4), (5, 1, .int x5)] → c ≤ mc → s ≤ ms → W p l e R s₀ m args below meth cd H locs c s (MQ below (va_Qq Post (wo_B E) (en_A E)) args s₀ mc ms (en_A E)) (F0 m 31 ls [])) : ∀ {G : wo_W} {c s : Nat} {x0 : Option Nat} {x1 : Option Nat} {x3 : Int32} {x5 : Int32} {y0 : Option Nat} {y1 : Option Nat} {y2 : Int32}, pq_Tx_path_74 E mc ms Post k31 G c s x0 x1 x3 x5 y0 y1 y2 → ∀ {H : Heap} {locs : List Loc} {ls : Array Slot}, wo_Se E G H → va_S (en_A E) s₀.heap H locs → lx_has ls 6 [(0, 1, va_rf x0), (1, 1, va_rf x1), (3, 1, .int x3), (5, 1, .int x5)] → c ≤ mc → s ≤ ms → W p l e R s₀ m args below meth cd H locs c s (MQ below (va_Qq Post (wo_B E) (en_A E)) args s₀ mc ms (en_A E)) (F0 m 74 ls [.int y2, va_rf y1, va_rf y0]) := by
  intro G c s x0 x1 x3 x5 y0 y1 y2 hw H locs ls hG hS hl hcc hss
  dsimp only [pq_Tx_path_74] at hw
  have hx := hC.1
  have hb := hC.2.1
  obtain ⟨mc1, ms2, hc1, hs1, hw⟩ := hw
  refine va_callv (wo_runS hC lq_Tx_84 (mq_Tx_addSegment hw) hG hS rfl (lx_sz hl) rfl (Nat.zero_le _) (by decide) dq_Tx_path_74 ⟨hc1, hs1⟩) hS (fun _ _ h => h) (fun _ h => h) (fun G3 t H locs ht hvm hw' hB _ _ hS => ?_)
  clear hw
  have hw := hw'
  clear hw'
  replace hG := wo_bk ht hB
  replace hcc := hc1
  replace hss := hs1
  refine lv_iload hx hb dq_Tx_path_77 (lx_at hl 3 rfl) ?_
  refine lv_iconst (v := (1 : Int32)) hx hb dq_Tx_path_79 rfl ?_
  refine lv_iadd hx hb dq_Tx_path_80 ?_
  refine lx_istore (lv' := [(4, 1, .int (x5 + (1 : Int32))), (0, 1, va_rf x0), (1, 1, va_rf x1), (3, 1, .int x3), (5, 1, .int x5)]) hx hb dq_Tx_path_81 hl (by decide) rfl (fun ls hl' => ?_)
  clear hl
  have hl := hl'
  clear hl'
  exact tq_Tx_path_83 hC hk31 hw hG hS (lx_sub hl [1, 2, 3, 0, 4] rfl) hcc hss
set_option maxRecDepth 100000 in
set_option maxHeartbeats 4000000 in
theorem tq_Tx_path_54 {p : Program} {l : Launch} {e : Env} {R : Room} {s₀ : State} {m : MethodId} {args : Array Value} {below : List Frame} {meth : Method} {cd : Code} {E : wo_E} {mc ms : Nat} {Post : Option Nat → wo_W → Prop} {k31 : wo_W → Nat → Nat → Option Nat → Option Nat → Int32 → Int32 → Int32 → Prop} (hC : wo_Cx E "EdgeCache$Text" prog_12_method_9_code 6 7 164 ((Option.some (Jvm.ClassFile.FieldType.object "java/lang/String"))) "path" mc ms p R s₀ m args meth cd) (hk31 : ∀ {G : wo_W} {c s : Nat} {x0 : Option Nat} {x1 : Option Nat} {x3 : Int32} {x4 : Int32} {x5 : Int32}, k31 G c s x0 x1 x3 x4 x5 → ∀ {H : Heap} {locs : List Loc} {ls : Array Slot}, wo_Se E G H → va_S (en_A E) s₀.heap H locs → lx_has ls 6 [(0, 1, va_rf x0), (1, 1, va_rf x1), (3, 1, .int x3), (4, 1, .int x4), (5, 1, .int x5)] → c ≤ mc → s ≤ ms → W p l e R s₀ m args below meth cd H locs c s (MQ below (va_Qq Post (wo_B E) (en_A E)) args s₀ mc ms (en_A E)) (F0 m 31 ls [])) : ∀ {G : wo_W} {c s : Nat} {x0 : Option Nat} {x1 : Option Nat} {x3 : Int32} {x4 : Int32} {x5 : Int32}, pq_Tx_path_54 E mc ms Post k31 G c s x0 x1 x3 x4 x5 → ∀ {H : Heap} {locs : List Loc} {ls : Array Slot}, wo_Se E G H → va_S (en_A E) s₀.heap H locs → lx_has ls 6 [(0, 1, va_rf x0), (1, 1, va_rf x1), (3, 1, .int x3), (4, 1, .int x4), (5, 1, .int x5)] → c ≤ mc → s ≤ ms → W p l e R s₀ m args below meth cd H locs c s (MQ below (va_Qq Post (wo_B E) (en_A E)) args s₀ mc ms (en_A E)) (F0 m 54 ls []) := by
  intro G c s x0 x1 x3 x4 x5 hw H locs ls hG hS hl hcc hss
  dsimp only [pq_Tx_path_54] at hw
  have hx := hC.1
  have hb := hC.2.1
  refine lx_aloadR_n hx hb dq_Tx_path_54 rfl (lx_at hl 1 rfl) ?_
  refine lx_aloadR_n hx hb dq_Tx_path_55 rfl (lx_at hl 0 rfl) ?_
  refine lv_iload hx hb dq_Tx_path_56 (lx_at hl 3 rfl) ?_
  refine lv_iload hx hb dq_Tx_path_58 (lx_at hl 4 rfl) ?_
  obtain ⟨a1, rfl, hw⟩ := hw
  obtain ⟨t2, hw⟩ := hw
  obtain ⟨mc3, ms4, hc1, hs1, hw⟩ := hw
  refine va_callq (wo_runV hC lq_Tx_80 (mq_St_substring_II hw) hG hS t2 rfl (lx_sz hl) rfl (lx_rm (Nat.le_of_ble_eq_true rfl)) (by decide) dq_Tx_path_60 ⟨hc1, hs1⟩) hS (fun _ _ h => h) (fun _ h => h) (fun v6 G5 t H locs ht hvm hw' hB _ _ hS => ?_)
  clear hw
  have hw := hw'
  clear hw'
  replace hG := wo_bk ht hB
  replace hcc := hc1
  replace hss := hs1
  refine lv_iload hx hb dq_Tx_path_63 (lx_at hl 4 rfl) ?_
  refine lv_iload_n hx hb dq_Tx_path_65 rfl (lx_at hl 2 rfl) ?_
  refine lv_icmp_ne (tgt := 73) hx hb dq_Tx_path_66 rfl (fun h => ?_) (fun h => ?_)
  · replace hw := hw.1 h
    refine lv_iconst (v := (0 : Int32)) hx hb dq_Tx_path_73 rfl ?_
    exact tq_Tx_path_74 hC hk31 hw hG hS (lx_sub hl [0, 1, 2, 4] rfl) hcc hss
  · replace hw := hw.2 h
    refine lv_iconst (v := (1 : Int32)) hx hb dq_Tx_path_69 rfl ?_
    refine lv_goto (tgt := 74) hx hb dq_Tx_path_70 rfl ?_
    exact tq_Tx_path_74 hC hk31 hw hG hS (lx_sub hl [0, 1, 2, 4] rfl) hcc hss
set_option maxRecDepth 100000 in
set_option maxHeartbeats 4000000 in
theorem tq_Tx_path_31 {p : Program} {l : Launch} {e : Env} {R : Room} {s₀ : State} {m : MethodId} {args : Array Value} {below : List Frame} {meth : Method} {cd : Code} {E : wo_E} {mc ms : Nat} {Post : Option Nat → wo_W → Prop} (hC : wo_Cx E "EdgeCache$Text" prog_12_method_9_code 6 7 164 ((Option.some (Jvm.ClassFile.FieldType.object "java/lang/String"))) "path" mc ms p R s₀ m args meth cd) : ∀ n : Nat, ∀ {G : wo_W} {c s : Nat} {x0 : Option Nat} {x1 : Option Nat} {x3 : Int32} {x4 : Int32} {x5 : Int32}, pq_Tx_path_31 E mc ms Post n G c s x0 x1 x3 x4 x5 → ∀ {H : Heap} {locs : List Loc} {ls : Array Slot}, wo_Se E G H → va_S (en_A E) s₀.heap H locs → lx_has ls 6 [(0, 1, va_rf x0), (1, 1, va_rf x1), (3, 1, .int x3), (4, 1, .int x4), (5, 1, .int x5)] → c ≤ mc → s ≤ ms → W p l e R s₀ m args below meth cd H locs c s (MQ below (va_Qq Post (wo_B E) (en_A E)) args s₀ mc ms (en_A E)) (F0 m 31 ls []) := by
  intro n
  induction n with
  | zero => intro G c s x0 x1 x3 x4 x5 hw; exact hw.elim
  | succ n ih =>
    intro G c s x0 x1 x3 x4 x5 hw H locs ls hG hS hl hcc hss
    dsimp only [pq_Tx_path_31] at hw
    have hx := hC.1
    have hb := hC.2.1
    refine lv_iload hx hb dq_Tx_path_31 (lx_at hl 4 rfl) ?_
    refine lv_iload_n hx hb dq_Tx_path_33 rfl (lx_at hl 2 rfl) ?_
    refine lv_icmp_gt (tgt := 89) hx hb dq_Tx_path_34 rfl (fun h => ?_) (fun h => ?_)
    · replace hw := hw.1 h
      refine lx_aloadR_n hx hb dq_Tx_path_89 rfl (lx_at hl 1 rfl) ?_
      refine lx_aloadR_n hx hb dq_Tx_path_90 rfl (lx_at hl 0 rfl) ?_
      refine lv_iload_n hx hb dq_Tx_path_91 rfl (lx_at hl 2 rfl) ?_
      refine lx_aloadR_n hx hb dq_Tx_path_92 rfl (lx_at hl 0 rfl) ?_
      obtain ⟨a1, rfl, hw⟩ := hw
      obtain ⟨t2, hw⟩ := hw
      obtain ⟨mc3, ms4, hc1, hs1, hw⟩ := hw
      refine va_calli (wo_runV hC lq_Tx_15 (mq_St_length hw) hG hS t2 rfl (lx_sz hl) rfl (lx_rm (Nat.le_of_ble_eq_true rfl)) (by decide) dq_Tx_path_93 ⟨hc1, hs1⟩) hS (fun _ _ h => h) (fun _ h => h) (fun v6 G5 t H locs ht hvm hw' hB _ _ hS => ?_)
      clear hw
      have hw := hw'
      clear hw'
      replace hG := wo_bk ht hB
      replace hcc := hc1
      replace hss := hs1
      obtain ⟨t7, hw⟩ := hw
      obtain ⟨mc8, ms9, hc1, hs1, hw⟩ := hw
      refine va_callq (wo_runV hC lq_Tx_80 (mq_St_substring_II hw) hG hS t7 rfl (lx_sz hl) rfl (lx_rm (Nat.le_of_ble_eq_true rfl)) (by decide) dq_Tx_path_96 ⟨hc1, hs1⟩) hS (fun _ _ h => h) (fun _ h => h) (fun v11 G10 t H locs ht hvm hw' hB _ _ hS => ?_)
      clear hw
      have hw := hw'
      clear hw'
      replace hG := wo_bk ht hB
      replace hcc := hc1
      replace hss := hs1
      obtain ⟨a12, rfl, hw⟩ := hw
      obtain ⟨t13, hw⟩ := hw
      obtain ⟨mc14, ms15, hc1, hs1, hw⟩ := hw
      refine va_callq (wo_runV hC lq_Tx_88 (mq_SB_append_S hw) hG hS t13 rfl (lx_sz hl) rfl (Nat.zero_le _) (by decide) dq_Tx_path_99 ⟨hc1, hs1⟩) hS (fun _ _ h => h) (fun _ h => h) (fun v17 G16 t H locs ht hvm hw' hB _ _ hS => ?_)
      clear hw
      have hw := hw'
      clear hw'
      replace hG := wo_bk ht hB
      replace hcc := hc1
      replace hss := hs1
      refine lv_pop hx hb dq_Tx_path_102 (lx_cR _) ?_
      refine lv_aload_n hx hb dq_Tx_path_103 rfl (lx_at hl 1 rfl) ?_
      obtain ⟨t18, hw⟩ := hw
      obtain ⟨mc19, ms20, hc1, hs1, hw⟩ := hw
      refine va_callq (wo_runV hC lq_Tx_67 (mq_SB_toString hw) hG hS t18 rfl (lx_sz hl) rfl (Nat.zero_le _) (by decide) dq_Tx_path_104 ⟨hc1, hs1⟩) hS (fun _ _ h => h) (fun _ h => h) (fun v22 G21 t H locs ht hvm hw' hB _ _ hS => ?_)
      clear hw
      have hw := hw'
      clear hw'
      replace hG := wo_bk ht hB
      replace hcc := hc1
      replace hss := hs1
      exact wo_aret (x := v22) hC rfl hG hS hcc hss hw dq_Tx_path_107
    · replace hw := hw.2 h
      refine lv_iload hx hb dq_Tx_path_37 (lx_at hl 4 rfl) ?_
      refine lv_iload_n hx hb dq_Tx_path_39 rfl (lx_at hl 2 rfl) ?_
      refine lv_icmp_eq (tgt := 54) hx hb dq_Tx_path_40 rfl (fun h => ?_) (fun h => ?_)
      · replace hw := hw.1 h
        exact tq_Tx_path_54 hC ih hw hG hS (lx_sub hl [0, 1, 2, 3, 4] rfl) hcc hss
      · replace hw := hw.2 h
        refine lx_aloadR_n hx hb dq_Tx_path_43 rfl (lx_at hl 0 rfl) ?_
        refine lv_iload hx hb dq_Tx_path_44 (lx_at hl 4 rfl) ?_
        obtain ⟨a23, rfl, hw⟩ := hw
        obtain ⟨t24, hw⟩ := hw
        obtain ⟨mc25, ms26, hc1, hs1, hw⟩ := hw
        refine va_calli (wo_runV hC lq_Tx_21 (mq_St_charAt hw) hG hS t24 rfl (lx_sz hl) rfl (Nat.zero_le _) (by decide) dq_Tx_path_46 ⟨hc1, hs1⟩) hS (fun _ _ h => h) (fun _ h => h) (fun v28 G27 t H locs ht hvm hw' hB _ _ hS => ?_)
        clear hw
        have hw := hw'
        clear hw'
        replace hG := wo_bk ht hB
        replace hcc := hc1
        replace hss := hs1
        refine lv_bipush (v := (47 : Int32)) hx hb dq_Tx_path_49 rfl ?_
        refine lv_icmp_ne (tgt := 83) hx hb dq_Tx_path_51 rfl (fun h => ?_) (fun h => ?_)
        · replace hw := hw.1 h
          exact tq_Tx_path_83 hC ih hw hG hS (lx_sub hl [0, 1, 2, 3, 4] rfl) hcc hss
        · replace hw := hw.2 h
          exact tq_Tx_path_54 hC ih hw hG hS (lx_sub hl [0, 1, 2, 3, 4] rfl) hcc hss
set_option maxRecDepth 100000 in
set_option maxHeartbeats 4000000 in
theorem tq_Tx_path_19 {p : Program} {l : Launch} {e : Env} {R : Room} {s₀ : State} {m : MethodId} {args : Array Value} {below : List Frame} {meth : Method} {cd : Code} {E : wo_E} {mc ms : Nat} {Post : Option Nat → wo_W → Prop} (hC : wo_Cx E "EdgeCache$Text" prog_12_method_9_code 6 7 164 ((Option.some (Jvm.ClassFile.FieldType.object "java/lang/String"))) "path" mc ms p R s₀ m args meth cd) : ∀ {G : wo_W} {c s : Nat} {x0 : Option Nat} {x1 : Option Nat} {y0 : Int32}, pq_Tx_path_19 E mc ms Post G c s x0 x1 y0 → ∀ {H : Heap} {locs : List Loc} {ls : Array Slot}, wo_Se E G H → va_S (en_A E) s₀.heap H locs → lx_has ls 6 [(0, 1, va_rf x0), (1, 1, va_rf x1)] → c ≤ mc → s ≤ ms → W p l e R s₀ m args below meth cd H locs c s (MQ below (va_Qq Post (wo_B E) (en_A E)) args s₀ mc ms (en_A E)) (F0 m 19 ls [.int y0]) := by
  intro G c s x0 x1 y0 hw H locs ls hG hS hl hcc hss
  dsimp only [pq_Tx_path_19] at hw
  have hx := hC.1
  have hb := hC.2.1
  refine lx_istore_n (lv' := [(3, 1, .int y0), (0, 1, va_rf x0), (1, 1, va_rf x1)]) hx hb dq_Tx_path_19 rfl hl (by decide) rfl (fun ls hl' => ?_)
  clear hl
  have hl := hl'
  clear hl'
  refine lx_aloadR_n hx hb dq_Tx_path_20 rfl (lx_at hl 2 rfl) ?_
  refine lv_iconst (v := (0 : Int32)) hx hb dq_Tx_path_21 rfl ?_
  obtain ⟨a1, rfl, hw⟩ := hw
  obtain ⟨t2, hw⟩ := hw
  obtain ⟨mc3, ms4, hc1, hs1, hw⟩ := hw
  refine va_callv (wo_runV hC lq_Tx_49 (mq_SB_setLength hw) hG hS t2 rfl (lx_sz hl) rfl (Nat.zero_le _) (by decide) dq_Tx_path_22 ⟨hc1, hs1⟩) hS (fun _ _ h => h) (fun _ h => h) (fun G5 t H locs ht hvm hw' hB _ _ hS => ?_)
  clear hw
  have hw := hw'
  clear hw'
  replace hG := wo_bk ht hB
  replace hcc := hc1
  replace hss := hs1
  refine lv_iconst (v := (1 : Int32)) hx hb dq_Tx_path_25 rfl ?_
  refine lx_istore (lv' := [(4, 1, .int (1 : Int32)), (3, 1, .int y0), (0, 1, va_rf x0), (1, 1, .ref a1)]) hx hb dq_Tx_path_26 hl (by decide) rfl (fun ls hl' => ?_)
  clear hl
  have hl := hl'
  clear hl'
  refine lv_iconst (v := (1 : Int32)) hx hb dq_Tx_path_28 rfl ?_
  refine lx_istore (lv' := [(5, 1, .int (1 : Int32)), (4, 1, .int (1 : Int32)), (3, 1, .int y0), (0, 1, va_rf x0), (1, 1, .ref a1)]) hx hb dq_Tx_path_29 hl (by decide) rfl (fun ls hl' => ?_)
  clear hl
  have hl := hl'
  clear hl'
  obtain ⟨n1, hw⟩ := hw
  exact tq_Tx_path_31 hC n1 hw hG hS (lx_sub hl [3, 4, 2, 1, 0] rfl) hcc hss
set_option maxRecDepth 100000 in
set_option maxHeartbeats 4000000 in
theorem tq_Tx_path_0 {p : Program} {l : Launch} {e : Env} {R : Room} {s₀ : State} {m : MethodId} {args : Array Value} {below : List Frame} {meth : Method} {cd : Code} {E : wo_E} {mc ms : Nat} {Post : Option Nat → wo_W → Prop} (hC : wo_Cx E "EdgeCache$Text" prog_12_method_9_code 6 7 164 ((Option.some (Jvm.ClassFile.FieldType.object "java/lang/String"))) "path" mc ms p R s₀ m args meth cd) : ∀ {G : wo_W} {c s : Nat} {x0 : Option Nat} {x1 : Option Nat}, pq_Tx_path_0 E mc ms Post G c s x0 x1 → ∀ {H : Heap} {locs : List Loc} {ls : Array Slot}, wo_Se E G H → va_S (en_A E) s₀.heap H locs → lx_has ls 6 [(0, 1, va_rf x0), (1, 1, va_rf x1)] → c ≤ mc → s ≤ ms → W p l e R s₀ m args below meth cd H locs c s (MQ below (va_Qq Post (wo_B E) (en_A E)) args s₀ mc ms (en_A E)) (F0 m 0 ls []) := by
  intro G c s x0 x1 hw H locs ls hG hS hl hcc hss
  dsimp only [pq_Tx_path_0] at hw
  have hx := hC.1
  have hb := hC.2.1
  refine lx_aloadR_n hx hb dq_Tx_path_0 rfl (lx_at hl 0 rfl) ?_
  refine lv_bipush (v := (63 : Int32)) hx hb dq_Tx_path_1 rfl ?_
  obtain ⟨a1, rfl, hw⟩ := hw
  obtain ⟨t2, hw⟩ := hw
  obtain ⟨mc3, ms4, hc1, hs1, hw⟩ := hw
  refine va_calli (wo_runV hC lq_Tx_76 (mq_St_indexOf_I hw) hG hS t2 rfl (lx_sz hl) rfl (Nat.zero_le _) (by decide) dq_Tx_path_3 ⟨hc1, hs1⟩) hS (fun _ _ h => h) (fun _ h => h) (fun v6 G5 t H locs ht hvm hw' hB _ _ hS => ?_)
  clear hw
  have hw := hw'
  clear hw'
  replace hG := wo_bk ht hB
  replace hcc := hc1
  replace hss := hs1
  refine lx_istore_n (lv' := [(2, 1, .int v6), (0, 1, .ref a1), (1, 1, va_rf x1)]) hx hb dq_Tx_path_6 rfl hl (by decide) rfl (fun ls hl' => ?_)
  clear hl
  have hl := hl'
  clear hl'
  refine lv_iload_n hx hb dq_Tx_path_7 rfl (lx_at hl 0 rfl) ?_
  refine lv_if_ge (tgt := 18) hx hb dq_Tx_path_8 rfl (fun h => ?_) (fun h => ?_)
  · replace hw := hw.1 h
    refine lv_iload_n hx hb dq_Tx_path_18 rfl (lx_at hl 0 rfl) ?_
    exact tq_Tx_path_19 hC hw hG hS (lx_sub hl [1, 2] rfl) hcc hss
  · replace hw := hw.2 h
    refine lv_aload_n hx hb dq_Tx_path_11 rfl (lx_at hl 1 rfl) ?_
    obtain ⟨t7, hw⟩ := hw
    obtain ⟨mc8, ms9, hc1, hs1, hw⟩ := hw
    refine va_calli (wo_runV hC lq_Tx_15 (mq_St_length hw) hG hS t7 rfl (lx_sz hl) rfl (Nat.zero_le _) (by decide) dq_Tx_path_12 ⟨hc1, hs1⟩) hS (fun _ _ h => h) (fun _ h => h) (fun v11 G10 t H locs ht hvm hw' hB _ _ hS => ?_)
    clear hw
    have hw := hw'
    clear hw'
    replace hG := wo_bk ht hB
    replace hcc := hc1
    replace hss := hs1
    refine lv_goto (tgt := 19) hx hb dq_Tx_path_15 rfl ?_
    exact tq_Tx_path_19 hC hw hG hS (lx_sub hl [1, 2] rfl) hcc hss
set_option maxHeartbeats 4000000 in
theorem mq_Tx_path {l : Launch} {E : wo_E} {mc ms : Nat} {Post : Option Nat → wo_W → Prop} {G : wo_W} {x0 : Option Nat} {x1 : Option Nat} (hw : pq_Tx_path E mc ms Post G x0 x1) : Met l yq_Tx_path (Cond.code yq_Tx_path prog_12_method_9_code 6 ((Option.some (Jvm.ClassFile.FieldType.object "java/lang/String"))) :: vw_WG) { frames := 7, cells := mc, slots := ms, locals := 164 } (va_Pc [va_rf x0, va_rf x1] (wo_Ok E G)) (va_Qq Post (wo_B E) (en_A E)) mc ms (en_A E) := by
  unfold pq_Tx_path at hw
  exact wo_met [(1, va_rf x0), (1, va_rf x1)] rfl (by decide) (fun q hq => by simp only [List.mem_cons, List.not_mem_nil, or_false] at hq; rcases hq with rfl | rfl <;> first | rfl | exact lx_cR _) (Nat.le_of_ble_eq_true rfl) (fun p e R s m args below meth cd ls hC hG hS hl => tq_Tx_path_0 hC hw hG hS (lx_sub hl [0, 1] rfl) (Nat.zero_le _) (Nat.zero_le _))

theorem dq_Rd_judgeRequestLine_0 : decode prog_5_method_6_code 0 = .ok (.aload_n 1, 1) := by decide +kernel
theorem dq_Rd_judgeRequestLine_1 : decode prog_5_method_6_code 1 = .ok (.bipush 32, 2) := by decide +kernel
theorem dq_Rd_judgeRequestLine_3 : decode prog_5_method_6_code 3 = .ok (.invokevirtual 92, 3) := by decide +kernel
theorem dq_Rd_judgeRequestLine_6 : decode prog_5_method_6_code 6 = .ok (.istore_n 2, 1) := by decide +kernel
theorem dq_Rd_judgeRequestLine_7 : decode prog_5_method_6_code 7 = .ok (.iload_n 2, 1) := by decide +kernel
theorem dq_Rd_judgeRequestLine_8 : decode prog_5_method_6_code 8 = .ok (.ifCond .ge 7, 3) := by decide +kernel
theorem dq_Rd_judgeRequestLine_11 : decode prog_5_method_6_code 11 = .ok (.sipush 400, 3) := by decide +kernel
theorem dq_Rd_judgeRequestLine_14 : decode prog_5_method_6_code 14 = .ok (.ireturn, 1) := by decide +kernel
theorem dq_Rd_judgeRequestLine_15 : decode prog_5_method_6_code 15 = .ok (.aload_n 0, 1) := by decide +kernel
theorem dq_Rd_judgeRequestLine_16 : decode prog_5_method_6_code 16 = .ok (.getfield 27, 3) := by decide +kernel
theorem dq_Rd_judgeRequestLine_19 : decode prog_5_method_6_code 19 = .ok (.aload_n 1, 1) := by decide +kernel
theorem dq_Rd_judgeRequestLine_20 : decode prog_5_method_6_code 20 = .ok (.iconst 0, 1) := by decide +kernel
theorem dq_Rd_judgeRequestLine_21 : decode prog_5_method_6_code 21 = .ok (.iload_n 2, 1) := by decide +kernel
theorem dq_Rd_judgeRequestLine_22 : decode prog_5_method_6_code 22 = .ok (.invokevirtual 95, 3) := by decide +kernel
theorem dq_Rd_judgeRequestLine_25 : decode prog_5_method_6_code 25 = .ok (.invokestatic 99, 3) := by decide +kernel
theorem dq_Rd_judgeRequestLine_28 : decode prog_5_method_6_code 28 = .ok (.putfield 102, 3) := by decide +kernel
theorem dq_Rd_judgeRequestLine_31 : decode prog_5_method_6_code 31 = .ok (.aload_n 1, 1) := by decide +kernel
theorem dq_Rd_judgeRequestLine_32 : decode prog_5_method_6_code 32 = .ok (.iload_n 2, 1) := by decide +kernel
theorem dq_Rd_judgeRequestLine_33 : decode prog_5_method_6_code 33 = .ok (.iconst 1, 1) := by decide +kernel
theorem dq_Rd_judgeRequestLine_34 : decode prog_5_method_6_code 34 = .ok (.iadd, 1) := by decide +kernel
theorem dq_Rd_judgeRequestLine_35 : decode prog_5_method_6_code 35 = .ok (.invokevirtual 105, 3) := by decide +kernel
theorem dq_Rd_judgeRequestLine_38 : decode prog_5_method_6_code 38 = .ok (.aload_n 0, 1) := by decide +kernel
theorem dq_Rd_judgeRequestLine_39 : decode prog_5_method_6_code 39 = .ok (.getfield 21, 3) := by decide +kernel
theorem dq_Rd_judgeRequestLine_42 : decode prog_5_method_6_code 42 = .ok (.invokestatic 108, 3) := by decide +kernel
theorem dq_Rd_judgeRequestLine_45 : decode prog_5_method_6_code 45 = .ok (.astore_n 3, 1) := by decide +kernel
theorem dq_Rd_judgeRequestLine_46 : decode prog_5_method_6_code 46 = .ok (.aload_n 0, 1) := by decide +kernel
theorem dq_Rd_judgeRequestLine_47 : decode prog_5_method_6_code 47 = .ok (.getfield 27, 3) := by decide +kernel
theorem dq_Rd_judgeRequestLine_50 : decode prog_5_method_6_code 50 = .ok (.getfield 102, 3) := by decide +kernel
theorem dq_Rd_judgeRequestLine_53 : decode prog_5_method_6_code 53 = .ok (.iconst (-1), 1) := by decide +kernel
theorem dq_Rd_judgeRequestLine_54 : decode prog_5_method_6_code 54 = .ok (.if_icmp .eq 7, 3) := by decide +kernel
theorem dq_Rd_judgeRequestLine_57 : decode prog_5_method_6_code 57 = .ok (.aload_n 3, 1) := by decide +kernel
theorem dq_Rd_judgeRequestLine_58 : decode prog_5_method_6_code 58 = .ok (.ifnonnull 7, 3) := by decide +kernel
theorem dq_Rd_judgeRequestLine_61 : decode prog_5_method_6_code 61 = .ok (.sipush 400, 3) := by decide +kernel
theorem dq_Rd_judgeRequestLine_64 : decode prog_5_method_6_code 64 = .ok (.ireturn, 1) := by decide +kernel
theorem dq_Rd_judgeRequestLine_65 : decode prog_5_method_6_code 65 = .ok (.aload_n 0, 1) := by decide +kernel
theorem dq_Rd_judgeRequestLine_66 : decode prog_5_method_6_code 66 = .ok (.getfield 27, 3) := by decide +kernel
theorem dq_Rd_judgeRequestLine_69 : decode prog_5_method_6_code 69 = .ok (.aload_n 3, 1) := by decide +kernel
theorem dq_Rd_judgeRequestLine_70 : decode prog_5_method_6_code 70 = .ok (.aload_n 0, 1) := by decide +kernel
theorem dq_Rd_judgeRequestLine_71 : decode prog_5_method_6_code 71 = .ok (.getfield 21, 3) := by decide +kernel
theorem dq_Rd_judgeRequestLine_74 : decode prog_5_method_6_code 74 = .ok (.invokestatic 114, 3) := by decide +kernel
theorem dq_Rd_judgeRequestLine_77 : decode prog_5_method_6_code 77 = .ok (.putfield 117, 3) := by decide +kernel
theorem dq_Rd_judgeRequestLine_80 : decode prog_5_method_6_code 80 = .ok (.aload_n 0, 1) := by decide +kernel
theorem dq_Rd_judgeRequestLine_81 : decode prog_5_method_6_code 81 = .ok (.iconst 1, 1) := by decide +kernel
theorem dq_Rd_judgeRequestLine_82 : decode prog_5_method_6_code 82 = .ok (.putfield 31, 3) := by decide +kernel
theorem dq_Rd_judgeRequestLine_85 : decode prog_5_method_6_code 85 = .ok (.aload_n 0, 1) := by decide +kernel
theorem dq_Rd_judgeRequestLine_86 : decode prog_5_method_6_code 86 = .ok (.getfield 27, 3) := by decide +kernel
theorem dq_Rd_judgeRequestLine_89 : decode prog_5_method_6_code 89 = .ok (.getfield 117, 3) := by decide +kernel
theorem dq_Rd_judgeRequestLine_92 : decode prog_5_method_6_code 92 = .ok (.invokevirtual 119, 3) := by decide +kernel
theorem dq_Rd_judgeRequestLine_95 : decode prog_5_method_6_code 95 = .ok (.bipush 8, 2) := by decide +kernel
theorem dq_Rd_judgeRequestLine_97 : decode prog_5_method_6_code 97 = .ok (.if_icmp .le 9, 3) := by decide +kernel
theorem dq_Rd_judgeRequestLine_100 : decode prog_5_method_6_code 100 = .ok (.sipush 414, 3) := by decide +kernel
theorem dq_Rd_judgeRequestLine_103 : decode prog_5_method_6_code 103 = .ok (.goto 4, 3) := by decide +kernel
theorem dq_Rd_judgeRequestLine_106 : decode prog_5_method_6_code 106 = .ok (.iconst 0, 1) := by decide +kernel
theorem dq_Rd_judgeRequestLine_107 : decode prog_5_method_6_code 107 = .ok (.ireturn, 1) := by decide +kernel
set_option maxRecDepth 100000 in
def pq_Rd_judgeRequestLine_61 (E : wo_E) (mc ms : Nat) (Post : Int32 → wo_W → Prop) (G : wo_W) (c s : Nat) : Prop := Post (400 : Int32) G
set_option maxRecDepth 100000 in
def pq_Rd_judgeRequestLine_107 (E : wo_E) (mc ms : Nat) (Post : Int32 → wo_W → Prop) (G : wo_W) (c s : Nat) (y0 : Int32) : Prop := Post y0 G
set_option maxRecDepth 100000 in
def pq_Rd_judgeRequestLine_0 (E : wo_E) (mc ms : Nat) (Post : Int32 → wo_W → Prop) (G : wo_W) (c s : Nat) (x0 : Nat) (x1 : Option Nat) : Prop := ∃ a1 : Nat, x1 = some a1 ∧ wo_ty G a1 = 10 ∧ ∃ mc3 ms4 : Nat, (c + mc3) ≤ mc ∧ (s + ms4) ≤ ms ∧ pq_St_indexOf_I E mc3 ms4 (fun v6 G5 => 
  (((0 : Int32) ≤ v6 → wo_ty G5 x0 = 8 ∧ ∀ r8 : Option Nat, r8 = wo_gr G5 451 x0 → wo_ty G5 a1 = 10 ∧ ∃ mc11 ms12 : Nat, ((c + mc3) + mc11) ≤ mc ∧ ((s + ms4) + ms12) ≤ ms ∧ pq_St_substring_II E mc11 ms12 (fun v14 G13 => 
      ∃ mc15 ms16 : Nat, (((c + mc3) + mc11) + mc15) ≤ mc ∧ (((s + ms4) + ms12) + ms16) ≤ ms ∧ pq_Rq_methodNamed E mc15 ms16 (fun v18 G17 => 
        ∃ a19 : Nat, r8 = some a19 ∧ wo_ty G17 a19 = 9 ∧ en_bs E ≤ a19 ∧ ∀ G22 : wo_W, G22 = wo_si G17 512 a19 v18 → 
          wo_ty G22 a1 = 10 ∧ ∃ mc25 ms26 : Nat, ((((c + mc3) + mc11) + mc15) + mc25) ≤ mc ∧ ((((s + ms4) + ms12) + ms16) + ms26) ≤ ms ∧ pq_St_substring_I E mc25 ms26 (fun v28 G27 => 
          wo_ty G27 x0 = 8 ∧ ∀ r30 : Option Nat, r30 = wo_gr G27 450 x0 → ∃ mc32 ms33 : Nat, (((((c + mc3) + mc11) + mc15) + mc25) + mc32) ≤ mc ∧ (((((s + ms4) + ms12) + ms16) + ms26) + ms33) ≤ ms ∧ pq_Tx_decoded E mc32 ms33 (fun v35 G34 => 
            wo_ty G34 x0 = 8 ∧ ∀ r37 : Option Nat, r37 = wo_gr G34 451 x0 → ∃ a39 : Nat, r37 = some a39 ∧ wo_ty G34 a39 = 9 ∧ (((wo_gi G34 512 a39) = (-1 : Int32) → pq_Rd_judgeRequestLine_61 E mc ms Post G34 (((((c + mc3) + mc11) + mc15) + mc25) + mc32) (((((s + ms4) + ms12) + ms16) + ms26) + ms33)) ∧
              (¬ (wo_gi G34 512 a39) = (-1 : Int32) → ((v35 = none → pq_Rd_judgeRequestLine_61 E mc ms Post G34 (((((c + mc3) + mc11) + mc15) + mc25) + mc32) (((((s + ms4) + ms12) + ms16) + ms26) + ms33)) ∧
                (∀ a41 : Nat, v35 = some a41 → ∀ r42 : Option Nat, r42 = wo_gr G34 451 x0 → ∀ r44 : Option Nat, r44 = wo_gr G34 450 x0 → ∃ mc46 ms47 : Nat, ((((((c + mc3) + mc11) + mc15) + mc25) + mc32) + mc46) ≤ mc ∧ ((((((s + ms4) + ms12) + ms16) + ms26) + ms33) + ms47) ≤ ms ∧ pq_Tx_path E mc46 ms47 (fun v49 G48 => 
                  ∃ a50 : Nat, r42 = some a50 ∧ wo_ty G48 a50 = 9 ∧ en_bs E ≤ a50 ∧ ∀ G53 : wo_W, G53 = wo_sr G48 513 a50 v49 → 
                    wo_ty G53 x0 = 8 ∧ en_bs E ≤ x0 ∧ ∀ G57 : wo_W, G57 = wo_si G53 452 x0 (1 : Int32) → 
                    ∀ r59 : Option Nat, r59 = wo_gr G57 451 x0 → ∃ a61 : Nat, r59 = some a61 ∧ wo_ty G57 a61 = 9 ∧ ∀ r63 : Option Nat, r63 = wo_gr G57 513 a61 → ∃ a65 : Nat, r63 = some a65 ∧ wo_ty G57 a65 = 10 ∧ ∃ mc67 ms68 : Nat, (((((((c + mc3) + mc11) + mc15) + mc25) + mc32) + mc46) + mc67) ≤ mc ∧ (((((((s + ms4) + ms12) + ms16) + ms26) + ms33) + ms47) + ms68) ≤ ms ∧ pq_St_length E mc67 ms68 (fun v70 G69 => 
                    ((v70 ≤ (8 : Int32) → pq_Rd_judgeRequestLine_107 E mc ms Post G69 (((((((c + mc3) + mc11) + mc15) + mc25) + mc32) + mc46) + mc67) (((((((s + ms4) + ms12) + ms16) + ms26) + ms33) + ms47) + ms68) (0 : Int32)) ∧
                      (¬ v70 ≤ (8 : Int32) → pq_Rd_judgeRequestLine_107 E mc ms Post G69 (((((((c + mc3) + mc11) + mc15) + mc25) + mc32) + mc46) + mc67) (((((((s + ms4) + ms12) + ms16) + ms26) + ms33) + ms47) + ms68) (414 : Int32)))) G57 a65) G34 (some a41) r44))))) G27 v28 r30) G22 a1 (v6 + (1 : Int32))) G13 v14) G5 a1 (0 : Int32) v6) ∧
    (¬ (0 : Int32) ≤ v6 → Post (400 : Int32) G5))) G a1 (32 : Int32)
def pq_Rd_judgeRequestLine (E : wo_E) (mc ms : Nat) (Post : Int32 → wo_W → Prop) (G : wo_W) (x0 : Nat) (x1 : Option Nat) : Prop := pq_Rd_judgeRequestLine_0 E mc ms Post G 0 0 x0 x1
set_option maxRecDepth 100000 in
set_option maxHeartbeats 4000000 in
theorem tq_Rd_judgeRequestLine_61 {p : Program} {l : Launch} {e : Env} {R : Room} {s₀ : State} {m : MethodId} {args : Array Value} {below : List Frame} {meth : Method} {cd : Code} {E : wo_E} {mc ms : Nat} {Post : Int32 → wo_W → Prop} (hC : wo_Cx E "EdgeCache$Reader" prog_5_method_6_code 4 8 189 ((Option.some Jvm.ClassFile.FieldType.int)) "judgeRequestLine" mc ms p R s₀ m args meth cd) : ∀ {G : wo_W} {c s : Nat}, pq_Rd_judgeRequestLine_61 E mc ms Post G c s → ∀ {H : Heap} {locs : List Loc} {ls : Array Slot}, wo_Se E G H → va_S (en_A E) s₀.heap H locs → lx_has ls 4 [] → c ≤ mc → s ≤ ms → W p l e R s₀ m args below meth cd H locs c s (MQ below (va_Qi Post (wo_B E) (en_A E)) args s₀ mc ms (en_A E)) (F0 m 61 ls []) := by
  intro G c s hw H locs ls hG hS hl hcc hss
  dsimp only [pq_Rd_judgeRequestLine_61] at hw
  have hx := hC.1
  have hb := hC.2.1
  refine lv_sipush (v := (400 : Int32)) hx hb dq_Rd_judgeRequestLine_61 rfl ?_
  exact wo_iret hC hG hS hcc hss hw dq_Rd_judgeRequestLine_64
set_option maxRecDepth 100000 in
set_option maxHeartbeats 4000000 in
theorem tq_Rd_judgeRequestLine_107 {p : Program} {l : Launch} {e : Env} {R : Room} {s₀ : State} {m : MethodId} {args : Array Value} {below : List Frame} {meth : Method} {cd : Code} {E : wo_E} {mc ms : Nat} {Post : Int32 → wo_W → Prop} (hC : wo_Cx E "EdgeCache$Reader" prog_5_method_6_code 4 8 189 ((Option.some Jvm.ClassFile.FieldType.int)) "judgeRequestLine" mc ms p R s₀ m args meth cd) : ∀ {G : wo_W} {c s : Nat} {y0 : Int32}, pq_Rd_judgeRequestLine_107 E mc ms Post G c s y0 → ∀ {H : Heap} {locs : List Loc} {ls : Array Slot}, wo_Se E G H → va_S (en_A E) s₀.heap H locs → lx_has ls 4 [] → c ≤ mc → s ≤ ms → W p l e R s₀ m args below meth cd H locs c s (MQ below (va_Qi Post (wo_B E) (en_A E)) args s₀ mc ms (en_A E)) (F0 m 107 ls [.int y0]) := by
  intro G c s y0 hw H locs ls hG hS hl hcc hss
  dsimp only [pq_Rd_judgeRequestLine_107] at hw
  have hx := hC.1
  have hb := hC.2.1
  exact wo_iret hC hG hS hcc hss hw dq_Rd_judgeRequestLine_107
set_option maxRecDepth 100000 in
set_option maxHeartbeats 4000000 in
theorem tq_Rd_judgeRequestLine_0 {p : Program} {l : Launch} {e : Env} {R : Room} {s₀ : State} {m : MethodId} {args : Array Value} {below : List Frame} {meth : Method} {cd : Code} {E : wo_E} {mc ms : Nat} {Post : Int32 → wo_W → Prop} (hC : wo_Cx E "EdgeCache$Reader" prog_5_method_6_code 4 8 189 ((Option.some Jvm.ClassFile.FieldType.int)) "judgeRequestLine" mc ms p R s₀ m args meth cd) : ∀ {G : wo_W} {c s : Nat} {x0 : Nat} {x1 : Option Nat}, pq_Rd_judgeRequestLine_0 E mc ms Post G c s x0 x1 → ∀ {H : Heap} {locs : List Loc} {ls : Array Slot}, wo_Se E G H → va_S (en_A E) s₀.heap H locs → lx_has ls 4 [(0, 1, .ref x0), (1, 1, va_rf x1)] → c ≤ mc → s ≤ ms → W p l e R s₀ m args below meth cd H locs c s (MQ below (va_Qi Post (wo_B E) (en_A E)) args s₀ mc ms (en_A E)) (F0 m 0 ls []) := by
  intro G c s x0 x1 hw H locs ls hG hS hl hcc hss
  dsimp only [pq_Rd_judgeRequestLine_0] at hw
  have hx := hC.1
  have hb := hC.2.1
  refine lx_aloadR_n hx hb dq_Rd_judgeRequestLine_0 rfl (lx_at hl 1 rfl) ?_
  refine lv_bipush (v := (32 : Int32)) hx hb dq_Rd_judgeRequestLine_1 rfl ?_
  obtain ⟨a1, rfl, hw⟩ := hw
  obtain ⟨t2, hw⟩ := hw
  obtain ⟨mc3, ms4, hc1, hs1, hw⟩ := hw
  refine va_calli (wo_runV hC lq_Rd_92 (mq_St_indexOf_I hw) hG hS t2 rfl (lx_sz hl) rfl (Nat.zero_le _) (by decide) dq_Rd_judgeRequestLine_3 ⟨hc1, hs1⟩) hS (fun _ _ h => h) (fun _ h => h) (fun v6 G5 t H locs ht hvm hw' hB _ _ hS => ?_)
  clear hw
  have hw := hw'
  clear hw'
  replace hG := wo_bk ht hB
  replace hcc := hc1
  replace hss := hs1
  refine lx_istore_n (lv' := [(2, 1, .int v6), (0, 1, .ref x0), (1, 1, .ref a1)]) hx hb dq_Rd_judgeRequestLine_6 rfl hl (by decide) rfl (fun ls hl' => ?_)
  clear hl
  have hl := hl'
  clear hl'
  refine lv_iload_n hx hb dq_Rd_judgeRequestLine_7 rfl (lx_at hl 0 rfl) ?_
  refine lv_if_ge (tgt := 15) hx hb dq_Rd_judgeRequestLine_8 rfl (fun h => ?_) (fun h => ?_)
  · replace hw := hw.1 h
    refine lv_aload_n hx hb dq_Rd_judgeRequestLine_15 rfl (lx_at hl 1 rfl) ?_
    obtain ⟨t7, hw⟩ := hw
    refine wo_getR hC fq_Rd_27 rfl hG t7 dq_Rd_judgeRequestLine_16 (fun r8 e9 => ?_)
    replace hw := hw r8 e9
    refine lv_aload_n hx hb dq_Rd_judgeRequestLine_19 rfl (lx_at hl 2 rfl) ?_
    refine lv_iconst (v := (0 : Int32)) hx hb dq_Rd_judgeRequestLine_20 rfl ?_
    refine lv_iload_n hx hb dq_Rd_judgeRequestLine_21 rfl (lx_at hl 0 rfl) ?_
    obtain ⟨t10, hw⟩ := hw
    obtain ⟨mc11, ms12, hc1, hs1, hw⟩ := hw
    refine va_callq (wo_runV hC lq_Rd_95 (mq_St_substring_II hw) hG hS t10 rfl (lx_sz hl) rfl (lx_rm (Nat.le_of_ble_eq_true rfl)) (by decide) dq_Rd_judgeRequestLine_22 ⟨hc1, hs1⟩) hS (fun _ _ h => h) (fun _ h => h) (fun v14 G13 t H locs ht hvm hw' hB _ _ hS => ?_)
    clear hw
    have hw := hw'
    clear hw'
    replace hG := wo_bk ht hB
    replace hcc := hc1
    replace hss := hs1
    obtain ⟨mc15, ms16, hc1, hs1, hw⟩ := hw
    refine va_calli (wo_runS hC lq_Rd_99 (mq_Rq_methodNamed hw) hG hS rfl (lx_sz hl) rfl (lx_rm (Nat.le_of_ble_eq_true rfl)) (by decide) dq_Rd_judgeRequestLine_25 ⟨hc1, hs1⟩) hS (fun _ _ h => h) (fun _ h => h) (fun v18 G17 t H locs ht hvm hw' hB _ _ hS => ?_)
    clear hw
    have hw := hw'
    clear hw'
    replace hG := wo_bk ht hB
    replace hcc := hc1
    replace hss := hs1
    obtain ⟨a19, rfl, hw⟩ := hw
    obtain ⟨t20, hw⟩ := hw
    obtain ⟨h21, hw⟩ := hw
    refine wo_putI hC fq_Rd_102 (Or.inl rfl) rfl (wo_ok_int _) hG hS t20 h21 dq_Rd_judgeRequestLine_28 (fun G22 H locs e23 hG hS => ?_)
    replace hw := hw G22 e23
    refine lv_aload_n hx hb dq_Rd_judgeRequestLine_31 rfl (lx_at hl 2 rfl) ?_
    refine lv_iload_n hx hb dq_Rd_judgeRequestLine_32 rfl (lx_at hl 0 rfl) ?_
    refine lv_iconst (v := (1 : Int32)) hx hb dq_Rd_judgeRequestLine_33 rfl ?_
    refine lv_iadd hx hb dq_Rd_judgeRequestLine_34 ?_
    obtain ⟨t24, hw⟩ := hw
    obtain ⟨mc25, ms26, hc1, hs1, hw⟩ := hw
    refine va_callq (wo_runV hC lq_Rd_105 (mq_St_substring_I hw) hG hS t24 rfl (lx_sz hl) rfl (Nat.zero_le _) (by decide) dq_Rd_judgeRequestLine_35 ⟨hc1, hs1⟩) hS (fun _ _ h => h) (fun _ h => h) (fun v28 G27 t H locs ht hvm hw' hB _ _ hS => ?_)
    clear hw
    have hw := hw'
    clear hw'
    replace hG := wo_bk ht hB
    replace hcc := hc1
    replace hss := hs1
    refine lv_aload_n hx hb dq_Rd_judgeRequestLine_38 rfl (lx_at hl 1 rfl) ?_
    obtain ⟨t29, hw⟩ := hw
    refine wo_getR hC fq_Rd_21 rfl hG t29 dq_Rd_judgeRequestLine_39 (fun r30 e31 => ?_)
    replace hw := hw r30 e31
    obtain ⟨mc32, ms33, hc1, hs1, hw⟩ := hw
    refine va_callq (wo_runS hC lq_Rd_108 (mq_Tx_decoded hw) hG hS rfl (lx_sz hl) rfl (Nat.zero_le _) (by decide) dq_Rd_judgeRequestLine_42 ⟨hc1, hs1⟩) hS (fun _ _ h => h) (fun _ h => h) (fun v35 G34 t H locs ht hvm hw' hB _ _ hS => ?_)
    clear hw
    have hw := hw'
    clear hw'
    replace hG := wo_bk ht hB
    replace hcc := hc1
    replace hss := hs1
    refine lx_astoreR_n (lv' := [(3, 1, va_rf v35), (2, 1, .int v6), (0, 1, .ref x0), (1, 1, .ref a1)]) hx hb dq_Rd_judgeRequestLine_45 rfl hl (by decide) rfl (fun ls hl' => ?_)
    clear hl
    have hl := hl'
    clear hl'
    refine lv_aload_n hx hb dq_Rd_judgeRequestLine_46 rfl (lx_at hl 2 rfl) ?_
    obtain ⟨t36, hw⟩ := hw
    refine wo_getR hC fq_Rd_27 rfl hG t36 dq_Rd_judgeRequestLine_47 (fun r37 e38 => ?_)
    replace hw := hw r37 e38
    obtain ⟨a39, rfl, hw⟩ := hw
    obtain ⟨t40, hw⟩ := hw
    refine wo_getI hC fq_Rd_102 rfl hG t40 dq_Rd_judgeRequestLine_50 ?_
    refine lv_iconst (v := (-1 : Int32)) hx hb dq_Rd_judgeRequestLine_53 rfl ?_
    refine lv_icmp_eq (tgt := 61) hx hb dq_Rd_judgeRequestLine_54 rfl (fun h => ?_) (fun h => ?_)
    · replace hw := hw.1 h
      exact tq_Rd_judgeRequestLine_61 hC hw hG hS (lx_sub hl [] rfl) hcc hss
    · replace hw := hw.2 h
      refine lx_aloadR_n hx hb dq_Rd_judgeRequestLine_57 rfl (lx_at hl 0 rfl) ?_
      refine lx_ifnonnull (tgt := 65) hx hb dq_Rd_judgeRequestLine_58 rfl (fun h => ?_) (fun a41 h => ?_)
      · replace hw := hw.1 h
        subst h
        exact tq_Rd_judgeRequestLine_61 hC hw hG hS (lx_sub hl [] rfl) hcc hss
      · replace hw := hw.2 a41 h
        subst h
        refine lv_aload_n hx hb dq_Rd_judgeRequestLine_65 rfl (lx_at hl 2 rfl) ?_
        refine wo_getR hC fq_Rd_27 rfl hG t36 dq_Rd_judgeRequestLine_66 (fun r42 e43 => ?_)
        replace hw := hw r42 e43
        refine lv_aload_n hx hb dq_Rd_judgeRequestLine_69 rfl (lx_at hl 0 rfl) ?_
        refine lv_aload_n hx hb dq_Rd_judgeRequestLine_70 rfl (lx_at hl 2 rfl) ?_
        refine wo_getR hC fq_Rd_21 rfl hG t36 dq_Rd_judgeRequestLine_71 (fun r44 e45 => ?_)
        replace hw := hw r44 e45
        obtain ⟨mc46, ms47, hc1, hs1, hw⟩ := hw
        refine va_callq (wo_runS hC lq_Rd_114 (mq_Tx_path hw) hG hS rfl (lx_sz hl) rfl (lx_rm (Nat.le_of_ble_eq_true rfl)) (by decide) dq_Rd_judgeRequestLine_74 ⟨hc1, hs1⟩) hS (fun _ _ h => h) (fun _ h => h) (fun v49 G48 t H locs ht hvm hw' hB _ _ hS => ?_)
        clear hw
        have hw := hw'
        clear hw'
        replace hG := wo_bk ht hB
        replace hcc := hc1
        replace hss := hs1
        obtain ⟨a50, rfl, hw⟩ := hw
        obtain ⟨t51, hw⟩ := hw
        obtain ⟨h52, hw⟩ := hw
        refine wo_putR (x := v49) hC fq_Rd_117 (Or.inl rfl) rfl hG hS t51 h52 dq_Rd_judgeRequestLine_77 (fun G53 H locs e54 hG hS => ?_)
        replace hw := hw G53 e54
        refine lv_aload_n hx hb dq_Rd_judgeRequestLine_80 rfl (lx_at hl 2 rfl) ?_
        refine lv_iconst (v := (1 : Int32)) hx hb dq_Rd_judgeRequestLine_81 rfl ?_
        obtain ⟨t55, hw⟩ := hw
        obtain ⟨h56, hw⟩ := hw
        refine wo_putI hC fq_Rd_31 (Or.inl rfl) rfl (wo_ok_int _) hG hS t55 h56 dq_Rd_judgeRequestLine_82 (fun G57 H locs e58 hG hS => ?_)
        replace hw := hw G57 e58
        refine lv_aload_n hx hb dq_Rd_judgeRequestLine_85 rfl (lx_at hl 2 rfl) ?_
        refine wo_getR hC fq_Rd_27 rfl hG (ty_si e58 t55) dq_Rd_judgeRequestLine_86 (fun r59 e60 => ?_)
        replace hw := hw r59 e60
        obtain ⟨a61, rfl, hw⟩ := hw
        obtain ⟨t62, hw⟩ := hw
        refine wo_getR hC fq_Rd_117 rfl hG t62 dq_Rd_judgeRequestLine_89 (fun r63 e64 => ?_)
        replace hw := hw r63 e64
        obtain ⟨a65, rfl, hw⟩ := hw
        obtain ⟨t66, hw⟩ := hw
        obtain ⟨mc67, ms68, hc1, hs1, hw⟩ := hw
        refine va_calli (wo_runV hC lq_Rd_119 (mq_St_length hw) hG hS t66 rfl (lx_sz hl) rfl (Nat.zero_le _) (by decide) dq_Rd_judgeRequestLine_92 ⟨hc1, hs1⟩) hS (fun _ _ h => h) (fun _ h => h) (fun v70 G69 t H locs ht hvm hw' hB _ _ hS => ?_)
        clear hw
        have hw := hw'
        clear hw'
        replace hG := wo_bk ht hB
        replace hcc := hc1
        replace hss := hs1
        refine lv_bipush (v := (8 : Int32)) hx hb dq_Rd_judgeRequestLine_95 rfl ?_
        refine lv_icmp_le (tgt := 106) hx hb dq_Rd_judgeRequestLine_97 rfl (fun h => ?_) (fun h => ?_)
        · replace hw := hw.1 h
          refine lv_iconst (v := (0 : Int32)) hx hb dq_Rd_judgeRequestLine_106 rfl ?_
          exact tq_Rd_judgeRequestLine_107 hC hw hG hS (lx_sub hl [] rfl) hcc hss
        · replace hw := hw.2 h
          refine lv_sipush (v := (414 : Int32)) hx hb dq_Rd_judgeRequestLine_100 rfl ?_
          refine lv_goto (tgt := 107) hx hb dq_Rd_judgeRequestLine_103 rfl ?_
          exact tq_Rd_judgeRequestLine_107 hC hw hG hS (lx_sub hl [] rfl) hcc hss
  · replace hw := hw.2 h
    refine lv_sipush (v := (400 : Int32)) hx hb dq_Rd_judgeRequestLine_11 rfl ?_
    exact wo_iret hC hG hS hcc hss hw dq_Rd_judgeRequestLine_14
set_option maxHeartbeats 4000000 in
theorem mq_Rd_judgeRequestLine {l : Launch} {E : wo_E} {mc ms : Nat} {Post : Int32 → wo_W → Prop} {G : wo_W} {x0 : Nat} {x1 : Option Nat} (hw : pq_Rd_judgeRequestLine E mc ms Post G x0 x1) : Met l yq_Rd_judgeRequestLine (Cond.code yq_Rd_judgeRequestLine prog_5_method_6_code 4 ((Option.some Jvm.ClassFile.FieldType.int)) :: vw_WG) { frames := 8, cells := mc, slots := ms, locals := 189 } (va_Pc [.ref x0, va_rf x1] (wo_Ok E G)) (va_Qi Post (wo_B E) (en_A E)) mc ms (en_A E) := by
  unfold pq_Rd_judgeRequestLine at hw
  exact wo_met [(1, .ref x0), (1, va_rf x1)] rfl (by decide) (fun q hq => by simp only [List.mem_cons, List.not_mem_nil, or_false] at hq; rcases hq with rfl | rfl <;> first | rfl | exact lx_cR _) (Nat.le_of_ble_eq_true rfl) (fun p e R s m args below meth cd ls hC hG hS hl => tq_Rd_judgeRequestLine_0 hC hw hG hS (lx_sub hl [0, 1] rfl) (Nat.zero_le _) (Nat.zero_le _))

theorem dq_Rd_judge_0 : decode prog_5_method_5_code 0 = .ok (.aload_n 0, 1) := by decide +kernel
theorem dq_Rd_judge_1 : decode prog_5_method_5_code 1 = .ok (.getfield 31, 3) := by decide +kernel
theorem dq_Rd_judge_4 : decode prog_5_method_5_code 4 = .ok (.tableswitch 75 0 3 #[32, 49, 75, 69], 32) := by decide +kernel
theorem dq_Rd_judge_36 : decode prog_5_method_5_code 36 = .ok (.aload_n 1, 1) := by decide +kernel
theorem dq_Rd_judge_37 : decode prog_5_method_5_code 37 = .ok (.invokevirtual 74, 3) := by decide +kernel
theorem dq_Rd_judge_40 : decode prog_5_method_5_code 40 = .ok (.ifCond .eq 7, 3) := by decide +kernel
theorem dq_Rd_judge_43 : decode prog_5_method_5_code 43 = .ok (.iconst 0, 1) := by decide +kernel
theorem dq_Rd_judge_44 : decode prog_5_method_5_code 44 = .ok (.goto 8, 3) := by decide +kernel
theorem dq_Rd_judge_47 : decode prog_5_method_5_code 47 = .ok (.aload_n 0, 1) := by decide +kernel
theorem dq_Rd_judge_48 : decode prog_5_method_5_code 48 = .ok (.aload_n 1, 1) := by decide +kernel
theorem dq_Rd_judge_49 : decode prog_5_method_5_code 49 = .ok (.invokevirtual 80, 3) := by decide +kernel
theorem dq_Rd_judge_52 : decode prog_5_method_5_code 52 = .ok (.ireturn, 1) := by decide +kernel
theorem dq_Rd_judge_53 : decode prog_5_method_5_code 53 = .ok (.aload_n 1, 1) := by decide +kernel
theorem dq_Rd_judge_54 : decode prog_5_method_5_code 54 = .ok (.invokevirtual 74, 3) := by decide +kernel
theorem dq_Rd_judge_57 : decode prog_5_method_5_code 57 = .ok (.ifCond .eq 10, 3) := by decide +kernel
theorem dq_Rd_judge_60 : decode prog_5_method_5_code 60 = .ok (.aload_n 0, 1) := by decide +kernel
theorem dq_Rd_judge_61 : decode prog_5_method_5_code 61 = .ok (.invokevirtual 83, 3) := by decide +kernel
theorem dq_Rd_judge_64 : decode prog_5_method_5_code 64 = .ok (.goto 8, 3) := by decide +kernel
theorem dq_Rd_judge_67 : decode prog_5_method_5_code 67 = .ok (.aload_n 0, 1) := by decide +kernel
theorem dq_Rd_judge_68 : decode prog_5_method_5_code 68 = .ok (.aload_n 1, 1) := by decide +kernel
theorem dq_Rd_judge_69 : decode prog_5_method_5_code 69 = .ok (.invokevirtual 86, 3) := by decide +kernel
theorem dq_Rd_judge_72 : decode prog_5_method_5_code 72 = .ok (.ireturn, 1) := by decide +kernel
theorem dq_Rd_judge_73 : decode prog_5_method_5_code 73 = .ok (.aload_n 0, 1) := by decide +kernel
theorem dq_Rd_judge_74 : decode prog_5_method_5_code 74 = .ok (.aload_n 1, 1) := by decide +kernel
theorem dq_Rd_judge_75 : decode prog_5_method_5_code 75 = .ok (.invokevirtual 89, 3) := by decide +kernel
theorem dq_Rd_judge_78 : decode prog_5_method_5_code 78 = .ok (.ireturn, 1) := by decide +kernel
theorem dq_Rd_judge_79 : decode prog_5_method_5_code 79 = .ok (.aload_n 1, 1) := by decide +kernel
theorem dq_Rd_judge_80 : decode prog_5_method_5_code 80 = .ok (.invokevirtual 74, 3) := by decide +kernel
theorem dq_Rd_judge_83 : decode prog_5_method_5_code 83 = .ok (.ifCond .eq 7, 3) := by decide +kernel
theorem dq_Rd_judge_86 : decode prog_5_method_5_code 86 = .ok (.iconst 1, 1) := by decide +kernel
theorem dq_Rd_judge_87 : decode prog_5_method_5_code 87 = .ok (.goto 4, 3) := by decide +kernel
theorem dq_Rd_judge_90 : decode prog_5_method_5_code 90 = .ok (.iconst 0, 1) := by decide +kernel
theorem dq_Rd_judge_91 : decode prog_5_method_5_code 91 = .ok (.ireturn, 1) := by decide +kernel
set_option maxRecDepth 100000 in
def pq_Rd_judge_52 (E : wo_E) (mc ms : Nat) (Post : Int32 → wo_W → Prop) (G : wo_W) (c s : Nat) (y0 : Int32) : Prop := Post y0 G
set_option maxRecDepth 100000 in
def pq_Rd_judge_72 (E : wo_E) (mc ms : Nat) (Post : Int32 → wo_W → Prop) (G : wo_W) (c s : Nat) (y0 : Int32) : Prop := Post y0 G
set_option maxRecDepth 100000 in
def pq_Rd_judge_91 (E : wo_E) (mc ms : Nat) (Post : Int32 → wo_W → Prop) (G : wo_W) (c s : Nat) (y0 : Int32) : Prop := Post y0 G
set_option maxRecDepth 100000 in
def pq_Rd_judge_0 (E : wo_E) (mc ms : Nat) (Post : Int32 → wo_W → Prop) (G : wo_W) (c s : Nat) (x0 : Nat) (x1 : Option Nat) : Prop := wo_ty G x0 = 8 ∧ (((wo_gi G 452 x0) = (0 : Int32) → ∃ a2 : Nat, x1 = some a2 ∧ wo_ty G a2 = 10 ∧ ∃ mc4 ms5 : Nat, (c + mc4) ≤ mc ∧ (s + ms5) ≤ ms ∧ pq_St_isEmpty E mc4 ms5 (fun v7 G6 => 
    ((v7 = (0 : Int32) → wo_ty G6 x0 = 8 ∧ ∃ mc9 ms10 : Nat, ((c + mc4) + mc9) ≤ mc ∧ ((s + ms5) + ms10) ≤ ms ∧ pq_Rd_judgeRequestLine E mc9 ms10 (fun v12 G11 => 
        pq_Rd_judge_52 E mc ms Post G11 ((c + mc4) + mc9) ((s + ms5) + ms10) v12) G6 x0 (some a2)) ∧
      (¬ v7 = (0 : Int32) → pq_Rd_judge_52 E mc ms Post G6 (c + mc4) (s + ms5) (0 : Int32)))) G a2) ∧
  ((wo_gi G 452 x0) = (1 : Int32) → ∃ a13 : Nat, x1 = some a13 ∧ wo_ty G a13 = 10 ∧ ∃ mc15 ms16 : Nat, (c + mc15) ≤ mc ∧ (s + ms16) ≤ ms ∧ pq_St_isEmpty E mc15 ms16 (fun v18 G17 => 
    ((v18 = (0 : Int32) → wo_ty G17 x0 = 8 ∧ ∃ mc20 ms21 : Nat, ((c + mc15) + mc20) ≤ mc ∧ ((s + ms16) + ms21) ≤ ms ∧ pq_Rd_judgeHeader E mc20 ms21 (fun v23 G22 => 
        pq_Rd_judge_72 E mc ms Post G22 ((c + mc15) + mc20) ((s + ms16) + ms21) v23) G17 x0 (some a13)) ∧
      (¬ v18 = (0 : Int32) → wo_ty G17 x0 = 8 ∧ ∃ mc25 ms26 : Nat, ((c + mc15) + mc25) ≤ mc ∧ ((s + ms16) + ms26) ≤ ms ∧ pq_Rd_endHeaders E mc25 ms26 (fun v28 G27 => 
        pq_Rd_judge_72 E mc ms Post G27 ((c + mc15) + mc25) ((s + ms16) + ms26) v28) G17 x0))) G a13) ∧
  ((wo_gi G 452 x0) = (2 : Int32) → ∃ a29 : Nat, x1 = some a29 ∧ wo_ty G a29 = 10 ∧ ∃ mc31 ms32 : Nat, (c + mc31) ≤ mc ∧ (s + ms32) ≤ ms ∧ pq_St_isEmpty E mc31 ms32 (fun v34 G33 => 
    ((v34 = (0 : Int32) → pq_Rd_judge_91 E mc ms Post G33 (c + mc31) (s + ms32) (0 : Int32)) ∧
      (¬ v34 = (0 : Int32) → pq_Rd_judge_91 E mc ms Post G33 (c + mc31) (s + ms32) (1 : Int32)))) G a29) ∧
  ((wo_gi G 452 x0) = (3 : Int32) → ∃ mc35 ms36 : Nat, (c + mc35) ≤ mc ∧ (s + ms36) ≤ ms ∧ pq_Rd_judgeChunk E mc35 ms36 (fun v38 G37 => 
    Post v38 G37) G x0 x1) ∧
  (¬ (wo_gi G 452 x0) = (0 : Int32) → ¬ (wo_gi G 452 x0) = (1 : Int32) → ¬ (wo_gi G 452 x0) = (2 : Int32) → ¬ (wo_gi G 452 x0) = (3 : Int32) → ∃ a39 : Nat, x1 = some a39 ∧ wo_ty G a39 = 10 ∧ ∃ mc41 ms42 : Nat, (c + mc41) ≤ mc ∧ (s + ms42) ≤ ms ∧ pq_St_isEmpty E mc41 ms42 (fun v44 G43 => 
    ((v44 = (0 : Int32) → pq_Rd_judge_91 E mc ms Post G43 (c + mc41) (s + ms42) (0 : Int32)) ∧
      (¬ v44 = (0 : Int32) → pq_Rd_judge_91 E mc ms Post G43 (c + mc41) (s + ms42) (1 : Int32)))) G a39))
def pq_Rd_judge (E : wo_E) (mc ms : Nat) (Post : Int32 → wo_W → Prop) (G : wo_W) (x0 : Nat) (x1 : Option Nat) : Prop := pq_Rd_judge_0 E mc ms Post G 0 0 x0 x1
set_option maxRecDepth 100000 in
set_option maxHeartbeats 4000000 in
theorem tq_Rd_judge_52 {p : Program} {l : Launch} {e : Env} {R : Room} {s₀ : State} {m : MethodId} {args : Array Value} {below : List Frame} {meth : Method} {cd : Code} {E : wo_E} {mc ms : Nat} {Post : Int32 → wo_W → Prop} (hC : wo_Cx E "EdgeCache$Reader" prog_5_method_5_code 2 9 212 ((Option.some Jvm.ClassFile.FieldType.int)) "judge" mc ms p R s₀ m args meth cd) : ∀ {G : wo_W} {c s : Nat} {y0 : Int32}, pq_Rd_judge_52 E mc ms Post G c s y0 → ∀ {H : Heap} {locs : List Loc} {ls : Array Slot}, wo_Se E G H → va_S (en_A E) s₀.heap H locs → lx_has ls 2 [] → c ≤ mc → s ≤ ms → W p l e R s₀ m args below meth cd H locs c s (MQ below (va_Qi Post (wo_B E) (en_A E)) args s₀ mc ms (en_A E)) (F0 m 52 ls [.int y0]) := by
  intro G c s y0 hw H locs ls hG hS hl hcc hss
  dsimp only [pq_Rd_judge_52] at hw
  have hx := hC.1
  have hb := hC.2.1
  exact wo_iret hC hG hS hcc hss hw dq_Rd_judge_52
set_option maxRecDepth 100000 in
set_option maxHeartbeats 4000000 in
theorem tq_Rd_judge_72 {p : Program} {l : Launch} {e : Env} {R : Room} {s₀ : State} {m : MethodId} {args : Array Value} {below : List Frame} {meth : Method} {cd : Code} {E : wo_E} {mc ms : Nat} {Post : Int32 → wo_W → Prop} (hC : wo_Cx E "EdgeCache$Reader" prog_5_method_5_code 2 9 212 ((Option.some Jvm.ClassFile.FieldType.int)) "judge" mc ms p R s₀ m args meth cd) : ∀ {G : wo_W} {c s : Nat} {y0 : Int32}, pq_Rd_judge_72 E mc ms Post G c s y0 → ∀ {H : Heap} {locs : List Loc} {ls : Array Slot}, wo_Se E G H → va_S (en_A E) s₀.heap H locs → lx_has ls 2 [] → c ≤ mc → s ≤ ms → W p l e R s₀ m args below meth cd H locs c s (MQ below (va_Qi Post (wo_B E) (en_A E)) args s₀ mc ms (en_A E)) (F0 m 72 ls [.int y0]) := by
  intro G c s y0 hw H locs ls hG hS hl hcc hss
  dsimp only [pq_Rd_judge_72] at hw
  have hx := hC.1
  have hb := hC.2.1
  exact wo_iret hC hG hS hcc hss hw dq_Rd_judge_72
set_option maxRecDepth 100000 in
set_option maxHeartbeats 4000000 in
theorem tq_Rd_judge_91 {p : Program} {l : Launch} {e : Env} {R : Room} {s₀ : State} {m : MethodId} {args : Array Value} {below : List Frame} {meth : Method} {cd : Code} {E : wo_E} {mc ms : Nat} {Post : Int32 → wo_W → Prop} (hC : wo_Cx E "EdgeCache$Reader" prog_5_method_5_code 2 9 212 ((Option.some Jvm.ClassFile.FieldType.int)) "judge" mc ms p R s₀ m args meth cd) : ∀ {G : wo_W} {c s : Nat} {y0 : Int32}, pq_Rd_judge_91 E mc ms Post G c s y0 → ∀ {H : Heap} {locs : List Loc} {ls : Array Slot}, wo_Se E G H → va_S (en_A E) s₀.heap H locs → lx_has ls 2 [] → c ≤ mc → s ≤ ms → W p l e R s₀ m args below meth cd H locs c s (MQ below (va_Qi Post (wo_B E) (en_A E)) args s₀ mc ms (en_A E)) (F0 m 91 ls [.int y0]) := by
  intro G c s y0 hw H locs ls hG hS hl hcc hss
  dsimp only [pq_Rd_judge_91] at hw
  have hx := hC.1
  have hb := hC.2.1
  exact wo_iret hC hG hS hcc hss hw dq_Rd_judge_91
set_option maxRecDepth 100000 in
set_option maxHeartbeats 4000000 in
theorem tq_Rd_judge_0 {p : Program} {l : Launch} {e : Env} {R : Room} {s₀ : State} {m : MethodId} {args : Array Value} {below : List Frame} {meth : Method} {cd : Code} {E : wo_E} {mc ms : Nat} {Post : Int32 → wo_W → Prop} (hC : wo_Cx E "EdgeCache$Reader" prog_5_method_5_code 2 9 212 ((Option.some Jvm.ClassFile.FieldType.int)) "judge" mc ms p R s₀ m args meth cd) : ∀ {G : wo_W} {c s : Nat} {x0 : Nat} {x1 : Option Nat}, pq_Rd_judge_0 E mc ms Post G c s x0 x1 → ∀ {H : Heap} {locs : List Loc} {ls : Array Slot}, wo_Se E G H → va_S (en_A E) s₀.heap H locs → lx_has ls 2 [(0, 1, .ref x0), (1, 1, va_rf x1)] → c ≤ mc → s ≤ ms → W p l e R s₀ m args below meth cd H locs c s (MQ below (va_Qi Post (wo_B E) (en_A E)) args s₀ mc ms (en_A E)) (F0 m 0 ls []) := by
  intro G c s x0 x1 hw H locs ls hG hS hl hcc hss
  dsimp only [pq_Rd_judge_0] at hw
  have hx := hC.1
  have hb := hC.2.1
  refine lv_aload_n hx hb dq_Rd_judge_0 rfl (lx_at hl 0 rfl) ?_
  obtain ⟨t1, hw⟩ := hw
  refine wo_getI hC fq_Rd_31 rfl hG t1 dq_Rd_judge_1 ?_
  by_cases h0 : (wo_gi G 452 x0) = (0 : Int32)
  · replace hw := hw.1 h0
    refine lv_tableIn (off := 32) (tgt := 36) hx hb dq_Rd_judge_4 (by rw [h0]; decide) (by rw [h0]; decide) (by rw [h0]; rfl) rfl ?_
    refine lx_aloadR_n hx hb dq_Rd_judge_36 rfl (lx_at hl 1 rfl) ?_
    obtain ⟨a2, rfl, hw⟩ := hw
    obtain ⟨t3, hw⟩ := hw
    obtain ⟨mc4, ms5, hc1, hs1, hw⟩ := hw
    refine va_calli (wo_runV hC lq_Rd_74 (mq_St_isEmpty hw) hG hS t3 rfl (lx_sz hl) rfl (Nat.zero_le _) (by decide) dq_Rd_judge_37 ⟨hc1, hs1⟩) hS (fun _ _ h => h) (fun _ h => h) (fun v7 G6 t H locs ht hvm hw' hB _ _ hS => ?_)
    clear hw
    have hw := hw'
    clear hw'
    replace hG := wo_bk ht hB
    replace hcc := hc1
    replace hss := hs1
    refine lv_if_eq (tgt := 47) hx hb dq_Rd_judge_40 rfl (fun h => ?_) (fun h => ?_)
    · replace hw := hw.1 h
      refine lv_aload_n hx hb dq_Rd_judge_47 rfl (lx_at hl 0 rfl) ?_
      refine lv_aload_n hx hb dq_Rd_judge_48 rfl (lx_at hl 1 rfl) ?_
      obtain ⟨t8, hw⟩ := hw
      obtain ⟨mc9, ms10, hc1, hs1, hw⟩ := hw
      refine va_calli (wo_runV hC lq_Rd_80 (mq_Rd_judgeRequestLine hw) hG hS t8 rfl (lx_sz hl) rfl (Nat.zero_le _) (by decide) dq_Rd_judge_49 ⟨hc1, hs1⟩) hS (fun _ _ h => h) (fun _ h => h) (fun v12 G11 t H locs ht hvm hw' hB _ _ hS => ?_)
      clear hw
      have hw := hw'
      clear hw'
      replace hG := wo_bk ht hB
      replace hcc := hc1
      replace hss := hs1
      exact tq_Rd_judge_52 hC hw hG hS (lx_sub hl [] rfl) hcc hss
    · replace hw := hw.2 h
      refine lv_iconst (v := (0 : Int32)) hx hb dq_Rd_judge_43 rfl ?_
      refine lv_goto (tgt := 52) hx hb dq_Rd_judge_44 rfl ?_
      exact tq_Rd_judge_52 hC hw hG hS (lx_sub hl [] rfl) hcc hss
  by_cases h1 : (wo_gi G 452 x0) = (1 : Int32)
  · replace hw := hw.2.1 h1
    refine lv_tableIn (off := 49) (tgt := 53) hx hb dq_Rd_judge_4 (by rw [h1]; decide) (by rw [h1]; decide) (by rw [h1]; rfl) rfl ?_
    refine lx_aloadR_n hx hb dq_Rd_judge_53 rfl (lx_at hl 1 rfl) ?_
    obtain ⟨a13, rfl, hw⟩ := hw
    obtain ⟨t14, hw⟩ := hw
    obtain ⟨mc15, ms16, hc1, hs1, hw⟩ := hw
    refine va_calli (wo_runV hC lq_Rd_74 (mq_St_isEmpty hw) hG hS t14 rfl (lx_sz hl) rfl (Nat.zero_le _) (by decide) dq_Rd_judge_54 ⟨hc1, hs1⟩) hS (fun _ _ h => h) (fun _ h => h) (fun v18 G17 t H locs ht hvm hw' hB _ _ hS => ?_)
    clear hw
    have hw := hw'
    clear hw'
    replace hG := wo_bk ht hB
    replace hcc := hc1
    replace hss := hs1
    refine lv_if_eq (tgt := 67) hx hb dq_Rd_judge_57 rfl (fun h => ?_) (fun h => ?_)
    · replace hw := hw.1 h
      refine lv_aload_n hx hb dq_Rd_judge_67 rfl (lx_at hl 0 rfl) ?_
      refine lv_aload_n hx hb dq_Rd_judge_68 rfl (lx_at hl 1 rfl) ?_
      obtain ⟨t19, hw⟩ := hw
      obtain ⟨mc20, ms21, hc1, hs1, hw⟩ := hw
      refine va_calli (wo_runV hC lq_Rd_86 (mq_Rd_judgeHeader hw) hG hS t19 rfl (lx_sz hl) rfl (Nat.zero_le _) (by decide) dq_Rd_judge_69 ⟨hc1, hs1⟩) hS (fun _ _ h => h) (fun _ h => h) (fun v23 G22 t H locs ht hvm hw' hB _ _ hS => ?_)
      clear hw
      have hw := hw'
      clear hw'
      replace hG := wo_bk ht hB
      replace hcc := hc1
      replace hss := hs1
      exact tq_Rd_judge_72 hC hw hG hS (lx_sub hl [] rfl) hcc hss
    · replace hw := hw.2 h
      refine lv_aload_n hx hb dq_Rd_judge_60 rfl (lx_at hl 0 rfl) ?_
      obtain ⟨t24, hw⟩ := hw
      obtain ⟨mc25, ms26, hc1, hs1, hw⟩ := hw
      refine va_calli (wo_runV hC lq_Rd_83 (mq_Rd_endHeaders hw) hG hS t24 rfl (lx_sz hl) rfl (Nat.zero_le _) (by decide) dq_Rd_judge_61 ⟨hc1, hs1⟩) hS (fun _ _ h => h) (fun _ h => h) (fun v28 G27 t H locs ht hvm hw' hB _ _ hS => ?_)
      clear hw
      have hw := hw'
      clear hw'
      replace hG := wo_bk ht hB
      replace hcc := hc1
      replace hss := hs1
      refine lv_goto (tgt := 72) hx hb dq_Rd_judge_64 rfl ?_
      exact tq_Rd_judge_72 hC hw hG hS (lx_sub hl [] rfl) hcc hss
  by_cases h2 : (wo_gi G 452 x0) = (2 : Int32)
  · replace hw := hw.2.2.1 h2
    refine lv_tableIn (off := 75) (tgt := 79) hx hb dq_Rd_judge_4 (by rw [h2]; decide) (by rw [h2]; decide) (by rw [h2]; rfl) rfl ?_
    refine lx_aloadR_n hx hb dq_Rd_judge_79 rfl (lx_at hl 1 rfl) ?_
    obtain ⟨a29, rfl, hw⟩ := hw
    obtain ⟨t30, hw⟩ := hw
    obtain ⟨mc31, ms32, hc1, hs1, hw⟩ := hw
    refine va_calli (wo_runV hC lq_Rd_74 (mq_St_isEmpty hw) hG hS t30 rfl (lx_sz hl) rfl (Nat.zero_le _) (by decide) dq_Rd_judge_80 ⟨hc1, hs1⟩) hS (fun _ _ h => h) (fun _ h => h) (fun v34 G33 t H locs ht hvm hw' hB _ _ hS => ?_)
    clear hw
    have hw := hw'
    clear hw'
    replace hG := wo_bk ht hB
    replace hcc := hc1
    replace hss := hs1
    refine lv_if_eq (tgt := 90) hx hb dq_Rd_judge_83 rfl (fun h => ?_) (fun h => ?_)
    · replace hw := hw.1 h
      refine lv_iconst (v := (0 : Int32)) hx hb dq_Rd_judge_90 rfl ?_
      exact tq_Rd_judge_91 hC hw hG hS (lx_sub hl [] rfl) hcc hss
    · replace hw := hw.2 h
      refine lv_iconst (v := (1 : Int32)) hx hb dq_Rd_judge_86 rfl ?_
      refine lv_goto (tgt := 91) hx hb dq_Rd_judge_87 rfl ?_
      exact tq_Rd_judge_91 hC hw hG hS (lx_sub hl [] rfl) hcc hss
  by_cases h3 : (wo_gi G 452 x0) = (3 : Int32)
  · replace hw := hw.2.2.2.1 h3
    refine lv_tableIn (off := 69) (tgt := 73) hx hb dq_Rd_judge_4 (by rw [h3]; decide) (by rw [h3]; decide) (by rw [h3]; rfl) rfl ?_
    refine lv_aload_n hx hb dq_Rd_judge_73 rfl (lx_at hl 0 rfl) ?_
    refine lx_aloadR_n hx hb dq_Rd_judge_74 rfl (lx_at hl 1 rfl) ?_
    obtain ⟨mc35, ms36, hc1, hs1, hw⟩ := hw
    refine va_calli (wo_runV hC lq_Rd_89 (mq_Rd_judgeChunk hw) hG hS t1 rfl (lx_sz hl) rfl (Nat.zero_le _) (by decide) dq_Rd_judge_75 ⟨hc1, hs1⟩) hS (fun _ _ h => h) (fun _ h => h) (fun v38 G37 t H locs ht hvm hw' hB _ _ hS => ?_)
    clear hw
    have hw := hw'
    clear hw'
    replace hG := wo_bk ht hB
    replace hcc := hc1
    replace hss := hs1
    exact wo_iret hC hG hS hcc hss hw dq_Rd_judge_78
  replace hw := hw.2.2.2.2 h0 h1 h2 h3
  have n0 : ¬ ((wo_gi G 452 x0)).toInt = 0 := fun q => h0 (Int32.toInt_inj.mp (q.trans (by decide)))
  have n1 : ¬ ((wo_gi G 452 x0)).toInt = 1 := fun q => h1 (Int32.toInt_inj.mp (q.trans (by decide)))
  have n2 : ¬ ((wo_gi G 452 x0)).toInt = 2 := fun q => h2 (Int32.toInt_inj.mp (q.trans (by decide)))
  have n3 : ¬ ((wo_gi G 452 x0)).toInt = 3 := fun q => h3 (Int32.toInt_inj.mp (q.trans (by decide)))
  refine lv_tableOut (tgt := 79) hx hb dq_Rd_judge_4 (by omega) rfl ?_
  refine lx_aloadR_n hx hb dq_Rd_judge_79 rfl (lx_at hl 1 rfl) ?_
  obtain ⟨a39, rfl, hw⟩ := hw
  obtain ⟨t40, hw⟩ := hw
  obtain ⟨mc41, ms42, hc1, hs1, hw⟩ := hw
  refine va_calli (wo_runV hC lq_Rd_74 (mq_St_isEmpty hw) hG hS t40 rfl (lx_sz hl) rfl (Nat.zero_le _) (by decide) dq_Rd_judge_80 ⟨hc1, hs1⟩) hS (fun _ _ h => h) (fun _ h => h) (fun v44 G43 t H locs ht hvm hw' hB _ _ hS => ?_)
  clear hw
  have hw := hw'
  clear hw'
  replace hG := wo_bk ht hB
  replace hcc := hc1
  replace hss := hs1
  refine lv_if_eq (tgt := 90) hx hb dq_Rd_judge_83 rfl (fun h => ?_) (fun h => ?_)
  · replace hw := hw.1 h
    refine lv_iconst (v := (0 : Int32)) hx hb dq_Rd_judge_90 rfl ?_
    exact tq_Rd_judge_91 hC hw hG hS (lx_sub hl [] rfl) hcc hss
  · replace hw := hw.2 h
    refine lv_iconst (v := (1 : Int32)) hx hb dq_Rd_judge_86 rfl ?_
    refine lv_goto (tgt := 91) hx hb dq_Rd_judge_87 rfl ?_
    exact tq_Rd_judge_91 hC hw hG hS (lx_sub hl [] rfl) hcc hss
set_option maxHeartbeats 4000000 in
theorem mq_Rd_judge {l : Launch} {E : wo_E} {mc ms : Nat} {Post : Int32 → wo_W → Prop} {G : wo_W} {x0 : Nat} {x1 : Option Nat} (hw : pq_Rd_judge E mc ms Post G x0 x1) : Met l yq_Rd_judge (Cond.code yq_Rd_judge prog_5_method_5_code 2 ((Option.some Jvm.ClassFile.FieldType.int)) :: vw_WG) { frames := 9, cells := mc, slots := ms, locals := 212 } (va_Pc [.ref x0, va_rf x1] (wo_Ok E G)) (va_Qi Post (wo_B E) (en_A E)) mc ms (en_A E) := by
  unfold pq_Rd_judge at hw
  exact wo_met [(1, .ref x0), (1, va_rf x1)] rfl (by decide) (fun q hq => by simp only [List.mem_cons, List.not_mem_nil, or_false] at hq; rcases hq with rfl | rfl <;> first | rfl | exact lx_cR _) (Nat.le_of_ble_eq_true rfl) (fun p e R s m args below meth cd ls hC hG hS hl => tq_Rd_judge_0 hC hw hG hS (lx_sub hl [0, 1] rfl) (Nat.zero_le _) (Nat.zero_le _))

theorem dq_Rd_takeBody_0 : decode prog_5_method_4_code 0 = .ok (.aload_n 0, 1) := by decide +kernel
theorem dq_Rd_takeBody_1 : decode prog_5_method_4_code 1 = .ok (.getfield 18, 3) := by decide +kernel
theorem dq_Rd_takeBody_4 : decode prog_5_method_4_code 4 = .ok (.iload_n 1, 1) := by decide +kernel
theorem dq_Rd_takeBody_5 : decode prog_5_method_4_code 5 = .ok (.i2c, 1) := by decide +kernel
theorem dq_Rd_takeBody_6 : decode prog_5_method_4_code 6 = .ok (.invokevirtual 57, 3) := by decide +kernel
theorem dq_Rd_takeBody_9 : decode prog_5_method_4_code 9 = .ok (.pop, 1) := by decide +kernel
theorem dq_Rd_takeBody_10 : decode prog_5_method_4_code 10 = .ok (.aload_n 0, 1) := by decide +kernel
theorem dq_Rd_takeBody_11 : decode prog_5_method_4_code 11 = .ok (.dup, 1) := by decide +kernel
theorem dq_Rd_takeBody_12 : decode prog_5_method_4_code 12 = .ok (.getfield 71, 3) := by decide +kernel
theorem dq_Rd_takeBody_15 : decode prog_5_method_4_code 15 = .ok (.iconst 1, 1) := by decide +kernel
theorem dq_Rd_takeBody_16 : decode prog_5_method_4_code 16 = .ok (.isub, 1) := by decide +kernel
theorem dq_Rd_takeBody_17 : decode prog_5_method_4_code 17 = .ok (.putfield 71, 3) := by decide +kernel
theorem dq_Rd_takeBody_20 : decode prog_5_method_4_code 20 = .ok (.aload_n 0, 1) := by decide +kernel
theorem dq_Rd_takeBody_21 : decode prog_5_method_4_code 21 = .ok (.getfield 71, 3) := by decide +kernel
theorem dq_Rd_takeBody_24 : decode prog_5_method_4_code 24 = .ok (.ifCond .le 5, 3) := by decide +kernel
theorem dq_Rd_takeBody_27 : decode prog_5_method_4_code 27 = .ok (.iconst 0, 1) := by decide +kernel
theorem dq_Rd_takeBody_28 : decode prog_5_method_4_code 28 = .ok (.ireturn, 1) := by decide +kernel
theorem dq_Rd_takeBody_29 : decode prog_5_method_4_code 29 = .ok (.aload_n 0, 1) := by decide +kernel
theorem dq_Rd_takeBody_30 : decode prog_5_method_4_code 30 = .ok (.getfield 31, 3) := by decide +kernel
theorem dq_Rd_takeBody_33 : decode prog_5_method_4_code 33 = .ok (.iconst 2, 1) := by decide +kernel
theorem dq_Rd_takeBody_34 : decode prog_5_method_4_code 34 = .ok (.if_icmp .ne 5, 3) := by decide +kernel
theorem dq_Rd_takeBody_37 : decode prog_5_method_4_code 37 = .ok (.iconst 1, 1) := by decide +kernel
theorem dq_Rd_takeBody_38 : decode prog_5_method_4_code 38 = .ok (.ireturn, 1) := by decide +kernel
theorem dq_Rd_takeBody_39 : decode prog_5_method_4_code 39 = .ok (.aload_n 0, 1) := by decide +kernel
theorem dq_Rd_takeBody_40 : decode prog_5_method_4_code 40 = .ok (.iconst 5, 1) := by decide +kernel
theorem dq_Rd_takeBody_41 : decode prog_5_method_4_code 41 = .ok (.putfield 31, 3) := by decide +kernel
theorem dq_Rd_takeBody_44 : decode prog_5_method_4_code 44 = .ok (.iconst 0, 1) := by decide +kernel
theorem dq_Rd_takeBody_45 : decode prog_5_method_4_code 45 = .ok (.ireturn, 1) := by decide +kernel
set_option maxRecDepth 100000 in
def pq_Rd_takeBody_0 (E : wo_E) (mc ms : Nat) (Post : Int32 → wo_W → Prop) (G : wo_W) (c s : Nat) (x0 : Nat) (x1 : Int32) : Prop := wo_ty G x0 = 8 ∧ ∀ r2 : Option Nat, r2 = wo_gr G 449 x0 → ∃ a4 : Nat, r2 = some a4 ∧ wo_ty G a4 = 5 ∧ ∃ mc6 ms7 : Nat, (c + mc6) ≤ mc ∧ (s + ms7) ≤ ms ∧ pq_SB_append_C E mc6 ms7 (fun v9 G8 => 
  wo_ty G8 x0 = 8 ∧ en_bs E ≤ x0 ∧ ∀ G12 : wo_W, G12 = wo_si G8 456 x0 ((wo_gi G8 456 x0) - (1 : Int32)) → 
    (((wo_gi G12 456 x0) ≤ (0 : Int32) → ((¬ (wo_gi G12 452 x0) = (2 : Int32) → en_bs E ≤ x0 ∧ ∀ G15 : wo_W, G15 = wo_si G12 452 x0 (5 : Int32) → 
        Post (0 : Int32) G15) ∧
      ((wo_gi G12 452 x0) = (2 : Int32) → Post (1 : Int32) G12))) ∧
    (¬ (wo_gi G12 456 x0) ≤ (0 : Int32) → Post (0 : Int32) G12))) G a4 (wo_i2c x1)
def pq_Rd_takeBody (E : wo_E) (mc ms : Nat) (Post : Int32 → wo_W → Prop) (G : wo_W) (x0 : Nat) (x1 : Int32) : Prop := pq_Rd_takeBody_0 E mc ms Post G 0 0 x0 x1
set_option maxRecDepth 100000 in
set_option maxHeartbeats 4000000 in
theorem tq_Rd_takeBody_0 {p : Program} {l : Launch} {e : Env} {R : Room} {s₀ : State} {m : MethodId} {args : Array Value} {below : List Frame} {meth : Method} {cd : Code} {E : wo_E} {mc ms : Nat} {Post : Int32 → wo_W → Prop} (hC : wo_Cx E "EdgeCache$Reader" prog_5_method_4_code 2 6 140 ((Option.some Jvm.ClassFile.FieldType.int)) "takeBody" mc ms p R s₀ m args meth cd) : ∀ {G : wo_W} {c s : Nat} {x0 : Nat} {x1 : Int32}, pq_Rd_takeBody_0 E mc ms Post G c s x0 x1 → ∀ {H : Heap} {locs : List Loc} {ls : Array Slot}, wo_Se E G H → va_S (en_A E) s₀.heap H locs → lx_has ls 2 [(0, 1, .ref x0), (1, 1, .int x1)] → c ≤ mc → s ≤ ms → W p l e R s₀ m args below meth cd H locs c s (MQ below (va_Qi Post (wo_B E) (en_A E)) args s₀ mc ms (en_A E)) (F0 m 0 ls []) := by
  intro G c s x0 x1 hw H locs ls hG hS hl hcc hss
  dsimp only [pq_Rd_takeBody_0] at hw
  have hx := hC.1
  have hb := hC.2.1
  refine lv_aload_n hx hb dq_Rd_takeBody_0 rfl (lx_at hl 0 rfl) ?_
  obtain ⟨t1, hw⟩ := hw
  refine wo_getR hC fq_Rd_18 rfl hG t1 dq_Rd_takeBody_1 (fun r2 e3 => ?_)
  replace hw := hw r2 e3
  refine lv_iload_n hx hb dq_Rd_takeBody_4 rfl (lx_at hl 1 rfl) ?_
  refine lv_i2c (v := (wo_i2c x1)) hx hb dq_Rd_takeBody_5 rfl ?_
  obtain ⟨a4, rfl, hw⟩ := hw
  obtain ⟨t5, hw⟩ := hw
  obtain ⟨mc6, ms7, hc1, hs1, hw⟩ := hw
  refine va_callq (wo_runV hC lq_Rd_57 (mq_SB_append_C hw) hG hS t5 rfl (lx_sz hl) rfl (Nat.zero_le _) (by decide) dq_Rd_takeBody_6 ⟨hc1, hs1⟩) hS (fun _ _ h => h) (fun _ h => h) (fun v9 G8 t H locs ht hvm hw' hB _ _ hS => ?_)
  clear hw
  have hw := hw'
  clear hw'
  replace hG := wo_bk ht hB
  replace hcc := hc1
  replace hss := hs1
  refine lv_pop hx hb dq_Rd_takeBody_9 (lx_cR _) ?_
  refine lv_aload_n hx hb dq_Rd_takeBody_10 rfl (lx_at hl 0 rfl) ?_
  refine lv_dup hx hb dq_Rd_takeBody_11 rfl ?_
  obtain ⟨t10, hw⟩ := hw
  refine wo_getI hC fq_Rd_71 rfl hG t10 dq_Rd_takeBody_12 ?_
  refine lv_iconst (v := (1 : Int32)) hx hb dq_Rd_takeBody_15 rfl ?_
  refine lv_isub hx hb dq_Rd_takeBody_16 ?_
  obtain ⟨h11, hw⟩ := hw
  refine wo_putI hC fq_Rd_71 (Or.inl rfl) rfl (wo_ok_int _) hG hS t10 h11 dq_Rd_takeBody_17 (fun G12 H locs e13 hG hS => ?_)
  replace hw := hw G12 e13
  refine lv_aload_n hx hb dq_Rd_takeBody_20 rfl (lx_at hl 0 rfl) ?_
  refine wo_getI hC fq_Rd_71 rfl hG (ty_si e13 t10) dq_Rd_takeBody_21 ?_
  refine lv_if_le (tgt := 29) hx hb dq_Rd_takeBody_24 rfl (fun h => ?_) (fun h => ?_)
  · replace hw := hw.1 h
    refine lv_aload_n hx hb dq_Rd_takeBody_29 rfl (lx_at hl 0 rfl) ?_
    refine wo_getI hC fq_Rd_31 rfl hG (ty_si e13 t10) dq_Rd_takeBody_30 ?_
    refine lv_iconst (v := (2 : Int32)) hx hb dq_Rd_takeBody_33 rfl ?_
    refine lv_icmp_ne (tgt := 39) hx hb dq_Rd_takeBody_34 rfl (fun h => ?_) (fun h => ?_)
    · replace hw := hw.1 h
      refine lv_aload_n hx hb dq_Rd_takeBody_39 rfl (lx_at hl 0 rfl) ?_
      refine lv_iconst (v := (5 : Int32)) hx hb dq_Rd_takeBody_40 rfl ?_
      obtain ⟨h14, hw⟩ := hw
      refine wo_putI hC fq_Rd_31 (Or.inl rfl) rfl (wo_ok_int _) hG hS (ty_si e13 t10) h14 dq_Rd_takeBody_41 (fun G15 H locs e16 hG hS => ?_)
      replace hw := hw G15 e16
      refine lv_iconst (v := (0 : Int32)) hx hb dq_Rd_takeBody_44 rfl ?_
      exact wo_iret hC hG hS hcc hss hw dq_Rd_takeBody_45
    · replace hw := hw.2 h
      refine lv_iconst (v := (1 : Int32)) hx hb dq_Rd_takeBody_37 rfl ?_
      exact wo_iret hC hG hS hcc hss hw dq_Rd_takeBody_38
  · replace hw := hw.2 h
    refine lv_iconst (v := (0 : Int32)) hx hb dq_Rd_takeBody_27 rfl ?_
    exact wo_iret hC hG hS hcc hss hw dq_Rd_takeBody_28
set_option maxHeartbeats 4000000 in
theorem mq_Rd_takeBody {l : Launch} {E : wo_E} {mc ms : Nat} {Post : Int32 → wo_W → Prop} {G : wo_W} {x0 : Nat} {x1 : Int32} (hw : pq_Rd_takeBody E mc ms Post G x0 x1) : Met l yq_Rd_takeBody (Cond.code yq_Rd_takeBody prog_5_method_4_code 2 ((Option.some Jvm.ClassFile.FieldType.int)) :: vw_WG) { frames := 6, cells := mc, slots := ms, locals := 140 } (va_Pc [.ref x0, .int x1] (wo_Ok E G)) (va_Qi Post (wo_B E) (en_A E)) mc ms (en_A E) := by
  unfold pq_Rd_takeBody at hw
  exact wo_met [(1, .ref x0), (1, .int x1)] rfl (by decide) (fun q hq => by simp only [List.mem_cons, List.not_mem_nil, or_false] at hq; rcases hq with rfl | rfl <;> first | rfl | exact lx_cR _) (Nat.le_of_ble_eq_true rfl) (fun p e R s m args below meth cd ls hC hG hS hl => tq_Rd_takeBody_0 hC hw hG hS (lx_sub hl [0, 1] rfl) (Nat.zero_le _) (Nat.zero_le _))

theorem dq_Rd_take_0 : decode prog_5_method_2_code 0 = .ok (.aload_n 0, 1) := by decide +kernel
theorem dq_Rd_take_1 : decode prog_5_method_2_code 1 = .ok (.getfield 31, 3) := by decide +kernel
theorem dq_Rd_take_4 : decode prog_5_method_2_code 4 = .ok (.iconst 2, 1) := by decide +kernel
theorem dq_Rd_take_5 : decode prog_5_method_2_code 5 = .ok (.if_icmp .eq 11, 3) := by decide +kernel
theorem dq_Rd_take_8 : decode prog_5_method_2_code 8 = .ok (.aload_n 0, 1) := by decide +kernel
theorem dq_Rd_take_9 : decode prog_5_method_2_code 9 = .ok (.getfield 31, 3) := by decide +kernel
theorem dq_Rd_take_12 : decode prog_5_method_2_code 12 = .ok (.iconst 4, 1) := by decide +kernel
theorem dq_Rd_take_13 : decode prog_5_method_2_code 13 = .ok (.if_icmp .ne 9, 3) := by decide +kernel
theorem dq_Rd_take_16 : decode prog_5_method_2_code 16 = .ok (.aload_n 0, 1) := by decide +kernel
theorem dq_Rd_take_17 : decode prog_5_method_2_code 17 = .ok (.iload_n 1, 1) := by decide +kernel
theorem dq_Rd_take_18 : decode prog_5_method_2_code 18 = .ok (.invokevirtual 38, 3) := by decide +kernel
theorem dq_Rd_take_21 : decode prog_5_method_2_code 21 = .ok (.ireturn, 1) := by decide +kernel
theorem dq_Rd_take_22 : decode prog_5_method_2_code 22 = .ok (.aload_n 0, 1) := by decide +kernel
theorem dq_Rd_take_23 : decode prog_5_method_2_code 23 = .ok (.getfield 31, 3) := by decide +kernel
theorem dq_Rd_take_26 : decode prog_5_method_2_code 26 = .ok (.iconst 5, 1) := by decide +kernel
theorem dq_Rd_take_27 : decode prog_5_method_2_code 27 = .ok (.if_icmp .ne 22, 3) := by decide +kernel
theorem dq_Rd_take_30 : decode prog_5_method_2_code 30 = .ok (.aload_n 0, 1) := by decide +kernel
theorem dq_Rd_take_31 : decode prog_5_method_2_code 31 = .ok (.iconst 3, 1) := by decide +kernel
theorem dq_Rd_take_32 : decode prog_5_method_2_code 32 = .ok (.putfield 31, 3) := by decide +kernel
theorem dq_Rd_take_35 : decode prog_5_method_2_code 35 = .ok (.iload_n 1, 1) := by decide +kernel
theorem dq_Rd_take_36 : decode prog_5_method_2_code 36 = .ok (.bipush 10, 2) := by decide +kernel
theorem dq_Rd_take_38 : decode prog_5_method_2_code 38 = .ok (.if_icmp .ne 7, 3) := by decide +kernel
theorem dq_Rd_take_41 : decode prog_5_method_2_code 41 = .ok (.iconst 0, 1) := by decide +kernel
theorem dq_Rd_take_42 : decode prog_5_method_2_code 42 = .ok (.goto 6, 3) := by decide +kernel
theorem dq_Rd_take_45 : decode prog_5_method_2_code 45 = .ok (.sipush 400, 3) := by decide +kernel
theorem dq_Rd_take_48 : decode prog_5_method_2_code 48 = .ok (.ireturn, 1) := by decide +kernel
theorem dq_Rd_take_49 : decode prog_5_method_2_code 49 = .ok (.iload_n 1, 1) := by decide +kernel
theorem dq_Rd_take_50 : decode prog_5_method_2_code 50 = .ok (.bipush 10, 2) := by decide +kernel
theorem dq_Rd_take_52 : decode prog_5_method_2_code 52 = .ok (.if_icmp .ne 25, 3) := by decide +kernel
theorem dq_Rd_take_55 : decode prog_5_method_2_code 55 = .ok (.aload_n 0, 1) := by decide +kernel
theorem dq_Rd_take_56 : decode prog_5_method_2_code 56 = .ok (.getfield 12, 3) := by decide +kernel
theorem dq_Rd_take_59 : decode prog_5_method_2_code 59 = .ok (.invokevirtual 42, 3) := by decide +kernel
theorem dq_Rd_take_62 : decode prog_5_method_2_code 62 = .ok (.astore_n 2, 1) := by decide +kernel
theorem dq_Rd_take_63 : decode prog_5_method_2_code 63 = .ok (.aload_n 0, 1) := by decide +kernel
theorem dq_Rd_take_64 : decode prog_5_method_2_code 64 = .ok (.getfield 12, 3) := by decide +kernel
theorem dq_Rd_take_67 : decode prog_5_method_2_code 67 = .ok (.iconst 0, 1) := by decide +kernel
theorem dq_Rd_take_68 : decode prog_5_method_2_code 68 = .ok (.invokevirtual 46, 3) := by decide +kernel
theorem dq_Rd_take_71 : decode prog_5_method_2_code 71 = .ok (.aload_n 0, 1) := by decide +kernel
theorem dq_Rd_take_72 : decode prog_5_method_2_code 72 = .ok (.aload_n 2, 1) := by decide +kernel
theorem dq_Rd_take_73 : decode prog_5_method_2_code 73 = .ok (.invokevirtual 50, 3) := by decide +kernel
theorem dq_Rd_take_76 : decode prog_5_method_2_code 76 = .ok (.ireturn, 1) := by decide +kernel
theorem dq_Rd_take_77 : decode prog_5_method_2_code 77 = .ok (.aload_n 0, 1) := by decide +kernel
theorem dq_Rd_take_78 : decode prog_5_method_2_code 78 = .ok (.getfield 12, 3) := by decide +kernel
theorem dq_Rd_take_81 : decode prog_5_method_2_code 81 = .ok (.invokevirtual 54, 3) := by decide +kernel
theorem dq_Rd_take_84 : decode prog_5_method_2_code 84 = .ok (.bipush 20, 2) := by decide +kernel
theorem dq_Rd_take_86 : decode prog_5_method_2_code 86 = .ok (.if_icmp .lt 7, 3) := by decide +kernel
theorem dq_Rd_take_89 : decode prog_5_method_2_code 89 = .ok (.sipush 431, 3) := by decide +kernel
theorem dq_Rd_take_92 : decode prog_5_method_2_code 92 = .ok (.ireturn, 1) := by decide +kernel
theorem dq_Rd_take_93 : decode prog_5_method_2_code 93 = .ok (.aload_n 0, 1) := by decide +kernel
theorem dq_Rd_take_94 : decode prog_5_method_2_code 94 = .ok (.getfield 12, 3) := by decide +kernel
theorem dq_Rd_take_97 : decode prog_5_method_2_code 97 = .ok (.iload_n 1, 1) := by decide +kernel
theorem dq_Rd_take_98 : decode prog_5_method_2_code 98 = .ok (.i2c, 1) := by decide +kernel
theorem dq_Rd_take_99 : decode prog_5_method_2_code 99 = .ok (.invokevirtual 57, 3) := by decide +kernel
theorem dq_Rd_take_102 : decode prog_5_method_2_code 102 = .ok (.pop, 1) := by decide +kernel
theorem dq_Rd_take_103 : decode prog_5_method_2_code 103 = .ok (.iconst 0, 1) := by decide +kernel
theorem dq_Rd_take_104 : decode prog_5_method_2_code 104 = .ok (.ireturn, 1) := by decide +kernel
set_option maxRecDepth 100000 in
def pq_Rd_take_16 (E : wo_E) (mc ms : Nat) (Post : Int32 → wo_W → Prop) (G : wo_W) (c s : Nat) (x0 : Nat) (x1 : Int32) : Prop := wo_ty G x0 = 8 ∧ ∃ mc2 ms3 : Nat, (c + mc2) ≤ mc ∧ (s + ms3) ≤ ms ∧ pq_Rd_takeBody E mc2 ms3 (fun v5 G4 => 
  Post v5 G4) G x0 x1
set_option maxRecDepth 100000 in
def pq_Rd_take_48 (E : wo_E) (mc ms : Nat) (Post : Int32 → wo_W → Prop) (G : wo_W) (c s : Nat) (y0 : Int32) : Prop := Post y0 G
set_option maxRecDepth 100000 in
def pq_Rd_take_0 (E : wo_E) (mc ms : Nat) (Post : Int32 → wo_W → Prop) (G : wo_W) (c s : Nat) (x0 : Nat) (x1 : Int32) : Prop := wo_ty G x0 = 8 ∧ (((wo_gi G 452 x0) = (2 : Int32) → pq_Rd_take_16 E mc ms Post G c s x0 x1) ∧
  (¬ (wo_gi G 452 x0) = (2 : Int32) → ((¬ (wo_gi G 452 x0) = (4 : Int32) → ((¬ (wo_gi G 452 x0) = (5 : Int32) → ((¬ x1 = (10 : Int32) → ∀ r2 : Option Nat, r2 = wo_gr G 448 x0 → ∃ a4 : Nat, r2 = some a4 ∧ wo_ty G a4 = 5 ∧ ∃ mc6 ms7 : Nat, (c + mc6) ≤ mc ∧ (s + ms7) ≤ ms ∧ pq_SB_length E mc6 ms7 (fun v9 G8 => 
          ((v9 < (20 : Int32) → wo_ty G8 x0 = 8 ∧ ∀ r11 : Option Nat, r11 = wo_gr G8 448 x0 → ∃ a13 : Nat, r11 = some a13 ∧ wo_ty G8 a13 = 5 ∧ ∃ mc15 ms16 : Nat, ((c + mc6) + mc15) ≤ mc ∧ ((s + ms7) + ms16) ≤ ms ∧ pq_SB_append_C E mc15 ms16 (fun v18 G17 => 
              Post (0 : Int32) G17) G8 a13 (wo_i2c x1)) ∧
            (¬ v9 < (20 : Int32) → Post (431 : Int32) G8))) G a4) ∧
        (x1 = (10 : Int32) → ∀ r19 : Option Nat, r19 = wo_gr G 448 x0 → ∃ a21 : Nat, r19 = some a21 ∧ wo_ty G a21 = 5 ∧ ∃ mc23 ms24 : Nat, (c + mc23) ≤ mc ∧ (s + ms24) ≤ ms ∧ pq_SB_toString E mc23 ms24 (fun v26 G25 => 
          wo_ty G25 x0 = 8 ∧ ∀ r28 : Option Nat, r28 = wo_gr G25 448 x0 → ∃ a30 : Nat, r28 = some a30 ∧ wo_ty G25 a30 = 5 ∧ ∃ mc32 ms33 : Nat, ((c + mc23) + mc32) ≤ mc ∧ ((s + ms24) + ms33) ≤ ms ∧ pq_SB_setLength E mc32 ms33 (fun G34 => 
            wo_ty G34 x0 = 8 ∧ ∃ mc36 ms37 : Nat, (((c + mc23) + mc32) + mc36) ≤ mc ∧ (((s + ms24) + ms33) + ms37) ≤ ms ∧ pq_Rd_judge E mc36 ms37 (fun v39 G38 => 
              Post v39 G38) G34 x0 v26) G25 a30 (0 : Int32)) G a21))) ∧
      ((wo_gi G 452 x0) = (5 : Int32) → en_bs E ≤ x0 ∧ ∀ G41 : wo_W, G41 = wo_si G 452 x0 (3 : Int32) → 
        ((¬ x1 = (10 : Int32) → pq_Rd_take_48 E mc ms Post G41 c s (400 : Int32)) ∧
        (x1 = (10 : Int32) → pq_Rd_take_48 E mc ms Post G41 c s (0 : Int32)))))) ∧
    ((wo_gi G 452 x0) = (4 : Int32) → pq_Rd_take_16 E mc ms Post G c s x0 x1))))
def pq_Rd_take (E : wo_E) (mc ms : Nat) (Post : Int32 → wo_W → Prop) (G : wo_W) (x0 : Nat) (x1 : Int32) : Prop := pq_Rd_take_0 E mc ms Post G 0 0 x0 x1
set_option maxRecDepth 100000 in
set_option maxHeartbeats 4000000 in
theorem tq_Rd_take_16 {p : Program} {l : Launch} {e : Env} {R : Room} {s₀ : State} {m : MethodId} {args : Array Value} {below : List Frame} {meth : Method} {cd : Code} {E : wo_E} {mc ms : Nat} {Post : Int32 → wo_W → Prop} (hC : wo_Cx E "EdgeCache$Reader" prog_5_method_2_code 3 10 233 ((Option.some Jvm.ClassFile.FieldType.int)) "take" mc ms p R s₀ m args meth cd) : ∀ {G : wo_W} {c s : Nat} {x0 : Nat} {x1 : Int32}, pq_Rd_take_16 E mc ms Post G c s x0 x1 → ∀ {H : Heap} {locs : List Loc} {ls : Array Slot}, wo_Se E G H → va_S (en_A E) s₀.heap H locs → lx_has ls 3 [(0, 1, .ref x0), (1, 1, .int x1)] → c ≤ mc → s ≤ ms → W p l e R s₀ m args below meth cd H locs c s (MQ below (va_Qi Post (wo_B E) (en_A E)) args s₀ mc ms (en_A E)) (F0 m 16 ls []) := by
  intro G c s x0 x1 hw H locs ls hG hS hl hcc hss
  dsimp only [pq_Rd_take_16] at hw
  have hx := hC.1
  have hb := hC.2.1
  refine lv_aload_n hx hb dq_Rd_take_16 rfl (lx_at hl 0 rfl) ?_
  refine lv_iload_n hx hb dq_Rd_take_17 rfl (lx_at hl 1 rfl) ?_
  obtain ⟨t1, hw⟩ := hw
  obtain ⟨mc2, ms3, hc1, hs1, hw⟩ := hw
  refine va_calli (wo_runV hC lq_Rd_38 (mq_Rd_takeBody hw) hG hS t1 rfl (lx_sz hl) rfl (Nat.zero_le _) (by decide) dq_Rd_take_18 ⟨hc1, hs1⟩) hS (fun _ _ h => h) (fun _ h => h) (fun v5 G4 t H locs ht hvm hw' hB _ _ hS => ?_)
  clear hw
  have hw := hw'
  clear hw'
  replace hG := wo_bk ht hB
  replace hcc := hc1
  replace hss := hs1
  exact wo_iret hC hG hS hcc hss hw dq_Rd_take_21
set_option maxRecDepth 100000 in
set_option maxHeartbeats 4000000 in
theorem tq_Rd_take_48 {p : Program} {l : Launch} {e : Env} {R : Room} {s₀ : State} {m : MethodId} {args : Array Value} {below : List Frame} {meth : Method} {cd : Code} {E : wo_E} {mc ms : Nat} {Post : Int32 → wo_W → Prop} (hC : wo_Cx E "EdgeCache$Reader" prog_5_method_2_code 3 10 233 ((Option.some Jvm.ClassFile.FieldType.int)) "take" mc ms p R s₀ m args meth cd) : ∀ {G : wo_W} {c s : Nat} {y0 : Int32}, pq_Rd_take_48 E mc ms Post G c s y0 → ∀ {H : Heap} {locs : List Loc} {ls : Array Slot}, wo_Se E G H → va_S (en_A E) s₀.heap H locs → lx_has ls 3 [] → c ≤ mc → s ≤ ms → W p l e R s₀ m args below meth cd H locs c s (MQ below (va_Qi Post (wo_B E) (en_A E)) args s₀ mc ms (en_A E)) (F0 m 48 ls [.int y0]) := by
  intro G c s y0 hw H locs ls hG hS hl hcc hss
  dsimp only [pq_Rd_take_48] at hw
  have hx := hC.1
  have hb := hC.2.1
  exact wo_iret hC hG hS hcc hss hw dq_Rd_take_48
set_option maxRecDepth 100000 in
set_option maxHeartbeats 4000000 in
theorem tq_Rd_take_0 {p : Program} {l : Launch} {e : Env} {R : Room} {s₀ : State} {m : MethodId} {args : Array Value} {below : List Frame} {meth : Method} {cd : Code} {E : wo_E} {mc ms : Nat} {Post : Int32 → wo_W → Prop} (hC : wo_Cx E "EdgeCache$Reader" prog_5_method_2_code 3 10 233 ((Option.some Jvm.ClassFile.FieldType.int)) "take" mc ms p R s₀ m args meth cd) : ∀ {G : wo_W} {c s : Nat} {x0 : Nat} {x1 : Int32}, pq_Rd_take_0 E mc ms Post G c s x0 x1 → ∀ {H : Heap} {locs : List Loc} {ls : Array Slot}, wo_Se E G H → va_S (en_A E) s₀.heap H locs → lx_has ls 3 [(0, 1, .ref x0), (1, 1, .int x1)] → c ≤ mc → s ≤ ms → W p l e R s₀ m args below meth cd H locs c s (MQ below (va_Qi Post (wo_B E) (en_A E)) args s₀ mc ms (en_A E)) (F0 m 0 ls []) := by
  intro G c s x0 x1 hw H locs ls hG hS hl hcc hss
  dsimp only [pq_Rd_take_0] at hw
  have hx := hC.1
  have hb := hC.2.1
  refine lv_aload_n hx hb dq_Rd_take_0 rfl (lx_at hl 0 rfl) ?_
  obtain ⟨t1, hw⟩ := hw
  refine wo_getI hC fq_Rd_31 rfl hG t1 dq_Rd_take_1 ?_
  refine lv_iconst (v := (2 : Int32)) hx hb dq_Rd_take_4 rfl ?_
  refine lv_icmp_eq (tgt := 16) hx hb dq_Rd_take_5 rfl (fun h => ?_) (fun h => ?_)
  · replace hw := hw.1 h
    exact tq_Rd_take_16 hC hw hG hS (lx_sub hl [0, 1] rfl) hcc hss
  · replace hw := hw.2 h
    refine lv_aload_n hx hb dq_Rd_take_8 rfl (lx_at hl 0 rfl) ?_
    refine wo_getI hC fq_Rd_31 rfl hG t1 dq_Rd_take_9 ?_
    refine lv_iconst (v := (4 : Int32)) hx hb dq_Rd_take_12 rfl ?_
    refine lv_icmp_ne (tgt := 22) hx hb dq_Rd_take_13 rfl (fun h => ?_) (fun h => ?_)
    · replace hw := hw.1 h
      refine lv_aload_n hx hb dq_Rd_take_22 rfl (lx_at hl 0 rfl) ?_
      refine wo_getI hC fq_Rd_31 rfl hG t1 dq_Rd_take_23 ?_
      refine lv_iconst (v := (5 : Int32)) hx hb dq_Rd_take_26 rfl ?_
      refine lv_icmp_ne (tgt := 49) hx hb dq_Rd_take_27 rfl (fun h => ?_) (fun h => ?_)
      · replace hw := hw.1 h
        refine lv_iload_n hx hb dq_Rd_take_49 rfl (lx_at hl 1 rfl) ?_
        refine lv_bipush (v := (10 : Int32)) hx hb dq_Rd_take_50 rfl ?_
        refine lv_icmp_ne (tgt := 77) hx hb dq_Rd_take_52 rfl (fun h => ?_) (fun h => ?_)
        · replace hw := hw.1 h
          refine lv_aload_n hx hb dq_Rd_take_77 rfl (lx_at hl 0 rfl) ?_
          refine wo_getR hC fq_Rd_12 rfl hG t1 dq_Rd_take_78 (fun r2 e3 => ?_)
          replace hw := hw r2 e3
          obtain ⟨a4, rfl, hw⟩ := hw
          obtain ⟨t5, hw⟩ := hw
          obtain ⟨mc6, ms7, hc1, hs1, hw⟩ := hw
          refine va_calli (wo_runV hC lq_Rd_54 (mq_SB_length hw) hG hS t5 rfl (lx_sz hl) rfl (Nat.zero_le _) (by decide) dq_Rd_take_81 ⟨hc1, hs1⟩) hS (fun _ _ h => h) (fun _ h => h) (fun v9 G8 t H locs ht hvm hw' hB _ _ hS => ?_)
          clear hw
          have hw := hw'
          clear hw'
          replace hG := wo_bk ht hB
          replace hcc := hc1
          replace hss := hs1
          refine lv_bipush (v := (20 : Int32)) hx hb dq_Rd_take_84 rfl ?_
          refine lv_icmp_lt (tgt := 93) hx hb dq_Rd_take_86 rfl (fun h => ?_) (fun h => ?_)
          · replace hw := hw.1 h
            refine lv_aload_n hx hb dq_Rd_take_93 rfl (lx_at hl 0 rfl) ?_
            obtain ⟨t10, hw⟩ := hw
            refine wo_getR hC fq_Rd_12 rfl hG t10 dq_Rd_take_94 (fun r11 e12 => ?_)
            replace hw := hw r11 e12
            refine lv_iload_n hx hb dq_Rd_take_97 rfl (lx_at hl 1 rfl) ?_
            refine lv_i2c (v := (wo_i2c x1)) hx hb dq_Rd_take_98 rfl ?_
            obtain ⟨a13, rfl, hw⟩ := hw
            obtain ⟨t14, hw⟩ := hw
            obtain ⟨mc15, ms16, hc1, hs1, hw⟩ := hw
            refine va_callq (wo_runV hC lq_Rd_57 (mq_SB_append_C hw) hG hS t14 rfl (lx_sz hl) rfl (Nat.zero_le _) (by decide) dq_Rd_take_99 ⟨hc1, hs1⟩) hS (fun _ _ h => h) (fun _ h => h) (fun v18 G17 t H locs ht hvm hw' hB _ _ hS => ?_)
            clear hw
            have hw := hw'
            clear hw'
            replace hG := wo_bk ht hB
            replace hcc := hc1
            replace hss := hs1
            refine lv_pop hx hb dq_Rd_take_102 (lx_cR _) ?_
            refine lv_iconst (v := (0 : Int32)) hx hb dq_Rd_take_103 rfl ?_
            exact wo_iret hC hG hS hcc hss hw dq_Rd_take_104
          · replace hw := hw.2 h
            refine lv_sipush (v := (431 : Int32)) hx hb dq_Rd_take_89 rfl ?_
            exact wo_iret hC hG hS hcc hss hw dq_Rd_take_92
        · replace hw := hw.2 h
          refine lv_aload_n hx hb dq_Rd_take_55 rfl (lx_at hl 0 rfl) ?_
          refine wo_getR hC fq_Rd_12 rfl hG t1 dq_Rd_take_56 (fun r19 e20 => ?_)
          replace hw := hw r19 e20
          obtain ⟨a21, rfl, hw⟩ := hw
          obtain ⟨t22, hw⟩ := hw
          obtain ⟨mc23, ms24, hc1, hs1, hw⟩ := hw
          refine va_callq (wo_runV hC lq_Rd_42 (mq_SB_toString hw) hG hS t22 rfl (lx_sz hl) rfl (Nat.zero_le _) (by decide) dq_Rd_take_59 ⟨hc1, hs1⟩) hS (fun _ _ h => h) (fun _ h => h) (fun v26 G25 t H locs ht hvm hw' hB _ _ hS => ?_)
          clear hw
          have hw := hw'
          clear hw'
          replace hG := wo_bk ht hB
          replace hcc := hc1
          replace hss := hs1
          refine lx_astoreR_n (lv' := [(2, 1, va_rf v26), (0, 1, .ref x0), (1, 1, .int x1)]) hx hb dq_Rd_take_62 rfl hl (by decide) rfl (fun ls hl' => ?_)
          clear hl
          have hl := hl'
          clear hl'
          refine lv_aload_n hx hb dq_Rd_take_63 rfl (lx_at hl 1 rfl) ?_
          obtain ⟨t27, hw⟩ := hw
          refine wo_getR hC fq_Rd_12 rfl hG t27 dq_Rd_take_64 (fun r28 e29 => ?_)
          replace hw := hw r28 e29
          refine lv_iconst (v := (0 : Int32)) hx hb dq_Rd_take_67 rfl ?_
          obtain ⟨a30, rfl, hw⟩ := hw
          obtain ⟨t31, hw⟩ := hw
          obtain ⟨mc32, ms33, hc1, hs1, hw⟩ := hw
          refine va_callv (wo_runV hC lq_Rd_46 (mq_SB_setLength hw) hG hS t31 rfl (lx_sz hl) rfl (Nat.zero_le _) (by decide) dq_Rd_take_68 ⟨hc1, hs1⟩) hS (fun _ _ h => h) (fun _ h => h) (fun G34 t H locs ht hvm hw' hB _ _ hS => ?_)
          clear hw
          have hw := hw'
          clear hw'
          replace hG := wo_bk ht hB
          replace hcc := hc1
          replace hss := hs1
          refine lv_aload_n hx hb dq_Rd_take_71 rfl (lx_at hl 1 rfl) ?_
          refine lx_aloadR_n hx hb dq_Rd_take_72 rfl (lx_at hl 0 rfl) ?_
          obtain ⟨t35, hw⟩ := hw
          obtain ⟨mc36, ms37, hc1, hs1, hw⟩ := hw
          refine va_calli (wo_runV hC lq_Rd_50 (mq_Rd_judge hw) hG hS t35 rfl (lx_sz hl) rfl (Nat.zero_le _) (by decide) dq_Rd_take_73 ⟨hc1, hs1⟩) hS (fun _ _ h => h) (fun _ h => h) (fun v39 G38 t H locs ht hvm hw' hB _ _ hS => ?_)
          clear hw
          have hw := hw'
          clear hw'
          replace hG := wo_bk ht hB
          replace hcc := hc1
          replace hss := hs1
          exact wo_iret hC hG hS hcc hss hw dq_Rd_take_76
      · replace hw := hw.2 h
        refine lv_aload_n hx hb dq_Rd_take_30 rfl (lx_at hl 0 rfl) ?_
        refine lv_iconst (v := (3 : Int32)) hx hb dq_Rd_take_31 rfl ?_
        obtain ⟨h40, hw⟩ := hw
        refine wo_putI hC fq_Rd_31 (Or.inl rfl) rfl (wo_ok_int _) hG hS t1 h40 dq_Rd_take_32 (fun G41 H locs e42 hG hS => ?_)
        replace hw := hw G41 e42
        refine lv_iload_n hx hb dq_Rd_take_35 rfl (lx_at hl 1 rfl) ?_
        refine lv_bipush (v := (10 : Int32)) hx hb dq_Rd_take_36 rfl ?_
        refine lv_icmp_ne (tgt := 45) hx hb dq_Rd_take_38 rfl (fun h => ?_) (fun h => ?_)
        · replace hw := hw.1 h
          refine lv_sipush (v := (400 : Int32)) hx hb dq_Rd_take_45 rfl ?_
          exact tq_Rd_take_48 hC hw hG hS (lx_sub hl [] rfl) hcc hss
        · replace hw := hw.2 h
          refine lv_iconst (v := (0 : Int32)) hx hb dq_Rd_take_41 rfl ?_
          refine lv_goto (tgt := 48) hx hb dq_Rd_take_42 rfl ?_
          exact tq_Rd_take_48 hC hw hG hS (lx_sub hl [] rfl) hcc hss
    · replace hw := hw.2 h
      exact tq_Rd_take_16 hC hw hG hS (lx_sub hl [0, 1] rfl) hcc hss
set_option maxHeartbeats 4000000 in
theorem mq_Rd_take {l : Launch} {E : wo_E} {mc ms : Nat} {Post : Int32 → wo_W → Prop} {G : wo_W} {x0 : Nat} {x1 : Int32} (hw : pq_Rd_take E mc ms Post G x0 x1) : Met l yq_Rd_take (Cond.code yq_Rd_take prog_5_method_2_code 3 ((Option.some Jvm.ClassFile.FieldType.int)) :: vw_WG) { frames := 10, cells := mc, slots := ms, locals := 233 } (va_Pc [.ref x0, .int x1] (wo_Ok E G)) (va_Qi Post (wo_B E) (en_A E)) mc ms (en_A E) := by
  unfold pq_Rd_take at hw
  exact wo_met [(1, .ref x0), (1, .int x1)] rfl (by decide) (fun q hq => by simp only [List.mem_cons, List.not_mem_nil, or_false] at hq; rcases hq with rfl | rfl <;> first | rfl | exact lx_cR _) (Nat.le_of_ble_eq_true rfl) (fun p e R s m args below meth cd ls hC hG hS hl => tq_Rd_take_0 hC hw hG hS (lx_sub hl [0, 1] rfl) (Nat.zero_le _) (Nat.zero_le _))

theorem dq_EC_feed_0 : decode prog_1_method_2_code 0 = .ok (.iload_n 1, 1) := by decide +kernel
theorem dq_EC_feed_1 : decode prog_1_method_2_code 1 = .ok (.invokestatic 61, 3) := by decide +kernel
theorem dq_EC_feed_4 : decode prog_1_method_2_code 4 = .ok (.ifCond .ne 5, 3) := by decide +kernel
theorem dq_EC_feed_7 : decode prog_1_method_2_code 7 = .ok (.iconst 0, 1) := by decide +kernel
theorem dq_EC_feed_8 : decode prog_1_method_2_code 8 = .ok (.ireturn, 1) := by decide +kernel
theorem dq_EC_feed_9 : decode prog_1_method_2_code 9 = .ok (.aload_n 0, 1) := by decide +kernel
theorem dq_EC_feed_10 : decode prog_1_method_2_code 10 = .ok (.getfield 11, 3) := by decide +kernel
theorem dq_EC_feed_13 : decode prog_1_method_2_code 13 = .ok (.iload_n 1, 1) := by decide +kernel
theorem dq_EC_feed_14 : decode prog_1_method_2_code 14 = .ok (.aaload, 1) := by decide +kernel
theorem dq_EC_feed_15 : decode prog_1_method_2_code 15 = .ok (.astore 4, 2) := by decide +kernel
theorem dq_EC_feed_17 : decode prog_1_method_2_code 17 = .ok (.iconst 0, 1) := by decide +kernel
theorem dq_EC_feed_18 : decode prog_1_method_2_code 18 = .ok (.istore 5, 2) := by decide +kernel
theorem dq_EC_feed_20 : decode prog_1_method_2_code 20 = .ok (.bipush 56, 2) := by decide +kernel
theorem dq_EC_feed_22 : decode prog_1_method_2_code 22 = .ok (.istore 6, 2) := by decide +kernel
theorem dq_EC_feed_24 : decode prog_1_method_2_code 24 = .ok (.iload 6, 2) := by decide +kernel
theorem dq_EC_feed_26 : decode prog_1_method_2_code 26 = .ok (.ifCond .lt 66, 3) := by decide +kernel
theorem dq_EC_feed_29 : decode prog_1_method_2_code 29 = .ok (.lload_n 2, 1) := by decide +kernel
theorem dq_EC_feed_30 : decode prog_1_method_2_code 30 = .ok (.iload 6, 2) := by decide +kernel
theorem dq_EC_feed_32 : decode prog_1_method_2_code 32 = .ok (.lushr, 1) := by decide +kernel
theorem dq_EC_feed_33 : decode prog_1_method_2_code 33 = .ok (.l2i, 1) := by decide +kernel
theorem dq_EC_feed_34 : decode prog_1_method_2_code 34 = .ok (.sipush 255, 3) := by decide +kernel
theorem dq_EC_feed_37 : decode prog_1_method_2_code 37 = .ok (.iand, 1) := by decide +kernel
theorem dq_EC_feed_38 : decode prog_1_method_2_code 38 = .ok (.istore 7, 2) := by decide +kernel
theorem dq_EC_feed_40 : decode prog_1_method_2_code 40 = .ok (.iload 7, 2) := by decide +kernel
theorem dq_EC_feed_42 : decode prog_1_method_2_code 42 = .ok (.ifCond .ne 6, 3) := by decide +kernel
theorem dq_EC_feed_45 : decode prog_1_method_2_code 45 = .ok (.goto 41, 3) := by decide +kernel
theorem dq_EC_feed_48 : decode prog_1_method_2_code 48 = .ok (.aload 4, 2) := by decide +kernel
theorem dq_EC_feed_50 : decode prog_1_method_2_code 50 = .ok (.invokevirtual 65, 3) := by decide +kernel
theorem dq_EC_feed_53 : decode prog_1_method_2_code 53 = .ok (.ifCond .ne 6, 3) := by decide +kernel
theorem dq_EC_feed_56 : decode prog_1_method_2_code 56 = .ok (.goto 36, 3) := by decide +kernel
theorem dq_EC_feed_59 : decode prog_1_method_2_code 59 = .ok (.iinc 5 1, 3) := by decide +kernel
theorem dq_EC_feed_62 : decode prog_1_method_2_code 62 = .ok (.aload 4, 2) := by decide +kernel
theorem dq_EC_feed_64 : decode prog_1_method_2_code 64 = .ok (.getfield 69, 3) := by decide +kernel
theorem dq_EC_feed_67 : decode prog_1_method_2_code 67 = .ok (.iload 7, 2) := by decide +kernel
theorem dq_EC_feed_69 : decode prog_1_method_2_code 69 = .ok (.invokevirtual 73, 3) := by decide +kernel
theorem dq_EC_feed_72 : decode prog_1_method_2_code 72 = .ok (.istore 8, 2) := by decide +kernel
theorem dq_EC_feed_74 : decode prog_1_method_2_code 74 = .ok (.iload 8, 2) := by decide +kernel
theorem dq_EC_feed_76 : decode prog_1_method_2_code 76 = .ok (.ifCond .eq 10, 3) := by decide +kernel
theorem dq_EC_feed_79 : decode prog_1_method_2_code 79 = .ok (.aload_n 0, 1) := by decide +kernel
theorem dq_EC_feed_80 : decode prog_1_method_2_code 80 = .ok (.iload_n 1, 1) := by decide +kernel
theorem dq_EC_feed_81 : decode prog_1_method_2_code 81 = .ok (.iload 8, 2) := by decide +kernel
theorem dq_EC_feed_83 : decode prog_1_method_2_code 83 = .ok (.invokevirtual 79, 3) := by decide +kernel
theorem dq_EC_feed_86 : decode prog_1_method_2_code 86 = .ok (.iinc 6 (-8), 3) := by decide +kernel
theorem dq_EC_feed_89 : decode prog_1_method_2_code 89 = .ok (.goto (-65), 3) := by decide +kernel
theorem dq_EC_feed_92 : decode prog_1_method_2_code 92 = .ok (.iload 5, 2) := by decide +kernel
theorem dq_EC_feed_94 : decode prog_1_method_2_code 94 = .ok (.ireturn, 1) := by decide +kernel
set_option maxRecDepth 100000 in
def pq_EC_feed_92 (E : wo_E) (mc ms : Nat) (Post : Int32 → wo_W → Prop) (G : wo_W) (c s : Nat) (x5 : Int32) : Prop := Post x5 G
set_option maxRecDepth 100000 in
def pq_EC_feed_86 (E : wo_E) (mc ms : Nat) (Post : Int32 → wo_W → Prop) (k24 : wo_W → Nat → Nat → Nat → Int32 → Int64 → Option Nat → Int32 → Int32 → Prop) (G : wo_W) (c s : Nat) (x0 : Nat) (x1 : Int32) (x2 : Int64) (x4 : Option Nat) (x5 : Int32) (x6 : Int32) : Prop := k24 G c s x0 x1 x2 x4 x5 (x6 + (-8 : Int32))
set_option maxRecDepth 100000 in
def pq_EC_feed_24 (E : wo_E) (mc ms : Nat) (Post : Int32 → wo_W → Prop) : Nat → wo_W → Nat → Nat → Nat → Int32 → Int64 → Option Nat → Int32 → Int32 → Prop
  | 0 => fun _ _ _ _ _ _ _ _ _ => False
  | n + 1 => fun G c s x0 x1 x2 x4 x5 x6 => ((x6 < (0 : Int32) → pq_EC_feed_92 E mc ms Post G c s x5) ∧
  (¬ x6 < (0 : Int32) → ((¬ ((wo_lushr x2 x6).toInt32 &&& (255 : Int32)) = (0 : Int32) → ∃ a1 : Nat, x4 = some a1 ∧ wo_ty G a1 = 7 ∧ ∃ mc3 ms4 : Nat, (c + mc3) ≤ mc ∧ (s + ms4) ≤ ms ∧ pq_Cn_mayTake E mc3 ms4 (fun v6 G5 => 
      ((¬ v6 = (0 : Int32) → wo_ty G5 a1 = 7 ∧ ∀ r8 : Option Nat, r8 = wo_gr G5 384 a1 → ∃ a10 : Nat, r8 = some a10 ∧ wo_ty G5 a10 = 8 ∧ ∃ mc12 ms13 : Nat, ((c + mc3) + mc12) ≤ mc ∧ ((s + ms4) + ms13) ≤ ms ∧ pq_Rd_take E mc12 ms13 (fun v15 G14 => 
          ((v15 = (0 : Int32) → pq_EC_feed_86 E mc ms Post (pq_EC_feed_24 E mc ms Post n) G14 ((c + mc3) + mc12) ((s + ms4) + ms13) x0 x1 x2 (some a1) (x5 + (1 : Int32)) x6) ∧
            (¬ v15 = (0 : Int32) → wo_ty G14 x0 = 1 ∧ ∃ mc17 ms18 : Nat, (((c + mc3) + mc12) + mc17) ≤ mc ∧ (((s + ms4) + ms13) + ms18) ≤ ms ∧ pq_EC_handle E mc17 ms18 (fun G19 => 
              pq_EC_feed_86 E mc ms Post (pq_EC_feed_24 E mc ms Post n) G19 (((c + mc3) + mc12) + mc17) (((s + ms4) + ms13) + ms18) x0 x1 x2 (some a1) (x5 + (1 : Int32)) x6) G14 x0 x1 v15))) G5 a10 ((wo_lushr x2 x6).toInt32 &&& (255 : Int32))) ∧
        (v6 = (0 : Int32) → pq_EC_feed_92 E mc ms Post G5 (c + mc3) (s + ms4) x5))) G a1) ∧
    (((wo_lushr x2 x6).toInt32 &&& (255 : Int32)) = (0 : Int32) → pq_EC_feed_86 E mc ms Post (pq_EC_feed_24 E mc ms Post n) G c s x0 x1 x2 x4 x5 x6))))
set_option maxRecDepth 100000 in
def pq_EC_feed_0 (E : wo_E) (mc ms : Nat) (Post : Int32 → wo_W → Prop) (G : wo_W) (c s : Nat) (x0 : Nat) (x1 : Int32) (x2 : Int64) : Prop := ∃ mc1 ms2 : Nat, (c + mc1) ≤ mc ∧ (s + ms2) ≤ ms ∧ pq_EC_isConnection E mc1 ms2 (fun v4 G3 => 
  ((¬ v4 = (0 : Int32) → wo_ty G3 x0 = 1 ∧ ∀ r6 : Option Nat, r6 = wo_gr G3 0 x0 → ∃ a8 : Nat, r6 = some a8 ∧ wo_ty G3 a8 = 64 ∧ vp_in x1 (wo_len G3 a8) ∧ ∀ r11 : Option Nat, r11 = wo_er G3 a8 x1.toNatClampNeg → ∃ n1 : Nat, pq_EC_feed_24 E mc ms Post n1 G3 (c + mc1) (s + ms2) x0 x1 x2 r11 (0 : Int32) (56 : Int32)) ∧
    (v4 = (0 : Int32) → Post (0 : Int32) G3))) G x1
def pq_EC_feed (E : wo_E) (mc ms : Nat) (Post : Int32 → wo_W → Prop) (G : wo_W) (x0 : Nat) (x1 : Int32) (x2 : Int64) : Prop := pq_EC_feed_0 E mc ms Post G 0 0 x0 x1 x2
set_option maxRecDepth 100000 in
set_option maxHeartbeats 4000000 in
theorem tq_EC_feed_92 {p : Program} {l : Launch} {e : Env} {R : Room} {s₀ : State} {m : MethodId} {args : Array Value} {below : List Frame} {meth : Method} {cd : Code} {E : wo_E} {mc ms : Nat} {Post : Int32 → wo_W → Prop} (hC : wo_Cx E "EdgeCache" prog_1_method_2_code 9 12 280 ((Option.some Jvm.ClassFile.FieldType.int)) "feed" mc ms p R s₀ m args meth cd) : ∀ {G : wo_W} {c s : Nat} {x5 : Int32}, pq_EC_feed_92 E mc ms Post G c s x5 → ∀ {H : Heap} {locs : List Loc} {ls : Array Slot}, wo_Se E G H → va_S (en_A E) s₀.heap H locs → lx_has ls 9 [(5, 1, .int x5)] → c ≤ mc → s ≤ ms → W p l e R s₀ m args below meth cd H locs c s (MQ below (va_Qi Post (wo_B E) (en_A E)) args s₀ mc ms (en_A E)) (F0 m 92 ls []) := by
  intro G c s x5 hw H locs ls hG hS hl hcc hss
  dsimp only [pq_EC_feed_92] at hw
  have hx := hC.1
  have hb := hC.2.1
  refine lv_iload hx hb dq_EC_feed_92 (lx_at hl 0 rfl) ?_
  exact wo_iret hC hG hS hcc hss hw dq_EC_feed_94
set_option maxRecDepth 100000 in
set_option maxHeartbeats 4000000 in
theorem tq_EC_feed_86 {p : Program} {l : Launch} {e : Env} {R : Room} {s₀ : State} {m : MethodId} {args : Array Value} {below : List Frame} {meth : Method} {cd : Code} {E : wo_E} {mc ms : Nat} {Post : Int32 → wo_W → Prop} {k24 : wo_W → Nat → Nat → Nat → Int32 → Int64 → Option Nat → Int32 → Int32 → Prop} (hC : wo_Cx E "EdgeCache" prog_1_method_2_code 9 12 280 ((Option.some Jvm.ClassFile.FieldType.int)) "feed" mc ms p R s₀ m args meth cd) (hk24 : ∀ {G : wo_W} {c s : Nat} {x0 : Nat} {x1 : Int32} {x2 : Int64} {x4 : Option Nat} {x5 : Int32} {x6 : Int32}, k24 G c s x0 x1 x2 x4 x5 x6 → ∀ {H : Heap} {locs : List Loc} {ls : Array Slot}, wo_Se E G H → va_S (en_A E) s₀.heap H locs → lx_has ls 9 [(0, 1, .ref x0), (1, 1, .int x1), (2, 2, .long x2), (4, 1, va_rf x4), (5, 1, .int x5), (6, 1, .int x6)] → c ≤ mc → s ≤ ms → W p l e R s₀ m args below meth cd H locs c s (MQ below (va_Qi Post (wo_B E) (en_A E)) args s₀ mc ms (en_A E)) (F0 m 24 ls [])) : ∀ {G : wo_W} {c s : Nat} {x0 : Nat} {x1 : Int32} {x2 : Int64} {x4 : Option Nat} {x5 : Int32} {x6 : Int32}, pq_EC_feed_86 E mc ms Post k24 G c s x0 x1 x2 x4 x5 x6 → ∀ {H : Heap} {locs : List Loc} {ls : Array Slot}, wo_Se E G H → va_S (en_A E) s₀.heap H locs → lx_has ls 9 [(0, 1, .ref x0), (1, 1, .int x1), (2, 2, .long x2), (4, 1, va_rf x4), (5, 1, .int x5), (6, 1, .int x6)] → c ≤ mc → s ≤ ms → W p l e R s₀ m args below meth cd H locs c s (MQ below (va_Qi Post (wo_B E) (en_A E)) args s₀ mc ms (en_A E)) (F0 m 86 ls []) := by
  intro G c s x0 x1 x2 x4 x5 x6 hw H locs ls hG hS hl hcc hss
  dsimp only [pq_EC_feed_86] at hw
  have hx := hC.1
  have hb := hC.2.1
  refine lx_iinc (k := 5) (v := (x6 + (-8 : Int32))) (lv' := [(6, 1, .int (x6 + (-8 : Int32))), (0, 1, .ref x0), (1, 1, .int x1), (2, 2, .long x2), (4, 1, va_rf x4), (5, 1, .int x5)]) hx hb dq_EC_feed_86 hl rfl rfl (by decide) rfl (fun ls hl' => ?_)
  clear hl
  have hl := hl'
  clear hl'
  refine lv_goto (tgt := 24) hx hb dq_EC_feed_89 rfl ?_
  exact hk24 hw hG hS (lx_sub hl [1, 2, 3, 4, 5, 0] rfl) hcc hss
set_option maxRecDepth 100000 in
set_option maxHeartbeats 4000000 in
theorem tq_EC_feed_24 {p : Program} {l : Launch} {e : Env} {R : Room} {s₀ : State} {m : MethodId} {args : Array Value} {below : List Frame} {meth : Method} {cd : Code} {E : wo_E} {mc ms : Nat} {Post : Int32 → wo_W → Prop} (hC : wo_Cx E "EdgeCache" prog_1_method_2_code 9 12 280 ((Option.some Jvm.ClassFile.FieldType.int)) "feed" mc ms p R s₀ m args meth cd) : ∀ n : Nat, ∀ {G : wo_W} {c s : Nat} {x0 : Nat} {x1 : Int32} {x2 : Int64} {x4 : Option Nat} {x5 : Int32} {x6 : Int32}, pq_EC_feed_24 E mc ms Post n G c s x0 x1 x2 x4 x5 x6 → ∀ {H : Heap} {locs : List Loc} {ls : Array Slot}, wo_Se E G H → va_S (en_A E) s₀.heap H locs → lx_has ls 9 [(0, 1, .ref x0), (1, 1, .int x1), (2, 2, .long x2), (4, 1, va_rf x4), (5, 1, .int x5), (6, 1, .int x6)] → c ≤ mc → s ≤ ms → W p l e R s₀ m args below meth cd H locs c s (MQ below (va_Qi Post (wo_B E) (en_A E)) args s₀ mc ms (en_A E)) (F0 m 24 ls []) := by
  intro n
  induction n with
  | zero => intro G c s x0 x1 x2 x4 x5 x6 hw; exact hw.elim
  | succ n ih =>
    intro G c s x0 x1 x2 x4 x5 x6 hw H locs ls hG hS hl hcc hss
    dsimp only [pq_EC_feed_24] at hw
    have hx := hC.1
    have hb := hC.2.1
    refine lv_iload hx hb dq_EC_feed_24 (lx_at hl 5 rfl) ?_
    refine lv_if_lt (tgt := 92) hx hb dq_EC_feed_26 rfl (fun h => ?_) (fun h => ?_)
    · replace hw := hw.1 h
      exact tq_EC_feed_92 hC hw hG hS (lx_sub hl [4] rfl) hcc hss
    · replace hw := hw.2 h
      refine lv_lload_n hx hb dq_EC_feed_29 rfl (lx_at hl 2 rfl) ?_
      refine lv_iload hx hb dq_EC_feed_30 (lx_at hl 5 rfl) ?_
      refine lv_lushr (v := (wo_lushr x2 x6)) hx hb dq_EC_feed_32 rfl ?_
      refine lv_l2i (v := (wo_lushr x2 x6).toInt32) hx hb dq_EC_feed_33 rfl ?_
      refine lv_sipush (v := (255 : Int32)) hx hb dq_EC_feed_34 rfl ?_
      refine lv_iand hx hb dq_EC_feed_37 ?_
      refine lx_istore (lv' := [(7, 1, .int ((wo_lushr x2 x6).toInt32 &&& (255 : Int32))), (0, 1, .ref x0), (1, 1, .int x1), (2, 2, .long x2), (4, 1, va_rf x4), (5, 1, .int x5), (6, 1, .int x6)]) hx hb dq_EC_feed_38 hl (by decide) rfl (fun ls hl' => ?_)
      clear hl
      have hl := hl'
      clear hl'
      refine lv_iload hx hb dq_EC_feed_40 (lx_at hl 0 rfl) ?_
      refine lv_if_ne (tgt := 48) hx hb dq_EC_feed_42 rfl (fun h => ?_) (fun h => ?_)
      · replace hw := hw.1 h
        refine lx_aloadR hx hb dq_EC_feed_48 (lx_at hl 4 rfl) ?_
        obtain ⟨a1, rfl, hw⟩ := hw
        obtain ⟨t2, hw⟩ := hw
        obtain ⟨mc3, ms4, hc1, hs1, hw⟩ := hw
        refine va_calli (wo_runV hC lq_EC_65 (mq_Cn_mayTake hw) hG hS t2 rfl (lx_sz hl) rfl (Nat.zero_le _) (by decide) dq_EC_feed_50 ⟨hc1, hs1⟩) hS (fun _ _ h => h) (fun _ h => h) (fun v6 G5 t H locs ht hvm hw' hB _ _ hS => ?_)
        clear hw
        have hw := hw'
        clear hw'
        replace hG := wo_bk ht hB
        replace hcc := hc1
        replace hss := hs1
        refine lv_if_ne (tgt := 59) hx hb dq_EC_feed_53 rfl (fun h => ?_) (fun h => ?_)
        · replace hw := hw.1 h
          refine lx_iinc (k := 5) (v := (x5 + (1 : Int32))) (lv' := [(5, 1, .int (x5 + (1 : Int32))), (7, 1, .int ((wo_lushr x2 x6).toInt32 &&& (255 : Int32))), (0, 1, .ref x0), (1, 1, .int x1), (2, 2, .long x2), (4, 1, .ref a1), (6, 1, .int x6)]) hx hb dq_EC_feed_59 hl rfl rfl (by decide) rfl (fun ls hl' => ?_)
          clear hl
          have hl := hl'
          clear hl'
          refine lv_aload hx hb dq_EC_feed_62 (lx_at hl 5 rfl) ?_
          obtain ⟨t7, hw⟩ := hw
          refine wo_getR hC fq_EC_69 rfl hG t7 dq_EC_feed_64 (fun r8 e9 => ?_)
          replace hw := hw r8 e9
          refine lv_iload hx hb dq_EC_feed_67 (lx_at hl 1 rfl) ?_
          obtain ⟨a10, rfl, hw⟩ := hw
          obtain ⟨t11, hw⟩ := hw
          obtain ⟨mc12, ms13, hc1, hs1, hw⟩ := hw
          refine va_calli (wo_runV hC lq_EC_73 (mq_Rd_take hw) hG hS t11 rfl (lx_sz hl) rfl (Nat.zero_le _) (by decide) dq_EC_feed_69 ⟨hc1, hs1⟩) hS (fun _ _ h => h) (fun _ h => h) (fun v15 G14 t H locs ht hvm hw' hB _ _ hS => ?_)
          clear hw
          have hw := hw'
          clear hw'
          replace hG := wo_bk ht hB
          replace hcc := hc1
          replace hss := hs1
          refine lx_istore (lv' := [(8, 1, .int v15), (5, 1, .int (x5 + (1 : Int32))), (7, 1, .int ((wo_lushr x2 x6).toInt32 &&& (255 : Int32))), (0, 1, .ref x0), (1, 1, .int x1), (2, 2, .long x2), (4, 1, .ref a1), (6, 1, .int x6)]) hx hb dq_EC_feed_72 hl (by decide) rfl (fun ls hl' => ?_)
          clear hl
          have hl := hl'
          clear hl'
          refine lv_iload hx hb dq_EC_feed_74 (lx_at hl 0 rfl) ?_
          refine lv_if_eq (tgt := 86) hx hb dq_EC_feed_76 rfl (fun h => ?_) (fun h => ?_)
          · replace hw := hw.1 h
            exact tq_EC_feed_86 hC ih hw hG hS (lx_sub hl [3, 4, 5, 6, 1, 7] rfl) hcc hss
          · replace hw := hw.2 h
            refine lv_aload_n hx hb dq_EC_feed_79 rfl (lx_at hl 3 rfl) ?_
            refine lv_iload_n hx hb dq_EC_feed_80 rfl (lx_at hl 4 rfl) ?_
            refine lv_iload hx hb dq_EC_feed_81 (lx_at hl 0 rfl) ?_
            obtain ⟨t16, hw⟩ := hw
            obtain ⟨mc17, ms18, hc1, hs1, hw⟩ := hw
            refine va_callv (wo_runV hC lq_EC_79 (mq_EC_handle hw) hG hS t16 rfl (lx_sz hl) rfl (Nat.zero_le _) (by decide) dq_EC_feed_83 ⟨hc1, hs1⟩) hS (fun _ _ h => h) (fun _ h => h) (fun G19 t H locs ht hvm hw' hB _ _ hS => ?_)
            clear hw
            have hw := hw'
            clear hw'
            replace hG := wo_bk ht hB
            replace hcc := hc1
            replace hss := hs1
            exact tq_EC_feed_86 hC ih hw hG hS (lx_sub hl [3, 4, 5, 6, 1, 7] rfl) hcc hss
        · replace hw := hw.2 h
          refine lv_goto (tgt := 92) hx hb dq_EC_feed_56 rfl ?_
          exact tq_EC_feed_92 hC hw hG hS (lx_sub hl [5] rfl) hcc hss
      · replace hw := hw.2 h
        refine lv_goto (tgt := 86) hx hb dq_EC_feed_45 rfl ?_
        exact tq_EC_feed_86 hC ih hw hG hS (lx_sub hl [1, 2, 3, 4, 5, 6] rfl) hcc hss
set_option maxRecDepth 100000 in
set_option maxHeartbeats 4000000 in
theorem tq_EC_feed_0 {p : Program} {l : Launch} {e : Env} {R : Room} {s₀ : State} {m : MethodId} {args : Array Value} {below : List Frame} {meth : Method} {cd : Code} {E : wo_E} {mc ms : Nat} {Post : Int32 → wo_W → Prop} (hC : wo_Cx E "EdgeCache" prog_1_method_2_code 9 12 280 ((Option.some Jvm.ClassFile.FieldType.int)) "feed" mc ms p R s₀ m args meth cd) : ∀ {G : wo_W} {c s : Nat} {x0 : Nat} {x1 : Int32} {x2 : Int64}, pq_EC_feed_0 E mc ms Post G c s x0 x1 x2 → ∀ {H : Heap} {locs : List Loc} {ls : Array Slot}, wo_Se E G H → va_S (en_A E) s₀.heap H locs → lx_has ls 9 [(0, 1, .ref x0), (1, 1, .int x1), (2, 2, .long x2)] → c ≤ mc → s ≤ ms → W p l e R s₀ m args below meth cd H locs c s (MQ below (va_Qi Post (wo_B E) (en_A E)) args s₀ mc ms (en_A E)) (F0 m 0 ls []) := by
  intro G c s x0 x1 x2 hw H locs ls hG hS hl hcc hss
  dsimp only [pq_EC_feed_0] at hw
  have hx := hC.1
  have hb := hC.2.1
  refine lv_iload_n hx hb dq_EC_feed_0 rfl (lx_at hl 1 rfl) ?_
  obtain ⟨mc1, ms2, hc1, hs1, hw⟩ := hw
  refine va_calli (wo_runS hC lq_EC_61 (mq_EC_isConnection hw) hG hS rfl (lx_sz hl) rfl (Nat.zero_le _) (by decide) dq_EC_feed_1 ⟨hc1, hs1⟩) hS (fun _ _ h => h) (fun _ h => h) (fun v4 G3 t H locs ht hvm hw' hB _ _ hS => ?_)
  clear hw
  have hw := hw'
  clear hw'
  replace hG := wo_bk ht hB
  replace hcc := hc1
  replace hss := hs1
  refine lv_if_ne (tgt := 9) hx hb dq_EC_feed_4 rfl (fun h => ?_) (fun h => ?_)
  · replace hw := hw.1 h
    refine lv_aload_n hx hb dq_EC_feed_9 rfl (lx_at hl 0 rfl) ?_
    obtain ⟨t5, hw⟩ := hw
    refine wo_getR hC fq_EC_11 rfl hG t5 dq_EC_feed_10 (fun r6 e7 => ?_)
    replace hw := hw r6 e7
    refine lv_iload_n hx hb dq_EC_feed_13 rfl (lx_at hl 1 rfl) ?_
    obtain ⟨a8, rfl, hw⟩ := hw
    obtain ⟨t9, hw⟩ := hw
    obtain ⟨h10, hw⟩ := hw
    refine wo_aald (j := 0) hC rfl hG t9 h10 dq_EC_feed_14 (fun r11 e12 => ?_)
    replace hw := hw r11 e12
    refine lx_astoreR (lv' := [(4, 1, va_rf r11), (0, 1, .ref x0), (1, 1, .int x1), (2, 2, .long x2)]) hx hb dq_EC_feed_15 hl (by decide) rfl (fun ls hl' => ?_)
    clear hl
    have hl := hl'
    clear hl'
    refine lv_iconst (v := (0 : Int32)) hx hb dq_EC_feed_17 rfl ?_
    refine lx_istore (lv' := [(5, 1, .int (0 : Int32)), (4, 1, va_rf r11), (0, 1, .ref x0), (1, 1, .int x1), (2, 2, .long x2)]) hx hb dq_EC_feed_18 hl (by decide) rfl (fun ls hl' => ?_)
    clear hl
    have hl := hl'
    clear hl'
    refine lv_bipush (v := (56 : Int32)) hx hb dq_EC_feed_20 rfl ?_
    refine lx_istore (lv' := [(6, 1, .int (56 : Int32)), (5, 1, .int (0 : Int32)), (4, 1, va_rf r11), (0, 1, .ref x0), (1, 1, .int x1), (2, 2, .long x2)]) hx hb dq_EC_feed_22 hl (by decide) rfl (fun ls hl' => ?_)
    clear hl
    have hl := hl'
    clear hl'
    obtain ⟨n1, hw⟩ := hw
    exact tq_EC_feed_24 hC n1 hw hG hS (lx_sub hl [3, 4, 5, 2, 1, 0] rfl) hcc hss
  · replace hw := hw.2 h
    refine lv_iconst (v := (0 : Int32)) hx hb dq_EC_feed_7 rfl ?_
    exact wo_iret hC hG hS hcc hss hw dq_EC_feed_8
set_option maxHeartbeats 4000000 in
theorem mq_EC_feed {l : Launch} {E : wo_E} {mc ms : Nat} {Post : Int32 → wo_W → Prop} {G : wo_W} {x0 : Nat} {x1 : Int32} {x2 : Int64} (hw : pq_EC_feed E mc ms Post G x0 x1 x2) : Met l yq_EC_feed (Cond.code yq_EC_feed prog_1_method_2_code 9 ((Option.some Jvm.ClassFile.FieldType.int)) :: vw_WG) { frames := 12, cells := mc, slots := ms, locals := 280 } (va_Pc [.ref x0, .int x1, .long x2] (wo_Ok E G)) (va_Qi Post (wo_B E) (en_A E)) mc ms (en_A E) := by
  unfold pq_EC_feed at hw
  exact wo_met [(1, .ref x0), (1, .int x1), (2, .long x2)] rfl (by decide) (fun q hq => by simp only [List.mem_cons, List.not_mem_nil, or_false] at hq; rcases hq with rfl | rfl | rfl <;> first | rfl | exact lx_cR _) (Nat.le_of_ble_eq_true rfl) (fun p e R s m args below meth cd ls hC hG hS hl => tq_EC_feed_0 hC hw hG hS (lx_sub hl [0, 1, 2] rfl) (Nat.zero_le _) (Nat.zero_le _))

theorem dq_Cn_takeEight_0 : decode prog_2_method_7_code 0 = .ok (.bipush 8, 2) := by decide +kernel
theorem dq_Cn_takeEight_2 : decode prog_2_method_7_code 2 = .ok (.aload_n 0, 1) := by decide +kernel
theorem dq_Cn_takeEight_3 : decode prog_2_method_7_code 3 = .ok (.getfield 38, 3) := by decide +kernel
theorem dq_Cn_takeEight_6 : decode prog_2_method_7_code 6 = .ok (.invokestatic 61, 3) := by decide +kernel
theorem dq_Cn_takeEight_9 : decode prog_2_method_7_code 9 = .ok (.istore_n 1, 1) := by decide +kernel
theorem dq_Cn_takeEight_10 : decode prog_2_method_7_code 10 = .ok (.lconst 0, 1) := by decide +kernel
theorem dq_Cn_takeEight_11 : decode prog_2_method_7_code 11 = .ok (.lstore_n 2, 1) := by decide +kernel
theorem dq_Cn_takeEight_12 : decode prog_2_method_7_code 12 = .ok (.iconst 0, 1) := by decide +kernel
theorem dq_Cn_takeEight_13 : decode prog_2_method_7_code 13 = .ok (.istore 4, 2) := by decide +kernel
theorem dq_Cn_takeEight_15 : decode prog_2_method_7_code 15 = .ok (.iload 4, 2) := by decide +kernel
theorem dq_Cn_takeEight_17 : decode prog_2_method_7_code 17 = .ok (.iload_n 1, 1) := by decide +kernel
theorem dq_Cn_takeEight_18 : decode prog_2_method_7_code 18 = .ok (.if_icmp .ge 24, 3) := by decide +kernel
theorem dq_Cn_takeEight_21 : decode prog_2_method_7_code 21 = .ok (.lload_n 2, 1) := by decide +kernel
theorem dq_Cn_takeEight_22 : decode prog_2_method_7_code 22 = .ok (.ldc2_w 67, 3) := by decide +kernel
theorem dq_Cn_takeEight_25 : decode prog_2_method_7_code 25 = .ok (.lmul, 1) := by decide +kernel
theorem dq_Cn_takeEight_26 : decode prog_2_method_7_code 26 = .ok (.aload_n 0, 1) := by decide +kernel
theorem dq_Cn_takeEight_27 : decode prog_2_method_7_code 27 = .ok (.getfield 22, 3) := by decide +kernel
theorem dq_Cn_takeEight_30 : decode prog_2_method_7_code 30 = .ok (.iload 4, 2) := by decide +kernel
theorem dq_Cn_takeEight_32 : decode prog_2_method_7_code 32 = .ok (.caload, 1) := by decide +kernel
theorem dq_Cn_takeEight_33 : decode prog_2_method_7_code 33 = .ok (.i2l, 1) := by decide +kernel
theorem dq_Cn_takeEight_34 : decode prog_2_method_7_code 34 = .ok (.ladd, 1) := by decide +kernel
theorem dq_Cn_takeEight_35 : decode prog_2_method_7_code 35 = .ok (.lstore_n 2, 1) := by decide +kernel
theorem dq_Cn_takeEight_36 : decode prog_2_method_7_code 36 = .ok (.iinc 4 1, 3) := by decide +kernel
theorem dq_Cn_takeEight_39 : decode prog_2_method_7_code 39 = .ok (.goto (-24), 3) := by decide +kernel
theorem dq_Cn_takeEight_42 : decode prog_2_method_7_code 42 = .ok (.aload_n 0, 1) := by decide +kernel
theorem dq_Cn_takeEight_43 : decode prog_2_method_7_code 43 = .ok (.dup, 1) := by decide +kernel
theorem dq_Cn_takeEight_44 : decode prog_2_method_7_code 44 = .ok (.getfield 38, 3) := by decide +kernel
theorem dq_Cn_takeEight_47 : decode prog_2_method_7_code 47 = .ok (.iload_n 1, 1) := by decide +kernel
theorem dq_Cn_takeEight_48 : decode prog_2_method_7_code 48 = .ok (.isub, 1) := by decide +kernel
theorem dq_Cn_takeEight_49 : decode prog_2_method_7_code 49 = .ok (.putfield 38, 3) := by decide +kernel
theorem dq_Cn_takeEight_52 : decode prog_2_method_7_code 52 = .ok (.aload_n 0, 1) := by decide +kernel
theorem dq_Cn_takeEight_53 : decode prog_2_method_7_code 53 = .ok (.getfield 22, 3) := by decide +kernel
theorem dq_Cn_takeEight_56 : decode prog_2_method_7_code 56 = .ok (.iload_n 1, 1) := by decide +kernel
theorem dq_Cn_takeEight_57 : decode prog_2_method_7_code 57 = .ok (.aload_n 0, 1) := by decide +kernel
theorem dq_Cn_takeEight_58 : decode prog_2_method_7_code 58 = .ok (.getfield 22, 3) := by decide +kernel
theorem dq_Cn_takeEight_61 : decode prog_2_method_7_code 61 = .ok (.iconst 0, 1) := by decide +kernel
theorem dq_Cn_takeEight_62 : decode prog_2_method_7_code 62 = .ok (.aload_n 0, 1) := by decide +kernel
theorem dq_Cn_takeEight_63 : decode prog_2_method_7_code 63 = .ok (.getfield 38, 3) := by decide +kernel
theorem dq_Cn_takeEight_66 : decode prog_2_method_7_code 66 = .ok (.invokestatic 69, 3) := by decide +kernel
theorem dq_Cn_takeEight_69 : decode prog_2_method_7_code 69 = .ok (.lload_n 2, 1) := by decide +kernel
theorem dq_Cn_takeEight_70 : decode prog_2_method_7_code 70 = .ok (.lreturn, 1) := by decide +kernel
set_option maxRecDepth 100000 in
def pq_Cn_takeEight_15 (E : wo_E) (mc ms : Nat) (Post : Int64 → wo_W → Prop) : Nat → wo_W → Nat → Nat → Nat → Int32 → Int64 → Int32 → Prop
  | 0 => fun _ _ _ _ _ _ _ => False
  | n + 1 => fun G c s x0 x1 x2 x4 => ((x1 ≤ x4 → wo_ty G x0 = 7 ∧ en_bs E ≤ x0 ∧ ∀ G3 : wo_W, G3 = wo_si G 389 x0 ((wo_gi G 389 x0) - x1) → 
    ∀ r5 : Option Nat, r5 = wo_gr G3 386 x0 → ∀ r7 : Option Nat, r7 = wo_gr G3 386 x0 → ∃ a9 : Nat, r5 = some a9 ∧ ∃ a10 : Nat, r7 = some a10 ∧ wo_ty G3 a9 = 69 ∧ wo_ty G3 a10 = 69 ∧ ¬ x1 < 0 ∧ ¬ (0 : Int32) < 0 ∧ ¬ (wo_gi G3 389 x0) < 0 ∧ x1.toNatClampNeg + (wo_gi G3 389 x0).toNatClampNeg ≤ wo_len G3 a9 ∧ (0 : Int32).toNatClampNeg + (wo_gi G3 389 x0).toNatClampNeg ≤ wo_len G3 a10 ∧ en_bs E ≤ a10 ∧ wo_fitA .char G3 a9 ∧ ∀ G20 : wo_W, G20 = wo_cpI G3 a9 a10 x1.toNatClampNeg (0 : Int32).toNatClampNeg (wo_gi G3 389 x0).toNatClampNeg → 
    Post x2 G20) ∧
  (¬ x1 ≤ x4 → wo_ty G x0 = 7 ∧ ∀ r23 : Option Nat, r23 = wo_gr G 386 x0 → ∃ a25 : Nat, r23 = some a25 ∧ wo_ty G a25 = 69 ∧ vp_in x4 (wo_len G a25) ∧ pq_Cn_takeEight_15 E mc ms Post n G c s x0 x1 ((x2 * (256 : Int64)) + (wo_ei G a25 x4.toNatClampNeg).toInt64) (x4 + (1 : Int32))))
set_option maxRecDepth 100000 in
def pq_Cn_takeEight_0 (E : wo_E) (mc ms : Nat) (Post : Int64 → wo_W → Prop) (G : wo_W) (c s : Nat) (x0 : Nat) : Prop := wo_ty G x0 = 7 ∧ ∃ n1 : Nat, pq_Cn_takeEight_15 E mc ms Post n1 G c s x0 (wo_min (8 : Int32) (wo_gi G 389 x0)) (0 : Int64) (0 : Int32)
def pq_Cn_takeEight (E : wo_E) (mc ms : Nat) (Post : Int64 → wo_W → Prop) (G : wo_W) (x0 : Nat) : Prop := pq_Cn_takeEight_0 E mc ms Post G 0 0 x0
set_option maxRecDepth 100000 in
set_option maxHeartbeats 4000000 in
theorem tq_Cn_takeEight_15 {p : Program} {l : Launch} {e : Env} {R : Room} {s₀ : State} {m : MethodId} {args : Array Value} {below : List Frame} {meth : Method} {cd : Code} {E : wo_E} {mc ms : Nat} {Post : Int64 → wo_W → Prop} (hC : wo_Cx E "EdgeCache$Connection" prog_2_method_7_code 5 1 28 ((Option.some Jvm.ClassFile.FieldType.long)) "takeEight" mc ms p R s₀ m args meth cd) : ∀ n : Nat, ∀ {G : wo_W} {c s : Nat} {x0 : Nat} {x1 : Int32} {x2 : Int64} {x4 : Int32}, pq_Cn_takeEight_15 E mc ms Post n G c s x0 x1 x2 x4 → ∀ {H : Heap} {locs : List Loc} {ls : Array Slot}, wo_Se E G H → va_S (en_A E) s₀.heap H locs → lx_has ls 5 [(0, 1, .ref x0), (1, 1, .int x1), (2, 2, .long x2), (4, 1, .int x4)] → c ≤ mc → s ≤ ms → W p l e R s₀ m args below meth cd H locs c s (MQ below (va_Ql Post (wo_B E) (en_A E)) args s₀ mc ms (en_A E)) (F0 m 15 ls []) := by
  intro n
  induction n with
  | zero => intro G c s x0 x1 x2 x4 hw; exact hw.elim
  | succ n ih =>
    intro G c s x0 x1 x2 x4 hw H locs ls hG hS hl hcc hss
    dsimp only [pq_Cn_takeEight_15] at hw
    have hx := hC.1
    have hb := hC.2.1
    refine lv_iload hx hb dq_Cn_takeEight_15 (lx_at hl 3 rfl) ?_
    refine lv_iload_n hx hb dq_Cn_takeEight_17 rfl (lx_at hl 1 rfl) ?_
    refine lv_icmp_ge (tgt := 42) hx hb dq_Cn_takeEight_18 rfl (fun h => ?_) (fun h => ?_)
    · replace hw := hw.1 h
      refine lv_aload_n hx hb dq_Cn_takeEight_42 rfl (lx_at hl 0 rfl) ?_
      refine lv_dup hx hb dq_Cn_takeEight_43 rfl ?_
      obtain ⟨t1, hw⟩ := hw
      refine wo_getI hC fq_Cn_38 rfl hG t1 dq_Cn_takeEight_44 ?_
      refine lv_iload_n hx hb dq_Cn_takeEight_47 rfl (lx_at hl 1 rfl) ?_
      refine lv_isub hx hb dq_Cn_takeEight_48 ?_
      obtain ⟨h2, hw⟩ := hw
      refine wo_putI hC fq_Cn_38 (Or.inl rfl) rfl (wo_ok_int _) hG hS t1 h2 dq_Cn_takeEight_49 (fun G3 H locs e4 hG hS => ?_)
      replace hw := hw G3 e4
      refine lv_aload_n hx hb dq_Cn_takeEight_52 rfl (lx_at hl 0 rfl) ?_
      refine wo_getR hC fq_Cn_22 rfl hG (ty_si e4 t1) dq_Cn_takeEight_53 (fun r5 e6 => ?_)
      replace hw := hw r5 e6
      refine lv_iload_n hx hb dq_Cn_takeEight_56 rfl (lx_at hl 1 rfl) ?_
      refine lv_aload_n hx hb dq_Cn_takeEight_57 rfl (lx_at hl 0 rfl) ?_
      refine wo_getR hC fq_Cn_22 rfl hG (ty_si e4 t1) dq_Cn_takeEight_58 (fun r7 e8 => ?_)
      replace hw := hw r7 e8
      refine lv_iconst (v := (0 : Int32)) hx hb dq_Cn_takeEight_61 rfl ?_
      refine lv_aload_n hx hb dq_Cn_takeEight_62 rfl (lx_at hl 0 rfl) ?_
      refine wo_getI hC fq_Cn_38 rfl hG (ty_si e4 t1) dq_Cn_takeEight_63 ?_
      obtain ⟨a9, rfl, hw⟩ := hw
      obtain ⟨a10, rfl, hw⟩ := hw
      obtain ⟨t11, hw⟩ := hw
      obtain ⟨t12, hw⟩ := hw
      obtain ⟨h13, hw⟩ := hw
      obtain ⟨h14, hw⟩ := hw
      obtain ⟨h15, hw⟩ := hw
      obtain ⟨h16, hw⟩ := hw
      obtain ⟨h17, hw⟩ := hw
      obtain ⟨h18, hw⟩ := hw
      obtain ⟨h19, hw⟩ := hw
      refine wo_cpyI (j := 5) hC rfl rfl lq_Cn_69 (lx_sz hl) hG hS t11 t12 h13 h14 h15 h16 h17 h18 h19 (by decide) (lx_rk (Nat.le_of_ble_eq_true rfl)) dq_Cn_takeEight_66 (fun G20 H locs e21 hG hS => ?_)
      replace hw := hw G20 e21
      refine lv_lload_n hx hb dq_Cn_takeEight_69 rfl (lx_at hl 2 rfl) ?_
      exact wo_lret hC hG hS hcc hss hw dq_Cn_takeEight_70
    · replace hw := hw.2 h
      refine lv_lload_n hx hb dq_Cn_takeEight_21 rfl (lx_at hl 2 rfl) ?_
      refine lv_ldc2 hx hb hC.2.2.2.2.2.1 (hC.2.2.2.2.2.2.1 _ cq_Cn_67) dq_Cn_takeEight_22 ?_
      refine lv_lmul hx hb dq_Cn_takeEight_25 ?_
      refine lv_aload_n hx hb dq_Cn_takeEight_26 rfl (lx_at hl 0 rfl) ?_
      obtain ⟨t22, hw⟩ := hw
      refine wo_getR hC fq_Cn_22 rfl hG t22 dq_Cn_takeEight_27 (fun r23 e24 => ?_)
      replace hw := hw r23 e24
      refine lv_iload hx hb dq_Cn_takeEight_30 (lx_at hl 3 rfl) ?_
      obtain ⟨a25, rfl, hw⟩ := hw
      obtain ⟨t26, hw⟩ := hw
      obtain ⟨h27, hw⟩ := hw
      refine wo_cald (j := 5) hC rfl hG t26 h27 dq_Cn_takeEight_32 ?_
      refine lv_i2l (v := (wo_ei G a25 x4.toNatClampNeg).toInt64) hx hb dq_Cn_takeEight_33 rfl ?_
      refine lv_ladd hx hb dq_Cn_takeEight_34 ?_
      refine lx_lstore_n (lv' := [(2, 2, .long ((x2 * (256 : Int64)) + (wo_ei G a25 x4.toNatClampNeg).toInt64)), (0, 1, .ref x0), (1, 1, .int x1), (4, 1, .int x4)]) hx hb dq_Cn_takeEight_35 rfl hl (by decide) rfl (fun ls hl' => ?_)
      clear hl
      have hl := hl'
      clear hl'
      refine lx_iinc (k := 3) (v := (x4 + (1 : Int32))) (lv' := [(4, 1, .int (x4 + (1 : Int32))), (2, 2, .long ((x2 * (256 : Int64)) + (wo_ei G a25 x4.toNatClampNeg).toInt64)), (0, 1, .ref x0), (1, 1, .int x1)]) hx hb dq_Cn_takeEight_36 hl rfl rfl (by decide) rfl (fun ls hl' => ?_)
      clear hl
      have hl := hl'
      clear hl'
      refine lv_goto (tgt := 15) hx hb dq_Cn_takeEight_39 rfl ?_
      exact ih hw hG hS (lx_sub hl [2, 3, 1, 0] rfl) hcc hss
set_option maxRecDepth 100000 in
set_option maxHeartbeats 4000000 in
theorem tq_Cn_takeEight_0 {p : Program} {l : Launch} {e : Env} {R : Room} {s₀ : State} {m : MethodId} {args : Array Value} {below : List Frame} {meth : Method} {cd : Code} {E : wo_E} {mc ms : Nat} {Post : Int64 → wo_W → Prop} (hC : wo_Cx E "EdgeCache$Connection" prog_2_method_7_code 5 1 28 ((Option.some Jvm.ClassFile.FieldType.long)) "takeEight" mc ms p R s₀ m args meth cd) : ∀ {G : wo_W} {c s : Nat} {x0 : Nat}, pq_Cn_takeEight_0 E mc ms Post G c s x0 → ∀ {H : Heap} {locs : List Loc} {ls : Array Slot}, wo_Se E G H → va_S (en_A E) s₀.heap H locs → lx_has ls 5 [(0, 1, .ref x0)] → c ≤ mc → s ≤ ms → W p l e R s₀ m args below meth cd H locs c s (MQ below (va_Ql Post (wo_B E) (en_A E)) args s₀ mc ms (en_A E)) (F0 m 0 ls []) := by
  intro G c s x0 hw H locs ls hG hS hl hcc hss
  dsimp only [pq_Cn_takeEight_0] at hw
  have hx := hC.1
  have hb := hC.2.1
  refine lv_bipush (v := (8 : Int32)) hx hb dq_Cn_takeEight_0 rfl ?_
  refine lv_aload_n hx hb dq_Cn_takeEight_2 rfl (lx_at hl 0 rfl) ?_
  obtain ⟨t1, hw⟩ := hw
  refine wo_getI hC fq_Cn_38 rfl hG t1 dq_Cn_takeEight_3 ?_
  refine wo_mmin hC lq_Cn_61 (lx_sz hl) hcc hss (by decide) (lx_rk (Nat.le_of_ble_eq_true rfl)) dq_Cn_takeEight_6 ?_
  refine lx_istore_n (lv' := [(1, 1, .int (wo_min (8 : Int32) (wo_gi G 389 x0))), (0, 1, .ref x0)]) hx hb dq_Cn_takeEight_9 rfl hl (by decide) rfl (fun ls hl' => ?_)
  clear hl
  have hl := hl'
  clear hl'
  refine lv_lconst (v := (0 : Int64)) hx hb dq_Cn_takeEight_10 rfl ?_
  refine lx_lstore_n (lv' := [(2, 2, .long (0 : Int64)), (1, 1, .int (wo_min (8 : Int32) (wo_gi G 389 x0))), (0, 1, .ref x0)]) hx hb dq_Cn_takeEight_11 rfl hl (by decide) rfl (fun ls hl' => ?_)
  clear hl
  have hl := hl'
  clear hl'
  refine lv_iconst (v := (0 : Int32)) hx hb dq_Cn_takeEight_12 rfl ?_
  refine lx_istore (lv' := [(4, 1, .int (0 : Int32)), (2, 2, .long (0 : Int64)), (1, 1, .int (wo_min (8 : Int32) (wo_gi G 389 x0))), (0, 1, .ref x0)]) hx hb dq_Cn_takeEight_13 hl (by decide) rfl (fun ls hl' => ?_)
  clear hl
  have hl := hl'
  clear hl'
  obtain ⟨n1, hw⟩ := hw
  exact tq_Cn_takeEight_15 hC n1 hw hG hS (lx_sub hl [3, 2, 1, 0] rfl) hcc hss
set_option maxHeartbeats 4000000 in
theorem mq_Cn_takeEight {l : Launch} {E : wo_E} {mc ms : Nat} {Post : Int64 → wo_W → Prop} {G : wo_W} {x0 : Nat} (hw : pq_Cn_takeEight E mc ms Post G x0) : Met l yq_Cn_takeEight (Cond.code yq_Cn_takeEight prog_2_method_7_code 5 ((Option.some Jvm.ClassFile.FieldType.long)) :: vw_WG) { frames := 1, cells := mc, slots := ms, locals := 28 } (va_Pc [.ref x0] (wo_Ok E G)) (va_Ql Post (wo_B E) (en_A E)) mc ms (en_A E) := by
  unfold pq_Cn_takeEight at hw
  exact wo_met [(1, .ref x0)] rfl (by decide) (fun q hq => by simp only [List.mem_cons, List.not_mem_nil, or_false] at hq; rcases hq with rfl <;> first | rfl | exact lx_cR _) (Nat.le_of_ble_eq_true rfl) (fun p e R s m args below meth cd ls hC hG hS hl => tq_Cn_takeEight_0 hC hw hG hS (lx_sub hl [0] rfl) (Nat.zero_le _) (Nat.zero_le _))
