theorem dq_Md_direct_0 : decode prog_14_method_44_code 0 = .ok (.aload_n 0, 1) := by decide +kernel
theorem dq_Md_direct_1 : decode prog_14_method_44_code 1 = .ok (.getfield 41, 3) := by decide +kernel
theorem dq_Md_direct_4 : decode prog_14_method_44_code 4 = .ok (.bipush 8, 2) := by decide +kernel
theorem dq_Md_direct_6 : decode prog_14_method_44_code 6 = .ok (.iaload, 1) := by decide +kernel
theorem dq_Md_direct_7 : decode prog_14_method_44_code 7 = .ok (.iconst 1, 1) := by decide +kernel
theorem dq_Md_direct_8 : decode prog_14_method_44_code 8 = .ok (.if_icmp .le 18, 3) := by decide +kernel
theorem dq_Md_direct_11 : decode prog_14_method_44_code 11 = .ok (.aload_n 0, 1) := by decide +kernel
theorem dq_Md_direct_12 : decode prog_14_method_44_code 12 = .ok (.bipush 8, 2) := by decide +kernel
theorem dq_Md_direct_14 : decode prog_14_method_44_code 14 = .ok (.invokevirtual 334, 3) := by decide +kernel
theorem dq_Md_direct_17 : decode prog_14_method_44_code 17 = .ok (.istore_n 1, 1) := by decide +kernel
theorem dq_Md_direct_18 : decode prog_14_method_44_code 18 = .ok (.aload_n 0, 1) := by decide +kernel
theorem dq_Md_direct_19 : decode prog_14_method_44_code 19 = .ok (.bipush 8, 2) := by decide +kernel
theorem dq_Md_direct_21 : decode prog_14_method_44_code 21 = .ok (.iload_n 1, 1) := by decide +kernel
theorem dq_Md_direct_22 : decode prog_14_method_44_code 22 = .ok (.invokevirtual 337, 3) := by decide +kernel
theorem dq_Md_direct_25 : decode prog_14_method_44_code 25 = .ok (.return_, 1) := by decide +kernel
theorem dq_Md_direct_26 : decode prog_14_method_44_code 26 = .ok (.aload_n 0, 1) := by decide +kernel
theorem dq_Md_direct_27 : decode prog_14_method_44_code 27 = .ok (.bipush 8, 2) := by decide +kernel
theorem dq_Md_direct_29 : decode prog_14_method_44_code 29 = .ok (.bipush 38, 2) := by decide +kernel
theorem dq_Md_direct_31 : decode prog_14_method_44_code 31 = .ok (.invokevirtual 340, 3) := by decide +kernel
theorem dq_Md_direct_34 : decode prog_14_method_44_code 34 = .ok (.istore_n 1, 1) := by decide +kernel
theorem dq_Md_direct_35 : decode prog_14_method_44_code 35 = .ok (.iload_n 1, 1) := by decide +kernel
theorem dq_Md_direct_36 : decode prog_14_method_44_code 36 = .ok (.sipush 200, 3) := by decide +kernel
theorem dq_Md_direct_39 : decode prog_14_method_44_code 39 = .ok (.if_icmp .ne 15, 3) := by decide +kernel
theorem dq_Md_direct_42 : decode prog_14_method_44_code 42 = .ok (.aload_n 0, 1) := by decide +kernel
theorem dq_Md_direct_43 : decode prog_14_method_44_code 43 = .ok (.bipush 8, 2) := by decide +kernel
theorem dq_Md_direct_45 : decode prog_14_method_44_code 45 = .ok (.bipush 38, 2) := by decide +kernel
theorem dq_Md_direct_47 : decode prog_14_method_44_code 47 = .ok (.iconst (-1), 1) := by decide +kernel
theorem dq_Md_direct_48 : decode prog_14_method_44_code 48 = .ok (.invokevirtual 343, 3) := by decide +kernel
theorem dq_Md_direct_51 : decode prog_14_method_44_code 51 = .ok (.goto 9, 3) := by decide +kernel
theorem dq_Md_direct_54 : decode prog_14_method_44_code 54 = .ok (.aload_n 0, 1) := by decide +kernel
theorem dq_Md_direct_55 : decode prog_14_method_44_code 55 = .ok (.iload_n 1, 1) := by decide +kernel
theorem dq_Md_direct_56 : decode prog_14_method_44_code 56 = .ok (.invokevirtual 190, 3) := by decide +kernel
theorem dq_Md_direct_59 : decode prog_14_method_44_code 59 = .ok (.pop, 1) := by decide +kernel
theorem dq_Md_direct_60 : decode prog_14_method_44_code 60 = .ok (.return_, 1) := by decide +kernel
set_option maxRecDepth 100000 in
def pq_Md_direct_60 (E : wo_E) (mc ms : Nat) (Post : wo_W → Prop) (G : wo_W) (c s : Nat) : Prop := Post G
set_option maxRecDepth 100000 in
def pq_Md_direct_0 (E : wo_E) (mc ms : Nat) (Post : wo_W → Prop) (G : wo_W) (c s : Nat) (x0 : Nat) : Prop := wo_ty G x0 = 15 ∧ ∀ r2 : Option Nat, r2 = wo_gr G 907 x0 → ∃ a4 : Nat, r2 = some a4 ∧ wo_ty G a4 = 66 ∧ vp_in (8 : Int32) (wo_len G a4) ∧ (((wo_ei G a4 (8 : Int32).toNatClampNeg) ≤ (1 : Int32) → ∃ mc7 ms8 : Nat, (c + mc7) ≤ mc ∧ (s + ms8) ≤ ms ∧ pq_Md_ask E mc7 ms8 (fun v10 G9 => 
    ((¬ v10 = (200 : Int32) → wo_ty G9 x0 = 15 ∧ ∃ mc12 ms13 : Nat, ((c + mc7) + mc12) ≤ mc ∧ ((s + ms8) + ms13) ≤ ms ∧ pq_Md_plain E mc12 ms13 (fun v15 G14 => 
        pq_Md_direct_60 E mc ms Post G14 ((c + mc7) + mc12) ((s + ms8) + ms13)) G9 x0 v10) ∧
      (v10 = (200 : Int32) → wo_ty G9 x0 = 15 ∧ ∃ mc17 ms18 : Nat, ((c + mc7) + mc17) ≤ mc ∧ ((s + ms8) + ms18) ≤ ms ∧ pq_Md_select E mc17 ms18 (fun G19 => 
        pq_Md_direct_60 E mc ms Post G19 ((c + mc7) + mc17) ((s + ms8) + ms18)) G9 x0 (8 : Int32) (38 : Int32) (-1 : Int32)))) G x0 (8 : Int32) (38 : Int32)) ∧
  (¬ (wo_ei G a4 (8 : Int32).toNatClampNeg) ≤ (1 : Int32) → ∃ mc20 ms21 : Nat, (c + mc20) ≤ mc ∧ (s + ms21) ≤ ms ∧ pq_Md_change E mc20 ms21 (fun v23 G22 => 
    wo_ty G22 x0 = 15 ∧ ∃ mc25 ms26 : Nat, ((c + mc20) + mc25) ≤ mc ∧ ((s + ms21) + ms26) ≤ ms ∧ pq_Md_changed E mc25 ms26 (fun G27 => 
      Post G27) G22 x0 (8 : Int32) v23) G x0 (8 : Int32)))
def pq_Md_direct (E : wo_E) (mc ms : Nat) (Post : wo_W → Prop) (G : wo_W) (x0 : Nat) : Prop := pq_Md_direct_0 E mc ms Post G 0 0 x0
set_option maxRecDepth 100000 in
set_option maxHeartbeats 4000000 in
theorem tq_Md_direct_60 {p : Program} {l : Launch} {e : Env} {R : Room} {s₀ : State} {m : MethodId} {args : Array Value} {below : List Frame} {meth : Method} {cd : Code} {E : wo_E} {mc ms : Nat} {Post : wo_W → Prop} (hC : wo_Cx E "EdgeCacheModel" prog_14_method_44_code 2 6 146 ((Option.none : Option Jvm.ClassFile.FieldType)) "direct" mc ms p R s₀ m args meth cd) : ∀ {G : wo_W} {c s : Nat}, pq_Md_direct_60 E mc ms Post G c s → ∀ {H : Heap} {locs : List Loc} {ls : Array Slot}, wo_Se E G H → va_S (en_A E) s₀.heap H locs → lx_has ls 2 [] → c ≤ mc → s ≤ ms → W p l e R s₀ m args below meth cd H locs c s (MQ below (va_Qv Post (wo_B E) (en_A E)) args s₀ mc ms (en_A E)) (F0 m 60 ls []) := by
  intro G c s hw H locs ls hG hS hl hcc hss
  dsimp only [pq_Md_direct_60] at hw
  have hx := hC.1
  have hb := hC.2.1
  exact wo_vret hC hG hS hcc hss hw dq_Md_direct_60
set_option maxRecDepth 100000 in
set_option maxHeartbeats 4000000 in
theorem tq_Md_direct_0 {p : Program} {l : Launch} {e : Env} {R : Room} {s₀ : State} {m : MethodId} {args : Array Value} {below : List Frame} {meth : Method} {cd : Code} {E : wo_E} {mc ms : Nat} {Post : wo_W → Prop} (hC : wo_Cx E "EdgeCacheModel" prog_14_method_44_code 2 6 146 ((Option.none : Option Jvm.ClassFile.FieldType)) "direct" mc ms p R s₀ m args meth cd) : ∀ {G : wo_W} {c s : Nat} {x0 : Nat}, pq_Md_direct_0 E mc ms Post G c s x0 → ∀ {H : Heap} {locs : List Loc} {ls : Array Slot}, wo_Se E G H → va_S (en_A E) s₀.heap H locs → lx_has ls 2 [(0, 1, .ref x0)] → c ≤ mc → s ≤ ms → W p l e R s₀ m args below meth cd H locs c s (MQ below (va_Qv Post (wo_B E) (en_A E)) args s₀ mc ms (en_A E)) (F0 m 0 ls []) := by
  intro G c s x0 hw H locs ls hG hS hl hcc hss
  dsimp only [pq_Md_direct_0] at hw
  have hx := hC.1
  have hb := hC.2.1
  refine lv_aload_n hx hb dq_Md_direct_0 rfl (lx_at hl 0 rfl) ?_
  obtain ⟨t1, hw⟩ := hw
  refine wo_getR hC fq_Md_41 rfl hG t1 dq_Md_direct_1 (fun r2 e3 => ?_)
  replace hw := hw r2 e3
  refine lv_bipush (v := (8 : Int32)) hx hb dq_Md_direct_4 rfl ?_
  obtain ⟨a4, rfl, hw⟩ := hw
  obtain ⟨t5, hw⟩ := hw
  obtain ⟨h6, hw⟩ := hw
  refine wo_iald (j := 2) hC rfl hG t5 h6 dq_Md_direct_6 ?_
  refine lv_iconst (v := (1 : Int32)) hx hb dq_Md_direct_7 rfl ?_
  refine lv_icmp_le (tgt := 26) hx hb dq_Md_direct_8 rfl (fun h => ?_) (fun h => ?_)
  · replace hw := hw.1 h
    refine lv_aload_n hx hb dq_Md_direct_26 rfl (lx_at hl 0 rfl) ?_
    refine lv_bipush (v := (8 : Int32)) hx hb dq_Md_direct_27 rfl ?_
    refine lv_bipush (v := (38 : Int32)) hx hb dq_Md_direct_29 rfl ?_
    obtain ⟨mc7, ms8, hc1, hs1, hw⟩ := hw
    refine va_calli (wo_runV hC lq_Md_340 (mq_Md_ask hw) hG hS t1 rfl (lx_sz hl) rfl (Nat.zero_le _) (by decide) dq_Md_direct_31 ⟨hc1, hs1⟩) hS (fun _ _ h => h) (fun _ h => h) (fun v10 G9 t H locs ht hvm hw' hB _ _ hS => ?_)
    clear hw
    have hw := hw'
    clear hw'
    replace hG := wo_bk ht hB
    replace hcc := hc1
    replace hss := hs1
    refine lx_istore_n (lv' := [(1, 1, .int v10), (0, 1, .ref x0)]) hx hb dq_Md_direct_34 rfl hl (by decide) rfl (fun ls hl' => ?_)
    clear hl
    have hl := hl'
    clear hl'
    refine lv_iload_n hx hb dq_Md_direct_35 rfl (lx_at hl 0 rfl) ?_
    refine lv_sipush (v := (200 : Int32)) hx hb dq_Md_direct_36 rfl ?_
    refine lv_icmp_ne (tgt := 54) hx hb dq_Md_direct_39 rfl (fun h => ?_) (fun h => ?_)
    · replace hw := hw.1 h
      refine lv_aload_n hx hb dq_Md_direct_54 rfl (lx_at hl 1 rfl) ?_
      refine lv_iload_n hx hb dq_Md_direct_55 rfl (lx_at hl 0 rfl) ?_
      obtain ⟨t11, hw⟩ := hw
      obtain ⟨mc12, ms13, hc1, hs1, hw⟩ := hw
      refine va_calli (wo_runV hC lq_Md_190 (mq_Md_plain hw) hG hS t11 rfl (lx_sz hl) rfl (Nat.zero_le _) (by decide) dq_Md_direct_56 ⟨hc1, hs1⟩) hS (fun _ _ h => h) (fun _ h => h) (fun v15 G14 t H locs ht hvm hw' hB _ _ hS => ?_)
      clear hw
      have hw := hw'
      clear hw'
      replace hG := wo_bk ht hB
      replace hcc := hc1
      replace hss := hs1
      refine lv_pop hx hb dq_Md_direct_59 rfl ?_
      exact tq_Md_direct_60 hC hw hG hS (lx_sub hl [] rfl) hcc hss
    · replace hw := hw.2 h
      refine lv_aload_n hx hb dq_Md_direct_42 rfl (lx_at hl 1 rfl) ?_
      refine lv_bipush (v := (8 : Int32)) hx hb dq_Md_direct_43 rfl ?_
      refine lv_bipush (v := (38 : Int32)) hx hb dq_Md_direct_45 rfl ?_
      refine lv_iconst (v := (-1 : Int32)) hx hb dq_Md_direct_47 rfl ?_
      obtain ⟨t16, hw⟩ := hw
      obtain ⟨mc17, ms18, hc1, hs1, hw⟩ := hw
      refine va_callv (wo_runV hC lq_Md_343 (mq_Md_select hw) hG hS t16 rfl (lx_sz hl) rfl (Nat.zero_le _) (by decide) dq_Md_direct_48 ⟨hc1, hs1⟩) hS (fun _ _ h => h) (fun _ h => h) (fun G19 t H locs ht hvm hw' hB _ _ hS => ?_)
      clear hw
      have hw := hw'
      clear hw'
      replace hG := wo_bk ht hB
      replace hcc := hc1
      replace hss := hs1
      refine lv_goto (tgt := 60) hx hb dq_Md_direct_51 rfl ?_
      exact tq_Md_direct_60 hC hw hG hS (lx_sub hl [] rfl) hcc hss
  · replace hw := hw.2 h
    refine lv_aload_n hx hb dq_Md_direct_11 rfl (lx_at hl 0 rfl) ?_
    refine lv_bipush (v := (8 : Int32)) hx hb dq_Md_direct_12 rfl ?_
    obtain ⟨mc20, ms21, hc1, hs1, hw⟩ := hw
    refine va_calli (wo_runV hC lq_Md_334 (mq_Md_change hw) hG hS t1 rfl (lx_sz hl) rfl (Nat.zero_le _) (by decide) dq_Md_direct_14 ⟨hc1, hs1⟩) hS (fun _ _ h => h) (fun _ h => h) (fun v23 G22 t H locs ht hvm hw' hB _ _ hS => ?_)
    clear hw
    have hw := hw'
    clear hw'
    replace hG := wo_bk ht hB
    replace hcc := hc1
    replace hss := hs1
    refine lx_istore_n (lv' := [(1, 1, .int v23), (0, 1, .ref x0)]) hx hb dq_Md_direct_17 rfl hl (by decide) rfl (fun ls hl' => ?_)
    clear hl
    have hl := hl'
    clear hl'
    refine lv_aload_n hx hb dq_Md_direct_18 rfl (lx_at hl 1 rfl) ?_
    refine lv_bipush (v := (8 : Int32)) hx hb dq_Md_direct_19 rfl ?_
    refine lv_iload_n hx hb dq_Md_direct_21 rfl (lx_at hl 0 rfl) ?_
    obtain ⟨t24, hw⟩ := hw
    obtain ⟨mc25, ms26, hc1, hs1, hw⟩ := hw
    refine va_callv (wo_runV hC lq_Md_337 (mq_Md_changed hw) hG hS t24 rfl (lx_sz hl) rfl (Nat.zero_le _) (by decide) dq_Md_direct_22 ⟨hc1, hs1⟩) hS (fun _ _ h => h) (fun _ h => h) (fun G27 t H locs ht hvm hw' hB _ _ hS => ?_)
    clear hw
    have hw := hw'
    clear hw'
    replace hG := wo_bk ht hB
    replace hcc := hc1
    replace hss := hs1
    exact wo_vret hC hG hS hcc hss hw dq_Md_direct_25
set_option maxHeartbeats 4000000 in
theorem mq_Md_direct {l : Launch} {E : wo_E} {mc ms : Nat} {Post : wo_W → Prop} {G : wo_W} {x0 : Nat} (hw : pq_Md_direct E mc ms Post G x0) : Met l yq_Md_direct (Cond.code yq_Md_direct prog_14_method_44_code 2 ((Option.none : Option Jvm.ClassFile.FieldType)) :: vw_WG) { frames := 6, cells := mc, slots := ms, locals := 146 } (va_Pc [.ref x0] (wo_Ok E G)) (va_Qv Post (wo_B E) (en_A E)) mc ms (en_A E) := by
  unfold pq_Md_direct at hw
  exact wo_met [(1, .ref x0)] rfl (by decide) (fun q hq => by simp only [List.mem_cons, List.not_mem_nil, or_false] at hq; rcases hq with rfl <;> first | rfl | exact lx_cR _) (Nat.le_of_ble_eq_true rfl) (fun p e R s m args below meth cd ls hC hG hS hl => tq_Md_direct_0 hC hw hG hS (lx_sub hl [0] rfl) (Nat.zero_le _) (Nat.zero_le _))

theorem dq_Md_finish_0 : decode prog_14_method_34_code 0 = .ok (.iconst 4, 1) := by decide +kernel
theorem dq_Md_finish_1 : decode prog_14_method_34_code 1 = .ok (.iload_n 1, 1) := by decide +kernel
theorem dq_Md_finish_2 : decode prog_14_method_34_code 2 = .ok (.imul, 1) := by decide +kernel
theorem dq_Md_finish_3 : decode prog_14_method_34_code 3 = .ok (.iload_n 2, 1) := by decide +kernel
theorem dq_Md_finish_4 : decode prog_14_method_34_code 4 = .ok (.iconst 4, 1) := by decide +kernel
theorem dq_Md_finish_5 : decode prog_14_method_34_code 5 = .ok (.irem, 1) := by decide +kernel
theorem dq_Md_finish_6 : decode prog_14_method_34_code 6 = .ok (.iadd, 1) := by decide +kernel
theorem dq_Md_finish_7 : decode prog_14_method_34_code 7 = .ok (.istore_n 3, 1) := by decide +kernel
theorem dq_Md_finish_8 : decode prog_14_method_34_code 8 = .ok (.iconst 0, 1) := by decide +kernel
theorem dq_Md_finish_9 : decode prog_14_method_34_code 9 = .ok (.istore 4, 2) := by decide +kernel
theorem dq_Md_finish_11 : decode prog_14_method_34_code 11 = .ok (.iload 4, 2) := by decide +kernel
theorem dq_Md_finish_13 : decode prog_14_method_34_code 13 = .ok (.aload_n 0, 1) := by decide +kernel
theorem dq_Md_finish_14 : decode prog_14_method_34_code 14 = .ok (.getfield 267, 3) := by decide +kernel
theorem dq_Md_finish_17 : decode prog_14_method_34_code 17 = .ok (.if_icmp .ge 28, 3) := by decide +kernel
theorem dq_Md_finish_20 : decode prog_14_method_34_code 20 = .ok (.aload_n 0, 1) := by decide +kernel
theorem dq_Md_finish_21 : decode prog_14_method_34_code 21 = .ok (.getfield 26, 3) := by decide +kernel
theorem dq_Md_finish_24 : decode prog_14_method_34_code 24 = .ok (.bipush 96, 2) := by decide +kernel
theorem dq_Md_finish_26 : decode prog_14_method_34_code 26 = .ok (.iload_n 3, 1) := by decide +kernel
theorem dq_Md_finish_27 : decode prog_14_method_34_code 27 = .ok (.imul, 1) := by decide +kernel
theorem dq_Md_finish_28 : decode prog_14_method_34_code 28 = .ok (.iload 4, 2) := by decide +kernel
theorem dq_Md_finish_30 : decode prog_14_method_34_code 30 = .ok (.iadd, 1) := by decide +kernel
theorem dq_Md_finish_31 : decode prog_14_method_34_code 31 = .ok (.aload_n 0, 1) := by decide +kernel
theorem dq_Md_finish_32 : decode prog_14_method_34_code 32 = .ok (.getfield 38, 3) := by decide +kernel
theorem dq_Md_finish_35 : decode prog_14_method_34_code 35 = .ok (.iload 4, 2) := by decide +kernel
theorem dq_Md_finish_37 : decode prog_14_method_34_code 37 = .ok (.iaload, 1) := by decide +kernel
theorem dq_Md_finish_38 : decode prog_14_method_34_code 38 = .ok (.iastore, 1) := by decide +kernel
theorem dq_Md_finish_39 : decode prog_14_method_34_code 39 = .ok (.iinc 4 1, 3) := by decide +kernel
theorem dq_Md_finish_42 : decode prog_14_method_34_code 42 = .ok (.goto (-31), 3) := by decide +kernel
theorem dq_Md_finish_45 : decode prog_14_method_34_code 45 = .ok (.aload_n 0, 1) := by decide +kernel
theorem dq_Md_finish_46 : decode prog_14_method_34_code 46 = .ok (.getfield 29, 3) := by decide +kernel
theorem dq_Md_finish_49 : decode prog_14_method_34_code 49 = .ok (.iload_n 3, 1) := by decide +kernel
theorem dq_Md_finish_50 : decode prog_14_method_34_code 50 = .ok (.aload_n 0, 1) := by decide +kernel
theorem dq_Md_finish_51 : decode prog_14_method_34_code 51 = .ok (.getfield 267, 3) := by decide +kernel
theorem dq_Md_finish_54 : decode prog_14_method_34_code 54 = .ok (.iastore, 1) := by decide +kernel
theorem dq_Md_finish_55 : decode prog_14_method_34_code 55 = .ok (.aload_n 0, 1) := by decide +kernel
theorem dq_Md_finish_56 : decode prog_14_method_34_code 56 = .ok (.getfield 35, 3) := by decide +kernel
theorem dq_Md_finish_59 : decode prog_14_method_34_code 59 = .ok (.iload_n 1, 1) := by decide +kernel
theorem dq_Md_finish_60 : decode prog_14_method_34_code 60 = .ok (.iaload, 1) := by decide +kernel
theorem dq_Md_finish_61 : decode prog_14_method_34_code 61 = .ok (.ifCond .le 121, 3) := by decide +kernel
theorem dq_Md_finish_64 : decode prog_14_method_34_code 64 = .ok (.aload_n 0, 1) := by decide +kernel
theorem dq_Md_finish_65 : decode prog_14_method_34_code 65 = .ok (.getfield 29, 3) := by decide +kernel
theorem dq_Md_finish_68 : decode prog_14_method_34_code 68 = .ok (.iconst 4, 1) := by decide +kernel
theorem dq_Md_finish_69 : decode prog_14_method_34_code 69 = .ok (.iload_n 1, 1) := by decide +kernel
theorem dq_Md_finish_70 : decode prog_14_method_34_code 70 = .ok (.imul, 1) := by decide +kernel
theorem dq_Md_finish_71 : decode prog_14_method_34_code 71 = .ok (.aload_n 0, 1) := by decide +kernel
theorem dq_Md_finish_72 : decode prog_14_method_34_code 72 = .ok (.getfield 32, 3) := by decide +kernel
theorem dq_Md_finish_75 : decode prog_14_method_34_code 75 = .ok (.iload_n 1, 1) := by decide +kernel
theorem dq_Md_finish_76 : decode prog_14_method_34_code 76 = .ok (.iaload, 1) := by decide +kernel
theorem dq_Md_finish_77 : decode prog_14_method_34_code 77 = .ok (.iconst 4, 1) := by decide +kernel
theorem dq_Md_finish_78 : decode prog_14_method_34_code 78 = .ok (.irem, 1) := by decide +kernel
theorem dq_Md_finish_79 : decode prog_14_method_34_code 79 = .ok (.iadd, 1) := by decide +kernel
theorem dq_Md_finish_80 : decode prog_14_method_34_code 80 = .ok (.iaload, 1) := by decide +kernel
theorem dq_Md_finish_81 : decode prog_14_method_34_code 81 = .ok (.ifCond .lt 101, 3) := by decide +kernel
theorem dq_Md_finish_84 : decode prog_14_method_34_code 84 = .ok (.iconst 4, 1) := by decide +kernel
theorem dq_Md_finish_85 : decode prog_14_method_34_code 85 = .ok (.iload_n 1, 1) := by decide +kernel
theorem dq_Md_finish_86 : decode prog_14_method_34_code 86 = .ok (.imul, 1) := by decide +kernel
theorem dq_Md_finish_87 : decode prog_14_method_34_code 87 = .ok (.aload_n 0, 1) := by decide +kernel
theorem dq_Md_finish_88 : decode prog_14_method_34_code 88 = .ok (.getfield 32, 3) := by decide +kernel
theorem dq_Md_finish_91 : decode prog_14_method_34_code 91 = .ok (.iload_n 1, 1) := by decide +kernel
theorem dq_Md_finish_92 : decode prog_14_method_34_code 92 = .ok (.iaload, 1) := by decide +kernel
theorem dq_Md_finish_93 : decode prog_14_method_34_code 93 = .ok (.iconst 4, 1) := by decide +kernel
theorem dq_Md_finish_94 : decode prog_14_method_34_code 94 = .ok (.irem, 1) := by decide +kernel
theorem dq_Md_finish_95 : decode prog_14_method_34_code 95 = .ok (.iadd, 1) := by decide +kernel
theorem dq_Md_finish_96 : decode prog_14_method_34_code 96 = .ok (.istore 4, 2) := by decide +kernel
theorem dq_Md_finish_98 : decode prog_14_method_34_code 98 = .ok (.iconst 0, 1) := by decide +kernel
theorem dq_Md_finish_99 : decode prog_14_method_34_code 99 = .ok (.istore 5, 2) := by decide +kernel
theorem dq_Md_finish_101 : decode prog_14_method_34_code 101 = .ok (.iload 5, 2) := by decide +kernel
theorem dq_Md_finish_103 : decode prog_14_method_34_code 103 = .ok (.aload_n 0, 1) := by decide +kernel
theorem dq_Md_finish_104 : decode prog_14_method_34_code 104 = .ok (.getfield 29, 3) := by decide +kernel
theorem dq_Md_finish_107 : decode prog_14_method_34_code 107 = .ok (.iload 4, 2) := by decide +kernel
theorem dq_Md_finish_109 : decode prog_14_method_34_code 109 = .ok (.iaload, 1) := by decide +kernel
theorem dq_Md_finish_110 : decode prog_14_method_34_code 110 = .ok (.if_icmp .ge 49, 3) := by decide +kernel
theorem dq_Md_finish_113 : decode prog_14_method_34_code 113 = .ok (.aload_n 0, 1) := by decide +kernel
theorem dq_Md_finish_114 : decode prog_14_method_34_code 114 = .ok (.getfield 20, 3) := by decide +kernel
theorem dq_Md_finish_117 : decode prog_14_method_34_code 117 = .ok (.sipush 640, 3) := by decide +kernel
theorem dq_Md_finish_120 : decode prog_14_method_34_code 120 = .ok (.iload_n 1, 1) := by decide +kernel
theorem dq_Md_finish_121 : decode prog_14_method_34_code 121 = .ok (.imul, 1) := by decide +kernel
theorem dq_Md_finish_122 : decode prog_14_method_34_code 122 = .ok (.aload_n 0, 1) := by decide +kernel
theorem dq_Md_finish_123 : decode prog_14_method_34_code 123 = .ok (.getfield 23, 3) := by decide +kernel
theorem dq_Md_finish_126 : decode prog_14_method_34_code 126 = .ok (.iload_n 1, 1) := by decide +kernel
theorem dq_Md_finish_127 : decode prog_14_method_34_code 127 = .ok (.iaload, 1) := by decide +kernel
theorem dq_Md_finish_128 : decode prog_14_method_34_code 128 = .ok (.iadd, 1) := by decide +kernel
theorem dq_Md_finish_129 : decode prog_14_method_34_code 129 = .ok (.aload_n 0, 1) := by decide +kernel
theorem dq_Md_finish_130 : decode prog_14_method_34_code 130 = .ok (.getfield 26, 3) := by decide +kernel
theorem dq_Md_finish_133 : decode prog_14_method_34_code 133 = .ok (.bipush 96, 2) := by decide +kernel
theorem dq_Md_finish_135 : decode prog_14_method_34_code 135 = .ok (.iload 4, 2) := by decide +kernel
theorem dq_Md_finish_137 : decode prog_14_method_34_code 137 = .ok (.imul, 1) := by decide +kernel
theorem dq_Md_finish_138 : decode prog_14_method_34_code 138 = .ok (.iload 5, 2) := by decide +kernel
theorem dq_Md_finish_140 : decode prog_14_method_34_code 140 = .ok (.iadd, 1) := by decide +kernel
theorem dq_Md_finish_141 : decode prog_14_method_34_code 141 = .ok (.iaload, 1) := by decide +kernel
theorem dq_Md_finish_142 : decode prog_14_method_34_code 142 = .ok (.iastore, 1) := by decide +kernel
theorem dq_Md_finish_143 : decode prog_14_method_34_code 143 = .ok (.aload_n 0, 1) := by decide +kernel
theorem dq_Md_finish_144 : decode prog_14_method_34_code 144 = .ok (.getfield 23, 3) := by decide +kernel
theorem dq_Md_finish_147 : decode prog_14_method_34_code 147 = .ok (.iload_n 1, 1) := by decide +kernel
theorem dq_Md_finish_148 : decode prog_14_method_34_code 148 = .ok (.dup2, 1) := by decide +kernel
theorem dq_Md_finish_149 : decode prog_14_method_34_code 149 = .ok (.iaload, 1) := by decide +kernel
theorem dq_Md_finish_150 : decode prog_14_method_34_code 150 = .ok (.iconst 1, 1) := by decide +kernel
theorem dq_Md_finish_151 : decode prog_14_method_34_code 151 = .ok (.iadd, 1) := by decide +kernel
theorem dq_Md_finish_152 : decode prog_14_method_34_code 152 = .ok (.iastore, 1) := by decide +kernel
theorem dq_Md_finish_153 : decode prog_14_method_34_code 153 = .ok (.iinc 5 1, 3) := by decide +kernel
theorem dq_Md_finish_156 : decode prog_14_method_34_code 156 = .ok (.goto (-55), 3) := by decide +kernel
theorem dq_Md_finish_159 : decode prog_14_method_34_code 159 = .ok (.aload_n 0, 1) := by decide +kernel
theorem dq_Md_finish_160 : decode prog_14_method_34_code 160 = .ok (.getfield 32, 3) := by decide +kernel
theorem dq_Md_finish_163 : decode prog_14_method_34_code 163 = .ok (.iload_n 1, 1) := by decide +kernel
theorem dq_Md_finish_164 : decode prog_14_method_34_code 164 = .ok (.dup2, 1) := by decide +kernel
theorem dq_Md_finish_165 : decode prog_14_method_34_code 165 = .ok (.iaload, 1) := by decide +kernel
theorem dq_Md_finish_166 : decode prog_14_method_34_code 166 = .ok (.iconst 1, 1) := by decide +kernel
theorem dq_Md_finish_167 : decode prog_14_method_34_code 167 = .ok (.iadd, 1) := by decide +kernel
theorem dq_Md_finish_168 : decode prog_14_method_34_code 168 = .ok (.iastore, 1) := by decide +kernel
theorem dq_Md_finish_169 : decode prog_14_method_34_code 169 = .ok (.aload_n 0, 1) := by decide +kernel
theorem dq_Md_finish_170 : decode prog_14_method_34_code 170 = .ok (.getfield 35, 3) := by decide +kernel
theorem dq_Md_finish_173 : decode prog_14_method_34_code 173 = .ok (.iload_n 1, 1) := by decide +kernel
theorem dq_Md_finish_174 : decode prog_14_method_34_code 174 = .ok (.dup2, 1) := by decide +kernel
theorem dq_Md_finish_175 : decode prog_14_method_34_code 175 = .ok (.iaload, 1) := by decide +kernel
theorem dq_Md_finish_176 : decode prog_14_method_34_code 176 = .ok (.iconst 1, 1) := by decide +kernel
theorem dq_Md_finish_177 : decode prog_14_method_34_code 177 = .ok (.isub, 1) := by decide +kernel
theorem dq_Md_finish_178 : decode prog_14_method_34_code 178 = .ok (.iastore, 1) := by decide +kernel
theorem dq_Md_finish_179 : decode prog_14_method_34_code 179 = .ok (.goto (-124), 3) := by decide +kernel
theorem dq_Md_finish_182 : decode prog_14_method_34_code 182 = .ok (.return_, 1) := by decide +kernel
set_option maxRecDepth 100000 in
def pq_Md_finish_182 (E : wo_E) (mc ms : Nat) (Post : wo_W → Prop) (G : wo_W) (c s : Nat) : Prop := Post G
set_option maxRecDepth 100000 in
def pq_Md_finish_101 (E : wo_E) (mc ms : Nat) (Post : wo_W → Prop) (k55 : wo_W → Nat → Nat → Nat → Int32 → Prop) : Nat → wo_W → Nat → Nat → Nat → Int32 → Int32 → Int32 → Prop
  | 0 => fun _ _ _ _ _ _ _ => False
  | n + 1 => fun G c s x0 x1 x4 x5 => wo_ty G x0 = 15 ∧ ∀ r2 : Option Nat, r2 = wo_gr G 902 x0 → ∃ a4 : Nat, r2 = some a4 ∧ wo_ty G a4 = 66 ∧ vp_in x4 (wo_len G a4) ∧ (((wo_ei G a4 x4.toNatClampNeg) ≤ x5 → ∀ r7 : Option Nat, r7 = wo_gr G 903 x0 → ∃ a9 : Nat, r7 = some a9 ∧ wo_ty G a9 = 66 ∧ vp_in x1 (wo_len G a9) ∧ vp_in x1 (wo_len G a9) ∧ en_bs E ≤ a9 ∧ ∀ G14 : wo_W, G14 = wo_sei G a9 x1.toNatClampNeg ((wo_ei G a9 x1.toNatClampNeg) + (1 : Int32)) → 
    ∀ r16 : Option Nat, r16 = wo_gr G14 904 x0 → ∃ a18 : Nat, r16 = some a18 ∧ wo_ty G14 a18 = 66 ∧ vp_in x1 (wo_len G14 a18) ∧ vp_in x1 (wo_len G14 a18) ∧ en_bs E ≤ a18 ∧ ∀ G23 : wo_W, G23 = wo_sei G14 a18 x1.toNatClampNeg ((wo_ei G14 a18 x1.toNatClampNeg) - (1 : Int32)) → 
    k55 G23 c s x0 x1) ∧
  (¬ (wo_ei G a4 x4.toNatClampNeg) ≤ x5 → ∀ r25 : Option Nat, r25 = wo_gr G 899 x0 → ∀ r27 : Option Nat, r27 = wo_gr G 900 x0 → ∃ a29 : Nat, r27 = some a29 ∧ wo_ty G a29 = 66 ∧ vp_in x1 (wo_len G a29) ∧ ∀ r32 : Option Nat, r32 = wo_gr G 901 x0 → ∃ a34 : Nat, r32 = some a34 ∧ wo_ty G a34 = 66 ∧ vp_in (((96 : Int32) * x4) + x5) (wo_len G a34) ∧ ∃ a37 : Nat, r25 = some a37 ∧ wo_ty G a37 = 66 ∧ vp_in (((640 : Int32) * x1) + (wo_ei G a29 x1.toNatClampNeg)) (wo_len G a37) ∧ en_bs E ≤ a37 ∧ ∀ G41 : wo_W, G41 = wo_sei G a37 (((640 : Int32) * x1) + (wo_ei G a29 x1.toNatClampNeg)).toNatClampNeg (wo_ei G a34 (((96 : Int32) * x4) + x5).toNatClampNeg) → 
    ∀ r43 : Option Nat, r43 = wo_gr G41 900 x0 → ∃ a45 : Nat, r43 = some a45 ∧ wo_ty G41 a45 = 66 ∧ vp_in x1 (wo_len G41 a45) ∧ vp_in x1 (wo_len G41 a45) ∧ en_bs E ≤ a45 ∧ ∀ G50 : wo_W, G50 = wo_sei G41 a45 x1.toNatClampNeg ((wo_ei G41 a45 x1.toNatClampNeg) + (1 : Int32)) → 
    pq_Md_finish_101 E mc ms Post k55 n G50 c s x0 x1 x4 (x5 + (1 : Int32))))
set_option maxRecDepth 100000 in
def pq_Md_finish_55 (E : wo_E) (mc ms : Nat) (Post : wo_W → Prop) : Nat → wo_W → Nat → Nat → Nat → Int32 → Prop
  | 0 => fun _ _ _ _ _ => False
  | n + 1 => fun G c s x0 x1 => wo_ty G x0 = 15 ∧ ∀ r2 : Option Nat, r2 = wo_gr G 904 x0 → ∃ a4 : Nat, r2 = some a4 ∧ wo_ty G a4 = 66 ∧ vp_in x1 (wo_len G a4) ∧ (((wo_ei G a4 x1.toNatClampNeg) ≤ (0 : Int32) → pq_Md_finish_182 E mc ms Post G c s) ∧
  (¬ (wo_ei G a4 x1.toNatClampNeg) ≤ (0 : Int32) → ∀ r7 : Option Nat, r7 = wo_gr G 902 x0 → ∀ r9 : Option Nat, r9 = wo_gr G 903 x0 → ∃ a11 : Nat, r9 = some a11 ∧ wo_ty G a11 = 66 ∧ vp_in x1 (wo_len G a11) ∧ ∃ a14 : Nat, r7 = some a14 ∧ wo_ty G a14 = 66 ∧ vp_in (((4 : Int32) * x1) + ((wo_ei G a11 x1.toNatClampNeg) - (wo_ei G a11 x1.toNatClampNeg) / (4 : Int32) * (4 : Int32))) (wo_len G a14) ∧ (((wo_ei G a14 (((4 : Int32) * x1) + ((wo_ei G a11 x1.toNatClampNeg) - (wo_ei G a11 x1.toNatClampNeg) / (4 : Int32) * (4 : Int32))).toNatClampNeg) < (0 : Int32) → pq_Md_finish_182 E mc ms Post G c s) ∧
    (¬ (wo_ei G a14 (((4 : Int32) * x1) + ((wo_ei G a11 x1.toNatClampNeg) - (wo_ei G a11 x1.toNatClampNeg) / (4 : Int32) * (4 : Int32))).toNatClampNeg) < (0 : Int32) → ∀ r17 : Option Nat, r17 = wo_gr G 903 x0 → ∃ a19 : Nat, r17 = some a19 ∧ wo_ty G a19 = 66 ∧ vp_in x1 (wo_len G a19) ∧ ∃ n1 : Nat, pq_Md_finish_101 E mc ms Post (pq_Md_finish_55 E mc ms Post n) n1 G c s x0 x1 (((4 : Int32) * x1) + ((wo_ei G a19 x1.toNatClampNeg) - (wo_ei G a19 x1.toNatClampNeg) / (4 : Int32) * (4 : Int32))) (0 : Int32)))))
set_option maxRecDepth 100000 in
def pq_Md_finish_11 (E : wo_E) (mc ms : Nat) (Post : wo_W → Prop) : Nat → wo_W → Nat → Nat → Nat → Int32 → Int32 → Int32 → Prop
  | 0 => fun _ _ _ _ _ _ _ => False
  | n + 1 => fun G c s x0 x1 x3 x4 => wo_ty G x0 = 15 ∧ (((wo_gi G 906 x0) ≤ x4 → ∀ r2 : Option Nat, r2 = wo_gr G 902 x0 → ∃ a4 : Nat, r2 = some a4 ∧ wo_ty G a4 = 66 ∧ vp_in x3 (wo_len G a4) ∧ en_bs E ≤ a4 ∧ ∀ G8 : wo_W, G8 = wo_sei G a4 x3.toNatClampNeg (wo_gi G 906 x0) → 
    ∃ n1 : Nat, pq_Md_finish_55 E mc ms Post n1 G8 c s x0 x1) ∧
  (¬ (wo_gi G 906 x0) ≤ x4 → ∀ r10 : Option Nat, r10 = wo_gr G 901 x0 → ∀ r12 : Option Nat, r12 = wo_gr G 905 x0 → ∃ a14 : Nat, r12 = some a14 ∧ wo_ty G a14 = 66 ∧ vp_in x4 (wo_len G a14) ∧ ∃ a17 : Nat, r10 = some a17 ∧ wo_ty G a17 = 66 ∧ vp_in (((96 : Int32) * x3) + x4) (wo_len G a17) ∧ en_bs E ≤ a17 ∧ ∀ G21 : wo_W, G21 = wo_sei G a17 (((96 : Int32) * x3) + x4).toNatClampNeg (wo_ei G a14 x4.toNatClampNeg) → 
    pq_Md_finish_11 E mc ms Post n G21 c s x0 x1 x3 (x4 + (1 : Int32))))
set_option maxRecDepth 100000 in
def pq_Md_finish_0 (E : wo_E) (mc ms : Nat) (Post : wo_W → Prop) (G : wo_W) (c s : Nat) (x0 : Nat) (x1 : Int32) (x2 : Int32) : Prop := ∃ n1 : Nat, pq_Md_finish_11 E mc ms Post n1 G c s x0 x1 (((4 : Int32) * x1) + (x2 - x2 / (4 : Int32) * (4 : Int32))) (0 : Int32)
def pq_Md_finish (E : wo_E) (mc ms : Nat) (Post : wo_W → Prop) (G : wo_W) (x0 : Nat) (x1 : Int32) (x2 : Int32) : Prop := pq_Md_finish_0 E mc ms Post G 0 0 x0 x1 x2
set_option maxRecDepth 100000 in
set_option maxHeartbeats 4000000 in
theorem tq_Md_finish_182 {p : Program} {l : Launch} {e : Env} {R : Room} {s₀ : State} {m : MethodId} {args : Array Value} {below : List Frame} {meth : Method} {cd : Code} {E : wo_E} {mc ms : Nat} {Post : wo_W → Prop} (hC : wo_Cx E "EdgeCacheModel" prog_14_method_34_code 6 0 0 ((Option.none : Option Jvm.ClassFile.FieldType)) "finish" mc ms p R s₀ m args meth cd) : ∀ {G : wo_W} {c s : Nat}, pq_Md_finish_182 E mc ms Post G c s → ∀ {H : Heap} {locs : List Loc} {ls : Array Slot}, wo_Se E G H → va_S (en_A E) s₀.heap H locs → lx_has ls 6 [] → c ≤ mc → s ≤ ms → W p l e R s₀ m args below meth cd H locs c s (MQ below (va_Qv Post (wo_B E) (en_A E)) args s₀ mc ms (en_A E)) (F0 m 182 ls []) := by
  intro G c s hw H locs ls hG hS hl hcc hss
  dsimp only [pq_Md_finish_182] at hw
  have hx := hC.1
  have hb := hC.2.1
  exact wo_vret hC hG hS hcc hss hw dq_Md_finish_182
set_option maxRecDepth 100000 in
set_option maxHeartbeats 4000000 in
theorem tq_Md_finish_101 {p : Program} {l : Launch} {e : Env} {R : Room} {s₀ : State} {m : MethodId} {args : Array Value} {below : List Frame} {meth : Method} {cd : Code} {E : wo_E} {mc ms : Nat} {Post : wo_W → Prop} {k55 : wo_W → Nat → Nat → Nat → Int32 → Prop} (hC : wo_Cx E "EdgeCacheModel" prog_14_method_34_code 6 0 0 ((Option.none : Option Jvm.ClassFile.FieldType)) "finish" mc ms p R s₀ m args meth cd) (hk55 : ∀ {G : wo_W} {c s : Nat} {x0 : Nat} {x1 : Int32}, k55 G c s x0 x1 → ∀ {H : Heap} {locs : List Loc} {ls : Array Slot}, wo_Se E G H → va_S (en_A E) s₀.heap H locs → lx_has ls 6 [(0, 1, .ref x0), (1, 1, .int x1)] → c ≤ mc → s ≤ ms → W p l e R s₀ m args below meth cd H locs c s (MQ below (va_Qv Post (wo_B E) (en_A E)) args s₀ mc ms (en_A E)) (F0 m 55 ls [])) : ∀ n : Nat, ∀ {G : wo_W} {c s : Nat} {x0 : Nat} {x1 : Int32} {x4 : Int32} {x5 : Int32}, pq_Md_finish_101 E mc ms Post k55 n G c s x0 x1 x4 x5 → ∀ {H : Heap} {locs : List Loc} {ls : Array Slot}, wo_Se E G H → va_S (en_A E) s₀.heap H locs → lx_has ls 6 [(0, 1, .ref x0), (1, 1, .int x1), (4, 1, .int x4), (5, 1, .int x5)] → c ≤ mc → s ≤ ms → W p l e R s₀ m args below meth cd H locs c s (MQ below (va_Qv Post (wo_B E) (en_A E)) args s₀ mc ms (en_A E)) (F0 m 101 ls []) := by
  intro n
  induction n with
  | zero => intro G c s x0 x1 x4 x5 hw; exact hw.elim
  | succ n ih =>
    intro G c s x0 x1 x4 x5 hw H locs ls hG hS hl hcc hss
    dsimp only [pq_Md_finish_101] at hw
    have hx := hC.1
    have hb := hC.2.1
    refine lv_iload hx hb dq_Md_finish_101 (lx_at hl 3 rfl) ?_
    refine lv_aload_n hx hb dq_Md_finish_103 rfl (lx_at hl 0 rfl) ?_
    obtain ⟨t1, hw⟩ := hw
    refine wo_getR hC fq_Md_29 rfl hG t1 dq_Md_finish_104 (fun r2 e3 => ?_)
    replace hw := hw r2 e3
    refine lv_iload hx hb dq_Md_finish_107 (lx_at hl 2 rfl) ?_
    obtain ⟨a4, rfl, hw⟩ := hw
    obtain ⟨t5, hw⟩ := hw
    obtain ⟨h6, hw⟩ := hw
    refine wo_iald (j := 2) hC rfl hG t5 h6 dq_Md_finish_109 ?_
    refine lv_icmp_ge (tgt := 159) hx hb dq_Md_finish_110 rfl (fun h => ?_) (fun h => ?_)
    · replace hw := hw.1 h
      refine lv_aload_n hx hb dq_Md_finish_159 rfl (lx_at hl 0 rfl) ?_
      refine wo_getR hC fq_Md_32 rfl hG t1 dq_Md_finish_160 (fun r7 e8 => ?_)
      replace hw := hw r7 e8
      refine lv_iload_n hx hb dq_Md_finish_163 rfl (lx_at hl 1 rfl) ?_
      refine lv_dup2_11 hx hb dq_Md_finish_164 rfl (lx_cR _) ?_
      obtain ⟨a9, rfl, hw⟩ := hw
      obtain ⟨t10, hw⟩ := hw
      obtain ⟨h11, hw⟩ := hw
      refine wo_iald (j := 2) hC rfl hG t10 h11 dq_Md_finish_165 ?_
      refine lv_iconst (v := (1 : Int32)) hx hb dq_Md_finish_166 rfl ?_
      refine lv_iadd hx hb dq_Md_finish_167 ?_
      obtain ⟨h12, hw⟩ := hw
      obtain ⟨h13, hw⟩ := hw
      refine wo_iast (j := 2) hC rfl hG hS t10 h12 h13 dq_Md_finish_168 (fun G14 H locs e15 hG hS => ?_)
      replace hw := hw G14 e15
      refine lv_aload_n hx hb dq_Md_finish_169 rfl (lx_at hl 0 rfl) ?_
      refine wo_getR hC fq_Md_35 rfl hG (ty_sei e15 t1) dq_Md_finish_170 (fun r16 e17 => ?_)
      replace hw := hw r16 e17
      refine lv_iload_n hx hb dq_Md_finish_173 rfl (lx_at hl 1 rfl) ?_
      refine lv_dup2_11 hx hb dq_Md_finish_174 rfl (lx_cR _) ?_
      obtain ⟨a18, rfl, hw⟩ := hw
      obtain ⟨t19, hw⟩ := hw
      obtain ⟨h20, hw⟩ := hw
      refine wo_iald (j := 2) hC rfl hG t19 h20 dq_Md_finish_175 ?_
      refine lv_iconst (v := (1 : Int32)) hx hb dq_Md_finish_176 rfl ?_
      refine lv_isub hx hb dq_Md_finish_177 ?_
      obtain ⟨h21, hw⟩ := hw
      obtain ⟨h22, hw⟩ := hw
      refine wo_iast (j := 2) hC rfl hG hS t19 h21 h22 dq_Md_finish_178 (fun G23 H locs e24 hG hS => ?_)
      replace hw := hw G23 e24
      refine lv_goto (tgt := 55) hx hb dq_Md_finish_179 rfl ?_
      exact hk55 hw hG hS (lx_sub hl [0, 1] rfl) hcc hss
    · replace hw := hw.2 h
      refine lv_aload_n hx hb dq_Md_finish_113 rfl (lx_at hl 0 rfl) ?_
      refine wo_getR hC fq_Md_20 rfl hG t1 dq_Md_finish_114 (fun r25 e26 => ?_)
      replace hw := hw r25 e26
      refine lv_sipush (v := (640 : Int32)) hx hb dq_Md_finish_117 rfl ?_
      refine lv_iload_n hx hb dq_Md_finish_120 rfl (lx_at hl 1 rfl) ?_
      refine lv_imul hx hb dq_Md_finish_121 ?_
      refine lv_aload_n hx hb dq_Md_finish_122 rfl (lx_at hl 0 rfl) ?_
      refine wo_getR hC fq_Md_23 rfl hG t1 dq_Md_finish_123 (fun r27 e28 => ?_)
      replace hw := hw r27 e28
      refine lv_iload_n hx hb dq_Md_finish_126 rfl (lx_at hl 1 rfl) ?_
      obtain ⟨a29, rfl, hw⟩ := hw
      obtain ⟨t30, hw⟩ := hw
      obtain ⟨h31, hw⟩ := hw
      refine wo_iald (j := 2) hC rfl hG t30 h31 dq_Md_finish_127 ?_
      refine lv_iadd hx hb dq_Md_finish_128 ?_
      refine lv_aload_n hx hb dq_Md_finish_129 rfl (lx_at hl 0 rfl) ?_
      refine wo_getR hC fq_Md_26 rfl hG t1 dq_Md_finish_130 (fun r32 e33 => ?_)
      replace hw := hw r32 e33
      refine lv_bipush (v := (96 : Int32)) hx hb dq_Md_finish_133 rfl ?_
      refine lv_iload hx hb dq_Md_finish_135 (lx_at hl 2 rfl) ?_
      refine lv_imul hx hb dq_Md_finish_137 ?_
      refine lv_iload hx hb dq_Md_finish_138 (lx_at hl 3 rfl) ?_
      refine lv_iadd hx hb dq_Md_finish_140 ?_
      obtain ⟨a34, rfl, hw⟩ := hw
      obtain ⟨t35, hw⟩ := hw
      obtain ⟨h36, hw⟩ := hw
      refine wo_iald (j := 2) hC rfl hG t35 h36 dq_Md_finish_141 ?_
      obtain ⟨a37, rfl, hw⟩ := hw
      obtain ⟨t38, hw⟩ := hw
      obtain ⟨h39, hw⟩ := hw
      obtain ⟨h40, hw⟩ := hw
      refine wo_iast (j := 2) hC rfl hG hS t38 h39 h40 dq_Md_finish_142 (fun G41 H locs e42 hG hS => ?_)
      replace hw := hw G41 e42
      refine lv_aload_n hx hb dq_Md_finish_143 rfl (lx_at hl 0 rfl) ?_
      refine wo_getR hC fq_Md_23 rfl hG (ty_sei e42 t1) dq_Md_finish_144 (fun r43 e44 => ?_)
      replace hw := hw r43 e44
      refine lv_iload_n hx hb dq_Md_finish_147 rfl (lx_at hl 1 rfl) ?_
      refine lv_dup2_11 hx hb dq_Md_finish_148 rfl (lx_cR _) ?_
      obtain ⟨a45, rfl, hw⟩ := hw
      obtain ⟨t46, hw⟩ := hw
      obtain ⟨h47, hw⟩ := hw
      refine wo_iald (j := 2) hC rfl hG t46 h47 dq_Md_finish_149 ?_
      refine lv_iconst (v := (1 : Int32)) hx hb dq_Md_finish_150 rfl ?_
      refine lv_iadd hx hb dq_Md_finish_151 ?_
      obtain ⟨h48, hw⟩ := hw
      obtain ⟨h49, hw⟩ := hw
      refine wo_iast (j := 2) hC rfl hG hS t46 h48 h49 dq_Md_finish_152 (fun G50 H locs e51 hG hS => ?_)
      replace hw := hw G50 e51
      refine lx_iinc (k := 3) (v := (x5 + (1 : Int32))) (lv' := [(5, 1, .int (x5 + (1 : Int32))), (0, 1, .ref x0), (1, 1, .int x1), (4, 1, .int x4)]) hx hb dq_Md_finish_153 hl rfl rfl (by decide) rfl (fun ls hl' => ?_)
      clear hl
      have hl := hl'
      clear hl'
      refine lv_goto (tgt := 101) hx hb dq_Md_finish_156 rfl ?_
      exact ih hw hG hS (lx_sub hl [1, 2, 3, 0] rfl) hcc hss
set_option maxRecDepth 100000 in
set_option maxHeartbeats 4000000 in
theorem tq_Md_finish_55 {p : Program} {l : Launch} {e : Env} {R : Room} {s₀ : State} {m : MethodId} {args : Array Value} {below : List Frame} {meth : Method} {cd : Code} {E : wo_E} {mc ms : Nat} {Post : wo_W → Prop} (hC : wo_Cx E "EdgeCacheModel" prog_14_method_34_code 6 0 0 ((Option.none : Option Jvm.ClassFile.FieldType)) "finish" mc ms p R s₀ m args meth cd) : ∀ n : Nat, ∀ {G : wo_W} {c s : Nat} {x0 : Nat} {x1 : Int32}, pq_Md_finish_55 E mc ms Post n G c s x0 x1 → ∀ {H : Heap} {locs : List Loc} {ls : Array Slot}, wo_Se E G H → va_S (en_A E) s₀.heap H locs → lx_has ls 6 [(0, 1, .ref x0), (1, 1, .int x1)] → c ≤ mc → s ≤ ms → W p l e R s₀ m args below meth cd H locs c s (MQ below (va_Qv Post (wo_B E) (en_A E)) args s₀ mc ms (en_A E)) (F0 m 55 ls []) := by
  intro n
  induction n with
  | zero => intro G c s x0 x1 hw; exact hw.elim
  | succ n ih =>
    intro G c s x0 x1 hw H locs ls hG hS hl hcc hss
    dsimp only [pq_Md_finish_55] at hw
    have hx := hC.1
    have hb := hC.2.1
    refine lv_aload_n hx hb dq_Md_finish_55 rfl (lx_at hl 0 rfl) ?_
    obtain ⟨t1, hw⟩ := hw
    refine wo_getR hC fq_Md_35 rfl hG t1 dq_Md_finish_56 (fun r2 e3 => ?_)
    replace hw := hw r2 e3
    refine lv_iload_n hx hb dq_Md_finish_59 rfl (lx_at hl 1 rfl) ?_
    obtain ⟨a4, rfl, hw⟩ := hw
    obtain ⟨t5, hw⟩ := hw
    obtain ⟨h6, hw⟩ := hw
    refine wo_iald (j := 2) hC rfl hG t5 h6 dq_Md_finish_60 ?_
    refine lv_if_le (tgt := 182) hx hb dq_Md_finish_61 rfl (fun h => ?_) (fun h => ?_)
    · replace hw := hw.1 h
      exact tq_Md_finish_182 hC hw hG hS (lx_sub hl [] rfl) hcc hss
    · replace hw := hw.2 h
      refine lv_aload_n hx hb dq_Md_finish_64 rfl (lx_at hl 0 rfl) ?_
      refine wo_getR hC fq_Md_29 rfl hG t1 dq_Md_finish_65 (fun r7 e8 => ?_)
      replace hw := hw r7 e8
      refine lv_iconst (v := (4 : Int32)) hx hb dq_Md_finish_68 rfl ?_
      refine lv_iload_n hx hb dq_Md_finish_69 rfl (lx_at hl 1 rfl) ?_
      refine lv_imul hx hb dq_Md_finish_70 ?_
      refine lv_aload_n hx hb dq_Md_finish_71 rfl (lx_at hl 0 rfl) ?_
      refine wo_getR hC fq_Md_32 rfl hG t1 dq_Md_finish_72 (fun r9 e10 => ?_)
      replace hw := hw r9 e10
      refine lv_iload_n hx hb dq_Md_finish_75 rfl (lx_at hl 1 rfl) ?_
      obtain ⟨a11, rfl, hw⟩ := hw
      obtain ⟨t12, hw⟩ := hw
      obtain ⟨h13, hw⟩ := hw
      refine wo_iald (j := 2) hC rfl hG t12 h13 dq_Md_finish_76 ?_
      refine lv_iconst (v := (4 : Int32)) hx hb dq_Md_finish_77 rfl ?_
      refine lv_irem hx hb dq_Md_finish_78 (by decide) ?_
      refine lv_iadd hx hb dq_Md_finish_79 ?_
      obtain ⟨a14, rfl, hw⟩ := hw
      obtain ⟨t15, hw⟩ := hw
      obtain ⟨h16, hw⟩ := hw
      refine wo_iald (j := 2) hC rfl hG t15 h16 dq_Md_finish_80 ?_
      refine lv_if_lt (tgt := 182) hx hb dq_Md_finish_81 rfl (fun h => ?_) (fun h => ?_)
      · replace hw := hw.1 h
        exact tq_Md_finish_182 hC hw hG hS (lx_sub hl [] rfl) hcc hss
      · replace hw := hw.2 h
        refine lv_iconst (v := (4 : Int32)) hx hb dq_Md_finish_84 rfl ?_
        refine lv_iload_n hx hb dq_Md_finish_85 rfl (lx_at hl 1 rfl) ?_
        refine lv_imul hx hb dq_Md_finish_86 ?_
        refine lv_aload_n hx hb dq_Md_finish_87 rfl (lx_at hl 0 rfl) ?_
        refine wo_getR hC fq_Md_32 rfl hG t1 dq_Md_finish_88 (fun r17 e18 => ?_)
        replace hw := hw r17 e18
        refine lv_iload_n hx hb dq_Md_finish_91 rfl (lx_at hl 1 rfl) ?_
        obtain ⟨a19, rfl, hw⟩ := hw
        obtain ⟨t20, hw⟩ := hw
        obtain ⟨h21, hw⟩ := hw
        refine wo_iald (j := 2) hC rfl hG t20 h21 dq_Md_finish_92 ?_
        refine lv_iconst (v := (4 : Int32)) hx hb dq_Md_finish_93 rfl ?_
        refine lv_irem hx hb dq_Md_finish_94 (by decide) ?_
        refine lv_iadd hx hb dq_Md_finish_95 ?_
        refine lx_istore (lv' := [(4, 1, .int (((4 : Int32) * x1) + ((wo_ei G a19 x1.toNatClampNeg) - (wo_ei G a19 x1.toNatClampNeg) / (4 : Int32) * (4 : Int32)))), (0, 1, .ref x0), (1, 1, .int x1)]) hx hb dq_Md_finish_96 hl (by decide) rfl (fun ls hl' => ?_)
        clear hl
        have hl := hl'
        clear hl'
        refine lv_iconst (v := (0 : Int32)) hx hb dq_Md_finish_98 rfl ?_
        refine lx_istore (lv' := [(5, 1, .int (0 : Int32)), (4, 1, .int (((4 : Int32) * x1) + ((wo_ei G a19 x1.toNatClampNeg) - (wo_ei G a19 x1.toNatClampNeg) / (4 : Int32) * (4 : Int32)))), (0, 1, .ref x0), (1, 1, .int x1)]) hx hb dq_Md_finish_99 hl (by decide) rfl (fun ls hl' => ?_)
        clear hl
        have hl := hl'
        clear hl'
        obtain ⟨n1, hw⟩ := hw
        exact tq_Md_finish_101 hC ih n1 hw hG hS (lx_sub hl [2, 3, 1, 0] rfl) hcc hss
set_option maxRecDepth 100000 in
set_option maxHeartbeats 4000000 in
theorem tq_Md_finish_11 {p : Program} {l : Launch} {e : Env} {R : Room} {s₀ : State} {m : MethodId} {args : Array Value} {below : List Frame} {meth : Method} {cd : Code} {E : wo_E} {mc ms : Nat} {Post : wo_W → Prop} (hC : wo_Cx E "EdgeCacheModel" prog_14_method_34_code 6 0 0 ((Option.none : Option Jvm.ClassFile.FieldType)) "finish" mc ms p R s₀ m args meth cd) : ∀ n : Nat, ∀ {G : wo_W} {c s : Nat} {x0 : Nat} {x1 : Int32} {x3 : Int32} {x4 : Int32}, pq_Md_finish_11 E mc ms Post n G c s x0 x1 x3 x4 → ∀ {H : Heap} {locs : List Loc} {ls : Array Slot}, wo_Se E G H → va_S (en_A E) s₀.heap H locs → lx_has ls 6 [(0, 1, .ref x0), (1, 1, .int x1), (3, 1, .int x3), (4, 1, .int x4)] → c ≤ mc → s ≤ ms → W p l e R s₀ m args below meth cd H locs c s (MQ below (va_Qv Post (wo_B E) (en_A E)) args s₀ mc ms (en_A E)) (F0 m 11 ls []) := by
  intro n
  induction n with
  | zero => intro G c s x0 x1 x3 x4 hw; exact hw.elim
  | succ n ih =>
    intro G c s x0 x1 x3 x4 hw H locs ls hG hS hl hcc hss
    dsimp only [pq_Md_finish_11] at hw
    have hx := hC.1
    have hb := hC.2.1
    refine lv_iload hx hb dq_Md_finish_11 (lx_at hl 3 rfl) ?_
    refine lv_aload_n hx hb dq_Md_finish_13 rfl (lx_at hl 0 rfl) ?_
    obtain ⟨t1, hw⟩ := hw
    refine wo_getI hC fq_Md_267 rfl hG t1 dq_Md_finish_14 ?_
    refine lv_icmp_ge (tgt := 45) hx hb dq_Md_finish_17 rfl (fun h => ?_) (fun h => ?_)
    · replace hw := hw.1 h
      refine lv_aload_n hx hb dq_Md_finish_45 rfl (lx_at hl 0 rfl) ?_
      refine wo_getR hC fq_Md_29 rfl hG t1 dq_Md_finish_46 (fun r2 e3 => ?_)
      replace hw := hw r2 e3
      refine lv_iload_n hx hb dq_Md_finish_49 rfl (lx_at hl 2 rfl) ?_
      refine lv_aload_n hx hb dq_Md_finish_50 rfl (lx_at hl 0 rfl) ?_
      refine wo_getI hC fq_Md_267 rfl hG t1 dq_Md_finish_51 ?_
      obtain ⟨a4, rfl, hw⟩ := hw
      obtain ⟨t5, hw⟩ := hw
      obtain ⟨h6, hw⟩ := hw
      obtain ⟨h7, hw⟩ := hw
      refine wo_iast (j := 2) hC rfl hG hS t5 h6 h7 dq_Md_finish_54 (fun G8 H locs e9 hG hS => ?_)
      replace hw := hw G8 e9
      obtain ⟨n1, hw⟩ := hw
      exact tq_Md_finish_55 hC n1 hw hG hS (lx_sub hl [0, 1] rfl) hcc hss
    · replace hw := hw.2 h
      refine lv_aload_n hx hb dq_Md_finish_20 rfl (lx_at hl 0 rfl) ?_
      refine wo_getR hC fq_Md_26 rfl hG t1 dq_Md_finish_21 (fun r10 e11 => ?_)
      replace hw := hw r10 e11
      refine lv_bipush (v := (96 : Int32)) hx hb dq_Md_finish_24 rfl ?_
      refine lv_iload_n hx hb dq_Md_finish_26 rfl (lx_at hl 2 rfl) ?_
      refine lv_imul hx hb dq_Md_finish_27 ?_
      refine lv_iload hx hb dq_Md_finish_28 (lx_at hl 3 rfl) ?_
      refine lv_iadd hx hb dq_Md_finish_30 ?_
      refine lv_aload_n hx hb dq_Md_finish_31 rfl (lx_at hl 0 rfl) ?_
      refine wo_getR hC fq_Md_38 rfl hG t1 dq_Md_finish_32 (fun r12 e13 => ?_)
      replace hw := hw r12 e13
      refine lv_iload hx hb dq_Md_finish_35 (lx_at hl 3 rfl) ?_
      obtain ⟨a14, rfl, hw⟩ := hw
      obtain ⟨t15, hw⟩ := hw
      obtain ⟨h16, hw⟩ := hw
      refine wo_iald (j := 2) hC rfl hG t15 h16 dq_Md_finish_37 ?_
      obtain ⟨a17, rfl, hw⟩ := hw
      obtain ⟨t18, hw⟩ := hw
      obtain ⟨h19, hw⟩ := hw
      obtain ⟨h20, hw⟩ := hw
      refine wo_iast (j := 2) hC rfl hG hS t18 h19 h20 dq_Md_finish_38 (fun G21 H locs e22 hG hS => ?_)
      replace hw := hw G21 e22
      refine lx_iinc (k := 3) (v := (x4 + (1 : Int32))) (lv' := [(4, 1, .int (x4 + (1 : Int32))), (0, 1, .ref x0), (1, 1, .int x1), (3, 1, .int x3)]) hx hb dq_Md_finish_39 hl rfl rfl (by decide) rfl (fun ls hl' => ?_)
      clear hl
      have hl := hl'
      clear hl'
      refine lv_goto (tgt := 11) hx hb dq_Md_finish_42 rfl ?_
      exact ih hw hG hS (lx_sub hl [1, 2, 3, 0] rfl) hcc hss
set_option maxRecDepth 100000 in
set_option maxHeartbeats 4000000 in
theorem tq_Md_finish_0 {p : Program} {l : Launch} {e : Env} {R : Room} {s₀ : State} {m : MethodId} {args : Array Value} {below : List Frame} {meth : Method} {cd : Code} {E : wo_E} {mc ms : Nat} {Post : wo_W → Prop} (hC : wo_Cx E "EdgeCacheModel" prog_14_method_34_code 6 0 0 ((Option.none : Option Jvm.ClassFile.FieldType)) "finish" mc ms p R s₀ m args meth cd) : ∀ {G : wo_W} {c s : Nat} {x0 : Nat} {x1 : Int32} {x2 : Int32}, pq_Md_finish_0 E mc ms Post G c s x0 x1 x2 → ∀ {H : Heap} {locs : List Loc} {ls : Array Slot}, wo_Se E G H → va_S (en_A E) s₀.heap H locs → lx_has ls 6 [(0, 1, .ref x0), (1, 1, .int x1), (2, 1, .int x2)] → c ≤ mc → s ≤ ms → W p l e R s₀ m args below meth cd H locs c s (MQ below (va_Qv Post (wo_B E) (en_A E)) args s₀ mc ms (en_A E)) (F0 m 0 ls []) := by
  intro G c s x0 x1 x2 hw H locs ls hG hS hl hcc hss
  dsimp only [pq_Md_finish_0] at hw
  have hx := hC.1
  have hb := hC.2.1
  refine lv_iconst (v := (4 : Int32)) hx hb dq_Md_finish_0 rfl ?_
  refine lv_iload_n hx hb dq_Md_finish_1 rfl (lx_at hl 1 rfl) ?_
  refine lv_imul hx hb dq_Md_finish_2 ?_
  refine lv_iload_n hx hb dq_Md_finish_3 rfl (lx_at hl 2 rfl) ?_
  refine lv_iconst (v := (4 : Int32)) hx hb dq_Md_finish_4 rfl ?_
  refine lv_irem hx hb dq_Md_finish_5 (by decide) ?_
  refine lv_iadd hx hb dq_Md_finish_6 ?_
  refine lx_istore_n (lv' := [(3, 1, .int (((4 : Int32) * x1) + (x2 - x2 / (4 : Int32) * (4 : Int32)))), (0, 1, .ref x0), (1, 1, .int x1), (2, 1, .int x2)]) hx hb dq_Md_finish_7 rfl hl (by decide) rfl (fun ls hl' => ?_)
  clear hl
  have hl := hl'
  clear hl'
  refine lv_iconst (v := (0 : Int32)) hx hb dq_Md_finish_8 rfl ?_
  refine lx_istore (lv' := [(4, 1, .int (0 : Int32)), (3, 1, .int (((4 : Int32) * x1) + (x2 - x2 / (4 : Int32) * (4 : Int32)))), (0, 1, .ref x0), (1, 1, .int x1), (2, 1, .int x2)]) hx hb dq_Md_finish_9 hl (by decide) rfl (fun ls hl' => ?_)
  clear hl
  have hl := hl'
  clear hl'
  obtain ⟨n1, hw⟩ := hw
  exact tq_Md_finish_11 hC n1 hw hG hS (lx_sub hl [2, 3, 1, 0] rfl) hcc hss
set_option maxHeartbeats 4000000 in
theorem mq_Md_finish {l : Launch} {E : wo_E} {mc ms : Nat} {Post : wo_W → Prop} {G : wo_W} {x0 : Nat} {x1 : Int32} {x2 : Int32} (hw : pq_Md_finish E mc ms Post G x0 x1 x2) : Met l yq_Md_finish (Cond.code yq_Md_finish prog_14_method_34_code 6 ((Option.none : Option Jvm.ClassFile.FieldType)) :: vw_WG) { frames := 0, cells := mc, slots := ms, locals := 0 } (va_Pc [.ref x0, .int x1, .int x2] (wo_Ok E G)) (va_Qv Post (wo_B E) (en_A E)) mc ms (en_A E) := by
  unfold pq_Md_finish at hw
  exact wo_met [(1, .ref x0), (1, .int x1), (1, .int x2)] rfl (by decide) (fun q hq => by simp only [List.mem_cons, List.not_mem_nil, or_false] at hq; rcases hq with rfl | rfl | rfl <;> first | rfl | exact lx_cR _) (Nat.le_of_ble_eq_true rfl) (fun p e R s m args below meth cd ls hC hG hS hl => tq_Md_finish_0 hC hw hG hS (lx_sub hl [0, 1, 2] rfl) (Nat.zero_le _) (Nat.zero_le _))

theorem dq_Md_copy_0 : decode prog_14_method_49_code 0 = .ok (.aload_n 0, 1) := by decide +kernel
theorem dq_Md_copy_1 : decode prog_14_method_49_code 1 = .ok (.getfield 99, 3) := by decide +kernel
theorem dq_Md_copy_4 : decode prog_14_method_49_code 4 = .ok (.iload_n 2, 1) := by decide +kernel
theorem dq_Md_copy_5 : decode prog_14_method_49_code 5 = .ok (.aload_n 0, 1) := by decide +kernel
theorem dq_Md_copy_6 : decode prog_14_method_49_code 6 = .ok (.getfield 99, 3) := by decide +kernel
theorem dq_Md_copy_9 : decode prog_14_method_49_code 9 = .ok (.iload_n 1, 1) := by decide +kernel
theorem dq_Md_copy_10 : decode prog_14_method_49_code 10 = .ok (.iaload, 1) := by decide +kernel
theorem dq_Md_copy_11 : decode prog_14_method_49_code 11 = .ok (.iastore, 1) := by decide +kernel
theorem dq_Md_copy_12 : decode prog_14_method_49_code 12 = .ok (.aload_n 0, 1) := by decide +kernel
theorem dq_Md_copy_13 : decode prog_14_method_49_code 13 = .ok (.getfield 102, 3) := by decide +kernel
theorem dq_Md_copy_16 : decode prog_14_method_49_code 16 = .ok (.iload_n 2, 1) := by decide +kernel
theorem dq_Md_copy_17 : decode prog_14_method_49_code 17 = .ok (.aload_n 0, 1) := by decide +kernel
theorem dq_Md_copy_18 : decode prog_14_method_49_code 18 = .ok (.getfield 102, 3) := by decide +kernel
theorem dq_Md_copy_21 : decode prog_14_method_49_code 21 = .ok (.iload_n 1, 1) := by decide +kernel
theorem dq_Md_copy_22 : decode prog_14_method_49_code 22 = .ok (.laload, 1) := by decide +kernel
theorem dq_Md_copy_23 : decode prog_14_method_49_code 23 = .ok (.lastore, 1) := by decide +kernel
theorem dq_Md_copy_24 : decode prog_14_method_49_code 24 = .ok (.aload_n 0, 1) := by decide +kernel
theorem dq_Md_copy_25 : decode prog_14_method_49_code 25 = .ok (.getfield 105, 3) := by decide +kernel
theorem dq_Md_copy_28 : decode prog_14_method_49_code 28 = .ok (.iload_n 2, 1) := by decide +kernel
theorem dq_Md_copy_29 : decode prog_14_method_49_code 29 = .ok (.aload_n 0, 1) := by decide +kernel
theorem dq_Md_copy_30 : decode prog_14_method_49_code 30 = .ok (.getfield 105, 3) := by decide +kernel
theorem dq_Md_copy_33 : decode prog_14_method_49_code 33 = .ok (.iload_n 1, 1) := by decide +kernel
theorem dq_Md_copy_34 : decode prog_14_method_49_code 34 = .ok (.iaload, 1) := by decide +kernel
theorem dq_Md_copy_35 : decode prog_14_method_49_code 35 = .ok (.iastore, 1) := by decide +kernel
theorem dq_Md_copy_36 : decode prog_14_method_49_code 36 = .ok (.aload_n 0, 1) := by decide +kernel
theorem dq_Md_copy_37 : decode prog_14_method_49_code 37 = .ok (.getfield 108, 3) := by decide +kernel
theorem dq_Md_copy_40 : decode prog_14_method_49_code 40 = .ok (.iload_n 2, 1) := by decide +kernel
theorem dq_Md_copy_41 : decode prog_14_method_49_code 41 = .ok (.aload_n 0, 1) := by decide +kernel
theorem dq_Md_copy_42 : decode prog_14_method_49_code 42 = .ok (.getfield 108, 3) := by decide +kernel
theorem dq_Md_copy_45 : decode prog_14_method_49_code 45 = .ok (.iload_n 1, 1) := by decide +kernel
theorem dq_Md_copy_46 : decode prog_14_method_49_code 46 = .ok (.iaload, 1) := by decide +kernel
theorem dq_Md_copy_47 : decode prog_14_method_49_code 47 = .ok (.iastore, 1) := by decide +kernel
theorem dq_Md_copy_48 : decode prog_14_method_49_code 48 = .ok (.aload_n 0, 1) := by decide +kernel
theorem dq_Md_copy_49 : decode prog_14_method_49_code 49 = .ok (.getfield 111, 3) := by decide +kernel
theorem dq_Md_copy_52 : decode prog_14_method_49_code 52 = .ok (.iload_n 2, 1) := by decide +kernel
theorem dq_Md_copy_53 : decode prog_14_method_49_code 53 = .ok (.aload_n 0, 1) := by decide +kernel
theorem dq_Md_copy_54 : decode prog_14_method_49_code 54 = .ok (.getfield 111, 3) := by decide +kernel
theorem dq_Md_copy_57 : decode prog_14_method_49_code 57 = .ok (.iload_n 1, 1) := by decide +kernel
theorem dq_Md_copy_58 : decode prog_14_method_49_code 58 = .ok (.laload, 1) := by decide +kernel
theorem dq_Md_copy_59 : decode prog_14_method_49_code 59 = .ok (.lastore, 1) := by decide +kernel
theorem dq_Md_copy_60 : decode prog_14_method_49_code 60 = .ok (.aload_n 0, 1) := by decide +kernel
theorem dq_Md_copy_61 : decode prog_14_method_49_code 61 = .ok (.getfield 114, 3) := by decide +kernel
theorem dq_Md_copy_64 : decode prog_14_method_49_code 64 = .ok (.iload_n 2, 1) := by decide +kernel
theorem dq_Md_copy_65 : decode prog_14_method_49_code 65 = .ok (.aload_n 0, 1) := by decide +kernel
theorem dq_Md_copy_66 : decode prog_14_method_49_code 66 = .ok (.getfield 114, 3) := by decide +kernel
theorem dq_Md_copy_69 : decode prog_14_method_49_code 69 = .ok (.iload_n 1, 1) := by decide +kernel
theorem dq_Md_copy_70 : decode prog_14_method_49_code 70 = .ok (.iaload, 1) := by decide +kernel
theorem dq_Md_copy_71 : decode prog_14_method_49_code 71 = .ok (.iastore, 1) := by decide +kernel
theorem dq_Md_copy_72 : decode prog_14_method_49_code 72 = .ok (.aload_n 0, 1) := by decide +kernel
theorem dq_Md_copy_73 : decode prog_14_method_49_code 73 = .ok (.getfield 117, 3) := by decide +kernel
theorem dq_Md_copy_76 : decode prog_14_method_49_code 76 = .ok (.iload_n 2, 1) := by decide +kernel
theorem dq_Md_copy_77 : decode prog_14_method_49_code 77 = .ok (.aload_n 0, 1) := by decide +kernel
theorem dq_Md_copy_78 : decode prog_14_method_49_code 78 = .ok (.getfield 117, 3) := by decide +kernel
theorem dq_Md_copy_81 : decode prog_14_method_49_code 81 = .ok (.iload_n 1, 1) := by decide +kernel
theorem dq_Md_copy_82 : decode prog_14_method_49_code 82 = .ok (.baload, 1) := by decide +kernel
theorem dq_Md_copy_83 : decode prog_14_method_49_code 83 = .ok (.bastore, 1) := by decide +kernel
theorem dq_Md_copy_84 : decode prog_14_method_49_code 84 = .ok (.return_, 1) := by decide +kernel
set_option maxRecDepth 100000 in
def pq_Md_copy_0 (E : wo_E) (mc ms : Nat) (Post : wo_W → Prop) (G : wo_W) (c s : Nat) (x0 : Nat) (x1 : Int32) (x2 : Int32) : Prop := wo_ty G x0 = 15 ∧ ∀ r2 : Option Nat, r2 = wo_gr G 929 x0 → ∀ r4 : Option Nat, r4 = wo_gr G 929 x0 → ∃ a6 : Nat, r4 = some a6 ∧ wo_ty G a6 = 66 ∧ vp_in x1 (wo_len G a6) ∧ ∃ a9 : Nat, r2 = some a9 ∧ wo_ty G a9 = 66 ∧ vp_in x2 (wo_len G a9) ∧ en_bs E ≤ a9 ∧ ∀ G13 : wo_W, G13 = wo_sei G a9 x2.toNatClampNeg (wo_ei G a6 x1.toNatClampNeg) → 
  ∀ r15 : Option Nat, r15 = wo_gr G13 930 x0 → ∀ r17 : Option Nat, r17 = wo_gr G13 930 x0 → ∃ a19 : Nat, r17 = some a19 ∧ wo_ty G13 a19 = 73 ∧ vp_in x1 (wo_len G13 a19) ∧ ∃ a22 : Nat, r15 = some a22 ∧ wo_ty G13 a22 = 73 ∧ vp_in x2 (wo_len G13 a22) ∧ en_bs E ≤ a22 ∧ ∀ G26 : wo_W, G26 = wo_sel G13 a22 x2.toNatClampNeg (wo_el G13 a19 x1.toNatClampNeg) → 
  ∀ r28 : Option Nat, r28 = wo_gr G26 931 x0 → ∀ r30 : Option Nat, r30 = wo_gr G26 931 x0 → ∃ a32 : Nat, r30 = some a32 ∧ wo_ty G26 a32 = 66 ∧ vp_in x1 (wo_len G26 a32) ∧ ∃ a35 : Nat, r28 = some a35 ∧ wo_ty G26 a35 = 66 ∧ vp_in x2 (wo_len G26 a35) ∧ en_bs E ≤ a35 ∧ ∀ G39 : wo_W, G39 = wo_sei G26 a35 x2.toNatClampNeg (wo_ei G26 a32 x1.toNatClampNeg) → 
  ∀ r41 : Option Nat, r41 = wo_gr G39 932 x0 → ∀ r43 : Option Nat, r43 = wo_gr G39 932 x0 → ∃ a45 : Nat, r43 = some a45 ∧ wo_ty G39 a45 = 66 ∧ vp_in x1 (wo_len G39 a45) ∧ ∃ a48 : Nat, r41 = some a48 ∧ wo_ty G39 a48 = 66 ∧ vp_in x2 (wo_len G39 a48) ∧ en_bs E ≤ a48 ∧ ∀ G52 : wo_W, G52 = wo_sei G39 a48 x2.toNatClampNeg (wo_ei G39 a45 x1.toNatClampNeg) → 
  ∀ r54 : Option Nat, r54 = wo_gr G52 933 x0 → ∀ r56 : Option Nat, r56 = wo_gr G52 933 x0 → ∃ a58 : Nat, r56 = some a58 ∧ wo_ty G52 a58 = 73 ∧ vp_in x1 (wo_len G52 a58) ∧ ∃ a61 : Nat, r54 = some a61 ∧ wo_ty G52 a61 = 73 ∧ vp_in x2 (wo_len G52 a61) ∧ en_bs E ≤ a61 ∧ ∀ G65 : wo_W, G65 = wo_sel G52 a61 x2.toNatClampNeg (wo_el G52 a58 x1.toNatClampNeg) → 
  ∀ r67 : Option Nat, r67 = wo_gr G65 934 x0 → ∀ r69 : Option Nat, r69 = wo_gr G65 934 x0 → ∃ a71 : Nat, r69 = some a71 ∧ wo_ty G65 a71 = 66 ∧ vp_in x1 (wo_len G65 a71) ∧ ∃ a74 : Nat, r67 = some a74 ∧ wo_ty G65 a74 = 66 ∧ vp_in x2 (wo_len G65 a74) ∧ en_bs E ≤ a74 ∧ ∀ G78 : wo_W, G78 = wo_sei G65 a74 x2.toNatClampNeg (wo_ei G65 a71 x1.toNatClampNeg) → 
  ∀ r80 : Option Nat, r80 = wo_gr G78 935 x0 → ∀ r82 : Option Nat, r82 = wo_gr G78 935 x0 → ∃ a84 : Nat, r82 = some a84 ∧ wo_ty G78 a84 = 72 ∧ vp_in x1 (wo_len G78 a84) ∧ ∃ a87 : Nat, r80 = some a87 ∧ wo_ty G78 a87 = 72 ∧ vp_in x2 (wo_len G78 a87) ∧ en_bs E ≤ a87 ∧ ∀ G91 : wo_W, G91 = wo_sei G78 a87 x2.toNatClampNeg (vp_nar .boolean (wo_ei G78 a84 x1.toNatClampNeg)) → 
  Post G91
def pq_Md_copy (E : wo_E) (mc ms : Nat) (Post : wo_W → Prop) (G : wo_W) (x0 : Nat) (x1 : Int32) (x2 : Int32) : Prop := pq_Md_copy_0 E mc ms Post G 0 0 x0 x1 x2
set_option maxRecDepth 100000 in
set_option maxHeartbeats 4000000 in
theorem tq_Md_copy_0 {p : Program} {l : Launch} {e : Env} {R : Room} {s₀ : State} {m : MethodId} {args : Array Value} {below : List Frame} {meth : Method} {cd : Code} {E : wo_E} {mc ms : Nat} {Post : wo_W → Prop} (hC : wo_Cx E "EdgeCacheModel" prog_14_method_49_code 3 0 0 ((Option.none : Option Jvm.ClassFile.FieldType)) "copy" mc ms p R s₀ m args meth cd) : ∀ {G : wo_W} {c s : Nat} {x0 : Nat} {x1 : Int32} {x2 : Int32}, pq_Md_copy_0 E mc ms Post G c s x0 x1 x2 → ∀ {H : Heap} {locs : List Loc} {ls : Array Slot}, wo_Se E G H → va_S (en_A E) s₀.heap H locs → lx_has ls 3 [(0, 1, .ref x0), (1, 1, .int x1), (2, 1, .int x2)] → c ≤ mc → s ≤ ms → W p l e R s₀ m args below meth cd H locs c s (MQ below (va_Qv Post (wo_B E) (en_A E)) args s₀ mc ms (en_A E)) (F0 m 0 ls []) := by
  intro G c s x0 x1 x2 hw H locs ls hG hS hl hcc hss
  dsimp only [pq_Md_copy_0] at hw
  have hx := hC.1
  have hb := hC.2.1
  refine lv_aload_n hx hb dq_Md_copy_0 rfl (lx_at hl 0 rfl) ?_
  obtain ⟨t1, hw⟩ := hw
  refine wo_getR hC fq_Md_99 rfl hG t1 dq_Md_copy_1 (fun r2 e3 => ?_)
  replace hw := hw r2 e3
  refine lv_iload_n hx hb dq_Md_copy_4 rfl (lx_at hl 2 rfl) ?_
  refine lv_aload_n hx hb dq_Md_copy_5 rfl (lx_at hl 0 rfl) ?_
  refine wo_getR hC fq_Md_99 rfl hG t1 dq_Md_copy_6 (fun r4 e5 => ?_)
  replace hw := hw r4 e5
  refine lv_iload_n hx hb dq_Md_copy_9 rfl (lx_at hl 1 rfl) ?_
  obtain ⟨a6, rfl, hw⟩ := hw
  obtain ⟨t7, hw⟩ := hw
  obtain ⟨h8, hw⟩ := hw
  refine wo_iald (j := 2) hC rfl hG t7 h8 dq_Md_copy_10 ?_
  obtain ⟨a9, rfl, hw⟩ := hw
  obtain ⟨t10, hw⟩ := hw
  obtain ⟨h11, hw⟩ := hw
  obtain ⟨h12, hw⟩ := hw
  refine wo_iast (j := 2) hC rfl hG hS t10 h11 h12 dq_Md_copy_11 (fun G13 H locs e14 hG hS => ?_)
  replace hw := hw G13 e14
  refine lv_aload_n hx hb dq_Md_copy_12 rfl (lx_at hl 0 rfl) ?_
  refine wo_getR hC fq_Md_102 rfl hG (ty_sei e14 t1) dq_Md_copy_13 (fun r15 e16 => ?_)
  replace hw := hw r15 e16
  refine lv_iload_n hx hb dq_Md_copy_16 rfl (lx_at hl 2 rfl) ?_
  refine lv_aload_n hx hb dq_Md_copy_17 rfl (lx_at hl 0 rfl) ?_
  refine wo_getR hC fq_Md_102 rfl hG (ty_sei e14 t1) dq_Md_copy_18 (fun r17 e18 => ?_)
  replace hw := hw r17 e18
  refine lv_iload_n hx hb dq_Md_copy_21 rfl (lx_at hl 1 rfl) ?_
  obtain ⟨a19, rfl, hw⟩ := hw
  obtain ⟨t20, hw⟩ := hw
  obtain ⟨h21, hw⟩ := hw
  refine wo_lald (j := 9) hC rfl hG t20 h21 dq_Md_copy_22 ?_
  obtain ⟨a22, rfl, hw⟩ := hw
  obtain ⟨t23, hw⟩ := hw
  obtain ⟨h24, hw⟩ := hw
  obtain ⟨h25, hw⟩ := hw
  refine wo_last (j := 9) hC rfl hG hS t23 h24 h25 dq_Md_copy_23 (fun G26 H locs e27 hG hS => ?_)
  replace hw := hw G26 e27
  refine lv_aload_n hx hb dq_Md_copy_24 rfl (lx_at hl 0 rfl) ?_
  refine wo_getR hC fq_Md_105 rfl hG (ty_sel e27 (ty_sei e14 t1)) dq_Md_copy_25 (fun r28 e29 => ?_)
  replace hw := hw r28 e29
  refine lv_iload_n hx hb dq_Md_copy_28 rfl (lx_at hl 2 rfl) ?_
  refine lv_aload_n hx hb dq_Md_copy_29 rfl (lx_at hl 0 rfl) ?_
  refine wo_getR hC fq_Md_105 rfl hG (ty_sel e27 (ty_sei e14 t1)) dq_Md_copy_30 (fun r30 e31 => ?_)
  replace hw := hw r30 e31
  refine lv_iload_n hx hb dq_Md_copy_33 rfl (lx_at hl 1 rfl) ?_
  obtain ⟨a32, rfl, hw⟩ := hw
  obtain ⟨t33, hw⟩ := hw
  obtain ⟨h34, hw⟩ := hw
  refine wo_iald (j := 2) hC rfl hG t33 h34 dq_Md_copy_34 ?_
  obtain ⟨a35, rfl, hw⟩ := hw
  obtain ⟨t36, hw⟩ := hw
  obtain ⟨h37, hw⟩ := hw
  obtain ⟨h38, hw⟩ := hw
  refine wo_iast (j := 2) hC rfl hG hS t36 h37 h38 dq_Md_copy_35 (fun G39 H locs e40 hG hS => ?_)
  replace hw := hw G39 e40
  refine lv_aload_n hx hb dq_Md_copy_36 rfl (lx_at hl 0 rfl) ?_
  refine wo_getR hC fq_Md_108 rfl hG (ty_sei e40 (ty_sel e27 (ty_sei e14 t1))) dq_Md_copy_37 (fun r41 e42 => ?_)
  replace hw := hw r41 e42
  refine lv_iload_n hx hb dq_Md_copy_40 rfl (lx_at hl 2 rfl) ?_
  refine lv_aload_n hx hb dq_Md_copy_41 rfl (lx_at hl 0 rfl) ?_
  refine wo_getR hC fq_Md_108 rfl hG (ty_sei e40 (ty_sel e27 (ty_sei e14 t1))) dq_Md_copy_42 (fun r43 e44 => ?_)
  replace hw := hw r43 e44
  refine lv_iload_n hx hb dq_Md_copy_45 rfl (lx_at hl 1 rfl) ?_
  obtain ⟨a45, rfl, hw⟩ := hw
  obtain ⟨t46, hw⟩ := hw
  obtain ⟨h47, hw⟩ := hw
  refine wo_iald (j := 2) hC rfl hG t46 h47 dq_Md_copy_46 ?_
  obtain ⟨a48, rfl, hw⟩ := hw
  obtain ⟨t49, hw⟩ := hw
  obtain ⟨h50, hw⟩ := hw
  obtain ⟨h51, hw⟩ := hw
  refine wo_iast (j := 2) hC rfl hG hS t49 h50 h51 dq_Md_copy_47 (fun G52 H locs e53 hG hS => ?_)
  replace hw := hw G52 e53
  refine lv_aload_n hx hb dq_Md_copy_48 rfl (lx_at hl 0 rfl) ?_
  refine wo_getR hC fq_Md_111 rfl hG (ty_sei e53 (ty_sei e40 (ty_sel e27 (ty_sei e14 t1)))) dq_Md_copy_49 (fun r54 e55 => ?_)
  replace hw := hw r54 e55
  refine lv_iload_n hx hb dq_Md_copy_52 rfl (lx_at hl 2 rfl) ?_
  refine lv_aload_n hx hb dq_Md_copy_53 rfl (lx_at hl 0 rfl) ?_
  refine wo_getR hC fq_Md_111 rfl hG (ty_sei e53 (ty_sei e40 (ty_sel e27 (ty_sei e14 t1)))) dq_Md_copy_54 (fun r56 e57 => ?_)
  replace hw := hw r56 e57
  refine lv_iload_n hx hb dq_Md_copy_57 rfl (lx_at hl 1 rfl) ?_
  obtain ⟨a58, rfl, hw⟩ := hw
  obtain ⟨t59, hw⟩ := hw
  obtain ⟨h60, hw⟩ := hw
  refine wo_lald (j := 9) hC rfl hG t59 h60 dq_Md_copy_58 ?_
  obtain ⟨a61, rfl, hw⟩ := hw
  obtain ⟨t62, hw⟩ := hw
  obtain ⟨h63, hw⟩ := hw
  obtain ⟨h64, hw⟩ := hw
  refine wo_last (j := 9) hC rfl hG hS t62 h63 h64 dq_Md_copy_59 (fun G65 H locs e66 hG hS => ?_)
  replace hw := hw G65 e66
  refine lv_aload_n hx hb dq_Md_copy_60 rfl (lx_at hl 0 rfl) ?_
  refine wo_getR hC fq_Md_114 rfl hG (ty_sel e66 (ty_sei e53 (ty_sei e40 (ty_sel e27 (ty_sei e14 t1))))) dq_Md_copy_61 (fun r67 e68 => ?_)
  replace hw := hw r67 e68
  refine lv_iload_n hx hb dq_Md_copy_64 rfl (lx_at hl 2 rfl) ?_
  refine lv_aload_n hx hb dq_Md_copy_65 rfl (lx_at hl 0 rfl) ?_
  refine wo_getR hC fq_Md_114 rfl hG (ty_sel e66 (ty_sei e53 (ty_sei e40 (ty_sel e27 (ty_sei e14 t1))))) dq_Md_copy_66 (fun r69 e70 => ?_)
  replace hw := hw r69 e70
  refine lv_iload_n hx hb dq_Md_copy_69 rfl (lx_at hl 1 rfl) ?_
  obtain ⟨a71, rfl, hw⟩ := hw
  obtain ⟨t72, hw⟩ := hw
  obtain ⟨h73, hw⟩ := hw
  refine wo_iald (j := 2) hC rfl hG t72 h73 dq_Md_copy_70 ?_
  obtain ⟨a74, rfl, hw⟩ := hw
  obtain ⟨t75, hw⟩ := hw
  obtain ⟨h76, hw⟩ := hw
  obtain ⟨h77, hw⟩ := hw
  refine wo_iast (j := 2) hC rfl hG hS t75 h76 h77 dq_Md_copy_71 (fun G78 H locs e79 hG hS => ?_)
  replace hw := hw G78 e79
  refine lv_aload_n hx hb dq_Md_copy_72 rfl (lx_at hl 0 rfl) ?_
  refine wo_getR hC fq_Md_117 rfl hG (ty_sei e79 (ty_sel e66 (ty_sei e53 (ty_sei e40 (ty_sel e27 (ty_sei e14 t1)))))) dq_Md_copy_73 (fun r80 e81 => ?_)
  replace hw := hw r80 e81
  refine lv_iload_n hx hb dq_Md_copy_76 rfl (lx_at hl 2 rfl) ?_
  refine lv_aload_n hx hb dq_Md_copy_77 rfl (lx_at hl 0 rfl) ?_
  refine wo_getR hC fq_Md_117 rfl hG (ty_sei e79 (ty_sel e66 (ty_sei e53 (ty_sei e40 (ty_sel e27 (ty_sei e14 t1)))))) dq_Md_copy_78 (fun r82 e83 => ?_)
  replace hw := hw r82 e83
  refine lv_iload_n hx hb dq_Md_copy_81 rfl (lx_at hl 1 rfl) ?_
  obtain ⟨a84, rfl, hw⟩ := hw
  obtain ⟨t85, hw⟩ := hw
  obtain ⟨h86, hw⟩ := hw
  refine wo_zald (j := 8) hC rfl hG t85 h86 dq_Md_copy_82 ?_
  obtain ⟨a87, rfl, hw⟩ := hw
  obtain ⟨t88, hw⟩ := hw
  obtain ⟨h89, hw⟩ := hw
  obtain ⟨h90, hw⟩ := hw
  refine wo_zast (j := 8) hC rfl hG hS t88 h89 h90 dq_Md_copy_83 (fun G91 H locs e92 hG hS => ?_)
  replace hw := hw G91 e92
  exact wo_vret hC hG hS hcc hss hw dq_Md_copy_84
set_option maxHeartbeats 4000000 in
theorem mq_Md_copy {l : Launch} {E : wo_E} {mc ms : Nat} {Post : wo_W → Prop} {G : wo_W} {x0 : Nat} {x1 : Int32} {x2 : Int32} (hw : pq_Md_copy E mc ms Post G x0 x1 x2) : Met l yq_Md_copy (Cond.code yq_Md_copy prog_14_method_49_code 3 ((Option.none : Option Jvm.ClassFile.FieldType)) :: vw_WG) { frames := 0, cells := mc, slots := ms, locals := 0 } (va_Pc [.ref x0, .int x1, .int x2] (wo_Ok E G)) (va_Qv Post (wo_B E) (en_A E)) mc ms (en_A E) := by
  unfold pq_Md_copy at hw
  exact wo_met [(1, .ref x0), (1, .int x1), (1, .int x2)] rfl (by decide) (fun q hq => by simp only [List.mem_cons, List.not_mem_nil, or_false] at hq; rcases hq with rfl | rfl | rfl <;> first | rfl | exact lx_cR _) (Nat.le_of_ble_eq_true rfl) (fun p e R s m args below meth cd ls hC hG hS hl => tq_Md_copy_0 hC hw hG hS (lx_sub hl [0, 1, 2] rfl) (Nat.zero_le _) (Nat.zero_le _))

theorem dq_Md_samePath_0 : decode prog_14_method_45_code 0 = .ok (.aload_n 0, 1) := by decide +kernel
theorem dq_Md_samePath_1 : decode prog_14_method_45_code 1 = .ok (.getfield 120, 3) := by decide +kernel
theorem dq_Md_samePath_4 : decode prog_14_method_45_code 4 = .ok (.iload_n 1, 1) := by decide +kernel
theorem dq_Md_samePath_5 : decode prog_14_method_45_code 5 = .ok (.baload, 1) := by decide +kernel
theorem dq_Md_samePath_6 : decode prog_14_method_45_code 6 = .ok (.ifCond .eq 38, 3) := by decide +kernel
theorem dq_Md_samePath_9 : decode prog_14_method_45_code 9 = .ok (.aload_n 0, 1) := by decide +kernel
theorem dq_Md_samePath_10 : decode prog_14_method_45_code 10 = .ok (.getfield 123, 3) := by decide +kernel
theorem dq_Md_samePath_13 : decode prog_14_method_45_code 13 = .ok (.iload_n 1, 1) := by decide +kernel
theorem dq_Md_samePath_14 : decode prog_14_method_45_code 14 = .ok (.laload, 1) := by decide +kernel
theorem dq_Md_samePath_15 : decode prog_14_method_45_code 15 = .ok (.aload_n 0, 1) := by decide +kernel
theorem dq_Md_samePath_16 : decode prog_14_method_45_code 16 = .ok (.getfield 44, 3) := by decide +kernel
theorem dq_Md_samePath_19 : decode prog_14_method_45_code 19 = .ok (.iload_n 2, 1) := by decide +kernel
theorem dq_Md_samePath_20 : decode prog_14_method_45_code 20 = .ok (.laload, 1) := by decide +kernel
theorem dq_Md_samePath_21 : decode prog_14_method_45_code 21 = .ok (.lcmp, 1) := by decide +kernel
theorem dq_Md_samePath_22 : decode prog_14_method_45_code 22 = .ok (.ifCond .ne 22, 3) := by decide +kernel
theorem dq_Md_samePath_25 : decode prog_14_method_45_code 25 = .ok (.aload_n 0, 1) := by decide +kernel
theorem dq_Md_samePath_26 : decode prog_14_method_45_code 26 = .ok (.getfield 126, 3) := by decide +kernel
theorem dq_Md_samePath_29 : decode prog_14_method_45_code 29 = .ok (.iload_n 1, 1) := by decide +kernel
theorem dq_Md_samePath_30 : decode prog_14_method_45_code 30 = .ok (.iaload, 1) := by decide +kernel
theorem dq_Md_samePath_31 : decode prog_14_method_45_code 31 = .ok (.aload_n 0, 1) := by decide +kernel
theorem dq_Md_samePath_32 : decode prog_14_method_45_code 32 = .ok (.getfield 48, 3) := by decide +kernel
theorem dq_Md_samePath_35 : decode prog_14_method_45_code 35 = .ok (.iload_n 2, 1) := by decide +kernel
theorem dq_Md_samePath_36 : decode prog_14_method_45_code 36 = .ok (.iaload, 1) := by decide +kernel
theorem dq_Md_samePath_37 : decode prog_14_method_45_code 37 = .ok (.if_icmp .ne 7, 3) := by decide +kernel
theorem dq_Md_samePath_40 : decode prog_14_method_45_code 40 = .ok (.iconst 1, 1) := by decide +kernel
theorem dq_Md_samePath_41 : decode prog_14_method_45_code 41 = .ok (.goto 4, 3) := by decide +kernel
theorem dq_Md_samePath_44 : decode prog_14_method_45_code 44 = .ok (.iconst 0, 1) := by decide +kernel
theorem dq_Md_samePath_45 : decode prog_14_method_45_code 45 = .ok (.ireturn, 1) := by decide +kernel
set_option maxRecDepth 100000 in
def pq_Md_samePath_45 (E : wo_E) (mc ms : Nat) (Post : Int32 → wo_W → Prop) (G : wo_W) (c s : Nat) (y0 : Int32) : Prop := wo_okI .boolean y0 ∧ Post y0 G
set_option maxRecDepth 100000 in
def pq_Md_samePath_44 (E : wo_E) (mc ms : Nat) (Post : Int32 → wo_W → Prop) (G : wo_W) (c s : Nat) : Prop := pq_Md_samePath_45 E mc ms Post G c s (0 : Int32)
set_option maxRecDepth 100000 in
def pq_Md_samePath_0 (E : wo_E) (mc ms : Nat) (Post : Int32 → wo_W → Prop) (G : wo_W) (c s : Nat) (x0 : Nat) (x1 : Int32) (x2 : Int32) : Prop := wo_ty G x0 = 15 ∧ ∀ r2 : Option Nat, r2 = wo_gr G 936 x0 → ∃ a4 : Nat, r2 = some a4 ∧ wo_ty G a4 = 72 ∧ vp_in x1 (wo_len G a4) ∧ (((wo_ei G a4 x1.toNatClampNeg) = (0 : Int32) → pq_Md_samePath_44 E mc ms Post G c s) ∧
  (¬ (wo_ei G a4 x1.toNatClampNeg) = (0 : Int32) → ∀ r7 : Option Nat, r7 = wo_gr G 937 x0 → ∃ a9 : Nat, r7 = some a9 ∧ wo_ty G a9 = 73 ∧ vp_in x1 (wo_len G a9) ∧ ∀ r12 : Option Nat, r12 = wo_gr G 908 x0 → ∃ a14 : Nat, r12 = some a14 ∧ wo_ty G a14 = 73 ∧ vp_in x2 (wo_len G a14) ∧ ((¬ (lg_cmp (wo_el G a9 x1.toNatClampNeg) (wo_el G a14 x2.toNatClampNeg)) = (0 : Int32) → pq_Md_samePath_44 E mc ms Post G c s) ∧
    ((lg_cmp (wo_el G a9 x1.toNatClampNeg) (wo_el G a14 x2.toNatClampNeg)) = (0 : Int32) → ∀ r17 : Option Nat, r17 = wo_gr G 938 x0 → ∃ a19 : Nat, r17 = some a19 ∧ wo_ty G a19 = 66 ∧ vp_in x1 (wo_len G a19) ∧ ∀ r22 : Option Nat, r22 = wo_gr G 909 x0 → ∃ a24 : Nat, r22 = some a24 ∧ wo_ty G a24 = 66 ∧ vp_in x2 (wo_len G a24) ∧ ((¬ (wo_ei G a19 x1.toNatClampNeg) = (wo_ei G a24 x2.toNatClampNeg) → pq_Md_samePath_44 E mc ms Post G c s) ∧
      ((wo_ei G a19 x1.toNatClampNeg) = (wo_ei G a24 x2.toNatClampNeg) → pq_Md_samePath_45 E mc ms Post G c s (1 : Int32)))))))
def pq_Md_samePath (E : wo_E) (mc ms : Nat) (Post : Int32 → wo_W → Prop) (G : wo_W) (x0 : Nat) (x1 : Int32) (x2 : Int32) : Prop := pq_Md_samePath_0 E mc ms Post G 0 0 x0 x1 x2
set_option maxRecDepth 100000 in
set_option maxHeartbeats 4000000 in
theorem tq_Md_samePath_45 {p : Program} {l : Launch} {e : Env} {R : Room} {s₀ : State} {m : MethodId} {args : Array Value} {below : List Frame} {meth : Method} {cd : Code} {E : wo_E} {mc ms : Nat} {Post : Int32 → wo_W → Prop} (hC : wo_Cx E "EdgeCacheModel" prog_14_method_45_code 3 0 0 ((Option.some Jvm.ClassFile.FieldType.boolean)) "samePath" mc ms p R s₀ m args meth cd) : ∀ {G : wo_W} {c s : Nat} {y0 : Int32}, pq_Md_samePath_45 E mc ms Post G c s y0 → ∀ {H : Heap} {locs : List Loc} {ls : Array Slot}, wo_Se E G H → va_S (en_A E) s₀.heap H locs → lx_has ls 3 [] → c ≤ mc → s ≤ ms → W p l e R s₀ m args below meth cd H locs c s (MQ below (va_Qi Post (wo_B E) (en_A E)) args s₀ mc ms (en_A E)) (F0 m 45 ls [.int y0]) := by
  intro G c s y0 hw H locs ls hG hS hl hcc hss
  dsimp only [pq_Md_samePath_45] at hw
  have hx := hC.1
  have hb := hC.2.1
  obtain ⟨h1, hw⟩ := hw
  exact wo_zret hC h1.1 hG hS hcc hss hw dq_Md_samePath_45
set_option maxRecDepth 100000 in
set_option maxHeartbeats 4000000 in
theorem tq_Md_samePath_44 {p : Program} {l : Launch} {e : Env} {R : Room} {s₀ : State} {m : MethodId} {args : Array Value} {below : List Frame} {meth : Method} {cd : Code} {E : wo_E} {mc ms : Nat} {Post : Int32 → wo_W → Prop} (hC : wo_Cx E "EdgeCacheModel" prog_14_method_45_code 3 0 0 ((Option.some Jvm.ClassFile.FieldType.boolean)) "samePath" mc ms p R s₀ m args meth cd) : ∀ {G : wo_W} {c s : Nat}, pq_Md_samePath_44 E mc ms Post G c s → ∀ {H : Heap} {locs : List Loc} {ls : Array Slot}, wo_Se E G H → va_S (en_A E) s₀.heap H locs → lx_has ls 3 [] → c ≤ mc → s ≤ ms → W p l e R s₀ m args below meth cd H locs c s (MQ below (va_Qi Post (wo_B E) (en_A E)) args s₀ mc ms (en_A E)) (F0 m 44 ls []) := by
  intro G c s hw H locs ls hG hS hl hcc hss
  dsimp only [pq_Md_samePath_44] at hw
  have hx := hC.1
  have hb := hC.2.1
  refine lv_iconst (v := (0 : Int32)) hx hb dq_Md_samePath_44 rfl ?_
  exact tq_Md_samePath_45 hC hw hG hS (lx_sub hl [] rfl) hcc hss
set_option maxRecDepth 100000 in
set_option maxHeartbeats 4000000 in
theorem tq_Md_samePath_0 {p : Program} {l : Launch} {e : Env} {R : Room} {s₀ : State} {m : MethodId} {args : Array Value} {below : List Frame} {meth : Method} {cd : Code} {E : wo_E} {mc ms : Nat} {Post : Int32 → wo_W → Prop} (hC : wo_Cx E "EdgeCacheModel" prog_14_method_45_code 3 0 0 ((Option.some Jvm.ClassFile.FieldType.boolean)) "samePath" mc ms p R s₀ m args meth cd) : ∀ {G : wo_W} {c s : Nat} {x0 : Nat} {x1 : Int32} {x2 : Int32}, pq_Md_samePath_0 E mc ms Post G c s x0 x1 x2 → ∀ {H : Heap} {locs : List Loc} {ls : Array Slot}, wo_Se E G H → va_S (en_A E) s₀.heap H locs → lx_has ls 3 [(0, 1, .ref x0), (1, 1, .int x1), (2, 1, .int x2)] → c ≤ mc → s ≤ ms → W p l e R s₀ m args below meth cd H locs c s (MQ below (va_Qi Post (wo_B E) (en_A E)) args s₀ mc ms (en_A E)) (F0 m 0 ls []) := by
  intro G c s x0 x1 x2 hw H locs ls hG hS hl hcc hss
  dsimp only [pq_Md_samePath_0] at hw
  have hx := hC.1
  have hb := hC.2.1
  refine lv_aload_n hx hb dq_Md_samePath_0 rfl (lx_at hl 0 rfl) ?_
  obtain ⟨t1, hw⟩ := hw
  refine wo_getR hC fq_Md_120 rfl hG t1 dq_Md_samePath_1 (fun r2 e3 => ?_)
  replace hw := hw r2 e3
  refine lv_iload_n hx hb dq_Md_samePath_4 rfl (lx_at hl 1 rfl) ?_
  obtain ⟨a4, rfl, hw⟩ := hw
  obtain ⟨t5, hw⟩ := hw
  obtain ⟨h6, hw⟩ := hw
  refine wo_zald (j := 8) hC rfl hG t5 h6 dq_Md_samePath_5 ?_
  refine lv_if_eq (tgt := 44) hx hb dq_Md_samePath_6 rfl (fun h => ?_) (fun h => ?_)
  · replace hw := hw.1 h
    exact tq_Md_samePath_44 hC hw hG hS (lx_sub hl [] rfl) hcc hss
  · replace hw := hw.2 h
    refine lv_aload_n hx hb dq_Md_samePath_9 rfl (lx_at hl 0 rfl) ?_
    refine wo_getR hC fq_Md_123 rfl hG t1 dq_Md_samePath_10 (fun r7 e8 => ?_)
    replace hw := hw r7 e8
    refine lv_iload_n hx hb dq_Md_samePath_13 rfl (lx_at hl 1 rfl) ?_
    obtain ⟨a9, rfl, hw⟩ := hw
    obtain ⟨t10, hw⟩ := hw
    obtain ⟨h11, hw⟩ := hw
    refine wo_lald (j := 9) hC rfl hG t10 h11 dq_Md_samePath_14 ?_
    refine lv_aload_n hx hb dq_Md_samePath_15 rfl (lx_at hl 0 rfl) ?_
    refine wo_getR hC fq_Md_44 rfl hG t1 dq_Md_samePath_16 (fun r12 e13 => ?_)
    replace hw := hw r12 e13
    refine lv_iload_n hx hb dq_Md_samePath_19 rfl (lx_at hl 2 rfl) ?_
    obtain ⟨a14, rfl, hw⟩ := hw
    obtain ⟨t15, hw⟩ := hw
    obtain ⟨h16, hw⟩ := hw
    refine wo_lald (j := 9) hC rfl hG t15 h16 dq_Md_samePath_20 ?_
    refine W.lcmp hx hb dq_Md_samePath_21 ?_
    refine lv_if_ne (tgt := 44) hx hb dq_Md_samePath_22 rfl (fun h => ?_) (fun h => ?_)
    · replace hw := hw.1 h
      exact tq_Md_samePath_44 hC hw hG hS (lx_sub hl [] rfl) hcc hss
    · replace hw := hw.2 h
      refine lv_aload_n hx hb dq_Md_samePath_25 rfl (lx_at hl 0 rfl) ?_
      refine wo_getR hC fq_Md_126 rfl hG t1 dq_Md_samePath_26 (fun r17 e18 => ?_)
      replace hw := hw r17 e18
      refine lv_iload_n hx hb dq_Md_samePath_29 rfl (lx_at hl 1 rfl) ?_
      obtain ⟨a19, rfl, hw⟩ := hw
      obtain ⟨t20, hw⟩ := hw
      obtain ⟨h21, hw⟩ := hw
      refine wo_iald (j := 2) hC rfl hG t20 h21 dq_Md_samePath_30 ?_
      refine lv_aload_n hx hb dq_Md_samePath_31 rfl (lx_at hl 0 rfl) ?_
      refine wo_getR hC fq_Md_48 rfl hG t1 dq_Md_samePath_32 (fun r22 e23 => ?_)
      replace hw := hw r22 e23
      refine lv_iload_n hx hb dq_Md_samePath_35 rfl (lx_at hl 2 rfl) ?_
      obtain ⟨a24, rfl, hw⟩ := hw
      obtain ⟨t25, hw⟩ := hw
      obtain ⟨h26, hw⟩ := hw
      refine wo_iald (j := 2) hC rfl hG t25 h26 dq_Md_samePath_36 ?_
      refine lv_icmp_ne (tgt := 44) hx hb dq_Md_samePath_37 rfl (fun h => ?_) (fun h => ?_)
      · replace hw := hw.1 h
        exact tq_Md_samePath_44 hC hw hG hS (lx_sub hl [] rfl) hcc hss
      · replace hw := hw.2 h
        refine lv_iconst (v := (1 : Int32)) hx hb dq_Md_samePath_40 rfl ?_
        refine lv_goto (tgt := 45) hx hb dq_Md_samePath_41 rfl ?_
        exact tq_Md_samePath_45 hC hw hG hS (lx_sub hl [] rfl) hcc hss
set_option maxHeartbeats 4000000 in
theorem mq_Md_samePath {l : Launch} {E : wo_E} {mc ms : Nat} {Post : Int32 → wo_W → Prop} {G : wo_W} {x0 : Nat} {x1 : Int32} {x2 : Int32} (hw : pq_Md_samePath E mc ms Post G x0 x1 x2) : Met l yq_Md_samePath (Cond.code yq_Md_samePath prog_14_method_45_code 3 ((Option.some Jvm.ClassFile.FieldType.boolean)) :: vw_WG) { frames := 0, cells := mc, slots := ms, locals := 0 } (va_Pc [.ref x0, .int x1, .int x2] (wo_Ok E G)) (va_Qi Post (wo_B E) (en_A E)) mc ms (en_A E) := by
  unfold pq_Md_samePath at hw
  exact wo_met [(1, .ref x0), (1, .int x1), (1, .int x2)] rfl (by decide) (fun q hq => by simp only [List.mem_cons, List.not_mem_nil, or_false] at hq; rcases hq with rfl | rfl | rfl <;> first | rfl | exact lx_cR _) (Nat.le_of_ble_eq_true rfl) (fun p e R s m args below meth cd ls hC hG hS hl => tq_Md_samePath_0 hC hw hG hS (lx_sub hl [0, 1, 2] rfl) (Nat.zero_le _) (Nat.zero_le _))

theorem dq_Md_fits_0 : decode prog_14_method_46_code 0 = .ok (.aload_n 0, 1) := by decide +kernel
theorem dq_Md_fits_1 : decode prog_14_method_46_code 1 = .ok (.iload_n 1, 1) := by decide +kernel
theorem dq_Md_fits_2 : decode prog_14_method_46_code 2 = .ok (.iload_n 2, 1) := by decide +kernel
theorem dq_Md_fits_3 : decode prog_14_method_46_code 3 = .ok (.invokevirtual 346, 3) := by decide +kernel
theorem dq_Md_fits_6 : decode prog_14_method_46_code 6 = .ok (.ifCond .eq 57, 3) := by decide +kernel
theorem dq_Md_fits_9 : decode prog_14_method_46_code 9 = .ok (.aload_n 0, 1) := by decide +kernel
theorem dq_Md_fits_10 : decode prog_14_method_46_code 10 = .ok (.getfield 117, 3) := by decide +kernel
theorem dq_Md_fits_13 : decode prog_14_method_46_code 13 = .ok (.iload_n 1, 1) := by decide +kernel
theorem dq_Md_fits_14 : decode prog_14_method_46_code 14 = .ok (.baload, 1) := by decide +kernel
theorem dq_Md_fits_15 : decode prog_14_method_46_code 15 = .ok (.ifCond .eq 44, 3) := by decide +kernel
theorem dq_Md_fits_18 : decode prog_14_method_46_code 18 = .ok (.aload_n 0, 1) := by decide +kernel
theorem dq_Md_fits_19 : decode prog_14_method_46_code 19 = .ok (.getfield 132, 3) := by decide +kernel
theorem dq_Md_fits_22 : decode prog_14_method_46_code 22 = .ok (.iload_n 1, 1) := by decide +kernel
theorem dq_Md_fits_23 : decode prog_14_method_46_code 23 = .ok (.iaload, 1) := by decide +kernel
theorem dq_Md_fits_24 : decode prog_14_method_46_code 24 = .ok (.aload_n 0, 1) := by decide +kernel
theorem dq_Md_fits_25 : decode prog_14_method_46_code 25 = .ok (.getfield 54, 3) := by decide +kernel
theorem dq_Md_fits_28 : decode prog_14_method_46_code 28 = .ok (.bipush 8, 2) := by decide +kernel
theorem dq_Md_fits_30 : decode prog_14_method_46_code 30 = .ok (.iload_n 2, 1) := by decide +kernel
theorem dq_Md_fits_31 : decode prog_14_method_46_code 31 = .ok (.imul, 1) := by decide +kernel
theorem dq_Md_fits_32 : decode prog_14_method_46_code 32 = .ok (.iconst 5, 1) := by decide +kernel
theorem dq_Md_fits_33 : decode prog_14_method_46_code 33 = .ok (.iadd, 1) := by decide +kernel
theorem dq_Md_fits_34 : decode prog_14_method_46_code 34 = .ok (.iaload, 1) := by decide +kernel
theorem dq_Md_fits_35 : decode prog_14_method_46_code 35 = .ok (.if_icmp .ne 28, 3) := by decide +kernel
theorem dq_Md_fits_38 : decode prog_14_method_46_code 38 = .ok (.aload_n 0, 1) := by decide +kernel
theorem dq_Md_fits_39 : decode prog_14_method_46_code 39 = .ok (.getfield 129, 3) := by decide +kernel
theorem dq_Md_fits_42 : decode prog_14_method_46_code 42 = .ok (.iload_n 1, 1) := by decide +kernel
theorem dq_Md_fits_43 : decode prog_14_method_46_code 43 = .ok (.laload, 1) := by decide +kernel
theorem dq_Md_fits_44 : decode prog_14_method_46_code 44 = .ok (.aload_n 0, 1) := by decide +kernel
theorem dq_Md_fits_45 : decode prog_14_method_46_code 45 = .ok (.getfield 51, 3) := by decide +kernel
theorem dq_Md_fits_48 : decode prog_14_method_46_code 48 = .ok (.bipush 8, 2) := by decide +kernel
theorem dq_Md_fits_50 : decode prog_14_method_46_code 50 = .ok (.iload_n 2, 1) := by decide +kernel
theorem dq_Md_fits_51 : decode prog_14_method_46_code 51 = .ok (.imul, 1) := by decide +kernel
theorem dq_Md_fits_52 : decode prog_14_method_46_code 52 = .ok (.iconst 5, 1) := by decide +kernel
theorem dq_Md_fits_53 : decode prog_14_method_46_code 53 = .ok (.iadd, 1) := by decide +kernel
theorem dq_Md_fits_54 : decode prog_14_method_46_code 54 = .ok (.laload, 1) := by decide +kernel
theorem dq_Md_fits_55 : decode prog_14_method_46_code 55 = .ok (.lcmp, 1) := by decide +kernel
theorem dq_Md_fits_56 : decode prog_14_method_46_code 56 = .ok (.ifCond .ne 7, 3) := by decide +kernel
theorem dq_Md_fits_59 : decode prog_14_method_46_code 59 = .ok (.iconst 1, 1) := by decide +kernel
theorem dq_Md_fits_60 : decode prog_14_method_46_code 60 = .ok (.goto 4, 3) := by decide +kernel
theorem dq_Md_fits_63 : decode prog_14_method_46_code 63 = .ok (.iconst 0, 1) := by decide +kernel
theorem dq_Md_fits_64 : decode prog_14_method_46_code 64 = .ok (.ireturn, 1) := by decide +kernel
set_option maxRecDepth 100000 in
def pq_Md_fits_64 (E : wo_E) (mc ms : Nat) (Post : Int32 → wo_W → Prop) (G : wo_W) (c s : Nat) (y0 : Int32) : Prop := wo_okI .boolean y0 ∧ Post y0 G
set_option maxRecDepth 100000 in
def pq_Md_fits_63 (E : wo_E) (mc ms : Nat) (Post : Int32 → wo_W → Prop) (G : wo_W) (c s : Nat) : Prop := pq_Md_fits_64 E mc ms Post G c s (0 : Int32)
set_option maxRecDepth 100000 in
def pq_Md_fits_59 (E : wo_E) (mc ms : Nat) (Post : Int32 → wo_W → Prop) (G : wo_W) (c s : Nat) : Prop := pq_Md_fits_64 E mc ms Post G c s (1 : Int32)
set_option maxRecDepth 100000 in
def pq_Md_fits_0 (E : wo_E) (mc ms : Nat) (Post : Int32 → wo_W → Prop) (G : wo_W) (c s : Nat) (x0 : Nat) (x1 : Int32) (x2 : Int32) : Prop := wo_ty G x0 = 15 ∧ ∃ mc2 ms3 : Nat, (c + mc2) ≤ mc ∧ (s + ms3) ≤ ms ∧ pq_Md_samePath E mc2 ms3 (fun v5 G4 => 
  ((v5 = (0 : Int32) → pq_Md_fits_63 E mc ms Post G4 (c + mc2) (s + ms3)) ∧
    (¬ v5 = (0 : Int32) → wo_ty G4 x0 = 15 ∧ ∀ r7 : Option Nat, r7 = wo_gr G4 935 x0 → ∃ a9 : Nat, r7 = some a9 ∧ wo_ty G4 a9 = 72 ∧ vp_in x1 (wo_len G4 a9) ∧ (((wo_ei G4 a9 x1.toNatClampNeg) = (0 : Int32) → pq_Md_fits_59 E mc ms Post G4 (c + mc2) (s + ms3)) ∧
      (¬ (wo_ei G4 a9 x1.toNatClampNeg) = (0 : Int32) → ∀ r12 : Option Nat, r12 = wo_gr G4 940 x0 → ∃ a14 : Nat, r12 = some a14 ∧ wo_ty G4 a14 = 66 ∧ vp_in x1 (wo_len G4 a14) ∧ ∀ r17 : Option Nat, r17 = wo_gr G4 911 x0 → ∃ a19 : Nat, r17 = some a19 ∧ wo_ty G4 a19 = 66 ∧ vp_in (((8 : Int32) * x2) + (5 : Int32)) (wo_len G4 a19) ∧ ((¬ (wo_ei G4 a14 x1.toNatClampNeg) = (wo_ei G4 a19 (((8 : Int32) * x2) + (5 : Int32)).toNatClampNeg) → pq_Md_fits_63 E mc ms Post G4 (c + mc2) (s + ms3)) ∧
        ((wo_ei G4 a14 x1.toNatClampNeg) = (wo_ei G4 a19 (((8 : Int32) * x2) + (5 : Int32)).toNatClampNeg) → ∀ r22 : Option Nat, r22 = wo_gr G4 939 x0 → ∃ a24 : Nat, r22 = some a24 ∧ wo_ty G4 a24 = 73 ∧ vp_in x1 (wo_len G4 a24) ∧ ∀ r27 : Option Nat, r27 = wo_gr G4 910 x0 → ∃ a29 : Nat, r27 = some a29 ∧ wo_ty G4 a29 = 73 ∧ vp_in (((8 : Int32) * x2) + (5 : Int32)) (wo_len G4 a29) ∧ ((¬ (lg_cmp (wo_el G4 a24 x1.toNatClampNeg) (wo_el G4 a29 (((8 : Int32) * x2) + (5 : Int32)).toNatClampNeg)) = (0 : Int32) → pq_Md_fits_63 E mc ms Post G4 (c + mc2) (s + ms3)) ∧
          ((lg_cmp (wo_el G4 a24 x1.toNatClampNeg) (wo_el G4 a29 (((8 : Int32) * x2) + (5 : Int32)).toNatClampNeg)) = (0 : Int32) → pq_Md_fits_59 E mc ms Post G4 (c + mc2) (s + ms3)))))))))) G x0 x1 x2
def pq_Md_fits (E : wo_E) (mc ms : Nat) (Post : Int32 → wo_W → Prop) (G : wo_W) (x0 : Nat) (x1 : Int32) (x2 : Int32) : Prop := pq_Md_fits_0 E mc ms Post G 0 0 x0 x1 x2
set_option maxRecDepth 100000 in
set_option maxHeartbeats 4000000 in
theorem tq_Md_fits_64 {p : Program} {l : Launch} {e : Env} {R : Room} {s₀ : State} {m : MethodId} {args : Array Value} {below : List Frame} {meth : Method} {cd : Code} {E : wo_E} {mc ms : Nat} {Post : Int32 → wo_W → Prop} (hC : wo_Cx E "EdgeCacheModel" prog_14_method_46_code 3 1 22 ((Option.some Jvm.ClassFile.FieldType.boolean)) "fits" mc ms p R s₀ m args meth cd) : ∀ {G : wo_W} {c s : Nat} {y0 : Int32}, pq_Md_fits_64 E mc ms Post G c s y0 → ∀ {H : Heap} {locs : List Loc} {ls : Array Slot}, wo_Se E G H → va_S (en_A E) s₀.heap H locs → lx_has ls 3 [] → c ≤ mc → s ≤ ms → W p l e R s₀ m args below meth cd H locs c s (MQ below (va_Qi Post (wo_B E) (en_A E)) args s₀ mc ms (en_A E)) (F0 m 64 ls [.int y0]) := by
  intro G c s y0 hw H locs ls hG hS hl hcc hss
  dsimp only [pq_Md_fits_64] at hw
  have hx := hC.1
  have hb := hC.2.1
  obtain ⟨h1, hw⟩ := hw
  exact wo_zret hC h1.1 hG hS hcc hss hw dq_Md_fits_64
set_option maxRecDepth 100000 in
set_option maxHeartbeats 4000000 in
theorem tq_Md_fits_63 {p : Program} {l : Launch} {e : Env} {R : Room} {s₀ : State} {m : MethodId} {args : Array Value} {below : List Frame} {meth : Method} {cd : Code} {E : wo_E} {mc ms : Nat} {Post : Int32 → wo_W → Prop} (hC : wo_Cx E "EdgeCacheModel" prog_14_method_46_code 3 1 22 ((Option.some Jvm.ClassFile.FieldType.boolean)) "fits" mc ms p R s₀ m args meth cd) : ∀ {G : wo_W} {c s : Nat}, pq_Md_fits_63 E mc ms Post G c s → ∀ {H : Heap} {locs : List Loc} {ls : Array Slot}, wo_Se E G H → va_S (en_A E) s₀.heap H locs → lx_has ls 3 [] → c ≤ mc → s ≤ ms → W p l e R s₀ m args below meth cd H locs c s (MQ below (va_Qi Post (wo_B E) (en_A E)) args s₀ mc ms (en_A E)) (F0 m 63 ls []) := by
  intro G c s hw H locs ls hG hS hl hcc hss
  dsimp only [pq_Md_fits_63] at hw
  have hx := hC.1
  have hb := hC.2.1
  refine lv_iconst (v := (0 : Int32)) hx hb dq_Md_fits_63 rfl ?_
  exact tq_Md_fits_64 hC hw hG hS (lx_sub hl [] rfl) hcc hss
set_option maxRecDepth 100000 in
set_option maxHeartbeats 4000000 in
theorem tq_Md_fits_59 {p : Program} {l : Launch} {e : Env} {R : Room} {s₀ : State} {m : MethodId} {args : Array Value} {below : List Frame} {meth : Method} {cd : Code} {E : wo_E} {mc ms : Nat} {Post : Int32 → wo_W → Prop} (hC : wo_Cx E "EdgeCacheModel" prog_14_method_46_code 3 1 22 ((Option.some Jvm.ClassFile.FieldType.boolean)) "fits" mc ms p R s₀ m args meth cd) : ∀ {G : wo_W} {c s : Nat}, pq_Md_fits_59 E mc ms Post G c s → ∀ {H : Heap} {locs : List Loc} {ls : Array Slot}, wo_Se E G H → va_S (en_A E) s₀.heap H locs → lx_has ls 3 [] → c ≤ mc → s ≤ ms → W p l e R s₀ m args below meth cd H locs c s (MQ below (va_Qi Post (wo_B E) (en_A E)) args s₀ mc ms (en_A E)) (F0 m 59 ls []) := by
  intro G c s hw H locs ls hG hS hl hcc hss
  dsimp only [pq_Md_fits_59] at hw
  have hx := hC.1
  have hb := hC.2.1
  refine lv_iconst (v := (1 : Int32)) hx hb dq_Md_fits_59 rfl ?_
  refine lv_goto (tgt := 64) hx hb dq_Md_fits_60 rfl ?_
  exact tq_Md_fits_64 hC hw hG hS (lx_sub hl [] rfl) hcc hss
set_option maxRecDepth 100000 in
set_option maxHeartbeats 4000000 in
theorem tq_Md_fits_0 {p : Program} {l : Launch} {e : Env} {R : Room} {s₀ : State} {m : MethodId} {args : Array Value} {below : List Frame} {meth : Method} {cd : Code} {E : wo_E} {mc ms : Nat} {Post : Int32 → wo_W → Prop} (hC : wo_Cx E "EdgeCacheModel" prog_14_method_46_code 3 1 22 ((Option.some Jvm.ClassFile.FieldType.boolean)) "fits" mc ms p R s₀ m args meth cd) : ∀ {G : wo_W} {c s : Nat} {x0 : Nat} {x1 : Int32} {x2 : Int32}, pq_Md_fits_0 E mc ms Post G c s x0 x1 x2 → ∀ {H : Heap} {locs : List Loc} {ls : Array Slot}, wo_Se E G H → va_S (en_A E) s₀.heap H locs → lx_has ls 3 [(0, 1, .ref x0), (1, 1, .int x1), (2, 1, .int x2)] → c ≤ mc → s ≤ ms → W p l e R s₀ m args below meth cd H locs c s (MQ below (va_Qi Post (wo_B E) (en_A E)) args s₀ mc ms (en_A E)) (F0 m 0 ls []) := by
  intro G c s x0 x1 x2 hw H locs ls hG hS hl hcc hss
  dsimp only [pq_Md_fits_0] at hw
  have hx := hC.1
  have hb := hC.2.1
  refine lv_aload_n hx hb dq_Md_fits_0 rfl (lx_at hl 0 rfl) ?_
  refine lv_iload_n hx hb dq_Md_fits_1 rfl (lx_at hl 1 rfl) ?_
  refine lv_iload_n hx hb dq_Md_fits_2 rfl (lx_at hl 2 rfl) ?_
  obtain ⟨t1, hw⟩ := hw
  obtain ⟨mc2, ms3, hc1, hs1, hw⟩ := hw
  refine va_calli (wo_runV hC lq_Md_346 (mq_Md_samePath hw) hG hS t1 rfl (lx_sz hl) rfl (Nat.zero_le _) (by decide) dq_Md_fits_3 ⟨hc1, hs1⟩) hS (fun _ _ h => h) (fun _ h => h) (fun v5 G4 t H locs ht hvm hw' hB _ _ hS => ?_)
  clear hw
  have hw := hw'
  clear hw'
  replace hG := wo_bk ht hB
  replace hcc := hc1
  replace hss := hs1
  refine lv_if_eq (tgt := 63) hx hb dq_Md_fits_6 rfl (fun h => ?_) (fun h => ?_)
  · replace hw := hw.1 h
    exact tq_Md_fits_63 hC hw hG hS (lx_sub hl [] rfl) hcc hss
  · replace hw := hw.2 h
    refine lv_aload_n hx hb dq_Md_fits_9 rfl (lx_at hl 0 rfl) ?_
    obtain ⟨t6, hw⟩ := hw
    refine wo_getR hC fq_Md_117 rfl hG t6 dq_Md_fits_10 (fun r7 e8 => ?_)
    replace hw := hw r7 e8
    refine lv_iload_n hx hb dq_Md_fits_13 rfl (lx_at hl 1 rfl) ?_
    obtain ⟨a9, rfl, hw⟩ := hw
    obtain ⟨t10, hw⟩ := hw
    obtain ⟨h11, hw⟩ := hw
    refine wo_zald (j := 8) hC rfl hG t10 h11 dq_Md_fits_14 ?_
    refine lv_if_eq (tgt := 59) hx hb dq_Md_fits_15 rfl (fun h => ?_) (fun h => ?_)
    · replace hw := hw.1 h
      exact tq_Md_fits_59 hC hw hG hS (lx_sub hl [] rfl) hcc hss
    · replace hw := hw.2 h
      refine lv_aload_n hx hb dq_Md_fits_18 rfl (lx_at hl 0 rfl) ?_
      refine wo_getR hC fq_Md_132 rfl hG t6 dq_Md_fits_19 (fun r12 e13 => ?_)
      replace hw := hw r12 e13
      refine lv_iload_n hx hb dq_Md_fits_22 rfl (lx_at hl 1 rfl) ?_
      obtain ⟨a14, rfl, hw⟩ := hw
      obtain ⟨t15, hw⟩ := hw
      obtain ⟨h16, hw⟩ := hw
      refine wo_iald (j := 2) hC rfl hG t15 h16 dq_Md_fits_23 ?_
      refine lv_aload_n hx hb dq_Md_fits_24 rfl (lx_at hl 0 rfl) ?_
      refine wo_getR hC fq_Md_54 rfl hG t6 dq_Md_fits_25 (fun r17 e18 => ?_)
      replace hw := hw r17 e18
      refine lv_bipush (v := (8 : Int32)) hx hb dq_Md_fits_28 rfl ?_
      refine lv_iload_n hx hb dq_Md_fits_30 rfl (lx_at hl 2 rfl) ?_
      refine lv_imul hx hb dq_Md_fits_31 ?_
      refine lv_iconst (v := (5 : Int32)) hx hb dq_Md_fits_32 rfl ?_
      refine lv_iadd hx hb dq_Md_fits_33 ?_
      obtain ⟨a19, rfl, hw⟩ := hw
      obtain ⟨t20, hw⟩ := hw
      obtain ⟨h21, hw⟩ := hw
      refine wo_iald (j := 2) hC rfl hG t20 h21 dq_Md_fits_34 ?_
      refine lv_icmp_ne (tgt := 63) hx hb dq_Md_fits_35 rfl (fun h => ?_) (fun h => ?_)
      · replace hw := hw.1 h
        exact tq_Md_fits_63 hC hw hG hS (lx_sub hl [] rfl) hcc hss
      · replace hw := hw.2 h
        refine lv_aload_n hx hb dq_Md_fits_38 rfl (lx_at hl 0 rfl) ?_
        refine wo_getR hC fq_Md_129 rfl hG t6 dq_Md_fits_39 (fun r22 e23 => ?_)
        replace hw := hw r22 e23
        refine lv_iload_n hx hb dq_Md_fits_42 rfl (lx_at hl 1 rfl) ?_
        obtain ⟨a24, rfl, hw⟩ := hw
        obtain ⟨t25, hw⟩ := hw
        obtain ⟨h26, hw⟩ := hw
        refine wo_lald (j := 9) hC rfl hG t25 h26 dq_Md_fits_43 ?_
        refine lv_aload_n hx hb dq_Md_fits_44 rfl (lx_at hl 0 rfl) ?_
        refine wo_getR hC fq_Md_51 rfl hG t6 dq_Md_fits_45 (fun r27 e28 => ?_)
        replace hw := hw r27 e28
        refine lv_bipush (v := (8 : Int32)) hx hb dq_Md_fits_48 rfl ?_
        refine lv_iload_n hx hb dq_Md_fits_50 rfl (lx_at hl 2 rfl) ?_
        refine lv_imul hx hb dq_Md_fits_51 ?_
        refine lv_iconst (v := (5 : Int32)) hx hb dq_Md_fits_52 rfl ?_
        refine lv_iadd hx hb dq_Md_fits_53 ?_
        obtain ⟨a29, rfl, hw⟩ := hw
        obtain ⟨t30, hw⟩ := hw
        obtain ⟨h31, hw⟩ := hw
        refine wo_lald (j := 9) hC rfl hG t30 h31 dq_Md_fits_54 ?_
        refine W.lcmp hx hb dq_Md_fits_55 ?_
        refine lv_if_ne (tgt := 63) hx hb dq_Md_fits_56 rfl (fun h => ?_) (fun h => ?_)
        · replace hw := hw.1 h
          exact tq_Md_fits_63 hC hw hG hS (lx_sub hl [] rfl) hcc hss
        · replace hw := hw.2 h
          exact tq_Md_fits_59 hC hw hG hS (lx_sub hl [] rfl) hcc hss
set_option maxHeartbeats 4000000 in
theorem mq_Md_fits {l : Launch} {E : wo_E} {mc ms : Nat} {Post : Int32 → wo_W → Prop} {G : wo_W} {x0 : Nat} {x1 : Int32} {x2 : Int32} (hw : pq_Md_fits E mc ms Post G x0 x1 x2) : Met l yq_Md_fits (Cond.code yq_Md_fits prog_14_method_46_code 3 ((Option.some Jvm.ClassFile.FieldType.boolean)) :: vw_WG) { frames := 1, cells := mc, slots := ms, locals := 22 } (va_Pc [.ref x0, .int x1, .int x2] (wo_Ok E G)) (va_Qi Post (wo_B E) (en_A E)) mc ms (en_A E) := by
  unfold pq_Md_fits at hw
  exact wo_met [(1, .ref x0), (1, .int x1), (1, .int x2)] rfl (by decide) (fun q hq => by simp only [List.mem_cons, List.not_mem_nil, or_false] at hq; rcases hq with rfl | rfl | rfl <;> first | rfl | exact lx_cR _) (Nat.le_of_ble_eq_true rfl) (fun p e R s m args below meth cd ls hC hG hS hl => tq_Md_fits_0 hC hw hG hS (lx_sub hl [0, 1, 2] rfl) (Nat.zero_le _) (Nat.zero_le _))

theorem dq_Md_jobOn_0 : decode prog_14_method_50_code 0 = .ok (.iconst 0, 1) := by decide +kernel
theorem dq_Md_jobOn_1 : decode prog_14_method_50_code 1 = .ok (.istore_n 2, 1) := by decide +kernel
theorem dq_Md_jobOn_2 : decode prog_14_method_50_code 2 = .ok (.iload_n 2, 1) := by decide +kernel
theorem dq_Md_jobOn_3 : decode prog_14_method_50_code 3 = .ok (.bipush 8, 2) := by decide +kernel
theorem dq_Md_jobOn_5 : decode prog_14_method_50_code 5 = .ok (.if_icmp .ge 31, 3) := by decide +kernel
theorem dq_Md_jobOn_8 : decode prog_14_method_50_code 8 = .ok (.aload_n 0, 1) := by decide +kernel
theorem dq_Md_jobOn_9 : decode prog_14_method_50_code 9 = .ok (.getfield 69, 3) := by decide +kernel
theorem dq_Md_jobOn_12 : decode prog_14_method_50_code 12 = .ok (.iload_n 2, 1) := by decide +kernel
theorem dq_Md_jobOn_13 : decode prog_14_method_50_code 13 = .ok (.iaload, 1) := by decide +kernel
theorem dq_Md_jobOn_14 : decode prog_14_method_50_code 14 = .ok (.iconst 1, 1) := by decide +kernel
theorem dq_Md_jobOn_15 : decode prog_14_method_50_code 15 = .ok (.if_icmp .le 15, 3) := by decide +kernel
theorem dq_Md_jobOn_18 : decode prog_14_method_50_code 18 = .ok (.aload_n 0, 1) := by decide +kernel
theorem dq_Md_jobOn_19 : decode prog_14_method_50_code 19 = .ok (.getfield 81, 3) := by decide +kernel
theorem dq_Md_jobOn_22 : decode prog_14_method_50_code 22 = .ok (.iload_n 2, 1) := by decide +kernel
theorem dq_Md_jobOn_23 : decode prog_14_method_50_code 23 = .ok (.iaload, 1) := by decide +kernel
theorem dq_Md_jobOn_24 : decode prog_14_method_50_code 24 = .ok (.iload_n 1, 1) := by decide +kernel
theorem dq_Md_jobOn_25 : decode prog_14_method_50_code 25 = .ok (.if_icmp .ne 5, 3) := by decide +kernel
theorem dq_Md_jobOn_28 : decode prog_14_method_50_code 28 = .ok (.iload_n 2, 1) := by decide +kernel
theorem dq_Md_jobOn_29 : decode prog_14_method_50_code 29 = .ok (.ireturn, 1) := by decide +kernel
theorem dq_Md_jobOn_30 : decode prog_14_method_50_code 30 = .ok (.iinc 2 1, 3) := by decide +kernel
theorem dq_Md_jobOn_33 : decode prog_14_method_50_code 33 = .ok (.goto (-31), 3) := by decide +kernel
theorem dq_Md_jobOn_36 : decode prog_14_method_50_code 36 = .ok (.iconst (-1), 1) := by decide +kernel
theorem dq_Md_jobOn_37 : decode prog_14_method_50_code 37 = .ok (.ireturn, 1) := by decide +kernel
set_option maxRecDepth 100000 in
def pq_Md_jobOn_30 (E : wo_E) (mc ms : Nat) (Post : Int32 → wo_W → Prop) (k2 : wo_W → Nat → Nat → Nat → Int32 → Int32 → Prop) (G : wo_W) (c s : Nat) (x0 : Nat) (x1 : Int32) (x2 : Int32) : Prop := k2 G c s x0 x1 (x2 + (1 : Int32))
set_option maxRecDepth 100000 in
def pq_Md_jobOn_2 (E : wo_E) (mc ms : Nat) (Post : Int32 → wo_W → Prop) : Nat → wo_W → Nat → Nat → Nat → Int32 → Int32 → Prop
  | 0 => fun _ _ _ _ _ _ => False
  | n + 1 => fun G c s x0 x1 x2 => (((8 : Int32) ≤ x2 → Post (-1 : Int32) G) ∧
  (¬ (8 : Int32) ≤ x2 → wo_ty G x0 = 15 ∧ ∀ r2 : Option Nat, r2 = wo_gr G 918 x0 → ∃ a4 : Nat, r2 = some a4 ∧ wo_ty G a4 = 66 ∧ vp_in x2 (wo_len G a4) ∧ (((wo_ei G a4 x2.toNatClampNeg) ≤ (1 : Int32) → pq_Md_jobOn_30 E mc ms Post (pq_Md_jobOn_2 E mc ms Post n) G c s x0 x1 x2) ∧
    (¬ (wo_ei G a4 x2.toNatClampNeg) ≤ (1 : Int32) → ∀ r7 : Option Nat, r7 = wo_gr G 922 x0 → ∃ a9 : Nat, r7 = some a9 ∧ wo_ty G a9 = 66 ∧ vp_in x2 (wo_len G a9) ∧ ((¬ (wo_ei G a9 x2.toNatClampNeg) = x1 → pq_Md_jobOn_30 E mc ms Post (pq_Md_jobOn_2 E mc ms Post n) G c s x0 x1 x2) ∧
      ((wo_ei G a9 x2.toNatClampNeg) = x1 → Post x2 G))))))
set_option maxRecDepth 100000 in
def pq_Md_jobOn_0 (E : wo_E) (mc ms : Nat) (Post : Int32 → wo_W → Prop) (G : wo_W) (c s : Nat) (x0 : Nat) (x1 : Int32) : Prop := ∃ n1 : Nat, pq_Md_jobOn_2 E mc ms Post n1 G c s x0 x1 (0 : Int32)
def pq_Md_jobOn (E : wo_E) (mc ms : Nat) (Post : Int32 → wo_W → Prop) (G : wo_W) (x0 : Nat) (x1 : Int32) : Prop := pq_Md_jobOn_0 E mc ms Post G 0 0 x0 x1
set_option maxRecDepth 100000 in
set_option maxHeartbeats 4000000 in
theorem tq_Md_jobOn_30 {p : Program} {l : Launch} {e : Env} {R : Room} {s₀ : State} {m : MethodId} {args : Array Value} {below : List Frame} {meth : Method} {cd : Code} {E : wo_E} {mc ms : Nat} {Post : Int32 → wo_W → Prop} {k2 : wo_W → Nat → Nat → Nat → Int32 → Int32 → Prop} (hC : wo_Cx E "EdgeCacheModel" prog_14_method_50_code 3 0 0 ((Option.some Jvm.ClassFile.FieldType.int)) "jobOn" mc ms p R s₀ m args meth cd) (hk2 : ∀ {G : wo_W} {c s : Nat} {x0 : Nat} {x1 : Int32} {x2 : Int32}, k2 G c s x0 x1 x2 → ∀ {H : Heap} {locs : List Loc} {ls : Array Slot}, wo_Se E G H → va_S (en_A E) s₀.heap H locs → lx_has ls 3 [(0, 1, .ref x0), (1, 1, .int x1), (2, 1, .int x2)] → c ≤ mc → s ≤ ms → W p l e R s₀ m args below meth cd H locs c s (MQ below (va_Qi Post (wo_B E) (en_A E)) args s₀ mc ms (en_A E)) (F0 m 2 ls [])) : ∀ {G : wo_W} {c s : Nat} {x0 : Nat} {x1 : Int32} {x2 : Int32}, pq_Md_jobOn_30 E mc ms Post k2 G c s x0 x1 x2 → ∀ {H : Heap} {locs : List Loc} {ls : Array Slot}, wo_Se E G H → va_S (en_A E) s₀.heap H locs → lx_has ls 3 [(0, 1, .ref x0), (1, 1, .int x1), (2, 1, .int x2)] → c ≤ mc → s ≤ ms → W p l e R s₀ m args below meth cd H locs c s (MQ below (va_Qi Post (wo_B E) (en_A E)) args s₀ mc ms (en_A E)) (F0 m 30 ls []) := by
  intro G c s x0 x1 x2 hw H locs ls hG hS hl hcc hss
  dsimp only [pq_Md_jobOn_30] at hw
  have hx := hC.1
  have hb := hC.2.1
  refine lx_iinc (k := 2) (v := (x2 + (1 : Int32))) (lv' := [(2, 1, .int (x2 + (1 : Int32))), (0, 1, .ref x0), (1, 1, .int x1)]) hx hb dq_Md_jobOn_30 hl rfl rfl (by decide) rfl (fun ls hl' => ?_)
  clear hl
  have hl := hl'
  clear hl'
  refine lv_goto (tgt := 2) hx hb dq_Md_jobOn_33 rfl ?_
  exact hk2 hw hG hS (lx_sub hl [1, 2, 0] rfl) hcc hss
set_option maxRecDepth 100000 in
set_option maxHeartbeats 4000000 in
theorem tq_Md_jobOn_2 {p : Program} {l : Launch} {e : Env} {R : Room} {s₀ : State} {m : MethodId} {args : Array Value} {below : List Frame} {meth : Method} {cd : Code} {E : wo_E} {mc ms : Nat} {Post : Int32 → wo_W → Prop} (hC : wo_Cx E "EdgeCacheModel" prog_14_method_50_code 3 0 0 ((Option.some Jvm.ClassFile.FieldType.int)) "jobOn" mc ms p R s₀ m args meth cd) : ∀ n : Nat, ∀ {G : wo_W} {c s : Nat} {x0 : Nat} {x1 : Int32} {x2 : Int32}, pq_Md_jobOn_2 E mc ms Post n G c s x0 x1 x2 → ∀ {H : Heap} {locs : List Loc} {ls : Array Slot}, wo_Se E G H → va_S (en_A E) s₀.heap H locs → lx_has ls 3 [(0, 1, .ref x0), (1, 1, .int x1), (2, 1, .int x2)] → c ≤ mc → s ≤ ms → W p l e R s₀ m args below meth cd H locs c s (MQ below (va_Qi Post (wo_B E) (en_A E)) args s₀ mc ms (en_A E)) (F0 m 2 ls []) := by
  intro n
  induction n with
  | zero => intro G c s x0 x1 x2 hw; exact hw.elim
  | succ n ih =>
    intro G c s x0 x1 x2 hw H locs ls hG hS hl hcc hss
    dsimp only [pq_Md_jobOn_2] at hw
    have hx := hC.1
    have hb := hC.2.1
    refine lv_iload_n hx hb dq_Md_jobOn_2 rfl (lx_at hl 2 rfl) ?_
    refine lv_bipush (v := (8 : Int32)) hx hb dq_Md_jobOn_3 rfl ?_
    refine lv_icmp_ge (tgt := 36) hx hb dq_Md_jobOn_5 rfl (fun h => ?_) (fun h => ?_)
    · replace hw := hw.1 h
      refine lv_iconst (v := (-1 : Int32)) hx hb dq_Md_jobOn_36 rfl ?_
      exact wo_iret hC hG hS hcc hss hw dq_Md_jobOn_37
    · replace hw := hw.2 h
      refine lv_aload_n hx hb dq_Md_jobOn_8 rfl (lx_at hl 0 rfl) ?_
      obtain ⟨t1, hw⟩ := hw
      refine wo_getR hC fq_Md_69 rfl hG t1 dq_Md_jobOn_9 (fun r2 e3 => ?_)
      replace hw := hw r2 e3
      refine lv_iload_n hx hb dq_Md_jobOn_12 rfl (lx_at hl 2 rfl) ?_
      obtain ⟨a4, rfl, hw⟩ := hw
      obtain ⟨t5, hw⟩ := hw
      obtain ⟨h6, hw⟩ := hw
      refine wo_iald (j := 2) hC rfl hG t5 h6 dq_Md_jobOn_13 ?_
      refine lv_iconst (v := (1 : Int32)) hx hb dq_Md_jobOn_14 rfl ?_
      refine lv_icmp_le (tgt := 30) hx hb dq_Md_jobOn_15 rfl (fun h => ?_) (fun h => ?_)
      · replace hw := hw.1 h
        exact tq_Md_jobOn_30 hC ih hw hG hS (lx_sub hl [0, 1, 2] rfl) hcc hss
      · replace hw := hw.2 h
        refine lv_aload_n hx hb dq_Md_jobOn_18 rfl (lx_at hl 0 rfl) ?_
        refine wo_getR hC fq_Md_81 rfl hG t1 dq_Md_jobOn_19 (fun r7 e8 => ?_)
        replace hw := hw r7 e8
        refine lv_iload_n hx hb dq_Md_jobOn_22 rfl (lx_at hl 2 rfl) ?_
        obtain ⟨a9, rfl, hw⟩ := hw
        obtain ⟨t10, hw⟩ := hw
        obtain ⟨h11, hw⟩ := hw
        refine wo_iald (j := 2) hC rfl hG t10 h11 dq_Md_jobOn_23 ?_
        refine lv_iload_n hx hb dq_Md_jobOn_24 rfl (lx_at hl 1 rfl) ?_
        refine lv_icmp_ne (tgt := 30) hx hb dq_Md_jobOn_25 rfl (fun h => ?_) (fun h => ?_)
        · replace hw := hw.1 h
          exact tq_Md_jobOn_30 hC ih hw hG hS (lx_sub hl [0, 1, 2] rfl) hcc hss
        · replace hw := hw.2 h
          refine lv_iload_n hx hb dq_Md_jobOn_28 rfl (lx_at hl 2 rfl) ?_
          exact wo_iret hC hG hS hcc hss hw dq_Md_jobOn_29
set_option maxRecDepth 100000 in
set_option maxHeartbeats 4000000 in
theorem tq_Md_jobOn_0 {p : Program} {l : Launch} {e : Env} {R : Room} {s₀ : State} {m : MethodId} {args : Array Value} {below : List Frame} {meth : Method} {cd : Code} {E : wo_E} {mc ms : Nat} {Post : Int32 → wo_W → Prop} (hC : wo_Cx E "EdgeCacheModel" prog_14_method_50_code 3 0 0 ((Option.some Jvm.ClassFile.FieldType.int)) "jobOn" mc ms p R s₀ m args meth cd) : ∀ {G : wo_W} {c s : Nat} {x0 : Nat} {x1 : Int32}, pq_Md_jobOn_0 E mc ms Post G c s x0 x1 → ∀ {H : Heap} {locs : List Loc} {ls : Array Slot}, wo_Se E G H → va_S (en_A E) s₀.heap H locs → lx_has ls 3 [(0, 1, .ref x0), (1, 1, .int x1)] → c ≤ mc → s ≤ ms → W p l e R s₀ m args below meth cd H locs c s (MQ below (va_Qi Post (wo_B E) (en_A E)) args s₀ mc ms (en_A E)) (F0 m 0 ls []) := by
  intro G c s x0 x1 hw H locs ls hG hS hl hcc hss
  dsimp only [pq_Md_jobOn_0] at hw
  have hx := hC.1
  have hb := hC.2.1
  refine lv_iconst (v := (0 : Int32)) hx hb dq_Md_jobOn_0 rfl ?_
  refine lx_istore_n (lv' := [(2, 1, .int (0 : Int32)), (0, 1, .ref x0), (1, 1, .int x1)]) hx hb dq_Md_jobOn_1 rfl hl (by decide) rfl (fun ls hl' => ?_)
  clear hl
  have hl := hl'
  clear hl'
  obtain ⟨n1, hw⟩ := hw
  exact tq_Md_jobOn_2 hC n1 hw hG hS (lx_sub hl [1, 2, 0] rfl) hcc hss
set_option maxHeartbeats 4000000 in
theorem mq_Md_jobOn {l : Launch} {E : wo_E} {mc ms : Nat} {Post : Int32 → wo_W → Prop} {G : wo_W} {x0 : Nat} {x1 : Int32} (hw : pq_Md_jobOn E mc ms Post G x0 x1) : Met l yq_Md_jobOn (Cond.code yq_Md_jobOn prog_14_method_50_code 3 ((Option.some Jvm.ClassFile.FieldType.int)) :: vw_WG) { frames := 0, cells := mc, slots := ms, locals := 0 } (va_Pc [.ref x0, .int x1] (wo_Ok E G)) (va_Qi Post (wo_B E) (en_A E)) mc ms (en_A E) := by
  unfold pq_Md_jobOn at hw
  exact wo_met [(1, .ref x0), (1, .int x1)] rfl (by decide) (fun q hq => by simp only [List.mem_cons, List.not_mem_nil, or_false] at hq; rcases hq with rfl | rfl <;> first | rfl | exact lx_cR _) (Nat.le_of_ble_eq_true rfl) (fun p e R s m args below meth cd ls hC hG hS hl => tq_Md_jobOn_0 hC hw hG hS (lx_sub hl [0, 1] rfl) (Nat.zero_le _) (Nat.zero_le _))
