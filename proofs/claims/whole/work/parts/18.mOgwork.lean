theorem dq_Og_work_0 : decode prog_4_method_2_code 0 = .ok (.aload_n 1, 1) := by decide +kernel
theorem dq_Og_work_1 : decode prog_4_method_2_code 1 = .ok (.getfield 18, 3) := by decide +kernel
theorem dq_Og_work_4 : decode prog_4_method_2_code 4 = .ok (.getfield 24, 3) := by decide +kernel
theorem dq_Og_work_7 : decode prog_4_method_2_code 7 = .ok (.iconst 2, 1) := by decide +kernel
theorem dq_Og_work_8 : decode prog_4_method_2_code 8 = .ok (.if_icmp .ne 11, 3) := by decide +kernel
theorem dq_Og_work_11 : decode prog_4_method_2_code 11 = .ok (.aload_n 0, 1) := by decide +kernel
theorem dq_Og_work_12 : decode prog_4_method_2_code 12 = .ok (.aload_n 1, 1) := by decide +kernel
theorem dq_Og_work_13 : decode prog_4_method_2_code 13 = .ok (.invokevirtual 30, 3) := by decide +kernel
theorem dq_Og_work_16 : decode prog_4_method_2_code 16 = .ok (.goto 27, 3) := by decide +kernel
theorem dq_Og_work_19 : decode prog_4_method_2_code 19 = .ok (.aload_n 1, 1) := by decide +kernel
theorem dq_Og_work_20 : decode prog_4_method_2_code 20 = .ok (.getfield 18, 3) := by decide +kernel
theorem dq_Og_work_23 : decode prog_4_method_2_code 23 = .ok (.getfield 24, 3) := by decide +kernel
theorem dq_Og_work_26 : decode prog_4_method_2_code 26 = .ok (.iconst 3, 1) := by decide +kernel
theorem dq_Og_work_27 : decode prog_4_method_2_code 27 = .ok (.if_icmp .ne 11, 3) := by decide +kernel
theorem dq_Og_work_30 : decode prog_4_method_2_code 30 = .ok (.aload_n 0, 1) := by decide +kernel
theorem dq_Og_work_31 : decode prog_4_method_2_code 31 = .ok (.aload_n 1, 1) := by decide +kernel
theorem dq_Og_work_32 : decode prog_4_method_2_code 32 = .ok (.invokevirtual 34, 3) := by decide +kernel
theorem dq_Og_work_35 : decode prog_4_method_2_code 35 = .ok (.goto 8, 3) := by decide +kernel
theorem dq_Og_work_38 : decode prog_4_method_2_code 38 = .ok (.aload_n 0, 1) := by decide +kernel
theorem dq_Og_work_39 : decode prog_4_method_2_code 39 = .ok (.aload_n 1, 1) := by decide +kernel
theorem dq_Og_work_40 : decode prog_4_method_2_code 40 = .ok (.invokevirtual 37, 3) := by decide +kernel
theorem dq_Og_work_43 : decode prog_4_method_2_code 43 = .ok (.return_, 1) := by decide +kernel
set_option maxRecDepth 100000 in
def pq_Og_work_43 (E : wo_E) (mc ms : Nat) (Post : wo_W → Prop) (G : wo_W) (c s : Nat) : Prop := Post G
set_option maxRecDepth 100000 in
def pq_Og_work_0 (E : wo_E) (mc ms : Nat) (Post : wo_W → Prop) (G : wo_W) (c s : Nat) (x0 : Nat) (x1 : Option Nat) : Prop := ∃ a1 : Nat, x1 = some a1 ∧ wo_ty G a1 = 11 ∧ ∀ r3 : Option Nat, r3 = wo_gr G 640 a1 → ∃ a5 : Nat, r3 = some a5 ∧ wo_ty G a5 = 9 ∧ ((¬ (wo_gi G 512 a5) = (2 : Int32) → ∀ r7 : Option Nat, r7 = wo_gr G 640 a1 → ∃ a9 : Nat, r7 = some a9 ∧ wo_ty G a9 = 9 ∧ ((¬ (wo_gi G 512 a9) = (3 : Int32) → wo_ty G x0 = 2 ∧ ∃ mc12 ms13 : Nat, (c + mc12) ≤ mc ∧ (s + ms13) ≤ ms ∧ pq_Og_read E mc12 ms13 (fun G14 => 
      pq_Og_work_43 E mc ms Post G14 (c + mc12) (s + ms13)) G x0 (some a1)) ∧
    ((wo_gi G 512 a9) = (3 : Int32) → wo_ty G x0 = 2 ∧ ∃ mc16 ms17 : Nat, (c + mc16) ≤ mc ∧ (s + ms17) ≤ ms ∧ pq_Og_delete E mc16 ms17 (fun G18 => 
      pq_Og_work_43 E mc ms Post G18 (c + mc16) (s + ms17)) G x0 (some a1)))) ∧
  ((wo_gi G 512 a5) = (2 : Int32) → wo_ty G x0 = 2 ∧ ∃ mc20 ms21 : Nat, (c + mc20) ≤ mc ∧ (s + ms21) ≤ ms ∧ pq_Og_put E mc20 ms21 (fun G22 => 
    pq_Og_work_43 E mc ms Post G22 (c + mc20) (s + ms21)) G x0 (some a1)))
def pq_Og_work (E : wo_E) (mc ms : Nat) (Post : wo_W → Prop) (G : wo_W) (x0 : Nat) (x1 : Option Nat) : Prop := pq_Og_work_0 E mc ms Post G 0 0 x0 x1
set_option maxRecDepth 100000 in
set_option maxHeartbeats 4000000 in
theorem tq_Og_work_43 {p : Program} {l : Launch} {e : Env} {R : Room} {s₀ : State} {m : MethodId} {args : Array Value} {below : List Frame} {meth : Method} {cd : Code} {E : wo_E} {mc ms : Nat} {Post : wo_W → Prop} (hC : wo_Cx E "EdgeCache$Origin" prog_4_method_2_code 2 8 185 ((Option.none : Option Jvm.ClassFile.FieldType)) "work" mc ms p R s₀ m args meth cd) : ∀ {G : wo_W} {c s : Nat}, pq_Og_work_43 E mc ms Post G c s → ∀ {H : Heap} {locs : List Loc} {ls : Array Slot}, wo_Se E G H → va_S (en_A E) s₀.heap H locs → lx_has ls 2 [] → c ≤ mc → s ≤ ms → W p l e R s₀ m args below meth cd H locs c s (MQ below (va_Qv Post (wo_B E) (en_A E)) args s₀ mc ms (en_A E)) (F0 m 43 ls []) := by
  intro G c s hw H locs ls hG hS hl hcc hss
  dsimp only [pq_Og_work_43] at hw
  have hx := hC.1
  have hb := hC.2.1
  exact wo_vret hC hG hS hcc hss hw dq_Og_work_43
set_option maxRecDepth 100000 in
set_option maxHeartbeats 4000000 in
theorem tq_Og_work_0 {p : Program} {l : Launch} {e : Env} {R : Room} {s₀ : State} {m : MethodId} {args : Array Value} {below : List Frame} {meth : Method} {cd : Code} {E : wo_E} {mc ms : Nat} {Post : wo_W → Prop} (hC : wo_Cx E "EdgeCache$Origin" prog_4_method_2_code 2 8 185 ((Option.none : Option Jvm.ClassFile.FieldType)) "work" mc ms p R s₀ m args meth cd) : ∀ {G : wo_W} {c s : Nat} {x0 : Nat} {x1 : Option Nat}, pq_Og_work_0 E mc ms Post G c s x0 x1 → ∀ {H : Heap} {locs : List Loc} {ls : Array Slot}, wo_Se E G H → va_S (en_A E) s₀.heap H locs → lx_has ls 2 [(0, 1, .ref x0), (1, 1, va_rf x1)] → c ≤ mc → s ≤ ms → W p l e R s₀ m args below meth cd H locs c s (MQ below (va_Qv Post (wo_B E) (en_A E)) args s₀ mc ms (en_A E)) (F0 m 0 ls []) := by
  intro G c s x0 x1 hw H locs ls hG hS hl hcc hss
  dsimp only [pq_Og_work_0] at hw
  have hx := hC.1
  have hb := hC.2.1
  refine lx_aloadR_n hx hb dq_Og_work_0 rfl (lx_at hl 1 rfl) ?_
  obtain ⟨a1, rfl, hw⟩ := hw
  obtain ⟨t2, hw⟩ := hw
  refine wo_getR hC fq_Og_18 rfl hG t2 dq_Og_work_1 (fun r3 e4 => ?_)
  replace hw := hw r3 e4
  obtain ⟨a5, rfl, hw⟩ := hw
  obtain ⟨t6, hw⟩ := hw
  refine wo_getI hC fq_Og_24 rfl hG t6 dq_Og_work_4 ?_
  refine lv_iconst (v := (2 : Int32)) hx hb dq_Og_work_7 rfl ?_
  refine lv_icmp_ne (tgt := 19) hx hb dq_Og_work_8 rfl (fun h => ?_) (fun h => ?_)
  · replace hw := hw.1 h
    refine lv_aload_n hx hb dq_Og_work_19 rfl (lx_at hl 1 rfl) ?_
    refine wo_getR hC fq_Og_18 rfl hG t2 dq_Og_work_20 (fun r7 e8 => ?_)
    replace hw := hw r7 e8
    obtain ⟨a9, rfl, hw⟩ := hw
    obtain ⟨t10, hw⟩ := hw
    refine wo_getI hC fq_Og_24 rfl hG t10 dq_Og_work_23 ?_
    refine lv_iconst (v := (3 : Int32)) hx hb dq_Og_work_26 rfl ?_
    refine lv_icmp_ne (tgt := 38) hx hb dq_Og_work_27 rfl (fun h => ?_) (fun h => ?_)
    · replace hw := hw.1 h
      refine lv_aload_n hx hb dq_Og_work_38 rfl (lx_at hl 0 rfl) ?_
      refine lv_aload_n hx hb dq_Og_work_39 rfl (lx_at hl 1 rfl) ?_
      obtain ⟨t11, hw⟩ := hw
      obtain ⟨mc12, ms13, hc1, hs1, hw⟩ := hw
      refine va_callv (wo_runV hC lq_Og_37 (mq_Og_read hw) hG hS t11 rfl (lx_sz hl) rfl (Nat.zero_le _) (by decide) dq_Og_work_40 ⟨hc1, hs1⟩) hS (fun _ _ h => h) (fun _ h => h) (fun G14 t H locs ht hvm hw' hB _ _ hS => ?_)
      clear hw
      have hw := hw'
      clear hw'
      replace hG := wo_bk ht hB
      replace hcc := hc1
      replace hss := hs1
      exact tq_Og_work_43 hC hw hG hS (lx_sub hl [] rfl) hcc hss
    · replace hw := hw.2 h
      refine lv_aload_n hx hb dq_Og_work_30 rfl (lx_at hl 0 rfl) ?_
      refine lv_aload_n hx hb dq_Og_work_31 rfl (lx_at hl 1 rfl) ?_
      obtain ⟨t15, hw⟩ := hw
      obtain ⟨mc16, ms17, hc1, hs1, hw⟩ := hw
      refine va_callv (wo_runV hC lq_Og_34 (mq_Og_delete hw) hG hS t15 rfl (lx_sz hl) rfl (Nat.zero_le _) (by decide) dq_Og_work_32 ⟨hc1, hs1⟩) hS (fun _ _ h => h) (fun _ h => h) (fun G18 t H locs ht hvm hw' hB _ _ hS => ?_)
      clear hw
      have hw := hw'
      clear hw'
      replace hG := wo_bk ht hB
      replace hcc := hc1
      replace hss := hs1
      refine lv_goto (tgt := 43) hx hb dq_Og_work_35 rfl ?_
      exact tq_Og_work_43 hC hw hG hS (lx_sub hl [] rfl) hcc hss
  · replace hw := hw.2 h
    refine lv_aload_n hx hb dq_Og_work_11 rfl (lx_at hl 0 rfl) ?_
    refine lv_aload_n hx hb dq_Og_work_12 rfl (lx_at hl 1 rfl) ?_
    obtain ⟨t19, hw⟩ := hw
    obtain ⟨mc20, ms21, hc1, hs1, hw⟩ := hw
    refine va_callv (wo_runV hC lq_Og_30 (mq_Og_put hw) hG hS t19 rfl (lx_sz hl) rfl (Nat.zero_le _) (by decide) dq_Og_work_13 ⟨hc1, hs1⟩) hS (fun _ _ h => h) (fun _ h => h) (fun G22 t H locs ht hvm hw' hB _ _ hS => ?_)
    clear hw
    have hw := hw'
    clear hw'
    replace hG := wo_bk ht hB
    replace hcc := hc1
    replace hss := hs1
    refine lv_goto (tgt := 43) hx hb dq_Og_work_16 rfl ?_
    exact tq_Og_work_43 hC hw hG hS (lx_sub hl [] rfl) hcc hss
set_option maxHeartbeats 4000000 in
theorem mq_Og_work {l : Launch} {E : wo_E} {mc ms : Nat} {Post : wo_W → Prop} {G : wo_W} {x0 : Nat} {x1 : Option Nat} (hw : pq_Og_work E mc ms Post G x0 x1) : Met l yq_Og_work (Cond.code yq_Og_work prog_4_method_2_code 2 ((Option.none : Option Jvm.ClassFile.FieldType)) :: vw_WG) { frames := 8, cells := mc, slots := ms, locals := 185 } (va_Pc [.ref x0, va_rf x1] (wo_Ok E G)) (va_Qv Post (wo_B E) (en_A E)) mc ms (en_A E) := by
  unfold pq_Og_work at hw
  exact wo_met [(1, .ref x0), (1, va_rf x1)] rfl (by decide) (fun q hq => by simp only [List.mem_cons, List.not_mem_nil, or_false] at hq; rcases hq with rfl | rfl <;> first | rfl | exact lx_cR _) (Nat.le_of_ble_eq_true rfl) (fun p e R s m args below meth cd ls hC hG hS hl => tq_Og_work_0 hC hw hG hS (lx_sub hl [0, 1] rfl) (Nat.zero_le _) (Nat.zero_le _))

theorem dq_Rd_finish_0 : decode prog_5_method_3_code 0 = .ok (.aload_n 0, 1) := by decide +kernel
theorem dq_Rd_finish_1 : decode prog_5_method_3_code 1 = .ok (.getfield 27, 3) := by decide +kernel
theorem dq_Rd_finish_4 : decode prog_5_method_3_code 4 = .ok (.astore_n 1, 1) := by decide +kernel
theorem dq_Rd_finish_5 : decode prog_5_method_3_code 5 = .ok (.aload_n 1, 1) := by decide +kernel
theorem dq_Rd_finish_6 : decode prog_5_method_3_code 6 = .ok (.aload_n 0, 1) := by decide +kernel
theorem dq_Rd_finish_7 : decode prog_5_method_3_code 7 = .ok (.getfield 18, 3) := by decide +kernel
theorem dq_Rd_finish_10 : decode prog_5_method_3_code 10 = .ok (.invokevirtual 42, 3) := by decide +kernel
theorem dq_Rd_finish_13 : decode prog_5_method_3_code 13 = .ok (.putfield 61, 3) := by decide +kernel
theorem dq_Rd_finish_16 : decode prog_5_method_3_code 16 = .ok (.aload_n 0, 1) := by decide +kernel
theorem dq_Rd_finish_17 : decode prog_5_method_3_code 17 = .ok (.new 24, 3) := by decide +kernel
theorem dq_Rd_finish_20 : decode prog_5_method_3_code 20 = .ok (.dup, 1) := by decide +kernel
theorem dq_Rd_finish_21 : decode prog_5_method_3_code 21 = .ok (.invokespecial 26, 3) := by decide +kernel
theorem dq_Rd_finish_24 : decode prog_5_method_3_code 24 = .ok (.putfield 27, 3) := by decide +kernel
theorem dq_Rd_finish_27 : decode prog_5_method_3_code 27 = .ok (.aload_n 0, 1) := by decide +kernel
theorem dq_Rd_finish_28 : decode prog_5_method_3_code 28 = .ok (.getfield 18, 3) := by decide +kernel
theorem dq_Rd_finish_31 : decode prog_5_method_3_code 31 = .ok (.iconst 0, 1) := by decide +kernel
theorem dq_Rd_finish_32 : decode prog_5_method_3_code 32 = .ok (.invokevirtual 46, 3) := by decide +kernel
theorem dq_Rd_finish_35 : decode prog_5_method_3_code 35 = .ok (.aload_n 0, 1) := by decide +kernel
theorem dq_Rd_finish_36 : decode prog_5_method_3_code 36 = .ok (.iconst 0, 1) := by decide +kernel
theorem dq_Rd_finish_37 : decode prog_5_method_3_code 37 = .ok (.putfield 31, 3) := by decide +kernel
theorem dq_Rd_finish_40 : decode prog_5_method_3_code 40 = .ok (.aload_n 0, 1) := by decide +kernel
theorem dq_Rd_finish_41 : decode prog_5_method_3_code 41 = .ok (.iconst 0, 1) := by decide +kernel
theorem dq_Rd_finish_42 : decode prog_5_method_3_code 42 = .ok (.putfield 64, 3) := by decide +kernel
theorem dq_Rd_finish_45 : decode prog_5_method_3_code 45 = .ok (.aload_n 0, 1) := by decide +kernel
theorem dq_Rd_finish_46 : decode prog_5_method_3_code 46 = .ok (.iconst (-1), 1) := by decide +kernel
theorem dq_Rd_finish_47 : decode prog_5_method_3_code 47 = .ok (.putfield 35, 3) := by decide +kernel
theorem dq_Rd_finish_50 : decode prog_5_method_3_code 50 = .ok (.aload_n 0, 1) := by decide +kernel
theorem dq_Rd_finish_51 : decode prog_5_method_3_code 51 = .ok (.iconst 0, 1) := by decide +kernel
theorem dq_Rd_finish_52 : decode prog_5_method_3_code 52 = .ok (.putfield 67, 3) := by decide +kernel
theorem dq_Rd_finish_55 : decode prog_5_method_3_code 55 = .ok (.aload_n 1, 1) := by decide +kernel
theorem dq_Rd_finish_56 : decode prog_5_method_3_code 56 = .ok (.areturn, 1) := by decide +kernel
set_option maxRecDepth 100000 in
def pq_Rd_finish_0 (E : wo_E) (mc ms : Nat) (Post : Option Nat → wo_W → Prop) (G : wo_W) (c s : Nat) (x0 : Nat) : Prop := wo_ty G x0 = 8 ∧ ∀ r2 : Option Nat, r2 = wo_gr G 451 x0 → ∀ r4 : Option Nat, r4 = wo_gr G 449 x0 → ∃ a6 : Nat, r4 = some a6 ∧ wo_ty G a6 = 5 ∧ ∃ mc8 ms9 : Nat, (c + mc8) ≤ mc ∧ (s + ms9) ≤ ms ∧ pq_SB_toString E mc8 ms9 (fun v11 G10 => 
  ∃ a12 : Nat, r2 = some a12 ∧ wo_ty G10 a12 = 9 ∧ en_bs E ≤ a12 ∧ ∀ G15 : wo_W, G15 = wo_sr G10 514 a12 v11 → 
    ((c + mc8) + 1) ≤ mc ∧ ((s + ms9) + 12) ≤ ms ∧ ∀ q19 : Nat, wo_ty G15 q19 = 0 → en_bs E ≤ q19 → ∀ G22 : wo_W, G22 = wo_new G15 q19 9 → 
    ∃ mc24 ms25 : Nat, (((c + mc8) + 1) + mc24) ≤ mc ∧ (((s + ms9) + 12) + ms25) ≤ ms ∧ pq_Rq_init E mc24 ms25 (fun G26 => 
    wo_ty G26 x0 = 8 ∧ en_bs E ≤ x0 ∧ ∀ G29 : wo_W, G29 = wo_sr G26 451 x0 (some q19) → 
      ∀ r31 : Option Nat, r31 = wo_gr G29 449 x0 → ∃ a33 : Nat, r31 = some a33 ∧ wo_ty G29 a33 = 5 ∧ ∃ mc35 ms36 : Nat, ((((c + mc8) + 1) + mc24) + mc35) ≤ mc ∧ ((((s + ms9) + 12) + ms25) + ms36) ≤ ms ∧ pq_SB_setLength E mc35 ms36 (fun G37 => 
      wo_ty G37 x0 = 8 ∧ en_bs E ≤ x0 ∧ ∀ G40 : wo_W, G40 = wo_si G37 452 x0 (0 : Int32) → 
        en_bs E ≤ x0 ∧ ∀ G43 : wo_W, G43 = wo_si G40 453 x0 (0 : Int32) → 
        en_bs E ≤ x0 ∧ ∀ G46 : wo_W, G46 = wo_si G43 454 x0 (-1 : Int32) → 
        en_bs E ≤ x0 ∧ wo_okI .boolean (0 : Int32) ∧ ∀ G50 : wo_W, G50 = wo_si G46 455 x0 (0 : Int32) → 
        Post (some a12) G50) G29 a33 (0 : Int32)) G22 q19) G a6
def pq_Rd_finish (E : wo_E) (mc ms : Nat) (Post : Option Nat → wo_W → Prop) (G : wo_W) (x0 : Nat) : Prop := pq_Rd_finish_0 E mc ms Post G 0 0 x0
set_option maxRecDepth 100000 in
set_option maxHeartbeats 4000000 in
theorem tq_Rd_finish_0 {p : Program} {l : Launch} {e : Env} {R : Room} {s₀ : State} {m : MethodId} {args : Array Value} {below : List Frame} {meth : Method} {cd : Code} {E : wo_E} {mc ms : Nat} {Post : Option Nat → wo_W → Prop} (hC : wo_Cx E "EdgeCache$Reader" prog_5_method_3_code 2 6 140 ((Option.some (Jvm.ClassFile.FieldType.object "EdgeCache$Request"))) "finish" mc ms p R s₀ m args meth cd) : ∀ {G : wo_W} {c s : Nat} {x0 : Nat}, pq_Rd_finish_0 E mc ms Post G c s x0 → ∀ {H : Heap} {locs : List Loc} {ls : Array Slot}, wo_Se E G H → va_S (en_A E) s₀.heap H locs → lx_has ls 2 [(0, 1, .ref x0)] → c ≤ mc → s ≤ ms → W p l e R s₀ m args below meth cd H locs c s (MQ below (va_Qq Post (wo_B E) (en_A E)) args s₀ mc ms (en_A E)) (F0 m 0 ls []) := by
  intro G c s x0 hw H locs ls hG hS hl hcc hss
  dsimp only [pq_Rd_finish_0] at hw
  have hx := hC.1
  have hb := hC.2.1
  refine lv_aload_n hx hb dq_Rd_finish_0 rfl (lx_at hl 0 rfl) ?_
  obtain ⟨t1, hw⟩ := hw
  refine wo_getR hC fq_Rd_27 rfl hG t1 dq_Rd_finish_1 (fun r2 e3 => ?_)
  replace hw := hw r2 e3
  refine lx_astoreR_n (lv' := [(1, 1, va_rf r2), (0, 1, .ref x0)]) hx hb dq_Rd_finish_4 rfl hl (by decide) rfl (fun ls hl' => ?_)
  clear hl
  have hl := hl'
  clear hl'
  refine lx_aloadR_n hx hb dq_Rd_finish_5 rfl (lx_at hl 0 rfl) ?_
  refine lv_aload_n hx hb dq_Rd_finish_6 rfl (lx_at hl 1 rfl) ?_
  refine wo_getR hC fq_Rd_18 rfl hG t1 dq_Rd_finish_7 (fun r4 e5 => ?_)
  replace hw := hw r4 e5
  obtain ⟨a6, rfl, hw⟩ := hw
  obtain ⟨t7, hw⟩ := hw
  obtain ⟨mc8, ms9, hc1, hs1, hw⟩ := hw
  refine va_callq (wo_runV hC lq_Rd_42 (mq_SB_toString hw) hG hS t7 rfl (lx_sz hl) rfl (lx_rm (Nat.le_of_ble_eq_true rfl)) (by decide) dq_Rd_finish_10 ⟨hc1, hs1⟩) hS (fun _ _ h => h) (fun _ h => h) (fun v11 G10 t H locs ht hvm hw' hB _ _ hS => ?_)
  clear hw
  have hw := hw'
  clear hw'
  replace hG := wo_bk ht hB
  replace hcc := hc1
  replace hss := hs1
  obtain ⟨a12, rfl, hw⟩ := hw
  obtain ⟨t13, hw⟩ := hw
  obtain ⟨h14, hw⟩ := hw
  refine wo_putR (x := v11) hC fq_Rd_61 (Or.inl rfl) rfl hG hS t13 h14 dq_Rd_finish_13 (fun G15 H locs e16 hG hS => ?_)
  replace hw := hw G15 e16
  refine lv_aload_n hx hb dq_Rd_finish_16 rfl (lx_at hl 1 rfl) ?_
  obtain ⟨h17, hw⟩ := hw
  obtain ⟨h18, hw⟩ := hw
  refine wo_newc hC nq_Rd_24 hG hS h17 h18 dq_Rd_finish_17 (fun q19 G22 H z20 b21 e23 hG hS => ?_)
  replace hw := hw q19 z20 b21 G22 e23
  replace hcc := h17
  replace hss := h18
  refine lv_dup hx hb dq_Rd_finish_20 rfl ?_
  obtain ⟨mc24, ms25, hc1, hs1, hw⟩ := hw
  refine va_callv (wo_runN hC lq_Rd_26 (mq_Rq_init hw) hG hS rfl (lx_sz hl) rfl (lx_rm (Nat.le_of_ble_eq_true rfl)) (by decide) dq_Rd_finish_21 ⟨hc1, hs1⟩) hS (fun _ _ h => h) (fun _ h => h) (fun G26 t H locs ht hvm hw' hB _ _ hS => ?_)
  clear hw
  have hw := hw'
  clear hw'
  replace hG := wo_bk ht hB
  replace hcc := hc1
  replace hss := hs1
  obtain ⟨t27, hw⟩ := hw
  obtain ⟨h28, hw⟩ := hw
  refine wo_putR (x := (some q19)) hC fq_Rd_27 (Or.inl rfl) rfl hG hS t27 h28 dq_Rd_finish_24 (fun G29 H locs e30 hG hS => ?_)
  replace hw := hw G29 e30
  refine lv_aload_n hx hb dq_Rd_finish_27 rfl (lx_at hl 1 rfl) ?_
  refine wo_getR hC fq_Rd_18 rfl hG (ty_sr e30 t27) dq_Rd_finish_28 (fun r31 e32 => ?_)
  replace hw := hw r31 e32
  refine lv_iconst (v := (0 : Int32)) hx hb dq_Rd_finish_31 rfl ?_
  obtain ⟨a33, rfl, hw⟩ := hw
  obtain ⟨t34, hw⟩ := hw
  obtain ⟨mc35, ms36, hc1, hs1, hw⟩ := hw
  refine va_callv (wo_runV hC lq_Rd_46 (mq_SB_setLength hw) hG hS t34 rfl (lx_sz hl) rfl (Nat.zero_le _) (by decide) dq_Rd_finish_32 ⟨hc1, hs1⟩) hS (fun _ _ h => h) (fun _ h => h) (fun G37 t H locs ht hvm hw' hB _ _ hS => ?_)
  clear hw
  have hw := hw'
  clear hw'
  replace hG := wo_bk ht hB
  replace hcc := hc1
  replace hss := hs1
  refine lv_aload_n hx hb dq_Rd_finish_35 rfl (lx_at hl 1 rfl) ?_
  refine lv_iconst (v := (0 : Int32)) hx hb dq_Rd_finish_36 rfl ?_
  obtain ⟨t38, hw⟩ := hw
  obtain ⟨h39, hw⟩ := hw
  refine wo_putI hC fq_Rd_31 (Or.inl rfl) rfl (wo_ok_int _) hG hS t38 h39 dq_Rd_finish_37 (fun G40 H locs e41 hG hS => ?_)
  replace hw := hw G40 e41
  refine lv_aload_n hx hb dq_Rd_finish_40 rfl (lx_at hl 1 rfl) ?_
  refine lv_iconst (v := (0 : Int32)) hx hb dq_Rd_finish_41 rfl ?_
  obtain ⟨h42, hw⟩ := hw
  refine wo_putI hC fq_Rd_64 (Or.inl rfl) rfl (wo_ok_int _) hG hS (ty_si e41 t38) h42 dq_Rd_finish_42 (fun G43 H locs e44 hG hS => ?_)
  replace hw := hw G43 e44
  refine lv_aload_n hx hb dq_Rd_finish_45 rfl (lx_at hl 1 rfl) ?_
  refine lv_iconst (v := (-1 : Int32)) hx hb dq_Rd_finish_46 rfl ?_
  obtain ⟨h45, hw⟩ := hw
  refine wo_putI hC fq_Rd_35 (Or.inl rfl) rfl (wo_ok_int _) hG hS (ty_si e44 (ty_si e41 t38)) h45 dq_Rd_finish_47 (fun G46 H locs e47 hG hS => ?_)
  replace hw := hw G46 e47
  refine lv_aload_n hx hb dq_Rd_finish_50 rfl (lx_at hl 1 rfl) ?_
  refine lv_iconst (v := (0 : Int32)) hx hb dq_Rd_finish_51 rfl ?_
  obtain ⟨h48, hw⟩ := hw
  obtain ⟨h49, hw⟩ := hw
  refine wo_putI hC fq_Rd_67 (Or.inl rfl) rfl h49 hG hS (ty_si e47 (ty_si e44 (ty_si e41 t38))) h48 dq_Rd_finish_52 (fun G50 H locs e51 hG hS => ?_)
  replace hw := hw G50 e51
  refine lv_aload_n hx hb dq_Rd_finish_55 rfl (lx_at hl 0 rfl) ?_
  exact wo_aret (x := (some a12)) hC rfl hG hS hcc hss hw dq_Rd_finish_56
set_option maxHeartbeats 4000000 in
theorem mq_Rd_finish {l : Launch} {E : wo_E} {mc ms : Nat} {Post : Option Nat → wo_W → Prop} {G : wo_W} {x0 : Nat} (hw : pq_Rd_finish E mc ms Post G x0) : Met l yq_Rd_finish (Cond.code yq_Rd_finish prog_5_method_3_code 2 ((Option.some (Jvm.ClassFile.FieldType.object "EdgeCache$Request"))) :: vw_WG) { frames := 6, cells := mc, slots := ms, locals := 140 } (va_Pc [.ref x0] (wo_Ok E G)) (va_Qq Post (wo_B E) (en_A E)) mc ms (en_A E) := by
  unfold pq_Rd_finish at hw
  exact wo_met [(1, .ref x0)] rfl (by decide) (fun q hq => by simp only [List.mem_cons, List.not_mem_nil, or_false] at hq; rcases hq with rfl <;> first | rfl | exact lx_cR _) (Nat.le_of_ble_eq_true rfl) (fun p e R s m args below meth cd ls hC hG hS hl => tq_Rd_finish_0 hC hw hG hS (lx_sub hl [0] rfl) (Nat.zero_le _) (Nat.zero_le _))

theorem dq_EC_handle_0 : decode prog_1_method_19_code 0 = .ok (.aload_n 0, 1) := by decide +kernel
theorem dq_EC_handle_1 : decode prog_1_method_19_code 1 = .ok (.getfield 11, 3) := by decide +kernel
theorem dq_EC_handle_4 : decode prog_1_method_19_code 4 = .ok (.iload_n 1, 1) := by decide +kernel
theorem dq_EC_handle_5 : decode prog_1_method_19_code 5 = .ok (.aaload, 1) := by decide +kernel
theorem dq_EC_handle_6 : decode prog_1_method_19_code 6 = .ok (.astore_n 3, 1) := by decide +kernel
theorem dq_EC_handle_7 : decode prog_1_method_19_code 7 = .ok (.aload_n 3, 1) := by decide +kernel
theorem dq_EC_handle_8 : decode prog_1_method_19_code 8 = .ok (.getfield 69, 3) := by decide +kernel
theorem dq_EC_handle_11 : decode prog_1_method_19_code 11 = .ok (.invokevirtual 175, 3) := by decide +kernel
theorem dq_EC_handle_14 : decode prog_1_method_19_code 14 = .ok (.astore 4, 2) := by decide +kernel
theorem dq_EC_handle_16 : decode prog_1_method_19_code 16 = .ok (.aload_n 3, 1) := by decide +kernel
theorem dq_EC_handle_17 : decode prog_1_method_19_code 17 = .ok (.aload 4, 2) := by decide +kernel
theorem dq_EC_handle_19 : decode prog_1_method_19_code 19 = .ok (.invokevirtual 179, 3) := by decide +kernel
theorem dq_EC_handle_22 : decode prog_1_method_19_code 22 = .ok (.iload_n 2, 1) := by decide +kernel
theorem dq_EC_handle_23 : decode prog_1_method_19_code 23 = .ok (.iconst 1, 1) := by decide +kernel
theorem dq_EC_handle_24 : decode prog_1_method_19_code 24 = .ok (.if_icmp .eq 25, 3) := by decide +kernel
theorem dq_EC_handle_27 : decode prog_1_method_19_code 27 = .ok (.aload_n 3, 1) := by decide +kernel
theorem dq_EC_handle_28 : decode prog_1_method_19_code 28 = .ok (.iconst 1, 1) := by decide +kernel
theorem dq_EC_handle_29 : decode prog_1_method_19_code 29 = .ok (.putfield 95, 3) := by decide +kernel
theorem dq_EC_handle_32 : decode prog_1_method_19_code 32 = .ok (.aload 4, 2) := by decide +kernel
theorem dq_EC_handle_34 : decode prog_1_method_19_code 34 = .ok (.aload_n 0, 1) := by decide +kernel
theorem dq_EC_handle_35 : decode prog_1_method_19_code 35 = .ok (.getfield 25, 3) := by decide +kernel
theorem dq_EC_handle_38 : decode prog_1_method_19_code 38 = .ok (.iload_n 2, 1) := by decide +kernel
theorem dq_EC_handle_39 : decode prog_1_method_19_code 39 = .ok (.iconst 0, 1) := by decide +kernel
theorem dq_EC_handle_40 : decode prog_1_method_19_code 40 = .ok (.invokevirtual 109, 3) := by decide +kernel
theorem dq_EC_handle_43 : decode prog_1_method_19_code 43 = .ok (.putfield 113, 3) := by decide +kernel
theorem dq_EC_handle_46 : decode prog_1_method_19_code 46 = .ok (.goto 49, 3) := by decide +kernel
theorem dq_EC_handle_49 : decode prog_1_method_19_code 49 = .ok (.iload_n 1, 1) := by decide +kernel
theorem dq_EC_handle_50 : decode prog_1_method_19_code 50 = .ok (.iconst 2, 1) := by decide +kernel
theorem dq_EC_handle_51 : decode prog_1_method_19_code 51 = .ok (.if_icmp .ne 38, 3) := by decide +kernel
theorem dq_EC_handle_54 : decode prog_1_method_19_code 54 = .ok (.new 29, 3) := by decide +kernel
theorem dq_EC_handle_57 : decode prog_1_method_19_code 57 = .ok (.dup, 1) := by decide +kernel
theorem dq_EC_handle_58 : decode prog_1_method_19_code 58 = .ok (.aload 4, 2) := by decide +kernel
theorem dq_EC_handle_60 : decode prog_1_method_19_code 60 = .ok (.iconst 0, 1) := by decide +kernel
theorem dq_EC_handle_61 : decode prog_1_method_19_code 61 = .ok (.invokespecial 183, 3) := by decide +kernel
theorem dq_EC_handle_64 : decode prog_1_method_19_code 64 = .ok (.astore 5, 2) := by decide +kernel
theorem dq_EC_handle_66 : decode prog_1_method_19_code 66 = .ok (.aload_n 0, 1) := by decide +kernel
theorem dq_EC_handle_67 : decode prog_1_method_19_code 67 = .ok (.getfield 18, 3) := by decide +kernel
theorem dq_EC_handle_70 : decode prog_1_method_19_code 70 = .ok (.aload 5, 2) := by decide +kernel
theorem dq_EC_handle_72 : decode prog_1_method_19_code 72 = .ok (.invokevirtual 132, 3) := by decide +kernel
theorem dq_EC_handle_75 : decode prog_1_method_19_code 75 = .ok (.aload 4, 2) := by decide +kernel
theorem dq_EC_handle_77 : decode prog_1_method_19_code 77 = .ok (.aload_n 0, 1) := by decide +kernel
theorem dq_EC_handle_78 : decode prog_1_method_19_code 78 = .ok (.aload 5, 2) := by decide +kernel
theorem dq_EC_handle_80 : decode prog_1_method_19_code 80 = .ok (.invokevirtual 139, 3) := by decide +kernel
theorem dq_EC_handle_83 : decode prog_1_method_19_code 83 = .ok (.putfield 113, 3) := by decide +kernel
theorem dq_EC_handle_86 : decode prog_1_method_19_code 86 = .ok (.goto 9, 3) := by decide +kernel
theorem dq_EC_handle_89 : decode prog_1_method_19_code 89 = .ok (.aload_n 0, 1) := by decide +kernel
theorem dq_EC_handle_90 : decode prog_1_method_19_code 90 = .ok (.aload 4, 2) := by decide +kernel
theorem dq_EC_handle_92 : decode prog_1_method_19_code 92 = .ok (.invokevirtual 186, 3) := by decide +kernel
theorem dq_EC_handle_95 : decode prog_1_method_19_code 95 = .ok (.aload_n 3, 1) := by decide +kernel
theorem dq_EC_handle_96 : decode prog_1_method_19_code 96 = .ok (.invokevirtual 189, 3) := by decide +kernel
theorem dq_EC_handle_99 : decode prog_1_method_19_code 99 = .ok (.return_, 1) := by decide +kernel
set_option maxRecDepth 100000 in
def pq_EC_handle_95 (E : wo_E) (mc ms : Nat) (Post : wo_W → Prop) (G : wo_W) (c s : Nat) (x3 : Option Nat) : Prop := ∃ a1 : Nat, x3 = some a1 ∧ wo_ty G a1 = 7 ∧ ∃ mc3 ms4 : Nat, (c + mc3) ≤ mc ∧ (s + ms4) ≤ ms ∧ pq_Cn_deliver E mc3 ms4 (fun G5 => 
  Post G5) G a1
set_option maxRecDepth 100000 in
def pq_EC_handle_0 (E : wo_E) (mc ms : Nat) (Post : wo_W → Prop) (G : wo_W) (c s : Nat) (x0 : Nat) (x1 : Int32) (x2 : Int32) : Prop := wo_ty G x0 = 1 ∧ ∀ r2 : Option Nat, r2 = wo_gr G 0 x0 → ∃ a4 : Nat, r2 = some a4 ∧ wo_ty G a4 = 64 ∧ vp_in x1 (wo_len G a4) ∧ ∀ r7 : Option Nat, r7 = wo_er G a4 x1.toNatClampNeg → ∃ a9 : Nat, r7 = some a9 ∧ wo_ty G a9 = 7 ∧ ∀ r11 : Option Nat, r11 = wo_gr G 384 a9 → ∃ a13 : Nat, r11 = some a13 ∧ wo_ty G a13 = 8 ∧ ∃ mc15 ms16 : Nat, (c + mc15) ≤ mc ∧ (s + ms16) ≤ ms ∧ pq_Rd_finish E mc15 ms16 (fun v18 G17 => 
  wo_ty G17 a9 = 7 ∧ ∃ mc20 ms21 : Nat, ((c + mc15) + mc20) ≤ mc ∧ ((s + ms16) + ms21) ≤ ms ∧ pq_Cn_enlist E mc20 ms21 (fun G22 => 
    ((x2 = (1 : Int32) → ((¬ x1 = (2 : Int32) → wo_ty G22 x0 = 1 ∧ ∃ mc24 ms25 : Nat, (((c + mc15) + mc20) + mc24) ≤ mc ∧ (((s + ms16) + ms21) + ms25) ≤ ms ∧ pq_EC_handleAtCache E mc24 ms25 (fun G26 => 
          pq_EC_handle_95 E mc ms Post G26 (((c + mc15) + mc20) + mc24) (((s + ms16) + ms21) + ms25) (some a9)) G22 x0 v18) ∧
        (x1 = (2 : Int32) → (((c + mc15) + mc20) + 1) ≤ mc ∧ (((s + ms16) + ms21) + 7) ≤ ms ∧ ∀ q29 : Nat, wo_ty G22 q29 = 0 → en_bs E ≤ q29 → ∀ G32 : wo_W, G32 = wo_new G22 q29 11 → 
          ∃ mc34 ms35 : Nat, ((((c + mc15) + mc20) + 1) + mc34) ≤ mc ∧ ((((s + ms16) + ms21) + 7) + ms35) ≤ ms ∧ pq_Jb_init E mc34 ms35 (fun G36 => 
          wo_ty G36 x0 = 1 ∧ ∀ r38 : Option Nat, r38 = wo_gr G36 1 x0 → ∃ a40 : Nat, r38 = some a40 ∧ wo_ty G36 a40 = 2 ∧ ∃ mc42 ms43 : Nat, (((((c + mc15) + mc20) + 1) + mc34) + mc42) ≤ mc ∧ (((((s + ms16) + ms21) + 7) + ms35) + ms43) ≤ ms ∧ pq_Og_work E mc42 ms43 (fun G44 => 
            wo_ty G44 x0 = 1 ∧ ∃ mc46 ms47 : Nat, ((((((c + mc15) + mc20) + 1) + mc34) + mc42) + mc46) ≤ mc ∧ ((((((s + ms16) + ms21) + 7) + ms35) + ms43) + ms47) ≤ ms ∧ pq_EC_answerTo E mc46 ms47 (fun v49 G48 => 
              ∃ a50 : Nat, v18 = some a50 ∧ wo_ty G48 a50 = 9 ∧ en_bs E ≤ a50 ∧ ∀ G53 : wo_W, G53 = wo_sr G48 523 a50 v49 → 
                pq_EC_handle_95 E mc ms Post G53 ((((((c + mc15) + mc20) + 1) + mc34) + mc42) + mc46) ((((((s + ms16) + ms21) + 7) + ms35) + ms43) + ms47) (some a9)) G44 x0 (some q29)) G36 a40 (some q29)) G32 q29 v18 (0 : Int32)))) ∧
      (¬ x2 = (1 : Int32) → wo_ty G22 a9 = 7 ∧ en_bs E ≤ a9 ∧ wo_okI .boolean (1 : Int32) ∧ ∀ G58 : wo_W, G58 = wo_si G22 390 a9 (1 : Int32) → 
        wo_ty G58 x0 = 1 ∧ ∀ r61 : Option Nat, r61 = wo_gr G58 3 x0 → ∃ a63 : Nat, r61 = some a63 ∧ wo_ty G58 a63 = 4 ∧ ∃ mc65 ms66 : Nat, (((c + mc15) + mc20) + mc65) ≤ mc ∧ (((s + ms16) + ms21) + ms66) ≤ ms ∧ pq_Sh_bare E mc65 ms66 (fun v68 G67 => 
        ∃ a69 : Nat, v18 = some a69 ∧ wo_ty G67 a69 = 9 ∧ en_bs E ≤ a69 ∧ ∀ G72 : wo_W, G72 = wo_sr G67 523 a69 v68 → 
          pq_EC_handle_95 E mc ms Post G72 (((c + mc15) + mc20) + mc65) (((s + ms16) + ms21) + ms66) (some a9)) G58 a63 x2 (0 : Int32)))) G17 a9 v18) G a13
def pq_EC_handle (E : wo_E) (mc ms : Nat) (Post : wo_W → Prop) (G : wo_W) (x0 : Nat) (x1 : Int32) (x2 : Int32) : Prop := pq_EC_handle_0 E mc ms Post G 0 0 x0 x1 x2
set_option maxRecDepth 100000 in
set_option maxHeartbeats 4000000 in
theorem tq_EC_handle_95 {p : Program} {l : Launch} {e : Env} {R : Room} {s₀ : State} {m : MethodId} {args : Array Value} {below : List Frame} {meth : Method} {cd : Code} {E : wo_E} {mc ms : Nat} {Post : wo_W → Prop} (hC : wo_Cx E "EdgeCache" prog_1_method_19_code 6 11 255 ((Option.none : Option Jvm.ClassFile.FieldType)) "handle" mc ms p R s₀ m args meth cd) : ∀ {G : wo_W} {c s : Nat} {x3 : Option Nat}, pq_EC_handle_95 E mc ms Post G c s x3 → ∀ {H : Heap} {locs : List Loc} {ls : Array Slot}, wo_Se E G H → va_S (en_A E) s₀.heap H locs → lx_has ls 6 [(3, 1, va_rf x3)] → c ≤ mc → s ≤ ms → W p l e R s₀ m args below meth cd H locs c s (MQ below (va_Qv Post (wo_B E) (en_A E)) args s₀ mc ms (en_A E)) (F0 m 95 ls []) := by
  intro G c s x3 hw H locs ls hG hS hl hcc hss
  dsimp only [pq_EC_handle_95] at hw
  have hx := hC.1
  have hb := hC.2.1
  refine lx_aloadR_n hx hb dq_EC_handle_95 rfl (lx_at hl 0 rfl) ?_
  obtain ⟨a1, rfl, hw⟩ := hw
  obtain ⟨t2, hw⟩ := hw
  obtain ⟨mc3, ms4, hc1, hs1, hw⟩ := hw
  refine va_callv (wo_runV hC lq_EC_189 (mq_Cn_deliver hw) hG hS t2 rfl (lx_sz hl) rfl (Nat.zero_le _) (by decide) dq_EC_handle_96 ⟨hc1, hs1⟩) hS (fun _ _ h => h) (fun _ h => h) (fun G5 t H locs ht hvm hw' hB _ _ hS => ?_)
  clear hw
  have hw := hw'
  clear hw'
  replace hG := wo_bk ht hB
  replace hcc := hc1
  replace hss := hs1
  exact wo_vret hC hG hS hcc hss hw dq_EC_handle_99
set_option maxRecDepth 100000 in
set_option maxHeartbeats 4000000 in
theorem tq_EC_handle_0 {p : Program} {l : Launch} {e : Env} {R : Room} {s₀ : State} {m : MethodId} {args : Array Value} {below : List Frame} {meth : Method} {cd : Code} {E : wo_E} {mc ms : Nat} {Post : wo_W → Prop} (hC : wo_Cx E "EdgeCache" prog_1_method_19_code 6 11 255 ((Option.none : Option Jvm.ClassFile.FieldType)) "handle" mc ms p R s₀ m args meth cd) : ∀ {G : wo_W} {c s : Nat} {x0 : Nat} {x1 : Int32} {x2 : Int32}, pq_EC_handle_0 E mc ms Post G c s x0 x1 x2 → ∀ {H : Heap} {locs : List Loc} {ls : Array Slot}, wo_Se E G H → va_S (en_A E) s₀.heap H locs → lx_has ls 6 [(0, 1, .ref x0), (1, 1, .int x1), (2, 1, .int x2)] → c ≤ mc → s ≤ ms → W p l e R s₀ m args below meth cd H locs c s (MQ below (va_Qv Post (wo_B E) (en_A E)) args s₀ mc ms (en_A E)) (F0 m 0 ls []) := by
  intro G c s x0 x1 x2 hw H locs ls hG hS hl hcc hss
  dsimp only [pq_EC_handle_0] at hw
  have hx := hC.1
  have hb := hC.2.1
  refine lv_aload_n hx hb dq_EC_handle_0 rfl (lx_at hl 0 rfl) ?_
  obtain ⟨t1, hw⟩ := hw
  refine wo_getR hC fq_EC_11 rfl hG t1 dq_EC_handle_1 (fun r2 e3 => ?_)
  replace hw := hw r2 e3
  refine lv_iload_n hx hb dq_EC_handle_4 rfl (lx_at hl 1 rfl) ?_
  obtain ⟨a4, rfl, hw⟩ := hw
  obtain ⟨t5, hw⟩ := hw
  obtain ⟨h6, hw⟩ := hw
  refine wo_aald (j := 0) hC rfl hG t5 h6 dq_EC_handle_5 (fun r7 e8 => ?_)
  replace hw := hw r7 e8
  refine lx_astoreR_n (lv' := [(3, 1, va_rf r7), (0, 1, .ref x0), (1, 1, .int x1), (2, 1, .int x2)]) hx hb dq_EC_handle_6 rfl hl (by decide) rfl (fun ls hl' => ?_)
  clear hl
  have hl := hl'
  clear hl'
  refine lx_aloadR_n hx hb dq_EC_handle_7 rfl (lx_at hl 0 rfl) ?_
  obtain ⟨a9, rfl, hw⟩ := hw
  obtain ⟨t10, hw⟩ := hw
  refine wo_getR hC fq_EC_69 rfl hG t10 dq_EC_handle_8 (fun r11 e12 => ?_)
  replace hw := hw r11 e12
  obtain ⟨a13, rfl, hw⟩ := hw
  obtain ⟨t14, hw⟩ := hw
  obtain ⟨mc15, ms16, hc1, hs1, hw⟩ := hw
  refine va_callq (wo_runV hC lq_EC_175 (mq_Rd_finish hw) hG hS t14 rfl (lx_sz hl) rfl (Nat.zero_le _) (by decide) dq_EC_handle_11 ⟨hc1, hs1⟩) hS (fun _ _ h => h) (fun _ h => h) (fun v18 G17 t H locs ht hvm hw' hB _ _ hS => ?_)
  clear hw
  have hw := hw'
  clear hw'
  replace hG := wo_bk ht hB
  replace hcc := hc1
  replace hss := hs1
  refine lx_astoreR (lv' := [(4, 1, va_rf v18), (3, 1, .ref a9), (0, 1, .ref x0), (1, 1, .int x1), (2, 1, .int x2)]) hx hb dq_EC_handle_14 hl (by decide) rfl (fun ls hl' => ?_)
  clear hl
  have hl := hl'
  clear hl'
  refine lv_aload_n hx hb dq_EC_handle_16 rfl (lx_at hl 1 rfl) ?_
  refine lx_aloadR hx hb dq_EC_handle_17 (lx_at hl 0 rfl) ?_
  obtain ⟨t19, hw⟩ := hw
  obtain ⟨mc20, ms21, hc1, hs1, hw⟩ := hw
  refine va_callv (wo_runV hC lq_EC_179 (mq_Cn_enlist hw) hG hS t19 rfl (lx_sz hl) rfl (Nat.zero_le _) (by decide) dq_EC_handle_19 ⟨hc1, hs1⟩) hS (fun _ _ h => h) (fun _ h => h) (fun G22 t H locs ht hvm hw' hB _ _ hS => ?_)
  clear hw
  have hw := hw'
  clear hw'
  replace hG := wo_bk ht hB
  replace hcc := hc1
  replace hss := hs1
  refine lv_iload_n hx hb dq_EC_handle_22 rfl (lx_at hl 4 rfl) ?_
  refine lv_iconst (v := (1 : Int32)) hx hb dq_EC_handle_23 rfl ?_
  refine lv_icmp_eq (tgt := 49) hx hb dq_EC_handle_24 rfl (fun h => ?_) (fun h => ?_)
  · replace hw := hw.1 h
    refine lv_iload_n hx hb dq_EC_handle_49 rfl (lx_at hl 3 rfl) ?_
    refine lv_iconst (v := (2 : Int32)) hx hb dq_EC_handle_50 rfl ?_
    refine lv_icmp_ne (tgt := 89) hx hb dq_EC_handle_51 rfl (fun h => ?_) (fun h => ?_)
    · replace hw := hw.1 h
      refine lv_aload_n hx hb dq_EC_handle_89 rfl (lx_at hl 2 rfl) ?_
      refine lx_aloadR hx hb dq_EC_handle_90 (lx_at hl 0 rfl) ?_
      obtain ⟨t23, hw⟩ := hw
      obtain ⟨mc24, ms25, hc1, hs1, hw⟩ := hw
      refine va_callv (wo_runV hC lq_EC_186 (mq_EC_handleAtCache hw) hG hS t23 rfl (lx_sz hl) rfl (Nat.zero_le _) (by decide) dq_EC_handle_92 ⟨hc1, hs1⟩) hS (fun _ _ h => h) (fun _ h => h) (fun G26 t H locs ht hvm hw' hB _ _ hS => ?_)
      clear hw
      have hw := hw'
      clear hw'
      replace hG := wo_bk ht hB
      replace hcc := hc1
      replace hss := hs1
      exact tq_EC_handle_95 hC hw hG hS (lx_sub hl [1] rfl) hcc hss
    · replace hw := hw.2 h
      obtain ⟨h27, hw⟩ := hw
      obtain ⟨h28, hw⟩ := hw
      refine wo_newc hC nq_EC_29 hG hS h27 h28 dq_EC_handle_54 (fun q29 G32 H z30 b31 e33 hG hS => ?_)
      replace hw := hw q29 z30 b31 G32 e33
      replace hcc := h27
      replace hss := h28
      refine lv_dup hx hb dq_EC_handle_57 rfl ?_
      refine lx_aloadR hx hb dq_EC_handle_58 (lx_at hl 0 rfl) ?_
      refine lv_iconst (v := (0 : Int32)) hx hb dq_EC_handle_60 rfl ?_
      obtain ⟨mc34, ms35, hc1, hs1, hw⟩ := hw
      refine va_callv (wo_runI hC lq_EC_183 (mq_Jb_init hw) hG hS rfl (lx_sz hl) rfl (lx_rm (Nat.le_of_ble_eq_true rfl)) (by decide) dq_EC_handle_61 ⟨hc1, hs1⟩) hS (fun _ _ h => h) (fun _ h => h) (fun G36 t H locs ht hvm hw' hB _ _ hS => ?_)
      clear hw
      have hw := hw'
      clear hw'
      replace hG := wo_bk ht hB
      replace hcc := hc1
      replace hss := hs1
      refine lx_astore (lv' := [(5, 1, .ref q29), (4, 1, va_rf v18), (3, 1, .ref a9), (0, 1, .ref x0), (1, 1, .int x1), (2, 1, .int x2)]) hx hb dq_EC_handle_64 hl (by decide) rfl (fun ls hl' => ?_)
      clear hl
      have hl := hl'
      clear hl'
      refine lv_aload_n hx hb dq_EC_handle_66 rfl (lx_at hl 3 rfl) ?_
      obtain ⟨t37, hw⟩ := hw
      refine wo_getR hC fq_EC_18 rfl hG t37 dq_EC_handle_67 (fun r38 e39 => ?_)
      replace hw := hw r38 e39
      refine lv_aload hx hb dq_EC_handle_70 (lx_at hl 0 rfl) ?_
      obtain ⟨a40, rfl, hw⟩ := hw
      obtain ⟨t41, hw⟩ := hw
      obtain ⟨mc42, ms43, hc1, hs1, hw⟩ := hw
      refine va_callv (wo_runV hC lq_EC_132 (mq_Og_work hw) hG hS t41 rfl (lx_sz hl) rfl (Nat.zero_le _) (by decide) dq_EC_handle_72 ⟨hc1, hs1⟩) hS (fun _ _ h => h) (fun _ h => h) (fun G44 t H locs ht hvm hw' hB _ _ hS => ?_)
      clear hw
      have hw := hw'
      clear hw'
      replace hG := wo_bk ht hB
      replace hcc := hc1
      replace hss := hs1
      refine lx_aloadR hx hb dq_EC_handle_75 (lx_at hl 1 rfl) ?_
      refine lv_aload_n hx hb dq_EC_handle_77 rfl (lx_at hl 3 rfl) ?_
      refine lv_aload hx hb dq_EC_handle_78 (lx_at hl 0 rfl) ?_
      obtain ⟨t45, hw⟩ := hw
      obtain ⟨mc46, ms47, hc1, hs1, hw⟩ := hw
      refine va_callq (wo_runV hC lq_EC_139 (mq_EC_answerTo hw) hG hS t45 rfl (lx_sz hl) rfl (lx_rm (Nat.le_of_ble_eq_true rfl)) (by decide) dq_EC_handle_80 ⟨hc1, hs1⟩) hS (fun _ _ h => h) (fun _ h => h) (fun v49 G48 t H locs ht hvm hw' hB _ _ hS => ?_)
      clear hw
      have hw := hw'
      clear hw'
      replace hG := wo_bk ht hB
      replace hcc := hc1
      replace hss := hs1
      obtain ⟨a50, rfl, hw⟩ := hw
      obtain ⟨t51, hw⟩ := hw
      obtain ⟨h52, hw⟩ := hw
      refine wo_putR (x := v49) hC fq_EC_113 (Or.inl rfl) rfl hG hS t51 h52 dq_EC_handle_83 (fun G53 H locs e54 hG hS => ?_)
      replace hw := hw G53 e54
      refine lv_goto (tgt := 95) hx hb dq_EC_handle_86 rfl ?_
      exact tq_EC_handle_95 hC hw hG hS (lx_sub hl [2] rfl) hcc hss
  · replace hw := hw.2 h
    refine lv_aload_n hx hb dq_EC_handle_27 rfl (lx_at hl 1 rfl) ?_
    refine lv_iconst (v := (1 : Int32)) hx hb dq_EC_handle_28 rfl ?_
    obtain ⟨t55, hw⟩ := hw
    obtain ⟨h56, hw⟩ := hw
    obtain ⟨h57, hw⟩ := hw
    refine wo_putI hC fq_EC_95 (Or.inl rfl) rfl h57 hG hS t55 h56 dq_EC_handle_29 (fun G58 H locs e59 hG hS => ?_)
    replace hw := hw G58 e59
    refine lx_aloadR hx hb dq_EC_handle_32 (lx_at hl 0 rfl) ?_
    refine lv_aload_n hx hb dq_EC_handle_34 rfl (lx_at hl 2 rfl) ?_
    obtain ⟨t60, hw⟩ := hw
    refine wo_getR hC fq_EC_25 rfl hG t60 dq_EC_handle_35 (fun r61 e62 => ?_)
    replace hw := hw r61 e62
    refine lv_iload_n hx hb dq_EC_handle_38 rfl (lx_at hl 4 rfl) ?_
    refine lv_iconst (v := (0 : Int32)) hx hb dq_EC_handle_39 rfl ?_
    obtain ⟨a63, rfl, hw⟩ := hw
    obtain ⟨t64, hw⟩ := hw
    obtain ⟨mc65, ms66, hc1, hs1, hw⟩ := hw
    refine va_callq (wo_runV hC lq_EC_109 (mq_Sh_bare hw) hG hS t64 rfl (lx_sz hl) rfl (lx_rm (Nat.le_of_ble_eq_true rfl)) (by decide) dq_EC_handle_40 ⟨hc1, hs1⟩) hS (fun _ _ h => h) (fun _ h => h) (fun v68 G67 t H locs ht hvm hw' hB _ _ hS => ?_)
    clear hw
    have hw := hw'
    clear hw'
    replace hG := wo_bk ht hB
    replace hcc := hc1
    replace hss := hs1
    obtain ⟨a69, rfl, hw⟩ := hw
    obtain ⟨t70, hw⟩ := hw
    obtain ⟨h71, hw⟩ := hw
    refine wo_putR (x := v68) hC fq_EC_113 (Or.inl rfl) rfl hG hS t70 h71 dq_EC_handle_43 (fun G72 H locs e73 hG hS => ?_)
    replace hw := hw G72 e73
    refine lv_goto (tgt := 95) hx hb dq_EC_handle_46 rfl ?_
    exact tq_EC_handle_95 hC hw hG hS (lx_sub hl [1] rfl) hcc hss
set_option maxHeartbeats 4000000 in
theorem mq_EC_handle {l : Launch} {E : wo_E} {mc ms : Nat} {Post : wo_W → Prop} {G : wo_W} {x0 : Nat} {x1 : Int32} {x2 : Int32} (hw : pq_EC_handle E mc ms Post G x0 x1 x2) : Met l yq_EC_handle (Cond.code yq_EC_handle prog_1_method_19_code 6 ((Option.none : Option Jvm.ClassFile.FieldType)) :: vw_WG) { frames := 11, cells := mc, slots := ms, locals := 255 } (va_Pc [.ref x0, .int x1, .int x2] (wo_Ok E G)) (va_Qv Post (wo_B E) (en_A E)) mc ms (en_A E) := by
  unfold pq_EC_handle at hw
  exact wo_met [(1, .ref x0), (1, .int x1), (1, .int x2)] rfl (by decide) (fun q hq => by simp only [List.mem_cons, List.not_mem_nil, or_false] at hq; rcases hq with rfl | rfl | rfl <;> first | rfl | exact lx_cR _) (Nat.le_of_ble_eq_true rfl) (fun p e R s m args below meth cd ls hC hG hS hl => tq_EC_handle_0 hC hw hG hS (lx_sub hl [0, 1, 2] rfl) (Nat.zero_le _) (Nat.zero_le _))

theorem dq_EC_isConnection_0 : decode prog_1_method_16_code 0 = .ok (.iload_n 0, 1) := by decide +kernel
theorem dq_EC_isConnection_1 : decode prog_1_method_16_code 1 = .ok (.ifCond .lt 12, 3) := by decide +kernel
theorem dq_EC_isConnection_4 : decode prog_1_method_16_code 4 = .ok (.iload_n 0, 1) := by decide +kernel
theorem dq_EC_isConnection_5 : decode prog_1_method_16_code 5 = .ok (.iconst 3, 1) := by decide +kernel
theorem dq_EC_isConnection_6 : decode prog_1_method_16_code 6 = .ok (.if_icmp .ge 7, 3) := by decide +kernel
theorem dq_EC_isConnection_9 : decode prog_1_method_16_code 9 = .ok (.iconst 1, 1) := by decide +kernel
theorem dq_EC_isConnection_10 : decode prog_1_method_16_code 10 = .ok (.goto 4, 3) := by decide +kernel
theorem dq_EC_isConnection_13 : decode prog_1_method_16_code 13 = .ok (.iconst 0, 1) := by decide +kernel
theorem dq_EC_isConnection_14 : decode prog_1_method_16_code 14 = .ok (.ireturn, 1) := by decide +kernel
set_option maxRecDepth 100000 in
def pq_EC_isConnection_14 (E : wo_E) (mc ms : Nat) (Post : Int32 → wo_W → Prop) (G : wo_W) (c s : Nat) (y0 : Int32) : Prop := wo_okI .boolean y0 ∧ Post y0 G
set_option maxRecDepth 100000 in
def pq_EC_isConnection_13 (E : wo_E) (mc ms : Nat) (Post : Int32 → wo_W → Prop) (G : wo_W) (c s : Nat) : Prop := pq_EC_isConnection_14 E mc ms Post G c s (0 : Int32)
set_option maxRecDepth 100000 in
def pq_EC_isConnection_0 (E : wo_E) (mc ms : Nat) (Post : Int32 → wo_W → Prop) (G : wo_W) (c s : Nat) (x0 : Int32) : Prop := ((x0 < (0 : Int32) → pq_EC_isConnection_13 E mc ms Post G c s) ∧
  (¬ x0 < (0 : Int32) → (((3 : Int32) ≤ x0 → pq_EC_isConnection_13 E mc ms Post G c s) ∧
    (¬ (3 : Int32) ≤ x0 → pq_EC_isConnection_14 E mc ms Post G c s (1 : Int32)))))
def pq_EC_isConnection (E : wo_E) (mc ms : Nat) (Post : Int32 → wo_W → Prop) (G : wo_W) (x0 : Int32) : Prop := pq_EC_isConnection_0 E mc ms Post G 0 0 x0
set_option maxRecDepth 100000 in
set_option maxHeartbeats 4000000 in
theorem tq_EC_isConnection_14 {p : Program} {l : Launch} {e : Env} {R : Room} {s₀ : State} {m : MethodId} {args : Array Value} {below : List Frame} {meth : Method} {cd : Code} {E : wo_E} {mc ms : Nat} {Post : Int32 → wo_W → Prop} (hC : wo_Cx E "EdgeCache" prog_1_method_16_code 1 0 0 ((Option.some Jvm.ClassFile.FieldType.boolean)) "isConnection" mc ms p R s₀ m args meth cd) : ∀ {G : wo_W} {c s : Nat} {y0 : Int32}, pq_EC_isConnection_14 E mc ms Post G c s y0 → ∀ {H : Heap} {locs : List Loc} {ls : Array Slot}, wo_Se E G H → va_S (en_A E) s₀.heap H locs → lx_has ls 1 [] → c ≤ mc → s ≤ ms → W p l e R s₀ m args below meth cd H locs c s (MQ below (va_Qi Post (wo_B E) (en_A E)) args s₀ mc ms (en_A E)) (F0 m 14 ls [.int y0]) := by
  intro G c s y0 hw H locs ls hG hS hl hcc hss
  dsimp only [pq_EC_isConnection_14] at hw
  have hx := hC.1
  have hb := hC.2.1
  obtain ⟨h1, hw⟩ := hw
  exact wo_zret hC h1.1 hG hS hcc hss hw dq_EC_isConnection_14
set_option maxRecDepth 100000 in
set_option maxHeartbeats 4000000 in
theorem tq_EC_isConnection_13 {p : Program} {l : Launch} {e : Env} {R : Room} {s₀ : State} {m : MethodId} {args : Array Value} {below : List Frame} {meth : Method} {cd : Code} {E : wo_E} {mc ms : Nat} {Post : Int32 → wo_W → Prop} (hC : wo_Cx E "EdgeCache" prog_1_method_16_code 1 0 0 ((Option.some Jvm.ClassFile.FieldType.boolean)) "isConnection" mc ms p R s₀ m args meth cd) : ∀ {G : wo_W} {c s : Nat}, pq_EC_isConnection_13 E mc ms Post G c s → ∀ {H : Heap} {locs : List Loc} {ls : Array Slot}, wo_Se E G H → va_S (en_A E) s₀.heap H locs → lx_has ls 1 [] → c ≤ mc → s ≤ ms → W p l e R s₀ m args below meth cd H locs c s (MQ below (va_Qi Post (wo_B E) (en_A E)) args s₀ mc ms (en_A E)) (F0 m 13 ls []) := by
  intro G c s hw H locs ls hG hS hl hcc hss
  dsimp only [pq_EC_isConnection_13] at hw
  have hx := hC.1
  have hb := hC.2.1
  refine lv_iconst (v := (0 : Int32)) hx hb dq_EC_isConnection_13 rfl ?_
  exact tq_EC_isConnection_14 hC hw hG hS (lx_sub hl [] rfl) hcc hss
set_option maxRecDepth 100000 in
set_option maxHeartbeats 4000000 in
theorem tq_EC_isConnection_0 {p : Program} {l : Launch} {e : Env} {R : Room} {s₀ : State} {m : MethodId} {args : Array Value} {below : List Frame} {meth : Method} {cd : Code} {E : wo_E} {mc ms : Nat} {Post : Int32 → wo_W → Prop} (hC : wo_Cx E "EdgeCache" prog_1_method_16_code 1 0 0 ((Option.some Jvm.ClassFile.FieldType.boolean)) "isConnection" mc ms p R s₀ m args meth cd) : ∀ {G : wo_W} {c s : Nat} {x0 : Int32}, pq_EC_isConnection_0 E mc ms Post G c s x0 → ∀ {H : Heap} {locs : List Loc} {ls : Array Slot}, wo_Se E G H → va_S (en_A E) s₀.heap H locs → lx_has ls 1 [(0, 1, .int x0)] → c ≤ mc → s ≤ ms → W p l e R s₀ m args below meth cd H locs c s (MQ below (va_Qi Post (wo_B E) (en_A E)) args s₀ mc ms (en_A E)) (F0 m 0 ls []) := by
  intro G c s x0 hw H locs ls hG hS hl hcc hss
  dsimp only [pq_EC_isConnection_0] at hw
  have hx := hC.1
  have hb := hC.2.1
  refine lv_iload_n hx hb dq_EC_isConnection_0 rfl (lx_at hl 0 rfl) ?_
  refine lv_if_lt (tgt := 13) hx hb dq_EC_isConnection_1 rfl (fun h => ?_) (fun h => ?_)
  · replace hw := hw.1 h
    exact tq_EC_isConnection_13 hC hw hG hS (lx_sub hl [] rfl) hcc hss
  · replace hw := hw.2 h
    refine lv_iload_n hx hb dq_EC_isConnection_4 rfl (lx_at hl 0 rfl) ?_
    refine lv_iconst (v := (3 : Int32)) hx hb dq_EC_isConnection_5 rfl ?_
    refine lv_icmp_ge (tgt := 13) hx hb dq_EC_isConnection_6 rfl (fun h => ?_) (fun h => ?_)
    · replace hw := hw.1 h
      exact tq_EC_isConnection_13 hC hw hG hS (lx_sub hl [] rfl) hcc hss
    · replace hw := hw.2 h
      refine lv_iconst (v := (1 : Int32)) hx hb dq_EC_isConnection_9 rfl ?_
      refine lv_goto (tgt := 14) hx hb dq_EC_isConnection_10 rfl ?_
      exact tq_EC_isConnection_14 hC hw hG hS (lx_sub hl [] rfl) hcc hss
set_option maxHeartbeats 4000000 in
theorem mq_EC_isConnection {l : Launch} {E : wo_E} {mc ms : Nat} {Post : Int32 → wo_W → Prop} {G : wo_W} {x0 : Int32} (hw : pq_EC_isConnection E mc ms Post G x0) : Met l yq_EC_isConnection (Cond.code yq_EC_isConnection prog_1_method_16_code 1 ((Option.some Jvm.ClassFile.FieldType.boolean)) :: vw_WG) { frames := 0, cells := mc, slots := ms, locals := 0 } (va_Pc [.int x0] (wo_Ok E G)) (va_Qi Post (wo_B E) (en_A E)) mc ms (en_A E) := by
  unfold pq_EC_isConnection at hw
  exact wo_met [(1, .int x0)] rfl (by decide) (fun q hq => by simp only [List.mem_cons, List.not_mem_nil, or_false] at hq; rcases hq with rfl <;> first | rfl | exact lx_cR _) (Nat.le_of_ble_eq_true rfl) (fun p e R s m args below meth cd ls hC hG hS hl => tq_EC_isConnection_0 hC hw hG hS (lx_sub hl [0] rfl) (Nat.zero_le _) (Nat.zero_le _))

theorem dq_Cn_unanswered_0 : decode prog_2_method_3_code 0 = .ok (.aload_n 0, 1) := by decide +kernel
theorem dq_Cn_unanswered_1 : decode prog_2_method_3_code 1 = .ok (.getfield 30, 3) := by decide +kernel
theorem dq_Cn_unanswered_4 : decode prog_2_method_3_code 4 = .ok (.aload_n 0, 1) := by decide +kernel
theorem dq_Cn_unanswered_5 : decode prog_2_method_3_code 5 = .ok (.getfield 41, 3) := by decide +kernel
theorem dq_Cn_unanswered_8 : decode prog_2_method_3_code 8 = .ok (.isub, 1) := by decide +kernel
theorem dq_Cn_unanswered_9 : decode prog_2_method_3_code 9 = .ok (.ireturn, 1) := by decide +kernel
set_option maxRecDepth 100000 in
def pq_Cn_unanswered_0 (E : wo_E) (mc ms : Nat) (Post : Int32 → wo_W → Prop) (G : wo_W) (c s : Nat) (x0 : Nat) : Prop := wo_ty G x0 = 7 ∧ Post ((wo_gi G 387 x0) - (wo_gi G 388 x0)) G
def pq_Cn_unanswered (E : wo_E) (mc ms : Nat) (Post : Int32 → wo_W → Prop) (G : wo_W) (x0 : Nat) : Prop := pq_Cn_unanswered_0 E mc ms Post G 0 0 x0
set_option maxRecDepth 100000 in
set_option maxHeartbeats 4000000 in
theorem tq_Cn_unanswered_0 {p : Program} {l : Launch} {e : Env} {R : Room} {s₀ : State} {m : MethodId} {args : Array Value} {below : List Frame} {meth : Method} {cd : Code} {E : wo_E} {mc ms : Nat} {Post : Int32 → wo_W → Prop} (hC : wo_Cx E "EdgeCache$Connection" prog_2_method_3_code 1 0 0 ((Option.some Jvm.ClassFile.FieldType.int)) "unanswered" mc ms p R s₀ m args meth cd) : ∀ {G : wo_W} {c s : Nat} {x0 : Nat}, pq_Cn_unanswered_0 E mc ms Post G c s x0 → ∀ {H : Heap} {locs : List Loc} {ls : Array Slot}, wo_Se E G H → va_S (en_A E) s₀.heap H locs → lx_has ls 1 [(0, 1, .ref x0)] → c ≤ mc → s ≤ ms → W p l e R s₀ m args below meth cd H locs c s (MQ below (va_Qi Post (wo_B E) (en_A E)) args s₀ mc ms (en_A E)) (F0 m 0 ls []) := by
  intro G c s x0 hw H locs ls hG hS hl hcc hss
  dsimp only [pq_Cn_unanswered_0] at hw
  have hx := hC.1
  have hb := hC.2.1
  refine lv_aload_n hx hb dq_Cn_unanswered_0 rfl (lx_at hl 0 rfl) ?_
  obtain ⟨t1, hw⟩ := hw
  refine wo_getI hC fq_Cn_30 rfl hG t1 dq_Cn_unanswered_1 ?_
  refine lv_aload_n hx hb dq_Cn_unanswered_4 rfl (lx_at hl 0 rfl) ?_
  refine wo_getI hC fq_Cn_41 rfl hG t1 dq_Cn_unanswered_5 ?_
  refine lv_isub hx hb dq_Cn_unanswered_8 ?_
  exact wo_iret hC hG hS hcc hss hw dq_Cn_unanswered_9
set_option maxHeartbeats 4000000 in
theorem mq_Cn_unanswered {l : Launch} {E : wo_E} {mc ms : Nat} {Post : Int32 → wo_W → Prop} {G : wo_W} {x0 : Nat} (hw : pq_Cn_unanswered E mc ms Post G x0) : Met l yq_Cn_unanswered (Cond.code yq_Cn_unanswered prog_2_method_3_code 1 ((Option.some Jvm.ClassFile.FieldType.int)) :: vw_WG) { frames := 0, cells := mc, slots := ms, locals := 0 } (va_Pc [.ref x0] (wo_Ok E G)) (va_Qi Post (wo_B E) (en_A E)) mc ms (en_A E) := by
  unfold pq_Cn_unanswered at hw
  exact wo_met [(1, .ref x0)] rfl (by decide) (fun q hq => by simp only [List.mem_cons, List.not_mem_nil, or_false] at hq; rcases hq with rfl <;> first | rfl | exact lx_cR _) (Nat.le_of_ble_eq_true rfl) (fun p e R s m args below meth cd ls hC hG hS hl => tq_Cn_unanswered_0 hC hw hG hS (lx_sub hl [0] rfl) (Nat.zero_le _) (Nat.zero_le _))

theorem dq_Cn_mayTake_0 : decode prog_2_method_2_code 0 = .ok (.aload_n 0, 1) := by decide +kernel
theorem dq_Cn_mayTake_1 : decode prog_2_method_2_code 1 = .ok (.getfield 26, 3) := by decide +kernel
theorem dq_Cn_mayTake_4 : decode prog_2_method_2_code 4 = .ok (.ifCond .ne 34, 3) := by decide +kernel
theorem dq_Cn_mayTake_7 : decode prog_2_method_2_code 7 = .ok (.aload_n 0, 1) := by decide +kernel
theorem dq_Cn_mayTake_8 : decode prog_2_method_2_code 8 = .ok (.getfield 30, 3) := by decide +kernel
theorem dq_Cn_mayTake_11 : decode prog_2_method_2_code 11 = .ok (.bipush 20, 2) := by decide +kernel
theorem dq_Cn_mayTake_13 : decode prog_2_method_2_code 13 = .ok (.if_icmp .ge 25, 3) := by decide +kernel
theorem dq_Cn_mayTake_16 : decode prog_2_method_2_code 16 = .ok (.aload_n 0, 1) := by decide +kernel
theorem dq_Cn_mayTake_17 : decode prog_2_method_2_code 17 = .ok (.invokevirtual 34, 3) := by decide +kernel
theorem dq_Cn_mayTake_20 : decode prog_2_method_2_code 20 = .ok (.iconst 4, 1) := by decide +kernel
theorem dq_Cn_mayTake_21 : decode prog_2_method_2_code 21 = .ok (.if_icmp .ge 17, 3) := by decide +kernel
theorem dq_Cn_mayTake_24 : decode prog_2_method_2_code 24 = .ok (.aload_n 0, 1) := by decide +kernel
theorem dq_Cn_mayTake_25 : decode prog_2_method_2_code 25 = .ok (.getfield 38, 3) := by decide +kernel
theorem dq_Cn_mayTake_28 : decode prog_2_method_2_code 28 = .ok (.sipush 200, 3) := by decide +kernel
theorem dq_Cn_mayTake_31 : decode prog_2_method_2_code 31 = .ok (.if_icmp .ge 7, 3) := by decide +kernel
theorem dq_Cn_mayTake_34 : decode prog_2_method_2_code 34 = .ok (.iconst 1, 1) := by decide +kernel
theorem dq_Cn_mayTake_35 : decode prog_2_method_2_code 35 = .ok (.goto 4, 3) := by decide +kernel
theorem dq_Cn_mayTake_38 : decode prog_2_method_2_code 38 = .ok (.iconst 0, 1) := by decide +kernel
theorem dq_Cn_mayTake_39 : decode prog_2_method_2_code 39 = .ok (.ireturn, 1) := by decide +kernel
set_option maxRecDepth 100000 in
def pq_Cn_mayTake_39 (E : wo_E) (mc ms : Nat) (Post : Int32 → wo_W → Prop) (G : wo_W) (c s : Nat) (y0 : Int32) : Prop := wo_okI .boolean y0 ∧ Post y0 G
set_option maxRecDepth 100000 in
def pq_Cn_mayTake_38 (E : wo_E) (mc ms : Nat) (Post : Int32 → wo_W → Prop) (G : wo_W) (c s : Nat) : Prop := pq_Cn_mayTake_39 E mc ms Post G c s (0 : Int32)
set_option maxRecDepth 100000 in
def pq_Cn_mayTake_0 (E : wo_E) (mc ms : Nat) (Post : Int32 → wo_W → Prop) (G : wo_W) (c s : Nat) (x0 : Nat) : Prop := wo_ty G x0 = 7 ∧ ((¬ (wo_gi G 390 x0) = (0 : Int32) → pq_Cn_mayTake_38 E mc ms Post G c s) ∧
  ((wo_gi G 390 x0) = (0 : Int32) → (((20 : Int32) ≤ (wo_gi G 387 x0) → pq_Cn_mayTake_38 E mc ms Post G c s) ∧
    (¬ (20 : Int32) ≤ (wo_gi G 387 x0) → ∃ mc2 ms3 : Nat, (c + mc2) ≤ mc ∧ (s + ms3) ≤ ms ∧ pq_Cn_unanswered E mc2 ms3 (fun v5 G4 => 
      (((4 : Int32) ≤ v5 → pq_Cn_mayTake_38 E mc ms Post G4 (c + mc2) (s + ms3)) ∧
        (¬ (4 : Int32) ≤ v5 → wo_ty G4 x0 = 7 ∧ (((200 : Int32) ≤ (wo_gi G4 389 x0) → pq_Cn_mayTake_38 E mc ms Post G4 (c + mc2) (s + ms3)) ∧
          (¬ (200 : Int32) ≤ (wo_gi G4 389 x0) → pq_Cn_mayTake_39 E mc ms Post G4 (c + mc2) (s + ms3) (1 : Int32)))))) G x0))))
def pq_Cn_mayTake (E : wo_E) (mc ms : Nat) (Post : Int32 → wo_W → Prop) (G : wo_W) (x0 : Nat) : Prop := pq_Cn_mayTake_0 E mc ms Post G 0 0 x0
set_option maxRecDepth 100000 in
set_option maxHeartbeats 4000000 in
theorem tq_Cn_mayTake_39 {p : Program} {l : Launch} {e : Env} {R : Room} {s₀ : State} {m : MethodId} {args : Array Value} {below : List Frame} {meth : Method} {cd : Code} {E : wo_E} {mc ms : Nat} {Post : Int32 → wo_W → Prop} (hC : wo_Cx E "EdgeCache$Connection" prog_2_method_2_code 1 1 20 ((Option.some Jvm.ClassFile.FieldType.boolean)) "mayTake" mc ms p R s₀ m args meth cd) : ∀ {G : wo_W} {c s : Nat} {y0 : Int32}, pq_Cn_mayTake_39 E mc ms Post G c s y0 → ∀ {H : Heap} {locs : List Loc} {ls : Array Slot}, wo_Se E G H → va_S (en_A E) s₀.heap H locs → lx_has ls 1 [] → c ≤ mc → s ≤ ms → W p l e R s₀ m args below meth cd H locs c s (MQ below (va_Qi Post (wo_B E) (en_A E)) args s₀ mc ms (en_A E)) (F0 m 39 ls [.int y0]) := by
  intro G c s y0 hw H locs ls hG hS hl hcc hss
  dsimp only [pq_Cn_mayTake_39] at hw
  have hx := hC.1
  have hb := hC.2.1
  obtain ⟨h1, hw⟩ := hw
  exact wo_zret hC h1.1 hG hS hcc hss hw dq_Cn_mayTake_39
set_option maxRecDepth 100000 in
set_option maxHeartbeats 4000000 in
theorem tq_Cn_mayTake_38 {p : Program} {l : Launch} {e : Env} {R : Room} {s₀ : State} {m : MethodId} {args : Array Value} {below : List Frame} {meth : Method} {cd : Code} {E : wo_E} {mc ms : Nat} {Post : Int32 → wo_W → Prop} (hC : wo_Cx E "EdgeCache$Connection" prog_2_method_2_code 1 1 20 ((Option.some Jvm.ClassFile.FieldType.boolean)) "mayTake" mc ms p R s₀ m args meth cd) : ∀ {G : wo_W} {c s : Nat}, pq_Cn_mayTake_38 E mc ms Post G c s → ∀ {H : Heap} {locs : List Loc} {ls : Array Slot}, wo_Se E G H → va_S (en_A E) s₀.heap H locs → lx_has ls 1 [] → c ≤ mc → s ≤ ms → W p l e R s₀ m args below meth cd H locs c s (MQ below (va_Qi Post (wo_B E) (en_A E)) args s₀ mc ms (en_A E)) (F0 m 38 ls []) := by
  intro G c s hw H locs ls hG hS hl hcc hss
  dsimp only [pq_Cn_mayTake_38] at hw
  have hx := hC.1
  have hb := hC.2.1
  refine lv_iconst (v := (0 : Int32)) hx hb dq_Cn_mayTake_38 rfl ?_
  exact tq_Cn_mayTake_39 hC hw hG hS (lx_sub hl [] rfl) hcc hss
set_option maxRecDepth 100000 in
set_option maxHeartbeats 4000000 in
theorem tq_Cn_mayTake_0 {p : Program} {l : Launch} {e : Env} {R : Room} {s₀ : State} {m : MethodId} {args : Array Value} {below : List Frame} {meth : Method} {cd : Code} {E : wo_E} {mc ms : Nat} {Post : Int32 → wo_W → Prop} (hC : wo_Cx E "EdgeCache$Connection" prog_2_method_2_code 1 1 20 ((Option.some Jvm.ClassFile.FieldType.boolean)) "mayTake" mc ms p R s₀ m args meth cd) : ∀ {G : wo_W} {c s : Nat} {x0 : Nat}, pq_Cn_mayTake_0 E mc ms Post G c s x0 → ∀ {H : Heap} {locs : List Loc} {ls : Array Slot}, wo_Se E G H → va_S (en_A E) s₀.heap H locs → lx_has ls 1 [(0, 1, .ref x0)] → c ≤ mc → s ≤ ms → W p l e R s₀ m args below meth cd H locs c s (MQ below (va_Qi Post (wo_B E) (en_A E)) args s₀ mc ms (en_A E)) (F0 m 0 ls []) := by
  intro G c s x0 hw H locs ls hG hS hl hcc hss
  dsimp only [pq_Cn_mayTake_0] at hw
  have hx := hC.1
  have hb := hC.2.1
  refine lv_aload_n hx hb dq_Cn_mayTake_0 rfl (lx_at hl 0 rfl) ?_
  obtain ⟨t1, hw⟩ := hw
  refine wo_getI hC fq_Cn_26 rfl hG t1 dq_Cn_mayTake_1 ?_
  refine lv_if_ne (tgt := 38) hx hb dq_Cn_mayTake_4 rfl (fun h => ?_) (fun h => ?_)
  · replace hw := hw.1 h
    exact tq_Cn_mayTake_38 hC hw hG hS (lx_sub hl [] rfl) hcc hss
  · replace hw := hw.2 h
    refine lv_aload_n hx hb dq_Cn_mayTake_7 rfl (lx_at hl 0 rfl) ?_
    refine wo_getI hC fq_Cn_30 rfl hG t1 dq_Cn_mayTake_8 ?_
    refine lv_bipush (v := (20 : Int32)) hx hb dq_Cn_mayTake_11 rfl ?_
    refine lv_icmp_ge (tgt := 38) hx hb dq_Cn_mayTake_13 rfl (fun h => ?_) (fun h => ?_)
    · replace hw := hw.1 h
      exact tq_Cn_mayTake_38 hC hw hG hS (lx_sub hl [] rfl) hcc hss
    · replace hw := hw.2 h
      refine lv_aload_n hx hb dq_Cn_mayTake_16 rfl (lx_at hl 0 rfl) ?_
      obtain ⟨mc2, ms3, hc1, hs1, hw⟩ := hw
      refine va_calli (wo_runV hC lq_Cn_34 (mq_Cn_unanswered hw) hG hS t1 rfl (lx_sz hl) rfl (Nat.zero_le _) (by decide) dq_Cn_mayTake_17 ⟨hc1, hs1⟩) hS (fun _ _ h => h) (fun _ h => h) (fun v5 G4 t H locs ht hvm hw' hB _ _ hS => ?_)
      clear hw
      have hw := hw'
      clear hw'
      replace hG := wo_bk ht hB
      replace hcc := hc1
      replace hss := hs1
      refine lv_iconst (v := (4 : Int32)) hx hb dq_Cn_mayTake_20 rfl ?_
      refine lv_icmp_ge (tgt := 38) hx hb dq_Cn_mayTake_21 rfl (fun h => ?_) (fun h => ?_)
      · replace hw := hw.1 h
        exact tq_Cn_mayTake_38 hC hw hG hS (lx_sub hl [] rfl) hcc hss
      · replace hw := hw.2 h
        refine lv_aload_n hx hb dq_Cn_mayTake_24 rfl (lx_at hl 0 rfl) ?_
        obtain ⟨t6, hw⟩ := hw
        refine wo_getI hC fq_Cn_38 rfl hG t6 dq_Cn_mayTake_25 ?_
        refine lv_sipush (v := (200 : Int32)) hx hb dq_Cn_mayTake_28 rfl ?_
        refine lv_icmp_ge (tgt := 38) hx hb dq_Cn_mayTake_31 rfl (fun h => ?_) (fun h => ?_)
        · replace hw := hw.1 h
          exact tq_Cn_mayTake_38 hC hw hG hS (lx_sub hl [] rfl) hcc hss
        · replace hw := hw.2 h
          refine lv_iconst (v := (1 : Int32)) hx hb dq_Cn_mayTake_34 rfl ?_
          refine lv_goto (tgt := 39) hx hb dq_Cn_mayTake_35 rfl ?_
          exact tq_Cn_mayTake_39 hC hw hG hS (lx_sub hl [] rfl) hcc hss
set_option maxHeartbeats 4000000 in
theorem mq_Cn_mayTake {l : Launch} {E : wo_E} {mc ms : Nat} {Post : Int32 → wo_W → Prop} {G : wo_W} {x0 : Nat} (hw : pq_Cn_mayTake E mc ms Post G x0) : Met l yq_Cn_mayTake (Cond.code yq_Cn_mayTake prog_2_method_2_code 1 ((Option.some Jvm.ClassFile.FieldType.boolean)) :: vw_WG) { frames := 1, cells := mc, slots := ms, locals := 20 } (va_Pc [.ref x0] (wo_Ok E G)) (va_Qi Post (wo_B E) (en_A E)) mc ms (en_A E) := by
  unfold pq_Cn_mayTake at hw
  exact wo_met [(1, .ref x0)] rfl (by decide) (fun q hq => by simp only [List.mem_cons, List.not_mem_nil, or_false] at hq; rcases hq with rfl <;> first | rfl | exact lx_cR _) (Nat.le_of_ble_eq_true rfl) (fun p e R s m args below meth cd ls hC hG hS hl => tq_Cn_mayTake_0 hC hw hG hS (lx_sub hl [0] rfl) (Nat.zero_le _) (Nat.zero_le _))

theorem dq_Rd_endHeaders_0 : decode prog_5_method_10_code 0 = .ok (.aload_n 0, 1) := by decide +kernel
theorem dq_Rd_endHeaders_1 : decode prog_5_method_10_code 1 = .ok (.getfield 67, 3) := by decide +kernel
theorem dq_Rd_endHeaders_4 : decode prog_5_method_10_code 4 = .ok (.ifCond .eq 24, 3) := by decide +kernel
theorem dq_Rd_endHeaders_7 : decode prog_5_method_10_code 7 = .ok (.aload_n 0, 1) := by decide +kernel
theorem dq_Rd_endHeaders_8 : decode prog_5_method_10_code 8 = .ok (.iconst 3, 1) := by decide +kernel
theorem dq_Rd_endHeaders_9 : decode prog_5_method_10_code 9 = .ok (.putfield 31, 3) := by decide +kernel
theorem dq_Rd_endHeaders_12 : decode prog_5_method_10_code 12 = .ok (.aload_n 0, 1) := by decide +kernel
theorem dq_Rd_endHeaders_13 : decode prog_5_method_10_code 13 = .ok (.getfield 35, 3) := by decide +kernel
theorem dq_Rd_endHeaders_16 : decode prog_5_method_10_code 16 = .ok (.iconst (-1), 1) := by decide +kernel
theorem dq_Rd_endHeaders_17 : decode prog_5_method_10_code 17 = .ok (.if_icmp .ne 7, 3) := by decide +kernel
theorem dq_Rd_endHeaders_20 : decode prog_5_method_10_code 20 = .ok (.iconst 0, 1) := by decide +kernel
theorem dq_Rd_endHeaders_21 : decode prog_5_method_10_code 21 = .ok (.goto 6, 3) := by decide +kernel
theorem dq_Rd_endHeaders_24 : decode prog_5_method_10_code 24 = .ok (.sipush 400, 3) := by decide +kernel
theorem dq_Rd_endHeaders_27 : decode prog_5_method_10_code 27 = .ok (.ireturn, 1) := by decide +kernel
theorem dq_Rd_endHeaders_28 : decode prog_5_method_10_code 28 = .ok (.aload_n 0, 1) := by decide +kernel
theorem dq_Rd_endHeaders_29 : decode prog_5_method_10_code 29 = .ok (.getfield 35, 3) := by decide +kernel
theorem dq_Rd_endHeaders_32 : decode prog_5_method_10_code 32 = .ok (.bipush 8, 2) := by decide +kernel
theorem dq_Rd_endHeaders_34 : decode prog_5_method_10_code 34 = .ok (.if_icmp .le 7, 3) := by decide +kernel
theorem dq_Rd_endHeaders_37 : decode prog_5_method_10_code 37 = .ok (.sipush 413, 3) := by decide +kernel
theorem dq_Rd_endHeaders_40 : decode prog_5_method_10_code 40 = .ok (.ireturn, 1) := by decide +kernel
theorem dq_Rd_endHeaders_41 : decode prog_5_method_10_code 41 = .ok (.aload_n 0, 1) := by decide +kernel
theorem dq_Rd_endHeaders_42 : decode prog_5_method_10_code 42 = .ok (.getfield 35, 3) := by decide +kernel
theorem dq_Rd_endHeaders_45 : decode prog_5_method_10_code 45 = .ok (.ifCond .gt 5, 3) := by decide +kernel
theorem dq_Rd_endHeaders_48 : decode prog_5_method_10_code 48 = .ok (.iconst 1, 1) := by decide +kernel
theorem dq_Rd_endHeaders_49 : decode prog_5_method_10_code 49 = .ok (.ireturn, 1) := by decide +kernel
theorem dq_Rd_endHeaders_50 : decode prog_5_method_10_code 50 = .ok (.aload_n 0, 1) := by decide +kernel
theorem dq_Rd_endHeaders_51 : decode prog_5_method_10_code 51 = .ok (.aload_n 0, 1) := by decide +kernel
theorem dq_Rd_endHeaders_52 : decode prog_5_method_10_code 52 = .ok (.getfield 35, 3) := by decide +kernel
theorem dq_Rd_endHeaders_55 : decode prog_5_method_10_code 55 = .ok (.putfield 71, 3) := by decide +kernel
theorem dq_Rd_endHeaders_58 : decode prog_5_method_10_code 58 = .ok (.aload_n 0, 1) := by decide +kernel
theorem dq_Rd_endHeaders_59 : decode prog_5_method_10_code 59 = .ok (.iconst 2, 1) := by decide +kernel
theorem dq_Rd_endHeaders_60 : decode prog_5_method_10_code 60 = .ok (.putfield 31, 3) := by decide +kernel
theorem dq_Rd_endHeaders_63 : decode prog_5_method_10_code 63 = .ok (.iconst 0, 1) := by decide +kernel
theorem dq_Rd_endHeaders_64 : decode prog_5_method_10_code 64 = .ok (.ireturn, 1) := by decide +kernel
set_option maxRecDepth 100000 in
def pq_Rd_endHeaders_27 (E : wo_E) (mc ms : Nat) (Post : Int32 → wo_W → Prop) (G : wo_W) (c s : Nat) (y0 : Int32) : Prop := Post y0 G
set_option maxRecDepth 100000 in
def pq_Rd_endHeaders_0 (E : wo_E) (mc ms : Nat) (Post : Int32 → wo_W → Prop) (G : wo_W) (c s : Nat) (x0 : Nat) : Prop := wo_ty G x0 = 8 ∧ (((wo_gi G 455 x0) = (0 : Int32) → (((wo_gi G 454 x0) ≤ (8 : Int32) → (((0 : Int32) < (wo_gi G 454 x0) → en_bs E ≤ x0 ∧ ∀ G3 : wo_W, G3 = wo_si G 456 x0 (wo_gi G 454 x0) → 
        en_bs E ≤ x0 ∧ ∀ G6 : wo_W, G6 = wo_si G3 452 x0 (2 : Int32) → 
        Post (0 : Int32) G6) ∧
      (¬ (0 : Int32) < (wo_gi G 454 x0) → Post (1 : Int32) G))) ∧
    (¬ (wo_gi G 454 x0) ≤ (8 : Int32) → Post (413 : Int32) G))) ∧
  (¬ (wo_gi G 455 x0) = (0 : Int32) → en_bs E ≤ x0 ∧ ∀ G9 : wo_W, G9 = wo_si G 452 x0 (3 : Int32) → 
    ((¬ (wo_gi G9 454 x0) = (-1 : Int32) → pq_Rd_endHeaders_27 E mc ms Post G9 c s (400 : Int32)) ∧
    ((wo_gi G9 454 x0) = (-1 : Int32) → pq_Rd_endHeaders_27 E mc ms Post G9 c s (0 : Int32)))))
def pq_Rd_endHeaders (E : wo_E) (mc ms : Nat) (Post : Int32 → wo_W → Prop) (G : wo_W) (x0 : Nat) : Prop := pq_Rd_endHeaders_0 E mc ms Post G 0 0 x0
set_option maxRecDepth 100000 in
set_option maxHeartbeats 4000000 in
theorem tq_Rd_endHeaders_27 {p : Program} {l : Launch} {e : Env} {R : Room} {s₀ : State} {m : MethodId} {args : Array Value} {below : List Frame} {meth : Method} {cd : Code} {E : wo_E} {mc ms : Nat} {Post : Int32 → wo_W → Prop} (hC : wo_Cx E "EdgeCache$Reader" prog_5_method_10_code 1 0 0 ((Option.some Jvm.ClassFile.FieldType.int)) "endHeaders" mc ms p R s₀ m args meth cd) : ∀ {G : wo_W} {c s : Nat} {y0 : Int32}, pq_Rd_endHeaders_27 E mc ms Post G c s y0 → ∀ {H : Heap} {locs : List Loc} {ls : Array Slot}, wo_Se E G H → va_S (en_A E) s₀.heap H locs → lx_has ls 1 [] → c ≤ mc → s ≤ ms → W p l e R s₀ m args below meth cd H locs c s (MQ below (va_Qi Post (wo_B E) (en_A E)) args s₀ mc ms (en_A E)) (F0 m 27 ls [.int y0]) := by
  intro G c s y0 hw H locs ls hG hS hl hcc hss
  dsimp only [pq_Rd_endHeaders_27] at hw
  have hx := hC.1
  have hb := hC.2.1
  exact wo_iret hC hG hS hcc hss hw dq_Rd_endHeaders_27
set_option maxRecDepth 100000 in
set_option maxHeartbeats 4000000 in
theorem tq_Rd_endHeaders_0 {p : Program} {l : Launch} {e : Env} {R : Room} {s₀ : State} {m : MethodId} {args : Array Value} {below : List Frame} {meth : Method} {cd : Code} {E : wo_E} {mc ms : Nat} {Post : Int32 → wo_W → Prop} (hC : wo_Cx E "EdgeCache$Reader" prog_5_method_10_code 1 0 0 ((Option.some Jvm.ClassFile.FieldType.int)) "endHeaders" mc ms p R s₀ m args meth cd) : ∀ {G : wo_W} {c s : Nat} {x0 : Nat}, pq_Rd_endHeaders_0 E mc ms Post G c s x0 → ∀ {H : Heap} {locs : List Loc} {ls : Array Slot}, wo_Se E G H → va_S (en_A E) s₀.heap H locs → lx_has ls 1 [(0, 1, .ref x0)] → c ≤ mc → s ≤ ms → W p l e R s₀ m args below meth cd H locs c s (MQ below (va_Qi Post (wo_B E) (en_A E)) args s₀ mc ms (en_A E)) (F0 m 0 ls []) := by
  intro G c s x0 hw H locs ls hG hS hl hcc hss
  dsimp only [pq_Rd_endHeaders_0] at hw
  have hx := hC.1
  have hb := hC.2.1
  refine lv_aload_n hx hb dq_Rd_endHeaders_0 rfl (lx_at hl 0 rfl) ?_
  obtain ⟨t1, hw⟩ := hw
  refine wo_getI hC fq_Rd_67 rfl hG t1 dq_Rd_endHeaders_1 ?_
  refine lv_if_eq (tgt := 28) hx hb dq_Rd_endHeaders_4 rfl (fun h => ?_) (fun h => ?_)
  · replace hw := hw.1 h
    refine lv_aload_n hx hb dq_Rd_endHeaders_28 rfl (lx_at hl 0 rfl) ?_
    refine wo_getI hC fq_Rd_35 rfl hG t1 dq_Rd_endHeaders_29 ?_
    refine lv_bipush (v := (8 : Int32)) hx hb dq_Rd_endHeaders_32 rfl ?_
    refine lv_icmp_le (tgt := 41) hx hb dq_Rd_endHeaders_34 rfl (fun h => ?_) (fun h => ?_)
    · replace hw := hw.1 h
      refine lv_aload_n hx hb dq_Rd_endHeaders_41 rfl (lx_at hl 0 rfl) ?_
      refine wo_getI hC fq_Rd_35 rfl hG t1 dq_Rd_endHeaders_42 ?_
      refine lv_if_gt (tgt := 50) hx hb dq_Rd_endHeaders_45 rfl (fun h => ?_) (fun h => ?_)
      · replace hw := hw.1 h
        refine lv_aload_n hx hb dq_Rd_endHeaders_50 rfl (lx_at hl 0 rfl) ?_
        refine lv_aload_n hx hb dq_Rd_endHeaders_51 rfl (lx_at hl 0 rfl) ?_
        refine wo_getI hC fq_Rd_35 rfl hG t1 dq_Rd_endHeaders_52 ?_
        obtain ⟨h2, hw⟩ := hw
        refine wo_putI hC fq_Rd_71 (Or.inl rfl) rfl (wo_ok_int _) hG hS t1 h2 dq_Rd_endHeaders_55 (fun G3 H locs e4 hG hS => ?_)
        replace hw := hw G3 e4
        refine lv_aload_n hx hb dq_Rd_endHeaders_58 rfl (lx_at hl 0 rfl) ?_
        refine lv_iconst (v := (2 : Int32)) hx hb dq_Rd_endHeaders_59 rfl ?_
        obtain ⟨h5, hw⟩ := hw
        refine wo_putI hC fq_Rd_31 (Or.inl rfl) rfl (wo_ok_int _) hG hS (ty_si e4 t1) h5 dq_Rd_endHeaders_60 (fun G6 H locs e7 hG hS => ?_)
        replace hw := hw G6 e7
        refine lv_iconst (v := (0 : Int32)) hx hb dq_Rd_endHeaders_63 rfl ?_
        exact wo_iret hC hG hS hcc hss hw dq_Rd_endHeaders_64
      · replace hw := hw.2 h
        refine lv_iconst (v := (1 : Int32)) hx hb dq_Rd_endHeaders_48 rfl ?_
        exact wo_iret hC hG hS hcc hss hw dq_Rd_endHeaders_49
    · replace hw := hw.2 h
      refine lv_sipush (v := (413 : Int32)) hx hb dq_Rd_endHeaders_37 rfl ?_
      exact wo_iret hC hG hS hcc hss hw dq_Rd_endHeaders_40
  · replace hw := hw.2 h
    refine lv_aload_n hx hb dq_Rd_endHeaders_7 rfl (lx_at hl 0 rfl) ?_
    refine lv_iconst (v := (3 : Int32)) hx hb dq_Rd_endHeaders_8 rfl ?_
    obtain ⟨h8, hw⟩ := hw
    refine wo_putI hC fq_Rd_31 (Or.inl rfl) rfl (wo_ok_int _) hG hS t1 h8 dq_Rd_endHeaders_9 (fun G9 H locs e10 hG hS => ?_)
    replace hw := hw G9 e10
    refine lv_aload_n hx hb dq_Rd_endHeaders_12 rfl (lx_at hl 0 rfl) ?_
    refine wo_getI hC fq_Rd_35 rfl hG (ty_si e10 t1) dq_Rd_endHeaders_13 ?_
    refine lv_iconst (v := (-1 : Int32)) hx hb dq_Rd_endHeaders_16 rfl ?_
    refine lv_icmp_ne (tgt := 24) hx hb dq_Rd_endHeaders_17 rfl (fun h => ?_) (fun h => ?_)
    · replace hw := hw.1 h
      refine lv_sipush (v := (400 : Int32)) hx hb dq_Rd_endHeaders_24 rfl ?_
      exact tq_Rd_endHeaders_27 hC hw hG hS (lx_sub hl [] rfl) hcc hss
    · replace hw := hw.2 h
      refine lv_iconst (v := (0 : Int32)) hx hb dq_Rd_endHeaders_20 rfl ?_
      refine lv_goto (tgt := 27) hx hb dq_Rd_endHeaders_21 rfl ?_
      exact tq_Rd_endHeaders_27 hC hw hG hS (lx_sub hl [] rfl) hcc hss
set_option maxHeartbeats 4000000 in
theorem mq_Rd_endHeaders {l : Launch} {E : wo_E} {mc ms : Nat} {Post : Int32 → wo_W → Prop} {G : wo_W} {x0 : Nat} (hw : pq_Rd_endHeaders E mc ms Post G x0) : Met l yq_Rd_endHeaders (Cond.code yq_Rd_endHeaders prog_5_method_10_code 1 ((Option.some Jvm.ClassFile.FieldType.int)) :: vw_WG) { frames := 0, cells := mc, slots := ms, locals := 0 } (va_Pc [.ref x0] (wo_Ok E G)) (va_Qi Post (wo_B E) (en_A E)) mc ms (en_A E) := by
  unfold pq_Rd_endHeaders at hw
  exact wo_met [(1, .ref x0)] rfl (by decide) (fun q hq => by simp only [List.mem_cons, List.not_mem_nil, or_false] at hq; rcases hq with rfl <;> first | rfl | exact lx_cR _) (Nat.le_of_ble_eq_true rfl) (fun p e R s m args below meth cd ls hC hG hS hl => tq_Rd_endHeaders_0 hC hw hG hS (lx_sub hl [0] rfl) (Nat.zero_le _) (Nat.zero_le _))

theorem dq_Tx_hexadecimal_0 : decode prog_12_method_6_code 0 = .ok (.iload_n 0, 1) := by decide +kernel
theorem dq_Tx_hexadecimal_1 : decode prog_12_method_6_code 1 = .ok (.invokestatic 25, 3) := by decide +kernel
theorem dq_Tx_hexadecimal_4 : decode prog_12_method_6_code 4 = .ok (.ifCond .eq 8, 3) := by decide +kernel
theorem dq_Tx_hexadecimal_7 : decode prog_12_method_6_code 7 = .ok (.iload_n 0, 1) := by decide +kernel
theorem dq_Tx_hexadecimal_8 : decode prog_12_method_6_code 8 = .ok (.bipush 48, 2) := by decide +kernel
theorem dq_Tx_hexadecimal_10 : decode prog_12_method_6_code 10 = .ok (.isub, 1) := by decide +kernel
theorem dq_Tx_hexadecimal_11 : decode prog_12_method_6_code 11 = .ok (.ireturn, 1) := by decide +kernel
theorem dq_Tx_hexadecimal_12 : decode prog_12_method_6_code 12 = .ok (.iload_n 0, 1) := by decide +kernel
theorem dq_Tx_hexadecimal_13 : decode prog_12_method_6_code 13 = .ok (.bipush 65, 2) := by decide +kernel
theorem dq_Tx_hexadecimal_15 : decode prog_12_method_6_code 15 = .ok (.if_icmp .lt 17, 3) := by decide +kernel
theorem dq_Tx_hexadecimal_18 : decode prog_12_method_6_code 18 = .ok (.iload_n 0, 1) := by decide +kernel
theorem dq_Tx_hexadecimal_19 : decode prog_12_method_6_code 19 = .ok (.bipush 70, 2) := by decide +kernel
theorem dq_Tx_hexadecimal_21 : decode prog_12_method_6_code 21 = .ok (.if_icmp .gt 11, 3) := by decide +kernel
theorem dq_Tx_hexadecimal_24 : decode prog_12_method_6_code 24 = .ok (.iload_n 0, 1) := by decide +kernel
theorem dq_Tx_hexadecimal_25 : decode prog_12_method_6_code 25 = .ok (.bipush 65, 2) := by decide +kernel
theorem dq_Tx_hexadecimal_27 : decode prog_12_method_6_code 27 = .ok (.isub, 1) := by decide +kernel
theorem dq_Tx_hexadecimal_28 : decode prog_12_method_6_code 28 = .ok (.bipush 10, 2) := by decide +kernel
theorem dq_Tx_hexadecimal_30 : decode prog_12_method_6_code 30 = .ok (.iadd, 1) := by decide +kernel
theorem dq_Tx_hexadecimal_31 : decode prog_12_method_6_code 31 = .ok (.ireturn, 1) := by decide +kernel
theorem dq_Tx_hexadecimal_32 : decode prog_12_method_6_code 32 = .ok (.iload_n 0, 1) := by decide +kernel
theorem dq_Tx_hexadecimal_33 : decode prog_12_method_6_code 33 = .ok (.bipush 97, 2) := by decide +kernel
theorem dq_Tx_hexadecimal_35 : decode prog_12_method_6_code 35 = .ok (.if_icmp .lt 19, 3) := by decide +kernel
theorem dq_Tx_hexadecimal_38 : decode prog_12_method_6_code 38 = .ok (.iload_n 0, 1) := by decide +kernel
theorem dq_Tx_hexadecimal_39 : decode prog_12_method_6_code 39 = .ok (.bipush 102, 2) := by decide +kernel
theorem dq_Tx_hexadecimal_41 : decode prog_12_method_6_code 41 = .ok (.if_icmp .gt 13, 3) := by decide +kernel
theorem dq_Tx_hexadecimal_44 : decode prog_12_method_6_code 44 = .ok (.iload_n 0, 1) := by decide +kernel
theorem dq_Tx_hexadecimal_45 : decode prog_12_method_6_code 45 = .ok (.bipush 97, 2) := by decide +kernel
theorem dq_Tx_hexadecimal_47 : decode prog_12_method_6_code 47 = .ok (.isub, 1) := by decide +kernel
theorem dq_Tx_hexadecimal_48 : decode prog_12_method_6_code 48 = .ok (.bipush 10, 2) := by decide +kernel
theorem dq_Tx_hexadecimal_50 : decode prog_12_method_6_code 50 = .ok (.iadd, 1) := by decide +kernel
theorem dq_Tx_hexadecimal_51 : decode prog_12_method_6_code 51 = .ok (.goto 4, 3) := by decide +kernel
theorem dq_Tx_hexadecimal_54 : decode prog_12_method_6_code 54 = .ok (.iconst (-1), 1) := by decide +kernel
theorem dq_Tx_hexadecimal_55 : decode prog_12_method_6_code 55 = .ok (.ireturn, 1) := by decide +kernel
set_option maxRecDepth 100000 in
def pq_Tx_hexadecimal_55 (E : wo_E) (mc ms : Nat) (Post : Int32 → wo_W → Prop) (G : wo_W) (c s : Nat) (y0 : Int32) : Prop := Post y0 G
set_option maxRecDepth 100000 in
def pq_Tx_hexadecimal_54 (E : wo_E) (mc ms : Nat) (Post : Int32 → wo_W → Prop) (G : wo_W) (c s : Nat) : Prop := pq_Tx_hexadecimal_55 E mc ms Post G c s (-1 : Int32)
set_option maxRecDepth 100000 in
def pq_Tx_hexadecimal_32 (E : wo_E) (mc ms : Nat) (Post : Int32 → wo_W → Prop) (G : wo_W) (c s : Nat) (x0 : Int32) : Prop := ((x0 < (97 : Int32) → pq_Tx_hexadecimal_54 E mc ms Post G c s) ∧
  (¬ x0 < (97 : Int32) → (((102 : Int32) < x0 → pq_Tx_hexadecimal_54 E mc ms Post G c s) ∧
    (¬ (102 : Int32) < x0 → pq_Tx_hexadecimal_55 E mc ms Post G c s ((x0 - (97 : Int32)) + (10 : Int32))))))
set_option maxRecDepth 100000 in
def pq_Tx_hexadecimal_0 (E : wo_E) (mc ms : Nat) (Post : Int32 → wo_W → Prop) (G : wo_W) (c s : Nat) (x0 : Int32) : Prop := ∃ mc1 ms2 : Nat, (c + mc1) ≤ mc ∧ (s + ms2) ≤ ms ∧ pq_Tx_isDigit E mc1 ms2 (fun v4 G3 => 
  ((v4 = (0 : Int32) → ((x0 < (65 : Int32) → pq_Tx_hexadecimal_32 E mc ms Post G3 (c + mc1) (s + ms2) x0) ∧
      (¬ x0 < (65 : Int32) → (((70 : Int32) < x0 → pq_Tx_hexadecimal_32 E mc ms Post G3 (c + mc1) (s + ms2) x0) ∧
        (¬ (70 : Int32) < x0 → Post ((x0 - (65 : Int32)) + (10 : Int32)) G3))))) ∧
    (¬ v4 = (0 : Int32) → Post (x0 - (48 : Int32)) G3))) G x0
def pq_Tx_hexadecimal (E : wo_E) (mc ms : Nat) (Post : Int32 → wo_W → Prop) (G : wo_W) (x0 : Int32) : Prop := pq_Tx_hexadecimal_0 E mc ms Post G 0 0 x0
set_option maxRecDepth 100000 in
set_option maxHeartbeats 4000000 in
theorem tq_Tx_hexadecimal_55 {p : Program} {l : Launch} {e : Env} {R : Room} {s₀ : State} {m : MethodId} {args : Array Value} {below : List Frame} {meth : Method} {cd : Code} {E : wo_E} {mc ms : Nat} {Post : Int32 → wo_W → Prop} (hC : wo_Cx E "EdgeCache$Text" prog_12_method_6_code 1 1 20 ((Option.some Jvm.ClassFile.FieldType.int)) "hexadecimal" mc ms p R s₀ m args meth cd) : ∀ {G : wo_W} {c s : Nat} {y0 : Int32}, pq_Tx_hexadecimal_55 E mc ms Post G c s y0 → ∀ {H : Heap} {locs : List Loc} {ls : Array Slot}, wo_Se E G H → va_S (en_A E) s₀.heap H locs → lx_has ls 1 [] → c ≤ mc → s ≤ ms → W p l e R s₀ m args below meth cd H locs c s (MQ below (va_Qi Post (wo_B E) (en_A E)) args s₀ mc ms (en_A E)) (F0 m 55 ls [.int y0]) := by
  intro G c s y0 hw H locs ls hG hS hl hcc hss
  dsimp only [pq_Tx_hexadecimal_55] at hw
  have hx := hC.1
  have hb := hC.2.1
  exact wo_iret hC hG hS hcc hss hw dq_Tx_hexadecimal_55
set_option maxRecDepth 100000 in
set_option maxHeartbeats 4000000 in
theorem tq_Tx_hexadecimal_54 {p : Program} {l : Launch} {e : Env} {R : Room} {s₀ : State} {m : MethodId} {args : Array Value} {below : List Frame} {meth : Method} {cd : Code} {E : wo_E} {mc ms : Nat} {Post : Int32 → wo_W → Prop} (hC : wo_Cx E "EdgeCache$Text" prog_12_method_6_code 1 1 20 ((Option.some Jvm.ClassFile.FieldType.int)) "hexadecimal" mc ms p R s₀ m args meth cd) : ∀ {G : wo_W} {c s : Nat}, pq_Tx_hexadecimal_54 E mc ms Post G c s → ∀ {H : Heap} {locs : List Loc} {ls : Array Slot}, wo_Se E G H → va_S (en_A E) s₀.heap H locs → lx_has ls 1 [] → c ≤ mc → s ≤ ms → W p l e R s₀ m args below meth cd H locs c s (MQ below (va_Qi Post (wo_B E) (en_A E)) args s₀ mc ms (en_A E)) (F0 m 54 ls []) := by
  intro G c s hw H locs ls hG hS hl hcc hss
  dsimp only [pq_Tx_hexadecimal_54] at hw
  have hx := hC.1
  have hb := hC.2.1
  refine lv_iconst (v := (-1 : Int32)) hx hb dq_Tx_hexadecimal_54 rfl ?_
  exact tq_Tx_hexadecimal_55 hC hw hG hS (lx_sub hl [] rfl) hcc hss
set_option maxRecDepth 100000 in
set_option maxHeartbeats 4000000 in
theorem tq_Tx_hexadecimal_32 {p : Program} {l : Launch} {e : Env} {R : Room} {s₀ : State} {m : MethodId} {args : Array Value} {below : List Frame} {meth : Method} {cd : Code} {E : wo_E} {mc ms : Nat} {Post : Int32 → wo_W → Prop} (hC : wo_Cx E "EdgeCache$Text" prog_12_method_6_code 1 1 20 ((Option.some Jvm.ClassFile.FieldType.int)) "hexadecimal" mc ms p R s₀ m args meth cd) : ∀ {G : wo_W} {c s : Nat} {x0 : Int32}, pq_Tx_hexadecimal_32 E mc ms Post G c s x0 → ∀ {H : Heap} {locs : List Loc} {ls : Array Slot}, wo_Se E G H → va_S (en_A E) s₀.heap H locs → lx_has ls 1 [(0, 1, .int x0)] → c ≤ mc → s ≤ ms → W p l e R s₀ m args below meth cd H locs c s (MQ below (va_Qi Post (wo_B E) (en_A E)) args s₀ mc ms (en_A E)) (F0 m 32 ls []) := by
  intro G c s x0 hw H locs ls hG hS hl hcc hss
  dsimp only [pq_Tx_hexadecimal_32] at hw
  have hx := hC.1
  have hb := hC.2.1
  refine lv_iload_n hx hb dq_Tx_hexadecimal_32 rfl (lx_at hl 0 rfl) ?_
  refine lv_bipush (v := (97 : Int32)) hx hb dq_Tx_hexadecimal_33 rfl ?_
  refine lv_icmp_lt (tgt := 54) hx hb dq_Tx_hexadecimal_35 rfl (fun h => ?_) (fun h => ?_)
  · replace hw := hw.1 h
    exact tq_Tx_hexadecimal_54 hC hw hG hS (lx_sub hl [] rfl) hcc hss
  · replace hw := hw.2 h
    refine lv_iload_n hx hb dq_Tx_hexadecimal_38 rfl (lx_at hl 0 rfl) ?_
    refine lv_bipush (v := (102 : Int32)) hx hb dq_Tx_hexadecimal_39 rfl ?_
    refine lv_icmp_gt (tgt := 54) hx hb dq_Tx_hexadecimal_41 rfl (fun h => ?_) (fun h => ?_)
    · replace hw := hw.1 h
      exact tq_Tx_hexadecimal_54 hC hw hG hS (lx_sub hl [] rfl) hcc hss
    · replace hw := hw.2 h
      refine lv_iload_n hx hb dq_Tx_hexadecimal_44 rfl (lx_at hl 0 rfl) ?_
      refine lv_bipush (v := (97 : Int32)) hx hb dq_Tx_hexadecimal_45 rfl ?_
      refine lv_isub hx hb dq_Tx_hexadecimal_47 ?_
      refine lv_bipush (v := (10 : Int32)) hx hb dq_Tx_hexadecimal_48 rfl ?_
      refine lv_iadd hx hb dq_Tx_hexadecimal_50 ?_
      refine lv_goto (tgt := 55) hx hb dq_Tx_hexadecimal_51 rfl ?_
      exact tq_Tx_hexadecimal_55 hC hw hG hS (lx_sub hl [] rfl) hcc hss
set_option maxRecDepth 100000 in
set_option maxHeartbeats 4000000 in
theorem tq_Tx_hexadecimal_0 {p : Program} {l : Launch} {e : Env} {R : Room} {s₀ : State} {m : MethodId} {args : Array Value} {below : List Frame} {meth : Method} {cd : Code} {E : wo_E} {mc ms : Nat} {Post : Int32 → wo_W → Prop} (hC : wo_Cx E "EdgeCache$Text" prog_12_method_6_code 1 1 20 ((Option.some Jvm.ClassFile.FieldType.int)) "hexadecimal" mc ms p R s₀ m args meth cd) : ∀ {G : wo_W} {c s : Nat} {x0 : Int32}, pq_Tx_hexadecimal_0 E mc ms Post G c s x0 → ∀ {H : Heap} {locs : List Loc} {ls : Array Slot}, wo_Se E G H → va_S (en_A E) s₀.heap H locs → lx_has ls 1 [(0, 1, .int x0)] → c ≤ mc → s ≤ ms → W p l e R s₀ m args below meth cd H locs c s (MQ below (va_Qi Post (wo_B E) (en_A E)) args s₀ mc ms (en_A E)) (F0 m 0 ls []) := by
  intro G c s x0 hw H locs ls hG hS hl hcc hss
  dsimp only [pq_Tx_hexadecimal_0] at hw
  have hx := hC.1
  have hb := hC.2.1
  refine lv_iload_n hx hb dq_Tx_hexadecimal_0 rfl (lx_at hl 0 rfl) ?_
  obtain ⟨mc1, ms2, hc1, hs1, hw⟩ := hw
  refine va_calli (wo_runS hC lq_Tx_25 (mq_Tx_isDigit hw) hG hS rfl (lx_sz hl) rfl (Nat.zero_le _) (by decide) dq_Tx_hexadecimal_1 ⟨hc1, hs1⟩) hS (fun _ _ h => h) (fun _ h => h) (fun v4 G3 t H locs ht hvm hw' hB _ _ hS => ?_)
  clear hw
  have hw := hw'
  clear hw'
  replace hG := wo_bk ht hB
  replace hcc := hc1
  replace hss := hs1
  refine lv_if_eq (tgt := 12) hx hb dq_Tx_hexadecimal_4 rfl (fun h => ?_) (fun h => ?_)
  · replace hw := hw.1 h
    refine lv_iload_n hx hb dq_Tx_hexadecimal_12 rfl (lx_at hl 0 rfl) ?_
    refine lv_bipush (v := (65 : Int32)) hx hb dq_Tx_hexadecimal_13 rfl ?_
    refine lv_icmp_lt (tgt := 32) hx hb dq_Tx_hexadecimal_15 rfl (fun h => ?_) (fun h => ?_)
    · replace hw := hw.1 h
      exact tq_Tx_hexadecimal_32 hC hw hG hS (lx_sub hl [0] rfl) hcc hss
    · replace hw := hw.2 h
      refine lv_iload_n hx hb dq_Tx_hexadecimal_18 rfl (lx_at hl 0 rfl) ?_
      refine lv_bipush (v := (70 : Int32)) hx hb dq_Tx_hexadecimal_19 rfl ?_
      refine lv_icmp_gt (tgt := 32) hx hb dq_Tx_hexadecimal_21 rfl (fun h => ?_) (fun h => ?_)
      · replace hw := hw.1 h
        exact tq_Tx_hexadecimal_32 hC hw hG hS (lx_sub hl [0] rfl) hcc hss
      · replace hw := hw.2 h
        refine lv_iload_n hx hb dq_Tx_hexadecimal_24 rfl (lx_at hl 0 rfl) ?_
        refine lv_bipush (v := (65 : Int32)) hx hb dq_Tx_hexadecimal_25 rfl ?_
        refine lv_isub hx hb dq_Tx_hexadecimal_27 ?_
        refine lv_bipush (v := (10 : Int32)) hx hb dq_Tx_hexadecimal_28 rfl ?_
        refine lv_iadd hx hb dq_Tx_hexadecimal_30 ?_
        exact wo_iret hC hG hS hcc hss hw dq_Tx_hexadecimal_31
  · replace hw := hw.2 h
    refine lv_iload_n hx hb dq_Tx_hexadecimal_7 rfl (lx_at hl 0 rfl) ?_
    refine lv_bipush (v := (48 : Int32)) hx hb dq_Tx_hexadecimal_8 rfl ?_
    refine lv_isub hx hb dq_Tx_hexadecimal_10 ?_
    exact wo_iret hC hG hS hcc hss hw dq_Tx_hexadecimal_11
set_option maxHeartbeats 4000000 in
theorem mq_Tx_hexadecimal {l : Launch} {E : wo_E} {mc ms : Nat} {Post : Int32 → wo_W → Prop} {G : wo_W} {x0 : Int32} (hw : pq_Tx_hexadecimal E mc ms Post G x0) : Met l yq_Tx_hexadecimal (Cond.code yq_Tx_hexadecimal prog_12_method_6_code 1 ((Option.some Jvm.ClassFile.FieldType.int)) :: vw_WG) { frames := 1, cells := mc, slots := ms, locals := 20 } (va_Pc [.int x0] (wo_Ok E G)) (va_Qi Post (wo_B E) (en_A E)) mc ms (en_A E) := by
  unfold pq_Tx_hexadecimal at hw
  exact wo_met [(1, .int x0)] rfl (by decide) (fun q hq => by simp only [List.mem_cons, List.not_mem_nil, or_false] at hq; rcases hq with rfl <;> first | rfl | exact lx_cR _) (Nat.le_of_ble_eq_true rfl) (fun p e R s m args below meth cd ls hC hG hS hl => tq_Tx_hexadecimal_0 hC hw hG hS (lx_sub hl [0] rfl) (Nat.zero_le _) (Nat.zero_le _))

theorem dq_Rd_judgeChunk_0 : decode prog_5_method_11_code 0 = .ok (.aload_n 1, 1) := by decide +kernel
theorem dq_Rd_judgeChunk_1 : decode prog_5_method_11_code 1 = .ok (.invokevirtual 119, 3) := by decide +kernel
theorem dq_Rd_judgeChunk_4 : decode prog_5_method_11_code 4 = .ok (.iconst 1, 1) := by decide +kernel
theorem dq_Rd_judgeChunk_5 : decode prog_5_method_11_code 5 = .ok (.if_icmp .ne 14, 3) := by decide +kernel
theorem dq_Rd_judgeChunk_8 : decode prog_5_method_11_code 8 = .ok (.aload_n 1, 1) := by decide +kernel
theorem dq_Rd_judgeChunk_9 : decode prog_5_method_11_code 9 = .ok (.iconst 0, 1) := by decide +kernel
theorem dq_Rd_judgeChunk_10 : decode prog_5_method_11_code 10 = .ok (.invokevirtual 124, 3) := by decide +kernel
theorem dq_Rd_judgeChunk_13 : decode prog_5_method_11_code 13 = .ok (.invokestatic 145, 3) := by decide +kernel
theorem dq_Rd_judgeChunk_16 : decode prog_5_method_11_code 16 = .ok (.goto 4, 3) := by decide +kernel
theorem dq_Rd_judgeChunk_19 : decode prog_5_method_11_code 19 = .ok (.iconst (-1), 1) := by decide +kernel
theorem dq_Rd_judgeChunk_20 : decode prog_5_method_11_code 20 = .ok (.istore_n 2, 1) := by decide +kernel
theorem dq_Rd_judgeChunk_21 : decode prog_5_method_11_code 21 = .ok (.iload_n 2, 1) := by decide +kernel
theorem dq_Rd_judgeChunk_22 : decode prog_5_method_11_code 22 = .ok (.iconst (-1), 1) := by decide +kernel
theorem dq_Rd_judgeChunk_23 : decode prog_5_method_11_code 23 = .ok (.if_icmp .ne 7, 3) := by decide +kernel
theorem dq_Rd_judgeChunk_26 : decode prog_5_method_11_code 26 = .ok (.sipush 400, 3) := by decide +kernel
theorem dq_Rd_judgeChunk_29 : decode prog_5_method_11_code 29 = .ok (.ireturn, 1) := by decide +kernel
theorem dq_Rd_judgeChunk_30 : decode prog_5_method_11_code 30 = .ok (.iload_n 2, 1) := by decide +kernel
theorem dq_Rd_judgeChunk_31 : decode prog_5_method_11_code 31 = .ok (.ifCond .ne 11, 3) := by decide +kernel
theorem dq_Rd_judgeChunk_34 : decode prog_5_method_11_code 34 = .ok (.aload_n 0, 1) := by decide +kernel
theorem dq_Rd_judgeChunk_35 : decode prog_5_method_11_code 35 = .ok (.bipush 6, 2) := by decide +kernel
theorem dq_Rd_judgeChunk_37 : decode prog_5_method_11_code 37 = .ok (.putfield 31, 3) := by decide +kernel
theorem dq_Rd_judgeChunk_40 : decode prog_5_method_11_code 40 = .ok (.iconst 0, 1) := by decide +kernel
theorem dq_Rd_judgeChunk_41 : decode prog_5_method_11_code 41 = .ok (.ireturn, 1) := by decide +kernel
theorem dq_Rd_judgeChunk_42 : decode prog_5_method_11_code 42 = .ok (.aload_n 0, 1) := by decide +kernel
theorem dq_Rd_judgeChunk_43 : decode prog_5_method_11_code 43 = .ok (.getfield 18, 3) := by decide +kernel
theorem dq_Rd_judgeChunk_46 : decode prog_5_method_11_code 46 = .ok (.invokevirtual 54, 3) := by decide +kernel
theorem dq_Rd_judgeChunk_49 : decode prog_5_method_11_code 49 = .ok (.iload_n 2, 1) := by decide +kernel
theorem dq_Rd_judgeChunk_50 : decode prog_5_method_11_code 50 = .ok (.iadd, 1) := by decide +kernel
theorem dq_Rd_judgeChunk_51 : decode prog_5_method_11_code 51 = .ok (.bipush 8, 2) := by decide +kernel
theorem dq_Rd_judgeChunk_53 : decode prog_5_method_11_code 53 = .ok (.if_icmp .le 7, 3) := by decide +kernel
theorem dq_Rd_judgeChunk_56 : decode prog_5_method_11_code 56 = .ok (.sipush 413, 3) := by decide +kernel
theorem dq_Rd_judgeChunk_59 : decode prog_5_method_11_code 59 = .ok (.ireturn, 1) := by decide +kernel
theorem dq_Rd_judgeChunk_60 : decode prog_5_method_11_code 60 = .ok (.aload_n 0, 1) := by decide +kernel
theorem dq_Rd_judgeChunk_61 : decode prog_5_method_11_code 61 = .ok (.iload_n 2, 1) := by decide +kernel
theorem dq_Rd_judgeChunk_62 : decode prog_5_method_11_code 62 = .ok (.putfield 71, 3) := by decide +kernel
theorem dq_Rd_judgeChunk_65 : decode prog_5_method_11_code 65 = .ok (.aload_n 0, 1) := by decide +kernel
theorem dq_Rd_judgeChunk_66 : decode prog_5_method_11_code 66 = .ok (.iconst 4, 1) := by decide +kernel
theorem dq_Rd_judgeChunk_67 : decode prog_5_method_11_code 67 = .ok (.putfield 31, 3) := by decide +kernel
theorem dq_Rd_judgeChunk_70 : decode prog_5_method_11_code 70 = .ok (.iconst 0, 1) := by decide +kernel
theorem dq_Rd_judgeChunk_71 : decode prog_5_method_11_code 71 = .ok (.ireturn, 1) := by decide +kernel
set_option maxRecDepth 100000 in
def pq_Rd_judgeChunk_20 (E : wo_E) (mc ms : Nat) (Post : Int32 → wo_W → Prop) (G : wo_W) (c s : Nat) (x0 : Nat) (y0 : Int32) : Prop := ((¬ y0 = (-1 : Int32) → ((¬ y0 = (0 : Int32) → wo_ty G x0 = 8 ∧ ∀ r2 : Option Nat, r2 = wo_gr G 449 x0 → ∃ a4 : Nat, r2 = some a4 ∧ wo_ty G a4 = 5 ∧ ∃ mc6 ms7 : Nat, (c + mc6) ≤ mc ∧ (s + ms7) ≤ ms ∧ pq_SB_length E mc6 ms7 (fun v9 G8 => 
      (((v9 + y0) ≤ (8 : Int32) → wo_ty G8 x0 = 8 ∧ en_bs E ≤ x0 ∧ ∀ G12 : wo_W, G12 = wo_si G8 456 x0 y0 → 
          en_bs E ≤ x0 ∧ ∀ G15 : wo_W, G15 = wo_si G12 452 x0 (4 : Int32) → 
          Post (0 : Int32) G15) ∧
        (¬ (v9 + y0) ≤ (8 : Int32) → Post (413 : Int32) G8))) G a4) ∧
    (y0 = (0 : Int32) → wo_ty G x0 = 8 ∧ en_bs E ≤ x0 ∧ ∀ G19 : wo_W, G19 = wo_si G 452 x0 (6 : Int32) → 
      Post (0 : Int32) G19))) ∧
  (y0 = (-1 : Int32) → Post (400 : Int32) G))
set_option maxRecDepth 100000 in
def pq_Rd_judgeChunk_0 (E : wo_E) (mc ms : Nat) (Post : Int32 → wo_W → Prop) (G : wo_W) (c s : Nat) (x0 : Nat) (x1 : Option Nat) : Prop := ∃ a1 : Nat, x1 = some a1 ∧ wo_ty G a1 = 10 ∧ ∃ mc3 ms4 : Nat, (c + mc3) ≤ mc ∧ (s + ms4) ≤ ms ∧ pq_St_length E mc3 ms4 (fun v6 G5 => 
  ((¬ v6 = (1 : Int32) → pq_Rd_judgeChunk_20 E mc ms Post G5 (c + mc3) (s + ms4) x0 (-1 : Int32)) ∧
    (v6 = (1 : Int32) → wo_ty G5 a1 = 10 ∧ ∃ mc8 ms9 : Nat, ((c + mc3) + mc8) ≤ mc ∧ ((s + ms4) + ms9) ≤ ms ∧ pq_St_charAt E mc8 ms9 (fun v11 G10 => 
      ∃ mc12 ms13 : Nat, (((c + mc3) + mc8) + mc12) ≤ mc ∧ (((s + ms4) + ms9) + ms13) ≤ ms ∧ pq_Tx_hexadecimal E mc12 ms13 (fun v15 G14 => 
        pq_Rd_judgeChunk_20 E mc ms Post G14 (((c + mc3) + mc8) + mc12) (((s + ms4) + ms9) + ms13) x0 v15) G10 v11) G5 a1 (0 : Int32)))) G a1
def pq_Rd_judgeChunk (E : wo_E) (mc ms : Nat) (Post : Int32 → wo_W → Prop) (G : wo_W) (x0 : Nat) (x1 : Option Nat) : Prop := pq_Rd_judgeChunk_0 E mc ms Post G 0 0 x0 x1
set_option maxRecDepth 100000 in
set_option maxHeartbeats 4000000 in
theorem tq_Rd_judgeChunk_20 {p : Program} {l : Launch} {e : Env} {R : Room} {s₀ : State} {m : MethodId} {args : Array Value} {below : List Frame} {meth : Method} {cd : Code} {E : wo_E} {mc ms : Nat} {Post : Int32 → wo_W → Prop} (hC : wo_Cx E "EdgeCache$Reader" prog_5_method_11_code 3 4 85 ((Option.some Jvm.ClassFile.FieldType.int)) "judgeChunk" mc ms p R s₀ m args meth cd) : ∀ {G : wo_W} {c s : Nat} {x0 : Nat} {y0 : Int32}, pq_Rd_judgeChunk_20 E mc ms Post G c s x0 y0 → ∀ {H : Heap} {locs : List Loc} {ls : Array Slot}, wo_Se E G H → va_S (en_A E) s₀.heap H locs → lx_has ls 3 [(0, 1, .ref x0)] → c ≤ mc → s ≤ ms → W p l e R s₀ m args below meth cd H locs c s (MQ below (va_Qi Post (wo_B E) (en_A E)) args s₀ mc ms (en_A E)) (F0 m 20 ls [.int y0]) := by
  intro G c s x0 y0 hw H locs ls hG hS hl hcc hss
  dsimp only [pq_Rd_judgeChunk_20] at hw
  have hx := hC.1
  have hb := hC.2.1
  refine lx_istore_n (lv' := [(2, 1, .int y0), (0, 1, .ref x0)]) hx hb dq_Rd_judgeChunk_20 rfl hl (by decide) rfl (fun ls hl' => ?_)
  clear hl
  have hl := hl'
  clear hl'
  refine lv_iload_n hx hb dq_Rd_judgeChunk_21 rfl (lx_at hl 0 rfl) ?_
  refine lv_iconst (v := (-1 : Int32)) hx hb dq_Rd_judgeChunk_22 rfl ?_
  refine lv_icmp_ne (tgt := 30) hx hb dq_Rd_judgeChunk_23 rfl (fun h => ?_) (fun h => ?_)
  · replace hw := hw.1 h
    refine lv_iload_n hx hb dq_Rd_judgeChunk_30 rfl (lx_at hl 0 rfl) ?_
    refine lv_if_ne (tgt := 42) hx hb dq_Rd_judgeChunk_31 rfl (fun h => ?_) (fun h => ?_)
    · replace hw := hw.1 h
      refine lv_aload_n hx hb dq_Rd_judgeChunk_42 rfl (lx_at hl 1 rfl) ?_
      obtain ⟨t1, hw⟩ := hw
      refine wo_getR hC fq_Rd_18 rfl hG t1 dq_Rd_judgeChunk_43 (fun r2 e3 => ?_)
      replace hw := hw r2 e3
      obtain ⟨a4, rfl, hw⟩ := hw
      obtain ⟨t5, hw⟩ := hw
      obtain ⟨mc6, ms7, hc1, hs1, hw⟩ := hw
      refine va_calli (wo_runV hC lq_Rd_54 (mq_SB_length hw) hG hS t5 rfl (lx_sz hl) rfl (Nat.zero_le _) (by decide) dq_Rd_judgeChunk_46 ⟨hc1, hs1⟩) hS (fun _ _ h => h) (fun _ h => h) (fun v9 G8 t H locs ht hvm hw' hB _ _ hS => ?_)
      clear hw
      have hw := hw'
      clear hw'
      replace hG := wo_bk ht hB
      replace hcc := hc1
      replace hss := hs1
      refine lv_iload_n hx hb dq_Rd_judgeChunk_49 rfl (lx_at hl 0 rfl) ?_
      refine lv_iadd hx hb dq_Rd_judgeChunk_50 ?_
      refine lv_bipush (v := (8 : Int32)) hx hb dq_Rd_judgeChunk_51 rfl ?_
      refine lv_icmp_le (tgt := 60) hx hb dq_Rd_judgeChunk_53 rfl (fun h => ?_) (fun h => ?_)
      · replace hw := hw.1 h
        refine lv_aload_n hx hb dq_Rd_judgeChunk_60 rfl (lx_at hl 1 rfl) ?_
        refine lv_iload_n hx hb dq_Rd_judgeChunk_61 rfl (lx_at hl 0 rfl) ?_
        obtain ⟨t10, hw⟩ := hw
        obtain ⟨h11, hw⟩ := hw
        refine wo_putI hC fq_Rd_71 (Or.inl rfl) rfl (wo_ok_int _) hG hS t10 h11 dq_Rd_judgeChunk_62 (fun G12 H locs e13 hG hS => ?_)
        replace hw := hw G12 e13
        refine lv_aload_n hx hb dq_Rd_judgeChunk_65 rfl (lx_at hl 1 rfl) ?_
        refine lv_iconst (v := (4 : Int32)) hx hb dq_Rd_judgeChunk_66 rfl ?_
        obtain ⟨h14, hw⟩ := hw
        refine wo_putI hC fq_Rd_31 (Or.inl rfl) rfl (wo_ok_int _) hG hS (ty_si e13 t10) h14 dq_Rd_judgeChunk_67 (fun G15 H locs e16 hG hS => ?_)
        replace hw := hw G15 e16
        refine lv_iconst (v := (0 : Int32)) hx hb dq_Rd_judgeChunk_70 rfl ?_
        exact wo_iret hC hG hS hcc hss hw dq_Rd_judgeChunk_71
      · replace hw := hw.2 h
        refine lv_sipush (v := (413 : Int32)) hx hb dq_Rd_judgeChunk_56 rfl ?_
        exact wo_iret hC hG hS hcc hss hw dq_Rd_judgeChunk_59
    · replace hw := hw.2 h
      refine lv_aload_n hx hb dq_Rd_judgeChunk_34 rfl (lx_at hl 1 rfl) ?_
      refine lv_bipush (v := (6 : Int32)) hx hb dq_Rd_judgeChunk_35 rfl ?_
      obtain ⟨t17, hw⟩ := hw
      obtain ⟨h18, hw⟩ := hw
      refine wo_putI hC fq_Rd_31 (Or.inl rfl) rfl (wo_ok_int _) hG hS t17 h18 dq_Rd_judgeChunk_37 (fun G19 H locs e20 hG hS => ?_)
      replace hw := hw G19 e20
      refine lv_iconst (v := (0 : Int32)) hx hb dq_Rd_judgeChunk_40 rfl ?_
      exact wo_iret hC hG hS hcc hss hw dq_Rd_judgeChunk_41
  · replace hw := hw.2 h
    refine lv_sipush (v := (400 : Int32)) hx hb dq_Rd_judgeChunk_26 rfl ?_
    exact wo_iret hC hG hS hcc hss hw dq_Rd_judgeChunk_29
set_option maxRecDepth 100000 in
set_option maxHeartbeats 4000000 in
theorem tq_Rd_judgeChunk_0 {p : Program} {l : Launch} {e : Env} {R : Room} {s₀ : State} {m : MethodId} {args : Array Value} {below : List Frame} {meth : Method} {cd : Code} {E : wo_E} {mc ms : Nat} {Post : Int32 → wo_W → Prop} (hC : wo_Cx E "EdgeCache$Reader" prog_5_method_11_code 3 4 85 ((Option.some Jvm.ClassFile.FieldType.int)) "judgeChunk" mc ms p R s₀ m args meth cd) : ∀ {G : wo_W} {c s : Nat} {x0 : Nat} {x1 : Option Nat}, pq_Rd_judgeChunk_0 E mc ms Post G c s x0 x1 → ∀ {H : Heap} {locs : List Loc} {ls : Array Slot}, wo_Se E G H → va_S (en_A E) s₀.heap H locs → lx_has ls 3 [(0, 1, .ref x0), (1, 1, va_rf x1)] → c ≤ mc → s ≤ ms → W p l e R s₀ m args below meth cd H locs c s (MQ below (va_Qi Post (wo_B E) (en_A E)) args s₀ mc ms (en_A E)) (F0 m 0 ls []) := by
  intro G c s x0 x1 hw H locs ls hG hS hl hcc hss
  dsimp only [pq_Rd_judgeChunk_0] at hw
  have hx := hC.1
  have hb := hC.2.1
  refine lx_aloadR_n hx hb dq_Rd_judgeChunk_0 rfl (lx_at hl 1 rfl) ?_
  obtain ⟨a1, rfl, hw⟩ := hw
  obtain ⟨t2, hw⟩ := hw
  obtain ⟨mc3, ms4, hc1, hs1, hw⟩ := hw
  refine va_calli (wo_runV hC lq_Rd_119 (mq_St_length hw) hG hS t2 rfl (lx_sz hl) rfl (Nat.zero_le _) (by decide) dq_Rd_judgeChunk_1 ⟨hc1, hs1⟩) hS (fun _ _ h => h) (fun _ h => h) (fun v6 G5 t H locs ht hvm hw' hB _ _ hS => ?_)
  clear hw
  have hw := hw'
  clear hw'
  replace hG := wo_bk ht hB
  replace hcc := hc1
  replace hss := hs1
  refine lv_iconst (v := (1 : Int32)) hx hb dq_Rd_judgeChunk_4 rfl ?_
  refine lv_icmp_ne (tgt := 19) hx hb dq_Rd_judgeChunk_5 rfl (fun h => ?_) (fun h => ?_)
  · replace hw := hw.1 h
    refine lv_iconst (v := (-1 : Int32)) hx hb dq_Rd_judgeChunk_19 rfl ?_
    exact tq_Rd_judgeChunk_20 hC hw hG hS (lx_sub hl [0] rfl) hcc hss
  · replace hw := hw.2 h
    refine lv_aload_n hx hb dq_Rd_judgeChunk_8 rfl (lx_at hl 1 rfl) ?_
    refine lv_iconst (v := (0 : Int32)) hx hb dq_Rd_judgeChunk_9 rfl ?_
    obtain ⟨t7, hw⟩ := hw
    obtain ⟨mc8, ms9, hc1, hs1, hw⟩ := hw
    refine va_calli (wo_runV hC lq_Rd_124 (mq_St_charAt hw) hG hS t7 rfl (lx_sz hl) rfl (Nat.zero_le _) (by decide) dq_Rd_judgeChunk_10 ⟨hc1, hs1⟩) hS (fun _ _ h => h) (fun _ h => h) (fun v11 G10 t H locs ht hvm hw' hB _ _ hS => ?_)
    clear hw
    have hw := hw'
    clear hw'
    replace hG := wo_bk ht hB
    replace hcc := hc1
    replace hss := hs1
    obtain ⟨mc12, ms13, hc1, hs1, hw⟩ := hw
    refine va_calli (wo_runS hC lq_Rd_145 (mq_Tx_hexadecimal hw) hG hS rfl (lx_sz hl) rfl (Nat.zero_le _) (by decide) dq_Rd_judgeChunk_13 ⟨hc1, hs1⟩) hS (fun _ _ h => h) (fun _ h => h) (fun v15 G14 t H locs ht hvm hw' hB _ _ hS => ?_)
    clear hw
    have hw := hw'
    clear hw'
    replace hG := wo_bk ht hB
    replace hcc := hc1
    replace hss := hs1
    refine lv_goto (tgt := 20) hx hb dq_Rd_judgeChunk_16 rfl ?_
    exact tq_Rd_judgeChunk_20 hC hw hG hS (lx_sub hl [0] rfl) hcc hss
set_option maxHeartbeats 4000000 in
theorem mq_Rd_judgeChunk {l : Launch} {E : wo_E} {mc ms : Nat} {Post : Int32 → wo_W → Prop} {G : wo_W} {x0 : Nat} {x1 : Option Nat} (hw : pq_Rd_judgeChunk E mc ms Post G x0 x1) : Met l yq_Rd_judgeChunk (Cond.code yq_Rd_judgeChunk prog_5_method_11_code 3 ((Option.some Jvm.ClassFile.FieldType.int)) :: vw_WG) { frames := 4, cells := mc, slots := ms, locals := 85 } (va_Pc [.ref x0, va_rf x1] (wo_Ok E G)) (va_Qi Post (wo_B E) (en_A E)) mc ms (en_A E) := by
  unfold pq_Rd_judgeChunk at hw
  exact wo_met [(1, .ref x0), (1, va_rf x1)] rfl (by decide) (fun q hq => by simp only [List.mem_cons, List.not_mem_nil, or_false] at hq; rcases hq with rfl | rfl <;> first | rfl | exact lx_cR _) (Nat.le_of_ble_eq_true rfl) (fun p e R s m args below meth cd ls hC hG hS hl => tq_Rd_judgeChunk_0 hC hw hG hS (lx_sub hl [0, 1] rfl) (Nat.zero_le _) (Nat.zero_le _))

theorem dq_Rd_isHeader_0 : decode prog_5_method_8_code 0 = .ok (.aload_n 0, 1) := by decide +kernel
theorem dq_Rd_isHeader_1 : decode prog_5_method_8_code 1 = .ok (.invokevirtual 119, 3) := by decide +kernel
theorem dq_Rd_isHeader_4 : decode prog_5_method_8_code 4 = .ok (.iconst 2, 1) := by decide +kernel
theorem dq_Rd_isHeader_5 : decode prog_5_method_8_code 5 = .ok (.if_icmp .lt 33, 3) := by decide +kernel
theorem dq_Rd_isHeader_8 : decode prog_5_method_8_code 8 = .ok (.aload_n 0, 1) := by decide +kernel
theorem dq_Rd_isHeader_9 : decode prog_5_method_8_code 9 = .ok (.iconst 0, 1) := by decide +kernel
theorem dq_Rd_isHeader_10 : decode prog_5_method_8_code 10 = .ok (.invokevirtual 124, 3) := by decide +kernel
theorem dq_Rd_isHeader_13 : decode prog_5_method_8_code 13 = .ok (.bipush 65, 2) := by decide +kernel
theorem dq_Rd_isHeader_15 : decode prog_5_method_8_code 15 = .ok (.if_icmp .lt 23, 3) := by decide +kernel
theorem dq_Rd_isHeader_18 : decode prog_5_method_8_code 18 = .ok (.aload_n 0, 1) := by decide +kernel
theorem dq_Rd_isHeader_19 : decode prog_5_method_8_code 19 = .ok (.iconst 0, 1) := by decide +kernel
theorem dq_Rd_isHeader_20 : decode prog_5_method_8_code 20 = .ok (.invokevirtual 124, 3) := by decide +kernel
theorem dq_Rd_isHeader_23 : decode prog_5_method_8_code 23 = .ok (.bipush 90, 2) := by decide +kernel
theorem dq_Rd_isHeader_25 : decode prog_5_method_8_code 25 = .ok (.if_icmp .gt 13, 3) := by decide +kernel
theorem dq_Rd_isHeader_28 : decode prog_5_method_8_code 28 = .ok (.aload_n 0, 1) := by decide +kernel
theorem dq_Rd_isHeader_29 : decode prog_5_method_8_code 29 = .ok (.iconst 1, 1) := by decide +kernel
theorem dq_Rd_isHeader_30 : decode prog_5_method_8_code 30 = .ok (.invokevirtual 124, 3) := by decide +kernel
theorem dq_Rd_isHeader_33 : decode prog_5_method_8_code 33 = .ok (.bipush 58, 2) := by decide +kernel
theorem dq_Rd_isHeader_35 : decode prog_5_method_8_code 35 = .ok (.if_icmp .eq 5, 3) := by decide +kernel
theorem dq_Rd_isHeader_38 : decode prog_5_method_8_code 38 = .ok (.iconst 0, 1) := by decide +kernel
theorem dq_Rd_isHeader_39 : decode prog_5_method_8_code 39 = .ok (.ireturn, 1) := by decide +kernel
theorem dq_Rd_isHeader_40 : decode prog_5_method_8_code 40 = .ok (.iconst 2, 1) := by decide +kernel
theorem dq_Rd_isHeader_41 : decode prog_5_method_8_code 41 = .ok (.istore_n 1, 1) := by decide +kernel
theorem dq_Rd_isHeader_42 : decode prog_5_method_8_code 42 = .ok (.iload_n 1, 1) := by decide +kernel
theorem dq_Rd_isHeader_43 : decode prog_5_method_8_code 43 = .ok (.aload_n 0, 1) := by decide +kernel
theorem dq_Rd_isHeader_44 : decode prog_5_method_8_code 44 = .ok (.invokevirtual 119, 3) := by decide +kernel
theorem dq_Rd_isHeader_47 : decode prog_5_method_8_code 47 = .ok (.if_icmp .ge 31, 3) := by decide +kernel
theorem dq_Rd_isHeader_50 : decode prog_5_method_8_code 50 = .ok (.aload_n 0, 1) := by decide +kernel
theorem dq_Rd_isHeader_51 : decode prog_5_method_8_code 51 = .ok (.iload_n 1, 1) := by decide +kernel
theorem dq_Rd_isHeader_52 : decode prog_5_method_8_code 52 = .ok (.invokevirtual 124, 3) := by decide +kernel
theorem dq_Rd_isHeader_55 : decode prog_5_method_8_code 55 = .ok (.bipush 32, 2) := by decide +kernel
theorem dq_Rd_isHeader_57 : decode prog_5_method_8_code 57 = .ok (.if_icmp .lt 13, 3) := by decide +kernel
theorem dq_Rd_isHeader_60 : decode prog_5_method_8_code 60 = .ok (.aload_n 0, 1) := by decide +kernel
theorem dq_Rd_isHeader_61 : decode prog_5_method_8_code 61 = .ok (.iload_n 1, 1) := by decide +kernel
theorem dq_Rd_isHeader_62 : decode prog_5_method_8_code 62 = .ok (.invokevirtual 124, 3) := by decide +kernel
theorem dq_Rd_isHeader_65 : decode prog_5_method_8_code 65 = .ok (.bipush 126, 2) := by decide +kernel
theorem dq_Rd_isHeader_67 : decode prog_5_method_8_code 67 = .ok (.if_icmp .le 5, 3) := by decide +kernel
theorem dq_Rd_isHeader_70 : decode prog_5_method_8_code 70 = .ok (.iconst 0, 1) := by decide +kernel
theorem dq_Rd_isHeader_71 : decode prog_5_method_8_code 71 = .ok (.ireturn, 1) := by decide +kernel
theorem dq_Rd_isHeader_72 : decode prog_5_method_8_code 72 = .ok (.iinc 1 1, 3) := by decide +kernel
theorem dq_Rd_isHeader_75 : decode prog_5_method_8_code 75 = .ok (.goto (-33), 3) := by decide +kernel
theorem dq_Rd_isHeader_78 : decode prog_5_method_8_code 78 = .ok (.iconst 1, 1) := by decide +kernel
theorem dq_Rd_isHeader_79 : decode prog_5_method_8_code 79 = .ok (.ireturn, 1) := by decide +kernel
set_option maxRecDepth 100000 in
def pq_Rd_isHeader_38 (E : wo_E) (mc ms : Nat) (Post : Int32 → wo_W → Prop) (G : wo_W) (c s : Nat) : Prop := Post (0 : Int32) G
set_option maxRecDepth 100000 in
def pq_Rd_isHeader_70 (E : wo_E) (mc ms : Nat) (Post : Int32 → wo_W → Prop) (G : wo_W) (c s : Nat) : Prop := Post (0 : Int32) G
set_option maxRecDepth 100000 in
def pq_Rd_isHeader_42 (E : wo_E) (mc ms : Nat) (Post : Int32 → wo_W → Prop) : Nat → wo_W → Nat → Nat → Option Nat → Int32 → Prop
  | 0 => fun _ _ _ _ _ => False
  | n + 1 => fun G c s x0 x1 => ∃ a1 : Nat, x0 = some a1 ∧ wo_ty G a1 = 10 ∧ ∃ mc3 ms4 : Nat, (c + mc3) ≤ mc ∧ (s + ms4) ≤ ms ∧ pq_St_length E mc3 ms4 (fun v6 G5 => 
  ((v6 ≤ x1 → Post (1 : Int32) G5) ∧
    (¬ v6 ≤ x1 → wo_ty G5 a1 = 10 ∧ ∃ mc8 ms9 : Nat, ((c + mc3) + mc8) ≤ mc ∧ ((s + ms4) + ms9) ≤ ms ∧ pq_St_charAt E mc8 ms9 (fun v11 G10 => 
      ((v11 < (32 : Int32) → pq_Rd_isHeader_70 E mc ms Post G10 ((c + mc3) + mc8) ((s + ms4) + ms9)) ∧
        (¬ v11 < (32 : Int32) → wo_ty G10 a1 = 10 ∧ ∃ mc13 ms14 : Nat, (((c + mc3) + mc8) + mc13) ≤ mc ∧ (((s + ms4) + ms9) + ms14) ≤ ms ∧ pq_St_charAt E mc13 ms14 (fun v16 G15 => 
          ((v16 ≤ (126 : Int32) → pq_Rd_isHeader_42 E mc ms Post n G15 (((c + mc3) + mc8) + mc13) (((s + ms4) + ms9) + ms14) (some a1) (x1 + (1 : Int32))) ∧
            (¬ v16 ≤ (126 : Int32) → pq_Rd_isHeader_70 E mc ms Post G15 (((c + mc3) + mc8) + mc13) (((s + ms4) + ms9) + ms14)))) G10 a1 x1))) G5 a1 x1))) G a1
set_option maxRecDepth 100000 in
def pq_Rd_isHeader_0 (E : wo_E) (mc ms : Nat) (Post : Int32 → wo_W → Prop) (G : wo_W) (c s : Nat) (x0 : Option Nat) : Prop := ∃ a1 : Nat, x0 = some a1 ∧ wo_ty G a1 = 10 ∧ ∃ mc3 ms4 : Nat, (c + mc3) ≤ mc ∧ (s + ms4) ≤ ms ∧ pq_St_length E mc3 ms4 (fun v6 G5 => 
  ((v6 < (2 : Int32) → pq_Rd_isHeader_38 E mc ms Post G5 (c + mc3) (s + ms4)) ∧
    (¬ v6 < (2 : Int32) → wo_ty G5 a1 = 10 ∧ ∃ mc8 ms9 : Nat, ((c + mc3) + mc8) ≤ mc ∧ ((s + ms4) + ms9) ≤ ms ∧ pq_St_charAt E mc8 ms9 (fun v11 G10 => 
      ((v11 < (65 : Int32) → pq_Rd_isHeader_38 E mc ms Post G10 ((c + mc3) + mc8) ((s + ms4) + ms9)) ∧
        (¬ v11 < (65 : Int32) → wo_ty G10 a1 = 10 ∧ ∃ mc13 ms14 : Nat, (((c + mc3) + mc8) + mc13) ≤ mc ∧ (((s + ms4) + ms9) + ms14) ≤ ms ∧ pq_St_charAt E mc13 ms14 (fun v16 G15 => 
          (((90 : Int32) < v16 → pq_Rd_isHeader_38 E mc ms Post G15 (((c + mc3) + mc8) + mc13) (((s + ms4) + ms9) + ms14)) ∧
            (¬ (90 : Int32) < v16 → wo_ty G15 a1 = 10 ∧ ∃ mc18 ms19 : Nat, ((((c + mc3) + mc8) + mc13) + mc18) ≤ mc ∧ ((((s + ms4) + ms9) + ms14) + ms19) ≤ ms ∧ pq_St_charAt E mc18 ms19 (fun v21 G20 => 
              ((v21 = (58 : Int32) → ∃ n1 : Nat, pq_Rd_isHeader_42 E mc ms Post n1 G20 ((((c + mc3) + mc8) + mc13) + mc18) ((((s + ms4) + ms9) + ms14) + ms19) (some a1) (2 : Int32)) ∧
                (¬ v21 = (58 : Int32) → pq_Rd_isHeader_38 E mc ms Post G20 ((((c + mc3) + mc8) + mc13) + mc18) ((((s + ms4) + ms9) + ms14) + ms19)))) G15 a1 (1 : Int32)))) G10 a1 (0 : Int32)))) G5 a1 (0 : Int32)))) G a1
def pq_Rd_isHeader (E : wo_E) (mc ms : Nat) (Post : Int32 → wo_W → Prop) (G : wo_W) (x0 : Option Nat) : Prop := pq_Rd_isHeader_0 E mc ms Post G 0 0 x0
set_option maxRecDepth 100000 in
set_option maxHeartbeats 4000000 in
theorem tq_Rd_isHeader_38 {p : Program} {l : Launch} {e : Env} {R : Room} {s₀ : State} {m : MethodId} {args : Array Value} {below : List Frame} {meth : Method} {cd : Code} {E : wo_E} {mc ms : Nat} {Post : Int32 → wo_W → Prop} (hC : wo_Cx E "EdgeCache$Reader" prog_5_method_8_code 2 4 85 ((Option.some Jvm.ClassFile.FieldType.boolean)) "isHeader" mc ms p R s₀ m args meth cd) : ∀ {G : wo_W} {c s : Nat}, pq_Rd_isHeader_38 E mc ms Post G c s → ∀ {H : Heap} {locs : List Loc} {ls : Array Slot}, wo_Se E G H → va_S (en_A E) s₀.heap H locs → lx_has ls 2 [] → c ≤ mc → s ≤ ms → W p l e R s₀ m args below meth cd H locs c s (MQ below (va_Qi Post (wo_B E) (en_A E)) args s₀ mc ms (en_A E)) (F0 m 38 ls []) := by
  intro G c s hw H locs ls hG hS hl hcc hss
  dsimp only [pq_Rd_isHeader_38] at hw
  have hx := hC.1
  have hb := hC.2.1
  refine lv_iconst (v := (0 : Int32)) hx hb dq_Rd_isHeader_38 rfl ?_
  exact wo_zret hC wo_z0 hG hS hcc hss hw dq_Rd_isHeader_39
set_option maxRecDepth 100000 in
set_option maxHeartbeats 4000000 in
theorem tq_Rd_isHeader_70 {p : Program} {l : Launch} {e : Env} {R : Room} {s₀ : State} {m : MethodId} {args : Array Value} {below : List Frame} {meth : Method} {cd : Code} {E : wo_E} {mc ms : Nat} {Post : Int32 → wo_W → Prop} (hC : wo_Cx E "EdgeCache$Reader" prog_5_method_8_code 2 4 85 ((Option.some Jvm.ClassFile.FieldType.boolean)) "isHeader" mc ms p R s₀ m args meth cd) : ∀ {G : wo_W} {c s : Nat}, pq_Rd_isHeader_70 E mc ms Post G c s → ∀ {H : Heap} {locs : List Loc} {ls : Array Slot}, wo_Se E G H → va_S (en_A E) s₀.heap H locs → lx_has ls 2 [] → c ≤ mc → s ≤ ms → W p l e R s₀ m args below meth cd H locs c s (MQ below (va_Qi Post (wo_B E) (en_A E)) args s₀ mc ms (en_A E)) (F0 m 70 ls []) := by
  intro G c s hw H locs ls hG hS hl hcc hss
  dsimp only [pq_Rd_isHeader_70] at hw
  have hx := hC.1
  have hb := hC.2.1
  refine lv_iconst (v := (0 : Int32)) hx hb dq_Rd_isHeader_70 rfl ?_
  exact wo_zret hC wo_z0 hG hS hcc hss hw dq_Rd_isHeader_71
set_option maxRecDepth 100000 in
set_option maxHeartbeats 4000000 in
theorem tq_Rd_isHeader_42 {p : Program} {l : Launch} {e : Env} {R : Room} {s₀ : State} {m : MethodId} {args : Array Value} {below : List Frame} {meth : Method} {cd : Code} {E : wo_E} {mc ms : Nat} {Post : Int32 → wo_W → Prop} (hC : wo_Cx E "EdgeCache$Reader" prog_5_method_8_code 2 4 85 ((Option.some Jvm.ClassFile.FieldType.boolean)) "isHeader" mc ms p R s₀ m args meth cd) : ∀ n : Nat, ∀ {G : wo_W} {c s : Nat} {x0 : Option Nat} {x1 : Int32}, pq_Rd_isHeader_42 E mc ms Post n G c s x0 x1 → ∀ {H : Heap} {locs : List Loc} {ls : Array Slot}, wo_Se E G H → va_S (en_A E) s₀.heap H locs → lx_has ls 2 [(0, 1, va_rf x0), (1, 1, .int x1)] → c ≤ mc → s ≤ ms → W p l e R s₀ m args below meth cd H locs c s (MQ below (va_Qi Post (wo_B E) (en_A E)) args s₀ mc ms (en_A E)) (F0 m 42 ls []) := by
  intro n
  induction n with
  | zero => intro G c s x0 x1 hw; exact hw.elim
  | succ n ih =>
    intro G c s x0 x1 hw H locs ls hG hS hl hcc hss
    dsimp only [pq_Rd_isHeader_42] at hw
    have hx := hC.1
    have hb := hC.2.1
    refine lv_iload_n hx hb dq_Rd_isHeader_42 rfl (lx_at hl 1 rfl) ?_
    refine lx_aloadR_n hx hb dq_Rd_isHeader_43 rfl (lx_at hl 0 rfl) ?_
    obtain ⟨a1, rfl, hw⟩ := hw
    obtain ⟨t2, hw⟩ := hw
    obtain ⟨mc3, ms4, hc1, hs1, hw⟩ := hw
    refine va_calli (wo_runV hC lq_Rd_119 (mq_St_length hw) hG hS t2 rfl (lx_sz hl) rfl (lx_rm (Nat.le_of_ble_eq_true rfl)) (by decide) dq_Rd_isHeader_44 ⟨hc1, hs1⟩) hS (fun _ _ h => h) (fun _ h => h) (fun v6 G5 t H locs ht hvm hw' hB _ _ hS => ?_)
    clear hw
    have hw := hw'
    clear hw'
    replace hG := wo_bk ht hB
    replace hcc := hc1
    replace hss := hs1
    refine lv_icmp_ge (tgt := 78) hx hb dq_Rd_isHeader_47 rfl (fun h => ?_) (fun h => ?_)
    · replace hw := hw.1 h
      refine lv_iconst (v := (1 : Int32)) hx hb dq_Rd_isHeader_78 rfl ?_
      exact wo_zret hC wo_z1 hG hS hcc hss hw dq_Rd_isHeader_79
    · replace hw := hw.2 h
      refine lv_aload_n hx hb dq_Rd_isHeader_50 rfl (lx_at hl 0 rfl) ?_
      refine lv_iload_n hx hb dq_Rd_isHeader_51 rfl (lx_at hl 1 rfl) ?_
      obtain ⟨t7, hw⟩ := hw
      obtain ⟨mc8, ms9, hc1, hs1, hw⟩ := hw
      refine va_calli (wo_runV hC lq_Rd_124 (mq_St_charAt hw) hG hS t7 rfl (lx_sz hl) rfl (Nat.zero_le _) (by decide) dq_Rd_isHeader_52 ⟨hc1, hs1⟩) hS (fun _ _ h => h) (fun _ h => h) (fun v11 G10 t H locs ht hvm hw' hB _ _ hS => ?_)
      clear hw
      have hw := hw'
      clear hw'
      replace hG := wo_bk ht hB
      replace hcc := hc1
      replace hss := hs1
      refine lv_bipush (v := (32 : Int32)) hx hb dq_Rd_isHeader_55 rfl ?_
      refine lv_icmp_lt (tgt := 70) hx hb dq_Rd_isHeader_57 rfl (fun h => ?_) (fun h => ?_)
      · replace hw := hw.1 h
        exact tq_Rd_isHeader_70 hC hw hG hS (lx_sub hl [] rfl) hcc hss
      · replace hw := hw.2 h
        refine lv_aload_n hx hb dq_Rd_isHeader_60 rfl (lx_at hl 0 rfl) ?_
        refine lv_iload_n hx hb dq_Rd_isHeader_61 rfl (lx_at hl 1 rfl) ?_
        obtain ⟨t12, hw⟩ := hw
        obtain ⟨mc13, ms14, hc1, hs1, hw⟩ := hw
        refine va_calli (wo_runV hC lq_Rd_124 (mq_St_charAt hw) hG hS t12 rfl (lx_sz hl) rfl (Nat.zero_le _) (by decide) dq_Rd_isHeader_62 ⟨hc1, hs1⟩) hS (fun _ _ h => h) (fun _ h => h) (fun v16 G15 t H locs ht hvm hw' hB _ _ hS => ?_)
        clear hw
        have hw := hw'
        clear hw'
        replace hG := wo_bk ht hB
        replace hcc := hc1
        replace hss := hs1
        refine lv_bipush (v := (126 : Int32)) hx hb dq_Rd_isHeader_65 rfl ?_
        refine lv_icmp_le (tgt := 72) hx hb dq_Rd_isHeader_67 rfl (fun h => ?_) (fun h => ?_)
        · replace hw := hw.1 h
          refine lx_iinc (k := 1) (v := (x1 + (1 : Int32))) (lv' := [(1, 1, .int (x1 + (1 : Int32))), (0, 1, .ref a1)]) hx hb dq_Rd_isHeader_72 hl rfl rfl (by decide) rfl (fun ls hl' => ?_)
          clear hl
          have hl := hl'
          clear hl'
          refine lv_goto (tgt := 42) hx hb dq_Rd_isHeader_75 rfl ?_
          exact ih hw hG hS (lx_sub hl [1, 0] rfl) hcc hss
        · replace hw := hw.2 h
          exact tq_Rd_isHeader_70 hC hw hG hS (lx_sub hl [] rfl) hcc hss
set_option maxRecDepth 100000 in
set_option maxHeartbeats 4000000 in
theorem tq_Rd_isHeader_0 {p : Program} {l : Launch} {e : Env} {R : Room} {s₀ : State} {m : MethodId} {args : Array Value} {below : List Frame} {meth : Method} {cd : Code} {E : wo_E} {mc ms : Nat} {Post : Int32 → wo_W → Prop} (hC : wo_Cx E "EdgeCache$Reader" prog_5_method_8_code 2 4 85 ((Option.some Jvm.ClassFile.FieldType.boolean)) "isHeader" mc ms p R s₀ m args meth cd) : ∀ {G : wo_W} {c s : Nat} {x0 : Option Nat}, pq_Rd_isHeader_0 E mc ms Post G c s x0 → ∀ {H : Heap} {locs : List Loc} {ls : Array Slot}, wo_Se E G H → va_S (en_A E) s₀.heap H locs → lx_has ls 2 [(0, 1, va_rf x0)] → c ≤ mc → s ≤ ms → W p l e R s₀ m args below meth cd H locs c s (MQ below (va_Qi Post (wo_B E) (en_A E)) args s₀ mc ms (en_A E)) (F0 m 0 ls []) := by
  intro G c s x0 hw H locs ls hG hS hl hcc hss
  dsimp only [pq_Rd_isHeader_0] at hw
  have hx := hC.1
  have hb := hC.2.1
  refine lx_aloadR_n hx hb dq_Rd_isHeader_0 rfl (lx_at hl 0 rfl) ?_
  obtain ⟨a1, rfl, hw⟩ := hw
  obtain ⟨t2, hw⟩ := hw
  obtain ⟨mc3, ms4, hc1, hs1, hw⟩ := hw
  refine va_calli (wo_runV hC lq_Rd_119 (mq_St_length hw) hG hS t2 rfl (lx_sz hl) rfl (Nat.zero_le _) (by decide) dq_Rd_isHeader_1 ⟨hc1, hs1⟩) hS (fun _ _ h => h) (fun _ h => h) (fun v6 G5 t H locs ht hvm hw' hB _ _ hS => ?_)
  clear hw
  have hw := hw'
  clear hw'
  replace hG := wo_bk ht hB
  replace hcc := hc1
  replace hss := hs1
  refine lv_iconst (v := (2 : Int32)) hx hb dq_Rd_isHeader_4 rfl ?_
  refine lv_icmp_lt (tgt := 38) hx hb dq_Rd_isHeader_5 rfl (fun h => ?_) (fun h => ?_)
  · replace hw := hw.1 h
    exact tq_Rd_isHeader_38 hC hw hG hS (lx_sub hl [] rfl) hcc hss
  · replace hw := hw.2 h
    refine lv_aload_n hx hb dq_Rd_isHeader_8 rfl (lx_at hl 0 rfl) ?_
    refine lv_iconst (v := (0 : Int32)) hx hb dq_Rd_isHeader_9 rfl ?_
    obtain ⟨t7, hw⟩ := hw
    obtain ⟨mc8, ms9, hc1, hs1, hw⟩ := hw
    refine va_calli (wo_runV hC lq_Rd_124 (mq_St_charAt hw) hG hS t7 rfl (lx_sz hl) rfl (Nat.zero_le _) (by decide) dq_Rd_isHeader_10 ⟨hc1, hs1⟩) hS (fun _ _ h => h) (fun _ h => h) (fun v11 G10 t H locs ht hvm hw' hB _ _ hS => ?_)
    clear hw
    have hw := hw'
    clear hw'
    replace hG := wo_bk ht hB
    replace hcc := hc1
    replace hss := hs1
    refine lv_bipush (v := (65 : Int32)) hx hb dq_Rd_isHeader_13 rfl ?_
    refine lv_icmp_lt (tgt := 38) hx hb dq_Rd_isHeader_15 rfl (fun h => ?_) (fun h => ?_)
    · replace hw := hw.1 h
      exact tq_Rd_isHeader_38 hC hw hG hS (lx_sub hl [] rfl) hcc hss
    · replace hw := hw.2 h
      refine lv_aload_n hx hb dq_Rd_isHeader_18 rfl (lx_at hl 0 rfl) ?_
      refine lv_iconst (v := (0 : Int32)) hx hb dq_Rd_isHeader_19 rfl ?_
      obtain ⟨t12, hw⟩ := hw
      obtain ⟨mc13, ms14, hc1, hs1, hw⟩ := hw
      refine va_calli (wo_runV hC lq_Rd_124 (mq_St_charAt hw) hG hS t12 rfl (lx_sz hl) rfl (Nat.zero_le _) (by decide) dq_Rd_isHeader_20 ⟨hc1, hs1⟩) hS (fun _ _ h => h) (fun _ h => h) (fun v16 G15 t H locs ht hvm hw' hB _ _ hS => ?_)
      clear hw
      have hw := hw'
      clear hw'
      replace hG := wo_bk ht hB
      replace hcc := hc1
      replace hss := hs1
      refine lv_bipush (v := (90 : Int32)) hx hb dq_Rd_isHeader_23 rfl ?_
      refine lv_icmp_gt (tgt := 38) hx hb dq_Rd_isHeader_25 rfl (fun h => ?_) (fun h => ?_)
      · replace hw := hw.1 h
        exact tq_Rd_isHeader_38 hC hw hG hS (lx_sub hl [] rfl) hcc hss
      · replace hw := hw.2 h
        refine lv_aload_n hx hb dq_Rd_isHeader_28 rfl (lx_at hl 0 rfl) ?_
        refine lv_iconst (v := (1 : Int32)) hx hb dq_Rd_isHeader_29 rfl ?_
        obtain ⟨t17, hw⟩ := hw
        obtain ⟨mc18, ms19, hc1, hs1, hw⟩ := hw
        refine va_calli (wo_runV hC lq_Rd_124 (mq_St_charAt hw) hG hS t17 rfl (lx_sz hl) rfl (Nat.zero_le _) (by decide) dq_Rd_isHeader_30 ⟨hc1, hs1⟩) hS (fun _ _ h => h) (fun _ h => h) (fun v21 G20 t H locs ht hvm hw' hB _ _ hS => ?_)
        clear hw
        have hw := hw'
        clear hw'
        replace hG := wo_bk ht hB
        replace hcc := hc1
        replace hss := hs1
        refine lv_bipush (v := (58 : Int32)) hx hb dq_Rd_isHeader_33 rfl ?_
        refine lv_icmp_eq (tgt := 40) hx hb dq_Rd_isHeader_35 rfl (fun h => ?_) (fun h => ?_)
        · replace hw := hw.1 h
          refine lv_iconst (v := (2 : Int32)) hx hb dq_Rd_isHeader_40 rfl ?_
          refine lx_istore_n (lv' := [(1, 1, .int (2 : Int32)), (0, 1, .ref a1)]) hx hb dq_Rd_isHeader_41 rfl hl (by decide) rfl (fun ls hl' => ?_)
          clear hl
          have hl := hl'
          clear hl'
          obtain ⟨n1, hw⟩ := hw
          exact tq_Rd_isHeader_42 hC n1 hw hG hS (lx_sub hl [1, 0] rfl) hcc hss
        · replace hw := hw.2 h
          exact tq_Rd_isHeader_38 hC hw hG hS (lx_sub hl [] rfl) hcc hss
set_option maxHeartbeats 4000000 in
theorem mq_Rd_isHeader {l : Launch} {E : wo_E} {mc ms : Nat} {Post : Int32 → wo_W → Prop} {G : wo_W} {x0 : Option Nat} (hw : pq_Rd_isHeader E mc ms Post G x0) : Met l yq_Rd_isHeader (Cond.code yq_Rd_isHeader prog_5_method_8_code 2 ((Option.some Jvm.ClassFile.FieldType.boolean)) :: vw_WG) { frames := 4, cells := mc, slots := ms, locals := 85 } (va_Pc [va_rf x0] (wo_Ok E G)) (va_Qi Post (wo_B E) (en_A E)) mc ms (en_A E) := by
  unfold pq_Rd_isHeader at hw
  exact wo_met [(1, va_rf x0)] rfl (by decide) (fun q hq => by simp only [List.mem_cons, List.not_mem_nil, or_false] at hq; rcases hq with rfl <;> first | rfl | exact lx_cR _) (Nat.le_of_ble_eq_true rfl) (fun p e R s m args below meth cd ls hC hG hS hl => tq_Rd_isHeader_0 hC hw hG hS (lx_sub hl [0] rfl) (Nat.zero_le _) (Nat.zero_le _))

theorem dq_Rd_takeLength_0 : decode prog_5_method_9_code 0 = .ok (.aload_n 1, 1) := by decide +kernel
theorem dq_Rd_takeLength_1 : decode prog_5_method_9_code 1 = .ok (.invokevirtual 119, 3) := by decide +kernel
theorem dq_Rd_takeLength_4 : decode prog_5_method_9_code 4 = .ok (.iconst 2, 1) := by decide +kernel
theorem dq_Rd_takeLength_5 : decode prog_5_method_9_code 5 = .ok (.if_icmp .le 7, 3) := by decide +kernel
theorem dq_Rd_takeLength_8 : decode prog_5_method_9_code 8 = .ok (.iconst (-1), 1) := by decide +kernel
theorem dq_Rd_takeLength_9 : decode prog_5_method_9_code 9 = .ok (.goto 12, 3) := by decide +kernel
theorem dq_Rd_takeLength_12 : decode prog_5_method_9_code 12 = .ok (.aload_n 1, 1) := by decide +kernel
theorem dq_Rd_takeLength_13 : decode prog_5_method_9_code 13 = .ok (.iconst 0, 1) := by decide +kernel
theorem dq_Rd_takeLength_14 : decode prog_5_method_9_code 14 = .ok (.aload_n 1, 1) := by decide +kernel
theorem dq_Rd_takeLength_15 : decode prog_5_method_9_code 15 = .ok (.invokevirtual 119, 3) := by decide +kernel
theorem dq_Rd_takeLength_18 : decode prog_5_method_9_code 18 = .ok (.invokestatic 141, 3) := by decide +kernel
theorem dq_Rd_takeLength_21 : decode prog_5_method_9_code 21 = .ok (.istore_n 2, 1) := by decide +kernel
theorem dq_Rd_takeLength_22 : decode prog_5_method_9_code 22 = .ok (.iload_n 2, 1) := by decide +kernel
theorem dq_Rd_takeLength_23 : decode prog_5_method_9_code 23 = .ok (.iconst (-1), 1) := by decide +kernel
theorem dq_Rd_takeLength_24 : decode prog_5_method_9_code 24 = .ok (.if_icmp .eq 19, 3) := by decide +kernel
theorem dq_Rd_takeLength_27 : decode prog_5_method_9_code 27 = .ok (.aload_n 0, 1) := by decide +kernel
theorem dq_Rd_takeLength_28 : decode prog_5_method_9_code 28 = .ok (.getfield 35, 3) := by decide +kernel
theorem dq_Rd_takeLength_31 : decode prog_5_method_9_code 31 = .ok (.iconst (-1), 1) := by decide +kernel
theorem dq_Rd_takeLength_32 : decode prog_5_method_9_code 32 = .ok (.if_icmp .eq 15, 3) := by decide +kernel
theorem dq_Rd_takeLength_35 : decode prog_5_method_9_code 35 = .ok (.aload_n 0, 1) := by decide +kernel
theorem dq_Rd_takeLength_36 : decode prog_5_method_9_code 36 = .ok (.getfield 35, 3) := by decide +kernel
theorem dq_Rd_takeLength_39 : decode prog_5_method_9_code 39 = .ok (.iload_n 2, 1) := by decide +kernel
theorem dq_Rd_takeLength_40 : decode prog_5_method_9_code 40 = .ok (.if_icmp .eq 7, 3) := by decide +kernel
theorem dq_Rd_takeLength_43 : decode prog_5_method_9_code 43 = .ok (.sipush 400, 3) := by decide +kernel
theorem dq_Rd_takeLength_46 : decode prog_5_method_9_code 46 = .ok (.ireturn, 1) := by decide +kernel
theorem dq_Rd_takeLength_47 : decode prog_5_method_9_code 47 = .ok (.aload_n 0, 1) := by decide +kernel
theorem dq_Rd_takeLength_48 : decode prog_5_method_9_code 48 = .ok (.iload_n 2, 1) := by decide +kernel
theorem dq_Rd_takeLength_49 : decode prog_5_method_9_code 49 = .ok (.putfield 35, 3) := by decide +kernel
theorem dq_Rd_takeLength_52 : decode prog_5_method_9_code 52 = .ok (.iconst 0, 1) := by decide +kernel
theorem dq_Rd_takeLength_53 : decode prog_5_method_9_code 53 = .ok (.ireturn, 1) := by decide +kernel
set_option maxRecDepth 100000 in
def pq_Rd_takeLength_43 (E : wo_E) (mc ms : Nat) (Post : Int32 → wo_W → Prop) (G : wo_W) (c s : Nat) : Prop := Post (400 : Int32) G
set_option maxRecDepth 100000 in
def pq_Rd_takeLength_47 (E : wo_E) (mc ms : Nat) (Post : Int32 → wo_W → Prop) (G : wo_W) (c s : Nat) (x0 : Nat) (x2 : Int32) : Prop := wo_ty G x0 = 8 ∧ en_bs E ≤ x0 ∧ ∀ G3 : wo_W, G3 = wo_si G 454 x0 x2 → 
  Post (0 : Int32) G3
set_option maxRecDepth 100000 in
def pq_Rd_takeLength_21 (E : wo_E) (mc ms : Nat) (Post : Int32 → wo_W → Prop) (G : wo_W) (c s : Nat) (x0 : Nat) (y0 : Int32) : Prop := ((y0 = (-1 : Int32) → pq_Rd_takeLength_43 E mc ms Post G c s) ∧
  (¬ y0 = (-1 : Int32) → wo_ty G x0 = 8 ∧ (((wo_gi G 454 x0) = (-1 : Int32) → pq_Rd_takeLength_47 E mc ms Post G c s x0 y0) ∧
    (¬ (wo_gi G 454 x0) = (-1 : Int32) → (((wo_gi G 454 x0) = y0 → pq_Rd_takeLength_47 E mc ms Post G c s x0 y0) ∧
      (¬ (wo_gi G 454 x0) = y0 → pq_Rd_takeLength_43 E mc ms Post G c s))))))
set_option maxRecDepth 100000 in
def pq_Rd_takeLength_0 (E : wo_E) (mc ms : Nat) (Post : Int32 → wo_W → Prop) (G : wo_W) (c s : Nat) (x0 : Nat) (x1 : Option Nat) : Prop := ∃ a1 : Nat, x1 = some a1 ∧ wo_ty G a1 = 10 ∧ ∃ mc3 ms4 : Nat, (c + mc3) ≤ mc ∧ (s + ms4) ≤ ms ∧ pq_St_length E mc3 ms4 (fun v6 G5 => 
  ((v6 ≤ (2 : Int32) → wo_ty G5 a1 = 10 ∧ ∃ mc8 ms9 : Nat, ((c + mc3) + mc8) ≤ mc ∧ ((s + ms4) + ms9) ≤ ms ∧ pq_St_length E mc8 ms9 (fun v11 G10 => 
      ∃ mc12 ms13 : Nat, (((c + mc3) + mc8) + mc12) ≤ mc ∧ (((s + ms4) + ms9) + ms13) ≤ ms ∧ pq_Tx_whole E mc12 ms13 (fun v15 G14 => 
        pq_Rd_takeLength_21 E mc ms Post G14 (((c + mc3) + mc8) + mc12) (((s + ms4) + ms9) + ms13) x0 v15) G10 (some a1) (0 : Int32) v11) G5 a1) ∧
    (¬ v6 ≤ (2 : Int32) → pq_Rd_takeLength_21 E mc ms Post G5 (c + mc3) (s + ms4) x0 (-1 : Int32)))) G a1
def pq_Rd_takeLength (E : wo_E) (mc ms : Nat) (Post : Int32 → wo_W → Prop) (G : wo_W) (x0 : Nat) (x1 : Option Nat) : Prop := pq_Rd_takeLength_0 E mc ms Post G 0 0 x0 x1
set_option maxRecDepth 100000 in
set_option maxHeartbeats 4000000 in
theorem tq_Rd_takeLength_43 {p : Program} {l : Launch} {e : Env} {R : Room} {s₀ : State} {m : MethodId} {args : Array Value} {below : List Frame} {meth : Method} {cd : Code} {E : wo_E} {mc ms : Nat} {Post : Int32 → wo_W → Prop} (hC : wo_Cx E "EdgeCache$Reader" prog_5_method_9_code 3 5 110 ((Option.some Jvm.ClassFile.FieldType.int)) "takeLength" mc ms p R s₀ m args meth cd) : ∀ {G : wo_W} {c s : Nat}, pq_Rd_takeLength_43 E mc ms Post G c s → ∀ {H : Heap} {locs : List Loc} {ls : Array Slot}, wo_Se E G H → va_S (en_A E) s₀.heap H locs → lx_has ls 3 [] → c ≤ mc → s ≤ ms → W p l e R s₀ m args below meth cd H locs c s (MQ below (va_Qi Post (wo_B E) (en_A E)) args s₀ mc ms (en_A E)) (F0 m 43 ls []) := by
  intro G c s hw H locs ls hG hS hl hcc hss
  dsimp only [pq_Rd_takeLength_43] at hw
  have hx := hC.1
  have hb := hC.2.1
  refine lv_sipush (v := (400 : Int32)) hx hb dq_Rd_takeLength_43 rfl ?_
  exact wo_iret hC hG hS hcc hss hw dq_Rd_takeLength_46
set_option maxRecDepth 100000 in
set_option maxHeartbeats 4000000 in
theorem tq_Rd_takeLength_47 {p : Program} {l : Launch} {e : Env} {R : Room} {s₀ : State} {m : MethodId} {args : Array Value} {below : List Frame} {meth : Method} {cd : Code} {E : wo_E} {mc ms : Nat} {Post : Int32 → wo_W → Prop} (hC : wo_Cx E "EdgeCache$Reader" prog_5_method_9_code 3 5 110 ((Option.some Jvm.ClassFile.FieldType.int)) "takeLength" mc ms p R s₀ m args meth cd) : ∀ {G : wo_W} {c s : Nat} {x0 : Nat} {x2 : Int32}, pq_Rd_takeLength_47 E mc ms Post G c s x0 x2 → ∀ {H : Heap} {locs : List Loc} {ls : Array Slot}, wo_Se E G H → va_S (en_A E) s₀.heap H locs → lx_has ls 3 [(0, 1, .ref x0), (2, 1, .int x2)] → c ≤ mc → s ≤ ms → W p l e R s₀ m args below meth cd H locs c s (MQ below (va_Qi Post (wo_B E) (en_A E)) args s₀ mc ms (en_A E)) (F0 m 47 ls []) := by
  intro G c s x0 x2 hw H locs ls hG hS hl hcc hss
  dsimp only [pq_Rd_takeLength_47] at hw
  have hx := hC.1
  have hb := hC.2.1
  refine lv_aload_n hx hb dq_Rd_takeLength_47 rfl (lx_at hl 0 rfl) ?_
  refine lv_iload_n hx hb dq_Rd_takeLength_48 rfl (lx_at hl 1 rfl) ?_
  obtain ⟨t1, hw⟩ := hw
  obtain ⟨h2, hw⟩ := hw
  refine wo_putI hC fq_Rd_35 (Or.inl rfl) rfl (wo_ok_int _) hG hS t1 h2 dq_Rd_takeLength_49 (fun G3 H locs e4 hG hS => ?_)
  replace hw := hw G3 e4
  refine lv_iconst (v := (0 : Int32)) hx hb dq_Rd_takeLength_52 rfl ?_
  exact wo_iret hC hG hS hcc hss hw dq_Rd_takeLength_53
set_option maxRecDepth 100000 in
set_option maxHeartbeats 4000000 in
theorem tq_Rd_takeLength_21 {p : Program} {l : Launch} {e : Env} {R : Room} {s₀ : State} {m : MethodId} {args : Array Value} {below : List Frame} {meth : Method} {cd : Code} {E : wo_E} {mc ms : Nat} {Post : Int32 → wo_W → Prop} (hC : wo_Cx E "EdgeCache$Reader" prog_5_method_9_code 3 5 110 ((Option.some Jvm.ClassFile.FieldType.int)) "takeLength" mc ms p R s₀ m args meth cd) : ∀ {G : wo_W} {c s : Nat} {x0 : Nat} {y0 : Int32}, pq_Rd_takeLength_21 E mc ms Post G c s x0 y0 → ∀ {H : Heap} {locs : List Loc} {ls : Array Slot}, wo_Se E G H → va_S (en_A E) s₀.heap H locs → lx_has ls 3 [(0, 1, .ref x0)] → c ≤ mc → s ≤ ms → W p l e R s₀ m args below meth cd H locs c s (MQ below (va_Qi Post (wo_B E) (en_A E)) args s₀ mc ms (en_A E)) (F0 m 21 ls [.int y0]) := by
  intro G c s x0 y0 hw H locs ls hG hS hl hcc hss
  dsimp only [pq_Rd_takeLength_21] at hw
  have hx := hC.1
  have hb := hC.2.1
  refine lx_istore_n (lv' := [(2, 1, .int y0), (0, 1, .ref x0)]) hx hb dq_Rd_takeLength_21 rfl hl (by decide) rfl (fun ls hl' => ?_)
  clear hl
  have hl := hl'
  clear hl'
  refine lv_iload_n hx hb dq_Rd_takeLength_22 rfl (lx_at hl 0 rfl) ?_
  refine lv_iconst (v := (-1 : Int32)) hx hb dq_Rd_takeLength_23 rfl ?_
  refine lv_icmp_eq (tgt := 43) hx hb dq_Rd_takeLength_24 rfl (fun h => ?_) (fun h => ?_)
  · replace hw := hw.1 h
    exact tq_Rd_takeLength_43 hC hw hG hS (lx_sub hl [] rfl) hcc hss
  · replace hw := hw.2 h
    refine lv_aload_n hx hb dq_Rd_takeLength_27 rfl (lx_at hl 1 rfl) ?_
    obtain ⟨t1, hw⟩ := hw
    refine wo_getI hC fq_Rd_35 rfl hG t1 dq_Rd_takeLength_28 ?_
    refine lv_iconst (v := (-1 : Int32)) hx hb dq_Rd_takeLength_31 rfl ?_
    refine lv_icmp_eq (tgt := 47) hx hb dq_Rd_takeLength_32 rfl (fun h => ?_) (fun h => ?_)
    · replace hw := hw.1 h
      exact tq_Rd_takeLength_47 hC hw hG hS (lx_sub hl [1, 0] rfl) hcc hss
    · replace hw := hw.2 h
      refine lv_aload_n hx hb dq_Rd_takeLength_35 rfl (lx_at hl 1 rfl) ?_
      refine wo_getI hC fq_Rd_35 rfl hG t1 dq_Rd_takeLength_36 ?_
      refine lv_iload_n hx hb dq_Rd_takeLength_39 rfl (lx_at hl 0 rfl) ?_
      refine lv_icmp_eq (tgt := 47) hx hb dq_Rd_takeLength_40 rfl (fun h => ?_) (fun h => ?_)
      · replace hw := hw.1 h
        exact tq_Rd_takeLength_47 hC hw hG hS (lx_sub hl [1, 0] rfl) hcc hss
      · replace hw := hw.2 h
        exact tq_Rd_takeLength_43 hC hw hG hS (lx_sub hl [] rfl) hcc hss
set_option maxRecDepth 100000 in
set_option maxHeartbeats 4000000 in
theorem tq_Rd_takeLength_0 {p : Program} {l : Launch} {e : Env} {R : Room} {s₀ : State} {m : MethodId} {args : Array Value} {below : List Frame} {meth : Method} {cd : Code} {E : wo_E} {mc ms : Nat} {Post : Int32 → wo_W → Prop} (hC : wo_Cx E "EdgeCache$Reader" prog_5_method_9_code 3 5 110 ((Option.some Jvm.ClassFile.FieldType.int)) "takeLength" mc ms p R s₀ m args meth cd) : ∀ {G : wo_W} {c s : Nat} {x0 : Nat} {x1 : Option Nat}, pq_Rd_takeLength_0 E mc ms Post G c s x0 x1 → ∀ {H : Heap} {locs : List Loc} {ls : Array Slot}, wo_Se E G H → va_S (en_A E) s₀.heap H locs → lx_has ls 3 [(0, 1, .ref x0), (1, 1, va_rf x1)] → c ≤ mc → s ≤ ms → W p l e R s₀ m args below meth cd H locs c s (MQ below (va_Qi Post (wo_B E) (en_A E)) args s₀ mc ms (en_A E)) (F0 m 0 ls []) := by
  intro G c s x0 x1 hw H locs ls hG hS hl hcc hss
  dsimp only [pq_Rd_takeLength_0] at hw
  have hx := hC.1
  have hb := hC.2.1
  refine lx_aloadR_n hx hb dq_Rd_takeLength_0 rfl (lx_at hl 1 rfl) ?_
  obtain ⟨a1, rfl, hw⟩ := hw
  obtain ⟨t2, hw⟩ := hw
  obtain ⟨mc3, ms4, hc1, hs1, hw⟩ := hw
  refine va_calli (wo_runV hC lq_Rd_119 (mq_St_length hw) hG hS t2 rfl (lx_sz hl) rfl (Nat.zero_le _) (by decide) dq_Rd_takeLength_1 ⟨hc1, hs1⟩) hS (fun _ _ h => h) (fun _ h => h) (fun v6 G5 t H locs ht hvm hw' hB _ _ hS => ?_)
  clear hw
  have hw := hw'
  clear hw'
  replace hG := wo_bk ht hB
  replace hcc := hc1
  replace hss := hs1
  refine lv_iconst (v := (2 : Int32)) hx hb dq_Rd_takeLength_4 rfl ?_
  refine lv_icmp_le (tgt := 12) hx hb dq_Rd_takeLength_5 rfl (fun h => ?_) (fun h => ?_)
  · replace hw := hw.1 h
    refine lv_aload_n hx hb dq_Rd_takeLength_12 rfl (lx_at hl 1 rfl) ?_
    refine lv_iconst (v := (0 : Int32)) hx hb dq_Rd_takeLength_13 rfl ?_
    refine lv_aload_n hx hb dq_Rd_takeLength_14 rfl (lx_at hl 1 rfl) ?_
    obtain ⟨t7, hw⟩ := hw
    obtain ⟨mc8, ms9, hc1, hs1, hw⟩ := hw
    refine va_calli (wo_runV hC lq_Rd_119 (mq_St_length hw) hG hS t7 rfl (lx_sz hl) rfl (lx_rm (Nat.le_of_ble_eq_true rfl)) (by decide) dq_Rd_takeLength_15 ⟨hc1, hs1⟩) hS (fun _ _ h => h) (fun _ h => h) (fun v11 G10 t H locs ht hvm hw' hB _ _ hS => ?_)
    clear hw
    have hw := hw'
    clear hw'
    replace hG := wo_bk ht hB
    replace hcc := hc1
    replace hss := hs1
    obtain ⟨mc12, ms13, hc1, hs1, hw⟩ := hw
    refine va_calli (wo_runS hC lq_Rd_141 (mq_Tx_whole hw) hG hS rfl (lx_sz hl) rfl (Nat.zero_le _) (by decide) dq_Rd_takeLength_18 ⟨hc1, hs1⟩) hS (fun _ _ h => h) (fun _ h => h) (fun v15 G14 t H locs ht hvm hw' hB _ _ hS => ?_)
    clear hw
    have hw := hw'
    clear hw'
    replace hG := wo_bk ht hB
    replace hcc := hc1
    replace hss := hs1
    exact tq_Rd_takeLength_21 hC hw hG hS (lx_sub hl [0] rfl) hcc hss
  · replace hw := hw.2 h
    refine lv_iconst (v := (-1 : Int32)) hx hb dq_Rd_takeLength_8 rfl ?_
    refine lv_goto (tgt := 21) hx hb dq_Rd_takeLength_9 rfl ?_
    exact tq_Rd_takeLength_21 hC hw hG hS (lx_sub hl [0] rfl) hcc hss
set_option maxHeartbeats 4000000 in
theorem mq_Rd_takeLength {l : Launch} {E : wo_E} {mc ms : Nat} {Post : Int32 → wo_W → Prop} {G : wo_W} {x0 : Nat} {x1 : Option Nat} (hw : pq_Rd_takeLength E mc ms Post G x0 x1) : Met l yq_Rd_takeLength (Cond.code yq_Rd_takeLength prog_5_method_9_code 3 ((Option.some Jvm.ClassFile.FieldType.int)) :: vw_WG) { frames := 5, cells := mc, slots := ms, locals := 110 } (va_Pc [.ref x0, va_rf x1] (wo_Ok E G)) (va_Qi Post (wo_B E) (en_A E)) mc ms (en_A E) := by
  unfold pq_Rd_takeLength at hw
  exact wo_met [(1, .ref x0), (1, va_rf x1)] rfl (by decide) (fun q hq => by simp only [List.mem_cons, List.not_mem_nil, or_false] at hq; rcases hq with rfl | rfl <;> first | rfl | exact lx_cR _) (Nat.le_of_ble_eq_true rfl) (fun p e R s m args below meth cd ls hC hG hS hl => tq_Rd_takeLength_0 hC hw hG hS (lx_sub hl [0, 1] rfl) (Nat.zero_le _) (Nat.zero_le _))
