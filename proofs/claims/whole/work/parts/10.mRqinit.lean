theorem dq_Rq_init_0 : decode prog_7_method_1_code 0 = .ok (.aload_n 0, 1) := by decide +kernel
theorem dq_Rq_init_1 : decode prog_7_method_1_code 1 = .ok (.invokespecial 3, 3) := by decide +kernel
theorem dq_Rq_init_4 : decode prog_7_method_1_code 4 = .ok (.aload_n 0, 1) := by decide +kernel
theorem dq_Rq_init_5 : decode prog_7_method_1_code 5 = .ok (.iconst (-1), 1) := by decide +kernel
theorem dq_Rq_init_6 : decode prog_7_method_1_code 6 = .ok (.putfield 9, 3) := by decide +kernel
theorem dq_Rq_init_9 : decode prog_7_method_1_code 9 = .ok (.aload_n 0, 1) := by decide +kernel
theorem dq_Rq_init_10 : decode prog_7_method_1_code 10 = .ok (.ldc 15, 2) := by decide +kernel
theorem dq_Rq_init_12 : decode prog_7_method_1_code 12 = .ok (.putfield 17, 3) := by decide +kernel
theorem dq_Rq_init_15 : decode prog_7_method_1_code 15 = .ok (.aload_n 0, 1) := by decide +kernel
theorem dq_Rq_init_16 : decode prog_7_method_1_code 16 = .ok (.ldc 15, 2) := by decide +kernel
theorem dq_Rq_init_18 : decode prog_7_method_1_code 18 = .ok (.putfield 21, 3) := by decide +kernel
theorem dq_Rq_init_21 : decode prog_7_method_1_code 21 = .ok (.return_, 1) := by decide +kernel
set_option maxRecDepth 100000 in
def pq_Rq_init_0 (E : wo_E) (mc ms : Nat) (Post : wo_W → Prop) (G : wo_W) (c s : Nat) (x0 : Nat) : Prop := wo_ty G x0 = 9 ∧ en_bs E ≤ x0 ∧ ∀ G3 : wo_W, G3 = wo_si G 512 x0 (-1 : Int32) → 
  en_bs E ≤ x0 ∧ ∀ G6 : wo_W, G6 = wo_sr G3 513 x0 (some (en_str E 0)) → 
  en_bs E ≤ x0 ∧ ∀ G9 : wo_W, G9 = wo_sr G6 514 x0 (some (en_str E 0)) → 
  Post G9
def pq_Rq_init (E : wo_E) (mc ms : Nat) (Post : wo_W → Prop) (G : wo_W) (x0 : Nat) : Prop := pq_Rq_init_0 E mc ms Post G 0 0 x0
set_option maxRecDepth 100000 in
set_option maxHeartbeats 4000000 in
theorem tq_Rq_init_0 {p : Program} {l : Launch} {e : Env} {R : Room} {s₀ : State} {m : MethodId} {args : Array Value} {below : List Frame} {meth : Method} {cd : Code} {E : wo_E} {mc ms : Nat} {Post : wo_W → Prop} (hC : wo_Cx E "EdgeCache$Request" prog_7_method_1_code 1 1 28 ((Option.none : Option Jvm.ClassFile.FieldType)) "<init>" mc ms p R s₀ m args meth cd) : ∀ {G : wo_W} {c s : Nat} {x0 : Nat}, pq_Rq_init_0 E mc ms Post G c s x0 → ∀ {H : Heap} {locs : List Loc} {ls : Array Slot}, wo_Se E G H → va_S (en_A E) s₀.heap H locs → lx_has ls 1 [(0, 1, .ref x0)] → c ≤ mc → s ≤ ms → W p l e R s₀ m args below meth cd H locs c s (MQ below (va_Qv Post (wo_B E) (en_A E)) args s₀ mc ms (en_A E)) (F0 m 0 ls []) := by
  intro G c s x0 hw H locs ls hG hS hl hcc hss
  dsimp only [pq_Rq_init_0] at hw
  have hx := hC.1
  have hb := hC.2.1
  refine lv_aload_n hx hb dq_Rq_init_0 rfl (lx_at hl 0 rfl) ?_
  refine wo_objI hC lq_Rq_3 (lx_sz hl) (by decide) (lx_rk (Nat.le_of_ble_eq_true rfl)) dq_Rq_init_1 ?_
  refine lv_aload_n hx hb dq_Rq_init_4 rfl (lx_at hl 0 rfl) ?_
  refine lv_iconst (v := (-1 : Int32)) hx hb dq_Rq_init_5 rfl ?_
  obtain ⟨t1, hw⟩ := hw
  obtain ⟨h2, hw⟩ := hw
  refine wo_putI hC fq_Rq_9 (Or.inl rfl) rfl (wo_ok_int _) hG hS t1 h2 dq_Rq_init_6 (fun G3 H locs e4 hG hS => ?_)
  replace hw := hw G3 e4
  refine lv_aload_n hx hb dq_Rq_init_9 rfl (lx_at hl 0 rfl) ?_
  refine wo_ldcS hC gq_Rq_15 dq_Rq_init_10 ?_
  obtain ⟨h5, hw⟩ := hw
  refine wo_putR (x := (some (en_str E 0))) hC fq_Rq_17 (Or.inl rfl) rfl hG hS (ty_si e4 t1) h5 dq_Rq_init_12 (fun G6 H locs e7 hG hS => ?_)
  replace hw := hw G6 e7
  refine lv_aload_n hx hb dq_Rq_init_15 rfl (lx_at hl 0 rfl) ?_
  refine wo_ldcS hC gq_Rq_15 dq_Rq_init_16 ?_
  obtain ⟨h8, hw⟩ := hw
  refine wo_putR (x := (some (en_str E 0))) hC fq_Rq_21 (Or.inl rfl) rfl hG hS (ty_sr e7 (ty_si e4 t1)) h8 dq_Rq_init_18 (fun G9 H locs e10 hG hS => ?_)
  replace hw := hw G9 e10
  exact wo_vret hC hG hS hcc hss hw dq_Rq_init_21
set_option maxHeartbeats 4000000 in
theorem mq_Rq_init {l : Launch} {E : wo_E} {mc ms : Nat} {Post : wo_W → Prop} {G : wo_W} {x0 : Nat} (hw : pq_Rq_init E mc ms Post G x0) : Met l yq_Rq_init (Cond.code yq_Rq_init prog_7_method_1_code 1 ((Option.none : Option Jvm.ClassFile.FieldType)) :: vw_WG) { frames := 1, cells := mc, slots := ms, locals := 28 } (va_Pc [.ref x0] (wo_Ok E G)) (va_Qv Post (wo_B E) (en_A E)) mc ms (en_A E) := by
  unfold pq_Rq_init at hw
  exact wo_met [(1, .ref x0)] rfl (by decide) (fun q hq => by simp only [List.mem_cons, List.not_mem_nil, or_false] at hq; rcases hq with rfl <;> first | rfl | exact lx_cR _) (Nat.le_of_ble_eq_true rfl) (fun p e R s m args below meth cd ls hC hG hS hl => tq_Rq_init_0 hC hw hG hS (lx_sub hl [0] rfl) (Nat.zero_le _) (Nat.zero_le _))

theorem dq_AB_init_0 : decode prog_16_method_2_code 0 = .ok (.aload_n 0, 1) := by decide +kernel
theorem dq_AB_init_1 : decode prog_16_method_2_code 1 = .ok (.invokespecial 3, 3) := by decide +kernel
theorem dq_AB_init_4 : decode prog_16_method_2_code 4 = .ok (.getstatic 18, 3) := by decide +kernel
theorem dq_AB_init_7 : decode prog_16_method_2_code 7 = .ok (.ifCond .eq 18, 3) := by decide +kernel
theorem dq_AB_init_10 : decode prog_16_method_2_code 10 = .ok (.aload_n 0, 1) := by decide +kernel
theorem dq_AB_init_11 : decode prog_16_method_2_code 11 = .ok (.iload_n 1, 1) := by decide +kernel
theorem dq_AB_init_12 : decode prog_16_method_2_code 12 = .ok (.newarray .byte, 2) := by decide +kernel
theorem dq_AB_init_14 : decode prog_16_method_2_code 14 = .ok (.putfield 15, 3) := by decide +kernel
theorem dq_AB_init_17 : decode prog_16_method_2_code 17 = .ok (.aload_n 0, 1) := by decide +kernel
theorem dq_AB_init_18 : decode prog_16_method_2_code 18 = .ok (.iconst 0, 1) := by decide +kernel
theorem dq_AB_init_19 : decode prog_16_method_2_code 19 = .ok (.putfield 22, 3) := by decide +kernel
theorem dq_AB_init_22 : decode prog_16_method_2_code 22 = .ok (.goto 16, 3) := by decide +kernel
theorem dq_AB_init_38 : decode prog_16_method_2_code 38 = .ok (.return_, 1) := by decide +kernel
set_option maxRecDepth 100000 in
def pq_AB_init_0 (E : wo_E) (mc ms : Nat) (Post : wo_W → Prop) (G : wo_W) (c s : Nat) (x0 : Nat) (x1 : Int32) : Prop := ¬ x1 < 0 ∧ x1.toNatClampNeg ≤ 65536 ∧ (c + 1) ≤ mc ∧ (s + x1.toNatClampNeg) ≤ ms ∧ ∀ q5 : Nat, wo_ty G q5 = 0 → en_bs E ≤ q5 → ∀ G8 : wo_W, G8 = wo_na G q5 65 x1.toNatClampNeg → 
  wo_ty G8 x0 = 5 ∧ en_bs E ≤ x0 ∧ ∀ G12 : wo_W, G12 = wo_sr G8 256 x0 (some q5) → 
  en_bs E ≤ x0 ∧ wo_okI .byte (0 : Int32) ∧ ∀ G16 : wo_W, G16 = wo_si G12 257 x0 (0 : Int32) → 
  Post G16
def pq_AB_init (E : wo_E) (mc ms : Nat) (Post : wo_W → Prop) (G : wo_W) (x0 : Nat) (x1 : Int32) : Prop := pq_AB_init_0 E mc ms Post G 0 0 x0 x1
set_option maxRecDepth 100000 in
set_option maxHeartbeats 4000000 in
theorem tq_AB_init_0 {p : Program} {l : Launch} {e : Env} {R : Room} {s₀ : State} {m : MethodId} {args : Array Value} {below : List Frame} {meth : Method} {cd : Code} {E : wo_E} {mc ms : Nat} {Post : wo_W → Prop} (hC : wo_Cx E "java/lang/AbstractStringBuilder" prog_16_method_2_code 2 1 28 ((Option.none : Option Jvm.ClassFile.FieldType)) "<init>" mc ms p R s₀ m args meth cd) : ∀ {G : wo_W} {c s : Nat} {x0 : Nat} {x1 : Int32}, pq_AB_init_0 E mc ms Post G c s x0 x1 → ∀ {H : Heap} {locs : List Loc} {ls : Array Slot}, wo_Se E G H → va_S (en_A E) s₀.heap H locs → lx_has ls 2 [(0, 1, .ref x0), (1, 1, .int x1)] → c ≤ mc → s ≤ ms → W p l e R s₀ m args below meth cd H locs c s (MQ below (va_Qv Post (wo_B E) (en_A E)) args s₀ mc ms (en_A E)) (F0 m 0 ls []) := by
  intro G c s x0 x1 hw H locs ls hG hS hl hcc hss
  dsimp only [pq_AB_init_0] at hw
  have hx := hC.1
  have hb := hC.2.1
  refine lv_aload_n hx hb dq_AB_init_0 rfl (lx_at hl 0 rfl) ?_
  refine wo_objI hC lq_AB_3 (lx_sz hl) (by decide) (lx_rk (Nat.le_of_ble_eq_true rfl)) dq_AB_init_1 ?_
  refine wo_gstI hC sq_AB_18 hS dq_AB_init_4 ?_
  refine lv_if_eq (tgt := 25) hx hb dq_AB_init_7 rfl (fun h => absurd h (by decide)) (fun _ => ?_)
  refine lv_aload_n hx hb dq_AB_init_10 rfl (lx_at hl 0 rfl) ?_
  refine lv_iload_n hx hb dq_AB_init_11 rfl (lx_at hl 1 rfl) ?_
  obtain ⟨h1, hw⟩ := hw
  obtain ⟨h2, hw⟩ := hw
  obtain ⟨h3, hw⟩ := hw
  obtain ⟨h4, hw⟩ := hw
  refine wo_newa (j := 1) (at_ := .byte) hC rfl rfl aq_1 hG hS h1 h2 h3 h4 dq_AB_init_12 (fun q5 G8 H z6 b7 e9 hG hS => ?_)
  replace hw := hw q5 z6 b7 G8 e9
  replace hcc := h3
  replace hss := h4
  obtain ⟨t10, hw⟩ := hw
  obtain ⟨h11, hw⟩ := hw
  refine wo_putR (x := (some q5)) hC fq_AB_15 (Or.inl rfl) rfl hG hS t10 h11 dq_AB_init_14 (fun G12 H locs e13 hG hS => ?_)
  replace hw := hw G12 e13
  refine lv_aload_n hx hb dq_AB_init_17 rfl (lx_at hl 0 rfl) ?_
  refine lv_iconst (v := (0 : Int32)) hx hb dq_AB_init_18 rfl ?_
  obtain ⟨h14, hw⟩ := hw
  obtain ⟨h15, hw⟩ := hw
  refine wo_putI hC fq_AB_22 (Or.inl rfl) rfl h15 hG hS (ty_sr e13 t10) h14 dq_AB_init_19 (fun G16 H locs e17 hG hS => ?_)
  replace hw := hw G16 e17
  refine lv_goto (tgt := 38) hx hb dq_AB_init_22 rfl ?_
  exact wo_vret hC hG hS hcc hss hw dq_AB_init_38
set_option maxHeartbeats 4000000 in
theorem mq_AB_init {l : Launch} {E : wo_E} {mc ms : Nat} {Post : wo_W → Prop} {G : wo_W} {x0 : Nat} {x1 : Int32} (hw : pq_AB_init E mc ms Post G x0 x1) : Met l yq_AB_init (Cond.code yq_AB_init prog_16_method_2_code 2 ((Option.none : Option Jvm.ClassFile.FieldType)) :: vw_WG) { frames := 1, cells := mc, slots := ms, locals := 28 } (va_Pc [.ref x0, .int x1] (wo_Ok E G)) (va_Qv Post (wo_B E) (en_A E)) mc ms (en_A E) := by
  unfold pq_AB_init at hw
  exact wo_met [(1, .ref x0), (1, .int x1)] rfl (by decide) (fun q hq => by simp only [List.mem_cons, List.not_mem_nil, or_false] at hq; rcases hq with rfl | rfl <;> first | rfl | exact lx_cR _) (Nat.le_of_ble_eq_true rfl) (fun p e R s m args below meth cd ls hC hG hS hl => tq_AB_init_0 hC hw hG hS (lx_sub hl [0, 1] rfl) (Nat.zero_le _) (Nat.zero_le _))

theorem dq_SB_init_0 : decode prog_23_method_1_code 0 = .ok (.aload_n 0, 1) := by decide +kernel
theorem dq_SB_init_1 : decode prog_23_method_1_code 1 = .ok (.bipush 16, 2) := by decide +kernel
theorem dq_SB_init_3 : decode prog_23_method_1_code 3 = .ok (.invokespecial 1, 3) := by decide +kernel
theorem dq_SB_init_6 : decode prog_23_method_1_code 6 = .ok (.return_, 1) := by decide +kernel
set_option maxRecDepth 100000 in
def pq_SB_init_0 (E : wo_E) (mc ms : Nat) (Post : wo_W → Prop) (G : wo_W) (c s : Nat) (x0 : Nat) : Prop := wo_ty G x0 = 5 ∧ ∃ mc2 ms3 : Nat, (c + mc2) ≤ mc ∧ (s + ms3) ≤ ms ∧ pq_AB_init E mc2 ms3 (fun G4 => 
  Post G4) G x0 (16 : Int32)
def pq_SB_init (E : wo_E) (mc ms : Nat) (Post : wo_W → Prop) (G : wo_W) (x0 : Nat) : Prop := pq_SB_init_0 E mc ms Post G 0 0 x0
set_option maxRecDepth 100000 in
set_option maxHeartbeats 4000000 in
theorem tq_SB_init_0 {p : Program} {l : Launch} {e : Env} {R : Room} {s₀ : State} {m : MethodId} {args : Array Value} {below : List Frame} {meth : Method} {cd : Code} {E : wo_E} {mc ms : Nat} {Post : wo_W → Prop} (hC : wo_Cx E "java/lang/StringBuilder" prog_23_method_1_code 1 2 49 ((Option.none : Option Jvm.ClassFile.FieldType)) "<init>" mc ms p R s₀ m args meth cd) : ∀ {G : wo_W} {c s : Nat} {x0 : Nat}, pq_SB_init_0 E mc ms Post G c s x0 → ∀ {H : Heap} {locs : List Loc} {ls : Array Slot}, wo_Se E G H → va_S (en_A E) s₀.heap H locs → lx_has ls 1 [(0, 1, .ref x0)] → c ≤ mc → s ≤ ms → W p l e R s₀ m args below meth cd H locs c s (MQ below (va_Qv Post (wo_B E) (en_A E)) args s₀ mc ms (en_A E)) (F0 m 0 ls []) := by
  intro G c s x0 hw H locs ls hG hS hl hcc hss
  dsimp only [pq_SB_init_0] at hw
  have hx := hC.1
  have hb := hC.2.1
  refine lv_aload_n hx hb dq_SB_init_0 rfl (lx_at hl 0 rfl) ?_
  refine lv_bipush (v := (16 : Int32)) hx hb dq_SB_init_1 rfl ?_
  obtain ⟨t1, hw⟩ := hw
  obtain ⟨mc2, ms3, hc1, hs1, hw⟩ := hw
  refine va_callv (wo_runI hC lq_SB_1 (mq_AB_init hw) hG hS rfl (lx_sz hl) rfl (Nat.zero_le _) (by decide) dq_SB_init_3 ⟨hc1, hs1⟩) hS (fun _ _ h => h) (fun _ h => h) (fun G4 t H locs ht hvm hw' hB _ _ hS => ?_)
  clear hw
  have hw := hw'
  clear hw'
  replace hG := wo_bk ht hB
  replace hcc := hc1
  replace hss := hs1
  exact wo_vret hC hG hS hcc hss hw dq_SB_init_6
set_option maxHeartbeats 4000000 in
theorem mq_SB_init {l : Launch} {E : wo_E} {mc ms : Nat} {Post : wo_W → Prop} {G : wo_W} {x0 : Nat} (hw : pq_SB_init E mc ms Post G x0) : Met l yq_SB_init (Cond.code yq_SB_init prog_23_method_1_code 1 ((Option.none : Option Jvm.ClassFile.FieldType)) :: vw_WG) { frames := 2, cells := mc, slots := ms, locals := 49 } (va_Pc [.ref x0] (wo_Ok E G)) (va_Qv Post (wo_B E) (en_A E)) mc ms (en_A E) := by
  unfold pq_SB_init at hw
  exact wo_met [(1, .ref x0)] rfl (by decide) (fun q hq => by simp only [List.mem_cons, List.not_mem_nil, or_false] at hq; rcases hq with rfl <;> first | rfl | exact lx_cR _) (Nat.le_of_ble_eq_true rfl) (fun p e R s m args below meth cd ls hC hG hS hl => tq_SB_init_0 hC hw hG hS (lx_sub hl [0] rfl) (Nat.zero_le _) (Nat.zero_le _))

theorem dq_Rd_init_0 : decode prog_5_method_1_code 0 = .ok (.aload_n 0, 1) := by decide +kernel
theorem dq_Rd_init_1 : decode prog_5_method_1_code 1 = .ok (.invokespecial 3, 3) := by decide +kernel
theorem dq_Rd_init_4 : decode prog_5_method_1_code 4 = .ok (.aload_n 0, 1) := by decide +kernel
theorem dq_Rd_init_5 : decode prog_5_method_1_code 5 = .ok (.new 9, 3) := by decide +kernel
theorem dq_Rd_init_8 : decode prog_5_method_1_code 8 = .ok (.dup, 1) := by decide +kernel
theorem dq_Rd_init_9 : decode prog_5_method_1_code 9 = .ok (.invokespecial 11, 3) := by decide +kernel
theorem dq_Rd_init_12 : decode prog_5_method_1_code 12 = .ok (.putfield 12, 3) := by decide +kernel
theorem dq_Rd_init_15 : decode prog_5_method_1_code 15 = .ok (.aload_n 0, 1) := by decide +kernel
theorem dq_Rd_init_16 : decode prog_5_method_1_code 16 = .ok (.new 9, 3) := by decide +kernel
theorem dq_Rd_init_19 : decode prog_5_method_1_code 19 = .ok (.dup, 1) := by decide +kernel
theorem dq_Rd_init_20 : decode prog_5_method_1_code 20 = .ok (.invokespecial 11, 3) := by decide +kernel
theorem dq_Rd_init_23 : decode prog_5_method_1_code 23 = .ok (.putfield 18, 3) := by decide +kernel
theorem dq_Rd_init_26 : decode prog_5_method_1_code 26 = .ok (.aload_n 0, 1) := by decide +kernel
theorem dq_Rd_init_27 : decode prog_5_method_1_code 27 = .ok (.new 9, 3) := by decide +kernel
theorem dq_Rd_init_30 : decode prog_5_method_1_code 30 = .ok (.dup, 1) := by decide +kernel
theorem dq_Rd_init_31 : decode prog_5_method_1_code 31 = .ok (.invokespecial 11, 3) := by decide +kernel
theorem dq_Rd_init_34 : decode prog_5_method_1_code 34 = .ok (.putfield 21, 3) := by decide +kernel
theorem dq_Rd_init_37 : decode prog_5_method_1_code 37 = .ok (.aload_n 0, 1) := by decide +kernel
theorem dq_Rd_init_38 : decode prog_5_method_1_code 38 = .ok (.new 24, 3) := by decide +kernel
theorem dq_Rd_init_41 : decode prog_5_method_1_code 41 = .ok (.dup, 1) := by decide +kernel
theorem dq_Rd_init_42 : decode prog_5_method_1_code 42 = .ok (.invokespecial 26, 3) := by decide +kernel
theorem dq_Rd_init_45 : decode prog_5_method_1_code 45 = .ok (.putfield 27, 3) := by decide +kernel
theorem dq_Rd_init_48 : decode prog_5_method_1_code 48 = .ok (.aload_n 0, 1) := by decide +kernel
theorem dq_Rd_init_49 : decode prog_5_method_1_code 49 = .ok (.iconst 0, 1) := by decide +kernel
theorem dq_Rd_init_50 : decode prog_5_method_1_code 50 = .ok (.putfield 31, 3) := by decide +kernel
theorem dq_Rd_init_53 : decode prog_5_method_1_code 53 = .ok (.aload_n 0, 1) := by decide +kernel
theorem dq_Rd_init_54 : decode prog_5_method_1_code 54 = .ok (.iconst (-1), 1) := by decide +kernel
theorem dq_Rd_init_55 : decode prog_5_method_1_code 55 = .ok (.putfield 35, 3) := by decide +kernel
theorem dq_Rd_init_58 : decode prog_5_method_1_code 58 = .ok (.return_, 1) := by decide +kernel
set_option maxRecDepth 100000 in
def pq_Rd_init_0 (E : wo_E) (mc ms : Nat) (Post : wo_W → Prop) (G : wo_W) (c s : Nat) (x0 : Nat) : Prop := (c + 1) ≤ mc ∧ (s + 4) ≤ ms ∧ ∀ q3 : Nat, wo_ty G q3 = 0 → en_bs E ≤ q3 → ∀ G6 : wo_W, G6 = wo_new G q3 5 → 
  ∃ mc8 ms9 : Nat, ((c + 1) + mc8) ≤ mc ∧ ((s + 4) + ms9) ≤ ms ∧ pq_SB_init E mc8 ms9 (fun G10 => 
  wo_ty G10 x0 = 8 ∧ en_bs E ≤ x0 ∧ ∀ G13 : wo_W, G13 = wo_sr G10 448 x0 (some q3) → 
    (((c + 1) + mc8) + 1) ≤ mc ∧ (((s + 4) + ms9) + 4) ≤ ms ∧ ∀ q17 : Nat, wo_ty G13 q17 = 0 → en_bs E ≤ q17 → ∀ G20 : wo_W, G20 = wo_new G13 q17 5 → 
    ∃ mc22 ms23 : Nat, ((((c + 1) + mc8) + 1) + mc22) ≤ mc ∧ ((((s + 4) + ms9) + 4) + ms23) ≤ ms ∧ pq_SB_init E mc22 ms23 (fun G24 => 
    wo_ty G24 x0 = 8 ∧ en_bs E ≤ x0 ∧ ∀ G27 : wo_W, G27 = wo_sr G24 449 x0 (some q17) → 
      (((((c + 1) + mc8) + 1) + mc22) + 1) ≤ mc ∧ (((((s + 4) + ms9) + 4) + ms23) + 4) ≤ ms ∧ ∀ q31 : Nat, wo_ty G27 q31 = 0 → en_bs E ≤ q31 → ∀ G34 : wo_W, G34 = wo_new G27 q31 5 → 
      ∃ mc36 ms37 : Nat, ((((((c + 1) + mc8) + 1) + mc22) + 1) + mc36) ≤ mc ∧ ((((((s + 4) + ms9) + 4) + ms23) + 4) + ms37) ≤ ms ∧ pq_SB_init E mc36 ms37 (fun G38 => 
      wo_ty G38 x0 = 8 ∧ en_bs E ≤ x0 ∧ ∀ G41 : wo_W, G41 = wo_sr G38 450 x0 (some q31) → 
        (((((((c + 1) + mc8) + 1) + mc22) + 1) + mc36) + 1) ≤ mc ∧ (((((((s + 4) + ms9) + 4) + ms23) + 4) + ms37) + 12) ≤ ms ∧ ∀ q45 : Nat, wo_ty G41 q45 = 0 → en_bs E ≤ q45 → ∀ G48 : wo_W, G48 = wo_new G41 q45 9 → 
        ∃ mc50 ms51 : Nat, ((((((((c + 1) + mc8) + 1) + mc22) + 1) + mc36) + 1) + mc50) ≤ mc ∧ ((((((((s + 4) + ms9) + 4) + ms23) + 4) + ms37) + 12) + ms51) ≤ ms ∧ pq_Rq_init E mc50 ms51 (fun G52 => 
        wo_ty G52 x0 = 8 ∧ en_bs E ≤ x0 ∧ ∀ G55 : wo_W, G55 = wo_sr G52 451 x0 (some q45) → 
          en_bs E ≤ x0 ∧ ∀ G58 : wo_W, G58 = wo_si G55 452 x0 (0 : Int32) → 
          en_bs E ≤ x0 ∧ ∀ G61 : wo_W, G61 = wo_si G58 454 x0 (-1 : Int32) → 
          Post G61) G48 q45) G34 q31) G20 q17) G6 q3
def pq_Rd_init (E : wo_E) (mc ms : Nat) (Post : wo_W → Prop) (G : wo_W) (x0 : Nat) : Prop := pq_Rd_init_0 E mc ms Post G 0 0 x0
set_option maxRecDepth 100000 in
set_option maxHeartbeats 4000000 in
theorem tq_Rd_init_0 {p : Program} {l : Launch} {e : Env} {R : Room} {s₀ : State} {m : MethodId} {args : Array Value} {below : List Frame} {meth : Method} {cd : Code} {E : wo_E} {mc ms : Nat} {Post : wo_W → Prop} (hC : wo_Cx E "EdgeCache$Reader" prog_5_method_1_code 1 3 69 ((Option.none : Option Jvm.ClassFile.FieldType)) "<init>" mc ms p R s₀ m args meth cd) : ∀ {G : wo_W} {c s : Nat} {x0 : Nat}, pq_Rd_init_0 E mc ms Post G c s x0 → ∀ {H : Heap} {locs : List Loc} {ls : Array Slot}, wo_Se E G H → va_S (en_A E) s₀.heap H locs → lx_has ls 1 [(0, 1, .ref x0)] → c ≤ mc → s ≤ ms → W p l e R s₀ m args below meth cd H locs c s (MQ below (va_Qv Post (wo_B E) (en_A E)) args s₀ mc ms (en_A E)) (F0 m 0 ls []) := by
  intro G c s x0 hw H locs ls hG hS hl hcc hss
  dsimp only [pq_Rd_init_0] at hw
  have hx := hC.1
  have hb := hC.2.1
  refine lv_aload_n hx hb dq_Rd_init_0 rfl (lx_at hl 0 rfl) ?_
  refine wo_objI hC lq_Rd_3 (lx_sz hl) (by decide) (lx_rk (Nat.le_of_ble_eq_true rfl)) dq_Rd_init_1 ?_
  refine lv_aload_n hx hb dq_Rd_init_4 rfl (lx_at hl 0 rfl) ?_
  obtain ⟨h1, hw⟩ := hw
  obtain ⟨h2, hw⟩ := hw
  refine wo_newc hC nq_Rd_9 hG hS h1 h2 dq_Rd_init_5 (fun q3 G6 H z4 b5 e7 hG hS => ?_)
  replace hw := hw q3 z4 b5 G6 e7
  replace hcc := h1
  replace hss := h2
  refine lv_dup hx hb dq_Rd_init_8 rfl ?_
  obtain ⟨mc8, ms9, hc1, hs1, hw⟩ := hw
  refine va_callv (wo_runI hC lq_Rd_11 (mq_SB_init hw) hG hS rfl (lx_sz hl) rfl (lx_rm (Nat.le_of_ble_eq_true rfl)) (by decide) dq_Rd_init_9 ⟨hc1, hs1⟩) hS (fun _ _ h => h) (fun _ h => h) (fun G10 t H locs ht hvm hw' hB _ _ hS => ?_)
  clear hw
  have hw := hw'
  clear hw'
  replace hG := wo_bk ht hB
  replace hcc := hc1
  replace hss := hs1
  obtain ⟨t11, hw⟩ := hw
  obtain ⟨h12, hw⟩ := hw
  refine wo_putR (x := (some q3)) hC fq_Rd_12 (Or.inr ⟨rfl, rfl⟩) rfl hG hS t11 h12 dq_Rd_init_12 (fun G13 H locs e14 hG hS => ?_)
  replace hw := hw G13 e14
  refine lv_aload_n hx hb dq_Rd_init_15 rfl (lx_at hl 0 rfl) ?_
  obtain ⟨h15, hw⟩ := hw
  obtain ⟨h16, hw⟩ := hw
  refine wo_newc hC nq_Rd_9 hG hS h15 h16 dq_Rd_init_16 (fun q17 G20 H z18 b19 e21 hG hS => ?_)
  replace hw := hw q17 z18 b19 G20 e21
  replace hcc := h15
  replace hss := h16
  refine lv_dup hx hb dq_Rd_init_19 rfl ?_
  obtain ⟨mc22, ms23, hc1, hs1, hw⟩ := hw
  refine va_callv (wo_runI hC lq_Rd_11 (mq_SB_init hw) hG hS rfl (lx_sz hl) rfl (lx_rm (Nat.le_of_ble_eq_true rfl)) (by decide) dq_Rd_init_20 ⟨hc1, hs1⟩) hS (fun _ _ h => h) (fun _ h => h) (fun G24 t H locs ht hvm hw' hB _ _ hS => ?_)
  clear hw
  have hw := hw'
  clear hw'
  replace hG := wo_bk ht hB
  replace hcc := hc1
  replace hss := hs1
  obtain ⟨t25, hw⟩ := hw
  obtain ⟨h26, hw⟩ := hw
  refine wo_putR (x := (some q17)) hC fq_Rd_18 (Or.inr ⟨rfl, rfl⟩) rfl hG hS t25 h26 dq_Rd_init_23 (fun G27 H locs e28 hG hS => ?_)
  replace hw := hw G27 e28
  refine lv_aload_n hx hb dq_Rd_init_26 rfl (lx_at hl 0 rfl) ?_
  obtain ⟨h29, hw⟩ := hw
  obtain ⟨h30, hw⟩ := hw
  refine wo_newc hC nq_Rd_9 hG hS h29 h30 dq_Rd_init_27 (fun q31 G34 H z32 b33 e35 hG hS => ?_)
  replace hw := hw q31 z32 b33 G34 e35
  replace hcc := h29
  replace hss := h30
  refine lv_dup hx hb dq_Rd_init_30 rfl ?_
  obtain ⟨mc36, ms37, hc1, hs1, hw⟩ := hw
  refine va_callv (wo_runI hC lq_Rd_11 (mq_SB_init hw) hG hS rfl (lx_sz hl) rfl (lx_rm (Nat.le_of_ble_eq_true rfl)) (by decide) dq_Rd_init_31 ⟨hc1, hs1⟩) hS (fun _ _ h => h) (fun _ h => h) (fun G38 t H locs ht hvm hw' hB _ _ hS => ?_)
  clear hw
  have hw := hw'
  clear hw'
  replace hG := wo_bk ht hB
  replace hcc := hc1
  replace hss := hs1
  obtain ⟨t39, hw⟩ := hw
  obtain ⟨h40, hw⟩ := hw
  refine wo_putR (x := (some q31)) hC fq_Rd_21 (Or.inr ⟨rfl, rfl⟩) rfl hG hS t39 h40 dq_Rd_init_34 (fun G41 H locs e42 hG hS => ?_)
  replace hw := hw G41 e42
  refine lv_aload_n hx hb dq_Rd_init_37 rfl (lx_at hl 0 rfl) ?_
  obtain ⟨h43, hw⟩ := hw
  obtain ⟨h44, hw⟩ := hw
  refine wo_newc hC nq_Rd_24 hG hS h43 h44 dq_Rd_init_38 (fun q45 G48 H z46 b47 e49 hG hS => ?_)
  replace hw := hw q45 z46 b47 G48 e49
  replace hcc := h43
  replace hss := h44
  refine lv_dup hx hb dq_Rd_init_41 rfl ?_
  obtain ⟨mc50, ms51, hc1, hs1, hw⟩ := hw
  refine va_callv (wo_runN hC lq_Rd_26 (mq_Rq_init hw) hG hS rfl (lx_sz hl) rfl (lx_rm (Nat.le_of_ble_eq_true rfl)) (by decide) dq_Rd_init_42 ⟨hc1, hs1⟩) hS (fun _ _ h => h) (fun _ h => h) (fun G52 t H locs ht hvm hw' hB _ _ hS => ?_)
  clear hw
  have hw := hw'
  clear hw'
  replace hG := wo_bk ht hB
  replace hcc := hc1
  replace hss := hs1
  obtain ⟨t53, hw⟩ := hw
  obtain ⟨h54, hw⟩ := hw
  refine wo_putR (x := (some q45)) hC fq_Rd_27 (Or.inl rfl) rfl hG hS t53 h54 dq_Rd_init_45 (fun G55 H locs e56 hG hS => ?_)
  replace hw := hw G55 e56
  refine lv_aload_n hx hb dq_Rd_init_48 rfl (lx_at hl 0 rfl) ?_
  refine lv_iconst (v := (0 : Int32)) hx hb dq_Rd_init_49 rfl ?_
  obtain ⟨h57, hw⟩ := hw
  refine wo_putI hC fq_Rd_31 (Or.inl rfl) rfl (wo_ok_int _) hG hS (ty_sr e56 t53) h57 dq_Rd_init_50 (fun G58 H locs e59 hG hS => ?_)
  replace hw := hw G58 e59
  refine lv_aload_n hx hb dq_Rd_init_53 rfl (lx_at hl 0 rfl) ?_
  refine lv_iconst (v := (-1 : Int32)) hx hb dq_Rd_init_54 rfl ?_
  obtain ⟨h60, hw⟩ := hw
  refine wo_putI hC fq_Rd_35 (Or.inl rfl) rfl (wo_ok_int _) hG hS (ty_si e59 (ty_sr e56 t53)) h60 dq_Rd_init_55 (fun G61 H locs e62 hG hS => ?_)
  replace hw := hw G61 e62
  exact wo_vret hC hG hS hcc hss hw dq_Rd_init_58
set_option maxHeartbeats 4000000 in
theorem mq_Rd_init {l : Launch} {E : wo_E} {mc ms : Nat} {Post : wo_W → Prop} {G : wo_W} {x0 : Nat} (hw : pq_Rd_init E mc ms Post G x0) : Met l yq_Rd_init (Cond.code yq_Rd_init prog_5_method_1_code 1 ((Option.none : Option Jvm.ClassFile.FieldType)) :: vw_WG) { frames := 3, cells := mc, slots := ms, locals := 69 } (va_Pc [.ref x0] (wo_Ok E G)) (va_Qv Post (wo_B E) (en_A E)) mc ms (en_A E) := by
  unfold pq_Rd_init at hw
  exact wo_met [(1, .ref x0)] rfl (by decide) (fun q hq => by simp only [List.mem_cons, List.not_mem_nil, or_false] at hq; rcases hq with rfl <;> first | rfl | exact lx_cR _) (Nat.le_of_ble_eq_true rfl) (fun p e R s m args below meth cd ls hC hG hS hl => tq_Rd_init_0 hC hw hG hS (lx_sub hl [0] rfl) (Nat.zero_le _) (Nat.zero_le _))

theorem dq_Cn_init_0 : decode prog_2_method_1_code 0 = .ok (.aload_n 0, 1) := by decide +kernel
theorem dq_Cn_init_1 : decode prog_2_method_1_code 1 = .ok (.invokespecial 1, 3) := by decide +kernel
theorem dq_Cn_init_4 : decode prog_2_method_1_code 4 = .ok (.aload_n 0, 1) := by decide +kernel
theorem dq_Cn_init_5 : decode prog_2_method_1_code 5 = .ok (.new 7, 3) := by decide +kernel
theorem dq_Cn_init_8 : decode prog_2_method_1_code 8 = .ok (.dup, 1) := by decide +kernel
theorem dq_Cn_init_9 : decode prog_2_method_1_code 9 = .ok (.invokespecial 9, 3) := by decide +kernel
theorem dq_Cn_init_12 : decode prog_2_method_1_code 12 = .ok (.putfield 10, 3) := by decide +kernel
theorem dq_Cn_init_15 : decode prog_2_method_1_code 15 = .ok (.aload_n 0, 1) := by decide +kernel
theorem dq_Cn_init_16 : decode prog_2_method_1_code 16 = .ok (.bipush 20, 2) := by decide +kernel
theorem dq_Cn_init_18 : decode prog_2_method_1_code 18 = .ok (.anewarray 16, 3) := by decide +kernel
theorem dq_Cn_init_21 : decode prog_2_method_1_code 21 = .ok (.putfield 18, 3) := by decide +kernel
theorem dq_Cn_init_24 : decode prog_2_method_1_code 24 = .ok (.aload_n 0, 1) := by decide +kernel
theorem dq_Cn_init_25 : decode prog_2_method_1_code 25 = .ok (.sipush 640, 3) := by decide +kernel
theorem dq_Cn_init_28 : decode prog_2_method_1_code 28 = .ok (.newarray .char, 2) := by decide +kernel
theorem dq_Cn_init_30 : decode prog_2_method_1_code 30 = .ok (.putfield 22, 3) := by decide +kernel
theorem dq_Cn_init_33 : decode prog_2_method_1_code 33 = .ok (.return_, 1) := by decide +kernel
set_option maxRecDepth 100000 in
def pq_Cn_init_0 (E : wo_E) (mc ms : Nat) (Post : wo_W → Prop) (G : wo_W) (c s : Nat) (x0 : Nat) : Prop := (c + 1) ≤ mc ∧ (s + 9) ≤ ms ∧ ∀ q3 : Nat, wo_ty G q3 = 0 → en_bs E ≤ q3 → ∀ G6 : wo_W, G6 = wo_new G q3 8 → 
  ∃ mc8 ms9 : Nat, ((c + 1) + mc8) ≤ mc ∧ ((s + 9) + ms9) ≤ ms ∧ pq_Rd_init E mc8 ms9 (fun G10 => 
  wo_ty G10 x0 = 7 ∧ en_bs E ≤ x0 ∧ ∀ G13 : wo_W, G13 = wo_sr G10 384 x0 (some q3) → 
    ¬ (20 : Int32) < 0 ∧ (20 : Int32).toNatClampNeg ≤ 65536 ∧ (((c + 1) + mc8) + 1) ≤ mc ∧ (((s + 9) + ms9) + (20 : Int32).toNatClampNeg) ≤ ms ∧ ∀ q19 : Nat, wo_ty G13 q19 = 0 → en_bs E ≤ q19 → ∀ G22 : wo_W, G22 = wo_na G13 q19 68 (20 : Int32).toNatClampNeg → 
    en_bs E ≤ x0 ∧ ∀ G25 : wo_W, G25 = wo_sr G22 385 x0 (some q19) → 
    ¬ (640 : Int32) < 0 ∧ (640 : Int32).toNatClampNeg ≤ 65536 ∧ ((((c + 1) + mc8) + 1) + 1) ≤ mc ∧ ((((s + 9) + ms9) + (20 : Int32).toNatClampNeg) + (640 : Int32).toNatClampNeg) ≤ ms ∧ ∀ q31 : Nat, wo_ty G25 q31 = 0 → en_bs E ≤ q31 → ∀ G34 : wo_W, G34 = wo_na G25 q31 69 (640 : Int32).toNatClampNeg → 
    en_bs E ≤ x0 ∧ ∀ G37 : wo_W, G37 = wo_sr G34 386 x0 (some q31) → 
    Post G37) G6 q3
def pq_Cn_init (E : wo_E) (mc ms : Nat) (Post : wo_W → Prop) (G : wo_W) (x0 : Nat) : Prop := pq_Cn_init_0 E mc ms Post G 0 0 x0
set_option maxRecDepth 100000 in
set_option maxHeartbeats 4000000 in
theorem tq_Cn_init_0 {p : Program} {l : Launch} {e : Env} {R : Room} {s₀ : State} {m : MethodId} {args : Array Value} {below : List Frame} {meth : Method} {cd : Code} {E : wo_E} {mc ms : Nat} {Post : wo_W → Prop} (hC : wo_Cx E "EdgeCache$Connection" prog_2_method_1_code 1 4 89 ((Option.none : Option Jvm.ClassFile.FieldType)) "<init>" mc ms p R s₀ m args meth cd) : ∀ {G : wo_W} {c s : Nat} {x0 : Nat}, pq_Cn_init_0 E mc ms Post G c s x0 → ∀ {H : Heap} {locs : List Loc} {ls : Array Slot}, wo_Se E G H → va_S (en_A E) s₀.heap H locs → lx_has ls 1 [(0, 1, .ref x0)] → c ≤ mc → s ≤ ms → W p l e R s₀ m args below meth cd H locs c s (MQ below (va_Qv Post (wo_B E) (en_A E)) args s₀ mc ms (en_A E)) (F0 m 0 ls []) := by
  intro G c s x0 hw H locs ls hG hS hl hcc hss
  dsimp only [pq_Cn_init_0] at hw
  have hx := hC.1
  have hb := hC.2.1
  refine lv_aload_n hx hb dq_Cn_init_0 rfl (lx_at hl 0 rfl) ?_
  refine wo_objI hC lq_Cn_1 (lx_sz hl) (by decide) (lx_rk (Nat.le_of_ble_eq_true rfl)) dq_Cn_init_1 ?_
  refine lv_aload_n hx hb dq_Cn_init_4 rfl (lx_at hl 0 rfl) ?_
  obtain ⟨h1, hw⟩ := hw
  obtain ⟨h2, hw⟩ := hw
  refine wo_newc hC nq_Cn_7 hG hS h1 h2 dq_Cn_init_5 (fun q3 G6 H z4 b5 e7 hG hS => ?_)
  replace hw := hw q3 z4 b5 G6 e7
  replace hcc := h1
  replace hss := h2
  refine lv_dup hx hb dq_Cn_init_8 rfl ?_
  obtain ⟨mc8, ms9, hc1, hs1, hw⟩ := hw
  refine va_callv (wo_runN hC lq_Cn_9 (mq_Rd_init hw) hG hS rfl (lx_sz hl) rfl (lx_rm (Nat.le_of_ble_eq_true rfl)) (by decide) dq_Cn_init_9 ⟨hc1, hs1⟩) hS (fun _ _ h => h) (fun _ h => h) (fun G10 t H locs ht hvm hw' hB _ _ hS => ?_)
  clear hw
  have hw := hw'
  clear hw'
  replace hG := wo_bk ht hB
  replace hcc := hc1
  replace hss := hs1
  obtain ⟨t11, hw⟩ := hw
  obtain ⟨h12, hw⟩ := hw
  refine wo_putR (x := (some q3)) hC fq_Cn_10 (Or.inr ⟨rfl, rfl⟩) rfl hG hS t11 h12 dq_Cn_init_12 (fun G13 H locs e14 hG hS => ?_)
  replace hw := hw G13 e14
  refine lv_aload_n hx hb dq_Cn_init_15 rfl (lx_at hl 0 rfl) ?_
  refine lv_bipush (v := (20 : Int32)) hx hb dq_Cn_init_16 rfl ?_
  obtain ⟨h15, hw⟩ := hw
  obtain ⟨h16, hw⟩ := hw
  obtain ⟨h17, hw⟩ := hw
  obtain ⟨h18, hw⟩ := hw
  refine wo_newq (j := 4) hC rfl (by decide) kq_Cn_16 hG hS h15 h16 h17 h18 dq_Cn_init_18 (fun q19 G22 H z20 b21 e23 hG hS => ?_)
  replace hw := hw q19 z20 b21 G22 e23
  replace hcc := h17
  replace hss := h18
  obtain ⟨h24, hw⟩ := hw
  refine wo_putR (x := (some q19)) hC fq_Cn_18 (Or.inr ⟨rfl, rfl⟩) rfl hG hS (ty_na (by decide) z20 e23 (ty_sr e14 t11)) h24 dq_Cn_init_21 (fun G25 H locs e26 hG hS => ?_)
  replace hw := hw G25 e26
  refine lv_aload_n hx hb dq_Cn_init_24 rfl (lx_at hl 0 rfl) ?_
  refine lv_sipush (v := (640 : Int32)) hx hb dq_Cn_init_25 rfl ?_
  obtain ⟨h27, hw⟩ := hw
  obtain ⟨h28, hw⟩ := hw
  obtain ⟨h29, hw⟩ := hw
  obtain ⟨h30, hw⟩ := hw
  refine wo_newa (j := 5) (at_ := .char) hC rfl rfl aq_5 hG hS h27 h28 h29 h30 dq_Cn_init_28 (fun q31 G34 H z32 b33 e35 hG hS => ?_)
  replace hw := hw q31 z32 b33 G34 e35
  replace hcc := h29
  replace hss := h30
  obtain ⟨h36, hw⟩ := hw
  refine wo_putR (x := (some q31)) hC fq_Cn_22 (Or.inr ⟨rfl, rfl⟩) rfl hG hS (ty_na (by decide) z32 e35 (ty_sr e26 (ty_na (by decide) z20 e23 (ty_sr e14 t11)))) h36 dq_Cn_init_30 (fun G37 H locs e38 hG hS => ?_)
  replace hw := hw G37 e38
  exact wo_vret hC hG hS hcc hss hw dq_Cn_init_33
set_option maxHeartbeats 4000000 in
theorem mq_Cn_init {l : Launch} {E : wo_E} {mc ms : Nat} {Post : wo_W → Prop} {G : wo_W} {x0 : Nat} (hw : pq_Cn_init E mc ms Post G x0) : Met l yq_Cn_init (Cond.code yq_Cn_init prog_2_method_1_code 1 ((Option.none : Option Jvm.ClassFile.FieldType)) :: vw_WG) { frames := 4, cells := mc, slots := ms, locals := 89 } (va_Pc [.ref x0] (wo_Ok E G)) (va_Qv Post (wo_B E) (en_A E)) mc ms (en_A E) := by
  unfold pq_Cn_init at hw
  exact wo_met [(1, .ref x0)] rfl (by decide) (fun q hq => by simp only [List.mem_cons, List.not_mem_nil, or_false] at hq; rcases hq with rfl <;> first | rfl | exact lx_cR _) (Nat.le_of_ble_eq_true rfl) (fun p e R s m args below meth cd ls hC hG hS hl => tq_Cn_init_0 hC hw hG hS (lx_sub hl [0] rfl) (Nat.zero_le _) (Nat.zero_le _))

theorem dq_Ac_init_0 : decode prog_27_method_1_code 0 = .ok (.aload_n 0, 1) := by decide +kernel
theorem dq_Ac_init_1 : decode prog_27_method_1_code 1 = .ok (.invokespecial 1, 3) := by decide +kernel
theorem dq_Ac_init_4 : decode prog_27_method_1_code 4 = .ok (.return_, 1) := by decide +kernel
set_option maxRecDepth 100000 in
def pq_Ac_init_0 (E : wo_E) (mc ms : Nat) (Post : wo_W → Prop) (G : wo_W) (c s : Nat) (x0 : Nat) : Prop := Post G
def pq_Ac_init (E : wo_E) (mc ms : Nat) (Post : wo_W → Prop) (G : wo_W) (x0 : Nat) : Prop := pq_Ac_init_0 E mc ms Post G 0 0 x0
set_option maxRecDepth 100000 in
set_option maxHeartbeats 4000000 in
theorem tq_Ac_init_0 {p : Program} {l : Launch} {e : Env} {R : Room} {s₀ : State} {m : MethodId} {args : Array Value} {below : List Frame} {meth : Method} {cd : Code} {E : wo_E} {mc ms : Nat} {Post : wo_W → Prop} (hC : wo_Cx E "java/util/AbstractCollection" prog_27_method_1_code 1 1 28 ((Option.none : Option Jvm.ClassFile.FieldType)) "<init>" mc ms p R s₀ m args meth cd) : ∀ {G : wo_W} {c s : Nat} {x0 : Nat}, pq_Ac_init_0 E mc ms Post G c s x0 → ∀ {H : Heap} {locs : List Loc} {ls : Array Slot}, wo_Se E G H → va_S (en_A E) s₀.heap H locs → lx_has ls 1 [(0, 1, .ref x0)] → c ≤ mc → s ≤ ms → W p l e R s₀ m args below meth cd H locs c s (MQ below (va_Qv Post (wo_B E) (en_A E)) args s₀ mc ms (en_A E)) (F0 m 0 ls []) := by
  intro G c s x0 hw H locs ls hG hS hl hcc hss
  dsimp only [pq_Ac_init_0] at hw
  have hx := hC.1
  have hb := hC.2.1
  refine lv_aload_n hx hb dq_Ac_init_0 rfl (lx_at hl 0 rfl) ?_
  refine wo_objI hC lq_Ac_1 (lx_sz hl) (by decide) (lx_rk (Nat.le_of_ble_eq_true rfl)) dq_Ac_init_1 ?_
  exact wo_vret hC hG hS hcc hss hw dq_Ac_init_4
set_option maxHeartbeats 4000000 in
theorem mq_Ac_init {l : Launch} {E : wo_E} {mc ms : Nat} {Post : wo_W → Prop} {G : wo_W} {x0 : Nat} (hw : pq_Ac_init E mc ms Post G x0) : Met l yq_Ac_init (Cond.code yq_Ac_init prog_27_method_1_code 1 ((Option.none : Option Jvm.ClassFile.FieldType)) :: vw_WG) { frames := 1, cells := mc, slots := ms, locals := 28 } (va_Pc [.ref x0] (wo_Ok E G)) (va_Qv Post (wo_B E) (en_A E)) mc ms (en_A E) := by
  unfold pq_Ac_init at hw
  exact wo_met [(1, .ref x0)] rfl (by decide) (fun q hq => by simp only [List.mem_cons, List.not_mem_nil, or_false] at hq; rcases hq with rfl <;> first | rfl | exact lx_cR _) (Nat.le_of_ble_eq_true rfl) (fun p e R s m args below meth cd ls hC hG hS hl => tq_Ac_init_0 hC hw hG hS (lx_sub hl [0] rfl) (Nat.zero_le _) (Nat.zero_le _))

theorem dq_At_init_0 : decode prog_28_method_1_code 0 = .ok (.aload_n 0, 1) := by decide +kernel
theorem dq_At_init_1 : decode prog_28_method_1_code 1 = .ok (.invokespecial 1, 3) := by decide +kernel
theorem dq_At_init_4 : decode prog_28_method_1_code 4 = .ok (.aload_n 0, 1) := by decide +kernel
theorem dq_At_init_5 : decode prog_28_method_1_code 5 = .ok (.iconst 0, 1) := by decide +kernel
theorem dq_At_init_6 : decode prog_28_method_1_code 6 = .ok (.putfield 7, 3) := by decide +kernel
theorem dq_At_init_9 : decode prog_28_method_1_code 9 = .ok (.return_, 1) := by decide +kernel
set_option maxRecDepth 100000 in
def pq_At_init_0 (E : wo_E) (mc ms : Nat) (Post : wo_W → Prop) (G : wo_W) (c s : Nat) (x0 : Nat) : Prop := wo_ty G x0 = 3 ∧ ∃ mc2 ms3 : Nat, (c + mc2) ≤ mc ∧ (s + ms3) ≤ ms ∧ pq_Ac_init E mc2 ms3 (fun G4 => 
  wo_ty G4 x0 = 3 ∧ en_bs E ≤ x0 ∧ ∀ G7 : wo_W, G7 = wo_si G4 130 x0 (0 : Int32) → 
    Post G7) G x0
def pq_At_init (E : wo_E) (mc ms : Nat) (Post : wo_W → Prop) (G : wo_W) (x0 : Nat) : Prop := pq_At_init_0 E mc ms Post G 0 0 x0
set_option maxRecDepth 100000 in
set_option maxHeartbeats 4000000 in
theorem tq_At_init_0 {p : Program} {l : Launch} {e : Env} {R : Room} {s₀ : State} {m : MethodId} {args : Array Value} {below : List Frame} {meth : Method} {cd : Code} {E : wo_E} {mc ms : Nat} {Post : wo_W → Prop} (hC : wo_Cx E "java/util/AbstractList" prog_28_method_1_code 1 2 48 ((Option.none : Option Jvm.ClassFile.FieldType)) "<init>" mc ms p R s₀ m args meth cd) : ∀ {G : wo_W} {c s : Nat} {x0 : Nat}, pq_At_init_0 E mc ms Post G c s x0 → ∀ {H : Heap} {locs : List Loc} {ls : Array Slot}, wo_Se E G H → va_S (en_A E) s₀.heap H locs → lx_has ls 1 [(0, 1, .ref x0)] → c ≤ mc → s ≤ ms → W p l e R s₀ m args below meth cd H locs c s (MQ below (va_Qv Post (wo_B E) (en_A E)) args s₀ mc ms (en_A E)) (F0 m 0 ls []) := by
  intro G c s x0 hw H locs ls hG hS hl hcc hss
  dsimp only [pq_At_init_0] at hw
  have hx := hC.1
  have hb := hC.2.1
  refine lv_aload_n hx hb dq_At_init_0 rfl (lx_at hl 0 rfl) ?_
  obtain ⟨t1, hw⟩ := hw
  obtain ⟨mc2, ms3, hc1, hs1, hw⟩ := hw
  refine va_callv (wo_runI hC lq_At_1 (mq_Ac_init hw) hG hS rfl (lx_sz hl) rfl (Nat.zero_le _) (by decide) dq_At_init_1 ⟨hc1, hs1⟩) hS (fun _ _ h => h) (fun _ h => h) (fun G4 t H locs ht hvm hw' hB _ _ hS => ?_)
  clear hw
  have hw := hw'
  clear hw'
  replace hG := wo_bk ht hB
  replace hcc := hc1
  replace hss := hs1
  refine lv_aload_n hx hb dq_At_init_4 rfl (lx_at hl 0 rfl) ?_
  refine lv_iconst (v := (0 : Int32)) hx hb dq_At_init_5 rfl ?_
  obtain ⟨t5, hw⟩ := hw
  obtain ⟨h6, hw⟩ := hw
  refine wo_putI hC fq_At_7 (Or.inl rfl) rfl (wo_ok_int _) hG hS t5 h6 dq_At_init_6 (fun G7 H locs e8 hG hS => ?_)
  replace hw := hw G7 e8
  exact wo_vret hC hG hS hcc hss hw dq_At_init_9
set_option maxHeartbeats 4000000 in
theorem mq_At_init {l : Launch} {E : wo_E} {mc ms : Nat} {Post : wo_W → Prop} {G : wo_W} {x0 : Nat} (hw : pq_At_init E mc ms Post G x0) : Met l yq_At_init (Cond.code yq_At_init prog_28_method_1_code 1 ((Option.none : Option Jvm.ClassFile.FieldType)) :: vw_WG) { frames := 2, cells := mc, slots := ms, locals := 48 } (va_Pc [.ref x0] (wo_Ok E G)) (va_Qv Post (wo_B E) (en_A E)) mc ms (en_A E) := by
  unfold pq_At_init at hw
  exact wo_met [(1, .ref x0)] rfl (by decide) (fun q hq => by simp only [List.mem_cons, List.not_mem_nil, or_false] at hq; rcases hq with rfl <;> first | rfl | exact lx_cR _) (Nat.le_of_ble_eq_true rfl) (fun p e R s m args below meth cd ls hC hG hS hl => tq_At_init_0 hC hw hG hS (lx_sub hl [0] rfl) (Nat.zero_le _) (Nat.zero_le _))

theorem dq_Al_init_0 : decode prog_29_method_2_code 0 = .ok (.aload_n 0, 1) := by decide +kernel
theorem dq_Al_init_1 : decode prog_29_method_2_code 1 = .ok (.invokespecial 1, 3) := by decide +kernel
theorem dq_Al_init_4 : decode prog_29_method_2_code 4 = .ok (.aload_n 0, 1) := by decide +kernel
theorem dq_Al_init_5 : decode prog_29_method_2_code 5 = .ok (.getstatic 39, 3) := by decide +kernel
theorem dq_Al_init_8 : decode prog_29_method_2_code 8 = .ok (.putfield 9, 3) := by decide +kernel
theorem dq_Al_init_11 : decode prog_29_method_2_code 11 = .ok (.return_, 1) := by decide +kernel
set_option maxRecDepth 100000 in
def pq_Al_init_0 (E : wo_E) (mc ms : Nat) (Post : wo_W → Prop) (G : wo_W) (c s : Nat) (x0 : Nat) : Prop := wo_ty G x0 = 3 ∧ ∃ mc2 ms3 : Nat, (c + mc2) ≤ mc ∧ (s + ms3) ≤ ms ∧ pq_At_init E mc2 ms3 (fun G4 => 
  wo_ty G4 x0 = 3 ∧ en_bs E ≤ x0 ∧ ∀ G7 : wo_W, G7 = wo_sr G4 128 x0 (some (en_sta E 0)) → 
    Post G7) G x0
def pq_Al_init (E : wo_E) (mc ms : Nat) (Post : wo_W → Prop) (G : wo_W) (x0 : Nat) : Prop := pq_Al_init_0 E mc ms Post G 0 0 x0
set_option maxRecDepth 100000 in
set_option maxHeartbeats 4000000 in
theorem tq_Al_init_0 {p : Program} {l : Launch} {e : Env} {R : Room} {s₀ : State} {m : MethodId} {args : Array Value} {below : List Frame} {meth : Method} {cd : Code} {E : wo_E} {mc ms : Nat} {Post : wo_W → Prop} (hC : wo_Cx E "java/util/ArrayList" prog_29_method_2_code 1 3 68 ((Option.none : Option Jvm.ClassFile.FieldType)) "<init>" mc ms p R s₀ m args meth cd) : ∀ {G : wo_W} {c s : Nat} {x0 : Nat}, pq_Al_init_0 E mc ms Post G c s x0 → ∀ {H : Heap} {locs : List Loc} {ls : Array Slot}, wo_Se E G H → va_S (en_A E) s₀.heap H locs → lx_has ls 1 [(0, 1, .ref x0)] → c ≤ mc → s ≤ ms → W p l e R s₀ m args below meth cd H locs c s (MQ below (va_Qv Post (wo_B E) (en_A E)) args s₀ mc ms (en_A E)) (F0 m 0 ls []) := by
  intro G c s x0 hw H locs ls hG hS hl hcc hss
  dsimp only [pq_Al_init_0] at hw
  have hx := hC.1
  have hb := hC.2.1
  refine lv_aload_n hx hb dq_Al_init_0 rfl (lx_at hl 0 rfl) ?_
  obtain ⟨t1, hw⟩ := hw
  obtain ⟨mc2, ms3, hc1, hs1, hw⟩ := hw
  refine va_callv (wo_runI hC lq_Al_1 (mq_At_init hw) hG hS rfl (lx_sz hl) rfl (Nat.zero_le _) (by decide) dq_Al_init_1 ⟨hc1, hs1⟩) hS (fun _ _ h => h) (fun _ h => h) (fun G4 t H locs ht hvm hw' hB _ _ hS => ?_)
  clear hw
  have hw := hw'
  clear hw'
  replace hG := wo_bk ht hB
  replace hcc := hc1
  replace hss := hs1
  refine lv_aload_n hx hb dq_Al_init_4 rfl (lx_at hl 0 rfl) ?_
  refine wo_gstA hC sq_Al_39 hS dq_Al_init_5 ?_
  obtain ⟨t5, hw⟩ := hw
  obtain ⟨h6, hw⟩ := hw
  refine wo_putR (x := (some (en_sta E 0))) hC fq_Al_9 (Or.inl rfl) rfl hG hS t5 h6 dq_Al_init_8 (fun G7 H locs e8 hG hS => ?_)
  replace hw := hw G7 e8
  exact wo_vret hC hG hS hcc hss hw dq_Al_init_11
set_option maxHeartbeats 4000000 in
theorem mq_Al_init {l : Launch} {E : wo_E} {mc ms : Nat} {Post : wo_W → Prop} {G : wo_W} {x0 : Nat} (hw : pq_Al_init E mc ms Post G x0) : Met l yq_Al_init (Cond.code yq_Al_init prog_29_method_2_code 1 ((Option.none : Option Jvm.ClassFile.FieldType)) :: vw_WG) { frames := 3, cells := mc, slots := ms, locals := 68 } (va_Pc [.ref x0] (wo_Ok E G)) (va_Qv Post (wo_B E) (en_A E)) mc ms (en_A E) := by
  unfold pq_Al_init at hw
  exact wo_met [(1, .ref x0)] rfl (by decide) (fun q hq => by simp only [List.mem_cons, List.not_mem_nil, or_false] at hq; rcases hq with rfl <;> first | rfl | exact lx_cR _) (Nat.le_of_ble_eq_true rfl) (fun p e R s m args below meth cd ls hC hG hS hl => tq_Al_init_0 hC hw hG hS (lx_sub hl [0] rfl) (Nat.zero_le _) (Nat.zero_le _))

theorem dq_Og_init_0 : decode prog_4_method_1_code 0 = .ok (.aload_n 0, 1) := by decide +kernel
theorem dq_Og_init_1 : decode prog_4_method_1_code 1 = .ok (.invokespecial 3, 3) := by decide +kernel
theorem dq_Og_init_4 : decode prog_4_method_1_code 4 = .ok (.aload_n 0, 1) := by decide +kernel
theorem dq_Og_init_5 : decode prog_4_method_1_code 5 = .ok (.new 9, 3) := by decide +kernel
theorem dq_Og_init_8 : decode prog_4_method_1_code 8 = .ok (.dup, 1) := by decide +kernel
theorem dq_Og_init_9 : decode prog_4_method_1_code 9 = .ok (.invokespecial 11, 3) := by decide +kernel
theorem dq_Og_init_12 : decode prog_4_method_1_code 12 = .ok (.putfield 12, 3) := by decide +kernel
theorem dq_Og_init_15 : decode prog_4_method_1_code 15 = .ok (.return_, 1) := by decide +kernel
set_option maxRecDepth 100000 in
def pq_Og_init_0 (E : wo_E) (mc ms : Nat) (Post : wo_W → Prop) (G : wo_W) (c s : Nat) (x0 : Nat) : Prop := (c + 1) ≤ mc ∧ (s + 3) ≤ ms ∧ ∀ q3 : Nat, wo_ty G q3 = 0 → en_bs E ≤ q3 → ∀ G6 : wo_W, G6 = wo_new G q3 3 → 
  ∃ mc8 ms9 : Nat, ((c + 1) + mc8) ≤ mc ∧ ((s + 3) + ms9) ≤ ms ∧ pq_Al_init E mc8 ms9 (fun G10 => 
  wo_ty G10 x0 = 2 ∧ en_bs E ≤ x0 ∧ ∀ G13 : wo_W, G13 = wo_sr G10 64 x0 (some q3) → 
    Post G13) G6 q3
def pq_Og_init (E : wo_E) (mc ms : Nat) (Post : wo_W → Prop) (G : wo_W) (x0 : Nat) : Prop := pq_Og_init_0 E mc ms Post G 0 0 x0
set_option maxRecDepth 100000 in
set_option maxHeartbeats 4000000 in
theorem tq_Og_init_0 {p : Program} {l : Launch} {e : Env} {R : Room} {s₀ : State} {m : MethodId} {args : Array Value} {below : List Frame} {meth : Method} {cd : Code} {E : wo_E} {mc ms : Nat} {Post : wo_W → Prop} (hC : wo_Cx E "EdgeCache$Origin" prog_4_method_1_code 1 4 88 ((Option.none : Option Jvm.ClassFile.FieldType)) "<init>" mc ms p R s₀ m args meth cd) : ∀ {G : wo_W} {c s : Nat} {x0 : Nat}, pq_Og_init_0 E mc ms Post G c s x0 → ∀ {H : Heap} {locs : List Loc} {ls : Array Slot}, wo_Se E G H → va_S (en_A E) s₀.heap H locs → lx_has ls 1 [(0, 1, .ref x0)] → c ≤ mc → s ≤ ms → W p l e R s₀ m args below meth cd H locs c s (MQ below (va_Qv Post (wo_B E) (en_A E)) args s₀ mc ms (en_A E)) (F0 m 0 ls []) := by
  intro G c s x0 hw H locs ls hG hS hl hcc hss
  dsimp only [pq_Og_init_0] at hw
  have hx := hC.1
  have hb := hC.2.1
  refine lv_aload_n hx hb dq_Og_init_0 rfl (lx_at hl 0 rfl) ?_
  refine wo_objI hC lq_Og_3 (lx_sz hl) (by decide) (lx_rk (Nat.le_of_ble_eq_true rfl)) dq_Og_init_1 ?_
  refine lv_aload_n hx hb dq_Og_init_4 rfl (lx_at hl 0 rfl) ?_
  obtain ⟨h1, hw⟩ := hw
  obtain ⟨h2, hw⟩ := hw
  refine wo_newc hC nq_Og_9 hG hS h1 h2 dq_Og_init_5 (fun q3 G6 H z4 b5 e7 hG hS => ?_)
  replace hw := hw q3 z4 b5 G6 e7
  replace hcc := h1
  replace hss := h2
  refine lv_dup hx hb dq_Og_init_8 rfl ?_
  obtain ⟨mc8, ms9, hc1, hs1, hw⟩ := hw
  refine va_callv (wo_runI hC lq_Og_11 (mq_Al_init hw) hG hS rfl (lx_sz hl) rfl (lx_rm (Nat.le_of_ble_eq_true rfl)) (by decide) dq_Og_init_9 ⟨hc1, hs1⟩) hS (fun _ _ h => h) (fun _ h => h) (fun G10 t H locs ht hvm hw' hB _ _ hS => ?_)
  clear hw
  have hw := hw'
  clear hw'
  replace hG := wo_bk ht hB
  replace hcc := hc1
  replace hss := hs1
  obtain ⟨t11, hw⟩ := hw
  obtain ⟨h12, hw⟩ := hw
  refine wo_putR (x := (some q3)) hC fq_Og_12 (Or.inr ⟨rfl, rfl⟩) rfl hG hS t11 h12 dq_Og_init_12 (fun G13 H locs e14 hG hS => ?_)
  replace hw := hw G13 e14
  exact wo_vret hC hG hS hcc hss hw dq_Og_init_15
set_option maxHeartbeats 4000000 in
theorem mq_Og_init {l : Launch} {E : wo_E} {mc ms : Nat} {Post : wo_W → Prop} {G : wo_W} {x0 : Nat} (hw : pq_Og_init E mc ms Post G x0) : Met l yq_Og_init (Cond.code yq_Og_init prog_4_method_1_code 1 ((Option.none : Option Jvm.ClassFile.FieldType)) :: vw_WG) { frames := 4, cells := mc, slots := ms, locals := 88 } (va_Pc [.ref x0] (wo_Ok E G)) (va_Qv Post (wo_B E) (en_A E)) mc ms (en_A E) := by
  unfold pq_Og_init at hw
  exact wo_met [(1, .ref x0)] rfl (by decide) (fun q hq => by simp only [List.mem_cons, List.not_mem_nil, or_false] at hq; rcases hq with rfl <;> first | rfl | exact lx_cR _) (Nat.le_of_ble_eq_true rfl) (fun p e R s m args below meth cd ls hC hG hS hl => tq_Og_init_0 hC hw hG hS (lx_sub hl [0] rfl) (Nat.zero_le _) (Nat.zero_le _))

theorem dq_Sh_init_0 : decode prog_9_method_1_code 0 = .ok (.aload_n 0, 1) := by decide +kernel
theorem dq_Sh_init_1 : decode prog_9_method_1_code 1 = .ok (.invokespecial 3, 3) := by decide +kernel
theorem dq_Sh_init_4 : decode prog_9_method_1_code 4 = .ok (.aload_n 0, 1) := by decide +kernel
theorem dq_Sh_init_5 : decode prog_9_method_1_code 5 = .ok (.new 9, 3) := by decide +kernel
theorem dq_Sh_init_8 : decode prog_9_method_1_code 8 = .ok (.dup, 1) := by decide +kernel
theorem dq_Sh_init_9 : decode prog_9_method_1_code 9 = .ok (.invokespecial 11, 3) := by decide +kernel
theorem dq_Sh_init_12 : decode prog_9_method_1_code 12 = .ok (.putfield 12, 3) := by decide +kernel
theorem dq_Sh_init_15 : decode prog_9_method_1_code 15 = .ok (.aload_n 0, 1) := by decide +kernel
theorem dq_Sh_init_16 : decode prog_9_method_1_code 16 = .ok (.iconst 2, 1) := by decide +kernel
theorem dq_Sh_init_17 : decode prog_9_method_1_code 17 = .ok (.newarray .int, 2) := by decide +kernel
theorem dq_Sh_init_19 : decode prog_9_method_1_code 19 = .ok (.putfield 18, 3) := by decide +kernel
theorem dq_Sh_init_22 : decode prog_9_method_1_code 22 = .ok (.aload_n 0, 1) := by decide +kernel
theorem dq_Sh_init_23 : decode prog_9_method_1_code 23 = .ok (.iconst 2, 1) := by decide +kernel
theorem dq_Sh_init_24 : decode prog_9_method_1_code 24 = .ok (.newarray .int, 2) := by decide +kernel
theorem dq_Sh_init_26 : decode prog_9_method_1_code 26 = .ok (.putfield 22, 3) := by decide +kernel
theorem dq_Sh_init_29 : decode prog_9_method_1_code 29 = .ok (.return_, 1) := by decide +kernel
set_option maxRecDepth 100000 in
def pq_Sh_init_0 (E : wo_E) (mc ms : Nat) (Post : wo_W → Prop) (G : wo_W) (c s : Nat) (x0 : Nat) : Prop := (c + 1) ≤ mc ∧ (s + 4) ≤ ms ∧ ∀ q3 : Nat, wo_ty G q3 = 0 → en_bs E ≤ q3 → ∀ G6 : wo_W, G6 = wo_new G q3 5 → 
  ∃ mc8 ms9 : Nat, ((c + 1) + mc8) ≤ mc ∧ ((s + 4) + ms9) ≤ ms ∧ pq_SB_init E mc8 ms9 (fun G10 => 
  wo_ty G10 x0 = 4 ∧ en_bs E ≤ x0 ∧ ∀ G13 : wo_W, G13 = wo_sr G10 192 x0 (some q3) → 
    ¬ (2 : Int32) < 0 ∧ (2 : Int32).toNatClampNeg ≤ 65536 ∧ (((c + 1) + mc8) + 1) ≤ mc ∧ (((s + 4) + ms9) + (2 : Int32).toNatClampNeg) ≤ ms ∧ ∀ q19 : Nat, wo_ty G13 q19 = 0 → en_bs E ≤ q19 → ∀ G22 : wo_W, G22 = wo_na G13 q19 66 (2 : Int32).toNatClampNeg → 
    en_bs E ≤ x0 ∧ ∀ G25 : wo_W, G25 = wo_sr G22 193 x0 (some q19) → 
    ¬ (2 : Int32) < 0 ∧ (2 : Int32).toNatClampNeg ≤ 65536 ∧ ((((c + 1) + mc8) + 1) + 1) ≤ mc ∧ ((((s + 4) + ms9) + (2 : Int32).toNatClampNeg) + (2 : Int32).toNatClampNeg) ≤ ms ∧ ∀ q31 : Nat, wo_ty G25 q31 = 0 → en_bs E ≤ q31 → ∀ G34 : wo_W, G34 = wo_na G25 q31 66 (2 : Int32).toNatClampNeg → 
    en_bs E ≤ x0 ∧ ∀ G37 : wo_W, G37 = wo_sr G34 194 x0 (some q31) → 
    Post G37) G6 q3
def pq_Sh_init (E : wo_E) (mc ms : Nat) (Post : wo_W → Prop) (G : wo_W) (x0 : Nat) : Prop := pq_Sh_init_0 E mc ms Post G 0 0 x0
set_option maxRecDepth 100000 in
set_option maxHeartbeats 4000000 in
theorem tq_Sh_init_0 {p : Program} {l : Launch} {e : Env} {R : Room} {s₀ : State} {m : MethodId} {args : Array Value} {below : List Frame} {meth : Method} {cd : Code} {E : wo_E} {mc ms : Nat} {Post : wo_W → Prop} (hC : wo_Cx E "EdgeCache$Sheet" prog_9_method_1_code 1 3 69 ((Option.none : Option Jvm.ClassFile.FieldType)) "<init>" mc ms p R s₀ m args meth cd) : ∀ {G : wo_W} {c s : Nat} {x0 : Nat}, pq_Sh_init_0 E mc ms Post G c s x0 → ∀ {H : Heap} {locs : List Loc} {ls : Array Slot}, wo_Se E G H → va_S (en_A E) s₀.heap H locs → lx_has ls 1 [(0, 1, .ref x0)] → c ≤ mc → s ≤ ms → W p l e R s₀ m args below meth cd H locs c s (MQ below (va_Qv Post (wo_B E) (en_A E)) args s₀ mc ms (en_A E)) (F0 m 0 ls []) := by
  intro G c s x0 hw H locs ls hG hS hl hcc hss
  dsimp only [pq_Sh_init_0] at hw
  have hx := hC.1
  have hb := hC.2.1
  refine lv_aload_n hx hb dq_Sh_init_0 rfl (lx_at hl 0 rfl) ?_
  refine wo_objI hC lq_Sh_3 (lx_sz hl) (by decide) (lx_rk (Nat.le_of_ble_eq_true rfl)) dq_Sh_init_1 ?_
  refine lv_aload_n hx hb dq_Sh_init_4 rfl (lx_at hl 0 rfl) ?_
  obtain ⟨h1, hw⟩ := hw
  obtain ⟨h2, hw⟩ := hw
  refine wo_newc hC nq_Sh_9 hG hS h1 h2 dq_Sh_init_5 (fun q3 G6 H z4 b5 e7 hG hS => ?_)
  replace hw := hw q3 z4 b5 G6 e7
  replace hcc := h1
  replace hss := h2
  refine lv_dup hx hb dq_Sh_init_8 rfl ?_
  obtain ⟨mc8, ms9, hc1, hs1, hw⟩ := hw
  refine va_callv (wo_runI hC lq_Sh_11 (mq_SB_init hw) hG hS rfl (lx_sz hl) rfl (lx_rm (Nat.le_of_ble_eq_true rfl)) (by decide) dq_Sh_init_9 ⟨hc1, hs1⟩) hS (fun _ _ h => h) (fun _ h => h) (fun G10 t H locs ht hvm hw' hB _ _ hS => ?_)
  clear hw
  have hw := hw'
  clear hw'
  replace hG := wo_bk ht hB
  replace hcc := hc1
  replace hss := hs1
  obtain ⟨t11, hw⟩ := hw
  obtain ⟨h12, hw⟩ := hw
  refine wo_putR (x := (some q3)) hC fq_Sh_12 (Or.inr ⟨rfl, rfl⟩) rfl hG hS t11 h12 dq_Sh_init_12 (fun G13 H locs e14 hG hS => ?_)
  replace hw := hw G13 e14
  refine lv_aload_n hx hb dq_Sh_init_15 rfl (lx_at hl 0 rfl) ?_
  refine lv_iconst (v := (2 : Int32)) hx hb dq_Sh_init_16 rfl ?_
  obtain ⟨h15, hw⟩ := hw
  obtain ⟨h16, hw⟩ := hw
  obtain ⟨h17, hw⟩ := hw
  obtain ⟨h18, hw⟩ := hw
  refine wo_newa (j := 2) (at_ := .int) hC rfl rfl aq_2 hG hS h15 h16 h17 h18 dq_Sh_init_17 (fun q19 G22 H z20 b21 e23 hG hS => ?_)
  replace hw := hw q19 z20 b21 G22 e23
  replace hcc := h17
  replace hss := h18
  obtain ⟨h24, hw⟩ := hw
  refine wo_putR (x := (some q19)) hC fq_Sh_18 (Or.inr ⟨rfl, rfl⟩) rfl hG hS (ty_na (by decide) z20 e23 (ty_sr e14 t11)) h24 dq_Sh_init_19 (fun G25 H locs e26 hG hS => ?_)
  replace hw := hw G25 e26
  refine lv_aload_n hx hb dq_Sh_init_22 rfl (lx_at hl 0 rfl) ?_
  refine lv_iconst (v := (2 : Int32)) hx hb dq_Sh_init_23 rfl ?_
  obtain ⟨h27, hw⟩ := hw
  obtain ⟨h28, hw⟩ := hw
  obtain ⟨h29, hw⟩ := hw
  obtain ⟨h30, hw⟩ := hw
  refine wo_newa (j := 2) (at_ := .int) hC rfl rfl aq_2 hG hS h27 h28 h29 h30 dq_Sh_init_24 (fun q31 G34 H z32 b33 e35 hG hS => ?_)
  replace hw := hw q31 z32 b33 G34 e35
  replace hcc := h29
  replace hss := h30
  obtain ⟨h36, hw⟩ := hw
  refine wo_putR (x := (some q31)) hC fq_Sh_22 (Or.inr ⟨rfl, rfl⟩) rfl hG hS (ty_na (by decide) z32 e35 (ty_sr e26 (ty_na (by decide) z20 e23 (ty_sr e14 t11)))) h36 dq_Sh_init_26 (fun G37 H locs e38 hG hS => ?_)
  replace hw := hw G37 e38
  exact wo_vret hC hG hS hcc hss hw dq_Sh_init_29
set_option maxHeartbeats 4000000 in
theorem mq_Sh_init {l : Launch} {E : wo_E} {mc ms : Nat} {Post : wo_W → Prop} {G : wo_W} {x0 : Nat} (hw : pq_Sh_init E mc ms Post G x0) : Met l yq_Sh_init (Cond.code yq_Sh_init prog_9_method_1_code 1 ((Option.none : Option Jvm.ClassFile.FieldType)) :: vw_WG) { frames := 3, cells := mc, slots := ms, locals := 69 } (va_Pc [.ref x0] (wo_Ok E G)) (va_Qv Post (wo_B E) (en_A E)) mc ms (en_A E) := by
  unfold pq_Sh_init at hw
  exact wo_met [(1, .ref x0)] rfl (by decide) (fun q hq => by simp only [List.mem_cons, List.not_mem_nil, or_false] at hq; rcases hq with rfl <;> first | rfl | exact lx_cR _) (Nat.le_of_ble_eq_true rfl) (fun p e R s m args below meth cd ls hC hG hS hl => tq_Sh_init_0 hC hw hG hS (lx_sub hl [0] rfl) (Nat.zero_le _) (Nat.zero_le _))

theorem dq_So_init_0 : decode prog_10_method_1_code 0 = .ok (.aload_n 0, 1) := by decide +kernel
theorem dq_So_init_1 : decode prog_10_method_1_code 1 = .ok (.invokespecial 1, 3) := by decide +kernel
theorem dq_So_init_4 : decode prog_10_method_1_code 4 = .ok (.aload_n 0, 1) := by decide +kernel
theorem dq_So_init_5 : decode prog_10_method_1_code 5 = .ok (.new 7, 3) := by decide +kernel
theorem dq_So_init_8 : decode prog_10_method_1_code 8 = .ok (.dup, 1) := by decide +kernel
theorem dq_So_init_9 : decode prog_10_method_1_code 9 = .ok (.invokespecial 9, 3) := by decide +kernel
theorem dq_So_init_12 : decode prog_10_method_1_code 12 = .ok (.putfield 10, 3) := by decide +kernel
theorem dq_So_init_15 : decode prog_10_method_1_code 15 = .ok (.aload_n 0, 1) := by decide +kernel
theorem dq_So_init_16 : decode prog_10_method_1_code 16 = .ok (.iload_n 1, 1) := by decide +kernel
theorem dq_So_init_17 : decode prog_10_method_1_code 17 = .ok (.putfield 16, 3) := by decide +kernel
theorem dq_So_init_20 : decode prog_10_method_1_code 20 = .ok (.return_, 1) := by decide +kernel
set_option maxRecDepth 100000 in
def pq_So_init_0 (E : wo_E) (mc ms : Nat) (Post : wo_W → Prop) (G : wo_W) (c s : Nat) (x0 : Nat) (x1 : Int32) : Prop := (c + 1) ≤ mc ∧ (s + 3) ≤ ms ∧ ∀ q3 : Nat, wo_ty G q3 = 0 → en_bs E ≤ q3 → ∀ G6 : wo_W, G6 = wo_new G q3 3 → 
  ∃ mc8 ms9 : Nat, ((c + 1) + mc8) ≤ mc ∧ ((s + 3) + ms9) ≤ ms ∧ pq_Al_init E mc8 ms9 (fun G10 => 
  wo_ty G10 x0 = 6 ∧ en_bs E ≤ x0 ∧ ∀ G13 : wo_W, G13 = wo_sr G10 320 x0 (some q3) → 
    en_bs E ≤ x0 ∧ ∀ G16 : wo_W, G16 = wo_si G13 321 x0 x1 → 
    Post G16) G6 q3
def pq_So_init (E : wo_E) (mc ms : Nat) (Post : wo_W → Prop) (G : wo_W) (x0 : Nat) (x1 : Int32) : Prop := pq_So_init_0 E mc ms Post G 0 0 x0 x1
set_option maxRecDepth 100000 in
set_option maxHeartbeats 4000000 in
theorem tq_So_init_0 {p : Program} {l : Launch} {e : Env} {R : Room} {s₀ : State} {m : MethodId} {args : Array Value} {below : List Frame} {meth : Method} {cd : Code} {E : wo_E} {mc ms : Nat} {Post : wo_W → Prop} (hC : wo_Cx E "EdgeCache$Store" prog_10_method_1_code 2 4 88 ((Option.none : Option Jvm.ClassFile.FieldType)) "<init>" mc ms p R s₀ m args meth cd) : ∀ {G : wo_W} {c s : Nat} {x0 : Nat} {x1 : Int32}, pq_So_init_0 E mc ms Post G c s x0 x1 → ∀ {H : Heap} {locs : List Loc} {ls : Array Slot}, wo_Se E G H → va_S (en_A E) s₀.heap H locs → lx_has ls 2 [(0, 1, .ref x0), (1, 1, .int x1)] → c ≤ mc → s ≤ ms → W p l e R s₀ m args below meth cd H locs c s (MQ below (va_Qv Post (wo_B E) (en_A E)) args s₀ mc ms (en_A E)) (F0 m 0 ls []) := by
  intro G c s x0 x1 hw H locs ls hG hS hl hcc hss
  dsimp only [pq_So_init_0] at hw
  have hx := hC.1
  have hb := hC.2.1
  refine lv_aload_n hx hb dq_So_init_0 rfl (lx_at hl 0 rfl) ?_
  refine wo_objI hC lq_So_1 (lx_sz hl) (by decide) (lx_rk (Nat.le_of_ble_eq_true rfl)) dq_So_init_1 ?_
  refine lv_aload_n hx hb dq_So_init_4 rfl (lx_at hl 0 rfl) ?_
  obtain ⟨h1, hw⟩ := hw
  obtain ⟨h2, hw⟩ := hw
  refine wo_newc hC nq_So_7 hG hS h1 h2 dq_So_init_5 (fun q3 G6 H z4 b5 e7 hG hS => ?_)
  replace hw := hw q3 z4 b5 G6 e7
  replace hcc := h1
  replace hss := h2
  refine lv_dup hx hb dq_So_init_8 rfl ?_
  obtain ⟨mc8, ms9, hc1, hs1, hw⟩ := hw
  refine va_callv (wo_runI hC lq_So_9 (mq_Al_init hw) hG hS rfl (lx_sz hl) rfl (lx_rm (Nat.le_of_ble_eq_true rfl)) (by decide) dq_So_init_9 ⟨hc1, hs1⟩) hS (fun _ _ h => h) (fun _ h => h) (fun G10 t H locs ht hvm hw' hB _ _ hS => ?_)
  clear hw
  have hw := hw'
  clear hw'
  replace hG := wo_bk ht hB
  replace hcc := hc1
  replace hss := hs1
  obtain ⟨t11, hw⟩ := hw
  obtain ⟨h12, hw⟩ := hw
  refine wo_putR (x := (some q3)) hC fq_So_10 (Or.inr ⟨rfl, rfl⟩) rfl hG hS t11 h12 dq_So_init_12 (fun G13 H locs e14 hG hS => ?_)
  replace hw := hw G13 e14
  refine lv_aload_n hx hb dq_So_init_15 rfl (lx_at hl 0 rfl) ?_
  refine lv_iload_n hx hb dq_So_init_16 rfl (lx_at hl 1 rfl) ?_
  obtain ⟨h15, hw⟩ := hw
  refine wo_putI hC fq_So_16 (Or.inr ⟨rfl, rfl⟩) rfl (wo_ok_int _) hG hS (ty_sr e14 t11) h15 dq_So_init_17 (fun G16 H locs e17 hG hS => ?_)
  replace hw := hw G16 e17
  exact wo_vret hC hG hS hcc hss hw dq_So_init_20
set_option maxHeartbeats 4000000 in
theorem mq_So_init {l : Launch} {E : wo_E} {mc ms : Nat} {Post : wo_W → Prop} {G : wo_W} {x0 : Nat} {x1 : Int32} (hw : pq_So_init E mc ms Post G x0 x1) : Met l yq_So_init (Cond.code yq_So_init prog_10_method_1_code 2 ((Option.none : Option Jvm.ClassFile.FieldType)) :: vw_WG) { frames := 4, cells := mc, slots := ms, locals := 88 } (va_Pc [.ref x0, .int x1] (wo_Ok E G)) (va_Qv Post (wo_B E) (en_A E)) mc ms (en_A E) := by
  unfold pq_So_init at hw
  exact wo_met [(1, .ref x0), (1, .int x1)] rfl (by decide) (fun q hq => by simp only [List.mem_cons, List.not_mem_nil, or_false] at hq; rcases hq with rfl | rfl <;> first | rfl | exact lx_cR _) (Nat.le_of_ble_eq_true rfl) (fun p e R s m args below meth cd ls hC hG hS hl => tq_So_init_0 hC hw hG hS (lx_sub hl [0, 1] rfl) (Nat.zero_le _) (Nat.zero_le _))

theorem dq_EC_init_0 : decode prog_1_method_1_code 0 = .ok (.aload_n 0, 1) := by decide +kernel
theorem dq_EC_init_1 : decode prog_1_method_1_code 1 = .ok (.invokespecial 1, 3) := by decide +kernel
theorem dq_EC_init_4 : decode prog_1_method_1_code 4 = .ok (.aload_n 0, 1) := by decide +kernel
theorem dq_EC_init_5 : decode prog_1_method_1_code 5 = .ok (.iconst 3, 1) := by decide +kernel
theorem dq_EC_init_6 : decode prog_1_method_1_code 6 = .ok (.anewarray 9, 3) := by decide +kernel
theorem dq_EC_init_9 : decode prog_1_method_1_code 9 = .ok (.putfield 11, 3) := by decide +kernel
theorem dq_EC_init_12 : decode prog_1_method_1_code 12 = .ok (.aload_n 0, 1) := by decide +kernel
theorem dq_EC_init_13 : decode prog_1_method_1_code 13 = .ok (.new 15, 3) := by decide +kernel
theorem dq_EC_init_16 : decode prog_1_method_1_code 16 = .ok (.dup, 1) := by decide +kernel
theorem dq_EC_init_17 : decode prog_1_method_1_code 17 = .ok (.invokespecial 17, 3) := by decide +kernel
theorem dq_EC_init_20 : decode prog_1_method_1_code 20 = .ok (.putfield 18, 3) := by decide +kernel
theorem dq_EC_init_23 : decode prog_1_method_1_code 23 = .ok (.aload_n 0, 1) := by decide +kernel
theorem dq_EC_init_24 : decode prog_1_method_1_code 24 = .ok (.new 22, 3) := by decide +kernel
theorem dq_EC_init_27 : decode prog_1_method_1_code 27 = .ok (.dup, 1) := by decide +kernel
theorem dq_EC_init_28 : decode prog_1_method_1_code 28 = .ok (.invokespecial 24, 3) := by decide +kernel
theorem dq_EC_init_31 : decode prog_1_method_1_code 31 = .ok (.putfield 25, 3) := by decide +kernel
theorem dq_EC_init_34 : decode prog_1_method_1_code 34 = .ok (.aload_n 0, 1) := by decide +kernel
theorem dq_EC_init_35 : decode prog_1_method_1_code 35 = .ok (.iconst 2, 1) := by decide +kernel
theorem dq_EC_init_36 : decode prog_1_method_1_code 36 = .ok (.anewarray 29, 3) := by decide +kernel
theorem dq_EC_init_39 : decode prog_1_method_1_code 39 = .ok (.putfield 31, 3) := by decide +kernel
theorem dq_EC_init_42 : decode prog_1_method_1_code 42 = .ok (.aload_n 0, 1) := by decide +kernel
theorem dq_EC_init_43 : decode prog_1_method_1_code 43 = .ok (.new 35, 3) := by decide +kernel
theorem dq_EC_init_46 : decode prog_1_method_1_code 46 = .ok (.dup, 1) := by decide +kernel
theorem dq_EC_init_47 : decode prog_1_method_1_code 47 = .ok (.invokespecial 37, 3) := by decide +kernel
theorem dq_EC_init_50 : decode prog_1_method_1_code 50 = .ok (.putfield 38, 3) := by decide +kernel
theorem dq_EC_init_53 : decode prog_1_method_1_code 53 = .ok (.aload_n 0, 1) := by decide +kernel
theorem dq_EC_init_54 : decode prog_1_method_1_code 54 = .ok (.new 42, 3) := by decide +kernel
theorem dq_EC_init_57 : decode prog_1_method_1_code 57 = .ok (.dup, 1) := by decide +kernel
theorem dq_EC_init_58 : decode prog_1_method_1_code 58 = .ok (.iconst 0, 1) := by decide +kernel
theorem dq_EC_init_59 : decode prog_1_method_1_code 59 = .ok (.iload_n 1, 1) := by decide +kernel
theorem dq_EC_init_60 : decode prog_1_method_1_code 60 = .ok (.sipush 300, 3) := by decide +kernel
theorem dq_EC_init_63 : decode prog_1_method_1_code 63 = .ok (.invokestatic 44, 3) := by decide +kernel
theorem dq_EC_init_66 : decode prog_1_method_1_code 66 = .ok (.invokestatic 50, 3) := by decide +kernel
theorem dq_EC_init_69 : decode prog_1_method_1_code 69 = .ok (.invokespecial 53, 3) := by decide +kernel
theorem dq_EC_init_72 : decode prog_1_method_1_code 72 = .ok (.putfield 56, 3) := by decide +kernel
theorem dq_EC_init_75 : decode prog_1_method_1_code 75 = .ok (.iconst 0, 1) := by decide +kernel
theorem dq_EC_init_76 : decode prog_1_method_1_code 76 = .ok (.istore_n 2, 1) := by decide +kernel
theorem dq_EC_init_77 : decode prog_1_method_1_code 77 = .ok (.iload_n 2, 1) := by decide +kernel
theorem dq_EC_init_78 : decode prog_1_method_1_code 78 = .ok (.iconst 3, 1) := by decide +kernel
theorem dq_EC_init_79 : decode prog_1_method_1_code 79 = .ok (.if_icmp .ge 22, 3) := by decide +kernel
theorem dq_EC_init_82 : decode prog_1_method_1_code 82 = .ok (.aload_n 0, 1) := by decide +kernel
theorem dq_EC_init_83 : decode prog_1_method_1_code 83 = .ok (.getfield 11, 3) := by decide +kernel
theorem dq_EC_init_86 : decode prog_1_method_1_code 86 = .ok (.iload_n 2, 1) := by decide +kernel
theorem dq_EC_init_87 : decode prog_1_method_1_code 87 = .ok (.new 9, 3) := by decide +kernel
theorem dq_EC_init_90 : decode prog_1_method_1_code 90 = .ok (.dup, 1) := by decide +kernel
theorem dq_EC_init_91 : decode prog_1_method_1_code 91 = .ok (.invokespecial 60, 3) := by decide +kernel
theorem dq_EC_init_94 : decode prog_1_method_1_code 94 = .ok (.aastore, 1) := by decide +kernel
theorem dq_EC_init_95 : decode prog_1_method_1_code 95 = .ok (.iinc 2 1, 3) := by decide +kernel
theorem dq_EC_init_98 : decode prog_1_method_1_code 98 = .ok (.goto (-21), 3) := by decide +kernel
theorem dq_EC_init_101 : decode prog_1_method_1_code 101 = .ok (.return_, 1) := by decide +kernel
set_option maxRecDepth 100000 in
def pq_EC_init_77 (E : wo_E) (mc ms : Nat) (Post : wo_W → Prop) : Nat → wo_W → Nat → Nat → Nat → Int32 → Prop
  | 0 => fun _ _ _ _ _ => False
  | n + 1 => fun G c s x0 x2 => (((3 : Int32) ≤ x2 → Post G) ∧
  (¬ (3 : Int32) ≤ x2 → wo_ty G x0 = 1 ∧ ∀ r2 : Option Nat, r2 = wo_gr G 0 x0 → (c + 1) ≤ mc ∧ (s + 7) ≤ ms ∧ ∀ q6 : Nat, wo_ty G q6 = 0 → en_bs E ≤ q6 → ∀ G9 : wo_W, G9 = wo_new G q6 7 → 
    ∃ mc11 ms12 : Nat, ((c + 1) + mc11) ≤ mc ∧ ((s + 7) + ms12) ≤ ms ∧ pq_Cn_init E mc11 ms12 (fun G13 => 
    ∃ a14 : Nat, r2 = some a14 ∧ wo_ty G13 a14 = 64 ∧ vp_in x2 (wo_len G13 a14) ∧ en_bs E ≤ a14 ∧ wo_may G13 0 (some q6) ∧ ∀ G19 : wo_W, G19 = wo_ser G13 a14 x2.toNatClampNeg (some q6) → 
      pq_EC_init_77 E mc ms Post n G19 ((c + 1) + mc11) ((s + 7) + ms12) x0 (x2 + (1 : Int32))) G9 q6))
set_option maxRecDepth 100000 in
def pq_EC_init_0 (E : wo_E) (mc ms : Nat) (Post : wo_W → Prop) (G : wo_W) (c s : Nat) (x0 : Nat) (x1 : Int32) : Prop := ¬ (3 : Int32) < 0 ∧ (3 : Int32).toNatClampNeg ≤ 65536 ∧ (c + 1) ≤ mc ∧ (s + (3 : Int32).toNatClampNeg) ≤ ms ∧ ∀ q5 : Nat, wo_ty G q5 = 0 → en_bs E ≤ q5 → ∀ G8 : wo_W, G8 = wo_na G q5 64 (3 : Int32).toNatClampNeg → 
  wo_ty G8 x0 = 1 ∧ en_bs E ≤ x0 ∧ ∀ G12 : wo_W, G12 = wo_sr G8 0 x0 (some q5) → 
  ((c + 1) + 1) ≤ mc ∧ ((s + (3 : Int32).toNatClampNeg) + 2) ≤ ms ∧ ∀ q16 : Nat, wo_ty G12 q16 = 0 → en_bs E ≤ q16 → ∀ G19 : wo_W, G19 = wo_new G12 q16 2 → 
  ∃ mc21 ms22 : Nat, (((c + 1) + 1) + mc21) ≤ mc ∧ (((s + (3 : Int32).toNatClampNeg) + 2) + ms22) ≤ ms ∧ pq_Og_init E mc21 ms22 (fun G23 => 
  wo_ty G23 x0 = 1 ∧ en_bs E ≤ x0 ∧ ∀ G26 : wo_W, G26 = wo_sr G23 1 x0 (some q16) → 
    ((((c + 1) + 1) + mc21) + 1) ≤ mc ∧ ((((s + (3 : Int32).toNatClampNeg) + 2) + ms22) + 4) ≤ ms ∧ ∀ q30 : Nat, wo_ty G26 q30 = 0 → en_bs E ≤ q30 → ∀ G33 : wo_W, G33 = wo_new G26 q30 4 → 
    ∃ mc35 ms36 : Nat, (((((c + 1) + 1) + mc21) + 1) + mc35) ≤ mc ∧ (((((s + (3 : Int32).toNatClampNeg) + 2) + ms22) + 4) + ms36) ≤ ms ∧ pq_Sh_init E mc35 ms36 (fun G37 => 
    wo_ty G37 x0 = 1 ∧ en_bs E ≤ x0 ∧ ∀ G40 : wo_W, G40 = wo_sr G37 3 x0 (some q30) → 
      ¬ (2 : Int32) < 0 ∧ (2 : Int32).toNatClampNeg ≤ 65536 ∧ ((((((c + 1) + 1) + mc21) + 1) + mc35) + 1) ≤ mc ∧ ((((((s + (3 : Int32).toNatClampNeg) + 2) + ms22) + 4) + ms36) + (2 : Int32).toNatClampNeg) ≤ ms ∧ ∀ q46 : Nat, wo_ty G40 q46 = 0 → en_bs E ≤ q46 → ∀ G49 : wo_W, G49 = wo_na G40 q46 67 (2 : Int32).toNatClampNeg → 
      en_bs E ≤ x0 ∧ ∀ G52 : wo_W, G52 = wo_sr G49 4 x0 (some q46) → 
      (((((((c + 1) + 1) + mc21) + 1) + mc35) + 1) + 1) ≤ mc ∧ (((((((s + (3 : Int32).toNatClampNeg) + 2) + ms22) + 4) + ms36) + (2 : Int32).toNatClampNeg) + 3) ≤ ms ∧ ∀ q56 : Nat, wo_ty G52 q56 = 0 → en_bs E ≤ q56 → ∀ G59 : wo_W, G59 = wo_new G52 q56 3 → 
      ∃ mc61 ms62 : Nat, ((((((((c + 1) + 1) + mc21) + 1) + mc35) + 1) + 1) + mc61) ≤ mc ∧ ((((((((s + (3 : Int32).toNatClampNeg) + 2) + ms22) + 4) + ms36) + (2 : Int32).toNatClampNeg) + 3) + ms62) ≤ ms ∧ pq_Al_init E mc61 ms62 (fun G63 => 
      wo_ty G63 x0 = 1 ∧ en_bs E ≤ x0 ∧ ∀ G66 : wo_W, G66 = wo_sr G63 5 x0 (some q56) → 
        (((((((((c + 1) + 1) + mc21) + 1) + mc35) + 1) + 1) + mc61) + 1) ≤ mc ∧ (((((((((s + (3 : Int32).toNatClampNeg) + 2) + ms22) + 4) + ms36) + (2 : Int32).toNatClampNeg) + 3) + ms62) + 3) ≤ ms ∧ ∀ q70 : Nat, wo_ty G66 q70 = 0 → en_bs E ≤ q70 → ∀ G73 : wo_W, G73 = wo_new G66 q70 6 → 
        ∃ mc75 ms76 : Nat, ((((((((((c + 1) + 1) + mc21) + 1) + mc35) + 1) + 1) + mc61) + 1) + mc75) ≤ mc ∧ ((((((((((s + (3 : Int32).toNatClampNeg) + 2) + ms22) + 4) + ms36) + (2 : Int32).toNatClampNeg) + 3) + ms62) + 3) + ms76) ≤ ms ∧ pq_So_init E mc75 ms76 (fun G77 => 
        wo_ty G77 x0 = 1 ∧ en_bs E ≤ x0 ∧ ∀ G80 : wo_W, G80 = wo_sr G77 2 x0 (some q70) → 
          ∃ n1 : Nat, pq_EC_init_77 E mc ms Post n1 G80 ((((((((((c + 1) + 1) + mc21) + 1) + mc35) + 1) + 1) + mc61) + 1) + mc75) ((((((((((s + (3 : Int32).toNatClampNeg) + 2) + ms22) + 4) + ms36) + (2 : Int32).toNatClampNeg) + 3) + ms62) + 3) + ms76) x0 (0 : Int32)) G73 q70 (wo_max (0 : Int32) (wo_min x1 (300 : Int32)))) G59 q56) G33 q30) G19 q16
def pq_EC_init (E : wo_E) (mc ms : Nat) (Post : wo_W → Prop) (G : wo_W) (x0 : Nat) (x1 : Int32) : Prop := pq_EC_init_0 E mc ms Post G 0 0 x0 x1
set_option maxRecDepth 100000 in
set_option maxHeartbeats 4000000 in
theorem tq_EC_init_77 {p : Program} {l : Launch} {e : Env} {R : Room} {s₀ : State} {m : MethodId} {args : Array Value} {below : List Frame} {meth : Method} {cd : Code} {E : wo_E} {mc ms : Nat} {Post : wo_W → Prop} (hC : wo_Cx E "EdgeCache" prog_1_method_1_code 3 5 109 ((Option.none : Option Jvm.ClassFile.FieldType)) "<init>" mc ms p R s₀ m args meth cd) : ∀ n : Nat, ∀ {G : wo_W} {c s : Nat} {x0 : Nat} {x2 : Int32}, pq_EC_init_77 E mc ms Post n G c s x0 x2 → ∀ {H : Heap} {locs : List Loc} {ls : Array Slot}, wo_Se E G H → va_S (en_A E) s₀.heap H locs → lx_has ls 3 [(0, 1, .ref x0), (2, 1, .int x2)] → c ≤ mc → s ≤ ms → W p l e R s₀ m args below meth cd H locs c s (MQ below (va_Qv Post (wo_B E) (en_A E)) args s₀ mc ms (en_A E)) (F0 m 77 ls []) := by
  intro n
  induction n with
  | zero => intro G c s x0 x2 hw; exact hw.elim
  | succ n ih =>
    intro G c s x0 x2 hw H locs ls hG hS hl hcc hss
    dsimp only [pq_EC_init_77] at hw
    have hx := hC.1
    have hb := hC.2.1
    refine lv_iload_n hx hb dq_EC_init_77 rfl (lx_at hl 1 rfl) ?_
    refine lv_iconst (v := (3 : Int32)) hx hb dq_EC_init_78 rfl ?_
    refine lv_icmp_ge (tgt := 101) hx hb dq_EC_init_79 rfl (fun h => ?_) (fun h => ?_)
    · replace hw := hw.1 h
      exact wo_vret hC hG hS hcc hss hw dq_EC_init_101
    · replace hw := hw.2 h
      refine lv_aload_n hx hb dq_EC_init_82 rfl (lx_at hl 0 rfl) ?_
      obtain ⟨t1, hw⟩ := hw
      refine wo_getR hC fq_EC_11 rfl hG t1 dq_EC_init_83 (fun r2 e3 => ?_)
      replace hw := hw r2 e3
      refine lv_iload_n hx hb dq_EC_init_86 rfl (lx_at hl 1 rfl) ?_
      obtain ⟨h4, hw⟩ := hw
      obtain ⟨h5, hw⟩ := hw
      refine wo_newc hC nq_EC_9 hG hS h4 h5 dq_EC_init_87 (fun q6 G9 H z7 b8 e10 hG hS => ?_)
      replace hw := hw q6 z7 b8 G9 e10
      replace hcc := h4
      replace hss := h5
      refine lv_dup hx hb dq_EC_init_90 rfl ?_
      obtain ⟨mc11, ms12, hc1, hs1, hw⟩ := hw
      refine va_callv (wo_runN hC lq_EC_60 (mq_Cn_init hw) hG hS rfl (lx_sz hl) rfl (lx_rm (Nat.le_of_ble_eq_true rfl)) (by decide) dq_EC_init_91 ⟨hc1, hs1⟩) hS (fun _ _ h => h) (fun _ h => h) (fun G13 t H locs ht hvm hw' hB _ _ hS => ?_)
      clear hw
      have hw := hw'
      clear hw'
      replace hG := wo_bk ht hB
      replace hcc := hc1
      replace hss := hs1
      obtain ⟨a14, rfl, hw⟩ := hw
      obtain ⟨t15, hw⟩ := hw
      obtain ⟨h16, hw⟩ := hw
      obtain ⟨h17, hw⟩ := hw
      obtain ⟨h18, hw⟩ := hw
      refine wo_aast (x := (some q6)) (j := 0) hC rfl hG hS t15 h16 h17 h18 dq_EC_init_94 (fun G19 H locs e20 hG hS => ?_)
      replace hw := hw G19 e20
      refine lx_iinc (k := 1) (v := (x2 + (1 : Int32))) (lv' := [(2, 1, .int (x2 + (1 : Int32))), (0, 1, .ref x0)]) hx hb dq_EC_init_95 hl rfl rfl (by decide) rfl (fun ls hl' => ?_)
      clear hl
      have hl := hl'
      clear hl'
      refine lv_goto (tgt := 77) hx hb dq_EC_init_98 rfl ?_
      exact ih hw hG hS (lx_sub hl [1, 0] rfl) hcc hss
set_option maxRecDepth 100000 in
set_option maxHeartbeats 4000000 in
theorem tq_EC_init_0 {p : Program} {l : Launch} {e : Env} {R : Room} {s₀ : State} {m : MethodId} {args : Array Value} {below : List Frame} {meth : Method} {cd : Code} {E : wo_E} {mc ms : Nat} {Post : wo_W → Prop} (hC : wo_Cx E "EdgeCache" prog_1_method_1_code 3 5 109 ((Option.none : Option Jvm.ClassFile.FieldType)) "<init>" mc ms p R s₀ m args meth cd) : ∀ {G : wo_W} {c s : Nat} {x0 : Nat} {x1 : Int32}, pq_EC_init_0 E mc ms Post G c s x0 x1 → ∀ {H : Heap} {locs : List Loc} {ls : Array Slot}, wo_Se E G H → va_S (en_A E) s₀.heap H locs → lx_has ls 3 [(0, 1, .ref x0), (1, 1, .int x1)] → c ≤ mc → s ≤ ms → W p l e R s₀ m args below meth cd H locs c s (MQ below (va_Qv Post (wo_B E) (en_A E)) args s₀ mc ms (en_A E)) (F0 m 0 ls []) := by
  intro G c s x0 x1 hw H locs ls hG hS hl hcc hss
  dsimp only [pq_EC_init_0] at hw
  have hx := hC.1
  have hb := hC.2.1
  refine lv_aload_n hx hb dq_EC_init_0 rfl (lx_at hl 0 rfl) ?_
  refine wo_objI hC lq_EC_1 (lx_sz hl) (by decide) (lx_rk (Nat.le_of_ble_eq_true rfl)) dq_EC_init_1 ?_
  refine lv_aload_n hx hb dq_EC_init_4 rfl (lx_at hl 0 rfl) ?_
  refine lv_iconst (v := (3 : Int32)) hx hb dq_EC_init_5 rfl ?_
  obtain ⟨h1, hw⟩ := hw
  obtain ⟨h2, hw⟩ := hw
  obtain ⟨h3, hw⟩ := hw
  obtain ⟨h4, hw⟩ := hw
  refine wo_newq (j := 0) hC rfl (by decide) kq_EC_9 hG hS h1 h2 h3 h4 dq_EC_init_6 (fun q5 G8 H z6 b7 e9 hG hS => ?_)
  replace hw := hw q5 z6 b7 G8 e9
  replace hcc := h3
  replace hss := h4
  obtain ⟨t10, hw⟩ := hw
  obtain ⟨h11, hw⟩ := hw
  refine wo_putR (x := (some q5)) hC fq_EC_11 (Or.inr ⟨rfl, rfl⟩) rfl hG hS t10 h11 dq_EC_init_9 (fun G12 H locs e13 hG hS => ?_)
  replace hw := hw G12 e13
  refine lv_aload_n hx hb dq_EC_init_12 rfl (lx_at hl 0 rfl) ?_
  obtain ⟨h14, hw⟩ := hw
  obtain ⟨h15, hw⟩ := hw
  refine wo_newc hC nq_EC_15 hG hS h14 h15 dq_EC_init_13 (fun q16 G19 H z17 b18 e20 hG hS => ?_)
  replace hw := hw q16 z17 b18 G19 e20
  replace hcc := h14
  replace hss := h15
  refine lv_dup hx hb dq_EC_init_16 rfl ?_
  obtain ⟨mc21, ms22, hc1, hs1, hw⟩ := hw
  refine va_callv (wo_runN hC lq_EC_17 (mq_Og_init hw) hG hS rfl (lx_sz hl) rfl (lx_rm (Nat.le_of_ble_eq_true rfl)) (by decide) dq_EC_init_17 ⟨hc1, hs1⟩) hS (fun _ _ h => h) (fun _ h => h) (fun G23 t H locs ht hvm hw' hB _ _ hS => ?_)
  clear hw
  have hw := hw'
  clear hw'
  replace hG := wo_bk ht hB
  replace hcc := hc1
  replace hss := hs1
  obtain ⟨t24, hw⟩ := hw
  obtain ⟨h25, hw⟩ := hw
  refine wo_putR (x := (some q16)) hC fq_EC_18 (Or.inr ⟨rfl, rfl⟩) rfl hG hS t24 h25 dq_EC_init_20 (fun G26 H locs e27 hG hS => ?_)
  replace hw := hw G26 e27
  refine lv_aload_n hx hb dq_EC_init_23 rfl (lx_at hl 0 rfl) ?_
  obtain ⟨h28, hw⟩ := hw
  obtain ⟨h29, hw⟩ := hw
  refine wo_newc hC nq_EC_22 hG hS h28 h29 dq_EC_init_24 (fun q30 G33 H z31 b32 e34 hG hS => ?_)
  replace hw := hw q30 z31 b32 G33 e34
  replace hcc := h28
  replace hss := h29
  refine lv_dup hx hb dq_EC_init_27 rfl ?_
  obtain ⟨mc35, ms36, hc1, hs1, hw⟩ := hw
  refine va_callv (wo_runN hC lq_EC_24 (mq_Sh_init hw) hG hS rfl (lx_sz hl) rfl (lx_rm (Nat.le_of_ble_eq_true rfl)) (by decide) dq_EC_init_28 ⟨hc1, hs1⟩) hS (fun _ _ h => h) (fun _ h => h) (fun G37 t H locs ht hvm hw' hB _ _ hS => ?_)
  clear hw
  have hw := hw'
  clear hw'
  replace hG := wo_bk ht hB
  replace hcc := hc1
  replace hss := hs1
  obtain ⟨t38, hw⟩ := hw
  obtain ⟨h39, hw⟩ := hw
  refine wo_putR (x := (some q30)) hC fq_EC_25 (Or.inr ⟨rfl, rfl⟩) rfl hG hS t38 h39 dq_EC_init_31 (fun G40 H locs e41 hG hS => ?_)
  replace hw := hw G40 e41
  refine lv_aload_n hx hb dq_EC_init_34 rfl (lx_at hl 0 rfl) ?_
  refine lv_iconst (v := (2 : Int32)) hx hb dq_EC_init_35 rfl ?_
  obtain ⟨h42, hw⟩ := hw
  obtain ⟨h43, hw⟩ := hw
  obtain ⟨h44, hw⟩ := hw
  obtain ⟨h45, hw⟩ := hw
  refine wo_newq (j := 3) hC rfl (by decide) kq_EC_29 hG hS h42 h43 h44 h45 dq_EC_init_36 (fun q46 G49 H z47 b48 e50 hG hS => ?_)
  replace hw := hw q46 z47 b48 G49 e50
  replace hcc := h44
  replace hss := h45
  obtain ⟨h51, hw⟩ := hw
  refine wo_putR (x := (some q46)) hC fq_EC_31 (Or.inr ⟨rfl, rfl⟩) rfl hG hS (ty_na (by decide) z47 e50 (ty_sr e41 t38)) h51 dq_EC_init_39 (fun G52 H locs e53 hG hS => ?_)
  replace hw := hw G52 e53
  refine lv_aload_n hx hb dq_EC_init_42 rfl (lx_at hl 0 rfl) ?_
  obtain ⟨h54, hw⟩ := hw
  obtain ⟨h55, hw⟩ := hw
  refine wo_newc hC nq_EC_35 hG hS h54 h55 dq_EC_init_43 (fun q56 G59 H z57 b58 e60 hG hS => ?_)
  replace hw := hw q56 z57 b58 G59 e60
  replace hcc := h54
  replace hss := h55
  refine lv_dup hx hb dq_EC_init_46 rfl ?_
  obtain ⟨mc61, ms62, hc1, hs1, hw⟩ := hw
  refine va_callv (wo_runI hC lq_EC_37 (mq_Al_init hw) hG hS rfl (lx_sz hl) rfl (lx_rm (Nat.le_of_ble_eq_true rfl)) (by decide) dq_EC_init_47 ⟨hc1, hs1⟩) hS (fun _ _ h => h) (fun _ h => h) (fun G63 t H locs ht hvm hw' hB _ _ hS => ?_)
  clear hw
  have hw := hw'
  clear hw'
  replace hG := wo_bk ht hB
  replace hcc := hc1
  replace hss := hs1
  obtain ⟨t64, hw⟩ := hw
  obtain ⟨h65, hw⟩ := hw
  refine wo_putR (x := (some q56)) hC fq_EC_38 (Or.inr ⟨rfl, rfl⟩) rfl hG hS t64 h65 dq_EC_init_50 (fun G66 H locs e67 hG hS => ?_)
  replace hw := hw G66 e67
  refine lv_aload_n hx hb dq_EC_init_53 rfl (lx_at hl 0 rfl) ?_
  obtain ⟨h68, hw⟩ := hw
  obtain ⟨h69, hw⟩ := hw
  refine wo_newc hC nq_EC_42 hG hS h68 h69 dq_EC_init_54 (fun q70 G73 H z71 b72 e74 hG hS => ?_)
  replace hw := hw q70 z71 b72 G73 e74
  replace hcc := h68
  replace hss := h69
  refine lv_dup hx hb dq_EC_init_57 rfl ?_
  refine lv_iconst (v := (0 : Int32)) hx hb dq_EC_init_58 rfl ?_
  refine lv_iload_n hx hb dq_EC_init_59 rfl (lx_at hl 1 rfl) ?_
  refine lv_sipush (v := (300 : Int32)) hx hb dq_EC_init_60 rfl ?_
  refine wo_mmin hC lq_EC_44 (lx_sz hl) hcc hss (by decide) (lx_rk (Nat.le_of_ble_eq_true rfl)) dq_EC_init_63 ?_
  refine wo_mmax hC lq_EC_50 (lx_sz hl) hcc hss (by decide) (lx_rk (Nat.le_of_ble_eq_true rfl)) dq_EC_init_66 ?_
  obtain ⟨mc75, ms76, hc1, hs1, hw⟩ := hw
  refine va_callv (wo_runI hC lq_EC_53 (mq_So_init hw) hG hS rfl (lx_sz hl) rfl (lx_rm (Nat.le_of_ble_eq_true rfl)) (by decide) dq_EC_init_69 ⟨hc1, hs1⟩) hS (fun _ _ h => h) (fun _ h => h) (fun G77 t H locs ht hvm hw' hB _ _ hS => ?_)
  clear hw
  have hw := hw'
  clear hw'
  replace hG := wo_bk ht hB
  replace hcc := hc1
  replace hss := hs1
  obtain ⟨t78, hw⟩ := hw
  obtain ⟨h79, hw⟩ := hw
  refine wo_putR (x := (some q70)) hC fq_EC_56 (Or.inr ⟨rfl, rfl⟩) rfl hG hS t78 h79 dq_EC_init_72 (fun G80 H locs e81 hG hS => ?_)
  replace hw := hw G80 e81
  refine lv_iconst (v := (0 : Int32)) hx hb dq_EC_init_75 rfl ?_
  refine lx_istore_n (lv' := [(2, 1, .int (0 : Int32)), (0, 1, .ref x0), (1, 1, .int x1)]) hx hb dq_EC_init_76 rfl hl (by decide) rfl (fun ls hl' => ?_)
  clear hl
  have hl := hl'
  clear hl'
  obtain ⟨n1, hw⟩ := hw
  exact tq_EC_init_77 hC n1 hw hG hS (lx_sub hl [1, 0] rfl) hcc hss
set_option maxHeartbeats 4000000 in
theorem mq_EC_init {l : Launch} {E : wo_E} {mc ms : Nat} {Post : wo_W → Prop} {G : wo_W} {x0 : Nat} {x1 : Int32} (hw : pq_EC_init E mc ms Post G x0 x1) : Met l yq_EC_init (Cond.code yq_EC_init prog_1_method_1_code 3 ((Option.none : Option Jvm.ClassFile.FieldType)) :: vw_WG) { frames := 5, cells := mc, slots := ms, locals := 109 } (va_Pc [.ref x0, .int x1] (wo_Ok E G)) (va_Qv Post (wo_B E) (en_A E)) mc ms (en_A E) := by
  unfold pq_EC_init at hw
  exact wo_met [(1, .ref x0), (1, .int x1)] rfl (by decide) (fun q hq => by simp only [List.mem_cons, List.not_mem_nil, or_false] at hq; rcases hq with rfl | rfl <;> first | rfl | exact lx_cR _) (Nat.le_of_ble_eq_true rfl) (fun p e R s m args below meth cd ls hC hG hS hl => tq_EC_init_0 hC hw hG hS (lx_sub hl [0, 1] rfl) (Nat.zero_le _) (Nat.zero_le _))

theorem dq_As_newLength_0 : decode prog_36_method_27_code 0 = .ok (.iload_n 0, 1) := by decide +kernel
theorem dq_As_newLength_1 : decode prog_36_method_27_code 1 = .ok (.iload_n 1, 1) := by decide +kernel
theorem dq_As_newLength_2 : decode prog_36_method_27_code 2 = .ok (.iload_n 2, 1) := by decide +kernel
theorem dq_As_newLength_3 : decode prog_36_method_27_code 3 = .ok (.invokestatic 194, 3) := by decide +kernel
theorem dq_As_newLength_6 : decode prog_36_method_27_code 6 = .ok (.iadd, 1) := by decide +kernel
theorem dq_As_newLength_7 : decode prog_36_method_27_code 7 = .ok (.istore_n 3, 1) := by decide +kernel
theorem dq_As_newLength_8 : decode prog_36_method_27_code 8 = .ok (.iconst 0, 1) := by decide +kernel
theorem dq_As_newLength_9 : decode prog_36_method_27_code 9 = .ok (.iload_n 3, 1) := by decide +kernel
theorem dq_As_newLength_10 : decode prog_36_method_27_code 10 = .ok (.if_icmp .ge 11, 3) := by decide +kernel
theorem dq_As_newLength_13 : decode prog_36_method_27_code 13 = .ok (.iload_n 3, 1) := by decide +kernel
theorem dq_As_newLength_14 : decode prog_36_method_27_code 14 = .ok (.ldc 200, 2) := by decide +kernel
theorem dq_As_newLength_16 : decode prog_36_method_27_code 16 = .ok (.if_icmp .gt 5, 3) := by decide +kernel
theorem dq_As_newLength_19 : decode prog_36_method_27_code 19 = .ok (.iload_n 3, 1) := by decide +kernel
theorem dq_As_newLength_20 : decode prog_36_method_27_code 20 = .ok (.ireturn, 1) := by decide +kernel
set_option maxRecDepth 100000 in
def pq_As_newLength_0 (E : wo_E) (mc ms : Nat) (Post : Int32 → wo_W → Prop) (G : wo_W) (c s : Nat) (x0 : Int32) (x1 : Int32) (x2 : Int32) : Prop := (((x0 + (wo_max x1 x2)) ≤ (0 : Int32) → False) ∧
  (¬ (x0 + (wo_max x1 x2)) ≤ (0 : Int32) → (((2147483639 : Int32) < (x0 + (wo_max x1 x2)) → False) ∧
    (¬ (2147483639 : Int32) < (x0 + (wo_max x1 x2)) → Post (x0 + (wo_max x1 x2)) G))))
def pq_As_newLength (E : wo_E) (mc ms : Nat) (Post : Int32 → wo_W → Prop) (G : wo_W) (x0 : Int32) (x1 : Int32) (x2 : Int32) : Prop := pq_As_newLength_0 E mc ms Post G 0 0 x0 x1 x2
set_option maxRecDepth 100000 in
set_option maxHeartbeats 4000000 in
theorem tq_As_newLength_0 {p : Program} {l : Launch} {e : Env} {R : Room} {s₀ : State} {m : MethodId} {args : Array Value} {below : List Frame} {meth : Method} {cd : Code} {E : wo_E} {mc ms : Nat} {Post : Int32 → wo_W → Prop} (hC : wo_Cx E "jdk/internal/util/ArraysSupport" prog_36_method_27_code 4 1 28 ((Option.some Jvm.ClassFile.FieldType.int)) "newLength" mc ms p R s₀ m args meth cd) : ∀ {G : wo_W} {c s : Nat} {x0 : Int32} {x1 : Int32} {x2 : Int32}, pq_As_newLength_0 E mc ms Post G c s x0 x1 x2 → ∀ {H : Heap} {locs : List Loc} {ls : Array Slot}, wo_Se E G H → va_S (en_A E) s₀.heap H locs → lx_has ls 4 [(0, 1, .int x0), (1, 1, .int x1), (2, 1, .int x2)] → c ≤ mc → s ≤ ms → W p l e R s₀ m args below meth cd H locs c s (MQ below (va_Qi Post (wo_B E) (en_A E)) args s₀ mc ms (en_A E)) (F0 m 0 ls []) := by
  intro G c s x0 x1 x2 hw H locs ls hG hS hl hcc hss
  dsimp only [pq_As_newLength_0] at hw
  have hx := hC.1
  have hb := hC.2.1
  refine lv_iload_n hx hb dq_As_newLength_0 rfl (lx_at hl 0 rfl) ?_
  refine lv_iload_n hx hb dq_As_newLength_1 rfl (lx_at hl 1 rfl) ?_
  refine lv_iload_n hx hb dq_As_newLength_2 rfl (lx_at hl 2 rfl) ?_
  refine wo_mmax hC lq_As_194 (lx_sz hl) hcc hss (by decide) (lx_rk (Nat.le_of_ble_eq_true rfl)) dq_As_newLength_3 ?_
  refine lv_iadd hx hb dq_As_newLength_6 ?_
  refine lx_istore_n (lv' := [(3, 1, .int (x0 + (wo_max x1 x2))), (0, 1, .int x0), (1, 1, .int x1), (2, 1, .int x2)]) hx hb dq_As_newLength_7 rfl hl (by decide) rfl (fun ls hl' => ?_)
  clear hl
  have hl := hl'
  clear hl'
  refine lv_iconst (v := (0 : Int32)) hx hb dq_As_newLength_8 rfl ?_
  refine lv_iload_n hx hb dq_As_newLength_9 rfl (lx_at hl 0 rfl) ?_
  refine lv_icmp_ge (tgt := 21) hx hb dq_As_newLength_10 rfl (fun h => ?_) (fun h => ?_)
  · replace hw := hw.1 h
    exact hw.elim
  · replace hw := hw.2 h
    refine lv_iload_n hx hb dq_As_newLength_13 rfl (lx_at hl 0 rfl) ?_
    refine lv_ldc hx hb hC.2.2.2.2.2.1 (hC.2.2.2.2.2.2.1 _ cq_As_200) dq_As_newLength_14 ?_
    refine lv_icmp_gt (tgt := 21) hx hb dq_As_newLength_16 rfl (fun h => ?_) (fun h => ?_)
    · replace hw := hw.1 h
      exact hw.elim
    · replace hw := hw.2 h
      refine lv_iload_n hx hb dq_As_newLength_19 rfl (lx_at hl 0 rfl) ?_
      exact wo_iret hC hG hS hcc hss hw dq_As_newLength_20
set_option maxHeartbeats 4000000 in
theorem mq_As_newLength {l : Launch} {E : wo_E} {mc ms : Nat} {Post : Int32 → wo_W → Prop} {G : wo_W} {x0 : Int32} {x1 : Int32} {x2 : Int32} (hw : pq_As_newLength E mc ms Post G x0 x1 x2) : Met l yq_As_newLength (Cond.code yq_As_newLength prog_36_method_27_code 4 ((Option.some Jvm.ClassFile.FieldType.int)) :: vw_WG) { frames := 1, cells := mc, slots := ms, locals := 28 } (va_Pc [.int x0, .int x1, .int x2] (wo_Ok E G)) (va_Qi Post (wo_B E) (en_A E)) mc ms (en_A E) := by
  unfold pq_As_newLength at hw
  exact wo_met [(1, .int x0), (1, .int x1), (1, .int x2)] rfl (by decide) (fun q hq => by simp only [List.mem_cons, List.not_mem_nil, or_false] at hq; rcases hq with rfl | rfl | rfl <;> first | rfl | exact lx_cR _) (Nat.le_of_ble_eq_true rfl) (fun p e R s m args below meth cd ls hC hG hS hl => tq_As_newLength_0 hC hw hG hS (lx_sub hl [0, 1, 2] rfl) (Nat.zero_le _) (Nat.zero_le _))

theorem dq_AB_newCapacity_0 : decode prog_16_method_10_code 0 = .ok (.aload_n 0, 1) := by decide +kernel
theorem dq_AB_newCapacity_1 : decode prog_16_method_10_code 1 = .ok (.getfield 15, 3) := by decide +kernel
theorem dq_AB_newCapacity_4 : decode prog_16_method_10_code 4 = .ok (.arraylength, 1) := by decide +kernel
theorem dq_AB_newCapacity_5 : decode prog_16_method_10_code 5 = .ok (.istore_n 2, 1) := by decide +kernel
theorem dq_AB_newCapacity_6 : decode prog_16_method_10_code 6 = .ok (.iload_n 1, 1) := by decide +kernel
theorem dq_AB_newCapacity_7 : decode prog_16_method_10_code 7 = .ok (.aload_n 0, 1) := by decide +kernel
theorem dq_AB_newCapacity_8 : decode prog_16_method_10_code 8 = .ok (.getfield 22, 3) := by decide +kernel
theorem dq_AB_newCapacity_11 : decode prog_16_method_10_code 11 = .ok (.ishl, 1) := by decide +kernel
theorem dq_AB_newCapacity_12 : decode prog_16_method_10_code 12 = .ok (.istore_n 3, 1) := by decide +kernel
theorem dq_AB_newCapacity_13 : decode prog_16_method_10_code 13 = .ok (.iload_n 3, 1) := by decide +kernel
theorem dq_AB_newCapacity_14 : decode prog_16_method_10_code 14 = .ok (.iload_n 2, 1) := by decide +kernel
theorem dq_AB_newCapacity_15 : decode prog_16_method_10_code 15 = .ok (.isub, 1) := by decide +kernel
theorem dq_AB_newCapacity_16 : decode prog_16_method_10_code 16 = .ok (.istore 4, 2) := by decide +kernel
theorem dq_AB_newCapacity_18 : decode prog_16_method_10_code 18 = .ok (.iload_n 2, 1) := by decide +kernel
theorem dq_AB_newCapacity_19 : decode prog_16_method_10_code 19 = .ok (.iload 4, 2) := by decide +kernel
theorem dq_AB_newCapacity_21 : decode prog_16_method_10_code 21 = .ok (.iload_n 2, 1) := by decide +kernel
theorem dq_AB_newCapacity_22 : decode prog_16_method_10_code 22 = .ok (.iconst 2, 1) := by decide +kernel
theorem dq_AB_newCapacity_23 : decode prog_16_method_10_code 23 = .ok (.aload_n 0, 1) := by decide +kernel
theorem dq_AB_newCapacity_24 : decode prog_16_method_10_code 24 = .ok (.getfield 22, 3) := by decide +kernel
theorem dq_AB_newCapacity_27 : decode prog_16_method_10_code 27 = .ok (.ishl, 1) := by decide +kernel
theorem dq_AB_newCapacity_28 : decode prog_16_method_10_code 28 = .ok (.iadd, 1) := by decide +kernel
theorem dq_AB_newCapacity_29 : decode prog_16_method_10_code 29 = .ok (.invokestatic 114, 3) := by decide +kernel
theorem dq_AB_newCapacity_32 : decode prog_16_method_10_code 32 = .ok (.istore 5, 2) := by decide +kernel
theorem dq_AB_newCapacity_34 : decode prog_16_method_10_code 34 = .ok (.iload 5, 2) := by decide +kernel
theorem dq_AB_newCapacity_36 : decode prog_16_method_10_code 36 = .ok (.ldc 39, 2) := by decide +kernel
theorem dq_AB_newCapacity_38 : decode prog_16_method_10_code 38 = .ok (.if_icmp .ne 13, 3) := by decide +kernel
theorem dq_AB_newCapacity_51 : decode prog_16_method_10_code 51 = .ok (.iload 5, 2) := by decide +kernel
theorem dq_AB_newCapacity_53 : decode prog_16_method_10_code 53 = .ok (.aload_n 0, 1) := by decide +kernel
theorem dq_AB_newCapacity_54 : decode prog_16_method_10_code 54 = .ok (.getfield 22, 3) := by decide +kernel
theorem dq_AB_newCapacity_57 : decode prog_16_method_10_code 57 = .ok (.ishr, 1) := by decide +kernel
theorem dq_AB_newCapacity_58 : decode prog_16_method_10_code 58 = .ok (.ireturn, 1) := by decide +kernel
set_option maxRecDepth 100000 in
def pq_AB_newCapacity_0 (E : wo_E) (mc ms : Nat) (Post : Int32 → wo_W → Prop) (G : wo_W) (c s : Nat) (x0 : Nat) (x1 : Int32) : Prop := wo_ty G x0 = 5 ∧ ∀ r2 : Option Nat, r2 = wo_gr G 256 x0 → ∃ a4 : Nat, r2 = some a4 ∧ wo_ty G a4 = 65 ∧ ∃ mc6 ms7 : Nat, (c + mc6) ≤ mc ∧ (s + ms7) ≤ ms ∧ pq_As_newLength E mc6 ms7 (fun v9 G8 => 
  ((¬ v9 = (2147483647 : Int32) → wo_ty G8 x0 = 5 ∧ Post (v9 >>> ((wo_gi G8 257 x0) &&& 31)) G8) ∧
    (v9 = (2147483647 : Int32) → False))) G (nI (wo_len G a4)) ((x1 <<< ((wo_gi G 257 x0) &&& 31)) - (nI (wo_len G a4))) ((nI (wo_len G a4)) + ((2 : Int32) <<< ((wo_gi G 257 x0) &&& 31)))
def pq_AB_newCapacity (E : wo_E) (mc ms : Nat) (Post : Int32 → wo_W → Prop) (G : wo_W) (x0 : Nat) (x1 : Int32) : Prop := pq_AB_newCapacity_0 E mc ms Post G 0 0 x0 x1
set_option maxRecDepth 100000 in
set_option maxHeartbeats 4000000 in
theorem tq_AB_newCapacity_0 {p : Program} {l : Launch} {e : Env} {R : Room} {s₀ : State} {m : MethodId} {args : Array Value} {below : List Frame} {meth : Method} {cd : Code} {E : wo_E} {mc ms : Nat} {Post : Int32 → wo_W → Prop} (hC : wo_Cx E "java/lang/AbstractStringBuilder" prog_16_method_10_code 6 2 51 ((Option.some Jvm.ClassFile.FieldType.int)) "newCapacity" mc ms p R s₀ m args meth cd) : ∀ {G : wo_W} {c s : Nat} {x0 : Nat} {x1 : Int32}, pq_AB_newCapacity_0 E mc ms Post G c s x0 x1 → ∀ {H : Heap} {locs : List Loc} {ls : Array Slot}, wo_Se E G H → va_S (en_A E) s₀.heap H locs → lx_has ls 6 [(0, 1, .ref x0), (1, 1, .int x1)] → c ≤ mc → s ≤ ms → W p l e R s₀ m args below meth cd H locs c s (MQ below (va_Qi Post (wo_B E) (en_A E)) args s₀ mc ms (en_A E)) (F0 m 0 ls []) := by
  intro G c s x0 x1 hw H locs ls hG hS hl hcc hss
  dsimp only [pq_AB_newCapacity_0] at hw
  have hx := hC.1
  have hb := hC.2.1
  refine lv_aload_n hx hb dq_AB_newCapacity_0 rfl (lx_at hl 0 rfl) ?_
  obtain ⟨t1, hw⟩ := hw
  refine wo_getR hC fq_AB_15 rfl hG t1 dq_AB_newCapacity_1 (fun r2 e3 => ?_)
  replace hw := hw r2 e3
  obtain ⟨a4, rfl, hw⟩ := hw
  obtain ⟨t5, hw⟩ := hw
  refine wo_alen (j := 1) hC rfl hG t5 dq_AB_newCapacity_4 ?_
  refine lx_istore_n (lv' := [(2, 1, .int (nI (wo_len G a4))), (0, 1, .ref x0), (1, 1, .int x1)]) hx hb dq_AB_newCapacity_5 rfl hl (by decide) rfl (fun ls hl' => ?_)
  clear hl
  have hl := hl'
  clear hl'
  refine lv_iload_n hx hb dq_AB_newCapacity_6 rfl (lx_at hl 2 rfl) ?_
  refine lv_aload_n hx hb dq_AB_newCapacity_7 rfl (lx_at hl 1 rfl) ?_
  refine wo_getI hC fq_AB_22 rfl hG t1 dq_AB_newCapacity_8 ?_
  refine lv_ishl hx hb dq_AB_newCapacity_11 ?_
  refine lx_istore_n (lv' := [(3, 1, .int (x1 <<< ((wo_gi G 257 x0) &&& 31))), (2, 1, .int (nI (wo_len G a4))), (0, 1, .ref x0), (1, 1, .int x1)]) hx hb dq_AB_newCapacity_12 rfl hl (by decide) rfl (fun ls hl' => ?_)
  clear hl
  have hl := hl'
  clear hl'
  refine lv_iload_n hx hb dq_AB_newCapacity_13 rfl (lx_at hl 0 rfl) ?_
  refine lv_iload_n hx hb dq_AB_newCapacity_14 rfl (lx_at hl 1 rfl) ?_
  refine lv_isub hx hb dq_AB_newCapacity_15 ?_
  refine lx_istore (lv' := [(4, 1, .int ((x1 <<< ((wo_gi G 257 x0) &&& 31)) - (nI (wo_len G a4)))), (3, 1, .int (x1 <<< ((wo_gi G 257 x0) &&& 31))), (2, 1, .int (nI (wo_len G a4))), (0, 1, .ref x0), (1, 1, .int x1)]) hx hb dq_AB_newCapacity_16 hl (by decide) rfl (fun ls hl' => ?_)
  clear hl
  have hl := hl'
  clear hl'
  refine lv_iload_n hx hb dq_AB_newCapacity_18 rfl (lx_at hl 2 rfl) ?_
  refine lv_iload hx hb dq_AB_newCapacity_19 (lx_at hl 0 rfl) ?_
  refine lv_iload_n hx hb dq_AB_newCapacity_21 rfl (lx_at hl 2 rfl) ?_
  refine lv_iconst (v := (2 : Int32)) hx hb dq_AB_newCapacity_22 rfl ?_
  refine lv_aload_n hx hb dq_AB_newCapacity_23 rfl (lx_at hl 3 rfl) ?_
  refine wo_getI hC fq_AB_22 rfl hG t1 dq_AB_newCapacity_24 ?_
  refine lv_ishl hx hb dq_AB_newCapacity_27 ?_
  refine lv_iadd hx hb dq_AB_newCapacity_28 ?_
  obtain ⟨mc6, ms7, hc1, hs1, hw⟩ := hw
  refine va_calli (wo_runS hC lq_AB_114 (mq_As_newLength hw) hG hS rfl (lx_sz hl) rfl (Nat.zero_le _) (by decide) dq_AB_newCapacity_29 ⟨hc1, hs1⟩) hS (fun _ _ h => h) (fun _ h => h) (fun v9 G8 t H locs ht hvm hw' hB _ _ hS => ?_)
  clear hw
  have hw := hw'
  clear hw'
  replace hG := wo_bk ht hB
  replace hcc := hc1
  replace hss := hs1
  refine lx_istore (lv' := [(5, 1, .int v9), (4, 1, .int ((x1 <<< ((wo_gi G 257 x0) &&& 31)) - (nI (wo_len G a4)))), (3, 1, .int (x1 <<< ((wo_gi G 257 x0) &&& 31))), (2, 1, .int (nI (wo_len G a4))), (0, 1, .ref x0), (1, 1, .int x1)]) hx hb dq_AB_newCapacity_32 hl (by decide) rfl (fun ls hl' => ?_)
  clear hl
  have hl := hl'
  clear hl'
  refine lv_iload hx hb dq_AB_newCapacity_34 (lx_at hl 0 rfl) ?_
  refine lv_ldc hx hb hC.2.2.2.2.2.1 (hC.2.2.2.2.2.2.1 _ cq_AB_39) dq_AB_newCapacity_36 ?_
  refine lv_icmp_ne (tgt := 51) hx hb dq_AB_newCapacity_38 rfl (fun h => ?_) (fun h => ?_)
  · replace hw := hw.1 h
    refine lv_iload hx hb dq_AB_newCapacity_51 (lx_at hl 0 rfl) ?_
    refine lv_aload_n hx hb dq_AB_newCapacity_53 rfl (lx_at hl 4 rfl) ?_
    obtain ⟨t10, hw⟩ := hw
    refine wo_getI hC fq_AB_22 rfl hG t10 dq_AB_newCapacity_54 ?_
    refine lv_ishr hx hb dq_AB_newCapacity_57 ?_
    exact wo_iret hC hG hS hcc hss hw dq_AB_newCapacity_58
  · replace hw := hw.2 h
    exact hw.elim
set_option maxHeartbeats 4000000 in
theorem mq_AB_newCapacity {l : Launch} {E : wo_E} {mc ms : Nat} {Post : Int32 → wo_W → Prop} {G : wo_W} {x0 : Nat} {x1 : Int32} (hw : pq_AB_newCapacity E mc ms Post G x0 x1) : Met l yq_AB_newCapacity (Cond.code yq_AB_newCapacity prog_16_method_10_code 6 ((Option.some Jvm.ClassFile.FieldType.int)) :: vw_WG) { frames := 2, cells := mc, slots := ms, locals := 51 } (va_Pc [.ref x0, .int x1] (wo_Ok E G)) (va_Qi Post (wo_B E) (en_A E)) mc ms (en_A E) := by
  unfold pq_AB_newCapacity at hw
  exact wo_met [(1, .ref x0), (1, .int x1)] rfl (by decide) (fun q hq => by simp only [List.mem_cons, List.not_mem_nil, or_false] at hq; rcases hq with rfl | rfl <;> first | rfl | exact lx_cR _) (Nat.le_of_ble_eq_true rfl) (fun p e R s m args below meth cd ls hC hG hS hl => tq_AB_newCapacity_0 hC hw hG hS (lx_sub hl [0, 1] rfl) (Nat.zero_le _) (Nat.zero_le _))

theorem dq_Ar_copyOf_aBI_0 : decode prog_30_method_121_code 0 = .ok (.iload_n 1, 1) := by decide +kernel
theorem dq_Ar_copyOf_aBI_1 : decode prog_30_method_121_code 1 = .ok (.aload_n 0, 1) := by decide +kernel
theorem dq_Ar_copyOf_aBI_2 : decode prog_30_method_121_code 2 = .ok (.arraylength, 1) := by decide +kernel
theorem dq_Ar_copyOf_aBI_3 : decode prog_30_method_121_code 3 = .ok (.if_icmp .ne 11, 3) := by decide +kernel
theorem dq_Ar_copyOf_aBI_6 : decode prog_30_method_121_code 6 = .ok (.aload_n 0, 1) := by decide +kernel
theorem dq_Ar_copyOf_aBI_7 : decode prog_30_method_121_code 7 = .ok (.invokevirtual 310, 3) := by decide +kernel
theorem dq_Ar_copyOf_aBI_10 : decode prog_30_method_121_code 10 = .ok (.checkcast 311, 3) := by decide +kernel
theorem dq_Ar_copyOf_aBI_13 : decode prog_30_method_121_code 13 = .ok (.areturn, 1) := by decide +kernel
theorem dq_Ar_copyOf_aBI_14 : decode prog_30_method_121_code 14 = .ok (.iload_n 1, 1) := by decide +kernel
theorem dq_Ar_copyOf_aBI_15 : decode prog_30_method_121_code 15 = .ok (.newarray .byte, 2) := by decide +kernel
theorem dq_Ar_copyOf_aBI_17 : decode prog_30_method_121_code 17 = .ok (.astore_n 2, 1) := by decide +kernel
theorem dq_Ar_copyOf_aBI_18 : decode prog_30_method_121_code 18 = .ok (.aload_n 0, 1) := by decide +kernel
theorem dq_Ar_copyOf_aBI_19 : decode prog_30_method_121_code 19 = .ok (.iconst 0, 1) := by decide +kernel
theorem dq_Ar_copyOf_aBI_20 : decode prog_30_method_121_code 20 = .ok (.aload_n 2, 1) := by decide +kernel
theorem dq_Ar_copyOf_aBI_21 : decode prog_30_method_121_code 21 = .ok (.iconst 0, 1) := by decide +kernel
theorem dq_Ar_copyOf_aBI_22 : decode prog_30_method_121_code 22 = .ok (.aload_n 0, 1) := by decide +kernel
theorem dq_Ar_copyOf_aBI_23 : decode prog_30_method_121_code 23 = .ok (.arraylength, 1) := by decide +kernel
theorem dq_Ar_copyOf_aBI_24 : decode prog_30_method_121_code 24 = .ok (.iload_n 1, 1) := by decide +kernel
theorem dq_Ar_copyOf_aBI_25 : decode prog_30_method_121_code 25 = .ok (.invokestatic 304, 3) := by decide +kernel
theorem dq_Ar_copyOf_aBI_28 : decode prog_30_method_121_code 28 = .ok (.invokestatic 150, 3) := by decide +kernel
theorem dq_Ar_copyOf_aBI_31 : decode prog_30_method_121_code 31 = .ok (.aload_n 2, 1) := by decide +kernel
theorem dq_Ar_copyOf_aBI_32 : decode prog_30_method_121_code 32 = .ok (.areturn, 1) := by decide +kernel
set_option maxRecDepth 100000 in
def pq_Ar_copyOf_aBI_0 (E : wo_E) (mc ms : Nat) (Post : Option Nat → wo_W → Prop) (G : wo_W) (c s : Nat) (x0 : Option Nat) (x1 : Int32) : Prop := ∃ a1 : Nat, x0 = some a1 ∧ wo_ty G a1 = 65 ∧ ((¬ x1 = (nI (wo_len G a1)) → ¬ x1 < 0 ∧ x1.toNatClampNeg ≤ 65536 ∧ (c + 1) ≤ mc ∧ (s + x1.toNatClampNeg) ≤ ms ∧ ∀ q7 : Nat, wo_ty G q7 = 0 → en_bs E ≤ q7 → ∀ G10 : wo_W, G10 = wo_na G q7 65 x1.toNatClampNeg → 
    ¬ (0 : Int32) < 0 ∧ ¬ (0 : Int32) < 0 ∧ ¬ (wo_min (nI (wo_len G10 a1)) x1) < 0 ∧ (0 : Int32).toNatClampNeg + (wo_min (nI (wo_len G10 a1)) x1).toNatClampNeg ≤ wo_len G10 a1 ∧ (0 : Int32).toNatClampNeg + (wo_min (nI (wo_len G10 a1)) x1).toNatClampNeg ≤ wo_len G10 q7 ∧ en_bs E ≤ q7 ∧ wo_fitA .byte G10 a1 ∧ ∀ G19 : wo_W, G19 = wo_cpI G10 a1 q7 (0 : Int32).toNatClampNeg (0 : Int32).toNatClampNeg (wo_min (nI (wo_len G10 a1)) x1).toNatClampNeg → 
    Post (some q7) G19) ∧
  (x1 = (nI (wo_len G a1)) → en_bs E ≤ a1 ∧ wo_fitA .byte G a1 ∧ (c + 1) ≤ mc ∧ (s + wo_len G a1) ≤ ms ∧ ∀ q25 : Nat, wo_ty G q25 = 0 → en_bs E ≤ q25 → ∀ G28 : wo_W, G28 = wo_cln G a1 q25 → 
    wo_is G28 65 (some q25) ∧ (∀ a : Nat, (some q25) = some a → en_bs E ≤ a) ∧ Post (some q25) G28))
def pq_Ar_copyOf_aBI (E : wo_E) (mc ms : Nat) (Post : Option Nat → wo_W → Prop) (G : wo_W) (x0 : Option Nat) (x1 : Int32) : Prop := pq_Ar_copyOf_aBI_0 E mc ms Post G 0 0 x0 x1
set_option maxRecDepth 100000 in
set_option maxHeartbeats 4000000 in
theorem tq_Ar_copyOf_aBI_0 {p : Program} {l : Launch} {e : Env} {R : Room} {s₀ : State} {m : MethodId} {args : Array Value} {below : List Frame} {meth : Method} {cd : Code} {E : wo_E} {mc ms : Nat} {Post : Option Nat → wo_W → Prop} (hC : wo_Cx E "java/util/Arrays" prog_30_method_121_code 3 1 28 ((Option.some (Jvm.ClassFile.FieldType.array Jvm.ClassFile.FieldType.byte))) "copyOf" mc ms p R s₀ m args meth cd) : ∀ {G : wo_W} {c s : Nat} {x0 : Option Nat} {x1 : Int32}, pq_Ar_copyOf_aBI_0 E mc ms Post G c s x0 x1 → ∀ {H : Heap} {locs : List Loc} {ls : Array Slot}, wo_Se E G H → va_S (en_A E) s₀.heap H locs → lx_has ls 3 [(0, 1, va_rf x0), (1, 1, .int x1)] → c ≤ mc → s ≤ ms → W p l e R s₀ m args below meth cd H locs c s (MQ below (va_Qq Post (wo_B E) (en_A E)) args s₀ mc ms (en_A E)) (F0 m 0 ls []) := by
  intro G c s x0 x1 hw H locs ls hG hS hl hcc hss
  dsimp only [pq_Ar_copyOf_aBI_0] at hw
  have hx := hC.1
  have hb := hC.2.1
  refine lv_iload_n hx hb dq_Ar_copyOf_aBI_0 rfl (lx_at hl 1 rfl) ?_
  refine lx_aloadR_n hx hb dq_Ar_copyOf_aBI_1 rfl (lx_at hl 0 rfl) ?_
  obtain ⟨a1, rfl, hw⟩ := hw
  obtain ⟨t2, hw⟩ := hw
  refine wo_alen (j := 1) hC rfl hG t2 dq_Ar_copyOf_aBI_2 ?_
  refine lv_icmp_ne (tgt := 14) hx hb dq_Ar_copyOf_aBI_3 rfl (fun h => ?_) (fun h => ?_)
  · replace hw := hw.1 h
    refine lv_iload_n hx hb dq_Ar_copyOf_aBI_14 rfl (lx_at hl 1 rfl) ?_
    obtain ⟨h3, hw⟩ := hw
    obtain ⟨h4, hw⟩ := hw
    obtain ⟨h5, hw⟩ := hw
    obtain ⟨h6, hw⟩ := hw
    refine wo_newa (j := 1) (at_ := .byte) hC rfl rfl aq_1 hG hS h3 h4 h5 h6 dq_Ar_copyOf_aBI_15 (fun q7 G10 H z8 b9 e11 hG hS => ?_)
    replace hw := hw q7 z8 b9 G10 e11
    replace hcc := h5
    replace hss := h6
    refine lx_astore_n (lv' := [(2, 1, .ref q7), (0, 1, .ref a1), (1, 1, .int x1)]) hx hb dq_Ar_copyOf_aBI_17 rfl hl (by decide) rfl (fun ls hl' => ?_)
    clear hl
    have hl := hl'
    clear hl'
    refine lv_aload_n hx hb dq_Ar_copyOf_aBI_18 rfl (lx_at hl 1 rfl) ?_
    refine lv_iconst (v := (0 : Int32)) hx hb dq_Ar_copyOf_aBI_19 rfl ?_
    refine lv_aload_n hx hb dq_Ar_copyOf_aBI_20 rfl (lx_at hl 0 rfl) ?_
    refine lv_iconst (v := (0 : Int32)) hx hb dq_Ar_copyOf_aBI_21 rfl ?_
    refine lv_aload_n hx hb dq_Ar_copyOf_aBI_22 rfl (lx_at hl 1 rfl) ?_
    refine wo_alen (j := 1) hC rfl hG (ty_na (by decide) z8 e11 t2) dq_Ar_copyOf_aBI_23 ?_
    refine lv_iload_n hx hb dq_Ar_copyOf_aBI_24 rfl (lx_at hl 2 rfl) ?_
    refine wo_mmin hC lq_Ar_304 (lx_sz hl) hcc hss (by decide) (lx_rk (Nat.le_of_ble_eq_true rfl)) dq_Ar_copyOf_aBI_25 ?_
    obtain ⟨h12, hw⟩ := hw
    obtain ⟨h13, hw⟩ := hw
    obtain ⟨h14, hw⟩ := hw
    obtain ⟨h15, hw⟩ := hw
    obtain ⟨h16, hw⟩ := hw
    obtain ⟨h17, hw⟩ := hw
    obtain ⟨h18, hw⟩ := hw
    refine wo_cpyI (j := 1) hC rfl rfl lq_Ar_150 (lx_sz hl) hG hS (ty_na (by decide) z8 e11 t2) (ty_naq e11) h12 h13 h14 h15 h16 h17 h18 (by decide) (lx_rk (Nat.le_of_ble_eq_true rfl)) dq_Ar_copyOf_aBI_28 (fun G19 H locs e20 hG hS => ?_)
    replace hw := hw G19 e20
    refine lv_aload_n hx hb dq_Ar_copyOf_aBI_31 rfl (lx_at hl 0 rfl) ?_
    exact wo_aret (x := (some q7)) hC rfl hG hS hcc hss hw dq_Ar_copyOf_aBI_32
  · replace hw := hw.2 h
    refine lv_aload_n hx hb dq_Ar_copyOf_aBI_6 rfl (lx_at hl 0 rfl) ?_
    obtain ⟨h21, hw⟩ := hw
    obtain ⟨h22, hw⟩ := hw
    obtain ⟨h23, hw⟩ := hw
    obtain ⟨h24, hw⟩ := hw
    refine wo_clone (j := 1) hC rfl lq_Ar_310 (lx_sz hl) hG hS t2 h21 h22 h23 h24 (by decide) (Nat.le_of_ble_eq_true rfl) dq_Ar_copyOf_aBI_7 (fun q25 G28 H z26 b27 e29 hG hS => ?_)
    replace hw := hw q25 z26 b27 G28 e29
    replace hcc := h23
    replace hss := h24
    obtain ⟨h30, hw⟩ := hw
    obtain ⟨h31, hw⟩ := hw
    refine wo_castA (x := (some q25)) (j := 1) hC rfl kq_Ar_311 (by decide +kernel) hG h30 h31 dq_Ar_copyOf_aBI_10 ?_
    exact wo_aret (x := (some q25)) hC rfl hG hS hcc hss hw dq_Ar_copyOf_aBI_13
set_option maxHeartbeats 4000000 in
theorem mq_Ar_copyOf_aBI {l : Launch} {E : wo_E} {mc ms : Nat} {Post : Option Nat → wo_W → Prop} {G : wo_W} {x0 : Option Nat} {x1 : Int32} (hw : pq_Ar_copyOf_aBI E mc ms Post G x0 x1) : Met l yq_Ar_copyOf_aBI (Cond.code yq_Ar_copyOf_aBI prog_30_method_121_code 3 ((Option.some (Jvm.ClassFile.FieldType.array Jvm.ClassFile.FieldType.byte))) :: vw_WG) { frames := 1, cells := mc, slots := ms, locals := 28 } (va_Pc [va_rf x0, .int x1] (wo_Ok E G)) (va_Qq Post (wo_B E) (en_A E)) mc ms (en_A E) := by
  unfold pq_Ar_copyOf_aBI at hw
  exact wo_met [(1, va_rf x0), (1, .int x1)] rfl (by decide) (fun q hq => by simp only [List.mem_cons, List.not_mem_nil, or_false] at hq; rcases hq with rfl | rfl <;> first | rfl | exact lx_cR _) (Nat.le_of_ble_eq_true rfl) (fun p e R s m args below meth cd ls hC hG hS hl => tq_Ar_copyOf_aBI_0 hC hw hG hS (lx_sub hl [0, 1] rfl) (Nat.zero_le _) (Nat.zero_le _))

theorem dq_AB_ensureCapacityInternal_0 : decode prog_16_method_9_code 0 = .ok (.aload_n 0, 1) := by decide +kernel
theorem dq_AB_ensureCapacityInternal_1 : decode prog_16_method_9_code 1 = .ok (.getfield 15, 3) := by decide +kernel
theorem dq_AB_ensureCapacityInternal_4 : decode prog_16_method_9_code 4 = .ok (.arraylength, 1) := by decide +kernel
theorem dq_AB_ensureCapacityInternal_5 : decode prog_16_method_9_code 5 = .ok (.aload_n 0, 1) := by decide +kernel
theorem dq_AB_ensureCapacityInternal_6 : decode prog_16_method_9_code 6 = .ok (.getfield 22, 3) := by decide +kernel
theorem dq_AB_ensureCapacityInternal_9 : decode prog_16_method_9_code 9 = .ok (.ishr, 1) := by decide +kernel
theorem dq_AB_ensureCapacityInternal_10 : decode prog_16_method_9_code 10 = .ok (.istore_n 2, 1) := by decide +kernel
theorem dq_AB_ensureCapacityInternal_11 : decode prog_16_method_9_code 11 = .ok (.iload_n 1, 1) := by decide +kernel
theorem dq_AB_ensureCapacityInternal_12 : decode prog_16_method_9_code 12 = .ok (.iload_n 2, 1) := by decide +kernel
theorem dq_AB_ensureCapacityInternal_13 : decode prog_16_method_9_code 13 = .ok (.isub, 1) := by decide +kernel
theorem dq_AB_ensureCapacityInternal_14 : decode prog_16_method_9_code 14 = .ok (.ifCond .le 24, 3) := by decide +kernel
theorem dq_AB_ensureCapacityInternal_17 : decode prog_16_method_9_code 17 = .ok (.aload_n 0, 1) := by decide +kernel
theorem dq_AB_ensureCapacityInternal_18 : decode prog_16_method_9_code 18 = .ok (.aload_n 0, 1) := by decide +kernel
theorem dq_AB_ensureCapacityInternal_19 : decode prog_16_method_9_code 19 = .ok (.getfield 15, 3) := by decide +kernel
theorem dq_AB_ensureCapacityInternal_22 : decode prog_16_method_9_code 22 = .ok (.aload_n 0, 1) := by decide +kernel
theorem dq_AB_ensureCapacityInternal_23 : decode prog_16_method_9_code 23 = .ok (.iload_n 1, 1) := by decide +kernel
theorem dq_AB_ensureCapacityInternal_24 : decode prog_16_method_9_code 24 = .ok (.invokevirtual 104, 3) := by decide +kernel
theorem dq_AB_ensureCapacityInternal_27 : decode prog_16_method_9_code 27 = .ok (.aload_n 0, 1) := by decide +kernel
theorem dq_AB_ensureCapacityInternal_28 : decode prog_16_method_9_code 28 = .ok (.getfield 22, 3) := by decide +kernel
theorem dq_AB_ensureCapacityInternal_31 : decode prog_16_method_9_code 31 = .ok (.ishl, 1) := by decide +kernel
theorem dq_AB_ensureCapacityInternal_32 : decode prog_16_method_9_code 32 = .ok (.invokestatic 108, 3) := by decide +kernel
theorem dq_AB_ensureCapacityInternal_35 : decode prog_16_method_9_code 35 = .ok (.putfield 15, 3) := by decide +kernel
theorem dq_AB_ensureCapacityInternal_38 : decode prog_16_method_9_code 38 = .ok (.return_, 1) := by decide +kernel
set_option maxRecDepth 100000 in
def pq_AB_ensureCapacityInternal_38 (E : wo_E) (mc ms : Nat) (Post : wo_W → Prop) (G : wo_W) (c s : Nat) : Prop := Post G
set_option maxRecDepth 100000 in
def pq_AB_ensureCapacityInternal_0 (E : wo_E) (mc ms : Nat) (Post : wo_W → Prop) (G : wo_W) (c s : Nat) (x0 : Nat) (x1 : Int32) : Prop := wo_ty G x0 = 5 ∧ ∀ r2 : Option Nat, r2 = wo_gr G 256 x0 → ∃ a4 : Nat, r2 = some a4 ∧ wo_ty G a4 = 65 ∧ (((x1 - ((nI (wo_len G a4)) >>> ((wo_gi G 257 x0) &&& 31))) ≤ (0 : Int32) → pq_AB_ensureCapacityInternal_38 E mc ms Post G c s) ∧
  (¬ (x1 - ((nI (wo_len G a4)) >>> ((wo_gi G 257 x0) &&& 31))) ≤ (0 : Int32) → ∀ r6 : Option Nat, r6 = wo_gr G 256 x0 → ∃ mc8 ms9 : Nat, (c + mc8) ≤ mc ∧ (s + ms9) ≤ ms ∧ pq_AB_newCapacity E mc8 ms9 (fun v11 G10 => 
    wo_ty G10 x0 = 5 ∧ ∃ mc13 ms14 : Nat, ((c + mc8) + mc13) ≤ mc ∧ ((s + ms9) + ms14) ≤ ms ∧ pq_Ar_copyOf_aBI E mc13 ms14 (fun v16 G15 => 
      wo_ty G15 x0 = 5 ∧ en_bs E ≤ x0 ∧ ∀ G19 : wo_W, G19 = wo_sr G15 256 x0 v16 → 
        pq_AB_ensureCapacityInternal_38 E mc ms Post G19 ((c + mc8) + mc13) ((s + ms9) + ms14)) G10 r6 (v11 <<< ((wo_gi G10 257 x0) &&& 31))) G x0 x1))
def pq_AB_ensureCapacityInternal (E : wo_E) (mc ms : Nat) (Post : wo_W → Prop) (G : wo_W) (x0 : Nat) (x1 : Int32) : Prop := pq_AB_ensureCapacityInternal_0 E mc ms Post G 0 0 x0 x1
set_option maxRecDepth 100000 in
set_option maxHeartbeats 4000000 in
theorem tq_AB_ensureCapacityInternal_38 {p : Program} {l : Launch} {e : Env} {R : Room} {s₀ : State} {m : MethodId} {args : Array Value} {below : List Frame} {meth : Method} {cd : Code} {E : wo_E} {mc ms : Nat} {Post : wo_W → Prop} (hC : wo_Cx E "java/lang/AbstractStringBuilder" prog_16_method_9_code 3 3 76 ((Option.none : Option Jvm.ClassFile.FieldType)) "ensureCapacityInternal" mc ms p R s₀ m args meth cd) : ∀ {G : wo_W} {c s : Nat}, pq_AB_ensureCapacityInternal_38 E mc ms Post G c s → ∀ {H : Heap} {locs : List Loc} {ls : Array Slot}, wo_Se E G H → va_S (en_A E) s₀.heap H locs → lx_has ls 3 [] → c ≤ mc → s ≤ ms → W p l e R s₀ m args below meth cd H locs c s (MQ below (va_Qv Post (wo_B E) (en_A E)) args s₀ mc ms (en_A E)) (F0 m 38 ls []) := by
  intro G c s hw H locs ls hG hS hl hcc hss
  dsimp only [pq_AB_ensureCapacityInternal_38] at hw
  have hx := hC.1
  have hb := hC.2.1
  exact wo_vret hC hG hS hcc hss hw dq_AB_ensureCapacityInternal_38
set_option maxRecDepth 100000 in
set_option maxHeartbeats 4000000 in
theorem tq_AB_ensureCapacityInternal_0 {p : Program} {l : Launch} {e : Env} {R : Room} {s₀ : State} {m : MethodId} {args : Array Value} {below : List Frame} {meth : Method} {cd : Code} {E : wo_E} {mc ms : Nat} {Post : wo_W → Prop} (hC : wo_Cx E "java/lang/AbstractStringBuilder" prog_16_method_9_code 3 3 76 ((Option.none : Option Jvm.ClassFile.FieldType)) "ensureCapacityInternal" mc ms p R s₀ m args meth cd) : ∀ {G : wo_W} {c s : Nat} {x0 : Nat} {x1 : Int32}, pq_AB_ensureCapacityInternal_0 E mc ms Post G c s x0 x1 → ∀ {H : Heap} {locs : List Loc} {ls : Array Slot}, wo_Se E G H → va_S (en_A E) s₀.heap H locs → lx_has ls 3 [(0, 1, .ref x0), (1, 1, .int x1)] → c ≤ mc → s ≤ ms → W p l e R s₀ m args below meth cd H locs c s (MQ below (va_Qv Post (wo_B E) (en_A E)) args s₀ mc ms (en_A E)) (F0 m 0 ls []) := by
  intro G c s x0 x1 hw H locs ls hG hS hl hcc hss
  dsimp only [pq_AB_ensureCapacityInternal_0] at hw
  have hx := hC.1
  have hb := hC.2.1
  refine lv_aload_n hx hb dq_AB_ensureCapacityInternal_0 rfl (lx_at hl 0 rfl) ?_
  obtain ⟨t1, hw⟩ := hw
  refine wo_getR hC fq_AB_15 rfl hG t1 dq_AB_ensureCapacityInternal_1 (fun r2 e3 => ?_)
  replace hw := hw r2 e3
  obtain ⟨a4, rfl, hw⟩ := hw
  obtain ⟨t5, hw⟩ := hw
  refine wo_alen (j := 1) hC rfl hG t5 dq_AB_ensureCapacityInternal_4 ?_
  refine lv_aload_n hx hb dq_AB_ensureCapacityInternal_5 rfl (lx_at hl 0 rfl) ?_
  refine wo_getI hC fq_AB_22 rfl hG t1 dq_AB_ensureCapacityInternal_6 ?_
  refine lv_ishr hx hb dq_AB_ensureCapacityInternal_9 ?_
  refine lx_istore_n (lv' := [(2, 1, .int ((nI (wo_len G a4)) >>> ((wo_gi G 257 x0) &&& 31))), (0, 1, .ref x0), (1, 1, .int x1)]) hx hb dq_AB_ensureCapacityInternal_10 rfl hl (by decide) rfl (fun ls hl' => ?_)
  clear hl
  have hl := hl'
  clear hl'
  refine lv_iload_n hx hb dq_AB_ensureCapacityInternal_11 rfl (lx_at hl 2 rfl) ?_
  refine lv_iload_n hx hb dq_AB_ensureCapacityInternal_12 rfl (lx_at hl 0 rfl) ?_
  refine lv_isub hx hb dq_AB_ensureCapacityInternal_13 ?_
  refine lv_if_le (tgt := 38) hx hb dq_AB_ensureCapacityInternal_14 rfl (fun h => ?_) (fun h => ?_)
  · replace hw := hw.1 h
    exact tq_AB_ensureCapacityInternal_38 hC hw hG hS (lx_sub hl [] rfl) hcc hss
  · replace hw := hw.2 h
    refine lv_aload_n hx hb dq_AB_ensureCapacityInternal_17 rfl (lx_at hl 1 rfl) ?_
    refine lv_aload_n hx hb dq_AB_ensureCapacityInternal_18 rfl (lx_at hl 1 rfl) ?_
    refine wo_getR hC fq_AB_15 rfl hG t1 dq_AB_ensureCapacityInternal_19 (fun r6 e7 => ?_)
    replace hw := hw r6 e7
    refine lv_aload_n hx hb dq_AB_ensureCapacityInternal_22 rfl (lx_at hl 1 rfl) ?_
    refine lv_iload_n hx hb dq_AB_ensureCapacityInternal_23 rfl (lx_at hl 2 rfl) ?_
    obtain ⟨mc8, ms9, hc1, hs1, hw⟩ := hw
    refine va_calli (wo_runV hC lq_AB_104 (mq_AB_newCapacity hw) hG hS t1 rfl (lx_sz hl) rfl (lx_rm (Nat.le_of_ble_eq_true rfl)) (by decide) dq_AB_ensureCapacityInternal_24 ⟨hc1, hs1⟩) hS (fun _ _ h => h) (fun _ h => h) (fun v11 G10 t H locs ht hvm hw' hB _ _ hS => ?_)
    clear hw
    have hw := hw'
    clear hw'
    replace hG := wo_bk ht hB
    replace hcc := hc1
    replace hss := hs1
    refine lv_aload_n hx hb dq_AB_ensureCapacityInternal_27 rfl (lx_at hl 1 rfl) ?_
    obtain ⟨t12, hw⟩ := hw
    refine wo_getI hC fq_AB_22 rfl hG t12 dq_AB_ensureCapacityInternal_28 ?_
    refine lv_ishl hx hb dq_AB_ensureCapacityInternal_31 ?_
    obtain ⟨mc13, ms14, hc1, hs1, hw⟩ := hw
    refine va_callq (wo_runS hC lq_AB_108 (mq_Ar_copyOf_aBI hw) hG hS rfl (lx_sz hl) rfl (lx_rm (Nat.le_of_ble_eq_true rfl)) (by decide) dq_AB_ensureCapacityInternal_32 ⟨hc1, hs1⟩) hS (fun _ _ h => h) (fun _ h => h) (fun v16 G15 t H locs ht hvm hw' hB _ _ hS => ?_)
    clear hw
    have hw := hw'
    clear hw'
    replace hG := wo_bk ht hB
    replace hcc := hc1
    replace hss := hs1
    obtain ⟨t17, hw⟩ := hw
    obtain ⟨h18, hw⟩ := hw
    refine wo_putR (x := v16) hC fq_AB_15 (Or.inl rfl) rfl hG hS t17 h18 dq_AB_ensureCapacityInternal_35 (fun G19 H locs e20 hG hS => ?_)
    replace hw := hw G19 e20
    exact tq_AB_ensureCapacityInternal_38 hC hw hG hS (lx_sub hl [] rfl) hcc hss
set_option maxHeartbeats 4000000 in
theorem mq_AB_ensureCapacityInternal {l : Launch} {E : wo_E} {mc ms : Nat} {Post : wo_W → Prop} {G : wo_W} {x0 : Nat} {x1 : Int32} (hw : pq_AB_ensureCapacityInternal E mc ms Post G x0 x1) : Met l yq_AB_ensureCapacityInternal (Cond.code yq_AB_ensureCapacityInternal prog_16_method_9_code 3 ((Option.none : Option Jvm.ClassFile.FieldType)) :: vw_WG) { frames := 3, cells := mc, slots := ms, locals := 76 } (va_Pc [.ref x0, .int x1] (wo_Ok E G)) (va_Qv Post (wo_B E) (en_A E)) mc ms (en_A E) := by
  unfold pq_AB_ensureCapacityInternal at hw
  exact wo_met [(1, .ref x0), (1, .int x1)] rfl (by decide) (fun q hq => by simp only [List.mem_cons, List.not_mem_nil, or_false] at hq; rcases hq with rfl | rfl <;> first | rfl | exact lx_cR _) (Nat.le_of_ble_eq_true rfl) (fun p e R s m args below meth cd ls hC hG hS hl => tq_AB_ensureCapacityInternal_0 hC hw hG hS (lx_sub hl [0, 1] rfl) (Nat.zero_le _) (Nat.zero_le _))

theorem dq_AB_isLatin1_0 : decode prog_16_method_68_code 0 = .ok (.getstatic 18, 3) := by decide +kernel
theorem dq_AB_isLatin1_3 : decode prog_16_method_68_code 3 = .ok (.ifCond .eq 14, 3) := by decide +kernel
theorem dq_AB_isLatin1_6 : decode prog_16_method_68_code 6 = .ok (.aload_n 0, 1) := by decide +kernel
theorem dq_AB_isLatin1_7 : decode prog_16_method_68_code 7 = .ok (.getfield 22, 3) := by decide +kernel
theorem dq_AB_isLatin1_10 : decode prog_16_method_68_code 10 = .ok (.ifCond .ne 7, 3) := by decide +kernel
theorem dq_AB_isLatin1_13 : decode prog_16_method_68_code 13 = .ok (.iconst 1, 1) := by decide +kernel
theorem dq_AB_isLatin1_14 : decode prog_16_method_68_code 14 = .ok (.goto 4, 3) := by decide +kernel
theorem dq_AB_isLatin1_17 : decode prog_16_method_68_code 17 = .ok (.iconst 0, 1) := by decide +kernel
theorem dq_AB_isLatin1_18 : decode prog_16_method_68_code 18 = .ok (.ireturn, 1) := by decide +kernel
set_option maxRecDepth 100000 in
def pq_AB_isLatin1_18 (E : wo_E) (mc ms : Nat) (Post : Int32 → wo_W → Prop) (G : wo_W) (c s : Nat) (y0 : Int32) : Prop := wo_okI .boolean y0 ∧ Post y0 G
set_option maxRecDepth 100000 in
def pq_AB_isLatin1_17 (E : wo_E) (mc ms : Nat) (Post : Int32 → wo_W → Prop) (G : wo_W) (c s : Nat) : Prop := pq_AB_isLatin1_18 E mc ms Post G c s (0 : Int32)
set_option maxRecDepth 100000 in
def pq_AB_isLatin1_0 (E : wo_E) (mc ms : Nat) (Post : Int32 → wo_W → Prop) (G : wo_W) (c s : Nat) (x0 : Nat) : Prop := wo_ty G x0 = 5 ∧ ((¬ (wo_gi G 257 x0) = (0 : Int32) → pq_AB_isLatin1_17 E mc ms Post G c s) ∧
  ((wo_gi G 257 x0) = (0 : Int32) → pq_AB_isLatin1_18 E mc ms Post G c s (1 : Int32)))
def pq_AB_isLatin1 (E : wo_E) (mc ms : Nat) (Post : Int32 → wo_W → Prop) (G : wo_W) (x0 : Nat) : Prop := pq_AB_isLatin1_0 E mc ms Post G 0 0 x0
set_option maxRecDepth 100000 in
set_option maxHeartbeats 4000000 in
theorem tq_AB_isLatin1_18 {p : Program} {l : Launch} {e : Env} {R : Room} {s₀ : State} {m : MethodId} {args : Array Value} {below : List Frame} {meth : Method} {cd : Code} {E : wo_E} {mc ms : Nat} {Post : Int32 → wo_W → Prop} (hC : wo_Cx E "java/lang/AbstractStringBuilder" prog_16_method_68_code 1 0 0 ((Option.some Jvm.ClassFile.FieldType.boolean)) "isLatin1" mc ms p R s₀ m args meth cd) : ∀ {G : wo_W} {c s : Nat} {y0 : Int32}, pq_AB_isLatin1_18 E mc ms Post G c s y0 → ∀ {H : Heap} {locs : List Loc} {ls : Array Slot}, wo_Se E G H → va_S (en_A E) s₀.heap H locs → lx_has ls 1 [] → c ≤ mc → s ≤ ms → W p l e R s₀ m args below meth cd H locs c s (MQ below (va_Qi Post (wo_B E) (en_A E)) args s₀ mc ms (en_A E)) (F0 m 18 ls [.int y0]) := by
  intro G c s y0 hw H locs ls hG hS hl hcc hss
  dsimp only [pq_AB_isLatin1_18] at hw
  have hx := hC.1
  have hb := hC.2.1
  obtain ⟨h1, hw⟩ := hw
  exact wo_zret hC h1.1 hG hS hcc hss hw dq_AB_isLatin1_18
set_option maxRecDepth 100000 in
set_option maxHeartbeats 4000000 in
theorem tq_AB_isLatin1_17 {p : Program} {l : Launch} {e : Env} {R : Room} {s₀ : State} {m : MethodId} {args : Array Value} {below : List Frame} {meth : Method} {cd : Code} {E : wo_E} {mc ms : Nat} {Post : Int32 → wo_W → Prop} (hC : wo_Cx E "java/lang/AbstractStringBuilder" prog_16_method_68_code 1 0 0 ((Option.some Jvm.ClassFile.FieldType.boolean)) "isLatin1" mc ms p R s₀ m args meth cd) : ∀ {G : wo_W} {c s : Nat}, pq_AB_isLatin1_17 E mc ms Post G c s → ∀ {H : Heap} {locs : List Loc} {ls : Array Slot}, wo_Se E G H → va_S (en_A E) s₀.heap H locs → lx_has ls 1 [] → c ≤ mc → s ≤ ms → W p l e R s₀ m args below meth cd H locs c s (MQ below (va_Qi Post (wo_B E) (en_A E)) args s₀ mc ms (en_A E)) (F0 m 17 ls []) := by
  intro G c s hw H locs ls hG hS hl hcc hss
  dsimp only [pq_AB_isLatin1_17] at hw
  have hx := hC.1
  have hb := hC.2.1
  refine lv_iconst (v := (0 : Int32)) hx hb dq_AB_isLatin1_17 rfl ?_
  exact tq_AB_isLatin1_18 hC hw hG hS (lx_sub hl [] rfl) hcc hss
set_option maxRecDepth 100000 in
set_option maxHeartbeats 4000000 in
theorem tq_AB_isLatin1_0 {p : Program} {l : Launch} {e : Env} {R : Room} {s₀ : State} {m : MethodId} {args : Array Value} {below : List Frame} {meth : Method} {cd : Code} {E : wo_E} {mc ms : Nat} {Post : Int32 → wo_W → Prop} (hC : wo_Cx E "java/lang/AbstractStringBuilder" prog_16_method_68_code 1 0 0 ((Option.some Jvm.ClassFile.FieldType.boolean)) "isLatin1" mc ms p R s₀ m args meth cd) : ∀ {G : wo_W} {c s : Nat} {x0 : Nat}, pq_AB_isLatin1_0 E mc ms Post G c s x0 → ∀ {H : Heap} {locs : List Loc} {ls : Array Slot}, wo_Se E G H → va_S (en_A E) s₀.heap H locs → lx_has ls 1 [(0, 1, .ref x0)] → c ≤ mc → s ≤ ms → W p l e R s₀ m args below meth cd H locs c s (MQ below (va_Qi Post (wo_B E) (en_A E)) args s₀ mc ms (en_A E)) (F0 m 0 ls []) := by
  intro G c s x0 hw H locs ls hG hS hl hcc hss
  dsimp only [pq_AB_isLatin1_0] at hw
  have hx := hC.1
  have hb := hC.2.1
  refine wo_gstI hC sq_AB_18 hS dq_AB_isLatin1_0 ?_
  refine lv_if_eq (tgt := 17) hx hb dq_AB_isLatin1_3 rfl (fun h => absurd h (by decide)) (fun _ => ?_)
  refine lv_aload_n hx hb dq_AB_isLatin1_6 rfl (lx_at hl 0 rfl) ?_
  obtain ⟨t1, hw⟩ := hw
  refine wo_getI hC fq_AB_22 rfl hG t1 dq_AB_isLatin1_7 ?_
  refine lv_if_ne (tgt := 17) hx hb dq_AB_isLatin1_10 rfl (fun h => ?_) (fun h => ?_)
  · replace hw := hw.1 h
    exact tq_AB_isLatin1_17 hC hw hG hS (lx_sub hl [] rfl) hcc hss
  · replace hw := hw.2 h
    refine lv_iconst (v := (1 : Int32)) hx hb dq_AB_isLatin1_13 rfl ?_
    refine lv_goto (tgt := 18) hx hb dq_AB_isLatin1_14 rfl ?_
    exact tq_AB_isLatin1_18 hC hw hG hS (lx_sub hl [] rfl) hcc hss
set_option maxHeartbeats 4000000 in
theorem mq_AB_isLatin1 {l : Launch} {E : wo_E} {mc ms : Nat} {Post : Int32 → wo_W → Prop} {G : wo_W} {x0 : Nat} (hw : pq_AB_isLatin1 E mc ms Post G x0) : Met l yq_AB_isLatin1 (Cond.code yq_AB_isLatin1 prog_16_method_68_code 1 ((Option.some Jvm.ClassFile.FieldType.boolean)) :: vw_WG) { frames := 0, cells := mc, slots := ms, locals := 0 } (va_Pc [.ref x0] (wo_Ok E G)) (va_Qi Post (wo_B E) (en_A E)) mc ms (en_A E) := by
  unfold pq_AB_isLatin1 at hw
  exact wo_met [(1, .ref x0)] rfl (by decide) (fun q hq => by simp only [List.mem_cons, List.not_mem_nil, or_false] at hq; rcases hq with rfl <;> first | rfl | exact lx_cR _) (Nat.le_of_ble_eq_true rfl) (fun p e R s m args below meth cd ls hC hG hS hl => tq_AB_isLatin1_0 hC hw hG hS (lx_sub hl [0] rfl) (Nat.zero_le _) (Nat.zero_le _))

theorem dq_La_canEncode_C_0 : decode prog_24_method_3_code 0 = .ok (.iload_n 0, 1) := by decide +kernel
theorem dq_La_canEncode_C_1 : decode prog_24_method_3_code 1 = .ok (.sipush 255, 3) := by decide +kernel
theorem dq_La_canEncode_C_4 : decode prog_24_method_3_code 4 = .ok (.if_icmp .gt 7, 3) := by decide +kernel
theorem dq_La_canEncode_C_7 : decode prog_24_method_3_code 7 = .ok (.iconst 1, 1) := by decide +kernel
theorem dq_La_canEncode_C_8 : decode prog_24_method_3_code 8 = .ok (.goto 4, 3) := by decide +kernel
theorem dq_La_canEncode_C_11 : decode prog_24_method_3_code 11 = .ok (.iconst 0, 1) := by decide +kernel
theorem dq_La_canEncode_C_12 : decode prog_24_method_3_code 12 = .ok (.ireturn, 1) := by decide +kernel
set_option maxRecDepth 100000 in
def pq_La_canEncode_C_12 (E : wo_E) (mc ms : Nat) (Post : Int32 → wo_W → Prop) (G : wo_W) (c s : Nat) (y0 : Int32) : Prop := wo_okI .boolean y0 ∧ Post y0 G
set_option maxRecDepth 100000 in
def pq_La_canEncode_C_0 (E : wo_E) (mc ms : Nat) (Post : Int32 → wo_W → Prop) (G : wo_W) (c s : Nat) (x0 : Int32) : Prop := (((255 : Int32) < x0 → pq_La_canEncode_C_12 E mc ms Post G c s (0 : Int32)) ∧
  (¬ (255 : Int32) < x0 → pq_La_canEncode_C_12 E mc ms Post G c s (1 : Int32)))
def pq_La_canEncode_C (E : wo_E) (mc ms : Nat) (Post : Int32 → wo_W → Prop) (G : wo_W) (x0 : Int32) : Prop := pq_La_canEncode_C_0 E mc ms Post G 0 0 x0
set_option maxRecDepth 100000 in
set_option maxHeartbeats 4000000 in
theorem tq_La_canEncode_C_12 {p : Program} {l : Launch} {e : Env} {R : Room} {s₀ : State} {m : MethodId} {args : Array Value} {below : List Frame} {meth : Method} {cd : Code} {E : wo_E} {mc ms : Nat} {Post : Int32 → wo_W → Prop} (hC : wo_Cx E "java/lang/StringLatin1" prog_24_method_3_code 1 0 0 ((Option.some Jvm.ClassFile.FieldType.boolean)) "canEncode" mc ms p R s₀ m args meth cd) : ∀ {G : wo_W} {c s : Nat} {y0 : Int32}, pq_La_canEncode_C_12 E mc ms Post G c s y0 → ∀ {H : Heap} {locs : List Loc} {ls : Array Slot}, wo_Se E G H → va_S (en_A E) s₀.heap H locs → lx_has ls 1 [] → c ≤ mc → s ≤ ms → W p l e R s₀ m args below meth cd H locs c s (MQ below (va_Qi Post (wo_B E) (en_A E)) args s₀ mc ms (en_A E)) (F0 m 12 ls [.int y0]) := by
  intro G c s y0 hw H locs ls hG hS hl hcc hss
  dsimp only [pq_La_canEncode_C_12] at hw
  have hx := hC.1
  have hb := hC.2.1
  obtain ⟨h1, hw⟩ := hw
  exact wo_zret hC h1.1 hG hS hcc hss hw dq_La_canEncode_C_12
set_option maxRecDepth 100000 in
set_option maxHeartbeats 4000000 in
theorem tq_La_canEncode_C_0 {p : Program} {l : Launch} {e : Env} {R : Room} {s₀ : State} {m : MethodId} {args : Array Value} {below : List Frame} {meth : Method} {cd : Code} {E : wo_E} {mc ms : Nat} {Post : Int32 → wo_W → Prop} (hC : wo_Cx E "java/lang/StringLatin1" prog_24_method_3_code 1 0 0 ((Option.some Jvm.ClassFile.FieldType.boolean)) "canEncode" mc ms p R s₀ m args meth cd) : ∀ {G : wo_W} {c s : Nat} {x0 : Int32}, pq_La_canEncode_C_0 E mc ms Post G c s x0 → ∀ {H : Heap} {locs : List Loc} {ls : Array Slot}, wo_Se E G H → va_S (en_A E) s₀.heap H locs → lx_has ls 1 [(0, 1, .int x0)] → c ≤ mc → s ≤ ms → W p l e R s₀ m args below meth cd H locs c s (MQ below (va_Qi Post (wo_B E) (en_A E)) args s₀ mc ms (en_A E)) (F0 m 0 ls []) := by
  intro G c s x0 hw H locs ls hG hS hl hcc hss
  dsimp only [pq_La_canEncode_C_0] at hw
  have hx := hC.1
  have hb := hC.2.1
  refine lv_iload_n hx hb dq_La_canEncode_C_0 rfl (lx_at hl 0 rfl) ?_
  refine lv_sipush (v := (255 : Int32)) hx hb dq_La_canEncode_C_1 rfl ?_
  refine lv_icmp_gt (tgt := 11) hx hb dq_La_canEncode_C_4 rfl (fun h => ?_) (fun h => ?_)
  · replace hw := hw.1 h
    refine lv_iconst (v := (0 : Int32)) hx hb dq_La_canEncode_C_11 rfl ?_
    exact tq_La_canEncode_C_12 hC hw hG hS (lx_sub hl [] rfl) hcc hss
  · replace hw := hw.2 h
    refine lv_iconst (v := (1 : Int32)) hx hb dq_La_canEncode_C_7 rfl ?_
    refine lv_goto (tgt := 12) hx hb dq_La_canEncode_C_8 rfl ?_
    exact tq_La_canEncode_C_12 hC hw hG hS (lx_sub hl [] rfl) hcc hss
set_option maxHeartbeats 4000000 in
theorem mq_La_canEncode_C {l : Launch} {E : wo_E} {mc ms : Nat} {Post : Int32 → wo_W → Prop} {G : wo_W} {x0 : Int32} (hw : pq_La_canEncode_C E mc ms Post G x0) : Met l yq_La_canEncode_C (Cond.code yq_La_canEncode_C prog_24_method_3_code 1 ((Option.some Jvm.ClassFile.FieldType.boolean)) :: vw_WG) { frames := 0, cells := mc, slots := ms, locals := 0 } (va_Pc [.int x0] (wo_Ok E G)) (va_Qi Post (wo_B E) (en_A E)) mc ms (en_A E) := by
  unfold pq_La_canEncode_C at hw
  exact wo_met [(1, .int x0)] rfl (by decide) (fun q hq => by simp only [List.mem_cons, List.not_mem_nil, or_false] at hq; rcases hq with rfl <;> first | rfl | exact lx_cR _) (Nat.le_of_ble_eq_true rfl) (fun p e R s m args below meth cd ls hC hG hS hl => tq_La_canEncode_C_0 hC hw hG hS (lx_sub hl [0] rfl) (Nat.zero_le _) (Nat.zero_le _))

theorem dq_AB_append_C_0 : decode prog_16_method_31_code 0 = .ok (.aload_n 0, 1) := by decide +kernel
theorem dq_AB_append_C_1 : decode prog_16_method_31_code 1 = .ok (.aload_n 0, 1) := by decide +kernel
theorem dq_AB_append_C_2 : decode prog_16_method_31_code 2 = .ok (.getfield 79, 3) := by decide +kernel
theorem dq_AB_append_C_5 : decode prog_16_method_31_code 5 = .ok (.iconst 1, 1) := by decide +kernel
theorem dq_AB_append_C_6 : decode prog_16_method_31_code 6 = .ok (.iadd, 1) := by decide +kernel
theorem dq_AB_append_C_7 : decode prog_16_method_31_code 7 = .ok (.invokevirtual 100, 3) := by decide +kernel
theorem dq_AB_append_C_10 : decode prog_16_method_31_code 10 = .ok (.aload_n 0, 1) := by decide +kernel
theorem dq_AB_append_C_11 : decode prog_16_method_31_code 11 = .ok (.invokevirtual 83, 3) := by decide +kernel
theorem dq_AB_append_C_14 : decode prog_16_method_31_code 14 = .ok (.ifCond .eq 31, 3) := by decide +kernel
theorem dq_AB_append_C_17 : decode prog_16_method_31_code 17 = .ok (.iload_n 1, 1) := by decide +kernel
theorem dq_AB_append_C_18 : decode prog_16_method_31_code 18 = .ok (.invokestatic 191, 3) := by decide +kernel
theorem dq_AB_append_C_21 : decode prog_16_method_31_code 21 = .ok (.ifCond .eq 24, 3) := by decide +kernel
theorem dq_AB_append_C_24 : decode prog_16_method_31_code 24 = .ok (.aload_n 0, 1) := by decide +kernel
theorem dq_AB_append_C_25 : decode prog_16_method_31_code 25 = .ok (.getfield 15, 3) := by decide +kernel
theorem dq_AB_append_C_28 : decode prog_16_method_31_code 28 = .ok (.aload_n 0, 1) := by decide +kernel
theorem dq_AB_append_C_29 : decode prog_16_method_31_code 29 = .ok (.dup, 1) := by decide +kernel
theorem dq_AB_append_C_30 : decode prog_16_method_31_code 30 = .ok (.getfield 79, 3) := by decide +kernel
theorem dq_AB_append_C_33 : decode prog_16_method_31_code 33 = .ok (.dup_x1, 1) := by decide +kernel
theorem dq_AB_append_C_34 : decode prog_16_method_31_code 34 = .ok (.iconst 1, 1) := by decide +kernel
theorem dq_AB_append_C_35 : decode prog_16_method_31_code 35 = .ok (.iadd, 1) := by decide +kernel
theorem dq_AB_append_C_36 : decode prog_16_method_31_code 36 = .ok (.putfield 79, 3) := by decide +kernel
theorem dq_AB_append_C_39 : decode prog_16_method_31_code 39 = .ok (.iload_n 1, 1) := by decide +kernel
theorem dq_AB_append_C_40 : decode prog_16_method_31_code 40 = .ok (.i2b, 1) := by decide +kernel
theorem dq_AB_append_C_41 : decode prog_16_method_31_code 41 = .ok (.bastore, 1) := by decide +kernel
theorem dq_AB_append_C_42 : decode prog_16_method_31_code 42 = .ok (.goto 33, 3) := by decide +kernel
theorem dq_AB_append_C_75 : decode prog_16_method_31_code 75 = .ok (.aload_n 0, 1) := by decide +kernel
theorem dq_AB_append_C_76 : decode prog_16_method_31_code 76 = .ok (.areturn, 1) := by decide +kernel
set_option maxRecDepth 100000 in
def pq_AB_append_C_0 (E : wo_E) (mc ms : Nat) (Post : Option Nat → wo_W → Prop) (G : wo_W) (c s : Nat) (x0 : Nat) (x1 : Int32) : Prop := wo_ty G x0 = 5 ∧ ∃ mc2 ms3 : Nat, (c + mc2) ≤ mc ∧ (s + ms3) ≤ ms ∧ pq_AB_ensureCapacityInternal E mc2 ms3 (fun G4 => 
  wo_ty G4 x0 = 5 ∧ ∃ mc6 ms7 : Nat, ((c + mc2) + mc6) ≤ mc ∧ ((s + ms3) + ms7) ≤ ms ∧ pq_AB_isLatin1 E mc6 ms7 (fun v9 G8 => 
    ((v9 = (0 : Int32) → False) ∧
      (¬ v9 = (0 : Int32) → ∃ mc10 ms11 : Nat, (((c + mc2) + mc6) + mc10) ≤ mc ∧ (((s + ms3) + ms7) + ms11) ≤ ms ∧ pq_La_canEncode_C E mc10 ms11 (fun v13 G12 => 
        ((v13 = (0 : Int32) → False) ∧
          (¬ v13 = (0 : Int32) → wo_ty G12 x0 = 5 ∧ ∀ r15 : Option Nat, r15 = wo_gr G12 256 x0 → en_bs E ≤ x0 ∧ ∀ G18 : wo_W, G18 = wo_si G12 259 x0 ((wo_gi G12 259 x0) + (1 : Int32)) → 
            ∃ a20 : Nat, r15 = some a20 ∧ wo_ty G18 a20 = 65 ∧ vp_in (wo_gi G12 259 x0) (wo_len G18 a20) ∧ en_bs E ≤ a20 ∧ ∀ G24 : wo_W, G24 = wo_sei G18 a20 (wo_gi G12 259 x0).toNatClampNeg (vp_nar .byte x1.toInt8.toInt32) → 
            Post (some x0) G24))) G8 x1))) G4 x0) G x0 ((wo_gi G 259 x0) + (1 : Int32))
def pq_AB_append_C (E : wo_E) (mc ms : Nat) (Post : Option Nat → wo_W → Prop) (G : wo_W) (x0 : Nat) (x1 : Int32) : Prop := pq_AB_append_C_0 E mc ms Post G 0 0 x0 x1
set_option maxRecDepth 100000 in
set_option maxHeartbeats 4000000 in
theorem tq_AB_append_C_0 {p : Program} {l : Launch} {e : Env} {R : Room} {s₀ : State} {m : MethodId} {args : Array Value} {below : List Frame} {meth : Method} {cd : Code} {E : wo_E} {mc ms : Nat} {Post : Option Nat → wo_W → Prop} (hC : wo_Cx E "java/lang/AbstractStringBuilder" prog_16_method_31_code 2 4 98 ((Option.some (Jvm.ClassFile.FieldType.object "java/lang/AbstractStringBuilder"))) "append" mc ms p R s₀ m args meth cd) : ∀ {G : wo_W} {c s : Nat} {x0 : Nat} {x1 : Int32}, pq_AB_append_C_0 E mc ms Post G c s x0 x1 → ∀ {H : Heap} {locs : List Loc} {ls : Array Slot}, wo_Se E G H → va_S (en_A E) s₀.heap H locs → lx_has ls 2 [(0, 1, .ref x0), (1, 1, .int x1)] → c ≤ mc → s ≤ ms → W p l e R s₀ m args below meth cd H locs c s (MQ below (va_Qq Post (wo_B E) (en_A E)) args s₀ mc ms (en_A E)) (F0 m 0 ls []) := by
  intro G c s x0 x1 hw H locs ls hG hS hl hcc hss
  dsimp only [pq_AB_append_C_0] at hw
  have hx := hC.1
  have hb := hC.2.1
  refine lv_aload_n hx hb dq_AB_append_C_0 rfl (lx_at hl 0 rfl) ?_
  refine lv_aload_n hx hb dq_AB_append_C_1 rfl (lx_at hl 0 rfl) ?_
  obtain ⟨t1, hw⟩ := hw
  refine wo_getI hC fq_AB_79 rfl hG t1 dq_AB_append_C_2 ?_
  refine lv_iconst (v := (1 : Int32)) hx hb dq_AB_append_C_5 rfl ?_
  refine lv_iadd hx hb dq_AB_append_C_6 ?_
  obtain ⟨mc2, ms3, hc1, hs1, hw⟩ := hw
  refine va_callv (wo_runV hC lq_AB_100 (mq_AB_ensureCapacityInternal hw) hG hS t1 rfl (lx_sz hl) rfl (Nat.zero_le _) (by decide) dq_AB_append_C_7 ⟨hc1, hs1⟩) hS (fun _ _ h => h) (fun _ h => h) (fun G4 t H locs ht hvm hw' hB _ _ hS => ?_)
  clear hw
  have hw := hw'
  clear hw'
  replace hG := wo_bk ht hB
  replace hcc := hc1
  replace hss := hs1
  refine lv_aload_n hx hb dq_AB_append_C_10 rfl (lx_at hl 0 rfl) ?_
  obtain ⟨t5, hw⟩ := hw
  obtain ⟨mc6, ms7, hc1, hs1, hw⟩ := hw
  refine va_calli (wo_runV hC lq_AB_83 (mq_AB_isLatin1 hw) hG hS t5 rfl (lx_sz hl) rfl (Nat.zero_le _) (by decide) dq_AB_append_C_11 ⟨hc1, hs1⟩) hS (fun _ _ h => h) (fun _ h => h) (fun v9 G8 t H locs ht hvm hw' hB _ _ hS => ?_)
  clear hw
  have hw := hw'
  clear hw'
  replace hG := wo_bk ht hB
  replace hcc := hc1
  replace hss := hs1
  refine lv_if_eq (tgt := 45) hx hb dq_AB_append_C_14 rfl (fun h => ?_) (fun h => ?_)
  · replace hw := hw.1 h
    exact hw.elim
  · replace hw := hw.2 h
    refine lv_iload_n hx hb dq_AB_append_C_17 rfl (lx_at hl 1 rfl) ?_
    obtain ⟨mc10, ms11, hc1, hs1, hw⟩ := hw
    refine va_calli (wo_runS hC lq_AB_191 (mq_La_canEncode_C hw) hG hS rfl (lx_sz hl) rfl (Nat.zero_le _) (by decide) dq_AB_append_C_18 ⟨hc1, hs1⟩) hS (fun _ _ h => h) (fun _ h => h) (fun v13 G12 t H locs ht hvm hw' hB _ _ hS => ?_)
    clear hw
    have hw := hw'
    clear hw'
    replace hG := wo_bk ht hB
    replace hcc := hc1
    replace hss := hs1
    refine lv_if_eq (tgt := 45) hx hb dq_AB_append_C_21 rfl (fun h => ?_) (fun h => ?_)
    · replace hw := hw.1 h
      exact hw.elim
    · replace hw := hw.2 h
      refine lv_aload_n hx hb dq_AB_append_C_24 rfl (lx_at hl 0 rfl) ?_
      obtain ⟨t14, hw⟩ := hw
      refine wo_getR hC fq_AB_15 rfl hG t14 dq_AB_append_C_25 (fun r15 e16 => ?_)
      replace hw := hw r15 e16
      refine lv_aload_n hx hb dq_AB_append_C_28 rfl (lx_at hl 0 rfl) ?_
      refine lv_dup hx hb dq_AB_append_C_29 rfl ?_
      refine wo_getI hC fq_AB_79 rfl hG t14 dq_AB_append_C_30 ?_
      refine lv_dup_x1 hx hb dq_AB_append_C_33 rfl rfl ?_
      refine lv_iconst (v := (1 : Int32)) hx hb dq_AB_append_C_34 rfl ?_
      refine lv_iadd hx hb dq_AB_append_C_35 ?_
      obtain ⟨h17, hw⟩ := hw
      refine wo_putI hC fq_AB_79 (Or.inl rfl) rfl (wo_ok_int _) hG hS t14 h17 dq_AB_append_C_36 (fun G18 H locs e19 hG hS => ?_)
      replace hw := hw G18 e19
      refine lv_iload_n hx hb dq_AB_append_C_39 rfl (lx_at hl 1 rfl) ?_
      refine lv_i2b (v := x1.toInt8.toInt32) hx hb dq_AB_append_C_40 rfl ?_
      obtain ⟨a20, rfl, hw⟩ := hw
      obtain ⟨t21, hw⟩ := hw
      obtain ⟨h22, hw⟩ := hw
      obtain ⟨h23, hw⟩ := hw
      refine wo_bast (j := 1) hC rfl hG hS t21 h22 h23 dq_AB_append_C_41 (fun G24 H locs e25 hG hS => ?_)
      replace hw := hw G24 e25
      refine lv_goto (tgt := 75) hx hb dq_AB_append_C_42 rfl ?_
      refine lv_aload_n hx hb dq_AB_append_C_75 rfl (lx_at hl 0 rfl) ?_
      exact wo_aret (x := (some x0)) hC rfl hG hS hcc hss hw dq_AB_append_C_76
set_option maxHeartbeats 4000000 in
theorem mq_AB_append_C {l : Launch} {E : wo_E} {mc ms : Nat} {Post : Option Nat → wo_W → Prop} {G : wo_W} {x0 : Nat} {x1 : Int32} (hw : pq_AB_append_C E mc ms Post G x0 x1) : Met l yq_AB_append_C (Cond.code yq_AB_append_C prog_16_method_31_code 2 ((Option.some (Jvm.ClassFile.FieldType.object "java/lang/AbstractStringBuilder"))) :: vw_WG) { frames := 4, cells := mc, slots := ms, locals := 98 } (va_Pc [.ref x0, .int x1] (wo_Ok E G)) (va_Qq Post (wo_B E) (en_A E)) mc ms (en_A E) := by
  unfold pq_AB_append_C at hw
  exact wo_met [(1, .ref x0), (1, .int x1)] rfl (by decide) (fun q hq => by simp only [List.mem_cons, List.not_mem_nil, or_false] at hq; rcases hq with rfl | rfl <;> first | rfl | exact lx_cR _) (Nat.le_of_ble_eq_true rfl) (fun p e R s m args below meth cd ls hC hG hS hl => tq_AB_append_C_0 hC hw hG hS (lx_sub hl [0, 1] rfl) (Nat.zero_le _) (Nat.zero_le _))

theorem dq_SB_append_C_0 : decode prog_23_method_14_code 0 = .ok (.aload_n 0, 1) := by decide +kernel
theorem dq_SB_append_C_1 : decode prog_23_method_14_code 1 = .ok (.iload_n 1, 1) := by decide +kernel
theorem dq_SB_append_C_2 : decode prog_23_method_14_code 2 = .ok (.invokespecial 50, 3) := by decide +kernel
theorem dq_SB_append_C_5 : decode prog_23_method_14_code 5 = .ok (.pop, 1) := by decide +kernel
theorem dq_SB_append_C_6 : decode prog_23_method_14_code 6 = .ok (.aload_n 0, 1) := by decide +kernel
theorem dq_SB_append_C_7 : decode prog_23_method_14_code 7 = .ok (.areturn, 1) := by decide +kernel
set_option maxRecDepth 100000 in
def pq_SB_append_C_0 (E : wo_E) (mc ms : Nat) (Post : Option Nat → wo_W → Prop) (G : wo_W) (c s : Nat) (x0 : Nat) (x1 : Int32) : Prop := wo_ty G x0 = 5 ∧ ∃ mc2 ms3 : Nat, (c + mc2) ≤ mc ∧ (s + ms3) ≤ ms ∧ pq_AB_append_C E mc2 ms3 (fun v5 G4 => 
  Post (some x0) G4) G x0 x1
def pq_SB_append_C (E : wo_E) (mc ms : Nat) (Post : Option Nat → wo_W → Prop) (G : wo_W) (x0 : Nat) (x1 : Int32) : Prop := pq_SB_append_C_0 E mc ms Post G 0 0 x0 x1
set_option maxRecDepth 100000 in
set_option maxHeartbeats 4000000 in
theorem tq_SB_append_C_0 {p : Program} {l : Launch} {e : Env} {R : Room} {s₀ : State} {m : MethodId} {args : Array Value} {below : List Frame} {meth : Method} {cd : Code} {E : wo_E} {mc ms : Nat} {Post : Option Nat → wo_W → Prop} (hC : wo_Cx E "java/lang/StringBuilder" prog_23_method_14_code 2 5 119 ((Option.some (Jvm.ClassFile.FieldType.object "java/lang/StringBuilder"))) "append" mc ms p R s₀ m args meth cd) : ∀ {G : wo_W} {c s : Nat} {x0 : Nat} {x1 : Int32}, pq_SB_append_C_0 E mc ms Post G c s x0 x1 → ∀ {H : Heap} {locs : List Loc} {ls : Array Slot}, wo_Se E G H → va_S (en_A E) s₀.heap H locs → lx_has ls 2 [(0, 1, .ref x0), (1, 1, .int x1)] → c ≤ mc → s ≤ ms → W p l e R s₀ m args below meth cd H locs c s (MQ below (va_Qq Post (wo_B E) (en_A E)) args s₀ mc ms (en_A E)) (F0 m 0 ls []) := by
  intro G c s x0 x1 hw H locs ls hG hS hl hcc hss
  dsimp only [pq_SB_append_C_0] at hw
  have hx := hC.1
  have hb := hC.2.1
  refine lv_aload_n hx hb dq_SB_append_C_0 rfl (lx_at hl 0 rfl) ?_
  refine lv_iload_n hx hb dq_SB_append_C_1 rfl (lx_at hl 1 rfl) ?_
  obtain ⟨t1, hw⟩ := hw
  obtain ⟨mc2, ms3, hc1, hs1, hw⟩ := hw
  refine va_callq (wo_runP hC lq_SB_50 (mq_AB_append_C hw) hG hS t1 rfl (lx_sz hl) rfl (Nat.zero_le _) (by decide) dq_SB_append_C_2 ⟨hc1, hs1⟩) hS (fun _ _ h => h) (fun _ h => h) (fun v5 G4 t H locs ht hvm hw' hB _ _ hS => ?_)
  clear hw
  have hw := hw'
  clear hw'
  replace hG := wo_bk ht hB
  replace hcc := hc1
  replace hss := hs1
  refine lv_pop hx hb dq_SB_append_C_5 (lx_cR _) ?_
  refine lv_aload_n hx hb dq_SB_append_C_6 rfl (lx_at hl 0 rfl) ?_
  exact wo_aret (x := (some x0)) hC rfl hG hS hcc hss hw dq_SB_append_C_7
set_option maxHeartbeats 4000000 in
theorem mq_SB_append_C {l : Launch} {E : wo_E} {mc ms : Nat} {Post : Option Nat → wo_W → Prop} {G : wo_W} {x0 : Nat} {x1 : Int32} (hw : pq_SB_append_C E mc ms Post G x0 x1) : Met l yq_SB_append_C (Cond.code yq_SB_append_C prog_23_method_14_code 2 ((Option.some (Jvm.ClassFile.FieldType.object "java/lang/StringBuilder"))) :: vw_WG) { frames := 5, cells := mc, slots := ms, locals := 119 } (va_Pc [.ref x0, .int x1] (wo_Ok E G)) (va_Qq Post (wo_B E) (en_A E)) mc ms (en_A E) := by
  unfold pq_SB_append_C at hw
  exact wo_met [(1, .ref x0), (1, .int x1)] rfl (by decide) (fun q hq => by simp only [List.mem_cons, List.not_mem_nil, or_false] at hq; rcases hq with rfl | rfl <;> first | rfl | exact lx_cR _) (Nat.le_of_ble_eq_true rfl) (fun p e R s m args below meth cd ls hC hG hS hl => tq_SB_append_C_0 hC hw hG hS (lx_sub hl [0, 1] rfl) (Nat.zero_le _) (Nat.zero_le _))
