theorem dq_EC_out_0 : decode prog_1_method_3_code 0 = .ok (.iload_n 1, 1) := by decide +kernel
theorem dq_EC_out_1 : decode prog_1_method_3_code 1 = .ok (.invokestatic 61, 3) := by decide +kernel
theorem dq_EC_out_4 : decode prog_1_method_3_code 4 = .ok (.ifCond .eq 15, 3) := by decide +kernel
theorem dq_EC_out_7 : decode prog_1_method_3_code 7 = .ok (.aload_n 0, 1) := by decide +kernel
theorem dq_EC_out_8 : decode prog_1_method_3_code 8 = .ok (.getfield 11, 3) := by decide +kernel
theorem dq_EC_out_11 : decode prog_1_method_3_code 11 = .ok (.iload_n 1, 1) := by decide +kernel
theorem dq_EC_out_12 : decode prog_1_method_3_code 12 = .ok (.aaload, 1) := by decide +kernel
theorem dq_EC_out_13 : decode prog_1_method_3_code 13 = .ok (.invokevirtual 83, 3) := by decide +kernel
theorem dq_EC_out_16 : decode prog_1_method_3_code 16 = .ok (.goto 4, 3) := by decide +kernel
theorem dq_EC_out_19 : decode prog_1_method_3_code 19 = .ok (.lconst 0, 1) := by decide +kernel
theorem dq_EC_out_20 : decode prog_1_method_3_code 20 = .ok (.lreturn, 1) := by decide +kernel
set_option maxRecDepth 100000 in
def pq_EC_out_20 (E : wo_E) (mc ms : Nat) (Post : Int64 → wo_W → Prop) (G : wo_W) (c s : Nat) (y0 : Int64) : Prop := Post y0 G
set_option maxRecDepth 100000 in
def pq_EC_out_0 (E : wo_E) (mc ms : Nat) (Post : Int64 → wo_W → Prop) (G : wo_W) (c s : Nat) (x0 : Nat) (x1 : Int32) : Prop := ∃ mc1 ms2 : Nat, (c + mc1) ≤ mc ∧ (s + ms2) ≤ ms ∧ pq_EC_isConnection E mc1 ms2 (fun v4 G3 => 
  ((v4 = (0 : Int32) → pq_EC_out_20 E mc ms Post G3 (c + mc1) (s + ms2) (0 : Int64)) ∧
    (¬ v4 = (0 : Int32) → wo_ty G3 x0 = 1 ∧ ∀ r6 : Option Nat, r6 = wo_gr G3 0 x0 → ∃ a8 : Nat, r6 = some a8 ∧ wo_ty G3 a8 = 64 ∧ vp_in x1 (wo_len G3 a8) ∧ ∀ r11 : Option Nat, r11 = wo_er G3 a8 x1.toNatClampNeg → ∃ a13 : Nat, r11 = some a13 ∧ wo_ty G3 a13 = 7 ∧ ∃ mc15 ms16 : Nat, ((c + mc1) + mc15) ≤ mc ∧ ((s + ms2) + ms16) ≤ ms ∧ pq_Cn_takeEight E mc15 ms16 (fun v18 G17 => 
      pq_EC_out_20 E mc ms Post G17 ((c + mc1) + mc15) ((s + ms2) + ms16) v18) G3 a13))) G x1
def pq_EC_out (E : wo_E) (mc ms : Nat) (Post : Int64 → wo_W → Prop) (G : wo_W) (x0 : Nat) (x1 : Int32) : Prop := pq_EC_out_0 E mc ms Post G 0 0 x0 x1
set_option maxRecDepth 100000 in
set_option maxHeartbeats 4000000 in
theorem tq_EC_out_20 {p : Program} {l : Launch} {e : Env} {R : Room} {s₀ : State} {m : MethodId} {args : Array Value} {below : List Frame} {meth : Method} {cd : Code} {E : wo_E} {mc ms : Nat} {Post : Int64 → wo_W → Prop} (hC : wo_Cx E "EdgeCache" prog_1_method_3_code 2 2 52 ((Option.some Jvm.ClassFile.FieldType.long)) "out" mc ms p R s₀ m args meth cd) : ∀ {G : wo_W} {c s : Nat} {y0 : Int64}, pq_EC_out_20 E mc ms Post G c s y0 → ∀ {H : Heap} {locs : List Loc} {ls : Array Slot}, wo_Se E G H → va_S (en_A E) s₀.heap H locs → lx_has ls 2 [] → c ≤ mc → s ≤ ms → W p l e R s₀ m args below meth cd H locs c s (MQ below (va_Ql Post (wo_B E) (en_A E)) args s₀ mc ms (en_A E)) (F0 m 20 ls [.long y0]) := by
  intro G c s y0 hw H locs ls hG hS hl hcc hss
  dsimp only [pq_EC_out_20] at hw
  have hx := hC.1
  have hb := hC.2.1
  exact wo_lret hC hG hS hcc hss hw dq_EC_out_20
set_option maxRecDepth 100000 in
set_option maxHeartbeats 4000000 in
theorem tq_EC_out_0 {p : Program} {l : Launch} {e : Env} {R : Room} {s₀ : State} {m : MethodId} {args : Array Value} {below : List Frame} {meth : Method} {cd : Code} {E : wo_E} {mc ms : Nat} {Post : Int64 → wo_W → Prop} (hC : wo_Cx E "EdgeCache" prog_1_method_3_code 2 2 52 ((Option.some Jvm.ClassFile.FieldType.long)) "out" mc ms p R s₀ m args meth cd) : ∀ {G : wo_W} {c s : Nat} {x0 : Nat} {x1 : Int32}, pq_EC_out_0 E mc ms Post G c s x0 x1 → ∀ {H : Heap} {locs : List Loc} {ls : Array Slot}, wo_Se E G H → va_S (en_A E) s₀.heap H locs → lx_has ls 2 [(0, 1, .ref x0), (1, 1, .int x1)] → c ≤ mc → s ≤ ms → W p l e R s₀ m args below meth cd H locs c s (MQ below (va_Ql Post (wo_B E) (en_A E)) args s₀ mc ms (en_A E)) (F0 m 0 ls []) := by
  intro G c s x0 x1 hw H locs ls hG hS hl hcc hss
  dsimp only [pq_EC_out_0] at hw
  have hx := hC.1
  have hb := hC.2.1
  refine lv_iload_n hx hb dq_EC_out_0 rfl (lx_at hl 1 rfl) ?_
  obtain ⟨mc1, ms2, hc1, hs1, hw⟩ := hw
  refine va_calli (wo_runS hC lq_EC_61 (mq_EC_isConnection hw) hG hS rfl (lx_sz hl) rfl (Nat.zero_le _) (by decide) dq_EC_out_1 ⟨hc1, hs1⟩) hS (fun _ _ h => h) (fun _ h => h) (fun v4 G3 t H locs ht hvm hw' hB _ _ hS => ?_)
  clear hw
  have hw := hw'
  clear hw'
  replace hG := wo_bk ht hB
  replace hcc := hc1
  replace hss := hs1
  refine lv_if_eq (tgt := 19) hx hb dq_EC_out_4 rfl (fun h => ?_) (fun h => ?_)
  · replace hw := hw.1 h
    refine lv_lconst (v := (0 : Int64)) hx hb dq_EC_out_19 rfl ?_
    exact tq_EC_out_20 hC hw hG hS (lx_sub hl [] rfl) hcc hss
  · replace hw := hw.2 h
    refine lv_aload_n hx hb dq_EC_out_7 rfl (lx_at hl 0 rfl) ?_
    obtain ⟨t5, hw⟩ := hw
    refine wo_getR hC fq_EC_11 rfl hG t5 dq_EC_out_8 (fun r6 e7 => ?_)
    replace hw := hw r6 e7
    refine lv_iload_n hx hb dq_EC_out_11 rfl (lx_at hl 1 rfl) ?_
    obtain ⟨a8, rfl, hw⟩ := hw
    obtain ⟨t9, hw⟩ := hw
    obtain ⟨h10, hw⟩ := hw
    refine wo_aald (j := 0) hC rfl hG t9 h10 dq_EC_out_12 (fun r11 e12 => ?_)
    replace hw := hw r11 e12
    obtain ⟨a13, rfl, hw⟩ := hw
    obtain ⟨t14, hw⟩ := hw
    obtain ⟨mc15, ms16, hc1, hs1, hw⟩ := hw
    refine va_calll (wo_runV hC lq_EC_83 (mq_Cn_takeEight hw) hG hS t14 rfl (lx_sz hl) rfl (Nat.zero_le _) (by decide) dq_EC_out_13 ⟨hc1, hs1⟩) hS (fun _ _ h => h) (fun _ h => h) (fun v18 G17 t H locs ht hvm hw' hB _ _ hS => ?_)
    clear hw
    have hw := hw'
    clear hw'
    replace hG := wo_bk ht hB
    replace hcc := hc1
    replace hss := hs1
    refine lv_goto (tgt := 20) hx hb dq_EC_out_16 rfl ?_
    exact tq_EC_out_20 hC hw hG hS (lx_sub hl [] rfl) hcc hss
set_option maxHeartbeats 4000000 in
theorem mq_EC_out {l : Launch} {E : wo_E} {mc ms : Nat} {Post : Int64 → wo_W → Prop} {G : wo_W} {x0 : Nat} {x1 : Int32} (hw : pq_EC_out E mc ms Post G x0 x1) : Met l yq_EC_out (Cond.code yq_EC_out prog_1_method_3_code 2 ((Option.some Jvm.ClassFile.FieldType.long)) :: vw_WG) { frames := 2, cells := mc, slots := ms, locals := 52 } (va_Pc [.ref x0, .int x1] (wo_Ok E G)) (va_Ql Post (wo_B E) (en_A E)) mc ms (en_A E) := by
  unfold pq_EC_out at hw
  exact wo_met [(1, .ref x0), (1, .int x1)] rfl (by decide) (fun q hq => by simp only [List.mem_cons, List.not_mem_nil, or_false] at hq; rcases hq with rfl | rfl <;> first | rfl | exact lx_cR _) (Nat.le_of_ble_eq_true rfl) (fun p e R s m args below meth cd ls hC hG hS hl => tq_EC_out_0 hC hw hG hS (lx_sub hl [0, 1] rfl) (Nat.zero_le _) (Nat.zero_le _))

theorem dq_EC_pending_0 : decode prog_1_method_4_code 0 = .ok (.iload_n 1, 1) := by decide +kernel
theorem dq_EC_pending_1 : decode prog_1_method_4_code 1 = .ok (.invokestatic 61, 3) := by decide +kernel
theorem dq_EC_pending_4 : decode prog_1_method_4_code 4 = .ok (.ifCond .eq 15, 3) := by decide +kernel
theorem dq_EC_pending_7 : decode prog_1_method_4_code 7 = .ok (.aload_n 0, 1) := by decide +kernel
theorem dq_EC_pending_8 : decode prog_1_method_4_code 8 = .ok (.getfield 11, 3) := by decide +kernel
theorem dq_EC_pending_11 : decode prog_1_method_4_code 11 = .ok (.iload_n 1, 1) := by decide +kernel
theorem dq_EC_pending_12 : decode prog_1_method_4_code 12 = .ok (.aaload, 1) := by decide +kernel
theorem dq_EC_pending_13 : decode prog_1_method_4_code 13 = .ok (.getfield 87, 3) := by decide +kernel
theorem dq_EC_pending_16 : decode prog_1_method_4_code 16 = .ok (.goto 4, 3) := by decide +kernel
theorem dq_EC_pending_19 : decode prog_1_method_4_code 19 = .ok (.iconst (-1), 1) := by decide +kernel
theorem dq_EC_pending_20 : decode prog_1_method_4_code 20 = .ok (.ireturn, 1) := by decide +kernel
set_option maxRecDepth 100000 in
def pq_EC_pending_20 (E : wo_E) (mc ms : Nat) (Post : Int32 → wo_W → Prop) (G : wo_W) (c s : Nat) (y0 : Int32) : Prop := Post y0 G
set_option maxRecDepth 100000 in
def pq_EC_pending_0 (E : wo_E) (mc ms : Nat) (Post : Int32 → wo_W → Prop) (G : wo_W) (c s : Nat) (x0 : Nat) (x1 : Int32) : Prop := ∃ mc1 ms2 : Nat, (c + mc1) ≤ mc ∧ (s + ms2) ≤ ms ∧ pq_EC_isConnection E mc1 ms2 (fun v4 G3 => 
  ((v4 = (0 : Int32) → pq_EC_pending_20 E mc ms Post G3 (c + mc1) (s + ms2) (-1 : Int32)) ∧
    (¬ v4 = (0 : Int32) → wo_ty G3 x0 = 1 ∧ ∀ r6 : Option Nat, r6 = wo_gr G3 0 x0 → ∃ a8 : Nat, r6 = some a8 ∧ wo_ty G3 a8 = 64 ∧ vp_in x1 (wo_len G3 a8) ∧ ∀ r11 : Option Nat, r11 = wo_er G3 a8 x1.toNatClampNeg → ∃ a13 : Nat, r11 = some a13 ∧ wo_ty G3 a13 = 7 ∧ pq_EC_pending_20 E mc ms Post G3 (c + mc1) (s + ms2) (wo_gi G3 389 a13)))) G x1
def pq_EC_pending (E : wo_E) (mc ms : Nat) (Post : Int32 → wo_W → Prop) (G : wo_W) (x0 : Nat) (x1 : Int32) : Prop := pq_EC_pending_0 E mc ms Post G 0 0 x0 x1
set_option maxRecDepth 100000 in
set_option maxHeartbeats 4000000 in
theorem tq_EC_pending_20 {p : Program} {l : Launch} {e : Env} {R : Room} {s₀ : State} {m : MethodId} {args : Array Value} {below : List Frame} {meth : Method} {cd : Code} {E : wo_E} {mc ms : Nat} {Post : Int32 → wo_W → Prop} (hC : wo_Cx E "EdgeCache" prog_1_method_4_code 2 1 20 ((Option.some Jvm.ClassFile.FieldType.int)) "pending" mc ms p R s₀ m args meth cd) : ∀ {G : wo_W} {c s : Nat} {y0 : Int32}, pq_EC_pending_20 E mc ms Post G c s y0 → ∀ {H : Heap} {locs : List Loc} {ls : Array Slot}, wo_Se E G H → va_S (en_A E) s₀.heap H locs → lx_has ls 2 [] → c ≤ mc → s ≤ ms → W p l e R s₀ m args below meth cd H locs c s (MQ below (va_Qi Post (wo_B E) (en_A E)) args s₀ mc ms (en_A E)) (F0 m 20 ls [.int y0]) := by
  intro G c s y0 hw H locs ls hG hS hl hcc hss
  dsimp only [pq_EC_pending_20] at hw
  have hx := hC.1
  have hb := hC.2.1
  exact wo_iret hC hG hS hcc hss hw dq_EC_pending_20
set_option maxRecDepth 100000 in
set_option maxHeartbeats 4000000 in
theorem tq_EC_pending_0 {p : Program} {l : Launch} {e : Env} {R : Room} {s₀ : State} {m : MethodId} {args : Array Value} {below : List Frame} {meth : Method} {cd : Code} {E : wo_E} {mc ms : Nat} {Post : Int32 → wo_W → Prop} (hC : wo_Cx E "EdgeCache" prog_1_method_4_code 2 1 20 ((Option.some Jvm.ClassFile.FieldType.int)) "pending" mc ms p R s₀ m args meth cd) : ∀ {G : wo_W} {c s : Nat} {x0 : Nat} {x1 : Int32}, pq_EC_pending_0 E mc ms Post G c s x0 x1 → ∀ {H : Heap} {locs : List Loc} {ls : Array Slot}, wo_Se E G H → va_S (en_A E) s₀.heap H locs → lx_has ls 2 [(0, 1, .ref x0), (1, 1, .int x1)] → c ≤ mc → s ≤ ms → W p l e R s₀ m args below meth cd H locs c s (MQ below (va_Qi Post (wo_B E) (en_A E)) args s₀ mc ms (en_A E)) (F0 m 0 ls []) := by
  intro G c s x0 x1 hw H locs ls hG hS hl hcc hss
  dsimp only [pq_EC_pending_0] at hw
  have hx := hC.1
  have hb := hC.2.1
  refine lv_iload_n hx hb dq_EC_pending_0 rfl (lx_at hl 1 rfl) ?_
  obtain ⟨mc1, ms2, hc1, hs1, hw⟩ := hw
  refine va_calli (wo_runS hC lq_EC_61 (mq_EC_isConnection hw) hG hS rfl (lx_sz hl) rfl (Nat.zero_le _) (by decide) dq_EC_pending_1 ⟨hc1, hs1⟩) hS (fun _ _ h => h) (fun _ h => h) (fun v4 G3 t H locs ht hvm hw' hB _ _ hS => ?_)
  clear hw
  have hw := hw'
  clear hw'
  replace hG := wo_bk ht hB
  replace hcc := hc1
  replace hss := hs1
  refine lv_if_eq (tgt := 19) hx hb dq_EC_pending_4 rfl (fun h => ?_) (fun h => ?_)
  · replace hw := hw.1 h
    refine lv_iconst (v := (-1 : Int32)) hx hb dq_EC_pending_19 rfl ?_
    exact tq_EC_pending_20 hC hw hG hS (lx_sub hl [] rfl) hcc hss
  · replace hw := hw.2 h
    refine lv_aload_n hx hb dq_EC_pending_7 rfl (lx_at hl 0 rfl) ?_
    obtain ⟨t5, hw⟩ := hw
    refine wo_getR hC fq_EC_11 rfl hG t5 dq_EC_pending_8 (fun r6 e7 => ?_)
    replace hw := hw r6 e7
    refine lv_iload_n hx hb dq_EC_pending_11 rfl (lx_at hl 1 rfl) ?_
    obtain ⟨a8, rfl, hw⟩ := hw
    obtain ⟨t9, hw⟩ := hw
    obtain ⟨h10, hw⟩ := hw
    refine wo_aald (j := 0) hC rfl hG t9 h10 dq_EC_pending_12 (fun r11 e12 => ?_)
    replace hw := hw r11 e12
    obtain ⟨a13, rfl, hw⟩ := hw
    obtain ⟨t14, hw⟩ := hw
    refine wo_getI hC fq_EC_87 rfl hG t14 dq_EC_pending_13 ?_
    refine lv_goto (tgt := 20) hx hb dq_EC_pending_16 rfl ?_
    exact tq_EC_pending_20 hC hw hG hS (lx_sub hl [] rfl) hcc hss
set_option maxHeartbeats 4000000 in
theorem mq_EC_pending {l : Launch} {E : wo_E} {mc ms : Nat} {Post : Int32 → wo_W → Prop} {G : wo_W} {x0 : Nat} {x1 : Int32} (hw : pq_EC_pending E mc ms Post G x0 x1) : Met l yq_EC_pending (Cond.code yq_EC_pending prog_1_method_4_code 2 ((Option.some Jvm.ClassFile.FieldType.int)) :: vw_WG) { frames := 1, cells := mc, slots := ms, locals := 20 } (va_Pc [.ref x0, .int x1] (wo_Ok E G)) (va_Qi Post (wo_B E) (en_A E)) mc ms (en_A E) := by
  unfold pq_EC_pending at hw
  exact wo_met [(1, .ref x0), (1, .int x1)] rfl (by decide) (fun q hq => by simp only [List.mem_cons, List.not_mem_nil, or_false] at hq; rcases hq with rfl | rfl <;> first | rfl | exact lx_cR _) (Nat.le_of_ble_eq_true rfl) (fun p e R s m args below meth cd ls hC hG hS hl => tq_EC_pending_0 hC hw hG hS (lx_sub hl [0, 1] rfl) (Nat.zero_le _) (Nat.zero_le _))

theorem dq_EC_waiting_0 : decode prog_1_method_5_code 0 = .ok (.iload_n 1, 1) := by decide +kernel
theorem dq_EC_waiting_1 : decode prog_1_method_5_code 1 = .ok (.invokestatic 61, 3) := by decide +kernel
theorem dq_EC_waiting_4 : decode prog_1_method_5_code 4 = .ok (.ifCond .eq 15, 3) := by decide +kernel
theorem dq_EC_waiting_7 : decode prog_1_method_5_code 7 = .ok (.aload_n 0, 1) := by decide +kernel
theorem dq_EC_waiting_8 : decode prog_1_method_5_code 8 = .ok (.getfield 11, 3) := by decide +kernel
theorem dq_EC_waiting_11 : decode prog_1_method_5_code 11 = .ok (.iload_n 1, 1) := by decide +kernel
theorem dq_EC_waiting_12 : decode prog_1_method_5_code 12 = .ok (.aaload, 1) := by decide +kernel
theorem dq_EC_waiting_13 : decode prog_1_method_5_code 13 = .ok (.invokevirtual 91, 3) := by decide +kernel
theorem dq_EC_waiting_16 : decode prog_1_method_5_code 16 = .ok (.goto 4, 3) := by decide +kernel
theorem dq_EC_waiting_19 : decode prog_1_method_5_code 19 = .ok (.iconst (-1), 1) := by decide +kernel
theorem dq_EC_waiting_20 : decode prog_1_method_5_code 20 = .ok (.ireturn, 1) := by decide +kernel
set_option maxRecDepth 100000 in
def pq_EC_waiting_20 (E : wo_E) (mc ms : Nat) (Post : Int32 → wo_W → Prop) (G : wo_W) (c s : Nat) (y0 : Int32) : Prop := Post y0 G
set_option maxRecDepth 100000 in
def pq_EC_waiting_0 (E : wo_E) (mc ms : Nat) (Post : Int32 → wo_W → Prop) (G : wo_W) (c s : Nat) (x0 : Nat) (x1 : Int32) : Prop := ∃ mc1 ms2 : Nat, (c + mc1) ≤ mc ∧ (s + ms2) ≤ ms ∧ pq_EC_isConnection E mc1 ms2 (fun v4 G3 => 
  ((v4 = (0 : Int32) → pq_EC_waiting_20 E mc ms Post G3 (c + mc1) (s + ms2) (-1 : Int32)) ∧
    (¬ v4 = (0 : Int32) → wo_ty G3 x0 = 1 ∧ ∀ r6 : Option Nat, r6 = wo_gr G3 0 x0 → ∃ a8 : Nat, r6 = some a8 ∧ wo_ty G3 a8 = 64 ∧ vp_in x1 (wo_len G3 a8) ∧ ∀ r11 : Option Nat, r11 = wo_er G3 a8 x1.toNatClampNeg → ∃ a13 : Nat, r11 = some a13 ∧ wo_ty G3 a13 = 7 ∧ ∃ mc15 ms16 : Nat, ((c + mc1) + mc15) ≤ mc ∧ ((s + ms2) + ms16) ≤ ms ∧ pq_Cn_unanswered E mc15 ms16 (fun v18 G17 => 
      pq_EC_waiting_20 E mc ms Post G17 ((c + mc1) + mc15) ((s + ms2) + ms16) v18) G3 a13))) G x1
def pq_EC_waiting (E : wo_E) (mc ms : Nat) (Post : Int32 → wo_W → Prop) (G : wo_W) (x0 : Nat) (x1 : Int32) : Prop := pq_EC_waiting_0 E mc ms Post G 0 0 x0 x1
set_option maxRecDepth 100000 in
set_option maxHeartbeats 4000000 in
theorem tq_EC_waiting_20 {p : Program} {l : Launch} {e : Env} {R : Room} {s₀ : State} {m : MethodId} {args : Array Value} {below : List Frame} {meth : Method} {cd : Code} {E : wo_E} {mc ms : Nat} {Post : Int32 → wo_W → Prop} (hC : wo_Cx E "EdgeCache" prog_1_method_5_code 2 1 20 ((Option.some Jvm.ClassFile.FieldType.int)) "waiting" mc ms p R s₀ m args meth cd) : ∀ {G : wo_W} {c s : Nat} {y0 : Int32}, pq_EC_waiting_20 E mc ms Post G c s y0 → ∀ {H : Heap} {locs : List Loc} {ls : Array Slot}, wo_Se E G H → va_S (en_A E) s₀.heap H locs → lx_has ls 2 [] → c ≤ mc → s ≤ ms → W p l e R s₀ m args below meth cd H locs c s (MQ below (va_Qi Post (wo_B E) (en_A E)) args s₀ mc ms (en_A E)) (F0 m 20 ls [.int y0]) := by
  intro G c s y0 hw H locs ls hG hS hl hcc hss
  dsimp only [pq_EC_waiting_20] at hw
  have hx := hC.1
  have hb := hC.2.1
  exact wo_iret hC hG hS hcc hss hw dq_EC_waiting_20
set_option maxRecDepth 100000 in
set_option maxHeartbeats 4000000 in
theorem tq_EC_waiting_0 {p : Program} {l : Launch} {e : Env} {R : Room} {s₀ : State} {m : MethodId} {args : Array Value} {below : List Frame} {meth : Method} {cd : Code} {E : wo_E} {mc ms : Nat} {Post : Int32 → wo_W → Prop} (hC : wo_Cx E "EdgeCache" prog_1_method_5_code 2 1 20 ((Option.some Jvm.ClassFile.FieldType.int)) "waiting" mc ms p R s₀ m args meth cd) : ∀ {G : wo_W} {c s : Nat} {x0 : Nat} {x1 : Int32}, pq_EC_waiting_0 E mc ms Post G c s x0 x1 → ∀ {H : Heap} {locs : List Loc} {ls : Array Slot}, wo_Se E G H → va_S (en_A E) s₀.heap H locs → lx_has ls 2 [(0, 1, .ref x0), (1, 1, .int x1)] → c ≤ mc → s ≤ ms → W p l e R s₀ m args below meth cd H locs c s (MQ below (va_Qi Post (wo_B E) (en_A E)) args s₀ mc ms (en_A E)) (F0 m 0 ls []) := by
  intro G c s x0 x1 hw H locs ls hG hS hl hcc hss
  dsimp only [pq_EC_waiting_0] at hw
  have hx := hC.1
  have hb := hC.2.1
  refine lv_iload_n hx hb dq_EC_waiting_0 rfl (lx_at hl 1 rfl) ?_
  obtain ⟨mc1, ms2, hc1, hs1, hw⟩ := hw
  refine va_calli (wo_runS hC lq_EC_61 (mq_EC_isConnection hw) hG hS rfl (lx_sz hl) rfl (Nat.zero_le _) (by decide) dq_EC_waiting_1 ⟨hc1, hs1⟩) hS (fun _ _ h => h) (fun _ h => h) (fun v4 G3 t H locs ht hvm hw' hB _ _ hS => ?_)
  clear hw
  have hw := hw'
  clear hw'
  replace hG := wo_bk ht hB
  replace hcc := hc1
  replace hss := hs1
  refine lv_if_eq (tgt := 19) hx hb dq_EC_waiting_4 rfl (fun h => ?_) (fun h => ?_)
  · replace hw := hw.1 h
    refine lv_iconst (v := (-1 : Int32)) hx hb dq_EC_waiting_19 rfl ?_
    exact tq_EC_waiting_20 hC hw hG hS (lx_sub hl [] rfl) hcc hss
  · replace hw := hw.2 h
    refine lv_aload_n hx hb dq_EC_waiting_7 rfl (lx_at hl 0 rfl) ?_
    obtain ⟨t5, hw⟩ := hw
    refine wo_getR hC fq_EC_11 rfl hG t5 dq_EC_waiting_8 (fun r6 e7 => ?_)
    replace hw := hw r6 e7
    refine lv_iload_n hx hb dq_EC_waiting_11 rfl (lx_at hl 1 rfl) ?_
    obtain ⟨a8, rfl, hw⟩ := hw
    obtain ⟨t9, hw⟩ := hw
    obtain ⟨h10, hw⟩ := hw
    refine wo_aald (j := 0) hC rfl hG t9 h10 dq_EC_waiting_12 (fun r11 e12 => ?_)
    replace hw := hw r11 e12
    obtain ⟨a13, rfl, hw⟩ := hw
    obtain ⟨t14, hw⟩ := hw
    obtain ⟨mc15, ms16, hc1, hs1, hw⟩ := hw
    refine va_calli (wo_runV hC lq_EC_91 (mq_Cn_unanswered hw) hG hS t14 rfl (lx_sz hl) rfl (Nat.zero_le _) (by decide) dq_EC_waiting_13 ⟨hc1, hs1⟩) hS (fun _ _ h => h) (fun _ h => h) (fun v18 G17 t H locs ht hvm hw' hB _ _ hS => ?_)
    clear hw
    have hw := hw'
    clear hw'
    replace hG := wo_bk ht hB
    replace hcc := hc1
    replace hss := hs1
    refine lv_goto (tgt := 20) hx hb dq_EC_waiting_16 rfl ?_
    exact tq_EC_waiting_20 hC hw hG hS (lx_sub hl [] rfl) hcc hss
set_option maxHeartbeats 4000000 in
theorem mq_EC_waiting {l : Launch} {E : wo_E} {mc ms : Nat} {Post : Int32 → wo_W → Prop} {G : wo_W} {x0 : Nat} {x1 : Int32} (hw : pq_EC_waiting E mc ms Post G x0 x1) : Met l yq_EC_waiting (Cond.code yq_EC_waiting prog_1_method_5_code 2 ((Option.some Jvm.ClassFile.FieldType.int)) :: vw_WG) { frames := 1, cells := mc, slots := ms, locals := 20 } (va_Pc [.ref x0, .int x1] (wo_Ok E G)) (va_Qi Post (wo_B E) (en_A E)) mc ms (en_A E) := by
  unfold pq_EC_waiting at hw
  exact wo_met [(1, .ref x0), (1, .int x1)] rfl (by decide) (fun q hq => by simp only [List.mem_cons, List.not_mem_nil, or_false] at hq; rcases hq with rfl | rfl <;> first | rfl | exact lx_cR _) (Nat.le_of_ble_eq_true rfl) (fun p e R s m args below meth cd ls hC hG hS hl => tq_EC_waiting_0 hC hw hG hS (lx_sub hl [0, 1] rfl) (Nat.zero_le _) (Nat.zero_le _))

theorem dq_EC_open_0 : decode prog_1_method_6_code 0 = .ok (.iload_n 1, 1) := by decide +kernel
theorem dq_EC_open_1 : decode prog_1_method_6_code 1 = .ok (.invokestatic 61, 3) := by decide +kernel
theorem dq_EC_open_4 : decode prog_1_method_6_code 4 = .ok (.ifCond .eq 19, 3) := by decide +kernel
theorem dq_EC_open_7 : decode prog_1_method_6_code 7 = .ok (.aload_n 0, 1) := by decide +kernel
theorem dq_EC_open_8 : decode prog_1_method_6_code 8 = .ok (.getfield 11, 3) := by decide +kernel
theorem dq_EC_open_11 : decode prog_1_method_6_code 11 = .ok (.iload_n 1, 1) := by decide +kernel
theorem dq_EC_open_12 : decode prog_1_method_6_code 12 = .ok (.aaload, 1) := by decide +kernel
theorem dq_EC_open_13 : decode prog_1_method_6_code 13 = .ok (.getfield 95, 3) := by decide +kernel
theorem dq_EC_open_16 : decode prog_1_method_6_code 16 = .ok (.ifCond .ne 7, 3) := by decide +kernel
theorem dq_EC_open_19 : decode prog_1_method_6_code 19 = .ok (.iconst 1, 1) := by decide +kernel
theorem dq_EC_open_20 : decode prog_1_method_6_code 20 = .ok (.goto 4, 3) := by decide +kernel
theorem dq_EC_open_23 : decode prog_1_method_6_code 23 = .ok (.iconst 0, 1) := by decide +kernel
theorem dq_EC_open_24 : decode prog_1_method_6_code 24 = .ok (.ireturn, 1) := by decide +kernel
set_option maxRecDepth 100000 in
def pq_EC_open_24 (E : wo_E) (mc ms : Nat) (Post : Int32 → wo_W → Prop) (G : wo_W) (c s : Nat) (y0 : Int32) : Prop := wo_okI .boolean y0 ∧ Post y0 G
set_option maxRecDepth 100000 in
def pq_EC_open_23 (E : wo_E) (mc ms : Nat) (Post : Int32 → wo_W → Prop) (G : wo_W) (c s : Nat) : Prop := pq_EC_open_24 E mc ms Post G c s (0 : Int32)
set_option maxRecDepth 100000 in
def pq_EC_open_0 (E : wo_E) (mc ms : Nat) (Post : Int32 → wo_W → Prop) (G : wo_W) (c s : Nat) (x0 : Nat) (x1 : Int32) : Prop := ∃ mc1 ms2 : Nat, (c + mc1) ≤ mc ∧ (s + ms2) ≤ ms ∧ pq_EC_isConnection E mc1 ms2 (fun v4 G3 => 
  ((v4 = (0 : Int32) → pq_EC_open_23 E mc ms Post G3 (c + mc1) (s + ms2)) ∧
    (¬ v4 = (0 : Int32) → wo_ty G3 x0 = 1 ∧ ∀ r6 : Option Nat, r6 = wo_gr G3 0 x0 → ∃ a8 : Nat, r6 = some a8 ∧ wo_ty G3 a8 = 64 ∧ vp_in x1 (wo_len G3 a8) ∧ ∀ r11 : Option Nat, r11 = wo_er G3 a8 x1.toNatClampNeg → ∃ a13 : Nat, r11 = some a13 ∧ wo_ty G3 a13 = 7 ∧ ((¬ (wo_gi G3 390 a13) = (0 : Int32) → pq_EC_open_23 E mc ms Post G3 (c + mc1) (s + ms2)) ∧
      ((wo_gi G3 390 a13) = (0 : Int32) → pq_EC_open_24 E mc ms Post G3 (c + mc1) (s + ms2) (1 : Int32)))))) G x1
def pq_EC_open (E : wo_E) (mc ms : Nat) (Post : Int32 → wo_W → Prop) (G : wo_W) (x0 : Nat) (x1 : Int32) : Prop := pq_EC_open_0 E mc ms Post G 0 0 x0 x1
set_option maxRecDepth 100000 in
set_option maxHeartbeats 4000000 in
theorem tq_EC_open_24 {p : Program} {l : Launch} {e : Env} {R : Room} {s₀ : State} {m : MethodId} {args : Array Value} {below : List Frame} {meth : Method} {cd : Code} {E : wo_E} {mc ms : Nat} {Post : Int32 → wo_W → Prop} (hC : wo_Cx E "EdgeCache" prog_1_method_6_code 2 1 20 ((Option.some Jvm.ClassFile.FieldType.boolean)) "open" mc ms p R s₀ m args meth cd) : ∀ {G : wo_W} {c s : Nat} {y0 : Int32}, pq_EC_open_24 E mc ms Post G c s y0 → ∀ {H : Heap} {locs : List Loc} {ls : Array Slot}, wo_Se E G H → va_S (en_A E) s₀.heap H locs → lx_has ls 2 [] → c ≤ mc → s ≤ ms → W p l e R s₀ m args below meth cd H locs c s (MQ below (va_Qi Post (wo_B E) (en_A E)) args s₀ mc ms (en_A E)) (F0 m 24 ls [.int y0]) := by
  intro G c s y0 hw H locs ls hG hS hl hcc hss
  dsimp only [pq_EC_open_24] at hw
  have hx := hC.1
  have hb := hC.2.1
  obtain ⟨h1, hw⟩ := hw
  exact wo_zret hC h1.1 hG hS hcc hss hw dq_EC_open_24
set_option maxRecDepth 100000 in
set_option maxHeartbeats 4000000 in
theorem tq_EC_open_23 {p : Program} {l : Launch} {e : Env} {R : Room} {s₀ : State} {m : MethodId} {args : Array Value} {below : List Frame} {meth : Method} {cd : Code} {E : wo_E} {mc ms : Nat} {Post : Int32 → wo_W → Prop} (hC : wo_Cx E "EdgeCache" prog_1_method_6_code 2 1 20 ((Option.some Jvm.ClassFile.FieldType.boolean)) "open" mc ms p R s₀ m args meth cd) : ∀ {G : wo_W} {c s : Nat}, pq_EC_open_23 E mc ms Post G c s → ∀ {H : Heap} {locs : List Loc} {ls : Array Slot}, wo_Se E G H → va_S (en_A E) s₀.heap H locs → lx_has ls 2 [] → c ≤ mc → s ≤ ms → W p l e R s₀ m args below meth cd H locs c s (MQ below (va_Qi Post (wo_B E) (en_A E)) args s₀ mc ms (en_A E)) (F0 m 23 ls []) := by
  intro G c s hw H locs ls hG hS hl hcc hss
  dsimp only [pq_EC_open_23] at hw
  have hx := hC.1
  have hb := hC.2.1
  refine lv_iconst (v := (0 : Int32)) hx hb dq_EC_open_23 rfl ?_
  exact tq_EC_open_24 hC hw hG hS (lx_sub hl [] rfl) hcc hss
set_option maxRecDepth 100000 in
set_option maxHeartbeats 4000000 in
theorem tq_EC_open_0 {p : Program} {l : Launch} {e : Env} {R : Room} {s₀ : State} {m : MethodId} {args : Array Value} {below : List Frame} {meth : Method} {cd : Code} {E : wo_E} {mc ms : Nat} {Post : Int32 → wo_W → Prop} (hC : wo_Cx E "EdgeCache" prog_1_method_6_code 2 1 20 ((Option.some Jvm.ClassFile.FieldType.boolean)) "open" mc ms p R s₀ m args meth cd) : ∀ {G : wo_W} {c s : Nat} {x0 : Nat} {x1 : Int32}, pq_EC_open_0 E mc ms Post G c s x0 x1 → ∀ {H : Heap} {locs : List Loc} {ls : Array Slot}, wo_Se E G H → va_S (en_A E) s₀.heap H locs → lx_has ls 2 [(0, 1, .ref x0), (1, 1, .int x1)] → c ≤ mc → s ≤ ms → W p l e R s₀ m args below meth cd H locs c s (MQ below (va_Qi Post (wo_B E) (en_A E)) args s₀ mc ms (en_A E)) (F0 m 0 ls []) := by
  intro G c s x0 x1 hw H locs ls hG hS hl hcc hss
  dsimp only [pq_EC_open_0] at hw
  have hx := hC.1
  have hb := hC.2.1
  refine lv_iload_n hx hb dq_EC_open_0 rfl (lx_at hl 1 rfl) ?_
  obtain ⟨mc1, ms2, hc1, hs1, hw⟩ := hw
  refine va_calli (wo_runS hC lq_EC_61 (mq_EC_isConnection hw) hG hS rfl (lx_sz hl) rfl (Nat.zero_le _) (by decide) dq_EC_open_1 ⟨hc1, hs1⟩) hS (fun _ _ h => h) (fun _ h => h) (fun v4 G3 t H locs ht hvm hw' hB _ _ hS => ?_)
  clear hw
  have hw := hw'
  clear hw'
  replace hG := wo_bk ht hB
  replace hcc := hc1
  replace hss := hs1
  refine lv_if_eq (tgt := 23) hx hb dq_EC_open_4 rfl (fun h => ?_) (fun h => ?_)
  · replace hw := hw.1 h
    exact tq_EC_open_23 hC hw hG hS (lx_sub hl [] rfl) hcc hss
  · replace hw := hw.2 h
    refine lv_aload_n hx hb dq_EC_open_7 rfl (lx_at hl 0 rfl) ?_
    obtain ⟨t5, hw⟩ := hw
    refine wo_getR hC fq_EC_11 rfl hG t5 dq_EC_open_8 (fun r6 e7 => ?_)
    replace hw := hw r6 e7
    refine lv_iload_n hx hb dq_EC_open_11 rfl (lx_at hl 1 rfl) ?_
    obtain ⟨a8, rfl, hw⟩ := hw
    obtain ⟨t9, hw⟩ := hw
    obtain ⟨h10, hw⟩ := hw
    refine wo_aald (j := 0) hC rfl hG t9 h10 dq_EC_open_12 (fun r11 e12 => ?_)
    replace hw := hw r11 e12
    obtain ⟨a13, rfl, hw⟩ := hw
    obtain ⟨t14, hw⟩ := hw
    refine wo_getI hC fq_EC_95 rfl hG t14 dq_EC_open_13 ?_
    refine lv_if_ne (tgt := 23) hx hb dq_EC_open_16 rfl (fun h => ?_) (fun h => ?_)
    · replace hw := hw.1 h
      exact tq_EC_open_23 hC hw hG hS (lx_sub hl [] rfl) hcc hss
    · replace hw := hw.2 h
      refine lv_iconst (v := (1 : Int32)) hx hb dq_EC_open_19 rfl ?_
      refine lv_goto (tgt := 24) hx hb dq_EC_open_20 rfl ?_
      exact tq_EC_open_24 hC hw hG hS (lx_sub hl [] rfl) hcc hss
set_option maxHeartbeats 4000000 in
theorem mq_EC_open {l : Launch} {E : wo_E} {mc ms : Nat} {Post : Int32 → wo_W → Prop} {G : wo_W} {x0 : Nat} {x1 : Int32} (hw : pq_EC_open E mc ms Post G x0 x1) : Met l yq_EC_open (Cond.code yq_EC_open prog_1_method_6_code 2 ((Option.some Jvm.ClassFile.FieldType.boolean)) :: vw_WG) { frames := 1, cells := mc, slots := ms, locals := 20 } (va_Pc [.ref x0, .int x1] (wo_Ok E G)) (va_Qi Post (wo_B E) (en_A E)) mc ms (en_A E) := by
  unfold pq_EC_open at hw
  exact wo_met [(1, .ref x0), (1, .int x1)] rfl (by decide) (fun q hq => by simp only [List.mem_cons, List.not_mem_nil, or_false] at hq; rcases hq with rfl | rfl <;> first | rfl | exact lx_cR _) (Nat.le_of_ble_eq_true rfl) (fun p e R s m args below meth cd ls hC hG hS hl => tq_EC_open_0 hC hw hG hS (lx_sub hl [0, 1] rfl) (Nat.zero_le _) (Nat.zero_le _))

theorem dq_EC_deliver_0 : decode prog_1_method_26_code 0 = .ok (.iconst 0, 1) := by decide +kernel
theorem dq_EC_deliver_1 : decode prog_1_method_26_code 1 = .ok (.istore_n 1, 1) := by decide +kernel
theorem dq_EC_deliver_2 : decode prog_1_method_26_code 2 = .ok (.iload_n 1, 1) := by decide +kernel
theorem dq_EC_deliver_3 : decode prog_1_method_26_code 3 = .ok (.iconst 3, 1) := by decide +kernel
theorem dq_EC_deliver_4 : decode prog_1_method_26_code 4 = .ok (.if_icmp .ge 18, 3) := by decide +kernel
theorem dq_EC_deliver_7 : decode prog_1_method_26_code 7 = .ok (.aload_n 0, 1) := by decide +kernel
theorem dq_EC_deliver_8 : decode prog_1_method_26_code 8 = .ok (.getfield 11, 3) := by decide +kernel
theorem dq_EC_deliver_11 : decode prog_1_method_26_code 11 = .ok (.iload_n 1, 1) := by decide +kernel
theorem dq_EC_deliver_12 : decode prog_1_method_26_code 12 = .ok (.aaload, 1) := by decide +kernel
theorem dq_EC_deliver_13 : decode prog_1_method_26_code 13 = .ok (.invokevirtual 189, 3) := by decide +kernel
theorem dq_EC_deliver_16 : decode prog_1_method_26_code 16 = .ok (.iinc 1 1, 3) := by decide +kernel
theorem dq_EC_deliver_19 : decode prog_1_method_26_code 19 = .ok (.goto (-17), 3) := by decide +kernel
theorem dq_EC_deliver_22 : decode prog_1_method_26_code 22 = .ok (.return_, 1) := by decide +kernel
set_option maxRecDepth 100000 in
def pq_EC_deliver_2 (E : wo_E) (mc ms : Nat) (Post : wo_W → Prop) : Nat → wo_W → Nat → Nat → Nat → Int32 → Prop
  | 0 => fun _ _ _ _ _ => False
  | n + 1 => fun G c s x0 x1 => (((3 : Int32) ≤ x1 → Post G) ∧
  (¬ (3 : Int32) ≤ x1 → wo_ty G x0 = 1 ∧ ∀ r2 : Option Nat, r2 = wo_gr G 0 x0 → ∃ a4 : Nat, r2 = some a4 ∧ wo_ty G a4 = 64 ∧ vp_in x1 (wo_len G a4) ∧ ∀ r7 : Option Nat, r7 = wo_er G a4 x1.toNatClampNeg → ∃ a9 : Nat, r7 = some a9 ∧ wo_ty G a9 = 7 ∧ ∃ mc11 ms12 : Nat, (c + mc11) ≤ mc ∧ (s + ms12) ≤ ms ∧ pq_Cn_deliver E mc11 ms12 (fun G13 => 
    pq_EC_deliver_2 E mc ms Post n G13 (c + mc11) (s + ms12) x0 (x1 + (1 : Int32))) G a9))
set_option maxRecDepth 100000 in
def pq_EC_deliver_0 (E : wo_E) (mc ms : Nat) (Post : wo_W → Prop) (G : wo_W) (c s : Nat) (x0 : Nat) : Prop := ∃ n1 : Nat, pq_EC_deliver_2 E mc ms Post n1 G c s x0 (0 : Int32)
def pq_EC_deliver (E : wo_E) (mc ms : Nat) (Post : wo_W → Prop) (G : wo_W) (x0 : Nat) : Prop := pq_EC_deliver_0 E mc ms Post G 0 0 x0
set_option maxRecDepth 100000 in
set_option maxHeartbeats 4000000 in
theorem tq_EC_deliver_2 {p : Program} {l : Launch} {e : Env} {R : Room} {s₀ : State} {m : MethodId} {args : Array Value} {below : List Frame} {meth : Method} {cd : Code} {E : wo_E} {mc ms : Nat} {Post : wo_W → Prop} (hC : wo_Cx E "EdgeCache" prog_1_method_26_code 2 6 127 ((Option.none : Option Jvm.ClassFile.FieldType)) "deliver" mc ms p R s₀ m args meth cd) : ∀ n : Nat, ∀ {G : wo_W} {c s : Nat} {x0 : Nat} {x1 : Int32}, pq_EC_deliver_2 E mc ms Post n G c s x0 x1 → ∀ {H : Heap} {locs : List Loc} {ls : Array Slot}, wo_Se E G H → va_S (en_A E) s₀.heap H locs → lx_has ls 2 [(0, 1, .ref x0), (1, 1, .int x1)] → c ≤ mc → s ≤ ms → W p l e R s₀ m args below meth cd H locs c s (MQ below (va_Qv Post (wo_B E) (en_A E)) args s₀ mc ms (en_A E)) (F0 m 2 ls []) := by
  intro n
  induction n with
  | zero => intro G c s x0 x1 hw; exact hw.elim
  | succ n ih =>
    intro G c s x0 x1 hw H locs ls hG hS hl hcc hss
    dsimp only [pq_EC_deliver_2] at hw
    have hx := hC.1
    have hb := hC.2.1
    refine lv_iload_n hx hb dq_EC_deliver_2 rfl (lx_at hl 1 rfl) ?_
    refine lv_iconst (v := (3 : Int32)) hx hb dq_EC_deliver_3 rfl ?_
    refine lv_icmp_ge (tgt := 22) hx hb dq_EC_deliver_4 rfl (fun h => ?_) (fun h => ?_)
    · replace hw := hw.1 h
      exact wo_vret hC hG hS hcc hss hw dq_EC_deliver_22
    · replace hw := hw.2 h
      refine lv_aload_n hx hb dq_EC_deliver_7 rfl (lx_at hl 0 rfl) ?_
      obtain ⟨t1, hw⟩ := hw
      refine wo_getR hC fq_EC_11 rfl hG t1 dq_EC_deliver_8 (fun r2 e3 => ?_)
      replace hw := hw r2 e3
      refine lv_iload_n hx hb dq_EC_deliver_11 rfl (lx_at hl 1 rfl) ?_
      obtain ⟨a4, rfl, hw⟩ := hw
      obtain ⟨t5, hw⟩ := hw
      obtain ⟨h6, hw⟩ := hw
      refine wo_aald (j := 0) hC rfl hG t5 h6 dq_EC_deliver_12 (fun r7 e8 => ?_)
      replace hw := hw r7 e8
      obtain ⟨a9, rfl, hw⟩ := hw
      obtain ⟨t10, hw⟩ := hw
      obtain ⟨mc11, ms12, hc1, hs1, hw⟩ := hw
      refine va_callv (wo_runV hC lq_EC_189 (mq_Cn_deliver hw) hG hS t10 rfl (lx_sz hl) rfl (Nat.zero_le _) (by decide) dq_EC_deliver_13 ⟨hc1, hs1⟩) hS (fun _ _ h => h) (fun _ h => h) (fun G13 t H locs ht hvm hw' hB _ _ hS => ?_)
      clear hw
      have hw := hw'
      clear hw'
      replace hG := wo_bk ht hB
      replace hcc := hc1
      replace hss := hs1
      refine lx_iinc (k := 1) (v := (x1 + (1 : Int32))) (lv' := [(1, 1, .int (x1 + (1 : Int32))), (0, 1, .ref x0)]) hx hb dq_EC_deliver_16 hl rfl rfl (by decide) rfl (fun ls hl' => ?_)
      clear hl
      have hl := hl'
      clear hl'
      refine lv_goto (tgt := 2) hx hb dq_EC_deliver_19 rfl ?_
      exact ih hw hG hS (lx_sub hl [1, 0] rfl) hcc hss
set_option maxRecDepth 100000 in
set_option maxHeartbeats 4000000 in
theorem tq_EC_deliver_0 {p : Program} {l : Launch} {e : Env} {R : Room} {s₀ : State} {m : MethodId} {args : Array Value} {below : List Frame} {meth : Method} {cd : Code} {E : wo_E} {mc ms : Nat} {Post : wo_W → Prop} (hC : wo_Cx E "EdgeCache" prog_1_method_26_code 2 6 127 ((Option.none : Option Jvm.ClassFile.FieldType)) "deliver" mc ms p R s₀ m args meth cd) : ∀ {G : wo_W} {c s : Nat} {x0 : Nat}, pq_EC_deliver_0 E mc ms Post G c s x0 → ∀ {H : Heap} {locs : List Loc} {ls : Array Slot}, wo_Se E G H → va_S (en_A E) s₀.heap H locs → lx_has ls 2 [(0, 1, .ref x0)] → c ≤ mc → s ≤ ms → W p l e R s₀ m args below meth cd H locs c s (MQ below (va_Qv Post (wo_B E) (en_A E)) args s₀ mc ms (en_A E)) (F0 m 0 ls []) := by
  intro G c s x0 hw H locs ls hG hS hl hcc hss
  dsimp only [pq_EC_deliver_0] at hw
  have hx := hC.1
  have hb := hC.2.1
  refine lv_iconst (v := (0 : Int32)) hx hb dq_EC_deliver_0 rfl ?_
  refine lx_istore_n (lv' := [(1, 1, .int (0 : Int32)), (0, 1, .ref x0)]) hx hb dq_EC_deliver_1 rfl hl (by decide) rfl (fun ls hl' => ?_)
  clear hl
  have hl := hl'
  clear hl'
  obtain ⟨n1, hw⟩ := hw
  exact tq_EC_deliver_2 hC n1 hw hG hS (lx_sub hl [1, 0] rfl) hcc hss
set_option maxHeartbeats 4000000 in
theorem mq_EC_deliver {l : Launch} {E : wo_E} {mc ms : Nat} {Post : wo_W → Prop} {G : wo_W} {x0 : Nat} (hw : pq_EC_deliver E mc ms Post G x0) : Met l yq_EC_deliver (Cond.code yq_EC_deliver prog_1_method_26_code 2 ((Option.none : Option Jvm.ClassFile.FieldType)) :: vw_WG) { frames := 6, cells := mc, slots := ms, locals := 127 } (va_Pc [.ref x0] (wo_Ok E G)) (va_Qv Post (wo_B E) (en_A E)) mc ms (en_A E) := by
  unfold pq_EC_deliver at hw
  exact wo_met [(1, .ref x0)] rfl (by decide) (fun q hq => by simp only [List.mem_cons, List.not_mem_nil, or_false] at hq; rcases hq with rfl <;> first | rfl | exact lx_cR _) (Nat.le_of_ble_eq_true rfl) (fun p e R s m args below meth cd ls hC hG hS hl => tq_EC_deliver_0 hC hw hG hS (lx_sub hl [0] rfl) (Nat.zero_le _) (Nat.zero_le _))

theorem dq_EC_pass_0 : decode prog_1_method_7_code 0 = .ok (.iload_n 1, 1) := by decide +kernel
theorem dq_EC_pass_1 : decode prog_1_method_7_code 1 = .ok (.ifCond .lt 10, 3) := by decide +kernel
theorem dq_EC_pass_4 : decode prog_1_method_7_code 4 = .ok (.iload_n 1, 1) := by decide +kernel
theorem dq_EC_pass_5 : decode prog_1_method_7_code 5 = .ok (.sipush 1000, 3) := by decide +kernel
theorem dq_EC_pass_8 : decode prog_1_method_7_code 8 = .ok (.if_icmp .le 5, 3) := by decide +kernel
theorem dq_EC_pass_11 : decode prog_1_method_7_code 11 = .ok (.iconst (-1), 1) := by decide +kernel
theorem dq_EC_pass_12 : decode prog_1_method_7_code 12 = .ok (.ireturn, 1) := by decide +kernel
theorem dq_EC_pass_13 : decode prog_1_method_7_code 13 = .ok (.aload_n 0, 1) := by decide +kernel
theorem dq_EC_pass_14 : decode prog_1_method_7_code 14 = .ok (.dup, 1) := by decide +kernel
theorem dq_EC_pass_15 : decode prog_1_method_7_code 15 = .ok (.getfield 99, 3) := by decide +kernel
theorem dq_EC_pass_18 : decode prog_1_method_7_code 18 = .ok (.iload_n 1, 1) := by decide +kernel
theorem dq_EC_pass_19 : decode prog_1_method_7_code 19 = .ok (.iadd, 1) := by decide +kernel
theorem dq_EC_pass_20 : decode prog_1_method_7_code 20 = .ok (.putfield 99, 3) := by decide +kernel
theorem dq_EC_pass_23 : decode prog_1_method_7_code 23 = .ok (.iconst 0, 1) := by decide +kernel
theorem dq_EC_pass_24 : decode prog_1_method_7_code 24 = .ok (.istore_n 2, 1) := by decide +kernel
theorem dq_EC_pass_25 : decode prog_1_method_7_code 25 = .ok (.iconst 0, 1) := by decide +kernel
theorem dq_EC_pass_26 : decode prog_1_method_7_code 26 = .ok (.istore_n 3, 1) := by decide +kernel
theorem dq_EC_pass_27 : decode prog_1_method_7_code 27 = .ok (.iload_n 3, 1) := by decide +kernel
theorem dq_EC_pass_28 : decode prog_1_method_7_code 28 = .ok (.iconst 2, 1) := by decide +kernel
theorem dq_EC_pass_29 : decode prog_1_method_7_code 29 = .ok (.if_icmp .ge 66, 3) := by decide +kernel
theorem dq_EC_pass_32 : decode prog_1_method_7_code 32 = .ok (.aload_n 0, 1) := by decide +kernel
theorem dq_EC_pass_33 : decode prog_1_method_7_code 33 = .ok (.getfield 31, 3) := by decide +kernel
theorem dq_EC_pass_36 : decode prog_1_method_7_code 36 = .ok (.iload_n 3, 1) := by decide +kernel
theorem dq_EC_pass_37 : decode prog_1_method_7_code 37 = .ok (.aaload, 1) := by decide +kernel
theorem dq_EC_pass_38 : decode prog_1_method_7_code 38 = .ok (.astore 4, 2) := by decide +kernel
theorem dq_EC_pass_40 : decode prog_1_method_7_code 40 = .ok (.aload 4, 2) := by decide +kernel
theorem dq_EC_pass_42 : decode prog_1_method_7_code 42 = .ok (.ifnull 47, 3) := by decide +kernel
theorem dq_EC_pass_45 : decode prog_1_method_7_code 45 = .ok (.aload_n 0, 1) := by decide +kernel
theorem dq_EC_pass_46 : decode prog_1_method_7_code 46 = .ok (.getfield 99, 3) := by decide +kernel
theorem dq_EC_pass_49 : decode prog_1_method_7_code 49 = .ok (.aload 4, 2) := by decide +kernel
theorem dq_EC_pass_51 : decode prog_1_method_7_code 51 = .ok (.getfield 102, 3) := by decide +kernel
theorem dq_EC_pass_54 : decode prog_1_method_7_code 54 = .ok (.isub, 1) := by decide +kernel
theorem dq_EC_pass_55 : decode prog_1_method_7_code 55 = .ok (.bipush 10, 2) := by decide +kernel
theorem dq_EC_pass_57 : decode prog_1_method_7_code 57 = .ok (.if_icmp .lt 32, 3) := by decide +kernel
theorem dq_EC_pass_60 : decode prog_1_method_7_code 60 = .ok (.aload 4, 2) := by decide +kernel
theorem dq_EC_pass_62 : decode prog_1_method_7_code 62 = .ok (.getfield 105, 3) := by decide +kernel
theorem dq_EC_pass_65 : decode prog_1_method_7_code 65 = .ok (.aload_n 0, 1) := by decide +kernel
theorem dq_EC_pass_66 : decode prog_1_method_7_code 66 = .ok (.getfield 25, 3) := by decide +kernel
theorem dq_EC_pass_69 : decode prog_1_method_7_code 69 = .ok (.sipush 504, 3) := by decide +kernel
theorem dq_EC_pass_72 : decode prog_1_method_7_code 72 = .ok (.iconst 0, 1) := by decide +kernel
theorem dq_EC_pass_73 : decode prog_1_method_7_code 73 = .ok (.invokevirtual 109, 3) := by decide +kernel
theorem dq_EC_pass_76 : decode prog_1_method_7_code 76 = .ok (.putfield 113, 3) := by decide +kernel
theorem dq_EC_pass_79 : decode prog_1_method_7_code 79 = .ok (.aload_n 0, 1) := by decide +kernel
theorem dq_EC_pass_80 : decode prog_1_method_7_code 80 = .ok (.getfield 31, 3) := by decide +kernel
theorem dq_EC_pass_83 : decode prog_1_method_7_code 83 = .ok (.iload_n 3, 1) := by decide +kernel
theorem dq_EC_pass_84 : decode prog_1_method_7_code 84 = .ok (.aconst_null, 1) := by decide +kernel
theorem dq_EC_pass_85 : decode prog_1_method_7_code 85 = .ok (.aastore, 1) := by decide +kernel
theorem dq_EC_pass_86 : decode prog_1_method_7_code 86 = .ok (.iinc 2 1, 3) := by decide +kernel
theorem dq_EC_pass_89 : decode prog_1_method_7_code 89 = .ok (.iinc 3 1, 3) := by decide +kernel
theorem dq_EC_pass_92 : decode prog_1_method_7_code 92 = .ok (.goto (-65), 3) := by decide +kernel
theorem dq_EC_pass_95 : decode prog_1_method_7_code 95 = .ok (.aload_n 0, 1) := by decide +kernel
theorem dq_EC_pass_96 : decode prog_1_method_7_code 96 = .ok (.invokevirtual 119, 3) := by decide +kernel
theorem dq_EC_pass_99 : decode prog_1_method_7_code 99 = .ok (.aload_n 0, 1) := by decide +kernel
theorem dq_EC_pass_100 : decode prog_1_method_7_code 100 = .ok (.invokevirtual 122, 3) := by decide +kernel
theorem dq_EC_pass_103 : decode prog_1_method_7_code 103 = .ok (.iload_n 2, 1) := by decide +kernel
theorem dq_EC_pass_104 : decode prog_1_method_7_code 104 = .ok (.ireturn, 1) := by decide +kernel
set_option maxRecDepth 100000 in
def pq_EC_pass_11 (E : wo_E) (mc ms : Nat) (Post : Int32 → wo_W → Prop) (G : wo_W) (c s : Nat) : Prop := Post (-1 : Int32) G
set_option maxRecDepth 100000 in
def pq_EC_pass_89 (E : wo_E) (mc ms : Nat) (Post : Int32 → wo_W → Prop) (k27 : wo_W → Nat → Nat → Nat → Int32 → Int32 → Prop) (G : wo_W) (c s : Nat) (x0 : Nat) (x2 : Int32) (x3 : Int32) : Prop := k27 G c s x0 x2 (x3 + (1 : Int32))
set_option maxRecDepth 100000 in
def pq_EC_pass_27 (E : wo_E) (mc ms : Nat) (Post : Int32 → wo_W → Prop) : Nat → wo_W → Nat → Nat → Nat → Int32 → Int32 → Prop
  | 0 => fun _ _ _ _ _ _ => False
  | n + 1 => fun G c s x0 x2 x3 => (((2 : Int32) ≤ x3 → wo_ty G x0 = 1 ∧ ∃ mc2 ms3 : Nat, (c + mc2) ≤ mc ∧ (s + ms3) ≤ ms ∧ pq_EC_sendWaiting E mc2 ms3 (fun G4 => 
    wo_ty G4 x0 = 1 ∧ ∃ mc6 ms7 : Nat, ((c + mc2) + mc6) ≤ mc ∧ ((s + ms3) + ms7) ≤ ms ∧ pq_EC_deliver E mc6 ms7 (fun G8 => 
      Post x2 G8) G4 x0) G x0) ∧
  (¬ (2 : Int32) ≤ x3 → wo_ty G x0 = 1 ∧ ∀ r10 : Option Nat, r10 = wo_gr G 4 x0 → ∃ a12 : Nat, r10 = some a12 ∧ wo_ty G a12 = 67 ∧ vp_in x3 (wo_len G a12) ∧ ∀ r15 : Option Nat, r15 = wo_er G a12 x3.toNatClampNeg → ((r15 = none → pq_EC_pass_89 E mc ms Post (pq_EC_pass_27 E mc ms Post n) G c s x0 x2 x3) ∧
    (∀ a17 : Nat, r15 = some a17 → wo_ty G a17 = 11 ∧ ((((wo_gi G 6 x0) - (wo_gi G 642 a17)) < (10 : Int32) → pq_EC_pass_89 E mc ms Post (pq_EC_pass_27 E mc ms Post n) G c s x0 x2 x3) ∧
      (¬ ((wo_gi G 6 x0) - (wo_gi G 642 a17)) < (10 : Int32) → ∀ r19 : Option Nat, r19 = wo_gr G 640 a17 → ∀ r21 : Option Nat, r21 = wo_gr G 3 x0 → ∃ a23 : Nat, r21 = some a23 ∧ wo_ty G a23 = 4 ∧ ∃ mc25 ms26 : Nat, (c + mc25) ≤ mc ∧ (s + ms26) ≤ ms ∧ pq_Sh_bare E mc25 ms26 (fun v28 G27 => 
        ∃ a29 : Nat, r19 = some a29 ∧ wo_ty G27 a29 = 9 ∧ en_bs E ≤ a29 ∧ ∀ G32 : wo_W, G32 = wo_sr G27 523 a29 v28 → 
          wo_ty G32 x0 = 1 ∧ ∀ r35 : Option Nat, r35 = wo_gr G32 4 x0 → ∃ a37 : Nat, r35 = some a37 ∧ wo_ty G32 a37 = 67 ∧ vp_in x3 (wo_len G32 a37) ∧ en_bs E ≤ a37 ∧ ∀ G41 : wo_W, G41 = wo_ser G32 a37 x3.toNatClampNeg none → 
          pq_EC_pass_89 E mc ms Post (pq_EC_pass_27 E mc ms Post n) G41 (c + mc25) (s + ms26) x0 (x2 + (1 : Int32)) x3) G a23 (504 : Int32) (0 : Int32)))))))
set_option maxRecDepth 100000 in
def pq_EC_pass_0 (E : wo_E) (mc ms : Nat) (Post : Int32 → wo_W → Prop) (G : wo_W) (c s : Nat) (x0 : Nat) (x1 : Int32) : Prop := ((x1 < (0 : Int32) → pq_EC_pass_11 E mc ms Post G c s) ∧
  (¬ x1 < (0 : Int32) → ((x1 ≤ (1000 : Int32) → wo_ty G x0 = 1 ∧ en_bs E ≤ x0 ∧ ∀ G3 : wo_W, G3 = wo_si G 6 x0 ((wo_gi G 6 x0) + x1) → 
      ∃ n1 : Nat, pq_EC_pass_27 E mc ms Post n1 G3 c s x0 (0 : Int32) (0 : Int32)) ∧
    (¬ x1 ≤ (1000 : Int32) → pq_EC_pass_11 E mc ms Post G c s))))
def pq_EC_pass (E : wo_E) (mc ms : Nat) (Post : Int32 → wo_W → Prop) (G : wo_W) (x0 : Nat) (x1 : Int32) : Prop := pq_EC_pass_0 E mc ms Post G 0 0 x0 x1
set_option maxRecDepth 100000 in
set_option maxHeartbeats 4000000 in
theorem tq_EC_pass_11 {p : Program} {l : Launch} {e : Env} {R : Room} {s₀ : State} {m : MethodId} {args : Array Value} {below : List Frame} {meth : Method} {cd : Code} {E : wo_E} {mc ms : Nat} {Post : Int32 → wo_W → Prop} (hC : wo_Cx E "EdgeCache" prog_1_method_7_code 5 8 186 ((Option.some Jvm.ClassFile.FieldType.int)) "pass" mc ms p R s₀ m args meth cd) : ∀ {G : wo_W} {c s : Nat}, pq_EC_pass_11 E mc ms Post G c s → ∀ {H : Heap} {locs : List Loc} {ls : Array Slot}, wo_Se E G H → va_S (en_A E) s₀.heap H locs → lx_has ls 5 [] → c ≤ mc → s ≤ ms → W p l e R s₀ m args below meth cd H locs c s (MQ below (va_Qi Post (wo_B E) (en_A E)) args s₀ mc ms (en_A E)) (F0 m 11 ls []) := by
  intro G c s hw H locs ls hG hS hl hcc hss
  dsimp only [pq_EC_pass_11] at hw
  have hx := hC.1
  have hb := hC.2.1
  refine lv_iconst (v := (-1 : Int32)) hx hb dq_EC_pass_11 rfl ?_
  exact wo_iret hC hG hS hcc hss hw dq_EC_pass_12
set_option maxRecDepth 100000 in
set_option maxHeartbeats 4000000 in
theorem tq_EC_pass_89 {p : Program} {l : Launch} {e : Env} {R : Room} {s₀ : State} {m : MethodId} {args : Array Value} {below : List Frame} {meth : Method} {cd : Code} {E : wo_E} {mc ms : Nat} {Post : Int32 → wo_W → Prop} {k27 : wo_W → Nat → Nat → Nat → Int32 → Int32 → Prop} (hC : wo_Cx E "EdgeCache" prog_1_method_7_code 5 8 186 ((Option.some Jvm.ClassFile.FieldType.int)) "pass" mc ms p R s₀ m args meth cd) (hk27 : ∀ {G : wo_W} {c s : Nat} {x0 : Nat} {x2 : Int32} {x3 : Int32}, k27 G c s x0 x2 x3 → ∀ {H : Heap} {locs : List Loc} {ls : Array Slot}, wo_Se E G H → va_S (en_A E) s₀.heap H locs → lx_has ls 5 [(0, 1, .ref x0), (2, 1, .int x2), (3, 1, .int x3)] → c ≤ mc → s ≤ ms → W p l e R s₀ m args below meth cd H locs c s (MQ below (va_Qi Post (wo_B E) (en_A E)) args s₀ mc ms (en_A E)) (F0 m 27 ls [])) : ∀ {G : wo_W} {c s : Nat} {x0 : Nat} {x2 : Int32} {x3 : Int32}, pq_EC_pass_89 E mc ms Post k27 G c s x0 x2 x3 → ∀ {H : Heap} {locs : List Loc} {ls : Array Slot}, wo_Se E G H → va_S (en_A E) s₀.heap H locs → lx_has ls 5 [(0, 1, .ref x0), (2, 1, .int x2), (3, 1, .int x3)] → c ≤ mc → s ≤ ms → W p l e R s₀ m args below meth cd H locs c s (MQ below (va_Qi Post (wo_B E) (en_A E)) args s₀ mc ms (en_A E)) (F0 m 89 ls []) := by
  intro G c s x0 x2 x3 hw H locs ls hG hS hl hcc hss
  dsimp only [pq_EC_pass_89] at hw
  have hx := hC.1
  have hb := hC.2.1
  refine lx_iinc (k := 2) (v := (x3 + (1 : Int32))) (lv' := [(3, 1, .int (x3 + (1 : Int32))), (0, 1, .ref x0), (2, 1, .int x2)]) hx hb dq_EC_pass_89 hl rfl rfl (by decide) rfl (fun ls hl' => ?_)
  clear hl
  have hl := hl'
  clear hl'
  refine lv_goto (tgt := 27) hx hb dq_EC_pass_92 rfl ?_
  exact hk27 hw hG hS (lx_sub hl [1, 2, 0] rfl) hcc hss
set_option maxRecDepth 100000 in
set_option maxHeartbeats 4000000 in
theorem tq_EC_pass_27 {p : Program} {l : Launch} {e : Env} {R : Room} {s₀ : State} {m : MethodId} {args : Array Value} {below : List Frame} {meth : Method} {cd : Code} {E : wo_E} {mc ms : Nat} {Post : Int32 → wo_W → Prop} (hC : wo_Cx E "EdgeCache" prog_1_method_7_code 5 8 186 ((Option.some Jvm.ClassFile.FieldType.int)) "pass" mc ms p R s₀ m args meth cd) : ∀ n : Nat, ∀ {G : wo_W} {c s : Nat} {x0 : Nat} {x2 : Int32} {x3 : Int32}, pq_EC_pass_27 E mc ms Post n G c s x0 x2 x3 → ∀ {H : Heap} {locs : List Loc} {ls : Array Slot}, wo_Se E G H → va_S (en_A E) s₀.heap H locs → lx_has ls 5 [(0, 1, .ref x0), (2, 1, .int x2), (3, 1, .int x3)] → c ≤ mc → s ≤ ms → W p l e R s₀ m args below meth cd H locs c s (MQ below (va_Qi Post (wo_B E) (en_A E)) args s₀ mc ms (en_A E)) (F0 m 27 ls []) := by
  intro n
  induction n with
  | zero => intro G c s x0 x2 x3 hw; exact hw.elim
  | succ n ih =>
    intro G c s x0 x2 x3 hw H locs ls hG hS hl hcc hss
    dsimp only [pq_EC_pass_27] at hw
    have hx := hC.1
    have hb := hC.2.1
    refine lv_iload_n hx hb dq_EC_pass_27 rfl (lx_at hl 2 rfl) ?_
    refine lv_iconst (v := (2 : Int32)) hx hb dq_EC_pass_28 rfl ?_
    refine lv_icmp_ge (tgt := 95) hx hb dq_EC_pass_29 rfl (fun h => ?_) (fun h => ?_)
    · replace hw := hw.1 h
      refine lv_aload_n hx hb dq_EC_pass_95 rfl (lx_at hl 0 rfl) ?_
      obtain ⟨t1, hw⟩ := hw
      obtain ⟨mc2, ms3, hc1, hs1, hw⟩ := hw
      refine va_callv (wo_runV hC lq_EC_119 (mq_EC_sendWaiting hw) hG hS t1 rfl (lx_sz hl) rfl (Nat.zero_le _) (by decide) dq_EC_pass_96 ⟨hc1, hs1⟩) hS (fun _ _ h => h) (fun _ h => h) (fun G4 t H locs ht hvm hw' hB _ _ hS => ?_)
      clear hw
      have hw := hw'
      clear hw'
      replace hG := wo_bk ht hB
      replace hcc := hc1
      replace hss := hs1
      refine lv_aload_n hx hb dq_EC_pass_99 rfl (lx_at hl 0 rfl) ?_
      obtain ⟨t5, hw⟩ := hw
      obtain ⟨mc6, ms7, hc1, hs1, hw⟩ := hw
      refine va_callv (wo_runV hC lq_EC_122 (mq_EC_deliver hw) hG hS t5 rfl (lx_sz hl) rfl (Nat.zero_le _) (by decide) dq_EC_pass_100 ⟨hc1, hs1⟩) hS (fun _ _ h => h) (fun _ h => h) (fun G8 t H locs ht hvm hw' hB _ _ hS => ?_)
      clear hw
      have hw := hw'
      clear hw'
      replace hG := wo_bk ht hB
      replace hcc := hc1
      replace hss := hs1
      refine lv_iload_n hx hb dq_EC_pass_103 rfl (lx_at hl 1 rfl) ?_
      exact wo_iret hC hG hS hcc hss hw dq_EC_pass_104
    · replace hw := hw.2 h
      refine lv_aload_n hx hb dq_EC_pass_32 rfl (lx_at hl 0 rfl) ?_
      obtain ⟨t9, hw⟩ := hw
      refine wo_getR hC fq_EC_31 rfl hG t9 dq_EC_pass_33 (fun r10 e11 => ?_)
      replace hw := hw r10 e11
      refine lv_iload_n hx hb dq_EC_pass_36 rfl (lx_at hl 2 rfl) ?_
      obtain ⟨a12, rfl, hw⟩ := hw
      obtain ⟨t13, hw⟩ := hw
      obtain ⟨h14, hw⟩ := hw
      refine wo_aald (j := 3) hC rfl hG t13 h14 dq_EC_pass_37 (fun r15 e16 => ?_)
      replace hw := hw r15 e16
      refine lx_astoreR (lv' := [(4, 1, va_rf r15), (0, 1, .ref x0), (2, 1, .int x2), (3, 1, .int x3)]) hx hb dq_EC_pass_38 hl (by decide) rfl (fun ls hl' => ?_)
      clear hl
      have hl := hl'
      clear hl'
      refine lx_aloadR hx hb dq_EC_pass_40 (lx_at hl 0 rfl) ?_
      refine lx_ifnull (tgt := 89) hx hb dq_EC_pass_42 rfl (fun h => ?_) (fun a17 h => ?_)
      · replace hw := hw.1 h
        subst h
        exact tq_EC_pass_89 hC ih hw hG hS (lx_sub hl [1, 2, 3] rfl) hcc hss
      · replace hw := hw.2 a17 h
        subst h
        refine lv_aload_n hx hb dq_EC_pass_45 rfl (lx_at hl 1 rfl) ?_
        refine wo_getI hC fq_EC_99 rfl hG t9 dq_EC_pass_46 ?_
        refine lv_aload hx hb dq_EC_pass_49 (lx_at hl 0 rfl) ?_
        obtain ⟨t18, hw⟩ := hw
        refine wo_getI hC fq_EC_102 rfl hG t18 dq_EC_pass_51 ?_
        refine lv_isub hx hb dq_EC_pass_54 ?_
        refine lv_bipush (v := (10 : Int32)) hx hb dq_EC_pass_55 rfl ?_
        refine lv_icmp_lt (tgt := 89) hx hb dq_EC_pass_57 rfl (fun h => ?_) (fun h => ?_)
        · replace hw := hw.1 h
          exact tq_EC_pass_89 hC ih hw hG hS (lx_sub hl [1, 2, 3] rfl) hcc hss
        · replace hw := hw.2 h
          refine lv_aload hx hb dq_EC_pass_60 (lx_at hl 0 rfl) ?_
          refine wo_getR hC fq_EC_105 rfl hG t18 dq_EC_pass_62 (fun r19 e20 => ?_)
          replace hw := hw r19 e20
          refine lv_aload_n hx hb dq_EC_pass_65 rfl (lx_at hl 1 rfl) ?_
          refine wo_getR hC fq_EC_25 rfl hG t9 dq_EC_pass_66 (fun r21 e22 => ?_)
          replace hw := hw r21 e22
          refine lv_sipush (v := (504 : Int32)) hx hb dq_EC_pass_69 rfl ?_
          refine lv_iconst (v := (0 : Int32)) hx hb dq_EC_pass_72 rfl ?_
          obtain ⟨a23, rfl, hw⟩ := hw
          obtain ⟨t24, hw⟩ := hw
          obtain ⟨mc25, ms26, hc1, hs1, hw⟩ := hw
          refine va_callq (wo_runV hC lq_EC_109 (mq_Sh_bare hw) hG hS t24 rfl (lx_sz hl) rfl (lx_rm (Nat.le_of_ble_eq_true rfl)) (by decide) dq_EC_pass_73 ⟨hc1, hs1⟩) hS (fun _ _ h => h) (fun _ h => h) (fun v28 G27 t H locs ht hvm hw' hB _ _ hS => ?_)
          clear hw
          have hw := hw'
          clear hw'
          replace hG := wo_bk ht hB
          replace hcc := hc1
          replace hss := hs1
          obtain ⟨a29, rfl, hw⟩ := hw
          obtain ⟨t30, hw⟩ := hw
          obtain ⟨h31, hw⟩ := hw
          refine wo_putR (x := v28) hC fq_EC_113 (Or.inl rfl) rfl hG hS t30 h31 dq_EC_pass_76 (fun G32 H locs e33 hG hS => ?_)
          replace hw := hw G32 e33
          refine lv_aload_n hx hb dq_EC_pass_79 rfl (lx_at hl 1 rfl) ?_
          obtain ⟨t34, hw⟩ := hw
          refine wo_getR hC fq_EC_31 rfl hG t34 dq_EC_pass_80 (fun r35 e36 => ?_)
          replace hw := hw r35 e36
          refine lv_iload_n hx hb dq_EC_pass_83 rfl (lx_at hl 3 rfl) ?_
          refine lv_null hx hb dq_EC_pass_84 ?_
          obtain ⟨a37, rfl, hw⟩ := hw
          obtain ⟨t38, hw⟩ := hw
          obtain ⟨h39, hw⟩ := hw
          obtain ⟨h40, hw⟩ := hw
          refine wo_aast (x := none) (j := 3) hC rfl hG hS t38 h39 h40 (wo_may_n _ _) dq_EC_pass_85 (fun G41 H locs e42 hG hS => ?_)
          replace hw := hw G41 e42
          refine lx_iinc (k := 2) (v := (x2 + (1 : Int32))) (lv' := [(2, 1, .int (x2 + (1 : Int32))), (4, 1, .ref a17), (0, 1, .ref x0), (3, 1, .int x3)]) hx hb dq_EC_pass_86 hl rfl rfl (by decide) rfl (fun ls hl' => ?_)
          clear hl
          have hl := hl'
          clear hl'
          exact tq_EC_pass_89 hC ih hw hG hS (lx_sub hl [2, 0, 3] rfl) hcc hss
set_option maxRecDepth 100000 in
set_option maxHeartbeats 4000000 in
theorem tq_EC_pass_0 {p : Program} {l : Launch} {e : Env} {R : Room} {s₀ : State} {m : MethodId} {args : Array Value} {below : List Frame} {meth : Method} {cd : Code} {E : wo_E} {mc ms : Nat} {Post : Int32 → wo_W → Prop} (hC : wo_Cx E "EdgeCache" prog_1_method_7_code 5 8 186 ((Option.some Jvm.ClassFile.FieldType.int)) "pass" mc ms p R s₀ m args meth cd) : ∀ {G : wo_W} {c s : Nat} {x0 : Nat} {x1 : Int32}, pq_EC_pass_0 E mc ms Post G c s x0 x1 → ∀ {H : Heap} {locs : List Loc} {ls : Array Slot}, wo_Se E G H → va_S (en_A E) s₀.heap H locs → lx_has ls 5 [(0, 1, .ref x0), (1, 1, .int x1)] → c ≤ mc → s ≤ ms → W p l e R s₀ m args below meth cd H locs c s (MQ below (va_Qi Post (wo_B E) (en_A E)) args s₀ mc ms (en_A E)) (F0 m 0 ls []) := by
  intro G c s x0 x1 hw H locs ls hG hS hl hcc hss
  dsimp only [pq_EC_pass_0] at hw
  have hx := hC.1
  have hb := hC.2.1
  refine lv_iload_n hx hb dq_EC_pass_0 rfl (lx_at hl 1 rfl) ?_
  refine lv_if_lt (tgt := 11) hx hb dq_EC_pass_1 rfl (fun h => ?_) (fun h => ?_)
  · replace hw := hw.1 h
    exact tq_EC_pass_11 hC hw hG hS (lx_sub hl [] rfl) hcc hss
  · replace hw := hw.2 h
    refine lv_iload_n hx hb dq_EC_pass_4 rfl (lx_at hl 1 rfl) ?_
    refine lv_sipush (v := (1000 : Int32)) hx hb dq_EC_pass_5 rfl ?_
    refine lv_icmp_le (tgt := 13) hx hb dq_EC_pass_8 rfl (fun h => ?_) (fun h => ?_)
    · replace hw := hw.1 h
      refine lv_aload_n hx hb dq_EC_pass_13 rfl (lx_at hl 0 rfl) ?_
      refine lv_dup hx hb dq_EC_pass_14 rfl ?_
      obtain ⟨t1, hw⟩ := hw
      refine wo_getI hC fq_EC_99 rfl hG t1 dq_EC_pass_15 ?_
      refine lv_iload_n hx hb dq_EC_pass_18 rfl (lx_at hl 1 rfl) ?_
      refine lv_iadd hx hb dq_EC_pass_19 ?_
      obtain ⟨h2, hw⟩ := hw
      refine wo_putI hC fq_EC_99 (Or.inl rfl) rfl (wo_ok_int _) hG hS t1 h2 dq_EC_pass_20 (fun G3 H locs e4 hG hS => ?_)
      replace hw := hw G3 e4
      refine lv_iconst (v := (0 : Int32)) hx hb dq_EC_pass_23 rfl ?_
      refine lx_istore_n (lv' := [(2, 1, .int (0 : Int32)), (0, 1, .ref x0), (1, 1, .int x1)]) hx hb dq_EC_pass_24 rfl hl (by decide) rfl (fun ls hl' => ?_)
      clear hl
      have hl := hl'
      clear hl'
      refine lv_iconst (v := (0 : Int32)) hx hb dq_EC_pass_25 rfl ?_
      refine lx_istore_n (lv' := [(3, 1, .int (0 : Int32)), (2, 1, .int (0 : Int32)), (0, 1, .ref x0), (1, 1, .int x1)]) hx hb dq_EC_pass_26 rfl hl (by decide) rfl (fun ls hl' => ?_)
      clear hl
      have hl := hl'
      clear hl'
      obtain ⟨n1, hw⟩ := hw
      exact tq_EC_pass_27 hC n1 hw hG hS (lx_sub hl [2, 1, 0] rfl) hcc hss
    · replace hw := hw.2 h
      exact tq_EC_pass_11 hC hw hG hS (lx_sub hl [] rfl) hcc hss
set_option maxHeartbeats 4000000 in
theorem mq_EC_pass {l : Launch} {E : wo_E} {mc ms : Nat} {Post : Int32 → wo_W → Prop} {G : wo_W} {x0 : Nat} {x1 : Int32} (hw : pq_EC_pass E mc ms Post G x0 x1) : Met l yq_EC_pass (Cond.code yq_EC_pass prog_1_method_7_code 5 ((Option.some Jvm.ClassFile.FieldType.int)) :: vw_WG) { frames := 8, cells := mc, slots := ms, locals := 186 } (va_Pc [.ref x0, .int x1] (wo_Ok E G)) (va_Qi Post (wo_B E) (en_A E)) mc ms (en_A E) := by
  unfold pq_EC_pass at hw
  exact wo_met [(1, .ref x0), (1, .int x1)] rfl (by decide) (fun q hq => by simp only [List.mem_cons, List.not_mem_nil, or_false] at hq; rcases hq with rfl | rfl <;> first | rfl | exact lx_cR _) (Nat.le_of_ble_eq_true rfl) (fun p e R s m args below meth cd ls hC hG hS hl => tq_EC_pass_0 hC hw hG hS (lx_sub hl [0, 1] rfl) (Nat.zero_le _) (Nat.zero_le _))

theorem dq_EC_isUpstream_0 : decode prog_1_method_17_code 0 = .ok (.iload_n 0, 1) := by decide +kernel
theorem dq_EC_isUpstream_1 : decode prog_1_method_17_code 1 = .ok (.ifCond .lt 12, 3) := by decide +kernel
theorem dq_EC_isUpstream_4 : decode prog_1_method_17_code 4 = .ok (.iload_n 0, 1) := by decide +kernel
theorem dq_EC_isUpstream_5 : decode prog_1_method_17_code 5 = .ok (.iconst 2, 1) := by decide +kernel
theorem dq_EC_isUpstream_6 : decode prog_1_method_17_code 6 = .ok (.if_icmp .ge 7, 3) := by decide +kernel
theorem dq_EC_isUpstream_9 : decode prog_1_method_17_code 9 = .ok (.iconst 1, 1) := by decide +kernel
theorem dq_EC_isUpstream_10 : decode prog_1_method_17_code 10 = .ok (.goto 4, 3) := by decide +kernel
theorem dq_EC_isUpstream_13 : decode prog_1_method_17_code 13 = .ok (.iconst 0, 1) := by decide +kernel
theorem dq_EC_isUpstream_14 : decode prog_1_method_17_code 14 = .ok (.ireturn, 1) := by decide +kernel
set_option maxRecDepth 100000 in
def pq_EC_isUpstream_14 (E : wo_E) (mc ms : Nat) (Post : Int32 → wo_W → Prop) (G : wo_W) (c s : Nat) (y0 : Int32) : Prop := wo_okI .boolean y0 ∧ Post y0 G
set_option maxRecDepth 100000 in
def pq_EC_isUpstream_13 (E : wo_E) (mc ms : Nat) (Post : Int32 → wo_W → Prop) (G : wo_W) (c s : Nat) : Prop := pq_EC_isUpstream_14 E mc ms Post G c s (0 : Int32)
set_option maxRecDepth 100000 in
def pq_EC_isUpstream_0 (E : wo_E) (mc ms : Nat) (Post : Int32 → wo_W → Prop) (G : wo_W) (c s : Nat) (x0 : Int32) : Prop := ((x0 < (0 : Int32) → pq_EC_isUpstream_13 E mc ms Post G c s) ∧
  (¬ x0 < (0 : Int32) → (((2 : Int32) ≤ x0 → pq_EC_isUpstream_13 E mc ms Post G c s) ∧
    (¬ (2 : Int32) ≤ x0 → pq_EC_isUpstream_14 E mc ms Post G c s (1 : Int32)))))
def pq_EC_isUpstream (E : wo_E) (mc ms : Nat) (Post : Int32 → wo_W → Prop) (G : wo_W) (x0 : Int32) : Prop := pq_EC_isUpstream_0 E mc ms Post G 0 0 x0
set_option maxRecDepth 100000 in
set_option maxHeartbeats 4000000 in
theorem tq_EC_isUpstream_14 {p : Program} {l : Launch} {e : Env} {R : Room} {s₀ : State} {m : MethodId} {args : Array Value} {below : List Frame} {meth : Method} {cd : Code} {E : wo_E} {mc ms : Nat} {Post : Int32 → wo_W → Prop} (hC : wo_Cx E "EdgeCache" prog_1_method_17_code 1 0 0 ((Option.some Jvm.ClassFile.FieldType.boolean)) "isUpstream" mc ms p R s₀ m args meth cd) : ∀ {G : wo_W} {c s : Nat} {y0 : Int32}, pq_EC_isUpstream_14 E mc ms Post G c s y0 → ∀ {H : Heap} {locs : List Loc} {ls : Array Slot}, wo_Se E G H → va_S (en_A E) s₀.heap H locs → lx_has ls 1 [] → c ≤ mc → s ≤ ms → W p l e R s₀ m args below meth cd H locs c s (MQ below (va_Qi Post (wo_B E) (en_A E)) args s₀ mc ms (en_A E)) (F0 m 14 ls [.int y0]) := by
  intro G c s y0 hw H locs ls hG hS hl hcc hss
  dsimp only [pq_EC_isUpstream_14] at hw
  have hx := hC.1
  have hb := hC.2.1
  obtain ⟨h1, hw⟩ := hw
  exact wo_zret hC h1.1 hG hS hcc hss hw dq_EC_isUpstream_14
set_option maxRecDepth 100000 in
set_option maxHeartbeats 4000000 in
theorem tq_EC_isUpstream_13 {p : Program} {l : Launch} {e : Env} {R : Room} {s₀ : State} {m : MethodId} {args : Array Value} {below : List Frame} {meth : Method} {cd : Code} {E : wo_E} {mc ms : Nat} {Post : Int32 → wo_W → Prop} (hC : wo_Cx E "EdgeCache" prog_1_method_17_code 1 0 0 ((Option.some Jvm.ClassFile.FieldType.boolean)) "isUpstream" mc ms p R s₀ m args meth cd) : ∀ {G : wo_W} {c s : Nat}, pq_EC_isUpstream_13 E mc ms Post G c s → ∀ {H : Heap} {locs : List Loc} {ls : Array Slot}, wo_Se E G H → va_S (en_A E) s₀.heap H locs → lx_has ls 1 [] → c ≤ mc → s ≤ ms → W p l e R s₀ m args below meth cd H locs c s (MQ below (va_Qi Post (wo_B E) (en_A E)) args s₀ mc ms (en_A E)) (F0 m 13 ls []) := by
  intro G c s hw H locs ls hG hS hl hcc hss
  dsimp only [pq_EC_isUpstream_13] at hw
  have hx := hC.1
  have hb := hC.2.1
  refine lv_iconst (v := (0 : Int32)) hx hb dq_EC_isUpstream_13 rfl ?_
  exact tq_EC_isUpstream_14 hC hw hG hS (lx_sub hl [] rfl) hcc hss
set_option maxRecDepth 100000 in
set_option maxHeartbeats 4000000 in
theorem tq_EC_isUpstream_0 {p : Program} {l : Launch} {e : Env} {R : Room} {s₀ : State} {m : MethodId} {args : Array Value} {below : List Frame} {meth : Method} {cd : Code} {E : wo_E} {mc ms : Nat} {Post : Int32 → wo_W → Prop} (hC : wo_Cx E "EdgeCache" prog_1_method_17_code 1 0 0 ((Option.some Jvm.ClassFile.FieldType.boolean)) "isUpstream" mc ms p R s₀ m args meth cd) : ∀ {G : wo_W} {c s : Nat} {x0 : Int32}, pq_EC_isUpstream_0 E mc ms Post G c s x0 → ∀ {H : Heap} {locs : List Loc} {ls : Array Slot}, wo_Se E G H → va_S (en_A E) s₀.heap H locs → lx_has ls 1 [(0, 1, .int x0)] → c ≤ mc → s ≤ ms → W p l e R s₀ m args below meth cd H locs c s (MQ below (va_Qi Post (wo_B E) (en_A E)) args s₀ mc ms (en_A E)) (F0 m 0 ls []) := by
  intro G c s x0 hw H locs ls hG hS hl hcc hss
  dsimp only [pq_EC_isUpstream_0] at hw
  have hx := hC.1
  have hb := hC.2.1
  refine lv_iload_n hx hb dq_EC_isUpstream_0 rfl (lx_at hl 0 rfl) ?_
  refine lv_if_lt (tgt := 13) hx hb dq_EC_isUpstream_1 rfl (fun h => ?_) (fun h => ?_)
  · replace hw := hw.1 h
    exact tq_EC_isUpstream_13 hC hw hG hS (lx_sub hl [] rfl) hcc hss
  · replace hw := hw.2 h
    refine lv_iload_n hx hb dq_EC_isUpstream_4 rfl (lx_at hl 0 rfl) ?_
    refine lv_iconst (v := (2 : Int32)) hx hb dq_EC_isUpstream_5 rfl ?_
    refine lv_icmp_ge (tgt := 13) hx hb dq_EC_isUpstream_6 rfl (fun h => ?_) (fun h => ?_)
    · replace hw := hw.1 h
      exact tq_EC_isUpstream_13 hC hw hG hS (lx_sub hl [] rfl) hcc hss
    · replace hw := hw.2 h
      refine lv_iconst (v := (1 : Int32)) hx hb dq_EC_isUpstream_9 rfl ?_
      refine lv_goto (tgt := 14) hx hb dq_EC_isUpstream_10 rfl ?_
      exact tq_EC_isUpstream_14 hC hw hG hS (lx_sub hl [] rfl) hcc hss
set_option maxHeartbeats 4000000 in
theorem mq_EC_isUpstream {l : Launch} {E : wo_E} {mc ms : Nat} {Post : Int32 → wo_W → Prop} {G : wo_W} {x0 : Int32} (hw : pq_EC_isUpstream E mc ms Post G x0) : Met l yq_EC_isUpstream (Cond.code yq_EC_isUpstream prog_1_method_17_code 1 ((Option.some Jvm.ClassFile.FieldType.boolean)) :: vw_WG) { frames := 0, cells := mc, slots := ms, locals := 0 } (va_Pc [.int x0] (wo_Ok E G)) (va_Qi Post (wo_B E) (en_A E)) mc ms (en_A E) := by
  unfold pq_EC_isUpstream at hw
  exact wo_met [(1, .int x0)] rfl (by decide) (fun q hq => by simp only [List.mem_cons, List.not_mem_nil, or_false] at hq; rcases hq with rfl <;> first | rfl | exact lx_cR _) (Nat.le_of_ble_eq_true rfl) (fun p e R s m args below meth cd ls hC hG hS hl => tq_EC_isUpstream_0 hC hw hG hS (lx_sub hl [0] rfl) (Nat.zero_le _) (Nat.zero_le _))

theorem dq_EC_jobOn_0 : decode prog_1_method_18_code 0 = .ok (.iload_n 1, 1) := by decide +kernel
theorem dq_EC_jobOn_1 : decode prog_1_method_18_code 1 = .ok (.invokestatic 160, 3) := by decide +kernel
theorem dq_EC_jobOn_4 : decode prog_1_method_18_code 4 = .ok (.ifCond .eq 12, 3) := by decide +kernel
theorem dq_EC_jobOn_7 : decode prog_1_method_18_code 7 = .ok (.aload_n 0, 1) := by decide +kernel
theorem dq_EC_jobOn_8 : decode prog_1_method_18_code 8 = .ok (.getfield 31, 3) := by decide +kernel
theorem dq_EC_jobOn_11 : decode prog_1_method_18_code 11 = .ok (.iload_n 1, 1) := by decide +kernel
theorem dq_EC_jobOn_12 : decode prog_1_method_18_code 12 = .ok (.aaload, 1) := by decide +kernel
theorem dq_EC_jobOn_13 : decode prog_1_method_18_code 13 = .ok (.goto 4, 3) := by decide +kernel
theorem dq_EC_jobOn_16 : decode prog_1_method_18_code 16 = .ok (.aconst_null, 1) := by decide +kernel
theorem dq_EC_jobOn_17 : decode prog_1_method_18_code 17 = .ok (.areturn, 1) := by decide +kernel
set_option maxRecDepth 100000 in
def pq_EC_jobOn_17 (E : wo_E) (mc ms : Nat) (Post : Option Nat → wo_W → Prop) (G : wo_W) (c s : Nat) (y0 : Option Nat) : Prop := Post y0 G
set_option maxRecDepth 100000 in
def pq_EC_jobOn_0 (E : wo_E) (mc ms : Nat) (Post : Option Nat → wo_W → Prop) (G : wo_W) (c s : Nat) (x0 : Nat) (x1 : Int32) : Prop := ∃ mc1 ms2 : Nat, (c + mc1) ≤ mc ∧ (s + ms2) ≤ ms ∧ pq_EC_isUpstream E mc1 ms2 (fun v4 G3 => 
  ((v4 = (0 : Int32) → pq_EC_jobOn_17 E mc ms Post G3 (c + mc1) (s + ms2) none) ∧
    (¬ v4 = (0 : Int32) → wo_ty G3 x0 = 1 ∧ ∀ r6 : Option Nat, r6 = wo_gr G3 4 x0 → ∃ a8 : Nat, r6 = some a8 ∧ wo_ty G3 a8 = 67 ∧ vp_in x1 (wo_len G3 a8) ∧ ∀ r11 : Option Nat, r11 = wo_er G3 a8 x1.toNatClampNeg → pq_EC_jobOn_17 E mc ms Post G3 (c + mc1) (s + ms2) r11))) G x1
def pq_EC_jobOn (E : wo_E) (mc ms : Nat) (Post : Option Nat → wo_W → Prop) (G : wo_W) (x0 : Nat) (x1 : Int32) : Prop := pq_EC_jobOn_0 E mc ms Post G 0 0 x0 x1
set_option maxRecDepth 100000 in
set_option maxHeartbeats 4000000 in
theorem tq_EC_jobOn_17 {p : Program} {l : Launch} {e : Env} {R : Room} {s₀ : State} {m : MethodId} {args : Array Value} {below : List Frame} {meth : Method} {cd : Code} {E : wo_E} {mc ms : Nat} {Post : Option Nat → wo_W → Prop} (hC : wo_Cx E "EdgeCache" prog_1_method_18_code 2 1 20 ((Option.some (Jvm.ClassFile.FieldType.object "EdgeCache$Job"))) "jobOn" mc ms p R s₀ m args meth cd) : ∀ {G : wo_W} {c s : Nat} {y0 : Option Nat}, pq_EC_jobOn_17 E mc ms Post G c s y0 → ∀ {H : Heap} {locs : List Loc} {ls : Array Slot}, wo_Se E G H → va_S (en_A E) s₀.heap H locs → lx_has ls 2 [] → c ≤ mc → s ≤ ms → W p l e R s₀ m args below meth cd H locs c s (MQ below (va_Qq Post (wo_B E) (en_A E)) args s₀ mc ms (en_A E)) (F0 m 17 ls [va_rf y0]) := by
  intro G c s y0 hw H locs ls hG hS hl hcc hss
  dsimp only [pq_EC_jobOn_17] at hw
  have hx := hC.1
  have hb := hC.2.1
  exact wo_aret (x := y0) hC rfl hG hS hcc hss hw dq_EC_jobOn_17
set_option maxRecDepth 100000 in
set_option maxHeartbeats 4000000 in
theorem tq_EC_jobOn_0 {p : Program} {l : Launch} {e : Env} {R : Room} {s₀ : State} {m : MethodId} {args : Array Value} {below : List Frame} {meth : Method} {cd : Code} {E : wo_E} {mc ms : Nat} {Post : Option Nat → wo_W → Prop} (hC : wo_Cx E "EdgeCache" prog_1_method_18_code 2 1 20 ((Option.some (Jvm.ClassFile.FieldType.object "EdgeCache$Job"))) "jobOn" mc ms p R s₀ m args meth cd) : ∀ {G : wo_W} {c s : Nat} {x0 : Nat} {x1 : Int32}, pq_EC_jobOn_0 E mc ms Post G c s x0 x1 → ∀ {H : Heap} {locs : List Loc} {ls : Array Slot}, wo_Se E G H → va_S (en_A E) s₀.heap H locs → lx_has ls 2 [(0, 1, .ref x0), (1, 1, .int x1)] → c ≤ mc → s ≤ ms → W p l e R s₀ m args below meth cd H locs c s (MQ below (va_Qq Post (wo_B E) (en_A E)) args s₀ mc ms (en_A E)) (F0 m 0 ls []) := by
  intro G c s x0 x1 hw H locs ls hG hS hl hcc hss
  dsimp only [pq_EC_jobOn_0] at hw
  have hx := hC.1
  have hb := hC.2.1
  refine lv_iload_n hx hb dq_EC_jobOn_0 rfl (lx_at hl 1 rfl) ?_
  obtain ⟨mc1, ms2, hc1, hs1, hw⟩ := hw
  refine va_calli (wo_runS hC lq_EC_160 (mq_EC_isUpstream hw) hG hS rfl (lx_sz hl) rfl (Nat.zero_le _) (by decide) dq_EC_jobOn_1 ⟨hc1, hs1⟩) hS (fun _ _ h => h) (fun _ h => h) (fun v4 G3 t H locs ht hvm hw' hB _ _ hS => ?_)
  clear hw
  have hw := hw'
  clear hw'
  replace hG := wo_bk ht hB
  replace hcc := hc1
  replace hss := hs1
  refine lv_if_eq (tgt := 16) hx hb dq_EC_jobOn_4 rfl (fun h => ?_) (fun h => ?_)
  · replace hw := hw.1 h
    refine lv_null hx hb dq_EC_jobOn_16 ?_
    exact tq_EC_jobOn_17 hC hw hG hS (lx_sub hl [] rfl) hcc hss
  · replace hw := hw.2 h
    refine lv_aload_n hx hb dq_EC_jobOn_7 rfl (lx_at hl 0 rfl) ?_
    obtain ⟨t5, hw⟩ := hw
    refine wo_getR hC fq_EC_31 rfl hG t5 dq_EC_jobOn_8 (fun r6 e7 => ?_)
    replace hw := hw r6 e7
    refine lv_iload_n hx hb dq_EC_jobOn_11 rfl (lx_at hl 1 rfl) ?_
    obtain ⟨a8, rfl, hw⟩ := hw
    obtain ⟨t9, hw⟩ := hw
    obtain ⟨h10, hw⟩ := hw
    refine wo_aald (j := 3) hC rfl hG t9 h10 dq_EC_jobOn_12 (fun r11 e12 => ?_)
    replace hw := hw r11 e12
    refine lv_goto (tgt := 17) hx hb dq_EC_jobOn_13 rfl ?_
    exact tq_EC_jobOn_17 hC hw hG hS (lx_sub hl [] rfl) hcc hss
set_option maxHeartbeats 4000000 in
theorem mq_EC_jobOn {l : Launch} {E : wo_E} {mc ms : Nat} {Post : Option Nat → wo_W → Prop} {G : wo_W} {x0 : Nat} {x1 : Int32} (hw : pq_EC_jobOn E mc ms Post G x0 x1) : Met l yq_EC_jobOn (Cond.code yq_EC_jobOn prog_1_method_18_code 2 ((Option.some (Jvm.ClassFile.FieldType.object "EdgeCache$Job"))) :: vw_WG) { frames := 1, cells := mc, slots := ms, locals := 20 } (va_Pc [.ref x0, .int x1] (wo_Ok E G)) (va_Qq Post (wo_B E) (en_A E)) mc ms (en_A E) := by
  unfold pq_EC_jobOn at hw
  exact wo_met [(1, .ref x0), (1, .int x1)] rfl (by decide) (fun q hq => by simp only [List.mem_cons, List.not_mem_nil, or_false] at hq; rcases hq with rfl | rfl <;> first | rfl | exact lx_cR _) (Nat.le_of_ble_eq_true rfl) (fun p e R s m args below meth cd ls hC hG hS hl => tq_EC_jobOn_0 hC hw hG hS (lx_sub hl [0, 1] rfl) (Nat.zero_le _) (Nat.zero_le _))

theorem dq_Jb_isDone_0 : decode prog_3_method_2_code 0 = .ok (.aload_n 0, 1) := by decide +kernel
theorem dq_Jb_isDone_1 : decode prog_3_method_2_code 1 = .ok (.getfield 17, 3) := by decide +kernel
theorem dq_Jb_isDone_4 : decode prog_3_method_2_code 4 = .ok (.ifCond .eq 7, 3) := by decide +kernel
theorem dq_Jb_isDone_7 : decode prog_3_method_2_code 7 = .ok (.iconst 1, 1) := by decide +kernel
theorem dq_Jb_isDone_8 : decode prog_3_method_2_code 8 = .ok (.goto 4, 3) := by decide +kernel
theorem dq_Jb_isDone_11 : decode prog_3_method_2_code 11 = .ok (.iconst 0, 1) := by decide +kernel
theorem dq_Jb_isDone_12 : decode prog_3_method_2_code 12 = .ok (.ireturn, 1) := by decide +kernel
set_option maxRecDepth 100000 in
def pq_Jb_isDone_12 (E : wo_E) (mc ms : Nat) (Post : Int32 → wo_W → Prop) (G : wo_W) (c s : Nat) (y0 : Int32) : Prop := wo_okI .boolean y0 ∧ Post y0 G
set_option maxRecDepth 100000 in
def pq_Jb_isDone_0 (E : wo_E) (mc ms : Nat) (Post : Int32 → wo_W → Prop) (G : wo_W) (c s : Nat) (x0 : Nat) : Prop := wo_ty G x0 = 11 ∧ (((wo_gi G 643 x0) = (0 : Int32) → pq_Jb_isDone_12 E mc ms Post G c s (0 : Int32)) ∧
  (¬ (wo_gi G 643 x0) = (0 : Int32) → pq_Jb_isDone_12 E mc ms Post G c s (1 : Int32)))
def pq_Jb_isDone (E : wo_E) (mc ms : Nat) (Post : Int32 → wo_W → Prop) (G : wo_W) (x0 : Nat) : Prop := pq_Jb_isDone_0 E mc ms Post G 0 0 x0
set_option maxRecDepth 100000 in
set_option maxHeartbeats 4000000 in
theorem tq_Jb_isDone_12 {p : Program} {l : Launch} {e : Env} {R : Room} {s₀ : State} {m : MethodId} {args : Array Value} {below : List Frame} {meth : Method} {cd : Code} {E : wo_E} {mc ms : Nat} {Post : Int32 → wo_W → Prop} (hC : wo_Cx E "EdgeCache$Job" prog_3_method_2_code 1 0 0 ((Option.some Jvm.ClassFile.FieldType.boolean)) "isDone" mc ms p R s₀ m args meth cd) : ∀ {G : wo_W} {c s : Nat} {y0 : Int32}, pq_Jb_isDone_12 E mc ms Post G c s y0 → ∀ {H : Heap} {locs : List Loc} {ls : Array Slot}, wo_Se E G H → va_S (en_A E) s₀.heap H locs → lx_has ls 1 [] → c ≤ mc → s ≤ ms → W p l e R s₀ m args below meth cd H locs c s (MQ below (va_Qi Post (wo_B E) (en_A E)) args s₀ mc ms (en_A E)) (F0 m 12 ls [.int y0]) := by
  intro G c s y0 hw H locs ls hG hS hl hcc hss
  dsimp only [pq_Jb_isDone_12] at hw
  have hx := hC.1
  have hb := hC.2.1
  obtain ⟨h1, hw⟩ := hw
  exact wo_zret hC h1.1 hG hS hcc hss hw dq_Jb_isDone_12
set_option maxRecDepth 100000 in
set_option maxHeartbeats 4000000 in
theorem tq_Jb_isDone_0 {p : Program} {l : Launch} {e : Env} {R : Room} {s₀ : State} {m : MethodId} {args : Array Value} {below : List Frame} {meth : Method} {cd : Code} {E : wo_E} {mc ms : Nat} {Post : Int32 → wo_W → Prop} (hC : wo_Cx E "EdgeCache$Job" prog_3_method_2_code 1 0 0 ((Option.some Jvm.ClassFile.FieldType.boolean)) "isDone" mc ms p R s₀ m args meth cd) : ∀ {G : wo_W} {c s : Nat} {x0 : Nat}, pq_Jb_isDone_0 E mc ms Post G c s x0 → ∀ {H : Heap} {locs : List Loc} {ls : Array Slot}, wo_Se E G H → va_S (en_A E) s₀.heap H locs → lx_has ls 1 [(0, 1, .ref x0)] → c ≤ mc → s ≤ ms → W p l e R s₀ m args below meth cd H locs c s (MQ below (va_Qi Post (wo_B E) (en_A E)) args s₀ mc ms (en_A E)) (F0 m 0 ls []) := by
  intro G c s x0 hw H locs ls hG hS hl hcc hss
  dsimp only [pq_Jb_isDone_0] at hw
  have hx := hC.1
  have hb := hC.2.1
  refine lv_aload_n hx hb dq_Jb_isDone_0 rfl (lx_at hl 0 rfl) ?_
  obtain ⟨t1, hw⟩ := hw
  refine wo_getI hC fq_Jb_17 rfl hG t1 dq_Jb_isDone_1 ?_
  refine lv_if_eq (tgt := 11) hx hb dq_Jb_isDone_4 rfl (fun h => ?_) (fun h => ?_)
  · replace hw := hw.1 h
    refine lv_iconst (v := (0 : Int32)) hx hb dq_Jb_isDone_11 rfl ?_
    exact tq_Jb_isDone_12 hC hw hG hS (lx_sub hl [] rfl) hcc hss
  · replace hw := hw.2 h
    refine lv_iconst (v := (1 : Int32)) hx hb dq_Jb_isDone_7 rfl ?_
    refine lv_goto (tgt := 12) hx hb dq_Jb_isDone_8 rfl ?_
    exact tq_Jb_isDone_12 hC hw hG hS (lx_sub hl [] rfl) hcc hss
set_option maxHeartbeats 4000000 in
theorem mq_Jb_isDone {l : Launch} {E : wo_E} {mc ms : Nat} {Post : Int32 → wo_W → Prop} {G : wo_W} {x0 : Nat} (hw : pq_Jb_isDone E mc ms Post G x0) : Met l yq_Jb_isDone (Cond.code yq_Jb_isDone prog_3_method_2_code 1 ((Option.some Jvm.ClassFile.FieldType.boolean)) :: vw_WG) { frames := 0, cells := mc, slots := ms, locals := 0 } (va_Pc [.ref x0] (wo_Ok E G)) (va_Qi Post (wo_B E) (en_A E)) mc ms (en_A E) := by
  unfold pq_Jb_isDone at hw
  exact wo_met [(1, .ref x0)] rfl (by decide) (fun q hq => by simp only [List.mem_cons, List.not_mem_nil, or_false] at hq; rcases hq with rfl <;> first | rfl | exact lx_cR _) (Nat.le_of_ble_eq_true rfl) (fun p e R s m args below meth cd ls hC hG hS hl => tq_Jb_isDone_0 hC hw hG hS (lx_sub hl [0] rfl) (Nat.zero_le _) (Nat.zero_le _))

theorem dq_EC_origin_0 : decode prog_1_method_8_code 0 = .ok (.aload_n 0, 1) := by decide +kernel
theorem dq_EC_origin_1 : decode prog_1_method_8_code 1 = .ok (.iload_n 1, 1) := by decide +kernel
theorem dq_EC_origin_2 : decode prog_1_method_8_code 2 = .ok (.invokevirtual 125, 3) := by decide +kernel
theorem dq_EC_origin_5 : decode prog_1_method_8_code 5 = .ok (.astore_n 2, 1) := by decide +kernel
theorem dq_EC_origin_6 : decode prog_1_method_8_code 6 = .ok (.aload_n 2, 1) := by decide +kernel
theorem dq_EC_origin_7 : decode prog_1_method_8_code 7 = .ok (.ifnull 10, 3) := by decide +kernel
theorem dq_EC_origin_10 : decode prog_1_method_8_code 10 = .ok (.aload_n 2, 1) := by decide +kernel
theorem dq_EC_origin_11 : decode prog_1_method_8_code 11 = .ok (.invokevirtual 129, 3) := by decide +kernel
theorem dq_EC_origin_14 : decode prog_1_method_8_code 14 = .ok (.ifCond .eq 5, 3) := by decide +kernel
theorem dq_EC_origin_17 : decode prog_1_method_8_code 17 = .ok (.iconst (-1), 1) := by decide +kernel
theorem dq_EC_origin_18 : decode prog_1_method_8_code 18 = .ok (.ireturn, 1) := by decide +kernel
theorem dq_EC_origin_19 : decode prog_1_method_8_code 19 = .ok (.aload_n 0, 1) := by decide +kernel
theorem dq_EC_origin_20 : decode prog_1_method_8_code 20 = .ok (.getfield 18, 3) := by decide +kernel
theorem dq_EC_origin_23 : decode prog_1_method_8_code 23 = .ok (.aload_n 2, 1) := by decide +kernel
theorem dq_EC_origin_24 : decode prog_1_method_8_code 24 = .ok (.invokevirtual 132, 3) := by decide +kernel
theorem dq_EC_origin_27 : decode prog_1_method_8_code 27 = .ok (.aload_n 2, 1) := by decide +kernel
theorem dq_EC_origin_28 : decode prog_1_method_8_code 28 = .ok (.getfield 136, 3) := by decide +kernel
theorem dq_EC_origin_31 : decode prog_1_method_8_code 31 = .ok (.ireturn, 1) := by decide +kernel
set_option maxRecDepth 100000 in
def pq_EC_origin_17 (E : wo_E) (mc ms : Nat) (Post : Int32 → wo_W → Prop) (G : wo_W) (c s : Nat) : Prop := Post (-1 : Int32) G
set_option maxRecDepth 100000 in
def pq_EC_origin_0 (E : wo_E) (mc ms : Nat) (Post : Int32 → wo_W → Prop) (G : wo_W) (c s : Nat) (x0 : Nat) (x1 : Int32) : Prop := wo_ty G x0 = 1 ∧ ∃ mc2 ms3 : Nat, (c + mc2) ≤ mc ∧ (s + ms3) ≤ ms ∧ pq_EC_jobOn E mc2 ms3 (fun v5 G4 => 
  ((v5 = none → pq_EC_origin_17 E mc ms Post G4 (c + mc2) (s + ms3)) ∧
    (∀ a6 : Nat, v5 = some a6 → wo_ty G4 a6 = 11 ∧ ∃ mc8 ms9 : Nat, ((c + mc2) + mc8) ≤ mc ∧ ((s + ms3) + ms9) ≤ ms ∧ pq_Jb_isDone E mc8 ms9 (fun v11 G10 => 
      ((v11 = (0 : Int32) → wo_ty G10 x0 = 1 ∧ ∀ r13 : Option Nat, r13 = wo_gr G10 1 x0 → ∃ a15 : Nat, r13 = some a15 ∧ wo_ty G10 a15 = 2 ∧ ∃ mc17 ms18 : Nat, (((c + mc2) + mc8) + mc17) ≤ mc ∧ (((s + ms3) + ms9) + ms18) ≤ ms ∧ pq_Og_work E mc17 ms18 (fun G19 => 
          wo_ty G19 a6 = 11 ∧ Post (wo_gi G19 643 a6) G19) G10 a15 (some a6)) ∧
        (¬ v11 = (0 : Int32) → pq_EC_origin_17 E mc ms Post G10 ((c + mc2) + mc8) ((s + ms3) + ms9)))) G4 a6))) G x0 x1
def pq_EC_origin (E : wo_E) (mc ms : Nat) (Post : Int32 → wo_W → Prop) (G : wo_W) (x0 : Nat) (x1 : Int32) : Prop := pq_EC_origin_0 E mc ms Post G 0 0 x0 x1
set_option maxRecDepth 100000 in
set_option maxHeartbeats 4000000 in
theorem tq_EC_origin_17 {p : Program} {l : Launch} {e : Env} {R : Room} {s₀ : State} {m : MethodId} {args : Array Value} {below : List Frame} {meth : Method} {cd : Code} {E : wo_E} {mc ms : Nat} {Post : Int32 → wo_W → Prop} (hC : wo_Cx E "EdgeCache" prog_1_method_8_code 3 9 206 ((Option.some Jvm.ClassFile.FieldType.int)) "origin" mc ms p R s₀ m args meth cd) : ∀ {G : wo_W} {c s : Nat}, pq_EC_origin_17 E mc ms Post G c s → ∀ {H : Heap} {locs : List Loc} {ls : Array Slot}, wo_Se E G H → va_S (en_A E) s₀.heap H locs → lx_has ls 3 [] → c ≤ mc → s ≤ ms → W p l e R s₀ m args below meth cd H locs c s (MQ below (va_Qi Post (wo_B E) (en_A E)) args s₀ mc ms (en_A E)) (F0 m 17 ls []) := by
  intro G c s hw H locs ls hG hS hl hcc hss
  dsimp only [pq_EC_origin_17] at hw
  have hx := hC.1
  have hb := hC.2.1
  refine lv_iconst (v := (-1 : Int32)) hx hb dq_EC_origin_17 rfl ?_
  exact wo_iret hC hG hS hcc hss hw dq_EC_origin_18
set_option maxRecDepth 100000 in
set_option maxHeartbeats 4000000 in
theorem tq_EC_origin_0 {p : Program} {l : Launch} {e : Env} {R : Room} {s₀ : State} {m : MethodId} {args : Array Value} {below : List Frame} {meth : Method} {cd : Code} {E : wo_E} {mc ms : Nat} {Post : Int32 → wo_W → Prop} (hC : wo_Cx E "EdgeCache" prog_1_method_8_code 3 9 206 ((Option.some Jvm.ClassFile.FieldType.int)) "origin" mc ms p R s₀ m args meth cd) : ∀ {G : wo_W} {c s : Nat} {x0 : Nat} {x1 : Int32}, pq_EC_origin_0 E mc ms Post G c s x0 x1 → ∀ {H : Heap} {locs : List Loc} {ls : Array Slot}, wo_Se E G H → va_S (en_A E) s₀.heap H locs → lx_has ls 3 [(0, 1, .ref x0), (1, 1, .int x1)] → c ≤ mc → s ≤ ms → W p l e R s₀ m args below meth cd H locs c s (MQ below (va_Qi Post (wo_B E) (en_A E)) args s₀ mc ms (en_A E)) (F0 m 0 ls []) := by
  intro G c s x0 x1 hw H locs ls hG hS hl hcc hss
  dsimp only [pq_EC_origin_0] at hw
  have hx := hC.1
  have hb := hC.2.1
  refine lv_aload_n hx hb dq_EC_origin_0 rfl (lx_at hl 0 rfl) ?_
  refine lv_iload_n hx hb dq_EC_origin_1 rfl (lx_at hl 1 rfl) ?_
  obtain ⟨t1, hw⟩ := hw
  obtain ⟨mc2, ms3, hc1, hs1, hw⟩ := hw
  refine va_callq (wo_runV hC lq_EC_125 (mq_EC_jobOn hw) hG hS t1 rfl (lx_sz hl) rfl (Nat.zero_le _) (by decide) dq_EC_origin_2 ⟨hc1, hs1⟩) hS (fun _ _ h => h) (fun _ h => h) (fun v5 G4 t H locs ht hvm hw' hB _ _ hS => ?_)
  clear hw
  have hw := hw'
  clear hw'
  replace hG := wo_bk ht hB
  replace hcc := hc1
  replace hss := hs1
  refine lx_astoreR_n (lv' := [(2, 1, va_rf v5), (0, 1, .ref x0), (1, 1, .int x1)]) hx hb dq_EC_origin_5 rfl hl (by decide) rfl (fun ls hl' => ?_)
  clear hl
  have hl := hl'
  clear hl'
  refine lx_aloadR_n hx hb dq_EC_origin_6 rfl (lx_at hl 0 rfl) ?_
  refine lx_ifnull (tgt := 17) hx hb dq_EC_origin_7 rfl (fun h => ?_) (fun a6 h => ?_)
  · replace hw := hw.1 h
    subst h
    exact tq_EC_origin_17 hC hw hG hS (lx_sub hl [] rfl) hcc hss
  · replace hw := hw.2 a6 h
    subst h
    refine lv_aload_n hx hb dq_EC_origin_10 rfl (lx_at hl 0 rfl) ?_
    obtain ⟨t7, hw⟩ := hw
    obtain ⟨mc8, ms9, hc1, hs1, hw⟩ := hw
    refine va_calli (wo_runV hC lq_EC_129 (mq_Jb_isDone hw) hG hS t7 rfl (lx_sz hl) rfl (Nat.zero_le _) (by decide) dq_EC_origin_11 ⟨hc1, hs1⟩) hS (fun _ _ h => h) (fun _ h => h) (fun v11 G10 t H locs ht hvm hw' hB _ _ hS => ?_)
    clear hw
    have hw := hw'
    clear hw'
    replace hG := wo_bk ht hB
    replace hcc := hc1
    replace hss := hs1
    refine lv_if_eq (tgt := 19) hx hb dq_EC_origin_14 rfl (fun h => ?_) (fun h => ?_)
    · replace hw := hw.1 h
      refine lv_aload_n hx hb dq_EC_origin_19 rfl (lx_at hl 1 rfl) ?_
      obtain ⟨t12, hw⟩ := hw
      refine wo_getR hC fq_EC_18 rfl hG t12 dq_EC_origin_20 (fun r13 e14 => ?_)
      replace hw := hw r13 e14
      refine lv_aload_n hx hb dq_EC_origin_23 rfl (lx_at hl 0 rfl) ?_
      obtain ⟨a15, rfl, hw⟩ := hw
      obtain ⟨t16, hw⟩ := hw
      obtain ⟨mc17, ms18, hc1, hs1, hw⟩ := hw
      refine va_callv (wo_runV hC lq_EC_132 (mq_Og_work hw) hG hS t16 rfl (lx_sz hl) rfl (Nat.zero_le _) (by decide) dq_EC_origin_24 ⟨hc1, hs1⟩) hS (fun _ _ h => h) (fun _ h => h) (fun G19 t H locs ht hvm hw' hB _ _ hS => ?_)
      clear hw
      have hw := hw'
      clear hw'
      replace hG := wo_bk ht hB
      replace hcc := hc1
      replace hss := hs1
      refine lv_aload_n hx hb dq_EC_origin_27 rfl (lx_at hl 0 rfl) ?_
      obtain ⟨t20, hw⟩ := hw
      refine wo_getI hC fq_EC_136 rfl hG t20 dq_EC_origin_28 ?_
      exact wo_iret hC hG hS hcc hss hw dq_EC_origin_31
    · replace hw := hw.2 h
      exact tq_EC_origin_17 hC hw hG hS (lx_sub hl [] rfl) hcc hss
set_option maxHeartbeats 4000000 in
theorem mq_EC_origin {l : Launch} {E : wo_E} {mc ms : Nat} {Post : Int32 → wo_W → Prop} {G : wo_W} {x0 : Nat} {x1 : Int32} (hw : pq_EC_origin E mc ms Post G x0 x1) : Met l yq_EC_origin (Cond.code yq_EC_origin prog_1_method_8_code 3 ((Option.some Jvm.ClassFile.FieldType.int)) :: vw_WG) { frames := 9, cells := mc, slots := ms, locals := 206 } (va_Pc [.ref x0, .int x1] (wo_Ok E G)) (va_Qi Post (wo_B E) (en_A E)) mc ms (en_A E) := by
  unfold pq_EC_origin at hw
  exact wo_met [(1, .ref x0), (1, .int x1)] rfl (by decide) (fun q hq => by simp only [List.mem_cons, List.not_mem_nil, or_false] at hq; rcases hq with rfl | rfl <;> first | rfl | exact lx_cR _) (Nat.le_of_ble_eq_true rfl) (fun p e R s m args below meth cd ls hC hG hS hl => tq_EC_origin_0 hC hw hG hS (lx_sub hl [0, 1] rfl) (Nat.zero_le _) (Nat.zero_le _))

theorem dq_EC_spoil_0 : decode prog_1_method_24_code 0 = .ok (.aload_n 0, 1) := by decide +kernel
theorem dq_EC_spoil_1 : decode prog_1_method_24_code 1 = .ok (.ifnull 32, 3) := by decide +kernel
theorem dq_EC_spoil_4 : decode prog_1_method_24_code 4 = .ok (.aload_n 0, 1) := by decide +kernel
theorem dq_EC_spoil_5 : decode prog_1_method_24_code 5 = .ok (.getfield 105, 3) := by decide +kernel
theorem dq_EC_spoil_8 : decode prog_1_method_24_code 8 = .ok (.invokevirtual 143, 3) := by decide +kernel
theorem dq_EC_spoil_11 : decode prog_1_method_24_code 11 = .ok (.ifCond .eq 22, 3) := by decide +kernel
theorem dq_EC_spoil_14 : decode prog_1_method_24_code 14 = .ok (.aload_n 0, 1) := by decide +kernel
theorem dq_EC_spoil_15 : decode prog_1_method_24_code 15 = .ok (.getfield 105, 3) := by decide +kernel
theorem dq_EC_spoil_18 : decode prog_1_method_24_code 18 = .ok (.getfield 149, 3) := by decide +kernel
theorem dq_EC_spoil_21 : decode prog_1_method_24_code 21 = .ok (.aload_n 1, 1) := by decide +kernel
theorem dq_EC_spoil_22 : decode prog_1_method_24_code 22 = .ok (.invokevirtual 272, 3) := by decide +kernel
theorem dq_EC_spoil_25 : decode prog_1_method_24_code 25 = .ok (.ifCond .eq 8, 3) := by decide +kernel
theorem dq_EC_spoil_28 : decode prog_1_method_24_code 28 = .ok (.aload_n 0, 1) := by decide +kernel
theorem dq_EC_spoil_29 : decode prog_1_method_24_code 29 = .ok (.iconst 1, 1) := by decide +kernel
theorem dq_EC_spoil_30 : decode prog_1_method_24_code 30 = .ok (.putfield 252, 3) := by decide +kernel
theorem dq_EC_spoil_33 : decode prog_1_method_24_code 33 = .ok (.return_, 1) := by decide +kernel
set_option maxRecDepth 100000 in
def pq_EC_spoil_33 (E : wo_E) (mc ms : Nat) (Post : wo_W → Prop) (G : wo_W) (c s : Nat) : Prop := Post G
set_option maxRecDepth 100000 in
def pq_EC_spoil_0 (E : wo_E) (mc ms : Nat) (Post : wo_W → Prop) (G : wo_W) (c s : Nat) (x0 : Option Nat) (x1 : Option Nat) : Prop := ((x0 = none → pq_EC_spoil_33 E mc ms Post G c s) ∧
  (∀ a1 : Nat, x0 = some a1 → wo_ty G a1 = 11 ∧ ∀ r3 : Option Nat, r3 = wo_gr G 640 a1 → ∃ a5 : Nat, r3 = some a5 ∧ wo_ty G a5 = 9 ∧ ∃ mc7 ms8 : Nat, (c + mc7) ≤ mc ∧ (s + ms8) ≤ ms ∧ pq_Rq_isRead E mc7 ms8 (fun v10 G9 => 
    ((v10 = (0 : Int32) → pq_EC_spoil_33 E mc ms Post G9 (c + mc7) (s + ms8)) ∧
      (¬ v10 = (0 : Int32) → wo_ty G9 a1 = 11 ∧ ∀ r12 : Option Nat, r12 = wo_gr G9 640 a1 → ∃ a14 : Nat, r12 = some a14 ∧ wo_ty G9 a14 = 9 ∧ ∀ r16 : Option Nat, r16 = wo_gr G9 513 a14 → ∃ a18 : Nat, r16 = some a18 ∧ wo_ty G9 a18 = 10 ∧ ∃ mc20 ms21 : Nat, ((c + mc7) + mc20) ≤ mc ∧ ((s + ms8) + ms21) ≤ ms ∧ pq_St_equals E mc20 ms21 (fun v23 G22 => 
        ((v23 = (0 : Int32) → pq_EC_spoil_33 E mc ms Post G22 ((c + mc7) + mc20) ((s + ms8) + ms21)) ∧
          (¬ v23 = (0 : Int32) → wo_ty G22 a1 = 11 ∧ en_bs E ≤ a1 ∧ wo_okI .boolean (1 : Int32) ∧ ∀ G27 : wo_W, G27 = wo_si G22 646 a1 (1 : Int32) → 
            pq_EC_spoil_33 E mc ms Post G27 ((c + mc7) + mc20) ((s + ms8) + ms21)))) G9 a18 x1))) G a5))
def pq_EC_spoil (E : wo_E) (mc ms : Nat) (Post : wo_W → Prop) (G : wo_W) (x0 : Option Nat) (x1 : Option Nat) : Prop := pq_EC_spoil_0 E mc ms Post G 0 0 x0 x1
set_option maxRecDepth 100000 in
set_option maxHeartbeats 4000000 in
theorem tq_EC_spoil_33 {p : Program} {l : Launch} {e : Env} {R : Room} {s₀ : State} {m : MethodId} {args : Array Value} {below : List Frame} {meth : Method} {cd : Code} {E : wo_E} {mc ms : Nat} {Post : wo_W → Prop} (hC : wo_Cx E "EdgeCache" prog_1_method_24_code 2 2 44 ((Option.none : Option Jvm.ClassFile.FieldType)) "spoil" mc ms p R s₀ m args meth cd) : ∀ {G : wo_W} {c s : Nat}, pq_EC_spoil_33 E mc ms Post G c s → ∀ {H : Heap} {locs : List Loc} {ls : Array Slot}, wo_Se E G H → va_S (en_A E) s₀.heap H locs → lx_has ls 2 [] → c ≤ mc → s ≤ ms → W p l e R s₀ m args below meth cd H locs c s (MQ below (va_Qv Post (wo_B E) (en_A E)) args s₀ mc ms (en_A E)) (F0 m 33 ls []) := by
  intro G c s hw H locs ls hG hS hl hcc hss
  dsimp only [pq_EC_spoil_33] at hw
  have hx := hC.1
  have hb := hC.2.1
  exact wo_vret hC hG hS hcc hss hw dq_EC_spoil_33
set_option maxRecDepth 100000 in
set_option maxHeartbeats 4000000 in
theorem tq_EC_spoil_0 {p : Program} {l : Launch} {e : Env} {R : Room} {s₀ : State} {m : MethodId} {args : Array Value} {below : List Frame} {meth : Method} {cd : Code} {E : wo_E} {mc ms : Nat} {Post : wo_W → Prop} (hC : wo_Cx E "EdgeCache" prog_1_method_24_code 2 2 44 ((Option.none : Option Jvm.ClassFile.FieldType)) "spoil" mc ms p R s₀ m args meth cd) : ∀ {G : wo_W} {c s : Nat} {x0 : Option Nat} {x1 : Option Nat}, pq_EC_spoil_0 E mc ms Post G c s x0 x1 → ∀ {H : Heap} {locs : List Loc} {ls : Array Slot}, wo_Se E G H → va_S (en_A E) s₀.heap H locs → lx_has ls 2 [(0, 1, va_rf x0), (1, 1, va_rf x1)] → c ≤ mc → s ≤ ms → W p l e R s₀ m args below meth cd H locs c s (MQ below (va_Qv Post (wo_B E) (en_A E)) args s₀ mc ms (en_A E)) (F0 m 0 ls []) := by
  intro G c s x0 x1 hw H locs ls hG hS hl hcc hss
  dsimp only [pq_EC_spoil_0] at hw
  have hx := hC.1
  have hb := hC.2.1
  refine lx_aloadR_n hx hb dq_EC_spoil_0 rfl (lx_at hl 0 rfl) ?_
  refine lx_ifnull (tgt := 33) hx hb dq_EC_spoil_1 rfl (fun h => ?_) (fun a1 h => ?_)
  · replace hw := hw.1 h
    subst h
    exact tq_EC_spoil_33 hC hw hG hS (lx_sub hl [] rfl) hcc hss
  · replace hw := hw.2 a1 h
    subst h
    refine lv_aload_n hx hb dq_EC_spoil_4 rfl (lx_at hl 0 rfl) ?_
    obtain ⟨t2, hw⟩ := hw
    refine wo_getR hC fq_EC_105 rfl hG t2 dq_EC_spoil_5 (fun r3 e4 => ?_)
    replace hw := hw r3 e4
    obtain ⟨a5, rfl, hw⟩ := hw
    obtain ⟨t6, hw⟩ := hw
    obtain ⟨mc7, ms8, hc1, hs1, hw⟩ := hw
    refine va_calli (wo_runV hC lq_EC_143 (mq_Rq_isRead hw) hG hS t6 rfl (lx_sz hl) rfl (Nat.zero_le _) (by decide) dq_EC_spoil_8 ⟨hc1, hs1⟩) hS (fun _ _ h => h) (fun _ h => h) (fun v10 G9 t H locs ht hvm hw' hB _ _ hS => ?_)
    clear hw
    have hw := hw'
    clear hw'
    replace hG := wo_bk ht hB
    replace hcc := hc1
    replace hss := hs1
    refine lv_if_eq (tgt := 33) hx hb dq_EC_spoil_11 rfl (fun h => ?_) (fun h => ?_)
    · replace hw := hw.1 h
      exact tq_EC_spoil_33 hC hw hG hS (lx_sub hl [] rfl) hcc hss
    · replace hw := hw.2 h
      refine lv_aload_n hx hb dq_EC_spoil_14 rfl (lx_at hl 0 rfl) ?_
      obtain ⟨t11, hw⟩ := hw
      refine wo_getR hC fq_EC_105 rfl hG t11 dq_EC_spoil_15 (fun r12 e13 => ?_)
      replace hw := hw r12 e13
      obtain ⟨a14, rfl, hw⟩ := hw
      obtain ⟨t15, hw⟩ := hw
      refine wo_getR hC fq_EC_149 rfl hG t15 dq_EC_spoil_18 (fun r16 e17 => ?_)
      replace hw := hw r16 e17
      refine lx_aloadR_n hx hb dq_EC_spoil_21 rfl (lx_at hl 1 rfl) ?_
      obtain ⟨a18, rfl, hw⟩ := hw
      obtain ⟨t19, hw⟩ := hw
      obtain ⟨mc20, ms21, hc1, hs1, hw⟩ := hw
      refine va_calli (wo_runV hC lq_EC_272 (mq_St_equals hw) hG hS t19 rfl (lx_sz hl) rfl (Nat.zero_le _) (by decide) dq_EC_spoil_22 ⟨hc1, hs1⟩) hS (fun _ _ h => h) (fun _ h => h) (fun v23 G22 t H locs ht hvm hw' hB _ _ hS => ?_)
      clear hw
      have hw := hw'
      clear hw'
      replace hG := wo_bk ht hB
      replace hcc := hc1
      replace hss := hs1
      refine lv_if_eq (tgt := 33) hx hb dq_EC_spoil_25 rfl (fun h => ?_) (fun h => ?_)
      · replace hw := hw.1 h
        exact tq_EC_spoil_33 hC hw hG hS (lx_sub hl [] rfl) hcc hss
      · replace hw := hw.2 h
        refine lv_aload_n hx hb dq_EC_spoil_28 rfl (lx_at hl 0 rfl) ?_
        refine lv_iconst (v := (1 : Int32)) hx hb dq_EC_spoil_29 rfl ?_
        obtain ⟨t24, hw⟩ := hw
        obtain ⟨h25, hw⟩ := hw
        obtain ⟨h26, hw⟩ := hw
        refine wo_putI hC fq_EC_252 (Or.inl rfl) rfl h26 hG hS t24 h25 dq_EC_spoil_30 (fun G27 H locs e28 hG hS => ?_)
        replace hw := hw G27 e28
        exact tq_EC_spoil_33 hC hw hG hS (lx_sub hl [] rfl) hcc hss
set_option maxHeartbeats 4000000 in
theorem mq_EC_spoil {l : Launch} {E : wo_E} {mc ms : Nat} {Post : wo_W → Prop} {G : wo_W} {x0 : Option Nat} {x1 : Option Nat} (hw : pq_EC_spoil E mc ms Post G x0 x1) : Met l yq_EC_spoil (Cond.code yq_EC_spoil prog_1_method_24_code 2 ((Option.none : Option Jvm.ClassFile.FieldType)) :: vw_WG) { frames := 2, cells := mc, slots := ms, locals := 44 } (va_Pc [va_rf x0, va_rf x1] (wo_Ok E G)) (va_Qv Post (wo_B E) (en_A E)) mc ms (en_A E) := by
  unfold pq_EC_spoil at hw
  exact wo_met [(1, va_rf x0), (1, va_rf x1)] rfl (by decide) (fun q hq => by simp only [List.mem_cons, List.not_mem_nil, or_false] at hq; rcases hq with rfl | rfl <;> first | rfl | exact lx_cR _) (Nat.le_of_ble_eq_true rfl) (fun p e R s m args below meth cd ls hC hG hS hl => tq_EC_spoil_0 hC hw hG hS (lx_sub hl [0, 1] rfl) (Nat.zero_le _) (Nat.zero_le _))

theorem dq_Sh_sizeOf_0 : decode prog_9_method_4_code 0 = .ok (.aload_n 0, 1) := by decide +kernel
theorem dq_Sh_sizeOf_1 : decode prog_9_method_4_code 1 = .ok (.aload_n 1, 1) := by decide +kernel
theorem dq_Sh_sizeOf_2 : decode prog_9_method_4_code 2 = .ok (.iconst (-1), 1) := by decide +kernel
theorem dq_Sh_sizeOf_3 : decode prog_9_method_4_code 3 = .ok (.iconst 1, 1) := by decide +kernel
theorem dq_Sh_sizeOf_4 : decode prog_9_method_4_code 4 = .ok (.invokevirtual 96, 3) := by decide +kernel
theorem dq_Sh_sizeOf_7 : decode prog_9_method_4_code 7 = .ok (.aload_n 0, 1) := by decide +kernel
theorem dq_Sh_sizeOf_8 : decode prog_9_method_4_code 8 = .ok (.getfield 12, 3) := by decide +kernel
theorem dq_Sh_sizeOf_11 : decode prog_9_method_4_code 11 = .ok (.invokevirtual 100, 3) := by decide +kernel
theorem dq_Sh_sizeOf_14 : decode prog_9_method_4_code 14 = .ok (.ireturn, 1) := by decide +kernel
set_option maxRecDepth 100000 in
def pq_Sh_sizeOf_0 (E : wo_E) (mc ms : Nat) (Post : Int32 → wo_W → Prop) (G : wo_W) (c s : Nat) (x0 : Nat) (x1 : Option Nat) : Prop := wo_ty G x0 = 4 ∧ ∃ mc2 ms3 : Nat, (c + mc2) ≤ mc ∧ (s + ms3) ≤ ms ∧ pq_Sh_whole E mc2 ms3 (fun G4 => 
  wo_ty G4 x0 = 4 ∧ ∀ r6 : Option Nat, r6 = wo_gr G4 192 x0 → ∃ a8 : Nat, r6 = some a8 ∧ wo_ty G4 a8 = 5 ∧ ∃ mc10 ms11 : Nat, ((c + mc2) + mc10) ≤ mc ∧ ((s + ms3) + ms11) ≤ ms ∧ pq_SB_length E mc10 ms11 (fun v13 G12 => 
    Post v13 G12) G4 a8) G x0 x1 (-1 : Int32) (1 : Int32)
def pq_Sh_sizeOf (E : wo_E) (mc ms : Nat) (Post : Int32 → wo_W → Prop) (G : wo_W) (x0 : Nat) (x1 : Option Nat) : Prop := pq_Sh_sizeOf_0 E mc ms Post G 0 0 x0 x1
set_option maxRecDepth 100000 in
set_option maxHeartbeats 4000000 in
theorem tq_Sh_sizeOf_0 {p : Program} {l : Launch} {e : Env} {R : Room} {s₀ : State} {m : MethodId} {args : Array Value} {below : List Frame} {meth : Method} {cd : Code} {E : wo_E} {mc ms : Nat} {Post : Int32 → wo_W → Prop} (hC : wo_Cx E "EdgeCache$Sheet" prog_9_method_4_code 2 9 210 ((Option.some Jvm.ClassFile.FieldType.int)) "sizeOf" mc ms p R s₀ m args meth cd) : ∀ {G : wo_W} {c s : Nat} {x0 : Nat} {x1 : Option Nat}, pq_Sh_sizeOf_0 E mc ms Post G c s x0 x1 → ∀ {H : Heap} {locs : List Loc} {ls : Array Slot}, wo_Se E G H → va_S (en_A E) s₀.heap H locs → lx_has ls 2 [(0, 1, .ref x0), (1, 1, va_rf x1)] → c ≤ mc → s ≤ ms → W p l e R s₀ m args below meth cd H locs c s (MQ below (va_Qi Post (wo_B E) (en_A E)) args s₀ mc ms (en_A E)) (F0 m 0 ls []) := by
  intro G c s x0 x1 hw H locs ls hG hS hl hcc hss
  dsimp only [pq_Sh_sizeOf_0] at hw
  have hx := hC.1
  have hb := hC.2.1
  refine lv_aload_n hx hb dq_Sh_sizeOf_0 rfl (lx_at hl 0 rfl) ?_
  refine lx_aloadR_n hx hb dq_Sh_sizeOf_1 rfl (lx_at hl 1 rfl) ?_
  refine lv_iconst (v := (-1 : Int32)) hx hb dq_Sh_sizeOf_2 rfl ?_
  refine lv_iconst (v := (1 : Int32)) hx hb dq_Sh_sizeOf_3 rfl ?_
  obtain ⟨t1, hw⟩ := hw
  obtain ⟨mc2, ms3, hc1, hs1, hw⟩ := hw
  refine va_callv (wo_runV hC lq_Sh_96 (mq_Sh_whole hw) hG hS t1 rfl (lx_sz hl) rfl (Nat.zero_le _) (by decide) dq_Sh_sizeOf_4 ⟨hc1, hs1⟩) hS (fun _ _ h => h) (fun _ h => h) (fun G4 t H locs ht hvm hw' hB _ _ hS => ?_)
  clear hw
  have hw := hw'
  clear hw'
  replace hG := wo_bk ht hB
  replace hcc := hc1
  replace hss := hs1
  refine lv_aload_n hx hb dq_Sh_sizeOf_7 rfl (lx_at hl 0 rfl) ?_
  obtain ⟨t5, hw⟩ := hw
  refine wo_getR hC fq_Sh_12 rfl hG t5 dq_Sh_sizeOf_8 (fun r6 e7 => ?_)
  replace hw := hw r6 e7
  obtain ⟨a8, rfl, hw⟩ := hw
  obtain ⟨t9, hw⟩ := hw
  obtain ⟨mc10, ms11, hc1, hs1, hw⟩ := hw
  refine va_calli (wo_runV hC lq_Sh_100 (mq_SB_length hw) hG hS t9 rfl (lx_sz hl) rfl (Nat.zero_le _) (by decide) dq_Sh_sizeOf_11 ⟨hc1, hs1⟩) hS (fun _ _ h => h) (fun _ h => h) (fun v13 G12 t H locs ht hvm hw' hB _ _ hS => ?_)
  clear hw
  have hw := hw'
  clear hw'
  replace hG := wo_bk ht hB
  replace hcc := hc1
  replace hss := hs1
  exact wo_iret hC hG hS hcc hss hw dq_Sh_sizeOf_14
set_option maxHeartbeats 4000000 in
theorem mq_Sh_sizeOf {l : Launch} {E : wo_E} {mc ms : Nat} {Post : Int32 → wo_W → Prop} {G : wo_W} {x0 : Nat} {x1 : Option Nat} (hw : pq_Sh_sizeOf E mc ms Post G x0 x1) : Met l yq_Sh_sizeOf (Cond.code yq_Sh_sizeOf prog_9_method_4_code 2 ((Option.some Jvm.ClassFile.FieldType.int)) :: vw_WG) { frames := 9, cells := mc, slots := ms, locals := 210 } (va_Pc [.ref x0, va_rf x1] (wo_Ok E G)) (va_Qi Post (wo_B E) (en_A E)) mc ms (en_A E) := by
  unfold pq_Sh_sizeOf at hw
  exact wo_met [(1, .ref x0), (1, va_rf x1)] rfl (by decide) (fun q hq => by simp only [List.mem_cons, List.not_mem_nil, or_false] at hq; rcases hq with rfl | rfl <;> first | rfl | exact lx_cR _) (Nat.le_of_ble_eq_true rfl) (fun p e R s m args below meth cd ls hC hG hS hl => tq_Sh_sizeOf_0 hC hw hG hS (lx_sub hl [0, 1] rfl) (Nat.zero_le _) (Nat.zero_le _))

theorem dq_So_drop_0 : decode prog_10_method_9_code 0 = .ok (.iload_n 1, 1) := by decide +kernel
theorem dq_So_drop_1 : decode prog_10_method_9_code 1 = .ok (.ifCond .lt 46, 3) := by decide +kernel
theorem dq_So_drop_4 : decode prog_10_method_9_code 4 = .ok (.iload_n 1, 1) := by decide +kernel
theorem dq_So_drop_5 : decode prog_10_method_9_code 5 = .ok (.aload_n 0, 1) := by decide +kernel
theorem dq_So_drop_6 : decode prog_10_method_9_code 6 = .ok (.getfield 10, 3) := by decide +kernel
theorem dq_So_drop_9 : decode prog_10_method_9_code 9 = .ok (.invokevirtual 20, 3) := by decide +kernel
theorem dq_So_drop_12 : decode prog_10_method_9_code 12 = .ok (.if_icmp .ge 35, 3) := by decide +kernel
theorem dq_So_drop_15 : decode prog_10_method_9_code 15 = .ok (.aload_n 0, 1) := by decide +kernel
theorem dq_So_drop_16 : decode prog_10_method_9_code 16 = .ok (.dup, 1) := by decide +kernel
theorem dq_So_drop_17 : decode prog_10_method_9_code 17 = .ok (.getfield 69, 3) := by decide +kernel
theorem dq_So_drop_20 : decode prog_10_method_9_code 20 = .ok (.aload_n 0, 1) := by decide +kernel
theorem dq_So_drop_21 : decode prog_10_method_9_code 21 = .ok (.getfield 10, 3) := by decide +kernel
theorem dq_So_drop_24 : decode prog_10_method_9_code 24 = .ok (.iload_n 1, 1) := by decide +kernel
theorem dq_So_drop_25 : decode prog_10_method_9_code 25 = .ok (.invokevirtual 24, 3) := by decide +kernel
theorem dq_So_drop_28 : decode prog_10_method_9_code 28 = .ok (.checkcast 28, 3) := by decide +kernel
theorem dq_So_drop_31 : decode prog_10_method_9_code 31 = .ok (.getfield 67, 3) := by decide +kernel
theorem dq_So_drop_34 : decode prog_10_method_9_code 34 = .ok (.isub, 1) := by decide +kernel
theorem dq_So_drop_35 : decode prog_10_method_9_code 35 = .ok (.putfield 69, 3) := by decide +kernel
theorem dq_So_drop_38 : decode prog_10_method_9_code 38 = .ok (.aload_n 0, 1) := by decide +kernel
theorem dq_So_drop_39 : decode prog_10_method_9_code 39 = .ok (.getfield 10, 3) := by decide +kernel
theorem dq_So_drop_42 : decode prog_10_method_9_code 42 = .ok (.iload_n 1, 1) := by decide +kernel
theorem dq_So_drop_43 : decode prog_10_method_9_code 43 = .ok (.invokevirtual 34, 3) := by decide +kernel
theorem dq_So_drop_46 : decode prog_10_method_9_code 46 = .ok (.pop, 1) := by decide +kernel
theorem dq_So_drop_47 : decode prog_10_method_9_code 47 = .ok (.return_, 1) := by decide +kernel
set_option maxRecDepth 100000 in
def pq_So_drop_47 (E : wo_E) (mc ms : Nat) (Post : wo_W → Prop) (G : wo_W) (c s : Nat) : Prop := Post G
set_option maxRecDepth 100000 in
def pq_So_drop_0 (E : wo_E) (mc ms : Nat) (Post : wo_W → Prop) (G : wo_W) (c s : Nat) (x0 : Nat) (x1 : Int32) : Prop := ((x1 < (0 : Int32) → pq_So_drop_47 E mc ms Post G c s) ∧
  (¬ x1 < (0 : Int32) → wo_ty G x0 = 6 ∧ ∀ r2 : Option Nat, r2 = wo_gr G 320 x0 → ∃ a4 : Nat, r2 = some a4 ∧ wo_ty G a4 = 3 ∧ ∃ mc6 ms7 : Nat, (c + mc6) ≤ mc ∧ (s + ms7) ≤ ms ∧ pq_Al_size E mc6 ms7 (fun v9 G8 => 
    ((v9 ≤ x1 → pq_So_drop_47 E mc ms Post G8 (c + mc6) (s + ms7)) ∧
      (¬ v9 ≤ x1 → wo_ty G8 x0 = 6 ∧ ∀ r11 : Option Nat, r11 = wo_gr G8 320 x0 → ∃ a13 : Nat, r11 = some a13 ∧ wo_ty G8 a13 = 3 ∧ ∃ mc15 ms16 : Nat, ((c + mc6) + mc15) ≤ mc ∧ ((s + ms7) + ms16) ≤ ms ∧ pq_Al_get E mc15 ms16 (fun v18 G17 => 
        wo_is G17 14 v18 ∧ ∃ a20 : Nat, v18 = some a20 ∧ wo_ty G17 a20 = 14 ∧ wo_ty G17 x0 = 6 ∧ en_bs E ≤ x0 ∧ ∀ G24 : wo_W, G24 = wo_si G17 322 x0 ((wo_gi G8 322 x0) - (wo_gi G17 836 a20)) → 
          ∀ r26 : Option Nat, r26 = wo_gr G24 320 x0 → ∃ a28 : Nat, r26 = some a28 ∧ wo_ty G24 a28 = 3 ∧ ∃ mc30 ms31 : Nat, (((c + mc6) + mc15) + mc30) ≤ mc ∧ (((s + ms7) + ms16) + ms31) ≤ ms ∧ pq_Al_remove E mc30 ms31 (fun v33 G32 => 
          pq_So_drop_47 E mc ms Post G32 (((c + mc6) + mc15) + mc30) (((s + ms7) + ms16) + ms31)) G24 a28 x1) G8 a13 x1))) G a4))
def pq_So_drop (E : wo_E) (mc ms : Nat) (Post : wo_W → Prop) (G : wo_W) (x0 : Nat) (x1 : Int32) : Prop := pq_So_drop_0 E mc ms Post G 0 0 x0 x1
set_option maxRecDepth 100000 in
set_option maxHeartbeats 4000000 in
theorem tq_So_drop_47 {p : Program} {l : Launch} {e : Env} {R : Room} {s₀ : State} {m : MethodId} {args : Array Value} {below : List Frame} {meth : Method} {cd : Code} {E : wo_E} {mc ms : Nat} {Post : wo_W → Prop} (hC : wo_Cx E "EdgeCache$Store" prog_10_method_9_code 2 3 74 ((Option.none : Option Jvm.ClassFile.FieldType)) "drop" mc ms p R s₀ m args meth cd) : ∀ {G : wo_W} {c s : Nat}, pq_So_drop_47 E mc ms Post G c s → ∀ {H : Heap} {locs : List Loc} {ls : Array Slot}, wo_Se E G H → va_S (en_A E) s₀.heap H locs → lx_has ls 2 [] → c ≤ mc → s ≤ ms → W p l e R s₀ m args below meth cd H locs c s (MQ below (va_Qv Post (wo_B E) (en_A E)) args s₀ mc ms (en_A E)) (F0 m 47 ls []) := by
  intro G c s hw H locs ls hG hS hl hcc hss
  dsimp only [pq_So_drop_47] at hw
  have hx := hC.1
  have hb := hC.2.1
  exact wo_vret hC hG hS hcc hss hw dq_So_drop_47
set_option maxRecDepth 100000 in
set_option maxHeartbeats 4000000 in
theorem tq_So_drop_0 {p : Program} {l : Launch} {e : Env} {R : Room} {s₀ : State} {m : MethodId} {args : Array Value} {below : List Frame} {meth : Method} {cd : Code} {E : wo_E} {mc ms : Nat} {Post : wo_W → Prop} (hC : wo_Cx E "EdgeCache$Store" prog_10_method_9_code 2 3 74 ((Option.none : Option Jvm.ClassFile.FieldType)) "drop" mc ms p R s₀ m args meth cd) : ∀ {G : wo_W} {c s : Nat} {x0 : Nat} {x1 : Int32}, pq_So_drop_0 E mc ms Post G c s x0 x1 → ∀ {H : Heap} {locs : List Loc} {ls : Array Slot}, wo_Se E G H → va_S (en_A E) s₀.heap H locs → lx_has ls 2 [(0, 1, .ref x0), (1, 1, .int x1)] → c ≤ mc → s ≤ ms → W p l e R s₀ m args below meth cd H locs c s (MQ below (va_Qv Post (wo_B E) (en_A E)) args s₀ mc ms (en_A E)) (F0 m 0 ls []) := by
  intro G c s x0 x1 hw H locs ls hG hS hl hcc hss
  dsimp only [pq_So_drop_0] at hw
  have hx := hC.1
  have hb := hC.2.1
  refine lv_iload_n hx hb dq_So_drop_0 rfl (lx_at hl 1 rfl) ?_
  refine lv_if_lt (tgt := 47) hx hb dq_So_drop_1 rfl (fun h => ?_) (fun h => ?_)
  · replace hw := hw.1 h
    exact tq_So_drop_47 hC hw hG hS (lx_sub hl [] rfl) hcc hss
  · replace hw := hw.2 h
    refine lv_iload_n hx hb dq_So_drop_4 rfl (lx_at hl 1 rfl) ?_
    refine lv_aload_n hx hb dq_So_drop_5 rfl (lx_at hl 0 rfl) ?_
    obtain ⟨t1, hw⟩ := hw
    refine wo_getR hC fq_So_10 rfl hG t1 dq_So_drop_6 (fun r2 e3 => ?_)
    replace hw := hw r2 e3
    obtain ⟨a4, rfl, hw⟩ := hw
    obtain ⟨t5, hw⟩ := hw
    obtain ⟨mc6, ms7, hc1, hs1, hw⟩ := hw
    refine va_calli (wo_runV hC lq_So_20 (mq_Al_size hw) hG hS t5 rfl (lx_sz hl) rfl (lx_rm (Nat.le_of_ble_eq_true rfl)) (by decide) dq_So_drop_9 ⟨hc1, hs1⟩) hS (fun _ _ h => h) (fun _ h => h) (fun v9 G8 t H locs ht hvm hw' hB _ _ hS => ?_)
    clear hw
    have hw := hw'
    clear hw'
    replace hG := wo_bk ht hB
    replace hcc := hc1
    replace hss := hs1
    refine lv_icmp_ge (tgt := 47) hx hb dq_So_drop_12 rfl (fun h => ?_) (fun h => ?_)
    · replace hw := hw.1 h
      exact tq_So_drop_47 hC hw hG hS (lx_sub hl [] rfl) hcc hss
    · replace hw := hw.2 h
      refine lv_aload_n hx hb dq_So_drop_15 rfl (lx_at hl 0 rfl) ?_
      refine lv_dup hx hb dq_So_drop_16 rfl ?_
      obtain ⟨t10, hw⟩ := hw
      refine wo_getI hC fq_So_69 rfl hG t10 dq_So_drop_17 ?_
      refine lv_aload_n hx hb dq_So_drop_20 rfl (lx_at hl 0 rfl) ?_
      refine wo_getR hC fq_So_10 rfl hG t10 dq_So_drop_21 (fun r11 e12 => ?_)
      replace hw := hw r11 e12
      refine lv_iload_n hx hb dq_So_drop_24 rfl (lx_at hl 1 rfl) ?_
      obtain ⟨a13, rfl, hw⟩ := hw
      obtain ⟨t14, hw⟩ := hw
      obtain ⟨mc15, ms16, hc1, hs1, hw⟩ := hw
      refine va_callq (wo_runV hC lq_So_24 (mq_Al_get hw) hG hS t14 rfl (lx_sz hl) rfl (lx_rm (Nat.le_of_ble_eq_true rfl)) (by decide) dq_So_drop_25 ⟨hc1, hs1⟩) hS (fun _ _ h => h) (fun _ h => h) (fun v18 G17 t H locs ht hvm hw' hB _ _ hS => ?_)
      clear hw
      have hw := hw'
      clear hw'
      replace hG := wo_bk ht hB
      replace hcc := hc1
      replace hss := hs1
      obtain ⟨h19, hw⟩ := hw
      refine wo_chk (x := v18) (c := 13) hC rfl kq_So_28 (Or.inl rfl) hG h19 dq_So_drop_28 ?_
      obtain ⟨a20, rfl, hw⟩ := hw
      obtain ⟨t21, hw⟩ := hw
      refine wo_getI hC fq_So_67 rfl hG t21 dq_So_drop_31 ?_
      refine lv_isub hx hb dq_So_drop_34 ?_
      obtain ⟨t22, hw⟩ := hw
      obtain ⟨h23, hw⟩ := hw
      refine wo_putI hC fq_So_69 (Or.inl rfl) rfl (wo_ok_int _) hG hS t22 h23 dq_So_drop_35 (fun G24 H locs e25 hG hS => ?_)
      replace hw := hw G24 e25
      refine lv_aload_n hx hb dq_So_drop_38 rfl (lx_at hl 0 rfl) ?_
      refine wo_getR hC fq_So_10 rfl hG (ty_si e25 t22) dq_So_drop_39 (fun r26 e27 => ?_)
      replace hw := hw r26 e27
      refine lv_iload_n hx hb dq_So_drop_42 rfl (lx_at hl 1 rfl) ?_
      obtain ⟨a28, rfl, hw⟩ := hw
      obtain ⟨t29, hw⟩ := hw
      obtain ⟨mc30, ms31, hc1, hs1, hw⟩ := hw
      refine va_callq (wo_runV hC lq_So_34 (mq_Al_remove hw) hG hS t29 rfl (lx_sz hl) rfl (Nat.zero_le _) (by decide) dq_So_drop_43 ⟨hc1, hs1⟩) hS (fun _ _ h => h) (fun _ h => h) (fun v33 G32 t H locs ht hvm hw' hB _ _ hS => ?_)
      clear hw
      have hw := hw'
      clear hw'
      replace hG := wo_bk ht hB
      replace hcc := hc1
      replace hss := hs1
      refine lv_pop hx hb dq_So_drop_46 (lx_cR _) ?_
      exact tq_So_drop_47 hC hw hG hS (lx_sub hl [] rfl) hcc hss
set_option maxHeartbeats 4000000 in
theorem mq_So_drop {l : Launch} {E : wo_E} {mc ms : Nat} {Post : wo_W → Prop} {G : wo_W} {x0 : Nat} {x1 : Int32} (hw : pq_So_drop E mc ms Post G x0 x1) : Met l yq_So_drop (Cond.code yq_So_drop prog_10_method_9_code 2 ((Option.none : Option Jvm.ClassFile.FieldType)) :: vw_WG) { frames := 3, cells := mc, slots := ms, locals := 74 } (va_Pc [.ref x0, .int x1] (wo_Ok E G)) (va_Qv Post (wo_B E) (en_A E)) mc ms (en_A E) := by
  unfold pq_So_drop at hw
  exact wo_met [(1, .ref x0), (1, .int x1)] rfl (by decide) (fun q hq => by simp only [List.mem_cons, List.not_mem_nil, or_false] at hq; rcases hq with rfl | rfl <;> first | rfl | exact lx_cR _) (Nat.le_of_ble_eq_true rfl) (fun p e R s m args below meth cd ls hC hG hS hl => tq_So_drop_0 hC hw hG hS (lx_sub hl [0, 1] rfl) (Nat.zero_le _) (Nat.zero_le _))

theorem dq_So_dropFitting_0 : decode prog_10_method_6_code 0 = .ok (.aload_n 0, 1) := by decide +kernel
theorem dq_So_dropFitting_1 : decode prog_10_method_6_code 1 = .ok (.getfield 10, 3) := by decide +kernel
theorem dq_So_dropFitting_4 : decode prog_10_method_6_code 4 = .ok (.invokevirtual 20, 3) := by decide +kernel
theorem dq_So_dropFitting_7 : decode prog_10_method_6_code 7 = .ok (.iconst 1, 1) := by decide +kernel
theorem dq_So_dropFitting_8 : decode prog_10_method_6_code 8 = .ok (.isub, 1) := by decide +kernel
theorem dq_So_dropFitting_9 : decode prog_10_method_6_code 9 = .ok (.istore_n 2, 1) := by decide +kernel
theorem dq_So_dropFitting_10 : decode prog_10_method_6_code 10 = .ok (.iload_n 2, 1) := by decide +kernel
theorem dq_So_dropFitting_11 : decode prog_10_method_6_code 11 = .ok (.ifCond .lt 32, 3) := by decide +kernel
theorem dq_So_dropFitting_14 : decode prog_10_method_6_code 14 = .ok (.aload_n 0, 1) := by decide +kernel
theorem dq_So_dropFitting_15 : decode prog_10_method_6_code 15 = .ok (.getfield 10, 3) := by decide +kernel
theorem dq_So_dropFitting_18 : decode prog_10_method_6_code 18 = .ok (.iload_n 2, 1) := by decide +kernel
theorem dq_So_dropFitting_19 : decode prog_10_method_6_code 19 = .ok (.invokevirtual 24, 3) := by decide +kernel
theorem dq_So_dropFitting_22 : decode prog_10_method_6_code 22 = .ok (.checkcast 28, 3) := by decide +kernel
theorem dq_So_dropFitting_25 : decode prog_10_method_6_code 25 = .ok (.aload_n 1, 1) := by decide +kernel
theorem dq_So_dropFitting_26 : decode prog_10_method_6_code 26 = .ok (.invokevirtual 30, 3) := by decide +kernel
theorem dq_So_dropFitting_29 : decode prog_10_method_6_code 29 = .ok (.ifCond .eq 8, 3) := by decide +kernel
theorem dq_So_dropFitting_32 : decode prog_10_method_6_code 32 = .ok (.aload_n 0, 1) := by decide +kernel
theorem dq_So_dropFitting_33 : decode prog_10_method_6_code 33 = .ok (.iload_n 2, 1) := by decide +kernel
theorem dq_So_dropFitting_34 : decode prog_10_method_6_code 34 = .ok (.invokevirtual 50, 3) := by decide +kernel
theorem dq_So_dropFitting_37 : decode prog_10_method_6_code 37 = .ok (.iinc 2 (-1), 3) := by decide +kernel
theorem dq_So_dropFitting_40 : decode prog_10_method_6_code 40 = .ok (.goto (-30), 3) := by decide +kernel
theorem dq_So_dropFitting_43 : decode prog_10_method_6_code 43 = .ok (.return_, 1) := by decide +kernel
set_option maxRecDepth 100000 in
def pq_So_dropFitting_37 (E : wo_E) (mc ms : Nat) (Post : wo_W → Prop) (k10 : wo_W → Nat → Nat → Nat → Option Nat → Int32 → Prop) (G : wo_W) (c s : Nat) (x0 : Nat) (x1 : Option Nat) (x2 : Int32) : Prop := k10 G c s x0 x1 (x2 + (-1 : Int32))
set_option maxRecDepth 100000 in
def pq_So_dropFitting_10 (E : wo_E) (mc ms : Nat) (Post : wo_W → Prop) : Nat → wo_W → Nat → Nat → Nat → Option Nat → Int32 → Prop
  | 0 => fun _ _ _ _ _ _ => False
  | n + 1 => fun G c s x0 x1 x2 => ((x2 < (0 : Int32) → Post G) ∧
  (¬ x2 < (0 : Int32) → wo_ty G x0 = 6 ∧ ∀ r2 : Option Nat, r2 = wo_gr G 320 x0 → ∃ a4 : Nat, r2 = some a4 ∧ wo_ty G a4 = 3 ∧ ∃ mc6 ms7 : Nat, (c + mc6) ≤ mc ∧ (s + ms7) ≤ ms ∧ pq_Al_get E mc6 ms7 (fun v9 G8 => 
    wo_is G8 14 v9 ∧ ∃ a11 : Nat, v9 = some a11 ∧ wo_ty G8 a11 = 14 ∧ ∃ mc13 ms14 : Nat, ((c + mc6) + mc13) ≤ mc ∧ ((s + ms7) + ms14) ≤ ms ∧ pq_Sd_fits E mc13 ms14 (fun v16 G15 => 
      ((v16 = (0 : Int32) → pq_So_dropFitting_37 E mc ms Post (pq_So_dropFitting_10 E mc ms Post n) G15 ((c + mc6) + mc13) ((s + ms7) + ms14) x0 x1 x2) ∧
        (¬ v16 = (0 : Int32) → wo_ty G15 x0 = 6 ∧ ∃ mc18 ms19 : Nat, (((c + mc6) + mc13) + mc18) ≤ mc ∧ (((s + ms7) + ms14) + ms19) ≤ ms ∧ pq_So_drop E mc18 ms19 (fun G20 => 
          pq_So_dropFitting_37 E mc ms Post (pq_So_dropFitting_10 E mc ms Post n) G20 (((c + mc6) + mc13) + mc18) (((s + ms7) + ms14) + ms19) x0 x1 x2) G15 x0 x2))) G8 a11 x1) G a4 x2))
set_option maxRecDepth 100000 in
def pq_So_dropFitting_0 (E : wo_E) (mc ms : Nat) (Post : wo_W → Prop) (G : wo_W) (c s : Nat) (x0 : Nat) (x1 : Option Nat) : Prop := wo_ty G x0 = 6 ∧ ∀ r2 : Option Nat, r2 = wo_gr G 320 x0 → ∃ a4 : Nat, r2 = some a4 ∧ wo_ty G a4 = 3 ∧ ∃ mc6 ms7 : Nat, (c + mc6) ≤ mc ∧ (s + ms7) ≤ ms ∧ pq_Al_size E mc6 ms7 (fun v9 G8 => 
  ∃ n1 : Nat, pq_So_dropFitting_10 E mc ms Post n1 G8 (c + mc6) (s + ms7) x0 x1 (v9 - (1 : Int32))) G a4
def pq_So_dropFitting (E : wo_E) (mc ms : Nat) (Post : wo_W → Prop) (G : wo_W) (x0 : Nat) (x1 : Option Nat) : Prop := pq_So_dropFitting_0 E mc ms Post G 0 0 x0 x1
set_option maxRecDepth 100000 in
set_option maxHeartbeats 4000000 in
theorem tq_So_dropFitting_37 {p : Program} {l : Launch} {e : Env} {R : Room} {s₀ : State} {m : MethodId} {args : Array Value} {below : List Frame} {meth : Method} {cd : Code} {E : wo_E} {mc ms : Nat} {Post : wo_W → Prop} {k10 : wo_W → Nat → Nat → Nat → Option Nat → Int32 → Prop} (hC : wo_Cx E "EdgeCache$Store" prog_10_method_6_code 3 4 95 ((Option.none : Option Jvm.ClassFile.FieldType)) "dropFitting" mc ms p R s₀ m args meth cd) (hk10 : ∀ {G : wo_W} {c s : Nat} {x0 : Nat} {x1 : Option Nat} {x2 : Int32}, k10 G c s x0 x1 x2 → ∀ {H : Heap} {locs : List Loc} {ls : Array Slot}, wo_Se E G H → va_S (en_A E) s₀.heap H locs → lx_has ls 3 [(0, 1, .ref x0), (1, 1, va_rf x1), (2, 1, .int x2)] → c ≤ mc → s ≤ ms → W p l e R s₀ m args below meth cd H locs c s (MQ below (va_Qv Post (wo_B E) (en_A E)) args s₀ mc ms (en_A E)) (F0 m 10 ls [])) : ∀ {G : wo_W} {c s : Nat} {x0 : Nat} {x1 : Option Nat} {x2 : Int32}, pq_So_dropFitting_37 E mc ms Post k10 G c s x0 x1 x2 → ∀ {H : Heap} {locs : List Loc} {ls : Array Slot}, wo_Se E G H → va_S (en_A E) s₀.heap H locs → lx_has ls 3 [(0, 1, .ref x0), (1, 1, va_rf x1), (2, 1, .int x2)] → c ≤ mc → s ≤ ms → W p l e R s₀ m args below meth cd H locs c s (MQ below (va_Qv Post (wo_B E) (en_A E)) args s₀ mc ms (en_A E)) (F0 m 37 ls []) := by
  intro G c s x0 x1 x2 hw H locs ls hG hS hl hcc hss
  dsimp only [pq_So_dropFitting_37] at hw
  have hx := hC.1
  have hb := hC.2.1
  refine lx_iinc (k := 2) (v := (x2 + (-1 : Int32))) (lv' := [(2, 1, .int (x2 + (-1 : Int32))), (0, 1, .ref x0), (1, 1, va_rf x1)]) hx hb dq_So_dropFitting_37 hl rfl rfl (by decide) rfl (fun ls hl' => ?_)
  clear hl
  have hl := hl'
  clear hl'
  refine lv_goto (tgt := 10) hx hb dq_So_dropFitting_40 rfl ?_
  exact hk10 hw hG hS (lx_sub hl [1, 2, 0] rfl) hcc hss
set_option maxRecDepth 100000 in
set_option maxHeartbeats 4000000 in
theorem tq_So_dropFitting_10 {p : Program} {l : Launch} {e : Env} {R : Room} {s₀ : State} {m : MethodId} {args : Array Value} {below : List Frame} {meth : Method} {cd : Code} {E : wo_E} {mc ms : Nat} {Post : wo_W → Prop} (hC : wo_Cx E "EdgeCache$Store" prog_10_method_6_code 3 4 95 ((Option.none : Option Jvm.ClassFile.FieldType)) "dropFitting" mc ms p R s₀ m args meth cd) : ∀ n : Nat, ∀ {G : wo_W} {c s : Nat} {x0 : Nat} {x1 : Option Nat} {x2 : Int32}, pq_So_dropFitting_10 E mc ms Post n G c s x0 x1 x2 → ∀ {H : Heap} {locs : List Loc} {ls : Array Slot}, wo_Se E G H → va_S (en_A E) s₀.heap H locs → lx_has ls 3 [(0, 1, .ref x0), (1, 1, va_rf x1), (2, 1, .int x2)] → c ≤ mc → s ≤ ms → W p l e R s₀ m args below meth cd H locs c s (MQ below (va_Qv Post (wo_B E) (en_A E)) args s₀ mc ms (en_A E)) (F0 m 10 ls []) := by
  intro n
  induction n with
  | zero => intro G c s x0 x1 x2 hw; exact hw.elim
  | succ n ih =>
    intro G c s x0 x1 x2 hw H locs ls hG hS hl hcc hss
    dsimp only [pq_So_dropFitting_10] at hw
    have hx := hC.1
    have hb := hC.2.1
    refine lv_iload_n hx hb dq_So_dropFitting_10 rfl (lx_at hl 2 rfl) ?_
    refine lv_if_lt (tgt := 43) hx hb dq_So_dropFitting_11 rfl (fun h => ?_) (fun h => ?_)
    · replace hw := hw.1 h
      exact wo_vret hC hG hS hcc hss hw dq_So_dropFitting_43
    · replace hw := hw.2 h
      refine lv_aload_n hx hb dq_So_dropFitting_14 rfl (lx_at hl 0 rfl) ?_
      obtain ⟨t1, hw⟩ := hw
      refine wo_getR hC fq_So_10 rfl hG t1 dq_So_dropFitting_15 (fun r2 e3 => ?_)
      replace hw := hw r2 e3
      refine lv_iload_n hx hb dq_So_dropFitting_18 rfl (lx_at hl 2 rfl) ?_
      obtain ⟨a4, rfl, hw⟩ := hw
      obtain ⟨t5, hw⟩ := hw
      obtain ⟨mc6, ms7, hc1, hs1, hw⟩ := hw
      refine va_callq (wo_runV hC lq_So_24 (mq_Al_get hw) hG hS t5 rfl (lx_sz hl) rfl (Nat.zero_le _) (by decide) dq_So_dropFitting_19 ⟨hc1, hs1⟩) hS (fun _ _ h => h) (fun _ h => h) (fun v9 G8 t H locs ht hvm hw' hB _ _ hS => ?_)
      clear hw
      have hw := hw'
      clear hw'
      replace hG := wo_bk ht hB
      replace hcc := hc1
      replace hss := hs1
      obtain ⟨h10, hw⟩ := hw
      refine wo_chk (x := v9) (c := 13) hC rfl kq_So_28 (Or.inl rfl) hG h10 dq_So_dropFitting_22 ?_
      refine lx_aloadR_n hx hb dq_So_dropFitting_25 rfl (lx_at hl 1 rfl) ?_
      obtain ⟨a11, rfl, hw⟩ := hw
      obtain ⟨t12, hw⟩ := hw
      obtain ⟨mc13, ms14, hc1, hs1, hw⟩ := hw
      refine va_calli (wo_runV hC lq_So_30 (mq_Sd_fits hw) hG hS t12 rfl (lx_sz hl) rfl (Nat.zero_le _) (by decide) dq_So_dropFitting_26 ⟨hc1, hs1⟩) hS (fun _ _ h => h) (fun _ h => h) (fun v16 G15 t H locs ht hvm hw' hB _ _ hS => ?_)
      clear hw
      have hw := hw'
      clear hw'
      replace hG := wo_bk ht hB
      replace hcc := hc1
      replace hss := hs1
      refine lv_if_eq (tgt := 37) hx hb dq_So_dropFitting_29 rfl (fun h => ?_) (fun h => ?_)
      · replace hw := hw.1 h
        exact tq_So_dropFitting_37 hC ih hw hG hS (lx_sub hl [0, 1, 2] rfl) hcc hss
      · replace hw := hw.2 h
        refine lv_aload_n hx hb dq_So_dropFitting_32 rfl (lx_at hl 0 rfl) ?_
        refine lv_iload_n hx hb dq_So_dropFitting_33 rfl (lx_at hl 2 rfl) ?_
        obtain ⟨t17, hw⟩ := hw
        obtain ⟨mc18, ms19, hc1, hs1, hw⟩ := hw
        refine va_callv (wo_runV hC lq_So_50 (mq_So_drop hw) hG hS t17 rfl (lx_sz hl) rfl (Nat.zero_le _) (by decide) dq_So_dropFitting_34 ⟨hc1, hs1⟩) hS (fun _ _ h => h) (fun _ h => h) (fun G20 t H locs ht hvm hw' hB _ _ hS => ?_)
        clear hw
        have hw := hw'
        clear hw'
        replace hG := wo_bk ht hB
        replace hcc := hc1
        replace hss := hs1
        exact tq_So_dropFitting_37 hC ih hw hG hS (lx_sub hl [0, 1, 2] rfl) hcc hss
set_option maxRecDepth 100000 in
set_option maxHeartbeats 4000000 in
theorem tq_So_dropFitting_0 {p : Program} {l : Launch} {e : Env} {R : Room} {s₀ : State} {m : MethodId} {args : Array Value} {below : List Frame} {meth : Method} {cd : Code} {E : wo_E} {mc ms : Nat} {Post : wo_W → Prop} (hC : wo_Cx E "EdgeCache$Store" prog_10_method_6_code 3 4 95 ((Option.none : Option Jvm.ClassFile.FieldType)) "dropFitting" mc ms p R s₀ m args meth cd) : ∀ {G : wo_W} {c s : Nat} {x0 : Nat} {x1 : Option Nat}, pq_So_dropFitting_0 E mc ms Post G c s x0 x1 → ∀ {H : Heap} {locs : List Loc} {ls : Array Slot}, wo_Se E G H → va_S (en_A E) s₀.heap H locs → lx_has ls 3 [(0, 1, .ref x0), (1, 1, va_rf x1)] → c ≤ mc → s ≤ ms → W p l e R s₀ m args below meth cd H locs c s (MQ below (va_Qv Post (wo_B E) (en_A E)) args s₀ mc ms (en_A E)) (F0 m 0 ls []) := by
  intro G c s x0 x1 hw H locs ls hG hS hl hcc hss
  dsimp only [pq_So_dropFitting_0] at hw
  have hx := hC.1
  have hb := hC.2.1
  refine lv_aload_n hx hb dq_So_dropFitting_0 rfl (lx_at hl 0 rfl) ?_
  obtain ⟨t1, hw⟩ := hw
  refine wo_getR hC fq_So_10 rfl hG t1 dq_So_dropFitting_1 (fun r2 e3 => ?_)
  replace hw := hw r2 e3
  obtain ⟨a4, rfl, hw⟩ := hw
  obtain ⟨t5, hw⟩ := hw
  obtain ⟨mc6, ms7, hc1, hs1, hw⟩ := hw
  refine va_calli (wo_runV hC lq_So_20 (mq_Al_size hw) hG hS t5 rfl (lx_sz hl) rfl (Nat.zero_le _) (by decide) dq_So_dropFitting_4 ⟨hc1, hs1⟩) hS (fun _ _ h => h) (fun _ h => h) (fun v9 G8 t H locs ht hvm hw' hB _ _ hS => ?_)
  clear hw
  have hw := hw'
  clear hw'
  replace hG := wo_bk ht hB
  replace hcc := hc1
  replace hss := hs1
  refine lv_iconst (v := (1 : Int32)) hx hb dq_So_dropFitting_7 rfl ?_
  refine lv_isub hx hb dq_So_dropFitting_8 ?_
  refine lx_istore_n (lv' := [(2, 1, .int (v9 - (1 : Int32))), (0, 1, .ref x0), (1, 1, va_rf x1)]) hx hb dq_So_dropFitting_9 rfl hl (by decide) rfl (fun ls hl' => ?_)
  clear hl
  have hl := hl'
  clear hl'
  obtain ⟨n1, hw⟩ := hw
  exact tq_So_dropFitting_10 hC n1 hw hG hS (lx_sub hl [1, 2, 0] rfl) hcc hss
set_option maxHeartbeats 4000000 in
theorem mq_So_dropFitting {l : Launch} {E : wo_E} {mc ms : Nat} {Post : wo_W → Prop} {G : wo_W} {x0 : Nat} {x1 : Option Nat} (hw : pq_So_dropFitting E mc ms Post G x0 x1) : Met l yq_So_dropFitting (Cond.code yq_So_dropFitting prog_10_method_6_code 3 ((Option.none : Option Jvm.ClassFile.FieldType)) :: vw_WG) { frames := 4, cells := mc, slots := ms, locals := 95 } (va_Pc [.ref x0, va_rf x1] (wo_Ok E G)) (va_Qv Post (wo_B E) (en_A E)) mc ms (en_A E) := by
  unfold pq_So_dropFitting at hw
  exact wo_met [(1, .ref x0), (1, va_rf x1)] rfl (by decide) (fun q hq => by simp only [List.mem_cons, List.not_mem_nil, or_false] at hq; rcases hq with rfl | rfl <;> first | rfl | exact lx_cR _) (Nat.le_of_ble_eq_true rfl) (fun p e R s m args below meth cd ls hC hG hS hl => tq_So_dropFitting_0 hC hw hG hS (lx_sub hl [0, 1] rfl) (Nat.zero_le _) (Nat.zero_le _))

theorem dq_So_dropReplaced_0 : decode prog_10_method_7_code 0 = .ok (.aload_n 0, 1) := by decide +kernel
theorem dq_So_dropReplaced_1 : decode prog_10_method_7_code 1 = .ok (.getfield 10, 3) := by decide +kernel
theorem dq_So_dropReplaced_4 : decode prog_10_method_7_code 4 = .ok (.invokevirtual 20, 3) := by decide +kernel
theorem dq_So_dropReplaced_7 : decode prog_10_method_7_code 7 = .ok (.iconst 1, 1) := by decide +kernel
theorem dq_So_dropReplaced_8 : decode prog_10_method_7_code 8 = .ok (.isub, 1) := by decide +kernel
theorem dq_So_dropReplaced_9 : decode prog_10_method_7_code 9 = .ok (.istore_n 3, 1) := by decide +kernel
theorem dq_So_dropReplaced_10 : decode prog_10_method_7_code 10 = .ok (.iload_n 3, 1) := by decide +kernel
theorem dq_So_dropReplaced_11 : decode prog_10_method_7_code 11 = .ok (.ifCond .lt 75, 3) := by decide +kernel
theorem dq_So_dropReplaced_14 : decode prog_10_method_7_code 14 = .ok (.aload_n 0, 1) := by decide +kernel
theorem dq_So_dropReplaced_15 : decode prog_10_method_7_code 15 = .ok (.getfield 10, 3) := by decide +kernel
theorem dq_So_dropReplaced_18 : decode prog_10_method_7_code 18 = .ok (.iload_n 3, 1) := by decide +kernel
theorem dq_So_dropReplaced_19 : decode prog_10_method_7_code 19 = .ok (.invokevirtual 24, 3) := by decide +kernel
theorem dq_So_dropReplaced_22 : decode prog_10_method_7_code 22 = .ok (.checkcast 28, 3) := by decide +kernel
theorem dq_So_dropReplaced_25 : decode prog_10_method_7_code 25 = .ok (.astore 4, 2) := by decide +kernel
theorem dq_So_dropReplaced_27 : decode prog_10_method_7_code 27 = .ok (.aload 4, 2) := by decide +kernel
theorem dq_So_dropReplaced_29 : decode prog_10_method_7_code 29 = .ok (.getfield 41, 3) := by decide +kernel
theorem dq_So_dropReplaced_32 : decode prog_10_method_7_code 32 = .ok (.aload_n 1, 1) := by decide +kernel
theorem dq_So_dropReplaced_33 : decode prog_10_method_7_code 33 = .ok (.getfield 54, 3) := by decide +kernel
theorem dq_So_dropReplaced_36 : decode prog_10_method_7_code 36 = .ok (.invokevirtual 45, 3) := by decide +kernel
theorem dq_So_dropReplaced_39 : decode prog_10_method_7_code 39 = .ok (.ifCond .eq 19, 3) := by decide +kernel
theorem dq_So_dropReplaced_42 : decode prog_10_method_7_code 42 = .ok (.aload 4, 2) := by decide +kernel
theorem dq_So_dropReplaced_44 : decode prog_10_method_7_code 44 = .ok (.getfield 57, 3) := by decide +kernel
theorem dq_So_dropReplaced_47 : decode prog_10_method_7_code 47 = .ok (.getfield 61, 3) := by decide +kernel
theorem dq_So_dropReplaced_50 : decode prog_10_method_7_code 50 = .ok (.iload_n 2, 1) := by decide +kernel
theorem dq_So_dropReplaced_51 : decode prog_10_method_7_code 51 = .ok (.if_icmp .eq 7, 3) := by decide +kernel
theorem dq_So_dropReplaced_54 : decode prog_10_method_7_code 54 = .ok (.iconst 1, 1) := by decide +kernel
theorem dq_So_dropReplaced_55 : decode prog_10_method_7_code 55 = .ok (.goto 4, 3) := by decide +kernel
theorem dq_So_dropReplaced_58 : decode prog_10_method_7_code 58 = .ok (.iconst 0, 1) := by decide +kernel
theorem dq_So_dropReplaced_59 : decode prog_10_method_7_code 59 = .ok (.istore 5, 2) := by decide +kernel
theorem dq_So_dropReplaced_61 : decode prog_10_method_7_code 61 = .ok (.iload 5, 2) := by decide +kernel
theorem dq_So_dropReplaced_63 : decode prog_10_method_7_code 63 = .ok (.ifCond .ne 12, 3) := by decide +kernel
theorem dq_So_dropReplaced_66 : decode prog_10_method_7_code 66 = .ok (.aload 4, 2) := by decide +kernel
theorem dq_So_dropReplaced_68 : decode prog_10_method_7_code 68 = .ok (.aload_n 1, 1) := by decide +kernel
theorem dq_So_dropReplaced_69 : decode prog_10_method_7_code 69 = .ok (.invokevirtual 30, 3) := by decide +kernel
theorem dq_So_dropReplaced_72 : decode prog_10_method_7_code 72 = .ok (.ifCond .eq 8, 3) := by decide +kernel
theorem dq_So_dropReplaced_75 : decode prog_10_method_7_code 75 = .ok (.aload_n 0, 1) := by decide +kernel
theorem dq_So_dropReplaced_76 : decode prog_10_method_7_code 76 = .ok (.iload_n 3, 1) := by decide +kernel
theorem dq_So_dropReplaced_77 : decode prog_10_method_7_code 77 = .ok (.invokevirtual 50, 3) := by decide +kernel
theorem dq_So_dropReplaced_80 : decode prog_10_method_7_code 80 = .ok (.iinc 3 (-1), 3) := by decide +kernel
theorem dq_So_dropReplaced_83 : decode prog_10_method_7_code 83 = .ok (.goto (-73), 3) := by decide +kernel
theorem dq_So_dropReplaced_86 : decode prog_10_method_7_code 86 = .ok (.return_, 1) := by decide +kernel
set_option maxRecDepth 100000 in
def pq_So_dropReplaced_80 (E : wo_E) (mc ms : Nat) (Post : wo_W → Prop) (k10 : wo_W → Nat → Nat → Nat → Option Nat → Int32 → Int32 → Prop) (G : wo_W) (c s : Nat) (x0 : Nat) (x1 : Option Nat) (x2 : Int32) (x3 : Int32) : Prop := k10 G c s x0 x1 x2 (x3 + (-1 : Int32))
set_option maxRecDepth 100000 in
def pq_So_dropReplaced_75 (E : wo_E) (mc ms : Nat) (Post : wo_W → Prop) (k10 : wo_W → Nat → Nat → Nat → Option Nat → Int32 → Int32 → Prop) (G : wo_W) (c s : Nat) (x0 : Nat) (x1 : Option Nat) (x2 : Int32) (x3 : Int32) : Prop := wo_ty G x0 = 6 ∧ ∃ mc2 ms3 : Nat, (c + mc2) ≤ mc ∧ (s + ms3) ≤ ms ∧ pq_So_drop E mc2 ms3 (fun G4 => 
  pq_So_dropReplaced_80 E mc ms Post k10 G4 (c + mc2) (s + ms3) x0 x1 x2 x3) G x0 x3
set_option maxRecDepth 100000 in
def pq_So_dropReplaced_59 (E : wo_E) (mc ms : Nat) (Post : wo_W → Prop) (k10 : wo_W → Nat → Nat → Nat → Option Nat → Int32 → Int32 → Prop) (G : wo_W) (c s : Nat) (x0 : Nat) (x1 : Option Nat) (x2 : Int32) (x3 : Int32) (x4 : Option Nat) (y0 : Int32) : Prop := ((¬ y0 = (0 : Int32) → pq_So_dropReplaced_75 E mc ms Post k10 G c s x0 x1 x2 x3) ∧
  (y0 = (0 : Int32) → ∃ a1 : Nat, x4 = some a1 ∧ wo_ty G a1 = 14 ∧ ∃ mc3 ms4 : Nat, (c + mc3) ≤ mc ∧ (s + ms4) ≤ ms ∧ pq_Sd_fits E mc3 ms4 (fun v6 G5 => 
    ((v6 = (0 : Int32) → pq_So_dropReplaced_80 E mc ms Post k10 G5 (c + mc3) (s + ms4) x0 x1 x2 x3) ∧
      (¬ v6 = (0 : Int32) → pq_So_dropReplaced_75 E mc ms Post k10 G5 (c + mc3) (s + ms4) x0 x1 x2 x3))) G a1 x1))
set_option maxRecDepth 100000 in
def pq_So_dropReplaced_58 (E : wo_E) (mc ms : Nat) (Post : wo_W → Prop) (k10 : wo_W → Nat → Nat → Nat → Option Nat → Int32 → Int32 → Prop) (G : wo_W) (c s : Nat) (x0 : Nat) (x1 : Option Nat) (x2 : Int32) (x3 : Int32) (x4 : Option Nat) : Prop := pq_So_dropReplaced_59 E mc ms Post k10 G c s x0 x1 x2 x3 x4 (0 : Int32)
set_option maxRecDepth 100000 in
def pq_So_dropReplaced_10 (E : wo_E) (mc ms : Nat) (Post : wo_W → Prop) : Nat → wo_W → Nat → Nat → Nat → Option Nat → Int32 → Int32 → Prop
  | 0 => fun _ _ _ _ _ _ _ => False
  | n + 1 => fun G c s x0 x1 x2 x3 => ((x3 < (0 : Int32) → Post G) ∧
  (¬ x3 < (0 : Int32) → wo_ty G x0 = 6 ∧ ∀ r2 : Option Nat, r2 = wo_gr G 320 x0 → ∃ a4 : Nat, r2 = some a4 ∧ wo_ty G a4 = 3 ∧ ∃ mc6 ms7 : Nat, (c + mc6) ≤ mc ∧ (s + ms7) ≤ ms ∧ pq_Al_get E mc6 ms7 (fun v9 G8 => 
    wo_is G8 14 v9 ∧ ∃ a11 : Nat, v9 = some a11 ∧ wo_ty G8 a11 = 14 ∧ ∀ r13 : Option Nat, r13 = wo_gr G8 833 a11 → ∃ a15 : Nat, x1 = some a15 ∧ wo_ty G8 a15 = 9 ∧ ∀ r17 : Option Nat, r17 = wo_gr G8 513 a15 → ∃ a19 : Nat, r13 = some a19 ∧ wo_ty G8 a19 = 10 ∧ ∃ mc21 ms22 : Nat, ((c + mc6) + mc21) ≤ mc ∧ ((s + ms7) + ms22) ≤ ms ∧ pq_St_equals E mc21 ms22 (fun v24 G23 => 
      ((v24 = (0 : Int32) → pq_So_dropReplaced_58 E mc ms Post (pq_So_dropReplaced_10 E mc ms Post n) G23 ((c + mc6) + mc21) ((s + ms7) + ms22) x0 (some a15) x2 x3 (some a11)) ∧
        (¬ v24 = (0 : Int32) → wo_ty G23 a11 = 14 ∧ ∀ r26 : Option Nat, r26 = wo_gr G23 832 a11 → ∃ a28 : Nat, r26 = some a28 ∧ wo_ty G23 a28 = 13 ∧ (((wo_gi G23 772 a28) = x2 → pq_So_dropReplaced_58 E mc ms Post (pq_So_dropReplaced_10 E mc ms Post n) G23 ((c + mc6) + mc21) ((s + ms7) + ms22) x0 (some a15) x2 x3 (some a11)) ∧
          (¬ (wo_gi G23 772 a28) = x2 → pq_So_dropReplaced_59 E mc ms Post (pq_So_dropReplaced_10 E mc ms Post n) G23 ((c + mc6) + mc21) ((s + ms7) + ms22) x0 (some a15) x2 x3 (some a11) (1 : Int32)))))) G8 a19 r17) G a4 x3))
set_option maxRecDepth 100000 in
def pq_So_dropReplaced_0 (E : wo_E) (mc ms : Nat) (Post : wo_W → Prop) (G : wo_W) (c s : Nat) (x0 : Nat) (x1 : Option Nat) (x2 : Int32) : Prop := wo_ty G x0 = 6 ∧ ∀ r2 : Option Nat, r2 = wo_gr G 320 x0 → ∃ a4 : Nat, r2 = some a4 ∧ wo_ty G a4 = 3 ∧ ∃ mc6 ms7 : Nat, (c + mc6) ≤ mc ∧ (s + ms7) ≤ ms ∧ pq_Al_size E mc6 ms7 (fun v9 G8 => 
  ∃ n1 : Nat, pq_So_dropReplaced_10 E mc ms Post n1 G8 (c + mc6) (s + ms7) x0 x1 x2 (v9 - (1 : Int32))) G a4
def pq_So_dropReplaced (E : wo_E) (mc ms : Nat) (Post : wo_W → Prop) (G : wo_W) (x0 : Nat) (x1 : Option Nat) (x2 : Int32) : Prop := pq_So_dropReplaced_0 E mc ms Post G 0 0 x0 x1 x2
set_option maxRecDepth 100000 in
set_option maxHeartbeats 4000000 in
theorem tq_So_dropReplaced_80 {p : Program} {l : Launch} {e : Env} {R : Room} {s₀ : State} {m : MethodId} {args : Array Value} {below : List Frame} {meth : Method} {cd : Code} {E : wo_E} {mc ms : Nat} {Post : wo_W → Prop} {k10 : wo_W → Nat → Nat → Nat → Option Nat → Int32 → Int32 → Prop} (hC : wo_Cx E "EdgeCache$Store" prog_10_method_7_code 6 4 95 ((Option.none : Option Jvm.ClassFile.FieldType)) "dropReplaced" mc ms p R s₀ m args meth cd) (hk10 : ∀ {G : wo_W} {c s : Nat} {x0 : Nat} {x1 : Option Nat} {x2 : Int32} {x3 : Int32}, k10 G c s x0 x1 x2 x3 → ∀ {H : Heap} {locs : List Loc} {ls : Array Slot}, wo_Se E G H → va_S (en_A E) s₀.heap H locs → lx_has ls 6 [(0, 1, .ref x0), (1, 1, va_rf x1), (2, 1, .int x2), (3, 1, .int x3)] → c ≤ mc → s ≤ ms → W p l e R s₀ m args below meth cd H locs c s (MQ below (va_Qv Post (wo_B E) (en_A E)) args s₀ mc ms (en_A E)) (F0 m 10 ls [])) : ∀ {G : wo_W} {c s : Nat} {x0 : Nat} {x1 : Option Nat} {x2 : Int32} {x3 : Int32}, pq_So_dropReplaced_80 E mc ms Post k10 G c s x0 x1 x2 x3 → ∀ {H : Heap} {locs : List Loc} {ls : Array Slot}, wo_Se E G H → va_S (en_A E) s₀.heap H locs → lx_has ls 6 [(0, 1, .ref x0), (1, 1, va_rf x1), (2, 1, .int x2), (3, 1, .int x3)] → c ≤ mc → s ≤ ms → W p l e R s₀ m args below meth cd H locs c s (MQ below (va_Qv Post (wo_B E) (en_A E)) args s₀ mc ms (en_A E)) (F0 m 80 ls []) := by
  intro G c s x0 x1 x2 x3 hw H locs ls hG hS hl hcc hss
  dsimp only [pq_So_dropReplaced_80] at hw
  have hx := hC.1
  have hb := hC.2.1
  refine lx_iinc (k := 3) (v := (x3 + (-1 : Int32))) (lv' := [(3, 1, .int (x3 + (-1 : Int32))), (0, 1, .ref x0), (1, 1, va_rf x1), (2, 1, .int x2)]) hx hb dq_So_dropReplaced_80 hl rfl rfl (by decide) rfl (fun ls hl' => ?_)
  clear hl
  have hl := hl'
  clear hl'
  refine lv_goto (tgt := 10) hx hb dq_So_dropReplaced_83 rfl ?_
  exact hk10 hw hG hS (lx_sub hl [1, 2, 3, 0] rfl) hcc hss
set_option maxRecDepth 100000 in
set_option maxHeartbeats 4000000 in
theorem tq_So_dropReplaced_75 {p : Program} {l : Launch} {e : Env} {R : Room} {s₀ : State} {m : MethodId} {args : Array Value} {below : List Frame} {meth : Method} {cd : Code} {E : wo_E} {mc ms : Nat} {Post : wo_W → Prop} {k10 : wo_W → Nat → Nat → Nat → Option Nat → Int32 → Int32 → Prop} (hC : wo_Cx E "EdgeCache$Store" prog_10_method_7_code 6 4 95 ((Option.none : Option Jvm.ClassFile.FieldType)) "dropReplaced" mc ms p R s₀ m args meth cd) (hk10 : ∀ {G : wo_W} {c s : Nat} {x0 : Nat} {x1 : Option Nat} {x2 : Int32} {x3 : Int32}, k10 G c s x0 x1 x2 x3 → ∀ {H : Heap} {locs : List Loc} {ls : Array Slot}, wo_Se E G H → va_S (en_A E) s₀.heap H locs → lx_has ls 6 [(0, 1, .ref x0), (1, 1, va_rf x1), (2, 1, .int x2), (3, 1, .int x3)] → c ≤ mc → s ≤ ms → W p l e R s₀ m args below meth cd H locs c s (MQ below (va_Qv Post (wo_B E) (en_A E)) args s₀ mc ms (en_A E)) (F0 m 10 ls [])) : ∀ {G : wo_W} {c s : Nat} {x0 : Nat} {x1 : Option Nat} {x2 : Int32} {x3 : Int32}, pq_So_dropReplaced_75 E mc ms Post k10 G c s x0 x1 x2 x3 → ∀ {H : Heap} {locs : List Loc} {ls : Array Slot}, wo_Se E G H → va_S (en_A E) s₀.heap H locs → lx_has ls 6 [(0, 1, .ref x0), (1, 1, va_rf x1), (2, 1, .int x2), (3, 1, .int x3)] → c ≤ mc → s ≤ ms → W p l e R s₀ m args below meth cd H locs c s (MQ below (va_Qv Post (wo_B E) (en_A E)) args s₀ mc ms (en_A E)) (F0 m 75 ls []) := by
  intro G c s x0 x1 x2 x3 hw H locs ls hG hS hl hcc hss
  dsimp only [pq_So_dropReplaced_75] at hw
  have hx := hC.1
  have hb := hC.2.1
  refine lv_aload_n hx hb dq_So_dropReplaced_75 rfl (lx_at hl 0 rfl) ?_
  refine lv_iload_n hx hb dq_So_dropReplaced_76 rfl (lx_at hl 3 rfl) ?_
  obtain ⟨t1, hw⟩ := hw
  obtain ⟨mc2, ms3, hc1, hs1, hw⟩ := hw
  refine va_callv (wo_runV hC lq_So_50 (mq_So_drop hw) hG hS t1 rfl (lx_sz hl) rfl (Nat.zero_le _) (by decide) dq_So_dropReplaced_77 ⟨hc1, hs1⟩) hS (fun _ _ h => h) (fun _ h => h) (fun G4 t H locs ht hvm hw' hB _ _ hS => ?_)
  clear hw
  have hw := hw'
  clear hw'
  replace hG := wo_bk ht hB
  replace hcc := hc1
  replace hss := hs1
  exact tq_So_dropReplaced_80 hC hk10 hw hG hS (lx_sub hl [0, 1, 2, 3] rfl) hcc hss
set_option maxRecDepth 100000 in
set_option maxHeartbeats 4000000 in
theorem tq_So_dropReplaced_59 {p : Program} {l : Launch} {e : Env} {R : Room} {s₀ : State} {m : MethodId} {args : Array Value} {below : List Frame} {meth : Method} {cd : Code} {E : wo_E} {mc ms : Nat} {Post : wo_W → Prop} {k10 : wo_W → Nat → Nat → Nat → Option Nat → Int32 → Int32 → Prop} (hC : wo_Cx E "EdgeCache$Store" prog_10_method_7_code 6 4 95 ((Option.none : Option Jvm.ClassFile.FieldType)) "dropReplaced" mc ms p R s₀ m args meth cd) (hk10 : ∀ {G : wo_W} {c s : Nat} {x0 : Nat} {x1 : Option Nat} {x2 : Int32} {x3 : Int32}, k10 G c s x0 x1 x2 x3 → ∀ {H : Heap} {locs : List Loc} {ls : Array Slot}, wo_Se E G H → va_S (en_A E) s₀.heap H locs → lx_has ls 6 [(0, 1, .ref x0), (1, 1, va_rf x1), (2, 1, .int x2), (3, 1, .int x3)] → c ≤ mc → s ≤ ms → W p l e R s₀ m args below meth cd H locs c s (MQ below (va_Qv Post (wo_B E) (en_A E)) args s₀ mc ms (en_A E)) (F0 m 10 ls [])) : ∀ {G : wo_W} {c s : Nat} {x0 : Nat} {x1 : Option Nat} {x2 : Int32} {x3 : Int32} {x4 : Option Nat} {y0 : Int32}, pq_So_dropReplaced_59 E mc ms Post k10 G c s x0 x1 x2 x3 x4 y0 → ∀ {H : Heap} {locs : List Loc} {ls : Array Slot}, wo_Se E G H → va_S (en_A E) s₀.heap H locs → lx_has ls 6 [(0, 1, .ref x0), (1, 1, va_rf x1), (2, 1, .int x2), (3, 1, .int x3), (4, 1, va_rf x4)] → c ≤ mc → s ≤ ms → W p l e R s₀ m args below meth cd H locs c s (MQ below (va_Qv Post (wo_B E) (en_A E)) args s₀ mc ms (en_A E)) (F0 m 59 ls [.int y0]) := by
  intro G c s x0 x1 x2 x3 x4 y0 hw H locs ls hG hS hl hcc hss
  dsimp only [pq_So_dropReplaced_59] at hw
  have hx := hC.1
  have hb := hC.2.1
  refine lx_istore (lv' := [(5, 1, .int y0), (0, 1, .ref x0), (1, 1, va_rf x1), (2, 1, .int x2), (3, 1, .int x3), (4, 1, va_rf x4)]) hx hb dq_So_dropReplaced_59 hl (by decide) rfl (fun ls hl' => ?_)
  clear hl
  have hl := hl'
  clear hl'
  refine lv_iload hx hb dq_So_dropReplaced_61 (lx_at hl 0 rfl) ?_
  refine lv_if_ne (tgt := 75) hx hb dq_So_dropReplaced_63 rfl (fun h => ?_) (fun h => ?_)
  · replace hw := hw.1 h
    exact tq_So_dropReplaced_75 hC hk10 hw hG hS (lx_sub hl [1, 2, 3, 4] rfl) hcc hss
  · replace hw := hw.2 h
    refine lx_aloadR hx hb dq_So_dropReplaced_66 (lx_at hl 5 rfl) ?_
    refine lx_aloadR_n hx hb dq_So_dropReplaced_68 rfl (lx_at hl 2 rfl) ?_
    obtain ⟨a1, rfl, hw⟩ := hw
    obtain ⟨t2, hw⟩ := hw
    obtain ⟨mc3, ms4, hc1, hs1, hw⟩ := hw
    refine va_calli (wo_runV hC lq_So_30 (mq_Sd_fits hw) hG hS t2 rfl (lx_sz hl) rfl (Nat.zero_le _) (by decide) dq_So_dropReplaced_69 ⟨hc1, hs1⟩) hS (fun _ _ h => h) (fun _ h => h) (fun v6 G5 t H locs ht hvm hw' hB _ _ hS => ?_)
    clear hw
    have hw := hw'
    clear hw'
    replace hG := wo_bk ht hB
    replace hcc := hc1
    replace hss := hs1
    refine lv_if_eq (tgt := 80) hx hb dq_So_dropReplaced_72 rfl (fun h => ?_) (fun h => ?_)
    · replace hw := hw.1 h
      exact tq_So_dropReplaced_80 hC hk10 hw hG hS (lx_sub hl [1, 2, 3, 4] rfl) hcc hss
    · replace hw := hw.2 h
      exact tq_So_dropReplaced_75 hC hk10 hw hG hS (lx_sub hl [1, 2, 3, 4] rfl) hcc hss
set_option maxRecDepth 100000 in
set_option maxHeartbeats 4000000 in
theorem tq_So_dropReplaced_58 {p : Program} {l : Launch} {e : Env} {R : Room} {s₀ : State} {m : MethodId} {args : Array Value} {below : List Frame} {meth : Method} {cd : Code} {E : wo_E} {mc ms : Nat} {Post : wo_W → Prop} {k10 : wo_W → Nat → Nat → Nat → Option Nat → Int32 → Int32 → Prop} (hC : wo_Cx E "EdgeCache$Store" prog_10_method_7_code 6 4 95 ((Option.none : Option Jvm.ClassFile.FieldType)) "dropReplaced" mc ms p R s₀ m args meth cd) (hk10 : ∀ {G : wo_W} {c s : Nat} {x0 : Nat} {x1 : Option Nat} {x2 : Int32} {x3 : Int32}, k10 G c s x0 x1 x2 x3 → ∀ {H : Heap} {locs : List Loc} {ls : Array Slot}, wo_Se E G H → va_S (en_A E) s₀.heap H locs → lx_has ls 6 [(0, 1, .ref x0), (1, 1, va_rf x1), (2, 1, .int x2), (3, 1, .int x3)] → c ≤ mc → s ≤ ms → W p l e R s₀ m args below meth cd H locs c s (MQ below (va_Qv Post (wo_B E) (en_A E)) args s₀ mc ms (en_A E)) (F0 m 10 ls [])) : ∀ {G : wo_W} {c s : Nat} {x0 : Nat} {x1 : Option Nat} {x2 : Int32} {x3 : Int32} {x4 : Option Nat}, pq_So_dropReplaced_58 E mc ms Post k10 G c s x0 x1 x2 x3 x4 → ∀ {H : Heap} {locs : List Loc} {ls : Array Slot}, wo_Se E G H → va_S (en_A E) s₀.heap H locs → lx_has ls 6 [(0, 1, .ref x0), (1, 1, va_rf x1), (2, 1, .int x2), (3, 1, .int x3), (4, 1, va_rf x4)] → c ≤ mc → s ≤ ms → W p l e R s₀ m args below meth cd H locs c s (MQ below (va_Qv Post (wo_B E) (en_A E)) args s₀ mc ms (en_A E)) (F0 m 58 ls []) := by
  intro G c s x0 x1 x2 x3 x4 hw H locs ls hG hS hl hcc hss
  dsimp only [pq_So_dropReplaced_58] at hw
  have hx := hC.1
  have hb := hC.2.1
  refine lv_iconst (v := (0 : Int32)) hx hb dq_So_dropReplaced_58 rfl ?_
  exact tq_So_dropReplaced_59 hC hk10 hw hG hS (lx_sub hl [0, 1, 2, 3, 4] rfl) hcc hss
set_option maxRecDepth 100000 in
set_option maxHeartbeats 4000000 in
theorem tq_So_dropReplaced_10 {p : Program} {l : Launch} {e : Env} {R : Room} {s₀ : State} {m : MethodId} {args : Array Value} {below : List Frame} {meth : Method} {cd : Code} {E : wo_E} {mc ms : Nat} {Post : wo_W → Prop} (hC : wo_Cx E "EdgeCache$Store" prog_10_method_7_code 6 4 95 ((Option.none : Option Jvm.ClassFile.FieldType)) "dropReplaced" mc ms p R s₀ m args meth cd) : ∀ n : Nat, ∀ {G : wo_W} {c s : Nat} {x0 : Nat} {x1 : Option Nat} {x2 : Int32} {x3 : Int32}, pq_So_dropReplaced_10 E mc ms Post n G c s x0 x1 x2 x3 → ∀ {H : Heap} {locs : List Loc} {ls : Array Slot}, wo_Se E G H → va_S (en_A E) s₀.heap H locs → lx_has ls 6 [(0, 1, .ref x0), (1, 1, va_rf x1), (2, 1, .int x2), (3, 1, .int x3)] → c ≤ mc → s ≤ ms → W p l e R s₀ m args below meth cd H locs c s (MQ below (va_Qv Post (wo_B E) (en_A E)) args s₀ mc ms (en_A E)) (F0 m 10 ls []) := by
  intro n
  induction n with
  | zero => intro G c s x0 x1 x2 x3 hw; exact hw.elim
  | succ n ih =>
    intro G c s x0 x1 x2 x3 hw H locs ls hG hS hl hcc hss
    dsimp only [pq_So_dropReplaced_10] at hw
    have hx := hC.1
    have hb := hC.2.1
    refine lv_iload_n hx hb dq_So_dropReplaced_10 rfl (lx_at hl 3 rfl) ?_
    refine lv_if_lt (tgt := 86) hx hb dq_So_dropReplaced_11 rfl (fun h => ?_) (fun h => ?_)
    · replace hw := hw.1 h
      exact wo_vret hC hG hS hcc hss hw dq_So_dropReplaced_86
    · replace hw := hw.2 h
      refine lv_aload_n hx hb dq_So_dropReplaced_14 rfl (lx_at hl 0 rfl) ?_
      obtain ⟨t1, hw⟩ := hw
      refine wo_getR hC fq_So_10 rfl hG t1 dq_So_dropReplaced_15 (fun r2 e3 => ?_)
      replace hw := hw r2 e3
      refine lv_iload_n hx hb dq_So_dropReplaced_18 rfl (lx_at hl 3 rfl) ?_
      obtain ⟨a4, rfl, hw⟩ := hw
      obtain ⟨t5, hw⟩ := hw
      obtain ⟨mc6, ms7, hc1, hs1, hw⟩ := hw
      refine va_callq (wo_runV hC lq_So_24 (mq_Al_get hw) hG hS t5 rfl (lx_sz hl) rfl (Nat.zero_le _) (by decide) dq_So_dropReplaced_19 ⟨hc1, hs1⟩) hS (fun _ _ h => h) (fun _ h => h) (fun v9 G8 t H locs ht hvm hw' hB _ _ hS => ?_)
      clear hw
      have hw := hw'
      clear hw'
      replace hG := wo_bk ht hB
      replace hcc := hc1
      replace hss := hs1
      obtain ⟨h10, hw⟩ := hw
      refine wo_chk (x := v9) (c := 13) hC rfl kq_So_28 (Or.inl rfl) hG h10 dq_So_dropReplaced_22 ?_
      refine lx_astoreR (lv' := [(4, 1, va_rf v9), (0, 1, .ref x0), (1, 1, va_rf x1), (2, 1, .int x2), (3, 1, .int x3)]) hx hb dq_So_dropReplaced_25 hl (by decide) rfl (fun ls hl' => ?_)
      clear hl
      have hl := hl'
      clear hl'
      refine lx_aloadR hx hb dq_So_dropReplaced_27 (lx_at hl 0 rfl) ?_
      obtain ⟨a11, rfl, hw⟩ := hw
      obtain ⟨t12, hw⟩ := hw
      refine wo_getR hC fq_So_41 rfl hG t12 dq_So_dropReplaced_29 (fun r13 e14 => ?_)
      replace hw := hw r13 e14
      refine lx_aloadR_n hx hb dq_So_dropReplaced_32 rfl (lx_at hl 2 rfl) ?_
      obtain ⟨a15, rfl, hw⟩ := hw
      obtain ⟨t16, hw⟩ := hw
      refine wo_getR hC fq_So_54 rfl hG t16 dq_So_dropReplaced_33 (fun r17 e18 => ?_)
      replace hw := hw r17 e18
      obtain ⟨a19, rfl, hw⟩ := hw
      obtain ⟨t20, hw⟩ := hw
      obtain ⟨mc21, ms22, hc1, hs1, hw⟩ := hw
      refine va_calli (wo_runV hC lq_So_45 (mq_St_equals hw) hG hS t20 rfl (lx_sz hl) rfl (Nat.zero_le _) (by decide) dq_So_dropReplaced_36 ⟨hc1, hs1⟩) hS (fun _ _ h => h) (fun _ h => h) (fun v24 G23 t H locs ht hvm hw' hB _ _ hS => ?_)
      clear hw
      have hw := hw'
      clear hw'
      replace hG := wo_bk ht hB
      replace hcc := hc1
      replace hss := hs1
      refine lv_if_eq (tgt := 58) hx hb dq_So_dropReplaced_39 rfl (fun h => ?_) (fun h => ?_)
      · replace hw := hw.1 h
        exact tq_So_dropReplaced_58 hC ih hw hG hS (lx_sub hl [1, 2, 3, 4, 0] rfl) hcc hss
      · replace hw := hw.2 h
        refine lv_aload hx hb dq_So_dropReplaced_42 (lx_at hl 0 rfl) ?_
        obtain ⟨t25, hw⟩ := hw
        refine wo_getR hC fq_So_57 rfl hG t25 dq_So_dropReplaced_44 (fun r26 e27 => ?_)
        replace hw := hw r26 e27
        obtain ⟨a28, rfl, hw⟩ := hw
        obtain ⟨t29, hw⟩ := hw
        refine wo_getI hC fq_So_61 rfl hG t29 dq_So_dropReplaced_47 ?_
        refine lv_iload_n hx hb dq_So_dropReplaced_50 rfl (lx_at hl 3 rfl) ?_
        refine lv_icmp_eq (tgt := 58) hx hb dq_So_dropReplaced_51 rfl (fun h => ?_) (fun h => ?_)
        · replace hw := hw.1 h
          exact tq_So_dropReplaced_58 hC ih hw hG hS (lx_sub hl [1, 2, 3, 4, 0] rfl) hcc hss
        · replace hw := hw.2 h
          refine lv_iconst (v := (1 : Int32)) hx hb dq_So_dropReplaced_54 rfl ?_
          refine lv_goto (tgt := 59) hx hb dq_So_dropReplaced_55 rfl ?_
          exact tq_So_dropReplaced_59 hC ih hw hG hS (lx_sub hl [1, 2, 3, 4, 0] rfl) hcc hss
set_option maxRecDepth 100000 in
set_option maxHeartbeats 4000000 in
theorem tq_So_dropReplaced_0 {p : Program} {l : Launch} {e : Env} {R : Room} {s₀ : State} {m : MethodId} {args : Array Value} {below : List Frame} {meth : Method} {cd : Code} {E : wo_E} {mc ms : Nat} {Post : wo_W → Prop} (hC : wo_Cx E "EdgeCache$Store" prog_10_method_7_code 6 4 95 ((Option.none : Option Jvm.ClassFile.FieldType)) "dropReplaced" mc ms p R s₀ m args meth cd) : ∀ {G : wo_W} {c s : Nat} {x0 : Nat} {x1 : Option Nat} {x2 : Int32}, pq_So_dropReplaced_0 E mc ms Post G c s x0 x1 x2 → ∀ {H : Heap} {locs : List Loc} {ls : Array Slot}, wo_Se E G H → va_S (en_A E) s₀.heap H locs → lx_has ls 6 [(0, 1, .ref x0), (1, 1, va_rf x1), (2, 1, .int x2)] → c ≤ mc → s ≤ ms → W p l e R s₀ m args below meth cd H locs c s (MQ below (va_Qv Post (wo_B E) (en_A E)) args s₀ mc ms (en_A E)) (F0 m 0 ls []) := by
  intro G c s x0 x1 x2 hw H locs ls hG hS hl hcc hss
  dsimp only [pq_So_dropReplaced_0] at hw
  have hx := hC.1
  have hb := hC.2.1
  refine lv_aload_n hx hb dq_So_dropReplaced_0 rfl (lx_at hl 0 rfl) ?_
  obtain ⟨t1, hw⟩ := hw
  refine wo_getR hC fq_So_10 rfl hG t1 dq_So_dropReplaced_1 (fun r2 e3 => ?_)
  replace hw := hw r2 e3
  obtain ⟨a4, rfl, hw⟩ := hw
  obtain ⟨t5, hw⟩ := hw
  obtain ⟨mc6, ms7, hc1, hs1, hw⟩ := hw
  refine va_calli (wo_runV hC lq_So_20 (mq_Al_size hw) hG hS t5 rfl (lx_sz hl) rfl (Nat.zero_le _) (by decide) dq_So_dropReplaced_4 ⟨hc1, hs1⟩) hS (fun _ _ h => h) (fun _ h => h) (fun v9 G8 t H locs ht hvm hw' hB _ _ hS => ?_)
  clear hw
  have hw := hw'
  clear hw'
  replace hG := wo_bk ht hB
  replace hcc := hc1
  replace hss := hs1
  refine lv_iconst (v := (1 : Int32)) hx hb dq_So_dropReplaced_7 rfl ?_
  refine lv_isub hx hb dq_So_dropReplaced_8 ?_
  refine lx_istore_n (lv' := [(3, 1, .int (v9 - (1 : Int32))), (0, 1, .ref x0), (1, 1, va_rf x1), (2, 1, .int x2)]) hx hb dq_So_dropReplaced_9 rfl hl (by decide) rfl (fun ls hl' => ?_)
  clear hl
  have hl := hl'
  clear hl'
  obtain ⟨n1, hw⟩ := hw
  exact tq_So_dropReplaced_10 hC n1 hw hG hS (lx_sub hl [1, 2, 3, 0] rfl) hcc hss
set_option maxHeartbeats 4000000 in
theorem mq_So_dropReplaced {l : Launch} {E : wo_E} {mc ms : Nat} {Post : wo_W → Prop} {G : wo_W} {x0 : Nat} {x1 : Option Nat} {x2 : Int32} (hw : pq_So_dropReplaced E mc ms Post G x0 x1 x2) : Met l yq_So_dropReplaced (Cond.code yq_So_dropReplaced prog_10_method_7_code 6 ((Option.none : Option Jvm.ClassFile.FieldType)) :: vw_WG) { frames := 4, cells := mc, slots := ms, locals := 95 } (va_Pc [.ref x0, va_rf x1, .int x2] (wo_Ok E G)) (va_Qv Post (wo_B E) (en_A E)) mc ms (en_A E) := by
  unfold pq_So_dropReplaced at hw
  exact wo_met [(1, .ref x0), (1, va_rf x1), (1, .int x2)] rfl (by decide) (fun q hq => by simp only [List.mem_cons, List.not_mem_nil, or_false] at hq; rcases hq with rfl | rfl | rfl <;> first | rfl | exact lx_cR _) (Nat.le_of_ble_eq_true rfl) (fun p e R s m args below meth cd ls hC hG hS hl => tq_So_dropReplaced_0 hC hw hG hS (lx_sub hl [0, 1, 2] rfl) (Nat.zero_le _) (Nat.zero_le _))

theorem dq_So_keep_0 : decode prog_10_method_8_code 0 = .ok (.aload_n 1, 1) := by decide +kernel
theorem dq_So_keep_1 : decode prog_10_method_8_code 1 = .ok (.getfield 67, 3) := by decide +kernel
theorem dq_So_keep_4 : decode prog_10_method_8_code 4 = .ok (.aload_n 0, 1) := by decide +kernel
theorem dq_So_keep_5 : decode prog_10_method_8_code 5 = .ok (.getfield 16, 3) := by decide +kernel
theorem dq_So_keep_8 : decode prog_10_method_8_code 8 = .ok (.if_icmp .le 4, 3) := by decide +kernel
theorem dq_So_keep_11 : decode prog_10_method_8_code 11 = .ok (.return_, 1) := by decide +kernel
theorem dq_So_keep_12 : decode prog_10_method_8_code 12 = .ok (.aload_n 0, 1) := by decide +kernel
theorem dq_So_keep_13 : decode prog_10_method_8_code 13 = .ok (.getfield 10, 3) := by decide +kernel
theorem dq_So_keep_16 : decode prog_10_method_8_code 16 = .ok (.invokevirtual 20, 3) := by decide +kernel
theorem dq_So_keep_19 : decode prog_10_method_8_code 19 = .ok (.istore_n 2, 1) := by decide +kernel
theorem dq_So_keep_20 : decode prog_10_method_8_code 20 = .ok (.iload_n 2, 1) := by decide +kernel
theorem dq_So_keep_21 : decode prog_10_method_8_code 21 = .ok (.ifCond .le 30, 3) := by decide +kernel
theorem dq_So_keep_24 : decode prog_10_method_8_code 24 = .ok (.aload_n 0, 1) := by decide +kernel
theorem dq_So_keep_25 : decode prog_10_method_8_code 25 = .ok (.getfield 69, 3) := by decide +kernel
theorem dq_So_keep_28 : decode prog_10_method_8_code 28 = .ok (.aload_n 1, 1) := by decide +kernel
theorem dq_So_keep_29 : decode prog_10_method_8_code 29 = .ok (.getfield 67, 3) := by decide +kernel
theorem dq_So_keep_32 : decode prog_10_method_8_code 32 = .ok (.iadd, 1) := by decide +kernel
theorem dq_So_keep_33 : decode prog_10_method_8_code 33 = .ok (.aload_n 0, 1) := by decide +kernel
theorem dq_So_keep_34 : decode prog_10_method_8_code 34 = .ok (.getfield 16, 3) := by decide +kernel
theorem dq_So_keep_37 : decode prog_10_method_8_code 37 = .ok (.if_icmp .le 14, 3) := by decide +kernel
theorem dq_So_keep_40 : decode prog_10_method_8_code 40 = .ok (.aload_n 0, 1) := by decide +kernel
theorem dq_So_keep_41 : decode prog_10_method_8_code 41 = .ok (.iconst 0, 1) := by decide +kernel
theorem dq_So_keep_42 : decode prog_10_method_8_code 42 = .ok (.invokevirtual 50, 3) := by decide +kernel
theorem dq_So_keep_45 : decode prog_10_method_8_code 45 = .ok (.iinc 2 (-1), 3) := by decide +kernel
theorem dq_So_keep_48 : decode prog_10_method_8_code 48 = .ok (.goto (-28), 3) := by decide +kernel
theorem dq_So_keep_51 : decode prog_10_method_8_code 51 = .ok (.aload_n 0, 1) := by decide +kernel
theorem dq_So_keep_52 : decode prog_10_method_8_code 52 = .ok (.getfield 10, 3) := by decide +kernel
theorem dq_So_keep_55 : decode prog_10_method_8_code 55 = .ok (.aload_n 1, 1) := by decide +kernel
theorem dq_So_keep_56 : decode prog_10_method_8_code 56 = .ok (.invokevirtual 37, 3) := by decide +kernel
theorem dq_So_keep_59 : decode prog_10_method_8_code 59 = .ok (.pop, 1) := by decide +kernel
theorem dq_So_keep_60 : decode prog_10_method_8_code 60 = .ok (.aload_n 0, 1) := by decide +kernel
theorem dq_So_keep_61 : decode prog_10_method_8_code 61 = .ok (.dup, 1) := by decide +kernel
theorem dq_So_keep_62 : decode prog_10_method_8_code 62 = .ok (.getfield 69, 3) := by decide +kernel
theorem dq_So_keep_65 : decode prog_10_method_8_code 65 = .ok (.aload_n 1, 1) := by decide +kernel
theorem dq_So_keep_66 : decode prog_10_method_8_code 66 = .ok (.getfield 67, 3) := by decide +kernel
theorem dq_So_keep_69 : decode prog_10_method_8_code 69 = .ok (.iadd, 1) := by decide +kernel
theorem dq_So_keep_70 : decode prog_10_method_8_code 70 = .ok (.putfield 69, 3) := by decide +kernel
theorem dq_So_keep_73 : decode prog_10_method_8_code 73 = .ok (.return_, 1) := by decide +kernel
set_option maxRecDepth 100000 in
def pq_So_keep_51 (E : wo_E) (mc ms : Nat) (Post : wo_W → Prop) (G : wo_W) (c s : Nat) (x0 : Nat) (x1 : Option Nat) : Prop := wo_ty G x0 = 6 ∧ ∀ r2 : Option Nat, r2 = wo_gr G 320 x0 → ∃ a4 : Nat, r2 = some a4 ∧ wo_ty G a4 = 3 ∧ ∃ mc6 ms7 : Nat, (c + mc6) ≤ mc ∧ (s + ms7) ≤ ms ∧ pq_Al_add_O E mc6 ms7 (fun v9 G8 => 
  wo_ty G8 x0 = 6 ∧ ∃ a11 : Nat, x1 = some a11 ∧ wo_ty G8 a11 = 14 ∧ en_bs E ≤ x0 ∧ ∀ G14 : wo_W, G14 = wo_si G8 322 x0 ((wo_gi G8 322 x0) + (wo_gi G8 836 a11)) → 
    Post G14) G a4 x1
set_option maxRecDepth 100000 in
def pq_So_keep_20 (E : wo_E) (mc ms : Nat) (Post : wo_W → Prop) : Nat → wo_W → Nat → Nat → Nat → Option Nat → Int32 → Prop
  | 0 => fun _ _ _ _ _ _ => False
  | n + 1 => fun G c s x0 x1 x2 => ((x2 ≤ (0 : Int32) → pq_So_keep_51 E mc ms Post G c s x0 x1) ∧
  (¬ x2 ≤ (0 : Int32) → wo_ty G x0 = 6 ∧ ∃ a2 : Nat, x1 = some a2 ∧ wo_ty G a2 = 14 ∧ ((((wo_gi G 322 x0) + (wo_gi G 836 a2)) ≤ (wo_gi G 321 x0) → pq_So_keep_51 E mc ms Post G c s x0 (some a2)) ∧
    (¬ ((wo_gi G 322 x0) + (wo_gi G 836 a2)) ≤ (wo_gi G 321 x0) → ∃ mc4 ms5 : Nat, (c + mc4) ≤ mc ∧ (s + ms5) ≤ ms ∧ pq_So_drop E mc4 ms5 (fun G6 => 
      pq_So_keep_20 E mc ms Post n G6 (c + mc4) (s + ms5) x0 (some a2) (x2 + (-1 : Int32))) G x0 (0 : Int32)))))
set_option maxRecDepth 100000 in
def pq_So_keep_0 (E : wo_E) (mc ms : Nat) (Post : wo_W → Prop) (G : wo_W) (c s : Nat) (x0 : Nat) (x1 : Option Nat) : Prop := ∃ a1 : Nat, x1 = some a1 ∧ wo_ty G a1 = 14 ∧ wo_ty G x0 = 6 ∧ (((wo_gi G 836 a1) ≤ (wo_gi G 321 x0) → ∀ r4 : Option Nat, r4 = wo_gr G 320 x0 → ∃ a6 : Nat, r4 = some a6 ∧ wo_ty G a6 = 3 ∧ ∃ mc8 ms9 : Nat, (c + mc8) ≤ mc ∧ (s + ms9) ≤ ms ∧ pq_Al_size E mc8 ms9 (fun v11 G10 => 
    ∃ n1 : Nat, pq_So_keep_20 E mc ms Post n1 G10 (c + mc8) (s + ms9) x0 (some a1) v11) G a6) ∧
  (¬ (wo_gi G 836 a1) ≤ (wo_gi G 321 x0) → Post G))
def pq_So_keep (E : wo_E) (mc ms : Nat) (Post : wo_W → Prop) (G : wo_W) (x0 : Nat) (x1 : Option Nat) : Prop := pq_So_keep_0 E mc ms Post G 0 0 x0 x1
set_option maxRecDepth 100000 in
set_option maxHeartbeats 4000000 in
theorem tq_So_keep_51 {p : Program} {l : Launch} {e : Env} {R : Room} {s₀ : State} {m : MethodId} {args : Array Value} {below : List Frame} {meth : Method} {cd : Code} {E : wo_E} {mc ms : Nat} {Post : wo_W → Prop} (hC : wo_Cx E "EdgeCache$Store" prog_10_method_8_code 3 7 159 ((Option.none : Option Jvm.ClassFile.FieldType)) "keep" mc ms p R s₀ m args meth cd) : ∀ {G : wo_W} {c s : Nat} {x0 : Nat} {x1 : Option Nat}, pq_So_keep_51 E mc ms Post G c s x0 x1 → ∀ {H : Heap} {locs : List Loc} {ls : Array Slot}, wo_Se E G H → va_S (en_A E) s₀.heap H locs → lx_has ls 3 [(0, 1, .ref x0), (1, 1, va_rf x1)] → c ≤ mc → s ≤ ms → W p l e R s₀ m args below meth cd H locs c s (MQ below (va_Qv Post (wo_B E) (en_A E)) args s₀ mc ms (en_A E)) (F0 m 51 ls []) := by
  intro G c s x0 x1 hw H locs ls hG hS hl hcc hss
  dsimp only [pq_So_keep_51] at hw
  have hx := hC.1
  have hb := hC.2.1
  refine lv_aload_n hx hb dq_So_keep_51 rfl (lx_at hl 0 rfl) ?_
  obtain ⟨t1, hw⟩ := hw
  refine wo_getR hC fq_So_10 rfl hG t1 dq_So_keep_52 (fun r2 e3 => ?_)
  replace hw := hw r2 e3
  refine lx_aloadR_n hx hb dq_So_keep_55 rfl (lx_at hl 1 rfl) ?_
  obtain ⟨a4, rfl, hw⟩ := hw
  obtain ⟨t5, hw⟩ := hw
  obtain ⟨mc6, ms7, hc1, hs1, hw⟩ := hw
  refine va_calli (wo_runV hC lq_So_37 (mq_Al_add_O hw) hG hS t5 rfl (lx_sz hl) rfl (Nat.zero_le _) (by decide) dq_So_keep_56 ⟨hc1, hs1⟩) hS (fun _ _ h => h) (fun _ h => h) (fun v9 G8 t H locs ht hvm hw' hB _ _ hS => ?_)
  clear hw
  have hw := hw'
  clear hw'
  replace hG := wo_bk ht hB
  replace hcc := hc1
  replace hss := hs1
  refine lv_pop hx hb dq_So_keep_59 rfl ?_
  refine lv_aload_n hx hb dq_So_keep_60 rfl (lx_at hl 0 rfl) ?_
  refine lv_dup hx hb dq_So_keep_61 rfl ?_
  obtain ⟨t10, hw⟩ := hw
  refine wo_getI hC fq_So_69 rfl hG t10 dq_So_keep_62 ?_
  refine lx_aloadR_n hx hb dq_So_keep_65 rfl (lx_at hl 1 rfl) ?_
  obtain ⟨a11, rfl, hw⟩ := hw
  obtain ⟨t12, hw⟩ := hw
  refine wo_getI hC fq_So_67 rfl hG t12 dq_So_keep_66 ?_
  refine lv_iadd hx hb dq_So_keep_69 ?_
  obtain ⟨h13, hw⟩ := hw
  refine wo_putI hC fq_So_69 (Or.inl rfl) rfl (wo_ok_int _) hG hS t10 h13 dq_So_keep_70 (fun G14 H locs e15 hG hS => ?_)
  replace hw := hw G14 e15
  exact wo_vret hC hG hS hcc hss hw dq_So_keep_73
set_option maxRecDepth 100000 in
set_option maxHeartbeats 4000000 in
theorem tq_So_keep_20 {p : Program} {l : Launch} {e : Env} {R : Room} {s₀ : State} {m : MethodId} {args : Array Value} {below : List Frame} {meth : Method} {cd : Code} {E : wo_E} {mc ms : Nat} {Post : wo_W → Prop} (hC : wo_Cx E "EdgeCache$Store" prog_10_method_8_code 3 7 159 ((Option.none : Option Jvm.ClassFile.FieldType)) "keep" mc ms p R s₀ m args meth cd) : ∀ n : Nat, ∀ {G : wo_W} {c s : Nat} {x0 : Nat} {x1 : Option Nat} {x2 : Int32}, pq_So_keep_20 E mc ms Post n G c s x0 x1 x2 → ∀ {H : Heap} {locs : List Loc} {ls : Array Slot}, wo_Se E G H → va_S (en_A E) s₀.heap H locs → lx_has ls 3 [(0, 1, .ref x0), (1, 1, va_rf x1), (2, 1, .int x2)] → c ≤ mc → s ≤ ms → W p l e R s₀ m args below meth cd H locs c s (MQ below (va_Qv Post (wo_B E) (en_A E)) args s₀ mc ms (en_A E)) (F0 m 20 ls []) := by
  intro n
  induction n with
  | zero => intro G c s x0 x1 x2 hw; exact hw.elim
  | succ n ih =>
    intro G c s x0 x1 x2 hw H locs ls hG hS hl hcc hss
    dsimp only [pq_So_keep_20] at hw
    have hx := hC.1
    have hb := hC.2.1
    refine lv_iload_n hx hb dq_So_keep_20 rfl (lx_at hl 2 rfl) ?_
    refine lv_if_le (tgt := 51) hx hb dq_So_keep_21 rfl (fun h => ?_) (fun h => ?_)
    · replace hw := hw.1 h
      exact tq_So_keep_51 hC hw hG hS (lx_sub hl [0, 1] rfl) hcc hss
    · replace hw := hw.2 h
      refine lv_aload_n hx hb dq_So_keep_24 rfl (lx_at hl 0 rfl) ?_
      obtain ⟨t1, hw⟩ := hw
      refine wo_getI hC fq_So_69 rfl hG t1 dq_So_keep_25 ?_
      refine lx_aloadR_n hx hb dq_So_keep_28 rfl (lx_at hl 1 rfl) ?_
      obtain ⟨a2, rfl, hw⟩ := hw
      obtain ⟨t3, hw⟩ := hw
      refine wo_getI hC fq_So_67 rfl hG t3 dq_So_keep_29 ?_
      refine lv_iadd hx hb dq_So_keep_32 ?_
      refine lv_aload_n hx hb dq_So_keep_33 rfl (lx_at hl 0 rfl) ?_
      refine wo_getI hC fq_So_16 rfl hG t1 dq_So_keep_34 ?_
      refine lv_icmp_le (tgt := 51) hx hb dq_So_keep_37 rfl (fun h => ?_) (fun h => ?_)
      · replace hw := hw.1 h
        exact tq_So_keep_51 hC hw hG hS (lx_sub hl [0, 1] rfl) hcc hss
      · replace hw := hw.2 h
        refine lv_aload_n hx hb dq_So_keep_40 rfl (lx_at hl 0 rfl) ?_
        refine lv_iconst (v := (0 : Int32)) hx hb dq_So_keep_41 rfl ?_
        obtain ⟨mc4, ms5, hc1, hs1, hw⟩ := hw
        refine va_callv (wo_runV hC lq_So_50 (mq_So_drop hw) hG hS t1 rfl (lx_sz hl) rfl (Nat.zero_le _) (by decide) dq_So_keep_42 ⟨hc1, hs1⟩) hS (fun _ _ h => h) (fun _ h => h) (fun G6 t H locs ht hvm hw' hB _ _ hS => ?_)
        clear hw
        have hw := hw'
        clear hw'
        replace hG := wo_bk ht hB
        replace hcc := hc1
        replace hss := hs1
        refine lx_iinc (k := 2) (v := (x2 + (-1 : Int32))) (lv' := [(2, 1, .int (x2 + (-1 : Int32))), (0, 1, .ref x0), (1, 1, .ref a2)]) hx hb dq_So_keep_45 hl rfl rfl (by decide) rfl (fun ls hl' => ?_)
        clear hl
        have hl := hl'
        clear hl'
        refine lv_goto (tgt := 20) hx hb dq_So_keep_48 rfl ?_
        exact ih hw hG hS (lx_sub hl [1, 2, 0] rfl) hcc hss
set_option maxRecDepth 100000 in
set_option maxHeartbeats 4000000 in
theorem tq_So_keep_0 {p : Program} {l : Launch} {e : Env} {R : Room} {s₀ : State} {m : MethodId} {args : Array Value} {below : List Frame} {meth : Method} {cd : Code} {E : wo_E} {mc ms : Nat} {Post : wo_W → Prop} (hC : wo_Cx E "EdgeCache$Store" prog_10_method_8_code 3 7 159 ((Option.none : Option Jvm.ClassFile.FieldType)) "keep" mc ms p R s₀ m args meth cd) : ∀ {G : wo_W} {c s : Nat} {x0 : Nat} {x1 : Option Nat}, pq_So_keep_0 E mc ms Post G c s x0 x1 → ∀ {H : Heap} {locs : List Loc} {ls : Array Slot}, wo_Se E G H → va_S (en_A E) s₀.heap H locs → lx_has ls 3 [(0, 1, .ref x0), (1, 1, va_rf x1)] → c ≤ mc → s ≤ ms → W p l e R s₀ m args below meth cd H locs c s (MQ below (va_Qv Post (wo_B E) (en_A E)) args s₀ mc ms (en_A E)) (F0 m 0 ls []) := by
  intro G c s x0 x1 hw H locs ls hG hS hl hcc hss
  dsimp only [pq_So_keep_0] at hw
  have hx := hC.1
  have hb := hC.2.1
  refine lx_aloadR_n hx hb dq_So_keep_0 rfl (lx_at hl 1 rfl) ?_
  obtain ⟨a1, rfl, hw⟩ := hw
  obtain ⟨t2, hw⟩ := hw
  refine wo_getI hC fq_So_67 rfl hG t2 dq_So_keep_1 ?_
  refine lv_aload_n hx hb dq_So_keep_4 rfl (lx_at hl 0 rfl) ?_
  obtain ⟨t3, hw⟩ := hw
  refine wo_getI hC fq_So_16 rfl hG t3 dq_So_keep_5 ?_
  refine lv_icmp_le (tgt := 12) hx hb dq_So_keep_8 rfl (fun h => ?_) (fun h => ?_)
  · replace hw := hw.1 h
    refine lv_aload_n hx hb dq_So_keep_12 rfl (lx_at hl 0 rfl) ?_
    refine wo_getR hC fq_So_10 rfl hG t3 dq_So_keep_13 (fun r4 e5 => ?_)
    replace hw := hw r4 e5
    obtain ⟨a6, rfl, hw⟩ := hw
    obtain ⟨t7, hw⟩ := hw
    obtain ⟨mc8, ms9, hc1, hs1, hw⟩ := hw
    refine va_calli (wo_runV hC lq_So_20 (mq_Al_size hw) hG hS t7 rfl (lx_sz hl) rfl (Nat.zero_le _) (by decide) dq_So_keep_16 ⟨hc1, hs1⟩) hS (fun _ _ h => h) (fun _ h => h) (fun v11 G10 t H locs ht hvm hw' hB _ _ hS => ?_)
    clear hw
    have hw := hw'
    clear hw'
    replace hG := wo_bk ht hB
    replace hcc := hc1
    replace hss := hs1
    refine lx_istore_n (lv' := [(2, 1, .int v11), (0, 1, .ref x0), (1, 1, .ref a1)]) hx hb dq_So_keep_19 rfl hl (by decide) rfl (fun ls hl' => ?_)
    clear hl
    have hl := hl'
    clear hl'
    obtain ⟨n1, hw⟩ := hw
    exact tq_So_keep_20 hC n1 hw hG hS (lx_sub hl [1, 2, 0] rfl) hcc hss
  · replace hw := hw.2 h
    exact wo_vret hC hG hS hcc hss hw dq_So_keep_11
set_option maxHeartbeats 4000000 in
theorem mq_So_keep {l : Launch} {E : wo_E} {mc ms : Nat} {Post : wo_W → Prop} {G : wo_W} {x0 : Nat} {x1 : Option Nat} (hw : pq_So_keep E mc ms Post G x0 x1) : Met l yq_So_keep (Cond.code yq_So_keep prog_10_method_8_code 3 ((Option.none : Option Jvm.ClassFile.FieldType)) :: vw_WG) { frames := 7, cells := mc, slots := ms, locals := 159 } (va_Pc [.ref x0, va_rf x1] (wo_Ok E G)) (va_Qv Post (wo_B E) (en_A E)) mc ms (en_A E) := by
  unfold pq_So_keep at hw
  exact wo_met [(1, .ref x0), (1, va_rf x1)] rfl (by decide) (fun q hq => by simp only [List.mem_cons, List.not_mem_nil, or_false] at hq; rcases hq with rfl | rfl <;> first | rfl | exact lx_cR _) (Nat.le_of_ble_eq_true rfl) (fun p e R s m args below meth cd ls hC hG hS hl => tq_So_keep_0 hC hw hG hS (lx_sub hl [0, 1] rfl) (Nat.zero_le _) (Nat.zero_le _))

theorem dq_Sd_init_0 : decode prog_11_method_1_code 0 = .ok (.aload_n 0, 1) := by decide +kernel
theorem dq_Sd_init_1 : decode prog_11_method_1_code 1 = .ok (.invokespecial 1, 3) := by decide +kernel
theorem dq_Sd_init_4 : decode prog_11_method_1_code 4 = .ok (.aload_n 0, 1) := by decide +kernel
theorem dq_Sd_init_5 : decode prog_11_method_1_code 5 = .ok (.aload_n 1, 1) := by decide +kernel
theorem dq_Sd_init_6 : decode prog_11_method_1_code 6 = .ok (.putfield 7, 3) := by decide +kernel
theorem dq_Sd_init_9 : decode prog_11_method_1_code 9 = .ok (.aload_n 0, 1) := by decide +kernel
theorem dq_Sd_init_10 : decode prog_11_method_1_code 10 = .ok (.aload_n 2, 1) := by decide +kernel
theorem dq_Sd_init_11 : decode prog_11_method_1_code 11 = .ok (.getfield 13, 3) := by decide +kernel
theorem dq_Sd_init_14 : decode prog_11_method_1_code 14 = .ok (.putfield 19, 3) := by decide +kernel
theorem dq_Sd_init_17 : decode prog_11_method_1_code 17 = .ok (.aload_n 0, 1) := by decide +kernel
theorem dq_Sd_init_18 : decode prog_11_method_1_code 18 = .ok (.aload_n 2, 1) := by decide +kernel
theorem dq_Sd_init_19 : decode prog_11_method_1_code 19 = .ok (.getfield 20, 3) := by decide +kernel
theorem dq_Sd_init_22 : decode prog_11_method_1_code 22 = .ok (.putfield 23, 3) := by decide +kernel
theorem dq_Sd_init_25 : decode prog_11_method_1_code 25 = .ok (.aload_n 0, 1) := by decide +kernel
theorem dq_Sd_init_26 : decode prog_11_method_1_code 26 = .ok (.iload_n 3, 1) := by decide +kernel
theorem dq_Sd_init_27 : decode prog_11_method_1_code 27 = .ok (.putfield 24, 3) := by decide +kernel
theorem dq_Sd_init_30 : decode prog_11_method_1_code 30 = .ok (.aload_n 0, 1) := by decide +kernel
theorem dq_Sd_init_31 : decode prog_11_method_1_code 31 = .ok (.iload 4, 2) := by decide +kernel
theorem dq_Sd_init_33 : decode prog_11_method_1_code 33 = .ok (.putfield 28, 3) := by decide +kernel
theorem dq_Sd_init_36 : decode prog_11_method_1_code 36 = .ok (.return_, 1) := by decide +kernel
set_option maxRecDepth 100000 in
def pq_Sd_init_0 (E : wo_E) (mc ms : Nat) (Post : wo_W → Prop) (G : wo_W) (c s : Nat) (x0 : Nat) (x1 : Option Nat) (x2 : Option Nat) (x3 : Int32) (x4 : Int32) : Prop := wo_ty G x0 = 14 ∧ en_bs E ≤ x0 ∧ ∀ G3 : wo_W, G3 = wo_sr G 832 x0 x1 → 
  ∃ a5 : Nat, x2 = some a5 ∧ wo_ty G3 a5 = 9 ∧ ∀ r7 : Option Nat, r7 = wo_gr G3 513 a5 → en_bs E ≤ x0 ∧ ∀ G10 : wo_W, G10 = wo_sr G3 833 x0 r7 → 
  ∀ r12 : Option Nat, r12 = wo_gr G10 520 a5 → en_bs E ≤ x0 ∧ ∀ G15 : wo_W, G15 = wo_sr G10 834 x0 r12 → 
  en_bs E ≤ x0 ∧ ∀ G18 : wo_W, G18 = wo_si G15 835 x0 x3 → 
  en_bs E ≤ x0 ∧ ∀ G21 : wo_W, G21 = wo_si G18 836 x0 x4 → 
  Post G21
def pq_Sd_init (E : wo_E) (mc ms : Nat) (Post : wo_W → Prop) (G : wo_W) (x0 : Nat) (x1 : Option Nat) (x2 : Option Nat) (x3 : Int32) (x4 : Int32) : Prop := pq_Sd_init_0 E mc ms Post G 0 0 x0 x1 x2 x3 x4
set_option maxRecDepth 100000 in
set_option maxHeartbeats 4000000 in
theorem tq_Sd_init_0 {p : Program} {l : Launch} {e : Env} {R : Room} {s₀ : State} {m : MethodId} {args : Array Value} {below : List Frame} {meth : Method} {cd : Code} {E : wo_E} {mc ms : Nat} {Post : wo_W → Prop} (hC : wo_Cx E "EdgeCache$Stored" prog_11_method_1_code 5 1 28 ((Option.none : Option Jvm.ClassFile.FieldType)) "<init>" mc ms p R s₀ m args meth cd) : ∀ {G : wo_W} {c s : Nat} {x0 : Nat} {x1 : Option Nat} {x2 : Option Nat} {x3 : Int32} {x4 : Int32}, pq_Sd_init_0 E mc ms Post G c s x0 x1 x2 x3 x4 → ∀ {H : Heap} {locs : List Loc} {ls : Array Slot}, wo_Se E G H → va_S (en_A E) s₀.heap H locs → lx_has ls 5 [(0, 1, .ref x0), (1, 1, va_rf x1), (2, 1, va_rf x2), (3, 1, .int x3), (4, 1, .int x4)] → c ≤ mc → s ≤ ms → W p l e R s₀ m args below meth cd H locs c s (MQ below (va_Qv Post (wo_B E) (en_A E)) args s₀ mc ms (en_A E)) (F0 m 0 ls []) := by
  intro G c s x0 x1 x2 x3 x4 hw H locs ls hG hS hl hcc hss
  dsimp only [pq_Sd_init_0] at hw
  have hx := hC.1
  have hb := hC.2.1
  refine lv_aload_n hx hb dq_Sd_init_0 rfl (lx_at hl 0 rfl) ?_
  refine wo_objI hC lq_Sd_1 (lx_sz hl) (by decide) (lx_rk (Nat.le_of_ble_eq_true rfl)) dq_Sd_init_1 ?_
  refine lv_aload_n hx hb dq_Sd_init_4 rfl (lx_at hl 0 rfl) ?_
  refine lx_aloadR_n hx hb dq_Sd_init_5 rfl (lx_at hl 1 rfl) ?_
  obtain ⟨t1, hw⟩ := hw
  obtain ⟨h2, hw⟩ := hw
  refine wo_putR (x := x1) hC fq_Sd_7 (Or.inr ⟨rfl, rfl⟩) rfl hG hS t1 h2 dq_Sd_init_6 (fun G3 H locs e4 hG hS => ?_)
  replace hw := hw G3 e4
  refine lv_aload_n hx hb dq_Sd_init_9 rfl (lx_at hl 0 rfl) ?_
  refine lx_aloadR_n hx hb dq_Sd_init_10 rfl (lx_at hl 2 rfl) ?_
  obtain ⟨a5, rfl, hw⟩ := hw
  obtain ⟨t6, hw⟩ := hw
  refine wo_getR hC fq_Sd_13 rfl hG t6 dq_Sd_init_11 (fun r7 e8 => ?_)
  replace hw := hw r7 e8
  obtain ⟨h9, hw⟩ := hw
  refine wo_putR (x := r7) hC fq_Sd_19 (Or.inr ⟨rfl, rfl⟩) rfl hG hS (ty_sr e4 t1) h9 dq_Sd_init_14 (fun G10 H locs e11 hG hS => ?_)
  replace hw := hw G10 e11
  refine lv_aload_n hx hb dq_Sd_init_17 rfl (lx_at hl 0 rfl) ?_
  refine lv_aload_n hx hb dq_Sd_init_18 rfl (lx_at hl 2 rfl) ?_
  refine wo_getR hC fq_Sd_20 rfl hG (ty_sr e11 t6) dq_Sd_init_19 (fun r12 e13 => ?_)
  replace hw := hw r12 e13
  obtain ⟨h14, hw⟩ := hw
  refine wo_putR (x := r12) hC fq_Sd_23 (Or.inr ⟨rfl, rfl⟩) rfl hG hS (ty_sr e11 (ty_sr e4 t1)) h14 dq_Sd_init_22 (fun G15 H locs e16 hG hS => ?_)
  replace hw := hw G15 e16
  refine lv_aload_n hx hb dq_Sd_init_25 rfl (lx_at hl 0 rfl) ?_
  refine lv_iload_n hx hb dq_Sd_init_26 rfl (lx_at hl 3 rfl) ?_
  obtain ⟨h17, hw⟩ := hw
  refine wo_putI hC fq_Sd_24 (Or.inr ⟨rfl, rfl⟩) rfl (wo_ok_int _) hG hS (ty_sr e16 (ty_sr e11 (ty_sr e4 t1))) h17 dq_Sd_init_27 (fun G18 H locs e19 hG hS => ?_)
  replace hw := hw G18 e19
  refine lv_aload_n hx hb dq_Sd_init_30 rfl (lx_at hl 0 rfl) ?_
  refine lv_iload hx hb dq_Sd_init_31 (lx_at hl 4 rfl) ?_
  obtain ⟨h20, hw⟩ := hw
  refine wo_putI hC fq_Sd_28 (Or.inr ⟨rfl, rfl⟩) rfl (wo_ok_int _) hG hS (ty_si e19 (ty_sr e16 (ty_sr e11 (ty_sr e4 t1)))) h20 dq_Sd_init_33 (fun G21 H locs e22 hG hS => ?_)
  replace hw := hw G21 e22
  exact wo_vret hC hG hS hcc hss hw dq_Sd_init_36
set_option maxHeartbeats 4000000 in
theorem mq_Sd_init {l : Launch} {E : wo_E} {mc ms : Nat} {Post : wo_W → Prop} {G : wo_W} {x0 : Nat} {x1 : Option Nat} {x2 : Option Nat} {x3 : Int32} {x4 : Int32} (hw : pq_Sd_init E mc ms Post G x0 x1 x2 x3 x4) : Met l yq_Sd_init (Cond.code yq_Sd_init prog_11_method_1_code 5 ((Option.none : Option Jvm.ClassFile.FieldType)) :: vw_WG) { frames := 1, cells := mc, slots := ms, locals := 28 } (va_Pc [.ref x0, va_rf x1, va_rf x2, .int x3, .int x4] (wo_Ok E G)) (va_Qv Post (wo_B E) (en_A E)) mc ms (en_A E) := by
  unfold pq_Sd_init at hw
  exact wo_met [(1, .ref x0), (1, va_rf x1), (1, va_rf x2), (1, .int x3), (1, .int x4)] rfl (by decide) (fun q hq => by simp only [List.mem_cons, List.not_mem_nil, or_false] at hq; rcases hq with rfl | rfl | rfl | rfl | rfl <;> first | rfl | exact lx_cR _) (Nat.le_of_ble_eq_true rfl) (fun p e R s m args below meth cd ls hC hG hS hl => tq_Sd_init_0 hC hw hG hS (lx_sub hl [0, 1, 2, 3, 4] rfl) (Nat.zero_le _) (Nat.zero_le _))
