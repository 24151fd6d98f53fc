theorem dq_Md_putNumber_0 : decode prog_14_method_23_code 0 = .ok (.iconst 1, 1) := by decide +kernel
theorem dq_Md_putNumber_1 : decode prog_14_method_23_code 1 = .ok (.istore_n 2, 1) := by decide +kernel
theorem dq_Md_putNumber_2 : decode prog_14_method_23_code 2 = .ok (.iload_n 1, 1) := by decide +kernel
theorem dq_Md_putNumber_3 : decode prog_14_method_23_code 3 = .ok (.iload_n 2, 1) := by decide +kernel
theorem dq_Md_putNumber_4 : decode prog_14_method_23_code 4 = .ok (.idiv, 1) := by decide +kernel
theorem dq_Md_putNumber_5 : decode prog_14_method_23_code 5 = .ok (.bipush 10, 2) := by decide +kernel
theorem dq_Md_putNumber_7 : decode prog_14_method_23_code 7 = .ok (.if_icmp .lt 11, 3) := by decide +kernel
theorem dq_Md_putNumber_10 : decode prog_14_method_23_code 10 = .ok (.iload_n 2, 1) := by decide +kernel
theorem dq_Md_putNumber_11 : decode prog_14_method_23_code 11 = .ok (.bipush 10, 2) := by decide +kernel
theorem dq_Md_putNumber_13 : decode prog_14_method_23_code 13 = .ok (.imul, 1) := by decide +kernel
theorem dq_Md_putNumber_14 : decode prog_14_method_23_code 14 = .ok (.istore_n 2, 1) := by decide +kernel
theorem dq_Md_putNumber_15 : decode prog_14_method_23_code 15 = .ok (.goto (-13), 3) := by decide +kernel
theorem dq_Md_putNumber_18 : decode prog_14_method_23_code 18 = .ok (.iload_n 2, 1) := by decide +kernel
theorem dq_Md_putNumber_19 : decode prog_14_method_23_code 19 = .ok (.ifCond .le 24, 3) := by decide +kernel
theorem dq_Md_putNumber_22 : decode prog_14_method_23_code 22 = .ok (.aload_n 0, 1) := by decide +kernel
theorem dq_Md_putNumber_23 : decode prog_14_method_23_code 23 = .ok (.bipush 48, 2) := by decide +kernel
theorem dq_Md_putNumber_25 : decode prog_14_method_23_code 25 = .ok (.iload_n 1, 1) := by decide +kernel
theorem dq_Md_putNumber_26 : decode prog_14_method_23_code 26 = .ok (.iload_n 2, 1) := by decide +kernel
theorem dq_Md_putNumber_27 : decode prog_14_method_23_code 27 = .ok (.idiv, 1) := by decide +kernel
theorem dq_Md_putNumber_28 : decode prog_14_method_23_code 28 = .ok (.bipush 10, 2) := by decide +kernel
theorem dq_Md_putNumber_30 : decode prog_14_method_23_code 30 = .ok (.irem, 1) := by decide +kernel
theorem dq_Md_putNumber_31 : decode prog_14_method_23_code 31 = .ok (.iadd, 1) := by decide +kernel
theorem dq_Md_putNumber_32 : decode prog_14_method_23_code 32 = .ok (.invokevirtual 270, 3) := by decide +kernel
theorem dq_Md_putNumber_35 : decode prog_14_method_23_code 35 = .ok (.iload_n 2, 1) := by decide +kernel
theorem dq_Md_putNumber_36 : decode prog_14_method_23_code 36 = .ok (.bipush 10, 2) := by decide +kernel
theorem dq_Md_putNumber_38 : decode prog_14_method_23_code 38 = .ok (.idiv, 1) := by decide +kernel
theorem dq_Md_putNumber_39 : decode prog_14_method_23_code 39 = .ok (.istore_n 2, 1) := by decide +kernel
theorem dq_Md_putNumber_40 : decode prog_14_method_23_code 40 = .ok (.goto (-22), 3) := by decide +kernel
theorem dq_Md_putNumber_43 : decode prog_14_method_23_code 43 = .ok (.return_, 1) := by decide +kernel
set_option maxRecDepth 100000 in
def pq_Md_putNumber_18 (E : wo_E) (mc ms : Nat) (Post : wo_W → Prop) : Nat → wo_W → Nat → Nat → Nat → Int32 → Int32 → Prop
  | 0 => fun _ _ _ _ _ _ => False
  | n + 1 => fun G c s x0 x1 x2 => ((x2 ≤ (0 : Int32) → Post G) ∧
  (¬ x2 ≤ (0 : Int32) → ¬ x2 = 0 ∧ wo_ty G x0 = 15 ∧ ∃ mc3 ms4 : Nat, (c + mc3) ≤ mc ∧ (s + ms4) ≤ ms ∧ pq_Md_put E mc3 ms4 (fun G5 => 
    pq_Md_putNumber_18 E mc ms Post n G5 (c + mc3) (s + ms4) x0 x1 (x2 / (10 : Int32))) G x0 ((48 : Int32) + ((x1 / x2) - (x1 / x2) / (10 : Int32) * (10 : Int32)))))
set_option maxRecDepth 100000 in
def pq_Md_putNumber_2 (E : wo_E) (mc ms : Nat) (Post : wo_W → Prop) : Nat → wo_W → Nat → Nat → Nat → Int32 → Int32 → Prop
  | 0 => fun _ _ _ _ _ _ => False
  | n + 1 => fun G c s x0 x1 x2 => ¬ x2 = 0 ∧ (((x1 / x2) < (10 : Int32) → ∃ n1 : Nat, pq_Md_putNumber_18 E mc ms Post n1 G c s x0 x1 x2) ∧
  (¬ (x1 / x2) < (10 : Int32) → pq_Md_putNumber_2 E mc ms Post n G c s x0 x1 (x2 * (10 : Int32))))
set_option maxRecDepth 100000 in
def pq_Md_putNumber_0 (E : wo_E) (mc ms : Nat) (Post : wo_W → Prop) (G : wo_W) (c s : Nat) (x0 : Nat) (x1 : Int32) : Prop := ∃ n1 : Nat, pq_Md_putNumber_2 E mc ms Post n1 G c s x0 x1 (1 : Int32)
def pq_Md_putNumber (E : wo_E) (mc ms : Nat) (Post : wo_W → Prop) (G : wo_W) (x0 : Nat) (x1 : Int32) : Prop := pq_Md_putNumber_0 E mc ms Post G 0 0 x0 x1
set_option maxRecDepth 100000 in
set_option maxHeartbeats 4000000 in
theorem tq_Md_putNumber_18 {p : Program} {l : Launch} {e : Env} {R : Room} {s₀ : State} {m : MethodId} {args : Array Value} {below : List Frame} {meth : Method} {cd : Code} {E : wo_E} {mc ms : Nat} {Post : wo_W → Prop} (hC : wo_Cx E "EdgeCacheModel" prog_14_method_23_code 3 1 21 ((Option.none : Option Jvm.ClassFile.FieldType)) "putNumber" mc ms p R s₀ m args meth cd) : ∀ n : Nat, ∀ {G : wo_W} {c s : Nat} {x0 : Nat} {x1 : Int32} {x2 : Int32}, pq_Md_putNumber_18 E mc ms Post n G c s x0 x1 x2 → ∀ {H : Heap} {locs : List Loc} {ls : Array Slot}, wo_Se E G H → va_S (en_A E) s₀.heap H locs → lx_has ls 3 [(0, 1, .ref x0), (1, 1, .int x1), (2, 1, .int x2)] → c ≤ mc → s ≤ ms → W p l e R s₀ m args below meth cd H locs c s (MQ below (va_Qv Post (wo_B E) (en_A E)) args s₀ mc ms (en_A E)) (F0 m 18 ls []) := by
  intro n
  induction n with
  | zero => intro G c s x0 x1 x2 hw; exact hw.elim
  | succ n ih =>
    intro G c s x0 x1 x2 hw H locs ls hG hS hl hcc hss
    dsimp only [pq_Md_putNumber_18] at hw
    have hx := hC.1
    have hb := hC.2.1
    refine lv_iload_n hx hb dq_Md_putNumber_18 rfl (lx_at hl 2 rfl) ?_
    refine lv_if_le (tgt := 43) hx hb dq_Md_putNumber_19 rfl (fun h => ?_) (fun h => ?_)
    · replace hw := hw.1 h
      exact wo_vret hC hG hS hcc hss hw dq_Md_putNumber_43
    · replace hw := hw.2 h
      refine lv_aload_n hx hb dq_Md_putNumber_22 rfl (lx_at hl 0 rfl) ?_
      refine lv_bipush (v := (48 : Int32)) hx hb dq_Md_putNumber_23 rfl ?_
      refine lv_iload_n hx hb dq_Md_putNumber_25 rfl (lx_at hl 1 rfl) ?_
      refine lv_iload_n hx hb dq_Md_putNumber_26 rfl (lx_at hl 2 rfl) ?_
      obtain ⟨h1, hw⟩ := hw
      refine lv_idiv hx hb dq_Md_putNumber_27 h1 ?_
      refine lv_bipush (v := (10 : Int32)) hx hb dq_Md_putNumber_28 rfl ?_
      refine lv_irem hx hb dq_Md_putNumber_30 (by decide) ?_
      refine lv_iadd hx hb dq_Md_putNumber_31 ?_
      obtain ⟨t2, hw⟩ := hw
      obtain ⟨mc3, ms4, hc1, hs1, hw⟩ := hw
      refine va_callv (wo_runV hC lq_Md_270 (mq_Md_put hw) hG hS t2 rfl (lx_sz hl) rfl (Nat.zero_le _) (by decide) dq_Md_putNumber_32 ⟨hc1, hs1⟩) hS (fun _ _ h => h) (fun _ h => h) (fun G5 t H locs ht hvm hw' hB _ _ hS => ?_)
      clear hw
      have hw := hw'
      clear hw'
      replace hG := wo_bk ht hB
      replace hcc := hc1
      replace hss := hs1
      refine lv_iload_n hx hb dq_Md_putNumber_35 rfl (lx_at hl 2 rfl) ?_
      refine lv_bipush (v := (10 : Int32)) hx hb dq_Md_putNumber_36 rfl ?_
      refine lv_idiv hx hb dq_Md_putNumber_38 (by decide) ?_
      refine lx_istore_n (lv' := [(2, 1, .int (x2 / (10 : Int32))), (0, 1, .ref x0), (1, 1, .int x1)]) hx hb dq_Md_putNumber_39 rfl hl (by decide) rfl (fun ls hl' => ?_)
      clear hl
      have hl := hl'
      clear hl'
      refine lv_goto (tgt := 18) hx hb dq_Md_putNumber_40 rfl ?_
      exact ih hw hG hS (lx_sub hl [1, 2, 0] rfl) hcc hss
set_option maxRecDepth 100000 in
set_option maxHeartbeats 4000000 in
theorem tq_Md_putNumber_2 {p : Program} {l : Launch} {e : Env} {R : Room} {s₀ : State} {m : MethodId} {args : Array Value} {below : List Frame} {meth : Method} {cd : Code} {E : wo_E} {mc ms : Nat} {Post : wo_W → Prop} (hC : wo_Cx E "EdgeCacheModel" prog_14_method_23_code 3 1 21 ((Option.none : Option Jvm.ClassFile.FieldType)) "putNumber" mc ms p R s₀ m args meth cd) : ∀ n : Nat, ∀ {G : wo_W} {c s : Nat} {x0 : Nat} {x1 : Int32} {x2 : Int32}, pq_Md_putNumber_2 E mc ms Post n G c s x0 x1 x2 → ∀ {H : Heap} {locs : List Loc} {ls : Array Slot}, wo_Se E G H → va_S (en_A E) s₀.heap H locs → lx_has ls 3 [(0, 1, .ref x0), (1, 1, .int x1), (2, 1, .int x2)] → c ≤ mc → s ≤ ms → W p l e R s₀ m args below meth cd H locs c s (MQ below (va_Qv Post (wo_B E) (en_A E)) args s₀ mc ms (en_A E)) (F0 m 2 ls []) := by
  intro n
  induction n with
  | zero => intro G c s x0 x1 x2 hw; exact hw.elim
  | succ n ih =>
    intro G c s x0 x1 x2 hw H locs ls hG hS hl hcc hss
    dsimp only [pq_Md_putNumber_2] at hw
    have hx := hC.1
    have hb := hC.2.1
    refine lv_iload_n hx hb dq_Md_putNumber_2 rfl (lx_at hl 1 rfl) ?_
    refine lv_iload_n hx hb dq_Md_putNumber_3 rfl (lx_at hl 2 rfl) ?_
    obtain ⟨h1, hw⟩ := hw
    refine lv_idiv hx hb dq_Md_putNumber_4 h1 ?_
    refine lv_bipush (v := (10 : Int32)) hx hb dq_Md_putNumber_5 rfl ?_
    refine lv_icmp_lt (tgt := 18) hx hb dq_Md_putNumber_7 rfl (fun h => ?_) (fun h => ?_)
    · replace hw := hw.1 h
      obtain ⟨n1, hw⟩ := hw
      exact tq_Md_putNumber_18 hC n1 hw hG hS (lx_sub hl [0, 1, 2] rfl) hcc hss
    · replace hw := hw.2 h
      refine lv_iload_n hx hb dq_Md_putNumber_10 rfl (lx_at hl 2 rfl) ?_
      refine lv_bipush (v := (10 : Int32)) hx hb dq_Md_putNumber_11 rfl ?_
      refine lv_imul hx hb dq_Md_putNumber_13 ?_
      refine lx_istore_n (lv' := [(2, 1, .int (x2 * (10 : Int32))), (0, 1, .ref x0), (1, 1, .int x1)]) hx hb dq_Md_putNumber_14 rfl hl (by decide) rfl (fun ls hl' => ?_)
      clear hl
      have hl := hl'
      clear hl'
      refine lv_goto (tgt := 2) hx hb dq_Md_putNumber_15 rfl ?_
      exact ih hw hG hS (lx_sub hl [1, 2, 0] rfl) hcc hss
set_option maxRecDepth 100000 in
set_option maxHeartbeats 4000000 in
theorem tq_Md_putNumber_0 {p : Program} {l : Launch} {e : Env} {R : Room} {s₀ : State} {m : MethodId} {args : Array Value} {below : List Frame} {meth : Method} {cd : Code} {E : wo_E} {mc ms : Nat} {Post : wo_W → Prop} (hC : wo_Cx E "EdgeCacheModel" prog_14_method_23_code 3 1 21 ((Option.none : Option Jvm.ClassFile.FieldType)) "putNumber" mc ms p R s₀ m args meth cd) : ∀ {G : wo_W} {c s : Nat} {x0 : Nat} {x1 : Int32}, pq_Md_putNumber_0 E mc ms Post G c s x0 x1 → ∀ {H : Heap} {locs : List Loc} {ls : Array Slot}, wo_Se E G H → va_S (en_A E) s₀.heap H locs → lx_has ls 3 [(0, 1, .ref x0), (1, 1, .int x1)] → c ≤ mc → s ≤ ms → W p l e R s₀ m args below meth cd H locs c s (MQ below (va_Qv Post (wo_B E) (en_A E)) args s₀ mc ms (en_A E)) (F0 m 0 ls []) := by
  intro G c s x0 x1 hw H locs ls hG hS hl hcc hss
  dsimp only [pq_Md_putNumber_0] at hw
  have hx := hC.1
  have hb := hC.2.1
  refine lv_iconst (v := (1 : Int32)) hx hb dq_Md_putNumber_0 rfl ?_
  refine lx_istore_n (lv' := [(2, 1, .int (1 : Int32)), (0, 1, .ref x0), (1, 1, .int x1)]) hx hb dq_Md_putNumber_1 rfl hl (by decide) rfl (fun ls hl' => ?_)
  clear hl
  have hl := hl'
  clear hl'
  obtain ⟨n1, hw⟩ := hw
  exact tq_Md_putNumber_2 hC n1 hw hG hS (lx_sub hl [1, 2, 0] rfl) hcc hss
set_option maxHeartbeats 4000000 in
theorem mq_Md_putNumber {l : Launch} {E : wo_E} {mc ms : Nat} {Post : wo_W → Prop} {G : wo_W} {x0 : Nat} {x1 : Int32} (hw : pq_Md_putNumber E mc ms Post G x0 x1) : Met l yq_Md_putNumber (Cond.code yq_Md_putNumber prog_14_method_23_code 3 ((Option.none : Option Jvm.ClassFile.FieldType)) :: vw_WG) { frames := 1, cells := mc, slots := ms, locals := 21 } (va_Pc [.ref x0, .int x1] (wo_Ok E G)) (va_Qv Post (wo_B E) (en_A E)) mc ms (en_A E) := by
  unfold pq_Md_putNumber at hw
  exact wo_met [(1, .ref x0), (1, .int x1)] rfl (by decide) (fun q hq => by simp only [List.mem_cons, List.not_mem_nil, or_false] at hq; rcases hq with rfl | rfl <;> first | rfl | exact lx_cR _) (Nat.le_of_ble_eq_true rfl) (fun p e R s m args below meth cd ls hC hG hS hl => tq_Md_putNumber_0 hC hw hG hS (lx_sub hl [0, 1] rfl) (Nat.zero_le _) (Nat.zero_le _))

theorem dq_Md_begin_0 : decode prog_14_method_27_code 0 = .ok (.aload_n 0, 1) := by decide +kernel
theorem dq_Md_begin_1 : decode prog_14_method_27_code 1 = .ok (.iconst 0, 1) := by decide +kernel
theorem dq_Md_begin_2 : decode prog_14_method_27_code 2 = .ok (.putfield 267, 3) := by decide +kernel
theorem dq_Md_begin_5 : decode prog_14_method_27_code 5 = .ok (.aload_n 0, 1) := by decide +kernel
theorem dq_Md_begin_6 : decode prog_14_method_27_code 6 = .ok (.iload_n 1, 1) := by decide +kernel
theorem dq_Md_begin_7 : decode prog_14_method_27_code 7 = .ok (.invokevirtual 277, 3) := by decide +kernel
theorem dq_Md_begin_10 : decode prog_14_method_27_code 10 = .ok (.aload_n 0, 1) := by decide +kernel
theorem dq_Md_begin_11 : decode prog_14_method_27_code 11 = .ok (.bipush 10, 2) := by decide +kernel
theorem dq_Md_begin_13 : decode prog_14_method_27_code 13 = .ok (.invokevirtual 270, 3) := by decide +kernel
theorem dq_Md_begin_16 : decode prog_14_method_27_code 16 = .ok (.return_, 1) := by decide +kernel
set_option maxRecDepth 100000 in
def pq_Md_begin_0 (E : wo_E) (mc ms : Nat) (Post : wo_W → Prop) (G : wo_W) (c s : Nat) (x0 : Nat) (x1 : Int32) : Prop := wo_ty G x0 = 15 ∧ en_bs E ≤ x0 ∧ ∀ G3 : wo_W, G3 = wo_si G 906 x0 (0 : Int32) → 
  ∃ mc5 ms6 : Nat, (c + mc5) ≤ mc ∧ (s + ms6) ≤ ms ∧ pq_Md_putNumber E mc5 ms6 (fun G7 => 
  wo_ty G7 x0 = 15 ∧ ∃ mc9 ms10 : Nat, ((c + mc5) + mc9) ≤ mc ∧ ((s + ms6) + ms10) ≤ ms ∧ pq_Md_put E mc9 ms10 (fun G11 => 
    Post G11) G7 x0 (10 : Int32)) G3 x0 x1
def pq_Md_begin (E : wo_E) (mc ms : Nat) (Post : wo_W → Prop) (G : wo_W) (x0 : Nat) (x1 : Int32) : Prop := pq_Md_begin_0 E mc ms Post G 0 0 x0 x1
set_option maxRecDepth 100000 in
set_option maxHeartbeats 4000000 in
theorem tq_Md_begin_0 {p : Program} {l : Launch} {e : Env} {R : Room} {s₀ : State} {m : MethodId} {args : Array Value} {below : List Frame} {meth : Method} {cd : Code} {E : wo_E} {mc ms : Nat} {Post : wo_W → Prop} (hC : wo_Cx E "EdgeCacheModel" prog_14_method_27_code 2 2 43 ((Option.none : Option Jvm.ClassFile.FieldType)) "begin" mc ms p R s₀ m args meth cd) : ∀ {G : wo_W} {c s : Nat} {x0 : Nat} {x1 : Int32}, pq_Md_begin_0 E mc ms Post G c s x0 x1 → ∀ {H : Heap} {locs : List Loc} {ls : Array Slot}, wo_Se E G H → va_S (en_A E) s₀.heap H locs → lx_has ls 2 [(0, 1, .ref x0), (1, 1, .int x1)] → c ≤ mc → s ≤ ms → W p l e R s₀ m args below meth cd H locs c s (MQ below (va_Qv Post (wo_B E) (en_A E)) args s₀ mc ms (en_A E)) (F0 m 0 ls []) := by
  intro G c s x0 x1 hw H locs ls hG hS hl hcc hss
  dsimp only [pq_Md_begin_0] at hw
  have hx := hC.1
  have hb := hC.2.1
  refine lv_aload_n hx hb dq_Md_begin_0 rfl (lx_at hl 0 rfl) ?_
  refine lv_iconst (v := (0 : Int32)) hx hb dq_Md_begin_1 rfl ?_
  obtain ⟨t1, hw⟩ := hw
  obtain ⟨h2, hw⟩ := hw
  refine wo_putI hC fq_Md_267 (Or.inl rfl) rfl (wo_ok_int _) hG hS t1 h2 dq_Md_begin_2 (fun G3 H locs e4 hG hS => ?_)
  replace hw := hw G3 e4
  refine lv_aload_n hx hb dq_Md_begin_5 rfl (lx_at hl 0 rfl) ?_
  refine lv_iload_n hx hb dq_Md_begin_6 rfl (lx_at hl 1 rfl) ?_
  obtain ⟨mc5, ms6, hc1, hs1, hw⟩ := hw
  refine va_callv (wo_runV hC lq_Md_277 (mq_Md_putNumber hw) hG hS (ty_si e4 t1) rfl (lx_sz hl) rfl (Nat.zero_le _) (by decide) dq_Md_begin_7 ⟨hc1, hs1⟩) hS (fun _ _ h => h) (fun _ h => h) (fun G7 t H locs ht hvm hw' hB _ _ hS => ?_)
  clear hw
  have hw := hw'
  clear hw'
  replace hG := wo_bk ht hB
  replace hcc := hc1
  replace hss := hs1
  refine lv_aload_n hx hb dq_Md_begin_10 rfl (lx_at hl 0 rfl) ?_
  refine lv_bipush (v := (10 : Int32)) hx hb dq_Md_begin_11 rfl ?_
  obtain ⟨t8, hw⟩ := hw
  obtain ⟨mc9, ms10, hc1, hs1, hw⟩ := hw
  refine va_callv (wo_runV hC lq_Md_270 (mq_Md_put hw) hG hS t8 rfl (lx_sz hl) rfl (Nat.zero_le _) (by decide) dq_Md_begin_13 ⟨hc1, hs1⟩) hS (fun _ _ h => h) (fun _ h => h) (fun G11 t H locs ht hvm hw' hB _ _ hS => ?_)
  clear hw
  have hw := hw'
  clear hw'
  replace hG := wo_bk ht hB
  replace hcc := hc1
  replace hss := hs1
  exact wo_vret hC hG hS hcc hss hw dq_Md_begin_16
set_option maxHeartbeats 4000000 in
theorem mq_Md_begin {l : Launch} {E : wo_E} {mc ms : Nat} {Post : wo_W → Prop} {G : wo_W} {x0 : Nat} {x1 : Int32} (hw : pq_Md_begin E mc ms Post G x0 x1) : Met l yq_Md_begin (Cond.code yq_Md_begin prog_14_method_27_code 2 ((Option.none : Option Jvm.ClassFile.FieldType)) :: vw_WG) { frames := 2, cells := mc, slots := ms, locals := 43 } (va_Pc [.ref x0, .int x1] (wo_Ok E G)) (va_Qv Post (wo_B E) (en_A E)) mc ms (en_A E) := by
  unfold pq_Md_begin at hw
  exact wo_met [(1, .ref x0), (1, .int x1)] rfl (by decide) (fun q hq => by simp only [List.mem_cons, List.not_mem_nil, or_false] at hq; rcases hq with rfl | rfl <;> first | rfl | exact lx_cR _) (Nat.le_of_ble_eq_true rfl) (fun p e R s m args below meth cd ls hC hG hS hl => tq_Md_begin_0 hC hw hG hS (lx_sub hl [0, 1] rfl) (Nat.zero_le _) (Nat.zero_le _))

theorem dq_Md_name_0 : decode prog_14_method_25_code 0 = .ok (.aload_n 0, 1) := by decide +kernel
theorem dq_Md_name_1 : decode prog_14_method_25_code 1 = .ok (.iload_n 1, 1) := by decide +kernel
theorem dq_Md_name_2 : decode prog_14_method_25_code 2 = .ok (.invokevirtual 270, 3) := by decide +kernel
theorem dq_Md_name_5 : decode prog_14_method_25_code 5 = .ok (.aload_n 0, 1) := by decide +kernel
theorem dq_Md_name_6 : decode prog_14_method_25_code 6 = .ok (.bipush 58, 2) := by decide +kernel
theorem dq_Md_name_8 : decode prog_14_method_25_code 8 = .ok (.invokevirtual 270, 3) := by decide +kernel
theorem dq_Md_name_11 : decode prog_14_method_25_code 11 = .ok (.return_, 1) := by decide +kernel
set_option maxRecDepth 100000 in
def pq_Md_name_0 (E : wo_E) (mc ms : Nat) (Post : wo_W → Prop) (G : wo_W) (c s : Nat) (x0 : Nat) (x1 : Int32) : Prop := wo_ty G x0 = 15 ∧ ∃ mc2 ms3 : Nat, (c + mc2) ≤ mc ∧ (s + ms3) ≤ ms ∧ pq_Md_put E mc2 ms3 (fun G4 => 
  wo_ty G4 x0 = 15 ∧ ∃ mc6 ms7 : Nat, ((c + mc2) + mc6) ≤ mc ∧ ((s + ms3) + ms7) ≤ ms ∧ pq_Md_put E mc6 ms7 (fun G8 => 
    Post G8) G4 x0 (58 : Int32)) G x0 x1
def pq_Md_name (E : wo_E) (mc ms : Nat) (Post : wo_W → Prop) (G : wo_W) (x0 : Nat) (x1 : Int32) : Prop := pq_Md_name_0 E mc ms Post G 0 0 x0 x1
set_option maxRecDepth 100000 in
set_option maxHeartbeats 4000000 in
theorem tq_Md_name_0 {p : Program} {l : Launch} {e : Env} {R : Room} {s₀ : State} {m : MethodId} {args : Array Value} {below : List Frame} {meth : Method} {cd : Code} {E : wo_E} {mc ms : Nat} {Post : wo_W → Prop} (hC : wo_Cx E "EdgeCacheModel" prog_14_method_25_code 2 1 21 ((Option.none : Option Jvm.ClassFile.FieldType)) "name" mc ms p R s₀ m args meth cd) : ∀ {G : wo_W} {c s : Nat} {x0 : Nat} {x1 : Int32}, pq_Md_name_0 E mc ms Post G c s x0 x1 → ∀ {H : Heap} {locs : List Loc} {ls : Array Slot}, wo_Se E G H → va_S (en_A E) s₀.heap H locs → lx_has ls 2 [(0, 1, .ref x0), (1, 1, .int x1)] → c ≤ mc → s ≤ ms → W p l e R s₀ m args below meth cd H locs c s (MQ below (va_Qv Post (wo_B E) (en_A E)) args s₀ mc ms (en_A E)) (F0 m 0 ls []) := by
  intro G c s x0 x1 hw H locs ls hG hS hl hcc hss
  dsimp only [pq_Md_name_0] at hw
  have hx := hC.1
  have hb := hC.2.1
  refine lv_aload_n hx hb dq_Md_name_0 rfl (lx_at hl 0 rfl) ?_
  refine lv_iload_n hx hb dq_Md_name_1 rfl (lx_at hl 1 rfl) ?_
  obtain ⟨t1, hw⟩ := hw
  obtain ⟨mc2, ms3, hc1, hs1, hw⟩ := hw
  refine va_callv (wo_runV hC lq_Md_270 (mq_Md_put hw) hG hS t1 rfl (lx_sz hl) rfl (Nat.zero_le _) (by decide) dq_Md_name_2 ⟨hc1, hs1⟩) hS (fun _ _ h => h) (fun _ h => h) (fun G4 t H locs ht hvm hw' hB _ _ hS => ?_)
  clear hw
  have hw := hw'
  clear hw'
  replace hG := wo_bk ht hB
  replace hcc := hc1
  replace hss := hs1
  refine lv_aload_n hx hb dq_Md_name_5 rfl (lx_at hl 0 rfl) ?_
  refine lv_bipush (v := (58 : Int32)) hx hb dq_Md_name_6 rfl ?_
  obtain ⟨t5, hw⟩ := hw
  obtain ⟨mc6, ms7, hc1, hs1, hw⟩ := hw
  refine va_callv (wo_runV hC lq_Md_270 (mq_Md_put hw) hG hS t5 rfl (lx_sz hl) rfl (Nat.zero_le _) (by decide) dq_Md_name_8 ⟨hc1, hs1⟩) hS (fun _ _ h => h) (fun _ h => h) (fun G8 t H locs ht hvm hw' hB _ _ hS => ?_)
  clear hw
  have hw := hw'
  clear hw'
  replace hG := wo_bk ht hB
  replace hcc := hc1
  replace hss := hs1
  exact wo_vret hC hG hS hcc hss hw dq_Md_name_11
set_option maxHeartbeats 4000000 in
theorem mq_Md_name {l : Launch} {E : wo_E} {mc ms : Nat} {Post : wo_W → Prop} {G : wo_W} {x0 : Nat} {x1 : Int32} (hw : pq_Md_name E mc ms Post G x0 x1) : Met l yq_Md_name (Cond.code yq_Md_name prog_14_method_25_code 2 ((Option.none : Option Jvm.ClassFile.FieldType)) :: vw_WG) { frames := 1, cells := mc, slots := ms, locals := 21 } (va_Pc [.ref x0, .int x1] (wo_Ok E G)) (va_Qv Post (wo_B E) (en_A E)) mc ms (en_A E) := by
  unfold pq_Md_name at hw
  exact wo_met [(1, .ref x0), (1, .int x1)] rfl (by decide) (fun q hq => by simp only [List.mem_cons, List.not_mem_nil, or_false] at hq; rcases hq with rfl | rfl <;> first | rfl | exact lx_cR _) (Nat.le_of_ble_eq_true rfl) (fun p e R s m args below meth cd ls hC hG hS hl => tq_Md_name_0 hC hw hG hS (lx_sub hl [0, 1] rfl) (Nat.zero_le _) (Nat.zero_le _))

theorem dq_Md_putLine_0 : decode prog_14_method_26_code 0 = .ok (.aload_n 0, 1) := by decide +kernel
theorem dq_Md_putLine_1 : decode prog_14_method_26_code 1 = .ok (.iload_n 1, 1) := by decide +kernel
theorem dq_Md_putLine_2 : decode prog_14_method_26_code 2 = .ok (.invokevirtual 274, 3) := by decide +kernel
theorem dq_Md_putLine_5 : decode prog_14_method_26_code 5 = .ok (.aload_n 0, 1) := by decide +kernel
theorem dq_Md_putLine_6 : decode prog_14_method_26_code 6 = .ok (.iload_n 2, 1) := by decide +kernel
theorem dq_Md_putLine_7 : decode prog_14_method_26_code 7 = .ok (.invokevirtual 277, 3) := by decide +kernel
theorem dq_Md_putLine_10 : decode prog_14_method_26_code 10 = .ok (.aload_n 0, 1) := by decide +kernel
theorem dq_Md_putLine_11 : decode prog_14_method_26_code 11 = .ok (.bipush 10, 2) := by decide +kernel
theorem dq_Md_putLine_13 : decode prog_14_method_26_code 13 = .ok (.invokevirtual 270, 3) := by decide +kernel
theorem dq_Md_putLine_16 : decode prog_14_method_26_code 16 = .ok (.return_, 1) := by decide +kernel
set_option maxRecDepth 100000 in
def pq_Md_putLine_0 (E : wo_E) (mc ms : Nat) (Post : wo_W → Prop) (G : wo_W) (c s : Nat) (x0 : Nat) (x1 : Int32) (x2 : Int32) : Prop := wo_ty G x0 = 15 ∧ ∃ mc2 ms3 : Nat, (c + mc2) ≤ mc ∧ (s + ms3) ≤ ms ∧ pq_Md_name E mc2 ms3 (fun G4 => 
  wo_ty G4 x0 = 15 ∧ ∃ mc6 ms7 : Nat, ((c + mc2) + mc6) ≤ mc ∧ ((s + ms3) + ms7) ≤ ms ∧ pq_Md_putNumber E mc6 ms7 (fun G8 => 
    wo_ty G8 x0 = 15 ∧ ∃ mc10 ms11 : Nat, (((c + mc2) + mc6) + mc10) ≤ mc ∧ (((s + ms3) + ms7) + ms11) ≤ ms ∧ pq_Md_put E mc10 ms11 (fun G12 => 
      Post G12) G8 x0 (10 : Int32)) G4 x0 x2) G x0 x1
def pq_Md_putLine (E : wo_E) (mc ms : Nat) (Post : wo_W → Prop) (G : wo_W) (x0 : Nat) (x1 : Int32) (x2 : Int32) : Prop := pq_Md_putLine_0 E mc ms Post G 0 0 x0 x1 x2
set_option maxRecDepth 100000 in
set_option maxHeartbeats 4000000 in
theorem tq_Md_putLine_0 {p : Program} {l : Launch} {e : Env} {R : Room} {s₀ : State} {m : MethodId} {args : Array Value} {below : List Frame} {meth : Method} {cd : Code} {E : wo_E} {mc ms : Nat} {Post : wo_W → Prop} (hC : wo_Cx E "EdgeCacheModel" prog_14_method_26_code 3 2 43 ((Option.none : Option Jvm.ClassFile.FieldType)) "putLine" mc ms p R s₀ m args meth cd) : ∀ {G : wo_W} {c s : Nat} {x0 : Nat} {x1 : Int32} {x2 : Int32}, pq_Md_putLine_0 E mc ms Post G c s x0 x1 x2 → ∀ {H : Heap} {locs : List Loc} {ls : Array Slot}, wo_Se E G H → va_S (en_A E) s₀.heap H locs → lx_has ls 3 [(0, 1, .ref x0), (1, 1, .int x1), (2, 1, .int x2)] → c ≤ mc → s ≤ ms → W p l e R s₀ m args below meth cd H locs c s (MQ below (va_Qv Post (wo_B E) (en_A E)) args s₀ mc ms (en_A E)) (F0 m 0 ls []) := by
  intro G c s x0 x1 x2 hw H locs ls hG hS hl hcc hss
  dsimp only [pq_Md_putLine_0] at hw
  have hx := hC.1
  have hb := hC.2.1
  refine lv_aload_n hx hb dq_Md_putLine_0 rfl (lx_at hl 0 rfl) ?_
  refine lv_iload_n hx hb dq_Md_putLine_1 rfl (lx_at hl 1 rfl) ?_
  obtain ⟨t1, hw⟩ := hw
  obtain ⟨mc2, ms3, hc1, hs1, hw⟩ := hw
  refine va_callv (wo_runV hC lq_Md_274 (mq_Md_name hw) hG hS t1 rfl (lx_sz hl) rfl (Nat.zero_le _) (by decide) dq_Md_putLine_2 ⟨hc1, hs1⟩) hS (fun _ _ h => h) (fun _ h => h) (fun G4 t H locs ht hvm hw' hB _ _ hS => ?_)
  clear hw
  have hw := hw'
  clear hw'
  replace hG := wo_bk ht hB
  replace hcc := hc1
  replace hss := hs1
  refine lv_aload_n hx hb dq_Md_putLine_5 rfl (lx_at hl 0 rfl) ?_
  refine lv_iload_n hx hb dq_Md_putLine_6 rfl (lx_at hl 2 rfl) ?_
  obtain ⟨t5, hw⟩ := hw
  obtain ⟨mc6, ms7, hc1, hs1, hw⟩ := hw
  refine va_callv (wo_runV hC lq_Md_277 (mq_Md_putNumber hw) hG hS t5 rfl (lx_sz hl) rfl (Nat.zero_le _) (by decide) dq_Md_putLine_7 ⟨hc1, hs1⟩) hS (fun _ _ h => h) (fun _ h => h) (fun G8 t H locs ht hvm hw' hB _ _ hS => ?_)
  clear hw
  have hw := hw'
  clear hw'
  replace hG := wo_bk ht hB
  replace hcc := hc1
  replace hss := hs1
  refine lv_aload_n hx hb dq_Md_putLine_10 rfl (lx_at hl 0 rfl) ?_
  refine lv_bipush (v := (10 : Int32)) hx hb dq_Md_putLine_11 rfl ?_
  obtain ⟨t9, hw⟩ := hw
  obtain ⟨mc10, ms11, hc1, hs1, hw⟩ := hw
  refine va_callv (wo_runV hC lq_Md_270 (mq_Md_put hw) hG hS t9 rfl (lx_sz hl) rfl (Nat.zero_le _) (by decide) dq_Md_putLine_13 ⟨hc1, hs1⟩) hS (fun _ _ h => h) (fun _ h => h) (fun G12 t H locs ht hvm hw' hB _ _ hS => ?_)
  clear hw
  have hw := hw'
  clear hw'
  replace hG := wo_bk ht hB
  replace hcc := hc1
  replace hss := hs1
  exact wo_vret hC hG hS hcc hss hw dq_Md_putLine_16
set_option maxHeartbeats 4000000 in
theorem mq_Md_putLine {l : Launch} {E : wo_E} {mc ms : Nat} {Post : wo_W → Prop} {G : wo_W} {x0 : Nat} {x1 : Int32} {x2 : Int32} (hw : pq_Md_putLine E mc ms Post G x0 x1 x2) : Met l yq_Md_putLine (Cond.code yq_Md_putLine prog_14_method_26_code 3 ((Option.none : Option Jvm.ClassFile.FieldType)) :: vw_WG) { frames := 2, cells := mc, slots := ms, locals := 43 } (va_Pc [.ref x0, .int x1, .int x2] (wo_Ok E G)) (va_Qv Post (wo_B E) (en_A E)) mc ms (en_A E) := by
  unfold pq_Md_putLine at hw
  exact wo_met [(1, .ref x0), (1, .int x1), (1, .int x2)] rfl (by decide) (fun q hq => by simp only [List.mem_cons, List.not_mem_nil, or_false] at hq; rcases hq with rfl | rfl | rfl <;> first | rfl | exact lx_cR _) (Nat.le_of_ble_eq_true rfl) (fun p e R s m args below meth cd ls hC hG hS hl => tq_Md_putLine_0 hC hw hG hS (lx_sub hl [0, 1, 2] rfl) (Nat.zero_le _) (Nat.zero_le _))

theorem dq_Md_plain_0 : decode prog_14_method_28_code 0 = .ok (.aload_n 0, 1) := by decide +kernel
theorem dq_Md_plain_1 : decode prog_14_method_28_code 1 = .ok (.iload_n 1, 1) := by decide +kernel
theorem dq_Md_plain_2 : decode prog_14_method_28_code 2 = .ok (.invokevirtual 280, 3) := by decide +kernel
theorem dq_Md_plain_5 : decode prog_14_method_28_code 5 = .ok (.aload_n 0, 1) := by decide +kernel
theorem dq_Md_plain_6 : decode prog_14_method_28_code 6 = .ok (.bipush 76, 2) := by decide +kernel
theorem dq_Md_plain_8 : decode prog_14_method_28_code 8 = .ok (.iconst 0, 1) := by decide +kernel
theorem dq_Md_plain_9 : decode prog_14_method_28_code 9 = .ok (.invokevirtual 283, 3) := by decide +kernel
theorem dq_Md_plain_12 : decode prog_14_method_28_code 12 = .ok (.aload_n 0, 1) := by decide +kernel
theorem dq_Md_plain_13 : decode prog_14_method_28_code 13 = .ok (.bipush 10, 2) := by decide +kernel
theorem dq_Md_plain_15 : decode prog_14_method_28_code 15 = .ok (.invokevirtual 270, 3) := by decide +kernel
theorem dq_Md_plain_18 : decode prog_14_method_28_code 18 = .ok (.iload_n 1, 1) := by decide +kernel
theorem dq_Md_plain_19 : decode prog_14_method_28_code 19 = .ok (.ireturn, 1) := by decide +kernel
set_option maxRecDepth 100000 in
def pq_Md_plain_0 (E : wo_E) (mc ms : Nat) (Post : Int32 → wo_W → Prop) (G : wo_W) (c s : Nat) (x0 : Nat) (x1 : Int32) : Prop := wo_ty G x0 = 15 ∧ ∃ mc2 ms3 : Nat, (c + mc2) ≤ mc ∧ (s + ms3) ≤ ms ∧ pq_Md_begin E mc2 ms3 (fun G4 => 
  wo_ty G4 x0 = 15 ∧ ∃ mc6 ms7 : Nat, ((c + mc2) + mc6) ≤ mc ∧ ((s + ms3) + ms7) ≤ ms ∧ pq_Md_putLine E mc6 ms7 (fun G8 => 
    wo_ty G8 x0 = 15 ∧ ∃ mc10 ms11 : Nat, (((c + mc2) + mc6) + mc10) ≤ mc ∧ (((s + ms3) + ms7) + ms11) ≤ ms ∧ pq_Md_put E mc10 ms11 (fun G12 => 
      Post x1 G12) G8 x0 (10 : Int32)) G4 x0 (76 : Int32) (0 : Int32)) G x0 x1
def pq_Md_plain (E : wo_E) (mc ms : Nat) (Post : Int32 → wo_W → Prop) (G : wo_W) (x0 : Nat) (x1 : Int32) : Prop := pq_Md_plain_0 E mc ms Post G 0 0 x0 x1
set_option maxRecDepth 100000 in
set_option maxHeartbeats 4000000 in
theorem tq_Md_plain_0 {p : Program} {l : Launch} {e : Env} {R : Room} {s₀ : State} {m : MethodId} {args : Array Value} {below : List Frame} {meth : Method} {cd : Code} {E : wo_E} {mc ms : Nat} {Post : Int32 → wo_W → Prop} (hC : wo_Cx E "EdgeCacheModel" prog_14_method_28_code 2 3 65 ((Option.some Jvm.ClassFile.FieldType.int)) "plain" mc ms p R s₀ m args meth cd) : ∀ {G : wo_W} {c s : Nat} {x0 : Nat} {x1 : Int32}, pq_Md_plain_0 E mc ms Post G c s x0 x1 → ∀ {H : Heap} {locs : List Loc} {ls : Array Slot}, wo_Se E G H → va_S (en_A E) s₀.heap H locs → lx_has ls 2 [(0, 1, .ref x0), (1, 1, .int x1)] → c ≤ mc → s ≤ ms → W p l e R s₀ m args below meth cd H locs c s (MQ below (va_Qi Post (wo_B E) (en_A E)) args s₀ mc ms (en_A E)) (F0 m 0 ls []) := by
  intro G c s x0 x1 hw H locs ls hG hS hl hcc hss
  dsimp only [pq_Md_plain_0] at hw
  have hx := hC.1
  have hb := hC.2.1
  refine lv_aload_n hx hb dq_Md_plain_0 rfl (lx_at hl 0 rfl) ?_
  refine lv_iload_n hx hb dq_Md_plain_1 rfl (lx_at hl 1 rfl) ?_
  obtain ⟨t1, hw⟩ := hw
  obtain ⟨mc2, ms3, hc1, hs1, hw⟩ := hw
  refine va_callv (wo_runV hC lq_Md_280 (mq_Md_begin hw) hG hS t1 rfl (lx_sz hl) rfl (Nat.zero_le _) (by decide) dq_Md_plain_2 ⟨hc1, hs1⟩) hS (fun _ _ h => h) (fun _ h => h) (fun G4 t H locs ht hvm hw' hB _ _ hS => ?_)
  clear hw
  have hw := hw'
  clear hw'
  replace hG := wo_bk ht hB
  replace hcc := hc1
  replace hss := hs1
  refine lv_aload_n hx hb dq_Md_plain_5 rfl (lx_at hl 0 rfl) ?_
  refine lv_bipush (v := (76 : Int32)) hx hb dq_Md_plain_6 rfl ?_
  refine lv_iconst (v := (0 : Int32)) hx hb dq_Md_plain_8 rfl ?_
  obtain ⟨t5, hw⟩ := hw
  obtain ⟨mc6, ms7, hc1, hs1, hw⟩ := hw
  refine va_callv (wo_runV hC lq_Md_283 (mq_Md_putLine hw) hG hS t5 rfl (lx_sz hl) rfl (Nat.zero_le _) (by decide) dq_Md_plain_9 ⟨hc1, hs1⟩) hS (fun _ _ h => h) (fun _ h => h) (fun G8 t H locs ht hvm hw' hB _ _ hS => ?_)
  clear hw
  have hw := hw'
  clear hw'
  replace hG := wo_bk ht hB
  replace hcc := hc1
  replace hss := hs1
  refine lv_aload_n hx hb dq_Md_plain_12 rfl (lx_at hl 0 rfl) ?_
  refine lv_bipush (v := (10 : Int32)) hx hb dq_Md_plain_13 rfl ?_
  obtain ⟨t9, hw⟩ := hw
  obtain ⟨mc10, ms11, hc1, hs1, hw⟩ := hw
  refine va_callv (wo_runV hC lq_Md_270 (mq_Md_put hw) hG hS t9 rfl (lx_sz hl) rfl (Nat.zero_le _) (by decide) dq_Md_plain_15 ⟨hc1, hs1⟩) hS (fun _ _ h => h) (fun _ h => h) (fun G12 t H locs ht hvm hw' hB _ _ hS => ?_)
  clear hw
  have hw := hw'
  clear hw'
  replace hG := wo_bk ht hB
  replace hcc := hc1
  replace hss := hs1
  refine lv_iload_n hx hb dq_Md_plain_18 rfl (lx_at hl 1 rfl) ?_
  exact wo_iret hC hG hS hcc hss hw dq_Md_plain_19
set_option maxHeartbeats 4000000 in
theorem mq_Md_plain {l : Launch} {E : wo_E} {mc ms : Nat} {Post : Int32 → wo_W → Prop} {G : wo_W} {x0 : Nat} {x1 : Int32} (hw : pq_Md_plain E mc ms Post G x0 x1) : Met l yq_Md_plain (Cond.code yq_Md_plain prog_14_method_28_code 2 ((Option.some Jvm.ClassFile.FieldType.int)) :: vw_WG) { frames := 3, cells := mc, slots := ms, locals := 65 } (va_Pc [.ref x0, .int x1] (wo_Ok E G)) (va_Qi Post (wo_B E) (en_A E)) mc ms (en_A E) := by
  unfold pq_Md_plain at hw
  exact wo_met [(1, .ref x0), (1, .int x1)] rfl (by decide) (fun q hq => by simp only [List.mem_cons, List.not_mem_nil, or_false] at hq; rcases hq with rfl | rfl <;> first | rfl | exact lx_cR _) (Nat.le_of_ble_eq_true rfl) (fun p e R s m args below meth cd ls hC hG hS hl => tq_Md_plain_0 hC hw hG hS (lx_sub hl [0, 1] rfl) (Nat.zero_le _) (Nat.zero_le _))

theorem dq_Md_changed_0 : decode prog_14_method_43_code 0 = .ok (.aload_n 0, 1) := by decide +kernel
theorem dq_Md_changed_1 : decode prog_14_method_43_code 1 = .ok (.getfield 41, 3) := by decide +kernel
theorem dq_Md_changed_4 : decode prog_14_method_43_code 4 = .ok (.iload_n 1, 1) := by decide +kernel
theorem dq_Md_changed_5 : decode prog_14_method_43_code 5 = .ok (.iaload, 1) := by decide +kernel
theorem dq_Md_changed_6 : decode prog_14_method_43_code 6 = .ok (.iconst 3, 1) := by decide +kernel
theorem dq_Md_changed_7 : decode prog_14_method_43_code 7 = .ok (.if_icmp .eq 17, 3) := by decide +kernel
theorem dq_Md_changed_10 : decode prog_14_method_43_code 10 = .ok (.iload_n 2, 1) := by decide +kernel
theorem dq_Md_changed_11 : decode prog_14_method_43_code 11 = .ok (.sipush 201, 3) := by decide +kernel
theorem dq_Md_changed_14 : decode prog_14_method_43_code 14 = .ok (.if_icmp .eq 17, 3) := by decide +kernel
theorem dq_Md_changed_17 : decode prog_14_method_43_code 17 = .ok (.iload_n 2, 1) := by decide +kernel
theorem dq_Md_changed_18 : decode prog_14_method_43_code 18 = .ok (.sipush 204, 3) := by decide +kernel
theorem dq_Md_changed_21 : decode prog_14_method_43_code 21 = .ok (.if_icmp .eq 10, 3) := by decide +kernel
theorem dq_Md_changed_24 : decode prog_14_method_43_code 24 = .ok (.aload_n 0, 1) := by decide +kernel
theorem dq_Md_changed_25 : decode prog_14_method_43_code 25 = .ok (.iload_n 2, 1) := by decide +kernel
theorem dq_Md_changed_26 : decode prog_14_method_43_code 26 = .ok (.invokevirtual 190, 3) := by decide +kernel
theorem dq_Md_changed_29 : decode prog_14_method_43_code 29 = .ok (.pop, 1) := by decide +kernel
theorem dq_Md_changed_30 : decode prog_14_method_43_code 30 = .ok (.return_, 1) := by decide +kernel
theorem dq_Md_changed_31 : decode prog_14_method_43_code 31 = .ok (.aload_n 0, 1) := by decide +kernel
theorem dq_Md_changed_32 : decode prog_14_method_43_code 32 = .ok (.iload_n 2, 1) := by decide +kernel
theorem dq_Md_changed_33 : decode prog_14_method_43_code 33 = .ok (.invokevirtual 280, 3) := by decide +kernel
theorem dq_Md_changed_36 : decode prog_14_method_43_code 36 = .ok (.aload_n 0, 1) := by decide +kernel
theorem dq_Md_changed_37 : decode prog_14_method_43_code 37 = .ok (.bipush 69, 2) := by decide +kernel
theorem dq_Md_changed_39 : decode prog_14_method_43_code 39 = .ok (.aload_n 0, 1) := by decide +kernel
theorem dq_Md_changed_40 : decode prog_14_method_43_code 40 = .ok (.getfield 96, 3) := by decide +kernel
theorem dq_Md_changed_43 : decode prog_14_method_43_code 43 = .ok (.iload_n 1, 1) := by decide +kernel
theorem dq_Md_changed_44 : decode prog_14_method_43_code 44 = .ok (.iaload, 1) := by decide +kernel
theorem dq_Md_changed_45 : decode prog_14_method_43_code 45 = .ok (.invokevirtual 283, 3) := by decide +kernel
theorem dq_Md_changed_48 : decode prog_14_method_43_code 48 = .ok (.aload_n 0, 1) := by decide +kernel
theorem dq_Md_changed_49 : decode prog_14_method_43_code 49 = .ok (.bipush 76, 2) := by decide +kernel
theorem dq_Md_changed_51 : decode prog_14_method_43_code 51 = .ok (.iconst 0, 1) := by decide +kernel
theorem dq_Md_changed_52 : decode prog_14_method_43_code 52 = .ok (.invokevirtual 283, 3) := by decide +kernel
theorem dq_Md_changed_55 : decode prog_14_method_43_code 55 = .ok (.aload_n 0, 1) := by decide +kernel
theorem dq_Md_changed_56 : decode prog_14_method_43_code 56 = .ok (.bipush 10, 2) := by decide +kernel
theorem dq_Md_changed_58 : decode prog_14_method_43_code 58 = .ok (.invokevirtual 270, 3) := by decide +kernel
theorem dq_Md_changed_61 : decode prog_14_method_43_code 61 = .ok (.return_, 1) := by decide +kernel
set_option maxRecDepth 100000 in
def pq_Md_changed_24 (E : wo_E) (mc ms : Nat) (Post : wo_W → Prop) (G : wo_W) (c s : Nat) (x0 : Nat) (x2 : Int32) : Prop := wo_ty G x0 = 15 ∧ ∃ mc2 ms3 : Nat, (c + mc2) ≤ mc ∧ (s + ms3) ≤ ms ∧ pq_Md_plain E mc2 ms3 (fun v5 G4 => 
  Post G4) G x0 x2
set_option maxRecDepth 100000 in
def pq_Md_changed_31 (E : wo_E) (mc ms : Nat) (Post : wo_W → Prop) (G : wo_W) (c s : Nat) (x0 : Nat) (x1 : Int32) (x2 : Int32) : Prop := wo_ty G x0 = 15 ∧ ∃ mc2 ms3 : Nat, (c + mc2) ≤ mc ∧ (s + ms3) ≤ ms ∧ pq_Md_begin E mc2 ms3 (fun G4 => 
  wo_ty G4 x0 = 15 ∧ ∀ r6 : Option Nat, r6 = wo_gr G4 927 x0 → ∃ a8 : Nat, r6 = some a8 ∧ wo_ty G4 a8 = 66 ∧ vp_in x1 (wo_len G4 a8) ∧ ∃ mc11 ms12 : Nat, ((c + mc2) + mc11) ≤ mc ∧ ((s + ms3) + ms12) ≤ ms ∧ pq_Md_putLine E mc11 ms12 (fun G13 => 
    wo_ty G13 x0 = 15 ∧ ∃ mc15 ms16 : Nat, (((c + mc2) + mc11) + mc15) ≤ mc ∧ (((s + ms3) + ms12) + ms16) ≤ ms ∧ pq_Md_putLine E mc15 ms16 (fun G17 => 
      wo_ty G17 x0 = 15 ∧ ∃ mc19 ms20 : Nat, ((((c + mc2) + mc11) + mc15) + mc19) ≤ mc ∧ ((((s + ms3) + ms12) + ms16) + ms20) ≤ ms ∧ pq_Md_put E mc19 ms20 (fun G21 => 
        Post G21) G17 x0 (10 : Int32)) G13 x0 (76 : Int32) (0 : Int32)) G4 x0 (69 : Int32) (wo_ei G4 a8 x1.toNatClampNeg)) G x0 x2
set_option maxRecDepth 100000 in
def pq_Md_changed_0 (E : wo_E) (mc ms : Nat) (Post : wo_W → Prop) (G : wo_W) (c s : Nat) (x0 : Nat) (x1 : Int32) (x2 : Int32) : Prop := wo_ty G x0 = 15 ∧ ∀ r2 : Option Nat, r2 = wo_gr G 907 x0 → ∃ a4 : Nat, r2 = some a4 ∧ wo_ty G a4 = 66 ∧ vp_in x1 (wo_len G a4) ∧ (((wo_ei G a4 x1.toNatClampNeg) = (3 : Int32) → pq_Md_changed_24 E mc ms Post G c s x0 x2) ∧
  (¬ (wo_ei G a4 x1.toNatClampNeg) = (3 : Int32) → ((x2 = (201 : Int32) → pq_Md_changed_31 E mc ms Post G c s x0 x1 x2) ∧
    (¬ x2 = (201 : Int32) → ((x2 = (204 : Int32) → pq_Md_changed_31 E mc ms Post G c s x0 x1 x2) ∧
      (¬ x2 = (204 : Int32) → pq_Md_changed_24 E mc ms Post G c s x0 x2))))))
def pq_Md_changed (E : wo_E) (mc ms : Nat) (Post : wo_W → Prop) (G : wo_W) (x0 : Nat) (x1 : Int32) (x2 : Int32) : Prop := pq_Md_changed_0 E mc ms Post G 0 0 x0 x1 x2
set_option maxRecDepth 100000 in
set_option maxHeartbeats 4000000 in
theorem tq_Md_changed_24 {p : Program} {l : Launch} {e : Env} {R : Room} {s₀ : State} {m : MethodId} {args : Array Value} {below : List Frame} {meth : Method} {cd : Code} {E : wo_E} {mc ms : Nat} {Post : wo_W → Prop} (hC : wo_Cx E "EdgeCacheModel" prog_14_method_43_code 3 4 86 ((Option.none : Option Jvm.ClassFile.FieldType)) "changed" mc ms p R s₀ m args meth cd) : ∀ {G : wo_W} {c s : Nat} {x0 : Nat} {x2 : Int32}, pq_Md_changed_24 E mc ms Post G c s x0 x2 → ∀ {H : Heap} {locs : List Loc} {ls : Array Slot}, wo_Se E G H → va_S (en_A E) s₀.heap H locs → lx_has ls 3 [(0, 1, .ref x0), (2, 1, .int x2)] → c ≤ mc → s ≤ ms → W p l e R s₀ m args below meth cd H locs c s (MQ below (va_Qv Post (wo_B E) (en_A E)) args s₀ mc ms (en_A E)) (F0 m 24 ls []) := by
  intro G c s x0 x2 hw H locs ls hG hS hl hcc hss
  dsimp only [pq_Md_changed_24] at hw
  have hx := hC.1
  have hb := hC.2.1
  refine lv_aload_n hx hb dq_Md_changed_24 rfl (lx_at hl 0 rfl) ?_
  refine lv_iload_n hx hb dq_Md_changed_25 rfl (lx_at hl 1 rfl) ?_
  obtain ⟨t1, hw⟩ := hw
  obtain ⟨mc2, ms3, hc1, hs1, hw⟩ := hw
  refine va_calli (wo_runV hC lq_Md_190 (mq_Md_plain hw) hG hS t1 rfl (lx_sz hl) rfl (Nat.zero_le _) (by decide) dq_Md_changed_26 ⟨hc1, hs1⟩) hS (fun _ _ h => h) (fun _ h => h) (fun v5 G4 t H locs ht hvm hw' hB _ _ hS => ?_)
  clear hw
  have hw := hw'
  clear hw'
  replace hG := wo_bk ht hB
  replace hcc := hc1
  replace hss := hs1
  refine lv_pop hx hb dq_Md_changed_29 rfl ?_
  exact wo_vret hC hG hS hcc hss hw dq_Md_changed_30
set_option maxRecDepth 100000 in
set_option maxHeartbeats 4000000 in
theorem tq_Md_changed_31 {p : Program} {l : Launch} {e : Env} {R : Room} {s₀ : State} {m : MethodId} {args : Array Value} {below : List Frame} {meth : Method} {cd : Code} {E : wo_E} {mc ms : Nat} {Post : wo_W → Prop} (hC : wo_Cx E "EdgeCacheModel" prog_14_method_43_code 3 4 86 ((Option.none : Option Jvm.ClassFile.FieldType)) "changed" mc ms p R s₀ m args meth cd) : ∀ {G : wo_W} {c s : Nat} {x0 : Nat} {x1 : Int32} {x2 : Int32}, pq_Md_changed_31 E mc ms Post G c s x0 x1 x2 → ∀ {H : Heap} {locs : List Loc} {ls : Array Slot}, wo_Se E G H → va_S (en_A E) s₀.heap H locs → lx_has ls 3 [(0, 1, .ref x0), (1, 1, .int x1), (2, 1, .int x2)] → c ≤ mc → s ≤ ms → W p l e R s₀ m args below meth cd H locs c s (MQ below (va_Qv Post (wo_B E) (en_A E)) args s₀ mc ms (en_A E)) (F0 m 31 ls []) := by
  intro G c s x0 x1 x2 hw H locs ls hG hS hl hcc hss
  dsimp only [pq_Md_changed_31] at hw
  have hx := hC.1
  have hb := hC.2.1
  refine lv_aload_n hx hb dq_Md_changed_31 rfl (lx_at hl 0 rfl) ?_
  refine lv_iload_n hx hb dq_Md_changed_32 rfl (lx_at hl 2 rfl) ?_
  obtain ⟨t1, hw⟩ := hw
  obtain ⟨mc2, ms3, hc1, hs1, hw⟩ := hw
  refine va_callv (wo_runV hC lq_Md_280 (mq_Md_begin hw) hG hS t1 rfl (lx_sz hl) rfl (Nat.zero_le _) (by decide) dq_Md_changed_33 ⟨hc1, hs1⟩) hS (fun _ _ h => h) (fun _ h => h) (fun G4 t H locs ht hvm hw' hB _ _ hS => ?_)
  clear hw
  have hw := hw'
  clear hw'
  replace hG := wo_bk ht hB
  replace hcc := hc1
  replace hss := hs1
  refine lv_aload_n hx hb dq_Md_changed_36 rfl (lx_at hl 0 rfl) ?_
  refine lv_bipush (v := (69 : Int32)) hx hb dq_Md_changed_37 rfl ?_
  refine lv_aload_n hx hb dq_Md_changed_39 rfl (lx_at hl 0 rfl) ?_
  obtain ⟨t5, hw⟩ := hw
  refine wo_getR hC fq_Md_96 rfl hG t5 dq_Md_changed_40 (fun r6 e7 => ?_)
  replace hw := hw r6 e7
  refine lv_iload_n hx hb dq_Md_changed_43 rfl (lx_at hl 1 rfl) ?_
  obtain ⟨a8, rfl, hw⟩ := hw
  obtain ⟨t9, hw⟩ := hw
  obtain ⟨h10, hw⟩ := hw
  refine wo_iald (j := 2) hC rfl hG t9 h10 dq_Md_changed_44 ?_
  obtain ⟨mc11, ms12, hc1, hs1, hw⟩ := hw
  refine va_callv (wo_runV hC lq_Md_283 (mq_Md_putLine hw) hG hS t5 rfl (lx_sz hl) rfl (Nat.zero_le _) (by decide) dq_Md_changed_45 ⟨hc1, hs1⟩) hS (fun _ _ h => h) (fun _ h => h) (fun G13 t H locs ht hvm hw' hB _ _ hS => ?_)
  clear hw
  have hw := hw'
  clear hw'
  replace hG := wo_bk ht hB
  replace hcc := hc1
  replace hss := hs1
  refine lv_aload_n hx hb dq_Md_changed_48 rfl (lx_at hl 0 rfl) ?_
  refine lv_bipush (v := (76 : Int32)) hx hb dq_Md_changed_49 rfl ?_
  refine lv_iconst (v := (0 : Int32)) hx hb dq_Md_changed_51 rfl ?_
  obtain ⟨t14, hw⟩ := hw
  obtain ⟨mc15, ms16, hc1, hs1, hw⟩ := hw
  refine va_callv (wo_runV hC lq_Md_283 (mq_Md_putLine hw) hG hS t14 rfl (lx_sz hl) rfl (Nat.zero_le _) (by decide) dq_Md_changed_52 ⟨hc1, hs1⟩) hS (fun _ _ h => h) (fun _ h => h) (fun G17 t H locs ht hvm hw' hB _ _ hS => ?_)
  clear hw
  have hw := hw'
  clear hw'
  replace hG := wo_bk ht hB
  replace hcc := hc1
  replace hss := hs1
  refine lv_aload_n hx hb dq_Md_changed_55 rfl (lx_at hl 0 rfl) ?_
  refine lv_bipush (v := (10 : Int32)) hx hb dq_Md_changed_56 rfl ?_
  obtain ⟨t18, hw⟩ := hw
  obtain ⟨mc19, ms20, hc1, hs1, hw⟩ := hw
  refine va_callv (wo_runV hC lq_Md_270 (mq_Md_put hw) hG hS t18 rfl (lx_sz hl) rfl (Nat.zero_le _) (by decide) dq_Md_changed_58 ⟨hc1, hs1⟩) hS (fun _ _ h => h) (fun _ h => h) (fun G21 t H locs ht hvm hw' hB _ _ hS => ?_)
  clear hw
  have hw := hw'
  clear hw'
  replace hG := wo_bk ht hB
  replace hcc := hc1
  replace hss := hs1
  exact wo_vret hC hG hS hcc hss hw dq_Md_changed_61
set_option maxRecDepth 100000 in
set_option maxHeartbeats 4000000 in
theorem tq_Md_changed_0 {p : Program} {l : Launch} {e : Env} {R : Room} {s₀ : State} {m : MethodId} {args : Array Value} {below : List Frame} {meth : Method} {cd : Code} {E : wo_E} {mc ms : Nat} {Post : wo_W → Prop} (hC : wo_Cx E "EdgeCacheModel" prog_14_method_43_code 3 4 86 ((Option.none : Option Jvm.ClassFile.FieldType)) "changed" mc ms p R s₀ m args meth cd) : ∀ {G : wo_W} {c s : Nat} {x0 : Nat} {x1 : Int32} {x2 : Int32}, pq_Md_changed_0 E mc ms Post G c s x0 x1 x2 → ∀ {H : Heap} {locs : List Loc} {ls : Array Slot}, wo_Se E G H → va_S (en_A E) s₀.heap H locs → lx_has ls 3 [(0, 1, .ref x0), (1, 1, .int x1), (2, 1, .int x2)] → c ≤ mc → s ≤ ms → W p l e R s₀ m args below meth cd H locs c s (MQ below (va_Qv Post (wo_B E) (en_A E)) args s₀ mc ms (en_A E)) (F0 m 0 ls []) := by
  intro G c s x0 x1 x2 hw H locs ls hG hS hl hcc hss
  dsimp only [pq_Md_changed_0] at hw
  have hx := hC.1
  have hb := hC.2.1
  refine lv_aload_n hx hb dq_Md_changed_0 rfl (lx_at hl 0 rfl) ?_
  obtain ⟨t1, hw⟩ := hw
  refine wo_getR hC fq_Md_41 rfl hG t1 dq_Md_changed_1 (fun r2 e3 => ?_)
  replace hw := hw r2 e3
  refine lv_iload_n hx hb dq_Md_changed_4 rfl (lx_at hl 1 rfl) ?_
  obtain ⟨a4, rfl, hw⟩ := hw
  obtain ⟨t5, hw⟩ := hw
  obtain ⟨h6, hw⟩ := hw
  refine wo_iald (j := 2) hC rfl hG t5 h6 dq_Md_changed_5 ?_
  refine lv_iconst (v := (3 : Int32)) hx hb dq_Md_changed_6 rfl ?_
  refine lv_icmp_eq (tgt := 24) hx hb dq_Md_changed_7 rfl (fun h => ?_) (fun h => ?_)
  · replace hw := hw.1 h
    exact tq_Md_changed_24 hC hw hG hS (lx_sub hl [0, 2] rfl) hcc hss
  · replace hw := hw.2 h
    refine lv_iload_n hx hb dq_Md_changed_10 rfl (lx_at hl 2 rfl) ?_
    refine lv_sipush (v := (201 : Int32)) hx hb dq_Md_changed_11 rfl ?_
    refine lv_icmp_eq (tgt := 31) hx hb dq_Md_changed_14 rfl (fun h => ?_) (fun h => ?_)
    · replace hw := hw.1 h
      exact tq_Md_changed_31 hC hw hG hS (lx_sub hl [0, 1, 2] rfl) hcc hss
    · replace hw := hw.2 h
      refine lv_iload_n hx hb dq_Md_changed_17 rfl (lx_at hl 2 rfl) ?_
      refine lv_sipush (v := (204 : Int32)) hx hb dq_Md_changed_18 rfl ?_
      refine lv_icmp_eq (tgt := 31) hx hb dq_Md_changed_21 rfl (fun h => ?_) (fun h => ?_)
      · replace hw := hw.1 h
        exact tq_Md_changed_31 hC hw hG hS (lx_sub hl [0, 1, 2] rfl) hcc hss
      · replace hw := hw.2 h
        exact tq_Md_changed_24 hC hw hG hS (lx_sub hl [0, 2] rfl) hcc hss
set_option maxHeartbeats 4000000 in
theorem mq_Md_changed {l : Launch} {E : wo_E} {mc ms : Nat} {Post : wo_W → Prop} {G : wo_W} {x0 : Nat} {x1 : Int32} {x2 : Int32} (hw : pq_Md_changed E mc ms Post G x0 x1 x2) : Met l yq_Md_changed (Cond.code yq_Md_changed prog_14_method_43_code 3 ((Option.none : Option Jvm.ClassFile.FieldType)) :: vw_WG) { frames := 4, cells := mc, slots := ms, locals := 86 } (va_Pc [.ref x0, .int x1, .int x2] (wo_Ok E G)) (va_Qv Post (wo_B E) (en_A E)) mc ms (en_A E) := by
  unfold pq_Md_changed at hw
  exact wo_met [(1, .ref x0), (1, .int x1), (1, .int x2)] rfl (by decide) (fun q hq => by simp only [List.mem_cons, List.not_mem_nil, or_false] at hq; rcases hq with rfl | rfl | rfl <;> first | rfl | exact lx_cR _) (Nat.le_of_ble_eq_true rfl) (fun p e R s m args below meth cd ls hC hG hS hl => tq_Md_changed_0 hC hw hG hS (lx_sub hl [0, 1, 2] rfl) (Nat.zero_le _) (Nat.zero_le _))

theorem dq_Md_putBytes_0 : decode prog_14_method_24_code 0 = .ok (.iload_n 3, 1) := by decide +kernel
theorem dq_Md_putBytes_1 : decode prog_14_method_24_code 1 = .ok (.istore 5, 2) := by decide +kernel
theorem dq_Md_putBytes_3 : decode prog_14_method_24_code 3 = .ok (.iload 5, 2) := by decide +kernel
theorem dq_Md_putBytes_5 : decode prog_14_method_24_code 5 = .ok (.iload 4, 2) := by decide +kernel
theorem dq_Md_putBytes_7 : decode prog_14_method_24_code 7 = .ok (.if_icmp .ge 19, 3) := by decide +kernel
theorem dq_Md_putBytes_10 : decode prog_14_method_24_code 10 = .ok (.aload_n 0, 1) := by decide +kernel
theorem dq_Md_putBytes_11 : decode prog_14_method_24_code 11 = .ok (.lload_n 1, 1) := by decide +kernel
theorem dq_Md_putBytes_12 : decode prog_14_method_24_code 12 = .ok (.iload 5, 2) := by decide +kernel
theorem dq_Md_putBytes_14 : decode prog_14_method_24_code 14 = .ok (.invokestatic 254, 3) := by decide +kernel
theorem dq_Md_putBytes_17 : decode prog_14_method_24_code 17 = .ok (.invokevirtual 270, 3) := by decide +kernel
theorem dq_Md_putBytes_20 : decode prog_14_method_24_code 20 = .ok (.iinc 5 1, 3) := by decide +kernel
theorem dq_Md_putBytes_23 : decode prog_14_method_24_code 23 = .ok (.goto (-20), 3) := by decide +kernel
theorem dq_Md_putBytes_26 : decode prog_14_method_24_code 26 = .ok (.return_, 1) := by decide +kernel
set_option maxRecDepth 100000 in
def pq_Md_putBytes_3 (E : wo_E) (mc ms : Nat) (Post : wo_W → Prop) : Nat → wo_W → Nat → Nat → Nat → Int64 → Int32 → Int32 → Prop
  | 0 => fun _ _ _ _ _ _ _ => False
  | n + 1 => fun G c s x0 x1 x4 x5 => ((x4 ≤ x5 → Post G) ∧
  (¬ x4 ≤ x5 → ∃ mc1 ms2 : Nat, (c + mc1) ≤ mc ∧ (s + ms2) ≤ ms ∧ pq_Md_byteOf E mc1 ms2 (fun v4 G3 => 
    wo_ty G3 x0 = 15 ∧ ∃ mc6 ms7 : Nat, ((c + mc1) + mc6) ≤ mc ∧ ((s + ms2) + ms7) ≤ ms ∧ pq_Md_put E mc6 ms7 (fun G8 => 
      pq_Md_putBytes_3 E mc ms Post n G8 ((c + mc1) + mc6) ((s + ms2) + ms7) x0 x1 x4 (x5 + (1 : Int32))) G3 x0 v4) G x1 x5))
set_option maxRecDepth 100000 in
def pq_Md_putBytes_0 (E : wo_E) (mc ms : Nat) (Post : wo_W → Prop) (G : wo_W) (c s : Nat) (x0 : Nat) (x1 : Int64) (x3 : Int32) (x4 : Int32) : Prop := ∃ n1 : Nat, pq_Md_putBytes_3 E mc ms Post n1 G c s x0 x1 x4 x3
def pq_Md_putBytes (E : wo_E) (mc ms : Nat) (Post : wo_W → Prop) (G : wo_W) (x0 : Nat) (x1 : Int64) (x3 : Int32) (x4 : Int32) : Prop := pq_Md_putBytes_0 E mc ms Post G 0 0 x0 x1 x3 x4
set_option maxRecDepth 100000 in
set_option maxHeartbeats 4000000 in
theorem tq_Md_putBytes_3 {p : Program} {l : Launch} {e : Env} {R : Room} {s₀ : State} {m : MethodId} {args : Array Value} {below : List Frame} {meth : Method} {cd : Code} {E : wo_E} {mc ms : Nat} {Post : wo_W → Prop} (hC : wo_Cx E "EdgeCacheModel" prog_14_method_24_code 6 1 22 ((Option.none : Option Jvm.ClassFile.FieldType)) "putBytes" mc ms p R s₀ m args meth cd) : ∀ n : Nat, ∀ {G : wo_W} {c s : Nat} {x0 : Nat} {x1 : Int64} {x4 : Int32} {x5 : Int32}, pq_Md_putBytes_3 E mc ms Post n G c s x0 x1 x4 x5 → ∀ {H : Heap} {locs : List Loc} {ls : Array Slot}, wo_Se E G H → va_S (en_A E) s₀.heap H locs → lx_has ls 6 [(0, 1, .ref x0), (1, 2, .long x1), (4, 1, .int x4), (5, 1, .int x5)] → c ≤ mc → s ≤ ms → W p l e R s₀ m args below meth cd H locs c s (MQ below (va_Qv Post (wo_B E) (en_A E)) args s₀ mc ms (en_A E)) (F0 m 3 ls []) := by
  intro n
  induction n with
  | zero => intro G c s x0 x1 x4 x5 hw; exact hw.elim
  | succ n ih =>
    intro G c s x0 x1 x4 x5 hw H locs ls hG hS hl hcc hss
    dsimp only [pq_Md_putBytes_3] at hw
    have hx := hC.1
    have hb := hC.2.1
    refine lv_iload hx hb dq_Md_putBytes_3 (lx_at hl 3 rfl) ?_
    refine lv_iload hx hb dq_Md_putBytes_5 (lx_at hl 2 rfl) ?_
    refine lv_icmp_ge (tgt := 26) hx hb dq_Md_putBytes_7 rfl (fun h => ?_) (fun h => ?_)
    · replace hw := hw.1 h
      exact wo_vret hC hG hS hcc hss hw dq_Md_putBytes_26
    · replace hw := hw.2 h
      refine lv_aload_n hx hb dq_Md_putBytes_10 rfl (lx_at hl 0 rfl) ?_
      refine lv_lload_n hx hb dq_Md_putBytes_11 rfl (lx_at hl 1 rfl) ?_
      refine lv_iload hx hb dq_Md_putBytes_12 (lx_at hl 3 rfl) ?_
      obtain ⟨mc1, ms2, hc1, hs1, hw⟩ := hw
      refine va_calli (wo_runS hC lq_Md_254 (mq_Md_byteOf hw) hG hS rfl (lx_sz hl) rfl (lx_rm (Nat.le_of_ble_eq_true rfl)) (by decide) dq_Md_putBytes_14 ⟨hc1, hs1⟩) hS (fun _ _ h => h) (fun _ h => h) (fun v4 G3 t H locs ht hvm hw' hB _ _ hS => ?_)
      clear hw
      have hw := hw'
      clear hw'
      replace hG := wo_bk ht hB
      replace hcc := hc1
      replace hss := hs1
      obtain ⟨t5, hw⟩ := hw
      obtain ⟨mc6, ms7, hc1, hs1, hw⟩ := hw
      refine va_callv (wo_runV hC lq_Md_270 (mq_Md_put hw) hG hS t5 rfl (lx_sz hl) rfl (Nat.zero_le _) (by decide) dq_Md_putBytes_17 ⟨hc1, hs1⟩) hS (fun _ _ h => h) (fun _ h => h) (fun G8 t H locs ht hvm hw' hB _ _ hS => ?_)
      clear hw
      have hw := hw'
      clear hw'
      replace hG := wo_bk ht hB
      replace hcc := hc1
      replace hss := hs1
      refine lx_iinc (k := 3) (v := (x5 + (1 : Int32))) (lv' := [(5, 1, .int (x5 + (1 : Int32))), (0, 1, .ref x0), (1, 2, .long x1), (4, 1, .int x4)]) hx hb dq_Md_putBytes_20 hl rfl rfl (by decide) rfl (fun ls hl' => ?_)
      clear hl
      have hl := hl'
      clear hl'
      refine lv_goto (tgt := 3) hx hb dq_Md_putBytes_23 rfl ?_
      exact ih hw hG hS (lx_sub hl [1, 2, 3, 0] rfl) hcc hss
set_option maxRecDepth 100000 in
set_option maxHeartbeats 4000000 in
theorem tq_Md_putBytes_0 {p : Program} {l : Launch} {e : Env} {R : Room} {s₀ : State} {m : MethodId} {args : Array Value} {below : List Frame} {meth : Method} {cd : Code} {E : wo_E} {mc ms : Nat} {Post : wo_W → Prop} (hC : wo_Cx E "EdgeCacheModel" prog_14_method_24_code 6 1 22 ((Option.none : Option Jvm.ClassFile.FieldType)) "putBytes" mc ms p R s₀ m args meth cd) : ∀ {G : wo_W} {c s : Nat} {x0 : Nat} {x1 : Int64} {x3 : Int32} {x4 : Int32}, pq_Md_putBytes_0 E mc ms Post G c s x0 x1 x3 x4 → ∀ {H : Heap} {locs : List Loc} {ls : Array Slot}, wo_Se E G H → va_S (en_A E) s₀.heap H locs → lx_has ls 6 [(0, 1, .ref x0), (1, 2, .long x1), (3, 1, .int x3), (4, 1, .int x4)] → c ≤ mc → s ≤ ms → W p l e R s₀ m args below meth cd H locs c s (MQ below (va_Qv Post (wo_B E) (en_A E)) args s₀ mc ms (en_A E)) (F0 m 0 ls []) := by
  intro G c s x0 x1 x3 x4 hw H locs ls hG hS hl hcc hss
  dsimp only [pq_Md_putBytes_0] at hw
  have hx := hC.1
  have hb := hC.2.1
  refine lv_iload_n hx hb dq_Md_putBytes_0 rfl (lx_at hl 2 rfl) ?_
  refine lx_istore (lv' := [(5, 1, .int x3), (0, 1, .ref x0), (1, 2, .long x1), (3, 1, .int x3), (4, 1, .int x4)]) hx hb dq_Md_putBytes_1 hl (by decide) rfl (fun ls hl' => ?_)
  clear hl
  have hl := hl'
  clear hl'
  obtain ⟨n1, hw⟩ := hw
  exact tq_Md_putBytes_3 hC n1 hw hG hS (lx_sub hl [1, 2, 4, 0] rfl) hcc hss
set_option maxHeartbeats 4000000 in
theorem mq_Md_putBytes {l : Launch} {E : wo_E} {mc ms : Nat} {Post : wo_W → Prop} {G : wo_W} {x0 : Nat} {x1 : Int64} {x3 : Int32} {x4 : Int32} (hw : pq_Md_putBytes E mc ms Post G x0 x1 x3 x4) : Met l yq_Md_putBytes (Cond.code yq_Md_putBytes prog_14_method_24_code 6 ((Option.none : Option Jvm.ClassFile.FieldType)) :: vw_WG) { frames := 1, cells := mc, slots := ms, locals := 22 } (va_Pc [.ref x0, .long x1, .int x3, .int x4] (wo_Ok E G)) (va_Qv Post (wo_B E) (en_A E)) mc ms (en_A E) := by
  unfold pq_Md_putBytes at hw
  exact wo_met [(1, .ref x0), (2, .long x1), (1, .int x3), (1, .int x4)] rfl (by decide) (fun q hq => by simp only [List.mem_cons, List.not_mem_nil, or_false] at hq; rcases hq with rfl | rfl | rfl | rfl <;> first | rfl | exact lx_cR _) (Nat.le_of_ble_eq_true rfl) (fun p e R s m args below meth cd ls hC hG hS hl => tq_Md_putBytes_0 hC hw hG hS (lx_sub hl [0, 1, 2, 3] rfl) (Nat.zero_le _) (Nat.zero_le _))

theorem dq_Md_head_0 : decode prog_14_method_29_code 0 = .ok (.aload_n 0, 1) := by decide +kernel
theorem dq_Md_head_1 : decode prog_14_method_29_code 1 = .ok (.iload_n 1, 1) := by decide +kernel
theorem dq_Md_head_2 : decode prog_14_method_29_code 2 = .ok (.invokevirtual 280, 3) := by decide +kernel
theorem dq_Md_head_5 : decode prog_14_method_29_code 5 = .ok (.aload_n 0, 1) := by decide +kernel
theorem dq_Md_head_6 : decode prog_14_method_29_code 6 = .ok (.bipush 69, 2) := by decide +kernel
theorem dq_Md_head_8 : decode prog_14_method_29_code 8 = .ok (.aload_n 0, 1) := by decide +kernel
theorem dq_Md_head_9 : decode prog_14_method_29_code 9 = .ok (.getfield 108, 3) := by decide +kernel
theorem dq_Md_head_12 : decode prog_14_method_29_code 12 = .ok (.iload_n 2, 1) := by decide +kernel
theorem dq_Md_head_13 : decode prog_14_method_29_code 13 = .ok (.iaload, 1) := by decide +kernel
theorem dq_Md_head_14 : decode prog_14_method_29_code 14 = .ok (.invokevirtual 283, 3) := by decide +kernel
theorem dq_Md_head_17 : decode prog_14_method_29_code 17 = .ok (.aload_n 0, 1) := by decide +kernel
theorem dq_Md_head_18 : decode prog_14_method_29_code 18 = .ok (.bipush 75, 2) := by decide +kernel
theorem dq_Md_head_20 : decode prog_14_method_29_code 20 = .ok (.invokevirtual 274, 3) := by decide +kernel
theorem dq_Md_head_23 : decode prog_14_method_29_code 23 = .ok (.aload_n 0, 1) := by decide +kernel
theorem dq_Md_head_24 : decode prog_14_method_29_code 24 = .ok (.aload_n 0, 1) := by decide +kernel
theorem dq_Md_head_25 : decode prog_14_method_29_code 25 = .ok (.getfield 99, 3) := by decide +kernel
theorem dq_Md_head_28 : decode prog_14_method_29_code 28 = .ok (.iload_n 2, 1) := by decide +kernel
theorem dq_Md_head_29 : decode prog_14_method_29_code 29 = .ok (.iaload, 1) := by decide +kernel
theorem dq_Md_head_30 : decode prog_14_method_29_code 30 = .ok (.invokevirtual 270, 3) := by decide +kernel
theorem dq_Md_head_33 : decode prog_14_method_29_code 33 = .ok (.aload_n 0, 1) := by decide +kernel
theorem dq_Md_head_34 : decode prog_14_method_29_code 34 = .ok (.bipush 10, 2) := by decide +kernel
theorem dq_Md_head_36 : decode prog_14_method_29_code 36 = .ok (.invokevirtual 270, 3) := by decide +kernel
theorem dq_Md_head_39 : decode prog_14_method_29_code 39 = .ok (.aload_n 0, 1) := by decide +kernel
theorem dq_Md_head_40 : decode prog_14_method_29_code 40 = .ok (.getfield 117, 3) := by decide +kernel
theorem dq_Md_head_43 : decode prog_14_method_29_code 43 = .ok (.iload_n 2, 1) := by decide +kernel
theorem dq_Md_head_44 : decode prog_14_method_29_code 44 = .ok (.baload, 1) := by decide +kernel
theorem dq_Md_head_45 : decode prog_14_method_29_code 45 = .ok (.ifCond .eq 21, 3) := by decide +kernel
theorem dq_Md_head_48 : decode prog_14_method_29_code 48 = .ok (.aload_n 0, 1) := by decide +kernel
theorem dq_Md_head_49 : decode prog_14_method_29_code 49 = .ok (.bipush 89, 2) := by decide +kernel
theorem dq_Md_head_51 : decode prog_14_method_29_code 51 = .ok (.invokevirtual 274, 3) := by decide +kernel
theorem dq_Md_head_54 : decode prog_14_method_29_code 54 = .ok (.aload_n 0, 1) := by decide +kernel
theorem dq_Md_head_55 : decode prog_14_method_29_code 55 = .ok (.bipush 86, 2) := by decide +kernel
theorem dq_Md_head_57 : decode prog_14_method_29_code 57 = .ok (.invokevirtual 270, 3) := by decide +kernel
theorem dq_Md_head_60 : decode prog_14_method_29_code 60 = .ok (.aload_n 0, 1) := by decide +kernel
theorem dq_Md_head_61 : decode prog_14_method_29_code 61 = .ok (.bipush 10, 2) := by decide +kernel
theorem dq_Md_head_63 : decode prog_14_method_29_code 63 = .ok (.invokevirtual 270, 3) := by decide +kernel
theorem dq_Md_head_66 : decode prog_14_method_29_code 66 = .ok (.aload_n 0, 1) := by decide +kernel
theorem dq_Md_head_67 : decode prog_14_method_29_code 67 = .ok (.getfield 114, 3) := by decide +kernel
theorem dq_Md_head_70 : decode prog_14_method_29_code 70 = .ok (.iload_n 2, 1) := by decide +kernel
theorem dq_Md_head_71 : decode prog_14_method_29_code 71 = .ok (.iaload, 1) := by decide +kernel
theorem dq_Md_head_72 : decode prog_14_method_29_code 72 = .ok (.ifCond .le 32, 3) := by decide +kernel
theorem dq_Md_head_75 : decode prog_14_method_29_code 75 = .ok (.aload_n 0, 1) := by decide +kernel
theorem dq_Md_head_76 : decode prog_14_method_29_code 76 = .ok (.bipush 80, 2) := by decide +kernel
theorem dq_Md_head_78 : decode prog_14_method_29_code 78 = .ok (.invokevirtual 274, 3) := by decide +kernel
theorem dq_Md_head_81 : decode prog_14_method_29_code 81 = .ok (.aload_n 0, 1) := by decide +kernel
theorem dq_Md_head_82 : decode prog_14_method_29_code 82 = .ok (.aload_n 0, 1) := by decide +kernel
theorem dq_Md_head_83 : decode prog_14_method_29_code 83 = .ok (.getfield 111, 3) := by decide +kernel
theorem dq_Md_head_86 : decode prog_14_method_29_code 86 = .ok (.iload_n 2, 1) := by decide +kernel
theorem dq_Md_head_87 : decode prog_14_method_29_code 87 = .ok (.laload, 1) := by decide +kernel
theorem dq_Md_head_88 : decode prog_14_method_29_code 88 = .ok (.iconst 0, 1) := by decide +kernel
theorem dq_Md_head_89 : decode prog_14_method_29_code 89 = .ok (.aload_n 0, 1) := by decide +kernel
theorem dq_Md_head_90 : decode prog_14_method_29_code 90 = .ok (.getfield 114, 3) := by decide +kernel
theorem dq_Md_head_93 : decode prog_14_method_29_code 93 = .ok (.iload_n 2, 1) := by decide +kernel
theorem dq_Md_head_94 : decode prog_14_method_29_code 94 = .ok (.iaload, 1) := by decide +kernel
theorem dq_Md_head_95 : decode prog_14_method_29_code 95 = .ok (.invokevirtual 286, 3) := by decide +kernel
theorem dq_Md_head_98 : decode prog_14_method_29_code 98 = .ok (.aload_n 0, 1) := by decide +kernel
theorem dq_Md_head_99 : decode prog_14_method_29_code 99 = .ok (.bipush 10, 2) := by decide +kernel
theorem dq_Md_head_101 : decode prog_14_method_29_code 101 = .ok (.invokevirtual 270, 3) := by decide +kernel
theorem dq_Md_head_104 : decode prog_14_method_29_code 104 = .ok (.iload_n 3, 1) := by decide +kernel
theorem dq_Md_head_105 : decode prog_14_method_29_code 105 = .ok (.ifCond .lt 10, 3) := by decide +kernel
theorem dq_Md_head_108 : decode prog_14_method_29_code 108 = .ok (.aload_n 0, 1) := by decide +kernel
theorem dq_Md_head_109 : decode prog_14_method_29_code 109 = .ok (.bipush 65, 2) := by decide +kernel
theorem dq_Md_head_111 : decode prog_14_method_29_code 111 = .ok (.iload_n 3, 1) := by decide +kernel
theorem dq_Md_head_112 : decode prog_14_method_29_code 112 = .ok (.invokevirtual 283, 3) := by decide +kernel
theorem dq_Md_head_115 : decode prog_14_method_29_code 115 = .ok (.return_, 1) := by decide +kernel
set_option maxRecDepth 100000 in
def pq_Md_head_115 (E : wo_E) (mc ms : Nat) (Post : wo_W → Prop) (G : wo_W) (c s : Nat) : Prop := Post G
set_option maxRecDepth 100000 in
def pq_Md_head_104 (E : wo_E) (mc ms : Nat) (Post : wo_W → Prop) (G : wo_W) (c s : Nat) (x0 : Nat) (x3 : Int32) : Prop := ((x3 < (0 : Int32) → pq_Md_head_115 E mc ms Post G c s) ∧
  (¬ x3 < (0 : Int32) → wo_ty G x0 = 15 ∧ ∃ mc2 ms3 : Nat, (c + mc2) ≤ mc ∧ (s + ms3) ≤ ms ∧ pq_Md_putLine E mc2 ms3 (fun G4 => 
    pq_Md_head_115 E mc ms Post G4 (c + mc2) (s + ms3)) G x0 (65 : Int32) x3))
set_option maxRecDepth 100000 in
def pq_Md_head_66 (E : wo_E) (mc ms : Nat) (Post : wo_W → Prop) (G : wo_W) (c s : Nat) (x0 : Nat) (x2 : Int32) (x3 : Int32) : Prop := wo_ty G x0 = 15 ∧ ∀ r2 : Option Nat, r2 = wo_gr G 934 x0 → ∃ a4 : Nat, r2 = some a4 ∧ wo_ty G a4 = 66 ∧ vp_in x2 (wo_len G a4) ∧ (((wo_ei G a4 x2.toNatClampNeg) ≤ (0 : Int32) → pq_Md_head_104 E mc ms Post G c s x0 x3) ∧
  (¬ (wo_ei G a4 x2.toNatClampNeg) ≤ (0 : Int32) → ∃ mc7 ms8 : Nat, (c + mc7) ≤ mc ∧ (s + ms8) ≤ ms ∧ pq_Md_name E mc7 ms8 (fun G9 => 
    wo_ty G9 x0 = 15 ∧ ∀ r11 : Option Nat, r11 = wo_gr G9 933 x0 → ∃ a13 : Nat, r11 = some a13 ∧ wo_ty G9 a13 = 73 ∧ vp_in x2 (wo_len G9 a13) ∧ ∀ r16 : Option Nat, r16 = wo_gr G9 934 x0 → ∃ a18 : Nat, r16 = some a18 ∧ wo_ty G9 a18 = 66 ∧ vp_in x2 (wo_len G9 a18) ∧ ∃ mc21 ms22 : Nat, ((c + mc7) + mc21) ≤ mc ∧ ((s + ms8) + ms22) ≤ ms ∧ pq_Md_putBytes E mc21 ms22 (fun G23 => 
      wo_ty G23 x0 = 15 ∧ ∃ mc25 ms26 : Nat, (((c + mc7) + mc21) + mc25) ≤ mc ∧ (((s + ms8) + ms22) + ms26) ≤ ms ∧ pq_Md_put E mc25 ms26 (fun G27 => 
        pq_Md_head_104 E mc ms Post G27 (((c + mc7) + mc21) + mc25) (((s + ms8) + ms22) + ms26) x0 x3) G23 x0 (10 : Int32)) G9 x0 (wo_el G9 a13 x2.toNatClampNeg) (0 : Int32) (wo_ei G9 a18 x2.toNatClampNeg)) G x0 (80 : Int32)))
set_option maxRecDepth 100000 in
def pq_Md_head_0 (E : wo_E) (mc ms : Nat) (Post : wo_W → Prop) (G : wo_W) (c s : Nat) (x0 : Nat) (x1 : Int32) (x2 : Int32) (x3 : Int32) : Prop := wo_ty G x0 = 15 ∧ ∃ mc2 ms3 : Nat, (c + mc2) ≤ mc ∧ (s + ms3) ≤ ms ∧ pq_Md_begin E mc2 ms3 (fun G4 => 
  wo_ty G4 x0 = 15 ∧ ∀ r6 : Option Nat, r6 = wo_gr G4 932 x0 → ∃ a8 : Nat, r6 = some a8 ∧ wo_ty G4 a8 = 66 ∧ vp_in x2 (wo_len G4 a8) ∧ ∃ mc11 ms12 : Nat, ((c + mc2) + mc11) ≤ mc ∧ ((s + ms3) + ms12) ≤ ms ∧ pq_Md_putLine E mc11 ms12 (fun G13 => 
    wo_ty G13 x0 = 15 ∧ ∃ mc15 ms16 : Nat, (((c + mc2) + mc11) + mc15) ≤ mc ∧ (((s + ms3) + ms12) + ms16) ≤ ms ∧ pq_Md_name E mc15 ms16 (fun G17 => 
      wo_ty G17 x0 = 15 ∧ ∀ r19 : Option Nat, r19 = wo_gr G17 929 x0 → ∃ a21 : Nat, r19 = some a21 ∧ wo_ty G17 a21 = 66 ∧ vp_in x2 (wo_len G17 a21) ∧ ∃ mc24 ms25 : Nat, ((((c + mc2) + mc11) + mc15) + mc24) ≤ mc ∧ ((((s + ms3) + ms12) + ms16) + ms25) ≤ ms ∧ pq_Md_put E mc24 ms25 (fun G26 => 
        wo_ty G26 x0 = 15 ∧ ∃ mc28 ms29 : Nat, (((((c + mc2) + mc11) + mc15) + mc24) + mc28) ≤ mc ∧ (((((s + ms3) + ms12) + ms16) + ms25) + ms29) ≤ ms ∧ pq_Md_put E mc28 ms29 (fun G30 => 
          wo_ty G30 x0 = 15 ∧ ∀ r32 : Option Nat, r32 = wo_gr G30 935 x0 → ∃ a34 : Nat, r32 = some a34 ∧ wo_ty G30 a34 = 72 ∧ vp_in x2 (wo_len G30 a34) ∧ (((wo_ei G30 a34 x2.toNatClampNeg) = (0 : Int32) → pq_Md_head_66 E mc ms Post G30 (((((c + mc2) + mc11) + mc15) + mc24) + mc28) (((((s + ms3) + ms12) + ms16) + ms25) + ms29) x0 x2 x3) ∧
            (¬ (wo_ei G30 a34 x2.toNatClampNeg) = (0 : Int32) → ∃ mc37 ms38 : Nat, ((((((c + mc2) + mc11) + mc15) + mc24) + mc28) + mc37) ≤ mc ∧ ((((((s + ms3) + ms12) + ms16) + ms25) + ms29) + ms38) ≤ ms ∧ pq_Md_name E mc37 ms38 (fun G39 => 
              wo_ty G39 x0 = 15 ∧ ∃ mc41 ms42 : Nat, (((((((c + mc2) + mc11) + mc15) + mc24) + mc28) + mc37) + mc41) ≤ mc ∧ (((((((s + ms3) + ms12) + ms16) + ms25) + ms29) + ms38) + ms42) ≤ ms ∧ pq_Md_put E mc41 ms42 (fun G43 => 
                wo_ty G43 x0 = 15 ∧ ∃ mc45 ms46 : Nat, ((((((((c + mc2) + mc11) + mc15) + mc24) + mc28) + mc37) + mc41) + mc45) ≤ mc ∧ ((((((((s + ms3) + ms12) + ms16) + ms25) + ms29) + ms38) + ms42) + ms46) ≤ ms ∧ pq_Md_put E mc45 ms46 (fun G47 => 
                  pq_Md_head_66 E mc ms Post G47 ((((((((c + mc2) + mc11) + mc15) + mc24) + mc28) + mc37) + mc41) + mc45) ((((((((s + ms3) + ms12) + ms16) + ms25) + ms29) + ms38) + ms42) + ms46) x0 x2 x3) G43 x0 (10 : Int32)) G39 x0 (86 : Int32)) G30 x0 (89 : Int32)))) G26 x0 (10 : Int32)) G17 x0 (wo_ei G17 a21 x2.toNatClampNeg)) G13 x0 (75 : Int32)) G4 x0 (69 : Int32) (wo_ei G4 a8 x2.toNatClampNeg)) G x0 x1
def pq_Md_head (E : wo_E) (mc ms : Nat) (Post : wo_W → Prop) (G : wo_W) (x0 : Nat) (x1 : Int32) (x2 : Int32) (x3 : Int32) : Prop := pq_Md_head_0 E mc ms Post G 0 0 x0 x1 x2 x3
set_option maxRecDepth 100000 in
set_option maxHeartbeats 4000000 in
theorem tq_Md_head_115 {p : Program} {l : Launch} {e : Env} {R : Room} {s₀ : State} {m : MethodId} {args : Array Value} {below : List Frame} {meth : Method} {cd : Code} {E : wo_E} {mc ms : Nat} {Post : wo_W → Prop} (hC : wo_Cx E "EdgeCacheModel" prog_14_method_29_code 4 3 65 ((Option.none : Option Jvm.ClassFile.FieldType)) "head" mc ms p R s₀ m args meth cd) : ∀ {G : wo_W} {c s : Nat}, pq_Md_head_115 E mc ms Post G c s → ∀ {H : Heap} {locs : List Loc} {ls : Array Slot}, wo_Se E G H → va_S (en_A E) s₀.heap H locs → lx_has ls 4 [] → c ≤ mc → s ≤ ms → W p l e R s₀ m args below meth cd H locs c s (MQ below (va_Qv Post (wo_B E) (en_A E)) args s₀ mc ms (en_A E)) (F0 m 115 ls []) := by
  intro G c s hw H locs ls hG hS hl hcc hss
  dsimp only [pq_Md_head_115] at hw
  have hx := hC.1
  have hb := hC.2.1
  exact wo_vret hC hG hS hcc hss hw dq_Md_head_115
set_option maxRecDepth 100000 in
set_option maxHeartbeats 4000000 in
theorem tq_Md_head_104 {p : Program} {l : Launch} {e : Env} {R : Room} {s₀ : State} {m : MethodId} {args : Array Value} {below : List Frame} {meth : Method} {cd : Code} {E : wo_E} {mc ms : Nat} {Post : wo_W → Prop} (hC : wo_Cx E "EdgeCacheModel" prog_14_method_29_code 4 3 65 ((Option.none : Option Jvm.ClassFile.FieldType)) "head" mc ms p R s₀ m args meth cd) : ∀ {G : wo_W} {c s : Nat} {x0 : Nat} {x3 : Int32}, pq_Md_head_104 E mc ms Post G c s x0 x3 → ∀ {H : Heap} {locs : List Loc} {ls : Array Slot}, wo_Se E G H → va_S (en_A E) s₀.heap H locs → lx_has ls 4 [(0, 1, .ref x0), (3, 1, .int x3)] → c ≤ mc → s ≤ ms → W p l e R s₀ m args below meth cd H locs c s (MQ below (va_Qv Post (wo_B E) (en_A E)) args s₀ mc ms (en_A E)) (F0 m 104 ls []) := by
  intro G c s x0 x3 hw H locs ls hG hS hl hcc hss
  dsimp only [pq_Md_head_104] at hw
  have hx := hC.1
  have hb := hC.2.1
  refine lv_iload_n hx hb dq_Md_head_104 rfl (lx_at hl 1 rfl) ?_
  refine lv_if_lt (tgt := 115) hx hb dq_Md_head_105 rfl (fun h => ?_) (fun h => ?_)
  · replace hw := hw.1 h
    exact tq_Md_head_115 hC hw hG hS (lx_sub hl [] rfl) hcc hss
  · replace hw := hw.2 h
    refine lv_aload_n hx hb dq_Md_head_108 rfl (lx_at hl 0 rfl) ?_
    refine lv_bipush (v := (65 : Int32)) hx hb dq_Md_head_109 rfl ?_
    refine lv_iload_n hx hb dq_Md_head_111 rfl (lx_at hl 1 rfl) ?_
    obtain ⟨t1, hw⟩ := hw
    obtain ⟨mc2, ms3, hc1, hs1, hw⟩ := hw
    refine va_callv (wo_runV hC lq_Md_283 (mq_Md_putLine hw) hG hS t1 rfl (lx_sz hl) rfl (Nat.zero_le _) (by decide) dq_Md_head_112 ⟨hc1, hs1⟩) hS (fun _ _ h => h) (fun _ h => h) (fun G4 t H locs ht hvm hw' hB _ _ hS => ?_)
    clear hw
    have hw := hw'
    clear hw'
    replace hG := wo_bk ht hB
    replace hcc := hc1
    replace hss := hs1
    exact tq_Md_head_115 hC hw hG hS (lx_sub hl [] rfl) hcc hss
set_option maxRecDepth 100000 in
set_option maxHeartbeats 4000000 in
theorem tq_Md_head_66 {p : Program} {l : Launch} {e : Env} {R : Room} {s₀ : State} {m : MethodId} {args : Array Value} {below : List Frame} {meth : Method} {cd : Code} {E : wo_E} {mc ms : Nat} {Post : wo_W → Prop} (hC : wo_Cx E "EdgeCacheModel" prog_14_method_29_code 4 3 65 ((Option.none : Option Jvm.ClassFile.FieldType)) "head" mc ms p R s₀ m args meth cd) : ∀ {G : wo_W} {c s : Nat} {x0 : Nat} {x2 : Int32} {x3 : Int32}, pq_Md_head_66 E mc ms Post G c s x0 x2 x3 → ∀ {H : Heap} {locs : List Loc} {ls : Array Slot}, wo_Se E G H → va_S (en_A E) s₀.heap H locs → lx_has ls 4 [(0, 1, .ref x0), (2, 1, .int x2), (3, 1, .int x3)] → c ≤ mc → s ≤ ms → W p l e R s₀ m args below meth cd H locs c s (MQ below (va_Qv Post (wo_B E) (en_A E)) args s₀ mc ms (en_A E)) (F0 m 66 ls []) := by
  intro G c s x0 x2 x3 hw H locs ls hG hS hl hcc hss
  dsimp only [pq_Md_head_66] at hw
  have hx := hC.1
  have hb := hC.2.1
  refine lv_aload_n hx hb dq_Md_head_66 rfl (lx_at hl 0 rfl) ?_
  obtain ⟨t1, hw⟩ := hw
  refine wo_getR hC fq_Md_114 rfl hG t1 dq_Md_head_67 (fun r2 e3 => ?_)
  replace hw := hw r2 e3
  refine lv_iload_n hx hb dq_Md_head_70 rfl (lx_at hl 1 rfl) ?_
  obtain ⟨a4, rfl, hw⟩ := hw
  obtain ⟨t5, hw⟩ := hw
  obtain ⟨h6, hw⟩ := hw
  refine wo_iald (j := 2) hC rfl hG t5 h6 dq_Md_head_71 ?_
  refine lv_if_le (tgt := 104) hx hb dq_Md_head_72 rfl (fun h => ?_) (fun h => ?_)
  · replace hw := hw.1 h
    exact tq_Md_head_104 hC hw hG hS (lx_sub hl [0, 2] rfl) hcc hss
  · replace hw := hw.2 h
    refine lv_aload_n hx hb dq_Md_head_75 rfl (lx_at hl 0 rfl) ?_
    refine lv_bipush (v := (80 : Int32)) hx hb dq_Md_head_76 rfl ?_
    obtain ⟨mc7, ms8, hc1, hs1, hw⟩ := hw
    refine va_callv (wo_runV hC lq_Md_274 (mq_Md_name hw) hG hS t1 rfl (lx_sz hl) rfl (Nat.zero_le _) (by decide) dq_Md_head_78 ⟨hc1, hs1⟩) hS (fun _ _ h => h) (fun _ h => h) (fun G9 t H locs ht hvm hw' hB _ _ hS => ?_)
    clear hw
    have hw := hw'
    clear hw'
    replace hG := wo_bk ht hB
    replace hcc := hc1
    replace hss := hs1
    refine lv_aload_n hx hb dq_Md_head_81 rfl (lx_at hl 0 rfl) ?_
    refine lv_aload_n hx hb dq_Md_head_82 rfl (lx_at hl 0 rfl) ?_
    obtain ⟨t10, hw⟩ := hw
    refine wo_getR hC fq_Md_111 rfl hG t10 dq_Md_head_83 (fun r11 e12 => ?_)
    replace hw := hw r11 e12
    refine lv_iload_n hx hb dq_Md_head_86 rfl (lx_at hl 1 rfl) ?_
    obtain ⟨a13, rfl, hw⟩ := hw
    obtain ⟨t14, hw⟩ := hw
    obtain ⟨h15, hw⟩ := hw
    refine wo_lald (j := 9) hC rfl hG t14 h15 dq_Md_head_87 ?_
    refine lv_iconst (v := (0 : Int32)) hx hb dq_Md_head_88 rfl ?_
    refine lv_aload_n hx hb dq_Md_head_89 rfl (lx_at hl 0 rfl) ?_
    refine wo_getR hC fq_Md_114 rfl hG t10 dq_Md_head_90 (fun r16 e17 => ?_)
    replace hw := hw r16 e17
    refine lv_iload_n hx hb dq_Md_head_93 rfl (lx_at hl 1 rfl) ?_
    obtain ⟨a18, rfl, hw⟩ := hw
    obtain ⟨t19, hw⟩ := hw
    obtain ⟨h20, hw⟩ := hw
    refine wo_iald (j := 2) hC rfl hG t19 h20 dq_Md_head_94 ?_
    obtain ⟨mc21, ms22, hc1, hs1, hw⟩ := hw
    refine va_callv (wo_runV hC lq_Md_286 (mq_Md_putBytes hw) hG hS t10 rfl (lx_sz hl) rfl (Nat.zero_le _) (by decide) dq_Md_head_95 ⟨hc1, hs1⟩) hS (fun _ _ h => h) (fun _ h => h) (fun G23 t H locs ht hvm hw' hB _ _ hS => ?_)
    clear hw
    have hw := hw'
    clear hw'
    replace hG := wo_bk ht hB
    replace hcc := hc1
    replace hss := hs1
    refine lv_aload_n hx hb dq_Md_head_98 rfl (lx_at hl 0 rfl) ?_
    refine lv_bipush (v := (10 : Int32)) hx hb dq_Md_head_99 rfl ?_
    obtain ⟨t24, hw⟩ := hw
    obtain ⟨mc25, ms26, hc1, hs1, hw⟩ := hw
    refine va_callv (wo_runV hC lq_Md_270 (mq_Md_put hw) hG hS t24 rfl (lx_sz hl) rfl (Nat.zero_le _) (by decide) dq_Md_head_101 ⟨hc1, hs1⟩) hS (fun _ _ h => h) (fun _ h => h) (fun G27 t H locs ht hvm hw' hB _ _ hS => ?_)
    clear hw
    have hw := hw'
    clear hw'
    replace hG := wo_bk ht hB
    replace hcc := hc1
    replace hss := hs1
    exact tq_Md_head_104 hC hw hG hS (lx_sub hl [0, 2] rfl) hcc hss
set_option maxRecDepth 100000 in
set_option maxHeartbeats 4000000 in
theorem tq_Md_head_0 {p : Program} {l : Launch} {e : Env} {R : Room} {s₀ : State} {m : MethodId} {args : Array Value} {below : List Frame} {meth : Method} {cd : Code} {E : wo_E} {mc ms : Nat} {Post : wo_W → Prop} (hC : wo_Cx E "EdgeCacheModel" prog_14_method_29_code 4 3 65 ((Option.none : Option Jvm.ClassFile.FieldType)) "head" mc ms p R s₀ m args meth cd) : ∀ {G : wo_W} {c s : Nat} {x0 : Nat} {x1 : Int32} {x2 : Int32} {x3 : Int32}, pq_Md_head_0 E mc ms Post G c s x0 x1 x2 x3 → ∀ {H : Heap} {locs : List Loc} {ls : Array Slot}, wo_Se E G H → va_S (en_A E) s₀.heap H locs → lx_has ls 4 [(0, 1, .ref x0), (1, 1, .int x1), (2, 1, .int x2), (3, 1, .int x3)] → c ≤ mc → s ≤ ms → W p l e R s₀ m args below meth cd H locs c s (MQ below (va_Qv Post (wo_B E) (en_A E)) args s₀ mc ms (en_A E)) (F0 m 0 ls []) := by
  intro G c s x0 x1 x2 x3 hw H locs ls hG hS hl hcc hss
  dsimp only [pq_Md_head_0] at hw
  have hx := hC.1
  have hb := hC.2.1
  refine lv_aload_n hx hb dq_Md_head_0 rfl (lx_at hl 0 rfl) ?_
  refine lv_iload_n hx hb dq_Md_head_1 rfl (lx_at hl 1 rfl) ?_
  obtain ⟨t1, hw⟩ := hw
  obtain ⟨mc2, ms3, hc1, hs1, hw⟩ := hw
  refine va_callv (wo_runV hC lq_Md_280 (mq_Md_begin hw) hG hS t1 rfl (lx_sz hl) rfl (Nat.zero_le _) (by decide) dq_Md_head_2 ⟨hc1, hs1⟩) hS (fun _ _ h => h) (fun _ h => h) (fun G4 t H locs ht hvm hw' hB _ _ hS => ?_)
  clear hw
  have hw := hw'
  clear hw'
  replace hG := wo_bk ht hB
  replace hcc := hc1
  replace hss := hs1
  refine lv_aload_n hx hb dq_Md_head_5 rfl (lx_at hl 0 rfl) ?_
  refine lv_bipush (v := (69 : Int32)) hx hb dq_Md_head_6 rfl ?_
  refine lv_aload_n hx hb dq_Md_head_8 rfl (lx_at hl 0 rfl) ?_
  obtain ⟨t5, hw⟩ := hw
  refine wo_getR hC fq_Md_108 rfl hG t5 dq_Md_head_9 (fun r6 e7 => ?_)
  replace hw := hw r6 e7
  refine lv_iload_n hx hb dq_Md_head_12 rfl (lx_at hl 2 rfl) ?_
  obtain ⟨a8, rfl, hw⟩ := hw
  obtain ⟨t9, hw⟩ := hw
  obtain ⟨h10, hw⟩ := hw
  refine wo_iald (j := 2) hC rfl hG t9 h10 dq_Md_head_13 ?_
  obtain ⟨mc11, ms12, hc1, hs1, hw⟩ := hw
  refine va_callv (wo_runV hC lq_Md_283 (mq_Md_putLine hw) hG hS t5 rfl (lx_sz hl) rfl (Nat.zero_le _) (by decide) dq_Md_head_14 ⟨hc1, hs1⟩) hS (fun _ _ h => h) (fun _ h => h) (fun G13 t H locs ht hvm hw' hB _ _ hS => ?_)
  clear hw
  have hw := hw'
  clear hw'
  replace hG := wo_bk ht hB
  replace hcc := hc1
  replace hss := hs1
  refine lv_aload_n hx hb dq_Md_head_17 rfl (lx_at hl 0 rfl) ?_
  refine lv_bipush (v := (75 : Int32)) hx hb dq_Md_head_18 rfl ?_
  obtain ⟨t14, hw⟩ := hw
  obtain ⟨mc15, ms16, hc1, hs1, hw⟩ := hw
  refine va_callv (wo_runV hC lq_Md_274 (mq_Md_name hw) hG hS t14 rfl (lx_sz hl) rfl (Nat.zero_le _) (by decide) dq_Md_head_20 ⟨hc1, hs1⟩) hS (fun _ _ h => h) (fun _ h => h) (fun G17 t H locs ht hvm hw' hB _ _ hS => ?_)
  clear hw
  have hw := hw'
  clear hw'
  replace hG := wo_bk ht hB
  replace hcc := hc1
  replace hss := hs1
  refine lv_aload_n hx hb dq_Md_head_23 rfl (lx_at hl 0 rfl) ?_
  refine lv_aload_n hx hb dq_Md_head_24 rfl (lx_at hl 0 rfl) ?_
  obtain ⟨t18, hw⟩ := hw
  refine wo_getR hC fq_Md_99 rfl hG t18 dq_Md_head_25 (fun r19 e20 => ?_)
  replace hw := hw r19 e20
  refine lv_iload_n hx hb dq_Md_head_28 rfl (lx_at hl 2 rfl) ?_
  obtain ⟨a21, rfl, hw⟩ := hw
  obtain ⟨t22, hw⟩ := hw
  obtain ⟨h23, hw⟩ := hw
  refine wo_iald (j := 2) hC rfl hG t22 h23 dq_Md_head_29 ?_
  obtain ⟨mc24, ms25, hc1, hs1, hw⟩ := hw
  refine va_callv (wo_runV hC lq_Md_270 (mq_Md_put hw) hG hS t18 rfl (lx_sz hl) rfl (Nat.zero_le _) (by decide) dq_Md_head_30 ⟨hc1, hs1⟩) hS (fun _ _ h => h) (fun _ h => h) (fun G26 t H locs ht hvm hw' hB _ _ hS => ?_)
  clear hw
  have hw := hw'
  clear hw'
  replace hG := wo_bk ht hB
  replace hcc := hc1
  replace hss := hs1
  refine lv_aload_n hx hb dq_Md_head_33 rfl (lx_at hl 0 rfl) ?_
  refine lv_bipush (v := (10 : Int32)) hx hb dq_Md_head_34 rfl ?_
  obtain ⟨t27, hw⟩ := hw
  obtain ⟨mc28, ms29, hc1, hs1, hw⟩ := hw
  refine va_callv (wo_runV hC lq_Md_270 (mq_Md_put hw) hG hS t27 rfl (lx_sz hl) rfl (Nat.zero_le _) (by decide) dq_Md_head_36 ⟨hc1, hs1⟩) hS (fun _ _ h => h) (fun _ h => h) (fun G30 t H locs ht hvm hw' hB _ _ hS => ?_)
  clear hw
  have hw := hw'
  clear hw'
  replace hG := wo_bk ht hB
  replace hcc := hc1
  replace hss := hs1
  refine lv_aload_n hx hb dq_Md_head_39 rfl (lx_at hl 0 rfl) ?_
  obtain ⟨t31, hw⟩ := hw
  refine wo_getR hC fq_Md_117 rfl hG t31 dq_Md_head_40 (fun r32 e33 => ?_)
  replace hw := hw r32 e33
  refine lv_iload_n hx hb dq_Md_head_43 rfl (lx_at hl 2 rfl) ?_
  obtain ⟨a34, rfl, hw⟩ := hw
  obtain ⟨t35, hw⟩ := hw
  obtain ⟨h36, hw⟩ := hw
  refine wo_zald (j := 8) hC rfl hG t35 h36 dq_Md_head_44 ?_
  refine lv_if_eq (tgt := 66) hx hb dq_Md_head_45 rfl (fun h => ?_) (fun h => ?_)
  · replace hw := hw.1 h
    exact tq_Md_head_66 hC hw hG hS (lx_sub hl [0, 2, 3] rfl) hcc hss
  · replace hw := hw.2 h
    refine lv_aload_n hx hb dq_Md_head_48 rfl (lx_at hl 0 rfl) ?_
    refine lv_bipush (v := (89 : Int32)) hx hb dq_Md_head_49 rfl ?_
    obtain ⟨mc37, ms38, hc1, hs1, hw⟩ := hw
    refine va_callv (wo_runV hC lq_Md_274 (mq_Md_name hw) hG hS t31 rfl (lx_sz hl) rfl (Nat.zero_le _) (by decide) dq_Md_head_51 ⟨hc1, hs1⟩) hS (fun _ _ h => h) (fun _ h => h) (fun G39 t H locs ht hvm hw' hB _ _ hS => ?_)
    clear hw
    have hw := hw'
    clear hw'
    replace hG := wo_bk ht hB
    replace hcc := hc1
    replace hss := hs1
    refine lv_aload_n hx hb dq_Md_head_54 rfl (lx_at hl 0 rfl) ?_
    refine lv_bipush (v := (86 : Int32)) hx hb dq_Md_head_55 rfl ?_
    obtain ⟨t40, hw⟩ := hw
    obtain ⟨mc41, ms42, hc1, hs1, hw⟩ := hw
    refine va_callv (wo_runV hC lq_Md_270 (mq_Md_put hw) hG hS t40 rfl (lx_sz hl) rfl (Nat.zero_le _) (by decide) dq_Md_head_57 ⟨hc1, hs1⟩) hS (fun _ _ h => h) (fun _ h => h) (fun G43 t H locs ht hvm hw' hB _ _ hS => ?_)
    clear hw
    have hw := hw'
    clear hw'
    replace hG := wo_bk ht hB
    replace hcc := hc1
    replace hss := hs1
    refine lv_aload_n hx hb dq_Md_head_60 rfl (lx_at hl 0 rfl) ?_
    refine lv_bipush (v := (10 : Int32)) hx hb dq_Md_head_61 rfl ?_
    obtain ⟨t44, hw⟩ := hw
    obtain ⟨mc45, ms46, hc1, hs1, hw⟩ := hw
    refine va_callv (wo_runV hC lq_Md_270 (mq_Md_put hw) hG hS t44 rfl (lx_sz hl) rfl (Nat.zero_le _) (by decide) dq_Md_head_63 ⟨hc1, hs1⟩) hS (fun _ _ h => h) (fun _ h => h) (fun G47 t H locs ht hvm hw' hB _ _ hS => ?_)
    clear hw
    have hw := hw'
    clear hw'
    replace hG := wo_bk ht hB
    replace hcc := hc1
    replace hss := hs1
    exact tq_Md_head_66 hC hw hG hS (lx_sub hl [0, 2, 3] rfl) hcc hss
set_option maxHeartbeats 4000000 in
theorem mq_Md_head {l : Launch} {E : wo_E} {mc ms : Nat} {Post : wo_W → Prop} {G : wo_W} {x0 : Nat} {x1 : Int32} {x2 : Int32} {x3 : Int32} (hw : pq_Md_head E mc ms Post G x0 x1 x2 x3) : Met l yq_Md_head (Cond.code yq_Md_head prog_14_method_29_code 4 ((Option.none : Option Jvm.ClassFile.FieldType)) :: vw_WG) { frames := 3, cells := mc, slots := ms, locals := 65 } (va_Pc [.ref x0, .int x1, .int x2, .int x3] (wo_Ok E G)) (va_Qv Post (wo_B E) (en_A E)) mc ms (en_A E) := by
  unfold pq_Md_head at hw
  exact wo_met [(1, .ref x0), (1, .int x1), (1, .int x2), (1, .int x3)] rfl (by decide) (fun q hq => by simp only [List.mem_cons, List.not_mem_nil, or_false] at hq; rcases hq with rfl | rfl | rfl | rfl <;> first | rfl | exact lx_cR _) (Nat.le_of_ble_eq_true rfl) (fun p e R s m args below meth cd ls hC hG hS hl => tq_Md_head_0 hC hw hG hS (lx_sub hl [0, 1, 2, 3] rfl) (Nat.zero_le _) (Nat.zero_le _))

theorem dq_Md_part_0 : decode prog_14_method_33_code 0 = .ok (.aload_n 0, 1) := by decide +kernel
theorem dq_Md_part_1 : decode prog_14_method_33_code 1 = .ok (.sipush 206, 3) := by decide +kernel
theorem dq_Md_part_4 : decode prog_14_method_33_code 4 = .ok (.iload_n 1, 1) := by decide +kernel
theorem dq_Md_part_5 : decode prog_14_method_33_code 5 = .ok (.iload_n 2, 1) := by decide +kernel
theorem dq_Md_part_6 : decode prog_14_method_33_code 6 = .ok (.invokevirtual 290, 3) := by decide +kernel
theorem dq_Md_part_9 : decode prog_14_method_33_code 9 = .ok (.aload_n 0, 1) := by decide +kernel
theorem dq_Md_part_10 : decode prog_14_method_33_code 10 = .ok (.bipush 82, 2) := by decide +kernel
theorem dq_Md_part_12 : decode prog_14_method_33_code 12 = .ok (.invokevirtual 274, 3) := by decide +kernel
theorem dq_Md_part_15 : decode prog_14_method_33_code 15 = .ok (.iload_n 3, 1) := by decide +kernel
theorem dq_Md_part_16 : decode prog_14_method_33_code 16 = .ok (.iconst 1, 1) := by decide +kernel
theorem dq_Md_part_17 : decode prog_14_method_33_code 17 = .ok (.if_icmp .ne 103, 3) := by decide +kernel
theorem dq_Md_part_20 : decode prog_14_method_33_code 20 = .ok (.aload_n 0, 1) := by decide +kernel
theorem dq_Md_part_21 : decode prog_14_method_33_code 21 = .ok (.aload_n 0, 1) := by decide +kernel
theorem dq_Md_part_22 : decode prog_14_method_33_code 22 = .ok (.getfield 168, 3) := by decide +kernel
theorem dq_Md_part_25 : decode prog_14_method_33_code 25 = .ok (.iconst 0, 1) := by decide +kernel
theorem dq_Md_part_26 : decode prog_14_method_33_code 26 = .ok (.iaload, 1) := by decide +kernel
theorem dq_Md_part_27 : decode prog_14_method_33_code 27 = .ok (.invokevirtual 277, 3) := by decide +kernel
theorem dq_Md_part_30 : decode prog_14_method_33_code 30 = .ok (.aload_n 0, 1) := by decide +kernel
theorem dq_Md_part_31 : decode prog_14_method_33_code 31 = .ok (.bipush 45, 2) := by decide +kernel
theorem dq_Md_part_33 : decode prog_14_method_33_code 33 = .ok (.invokevirtual 270, 3) := by decide +kernel
theorem dq_Md_part_36 : decode prog_14_method_33_code 36 = .ok (.aload_n 0, 1) := by decide +kernel
theorem dq_Md_part_37 : decode prog_14_method_33_code 37 = .ok (.aload_n 0, 1) := by decide +kernel
theorem dq_Md_part_38 : decode prog_14_method_33_code 38 = .ok (.getfield 171, 3) := by decide +kernel
theorem dq_Md_part_41 : decode prog_14_method_33_code 41 = .ok (.iconst 0, 1) := by decide +kernel
theorem dq_Md_part_42 : decode prog_14_method_33_code 42 = .ok (.iaload, 1) := by decide +kernel
theorem dq_Md_part_43 : decode prog_14_method_33_code 43 = .ok (.invokevirtual 277, 3) := by decide +kernel
theorem dq_Md_part_46 : decode prog_14_method_33_code 46 = .ok (.aload_n 0, 1) := by decide +kernel
theorem dq_Md_part_47 : decode prog_14_method_33_code 47 = .ok (.bipush 47, 2) := by decide +kernel
theorem dq_Md_part_49 : decode prog_14_method_33_code 49 = .ok (.invokevirtual 270, 3) := by decide +kernel
theorem dq_Md_part_52 : decode prog_14_method_33_code 52 = .ok (.aload_n 0, 1) := by decide +kernel
theorem dq_Md_part_53 : decode prog_14_method_33_code 53 = .ok (.aload_n 0, 1) := by decide +kernel
theorem dq_Md_part_54 : decode prog_14_method_33_code 54 = .ok (.getfield 105, 3) := by decide +kernel
theorem dq_Md_part_57 : decode prog_14_method_33_code 57 = .ok (.iload_n 1, 1) := by decide +kernel
theorem dq_Md_part_58 : decode prog_14_method_33_code 58 = .ok (.iaload, 1) := by decide +kernel
theorem dq_Md_part_59 : decode prog_14_method_33_code 59 = .ok (.invokevirtual 277, 3) := by decide +kernel
theorem dq_Md_part_62 : decode prog_14_method_33_code 62 = .ok (.aload_n 0, 1) := by decide +kernel
theorem dq_Md_part_63 : decode prog_14_method_33_code 63 = .ok (.bipush 10, 2) := by decide +kernel
theorem dq_Md_part_65 : decode prog_14_method_33_code 65 = .ok (.invokevirtual 270, 3) := by decide +kernel
theorem dq_Md_part_68 : decode prog_14_method_33_code 68 = .ok (.aload_n 0, 1) := by decide +kernel
theorem dq_Md_part_69 : decode prog_14_method_33_code 69 = .ok (.bipush 76, 2) := by decide +kernel
theorem dq_Md_part_71 : decode prog_14_method_33_code 71 = .ok (.aload_n 0, 1) := by decide +kernel
theorem dq_Md_part_72 : decode prog_14_method_33_code 72 = .ok (.getfield 171, 3) := by decide +kernel
theorem dq_Md_part_75 : decode prog_14_method_33_code 75 = .ok (.iconst 0, 1) := by decide +kernel
theorem dq_Md_part_76 : decode prog_14_method_33_code 76 = .ok (.iaload, 1) := by decide +kernel
theorem dq_Md_part_77 : decode prog_14_method_33_code 77 = .ok (.aload_n 0, 1) := by decide +kernel
theorem dq_Md_part_78 : decode prog_14_method_33_code 78 = .ok (.getfield 168, 3) := by decide +kernel
theorem dq_Md_part_81 : decode prog_14_method_33_code 81 = .ok (.iconst 0, 1) := by decide +kernel
theorem dq_Md_part_82 : decode prog_14_method_33_code 82 = .ok (.iaload, 1) := by decide +kernel
theorem dq_Md_part_83 : decode prog_14_method_33_code 83 = .ok (.isub, 1) := by decide +kernel
theorem dq_Md_part_84 : decode prog_14_method_33_code 84 = .ok (.iconst 1, 1) := by decide +kernel
theorem dq_Md_part_85 : decode prog_14_method_33_code 85 = .ok (.iadd, 1) := by decide +kernel
theorem dq_Md_part_86 : decode prog_14_method_33_code 86 = .ok (.invokevirtual 283, 3) := by decide +kernel
theorem dq_Md_part_89 : decode prog_14_method_33_code 89 = .ok (.aload_n 0, 1) := by decide +kernel
theorem dq_Md_part_90 : decode prog_14_method_33_code 90 = .ok (.bipush 10, 2) := by decide +kernel
theorem dq_Md_part_92 : decode prog_14_method_33_code 92 = .ok (.invokevirtual 270, 3) := by decide +kernel
theorem dq_Md_part_95 : decode prog_14_method_33_code 95 = .ok (.aload_n 0, 1) := by decide +kernel
theorem dq_Md_part_96 : decode prog_14_method_33_code 96 = .ok (.aload_n 0, 1) := by decide +kernel
theorem dq_Md_part_97 : decode prog_14_method_33_code 97 = .ok (.getfield 102, 3) := by decide +kernel
theorem dq_Md_part_100 : decode prog_14_method_33_code 100 = .ok (.iload_n 1, 1) := by decide +kernel
theorem dq_Md_part_101 : decode prog_14_method_33_code 101 = .ok (.laload, 1) := by decide +kernel
theorem dq_Md_part_102 : decode prog_14_method_33_code 102 = .ok (.aload_n 0, 1) := by decide +kernel
theorem dq_Md_part_103 : decode prog_14_method_33_code 103 = .ok (.getfield 168, 3) := by decide +kernel
theorem dq_Md_part_106 : decode prog_14_method_33_code 106 = .ok (.iconst 0, 1) := by decide +kernel
theorem dq_Md_part_107 : decode prog_14_method_33_code 107 = .ok (.iaload, 1) := by decide +kernel
theorem dq_Md_part_108 : decode prog_14_method_33_code 108 = .ok (.aload_n 0, 1) := by decide +kernel
theorem dq_Md_part_109 : decode prog_14_method_33_code 109 = .ok (.getfield 171, 3) := by decide +kernel
theorem dq_Md_part_112 : decode prog_14_method_33_code 112 = .ok (.iconst 0, 1) := by decide +kernel
theorem dq_Md_part_113 : decode prog_14_method_33_code 113 = .ok (.iaload, 1) := by decide +kernel
theorem dq_Md_part_114 : decode prog_14_method_33_code 114 = .ok (.iconst 1, 1) := by decide +kernel
theorem dq_Md_part_115 : decode prog_14_method_33_code 115 = .ok (.iadd, 1) := by decide +kernel
theorem dq_Md_part_116 : decode prog_14_method_33_code 116 = .ok (.invokevirtual 286, 3) := by decide +kernel
theorem dq_Md_part_119 : decode prog_14_method_33_code 119 = .ok (.return_, 1) := by decide +kernel
theorem dq_Md_part_120 : decode prog_14_method_33_code 120 = .ok (.aload_n 0, 1) := by decide +kernel
theorem dq_Md_part_121 : decode prog_14_method_33_code 121 = .ok (.bipush 50, 2) := by decide +kernel
theorem dq_Md_part_123 : decode prog_14_method_33_code 123 = .ok (.invokevirtual 270, 3) := by decide +kernel
theorem dq_Md_part_126 : decode prog_14_method_33_code 126 = .ok (.aload_n 0, 1) := by decide +kernel
theorem dq_Md_part_127 : decode prog_14_method_33_code 127 = .ok (.bipush 10, 2) := by decide +kernel
theorem dq_Md_part_129 : decode prog_14_method_33_code 129 = .ok (.invokevirtual 270, 3) := by decide +kernel
theorem dq_Md_part_132 : decode prog_14_method_33_code 132 = .ok (.aload_n 0, 1) := by decide +kernel
theorem dq_Md_part_133 : decode prog_14_method_33_code 133 = .ok (.bipush 76, 2) := by decide +kernel
theorem dq_Md_part_135 : decode prog_14_method_33_code 135 = .ok (.aload_n 0, 1) := by decide +kernel
theorem dq_Md_part_136 : decode prog_14_method_33_code 136 = .ok (.getfield 171, 3) := by decide +kernel
theorem dq_Md_part_139 : decode prog_14_method_33_code 139 = .ok (.iconst 0, 1) := by decide +kernel
theorem dq_Md_part_140 : decode prog_14_method_33_code 140 = .ok (.iaload, 1) := by decide +kernel
theorem dq_Md_part_141 : decode prog_14_method_33_code 141 = .ok (.aload_n 0, 1) := by decide +kernel
theorem dq_Md_part_142 : decode prog_14_method_33_code 142 = .ok (.getfield 168, 3) := by decide +kernel
theorem dq_Md_part_145 : decode prog_14_method_33_code 145 = .ok (.iconst 0, 1) := by decide +kernel
theorem dq_Md_part_146 : decode prog_14_method_33_code 146 = .ok (.iaload, 1) := by decide +kernel
theorem dq_Md_part_147 : decode prog_14_method_33_code 147 = .ok (.isub, 1) := by decide +kernel
theorem dq_Md_part_148 : decode prog_14_method_33_code 148 = .ok (.aload_n 0, 1) := by decide +kernel
theorem dq_Md_part_149 : decode prog_14_method_33_code 149 = .ok (.getfield 171, 3) := by decide +kernel
theorem dq_Md_part_152 : decode prog_14_method_33_code 152 = .ok (.iconst 1, 1) := by decide +kernel
theorem dq_Md_part_153 : decode prog_14_method_33_code 153 = .ok (.iaload, 1) := by decide +kernel
theorem dq_Md_part_154 : decode prog_14_method_33_code 154 = .ok (.iadd, 1) := by decide +kernel
theorem dq_Md_part_155 : decode prog_14_method_33_code 155 = .ok (.aload_n 0, 1) := by decide +kernel
theorem dq_Md_part_156 : decode prog_14_method_33_code 156 = .ok (.getfield 168, 3) := by decide +kernel
theorem dq_Md_part_159 : decode prog_14_method_33_code 159 = .ok (.iconst 1, 1) := by decide +kernel
theorem dq_Md_part_160 : decode prog_14_method_33_code 160 = .ok (.iaload, 1) := by decide +kernel
theorem dq_Md_part_161 : decode prog_14_method_33_code 161 = .ok (.isub, 1) := by decide +kernel
theorem dq_Md_part_162 : decode prog_14_method_33_code 162 = .ok (.bipush 12, 2) := by decide +kernel
theorem dq_Md_part_164 : decode prog_14_method_33_code 164 = .ok (.iadd, 1) := by decide +kernel
theorem dq_Md_part_165 : decode prog_14_method_33_code 165 = .ok (.invokevirtual 283, 3) := by decide +kernel
theorem dq_Md_part_168 : decode prog_14_method_33_code 168 = .ok (.aload_n 0, 1) := by decide +kernel
theorem dq_Md_part_169 : decode prog_14_method_33_code 169 = .ok (.bipush 10, 2) := by decide +kernel
theorem dq_Md_part_171 : decode prog_14_method_33_code 171 = .ok (.invokevirtual 270, 3) := by decide +kernel
theorem dq_Md_part_174 : decode prog_14_method_33_code 174 = .ok (.iconst 0, 1) := by decide +kernel
theorem dq_Md_part_175 : decode prog_14_method_33_code 175 = .ok (.istore 4, 2) := by decide +kernel
theorem dq_Md_part_177 : decode prog_14_method_33_code 177 = .ok (.iload 4, 2) := by decide +kernel
theorem dq_Md_part_179 : decode prog_14_method_33_code 179 = .ok (.iconst 2, 1) := by decide +kernel
theorem dq_Md_part_180 : decode prog_14_method_33_code 180 = .ok (.if_icmp .ge 75, 3) := by decide +kernel
theorem dq_Md_part_183 : decode prog_14_method_33_code 183 = .ok (.aload_n 0, 1) := by decide +kernel
theorem dq_Md_part_184 : decode prog_14_method_33_code 184 = .ok (.aload_n 0, 1) := by decide +kernel
theorem dq_Md_part_185 : decode prog_14_method_33_code 185 = .ok (.getfield 168, 3) := by decide +kernel
theorem dq_Md_part_188 : decode prog_14_method_33_code 188 = .ok (.iload 4, 2) := by decide +kernel
theorem dq_Md_part_190 : decode prog_14_method_33_code 190 = .ok (.iaload, 1) := by decide +kernel
theorem dq_Md_part_191 : decode prog_14_method_33_code 191 = .ok (.invokevirtual 277, 3) := by decide +kernel
theorem dq_Md_part_194 : decode prog_14_method_33_code 194 = .ok (.aload_n 0, 1) := by decide +kernel
theorem dq_Md_part_195 : decode prog_14_method_33_code 195 = .ok (.bipush 45, 2) := by decide +kernel
theorem dq_Md_part_197 : decode prog_14_method_33_code 197 = .ok (.invokevirtual 270, 3) := by decide +kernel
theorem dq_Md_part_200 : decode prog_14_method_33_code 200 = .ok (.aload_n 0, 1) := by decide +kernel
theorem dq_Md_part_201 : decode prog_14_method_33_code 201 = .ok (.aload_n 0, 1) := by decide +kernel
theorem dq_Md_part_202 : decode prog_14_method_33_code 202 = .ok (.getfield 171, 3) := by decide +kernel
theorem dq_Md_part_205 : decode prog_14_method_33_code 205 = .ok (.iload 4, 2) := by decide +kernel
theorem dq_Md_part_207 : decode prog_14_method_33_code 207 = .ok (.iaload, 1) := by decide +kernel
theorem dq_Md_part_208 : decode prog_14_method_33_code 208 = .ok (.invokevirtual 277, 3) := by decide +kernel
theorem dq_Md_part_211 : decode prog_14_method_33_code 211 = .ok (.aload_n 0, 1) := by decide +kernel
theorem dq_Md_part_212 : decode prog_14_method_33_code 212 = .ok (.bipush 61, 2) := by decide +kernel
theorem dq_Md_part_214 : decode prog_14_method_33_code 214 = .ok (.invokevirtual 270, 3) := by decide +kernel
theorem dq_Md_part_217 : decode prog_14_method_33_code 217 = .ok (.aload_n 0, 1) := by decide +kernel
theorem dq_Md_part_218 : decode prog_14_method_33_code 218 = .ok (.aload_n 0, 1) := by decide +kernel
theorem dq_Md_part_219 : decode prog_14_method_33_code 219 = .ok (.getfield 102, 3) := by decide +kernel
theorem dq_Md_part_222 : decode prog_14_method_33_code 222 = .ok (.iload_n 1, 1) := by decide +kernel
theorem dq_Md_part_223 : decode prog_14_method_33_code 223 = .ok (.laload, 1) := by decide +kernel
theorem dq_Md_part_224 : decode prog_14_method_33_code 224 = .ok (.aload_n 0, 1) := by decide +kernel
theorem dq_Md_part_225 : decode prog_14_method_33_code 225 = .ok (.getfield 168, 3) := by decide +kernel
theorem dq_Md_part_228 : decode prog_14_method_33_code 228 = .ok (.iload 4, 2) := by decide +kernel
theorem dq_Md_part_230 : decode prog_14_method_33_code 230 = .ok (.iaload, 1) := by decide +kernel
theorem dq_Md_part_231 : decode prog_14_method_33_code 231 = .ok (.aload_n 0, 1) := by decide +kernel
theorem dq_Md_part_232 : decode prog_14_method_33_code 232 = .ok (.getfield 171, 3) := by decide +kernel
theorem dq_Md_part_235 : decode prog_14_method_33_code 235 = .ok (.iload 4, 2) := by decide +kernel
theorem dq_Md_part_237 : decode prog_14_method_33_code 237 = .ok (.iaload, 1) := by decide +kernel
theorem dq_Md_part_238 : decode prog_14_method_33_code 238 = .ok (.iconst 1, 1) := by decide +kernel
theorem dq_Md_part_239 : decode prog_14_method_33_code 239 = .ok (.iadd, 1) := by decide +kernel
theorem dq_Md_part_240 : decode prog_14_method_33_code 240 = .ok (.invokevirtual 286, 3) := by decide +kernel
theorem dq_Md_part_243 : decode prog_14_method_33_code 243 = .ok (.aload_n 0, 1) := by decide +kernel
theorem dq_Md_part_244 : decode prog_14_method_33_code 244 = .ok (.bipush 10, 2) := by decide +kernel
theorem dq_Md_part_246 : decode prog_14_method_33_code 246 = .ok (.invokevirtual 270, 3) := by decide +kernel
theorem dq_Md_part_249 : decode prog_14_method_33_code 249 = .ok (.iinc 4 1, 3) := by decide +kernel
theorem dq_Md_part_252 : decode prog_14_method_33_code 252 = .ok (.goto (-75), 3) := by decide +kernel
theorem dq_Md_part_255 : decode prog_14_method_33_code 255 = .ok (.return_, 1) := by decide +kernel
set_option maxRecDepth 100000 in
def pq_Md_part_177 (E : wo_E) (mc ms : Nat) (Post : wo_W → Prop) : Nat → wo_W → Nat → Nat → Nat → Int32 → Int32 → Prop
  | 0 => fun _ _ _ _ _ _ => False
  | n + 1 => fun G c s x0 x1 x4 => (((2 : Int32) ≤ x4 → Post G) ∧
  (¬ (2 : Int32) ≤ x4 → wo_ty G x0 = 15 ∧ ∀ r2 : Option Nat, r2 = wo_gr G 953 x0 → ∃ a4 : Nat, r2 = some a4 ∧ wo_ty G a4 = 66 ∧ vp_in x4 (wo_len G a4) ∧ ∃ mc7 ms8 : Nat, (c + mc7) ≤ mc ∧ (s + ms8) ≤ ms ∧ pq_Md_putNumber E mc7 ms8 (fun G9 => 
    wo_ty G9 x0 = 15 ∧ ∃ mc11 ms12 : Nat, ((c + mc7) + mc11) ≤ mc ∧ ((s + ms8) + ms12) ≤ ms ∧ pq_Md_put E mc11 ms12 (fun G13 => 
      wo_ty G13 x0 = 15 ∧ ∀ r15 : Option Nat, r15 = wo_gr G13 954 x0 → ∃ a17 : Nat, r15 = some a17 ∧ wo_ty G13 a17 = 66 ∧ vp_in x4 (wo_len G13 a17) ∧ ∃ mc20 ms21 : Nat, (((c + mc7) + mc11) + mc20) ≤ mc ∧ (((s + ms8) + ms12) + ms21) ≤ ms ∧ pq_Md_putNumber E mc20 ms21 (fun G22 => 
        wo_ty G22 x0 = 15 ∧ ∃ mc24 ms25 : Nat, ((((c + mc7) + mc11) + mc20) + mc24) ≤ mc ∧ ((((s + ms8) + ms12) + ms21) + ms25) ≤ ms ∧ pq_Md_put E mc24 ms25 (fun G26 => 
          wo_ty G26 x0 = 15 ∧ ∀ r28 : Option Nat, r28 = wo_gr G26 930 x0 → ∃ a30 : Nat, r28 = some a30 ∧ wo_ty G26 a30 = 73 ∧ vp_in x1 (wo_len G26 a30) ∧ ∀ r33 : Option Nat, r33 = wo_gr G26 953 x0 → ∃ a35 : Nat, r33 = some a35 ∧ wo_ty G26 a35 = 66 ∧ vp_in x4 (wo_len G26 a35) ∧ ∀ r38 : Option Nat, r38 = wo_gr G26 954 x0 → ∃ a40 : Nat, r38 = some a40 ∧ wo_ty G26 a40 = 66 ∧ vp_in x4 (wo_len G26 a40) ∧ ∃ mc43 ms44 : Nat, (((((c + mc7) + mc11) + mc20) + mc24) + mc43) ≤ mc ∧ (((((s + ms8) + ms12) + ms21) + ms25) + ms44) ≤ ms ∧ pq_Md_putBytes E mc43 ms44 (fun G45 => 
            wo_ty G45 x0 = 15 ∧ ∃ mc47 ms48 : Nat, ((((((c + mc7) + mc11) + mc20) + mc24) + mc43) + mc47) ≤ mc ∧ ((((((s + ms8) + ms12) + ms21) + ms25) + ms44) + ms48) ≤ ms ∧ pq_Md_put E mc47 ms48 (fun G49 => 
              pq_Md_part_177 E mc ms Post n G49 ((((((c + mc7) + mc11) + mc20) + mc24) + mc43) + mc47) ((((((s + ms8) + ms12) + ms21) + ms25) + ms44) + ms48) x0 x1 (x4 + (1 : Int32))) G45 x0 (10 : Int32)) G26 x0 (wo_el G26 a30 x1.toNatClampNeg) (wo_ei G26 a35 x4.toNatClampNeg) ((wo_ei G26 a40 x4.toNatClampNeg) + (1 : Int32))) G22 x0 (61 : Int32)) G13 x0 (wo_ei G13 a17 x4.toNatClampNeg)) G9 x0 (45 : Int32)) G x0 (wo_ei G a4 x4.toNatClampNeg)))
set_option maxRecDepth 100000 in
def pq_Md_part_0 (E : wo_E) (mc ms : Nat) (Post : wo_W → Prop) (G : wo_W) (c s : Nat) (x0 : Nat) (x1 : Int32) (x2 : Int32) (x3 : Int32) : Prop := wo_ty G x0 = 15 ∧ ∃ mc2 ms3 : Nat, (c + mc2) ≤ mc ∧ (s + ms3) ≤ ms ∧ pq_Md_head E mc2 ms3 (fun G4 => 
  wo_ty G4 x0 = 15 ∧ ∃ mc6 ms7 : Nat, ((c + mc2) + mc6) ≤ mc ∧ ((s + ms3) + ms7) ≤ ms ∧ pq_Md_name E mc6 ms7 (fun G8 => 
    ((¬ x3 = (1 : Int32) → wo_ty G8 x0 = 15 ∧ ∃ mc10 ms11 : Nat, (((c + mc2) + mc6) + mc10) ≤ mc ∧ (((s + ms3) + ms7) + ms11) ≤ ms ∧ pq_Md_put E mc10 ms11 (fun G12 => 
        wo_ty G12 x0 = 15 ∧ ∃ mc14 ms15 : Nat, ((((c + mc2) + mc6) + mc10) + mc14) ≤ mc ∧ ((((s + ms3) + ms7) + ms11) + ms15) ≤ ms ∧ pq_Md_put E mc14 ms15 (fun G16 => 
          wo_ty G16 x0 = 15 ∧ ∀ r18 : Option Nat, r18 = wo_gr G16 954 x0 → ∃ a20 : Nat, r18 = some a20 ∧ wo_ty G16 a20 = 66 ∧ vp_in (0 : Int32) (wo_len G16 a20) ∧ ∀ r23 : Option Nat, r23 = wo_gr G16 953 x0 → ∃ a25 : Nat, r23 = some a25 ∧ wo_ty G16 a25 = 66 ∧ vp_in (0 : Int32) (wo_len G16 a25) ∧ ∀ r28 : Option Nat, r28 = wo_gr G16 954 x0 → ∃ a30 : Nat, r28 = some a30 ∧ wo_ty G16 a30 = 66 ∧ vp_in (1 : Int32) (wo_len G16 a30) ∧ ∀ r33 : Option Nat, r33 = wo_gr G16 953 x0 → ∃ a35 : Nat, r33 = some a35 ∧ wo_ty G16 a35 = 66 ∧ vp_in (1 : Int32) (wo_len G16 a35) ∧ ∃ mc38 ms39 : Nat, (((((c + mc2) + mc6) + mc10) + mc14) + mc38) ≤ mc ∧ (((((s + ms3) + ms7) + ms11) + ms15) + ms39) ≤ ms ∧ pq_Md_putLine E mc38 ms39 (fun G40 => 
            wo_ty G40 x0 = 15 ∧ ∃ mc42 ms43 : Nat, ((((((c + mc2) + mc6) + mc10) + mc14) + mc38) + mc42) ≤ mc ∧ ((((((s + ms3) + ms7) + ms11) + ms15) + ms39) + ms43) ≤ ms ∧ pq_Md_put E mc42 ms43 (fun G44 => 
              ∃ n1 : Nat, pq_Md_part_177 E mc ms Post n1 G44 ((((((c + mc2) + mc6) + mc10) + mc14) + mc38) + mc42) ((((((s + ms3) + ms7) + ms11) + ms15) + ms39) + ms43) x0 x1 (0 : Int32)) G40 x0 (10 : Int32)) G16 x0 (76 : Int32) (((((wo_ei G16 a20 (0 : Int32).toNatClampNeg) - (wo_ei G16 a25 (0 : Int32).toNatClampNeg)) + (wo_ei G16 a30 (1 : Int32).toNatClampNeg)) - (wo_ei G16 a35 (1 : Int32).toNatClampNeg)) + (12 : Int32))) G12 x0 (10 : Int32)) G8 x0 (50 : Int32)) ∧
      (x3 = (1 : Int32) → wo_ty G8 x0 = 15 ∧ ∀ r46 : Option Nat, r46 = wo_gr G8 953 x0 → ∃ a48 : Nat, r46 = some a48 ∧ wo_ty G8 a48 = 66 ∧ vp_in (0 : Int32) (wo_len G8 a48) ∧ ∃ mc51 ms52 : Nat, (((c + mc2) + mc6) + mc51) ≤ mc ∧ (((s + ms3) + ms7) + ms52) ≤ ms ∧ pq_Md_putNumber E mc51 ms52 (fun G53 => 
        wo_ty G53 x0 = 15 ∧ ∃ mc55 ms56 : Nat, ((((c + mc2) + mc6) + mc51) + mc55) ≤ mc ∧ ((((s + ms3) + ms7) + ms52) + ms56) ≤ ms ∧ pq_Md_put E mc55 ms56 (fun G57 => 
          wo_ty G57 x0 = 15 ∧ ∀ r59 : Option Nat, r59 = wo_gr G57 954 x0 → ∃ a61 : Nat, r59 = some a61 ∧ wo_ty G57 a61 = 66 ∧ vp_in (0 : Int32) (wo_len G57 a61) ∧ ∃ mc64 ms65 : Nat, (((((c + mc2) + mc6) + mc51) + mc55) + mc64) ≤ mc ∧ (((((s + ms3) + ms7) + ms52) + ms56) + ms65) ≤ ms ∧ pq_Md_putNumber E mc64 ms65 (fun G66 => 
            wo_ty G66 x0 = 15 ∧ ∃ mc68 ms69 : Nat, ((((((c + mc2) + mc6) + mc51) + mc55) + mc64) + mc68) ≤ mc ∧ ((((((s + ms3) + ms7) + ms52) + ms56) + ms65) + ms69) ≤ ms ∧ pq_Md_put E mc68 ms69 (fun G70 => 
              wo_ty G70 x0 = 15 ∧ ∀ r72 : Option Nat, r72 = wo_gr G70 931 x0 → ∃ a74 : Nat, r72 = some a74 ∧ wo_ty G70 a74 = 66 ∧ vp_in x1 (wo_len G70 a74) ∧ ∃ mc77 ms78 : Nat, (((((((c + mc2) + mc6) + mc51) + mc55) + mc64) + mc68) + mc77) ≤ mc ∧ (((((((s + ms3) + ms7) + ms52) + ms56) + ms65) + ms69) + ms78) ≤ ms ∧ pq_Md_putNumber E mc77 ms78 (fun G79 => 
                wo_ty G79 x0 = 15 ∧ ∃ mc81 ms82 : Nat, ((((((((c + mc2) + mc6) + mc51) + mc55) + mc64) + mc68) + mc77) + mc81) ≤ mc ∧ ((((((((s + ms3) + ms7) + ms52) + ms56) + ms65) + ms69) + ms78) + ms82) ≤ ms ∧ pq_Md_put E mc81 ms82 (fun G83 => 
                  wo_ty G83 x0 = 15 ∧ ∀ r85 : Option Nat, r85 = wo_gr G83 954 x0 → ∃ a87 : Nat, r85 = some a87 ∧ wo_ty G83 a87 = 66 ∧ vp_in (0 : Int32) (wo_len G83 a87) ∧ ∀ r90 : Option Nat, r90 = wo_gr G83 953 x0 → ∃ a92 : Nat, r90 = some a92 ∧ wo_ty G83 a92 = 66 ∧ vp_in (0 : Int32) (wo_len G83 a92) ∧ ∃ mc95 ms96 : Nat, (((((((((c + mc2) + mc6) + mc51) + mc55) + mc64) + mc68) + mc77) + mc81) + mc95) ≤ mc ∧ (((((((((s + ms3) + ms7) + ms52) + ms56) + ms65) + ms69) + ms78) + ms82) + ms96) ≤ ms ∧ pq_Md_putLine E mc95 ms96 (fun G97 => 
                    wo_ty G97 x0 = 15 ∧ ∃ mc99 ms100 : Nat, ((((((((((c + mc2) + mc6) + mc51) + mc55) + mc64) + mc68) + mc77) + mc81) + mc95) + mc99) ≤ mc ∧ ((((((((((s + ms3) + ms7) + ms52) + ms56) + ms65) + ms69) + ms78) + ms82) + ms96) + ms100) ≤ ms ∧ pq_Md_put E mc99 ms100 (fun G101 => 
                      wo_ty G101 x0 = 15 ∧ ∀ r103 : Option Nat, r103 = wo_gr G101 930 x0 → ∃ a105 : Nat, r103 = some a105 ∧ wo_ty G101 a105 = 73 ∧ vp_in x1 (wo_len G101 a105) ∧ ∀ r108 : Option Nat, r108 = wo_gr G101 953 x0 → ∃ a110 : Nat, r108 = some a110 ∧ wo_ty G101 a110 = 66 ∧ vp_in (0 : Int32) (wo_len G101 a110) ∧ ∀ r113 : Option Nat, r113 = wo_gr G101 954 x0 → ∃ a115 : Nat, r113 = some a115 ∧ wo_ty G101 a115 = 66 ∧ vp_in (0 : Int32) (wo_len G101 a115) ∧ ∃ mc118 ms119 : Nat, (((((((((((c + mc2) + mc6) + mc51) + mc55) + mc64) + mc68) + mc77) + mc81) + mc95) + mc99) + mc118) ≤ mc ∧ (((((((((((s + ms3) + ms7) + ms52) + ms56) + ms65) + ms69) + ms78) + ms82) + ms96) + ms100) + ms119) ≤ ms ∧ pq_Md_putBytes E mc118 ms119 (fun G120 => 
                        Post G120) G101 x0 (wo_el G101 a105 x1.toNatClampNeg) (wo_ei G101 a110 (0 : Int32).toNatClampNeg) ((wo_ei G101 a115 (0 : Int32).toNatClampNeg) + (1 : Int32))) G97 x0 (10 : Int32)) G83 x0 (76 : Int32) (((wo_ei G83 a87 (0 : Int32).toNatClampNeg) - (wo_ei G83 a92 (0 : Int32).toNatClampNeg)) + (1 : Int32))) G79 x0 (10 : Int32)) G70 x0 (wo_ei G70 a74 x1.toNatClampNeg)) G66 x0 (47 : Int32)) G57 x0 (wo_ei G57 a61 (0 : Int32).toNatClampNeg)) G53 x0 (45 : Int32)) G8 x0 (wo_ei G8 a48 (0 : Int32).toNatClampNeg)))) G4 x0 (82 : Int32)) G x0 (206 : Int32) x1 x2
def pq_Md_part (E : wo_E) (mc ms : Nat) (Post : wo_W → Prop) (G : wo_W) (x0 : Nat) (x1 : Int32) (x2 : Int32) (x3 : Int32) : Prop := pq_Md_part_0 E mc ms Post G 0 0 x0 x1 x2 x3
set_option maxRecDepth 100000 in
set_option maxHeartbeats 4000000 in
theorem tq_Md_part_177 {p : Program} {l : Launch} {e : Env} {R : Room} {s₀ : State} {m : MethodId} {args : Array Value} {below : List Frame} {meth : Method} {cd : Code} {E : wo_E} {mc ms : Nat} {Post : wo_W → Prop} (hC : wo_Cx E "EdgeCacheModel" prog_14_method_33_code 5 4 88 ((Option.none : Option Jvm.ClassFile.FieldType)) "part" mc ms p R s₀ m args meth cd) : ∀ n : Nat, ∀ {G : wo_W} {c s : Nat} {x0 : Nat} {x1 : Int32} {x4 : Int32}, pq_Md_part_177 E mc ms Post n G c s x0 x1 x4 → ∀ {H : Heap} {locs : List Loc} {ls : Array Slot}, wo_Se E G H → va_S (en_A E) s₀.heap H locs → lx_has ls 5 [(0, 1, .ref x0), (1, 1, .int x1), (4, 1, .int x4)] → c ≤ mc → s ≤ ms → W p l e R s₀ m args below meth cd H locs c s (MQ below (va_Qv Post (wo_B E) (en_A E)) args s₀ mc ms (en_A E)) (F0 m 177 ls []) := by
  intro n
  induction n with
  | zero => intro G c s x0 x1 x4 hw; exact hw.elim
  | succ n ih =>
    intro G c s x0 x1 x4 hw H locs ls hG hS hl hcc hss
    dsimp only [pq_Md_part_177] at hw
    have hx := hC.1
    have hb := hC.2.1
    refine lv_iload hx hb dq_Md_part_177 (lx_at hl 2 rfl) ?_
    refine lv_iconst (v := (2 : Int32)) hx hb dq_Md_part_179 rfl ?_
    refine lv_icmp_ge (tgt := 255) hx hb dq_Md_part_180 rfl (fun h => ?_) (fun h => ?_)
    · replace hw := hw.1 h
      exact wo_vret hC hG hS hcc hss hw dq_Md_part_255
    · replace hw := hw.2 h
      refine lv_aload_n hx hb dq_Md_part_183 rfl (lx_at hl 0 rfl) ?_
      refine lv_aload_n hx hb dq_Md_part_184 rfl (lx_at hl 0 rfl) ?_
      obtain ⟨t1, hw⟩ := hw
      refine wo_getR hC fq_Md_168 rfl hG t1 dq_Md_part_185 (fun r2 e3 => ?_)
      replace hw := hw r2 e3
      refine lv_iload hx hb dq_Md_part_188 (lx_at hl 2 rfl) ?_
      obtain ⟨a4, rfl, hw⟩ := hw
      obtain ⟨t5, hw⟩ := hw
      obtain ⟨h6, hw⟩ := hw
      refine wo_iald (j := 2) hC rfl hG t5 h6 dq_Md_part_190 ?_
      obtain ⟨mc7, ms8, hc1, hs1, hw⟩ := hw
      refine va_callv (wo_runV hC lq_Md_277 (mq_Md_putNumber hw) hG hS t1 rfl (lx_sz hl) rfl (Nat.zero_le _) (by decide) dq_Md_part_191 ⟨hc1, hs1⟩) hS (fun _ _ h => h) (fun _ h => h) (fun G9 t H locs ht hvm hw' hB _ _ hS => ?_)
      clear hw
      have hw := hw'
      clear hw'
      replace hG := wo_bk ht hB
      replace hcc := hc1
      replace hss := hs1
      refine lv_aload_n hx hb dq_Md_part_194 rfl (lx_at hl 0 rfl) ?_
      refine lv_bipush (v := (45 : Int32)) hx hb dq_Md_part_195 rfl ?_
      obtain ⟨t10, hw⟩ := hw
      obtain ⟨mc11, ms12, hc1, hs1, hw⟩ := hw
      refine va_callv (wo_runV hC lq_Md_270 (mq_Md_put hw) hG hS t10 rfl (lx_sz hl) rfl (Nat.zero_le _) (by decide) dq_Md_part_197 ⟨hc1, hs1⟩) hS (fun _ _ h => h) (fun _ h => h) (fun G13 t H locs ht hvm hw' hB _ _ hS => ?_)
      clear hw
      have hw := hw'
      clear hw'
      replace hG := wo_bk ht hB
      replace hcc := hc1
      replace hss := hs1
      refine lv_aload_n hx hb dq_Md_part_200 rfl (lx_at hl 0 rfl) ?_
      refine lv_aload_n hx hb dq_Md_part_201 rfl (lx_at hl 0 rfl) ?_
      obtain ⟨t14, hw⟩ := hw
      refine wo_getR hC fq_Md_171 rfl hG t14 dq_Md_part_202 (fun r15 e16 => ?_)
      replace hw := hw r15 e16
      refine lv_iload hx hb dq_Md_part_205 (lx_at hl 2 rfl) ?_
      obtain ⟨a17, rfl, hw⟩ := hw
      obtain ⟨t18, hw⟩ := hw
      obtain ⟨h19, hw⟩ := hw
      refine wo_iald (j := 2) hC rfl hG t18 h19 dq_Md_part_207 ?_
      obtain ⟨mc20, ms21, hc1, hs1, hw⟩ := hw
      refine va_callv (wo_runV hC lq_Md_277 (mq_Md_putNumber hw) hG hS t14 rfl (lx_sz hl) rfl (Nat.zero_le _) (by decide) dq_Md_part_208 ⟨hc1, hs1⟩) hS (fun _ _ h => h) (fun _ h => h) (fun G22 t H locs ht hvm hw' hB _ _ hS => ?_)
      clear hw
      have hw := hw'
      clear hw'
      replace hG := wo_bk ht hB
      replace hcc := hc1
      replace hss := hs1
      refine lv_aload_n hx hb dq_Md_part_211 rfl (lx_at hl 0 rfl) ?_
      refine lv_bipush (v := (61 : Int32)) hx hb dq_Md_part_212 rfl ?_
      obtain ⟨t23, hw⟩ := hw
      obtain ⟨mc24, ms25, hc1, hs1, hw⟩ := hw
      refine va_callv (wo_runV hC lq_Md_270 (mq_Md_put hw) hG hS t23 rfl (lx_sz hl) rfl (Nat.zero_le _) (by decide) dq_Md_part_214 ⟨hc1, hs1⟩) hS (fun _ _ h => h) (fun _ h => h) (fun G26 t H locs ht hvm hw' hB _ _ hS => ?_)
      clear hw
      have hw := hw'
      clear hw'
      replace hG := wo_bk ht hB
      replace hcc := hc1
      replace hss := hs1
      refine lv_aload_n hx hb dq_Md_part_217 rfl (lx_at hl 0 rfl) ?_
      refine lv_aload_n hx hb dq_Md_part_218 rfl (lx_at hl 0 rfl) ?_
      obtain ⟨t27, hw⟩ := hw
      refine wo_getR hC fq_Md_102 rfl hG t27 dq_Md_part_219 (fun r28 e29 => ?_)
      replace hw := hw r28 e29
      refine lv_iload_n hx hb dq_Md_part_222 rfl (lx_at hl 1 rfl) ?_
      obtain ⟨a30, rfl, hw⟩ := hw
      obtain ⟨t31, hw⟩ := hw
      obtain ⟨h32, hw⟩ := hw
      refine wo_lald (j := 9) hC rfl hG t31 h32 dq_Md_part_223 ?_
      refine lv_aload_n hx hb dq_Md_part_224 rfl (lx_at hl 0 rfl) ?_
      refine wo_getR hC fq_Md_168 rfl hG t27 dq_Md_part_225 (fun r33 e34 => ?_)
      replace hw := hw r33 e34
      refine lv_iload hx hb dq_Md_part_228 (lx_at hl 2 rfl) ?_
      obtain ⟨a35, rfl, hw⟩ := hw
      obtain ⟨t36, hw⟩ := hw
      obtain ⟨h37, hw⟩ := hw
      refine wo_iald (j := 2) hC rfl hG t36 h37 dq_Md_part_230 ?_
      refine lv_aload_n hx hb dq_Md_part_231 rfl (lx_at hl 0 rfl) ?_
      refine wo_getR hC fq_Md_171 rfl hG t27 dq_Md_part_232 (fun r38 e39 => ?_)
      replace hw := hw r38 e39
      refine lv_iload hx hb dq_Md_part_235 (lx_at hl 2 rfl) ?_
      obtain ⟨a40, rfl, hw⟩ := hw
      obtain ⟨t41, hw⟩ := hw
      obtain ⟨h42, hw⟩ := hw
      refine wo_iald (j := 2) hC rfl hG t41 h42 dq_Md_part_237 ?_
      refine lv_iconst (v := (1 : Int32)) hx hb dq_Md_part_238 rfl ?_
      refine lv_iadd hx hb dq_Md_part_239 ?_
      obtain ⟨mc43, ms44, hc1, hs1, hw⟩ := hw
      refine va_callv (wo_runV hC lq_Md_286 (mq_Md_putBytes hw) hG hS t27 rfl (lx_sz hl) rfl (Nat.zero_le _) (by decide) dq_Md_part_240 ⟨hc1, hs1⟩) hS (fun _ _ h => h) (fun _ h => h) (fun G45 t H locs ht hvm hw' hB _ _ hS => ?_)
      clear hw
      have hw := hw'
      clear hw'
      replace hG := wo_bk ht hB
      replace hcc := hc1
      replace hss := hs1
      refine lv_aload_n hx hb dq_Md_part_243 rfl (lx_at hl 0 rfl) ?_
      refine lv_bipush (v := (10 : Int32)) hx hb dq_Md_part_244 rfl ?_
      obtain ⟨t46, hw⟩ := hw
      obtain ⟨mc47, ms48, hc1, hs1, hw⟩ := hw
      refine va_callv (wo_runV hC lq_Md_270 (mq_Md_put hw) hG hS t46 rfl (lx_sz hl) rfl (Nat.zero_le _) (by decide) dq_Md_part_246 ⟨hc1, hs1⟩) hS (fun _ _ h => h) (fun _ h => h) (fun G49 t H locs ht hvm hw' hB _ _ hS => ?_)
      clear hw
      have hw := hw'
      clear hw'
      replace hG := wo_bk ht hB
      replace hcc := hc1
      replace hss := hs1
      refine lx_iinc (k := 2) (v := (x4 + (1 : Int32))) (lv' := [(4, 1, .int (x4 + (1 : Int32))), (0, 1, .ref x0), (1, 1, .int x1)]) hx hb dq_Md_part_249 hl rfl rfl (by decide) rfl (fun ls hl' => ?_)
      clear hl
      have hl := hl'
      clear hl'
      refine lv_goto (tgt := 177) hx hb dq_Md_part_252 rfl ?_
      exact ih hw hG hS (lx_sub hl [1, 2, 0] rfl) hcc hss
set_option maxRecDepth 100000 in
set_option maxHeartbeats 4000000 in
theorem tq_Md_part_0 {p : Program} {l : Launch} {e : Env} {R : Room} {s₀ : State} {m : MethodId} {args : Array Value} {below : List Frame} {meth : Method} {cd : Code} {E : wo_E} {mc ms : Nat} {Post : wo_W → Prop} (hC : wo_Cx E "EdgeCacheModel" prog_14_method_33_code 5 4 88 ((Option.none : Option Jvm.ClassFile.FieldType)) "part" mc ms p R s₀ m args meth cd) : ∀ {G : wo_W} {c s : Nat} {x0 : Nat} {x1 : Int32} {x2 : Int32} {x3 : Int32}, pq_Md_part_0 E mc ms Post G c s x0 x1 x2 x3 → ∀ {H : Heap} {locs : List Loc} {ls : Array Slot}, wo_Se E G H → va_S (en_A E) s₀.heap H locs → lx_has ls 5 [(0, 1, .ref x0), (1, 1, .int x1), (2, 1, .int x2), (3, 1, .int x3)] → c ≤ mc → s ≤ ms → W p l e R s₀ m args below meth cd H locs c s (MQ below (va_Qv Post (wo_B E) (en_A E)) args s₀ mc ms (en_A E)) (F0 m 0 ls []) := by
  intro G c s x0 x1 x2 x3 hw H locs ls hG hS hl hcc hss
  dsimp only [pq_Md_part_0] at hw
  have hx := hC.1
  have hb := hC.2.1
  refine lv_aload_n hx hb dq_Md_part_0 rfl (lx_at hl 0 rfl) ?_
  refine lv_sipush (v := (206 : Int32)) hx hb dq_Md_part_1 rfl ?_
  refine lv_iload_n hx hb dq_Md_part_4 rfl (lx_at hl 1 rfl) ?_
  refine lv_iload_n hx hb dq_Md_part_5 rfl (lx_at hl 2 rfl) ?_
  obtain ⟨t1, hw⟩ := hw
  obtain ⟨mc2, ms3, hc1, hs1, hw⟩ := hw
  refine va_callv (wo_runV hC lq_Md_290 (mq_Md_head hw) hG hS t1 rfl (lx_sz hl) rfl (Nat.zero_le _) (by decide) dq_Md_part_6 ⟨hc1, hs1⟩) hS (fun _ _ h => h) (fun _ h => h) (fun G4 t H locs ht hvm hw' hB _ _ hS => ?_)
  clear hw
  have hw := hw'
  clear hw'
  replace hG := wo_bk ht hB
  replace hcc := hc1
  replace hss := hs1
  refine lv_aload_n hx hb dq_Md_part_9 rfl (lx_at hl 0 rfl) ?_
  refine lv_bipush (v := (82 : Int32)) hx hb dq_Md_part_10 rfl ?_
  obtain ⟨t5, hw⟩ := hw
  obtain ⟨mc6, ms7, hc1, hs1, hw⟩ := hw
  refine va_callv (wo_runV hC lq_Md_274 (mq_Md_name hw) hG hS t5 rfl (lx_sz hl) rfl (Nat.zero_le _) (by decide) dq_Md_part_12 ⟨hc1, hs1⟩) hS (fun _ _ h => h) (fun _ h => h) (fun G8 t H locs ht hvm hw' hB _ _ hS => ?_)
  clear hw
  have hw := hw'
  clear hw'
  replace hG := wo_bk ht hB
  replace hcc := hc1
  replace hss := hs1
  refine lv_iload_n hx hb dq_Md_part_15 rfl (lx_at hl 3 rfl) ?_
  refine lv_iconst (v := (1 : Int32)) hx hb dq_Md_part_16 rfl ?_
  refine lv_icmp_ne (tgt := 120) hx hb dq_Md_part_17 rfl (fun h => ?_) (fun h => ?_)
  · replace hw := hw.1 h
    refine lv_aload_n hx hb dq_Md_part_120 rfl (lx_at hl 0 rfl) ?_
    refine lv_bipush (v := (50 : Int32)) hx hb dq_Md_part_121 rfl ?_
    obtain ⟨t9, hw⟩ := hw
    obtain ⟨mc10, ms11, hc1, hs1, hw⟩ := hw
    refine va_callv (wo_runV hC lq_Md_270 (mq_Md_put hw) hG hS t9 rfl (lx_sz hl) rfl (Nat.zero_le _) (by decide) dq_Md_part_123 ⟨hc1, hs1⟩) hS (fun _ _ h => h) (fun _ h => h) (fun G12 t H locs ht hvm hw' hB _ _ hS => ?_)
    clear hw
    have hw := hw'
    clear hw'
    replace hG := wo_bk ht hB
    replace hcc := hc1
    replace hss := hs1
    refine lv_aload_n hx hb dq_Md_part_126 rfl (lx_at hl 0 rfl) ?_
    refine lv_bipush (v := (10 : Int32)) hx hb dq_Md_part_127 rfl ?_
    obtain ⟨t13, hw⟩ := hw
    obtain ⟨mc14, ms15, hc1, hs1, hw⟩ := hw
    refine va_callv (wo_runV hC lq_Md_270 (mq_Md_put hw) hG hS t13 rfl (lx_sz hl) rfl (Nat.zero_le _) (by decide) dq_Md_part_129 ⟨hc1, hs1⟩) hS (fun _ _ h => h) (fun _ h => h) (fun G16 t H locs ht hvm hw' hB _ _ hS => ?_)
    clear hw
    have hw := hw'
    clear hw'
    replace hG := wo_bk ht hB
    replace hcc := hc1
    replace hss := hs1
    refine lv_aload_n hx hb dq_Md_part_132 rfl (lx_at hl 0 rfl) ?_
    refine lv_bipush (v := (76 : Int32)) hx hb dq_Md_part_133 rfl ?_
    refine lv_aload_n hx hb dq_Md_part_135 rfl (lx_at hl 0 rfl) ?_
    obtain ⟨t17, hw⟩ := hw
    refine wo_getR hC fq_Md_171 rfl hG t17 dq_Md_part_136 (fun r18 e19 => ?_)
    replace hw := hw r18 e19
    refine lv_iconst (v := (0 : Int32)) hx hb dq_Md_part_139 rfl ?_
    obtain ⟨a20, rfl, hw⟩ := hw
    obtain ⟨t21, hw⟩ := hw
    obtain ⟨h22, hw⟩ := hw
    refine wo_iald (j := 2) hC rfl hG t21 h22 dq_Md_part_140 ?_
    refine lv_aload_n hx hb dq_Md_part_141 rfl (lx_at hl 0 rfl) ?_
    refine wo_getR hC fq_Md_168 rfl hG t17 dq_Md_part_142 (fun r23 e24 => ?_)
    replace hw := hw r23 e24
    refine lv_iconst (v := (0 : Int32)) hx hb dq_Md_part_145 rfl ?_
    obtain ⟨a25, rfl, hw⟩ := hw
    obtain ⟨t26, hw⟩ := hw
    obtain ⟨h27, hw⟩ := hw
    refine wo_iald (j := 2) hC rfl hG t26 h27 dq_Md_part_146 ?_
    refine lv_isub hx hb dq_Md_part_147 ?_
    refine lv_aload_n hx hb dq_Md_part_148 rfl (lx_at hl 0 rfl) ?_
    refine wo_getR hC fq_Md_171 rfl hG t17 dq_Md_part_149 (fun r28 e29 => ?_)
    replace hw := hw r28 e29
    refine lv_iconst (v := (1 : Int32)) hx hb dq_Md_part_152 rfl ?_
    obtain ⟨a30, rfl, hw⟩ := hw
    obtain ⟨t31, hw⟩ := hw
    obtain ⟨h32, hw⟩ := hw
    refine wo_iald (j := 2) hC rfl hG t31 h32 dq_Md_part_153 ?_
    refine lv_iadd hx hb dq_Md_part_154 ?_
    refine lv_aload_n hx hb dq_Md_part_155 rfl (lx_at hl 0 rfl) ?_
    refine wo_getR hC fq_Md_168 rfl hG t17 dq_Md_part_156 (fun r33 e34 => ?_)
    replace hw := hw r33 e34
    refine lv_iconst (v := (1 : Int32)) hx hb dq_Md_part_159 rfl ?_
    obtain ⟨a35, rfl, hw⟩ := hw
    obtain ⟨t36, hw⟩ := hw
    obtain ⟨h37, hw⟩ := hw
    refine wo_iald (j := 2) hC rfl hG t36 h37 dq_Md_part_160 ?_
    refine lv_isub hx hb dq_Md_part_161 ?_
    refine lv_bipush (v := (12 : Int32)) hx hb dq_Md_part_162 rfl ?_
    refine lv_iadd hx hb dq_Md_part_164 ?_
    obtain ⟨mc38, ms39, hc1, hs1, hw⟩ := hw
    refine va_callv (wo_runV hC lq_Md_283 (mq_Md_putLine hw) hG hS t17 rfl (lx_sz hl) rfl (Nat.zero_le _) (by decide) dq_Md_part_165 ⟨hc1, hs1⟩) hS (fun _ _ h => h) (fun _ h => h) (fun G40 t H locs ht hvm hw' hB _ _ hS => ?_)
    clear hw
    have hw := hw'
    clear hw'
    replace hG := wo_bk ht hB
    replace hcc := hc1
    replace hss := hs1
    refine lv_aload_n hx hb dq_Md_part_168 rfl (lx_at hl 0 rfl) ?_
    refine lv_bipush (v := (10 : Int32)) hx hb dq_Md_part_169 rfl ?_
    obtain ⟨t41, hw⟩ := hw
    obtain ⟨mc42, ms43, hc1, hs1, hw⟩ := hw
    refine va_callv (wo_runV hC lq_Md_270 (mq_Md_put hw) hG hS t41 rfl (lx_sz hl) rfl (Nat.zero_le _) (by decide) dq_Md_part_171 ⟨hc1, hs1⟩) hS (fun _ _ h => h) (fun _ h => h) (fun G44 t H locs ht hvm hw' hB _ _ hS => ?_)
    clear hw
    have hw := hw'
    clear hw'
    replace hG := wo_bk ht hB
    replace hcc := hc1
    replace hss := hs1
    refine lv_iconst (v := (0 : Int32)) hx hb dq_Md_part_174 rfl ?_
    refine lx_istore (lv' := [(4, 1, .int (0 : Int32)), (0, 1, .ref x0), (1, 1, .int x1), (2, 1, .int x2), (3, 1, .int x3)]) hx hb dq_Md_part_175 hl (by decide) rfl (fun ls hl' => ?_)
    clear hl
    have hl := hl'
    clear hl'
    obtain ⟨n1, hw⟩ := hw
    exact tq_Md_part_177 hC n1 hw hG hS (lx_sub hl [1, 2, 0] rfl) hcc hss
  · replace hw := hw.2 h
    refine lv_aload_n hx hb dq_Md_part_20 rfl (lx_at hl 0 rfl) ?_
    refine lv_aload_n hx hb dq_Md_part_21 rfl (lx_at hl 0 rfl) ?_
    obtain ⟨t45, hw⟩ := hw
    refine wo_getR hC fq_Md_168 rfl hG t45 dq_Md_part_22 (fun r46 e47 => ?_)
    replace hw := hw r46 e47
    refine lv_iconst (v := (0 : Int32)) hx hb dq_Md_part_25 rfl ?_
    obtain ⟨a48, rfl, hw⟩ := hw
    obtain ⟨t49, hw⟩ := hw
    obtain ⟨h50, hw⟩ := hw
    refine wo_iald (j := 2) hC rfl hG t49 h50 dq_Md_part_26 ?_
    obtain ⟨mc51, ms52, hc1, hs1, hw⟩ := hw
    refine va_callv (wo_runV hC lq_Md_277 (mq_Md_putNumber hw) hG hS t45 rfl (lx_sz hl) rfl (Nat.zero_le _) (by decide) dq_Md_part_27 ⟨hc1, hs1⟩) hS (fun _ _ h => h) (fun _ h => h) (fun G53 t H locs ht hvm hw' hB _ _ hS => ?_)
    clear hw
    have hw := hw'
    clear hw'
    replace hG := wo_bk ht hB
    replace hcc := hc1
    replace hss := hs1
    refine lv_aload_n hx hb dq_Md_part_30 rfl (lx_at hl 0 rfl) ?_
    refine lv_bipush (v := (45 : Int32)) hx hb dq_Md_part_31 rfl ?_
    obtain ⟨t54, hw⟩ := hw
    obtain ⟨mc55, ms56, hc1, hs1, hw⟩ := hw
    refine va_callv (wo_runV hC lq_Md_270 (mq_Md_put hw) hG hS t54 rfl (lx_sz hl) rfl (Nat.zero_le _) (by decide) dq_Md_part_33 ⟨hc1, hs1⟩) hS (fun _ _ h => h) (fun _ h => h) (fun G57 t H locs ht hvm hw' hB _ _ hS => ?_)
    clear hw
    have hw := hw'
    clear hw'
    replace hG := wo_bk ht hB
    replace hcc := hc1
    replace hss := hs1
    refine lv_aload_n hx hb dq_Md_part_36 rfl (lx_at hl 0 rfl) ?_
    refine lv_aload_n hx hb dq_Md_part_37 rfl (lx_at hl 0 rfl) ?_
    obtain ⟨t58, hw⟩ := hw
    refine wo_getR hC fq_Md_171 rfl hG t58 dq_Md_part_38 (fun r59 e60 => ?_)
    replace hw := hw r59 e60
    refine lv_iconst (v := (0 : Int32)) hx hb dq_Md_part_41 rfl ?_
    obtain ⟨a61, rfl, hw⟩ := hw
    obtain ⟨t62, hw⟩ := hw
    obtain ⟨h63, hw⟩ := hw
    refine wo_iald (j := 2) hC rfl hG t62 h63 dq_Md_part_42 ?_
    obtain ⟨mc64, ms65, hc1, hs1, hw⟩ := hw
    refine va_callv (wo_runV hC lq_Md_277 (mq_Md_putNumber hw) hG hS t58 rfl (lx_sz hl) rfl (Nat.zero_le _) (by decide) dq_Md_part_43 ⟨hc1, hs1⟩) hS (fun _ _ h => h) (fun _ h => h) (fun G66 t H locs ht hvm hw' hB _ _ hS => ?_)
    clear hw
    have hw := hw'
    clear hw'
    replace hG := wo_bk ht hB
    replace hcc := hc1
    replace hss := hs1
    refine lv_aload_n hx hb dq_Md_part_46 rfl (lx_at hl 0 rfl) ?_
    refine lv_bipush (v := (47 : Int32)) hx hb dq_Md_part_47 rfl ?_
    obtain ⟨t67, hw⟩ := hw
    obtain ⟨mc68, ms69, hc1, hs1, hw⟩ := hw
    refine va_callv (wo_runV hC lq_Md_270 (mq_Md_put hw) hG hS t67 rfl (lx_sz hl) rfl (Nat.zero_le _) (by decide) dq_Md_part_49 ⟨hc1, hs1⟩) hS (fun _ _ h => h) (fun _ h => h) (fun G70 t H locs ht hvm hw' hB _ _ hS => ?_)
    clear hw
    have hw := hw'
    clear hw'
    replace hG := wo_bk ht hB
    replace hcc := hc1
    replace hss := hs1
    refine lv_aload_n hx hb dq_Md_part_52 rfl (lx_at hl 0 rfl) ?_
    refine lv_aload_n hx hb dq_Md_part_53 rfl (lx_at hl 0 rfl) ?_
    obtain ⟨t71, hw⟩ := hw
    refine wo_getR hC fq_Md_105 rfl hG t71 dq_Md_part_54 (fun r72 e73 => ?_)
    replace hw := hw r72 e73
    refine lv_iload_n hx hb dq_Md_part_57 rfl (lx_at hl 1 rfl) ?_
    obtain ⟨a74, rfl, hw⟩ := hw
    obtain ⟨t75, hw⟩ := hw
    obtain ⟨h76, hw⟩ := hw
    refine wo_iald (j := 2) hC rfl hG t75 h76 dq_Md_part_58 ?_
    obtain ⟨mc77, ms78, hc1, hs1, hw⟩ := hw
    refine va_callv (wo_runV hC lq_Md_277 (mq_Md_putNumber hw) hG hS t71 rfl (lx_sz hl) rfl (Nat.zero_le _) (by decide) dq_Md_part_59 ⟨hc1, hs1⟩) hS (fun _ _ h => h) (fun _ h => h) (fun G79 t H locs ht hvm hw' hB _ _ hS => ?_)
    clear hw
    have hw := hw'
    clear hw'
    replace hG := wo_bk ht hB
    replace hcc := hc1
    replace hss := hs1
    refine lv_aload_n hx hb dq_Md_part_62 rfl (lx_at hl 0 rfl) ?_
    refine lv_bipush (v := (10 : Int32)) hx hb dq_Md_part_63 rfl ?_
    obtain ⟨t80, hw⟩ := hw
    obtain ⟨mc81, ms82, hc1, hs1, hw⟩ := hw
    refine va_callv (wo_runV hC lq_Md_270 (mq_Md_put hw) hG hS t80 rfl (lx_sz hl) rfl (Nat.zero_le _) (by decide) dq_Md_part_65 ⟨hc1, hs1⟩) hS (fun _ _ h => h) (fun _ h => h) (fun G83 t H locs ht hvm hw' hB _ _ hS => ?_)
    clear hw
    have hw := hw'
    clear hw'
    replace hG := wo_bk ht hB
    replace hcc := hc1
    replace hss := hs1
    refine lv_aload_n hx hb dq_Md_part_68 rfl (lx_at hl 0 rfl) ?_
    refine lv_bipush (v := (76 : Int32)) hx hb dq_Md_part_69 rfl ?_
    refine lv_aload_n hx hb dq_Md_part_71 rfl (lx_at hl 0 rfl) ?_
    obtain ⟨t84, hw⟩ := hw
    refine wo_getR hC fq_Md_171 rfl hG t84 dq_Md_part_72 (fun r85 e86 => ?_)
    replace hw := hw r85 e86
    refine lv_iconst (v := (0 : Int32)) hx hb dq_Md_part_75 rfl ?_
    obtain ⟨a87, rfl, hw⟩ := hw
    obtain ⟨t88, hw⟩ := hw
    obtain ⟨h89, hw⟩ := hw
    refine wo_iald (j := 2) hC rfl hG t88 h89 dq_Md_part_76 ?_
    refine lv_aload_n hx hb dq_Md_part_77 rfl (lx_at hl 0 rfl) ?_
    refine wo_getR hC fq_Md_168 rfl hG t84 dq_Md_part_78 (fun r90 e91 => ?_)
    replace hw := hw r90 e91
    refine lv_iconst (v := (0 : Int32)) hx hb dq_Md_part_81 rfl ?_
    obtain ⟨a92, rfl, hw⟩ := hw
    obtain ⟨t93, hw⟩ := hw
    obtain ⟨h94, hw⟩ := hw
    refine wo_iald (j := 2) hC rfl hG t93 h94 dq_Md_part_82 ?_
    refine lv_isub hx hb dq_Md_part_83 ?_
    refine lv_iconst (v := (1 : Int32)) hx hb dq_Md_part_84 rfl ?_
    refine lv_iadd hx hb dq_Md_part_85 ?_
    obtain ⟨mc95, ms96, hc1, hs1, hw⟩ := hw
    refine va_callv (wo_runV hC lq_Md_283 (mq_Md_putLine hw) hG hS t84 rfl (lx_sz hl) rfl (Nat.zero_le _) (by decide) dq_Md_part_86 ⟨hc1, hs1⟩) hS (fun _ _ h => h) (fun _ h => h) (fun G97 t H locs ht hvm hw' hB _ _ hS => ?_)
    clear hw
    have hw := hw'
    clear hw'
    replace hG := wo_bk ht hB
    replace hcc := hc1
    replace hss := hs1
    refine lv_aload_n hx hb dq_Md_part_89 rfl (lx_at hl 0 rfl) ?_
    refine lv_bipush (v := (10 : Int32)) hx hb dq_Md_part_90 rfl ?_
    obtain ⟨t98, hw⟩ := hw
    obtain ⟨mc99, ms100, hc1, hs1, hw⟩ := hw
    refine va_callv (wo_runV hC lq_Md_270 (mq_Md_put hw) hG hS t98 rfl (lx_sz hl) rfl (Nat.zero_le _) (by decide) dq_Md_part_92 ⟨hc1, hs1⟩) hS (fun _ _ h => h) (fun _ h => h) (fun G101 t H locs ht hvm hw' hB _ _ hS => ?_)
    clear hw
    have hw := hw'
    clear hw'
    replace hG := wo_bk ht hB
    replace hcc := hc1
    replace hss := hs1
    refine lv_aload_n hx hb dq_Md_part_95 rfl (lx_at hl 0 rfl) ?_
    refine lv_aload_n hx hb dq_Md_part_96 rfl (lx_at hl 0 rfl) ?_
    obtain ⟨t102, hw⟩ := hw
    refine wo_getR hC fq_Md_102 rfl hG t102 dq_Md_part_97 (fun r103 e104 => ?_)
    replace hw := hw r103 e104
    refine lv_iload_n hx hb dq_Md_part_100 rfl (lx_at hl 1 rfl) ?_
    obtain ⟨a105, rfl, hw⟩ := hw
    obtain ⟨t106, hw⟩ := hw
    obtain ⟨h107, hw⟩ := hw
    refine wo_lald (j := 9) hC rfl hG t106 h107 dq_Md_part_101 ?_
    refine lv_aload_n hx hb dq_Md_part_102 rfl (lx_at hl 0 rfl) ?_
    refine wo_getR hC fq_Md_168 rfl hG t102 dq_Md_part_103 (fun r108 e109 => ?_)
    replace hw := hw r108 e109
    refine lv_iconst (v := (0 : Int32)) hx hb dq_Md_part_106 rfl ?_
    obtain ⟨a110, rfl, hw⟩ := hw
    obtain ⟨t111, hw⟩ := hw
    obtain ⟨h112, hw⟩ := hw
    refine wo_iald (j := 2) hC rfl hG t111 h112 dq_Md_part_107 ?_
    refine lv_aload_n hx hb dq_Md_part_108 rfl (lx_at hl 0 rfl) ?_
    refine wo_getR hC fq_Md_171 rfl hG t102 dq_Md_part_109 (fun r113 e114 => ?_)
    replace hw := hw r113 e114
    refine lv_iconst (v := (0 : Int32)) hx hb dq_Md_part_112 rfl ?_
    obtain ⟨a115, rfl, hw⟩ := hw
    obtain ⟨t116, hw⟩ := hw
    obtain ⟨h117, hw⟩ := hw
    refine wo_iald (j := 2) hC rfl hG t116 h117 dq_Md_part_113 ?_
    refine lv_iconst (v := (1 : Int32)) hx hb dq_Md_part_114 rfl ?_
    refine lv_iadd hx hb dq_Md_part_115 ?_
    obtain ⟨mc118, ms119, hc1, hs1, hw⟩ := hw
    refine va_callv (wo_runV hC lq_Md_286 (mq_Md_putBytes hw) hG hS t102 rfl (lx_sz hl) rfl (Nat.zero_le _) (by decide) dq_Md_part_116 ⟨hc1, hs1⟩) hS (fun _ _ h => h) (fun _ h => h) (fun G120 t H locs ht hvm hw' hB _ _ hS => ?_)
    clear hw
    have hw := hw'
    clear hw'
    replace hG := wo_bk ht hB
    replace hcc := hc1
    replace hss := hs1
    exact wo_vret hC hG hS hcc hss hw dq_Md_part_119
set_option maxHeartbeats 4000000 in
theorem mq_Md_part {l : Launch} {E : wo_E} {mc ms : Nat} {Post : wo_W → Prop} {G : wo_W} {x0 : Nat} {x1 : Int32} {x2 : Int32} {x3 : Int32} (hw : pq_Md_part E mc ms Post G x0 x1 x2 x3) : Met l yq_Md_part (Cond.code yq_Md_part prog_14_method_33_code 5 ((Option.none : Option Jvm.ClassFile.FieldType)) :: vw_WG) { frames := 4, cells := mc, slots := ms, locals := 88 } (va_Pc [.ref x0, .int x1, .int x2, .int x3] (wo_Ok E G)) (va_Qv Post (wo_B E) (en_A E)) mc ms (en_A E) := by
  unfold pq_Md_part at hw
  exact wo_met [(1, .ref x0), (1, .int x1), (1, .int x2), (1, .int x3)] rfl (by decide) (fun q hq => by simp only [List.mem_cons, List.not_mem_nil, or_false] at hq; rcases hq with rfl | rfl | rfl | rfl <;> first | rfl | exact lx_cR _) (Nat.le_of_ble_eq_true rfl) (fun p e R s m args below meth cd ls hC hG hS hl => tq_Md_part_0 hC hw hG hS (lx_sub hl [0, 1, 2, 3] rfl) (Nat.zero_le _) (Nat.zero_le _))
