theorem dq_Al_grow_I_0 : decode prog_29_method_6_code 0 = .ok (.aload_n 0, 1) := by decide +kernel
theorem dq_Al_grow_I_1 : decode prog_29_method_6_code 1 = .ok (.getfield 9, 3) := by decide +kernel
theorem dq_Al_grow_I_4 : decode prog_29_method_6_code 4 = .ok (.arraylength, 1) := by decide +kernel
theorem dq_Al_grow_I_5 : decode prog_29_method_6_code 5 = .ok (.istore_n 2, 1) := by decide +kernel
theorem dq_Al_grow_I_6 : decode prog_29_method_6_code 6 = .ok (.iload_n 2, 1) := by decide +kernel
theorem dq_Al_grow_I_7 : decode prog_29_method_6_code 7 = .ok (.ifCond .gt 13, 3) := by decide +kernel
theorem dq_Al_grow_I_10 : decode prog_29_method_6_code 10 = .ok (.aload_n 0, 1) := by decide +kernel
theorem dq_Al_grow_I_11 : decode prog_29_method_6_code 11 = .ok (.getfield 9, 3) := by decide +kernel
theorem dq_Al_grow_I_14 : decode prog_29_method_6_code 14 = .ok (.getstatic 39, 3) := by decide +kernel
theorem dq_Al_grow_I_17 : decode prog_29_method_6_code 17 = .ok (.if_acmp .eq 28, 3) := by decide +kernel
theorem dq_Al_grow_I_20 : decode prog_29_method_6_code 20 = .ok (.iload_n 2, 1) := by decide +kernel
theorem dq_Al_grow_I_21 : decode prog_29_method_6_code 21 = .ok (.iload_n 1, 1) := by decide +kernel
theorem dq_Al_grow_I_22 : decode prog_29_method_6_code 22 = .ok (.iload_n 2, 1) := by decide +kernel
theorem dq_Al_grow_I_23 : decode prog_29_method_6_code 23 = .ok (.isub, 1) := by decide +kernel
theorem dq_Al_grow_I_24 : decode prog_29_method_6_code 24 = .ok (.iload_n 2, 1) := by decide +kernel
theorem dq_Al_grow_I_25 : decode prog_29_method_6_code 25 = .ok (.iconst 1, 1) := by decide +kernel
theorem dq_Al_grow_I_26 : decode prog_29_method_6_code 26 = .ok (.ishr, 1) := by decide +kernel
theorem dq_Al_grow_I_27 : decode prog_29_method_6_code 27 = .ok (.invokestatic 73, 3) := by decide +kernel
theorem dq_Al_grow_I_30 : decode prog_29_method_6_code 30 = .ok (.istore_n 3, 1) := by decide +kernel
theorem dq_Al_grow_I_31 : decode prog_29_method_6_code 31 = .ok (.aload_n 0, 1) := by decide +kernel
theorem dq_Al_grow_I_32 : decode prog_29_method_6_code 32 = .ok (.aload_n 0, 1) := by decide +kernel
theorem dq_Al_grow_I_33 : decode prog_29_method_6_code 33 = .ok (.getfield 9, 3) := by decide +kernel
theorem dq_Al_grow_I_36 : decode prog_29_method_6_code 36 = .ok (.iload_n 3, 1) := by decide +kernel
theorem dq_Al_grow_I_37 : decode prog_29_method_6_code 37 = .ok (.invokestatic 66, 3) := by decide +kernel
theorem dq_Al_grow_I_40 : decode prog_29_method_6_code 40 = .ok (.dup_x1, 1) := by decide +kernel
theorem dq_Al_grow_I_41 : decode prog_29_method_6_code 41 = .ok (.putfield 9, 3) := by decide +kernel
theorem dq_Al_grow_I_44 : decode prog_29_method_6_code 44 = .ok (.areturn, 1) := by decide +kernel
theorem dq_Al_grow_I_45 : decode prog_29_method_6_code 45 = .ok (.aload_n 0, 1) := by decide +kernel
theorem dq_Al_grow_I_46 : decode prog_29_method_6_code 46 = .ok (.bipush 10, 2) := by decide +kernel
theorem dq_Al_grow_I_48 : decode prog_29_method_6_code 48 = .ok (.iload_n 1, 1) := by decide +kernel
theorem dq_Al_grow_I_49 : decode prog_29_method_6_code 49 = .ok (.invokestatic 79, 3) := by decide +kernel
theorem dq_Al_grow_I_52 : decode prog_29_method_6_code 52 = .ok (.anewarray 7, 3) := by decide +kernel
theorem dq_Al_grow_I_55 : decode prog_29_method_6_code 55 = .ok (.dup_x1, 1) := by decide +kernel
theorem dq_Al_grow_I_56 : decode prog_29_method_6_code 56 = .ok (.putfield 9, 3) := by decide +kernel
theorem dq_Al_grow_I_59 : decode prog_29_method_6_code 59 = .ok (.areturn, 1) := by decide +kernel
set_option maxRecDepth 100000 in
def pq_Al_grow_I_20 (E : wo_E) (mc ms : Nat) (Post : Option Nat → wo_W → Prop) (G : wo_W) (c s : Nat) (x0 : Nat) (x1 : Int32) (x2 : Int32) : Prop := ∃ mc1 ms2 : Nat, (c + mc1) ≤ mc ∧ (s + ms2) ≤ ms ∧ pq_As_newLength E mc1 ms2 (fun v4 G3 => 
  wo_ty G3 x0 = 3 ∧ ∀ r6 : Option Nat, r6 = wo_gr G3 128 x0 → ∃ mc8 ms9 : Nat, ((c + mc1) + mc8) ≤ mc ∧ ((s + ms2) + ms9) ≤ ms ∧ pq_Ar_copyOf_aOI E mc8 ms9 (fun v11 G10 => 
    wo_ty G10 x0 = 3 ∧ en_bs E ≤ x0 ∧ ∀ G14 : wo_W, G14 = wo_sr G10 128 x0 v11 → 
      Post v11 G14) G3 r6 v4) G x2 (x1 - x2) (x2 >>> ((1 : Int32) &&& 31))
set_option maxRecDepth 100000 in
def pq_Al_grow_I_0 (E : wo_E) (mc ms : Nat) (Post : Option Nat → wo_W → Prop) (G : wo_W) (c s : Nat) (x0 : Nat) (x1 : Int32) : Prop := wo_ty G x0 = 3 ∧ ∀ r2 : Option Nat, r2 = wo_gr G 128 x0 → ∃ a4 : Nat, r2 = some a4 ∧ wo_ty G a4 = 71 ∧ (((0 : Int32) < (nI (wo_len G a4)) → pq_Al_grow_I_20 E mc ms Post G c s x0 x1 (nI (wo_len G a4))) ∧
  (¬ (0 : Int32) < (nI (wo_len G a4)) → ∀ r6 : Option Nat, r6 = wo_gr G 128 x0 → ((r6 = (some (en_sta E 0)) → ¬ (wo_max (10 : Int32) x1) < 0 ∧ (wo_max (10 : Int32) x1).toNatClampNeg ≤ 65536 ∧ (c + 1) ≤ mc ∧ (s + (wo_max (10 : Int32) x1).toNatClampNeg) ≤ ms ∧ ∀ q12 : Nat, wo_ty G q12 = 0 → en_bs E ≤ q12 → ∀ G15 : wo_W, G15 = wo_na G q12 71 (wo_max (10 : Int32) x1).toNatClampNeg → 
      en_bs E ≤ x0 ∧ ∀ G18 : wo_W, G18 = wo_sr G15 128 x0 (some q12) → 
      Post (some q12) G18) ∧
    (¬ r6 = (some (en_sta E 0)) → pq_Al_grow_I_20 E mc ms Post G c s x0 x1 (nI (wo_len G a4))))))
def pq_Al_grow_I (E : wo_E) (mc ms : Nat) (Post : Option Nat → wo_W → Prop) (G : wo_W) (x0 : Nat) (x1 : Int32) : Prop := pq_Al_grow_I_0 E mc ms Post G 0 0 x0 x1
set_option maxRecDepth 100000 in
set_option maxHeartbeats 4000000 in
theorem tq_Al_grow_I_20 {p : Program} {l : Launch} {e : Env} {R : Room} {s₀ : State} {m : MethodId} {args : Array Value} {below : List Frame} {meth : Method} {cd : Code} {E : wo_E} {mc ms : Nat} {Post : Option Nat → wo_W → Prop} (hC : wo_Cx E "java/util/ArrayList" prog_29_method_6_code 4 3 72 ((Option.some (Jvm.ClassFile.FieldType.array (Jvm.ClassFile.FieldType.object "java/lang/Object")))) "grow" mc ms p R s₀ m args meth cd) : ∀ {G : wo_W} {c s : Nat} {x0 : Nat} {x1 : Int32} {x2 : Int32}, pq_Al_grow_I_20 E mc ms Post G c s x0 x1 x2 → ∀ {H : Heap} {locs : List Loc} {ls : Array Slot}, wo_Se E G H → va_S (en_A E) s₀.heap H locs → lx_has ls 4 [(0, 1, .ref x0), (1, 1, .int x1), (2, 1, .int x2)] → c ≤ mc → s ≤ ms → W p l e R s₀ m args below meth cd H locs c s (MQ below (va_Qq Post (wo_B E) (en_A E)) args s₀ mc ms (en_A E)) (F0 m 20 ls []) := by
  intro G c s x0 x1 x2 hw H locs ls hG hS hl hcc hss
  dsimp only [pq_Al_grow_I_20] at hw
  have hx := hC.1
  have hb := hC.2.1
  refine lv_iload_n hx hb dq_Al_grow_I_20 rfl (lx_at hl 2 rfl) ?_
  refine lv_iload_n hx hb dq_Al_grow_I_21 rfl (lx_at hl 1 rfl) ?_
  refine lv_iload_n hx hb dq_Al_grow_I_22 rfl (lx_at hl 2 rfl) ?_
  refine lv_isub hx hb dq_Al_grow_I_23 ?_
  refine lv_iload_n hx hb dq_Al_grow_I_24 rfl (lx_at hl 2 rfl) ?_
  refine lv_iconst (v := (1 : Int32)) hx hb dq_Al_grow_I_25 rfl ?_
  refine lv_ishr hx hb dq_Al_grow_I_26 ?_
  obtain ⟨mc1, ms2, hc1, hs1, hw⟩ := hw
  refine va_calli (wo_runS hC lq_Al_73 (mq_As_newLength hw) hG hS rfl (lx_sz hl) rfl (Nat.zero_le _) (by decide) dq_Al_grow_I_27 ⟨hc1, hs1⟩) hS (fun _ _ h => h) (fun _ h => h) (fun v4 G3 t H locs ht hvm hw' hB _ _ hS => ?_)
  clear hw
  have hw := hw'
  clear hw'
  replace hG := wo_bk ht hB
  replace hcc := hc1
  replace hss := hs1
  refine lx_istore_n (lv' := [(3, 1, .int v4), (0, 1, .ref x0), (1, 1, .int x1), (2, 1, .int x2)]) hx hb dq_Al_grow_I_30 rfl hl (by decide) rfl (fun ls hl' => ?_)
  clear hl
  have hl := hl'
  clear hl'
  refine lv_aload_n hx hb dq_Al_grow_I_31 rfl (lx_at hl 1 rfl) ?_
  refine lv_aload_n hx hb dq_Al_grow_I_32 rfl (lx_at hl 1 rfl) ?_
  obtain ⟨t5, hw⟩ := hw
  refine wo_getR hC fq_Al_9 rfl hG t5 dq_Al_grow_I_33 (fun r6 e7 => ?_)
  replace hw := hw r6 e7
  refine lv_iload_n hx hb dq_Al_grow_I_36 rfl (lx_at hl 0 rfl) ?_
  obtain ⟨mc8, ms9, hc1, hs1, hw⟩ := hw
  refine va_callq (wo_runS hC lq_Al_66 (mq_Ar_copyOf_aOI hw) hG hS rfl (lx_sz hl) rfl (lx_rm (Nat.le_of_ble_eq_true rfl)) (by decide) dq_Al_grow_I_37 ⟨hc1, hs1⟩) hS (fun _ _ h => h) (fun _ h => h) (fun v11 G10 t H locs ht hvm hw' hB _ _ hS => ?_)
  clear hw
  have hw := hw'
  clear hw'
  replace hG := wo_bk ht hB
  replace hcc := hc1
  replace hss := hs1
  refine lv_dup_x1 hx hb dq_Al_grow_I_40 (lx_cR _) rfl ?_
  obtain ⟨t12, hw⟩ := hw
  obtain ⟨h13, hw⟩ := hw
  refine wo_putR (x := v11) hC fq_Al_9 (Or.inl rfl) rfl hG hS t12 h13 dq_Al_grow_I_41 (fun G14 H locs e15 hG hS => ?_)
  replace hw := hw G14 e15
  exact wo_aret (x := v11) hC rfl hG hS hcc hss hw dq_Al_grow_I_44
set_option maxRecDepth 100000 in
set_option maxHeartbeats 4000000 in
theorem tq_Al_grow_I_0 {p : Program} {l : Launch} {e : Env} {R : Room} {s₀ : State} {m : MethodId} {args : Array Value} {below : List Frame} {meth : Method} {cd : Code} {E : wo_E} {mc ms : Nat} {Post : Option Nat → wo_W → Prop} (hC : wo_Cx E "java/util/ArrayList" prog_29_method_6_code 4 3 72 ((Option.some (Jvm.ClassFile.FieldType.array (Jvm.ClassFile.FieldType.object "java/lang/Object")))) "grow" mc ms p R s₀ m args meth cd) : ∀ {G : wo_W} {c s : Nat} {x0 : Nat} {x1 : Int32}, pq_Al_grow_I_0 E mc ms Post G c s x0 x1 → ∀ {H : Heap} {locs : List Loc} {ls : Array Slot}, wo_Se E G H → va_S (en_A E) s₀.heap H locs → lx_has ls 4 [(0, 1, .ref x0), (1, 1, .int x1)] → c ≤ mc → s ≤ ms → W p l e R s₀ m args below meth cd H locs c s (MQ below (va_Qq Post (wo_B E) (en_A E)) args s₀ mc ms (en_A E)) (F0 m 0 ls []) := by
  intro G c s x0 x1 hw H locs ls hG hS hl hcc hss
  dsimp only [pq_Al_grow_I_0] at hw
  have hx := hC.1
  have hb := hC.2.1
  refine lv_aload_n hx hb dq_Al_grow_I_0 rfl (lx_at hl 0 rfl) ?_
  obtain ⟨t1, hw⟩ := hw
  refine wo_getR hC fq_Al_9 rfl hG t1 dq_Al_grow_I_1 (fun r2 e3 => ?_)
  replace hw := hw r2 e3
  obtain ⟨a4, rfl, hw⟩ := hw
  obtain ⟨t5, hw⟩ := hw
  refine wo_alen (j := 7) hC rfl hG t5 dq_Al_grow_I_4 ?_
  refine lx_istore_n (lv' := [(2, 1, .int (nI (wo_len G a4))), (0, 1, .ref x0), (1, 1, .int x1)]) hx hb dq_Al_grow_I_5 rfl hl (by decide) rfl (fun ls hl' => ?_)
  clear hl
  have hl := hl'
  clear hl'
  refine lv_iload_n hx hb dq_Al_grow_I_6 rfl (lx_at hl 0 rfl) ?_
  refine lv_if_gt (tgt := 20) hx hb dq_Al_grow_I_7 rfl (fun h => ?_) (fun h => ?_)
  · replace hw := hw.1 h
    exact tq_Al_grow_I_20 hC hw hG hS (lx_sub hl [1, 2, 0] rfl) hcc hss
  · replace hw := hw.2 h
    refine lv_aload_n hx hb dq_Al_grow_I_10 rfl (lx_at hl 1 rfl) ?_
    refine wo_getR hC fq_Al_9 rfl hG t1 dq_Al_grow_I_11 (fun r6 e7 => ?_)
    replace hw := hw r6 e7
    refine wo_gstA hC sq_Al_39 hS dq_Al_grow_I_14 ?_
    refine lv_acmp_eq (rx := r6) (ry := (some (en_sta E 0))) (tgt := 45) hx hb dq_Al_grow_I_17 rfl (fun h => ?_) (fun h => ?_)
    · replace hw := hw.1 h
      refine lv_aload_n hx hb dq_Al_grow_I_45 rfl (lx_at hl 1 rfl) ?_
      refine lv_bipush (v := (10 : Int32)) hx hb dq_Al_grow_I_46 rfl ?_
      refine lv_iload_n hx hb dq_Al_grow_I_48 rfl (lx_at hl 2 rfl) ?_
      refine wo_mmax hC lq_Al_79 (lx_sz hl) hcc hss (by decide) (lx_rk (Nat.le_of_ble_eq_true rfl)) dq_Al_grow_I_49 ?_
      obtain ⟨h8, hw⟩ := hw
      obtain ⟨h9, hw⟩ := hw
      obtain ⟨h10, hw⟩ := hw
      obtain ⟨h11, hw⟩ := hw
      refine wo_newq (j := 7) hC rfl (by decide) kq_Al_7 hG hS h8 h9 h10 h11 dq_Al_grow_I_52 (fun q12 G15 H z13 b14 e16 hG hS => ?_)
      replace hw := hw q12 z13 b14 G15 e16
      replace hcc := h10
      replace hss := h11
      refine lv_dup_x1 hx hb dq_Al_grow_I_55 rfl rfl ?_
      obtain ⟨h17, hw⟩ := hw
      refine wo_putR (x := (some q12)) hC fq_Al_9 (Or.inl rfl) rfl hG hS (ty_na (by decide) z13 e16 t1) h17 dq_Al_grow_I_56 (fun G18 H locs e19 hG hS => ?_)
      replace hw := hw G18 e19
      exact wo_aret (x := (some q12)) hC rfl hG hS hcc hss hw dq_Al_grow_I_59
    · replace hw := hw.2 h
      exact tq_Al_grow_I_20 hC hw hG hS (lx_sub hl [1, 2, 0] rfl) hcc hss
set_option maxHeartbeats 4000000 in
theorem mq_Al_grow_I {l : Launch} {E : wo_E} {mc ms : Nat} {Post : Option Nat → wo_W → Prop} {G : wo_W} {x0 : Nat} {x1 : Int32} (hw : pq_Al_grow_I E mc ms Post G x0 x1) : Met l yq_Al_grow_I (Cond.code yq_Al_grow_I prog_29_method_6_code 4 ((Option.some (Jvm.ClassFile.FieldType.array (Jvm.ClassFile.FieldType.object "java/lang/Object")))) :: vw_WG) { frames := 3, cells := mc, slots := ms, locals := 72 } (va_Pc [.ref x0, .int x1] (wo_Ok E G)) (va_Qq Post (wo_B E) (en_A E)) mc ms (en_A E) := by
  unfold pq_Al_grow_I at hw
  exact wo_met [(1, .ref x0), (1, .int x1)] rfl (by decide) (fun q hq => by simp only [List.mem_cons, List.not_mem_nil, or_false] at hq; rcases hq with rfl | rfl <;> first | rfl | exact lx_cR _) (Nat.le_of_ble_eq_true rfl) (fun p e R s m args below meth cd ls hC hG hS hl => tq_Al_grow_I_0 hC hw hG hS (lx_sub hl [0, 1] rfl) (Nat.zero_le _) (Nat.zero_le _))

theorem dq_Al_grow__0 : decode prog_29_method_7_code 0 = .ok (.aload_n 0, 1) := by decide +kernel
theorem dq_Al_grow__1 : decode prog_29_method_7_code 1 = .ok (.aload_n 0, 1) := by decide +kernel
theorem dq_Al_grow__2 : decode prog_29_method_7_code 2 = .ok (.getfield 48, 3) := by decide +kernel
theorem dq_Al_grow__5 : decode prog_29_method_7_code 5 = .ok (.iconst 1, 1) := by decide +kernel
theorem dq_Al_grow__6 : decode prog_29_method_7_code 6 = .ok (.iadd, 1) := by decide +kernel
theorem dq_Al_grow__7 : decode prog_29_method_7_code 7 = .ok (.invokevirtual 69, 3) := by decide +kernel
theorem dq_Al_grow__10 : decode prog_29_method_7_code 10 = .ok (.areturn, 1) := by decide +kernel
set_option maxRecDepth 100000 in
def pq_Al_grow__0 (E : wo_E) (mc ms : Nat) (Post : Option Nat → wo_W → Prop) (G : wo_W) (c s : Nat) (x0 : Nat) : Prop := wo_ty G x0 = 3 ∧ ∃ mc2 ms3 : Nat, (c + mc2) ≤ mc ∧ (s + ms3) ≤ ms ∧ pq_Al_grow_I E mc2 ms3 (fun v5 G4 => 
  Post v5 G4) G x0 ((wo_gi G 129 x0) + (1 : Int32))
def pq_Al_grow_ (E : wo_E) (mc ms : Nat) (Post : Option Nat → wo_W → Prop) (G : wo_W) (x0 : Nat) : Prop := pq_Al_grow__0 E mc ms Post G 0 0 x0
set_option maxRecDepth 100000 in
set_option maxHeartbeats 4000000 in
theorem tq_Al_grow__0 {p : Program} {l : Launch} {e : Env} {R : Room} {s₀ : State} {m : MethodId} {args : Array Value} {below : List Frame} {meth : Method} {cd : Code} {E : wo_E} {mc ms : Nat} {Post : Option Nat → wo_W → Prop} (hC : wo_Cx E "java/util/ArrayList" prog_29_method_7_code 1 4 95 ((Option.some (Jvm.ClassFile.FieldType.array (Jvm.ClassFile.FieldType.object "java/lang/Object")))) "grow" mc ms p R s₀ m args meth cd) : ∀ {G : wo_W} {c s : Nat} {x0 : Nat}, pq_Al_grow__0 E mc ms Post G c s x0 → ∀ {H : Heap} {locs : List Loc} {ls : Array Slot}, wo_Se E G H → va_S (en_A E) s₀.heap H locs → lx_has ls 1 [(0, 1, .ref x0)] → c ≤ mc → s ≤ ms → W p l e R s₀ m args below meth cd H locs c s (MQ below (va_Qq Post (wo_B E) (en_A E)) args s₀ mc ms (en_A E)) (F0 m 0 ls []) := by
  intro G c s x0 hw H locs ls hG hS hl hcc hss
  dsimp only [pq_Al_grow__0] at hw
  have hx := hC.1
  have hb := hC.2.1
  refine lv_aload_n hx hb dq_Al_grow__0 rfl (lx_at hl 0 rfl) ?_
  refine lv_aload_n hx hb dq_Al_grow__1 rfl (lx_at hl 0 rfl) ?_
  obtain ⟨t1, hw⟩ := hw
  refine wo_getI hC fq_Al_48 rfl hG t1 dq_Al_grow__2 ?_
  refine lv_iconst (v := (1 : Int32)) hx hb dq_Al_grow__5 rfl ?_
  refine lv_iadd hx hb dq_Al_grow__6 ?_
  obtain ⟨mc2, ms3, hc1, hs1, hw⟩ := hw
  refine va_callq (wo_runV hC lq_Al_69 (mq_Al_grow_I hw) hG hS t1 rfl (lx_sz hl) rfl (Nat.zero_le _) (by decide) dq_Al_grow__7 ⟨hc1, hs1⟩) hS (fun _ _ h => h) (fun _ h => h) (fun v5 G4 t H locs ht hvm hw' hB _ _ hS => ?_)
  clear hw
  have hw := hw'
  clear hw'
  replace hG := wo_bk ht hB
  replace hcc := hc1
  replace hss := hs1
  exact wo_aret (x := v5) hC rfl hG hS hcc hss hw dq_Al_grow__10
set_option maxHeartbeats 4000000 in
theorem mq_Al_grow_ {l : Launch} {E : wo_E} {mc ms : Nat} {Post : Option Nat → wo_W → Prop} {G : wo_W} {x0 : Nat} (hw : pq_Al_grow_ E mc ms Post G x0) : Met l yq_Al_grow_ (Cond.code yq_Al_grow_ prog_29_method_7_code 1 ((Option.some (Jvm.ClassFile.FieldType.array (Jvm.ClassFile.FieldType.object "java/lang/Object")))) :: vw_WG) { frames := 4, cells := mc, slots := ms, locals := 95 } (va_Pc [.ref x0] (wo_Ok E G)) (va_Qq Post (wo_B E) (en_A E)) mc ms (en_A E) := by
  unfold pq_Al_grow_ at hw
  exact wo_met [(1, .ref x0)] rfl (by decide) (fun q hq => by simp only [List.mem_cons, List.not_mem_nil, or_false] at hq; rcases hq with rfl <;> first | rfl | exact lx_cR _) (Nat.le_of_ble_eq_true rfl) (fun p e R s m args below meth cd ls hC hG hS hl => tq_Al_grow__0 hC hw hG hS (lx_sub hl [0] rfl) (Nat.zero_le _) (Nat.zero_le _))

theorem dq_Al_add_OaOI_0 : decode prog_29_method_24_code 0 = .ok (.iload_n 3, 1) := by decide +kernel
theorem dq_Al_add_OaOI_1 : decode prog_29_method_24_code 1 = .ok (.aload_n 2, 1) := by decide +kernel
theorem dq_Al_add_OaOI_2 : decode prog_29_method_24_code 2 = .ok (.arraylength, 1) := by decide +kernel
theorem dq_Al_add_OaOI_3 : decode prog_29_method_24_code 3 = .ok (.if_icmp .ne 8, 3) := by decide +kernel
theorem dq_Al_add_OaOI_6 : decode prog_29_method_24_code 6 = .ok (.aload_n 0, 1) := by decide +kernel
theorem dq_Al_add_OaOI_7 : decode prog_29_method_24_code 7 = .ok (.invokevirtual 129, 3) := by decide +kernel
theorem dq_Al_add_OaOI_10 : decode prog_29_method_24_code 10 = .ok (.astore_n 2, 1) := by decide +kernel
theorem dq_Al_add_OaOI_11 : decode prog_29_method_24_code 11 = .ok (.aload_n 2, 1) := by decide +kernel
theorem dq_Al_add_OaOI_12 : decode prog_29_method_24_code 12 = .ok (.iload_n 3, 1) := by decide +kernel
theorem dq_Al_add_OaOI_13 : decode prog_29_method_24_code 13 = .ok (.aload_n 1, 1) := by decide +kernel
theorem dq_Al_add_OaOI_14 : decode prog_29_method_24_code 14 = .ok (.aastore, 1) := by decide +kernel
theorem dq_Al_add_OaOI_15 : decode prog_29_method_24_code 15 = .ok (.aload_n 0, 1) := by decide +kernel
theorem dq_Al_add_OaOI_16 : decode prog_29_method_24_code 16 = .ok (.iload_n 3, 1) := by decide +kernel
theorem dq_Al_add_OaOI_17 : decode prog_29_method_24_code 17 = .ok (.iconst 1, 1) := by decide +kernel
theorem dq_Al_add_OaOI_18 : decode prog_29_method_24_code 18 = .ok (.iadd, 1) := by decide +kernel
theorem dq_Al_add_OaOI_19 : decode prog_29_method_24_code 19 = .ok (.putfield 48, 3) := by decide +kernel
theorem dq_Al_add_OaOI_22 : decode prog_29_method_24_code 22 = .ok (.return_, 1) := by decide +kernel
set_option maxRecDepth 100000 in
def pq_Al_add_OaOI_11 (E : wo_E) (mc ms : Nat) (Post : wo_W → Prop) (G : wo_W) (c s : Nat) (x0 : Nat) (x1 : Option Nat) (x2 : Option Nat) (x3 : Int32) : Prop := ∃ a1 : Nat, x2 = some a1 ∧ wo_ty G a1 = 71 ∧ vp_in x3 (wo_len G a1) ∧ en_bs E ≤ a1 ∧ wo_may G 7 x1 ∧ ∀ G6 : wo_W, G6 = wo_ser G a1 x3.toNatClampNeg x1 → 
  wo_ty G6 x0 = 3 ∧ en_bs E ≤ x0 ∧ ∀ G10 : wo_W, G10 = wo_si G6 129 x0 (x3 + (1 : Int32)) → 
  Post G10
set_option maxRecDepth 100000 in
def pq_Al_add_OaOI_0 (E : wo_E) (mc ms : Nat) (Post : wo_W → Prop) (G : wo_W) (c s : Nat) (x0 : Nat) (x1 : Option Nat) (x2 : Option Nat) (x3 : Int32) : Prop := ∃ a1 : Nat, x2 = some a1 ∧ wo_ty G a1 = 71 ∧ ((¬ x3 = (nI (wo_len G a1)) → pq_Al_add_OaOI_11 E mc ms Post G c s x0 x1 (some a1) x3) ∧
  (x3 = (nI (wo_len G a1)) → wo_ty G x0 = 3 ∧ ∃ mc4 ms5 : Nat, (c + mc4) ≤ mc ∧ (s + ms5) ≤ ms ∧ pq_Al_grow_ E mc4 ms5 (fun v7 G6 => 
    pq_Al_add_OaOI_11 E mc ms Post G6 (c + mc4) (s + ms5) x0 x1 v7 x3) G x0))
def pq_Al_add_OaOI (E : wo_E) (mc ms : Nat) (Post : wo_W → Prop) (G : wo_W) (x0 : Nat) (x1 : Option Nat) (x2 : Option Nat) (x3 : Int32) : Prop := pq_Al_add_OaOI_0 E mc ms Post G 0 0 x0 x1 x2 x3
set_option maxRecDepth 100000 in
set_option maxHeartbeats 4000000 in
theorem tq_Al_add_OaOI_11 {p : Program} {l : Launch} {e : Env} {R : Room} {s₀ : State} {m : MethodId} {args : Array Value} {below : List Frame} {meth : Method} {cd : Code} {E : wo_E} {mc ms : Nat} {Post : wo_W → Prop} (hC : wo_Cx E "java/util/ArrayList" prog_29_method_24_code 4 5 115 ((Option.none : Option Jvm.ClassFile.FieldType)) "add" mc ms p R s₀ m args meth cd) : ∀ {G : wo_W} {c s : Nat} {x0 : Nat} {x1 : Option Nat} {x2 : Option Nat} {x3 : Int32}, pq_Al_add_OaOI_11 E mc ms Post G c s x0 x1 x2 x3 → ∀ {H : Heap} {locs : List Loc} {ls : Array Slot}, wo_Se E G H → va_S (en_A E) s₀.heap H locs → lx_has ls 4 [(0, 1, .ref x0), (1, 1, va_rf x1), (2, 1, va_rf x2), (3, 1, .int x3)] → c ≤ mc → s ≤ ms → W p l e R s₀ m args below meth cd H locs c s (MQ below (va_Qv Post (wo_B E) (en_A E)) args s₀ mc ms (en_A E)) (F0 m 11 ls []) := by
  intro G c s x0 x1 x2 x3 hw H locs ls hG hS hl hcc hss
  dsimp only [pq_Al_add_OaOI_11] at hw
  have hx := hC.1
  have hb := hC.2.1
  refine lx_aloadR_n hx hb dq_Al_add_OaOI_11 rfl (lx_at hl 2 rfl) ?_
  refine lv_iload_n hx hb dq_Al_add_OaOI_12 rfl (lx_at hl 3 rfl) ?_
  refine lx_aloadR_n hx hb dq_Al_add_OaOI_13 rfl (lx_at hl 1 rfl) ?_
  obtain ⟨a1, rfl, hw⟩ := hw
  obtain ⟨t2, hw⟩ := hw
  obtain ⟨h3, hw⟩ := hw
  obtain ⟨h4, hw⟩ := hw
  obtain ⟨h5, hw⟩ := hw
  refine wo_aast (x := x1) (j := 7) hC rfl hG hS t2 h3 h4 h5 dq_Al_add_OaOI_14 (fun G6 H locs e7 hG hS => ?_)
  replace hw := hw G6 e7
  refine lv_aload_n hx hb dq_Al_add_OaOI_15 rfl (lx_at hl 0 rfl) ?_
  refine lv_iload_n hx hb dq_Al_add_OaOI_16 rfl (lx_at hl 3 rfl) ?_
  refine lv_iconst (v := (1 : Int32)) hx hb dq_Al_add_OaOI_17 rfl ?_
  refine lv_iadd hx hb dq_Al_add_OaOI_18 ?_
  obtain ⟨t8, hw⟩ := hw
  obtain ⟨h9, hw⟩ := hw
  refine wo_putI hC fq_Al_48 (Or.inl rfl) rfl (wo_ok_int _) hG hS t8 h9 dq_Al_add_OaOI_19 (fun G10 H locs e11 hG hS => ?_)
  replace hw := hw G10 e11
  exact wo_vret hC hG hS hcc hss hw dq_Al_add_OaOI_22
set_option maxRecDepth 100000 in
set_option maxHeartbeats 4000000 in
theorem tq_Al_add_OaOI_0 {p : Program} {l : Launch} {e : Env} {R : Room} {s₀ : State} {m : MethodId} {args : Array Value} {below : List Frame} {meth : Method} {cd : Code} {E : wo_E} {mc ms : Nat} {Post : wo_W → Prop} (hC : wo_Cx E "java/util/ArrayList" prog_29_method_24_code 4 5 115 ((Option.none : Option Jvm.ClassFile.FieldType)) "add" mc ms p R s₀ m args meth cd) : ∀ {G : wo_W} {c s : Nat} {x0 : Nat} {x1 : Option Nat} {x2 : Option Nat} {x3 : Int32}, pq_Al_add_OaOI_0 E mc ms Post G c s x0 x1 x2 x3 → ∀ {H : Heap} {locs : List Loc} {ls : Array Slot}, wo_Se E G H → va_S (en_A E) s₀.heap H locs → lx_has ls 4 [(0, 1, .ref x0), (1, 1, va_rf x1), (2, 1, va_rf x2), (3, 1, .int x3)] → c ≤ mc → s ≤ ms → W p l e R s₀ m args below meth cd H locs c s (MQ below (va_Qv Post (wo_B E) (en_A E)) args s₀ mc ms (en_A E)) (F0 m 0 ls []) := by
  intro G c s x0 x1 x2 x3 hw H locs ls hG hS hl hcc hss
  dsimp only [pq_Al_add_OaOI_0] at hw
  have hx := hC.1
  have hb := hC.2.1
  refine lv_iload_n hx hb dq_Al_add_OaOI_0 rfl (lx_at hl 3 rfl) ?_
  refine lx_aloadR_n hx hb dq_Al_add_OaOI_1 rfl (lx_at hl 2 rfl) ?_
  obtain ⟨a1, rfl, hw⟩ := hw
  obtain ⟨t2, hw⟩ := hw
  refine wo_alen (j := 7) hC rfl hG t2 dq_Al_add_OaOI_2 ?_
  refine lv_icmp_ne (tgt := 11) hx hb dq_Al_add_OaOI_3 rfl (fun h => ?_) (fun h => ?_)
  · replace hw := hw.1 h
    exact tq_Al_add_OaOI_11 hC hw hG hS (lx_sub hl [0, 1, 2, 3] rfl) hcc hss
  · replace hw := hw.2 h
    refine lv_aload_n hx hb dq_Al_add_OaOI_6 rfl (lx_at hl 0 rfl) ?_
    obtain ⟨t3, hw⟩ := hw
    obtain ⟨mc4, ms5, hc1, hs1, hw⟩ := hw
    refine va_callq (wo_runV hC lq_Al_129 (mq_Al_grow_ hw) hG hS t3 rfl (lx_sz hl) rfl (Nat.zero_le _) (by decide) dq_Al_add_OaOI_7 ⟨hc1, hs1⟩) hS (fun _ _ h => h) (fun _ h => h) (fun v7 G6 t H locs ht hvm hw' hB _ _ hS => ?_)
    clear hw
    have hw := hw'
    clear hw'
    replace hG := wo_bk ht hB
    replace hcc := hc1
    replace hss := hs1
    refine lx_astoreR_n (lv' := [(2, 1, va_rf v7), (0, 1, .ref x0), (1, 1, va_rf x1), (3, 1, .int x3)]) hx hb dq_Al_add_OaOI_10 rfl hl (by decide) rfl (fun ls hl' => ?_)
    clear hl
    have hl := hl'
    clear hl'
    exact tq_Al_add_OaOI_11 hC hw hG hS (lx_sub hl [1, 2, 0, 3] rfl) hcc hss
set_option maxHeartbeats 4000000 in
theorem mq_Al_add_OaOI {l : Launch} {E : wo_E} {mc ms : Nat} {Post : wo_W → Prop} {G : wo_W} {x0 : Nat} {x1 : Option Nat} {x2 : Option Nat} {x3 : Int32} (hw : pq_Al_add_OaOI E mc ms Post G x0 x1 x2 x3) : Met l yq_Al_add_OaOI (Cond.code yq_Al_add_OaOI prog_29_method_24_code 4 ((Option.none : Option Jvm.ClassFile.FieldType)) :: vw_WG) { frames := 5, cells := mc, slots := ms, locals := 115 } (va_Pc [.ref x0, va_rf x1, va_rf x2, .int x3] (wo_Ok E G)) (va_Qv Post (wo_B E) (en_A E)) mc ms (en_A E) := by
  unfold pq_Al_add_OaOI at hw
  exact wo_met [(1, .ref x0), (1, va_rf x1), (1, va_rf x2), (1, .int x3)] rfl (by decide) (fun q hq => by simp only [List.mem_cons, List.not_mem_nil, or_false] at hq; rcases hq with rfl | rfl | rfl | rfl <;> first | rfl | exact lx_cR _) (Nat.le_of_ble_eq_true rfl) (fun p e R s m args below meth cd ls hC hG hS hl => tq_Al_add_OaOI_0 hC hw hG hS (lx_sub hl [0, 1, 2, 3] rfl) (Nat.zero_le _) (Nat.zero_le _))

theorem dq_Al_add_O_0 : decode prog_29_method_25_code 0 = .ok (.aload_n 0, 1) := by decide +kernel
theorem dq_Al_add_O_1 : decode prog_29_method_25_code 1 = .ok (.dup, 1) := by decide +kernel
theorem dq_Al_add_O_2 : decode prog_29_method_25_code 2 = .ok (.getfield 63, 3) := by decide +kernel
theorem dq_Al_add_O_5 : decode prog_29_method_25_code 5 = .ok (.iconst 1, 1) := by decide +kernel
theorem dq_Al_add_O_6 : decode prog_29_method_25_code 6 = .ok (.iadd, 1) := by decide +kernel
theorem dq_Al_add_O_7 : decode prog_29_method_25_code 7 = .ok (.putfield 63, 3) := by decide +kernel
theorem dq_Al_add_O_10 : decode prog_29_method_25_code 10 = .ok (.aload_n 0, 1) := by decide +kernel
theorem dq_Al_add_O_11 : decode prog_29_method_25_code 11 = .ok (.aload_n 1, 1) := by decide +kernel
theorem dq_Al_add_O_12 : decode prog_29_method_25_code 12 = .ok (.aload_n 0, 1) := by decide +kernel
theorem dq_Al_add_O_13 : decode prog_29_method_25_code 13 = .ok (.getfield 9, 3) := by decide +kernel
theorem dq_Al_add_O_16 : decode prog_29_method_25_code 16 = .ok (.aload_n 0, 1) := by decide +kernel
theorem dq_Al_add_O_17 : decode prog_29_method_25_code 17 = .ok (.getfield 48, 3) := by decide +kernel
theorem dq_Al_add_O_20 : decode prog_29_method_25_code 20 = .ok (.invokevirtual 131, 3) := by decide +kernel
theorem dq_Al_add_O_23 : decode prog_29_method_25_code 23 = .ok (.iconst 1, 1) := by decide +kernel
theorem dq_Al_add_O_24 : decode prog_29_method_25_code 24 = .ok (.ireturn, 1) := by decide +kernel
set_option maxRecDepth 100000 in
def pq_Al_add_O_0 (E : wo_E) (mc ms : Nat) (Post : Int32 → wo_W → Prop) (G : wo_W) (c s : Nat) (x0 : Nat) (x1 : Option Nat) : Prop := wo_ty G x0 = 3 ∧ en_bs E ≤ x0 ∧ ∀ G3 : wo_W, G3 = wo_si G 130 x0 ((wo_gi G 130 x0) + (1 : Int32)) → 
  ∀ r5 : Option Nat, r5 = wo_gr G3 128 x0 → ∃ mc7 ms8 : Nat, (c + mc7) ≤ mc ∧ (s + ms8) ≤ ms ∧ pq_Al_add_OaOI E mc7 ms8 (fun G9 => 
  Post (1 : Int32) G9) G3 x0 x1 r5 (wo_gi G3 129 x0)
def pq_Al_add_O (E : wo_E) (mc ms : Nat) (Post : Int32 → wo_W → Prop) (G : wo_W) (x0 : Nat) (x1 : Option Nat) : Prop := pq_Al_add_O_0 E mc ms Post G 0 0 x0 x1
set_option maxRecDepth 100000 in
set_option maxHeartbeats 4000000 in
theorem tq_Al_add_O_0 {p : Program} {l : Launch} {e : Env} {R : Room} {s₀ : State} {m : MethodId} {args : Array Value} {below : List Frame} {meth : Method} {cd : Code} {E : wo_E} {mc ms : Nat} {Post : Int32 → wo_W → Prop} (hC : wo_Cx E "java/util/ArrayList" prog_29_method_25_code 2 6 138 ((Option.some Jvm.ClassFile.FieldType.boolean)) "add" mc ms p R s₀ m args meth cd) : ∀ {G : wo_W} {c s : Nat} {x0 : Nat} {x1 : Option Nat}, pq_Al_add_O_0 E mc ms Post G c s x0 x1 → ∀ {H : Heap} {locs : List Loc} {ls : Array Slot}, wo_Se E G H → va_S (en_A E) s₀.heap H locs → lx_has ls 2 [(0, 1, .ref x0), (1, 1, va_rf x1)] → c ≤ mc → s ≤ ms → W p l e R s₀ m args below meth cd H locs c s (MQ below (va_Qi Post (wo_B E) (en_A E)) args s₀ mc ms (en_A E)) (F0 m 0 ls []) := by
  intro G c s x0 x1 hw H locs ls hG hS hl hcc hss
  dsimp only [pq_Al_add_O_0] at hw
  have hx := hC.1
  have hb := hC.2.1
  refine lv_aload_n hx hb dq_Al_add_O_0 rfl (lx_at hl 0 rfl) ?_
  refine lv_dup hx hb dq_Al_add_O_1 rfl ?_
  obtain ⟨t1, hw⟩ := hw
  refine wo_getI hC fq_Al_63 rfl hG t1 dq_Al_add_O_2 ?_
  refine lv_iconst (v := (1 : Int32)) hx hb dq_Al_add_O_5 rfl ?_
  refine lv_iadd hx hb dq_Al_add_O_6 ?_
  obtain ⟨h2, hw⟩ := hw
  refine wo_putI hC fq_Al_63 (Or.inl rfl) rfl (wo_ok_int _) hG hS t1 h2 dq_Al_add_O_7 (fun G3 H locs e4 hG hS => ?_)
  replace hw := hw G3 e4
  refine lv_aload_n hx hb dq_Al_add_O_10 rfl (lx_at hl 0 rfl) ?_
  refine lx_aloadR_n hx hb dq_Al_add_O_11 rfl (lx_at hl 1 rfl) ?_
  refine lv_aload_n hx hb dq_Al_add_O_12 rfl (lx_at hl 0 rfl) ?_
  refine wo_getR hC fq_Al_9 rfl hG (ty_si e4 t1) dq_Al_add_O_13 (fun r5 e6 => ?_)
  replace hw := hw r5 e6
  refine lv_aload_n hx hb dq_Al_add_O_16 rfl (lx_at hl 0 rfl) ?_
  refine wo_getI hC fq_Al_48 rfl hG (ty_si e4 t1) dq_Al_add_O_17 ?_
  obtain ⟨mc7, ms8, hc1, hs1, hw⟩ := hw
  refine va_callv (wo_runV hC lq_Al_131 (mq_Al_add_OaOI hw) hG hS (ty_si e4 t1) rfl (lx_sz hl) rfl (Nat.zero_le _) (by decide) dq_Al_add_O_20 ⟨hc1, hs1⟩) hS (fun _ _ h => h) (fun _ h => h) (fun G9 t H locs ht hvm hw' hB _ _ hS => ?_)
  clear hw
  have hw := hw'
  clear hw'
  replace hG := wo_bk ht hB
  replace hcc := hc1
  replace hss := hs1
  refine lv_iconst (v := (1 : Int32)) hx hb dq_Al_add_O_23 rfl ?_
  exact wo_zret hC wo_z1 hG hS hcc hss hw dq_Al_add_O_24
set_option maxHeartbeats 4000000 in
theorem mq_Al_add_O {l : Launch} {E : wo_E} {mc ms : Nat} {Post : Int32 → wo_W → Prop} {G : wo_W} {x0 : Nat} {x1 : Option Nat} (hw : pq_Al_add_O E mc ms Post G x0 x1) : Met l yq_Al_add_O (Cond.code yq_Al_add_O prog_29_method_25_code 2 ((Option.some Jvm.ClassFile.FieldType.boolean)) :: vw_WG) { frames := 6, cells := mc, slots := ms, locals := 138 } (va_Pc [.ref x0, va_rf x1] (wo_Ok E G)) (va_Qi Post (wo_B E) (en_A E)) mc ms (en_A E) := by
  unfold pq_Al_add_O at hw
  exact wo_met [(1, .ref x0), (1, va_rf x1)] rfl (by decide) (fun q hq => by simp only [List.mem_cons, List.not_mem_nil, or_false] at hq; rcases hq with rfl | rfl <;> first | rfl | exact lx_cR _) (Nat.le_of_ble_eq_true rfl) (fun p e R s m args below meth cd ls hC hG hS hl => tq_Al_add_O_0 hC hw hG hS (lx_sub hl [0, 1] rfl) (Nat.zero_le _) (Nat.zero_le _))

theorem dq_So_use_0 : decode prog_10_method_4_code 0 = .ok (.iconst 0, 1) := by decide +kernel
theorem dq_So_use_1 : decode prog_10_method_4_code 1 = .ok (.istore_n 2, 1) := by decide +kernel
theorem dq_So_use_2 : decode prog_10_method_4_code 2 = .ok (.iload_n 2, 1) := by decide +kernel
theorem dq_So_use_3 : decode prog_10_method_4_code 3 = .ok (.aload_n 0, 1) := by decide +kernel
theorem dq_So_use_4 : decode prog_10_method_4_code 4 = .ok (.getfield 10, 3) := by decide +kernel
theorem dq_So_use_7 : decode prog_10_method_4_code 7 = .ok (.invokevirtual 20, 3) := by decide +kernel
theorem dq_So_use_10 : decode prog_10_method_4_code 10 = .ok (.if_icmp .ge 40, 3) := by decide +kernel
theorem dq_So_use_13 : decode prog_10_method_4_code 13 = .ok (.aload_n 0, 1) := by decide +kernel
theorem dq_So_use_14 : decode prog_10_method_4_code 14 = .ok (.getfield 10, 3) := by decide +kernel
theorem dq_So_use_17 : decode prog_10_method_4_code 17 = .ok (.iload_n 2, 1) := by decide +kernel
theorem dq_So_use_18 : decode prog_10_method_4_code 18 = .ok (.invokevirtual 24, 3) := by decide +kernel
theorem dq_So_use_21 : decode prog_10_method_4_code 21 = .ok (.aload_n 1, 1) := by decide +kernel
theorem dq_So_use_22 : decode prog_10_method_4_code 22 = .ok (.if_acmp .ne 22, 3) := by decide +kernel
theorem dq_So_use_25 : decode prog_10_method_4_code 25 = .ok (.aload_n 0, 1) := by decide +kernel
theorem dq_So_use_26 : decode prog_10_method_4_code 26 = .ok (.getfield 10, 3) := by decide +kernel
theorem dq_So_use_29 : decode prog_10_method_4_code 29 = .ok (.iload_n 2, 1) := by decide +kernel
theorem dq_So_use_30 : decode prog_10_method_4_code 30 = .ok (.invokevirtual 34, 3) := by decide +kernel
theorem dq_So_use_33 : decode prog_10_method_4_code 33 = .ok (.pop, 1) := by decide +kernel
theorem dq_So_use_34 : decode prog_10_method_4_code 34 = .ok (.aload_n 0, 1) := by decide +kernel
theorem dq_So_use_35 : decode prog_10_method_4_code 35 = .ok (.getfield 10, 3) := by decide +kernel
theorem dq_So_use_38 : decode prog_10_method_4_code 38 = .ok (.aload_n 1, 1) := by decide +kernel
theorem dq_So_use_39 : decode prog_10_method_4_code 39 = .ok (.invokevirtual 37, 3) := by decide +kernel
theorem dq_So_use_42 : decode prog_10_method_4_code 42 = .ok (.pop, 1) := by decide +kernel
theorem dq_So_use_43 : decode prog_10_method_4_code 43 = .ok (.return_, 1) := by decide +kernel
theorem dq_So_use_44 : decode prog_10_method_4_code 44 = .ok (.iinc 2 1, 3) := by decide +kernel
theorem dq_So_use_47 : decode prog_10_method_4_code 47 = .ok (.goto (-45), 3) := by decide +kernel
theorem dq_So_use_50 : decode prog_10_method_4_code 50 = .ok (.return_, 1) := by decide +kernel
set_option maxRecDepth 100000 in
def pq_So_use_2 (E : wo_E) (mc ms : Nat) (Post : wo_W → Prop) : Nat → wo_W → Nat → Nat → Nat → Option Nat → Int32 → Prop
  | 0 => fun _ _ _ _ _ _ => False
  | n + 1 => fun G c s x0 x1 x2 => wo_ty G x0 = 6 ∧ ∀ r2 : Option Nat, r2 = wo_gr G 320 x0 → ∃ a4 : Nat, r2 = some a4 ∧ wo_ty G a4 = 3 ∧ ∃ mc6 ms7 : Nat, (c + mc6) ≤ mc ∧ (s + ms7) ≤ ms ∧ pq_Al_size E mc6 ms7 (fun v9 G8 => 
  ((v9 ≤ x2 → Post G8) ∧
    (¬ v9 ≤ x2 → wo_ty G8 x0 = 6 ∧ ∀ r11 : Option Nat, r11 = wo_gr G8 320 x0 → ∃ a13 : Nat, r11 = some a13 ∧ wo_ty G8 a13 = 3 ∧ ∃ mc15 ms16 : Nat, ((c + mc6) + mc15) ≤ mc ∧ ((s + ms7) + ms16) ≤ ms ∧ pq_Al_get E mc15 ms16 (fun v18 G17 => 
      ((¬ v18 = x1 → pq_So_use_2 E mc ms Post n G17 ((c + mc6) + mc15) ((s + ms7) + ms16) x0 x1 (x2 + (1 : Int32))) ∧
        (v18 = x1 → wo_ty G17 x0 = 6 ∧ ∀ r20 : Option Nat, r20 = wo_gr G17 320 x0 → ∃ a22 : Nat, r20 = some a22 ∧ wo_ty G17 a22 = 3 ∧ ∃ mc24 ms25 : Nat, (((c + mc6) + mc15) + mc24) ≤ mc ∧ (((s + ms7) + ms16) + ms25) ≤ ms ∧ pq_Al_remove E mc24 ms25 (fun v27 G26 => 
          wo_ty G26 x0 = 6 ∧ ∀ r29 : Option Nat, r29 = wo_gr G26 320 x0 → ∃ a31 : Nat, r29 = some a31 ∧ wo_ty G26 a31 = 3 ∧ ∃ mc33 ms34 : Nat, ((((c + mc6) + mc15) + mc24) + mc33) ≤ mc ∧ ((((s + ms7) + ms16) + ms25) + ms34) ≤ ms ∧ pq_Al_add_O E mc33 ms34 (fun v36 G35 => 
            Post G35) G26 a31 x1) G17 a22 x2))) G8 a13 x2))) G a4
set_option maxRecDepth 100000 in
def pq_So_use_0 (E : wo_E) (mc ms : Nat) (Post : wo_W → Prop) (G : wo_W) (c s : Nat) (x0 : Nat) (x1 : Option Nat) : Prop := ∃ n1 : Nat, pq_So_use_2 E mc ms Post n1 G c s x0 x1 (0 : Int32)
def pq_So_use (E : wo_E) (mc ms : Nat) (Post : wo_W → Prop) (G : wo_W) (x0 : Nat) (x1 : Option Nat) : Prop := pq_So_use_0 E mc ms Post G 0 0 x0 x1
set_option maxRecDepth 100000 in
set_option maxHeartbeats 4000000 in
theorem tq_So_use_2 {p : Program} {l : Launch} {e : Env} {R : Room} {s₀ : State} {m : MethodId} {args : Array Value} {below : List Frame} {meth : Method} {cd : Code} {E : wo_E} {mc ms : Nat} {Post : wo_W → Prop} (hC : wo_Cx E "EdgeCache$Store" prog_10_method_4_code 3 7 159 ((Option.none : Option Jvm.ClassFile.FieldType)) "use" mc ms p R s₀ m args meth cd) : ∀ n : Nat, ∀ {G : wo_W} {c s : Nat} {x0 : Nat} {x1 : Option Nat} {x2 : Int32}, pq_So_use_2 E mc ms Post n G c s x0 x1 x2 → ∀ {H : Heap} {locs : List Loc} {ls : Array Slot}, wo_Se E G H → va_S (en_A E) s₀.heap H locs → lx_has ls 3 [(0, 1, .ref x0), (1, 1, va_rf x1), (2, 1, .int x2)] → c ≤ mc → s ≤ ms → W p l e R s₀ m args below meth cd H locs c s (MQ below (va_Qv Post (wo_B E) (en_A E)) args s₀ mc ms (en_A E)) (F0 m 2 ls []) := by
  intro n
  induction n with
  | zero => intro G c s x0 x1 x2 hw; exact hw.elim
  | succ n ih =>
    intro G c s x0 x1 x2 hw H locs ls hG hS hl hcc hss
    dsimp only [pq_So_use_2] at hw
    have hx := hC.1
    have hb := hC.2.1
    refine lv_iload_n hx hb dq_So_use_2 rfl (lx_at hl 2 rfl) ?_
    refine lv_aload_n hx hb dq_So_use_3 rfl (lx_at hl 0 rfl) ?_
    obtain ⟨t1, hw⟩ := hw
    refine wo_getR hC fq_So_10 rfl hG t1 dq_So_use_4 (fun r2 e3 => ?_)
    replace hw := hw r2 e3
    obtain ⟨a4, rfl, hw⟩ := hw
    obtain ⟨t5, hw⟩ := hw
    obtain ⟨mc6, ms7, hc1, hs1, hw⟩ := hw
    refine va_calli (wo_runV hC lq_So_20 (mq_Al_size hw) hG hS t5 rfl (lx_sz hl) rfl (lx_rm (Nat.le_of_ble_eq_true rfl)) (by decide) dq_So_use_7 ⟨hc1, hs1⟩) hS (fun _ _ h => h) (fun _ h => h) (fun v9 G8 t H locs ht hvm hw' hB _ _ hS => ?_)
    clear hw
    have hw := hw'
    clear hw'
    replace hG := wo_bk ht hB
    replace hcc := hc1
    replace hss := hs1
    refine lv_icmp_ge (tgt := 50) hx hb dq_So_use_10 rfl (fun h => ?_) (fun h => ?_)
    · replace hw := hw.1 h
      exact wo_vret hC hG hS hcc hss hw dq_So_use_50
    · replace hw := hw.2 h
      refine lv_aload_n hx hb dq_So_use_13 rfl (lx_at hl 0 rfl) ?_
      obtain ⟨t10, hw⟩ := hw
      refine wo_getR hC fq_So_10 rfl hG t10 dq_So_use_14 (fun r11 e12 => ?_)
      replace hw := hw r11 e12
      refine lv_iload_n hx hb dq_So_use_17 rfl (lx_at hl 2 rfl) ?_
      obtain ⟨a13, rfl, hw⟩ := hw
      obtain ⟨t14, hw⟩ := hw
      obtain ⟨mc15, ms16, hc1, hs1, hw⟩ := hw
      refine va_callq (wo_runV hC lq_So_24 (mq_Al_get hw) hG hS t14 rfl (lx_sz hl) rfl (Nat.zero_le _) (by decide) dq_So_use_18 ⟨hc1, hs1⟩) hS (fun _ _ h => h) (fun _ h => h) (fun v18 G17 t H locs ht hvm hw' hB _ _ hS => ?_)
      clear hw
      have hw := hw'
      clear hw'
      replace hG := wo_bk ht hB
      replace hcc := hc1
      replace hss := hs1
      refine lx_aloadR_n hx hb dq_So_use_21 rfl (lx_at hl 1 rfl) ?_
      refine lv_acmp_ne (rx := v18) (ry := x1) (tgt := 44) hx hb dq_So_use_22 rfl (fun h => ?_) (fun h => ?_)
      · replace hw := hw.1 h
        refine lx_iinc (k := 2) (v := (x2 + (1 : Int32))) (lv' := [(2, 1, .int (x2 + (1 : Int32))), (0, 1, .ref x0), (1, 1, va_rf x1)]) hx hb dq_So_use_44 hl rfl rfl (by decide) rfl (fun ls hl' => ?_)
        clear hl
        have hl := hl'
        clear hl'
        refine lv_goto (tgt := 2) hx hb dq_So_use_47 rfl ?_
        exact ih hw hG hS (lx_sub hl [1, 2, 0] rfl) hcc hss
      · replace hw := hw.2 h
        refine lv_aload_n hx hb dq_So_use_25 rfl (lx_at hl 0 rfl) ?_
        obtain ⟨t19, hw⟩ := hw
        refine wo_getR hC fq_So_10 rfl hG t19 dq_So_use_26 (fun r20 e21 => ?_)
        replace hw := hw r20 e21
        refine lv_iload_n hx hb dq_So_use_29 rfl (lx_at hl 2 rfl) ?_
        obtain ⟨a22, rfl, hw⟩ := hw
        obtain ⟨t23, hw⟩ := hw
        obtain ⟨mc24, ms25, hc1, hs1, hw⟩ := hw
        refine va_callq (wo_runV hC lq_So_34 (mq_Al_remove hw) hG hS t23 rfl (lx_sz hl) rfl (Nat.zero_le _) (by decide) dq_So_use_30 ⟨hc1, hs1⟩) hS (fun _ _ h => h) (fun _ h => h) (fun v27 G26 t H locs ht hvm hw' hB _ _ hS => ?_)
        clear hw
        have hw := hw'
        clear hw'
        replace hG := wo_bk ht hB
        replace hcc := hc1
        replace hss := hs1
        refine lv_pop hx hb dq_So_use_33 (lx_cR _) ?_
        refine lv_aload_n hx hb dq_So_use_34 rfl (lx_at hl 0 rfl) ?_
        obtain ⟨t28, hw⟩ := hw
        refine wo_getR hC fq_So_10 rfl hG t28 dq_So_use_35 (fun r29 e30 => ?_)
        replace hw := hw r29 e30
        refine lx_aloadR_n hx hb dq_So_use_38 rfl (lx_at hl 1 rfl) ?_
        obtain ⟨a31, rfl, hw⟩ := hw
        obtain ⟨t32, hw⟩ := hw
        obtain ⟨mc33, ms34, hc1, hs1, hw⟩ := hw
        refine va_calli (wo_runV hC lq_So_37 (mq_Al_add_O hw) hG hS t32 rfl (lx_sz hl) rfl (Nat.zero_le _) (by decide) dq_So_use_39 ⟨hc1, hs1⟩) hS (fun _ _ h => h) (fun _ h => h) (fun v36 G35 t H locs ht hvm hw' hB _ _ hS => ?_)
        clear hw
        have hw := hw'
        clear hw'
        replace hG := wo_bk ht hB
        replace hcc := hc1
        replace hss := hs1
        refine lv_pop hx hb dq_So_use_42 rfl ?_
        exact wo_vret hC hG hS hcc hss hw dq_So_use_43
set_option maxRecDepth 100000 in
set_option maxHeartbeats 4000000 in
theorem tq_So_use_0 {p : Program} {l : Launch} {e : Env} {R : Room} {s₀ : State} {m : MethodId} {args : Array Value} {below : List Frame} {meth : Method} {cd : Code} {E : wo_E} {mc ms : Nat} {Post : wo_W → Prop} (hC : wo_Cx E "EdgeCache$Store" prog_10_method_4_code 3 7 159 ((Option.none : Option Jvm.ClassFile.FieldType)) "use" mc ms p R s₀ m args meth cd) : ∀ {G : wo_W} {c s : Nat} {x0 : Nat} {x1 : Option Nat}, pq_So_use_0 E mc ms Post G c s x0 x1 → ∀ {H : Heap} {locs : List Loc} {ls : Array Slot}, wo_Se E G H → va_S (en_A E) s₀.heap H locs → lx_has ls 3 [(0, 1, .ref x0), (1, 1, va_rf x1)] → c ≤ mc → s ≤ ms → W p l e R s₀ m args below meth cd H locs c s (MQ below (va_Qv Post (wo_B E) (en_A E)) args s₀ mc ms (en_A E)) (F0 m 0 ls []) := by
  intro G c s x0 x1 hw H locs ls hG hS hl hcc hss
  dsimp only [pq_So_use_0] at hw
  have hx := hC.1
  have hb := hC.2.1
  refine lv_iconst (v := (0 : Int32)) hx hb dq_So_use_0 rfl ?_
  refine lx_istore_n (lv' := [(2, 1, .int (0 : Int32)), (0, 1, .ref x0), (1, 1, va_rf x1)]) hx hb dq_So_use_1 rfl hl (by decide) rfl (fun ls hl' => ?_)
  clear hl
  have hl := hl'
  clear hl'
  obtain ⟨n1, hw⟩ := hw
  exact tq_So_use_2 hC n1 hw hG hS (lx_sub hl [1, 2, 0] rfl) hcc hss
set_option maxHeartbeats 4000000 in
theorem mq_So_use {l : Launch} {E : wo_E} {mc ms : Nat} {Post : wo_W → Prop} {G : wo_W} {x0 : Nat} {x1 : Option Nat} (hw : pq_So_use E mc ms Post G x0 x1) : Met l yq_So_use (Cond.code yq_So_use prog_10_method_4_code 3 ((Option.none : Option Jvm.ClassFile.FieldType)) :: vw_WG) { frames := 7, cells := mc, slots := ms, locals := 159 } (va_Pc [.ref x0, va_rf x1] (wo_Ok E G)) (va_Qv Post (wo_B E) (en_A E)) mc ms (en_A E) := by
  unfold pq_So_use at hw
  exact wo_met [(1, .ref x0), (1, va_rf x1)] rfl (by decide) (fun q hq => by simp only [List.mem_cons, List.not_mem_nil, or_false] at hq; rcases hq with rfl | rfl <;> first | rfl | exact lx_cR _) (Nat.le_of_ble_eq_true rfl) (fun p e R s m args below meth cd ls hC hG hS hl => tq_So_use_0 hC hw hG hS (lx_sub hl [0, 1] rfl) (Nat.zero_le _) (Nat.zero_le _))

theorem dq_EC_handleAtCache_0 : decode prog_1_method_20_code 0 = .ok (.aload_n 1, 1) := by decide +kernel
theorem dq_EC_handleAtCache_1 : decode prog_1_method_20_code 1 = .ok (.invokevirtual 143, 3) := by decide +kernel
theorem dq_EC_handleAtCache_4 : decode prog_1_method_20_code 4 = .ok (.ifCond .eq 14, 3) := by decide +kernel
theorem dq_EC_handleAtCache_7 : decode prog_1_method_20_code 7 = .ok (.aload_n 0, 1) := by decide +kernel
theorem dq_EC_handleAtCache_8 : decode prog_1_method_20_code 8 = .ok (.getfield 56, 3) := by decide +kernel
theorem dq_EC_handleAtCache_11 : decode prog_1_method_20_code 11 = .ok (.aload_n 1, 1) := by decide +kernel
theorem dq_EC_handleAtCache_12 : decode prog_1_method_20_code 12 = .ok (.invokevirtual 190, 3) := by decide +kernel
theorem dq_EC_handleAtCache_15 : decode prog_1_method_20_code 15 = .ok (.goto 4, 3) := by decide +kernel
theorem dq_EC_handleAtCache_18 : decode prog_1_method_20_code 18 = .ok (.aconst_null, 1) := by decide +kernel
theorem dq_EC_handleAtCache_19 : decode prog_1_method_20_code 19 = .ok (.astore_n 2, 1) := by decide +kernel
theorem dq_EC_handleAtCache_20 : decode prog_1_method_20_code 20 = .ok (.aload_n 2, 1) := by decide +kernel
theorem dq_EC_handleAtCache_21 : decode prog_1_method_20_code 21 = .ok (.ifnull 46, 3) := by decide +kernel
theorem dq_EC_handleAtCache_24 : decode prog_1_method_20_code 24 = .ok (.aload_n 0, 1) := by decide +kernel
theorem dq_EC_handleAtCache_25 : decode prog_1_method_20_code 25 = .ok (.aload_n 2, 1) := by decide +kernel
theorem dq_EC_handleAtCache_26 : decode prog_1_method_20_code 26 = .ok (.aload_n 1, 1) := by decide +kernel
theorem dq_EC_handleAtCache_27 : decode prog_1_method_20_code 27 = .ok (.invokevirtual 194, 3) := by decide +kernel
theorem dq_EC_handleAtCache_30 : decode prog_1_method_20_code 30 = .ok (.ifCond .eq 37, 3) := by decide +kernel
theorem dq_EC_handleAtCache_33 : decode prog_1_method_20_code 33 = .ok (.aload_n 0, 1) := by decide +kernel
theorem dq_EC_handleAtCache_34 : decode prog_1_method_20_code 34 = .ok (.getfield 56, 3) := by decide +kernel
theorem dq_EC_handleAtCache_37 : decode prog_1_method_20_code 37 = .ok (.aload_n 2, 1) := by decide +kernel
theorem dq_EC_handleAtCache_38 : decode prog_1_method_20_code 38 = .ok (.invokevirtual 198, 3) := by decide +kernel
theorem dq_EC_handleAtCache_41 : decode prog_1_method_20_code 41 = .ok (.aload_n 1, 1) := by decide +kernel
theorem dq_EC_handleAtCache_42 : decode prog_1_method_20_code 42 = .ok (.aload_n 0, 1) := by decide +kernel
theorem dq_EC_handleAtCache_43 : decode prog_1_method_20_code 43 = .ok (.getfield 25, 3) := by decide +kernel
theorem dq_EC_handleAtCache_46 : decode prog_1_method_20_code 46 = .ok (.aload_n 2, 1) := by decide +kernel
theorem dq_EC_handleAtCache_47 : decode prog_1_method_20_code 47 = .ok (.getfield 202, 3) := by decide +kernel
theorem dq_EC_handleAtCache_50 : decode prog_1_method_20_code 50 = .ok (.aload_n 1, 1) := by decide +kernel
theorem dq_EC_handleAtCache_51 : decode prog_1_method_20_code 51 = .ok (.aload_n 0, 1) := by decide +kernel
theorem dq_EC_handleAtCache_52 : decode prog_1_method_20_code 52 = .ok (.getfield 99, 3) := by decide +kernel
theorem dq_EC_handleAtCache_55 : decode prog_1_method_20_code 55 = .ok (.aload_n 2, 1) := by decide +kernel
theorem dq_EC_handleAtCache_56 : decode prog_1_method_20_code 56 = .ok (.getfield 208, 3) := by decide +kernel
theorem dq_EC_handleAtCache_59 : decode prog_1_method_20_code 59 = .ok (.isub, 1) := by decide +kernel
theorem dq_EC_handleAtCache_60 : decode prog_1_method_20_code 60 = .ok (.invokevirtual 211, 3) := by decide +kernel
theorem dq_EC_handleAtCache_63 : decode prog_1_method_20_code 63 = .ok (.putfield 113, 3) := by decide +kernel
theorem dq_EC_handleAtCache_66 : decode prog_1_method_20_code 66 = .ok (.return_, 1) := by decide +kernel
theorem dq_EC_handleAtCache_67 : decode prog_1_method_20_code 67 = .ok (.aload_n 0, 1) := by decide +kernel
theorem dq_EC_handleAtCache_68 : decode prog_1_method_20_code 68 = .ok (.getfield 38, 3) := by decide +kernel
theorem dq_EC_handleAtCache_71 : decode prog_1_method_20_code 71 = .ok (.new 29, 3) := by decide +kernel
theorem dq_EC_handleAtCache_74 : decode prog_1_method_20_code 74 = .ok (.dup, 1) := by decide +kernel
theorem dq_EC_handleAtCache_75 : decode prog_1_method_20_code 75 = .ok (.aload_n 1, 1) := by decide +kernel
theorem dq_EC_handleAtCache_76 : decode prog_1_method_20_code 76 = .ok (.aload_n 2, 1) := by decide +kernel
theorem dq_EC_handleAtCache_77 : decode prog_1_method_20_code 77 = .ok (.ifnonnull 7, 3) := by decide +kernel
theorem dq_EC_handleAtCache_80 : decode prog_1_method_20_code 80 = .ok (.iconst 0, 1) := by decide +kernel
theorem dq_EC_handleAtCache_81 : decode prog_1_method_20_code 81 = .ok (.goto 10, 3) := by decide +kernel
theorem dq_EC_handleAtCache_84 : decode prog_1_method_20_code 84 = .ok (.aload_n 2, 1) := by decide +kernel
theorem dq_EC_handleAtCache_85 : decode prog_1_method_20_code 85 = .ok (.getfield 202, 3) := by decide +kernel
theorem dq_EC_handleAtCache_88 : decode prog_1_method_20_code 88 = .ok (.getfield 215, 3) := by decide +kernel
theorem dq_EC_handleAtCache_91 : decode prog_1_method_20_code 91 = .ok (.invokespecial 183, 3) := by decide +kernel
theorem dq_EC_handleAtCache_94 : decode prog_1_method_20_code 94 = .ok (.invokevirtual 220, 3) := by decide +kernel
theorem dq_EC_handleAtCache_97 : decode prog_1_method_20_code 97 = .ok (.pop, 1) := by decide +kernel
theorem dq_EC_handleAtCache_98 : decode prog_1_method_20_code 98 = .ok (.aload_n 0, 1) := by decide +kernel
theorem dq_EC_handleAtCache_99 : decode prog_1_method_20_code 99 = .ok (.invokevirtual 119, 3) := by decide +kernel
theorem dq_EC_handleAtCache_102 : decode prog_1_method_20_code 102 = .ok (.return_, 1) := by decide +kernel
set_option maxRecDepth 100000 in
def pq_EC_handleAtCache_91 (E : wo_E) (mc ms : Nat) (Post : wo_W → Prop) (G : wo_W) (c s : Nat) (x0 : Nat) (y0 : Option Nat) (y1 : Nat) (y2 : Nat) (y3 : Option Nat) (y4 : Int32) : Prop := wo_ty G y2 = 11 ∧ ∃ mc2 ms3 : Nat, (c + mc2) ≤ mc ∧ (s + ms3) ≤ ms ∧ pq_Jb_init E mc2 ms3 (fun G4 => 
  ∃ a5 : Nat, y0 = some a5 ∧ wo_ty G4 a5 = 3 ∧ ∃ mc7 ms8 : Nat, ((c + mc2) + mc7) ≤ mc ∧ ((s + ms3) + ms8) ≤ ms ∧ pq_Al_add_O E mc7 ms8 (fun v10 G9 => 
    wo_ty G9 x0 = 1 ∧ ∃ mc12 ms13 : Nat, (((c + mc2) + mc7) + mc12) ≤ mc ∧ (((s + ms3) + ms8) + ms13) ≤ ms ∧ pq_EC_sendWaiting E mc12 ms13 (fun G14 => 
      Post G14) G9 x0) G4 a5 (some y1)) G y2 y3 y4
set_option maxRecDepth 100000 in
def pq_EC_handleAtCache_67 (E : wo_E) (mc ms : Nat) (Post : wo_W → Prop) (G : wo_W) (c s : Nat) (x0 : Nat) (x1 : Option Nat) (x2 : Option Nat) : Prop := wo_ty G x0 = 1 ∧ ∀ r2 : Option Nat, r2 = wo_gr G 5 x0 → (c + 1) ≤ mc ∧ (s + 7) ≤ ms ∧ ∀ q6 : Nat, wo_ty G q6 = 0 → en_bs E ≤ q6 → ∀ G9 : wo_W, G9 = wo_new G q6 11 → 
  ((x2 = none → pq_EC_handleAtCache_91 E mc ms Post G9 (c + 1) (s + 7) x0 r2 q6 q6 x1 (0 : Int32)) ∧
  (∀ a11 : Nat, x2 = some a11 → wo_ty G9 a11 = 14 ∧ ∀ r13 : Option Nat, r13 = wo_gr G9 832 a11 → ∃ a15 : Nat, r13 = some a15 ∧ wo_ty G9 a15 = 13 ∧ pq_EC_handleAtCache_91 E mc ms Post G9 (c + 1) (s + 7) x0 r2 q6 q6 x1 (wo_gi G9 770 a15)))
set_option maxRecDepth 100000 in
def pq_EC_handleAtCache_19 (E : wo_E) (mc ms : Nat) (Post : wo_W → Prop) (G : wo_W) (c s : Nat) (x0 : Nat) (x1 : Option Nat) (y0 : Option Nat) : Prop := ((y0 = none → pq_EC_handleAtCache_67 E mc ms Post G c s x0 x1 none) ∧
  (∀ a1 : Nat, y0 = some a1 → wo_ty G x0 = 1 ∧ ∃ mc3 ms4 : Nat, (c + mc3) ≤ mc ∧ (s + ms4) ≤ ms ∧ pq_EC_mayAnswer E mc3 ms4 (fun v6 G5 => 
    ((v6 = (0 : Int32) → pq_EC_handleAtCache_67 E mc ms Post G5 (c + mc3) (s + ms4) x0 x1 (some a1)) ∧
      (¬ v6 = (0 : Int32) → wo_ty G5 x0 = 1 ∧ ∀ r8 : Option Nat, r8 = wo_gr G5 2 x0 → ∃ a10 : Nat, r8 = some a10 ∧ wo_ty G5 a10 = 6 ∧ ∃ mc12 ms13 : Nat, ((c + mc3) + mc12) ≤ mc ∧ ((s + ms4) + ms13) ≤ ms ∧ pq_So_use E mc12 ms13 (fun G14 => 
        wo_ty G14 x0 = 1 ∧ ∀ r16 : Option Nat, r16 = wo_gr G14 3 x0 → wo_ty G14 a1 = 14 ∧ ∀ r19 : Option Nat, r19 = wo_gr G14 832 a1 → ∃ a21 : Nat, r16 = some a21 ∧ wo_ty G14 a21 = 4 ∧ ∃ mc23 ms24 : Nat, (((c + mc3) + mc12) + mc23) ≤ mc ∧ (((s + ms4) + ms13) + ms24) ≤ ms ∧ pq_Sh_select E mc23 ms24 (fun v26 G25 => 
          ∃ a27 : Nat, x1 = some a27 ∧ wo_ty G25 a27 = 9 ∧ en_bs E ≤ a27 ∧ ∀ G30 : wo_W, G30 = wo_sr G25 523 a27 v26 → 
            Post G30) G14 a21 r19 x1 ((wo_gi G14 6 x0) - (wo_gi G14 835 a1))) G5 a10 (some a1)))) G x0 (some a1) x1))
set_option maxRecDepth 100000 in
def pq_EC_handleAtCache_0 (E : wo_E) (mc ms : Nat) (Post : wo_W → Prop) (G : wo_W) (c s : Nat) (x0 : Nat) (x1 : Option Nat) : Prop := ∃ a1 : Nat, x1 = some a1 ∧ wo_ty G a1 = 9 ∧ ∃ mc3 ms4 : Nat, (c + mc3) ≤ mc ∧ (s + ms4) ≤ ms ∧ pq_Rq_isRead E mc3 ms4 (fun v6 G5 => 
  ((v6 = (0 : Int32) → pq_EC_handleAtCache_19 E mc ms Post G5 (c + mc3) (s + ms4) x0 (some a1) none) ∧
    (¬ v6 = (0 : Int32) → wo_ty G5 x0 = 1 ∧ ∀ r8 : Option Nat, r8 = wo_gr G5 2 x0 → ∃ a10 : Nat, r8 = some a10 ∧ wo_ty G5 a10 = 6 ∧ ∃ mc12 ms13 : Nat, ((c + mc3) + mc12) ≤ mc ∧ ((s + ms4) + ms13) ≤ ms ∧ pq_So_fitting E mc12 ms13 (fun v15 G14 => 
      pq_EC_handleAtCache_19 E mc ms Post G14 ((c + mc3) + mc12) ((s + ms4) + ms13) x0 (some a1) v15) G5 a10 (some a1)))) G a1
def pq_EC_handleAtCache (E : wo_E) (mc ms : Nat) (Post : wo_W → Prop) (G : wo_W) (x0 : Nat) (x1 : Option Nat) : Prop := pq_EC_handleAtCache_0 E mc ms Post G 0 0 x0 x1
set_option maxRecDepth 100000 in
set_option maxHeartbeats 4000000 in
theorem tq_EC_handleAtCache_91 {p : Program} {l : Launch} {e : Env} {R : Room} {s₀ : State} {m : MethodId} {args : Array Value} {below : List Frame} {meth : Method} {cd : Code} {E : wo_E} {mc ms : Nat} {Post : wo_W → Prop} (hC : wo_Cx E "EdgeCache" prog_1_method_20_code 3 10 233 ((Option.none : Option Jvm.ClassFile.FieldType)) "handleAtCache" mc ms p R s₀ m args meth cd) : ∀ {G : wo_W} {c s : Nat} {x0 : Nat} {y0 : Option Nat} {y1 : Nat} {y2 : Nat} {y3 : Option Nat} {y4 : Int32}, pq_EC_handleAtCache_91 E mc ms Post G c s x0 y0 y1 y2 y3 y4 → ∀ {H : Heap} {locs : List Loc} {ls : Array Slot}, wo_Se E G H → va_S (en_A E) s₀.heap H locs → lx_has ls 3 [(0, 1, .ref x0)] → c ≤ mc → s ≤ ms → W p l e R s₀ m args below meth cd H locs c s (MQ below (va_Qv Post (wo_B E) (en_A E)) args s₀ mc ms (en_A E)) (F0 m 91 ls [.int y4, va_rf y3, .ref y2, .ref y1, va_rf y0]) := by
  intro G c s x0 y0 y1 y2 y3 y4 hw H locs ls hG hS hl hcc hss
  dsimp only [pq_EC_handleAtCache_91] at hw
  have hx := hC.1
  have hb := hC.2.1
  obtain ⟨t1, hw⟩ := hw
  obtain ⟨mc2, ms3, hc1, hs1, hw⟩ := hw
  refine va_callv (wo_runI hC lq_EC_183 (mq_Jb_init hw) hG hS rfl (lx_sz hl) rfl (lx_rm (Nat.le_of_ble_eq_true rfl)) (by decide) dq_EC_handleAtCache_91 ⟨hc1, hs1⟩) hS (fun _ _ h => h) (fun _ h => h) (fun G4 t H locs ht hvm hw' hB _ _ hS => ?_)
  clear hw
  have hw := hw'
  clear hw'
  replace hG := wo_bk ht hB
  replace hcc := hc1
  replace hss := hs1
  obtain ⟨a5, rfl, hw⟩ := hw
  obtain ⟨t6, hw⟩ := hw
  obtain ⟨mc7, ms8, hc1, hs1, hw⟩ := hw
  refine va_calli (wo_runV hC lq_EC_220 (mq_Al_add_O hw) hG hS t6 rfl (lx_sz hl) rfl (Nat.zero_le _) (by decide) dq_EC_handleAtCache_94 ⟨hc1, hs1⟩) hS (fun _ _ h => h) (fun _ h => h) (fun v10 G9 t H locs ht hvm hw' hB _ _ hS => ?_)
  clear hw
  have hw := hw'
  clear hw'
  replace hG := wo_bk ht hB
  replace hcc := hc1
  replace hss := hs1
  refine lv_pop hx hb dq_EC_handleAtCache_97 rfl ?_
  refine lv_aload_n hx hb dq_EC_handleAtCache_98 rfl (lx_at hl 0 rfl) ?_
  obtain ⟨t11, hw⟩ := hw
  obtain ⟨mc12, ms13, hc1, hs1, hw⟩ := hw
  refine va_callv (wo_runV hC lq_EC_119 (mq_EC_sendWaiting hw) hG hS t11 rfl (lx_sz hl) rfl (Nat.zero_le _) (by decide) dq_EC_handleAtCache_99 ⟨hc1, hs1⟩) hS (fun _ _ h => h) (fun _ h => h) (fun G14 t H locs ht hvm hw' hB _ _ hS => ?_)
  clear hw
  have hw := hw'
  clear hw'
  replace hG := wo_bk ht hB
  replace hcc := hc1
  replace hss := hs1
  exact wo_vret hC hG hS hcc hss hw dq_EC_handleAtCache_102
set_option maxRecDepth 100000 in
set_option maxHeartbeats 4000000 in
theorem tq_EC_handleAtCache_67 {p : Program} {l : Launch} {e : Env} {R : Room} {s₀ : State} {m : MethodId} {args : Array Value} {below : List Frame} {meth : Method} {cd : Code} {E : wo_E} {mc ms : Nat} {Post : wo_W → Prop} (hC : wo_Cx E "EdgeCache" prog_1_method_20_code 3 10 233 ((Option.none : Option Jvm.ClassFile.FieldType)) "handleAtCache" mc ms p R s₀ m args meth cd) : ∀ {G : wo_W} {c s : Nat} {x0 : Nat} {x1 : Option Nat} {x2 : Option Nat}, pq_EC_handleAtCache_67 E mc ms Post G c s x0 x1 x2 → ∀ {H : Heap} {locs : List Loc} {ls : Array Slot}, wo_Se E G H → va_S (en_A E) s₀.heap H locs → lx_has ls 3 [(0, 1, .ref x0), (1, 1, va_rf x1), (2, 1, va_rf x2)] → c ≤ mc → s ≤ ms → W p l e R s₀ m args below meth cd H locs c s (MQ below (va_Qv Post (wo_B E) (en_A E)) args s₀ mc ms (en_A E)) (F0 m 67 ls []) := by
  intro G c s x0 x1 x2 hw H locs ls hG hS hl hcc hss
  dsimp only [pq_EC_handleAtCache_67] at hw
  have hx := hC.1
  have hb := hC.2.1
  refine lv_aload_n hx hb dq_EC_handleAtCache_67 rfl (lx_at hl 0 rfl) ?_
  obtain ⟨t1, hw⟩ := hw
  refine wo_getR hC fq_EC_38 rfl hG t1 dq_EC_handleAtCache_68 (fun r2 e3 => ?_)
  replace hw := hw r2 e3
  obtain ⟨h4, hw⟩ := hw
  obtain ⟨h5, hw⟩ := hw
  refine wo_newc hC nq_EC_29 hG hS h4 h5 dq_EC_handleAtCache_71 (fun q6 G9 H z7 b8 e10 hG hS => ?_)
  replace hw := hw q6 z7 b8 G9 e10
  replace hcc := h4
  replace hss := h5
  refine lv_dup hx hb dq_EC_handleAtCache_74 rfl ?_
  refine lx_aloadR_n hx hb dq_EC_handleAtCache_75 rfl (lx_at hl 1 rfl) ?_
  refine lx_aloadR_n hx hb dq_EC_handleAtCache_76 rfl (lx_at hl 2 rfl) ?_
  refine lx_ifnonnull (tgt := 84) hx hb dq_EC_handleAtCache_77 rfl (fun h => ?_) (fun a11 h => ?_)
  · replace hw := hw.1 h
    subst h
    refine lv_iconst (v := (0 : Int32)) hx hb dq_EC_handleAtCache_80 rfl ?_
    refine lv_goto (tgt := 91) hx hb dq_EC_handleAtCache_81 rfl ?_
    exact tq_EC_handleAtCache_91 hC hw hG hS (lx_sub hl [0] rfl) hcc hss
  · replace hw := hw.2 a11 h
    subst h
    refine lv_aload_n hx hb dq_EC_handleAtCache_84 rfl (lx_at hl 2 rfl) ?_
    obtain ⟨t12, hw⟩ := hw
    refine wo_getR hC fq_EC_202 rfl hG t12 dq_EC_handleAtCache_85 (fun r13 e14 => ?_)
    replace hw := hw r13 e14
    obtain ⟨a15, rfl, hw⟩ := hw
    obtain ⟨t16, hw⟩ := hw
    refine wo_getI hC fq_EC_215 rfl hG t16 dq_EC_handleAtCache_88 ?_
    exact tq_EC_handleAtCache_91 hC hw hG hS (lx_sub hl [0] rfl) hcc hss
set_option maxRecDepth 100000 in
set_option maxHeartbeats 4000000 in
theorem tq_EC_handleAtCache_19 {p : Program} {l : Launch} {e : Env} {R : Room} {s₀ : State} {m : MethodId} {args : Array Value} {below : List Frame} {meth : Method} {cd : Code} {E : wo_E} {mc ms : Nat} {Post : wo_W → Prop} (hC : wo_Cx E "EdgeCache" prog_1_method_20_code 3 10 233 ((Option.none : Option Jvm.ClassFile.FieldType)) "handleAtCache" mc ms p R s₀ m args meth cd) : ∀ {G : wo_W} {c s : Nat} {x0 : Nat} {x1 : Option Nat} {y0 : Option Nat}, pq_EC_handleAtCache_19 E mc ms Post G c s x0 x1 y0 → ∀ {H : Heap} {locs : List Loc} {ls : Array Slot}, wo_Se E G H → va_S (en_A E) s₀.heap H locs → lx_has ls 3 [(0, 1, .ref x0), (1, 1, va_rf x1)] → c ≤ mc → s ≤ ms → W p l e R s₀ m args below meth cd H locs c s (MQ below (va_Qv Post (wo_B E) (en_A E)) args s₀ mc ms (en_A E)) (F0 m 19 ls [va_rf y0]) := by
  intro G c s x0 x1 y0 hw H locs ls hG hS hl hcc hss
  dsimp only [pq_EC_handleAtCache_19] at hw
  have hx := hC.1
  have hb := hC.2.1
  refine lx_astoreR_n (lv' := [(2, 1, va_rf y0), (0, 1, .ref x0), (1, 1, va_rf x1)]) hx hb dq_EC_handleAtCache_19 rfl hl (by decide) rfl (fun ls hl' => ?_)
  clear hl
  have hl := hl'
  clear hl'
  refine lx_aloadR_n hx hb dq_EC_handleAtCache_20 rfl (lx_at hl 0 rfl) ?_
  refine lx_ifnull (tgt := 67) hx hb dq_EC_handleAtCache_21 rfl (fun h => ?_) (fun a1 h => ?_)
  · replace hw := hw.1 h
    subst h
    exact tq_EC_handleAtCache_67 hC hw hG hS (lx_sub hl [1, 2, 0] rfl) hcc hss
  · replace hw := hw.2 a1 h
    subst h
    refine lv_aload_n hx hb dq_EC_handleAtCache_24 rfl (lx_at hl 1 rfl) ?_
    refine lv_aload_n hx hb dq_EC_handleAtCache_25 rfl (lx_at hl 0 rfl) ?_
    refine lx_aloadR_n hx hb dq_EC_handleAtCache_26 rfl (lx_at hl 2 rfl) ?_
    obtain ⟨t2, hw⟩ := hw
    obtain ⟨mc3, ms4, hc1, hs1, hw⟩ := hw
    refine va_calli (wo_runV hC lq_EC_194 (mq_EC_mayAnswer hw) hG hS t2 rfl (lx_sz hl) rfl (Nat.zero_le _) (by decide) dq_EC_handleAtCache_27 ⟨hc1, hs1⟩) hS (fun _ _ h => h) (fun _ h => h) (fun v6 G5 t H locs ht hvm hw' hB _ _ hS => ?_)
    clear hw
    have hw := hw'
    clear hw'
    replace hG := wo_bk ht hB
    replace hcc := hc1
    replace hss := hs1
    refine lv_if_eq (tgt := 67) hx hb dq_EC_handleAtCache_30 rfl (fun h => ?_) (fun h => ?_)
    · replace hw := hw.1 h
      exact tq_EC_handleAtCache_67 hC hw hG hS (lx_sub hl [1, 2, 0] rfl) hcc hss
    · replace hw := hw.2 h
      refine lv_aload_n hx hb dq_EC_handleAtCache_33 rfl (lx_at hl 1 rfl) ?_
      obtain ⟨t7, hw⟩ := hw
      refine wo_getR hC fq_EC_56 rfl hG t7 dq_EC_handleAtCache_34 (fun r8 e9 => ?_)
      replace hw := hw r8 e9
      refine lv_aload_n hx hb dq_EC_handleAtCache_37 rfl (lx_at hl 0 rfl) ?_
      obtain ⟨a10, rfl, hw⟩ := hw
      obtain ⟨t11, hw⟩ := hw
      obtain ⟨mc12, ms13, hc1, hs1, hw⟩ := hw
      refine va_callv (wo_runV hC lq_EC_198 (mq_So_use hw) hG hS t11 rfl (lx_sz hl) rfl (Nat.zero_le _) (by decide) dq_EC_handleAtCache_38 ⟨hc1, hs1⟩) hS (fun _ _ h => h) (fun _ h => h) (fun G14 t H locs ht hvm hw' hB _ _ hS => ?_)
      clear hw
      have hw := hw'
      clear hw'
      replace hG := wo_bk ht hB
      replace hcc := hc1
      replace hss := hs1
      refine lx_aloadR_n hx hb dq_EC_handleAtCache_41 rfl (lx_at hl 2 rfl) ?_
      refine lv_aload_n hx hb dq_EC_handleAtCache_42 rfl (lx_at hl 1 rfl) ?_
      obtain ⟨t15, hw⟩ := hw
      refine wo_getR hC fq_EC_25 rfl hG t15 dq_EC_handleAtCache_43 (fun r16 e17 => ?_)
      replace hw := hw r16 e17
      refine lv_aload_n hx hb dq_EC_handleAtCache_46 rfl (lx_at hl 0 rfl) ?_
      obtain ⟨t18, hw⟩ := hw
      refine wo_getR hC fq_EC_202 rfl hG t18 dq_EC_handleAtCache_47 (fun r19 e20 => ?_)
      replace hw := hw r19 e20
      refine lx_aloadR_n hx hb dq_EC_handleAtCache_50 rfl (lx_at hl 2 rfl) ?_
      refine lv_aload_n hx hb dq_EC_handleAtCache_51 rfl (lx_at hl 1 rfl) ?_
      refine wo_getI hC fq_EC_99 rfl hG t15 dq_EC_handleAtCache_52 ?_
      refine lv_aload_n hx hb dq_EC_handleAtCache_55 rfl (lx_at hl 0 rfl) ?_
      refine wo_getI hC fq_EC_208 rfl hG t18 dq_EC_handleAtCache_56 ?_
      refine lv_isub hx hb dq_EC_handleAtCache_59 ?_
      obtain ⟨a21, rfl, hw⟩ := hw
      obtain ⟨t22, hw⟩ := hw
      obtain ⟨mc23, ms24, hc1, hs1, hw⟩ := hw
      refine va_callq (wo_runV hC lq_EC_211 (mq_Sh_select hw) hG hS t22 rfl (lx_sz hl) rfl (lx_rm (Nat.le_of_ble_eq_true rfl)) (by decide) dq_EC_handleAtCache_60 ⟨hc1, hs1⟩) hS (fun _ _ h => h) (fun _ h => h) (fun v26 G25 t H locs ht hvm hw' hB _ _ hS => ?_)
      clear hw
      have hw := hw'
      clear hw'
      replace hG := wo_bk ht hB
      replace hcc := hc1
      replace hss := hs1
      obtain ⟨a27, rfl, hw⟩ := hw
      obtain ⟨t28, hw⟩ := hw
      obtain ⟨h29, hw⟩ := hw
      refine wo_putR (x := v26) hC fq_EC_113 (Or.inl rfl) rfl hG hS t28 h29 dq_EC_handleAtCache_63 (fun G30 H locs e31 hG hS => ?_)
      replace hw := hw G30 e31
      exact wo_vret hC hG hS hcc hss hw dq_EC_handleAtCache_66
set_option maxRecDepth 100000 in
set_option maxHeartbeats 4000000 in
theorem tq_EC_handleAtCache_0 {p : Program} {l : Launch} {e : Env} {R : Room} {s₀ : State} {m : MethodId} {args : Array Value} {below : List Frame} {meth : Method} {cd : Code} {E : wo_E} {mc ms : Nat} {Post : wo_W → Prop} (hC : wo_Cx E "EdgeCache" prog_1_method_20_code 3 10 233 ((Option.none : Option Jvm.ClassFile.FieldType)) "handleAtCache" mc ms p R s₀ m args meth cd) : ∀ {G : wo_W} {c s : Nat} {x0 : Nat} {x1 : Option Nat}, pq_EC_handleAtCache_0 E mc ms Post G c s x0 x1 → ∀ {H : Heap} {locs : List Loc} {ls : Array Slot}, wo_Se E G H → va_S (en_A E) s₀.heap H locs → lx_has ls 3 [(0, 1, .ref x0), (1, 1, va_rf x1)] → c ≤ mc → s ≤ ms → W p l e R s₀ m args below meth cd H locs c s (MQ below (va_Qv Post (wo_B E) (en_A E)) args s₀ mc ms (en_A E)) (F0 m 0 ls []) := by
  intro G c s x0 x1 hw H locs ls hG hS hl hcc hss
  dsimp only [pq_EC_handleAtCache_0] at hw
  have hx := hC.1
  have hb := hC.2.1
  refine lx_aloadR_n hx hb dq_EC_handleAtCache_0 rfl (lx_at hl 1 rfl) ?_
  obtain ⟨a1, rfl, hw⟩ := hw
  obtain ⟨t2, hw⟩ := hw
  obtain ⟨mc3, ms4, hc1, hs1, hw⟩ := hw
  refine va_calli (wo_runV hC lq_EC_143 (mq_Rq_isRead hw) hG hS t2 rfl (lx_sz hl) rfl (Nat.zero_le _) (by decide) dq_EC_handleAtCache_1 ⟨hc1, hs1⟩) hS (fun _ _ h => h) (fun _ h => h) (fun v6 G5 t H locs ht hvm hw' hB _ _ hS => ?_)
  clear hw
  have hw := hw'
  clear hw'
  replace hG := wo_bk ht hB
  replace hcc := hc1
  replace hss := hs1
  refine lv_if_eq (tgt := 18) hx hb dq_EC_handleAtCache_4 rfl (fun h => ?_) (fun h => ?_)
  · replace hw := hw.1 h
    refine lv_null hx hb dq_EC_handleAtCache_18 ?_
    exact tq_EC_handleAtCache_19 hC hw hG hS (lx_sub hl [0, 1] rfl) hcc hss
  · replace hw := hw.2 h
    refine lv_aload_n hx hb dq_EC_handleAtCache_7 rfl (lx_at hl 0 rfl) ?_
    obtain ⟨t7, hw⟩ := hw
    refine wo_getR hC fq_EC_56 rfl hG t7 dq_EC_handleAtCache_8 (fun r8 e9 => ?_)
    replace hw := hw r8 e9
    refine lv_aload_n hx hb dq_EC_handleAtCache_11 rfl (lx_at hl 1 rfl) ?_
    obtain ⟨a10, rfl, hw⟩ := hw
    obtain ⟨t11, hw⟩ := hw
    obtain ⟨mc12, ms13, hc1, hs1, hw⟩ := hw
    refine va_callq (wo_runV hC lq_EC_190 (mq_So_fitting hw) hG hS t11 rfl (lx_sz hl) rfl (Nat.zero_le _) (by decide) dq_EC_handleAtCache_12 ⟨hc1, hs1⟩) hS (fun _ _ h => h) (fun _ h => h) (fun v15 G14 t H locs ht hvm hw' hB _ _ hS => ?_)
    clear hw
    have hw := hw'
    clear hw'
    replace hG := wo_bk ht hB
    replace hcc := hc1
    replace hss := hs1
    refine lv_goto (tgt := 19) hx hb dq_EC_handleAtCache_15 rfl ?_
    exact tq_EC_handleAtCache_19 hC hw hG hS (lx_sub hl [0, 1] rfl) hcc hss
set_option maxHeartbeats 4000000 in
theorem mq_EC_handleAtCache {l : Launch} {E : wo_E} {mc ms : Nat} {Post : wo_W → Prop} {G : wo_W} {x0 : Nat} {x1 : Option Nat} (hw : pq_EC_handleAtCache E mc ms Post G x0 x1) : Met l yq_EC_handleAtCache (Cond.code yq_EC_handleAtCache prog_1_method_20_code 3 ((Option.none : Option Jvm.ClassFile.FieldType)) :: vw_WG) { frames := 10, cells := mc, slots := ms, locals := 233 } (va_Pc [.ref x0, va_rf x1] (wo_Ok E G)) (va_Qv Post (wo_B E) (en_A E)) mc ms (en_A E) := by
  unfold pq_EC_handleAtCache at hw
  exact wo_met [(1, .ref x0), (1, va_rf x1)] rfl (by decide) (fun q hq => by simp only [List.mem_cons, List.not_mem_nil, or_false] at hq; rcases hq with rfl | rfl <;> first | rfl | exact lx_cR _) (Nat.le_of_ble_eq_true rfl) (fun p e R s m args below meth cd ls hC hG hS hl => tq_EC_handleAtCache_0 hC hw hG hS (lx_sub hl [0, 1] rfl) (Nat.zero_le _) (Nat.zero_le _))

theorem dq_Cn_write_0 : decode prog_2_method_6_code 0 = .ok (.iconst 0, 1) := by decide +kernel
theorem dq_Cn_write_1 : decode prog_2_method_6_code 1 = .ok (.istore_n 2, 1) := by decide +kernel
theorem dq_Cn_write_2 : decode prog_2_method_6_code 2 = .ok (.iload_n 2, 1) := by decide +kernel
theorem dq_Cn_write_3 : decode prog_2_method_6_code 3 = .ok (.aload_n 1, 1) := by decide +kernel
theorem dq_Cn_write_4 : decode prog_2_method_6_code 4 = .ok (.invokevirtual 52, 3) := by decide +kernel
theorem dq_Cn_write_7 : decode prog_2_method_6_code 7 = .ok (.if_icmp .ge 43, 3) := by decide +kernel
theorem dq_Cn_write_10 : decode prog_2_method_6_code 10 = .ok (.aload_n 0, 1) := by decide +kernel
theorem dq_Cn_write_11 : decode prog_2_method_6_code 11 = .ok (.getfield 38, 3) := by decide +kernel
theorem dq_Cn_write_14 : decode prog_2_method_6_code 14 = .ok (.sipush 640, 3) := by decide +kernel
theorem dq_Cn_write_17 : decode prog_2_method_6_code 17 = .ok (.if_icmp .ge 33, 3) := by decide +kernel
theorem dq_Cn_write_20 : decode prog_2_method_6_code 20 = .ok (.aload_n 0, 1) := by decide +kernel
theorem dq_Cn_write_21 : decode prog_2_method_6_code 21 = .ok (.getfield 22, 3) := by decide +kernel
theorem dq_Cn_write_24 : decode prog_2_method_6_code 24 = .ok (.aload_n 0, 1) := by decide +kernel
theorem dq_Cn_write_25 : decode prog_2_method_6_code 25 = .ok (.getfield 38, 3) := by decide +kernel
theorem dq_Cn_write_28 : decode prog_2_method_6_code 28 = .ok (.aload_n 1, 1) := by decide +kernel
theorem dq_Cn_write_29 : decode prog_2_method_6_code 29 = .ok (.iload_n 2, 1) := by decide +kernel
theorem dq_Cn_write_30 : decode prog_2_method_6_code 30 = .ok (.invokevirtual 57, 3) := by decide +kernel
theorem dq_Cn_write_33 : decode prog_2_method_6_code 33 = .ok (.castore, 1) := by decide +kernel
theorem dq_Cn_write_34 : decode prog_2_method_6_code 34 = .ok (.aload_n 0, 1) := by decide +kernel
theorem dq_Cn_write_35 : decode prog_2_method_6_code 35 = .ok (.dup, 1) := by decide +kernel
theorem dq_Cn_write_36 : decode prog_2_method_6_code 36 = .ok (.getfield 38, 3) := by decide +kernel
theorem dq_Cn_write_39 : decode prog_2_method_6_code 39 = .ok (.iconst 1, 1) := by decide +kernel
theorem dq_Cn_write_40 : decode prog_2_method_6_code 40 = .ok (.iadd, 1) := by decide +kernel
theorem dq_Cn_write_41 : decode prog_2_method_6_code 41 = .ok (.putfield 38, 3) := by decide +kernel
theorem dq_Cn_write_44 : decode prog_2_method_6_code 44 = .ok (.iinc 2 1, 3) := by decide +kernel
theorem dq_Cn_write_47 : decode prog_2_method_6_code 47 = .ok (.goto (-45), 3) := by decide +kernel
theorem dq_Cn_write_50 : decode prog_2_method_6_code 50 = .ok (.return_, 1) := by decide +kernel
set_option maxRecDepth 100000 in
def pq_Cn_write_50 (E : wo_E) (mc ms : Nat) (Post : wo_W → Prop) (G : wo_W) (c s : Nat) : Prop := Post G
set_option maxRecDepth 100000 in
def pq_Cn_write_2 (E : wo_E) (mc ms : Nat) (Post : wo_W → Prop) : Nat → wo_W → Nat → Nat → Nat → Option Nat → Int32 → Prop
  | 0 => fun _ _ _ _ _ _ => False
  | n + 1 => fun G c s x0 x1 x2 => ∃ a1 : Nat, x1 = some a1 ∧ wo_ty G a1 = 10 ∧ ∃ mc3 ms4 : Nat, (c + mc3) ≤ mc ∧ (s + ms4) ≤ ms ∧ pq_St_length E mc3 ms4 (fun v6 G5 => 
  ((v6 ≤ x2 → pq_Cn_write_50 E mc ms Post G5 (c + mc3) (s + ms4)) ∧
    (¬ v6 ≤ x2 → wo_ty G5 x0 = 7 ∧ (((640 : Int32) ≤ (wo_gi G5 389 x0) → pq_Cn_write_50 E mc ms Post G5 (c + mc3) (s + ms4)) ∧
      (¬ (640 : Int32) ≤ (wo_gi G5 389 x0) → ∀ r8 : Option Nat, r8 = wo_gr G5 386 x0 → wo_ty G5 a1 = 10 ∧ ∃ mc11 ms12 : Nat, ((c + mc3) + mc11) ≤ mc ∧ ((s + ms4) + ms12) ≤ ms ∧ pq_St_charAt E mc11 ms12 (fun v14 G13 => 
        ∃ a15 : Nat, r8 = some a15 ∧ wo_ty G13 a15 = 69 ∧ vp_in (wo_gi G5 389 x0) (wo_len G13 a15) ∧ en_bs E ≤ a15 ∧ ∀ G19 : wo_W, G19 = wo_sei G13 a15 (wo_gi G5 389 x0).toNatClampNeg (vp_nar .char v14) → 
          wo_ty G19 x0 = 7 ∧ en_bs E ≤ x0 ∧ ∀ G23 : wo_W, G23 = wo_si G19 389 x0 ((wo_gi G19 389 x0) + (1 : Int32)) → 
          pq_Cn_write_2 E mc ms Post n G23 ((c + mc3) + mc11) ((s + ms4) + ms12) x0 (some a1) (x2 + (1 : Int32))) G5 a1 x2))))) G a1
set_option maxRecDepth 100000 in
def pq_Cn_write_0 (E : wo_E) (mc ms : Nat) (Post : wo_W → Prop) (G : wo_W) (c s : Nat) (x0 : Nat) (x1 : Option Nat) : Prop := ∃ n1 : Nat, pq_Cn_write_2 E mc ms Post n1 G c s x0 x1 (0 : Int32)
def pq_Cn_write (E : wo_E) (mc ms : Nat) (Post : wo_W → Prop) (G : wo_W) (x0 : Nat) (x1 : Option Nat) : Prop := pq_Cn_write_0 E mc ms Post G 0 0 x0 x1
set_option maxRecDepth 100000 in
set_option maxHeartbeats 4000000 in
theorem tq_Cn_write_50 {p : Program} {l : Launch} {e : Env} {R : Room} {s₀ : State} {m : MethodId} {args : Array Value} {below : List Frame} {meth : Method} {cd : Code} {E : wo_E} {mc ms : Nat} {Post : wo_W → Prop} (hC : wo_Cx E "EdgeCache$Connection" prog_2_method_6_code 3 4 85 ((Option.none : Option Jvm.ClassFile.FieldType)) "write" mc ms p R s₀ m args meth cd) : ∀ {G : wo_W} {c s : Nat}, pq_Cn_write_50 E mc ms Post G c s → ∀ {H : Heap} {locs : List Loc} {ls : Array Slot}, wo_Se E G H → va_S (en_A E) s₀.heap H locs → lx_has ls 3 [] → c ≤ mc → s ≤ ms → W p l e R s₀ m args below meth cd H locs c s (MQ below (va_Qv Post (wo_B E) (en_A E)) args s₀ mc ms (en_A E)) (F0 m 50 ls []) := by
  intro G c s hw H locs ls hG hS hl hcc hss
  dsimp only [pq_Cn_write_50] at hw
  have hx := hC.1
  have hb := hC.2.1
  exact wo_vret hC hG hS hcc hss hw dq_Cn_write_50
set_option maxRecDepth 100000 in
set_option maxHeartbeats 4000000 in
theorem tq_Cn_write_2 {p : Program} {l : Launch} {e : Env} {R : Room} {s₀ : State} {m : MethodId} {args : Array Value} {below : List Frame} {meth : Method} {cd : Code} {E : wo_E} {mc ms : Nat} {Post : wo_W → Prop} (hC : wo_Cx E "EdgeCache$Connection" prog_2_method_6_code 3 4 85 ((Option.none : Option Jvm.ClassFile.FieldType)) "write" mc ms p R s₀ m args meth cd) : ∀ n : Nat, ∀ {G : wo_W} {c s : Nat} {x0 : Nat} {x1 : Option Nat} {x2 : Int32}, pq_Cn_write_2 E mc ms Post n G c s x0 x1 x2 → ∀ {H : Heap} {locs : List Loc} {ls : Array Slot}, wo_Se E G H → va_S (en_A E) s₀.heap H locs → lx_has ls 3 [(0, 1, .ref x0), (1, 1, va_rf x1), (2, 1, .int x2)] → c ≤ mc → s ≤ ms → W p l e R s₀ m args below meth cd H locs c s (MQ below (va_Qv Post (wo_B E) (en_A E)) args s₀ mc ms (en_A E)) (F0 m 2 ls []) := by
  intro n
  induction n with
  | zero => intro G c s x0 x1 x2 hw; exact hw.elim
  | succ n ih =>
    intro G c s x0 x1 x2 hw H locs ls hG hS hl hcc hss
    dsimp only [pq_Cn_write_2] at hw
    have hx := hC.1
    have hb := hC.2.1
    refine lv_iload_n hx hb dq_Cn_write_2 rfl (lx_at hl 2 rfl) ?_
    refine lx_aloadR_n hx hb dq_Cn_write_3 rfl (lx_at hl 1 rfl) ?_
    obtain ⟨a1, rfl, hw⟩ := hw
    obtain ⟨t2, hw⟩ := hw
    obtain ⟨mc3, ms4, hc1, hs1, hw⟩ := hw
    refine va_calli (wo_runV hC lq_Cn_52 (mq_St_length hw) hG hS t2 rfl (lx_sz hl) rfl (lx_rm (Nat.le_of_ble_eq_true rfl)) (by decide) dq_Cn_write_4 ⟨hc1, hs1⟩) hS (fun _ _ h => h) (fun _ h => h) (fun v6 G5 t H locs ht hvm hw' hB _ _ hS => ?_)
    clear hw
    have hw := hw'
    clear hw'
    replace hG := wo_bk ht hB
    replace hcc := hc1
    replace hss := hs1
    refine lv_icmp_ge (tgt := 50) hx hb dq_Cn_write_7 rfl (fun h => ?_) (fun h => ?_)
    · replace hw := hw.1 h
      exact tq_Cn_write_50 hC hw hG hS (lx_sub hl [] rfl) hcc hss
    · replace hw := hw.2 h
      refine lv_aload_n hx hb dq_Cn_write_10 rfl (lx_at hl 0 rfl) ?_
      obtain ⟨t7, hw⟩ := hw
      refine wo_getI hC fq_Cn_38 rfl hG t7 dq_Cn_write_11 ?_
      refine lv_sipush (v := (640 : Int32)) hx hb dq_Cn_write_14 rfl ?_
      refine lv_icmp_ge (tgt := 50) hx hb dq_Cn_write_17 rfl (fun h => ?_) (fun h => ?_)
      · replace hw := hw.1 h
        exact tq_Cn_write_50 hC hw hG hS (lx_sub hl [] rfl) hcc hss
      · replace hw := hw.2 h
        refine lv_aload_n hx hb dq_Cn_write_20 rfl (lx_at hl 0 rfl) ?_
        refine wo_getR hC fq_Cn_22 rfl hG t7 dq_Cn_write_21 (fun r8 e9 => ?_)
        replace hw := hw r8 e9
        refine lv_aload_n hx hb dq_Cn_write_24 rfl (lx_at hl 0 rfl) ?_
        refine wo_getI hC fq_Cn_38 rfl hG t7 dq_Cn_write_25 ?_
        refine lv_aload_n hx hb dq_Cn_write_28 rfl (lx_at hl 1 rfl) ?_
        refine lv_iload_n hx hb dq_Cn_write_29 rfl (lx_at hl 2 rfl) ?_
        obtain ⟨t10, hw⟩ := hw
        obtain ⟨mc11, ms12, hc1, hs1, hw⟩ := hw
        refine va_calli (wo_runV hC lq_Cn_57 (mq_St_charAt hw) hG hS t10 rfl (lx_sz hl) rfl (lx_rm (Nat.le_of_ble_eq_true rfl)) (by decide) dq_Cn_write_30 ⟨hc1, hs1⟩) hS (fun _ _ h => h) (fun _ h => h) (fun v14 G13 t H locs ht hvm hw' hB _ _ hS => ?_)
        clear hw
        have hw := hw'
        clear hw'
        replace hG := wo_bk ht hB
        replace hcc := hc1
        replace hss := hs1
        obtain ⟨a15, rfl, hw⟩ := hw
        obtain ⟨t16, hw⟩ := hw
        obtain ⟨h17, hw⟩ := hw
        obtain ⟨h18, hw⟩ := hw
        refine wo_cast (j := 5) hC rfl hG hS t16 h17 h18 dq_Cn_write_33 (fun G19 H locs e20 hG hS => ?_)
        replace hw := hw G19 e20
        refine lv_aload_n hx hb dq_Cn_write_34 rfl (lx_at hl 0 rfl) ?_
        refine lv_dup hx hb dq_Cn_write_35 rfl ?_
        obtain ⟨t21, hw⟩ := hw
        refine wo_getI hC fq_Cn_38 rfl hG t21 dq_Cn_write_36 ?_
        refine lv_iconst (v := (1 : Int32)) hx hb dq_Cn_write_39 rfl ?_
        refine lv_iadd hx hb dq_Cn_write_40 ?_
        obtain ⟨h22, hw⟩ := hw
        refine wo_putI hC fq_Cn_38 (Or.inl rfl) rfl (wo_ok_int _) hG hS t21 h22 dq_Cn_write_41 (fun G23 H locs e24 hG hS => ?_)
        replace hw := hw G23 e24
        refine lx_iinc (k := 2) (v := (x2 + (1 : Int32))) (lv' := [(2, 1, .int (x2 + (1 : Int32))), (0, 1, .ref x0), (1, 1, .ref a1)]) hx hb dq_Cn_write_44 hl rfl rfl (by decide) rfl (fun ls hl' => ?_)
        clear hl
        have hl := hl'
        clear hl'
        refine lv_goto (tgt := 2) hx hb dq_Cn_write_47 rfl ?_
        exact ih hw hG hS (lx_sub hl [1, 2, 0] rfl) hcc hss
set_option maxRecDepth 100000 in
set_option maxHeartbeats 4000000 in
theorem tq_Cn_write_0 {p : Program} {l : Launch} {e : Env} {R : Room} {s₀ : State} {m : MethodId} {args : Array Value} {below : List Frame} {meth : Method} {cd : Code} {E : wo_E} {mc ms : Nat} {Post : wo_W → Prop} (hC : wo_Cx E "EdgeCache$Connection" prog_2_method_6_code 3 4 85 ((Option.none : Option Jvm.ClassFile.FieldType)) "write" mc ms p R s₀ m args meth cd) : ∀ {G : wo_W} {c s : Nat} {x0 : Nat} {x1 : Option Nat}, pq_Cn_write_0 E mc ms Post G c s x0 x1 → ∀ {H : Heap} {locs : List Loc} {ls : Array Slot}, wo_Se E G H → va_S (en_A E) s₀.heap H locs → lx_has ls 3 [(0, 1, .ref x0), (1, 1, va_rf x1)] → c ≤ mc → s ≤ ms → W p l e R s₀ m args below meth cd H locs c s (MQ below (va_Qv Post (wo_B E) (en_A E)) args s₀ mc ms (en_A E)) (F0 m 0 ls []) := by
  intro G c s x0 x1 hw H locs ls hG hS hl hcc hss
  dsimp only [pq_Cn_write_0] at hw
  have hx := hC.1
  have hb := hC.2.1
  refine lv_iconst (v := (0 : Int32)) hx hb dq_Cn_write_0 rfl ?_
  refine lx_istore_n (lv' := [(2, 1, .int (0 : Int32)), (0, 1, .ref x0), (1, 1, va_rf x1)]) hx hb dq_Cn_write_1 rfl hl (by decide) rfl (fun ls hl' => ?_)
  clear hl
  have hl := hl'
  clear hl'
  obtain ⟨n1, hw⟩ := hw
  exact tq_Cn_write_2 hC n1 hw hG hS (lx_sub hl [1, 2, 0] rfl) hcc hss
set_option maxHeartbeats 4000000 in
theorem mq_Cn_write {l : Launch} {E : wo_E} {mc ms : Nat} {Post : wo_W → Prop} {G : wo_W} {x0 : Nat} {x1 : Option Nat} (hw : pq_Cn_write E mc ms Post G x0 x1) : Met l yq_Cn_write (Cond.code yq_Cn_write prog_2_method_6_code 3 ((Option.none : Option Jvm.ClassFile.FieldType)) :: vw_WG) { frames := 4, cells := mc, slots := ms, locals := 85 } (va_Pc [.ref x0, va_rf x1] (wo_Ok E G)) (va_Qv Post (wo_B E) (en_A E)) mc ms (en_A E) := by
  unfold pq_Cn_write at hw
  exact wo_met [(1, .ref x0), (1, va_rf x1)] rfl (by decide) (fun q hq => by simp only [List.mem_cons, List.not_mem_nil, or_false] at hq; rcases hq with rfl | rfl <;> first | rfl | exact lx_cR _) (Nat.le_of_ble_eq_true rfl) (fun p e R s m args below meth cd ls hC hG hS hl => tq_Cn_write_0 hC hw hG hS (lx_sub hl [0, 1] rfl) (Nat.zero_le _) (Nat.zero_le _))

theorem dq_Cn_deliver_0 : decode prog_2_method_5_code 0 = .ok (.aload_n 0, 1) := by decide +kernel
theorem dq_Cn_deliver_1 : decode prog_2_method_5_code 1 = .ok (.getfield 41, 3) := by decide +kernel
theorem dq_Cn_deliver_4 : decode prog_2_method_5_code 4 = .ok (.aload_n 0, 1) := by decide +kernel
theorem dq_Cn_deliver_5 : decode prog_2_method_5_code 5 = .ok (.getfield 30, 3) := by decide +kernel
theorem dq_Cn_deliver_8 : decode prog_2_method_5_code 8 = .ok (.if_icmp .ge 47, 3) := by decide +kernel
theorem dq_Cn_deliver_11 : decode prog_2_method_5_code 11 = .ok (.aload_n 0, 1) := by decide +kernel
theorem dq_Cn_deliver_12 : decode prog_2_method_5_code 12 = .ok (.getfield 18, 3) := by decide +kernel
theorem dq_Cn_deliver_15 : decode prog_2_method_5_code 15 = .ok (.aload_n 0, 1) := by decide +kernel
theorem dq_Cn_deliver_16 : decode prog_2_method_5_code 16 = .ok (.getfield 41, 3) := by decide +kernel
theorem dq_Cn_deliver_19 : decode prog_2_method_5_code 19 = .ok (.aaload, 1) := by decide +kernel
theorem dq_Cn_deliver_20 : decode prog_2_method_5_code 20 = .ok (.getfield 44, 3) := by decide +kernel
theorem dq_Cn_deliver_23 : decode prog_2_method_5_code 23 = .ok (.ifnull 32, 3) := by decide +kernel
theorem dq_Cn_deliver_26 : decode prog_2_method_5_code 26 = .ok (.aload_n 0, 1) := by decide +kernel
theorem dq_Cn_deliver_27 : decode prog_2_method_5_code 27 = .ok (.aload_n 0, 1) := by decide +kernel
theorem dq_Cn_deliver_28 : decode prog_2_method_5_code 28 = .ok (.getfield 18, 3) := by decide +kernel
theorem dq_Cn_deliver_31 : decode prog_2_method_5_code 31 = .ok (.aload_n 0, 1) := by decide +kernel
theorem dq_Cn_deliver_32 : decode prog_2_method_5_code 32 = .ok (.getfield 41, 3) := by decide +kernel
theorem dq_Cn_deliver_35 : decode prog_2_method_5_code 35 = .ok (.aaload, 1) := by decide +kernel
theorem dq_Cn_deliver_36 : decode prog_2_method_5_code 36 = .ok (.getfield 44, 3) := by decide +kernel
theorem dq_Cn_deliver_39 : decode prog_2_method_5_code 39 = .ok (.invokevirtual 48, 3) := by decide +kernel
theorem dq_Cn_deliver_42 : decode prog_2_method_5_code 42 = .ok (.aload_n 0, 1) := by decide +kernel
theorem dq_Cn_deliver_43 : decode prog_2_method_5_code 43 = .ok (.dup, 1) := by decide +kernel
theorem dq_Cn_deliver_44 : decode prog_2_method_5_code 44 = .ok (.getfield 41, 3) := by decide +kernel
theorem dq_Cn_deliver_47 : decode prog_2_method_5_code 47 = .ok (.iconst 1, 1) := by decide +kernel
theorem dq_Cn_deliver_48 : decode prog_2_method_5_code 48 = .ok (.iadd, 1) := by decide +kernel
theorem dq_Cn_deliver_49 : decode prog_2_method_5_code 49 = .ok (.putfield 41, 3) := by decide +kernel
theorem dq_Cn_deliver_52 : decode prog_2_method_5_code 52 = .ok (.goto (-52), 3) := by decide +kernel
theorem dq_Cn_deliver_55 : decode prog_2_method_5_code 55 = .ok (.return_, 1) := by decide +kernel
set_option maxRecDepth 100000 in
def pq_Cn_deliver_55 (E : wo_E) (mc ms : Nat) (Post : wo_W → Prop) (G : wo_W) (c s : Nat) : Prop := Post G
set_option maxRecDepth 100000 in
def pq_Cn_deliver_0 (E : wo_E) (mc ms : Nat) (Post : wo_W → Prop) : Nat → wo_W → Nat → Nat → Nat → Prop
  | 0 => fun _ _ _ _ => False
  | n + 1 => fun G c s x0 => wo_ty G x0 = 7 ∧ (((wo_gi G 387 x0) ≤ (wo_gi G 388 x0) → pq_Cn_deliver_55 E mc ms Post G c s) ∧
  (¬ (wo_gi G 387 x0) ≤ (wo_gi G 388 x0) → ∀ r2 : Option Nat, r2 = wo_gr G 385 x0 → ∃ a4 : Nat, r2 = some a4 ∧ wo_ty G a4 = 68 ∧ vp_in (wo_gi G 388 x0) (wo_len G a4) ∧ ∀ r7 : Option Nat, r7 = wo_er G a4 (wo_gi G 388 x0).toNatClampNeg → ∃ a9 : Nat, r7 = some a9 ∧ wo_ty G a9 = 9 ∧ ∀ r11 : Option Nat, r11 = wo_gr G 523 a9 → ((r11 = none → pq_Cn_deliver_55 E mc ms Post G c s) ∧
    (∀ a13 : Nat, r11 = some a13 → ∀ r14 : Option Nat, r14 = wo_gr G 385 x0 → ∃ a16 : Nat, r14 = some a16 ∧ wo_ty G a16 = 68 ∧ vp_in (wo_gi G 388 x0) (wo_len G a16) ∧ ∀ r19 : Option Nat, r19 = wo_er G a16 (wo_gi G 388 x0).toNatClampNeg → ∃ a21 : Nat, r19 = some a21 ∧ wo_ty G a21 = 9 ∧ ∀ r23 : Option Nat, r23 = wo_gr G 523 a21 → ∃ mc25 ms26 : Nat, (c + mc25) ≤ mc ∧ (s + ms26) ≤ ms ∧ pq_Cn_write E mc25 ms26 (fun G27 => 
      wo_ty G27 x0 = 7 ∧ en_bs E ≤ x0 ∧ ∀ G30 : wo_W, G30 = wo_si G27 388 x0 ((wo_gi G27 388 x0) + (1 : Int32)) → 
        pq_Cn_deliver_0 E mc ms Post n G30 (c + mc25) (s + ms26) x0) G x0 r23))))
def pq_Cn_deliver (E : wo_E) (mc ms : Nat) (Post : wo_W → Prop) (G : wo_W) (x0 : Nat) : Prop := ∃ n : Nat, pq_Cn_deliver_0 E mc ms Post n G 0 0 x0
set_option maxRecDepth 100000 in
set_option maxHeartbeats 4000000 in
theorem tq_Cn_deliver_55 {p : Program} {l : Launch} {e : Env} {R : Room} {s₀ : State} {m : MethodId} {args : Array Value} {below : List Frame} {meth : Method} {cd : Code} {E : wo_E} {mc ms : Nat} {Post : wo_W → Prop} (hC : wo_Cx E "EdgeCache$Connection" prog_2_method_5_code 1 5 107 ((Option.none : Option Jvm.ClassFile.FieldType)) "deliver" mc ms p R s₀ m args meth cd) : ∀ {G : wo_W} {c s : Nat}, pq_Cn_deliver_55 E mc ms Post G c s → ∀ {H : Heap} {locs : List Loc} {ls : Array Slot}, wo_Se E G H → va_S (en_A E) s₀.heap H locs → lx_has ls 1 [] → c ≤ mc → s ≤ ms → W p l e R s₀ m args below meth cd H locs c s (MQ below (va_Qv Post (wo_B E) (en_A E)) args s₀ mc ms (en_A E)) (F0 m 55 ls []) := by
  intro G c s hw H locs ls hG hS hl hcc hss
  dsimp only [pq_Cn_deliver_55] at hw
  have hx := hC.1
  have hb := hC.2.1
  exact wo_vret hC hG hS hcc hss hw dq_Cn_deliver_55
set_option maxRecDepth 100000 in
set_option maxHeartbeats 4000000 in
theorem tq_Cn_deliver_0 {p : Program} {l : Launch} {e : Env} {R : Room} {s₀ : State} {m : MethodId} {args : Array Value} {below : List Frame} {meth : Method} {cd : Code} {E : wo_E} {mc ms : Nat} {Post : wo_W → Prop} (hC : wo_Cx E "EdgeCache$Connection" prog_2_method_5_code 1 5 107 ((Option.none : Option Jvm.ClassFile.FieldType)) "deliver" mc ms p R s₀ m args meth cd) : ∀ n : Nat, ∀ {G : wo_W} {c s : Nat} {x0 : Nat}, pq_Cn_deliver_0 E mc ms Post n G c s x0 → ∀ {H : Heap} {locs : List Loc} {ls : Array Slot}, wo_Se E G H → va_S (en_A E) s₀.heap H locs → lx_has ls 1 [(0, 1, .ref x0)] → c ≤ mc → s ≤ ms → W p l e R s₀ m args below meth cd H locs c s (MQ below (va_Qv Post (wo_B E) (en_A E)) args s₀ mc ms (en_A E)) (F0 m 0 ls []) := by
  intro n
  induction n with
  | zero => intro G c s x0 hw; exact hw.elim
  | succ n ih =>
    intro G c s x0 hw H locs ls hG hS hl hcc hss
    dsimp only [pq_Cn_deliver_0] at hw
    have hx := hC.1
    have hb := hC.2.1
    refine lv_aload_n hx hb dq_Cn_deliver_0 rfl (lx_at hl 0 rfl) ?_
    obtain ⟨t1, hw⟩ := hw
    refine wo_getI hC fq_Cn_41 rfl hG t1 dq_Cn_deliver_1 ?_
    refine lv_aload_n hx hb dq_Cn_deliver_4 rfl (lx_at hl 0 rfl) ?_
    refine wo_getI hC fq_Cn_30 rfl hG t1 dq_Cn_deliver_5 ?_
    refine lv_icmp_ge (tgt := 55) hx hb dq_Cn_deliver_8 rfl (fun h => ?_) (fun h => ?_)
    · replace hw := hw.1 h
      exact tq_Cn_deliver_55 hC hw hG hS (lx_sub hl [] rfl) hcc hss
    · replace hw := hw.2 h
      refine lv_aload_n hx hb dq_Cn_deliver_11 rfl (lx_at hl 0 rfl) ?_
      refine wo_getR hC fq_Cn_18 rfl hG t1 dq_Cn_deliver_12 (fun r2 e3 => ?_)
      replace hw := hw r2 e3
      refine lv_aload_n hx hb dq_Cn_deliver_15 rfl (lx_at hl 0 rfl) ?_
      refine wo_getI hC fq_Cn_41 rfl hG t1 dq_Cn_deliver_16 ?_
      obtain ⟨a4, rfl, hw⟩ := hw
      obtain ⟨t5, hw⟩ := hw
      obtain ⟨h6, hw⟩ := hw
      refine wo_aald (j := 4) hC rfl hG t5 h6 dq_Cn_deliver_19 (fun r7 e8 => ?_)
      replace hw := hw r7 e8
      obtain ⟨a9, rfl, hw⟩ := hw
      obtain ⟨t10, hw⟩ := hw
      refine wo_getR hC fq_Cn_44 rfl hG t10 dq_Cn_deliver_20 (fun r11 e12 => ?_)
      replace hw := hw r11 e12
      refine lx_ifnull (tgt := 55) hx hb dq_Cn_deliver_23 rfl (fun h => ?_) (fun a13 h => ?_)
      · replace hw := hw.1 h
        subst h
        exact tq_Cn_deliver_55 hC hw hG hS (lx_sub hl [] rfl) hcc hss
      · replace hw := hw.2 a13 h
        subst h
        refine lv_aload_n hx hb dq_Cn_deliver_26 rfl (lx_at hl 0 rfl) ?_
        refine lv_aload_n hx hb dq_Cn_deliver_27 rfl (lx_at hl 0 rfl) ?_
        refine wo_getR hC fq_Cn_18 rfl hG t1 dq_Cn_deliver_28 (fun r14 e15 => ?_)
        replace hw := hw r14 e15
        refine lv_aload_n hx hb dq_Cn_deliver_31 rfl (lx_at hl 0 rfl) ?_
        refine wo_getI hC fq_Cn_41 rfl hG t1 dq_Cn_deliver_32 ?_
        obtain ⟨a16, rfl, hw⟩ := hw
        obtain ⟨t17, hw⟩ := hw
        obtain ⟨h18, hw⟩ := hw
        refine wo_aald (j := 4) hC rfl hG t17 h18 dq_Cn_deliver_35 (fun r19 e20 => ?_)
        replace hw := hw r19 e20
        obtain ⟨a21, rfl, hw⟩ := hw
        obtain ⟨t22, hw⟩ := hw
        refine wo_getR hC fq_Cn_44 rfl hG t22 dq_Cn_deliver_36 (fun r23 e24 => ?_)
        replace hw := hw r23 e24
        obtain ⟨mc25, ms26, hc1, hs1, hw⟩ := hw
        refine va_callv (wo_runV hC lq_Cn_48 (mq_Cn_write hw) hG hS t1 rfl (lx_sz hl) rfl (Nat.zero_le _) (by decide) dq_Cn_deliver_39 ⟨hc1, hs1⟩) hS (fun _ _ h => h) (fun _ h => h) (fun G27 t H locs ht hvm hw' hB _ _ hS => ?_)
        clear hw
        have hw := hw'
        clear hw'
        replace hG := wo_bk ht hB
        replace hcc := hc1
        replace hss := hs1
        refine lv_aload_n hx hb dq_Cn_deliver_42 rfl (lx_at hl 0 rfl) ?_
        refine lv_dup hx hb dq_Cn_deliver_43 rfl ?_
        obtain ⟨t28, hw⟩ := hw
        refine wo_getI hC fq_Cn_41 rfl hG t28 dq_Cn_deliver_44 ?_
        refine lv_iconst (v := (1 : Int32)) hx hb dq_Cn_deliver_47 rfl ?_
        refine lv_iadd hx hb dq_Cn_deliver_48 ?_
        obtain ⟨h29, hw⟩ := hw
        refine wo_putI hC fq_Cn_41 (Or.inl rfl) rfl (wo_ok_int _) hG hS t28 h29 dq_Cn_deliver_49 (fun G30 H locs e31 hG hS => ?_)
        replace hw := hw G30 e31
        refine lv_goto (tgt := 0) hx hb dq_Cn_deliver_52 rfl ?_
        exact ih hw hG hS (lx_sub hl [0] rfl) hcc hss
set_option maxHeartbeats 4000000 in
theorem mq_Cn_deliver {l : Launch} {E : wo_E} {mc ms : Nat} {Post : wo_W → Prop} {G : wo_W} {x0 : Nat} (hw : pq_Cn_deliver E mc ms Post G x0) : Met l yq_Cn_deliver (Cond.code yq_Cn_deliver prog_2_method_5_code 1 ((Option.none : Option Jvm.ClassFile.FieldType)) :: vw_WG) { frames := 5, cells := mc, slots := ms, locals := 107 } (va_Pc [.ref x0] (wo_Ok E G)) (va_Qv Post (wo_B E) (en_A E)) mc ms (en_A E) := by
  unfold pq_Cn_deliver at hw
  obtain ⟨n, hw⟩ := hw
  exact wo_met [(1, .ref x0)] rfl (by decide) (fun q hq => by simp only [List.mem_cons, List.not_mem_nil, or_false] at hq; rcases hq with rfl <;> first | rfl | exact lx_cR _) (Nat.le_of_ble_eq_true rfl) (fun p e R s m args below meth cd ls hC hG hS hl => tq_Cn_deliver_0 hC n hw hG hS (lx_sub hl [0] rfl) (Nat.zero_le _) (Nat.zero_le _))

theorem dq_Cn_enlist_0 : decode prog_2_method_4_code 0 = .ok (.aload_n 0, 1) := by decide +kernel
theorem dq_Cn_enlist_1 : decode prog_2_method_4_code 1 = .ok (.getfield 30, 3) := by decide +kernel
theorem dq_Cn_enlist_4 : decode prog_2_method_4_code 4 = .ok (.bipush 20, 2) := by decide +kernel
theorem dq_Cn_enlist_6 : decode prog_2_method_4_code 6 = .ok (.if_icmp .ge 23, 3) := by decide +kernel
theorem dq_Cn_enlist_9 : decode prog_2_method_4_code 9 = .ok (.aload_n 0, 1) := by decide +kernel
theorem dq_Cn_enlist_10 : decode prog_2_method_4_code 10 = .ok (.getfield 18, 3) := by decide +kernel
theorem dq_Cn_enlist_13 : decode prog_2_method_4_code 13 = .ok (.aload_n 0, 1) := by decide +kernel
theorem dq_Cn_enlist_14 : decode prog_2_method_4_code 14 = .ok (.getfield 30, 3) := by decide +kernel
theorem dq_Cn_enlist_17 : decode prog_2_method_4_code 17 = .ok (.aload_n 1, 1) := by decide +kernel
theorem dq_Cn_enlist_18 : decode prog_2_method_4_code 18 = .ok (.aastore, 1) := by decide +kernel
theorem dq_Cn_enlist_19 : decode prog_2_method_4_code 19 = .ok (.aload_n 0, 1) := by decide +kernel
theorem dq_Cn_enlist_20 : decode prog_2_method_4_code 20 = .ok (.dup, 1) := by decide +kernel
theorem dq_Cn_enlist_21 : decode prog_2_method_4_code 21 = .ok (.getfield 30, 3) := by decide +kernel
theorem dq_Cn_enlist_24 : decode prog_2_method_4_code 24 = .ok (.iconst 1, 1) := by decide +kernel
theorem dq_Cn_enlist_25 : decode prog_2_method_4_code 25 = .ok (.iadd, 1) := by decide +kernel
theorem dq_Cn_enlist_26 : decode prog_2_method_4_code 26 = .ok (.putfield 30, 3) := by decide +kernel
theorem dq_Cn_enlist_29 : decode prog_2_method_4_code 29 = .ok (.return_, 1) := by decide +kernel
set_option maxRecDepth 100000 in
def pq_Cn_enlist_29 (E : wo_E) (mc ms : Nat) (Post : wo_W → Prop) (G : wo_W) (c s : Nat) : Prop := Post G
set_option maxRecDepth 100000 in
def pq_Cn_enlist_0 (E : wo_E) (mc ms : Nat) (Post : wo_W → Prop) (G : wo_W) (c s : Nat) (x0 : Nat) (x1 : Option Nat) : Prop := wo_ty G x0 = 7 ∧ (((20 : Int32) ≤ (wo_gi G 387 x0) → pq_Cn_enlist_29 E mc ms Post G c s) ∧
  (¬ (20 : Int32) ≤ (wo_gi G 387 x0) → ∀ r2 : Option Nat, r2 = wo_gr G 385 x0 → ∃ a4 : Nat, r2 = some a4 ∧ wo_ty G a4 = 68 ∧ vp_in (wo_gi G 387 x0) (wo_len G a4) ∧ en_bs E ≤ a4 ∧ wo_may G 4 x1 ∧ ∀ G9 : wo_W, G9 = wo_ser G a4 (wo_gi G 387 x0).toNatClampNeg x1 → 
    en_bs E ≤ x0 ∧ ∀ G12 : wo_W, G12 = wo_si G9 387 x0 ((wo_gi G9 387 x0) + (1 : Int32)) → 
    pq_Cn_enlist_29 E mc ms Post G12 c s))
def pq_Cn_enlist (E : wo_E) (mc ms : Nat) (Post : wo_W → Prop) (G : wo_W) (x0 : Nat) (x1 : Option Nat) : Prop := pq_Cn_enlist_0 E mc ms Post G 0 0 x0 x1
set_option maxRecDepth 100000 in
set_option maxHeartbeats 4000000 in
theorem tq_Cn_enlist_29 {p : Program} {l : Launch} {e : Env} {R : Room} {s₀ : State} {m : MethodId} {args : Array Value} {below : List Frame} {meth : Method} {cd : Code} {E : wo_E} {mc ms : Nat} {Post : wo_W → Prop} (hC : wo_Cx E "EdgeCache$Connection" prog_2_method_4_code 2 0 0 ((Option.none : Option Jvm.ClassFile.FieldType)) "enlist" mc ms p R s₀ m args meth cd) : ∀ {G : wo_W} {c s : Nat}, pq_Cn_enlist_29 E mc ms Post G c s → ∀ {H : Heap} {locs : List Loc} {ls : Array Slot}, wo_Se E G H → va_S (en_A E) s₀.heap H locs → lx_has ls 2 [] → c ≤ mc → s ≤ ms → W p l e R s₀ m args below meth cd H locs c s (MQ below (va_Qv Post (wo_B E) (en_A E)) args s₀ mc ms (en_A E)) (F0 m 29 ls []) := by
  intro G c s hw H locs ls hG hS hl hcc hss
  dsimp only [pq_Cn_enlist_29] at hw
  have hx := hC.1
  have hb := hC.2.1
  exact wo_vret hC hG hS hcc hss hw dq_Cn_enlist_29
set_option maxRecDepth 100000 in
set_option maxHeartbeats 4000000 in
theorem tq_Cn_enlist_0 {p : Program} {l : Launch} {e : Env} {R : Room} {s₀ : State} {m : MethodId} {args : Array Value} {below : List Frame} {meth : Method} {cd : Code} {E : wo_E} {mc ms : Nat} {Post : wo_W → Prop} (hC : wo_Cx E "EdgeCache$Connection" prog_2_method_4_code 2 0 0 ((Option.none : Option Jvm.ClassFile.FieldType)) "enlist" mc ms p R s₀ m args meth cd) : ∀ {G : wo_W} {c s : Nat} {x0 : Nat} {x1 : Option Nat}, pq_Cn_enlist_0 E mc ms Post G c s x0 x1 → ∀ {H : Heap} {locs : List Loc} {ls : Array Slot}, wo_Se E G H → va_S (en_A E) s₀.heap H locs → lx_has ls 2 [(0, 1, .ref x0), (1, 1, va_rf x1)] → c ≤ mc → s ≤ ms → W p l e R s₀ m args below meth cd H locs c s (MQ below (va_Qv Post (wo_B E) (en_A E)) args s₀ mc ms (en_A E)) (F0 m 0 ls []) := by
  intro G c s x0 x1 hw H locs ls hG hS hl hcc hss
  dsimp only [pq_Cn_enlist_0] at hw
  have hx := hC.1
  have hb := hC.2.1
  refine lv_aload_n hx hb dq_Cn_enlist_0 rfl (lx_at hl 0 rfl) ?_
  obtain ⟨t1, hw⟩ := hw
  refine wo_getI hC fq_Cn_30 rfl hG t1 dq_Cn_enlist_1 ?_
  refine lv_bipush (v := (20 : Int32)) hx hb dq_Cn_enlist_4 rfl ?_
  refine lv_icmp_ge (tgt := 29) hx hb dq_Cn_enlist_6 rfl (fun h => ?_) (fun h => ?_)
  · replace hw := hw.1 h
    exact tq_Cn_enlist_29 hC hw hG hS (lx_sub hl [] rfl) hcc hss
  · replace hw := hw.2 h
    refine lv_aload_n hx hb dq_Cn_enlist_9 rfl (lx_at hl 0 rfl) ?_
    refine wo_getR hC fq_Cn_18 rfl hG t1 dq_Cn_enlist_10 (fun r2 e3 => ?_)
    replace hw := hw r2 e3
    refine lv_aload_n hx hb dq_Cn_enlist_13 rfl (lx_at hl 0 rfl) ?_
    refine wo_getI hC fq_Cn_30 rfl hG t1 dq_Cn_enlist_14 ?_
    refine lx_aloadR_n hx hb dq_Cn_enlist_17 rfl (lx_at hl 1 rfl) ?_
    obtain ⟨a4, rfl, hw⟩ := hw
    obtain ⟨t5, hw⟩ := hw
    obtain ⟨h6, hw⟩ := hw
    obtain ⟨h7, hw⟩ := hw
    obtain ⟨h8, hw⟩ := hw
    refine wo_aast (x := x1) (j := 4) hC rfl hG hS t5 h6 h7 h8 dq_Cn_enlist_18 (fun G9 H locs e10 hG hS => ?_)
    replace hw := hw G9 e10
    refine lv_aload_n hx hb dq_Cn_enlist_19 rfl (lx_at hl 0 rfl) ?_
    refine lv_dup hx hb dq_Cn_enlist_20 rfl ?_
    refine wo_getI hC fq_Cn_30 rfl hG (ty_ser e10 t1) dq_Cn_enlist_21 ?_
    refine lv_iconst (v := (1 : Int32)) hx hb dq_Cn_enlist_24 rfl ?_
    refine lv_iadd hx hb dq_Cn_enlist_25 ?_
    obtain ⟨h11, hw⟩ := hw
    refine wo_putI hC fq_Cn_30 (Or.inl rfl) rfl (wo_ok_int _) hG hS (ty_ser e10 t1) h11 dq_Cn_enlist_26 (fun G12 H locs e13 hG hS => ?_)
    replace hw := hw G12 e13
    exact tq_Cn_enlist_29 hC hw hG hS (lx_sub hl [] rfl) hcc hss
set_option maxHeartbeats 4000000 in
theorem mq_Cn_enlist {l : Launch} {E : wo_E} {mc ms : Nat} {Post : wo_W → Prop} {G : wo_W} {x0 : Nat} {x1 : Option Nat} (hw : pq_Cn_enlist E mc ms Post G x0 x1) : Met l yq_Cn_enlist (Cond.code yq_Cn_enlist prog_2_method_4_code 2 ((Option.none : Option Jvm.ClassFile.FieldType)) :: vw_WG) { frames := 0, cells := mc, slots := ms, locals := 0 } (va_Pc [.ref x0, va_rf x1] (wo_Ok E G)) (va_Qv Post (wo_B E) (en_A E)) mc ms (en_A E) := by
  unfold pq_Cn_enlist at hw
  exact wo_met [(1, .ref x0), (1, va_rf x1)] rfl (by decide) (fun q hq => by simp only [List.mem_cons, List.not_mem_nil, or_false] at hq; rcases hq with rfl | rfl <;> first | rfl | exact lx_cR _) (Nat.le_of_ble_eq_true rfl) (fun p e R s m args below meth cd ls hC hG hS hl => tq_Cn_enlist_0 hC hw hG hS (lx_sub hl [0, 1] rfl) (Nat.zero_le _) (Nat.zero_le _))

theorem dq_Og_indexOf_0 : decode prog_4_method_7_code 0 = .ok (.iconst 0, 1) := by decide +kernel
theorem dq_Og_indexOf_1 : decode prog_4_method_7_code 1 = .ok (.istore_n 2, 1) := by decide +kernel
theorem dq_Og_indexOf_2 : decode prog_4_method_7_code 2 = .ok (.iload_n 2, 1) := by decide +kernel
theorem dq_Og_indexOf_3 : decode prog_4_method_7_code 3 = .ok (.aload_n 0, 1) := by decide +kernel
theorem dq_Og_indexOf_4 : decode prog_4_method_7_code 4 = .ok (.getfield 12, 3) := by decide +kernel
theorem dq_Og_indexOf_7 : decode prog_4_method_7_code 7 = .ok (.invokevirtual 90, 3) := by decide +kernel
theorem dq_Og_indexOf_10 : decode prog_4_method_7_code 10 = .ok (.if_icmp .ge 32, 3) := by decide +kernel
theorem dq_Og_indexOf_13 : decode prog_4_method_7_code 13 = .ok (.aload_n 0, 1) := by decide +kernel
theorem dq_Og_indexOf_14 : decode prog_4_method_7_code 14 = .ok (.getfield 12, 3) := by decide +kernel
theorem dq_Og_indexOf_17 : decode prog_4_method_7_code 17 = .ok (.iload_n 2, 1) := by decide +kernel
theorem dq_Og_indexOf_18 : decode prog_4_method_7_code 18 = .ok (.invokevirtual 51, 3) := by decide +kernel
theorem dq_Og_indexOf_21 : decode prog_4_method_7_code 21 = .ok (.checkcast 55, 3) := by decide +kernel
theorem dq_Og_indexOf_24 : decode prog_4_method_7_code 24 = .ok (.getfield 144, 3) := by decide +kernel
theorem dq_Og_indexOf_27 : decode prog_4_method_7_code 27 = .ok (.aload_n 1, 1) := by decide +kernel
theorem dq_Og_indexOf_28 : decode prog_4_method_7_code 28 = .ok (.invokevirtual 105, 3) := by decide +kernel
theorem dq_Og_indexOf_31 : decode prog_4_method_7_code 31 = .ok (.ifCond .eq 5, 3) := by decide +kernel
theorem dq_Og_indexOf_34 : decode prog_4_method_7_code 34 = .ok (.iload_n 2, 1) := by decide +kernel
theorem dq_Og_indexOf_35 : decode prog_4_method_7_code 35 = .ok (.ireturn, 1) := by decide +kernel
theorem dq_Og_indexOf_36 : decode prog_4_method_7_code 36 = .ok (.iinc 2 1, 3) := by decide +kernel
theorem dq_Og_indexOf_39 : decode prog_4_method_7_code 39 = .ok (.goto (-37), 3) := by decide +kernel
theorem dq_Og_indexOf_42 : decode prog_4_method_7_code 42 = .ok (.iconst (-1), 1) := by decide +kernel
theorem dq_Og_indexOf_43 : decode prog_4_method_7_code 43 = .ok (.ireturn, 1) := by decide +kernel
set_option maxRecDepth 100000 in
def pq_Og_indexOf_2 (E : wo_E) (mc ms : Nat) (Post : Int32 → wo_W → Prop) : Nat → wo_W → Nat → Nat → Nat → Option Nat → Int32 → Prop
  | 0 => fun _ _ _ _ _ _ => False
  | n + 1 => fun G c s x0 x1 x2 => wo_ty G x0 = 2 ∧ ∀ r2 : Option Nat, r2 = wo_gr G 64 x0 → ∃ a4 : Nat, r2 = some a4 ∧ wo_ty G a4 = 3 ∧ ∃ mc6 ms7 : Nat, (c + mc6) ≤ mc ∧ (s + ms7) ≤ ms ∧ pq_Al_size E mc6 ms7 (fun v9 G8 => 
  ((v9 ≤ x2 → Post (-1 : Int32) G8) ∧
    (¬ v9 ≤ x2 → wo_ty G8 x0 = 2 ∧ ∀ r11 : Option Nat, r11 = wo_gr G8 64 x0 → ∃ a13 : Nat, r11 = some a13 ∧ wo_ty G8 a13 = 3 ∧ ∃ mc15 ms16 : Nat, ((c + mc6) + mc15) ≤ mc ∧ ((s + ms7) + ms16) ≤ ms ∧ pq_Al_get E mc15 ms16 (fun v18 G17 => 
      wo_is G17 12 v18 ∧ ∃ a20 : Nat, v18 = some a20 ∧ wo_ty G17 a20 = 12 ∧ ∀ r22 : Option Nat, r22 = wo_gr G17 704 a20 → ∃ a24 : Nat, r22 = some a24 ∧ wo_ty G17 a24 = 10 ∧ ∃ mc26 ms27 : Nat, (((c + mc6) + mc15) + mc26) ≤ mc ∧ (((s + ms7) + ms16) + ms27) ≤ ms ∧ pq_St_equals E mc26 ms27 (fun v29 G28 => 
        ((v29 = (0 : Int32) → pq_Og_indexOf_2 E mc ms Post n G28 (((c + mc6) + mc15) + mc26) (((s + ms7) + ms16) + ms27) x0 x1 (x2 + (1 : Int32))) ∧
          (¬ v29 = (0 : Int32) → Post x2 G28))) G17 a24 x1) G8 a13 x2))) G a4
set_option maxRecDepth 100000 in
def pq_Og_indexOf_0 (E : wo_E) (mc ms : Nat) (Post : Int32 → wo_W → Prop) (G : wo_W) (c s : Nat) (x0 : Nat) (x1 : Option Nat) : Prop := ∃ n1 : Nat, pq_Og_indexOf_2 E mc ms Post n1 G c s x0 x1 (0 : Int32)
def pq_Og_indexOf (E : wo_E) (mc ms : Nat) (Post : Int32 → wo_W → Prop) (G : wo_W) (x0 : Nat) (x1 : Option Nat) : Prop := pq_Og_indexOf_0 E mc ms Post G 0 0 x0 x1
set_option maxRecDepth 100000 in
set_option maxHeartbeats 4000000 in
theorem tq_Og_indexOf_2 {p : Program} {l : Launch} {e : Env} {R : Room} {s₀ : State} {m : MethodId} {args : Array Value} {below : List Frame} {meth : Method} {cd : Code} {E : wo_E} {mc ms : Nat} {Post : Int32 → wo_W → Prop} (hC : wo_Cx E "EdgeCache$Origin" prog_4_method_7_code 3 3 64 ((Option.some Jvm.ClassFile.FieldType.int)) "indexOf" mc ms p R s₀ m args meth cd) : ∀ n : Nat, ∀ {G : wo_W} {c s : Nat} {x0 : Nat} {x1 : Option Nat} {x2 : Int32}, pq_Og_indexOf_2 E mc ms Post n G c s x0 x1 x2 → ∀ {H : Heap} {locs : List Loc} {ls : Array Slot}, wo_Se E G H → va_S (en_A E) s₀.heap H locs → lx_has ls 3 [(0, 1, .ref x0), (1, 1, va_rf x1), (2, 1, .int x2)] → c ≤ mc → s ≤ ms → W p l e R s₀ m args below meth cd H locs c s (MQ below (va_Qi Post (wo_B E) (en_A E)) args s₀ mc ms (en_A E)) (F0 m 2 ls []) := by
  intro n
  induction n with
  | zero => intro G c s x0 x1 x2 hw; exact hw.elim
  | succ n ih =>
    intro G c s x0 x1 x2 hw H locs ls hG hS hl hcc hss
    dsimp only [pq_Og_indexOf_2] at hw
    have hx := hC.1
    have hb := hC.2.1
    refine lv_iload_n hx hb dq_Og_indexOf_2 rfl (lx_at hl 2 rfl) ?_
    refine lv_aload_n hx hb dq_Og_indexOf_3 rfl (lx_at hl 0 rfl) ?_
    obtain ⟨t1, hw⟩ := hw
    refine wo_getR hC fq_Og_12 rfl hG t1 dq_Og_indexOf_4 (fun r2 e3 => ?_)
    replace hw := hw r2 e3
    obtain ⟨a4, rfl, hw⟩ := hw
    obtain ⟨t5, hw⟩ := hw
    obtain ⟨mc6, ms7, hc1, hs1, hw⟩ := hw
    refine va_calli (wo_runV hC lq_Og_90 (mq_Al_size hw) hG hS t5 rfl (lx_sz hl) rfl (lx_rm (Nat.le_of_ble_eq_true rfl)) (by decide) dq_Og_indexOf_7 ⟨hc1, hs1⟩) hS (fun _ _ h => h) (fun _ h => h) (fun v9 G8 t H locs ht hvm hw' hB _ _ hS => ?_)
    clear hw
    have hw := hw'
    clear hw'
    replace hG := wo_bk ht hB
    replace hcc := hc1
    replace hss := hs1
    refine lv_icmp_ge (tgt := 42) hx hb dq_Og_indexOf_10 rfl (fun h => ?_) (fun h => ?_)
    · replace hw := hw.1 h
      refine lv_iconst (v := (-1 : Int32)) hx hb dq_Og_indexOf_42 rfl ?_
      exact wo_iret hC hG hS hcc hss hw dq_Og_indexOf_43
    · replace hw := hw.2 h
      refine lv_aload_n hx hb dq_Og_indexOf_13 rfl (lx_at hl 0 rfl) ?_
      obtain ⟨t10, hw⟩ := hw
      refine wo_getR hC fq_Og_12 rfl hG t10 dq_Og_indexOf_14 (fun r11 e12 => ?_)
      replace hw := hw r11 e12
      refine lv_iload_n hx hb dq_Og_indexOf_17 rfl (lx_at hl 2 rfl) ?_
      obtain ⟨a13, rfl, hw⟩ := hw
      obtain ⟨t14, hw⟩ := hw
      obtain ⟨mc15, ms16, hc1, hs1, hw⟩ := hw
      refine va_callq (wo_runV hC lq_Og_51 (mq_Al_get hw) hG hS t14 rfl (lx_sz hl) rfl (Nat.zero_le _) (by decide) dq_Og_indexOf_18 ⟨hc1, hs1⟩) hS (fun _ _ h => h) (fun _ h => h) (fun v18 G17 t H locs ht hvm hw' hB _ _ hS => ?_)
      clear hw
      have hw := hw'
      clear hw'
      replace hG := wo_bk ht hB
      replace hcc := hc1
      replace hss := hs1
      obtain ⟨h19, hw⟩ := hw
      refine wo_chk (x := v18) (c := 11) hC rfl kq_Og_55 (Or.inl rfl) hG h19 dq_Og_indexOf_21 ?_
      obtain ⟨a20, rfl, hw⟩ := hw
      obtain ⟨t21, hw⟩ := hw
      refine wo_getR hC fq_Og_144 rfl hG t21 dq_Og_indexOf_24 (fun r22 e23 => ?_)
      replace hw := hw r22 e23
      refine lx_aloadR_n hx hb dq_Og_indexOf_27 rfl (lx_at hl 1 rfl) ?_
      obtain ⟨a24, rfl, hw⟩ := hw
      obtain ⟨t25, hw⟩ := hw
      obtain ⟨mc26, ms27, hc1, hs1, hw⟩ := hw
      refine va_calli (wo_runV hC lq_Og_105 (mq_St_equals hw) hG hS t25 rfl (lx_sz hl) rfl (Nat.zero_le _) (by decide) dq_Og_indexOf_28 ⟨hc1, hs1⟩) hS (fun _ _ h => h) (fun _ h => h) (fun v29 G28 t H locs ht hvm hw' hB _ _ hS => ?_)
      clear hw
      have hw := hw'
      clear hw'
      replace hG := wo_bk ht hB
      replace hcc := hc1
      replace hss := hs1
      refine lv_if_eq (tgt := 36) hx hb dq_Og_indexOf_31 rfl (fun h => ?_) (fun h => ?_)
      · replace hw := hw.1 h
        refine lx_iinc (k := 2) (v := (x2 + (1 : Int32))) (lv' := [(2, 1, .int (x2 + (1 : Int32))), (0, 1, .ref x0), (1, 1, va_rf x1)]) hx hb dq_Og_indexOf_36 hl rfl rfl (by decide) rfl (fun ls hl' => ?_)
        clear hl
        have hl := hl'
        clear hl'
        refine lv_goto (tgt := 2) hx hb dq_Og_indexOf_39 rfl ?_
        exact ih hw hG hS (lx_sub hl [1, 2, 0] rfl) hcc hss
      · replace hw := hw.2 h
        refine lv_iload_n hx hb dq_Og_indexOf_34 rfl (lx_at hl 2 rfl) ?_
        exact wo_iret hC hG hS hcc hss hw dq_Og_indexOf_35
set_option maxRecDepth 100000 in
set_option maxHeartbeats 4000000 in
theorem tq_Og_indexOf_0 {p : Program} {l : Launch} {e : Env} {R : Room} {s₀ : State} {m : MethodId} {args : Array Value} {below : List Frame} {meth : Method} {cd : Code} {E : wo_E} {mc ms : Nat} {Post : Int32 → wo_W → Prop} (hC : wo_Cx E "EdgeCache$Origin" prog_4_method_7_code 3 3 64 ((Option.some Jvm.ClassFile.FieldType.int)) "indexOf" mc ms p R s₀ m args meth cd) : ∀ {G : wo_W} {c s : Nat} {x0 : Nat} {x1 : Option Nat}, pq_Og_indexOf_0 E mc ms Post G c s x0 x1 → ∀ {H : Heap} {locs : List Loc} {ls : Array Slot}, wo_Se E G H → va_S (en_A E) s₀.heap H locs → lx_has ls 3 [(0, 1, .ref x0), (1, 1, va_rf x1)] → c ≤ mc → s ≤ ms → W p l e R s₀ m args below meth cd H locs c s (MQ below (va_Qi Post (wo_B E) (en_A E)) args s₀ mc ms (en_A E)) (F0 m 0 ls []) := by
  intro G c s x0 x1 hw H locs ls hG hS hl hcc hss
  dsimp only [pq_Og_indexOf_0] at hw
  have hx := hC.1
  have hb := hC.2.1
  refine lv_iconst (v := (0 : Int32)) hx hb dq_Og_indexOf_0 rfl ?_
  refine lx_istore_n (lv' := [(2, 1, .int (0 : Int32)), (0, 1, .ref x0), (1, 1, va_rf x1)]) hx hb dq_Og_indexOf_1 rfl hl (by decide) rfl (fun ls hl' => ?_)
  clear hl
  have hl := hl'
  clear hl'
  obtain ⟨n1, hw⟩ := hw
  exact tq_Og_indexOf_2 hC n1 hw hG hS (lx_sub hl [1, 2, 0] rfl) hcc hss
set_option maxHeartbeats 4000000 in
theorem mq_Og_indexOf {l : Launch} {E : wo_E} {mc ms : Nat} {Post : Int32 → wo_W → Prop} {G : wo_W} {x0 : Nat} {x1 : Option Nat} (hw : pq_Og_indexOf E mc ms Post G x0 x1) : Met l yq_Og_indexOf (Cond.code yq_Og_indexOf prog_4_method_7_code 3 ((Option.some Jvm.ClassFile.FieldType.int)) :: vw_WG) { frames := 3, cells := mc, slots := ms, locals := 64 } (va_Pc [.ref x0, va_rf x1] (wo_Ok E G)) (va_Qi Post (wo_B E) (en_A E)) mc ms (en_A E) := by
  unfold pq_Og_indexOf at hw
  exact wo_met [(1, .ref x0), (1, va_rf x1)] rfl (by decide) (fun q hq => by simp only [List.mem_cons, List.not_mem_nil, or_false] at hq; rcases hq with rfl | rfl <;> first | rfl | exact lx_cR _) (Nat.le_of_ble_eq_true rfl) (fun p e R s m args below meth cd ls hC hG hS hl => tq_Og_indexOf_0 hC hw hG hS (lx_sub hl [0, 1] rfl) (Nat.zero_le _) (Nat.zero_le _))

theorem dq_Og_isForbidden_0 : decode prog_4_method_6_code 0 = .ok (.aload_n 0, 1) := by decide +kernel
theorem dq_Og_isForbidden_1 : decode prog_4_method_6_code 1 = .ok (.getfield 132, 3) := by decide +kernel
theorem dq_Og_isForbidden_4 : decode prog_4_method_6_code 4 = .ok (.ifnull 23, 3) := by decide +kernel
theorem dq_Og_isForbidden_7 : decode prog_4_method_6_code 7 = .ok (.aload_n 1, 1) := by decide +kernel
theorem dq_Og_isForbidden_8 : decode prog_4_method_6_code 8 = .ok (.ifnull 17, 3) := by decide +kernel
theorem dq_Og_isForbidden_11 : decode prog_4_method_6_code 11 = .ok (.aload_n 0, 1) := by decide +kernel
theorem dq_Og_isForbidden_12 : decode prog_4_method_6_code 12 = .ok (.getfield 132, 3) := by decide +kernel
theorem dq_Og_isForbidden_15 : decode prog_4_method_6_code 15 = .ok (.aload_n 1, 1) := by decide +kernel
theorem dq_Og_isForbidden_16 : decode prog_4_method_6_code 16 = .ok (.getfield 68, 3) := by decide +kernel
theorem dq_Og_isForbidden_19 : decode prog_4_method_6_code 19 = .ok (.invokestatic 135, 3) := by decide +kernel
theorem dq_Og_isForbidden_22 : decode prog_4_method_6_code 22 = .ok (.ifCond .ne 5, 3) := by decide +kernel
theorem dq_Og_isForbidden_25 : decode prog_4_method_6_code 25 = .ok (.iconst 1, 1) := by decide +kernel
theorem dq_Og_isForbidden_26 : decode prog_4_method_6_code 26 = .ok (.ireturn, 1) := by decide +kernel
theorem dq_Og_isForbidden_27 : decode prog_4_method_6_code 27 = .ok (.aload_n 0, 1) := by decide +kernel
theorem dq_Og_isForbidden_28 : decode prog_4_method_6_code 28 = .ok (.getfield 141, 3) := by decide +kernel
theorem dq_Og_isForbidden_31 : decode prog_4_method_6_code 31 = .ok (.ifnull 25, 3) := by decide +kernel
theorem dq_Og_isForbidden_34 : decode prog_4_method_6_code 34 = .ok (.aload_n 1, 1) := by decide +kernel
theorem dq_Og_isForbidden_35 : decode prog_4_method_6_code 35 = .ok (.ifnull 21, 3) := by decide +kernel
theorem dq_Og_isForbidden_38 : decode prog_4_method_6_code 38 = .ok (.aload_n 0, 1) := by decide +kernel
theorem dq_Og_isForbidden_39 : decode prog_4_method_6_code 39 = .ok (.getfield 141, 3) := by decide +kernel
theorem dq_Og_isForbidden_42 : decode prog_4_method_6_code 42 = .ok (.aload_n 1, 1) := by decide +kernel
theorem dq_Og_isForbidden_43 : decode prog_4_method_6_code 43 = .ok (.getfield 68, 3) := by decide +kernel
theorem dq_Og_isForbidden_46 : decode prog_4_method_6_code 46 = .ok (.invokestatic 135, 3) := by decide +kernel
theorem dq_Og_isForbidden_49 : decode prog_4_method_6_code 49 = .ok (.ifCond .eq 7, 3) := by decide +kernel
theorem dq_Og_isForbidden_52 : decode prog_4_method_6_code 52 = .ok (.iconst 1, 1) := by decide +kernel
theorem dq_Og_isForbidden_53 : decode prog_4_method_6_code 53 = .ok (.goto 4, 3) := by decide +kernel
theorem dq_Og_isForbidden_56 : decode prog_4_method_6_code 56 = .ok (.iconst 0, 1) := by decide +kernel
theorem dq_Og_isForbidden_57 : decode prog_4_method_6_code 57 = .ok (.ireturn, 1) := by decide +kernel
set_option maxRecDepth 100000 in
def pq_Og_isForbidden_57 (E : wo_E) (mc ms : Nat) (Post : Int32 → wo_W → Prop) (G : wo_W) (c s : Nat) (y0 : Int32) : Prop := wo_okI .boolean y0 ∧ Post y0 G
set_option maxRecDepth 100000 in
def pq_Og_isForbidden_56 (E : wo_E) (mc ms : Nat) (Post : Int32 → wo_W → Prop) (G : wo_W) (c s : Nat) : Prop := pq_Og_isForbidden_57 E mc ms Post G c s (0 : Int32)
set_option maxRecDepth 100000 in
def pq_Og_isForbidden_27 (E : wo_E) (mc ms : Nat) (Post : Int32 → wo_W → Prop) (G : wo_W) (c s : Nat) (x0 : Option Nat) (x1 : Option Nat) : Prop := ∃ a1 : Nat, x0 = some a1 ∧ wo_ty G a1 = 9 ∧ ∀ r3 : Option Nat, r3 = wo_gr G 516 a1 → ((r3 = none → pq_Og_isForbidden_56 E mc ms Post G c s) ∧
  (∀ a5 : Nat, r3 = some a5 → ((x1 = none → pq_Og_isForbidden_56 E mc ms Post G c s) ∧
    (∀ a6 : Nat, x1 = some a6 → ∀ r7 : Option Nat, r7 = wo_gr G 516 a1 → wo_ty G a6 = 13 ∧ ∃ mc10 ms11 : Nat, (c + mc10) ≤ mc ∧ (s + ms11) ≤ ms ∧ pq_Tx_matches E mc10 ms11 (fun v13 G12 => 
      ((v13 = (0 : Int32) → pq_Og_isForbidden_56 E mc ms Post G12 (c + mc10) (s + ms11)) ∧
        (¬ v13 = (0 : Int32) → pq_Og_isForbidden_57 E mc ms Post G12 (c + mc10) (s + ms11) (1 : Int32)))) G r7 (wo_gi G 770 a6)))))
set_option maxRecDepth 100000 in
def pq_Og_isForbidden_25 (E : wo_E) (mc ms : Nat) (Post : Int32 → wo_W → Prop) (G : wo_W) (c s : Nat) : Prop := Post (1 : Int32) G
set_option maxRecDepth 100000 in
def pq_Og_isForbidden_0 (E : wo_E) (mc ms : Nat) (Post : Int32 → wo_W → Prop) (G : wo_W) (c s : Nat) (x0 : Option Nat) (x1 : Option Nat) : Prop := ∃ a1 : Nat, x0 = some a1 ∧ wo_ty G a1 = 9 ∧ ∀ r3 : Option Nat, r3 = wo_gr G 515 a1 → ((r3 = none → pq_Og_isForbidden_27 E mc ms Post G c s (some a1) x1) ∧
  (∀ a5 : Nat, r3 = some a5 → ((x1 = none → pq_Og_isForbidden_25 E mc ms Post G c s) ∧
    (∀ a6 : Nat, x1 = some a6 → ∀ r7 : Option Nat, r7 = wo_gr G 515 a1 → wo_ty G a6 = 13 ∧ ∃ mc10 ms11 : Nat, (c + mc10) ≤ mc ∧ (s + ms11) ≤ ms ∧ pq_Tx_matches E mc10 ms11 (fun v13 G12 => 
      ((¬ v13 = (0 : Int32) → pq_Og_isForbidden_27 E mc ms Post G12 (c + mc10) (s + ms11) (some a1) (some a6)) ∧
        (v13 = (0 : Int32) → pq_Og_isForbidden_25 E mc ms Post G12 (c + mc10) (s + ms11)))) G r7 (wo_gi G 770 a6)))))
def pq_Og_isForbidden (E : wo_E) (mc ms : Nat) (Post : Int32 → wo_W → Prop) (G : wo_W) (x0 : Option Nat) (x1 : Option Nat) : Prop := pq_Og_isForbidden_0 E mc ms Post G 0 0 x0 x1
set_option maxRecDepth 100000 in
set_option maxHeartbeats 4000000 in
theorem tq_Og_isForbidden_57 {p : Program} {l : Launch} {e : Env} {R : Room} {s₀ : State} {m : MethodId} {args : Array Value} {below : List Frame} {meth : Method} {cd : Code} {E : wo_E} {mc ms : Nat} {Post : Int32 → wo_W → Prop} (hC : wo_Cx E "EdgeCache$Origin" prog_4_method_6_code 2 6 133 ((Option.some Jvm.ClassFile.FieldType.boolean)) "isForbidden" mc ms p R s₀ m args meth cd) : ∀ {G : wo_W} {c s : Nat} {y0 : Int32}, pq_Og_isForbidden_57 E mc ms Post G c s y0 → ∀ {H : Heap} {locs : List Loc} {ls : Array Slot}, wo_Se E G H → va_S (en_A E) s₀.heap H locs → lx_has ls 2 [] → c ≤ mc → s ≤ ms → W p l e R s₀ m args below meth cd H locs c s (MQ below (va_Qi Post (wo_B E) (en_A E)) args s₀ mc ms (en_A E)) (F0 m 57 ls [.int y0]) := by
  intro G c s y0 hw H locs ls hG hS hl hcc hss
  dsimp only [pq_Og_isForbidden_57] at hw
  have hx := hC.1
  have hb := hC.2.1
  obtain ⟨h1, hw⟩ := hw
  exact wo_zret hC h1.1 hG hS hcc hss hw dq_Og_isForbidden_57
set_option maxRecDepth 100000 in
set_option maxHeartbeats 4000000 in
theorem tq_Og_isForbidden_56 {p : Program} {l : Launch} {e : Env} {R : Room} {s₀ : State} {m : MethodId} {args : Array Value} {below : List Frame} {meth : Method} {cd : Code} {E : wo_E} {mc ms : Nat} {Post : Int32 → wo_W → Prop} (hC : wo_Cx E "EdgeCache$Origin" prog_4_method_6_code 2 6 133 ((Option.some Jvm.ClassFile.FieldType.boolean)) "isForbidden" mc ms p R s₀ m args meth cd) : ∀ {G : wo_W} {c s : Nat}, pq_Og_isForbidden_56 E mc ms Post G c s → ∀ {H : Heap} {locs : List Loc} {ls : Array Slot}, wo_Se E G H → va_S (en_A E) s₀.heap H locs → lx_has ls 2 [] → c ≤ mc → s ≤ ms → W p l e R s₀ m args below meth cd H locs c s (MQ below (va_Qi Post (wo_B E) (en_A E)) args s₀ mc ms (en_A E)) (F0 m 56 ls []) := by
  intro G c s hw H locs ls hG hS hl hcc hss
  dsimp only [pq_Og_isForbidden_56] at hw
  have hx := hC.1
  have hb := hC.2.1
  refine lv_iconst (v := (0 : Int32)) hx hb dq_Og_isForbidden_56 rfl ?_
  exact tq_Og_isForbidden_57 hC hw hG hS (lx_sub hl [] rfl) hcc hss
set_option maxRecDepth 100000 in
set_option maxHeartbeats 4000000 in
theorem tq_Og_isForbidden_27 {p : Program} {l : Launch} {e : Env} {R : Room} {s₀ : State} {m : MethodId} {args : Array Value} {below : List Frame} {meth : Method} {cd : Code} {E : wo_E} {mc ms : Nat} {Post : Int32 → wo_W → Prop} (hC : wo_Cx E "EdgeCache$Origin" prog_4_method_6_code 2 6 133 ((Option.some Jvm.ClassFile.FieldType.boolean)) "isForbidden" mc ms p R s₀ m args meth cd) : ∀ {G : wo_W} {c s : Nat} {x0 : Option Nat} {x1 : Option Nat}, pq_Og_isForbidden_27 E mc ms Post G c s x0 x1 → ∀ {H : Heap} {locs : List Loc} {ls : Array Slot}, wo_Se E G H → va_S (en_A E) s₀.heap H locs → lx_has ls 2 [(0, 1, va_rf x0), (1, 1, va_rf x1)] → c ≤ mc → s ≤ ms → W p l e R s₀ m args below meth cd H locs c s (MQ below (va_Qi Post (wo_B E) (en_A E)) args s₀ mc ms (en_A E)) (F0 m 27 ls []) := by
  intro G c s x0 x1 hw H locs ls hG hS hl hcc hss
  dsimp only [pq_Og_isForbidden_27] at hw
  have hx := hC.1
  have hb := hC.2.1
  refine lx_aloadR_n hx hb dq_Og_isForbidden_27 rfl (lx_at hl 0 rfl) ?_
  obtain ⟨a1, rfl, hw⟩ := hw
  obtain ⟨t2, hw⟩ := hw
  refine wo_getR hC fq_Og_141 rfl hG t2 dq_Og_isForbidden_28 (fun r3 e4 => ?_)
  replace hw := hw r3 e4
  refine lx_ifnull (tgt := 56) hx hb dq_Og_isForbidden_31 rfl (fun h => ?_) (fun a5 h => ?_)
  · replace hw := hw.1 h
    subst h
    exact tq_Og_isForbidden_56 hC hw hG hS (lx_sub hl [] rfl) hcc hss
  · replace hw := hw.2 a5 h
    subst h
    refine lx_aloadR_n hx hb dq_Og_isForbidden_34 rfl (lx_at hl 1 rfl) ?_
    refine lx_ifnull (tgt := 56) hx hb dq_Og_isForbidden_35 rfl (fun h => ?_) (fun a6 h => ?_)
    · replace hw := hw.1 h
      subst h
      exact tq_Og_isForbidden_56 hC hw hG hS (lx_sub hl [] rfl) hcc hss
    · replace hw := hw.2 a6 h
      subst h
      refine lv_aload_n hx hb dq_Og_isForbidden_38 rfl (lx_at hl 0 rfl) ?_
      refine wo_getR hC fq_Og_141 rfl hG t2 dq_Og_isForbidden_39 (fun r7 e8 => ?_)
      replace hw := hw r7 e8
      refine lv_aload_n hx hb dq_Og_isForbidden_42 rfl (lx_at hl 1 rfl) ?_
      obtain ⟨t9, hw⟩ := hw
      refine wo_getI hC fq_Og_68 rfl hG t9 dq_Og_isForbidden_43 ?_
      obtain ⟨mc10, ms11, hc1, hs1, hw⟩ := hw
      refine va_calli (wo_runS hC lq_Og_135 (mq_Tx_matches hw) hG hS rfl (lx_sz hl) rfl (Nat.zero_le _) (by decide) dq_Og_isForbidden_46 ⟨hc1, hs1⟩) hS (fun _ _ h => h) (fun _ h => h) (fun v13 G12 t H locs ht hvm hw' hB _ _ hS => ?_)
      clear hw
      have hw := hw'
      clear hw'
      replace hG := wo_bk ht hB
      replace hcc := hc1
      replace hss := hs1
      refine lv_if_eq (tgt := 56) hx hb dq_Og_isForbidden_49 rfl (fun h => ?_) (fun h => ?_)
      · replace hw := hw.1 h
        exact tq_Og_isForbidden_56 hC hw hG hS (lx_sub hl [] rfl) hcc hss
      · replace hw := hw.2 h
        refine lv_iconst (v := (1 : Int32)) hx hb dq_Og_isForbidden_52 rfl ?_
        refine lv_goto (tgt := 57) hx hb dq_Og_isForbidden_53 rfl ?_
        exact tq_Og_isForbidden_57 hC hw hG hS (lx_sub hl [] rfl) hcc hss
set_option maxRecDepth 100000 in
set_option maxHeartbeats 4000000 in
theorem tq_Og_isForbidden_25 {p : Program} {l : Launch} {e : Env} {R : Room} {s₀ : State} {m : MethodId} {args : Array Value} {below : List Frame} {meth : Method} {cd : Code} {E : wo_E} {mc ms : Nat} {Post : Int32 → wo_W → Prop} (hC : wo_Cx E "EdgeCache$Origin" prog_4_method_6_code 2 6 133 ((Option.some Jvm.ClassFile.FieldType.boolean)) "isForbidden" mc ms p R s₀ m args meth cd) : ∀ {G : wo_W} {c s : Nat}, pq_Og_isForbidden_25 E mc ms Post G c s → ∀ {H : Heap} {locs : List Loc} {ls : Array Slot}, wo_Se E G H → va_S (en_A E) s₀.heap H locs → lx_has ls 2 [] → c ≤ mc → s ≤ ms → W p l e R s₀ m args below meth cd H locs c s (MQ below (va_Qi Post (wo_B E) (en_A E)) args s₀ mc ms (en_A E)) (F0 m 25 ls []) := by
  intro G c s hw H locs ls hG hS hl hcc hss
  dsimp only [pq_Og_isForbidden_25] at hw
  have hx := hC.1
  have hb := hC.2.1
  refine lv_iconst (v := (1 : Int32)) hx hb dq_Og_isForbidden_25 rfl ?_
  exact wo_zret hC wo_z1 hG hS hcc hss hw dq_Og_isForbidden_26
set_option maxRecDepth 100000 in
set_option maxHeartbeats 4000000 in
theorem tq_Og_isForbidden_0 {p : Program} {l : Launch} {e : Env} {R : Room} {s₀ : State} {m : MethodId} {args : Array Value} {below : List Frame} {meth : Method} {cd : Code} {E : wo_E} {mc ms : Nat} {Post : Int32 → wo_W → Prop} (hC : wo_Cx E "EdgeCache$Origin" prog_4_method_6_code 2 6 133 ((Option.some Jvm.ClassFile.FieldType.boolean)) "isForbidden" mc ms p R s₀ m args meth cd) : ∀ {G : wo_W} {c s : Nat} {x0 : Option Nat} {x1 : Option Nat}, pq_Og_isForbidden_0 E mc ms Post G c s x0 x1 → ∀ {H : Heap} {locs : List Loc} {ls : Array Slot}, wo_Se E G H → va_S (en_A E) s₀.heap H locs → lx_has ls 2 [(0, 1, va_rf x0), (1, 1, va_rf x1)] → c ≤ mc → s ≤ ms → W p l e R s₀ m args below meth cd H locs c s (MQ below (va_Qi Post (wo_B E) (en_A E)) args s₀ mc ms (en_A E)) (F0 m 0 ls []) := by
  intro G c s x0 x1 hw H locs ls hG hS hl hcc hss
  dsimp only [pq_Og_isForbidden_0] at hw
  have hx := hC.1
  have hb := hC.2.1
  refine lx_aloadR_n hx hb dq_Og_isForbidden_0 rfl (lx_at hl 0 rfl) ?_
  obtain ⟨a1, rfl, hw⟩ := hw
  obtain ⟨t2, hw⟩ := hw
  refine wo_getR hC fq_Og_132 rfl hG t2 dq_Og_isForbidden_1 (fun r3 e4 => ?_)
  replace hw := hw r3 e4
  refine lx_ifnull (tgt := 27) hx hb dq_Og_isForbidden_4 rfl (fun h => ?_) (fun a5 h => ?_)
  · replace hw := hw.1 h
    subst h
    exact tq_Og_isForbidden_27 hC hw hG hS (lx_sub hl [0, 1] rfl) hcc hss
  · replace hw := hw.2 a5 h
    subst h
    refine lx_aloadR_n hx hb dq_Og_isForbidden_7 rfl (lx_at hl 1 rfl) ?_
    refine lx_ifnull (tgt := 25) hx hb dq_Og_isForbidden_8 rfl (fun h => ?_) (fun a6 h => ?_)
    · replace hw := hw.1 h
      subst h
      exact tq_Og_isForbidden_25 hC hw hG hS (lx_sub hl [] rfl) hcc hss
    · replace hw := hw.2 a6 h
      subst h
      refine lv_aload_n hx hb dq_Og_isForbidden_11 rfl (lx_at hl 0 rfl) ?_
      refine wo_getR hC fq_Og_132 rfl hG t2 dq_Og_isForbidden_12 (fun r7 e8 => ?_)
      replace hw := hw r7 e8
      refine lv_aload_n hx hb dq_Og_isForbidden_15 rfl (lx_at hl 1 rfl) ?_
      obtain ⟨t9, hw⟩ := hw
      refine wo_getI hC fq_Og_68 rfl hG t9 dq_Og_isForbidden_16 ?_
      obtain ⟨mc10, ms11, hc1, hs1, hw⟩ := hw
      refine va_calli (wo_runS hC lq_Og_135 (mq_Tx_matches hw) hG hS rfl (lx_sz hl) rfl (Nat.zero_le _) (by decide) dq_Og_isForbidden_19 ⟨hc1, hs1⟩) hS (fun _ _ h => h) (fun _ h => h) (fun v13 G12 t H locs ht hvm hw' hB _ _ hS => ?_)
      clear hw
      have hw := hw'
      clear hw'
      replace hG := wo_bk ht hB
      replace hcc := hc1
      replace hss := hs1
      refine lv_if_ne (tgt := 27) hx hb dq_Og_isForbidden_22 rfl (fun h => ?_) (fun h => ?_)
      · replace hw := hw.1 h
        exact tq_Og_isForbidden_27 hC hw hG hS (lx_sub hl [0, 1] rfl) hcc hss
      · replace hw := hw.2 h
        exact tq_Og_isForbidden_25 hC hw hG hS (lx_sub hl [] rfl) hcc hss
set_option maxHeartbeats 4000000 in
theorem mq_Og_isForbidden {l : Launch} {E : wo_E} {mc ms : Nat} {Post : Int32 → wo_W → Prop} {G : wo_W} {x0 : Option Nat} {x1 : Option Nat} (hw : pq_Og_isForbidden E mc ms Post G x0 x1) : Met l yq_Og_isForbidden (Cond.code yq_Og_isForbidden prog_4_method_6_code 2 ((Option.some Jvm.ClassFile.FieldType.boolean)) :: vw_WG) { frames := 6, cells := mc, slots := ms, locals := 133 } (va_Pc [va_rf x0, va_rf x1] (wo_Ok E G)) (va_Qi Post (wo_B E) (en_A E)) mc ms (en_A E) := by
  unfold pq_Og_isForbidden at hw
  exact wo_met [(1, va_rf x0), (1, va_rf x1)] rfl (by decide) (fun q hq => by simp only [List.mem_cons, List.not_mem_nil, or_false] at hq; rcases hq with rfl | rfl <;> first | rfl | exact lx_cR _) (Nat.le_of_ble_eq_true rfl) (fun p e R s m args below meth cd ls hC hG hS hl => tq_Og_isForbidden_0 hC hw hG hS (lx_sub hl [0, 1] rfl) (Nat.zero_le _) (Nat.zero_le _))

theorem dq_Rs_least_0 : decode prog_8_method_4_code 0 = .ok (.iconst 0, 1) := by decide +kernel
theorem dq_Rs_least_1 : decode prog_8_method_4_code 1 = .ok (.istore_n 1, 1) := by decide +kernel
theorem dq_Rs_least_2 : decode prog_8_method_4_code 2 = .ok (.iload_n 1, 1) := by decide +kernel
theorem dq_Rs_least_3 : decode prog_8_method_4_code 3 = .ok (.iconst 3, 1) := by decide +kernel
theorem dq_Rs_least_4 : decode prog_8_method_4_code 4 = .ok (.if_icmp .ge 25, 3) := by decide +kernel
theorem dq_Rs_least_7 : decode prog_8_method_4_code 7 = .ok (.aload_n 0, 1) := by decide +kernel
theorem dq_Rs_least_8 : decode prog_8_method_4_code 8 = .ok (.getfield 13, 3) := by decide +kernel
theorem dq_Rs_least_11 : decode prog_8_method_4_code 11 = .ok (.iload_n 1, 1) := by decide +kernel
theorem dq_Rs_least_12 : decode prog_8_method_4_code 12 = .ok (.aaload, 1) := by decide +kernel
theorem dq_Rs_least_13 : decode prog_8_method_4_code 13 = .ok (.ifnull 10, 3) := by decide +kernel
theorem dq_Rs_least_16 : decode prog_8_method_4_code 16 = .ok (.aload_n 0, 1) := by decide +kernel
theorem dq_Rs_least_17 : decode prog_8_method_4_code 17 = .ok (.getfield 13, 3) := by decide +kernel
theorem dq_Rs_least_20 : decode prog_8_method_4_code 20 = .ok (.iload_n 1, 1) := by decide +kernel
theorem dq_Rs_least_21 : decode prog_8_method_4_code 21 = .ok (.aaload, 1) := by decide +kernel
theorem dq_Rs_least_22 : decode prog_8_method_4_code 22 = .ok (.areturn, 1) := by decide +kernel
theorem dq_Rs_least_23 : decode prog_8_method_4_code 23 = .ok (.iinc 1 1, 3) := by decide +kernel
theorem dq_Rs_least_26 : decode prog_8_method_4_code 26 = .ok (.goto (-24), 3) := by decide +kernel
theorem dq_Rs_least_29 : decode prog_8_method_4_code 29 = .ok (.aconst_null, 1) := by decide +kernel
theorem dq_Rs_least_30 : decode prog_8_method_4_code 30 = .ok (.areturn, 1) := by decide +kernel
set_option maxRecDepth 100000 in
def pq_Rs_least_2 (E : wo_E) (mc ms : Nat) (Post : Option Nat → wo_W → Prop) : Nat → wo_W → Nat → Nat → Nat → Int32 → Prop
  | 0 => fun _ _ _ _ _ => False
  | n + 1 => fun G c s x0 x1 => (((3 : Int32) ≤ x1 → Post none G) ∧
  (¬ (3 : Int32) ≤ x1 → wo_ty G x0 = 12 ∧ ∀ r2 : Option Nat, r2 = wo_gr G 705 x0 → ∃ a4 : Nat, r2 = some a4 ∧ wo_ty G a4 = 70 ∧ vp_in x1 (wo_len G a4) ∧ ∀ r7 : Option Nat, r7 = wo_er G a4 x1.toNatClampNeg → ((r7 = none → pq_Rs_least_2 E mc ms Post n G c s x0 (x1 + (1 : Int32))) ∧
    (∀ a9 : Nat, r7 = some a9 → ∀ r10 : Option Nat, r10 = wo_gr G 705 x0 → ∃ a12 : Nat, r10 = some a12 ∧ wo_ty G a12 = 70 ∧ vp_in x1 (wo_len G a12) ∧ ∀ r15 : Option Nat, r15 = wo_er G a12 x1.toNatClampNeg → Post r15 G))))
set_option maxRecDepth 100000 in
def pq_Rs_least_0 (E : wo_E) (mc ms : Nat) (Post : Option Nat → wo_W → Prop) (G : wo_W) (c s : Nat) (x0 : Nat) : Prop := ∃ n1 : Nat, pq_Rs_least_2 E mc ms Post n1 G c s x0 (0 : Int32)
def pq_Rs_least (E : wo_E) (mc ms : Nat) (Post : Option Nat → wo_W → Prop) (G : wo_W) (x0 : Nat) : Prop := pq_Rs_least_0 E mc ms Post G 0 0 x0
set_option maxRecDepth 100000 in
set_option maxHeartbeats 4000000 in
theorem tq_Rs_least_2 {p : Program} {l : Launch} {e : Env} {R : Room} {s₀ : State} {m : MethodId} {args : Array Value} {below : List Frame} {meth : Method} {cd : Code} {E : wo_E} {mc ms : Nat} {Post : Option Nat → wo_W → Prop} (hC : wo_Cx E "EdgeCache$Resource" prog_8_method_4_code 2 0 0 ((Option.some (Jvm.ClassFile.FieldType.object "EdgeCache$Representation"))) "least" mc ms p R s₀ m args meth cd) : ∀ n : Nat, ∀ {G : wo_W} {c s : Nat} {x0 : Nat} {x1 : Int32}, pq_Rs_least_2 E mc ms Post n G c s x0 x1 → ∀ {H : Heap} {locs : List Loc} {ls : Array Slot}, wo_Se E G H → va_S (en_A E) s₀.heap H locs → lx_has ls 2 [(0, 1, .ref x0), (1, 1, .int x1)] → c ≤ mc → s ≤ ms → W p l e R s₀ m args below meth cd H locs c s (MQ below (va_Qq Post (wo_B E) (en_A E)) args s₀ mc ms (en_A E)) (F0 m 2 ls []) := by
  intro n
  induction n with
  | zero => intro G c s x0 x1 hw; exact hw.elim
  | succ n ih =>
    intro G c s x0 x1 hw H locs ls hG hS hl hcc hss
    dsimp only [pq_Rs_least_2] at hw
    have hx := hC.1
    have hb := hC.2.1
    refine lv_iload_n hx hb dq_Rs_least_2 rfl (lx_at hl 1 rfl) ?_
    refine lv_iconst (v := (3 : Int32)) hx hb dq_Rs_least_3 rfl ?_
    refine lv_icmp_ge (tgt := 29) hx hb dq_Rs_least_4 rfl (fun h => ?_) (fun h => ?_)
    · replace hw := hw.1 h
      refine lv_null hx hb dq_Rs_least_29 ?_
      exact wo_aret (x := none) hC rfl hG hS hcc hss hw dq_Rs_least_30
    · replace hw := hw.2 h
      refine lv_aload_n hx hb dq_Rs_least_7 rfl (lx_at hl 0 rfl) ?_
      obtain ⟨t1, hw⟩ := hw
      refine wo_getR hC fq_Rs_13 rfl hG t1 dq_Rs_least_8 (fun r2 e3 => ?_)
      replace hw := hw r2 e3
      refine lv_iload_n hx hb dq_Rs_least_11 rfl (lx_at hl 1 rfl) ?_
      obtain ⟨a4, rfl, hw⟩ := hw
      obtain ⟨t5, hw⟩ := hw
      obtain ⟨h6, hw⟩ := hw
      refine wo_aald (j := 6) hC rfl hG t5 h6 dq_Rs_least_12 (fun r7 e8 => ?_)
      replace hw := hw r7 e8
      refine lx_ifnull (tgt := 23) hx hb dq_Rs_least_13 rfl (fun h => ?_) (fun a9 h => ?_)
      · replace hw := hw.1 h
        subst h
        refine lx_iinc (k := 1) (v := (x1 + (1 : Int32))) (lv' := [(1, 1, .int (x1 + (1 : Int32))), (0, 1, .ref x0)]) hx hb dq_Rs_least_23 hl rfl rfl (by decide) rfl (fun ls hl' => ?_)
        clear hl
        have hl := hl'
        clear hl'
        refine lv_goto (tgt := 2) hx hb dq_Rs_least_26 rfl ?_
        exact ih hw hG hS (lx_sub hl [1, 0] rfl) hcc hss
      · replace hw := hw.2 a9 h
        subst h
        refine lv_aload_n hx hb dq_Rs_least_16 rfl (lx_at hl 0 rfl) ?_
        refine wo_getR hC fq_Rs_13 rfl hG t1 dq_Rs_least_17 (fun r10 e11 => ?_)
        replace hw := hw r10 e11
        refine lv_iload_n hx hb dq_Rs_least_20 rfl (lx_at hl 1 rfl) ?_
        obtain ⟨a12, rfl, hw⟩ := hw
        obtain ⟨t13, hw⟩ := hw
        obtain ⟨h14, hw⟩ := hw
        refine wo_aald (j := 6) hC rfl hG t13 h14 dq_Rs_least_21 (fun r15 e16 => ?_)
        replace hw := hw r15 e16
        exact wo_aret (x := r15) hC rfl hG hS hcc hss hw dq_Rs_least_22
set_option maxRecDepth 100000 in
set_option maxHeartbeats 4000000 in
theorem tq_Rs_least_0 {p : Program} {l : Launch} {e : Env} {R : Room} {s₀ : State} {m : MethodId} {args : Array Value} {below : List Frame} {meth : Method} {cd : Code} {E : wo_E} {mc ms : Nat} {Post : Option Nat → wo_W → Prop} (hC : wo_Cx E "EdgeCache$Resource" prog_8_method_4_code 2 0 0 ((Option.some (Jvm.ClassFile.FieldType.object "EdgeCache$Representation"))) "least" mc ms p R s₀ m args meth cd) : ∀ {G : wo_W} {c s : Nat} {x0 : Nat}, pq_Rs_least_0 E mc ms Post G c s x0 → ∀ {H : Heap} {locs : List Loc} {ls : Array Slot}, wo_Se E G H → va_S (en_A E) s₀.heap H locs → lx_has ls 2 [(0, 1, .ref x0)] → c ≤ mc → s ≤ ms → W p l e R s₀ m args below meth cd H locs c s (MQ below (va_Qq Post (wo_B E) (en_A E)) args s₀ mc ms (en_A E)) (F0 m 0 ls []) := by
  intro G c s x0 hw H locs ls hG hS hl hcc hss
  dsimp only [pq_Rs_least_0] at hw
  have hx := hC.1
  have hb := hC.2.1
  refine lv_iconst (v := (0 : Int32)) hx hb dq_Rs_least_0 rfl ?_
  refine lx_istore_n (lv' := [(1, 1, .int (0 : Int32)), (0, 1, .ref x0)]) hx hb dq_Rs_least_1 rfl hl (by decide) rfl (fun ls hl' => ?_)
  clear hl
  have hl := hl'
  clear hl'
  obtain ⟨n1, hw⟩ := hw
  exact tq_Rs_least_2 hC n1 hw hG hS (lx_sub hl [1, 0] rfl) hcc hss
set_option maxHeartbeats 4000000 in
theorem mq_Rs_least {l : Launch} {E : wo_E} {mc ms : Nat} {Post : Option Nat → wo_W → Prop} {G : wo_W} {x0 : Nat} (hw : pq_Rs_least E mc ms Post G x0) : Met l yq_Rs_least (Cond.code yq_Rs_least prog_8_method_4_code 2 ((Option.some (Jvm.ClassFile.FieldType.object "EdgeCache$Representation"))) :: vw_WG) { frames := 0, cells := mc, slots := ms, locals := 0 } (va_Pc [.ref x0] (wo_Ok E G)) (va_Qq Post (wo_B E) (en_A E)) mc ms (en_A E) := by
  unfold pq_Rs_least at hw
  exact wo_met [(1, .ref x0)] rfl (by decide) (fun q hq => by simp only [List.mem_cons, List.not_mem_nil, or_false] at hq; rcases hq with rfl <;> first | rfl | exact lx_cR _) (Nat.le_of_ble_eq_true rfl) (fun p e R s m args below meth cd ls hC hG hS hl => tq_Rs_least_0 hC hw hG hS (lx_sub hl [0] rfl) (Nat.zero_le _) (Nat.zero_le _))

theorem dq_Og_delete_0 : decode prog_4_method_5_code 0 = .ok (.aload_n 0, 1) := by decide +kernel
theorem dq_Og_delete_1 : decode prog_4_method_5_code 1 = .ok (.aload_n 1, 1) := by decide +kernel
theorem dq_Og_delete_2 : decode prog_4_method_5_code 2 = .ok (.getfield 18, 3) := by decide +kernel
theorem dq_Og_delete_5 : decode prog_4_method_5_code 5 = .ok (.getfield 40, 3) := by decide +kernel
theorem dq_Og_delete_8 : decode prog_4_method_5_code 8 = .ok (.invokevirtual 44, 3) := by decide +kernel
theorem dq_Og_delete_11 : decode prog_4_method_5_code 11 = .ok (.istore_n 2, 1) := by decide +kernel
theorem dq_Og_delete_12 : decode prog_4_method_5_code 12 = .ok (.iload_n 2, 1) := by decide +kernel
theorem dq_Og_delete_13 : decode prog_4_method_5_code 13 = .ok (.iconst (-1), 1) := by decide +kernel
theorem dq_Og_delete_14 : decode prog_4_method_5_code 14 = .ok (.if_icmp .ne 13, 3) := by decide +kernel
theorem dq_Og_delete_17 : decode prog_4_method_5_code 17 = .ok (.aload_n 1, 1) := by decide +kernel
theorem dq_Og_delete_18 : decode prog_4_method_5_code 18 = .ok (.sipush 404, 3) := by decide +kernel
theorem dq_Og_delete_21 : decode prog_4_method_5_code 21 = .ok (.putfield 48, 3) := by decide +kernel
theorem dq_Og_delete_24 : decode prog_4_method_5_code 24 = .ok (.goto 53, 3) := by decide +kernel
theorem dq_Og_delete_27 : decode prog_4_method_5_code 27 = .ok (.aload_n 1, 1) := by decide +kernel
theorem dq_Og_delete_28 : decode prog_4_method_5_code 28 = .ok (.getfield 18, 3) := by decide +kernel
theorem dq_Og_delete_31 : decode prog_4_method_5_code 31 = .ok (.aload_n 0, 1) := by decide +kernel
theorem dq_Og_delete_32 : decode prog_4_method_5_code 32 = .ok (.getfield 12, 3) := by decide +kernel
theorem dq_Og_delete_35 : decode prog_4_method_5_code 35 = .ok (.iload_n 2, 1) := by decide +kernel
theorem dq_Og_delete_36 : decode prog_4_method_5_code 36 = .ok (.invokevirtual 51, 3) := by decide +kernel
theorem dq_Og_delete_39 : decode prog_4_method_5_code 39 = .ok (.checkcast 55, 3) := by decide +kernel
theorem dq_Og_delete_42 : decode prog_4_method_5_code 42 = .ok (.invokevirtual 125, 3) := by decide +kernel
theorem dq_Og_delete_45 : decode prog_4_method_5_code 45 = .ok (.invokestatic 86, 3) := by decide +kernel
theorem dq_Og_delete_48 : decode prog_4_method_5_code 48 = .ok (.ifCond .eq 13, 3) := by decide +kernel
theorem dq_Og_delete_51 : decode prog_4_method_5_code 51 = .ok (.aload_n 1, 1) := by decide +kernel
theorem dq_Og_delete_52 : decode prog_4_method_5_code 52 = .ok (.sipush 412, 3) := by decide +kernel
theorem dq_Og_delete_55 : decode prog_4_method_5_code 55 = .ok (.putfield 48, 3) := by decide +kernel
theorem dq_Og_delete_58 : decode prog_4_method_5_code 58 = .ok (.goto 19, 3) := by decide +kernel
theorem dq_Og_delete_61 : decode prog_4_method_5_code 61 = .ok (.aload_n 0, 1) := by decide +kernel
theorem dq_Og_delete_62 : decode prog_4_method_5_code 62 = .ok (.getfield 12, 3) := by decide +kernel
theorem dq_Og_delete_65 : decode prog_4_method_5_code 65 = .ok (.iload_n 2, 1) := by decide +kernel
theorem dq_Og_delete_66 : decode prog_4_method_5_code 66 = .ok (.invokevirtual 129, 3) := by decide +kernel
theorem dq_Og_delete_69 : decode prog_4_method_5_code 69 = .ok (.pop, 1) := by decide +kernel
theorem dq_Og_delete_70 : decode prog_4_method_5_code 70 = .ok (.aload_n 1, 1) := by decide +kernel
theorem dq_Og_delete_71 : decode prog_4_method_5_code 71 = .ok (.sipush 204, 3) := by decide +kernel
theorem dq_Og_delete_74 : decode prog_4_method_5_code 74 = .ok (.putfield 48, 3) := by decide +kernel
theorem dq_Og_delete_77 : decode prog_4_method_5_code 77 = .ok (.return_, 1) := by decide +kernel
set_option maxRecDepth 100000 in
def pq_Og_delete_77 (E : wo_E) (mc ms : Nat) (Post : wo_W → Prop) (G : wo_W) (c s : Nat) : Prop := Post G
set_option maxRecDepth 100000 in
def pq_Og_delete_0 (E : wo_E) (mc ms : Nat) (Post : wo_W → Prop) (G : wo_W) (c s : Nat) (x0 : Nat) (x1 : Option Nat) : Prop := ∃ a1 : Nat, x1 = some a1 ∧ wo_ty G a1 = 11 ∧ ∀ r3 : Option Nat, r3 = wo_gr G 640 a1 → ∃ a5 : Nat, r3 = some a5 ∧ wo_ty G a5 = 9 ∧ ∀ r7 : Option Nat, r7 = wo_gr G 513 a5 → wo_ty G x0 = 2 ∧ ∃ mc10 ms11 : Nat, (c + mc10) ≤ mc ∧ (s + ms11) ≤ ms ∧ pq_Og_indexOf E mc10 ms11 (fun v13 G12 => 
  ((¬ v13 = (-1 : Int32) → wo_ty G12 a1 = 11 ∧ ∀ r15 : Option Nat, r15 = wo_gr G12 640 a1 → wo_ty G12 x0 = 2 ∧ ∀ r18 : Option Nat, r18 = wo_gr G12 64 x0 → ∃ a20 : Nat, r18 = some a20 ∧ wo_ty G12 a20 = 3 ∧ ∃ mc22 ms23 : Nat, ((c + mc10) + mc22) ≤ mc ∧ ((s + ms11) + ms23) ≤ ms ∧ pq_Al_get E mc22 ms23 (fun v25 G24 => 
      wo_is G24 12 v25 ∧ ∃ a27 : Nat, v25 = some a27 ∧ wo_ty G24 a27 = 12 ∧ ∃ mc29 ms30 : Nat, (((c + mc10) + mc22) + mc29) ≤ mc ∧ (((s + ms11) + ms23) + ms30) ≤ ms ∧ pq_Rs_least E mc29 ms30 (fun v32 G31 => 
        ∃ mc33 ms34 : Nat, ((((c + mc10) + mc22) + mc29) + mc33) ≤ mc ∧ ((((s + ms11) + ms23) + ms30) + ms34) ≤ ms ∧ pq_Og_isForbidden E mc33 ms34 (fun v36 G35 => 
          ((v36 = (0 : Int32) → wo_ty G35 x0 = 2 ∧ ∀ r38 : Option Nat, r38 = wo_gr G35 64 x0 → ∃ a40 : Nat, r38 = some a40 ∧ wo_ty G35 a40 = 3 ∧ ∃ mc42 ms43 : Nat, (((((c + mc10) + mc22) + mc29) + mc33) + mc42) ≤ mc ∧ (((((s + ms11) + ms23) + ms30) + ms34) + ms43) ≤ ms ∧ pq_Al_remove E mc42 ms43 (fun v45 G44 => 
              wo_ty G44 a1 = 11 ∧ en_bs E ≤ a1 ∧ ∀ G48 : wo_W, G48 = wo_si G44 643 a1 (204 : Int32) → 
                pq_Og_delete_77 E mc ms Post G48 (((((c + mc10) + mc22) + mc29) + mc33) + mc42) (((((s + ms11) + ms23) + ms30) + ms34) + ms43)) G35 a40 v13) ∧
            (¬ v36 = (0 : Int32) → wo_ty G35 a1 = 11 ∧ en_bs E ≤ a1 ∧ ∀ G52 : wo_W, G52 = wo_si G35 643 a1 (412 : Int32) → 
              pq_Og_delete_77 E mc ms Post G52 ((((c + mc10) + mc22) + mc29) + mc33) ((((s + ms11) + ms23) + ms30) + ms34)))) G31 r15 v32) G24 a27) G12 a20 v13) ∧
    (v13 = (-1 : Int32) → wo_ty G12 a1 = 11 ∧ en_bs E ≤ a1 ∧ ∀ G56 : wo_W, G56 = wo_si G12 643 a1 (404 : Int32) → 
      pq_Og_delete_77 E mc ms Post G56 (c + mc10) (s + ms11)))) G x0 r7
def pq_Og_delete (E : wo_E) (mc ms : Nat) (Post : wo_W → Prop) (G : wo_W) (x0 : Nat) (x1 : Option Nat) : Prop := pq_Og_delete_0 E mc ms Post G 0 0 x0 x1
set_option maxRecDepth 100000 in
set_option maxHeartbeats 4000000 in
theorem tq_Og_delete_77 {p : Program} {l : Launch} {e : Env} {R : Room} {s₀ : State} {m : MethodId} {args : Array Value} {below : List Frame} {meth : Method} {cd : Code} {E : wo_E} {mc ms : Nat} {Post : wo_W → Prop} (hC : wo_Cx E "EdgeCache$Origin" prog_4_method_5_code 3 7 154 ((Option.none : Option Jvm.ClassFile.FieldType)) "delete" mc ms p R s₀ m args meth cd) : ∀ {G : wo_W} {c s : Nat}, pq_Og_delete_77 E mc ms Post G c s → ∀ {H : Heap} {locs : List Loc} {ls : Array Slot}, wo_Se E G H → va_S (en_A E) s₀.heap H locs → lx_has ls 3 [] → c ≤ mc → s ≤ ms → W p l e R s₀ m args below meth cd H locs c s (MQ below (va_Qv Post (wo_B E) (en_A E)) args s₀ mc ms (en_A E)) (F0 m 77 ls []) := by
  intro G c s hw H locs ls hG hS hl hcc hss
  dsimp only [pq_Og_delete_77] at hw
  have hx := hC.1
  have hb := hC.2.1
  exact wo_vret hC hG hS hcc hss hw dq_Og_delete_77
set_option maxRecDepth 100000 in
set_option maxHeartbeats 4000000 in
theorem tq_Og_delete_0 {p : Program} {l : Launch} {e : Env} {R : Room} {s₀ : State} {m : MethodId} {args : Array Value} {below : List Frame} {meth : Method} {cd : Code} {E : wo_E} {mc ms : Nat} {Post : wo_W → Prop} (hC : wo_Cx E "EdgeCache$Origin" prog_4_method_5_code 3 7 154 ((Option.none : Option Jvm.ClassFile.FieldType)) "delete" mc ms p R s₀ m args meth cd) : ∀ {G : wo_W} {c s : Nat} {x0 : Nat} {x1 : Option Nat}, pq_Og_delete_0 E mc ms Post G c s x0 x1 → ∀ {H : Heap} {locs : List Loc} {ls : Array Slot}, wo_Se E G H → va_S (en_A E) s₀.heap H locs → lx_has ls 3 [(0, 1, .ref x0), (1, 1, va_rf x1)] → c ≤ mc → s ≤ ms → W p l e R s₀ m args below meth cd H locs c s (MQ below (va_Qv Post (wo_B E) (en_A E)) args s₀ mc ms (en_A E)) (F0 m 0 ls []) := by
  intro G c s x0 x1 hw H locs ls hG hS hl hcc hss
  dsimp only [pq_Og_delete_0] at hw
  have hx := hC.1
  have hb := hC.2.1
  refine lv_aload_n hx hb dq_Og_delete_0 rfl (lx_at hl 0 rfl) ?_
  refine lx_aloadR_n hx hb dq_Og_delete_1 rfl (lx_at hl 1 rfl) ?_
  obtain ⟨a1, rfl, hw⟩ := hw
  obtain ⟨t2, hw⟩ := hw
  refine wo_getR hC fq_Og_18 rfl hG t2 dq_Og_delete_2 (fun r3 e4 => ?_)
  replace hw := hw r3 e4
  obtain ⟨a5, rfl, hw⟩ := hw
  obtain ⟨t6, hw⟩ := hw
  refine wo_getR hC fq_Og_40 rfl hG t6 dq_Og_delete_5 (fun r7 e8 => ?_)
  replace hw := hw r7 e8
  obtain ⟨t9, hw⟩ := hw
  obtain ⟨mc10, ms11, hc1, hs1, hw⟩ := hw
  refine va_calli (wo_runV hC lq_Og_44 (mq_Og_indexOf hw) hG hS t9 rfl (lx_sz hl) rfl (Nat.zero_le _) (by decide) dq_Og_delete_8 ⟨hc1, hs1⟩) hS (fun _ _ h => h) (fun _ h => h) (fun v13 G12 t H locs ht hvm hw' hB _ _ hS => ?_)
  clear hw
  have hw := hw'
  clear hw'
  replace hG := wo_bk ht hB
  replace hcc := hc1
  replace hss := hs1
  refine lx_istore_n (lv' := [(2, 1, .int v13), (0, 1, .ref x0), (1, 1, .ref a1)]) hx hb dq_Og_delete_11 rfl hl (by decide) rfl (fun ls hl' => ?_)
  clear hl
  have hl := hl'
  clear hl'
  refine lv_iload_n hx hb dq_Og_delete_12 rfl (lx_at hl 0 rfl) ?_
  refine lv_iconst (v := (-1 : Int32)) hx hb dq_Og_delete_13 rfl ?_
  refine lv_icmp_ne (tgt := 27) hx hb dq_Og_delete_14 rfl (fun h => ?_) (fun h => ?_)
  · replace hw := hw.1 h
    refine lv_aload_n hx hb dq_Og_delete_27 rfl (lx_at hl 2 rfl) ?_
    obtain ⟨t14, hw⟩ := hw
    refine wo_getR hC fq_Og_18 rfl hG t14 dq_Og_delete_28 (fun r15 e16 => ?_)
    replace hw := hw r15 e16
    refine lv_aload_n hx hb dq_Og_delete_31 rfl (lx_at hl 1 rfl) ?_
    obtain ⟨t17, hw⟩ := hw
    refine wo_getR hC fq_Og_12 rfl hG t17 dq_Og_delete_32 (fun r18 e19 => ?_)
    replace hw := hw r18 e19
    refine lv_iload_n hx hb dq_Og_delete_35 rfl (lx_at hl 0 rfl) ?_
    obtain ⟨a20, rfl, hw⟩ := hw
    obtain ⟨t21, hw⟩ := hw
    obtain ⟨mc22, ms23, hc1, hs1, hw⟩ := hw
    refine va_callq (wo_runV hC lq_Og_51 (mq_Al_get hw) hG hS t21 rfl (lx_sz hl) rfl (lx_rm (Nat.le_of_ble_eq_true rfl)) (by decide) dq_Og_delete_36 ⟨hc1, hs1⟩) hS (fun _ _ h => h) (fun _ h => h) (fun v25 G24 t H locs ht hvm hw' hB _ _ hS => ?_)
    clear hw
    have hw := hw'
    clear hw'
    replace hG := wo_bk ht hB
    replace hcc := hc1
    replace hss := hs1
    obtain ⟨h26, hw⟩ := hw
    refine wo_chk (x := v25) (c := 11) hC rfl kq_Og_55 (Or.inl rfl) hG h26 dq_Og_delete_39 ?_
    obtain ⟨a27, rfl, hw⟩ := hw
    obtain ⟨t28, hw⟩ := hw
    obtain ⟨mc29, ms30, hc1, hs1, hw⟩ := hw
    refine va_callq (wo_runV hC lq_Og_125 (mq_Rs_least hw) hG hS t28 rfl (lx_sz hl) rfl (lx_rm (Nat.le_of_ble_eq_true rfl)) (by decide) dq_Og_delete_42 ⟨hc1, hs1⟩) hS (fun _ _ h => h) (fun _ h => h) (fun v32 G31 t H locs ht hvm hw' hB _ _ hS => ?_)
    clear hw
    have hw := hw'
    clear hw'
    replace hG := wo_bk ht hB
    replace hcc := hc1
    replace hss := hs1
    obtain ⟨mc33, ms34, hc1, hs1, hw⟩ := hw
    refine va_calli (wo_runS hC lq_Og_86 (mq_Og_isForbidden hw) hG hS rfl (lx_sz hl) rfl (Nat.zero_le _) (by decide) dq_Og_delete_45 ⟨hc1, hs1⟩) hS (fun _ _ h => h) (fun _ h => h) (fun v36 G35 t H locs ht hvm hw' hB _ _ hS => ?_)
    clear hw
    have hw := hw'
    clear hw'
    replace hG := wo_bk ht hB
    replace hcc := hc1
    replace hss := hs1
    refine lv_if_eq (tgt := 61) hx hb dq_Og_delete_48 rfl (fun h => ?_) (fun h => ?_)
    · replace hw := hw.1 h
      refine lv_aload_n hx hb dq_Og_delete_61 rfl (lx_at hl 1 rfl) ?_
      obtain ⟨t37, hw⟩ := hw
      refine wo_getR hC fq_Og_12 rfl hG t37 dq_Og_delete_62 (fun r38 e39 => ?_)
      replace hw := hw r38 e39
      refine lv_iload_n hx hb dq_Og_delete_65 rfl (lx_at hl 0 rfl) ?_
      obtain ⟨a40, rfl, hw⟩ := hw
      obtain ⟨t41, hw⟩ := hw
      obtain ⟨mc42, ms43, hc1, hs1, hw⟩ := hw
      refine va_callq (wo_runV hC lq_Og_129 (mq_Al_remove hw) hG hS t41 rfl (lx_sz hl) rfl (Nat.zero_le _) (by decide) dq_Og_delete_66 ⟨hc1, hs1⟩) hS (fun _ _ h => h) (fun _ h => h) (fun v45 G44 t H locs ht hvm hw' hB _ _ hS => ?_)
      clear hw
      have hw := hw'
      clear hw'
      replace hG := wo_bk ht hB
      replace hcc := hc1
      replace hss := hs1
      refine lv_pop hx hb dq_Og_delete_69 (lx_cR _) ?_
      refine lv_aload_n hx hb dq_Og_delete_70 rfl (lx_at hl 2 rfl) ?_
      refine lv_sipush (v := (204 : Int32)) hx hb dq_Og_delete_71 rfl ?_
      obtain ⟨t46, hw⟩ := hw
      obtain ⟨h47, hw⟩ := hw
      refine wo_putI hC fq_Og_48 (Or.inl rfl) rfl (wo_ok_int _) hG hS t46 h47 dq_Og_delete_74 (fun G48 H locs e49 hG hS => ?_)
      replace hw := hw G48 e49
      exact tq_Og_delete_77 hC hw hG hS (lx_sub hl [] rfl) hcc hss
    · replace hw := hw.2 h
      refine lv_aload_n hx hb dq_Og_delete_51 rfl (lx_at hl 2 rfl) ?_
      refine lv_sipush (v := (412 : Int32)) hx hb dq_Og_delete_52 rfl ?_
      obtain ⟨t50, hw⟩ := hw
      obtain ⟨h51, hw⟩ := hw
      refine wo_putI hC fq_Og_48 (Or.inl rfl) rfl (wo_ok_int _) hG hS t50 h51 dq_Og_delete_55 (fun G52 H locs e53 hG hS => ?_)
      replace hw := hw G52 e53
      refine lv_goto (tgt := 77) hx hb dq_Og_delete_58 rfl ?_
      exact tq_Og_delete_77 hC hw hG hS (lx_sub hl [] rfl) hcc hss
  · replace hw := hw.2 h
    refine lv_aload_n hx hb dq_Og_delete_17 rfl (lx_at hl 2 rfl) ?_
    refine lv_sipush (v := (404 : Int32)) hx hb dq_Og_delete_18 rfl ?_
    obtain ⟨t54, hw⟩ := hw
    obtain ⟨h55, hw⟩ := hw
    refine wo_putI hC fq_Og_48 (Or.inl rfl) rfl (wo_ok_int _) hG hS t54 h55 dq_Og_delete_21 (fun G56 H locs e57 hG hS => ?_)
    replace hw := hw G56 e57
    refine lv_goto (tgt := 77) hx hb dq_Og_delete_24 rfl ?_
    exact tq_Og_delete_77 hC hw hG hS (lx_sub hl [] rfl) hcc hss
set_option maxHeartbeats 4000000 in
theorem mq_Og_delete {l : Launch} {E : wo_E} {mc ms : Nat} {Post : wo_W → Prop} {G : wo_W} {x0 : Nat} {x1 : Option Nat} (hw : pq_Og_delete E mc ms Post G x0 x1) : Met l yq_Og_delete (Cond.code yq_Og_delete prog_4_method_5_code 3 ((Option.none : Option Jvm.ClassFile.FieldType)) :: vw_WG) { frames := 7, cells := mc, slots := ms, locals := 154 } (va_Pc [.ref x0, va_rf x1] (wo_Ok E G)) (va_Qv Post (wo_B E) (en_A E)) mc ms (en_A E) := by
  unfold pq_Og_delete at hw
  exact wo_met [(1, .ref x0), (1, va_rf x1)] rfl (by decide) (fun q hq => by simp only [List.mem_cons, List.not_mem_nil, or_false] at hq; rcases hq with rfl | rfl <;> first | rfl | exact lx_cR _) (Nat.le_of_ble_eq_true rfl) (fun p e R s m args below meth cd ls hC hG hS hl => tq_Og_delete_0 hC hw hG hS (lx_sub hl [0, 1] rfl) (Nat.zero_le _) (Nat.zero_le _))

theorem dq_Rs_init_0 : decode prog_8_method_1_code 0 = .ok (.aload_n 0, 1) := by decide +kernel
theorem dq_Rs_init_1 : decode prog_8_method_1_code 1 = .ok (.invokespecial 3, 3) := by decide +kernel
theorem dq_Rs_init_4 : decode prog_8_method_1_code 4 = .ok (.aload_n 0, 1) := by decide +kernel
theorem dq_Rs_init_5 : decode prog_8_method_1_code 5 = .ok (.iconst 3, 1) := by decide +kernel
theorem dq_Rs_init_6 : decode prog_8_method_1_code 6 = .ok (.anewarray 11, 3) := by decide +kernel
theorem dq_Rs_init_9 : decode prog_8_method_1_code 9 = .ok (.putfield 13, 3) := by decide +kernel
theorem dq_Rs_init_12 : decode prog_8_method_1_code 12 = .ok (.aload_n 0, 1) := by decide +kernel
theorem dq_Rs_init_13 : decode prog_8_method_1_code 13 = .ok (.aload_n 1, 1) := by decide +kernel
theorem dq_Rs_init_14 : decode prog_8_method_1_code 14 = .ok (.putfield 17, 3) := by decide +kernel
theorem dq_Rs_init_17 : decode prog_8_method_1_code 17 = .ok (.return_, 1) := by decide +kernel
set_option maxRecDepth 100000 in
def pq_Rs_init_0 (E : wo_E) (mc ms : Nat) (Post : wo_W → Prop) (G : wo_W) (c s : Nat) (x0 : Nat) (x1 : Option Nat) : Prop := ¬ (3 : Int32) < 0 ∧ (3 : Int32).toNatClampNeg ≤ 65536 ∧ (c + 1) ≤ mc ∧ (s + (3 : Int32).toNatClampNeg) ≤ ms ∧ ∀ q5 : Nat, wo_ty G q5 = 0 → en_bs E ≤ q5 → ∀ G8 : wo_W, G8 = wo_na G q5 70 (3 : Int32).toNatClampNeg → 
  wo_ty G8 x0 = 12 ∧ en_bs E ≤ x0 ∧ ∀ G12 : wo_W, G12 = wo_sr G8 705 x0 (some q5) → 
  en_bs E ≤ x0 ∧ ∀ G15 : wo_W, G15 = wo_sr G12 704 x0 x1 → 
  Post G15
def pq_Rs_init (E : wo_E) (mc ms : Nat) (Post : wo_W → Prop) (G : wo_W) (x0 : Nat) (x1 : Option Nat) : Prop := pq_Rs_init_0 E mc ms Post G 0 0 x0 x1
set_option maxRecDepth 100000 in
set_option maxHeartbeats 4000000 in
theorem tq_Rs_init_0 {p : Program} {l : Launch} {e : Env} {R : Room} {s₀ : State} {m : MethodId} {args : Array Value} {below : List Frame} {meth : Method} {cd : Code} {E : wo_E} {mc ms : Nat} {Post : wo_W → Prop} (hC : wo_Cx E "EdgeCache$Resource" prog_8_method_1_code 2 1 28 ((Option.none : Option Jvm.ClassFile.FieldType)) "<init>" mc ms p R s₀ m args meth cd) : ∀ {G : wo_W} {c s : Nat} {x0 : Nat} {x1 : Option Nat}, pq_Rs_init_0 E mc ms Post G c s x0 x1 → ∀ {H : Heap} {locs : List Loc} {ls : Array Slot}, wo_Se E G H → va_S (en_A E) s₀.heap H locs → lx_has ls 2 [(0, 1, .ref x0), (1, 1, va_rf x1)] → c ≤ mc → s ≤ ms → W p l e R s₀ m args below meth cd H locs c s (MQ below (va_Qv Post (wo_B E) (en_A E)) args s₀ mc ms (en_A E)) (F0 m 0 ls []) := by
  intro G c s x0 x1 hw H locs ls hG hS hl hcc hss
  dsimp only [pq_Rs_init_0] at hw
  have hx := hC.1
  have hb := hC.2.1
  refine lv_aload_n hx hb dq_Rs_init_0 rfl (lx_at hl 0 rfl) ?_
  refine wo_objI hC lq_Rs_3 (lx_sz hl) (by decide) (lx_rk (Nat.le_of_ble_eq_true rfl)) dq_Rs_init_1 ?_
  refine lv_aload_n hx hb dq_Rs_init_4 rfl (lx_at hl 0 rfl) ?_
  refine lv_iconst (v := (3 : Int32)) hx hb dq_Rs_init_5 rfl ?_
  obtain ⟨h1, hw⟩ := hw
  obtain ⟨h2, hw⟩ := hw
  obtain ⟨h3, hw⟩ := hw
  obtain ⟨h4, hw⟩ := hw
  refine wo_newq (j := 6) hC rfl (by decide) kq_Rs_11 hG hS h1 h2 h3 h4 dq_Rs_init_6 (fun q5 G8 H z6 b7 e9 hG hS => ?_)
  replace hw := hw q5 z6 b7 G8 e9
  replace hcc := h3
  replace hss := h4
  obtain ⟨t10, hw⟩ := hw
  obtain ⟨h11, hw⟩ := hw
  refine wo_putR (x := (some q5)) hC fq_Rs_13 (Or.inr ⟨rfl, rfl⟩) rfl hG hS t10 h11 dq_Rs_init_9 (fun G12 H locs e13 hG hS => ?_)
  replace hw := hw G12 e13
  refine lv_aload_n hx hb dq_Rs_init_12 rfl (lx_at hl 0 rfl) ?_
  refine lx_aloadR_n hx hb dq_Rs_init_13 rfl (lx_at hl 1 rfl) ?_
  obtain ⟨h14, hw⟩ := hw
  refine wo_putR (x := x1) hC fq_Rs_17 (Or.inr ⟨rfl, rfl⟩) rfl hG hS (ty_sr e13 t10) h14 dq_Rs_init_14 (fun G15 H locs e16 hG hS => ?_)
  replace hw := hw G15 e16
  exact wo_vret hC hG hS hcc hss hw dq_Rs_init_17
set_option maxHeartbeats 4000000 in
theorem mq_Rs_init {l : Launch} {E : wo_E} {mc ms : Nat} {Post : wo_W → Prop} {G : wo_W} {x0 : Nat} {x1 : Option Nat} (hw : pq_Rs_init E mc ms Post G x0 x1) : Met l yq_Rs_init (Cond.code yq_Rs_init prog_8_method_1_code 2 ((Option.none : Option Jvm.ClassFile.FieldType)) :: vw_WG) { frames := 1, cells := mc, slots := ms, locals := 28 } (va_Pc [.ref x0, va_rf x1] (wo_Ok E G)) (va_Qv Post (wo_B E) (en_A E)) mc ms (en_A E) := by
  unfold pq_Rs_init at hw
  exact wo_met [(1, .ref x0), (1, va_rf x1)] rfl (by decide) (fun q hq => by simp only [List.mem_cons, List.not_mem_nil, or_false] at hq; rcases hq with rfl | rfl <;> first | rfl | exact lx_cR _) (Nat.le_of_ble_eq_true rfl) (fun p e R s m args below meth cd ls hC hG hS hl => tq_Rs_init_0 hC hw hG hS (lx_sub hl [0, 1] rfl) (Nat.zero_le _) (Nat.zero_le _))
