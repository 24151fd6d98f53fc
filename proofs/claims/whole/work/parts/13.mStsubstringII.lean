theorem dq_St_substring_II_0 : decode prog_22_method_92_code 0 = .ok (.aload_n 0, 1) := by decide +kernel
theorem dq_St_substring_II_1 : decode prog_22_method_92_code 1 = .ok (.invokevirtual 505, 3) := by decide +kernel
theorem dq_St_substring_II_4 : decode prog_22_method_92_code 4 = .ok (.istore_n 3, 1) := by decide +kernel
theorem dq_St_substring_II_5 : decode prog_22_method_92_code 5 = .ok (.iload_n 1, 1) := by decide +kernel
theorem dq_St_substring_II_6 : decode prog_22_method_92_code 6 = .ok (.iload_n 2, 1) := by decide +kernel
theorem dq_St_substring_II_7 : decode prog_22_method_92_code 7 = .ok (.iload_n 3, 1) := by decide +kernel
theorem dq_St_substring_II_8 : decode prog_22_method_92_code 8 = .ok (.invokestatic 521, 3) := by decide +kernel
theorem dq_St_substring_II_11 : decode prog_22_method_92_code 11 = .ok (.iload_n 1, 1) := by decide +kernel
theorem dq_St_substring_II_12 : decode prog_22_method_92_code 12 = .ok (.ifCond .ne 10, 3) := by decide +kernel
theorem dq_St_substring_II_15 : decode prog_22_method_92_code 15 = .ok (.iload_n 2, 1) := by decide +kernel
theorem dq_St_substring_II_16 : decode prog_22_method_92_code 16 = .ok (.iload_n 3, 1) := by decide +kernel
theorem dq_St_substring_II_17 : decode prog_22_method_92_code 17 = .ok (.if_icmp .ne 5, 3) := by decide +kernel
theorem dq_St_substring_II_20 : decode prog_22_method_92_code 20 = .ok (.aload_n 0, 1) := by decide +kernel
theorem dq_St_substring_II_21 : decode prog_22_method_92_code 21 = .ok (.areturn, 1) := by decide +kernel
theorem dq_St_substring_II_22 : decode prog_22_method_92_code 22 = .ok (.iload_n 2, 1) := by decide +kernel
theorem dq_St_substring_II_23 : decode prog_22_method_92_code 23 = .ok (.iload_n 1, 1) := by decide +kernel
theorem dq_St_substring_II_24 : decode prog_22_method_92_code 24 = .ok (.isub, 1) := by decide +kernel
theorem dq_St_substring_II_25 : decode prog_22_method_92_code 25 = .ok (.istore 4, 2) := by decide +kernel
theorem dq_St_substring_II_27 : decode prog_22_method_92_code 27 = .ok (.aload_n 0, 1) := by decide +kernel
theorem dq_St_substring_II_28 : decode prog_22_method_92_code 28 = .ok (.invokevirtual 492, 3) := by decide +kernel
theorem dq_St_substring_II_31 : decode prog_22_method_92_code 31 = .ok (.ifCond .eq 16, 3) := by decide +kernel
theorem dq_St_substring_II_34 : decode prog_22_method_92_code 34 = .ok (.aload_n 0, 1) := by decide +kernel
theorem dq_St_substring_II_35 : decode prog_22_method_92_code 35 = .ok (.getfield 9, 3) := by decide +kernel
theorem dq_St_substring_II_38 : decode prog_22_method_92_code 38 = .ok (.iload_n 1, 1) := by decide +kernel
theorem dq_St_substring_II_39 : decode prog_22_method_92_code 39 = .ok (.iload 4, 2) := by decide +kernel
theorem dq_St_substring_II_41 : decode prog_22_method_92_code 41 = .ok (.invokestatic 685, 3) := by decide +kernel
theorem dq_St_substring_II_44 : decode prog_22_method_92_code 44 = .ok (.goto 13, 3) := by decide +kernel
theorem dq_St_substring_II_57 : decode prog_22_method_92_code 57 = .ok (.areturn, 1) := by decide +kernel
set_option maxRecDepth 100000 in
def pq_St_substring_II_22 (E : wo_E) (mc ms : Nat) (Post : Option Nat → wo_W → Prop) (G : wo_W) (c s : Nat) (x0 : Nat) (x1 : Int32) (x2 : Int32) : Prop := wo_ty G x0 = 10 ∧ ∃ mc2 ms3 : Nat, (c + mc2) ≤ mc ∧ (s + ms3) ≤ ms ∧ pq_St_isLatin1 E mc2 ms3 (fun v5 G4 => 
  ((v5 = (0 : Int32) → False) ∧
    (¬ v5 = (0 : Int32) → wo_ty G4 x0 = 10 ∧ ∀ r7 : Option Nat, r7 = wo_gr G4 576 x0 → ∃ mc9 ms10 : Nat, ((c + mc2) + mc9) ≤ mc ∧ ((s + ms3) + ms10) ≤ ms ∧ pq_La_newString E mc9 ms10 (fun v12 G11 => 
      Post v12 G11) G4 r7 x1 (x2 - x1)))) G x0
set_option maxRecDepth 100000 in
def pq_St_substring_II_0 (E : wo_E) (mc ms : Nat) (Post : Option Nat → wo_W → Prop) (G : wo_W) (c s : Nat) (x0 : Nat) (x1 : Int32) (x2 : Int32) : Prop := wo_ty G x0 = 10 ∧ ∃ mc2 ms3 : Nat, (c + mc2) ≤ mc ∧ (s + ms3) ≤ ms ∧ pq_St_length E mc2 ms3 (fun v5 G4 => 
  ∃ mc6 ms7 : Nat, ((c + mc2) + mc6) ≤ mc ∧ ((s + ms3) + ms7) ≤ ms ∧ pq_St_checkBoundsBeginEnd E mc6 ms7 (fun G8 => 
    ((¬ x1 = (0 : Int32) → pq_St_substring_II_22 E mc ms Post G8 ((c + mc2) + mc6) ((s + ms3) + ms7) x0 x1 x2) ∧
      (x1 = (0 : Int32) → ((¬ x2 = v5 → pq_St_substring_II_22 E mc ms Post G8 ((c + mc2) + mc6) ((s + ms3) + ms7) x0 x1 x2) ∧
        (x2 = v5 → Post (some x0) G8))))) G4 x1 x2 v5) G x0
def pq_St_substring_II (E : wo_E) (mc ms : Nat) (Post : Option Nat → wo_W → Prop) (G : wo_W) (x0 : Nat) (x1 : Int32) (x2 : Int32) : Prop := pq_St_substring_II_0 E mc ms Post G 0 0 x0 x1 x2
set_option maxRecDepth 100000 in
set_option maxHeartbeats 4000000 in
theorem tq_St_substring_II_22 {p : Program} {l : Launch} {e : Env} {R : Room} {s₀ : State} {m : MethodId} {args : Array Value} {below : List Frame} {meth : Method} {cd : Code} {E : wo_E} {mc ms : Nat} {Post : Option Nat → wo_W → Prop} (hC : wo_Cx E "java/lang/String" prog_22_method_92_code 5 4 96 ((Option.some (Jvm.ClassFile.FieldType.object "java/lang/String"))) "substring" mc ms p R s₀ m args meth cd) : ∀ {G : wo_W} {c s : Nat} {x0 : Nat} {x1 : Int32} {x2 : Int32}, pq_St_substring_II_22 E mc ms Post G c s x0 x1 x2 → ∀ {H : Heap} {locs : List Loc} {ls : Array Slot}, wo_Se E G H → va_S (en_A E) s₀.heap H locs → lx_has ls 5 [(0, 1, .ref x0), (1, 1, .int x1), (2, 1, .int x2)] → c ≤ mc → s ≤ ms → W p l e R s₀ m args below meth cd H locs c s (MQ below (va_Qq Post (wo_B E) (en_A E)) args s₀ mc ms (en_A E)) (F0 m 22 ls []) := by
  intro G c s x0 x1 x2 hw H locs ls hG hS hl hcc hss
  dsimp only [pq_St_substring_II_22] at hw
  have hx := hC.1
  have hb := hC.2.1
  refine lv_iload_n hx hb dq_St_substring_II_22 rfl (lx_at hl 2 rfl) ?_
  refine lv_iload_n hx hb dq_St_substring_II_23 rfl (lx_at hl 1 rfl) ?_
  refine lv_isub hx hb dq_St_substring_II_24 ?_
  refine lx_istore (lv' := [(4, 1, .int (x2 - x1)), (0, 1, .ref x0), (1, 1, .int x1), (2, 1, .int x2)]) hx hb dq_St_substring_II_25 hl (by decide) rfl (fun ls hl' => ?_)
  clear hl
  have hl := hl'
  clear hl'
  refine lv_aload_n hx hb dq_St_substring_II_27 rfl (lx_at hl 1 rfl) ?_
  obtain ⟨t1, hw⟩ := hw
  obtain ⟨mc2, ms3, hc1, hs1, hw⟩ := hw
  refine va_calli (wo_runV hC lq_St_492 (mq_St_isLatin1 hw) hG hS t1 rfl (lx_sz hl) rfl (Nat.zero_le _) (by decide) dq_St_substring_II_28 ⟨hc1, hs1⟩) hS (fun _ _ h => h) (fun _ h => h) (fun v5 G4 t H locs ht hvm hw' hB _ _ hS => ?_)
  clear hw
  have hw := hw'
  clear hw'
  replace hG := wo_bk ht hB
  replace hcc := hc1
  replace hss := hs1
  refine lv_if_eq (tgt := 47) hx hb dq_St_substring_II_31 rfl (fun h => ?_) (fun h => ?_)
  · replace hw := hw.1 h
    exact hw.elim
  · replace hw := hw.2 h
    refine lv_aload_n hx hb dq_St_substring_II_34 rfl (lx_at hl 1 rfl) ?_
    obtain ⟨t6, hw⟩ := hw
    refine wo_getR hC fq_St_9 rfl hG t6 dq_St_substring_II_35 (fun r7 e8 => ?_)
    replace hw := hw r7 e8
    refine lv_iload_n hx hb dq_St_substring_II_38 rfl (lx_at hl 2 rfl) ?_
    refine lv_iload hx hb dq_St_substring_II_39 (lx_at hl 0 rfl) ?_
    obtain ⟨mc9, ms10, hc1, hs1, hw⟩ := hw
    refine va_callq (wo_runS hC lq_St_685 (mq_La_newString hw) hG hS rfl (lx_sz hl) rfl (Nat.zero_le _) (by decide) dq_St_substring_II_41 ⟨hc1, hs1⟩) hS (fun _ _ h => h) (fun _ h => h) (fun v12 G11 t H locs ht hvm hw' hB _ _ hS => ?_)
    clear hw
    have hw := hw'
    clear hw'
    replace hG := wo_bk ht hB
    replace hcc := hc1
    replace hss := hs1
    refine lv_goto (tgt := 57) hx hb dq_St_substring_II_44 rfl ?_
    exact wo_aret (x := v12) hC rfl hG hS hcc hss hw dq_St_substring_II_57
set_option maxRecDepth 100000 in
set_option maxHeartbeats 4000000 in
theorem tq_St_substring_II_0 {p : Program} {l : Launch} {e : Env} {R : Room} {s₀ : State} {m : MethodId} {args : Array Value} {below : List Frame} {meth : Method} {cd : Code} {E : wo_E} {mc ms : Nat} {Post : Option Nat → wo_W → Prop} (hC : wo_Cx E "java/lang/String" prog_22_method_92_code 5 4 96 ((Option.some (Jvm.ClassFile.FieldType.object "java/lang/String"))) "substring" mc ms p R s₀ m args meth cd) : ∀ {G : wo_W} {c s : Nat} {x0 : Nat} {x1 : Int32} {x2 : Int32}, pq_St_substring_II_0 E mc ms Post G c s x0 x1 x2 → ∀ {H : Heap} {locs : List Loc} {ls : Array Slot}, wo_Se E G H → va_S (en_A E) s₀.heap H locs → lx_has ls 5 [(0, 1, .ref x0), (1, 1, .int x1), (2, 1, .int x2)] → c ≤ mc → s ≤ ms → W p l e R s₀ m args below meth cd H locs c s (MQ below (va_Qq Post (wo_B E) (en_A E)) args s₀ mc ms (en_A E)) (F0 m 0 ls []) := by
  intro G c s x0 x1 x2 hw H locs ls hG hS hl hcc hss
  dsimp only [pq_St_substring_II_0] at hw
  have hx := hC.1
  have hb := hC.2.1
  refine lv_aload_n hx hb dq_St_substring_II_0 rfl (lx_at hl 0 rfl) ?_
  obtain ⟨t1, hw⟩ := hw
  obtain ⟨mc2, ms3, hc1, hs1, hw⟩ := hw
  refine va_calli (wo_runV hC lq_St_505 (mq_St_length hw) hG hS t1 rfl (lx_sz hl) rfl (Nat.zero_le _) (by decide) dq_St_substring_II_1 ⟨hc1, hs1⟩) hS (fun _ _ h => h) (fun _ h => h) (fun v5 G4 t H locs ht hvm hw' hB _ _ hS => ?_)
  clear hw
  have hw := hw'
  clear hw'
  replace hG := wo_bk ht hB
  replace hcc := hc1
  replace hss := hs1
  refine lx_istore_n (lv' := [(3, 1, .int v5), (0, 1, .ref x0), (1, 1, .int x1), (2, 1, .int x2)]) hx hb dq_St_substring_II_4 rfl hl (by decide) rfl (fun ls hl' => ?_)
  clear hl
  have hl := hl'
  clear hl'
  refine lv_iload_n hx hb dq_St_substring_II_5 rfl (lx_at hl 2 rfl) ?_
  refine lv_iload_n hx hb dq_St_substring_II_6 rfl (lx_at hl 3 rfl) ?_
  refine lv_iload_n hx hb dq_St_substring_II_7 rfl (lx_at hl 0 rfl) ?_
  obtain ⟨mc6, ms7, hc1, hs1, hw⟩ := hw
  refine va_callv (wo_runS hC lq_St_521 (mq_St_checkBoundsBeginEnd hw) hG hS rfl (lx_sz hl) rfl (Nat.zero_le _) (by decide) dq_St_substring_II_8 ⟨hc1, hs1⟩) hS (fun _ _ h => h) (fun _ h => h) (fun G8 t H locs ht hvm hw' hB _ _ hS => ?_)
  clear hw
  have hw := hw'
  clear hw'
  replace hG := wo_bk ht hB
  replace hcc := hc1
  replace hss := hs1
  refine lv_iload_n hx hb dq_St_substring_II_11 rfl (lx_at hl 2 rfl) ?_
  refine lv_if_ne (tgt := 22) hx hb dq_St_substring_II_12 rfl (fun h => ?_) (fun h => ?_)
  · replace hw := hw.1 h
    exact tq_St_substring_II_22 hC hw hG hS (lx_sub hl [1, 2, 3] rfl) hcc hss
  · replace hw := hw.2 h
    refine lv_iload_n hx hb dq_St_substring_II_15 rfl (lx_at hl 3 rfl) ?_
    refine lv_iload_n hx hb dq_St_substring_II_16 rfl (lx_at hl 0 rfl) ?_
    refine lv_icmp_ne (tgt := 22) hx hb dq_St_substring_II_17 rfl (fun h => ?_) (fun h => ?_)
    · replace hw := hw.1 h
      exact tq_St_substring_II_22 hC hw hG hS (lx_sub hl [1, 2, 3] rfl) hcc hss
    · replace hw := hw.2 h
      refine lv_aload_n hx hb dq_St_substring_II_20 rfl (lx_at hl 1 rfl) ?_
      exact wo_aret (x := (some x0)) hC rfl hG hS hcc hss hw dq_St_substring_II_21
set_option maxHeartbeats 4000000 in
theorem mq_St_substring_II {l : Launch} {E : wo_E} {mc ms : Nat} {Post : Option Nat → wo_W → Prop} {G : wo_W} {x0 : Nat} {x1 : Int32} {x2 : Int32} (hw : pq_St_substring_II E mc ms Post G x0 x1 x2) : Met l yq_St_substring_II (Cond.code yq_St_substring_II prog_22_method_92_code 5 ((Option.some (Jvm.ClassFile.FieldType.object "java/lang/String"))) :: vw_WG) { frames := 4, cells := mc, slots := ms, locals := 96 } (va_Pc [.ref x0, .int x1, .int x2] (wo_Ok E G)) (va_Qq Post (wo_B E) (en_A E)) mc ms (en_A E) := by
  unfold pq_St_substring_II at hw
  exact wo_met [(1, .ref x0), (1, .int x1), (1, .int x2)] rfl (by decide) (fun q hq => by simp only [List.mem_cons, List.not_mem_nil, or_false] at hq; rcases hq with rfl | rfl | rfl <;> first | rfl | exact lx_cR _) (Nat.le_of_ble_eq_true rfl) (fun p e R s m args below meth cd ls hC hG hS hl => tq_St_substring_II_0 hC hw hG hS (lx_sub hl [0, 1, 2] rfl) (Nat.zero_le _) (Nat.zero_le _))

theorem dq_Sh_onePiece_0 : decode prog_9_method_10_code 0 = .ok (.aload_n 0, 1) := by decide +kernel
theorem dq_Sh_onePiece_1 : decode prog_9_method_10_code 1 = .ok (.getfield 12, 3) := by decide +kernel
theorem dq_Sh_onePiece_4 : decode prog_9_method_10_code 4 = .ok (.ldc 145, 2) := by decide +kernel
theorem dq_Sh_onePiece_6 : decode prog_9_method_10_code 6 = .ok (.invokevirtual 109, 3) := by decide +kernel
theorem dq_Sh_onePiece_9 : decode prog_9_method_10_code 9 = .ok (.pop, 1) := by decide +kernel
theorem dq_Sh_onePiece_10 : decode prog_9_method_10_code 10 = .ok (.aload_n 0, 1) := by decide +kernel
theorem dq_Sh_onePiece_11 : decode prog_9_method_10_code 11 = .ok (.iconst 0, 1) := by decide +kernel
theorem dq_Sh_onePiece_12 : decode prog_9_method_10_code 12 = .ok (.invokevirtual 147, 3) := by decide +kernel
theorem dq_Sh_onePiece_15 : decode prog_9_method_10_code 15 = .ok (.aload_n 0, 1) := by decide +kernel
theorem dq_Sh_onePiece_16 : decode prog_9_method_10_code 16 = .ok (.getfield 12, 3) := by decide +kernel
theorem dq_Sh_onePiece_19 : decode prog_9_method_10_code 19 = .ok (.bipush 47, 2) := by decide +kernel
theorem dq_Sh_onePiece_21 : decode prog_9_method_10_code 21 = .ok (.invokevirtual 33, 3) := by decide +kernel
theorem dq_Sh_onePiece_24 : decode prog_9_method_10_code 24 = .ok (.pop, 1) := by decide +kernel
theorem dq_Sh_onePiece_25 : decode prog_9_method_10_code 25 = .ok (.aload_n 0, 1) := by decide +kernel
theorem dq_Sh_onePiece_26 : decode prog_9_method_10_code 26 = .ok (.getfield 12, 3) := by decide +kernel
theorem dq_Sh_onePiece_29 : decode prog_9_method_10_code 29 = .ok (.aload_n 1, 1) := by decide +kernel
theorem dq_Sh_onePiece_30 : decode prog_9_method_10_code 30 = .ok (.invokevirtual 80, 3) := by decide +kernel
theorem dq_Sh_onePiece_33 : decode prog_9_method_10_code 33 = .ok (.invokevirtual 104, 3) := by decide +kernel
theorem dq_Sh_onePiece_36 : decode prog_9_method_10_code 36 = .ok (.pop, 1) := by decide +kernel
theorem dq_Sh_onePiece_37 : decode prog_9_method_10_code 37 = .ok (.aload_n 0, 1) := by decide +kernel
theorem dq_Sh_onePiece_38 : decode prog_9_method_10_code 38 = .ok (.getfield 12, 3) := by decide +kernel
theorem dq_Sh_onePiece_41 : decode prog_9_method_10_code 41 = .ok (.bipush 10, 2) := by decide +kernel
theorem dq_Sh_onePiece_43 : decode prog_9_method_10_code 43 = .ok (.invokevirtual 33, 3) := by decide +kernel
theorem dq_Sh_onePiece_46 : decode prog_9_method_10_code 46 = .ok (.pop, 1) := by decide +kernel
theorem dq_Sh_onePiece_47 : decode prog_9_method_10_code 47 = .ok (.aload_n 0, 1) := by decide +kernel
theorem dq_Sh_onePiece_48 : decode prog_9_method_10_code 48 = .ok (.bipush 76, 2) := by decide +kernel
theorem dq_Sh_onePiece_50 : decode prog_9_method_10_code 50 = .ok (.aload_n 0, 1) := by decide +kernel
theorem dq_Sh_onePiece_51 : decode prog_9_method_10_code 51 = .ok (.getfield 22, 3) := by decide +kernel
theorem dq_Sh_onePiece_54 : decode prog_9_method_10_code 54 = .ok (.iconst 0, 1) := by decide +kernel
theorem dq_Sh_onePiece_55 : decode prog_9_method_10_code 55 = .ok (.iaload, 1) := by decide +kernel
theorem dq_Sh_onePiece_56 : decode prog_9_method_10_code 56 = .ok (.aload_n 0, 1) := by decide +kernel
theorem dq_Sh_onePiece_57 : decode prog_9_method_10_code 57 = .ok (.getfield 18, 3) := by decide +kernel
theorem dq_Sh_onePiece_60 : decode prog_9_method_10_code 60 = .ok (.iconst 0, 1) := by decide +kernel
theorem dq_Sh_onePiece_61 : decode prog_9_method_10_code 61 = .ok (.iaload, 1) := by decide +kernel
theorem dq_Sh_onePiece_62 : decode prog_9_method_10_code 62 = .ok (.isub, 1) := by decide +kernel
theorem dq_Sh_onePiece_63 : decode prog_9_method_10_code 63 = .ok (.iconst 1, 1) := by decide +kernel
theorem dq_Sh_onePiece_64 : decode prog_9_method_10_code 64 = .ok (.iadd, 1) := by decide +kernel
theorem dq_Sh_onePiece_65 : decode prog_9_method_10_code 65 = .ok (.invokevirtual 29, 3) := by decide +kernel
theorem dq_Sh_onePiece_68 : decode prog_9_method_10_code 68 = .ok (.aload_n 0, 1) := by decide +kernel
theorem dq_Sh_onePiece_69 : decode prog_9_method_10_code 69 = .ok (.getfield 12, 3) := by decide +kernel
theorem dq_Sh_onePiece_72 : decode prog_9_method_10_code 72 = .ok (.bipush 10, 2) := by decide +kernel
theorem dq_Sh_onePiece_74 : decode prog_9_method_10_code 74 = .ok (.invokevirtual 33, 3) := by decide +kernel
theorem dq_Sh_onePiece_77 : decode prog_9_method_10_code 77 = .ok (.pop, 1) := by decide +kernel
theorem dq_Sh_onePiece_78 : decode prog_9_method_10_code 78 = .ok (.aload_n 0, 1) := by decide +kernel
theorem dq_Sh_onePiece_79 : decode prog_9_method_10_code 79 = .ok (.getfield 12, 3) := by decide +kernel
theorem dq_Sh_onePiece_82 : decode prog_9_method_10_code 82 = .ok (.aload_n 1, 1) := by decide +kernel
theorem dq_Sh_onePiece_83 : decode prog_9_method_10_code 83 = .ok (.aload_n 0, 1) := by decide +kernel
theorem dq_Sh_onePiece_84 : decode prog_9_method_10_code 84 = .ok (.getfield 18, 3) := by decide +kernel
theorem dq_Sh_onePiece_87 : decode prog_9_method_10_code 87 = .ok (.iconst 0, 1) := by decide +kernel
theorem dq_Sh_onePiece_88 : decode prog_9_method_10_code 88 = .ok (.iaload, 1) := by decide +kernel
theorem dq_Sh_onePiece_89 : decode prog_9_method_10_code 89 = .ok (.aload_n 0, 1) := by decide +kernel
theorem dq_Sh_onePiece_90 : decode prog_9_method_10_code 90 = .ok (.getfield 22, 3) := by decide +kernel
theorem dq_Sh_onePiece_93 : decode prog_9_method_10_code 93 = .ok (.iconst 0, 1) := by decide +kernel
theorem dq_Sh_onePiece_94 : decode prog_9_method_10_code 94 = .ok (.iaload, 1) := by decide +kernel
theorem dq_Sh_onePiece_95 : decode prog_9_method_10_code 95 = .ok (.iconst 1, 1) := by decide +kernel
theorem dq_Sh_onePiece_96 : decode prog_9_method_10_code 96 = .ok (.iadd, 1) := by decide +kernel
theorem dq_Sh_onePiece_97 : decode prog_9_method_10_code 97 = .ok (.invokevirtual 150, 3) := by decide +kernel
theorem dq_Sh_onePiece_100 : decode prog_9_method_10_code 100 = .ok (.invokevirtual 109, 3) := by decide +kernel
theorem dq_Sh_onePiece_103 : decode prog_9_method_10_code 103 = .ok (.pop, 1) := by decide +kernel
theorem dq_Sh_onePiece_104 : decode prog_9_method_10_code 104 = .ok (.return_, 1) := by decide +kernel
set_option maxRecDepth 100000 in
def pq_Sh_onePiece_0 (E : wo_E) (mc ms : Nat) (Post : wo_W → Prop) (G : wo_W) (c s : Nat) (x0 : Nat) (x1 : Option Nat) : Prop := wo_ty G x0 = 4 ∧ ∀ r2 : Option Nat, r2 = wo_gr G 192 x0 → ∃ a4 : Nat, r2 = some a4 ∧ wo_ty G a4 = 5 ∧ ∃ mc6 ms7 : Nat, (c + mc6) ≤ mc ∧ (s + ms7) ≤ ms ∧ pq_SB_append_S E mc6 ms7 (fun v9 G8 => 
  wo_ty G8 x0 = 4 ∧ ∃ mc11 ms12 : Nat, ((c + mc6) + mc11) ≤ mc ∧ ((s + ms7) + ms12) ≤ ms ∧ pq_Sh_span E mc11 ms12 (fun G13 => 
    wo_ty G13 x0 = 4 ∧ ∀ r15 : Option Nat, r15 = wo_gr G13 192 x0 → ∃ a17 : Nat, r15 = some a17 ∧ wo_ty G13 a17 = 5 ∧ ∃ mc19 ms20 : Nat, (((c + mc6) + mc11) + mc19) ≤ mc ∧ (((s + ms7) + ms12) + ms20) ≤ ms ∧ pq_SB_append_C E mc19 ms20 (fun v22 G21 => 
      wo_ty G21 x0 = 4 ∧ ∀ r24 : Option Nat, r24 = wo_gr G21 192 x0 → ∃ a26 : Nat, x1 = some a26 ∧ wo_ty G21 a26 = 10 ∧ ∃ mc28 ms29 : Nat, ((((c + mc6) + mc11) + mc19) + mc28) ≤ mc ∧ ((((s + ms7) + ms12) + ms20) + ms29) ≤ ms ∧ pq_St_length E mc28 ms29 (fun v31 G30 => 
        ∃ a32 : Nat, r24 = some a32 ∧ wo_ty G30 a32 = 5 ∧ ∃ mc34 ms35 : Nat, (((((c + mc6) + mc11) + mc19) + mc28) + mc34) ≤ mc ∧ (((((s + ms7) + ms12) + ms20) + ms29) + ms35) ≤ ms ∧ pq_SB_append_I E mc34 ms35 (fun v37 G36 => 
          wo_ty G36 x0 = 4 ∧ ∀ r39 : Option Nat, r39 = wo_gr G36 192 x0 → ∃ a41 : Nat, r39 = some a41 ∧ wo_ty G36 a41 = 5 ∧ ∃ mc43 ms44 : Nat, ((((((c + mc6) + mc11) + mc19) + mc28) + mc34) + mc43) ≤ mc ∧ ((((((s + ms7) + ms12) + ms20) + ms29) + ms35) + ms44) ≤ ms ∧ pq_SB_append_C E mc43 ms44 (fun v46 G45 => 
            wo_ty G45 x0 = 4 ∧ ∀ r48 : Option Nat, r48 = wo_gr G45 194 x0 → ∃ a50 : Nat, r48 = some a50 ∧ wo_ty G45 a50 = 66 ∧ vp_in (0 : Int32) (wo_len G45 a50) ∧ ∀ r53 : Option Nat, r53 = wo_gr G45 193 x0 → ∃ a55 : Nat, r53 = some a55 ∧ wo_ty G45 a55 = 66 ∧ vp_in (0 : Int32) (wo_len G45 a55) ∧ ∃ mc58 ms59 : Nat, (((((((c + mc6) + mc11) + mc19) + mc28) + mc34) + mc43) + mc58) ≤ mc ∧ (((((((s + ms7) + ms12) + ms20) + ms29) + ms35) + ms44) + ms59) ≤ ms ∧ pq_Sh_numberLine E mc58 ms59 (fun G60 => 
              wo_ty G60 x0 = 4 ∧ ∀ r62 : Option Nat, r62 = wo_gr G60 192 x0 → ∃ a64 : Nat, r62 = some a64 ∧ wo_ty G60 a64 = 5 ∧ ∃ mc66 ms67 : Nat, ((((((((c + mc6) + mc11) + mc19) + mc28) + mc34) + mc43) + mc58) + mc66) ≤ mc ∧ ((((((((s + ms7) + ms12) + ms20) + ms29) + ms35) + ms44) + ms59) + ms67) ≤ ms ∧ pq_SB_append_C E mc66 ms67 (fun v69 G68 => 
                wo_ty G68 x0 = 4 ∧ ∀ r71 : Option Nat, r71 = wo_gr G68 192 x0 → ∀ r73 : Option Nat, r73 = wo_gr G68 193 x0 → ∃ a75 : Nat, r73 = some a75 ∧ wo_ty G68 a75 = 66 ∧ vp_in (0 : Int32) (wo_len G68 a75) ∧ ∀ r78 : Option Nat, r78 = wo_gr G68 194 x0 → ∃ a80 : Nat, r78 = some a80 ∧ wo_ty G68 a80 = 66 ∧ vp_in (0 : Int32) (wo_len G68 a80) ∧ wo_ty G68 a26 = 10 ∧ ∃ mc84 ms85 : Nat, (((((((((c + mc6) + mc11) + mc19) + mc28) + mc34) + mc43) + mc58) + mc66) + mc84) ≤ mc ∧ (((((((((s + ms7) + ms12) + ms20) + ms29) + ms35) + ms44) + ms59) + ms67) + ms85) ≤ ms ∧ pq_St_substring_II E mc84 ms85 (fun v87 G86 => 
                  ∃ a88 : Nat, r71 = some a88 ∧ wo_ty G86 a88 = 5 ∧ ∃ mc90 ms91 : Nat, ((((((((((c + mc6) + mc11) + mc19) + mc28) + mc34) + mc43) + mc58) + mc66) + mc84) + mc90) ≤ mc ∧ ((((((((((s + ms7) + ms12) + ms20) + ms29) + ms35) + ms44) + ms59) + ms67) + ms85) + ms91) ≤ ms ∧ pq_SB_append_S E mc90 ms91 (fun v93 G92 => 
                    Post G92) G86 a88 v87) G68 a26 (wo_ei G68 a75 (0 : Int32).toNatClampNeg) ((wo_ei G68 a80 (0 : Int32).toNatClampNeg) + (1 : Int32))) G60 a64 (10 : Int32)) G45 x0 (76 : Int32) (((wo_ei G45 a50 (0 : Int32).toNatClampNeg) - (wo_ei G45 a55 (0 : Int32).toNatClampNeg)) + (1 : Int32))) G36 a41 (10 : Int32)) G30 a32 v31) G21 a26) G13 a17 (47 : Int32)) G8 x0 (0 : Int32)) G a4 (some (en_str E 18))
def pq_Sh_onePiece (E : wo_E) (mc ms : Nat) (Post : wo_W → Prop) (G : wo_W) (x0 : Nat) (x1 : Option Nat) : Prop := pq_Sh_onePiece_0 E mc ms Post G 0 0 x0 x1
set_option maxRecDepth 100000 in
set_option maxHeartbeats 4000000 in
theorem tq_Sh_onePiece_0 {p : Program} {l : Launch} {e : Env} {R : Room} {s₀ : State} {m : MethodId} {args : Array Value} {below : List Frame} {meth : Method} {cd : Code} {E : wo_E} {mc ms : Nat} {Post : wo_W → Prop} (hC : wo_Cx E "EdgeCache$Sheet" prog_9_method_10_code 2 7 164 ((Option.none : Option Jvm.ClassFile.FieldType)) "onePiece" mc ms p R s₀ m args meth cd) : ∀ {G : wo_W} {c s : Nat} {x0 : Nat} {x1 : Option Nat}, pq_Sh_onePiece_0 E mc ms Post G c s x0 x1 → ∀ {H : Heap} {locs : List Loc} {ls : Array Slot}, wo_Se E G H → va_S (en_A E) s₀.heap H locs → lx_has ls 2 [(0, 1, .ref x0), (1, 1, va_rf x1)] → c ≤ mc → s ≤ ms → W p l e R s₀ m args below meth cd H locs c s (MQ below (va_Qv Post (wo_B E) (en_A E)) args s₀ mc ms (en_A E)) (F0 m 0 ls []) := by
  intro G c s x0 x1 hw H locs ls hG hS hl hcc hss
  dsimp only [pq_Sh_onePiece_0] at hw
  have hx := hC.1
  have hb := hC.2.1
  refine lv_aload_n hx hb dq_Sh_onePiece_0 rfl (lx_at hl 0 rfl) ?_
  obtain ⟨t1, hw⟩ := hw
  refine wo_getR hC fq_Sh_12 rfl hG t1 dq_Sh_onePiece_1 (fun r2 e3 => ?_)
  replace hw := hw r2 e3
  refine wo_ldcS hC gq_Sh_145 dq_Sh_onePiece_4 ?_
  obtain ⟨a4, rfl, hw⟩ := hw
  obtain ⟨t5, hw⟩ := hw
  obtain ⟨mc6, ms7, hc1, hs1, hw⟩ := hw
  refine va_callq (wo_runV hC lq_Sh_109 (mq_SB_append_S hw) hG hS t5 rfl (lx_sz hl) rfl (Nat.zero_le _) (by decide) dq_Sh_onePiece_6 ⟨hc1, hs1⟩) hS (fun _ _ h => h) (fun _ h => h) (fun v9 G8 t H locs ht hvm hw' hB _ _ hS => ?_)
  clear hw
  have hw := hw'
  clear hw'
  replace hG := wo_bk ht hB
  replace hcc := hc1
  replace hss := hs1
  refine lv_pop hx hb dq_Sh_onePiece_9 (lx_cR _) ?_
  refine lv_aload_n hx hb dq_Sh_onePiece_10 rfl (lx_at hl 0 rfl) ?_
  refine lv_iconst (v := (0 : Int32)) hx hb dq_Sh_onePiece_11 rfl ?_
  obtain ⟨t10, hw⟩ := hw
  obtain ⟨mc11, ms12, hc1, hs1, hw⟩ := hw
  refine va_callv (wo_runV hC lq_Sh_147 (mq_Sh_span hw) hG hS t10 rfl (lx_sz hl) rfl (Nat.zero_le _) (by decide) dq_Sh_onePiece_12 ⟨hc1, hs1⟩) hS (fun _ _ h => h) (fun _ h => h) (fun G13 t H locs ht hvm hw' hB _ _ hS => ?_)
  clear hw
  have hw := hw'
  clear hw'
  replace hG := wo_bk ht hB
  replace hcc := hc1
  replace hss := hs1
  refine lv_aload_n hx hb dq_Sh_onePiece_15 rfl (lx_at hl 0 rfl) ?_
  obtain ⟨t14, hw⟩ := hw
  refine wo_getR hC fq_Sh_12 rfl hG t14 dq_Sh_onePiece_16 (fun r15 e16 => ?_)
  replace hw := hw r15 e16
  refine lv_bipush (v := (47 : Int32)) hx hb dq_Sh_onePiece_19 rfl ?_
  obtain ⟨a17, rfl, hw⟩ := hw
  obtain ⟨t18, hw⟩ := hw
  obtain ⟨mc19, ms20, hc1, hs1, hw⟩ := hw
  refine va_callq (wo_runV hC lq_Sh_33 (mq_SB_append_C hw) hG hS t18 rfl (lx_sz hl) rfl (Nat.zero_le _) (by decide) dq_Sh_onePiece_21 ⟨hc1, hs1⟩) hS (fun _ _ h => h) (fun _ h => h) (fun v22 G21 t H locs ht hvm hw' hB _ _ hS => ?_)
  clear hw
  have hw := hw'
  clear hw'
  replace hG := wo_bk ht hB
  replace hcc := hc1
  replace hss := hs1
  refine lv_pop hx hb dq_Sh_onePiece_24 (lx_cR _) ?_
  refine lv_aload_n hx hb dq_Sh_onePiece_25 rfl (lx_at hl 0 rfl) ?_
  obtain ⟨t23, hw⟩ := hw
  refine wo_getR hC fq_Sh_12 rfl hG t23 dq_Sh_onePiece_26 (fun r24 e25 => ?_)
  replace hw := hw r24 e25
  refine lx_aloadR_n hx hb dq_Sh_onePiece_29 rfl (lx_at hl 1 rfl) ?_
  obtain ⟨a26, rfl, hw⟩ := hw
  obtain ⟨t27, hw⟩ := hw
  obtain ⟨mc28, ms29, hc1, hs1, hw⟩ := hw
  refine va_calli (wo_runV hC lq_Sh_80 (mq_St_length hw) hG hS t27 rfl (lx_sz hl) rfl (lx_rm (Nat.le_of_ble_eq_true rfl)) (by decide) dq_Sh_onePiece_30 ⟨hc1, hs1⟩) hS (fun _ _ h => h) (fun _ h => h) (fun v31 G30 t H locs ht hvm hw' hB _ _ hS => ?_)
  clear hw
  have hw := hw'
  clear hw'
  replace hG := wo_bk ht hB
  replace hcc := hc1
  replace hss := hs1
  obtain ⟨a32, rfl, hw⟩ := hw
  obtain ⟨t33, hw⟩ := hw
  obtain ⟨mc34, ms35, hc1, hs1, hw⟩ := hw
  refine va_callq (wo_runV hC lq_Sh_104 (mq_SB_append_I hw) hG hS t33 rfl (lx_sz hl) rfl (Nat.zero_le _) (by decide) dq_Sh_onePiece_33 ⟨hc1, hs1⟩) hS (fun _ _ h => h) (fun _ h => h) (fun v37 G36 t H locs ht hvm hw' hB _ _ hS => ?_)
  clear hw
  have hw := hw'
  clear hw'
  replace hG := wo_bk ht hB
  replace hcc := hc1
  replace hss := hs1
  refine lv_pop hx hb dq_Sh_onePiece_36 (lx_cR _) ?_
  refine lv_aload_n hx hb dq_Sh_onePiece_37 rfl (lx_at hl 0 rfl) ?_
  obtain ⟨t38, hw⟩ := hw
  refine wo_getR hC fq_Sh_12 rfl hG t38 dq_Sh_onePiece_38 (fun r39 e40 => ?_)
  replace hw := hw r39 e40
  refine lv_bipush (v := (10 : Int32)) hx hb dq_Sh_onePiece_41 rfl ?_
  obtain ⟨a41, rfl, hw⟩ := hw
  obtain ⟨t42, hw⟩ := hw
  obtain ⟨mc43, ms44, hc1, hs1, hw⟩ := hw
  refine va_callq (wo_runV hC lq_Sh_33 (mq_SB_append_C hw) hG hS t42 rfl (lx_sz hl) rfl (Nat.zero_le _) (by decide) dq_Sh_onePiece_43 ⟨hc1, hs1⟩) hS (fun _ _ h => h) (fun _ h => h) (fun v46 G45 t H locs ht hvm hw' hB _ _ hS => ?_)
  clear hw
  have hw := hw'
  clear hw'
  replace hG := wo_bk ht hB
  replace hcc := hc1
  replace hss := hs1
  refine lv_pop hx hb dq_Sh_onePiece_46 (lx_cR _) ?_
  refine lv_aload_n hx hb dq_Sh_onePiece_47 rfl (lx_at hl 0 rfl) ?_
  refine lv_bipush (v := (76 : Int32)) hx hb dq_Sh_onePiece_48 rfl ?_
  refine lv_aload_n hx hb dq_Sh_onePiece_50 rfl (lx_at hl 0 rfl) ?_
  obtain ⟨t47, hw⟩ := hw
  refine wo_getR hC fq_Sh_22 rfl hG t47 dq_Sh_onePiece_51 (fun r48 e49 => ?_)
  replace hw := hw r48 e49
  refine lv_iconst (v := (0 : Int32)) hx hb dq_Sh_onePiece_54 rfl ?_
  obtain ⟨a50, rfl, hw⟩ := hw
  obtain ⟨t51, hw⟩ := hw
  obtain ⟨h52, hw⟩ := hw
  refine wo_iald (j := 2) hC rfl hG t51 h52 dq_Sh_onePiece_55 ?_
  refine lv_aload_n hx hb dq_Sh_onePiece_56 rfl (lx_at hl 0 rfl) ?_
  refine wo_getR hC fq_Sh_18 rfl hG t47 dq_Sh_onePiece_57 (fun r53 e54 => ?_)
  replace hw := hw r53 e54
  refine lv_iconst (v := (0 : Int32)) hx hb dq_Sh_onePiece_60 rfl ?_
  obtain ⟨a55, rfl, hw⟩ := hw
  obtain ⟨t56, hw⟩ := hw
  obtain ⟨h57, hw⟩ := hw
  refine wo_iald (j := 2) hC rfl hG t56 h57 dq_Sh_onePiece_61 ?_
  refine lv_isub hx hb dq_Sh_onePiece_62 ?_
  refine lv_iconst (v := (1 : Int32)) hx hb dq_Sh_onePiece_63 rfl ?_
  refine lv_iadd hx hb dq_Sh_onePiece_64 ?_
  obtain ⟨mc58, ms59, hc1, hs1, hw⟩ := hw
  refine va_callv (wo_runV hC lq_Sh_29 (mq_Sh_numberLine hw) hG hS t47 rfl (lx_sz hl) rfl (Nat.zero_le _) (by decide) dq_Sh_onePiece_65 ⟨hc1, hs1⟩) hS (fun _ _ h => h) (fun _ h => h) (fun G60 t H locs ht hvm hw' hB _ _ hS => ?_)
  clear hw
  have hw := hw'
  clear hw'
  replace hG := wo_bk ht hB
  replace hcc := hc1
  replace hss := hs1
  refine lv_aload_n hx hb dq_Sh_onePiece_68 rfl (lx_at hl 0 rfl) ?_
  obtain ⟨t61, hw⟩ := hw
  refine wo_getR hC fq_Sh_12 rfl hG t61 dq_Sh_onePiece_69 (fun r62 e63 => ?_)
  replace hw := hw r62 e63
  refine lv_bipush (v := (10 : Int32)) hx hb dq_Sh_onePiece_72 rfl ?_
  obtain ⟨a64, rfl, hw⟩ := hw
  obtain ⟨t65, hw⟩ := hw
  obtain ⟨mc66, ms67, hc1, hs1, hw⟩ := hw
  refine va_callq (wo_runV hC lq_Sh_33 (mq_SB_append_C hw) hG hS t65 rfl (lx_sz hl) rfl (Nat.zero_le _) (by decide) dq_Sh_onePiece_74 ⟨hc1, hs1⟩) hS (fun _ _ h => h) (fun _ h => h) (fun v69 G68 t H locs ht hvm hw' hB _ _ hS => ?_)
  clear hw
  have hw := hw'
  clear hw'
  replace hG := wo_bk ht hB
  replace hcc := hc1
  replace hss := hs1
  refine lv_pop hx hb dq_Sh_onePiece_77 (lx_cR _) ?_
  refine lv_aload_n hx hb dq_Sh_onePiece_78 rfl (lx_at hl 0 rfl) ?_
  obtain ⟨t70, hw⟩ := hw
  refine wo_getR hC fq_Sh_12 rfl hG t70 dq_Sh_onePiece_79 (fun r71 e72 => ?_)
  replace hw := hw r71 e72
  refine lv_aload_n hx hb dq_Sh_onePiece_82 rfl (lx_at hl 1 rfl) ?_
  refine lv_aload_n hx hb dq_Sh_onePiece_83 rfl (lx_at hl 0 rfl) ?_
  refine wo_getR hC fq_Sh_18 rfl hG t70 dq_Sh_onePiece_84 (fun r73 e74 => ?_)
  replace hw := hw r73 e74
  refine lv_iconst (v := (0 : Int32)) hx hb dq_Sh_onePiece_87 rfl ?_
  obtain ⟨a75, rfl, hw⟩ := hw
  obtain ⟨t76, hw⟩ := hw
  obtain ⟨h77, hw⟩ := hw
  refine wo_iald (j := 2) hC rfl hG t76 h77 dq_Sh_onePiece_88 ?_
  refine lv_aload_n hx hb dq_Sh_onePiece_89 rfl (lx_at hl 0 rfl) ?_
  refine wo_getR hC fq_Sh_22 rfl hG t70 dq_Sh_onePiece_90 (fun r78 e79 => ?_)
  replace hw := hw r78 e79
  refine lv_iconst (v := (0 : Int32)) hx hb dq_Sh_onePiece_93 rfl ?_
  obtain ⟨a80, rfl, hw⟩ := hw
  obtain ⟨t81, hw⟩ := hw
  obtain ⟨h82, hw⟩ := hw
  refine wo_iald (j := 2) hC rfl hG t81 h82 dq_Sh_onePiece_94 ?_
  refine lv_iconst (v := (1 : Int32)) hx hb dq_Sh_onePiece_95 rfl ?_
  refine lv_iadd hx hb dq_Sh_onePiece_96 ?_
  obtain ⟨t83, hw⟩ := hw
  obtain ⟨mc84, ms85, hc1, hs1, hw⟩ := hw
  refine va_callq (wo_runV hC lq_Sh_150 (mq_St_substring_II hw) hG hS t83 rfl (lx_sz hl) rfl (lx_rm (Nat.le_of_ble_eq_true rfl)) (by decide) dq_Sh_onePiece_97 ⟨hc1, hs1⟩) hS (fun _ _ h => h) (fun _ h => h) (fun v87 G86 t H locs ht hvm hw' hB _ _ hS => ?_)
  clear hw
  have hw := hw'
  clear hw'
  replace hG := wo_bk ht hB
  replace hcc := hc1
  replace hss := hs1
  obtain ⟨a88, rfl, hw⟩ := hw
  obtain ⟨t89, hw⟩ := hw
  obtain ⟨mc90, ms91, hc1, hs1, hw⟩ := hw
  refine va_callq (wo_runV hC lq_Sh_109 (mq_SB_append_S hw) hG hS t89 rfl (lx_sz hl) rfl (Nat.zero_le _) (by decide) dq_Sh_onePiece_100 ⟨hc1, hs1⟩) hS (fun _ _ h => h) (fun _ h => h) (fun v93 G92 t H locs ht hvm hw' hB _ _ hS => ?_)
  clear hw
  have hw := hw'
  clear hw'
  replace hG := wo_bk ht hB
  replace hcc := hc1
  replace hss := hs1
  refine lv_pop hx hb dq_Sh_onePiece_103 (lx_cR _) ?_
  exact wo_vret hC hG hS hcc hss hw dq_Sh_onePiece_104
set_option maxHeartbeats 4000000 in
theorem mq_Sh_onePiece {l : Launch} {E : wo_E} {mc ms : Nat} {Post : wo_W → Prop} {G : wo_W} {x0 : Nat} {x1 : Option Nat} (hw : pq_Sh_onePiece E mc ms Post G x0 x1) : Met l yq_Sh_onePiece (Cond.code yq_Sh_onePiece prog_9_method_10_code 2 ((Option.none : Option Jvm.ClassFile.FieldType)) :: vw_WG) { frames := 7, cells := mc, slots := ms, locals := 164 } (va_Pc [.ref x0, va_rf x1] (wo_Ok E G)) (va_Qv Post (wo_B E) (en_A E)) mc ms (en_A E) := by
  unfold pq_Sh_onePiece at hw
  exact wo_met [(1, .ref x0), (1, va_rf x1)] rfl (by decide) (fun q hq => by simp only [List.mem_cons, List.not_mem_nil, or_false] at hq; rcases hq with rfl | rfl <;> first | rfl | exact lx_cR _) (Nat.le_of_ble_eq_true rfl) (fun p e R s m args below meth cd ls hC hG hS hl => tq_Sh_onePiece_0 hC hw hG hS (lx_sub hl [0, 1] rfl) (Nat.zero_le _) (Nat.zero_le _))

theorem dq_Sh_twoPieces_0 : decode prog_9_method_11_code 0 = .ok (.aload_n 0, 1) := by decide +kernel
theorem dq_Sh_twoPieces_1 : decode prog_9_method_11_code 1 = .ok (.bipush 82, 2) := by decide +kernel
theorem dq_Sh_twoPieces_3 : decode prog_9_method_11_code 3 = .ok (.iconst 2, 1) := by decide +kernel
theorem dq_Sh_twoPieces_4 : decode prog_9_method_11_code 4 = .ok (.invokevirtual 29, 3) := by decide +kernel
theorem dq_Sh_twoPieces_7 : decode prog_9_method_11_code 7 = .ok (.iconst 0, 1) := by decide +kernel
theorem dq_Sh_twoPieces_8 : decode prog_9_method_11_code 8 = .ok (.istore_n 2, 1) := by decide +kernel
theorem dq_Sh_twoPieces_9 : decode prog_9_method_11_code 9 = .ok (.iconst 0, 1) := by decide +kernel
theorem dq_Sh_twoPieces_10 : decode prog_9_method_11_code 10 = .ok (.istore_n 3, 1) := by decide +kernel
theorem dq_Sh_twoPieces_11 : decode prog_9_method_11_code 11 = .ok (.iload_n 3, 1) := by decide +kernel
theorem dq_Sh_twoPieces_12 : decode prog_9_method_11_code 12 = .ok (.iconst 2, 1) := by decide +kernel
theorem dq_Sh_twoPieces_13 : decode prog_9_method_11_code 13 = .ok (.if_icmp .ge 29, 3) := by decide +kernel
theorem dq_Sh_twoPieces_16 : decode prog_9_method_11_code 16 = .ok (.iload_n 2, 1) := by decide +kernel
theorem dq_Sh_twoPieces_17 : decode prog_9_method_11_code 17 = .ok (.iconst 5, 1) := by decide +kernel
theorem dq_Sh_twoPieces_18 : decode prog_9_method_11_code 18 = .ok (.aload_n 0, 1) := by decide +kernel
theorem dq_Sh_twoPieces_19 : decode prog_9_method_11_code 19 = .ok (.getfield 22, 3) := by decide +kernel
theorem dq_Sh_twoPieces_22 : decode prog_9_method_11_code 22 = .ok (.iload_n 3, 1) := by decide +kernel
theorem dq_Sh_twoPieces_23 : decode prog_9_method_11_code 23 = .ok (.iaload, 1) := by decide +kernel
theorem dq_Sh_twoPieces_24 : decode prog_9_method_11_code 24 = .ok (.iadd, 1) := by decide +kernel
theorem dq_Sh_twoPieces_25 : decode prog_9_method_11_code 25 = .ok (.aload_n 0, 1) := by decide +kernel
theorem dq_Sh_twoPieces_26 : decode prog_9_method_11_code 26 = .ok (.getfield 18, 3) := by decide +kernel
theorem dq_Sh_twoPieces_29 : decode prog_9_method_11_code 29 = .ok (.iload_n 3, 1) := by decide +kernel
theorem dq_Sh_twoPieces_30 : decode prog_9_method_11_code 30 = .ok (.iaload, 1) := by decide +kernel
theorem dq_Sh_twoPieces_31 : decode prog_9_method_11_code 31 = .ok (.isub, 1) := by decide +kernel
theorem dq_Sh_twoPieces_32 : decode prog_9_method_11_code 32 = .ok (.iconst 1, 1) := by decide +kernel
theorem dq_Sh_twoPieces_33 : decode prog_9_method_11_code 33 = .ok (.iadd, 1) := by decide +kernel
theorem dq_Sh_twoPieces_34 : decode prog_9_method_11_code 34 = .ok (.iadd, 1) := by decide +kernel
theorem dq_Sh_twoPieces_35 : decode prog_9_method_11_code 35 = .ok (.istore_n 2, 1) := by decide +kernel
theorem dq_Sh_twoPieces_36 : decode prog_9_method_11_code 36 = .ok (.iinc 3 1, 3) := by decide +kernel
theorem dq_Sh_twoPieces_39 : decode prog_9_method_11_code 39 = .ok (.goto (-28), 3) := by decide +kernel
theorem dq_Sh_twoPieces_42 : decode prog_9_method_11_code 42 = .ok (.aload_n 0, 1) := by decide +kernel
theorem dq_Sh_twoPieces_43 : decode prog_9_method_11_code 43 = .ok (.bipush 76, 2) := by decide +kernel
theorem dq_Sh_twoPieces_45 : decode prog_9_method_11_code 45 = .ok (.iload_n 2, 1) := by decide +kernel
theorem dq_Sh_twoPieces_46 : decode prog_9_method_11_code 46 = .ok (.invokevirtual 29, 3) := by decide +kernel
theorem dq_Sh_twoPieces_49 : decode prog_9_method_11_code 49 = .ok (.aload_n 0, 1) := by decide +kernel
theorem dq_Sh_twoPieces_50 : decode prog_9_method_11_code 50 = .ok (.getfield 12, 3) := by decide +kernel
theorem dq_Sh_twoPieces_53 : decode prog_9_method_11_code 53 = .ok (.bipush 10, 2) := by decide +kernel
theorem dq_Sh_twoPieces_55 : decode prog_9_method_11_code 55 = .ok (.invokevirtual 33, 3) := by decide +kernel
theorem dq_Sh_twoPieces_58 : decode prog_9_method_11_code 58 = .ok (.pop, 1) := by decide +kernel
theorem dq_Sh_twoPieces_59 : decode prog_9_method_11_code 59 = .ok (.iconst 0, 1) := by decide +kernel
theorem dq_Sh_twoPieces_60 : decode prog_9_method_11_code 60 = .ok (.istore_n 3, 1) := by decide +kernel
theorem dq_Sh_twoPieces_61 : decode prog_9_method_11_code 61 = .ok (.iload_n 3, 1) := by decide +kernel
theorem dq_Sh_twoPieces_62 : decode prog_9_method_11_code 62 = .ok (.iconst 2, 1) := by decide +kernel
theorem dq_Sh_twoPieces_63 : decode prog_9_method_11_code 63 = .ok (.if_icmp .ge 60, 3) := by decide +kernel
theorem dq_Sh_twoPieces_66 : decode prog_9_method_11_code 66 = .ok (.aload_n 0, 1) := by decide +kernel
theorem dq_Sh_twoPieces_67 : decode prog_9_method_11_code 67 = .ok (.iload_n 3, 1) := by decide +kernel
theorem dq_Sh_twoPieces_68 : decode prog_9_method_11_code 68 = .ok (.invokevirtual 147, 3) := by decide +kernel
theorem dq_Sh_twoPieces_71 : decode prog_9_method_11_code 71 = .ok (.aload_n 0, 1) := by decide +kernel
theorem dq_Sh_twoPieces_72 : decode prog_9_method_11_code 72 = .ok (.getfield 12, 3) := by decide +kernel
theorem dq_Sh_twoPieces_75 : decode prog_9_method_11_code 75 = .ok (.bipush 61, 2) := by decide +kernel
theorem dq_Sh_twoPieces_77 : decode prog_9_method_11_code 77 = .ok (.invokevirtual 33, 3) := by decide +kernel
theorem dq_Sh_twoPieces_80 : decode prog_9_method_11_code 80 = .ok (.pop, 1) := by decide +kernel
theorem dq_Sh_twoPieces_81 : decode prog_9_method_11_code 81 = .ok (.aload_n 0, 1) := by decide +kernel
theorem dq_Sh_twoPieces_82 : decode prog_9_method_11_code 82 = .ok (.getfield 12, 3) := by decide +kernel
theorem dq_Sh_twoPieces_85 : decode prog_9_method_11_code 85 = .ok (.aload_n 1, 1) := by decide +kernel
theorem dq_Sh_twoPieces_86 : decode prog_9_method_11_code 86 = .ok (.aload_n 0, 1) := by decide +kernel
theorem dq_Sh_twoPieces_87 : decode prog_9_method_11_code 87 = .ok (.getfield 18, 3) := by decide +kernel
theorem dq_Sh_twoPieces_90 : decode prog_9_method_11_code 90 = .ok (.iload_n 3, 1) := by decide +kernel
theorem dq_Sh_twoPieces_91 : decode prog_9_method_11_code 91 = .ok (.iaload, 1) := by decide +kernel
theorem dq_Sh_twoPieces_92 : decode prog_9_method_11_code 92 = .ok (.aload_n 0, 1) := by decide +kernel
theorem dq_Sh_twoPieces_93 : decode prog_9_method_11_code 93 = .ok (.getfield 22, 3) := by decide +kernel
theorem dq_Sh_twoPieces_96 : decode prog_9_method_11_code 96 = .ok (.iload_n 3, 1) := by decide +kernel
theorem dq_Sh_twoPieces_97 : decode prog_9_method_11_code 97 = .ok (.iaload, 1) := by decide +kernel
theorem dq_Sh_twoPieces_98 : decode prog_9_method_11_code 98 = .ok (.iconst 1, 1) := by decide +kernel
theorem dq_Sh_twoPieces_99 : decode prog_9_method_11_code 99 = .ok (.iadd, 1) := by decide +kernel
theorem dq_Sh_twoPieces_100 : decode prog_9_method_11_code 100 = .ok (.invokevirtual 150, 3) := by decide +kernel
theorem dq_Sh_twoPieces_103 : decode prog_9_method_11_code 103 = .ok (.invokevirtual 109, 3) := by decide +kernel
theorem dq_Sh_twoPieces_106 : decode prog_9_method_11_code 106 = .ok (.pop, 1) := by decide +kernel
theorem dq_Sh_twoPieces_107 : decode prog_9_method_11_code 107 = .ok (.aload_n 0, 1) := by decide +kernel
theorem dq_Sh_twoPieces_108 : decode prog_9_method_11_code 108 = .ok (.getfield 12, 3) := by decide +kernel
theorem dq_Sh_twoPieces_111 : decode prog_9_method_11_code 111 = .ok (.bipush 10, 2) := by decide +kernel
theorem dq_Sh_twoPieces_113 : decode prog_9_method_11_code 113 = .ok (.invokevirtual 33, 3) := by decide +kernel
theorem dq_Sh_twoPieces_116 : decode prog_9_method_11_code 116 = .ok (.pop, 1) := by decide +kernel
theorem dq_Sh_twoPieces_117 : decode prog_9_method_11_code 117 = .ok (.iinc 3 1, 3) := by decide +kernel
theorem dq_Sh_twoPieces_120 : decode prog_9_method_11_code 120 = .ok (.goto (-59), 3) := by decide +kernel
theorem dq_Sh_twoPieces_123 : decode prog_9_method_11_code 123 = .ok (.return_, 1) := by decide +kernel
set_option maxRecDepth 100000 in
def pq_Sh_twoPieces_61 (E : wo_E) (mc ms : Nat) (Post : wo_W → Prop) : Nat → wo_W → Nat → Nat → Nat → Option Nat → Int32 → Prop
  | 0 => fun _ _ _ _ _ _ => False
  | n + 1 => fun G c s x0 x1 x3 => (((2 : Int32) ≤ x3 → Post G) ∧
  (¬ (2 : Int32) ≤ x3 → wo_ty G x0 = 4 ∧ ∃ mc2 ms3 : Nat, (c + mc2) ≤ mc ∧ (s + ms3) ≤ ms ∧ pq_Sh_span E mc2 ms3 (fun G4 => 
    wo_ty G4 x0 = 4 ∧ ∀ r6 : Option Nat, r6 = wo_gr G4 192 x0 → ∃ a8 : Nat, r6 = some a8 ∧ wo_ty G4 a8 = 5 ∧ ∃ mc10 ms11 : Nat, ((c + mc2) + mc10) ≤ mc ∧ ((s + ms3) + ms11) ≤ ms ∧ pq_SB_append_C E mc10 ms11 (fun v13 G12 => 
      wo_ty G12 x0 = 4 ∧ ∀ r15 : Option Nat, r15 = wo_gr G12 192 x0 → ∀ r17 : Option Nat, r17 = wo_gr G12 193 x0 → ∃ a19 : Nat, r17 = some a19 ∧ wo_ty G12 a19 = 66 ∧ vp_in x3 (wo_len G12 a19) ∧ ∀ r22 : Option Nat, r22 = wo_gr G12 194 x0 → ∃ a24 : Nat, r22 = some a24 ∧ wo_ty G12 a24 = 66 ∧ vp_in x3 (wo_len G12 a24) ∧ ∃ a27 : Nat, x1 = some a27 ∧ wo_ty G12 a27 = 10 ∧ ∃ mc29 ms30 : Nat, (((c + mc2) + mc10) + mc29) ≤ mc ∧ (((s + ms3) + ms11) + ms30) ≤ ms ∧ pq_St_substring_II E mc29 ms30 (fun v32 G31 => 
        ∃ a33 : Nat, r15 = some a33 ∧ wo_ty G31 a33 = 5 ∧ ∃ mc35 ms36 : Nat, ((((c + mc2) + mc10) + mc29) + mc35) ≤ mc ∧ ((((s + ms3) + ms11) + ms30) + ms36) ≤ ms ∧ pq_SB_append_S E mc35 ms36 (fun v38 G37 => 
          wo_ty G37 x0 = 4 ∧ ∀ r40 : Option Nat, r40 = wo_gr G37 192 x0 → ∃ a42 : Nat, r40 = some a42 ∧ wo_ty G37 a42 = 5 ∧ ∃ mc44 ms45 : Nat, (((((c + mc2) + mc10) + mc29) + mc35) + mc44) ≤ mc ∧ (((((s + ms3) + ms11) + ms30) + ms36) + ms45) ≤ ms ∧ pq_SB_append_C E mc44 ms45 (fun v47 G46 => 
            pq_Sh_twoPieces_61 E mc ms Post n G46 (((((c + mc2) + mc10) + mc29) + mc35) + mc44) (((((s + ms3) + ms11) + ms30) + ms36) + ms45) x0 (some a27) (x3 + (1 : Int32))) G37 a42 (10 : Int32)) G31 a33 v32) G12 a27 (wo_ei G12 a19 x3.toNatClampNeg) ((wo_ei G12 a24 x3.toNatClampNeg) + (1 : Int32))) G4 a8 (61 : Int32)) G x0 x3))
set_option maxRecDepth 100000 in
def pq_Sh_twoPieces_11 (E : wo_E) (mc ms : Nat) (Post : wo_W → Prop) : Nat → wo_W → Nat → Nat → Nat → Option Nat → Int32 → Int32 → Prop
  | 0 => fun _ _ _ _ _ _ _ => False
  | n + 1 => fun G c s x0 x1 x2 x3 => (((2 : Int32) ≤ x3 → wo_ty G x0 = 4 ∧ ∃ mc2 ms3 : Nat, (c + mc2) ≤ mc ∧ (s + ms3) ≤ ms ∧ pq_Sh_numberLine E mc2 ms3 (fun G4 => 
    wo_ty G4 x0 = 4 ∧ ∀ r6 : Option Nat, r6 = wo_gr G4 192 x0 → ∃ a8 : Nat, r6 = some a8 ∧ wo_ty G4 a8 = 5 ∧ ∃ mc10 ms11 : Nat, ((c + mc2) + mc10) ≤ mc ∧ ((s + ms3) + ms11) ≤ ms ∧ pq_SB_append_C E mc10 ms11 (fun v13 G12 => 
      ∃ n1 : Nat, pq_Sh_twoPieces_61 E mc ms Post n1 G12 ((c + mc2) + mc10) ((s + ms3) + ms11) x0 x1 (0 : Int32)) G4 a8 (10 : Int32)) G x0 (76 : Int32) x2) ∧
  (¬ (2 : Int32) ≤ x3 → wo_ty G x0 = 4 ∧ ∀ r15 : Option Nat, r15 = wo_gr G 194 x0 → ∃ a17 : Nat, r15 = some a17 ∧ wo_ty G a17 = 66 ∧ vp_in x3 (wo_len G a17) ∧ ∀ r20 : Option Nat, r20 = wo_gr G 193 x0 → ∃ a22 : Nat, r20 = some a22 ∧ wo_ty G a22 = 66 ∧ vp_in x3 (wo_len G a22) ∧ pq_Sh_twoPieces_11 E mc ms Post n G c s x0 x1 (x2 + ((((5 : Int32) + (wo_ei G a17 x3.toNatClampNeg)) - (wo_ei G a22 x3.toNatClampNeg)) + (1 : Int32))) (x3 + (1 : Int32))))
set_option maxRecDepth 100000 in
def pq_Sh_twoPieces_0 (E : wo_E) (mc ms : Nat) (Post : wo_W → Prop) (G : wo_W) (c s : Nat) (x0 : Nat) (x1 : Option Nat) : Prop := wo_ty G x0 = 4 ∧ ∃ mc2 ms3 : Nat, (c + mc2) ≤ mc ∧ (s + ms3) ≤ ms ∧ pq_Sh_numberLine E mc2 ms3 (fun G4 => 
  ∃ n1 : Nat, pq_Sh_twoPieces_11 E mc ms Post n1 G4 (c + mc2) (s + ms3) x0 x1 (0 : Int32) (0 : Int32)) G x0 (82 : Int32) (2 : Int32)
def pq_Sh_twoPieces (E : wo_E) (mc ms : Nat) (Post : wo_W → Prop) (G : wo_W) (x0 : Nat) (x1 : Option Nat) : Prop := pq_Sh_twoPieces_0 E mc ms Post G 0 0 x0 x1
set_option maxRecDepth 100000 in
set_option maxHeartbeats 4000000 in
theorem tq_Sh_twoPieces_61 {p : Program} {l : Launch} {e : Env} {R : Room} {s₀ : State} {m : MethodId} {args : Array Value} {below : List Frame} {meth : Method} {cd : Code} {E : wo_E} {mc ms : Nat} {Post : wo_W → Prop} (hC : wo_Cx E "EdgeCache$Sheet" prog_9_method_11_code 4 7 164 ((Option.none : Option Jvm.ClassFile.FieldType)) "twoPieces" mc ms p R s₀ m args meth cd) : ∀ n : Nat, ∀ {G : wo_W} {c s : Nat} {x0 : Nat} {x1 : Option Nat} {x3 : Int32}, pq_Sh_twoPieces_61 E mc ms Post n G c s x0 x1 x3 → ∀ {H : Heap} {locs : List Loc} {ls : Array Slot}, wo_Se E G H → va_S (en_A E) s₀.heap H locs → lx_has ls 4 [(0, 1, .ref x0), (1, 1, va_rf x1), (3, 1, .int x3)] → c ≤ mc → s ≤ ms → W p l e R s₀ m args below meth cd H locs c s (MQ below (va_Qv Post (wo_B E) (en_A E)) args s₀ mc ms (en_A E)) (F0 m 61 ls []) := by
  intro n
  induction n with
  | zero => intro G c s x0 x1 x3 hw; exact hw.elim
  | succ n ih =>
    intro G c s x0 x1 x3 hw H locs ls hG hS hl hcc hss
    dsimp only [pq_Sh_twoPieces_61] at hw
    have hx := hC.1
    have hb := hC.2.1
    refine lv_iload_n hx hb dq_Sh_twoPieces_61 rfl (lx_at hl 2 rfl) ?_
    refine lv_iconst (v := (2 : Int32)) hx hb dq_Sh_twoPieces_62 rfl ?_
    refine lv_icmp_ge (tgt := 123) hx hb dq_Sh_twoPieces_63 rfl (fun h => ?_) (fun h => ?_)
    · replace hw := hw.1 h
      exact wo_vret hC hG hS hcc hss hw dq_Sh_twoPieces_123
    · replace hw := hw.2 h
      refine lv_aload_n hx hb dq_Sh_twoPieces_66 rfl (lx_at hl 0 rfl) ?_
      refine lv_iload_n hx hb dq_Sh_twoPieces_67 rfl (lx_at hl 2 rfl) ?_
      obtain ⟨t1, hw⟩ := hw
      obtain ⟨mc2, ms3, hc1, hs1, hw⟩ := hw
      refine va_callv (wo_runV hC lq_Sh_147 (mq_Sh_span hw) hG hS t1 rfl (lx_sz hl) rfl (Nat.zero_le _) (by decide) dq_Sh_twoPieces_68 ⟨hc1, hs1⟩) hS (fun _ _ h => h) (fun _ h => h) (fun G4 t H locs ht hvm hw' hB _ _ hS => ?_)
      clear hw
      have hw := hw'
      clear hw'
      replace hG := wo_bk ht hB
      replace hcc := hc1
      replace hss := hs1
      refine lv_aload_n hx hb dq_Sh_twoPieces_71 rfl (lx_at hl 0 rfl) ?_
      obtain ⟨t5, hw⟩ := hw
      refine wo_getR hC fq_Sh_12 rfl hG t5 dq_Sh_twoPieces_72 (fun r6 e7 => ?_)
      replace hw := hw r6 e7
      refine lv_bipush (v := (61 : Int32)) hx hb dq_Sh_twoPieces_75 rfl ?_
      obtain ⟨a8, rfl, hw⟩ := hw
      obtain ⟨t9, hw⟩ := hw
      obtain ⟨mc10, ms11, hc1, hs1, hw⟩ := hw
      refine va_callq (wo_runV hC lq_Sh_33 (mq_SB_append_C hw) hG hS t9 rfl (lx_sz hl) rfl (Nat.zero_le _) (by decide) dq_Sh_twoPieces_77 ⟨hc1, hs1⟩) hS (fun _ _ h => h) (fun _ h => h) (fun v13 G12 t H locs ht hvm hw' hB _ _ hS => ?_)
      clear hw
      have hw := hw'
      clear hw'
      replace hG := wo_bk ht hB
      replace hcc := hc1
      replace hss := hs1
      refine lv_pop hx hb dq_Sh_twoPieces_80 (lx_cR _) ?_
      refine lv_aload_n hx hb dq_Sh_twoPieces_81 rfl (lx_at hl 0 rfl) ?_
      obtain ⟨t14, hw⟩ := hw
      refine wo_getR hC fq_Sh_12 rfl hG t14 dq_Sh_twoPieces_82 (fun r15 e16 => ?_)
      replace hw := hw r15 e16
      refine lx_aloadR_n hx hb dq_Sh_twoPieces_85 rfl (lx_at hl 1 rfl) ?_
      refine lv_aload_n hx hb dq_Sh_twoPieces_86 rfl (lx_at hl 0 rfl) ?_
      refine wo_getR hC fq_Sh_18 rfl hG t14 dq_Sh_twoPieces_87 (fun r17 e18 => ?_)
      replace hw := hw r17 e18
      refine lv_iload_n hx hb dq_Sh_twoPieces_90 rfl (lx_at hl 2 rfl) ?_
      obtain ⟨a19, rfl, hw⟩ := hw
      obtain ⟨t20, hw⟩ := hw
      obtain ⟨h21, hw⟩ := hw
      refine wo_iald (j := 2) hC rfl hG t20 h21 dq_Sh_twoPieces_91 ?_
      refine lv_aload_n hx hb dq_Sh_twoPieces_92 rfl (lx_at hl 0 rfl) ?_
      refine wo_getR hC fq_Sh_22 rfl hG t14 dq_Sh_twoPieces_93 (fun r22 e23 => ?_)
      replace hw := hw r22 e23
      refine lv_iload_n hx hb dq_Sh_twoPieces_96 rfl (lx_at hl 2 rfl) ?_
      obtain ⟨a24, rfl, hw⟩ := hw
      obtain ⟨t25, hw⟩ := hw
      obtain ⟨h26, hw⟩ := hw
      refine wo_iald (j := 2) hC rfl hG t25 h26 dq_Sh_twoPieces_97 ?_
      refine lv_iconst (v := (1 : Int32)) hx hb dq_Sh_twoPieces_98 rfl ?_
      refine lv_iadd hx hb dq_Sh_twoPieces_99 ?_
      obtain ⟨a27, rfl, hw⟩ := hw
      obtain ⟨t28, hw⟩ := hw
      obtain ⟨mc29, ms30, hc1, hs1, hw⟩ := hw
      refine va_callq (wo_runV hC lq_Sh_150 (mq_St_substring_II hw) hG hS t28 rfl (lx_sz hl) rfl (lx_rm (Nat.le_of_ble_eq_true rfl)) (by decide) dq_Sh_twoPieces_100 ⟨hc1, hs1⟩) hS (fun _ _ h => h) (fun _ h => h) (fun v32 G31 t H locs ht hvm hw' hB _ _ hS => ?_)
      clear hw
      have hw := hw'
      clear hw'
      replace hG := wo_bk ht hB
      replace hcc := hc1
      replace hss := hs1
      obtain ⟨a33, rfl, hw⟩ := hw
      obtain ⟨t34, hw⟩ := hw
      obtain ⟨mc35, ms36, hc1, hs1, hw⟩ := hw
      refine va_callq (wo_runV hC lq_Sh_109 (mq_SB_append_S hw) hG hS t34 rfl (lx_sz hl) rfl (Nat.zero_le _) (by decide) dq_Sh_twoPieces_103 ⟨hc1, hs1⟩) hS (fun _ _ h => h) (fun _ h => h) (fun v38 G37 t H locs ht hvm hw' hB _ _ hS => ?_)
      clear hw
      have hw := hw'
      clear hw'
      replace hG := wo_bk ht hB
      replace hcc := hc1
      replace hss := hs1
      refine lv_pop hx hb dq_Sh_twoPieces_106 (lx_cR _) ?_
      refine lv_aload_n hx hb dq_Sh_twoPieces_107 rfl (lx_at hl 0 rfl) ?_
      obtain ⟨t39, hw⟩ := hw
      refine wo_getR hC fq_Sh_12 rfl hG t39 dq_Sh_twoPieces_108 (fun r40 e41 => ?_)
      replace hw := hw r40 e41
      refine lv_bipush (v := (10 : Int32)) hx hb dq_Sh_twoPieces_111 rfl ?_
      obtain ⟨a42, rfl, hw⟩ := hw
      obtain ⟨t43, hw⟩ := hw
      obtain ⟨mc44, ms45, hc1, hs1, hw⟩ := hw
      refine va_callq (wo_runV hC lq_Sh_33 (mq_SB_append_C hw) hG hS t43 rfl (lx_sz hl) rfl (Nat.zero_le _) (by decide) dq_Sh_twoPieces_113 ⟨hc1, hs1⟩) hS (fun _ _ h => h) (fun _ h => h) (fun v47 G46 t H locs ht hvm hw' hB _ _ hS => ?_)
      clear hw
      have hw := hw'
      clear hw'
      replace hG := wo_bk ht hB
      replace hcc := hc1
      replace hss := hs1
      refine lv_pop hx hb dq_Sh_twoPieces_116 (lx_cR _) ?_
      refine lx_iinc (k := 2) (v := (x3 + (1 : Int32))) (lv' := [(3, 1, .int (x3 + (1 : Int32))), (0, 1, .ref x0), (1, 1, .ref a27)]) hx hb dq_Sh_twoPieces_117 hl rfl rfl (by decide) rfl (fun ls hl' => ?_)
      clear hl
      have hl := hl'
      clear hl'
      refine lv_goto (tgt := 61) hx hb dq_Sh_twoPieces_120 rfl ?_
      exact ih hw hG hS (lx_sub hl [1, 2, 0] rfl) hcc hss
set_option maxRecDepth 100000 in
set_option maxHeartbeats 4000000 in
theorem tq_Sh_twoPieces_11 {p : Program} {l : Launch} {e : Env} {R : Room} {s₀ : State} {m : MethodId} {args : Array Value} {below : List Frame} {meth : Method} {cd : Code} {E : wo_E} {mc ms : Nat} {Post : wo_W → Prop} (hC : wo_Cx E "EdgeCache$Sheet" prog_9_method_11_code 4 7 164 ((Option.none : Option Jvm.ClassFile.FieldType)) "twoPieces" mc ms p R s₀ m args meth cd) : ∀ n : Nat, ∀ {G : wo_W} {c s : Nat} {x0 : Nat} {x1 : Option Nat} {x2 : Int32} {x3 : Int32}, pq_Sh_twoPieces_11 E mc ms Post n G c s x0 x1 x2 x3 → ∀ {H : Heap} {locs : List Loc} {ls : Array Slot}, wo_Se E G H → va_S (en_A E) s₀.heap H locs → lx_has ls 4 [(0, 1, .ref x0), (1, 1, va_rf x1), (2, 1, .int x2), (3, 1, .int x3)] → c ≤ mc → s ≤ ms → W p l e R s₀ m args below meth cd H locs c s (MQ below (va_Qv Post (wo_B E) (en_A E)) args s₀ mc ms (en_A E)) (F0 m 11 ls []) := by
  intro n
  induction n with
  | zero => intro G c s x0 x1 x2 x3 hw; exact hw.elim
  | succ n ih =>
    intro G c s x0 x1 x2 x3 hw H locs ls hG hS hl hcc hss
    dsimp only [pq_Sh_twoPieces_11] at hw
    have hx := hC.1
    have hb := hC.2.1
    refine lv_iload_n hx hb dq_Sh_twoPieces_11 rfl (lx_at hl 3 rfl) ?_
    refine lv_iconst (v := (2 : Int32)) hx hb dq_Sh_twoPieces_12 rfl ?_
    refine lv_icmp_ge (tgt := 42) hx hb dq_Sh_twoPieces_13 rfl (fun h => ?_) (fun h => ?_)
    · replace hw := hw.1 h
      refine lv_aload_n hx hb dq_Sh_twoPieces_42 rfl (lx_at hl 0 rfl) ?_
      refine lv_bipush (v := (76 : Int32)) hx hb dq_Sh_twoPieces_43 rfl ?_
      refine lv_iload_n hx hb dq_Sh_twoPieces_45 rfl (lx_at hl 2 rfl) ?_
      obtain ⟨t1, hw⟩ := hw
      obtain ⟨mc2, ms3, hc1, hs1, hw⟩ := hw
      refine va_callv (wo_runV hC lq_Sh_29 (mq_Sh_numberLine hw) hG hS t1 rfl (lx_sz hl) rfl (Nat.zero_le _) (by decide) dq_Sh_twoPieces_46 ⟨hc1, hs1⟩) hS (fun _ _ h => h) (fun _ h => h) (fun G4 t H locs ht hvm hw' hB _ _ hS => ?_)
      clear hw
      have hw := hw'
      clear hw'
      replace hG := wo_bk ht hB
      replace hcc := hc1
      replace hss := hs1
      refine lv_aload_n hx hb dq_Sh_twoPieces_49 rfl (lx_at hl 0 rfl) ?_
      obtain ⟨t5, hw⟩ := hw
      refine wo_getR hC fq_Sh_12 rfl hG t5 dq_Sh_twoPieces_50 (fun r6 e7 => ?_)
      replace hw := hw r6 e7
      refine lv_bipush (v := (10 : Int32)) hx hb dq_Sh_twoPieces_53 rfl ?_
      obtain ⟨a8, rfl, hw⟩ := hw
      obtain ⟨t9, hw⟩ := hw
      obtain ⟨mc10, ms11, hc1, hs1, hw⟩ := hw
      refine va_callq (wo_runV hC lq_Sh_33 (mq_SB_append_C hw) hG hS t9 rfl (lx_sz hl) rfl (Nat.zero_le _) (by decide) dq_Sh_twoPieces_55 ⟨hc1, hs1⟩) hS (fun _ _ h => h) (fun _ h => h) (fun v13 G12 t H locs ht hvm hw' hB _ _ hS => ?_)
      clear hw
      have hw := hw'
      clear hw'
      replace hG := wo_bk ht hB
      replace hcc := hc1
      replace hss := hs1
      refine lv_pop hx hb dq_Sh_twoPieces_58 (lx_cR _) ?_
      refine lv_iconst (v := (0 : Int32)) hx hb dq_Sh_twoPieces_59 rfl ?_
      refine lx_istore_n (lv' := [(3, 1, .int (0 : Int32)), (0, 1, .ref x0), (1, 1, va_rf x1), (2, 1, .int x2)]) hx hb dq_Sh_twoPieces_60 rfl hl (by decide) rfl (fun ls hl' => ?_)
      clear hl
      have hl := hl'
      clear hl'
      obtain ⟨n1, hw⟩ := hw
      exact tq_Sh_twoPieces_61 hC n1 hw hG hS (lx_sub hl [1, 2, 0] rfl) hcc hss
    · replace hw := hw.2 h
      refine lv_iload_n hx hb dq_Sh_twoPieces_16 rfl (lx_at hl 2 rfl) ?_
      refine lv_iconst (v := (5 : Int32)) hx hb dq_Sh_twoPieces_17 rfl ?_
      refine lv_aload_n hx hb dq_Sh_twoPieces_18 rfl (lx_at hl 0 rfl) ?_
      obtain ⟨t14, hw⟩ := hw
      refine wo_getR hC fq_Sh_22 rfl hG t14 dq_Sh_twoPieces_19 (fun r15 e16 => ?_)
      replace hw := hw r15 e16
      refine lv_iload_n hx hb dq_Sh_twoPieces_22 rfl (lx_at hl 3 rfl) ?_
      obtain ⟨a17, rfl, hw⟩ := hw
      obtain ⟨t18, hw⟩ := hw
      obtain ⟨h19, hw⟩ := hw
      refine wo_iald (j := 2) hC rfl hG t18 h19 dq_Sh_twoPieces_23 ?_
      refine lv_iadd hx hb dq_Sh_twoPieces_24 ?_
      refine lv_aload_n hx hb dq_Sh_twoPieces_25 rfl (lx_at hl 0 rfl) ?_
      refine wo_getR hC fq_Sh_18 rfl hG t14 dq_Sh_twoPieces_26 (fun r20 e21 => ?_)
      replace hw := hw r20 e21
      refine lv_iload_n hx hb dq_Sh_twoPieces_29 rfl (lx_at hl 3 rfl) ?_
      obtain ⟨a22, rfl, hw⟩ := hw
      obtain ⟨t23, hw⟩ := hw
      obtain ⟨h24, hw⟩ := hw
      refine wo_iald (j := 2) hC rfl hG t23 h24 dq_Sh_twoPieces_30 ?_
      refine lv_isub hx hb dq_Sh_twoPieces_31 ?_
      refine lv_iconst (v := (1 : Int32)) hx hb dq_Sh_twoPieces_32 rfl ?_
      refine lv_iadd hx hb dq_Sh_twoPieces_33 ?_
      refine lv_iadd hx hb dq_Sh_twoPieces_34 ?_
      refine lx_istore_n (lv' := [(2, 1, .int (x2 + ((((5 : Int32) + (wo_ei G a17 x3.toNatClampNeg)) - (wo_ei G a22 x3.toNatClampNeg)) + (1 : Int32)))), (0, 1, .ref x0), (1, 1, va_rf x1), (3, 1, .int x3)]) hx hb dq_Sh_twoPieces_35 rfl hl (by decide) rfl (fun ls hl' => ?_)
      clear hl
      have hl := hl'
      clear hl'
      refine lx_iinc (k := 3) (v := (x3 + (1 : Int32))) (lv' := [(3, 1, .int (x3 + (1 : Int32))), (2, 1, .int (x2 + ((((5 : Int32) + (wo_ei G a17 x3.toNatClampNeg)) - (wo_ei G a22 x3.toNatClampNeg)) + (1 : Int32)))), (0, 1, .ref x0), (1, 1, va_rf x1)]) hx hb dq_Sh_twoPieces_36 hl rfl rfl (by decide) rfl (fun ls hl' => ?_)
      clear hl
      have hl := hl'
      clear hl'
      refine lv_goto (tgt := 11) hx hb dq_Sh_twoPieces_39 rfl ?_
      exact ih hw hG hS (lx_sub hl [2, 3, 1, 0] rfl) hcc hss
set_option maxRecDepth 100000 in
set_option maxHeartbeats 4000000 in
theorem tq_Sh_twoPieces_0 {p : Program} {l : Launch} {e : Env} {R : Room} {s₀ : State} {m : MethodId} {args : Array Value} {below : List Frame} {meth : Method} {cd : Code} {E : wo_E} {mc ms : Nat} {Post : wo_W → Prop} (hC : wo_Cx E "EdgeCache$Sheet" prog_9_method_11_code 4 7 164 ((Option.none : Option Jvm.ClassFile.FieldType)) "twoPieces" mc ms p R s₀ m args meth cd) : ∀ {G : wo_W} {c s : Nat} {x0 : Nat} {x1 : Option Nat}, pq_Sh_twoPieces_0 E mc ms Post G c s x0 x1 → ∀ {H : Heap} {locs : List Loc} {ls : Array Slot}, wo_Se E G H → va_S (en_A E) s₀.heap H locs → lx_has ls 4 [(0, 1, .ref x0), (1, 1, va_rf x1)] → c ≤ mc → s ≤ ms → W p l e R s₀ m args below meth cd H locs c s (MQ below (va_Qv Post (wo_B E) (en_A E)) args s₀ mc ms (en_A E)) (F0 m 0 ls []) := by
  intro G c s x0 x1 hw H locs ls hG hS hl hcc hss
  dsimp only [pq_Sh_twoPieces_0] at hw
  have hx := hC.1
  have hb := hC.2.1
  refine lv_aload_n hx hb dq_Sh_twoPieces_0 rfl (lx_at hl 0 rfl) ?_
  refine lv_bipush (v := (82 : Int32)) hx hb dq_Sh_twoPieces_1 rfl ?_
  refine lv_iconst (v := (2 : Int32)) hx hb dq_Sh_twoPieces_3 rfl ?_
  obtain ⟨t1, hw⟩ := hw
  obtain ⟨mc2, ms3, hc1, hs1, hw⟩ := hw
  refine va_callv (wo_runV hC lq_Sh_29 (mq_Sh_numberLine hw) hG hS t1 rfl (lx_sz hl) rfl (Nat.zero_le _) (by decide) dq_Sh_twoPieces_4 ⟨hc1, hs1⟩) hS (fun _ _ h => h) (fun _ h => h) (fun G4 t H locs ht hvm hw' hB _ _ hS => ?_)
  clear hw
  have hw := hw'
  clear hw'
  replace hG := wo_bk ht hB
  replace hcc := hc1
  replace hss := hs1
  refine lv_iconst (v := (0 : Int32)) hx hb dq_Sh_twoPieces_7 rfl ?_
  refine lx_istore_n (lv' := [(2, 1, .int (0 : Int32)), (0, 1, .ref x0), (1, 1, va_rf x1)]) hx hb dq_Sh_twoPieces_8 rfl hl (by decide) rfl (fun ls hl' => ?_)
  clear hl
  have hl := hl'
  clear hl'
  refine lv_iconst (v := (0 : Int32)) hx hb dq_Sh_twoPieces_9 rfl ?_
  refine lx_istore_n (lv' := [(3, 1, .int (0 : Int32)), (2, 1, .int (0 : Int32)), (0, 1, .ref x0), (1, 1, va_rf x1)]) hx hb dq_Sh_twoPieces_10 rfl hl (by decide) rfl (fun ls hl' => ?_)
  clear hl
  have hl := hl'
  clear hl'
  obtain ⟨n1, hw⟩ := hw
  exact tq_Sh_twoPieces_11 hC n1 hw hG hS (lx_sub hl [2, 3, 1, 0] rfl) hcc hss
set_option maxHeartbeats 4000000 in
theorem mq_Sh_twoPieces {l : Launch} {E : wo_E} {mc ms : Nat} {Post : wo_W → Prop} {G : wo_W} {x0 : Nat} {x1 : Option Nat} (hw : pq_Sh_twoPieces E mc ms Post G x0 x1) : Met l yq_Sh_twoPieces (Cond.code yq_Sh_twoPieces prog_9_method_11_code 4 ((Option.none : Option Jvm.ClassFile.FieldType)) :: vw_WG) { frames := 7, cells := mc, slots := ms, locals := 164 } (va_Pc [.ref x0, va_rf x1] (wo_Ok E G)) (va_Qv Post (wo_B E) (en_A E)) mc ms (en_A E) := by
  unfold pq_Sh_twoPieces at hw
  exact wo_met [(1, .ref x0), (1, va_rf x1)] rfl (by decide) (fun q hq => by simp only [List.mem_cons, List.not_mem_nil, or_false] at hq; rcases hq with rfl | rfl <;> first | rfl | exact lx_cR _) (Nat.le_of_ble_eq_true rfl) (fun p e R s m args below meth cd ls hC hG hS hl => tq_Sh_twoPieces_0 hC hw hG hS (lx_sub hl [0, 1] rfl) (Nat.zero_le _) (Nat.zero_le _))

theorem dq_Sh_part_0 : decode prog_9_method_9_code 0 = .ok (.aload_n 0, 1) := by decide +kernel
theorem dq_Sh_part_1 : decode prog_9_method_9_code 1 = .ok (.getfield 131, 3) := by decide +kernel
theorem dq_Sh_part_4 : decode prog_9_method_9_code 4 = .ok (.ifCond .ne 53, 3) := by decide +kernel
theorem dq_Sh_part_7 : decode prog_9_method_9_code 7 = .ok (.aload_n 0, 1) := by decide +kernel
theorem dq_Sh_part_8 : decode prog_9_method_9_code 8 = .ok (.sipush 416, 3) := by decide +kernel
theorem dq_Sh_part_11 : decode prog_9_method_9_code 11 = .ok (.invokevirtual 25, 3) := by decide +kernel
theorem dq_Sh_part_14 : decode prog_9_method_9_code 14 = .ok (.aload_n 0, 1) := by decide +kernel
theorem dq_Sh_part_15 : decode prog_9_method_9_code 15 = .ok (.getfield 12, 3) := by decide +kernel
theorem dq_Sh_part_18 : decode prog_9_method_9_code 18 = .ok (.ldc 134, 2) := by decide +kernel
theorem dq_Sh_part_20 : decode prog_9_method_9_code 20 = .ok (.invokevirtual 109, 3) := by decide +kernel
theorem dq_Sh_part_23 : decode prog_9_method_9_code 23 = .ok (.pop, 1) := by decide +kernel
theorem dq_Sh_part_24 : decode prog_9_method_9_code 24 = .ok (.aload_n 0, 1) := by decide +kernel
theorem dq_Sh_part_25 : decode prog_9_method_9_code 25 = .ok (.getfield 12, 3) := by decide +kernel
theorem dq_Sh_part_28 : decode prog_9_method_9_code 28 = .ok (.aload_n 1, 1) := by decide +kernel
theorem dq_Sh_part_29 : decode prog_9_method_9_code 29 = .ok (.getfield 77, 3) := by decide +kernel
theorem dq_Sh_part_32 : decode prog_9_method_9_code 32 = .ok (.invokevirtual 80, 3) := by decide +kernel
theorem dq_Sh_part_35 : decode prog_9_method_9_code 35 = .ok (.invokevirtual 104, 3) := by decide +kernel
theorem dq_Sh_part_38 : decode prog_9_method_9_code 38 = .ok (.pop, 1) := by decide +kernel
theorem dq_Sh_part_39 : decode prog_9_method_9_code 39 = .ok (.aload_n 0, 1) := by decide +kernel
theorem dq_Sh_part_40 : decode prog_9_method_9_code 40 = .ok (.getfield 12, 3) := by decide +kernel
theorem dq_Sh_part_43 : decode prog_9_method_9_code 43 = .ok (.ldc 136, 2) := by decide +kernel
theorem dq_Sh_part_45 : decode prog_9_method_9_code 45 = .ok (.invokevirtual 109, 3) := by decide +kernel
theorem dq_Sh_part_48 : decode prog_9_method_9_code 48 = .ok (.pop, 1) := by decide +kernel
theorem dq_Sh_part_49 : decode prog_9_method_9_code 49 = .ok (.aload_n 0, 1) := by decide +kernel
theorem dq_Sh_part_50 : decode prog_9_method_9_code 50 = .ok (.getfield 12, 3) := by decide +kernel
theorem dq_Sh_part_53 : decode prog_9_method_9_code 53 = .ok (.invokevirtual 37, 3) := by decide +kernel
theorem dq_Sh_part_56 : decode prog_9_method_9_code 56 = .ok (.areturn, 1) := by decide +kernel
theorem dq_Sh_part_57 : decode prog_9_method_9_code 57 = .ok (.aload_n 0, 1) := by decide +kernel
theorem dq_Sh_part_58 : decode prog_9_method_9_code 58 = .ok (.sipush 206, 3) := by decide +kernel
theorem dq_Sh_part_61 : decode prog_9_method_9_code 61 = .ok (.aload_n 1, 1) := by decide +kernel
theorem dq_Sh_part_62 : decode prog_9_method_9_code 62 = .ok (.iload_n 2, 1) := by decide +kernel
theorem dq_Sh_part_63 : decode prog_9_method_9_code 63 = .ok (.invokevirtual 66, 3) := by decide +kernel
theorem dq_Sh_part_66 : decode prog_9_method_9_code 66 = .ok (.aload_n 0, 1) := by decide +kernel
theorem dq_Sh_part_67 : decode prog_9_method_9_code 67 = .ok (.getfield 131, 3) := by decide +kernel
theorem dq_Sh_part_70 : decode prog_9_method_9_code 70 = .ok (.iconst 1, 1) := by decide +kernel
theorem dq_Sh_part_71 : decode prog_9_method_9_code 71 = .ok (.if_icmp .ne 14, 3) := by decide +kernel
theorem dq_Sh_part_74 : decode prog_9_method_9_code 74 = .ok (.aload_n 0, 1) := by decide +kernel
theorem dq_Sh_part_75 : decode prog_9_method_9_code 75 = .ok (.aload_n 1, 1) := by decide +kernel
theorem dq_Sh_part_76 : decode prog_9_method_9_code 76 = .ok (.getfield 77, 3) := by decide +kernel
theorem dq_Sh_part_79 : decode prog_9_method_9_code 79 = .ok (.invokevirtual 138, 3) := by decide +kernel
theorem dq_Sh_part_82 : decode prog_9_method_9_code 82 = .ok (.goto 11, 3) := by decide +kernel
theorem dq_Sh_part_85 : decode prog_9_method_9_code 85 = .ok (.aload_n 0, 1) := by decide +kernel
theorem dq_Sh_part_86 : decode prog_9_method_9_code 86 = .ok (.aload_n 1, 1) := by decide +kernel
theorem dq_Sh_part_87 : decode prog_9_method_9_code 87 = .ok (.getfield 77, 3) := by decide +kernel
theorem dq_Sh_part_90 : decode prog_9_method_9_code 90 = .ok (.invokevirtual 142, 3) := by decide +kernel
theorem dq_Sh_part_93 : decode prog_9_method_9_code 93 = .ok (.aload_n 0, 1) := by decide +kernel
theorem dq_Sh_part_94 : decode prog_9_method_9_code 94 = .ok (.getfield 12, 3) := by decide +kernel
theorem dq_Sh_part_97 : decode prog_9_method_9_code 97 = .ok (.invokevirtual 37, 3) := by decide +kernel
theorem dq_Sh_part_100 : decode prog_9_method_9_code 100 = .ok (.areturn, 1) := by decide +kernel
set_option maxRecDepth 100000 in
def pq_Sh_part_93 (E : wo_E) (mc ms : Nat) (Post : Option Nat → wo_W → Prop) (G : wo_W) (c s : Nat) (x0 : Nat) : Prop := wo_ty G x0 = 4 ∧ ∀ r2 : Option Nat, r2 = wo_gr G 192 x0 → ∃ a4 : Nat, r2 = some a4 ∧ wo_ty G a4 = 5 ∧ ∃ mc6 ms7 : Nat, (c + mc6) ≤ mc ∧ (s + ms7) ≤ ms ∧ pq_SB_toString E mc6 ms7 (fun v9 G8 => 
  Post v9 G8) G a4
set_option maxRecDepth 100000 in
def pq_Sh_part_0 (E : wo_E) (mc ms : Nat) (Post : Option Nat → wo_W → Prop) (G : wo_W) (c s : Nat) (x0 : Nat) (x1 : Option Nat) (x2 : Int32) : Prop := wo_ty G x0 = 4 ∧ ((¬ (wo_gi G 195 x0) = (0 : Int32) → ∃ mc2 ms3 : Nat, (c + mc2) ≤ mc ∧ (s + ms3) ≤ ms ∧ pq_Sh_describe E mc2 ms3 (fun G4 => 
    wo_ty G4 x0 = 4 ∧ ((¬ (wo_gi G4 195 x0) = (1 : Int32) → ∃ a6 : Nat, x1 = some a6 ∧ wo_ty G4 a6 = 13 ∧ ∀ r8 : Option Nat, r8 = wo_gr G4 769 a6 → ∃ mc10 ms11 : Nat, ((c + mc2) + mc10) ≤ mc ∧ ((s + ms3) + ms11) ≤ ms ∧ pq_Sh_twoPieces E mc10 ms11 (fun G12 => 
        pq_Sh_part_93 E mc ms Post G12 ((c + mc2) + mc10) ((s + ms3) + ms11) x0) G4 x0 r8) ∧
      ((wo_gi G4 195 x0) = (1 : Int32) → ∃ a13 : Nat, x1 = some a13 ∧ wo_ty G4 a13 = 13 ∧ ∀ r15 : Option Nat, r15 = wo_gr G4 769 a13 → ∃ mc17 ms18 : Nat, ((c + mc2) + mc17) ≤ mc ∧ ((s + ms3) + ms18) ≤ ms ∧ pq_Sh_onePiece E mc17 ms18 (fun G19 => 
        pq_Sh_part_93 E mc ms Post G19 ((c + mc2) + mc17) ((s + ms3) + ms18) x0) G4 x0 r15))) G x0 (206 : Int32) x1 x2) ∧
  ((wo_gi G 195 x0) = (0 : Int32) → ∃ mc20 ms21 : Nat, (c + mc20) ≤ mc ∧ (s + ms21) ≤ ms ∧ pq_Sh_begin E mc20 ms21 (fun G22 => 
    wo_ty G22 x0 = 4 ∧ ∀ r24 : Option Nat, r24 = wo_gr G22 192 x0 → ∃ a26 : Nat, r24 = some a26 ∧ wo_ty G22 a26 = 5 ∧ ∃ mc28 ms29 : Nat, ((c + mc20) + mc28) ≤ mc ∧ ((s + ms21) + ms29) ≤ ms ∧ pq_SB_append_S E mc28 ms29 (fun v31 G30 => 
      wo_ty G30 x0 = 4 ∧ ∀ r33 : Option Nat, r33 = wo_gr G30 192 x0 → ∃ a35 : Nat, x1 = some a35 ∧ wo_ty G30 a35 = 13 ∧ ∀ r37 : Option Nat, r37 = wo_gr G30 769 a35 → ∃ a39 : Nat, r37 = some a39 ∧ wo_ty G30 a39 = 10 ∧ ∃ mc41 ms42 : Nat, (((c + mc20) + mc28) + mc41) ≤ mc ∧ (((s + ms21) + ms29) + ms42) ≤ ms ∧ pq_St_length E mc41 ms42 (fun v44 G43 => 
        ∃ a45 : Nat, r33 = some a45 ∧ wo_ty G43 a45 = 5 ∧ ∃ mc47 ms48 : Nat, ((((c + mc20) + mc28) + mc41) + mc47) ≤ mc ∧ ((((s + ms21) + ms29) + ms42) + ms48) ≤ ms ∧ pq_SB_append_I E mc47 ms48 (fun v50 G49 => 
          wo_ty G49 x0 = 4 ∧ ∀ r52 : Option Nat, r52 = wo_gr G49 192 x0 → ∃ a54 : Nat, r52 = some a54 ∧ wo_ty G49 a54 = 5 ∧ ∃ mc56 ms57 : Nat, (((((c + mc20) + mc28) + mc41) + mc47) + mc56) ≤ mc ∧ (((((s + ms21) + ms29) + ms42) + ms48) + ms57) ≤ ms ∧ pq_SB_append_S E mc56 ms57 (fun v59 G58 => 
            wo_ty G58 x0 = 4 ∧ ∀ r61 : Option Nat, r61 = wo_gr G58 192 x0 → ∃ a63 : Nat, r61 = some a63 ∧ wo_ty G58 a63 = 5 ∧ ∃ mc65 ms66 : Nat, ((((((c + mc20) + mc28) + mc41) + mc47) + mc56) + mc65) ≤ mc ∧ ((((((s + ms21) + ms29) + ms42) + ms48) + ms57) + ms66) ≤ ms ∧ pq_SB_toString E mc65 ms66 (fun v68 G67 => 
              Post v68 G67) G58 a63) G49 a54 (some (en_str E 17))) G43 a45 v44) G30 a39) G22 a26 (some (en_str E 16))) G x0 (416 : Int32)))
def pq_Sh_part (E : wo_E) (mc ms : Nat) (Post : Option Nat → wo_W → Prop) (G : wo_W) (x0 : Nat) (x1 : Option Nat) (x2 : Int32) : Prop := pq_Sh_part_0 E mc ms Post G 0 0 x0 x1 x2
set_option maxRecDepth 100000 in
set_option maxHeartbeats 4000000 in
theorem tq_Sh_part_93 {p : Program} {l : Launch} {e : Env} {R : Room} {s₀ : State} {m : MethodId} {args : Array Value} {below : List Frame} {meth : Method} {cd : Code} {E : wo_E} {mc ms : Nat} {Post : Option Nat → wo_W → Prop} (hC : wo_Cx E "EdgeCache$Sheet" prog_9_method_9_code 3 8 187 ((Option.some (Jvm.ClassFile.FieldType.object "java/lang/String"))) "part" mc ms p R s₀ m args meth cd) : ∀ {G : wo_W} {c s : Nat} {x0 : Nat}, pq_Sh_part_93 E mc ms Post G c s x0 → ∀ {H : Heap} {locs : List Loc} {ls : Array Slot}, wo_Se E G H → va_S (en_A E) s₀.heap H locs → lx_has ls 3 [(0, 1, .ref x0)] → c ≤ mc → s ≤ ms → W p l e R s₀ m args below meth cd H locs c s (MQ below (va_Qq Post (wo_B E) (en_A E)) args s₀ mc ms (en_A E)) (F0 m 93 ls []) := by
  intro G c s x0 hw H locs ls hG hS hl hcc hss
  dsimp only [pq_Sh_part_93] at hw
  have hx := hC.1
  have hb := hC.2.1
  refine lv_aload_n hx hb dq_Sh_part_93 rfl (lx_at hl 0 rfl) ?_
  obtain ⟨t1, hw⟩ := hw
  refine wo_getR hC fq_Sh_12 rfl hG t1 dq_Sh_part_94 (fun r2 e3 => ?_)
  replace hw := hw r2 e3
  obtain ⟨a4, rfl, hw⟩ := hw
  obtain ⟨t5, hw⟩ := hw
  obtain ⟨mc6, ms7, hc1, hs1, hw⟩ := hw
  refine va_callq (wo_runV hC lq_Sh_37 (mq_SB_toString hw) hG hS t5 rfl (lx_sz hl) rfl (Nat.zero_le _) (by decide) dq_Sh_part_97 ⟨hc1, hs1⟩) hS (fun _ _ h => h) (fun _ h => h) (fun v9 G8 t H locs ht hvm hw' hB _ _ hS => ?_)
  clear hw
  have hw := hw'
  clear hw'
  replace hG := wo_bk ht hB
  replace hcc := hc1
  replace hss := hs1
  exact wo_aret (x := v9) hC rfl hG hS hcc hss hw dq_Sh_part_100
set_option maxRecDepth 100000 in
set_option maxHeartbeats 4000000 in
theorem tq_Sh_part_0 {p : Program} {l : Launch} {e : Env} {R : Room} {s₀ : State} {m : MethodId} {args : Array Value} {below : List Frame} {meth : Method} {cd : Code} {E : wo_E} {mc ms : Nat} {Post : Option Nat → wo_W → Prop} (hC : wo_Cx E "EdgeCache$Sheet" prog_9_method_9_code 3 8 187 ((Option.some (Jvm.ClassFile.FieldType.object "java/lang/String"))) "part" mc ms p R s₀ m args meth cd) : ∀ {G : wo_W} {c s : Nat} {x0 : Nat} {x1 : Option Nat} {x2 : Int32}, pq_Sh_part_0 E mc ms Post G c s x0 x1 x2 → ∀ {H : Heap} {locs : List Loc} {ls : Array Slot}, wo_Se E G H → va_S (en_A E) s₀.heap H locs → lx_has ls 3 [(0, 1, .ref x0), (1, 1, va_rf x1), (2, 1, .int x2)] → c ≤ mc → s ≤ ms → W p l e R s₀ m args below meth cd H locs c s (MQ below (va_Qq Post (wo_B E) (en_A E)) args s₀ mc ms (en_A E)) (F0 m 0 ls []) := by
  intro G c s x0 x1 x2 hw H locs ls hG hS hl hcc hss
  dsimp only [pq_Sh_part_0] at hw
  have hx := hC.1
  have hb := hC.2.1
  refine lv_aload_n hx hb dq_Sh_part_0 rfl (lx_at hl 0 rfl) ?_
  obtain ⟨t1, hw⟩ := hw
  refine wo_getI hC fq_Sh_131 rfl hG t1 dq_Sh_part_1 ?_
  refine lv_if_ne (tgt := 57) hx hb dq_Sh_part_4 rfl (fun h => ?_) (fun h => ?_)
  · replace hw := hw.1 h
    refine lv_aload_n hx hb dq_Sh_part_57 rfl (lx_at hl 0 rfl) ?_
    refine lv_sipush (v := (206 : Int32)) hx hb dq_Sh_part_58 rfl ?_
    refine lx_aloadR_n hx hb dq_Sh_part_61 rfl (lx_at hl 1 rfl) ?_
    refine lv_iload_n hx hb dq_Sh_part_62 rfl (lx_at hl 2 rfl) ?_
    obtain ⟨mc2, ms3, hc1, hs1, hw⟩ := hw
    refine va_callv (wo_runV hC lq_Sh_66 (mq_Sh_describe hw) hG hS t1 rfl (lx_sz hl) rfl (Nat.zero_le _) (by decide) dq_Sh_part_63 ⟨hc1, hs1⟩) hS (fun _ _ h => h) (fun _ h => h) (fun G4 t H locs ht hvm hw' hB _ _ hS => ?_)
    clear hw
    have hw := hw'
    clear hw'
    replace hG := wo_bk ht hB
    replace hcc := hc1
    replace hss := hs1
    refine lv_aload_n hx hb dq_Sh_part_66 rfl (lx_at hl 0 rfl) ?_
    obtain ⟨t5, hw⟩ := hw
    refine wo_getI hC fq_Sh_131 rfl hG t5 dq_Sh_part_67 ?_
    refine lv_iconst (v := (1 : Int32)) hx hb dq_Sh_part_70 rfl ?_
    refine lv_icmp_ne (tgt := 85) hx hb dq_Sh_part_71 rfl (fun h => ?_) (fun h => ?_)
    · replace hw := hw.1 h
      refine lv_aload_n hx hb dq_Sh_part_85 rfl (lx_at hl 0 rfl) ?_
      refine lx_aloadR_n hx hb dq_Sh_part_86 rfl (lx_at hl 1 rfl) ?_
      obtain ⟨a6, rfl, hw⟩ := hw
      obtain ⟨t7, hw⟩ := hw
      refine wo_getR hC fq_Sh_77 rfl hG t7 dq_Sh_part_87 (fun r8 e9 => ?_)
      replace hw := hw r8 e9
      obtain ⟨mc10, ms11, hc1, hs1, hw⟩ := hw
      refine va_callv (wo_runV hC lq_Sh_142 (mq_Sh_twoPieces hw) hG hS t5 rfl (lx_sz hl) rfl (Nat.zero_le _) (by decide) dq_Sh_part_90 ⟨hc1, hs1⟩) hS (fun _ _ h => h) (fun _ h => h) (fun G12 t H locs ht hvm hw' hB _ _ hS => ?_)
      clear hw
      have hw := hw'
      clear hw'
      replace hG := wo_bk ht hB
      replace hcc := hc1
      replace hss := hs1
      exact tq_Sh_part_93 hC hw hG hS (lx_sub hl [0] rfl) hcc hss
    · replace hw := hw.2 h
      refine lv_aload_n hx hb dq_Sh_part_74 rfl (lx_at hl 0 rfl) ?_
      refine lx_aloadR_n hx hb dq_Sh_part_75 rfl (lx_at hl 1 rfl) ?_
      obtain ⟨a13, rfl, hw⟩ := hw
      obtain ⟨t14, hw⟩ := hw
      refine wo_getR hC fq_Sh_77 rfl hG t14 dq_Sh_part_76 (fun r15 e16 => ?_)
      replace hw := hw r15 e16
      obtain ⟨mc17, ms18, hc1, hs1, hw⟩ := hw
      refine va_callv (wo_runV hC lq_Sh_138 (mq_Sh_onePiece hw) hG hS t5 rfl (lx_sz hl) rfl (Nat.zero_le _) (by decide) dq_Sh_part_79 ⟨hc1, hs1⟩) hS (fun _ _ h => h) (fun _ h => h) (fun G19 t H locs ht hvm hw' hB _ _ hS => ?_)
      clear hw
      have hw := hw'
      clear hw'
      replace hG := wo_bk ht hB
      replace hcc := hc1
      replace hss := hs1
      refine lv_goto (tgt := 93) hx hb dq_Sh_part_82 rfl ?_
      exact tq_Sh_part_93 hC hw hG hS (lx_sub hl [0] rfl) hcc hss
  · replace hw := hw.2 h
    refine lv_aload_n hx hb dq_Sh_part_7 rfl (lx_at hl 0 rfl) ?_
    refine lv_sipush (v := (416 : Int32)) hx hb dq_Sh_part_8 rfl ?_
    obtain ⟨mc20, ms21, hc1, hs1, hw⟩ := hw
    refine va_callv (wo_runV hC lq_Sh_25 (mq_Sh_begin hw) hG hS t1 rfl (lx_sz hl) rfl (Nat.zero_le _) (by decide) dq_Sh_part_11 ⟨hc1, hs1⟩) hS (fun _ _ h => h) (fun _ h => h) (fun G22 t H locs ht hvm hw' hB _ _ hS => ?_)
    clear hw
    have hw := hw'
    clear hw'
    replace hG := wo_bk ht hB
    replace hcc := hc1
    replace hss := hs1
    refine lv_aload_n hx hb dq_Sh_part_14 rfl (lx_at hl 0 rfl) ?_
    obtain ⟨t23, hw⟩ := hw
    refine wo_getR hC fq_Sh_12 rfl hG t23 dq_Sh_part_15 (fun r24 e25 => ?_)
    replace hw := hw r24 e25
    refine wo_ldcS hC gq_Sh_134 dq_Sh_part_18 ?_
    obtain ⟨a26, rfl, hw⟩ := hw
    obtain ⟨t27, hw⟩ := hw
    obtain ⟨mc28, ms29, hc1, hs1, hw⟩ := hw
    refine va_callq (wo_runV hC lq_Sh_109 (mq_SB_append_S hw) hG hS t27 rfl (lx_sz hl) rfl (Nat.zero_le _) (by decide) dq_Sh_part_20 ⟨hc1, hs1⟩) hS (fun _ _ h => h) (fun _ h => h) (fun v31 G30 t H locs ht hvm hw' hB _ _ hS => ?_)
    clear hw
    have hw := hw'
    clear hw'
    replace hG := wo_bk ht hB
    replace hcc := hc1
    replace hss := hs1
    refine lv_pop hx hb dq_Sh_part_23 (lx_cR _) ?_
    refine lv_aload_n hx hb dq_Sh_part_24 rfl (lx_at hl 0 rfl) ?_
    obtain ⟨t32, hw⟩ := hw
    refine wo_getR hC fq_Sh_12 rfl hG t32 dq_Sh_part_25 (fun r33 e34 => ?_)
    replace hw := hw r33 e34
    refine lx_aloadR_n hx hb dq_Sh_part_28 rfl (lx_at hl 1 rfl) ?_
    obtain ⟨a35, rfl, hw⟩ := hw
    obtain ⟨t36, hw⟩ := hw
    refine wo_getR hC fq_Sh_77 rfl hG t36 dq_Sh_part_29 (fun r37 e38 => ?_)
    replace hw := hw r37 e38
    obtain ⟨a39, rfl, hw⟩ := hw
    obtain ⟨t40, hw⟩ := hw
    obtain ⟨mc41, ms42, hc1, hs1, hw⟩ := hw
    refine va_calli (wo_runV hC lq_Sh_80 (mq_St_length hw) hG hS t40 rfl (lx_sz hl) rfl (lx_rm (Nat.le_of_ble_eq_true rfl)) (by decide) dq_Sh_part_32 ⟨hc1, hs1⟩) hS (fun _ _ h => h) (fun _ h => h) (fun v44 G43 t H locs ht hvm hw' hB _ _ hS => ?_)
    clear hw
    have hw := hw'
    clear hw'
    replace hG := wo_bk ht hB
    replace hcc := hc1
    replace hss := hs1
    obtain ⟨a45, rfl, hw⟩ := hw
    obtain ⟨t46, hw⟩ := hw
    obtain ⟨mc47, ms48, hc1, hs1, hw⟩ := hw
    refine va_callq (wo_runV hC lq_Sh_104 (mq_SB_append_I hw) hG hS t46 rfl (lx_sz hl) rfl (Nat.zero_le _) (by decide) dq_Sh_part_35 ⟨hc1, hs1⟩) hS (fun _ _ h => h) (fun _ h => h) (fun v50 G49 t H locs ht hvm hw' hB _ _ hS => ?_)
    clear hw
    have hw := hw'
    clear hw'
    replace hG := wo_bk ht hB
    replace hcc := hc1
    replace hss := hs1
    refine lv_pop hx hb dq_Sh_part_38 (lx_cR _) ?_
    refine lv_aload_n hx hb dq_Sh_part_39 rfl (lx_at hl 0 rfl) ?_
    obtain ⟨t51, hw⟩ := hw
    refine wo_getR hC fq_Sh_12 rfl hG t51 dq_Sh_part_40 (fun r52 e53 => ?_)
    replace hw := hw r52 e53
    refine wo_ldcS hC gq_Sh_136 dq_Sh_part_43 ?_
    obtain ⟨a54, rfl, hw⟩ := hw
    obtain ⟨t55, hw⟩ := hw
    obtain ⟨mc56, ms57, hc1, hs1, hw⟩ := hw
    refine va_callq (wo_runV hC lq_Sh_109 (mq_SB_append_S hw) hG hS t55 rfl (lx_sz hl) rfl (Nat.zero_le _) (by decide) dq_Sh_part_45 ⟨hc1, hs1⟩) hS (fun _ _ h => h) (fun _ h => h) (fun v59 G58 t H locs ht hvm hw' hB _ _ hS => ?_)
    clear hw
    have hw := hw'
    clear hw'
    replace hG := wo_bk ht hB
    replace hcc := hc1
    replace hss := hs1
    refine lv_pop hx hb dq_Sh_part_48 (lx_cR _) ?_
    refine lv_aload_n hx hb dq_Sh_part_49 rfl (lx_at hl 0 rfl) ?_
    obtain ⟨t60, hw⟩ := hw
    refine wo_getR hC fq_Sh_12 rfl hG t60 dq_Sh_part_50 (fun r61 e62 => ?_)
    replace hw := hw r61 e62
    obtain ⟨a63, rfl, hw⟩ := hw
    obtain ⟨t64, hw⟩ := hw
    obtain ⟨mc65, ms66, hc1, hs1, hw⟩ := hw
    refine va_callq (wo_runV hC lq_Sh_37 (mq_SB_toString hw) hG hS t64 rfl (lx_sz hl) rfl (Nat.zero_le _) (by decide) dq_Sh_part_53 ⟨hc1, hs1⟩) hS (fun _ _ h => h) (fun _ h => h) (fun v68 G67 t H locs ht hvm hw' hB _ _ hS => ?_)
    clear hw
    have hw := hw'
    clear hw'
    replace hG := wo_bk ht hB
    replace hcc := hc1
    replace hss := hs1
    exact wo_aret (x := v68) hC rfl hG hS hcc hss hw dq_Sh_part_56
set_option maxHeartbeats 4000000 in
theorem mq_Sh_part {l : Launch} {E : wo_E} {mc ms : Nat} {Post : Option Nat → wo_W → Prop} {G : wo_W} {x0 : Nat} {x1 : Option Nat} {x2 : Int32} (hw : pq_Sh_part E mc ms Post G x0 x1 x2) : Met l yq_Sh_part (Cond.code yq_Sh_part prog_9_method_9_code 3 ((Option.some (Jvm.ClassFile.FieldType.object "java/lang/String"))) :: vw_WG) { frames := 8, cells := mc, slots := ms, locals := 187 } (va_Pc [.ref x0, va_rf x1, .int x2] (wo_Ok E G)) (va_Qq Post (wo_B E) (en_A E)) mc ms (en_A E) := by
  unfold pq_Sh_part at hw
  exact wo_met [(1, .ref x0), (1, va_rf x1), (1, .int x2)] rfl (by decide) (fun q hq => by simp only [List.mem_cons, List.not_mem_nil, or_false] at hq; rcases hq with rfl | rfl | rfl <;> first | rfl | exact lx_cR _) (Nat.le_of_ble_eq_true rfl) (fun p e R s m args below meth cd ls hC hG hS hl => tq_Sh_part_0 hC hw hG hS (lx_sub hl [0, 1, 2] rfl) (Nat.zero_le _) (Nat.zero_le _))

theorem dq_Sh_notePiece_0 : decode prog_9_method_16_code 0 = .ok (.iload_n 1, 1) := by decide +kernel
theorem dq_Sh_notePiece_1 : decode prog_9_method_16_code 1 = .ok (.iload_n 2, 1) := by decide +kernel
theorem dq_Sh_notePiece_2 : decode prog_9_method_16_code 2 = .ok (.if_icmp .gt 41, 3) := by decide +kernel
theorem dq_Sh_notePiece_5 : decode prog_9_method_16_code 5 = .ok (.aload_n 0, 1) := by decide +kernel
theorem dq_Sh_notePiece_6 : decode prog_9_method_16_code 6 = .ok (.getfield 131, 3) := by decide +kernel
theorem dq_Sh_notePiece_9 : decode prog_9_method_16_code 9 = .ok (.iconst 2, 1) := by decide +kernel
theorem dq_Sh_notePiece_10 : decode prog_9_method_16_code 10 = .ok (.if_icmp .ge 33, 3) := by decide +kernel
theorem dq_Sh_notePiece_13 : decode prog_9_method_16_code 13 = .ok (.aload_n 0, 1) := by decide +kernel
theorem dq_Sh_notePiece_14 : decode prog_9_method_16_code 14 = .ok (.getfield 18, 3) := by decide +kernel
theorem dq_Sh_notePiece_17 : decode prog_9_method_16_code 17 = .ok (.aload_n 0, 1) := by decide +kernel
theorem dq_Sh_notePiece_18 : decode prog_9_method_16_code 18 = .ok (.getfield 131, 3) := by decide +kernel
theorem dq_Sh_notePiece_21 : decode prog_9_method_16_code 21 = .ok (.iload_n 1, 1) := by decide +kernel
theorem dq_Sh_notePiece_22 : decode prog_9_method_16_code 22 = .ok (.iastore, 1) := by decide +kernel
theorem dq_Sh_notePiece_23 : decode prog_9_method_16_code 23 = .ok (.aload_n 0, 1) := by decide +kernel
theorem dq_Sh_notePiece_24 : decode prog_9_method_16_code 24 = .ok (.getfield 22, 3) := by decide +kernel
theorem dq_Sh_notePiece_27 : decode prog_9_method_16_code 27 = .ok (.aload_n 0, 1) := by decide +kernel
theorem dq_Sh_notePiece_28 : decode prog_9_method_16_code 28 = .ok (.getfield 131, 3) := by decide +kernel
theorem dq_Sh_notePiece_31 : decode prog_9_method_16_code 31 = .ok (.iload_n 2, 1) := by decide +kernel
theorem dq_Sh_notePiece_32 : decode prog_9_method_16_code 32 = .ok (.iastore, 1) := by decide +kernel
theorem dq_Sh_notePiece_33 : decode prog_9_method_16_code 33 = .ok (.aload_n 0, 1) := by decide +kernel
theorem dq_Sh_notePiece_34 : decode prog_9_method_16_code 34 = .ok (.dup, 1) := by decide +kernel
theorem dq_Sh_notePiece_35 : decode prog_9_method_16_code 35 = .ok (.getfield 131, 3) := by decide +kernel
theorem dq_Sh_notePiece_38 : decode prog_9_method_16_code 38 = .ok (.iconst 1, 1) := by decide +kernel
theorem dq_Sh_notePiece_39 : decode prog_9_method_16_code 39 = .ok (.iadd, 1) := by decide +kernel
theorem dq_Sh_notePiece_40 : decode prog_9_method_16_code 40 = .ok (.putfield 131, 3) := by decide +kernel
theorem dq_Sh_notePiece_43 : decode prog_9_method_16_code 43 = .ok (.return_, 1) := by decide +kernel
set_option maxRecDepth 100000 in
def pq_Sh_notePiece_43 (E : wo_E) (mc ms : Nat) (Post : wo_W → Prop) (G : wo_W) (c s : Nat) : Prop := Post G
set_option maxRecDepth 100000 in
def pq_Sh_notePiece_0 (E : wo_E) (mc ms : Nat) (Post : wo_W → Prop) (G : wo_W) (c s : Nat) (x0 : Nat) (x1 : Int32) (x2 : Int32) : Prop := ((x2 < x1 → pq_Sh_notePiece_43 E mc ms Post G c s) ∧
  (¬ x2 < x1 → wo_ty G x0 = 4 ∧ (((2 : Int32) ≤ (wo_gi G 195 x0) → pq_Sh_notePiece_43 E mc ms Post G c s) ∧
    (¬ (2 : Int32) ≤ (wo_gi G 195 x0) → ∀ r2 : Option Nat, r2 = wo_gr G 193 x0 → ∃ a4 : Nat, r2 = some a4 ∧ wo_ty G a4 = 66 ∧ vp_in (wo_gi G 195 x0) (wo_len G a4) ∧ en_bs E ≤ a4 ∧ ∀ G8 : wo_W, G8 = wo_sei G a4 (wo_gi G 195 x0).toNatClampNeg x1 → 
      ∀ r10 : Option Nat, r10 = wo_gr G8 194 x0 → ∃ a12 : Nat, r10 = some a12 ∧ wo_ty G8 a12 = 66 ∧ vp_in (wo_gi G8 195 x0) (wo_len G8 a12) ∧ en_bs E ≤ a12 ∧ ∀ G16 : wo_W, G16 = wo_sei G8 a12 (wo_gi G8 195 x0).toNatClampNeg x2 → 
      en_bs E ≤ x0 ∧ ∀ G19 : wo_W, G19 = wo_si G16 195 x0 ((wo_gi G16 195 x0) + (1 : Int32)) → 
      pq_Sh_notePiece_43 E mc ms Post G19 c s))))
def pq_Sh_notePiece (E : wo_E) (mc ms : Nat) (Post : wo_W → Prop) (G : wo_W) (x0 : Nat) (x1 : Int32) (x2 : Int32) : Prop := pq_Sh_notePiece_0 E mc ms Post G 0 0 x0 x1 x2
set_option maxRecDepth 100000 in
set_option maxHeartbeats 4000000 in
theorem tq_Sh_notePiece_43 {p : Program} {l : Launch} {e : Env} {R : Room} {s₀ : State} {m : MethodId} {args : Array Value} {below : List Frame} {meth : Method} {cd : Code} {E : wo_E} {mc ms : Nat} {Post : wo_W → Prop} (hC : wo_Cx E "EdgeCache$Sheet" prog_9_method_16_code 3 0 0 ((Option.none : Option Jvm.ClassFile.FieldType)) "notePiece" mc ms p R s₀ m args meth cd) : ∀ {G : wo_W} {c s : Nat}, pq_Sh_notePiece_43 E mc ms Post G c s → ∀ {H : Heap} {locs : List Loc} {ls : Array Slot}, wo_Se E G H → va_S (en_A E) s₀.heap H locs → lx_has ls 3 [] → c ≤ mc → s ≤ ms → W p l e R s₀ m args below meth cd H locs c s (MQ below (va_Qv Post (wo_B E) (en_A E)) args s₀ mc ms (en_A E)) (F0 m 43 ls []) := by
  intro G c s hw H locs ls hG hS hl hcc hss
  dsimp only [pq_Sh_notePiece_43] at hw
  have hx := hC.1
  have hb := hC.2.1
  exact wo_vret hC hG hS hcc hss hw dq_Sh_notePiece_43
set_option maxRecDepth 100000 in
set_option maxHeartbeats 4000000 in
theorem tq_Sh_notePiece_0 {p : Program} {l : Launch} {e : Env} {R : Room} {s₀ : State} {m : MethodId} {args : Array Value} {below : List Frame} {meth : Method} {cd : Code} {E : wo_E} {mc ms : Nat} {Post : wo_W → Prop} (hC : wo_Cx E "EdgeCache$Sheet" prog_9_method_16_code 3 0 0 ((Option.none : Option Jvm.ClassFile.FieldType)) "notePiece" mc ms p R s₀ m args meth cd) : ∀ {G : wo_W} {c s : Nat} {x0 : Nat} {x1 : Int32} {x2 : Int32}, pq_Sh_notePiece_0 E mc ms Post G c s x0 x1 x2 → ∀ {H : Heap} {locs : List Loc} {ls : Array Slot}, wo_Se E G H → va_S (en_A E) s₀.heap H locs → lx_has ls 3 [(0, 1, .ref x0), (1, 1, .int x1), (2, 1, .int x2)] → c ≤ mc → s ≤ ms → W p l e R s₀ m args below meth cd H locs c s (MQ below (va_Qv Post (wo_B E) (en_A E)) args s₀ mc ms (en_A E)) (F0 m 0 ls []) := by
  intro G c s x0 x1 x2 hw H locs ls hG hS hl hcc hss
  dsimp only [pq_Sh_notePiece_0] at hw
  have hx := hC.1
  have hb := hC.2.1
  refine lv_iload_n hx hb dq_Sh_notePiece_0 rfl (lx_at hl 1 rfl) ?_
  refine lv_iload_n hx hb dq_Sh_notePiece_1 rfl (lx_at hl 2 rfl) ?_
  refine lv_icmp_gt (tgt := 43) hx hb dq_Sh_notePiece_2 rfl (fun h => ?_) (fun h => ?_)
  · replace hw := hw.1 h
    exact tq_Sh_notePiece_43 hC hw hG hS (lx_sub hl [] rfl) hcc hss
  · replace hw := hw.2 h
    refine lv_aload_n hx hb dq_Sh_notePiece_5 rfl (lx_at hl 0 rfl) ?_
    obtain ⟨t1, hw⟩ := hw
    refine wo_getI hC fq_Sh_131 rfl hG t1 dq_Sh_notePiece_6 ?_
    refine lv_iconst (v := (2 : Int32)) hx hb dq_Sh_notePiece_9 rfl ?_
    refine lv_icmp_ge (tgt := 43) hx hb dq_Sh_notePiece_10 rfl (fun h => ?_) (fun h => ?_)
    · replace hw := hw.1 h
      exact tq_Sh_notePiece_43 hC hw hG hS (lx_sub hl [] rfl) hcc hss
    · replace hw := hw.2 h
      refine lv_aload_n hx hb dq_Sh_notePiece_13 rfl (lx_at hl 0 rfl) ?_
      refine wo_getR hC fq_Sh_18 rfl hG t1 dq_Sh_notePiece_14 (fun r2 e3 => ?_)
      replace hw := hw r2 e3
      refine lv_aload_n hx hb dq_Sh_notePiece_17 rfl (lx_at hl 0 rfl) ?_
      refine wo_getI hC fq_Sh_131 rfl hG t1 dq_Sh_notePiece_18 ?_
      refine lv_iload_n hx hb dq_Sh_notePiece_21 rfl (lx_at hl 1 rfl) ?_
      obtain ⟨a4, rfl, hw⟩ := hw
      obtain ⟨t5, hw⟩ := hw
      obtain ⟨h6, hw⟩ := hw
      obtain ⟨h7, hw⟩ := hw
      refine wo_iast (j := 2) hC rfl hG hS t5 h6 h7 dq_Sh_notePiece_22 (fun G8 H locs e9 hG hS => ?_)
      replace hw := hw G8 e9
      refine lv_aload_n hx hb dq_Sh_notePiece_23 rfl (lx_at hl 0 rfl) ?_
      refine wo_getR hC fq_Sh_22 rfl hG (ty_sei e9 t1) dq_Sh_notePiece_24 (fun r10 e11 => ?_)
      replace hw := hw r10 e11
      refine lv_aload_n hx hb dq_Sh_notePiece_27 rfl (lx_at hl 0 rfl) ?_
      refine wo_getI hC fq_Sh_131 rfl hG (ty_sei e9 t1) dq_Sh_notePiece_28 ?_
      refine lv_iload_n hx hb dq_Sh_notePiece_31 rfl (lx_at hl 2 rfl) ?_
      obtain ⟨a12, rfl, hw⟩ := hw
      obtain ⟨t13, hw⟩ := hw
      obtain ⟨h14, hw⟩ := hw
      obtain ⟨h15, hw⟩ := hw
      refine wo_iast (j := 2) hC rfl hG hS t13 h14 h15 dq_Sh_notePiece_32 (fun G16 H locs e17 hG hS => ?_)
      replace hw := hw G16 e17
      refine lv_aload_n hx hb dq_Sh_notePiece_33 rfl (lx_at hl 0 rfl) ?_
      refine lv_dup hx hb dq_Sh_notePiece_34 rfl ?_
      refine wo_getI hC fq_Sh_131 rfl hG (ty_sei e17 (ty_sei e9 t1)) dq_Sh_notePiece_35 ?_
      refine lv_iconst (v := (1 : Int32)) hx hb dq_Sh_notePiece_38 rfl ?_
      refine lv_iadd hx hb dq_Sh_notePiece_39 ?_
      obtain ⟨h18, hw⟩ := hw
      refine wo_putI hC fq_Sh_131 (Or.inl rfl) rfl (wo_ok_int _) hG hS (ty_sei e17 (ty_sei e9 t1)) h18 dq_Sh_notePiece_40 (fun G19 H locs e20 hG hS => ?_)
      replace hw := hw G19 e20
      exact tq_Sh_notePiece_43 hC hw hG hS (lx_sub hl [] rfl) hcc hss
set_option maxHeartbeats 4000000 in
theorem mq_Sh_notePiece {l : Launch} {E : wo_E} {mc ms : Nat} {Post : wo_W → Prop} {G : wo_W} {x0 : Nat} {x1 : Int32} {x2 : Int32} (hw : pq_Sh_notePiece E mc ms Post G x0 x1 x2) : Met l yq_Sh_notePiece (Cond.code yq_Sh_notePiece prog_9_method_16_code 3 ((Option.none : Option Jvm.ClassFile.FieldType)) :: vw_WG) { frames := 0, cells := mc, slots := ms, locals := 0 } (va_Pc [.ref x0, .int x1, .int x2] (wo_Ok E G)) (va_Qv Post (wo_B E) (en_A E)) mc ms (en_A E) := by
  unfold pq_Sh_notePiece at hw
  exact wo_met [(1, .ref x0), (1, .int x1), (1, .int x2)] rfl (by decide) (fun q hq => by simp only [List.mem_cons, List.not_mem_nil, or_false] at hq; rcases hq with rfl | rfl | rfl <;> first | rfl | exact lx_cR _) (Nat.le_of_ble_eq_true rfl) (fun p e R s m args below meth cd ls hC hG hS hl => tq_Sh_notePiece_0 hC hw hG hS (lx_sub hl [0, 1, 2] rfl) (Nat.zero_le _) (Nat.zero_le _))

theorem dq_La_canEncode_I_0 : decode prog_24_method_4_code 0 = .ok (.iload_n 0, 1) := by decide +kernel
theorem dq_La_canEncode_I_1 : decode prog_24_method_4_code 1 = .ok (.ifCond .lt 14, 3) := by decide +kernel
theorem dq_La_canEncode_I_4 : decode prog_24_method_4_code 4 = .ok (.iload_n 0, 1) := by decide +kernel
theorem dq_La_canEncode_I_5 : decode prog_24_method_4_code 5 = .ok (.sipush 255, 3) := by decide +kernel
theorem dq_La_canEncode_I_8 : decode prog_24_method_4_code 8 = .ok (.if_icmp .gt 7, 3) := by decide +kernel
theorem dq_La_canEncode_I_11 : decode prog_24_method_4_code 11 = .ok (.iconst 1, 1) := by decide +kernel
theorem dq_La_canEncode_I_12 : decode prog_24_method_4_code 12 = .ok (.goto 4, 3) := by decide +kernel
theorem dq_La_canEncode_I_15 : decode prog_24_method_4_code 15 = .ok (.iconst 0, 1) := by decide +kernel
theorem dq_La_canEncode_I_16 : decode prog_24_method_4_code 16 = .ok (.ireturn, 1) := by decide +kernel
set_option maxRecDepth 100000 in
def pq_La_canEncode_I_16 (E : wo_E) (mc ms : Nat) (Post : Int32 → wo_W → Prop) (G : wo_W) (c s : Nat) (y0 : Int32) : Prop := wo_okI .boolean y0 ∧ Post y0 G
set_option maxRecDepth 100000 in
def pq_La_canEncode_I_15 (E : wo_E) (mc ms : Nat) (Post : Int32 → wo_W → Prop) (G : wo_W) (c s : Nat) : Prop := pq_La_canEncode_I_16 E mc ms Post G c s (0 : Int32)
set_option maxRecDepth 100000 in
def pq_La_canEncode_I_0 (E : wo_E) (mc ms : Nat) (Post : Int32 → wo_W → Prop) (G : wo_W) (c s : Nat) (x0 : Int32) : Prop := ((x0 < (0 : Int32) → pq_La_canEncode_I_15 E mc ms Post G c s) ∧
  (¬ x0 < (0 : Int32) → (((255 : Int32) < x0 → pq_La_canEncode_I_15 E mc ms Post G c s) ∧
    (¬ (255 : Int32) < x0 → pq_La_canEncode_I_16 E mc ms Post G c s (1 : Int32)))))
def pq_La_canEncode_I (E : wo_E) (mc ms : Nat) (Post : Int32 → wo_W → Prop) (G : wo_W) (x0 : Int32) : Prop := pq_La_canEncode_I_0 E mc ms Post G 0 0 x0
set_option maxRecDepth 100000 in
set_option maxHeartbeats 4000000 in
theorem tq_La_canEncode_I_16 {p : Program} {l : Launch} {e : Env} {R : Room} {s₀ : State} {m : MethodId} {args : Array Value} {below : List Frame} {meth : Method} {cd : Code} {E : wo_E} {mc ms : Nat} {Post : Int32 → wo_W → Prop} (hC : wo_Cx E "java/lang/StringLatin1" prog_24_method_4_code 1 0 0 ((Option.some Jvm.ClassFile.FieldType.boolean)) "canEncode" mc ms p R s₀ m args meth cd) : ∀ {G : wo_W} {c s : Nat} {y0 : Int32}, pq_La_canEncode_I_16 E mc ms Post G c s y0 → ∀ {H : Heap} {locs : List Loc} {ls : Array Slot}, wo_Se E G H → va_S (en_A E) s₀.heap H locs → lx_has ls 1 [] → c ≤ mc → s ≤ ms → W p l e R s₀ m args below meth cd H locs c s (MQ below (va_Qi Post (wo_B E) (en_A E)) args s₀ mc ms (en_A E)) (F0 m 16 ls [.int y0]) := by
  intro G c s y0 hw H locs ls hG hS hl hcc hss
  dsimp only [pq_La_canEncode_I_16] at hw
  have hx := hC.1
  have hb := hC.2.1
  obtain ⟨h1, hw⟩ := hw
  exact wo_zret hC h1.1 hG hS hcc hss hw dq_La_canEncode_I_16
set_option maxRecDepth 100000 in
set_option maxHeartbeats 4000000 in
theorem tq_La_canEncode_I_15 {p : Program} {l : Launch} {e : Env} {R : Room} {s₀ : State} {m : MethodId} {args : Array Value} {below : List Frame} {meth : Method} {cd : Code} {E : wo_E} {mc ms : Nat} {Post : Int32 → wo_W → Prop} (hC : wo_Cx E "java/lang/StringLatin1" prog_24_method_4_code 1 0 0 ((Option.some Jvm.ClassFile.FieldType.boolean)) "canEncode" mc ms p R s₀ m args meth cd) : ∀ {G : wo_W} {c s : Nat}, pq_La_canEncode_I_15 E mc ms Post G c s → ∀ {H : Heap} {locs : List Loc} {ls : Array Slot}, wo_Se E G H → va_S (en_A E) s₀.heap H locs → lx_has ls 1 [] → c ≤ mc → s ≤ ms → W p l e R s₀ m args below meth cd H locs c s (MQ below (va_Qi Post (wo_B E) (en_A E)) args s₀ mc ms (en_A E)) (F0 m 15 ls []) := by
  intro G c s hw H locs ls hG hS hl hcc hss
  dsimp only [pq_La_canEncode_I_15] at hw
  have hx := hC.1
  have hb := hC.2.1
  refine lv_iconst (v := (0 : Int32)) hx hb dq_La_canEncode_I_15 rfl ?_
  exact tq_La_canEncode_I_16 hC hw hG hS (lx_sub hl [] rfl) hcc hss
set_option maxRecDepth 100000 in
set_option maxHeartbeats 4000000 in
theorem tq_La_canEncode_I_0 {p : Program} {l : Launch} {e : Env} {R : Room} {s₀ : State} {m : MethodId} {args : Array Value} {below : List Frame} {meth : Method} {cd : Code} {E : wo_E} {mc ms : Nat} {Post : Int32 → wo_W → Prop} (hC : wo_Cx E "java/lang/StringLatin1" prog_24_method_4_code 1 0 0 ((Option.some Jvm.ClassFile.FieldType.boolean)) "canEncode" mc ms p R s₀ m args meth cd) : ∀ {G : wo_W} {c s : Nat} {x0 : Int32}, pq_La_canEncode_I_0 E mc ms Post G c s x0 → ∀ {H : Heap} {locs : List Loc} {ls : Array Slot}, wo_Se E G H → va_S (en_A E) s₀.heap H locs → lx_has ls 1 [(0, 1, .int x0)] → c ≤ mc → s ≤ ms → W p l e R s₀ m args below meth cd H locs c s (MQ below (va_Qi Post (wo_B E) (en_A E)) args s₀ mc ms (en_A E)) (F0 m 0 ls []) := by
  intro G c s x0 hw H locs ls hG hS hl hcc hss
  dsimp only [pq_La_canEncode_I_0] at hw
  have hx := hC.1
  have hb := hC.2.1
  refine lv_iload_n hx hb dq_La_canEncode_I_0 rfl (lx_at hl 0 rfl) ?_
  refine lv_if_lt (tgt := 15) hx hb dq_La_canEncode_I_1 rfl (fun h => ?_) (fun h => ?_)
  · replace hw := hw.1 h
    exact tq_La_canEncode_I_15 hC hw hG hS (lx_sub hl [] rfl) hcc hss
  · replace hw := hw.2 h
    refine lv_iload_n hx hb dq_La_canEncode_I_4 rfl (lx_at hl 0 rfl) ?_
    refine lv_sipush (v := (255 : Int32)) hx hb dq_La_canEncode_I_5 rfl ?_
    refine lv_icmp_gt (tgt := 15) hx hb dq_La_canEncode_I_8 rfl (fun h => ?_) (fun h => ?_)
    · replace hw := hw.1 h
      exact tq_La_canEncode_I_15 hC hw hG hS (lx_sub hl [] rfl) hcc hss
    · replace hw := hw.2 h
      refine lv_iconst (v := (1 : Int32)) hx hb dq_La_canEncode_I_11 rfl ?_
      refine lv_goto (tgt := 16) hx hb dq_La_canEncode_I_12 rfl ?_
      exact tq_La_canEncode_I_16 hC hw hG hS (lx_sub hl [] rfl) hcc hss
set_option maxHeartbeats 4000000 in
theorem mq_La_canEncode_I {l : Launch} {E : wo_E} {mc ms : Nat} {Post : Int32 → wo_W → Prop} {G : wo_W} {x0 : Int32} (hw : pq_La_canEncode_I E mc ms Post G x0) : Met l yq_La_canEncode_I (Cond.code yq_La_canEncode_I prog_24_method_4_code 1 ((Option.some Jvm.ClassFile.FieldType.boolean)) :: vw_WG) { frames := 0, cells := mc, slots := ms, locals := 0 } (va_Pc [.int x0] (wo_Ok E G)) (va_Qi Post (wo_B E) (en_A E)) mc ms (en_A E) := by
  unfold pq_La_canEncode_I at hw
  exact wo_met [(1, .int x0)] rfl (by decide) (fun q hq => by simp only [List.mem_cons, List.not_mem_nil, or_false] at hq; rcases hq with rfl <;> first | rfl | exact lx_cR _) (Nat.le_of_ble_eq_true rfl) (fun p e R s m args below meth cd ls hC hG hS hl => tq_La_canEncode_I_0 hC hw hG hS (lx_sub hl [0] rfl) (Nat.zero_le _) (Nat.zero_le _))

theorem dq_La_indexOfChar_0 : decode prog_24_method_23_code 0 = .ok (.iload_n 1, 1) := by decide +kernel
theorem dq_La_indexOfChar_1 : decode prog_24_method_23_code 1 = .ok (.i2b, 1) := by decide +kernel
theorem dq_La_indexOfChar_2 : decode prog_24_method_23_code 2 = .ok (.istore 4, 2) := by decide +kernel
theorem dq_La_indexOfChar_4 : decode prog_24_method_23_code 4 = .ok (.iload_n 2, 1) := by decide +kernel
theorem dq_La_indexOfChar_5 : decode prog_24_method_23_code 5 = .ok (.istore 5, 2) := by decide +kernel
theorem dq_La_indexOfChar_7 : decode prog_24_method_23_code 7 = .ok (.iload 5, 2) := by decide +kernel
theorem dq_La_indexOfChar_9 : decode prog_24_method_23_code 9 = .ok (.iload_n 3, 1) := by decide +kernel
theorem dq_La_indexOfChar_10 : decode prog_24_method_23_code 10 = .ok (.if_icmp .ge 21, 3) := by decide +kernel
theorem dq_La_indexOfChar_13 : decode prog_24_method_23_code 13 = .ok (.aload_n 0, 1) := by decide +kernel
theorem dq_La_indexOfChar_14 : decode prog_24_method_23_code 14 = .ok (.iload 5, 2) := by decide +kernel
theorem dq_La_indexOfChar_16 : decode prog_24_method_23_code 16 = .ok (.baload, 1) := by decide +kernel
theorem dq_La_indexOfChar_17 : decode prog_24_method_23_code 17 = .ok (.iload 4, 2) := by decide +kernel
theorem dq_La_indexOfChar_19 : decode prog_24_method_23_code 19 = .ok (.if_icmp .ne 6, 3) := by decide +kernel
theorem dq_La_indexOfChar_22 : decode prog_24_method_23_code 22 = .ok (.iload 5, 2) := by decide +kernel
theorem dq_La_indexOfChar_24 : decode prog_24_method_23_code 24 = .ok (.ireturn, 1) := by decide +kernel
theorem dq_La_indexOfChar_25 : decode prog_24_method_23_code 25 = .ok (.iinc 5 1, 3) := by decide +kernel
theorem dq_La_indexOfChar_28 : decode prog_24_method_23_code 28 = .ok (.goto (-21), 3) := by decide +kernel
theorem dq_La_indexOfChar_31 : decode prog_24_method_23_code 31 = .ok (.iconst (-1), 1) := by decide +kernel
theorem dq_La_indexOfChar_32 : decode prog_24_method_23_code 32 = .ok (.ireturn, 1) := by decide +kernel
set_option maxRecDepth 100000 in
def pq_La_indexOfChar_7 (E : wo_E) (mc ms : Nat) (Post : Int32 → wo_W → Prop) : Nat → wo_W → Nat → Nat → Option Nat → Int32 → Int32 → Int32 → Prop
  | 0 => fun _ _ _ _ _ _ _ => False
  | n + 1 => fun G c s x0 x3 x4 x5 => ((x3 ≤ x5 → Post (-1 : Int32) G) ∧
  (¬ x3 ≤ x5 → ∃ a1 : Nat, x0 = some a1 ∧ wo_ty G a1 = 65 ∧ vp_in x5 (wo_len G a1) ∧ ((¬ (wo_ei G a1 x5.toNatClampNeg) = x4 → pq_La_indexOfChar_7 E mc ms Post n G c s (some a1) x3 x4 (x5 + (1 : Int32))) ∧
    ((wo_ei G a1 x5.toNatClampNeg) = x4 → Post x5 G))))
set_option maxRecDepth 100000 in
def pq_La_indexOfChar_0 (E : wo_E) (mc ms : Nat) (Post : Int32 → wo_W → Prop) (G : wo_W) (c s : Nat) (x0 : Option Nat) (x1 : Int32) (x2 : Int32) (x3 : Int32) : Prop := ∃ n1 : Nat, pq_La_indexOfChar_7 E mc ms Post n1 G c s x0 x3 x1.toInt8.toInt32 x2
def pq_La_indexOfChar (E : wo_E) (mc ms : Nat) (Post : Int32 → wo_W → Prop) (G : wo_W) (x0 : Option Nat) (x1 : Int32) (x2 : Int32) (x3 : Int32) : Prop := pq_La_indexOfChar_0 E mc ms Post G 0 0 x0 x1 x2 x3
set_option maxRecDepth 100000 in
set_option maxHeartbeats 4000000 in
theorem tq_La_indexOfChar_7 {p : Program} {l : Launch} {e : Env} {R : Room} {s₀ : State} {m : MethodId} {args : Array Value} {below : List Frame} {meth : Method} {cd : Code} {E : wo_E} {mc ms : Nat} {Post : Int32 → wo_W → Prop} (hC : wo_Cx E "java/lang/StringLatin1" prog_24_method_23_code 6 0 0 ((Option.some Jvm.ClassFile.FieldType.int)) "indexOfChar" mc ms p R s₀ m args meth cd) : ∀ n : Nat, ∀ {G : wo_W} {c s : Nat} {x0 : Option Nat} {x3 : Int32} {x4 : Int32} {x5 : Int32}, pq_La_indexOfChar_7 E mc ms Post n G c s x0 x3 x4 x5 → ∀ {H : Heap} {locs : List Loc} {ls : Array Slot}, wo_Se E G H → va_S (en_A E) s₀.heap H locs → lx_has ls 6 [(0, 1, va_rf x0), (3, 1, .int x3), (4, 1, .int x4), (5, 1, .int x5)] → c ≤ mc → s ≤ ms → W p l e R s₀ m args below meth cd H locs c s (MQ below (va_Qi Post (wo_B E) (en_A E)) args s₀ mc ms (en_A E)) (F0 m 7 ls []) := by
  intro n
  induction n with
  | zero => intro G c s x0 x3 x4 x5 hw; exact hw.elim
  | succ n ih =>
    intro G c s x0 x3 x4 x5 hw H locs ls hG hS hl hcc hss
    dsimp only [pq_La_indexOfChar_7] at hw
    have hx := hC.1
    have hb := hC.2.1
    refine lv_iload hx hb dq_La_indexOfChar_7 (lx_at hl 3 rfl) ?_
    refine lv_iload_n hx hb dq_La_indexOfChar_9 rfl (lx_at hl 1 rfl) ?_
    refine lv_icmp_ge (tgt := 31) hx hb dq_La_indexOfChar_10 rfl (fun h => ?_) (fun h => ?_)
    · replace hw := hw.1 h
      refine lv_iconst (v := (-1 : Int32)) hx hb dq_La_indexOfChar_31 rfl ?_
      exact wo_iret hC hG hS hcc hss hw dq_La_indexOfChar_32
    · replace hw := hw.2 h
      refine lx_aloadR_n hx hb dq_La_indexOfChar_13 rfl (lx_at hl 0 rfl) ?_
      refine lv_iload hx hb dq_La_indexOfChar_14 (lx_at hl 3 rfl) ?_
      obtain ⟨a1, rfl, hw⟩ := hw
      obtain ⟨t2, hw⟩ := hw
      obtain ⟨h3, hw⟩ := hw
      refine wo_bald (j := 1) hC rfl hG t2 h3 dq_La_indexOfChar_16 ?_
      refine lv_iload hx hb dq_La_indexOfChar_17 (lx_at hl 2 rfl) ?_
      refine lv_icmp_ne (tgt := 25) hx hb dq_La_indexOfChar_19 rfl (fun h => ?_) (fun h => ?_)
      · replace hw := hw.1 h
        refine lx_iinc (k := 3) (v := (x5 + (1 : Int32))) (lv' := [(5, 1, .int (x5 + (1 : Int32))), (0, 1, .ref a1), (3, 1, .int x3), (4, 1, .int x4)]) hx hb dq_La_indexOfChar_25 hl rfl rfl (by decide) rfl (fun ls hl' => ?_)
        clear hl
        have hl := hl'
        clear hl'
        refine lv_goto (tgt := 7) hx hb dq_La_indexOfChar_28 rfl ?_
        exact ih hw hG hS (lx_sub hl [1, 2, 3, 0] rfl) hcc hss
      · replace hw := hw.2 h
        refine lv_iload hx hb dq_La_indexOfChar_22 (lx_at hl 3 rfl) ?_
        exact wo_iret hC hG hS hcc hss hw dq_La_indexOfChar_24
set_option maxRecDepth 100000 in
set_option maxHeartbeats 4000000 in
theorem tq_La_indexOfChar_0 {p : Program} {l : Launch} {e : Env} {R : Room} {s₀ : State} {m : MethodId} {args : Array Value} {below : List Frame} {meth : Method} {cd : Code} {E : wo_E} {mc ms : Nat} {Post : Int32 → wo_W → Prop} (hC : wo_Cx E "java/lang/StringLatin1" prog_24_method_23_code 6 0 0 ((Option.some Jvm.ClassFile.FieldType.int)) "indexOfChar" mc ms p R s₀ m args meth cd) : ∀ {G : wo_W} {c s : Nat} {x0 : Option Nat} {x1 : Int32} {x2 : Int32} {x3 : Int32}, pq_La_indexOfChar_0 E mc ms Post G c s x0 x1 x2 x3 → ∀ {H : Heap} {locs : List Loc} {ls : Array Slot}, wo_Se E G H → va_S (en_A E) s₀.heap H locs → lx_has ls 6 [(0, 1, va_rf x0), (1, 1, .int x1), (2, 1, .int x2), (3, 1, .int x3)] → c ≤ mc → s ≤ ms → W p l e R s₀ m args below meth cd H locs c s (MQ below (va_Qi Post (wo_B E) (en_A E)) args s₀ mc ms (en_A E)) (F0 m 0 ls []) := by
  intro G c s x0 x1 x2 x3 hw H locs ls hG hS hl hcc hss
  dsimp only [pq_La_indexOfChar_0] at hw
  have hx := hC.1
  have hb := hC.2.1
  refine lv_iload_n hx hb dq_La_indexOfChar_0 rfl (lx_at hl 1 rfl) ?_
  refine lv_i2b (v := x1.toInt8.toInt32) hx hb dq_La_indexOfChar_1 rfl ?_
  refine lx_istore (lv' := [(4, 1, .int x1.toInt8.toInt32), (0, 1, va_rf x0), (1, 1, .int x1), (2, 1, .int x2), (3, 1, .int x3)]) hx hb dq_La_indexOfChar_2 hl (by decide) rfl (fun ls hl' => ?_)
  clear hl
  have hl := hl'
  clear hl'
  refine lv_iload_n hx hb dq_La_indexOfChar_4 rfl (lx_at hl 3 rfl) ?_
  refine lx_istore (lv' := [(5, 1, .int x2), (4, 1, .int x1.toInt8.toInt32), (0, 1, va_rf x0), (1, 1, .int x1), (2, 1, .int x2), (3, 1, .int x3)]) hx hb dq_La_indexOfChar_5 hl (by decide) rfl (fun ls hl' => ?_)
  clear hl
  have hl := hl'
  clear hl'
  obtain ⟨n1, hw⟩ := hw
  exact tq_La_indexOfChar_7 hC n1 hw hG hS (lx_sub hl [2, 5, 1, 0] rfl) hcc hss
set_option maxHeartbeats 4000000 in
theorem mq_La_indexOfChar {l : Launch} {E : wo_E} {mc ms : Nat} {Post : Int32 → wo_W → Prop} {G : wo_W} {x0 : Option Nat} {x1 : Int32} {x2 : Int32} {x3 : Int32} (hw : pq_La_indexOfChar E mc ms Post G x0 x1 x2 x3) : Met l yq_La_indexOfChar (Cond.code yq_La_indexOfChar prog_24_method_23_code 6 ((Option.some Jvm.ClassFile.FieldType.int)) :: vw_WG) { frames := 0, cells := mc, slots := ms, locals := 0 } (va_Pc [va_rf x0, .int x1, .int x2, .int x3] (wo_Ok E G)) (va_Qi Post (wo_B E) (en_A E)) mc ms (en_A E) := by
  unfold pq_La_indexOfChar at hw
  exact wo_met [(1, va_rf x0), (1, .int x1), (1, .int x2), (1, .int x3)] rfl (by decide) (fun q hq => by simp only [List.mem_cons, List.not_mem_nil, or_false] at hq; rcases hq with rfl | rfl | rfl | rfl <;> first | rfl | exact lx_cR _) (Nat.le_of_ble_eq_true rfl) (fun p e R s m args below meth cd ls hC hG hS hl => tq_La_indexOfChar_0 hC hw hG hS (lx_sub hl [0, 1, 2, 3] rfl) (Nat.zero_le _) (Nat.zero_le _))

theorem dq_La_indexOf_0 : decode prog_24_method_22_code 0 = .ok (.iload_n 1, 1) := by decide +kernel
theorem dq_La_indexOf_1 : decode prog_24_method_22_code 1 = .ok (.invokestatic 88, 3) := by decide +kernel
theorem dq_La_indexOf_4 : decode prog_24_method_22_code 4 = .ok (.ifCond .ne 5, 3) := by decide +kernel
theorem dq_La_indexOf_7 : decode prog_24_method_22_code 7 = .ok (.iconst (-1), 1) := by decide +kernel
theorem dq_La_indexOf_8 : decode prog_24_method_22_code 8 = .ok (.ireturn, 1) := by decide +kernel
theorem dq_La_indexOf_9 : decode prog_24_method_22_code 9 = .ok (.iload_n 2, 1) := by decide +kernel
theorem dq_La_indexOf_10 : decode prog_24_method_22_code 10 = .ok (.iconst 0, 1) := by decide +kernel
theorem dq_La_indexOf_11 : decode prog_24_method_22_code 11 = .ok (.invokestatic 92, 3) := by decide +kernel
theorem dq_La_indexOf_14 : decode prog_24_method_22_code 14 = .ok (.istore_n 2, 1) := by decide +kernel
theorem dq_La_indexOf_15 : decode prog_24_method_22_code 15 = .ok (.iload_n 3, 1) := by decide +kernel
theorem dq_La_indexOf_16 : decode prog_24_method_22_code 16 = .ok (.aload_n 0, 1) := by decide +kernel
theorem dq_La_indexOf_17 : decode prog_24_method_22_code 17 = .ok (.arraylength, 1) := by decide +kernel
theorem dq_La_indexOf_18 : decode prog_24_method_22_code 18 = .ok (.invokestatic 38, 3) := by decide +kernel
theorem dq_La_indexOf_21 : decode prog_24_method_22_code 21 = .ok (.istore_n 3, 1) := by decide +kernel
theorem dq_La_indexOf_22 : decode prog_24_method_22_code 22 = .ok (.iload_n 2, 1) := by decide +kernel
theorem dq_La_indexOf_23 : decode prog_24_method_22_code 23 = .ok (.iload_n 3, 1) := by decide +kernel
theorem dq_La_indexOf_24 : decode prog_24_method_22_code 24 = .ok (.if_icmp .lt 5, 3) := by decide +kernel
theorem dq_La_indexOf_27 : decode prog_24_method_22_code 27 = .ok (.iconst (-1), 1) := by decide +kernel
theorem dq_La_indexOf_28 : decode prog_24_method_22_code 28 = .ok (.ireturn, 1) := by decide +kernel
theorem dq_La_indexOf_29 : decode prog_24_method_22_code 29 = .ok (.aload_n 0, 1) := by decide +kernel
theorem dq_La_indexOf_30 : decode prog_24_method_22_code 30 = .ok (.iload_n 1, 1) := by decide +kernel
theorem dq_La_indexOf_31 : decode prog_24_method_22_code 31 = .ok (.iload_n 2, 1) := by decide +kernel
theorem dq_La_indexOf_32 : decode prog_24_method_22_code 32 = .ok (.iload_n 3, 1) := by decide +kernel
theorem dq_La_indexOf_33 : decode prog_24_method_22_code 33 = .ok (.invokestatic 95, 3) := by decide +kernel
theorem dq_La_indexOf_36 : decode prog_24_method_22_code 36 = .ok (.ireturn, 1) := by decide +kernel
set_option maxRecDepth 100000 in
def pq_La_indexOf_0 (E : wo_E) (mc ms : Nat) (Post : Int32 → wo_W → Prop) (G : wo_W) (c s : Nat) (x0 : Option Nat) (x1 : Int32) (x2 : Int32) (x3 : Int32) : Prop := ∃ mc1 ms2 : Nat, (c + mc1) ≤ mc ∧ (s + ms2) ≤ ms ∧ pq_La_canEncode_I E mc1 ms2 (fun v4 G3 => 
  ((¬ v4 = (0 : Int32) → ∃ a5 : Nat, x0 = some a5 ∧ wo_ty G3 a5 = 65 ∧ (((wo_max x2 (0 : Int32)) < (wo_min x3 (nI (wo_len G3 a5))) → ∃ mc7 ms8 : Nat, ((c + mc1) + mc7) ≤ mc ∧ ((s + ms2) + ms8) ≤ ms ∧ pq_La_indexOfChar E mc7 ms8 (fun v10 G9 => 
        Post v10 G9) G3 (some a5) x1 (wo_max x2 (0 : Int32)) (wo_min x3 (nI (wo_len G3 a5)))) ∧
      (¬ (wo_max x2 (0 : Int32)) < (wo_min x3 (nI (wo_len G3 a5))) → Post (-1 : Int32) G3))) ∧
    (v4 = (0 : Int32) → Post (-1 : Int32) G3))) G x1
def pq_La_indexOf (E : wo_E) (mc ms : Nat) (Post : Int32 → wo_W → Prop) (G : wo_W) (x0 : Option Nat) (x1 : Int32) (x2 : Int32) (x3 : Int32) : Prop := pq_La_indexOf_0 E mc ms Post G 0 0 x0 x1 x2 x3
set_option maxRecDepth 100000 in
set_option maxHeartbeats 4000000 in
theorem tq_La_indexOf_0 {p : Program} {l : Launch} {e : Env} {R : Room} {s₀ : State} {m : MethodId} {args : Array Value} {below : List Frame} {meth : Method} {cd : Code} {E : wo_E} {mc ms : Nat} {Post : Int32 → wo_W → Prop} (hC : wo_Cx E "java/lang/StringLatin1" prog_24_method_22_code 4 1 28 ((Option.some Jvm.ClassFile.FieldType.int)) "indexOf" mc ms p R s₀ m args meth cd) : ∀ {G : wo_W} {c s : Nat} {x0 : Option Nat} {x1 : Int32} {x2 : Int32} {x3 : Int32}, pq_La_indexOf_0 E mc ms Post G c s x0 x1 x2 x3 → ∀ {H : Heap} {locs : List Loc} {ls : Array Slot}, wo_Se E G H → va_S (en_A E) s₀.heap H locs → lx_has ls 4 [(0, 1, va_rf x0), (1, 1, .int x1), (2, 1, .int x2), (3, 1, .int x3)] → c ≤ mc → s ≤ ms → W p l e R s₀ m args below meth cd H locs c s (MQ below (va_Qi Post (wo_B E) (en_A E)) args s₀ mc ms (en_A E)) (F0 m 0 ls []) := by
  intro G c s x0 x1 x2 x3 hw H locs ls hG hS hl hcc hss
  dsimp only [pq_La_indexOf_0] at hw
  have hx := hC.1
  have hb := hC.2.1
  refine lv_iload_n hx hb dq_La_indexOf_0 rfl (lx_at hl 1 rfl) ?_
  obtain ⟨mc1, ms2, hc1, hs1, hw⟩ := hw
  refine va_calli (wo_runS hC lq_La_88 (mq_La_canEncode_I hw) hG hS rfl (lx_sz hl) rfl (Nat.zero_le _) (by decide) dq_La_indexOf_1 ⟨hc1, hs1⟩) hS (fun _ _ h => h) (fun _ h => h) (fun v4 G3 t H locs ht hvm hw' hB _ _ hS => ?_)
  clear hw
  have hw := hw'
  clear hw'
  replace hG := wo_bk ht hB
  replace hcc := hc1
  replace hss := hs1
  refine lv_if_ne (tgt := 9) hx hb dq_La_indexOf_4 rfl (fun h => ?_) (fun h => ?_)
  · replace hw := hw.1 h
    refine lv_iload_n hx hb dq_La_indexOf_9 rfl (lx_at hl 2 rfl) ?_
    refine lv_iconst (v := (0 : Int32)) hx hb dq_La_indexOf_10 rfl ?_
    refine wo_mmax hC lq_La_92 (lx_sz hl) hcc hss (by decide) (lx_rk (Nat.le_of_ble_eq_true rfl)) dq_La_indexOf_11 ?_
    refine lx_istore_n (lv' := [(2, 1, .int (wo_max x2 (0 : Int32))), (0, 1, va_rf x0), (1, 1, .int x1), (3, 1, .int x3)]) hx hb dq_La_indexOf_14 rfl hl (by decide) rfl (fun ls hl' => ?_)
    clear hl
    have hl := hl'
    clear hl'
    refine lv_iload_n hx hb dq_La_indexOf_15 rfl (lx_at hl 3 rfl) ?_
    refine lx_aloadR_n hx hb dq_La_indexOf_16 rfl (lx_at hl 1 rfl) ?_
    obtain ⟨a5, rfl, hw⟩ := hw
    obtain ⟨t6, hw⟩ := hw
    refine wo_alen (j := 1) hC rfl hG t6 dq_La_indexOf_17 ?_
    refine wo_mmin hC lq_La_38 (lx_sz hl) hcc hss (by decide) (lx_rk (Nat.le_of_ble_eq_true rfl)) dq_La_indexOf_18 ?_
    refine lx_istore_n (lv' := [(3, 1, .int (wo_min x3 (nI (wo_len G3 a5)))), (2, 1, .int (wo_max x2 (0 : Int32))), (0, 1, .ref a5), (1, 1, .int x1)]) hx hb dq_La_indexOf_21 rfl hl (by decide) rfl (fun ls hl' => ?_)
    clear hl
    have hl := hl'
    clear hl'
    refine lv_iload_n hx hb dq_La_indexOf_22 rfl (lx_at hl 1 rfl) ?_
    refine lv_iload_n hx hb dq_La_indexOf_23 rfl (lx_at hl 0 rfl) ?_
    refine lv_icmp_lt (tgt := 29) hx hb dq_La_indexOf_24 rfl (fun h => ?_) (fun h => ?_)
    · replace hw := hw.1 h
      refine lv_aload_n hx hb dq_La_indexOf_29 rfl (lx_at hl 2 rfl) ?_
      refine lv_iload_n hx hb dq_La_indexOf_30 rfl (lx_at hl 3 rfl) ?_
      refine lv_iload_n hx hb dq_La_indexOf_31 rfl (lx_at hl 1 rfl) ?_
      refine lv_iload_n hx hb dq_La_indexOf_32 rfl (lx_at hl 0 rfl) ?_
      obtain ⟨mc7, ms8, hc1, hs1, hw⟩ := hw
      refine va_calli (wo_runS hC lq_La_95 (mq_La_indexOfChar hw) hG hS rfl (lx_sz hl) rfl (Nat.zero_le _) (by decide) dq_La_indexOf_33 ⟨hc1, hs1⟩) hS (fun _ _ h => h) (fun _ h => h) (fun v10 G9 t H locs ht hvm hw' hB _ _ hS => ?_)
      clear hw
      have hw := hw'
      clear hw'
      replace hG := wo_bk ht hB
      replace hcc := hc1
      replace hss := hs1
      exact wo_iret hC hG hS hcc hss hw dq_La_indexOf_36
    · replace hw := hw.2 h
      refine lv_iconst (v := (-1 : Int32)) hx hb dq_La_indexOf_27 rfl ?_
      exact wo_iret hC hG hS hcc hss hw dq_La_indexOf_28
  · replace hw := hw.2 h
    refine lv_iconst (v := (-1 : Int32)) hx hb dq_La_indexOf_7 rfl ?_
    exact wo_iret hC hG hS hcc hss hw dq_La_indexOf_8
set_option maxHeartbeats 4000000 in
theorem mq_La_indexOf {l : Launch} {E : wo_E} {mc ms : Nat} {Post : Int32 → wo_W → Prop} {G : wo_W} {x0 : Option Nat} {x1 : Int32} {x2 : Int32} {x3 : Int32} (hw : pq_La_indexOf E mc ms Post G x0 x1 x2 x3) : Met l yq_La_indexOf (Cond.code yq_La_indexOf prog_24_method_22_code 4 ((Option.some Jvm.ClassFile.FieldType.int)) :: vw_WG) { frames := 1, cells := mc, slots := ms, locals := 28 } (va_Pc [va_rf x0, .int x1, .int x2, .int x3] (wo_Ok E G)) (va_Qi Post (wo_B E) (en_A E)) mc ms (en_A E) := by
  unfold pq_La_indexOf at hw
  exact wo_met [(1, va_rf x0), (1, .int x1), (1, .int x2), (1, .int x3)] rfl (by decide) (fun q hq => by simp only [List.mem_cons, List.not_mem_nil, or_false] at hq; rcases hq with rfl | rfl | rfl | rfl <;> first | rfl | exact lx_cR _) (Nat.le_of_ble_eq_true rfl) (fun p e R s m args below meth cd ls hC hG hS hl => tq_La_indexOf_0 hC hw hG hS (lx_sub hl [0, 1, 2, 3] rfl) (Nat.zero_le _) (Nat.zero_le _))

theorem dq_St_indexOf_II_0 : decode prog_22_method_80_code 0 = .ok (.aload_n 0, 1) := by decide +kernel
theorem dq_St_indexOf_II_1 : decode prog_22_method_80_code 1 = .ok (.invokevirtual 492, 3) := by decide +kernel
theorem dq_St_indexOf_II_4 : decode prog_22_method_80_code 4 = .ok (.ifCond .eq 19, 3) := by decide +kernel
theorem dq_St_indexOf_II_7 : decode prog_22_method_80_code 7 = .ok (.aload_n 0, 1) := by decide +kernel
theorem dq_St_indexOf_II_8 : decode prog_22_method_80_code 8 = .ok (.getfield 9, 3) := by decide +kernel
theorem dq_St_indexOf_II_11 : decode prog_22_method_80_code 11 = .ok (.iload_n 1, 1) := by decide +kernel
theorem dq_St_indexOf_II_12 : decode prog_22_method_80_code 12 = .ok (.iload_n 2, 1) := by decide +kernel
theorem dq_St_indexOf_II_13 : decode prog_22_method_80_code 13 = .ok (.aload_n 0, 1) := by decide +kernel
theorem dq_St_indexOf_II_14 : decode prog_22_method_80_code 14 = .ok (.invokevirtual 505, 3) := by decide +kernel
theorem dq_St_indexOf_II_17 : decode prog_22_method_80_code 17 = .ok (.invokestatic 637, 3) := by decide +kernel
theorem dq_St_indexOf_II_20 : decode prog_22_method_80_code 20 = .ok (.goto 16, 3) := by decide +kernel
theorem dq_St_indexOf_II_36 : decode prog_22_method_80_code 36 = .ok (.ireturn, 1) := by decide +kernel
set_option maxRecDepth 100000 in
def pq_St_indexOf_II_0 (E : wo_E) (mc ms : Nat) (Post : Int32 → wo_W → Prop) (G : wo_W) (c s : Nat) (x0 : Nat) (x1 : Int32) (x2 : Int32) : Prop := wo_ty G x0 = 10 ∧ ∃ mc2 ms3 : Nat, (c + mc2) ≤ mc ∧ (s + ms3) ≤ ms ∧ pq_St_isLatin1 E mc2 ms3 (fun v5 G4 => 
  ((v5 = (0 : Int32) → False) ∧
    (¬ v5 = (0 : Int32) → wo_ty G4 x0 = 10 ∧ ∀ r7 : Option Nat, r7 = wo_gr G4 576 x0 → ∃ mc9 ms10 : Nat, ((c + mc2) + mc9) ≤ mc ∧ ((s + ms3) + ms10) ≤ ms ∧ pq_St_length E mc9 ms10 (fun v12 G11 => 
      ∃ mc13 ms14 : Nat, (((c + mc2) + mc9) + mc13) ≤ mc ∧ (((s + ms3) + ms10) + ms14) ≤ ms ∧ pq_La_indexOf E mc13 ms14 (fun v16 G15 => 
        Post v16 G15) G11 r7 x1 x2 v12) G4 x0))) G x0
def pq_St_indexOf_II (E : wo_E) (mc ms : Nat) (Post : Int32 → wo_W → Prop) (G : wo_W) (x0 : Nat) (x1 : Int32) (x2 : Int32) : Prop := pq_St_indexOf_II_0 E mc ms Post G 0 0 x0 x1 x2
set_option maxRecDepth 100000 in
set_option maxHeartbeats 4000000 in
theorem tq_St_indexOf_II_0 {p : Program} {l : Launch} {e : Env} {R : Room} {s₀ : State} {m : MethodId} {args : Array Value} {below : List Frame} {meth : Method} {cd : Code} {E : wo_E} {mc ms : Nat} {Post : Int32 → wo_W → Prop} (hC : wo_Cx E "java/lang/String" prog_22_method_80_code 3 2 51 ((Option.some Jvm.ClassFile.FieldType.int)) "indexOf" mc ms p R s₀ m args meth cd) : ∀ {G : wo_W} {c s : Nat} {x0 : Nat} {x1 : Int32} {x2 : Int32}, pq_St_indexOf_II_0 E mc ms Post G c s x0 x1 x2 → ∀ {H : Heap} {locs : List Loc} {ls : Array Slot}, wo_Se E G H → va_S (en_A E) s₀.heap H locs → lx_has ls 3 [(0, 1, .ref x0), (1, 1, .int x1), (2, 1, .int x2)] → c ≤ mc → s ≤ ms → W p l e R s₀ m args below meth cd H locs c s (MQ below (va_Qi Post (wo_B E) (en_A E)) args s₀ mc ms (en_A E)) (F0 m 0 ls []) := by
  intro G c s x0 x1 x2 hw H locs ls hG hS hl hcc hss
  dsimp only [pq_St_indexOf_II_0] at hw
  have hx := hC.1
  have hb := hC.2.1
  refine lv_aload_n hx hb dq_St_indexOf_II_0 rfl (lx_at hl 0 rfl) ?_
  obtain ⟨t1, hw⟩ := hw
  obtain ⟨mc2, ms3, hc1, hs1, hw⟩ := hw
  refine va_calli (wo_runV hC lq_St_492 (mq_St_isLatin1 hw) hG hS t1 rfl (lx_sz hl) rfl (Nat.zero_le _) (by decide) dq_St_indexOf_II_1 ⟨hc1, hs1⟩) hS (fun _ _ h => h) (fun _ h => h) (fun v5 G4 t H locs ht hvm hw' hB _ _ hS => ?_)
  clear hw
  have hw := hw'
  clear hw'
  replace hG := wo_bk ht hB
  replace hcc := hc1
  replace hss := hs1
  refine lv_if_eq (tgt := 23) hx hb dq_St_indexOf_II_4 rfl (fun h => ?_) (fun h => ?_)
  · replace hw := hw.1 h
    exact hw.elim
  · replace hw := hw.2 h
    refine lv_aload_n hx hb dq_St_indexOf_II_7 rfl (lx_at hl 0 rfl) ?_
    obtain ⟨t6, hw⟩ := hw
    refine wo_getR hC fq_St_9 rfl hG t6 dq_St_indexOf_II_8 (fun r7 e8 => ?_)
    replace hw := hw r7 e8
    refine lv_iload_n hx hb dq_St_indexOf_II_11 rfl (lx_at hl 1 rfl) ?_
    refine lv_iload_n hx hb dq_St_indexOf_II_12 rfl (lx_at hl 2 rfl) ?_
    refine lv_aload_n hx hb dq_St_indexOf_II_13 rfl (lx_at hl 0 rfl) ?_
    obtain ⟨mc9, ms10, hc1, hs1, hw⟩ := hw
    refine va_calli (wo_runV hC lq_St_505 (mq_St_length hw) hG hS t6 rfl (lx_sz hl) rfl (lx_rm (Nat.le_of_ble_eq_true rfl)) (by decide) dq_St_indexOf_II_14 ⟨hc1, hs1⟩) hS (fun _ _ h => h) (fun _ h => h) (fun v12 G11 t H locs ht hvm hw' hB _ _ hS => ?_)
    clear hw
    have hw := hw'
    clear hw'
    replace hG := wo_bk ht hB
    replace hcc := hc1
    replace hss := hs1
    obtain ⟨mc13, ms14, hc1, hs1, hw⟩ := hw
    refine va_calli (wo_runS hC lq_St_637 (mq_La_indexOf hw) hG hS rfl (lx_sz hl) rfl (Nat.zero_le _) (by decide) dq_St_indexOf_II_17 ⟨hc1, hs1⟩) hS (fun _ _ h => h) (fun _ h => h) (fun v16 G15 t H locs ht hvm hw' hB _ _ hS => ?_)
    clear hw
    have hw := hw'
    clear hw'
    replace hG := wo_bk ht hB
    replace hcc := hc1
    replace hss := hs1
    refine lv_goto (tgt := 36) hx hb dq_St_indexOf_II_20 rfl ?_
    exact wo_iret hC hG hS hcc hss hw dq_St_indexOf_II_36
set_option maxHeartbeats 4000000 in
theorem mq_St_indexOf_II {l : Launch} {E : wo_E} {mc ms : Nat} {Post : Int32 → wo_W → Prop} {G : wo_W} {x0 : Nat} {x1 : Int32} {x2 : Int32} (hw : pq_St_indexOf_II E mc ms Post G x0 x1 x2) : Met l yq_St_indexOf_II (Cond.code yq_St_indexOf_II prog_22_method_80_code 3 ((Option.some Jvm.ClassFile.FieldType.int)) :: vw_WG) { frames := 2, cells := mc, slots := ms, locals := 51 } (va_Pc [.ref x0, .int x1, .int x2] (wo_Ok E G)) (va_Qi Post (wo_B E) (en_A E)) mc ms (en_A E) := by
  unfold pq_St_indexOf_II at hw
  exact wo_met [(1, .ref x0), (1, .int x1), (1, .int x2)] rfl (by decide) (fun q hq => by simp only [List.mem_cons, List.not_mem_nil, or_false] at hq; rcases hq with rfl | rfl | rfl <;> first | rfl | exact lx_cR _) (Nat.le_of_ble_eq_true rfl) (fun p e R s m args below meth cd ls hC hG hS hl => tq_St_indexOf_II_0 hC hw hG hS (lx_sub hl [0, 1, 2] rfl) (Nat.zero_le _) (Nat.zero_le _))

theorem dq_St_indexOf_I_0 : decode prog_22_method_79_code 0 = .ok (.aload_n 0, 1) := by decide +kernel
theorem dq_St_indexOf_I_1 : decode prog_22_method_79_code 1 = .ok (.iload_n 1, 1) := by decide +kernel
theorem dq_St_indexOf_I_2 : decode prog_22_method_79_code 2 = .ok (.iconst 0, 1) := by decide +kernel
theorem dq_St_indexOf_I_3 : decode prog_22_method_79_code 3 = .ok (.invokevirtual 633, 3) := by decide +kernel
theorem dq_St_indexOf_I_6 : decode prog_22_method_79_code 6 = .ok (.ireturn, 1) := by decide +kernel
set_option maxRecDepth 100000 in
def pq_St_indexOf_I_0 (E : wo_E) (mc ms : Nat) (Post : Int32 → wo_W → Prop) (G : wo_W) (c s : Nat) (x0 : Nat) (x1 : Int32) : Prop := wo_ty G x0 = 10 ∧ ∃ mc2 ms3 : Nat, (c + mc2) ≤ mc ∧ (s + ms3) ≤ ms ∧ pq_St_indexOf_II E mc2 ms3 (fun v5 G4 => 
  Post v5 G4) G x0 x1 (0 : Int32)
def pq_St_indexOf_I (E : wo_E) (mc ms : Nat) (Post : Int32 → wo_W → Prop) (G : wo_W) (x0 : Nat) (x1 : Int32) : Prop := pq_St_indexOf_I_0 E mc ms Post G 0 0 x0 x1
set_option maxRecDepth 100000 in
set_option maxHeartbeats 4000000 in
theorem tq_St_indexOf_I_0 {p : Program} {l : Launch} {e : Env} {R : Room} {s₀ : State} {m : MethodId} {args : Array Value} {below : List Frame} {meth : Method} {cd : Code} {E : wo_E} {mc ms : Nat} {Post : Int32 → wo_W → Prop} (hC : wo_Cx E "java/lang/String" prog_22_method_79_code 2 3 73 ((Option.some Jvm.ClassFile.FieldType.int)) "indexOf" mc ms p R s₀ m args meth cd) : ∀ {G : wo_W} {c s : Nat} {x0 : Nat} {x1 : Int32}, pq_St_indexOf_I_0 E mc ms Post G c s x0 x1 → ∀ {H : Heap} {locs : List Loc} {ls : Array Slot}, wo_Se E G H → va_S (en_A E) s₀.heap H locs → lx_has ls 2 [(0, 1, .ref x0), (1, 1, .int x1)] → c ≤ mc → s ≤ ms → W p l e R s₀ m args below meth cd H locs c s (MQ below (va_Qi Post (wo_B E) (en_A E)) args s₀ mc ms (en_A E)) (F0 m 0 ls []) := by
  intro G c s x0 x1 hw H locs ls hG hS hl hcc hss
  dsimp only [pq_St_indexOf_I_0] at hw
  have hx := hC.1
  have hb := hC.2.1
  refine lv_aload_n hx hb dq_St_indexOf_I_0 rfl (lx_at hl 0 rfl) ?_
  refine lv_iload_n hx hb dq_St_indexOf_I_1 rfl (lx_at hl 1 rfl) ?_
  refine lv_iconst (v := (0 : Int32)) hx hb dq_St_indexOf_I_2 rfl ?_
  obtain ⟨t1, hw⟩ := hw
  obtain ⟨mc2, ms3, hc1, hs1, hw⟩ := hw
  refine va_calli (wo_runV hC lq_St_633 (mq_St_indexOf_II hw) hG hS t1 rfl (lx_sz hl) rfl (Nat.zero_le _) (by decide) dq_St_indexOf_I_3 ⟨hc1, hs1⟩) hS (fun _ _ h => h) (fun _ h => h) (fun v5 G4 t H locs ht hvm hw' hB _ _ hS => ?_)
  clear hw
  have hw := hw'
  clear hw'
  replace hG := wo_bk ht hB
  replace hcc := hc1
  replace hss := hs1
  exact wo_iret hC hG hS hcc hss hw dq_St_indexOf_I_6
set_option maxHeartbeats 4000000 in
theorem mq_St_indexOf_I {l : Launch} {E : wo_E} {mc ms : Nat} {Post : Int32 → wo_W → Prop} {G : wo_W} {x0 : Nat} {x1 : Int32} (hw : pq_St_indexOf_I E mc ms Post G x0 x1) : Met l yq_St_indexOf_I (Cond.code yq_St_indexOf_I prog_22_method_79_code 2 ((Option.some Jvm.ClassFile.FieldType.int)) :: vw_WG) { frames := 3, cells := mc, slots := ms, locals := 73 } (va_Pc [.ref x0, .int x1] (wo_Ok E G)) (va_Qi Post (wo_B E) (en_A E)) mc ms (en_A E) := by
  unfold pq_St_indexOf_I at hw
  exact wo_met [(1, .ref x0), (1, .int x1)] rfl (by decide) (fun q hq => by simp only [List.mem_cons, List.not_mem_nil, or_false] at hq; rcases hq with rfl | rfl <;> first | rfl | exact lx_cR _) (Nat.le_of_ble_eq_true rfl) (fun p e R s m args below meth cd ls hC hG hS hl => tq_St_indexOf_I_0 hC hw hG hS (lx_sub hl [0, 1] rfl) (Nat.zero_le _) (Nat.zero_le _))
