theorem dq_EC_takeRead_0 : decode prog_1_method_23_code 0 = .ok (.aload_n 1, 1) := by decide +kernel
theorem dq_EC_takeRead_1 : decode prog_1_method_23_code 1 = .ok (.getfield 105, 3) := by decide +kernel
theorem dq_EC_takeRead_4 : decode prog_1_method_23_code 4 = .ok (.astore_n 2, 1) := by decide +kernel
theorem dq_EC_takeRead_5 : decode prog_1_method_23_code 5 = .ok (.aload_n 1, 1) := by decide +kernel
theorem dq_EC_takeRead_6 : decode prog_1_method_23_code 6 = .ok (.getfield 243, 3) := by decide +kernel
theorem dq_EC_takeRead_9 : decode prog_1_method_23_code 9 = .ok (.astore_n 3, 1) := by decide +kernel
theorem dq_EC_takeRead_10 : decode prog_1_method_23_code 10 = .ok (.aload_n 3, 1) := by decide +kernel
theorem dq_EC_takeRead_11 : decode prog_1_method_23_code 11 = .ok (.ifnonnull 12, 3) := by decide +kernel
theorem dq_EC_takeRead_14 : decode prog_1_method_23_code 14 = .ok (.aload_n 0, 1) := by decide +kernel
theorem dq_EC_takeRead_15 : decode prog_1_method_23_code 15 = .ok (.getfield 56, 3) := by decide +kernel
theorem dq_EC_takeRead_18 : decode prog_1_method_23_code 18 = .ok (.aload_n 2, 1) := by decide +kernel
theorem dq_EC_takeRead_19 : decode prog_1_method_23_code 19 = .ok (.invokevirtual 249, 3) := by decide +kernel
theorem dq_EC_takeRead_22 : decode prog_1_method_23_code 22 = .ok (.return_, 1) := by decide +kernel
theorem dq_EC_takeRead_23 : decode prog_1_method_23_code 23 = .ok (.aload_n 1, 1) := by decide +kernel
theorem dq_EC_takeRead_24 : decode prog_1_method_23_code 24 = .ok (.getfield 252, 3) := by decide +kernel
theorem dq_EC_takeRead_27 : decode prog_1_method_23_code 27 = .ok (.ifCond .eq 4, 3) := by decide +kernel
theorem dq_EC_takeRead_30 : decode prog_1_method_23_code 30 = .ok (.return_, 1) := by decide +kernel
theorem dq_EC_takeRead_31 : decode prog_1_method_23_code 31 = .ok (.aload_n 0, 1) := by decide +kernel
theorem dq_EC_takeRead_32 : decode prog_1_method_23_code 32 = .ok (.getfield 56, 3) := by decide +kernel
theorem dq_EC_takeRead_35 : decode prog_1_method_23_code 35 = .ok (.aload_n 2, 1) := by decide +kernel
theorem dq_EC_takeRead_36 : decode prog_1_method_23_code 36 = .ok (.aload_n 3, 1) := by decide +kernel
theorem dq_EC_takeRead_37 : decode prog_1_method_23_code 37 = .ok (.getfield 255, 3) := by decide +kernel
theorem dq_EC_takeRead_40 : decode prog_1_method_23_code 40 = .ok (.invokevirtual 258, 3) := by decide +kernel
theorem dq_EC_takeRead_43 : decode prog_1_method_23_code 43 = .ok (.aload_n 3, 1) := by decide +kernel
theorem dq_EC_takeRead_44 : decode prog_1_method_23_code 44 = .ok (.getfield 224, 3) := by decide +kernel
theorem dq_EC_takeRead_47 : decode prog_1_method_23_code 47 = .ok (.bipush 120, 2) := by decide +kernel
theorem dq_EC_takeRead_49 : decode prog_1_method_23_code 49 = .ok (.invokestatic 230, 3) := by decide +kernel
theorem dq_EC_takeRead_52 : decode prog_1_method_23_code 52 = .ok (.ifCond .ne 27, 3) := by decide +kernel
theorem dq_EC_takeRead_55 : decode prog_1_method_23_code 55 = .ok (.aload_n 3, 1) := by decide +kernel
theorem dq_EC_takeRead_56 : decode prog_1_method_23_code 56 = .ok (.getfield 224, 3) := by decide +kernel
theorem dq_EC_takeRead_59 : decode prog_1_method_23_code 59 = .ok (.bipush 112, 2) := by decide +kernel
theorem dq_EC_takeRead_61 : decode prog_1_method_23_code 61 = .ok (.invokestatic 230, 3) := by decide +kernel
theorem dq_EC_takeRead_64 : decode prog_1_method_23_code 64 = .ok (.ifCond .ne 15, 3) := by decide +kernel
theorem dq_EC_takeRead_67 : decode prog_1_method_23_code 67 = .ok (.aload_n 2, 1) := by decide +kernel
theorem dq_EC_takeRead_68 : decode prog_1_method_23_code 68 = .ok (.getfield 236, 3) := by decide +kernel
theorem dq_EC_takeRead_71 : decode prog_1_method_23_code 71 = .ok (.bipush 120, 2) := by decide +kernel
theorem dq_EC_takeRead_73 : decode prog_1_method_23_code 73 = .ok (.invokestatic 230, 3) := by decide +kernel
theorem dq_EC_takeRead_76 : decode prog_1_method_23_code 76 = .ok (.ifCond .eq 7, 3) := by decide +kernel
theorem dq_EC_takeRead_79 : decode prog_1_method_23_code 79 = .ok (.iconst 1, 1) := by decide +kernel
theorem dq_EC_takeRead_80 : decode prog_1_method_23_code 80 = .ok (.goto 4, 3) := by decide +kernel
theorem dq_EC_takeRead_83 : decode prog_1_method_23_code 83 = .ok (.iconst 0, 1) := by decide +kernel
theorem dq_EC_takeRead_84 : decode prog_1_method_23_code 84 = .ok (.istore 4, 2) := by decide +kernel
theorem dq_EC_takeRead_86 : decode prog_1_method_23_code 86 = .ok (.iload 4, 2) := by decide +kernel
theorem dq_EC_takeRead_88 : decode prog_1_method_23_code 88 = .ok (.ifCond .ne 31, 3) := by decide +kernel
theorem dq_EC_takeRead_91 : decode prog_1_method_23_code 91 = .ok (.aload_n 0, 1) := by decide +kernel
theorem dq_EC_takeRead_92 : decode prog_1_method_23_code 92 = .ok (.getfield 56, 3) := by decide +kernel
theorem dq_EC_takeRead_95 : decode prog_1_method_23_code 95 = .ok (.new 203, 3) := by decide +kernel
theorem dq_EC_takeRead_98 : decode prog_1_method_23_code 98 = .ok (.dup, 1) := by decide +kernel
theorem dq_EC_takeRead_99 : decode prog_1_method_23_code 99 = .ok (.aload_n 3, 1) := by decide +kernel
theorem dq_EC_takeRead_100 : decode prog_1_method_23_code 100 = .ok (.aload_n 2, 1) := by decide +kernel
theorem dq_EC_takeRead_101 : decode prog_1_method_23_code 101 = .ok (.aload_n 1, 1) := by decide +kernel
theorem dq_EC_takeRead_102 : decode prog_1_method_23_code 102 = .ok (.getfield 102, 3) := by decide +kernel
theorem dq_EC_takeRead_105 : decode prog_1_method_23_code 105 = .ok (.aload_n 0, 1) := by decide +kernel
theorem dq_EC_takeRead_106 : decode prog_1_method_23_code 106 = .ok (.getfield 25, 3) := by decide +kernel
theorem dq_EC_takeRead_109 : decode prog_1_method_23_code 109 = .ok (.aload_n 3, 1) := by decide +kernel
theorem dq_EC_takeRead_110 : decode prog_1_method_23_code 110 = .ok (.invokevirtual 262, 3) := by decide +kernel
theorem dq_EC_takeRead_113 : decode prog_1_method_23_code 113 = .ok (.invokespecial 266, 3) := by decide +kernel
theorem dq_EC_takeRead_116 : decode prog_1_method_23_code 116 = .ok (.invokevirtual 269, 3) := by decide +kernel
theorem dq_EC_takeRead_119 : decode prog_1_method_23_code 119 = .ok (.return_, 1) := by decide +kernel
set_option maxRecDepth 100000 in
def pq_EC_takeRead_119 (E : wo_E) (mc ms : Nat) (Post : wo_W → Prop) (G : wo_W) (c s : Nat) : Prop := Post G
set_option maxRecDepth 100000 in
def pq_EC_takeRead_84 (E : wo_E) (mc ms : Nat) (Post : wo_W → Prop) (G : wo_W) (c s : Nat) (x0 : Nat) (x1 : Option Nat) (x2 : Option Nat) (x3 : Option Nat) (y0 : Int32) : Prop := ((¬ y0 = (0 : Int32) → pq_EC_takeRead_119 E mc ms Post G c s) ∧
  (y0 = (0 : Int32) → wo_ty G x0 = 1 ∧ ∀ r2 : Option Nat, r2 = wo_gr G 2 x0 → (c + 1) ≤ mc ∧ (s + 5) ≤ ms ∧ ∀ q6 : Nat, wo_ty G q6 = 0 → en_bs E ≤ q6 → ∀ G9 : wo_W, G9 = wo_new G q6 14 → 
    ∃ a11 : Nat, x1 = some a11 ∧ wo_ty G9 a11 = 11 ∧ ∀ r13 : Option Nat, r13 = wo_gr G9 3 x0 → ∃ a15 : Nat, r13 = some a15 ∧ wo_ty G9 a15 = 4 ∧ ∃ mc17 ms18 : Nat, ((c + 1) + mc17) ≤ mc ∧ ((s + 5) + ms18) ≤ ms ∧ pq_Sh_sizeOf E mc17 ms18 (fun v20 G19 => 
    wo_ty G19 q6 = 14 ∧ ∃ mc22 ms23 : Nat, (((c + 1) + mc17) + mc22) ≤ mc ∧ (((s + 5) + ms18) + ms23) ≤ ms ∧ pq_Sd_init E mc22 ms23 (fun G24 => 
      ∃ a25 : Nat, r2 = some a25 ∧ wo_ty G24 a25 = 6 ∧ ∃ mc27 ms28 : Nat, ((((c + 1) + mc17) + mc22) + mc27) ≤ mc ∧ ((((s + 5) + ms18) + ms23) + ms28) ≤ ms ∧ pq_So_keep E mc27 ms28 (fun G29 => 
        pq_EC_takeRead_119 E mc ms Post G29 ((((c + 1) + mc17) + mc22) + mc27) ((((s + 5) + ms18) + ms23) + ms28)) G24 a25 (some q6)) G19 q6 x3 x2 (wo_gi G9 642 a11) v20) G9 a15 x3))
set_option maxRecDepth 100000 in
def pq_EC_takeRead_79 (E : wo_E) (mc ms : Nat) (Post : wo_W → Prop) (G : wo_W) (c s : Nat) (x0 : Nat) (x1 : Option Nat) (x2 : Option Nat) (x3 : Option Nat) : Prop := pq_EC_takeRead_84 E mc ms Post G c s x0 x1 x2 x3 (1 : Int32)
set_option maxRecDepth 100000 in
def pq_EC_takeRead_0 (E : wo_E) (mc ms : Nat) (Post : wo_W → Prop) (G : wo_W) (c s : Nat) (x0 : Nat) (x1 : Option Nat) : Prop := ∃ a1 : Nat, x1 = some a1 ∧ wo_ty G a1 = 11 ∧ ∀ r3 : Option Nat, r3 = wo_gr G 640 a1 → ∀ r5 : Option Nat, r5 = wo_gr G 644 a1 → ((r5 = none → wo_ty G x0 = 1 ∧ ∀ r9 : Option Nat, r9 = wo_gr G 2 x0 → ∃ a11 : Nat, r9 = some a11 ∧ wo_ty G a11 = 6 ∧ ∃ mc13 ms14 : Nat, (c + mc13) ≤ mc ∧ (s + ms14) ≤ ms ∧ pq_So_dropFitting E mc13 ms14 (fun G15 => 
    Post G15) G a11 r3) ∧
  (∀ a7 : Nat, r5 = some a7 → (((wo_gi G 646 a1) = (0 : Int32) → wo_ty G x0 = 1 ∧ ∀ r17 : Option Nat, r17 = wo_gr G 2 x0 → wo_ty G a7 = 13 ∧ ∃ a20 : Nat, r17 = some a20 ∧ wo_ty G a20 = 6 ∧ ∃ mc22 ms23 : Nat, (c + mc22) ≤ mc ∧ (s + ms23) ≤ ms ∧ pq_So_dropReplaced E mc22 ms23 (fun G24 => 
      wo_ty G24 a7 = 13 ∧ ∀ r26 : Option Nat, r26 = wo_gr G24 771 a7 → ∃ mc28 ms29 : Nat, ((c + mc22) + mc28) ≤ mc ∧ ((s + ms23) + ms29) ≤ ms ∧ pq_Tx_counts E mc28 ms29 (fun v31 G30 => 
        ((¬ v31 = (0 : Int32) → pq_EC_takeRead_79 E mc ms Post G30 ((c + mc22) + mc28) ((s + ms23) + ms29) x0 (some a1) r3 (some a7)) ∧
          (v31 = (0 : Int32) → wo_ty G30 a7 = 13 ∧ ∀ r33 : Option Nat, r33 = wo_gr G30 771 a7 → ∃ mc35 ms36 : Nat, (((c + mc22) + mc28) + mc35) ≤ mc ∧ (((s + ms23) + ms29) + ms36) ≤ ms ∧ pq_Tx_counts E mc35 ms36 (fun v38 G37 => 
            ((¬ v38 = (0 : Int32) → pq_EC_takeRead_79 E mc ms Post G37 (((c + mc22) + mc28) + mc35) (((s + ms23) + ms29) + ms36) x0 (some a1) r3 (some a7)) ∧
              (v38 = (0 : Int32) → ∃ a39 : Nat, r3 = some a39 ∧ wo_ty G37 a39 = 9 ∧ ∀ r41 : Option Nat, r41 = wo_gr G37 519 a39 → ∃ mc43 ms44 : Nat, ((((c + mc22) + mc28) + mc35) + mc43) ≤ mc ∧ ((((s + ms23) + ms29) + ms36) + ms44) ≤ ms ∧ pq_Tx_counts E mc43 ms44 (fun v46 G45 => 
                ((v46 = (0 : Int32) → pq_EC_takeRead_84 E mc ms Post G45 ((((c + mc22) + mc28) + mc35) + mc43) ((((s + ms23) + ms29) + ms36) + ms44) x0 (some a1) (some a39) (some a7) (0 : Int32)) ∧
                  (¬ v46 = (0 : Int32) → pq_EC_takeRead_79 E mc ms Post G45 ((((c + mc22) + mc28) + mc35) + mc43) ((((s + ms23) + ms29) + ms36) + ms44) x0 (some a1) (some a39) (some a7)))) G37 r41 (120 : Int32)))) G30 r33 (112 : Int32)))) G24 r26 (120 : Int32)) G a20 r3 (wo_gi G 772 a7)) ∧
    (¬ (wo_gi G 646 a1) = (0 : Int32) → Post G))))
def pq_EC_takeRead (E : wo_E) (mc ms : Nat) (Post : wo_W → Prop) (G : wo_W) (x0 : Nat) (x1 : Option Nat) : Prop := pq_EC_takeRead_0 E mc ms Post G 0 0 x0 x1
set_option maxRecDepth 100000 in
set_option maxHeartbeats 4000000 in
theorem tq_EC_takeRead_119 {p : Program} {l : Launch} {e : Env} {R : Room} {s₀ : State} {m : MethodId} {args : Array Value} {below : List Frame} {meth : Method} {cd : Code} {E : wo_E} {mc ms : Nat} {Post : wo_W → Prop} (hC : wo_Cx E "EdgeCache" prog_1_method_23_code 5 10 231 ((Option.none : Option Jvm.ClassFile.FieldType)) "takeRead" mc ms p R s₀ m args meth cd) : ∀ {G : wo_W} {c s : Nat}, pq_EC_takeRead_119 E mc ms Post G c s → ∀ {H : Heap} {locs : List Loc} {ls : Array Slot}, wo_Se E G H → va_S (en_A E) s₀.heap H locs → lx_has ls 5 [] → c ≤ mc → s ≤ ms → W p l e R s₀ m args below meth cd H locs c s (MQ below (va_Qv Post (wo_B E) (en_A E)) args s₀ mc ms (en_A E)) (F0 m 119 ls []) := by
  intro G c s hw H locs ls hG hS hl hcc hss
  dsimp only [pq_EC_takeRead_119] at hw
  have hx := hC.1
  have hb := hC.2.1
  exact wo_vret hC hG hS hcc hss hw dq_EC_takeRead_119
set_option maxRecDepth 100000 in
set_option maxHeartbeats 4000000 in
theorem tq_EC_takeRead_84 {p : Program} {l : Launch} {e : Env} {R : Room} {s₀ : State} {m : MethodId} {args : Array Value} {below : List Frame} {meth : Method} {cd : Code} {E : wo_E} {mc ms : Nat} {Post : wo_W → Prop} (hC : wo_Cx E "EdgeCache" prog_1_method_23_code 5 10 231 ((Option.none : Option Jvm.ClassFile.FieldType)) "takeRead" mc ms p R s₀ m args meth cd) : ∀ {G : wo_W} {c s : Nat} {x0 : Nat} {x1 : Option Nat} {x2 : Option Nat} {x3 : Option Nat} {y0 : Int32}, pq_EC_takeRead_84 E mc ms Post G c s x0 x1 x2 x3 y0 → ∀ {H : Heap} {locs : List Loc} {ls : Array Slot}, wo_Se E G H → va_S (en_A E) s₀.heap H locs → lx_has ls 5 [(0, 1, .ref x0), (1, 1, va_rf x1), (2, 1, va_rf x2), (3, 1, va_rf x3)] → c ≤ mc → s ≤ ms → W p l e R s₀ m args below meth cd H locs c s (MQ below (va_Qv Post (wo_B E) (en_A E)) args s₀ mc ms (en_A E)) (F0 m 84 ls [.int y0]) := by
  intro G c s x0 x1 x2 x3 y0 hw H locs ls hG hS hl hcc hss
  dsimp only [pq_EC_takeRead_84] at hw
  have hx := hC.1
  have hb := hC.2.1
  refine lx_istore (lv' := [(4, 1, .int y0), (0, 1, .ref x0), (1, 1, va_rf x1), (2, 1, va_rf x2), (3, 1, va_rf x3)]) hx hb dq_EC_takeRead_84 hl (by decide) rfl (fun ls hl' => ?_)
  clear hl
  have hl := hl'
  clear hl'
  refine lv_iload hx hb dq_EC_takeRead_86 (lx_at hl 0 rfl) ?_
  refine lv_if_ne (tgt := 119) hx hb dq_EC_takeRead_88 rfl (fun h => ?_) (fun h => ?_)
  · replace hw := hw.1 h
    exact tq_EC_takeRead_119 hC hw hG hS (lx_sub hl [] rfl) hcc hss
  · replace hw := hw.2 h
    refine lv_aload_n hx hb dq_EC_takeRead_91 rfl (lx_at hl 1 rfl) ?_
    obtain ⟨t1, hw⟩ := hw
    refine wo_getR hC fq_EC_56 rfl hG t1 dq_EC_takeRead_92 (fun r2 e3 => ?_)
    replace hw := hw r2 e3
    obtain ⟨h4, hw⟩ := hw
    obtain ⟨h5, hw⟩ := hw
    refine wo_newc hC nq_EC_203 hG hS h4 h5 dq_EC_takeRead_95 (fun q6 G9 H z7 b8 e10 hG hS => ?_)
    replace hw := hw q6 z7 b8 G9 e10
    replace hcc := h4
    replace hss := h5
    refine lv_dup hx hb dq_EC_takeRead_98 rfl ?_
    refine lx_aloadR_n hx hb dq_EC_takeRead_99 rfl (lx_at hl 4 rfl) ?_
    refine lx_aloadR_n hx hb dq_EC_takeRead_100 rfl (lx_at hl 3 rfl) ?_
    refine lx_aloadR_n hx hb dq_EC_takeRead_101 rfl (lx_at hl 2 rfl) ?_
    obtain ⟨a11, rfl, hw⟩ := hw
    obtain ⟨t12, hw⟩ := hw
    refine wo_getI hC fq_EC_102 rfl hG t12 dq_EC_takeRead_102 ?_
    refine lv_aload_n hx hb dq_EC_takeRead_105 rfl (lx_at hl 1 rfl) ?_
    refine wo_getR hC fq_EC_25 rfl hG (ty_new (by decide) z7 e10 t1) dq_EC_takeRead_106 (fun r13 e14 => ?_)
    replace hw := hw r13 e14
    refine lx_aloadR_n hx hb dq_EC_takeRead_109 rfl (lx_at hl 4 rfl) ?_
    obtain ⟨a15, rfl, hw⟩ := hw
    obtain ⟨t16, hw⟩ := hw
    obtain ⟨mc17, ms18, hc1, hs1, hw⟩ := hw
    refine va_calli (wo_runV hC lq_EC_262 (mq_Sh_sizeOf hw) hG hS t16 rfl (lx_sz hl) rfl (by simp only [List.map_cons, List.map_nil, List.sum_cons, List.sum_nil, lx_cR]; exact Nat.le_of_ble_eq_true rfl) (by decide) dq_EC_takeRead_110 ⟨hc1, hs1⟩) hS (fun _ _ h => h) (fun _ h => h) (fun v20 G19 t H locs ht hvm hw' hB _ _ hS => ?_)
    clear hw
    have hw := hw'
    clear hw'
    replace hG := wo_bk ht hB
    replace hcc := hc1
    replace hss := hs1
    obtain ⟨t21, hw⟩ := hw
    obtain ⟨mc22, ms23, hc1, hs1, hw⟩ := hw
    refine va_callv (wo_runI hC lq_EC_266 (mq_Sd_init hw) hG hS rfl (lx_sz hl) rfl (lx_rm (Nat.le_of_ble_eq_true rfl)) (by decide) dq_EC_takeRead_113 ⟨hc1, hs1⟩) hS (fun _ _ h => h) (fun _ h => h) (fun G24 t H locs ht hvm hw' hB _ _ hS => ?_)
    clear hw
    have hw := hw'
    clear hw'
    replace hG := wo_bk ht hB
    replace hcc := hc1
    replace hss := hs1
    obtain ⟨a25, rfl, hw⟩ := hw
    obtain ⟨t26, hw⟩ := hw
    obtain ⟨mc27, ms28, hc1, hs1, hw⟩ := hw
    refine va_callv (wo_runV hC lq_EC_269 (mq_So_keep hw) hG hS t26 rfl (lx_sz hl) rfl (Nat.zero_le _) (by decide) dq_EC_takeRead_116 ⟨hc1, hs1⟩) hS (fun _ _ h => h) (fun _ h => h) (fun G29 t H locs ht hvm hw' hB _ _ hS => ?_)
    clear hw
    have hw := hw'
    clear hw'
    replace hG := wo_bk ht hB
    replace hcc := hc1
    replace hss := hs1
    exact tq_EC_takeRead_119 hC hw hG hS (lx_sub hl [] rfl) hcc hss
set_option maxRecDepth 100000 in
set_option maxHeartbeats 4000000 in
theorem tq_EC_takeRead_79 {p : Program} {l : Launch} {e : Env} {R : Room} {s₀ : State} {m : MethodId} {args : Array Value} {below : List Frame} {meth : Method} {cd : Code} {E : wo_E} {mc ms : Nat} {Post : wo_W → Prop} (hC : wo_Cx E "EdgeCache" prog_1_method_23_code 5 10 231 ((Option.none : Option Jvm.ClassFile.FieldType)) "takeRead" mc ms p R s₀ m args meth cd) : ∀ {G : wo_W} {c s : Nat} {x0 : Nat} {x1 : Option Nat} {x2 : Option Nat} {x3 : Option Nat}, pq_EC_takeRead_79 E mc ms Post G c s x0 x1 x2 x3 → ∀ {H : Heap} {locs : List Loc} {ls : Array Slot}, wo_Se E G H → va_S (en_A E) s₀.heap H locs → lx_has ls 5 [(0, 1, .ref x0), (1, 1, va_rf x1), (2, 1, va_rf x2), (3, 1, va_rf x3)] → c ≤ mc → s ≤ ms → W p l e R s₀ m args below meth cd H locs c s (MQ below (va_Qv Post (wo_B E) (en_A E)) args s₀ mc ms (en_A E)) (F0 m 79 ls []) := by
  intro G c s x0 x1 x2 x3 hw H locs ls hG hS hl hcc hss
  dsimp only [pq_EC_takeRead_79] at hw
  have hx := hC.1
  have hb := hC.2.1
  refine lv_iconst (v := (1 : Int32)) hx hb dq_EC_takeRead_79 rfl ?_
  refine lv_goto (tgt := 84) hx hb dq_EC_takeRead_80 rfl ?_
  exact tq_EC_takeRead_84 hC hw hG hS (lx_sub hl [0, 1, 2, 3] rfl) hcc hss
set_option maxRecDepth 100000 in
set_option maxHeartbeats 4000000 in
theorem tq_EC_takeRead_0 {p : Program} {l : Launch} {e : Env} {R : Room} {s₀ : State} {m : MethodId} {args : Array Value} {below : List Frame} {meth : Method} {cd : Code} {E : wo_E} {mc ms : Nat} {Post : wo_W → Prop} (hC : wo_Cx E "EdgeCache" prog_1_method_23_code 5 10 231 ((Option.none : Option Jvm.ClassFile.FieldType)) "takeRead" mc ms p R s₀ m args meth cd) : ∀ {G : wo_W} {c s : Nat} {x0 : Nat} {x1 : Option Nat}, pq_EC_takeRead_0 E mc ms Post G c s x0 x1 → ∀ {H : Heap} {locs : List Loc} {ls : Array Slot}, wo_Se E G H → va_S (en_A E) s₀.heap H locs → lx_has ls 5 [(0, 1, .ref x0), (1, 1, va_rf x1)] → c ≤ mc → s ≤ ms → W p l e R s₀ m args below meth cd H locs c s (MQ below (va_Qv Post (wo_B E) (en_A E)) args s₀ mc ms (en_A E)) (F0 m 0 ls []) := by
  intro G c s x0 x1 hw H locs ls hG hS hl hcc hss
  dsimp only [pq_EC_takeRead_0] at hw
  have hx := hC.1
  have hb := hC.2.1
  refine lx_aloadR_n hx hb dq_EC_takeRead_0 rfl (lx_at hl 1 rfl) ?_
  obtain ⟨a1, rfl, hw⟩ := hw
  obtain ⟨t2, hw⟩ := hw
  refine wo_getR hC fq_EC_105 rfl hG t2 dq_EC_takeRead_1 (fun r3 e4 => ?_)
  replace hw := hw r3 e4
  refine lx_astoreR_n (lv' := [(2, 1, va_rf r3), (0, 1, .ref x0), (1, 1, .ref a1)]) hx hb dq_EC_takeRead_4 rfl hl (by decide) rfl (fun ls hl' => ?_)
  clear hl
  have hl := hl'
  clear hl'
  refine lv_aload_n hx hb dq_EC_takeRead_5 rfl (lx_at hl 2 rfl) ?_
  refine wo_getR hC fq_EC_243 rfl hG t2 dq_EC_takeRead_6 (fun r5 e6 => ?_)
  replace hw := hw r5 e6
  refine lx_astoreR_n (lv' := [(3, 1, va_rf r5), (2, 1, va_rf r3), (0, 1, .ref x0), (1, 1, .ref a1)]) hx hb dq_EC_takeRead_9 rfl hl (by decide) rfl (fun ls hl' => ?_)
  clear hl
  have hl := hl'
  clear hl'
  refine lx_aloadR_n hx hb dq_EC_takeRead_10 rfl (lx_at hl 0 rfl) ?_
  refine lx_ifnonnull (tgt := 23) hx hb dq_EC_takeRead_11 rfl (fun h => ?_) (fun a7 h => ?_)
  · replace hw := hw.1 h
    subst h
    refine lv_aload_n hx hb dq_EC_takeRead_14 rfl (lx_at hl 2 rfl) ?_
    obtain ⟨t8, hw⟩ := hw
    refine wo_getR hC fq_EC_56 rfl hG t8 dq_EC_takeRead_15 (fun r9 e10 => ?_)
    replace hw := hw r9 e10
    refine lx_aloadR_n hx hb dq_EC_takeRead_18 rfl (lx_at hl 1 rfl) ?_
    obtain ⟨a11, rfl, hw⟩ := hw
    obtain ⟨t12, hw⟩ := hw
    obtain ⟨mc13, ms14, hc1, hs1, hw⟩ := hw
    refine va_callv (wo_runV hC lq_EC_249 (mq_So_dropFitting hw) hG hS t12 rfl (lx_sz hl) rfl (Nat.zero_le _) (by decide) dq_EC_takeRead_19 ⟨hc1, hs1⟩) hS (fun _ _ h => h) (fun _ h => h) (fun G15 t H locs ht hvm hw' hB _ _ hS => ?_)
    clear hw
    have hw := hw'
    clear hw'
    replace hG := wo_bk ht hB
    replace hcc := hc1
    replace hss := hs1
    exact wo_vret hC hG hS hcc hss hw dq_EC_takeRead_22
  · replace hw := hw.2 a7 h
    subst h
    refine lv_aload_n hx hb dq_EC_takeRead_23 rfl (lx_at hl 3 rfl) ?_
    refine wo_getI hC fq_EC_252 rfl hG t2 dq_EC_takeRead_24 ?_
    refine lv_if_eq (tgt := 31) hx hb dq_EC_takeRead_27 rfl (fun h => ?_) (fun h => ?_)
    · replace hw := hw.1 h
      refine lv_aload_n hx hb dq_EC_takeRead_31 rfl (lx_at hl 2 rfl) ?_
      obtain ⟨t16, hw⟩ := hw
      refine wo_getR hC fq_EC_56 rfl hG t16 dq_EC_takeRead_32 (fun r17 e18 => ?_)
      replace hw := hw r17 e18
      refine lx_aloadR_n hx hb dq_EC_takeRead_35 rfl (lx_at hl 1 rfl) ?_
      refine lv_aload_n hx hb dq_EC_takeRead_36 rfl (lx_at hl 0 rfl) ?_
      obtain ⟨t19, hw⟩ := hw
      refine wo_getI hC fq_EC_255 rfl hG t19 dq_EC_takeRead_37 ?_
      obtain ⟨a20, rfl, hw⟩ := hw
      obtain ⟨t21, hw⟩ := hw
      obtain ⟨mc22, ms23, hc1, hs1, hw⟩ := hw
      refine va_callv (wo_runV hC lq_EC_258 (mq_So_dropReplaced hw) hG hS t21 rfl (lx_sz hl) rfl (Nat.zero_le _) (by decide) dq_EC_takeRead_40 ⟨hc1, hs1⟩) hS (fun _ _ h => h) (fun _ h => h) (fun G24 t H locs ht hvm hw' hB _ _ hS => ?_)
      clear hw
      have hw := hw'
      clear hw'
      replace hG := wo_bk ht hB
      replace hcc := hc1
      replace hss := hs1
      refine lv_aload_n hx hb dq_EC_takeRead_43 rfl (lx_at hl 0 rfl) ?_
      obtain ⟨t25, hw⟩ := hw
      refine wo_getR hC fq_EC_224 rfl hG t25 dq_EC_takeRead_44 (fun r26 e27 => ?_)
      replace hw := hw r26 e27
      refine lv_bipush (v := (120 : Int32)) hx hb dq_EC_takeRead_47 rfl ?_
      obtain ⟨mc28, ms29, hc1, hs1, hw⟩ := hw
      refine va_calli (wo_runS hC lq_EC_230 (mq_Tx_counts hw) hG hS rfl (lx_sz hl) rfl (Nat.zero_le _) (by decide) dq_EC_takeRead_49 ⟨hc1, hs1⟩) hS (fun _ _ h => h) (fun _ h => h) (fun v31 G30 t H locs ht hvm hw' hB _ _ hS => ?_)
      clear hw
      have hw := hw'
      clear hw'
      replace hG := wo_bk ht hB
      replace hcc := hc1
      replace hss := hs1
      refine lv_if_ne (tgt := 79) hx hb dq_EC_takeRead_52 rfl (fun h => ?_) (fun h => ?_)
      · replace hw := hw.1 h
        exact tq_EC_takeRead_79 hC hw hG hS (lx_sub hl [2, 3, 1, 0] rfl) hcc hss
      · replace hw := hw.2 h
        refine lv_aload_n hx hb dq_EC_takeRead_55 rfl (lx_at hl 0 rfl) ?_
        obtain ⟨t32, hw⟩ := hw
        refine wo_getR hC fq_EC_224 rfl hG t32 dq_EC_takeRead_56 (fun r33 e34 => ?_)
        replace hw := hw r33 e34
        refine lv_bipush (v := (112 : Int32)) hx hb dq_EC_takeRead_59 rfl ?_
        obtain ⟨mc35, ms36, hc1, hs1, hw⟩ := hw
        refine va_calli (wo_runS hC lq_EC_230 (mq_Tx_counts hw) hG hS rfl (lx_sz hl) rfl (Nat.zero_le _) (by decide) dq_EC_takeRead_61 ⟨hc1, hs1⟩) hS (fun _ _ h => h) (fun _ h => h) (fun v38 G37 t H locs ht hvm hw' hB _ _ hS => ?_)
        clear hw
        have hw := hw'
        clear hw'
        replace hG := wo_bk ht hB
        replace hcc := hc1
        replace hss := hs1
        refine lv_if_ne (tgt := 79) hx hb dq_EC_takeRead_64 rfl (fun h => ?_) (fun h => ?_)
        · replace hw := hw.1 h
          exact tq_EC_takeRead_79 hC hw hG hS (lx_sub hl [2, 3, 1, 0] rfl) hcc hss
        · replace hw := hw.2 h
          refine lx_aloadR_n hx hb dq_EC_takeRead_67 rfl (lx_at hl 1 rfl) ?_
          obtain ⟨a39, rfl, hw⟩ := hw
          obtain ⟨t40, hw⟩ := hw
          refine wo_getR hC fq_EC_236 rfl hG t40 dq_EC_takeRead_68 (fun r41 e42 => ?_)
          replace hw := hw r41 e42
          refine lv_bipush (v := (120 : Int32)) hx hb dq_EC_takeRead_71 rfl ?_
          obtain ⟨mc43, ms44, hc1, hs1, hw⟩ := hw
          refine va_calli (wo_runS hC lq_EC_230 (mq_Tx_counts hw) hG hS rfl (lx_sz hl) rfl (Nat.zero_le _) (by decide) dq_EC_takeRead_73 ⟨hc1, hs1⟩) hS (fun _ _ h => h) (fun _ h => h) (fun v46 G45 t H locs ht hvm hw' hB _ _ hS => ?_)
          clear hw
          have hw := hw'
          clear hw'
          replace hG := wo_bk ht hB
          replace hcc := hc1
          replace hss := hs1
          refine lv_if_eq (tgt := 83) hx hb dq_EC_takeRead_76 rfl (fun h => ?_) (fun h => ?_)
          · replace hw := hw.1 h
            refine lv_iconst (v := (0 : Int32)) hx hb dq_EC_takeRead_83 rfl ?_
            exact tq_EC_takeRead_84 hC hw hG hS (lx_sub hl [2, 3, 1, 0] rfl) hcc hss
          · replace hw := hw.2 h
            exact tq_EC_takeRead_79 hC hw hG hS (lx_sub hl [2, 3, 1, 0] rfl) hcc hss
    · replace hw := hw.2 h
      exact wo_vret hC hG hS hcc hss hw dq_EC_takeRead_30
set_option maxHeartbeats 4000000 in
theorem mq_EC_takeRead {l : Launch} {E : wo_E} {mc ms : Nat} {Post : wo_W → Prop} {G : wo_W} {x0 : Nat} {x1 : Option Nat} (hw : pq_EC_takeRead E mc ms Post G x0 x1) : Met l yq_EC_takeRead (Cond.code yq_EC_takeRead prog_1_method_23_code 5 ((Option.none : Option Jvm.ClassFile.FieldType)) :: vw_WG) { frames := 10, cells := mc, slots := ms, locals := 231 } (va_Pc [.ref x0, va_rf x1] (wo_Ok E G)) (va_Qv Post (wo_B E) (en_A E)) mc ms (en_A E) := by
  unfold pq_EC_takeRead at hw
  exact wo_met [(1, .ref x0), (1, va_rf x1)] rfl (by decide) (fun q hq => by simp only [List.mem_cons, List.not_mem_nil, or_false] at hq; rcases hq with rfl | rfl <;> first | rfl | exact lx_cR _) (Nat.le_of_ble_eq_true rfl) (fun p e R s m args below meth cd ls hC hG hS hl => tq_EC_takeRead_0 hC hw hG hS (lx_sub hl [0, 1] rfl) (Nat.zero_le _) (Nat.zero_le _))

theorem dq_So_dropPath_0 : decode prog_10_method_5_code 0 = .ok (.aload_n 0, 1) := by decide +kernel
theorem dq_So_dropPath_1 : decode prog_10_method_5_code 1 = .ok (.getfield 10, 3) := by decide +kernel
theorem dq_So_dropPath_4 : decode prog_10_method_5_code 4 = .ok (.invokevirtual 20, 3) := by decide +kernel
theorem dq_So_dropPath_7 : decode prog_10_method_5_code 7 = .ok (.iconst 1, 1) := by decide +kernel
theorem dq_So_dropPath_8 : decode prog_10_method_5_code 8 = .ok (.isub, 1) := by decide +kernel
theorem dq_So_dropPath_9 : decode prog_10_method_5_code 9 = .ok (.istore_n 2, 1) := by decide +kernel
theorem dq_So_dropPath_10 : decode prog_10_method_5_code 10 = .ok (.iload_n 2, 1) := by decide +kernel
theorem dq_So_dropPath_11 : decode prog_10_method_5_code 11 = .ok (.ifCond .lt 35, 3) := by decide +kernel
theorem dq_So_dropPath_14 : decode prog_10_method_5_code 14 = .ok (.aload_n 0, 1) := by decide +kernel
theorem dq_So_dropPath_15 : decode prog_10_method_5_code 15 = .ok (.getfield 10, 3) := by decide +kernel
theorem dq_So_dropPath_18 : decode prog_10_method_5_code 18 = .ok (.iload_n 2, 1) := by decide +kernel
theorem dq_So_dropPath_19 : decode prog_10_method_5_code 19 = .ok (.invokevirtual 24, 3) := by decide +kernel
theorem dq_So_dropPath_22 : decode prog_10_method_5_code 22 = .ok (.checkcast 28, 3) := by decide +kernel
theorem dq_So_dropPath_25 : decode prog_10_method_5_code 25 = .ok (.getfield 41, 3) := by decide +kernel
theorem dq_So_dropPath_28 : decode prog_10_method_5_code 28 = .ok (.aload_n 1, 1) := by decide +kernel
theorem dq_So_dropPath_29 : decode prog_10_method_5_code 29 = .ok (.invokevirtual 45, 3) := by decide +kernel
theorem dq_So_dropPath_32 : decode prog_10_method_5_code 32 = .ok (.ifCond .eq 8, 3) := by decide +kernel
theorem dq_So_dropPath_35 : decode prog_10_method_5_code 35 = .ok (.aload_n 0, 1) := by decide +kernel
theorem dq_So_dropPath_36 : decode prog_10_method_5_code 36 = .ok (.iload_n 2, 1) := by decide +kernel
theorem dq_So_dropPath_37 : decode prog_10_method_5_code 37 = .ok (.invokevirtual 50, 3) := by decide +kernel
theorem dq_So_dropPath_40 : decode prog_10_method_5_code 40 = .ok (.iinc 2 (-1), 3) := by decide +kernel
theorem dq_So_dropPath_43 : decode prog_10_method_5_code 43 = .ok (.goto (-33), 3) := by decide +kernel
theorem dq_So_dropPath_46 : decode prog_10_method_5_code 46 = .ok (.return_, 1) := by decide +kernel
set_option maxRecDepth 100000 in
def pq_So_dropPath_40 (E : wo_E) (mc ms : Nat) (Post : wo_W → Prop) (k10 : wo_W → Nat → Nat → Nat → Option Nat → Int32 → Prop) (G : wo_W) (c s : Nat) (x0 : Nat) (x1 : Option Nat) (x2 : Int32) : Prop := k10 G c s x0 x1 (x2 + (-1 : Int32))
set_option maxRecDepth 100000 in
def pq_So_dropPath_10 (E : wo_E) (mc ms : Nat) (Post : wo_W → Prop) : Nat → wo_W → Nat → Nat → Nat → Option Nat → Int32 → Prop
  | 0 => fun _ _ _ _ _ _ => False
  | n + 1 => fun G c s x0 x1 x2 => ((x2 < (0 : Int32) → Post G) ∧
  (¬ x2 < (0 : Int32) → wo_ty G x0 = 6 ∧ ∀ r2 : Option Nat, r2 = wo_gr G 320 x0 → ∃ a4 : Nat, r2 = some a4 ∧ wo_ty G a4 = 3 ∧ ∃ mc6 ms7 : Nat, (c + mc6) ≤ mc ∧ (s + ms7) ≤ ms ∧ pq_Al_get E mc6 ms7 (fun v9 G8 => 
    wo_is G8 14 v9 ∧ ∃ a11 : Nat, v9 = some a11 ∧ wo_ty G8 a11 = 14 ∧ ∀ r13 : Option Nat, r13 = wo_gr G8 833 a11 → ∃ a15 : Nat, r13 = some a15 ∧ wo_ty G8 a15 = 10 ∧ ∃ mc17 ms18 : Nat, ((c + mc6) + mc17) ≤ mc ∧ ((s + ms7) + ms18) ≤ ms ∧ pq_St_equals E mc17 ms18 (fun v20 G19 => 
      ((v20 = (0 : Int32) → pq_So_dropPath_40 E mc ms Post (pq_So_dropPath_10 E mc ms Post n) G19 ((c + mc6) + mc17) ((s + ms7) + ms18) x0 x1 x2) ∧
        (¬ v20 = (0 : Int32) → wo_ty G19 x0 = 6 ∧ ∃ mc22 ms23 : Nat, (((c + mc6) + mc17) + mc22) ≤ mc ∧ (((s + ms7) + ms18) + ms23) ≤ ms ∧ pq_So_drop E mc22 ms23 (fun G24 => 
          pq_So_dropPath_40 E mc ms Post (pq_So_dropPath_10 E mc ms Post n) G24 (((c + mc6) + mc17) + mc22) (((s + ms7) + ms18) + ms23) x0 x1 x2) G19 x0 x2))) G8 a15 x1) G a4 x2))
set_option maxRecDepth 100000 in
def pq_So_dropPath_0 (E : wo_E) (mc ms : Nat) (Post : wo_W → Prop) (G : wo_W) (c s : Nat) (x0 : Nat) (x1 : Option Nat) : Prop := wo_ty G x0 = 6 ∧ ∀ r2 : Option Nat, r2 = wo_gr G 320 x0 → ∃ a4 : Nat, r2 = some a4 ∧ wo_ty G a4 = 3 ∧ ∃ mc6 ms7 : Nat, (c + mc6) ≤ mc ∧ (s + ms7) ≤ ms ∧ pq_Al_size E mc6 ms7 (fun v9 G8 => 
  ∃ n1 : Nat, pq_So_dropPath_10 E mc ms Post n1 G8 (c + mc6) (s + ms7) x0 x1 (v9 - (1 : Int32))) G a4
def pq_So_dropPath (E : wo_E) (mc ms : Nat) (Post : wo_W → Prop) (G : wo_W) (x0 : Nat) (x1 : Option Nat) : Prop := pq_So_dropPath_0 E mc ms Post G 0 0 x0 x1
set_option maxRecDepth 100000 in
set_option maxHeartbeats 4000000 in
theorem tq_So_dropPath_40 {p : Program} {l : Launch} {e : Env} {R : Room} {s₀ : State} {m : MethodId} {args : Array Value} {below : List Frame} {meth : Method} {cd : Code} {E : wo_E} {mc ms : Nat} {Post : wo_W → Prop} {k10 : wo_W → Nat → Nat → Nat → Option Nat → Int32 → Prop} (hC : wo_Cx E "EdgeCache$Store" prog_10_method_5_code 3 4 95 ((Option.none : Option Jvm.ClassFile.FieldType)) "dropPath" mc ms p R s₀ m args meth cd) (hk10 : ∀ {G : wo_W} {c s : Nat} {x0 : Nat} {x1 : Option Nat} {x2 : Int32}, k10 G c s x0 x1 x2 → ∀ {H : Heap} {locs : List Loc} {ls : Array Slot}, wo_Se E G H → va_S (en_A E) s₀.heap H locs → lx_has ls 3 [(0, 1, .ref x0), (1, 1, va_rf x1), (2, 1, .int x2)] → c ≤ mc → s ≤ ms → W p l e R s₀ m args below meth cd H locs c s (MQ below (va_Qv Post (wo_B E) (en_A E)) args s₀ mc ms (en_A E)) (F0 m 10 ls [])) : ∀ {G : wo_W} {c s : Nat} {x0 : Nat} {x1 : Option Nat} {x2 : Int32}, pq_So_dropPath_40 E mc ms Post k10 G c s x0 x1 x2 → ∀ {H : Heap} {locs : List Loc} {ls : Array Slot}, wo_Se E G H → va_S (en_A E) s₀.heap H locs → lx_has ls 3 [(0, 1, .ref x0), (1, 1, va_rf x1), (2, 1, .int x2)] → c ≤ mc → s ≤ ms → W p l e R s₀ m args below meth cd H locs c s (MQ below (va_Qv Post (wo_B E) (en_A E)) args s₀ mc ms (en_A E)) (F0 m 40 ls []) := by
  intro G c s x0 x1 x2 hw H locs ls hG hS hl hcc hss
  dsimp only [pq_So_dropPath_40] at hw
  have hx := hC.1
  have hb := hC.2.1
  refine lx_iinc (k := 2) (v := (x2 + (-1 : Int32))) (lv' := [(2, 1, .int (x2 + (-1 : Int32))), (0, 1, .ref x0), (1, 1, va_rf x1)]) hx hb dq_So_dropPath_40 hl rfl rfl (by decide) rfl (fun ls hl' => ?_)
  clear hl
  have hl := hl'
  clear hl'
  refine lv_goto (tgt := 10) hx hb dq_So_dropPath_43 rfl ?_
  exact hk10 hw hG hS (lx_sub hl [1, 2, 0] rfl) hcc hss
set_option maxRecDepth 100000 in
set_option maxHeartbeats 4000000 in
theorem tq_So_dropPath_10 {p : Program} {l : Launch} {e : Env} {R : Room} {s₀ : State} {m : MethodId} {args : Array Value} {below : List Frame} {meth : Method} {cd : Code} {E : wo_E} {mc ms : Nat} {Post : wo_W → Prop} (hC : wo_Cx E "EdgeCache$Store" prog_10_method_5_code 3 4 95 ((Option.none : Option Jvm.ClassFile.FieldType)) "dropPath" mc ms p R s₀ m args meth cd) : ∀ n : Nat, ∀ {G : wo_W} {c s : Nat} {x0 : Nat} {x1 : Option Nat} {x2 : Int32}, pq_So_dropPath_10 E mc ms Post n G c s x0 x1 x2 → ∀ {H : Heap} {locs : List Loc} {ls : Array Slot}, wo_Se E G H → va_S (en_A E) s₀.heap H locs → lx_has ls 3 [(0, 1, .ref x0), (1, 1, va_rf x1), (2, 1, .int x2)] → c ≤ mc → s ≤ ms → W p l e R s₀ m args below meth cd H locs c s (MQ below (va_Qv Post (wo_B E) (en_A E)) args s₀ mc ms (en_A E)) (F0 m 10 ls []) := by
  intro n
  induction n with
  | zero => intro G c s x0 x1 x2 hw; exact hw.elim
  | succ n ih =>
    intro G c s x0 x1 x2 hw H locs ls hG hS hl hcc hss
    dsimp only [pq_So_dropPath_10] at hw
    have hx := hC.1
    have hb := hC.2.1
    refine lv_iload_n hx hb dq_So_dropPath_10 rfl (lx_at hl 2 rfl) ?_
    refine lv_if_lt (tgt := 46) hx hb dq_So_dropPath_11 rfl (fun h => ?_) (fun h => ?_)
    · replace hw := hw.1 h
      exact wo_vret hC hG hS hcc hss hw dq_So_dropPath_46
    · replace hw := hw.2 h
      refine lv_aload_n hx hb dq_So_dropPath_14 rfl (lx_at hl 0 rfl) ?_
      obtain ⟨t1, hw⟩ := hw
      refine wo_getR hC fq_So_10 rfl hG t1 dq_So_dropPath_15 (fun r2 e3 => ?_)
      replace hw := hw r2 e3
      refine lv_iload_n hx hb dq_So_dropPath_18 rfl (lx_at hl 2 rfl) ?_
      obtain ⟨a4, rfl, hw⟩ := hw
      obtain ⟨t5, hw⟩ := hw
      obtain ⟨mc6, ms7, hc1, hs1, hw⟩ := hw
      refine va_callq (wo_runV hC lq_So_24 (mq_Al_get hw) hG hS t5 rfl (lx_sz hl) rfl (Nat.zero_le _) (by decide) dq_So_dropPath_19 ⟨hc1, hs1⟩) hS (fun _ _ h => h) (fun _ h => h) (fun v9 G8 t H locs ht hvm hw' hB _ _ hS => ?_)
      clear hw
      have hw := hw'
      clear hw'
      replace hG := wo_bk ht hB
      replace hcc := hc1
      replace hss := hs1
      obtain ⟨h10, hw⟩ := hw
      refine wo_chk (x := v9) (c := 13) hC rfl kq_So_28 (Or.inl rfl) hG h10 dq_So_dropPath_22 ?_
      obtain ⟨a11, rfl, hw⟩ := hw
      obtain ⟨t12, hw⟩ := hw
      refine wo_getR hC fq_So_41 rfl hG t12 dq_So_dropPath_25 (fun r13 e14 => ?_)
      replace hw := hw r13 e14
      refine lx_aloadR_n hx hb dq_So_dropPath_28 rfl (lx_at hl 1 rfl) ?_
      obtain ⟨a15, rfl, hw⟩ := hw
      obtain ⟨t16, hw⟩ := hw
      obtain ⟨mc17, ms18, hc1, hs1, hw⟩ := hw
      refine va_calli (wo_runV hC lq_So_45 (mq_St_equals hw) hG hS t16 rfl (lx_sz hl) rfl (Nat.zero_le _) (by decide) dq_So_dropPath_29 ⟨hc1, hs1⟩) hS (fun _ _ h => h) (fun _ h => h) (fun v20 G19 t H locs ht hvm hw' hB _ _ hS => ?_)
      clear hw
      have hw := hw'
      clear hw'
      replace hG := wo_bk ht hB
      replace hcc := hc1
      replace hss := hs1
      refine lv_if_eq (tgt := 40) hx hb dq_So_dropPath_32 rfl (fun h => ?_) (fun h => ?_)
      · replace hw := hw.1 h
        exact tq_So_dropPath_40 hC ih hw hG hS (lx_sub hl [0, 1, 2] rfl) hcc hss
      · replace hw := hw.2 h
        refine lv_aload_n hx hb dq_So_dropPath_35 rfl (lx_at hl 0 rfl) ?_
        refine lv_iload_n hx hb dq_So_dropPath_36 rfl (lx_at hl 2 rfl) ?_
        obtain ⟨t21, hw⟩ := hw
        obtain ⟨mc22, ms23, hc1, hs1, hw⟩ := hw
        refine va_callv (wo_runV hC lq_So_50 (mq_So_drop hw) hG hS t21 rfl (lx_sz hl) rfl (Nat.zero_le _) (by decide) dq_So_dropPath_37 ⟨hc1, hs1⟩) hS (fun _ _ h => h) (fun _ h => h) (fun G24 t H locs ht hvm hw' hB _ _ hS => ?_)
        clear hw
        have hw := hw'
        clear hw'
        replace hG := wo_bk ht hB
        replace hcc := hc1
        replace hss := hs1
        exact tq_So_dropPath_40 hC ih hw hG hS (lx_sub hl [0, 1, 2] rfl) hcc hss
set_option maxRecDepth 100000 in
set_option maxHeartbeats 4000000 in
theorem tq_So_dropPath_0 {p : Program} {l : Launch} {e : Env} {R : Room} {s₀ : State} {m : MethodId} {args : Array Value} {below : List Frame} {meth : Method} {cd : Code} {E : wo_E} {mc ms : Nat} {Post : wo_W → Prop} (hC : wo_Cx E "EdgeCache$Store" prog_10_method_5_code 3 4 95 ((Option.none : Option Jvm.ClassFile.FieldType)) "dropPath" mc ms p R s₀ m args meth cd) : ∀ {G : wo_W} {c s : Nat} {x0 : Nat} {x1 : Option Nat}, pq_So_dropPath_0 E mc ms Post G c s x0 x1 → ∀ {H : Heap} {locs : List Loc} {ls : Array Slot}, wo_Se E G H → va_S (en_A E) s₀.heap H locs → lx_has ls 3 [(0, 1, .ref x0), (1, 1, va_rf x1)] → c ≤ mc → s ≤ ms → W p l e R s₀ m args below meth cd H locs c s (MQ below (va_Qv Post (wo_B E) (en_A E)) args s₀ mc ms (en_A E)) (F0 m 0 ls []) := by
  intro G c s x0 x1 hw H locs ls hG hS hl hcc hss
  dsimp only [pq_So_dropPath_0] at hw
  have hx := hC.1
  have hb := hC.2.1
  refine lv_aload_n hx hb dq_So_dropPath_0 rfl (lx_at hl 0 rfl) ?_
  obtain ⟨t1, hw⟩ := hw
  refine wo_getR hC fq_So_10 rfl hG t1 dq_So_dropPath_1 (fun r2 e3 => ?_)
  replace hw := hw r2 e3
  obtain ⟨a4, rfl, hw⟩ := hw
  obtain ⟨t5, hw⟩ := hw
  obtain ⟨mc6, ms7, hc1, hs1, hw⟩ := hw
  refine va_calli (wo_runV hC lq_So_20 (mq_Al_size hw) hG hS t5 rfl (lx_sz hl) rfl (Nat.zero_le _) (by decide) dq_So_dropPath_4 ⟨hc1, hs1⟩) hS (fun _ _ h => h) (fun _ h => h) (fun v9 G8 t H locs ht hvm hw' hB _ _ hS => ?_)
  clear hw
  have hw := hw'
  clear hw'
  replace hG := wo_bk ht hB
  replace hcc := hc1
  replace hss := hs1
  refine lv_iconst (v := (1 : Int32)) hx hb dq_So_dropPath_7 rfl ?_
  refine lv_isub hx hb dq_So_dropPath_8 ?_
  refine lx_istore_n (lv' := [(2, 1, .int (v9 - (1 : Int32))), (0, 1, .ref x0), (1, 1, va_rf x1)]) hx hb dq_So_dropPath_9 rfl hl (by decide) rfl (fun ls hl' => ?_)
  clear hl
  have hl := hl'
  clear hl'
  obtain ⟨n1, hw⟩ := hw
  exact tq_So_dropPath_10 hC n1 hw hG hS (lx_sub hl [1, 2, 0] rfl) hcc hss
set_option maxHeartbeats 4000000 in
theorem mq_So_dropPath {l : Launch} {E : wo_E} {mc ms : Nat} {Post : wo_W → Prop} {G : wo_W} {x0 : Nat} {x1 : Option Nat} (hw : pq_So_dropPath E mc ms Post G x0 x1) : Met l yq_So_dropPath (Cond.code yq_So_dropPath prog_10_method_5_code 3 ((Option.none : Option Jvm.ClassFile.FieldType)) :: vw_WG) { frames := 4, cells := mc, slots := ms, locals := 95 } (va_Pc [.ref x0, va_rf x1] (wo_Ok E G)) (va_Qv Post (wo_B E) (en_A E)) mc ms (en_A E) := by
  unfold pq_So_dropPath at hw
  exact wo_met [(1, .ref x0), (1, va_rf x1)] rfl (by decide) (fun q hq => by simp only [List.mem_cons, List.not_mem_nil, or_false] at hq; rcases hq with rfl | rfl <;> first | rfl | exact lx_cR _) (Nat.le_of_ble_eq_true rfl) (fun p e R s m args below meth cd ls hC hG hS hl => tq_So_dropPath_0 hC hw hG hS (lx_sub hl [0, 1] rfl) (Nat.zero_le _) (Nat.zero_le _))

theorem dq_EC_arrive_0 : decode prog_1_method_9_code 0 = .ok (.aload_n 0, 1) := by decide +kernel
theorem dq_EC_arrive_1 : decode prog_1_method_9_code 1 = .ok (.iload_n 1, 1) := by decide +kernel
theorem dq_EC_arrive_2 : decode prog_1_method_9_code 2 = .ok (.invokevirtual 125, 3) := by decide +kernel
theorem dq_EC_arrive_5 : decode prog_1_method_9_code 5 = .ok (.astore_n 2, 1) := by decide +kernel
theorem dq_EC_arrive_6 : decode prog_1_method_9_code 6 = .ok (.aload_n 2, 1) := by decide +kernel
theorem dq_EC_arrive_7 : decode prog_1_method_9_code 7 = .ok (.ifnull 10, 3) := by decide +kernel
theorem dq_EC_arrive_10 : decode prog_1_method_9_code 10 = .ok (.aload_n 2, 1) := by decide +kernel
theorem dq_EC_arrive_11 : decode prog_1_method_9_code 11 = .ok (.invokevirtual 129, 3) := by decide +kernel
theorem dq_EC_arrive_14 : decode prog_1_method_9_code 14 = .ok (.ifCond .ne 5, 3) := by decide +kernel
theorem dq_EC_arrive_17 : decode prog_1_method_9_code 17 = .ok (.iconst (-1), 1) := by decide +kernel
theorem dq_EC_arrive_18 : decode prog_1_method_9_code 18 = .ok (.ireturn, 1) := by decide +kernel
theorem dq_EC_arrive_19 : decode prog_1_method_9_code 19 = .ok (.aload_n 2, 1) := by decide +kernel
theorem dq_EC_arrive_20 : decode prog_1_method_9_code 20 = .ok (.getfield 105, 3) := by decide +kernel
theorem dq_EC_arrive_23 : decode prog_1_method_9_code 23 = .ok (.aload_n 0, 1) := by decide +kernel
theorem dq_EC_arrive_24 : decode prog_1_method_9_code 24 = .ok (.aload_n 2, 1) := by decide +kernel
theorem dq_EC_arrive_25 : decode prog_1_method_9_code 25 = .ok (.invokevirtual 139, 3) := by decide +kernel
theorem dq_EC_arrive_28 : decode prog_1_method_9_code 28 = .ok (.putfield 113, 3) := by decide +kernel
theorem dq_EC_arrive_31 : decode prog_1_method_9_code 31 = .ok (.aload_n 2, 1) := by decide +kernel
theorem dq_EC_arrive_32 : decode prog_1_method_9_code 32 = .ok (.getfield 105, 3) := by decide +kernel
theorem dq_EC_arrive_35 : decode prog_1_method_9_code 35 = .ok (.invokevirtual 143, 3) := by decide +kernel
theorem dq_EC_arrive_38 : decode prog_1_method_9_code 38 = .ok (.ifCond .eq 11, 3) := by decide +kernel
theorem dq_EC_arrive_41 : decode prog_1_method_9_code 41 = .ok (.aload_n 0, 1) := by decide +kernel
theorem dq_EC_arrive_42 : decode prog_1_method_9_code 42 = .ok (.aload_n 2, 1) := by decide +kernel
theorem dq_EC_arrive_43 : decode prog_1_method_9_code 43 = .ok (.invokevirtual 146, 3) := by decide +kernel
theorem dq_EC_arrive_46 : decode prog_1_method_9_code 46 = .ok (.goto 54, 3) := by decide +kernel
theorem dq_EC_arrive_49 : decode prog_1_method_9_code 49 = .ok (.aload_n 2, 1) := by decide +kernel
theorem dq_EC_arrive_50 : decode prog_1_method_9_code 50 = .ok (.getfield 136, 3) := by decide +kernel
theorem dq_EC_arrive_53 : decode prog_1_method_9_code 53 = .ok (.sipush 201, 3) := by decide +kernel
theorem dq_EC_arrive_56 : decode prog_1_method_9_code 56 = .ok (.if_icmp .eq 13, 3) := by decide +kernel
theorem dq_EC_arrive_59 : decode prog_1_method_9_code 59 = .ok (.aload_n 2, 1) := by decide +kernel
theorem dq_EC_arrive_60 : decode prog_1_method_9_code 60 = .ok (.getfield 136, 3) := by decide +kernel
theorem dq_EC_arrive_63 : decode prog_1_method_9_code 63 = .ok (.sipush 204, 3) := by decide +kernel
theorem dq_EC_arrive_66 : decode prog_1_method_9_code 66 = .ok (.if_icmp .ne 34, 3) := by decide +kernel
theorem dq_EC_arrive_69 : decode prog_1_method_9_code 69 = .ok (.aload_n 0, 1) := by decide +kernel
theorem dq_EC_arrive_70 : decode prog_1_method_9_code 70 = .ok (.getfield 56, 3) := by decide +kernel
theorem dq_EC_arrive_73 : decode prog_1_method_9_code 73 = .ok (.aload_n 2, 1) := by decide +kernel
theorem dq_EC_arrive_74 : decode prog_1_method_9_code 74 = .ok (.getfield 105, 3) := by decide +kernel
theorem dq_EC_arrive_77 : decode prog_1_method_9_code 77 = .ok (.getfield 149, 3) := by decide +kernel
theorem dq_EC_arrive_80 : decode prog_1_method_9_code 80 = .ok (.invokevirtual 152, 3) := by decide +kernel
theorem dq_EC_arrive_83 : decode prog_1_method_9_code 83 = .ok (.aload_n 0, 1) := by decide +kernel
theorem dq_EC_arrive_84 : decode prog_1_method_9_code 84 = .ok (.iconst 1, 1) := by decide +kernel
theorem dq_EC_arrive_85 : decode prog_1_method_9_code 85 = .ok (.iload_n 1, 1) := by decide +kernel
theorem dq_EC_arrive_86 : decode prog_1_method_9_code 86 = .ok (.isub, 1) := by decide +kernel
theorem dq_EC_arrive_87 : decode prog_1_method_9_code 87 = .ok (.invokevirtual 125, 3) := by decide +kernel
theorem dq_EC_arrive_90 : decode prog_1_method_9_code 90 = .ok (.aload_n 2, 1) := by decide +kernel
theorem dq_EC_arrive_91 : decode prog_1_method_9_code 91 = .ok (.getfield 105, 3) := by decide +kernel
theorem dq_EC_arrive_94 : decode prog_1_method_9_code 94 = .ok (.getfield 149, 3) := by decide +kernel
theorem dq_EC_arrive_97 : decode prog_1_method_9_code 97 = .ok (.invokestatic 156, 3) := by decide +kernel
theorem dq_EC_arrive_100 : decode prog_1_method_9_code 100 = .ok (.aload_n 0, 1) := by decide +kernel
theorem dq_EC_arrive_101 : decode prog_1_method_9_code 101 = .ok (.getfield 31, 3) := by decide +kernel
theorem dq_EC_arrive_104 : decode prog_1_method_9_code 104 = .ok (.iload_n 1, 1) := by decide +kernel
theorem dq_EC_arrive_105 : decode prog_1_method_9_code 105 = .ok (.aconst_null, 1) := by decide +kernel
theorem dq_EC_arrive_106 : decode prog_1_method_9_code 106 = .ok (.aastore, 1) := by decide +kernel
theorem dq_EC_arrive_107 : decode prog_1_method_9_code 107 = .ok (.aload_n 0, 1) := by decide +kernel
theorem dq_EC_arrive_108 : decode prog_1_method_9_code 108 = .ok (.invokevirtual 119, 3) := by decide +kernel
theorem dq_EC_arrive_111 : decode prog_1_method_9_code 111 = .ok (.aload_n 0, 1) := by decide +kernel
theorem dq_EC_arrive_112 : decode prog_1_method_9_code 112 = .ok (.invokevirtual 122, 3) := by decide +kernel
theorem dq_EC_arrive_115 : decode prog_1_method_9_code 115 = .ok (.aload_n 2, 1) := by decide +kernel
theorem dq_EC_arrive_116 : decode prog_1_method_9_code 116 = .ok (.getfield 136, 3) := by decide +kernel
theorem dq_EC_arrive_119 : decode prog_1_method_9_code 119 = .ok (.ireturn, 1) := by decide +kernel
set_option maxRecDepth 100000 in
def pq_EC_arrive_17 (E : wo_E) (mc ms : Nat) (Post : Int32 → wo_W → Prop) (G : wo_W) (c s : Nat) : Prop := Post (-1 : Int32) G
set_option maxRecDepth 100000 in
def pq_EC_arrive_100 (E : wo_E) (mc ms : Nat) (Post : Int32 → wo_W → Prop) (G : wo_W) (c s : Nat) (x0 : Nat) (x1 : Int32) (x2 : Option Nat) : Prop := wo_ty G x0 = 1 ∧ ∀ r2 : Option Nat, r2 = wo_gr G 4 x0 → ∃ a4 : Nat, r2 = some a4 ∧ wo_ty G a4 = 67 ∧ vp_in x1 (wo_len G a4) ∧ en_bs E ≤ a4 ∧ ∀ G8 : wo_W, G8 = wo_ser G a4 x1.toNatClampNeg none → 
  ∃ mc10 ms11 : Nat, (c + mc10) ≤ mc ∧ (s + ms11) ≤ ms ∧ pq_EC_sendWaiting E mc10 ms11 (fun G12 => 
  wo_ty G12 x0 = 1 ∧ ∃ mc14 ms15 : Nat, ((c + mc10) + mc14) ≤ mc ∧ ((s + ms11) + ms15) ≤ ms ∧ pq_EC_deliver E mc14 ms15 (fun G16 => 
    ∃ a17 : Nat, x2 = some a17 ∧ wo_ty G16 a17 = 11 ∧ Post (wo_gi G16 643 a17) G16) G12 x0) G8 x0
set_option maxRecDepth 100000 in
def pq_EC_arrive_69 (E : wo_E) (mc ms : Nat) (Post : Int32 → wo_W → Prop) (G : wo_W) (c s : Nat) (x0 : Nat) (x1 : Int32) (x2 : Option Nat) : Prop := wo_ty G x0 = 1 ∧ ∀ r2 : Option Nat, r2 = wo_gr G 2 x0 → ∃ a4 : Nat, x2 = some a4 ∧ wo_ty G a4 = 11 ∧ ∀ r6 : Option Nat, r6 = wo_gr G 640 a4 → ∃ a8 : Nat, r6 = some a8 ∧ wo_ty G a8 = 9 ∧ ∀ r10 : Option Nat, r10 = wo_gr G 513 a8 → ∃ a12 : Nat, r2 = some a12 ∧ wo_ty G a12 = 6 ∧ ∃ mc14 ms15 : Nat, (c + mc14) ≤ mc ∧ (s + ms15) ≤ ms ∧ pq_So_dropPath E mc14 ms15 (fun G16 => 
  wo_ty G16 x0 = 1 ∧ ∃ mc18 ms19 : Nat, ((c + mc14) + mc18) ≤ mc ∧ ((s + ms15) + ms19) ≤ ms ∧ pq_EC_jobOn E mc18 ms19 (fun v21 G20 => 
    wo_ty G20 a4 = 11 ∧ ∀ r23 : Option Nat, r23 = wo_gr G20 640 a4 → ∃ a25 : Nat, r23 = some a25 ∧ wo_ty G20 a25 = 9 ∧ ∀ r27 : Option Nat, r27 = wo_gr G20 513 a25 → ∃ mc29 ms30 : Nat, (((c + mc14) + mc18) + mc29) ≤ mc ∧ (((s + ms15) + ms19) + ms30) ≤ ms ∧ pq_EC_spoil E mc29 ms30 (fun G31 => 
      pq_EC_arrive_100 E mc ms Post G31 (((c + mc14) + mc18) + mc29) (((s + ms15) + ms19) + ms30) x0 x1 (some a4)) G20 v21 r27) G16 x0 ((1 : Int32) - x1)) G a12 r10
set_option maxRecDepth 100000 in
def pq_EC_arrive_0 (E : wo_E) (mc ms : Nat) (Post : Int32 → wo_W → Prop) (G : wo_W) (c s : Nat) (x0 : Nat) (x1 : Int32) : Prop := wo_ty G x0 = 1 ∧ ∃ mc2 ms3 : Nat, (c + mc2) ≤ mc ∧ (s + ms3) ≤ ms ∧ pq_EC_jobOn E mc2 ms3 (fun v5 G4 => 
  ((v5 = none → pq_EC_arrive_17 E mc ms Post G4 (c + mc2) (s + ms3)) ∧
    (∀ a6 : Nat, v5 = some a6 → wo_ty G4 a6 = 11 ∧ ∃ mc8 ms9 : Nat, ((c + mc2) + mc8) ≤ mc ∧ ((s + ms3) + ms9) ≤ ms ∧ pq_Jb_isDone E mc8 ms9 (fun v11 G10 => 
      ((¬ v11 = (0 : Int32) → wo_ty G10 a6 = 11 ∧ ∀ r13 : Option Nat, r13 = wo_gr G10 640 a6 → wo_ty G10 x0 = 1 ∧ ∃ mc16 ms17 : Nat, (((c + mc2) + mc8) + mc16) ≤ mc ∧ (((s + ms3) + ms9) + ms17) ≤ ms ∧ pq_EC_answerTo E mc16 ms17 (fun v19 G18 => 
          ∃ a20 : Nat, r13 = some a20 ∧ wo_ty G18 a20 = 9 ∧ en_bs E ≤ a20 ∧ ∀ G23 : wo_W, G23 = wo_sr G18 523 a20 v19 → 
            wo_ty G23 a6 = 11 ∧ ∀ r26 : Option Nat, r26 = wo_gr G23 640 a6 → ∃ a28 : Nat, r26 = some a28 ∧ wo_ty G23 a28 = 9 ∧ ∃ mc30 ms31 : Nat, ((((c + mc2) + mc8) + mc16) + mc30) ≤ mc ∧ ((((s + ms3) + ms9) + ms17) + ms31) ≤ ms ∧ pq_Rq_isRead E mc30 ms31 (fun v33 G32 => 
            ((v33 = (0 : Int32) → wo_ty G32 a6 = 11 ∧ (((wo_gi G32 643 a6) = (201 : Int32) → pq_EC_arrive_69 E mc ms Post G32 ((((c + mc2) + mc8) + mc16) + mc30) ((((s + ms3) + ms9) + ms17) + ms31) x0 x1 (some a6)) ∧
                (¬ (wo_gi G32 643 a6) = (201 : Int32) → ((¬ (wo_gi G32 643 a6) = (204 : Int32) → pq_EC_arrive_100 E mc ms Post G32 ((((c + mc2) + mc8) + mc16) + mc30) ((((s + ms3) + ms9) + ms17) + ms31) x0 x1 (some a6)) ∧
                  ((wo_gi G32 643 a6) = (204 : Int32) → pq_EC_arrive_69 E mc ms Post G32 ((((c + mc2) + mc8) + mc16) + mc30) ((((s + ms3) + ms9) + ms17) + ms31) x0 x1 (some a6)))))) ∧
              (¬ v33 = (0 : Int32) → wo_ty G32 x0 = 1 ∧ ∃ mc36 ms37 : Nat, (((((c + mc2) + mc8) + mc16) + mc30) + mc36) ≤ mc ∧ (((((s + ms3) + ms9) + ms17) + ms31) + ms37) ≤ ms ∧ pq_EC_takeRead E mc36 ms37 (fun G38 => 
                pq_EC_arrive_100 E mc ms Post G38 (((((c + mc2) + mc8) + mc16) + mc30) + mc36) (((((s + ms3) + ms9) + ms17) + ms31) + ms37) x0 x1 (some a6)) G32 x0 (some a6)))) G23 a28) G10 x0 (some a6)) ∧
        (v11 = (0 : Int32) → pq_EC_arrive_17 E mc ms Post G10 ((c + mc2) + mc8) ((s + ms3) + ms9)))) G4 a6))) G x0 x1
def pq_EC_arrive (E : wo_E) (mc ms : Nat) (Post : Int32 → wo_W → Prop) (G : wo_W) (x0 : Nat) (x1 : Int32) : Prop := pq_EC_arrive_0 E mc ms Post G 0 0 x0 x1
set_option maxRecDepth 100000 in
set_option maxHeartbeats 4000000 in
theorem tq_EC_arrive_17 {p : Program} {l : Launch} {e : Env} {R : Room} {s₀ : State} {m : MethodId} {args : Array Value} {below : List Frame} {meth : Method} {cd : Code} {E : wo_E} {mc ms : Nat} {Post : Int32 → wo_W → Prop} (hC : wo_Cx E "EdgeCache" prog_1_method_9_code 3 11 255 ((Option.some Jvm.ClassFile.FieldType.int)) "arrive" mc ms p R s₀ m args meth cd) : ∀ {G : wo_W} {c s : Nat}, pq_EC_arrive_17 E mc ms Post G c s → ∀ {H : Heap} {locs : List Loc} {ls : Array Slot}, wo_Se E G H → va_S (en_A E) s₀.heap H locs → lx_has ls 3 [] → c ≤ mc → s ≤ ms → W p l e R s₀ m args below meth cd H locs c s (MQ below (va_Qi Post (wo_B E) (en_A E)) args s₀ mc ms (en_A E)) (F0 m 17 ls []) := by
  intro G c s hw H locs ls hG hS hl hcc hss
  dsimp only [pq_EC_arrive_17] at hw
  have hx := hC.1
  have hb := hC.2.1
  refine lv_iconst (v := (-1 : Int32)) hx hb dq_EC_arrive_17 rfl ?_
  exact wo_iret hC hG hS hcc hss hw dq_EC_arrive_18
set_option maxRecDepth 100000 in
set_option maxHeartbeats 4000000 in
theorem tq_EC_arrive_100 {p : Program} {l : Launch} {e : Env} {R : Room} {s₀ : State} {m : MethodId} {args : Array Value} {below : List Frame} {meth : Method} {cd : Code} {E : wo_E} {mc ms : Nat} {Post : Int32 → wo_W → Prop} (hC : wo_Cx E "EdgeCache" prog_1_method_9_code 3 11 255 ((Option.some Jvm.ClassFile.FieldType.int)) "arrive" mc ms p R s₀ m args meth cd) : ∀ {G : wo_W} {c s : Nat} {x0 : Nat} {x1 : Int32} {x2 : Option Nat}, pq_EC_arrive_100 E mc ms Post G c s x0 x1 x2 → ∀ {H : Heap} {locs : List Loc} {ls : Array Slot}, wo_Se E G H → va_S (en_A E) s₀.heap H locs → lx_has ls 3 [(0, 1, .ref x0), (1, 1, .int x1), (2, 1, va_rf x2)] → c ≤ mc → s ≤ ms → W p l e R s₀ m args below meth cd H locs c s (MQ below (va_Qi Post (wo_B E) (en_A E)) args s₀ mc ms (en_A E)) (F0 m 100 ls []) := by
  intro G c s x0 x1 x2 hw H locs ls hG hS hl hcc hss
  dsimp only [pq_EC_arrive_100] at hw
  have hx := hC.1
  have hb := hC.2.1
  refine lv_aload_n hx hb dq_EC_arrive_100 rfl (lx_at hl 0 rfl) ?_
  obtain ⟨t1, hw⟩ := hw
  refine wo_getR hC fq_EC_31 rfl hG t1 dq_EC_arrive_101 (fun r2 e3 => ?_)
  replace hw := hw r2 e3
  refine lv_iload_n hx hb dq_EC_arrive_104 rfl (lx_at hl 1 rfl) ?_
  refine lv_null hx hb dq_EC_arrive_105 ?_
  obtain ⟨a4, rfl, hw⟩ := hw
  obtain ⟨t5, hw⟩ := hw
  obtain ⟨h6, hw⟩ := hw
  obtain ⟨h7, hw⟩ := hw
  refine wo_aast (x := none) (j := 3) hC rfl hG hS t5 h6 h7 (wo_may_n _ _) dq_EC_arrive_106 (fun G8 H locs e9 hG hS => ?_)
  replace hw := hw G8 e9
  refine lv_aload_n hx hb dq_EC_arrive_107 rfl (lx_at hl 0 rfl) ?_
  obtain ⟨mc10, ms11, hc1, hs1, hw⟩ := hw
  refine va_callv (wo_runV hC lq_EC_119 (mq_EC_sendWaiting hw) hG hS (ty_ser e9 t1) rfl (lx_sz hl) rfl (Nat.zero_le _) (by decide) dq_EC_arrive_108 ⟨hc1, hs1⟩) hS (fun _ _ h => h) (fun _ h => h) (fun G12 t H locs ht hvm hw' hB _ _ hS => ?_)
  clear hw
  have hw := hw'
  clear hw'
  replace hG := wo_bk ht hB
  replace hcc := hc1
  replace hss := hs1
  refine lv_aload_n hx hb dq_EC_arrive_111 rfl (lx_at hl 0 rfl) ?_
  obtain ⟨t13, hw⟩ := hw
  obtain ⟨mc14, ms15, hc1, hs1, hw⟩ := hw
  refine va_callv (wo_runV hC lq_EC_122 (mq_EC_deliver hw) hG hS t13 rfl (lx_sz hl) rfl (Nat.zero_le _) (by decide) dq_EC_arrive_112 ⟨hc1, hs1⟩) hS (fun _ _ h => h) (fun _ h => h) (fun G16 t H locs ht hvm hw' hB _ _ hS => ?_)
  clear hw
  have hw := hw'
  clear hw'
  replace hG := wo_bk ht hB
  replace hcc := hc1
  replace hss := hs1
  refine lx_aloadR_n hx hb dq_EC_arrive_115 rfl (lx_at hl 2 rfl) ?_
  obtain ⟨a17, rfl, hw⟩ := hw
  obtain ⟨t18, hw⟩ := hw
  refine wo_getI hC fq_EC_136 rfl hG t18 dq_EC_arrive_116 ?_
  exact wo_iret hC hG hS hcc hss hw dq_EC_arrive_119
set_option maxRecDepth 100000 in
set_option maxHeartbeats 4000000 in
theorem tq_EC_arrive_69 {p : Program} {l : Launch} {e : Env} {R : Room} {s₀ : State} {m : MethodId} {args : Array Value} {below : List Frame} {meth : Method} {cd : Code} {E : wo_E} {mc ms : Nat} {Post : Int32 → wo_W → Prop} (hC : wo_Cx E "EdgeCache" prog_1_method_9_code 3 11 255 ((Option.some Jvm.ClassFile.FieldType.int)) "arrive" mc ms p R s₀ m args meth cd) : ∀ {G : wo_W} {c s : Nat} {x0 : Nat} {x1 : Int32} {x2 : Option Nat}, pq_EC_arrive_69 E mc ms Post G c s x0 x1 x2 → ∀ {H : Heap} {locs : List Loc} {ls : Array Slot}, wo_Se E G H → va_S (en_A E) s₀.heap H locs → lx_has ls 3 [(0, 1, .ref x0), (1, 1, .int x1), (2, 1, va_rf x2)] → c ≤ mc → s ≤ ms → W p l e R s₀ m args below meth cd H locs c s (MQ below (va_Qi Post (wo_B E) (en_A E)) args s₀ mc ms (en_A E)) (F0 m 69 ls []) := by
  intro G c s x0 x1 x2 hw H locs ls hG hS hl hcc hss
  dsimp only [pq_EC_arrive_69] at hw
  have hx := hC.1
  have hb := hC.2.1
  refine lv_aload_n hx hb dq_EC_arrive_69 rfl (lx_at hl 0 rfl) ?_
  obtain ⟨t1, hw⟩ := hw
  refine wo_getR hC fq_EC_56 rfl hG t1 dq_EC_arrive_70 (fun r2 e3 => ?_)
  replace hw := hw r2 e3
  refine lx_aloadR_n hx hb dq_EC_arrive_73 rfl (lx_at hl 2 rfl) ?_
  obtain ⟨a4, rfl, hw⟩ := hw
  obtain ⟨t5, hw⟩ := hw
  refine wo_getR hC fq_EC_105 rfl hG t5 dq_EC_arrive_74 (fun r6 e7 => ?_)
  replace hw := hw r6 e7
  obtain ⟨a8, rfl, hw⟩ := hw
  obtain ⟨t9, hw⟩ := hw
  refine wo_getR hC fq_EC_149 rfl hG t9 dq_EC_arrive_77 (fun r10 e11 => ?_)
  replace hw := hw r10 e11
  obtain ⟨a12, rfl, hw⟩ := hw
  obtain ⟨t13, hw⟩ := hw
  obtain ⟨mc14, ms15, hc1, hs1, hw⟩ := hw
  refine va_callv (wo_runV hC lq_EC_152 (mq_So_dropPath hw) hG hS t13 rfl (lx_sz hl) rfl (Nat.zero_le _) (by decide) dq_EC_arrive_80 ⟨hc1, hs1⟩) hS (fun _ _ h => h) (fun _ h => h) (fun G16 t H locs ht hvm hw' hB _ _ hS => ?_)
  clear hw
  have hw := hw'
  clear hw'
  replace hG := wo_bk ht hB
  replace hcc := hc1
  replace hss := hs1
  refine lv_aload_n hx hb dq_EC_arrive_83 rfl (lx_at hl 0 rfl) ?_
  refine lv_iconst (v := (1 : Int32)) hx hb dq_EC_arrive_84 rfl ?_
  refine lv_iload_n hx hb dq_EC_arrive_85 rfl (lx_at hl 1 rfl) ?_
  refine lv_isub hx hb dq_EC_arrive_86 ?_
  obtain ⟨t17, hw⟩ := hw
  obtain ⟨mc18, ms19, hc1, hs1, hw⟩ := hw
  refine va_callq (wo_runV hC lq_EC_125 (mq_EC_jobOn hw) hG hS t17 rfl (lx_sz hl) rfl (Nat.zero_le _) (by decide) dq_EC_arrive_87 ⟨hc1, hs1⟩) hS (fun _ _ h => h) (fun _ h => h) (fun v21 G20 t H locs ht hvm hw' hB _ _ hS => ?_)
  clear hw
  have hw := hw'
  clear hw'
  replace hG := wo_bk ht hB
  replace hcc := hc1
  replace hss := hs1
  refine lv_aload_n hx hb dq_EC_arrive_90 rfl (lx_at hl 2 rfl) ?_
  obtain ⟨t22, hw⟩ := hw
  refine wo_getR hC fq_EC_105 rfl hG t22 dq_EC_arrive_91 (fun r23 e24 => ?_)
  replace hw := hw r23 e24
  obtain ⟨a25, rfl, hw⟩ := hw
  obtain ⟨t26, hw⟩ := hw
  refine wo_getR hC fq_EC_149 rfl hG t26 dq_EC_arrive_94 (fun r27 e28 => ?_)
  replace hw := hw r27 e28
  obtain ⟨mc29, ms30, hc1, hs1, hw⟩ := hw
  refine va_callv (wo_runS hC lq_EC_156 (mq_EC_spoil hw) hG hS rfl (lx_sz hl) rfl (Nat.zero_le _) (by decide) dq_EC_arrive_97 ⟨hc1, hs1⟩) hS (fun _ _ h => h) (fun _ h => h) (fun G31 t H locs ht hvm hw' hB _ _ hS => ?_)
  clear hw
  have hw := hw'
  clear hw'
  replace hG := wo_bk ht hB
  replace hcc := hc1
  replace hss := hs1
  exact tq_EC_arrive_100 hC hw hG hS (lx_sub hl [0, 1, 2] rfl) hcc hss
set_option maxRecDepth 100000 in
set_option maxHeartbeats 4000000 in
theorem tq_EC_arrive_0 {p : Program} {l : Launch} {e : Env} {R : Room} {s₀ : State} {m : MethodId} {args : Array Value} {below : List Frame} {meth : Method} {cd : Code} {E : wo_E} {mc ms : Nat} {Post : Int32 → wo_W → Prop} (hC : wo_Cx E "EdgeCache" prog_1_method_9_code 3 11 255 ((Option.some Jvm.ClassFile.FieldType.int)) "arrive" mc ms p R s₀ m args meth cd) : ∀ {G : wo_W} {c s : Nat} {x0 : Nat} {x1 : Int32}, pq_EC_arrive_0 E mc ms Post G c s x0 x1 → ∀ {H : Heap} {locs : List Loc} {ls : Array Slot}, wo_Se E G H → va_S (en_A E) s₀.heap H locs → lx_has ls 3 [(0, 1, .ref x0), (1, 1, .int x1)] → c ≤ mc → s ≤ ms → W p l e R s₀ m args below meth cd H locs c s (MQ below (va_Qi Post (wo_B E) (en_A E)) args s₀ mc ms (en_A E)) (F0 m 0 ls []) := by
  intro G c s x0 x1 hw H locs ls hG hS hl hcc hss
  dsimp only [pq_EC_arrive_0] at hw
  have hx := hC.1
  have hb := hC.2.1
  refine lv_aload_n hx hb dq_EC_arrive_0 rfl (lx_at hl 0 rfl) ?_
  refine lv_iload_n hx hb dq_EC_arrive_1 rfl (lx_at hl 1 rfl) ?_
  obtain ⟨t1, hw⟩ := hw
  obtain ⟨mc2, ms3, hc1, hs1, hw⟩ := hw
  refine va_callq (wo_runV hC lq_EC_125 (mq_EC_jobOn hw) hG hS t1 rfl (lx_sz hl) rfl (Nat.zero_le _) (by decide) dq_EC_arrive_2 ⟨hc1, hs1⟩) hS (fun _ _ h => h) (fun _ h => h) (fun v5 G4 t H locs ht hvm hw' hB _ _ hS => ?_)
  clear hw
  have hw := hw'
  clear hw'
  replace hG := wo_bk ht hB
  replace hcc := hc1
  replace hss := hs1
  refine lx_astoreR_n (lv' := [(2, 1, va_rf v5), (0, 1, .ref x0), (1, 1, .int x1)]) hx hb dq_EC_arrive_5 rfl hl (by decide) rfl (fun ls hl' => ?_)
  clear hl
  have hl := hl'
  clear hl'
  refine lx_aloadR_n hx hb dq_EC_arrive_6 rfl (lx_at hl 0 rfl) ?_
  refine lx_ifnull (tgt := 17) hx hb dq_EC_arrive_7 rfl (fun h => ?_) (fun a6 h => ?_)
  · replace hw := hw.1 h
    subst h
    exact tq_EC_arrive_17 hC hw hG hS (lx_sub hl [] rfl) hcc hss
  · replace hw := hw.2 a6 h
    subst h
    refine lv_aload_n hx hb dq_EC_arrive_10 rfl (lx_at hl 0 rfl) ?_
    obtain ⟨t7, hw⟩ := hw
    obtain ⟨mc8, ms9, hc1, hs1, hw⟩ := hw
    refine va_calli (wo_runV hC lq_EC_129 (mq_Jb_isDone hw) hG hS t7 rfl (lx_sz hl) rfl (Nat.zero_le _) (by decide) dq_EC_arrive_11 ⟨hc1, hs1⟩) hS (fun _ _ h => h) (fun _ h => h) (fun v11 G10 t H locs ht hvm hw' hB _ _ hS => ?_)
    clear hw
    have hw := hw'
    clear hw'
    replace hG := wo_bk ht hB
    replace hcc := hc1
    replace hss := hs1
    refine lv_if_ne (tgt := 19) hx hb dq_EC_arrive_14 rfl (fun h => ?_) (fun h => ?_)
    · replace hw := hw.1 h
      refine lv_aload_n hx hb dq_EC_arrive_19 rfl (lx_at hl 0 rfl) ?_
      obtain ⟨t12, hw⟩ := hw
      refine wo_getR hC fq_EC_105 rfl hG t12 dq_EC_arrive_20 (fun r13 e14 => ?_)
      replace hw := hw r13 e14
      refine lv_aload_n hx hb dq_EC_arrive_23 rfl (lx_at hl 1 rfl) ?_
      refine lv_aload_n hx hb dq_EC_arrive_24 rfl (lx_at hl 0 rfl) ?_
      obtain ⟨t15, hw⟩ := hw
      obtain ⟨mc16, ms17, hc1, hs1, hw⟩ := hw
      refine va_callq (wo_runV hC lq_EC_139 (mq_EC_answerTo hw) hG hS t15 rfl (lx_sz hl) rfl (lx_rm (Nat.le_of_ble_eq_true rfl)) (by decide) dq_EC_arrive_25 ⟨hc1, hs1⟩) hS (fun _ _ h => h) (fun _ h => h) (fun v19 G18 t H locs ht hvm hw' hB _ _ hS => ?_)
      clear hw
      have hw := hw'
      clear hw'
      replace hG := wo_bk ht hB
      replace hcc := hc1
      replace hss := hs1
      obtain ⟨a20, rfl, hw⟩ := hw
      obtain ⟨t21, hw⟩ := hw
      obtain ⟨h22, hw⟩ := hw
      refine wo_putR (x := v19) hC fq_EC_113 (Or.inl rfl) rfl hG hS t21 h22 dq_EC_arrive_28 (fun G23 H locs e24 hG hS => ?_)
      replace hw := hw G23 e24
      refine lv_aload_n hx hb dq_EC_arrive_31 rfl (lx_at hl 0 rfl) ?_
      obtain ⟨t25, hw⟩ := hw
      refine wo_getR hC fq_EC_105 rfl hG t25 dq_EC_arrive_32 (fun r26 e27 => ?_)
      replace hw := hw r26 e27
      obtain ⟨a28, rfl, hw⟩ := hw
      obtain ⟨t29, hw⟩ := hw
      obtain ⟨mc30, ms31, hc1, hs1, hw⟩ := hw
      refine va_calli (wo_runV hC lq_EC_143 (mq_Rq_isRead hw) hG hS t29 rfl (lx_sz hl) rfl (Nat.zero_le _) (by decide) dq_EC_arrive_35 ⟨hc1, hs1⟩) hS (fun _ _ h => h) (fun _ h => h) (fun v33 G32 t H locs ht hvm hw' hB _ _ hS => ?_)
      clear hw
      have hw := hw'
      clear hw'
      replace hG := wo_bk ht hB
      replace hcc := hc1
      replace hss := hs1
      refine lv_if_eq (tgt := 49) hx hb dq_EC_arrive_38 rfl (fun h => ?_) (fun h => ?_)
      · replace hw := hw.1 h
        refine lv_aload_n hx hb dq_EC_arrive_49 rfl (lx_at hl 0 rfl) ?_
        obtain ⟨t34, hw⟩ := hw
        refine wo_getI hC fq_EC_136 rfl hG t34 dq_EC_arrive_50 ?_
        refine lv_sipush (v := (201 : Int32)) hx hb dq_EC_arrive_53 rfl ?_
        refine lv_icmp_eq (tgt := 69) hx hb dq_EC_arrive_56 rfl (fun h => ?_) (fun h => ?_)
        · replace hw := hw.1 h
          exact tq_EC_arrive_69 hC hw hG hS (lx_sub hl [1, 2, 0] rfl) hcc hss
        · replace hw := hw.2 h
          refine lv_aload_n hx hb dq_EC_arrive_59 rfl (lx_at hl 0 rfl) ?_
          refine wo_getI hC fq_EC_136 rfl hG t34 dq_EC_arrive_60 ?_
          refine lv_sipush (v := (204 : Int32)) hx hb dq_EC_arrive_63 rfl ?_
          refine lv_icmp_ne (tgt := 100) hx hb dq_EC_arrive_66 rfl (fun h => ?_) (fun h => ?_)
          · replace hw := hw.1 h
            exact tq_EC_arrive_100 hC hw hG hS (lx_sub hl [1, 2, 0] rfl) hcc hss
          · replace hw := hw.2 h
            exact tq_EC_arrive_69 hC hw hG hS (lx_sub hl [1, 2, 0] rfl) hcc hss
      · replace hw := hw.2 h
        refine lv_aload_n hx hb dq_EC_arrive_41 rfl (lx_at hl 1 rfl) ?_
        refine lv_aload_n hx hb dq_EC_arrive_42 rfl (lx_at hl 0 rfl) ?_
        obtain ⟨t35, hw⟩ := hw
        obtain ⟨mc36, ms37, hc1, hs1, hw⟩ := hw
        refine va_callv (wo_runV hC lq_EC_146 (mq_EC_takeRead hw) hG hS t35 rfl (lx_sz hl) rfl (Nat.zero_le _) (by decide) dq_EC_arrive_43 ⟨hc1, hs1⟩) hS (fun _ _ h => h) (fun _ h => h) (fun G38 t H locs ht hvm hw' hB _ _ hS => ?_)
        clear hw
        have hw := hw'
        clear hw'
        replace hG := wo_bk ht hB
        replace hcc := hc1
        replace hss := hs1
        refine lv_goto (tgt := 100) hx hb dq_EC_arrive_46 rfl ?_
        exact tq_EC_arrive_100 hC hw hG hS (lx_sub hl [1, 2, 0] rfl) hcc hss
    · replace hw := hw.2 h
      exact tq_EC_arrive_17 hC hw hG hS (lx_sub hl [] rfl) hcc hss
set_option maxHeartbeats 4000000 in
theorem mq_EC_arrive {l : Launch} {E : wo_E} {mc ms : Nat} {Post : Int32 → wo_W → Prop} {G : wo_W} {x0 : Nat} {x1 : Int32} (hw : pq_EC_arrive E mc ms Post G x0 x1) : Met l yq_EC_arrive (Cond.code yq_EC_arrive prog_1_method_9_code 3 ((Option.some Jvm.ClassFile.FieldType.int)) :: vw_WG) { frames := 11, cells := mc, slots := ms, locals := 255 } (va_Pc [.ref x0, .int x1] (wo_Ok E G)) (va_Qi Post (wo_B E) (en_A E)) mc ms (en_A E) := by
  unfold pq_EC_arrive at hw
  exact wo_met [(1, .ref x0), (1, .int x1)] rfl (by decide) (fun q hq => by simp only [List.mem_cons, List.not_mem_nil, or_false] at hq; rcases hq with rfl | rfl <;> first | rfl | exact lx_cR _) (Nat.le_of_ble_eq_true rfl) (fun p e R s m args below meth cd ls hC hG hS hl => tq_EC_arrive_0 hC hw hG hS (lx_sub hl [0, 1] rfl) (Nat.zero_le _) (Nat.zero_le _))

theorem dq_EC_upstream_0 : decode prog_1_method_10_code 0 = .ok (.iload_n 1, 1) := by decide +kernel
theorem dq_EC_upstream_1 : decode prog_1_method_10_code 1 = .ok (.invokestatic 160, 3) := by decide +kernel
theorem dq_EC_upstream_4 : decode prog_1_method_10_code 4 = .ok (.ifCond .ne 5, 3) := by decide +kernel
theorem dq_EC_upstream_7 : decode prog_1_method_10_code 7 = .ok (.iconst (-1), 1) := by decide +kernel
theorem dq_EC_upstream_8 : decode prog_1_method_10_code 8 = .ok (.ireturn, 1) := by decide +kernel
theorem dq_EC_upstream_9 : decode prog_1_method_10_code 9 = .ok (.aload_n 0, 1) := by decide +kernel
theorem dq_EC_upstream_10 : decode prog_1_method_10_code 10 = .ok (.getfield 31, 3) := by decide +kernel
theorem dq_EC_upstream_13 : decode prog_1_method_10_code 13 = .ok (.iload_n 1, 1) := by decide +kernel
theorem dq_EC_upstream_14 : decode prog_1_method_10_code 14 = .ok (.aaload, 1) := by decide +kernel
theorem dq_EC_upstream_15 : decode prog_1_method_10_code 15 = .ok (.astore_n 2, 1) := by decide +kernel
theorem dq_EC_upstream_16 : decode prog_1_method_10_code 16 = .ok (.aload_n 2, 1) := by decide +kernel
theorem dq_EC_upstream_17 : decode prog_1_method_10_code 17 = .ok (.ifnonnull 5, 3) := by decide +kernel
theorem dq_EC_upstream_20 : decode prog_1_method_10_code 20 = .ok (.iconst 0, 1) := by decide +kernel
theorem dq_EC_upstream_21 : decode prog_1_method_10_code 21 = .ok (.ireturn, 1) := by decide +kernel
theorem dq_EC_upstream_22 : decode prog_1_method_10_code 22 = .ok (.aload_n 2, 1) := by decide +kernel
theorem dq_EC_upstream_23 : decode prog_1_method_10_code 23 = .ok (.invokevirtual 129, 3) := by decide +kernel
theorem dq_EC_upstream_26 : decode prog_1_method_10_code 26 = .ok (.ifCond .eq 7, 3) := by decide +kernel
theorem dq_EC_upstream_29 : decode prog_1_method_10_code 29 = .ok (.iconst 2, 1) := by decide +kernel
theorem dq_EC_upstream_30 : decode prog_1_method_10_code 30 = .ok (.goto 4, 3) := by decide +kernel
theorem dq_EC_upstream_33 : decode prog_1_method_10_code 33 = .ok (.iconst 1, 1) := by decide +kernel
theorem dq_EC_upstream_34 : decode prog_1_method_10_code 34 = .ok (.ireturn, 1) := by decide +kernel
set_option maxRecDepth 100000 in
def pq_EC_upstream_34 (E : wo_E) (mc ms : Nat) (Post : Int32 → wo_W → Prop) (G : wo_W) (c s : Nat) (y0 : Int32) : Prop := Post y0 G
set_option maxRecDepth 100000 in
def pq_EC_upstream_0 (E : wo_E) (mc ms : Nat) (Post : Int32 → wo_W → Prop) (G : wo_W) (c s : Nat) (x0 : Nat) (x1 : Int32) : Prop := ∃ mc1 ms2 : Nat, (c + mc1) ≤ mc ∧ (s + ms2) ≤ ms ∧ pq_EC_isUpstream E mc1 ms2 (fun v4 G3 => 
  ((¬ v4 = (0 : Int32) → wo_ty G3 x0 = 1 ∧ ∀ r6 : Option Nat, r6 = wo_gr G3 4 x0 → ∃ a8 : Nat, r6 = some a8 ∧ wo_ty G3 a8 = 67 ∧ vp_in x1 (wo_len G3 a8) ∧ ∀ r11 : Option Nat, r11 = wo_er G3 a8 x1.toNatClampNeg → ((r11 = none → Post (0 : Int32) G3) ∧
      (∀ a13 : Nat, r11 = some a13 → wo_ty G3 a13 = 11 ∧ ∃ mc15 ms16 : Nat, ((c + mc1) + mc15) ≤ mc ∧ ((s + ms2) + ms16) ≤ ms ∧ pq_Jb_isDone E mc15 ms16 (fun v18 G17 => 
        ((v18 = (0 : Int32) → pq_EC_upstream_34 E mc ms Post G17 ((c + mc1) + mc15) ((s + ms2) + ms16) (1 : Int32)) ∧
          (¬ v18 = (0 : Int32) → pq_EC_upstream_34 E mc ms Post G17 ((c + mc1) + mc15) ((s + ms2) + ms16) (2 : Int32)))) G3 a13))) ∧
    (v4 = (0 : Int32) → Post (-1 : Int32) G3))) G x1
def pq_EC_upstream (E : wo_E) (mc ms : Nat) (Post : Int32 → wo_W → Prop) (G : wo_W) (x0 : Nat) (x1 : Int32) : Prop := pq_EC_upstream_0 E mc ms Post G 0 0 x0 x1
set_option maxRecDepth 100000 in
set_option maxHeartbeats 4000000 in
theorem tq_EC_upstream_34 {p : Program} {l : Launch} {e : Env} {R : Room} {s₀ : State} {m : MethodId} {args : Array Value} {below : List Frame} {meth : Method} {cd : Code} {E : wo_E} {mc ms : Nat} {Post : Int32 → wo_W → Prop} (hC : wo_Cx E "EdgeCache" prog_1_method_10_code 3 1 20 ((Option.some Jvm.ClassFile.FieldType.int)) "upstream" mc ms p R s₀ m args meth cd) : ∀ {G : wo_W} {c s : Nat} {y0 : Int32}, pq_EC_upstream_34 E mc ms Post G c s y0 → ∀ {H : Heap} {locs : List Loc} {ls : Array Slot}, wo_Se E G H → va_S (en_A E) s₀.heap H locs → lx_has ls 3 [] → c ≤ mc → s ≤ ms → W p l e R s₀ m args below meth cd H locs c s (MQ below (va_Qi Post (wo_B E) (en_A E)) args s₀ mc ms (en_A E)) (F0 m 34 ls [.int y0]) := by
  intro G c s y0 hw H locs ls hG hS hl hcc hss
  dsimp only [pq_EC_upstream_34] at hw
  have hx := hC.1
  have hb := hC.2.1
  exact wo_iret hC hG hS hcc hss hw dq_EC_upstream_34
set_option maxRecDepth 100000 in
set_option maxHeartbeats 4000000 in
theorem tq_EC_upstream_0 {p : Program} {l : Launch} {e : Env} {R : Room} {s₀ : State} {m : MethodId} {args : Array Value} {below : List Frame} {meth : Method} {cd : Code} {E : wo_E} {mc ms : Nat} {Post : Int32 → wo_W → Prop} (hC : wo_Cx E "EdgeCache" prog_1_method_10_code 3 1 20 ((Option.some Jvm.ClassFile.FieldType.int)) "upstream" mc ms p R s₀ m args meth cd) : ∀ {G : wo_W} {c s : Nat} {x0 : Nat} {x1 : Int32}, pq_EC_upstream_0 E mc ms Post G c s x0 x1 → ∀ {H : Heap} {locs : List Loc} {ls : Array Slot}, wo_Se E G H → va_S (en_A E) s₀.heap H locs → lx_has ls 3 [(0, 1, .ref x0), (1, 1, .int x1)] → c ≤ mc → s ≤ ms → W p l e R s₀ m args below meth cd H locs c s (MQ below (va_Qi Post (wo_B E) (en_A E)) args s₀ mc ms (en_A E)) (F0 m 0 ls []) := by
  intro G c s x0 x1 hw H locs ls hG hS hl hcc hss
  dsimp only [pq_EC_upstream_0] at hw
  have hx := hC.1
  have hb := hC.2.1
  refine lv_iload_n hx hb dq_EC_upstream_0 rfl (lx_at hl 1 rfl) ?_
  obtain ⟨mc1, ms2, hc1, hs1, hw⟩ := hw
  refine va_calli (wo_runS hC lq_EC_160 (mq_EC_isUpstream hw) hG hS rfl (lx_sz hl) rfl (Nat.zero_le _) (by decide) dq_EC_upstream_1 ⟨hc1, hs1⟩) hS (fun _ _ h => h) (fun _ h => h) (fun v4 G3 t H locs ht hvm hw' hB _ _ hS => ?_)
  clear hw
  have hw := hw'
  clear hw'
  replace hG := wo_bk ht hB
  replace hcc := hc1
  replace hss := hs1
  refine lv_if_ne (tgt := 9) hx hb dq_EC_upstream_4 rfl (fun h => ?_) (fun h => ?_)
  · replace hw := hw.1 h
    refine lv_aload_n hx hb dq_EC_upstream_9 rfl (lx_at hl 0 rfl) ?_
    obtain ⟨t5, hw⟩ := hw
    refine wo_getR hC fq_EC_31 rfl hG t5 dq_EC_upstream_10 (fun r6 e7 => ?_)
    replace hw := hw r6 e7
    refine lv_iload_n hx hb dq_EC_upstream_13 rfl (lx_at hl 1 rfl) ?_
    obtain ⟨a8, rfl, hw⟩ := hw
    obtain ⟨t9, hw⟩ := hw
    obtain ⟨h10, hw⟩ := hw
    refine wo_aald (j := 3) hC rfl hG t9 h10 dq_EC_upstream_14 (fun r11 e12 => ?_)
    replace hw := hw r11 e12
    refine lx_astoreR_n (lv' := [(2, 1, va_rf r11), (0, 1, .ref x0), (1, 1, .int x1)]) hx hb dq_EC_upstream_15 rfl hl (by decide) rfl (fun ls hl' => ?_)
    clear hl
    have hl := hl'
    clear hl'
    refine lx_aloadR_n hx hb dq_EC_upstream_16 rfl (lx_at hl 0 rfl) ?_
    refine lx_ifnonnull (tgt := 22) hx hb dq_EC_upstream_17 rfl (fun h => ?_) (fun a13 h => ?_)
    · replace hw := hw.1 h
      subst h
      refine lv_iconst (v := (0 : Int32)) hx hb dq_EC_upstream_20 rfl ?_
      exact wo_iret hC hG hS hcc hss hw dq_EC_upstream_21
    · replace hw := hw.2 a13 h
      subst h
      refine lv_aload_n hx hb dq_EC_upstream_22 rfl (lx_at hl 0 rfl) ?_
      obtain ⟨t14, hw⟩ := hw
      obtain ⟨mc15, ms16, hc1, hs1, hw⟩ := hw
      refine va_calli (wo_runV hC lq_EC_129 (mq_Jb_isDone hw) hG hS t14 rfl (lx_sz hl) rfl (Nat.zero_le _) (by decide) dq_EC_upstream_23 ⟨hc1, hs1⟩) hS (fun _ _ h => h) (fun _ h => h) (fun v18 G17 t H locs ht hvm hw' hB _ _ hS => ?_)
      clear hw
      have hw := hw'
      clear hw'
      replace hG := wo_bk ht hB
      replace hcc := hc1
      replace hss := hs1
      refine lv_if_eq (tgt := 33) hx hb dq_EC_upstream_26 rfl (fun h => ?_) (fun h => ?_)
      · replace hw := hw.1 h
        refine lv_iconst (v := (1 : Int32)) hx hb dq_EC_upstream_33 rfl ?_
        exact tq_EC_upstream_34 hC hw hG hS (lx_sub hl [] rfl) hcc hss
      · replace hw := hw.2 h
        refine lv_iconst (v := (2 : Int32)) hx hb dq_EC_upstream_29 rfl ?_
        refine lv_goto (tgt := 34) hx hb dq_EC_upstream_30 rfl ?_
        exact tq_EC_upstream_34 hC hw hG hS (lx_sub hl [] rfl) hcc hss
  · replace hw := hw.2 h
    refine lv_iconst (v := (-1 : Int32)) hx hb dq_EC_upstream_7 rfl ?_
    exact wo_iret hC hG hS hcc hss hw dq_EC_upstream_8
set_option maxHeartbeats 4000000 in
theorem mq_EC_upstream {l : Launch} {E : wo_E} {mc ms : Nat} {Post : Int32 → wo_W → Prop} {G : wo_W} {x0 : Nat} {x1 : Int32} (hw : pq_EC_upstream E mc ms Post G x0 x1) : Met l yq_EC_upstream (Cond.code yq_EC_upstream prog_1_method_10_code 3 ((Option.some Jvm.ClassFile.FieldType.int)) :: vw_WG) { frames := 1, cells := mc, slots := ms, locals := 20 } (va_Pc [.ref x0, .int x1] (wo_Ok E G)) (va_Qi Post (wo_B E) (en_A E)) mc ms (en_A E) := by
  unfold pq_EC_upstream at hw
  exact wo_met [(1, .ref x0), (1, .int x1)] rfl (by decide) (fun q hq => by simp only [List.mem_cons, List.not_mem_nil, or_false] at hq; rcases hq with rfl | rfl <;> first | rfl | exact lx_cR _) (Nat.le_of_ble_eq_true rfl) (fun p e R s m args below meth cd ls hC hG hS hl => tq_EC_upstream_0 hC hw hG hS (lx_sub hl [0, 1] rfl) (Nat.zero_le _) (Nat.zero_le _))

theorem dq_EC_queue_0 : decode prog_1_method_11_code 0 = .ok (.aload_n 0, 1) := by decide +kernel
theorem dq_EC_queue_1 : decode prog_1_method_11_code 1 = .ok (.getfield 38, 3) := by decide +kernel
theorem dq_EC_queue_4 : decode prog_1_method_11_code 4 = .ok (.invokevirtual 163, 3) := by decide +kernel
theorem dq_EC_queue_7 : decode prog_1_method_11_code 7 = .ok (.ireturn, 1) := by decide +kernel
set_option maxRecDepth 100000 in
def pq_EC_queue_0 (E : wo_E) (mc ms : Nat) (Post : Int32 → wo_W → Prop) (G : wo_W) (c s : Nat) (x0 : Nat) : Prop := wo_ty G x0 = 1 ∧ ∀ r2 : Option Nat, r2 = wo_gr G 5 x0 → ∃ a4 : Nat, r2 = some a4 ∧ wo_ty G a4 = 3 ∧ ∃ mc6 ms7 : Nat, (c + mc6) ≤ mc ∧ (s + ms7) ≤ ms ∧ pq_Al_size E mc6 ms7 (fun v9 G8 => 
  Post v9 G8) G a4
def pq_EC_queue (E : wo_E) (mc ms : Nat) (Post : Int32 → wo_W → Prop) (G : wo_W) (x0 : Nat) : Prop := pq_EC_queue_0 E mc ms Post G 0 0 x0
set_option maxRecDepth 100000 in
set_option maxHeartbeats 4000000 in
theorem tq_EC_queue_0 {p : Program} {l : Launch} {e : Env} {R : Room} {s₀ : State} {m : MethodId} {args : Array Value} {below : List Frame} {meth : Method} {cd : Code} {E : wo_E} {mc ms : Nat} {Post : Int32 → wo_W → Prop} (hC : wo_Cx E "EdgeCache" prog_1_method_11_code 1 1 20 ((Option.some Jvm.ClassFile.FieldType.int)) "queue" mc ms p R s₀ m args meth cd) : ∀ {G : wo_W} {c s : Nat} {x0 : Nat}, pq_EC_queue_0 E mc ms Post G c s x0 → ∀ {H : Heap} {locs : List Loc} {ls : Array Slot}, wo_Se E G H → va_S (en_A E) s₀.heap H locs → lx_has ls 1 [(0, 1, .ref x0)] → c ≤ mc → s ≤ ms → W p l e R s₀ m args below meth cd H locs c s (MQ below (va_Qi Post (wo_B E) (en_A E)) args s₀ mc ms (en_A E)) (F0 m 0 ls []) := by
  intro G c s x0 hw H locs ls hG hS hl hcc hss
  dsimp only [pq_EC_queue_0] at hw
  have hx := hC.1
  have hb := hC.2.1
  refine lv_aload_n hx hb dq_EC_queue_0 rfl (lx_at hl 0 rfl) ?_
  obtain ⟨t1, hw⟩ := hw
  refine wo_getR hC fq_EC_38 rfl hG t1 dq_EC_queue_1 (fun r2 e3 => ?_)
  replace hw := hw r2 e3
  obtain ⟨a4, rfl, hw⟩ := hw
  obtain ⟨t5, hw⟩ := hw
  obtain ⟨mc6, ms7, hc1, hs1, hw⟩ := hw
  refine va_calli (wo_runV hC lq_EC_163 (mq_Al_size hw) hG hS t5 rfl (lx_sz hl) rfl (Nat.zero_le _) (by decide) dq_EC_queue_4 ⟨hc1, hs1⟩) hS (fun _ _ h => h) (fun _ h => h) (fun v9 G8 t H locs ht hvm hw' hB _ _ hS => ?_)
  clear hw
  have hw := hw'
  clear hw'
  replace hG := wo_bk ht hB
  replace hcc := hc1
  replace hss := hs1
  exact wo_iret hC hG hS hcc hss hw dq_EC_queue_7
set_option maxHeartbeats 4000000 in
theorem mq_EC_queue {l : Launch} {E : wo_E} {mc ms : Nat} {Post : Int32 → wo_W → Prop} {G : wo_W} {x0 : Nat} (hw : pq_EC_queue E mc ms Post G x0) : Met l yq_EC_queue (Cond.code yq_EC_queue prog_1_method_11_code 1 ((Option.some Jvm.ClassFile.FieldType.int)) :: vw_WG) { frames := 1, cells := mc, slots := ms, locals := 20 } (va_Pc [.ref x0] (wo_Ok E G)) (va_Qi Post (wo_B E) (en_A E)) mc ms (en_A E) := by
  unfold pq_EC_queue at hw
  exact wo_met [(1, .ref x0)] rfl (by decide) (fun q hq => by simp only [List.mem_cons, List.not_mem_nil, or_false] at hq; rcases hq with rfl <;> first | rfl | exact lx_cR _) (Nat.le_of_ble_eq_true rfl) (fun p e R s m args below meth cd ls hC hG hS hl => tq_EC_queue_0 hC hw hG hS (lx_sub hl [0] rfl) (Nat.zero_le _) (Nat.zero_le _))

theorem dq_So_count_0 : decode prog_10_method_2_code 0 = .ok (.aload_n 0, 1) := by decide +kernel
theorem dq_So_count_1 : decode prog_10_method_2_code 1 = .ok (.getfield 10, 3) := by decide +kernel
theorem dq_So_count_4 : decode prog_10_method_2_code 4 = .ok (.invokevirtual 20, 3) := by decide +kernel
theorem dq_So_count_7 : decode prog_10_method_2_code 7 = .ok (.ireturn, 1) := by decide +kernel
set_option maxRecDepth 100000 in
def pq_So_count_0 (E : wo_E) (mc ms : Nat) (Post : Int32 → wo_W → Prop) (G : wo_W) (c s : Nat) (x0 : Nat) : Prop := wo_ty G x0 = 6 ∧ ∀ r2 : Option Nat, r2 = wo_gr G 320 x0 → ∃ a4 : Nat, r2 = some a4 ∧ wo_ty G a4 = 3 ∧ ∃ mc6 ms7 : Nat, (c + mc6) ≤ mc ∧ (s + ms7) ≤ ms ∧ pq_Al_size E mc6 ms7 (fun v9 G8 => 
  Post v9 G8) G a4
def pq_So_count (E : wo_E) (mc ms : Nat) (Post : Int32 → wo_W → Prop) (G : wo_W) (x0 : Nat) : Prop := pq_So_count_0 E mc ms Post G 0 0 x0
set_option maxRecDepth 100000 in
set_option maxHeartbeats 4000000 in
theorem tq_So_count_0 {p : Program} {l : Launch} {e : Env} {R : Room} {s₀ : State} {m : MethodId} {args : Array Value} {below : List Frame} {meth : Method} {cd : Code} {E : wo_E} {mc ms : Nat} {Post : Int32 → wo_W → Prop} (hC : wo_Cx E "EdgeCache$Store" prog_10_method_2_code 1 1 20 ((Option.some Jvm.ClassFile.FieldType.int)) "count" mc ms p R s₀ m args meth cd) : ∀ {G : wo_W} {c s : Nat} {x0 : Nat}, pq_So_count_0 E mc ms Post G c s x0 → ∀ {H : Heap} {locs : List Loc} {ls : Array Slot}, wo_Se E G H → va_S (en_A E) s₀.heap H locs → lx_has ls 1 [(0, 1, .ref x0)] → c ≤ mc → s ≤ ms → W p l e R s₀ m args below meth cd H locs c s (MQ below (va_Qi Post (wo_B E) (en_A E)) args s₀ mc ms (en_A E)) (F0 m 0 ls []) := by
  intro G c s x0 hw H locs ls hG hS hl hcc hss
  dsimp only [pq_So_count_0] at hw
  have hx := hC.1
  have hb := hC.2.1
  refine lv_aload_n hx hb dq_So_count_0 rfl (lx_at hl 0 rfl) ?_
  obtain ⟨t1, hw⟩ := hw
  refine wo_getR hC fq_So_10 rfl hG t1 dq_So_count_1 (fun r2 e3 => ?_)
  replace hw := hw r2 e3
  obtain ⟨a4, rfl, hw⟩ := hw
  obtain ⟨t5, hw⟩ := hw
  obtain ⟨mc6, ms7, hc1, hs1, hw⟩ := hw
  refine va_calli (wo_runV hC lq_So_20 (mq_Al_size hw) hG hS t5 rfl (lx_sz hl) rfl (Nat.zero_le _) (by decide) dq_So_count_4 ⟨hc1, hs1⟩) hS (fun _ _ h => h) (fun _ h => h) (fun v9 G8 t H locs ht hvm hw' hB _ _ hS => ?_)
  clear hw
  have hw := hw'
  clear hw'
  replace hG := wo_bk ht hB
  replace hcc := hc1
  replace hss := hs1
  exact wo_iret hC hG hS hcc hss hw dq_So_count_7
set_option maxHeartbeats 4000000 in
theorem mq_So_count {l : Launch} {E : wo_E} {mc ms : Nat} {Post : Int32 → wo_W → Prop} {G : wo_W} {x0 : Nat} (hw : pq_So_count E mc ms Post G x0) : Met l yq_So_count (Cond.code yq_So_count prog_10_method_2_code 1 ((Option.some Jvm.ClassFile.FieldType.int)) :: vw_WG) { frames := 1, cells := mc, slots := ms, locals := 20 } (va_Pc [.ref x0] (wo_Ok E G)) (va_Qi Post (wo_B E) (en_A E)) mc ms (en_A E) := by
  unfold pq_So_count at hw
  exact wo_met [(1, .ref x0)] rfl (by decide) (fun q hq => by simp only [List.mem_cons, List.not_mem_nil, or_false] at hq; rcases hq with rfl <;> first | rfl | exact lx_cR _) (Nat.le_of_ble_eq_true rfl) (fun p e R s m args below meth cd ls hC hG hS hl => tq_So_count_0 hC hw hG hS (lx_sub hl [0] rfl) (Nat.zero_le _) (Nat.zero_le _))

theorem dq_EC_stored_0 : decode prog_1_method_12_code 0 = .ok (.aload_n 0, 1) := by decide +kernel
theorem dq_EC_stored_1 : decode prog_1_method_12_code 1 = .ok (.getfield 56, 3) := by decide +kernel
theorem dq_EC_stored_4 : decode prog_1_method_12_code 4 = .ok (.invokevirtual 166, 3) := by decide +kernel
theorem dq_EC_stored_7 : decode prog_1_method_12_code 7 = .ok (.ireturn, 1) := by decide +kernel
set_option maxRecDepth 100000 in
def pq_EC_stored_0 (E : wo_E) (mc ms : Nat) (Post : Int32 → wo_W → Prop) (G : wo_W) (c s : Nat) (x0 : Nat) : Prop := wo_ty G x0 = 1 ∧ ∀ r2 : Option Nat, r2 = wo_gr G 2 x0 → ∃ a4 : Nat, r2 = some a4 ∧ wo_ty G a4 = 6 ∧ ∃ mc6 ms7 : Nat, (c + mc6) ≤ mc ∧ (s + ms7) ≤ ms ∧ pq_So_count E mc6 ms7 (fun v9 G8 => 
  Post v9 G8) G a4
def pq_EC_stored (E : wo_E) (mc ms : Nat) (Post : Int32 → wo_W → Prop) (G : wo_W) (x0 : Nat) : Prop := pq_EC_stored_0 E mc ms Post G 0 0 x0
set_option maxRecDepth 100000 in
set_option maxHeartbeats 4000000 in
theorem tq_EC_stored_0 {p : Program} {l : Launch} {e : Env} {R : Room} {s₀ : State} {m : MethodId} {args : Array Value} {below : List Frame} {meth : Method} {cd : Code} {E : wo_E} {mc ms : Nat} {Post : Int32 → wo_W → Prop} (hC : wo_Cx E "EdgeCache" prog_1_method_12_code 1 2 40 ((Option.some Jvm.ClassFile.FieldType.int)) "stored" mc ms p R s₀ m args meth cd) : ∀ {G : wo_W} {c s : Nat} {x0 : Nat}, pq_EC_stored_0 E mc ms Post G c s x0 → ∀ {H : Heap} {locs : List Loc} {ls : Array Slot}, wo_Se E G H → va_S (en_A E) s₀.heap H locs → lx_has ls 1 [(0, 1, .ref x0)] → c ≤ mc → s ≤ ms → W p l e R s₀ m args below meth cd H locs c s (MQ below (va_Qi Post (wo_B E) (en_A E)) args s₀ mc ms (en_A E)) (F0 m 0 ls []) := by
  intro G c s x0 hw H locs ls hG hS hl hcc hss
  dsimp only [pq_EC_stored_0] at hw
  have hx := hC.1
  have hb := hC.2.1
  refine lv_aload_n hx hb dq_EC_stored_0 rfl (lx_at hl 0 rfl) ?_
  obtain ⟨t1, hw⟩ := hw
  refine wo_getR hC fq_EC_56 rfl hG t1 dq_EC_stored_1 (fun r2 e3 => ?_)
  replace hw := hw r2 e3
  obtain ⟨a4, rfl, hw⟩ := hw
  obtain ⟨t5, hw⟩ := hw
  obtain ⟨mc6, ms7, hc1, hs1, hw⟩ := hw
  refine va_calli (wo_runV hC lq_EC_166 (mq_So_count hw) hG hS t5 rfl (lx_sz hl) rfl (Nat.zero_le _) (by decide) dq_EC_stored_4 ⟨hc1, hs1⟩) hS (fun _ _ h => h) (fun _ h => h) (fun v9 G8 t H locs ht hvm hw' hB _ _ hS => ?_)
  clear hw
  have hw := hw'
  clear hw'
  replace hG := wo_bk ht hB
  replace hcc := hc1
  replace hss := hs1
  exact wo_iret hC hG hS hcc hss hw dq_EC_stored_7
set_option maxHeartbeats 4000000 in
theorem mq_EC_stored {l : Launch} {E : wo_E} {mc ms : Nat} {Post : Int32 → wo_W → Prop} {G : wo_W} {x0 : Nat} (hw : pq_EC_stored E mc ms Post G x0) : Met l yq_EC_stored (Cond.code yq_EC_stored prog_1_method_12_code 1 ((Option.some Jvm.ClassFile.FieldType.int)) :: vw_WG) { frames := 2, cells := mc, slots := ms, locals := 40 } (va_Pc [.ref x0] (wo_Ok E G)) (va_Qi Post (wo_B E) (en_A E)) mc ms (en_A E) := by
  unfold pq_EC_stored at hw
  exact wo_met [(1, .ref x0)] rfl (by decide) (fun q hq => by simp only [List.mem_cons, List.not_mem_nil, or_false] at hq; rcases hq with rfl <;> first | rfl | exact lx_cR _) (Nat.le_of_ble_eq_true rfl) (fun p e R s m args below meth cd ls hC hG hS hl => tq_EC_stored_0 hC hw hG hS (lx_sub hl [0] rfl) (Nat.zero_le _) (Nat.zero_le _))

theorem dq_EC_bytes_0 : decode prog_1_method_13_code 0 = .ok (.aload_n 0, 1) := by decide +kernel
theorem dq_EC_bytes_1 : decode prog_1_method_13_code 1 = .ok (.getfield 56, 3) := by decide +kernel
theorem dq_EC_bytes_4 : decode prog_1_method_13_code 4 = .ok (.getfield 169, 3) := by decide +kernel
theorem dq_EC_bytes_7 : decode prog_1_method_13_code 7 = .ok (.ireturn, 1) := by decide +kernel
set_option maxRecDepth 100000 in
def pq_EC_bytes_0 (E : wo_E) (mc ms : Nat) (Post : Int32 → wo_W → Prop) (G : wo_W) (c s : Nat) (x0 : Nat) : Prop := wo_ty G x0 = 1 ∧ ∀ r2 : Option Nat, r2 = wo_gr G 2 x0 → ∃ a4 : Nat, r2 = some a4 ∧ wo_ty G a4 = 6 ∧ Post (wo_gi G 322 a4) G
def pq_EC_bytes (E : wo_E) (mc ms : Nat) (Post : Int32 → wo_W → Prop) (G : wo_W) (x0 : Nat) : Prop := pq_EC_bytes_0 E mc ms Post G 0 0 x0
set_option maxRecDepth 100000 in
set_option maxHeartbeats 4000000 in
theorem tq_EC_bytes_0 {p : Program} {l : Launch} {e : Env} {R : Room} {s₀ : State} {m : MethodId} {args : Array Value} {below : List Frame} {meth : Method} {cd : Code} {E : wo_E} {mc ms : Nat} {Post : Int32 → wo_W → Prop} (hC : wo_Cx E "EdgeCache" prog_1_method_13_code 1 0 0 ((Option.some Jvm.ClassFile.FieldType.int)) "bytes" mc ms p R s₀ m args meth cd) : ∀ {G : wo_W} {c s : Nat} {x0 : Nat}, pq_EC_bytes_0 E mc ms Post G c s x0 → ∀ {H : Heap} {locs : List Loc} {ls : Array Slot}, wo_Se E G H → va_S (en_A E) s₀.heap H locs → lx_has ls 1 [(0, 1, .ref x0)] → c ≤ mc → s ≤ ms → W p l e R s₀ m args below meth cd H locs c s (MQ below (va_Qi Post (wo_B E) (en_A E)) args s₀ mc ms (en_A E)) (F0 m 0 ls []) := by
  intro G c s x0 hw H locs ls hG hS hl hcc hss
  dsimp only [pq_EC_bytes_0] at hw
  have hx := hC.1
  have hb := hC.2.1
  refine lv_aload_n hx hb dq_EC_bytes_0 rfl (lx_at hl 0 rfl) ?_
  obtain ⟨t1, hw⟩ := hw
  refine wo_getR hC fq_EC_56 rfl hG t1 dq_EC_bytes_1 (fun r2 e3 => ?_)
  replace hw := hw r2 e3
  obtain ⟨a4, rfl, hw⟩ := hw
  obtain ⟨t5, hw⟩ := hw
  refine wo_getI hC fq_EC_169 rfl hG t5 dq_EC_bytes_4 ?_
  exact wo_iret hC hG hS hcc hss hw dq_EC_bytes_7
set_option maxHeartbeats 4000000 in
theorem mq_EC_bytes {l : Launch} {E : wo_E} {mc ms : Nat} {Post : Int32 → wo_W → Prop} {G : wo_W} {x0 : Nat} (hw : pq_EC_bytes E mc ms Post G x0) : Met l yq_EC_bytes (Cond.code yq_EC_bytes prog_1_method_13_code 1 ((Option.some Jvm.ClassFile.FieldType.int)) :: vw_WG) { frames := 0, cells := mc, slots := ms, locals := 0 } (va_Pc [.ref x0] (wo_Ok E G)) (va_Qi Post (wo_B E) (en_A E)) mc ms (en_A E) := by
  unfold pq_EC_bytes at hw
  exact wo_met [(1, .ref x0)] rfl (by decide) (fun q hq => by simp only [List.mem_cons, List.not_mem_nil, or_false] at hq; rcases hq with rfl <;> first | rfl | exact lx_cR _) (Nat.le_of_ble_eq_true rfl) (fun p e R s m args below meth cd ls hC hG hS hl => tq_EC_bytes_0 hC hw hG hS (lx_sub hl [0] rfl) (Nat.zero_le _) (Nat.zero_le _))

theorem dq_EC_tag_0 : decode prog_1_method_14_code 0 = .ok (.aload_n 0, 1) := by decide +kernel
theorem dq_EC_tag_1 : decode prog_1_method_14_code 1 = .ok (.getfield 18, 3) := by decide +kernel
theorem dq_EC_tag_4 : decode prog_1_method_14_code 4 = .ok (.getfield 172, 3) := by decide +kernel
theorem dq_EC_tag_7 : decode prog_1_method_14_code 7 = .ok (.ireturn, 1) := by decide +kernel
set_option maxRecDepth 100000 in
def pq_EC_tag_0 (E : wo_E) (mc ms : Nat) (Post : Int32 → wo_W → Prop) (G : wo_W) (c s : Nat) (x0 : Nat) : Prop := wo_ty G x0 = 1 ∧ ∀ r2 : Option Nat, r2 = wo_gr G 1 x0 → ∃ a4 : Nat, r2 = some a4 ∧ wo_ty G a4 = 2 ∧ Post (wo_gi G 65 a4) G
def pq_EC_tag (E : wo_E) (mc ms : Nat) (Post : Int32 → wo_W → Prop) (G : wo_W) (x0 : Nat) : Prop := pq_EC_tag_0 E mc ms Post G 0 0 x0
set_option maxRecDepth 100000 in
set_option maxHeartbeats 4000000 in
theorem tq_EC_tag_0 {p : Program} {l : Launch} {e : Env} {R : Room} {s₀ : State} {m : MethodId} {args : Array Value} {below : List Frame} {meth : Method} {cd : Code} {E : wo_E} {mc ms : Nat} {Post : Int32 → wo_W → Prop} (hC : wo_Cx E "EdgeCache" prog_1_method_14_code 1 0 0 ((Option.some Jvm.ClassFile.FieldType.int)) "tag" mc ms p R s₀ m args meth cd) : ∀ {G : wo_W} {c s : Nat} {x0 : Nat}, pq_EC_tag_0 E mc ms Post G c s x0 → ∀ {H : Heap} {locs : List Loc} {ls : Array Slot}, wo_Se E G H → va_S (en_A E) s₀.heap H locs → lx_has ls 1 [(0, 1, .ref x0)] → c ≤ mc → s ≤ ms → W p l e R s₀ m args below meth cd H locs c s (MQ below (va_Qi Post (wo_B E) (en_A E)) args s₀ mc ms (en_A E)) (F0 m 0 ls []) := by
  intro G c s x0 hw H locs ls hG hS hl hcc hss
  dsimp only [pq_EC_tag_0] at hw
  have hx := hC.1
  have hb := hC.2.1
  refine lv_aload_n hx hb dq_EC_tag_0 rfl (lx_at hl 0 rfl) ?_
  obtain ⟨t1, hw⟩ := hw
  refine wo_getR hC fq_EC_18 rfl hG t1 dq_EC_tag_1 (fun r2 e3 => ?_)
  replace hw := hw r2 e3
  obtain ⟨a4, rfl, hw⟩ := hw
  obtain ⟨t5, hw⟩ := hw
  refine wo_getI hC fq_EC_172 rfl hG t5 dq_EC_tag_4 ?_
  exact wo_iret hC hG hS hcc hss hw dq_EC_tag_7
set_option maxHeartbeats 4000000 in
theorem mq_EC_tag {l : Launch} {E : wo_E} {mc ms : Nat} {Post : Int32 → wo_W → Prop} {G : wo_W} {x0 : Nat} (hw : pq_EC_tag E mc ms Post G x0) : Met l yq_EC_tag (Cond.code yq_EC_tag prog_1_method_14_code 1 ((Option.some Jvm.ClassFile.FieldType.int)) :: vw_WG) { frames := 0, cells := mc, slots := ms, locals := 0 } (va_Pc [.ref x0] (wo_Ok E G)) (va_Qi Post (wo_B E) (en_A E)) mc ms (en_A E) := by
  unfold pq_EC_tag at hw
  exact wo_met [(1, .ref x0)] rfl (by decide) (fun q hq => by simp only [List.mem_cons, List.not_mem_nil, or_false] at hq; rcases hq with rfl <;> first | rfl | exact lx_cR _) (Nat.le_of_ble_eq_true rfl) (fun p e R s m args below meth cd ls hC hG hS hl => tq_EC_tag_0 hC hw hG hS (lx_sub hl [0] rfl) (Nat.zero_le _) (Nat.zero_le _))

theorem dq_EC_clock_0 : decode prog_1_method_15_code 0 = .ok (.aload_n 0, 1) := by decide +kernel
theorem dq_EC_clock_1 : decode prog_1_method_15_code 1 = .ok (.getfield 99, 3) := by decide +kernel
theorem dq_EC_clock_4 : decode prog_1_method_15_code 4 = .ok (.ireturn, 1) := by decide +kernel
set_option maxRecDepth 100000 in
def pq_EC_clock_0 (E : wo_E) (mc ms : Nat) (Post : Int32 → wo_W → Prop) (G : wo_W) (c s : Nat) (x0 : Nat) : Prop := wo_ty G x0 = 1 ∧ Post (wo_gi G 6 x0) G
def pq_EC_clock (E : wo_E) (mc ms : Nat) (Post : Int32 → wo_W → Prop) (G : wo_W) (x0 : Nat) : Prop := pq_EC_clock_0 E mc ms Post G 0 0 x0
set_option maxRecDepth 100000 in
set_option maxHeartbeats 4000000 in
theorem tq_EC_clock_0 {p : Program} {l : Launch} {e : Env} {R : Room} {s₀ : State} {m : MethodId} {args : Array Value} {below : List Frame} {meth : Method} {cd : Code} {E : wo_E} {mc ms : Nat} {Post : Int32 → wo_W → Prop} (hC : wo_Cx E "EdgeCache" prog_1_method_15_code 1 0 0 ((Option.some Jvm.ClassFile.FieldType.int)) "clock" mc ms p R s₀ m args meth cd) : ∀ {G : wo_W} {c s : Nat} {x0 : Nat}, pq_EC_clock_0 E mc ms Post G c s x0 → ∀ {H : Heap} {locs : List Loc} {ls : Array Slot}, wo_Se E G H → va_S (en_A E) s₀.heap H locs → lx_has ls 1 [(0, 1, .ref x0)] → c ≤ mc → s ≤ ms → W p l e R s₀ m args below meth cd H locs c s (MQ below (va_Qi Post (wo_B E) (en_A E)) args s₀ mc ms (en_A E)) (F0 m 0 ls []) := by
  intro G c s x0 hw H locs ls hG hS hl hcc hss
  dsimp only [pq_EC_clock_0] at hw
  have hx := hC.1
  have hb := hC.2.1
  refine lv_aload_n hx hb dq_EC_clock_0 rfl (lx_at hl 0 rfl) ?_
  obtain ⟨t1, hw⟩ := hw
  refine wo_getI hC fq_EC_99 rfl hG t1 dq_EC_clock_1 ?_
  exact wo_iret hC hG hS hcc hss hw dq_EC_clock_4
set_option maxHeartbeats 4000000 in
theorem mq_EC_clock {l : Launch} {E : wo_E} {mc ms : Nat} {Post : Int32 → wo_W → Prop} {G : wo_W} {x0 : Nat} (hw : pq_EC_clock E mc ms Post G x0) : Met l yq_EC_clock (Cond.code yq_EC_clock prog_1_method_15_code 1 ((Option.some Jvm.ClassFile.FieldType.int)) :: vw_WG) { frames := 0, cells := mc, slots := ms, locals := 0 } (va_Pc [.ref x0] (wo_Ok E G)) (va_Qi Post (wo_B E) (en_A E)) mc ms (en_A E) := by
  unfold pq_EC_clock at hw
  exact wo_met [(1, .ref x0)] rfl (by decide) (fun q hq => by simp only [List.mem_cons, List.not_mem_nil, or_false] at hq; rcases hq with rfl <;> first | rfl | exact lx_cR _) (Nat.le_of_ble_eq_true rfl) (fun p e R s m args below meth cd ls hC hG hS hl => tq_EC_clock_0 hC hw hG hS (lx_sub hl [0] rfl) (Nat.zero_le _) (Nat.zero_le _))
