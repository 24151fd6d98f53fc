theorem dq_Tx_number_0 : decode prog_12_method_3_code 0 = .ok (.bipush (-2), 2) := by decide +kernel
theorem dq_Tx_number_2 : decode prog_12_method_3_code 2 = .ok (.istore_n 2, 1) := by decide +kernel
theorem dq_Tx_number_3 : decode prog_12_method_3_code 3 = .ok (.iconst 0, 1) := by decide +kernel
theorem dq_Tx_number_4 : decode prog_12_method_3_code 4 = .ok (.istore_n 3, 1) := by decide +kernel
theorem dq_Tx_number_5 : decode prog_12_method_3_code 5 = .ok (.iconst 0, 1) := by decide +kernel
theorem dq_Tx_number_6 : decode prog_12_method_3_code 6 = .ok (.istore 4, 2) := by decide +kernel
theorem dq_Tx_number_8 : decode prog_12_method_3_code 8 = .ok (.aload_n 0, 1) := by decide +kernel
theorem dq_Tx_number_9 : decode prog_12_method_3_code 9 = .ok (.ifnull 71, 3) := by decide +kernel
theorem dq_Tx_number_12 : decode prog_12_method_3_code 12 = .ok (.iload 4, 2) := by decide +kernel
theorem dq_Tx_number_14 : decode prog_12_method_3_code 14 = .ok (.aload_n 0, 1) := by decide +kernel
theorem dq_Tx_number_15 : decode prog_12_method_3_code 15 = .ok (.invokevirtual 15, 3) := by decide +kernel
theorem dq_Tx_number_18 : decode prog_12_method_3_code 18 = .ok (.if_icmp .ge 62, 3) := by decide +kernel
theorem dq_Tx_number_21 : decode prog_12_method_3_code 21 = .ok (.aload_n 0, 1) := by decide +kernel
theorem dq_Tx_number_22 : decode prog_12_method_3_code 22 = .ok (.iload 4, 2) := by decide +kernel
theorem dq_Tx_number_24 : decode prog_12_method_3_code 24 = .ok (.invokevirtual 21, 3) := by decide +kernel
theorem dq_Tx_number_27 : decode prog_12_method_3_code 27 = .ok (.istore 5, 2) := by decide +kernel
theorem dq_Tx_number_29 : decode prog_12_method_3_code 29 = .ok (.iload 5, 2) := by decide +kernel
theorem dq_Tx_number_31 : decode prog_12_method_3_code 31 = .ok (.iload_n 1, 1) := by decide +kernel
theorem dq_Tx_number_32 : decode prog_12_method_3_code 32 = .ok (.if_icmp .ne 10, 3) := by decide +kernel
theorem dq_Tx_number_35 : decode prog_12_method_3_code 35 = .ok (.iconst (-1), 1) := by decide +kernel
theorem dq_Tx_number_36 : decode prog_12_method_3_code 36 = .ok (.istore_n 2, 1) := by decide +kernel
theorem dq_Tx_number_37 : decode prog_12_method_3_code 37 = .ok (.iconst 1, 1) := by decide +kernel
theorem dq_Tx_number_38 : decode prog_12_method_3_code 38 = .ok (.istore_n 3, 1) := by decide +kernel
theorem dq_Tx_number_39 : decode prog_12_method_3_code 39 = .ok (.goto 35, 3) := by decide +kernel
theorem dq_Tx_number_42 : decode prog_12_method_3_code 42 = .ok (.iload_n 3, 1) := by decide +kernel
theorem dq_Tx_number_43 : decode prog_12_method_3_code 43 = .ok (.ifCond .eq 29, 3) := by decide +kernel
theorem dq_Tx_number_46 : decode prog_12_method_3_code 46 = .ok (.iload 5, 2) := by decide +kernel
theorem dq_Tx_number_48 : decode prog_12_method_3_code 48 = .ok (.invokestatic 25, 3) := by decide +kernel
theorem dq_Tx_number_51 : decode prog_12_method_3_code 51 = .ok (.ifCond .eq 21, 3) := by decide +kernel
theorem dq_Tx_number_54 : decode prog_12_method_3_code 54 = .ok (.iload_n 2, 1) := by decide +kernel
theorem dq_Tx_number_55 : decode prog_12_method_3_code 55 = .ok (.iconst 0, 1) := by decide +kernel
theorem dq_Tx_number_56 : decode prog_12_method_3_code 56 = .ok (.invokestatic 29, 3) := by decide +kernel
theorem dq_Tx_number_59 : decode prog_12_method_3_code 59 = .ok (.bipush 10, 2) := by decide +kernel
theorem dq_Tx_number_61 : decode prog_12_method_3_code 61 = .ok (.imul, 1) := by decide +kernel
theorem dq_Tx_number_62 : decode prog_12_method_3_code 62 = .ok (.iload 5, 2) := by decide +kernel
theorem dq_Tx_number_64 : decode prog_12_method_3_code 64 = .ok (.bipush 48, 2) := by decide +kernel
theorem dq_Tx_number_66 : decode prog_12_method_3_code 66 = .ok (.isub, 1) := by decide +kernel
theorem dq_Tx_number_67 : decode prog_12_method_3_code 67 = .ok (.iadd, 1) := by decide +kernel
theorem dq_Tx_number_68 : decode prog_12_method_3_code 68 = .ok (.istore_n 2, 1) := by decide +kernel
theorem dq_Tx_number_69 : decode prog_12_method_3_code 69 = .ok (.goto 5, 3) := by decide +kernel
theorem dq_Tx_number_72 : decode prog_12_method_3_code 72 = .ok (.iconst 0, 1) := by decide +kernel
theorem dq_Tx_number_73 : decode prog_12_method_3_code 73 = .ok (.istore_n 3, 1) := by decide +kernel
theorem dq_Tx_number_74 : decode prog_12_method_3_code 74 = .ok (.iinc 4 1, 3) := by decide +kernel
theorem dq_Tx_number_77 : decode prog_12_method_3_code 77 = .ok (.goto (-69), 3) := by decide +kernel
theorem dq_Tx_number_80 : decode prog_12_method_3_code 80 = .ok (.iload_n 2, 1) := by decide +kernel
theorem dq_Tx_number_81 : decode prog_12_method_3_code 81 = .ok (.ireturn, 1) := by decide +kernel
set_option maxRecDepth 100000 in
def pq_Tx_number_80 (E : wo_E) (mc ms : Nat) (Post : Int32 → wo_W → Prop) (G : wo_W) (c s : Nat) (x2 : Int32) : Prop := Post x2 G
set_option maxRecDepth 100000 in
def pq_Tx_number_74 (E : wo_E) (mc ms : Nat) (Post : Int32 → wo_W → Prop) (k8 : wo_W → Nat → Nat → Option Nat → Int32 → Int32 → Int32 → Int32 → Prop) (G : wo_W) (c s : Nat) (x0 : Option Nat) (x1 : Int32) (x2 : Int32) (x3 : Int32) (x4 : Int32) : Prop := k8 G c s x0 x1 x2 x3 (x4 + (1 : Int32))
set_option maxRecDepth 100000 in
def pq_Tx_number_72 (E : wo_E) (mc ms : Nat) (Post : Int32 → wo_W → Prop) (k8 : wo_W → Nat → Nat → Option Nat → Int32 → Int32 → Int32 → Int32 → Prop) (G : wo_W) (c s : Nat) (x0 : Option Nat) (x1 : Int32) (x2 : Int32) (x4 : Int32) : Prop := pq_Tx_number_74 E mc ms Post k8 G c s x0 x1 x2 (0 : Int32) x4
set_option maxRecDepth 100000 in
def pq_Tx_number_8 (E : wo_E) (mc ms : Nat) (Post : Int32 → wo_W → Prop) : Nat → wo_W → Nat → Nat → Option Nat → Int32 → Int32 → Int32 → Int32 → Prop
  | 0 => fun _ _ _ _ _ _ _ _ => False
  | n + 1 => fun G c s x0 x1 x2 x3 x4 => ((x0 = none → pq_Tx_number_80 E mc ms Post G c s x2) ∧
  (∀ a1 : Nat, x0 = some a1 → wo_ty G a1 = 10 ∧ ∃ mc3 ms4 : Nat, (c + mc3) ≤ mc ∧ (s + ms4) ≤ ms ∧ pq_St_length E mc3 ms4 (fun v6 G5 => 
    ((v6 ≤ x4 → pq_Tx_number_80 E mc ms Post G5 (c + mc3) (s + ms4) x2) ∧
      (¬ v6 ≤ x4 → wo_ty G5 a1 = 10 ∧ ∃ mc8 ms9 : Nat, ((c + mc3) + mc8) ≤ mc ∧ ((s + ms4) + ms9) ≤ ms ∧ pq_St_charAt E mc8 ms9 (fun v11 G10 => 
        ((¬ v11 = x1 → ((x3 = (0 : Int32) → pq_Tx_number_72 E mc ms Post (pq_Tx_number_8 E mc ms Post n) G10 ((c + mc3) + mc8) ((s + ms4) + ms9) (some a1) x1 x2 x4) ∧
            (¬ x3 = (0 : Int32) → ∃ mc12 ms13 : Nat, (((c + mc3) + mc8) + mc12) ≤ mc ∧ (((s + ms4) + ms9) + ms13) ≤ ms ∧ pq_Tx_isDigit E mc12 ms13 (fun v15 G14 => 
              ((v15 = (0 : Int32) → pq_Tx_number_72 E mc ms Post (pq_Tx_number_8 E mc ms Post n) G14 (((c + mc3) + mc8) + mc12) (((s + ms4) + ms9) + ms13) (some a1) x1 x2 x4) ∧
                (¬ v15 = (0 : Int32) → pq_Tx_number_74 E mc ms Post (pq_Tx_number_8 E mc ms Post n) G14 (((c + mc3) + mc8) + mc12) (((s + ms4) + ms9) + ms13) (some a1) x1 (((wo_max x2 (0 : Int32)) * (10 : Int32)) + (v11 - (48 : Int32))) x3 x4))) G10 v11))) ∧
          (v11 = x1 → pq_Tx_number_74 E mc ms Post (pq_Tx_number_8 E mc ms Post n) G10 ((c + mc3) + mc8) ((s + ms4) + ms9) (some a1) x1 (-1 : Int32) (1 : Int32) x4))) G5 a1 x4))) G a1))
set_option maxRecDepth 100000 in
def pq_Tx_number_0 (E : wo_E) (mc ms : Nat) (Post : Int32 → wo_W → Prop) (G : wo_W) (c s : Nat) (x0 : Option Nat) (x1 : Int32) : Prop := ∃ n1 : Nat, pq_Tx_number_8 E mc ms Post n1 G c s x0 x1 (-2 : Int32) (0 : Int32) (0 : Int32)
def pq_Tx_number (E : wo_E) (mc ms : Nat) (Post : Int32 → wo_W → Prop) (G : wo_W) (x0 : Option Nat) (x1 : Int32) : Prop := pq_Tx_number_0 E mc ms Post G 0 0 x0 x1
set_option maxRecDepth 100000 in
set_option maxHeartbeats 4000000 in
theorem tq_Tx_number_80 {p : Program} {l : Launch} {e : Env} {R : Room} {s₀ : State} {m : MethodId} {args : Array Value} {below : List Frame} {meth : Method} {cd : Code} {E : wo_E} {mc ms : Nat} {Post : Int32 → wo_W → Prop} (hC : wo_Cx E "EdgeCache$Text" prog_12_method_3_code 6 4 85 ((Option.some Jvm.ClassFile.FieldType.int)) "number" mc ms p R s₀ m args meth cd) : ∀ {G : wo_W} {c s : Nat} {x2 : Int32}, pq_Tx_number_80 E mc ms Post G c s x2 → ∀ {H : Heap} {locs : List Loc} {ls : Array Slot}, wo_Se E G H → va_S (en_A E) s₀.heap H locs → lx_has ls 6 [(2, 1, .int x2)] → c ≤ mc → s ≤ ms → W p l e R s₀ m args below meth cd H locs c s (MQ below (va_Qi Post (wo_B E) (en_A E)) args s₀ mc ms (en_A E)) (F0 m 80 ls []) := by
  intro G c s x2 hw H locs ls hG hS hl hcc hss
  dsimp only [pq_Tx_number_80] at hw
  have hx := hC.1
  have hb := hC.2.1
  refine lv_iload_n hx hb dq_Tx_number_80 rfl (lx_at hl 0 rfl) ?_
  exact wo_iret hC hG hS hcc hss hw dq_Tx_number_81
set_option maxRecDepth 100000 in
set_option maxHeartbeats 4000000 in
theorem tq_Tx_number_74 {p : Program} {l : Launch} {e : Env} {R : Room} {s₀ : State} {m : MethodId} {args : Array Value} {below : List Frame} {meth : Method} {cd : Code} {E : wo_E} {mc ms : Nat} {Post : Int32 → wo_W → Prop} {k8 : wo_W → Nat → Nat → Option Nat → Int32 → Int32 → Int32 → Int32 → Prop} (hC : wo_Cx E "EdgeCache$Text" prog_12_method_3_code 6 4 85 ((Option.some Jvm.ClassFile.FieldType.int)) "number" mc ms p R s₀ m args meth cd) (hk8 : ∀ {G : wo_W} {c s : Nat} {x0 : Option Nat} {x1 : Int32} {x2 : Int32} {x3 : Int32} {x4 : Int32}, k8 G c s x0 x1 x2 x3 x4 → ∀ {H : Heap} {locs : List Loc} {ls : Array Slot}, wo_Se E G H → va_S (en_A E) s₀.heap H locs → lx_has ls 6 [(0, 1, va_rf x0), (1, 1, .int x1), (2, 1, .int x2), (3, 1, .int x3), (4, 1, .int x4)] → c ≤ mc → s ≤ ms → W p l e R s₀ m args below meth cd H locs c s (MQ below (va_Qi Post (wo_B E) (en_A E)) args s₀ mc ms (en_A E)) (F0 m 8 ls [])) : ∀ {G : wo_W} {c s : Nat} {x0 : Option Nat} {x1 : Int32} {x2 : Int32} {x3 : Int32} {x4 : Int32}, pq_Tx_number_74 E mc ms Post k8 G c s x0 x1 x2 x3 x4 → ∀ {H : Heap} {locs : List Loc} {ls : Array Slot}, wo_Se E G H → va_S (en_A E) s₀.heap H locs → lx_has ls 6 [(0, 1, va_rf x0), (1, 1, .int x1), (2, 1, .int x2), (3, 1, .int x3), (4, 1, .int x4)] → c ≤ mc → s ≤ ms → W p l e R s₀ m args below meth cd H locs c s (MQ below (va_Qi Post (wo_B E) (en_A E)) args s₀ mc ms (en_A E)) (F0 m 74 ls []) := by
  intro G c s x0 x1 x2 x3 x4 hw H locs ls hG hS hl hcc hss
  dsimp only [pq_Tx_number_74] at hw
  have hx := hC.1
  have hb := hC.2.1
  refine lx_iinc (k := 4) (v := (x4 + (1 : Int32))) (lv' := [(4, 1, .int (x4 + (1 : Int32))), (0, 1, va_rf x0), (1, 1, .int x1), (2, 1, .int x2), (3, 1, .int x3)]) hx hb dq_Tx_number_74 hl rfl rfl (by decide) rfl (fun ls hl' => ?_)
  clear hl
  have hl := hl'
  clear hl'
  refine lv_goto (tgt := 8) hx hb dq_Tx_number_77 rfl ?_
  exact hk8 hw hG hS (lx_sub hl [1, 2, 3, 4, 0] rfl) hcc hss
set_option maxRecDepth 100000 in
set_option maxHeartbeats 4000000 in
theorem tq_Tx_number_72 {p : Program} {l : Launch} {e : Env} {R : Room} {s₀ : State} {m : MethodId} {args : Array Value} {below : List Frame} {meth : Method} {cd : Code} {E : wo_E} {mc ms : Nat} {Post : Int32 → wo_W → Prop} {k8 : wo_W → Nat → Nat → Option Nat → Int32 → Int32 → Int32 → Int32 → Prop} (hC : wo_Cx E "EdgeCache$Text" prog_12_method_3_code 6 4 85 ((Option.some Jvm.ClassFile.FieldType.int)) "number" mc ms p R s₀ m args meth cd) (hk8 : ∀ {G : wo_W} {c s : Nat} {x0 : Option Nat} {x1 : Int32} {x2 : Int32} {x3 : Int32} {x4 : Int32}, k8 G c s x0 x1 x2 x3 x4 → ∀ {H : Heap} {locs : List Loc} {ls : Array Slot}, wo_Se E G H → va_S (en_A E) s₀.heap H locs → lx_has ls 6 [(0, 1, va_rf x0), (1, 1, .int x1), (2, 1, .int x2), (3, 1, .int x3), (4, 1, .int x4)] → c ≤ mc → s ≤ ms → W p l e R s₀ m args below meth cd H locs c s (MQ below (va_Qi Post (wo_B E) (en_A E)) args s₀ mc ms (en_A E)) (F0 m 8 ls [])) : ∀ {G : wo_W} {c s : Nat} {x0 : Option Nat} {x1 : Int32} {x2 : Int32} {x4 : Int32}, pq_Tx_number_72 E mc ms Post k8 G c s x0 x1 x2 x4 → ∀ {H : Heap} {locs : List Loc} {ls : Array Slot}, wo_Se E G H → va_S (en_A E) s₀.heap H locs → lx_has ls 6 [(0, 1, va_rf x0), (1, 1, .int x1), (2, 1, .int x2), (4, 1, .int x4)] → c ≤ mc → s ≤ ms → W p l e R s₀ m args below meth cd H locs c s (MQ below (va_Qi Post (wo_B E) (en_A E)) args s₀ mc ms (en_A E)) (F0 m 72 ls []) := by
  intro G c s x0 x1 x2 x4 hw H locs ls hG hS hl hcc hss
  dsimp only [pq_Tx_number_72] at hw
  have hx := hC.1
  have hb := hC.2.1
  refine lv_iconst (v := (0 : Int32)) hx hb dq_Tx_number_72 rfl ?_
  refine lx_istore_n (lv' := [(3, 1, .int (0 : Int32)), (0, 1, va_rf x0), (1, 1, .int x1), (2, 1, .int x2), (4, 1, .int x4)]) hx hb dq_Tx_number_73 rfl hl (by decide) rfl (fun ls hl' => ?_)
  clear hl
  have hl := hl'
  clear hl'
  exact tq_Tx_number_74 hC hk8 hw hG hS (lx_sub hl [1, 2, 3, 0, 4] rfl) hcc hss
set_option maxRecDepth 100000 in
set_option maxHeartbeats 4000000 in
theorem tq_Tx_number_8 {p : Program} {l : Launch} {e : Env} {R : Room} {s₀ : State} {m : MethodId} {args : Array Value} {below : List Frame} {meth : Method} {cd : Code} {E : wo_E} {mc ms : Nat} {Post : Int32 → wo_W → Prop} (hC : wo_Cx E "EdgeCache$Text" prog_12_method_3_code 6 4 85 ((Option.some Jvm.ClassFile.FieldType.int)) "number" mc ms p R s₀ m args meth cd) : ∀ n : Nat, ∀ {G : wo_W} {c s : Nat} {x0 : Option Nat} {x1 : Int32} {x2 : Int32} {x3 : Int32} {x4 : Int32}, pq_Tx_number_8 E mc ms Post n G c s x0 x1 x2 x3 x4 → ∀ {H : Heap} {locs : List Loc} {ls : Array Slot}, wo_Se E G H → va_S (en_A E) s₀.heap H locs → lx_has ls 6 [(0, 1, va_rf x0), (1, 1, .int x1), (2, 1, .int x2), (3, 1, .int x3), (4, 1, .int x4)] → c ≤ mc → s ≤ ms → W p l e R s₀ m args below meth cd H locs c s (MQ below (va_Qi Post (wo_B E) (en_A E)) args s₀ mc ms (en_A E)) (F0 m 8 ls []) := by
  intro n
  induction n with
  | zero => intro G c s x0 x1 x2 x3 x4 hw; exact hw.elim
  | succ n ih =>
    intro G c s x0 x1 x2 x3 x4 hw H locs ls hG hS hl hcc hss
    dsimp only [pq_Tx_number_8] at hw
    have hx := hC.1
    have hb := hC.2.1
    refine lx_aloadR_n hx hb dq_Tx_number_8 rfl (lx_at hl 0 rfl) ?_
    refine lx_ifnull (tgt := 80) hx hb dq_Tx_number_9 rfl (fun h => ?_) (fun a1 h => ?_)
    · replace hw := hw.1 h
      subst h
      exact tq_Tx_number_80 hC hw hG hS (lx_sub hl [2] rfl) hcc hss
    · replace hw := hw.2 a1 h
      subst h
      refine lv_iload hx hb dq_Tx_number_12 (lx_at hl 4 rfl) ?_
      refine lv_aload_n hx hb dq_Tx_number_14 rfl (lx_at hl 0 rfl) ?_
      obtain ⟨t2, hw⟩ := hw
      obtain ⟨mc3, ms4, hc1, hs1, hw⟩ := hw
      refine va_calli (wo_runV hC lq_Tx_15 (mq_St_length hw) hG hS t2 rfl (lx_sz hl) rfl (lx_rm (Nat.le_of_ble_eq_true rfl)) (by decide) dq_Tx_number_15 ⟨hc1, hs1⟩) hS (fun _ _ h => h) (fun _ h => h) (fun v6 G5 t H locs ht hvm hw' hB _ _ hS => ?_)
      clear hw
      have hw := hw'
      clear hw'
      replace hG := wo_bk ht hB
      replace hcc := hc1
      replace hss := hs1
      refine lv_icmp_ge (tgt := 80) hx hb dq_Tx_number_18 rfl (fun h => ?_) (fun h => ?_)
      · replace hw := hw.1 h
        exact tq_Tx_number_80 hC hw hG hS (lx_sub hl [2] rfl) hcc hss
      · replace hw := hw.2 h
        refine lv_aload_n hx hb dq_Tx_number_21 rfl (lx_at hl 0 rfl) ?_
        refine lv_iload hx hb dq_Tx_number_22 (lx_at hl 4 rfl) ?_
        obtain ⟨t7, hw⟩ := hw
        obtain ⟨mc8, ms9, hc1, hs1, hw⟩ := hw
        refine va_calli (wo_runV hC lq_Tx_21 (mq_St_charAt hw) hG hS t7 rfl (lx_sz hl) rfl (Nat.zero_le _) (by decide) dq_Tx_number_24 ⟨hc1, hs1⟩) hS (fun _ _ h => h) (fun _ h => h) (fun v11 G10 t H locs ht hvm hw' hB _ _ hS => ?_)
        clear hw
        have hw := hw'
        clear hw'
        replace hG := wo_bk ht hB
        replace hcc := hc1
        replace hss := hs1
        refine lx_istore (lv' := [(5, 1, .int v11), (0, 1, .ref a1), (1, 1, .int x1), (2, 1, .int x2), (3, 1, .int x3), (4, 1, .int x4)]) hx hb dq_Tx_number_27 hl (by decide) rfl (fun ls hl' => ?_)
        clear hl
        have hl := hl'
        clear hl'
        refine lv_iload hx hb dq_Tx_number_29 (lx_at hl 0 rfl) ?_
        refine lv_iload_n hx hb dq_Tx_number_31 rfl (lx_at hl 2 rfl) ?_
        refine lv_icmp_ne (tgt := 42) hx hb dq_Tx_number_32 rfl (fun h => ?_) (fun h => ?_)
        · replace hw := hw.1 h
          refine lv_iload_n hx hb dq_Tx_number_42 rfl (lx_at hl 4 rfl) ?_
          refine lv_if_eq (tgt := 72) hx hb dq_Tx_number_43 rfl (fun h => ?_) (fun h => ?_)
          · replace hw := hw.1 h
            exact tq_Tx_number_72 hC ih hw hG hS (lx_sub hl [1, 2, 3, 5] rfl) hcc hss
          · replace hw := hw.2 h
            refine lv_iload hx hb dq_Tx_number_46 (lx_at hl 0 rfl) ?_
            obtain ⟨mc12, ms13, hc1, hs1, hw⟩ := hw
            refine va_calli (wo_runS hC lq_Tx_25 (mq_Tx_isDigit hw) hG hS rfl (lx_sz hl) rfl (Nat.zero_le _) (by decide) dq_Tx_number_48 ⟨hc1, hs1⟩) hS (fun _ _ h => h) (fun _ h => h) (fun v15 G14 t H locs ht hvm hw' hB _ _ hS => ?_)
            clear hw
            have hw := hw'
            clear hw'
            replace hG := wo_bk ht hB
            replace hcc := hc1
            replace hss := hs1
            refine lv_if_eq (tgt := 72) hx hb dq_Tx_number_51 rfl (fun h => ?_) (fun h => ?_)
            · replace hw := hw.1 h
              exact tq_Tx_number_72 hC ih hw hG hS (lx_sub hl [1, 2, 3, 5] rfl) hcc hss
            · replace hw := hw.2 h
              refine lv_iload_n hx hb dq_Tx_number_54 rfl (lx_at hl 3 rfl) ?_
              refine lv_iconst (v := (0 : Int32)) hx hb dq_Tx_number_55 rfl ?_
              refine wo_mmax hC lq_Tx_29 (lx_sz hl) hcc hss (by decide) (lx_rk (Nat.le_of_ble_eq_true rfl)) dq_Tx_number_56 ?_
              refine lv_bipush (v := (10 : Int32)) hx hb dq_Tx_number_59 rfl ?_
              refine lv_imul hx hb dq_Tx_number_61 ?_
              refine lv_iload hx hb dq_Tx_number_62 (lx_at hl 0 rfl) ?_
              refine lv_bipush (v := (48 : Int32)) hx hb dq_Tx_number_64 rfl ?_
              refine lv_isub hx hb dq_Tx_number_66 ?_
              refine lv_iadd hx hb dq_Tx_number_67 ?_
              refine lx_istore_n (lv' := [(2, 1, .int (((wo_max x2 (0 : Int32)) * (10 : Int32)) + (v11 - (48 : Int32)))), (5, 1, .int v11), (0, 1, .ref a1), (1, 1, .int x1), (3, 1, .int x3), (4, 1, .int x4)]) hx hb dq_Tx_number_68 rfl hl (by decide) rfl (fun ls hl' => ?_)
              clear hl
              have hl := hl'
              clear hl'
              refine lv_goto (tgt := 74) hx hb dq_Tx_number_69 rfl ?_
              exact tq_Tx_number_74 hC ih hw hG hS (lx_sub hl [2, 3, 0, 4, 5] rfl) hcc hss
        · replace hw := hw.2 h
          refine lv_iconst (v := (-1 : Int32)) hx hb dq_Tx_number_35 rfl ?_
          refine lx_istore_n (lv' := [(2, 1, .int (-1 : Int32)), (5, 1, .int v11), (0, 1, .ref a1), (1, 1, .int x1), (3, 1, .int x3), (4, 1, .int x4)]) hx hb dq_Tx_number_36 rfl hl (by decide) rfl (fun ls hl' => ?_)
          clear hl
          have hl := hl'
          clear hl'
          refine lv_iconst (v := (1 : Int32)) hx hb dq_Tx_number_37 rfl ?_
          refine lx_istore_n (lv' := [(3, 1, .int (1 : Int32)), (2, 1, .int (-1 : Int32)), (5, 1, .int v11), (0, 1, .ref a1), (1, 1, .int x1), (4, 1, .int x4)]) hx hb dq_Tx_number_38 rfl hl (by decide) rfl (fun ls hl' => ?_)
          clear hl
          have hl := hl'
          clear hl'
          refine lv_goto (tgt := 74) hx hb dq_Tx_number_39 rfl ?_
          exact tq_Tx_number_74 hC ih hw hG hS (lx_sub hl [3, 4, 1, 0, 5] rfl) hcc hss
set_option maxRecDepth 100000 in
set_option maxHeartbeats 4000000 in
theorem tq_Tx_number_0 {p : Program} {l : Launch} {e : Env} {R : Room} {s₀ : State} {m : MethodId} {args : Array Value} {below : List Frame} {meth : Method} {cd : Code} {E : wo_E} {mc ms : Nat} {Post : Int32 → wo_W → Prop} (hC : wo_Cx E "EdgeCache$Text" prog_12_method_3_code 6 4 85 ((Option.some Jvm.ClassFile.FieldType.int)) "number" mc ms p R s₀ m args meth cd) : ∀ {G : wo_W} {c s : Nat} {x0 : Option Nat} {x1 : Int32}, pq_Tx_number_0 E mc ms Post G c s x0 x1 → ∀ {H : Heap} {locs : List Loc} {ls : Array Slot}, wo_Se E G H → va_S (en_A E) s₀.heap H locs → lx_has ls 6 [(0, 1, va_rf x0), (1, 1, .int x1)] → c ≤ mc → s ≤ ms → W p l e R s₀ m args below meth cd H locs c s (MQ below (va_Qi Post (wo_B E) (en_A E)) args s₀ mc ms (en_A E)) (F0 m 0 ls []) := by
  intro G c s x0 x1 hw H locs ls hG hS hl hcc hss
  dsimp only [pq_Tx_number_0] at hw
  have hx := hC.1
  have hb := hC.2.1
  refine lv_bipush (v := (-2 : Int32)) hx hb dq_Tx_number_0 rfl ?_
  refine lx_istore_n (lv' := [(2, 1, .int (-2 : Int32)), (0, 1, va_rf x0), (1, 1, .int x1)]) hx hb dq_Tx_number_2 rfl hl (by decide) rfl (fun ls hl' => ?_)
  clear hl
  have hl := hl'
  clear hl'
  refine lv_iconst (v := (0 : Int32)) hx hb dq_Tx_number_3 rfl ?_
  refine lx_istore_n (lv' := [(3, 1, .int (0 : Int32)), (2, 1, .int (-2 : Int32)), (0, 1, va_rf x0), (1, 1, .int x1)]) hx hb dq_Tx_number_4 rfl hl (by decide) rfl (fun ls hl' => ?_)
  clear hl
  have hl := hl'
  clear hl'
  refine lv_iconst (v := (0 : Int32)) hx hb dq_Tx_number_5 rfl ?_
  refine lx_istore (lv' := [(4, 1, .int (0 : Int32)), (3, 1, .int (0 : Int32)), (2, 1, .int (-2 : Int32)), (0, 1, va_rf x0), (1, 1, .int x1)]) hx hb dq_Tx_number_6 hl (by decide) rfl (fun ls hl' => ?_)
  clear hl
  have hl := hl'
  clear hl'
  obtain ⟨n1, hw⟩ := hw
  exact tq_Tx_number_8 hC n1 hw hG hS (lx_sub hl [3, 4, 2, 1, 0] rfl) hcc hss
set_option maxHeartbeats 4000000 in
theorem mq_Tx_number {l : Launch} {E : wo_E} {mc ms : Nat} {Post : Int32 → wo_W → Prop} {G : wo_W} {x0 : Option Nat} {x1 : Int32} (hw : pq_Tx_number E mc ms Post G x0 x1) : Met l yq_Tx_number (Cond.code yq_Tx_number prog_12_method_3_code 6 ((Option.some Jvm.ClassFile.FieldType.int)) :: vw_WG) { frames := 4, cells := mc, slots := ms, locals := 85 } (va_Pc [va_rf x0, .int x1] (wo_Ok E G)) (va_Qi Post (wo_B E) (en_A E)) mc ms (en_A E) := by
  unfold pq_Tx_number at hw
  exact wo_met [(1, va_rf x0), (1, .int x1)] rfl (by decide) (fun q hq => by simp only [List.mem_cons, List.not_mem_nil, or_false] at hq; rcases hq with rfl | rfl <;> first | rfl | exact lx_cR _) (Nat.le_of_ble_eq_true rfl) (fun p e R s m args below meth cd ls hC hG hS hl => tq_Tx_number_0 hC hw hG hS (lx_sub hl [0, 1] rfl) (Nat.zero_le _) (Nat.zero_le _))

theorem dq_Sd_lifetime_0 : decode prog_11_method_4_code 0 = .ok (.aload_n 0, 1) := by decide +kernel
theorem dq_Sd_lifetime_1 : decode prog_11_method_4_code 1 = .ok (.getfield 7, 3) := by decide +kernel
theorem dq_Sd_lifetime_4 : decode prog_11_method_4_code 4 = .ok (.getfield 47, 3) := by decide +kernel
theorem dq_Sd_lifetime_7 : decode prog_11_method_4_code 7 = .ok (.bipush 115, 2) := by decide +kernel
theorem dq_Sd_lifetime_9 : decode prog_11_method_4_code 9 = .ok (.invokestatic 50, 3) := by decide +kernel
theorem dq_Sd_lifetime_12 : decode prog_11_method_4_code 12 = .ok (.istore_n 1, 1) := by decide +kernel
theorem dq_Sd_lifetime_13 : decode prog_11_method_4_code 13 = .ok (.iload_n 1, 1) := by decide +kernel
theorem dq_Sd_lifetime_14 : decode prog_11_method_4_code 14 = .ok (.ifCond .lt 7, 3) := by decide +kernel
theorem dq_Sd_lifetime_17 : decode prog_11_method_4_code 17 = .ok (.iload_n 1, 1) := by decide +kernel
theorem dq_Sd_lifetime_18 : decode prog_11_method_4_code 18 = .ok (.goto 19, 3) := by decide +kernel
theorem dq_Sd_lifetime_21 : decode prog_11_method_4_code 21 = .ok (.iconst 0, 1) := by decide +kernel
theorem dq_Sd_lifetime_22 : decode prog_11_method_4_code 22 = .ok (.aload_n 0, 1) := by decide +kernel
theorem dq_Sd_lifetime_23 : decode prog_11_method_4_code 23 = .ok (.getfield 7, 3) := by decide +kernel
theorem dq_Sd_lifetime_26 : decode prog_11_method_4_code 26 = .ok (.getfield 47, 3) := by decide +kernel
theorem dq_Sd_lifetime_29 : decode prog_11_method_4_code 29 = .ok (.bipush 109, 2) := by decide +kernel
theorem dq_Sd_lifetime_31 : decode prog_11_method_4_code 31 = .ok (.invokestatic 50, 3) := by decide +kernel
theorem dq_Sd_lifetime_34 : decode prog_11_method_4_code 34 = .ok (.invokestatic 56, 3) := by decide +kernel
theorem dq_Sd_lifetime_37 : decode prog_11_method_4_code 37 = .ok (.ireturn, 1) := by decide +kernel
set_option maxRecDepth 100000 in
def pq_Sd_lifetime_37 (E : wo_E) (mc ms : Nat) (Post : Int32 → wo_W → Prop) (G : wo_W) (c s : Nat) (y0 : Int32) : Prop := Post y0 G
set_option maxRecDepth 100000 in
def pq_Sd_lifetime_0 (E : wo_E) (mc ms : Nat) (Post : Int32 → wo_W → Prop) (G : wo_W) (c s : Nat) (x0 : Nat) : Prop := wo_ty G x0 = 14 ∧ ∀ r2 : Option Nat, r2 = wo_gr G 832 x0 → ∃ a4 : Nat, r2 = some a4 ∧ wo_ty G a4 = 13 ∧ ∀ r6 : Option Nat, r6 = wo_gr G 771 a4 → ∃ mc8 ms9 : Nat, (c + mc8) ≤ mc ∧ (s + ms9) ≤ ms ∧ pq_Tx_number E mc8 ms9 (fun v11 G10 => 
  ((v11 < (0 : Int32) → wo_ty G10 x0 = 14 ∧ ∀ r13 : Option Nat, r13 = wo_gr G10 832 x0 → ∃ a15 : Nat, r13 = some a15 ∧ wo_ty G10 a15 = 13 ∧ ∀ r17 : Option Nat, r17 = wo_gr G10 771 a15 → ∃ mc19 ms20 : Nat, ((c + mc8) + mc19) ≤ mc ∧ ((s + ms9) + ms20) ≤ ms ∧ pq_Tx_number E mc19 ms20 (fun v22 G21 => 
      pq_Sd_lifetime_37 E mc ms Post G21 ((c + mc8) + mc19) ((s + ms9) + ms20) (wo_max (0 : Int32) v22)) G10 r17 (109 : Int32)) ∧
    (¬ v11 < (0 : Int32) → pq_Sd_lifetime_37 E mc ms Post G10 (c + mc8) (s + ms9) v11))) G r6 (115 : Int32)
def pq_Sd_lifetime (E : wo_E) (mc ms : Nat) (Post : Int32 → wo_W → Prop) (G : wo_W) (x0 : Nat) : Prop := pq_Sd_lifetime_0 E mc ms Post G 0 0 x0
set_option maxRecDepth 100000 in
set_option maxHeartbeats 4000000 in
theorem tq_Sd_lifetime_37 {p : Program} {l : Launch} {e : Env} {R : Room} {s₀ : State} {m : MethodId} {args : Array Value} {below : List Frame} {meth : Method} {cd : Code} {E : wo_E} {mc ms : Nat} {Post : Int32 → wo_W → Prop} (hC : wo_Cx E "EdgeCache$Stored" prog_11_method_4_code 2 5 110 ((Option.some Jvm.ClassFile.FieldType.int)) "lifetime" mc ms p R s₀ m args meth cd) : ∀ {G : wo_W} {c s : Nat} {y0 : Int32}, pq_Sd_lifetime_37 E mc ms Post G c s y0 → ∀ {H : Heap} {locs : List Loc} {ls : Array Slot}, wo_Se E G H → va_S (en_A E) s₀.heap H locs → lx_has ls 2 [] → c ≤ mc → s ≤ ms → W p l e R s₀ m args below meth cd H locs c s (MQ below (va_Qi Post (wo_B E) (en_A E)) args s₀ mc ms (en_A E)) (F0 m 37 ls [.int y0]) := by
  intro G c s y0 hw H locs ls hG hS hl hcc hss
  dsimp only [pq_Sd_lifetime_37] at hw
  have hx := hC.1
  have hb := hC.2.1
  exact wo_iret hC hG hS hcc hss hw dq_Sd_lifetime_37
set_option maxRecDepth 100000 in
set_option maxHeartbeats 4000000 in
theorem tq_Sd_lifetime_0 {p : Program} {l : Launch} {e : Env} {R : Room} {s₀ : State} {m : MethodId} {args : Array Value} {below : List Frame} {meth : Method} {cd : Code} {E : wo_E} {mc ms : Nat} {Post : Int32 → wo_W → Prop} (hC : wo_Cx E "EdgeCache$Stored" prog_11_method_4_code 2 5 110 ((Option.some Jvm.ClassFile.FieldType.int)) "lifetime" mc ms p R s₀ m args meth cd) : ∀ {G : wo_W} {c s : Nat} {x0 : Nat}, pq_Sd_lifetime_0 E mc ms Post G c s x0 → ∀ {H : Heap} {locs : List Loc} {ls : Array Slot}, wo_Se E G H → va_S (en_A E) s₀.heap H locs → lx_has ls 2 [(0, 1, .ref x0)] → c ≤ mc → s ≤ ms → W p l e R s₀ m args below meth cd H locs c s (MQ below (va_Qi Post (wo_B E) (en_A E)) args s₀ mc ms (en_A E)) (F0 m 0 ls []) := by
  intro G c s x0 hw H locs ls hG hS hl hcc hss
  dsimp only [pq_Sd_lifetime_0] at hw
  have hx := hC.1
  have hb := hC.2.1
  refine lv_aload_n hx hb dq_Sd_lifetime_0 rfl (lx_at hl 0 rfl) ?_
  obtain ⟨t1, hw⟩ := hw
  refine wo_getR hC fq_Sd_7 rfl hG t1 dq_Sd_lifetime_1 (fun r2 e3 => ?_)
  replace hw := hw r2 e3
  obtain ⟨a4, rfl, hw⟩ := hw
  obtain ⟨t5, hw⟩ := hw
  refine wo_getR hC fq_Sd_47 rfl hG t5 dq_Sd_lifetime_4 (fun r6 e7 => ?_)
  replace hw := hw r6 e7
  refine lv_bipush (v := (115 : Int32)) hx hb dq_Sd_lifetime_7 rfl ?_
  obtain ⟨mc8, ms9, hc1, hs1, hw⟩ := hw
  refine va_calli (wo_runS hC lq_Sd_50 (mq_Tx_number hw) hG hS rfl (lx_sz hl) rfl (Nat.zero_le _) (by decide) dq_Sd_lifetime_9 ⟨hc1, hs1⟩) hS (fun _ _ h => h) (fun _ h => h) (fun v11 G10 t H locs ht hvm hw' hB _ _ hS => ?_)
  clear hw
  have hw := hw'
  clear hw'
  replace hG := wo_bk ht hB
  replace hcc := hc1
  replace hss := hs1
  refine lx_istore_n (lv' := [(1, 1, .int v11), (0, 1, .ref x0)]) hx hb dq_Sd_lifetime_12 rfl hl (by decide) rfl (fun ls hl' => ?_)
  clear hl
  have hl := hl'
  clear hl'
  refine lv_iload_n hx hb dq_Sd_lifetime_13 rfl (lx_at hl 0 rfl) ?_
  refine lv_if_lt (tgt := 21) hx hb dq_Sd_lifetime_14 rfl (fun h => ?_) (fun h => ?_)
  · replace hw := hw.1 h
    refine lv_iconst (v := (0 : Int32)) hx hb dq_Sd_lifetime_21 rfl ?_
    refine lv_aload_n hx hb dq_Sd_lifetime_22 rfl (lx_at hl 1 rfl) ?_
    obtain ⟨t12, hw⟩ := hw
    refine wo_getR hC fq_Sd_7 rfl hG t12 dq_Sd_lifetime_23 (fun r13 e14 => ?_)
    replace hw := hw r13 e14
    obtain ⟨a15, rfl, hw⟩ := hw
    obtain ⟨t16, hw⟩ := hw
    refine wo_getR hC fq_Sd_47 rfl hG t16 dq_Sd_lifetime_26 (fun r17 e18 => ?_)
    replace hw := hw r17 e18
    refine lv_bipush (v := (109 : Int32)) hx hb dq_Sd_lifetime_29 rfl ?_
    obtain ⟨mc19, ms20, hc1, hs1, hw⟩ := hw
    refine va_calli (wo_runS hC lq_Sd_50 (mq_Tx_number hw) hG hS rfl (lx_sz hl) rfl (lx_rm (Nat.le_of_ble_eq_true rfl)) (by decide) dq_Sd_lifetime_31 ⟨hc1, hs1⟩) hS (fun _ _ h => h) (fun _ h => h) (fun v22 G21 t H locs ht hvm hw' hB _ _ hS => ?_)
    clear hw
    have hw := hw'
    clear hw'
    replace hG := wo_bk ht hB
    replace hcc := hc1
    replace hss := hs1
    refine wo_mmax hC lq_Sd_56 (lx_sz hl) hcc hss (by decide) (lx_rk (Nat.le_of_ble_eq_true rfl)) dq_Sd_lifetime_34 ?_
    exact tq_Sd_lifetime_37 hC hw hG hS (lx_sub hl [] rfl) hcc hss
  · replace hw := hw.2 h
    refine lv_iload_n hx hb dq_Sd_lifetime_17 rfl (lx_at hl 0 rfl) ?_
    refine lv_goto (tgt := 37) hx hb dq_Sd_lifetime_18 rfl ?_
    exact tq_Sd_lifetime_37 hC hw hG hS (lx_sub hl [] rfl) hcc hss
set_option maxHeartbeats 4000000 in
theorem mq_Sd_lifetime {l : Launch} {E : wo_E} {mc ms : Nat} {Post : Int32 → wo_W → Prop} {G : wo_W} {x0 : Nat} (hw : pq_Sd_lifetime E mc ms Post G x0) : Met l yq_Sd_lifetime (Cond.code yq_Sd_lifetime prog_11_method_4_code 2 ((Option.some Jvm.ClassFile.FieldType.int)) :: vw_WG) { frames := 5, cells := mc, slots := ms, locals := 110 } (va_Pc [.ref x0] (wo_Ok E G)) (va_Qi Post (wo_B E) (en_A E)) mc ms (en_A E) := by
  unfold pq_Sd_lifetime at hw
  exact wo_met [(1, .ref x0)] rfl (by decide) (fun q hq => by simp only [List.mem_cons, List.not_mem_nil, or_false] at hq; rcases hq with rfl <;> first | rfl | exact lx_cR _) (Nat.le_of_ble_eq_true rfl) (fun p e R s m args below meth cd ls hC hG hS hl => tq_Sd_lifetime_0 hC hw hG hS (lx_sub hl [0] rfl) (Nat.zero_le _) (Nat.zero_le _))

theorem dq_Tx_counts_0 : decode prog_12_method_2_code 0 = .ok (.aload_n 0, 1) := by decide +kernel
theorem dq_Tx_counts_1 : decode prog_12_method_2_code 1 = .ok (.iload_n 1, 1) := by decide +kernel
theorem dq_Tx_counts_2 : decode prog_12_method_2_code 2 = .ok (.invokestatic 9, 3) := by decide +kernel
theorem dq_Tx_counts_5 : decode prog_12_method_2_code 5 = .ok (.bipush (-2), 2) := by decide +kernel
theorem dq_Tx_counts_7 : decode prog_12_method_2_code 7 = .ok (.if_icmp .eq 7, 3) := by decide +kernel
theorem dq_Tx_counts_10 : decode prog_12_method_2_code 10 = .ok (.iconst 1, 1) := by decide +kernel
theorem dq_Tx_counts_11 : decode prog_12_method_2_code 11 = .ok (.goto 4, 3) := by decide +kernel
theorem dq_Tx_counts_14 : decode prog_12_method_2_code 14 = .ok (.iconst 0, 1) := by decide +kernel
theorem dq_Tx_counts_15 : decode prog_12_method_2_code 15 = .ok (.ireturn, 1) := by decide +kernel
set_option maxRecDepth 100000 in
def pq_Tx_counts_15 (E : wo_E) (mc ms : Nat) (Post : Int32 → wo_W → Prop) (G : wo_W) (c s : Nat) (y0 : Int32) : Prop := wo_okI .boolean y0 ∧ Post y0 G
set_option maxRecDepth 100000 in
def pq_Tx_counts_0 (E : wo_E) (mc ms : Nat) (Post : Int32 → wo_W → Prop) (G : wo_W) (c s : Nat) (x0 : Option Nat) (x1 : Int32) : Prop := ∃ mc1 ms2 : Nat, (c + mc1) ≤ mc ∧ (s + ms2) ≤ ms ∧ pq_Tx_number E mc1 ms2 (fun v4 G3 => 
  ((v4 = (-2 : Int32) → pq_Tx_counts_15 E mc ms Post G3 (c + mc1) (s + ms2) (0 : Int32)) ∧
    (¬ v4 = (-2 : Int32) → pq_Tx_counts_15 E mc ms Post G3 (c + mc1) (s + ms2) (1 : Int32)))) G x0 x1
def pq_Tx_counts (E : wo_E) (mc ms : Nat) (Post : Int32 → wo_W → Prop) (G : wo_W) (x0 : Option Nat) (x1 : Int32) : Prop := pq_Tx_counts_0 E mc ms Post G 0 0 x0 x1
set_option maxRecDepth 100000 in
set_option maxHeartbeats 4000000 in
theorem tq_Tx_counts_15 {p : Program} {l : Launch} {e : Env} {R : Room} {s₀ : State} {m : MethodId} {args : Array Value} {below : List Frame} {meth : Method} {cd : Code} {E : wo_E} {mc ms : Nat} {Post : Int32 → wo_W → Prop} (hC : wo_Cx E "EdgeCache$Text" prog_12_method_2_code 2 5 110 ((Option.some Jvm.ClassFile.FieldType.boolean)) "counts" mc ms p R s₀ m args meth cd) : ∀ {G : wo_W} {c s : Nat} {y0 : Int32}, pq_Tx_counts_15 E mc ms Post G c s y0 → ∀ {H : Heap} {locs : List Loc} {ls : Array Slot}, wo_Se E G H → va_S (en_A E) s₀.heap H locs → lx_has ls 2 [] → c ≤ mc → s ≤ ms → W p l e R s₀ m args below meth cd H locs c s (MQ below (va_Qi Post (wo_B E) (en_A E)) args s₀ mc ms (en_A E)) (F0 m 15 ls [.int y0]) := by
  intro G c s y0 hw H locs ls hG hS hl hcc hss
  dsimp only [pq_Tx_counts_15] at hw
  have hx := hC.1
  have hb := hC.2.1
  obtain ⟨h1, hw⟩ := hw
  exact wo_zret hC h1.1 hG hS hcc hss hw dq_Tx_counts_15
set_option maxRecDepth 100000 in
set_option maxHeartbeats 4000000 in
theorem tq_Tx_counts_0 {p : Program} {l : Launch} {e : Env} {R : Room} {s₀ : State} {m : MethodId} {args : Array Value} {below : List Frame} {meth : Method} {cd : Code} {E : wo_E} {mc ms : Nat} {Post : Int32 → wo_W → Prop} (hC : wo_Cx E "EdgeCache$Text" prog_12_method_2_code 2 5 110 ((Option.some Jvm.ClassFile.FieldType.boolean)) "counts" mc ms p R s₀ m args meth cd) : ∀ {G : wo_W} {c s : Nat} {x0 : Option Nat} {x1 : Int32}, pq_Tx_counts_0 E mc ms Post G c s x0 x1 → ∀ {H : Heap} {locs : List Loc} {ls : Array Slot}, wo_Se E G H → va_S (en_A E) s₀.heap H locs → lx_has ls 2 [(0, 1, va_rf x0), (1, 1, .int x1)] → c ≤ mc → s ≤ ms → W p l e R s₀ m args below meth cd H locs c s (MQ below (va_Qi Post (wo_B E) (en_A E)) args s₀ mc ms (en_A E)) (F0 m 0 ls []) := by
  intro G c s x0 x1 hw H locs ls hG hS hl hcc hss
  dsimp only [pq_Tx_counts_0] at hw
  have hx := hC.1
  have hb := hC.2.1
  refine lx_aloadR_n hx hb dq_Tx_counts_0 rfl (lx_at hl 0 rfl) ?_
  refine lv_iload_n hx hb dq_Tx_counts_1 rfl (lx_at hl 1 rfl) ?_
  obtain ⟨mc1, ms2, hc1, hs1, hw⟩ := hw
  refine va_calli (wo_runS hC lq_Tx_9 (mq_Tx_number hw) hG hS rfl (lx_sz hl) rfl (Nat.zero_le _) (by decide) dq_Tx_counts_2 ⟨hc1, hs1⟩) hS (fun _ _ h => h) (fun _ h => h) (fun v4 G3 t H locs ht hvm hw' hB _ _ hS => ?_)
  clear hw
  have hw := hw'
  clear hw'
  replace hG := wo_bk ht hB
  replace hcc := hc1
  replace hss := hs1
  refine lv_bipush (v := (-2 : Int32)) hx hb dq_Tx_counts_5 rfl ?_
  refine lv_icmp_eq (tgt := 14) hx hb dq_Tx_counts_7 rfl (fun h => ?_) (fun h => ?_)
  · replace hw := hw.1 h
    refine lv_iconst (v := (0 : Int32)) hx hb dq_Tx_counts_14 rfl ?_
    exact tq_Tx_counts_15 hC hw hG hS (lx_sub hl [] rfl) hcc hss
  · replace hw := hw.2 h
    refine lv_iconst (v := (1 : Int32)) hx hb dq_Tx_counts_10 rfl ?_
    refine lv_goto (tgt := 15) hx hb dq_Tx_counts_11 rfl ?_
    exact tq_Tx_counts_15 hC hw hG hS (lx_sub hl [] rfl) hcc hss
set_option maxHeartbeats 4000000 in
theorem mq_Tx_counts {l : Launch} {E : wo_E} {mc ms : Nat} {Post : Int32 → wo_W → Prop} {G : wo_W} {x0 : Option Nat} {x1 : Int32} (hw : pq_Tx_counts E mc ms Post G x0 x1) : Met l yq_Tx_counts (Cond.code yq_Tx_counts prog_12_method_2_code 2 ((Option.some Jvm.ClassFile.FieldType.boolean)) :: vw_WG) { frames := 5, cells := mc, slots := ms, locals := 110 } (va_Pc [va_rf x0, .int x1] (wo_Ok E G)) (va_Qi Post (wo_B E) (en_A E)) mc ms (en_A E) := by
  unfold pq_Tx_counts at hw
  exact wo_met [(1, va_rf x0), (1, .int x1)] rfl (by decide) (fun q hq => by simp only [List.mem_cons, List.not_mem_nil, or_false] at hq; rcases hq with rfl | rfl <;> first | rfl | exact lx_cR _) (Nat.le_of_ble_eq_true rfl) (fun p e R s m args below meth cd ls hC hG hS hl => tq_Tx_counts_0 hC hw hG hS (lx_sub hl [0, 1] rfl) (Nat.zero_le _) (Nat.zero_le _))

theorem dq_EC_mayAnswer_0 : decode prog_1_method_21_code 0 = .ok (.aload_n 1, 1) := by decide +kernel
theorem dq_EC_mayAnswer_1 : decode prog_1_method_21_code 1 = .ok (.getfield 202, 3) := by decide +kernel
theorem dq_EC_mayAnswer_4 : decode prog_1_method_21_code 4 = .ok (.getfield 224, 3) := by decide +kernel
theorem dq_EC_mayAnswer_7 : decode prog_1_method_21_code 7 = .ok (.astore_n 3, 1) := by decide +kernel
theorem dq_EC_mayAnswer_8 : decode prog_1_method_21_code 8 = .ok (.aload_n 0, 1) := by decide +kernel
theorem dq_EC_mayAnswer_9 : decode prog_1_method_21_code 9 = .ok (.getfield 99, 3) := by decide +kernel
theorem dq_EC_mayAnswer_12 : decode prog_1_method_21_code 12 = .ok (.aload_n 1, 1) := by decide +kernel
theorem dq_EC_mayAnswer_13 : decode prog_1_method_21_code 13 = .ok (.getfield 208, 3) := by decide +kernel
theorem dq_EC_mayAnswer_16 : decode prog_1_method_21_code 16 = .ok (.isub, 1) := by decide +kernel
theorem dq_EC_mayAnswer_17 : decode prog_1_method_21_code 17 = .ok (.istore 4, 2) := by decide +kernel
theorem dq_EC_mayAnswer_19 : decode prog_1_method_21_code 19 = .ok (.iload 4, 2) := by decide +kernel
theorem dq_EC_mayAnswer_21 : decode prog_1_method_21_code 21 = .ok (.aload_n 1, 1) := by decide +kernel
theorem dq_EC_mayAnswer_22 : decode prog_1_method_21_code 22 = .ok (.invokevirtual 227, 3) := by decide +kernel
theorem dq_EC_mayAnswer_25 : decode prog_1_method_21_code 25 = .ok (.if_icmp .ge 24, 3) := by decide +kernel
theorem dq_EC_mayAnswer_28 : decode prog_1_method_21_code 28 = .ok (.aload_n 3, 1) := by decide +kernel
theorem dq_EC_mayAnswer_29 : decode prog_1_method_21_code 29 = .ok (.bipush 110, 2) := by decide +kernel
theorem dq_EC_mayAnswer_31 : decode prog_1_method_21_code 31 = .ok (.invokestatic 230, 3) := by decide +kernel
theorem dq_EC_mayAnswer_34 : decode prog_1_method_21_code 34 = .ok (.ifCond .ne 15, 3) := by decide +kernel
theorem dq_EC_mayAnswer_37 : decode prog_1_method_21_code 37 = .ok (.aload_n 2, 1) := by decide +kernel
theorem dq_EC_mayAnswer_38 : decode prog_1_method_21_code 38 = .ok (.getfield 236, 3) := by decide +kernel
theorem dq_EC_mayAnswer_41 : decode prog_1_method_21_code 41 = .ok (.bipush 110, 2) := by decide +kernel
theorem dq_EC_mayAnswer_43 : decode prog_1_method_21_code 43 = .ok (.invokestatic 230, 3) := by decide +kernel
theorem dq_EC_mayAnswer_46 : decode prog_1_method_21_code 46 = .ok (.ifCond .eq 5, 3) := by decide +kernel
theorem dq_EC_mayAnswer_49 : decode prog_1_method_21_code 49 = .ok (.iconst 0, 1) := by decide +kernel
theorem dq_EC_mayAnswer_50 : decode prog_1_method_21_code 50 = .ok (.ireturn, 1) := by decide +kernel
theorem dq_EC_mayAnswer_51 : decode prog_1_method_21_code 51 = .ok (.aload_n 2, 1) := by decide +kernel
theorem dq_EC_mayAnswer_52 : decode prog_1_method_21_code 52 = .ok (.getfield 236, 3) := by decide +kernel
theorem dq_EC_mayAnswer_55 : decode prog_1_method_21_code 55 = .ok (.bipush 97, 2) := by decide +kernel
theorem dq_EC_mayAnswer_57 : decode prog_1_method_21_code 57 = .ok (.invokestatic 239, 3) := by decide +kernel
theorem dq_EC_mayAnswer_60 : decode prog_1_method_21_code 60 = .ok (.istore 5, 2) := by decide +kernel
theorem dq_EC_mayAnswer_62 : decode prog_1_method_21_code 62 = .ok (.iload 5, 2) := by decide +kernel
theorem dq_EC_mayAnswer_64 : decode prog_1_method_21_code 64 = .ok (.ifCond .lt 10, 3) := by decide +kernel
theorem dq_EC_mayAnswer_67 : decode prog_1_method_21_code 67 = .ok (.iload 5, 2) := by decide +kernel
theorem dq_EC_mayAnswer_69 : decode prog_1_method_21_code 69 = .ok (.iload 4, 2) := by decide +kernel
theorem dq_EC_mayAnswer_71 : decode prog_1_method_21_code 71 = .ok (.if_icmp .lt 7, 3) := by decide +kernel
theorem dq_EC_mayAnswer_74 : decode prog_1_method_21_code 74 = .ok (.iconst 1, 1) := by decide +kernel
theorem dq_EC_mayAnswer_75 : decode prog_1_method_21_code 75 = .ok (.goto 4, 3) := by decide +kernel
theorem dq_EC_mayAnswer_78 : decode prog_1_method_21_code 78 = .ok (.iconst 0, 1) := by decide +kernel
theorem dq_EC_mayAnswer_79 : decode prog_1_method_21_code 79 = .ok (.ireturn, 1) := by decide +kernel
set_option maxRecDepth 100000 in
def pq_EC_mayAnswer_49 (E : wo_E) (mc ms : Nat) (Post : Int32 → wo_W → Prop) (G : wo_W) (c s : Nat) : Prop := Post (0 : Int32) G
set_option maxRecDepth 100000 in
def pq_EC_mayAnswer_79 (E : wo_E) (mc ms : Nat) (Post : Int32 → wo_W → Prop) (G : wo_W) (c s : Nat) (y0 : Int32) : Prop := wo_okI .boolean y0 ∧ Post y0 G
set_option maxRecDepth 100000 in
def pq_EC_mayAnswer_74 (E : wo_E) (mc ms : Nat) (Post : Int32 → wo_W → Prop) (G : wo_W) (c s : Nat) : Prop := pq_EC_mayAnswer_79 E mc ms Post G c s (1 : Int32)
set_option maxRecDepth 100000 in
def pq_EC_mayAnswer_0 (E : wo_E) (mc ms : Nat) (Post : Int32 → wo_W → Prop) (G : wo_W) (c s : Nat) (x0 : Nat) (x1 : Option Nat) (x2 : Option Nat) : Prop := ∃ a1 : Nat, x1 = some a1 ∧ wo_ty G a1 = 14 ∧ ∀ r3 : Option Nat, r3 = wo_gr G 832 a1 → ∃ a5 : Nat, r3 = some a5 ∧ wo_ty G a5 = 13 ∧ ∀ r7 : Option Nat, r7 = wo_gr G 771 a5 → wo_ty G x0 = 1 ∧ ∃ mc10 ms11 : Nat, (c + mc10) ≤ mc ∧ (s + ms11) ≤ ms ∧ pq_Sd_lifetime E mc10 ms11 (fun v13 G12 => 
  ((v13 ≤ ((wo_gi G 6 x0) - (wo_gi G 835 a1)) → pq_EC_mayAnswer_49 E mc ms Post G12 (c + mc10) (s + ms11)) ∧
    (¬ v13 ≤ ((wo_gi G 6 x0) - (wo_gi G 835 a1)) → ∃ mc14 ms15 : Nat, ((c + mc10) + mc14) ≤ mc ∧ ((s + ms11) + ms15) ≤ ms ∧ pq_Tx_counts E mc14 ms15 (fun v17 G16 => 
      ((¬ v17 = (0 : Int32) → pq_EC_mayAnswer_49 E mc ms Post G16 ((c + mc10) + mc14) ((s + ms11) + ms15)) ∧
        (v17 = (0 : Int32) → ∃ a18 : Nat, x2 = some a18 ∧ wo_ty G16 a18 = 9 ∧ ∀ r20 : Option Nat, r20 = wo_gr G16 519 a18 → ∃ mc22 ms23 : Nat, (((c + mc10) + mc14) + mc22) ≤ mc ∧ (((s + ms11) + ms15) + ms23) ≤ ms ∧ pq_Tx_counts E mc22 ms23 (fun v25 G24 => 
          ((v25 = (0 : Int32) → wo_ty G24 a18 = 9 ∧ ∀ r27 : Option Nat, r27 = wo_gr G24 519 a18 → ∃ mc29 ms30 : Nat, ((((c + mc10) + mc14) + mc22) + mc29) ≤ mc ∧ ((((s + ms11) + ms15) + ms23) + ms30) ≤ ms ∧ pq_Tx_number E mc29 ms30 (fun v32 G31 => 
              ((v32 < (0 : Int32) → pq_EC_mayAnswer_74 E mc ms Post G31 ((((c + mc10) + mc14) + mc22) + mc29) ((((s + ms11) + ms15) + ms23) + ms30)) ∧
                (¬ v32 < (0 : Int32) → ((v32 < ((wo_gi G 6 x0) - (wo_gi G 835 a1)) → pq_EC_mayAnswer_79 E mc ms Post G31 ((((c + mc10) + mc14) + mc22) + mc29) ((((s + ms11) + ms15) + ms23) + ms30) (0 : Int32)) ∧
                  (¬ v32 < ((wo_gi G 6 x0) - (wo_gi G 835 a1)) → pq_EC_mayAnswer_74 E mc ms Post G31 ((((c + mc10) + mc14) + mc22) + mc29) ((((s + ms11) + ms15) + ms23) + ms30)))))) G24 r27 (97 : Int32)) ∧
            (¬ v25 = (0 : Int32) → pq_EC_mayAnswer_49 E mc ms Post G24 (((c + mc10) + mc14) + mc22) (((s + ms11) + ms15) + ms23)))) G16 r20 (110 : Int32)))) G12 r7 (110 : Int32)))) G a1
def pq_EC_mayAnswer (E : wo_E) (mc ms : Nat) (Post : Int32 → wo_W → Prop) (G : wo_W) (x0 : Nat) (x1 : Option Nat) (x2 : Option Nat) : Prop := pq_EC_mayAnswer_0 E mc ms Post G 0 0 x0 x1 x2
set_option maxRecDepth 100000 in
set_option maxHeartbeats 4000000 in
theorem tq_EC_mayAnswer_49 {p : Program} {l : Launch} {e : Env} {R : Room} {s₀ : State} {m : MethodId} {args : Array Value} {below : List Frame} {meth : Method} {cd : Code} {E : wo_E} {mc ms : Nat} {Post : Int32 → wo_W → Prop} (hC : wo_Cx E "EdgeCache" prog_1_method_21_code 6 6 131 ((Option.some Jvm.ClassFile.FieldType.boolean)) "mayAnswer" mc ms p R s₀ m args meth cd) : ∀ {G : wo_W} {c s : Nat}, pq_EC_mayAnswer_49 E mc ms Post G c s → ∀ {H : Heap} {locs : List Loc} {ls : Array Slot}, wo_Se E G H → va_S (en_A E) s₀.heap H locs → lx_has ls 6 [] → c ≤ mc → s ≤ ms → W p l e R s₀ m args below meth cd H locs c s (MQ below (va_Qi Post (wo_B E) (en_A E)) args s₀ mc ms (en_A E)) (F0 m 49 ls []) := by
  intro G c s hw H locs ls hG hS hl hcc hss
  dsimp only [pq_EC_mayAnswer_49] at hw
  have hx := hC.1
  have hb := hC.2.1
  refine lv_iconst (v := (0 : Int32)) hx hb dq_EC_mayAnswer_49 rfl ?_
  exact wo_zret hC wo_z0 hG hS hcc hss hw dq_EC_mayAnswer_50
set_option maxRecDepth 100000 in
set_option maxHeartbeats 4000000 in
theorem tq_EC_mayAnswer_79 {p : Program} {l : Launch} {e : Env} {R : Room} {s₀ : State} {m : MethodId} {args : Array Value} {below : List Frame} {meth : Method} {cd : Code} {E : wo_E} {mc ms : Nat} {Post : Int32 → wo_W → Prop} (hC : wo_Cx E "EdgeCache" prog_1_method_21_code 6 6 131 ((Option.some Jvm.ClassFile.FieldType.boolean)) "mayAnswer" mc ms p R s₀ m args meth cd) : ∀ {G : wo_W} {c s : Nat} {y0 : Int32}, pq_EC_mayAnswer_79 E mc ms Post G c s y0 → ∀ {H : Heap} {locs : List Loc} {ls : Array Slot}, wo_Se E G H → va_S (en_A E) s₀.heap H locs → lx_has ls 6 [] → c ≤ mc → s ≤ ms → W p l e R s₀ m args below meth cd H locs c s (MQ below (va_Qi Post (wo_B E) (en_A E)) args s₀ mc ms (en_A E)) (F0 m 79 ls [.int y0]) := by
  intro G c s y0 hw H locs ls hG hS hl hcc hss
  dsimp only [pq_EC_mayAnswer_79] at hw
  have hx := hC.1
  have hb := hC.2.1
  obtain ⟨h1, hw⟩ := hw
  exact wo_zret hC h1.1 hG hS hcc hss hw dq_EC_mayAnswer_79
set_option maxRecDepth 100000 in
set_option maxHeartbeats 4000000 in
theorem tq_EC_mayAnswer_74 {p : Program} {l : Launch} {e : Env} {R : Room} {s₀ : State} {m : MethodId} {args : Array Value} {below : List Frame} {meth : Method} {cd : Code} {E : wo_E} {mc ms : Nat} {Post : Int32 → wo_W → Prop} (hC : wo_Cx E "EdgeCache" prog_1_method_21_code 6 6 131 ((Option.some Jvm.ClassFile.FieldType.boolean)) "mayAnswer" mc ms p R s₀ m args meth cd) : ∀ {G : wo_W} {c s : Nat}, pq_EC_mayAnswer_74 E mc ms Post G c s → ∀ {H : Heap} {locs : List Loc} {ls : Array Slot}, wo_Se E G H → va_S (en_A E) s₀.heap H locs → lx_has ls 6 [] → c ≤ mc → s ≤ ms → W p l e R s₀ m args below meth cd H locs c s (MQ below (va_Qi Post (wo_B E) (en_A E)) args s₀ mc ms (en_A E)) (F0 m 74 ls []) := by
  intro G c s hw H locs ls hG hS hl hcc hss
  dsimp only [pq_EC_mayAnswer_74] at hw
  have hx := hC.1
  have hb := hC.2.1
  refine lv_iconst (v := (1 : Int32)) hx hb dq_EC_mayAnswer_74 rfl ?_
  refine lv_goto (tgt := 79) hx hb dq_EC_mayAnswer_75 rfl ?_
  exact tq_EC_mayAnswer_79 hC hw hG hS (lx_sub hl [] rfl) hcc hss
set_option maxRecDepth 100000 in
set_option maxHeartbeats 4000000 in
theorem tq_EC_mayAnswer_0 {p : Program} {l : Launch} {e : Env} {R : Room} {s₀ : State} {m : MethodId} {args : Array Value} {below : List Frame} {meth : Method} {cd : Code} {E : wo_E} {mc ms : Nat} {Post : Int32 → wo_W → Prop} (hC : wo_Cx E "EdgeCache" prog_1_method_21_code 6 6 131 ((Option.some Jvm.ClassFile.FieldType.boolean)) "mayAnswer" mc ms p R s₀ m args meth cd) : ∀ {G : wo_W} {c s : Nat} {x0 : Nat} {x1 : Option Nat} {x2 : Option Nat}, pq_EC_mayAnswer_0 E mc ms Post G c s x0 x1 x2 → ∀ {H : Heap} {locs : List Loc} {ls : Array Slot}, wo_Se E G H → va_S (en_A E) s₀.heap H locs → lx_has ls 6 [(0, 1, .ref x0), (1, 1, va_rf x1), (2, 1, va_rf x2)] → c ≤ mc → s ≤ ms → W p l e R s₀ m args below meth cd H locs c s (MQ below (va_Qi Post (wo_B E) (en_A E)) args s₀ mc ms (en_A E)) (F0 m 0 ls []) := by
  intro G c s x0 x1 x2 hw H locs ls hG hS hl hcc hss
  dsimp only [pq_EC_mayAnswer_0] at hw
  have hx := hC.1
  have hb := hC.2.1
  refine lx_aloadR_n hx hb dq_EC_mayAnswer_0 rfl (lx_at hl 1 rfl) ?_
  obtain ⟨a1, rfl, hw⟩ := hw
  obtain ⟨t2, hw⟩ := hw
  refine wo_getR hC fq_EC_202 rfl hG t2 dq_EC_mayAnswer_1 (fun r3 e4 => ?_)
  replace hw := hw r3 e4
  obtain ⟨a5, rfl, hw⟩ := hw
  obtain ⟨t6, hw⟩ := hw
  refine wo_getR hC fq_EC_224 rfl hG t6 dq_EC_mayAnswer_4 (fun r7 e8 => ?_)
  replace hw := hw r7 e8
  refine lx_astoreR_n (lv' := [(3, 1, va_rf r7), (0, 1, .ref x0), (1, 1, .ref a1), (2, 1, va_rf x2)]) hx hb dq_EC_mayAnswer_7 rfl hl (by decide) rfl (fun ls hl' => ?_)
  clear hl
  have hl := hl'
  clear hl'
  refine lv_aload_n hx hb dq_EC_mayAnswer_8 rfl (lx_at hl 1 rfl) ?_
  obtain ⟨t9, hw⟩ := hw
  refine wo_getI hC fq_EC_99 rfl hG t9 dq_EC_mayAnswer_9 ?_
  refine lv_aload_n hx hb dq_EC_mayAnswer_12 rfl (lx_at hl 2 rfl) ?_
  refine wo_getI hC fq_EC_208 rfl hG t2 dq_EC_mayAnswer_13 ?_
  refine lv_isub hx hb dq_EC_mayAnswer_16 ?_
  refine lx_istore (lv' := [(4, 1, .int ((wo_gi G 6 x0) - (wo_gi G 835 a1))), (3, 1, va_rf r7), (0, 1, .ref x0), (1, 1, .ref a1), (2, 1, va_rf x2)]) hx hb dq_EC_mayAnswer_17 hl (by decide) rfl (fun ls hl' => ?_)
  clear hl
  have hl := hl'
  clear hl'
  refine lv_iload hx hb dq_EC_mayAnswer_19 (lx_at hl 0 rfl) ?_
  refine lv_aload_n hx hb dq_EC_mayAnswer_21 rfl (lx_at hl 3 rfl) ?_
  obtain ⟨mc10, ms11, hc1, hs1, hw⟩ := hw
  refine va_calli (wo_runV hC lq_EC_227 (mq_Sd_lifetime hw) hG hS t2 rfl (lx_sz hl) rfl (lx_rm (Nat.le_of_ble_eq_true rfl)) (by decide) dq_EC_mayAnswer_22 ⟨hc1, hs1⟩) hS (fun _ _ h => h) (fun _ h => h) (fun v13 G12 t H locs ht hvm hw' hB _ _ hS => ?_)
  clear hw
  have hw := hw'
  clear hw'
  replace hG := wo_bk ht hB
  replace hcc := hc1
  replace hss := hs1
  refine lv_icmp_ge (tgt := 49) hx hb dq_EC_mayAnswer_25 rfl (fun h => ?_) (fun h => ?_)
  · replace hw := hw.1 h
    exact tq_EC_mayAnswer_49 hC hw hG hS (lx_sub hl [] rfl) hcc hss
  · replace hw := hw.2 h
    refine lx_aloadR_n hx hb dq_EC_mayAnswer_28 rfl (lx_at hl 1 rfl) ?_
    refine lv_bipush (v := (110 : Int32)) hx hb dq_EC_mayAnswer_29 rfl ?_
    obtain ⟨mc14, ms15, hc1, hs1, hw⟩ := hw
    refine va_calli (wo_runS hC lq_EC_230 (mq_Tx_counts hw) hG hS rfl (lx_sz hl) rfl (Nat.zero_le _) (by decide) dq_EC_mayAnswer_31 ⟨hc1, hs1⟩) hS (fun _ _ h => h) (fun _ h => h) (fun v17 G16 t H locs ht hvm hw' hB _ _ hS => ?_)
    clear hw
    have hw := hw'
    clear hw'
    replace hG := wo_bk ht hB
    replace hcc := hc1
    replace hss := hs1
    refine lv_if_ne (tgt := 49) hx hb dq_EC_mayAnswer_34 rfl (fun h => ?_) (fun h => ?_)
    · replace hw := hw.1 h
      exact tq_EC_mayAnswer_49 hC hw hG hS (lx_sub hl [] rfl) hcc hss
    · replace hw := hw.2 h
      refine lx_aloadR_n hx hb dq_EC_mayAnswer_37 rfl (lx_at hl 4 rfl) ?_
      obtain ⟨a18, rfl, hw⟩ := hw
      obtain ⟨t19, hw⟩ := hw
      refine wo_getR hC fq_EC_236 rfl hG t19 dq_EC_mayAnswer_38 (fun r20 e21 => ?_)
      replace hw := hw r20 e21
      refine lv_bipush (v := (110 : Int32)) hx hb dq_EC_mayAnswer_41 rfl ?_
      obtain ⟨mc22, ms23, hc1, hs1, hw⟩ := hw
      refine va_calli (wo_runS hC lq_EC_230 (mq_Tx_counts hw) hG hS rfl (lx_sz hl) rfl (Nat.zero_le _) (by decide) dq_EC_mayAnswer_43 ⟨hc1, hs1⟩) hS (fun _ _ h => h) (fun _ h => h) (fun v25 G24 t H locs ht hvm hw' hB _ _ hS => ?_)
      clear hw
      have hw := hw'
      clear hw'
      replace hG := wo_bk ht hB
      replace hcc := hc1
      replace hss := hs1
      refine lv_if_eq (tgt := 51) hx hb dq_EC_mayAnswer_46 rfl (fun h => ?_) (fun h => ?_)
      · replace hw := hw.1 h
        refine lv_aload_n hx hb dq_EC_mayAnswer_51 rfl (lx_at hl 4 rfl) ?_
        obtain ⟨t26, hw⟩ := hw
        refine wo_getR hC fq_EC_236 rfl hG t26 dq_EC_mayAnswer_52 (fun r27 e28 => ?_)
        replace hw := hw r27 e28
        refine lv_bipush (v := (97 : Int32)) hx hb dq_EC_mayAnswer_55 rfl ?_
        obtain ⟨mc29, ms30, hc1, hs1, hw⟩ := hw
        refine va_calli (wo_runS hC lq_EC_239 (mq_Tx_number hw) hG hS rfl (lx_sz hl) rfl (Nat.zero_le _) (by decide) dq_EC_mayAnswer_57 ⟨hc1, hs1⟩) hS (fun _ _ h => h) (fun _ h => h) (fun v32 G31 t H locs ht hvm hw' hB _ _ hS => ?_)
        clear hw
        have hw := hw'
        clear hw'
        replace hG := wo_bk ht hB
        replace hcc := hc1
        replace hss := hs1
        refine lx_istore (lv' := [(5, 1, .int v32), (4, 1, .int ((wo_gi G 6 x0) - (wo_gi G 835 a1))), (3, 1, va_rf r7), (0, 1, .ref x0), (1, 1, .ref a1), (2, 1, .ref a18)]) hx hb dq_EC_mayAnswer_60 hl (by decide) rfl (fun ls hl' => ?_)
        clear hl
        have hl := hl'
        clear hl'
        refine lv_iload hx hb dq_EC_mayAnswer_62 (lx_at hl 0 rfl) ?_
        refine lv_if_lt (tgt := 74) hx hb dq_EC_mayAnswer_64 rfl (fun h => ?_) (fun h => ?_)
        · replace hw := hw.1 h
          exact tq_EC_mayAnswer_74 hC hw hG hS (lx_sub hl [] rfl) hcc hss
        · replace hw := hw.2 h
          refine lv_iload hx hb dq_EC_mayAnswer_67 (lx_at hl 0 rfl) ?_
          refine lv_iload hx hb dq_EC_mayAnswer_69 (lx_at hl 1 rfl) ?_
          refine lv_icmp_lt (tgt := 78) hx hb dq_EC_mayAnswer_71 rfl (fun h => ?_) (fun h => ?_)
          · replace hw := hw.1 h
            refine lv_iconst (v := (0 : Int32)) hx hb dq_EC_mayAnswer_78 rfl ?_
            exact tq_EC_mayAnswer_79 hC hw hG hS (lx_sub hl [] rfl) hcc hss
          · replace hw := hw.2 h
            exact tq_EC_mayAnswer_74 hC hw hG hS (lx_sub hl [] rfl) hcc hss
      · replace hw := hw.2 h
        exact tq_EC_mayAnswer_49 hC hw hG hS (lx_sub hl [] rfl) hcc hss
set_option maxHeartbeats 4000000 in
theorem mq_EC_mayAnswer {l : Launch} {E : wo_E} {mc ms : Nat} {Post : Int32 → wo_W → Prop} {G : wo_W} {x0 : Nat} {x1 : Option Nat} {x2 : Option Nat} (hw : pq_EC_mayAnswer E mc ms Post G x0 x1 x2) : Met l yq_EC_mayAnswer (Cond.code yq_EC_mayAnswer prog_1_method_21_code 6 ((Option.some Jvm.ClassFile.FieldType.boolean)) :: vw_WG) { frames := 6, cells := mc, slots := ms, locals := 131 } (va_Pc [.ref x0, va_rf x1, va_rf x2] (wo_Ok E G)) (va_Qi Post (wo_B E) (en_A E)) mc ms (en_A E) := by
  unfold pq_EC_mayAnswer at hw
  exact wo_met [(1, .ref x0), (1, va_rf x1), (1, va_rf x2)] rfl (by decide) (fun q hq => by simp only [List.mem_cons, List.not_mem_nil, or_false] at hq; rcases hq with rfl | rfl | rfl <;> first | rfl | exact lx_cR _) (Nat.le_of_ble_eq_true rfl) (fun p e R s m args below meth cd ls hC hG hS hl => tq_EC_mayAnswer_0 hC hw hG hS (lx_sub hl [0, 1, 2] rfl) (Nat.zero_le _) (Nat.zero_le _))

theorem dq_Al_isEmpty_0 : decode prog_29_method_9_code 0 = .ok (.aload_n 0, 1) := by decide +kernel
theorem dq_Al_isEmpty_1 : decode prog_29_method_9_code 1 = .ok (.getfield 48, 3) := by decide +kernel
theorem dq_Al_isEmpty_4 : decode prog_29_method_9_code 4 = .ok (.ifCond .ne 7, 3) := by decide +kernel
theorem dq_Al_isEmpty_7 : decode prog_29_method_9_code 7 = .ok (.iconst 1, 1) := by decide +kernel
theorem dq_Al_isEmpty_8 : decode prog_29_method_9_code 8 = .ok (.goto 4, 3) := by decide +kernel
theorem dq_Al_isEmpty_11 : decode prog_29_method_9_code 11 = .ok (.iconst 0, 1) := by decide +kernel
theorem dq_Al_isEmpty_12 : decode prog_29_method_9_code 12 = .ok (.ireturn, 1) := by decide +kernel
set_option maxRecDepth 100000 in
def pq_Al_isEmpty_12 (E : wo_E) (mc ms : Nat) (Post : Int32 → wo_W → Prop) (G : wo_W) (c s : Nat) (y0 : Int32) : Prop := wo_okI .boolean y0 ∧ Post y0 G
set_option maxRecDepth 100000 in
def pq_Al_isEmpty_0 (E : wo_E) (mc ms : Nat) (Post : Int32 → wo_W → Prop) (G : wo_W) (c s : Nat) (x0 : Nat) : Prop := wo_ty G x0 = 3 ∧ ((¬ (wo_gi G 129 x0) = (0 : Int32) → pq_Al_isEmpty_12 E mc ms Post G c s (0 : Int32)) ∧
  ((wo_gi G 129 x0) = (0 : Int32) → pq_Al_isEmpty_12 E mc ms Post G c s (1 : Int32)))
def pq_Al_isEmpty (E : wo_E) (mc ms : Nat) (Post : Int32 → wo_W → Prop) (G : wo_W) (x0 : Nat) : Prop := pq_Al_isEmpty_0 E mc ms Post G 0 0 x0
set_option maxRecDepth 100000 in
set_option maxHeartbeats 4000000 in
theorem tq_Al_isEmpty_12 {p : Program} {l : Launch} {e : Env} {R : Room} {s₀ : State} {m : MethodId} {args : Array Value} {below : List Frame} {meth : Method} {cd : Code} {E : wo_E} {mc ms : Nat} {Post : Int32 → wo_W → Prop} (hC : wo_Cx E "java/util/ArrayList" prog_29_method_9_code 1 0 0 ((Option.some Jvm.ClassFile.FieldType.boolean)) "isEmpty" mc ms p R s₀ m args meth cd) : ∀ {G : wo_W} {c s : Nat} {y0 : Int32}, pq_Al_isEmpty_12 E mc ms Post G c s y0 → ∀ {H : Heap} {locs : List Loc} {ls : Array Slot}, wo_Se E G H → va_S (en_A E) s₀.heap H locs → lx_has ls 1 [] → c ≤ mc → s ≤ ms → W p l e R s₀ m args below meth cd H locs c s (MQ below (va_Qi Post (wo_B E) (en_A E)) args s₀ mc ms (en_A E)) (F0 m 12 ls [.int y0]) := by
  intro G c s y0 hw H locs ls hG hS hl hcc hss
  dsimp only [pq_Al_isEmpty_12] at hw
  have hx := hC.1
  have hb := hC.2.1
  obtain ⟨h1, hw⟩ := hw
  exact wo_zret hC h1.1 hG hS hcc hss hw dq_Al_isEmpty_12
set_option maxRecDepth 100000 in
set_option maxHeartbeats 4000000 in
theorem tq_Al_isEmpty_0 {p : Program} {l : Launch} {e : Env} {R : Room} {s₀ : State} {m : MethodId} {args : Array Value} {below : List Frame} {meth : Method} {cd : Code} {E : wo_E} {mc ms : Nat} {Post : Int32 → wo_W → Prop} (hC : wo_Cx E "java/util/ArrayList" prog_29_method_9_code 1 0 0 ((Option.some Jvm.ClassFile.FieldType.boolean)) "isEmpty" mc ms p R s₀ m args meth cd) : ∀ {G : wo_W} {c s : Nat} {x0 : Nat}, pq_Al_isEmpty_0 E mc ms Post G c s x0 → ∀ {H : Heap} {locs : List Loc} {ls : Array Slot}, wo_Se E G H → va_S (en_A E) s₀.heap H locs → lx_has ls 1 [(0, 1, .ref x0)] → c ≤ mc → s ≤ ms → W p l e R s₀ m args below meth cd H locs c s (MQ below (va_Qi Post (wo_B E) (en_A E)) args s₀ mc ms (en_A E)) (F0 m 0 ls []) := by
  intro G c s x0 hw H locs ls hG hS hl hcc hss
  dsimp only [pq_Al_isEmpty_0] at hw
  have hx := hC.1
  have hb := hC.2.1
  refine lv_aload_n hx hb dq_Al_isEmpty_0 rfl (lx_at hl 0 rfl) ?_
  obtain ⟨t1, hw⟩ := hw
  refine wo_getI hC fq_Al_48 rfl hG t1 dq_Al_isEmpty_1 ?_
  refine lv_if_ne (tgt := 11) hx hb dq_Al_isEmpty_4 rfl (fun h => ?_) (fun h => ?_)
  · replace hw := hw.1 h
    refine lv_iconst (v := (0 : Int32)) hx hb dq_Al_isEmpty_11 rfl ?_
    exact tq_Al_isEmpty_12 hC hw hG hS (lx_sub hl [] rfl) hcc hss
  · replace hw := hw.2 h
    refine lv_iconst (v := (1 : Int32)) hx hb dq_Al_isEmpty_7 rfl ?_
    refine lv_goto (tgt := 12) hx hb dq_Al_isEmpty_8 rfl ?_
    exact tq_Al_isEmpty_12 hC hw hG hS (lx_sub hl [] rfl) hcc hss
set_option maxHeartbeats 4000000 in
theorem mq_Al_isEmpty {l : Launch} {E : wo_E} {mc ms : Nat} {Post : Int32 → wo_W → Prop} {G : wo_W} {x0 : Nat} (hw : pq_Al_isEmpty E mc ms Post G x0) : Met l yq_Al_isEmpty (Cond.code yq_Al_isEmpty prog_29_method_9_code 1 ((Option.some Jvm.ClassFile.FieldType.boolean)) :: vw_WG) { frames := 0, cells := mc, slots := ms, locals := 0 } (va_Pc [.ref x0] (wo_Ok E G)) (va_Qi Post (wo_B E) (en_A E)) mc ms (en_A E) := by
  unfold pq_Al_isEmpty at hw
  exact wo_met [(1, .ref x0)] rfl (by decide) (fun q hq => by simp only [List.mem_cons, List.not_mem_nil, or_false] at hq; rcases hq with rfl <;> first | rfl | exact lx_cR _) (Nat.le_of_ble_eq_true rfl) (fun p e R s m args below meth cd ls hC hG hS hl => tq_Al_isEmpty_0 hC hw hG hS (lx_sub hl [0] rfl) (Nat.zero_le _) (Nat.zero_le _))

theorem dq_Al_fastRemove_0 : decode prog_29_method_39_code 0 = .ok (.aload_n 0, 1) := by decide +kernel
theorem dq_Al_fastRemove_1 : decode prog_29_method_39_code 1 = .ok (.dup, 1) := by decide +kernel
theorem dq_Al_fastRemove_2 : decode prog_29_method_39_code 2 = .ok (.getfield 63, 3) := by decide +kernel
theorem dq_Al_fastRemove_5 : decode prog_29_method_39_code 5 = .ok (.iconst 1, 1) := by decide +kernel
theorem dq_Al_fastRemove_6 : decode prog_29_method_39_code 6 = .ok (.iadd, 1) := by decide +kernel
theorem dq_Al_fastRemove_7 : decode prog_29_method_39_code 7 = .ok (.putfield 63, 3) := by decide +kernel
theorem dq_Al_fastRemove_10 : decode prog_29_method_39_code 10 = .ok (.aload_n 0, 1) := by decide +kernel
theorem dq_Al_fastRemove_11 : decode prog_29_method_39_code 11 = .ok (.getfield 48, 3) := by decide +kernel
theorem dq_Al_fastRemove_14 : decode prog_29_method_39_code 14 = .ok (.iconst 1, 1) := by decide +kernel
theorem dq_Al_fastRemove_15 : decode prog_29_method_39_code 15 = .ok (.isub, 1) := by decide +kernel
theorem dq_Al_fastRemove_16 : decode prog_29_method_39_code 16 = .ok (.dup, 1) := by decide +kernel
theorem dq_Al_fastRemove_17 : decode prog_29_method_39_code 17 = .ok (.istore_n 3, 1) := by decide +kernel
theorem dq_Al_fastRemove_18 : decode prog_29_method_39_code 18 = .ok (.iload_n 2, 1) := by decide +kernel
theorem dq_Al_fastRemove_19 : decode prog_29_method_39_code 19 = .ok (.if_icmp .le 15, 3) := by decide +kernel
theorem dq_Al_fastRemove_22 : decode prog_29_method_39_code 22 = .ok (.aload_n 1, 1) := by decide +kernel
theorem dq_Al_fastRemove_23 : decode prog_29_method_39_code 23 = .ok (.iload_n 2, 1) := by decide +kernel
theorem dq_Al_fastRemove_24 : decode prog_29_method_39_code 24 = .ok (.iconst 1, 1) := by decide +kernel
theorem dq_Al_fastRemove_25 : decode prog_29_method_39_code 25 = .ok (.iadd, 1) := by decide +kernel
theorem dq_Al_fastRemove_26 : decode prog_29_method_39_code 26 = .ok (.aload_n 1, 1) := by decide +kernel
theorem dq_Al_fastRemove_27 : decode prog_29_method_39_code 27 = .ok (.iload_n 2, 1) := by decide +kernel
theorem dq_Al_fastRemove_28 : decode prog_29_method_39_code 28 = .ok (.iload_n 3, 1) := by decide +kernel
theorem dq_Al_fastRemove_29 : decode prog_29_method_39_code 29 = .ok (.iload_n 2, 1) := by decide +kernel
theorem dq_Al_fastRemove_30 : decode prog_29_method_39_code 30 = .ok (.isub, 1) := by decide +kernel
theorem dq_Al_fastRemove_31 : decode prog_29_method_39_code 31 = .ok (.invokestatic 112, 3) := by decide +kernel
theorem dq_Al_fastRemove_34 : decode prog_29_method_39_code 34 = .ok (.aload_n 1, 1) := by decide +kernel
theorem dq_Al_fastRemove_35 : decode prog_29_method_39_code 35 = .ok (.aload_n 0, 1) := by decide +kernel
theorem dq_Al_fastRemove_36 : decode prog_29_method_39_code 36 = .ok (.iload_n 3, 1) := by decide +kernel
theorem dq_Al_fastRemove_37 : decode prog_29_method_39_code 37 = .ok (.dup_x1, 1) := by decide +kernel
theorem dq_Al_fastRemove_38 : decode prog_29_method_39_code 38 = .ok (.putfield 48, 3) := by decide +kernel
theorem dq_Al_fastRemove_41 : decode prog_29_method_39_code 41 = .ok (.aconst_null, 1) := by decide +kernel
theorem dq_Al_fastRemove_42 : decode prog_29_method_39_code 42 = .ok (.aastore, 1) := by decide +kernel
theorem dq_Al_fastRemove_43 : decode prog_29_method_39_code 43 = .ok (.return_, 1) := by decide +kernel
set_option maxRecDepth 100000 in
def pq_Al_fastRemove_34 (E : wo_E) (mc ms : Nat) (Post : wo_W → Prop) (G : wo_W) (c s : Nat) (x0 : Nat) (x1 : Option Nat) (x3 : Int32) : Prop := wo_ty G x0 = 3 ∧ en_bs E ≤ x0 ∧ ∀ G3 : wo_W, G3 = wo_si G 129 x0 x3 → 
  ∃ a5 : Nat, x1 = some a5 ∧ wo_ty G3 a5 = 71 ∧ vp_in x3 (wo_len G3 a5) ∧ en_bs E ≤ a5 ∧ ∀ G9 : wo_W, G9 = wo_ser G3 a5 x3.toNatClampNeg none → 
  Post G9
set_option maxRecDepth 100000 in
def pq_Al_fastRemove_0 (E : wo_E) (mc ms : Nat) (Post : wo_W → Prop) (G : wo_W) (c s : Nat) (x0 : Nat) (x1 : Option Nat) (x2 : Int32) : Prop := wo_ty G x0 = 3 ∧ en_bs E ≤ x0 ∧ ∀ G3 : wo_W, G3 = wo_si G 130 x0 ((wo_gi G 130 x0) + (1 : Int32)) → 
  ((((wo_gi G3 129 x0) - (1 : Int32)) ≤ x2 → pq_Al_fastRemove_34 E mc ms Post G3 c s x0 x1 ((wo_gi G3 129 x0) - (1 : Int32))) ∧
  (¬ ((wo_gi G3 129 x0) - (1 : Int32)) ≤ x2 → ∃ a5 : Nat, x1 = some a5 ∧ wo_ty G3 a5 = 71 ∧ ¬ (x2 + (1 : Int32)) < 0 ∧ ¬ x2 < 0 ∧ ¬ (((wo_gi G3 129 x0) - (1 : Int32)) - x2) < 0 ∧ (x2 + (1 : Int32)).toNatClampNeg + (((wo_gi G3 129 x0) - (1 : Int32)) - x2).toNatClampNeg ≤ wo_len G3 a5 ∧ x2.toNatClampNeg + (((wo_gi G3 129 x0) - (1 : Int32)) - x2).toNatClampNeg ≤ wo_len G3 a5 ∧ en_bs E ≤ a5 ∧ (∀ i : Nat, i < (((wo_gi G3 129 x0) - (1 : Int32)) - x2).toNatClampNeg → wo_may G3 7 (wo_er G3 a5 ((x2 + (1 : Int32)).toNatClampNeg + i))) ∧ ∀ G14 : wo_W, G14 = wo_cpR G3 a5 a5 (x2 + (1 : Int32)).toNatClampNeg x2.toNatClampNeg (((wo_gi G3 129 x0) - (1 : Int32)) - x2).toNatClampNeg → 
    pq_Al_fastRemove_34 E mc ms Post G14 c s x0 (some a5) ((wo_gi G3 129 x0) - (1 : Int32))))
def pq_Al_fastRemove (E : wo_E) (mc ms : Nat) (Post : wo_W → Prop) (G : wo_W) (x0 : Nat) (x1 : Option Nat) (x2 : Int32) : Prop := pq_Al_fastRemove_0 E mc ms Post G 0 0 x0 x1 x2
set_option maxRecDepth 100000 in
set_option maxHeartbeats 4000000 in
theorem tq_Al_fastRemove_34 {p : Program} {l : Launch} {e : Env} {R : Room} {s₀ : State} {m : MethodId} {args : Array Value} {below : List Frame} {meth : Method} {cd : Code} {E : wo_E} {mc ms : Nat} {Post : wo_W → Prop} (hC : wo_Cx E "java/util/ArrayList" prog_29_method_39_code 4 1 28 ((Option.none : Option Jvm.ClassFile.FieldType)) "fastRemove" mc ms p R s₀ m args meth cd) : ∀ {G : wo_W} {c s : Nat} {x0 : Nat} {x1 : Option Nat} {x3 : Int32}, pq_Al_fastRemove_34 E mc ms Post G c s x0 x1 x3 → ∀ {H : Heap} {locs : List Loc} {ls : Array Slot}, wo_Se E G H → va_S (en_A E) s₀.heap H locs → lx_has ls 4 [(0, 1, .ref x0), (1, 1, va_rf x1), (3, 1, .int x3)] → c ≤ mc → s ≤ ms → W p l e R s₀ m args below meth cd H locs c s (MQ below (va_Qv Post (wo_B E) (en_A E)) args s₀ mc ms (en_A E)) (F0 m 34 ls []) := by
  intro G c s x0 x1 x3 hw H locs ls hG hS hl hcc hss
  dsimp only [pq_Al_fastRemove_34] at hw
  have hx := hC.1
  have hb := hC.2.1
  refine lx_aloadR_n hx hb dq_Al_fastRemove_34 rfl (lx_at hl 1 rfl) ?_
  refine lv_aload_n hx hb dq_Al_fastRemove_35 rfl (lx_at hl 0 rfl) ?_
  refine lv_iload_n hx hb dq_Al_fastRemove_36 rfl (lx_at hl 2 rfl) ?_
  refine lv_dup_x1 hx hb dq_Al_fastRemove_37 rfl rfl ?_
  obtain ⟨t1, hw⟩ := hw
  obtain ⟨h2, hw⟩ := hw
  refine wo_putI hC fq_Al_48 (Or.inl rfl) rfl (wo_ok_int _) hG hS t1 h2 dq_Al_fastRemove_38 (fun G3 H locs e4 hG hS => ?_)
  replace hw := hw G3 e4
  refine lv_null hx hb dq_Al_fastRemove_41 ?_
  obtain ⟨a5, rfl, hw⟩ := hw
  obtain ⟨t6, hw⟩ := hw
  obtain ⟨h7, hw⟩ := hw
  obtain ⟨h8, hw⟩ := hw
  refine wo_aast (x := none) (j := 7) hC rfl hG hS t6 h7 h8 (wo_may_n _ _) dq_Al_fastRemove_42 (fun G9 H locs e10 hG hS => ?_)
  replace hw := hw G9 e10
  exact wo_vret hC hG hS hcc hss hw dq_Al_fastRemove_43
set_option maxRecDepth 100000 in
set_option maxHeartbeats 4000000 in
theorem tq_Al_fastRemove_0 {p : Program} {l : Launch} {e : Env} {R : Room} {s₀ : State} {m : MethodId} {args : Array Value} {below : List Frame} {meth : Method} {cd : Code} {E : wo_E} {mc ms : Nat} {Post : wo_W → Prop} (hC : wo_Cx E "java/util/ArrayList" prog_29_method_39_code 4 1 28 ((Option.none : Option Jvm.ClassFile.FieldType)) "fastRemove" mc ms p R s₀ m args meth cd) : ∀ {G : wo_W} {c s : Nat} {x0 : Nat} {x1 : Option Nat} {x2 : Int32}, pq_Al_fastRemove_0 E mc ms Post G c s x0 x1 x2 → ∀ {H : Heap} {locs : List Loc} {ls : Array Slot}, wo_Se E G H → va_S (en_A E) s₀.heap H locs → lx_has ls 4 [(0, 1, .ref x0), (1, 1, va_rf x1), (2, 1, .int x2)] → c ≤ mc → s ≤ ms → W p l e R s₀ m args below meth cd H locs c s (MQ below (va_Qv Post (wo_B E) (en_A E)) args s₀ mc ms (en_A E)) (F0 m 0 ls []) := by
  intro G c s x0 x1 x2 hw H locs ls hG hS hl hcc hss
  dsimp only [pq_Al_fastRemove_0] at hw
  have hx := hC.1
  have hb := hC.2.1
  refine lv_aload_n hx hb dq_Al_fastRemove_0 rfl (lx_at hl 0 rfl) ?_
  refine lv_dup hx hb dq_Al_fastRemove_1 rfl ?_
  obtain ⟨t1, hw⟩ := hw
  refine wo_getI hC fq_Al_63 rfl hG t1 dq_Al_fastRemove_2 ?_
  refine lv_iconst (v := (1 : Int32)) hx hb dq_Al_fastRemove_5 rfl ?_
  refine lv_iadd hx hb dq_Al_fastRemove_6 ?_
  obtain ⟨h2, hw⟩ := hw
  refine wo_putI hC fq_Al_63 (Or.inl rfl) rfl (wo_ok_int _) hG hS t1 h2 dq_Al_fastRemove_7 (fun G3 H locs e4 hG hS => ?_)
  replace hw := hw G3 e4
  refine lv_aload_n hx hb dq_Al_fastRemove_10 rfl (lx_at hl 0 rfl) ?_
  refine wo_getI hC fq_Al_48 rfl hG (ty_si e4 t1) dq_Al_fastRemove_11 ?_
  refine lv_iconst (v := (1 : Int32)) hx hb dq_Al_fastRemove_14 rfl ?_
  refine lv_isub hx hb dq_Al_fastRemove_15 ?_
  refine lv_dup hx hb dq_Al_fastRemove_16 rfl ?_
  refine lx_istore_n (lv' := [(3, 1, .int ((wo_gi G3 129 x0) - (1 : Int32))), (0, 1, .ref x0), (1, 1, va_rf x1), (2, 1, .int x2)]) hx hb dq_Al_fastRemove_17 rfl hl (by decide) rfl (fun ls hl' => ?_)
  clear hl
  have hl := hl'
  clear hl'
  refine lv_iload_n hx hb dq_Al_fastRemove_18 rfl (lx_at hl 3 rfl) ?_
  refine lv_icmp_le (tgt := 34) hx hb dq_Al_fastRemove_19 rfl (fun h => ?_) (fun h => ?_)
  · replace hw := hw.1 h
    exact tq_Al_fastRemove_34 hC hw hG hS (lx_sub hl [1, 2, 0] rfl) hcc hss
  · replace hw := hw.2 h
    refine lx_aloadR_n hx hb dq_Al_fastRemove_22 rfl (lx_at hl 2 rfl) ?_
    refine lv_iload_n hx hb dq_Al_fastRemove_23 rfl (lx_at hl 3 rfl) ?_
    refine lv_iconst (v := (1 : Int32)) hx hb dq_Al_fastRemove_24 rfl ?_
    refine lv_iadd hx hb dq_Al_fastRemove_25 ?_
    refine lx_aloadR_n hx hb dq_Al_fastRemove_26 rfl (lx_at hl 2 rfl) ?_
    refine lv_iload_n hx hb dq_Al_fastRemove_27 rfl (lx_at hl 3 rfl) ?_
    refine lv_iload_n hx hb dq_Al_fastRemove_28 rfl (lx_at hl 0 rfl) ?_
    refine lv_iload_n hx hb dq_Al_fastRemove_29 rfl (lx_at hl 3 rfl) ?_
    refine lv_isub hx hb dq_Al_fastRemove_30 ?_
    obtain ⟨a5, rfl, hw⟩ := hw
    obtain ⟨t6, hw⟩ := hw
    obtain ⟨h7, hw⟩ := hw
    obtain ⟨h8, hw⟩ := hw
    obtain ⟨h9, hw⟩ := hw
    obtain ⟨h10, hw⟩ := hw
    obtain ⟨h11, hw⟩ := hw
    obtain ⟨h12, hw⟩ := hw
    obtain ⟨h13, hw⟩ := hw
    refine wo_cpyR (j := 7) hC rfl lq_Al_112 (lx_sz hl) hG hS t6 t6 h7 h8 h9 h10 h11 h12 h13 (by decide) (lx_rk (Nat.le_of_ble_eq_true rfl)) dq_Al_fastRemove_31 (fun G14 H locs e15 hG hS => ?_)
    replace hw := hw G14 e15
    exact tq_Al_fastRemove_34 hC hw hG hS (lx_sub hl [1, 2, 0] rfl) hcc hss
set_option maxHeartbeats 4000000 in
theorem mq_Al_fastRemove {l : Launch} {E : wo_E} {mc ms : Nat} {Post : wo_W → Prop} {G : wo_W} {x0 : Nat} {x1 : Option Nat} {x2 : Int32} (hw : pq_Al_fastRemove E mc ms Post G x0 x1 x2) : Met l yq_Al_fastRemove (Cond.code yq_Al_fastRemove prog_29_method_39_code 4 ((Option.none : Option Jvm.ClassFile.FieldType)) :: vw_WG) { frames := 1, cells := mc, slots := ms, locals := 28 } (va_Pc [.ref x0, va_rf x1, .int x2] (wo_Ok E G)) (va_Qv Post (wo_B E) (en_A E)) mc ms (en_A E) := by
  unfold pq_Al_fastRemove at hw
  exact wo_met [(1, .ref x0), (1, va_rf x1), (1, .int x2)] rfl (by decide) (fun q hq => by simp only [List.mem_cons, List.not_mem_nil, or_false] at hq; rcases hq with rfl | rfl | rfl <;> first | rfl | exact lx_cR _) (Nat.le_of_ble_eq_true rfl) (fun p e R s m args below meth cd ls hC hG hS hl => tq_Al_fastRemove_0 hC hw hG hS (lx_sub hl [0, 1, 2] rfl) (Nat.zero_le _) (Nat.zero_le _))

theorem dq_Ob_checkIndex_0 : decode prog_33_method_17_code 0 = .ok (.iload_n 0, 1) := by decide +kernel
theorem dq_Ob_checkIndex_1 : decode prog_33_method_17_code 1 = .ok (.iload_n 1, 1) := by decide +kernel
theorem dq_Ob_checkIndex_2 : decode prog_33_method_17_code 2 = .ok (.aconst_null, 1) := by decide +kernel
theorem dq_Ob_checkIndex_3 : decode prog_33_method_17_code 3 = .ok (.invokestatic 105, 3) := by decide +kernel
theorem dq_Ob_checkIndex_6 : decode prog_33_method_17_code 6 = .ok (.ireturn, 1) := by decide +kernel
set_option maxRecDepth 100000 in
def pq_Ob_checkIndex_0 (E : wo_E) (mc ms : Nat) (Post : Int32 → wo_W → Prop) (G : wo_W) (c s : Nat) (x0 : Int32) (x1 : Int32) : Prop := ∃ mc1 ms2 : Nat, (c + mc1) ≤ mc ∧ (s + ms2) ≤ ms ∧ pq_Pc_checkIndex E mc1 ms2 (fun v4 G3 => 
  Post v4 G3) G x0 x1 none
def pq_Ob_checkIndex (E : wo_E) (mc ms : Nat) (Post : Int32 → wo_W → Prop) (G : wo_W) (x0 : Int32) (x1 : Int32) : Prop := pq_Ob_checkIndex_0 E mc ms Post G 0 0 x0 x1
set_option maxRecDepth 100000 in
set_option maxHeartbeats 4000000 in
theorem tq_Ob_checkIndex_0 {p : Program} {l : Launch} {e : Env} {R : Room} {s₀ : State} {m : MethodId} {args : Array Value} {below : List Frame} {meth : Method} {cd : Code} {E : wo_E} {mc ms : Nat} {Post : Int32 → wo_W → Prop} (hC : wo_Cx E "java/util/Objects" prog_33_method_17_code 2 1 22 ((Option.some Jvm.ClassFile.FieldType.int)) "checkIndex" mc ms p R s₀ m args meth cd) : ∀ {G : wo_W} {c s : Nat} {x0 : Int32} {x1 : Int32}, pq_Ob_checkIndex_0 E mc ms Post G c s x0 x1 → ∀ {H : Heap} {locs : List Loc} {ls : Array Slot}, wo_Se E G H → va_S (en_A E) s₀.heap H locs → lx_has ls 2 [(0, 1, .int x0), (1, 1, .int x1)] → c ≤ mc → s ≤ ms → W p l e R s₀ m args below meth cd H locs c s (MQ below (va_Qi Post (wo_B E) (en_A E)) args s₀ mc ms (en_A E)) (F0 m 0 ls []) := by
  intro G c s x0 x1 hw H locs ls hG hS hl hcc hss
  dsimp only [pq_Ob_checkIndex_0] at hw
  have hx := hC.1
  have hb := hC.2.1
  refine lv_iload_n hx hb dq_Ob_checkIndex_0 rfl (lx_at hl 0 rfl) ?_
  refine lv_iload_n hx hb dq_Ob_checkIndex_1 rfl (lx_at hl 1 rfl) ?_
  refine lv_null hx hb dq_Ob_checkIndex_2 ?_
  obtain ⟨mc1, ms2, hc1, hs1, hw⟩ := hw
  refine va_calli (wo_runS hC lq_Ob_105 (mq_Pc_checkIndex hw) hG hS rfl (lx_sz hl) rfl (Nat.zero_le _) (by decide) dq_Ob_checkIndex_3 ⟨hc1, hs1⟩) hS (fun _ _ h => h) (fun _ h => h) (fun v4 G3 t H locs ht hvm hw' hB _ _ hS => ?_)
  clear hw
  have hw := hw'
  clear hw'
  replace hG := wo_bk ht hB
  replace hcc := hc1
  replace hss := hs1
  exact wo_iret hC hG hS hcc hss hw dq_Ob_checkIndex_6
set_option maxHeartbeats 4000000 in
theorem mq_Ob_checkIndex {l : Launch} {E : wo_E} {mc ms : Nat} {Post : Int32 → wo_W → Prop} {G : wo_W} {x0 : Int32} {x1 : Int32} (hw : pq_Ob_checkIndex E mc ms Post G x0 x1) : Met l yq_Ob_checkIndex (Cond.code yq_Ob_checkIndex prog_33_method_17_code 2 ((Option.some Jvm.ClassFile.FieldType.int)) :: vw_WG) { frames := 1, cells := mc, slots := ms, locals := 22 } (va_Pc [.int x0, .int x1] (wo_Ok E G)) (va_Qi Post (wo_B E) (en_A E)) mc ms (en_A E) := by
  unfold pq_Ob_checkIndex at hw
  exact wo_met [(1, .int x0), (1, .int x1)] rfl (by decide) (fun q hq => by simp only [List.mem_cons, List.not_mem_nil, or_false] at hq; rcases hq with rfl | rfl <;> first | rfl | exact lx_cR _) (Nat.le_of_ble_eq_true rfl) (fun p e R s m args below meth cd ls hC hG hS hl => tq_Ob_checkIndex_0 hC hw hG hS (lx_sub hl [0, 1] rfl) (Nat.zero_le _) (Nat.zero_le _))

theorem dq_Al_remove_0 : decode prog_29_method_29_code 0 = .ok (.iload_n 1, 1) := by decide +kernel
theorem dq_Al_remove_1 : decode prog_29_method_29_code 1 = .ok (.aload_n 0, 1) := by decide +kernel
theorem dq_Al_remove_2 : decode prog_29_method_29_code 2 = .ok (.getfield 48, 3) := by decide +kernel
theorem dq_Al_remove_5 : decode prog_29_method_29_code 5 = .ok (.invokestatic 118, 3) := by decide +kernel
theorem dq_Al_remove_8 : decode prog_29_method_29_code 8 = .ok (.pop, 1) := by decide +kernel
theorem dq_Al_remove_9 : decode prog_29_method_29_code 9 = .ok (.aload_n 0, 1) := by decide +kernel
theorem dq_Al_remove_10 : decode prog_29_method_29_code 10 = .ok (.getfield 9, 3) := by decide +kernel
theorem dq_Al_remove_13 : decode prog_29_method_29_code 13 = .ok (.astore_n 2, 1) := by decide +kernel
theorem dq_Al_remove_14 : decode prog_29_method_29_code 14 = .ok (.aload_n 2, 1) := by decide +kernel
theorem dq_Al_remove_15 : decode prog_29_method_29_code 15 = .ok (.iload_n 1, 1) := by decide +kernel
theorem dq_Al_remove_16 : decode prog_29_method_29_code 16 = .ok (.aaload, 1) := by decide +kernel
theorem dq_Al_remove_17 : decode prog_29_method_29_code 17 = .ok (.astore_n 3, 1) := by decide +kernel
theorem dq_Al_remove_18 : decode prog_29_method_29_code 18 = .ok (.aload_n 0, 1) := by decide +kernel
theorem dq_Al_remove_19 : decode prog_29_method_29_code 19 = .ok (.aload_n 2, 1) := by decide +kernel
theorem dq_Al_remove_20 : decode prog_29_method_29_code 20 = .ok (.iload_n 1, 1) := by decide +kernel
theorem dq_Al_remove_21 : decode prog_29_method_29_code 21 = .ok (.invokevirtual 144, 3) := by decide +kernel
theorem dq_Al_remove_24 : decode prog_29_method_29_code 24 = .ok (.aload_n 3, 1) := by decide +kernel
theorem dq_Al_remove_25 : decode prog_29_method_29_code 25 = .ok (.areturn, 1) := by decide +kernel
set_option maxRecDepth 100000 in
def pq_Al_remove_0 (E : wo_E) (mc ms : Nat) (Post : Option Nat → wo_W → Prop) (G : wo_W) (c s : Nat) (x0 : Nat) (x1 : Int32) : Prop := wo_ty G x0 = 3 ∧ ∃ mc2 ms3 : Nat, (c + mc2) ≤ mc ∧ (s + ms3) ≤ ms ∧ pq_Ob_checkIndex E mc2 ms3 (fun v5 G4 => 
  wo_ty G4 x0 = 3 ∧ ∀ r7 : Option Nat, r7 = wo_gr G4 128 x0 → ∃ a9 : Nat, r7 = some a9 ∧ wo_ty G4 a9 = 71 ∧ vp_in x1 (wo_len G4 a9) ∧ ∀ r12 : Option Nat, r12 = wo_er G4 a9 x1.toNatClampNeg → ∃ mc14 ms15 : Nat, ((c + mc2) + mc14) ≤ mc ∧ ((s + ms3) + ms15) ≤ ms ∧ pq_Al_fastRemove E mc14 ms15 (fun G16 => 
    Post r12 G16) G4 x0 (some a9) x1) G x1 (wo_gi G 129 x0)
def pq_Al_remove (E : wo_E) (mc ms : Nat) (Post : Option Nat → wo_W → Prop) (G : wo_W) (x0 : Nat) (x1 : Int32) : Prop := pq_Al_remove_0 E mc ms Post G 0 0 x0 x1
set_option maxRecDepth 100000 in
set_option maxHeartbeats 4000000 in
theorem tq_Al_remove_0 {p : Program} {l : Launch} {e : Env} {R : Room} {s₀ : State} {m : MethodId} {args : Array Value} {below : List Frame} {meth : Method} {cd : Code} {E : wo_E} {mc ms : Nat} {Post : Option Nat → wo_W → Prop} (hC : wo_Cx E "java/util/ArrayList" prog_29_method_29_code 4 2 51 ((Option.some (Jvm.ClassFile.FieldType.object "java/lang/Object"))) "remove" mc ms p R s₀ m args meth cd) : ∀ {G : wo_W} {c s : Nat} {x0 : Nat} {x1 : Int32}, pq_Al_remove_0 E mc ms Post G c s x0 x1 → ∀ {H : Heap} {locs : List Loc} {ls : Array Slot}, wo_Se E G H → va_S (en_A E) s₀.heap H locs → lx_has ls 4 [(0, 1, .ref x0), (1, 1, .int x1)] → c ≤ mc → s ≤ ms → W p l e R s₀ m args below meth cd H locs c s (MQ below (va_Qq Post (wo_B E) (en_A E)) args s₀ mc ms (en_A E)) (F0 m 0 ls []) := by
  intro G c s x0 x1 hw H locs ls hG hS hl hcc hss
  dsimp only [pq_Al_remove_0] at hw
  have hx := hC.1
  have hb := hC.2.1
  refine lv_iload_n hx hb dq_Al_remove_0 rfl (lx_at hl 1 rfl) ?_
  refine lv_aload_n hx hb dq_Al_remove_1 rfl (lx_at hl 0 rfl) ?_
  obtain ⟨t1, hw⟩ := hw
  refine wo_getI hC fq_Al_48 rfl hG t1 dq_Al_remove_2 ?_
  obtain ⟨mc2, ms3, hc1, hs1, hw⟩ := hw
  refine va_calli (wo_runS hC lq_Al_118 (mq_Ob_checkIndex hw) hG hS rfl (lx_sz hl) rfl (Nat.zero_le _) (by decide) dq_Al_remove_5 ⟨hc1, hs1⟩) hS (fun _ _ h => h) (fun _ h => h) (fun v5 G4 t H locs ht hvm hw' hB _ _ hS => ?_)
  clear hw
  have hw := hw'
  clear hw'
  replace hG := wo_bk ht hB
  replace hcc := hc1
  replace hss := hs1
  refine lv_pop hx hb dq_Al_remove_8 rfl ?_
  refine lv_aload_n hx hb dq_Al_remove_9 rfl (lx_at hl 0 rfl) ?_
  obtain ⟨t6, hw⟩ := hw
  refine wo_getR hC fq_Al_9 rfl hG t6 dq_Al_remove_10 (fun r7 e8 => ?_)
  replace hw := hw r7 e8
  refine lx_astoreR_n (lv' := [(2, 1, va_rf r7), (0, 1, .ref x0), (1, 1, .int x1)]) hx hb dq_Al_remove_13 rfl hl (by decide) rfl (fun ls hl' => ?_)
  clear hl
  have hl := hl'
  clear hl'
  refine lx_aloadR_n hx hb dq_Al_remove_14 rfl (lx_at hl 0 rfl) ?_
  refine lv_iload_n hx hb dq_Al_remove_15 rfl (lx_at hl 2 rfl) ?_
  obtain ⟨a9, rfl, hw⟩ := hw
  obtain ⟨t10, hw⟩ := hw
  obtain ⟨h11, hw⟩ := hw
  refine wo_aald (j := 7) hC rfl hG t10 h11 dq_Al_remove_16 (fun r12 e13 => ?_)
  replace hw := hw r12 e13
  refine lx_astoreR_n (lv' := [(3, 1, va_rf r12), (2, 1, .ref a9), (0, 1, .ref x0), (1, 1, .int x1)]) hx hb dq_Al_remove_17 rfl hl (by decide) rfl (fun ls hl' => ?_)
  clear hl
  have hl := hl'
  clear hl'
  refine lv_aload_n hx hb dq_Al_remove_18 rfl (lx_at hl 2 rfl) ?_
  refine lv_aload_n hx hb dq_Al_remove_19 rfl (lx_at hl 1 rfl) ?_
  refine lv_iload_n hx hb dq_Al_remove_20 rfl (lx_at hl 3 rfl) ?_
  obtain ⟨mc14, ms15, hc1, hs1, hw⟩ := hw
  refine va_callv (wo_runV hC lq_Al_144 (mq_Al_fastRemove hw) hG hS t6 rfl (lx_sz hl) rfl (Nat.zero_le _) (by decide) dq_Al_remove_21 ⟨hc1, hs1⟩) hS (fun _ _ h => h) (fun _ h => h) (fun G16 t H locs ht hvm hw' hB _ _ hS => ?_)
  clear hw
  have hw := hw'
  clear hw'
  replace hG := wo_bk ht hB
  replace hcc := hc1
  replace hss := hs1
  refine lx_aloadR_n hx hb dq_Al_remove_24 rfl (lx_at hl 0 rfl) ?_
  exact wo_aret (x := r12) hC rfl hG hS hcc hss hw dq_Al_remove_25
set_option maxHeartbeats 4000000 in
theorem mq_Al_remove {l : Launch} {E : wo_E} {mc ms : Nat} {Post : Option Nat → wo_W → Prop} {G : wo_W} {x0 : Nat} {x1 : Int32} (hw : pq_Al_remove E mc ms Post G x0 x1) : Met l yq_Al_remove (Cond.code yq_Al_remove prog_29_method_29_code 4 ((Option.some (Jvm.ClassFile.FieldType.object "java/lang/Object"))) :: vw_WG) { frames := 2, cells := mc, slots := ms, locals := 51 } (va_Pc [.ref x0, .int x1] (wo_Ok E G)) (va_Qq Post (wo_B E) (en_A E)) mc ms (en_A E) := by
  unfold pq_Al_remove at hw
  exact wo_met [(1, .ref x0), (1, .int x1)] rfl (by decide) (fun q hq => by simp only [List.mem_cons, List.not_mem_nil, or_false] at hq; rcases hq with rfl | rfl <;> first | rfl | exact lx_cR _) (Nat.le_of_ble_eq_true rfl) (fun p e R s m args below meth cd ls hC hG hS hl => tq_Al_remove_0 hC hw hG hS (lx_sub hl [0, 1] rfl) (Nat.zero_le _) (Nat.zero_le _))

theorem dq_EC_sendWaiting_0 : decode prog_1_method_25_code 0 = .ok (.iconst 0, 1) := by decide +kernel
theorem dq_EC_sendWaiting_1 : decode prog_1_method_25_code 1 = .ok (.istore_n 1, 1) := by decide +kernel
theorem dq_EC_sendWaiting_2 : decode prog_1_method_25_code 2 = .ok (.iload_n 1, 1) := by decide +kernel
theorem dq_EC_sendWaiting_3 : decode prog_1_method_25_code 3 = .ok (.iconst 2, 1) := by decide +kernel
theorem dq_EC_sendWaiting_4 : decode prog_1_method_25_code 4 = .ok (.if_icmp .ge 55, 3) := by decide +kernel
theorem dq_EC_sendWaiting_7 : decode prog_1_method_25_code 7 = .ok (.aload_n 0, 1) := by decide +kernel
theorem dq_EC_sendWaiting_8 : decode prog_1_method_25_code 8 = .ok (.getfield 31, 3) := by decide +kernel
theorem dq_EC_sendWaiting_11 : decode prog_1_method_25_code 11 = .ok (.iload_n 1, 1) := by decide +kernel
theorem dq_EC_sendWaiting_12 : decode prog_1_method_25_code 12 = .ok (.aaload, 1) := by decide +kernel
theorem dq_EC_sendWaiting_13 : decode prog_1_method_25_code 13 = .ok (.ifnonnull 40, 3) := by decide +kernel
theorem dq_EC_sendWaiting_16 : decode prog_1_method_25_code 16 = .ok (.aload_n 0, 1) := by decide +kernel
theorem dq_EC_sendWaiting_17 : decode prog_1_method_25_code 17 = .ok (.getfield 38, 3) := by decide +kernel
theorem dq_EC_sendWaiting_20 : decode prog_1_method_25_code 20 = .ok (.invokevirtual 277, 3) := by decide +kernel
theorem dq_EC_sendWaiting_23 : decode prog_1_method_25_code 23 = .ok (.ifCond .ne 30, 3) := by decide +kernel
theorem dq_EC_sendWaiting_26 : decode prog_1_method_25_code 26 = .ok (.aload_n 0, 1) := by decide +kernel
theorem dq_EC_sendWaiting_27 : decode prog_1_method_25_code 27 = .ok (.getfield 38, 3) := by decide +kernel
theorem dq_EC_sendWaiting_30 : decode prog_1_method_25_code 30 = .ok (.iconst 0, 1) := by decide +kernel
theorem dq_EC_sendWaiting_31 : decode prog_1_method_25_code 31 = .ok (.invokevirtual 280, 3) := by decide +kernel
theorem dq_EC_sendWaiting_34 : decode prog_1_method_25_code 34 = .ok (.checkcast 29, 3) := by decide +kernel
theorem dq_EC_sendWaiting_37 : decode prog_1_method_25_code 37 = .ok (.astore_n 2, 1) := by decide +kernel
theorem dq_EC_sendWaiting_38 : decode prog_1_method_25_code 38 = .ok (.aload_n 2, 1) := by decide +kernel
theorem dq_EC_sendWaiting_39 : decode prog_1_method_25_code 39 = .ok (.aload_n 0, 1) := by decide +kernel
theorem dq_EC_sendWaiting_40 : decode prog_1_method_25_code 40 = .ok (.getfield 99, 3) := by decide +kernel
theorem dq_EC_sendWaiting_43 : decode prog_1_method_25_code 43 = .ok (.putfield 102, 3) := by decide +kernel
theorem dq_EC_sendWaiting_46 : decode prog_1_method_25_code 46 = .ok (.aload_n 0, 1) := by decide +kernel
theorem dq_EC_sendWaiting_47 : decode prog_1_method_25_code 47 = .ok (.getfield 31, 3) := by decide +kernel
theorem dq_EC_sendWaiting_50 : decode prog_1_method_25_code 50 = .ok (.iload_n 1, 1) := by decide +kernel
theorem dq_EC_sendWaiting_51 : decode prog_1_method_25_code 51 = .ok (.aload_n 2, 1) := by decide +kernel
theorem dq_EC_sendWaiting_52 : decode prog_1_method_25_code 52 = .ok (.aastore, 1) := by decide +kernel
theorem dq_EC_sendWaiting_53 : decode prog_1_method_25_code 53 = .ok (.iinc 1 1, 3) := by decide +kernel
theorem dq_EC_sendWaiting_56 : decode prog_1_method_25_code 56 = .ok (.goto (-54), 3) := by decide +kernel
theorem dq_EC_sendWaiting_59 : decode prog_1_method_25_code 59 = .ok (.return_, 1) := by decide +kernel
set_option maxRecDepth 100000 in
def pq_EC_sendWaiting_53 (E : wo_E) (mc ms : Nat) (Post : wo_W → Prop) (k2 : wo_W → Nat → Nat → Nat → Int32 → Prop) (G : wo_W) (c s : Nat) (x0 : Nat) (x1 : Int32) : Prop := k2 G c s x0 (x1 + (1 : Int32))
set_option maxRecDepth 100000 in
def pq_EC_sendWaiting_2 (E : wo_E) (mc ms : Nat) (Post : wo_W → Prop) : Nat → wo_W → Nat → Nat → Nat → Int32 → Prop
  | 0 => fun _ _ _ _ _ => False
  | n + 1 => fun G c s x0 x1 => (((2 : Int32) ≤ x1 → Post G) ∧
  (¬ (2 : Int32) ≤ x1 → wo_ty G x0 = 1 ∧ ∀ r2 : Option Nat, r2 = wo_gr G 4 x0 → ∃ a4 : Nat, r2 = some a4 ∧ wo_ty G a4 = 67 ∧ vp_in x1 (wo_len G a4) ∧ ∀ r7 : Option Nat, r7 = wo_er G a4 x1.toNatClampNeg → ((r7 = none → ∀ r10 : Option Nat, r10 = wo_gr G 5 x0 → ∃ a12 : Nat, r10 = some a12 ∧ wo_ty G a12 = 3 ∧ ∃ mc14 ms15 : Nat, (c + mc14) ≤ mc ∧ (s + ms15) ≤ ms ∧ pq_Al_isEmpty E mc14 ms15 (fun v17 G16 => 
      ((¬ v17 = (0 : Int32) → pq_EC_sendWaiting_53 E mc ms Post (pq_EC_sendWaiting_2 E mc ms Post n) G16 (c + mc14) (s + ms15) x0 x1) ∧
        (v17 = (0 : Int32) → wo_ty G16 x0 = 1 ∧ ∀ r19 : Option Nat, r19 = wo_gr G16 5 x0 → ∃ a21 : Nat, r19 = some a21 ∧ wo_ty G16 a21 = 3 ∧ ∃ mc23 ms24 : Nat, ((c + mc14) + mc23) ≤ mc ∧ ((s + ms15) + ms24) ≤ ms ∧ pq_Al_remove E mc23 ms24 (fun v26 G25 => 
          wo_is G25 11 v26 ∧ wo_ty G25 x0 = 1 ∧ ∃ a29 : Nat, v26 = some a29 ∧ wo_ty G25 a29 = 11 ∧ en_bs E ≤ a29 ∧ ∀ G32 : wo_W, G32 = wo_si G25 642 a29 (wo_gi G25 6 x0) → 
            ∀ r34 : Option Nat, r34 = wo_gr G32 4 x0 → ∃ a36 : Nat, r34 = some a36 ∧ wo_ty G32 a36 = 67 ∧ vp_in x1 (wo_len G32 a36) ∧ en_bs E ≤ a36 ∧ wo_may G32 3 (some a29) ∧ ∀ G41 : wo_W, G41 = wo_ser G32 a36 x1.toNatClampNeg (some a29) → 
            pq_EC_sendWaiting_53 E mc ms Post (pq_EC_sendWaiting_2 E mc ms Post n) G41 ((c + mc14) + mc23) ((s + ms15) + ms24) x0 x1) G16 a21 (0 : Int32)))) G a12) ∧
    (∀ a9 : Nat, r7 = some a9 → pq_EC_sendWaiting_53 E mc ms Post (pq_EC_sendWaiting_2 E mc ms Post n) G c s x0 x1))))
set_option maxRecDepth 100000 in
def pq_EC_sendWaiting_0 (E : wo_E) (mc ms : Nat) (Post : wo_W → Prop) (G : wo_W) (c s : Nat) (x0 : Nat) : Prop := ∃ n1 : Nat, pq_EC_sendWaiting_2 E mc ms Post n1 G c s x0 (0 : Int32)
def pq_EC_sendWaiting (E : wo_E) (mc ms : Nat) (Post : wo_W → Prop) (G : wo_W) (x0 : Nat) : Prop := pq_EC_sendWaiting_0 E mc ms Post G 0 0 x0
set_option maxRecDepth 100000 in
set_option maxHeartbeats 4000000 in
theorem tq_EC_sendWaiting_53 {p : Program} {l : Launch} {e : Env} {R : Room} {s₀ : State} {m : MethodId} {args : Array Value} {below : List Frame} {meth : Method} {cd : Code} {E : wo_E} {mc ms : Nat} {Post : wo_W → Prop} {k2 : wo_W → Nat → Nat → Nat → Int32 → Prop} (hC : wo_Cx E "EdgeCache" prog_1_method_25_code 3 3 74 ((Option.none : Option Jvm.ClassFile.FieldType)) "sendWaiting" mc ms p R s₀ m args meth cd) (hk2 : ∀ {G : wo_W} {c s : Nat} {x0 : Nat} {x1 : Int32}, k2 G c s x0 x1 → ∀ {H : Heap} {locs : List Loc} {ls : Array Slot}, wo_Se E G H → va_S (en_A E) s₀.heap H locs → lx_has ls 3 [(0, 1, .ref x0), (1, 1, .int x1)] → c ≤ mc → s ≤ ms → W p l e R s₀ m args below meth cd H locs c s (MQ below (va_Qv Post (wo_B E) (en_A E)) args s₀ mc ms (en_A E)) (F0 m 2 ls [])) : ∀ {G : wo_W} {c s : Nat} {x0 : Nat} {x1 : Int32}, pq_EC_sendWaiting_53 E mc ms Post k2 G c s x0 x1 → ∀ {H : Heap} {locs : List Loc} {ls : Array Slot}, wo_Se E G H → va_S (en_A E) s₀.heap H locs → lx_has ls 3 [(0, 1, .ref x0), (1, 1, .int x1)] → c ≤ mc → s ≤ ms → W p l e R s₀ m args below meth cd H locs c s (MQ below (va_Qv Post (wo_B E) (en_A E)) args s₀ mc ms (en_A E)) (F0 m 53 ls []) := by
  intro G c s x0 x1 hw H locs ls hG hS hl hcc hss
  dsimp only [pq_EC_sendWaiting_53] at hw
  have hx := hC.1
  have hb := hC.2.1
  refine lx_iinc (k := 1) (v := (x1 + (1 : Int32))) (lv' := [(1, 1, .int (x1 + (1 : Int32))), (0, 1, .ref x0)]) hx hb dq_EC_sendWaiting_53 hl rfl rfl (by decide) rfl (fun ls hl' => ?_)
  clear hl
  have hl := hl'
  clear hl'
  refine lv_goto (tgt := 2) hx hb dq_EC_sendWaiting_56 rfl ?_
  exact hk2 hw hG hS (lx_sub hl [1, 0] rfl) hcc hss
set_option maxRecDepth 100000 in
set_option maxHeartbeats 4000000 in
theorem tq_EC_sendWaiting_2 {p : Program} {l : Launch} {e : Env} {R : Room} {s₀ : State} {m : MethodId} {args : Array Value} {below : List Frame} {meth : Method} {cd : Code} {E : wo_E} {mc ms : Nat} {Post : wo_W → Prop} (hC : wo_Cx E "EdgeCache" prog_1_method_25_code 3 3 74 ((Option.none : Option Jvm.ClassFile.FieldType)) "sendWaiting" mc ms p R s₀ m args meth cd) : ∀ n : Nat, ∀ {G : wo_W} {c s : Nat} {x0 : Nat} {x1 : Int32}, pq_EC_sendWaiting_2 E mc ms Post n G c s x0 x1 → ∀ {H : Heap} {locs : List Loc} {ls : Array Slot}, wo_Se E G H → va_S (en_A E) s₀.heap H locs → lx_has ls 3 [(0, 1, .ref x0), (1, 1, .int x1)] → c ≤ mc → s ≤ ms → W p l e R s₀ m args below meth cd H locs c s (MQ below (va_Qv Post (wo_B E) (en_A E)) args s₀ mc ms (en_A E)) (F0 m 2 ls []) := by
  intro n
  induction n with
  | zero => intro G c s x0 x1 hw; exact hw.elim
  | succ n ih =>
    intro G c s x0 x1 hw H locs ls hG hS hl hcc hss
    dsimp only [pq_EC_sendWaiting_2] at hw
    have hx := hC.1
    have hb := hC.2.1
    refine lv_iload_n hx hb dq_EC_sendWaiting_2 rfl (lx_at hl 1 rfl) ?_
    refine lv_iconst (v := (2 : Int32)) hx hb dq_EC_sendWaiting_3 rfl ?_
    refine lv_icmp_ge (tgt := 59) hx hb dq_EC_sendWaiting_4 rfl (fun h => ?_) (fun h => ?_)
    · replace hw := hw.1 h
      exact wo_vret hC hG hS hcc hss hw dq_EC_sendWaiting_59
    · replace hw := hw.2 h
      refine lv_aload_n hx hb dq_EC_sendWaiting_7 rfl (lx_at hl 0 rfl) ?_
      obtain ⟨t1, hw⟩ := hw
      refine wo_getR hC fq_EC_31 rfl hG t1 dq_EC_sendWaiting_8 (fun r2 e3 => ?_)
      replace hw := hw r2 e3
      refine lv_iload_n hx hb dq_EC_sendWaiting_11 rfl (lx_at hl 1 rfl) ?_
      obtain ⟨a4, rfl, hw⟩ := hw
      obtain ⟨t5, hw⟩ := hw
      obtain ⟨h6, hw⟩ := hw
      refine wo_aald (j := 3) hC rfl hG t5 h6 dq_EC_sendWaiting_12 (fun r7 e8 => ?_)
      replace hw := hw r7 e8
      refine lx_ifnonnull (tgt := 53) hx hb dq_EC_sendWaiting_13 rfl (fun h => ?_) (fun a9 h => ?_)
      · replace hw := hw.1 h
        subst h
        refine lv_aload_n hx hb dq_EC_sendWaiting_16 rfl (lx_at hl 0 rfl) ?_
        refine wo_getR hC fq_EC_38 rfl hG t1 dq_EC_sendWaiting_17 (fun r10 e11 => ?_)
        replace hw := hw r10 e11
        obtain ⟨a12, rfl, hw⟩ := hw
        obtain ⟨t13, hw⟩ := hw
        obtain ⟨mc14, ms15, hc1, hs1, hw⟩ := hw
        refine va_calli (wo_runV hC lq_EC_277 (mq_Al_isEmpty hw) hG hS t13 rfl (lx_sz hl) rfl (Nat.zero_le _) (by decide) dq_EC_sendWaiting_20 ⟨hc1, hs1⟩) hS (fun _ _ h => h) (fun _ h => h) (fun v17 G16 t H locs ht hvm hw' hB _ _ hS => ?_)
        clear hw
        have hw := hw'
        clear hw'
        replace hG := wo_bk ht hB
        replace hcc := hc1
        replace hss := hs1
        refine lv_if_ne (tgt := 53) hx hb dq_EC_sendWaiting_23 rfl (fun h => ?_) (fun h => ?_)
        · replace hw := hw.1 h
          exact tq_EC_sendWaiting_53 hC ih hw hG hS (lx_sub hl [0, 1] rfl) hcc hss
        · replace hw := hw.2 h
          refine lv_aload_n hx hb dq_EC_sendWaiting_26 rfl (lx_at hl 0 rfl) ?_
          obtain ⟨t18, hw⟩ := hw
          refine wo_getR hC fq_EC_38 rfl hG t18 dq_EC_sendWaiting_27 (fun r19 e20 => ?_)
          replace hw := hw r19 e20
          refine lv_iconst (v := (0 : Int32)) hx hb dq_EC_sendWaiting_30 rfl ?_
          obtain ⟨a21, rfl, hw⟩ := hw
          obtain ⟨t22, hw⟩ := hw
          obtain ⟨mc23, ms24, hc1, hs1, hw⟩ := hw
          refine va_callq (wo_runV hC lq_EC_280 (mq_Al_remove hw) hG hS t22 rfl (lx_sz hl) rfl (Nat.zero_le _) (by decide) dq_EC_sendWaiting_31 ⟨hc1, hs1⟩) hS (fun _ _ h => h) (fun _ h => h) (fun v26 G25 t H locs ht hvm hw' hB _ _ hS => ?_)
          clear hw
          have hw := hw'
          clear hw'
          replace hG := wo_bk ht hB
          replace hcc := hc1
          replace hss := hs1
          obtain ⟨h27, hw⟩ := hw
          refine wo_chk (x := v26) (c := 10) hC rfl kq_EC_29 (Or.inl rfl) hG h27 dq_EC_sendWaiting_34 ?_
          refine lx_astoreR_n (lv' := [(2, 1, va_rf v26), (0, 1, .ref x0), (1, 1, .int x1)]) hx hb dq_EC_sendWaiting_37 rfl hl (by decide) rfl (fun ls hl' => ?_)
          clear hl
          have hl := hl'
          clear hl'
          refine lx_aloadR_n hx hb dq_EC_sendWaiting_38 rfl (lx_at hl 0 rfl) ?_
          refine lv_aload_n hx hb dq_EC_sendWaiting_39 rfl (lx_at hl 1 rfl) ?_
          obtain ⟨t28, hw⟩ := hw
          refine wo_getI hC fq_EC_99 rfl hG t28 dq_EC_sendWaiting_40 ?_
          obtain ⟨a29, rfl, hw⟩ := hw
          obtain ⟨t30, hw⟩ := hw
          obtain ⟨h31, hw⟩ := hw
          refine wo_putI hC fq_EC_102 (Or.inl rfl) rfl (wo_ok_int _) hG hS t30 h31 dq_EC_sendWaiting_43 (fun G32 H locs e33 hG hS => ?_)
          replace hw := hw G32 e33
          refine lv_aload_n hx hb dq_EC_sendWaiting_46 rfl (lx_at hl 1 rfl) ?_
          refine wo_getR hC fq_EC_31 rfl hG (ty_si e33 t28) dq_EC_sendWaiting_47 (fun r34 e35 => ?_)
          replace hw := hw r34 e35
          refine lv_iload_n hx hb dq_EC_sendWaiting_50 rfl (lx_at hl 2 rfl) ?_
          refine lv_aload_n hx hb dq_EC_sendWaiting_51 rfl (lx_at hl 0 rfl) ?_
          obtain ⟨a36, rfl, hw⟩ := hw
          obtain ⟨t37, hw⟩ := hw
          obtain ⟨h38, hw⟩ := hw
          obtain ⟨h39, hw⟩ := hw
          obtain ⟨h40, hw⟩ := hw
          refine wo_aast (x := (some a29)) (j := 3) hC rfl hG hS t37 h38 h39 h40 dq_EC_sendWaiting_52 (fun G41 H locs e42 hG hS => ?_)
          replace hw := hw G41 e42
          exact tq_EC_sendWaiting_53 hC ih hw hG hS (lx_sub hl [1, 2] rfl) hcc hss
      · replace hw := hw.2 a9 h
        subst h
        exact tq_EC_sendWaiting_53 hC ih hw hG hS (lx_sub hl [0, 1] rfl) hcc hss
set_option maxRecDepth 100000 in
set_option maxHeartbeats 4000000 in
theorem tq_EC_sendWaiting_0 {p : Program} {l : Launch} {e : Env} {R : Room} {s₀ : State} {m : MethodId} {args : Array Value} {below : List Frame} {meth : Method} {cd : Code} {E : wo_E} {mc ms : Nat} {Post : wo_W → Prop} (hC : wo_Cx E "EdgeCache" prog_1_method_25_code 3 3 74 ((Option.none : Option Jvm.ClassFile.FieldType)) "sendWaiting" mc ms p R s₀ m args meth cd) : ∀ {G : wo_W} {c s : Nat} {x0 : Nat}, pq_EC_sendWaiting_0 E mc ms Post G c s x0 → ∀ {H : Heap} {locs : List Loc} {ls : Array Slot}, wo_Se E G H → va_S (en_A E) s₀.heap H locs → lx_has ls 3 [(0, 1, .ref x0)] → c ≤ mc → s ≤ ms → W p l e R s₀ m args below meth cd H locs c s (MQ below (va_Qv Post (wo_B E) (en_A E)) args s₀ mc ms (en_A E)) (F0 m 0 ls []) := by
  intro G c s x0 hw H locs ls hG hS hl hcc hss
  dsimp only [pq_EC_sendWaiting_0] at hw
  have hx := hC.1
  have hb := hC.2.1
  refine lv_iconst (v := (0 : Int32)) hx hb dq_EC_sendWaiting_0 rfl ?_
  refine lx_istore_n (lv' := [(1, 1, .int (0 : Int32)), (0, 1, .ref x0)]) hx hb dq_EC_sendWaiting_1 rfl hl (by decide) rfl (fun ls hl' => ?_)
  clear hl
  have hl := hl'
  clear hl'
  obtain ⟨n1, hw⟩ := hw
  exact tq_EC_sendWaiting_2 hC n1 hw hG hS (lx_sub hl [1, 0] rfl) hcc hss
set_option maxHeartbeats 4000000 in
theorem mq_EC_sendWaiting {l : Launch} {E : wo_E} {mc ms : Nat} {Post : wo_W → Prop} {G : wo_W} {x0 : Nat} (hw : pq_EC_sendWaiting E mc ms Post G x0) : Met l yq_EC_sendWaiting (Cond.code yq_EC_sendWaiting prog_1_method_25_code 3 ((Option.none : Option Jvm.ClassFile.FieldType)) :: vw_WG) { frames := 3, cells := mc, slots := ms, locals := 74 } (va_Pc [.ref x0] (wo_Ok E G)) (va_Qv Post (wo_B E) (en_A E)) mc ms (en_A E) := by
  unfold pq_EC_sendWaiting at hw
  exact wo_met [(1, .ref x0)] rfl (by decide) (fun q hq => by simp only [List.mem_cons, List.not_mem_nil, or_false] at hq; rcases hq with rfl <;> first | rfl | exact lx_cR _) (Nat.le_of_ble_eq_true rfl) (fun p e R s m args below meth cd ls hC hG hS hl => tq_EC_sendWaiting_0 hC hw hG hS (lx_sub hl [0] rfl) (Nat.zero_le _) (Nat.zero_le _))

theorem dq_Jb_init_0 : decode prog_3_method_1_code 0 = .ok (.aload_n 0, 1) := by decide +kernel
theorem dq_Jb_init_1 : decode prog_3_method_1_code 1 = .ok (.invokespecial 1, 3) := by decide +kernel
theorem dq_Jb_init_4 : decode prog_3_method_1_code 4 = .ok (.aload_n 0, 1) := by decide +kernel
theorem dq_Jb_init_5 : decode prog_3_method_1_code 5 = .ok (.aload_n 1, 1) := by decide +kernel
theorem dq_Jb_init_6 : decode prog_3_method_1_code 6 = .ok (.putfield 7, 3) := by decide +kernel
theorem dq_Jb_init_9 : decode prog_3_method_1_code 9 = .ok (.aload_n 0, 1) := by decide +kernel
theorem dq_Jb_init_10 : decode prog_3_method_1_code 10 = .ok (.iload_n 2, 1) := by decide +kernel
theorem dq_Jb_init_11 : decode prog_3_method_1_code 11 = .ok (.putfield 13, 3) := by decide +kernel
theorem dq_Jb_init_14 : decode prog_3_method_1_code 14 = .ok (.return_, 1) := by decide +kernel
set_option maxRecDepth 100000 in
def pq_Jb_init_0 (E : wo_E) (mc ms : Nat) (Post : wo_W → Prop) (G : wo_W) (c s : Nat) (x0 : Nat) (x1 : Option Nat) (x2 : Int32) : Prop := wo_ty G x0 = 11 ∧ en_bs E ≤ x0 ∧ ∀ G3 : wo_W, G3 = wo_sr G 640 x0 x1 → 
  en_bs E ≤ x0 ∧ ∀ G6 : wo_W, G6 = wo_si G3 641 x0 x2 → 
  Post G6
def pq_Jb_init (E : wo_E) (mc ms : Nat) (Post : wo_W → Prop) (G : wo_W) (x0 : Nat) (x1 : Option Nat) (x2 : Int32) : Prop := pq_Jb_init_0 E mc ms Post G 0 0 x0 x1 x2
set_option maxRecDepth 100000 in
set_option maxHeartbeats 4000000 in
theorem tq_Jb_init_0 {p : Program} {l : Launch} {e : Env} {R : Room} {s₀ : State} {m : MethodId} {args : Array Value} {below : List Frame} {meth : Method} {cd : Code} {E : wo_E} {mc ms : Nat} {Post : wo_W → Prop} (hC : wo_Cx E "EdgeCache$Job" prog_3_method_1_code 3 1 28 ((Option.none : Option Jvm.ClassFile.FieldType)) "<init>" mc ms p R s₀ m args meth cd) : ∀ {G : wo_W} {c s : Nat} {x0 : Nat} {x1 : Option Nat} {x2 : Int32}, pq_Jb_init_0 E mc ms Post G c s x0 x1 x2 → ∀ {H : Heap} {locs : List Loc} {ls : Array Slot}, wo_Se E G H → va_S (en_A E) s₀.heap H locs → lx_has ls 3 [(0, 1, .ref x0), (1, 1, va_rf x1), (2, 1, .int x2)] → c ≤ mc → s ≤ ms → W p l e R s₀ m args below meth cd H locs c s (MQ below (va_Qv Post (wo_B E) (en_A E)) args s₀ mc ms (en_A E)) (F0 m 0 ls []) := by
  intro G c s x0 x1 x2 hw H locs ls hG hS hl hcc hss
  dsimp only [pq_Jb_init_0] at hw
  have hx := hC.1
  have hb := hC.2.1
  refine lv_aload_n hx hb dq_Jb_init_0 rfl (lx_at hl 0 rfl) ?_
  refine wo_objI hC lq_Jb_1 (lx_sz hl) (by decide) (lx_rk (Nat.le_of_ble_eq_true rfl)) dq_Jb_init_1 ?_
  refine lv_aload_n hx hb dq_Jb_init_4 rfl (lx_at hl 0 rfl) ?_
  refine lx_aloadR_n hx hb dq_Jb_init_5 rfl (lx_at hl 1 rfl) ?_
  obtain ⟨t1, hw⟩ := hw
  obtain ⟨h2, hw⟩ := hw
  refine wo_putR (x := x1) hC fq_Jb_7 (Or.inr ⟨rfl, rfl⟩) rfl hG hS t1 h2 dq_Jb_init_6 (fun G3 H locs e4 hG hS => ?_)
  replace hw := hw G3 e4
  refine lv_aload_n hx hb dq_Jb_init_9 rfl (lx_at hl 0 rfl) ?_
  refine lv_iload_n hx hb dq_Jb_init_10 rfl (lx_at hl 2 rfl) ?_
  obtain ⟨h5, hw⟩ := hw
  refine wo_putI hC fq_Jb_13 (Or.inr ⟨rfl, rfl⟩) rfl (wo_ok_int _) hG hS (ty_sr e4 t1) h5 dq_Jb_init_11 (fun G6 H locs e7 hG hS => ?_)
  replace hw := hw G6 e7
  exact wo_vret hC hG hS hcc hss hw dq_Jb_init_14
set_option maxHeartbeats 4000000 in
theorem mq_Jb_init {l : Launch} {E : wo_E} {mc ms : Nat} {Post : wo_W → Prop} {G : wo_W} {x0 : Nat} {x1 : Option Nat} {x2 : Int32} (hw : pq_Jb_init E mc ms Post G x0 x1 x2) : Met l yq_Jb_init (Cond.code yq_Jb_init prog_3_method_1_code 3 ((Option.none : Option Jvm.ClassFile.FieldType)) :: vw_WG) { frames := 1, cells := mc, slots := ms, locals := 28 } (va_Pc [.ref x0, va_rf x1, .int x2] (wo_Ok E G)) (va_Qv Post (wo_B E) (en_A E)) mc ms (en_A E) := by
  unfold pq_Jb_init at hw
  exact wo_met [(1, .ref x0), (1, va_rf x1), (1, .int x2)] rfl (by decide) (fun q hq => by simp only [List.mem_cons, List.not_mem_nil, or_false] at hq; rcases hq with rfl | rfl | rfl <;> first | rfl | exact lx_cR _) (Nat.le_of_ble_eq_true rfl) (fun p e R s m args below meth cd ls hC hG hS hl => tq_Jb_init_0 hC hw hG hS (lx_sub hl [0, 1, 2] rfl) (Nat.zero_le _) (Nat.zero_le _))

theorem dq_Rq_isRead_0 : decode prog_7_method_3_code 0 = .ok (.aload_n 0, 1) := by decide +kernel
theorem dq_Rq_isRead_1 : decode prog_7_method_3_code 1 = .ok (.getfield 9, 3) := by decide +kernel
theorem dq_Rq_isRead_4 : decode prog_7_method_3_code 4 = .ok (.ifCond .eq 11, 3) := by decide +kernel
theorem dq_Rq_isRead_7 : decode prog_7_method_3_code 7 = .ok (.aload_n 0, 1) := by decide +kernel
theorem dq_Rq_isRead_8 : decode prog_7_method_3_code 8 = .ok (.getfield 9, 3) := by decide +kernel
theorem dq_Rq_isRead_11 : decode prog_7_method_3_code 11 = .ok (.iconst 1, 1) := by decide +kernel
theorem dq_Rq_isRead_12 : decode prog_7_method_3_code 12 = .ok (.if_icmp .ne 7, 3) := by decide +kernel
theorem dq_Rq_isRead_15 : decode prog_7_method_3_code 15 = .ok (.iconst 1, 1) := by decide +kernel
theorem dq_Rq_isRead_16 : decode prog_7_method_3_code 16 = .ok (.goto 4, 3) := by decide +kernel
theorem dq_Rq_isRead_19 : decode prog_7_method_3_code 19 = .ok (.iconst 0, 1) := by decide +kernel
theorem dq_Rq_isRead_20 : decode prog_7_method_3_code 20 = .ok (.ireturn, 1) := by decide +kernel
set_option maxRecDepth 100000 in
def pq_Rq_isRead_20 (E : wo_E) (mc ms : Nat) (Post : Int32 → wo_W → Prop) (G : wo_W) (c s : Nat) (y0 : Int32) : Prop := wo_okI .boolean y0 ∧ Post y0 G
set_option maxRecDepth 100000 in
def pq_Rq_isRead_15 (E : wo_E) (mc ms : Nat) (Post : Int32 → wo_W → Prop) (G : wo_W) (c s : Nat) : Prop := pq_Rq_isRead_20 E mc ms Post G c s (1 : Int32)
set_option maxRecDepth 100000 in
def pq_Rq_isRead_0 (E : wo_E) (mc ms : Nat) (Post : Int32 → wo_W → Prop) (G : wo_W) (c s : Nat) (x0 : Nat) : Prop := wo_ty G x0 = 9 ∧ (((wo_gi G 512 x0) = (0 : Int32) → pq_Rq_isRead_15 E mc ms Post G c s) ∧
  (¬ (wo_gi G 512 x0) = (0 : Int32) → ((¬ (wo_gi G 512 x0) = (1 : Int32) → pq_Rq_isRead_20 E mc ms Post G c s (0 : Int32)) ∧
    ((wo_gi G 512 x0) = (1 : Int32) → pq_Rq_isRead_15 E mc ms Post G c s))))
def pq_Rq_isRead (E : wo_E) (mc ms : Nat) (Post : Int32 → wo_W → Prop) (G : wo_W) (x0 : Nat) : Prop := pq_Rq_isRead_0 E mc ms Post G 0 0 x0
set_option maxRecDepth 100000 in
set_option maxHeartbeats 4000000 in
theorem tq_Rq_isRead_20 {p : Program} {l : Launch} {e : Env} {R : Room} {s₀ : State} {m : MethodId} {args : Array Value} {below : List Frame} {meth : Method} {cd : Code} {E : wo_E} {mc ms : Nat} {Post : Int32 → wo_W → Prop} (hC : wo_Cx E "EdgeCache$Request" prog_7_method_3_code 1 0 0 ((Option.some Jvm.ClassFile.FieldType.boolean)) "isRead" mc ms p R s₀ m args meth cd) : ∀ {G : wo_W} {c s : Nat} {y0 : Int32}, pq_Rq_isRead_20 E mc ms Post G c s y0 → ∀ {H : Heap} {locs : List Loc} {ls : Array Slot}, wo_Se E G H → va_S (en_A E) s₀.heap H locs → lx_has ls 1 [] → c ≤ mc → s ≤ ms → W p l e R s₀ m args below meth cd H locs c s (MQ below (va_Qi Post (wo_B E) (en_A E)) args s₀ mc ms (en_A E)) (F0 m 20 ls [.int y0]) := by
  intro G c s y0 hw H locs ls hG hS hl hcc hss
  dsimp only [pq_Rq_isRead_20] at hw
  have hx := hC.1
  have hb := hC.2.1
  obtain ⟨h1, hw⟩ := hw
  exact wo_zret hC h1.1 hG hS hcc hss hw dq_Rq_isRead_20
set_option maxRecDepth 100000 in
set_option maxHeartbeats 4000000 in
theorem tq_Rq_isRead_15 {p : Program} {l : Launch} {e : Env} {R : Room} {s₀ : State} {m : MethodId} {args : Array Value} {below : List Frame} {meth : Method} {cd : Code} {E : wo_E} {mc ms : Nat} {Post : Int32 → wo_W → Prop} (hC : wo_Cx E "EdgeCache$Request" prog_7_method_3_code 1 0 0 ((Option.some Jvm.ClassFile.FieldType.boolean)) "isRead" mc ms p R s₀ m args meth cd) : ∀ {G : wo_W} {c s : Nat}, pq_Rq_isRead_15 E mc ms Post G c s → ∀ {H : Heap} {locs : List Loc} {ls : Array Slot}, wo_Se E G H → va_S (en_A E) s₀.heap H locs → lx_has ls 1 [] → c ≤ mc → s ≤ ms → W p l e R s₀ m args below meth cd H locs c s (MQ below (va_Qi Post (wo_B E) (en_A E)) args s₀ mc ms (en_A E)) (F0 m 15 ls []) := by
  intro G c s hw H locs ls hG hS hl hcc hss
  dsimp only [pq_Rq_isRead_15] at hw
  have hx := hC.1
  have hb := hC.2.1
  refine lv_iconst (v := (1 : Int32)) hx hb dq_Rq_isRead_15 rfl ?_
  refine lv_goto (tgt := 20) hx hb dq_Rq_isRead_16 rfl ?_
  exact tq_Rq_isRead_20 hC hw hG hS (lx_sub hl [] rfl) hcc hss
set_option maxRecDepth 100000 in
set_option maxHeartbeats 4000000 in
theorem tq_Rq_isRead_0 {p : Program} {l : Launch} {e : Env} {R : Room} {s₀ : State} {m : MethodId} {args : Array Value} {below : List Frame} {meth : Method} {cd : Code} {E : wo_E} {mc ms : Nat} {Post : Int32 → wo_W → Prop} (hC : wo_Cx E "EdgeCache$Request" prog_7_method_3_code 1 0 0 ((Option.some Jvm.ClassFile.FieldType.boolean)) "isRead" mc ms p R s₀ m args meth cd) : ∀ {G : wo_W} {c s : Nat} {x0 : Nat}, pq_Rq_isRead_0 E mc ms Post G c s x0 → ∀ {H : Heap} {locs : List Loc} {ls : Array Slot}, wo_Se E G H → va_S (en_A E) s₀.heap H locs → lx_has ls 1 [(0, 1, .ref x0)] → c ≤ mc → s ≤ ms → W p l e R s₀ m args below meth cd H locs c s (MQ below (va_Qi Post (wo_B E) (en_A E)) args s₀ mc ms (en_A E)) (F0 m 0 ls []) := by
  intro G c s x0 hw H locs ls hG hS hl hcc hss
  dsimp only [pq_Rq_isRead_0] at hw
  have hx := hC.1
  have hb := hC.2.1
  refine lv_aload_n hx hb dq_Rq_isRead_0 rfl (lx_at hl 0 rfl) ?_
  obtain ⟨t1, hw⟩ := hw
  refine wo_getI hC fq_Rq_9 rfl hG t1 dq_Rq_isRead_1 ?_
  refine lv_if_eq (tgt := 15) hx hb dq_Rq_isRead_4 rfl (fun h => ?_) (fun h => ?_)
  · replace hw := hw.1 h
    exact tq_Rq_isRead_15 hC hw hG hS (lx_sub hl [] rfl) hcc hss
  · replace hw := hw.2 h
    refine lv_aload_n hx hb dq_Rq_isRead_7 rfl (lx_at hl 0 rfl) ?_
    refine wo_getI hC fq_Rq_9 rfl hG t1 dq_Rq_isRead_8 ?_
    refine lv_iconst (v := (1 : Int32)) hx hb dq_Rq_isRead_11 rfl ?_
    refine lv_icmp_ne (tgt := 19) hx hb dq_Rq_isRead_12 rfl (fun h => ?_) (fun h => ?_)
    · replace hw := hw.1 h
      refine lv_iconst (v := (0 : Int32)) hx hb dq_Rq_isRead_19 rfl ?_
      exact tq_Rq_isRead_20 hC hw hG hS (lx_sub hl [] rfl) hcc hss
    · replace hw := hw.2 h
      exact tq_Rq_isRead_15 hC hw hG hS (lx_sub hl [] rfl) hcc hss
set_option maxHeartbeats 4000000 in
theorem mq_Rq_isRead {l : Launch} {E : wo_E} {mc ms : Nat} {Post : Int32 → wo_W → Prop} {G : wo_W} {x0 : Nat} (hw : pq_Rq_isRead E mc ms Post G x0) : Met l yq_Rq_isRead (Cond.code yq_Rq_isRead prog_7_method_3_code 1 ((Option.some Jvm.ClassFile.FieldType.boolean)) :: vw_WG) { frames := 0, cells := mc, slots := ms, locals := 0 } (va_Pc [.ref x0] (wo_Ok E G)) (va_Qi Post (wo_B E) (en_A E)) mc ms (en_A E) := by
  unfold pq_Rq_isRead at hw
  exact wo_met [(1, .ref x0)] rfl (by decide) (fun q hq => by simp only [List.mem_cons, List.not_mem_nil, or_false] at hq; rcases hq with rfl <;> first | rfl | exact lx_cR _) (Nat.le_of_ble_eq_true rfl) (fun p e R s m args below meth cd ls hC hG hS hl => tq_Rq_isRead_0 hC hw hG hS (lx_sub hl [0] rfl) (Nat.zero_le _) (Nat.zero_le _))

theorem dq_Sd_hasVariant_0 : decode prog_11_method_3_code 0 = .ok (.aload_n 0, 1) := by decide +kernel
theorem dq_Sd_hasVariant_1 : decode prog_11_method_3_code 1 = .ok (.getfield 23, 3) := by decide +kernel
theorem dq_Sd_hasVariant_4 : decode prog_11_method_3_code 4 = .ok (.ifnull 7, 3) := by decide +kernel
theorem dq_Sd_hasVariant_7 : decode prog_11_method_3_code 7 = .ok (.aload_n 1, 1) := by decide +kernel
theorem dq_Sd_hasVariant_8 : decode prog_11_method_3_code 8 = .ok (.ifnonnull 20, 3) := by decide +kernel
theorem dq_Sd_hasVariant_11 : decode prog_11_method_3_code 11 = .ok (.aload_n 0, 1) := by decide +kernel
theorem dq_Sd_hasVariant_12 : decode prog_11_method_3_code 12 = .ok (.getfield 23, 3) := by decide +kernel
theorem dq_Sd_hasVariant_15 : decode prog_11_method_3_code 15 = .ok (.ifnonnull 11, 3) := by decide +kernel
theorem dq_Sd_hasVariant_18 : decode prog_11_method_3_code 18 = .ok (.aload_n 1, 1) := by decide +kernel
theorem dq_Sd_hasVariant_19 : decode prog_11_method_3_code 19 = .ok (.ifnonnull 7, 3) := by decide +kernel
theorem dq_Sd_hasVariant_22 : decode prog_11_method_3_code 22 = .ok (.iconst 1, 1) := by decide +kernel
theorem dq_Sd_hasVariant_23 : decode prog_11_method_3_code 23 = .ok (.goto 4, 3) := by decide +kernel
theorem dq_Sd_hasVariant_26 : decode prog_11_method_3_code 26 = .ok (.iconst 0, 1) := by decide +kernel
theorem dq_Sd_hasVariant_27 : decode prog_11_method_3_code 27 = .ok (.ireturn, 1) := by decide +kernel
theorem dq_Sd_hasVariant_28 : decode prog_11_method_3_code 28 = .ok (.aload_n 0, 1) := by decide +kernel
theorem dq_Sd_hasVariant_29 : decode prog_11_method_3_code 29 = .ok (.getfield 23, 3) := by decide +kernel
theorem dq_Sd_hasVariant_32 : decode prog_11_method_3_code 32 = .ok (.aload_n 1, 1) := by decide +kernel
theorem dq_Sd_hasVariant_33 : decode prog_11_method_3_code 33 = .ok (.invokevirtual 31, 3) := by decide +kernel
theorem dq_Sd_hasVariant_36 : decode prog_11_method_3_code 36 = .ok (.ireturn, 1) := by decide +kernel
set_option maxRecDepth 100000 in
def pq_Sd_hasVariant_27 (E : wo_E) (mc ms : Nat) (Post : Int32 → wo_W → Prop) (G : wo_W) (c s : Nat) (y0 : Int32) : Prop := wo_okI .boolean y0 ∧ Post y0 G
set_option maxRecDepth 100000 in
def pq_Sd_hasVariant_26 (E : wo_E) (mc ms : Nat) (Post : Int32 → wo_W → Prop) (G : wo_W) (c s : Nat) : Prop := pq_Sd_hasVariant_27 E mc ms Post G c s (0 : Int32)
set_option maxRecDepth 100000 in
def pq_Sd_hasVariant_11 (E : wo_E) (mc ms : Nat) (Post : Int32 → wo_W → Prop) (G : wo_W) (c s : Nat) (x0 : Nat) (x1 : Option Nat) : Prop := wo_ty G x0 = 14 ∧ ∀ r2 : Option Nat, r2 = wo_gr G 834 x0 → ((r2 = none → ((x1 = none → pq_Sd_hasVariant_27 E mc ms Post G c s (1 : Int32)) ∧
    (∀ a5 : Nat, x1 = some a5 → pq_Sd_hasVariant_26 E mc ms Post G c s))) ∧
  (∀ a4 : Nat, r2 = some a4 → pq_Sd_hasVariant_26 E mc ms Post G c s))
set_option maxRecDepth 100000 in
def pq_Sd_hasVariant_0 (E : wo_E) (mc ms : Nat) (Post : Int32 → wo_W → Prop) (G : wo_W) (c s : Nat) (x0 : Nat) (x1 : Option Nat) : Prop := wo_ty G x0 = 14 ∧ ∀ r2 : Option Nat, r2 = wo_gr G 834 x0 → ((r2 = none → pq_Sd_hasVariant_11 E mc ms Post G c s x0 x1) ∧
  (∀ a4 : Nat, r2 = some a4 → ((x1 = none → pq_Sd_hasVariant_11 E mc ms Post G c s x0 none) ∧
    (∀ a5 : Nat, x1 = some a5 → ∀ r6 : Option Nat, r6 = wo_gr G 834 x0 → ∃ a8 : Nat, r6 = some a8 ∧ wo_ty G a8 = 10 ∧ ∃ mc10 ms11 : Nat, (c + mc10) ≤ mc ∧ (s + ms11) ≤ ms ∧ pq_St_equals E mc10 ms11 (fun v13 G12 => 
      wo_okI .boolean v13 ∧ Post v13 G12) G a8 (some a5)))))
def pq_Sd_hasVariant (E : wo_E) (mc ms : Nat) (Post : Int32 → wo_W → Prop) (G : wo_W) (x0 : Nat) (x1 : Option Nat) : Prop := pq_Sd_hasVariant_0 E mc ms Post G 0 0 x0 x1
set_option maxRecDepth 100000 in
set_option maxHeartbeats 4000000 in
theorem tq_Sd_hasVariant_27 {p : Program} {l : Launch} {e : Env} {R : Room} {s₀ : State} {m : MethodId} {args : Array Value} {below : List Frame} {meth : Method} {cd : Code} {E : wo_E} {mc ms : Nat} {Post : Int32 → wo_W → Prop} (hC : wo_Cx E "EdgeCache$Stored" prog_11_method_3_code 2 2 44 ((Option.some Jvm.ClassFile.FieldType.boolean)) "hasVariant" mc ms p R s₀ m args meth cd) : ∀ {G : wo_W} {c s : Nat} {y0 : Int32}, pq_Sd_hasVariant_27 E mc ms Post G c s y0 → ∀ {H : Heap} {locs : List Loc} {ls : Array Slot}, wo_Se E G H → va_S (en_A E) s₀.heap H locs → lx_has ls 2 [] → c ≤ mc → s ≤ ms → W p l e R s₀ m args below meth cd H locs c s (MQ below (va_Qi Post (wo_B E) (en_A E)) args s₀ mc ms (en_A E)) (F0 m 27 ls [.int y0]) := by
  intro G c s y0 hw H locs ls hG hS hl hcc hss
  dsimp only [pq_Sd_hasVariant_27] at hw
  have hx := hC.1
  have hb := hC.2.1
  obtain ⟨h1, hw⟩ := hw
  exact wo_zret hC h1.1 hG hS hcc hss hw dq_Sd_hasVariant_27
set_option maxRecDepth 100000 in
set_option maxHeartbeats 4000000 in
theorem tq_Sd_hasVariant_26 {p : Program} {l : Launch} {e : Env} {R : Room} {s₀ : State} {m : MethodId} {args : Array Value} {below : List Frame} {meth : Method} {cd : Code} {E : wo_E} {mc ms : Nat} {Post : Int32 → wo_W → Prop} (hC : wo_Cx E "EdgeCache$Stored" prog_11_method_3_code 2 2 44 ((Option.some Jvm.ClassFile.FieldType.boolean)) "hasVariant" mc ms p R s₀ m args meth cd) : ∀ {G : wo_W} {c s : Nat}, pq_Sd_hasVariant_26 E mc ms Post G c s → ∀ {H : Heap} {locs : List Loc} {ls : Array Slot}, wo_Se E G H → va_S (en_A E) s₀.heap H locs → lx_has ls 2 [] → c ≤ mc → s ≤ ms → W p l e R s₀ m args below meth cd H locs c s (MQ below (va_Qi Post (wo_B E) (en_A E)) args s₀ mc ms (en_A E)) (F0 m 26 ls []) := by
  intro G c s hw H locs ls hG hS hl hcc hss
  dsimp only [pq_Sd_hasVariant_26] at hw
  have hx := hC.1
  have hb := hC.2.1
  refine lv_iconst (v := (0 : Int32)) hx hb dq_Sd_hasVariant_26 rfl ?_
  exact tq_Sd_hasVariant_27 hC hw hG hS (lx_sub hl [] rfl) hcc hss
set_option maxRecDepth 100000 in
set_option maxHeartbeats 4000000 in
theorem tq_Sd_hasVariant_11 {p : Program} {l : Launch} {e : Env} {R : Room} {s₀ : State} {m : MethodId} {args : Array Value} {below : List Frame} {meth : Method} {cd : Code} {E : wo_E} {mc ms : Nat} {Post : Int32 → wo_W → Prop} (hC : wo_Cx E "EdgeCache$Stored" prog_11_method_3_code 2 2 44 ((Option.some Jvm.ClassFile.FieldType.boolean)) "hasVariant" mc ms p R s₀ m args meth cd) : ∀ {G : wo_W} {c s : Nat} {x0 : Nat} {x1 : Option Nat}, pq_Sd_hasVariant_11 E mc ms Post G c s x0 x1 → ∀ {H : Heap} {locs : List Loc} {ls : Array Slot}, wo_Se E G H → va_S (en_A E) s₀.heap H locs → lx_has ls 2 [(0, 1, .ref x0), (1, 1, va_rf x1)] → c ≤ mc → s ≤ ms → W p l e R s₀ m args below meth cd H locs c s (MQ below (va_Qi Post (wo_B E) (en_A E)) args s₀ mc ms (en_A E)) (F0 m 11 ls []) := by
  intro G c s x0 x1 hw H locs ls hG hS hl hcc hss
  dsimp only [pq_Sd_hasVariant_11] at hw
  have hx := hC.1
  have hb := hC.2.1
  refine lv_aload_n hx hb dq_Sd_hasVariant_11 rfl (lx_at hl 0 rfl) ?_
  obtain ⟨t1, hw⟩ := hw
  refine wo_getR hC fq_Sd_23 rfl hG t1 dq_Sd_hasVariant_12 (fun r2 e3 => ?_)
  replace hw := hw r2 e3
  refine lx_ifnonnull (tgt := 26) hx hb dq_Sd_hasVariant_15 rfl (fun h => ?_) (fun a4 h => ?_)
  · replace hw := hw.1 h
    subst h
    refine lx_aloadR_n hx hb dq_Sd_hasVariant_18 rfl (lx_at hl 1 rfl) ?_
    refine lx_ifnonnull (tgt := 26) hx hb dq_Sd_hasVariant_19 rfl (fun h => ?_) (fun a5 h => ?_)
    · replace hw := hw.1 h
      subst h
      refine lv_iconst (v := (1 : Int32)) hx hb dq_Sd_hasVariant_22 rfl ?_
      refine lv_goto (tgt := 27) hx hb dq_Sd_hasVariant_23 rfl ?_
      exact tq_Sd_hasVariant_27 hC hw hG hS (lx_sub hl [] rfl) hcc hss
    · replace hw := hw.2 a5 h
      subst h
      exact tq_Sd_hasVariant_26 hC hw hG hS (lx_sub hl [] rfl) hcc hss
  · replace hw := hw.2 a4 h
    subst h
    exact tq_Sd_hasVariant_26 hC hw hG hS (lx_sub hl [] rfl) hcc hss
set_option maxRecDepth 100000 in
set_option maxHeartbeats 4000000 in
theorem tq_Sd_hasVariant_0 {p : Program} {l : Launch} {e : Env} {R : Room} {s₀ : State} {m : MethodId} {args : Array Value} {below : List Frame} {meth : Method} {cd : Code} {E : wo_E} {mc ms : Nat} {Post : Int32 → wo_W → Prop} (hC : wo_Cx E "EdgeCache$Stored" prog_11_method_3_code 2 2 44 ((Option.some Jvm.ClassFile.FieldType.boolean)) "hasVariant" mc ms p R s₀ m args meth cd) : ∀ {G : wo_W} {c s : Nat} {x0 : Nat} {x1 : Option Nat}, pq_Sd_hasVariant_0 E mc ms Post G c s x0 x1 → ∀ {H : Heap} {locs : List Loc} {ls : Array Slot}, wo_Se E G H → va_S (en_A E) s₀.heap H locs → lx_has ls 2 [(0, 1, .ref x0), (1, 1, va_rf x1)] → c ≤ mc → s ≤ ms → W p l e R s₀ m args below meth cd H locs c s (MQ below (va_Qi Post (wo_B E) (en_A E)) args s₀ mc ms (en_A E)) (F0 m 0 ls []) := by
  intro G c s x0 x1 hw H locs ls hG hS hl hcc hss
  dsimp only [pq_Sd_hasVariant_0] at hw
  have hx := hC.1
  have hb := hC.2.1
  refine lv_aload_n hx hb dq_Sd_hasVariant_0 rfl (lx_at hl 0 rfl) ?_
  obtain ⟨t1, hw⟩ := hw
  refine wo_getR hC fq_Sd_23 rfl hG t1 dq_Sd_hasVariant_1 (fun r2 e3 => ?_)
  replace hw := hw r2 e3
  refine lx_ifnull (tgt := 11) hx hb dq_Sd_hasVariant_4 rfl (fun h => ?_) (fun a4 h => ?_)
  · replace hw := hw.1 h
    subst h
    exact tq_Sd_hasVariant_11 hC hw hG hS (lx_sub hl [0, 1] rfl) hcc hss
  · replace hw := hw.2 a4 h
    subst h
    refine lx_aloadR_n hx hb dq_Sd_hasVariant_7 rfl (lx_at hl 1 rfl) ?_
    refine lx_ifnonnull (tgt := 28) hx hb dq_Sd_hasVariant_8 rfl (fun h => ?_) (fun a5 h => ?_)
    · replace hw := hw.1 h
      subst h
      exact tq_Sd_hasVariant_11 hC hw hG hS (lx_sub hl [0, 1] rfl) hcc hss
    · replace hw := hw.2 a5 h
      subst h
      refine lv_aload_n hx hb dq_Sd_hasVariant_28 rfl (lx_at hl 0 rfl) ?_
      refine wo_getR hC fq_Sd_23 rfl hG t1 dq_Sd_hasVariant_29 (fun r6 e7 => ?_)
      replace hw := hw r6 e7
      refine lv_aload_n hx hb dq_Sd_hasVariant_32 rfl (lx_at hl 1 rfl) ?_
      obtain ⟨a8, rfl, hw⟩ := hw
      obtain ⟨t9, hw⟩ := hw
      obtain ⟨mc10, ms11, hc1, hs1, hw⟩ := hw
      refine va_calli (wo_runV hC lq_Sd_31 (mq_St_equals hw) hG hS t9 rfl (lx_sz hl) rfl (Nat.zero_le _) (by decide) dq_Sd_hasVariant_33 ⟨hc1, hs1⟩) hS (fun _ _ h => h) (fun _ h => h) (fun v13 G12 t H locs ht hvm hw' hB _ _ hS => ?_)
      clear hw
      have hw := hw'
      clear hw'
      replace hG := wo_bk ht hB
      replace hcc := hc1
      replace hss := hs1
      obtain ⟨h14, hw⟩ := hw
      exact wo_zret hC h14.1 hG hS hcc hss hw dq_Sd_hasVariant_36
set_option maxHeartbeats 4000000 in
theorem mq_Sd_hasVariant {l : Launch} {E : wo_E} {mc ms : Nat} {Post : Int32 → wo_W → Prop} {G : wo_W} {x0 : Nat} {x1 : Option Nat} (hw : pq_Sd_hasVariant E mc ms Post G x0 x1) : Met l yq_Sd_hasVariant (Cond.code yq_Sd_hasVariant prog_11_method_3_code 2 ((Option.some Jvm.ClassFile.FieldType.boolean)) :: vw_WG) { frames := 2, cells := mc, slots := ms, locals := 44 } (va_Pc [.ref x0, va_rf x1] (wo_Ok E G)) (va_Qi Post (wo_B E) (en_A E)) mc ms (en_A E) := by
  unfold pq_Sd_hasVariant at hw
  exact wo_met [(1, .ref x0), (1, va_rf x1)] rfl (by decide) (fun q hq => by simp only [List.mem_cons, List.not_mem_nil, or_false] at hq; rcases hq with rfl | rfl <;> first | rfl | exact lx_cR _) (Nat.le_of_ble_eq_true rfl) (fun p e R s m args below meth cd ls hC hG hS hl => tq_Sd_hasVariant_0 hC hw hG hS (lx_sub hl [0, 1] rfl) (Nat.zero_le _) (Nat.zero_le _))

theorem dq_Sd_fits_0 : decode prog_11_method_2_code 0 = .ok (.aload_n 0, 1) := by decide +kernel
theorem dq_Sd_fits_1 : decode prog_11_method_2_code 1 = .ok (.getfield 19, 3) := by decide +kernel
theorem dq_Sd_fits_4 : decode prog_11_method_2_code 4 = .ok (.aload_n 1, 1) := by decide +kernel
theorem dq_Sd_fits_5 : decode prog_11_method_2_code 5 = .ok (.getfield 13, 3) := by decide +kernel
theorem dq_Sd_fits_8 : decode prog_11_method_2_code 8 = .ok (.invokevirtual 31, 3) := by decide +kernel
theorem dq_Sd_fits_11 : decode prog_11_method_2_code 11 = .ok (.ifCond .eq 28, 3) := by decide +kernel
theorem dq_Sd_fits_14 : decode prog_11_method_2_code 14 = .ok (.aload_n 0, 1) := by decide +kernel
theorem dq_Sd_fits_15 : decode prog_11_method_2_code 15 = .ok (.getfield 7, 3) := by decide +kernel
theorem dq_Sd_fits_18 : decode prog_11_method_2_code 18 = .ok (.getfield 37, 3) := by decide +kernel
theorem dq_Sd_fits_21 : decode prog_11_method_2_code 21 = .ok (.ifCond .eq 14, 3) := by decide +kernel
theorem dq_Sd_fits_24 : decode prog_11_method_2_code 24 = .ok (.aload_n 0, 1) := by decide +kernel
theorem dq_Sd_fits_25 : decode prog_11_method_2_code 25 = .ok (.aload_n 1, 1) := by decide +kernel
theorem dq_Sd_fits_26 : decode prog_11_method_2_code 26 = .ok (.getfield 20, 3) := by decide +kernel
theorem dq_Sd_fits_29 : decode prog_11_method_2_code 29 = .ok (.invokevirtual 43, 3) := by decide +kernel
theorem dq_Sd_fits_32 : decode prog_11_method_2_code 32 = .ok (.ifCond .eq 7, 3) := by decide +kernel
theorem dq_Sd_fits_35 : decode prog_11_method_2_code 35 = .ok (.iconst 1, 1) := by decide +kernel
theorem dq_Sd_fits_36 : decode prog_11_method_2_code 36 = .ok (.goto 4, 3) := by decide +kernel
theorem dq_Sd_fits_39 : decode prog_11_method_2_code 39 = .ok (.iconst 0, 1) := by decide +kernel
theorem dq_Sd_fits_40 : decode prog_11_method_2_code 40 = .ok (.ireturn, 1) := by decide +kernel
set_option maxRecDepth 100000 in
def pq_Sd_fits_40 (E : wo_E) (mc ms : Nat) (Post : Int32 → wo_W → Prop) (G : wo_W) (c s : Nat) (y0 : Int32) : Prop := wo_okI .boolean y0 ∧ Post y0 G
set_option maxRecDepth 100000 in
def pq_Sd_fits_39 (E : wo_E) (mc ms : Nat) (Post : Int32 → wo_W → Prop) (G : wo_W) (c s : Nat) : Prop := pq_Sd_fits_40 E mc ms Post G c s (0 : Int32)
set_option maxRecDepth 100000 in
def pq_Sd_fits_35 (E : wo_E) (mc ms : Nat) (Post : Int32 → wo_W → Prop) (G : wo_W) (c s : Nat) : Prop := pq_Sd_fits_40 E mc ms Post G c s (1 : Int32)
set_option maxRecDepth 100000 in
def pq_Sd_fits_0 (E : wo_E) (mc ms : Nat) (Post : Int32 → wo_W → Prop) (G : wo_W) (c s : Nat) (x0 : Nat) (x1 : Option Nat) : Prop := wo_ty G x0 = 14 ∧ ∀ r2 : Option Nat, r2 = wo_gr G 833 x0 → ∃ a4 : Nat, x1 = some a4 ∧ wo_ty G a4 = 9 ∧ ∀ r6 : Option Nat, r6 = wo_gr G 513 a4 → ∃ a8 : Nat, r2 = some a8 ∧ wo_ty G a8 = 10 ∧ ∃ mc10 ms11 : Nat, (c + mc10) ≤ mc ∧ (s + ms11) ≤ ms ∧ pq_St_equals E mc10 ms11 (fun v13 G12 => 
  ((v13 = (0 : Int32) → pq_Sd_fits_39 E mc ms Post G12 (c + mc10) (s + ms11)) ∧
    (¬ v13 = (0 : Int32) → wo_ty G12 x0 = 14 ∧ ∀ r15 : Option Nat, r15 = wo_gr G12 832 x0 → ∃ a17 : Nat, r15 = some a17 ∧ wo_ty G12 a17 = 13 ∧ (((wo_gi G12 772 a17) = (0 : Int32) → pq_Sd_fits_35 E mc ms Post G12 (c + mc10) (s + ms11)) ∧
      (¬ (wo_gi G12 772 a17) = (0 : Int32) → wo_ty G12 a4 = 9 ∧ ∀ r20 : Option Nat, r20 = wo_gr G12 520 a4 → ∃ mc22 ms23 : Nat, ((c + mc10) + mc22) ≤ mc ∧ ((s + ms11) + ms23) ≤ ms ∧ pq_Sd_hasVariant E mc22 ms23 (fun v25 G24 => 
        ((v25 = (0 : Int32) → pq_Sd_fits_39 E mc ms Post G24 ((c + mc10) + mc22) ((s + ms11) + ms23)) ∧
          (¬ v25 = (0 : Int32) → pq_Sd_fits_35 E mc ms Post G24 ((c + mc10) + mc22) ((s + ms11) + ms23)))) G12 x0 r20))))) G a8 r6
def pq_Sd_fits (E : wo_E) (mc ms : Nat) (Post : Int32 → wo_W → Prop) (G : wo_W) (x0 : Nat) (x1 : Option Nat) : Prop := pq_Sd_fits_0 E mc ms Post G 0 0 x0 x1
set_option maxRecDepth 100000 in
set_option maxHeartbeats 4000000 in
theorem tq_Sd_fits_40 {p : Program} {l : Launch} {e : Env} {R : Room} {s₀ : State} {m : MethodId} {args : Array Value} {below : List Frame} {meth : Method} {cd : Code} {E : wo_E} {mc ms : Nat} {Post : Int32 → wo_W → Prop} (hC : wo_Cx E "EdgeCache$Stored" prog_11_method_2_code 2 3 65 ((Option.some Jvm.ClassFile.FieldType.boolean)) "fits" mc ms p R s₀ m args meth cd) : ∀ {G : wo_W} {c s : Nat} {y0 : Int32}, pq_Sd_fits_40 E mc ms Post G c s y0 → ∀ {H : Heap} {locs : List Loc} {ls : Array Slot}, wo_Se E G H → va_S (en_A E) s₀.heap H locs → lx_has ls 2 [] → c ≤ mc → s ≤ ms → W p l e R s₀ m args below meth cd H locs c s (MQ below (va_Qi Post (wo_B E) (en_A E)) args s₀ mc ms (en_A E)) (F0 m 40 ls [.int y0]) := by
  intro G c s y0 hw H locs ls hG hS hl hcc hss
  dsimp only [pq_Sd_fits_40] at hw
  have hx := hC.1
  have hb := hC.2.1
  obtain ⟨h1, hw⟩ := hw
  exact wo_zret hC h1.1 hG hS hcc hss hw dq_Sd_fits_40
set_option maxRecDepth 100000 in
set_option maxHeartbeats 4000000 in
theorem tq_Sd_fits_39 {p : Program} {l : Launch} {e : Env} {R : Room} {s₀ : State} {m : MethodId} {args : Array Value} {below : List Frame} {meth : Method} {cd : Code} {E : wo_E} {mc ms : Nat} {Post : Int32 → wo_W → Prop} (hC : wo_Cx E "EdgeCache$Stored" prog_11_method_2_code 2 3 65 ((Option.some Jvm.ClassFile.FieldType.boolean)) "fits" mc ms p R s₀ m args meth cd) : ∀ {G : wo_W} {c s : Nat}, pq_Sd_fits_39 E mc ms Post G c s → ∀ {H : Heap} {locs : List Loc} {ls : Array Slot}, wo_Se E G H → va_S (en_A E) s₀.heap H locs → lx_has ls 2 [] → c ≤ mc → s ≤ ms → W p l e R s₀ m args below meth cd H locs c s (MQ below (va_Qi Post (wo_B E) (en_A E)) args s₀ mc ms (en_A E)) (F0 m 39 ls []) := by
  intro G c s hw H locs ls hG hS hl hcc hss
  dsimp only [pq_Sd_fits_39] at hw
  have hx := hC.1
  have hb := hC.2.1
  refine lv_iconst (v := (0 : Int32)) hx hb dq_Sd_fits_39 rfl ?_
  exact tq_Sd_fits_40 hC hw hG hS (lx_sub hl [] rfl) hcc hss
set_option maxRecDepth 100000 in
set_option maxHeartbeats 4000000 in
theorem tq_Sd_fits_35 {p : Program} {l : Launch} {e : Env} {R : Room} {s₀ : State} {m : MethodId} {args : Array Value} {below : List Frame} {meth : Method} {cd : Code} {E : wo_E} {mc ms : Nat} {Post : Int32 → wo_W → Prop} (hC : wo_Cx E "EdgeCache$Stored" prog_11_method_2_code 2 3 65 ((Option.some Jvm.ClassFile.FieldType.boolean)) "fits" mc ms p R s₀ m args meth cd) : ∀ {G : wo_W} {c s : Nat}, pq_Sd_fits_35 E mc ms Post G c s → ∀ {H : Heap} {locs : List Loc} {ls : Array Slot}, wo_Se E G H → va_S (en_A E) s₀.heap H locs → lx_has ls 2 [] → c ≤ mc → s ≤ ms → W p l e R s₀ m args below meth cd H locs c s (MQ below (va_Qi Post (wo_B E) (en_A E)) args s₀ mc ms (en_A E)) (F0 m 35 ls []) := by
  intro G c s hw H locs ls hG hS hl hcc hss
  dsimp only [pq_Sd_fits_35] at hw
  have hx := hC.1
  have hb := hC.2.1
  refine lv_iconst (v := (1 : Int32)) hx hb dq_Sd_fits_35 rfl ?_
  refine lv_goto (tgt := 40) hx hb dq_Sd_fits_36 rfl ?_
  exact tq_Sd_fits_40 hC hw hG hS (lx_sub hl [] rfl) hcc hss
set_option maxRecDepth 100000 in
set_option maxHeartbeats 4000000 in
theorem tq_Sd_fits_0 {p : Program} {l : Launch} {e : Env} {R : Room} {s₀ : State} {m : MethodId} {args : Array Value} {below : List Frame} {meth : Method} {cd : Code} {E : wo_E} {mc ms : Nat} {Post : Int32 → wo_W → Prop} (hC : wo_Cx E "EdgeCache$Stored" prog_11_method_2_code 2 3 65 ((Option.some Jvm.ClassFile.FieldType.boolean)) "fits" mc ms p R s₀ m args meth cd) : ∀ {G : wo_W} {c s : Nat} {x0 : Nat} {x1 : Option Nat}, pq_Sd_fits_0 E mc ms Post G c s x0 x1 → ∀ {H : Heap} {locs : List Loc} {ls : Array Slot}, wo_Se E G H → va_S (en_A E) s₀.heap H locs → lx_has ls 2 [(0, 1, .ref x0), (1, 1, va_rf x1)] → c ≤ mc → s ≤ ms → W p l e R s₀ m args below meth cd H locs c s (MQ below (va_Qi Post (wo_B E) (en_A E)) args s₀ mc ms (en_A E)) (F0 m 0 ls []) := by
  intro G c s x0 x1 hw H locs ls hG hS hl hcc hss
  dsimp only [pq_Sd_fits_0] at hw
  have hx := hC.1
  have hb := hC.2.1
  refine lv_aload_n hx hb dq_Sd_fits_0 rfl (lx_at hl 0 rfl) ?_
  obtain ⟨t1, hw⟩ := hw
  refine wo_getR hC fq_Sd_19 rfl hG t1 dq_Sd_fits_1 (fun r2 e3 => ?_)
  replace hw := hw r2 e3
  refine lx_aloadR_n hx hb dq_Sd_fits_4 rfl (lx_at hl 1 rfl) ?_
  obtain ⟨a4, rfl, hw⟩ := hw
  obtain ⟨t5, hw⟩ := hw
  refine wo_getR hC fq_Sd_13 rfl hG t5 dq_Sd_fits_5 (fun r6 e7 => ?_)
  replace hw := hw r6 e7
  obtain ⟨a8, rfl, hw⟩ := hw
  obtain ⟨t9, hw⟩ := hw
  obtain ⟨mc10, ms11, hc1, hs1, hw⟩ := hw
  refine va_calli (wo_runV hC lq_Sd_31 (mq_St_equals hw) hG hS t9 rfl (lx_sz hl) rfl (Nat.zero_le _) (by decide) dq_Sd_fits_8 ⟨hc1, hs1⟩) hS (fun _ _ h => h) (fun _ h => h) (fun v13 G12 t H locs ht hvm hw' hB _ _ hS => ?_)
  clear hw
  have hw := hw'
  clear hw'
  replace hG := wo_bk ht hB
  replace hcc := hc1
  replace hss := hs1
  refine lv_if_eq (tgt := 39) hx hb dq_Sd_fits_11 rfl (fun h => ?_) (fun h => ?_)
  · replace hw := hw.1 h
    exact tq_Sd_fits_39 hC hw hG hS (lx_sub hl [] rfl) hcc hss
  · replace hw := hw.2 h
    refine lv_aload_n hx hb dq_Sd_fits_14 rfl (lx_at hl 0 rfl) ?_
    obtain ⟨t14, hw⟩ := hw
    refine wo_getR hC fq_Sd_7 rfl hG t14 dq_Sd_fits_15 (fun r15 e16 => ?_)
    replace hw := hw r15 e16
    obtain ⟨a17, rfl, hw⟩ := hw
    obtain ⟨t18, hw⟩ := hw
    refine wo_getI hC fq_Sd_37 rfl hG t18 dq_Sd_fits_18 ?_
    refine lv_if_eq (tgt := 35) hx hb dq_Sd_fits_21 rfl (fun h => ?_) (fun h => ?_)
    · replace hw := hw.1 h
      exact tq_Sd_fits_35 hC hw hG hS (lx_sub hl [] rfl) hcc hss
    · replace hw := hw.2 h
      refine lv_aload_n hx hb dq_Sd_fits_24 rfl (lx_at hl 0 rfl) ?_
      refine lv_aload_n hx hb dq_Sd_fits_25 rfl (lx_at hl 1 rfl) ?_
      obtain ⟨t19, hw⟩ := hw
      refine wo_getR hC fq_Sd_20 rfl hG t19 dq_Sd_fits_26 (fun r20 e21 => ?_)
      replace hw := hw r20 e21
      obtain ⟨mc22, ms23, hc1, hs1, hw⟩ := hw
      refine va_calli (wo_runV hC lq_Sd_43 (mq_Sd_hasVariant hw) hG hS t14 rfl (lx_sz hl) rfl (Nat.zero_le _) (by decide) dq_Sd_fits_29 ⟨hc1, hs1⟩) hS (fun _ _ h => h) (fun _ h => h) (fun v25 G24 t H locs ht hvm hw' hB _ _ hS => ?_)
      clear hw
      have hw := hw'
      clear hw'
      replace hG := wo_bk ht hB
      replace hcc := hc1
      replace hss := hs1
      refine lv_if_eq (tgt := 39) hx hb dq_Sd_fits_32 rfl (fun h => ?_) (fun h => ?_)
      · replace hw := hw.1 h
        exact tq_Sd_fits_39 hC hw hG hS (lx_sub hl [] rfl) hcc hss
      · replace hw := hw.2 h
        exact tq_Sd_fits_35 hC hw hG hS (lx_sub hl [] rfl) hcc hss
set_option maxHeartbeats 4000000 in
theorem mq_Sd_fits {l : Launch} {E : wo_E} {mc ms : Nat} {Post : Int32 → wo_W → Prop} {G : wo_W} {x0 : Nat} {x1 : Option Nat} (hw : pq_Sd_fits E mc ms Post G x0 x1) : Met l yq_Sd_fits (Cond.code yq_Sd_fits prog_11_method_2_code 2 ((Option.some Jvm.ClassFile.FieldType.boolean)) :: vw_WG) { frames := 3, cells := mc, slots := ms, locals := 65 } (va_Pc [.ref x0, va_rf x1] (wo_Ok E G)) (va_Qi Post (wo_B E) (en_A E)) mc ms (en_A E) := by
  unfold pq_Sd_fits at hw
  exact wo_met [(1, .ref x0), (1, va_rf x1)] rfl (by decide) (fun q hq => by simp only [List.mem_cons, List.not_mem_nil, or_false] at hq; rcases hq with rfl | rfl <;> first | rfl | exact lx_cR _) (Nat.le_of_ble_eq_true rfl) (fun p e R s m args below meth cd ls hC hG hS hl => tq_Sd_fits_0 hC hw hG hS (lx_sub hl [0, 1] rfl) (Nat.zero_le _) (Nat.zero_le _))

theorem dq_Al_elementData_0 : decode prog_29_method_18_code 0 = .ok (.aload_n 0, 1) := by decide +kernel
theorem dq_Al_elementData_1 : decode prog_29_method_18_code 1 = .ok (.getfield 9, 3) := by decide +kernel
theorem dq_Al_elementData_4 : decode prog_29_method_18_code 4 = .ok (.iload_n 1, 1) := by decide +kernel
theorem dq_Al_elementData_5 : decode prog_29_method_18_code 5 = .ok (.aaload, 1) := by decide +kernel
theorem dq_Al_elementData_6 : decode prog_29_method_18_code 6 = .ok (.areturn, 1) := by decide +kernel
set_option maxRecDepth 100000 in
def pq_Al_elementData_0 (E : wo_E) (mc ms : Nat) (Post : Option Nat → wo_W → Prop) (G : wo_W) (c s : Nat) (x0 : Nat) (x1 : Int32) : Prop := wo_ty G x0 = 3 ∧ ∀ r2 : Option Nat, r2 = wo_gr G 128 x0 → ∃ a4 : Nat, r2 = some a4 ∧ wo_ty G a4 = 71 ∧ vp_in x1 (wo_len G a4) ∧ ∀ r7 : Option Nat, r7 = wo_er G a4 x1.toNatClampNeg → Post r7 G
def pq_Al_elementData (E : wo_E) (mc ms : Nat) (Post : Option Nat → wo_W → Prop) (G : wo_W) (x0 : Nat) (x1 : Int32) : Prop := pq_Al_elementData_0 E mc ms Post G 0 0 x0 x1
set_option maxRecDepth 100000 in
set_option maxHeartbeats 4000000 in
theorem tq_Al_elementData_0 {p : Program} {l : Launch} {e : Env} {R : Room} {s₀ : State} {m : MethodId} {args : Array Value} {below : List Frame} {meth : Method} {cd : Code} {E : wo_E} {mc ms : Nat} {Post : Option Nat → wo_W → Prop} (hC : wo_Cx E "java/util/ArrayList" prog_29_method_18_code 2 0 0 ((Option.some (Jvm.ClassFile.FieldType.object "java/lang/Object"))) "elementData" mc ms p R s₀ m args meth cd) : ∀ {G : wo_W} {c s : Nat} {x0 : Nat} {x1 : Int32}, pq_Al_elementData_0 E mc ms Post G c s x0 x1 → ∀ {H : Heap} {locs : List Loc} {ls : Array Slot}, wo_Se E G H → va_S (en_A E) s₀.heap H locs → lx_has ls 2 [(0, 1, .ref x0), (1, 1, .int x1)] → c ≤ mc → s ≤ ms → W p l e R s₀ m args below meth cd H locs c s (MQ below (va_Qq Post (wo_B E) (en_A E)) args s₀ mc ms (en_A E)) (F0 m 0 ls []) := by
  intro G c s x0 x1 hw H locs ls hG hS hl hcc hss
  dsimp only [pq_Al_elementData_0] at hw
  have hx := hC.1
  have hb := hC.2.1
  refine lv_aload_n hx hb dq_Al_elementData_0 rfl (lx_at hl 0 rfl) ?_
  obtain ⟨t1, hw⟩ := hw
  refine wo_getR hC fq_Al_9 rfl hG t1 dq_Al_elementData_1 (fun r2 e3 => ?_)
  replace hw := hw r2 e3
  refine lv_iload_n hx hb dq_Al_elementData_4 rfl (lx_at hl 1 rfl) ?_
  obtain ⟨a4, rfl, hw⟩ := hw
  obtain ⟨t5, hw⟩ := hw
  obtain ⟨h6, hw⟩ := hw
  refine wo_aald (j := 7) hC rfl hG t5 h6 dq_Al_elementData_5 (fun r7 e8 => ?_)
  replace hw := hw r7 e8
  exact wo_aret (x := r7) hC rfl hG hS hcc hss hw dq_Al_elementData_6
set_option maxHeartbeats 4000000 in
theorem mq_Al_elementData {l : Launch} {E : wo_E} {mc ms : Nat} {Post : Option Nat → wo_W → Prop} {G : wo_W} {x0 : Nat} {x1 : Int32} (hw : pq_Al_elementData E mc ms Post G x0 x1) : Met l yq_Al_elementData (Cond.code yq_Al_elementData prog_29_method_18_code 2 ((Option.some (Jvm.ClassFile.FieldType.object "java/lang/Object"))) :: vw_WG) { frames := 0, cells := mc, slots := ms, locals := 0 } (va_Pc [.ref x0, .int x1] (wo_Ok E G)) (va_Qq Post (wo_B E) (en_A E)) mc ms (en_A E) := by
  unfold pq_Al_elementData at hw
  exact wo_met [(1, .ref x0), (1, .int x1)] rfl (by decide) (fun q hq => by simp only [List.mem_cons, List.not_mem_nil, or_false] at hq; rcases hq with rfl | rfl <;> first | rfl | exact lx_cR _) (Nat.le_of_ble_eq_true rfl) (fun p e R s m args below meth cd ls hC hG hS hl => tq_Al_elementData_0 hC hw hG hS (lx_sub hl [0, 1] rfl) (Nat.zero_le _) (Nat.zero_le _))

theorem dq_Al_get_0 : decode prog_29_method_20_code 0 = .ok (.iload_n 1, 1) := by decide +kernel
theorem dq_Al_get_1 : decode prog_29_method_20_code 1 = .ok (.aload_n 0, 1) := by decide +kernel
theorem dq_Al_get_2 : decode prog_29_method_20_code 2 = .ok (.getfield 48, 3) := by decide +kernel
theorem dq_Al_get_5 : decode prog_29_method_20_code 5 = .ok (.invokestatic 118, 3) := by decide +kernel
theorem dq_Al_get_8 : decode prog_29_method_20_code 8 = .ok (.pop, 1) := by decide +kernel
theorem dq_Al_get_9 : decode prog_29_method_20_code 9 = .ok (.aload_n 0, 1) := by decide +kernel
theorem dq_Al_get_10 : decode prog_29_method_20_code 10 = .ok (.iload_n 1, 1) := by decide +kernel
theorem dq_Al_get_11 : decode prog_29_method_20_code 11 = .ok (.invokevirtual 123, 3) := by decide +kernel
theorem dq_Al_get_14 : decode prog_29_method_20_code 14 = .ok (.areturn, 1) := by decide +kernel
set_option maxRecDepth 100000 in
def pq_Al_get_0 (E : wo_E) (mc ms : Nat) (Post : Option Nat → wo_W → Prop) (G : wo_W) (c s : Nat) (x0 : Nat) (x1 : Int32) : Prop := wo_ty G x0 = 3 ∧ ∃ mc2 ms3 : Nat, (c + mc2) ≤ mc ∧ (s + ms3) ≤ ms ∧ pq_Ob_checkIndex E mc2 ms3 (fun v5 G4 => 
  wo_ty G4 x0 = 3 ∧ ∃ mc7 ms8 : Nat, ((c + mc2) + mc7) ≤ mc ∧ ((s + ms3) + ms8) ≤ ms ∧ pq_Al_elementData E mc7 ms8 (fun v10 G9 => 
    Post v10 G9) G4 x0 x1) G x1 (wo_gi G 129 x0)
def pq_Al_get (E : wo_E) (mc ms : Nat) (Post : Option Nat → wo_W → Prop) (G : wo_W) (x0 : Nat) (x1 : Int32) : Prop := pq_Al_get_0 E mc ms Post G 0 0 x0 x1
set_option maxRecDepth 100000 in
set_option maxHeartbeats 4000000 in
theorem tq_Al_get_0 {p : Program} {l : Launch} {e : Env} {R : Room} {s₀ : State} {m : MethodId} {args : Array Value} {below : List Frame} {meth : Method} {cd : Code} {E : wo_E} {mc ms : Nat} {Post : Option Nat → wo_W → Prop} (hC : wo_Cx E "java/util/ArrayList" prog_29_method_20_code 2 2 43 ((Option.some (Jvm.ClassFile.FieldType.object "java/lang/Object"))) "get" mc ms p R s₀ m args meth cd) : ∀ {G : wo_W} {c s : Nat} {x0 : Nat} {x1 : Int32}, pq_Al_get_0 E mc ms Post G c s x0 x1 → ∀ {H : Heap} {locs : List Loc} {ls : Array Slot}, wo_Se E G H → va_S (en_A E) s₀.heap H locs → lx_has ls 2 [(0, 1, .ref x0), (1, 1, .int x1)] → c ≤ mc → s ≤ ms → W p l e R s₀ m args below meth cd H locs c s (MQ below (va_Qq Post (wo_B E) (en_A E)) args s₀ mc ms (en_A E)) (F0 m 0 ls []) := by
  intro G c s x0 x1 hw H locs ls hG hS hl hcc hss
  dsimp only [pq_Al_get_0] at hw
  have hx := hC.1
  have hb := hC.2.1
  refine lv_iload_n hx hb dq_Al_get_0 rfl (lx_at hl 1 rfl) ?_
  refine lv_aload_n hx hb dq_Al_get_1 rfl (lx_at hl 0 rfl) ?_
  obtain ⟨t1, hw⟩ := hw
  refine wo_getI hC fq_Al_48 rfl hG t1 dq_Al_get_2 ?_
  obtain ⟨mc2, ms3, hc1, hs1, hw⟩ := hw
  refine va_calli (wo_runS hC lq_Al_118 (mq_Ob_checkIndex hw) hG hS rfl (lx_sz hl) rfl (Nat.zero_le _) (by decide) dq_Al_get_5 ⟨hc1, hs1⟩) hS (fun _ _ h => h) (fun _ h => h) (fun v5 G4 t H locs ht hvm hw' hB _ _ hS => ?_)
  clear hw
  have hw := hw'
  clear hw'
  replace hG := wo_bk ht hB
  replace hcc := hc1
  replace hss := hs1
  refine lv_pop hx hb dq_Al_get_8 rfl ?_
  refine lv_aload_n hx hb dq_Al_get_9 rfl (lx_at hl 0 rfl) ?_
  refine lv_iload_n hx hb dq_Al_get_10 rfl (lx_at hl 1 rfl) ?_
  obtain ⟨t6, hw⟩ := hw
  obtain ⟨mc7, ms8, hc1, hs1, hw⟩ := hw
  refine va_callq (wo_runV hC lq_Al_123 (mq_Al_elementData hw) hG hS t6 rfl (lx_sz hl) rfl (Nat.zero_le _) (by decide) dq_Al_get_11 ⟨hc1, hs1⟩) hS (fun _ _ h => h) (fun _ h => h) (fun v10 G9 t H locs ht hvm hw' hB _ _ hS => ?_)
  clear hw
  have hw := hw'
  clear hw'
  replace hG := wo_bk ht hB
  replace hcc := hc1
  replace hss := hs1
  exact wo_aret (x := v10) hC rfl hG hS hcc hss hw dq_Al_get_14
set_option maxHeartbeats 4000000 in
theorem mq_Al_get {l : Launch} {E : wo_E} {mc ms : Nat} {Post : Option Nat → wo_W → Prop} {G : wo_W} {x0 : Nat} {x1 : Int32} (hw : pq_Al_get E mc ms Post G x0 x1) : Met l yq_Al_get (Cond.code yq_Al_get prog_29_method_20_code 2 ((Option.some (Jvm.ClassFile.FieldType.object "java/lang/Object"))) :: vw_WG) { frames := 2, cells := mc, slots := ms, locals := 43 } (va_Pc [.ref x0, .int x1] (wo_Ok E G)) (va_Qq Post (wo_B E) (en_A E)) mc ms (en_A E) := by
  unfold pq_Al_get at hw
  exact wo_met [(1, .ref x0), (1, .int x1)] rfl (by decide) (fun q hq => by simp only [List.mem_cons, List.not_mem_nil, or_false] at hq; rcases hq with rfl | rfl <;> first | rfl | exact lx_cR _) (Nat.le_of_ble_eq_true rfl) (fun p e R s m args below meth cd ls hC hG hS hl => tq_Al_get_0 hC hw hG hS (lx_sub hl [0, 1] rfl) (Nat.zero_le _) (Nat.zero_le _))

theorem dq_Al_size_0 : decode prog_29_method_8_code 0 = .ok (.aload_n 0, 1) := by decide +kernel
theorem dq_Al_size_1 : decode prog_29_method_8_code 1 = .ok (.getfield 48, 3) := by decide +kernel
theorem dq_Al_size_4 : decode prog_29_method_8_code 4 = .ok (.ireturn, 1) := by decide +kernel
set_option maxRecDepth 100000 in
def pq_Al_size_0 (E : wo_E) (mc ms : Nat) (Post : Int32 → wo_W → Prop) (G : wo_W) (c s : Nat) (x0 : Nat) : Prop := wo_ty G x0 = 3 ∧ Post (wo_gi G 129 x0) G
def pq_Al_size (E : wo_E) (mc ms : Nat) (Post : Int32 → wo_W → Prop) (G : wo_W) (x0 : Nat) : Prop := pq_Al_size_0 E mc ms Post G 0 0 x0
set_option maxRecDepth 100000 in
set_option maxHeartbeats 4000000 in
theorem tq_Al_size_0 {p : Program} {l : Launch} {e : Env} {R : Room} {s₀ : State} {m : MethodId} {args : Array Value} {below : List Frame} {meth : Method} {cd : Code} {E : wo_E} {mc ms : Nat} {Post : Int32 → wo_W → Prop} (hC : wo_Cx E "java/util/ArrayList" prog_29_method_8_code 1 0 0 ((Option.some Jvm.ClassFile.FieldType.int)) "size" mc ms p R s₀ m args meth cd) : ∀ {G : wo_W} {c s : Nat} {x0 : Nat}, pq_Al_size_0 E mc ms Post G c s x0 → ∀ {H : Heap} {locs : List Loc} {ls : Array Slot}, wo_Se E G H → va_S (en_A E) s₀.heap H locs → lx_has ls 1 [(0, 1, .ref x0)] → c ≤ mc → s ≤ ms → W p l e R s₀ m args below meth cd H locs c s (MQ below (va_Qi Post (wo_B E) (en_A E)) args s₀ mc ms (en_A E)) (F0 m 0 ls []) := by
  intro G c s x0 hw H locs ls hG hS hl hcc hss
  dsimp only [pq_Al_size_0] at hw
  have hx := hC.1
  have hb := hC.2.1
  refine lv_aload_n hx hb dq_Al_size_0 rfl (lx_at hl 0 rfl) ?_
  obtain ⟨t1, hw⟩ := hw
  refine wo_getI hC fq_Al_48 rfl hG t1 dq_Al_size_1 ?_
  exact wo_iret hC hG hS hcc hss hw dq_Al_size_4
set_option maxHeartbeats 4000000 in
theorem mq_Al_size {l : Launch} {E : wo_E} {mc ms : Nat} {Post : Int32 → wo_W → Prop} {G : wo_W} {x0 : Nat} (hw : pq_Al_size E mc ms Post G x0) : Met l yq_Al_size (Cond.code yq_Al_size prog_29_method_8_code 1 ((Option.some Jvm.ClassFile.FieldType.int)) :: vw_WG) { frames := 0, cells := mc, slots := ms, locals := 0 } (va_Pc [.ref x0] (wo_Ok E G)) (va_Qi Post (wo_B E) (en_A E)) mc ms (en_A E) := by
  unfold pq_Al_size at hw
  exact wo_met [(1, .ref x0)] rfl (by decide) (fun q hq => by simp only [List.mem_cons, List.not_mem_nil, or_false] at hq; rcases hq with rfl <;> first | rfl | exact lx_cR _) (Nat.le_of_ble_eq_true rfl) (fun p e R s m args below meth cd ls hC hG hS hl => tq_Al_size_0 hC hw hG hS (lx_sub hl [0] rfl) (Nat.zero_le _) (Nat.zero_le _))

theorem dq_So_fitting_0 : decode prog_10_method_3_code 0 = .ok (.iconst 0, 1) := by decide +kernel
theorem dq_So_fitting_1 : decode prog_10_method_3_code 1 = .ok (.istore_n 2, 1) := by decide +kernel
theorem dq_So_fitting_2 : decode prog_10_method_3_code 2 = .ok (.iload_n 2, 1) := by decide +kernel
theorem dq_So_fitting_3 : decode prog_10_method_3_code 3 = .ok (.aload_n 0, 1) := by decide +kernel
theorem dq_So_fitting_4 : decode prog_10_method_3_code 4 = .ok (.getfield 10, 3) := by decide +kernel
theorem dq_So_fitting_7 : decode prog_10_method_3_code 7 = .ok (.invokevirtual 20, 3) := by decide +kernel
theorem dq_So_fitting_10 : decode prog_10_method_3_code 10 = .ok (.if_icmp .ge 39, 3) := by decide +kernel
theorem dq_So_fitting_13 : decode prog_10_method_3_code 13 = .ok (.aload_n 0, 1) := by decide +kernel
theorem dq_So_fitting_14 : decode prog_10_method_3_code 14 = .ok (.getfield 10, 3) := by decide +kernel
theorem dq_So_fitting_17 : decode prog_10_method_3_code 17 = .ok (.iload_n 2, 1) := by decide +kernel
theorem dq_So_fitting_18 : decode prog_10_method_3_code 18 = .ok (.invokevirtual 24, 3) := by decide +kernel
theorem dq_So_fitting_21 : decode prog_10_method_3_code 21 = .ok (.checkcast 28, 3) := by decide +kernel
theorem dq_So_fitting_24 : decode prog_10_method_3_code 24 = .ok (.aload_n 1, 1) := by decide +kernel
theorem dq_So_fitting_25 : decode prog_10_method_3_code 25 = .ok (.invokevirtual 30, 3) := by decide +kernel
theorem dq_So_fitting_28 : decode prog_10_method_3_code 28 = .ok (.ifCond .eq 15, 3) := by decide +kernel
theorem dq_So_fitting_31 : decode prog_10_method_3_code 31 = .ok (.aload_n 0, 1) := by decide +kernel
theorem dq_So_fitting_32 : decode prog_10_method_3_code 32 = .ok (.getfield 10, 3) := by decide +kernel
theorem dq_So_fitting_35 : decode prog_10_method_3_code 35 = .ok (.iload_n 2, 1) := by decide +kernel
theorem dq_So_fitting_36 : decode prog_10_method_3_code 36 = .ok (.invokevirtual 24, 3) := by decide +kernel
theorem dq_So_fitting_39 : decode prog_10_method_3_code 39 = .ok (.checkcast 28, 3) := by decide +kernel
theorem dq_So_fitting_42 : decode prog_10_method_3_code 42 = .ok (.areturn, 1) := by decide +kernel
theorem dq_So_fitting_43 : decode prog_10_method_3_code 43 = .ok (.iinc 2 1, 3) := by decide +kernel
theorem dq_So_fitting_46 : decode prog_10_method_3_code 46 = .ok (.goto (-44), 3) := by decide +kernel
theorem dq_So_fitting_49 : decode prog_10_method_3_code 49 = .ok (.aconst_null, 1) := by decide +kernel
theorem dq_So_fitting_50 : decode prog_10_method_3_code 50 = .ok (.areturn, 1) := by decide +kernel
set_option maxRecDepth 100000 in
def pq_So_fitting_2 (E : wo_E) (mc ms : Nat) (Post : Option Nat → wo_W → Prop) : Nat → wo_W → Nat → Nat → Nat → Option Nat → Int32 → Prop
  | 0 => fun _ _ _ _ _ _ => False
  | n + 1 => fun G c s x0 x1 x2 => wo_ty G x0 = 6 ∧ ∀ r2 : Option Nat, r2 = wo_gr G 320 x0 → ∃ a4 : Nat, r2 = some a4 ∧ wo_ty G a4 = 3 ∧ ∃ mc6 ms7 : Nat, (c + mc6) ≤ mc ∧ (s + ms7) ≤ ms ∧ pq_Al_size E mc6 ms7 (fun v9 G8 => 
  ((v9 ≤ x2 → Post none G8) ∧
    (¬ v9 ≤ x2 → wo_ty G8 x0 = 6 ∧ ∀ r11 : Option Nat, r11 = wo_gr G8 320 x0 → ∃ a13 : Nat, r11 = some a13 ∧ wo_ty G8 a13 = 3 ∧ ∃ mc15 ms16 : Nat, ((c + mc6) + mc15) ≤ mc ∧ ((s + ms7) + ms16) ≤ ms ∧ pq_Al_get E mc15 ms16 (fun v18 G17 => 
      wo_is G17 14 v18 ∧ ∃ a20 : Nat, v18 = some a20 ∧ wo_ty G17 a20 = 14 ∧ ∃ mc22 ms23 : Nat, (((c + mc6) + mc15) + mc22) ≤ mc ∧ (((s + ms7) + ms16) + ms23) ≤ ms ∧ pq_Sd_fits E mc22 ms23 (fun v25 G24 => 
        ((v25 = (0 : Int32) → pq_So_fitting_2 E mc ms Post n G24 (((c + mc6) + mc15) + mc22) (((s + ms7) + ms16) + ms23) x0 x1 (x2 + (1 : Int32))) ∧
          (¬ v25 = (0 : Int32) → wo_ty G24 x0 = 6 ∧ ∀ r27 : Option Nat, r27 = wo_gr G24 320 x0 → ∃ a29 : Nat, r27 = some a29 ∧ wo_ty G24 a29 = 3 ∧ ∃ mc31 ms32 : Nat, ((((c + mc6) + mc15) + mc22) + mc31) ≤ mc ∧ ((((s + ms7) + ms16) + ms23) + ms32) ≤ ms ∧ pq_Al_get E mc31 ms32 (fun v34 G33 => 
            wo_is G33 14 v34 ∧ Post v34 G33) G24 a29 x2))) G17 a20 x1) G8 a13 x2))) G a4
set_option maxRecDepth 100000 in
def pq_So_fitting_0 (E : wo_E) (mc ms : Nat) (Post : Option Nat → wo_W → Prop) (G : wo_W) (c s : Nat) (x0 : Nat) (x1 : Option Nat) : Prop := ∃ n1 : Nat, pq_So_fitting_2 E mc ms Post n1 G c s x0 x1 (0 : Int32)
def pq_So_fitting (E : wo_E) (mc ms : Nat) (Post : Option Nat → wo_W → Prop) (G : wo_W) (x0 : Nat) (x1 : Option Nat) : Prop := pq_So_fitting_0 E mc ms Post G 0 0 x0 x1
set_option maxRecDepth 100000 in
set_option maxHeartbeats 4000000 in
theorem tq_So_fitting_2 {p : Program} {l : Launch} {e : Env} {R : Room} {s₀ : State} {m : MethodId} {args : Array Value} {below : List Frame} {meth : Method} {cd : Code} {E : wo_E} {mc ms : Nat} {Post : Option Nat → wo_W → Prop} (hC : wo_Cx E "EdgeCache$Store" prog_10_method_3_code 3 4 86 ((Option.some (Jvm.ClassFile.FieldType.object "EdgeCache$Stored"))) "fitting" mc ms p R s₀ m args meth cd) : ∀ n : Nat, ∀ {G : wo_W} {c s : Nat} {x0 : Nat} {x1 : Option Nat} {x2 : Int32}, pq_So_fitting_2 E mc ms Post n G c s x0 x1 x2 → ∀ {H : Heap} {locs : List Loc} {ls : Array Slot}, wo_Se E G H → va_S (en_A E) s₀.heap H locs → lx_has ls 3 [(0, 1, .ref x0), (1, 1, va_rf x1), (2, 1, .int x2)] → c ≤ mc → s ≤ ms → W p l e R s₀ m args below meth cd H locs c s (MQ below (va_Qq Post (wo_B E) (en_A E)) args s₀ mc ms (en_A E)) (F0 m 2 ls []) := by
  intro n
  induction n with
  | zero => intro G c s x0 x1 x2 hw; exact hw.elim
  | succ n ih =>
    intro G c s x0 x1 x2 hw H locs ls hG hS hl hcc hss
    dsimp only [pq_So_fitting_2] at hw
    have hx := hC.1
    have hb := hC.2.1
    refine lv_iload_n hx hb dq_So_fitting_2 rfl (lx_at hl 2 rfl) ?_
    refine lv_aload_n hx hb dq_So_fitting_3 rfl (lx_at hl 0 rfl) ?_
    obtain ⟨t1, hw⟩ := hw
    refine wo_getR hC fq_So_10 rfl hG t1 dq_So_fitting_4 (fun r2 e3 => ?_)
    replace hw := hw r2 e3
    obtain ⟨a4, rfl, hw⟩ := hw
    obtain ⟨t5, hw⟩ := hw
    obtain ⟨mc6, ms7, hc1, hs1, hw⟩ := hw
    refine va_calli (wo_runV hC lq_So_20 (mq_Al_size hw) hG hS t5 rfl (lx_sz hl) rfl (lx_rm (Nat.le_of_ble_eq_true rfl)) (by decide) dq_So_fitting_7 ⟨hc1, hs1⟩) hS (fun _ _ h => h) (fun _ h => h) (fun v9 G8 t H locs ht hvm hw' hB _ _ hS => ?_)
    clear hw
    have hw := hw'
    clear hw'
    replace hG := wo_bk ht hB
    replace hcc := hc1
    replace hss := hs1
    refine lv_icmp_ge (tgt := 49) hx hb dq_So_fitting_10 rfl (fun h => ?_) (fun h => ?_)
    · replace hw := hw.1 h
      refine lv_null hx hb dq_So_fitting_49 ?_
      exact wo_aret (x := none) hC rfl hG hS hcc hss hw dq_So_fitting_50
    · replace hw := hw.2 h
      refine lv_aload_n hx hb dq_So_fitting_13 rfl (lx_at hl 0 rfl) ?_
      obtain ⟨t10, hw⟩ := hw
      refine wo_getR hC fq_So_10 rfl hG t10 dq_So_fitting_14 (fun r11 e12 => ?_)
      replace hw := hw r11 e12
      refine lv_iload_n hx hb dq_So_fitting_17 rfl (lx_at hl 2 rfl) ?_
      obtain ⟨a13, rfl, hw⟩ := hw
      obtain ⟨t14, hw⟩ := hw
      obtain ⟨mc15, ms16, hc1, hs1, hw⟩ := hw
      refine va_callq (wo_runV hC lq_So_24 (mq_Al_get hw) hG hS t14 rfl (lx_sz hl) rfl (Nat.zero_le _) (by decide) dq_So_fitting_18 ⟨hc1, hs1⟩) hS (fun _ _ h => h) (fun _ h => h) (fun v18 G17 t H locs ht hvm hw' hB _ _ hS => ?_)
      clear hw
      have hw := hw'
      clear hw'
      replace hG := wo_bk ht hB
      replace hcc := hc1
      replace hss := hs1
      obtain ⟨h19, hw⟩ := hw
      refine wo_chk (x := v18) (c := 13) hC rfl kq_So_28 (Or.inl rfl) hG h19 dq_So_fitting_21 ?_
      refine lx_aloadR_n hx hb dq_So_fitting_24 rfl (lx_at hl 1 rfl) ?_
      obtain ⟨a20, rfl, hw⟩ := hw
      obtain ⟨t21, hw⟩ := hw
      obtain ⟨mc22, ms23, hc1, hs1, hw⟩ := hw
      refine va_calli (wo_runV hC lq_So_30 (mq_Sd_fits hw) hG hS t21 rfl (lx_sz hl) rfl (Nat.zero_le _) (by decide) dq_So_fitting_25 ⟨hc1, hs1⟩) hS (fun _ _ h => h) (fun _ h => h) (fun v25 G24 t H locs ht hvm hw' hB _ _ hS => ?_)
      clear hw
      have hw := hw'
      clear hw'
      replace hG := wo_bk ht hB
      replace hcc := hc1
      replace hss := hs1
      refine lv_if_eq (tgt := 43) hx hb dq_So_fitting_28 rfl (fun h => ?_) (fun h => ?_)
      · replace hw := hw.1 h
        refine lx_iinc (k := 2) (v := (x2 + (1 : Int32))) (lv' := [(2, 1, .int (x2 + (1 : Int32))), (0, 1, .ref x0), (1, 1, va_rf x1)]) hx hb dq_So_fitting_43 hl rfl rfl (by decide) rfl (fun ls hl' => ?_)
        clear hl
        have hl := hl'
        clear hl'
        refine lv_goto (tgt := 2) hx hb dq_So_fitting_46 rfl ?_
        exact ih hw hG hS (lx_sub hl [1, 2, 0] rfl) hcc hss
      · replace hw := hw.2 h
        refine lv_aload_n hx hb dq_So_fitting_31 rfl (lx_at hl 0 rfl) ?_
        obtain ⟨t26, hw⟩ := hw
        refine wo_getR hC fq_So_10 rfl hG t26 dq_So_fitting_32 (fun r27 e28 => ?_)
        replace hw := hw r27 e28
        refine lv_iload_n hx hb dq_So_fitting_35 rfl (lx_at hl 2 rfl) ?_
        obtain ⟨a29, rfl, hw⟩ := hw
        obtain ⟨t30, hw⟩ := hw
        obtain ⟨mc31, ms32, hc1, hs1, hw⟩ := hw
        refine va_callq (wo_runV hC lq_So_24 (mq_Al_get hw) hG hS t30 rfl (lx_sz hl) rfl (Nat.zero_le _) (by decide) dq_So_fitting_36 ⟨hc1, hs1⟩) hS (fun _ _ h => h) (fun _ h => h) (fun v34 G33 t H locs ht hvm hw' hB _ _ hS => ?_)
        clear hw
        have hw := hw'
        clear hw'
        replace hG := wo_bk ht hB
        replace hcc := hc1
        replace hss := hs1
        obtain ⟨h35, hw⟩ := hw
        refine wo_chk (x := v34) (c := 13) hC rfl kq_So_28 (Or.inl rfl) hG h35 dq_So_fitting_39 ?_
        exact wo_aret (x := v34) hC rfl hG hS hcc hss hw dq_So_fitting_42
set_option maxRecDepth 100000 in
set_option maxHeartbeats 4000000 in
theorem tq_So_fitting_0 {p : Program} {l : Launch} {e : Env} {R : Room} {s₀ : State} {m : MethodId} {args : Array Value} {below : List Frame} {meth : Method} {cd : Code} {E : wo_E} {mc ms : Nat} {Post : Option Nat → wo_W → Prop} (hC : wo_Cx E "EdgeCache$Store" prog_10_method_3_code 3 4 86 ((Option.some (Jvm.ClassFile.FieldType.object "EdgeCache$Stored"))) "fitting" mc ms p R s₀ m args meth cd) : ∀ {G : wo_W} {c s : Nat} {x0 : Nat} {x1 : Option Nat}, pq_So_fitting_0 E mc ms Post G c s x0 x1 → ∀ {H : Heap} {locs : List Loc} {ls : Array Slot}, wo_Se E G H → va_S (en_A E) s₀.heap H locs → lx_has ls 3 [(0, 1, .ref x0), (1, 1, va_rf x1)] → c ≤ mc → s ≤ ms → W p l e R s₀ m args below meth cd H locs c s (MQ below (va_Qq Post (wo_B E) (en_A E)) args s₀ mc ms (en_A E)) (F0 m 0 ls []) := by
  intro G c s x0 x1 hw H locs ls hG hS hl hcc hss
  dsimp only [pq_So_fitting_0] at hw
  have hx := hC.1
  have hb := hC.2.1
  refine lv_iconst (v := (0 : Int32)) hx hb dq_So_fitting_0 rfl ?_
  refine lx_istore_n (lv' := [(2, 1, .int (0 : Int32)), (0, 1, .ref x0), (1, 1, va_rf x1)]) hx hb dq_So_fitting_1 rfl hl (by decide) rfl (fun ls hl' => ?_)
  clear hl
  have hl := hl'
  clear hl'
  obtain ⟨n1, hw⟩ := hw
  exact tq_So_fitting_2 hC n1 hw hG hS (lx_sub hl [1, 2, 0] rfl) hcc hss
set_option maxHeartbeats 4000000 in
theorem mq_So_fitting {l : Launch} {E : wo_E} {mc ms : Nat} {Post : Option Nat → wo_W → Prop} {G : wo_W} {x0 : Nat} {x1 : Option Nat} (hw : pq_So_fitting E mc ms Post G x0 x1) : Met l yq_So_fitting (Cond.code yq_So_fitting prog_10_method_3_code 3 ((Option.some (Jvm.ClassFile.FieldType.object "EdgeCache$Stored"))) :: vw_WG) { frames := 4, cells := mc, slots := ms, locals := 86 } (va_Pc [.ref x0, va_rf x1] (wo_Ok E G)) (va_Qq Post (wo_B E) (en_A E)) mc ms (en_A E) := by
  unfold pq_So_fitting at hw
  exact wo_met [(1, .ref x0), (1, va_rf x1)] rfl (by decide) (fun q hq => by simp only [List.mem_cons, List.not_mem_nil, or_false] at hq; rcases hq with rfl | rfl <;> first | rfl | exact lx_cR _) (Nat.le_of_ble_eq_true rfl) (fun p e R s m args below meth cd ls hC hG hS hl => tq_So_fitting_0 hC hw hG hS (lx_sub hl [0, 1] rfl) (Nat.zero_le _) (Nat.zero_le _))

theorem dq_Ar_copyOf_aOIO_0 : decode prog_30_method_120_code 0 = .ok (.aload_n 2, 1) := by decide +kernel
theorem dq_Ar_copyOf_aOIO_1 : decode prog_30_method_120_code 1 = .ok (.ldc 110, 2) := by decide +kernel
theorem dq_Ar_copyOf_aOIO_3 : decode prog_30_method_120_code 3 = .ok (.if_acmp .ne 10, 3) := by decide +kernel
theorem dq_Ar_copyOf_aOIO_6 : decode prog_30_method_120_code 6 = .ok (.iload_n 1, 1) := by decide +kernel
theorem dq_Ar_copyOf_aOIO_7 : decode prog_30_method_120_code 7 = .ok (.anewarray 2, 3) := by decide +kernel
theorem dq_Ar_copyOf_aOIO_10 : decode prog_30_method_120_code 10 = .ok (.goto 14, 3) := by decide +kernel
theorem dq_Ar_copyOf_aOIO_24 : decode prog_30_method_120_code 24 = .ok (.astore_n 3, 1) := by decide +kernel
theorem dq_Ar_copyOf_aOIO_25 : decode prog_30_method_120_code 25 = .ok (.aload_n 0, 1) := by decide +kernel
theorem dq_Ar_copyOf_aOIO_26 : decode prog_30_method_120_code 26 = .ok (.iconst 0, 1) := by decide +kernel
theorem dq_Ar_copyOf_aOIO_27 : decode prog_30_method_120_code 27 = .ok (.aload_n 3, 1) := by decide +kernel
theorem dq_Ar_copyOf_aOIO_28 : decode prog_30_method_120_code 28 = .ok (.iconst 0, 1) := by decide +kernel
theorem dq_Ar_copyOf_aOIO_29 : decode prog_30_method_120_code 29 = .ok (.aload_n 0, 1) := by decide +kernel
theorem dq_Ar_copyOf_aOIO_30 : decode prog_30_method_120_code 30 = .ok (.arraylength, 1) := by decide +kernel
theorem dq_Ar_copyOf_aOIO_31 : decode prog_30_method_120_code 31 = .ok (.iload_n 1, 1) := by decide +kernel
theorem dq_Ar_copyOf_aOIO_32 : decode prog_30_method_120_code 32 = .ok (.invokestatic 304, 3) := by decide +kernel
theorem dq_Ar_copyOf_aOIO_35 : decode prog_30_method_120_code 35 = .ok (.invokestatic 150, 3) := by decide +kernel
theorem dq_Ar_copyOf_aOIO_38 : decode prog_30_method_120_code 38 = .ok (.aload_n 3, 1) := by decide +kernel
theorem dq_Ar_copyOf_aOIO_39 : decode prog_30_method_120_code 39 = .ok (.areturn, 1) := by decide +kernel
set_option maxRecDepth 100000 in
def pq_Ar_copyOf_aOIO_0 (E : wo_E) (mc ms : Nat) (Post : Option Nat → wo_W → Prop) (G : wo_W) (c s : Nat) (x0 : Option Nat) (x1 : Int32) (x2 : Option Nat) : Prop := ((¬ x2 = (some (en_cls E)) → False) ∧
  (x2 = (some (en_cls E)) → ¬ x1 < 0 ∧ x1.toNatClampNeg ≤ 65536 ∧ (c + 1) ≤ mc ∧ (s + x1.toNatClampNeg) ≤ ms ∧ ∀ q5 : Nat, wo_ty G q5 = 0 → en_bs E ≤ q5 → ∀ G8 : wo_W, G8 = wo_na G q5 71 x1.toNatClampNeg → 
    ∃ a10 : Nat, x0 = some a10 ∧ wo_ty G8 a10 = 71 ∧ ¬ (0 : Int32) < 0 ∧ ¬ (0 : Int32) < 0 ∧ ¬ (wo_min (nI (wo_len G8 a10)) x1) < 0 ∧ (0 : Int32).toNatClampNeg + (wo_min (nI (wo_len G8 a10)) x1).toNatClampNeg ≤ wo_len G8 a10 ∧ (0 : Int32).toNatClampNeg + (wo_min (nI (wo_len G8 a10)) x1).toNatClampNeg ≤ wo_len G8 q5 ∧ en_bs E ≤ q5 ∧ (∀ i : Nat, i < (wo_min (nI (wo_len G8 a10)) x1).toNatClampNeg → wo_may G8 7 (wo_er G8 a10 ((0 : Int32).toNatClampNeg + i))) ∧ ∀ G19 : wo_W, G19 = wo_cpR G8 a10 q5 (0 : Int32).toNatClampNeg (0 : Int32).toNatClampNeg (wo_min (nI (wo_len G8 a10)) x1).toNatClampNeg → 
    Post (some q5) G19))
def pq_Ar_copyOf_aOIO (E : wo_E) (mc ms : Nat) (Post : Option Nat → wo_W → Prop) (G : wo_W) (x0 : Option Nat) (x1 : Int32) (x2 : Option Nat) : Prop := pq_Ar_copyOf_aOIO_0 E mc ms Post G 0 0 x0 x1 x2
set_option maxRecDepth 100000 in
set_option maxHeartbeats 4000000 in
theorem tq_Ar_copyOf_aOIO_0 {p : Program} {l : Launch} {e : Env} {R : Room} {s₀ : State} {m : MethodId} {args : Array Value} {below : List Frame} {meth : Method} {cd : Code} {E : wo_E} {mc ms : Nat} {Post : Option Nat → wo_W → Prop} (hC : wo_Cx E "java/util/Arrays" prog_30_method_120_code 4 1 28 ((Option.some (Jvm.ClassFile.FieldType.array (Jvm.ClassFile.FieldType.object "java/lang/Object")))) "copyOf" mc ms p R s₀ m args meth cd) : ∀ {G : wo_W} {c s : Nat} {x0 : Option Nat} {x1 : Int32} {x2 : Option Nat}, pq_Ar_copyOf_aOIO_0 E mc ms Post G c s x0 x1 x2 → ∀ {H : Heap} {locs : List Loc} {ls : Array Slot}, wo_Se E G H → va_S (en_A E) s₀.heap H locs → lx_has ls 4 [(0, 1, va_rf x0), (1, 1, .int x1), (2, 1, va_rf x2)] → c ≤ mc → s ≤ ms → W p l e R s₀ m args below meth cd H locs c s (MQ below (va_Qq Post (wo_B E) (en_A E)) args s₀ mc ms (en_A E)) (F0 m 0 ls []) := by
  intro G c s x0 x1 x2 hw H locs ls hG hS hl hcc hss
  dsimp only [pq_Ar_copyOf_aOIO_0] at hw
  have hx := hC.1
  have hb := hC.2.1
  refine lx_aloadR_n hx hb dq_Ar_copyOf_aOIO_0 rfl (lx_at hl 2 rfl) ?_
  refine wo_ldcK hC kq_Ar_110 dq_Ar_copyOf_aOIO_1 ?_
  refine lv_acmp_ne (rx := x2) (ry := (some (en_cls E))) (tgt := 13) hx hb dq_Ar_copyOf_aOIO_3 rfl (fun h => ?_) (fun h => ?_)
  · replace hw := hw.1 h
    exact hw.elim
  · replace hw := hw.2 h
    refine lv_iload_n hx hb dq_Ar_copyOf_aOIO_6 rfl (lx_at hl 1 rfl) ?_
    obtain ⟨h1, hw⟩ := hw
    obtain ⟨h2, hw⟩ := hw
    obtain ⟨h3, hw⟩ := hw
    obtain ⟨h4, hw⟩ := hw
    refine wo_newq (j := 7) hC rfl (by decide) kq_Ar_2 hG hS h1 h2 h3 h4 dq_Ar_copyOf_aOIO_7 (fun q5 G8 H z6 b7 e9 hG hS => ?_)
    replace hw := hw q5 z6 b7 G8 e9
    replace hcc := h3
    replace hss := h4
    refine lv_goto (tgt := 24) hx hb dq_Ar_copyOf_aOIO_10 rfl ?_
    refine lx_astore_n (lv' := [(3, 1, .ref q5), (0, 1, va_rf x0), (1, 1, .int x1), (2, 1, va_rf x2)]) hx hb dq_Ar_copyOf_aOIO_24 rfl hl (by decide) rfl (fun ls hl' => ?_)
    clear hl
    have hl := hl'
    clear hl'
    refine lx_aloadR_n hx hb dq_Ar_copyOf_aOIO_25 rfl (lx_at hl 1 rfl) ?_
    refine lv_iconst (v := (0 : Int32)) hx hb dq_Ar_copyOf_aOIO_26 rfl ?_
    refine lv_aload_n hx hb dq_Ar_copyOf_aOIO_27 rfl (lx_at hl 0 rfl) ?_
    refine lv_iconst (v := (0 : Int32)) hx hb dq_Ar_copyOf_aOIO_28 rfl ?_
    refine lx_aloadR_n hx hb dq_Ar_copyOf_aOIO_29 rfl (lx_at hl 1 rfl) ?_
    obtain ⟨a10, rfl, hw⟩ := hw
    obtain ⟨t11, hw⟩ := hw
    refine wo_alen (j := 7) hC rfl hG t11 dq_Ar_copyOf_aOIO_30 ?_
    refine lv_iload_n hx hb dq_Ar_copyOf_aOIO_31 rfl (lx_at hl 2 rfl) ?_
    refine wo_mmin hC lq_Ar_304 (lx_sz hl) hcc hss (by decide) (lx_rk (Nat.le_of_ble_eq_true rfl)) dq_Ar_copyOf_aOIO_32 ?_
    obtain ⟨h12, hw⟩ := hw
    obtain ⟨h13, hw⟩ := hw
    obtain ⟨h14, hw⟩ := hw
    obtain ⟨h15, hw⟩ := hw
    obtain ⟨h16, hw⟩ := hw
    obtain ⟨h17, hw⟩ := hw
    obtain ⟨h18, hw⟩ := hw
    refine wo_cpyR (j := 7) hC rfl lq_Ar_150 (lx_sz hl) hG hS t11 (ty_naq e9) h12 h13 h14 h15 h16 h17 h18 (by decide) (lx_rk (Nat.le_of_ble_eq_true rfl)) dq_Ar_copyOf_aOIO_35 (fun G19 H locs e20 hG hS => ?_)
    replace hw := hw G19 e20
    refine lv_aload_n hx hb dq_Ar_copyOf_aOIO_38 rfl (lx_at hl 0 rfl) ?_
    exact wo_aret (x := (some q5)) hC rfl hG hS hcc hss hw dq_Ar_copyOf_aOIO_39
set_option maxHeartbeats 4000000 in
theorem mq_Ar_copyOf_aOIO {l : Launch} {E : wo_E} {mc ms : Nat} {Post : Option Nat → wo_W → Prop} {G : wo_W} {x0 : Option Nat} {x1 : Int32} {x2 : Option Nat} (hw : pq_Ar_copyOf_aOIO E mc ms Post G x0 x1 x2) : Met l yq_Ar_copyOf_aOIO (Cond.code yq_Ar_copyOf_aOIO prog_30_method_120_code 4 ((Option.some (Jvm.ClassFile.FieldType.array (Jvm.ClassFile.FieldType.object "java/lang/Object")))) :: vw_WG) { frames := 1, cells := mc, slots := ms, locals := 28 } (va_Pc [va_rf x0, .int x1, va_rf x2] (wo_Ok E G)) (va_Qq Post (wo_B E) (en_A E)) mc ms (en_A E) := by
  unfold pq_Ar_copyOf_aOIO at hw
  exact wo_met [(1, va_rf x0), (1, .int x1), (1, va_rf x2)] rfl (by decide) (fun q hq => by simp only [List.mem_cons, List.not_mem_nil, or_false] at hq; rcases hq with rfl | rfl | rfl <;> first | rfl | exact lx_cR _) (Nat.le_of_ble_eq_true rfl) (fun p e R s m args below meth cd ls hC hG hS hl => tq_Ar_copyOf_aOIO_0 hC hw hG hS (lx_sub hl [0, 1, 2] rfl) (Nat.zero_le _) (Nat.zero_le _))

theorem dq_Ar_copyOf_aOI_0 : decode prog_30_method_119_code 0 = .ok (.aload_n 0, 1) := by decide +kernel
theorem dq_Ar_copyOf_aOI_1 : decode prog_30_method_119_code 1 = .ok (.iload_n 1, 1) := by decide +kernel
theorem dq_Ar_copyOf_aOI_2 : decode prog_30_method_119_code 2 = .ok (.aload_n 0, 1) := by decide +kernel
theorem dq_Ar_copyOf_aOI_3 : decode prog_30_method_119_code 3 = .ok (.invokevirtual 86, 3) := by decide +kernel
theorem dq_Ar_copyOf_aOI_6 : decode prog_30_method_119_code 6 = .ok (.invokestatic 300, 3) := by decide +kernel
theorem dq_Ar_copyOf_aOI_9 : decode prog_30_method_119_code 9 = .ok (.areturn, 1) := by decide +kernel
set_option maxRecDepth 100000 in
def pq_Ar_copyOf_aOI_0 (E : wo_E) (mc ms : Nat) (Post : Option Nat → wo_W → Prop) (G : wo_W) (c s : Nat) (x0 : Option Nat) (x1 : Int32) : Prop := ∃ a1 : Nat, x0 = some a1 ∧ wo_ty G a1 = 71 ∧ en_bs E ≤ a1 ∧ ∃ mc4 ms5 : Nat, (c + mc4) ≤ mc ∧ (s + ms5) ≤ ms ∧ pq_Ar_copyOf_aOIO E mc4 ms5 (fun v7 G6 => 
  Post v7 G6) G (some a1) x1 (some (en_cls E))
def pq_Ar_copyOf_aOI (E : wo_E) (mc ms : Nat) (Post : Option Nat → wo_W → Prop) (G : wo_W) (x0 : Option Nat) (x1 : Int32) : Prop := pq_Ar_copyOf_aOI_0 E mc ms Post G 0 0 x0 x1
set_option maxRecDepth 100000 in
set_option maxHeartbeats 4000000 in
theorem tq_Ar_copyOf_aOI_0 {p : Program} {l : Launch} {e : Env} {R : Room} {s₀ : State} {m : MethodId} {args : Array Value} {below : List Frame} {meth : Method} {cd : Code} {E : wo_E} {mc ms : Nat} {Post : Option Nat → wo_W → Prop} (hC : wo_Cx E "java/util/Arrays" prog_30_method_119_code 2 2 51 ((Option.some (Jvm.ClassFile.FieldType.array (Jvm.ClassFile.FieldType.object "java/lang/Object")))) "copyOf" mc ms p R s₀ m args meth cd) : ∀ {G : wo_W} {c s : Nat} {x0 : Option Nat} {x1 : Int32}, pq_Ar_copyOf_aOI_0 E mc ms Post G c s x0 x1 → ∀ {H : Heap} {locs : List Loc} {ls : Array Slot}, wo_Se E G H → va_S (en_A E) s₀.heap H locs → lx_has ls 2 [(0, 1, va_rf x0), (1, 1, .int x1)] → c ≤ mc → s ≤ ms → W p l e R s₀ m args below meth cd H locs c s (MQ below (va_Qq Post (wo_B E) (en_A E)) args s₀ mc ms (en_A E)) (F0 m 0 ls []) := by
  intro G c s x0 x1 hw H locs ls hG hS hl hcc hss
  dsimp only [pq_Ar_copyOf_aOI_0] at hw
  have hx := hC.1
  have hb := hC.2.1
  refine lx_aloadR_n hx hb dq_Ar_copyOf_aOI_0 rfl (lx_at hl 0 rfl) ?_
  refine lv_iload_n hx hb dq_Ar_copyOf_aOI_1 rfl (lx_at hl 1 rfl) ?_
  refine lx_aloadR_n hx hb dq_Ar_copyOf_aOI_2 rfl (lx_at hl 0 rfl) ?_
  obtain ⟨a1, rfl, hw⟩ := hw
  obtain ⟨t2, hw⟩ := hw
  obtain ⟨h3, hw⟩ := hw
  refine wo_getC (j := 7) hC rfl lq_Ar_86 (lx_sz hl) hG t2 h3 (by decide) (lx_rk (Nat.le_of_ble_eq_true rfl)) dq_Ar_copyOf_aOI_3 ?_
  obtain ⟨mc4, ms5, hc1, hs1, hw⟩ := hw
  refine va_callq (wo_runS hC lq_Ar_300 (mq_Ar_copyOf_aOIO hw) hG hS rfl (lx_sz hl) rfl (Nat.zero_le _) (by decide) dq_Ar_copyOf_aOI_6 ⟨hc1, hs1⟩) hS (fun _ _ h => h) (fun _ h => h) (fun v7 G6 t H locs ht hvm hw' hB _ _ hS => ?_)
  clear hw
  have hw := hw'
  clear hw'
  replace hG := wo_bk ht hB
  replace hcc := hc1
  replace hss := hs1
  exact wo_aret (x := v7) hC rfl hG hS hcc hss hw dq_Ar_copyOf_aOI_9
set_option maxHeartbeats 4000000 in
theorem mq_Ar_copyOf_aOI {l : Launch} {E : wo_E} {mc ms : Nat} {Post : Option Nat → wo_W → Prop} {G : wo_W} {x0 : Option Nat} {x1 : Int32} (hw : pq_Ar_copyOf_aOI E mc ms Post G x0 x1) : Met l yq_Ar_copyOf_aOI (Cond.code yq_Ar_copyOf_aOI prog_30_method_119_code 2 ((Option.some (Jvm.ClassFile.FieldType.array (Jvm.ClassFile.FieldType.object "java/lang/Object")))) :: vw_WG) { frames := 2, cells := mc, slots := ms, locals := 51 } (va_Pc [va_rf x0, .int x1] (wo_Ok E G)) (va_Qq Post (wo_B E) (en_A E)) mc ms (en_A E) := by
  unfold pq_Ar_copyOf_aOI at hw
  exact wo_met [(1, va_rf x0), (1, .int x1)] rfl (by decide) (fun q hq => by simp only [List.mem_cons, List.not_mem_nil, or_false] at hq; rcases hq with rfl | rfl <;> first | rfl | exact lx_cR _) (Nat.le_of_ble_eq_true rfl) (fun p e R s m args below meth cd ls hC hG hS hl => tq_Ar_copyOf_aOI_0 hC hw hG hS (lx_sub hl [0, 1] rfl) (Nat.zero_le _) (Nat.zero_le _))
