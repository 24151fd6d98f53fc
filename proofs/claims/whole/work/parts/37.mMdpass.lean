theorem dq_Md_pass_0 : decode prog_14_method_56_code 0 = .ok (.iload_n 1, 1) := by decide +kernel
theorem dq_Md_pass_1 : decode prog_14_method_56_code 1 = .ok (.ifCond .lt 10, 3) := by decide +kernel
theorem dq_Md_pass_4 : decode prog_14_method_56_code 4 = .ok (.iload_n 1, 1) := by decide +kernel
theorem dq_Md_pass_5 : decode prog_14_method_56_code 5 = .ok (.sipush 1000, 3) := by decide +kernel
theorem dq_Md_pass_8 : decode prog_14_method_56_code 8 = .ok (.if_icmp .le 5, 3) := by decide +kernel
theorem dq_Md_pass_11 : decode prog_14_method_56_code 11 = .ok (.iconst (-1), 1) := by decide +kernel
theorem dq_Md_pass_12 : decode prog_14_method_56_code 12 = .ok (.ireturn, 1) := by decide +kernel
theorem dq_Md_pass_13 : decode prog_14_method_56_code 13 = .ok (.aload_n 0, 1) := by decide +kernel
theorem dq_Md_pass_14 : decode prog_14_method_56_code 14 = .ok (.dup, 1) := by decide +kernel
theorem dq_Md_pass_15 : decode prog_14_method_56_code 15 = .ok (.getfield 349, 3) := by decide +kernel
theorem dq_Md_pass_18 : decode prog_14_method_56_code 18 = .ok (.iload_n 1, 1) := by decide +kernel
theorem dq_Md_pass_19 : decode prog_14_method_56_code 19 = .ok (.iadd, 1) := by decide +kernel
theorem dq_Md_pass_20 : decode prog_14_method_56_code 20 = .ok (.putfield 349, 3) := by decide +kernel
theorem dq_Md_pass_23 : decode prog_14_method_56_code 23 = .ok (.iconst 0, 1) := by decide +kernel
theorem dq_Md_pass_24 : decode prog_14_method_56_code 24 = .ok (.istore_n 2, 1) := by decide +kernel
theorem dq_Md_pass_25 : decode prog_14_method_56_code 25 = .ok (.iconst 0, 1) := by decide +kernel
theorem dq_Md_pass_26 : decode prog_14_method_56_code 26 = .ok (.istore_n 3, 1) := by decide +kernel
theorem dq_Md_pass_27 : decode prog_14_method_56_code 27 = .ok (.iload_n 3, 1) := by decide +kernel
theorem dq_Md_pass_28 : decode prog_14_method_56_code 28 = .ok (.iconst 2, 1) := by decide +kernel
theorem dq_Md_pass_29 : decode prog_14_method_56_code 29 = .ok (.if_icmp .ge 75, 3) := by decide +kernel
theorem dq_Md_pass_32 : decode prog_14_method_56_code 32 = .ok (.aload_n 0, 1) := by decide +kernel
theorem dq_Md_pass_33 : decode prog_14_method_56_code 33 = .ok (.iload_n 3, 1) := by decide +kernel
theorem dq_Md_pass_34 : decode prog_14_method_56_code 34 = .ok (.invokevirtual 373, 3) := by decide +kernel
theorem dq_Md_pass_37 : decode prog_14_method_56_code 37 = .ok (.istore 4, 2) := by decide +kernel
theorem dq_Md_pass_39 : decode prog_14_method_56_code 39 = .ok (.iload 4, 2) := by decide +kernel
theorem dq_Md_pass_41 : decode prog_14_method_56_code 41 = .ok (.ifCond .lt 57, 3) := by decide +kernel
theorem dq_Md_pass_44 : decode prog_14_method_56_code 44 = .ok (.aload_n 0, 1) := by decide +kernel
theorem dq_Md_pass_45 : decode prog_14_method_56_code 45 = .ok (.getfield 349, 3) := by decide +kernel
theorem dq_Md_pass_48 : decode prog_14_method_56_code 48 = .ok (.aload_n 0, 1) := by decide +kernel
theorem dq_Md_pass_49 : decode prog_14_method_56_code 49 = .ok (.getfield 84, 3) := by decide +kernel
theorem dq_Md_pass_52 : decode prog_14_method_56_code 52 = .ok (.iload 4, 2) := by decide +kernel
theorem dq_Md_pass_54 : decode prog_14_method_56_code 54 = .ok (.iaload, 1) := by decide +kernel
theorem dq_Md_pass_55 : decode prog_14_method_56_code 55 = .ok (.isub, 1) := by decide +kernel
theorem dq_Md_pass_56 : decode prog_14_method_56_code 56 = .ok (.bipush 10, 2) := by decide +kernel
theorem dq_Md_pass_58 : decode prog_14_method_56_code 58 = .ok (.if_icmp .lt 40, 3) := by decide +kernel
theorem dq_Md_pass_61 : decode prog_14_method_56_code 61 = .ok (.aload_n 0, 1) := by decide +kernel
theorem dq_Md_pass_62 : decode prog_14_method_56_code 62 = .ok (.sipush 504, 3) := by decide +kernel
theorem dq_Md_pass_65 : decode prog_14_method_56_code 65 = .ok (.invokevirtual 190, 3) := by decide +kernel
theorem dq_Md_pass_68 : decode prog_14_method_56_code 68 = .ok (.pop, 1) := by decide +kernel
theorem dq_Md_pass_69 : decode prog_14_method_56_code 69 = .ok (.aload_n 0, 1) := by decide +kernel
theorem dq_Md_pass_70 : decode prog_14_method_56_code 70 = .ok (.getfield 69, 3) := by decide +kernel
theorem dq_Md_pass_73 : decode prog_14_method_56_code 73 = .ok (.iload 4, 2) := by decide +kernel
theorem dq_Md_pass_75 : decode prog_14_method_56_code 75 = .ok (.iconst 0, 1) := by decide +kernel
theorem dq_Md_pass_76 : decode prog_14_method_56_code 76 = .ok (.iastore, 1) := by decide +kernel
theorem dq_Md_pass_77 : decode prog_14_method_56_code 77 = .ok (.aload_n 0, 1) := by decide +kernel
theorem dq_Md_pass_78 : decode prog_14_method_56_code 78 = .ok (.aload_n 0, 1) := by decide +kernel
theorem dq_Md_pass_79 : decode prog_14_method_56_code 79 = .ok (.getfield 72, 3) := by decide +kernel
theorem dq_Md_pass_82 : decode prog_14_method_56_code 82 = .ok (.iload 4, 2) := by decide +kernel
theorem dq_Md_pass_84 : decode prog_14_method_56_code 84 = .ok (.iaload, 1) := by decide +kernel
theorem dq_Md_pass_85 : decode prog_14_method_56_code 85 = .ok (.aload_n 0, 1) := by decide +kernel
theorem dq_Md_pass_86 : decode prog_14_method_56_code 86 = .ok (.getfield 75, 3) := by decide +kernel
theorem dq_Md_pass_89 : decode prog_14_method_56_code 89 = .ok (.iload 4, 2) := by decide +kernel
theorem dq_Md_pass_91 : decode prog_14_method_56_code 91 = .ok (.iaload, 1) := by decide +kernel
theorem dq_Md_pass_92 : decode prog_14_method_56_code 92 = .ok (.invokevirtual 193, 3) := by decide +kernel
theorem dq_Md_pass_95 : decode prog_14_method_56_code 95 = .ok (.iinc 2 1, 3) := by decide +kernel
theorem dq_Md_pass_98 : decode prog_14_method_56_code 98 = .ok (.iinc 3 1, 3) := by decide +kernel
theorem dq_Md_pass_101 : decode prog_14_method_56_code 101 = .ok (.goto (-74), 3) := by decide +kernel
theorem dq_Md_pass_104 : decode prog_14_method_56_code 104 = .ok (.aload_n 0, 1) := by decide +kernel
theorem dq_Md_pass_105 : decode prog_14_method_56_code 105 = .ok (.invokevirtual 370, 3) := by decide +kernel
theorem dq_Md_pass_108 : decode prog_14_method_56_code 108 = .ok (.iload_n 2, 1) := by decide +kernel
theorem dq_Md_pass_109 : decode prog_14_method_56_code 109 = .ok (.ireturn, 1) := by decide +kernel
set_option maxRecDepth 100000 in
def pq_Md_pass_11 (E : wo_E) (mc ms : Nat) (Post : Int32 → wo_W → Prop) (G : wo_W) (c s : Nat) : Prop := Post (-1 : Int32) G
set_option maxRecDepth 100000 in
def pq_Md_pass_98 (E : wo_E) (mc ms : Nat) (Post : Int32 → wo_W → Prop) (k27 : wo_W → Nat → Nat → Nat → Int32 → Int32 → Prop) (G : wo_W) (c s : Nat) (x0 : Nat) (x2 : Int32) (x3 : Int32) : Prop := k27 G c s x0 x2 (x3 + (1 : Int32))
set_option maxRecDepth 100000 in
def pq_Md_pass_27 (E : wo_E) (mc ms : Nat) (Post : Int32 → wo_W → Prop) : Nat → wo_W → Nat → Nat → Nat → Int32 → Int32 → Prop
  | 0 => fun _ _ _ _ _ _ => False
  | n + 1 => fun G c s x0 x2 x3 => (((2 : Int32) ≤ x3 → wo_ty G x0 = 15 ∧ ∃ mc2 ms3 : Nat, (c + mc2) ≤ mc ∧ (s + ms3) ≤ ms ∧ pq_Md_send E mc2 ms3 (fun G4 => 
    Post x2 G4) G x0) ∧
  (¬ (2 : Int32) ≤ x3 → wo_ty G x0 = 15 ∧ ∃ mc6 ms7 : Nat, (c + mc6) ≤ mc ∧ (s + ms7) ≤ ms ∧ pq_Md_jobOn E mc6 ms7 (fun v9 G8 => 
    ((v9 < (0 : Int32) → pq_Md_pass_98 E mc ms Post (pq_Md_pass_27 E mc ms Post n) G8 (c + mc6) (s + ms7) x0 x2 x3) ∧
      (¬ v9 < (0 : Int32) → wo_ty G8 x0 = 15 ∧ ∀ r11 : Option Nat, r11 = wo_gr G8 923 x0 → ∃ a13 : Nat, r11 = some a13 ∧ wo_ty G8 a13 = 66 ∧ vp_in v9 (wo_len G8 a13) ∧ ((((wo_gi G8 956 x0) - (wo_ei G8 a13 v9.toNatClampNeg)) < (10 : Int32) → pq_Md_pass_98 E mc ms Post (pq_Md_pass_27 E mc ms Post n) G8 (c + mc6) (s + ms7) x0 x2 x3) ∧
        (¬ ((wo_gi G8 956 x0) - (wo_ei G8 a13 v9.toNatClampNeg)) < (10 : Int32) → ∃ mc16 ms17 : Nat, ((c + mc6) + mc16) ≤ mc ∧ ((s + ms7) + ms17) ≤ ms ∧ pq_Md_plain E mc16 ms17 (fun v19 G18 => 
          wo_ty G18 x0 = 15 ∧ ∀ r21 : Option Nat, r21 = wo_gr G18 918 x0 → ∃ a23 : Nat, r21 = some a23 ∧ wo_ty G18 a23 = 66 ∧ vp_in v9 (wo_len G18 a23) ∧ en_bs E ≤ a23 ∧ ∀ G27 : wo_W, G27 = wo_sei G18 a23 v9.toNatClampNeg (0 : Int32) → 
            ∀ r29 : Option Nat, r29 = wo_gr G27 919 x0 → ∃ a31 : Nat, r29 = some a31 ∧ wo_ty G27 a31 = 66 ∧ vp_in v9 (wo_len G27 a31) ∧ ∀ r34 : Option Nat, r34 = wo_gr G27 920 x0 → ∃ a36 : Nat, r34 = some a36 ∧ wo_ty G27 a36 = 66 ∧ vp_in v9 (wo_len G27 a36) ∧ ∃ mc39 ms40 : Nat, (((c + mc6) + mc16) + mc39) ≤ mc ∧ (((s + ms7) + ms17) + ms40) ≤ ms ∧ pq_Md_finish E mc39 ms40 (fun G41 => 
            pq_Md_pass_98 E mc ms Post (pq_Md_pass_27 E mc ms Post n) G41 (((c + mc6) + mc16) + mc39) (((s + ms7) + ms17) + ms40) x0 (x2 + (1 : Int32)) x3) G27 x0 (wo_ei G27 a31 v9.toNatClampNeg) (wo_ei G27 a36 v9.toNatClampNeg)) G8 x0 (504 : Int32)))))) G x0 x3))
set_option maxRecDepth 100000 in
def pq_Md_pass_0 (E : wo_E) (mc ms : Nat) (Post : Int32 → wo_W → Prop) (G : wo_W) (c s : Nat) (x0 : Nat) (x1 : Int32) : Prop := ((x1 < (0 : Int32) → pq_Md_pass_11 E mc ms Post G c s) ∧
  (¬ x1 < (0 : Int32) → ((x1 ≤ (1000 : Int32) → wo_ty G x0 = 15 ∧ en_bs E ≤ x0 ∧ ∀ G3 : wo_W, G3 = wo_si G 956 x0 ((wo_gi G 956 x0) + x1) → 
      ∃ n1 : Nat, pq_Md_pass_27 E mc ms Post n1 G3 c s x0 (0 : Int32) (0 : Int32)) ∧
    (¬ x1 ≤ (1000 : Int32) → pq_Md_pass_11 E mc ms Post G c s))))
def pq_Md_pass (E : wo_E) (mc ms : Nat) (Post : Int32 → wo_W → Prop) (G : wo_W) (x0 : Nat) (x1 : Int32) : Prop := pq_Md_pass_0 E mc ms Post G 0 0 x0 x1
set_option maxRecDepth 100000 in
set_option maxHeartbeats 4000000 in
theorem tq_Md_pass_11 {p : Program} {l : Launch} {e : Env} {R : Room} {s₀ : State} {m : MethodId} {args : Array Value} {below : List Frame} {meth : Method} {cd : Code} {E : wo_E} {mc ms : Nat} {Post : Int32 → wo_W → Prop} (hC : wo_Cx E "EdgeCacheModel" prog_14_method_56_code 5 4 86 ((Option.some Jvm.ClassFile.FieldType.int)) "pass" mc ms p R s₀ m args meth cd) : ∀ {G : wo_W} {c s : Nat}, pq_Md_pass_11 E mc ms Post G c s → ∀ {H : Heap} {locs : List Loc} {ls : Array Slot}, wo_Se E G H → va_S (en_A E) s₀.heap H locs → lx_has ls 5 [] → c ≤ mc → s ≤ ms → W p l e R s₀ m args below meth cd H locs c s (MQ below (va_Qi Post (wo_B E) (en_A E)) args s₀ mc ms (en_A E)) (F0 m 11 ls []) := by
  intro G c s hw H locs ls hG hS hl hcc hss
  dsimp only [pq_Md_pass_11] at hw
  have hx := hC.1
  have hb := hC.2.1
  refine lv_iconst (v := (-1 : Int32)) hx hb dq_Md_pass_11 rfl ?_
  exact wo_iret hC hG hS hcc hss hw dq_Md_pass_12
set_option maxRecDepth 100000 in
set_option maxHeartbeats 4000000 in
theorem tq_Md_pass_98 {p : Program} {l : Launch} {e : Env} {R : Room} {s₀ : State} {m : MethodId} {args : Array Value} {below : List Frame} {meth : Method} {cd : Code} {E : wo_E} {mc ms : Nat} {Post : Int32 → wo_W → Prop} {k27 : wo_W → Nat → Nat → Nat → Int32 → Int32 → Prop} (hC : wo_Cx E "EdgeCacheModel" prog_14_method_56_code 5 4 86 ((Option.some Jvm.ClassFile.FieldType.int)) "pass" mc ms p R s₀ m args meth cd) (hk27 : ∀ {G : wo_W} {c s : Nat} {x0 : Nat} {x2 : Int32} {x3 : Int32}, k27 G c s x0 x2 x3 → ∀ {H : Heap} {locs : List Loc} {ls : Array Slot}, wo_Se E G H → va_S (en_A E) s₀.heap H locs → lx_has ls 5 [(0, 1, .ref x0), (2, 1, .int x2), (3, 1, .int x3)] → c ≤ mc → s ≤ ms → W p l e R s₀ m args below meth cd H locs c s (MQ below (va_Qi Post (wo_B E) (en_A E)) args s₀ mc ms (en_A E)) (F0 m 27 ls [])) : ∀ {G : wo_W} {c s : Nat} {x0 : Nat} {x2 : Int32} {x3 : Int32}, pq_Md_pass_98 E mc ms Post k27 G c s x0 x2 x3 → ∀ {H : Heap} {locs : List Loc} {ls : Array Slot}, wo_Se E G H → va_S (en_A E) s₀.heap H locs → lx_has ls 5 [(0, 1, .ref x0), (2, 1, .int x2), (3, 1, .int x3)] → c ≤ mc → s ≤ ms → W p l e R s₀ m args below meth cd H locs c s (MQ below (va_Qi Post (wo_B E) (en_A E)) args s₀ mc ms (en_A E)) (F0 m 98 ls []) := by
  intro G c s x0 x2 x3 hw H locs ls hG hS hl hcc hss
  dsimp only [pq_Md_pass_98] at hw
  have hx := hC.1
  have hb := hC.2.1
  refine lx_iinc (k := 2) (v := (x3 + (1 : Int32))) (lv' := [(3, 1, .int (x3 + (1 : Int32))), (0, 1, .ref x0), (2, 1, .int x2)]) hx hb dq_Md_pass_98 hl rfl rfl (by decide) rfl (fun ls hl' => ?_)
  clear hl
  have hl := hl'
  clear hl'
  refine lv_goto (tgt := 27) hx hb dq_Md_pass_101 rfl ?_
  exact hk27 hw hG hS (lx_sub hl [1, 2, 0] rfl) hcc hss
set_option maxRecDepth 100000 in
set_option maxHeartbeats 4000000 in
theorem tq_Md_pass_27 {p : Program} {l : Launch} {e : Env} {R : Room} {s₀ : State} {m : MethodId} {args : Array Value} {below : List Frame} {meth : Method} {cd : Code} {E : wo_E} {mc ms : Nat} {Post : Int32 → wo_W → Prop} (hC : wo_Cx E "EdgeCacheModel" prog_14_method_56_code 5 4 86 ((Option.some Jvm.ClassFile.FieldType.int)) "pass" mc ms p R s₀ m args meth cd) : ∀ n : Nat, ∀ {G : wo_W} {c s : Nat} {x0 : Nat} {x2 : Int32} {x3 : Int32}, pq_Md_pass_27 E mc ms Post n G c s x0 x2 x3 → ∀ {H : Heap} {locs : List Loc} {ls : Array Slot}, wo_Se E G H → va_S (en_A E) s₀.heap H locs → lx_has ls 5 [(0, 1, .ref x0), (2, 1, .int x2), (3, 1, .int x3)] → c ≤ mc → s ≤ ms → W p l e R s₀ m args below meth cd H locs c s (MQ below (va_Qi Post (wo_B E) (en_A E)) args s₀ mc ms (en_A E)) (F0 m 27 ls []) := by
  intro n
  induction n with
  | zero => intro G c s x0 x2 x3 hw; exact hw.elim
  | succ n ih =>
    intro G c s x0 x2 x3 hw H locs ls hG hS hl hcc hss
    dsimp only [pq_Md_pass_27] at hw
    have hx := hC.1
    have hb := hC.2.1
    refine lv_iload_n hx hb dq_Md_pass_27 rfl (lx_at hl 2 rfl) ?_
    refine lv_iconst (v := (2 : Int32)) hx hb dq_Md_pass_28 rfl ?_
    refine lv_icmp_ge (tgt := 104) hx hb dq_Md_pass_29 rfl (fun h => ?_) (fun h => ?_)
    · replace hw := hw.1 h
      refine lv_aload_n hx hb dq_Md_pass_104 rfl (lx_at hl 0 rfl) ?_
      obtain ⟨t1, hw⟩ := hw
      obtain ⟨mc2, ms3, hc1, hs1, hw⟩ := hw
      refine va_callv (wo_runV hC lq_Md_370 (mq_Md_send hw) hG hS t1 rfl (lx_sz hl) rfl (Nat.zero_le _) (by decide) dq_Md_pass_105 ⟨hc1, hs1⟩) hS (fun _ _ h => h) (fun _ h => h) (fun G4 t H locs ht hvm hw' hB _ _ hS => ?_)
      clear hw
      have hw := hw'
      clear hw'
      replace hG := wo_bk ht hB
      replace hcc := hc1
      replace hss := hs1
      refine lv_iload_n hx hb dq_Md_pass_108 rfl (lx_at hl 1 rfl) ?_
      exact wo_iret hC hG hS hcc hss hw dq_Md_pass_109
    · replace hw := hw.2 h
      refine lv_aload_n hx hb dq_Md_pass_32 rfl (lx_at hl 0 rfl) ?_
      refine lv_iload_n hx hb dq_Md_pass_33 rfl (lx_at hl 2 rfl) ?_
      obtain ⟨t5, hw⟩ := hw
      obtain ⟨mc6, ms7, hc1, hs1, hw⟩ := hw
      refine va_calli (wo_runV hC lq_Md_373 (mq_Md_jobOn hw) hG hS t5 rfl (lx_sz hl) rfl (Nat.zero_le _) (by decide) dq_Md_pass_34 ⟨hc1, hs1⟩) hS (fun _ _ h => h) (fun _ h => h) (fun v9 G8 t H locs ht hvm hw' hB _ _ hS => ?_)
      clear hw
      have hw := hw'
      clear hw'
      replace hG := wo_bk ht hB
      replace hcc := hc1
      replace hss := hs1
      refine lx_istore (lv' := [(4, 1, .int v9), (0, 1, .ref x0), (2, 1, .int x2), (3, 1, .int x3)]) hx hb dq_Md_pass_37 hl (by decide) rfl (fun ls hl' => ?_)
      clear hl
      have hl := hl'
      clear hl'
      refine lv_iload hx hb dq_Md_pass_39 (lx_at hl 0 rfl) ?_
      refine lv_if_lt (tgt := 98) hx hb dq_Md_pass_41 rfl (fun h => ?_) (fun h => ?_)
      · replace hw := hw.1 h
        exact tq_Md_pass_98 hC ih hw hG hS (lx_sub hl [1, 2, 3] rfl) hcc hss
      · replace hw := hw.2 h
        refine lv_aload_n hx hb dq_Md_pass_44 rfl (lx_at hl 1 rfl) ?_
        obtain ⟨t10, hw⟩ := hw
        refine wo_getI hC fq_Md_349 rfl hG t10 dq_Md_pass_45 ?_
        refine lv_aload_n hx hb dq_Md_pass_48 rfl (lx_at hl 1 rfl) ?_
        refine wo_getR hC fq_Md_84 rfl hG t10 dq_Md_pass_49 (fun r11 e12 => ?_)
        replace hw := hw r11 e12
        refine lv_iload hx hb dq_Md_pass_52 (lx_at hl 0 rfl) ?_
        obtain ⟨a13, rfl, hw⟩ := hw
        obtain ⟨t14, hw⟩ := hw
        obtain ⟨h15, hw⟩ := hw
        refine wo_iald (j := 2) hC rfl hG t14 h15 dq_Md_pass_54 ?_
        refine lv_isub hx hb dq_Md_pass_55 ?_
        refine lv_bipush (v := (10 : Int32)) hx hb dq_Md_pass_56 rfl ?_
        refine lv_icmp_lt (tgt := 98) hx hb dq_Md_pass_58 rfl (fun h => ?_) (fun h => ?_)
        · replace hw := hw.1 h
          exact tq_Md_pass_98 hC ih hw hG hS (lx_sub hl [1, 2, 3] rfl) hcc hss
        · replace hw := hw.2 h
          refine lv_aload_n hx hb dq_Md_pass_61 rfl (lx_at hl 1 rfl) ?_
          refine lv_sipush (v := (504 : Int32)) hx hb dq_Md_pass_62 rfl ?_
          obtain ⟨mc16, ms17, hc1, hs1, hw⟩ := hw
          refine va_calli (wo_runV hC lq_Md_190 (mq_Md_plain hw) hG hS t10 rfl (lx_sz hl) rfl (Nat.zero_le _) (by decide) dq_Md_pass_65 ⟨hc1, hs1⟩) hS (fun _ _ h => h) (fun _ h => h) (fun v19 G18 t H locs ht hvm hw' hB _ _ hS => ?_)
          clear hw
          have hw := hw'
          clear hw'
          replace hG := wo_bk ht hB
          replace hcc := hc1
          replace hss := hs1
          refine lv_pop hx hb dq_Md_pass_68 rfl ?_
          refine lv_aload_n hx hb dq_Md_pass_69 rfl (lx_at hl 1 rfl) ?_
          obtain ⟨t20, hw⟩ := hw
          refine wo_getR hC fq_Md_69 rfl hG t20 dq_Md_pass_70 (fun r21 e22 => ?_)
          replace hw := hw r21 e22
          refine lv_iload hx hb dq_Md_pass_73 (lx_at hl 0 rfl) ?_
          refine lv_iconst (v := (0 : Int32)) hx hb dq_Md_pass_75 rfl ?_
          obtain ⟨a23, rfl, hw⟩ := hw
          obtain ⟨t24, hw⟩ := hw
          obtain ⟨h25, hw⟩ := hw
          obtain ⟨h26, hw⟩ := hw
          refine wo_iast (j := 2) hC rfl hG hS t24 h25 h26 dq_Md_pass_76 (fun G27 H locs e28 hG hS => ?_)
          replace hw := hw G27 e28
          refine lv_aload_n hx hb dq_Md_pass_77 rfl (lx_at hl 1 rfl) ?_
          refine lv_aload_n hx hb dq_Md_pass_78 rfl (lx_at hl 1 rfl) ?_
          refine wo_getR hC fq_Md_72 rfl hG (ty_sei e28 t20) dq_Md_pass_79 (fun r29 e30 => ?_)
          replace hw := hw r29 e30
          refine lv_iload hx hb dq_Md_pass_82 (lx_at hl 0 rfl) ?_
          obtain ⟨a31, rfl, hw⟩ := hw
          obtain ⟨t32, hw⟩ := hw
          obtain ⟨h33, hw⟩ := hw
          refine wo_iald (j := 2) hC rfl hG t32 h33 dq_Md_pass_84 ?_
          refine lv_aload_n hx hb dq_Md_pass_85 rfl (lx_at hl 1 rfl) ?_
          refine wo_getR hC fq_Md_75 rfl hG (ty_sei e28 t20) dq_Md_pass_86 (fun r34 e35 => ?_)
          replace hw := hw r34 e35
          refine lv_iload hx hb dq_Md_pass_89 (lx_at hl 0 rfl) ?_
          obtain ⟨a36, rfl, hw⟩ := hw
          obtain ⟨t37, hw⟩ := hw
          obtain ⟨h38, hw⟩ := hw
          refine wo_iald (j := 2) hC rfl hG t37 h38 dq_Md_pass_91 ?_
          obtain ⟨mc39, ms40, hc1, hs1, hw⟩ := hw
          refine va_callv (wo_runV hC lq_Md_193 (mq_Md_finish hw) hG hS (ty_sei e28 t20) rfl (lx_sz hl) rfl (Nat.zero_le _) (by decide) dq_Md_pass_92 ⟨hc1, hs1⟩) hS (fun _ _ h => h) (fun _ h => h) (fun G41 t H locs ht hvm hw' hB _ _ hS => ?_)
          clear hw
          have hw := hw'
          clear hw'
          replace hG := wo_bk ht hB
          replace hcc := hc1
          replace hss := hs1
          refine lx_iinc (k := 2) (v := (x2 + (1 : Int32))) (lv' := [(2, 1, .int (x2 + (1 : Int32))), (4, 1, .int v9), (0, 1, .ref x0), (3, 1, .int x3)]) hx hb dq_Md_pass_95 hl rfl rfl (by decide) rfl (fun ls hl' => ?_)
          clear hl
          have hl := hl'
          clear hl'
          exact tq_Md_pass_98 hC ih hw hG hS (lx_sub hl [2, 0, 3] rfl) hcc hss
set_option maxRecDepth 100000 in
set_option maxHeartbeats 4000000 in
theorem tq_Md_pass_0 {p : Program} {l : Launch} {e : Env} {R : Room} {s₀ : State} {m : MethodId} {args : Array Value} {below : List Frame} {meth : Method} {cd : Code} {E : wo_E} {mc ms : Nat} {Post : Int32 → wo_W → Prop} (hC : wo_Cx E "EdgeCacheModel" prog_14_method_56_code 5 4 86 ((Option.some Jvm.ClassFile.FieldType.int)) "pass" mc ms p R s₀ m args meth cd) : ∀ {G : wo_W} {c s : Nat} {x0 : Nat} {x1 : Int32}, pq_Md_pass_0 E mc ms Post G c s x0 x1 → ∀ {H : Heap} {locs : List Loc} {ls : Array Slot}, wo_Se E G H → va_S (en_A E) s₀.heap H locs → lx_has ls 5 [(0, 1, .ref x0), (1, 1, .int x1)] → c ≤ mc → s ≤ ms → W p l e R s₀ m args below meth cd H locs c s (MQ below (va_Qi Post (wo_B E) (en_A E)) args s₀ mc ms (en_A E)) (F0 m 0 ls []) := by
  intro G c s x0 x1 hw H locs ls hG hS hl hcc hss
  dsimp only [pq_Md_pass_0] at hw
  have hx := hC.1
  have hb := hC.2.1
  refine lv_iload_n hx hb dq_Md_pass_0 rfl (lx_at hl 1 rfl) ?_
  refine lv_if_lt (tgt := 11) hx hb dq_Md_pass_1 rfl (fun h => ?_) (fun h => ?_)
  · replace hw := hw.1 h
    exact tq_Md_pass_11 hC hw hG hS (lx_sub hl [] rfl) hcc hss
  · replace hw := hw.2 h
    refine lv_iload_n hx hb dq_Md_pass_4 rfl (lx_at hl 1 rfl) ?_
    refine lv_sipush (v := (1000 : Int32)) hx hb dq_Md_pass_5 rfl ?_
    refine lv_icmp_le (tgt := 13) hx hb dq_Md_pass_8 rfl (fun h => ?_) (fun h => ?_)
    · replace hw := hw.1 h
      refine lv_aload_n hx hb dq_Md_pass_13 rfl (lx_at hl 0 rfl) ?_
      refine lv_dup hx hb dq_Md_pass_14 rfl ?_
      obtain ⟨t1, hw⟩ := hw
      refine wo_getI hC fq_Md_349 rfl hG t1 dq_Md_pass_15 ?_
      refine lv_iload_n hx hb dq_Md_pass_18 rfl (lx_at hl 1 rfl) ?_
      refine lv_iadd hx hb dq_Md_pass_19 ?_
      obtain ⟨h2, hw⟩ := hw
      refine wo_putI hC fq_Md_349 (Or.inl rfl) rfl (wo_ok_int _) hG hS t1 h2 dq_Md_pass_20 (fun G3 H locs e4 hG hS => ?_)
      replace hw := hw G3 e4
      refine lv_iconst (v := (0 : Int32)) hx hb dq_Md_pass_23 rfl ?_
      refine lx_istore_n (lv' := [(2, 1, .int (0 : Int32)), (0, 1, .ref x0), (1, 1, .int x1)]) hx hb dq_Md_pass_24 rfl hl (by decide) rfl (fun ls hl' => ?_)
      clear hl
      have hl := hl'
      clear hl'
      refine lv_iconst (v := (0 : Int32)) hx hb dq_Md_pass_25 rfl ?_
      refine lx_istore_n (lv' := [(3, 1, .int (0 : Int32)), (2, 1, .int (0 : Int32)), (0, 1, .ref x0), (1, 1, .int x1)]) hx hb dq_Md_pass_26 rfl hl (by decide) rfl (fun ls hl' => ?_)
      clear hl
      have hl := hl'
      clear hl'
      obtain ⟨n1, hw⟩ := hw
      exact tq_Md_pass_27 hC n1 hw hG hS (lx_sub hl [2, 1, 0] rfl) hcc hss
    · replace hw := hw.2 h
      exact tq_Md_pass_11 hC hw hG hS (lx_sub hl [] rfl) hcc hss
set_option maxHeartbeats 4000000 in
theorem mq_Md_pass {l : Launch} {E : wo_E} {mc ms : Nat} {Post : Int32 → wo_W → Prop} {G : wo_W} {x0 : Nat} {x1 : Int32} (hw : pq_Md_pass E mc ms Post G x0 x1) : Met l yq_Md_pass (Cond.code yq_Md_pass prog_14_method_56_code 5 ((Option.some Jvm.ClassFile.FieldType.int)) :: vw_WG) { frames := 4, cells := mc, slots := ms, locals := 86 } (va_Pc [.ref x0, .int x1] (wo_Ok E G)) (va_Qi Post (wo_B E) (en_A E)) mc ms (en_A E) := by
  unfold pq_Md_pass at hw
  exact wo_met [(1, .ref x0), (1, .int x1)] rfl (by decide) (fun q hq => by simp only [List.mem_cons, List.not_mem_nil, or_false] at hq; rcases hq with rfl | rfl <;> first | rfl | exact lx_cR _) (Nat.le_of_ble_eq_true rfl) (fun p e R s m args below meth cd ls hC hG hS hl => tq_Md_pass_0 hC hw hG hS (lx_sub hl [0, 1] rfl) (Nat.zero_le _) (Nat.zero_le _))

theorem dq_Md_out_0 : decode prog_14_method_57_code 0 = .ok (.iload_n 1, 1) := by decide +kernel
theorem dq_Md_out_1 : decode prog_14_method_57_code 1 = .ok (.ifCond .lt 8, 3) := by decide +kernel
theorem dq_Md_out_4 : decode prog_14_method_57_code 4 = .ok (.iload_n 1, 1) := by decide +kernel
theorem dq_Md_out_5 : decode prog_14_method_57_code 5 = .ok (.iconst 2, 1) := by decide +kernel
theorem dq_Md_out_6 : decode prog_14_method_57_code 6 = .ok (.if_icmp .le 5, 3) := by decide +kernel
theorem dq_Md_out_9 : decode prog_14_method_57_code 9 = .ok (.lconst 0, 1) := by decide +kernel
theorem dq_Md_out_10 : decode prog_14_method_57_code 10 = .ok (.lreturn, 1) := by decide +kernel
theorem dq_Md_out_11 : decode prog_14_method_57_code 11 = .ok (.lconst 0, 1) := by decide +kernel
theorem dq_Md_out_12 : decode prog_14_method_57_code 12 = .ok (.lstore_n 2, 1) := by decide +kernel
theorem dq_Md_out_13 : decode prog_14_method_57_code 13 = .ok (.aload_n 0, 1) := by decide +kernel
theorem dq_Md_out_14 : decode prog_14_method_57_code 14 = .ok (.getfield 23, 3) := by decide +kernel
theorem dq_Md_out_17 : decode prog_14_method_57_code 17 = .ok (.iload_n 1, 1) := by decide +kernel
theorem dq_Md_out_18 : decode prog_14_method_57_code 18 = .ok (.iaload, 1) := by decide +kernel
theorem dq_Md_out_19 : decode prog_14_method_57_code 19 = .ok (.bipush 8, 2) := by decide +kernel
theorem dq_Md_out_21 : decode prog_14_method_57_code 21 = .ok (.if_icmp .ge 12, 3) := by decide +kernel
theorem dq_Md_out_24 : decode prog_14_method_57_code 24 = .ok (.aload_n 0, 1) := by decide +kernel
theorem dq_Md_out_25 : decode prog_14_method_57_code 25 = .ok (.getfield 23, 3) := by decide +kernel
theorem dq_Md_out_28 : decode prog_14_method_57_code 28 = .ok (.iload_n 1, 1) := by decide +kernel
theorem dq_Md_out_29 : decode prog_14_method_57_code 29 = .ok (.iaload, 1) := by decide +kernel
theorem dq_Md_out_30 : decode prog_14_method_57_code 30 = .ok (.goto 5, 3) := by decide +kernel
theorem dq_Md_out_33 : decode prog_14_method_57_code 33 = .ok (.bipush 8, 2) := by decide +kernel
theorem dq_Md_out_35 : decode prog_14_method_57_code 35 = .ok (.istore 4, 2) := by decide +kernel
theorem dq_Md_out_37 : decode prog_14_method_57_code 37 = .ok (.iconst 0, 1) := by decide +kernel
theorem dq_Md_out_38 : decode prog_14_method_57_code 38 = .ok (.istore 5, 2) := by decide +kernel
theorem dq_Md_out_40 : decode prog_14_method_57_code 40 = .ok (.iload 5, 2) := by decide +kernel
theorem dq_Md_out_42 : decode prog_14_method_57_code 42 = .ok (.iload 4, 2) := by decide +kernel
theorem dq_Md_out_44 : decode prog_14_method_57_code 44 = .ok (.if_icmp .ge 30, 3) := by decide +kernel
theorem dq_Md_out_47 : decode prog_14_method_57_code 47 = .ok (.lload_n 2, 1) := by decide +kernel
theorem dq_Md_out_48 : decode prog_14_method_57_code 48 = .ok (.ldc2_w 226, 3) := by decide +kernel
theorem dq_Md_out_51 : decode prog_14_method_57_code 51 = .ok (.lmul, 1) := by decide +kernel
theorem dq_Md_out_52 : decode prog_14_method_57_code 52 = .ok (.aload_n 0, 1) := by decide +kernel
theorem dq_Md_out_53 : decode prog_14_method_57_code 53 = .ok (.getfield 20, 3) := by decide +kernel
theorem dq_Md_out_56 : decode prog_14_method_57_code 56 = .ok (.sipush 640, 3) := by decide +kernel
theorem dq_Md_out_59 : decode prog_14_method_57_code 59 = .ok (.iload_n 1, 1) := by decide +kernel
theorem dq_Md_out_60 : decode prog_14_method_57_code 60 = .ok (.imul, 1) := by decide +kernel
theorem dq_Md_out_61 : decode prog_14_method_57_code 61 = .ok (.iload 5, 2) := by decide +kernel
theorem dq_Md_out_63 : decode prog_14_method_57_code 63 = .ok (.iadd, 1) := by decide +kernel
theorem dq_Md_out_64 : decode prog_14_method_57_code 64 = .ok (.iaload, 1) := by decide +kernel
theorem dq_Md_out_65 : decode prog_14_method_57_code 65 = .ok (.i2l, 1) := by decide +kernel
theorem dq_Md_out_66 : decode prog_14_method_57_code 66 = .ok (.ladd, 1) := by decide +kernel
theorem dq_Md_out_67 : decode prog_14_method_57_code 67 = .ok (.lstore_n 2, 1) := by decide +kernel
theorem dq_Md_out_68 : decode prog_14_method_57_code 68 = .ok (.iinc 5 1, 3) := by decide +kernel
theorem dq_Md_out_71 : decode prog_14_method_57_code 71 = .ok (.goto (-31), 3) := by decide +kernel
theorem dq_Md_out_74 : decode prog_14_method_57_code 74 = .ok (.iload 4, 2) := by decide +kernel
theorem dq_Md_out_76 : decode prog_14_method_57_code 76 = .ok (.istore 5, 2) := by decide +kernel
theorem dq_Md_out_78 : decode prog_14_method_57_code 78 = .ok (.iload 5, 2) := by decide +kernel
theorem dq_Md_out_80 : decode prog_14_method_57_code 80 = .ok (.aload_n 0, 1) := by decide +kernel
theorem dq_Md_out_81 : decode prog_14_method_57_code 81 = .ok (.getfield 23, 3) := by decide +kernel
theorem dq_Md_out_84 : decode prog_14_method_57_code 84 = .ok (.iload_n 1, 1) := by decide +kernel
theorem dq_Md_out_85 : decode prog_14_method_57_code 85 = .ok (.iaload, 1) := by decide +kernel
theorem dq_Md_out_86 : decode prog_14_method_57_code 86 = .ok (.if_icmp .ge 38, 3) := by decide +kernel
theorem dq_Md_out_89 : decode prog_14_method_57_code 89 = .ok (.aload_n 0, 1) := by decide +kernel
theorem dq_Md_out_90 : decode prog_14_method_57_code 90 = .ok (.getfield 20, 3) := by decide +kernel
theorem dq_Md_out_93 : decode prog_14_method_57_code 93 = .ok (.sipush 640, 3) := by decide +kernel
theorem dq_Md_out_96 : decode prog_14_method_57_code 96 = .ok (.iload_n 1, 1) := by decide +kernel
theorem dq_Md_out_97 : decode prog_14_method_57_code 97 = .ok (.imul, 1) := by decide +kernel
theorem dq_Md_out_98 : decode prog_14_method_57_code 98 = .ok (.iload 5, 2) := by decide +kernel
theorem dq_Md_out_100 : decode prog_14_method_57_code 100 = .ok (.iadd, 1) := by decide +kernel
theorem dq_Md_out_101 : decode prog_14_method_57_code 101 = .ok (.iload 4, 2) := by decide +kernel
theorem dq_Md_out_103 : decode prog_14_method_57_code 103 = .ok (.isub, 1) := by decide +kernel
theorem dq_Md_out_104 : decode prog_14_method_57_code 104 = .ok (.aload_n 0, 1) := by decide +kernel
theorem dq_Md_out_105 : decode prog_14_method_57_code 105 = .ok (.getfield 20, 3) := by decide +kernel
theorem dq_Md_out_108 : decode prog_14_method_57_code 108 = .ok (.sipush 640, 3) := by decide +kernel
theorem dq_Md_out_111 : decode prog_14_method_57_code 111 = .ok (.iload_n 1, 1) := by decide +kernel
theorem dq_Md_out_112 : decode prog_14_method_57_code 112 = .ok (.imul, 1) := by decide +kernel
theorem dq_Md_out_113 : decode prog_14_method_57_code 113 = .ok (.iload 5, 2) := by decide +kernel
theorem dq_Md_out_115 : decode prog_14_method_57_code 115 = .ok (.iadd, 1) := by decide +kernel
theorem dq_Md_out_116 : decode prog_14_method_57_code 116 = .ok (.iaload, 1) := by decide +kernel
theorem dq_Md_out_117 : decode prog_14_method_57_code 117 = .ok (.iastore, 1) := by decide +kernel
theorem dq_Md_out_118 : decode prog_14_method_57_code 118 = .ok (.iinc 5 1, 3) := by decide +kernel
theorem dq_Md_out_121 : decode prog_14_method_57_code 121 = .ok (.goto (-43), 3) := by decide +kernel
theorem dq_Md_out_124 : decode prog_14_method_57_code 124 = .ok (.aload_n 0, 1) := by decide +kernel
theorem dq_Md_out_125 : decode prog_14_method_57_code 125 = .ok (.getfield 23, 3) := by decide +kernel
theorem dq_Md_out_128 : decode prog_14_method_57_code 128 = .ok (.iload_n 1, 1) := by decide +kernel
theorem dq_Md_out_129 : decode prog_14_method_57_code 129 = .ok (.dup2, 1) := by decide +kernel
theorem dq_Md_out_130 : decode prog_14_method_57_code 130 = .ok (.iaload, 1) := by decide +kernel
theorem dq_Md_out_131 : decode prog_14_method_57_code 131 = .ok (.iload 4, 2) := by decide +kernel
theorem dq_Md_out_133 : decode prog_14_method_57_code 133 = .ok (.isub, 1) := by decide +kernel
theorem dq_Md_out_134 : decode prog_14_method_57_code 134 = .ok (.iastore, 1) := by decide +kernel
theorem dq_Md_out_135 : decode prog_14_method_57_code 135 = .ok (.lload_n 2, 1) := by decide +kernel
theorem dq_Md_out_136 : decode prog_14_method_57_code 136 = .ok (.lreturn, 1) := by decide +kernel
set_option maxRecDepth 100000 in
def pq_Md_out_9 (E : wo_E) (mc ms : Nat) (Post : Int64 → wo_W → Prop) (G : wo_W) (c s : Nat) : Prop := Post (0 : Int64) G
set_option maxRecDepth 100000 in
def pq_Md_out_78 (E : wo_E) (mc ms : Nat) (Post : Int64 → wo_W → Prop) : Nat → wo_W → Nat → Nat → Nat → Int32 → Int64 → Int32 → Int32 → Prop
  | 0 => fun _ _ _ _ _ _ _ _ => False
  | n + 1 => fun G c s x0 x1 x2 x4 x5 => wo_ty G x0 = 15 ∧ ∀ r2 : Option Nat, r2 = wo_gr G 900 x0 → ∃ a4 : Nat, r2 = some a4 ∧ wo_ty G a4 = 66 ∧ vp_in x1 (wo_len G a4) ∧ (((wo_ei G a4 x1.toNatClampNeg) ≤ x5 → ∀ r7 : Option Nat, r7 = wo_gr G 900 x0 → ∃ a9 : Nat, r7 = some a9 ∧ wo_ty G a9 = 66 ∧ vp_in x1 (wo_len G a9) ∧ vp_in x1 (wo_len G a9) ∧ en_bs E ≤ a9 ∧ ∀ G14 : wo_W, G14 = wo_sei G a9 x1.toNatClampNeg ((wo_ei G a9 x1.toNatClampNeg) - x4) → 
    Post x2 G14) ∧
  (¬ (wo_ei G a4 x1.toNatClampNeg) ≤ x5 → ∀ r16 : Option Nat, r16 = wo_gr G 899 x0 → ∀ r18 : Option Nat, r18 = wo_gr G 899 x0 → ∃ a20 : Nat, r18 = some a20 ∧ wo_ty G a20 = 66 ∧ vp_in (((640 : Int32) * x1) + x5) (wo_len G a20) ∧ ∃ a23 : Nat, r16 = some a23 ∧ wo_ty G a23 = 66 ∧ vp_in ((((640 : Int32) * x1) + x5) - x4) (wo_len G a23) ∧ en_bs E ≤ a23 ∧ ∀ G27 : wo_W, G27 = wo_sei G a23 ((((640 : Int32) * x1) + x5) - x4).toNatClampNeg (wo_ei G a20 (((640 : Int32) * x1) + x5).toNatClampNeg) → 
    pq_Md_out_78 E mc ms Post n G27 c s x0 x1 x2 x4 (x5 + (1 : Int32))))
set_option maxRecDepth 100000 in
def pq_Md_out_40 (E : wo_E) (mc ms : Nat) (Post : Int64 → wo_W → Prop) : Nat → wo_W → Nat → Nat → Nat → Int32 → Int64 → Int32 → Int32 → Prop
  | 0 => fun _ _ _ _ _ _ _ _ => False
  | n + 1 => fun G c s x0 x1 x2 x4 x5 => ((x4 ≤ x5 → ∃ n1 : Nat, pq_Md_out_78 E mc ms Post n1 G c s x0 x1 x2 x4 x4) ∧
  (¬ x4 ≤ x5 → wo_ty G x0 = 15 ∧ ∀ r2 : Option Nat, r2 = wo_gr G 899 x0 → ∃ a4 : Nat, r2 = some a4 ∧ wo_ty G a4 = 66 ∧ vp_in (((640 : Int32) * x1) + x5) (wo_len G a4) ∧ pq_Md_out_40 E mc ms Post n G c s x0 x1 ((x2 * (256 : Int64)) + (wo_ei G a4 (((640 : Int32) * x1) + x5).toNatClampNeg).toInt64) x4 (x5 + (1 : Int32))))
set_option maxRecDepth 100000 in
def pq_Md_out_35 (E : wo_E) (mc ms : Nat) (Post : Int64 → wo_W → Prop) (G : wo_W) (c s : Nat) (x0 : Nat) (x1 : Int32) (x2 : Int64) (y0 : Int32) : Prop := ∃ n1 : Nat, pq_Md_out_40 E mc ms Post n1 G c s x0 x1 x2 y0 (0 : Int32)
set_option maxRecDepth 100000 in
def pq_Md_out_0 (E : wo_E) (mc ms : Nat) (Post : Int64 → wo_W → Prop) (G : wo_W) (c s : Nat) (x0 : Nat) (x1 : Int32) : Prop := ((x1 < (0 : Int32) → pq_Md_out_9 E mc ms Post G c s) ∧
  (¬ x1 < (0 : Int32) → ((x1 ≤ (2 : Int32) → wo_ty G x0 = 15 ∧ ∀ r2 : Option Nat, r2 = wo_gr G 900 x0 → ∃ a4 : Nat, r2 = some a4 ∧ wo_ty G a4 = 66 ∧ vp_in x1 (wo_len G a4) ∧ (((8 : Int32) ≤ (wo_ei G a4 x1.toNatClampNeg) → pq_Md_out_35 E mc ms Post G c s x0 x1 (0 : Int64) (8 : Int32)) ∧
      (¬ (8 : Int32) ≤ (wo_ei G a4 x1.toNatClampNeg) → ∀ r7 : Option Nat, r7 = wo_gr G 900 x0 → ∃ a9 : Nat, r7 = some a9 ∧ wo_ty G a9 = 66 ∧ vp_in x1 (wo_len G a9) ∧ pq_Md_out_35 E mc ms Post G c s x0 x1 (0 : Int64) (wo_ei G a9 x1.toNatClampNeg)))) ∧
    (¬ x1 ≤ (2 : Int32) → pq_Md_out_9 E mc ms Post G c s))))
def pq_Md_out (E : wo_E) (mc ms : Nat) (Post : Int64 → wo_W → Prop) (G : wo_W) (x0 : Nat) (x1 : Int32) : Prop := pq_Md_out_0 E mc ms Post G 0 0 x0 x1
set_option maxRecDepth 100000 in
set_option maxHeartbeats 4000000 in
theorem tq_Md_out_9 {p : Program} {l : Launch} {e : Env} {R : Room} {s₀ : State} {m : MethodId} {args : Array Value} {below : List Frame} {meth : Method} {cd : Code} {E : wo_E} {mc ms : Nat} {Post : Int64 → wo_W → Prop} (hC : wo_Cx E "EdgeCacheModel" prog_14_method_57_code 6 0 0 ((Option.some Jvm.ClassFile.FieldType.long)) "out" mc ms p R s₀ m args meth cd) : ∀ {G : wo_W} {c s : Nat}, pq_Md_out_9 E mc ms Post G c s → ∀ {H : Heap} {locs : List Loc} {ls : Array Slot}, wo_Se E G H → va_S (en_A E) s₀.heap H locs → lx_has ls 6 [] → c ≤ mc → s ≤ ms → W p l e R s₀ m args below meth cd H locs c s (MQ below (va_Ql Post (wo_B E) (en_A E)) args s₀ mc ms (en_A E)) (F0 m 9 ls []) := by
  intro G c s hw H locs ls hG hS hl hcc hss
  dsimp only [pq_Md_out_9] at hw
  have hx := hC.1
  have hb := hC.2.1
  refine lv_lconst (v := (0 : Int64)) hx hb dq_Md_out_9 rfl ?_
  exact wo_lret hC hG hS hcc hss hw dq_Md_out_10
set_option maxRecDepth 100000 in
set_option maxHeartbeats 4000000 in
theorem tq_Md_out_78 {p : Program} {l : Launch} {e : Env} {R : Room} {s₀ : State} {m : MethodId} {args : Array Value} {below : List Frame} {meth : Method} {cd : Code} {E : wo_E} {mc ms : Nat} {Post : Int64 → wo_W → Prop} (hC : wo_Cx E "EdgeCacheModel" prog_14_method_57_code 6 0 0 ((Option.some Jvm.ClassFile.FieldType.long)) "out" mc ms p R s₀ m args meth cd) : ∀ n : Nat, ∀ {G : wo_W} {c s : Nat} {x0 : Nat} {x1 : Int32} {x2 : Int64} {x4 : Int32} {x5 : Int32}, pq_Md_out_78 E mc ms Post n G c s x0 x1 x2 x4 x5 → ∀ {H : Heap} {locs : List Loc} {ls : Array Slot}, wo_Se E G H → va_S (en_A E) s₀.heap H locs → lx_has ls 6 [(0, 1, .ref x0), (1, 1, .int x1), (2, 2, .long x2), (4, 1, .int x4), (5, 1, .int x5)] → c ≤ mc → s ≤ ms → W p l e R s₀ m args below meth cd H locs c s (MQ below (va_Ql Post (wo_B E) (en_A E)) args s₀ mc ms (en_A E)) (F0 m 78 ls []) := by
  intro n
  induction n with
  | zero => intro G c s x0 x1 x2 x4 x5 hw; exact hw.elim
  | succ n ih =>
    intro G c s x0 x1 x2 x4 x5 hw H locs ls hG hS hl hcc hss
    dsimp only [pq_Md_out_78] at hw
    have hx := hC.1
    have hb := hC.2.1
    refine lv_iload hx hb dq_Md_out_78 (lx_at hl 4 rfl) ?_
    refine lv_aload_n hx hb dq_Md_out_80 rfl (lx_at hl 0 rfl) ?_
    obtain ⟨t1, hw⟩ := hw
    refine wo_getR hC fq_Md_23 rfl hG t1 dq_Md_out_81 (fun r2 e3 => ?_)
    replace hw := hw r2 e3
    refine lv_iload_n hx hb dq_Md_out_84 rfl (lx_at hl 1 rfl) ?_
    obtain ⟨a4, rfl, hw⟩ := hw
    obtain ⟨t5, hw⟩ := hw
    obtain ⟨h6, hw⟩ := hw
    refine wo_iald (j := 2) hC rfl hG t5 h6 dq_Md_out_85 ?_
    refine lv_icmp_ge (tgt := 124) hx hb dq_Md_out_86 rfl (fun h => ?_) (fun h => ?_)
    · replace hw := hw.1 h
      refine lv_aload_n hx hb dq_Md_out_124 rfl (lx_at hl 0 rfl) ?_
      refine wo_getR hC fq_Md_23 rfl hG t1 dq_Md_out_125 (fun r7 e8 => ?_)
      replace hw := hw r7 e8
      refine lv_iload_n hx hb dq_Md_out_128 rfl (lx_at hl 1 rfl) ?_
      refine lv_dup2_11 hx hb dq_Md_out_129 rfl (lx_cR _) ?_
      obtain ⟨a9, rfl, hw⟩ := hw
      obtain ⟨t10, hw⟩ := hw
      obtain ⟨h11, hw⟩ := hw
      refine wo_iald (j := 2) hC rfl hG t10 h11 dq_Md_out_130 ?_
      refine lv_iload hx hb dq_Md_out_131 (lx_at hl 3 rfl) ?_
      refine lv_isub hx hb dq_Md_out_133 ?_
      obtain ⟨h12, hw⟩ := hw
      obtain ⟨h13, hw⟩ := hw
      refine wo_iast (j := 2) hC rfl hG hS t10 h12 h13 dq_Md_out_134 (fun G14 H locs e15 hG hS => ?_)
      replace hw := hw G14 e15
      refine lv_lload_n hx hb dq_Md_out_135 rfl (lx_at hl 2 rfl) ?_
      exact wo_lret hC hG hS hcc hss hw dq_Md_out_136
    · replace hw := hw.2 h
      refine lv_aload_n hx hb dq_Md_out_89 rfl (lx_at hl 0 rfl) ?_
      refine wo_getR hC fq_Md_20 rfl hG t1 dq_Md_out_90 (fun r16 e17 => ?_)
      replace hw := hw r16 e17
      refine lv_sipush (v := (640 : Int32)) hx hb dq_Md_out_93 rfl ?_
      refine lv_iload_n hx hb dq_Md_out_96 rfl (lx_at hl 1 rfl) ?_
      refine lv_imul hx hb dq_Md_out_97 ?_
      refine lv_iload hx hb dq_Md_out_98 (lx_at hl 4 rfl) ?_
      refine lv_iadd hx hb dq_Md_out_100 ?_
      refine lv_iload hx hb dq_Md_out_101 (lx_at hl 3 rfl) ?_
      refine lv_isub hx hb dq_Md_out_103 ?_
      refine lv_aload_n hx hb dq_Md_out_104 rfl (lx_at hl 0 rfl) ?_
      refine wo_getR hC fq_Md_20 rfl hG t1 dq_Md_out_105 (fun r18 e19 => ?_)
      replace hw := hw r18 e19
      refine lv_sipush (v := (640 : Int32)) hx hb dq_Md_out_108 rfl ?_
      refine lv_iload_n hx hb dq_Md_out_111 rfl (lx_at hl 1 rfl) ?_
      refine lv_imul hx hb dq_Md_out_112 ?_
      refine lv_iload hx hb dq_Md_out_113 (lx_at hl 4 rfl) ?_
      refine lv_iadd hx hb dq_Md_out_115 ?_
      obtain ⟨a20, rfl, hw⟩ := hw
      obtain ⟨t21, hw⟩ := hw
      obtain ⟨h22, hw⟩ := hw
      refine wo_iald (j := 2) hC rfl hG t21 h22 dq_Md_out_116 ?_
      obtain ⟨a23, rfl, hw⟩ := hw
      obtain ⟨t24, hw⟩ := hw
      obtain ⟨h25, hw⟩ := hw
      obtain ⟨h26, hw⟩ := hw
      refine wo_iast (j := 2) hC rfl hG hS t24 h25 h26 dq_Md_out_117 (fun G27 H locs e28 hG hS => ?_)
      replace hw := hw G27 e28
      refine lx_iinc (k := 4) (v := (x5 + (1 : Int32))) (lv' := [(5, 1, .int (x5 + (1 : Int32))), (0, 1, .ref x0), (1, 1, .int x1), (2, 2, .long x2), (4, 1, .int x4)]) hx hb dq_Md_out_118 hl rfl rfl (by decide) rfl (fun ls hl' => ?_)
      clear hl
      have hl := hl'
      clear hl'
      refine lv_goto (tgt := 78) hx hb dq_Md_out_121 rfl ?_
      exact ih hw hG hS (lx_sub hl [1, 2, 3, 4, 0] rfl) hcc hss
set_option maxRecDepth 100000 in
set_option maxHeartbeats 4000000 in
theorem tq_Md_out_40 {p : Program} {l : Launch} {e : Env} {R : Room} {s₀ : State} {m : MethodId} {args : Array Value} {below : List Frame} {meth : Method} {cd : Code} {E : wo_E} {mc ms : Nat} {Post : Int64 → wo_W → Prop} (hC : wo_Cx E "EdgeCacheModel" prog_14_method_57_code 6 0 0 ((Option.some Jvm.ClassFile.FieldType.long)) "out" mc ms p R s₀ m args meth cd) : ∀ n : Nat, ∀ {G : wo_W} {c s : Nat} {x0 : Nat} {x1 : Int32} {x2 : Int64} {x4 : Int32} {x5 : Int32}, pq_Md_out_40 E mc ms Post n G c s x0 x1 x2 x4 x5 → ∀ {H : Heap} {locs : List Loc} {ls : Array Slot}, wo_Se E G H → va_S (en_A E) s₀.heap H locs → lx_has ls 6 [(0, 1, .ref x0), (1, 1, .int x1), (2, 2, .long x2), (4, 1, .int x4), (5, 1, .int x5)] → c ≤ mc → s ≤ ms → W p l e R s₀ m args below meth cd H locs c s (MQ below (va_Ql Post (wo_B E) (en_A E)) args s₀ mc ms (en_A E)) (F0 m 40 ls []) := by
  intro n
  induction n with
  | zero => intro G c s x0 x1 x2 x4 x5 hw; exact hw.elim
  | succ n ih =>
    intro G c s x0 x1 x2 x4 x5 hw H locs ls hG hS hl hcc hss
    dsimp only [pq_Md_out_40] at hw
    have hx := hC.1
    have hb := hC.2.1
    refine lv_iload hx hb dq_Md_out_40 (lx_at hl 4 rfl) ?_
    refine lv_iload hx hb dq_Md_out_42 (lx_at hl 3 rfl) ?_
    refine lv_icmp_ge (tgt := 74) hx hb dq_Md_out_44 rfl (fun h => ?_) (fun h => ?_)
    · replace hw := hw.1 h
      refine lv_iload hx hb dq_Md_out_74 (lx_at hl 3 rfl) ?_
      refine lx_istore (lv' := [(5, 1, .int x4), (0, 1, .ref x0), (1, 1, .int x1), (2, 2, .long x2), (4, 1, .int x4)]) hx hb dq_Md_out_76 hl (by decide) rfl (fun ls hl' => ?_)
      clear hl
      have hl := hl'
      clear hl'
      obtain ⟨n1, hw⟩ := hw
      exact tq_Md_out_78 hC n1 hw hG hS (lx_sub hl [1, 2, 3, 4, 0] rfl) hcc hss
    · replace hw := hw.2 h
      refine lv_lload_n hx hb dq_Md_out_47 rfl (lx_at hl 2 rfl) ?_
      refine lv_ldc2 hx hb hC.2.2.2.2.2.1 (hC.2.2.2.2.2.2.1 _ cq_Md_226) dq_Md_out_48 ?_
      refine lv_lmul hx hb dq_Md_out_51 ?_
      refine lv_aload_n hx hb dq_Md_out_52 rfl (lx_at hl 0 rfl) ?_
      obtain ⟨t1, hw⟩ := hw
      refine wo_getR hC fq_Md_20 rfl hG t1 dq_Md_out_53 (fun r2 e3 => ?_)
      replace hw := hw r2 e3
      refine lv_sipush (v := (640 : Int32)) hx hb dq_Md_out_56 rfl ?_
      refine lv_iload_n hx hb dq_Md_out_59 rfl (lx_at hl 1 rfl) ?_
      refine lv_imul hx hb dq_Md_out_60 ?_
      refine lv_iload hx hb dq_Md_out_61 (lx_at hl 4 rfl) ?_
      refine lv_iadd hx hb dq_Md_out_63 ?_
      obtain ⟨a4, rfl, hw⟩ := hw
      obtain ⟨t5, hw⟩ := hw
      obtain ⟨h6, hw⟩ := hw
      refine wo_iald (j := 2) hC rfl hG t5 h6 dq_Md_out_64 ?_
      refine lv_i2l (v := (wo_ei G a4 (((640 : Int32) * x1) + x5).toNatClampNeg).toInt64) hx hb dq_Md_out_65 rfl ?_
      refine lv_ladd hx hb dq_Md_out_66 ?_
      refine lx_lstore_n (lv' := [(2, 2, .long ((x2 * (256 : Int64)) + (wo_ei G a4 (((640 : Int32) * x1) + x5).toNatClampNeg).toInt64)), (0, 1, .ref x0), (1, 1, .int x1), (4, 1, .int x4), (5, 1, .int x5)]) hx hb dq_Md_out_67 rfl hl (by decide) rfl (fun ls hl' => ?_)
      clear hl
      have hl := hl'
      clear hl'
      refine lx_iinc (k := 4) (v := (x5 + (1 : Int32))) (lv' := [(5, 1, .int (x5 + (1 : Int32))), (2, 2, .long ((x2 * (256 : Int64)) + (wo_ei G a4 (((640 : Int32) * x1) + x5).toNatClampNeg).toInt64)), (0, 1, .ref x0), (1, 1, .int x1), (4, 1, .int x4)]) hx hb dq_Md_out_68 hl rfl rfl (by decide) rfl (fun ls hl' => ?_)
      clear hl
      have hl := hl'
      clear hl'
      refine lv_goto (tgt := 40) hx hb dq_Md_out_71 rfl ?_
      exact ih hw hG hS (lx_sub hl [2, 3, 1, 4, 0] rfl) hcc hss
set_option maxRecDepth 100000 in
set_option maxHeartbeats 4000000 in
theorem tq_Md_out_35 {p : Program} {l : Launch} {e : Env} {R : Room} {s₀ : State} {m : MethodId} {args : Array Value} {below : List Frame} {meth : Method} {cd : Code} {E : wo_E} {mc ms : Nat} {Post : Int64 → wo_W → Prop} (hC : wo_Cx E "EdgeCacheModel" prog_14_method_57_code 6 0 0 ((Option.some Jvm.ClassFile.FieldType.long)) "out" mc ms p R s₀ m args meth cd) : ∀ {G : wo_W} {c s : Nat} {x0 : Nat} {x1 : Int32} {x2 : Int64} {y0 : Int32}, pq_Md_out_35 E mc ms Post G c s x0 x1 x2 y0 → ∀ {H : Heap} {locs : List Loc} {ls : Array Slot}, wo_Se E G H → va_S (en_A E) s₀.heap H locs → lx_has ls 6 [(0, 1, .ref x0), (1, 1, .int x1), (2, 2, .long x2)] → c ≤ mc → s ≤ ms → W p l e R s₀ m args below meth cd H locs c s (MQ below (va_Ql Post (wo_B E) (en_A E)) args s₀ mc ms (en_A E)) (F0 m 35 ls [.int y0]) := by
  intro G c s x0 x1 x2 y0 hw H locs ls hG hS hl hcc hss
  dsimp only [pq_Md_out_35] at hw
  have hx := hC.1
  have hb := hC.2.1
  refine lx_istore (lv' := [(4, 1, .int y0), (0, 1, .ref x0), (1, 1, .int x1), (2, 2, .long x2)]) hx hb dq_Md_out_35 hl (by decide) rfl (fun ls hl' => ?_)
  clear hl
  have hl := hl'
  clear hl'
  refine lv_iconst (v := (0 : Int32)) hx hb dq_Md_out_37 rfl ?_
  refine lx_istore (lv' := [(5, 1, .int (0 : Int32)), (4, 1, .int y0), (0, 1, .ref x0), (1, 1, .int x1), (2, 2, .long x2)]) hx hb dq_Md_out_38 hl (by decide) rfl (fun ls hl' => ?_)
  clear hl
  have hl := hl'
  clear hl'
  obtain ⟨n1, hw⟩ := hw
  exact tq_Md_out_40 hC n1 hw hG hS (lx_sub hl [2, 3, 4, 1, 0] rfl) hcc hss
set_option maxRecDepth 100000 in
set_option maxHeartbeats 4000000 in
theorem tq_Md_out_0 {p : Program} {l : Launch} {e : Env} {R : Room} {s₀ : State} {m : MethodId} {args : Array Value} {below : List Frame} {meth : Method} {cd : Code} {E : wo_E} {mc ms : Nat} {Post : Int64 → wo_W → Prop} (hC : wo_Cx E "EdgeCacheModel" prog_14_method_57_code 6 0 0 ((Option.some Jvm.ClassFile.FieldType.long)) "out" mc ms p R s₀ m args meth cd) : ∀ {G : wo_W} {c s : Nat} {x0 : Nat} {x1 : Int32}, pq_Md_out_0 E mc ms Post G c s x0 x1 → ∀ {H : Heap} {locs : List Loc} {ls : Array Slot}, wo_Se E G H → va_S (en_A E) s₀.heap H locs → lx_has ls 6 [(0, 1, .ref x0), (1, 1, .int x1)] → c ≤ mc → s ≤ ms → W p l e R s₀ m args below meth cd H locs c s (MQ below (va_Ql Post (wo_B E) (en_A E)) args s₀ mc ms (en_A E)) (F0 m 0 ls []) := by
  intro G c s x0 x1 hw H locs ls hG hS hl hcc hss
  dsimp only [pq_Md_out_0] at hw
  have hx := hC.1
  have hb := hC.2.1
  refine lv_iload_n hx hb dq_Md_out_0 rfl (lx_at hl 1 rfl) ?_
  refine lv_if_lt (tgt := 9) hx hb dq_Md_out_1 rfl (fun h => ?_) (fun h => ?_)
  · replace hw := hw.1 h
    exact tq_Md_out_9 hC hw hG hS (lx_sub hl [] rfl) hcc hss
  · replace hw := hw.2 h
    refine lv_iload_n hx hb dq_Md_out_4 rfl (lx_at hl 1 rfl) ?_
    refine lv_iconst (v := (2 : Int32)) hx hb dq_Md_out_5 rfl ?_
    refine lv_icmp_le (tgt := 11) hx hb dq_Md_out_6 rfl (fun h => ?_) (fun h => ?_)
    · replace hw := hw.1 h
      refine lv_lconst (v := (0 : Int64)) hx hb dq_Md_out_11 rfl ?_
      refine lx_lstore_n (lv' := [(2, 2, .long (0 : Int64)), (0, 1, .ref x0), (1, 1, .int x1)]) hx hb dq_Md_out_12 rfl hl (by decide) rfl (fun ls hl' => ?_)
      clear hl
      have hl := hl'
      clear hl'
      refine lv_aload_n hx hb dq_Md_out_13 rfl (lx_at hl 1 rfl) ?_
      obtain ⟨t1, hw⟩ := hw
      refine wo_getR hC fq_Md_23 rfl hG t1 dq_Md_out_14 (fun r2 e3 => ?_)
      replace hw := hw r2 e3
      refine lv_iload_n hx hb dq_Md_out_17 rfl (lx_at hl 2 rfl) ?_
      obtain ⟨a4, rfl, hw⟩ := hw
      obtain ⟨t5, hw⟩ := hw
      obtain ⟨h6, hw⟩ := hw
      refine wo_iald (j := 2) hC rfl hG t5 h6 dq_Md_out_18 ?_
      refine lv_bipush (v := (8 : Int32)) hx hb dq_Md_out_19 rfl ?_
      refine lv_icmp_ge (tgt := 33) hx hb dq_Md_out_21 rfl (fun h => ?_) (fun h => ?_)
      · replace hw := hw.1 h
        refine lv_bipush (v := (8 : Int32)) hx hb dq_Md_out_33 rfl ?_
        exact tq_Md_out_35 hC hw hG hS (lx_sub hl [1, 2, 0] rfl) hcc hss
      · replace hw := hw.2 h
        refine lv_aload_n hx hb dq_Md_out_24 rfl (lx_at hl 1 rfl) ?_
        refine wo_getR hC fq_Md_23 rfl hG t1 dq_Md_out_25 (fun r7 e8 => ?_)
        replace hw := hw r7 e8
        refine lv_iload_n hx hb dq_Md_out_28 rfl (lx_at hl 2 rfl) ?_
        obtain ⟨a9, rfl, hw⟩ := hw
        obtain ⟨t10, hw⟩ := hw
        obtain ⟨h11, hw⟩ := hw
        refine wo_iald (j := 2) hC rfl hG t10 h11 dq_Md_out_29 ?_
        refine lv_goto (tgt := 35) hx hb dq_Md_out_30 rfl ?_
        exact tq_Md_out_35 hC hw hG hS (lx_sub hl [1, 2, 0] rfl) hcc hss
    · replace hw := hw.2 h
      exact tq_Md_out_9 hC hw hG hS (lx_sub hl [] rfl) hcc hss
set_option maxHeartbeats 4000000 in
theorem mq_Md_out {l : Launch} {E : wo_E} {mc ms : Nat} {Post : Int64 → wo_W → Prop} {G : wo_W} {x0 : Nat} {x1 : Int32} (hw : pq_Md_out E mc ms Post G x0 x1) : Met l yq_Md_out (Cond.code yq_Md_out prog_14_method_57_code 6 ((Option.some Jvm.ClassFile.FieldType.long)) :: vw_WG) { frames := 0, cells := mc, slots := ms, locals := 0 } (va_Pc [.ref x0, .int x1] (wo_Ok E G)) (va_Ql Post (wo_B E) (en_A E)) mc ms (en_A E) := by
  unfold pq_Md_out at hw
  exact wo_met [(1, .ref x0), (1, .int x1)] rfl (by decide) (fun q hq => by simp only [List.mem_cons, List.not_mem_nil, or_false] at hq; rcases hq with rfl | rfl <;> first | rfl | exact lx_cR _) (Nat.le_of_ble_eq_true rfl) (fun p e R s m args below meth cd ls hC hG hS hl => tq_Md_out_0 hC hw hG hS (lx_sub hl [0, 1] rfl) (Nat.zero_le _) (Nat.zero_le _))

theorem dq_Md_pending_0 : decode prog_14_method_58_code 0 = .ok (.iload_n 1, 1) := by decide +kernel
theorem dq_Md_pending_1 : decode prog_14_method_58_code 1 = .ok (.ifCond .lt 8, 3) := by decide +kernel
theorem dq_Md_pending_4 : decode prog_14_method_58_code 4 = .ok (.iload_n 1, 1) := by decide +kernel
theorem dq_Md_pending_5 : decode prog_14_method_58_code 5 = .ok (.iconst 2, 1) := by decide +kernel
theorem dq_Md_pending_6 : decode prog_14_method_58_code 6 = .ok (.if_icmp .le 7, 3) := by decide +kernel
theorem dq_Md_pending_9 : decode prog_14_method_58_code 9 = .ok (.iconst (-1), 1) := by decide +kernel
theorem dq_Md_pending_10 : decode prog_14_method_58_code 10 = .ok (.goto 9, 3) := by decide +kernel
theorem dq_Md_pending_13 : decode prog_14_method_58_code 13 = .ok (.aload_n 0, 1) := by decide +kernel
theorem dq_Md_pending_14 : decode prog_14_method_58_code 14 = .ok (.getfield 23, 3) := by decide +kernel
theorem dq_Md_pending_17 : decode prog_14_method_58_code 17 = .ok (.iload_n 1, 1) := by decide +kernel
theorem dq_Md_pending_18 : decode prog_14_method_58_code 18 = .ok (.iaload, 1) := by decide +kernel
theorem dq_Md_pending_19 : decode prog_14_method_58_code 19 = .ok (.ireturn, 1) := by decide +kernel
set_option maxRecDepth 100000 in
def pq_Md_pending_19 (E : wo_E) (mc ms : Nat) (Post : Int32 → wo_W → Prop) (G : wo_W) (c s : Nat) (y0 : Int32) : Prop := Post y0 G
set_option maxRecDepth 100000 in
def pq_Md_pending_9 (E : wo_E) (mc ms : Nat) (Post : Int32 → wo_W → Prop) (G : wo_W) (c s : Nat) : Prop := pq_Md_pending_19 E mc ms Post G c s (-1 : Int32)
set_option maxRecDepth 100000 in
def pq_Md_pending_0 (E : wo_E) (mc ms : Nat) (Post : Int32 → wo_W → Prop) (G : wo_W) (c s : Nat) (x0 : Nat) (x1 : Int32) : Prop := ((x1 < (0 : Int32) → pq_Md_pending_9 E mc ms Post G c s) ∧
  (¬ x1 < (0 : Int32) → ((x1 ≤ (2 : Int32) → wo_ty G x0 = 15 ∧ ∀ r2 : Option Nat, r2 = wo_gr G 900 x0 → ∃ a4 : Nat, r2 = some a4 ∧ wo_ty G a4 = 66 ∧ vp_in x1 (wo_len G a4) ∧ pq_Md_pending_19 E mc ms Post G c s (wo_ei G a4 x1.toNatClampNeg)) ∧
    (¬ x1 ≤ (2 : Int32) → pq_Md_pending_9 E mc ms Post G c s))))
def pq_Md_pending (E : wo_E) (mc ms : Nat) (Post : Int32 → wo_W → Prop) (G : wo_W) (x0 : Nat) (x1 : Int32) : Prop := pq_Md_pending_0 E mc ms Post G 0 0 x0 x1
set_option maxRecDepth 100000 in
set_option maxHeartbeats 4000000 in
theorem tq_Md_pending_19 {p : Program} {l : Launch} {e : Env} {R : Room} {s₀ : State} {m : MethodId} {args : Array Value} {below : List Frame} {meth : Method} {cd : Code} {E : wo_E} {mc ms : Nat} {Post : Int32 → wo_W → Prop} (hC : wo_Cx E "EdgeCacheModel" prog_14_method_58_code 2 0 0 ((Option.some Jvm.ClassFile.FieldType.int)) "pending" mc ms p R s₀ m args meth cd) : ∀ {G : wo_W} {c s : Nat} {y0 : Int32}, pq_Md_pending_19 E mc ms Post G c s y0 → ∀ {H : Heap} {locs : List Loc} {ls : Array Slot}, wo_Se E G H → va_S (en_A E) s₀.heap H locs → lx_has ls 2 [] → c ≤ mc → s ≤ ms → W p l e R s₀ m args below meth cd H locs c s (MQ below (va_Qi Post (wo_B E) (en_A E)) args s₀ mc ms (en_A E)) (F0 m 19 ls [.int y0]) := by
  intro G c s y0 hw H locs ls hG hS hl hcc hss
  dsimp only [pq_Md_pending_19] at hw
  have hx := hC.1
  have hb := hC.2.1
  exact wo_iret hC hG hS hcc hss hw dq_Md_pending_19
set_option maxRecDepth 100000 in
set_option maxHeartbeats 4000000 in
theorem tq_Md_pending_9 {p : Program} {l : Launch} {e : Env} {R : Room} {s₀ : State} {m : MethodId} {args : Array Value} {below : List Frame} {meth : Method} {cd : Code} {E : wo_E} {mc ms : Nat} {Post : Int32 → wo_W → Prop} (hC : wo_Cx E "EdgeCacheModel" prog_14_method_58_code 2 0 0 ((Option.some Jvm.ClassFile.FieldType.int)) "pending" mc ms p R s₀ m args meth cd) : ∀ {G : wo_W} {c s : Nat}, pq_Md_pending_9 E mc ms Post G c s → ∀ {H : Heap} {locs : List Loc} {ls : Array Slot}, wo_Se E G H → va_S (en_A E) s₀.heap H locs → lx_has ls 2 [] → c ≤ mc → s ≤ ms → W p l e R s₀ m args below meth cd H locs c s (MQ below (va_Qi Post (wo_B E) (en_A E)) args s₀ mc ms (en_A E)) (F0 m 9 ls []) := by
  intro G c s hw H locs ls hG hS hl hcc hss
  dsimp only [pq_Md_pending_9] at hw
  have hx := hC.1
  have hb := hC.2.1
  refine lv_iconst (v := (-1 : Int32)) hx hb dq_Md_pending_9 rfl ?_
  refine lv_goto (tgt := 19) hx hb dq_Md_pending_10 rfl ?_
  exact tq_Md_pending_19 hC hw hG hS (lx_sub hl [] rfl) hcc hss
set_option maxRecDepth 100000 in
set_option maxHeartbeats 4000000 in
theorem tq_Md_pending_0 {p : Program} {l : Launch} {e : Env} {R : Room} {s₀ : State} {m : MethodId} {args : Array Value} {below : List Frame} {meth : Method} {cd : Code} {E : wo_E} {mc ms : Nat} {Post : Int32 → wo_W → Prop} (hC : wo_Cx E "EdgeCacheModel" prog_14_method_58_code 2 0 0 ((Option.some Jvm.ClassFile.FieldType.int)) "pending" mc ms p R s₀ m args meth cd) : ∀ {G : wo_W} {c s : Nat} {x0 : Nat} {x1 : Int32}, pq_Md_pending_0 E mc ms Post G c s x0 x1 → ∀ {H : Heap} {locs : List Loc} {ls : Array Slot}, wo_Se E G H → va_S (en_A E) s₀.heap H locs → lx_has ls 2 [(0, 1, .ref x0), (1, 1, .int x1)] → c ≤ mc → s ≤ ms → W p l e R s₀ m args below meth cd H locs c s (MQ below (va_Qi Post (wo_B E) (en_A E)) args s₀ mc ms (en_A E)) (F0 m 0 ls []) := by
  intro G c s x0 x1 hw H locs ls hG hS hl hcc hss
  dsimp only [pq_Md_pending_0] at hw
  have hx := hC.1
  have hb := hC.2.1
  refine lv_iload_n hx hb dq_Md_pending_0 rfl (lx_at hl 1 rfl) ?_
  refine lv_if_lt (tgt := 9) hx hb dq_Md_pending_1 rfl (fun h => ?_) (fun h => ?_)
  · replace hw := hw.1 h
    exact tq_Md_pending_9 hC hw hG hS (lx_sub hl [] rfl) hcc hss
  · replace hw := hw.2 h
    refine lv_iload_n hx hb dq_Md_pending_4 rfl (lx_at hl 1 rfl) ?_
    refine lv_iconst (v := (2 : Int32)) hx hb dq_Md_pending_5 rfl ?_
    refine lv_icmp_le (tgt := 13) hx hb dq_Md_pending_6 rfl (fun h => ?_) (fun h => ?_)
    · replace hw := hw.1 h
      refine lv_aload_n hx hb dq_Md_pending_13 rfl (lx_at hl 0 rfl) ?_
      obtain ⟨t1, hw⟩ := hw
      refine wo_getR hC fq_Md_23 rfl hG t1 dq_Md_pending_14 (fun r2 e3 => ?_)
      replace hw := hw r2 e3
      refine lv_iload_n hx hb dq_Md_pending_17 rfl (lx_at hl 1 rfl) ?_
      obtain ⟨a4, rfl, hw⟩ := hw
      obtain ⟨t5, hw⟩ := hw
      obtain ⟨h6, hw⟩ := hw
      refine wo_iald (j := 2) hC rfl hG t5 h6 dq_Md_pending_18 ?_
      exact tq_Md_pending_19 hC hw hG hS (lx_sub hl [] rfl) hcc hss
    · replace hw := hw.2 h
      exact tq_Md_pending_9 hC hw hG hS (lx_sub hl [] rfl) hcc hss
set_option maxHeartbeats 4000000 in
theorem mq_Md_pending {l : Launch} {E : wo_E} {mc ms : Nat} {Post : Int32 → wo_W → Prop} {G : wo_W} {x0 : Nat} {x1 : Int32} (hw : pq_Md_pending E mc ms Post G x0 x1) : Met l yq_Md_pending (Cond.code yq_Md_pending prog_14_method_58_code 2 ((Option.some Jvm.ClassFile.FieldType.int)) :: vw_WG) { frames := 0, cells := mc, slots := ms, locals := 0 } (va_Pc [.ref x0, .int x1] (wo_Ok E G)) (va_Qi Post (wo_B E) (en_A E)) mc ms (en_A E) := by
  unfold pq_Md_pending at hw
  exact wo_met [(1, .ref x0), (1, .int x1)] rfl (by decide) (fun q hq => by simp only [List.mem_cons, List.not_mem_nil, or_false] at hq; rcases hq with rfl | rfl <;> first | rfl | exact lx_cR _) (Nat.le_of_ble_eq_true rfl) (fun p e R s m args below meth cd ls hC hG hS hl => tq_Md_pending_0 hC hw hG hS (lx_sub hl [0, 1] rfl) (Nat.zero_le _) (Nat.zero_le _))

theorem dq_Md_waiting_0 : decode prog_14_method_59_code 0 = .ok (.iload_n 1, 1) := by decide +kernel
theorem dq_Md_waiting_1 : decode prog_14_method_59_code 1 = .ok (.ifCond .lt 8, 3) := by decide +kernel
theorem dq_Md_waiting_4 : decode prog_14_method_59_code 4 = .ok (.iload_n 1, 1) := by decide +kernel
theorem dq_Md_waiting_5 : decode prog_14_method_59_code 5 = .ok (.iconst 2, 1) := by decide +kernel
theorem dq_Md_waiting_6 : decode prog_14_method_59_code 6 = .ok (.if_icmp .le 7, 3) := by decide +kernel
theorem dq_Md_waiting_9 : decode prog_14_method_59_code 9 = .ok (.iconst (-1), 1) := by decide +kernel
theorem dq_Md_waiting_10 : decode prog_14_method_59_code 10 = .ok (.goto 9, 3) := by decide +kernel
theorem dq_Md_waiting_13 : decode prog_14_method_59_code 13 = .ok (.aload_n 0, 1) := by decide +kernel
theorem dq_Md_waiting_14 : decode prog_14_method_59_code 14 = .ok (.getfield 35, 3) := by decide +kernel
theorem dq_Md_waiting_17 : decode prog_14_method_59_code 17 = .ok (.iload_n 1, 1) := by decide +kernel
theorem dq_Md_waiting_18 : decode prog_14_method_59_code 18 = .ok (.iaload, 1) := by decide +kernel
theorem dq_Md_waiting_19 : decode prog_14_method_59_code 19 = .ok (.ireturn, 1) := by decide +kernel
set_option maxRecDepth 100000 in
def pq_Md_waiting_19 (E : wo_E) (mc ms : Nat) (Post : Int32 → wo_W → Prop) (G : wo_W) (c s : Nat) (y0 : Int32) : Prop := Post y0 G
set_option maxRecDepth 100000 in
def pq_Md_waiting_9 (E : wo_E) (mc ms : Nat) (Post : Int32 → wo_W → Prop) (G : wo_W) (c s : Nat) : Prop := pq_Md_waiting_19 E mc ms Post G c s (-1 : Int32)
set_option maxRecDepth 100000 in
def pq_Md_waiting_0 (E : wo_E) (mc ms : Nat) (Post : Int32 → wo_W → Prop) (G : wo_W) (c s : Nat) (x0 : Nat) (x1 : Int32) : Prop := ((x1 < (0 : Int32) → pq_Md_waiting_9 E mc ms Post G c s) ∧
  (¬ x1 < (0 : Int32) → ((x1 ≤ (2 : Int32) → wo_ty G x0 = 15 ∧ ∀ r2 : Option Nat, r2 = wo_gr G 904 x0 → ∃ a4 : Nat, r2 = some a4 ∧ wo_ty G a4 = 66 ∧ vp_in x1 (wo_len G a4) ∧ pq_Md_waiting_19 E mc ms Post G c s (wo_ei G a4 x1.toNatClampNeg)) ∧
    (¬ x1 ≤ (2 : Int32) → pq_Md_waiting_9 E mc ms Post G c s))))
def pq_Md_waiting (E : wo_E) (mc ms : Nat) (Post : Int32 → wo_W → Prop) (G : wo_W) (x0 : Nat) (x1 : Int32) : Prop := pq_Md_waiting_0 E mc ms Post G 0 0 x0 x1
set_option maxRecDepth 100000 in
set_option maxHeartbeats 4000000 in
theorem tq_Md_waiting_19 {p : Program} {l : Launch} {e : Env} {R : Room} {s₀ : State} {m : MethodId} {args : Array Value} {below : List Frame} {meth : Method} {cd : Code} {E : wo_E} {mc ms : Nat} {Post : Int32 → wo_W → Prop} (hC : wo_Cx E "EdgeCacheModel" prog_14_method_59_code 2 0 0 ((Option.some Jvm.ClassFile.FieldType.int)) "waiting" mc ms p R s₀ m args meth cd) : ∀ {G : wo_W} {c s : Nat} {y0 : Int32}, pq_Md_waiting_19 E mc ms Post G c s y0 → ∀ {H : Heap} {locs : List Loc} {ls : Array Slot}, wo_Se E G H → va_S (en_A E) s₀.heap H locs → lx_has ls 2 [] → c ≤ mc → s ≤ ms → W p l e R s₀ m args below meth cd H locs c s (MQ below (va_Qi Post (wo_B E) (en_A E)) args s₀ mc ms (en_A E)) (F0 m 19 ls [.int y0]) := by
  intro G c s y0 hw H locs ls hG hS hl hcc hss
  dsimp only [pq_Md_waiting_19] at hw
  have hx := hC.1
  have hb := hC.2.1
  exact wo_iret hC hG hS hcc hss hw dq_Md_waiting_19
set_option maxRecDepth 100000 in
set_option maxHeartbeats 4000000 in
theorem tq_Md_waiting_9 {p : Program} {l : Launch} {e : Env} {R : Room} {s₀ : State} {m : MethodId} {args : Array Value} {below : List Frame} {meth : Method} {cd : Code} {E : wo_E} {mc ms : Nat} {Post : Int32 → wo_W → Prop} (hC : wo_Cx E "EdgeCacheModel" prog_14_method_59_code 2 0 0 ((Option.some Jvm.ClassFile.FieldType.int)) "waiting" mc ms p R s₀ m args meth cd) : ∀ {G : wo_W} {c s : Nat}, pq_Md_waiting_9 E mc ms Post G c s → ∀ {H : Heap} {locs : List Loc} {ls : Array Slot}, wo_Se E G H → va_S (en_A E) s₀.heap H locs → lx_has ls 2 [] → c ≤ mc → s ≤ ms → W p l e R s₀ m args below meth cd H locs c s (MQ below (va_Qi Post (wo_B E) (en_A E)) args s₀ mc ms (en_A E)) (F0 m 9 ls []) := by
  intro G c s hw H locs ls hG hS hl hcc hss
  dsimp only [pq_Md_waiting_9] at hw
  have hx := hC.1
  have hb := hC.2.1
  refine lv_iconst (v := (-1 : Int32)) hx hb dq_Md_waiting_9 rfl ?_
  refine lv_goto (tgt := 19) hx hb dq_Md_waiting_10 rfl ?_
  exact tq_Md_waiting_19 hC hw hG hS (lx_sub hl [] rfl) hcc hss
set_option maxRecDepth 100000 in
set_option maxHeartbeats 4000000 in
theorem tq_Md_waiting_0 {p : Program} {l : Launch} {e : Env} {R : Room} {s₀ : State} {m : MethodId} {args : Array Value} {below : List Frame} {meth : Method} {cd : Code} {E : wo_E} {mc ms : Nat} {Post : Int32 → wo_W → Prop} (hC : wo_Cx E "EdgeCacheModel" prog_14_method_59_code 2 0 0 ((Option.some Jvm.ClassFile.FieldType.int)) "waiting" mc ms p R s₀ m args meth cd) : ∀ {G : wo_W} {c s : Nat} {x0 : Nat} {x1 : Int32}, pq_Md_waiting_0 E mc ms Post G c s x0 x1 → ∀ {H : Heap} {locs : List Loc} {ls : Array Slot}, wo_Se E G H → va_S (en_A E) s₀.heap H locs → lx_has ls 2 [(0, 1, .ref x0), (1, 1, .int x1)] → c ≤ mc → s ≤ ms → W p l e R s₀ m args below meth cd H locs c s (MQ below (va_Qi Post (wo_B E) (en_A E)) args s₀ mc ms (en_A E)) (F0 m 0 ls []) := by
  intro G c s x0 x1 hw H locs ls hG hS hl hcc hss
  dsimp only [pq_Md_waiting_0] at hw
  have hx := hC.1
  have hb := hC.2.1
  refine lv_iload_n hx hb dq_Md_waiting_0 rfl (lx_at hl 1 rfl) ?_
  refine lv_if_lt (tgt := 9) hx hb dq_Md_waiting_1 rfl (fun h => ?_) (fun h => ?_)
  · replace hw := hw.1 h
    exact tq_Md_waiting_9 hC hw hG hS (lx_sub hl [] rfl) hcc hss
  · replace hw := hw.2 h
    refine lv_iload_n hx hb dq_Md_waiting_4 rfl (lx_at hl 1 rfl) ?_
    refine lv_iconst (v := (2 : Int32)) hx hb dq_Md_waiting_5 rfl ?_
    refine lv_icmp_le (tgt := 13) hx hb dq_Md_waiting_6 rfl (fun h => ?_) (fun h => ?_)
    · replace hw := hw.1 h
      refine lv_aload_n hx hb dq_Md_waiting_13 rfl (lx_at hl 0 rfl) ?_
      obtain ⟨t1, hw⟩ := hw
      refine wo_getR hC fq_Md_35 rfl hG t1 dq_Md_waiting_14 (fun r2 e3 => ?_)
      replace hw := hw r2 e3
      refine lv_iload_n hx hb dq_Md_waiting_17 rfl (lx_at hl 1 rfl) ?_
      obtain ⟨a4, rfl, hw⟩ := hw
      obtain ⟨t5, hw⟩ := hw
      obtain ⟨h6, hw⟩ := hw
      refine wo_iald (j := 2) hC rfl hG t5 h6 dq_Md_waiting_18 ?_
      exact tq_Md_waiting_19 hC hw hG hS (lx_sub hl [] rfl) hcc hss
    · replace hw := hw.2 h
      exact tq_Md_waiting_9 hC hw hG hS (lx_sub hl [] rfl) hcc hss
set_option maxHeartbeats 4000000 in
theorem mq_Md_waiting {l : Launch} {E : wo_E} {mc ms : Nat} {Post : Int32 → wo_W → Prop} {G : wo_W} {x0 : Nat} {x1 : Int32} (hw : pq_Md_waiting E mc ms Post G x0 x1) : Met l yq_Md_waiting (Cond.code yq_Md_waiting prog_14_method_59_code 2 ((Option.some Jvm.ClassFile.FieldType.int)) :: vw_WG) { frames := 0, cells := mc, slots := ms, locals := 0 } (va_Pc [.ref x0, .int x1] (wo_Ok E G)) (va_Qi Post (wo_B E) (en_A E)) mc ms (en_A E) := by
  unfold pq_Md_waiting at hw
  exact wo_met [(1, .ref x0), (1, .int x1)] rfl (by decide) (fun q hq => by simp only [List.mem_cons, List.not_mem_nil, or_false] at hq; rcases hq with rfl | rfl <;> first | rfl | exact lx_cR _) (Nat.le_of_ble_eq_true rfl) (fun p e R s m args below meth cd ls hC hG hS hl => tq_Md_waiting_0 hC hw hG hS (lx_sub hl [0, 1] rfl) (Nat.zero_le _) (Nat.zero_le _))

theorem dq_Md_open_0 : decode prog_14_method_60_code 0 = .ok (.iload_n 1, 1) := by decide +kernel
theorem dq_Md_open_1 : decode prog_14_method_60_code 1 = .ok (.ifCond .lt 21, 3) := by decide +kernel
theorem dq_Md_open_4 : decode prog_14_method_60_code 4 = .ok (.iload_n 1, 1) := by decide +kernel
theorem dq_Md_open_5 : decode prog_14_method_60_code 5 = .ok (.iconst 2, 1) := by decide +kernel
theorem dq_Md_open_6 : decode prog_14_method_60_code 6 = .ok (.if_icmp .gt 16, 3) := by decide +kernel
theorem dq_Md_open_9 : decode prog_14_method_60_code 9 = .ok (.aload_n 0, 1) := by decide +kernel
theorem dq_Md_open_10 : decode prog_14_method_60_code 10 = .ok (.getfield 16, 3) := by decide +kernel
theorem dq_Md_open_13 : decode prog_14_method_60_code 13 = .ok (.iload_n 1, 1) := by decide +kernel
theorem dq_Md_open_14 : decode prog_14_method_60_code 14 = .ok (.baload, 1) := by decide +kernel
theorem dq_Md_open_15 : decode prog_14_method_60_code 15 = .ok (.ifCond .ne 7, 3) := by decide +kernel
theorem dq_Md_open_18 : decode prog_14_method_60_code 18 = .ok (.iconst 1, 1) := by decide +kernel
theorem dq_Md_open_19 : decode prog_14_method_60_code 19 = .ok (.goto 4, 3) := by decide +kernel
theorem dq_Md_open_22 : decode prog_14_method_60_code 22 = .ok (.iconst 0, 1) := by decide +kernel
theorem dq_Md_open_23 : decode prog_14_method_60_code 23 = .ok (.ireturn, 1) := by decide +kernel
set_option maxRecDepth 100000 in
def pq_Md_open_23 (E : wo_E) (mc ms : Nat) (Post : Int32 → wo_W → Prop) (G : wo_W) (c s : Nat) (y0 : Int32) : Prop := wo_okI .boolean y0 ∧ Post y0 G
set_option maxRecDepth 100000 in
def pq_Md_open_22 (E : wo_E) (mc ms : Nat) (Post : Int32 → wo_W → Prop) (G : wo_W) (c s : Nat) : Prop := pq_Md_open_23 E mc ms Post G c s (0 : Int32)
set_option maxRecDepth 100000 in
def pq_Md_open_0 (E : wo_E) (mc ms : Nat) (Post : Int32 → wo_W → Prop) (G : wo_W) (c s : Nat) (x0 : Nat) (x1 : Int32) : Prop := ((x1 < (0 : Int32) → pq_Md_open_22 E mc ms Post G c s) ∧
  (¬ x1 < (0 : Int32) → (((2 : Int32) < x1 → pq_Md_open_22 E mc ms Post G c s) ∧
    (¬ (2 : Int32) < x1 → wo_ty G x0 = 15 ∧ ∀ r2 : Option Nat, r2 = wo_gr G 898 x0 → ∃ a4 : Nat, r2 = some a4 ∧ wo_ty G a4 = 72 ∧ vp_in x1 (wo_len G a4) ∧ ((¬ (wo_ei G a4 x1.toNatClampNeg) = (0 : Int32) → pq_Md_open_22 E mc ms Post G c s) ∧
      ((wo_ei G a4 x1.toNatClampNeg) = (0 : Int32) → pq_Md_open_23 E mc ms Post G c s (1 : Int32)))))))
def pq_Md_open (E : wo_E) (mc ms : Nat) (Post : Int32 → wo_W → Prop) (G : wo_W) (x0 : Nat) (x1 : Int32) : Prop := pq_Md_open_0 E mc ms Post G 0 0 x0 x1
set_option maxRecDepth 100000 in
set_option maxHeartbeats 4000000 in
theorem tq_Md_open_23 {p : Program} {l : Launch} {e : Env} {R : Room} {s₀ : State} {m : MethodId} {args : Array Value} {below : List Frame} {meth : Method} {cd : Code} {E : wo_E} {mc ms : Nat} {Post : Int32 → wo_W → Prop} (hC : wo_Cx E "EdgeCacheModel" prog_14_method_60_code 2 0 0 ((Option.some Jvm.ClassFile.FieldType.boolean)) "open" mc ms p R s₀ m args meth cd) : ∀ {G : wo_W} {c s : Nat} {y0 : Int32}, pq_Md_open_23 E mc ms Post G c s y0 → ∀ {H : Heap} {locs : List Loc} {ls : Array Slot}, wo_Se E G H → va_S (en_A E) s₀.heap H locs → lx_has ls 2 [] → c ≤ mc → s ≤ ms → W p l e R s₀ m args below meth cd H locs c s (MQ below (va_Qi Post (wo_B E) (en_A E)) args s₀ mc ms (en_A E)) (F0 m 23 ls [.int y0]) := by
  intro G c s y0 hw H locs ls hG hS hl hcc hss
  dsimp only [pq_Md_open_23] at hw
  have hx := hC.1
  have hb := hC.2.1
  obtain ⟨h1, hw⟩ := hw
  exact wo_zret hC h1.1 hG hS hcc hss hw dq_Md_open_23
set_option maxRecDepth 100000 in
set_option maxHeartbeats 4000000 in
theorem tq_Md_open_22 {p : Program} {l : Launch} {e : Env} {R : Room} {s₀ : State} {m : MethodId} {args : Array Value} {below : List Frame} {meth : Method} {cd : Code} {E : wo_E} {mc ms : Nat} {Post : Int32 → wo_W → Prop} (hC : wo_Cx E "EdgeCacheModel" prog_14_method_60_code 2 0 0 ((Option.some Jvm.ClassFile.FieldType.boolean)) "open" mc ms p R s₀ m args meth cd) : ∀ {G : wo_W} {c s : Nat}, pq_Md_open_22 E mc ms Post G c s → ∀ {H : Heap} {locs : List Loc} {ls : Array Slot}, wo_Se E G H → va_S (en_A E) s₀.heap H locs → lx_has ls 2 [] → c ≤ mc → s ≤ ms → W p l e R s₀ m args below meth cd H locs c s (MQ below (va_Qi Post (wo_B E) (en_A E)) args s₀ mc ms (en_A E)) (F0 m 22 ls []) := by
  intro G c s hw H locs ls hG hS hl hcc hss
  dsimp only [pq_Md_open_22] at hw
  have hx := hC.1
  have hb := hC.2.1
  refine lv_iconst (v := (0 : Int32)) hx hb dq_Md_open_22 rfl ?_
  exact tq_Md_open_23 hC hw hG hS (lx_sub hl [] rfl) hcc hss
set_option maxRecDepth 100000 in
set_option maxHeartbeats 4000000 in
theorem tq_Md_open_0 {p : Program} {l : Launch} {e : Env} {R : Room} {s₀ : State} {m : MethodId} {args : Array Value} {below : List Frame} {meth : Method} {cd : Code} {E : wo_E} {mc ms : Nat} {Post : Int32 → wo_W → Prop} (hC : wo_Cx E "EdgeCacheModel" prog_14_method_60_code 2 0 0 ((Option.some Jvm.ClassFile.FieldType.boolean)) "open" mc ms p R s₀ m args meth cd) : ∀ {G : wo_W} {c s : Nat} {x0 : Nat} {x1 : Int32}, pq_Md_open_0 E mc ms Post G c s x0 x1 → ∀ {H : Heap} {locs : List Loc} {ls : Array Slot}, wo_Se E G H → va_S (en_A E) s₀.heap H locs → lx_has ls 2 [(0, 1, .ref x0), (1, 1, .int x1)] → c ≤ mc → s ≤ ms → W p l e R s₀ m args below meth cd H locs c s (MQ below (va_Qi Post (wo_B E) (en_A E)) args s₀ mc ms (en_A E)) (F0 m 0 ls []) := by
  intro G c s x0 x1 hw H locs ls hG hS hl hcc hss
  dsimp only [pq_Md_open_0] at hw
  have hx := hC.1
  have hb := hC.2.1
  refine lv_iload_n hx hb dq_Md_open_0 rfl (lx_at hl 1 rfl) ?_
  refine lv_if_lt (tgt := 22) hx hb dq_Md_open_1 rfl (fun h => ?_) (fun h => ?_)
  · replace hw := hw.1 h
    exact tq_Md_open_22 hC hw hG hS (lx_sub hl [] rfl) hcc hss
  · replace hw := hw.2 h
    refine lv_iload_n hx hb dq_Md_open_4 rfl (lx_at hl 1 rfl) ?_
    refine lv_iconst (v := (2 : Int32)) hx hb dq_Md_open_5 rfl ?_
    refine lv_icmp_gt (tgt := 22) hx hb dq_Md_open_6 rfl (fun h => ?_) (fun h => ?_)
    · replace hw := hw.1 h
      exact tq_Md_open_22 hC hw hG hS (lx_sub hl [] rfl) hcc hss
    · replace hw := hw.2 h
      refine lv_aload_n hx hb dq_Md_open_9 rfl (lx_at hl 0 rfl) ?_
      obtain ⟨t1, hw⟩ := hw
      refine wo_getR hC fq_Md_16 rfl hG t1 dq_Md_open_10 (fun r2 e3 => ?_)
      replace hw := hw r2 e3
      refine lv_iload_n hx hb dq_Md_open_13 rfl (lx_at hl 1 rfl) ?_
      obtain ⟨a4, rfl, hw⟩ := hw
      obtain ⟨t5, hw⟩ := hw
      obtain ⟨h6, hw⟩ := hw
      refine wo_zald (j := 8) hC rfl hG t5 h6 dq_Md_open_14 ?_
      refine lv_if_ne (tgt := 22) hx hb dq_Md_open_15 rfl (fun h => ?_) (fun h => ?_)
      · replace hw := hw.1 h
        exact tq_Md_open_22 hC hw hG hS (lx_sub hl [] rfl) hcc hss
      · replace hw := hw.2 h
        refine lv_iconst (v := (1 : Int32)) hx hb dq_Md_open_18 rfl ?_
        refine lv_goto (tgt := 23) hx hb dq_Md_open_19 rfl ?_
        exact tq_Md_open_23 hC hw hG hS (lx_sub hl [] rfl) hcc hss
set_option maxHeartbeats 4000000 in
theorem mq_Md_open {l : Launch} {E : wo_E} {mc ms : Nat} {Post : Int32 → wo_W → Prop} {G : wo_W} {x0 : Nat} {x1 : Int32} (hw : pq_Md_open E mc ms Post G x0 x1) : Met l yq_Md_open (Cond.code yq_Md_open prog_14_method_60_code 2 ((Option.some Jvm.ClassFile.FieldType.boolean)) :: vw_WG) { frames := 0, cells := mc, slots := ms, locals := 0 } (va_Pc [.ref x0, .int x1] (wo_Ok E G)) (va_Qi Post (wo_B E) (en_A E)) mc ms (en_A E) := by
  unfold pq_Md_open at hw
  exact wo_met [(1, .ref x0), (1, .int x1)] rfl (by decide) (fun q hq => by simp only [List.mem_cons, List.not_mem_nil, or_false] at hq; rcases hq with rfl | rfl <;> first | rfl | exact lx_cR _) (Nat.le_of_ble_eq_true rfl) (fun p e R s m args below meth cd ls hC hG hS hl => tq_Md_open_0 hC hw hG hS (lx_sub hl [0, 1] rfl) (Nat.zero_le _) (Nat.zero_le _))

theorem dq_Md_upstream_0 : decode prog_14_method_61_code 0 = .ok (.iload_n 1, 1) := by decide +kernel
theorem dq_Md_upstream_1 : decode prog_14_method_61_code 1 = .ok (.ifCond .lt 8, 3) := by decide +kernel
theorem dq_Md_upstream_4 : decode prog_14_method_61_code 4 = .ok (.iload_n 1, 1) := by decide +kernel
theorem dq_Md_upstream_5 : decode prog_14_method_61_code 5 = .ok (.iconst 1, 1) := by decide +kernel
theorem dq_Md_upstream_6 : decode prog_14_method_61_code 6 = .ok (.if_icmp .le 8, 3) := by decide +kernel
theorem dq_Md_upstream_9 : decode prog_14_method_61_code 9 = .ok (.bipush (-2), 2) := by decide +kernel
theorem dq_Md_upstream_11 : decode prog_14_method_61_code 11 = .ok (.goto 8, 3) := by decide +kernel
theorem dq_Md_upstream_14 : decode prog_14_method_61_code 14 = .ok (.aload_n 0, 1) := by decide +kernel
theorem dq_Md_upstream_15 : decode prog_14_method_61_code 15 = .ok (.iload_n 1, 1) := by decide +kernel
theorem dq_Md_upstream_16 : decode prog_14_method_61_code 16 = .ok (.invokevirtual 373, 3) := by decide +kernel
theorem dq_Md_upstream_19 : decode prog_14_method_61_code 19 = .ok (.istore_n 2, 1) := by decide +kernel
theorem dq_Md_upstream_20 : decode prog_14_method_61_code 20 = .ok (.iload_n 2, 1) := by decide +kernel
theorem dq_Md_upstream_21 : decode prog_14_method_61_code 21 = .ok (.bipush (-2), 2) := by decide +kernel
theorem dq_Md_upstream_23 : decode prog_14_method_61_code 23 = .ok (.if_icmp .ne 7, 3) := by decide +kernel
theorem dq_Md_upstream_26 : decode prog_14_method_61_code 26 = .ok (.iconst (-1), 1) := by decide +kernel
theorem dq_Md_upstream_27 : decode prog_14_method_61_code 27 = .ok (.goto 19, 3) := by decide +kernel
theorem dq_Md_upstream_30 : decode prog_14_method_61_code 30 = .ok (.iload_n 2, 1) := by decide +kernel
theorem dq_Md_upstream_31 : decode prog_14_method_61_code 31 = .ok (.ifCond .ge 7, 3) := by decide +kernel
theorem dq_Md_upstream_34 : decode prog_14_method_61_code 34 = .ok (.iconst 0, 1) := by decide +kernel
theorem dq_Md_upstream_35 : decode prog_14_method_61_code 35 = .ok (.goto 11, 3) := by decide +kernel
theorem dq_Md_upstream_38 : decode prog_14_method_61_code 38 = .ok (.aload_n 0, 1) := by decide +kernel
theorem dq_Md_upstream_39 : decode prog_14_method_61_code 39 = .ok (.getfield 69, 3) := by decide +kernel
theorem dq_Md_upstream_42 : decode prog_14_method_61_code 42 = .ok (.iload_n 2, 1) := by decide +kernel
theorem dq_Md_upstream_43 : decode prog_14_method_61_code 43 = .ok (.iaload, 1) := by decide +kernel
theorem dq_Md_upstream_44 : decode prog_14_method_61_code 44 = .ok (.iconst 1, 1) := by decide +kernel
theorem dq_Md_upstream_45 : decode prog_14_method_61_code 45 = .ok (.isub, 1) := by decide +kernel
theorem dq_Md_upstream_46 : decode prog_14_method_61_code 46 = .ok (.ireturn, 1) := by decide +kernel
set_option maxRecDepth 100000 in
def pq_Md_upstream_46 (E : wo_E) (mc ms : Nat) (Post : Int32 → wo_W → Prop) (G : wo_W) (c s : Nat) (y0 : Int32) : Prop := Post y0 G
set_option maxRecDepth 100000 in
def pq_Md_upstream_19 (E : wo_E) (mc ms : Nat) (Post : Int32 → wo_W → Prop) (G : wo_W) (c s : Nat) (x0 : Nat) (y0 : Int32) : Prop := ((¬ y0 = (-2 : Int32) → (((0 : Int32) ≤ y0 → wo_ty G x0 = 15 ∧ ∀ r2 : Option Nat, r2 = wo_gr G 918 x0 → ∃ a4 : Nat, r2 = some a4 ∧ wo_ty G a4 = 66 ∧ vp_in y0 (wo_len G a4) ∧ pq_Md_upstream_46 E mc ms Post G c s ((wo_ei G a4 y0.toNatClampNeg) - (1 : Int32))) ∧
    (¬ (0 : Int32) ≤ y0 → pq_Md_upstream_46 E mc ms Post G c s (0 : Int32)))) ∧
  (y0 = (-2 : Int32) → pq_Md_upstream_46 E mc ms Post G c s (-1 : Int32)))
set_option maxRecDepth 100000 in
def pq_Md_upstream_9 (E : wo_E) (mc ms : Nat) (Post : Int32 → wo_W → Prop) (G : wo_W) (c s : Nat) (x0 : Nat) : Prop := pq_Md_upstream_19 E mc ms Post G c s x0 (-2 : Int32)
set_option maxRecDepth 100000 in
def pq_Md_upstream_0 (E : wo_E) (mc ms : Nat) (Post : Int32 → wo_W → Prop) (G : wo_W) (c s : Nat) (x0 : Nat) (x1 : Int32) : Prop := ((x1 < (0 : Int32) → pq_Md_upstream_9 E mc ms Post G c s x0) ∧
  (¬ x1 < (0 : Int32) → ((x1 ≤ (1 : Int32) → wo_ty G x0 = 15 ∧ ∃ mc2 ms3 : Nat, (c + mc2) ≤ mc ∧ (s + ms3) ≤ ms ∧ pq_Md_jobOn E mc2 ms3 (fun v5 G4 => 
      pq_Md_upstream_19 E mc ms Post G4 (c + mc2) (s + ms3) x0 v5) G x0 x1) ∧
    (¬ x1 ≤ (1 : Int32) → pq_Md_upstream_9 E mc ms Post G c s x0))))
def pq_Md_upstream (E : wo_E) (mc ms : Nat) (Post : Int32 → wo_W → Prop) (G : wo_W) (x0 : Nat) (x1 : Int32) : Prop := pq_Md_upstream_0 E mc ms Post G 0 0 x0 x1
set_option maxRecDepth 100000 in
set_option maxHeartbeats 4000000 in
theorem tq_Md_upstream_46 {p : Program} {l : Launch} {e : Env} {R : Room} {s₀ : State} {m : MethodId} {args : Array Value} {below : List Frame} {meth : Method} {cd : Code} {E : wo_E} {mc ms : Nat} {Post : Int32 → wo_W → Prop} (hC : wo_Cx E "EdgeCacheModel" prog_14_method_61_code 3 1 22 ((Option.some Jvm.ClassFile.FieldType.int)) "upstream" mc ms p R s₀ m args meth cd) : ∀ {G : wo_W} {c s : Nat} {y0 : Int32}, pq_Md_upstream_46 E mc ms Post G c s y0 → ∀ {H : Heap} {locs : List Loc} {ls : Array Slot}, wo_Se E G H → va_S (en_A E) s₀.heap H locs → lx_has ls 3 [] → c ≤ mc → s ≤ ms → W p l e R s₀ m args below meth cd H locs c s (MQ below (va_Qi Post (wo_B E) (en_A E)) args s₀ mc ms (en_A E)) (F0 m 46 ls [.int y0]) := by
  intro G c s y0 hw H locs ls hG hS hl hcc hss
  dsimp only [pq_Md_upstream_46] at hw
  have hx := hC.1
  have hb := hC.2.1
  exact wo_iret hC hG hS hcc hss hw dq_Md_upstream_46
set_option maxRecDepth 100000 in
set_option maxHeartbeats 4000000 in
theorem tq_Md_upstream_19 {p : Program} {l : Launch} {e : Env} {R : Room} {s₀ : State} {m : MethodId} {args : Array Value} {below : List Frame} {meth : Method} {cd : Code} {E : wo_E} {mc ms : Nat} {Post : Int32 → wo_W → Prop} (hC : wo_Cx E "EdgeCacheModel" prog_14_method_61_code 3 1 22 ((Option.some Jvm.ClassFile.FieldType.int)) "upstream" mc ms p R s₀ m args meth cd) : ∀ {G : wo_W} {c s : Nat} {x0 : Nat} {y0 : Int32}, pq_Md_upstream_19 E mc ms Post G c s x0 y0 → ∀ {H : Heap} {locs : List Loc} {ls : Array Slot}, wo_Se E G H → va_S (en_A E) s₀.heap H locs → lx_has ls 3 [(0, 1, .ref x0)] → c ≤ mc → s ≤ ms → W p l e R s₀ m args below meth cd H locs c s (MQ below (va_Qi Post (wo_B E) (en_A E)) args s₀ mc ms (en_A E)) (F0 m 19 ls [.int y0]) := by
  intro G c s x0 y0 hw H locs ls hG hS hl hcc hss
  dsimp only [pq_Md_upstream_19] at hw
  have hx := hC.1
  have hb := hC.2.1
  refine lx_istore_n (lv' := [(2, 1, .int y0), (0, 1, .ref x0)]) hx hb dq_Md_upstream_19 rfl hl (by decide) rfl (fun ls hl' => ?_)
  clear hl
  have hl := hl'
  clear hl'
  refine lv_iload_n hx hb dq_Md_upstream_20 rfl (lx_at hl 0 rfl) ?_
  refine lv_bipush (v := (-2 : Int32)) hx hb dq_Md_upstream_21 rfl ?_
  refine lv_icmp_ne (tgt := 30) hx hb dq_Md_upstream_23 rfl (fun h => ?_) (fun h => ?_)
  · replace hw := hw.1 h
    refine lv_iload_n hx hb dq_Md_upstream_30 rfl (lx_at hl 0 rfl) ?_
    refine lv_if_ge (tgt := 38) hx hb dq_Md_upstream_31 rfl (fun h => ?_) (fun h => ?_)
    · replace hw := hw.1 h
      refine lv_aload_n hx hb dq_Md_upstream_38 rfl (lx_at hl 1 rfl) ?_
      obtain ⟨t1, hw⟩ := hw
      refine wo_getR hC fq_Md_69 rfl hG t1 dq_Md_upstream_39 (fun r2 e3 => ?_)
      replace hw := hw r2 e3
      refine lv_iload_n hx hb dq_Md_upstream_42 rfl (lx_at hl 0 rfl) ?_
      obtain ⟨a4, rfl, hw⟩ := hw
      obtain ⟨t5, hw⟩ := hw
      obtain ⟨h6, hw⟩ := hw
      refine wo_iald (j := 2) hC rfl hG t5 h6 dq_Md_upstream_43 ?_
      refine lv_iconst (v := (1 : Int32)) hx hb dq_Md_upstream_44 rfl ?_
      refine lv_isub hx hb dq_Md_upstream_45 ?_
      exact tq_Md_upstream_46 hC hw hG hS (lx_sub hl [] rfl) hcc hss
    · replace hw := hw.2 h
      refine lv_iconst (v := (0 : Int32)) hx hb dq_Md_upstream_34 rfl ?_
      refine lv_goto (tgt := 46) hx hb dq_Md_upstream_35 rfl ?_
      exact tq_Md_upstream_46 hC hw hG hS (lx_sub hl [] rfl) hcc hss
  · replace hw := hw.2 h
    refine lv_iconst (v := (-1 : Int32)) hx hb dq_Md_upstream_26 rfl ?_
    refine lv_goto (tgt := 46) hx hb dq_Md_upstream_27 rfl ?_
    exact tq_Md_upstream_46 hC hw hG hS (lx_sub hl [] rfl) hcc hss
set_option maxRecDepth 100000 in
set_option maxHeartbeats 4000000 in
theorem tq_Md_upstream_9 {p : Program} {l : Launch} {e : Env} {R : Room} {s₀ : State} {m : MethodId} {args : Array Value} {below : List Frame} {meth : Method} {cd : Code} {E : wo_E} {mc ms : Nat} {Post : Int32 → wo_W → Prop} (hC : wo_Cx E "EdgeCacheModel" prog_14_method_61_code 3 1 22 ((Option.some Jvm.ClassFile.FieldType.int)) "upstream" mc ms p R s₀ m args meth cd) : ∀ {G : wo_W} {c s : Nat} {x0 : Nat}, pq_Md_upstream_9 E mc ms Post G c s x0 → ∀ {H : Heap} {locs : List Loc} {ls : Array Slot}, wo_Se E G H → va_S (en_A E) s₀.heap H locs → lx_has ls 3 [(0, 1, .ref x0)] → c ≤ mc → s ≤ ms → W p l e R s₀ m args below meth cd H locs c s (MQ below (va_Qi Post (wo_B E) (en_A E)) args s₀ mc ms (en_A E)) (F0 m 9 ls []) := by
  intro G c s x0 hw H locs ls hG hS hl hcc hss
  dsimp only [pq_Md_upstream_9] at hw
  have hx := hC.1
  have hb := hC.2.1
  refine lv_bipush (v := (-2 : Int32)) hx hb dq_Md_upstream_9 rfl ?_
  refine lv_goto (tgt := 19) hx hb dq_Md_upstream_11 rfl ?_
  exact tq_Md_upstream_19 hC hw hG hS (lx_sub hl [0] rfl) hcc hss
set_option maxRecDepth 100000 in
set_option maxHeartbeats 4000000 in
theorem tq_Md_upstream_0 {p : Program} {l : Launch} {e : Env} {R : Room} {s₀ : State} {m : MethodId} {args : Array Value} {below : List Frame} {meth : Method} {cd : Code} {E : wo_E} {mc ms : Nat} {Post : Int32 → wo_W → Prop} (hC : wo_Cx E "EdgeCacheModel" prog_14_method_61_code 3 1 22 ((Option.some Jvm.ClassFile.FieldType.int)) "upstream" mc ms p R s₀ m args meth cd) : ∀ {G : wo_W} {c s : Nat} {x0 : Nat} {x1 : Int32}, pq_Md_upstream_0 E mc ms Post G c s x0 x1 → ∀ {H : Heap} {locs : List Loc} {ls : Array Slot}, wo_Se E G H → va_S (en_A E) s₀.heap H locs → lx_has ls 3 [(0, 1, .ref x0), (1, 1, .int x1)] → c ≤ mc → s ≤ ms → W p l e R s₀ m args below meth cd H locs c s (MQ below (va_Qi Post (wo_B E) (en_A E)) args s₀ mc ms (en_A E)) (F0 m 0 ls []) := by
  intro G c s x0 x1 hw H locs ls hG hS hl hcc hss
  dsimp only [pq_Md_upstream_0] at hw
  have hx := hC.1
  have hb := hC.2.1
  refine lv_iload_n hx hb dq_Md_upstream_0 rfl (lx_at hl 1 rfl) ?_
  refine lv_if_lt (tgt := 9) hx hb dq_Md_upstream_1 rfl (fun h => ?_) (fun h => ?_)
  · replace hw := hw.1 h
    exact tq_Md_upstream_9 hC hw hG hS (lx_sub hl [0] rfl) hcc hss
  · replace hw := hw.2 h
    refine lv_iload_n hx hb dq_Md_upstream_4 rfl (lx_at hl 1 rfl) ?_
    refine lv_iconst (v := (1 : Int32)) hx hb dq_Md_upstream_5 rfl ?_
    refine lv_icmp_le (tgt := 14) hx hb dq_Md_upstream_6 rfl (fun h => ?_) (fun h => ?_)
    · replace hw := hw.1 h
      refine lv_aload_n hx hb dq_Md_upstream_14 rfl (lx_at hl 0 rfl) ?_
      refine lv_iload_n hx hb dq_Md_upstream_15 rfl (lx_at hl 1 rfl) ?_
      obtain ⟨t1, hw⟩ := hw
      obtain ⟨mc2, ms3, hc1, hs1, hw⟩ := hw
      refine va_calli (wo_runV hC lq_Md_373 (mq_Md_jobOn hw) hG hS t1 rfl (lx_sz hl) rfl (Nat.zero_le _) (by decide) dq_Md_upstream_16 ⟨hc1, hs1⟩) hS (fun _ _ h => h) (fun _ h => h) (fun v5 G4 t H locs ht hvm hw' hB _ _ hS => ?_)
      clear hw
      have hw := hw'
      clear hw'
      replace hG := wo_bk ht hB
      replace hcc := hc1
      replace hss := hs1
      exact tq_Md_upstream_19 hC hw hG hS (lx_sub hl [0] rfl) hcc hss
    · replace hw := hw.2 h
      exact tq_Md_upstream_9 hC hw hG hS (lx_sub hl [0] rfl) hcc hss
set_option maxHeartbeats 4000000 in
theorem mq_Md_upstream {l : Launch} {E : wo_E} {mc ms : Nat} {Post : Int32 → wo_W → Prop} {G : wo_W} {x0 : Nat} {x1 : Int32} (hw : pq_Md_upstream E mc ms Post G x0 x1) : Met l yq_Md_upstream (Cond.code yq_Md_upstream prog_14_method_61_code 3 ((Option.some Jvm.ClassFile.FieldType.int)) :: vw_WG) { frames := 1, cells := mc, slots := ms, locals := 22 } (va_Pc [.ref x0, .int x1] (wo_Ok E G)) (va_Qi Post (wo_B E) (en_A E)) mc ms (en_A E) := by
  unfold pq_Md_upstream at hw
  exact wo_met [(1, .ref x0), (1, .int x1)] rfl (by decide) (fun q hq => by simp only [List.mem_cons, List.not_mem_nil, or_false] at hq; rcases hq with rfl | rfl <;> first | rfl | exact lx_cR _) (Nat.le_of_ble_eq_true rfl) (fun p e R s m args below meth cd ls hC hG hS hl => tq_Md_upstream_0 hC hw hG hS (lx_sub hl [0, 1] rfl) (Nat.zero_le _) (Nat.zero_le _))

theorem dq_Md_queue_0 : decode prog_14_method_62_code 0 = .ok (.iconst 0, 1) := by decide +kernel
theorem dq_Md_queue_1 : decode prog_14_method_62_code 1 = .ok (.istore_n 1, 1) := by decide +kernel
theorem dq_Md_queue_2 : decode prog_14_method_62_code 2 = .ok (.iconst 0, 1) := by decide +kernel
theorem dq_Md_queue_3 : decode prog_14_method_62_code 3 = .ok (.istore_n 2, 1) := by decide +kernel
theorem dq_Md_queue_4 : decode prog_14_method_62_code 4 = .ok (.iload_n 2, 1) := by decide +kernel
theorem dq_Md_queue_5 : decode prog_14_method_62_code 5 = .ok (.bipush 8, 2) := by decide +kernel
theorem dq_Md_queue_7 : decode prog_14_method_62_code 7 = .ok (.if_icmp .ge 27, 3) := by decide +kernel
theorem dq_Md_queue_10 : decode prog_14_method_62_code 10 = .ok (.aload_n 0, 1) := by decide +kernel
theorem dq_Md_queue_11 : decode prog_14_method_62_code 11 = .ok (.getfield 69, 3) := by decide +kernel
theorem dq_Md_queue_14 : decode prog_14_method_62_code 14 = .ok (.iload_n 2, 1) := by decide +kernel
theorem dq_Md_queue_15 : decode prog_14_method_62_code 15 = .ok (.iaload, 1) := by decide +kernel
theorem dq_Md_queue_16 : decode prog_14_method_62_code 16 = .ok (.iconst 1, 1) := by decide +kernel
theorem dq_Md_queue_17 : decode prog_14_method_62_code 17 = .ok (.if_icmp .ne 9, 3) := by decide +kernel
theorem dq_Md_queue_20 : decode prog_14_method_62_code 20 = .ok (.iload_n 1, 1) := by decide +kernel
theorem dq_Md_queue_21 : decode prog_14_method_62_code 21 = .ok (.iconst 1, 1) := by decide +kernel
theorem dq_Md_queue_22 : decode prog_14_method_62_code 22 = .ok (.iadd, 1) := by decide +kernel
theorem dq_Md_queue_23 : decode prog_14_method_62_code 23 = .ok (.goto 4, 3) := by decide +kernel
theorem dq_Md_queue_26 : decode prog_14_method_62_code 26 = .ok (.iload_n 1, 1) := by decide +kernel
theorem dq_Md_queue_27 : decode prog_14_method_62_code 27 = .ok (.istore_n 1, 1) := by decide +kernel
theorem dq_Md_queue_28 : decode prog_14_method_62_code 28 = .ok (.iinc 2 1, 3) := by decide +kernel
theorem dq_Md_queue_31 : decode prog_14_method_62_code 31 = .ok (.goto (-27), 3) := by decide +kernel
theorem dq_Md_queue_34 : decode prog_14_method_62_code 34 = .ok (.iload_n 1, 1) := by decide +kernel
theorem dq_Md_queue_35 : decode prog_14_method_62_code 35 = .ok (.ireturn, 1) := by decide +kernel
set_option maxRecDepth 100000 in
def pq_Md_queue_27 (E : wo_E) (mc ms : Nat) (Post : Int32 → wo_W → Prop) (k4 : wo_W → Nat → Nat → Nat → Int32 → Int32 → Prop) (G : wo_W) (c s : Nat) (x0 : Nat) (x2 : Int32) (y0 : Int32) : Prop := k4 G c s x0 y0 (x2 + (1 : Int32))
set_option maxRecDepth 100000 in
def pq_Md_queue_4 (E : wo_E) (mc ms : Nat) (Post : Int32 → wo_W → Prop) : Nat → wo_W → Nat → Nat → Nat → Int32 → Int32 → Prop
  | 0 => fun _ _ _ _ _ _ => False
  | n + 1 => fun G c s x0 x1 x2 => (((8 : Int32) ≤ x2 → Post x1 G) ∧
  (¬ (8 : Int32) ≤ x2 → wo_ty G x0 = 15 ∧ ∀ r2 : Option Nat, r2 = wo_gr G 918 x0 → ∃ a4 : Nat, r2 = some a4 ∧ wo_ty G a4 = 66 ∧ vp_in x2 (wo_len G a4) ∧ ((¬ (wo_ei G a4 x2.toNatClampNeg) = (1 : Int32) → pq_Md_queue_27 E mc ms Post (pq_Md_queue_4 E mc ms Post n) G c s x0 x2 x1) ∧
    ((wo_ei G a4 x2.toNatClampNeg) = (1 : Int32) → pq_Md_queue_27 E mc ms Post (pq_Md_queue_4 E mc ms Post n) G c s x0 x2 (x1 + (1 : Int32))))))
set_option maxRecDepth 100000 in
def pq_Md_queue_0 (E : wo_E) (mc ms : Nat) (Post : Int32 → wo_W → Prop) (G : wo_W) (c s : Nat) (x0 : Nat) : Prop := ∃ n1 : Nat, pq_Md_queue_4 E mc ms Post n1 G c s x0 (0 : Int32) (0 : Int32)
def pq_Md_queue (E : wo_E) (mc ms : Nat) (Post : Int32 → wo_W → Prop) (G : wo_W) (x0 : Nat) : Prop := pq_Md_queue_0 E mc ms Post G 0 0 x0
set_option maxRecDepth 100000 in
set_option maxHeartbeats 4000000 in
theorem tq_Md_queue_27 {p : Program} {l : Launch} {e : Env} {R : Room} {s₀ : State} {m : MethodId} {args : Array Value} {below : List Frame} {meth : Method} {cd : Code} {E : wo_E} {mc ms : Nat} {Post : Int32 → wo_W → Prop} {k4 : wo_W → Nat → Nat → Nat → Int32 → Int32 → Prop} (hC : wo_Cx E "EdgeCacheModel" prog_14_method_62_code 3 0 0 ((Option.some Jvm.ClassFile.FieldType.int)) "queue" mc ms p R s₀ m args meth cd) (hk4 : ∀ {G : wo_W} {c s : Nat} {x0 : Nat} {x1 : Int32} {x2 : Int32}, k4 G c s x0 x1 x2 → ∀ {H : Heap} {locs : List Loc} {ls : Array Slot}, wo_Se E G H → va_S (en_A E) s₀.heap H locs → lx_has ls 3 [(0, 1, .ref x0), (1, 1, .int x1), (2, 1, .int x2)] → c ≤ mc → s ≤ ms → W p l e R s₀ m args below meth cd H locs c s (MQ below (va_Qi Post (wo_B E) (en_A E)) args s₀ mc ms (en_A E)) (F0 m 4 ls [])) : ∀ {G : wo_W} {c s : Nat} {x0 : Nat} {x2 : Int32} {y0 : Int32}, pq_Md_queue_27 E mc ms Post k4 G c s x0 x2 y0 → ∀ {H : Heap} {locs : List Loc} {ls : Array Slot}, wo_Se E G H → va_S (en_A E) s₀.heap H locs → lx_has ls 3 [(0, 1, .ref x0), (2, 1, .int x2)] → c ≤ mc → s ≤ ms → W p l e R s₀ m args below meth cd H locs c s (MQ below (va_Qi Post (wo_B E) (en_A E)) args s₀ mc ms (en_A E)) (F0 m 27 ls [.int y0]) := by
  intro G c s x0 x2 y0 hw H locs ls hG hS hl hcc hss
  dsimp only [pq_Md_queue_27] at hw
  have hx := hC.1
  have hb := hC.2.1
  refine lx_istore_n (lv' := [(1, 1, .int y0), (0, 1, .ref x0), (2, 1, .int x2)]) hx hb dq_Md_queue_27 rfl hl (by decide) rfl (fun ls hl' => ?_)
  clear hl
  have hl := hl'
  clear hl'
  refine lx_iinc (k := 2) (v := (x2 + (1 : Int32))) (lv' := [(2, 1, .int (x2 + (1 : Int32))), (1, 1, .int y0), (0, 1, .ref x0)]) hx hb dq_Md_queue_28 hl rfl rfl (by decide) rfl (fun ls hl' => ?_)
  clear hl
  have hl := hl'
  clear hl'
  refine lv_goto (tgt := 4) hx hb dq_Md_queue_31 rfl ?_
  exact hk4 hw hG hS (lx_sub hl [2, 1, 0] rfl) hcc hss
set_option maxRecDepth 100000 in
set_option maxHeartbeats 4000000 in
theorem tq_Md_queue_4 {p : Program} {l : Launch} {e : Env} {R : Room} {s₀ : State} {m : MethodId} {args : Array Value} {below : List Frame} {meth : Method} {cd : Code} {E : wo_E} {mc ms : Nat} {Post : Int32 → wo_W → Prop} (hC : wo_Cx E "EdgeCacheModel" prog_14_method_62_code 3 0 0 ((Option.some Jvm.ClassFile.FieldType.int)) "queue" mc ms p R s₀ m args meth cd) : ∀ n : Nat, ∀ {G : wo_W} {c s : Nat} {x0 : Nat} {x1 : Int32} {x2 : Int32}, pq_Md_queue_4 E mc ms Post n G c s x0 x1 x2 → ∀ {H : Heap} {locs : List Loc} {ls : Array Slot}, wo_Se E G H → va_S (en_A E) s₀.heap H locs → lx_has ls 3 [(0, 1, .ref x0), (1, 1, .int x1), (2, 1, .int x2)] → c ≤ mc → s ≤ ms → W p l e R s₀ m args below meth cd H locs c s (MQ below (va_Qi Post (wo_B E) (en_A E)) args s₀ mc ms (en_A E)) (F0 m 4 ls []) := by
  intro n
  induction n with
  | zero => intro G c s x0 x1 x2 hw; exact hw.elim
  | succ n ih =>
    intro G c s x0 x1 x2 hw H locs ls hG hS hl hcc hss
    dsimp only [pq_Md_queue_4] at hw
    have hx := hC.1
    have hb := hC.2.1
    refine lv_iload_n hx hb dq_Md_queue_4 rfl (lx_at hl 2 rfl) ?_
    refine lv_bipush (v := (8 : Int32)) hx hb dq_Md_queue_5 rfl ?_
    refine lv_icmp_ge (tgt := 34) hx hb dq_Md_queue_7 rfl (fun h => ?_) (fun h => ?_)
    · replace hw := hw.1 h
      refine lv_iload_n hx hb dq_Md_queue_34 rfl (lx_at hl 1 rfl) ?_
      exact wo_iret hC hG hS hcc hss hw dq_Md_queue_35
    · replace hw := hw.2 h
      refine lv_aload_n hx hb dq_Md_queue_10 rfl (lx_at hl 0 rfl) ?_
      obtain ⟨t1, hw⟩ := hw
      refine wo_getR hC fq_Md_69 rfl hG t1 dq_Md_queue_11 (fun r2 e3 => ?_)
      replace hw := hw r2 e3
      refine lv_iload_n hx hb dq_Md_queue_14 rfl (lx_at hl 2 rfl) ?_
      obtain ⟨a4, rfl, hw⟩ := hw
      obtain ⟨t5, hw⟩ := hw
      obtain ⟨h6, hw⟩ := hw
      refine wo_iald (j := 2) hC rfl hG t5 h6 dq_Md_queue_15 ?_
      refine lv_iconst (v := (1 : Int32)) hx hb dq_Md_queue_16 rfl ?_
      refine lv_icmp_ne (tgt := 26) hx hb dq_Md_queue_17 rfl (fun h => ?_) (fun h => ?_)
      · replace hw := hw.1 h
        refine lv_iload_n hx hb dq_Md_queue_26 rfl (lx_at hl 1 rfl) ?_
        exact tq_Md_queue_27 hC ih hw hG hS (lx_sub hl [0, 2] rfl) hcc hss
      · replace hw := hw.2 h
        refine lv_iload_n hx hb dq_Md_queue_20 rfl (lx_at hl 1 rfl) ?_
        refine lv_iconst (v := (1 : Int32)) hx hb dq_Md_queue_21 rfl ?_
        refine lv_iadd hx hb dq_Md_queue_22 ?_
        refine lv_goto (tgt := 27) hx hb dq_Md_queue_23 rfl ?_
        exact tq_Md_queue_27 hC ih hw hG hS (lx_sub hl [0, 2] rfl) hcc hss
set_option maxRecDepth 100000 in
set_option maxHeartbeats 4000000 in
theorem tq_Md_queue_0 {p : Program} {l : Launch} {e : Env} {R : Room} {s₀ : State} {m : MethodId} {args : Array Value} {below : List Frame} {meth : Method} {cd : Code} {E : wo_E} {mc ms : Nat} {Post : Int32 → wo_W → Prop} (hC : wo_Cx E "EdgeCacheModel" prog_14_method_62_code 3 0 0 ((Option.some Jvm.ClassFile.FieldType.int)) "queue" mc ms p R s₀ m args meth cd) : ∀ {G : wo_W} {c s : Nat} {x0 : Nat}, pq_Md_queue_0 E mc ms Post G c s x0 → ∀ {H : Heap} {locs : List Loc} {ls : Array Slot}, wo_Se E G H → va_S (en_A E) s₀.heap H locs → lx_has ls 3 [(0, 1, .ref x0)] → c ≤ mc → s ≤ ms → W p l e R s₀ m args below meth cd H locs c s (MQ below (va_Qi Post (wo_B E) (en_A E)) args s₀ mc ms (en_A E)) (F0 m 0 ls []) := by
  intro G c s x0 hw H locs ls hG hS hl hcc hss
  dsimp only [pq_Md_queue_0] at hw
  have hx := hC.1
  have hb := hC.2.1
  refine lv_iconst (v := (0 : Int32)) hx hb dq_Md_queue_0 rfl ?_
  refine lx_istore_n (lv' := [(1, 1, .int (0 : Int32)), (0, 1, .ref x0)]) hx hb dq_Md_queue_1 rfl hl (by decide) rfl (fun ls hl' => ?_)
  clear hl
  have hl := hl'
  clear hl'
  refine lv_iconst (v := (0 : Int32)) hx hb dq_Md_queue_2 rfl ?_
  refine lx_istore_n (lv' := [(2, 1, .int (0 : Int32)), (1, 1, .int (0 : Int32)), (0, 1, .ref x0)]) hx hb dq_Md_queue_3 rfl hl (by decide) rfl (fun ls hl' => ?_)
  clear hl
  have hl := hl'
  clear hl'
  obtain ⟨n1, hw⟩ := hw
  exact tq_Md_queue_4 hC n1 hw hG hS (lx_sub hl [2, 1, 0] rfl) hcc hss
set_option maxHeartbeats 4000000 in
theorem mq_Md_queue {l : Launch} {E : wo_E} {mc ms : Nat} {Post : Int32 → wo_W → Prop} {G : wo_W} {x0 : Nat} (hw : pq_Md_queue E mc ms Post G x0) : Met l yq_Md_queue (Cond.code yq_Md_queue prog_14_method_62_code 3 ((Option.some Jvm.ClassFile.FieldType.int)) :: vw_WG) { frames := 0, cells := mc, slots := ms, locals := 0 } (va_Pc [.ref x0] (wo_Ok E G)) (va_Qi Post (wo_B E) (en_A E)) mc ms (en_A E) := by
  unfold pq_Md_queue at hw
  exact wo_met [(1, .ref x0)] rfl (by decide) (fun q hq => by simp only [List.mem_cons, List.not_mem_nil, or_false] at hq; rcases hq with rfl <;> first | rfl | exact lx_cR _) (Nat.le_of_ble_eq_true rfl) (fun p e R s m args below meth cd ls hC hG hS hl => tq_Md_queue_0 hC hw hG hS (lx_sub hl [0] rfl) (Nat.zero_le _) (Nat.zero_le _))

theorem dq_Md_stored_0 : decode prog_14_method_63_code 0 = .ok (.iconst 0, 1) := by decide +kernel
theorem dq_Md_stored_1 : decode prog_14_method_63_code 1 = .ok (.istore_n 1, 1) := by decide +kernel
theorem dq_Md_stored_2 : decode prog_14_method_63_code 2 = .ok (.iconst 0, 1) := by decide +kernel
theorem dq_Md_stored_3 : decode prog_14_method_63_code 3 = .ok (.istore_n 2, 1) := by decide +kernel
theorem dq_Md_stored_4 : decode prog_14_method_63_code 4 = .ok (.iload_n 2, 1) := by decide +kernel
theorem dq_Md_stored_5 : decode prog_14_method_63_code 5 = .ok (.bipush 20, 2) := by decide +kernel
theorem dq_Md_stored_7 : decode prog_14_method_63_code 7 = .ok (.if_icmp .ge 26, 3) := by decide +kernel
theorem dq_Md_stored_10 : decode prog_14_method_63_code 10 = .ok (.aload_n 0, 1) := by decide +kernel
theorem dq_Md_stored_11 : decode prog_14_method_63_code 11 = .ok (.getfield 120, 3) := by decide +kernel
theorem dq_Md_stored_14 : decode prog_14_method_63_code 14 = .ok (.iload_n 2, 1) := by decide +kernel
theorem dq_Md_stored_15 : decode prog_14_method_63_code 15 = .ok (.baload, 1) := by decide +kernel
theorem dq_Md_stored_16 : decode prog_14_method_63_code 16 = .ok (.ifCond .eq 9, 3) := by decide +kernel
theorem dq_Md_stored_19 : decode prog_14_method_63_code 19 = .ok (.iload_n 1, 1) := by decide +kernel
theorem dq_Md_stored_20 : decode prog_14_method_63_code 20 = .ok (.iconst 1, 1) := by decide +kernel
theorem dq_Md_stored_21 : decode prog_14_method_63_code 21 = .ok (.iadd, 1) := by decide +kernel
theorem dq_Md_stored_22 : decode prog_14_method_63_code 22 = .ok (.goto 4, 3) := by decide +kernel
theorem dq_Md_stored_25 : decode prog_14_method_63_code 25 = .ok (.iload_n 1, 1) := by decide +kernel
theorem dq_Md_stored_26 : decode prog_14_method_63_code 26 = .ok (.istore_n 1, 1) := by decide +kernel
theorem dq_Md_stored_27 : decode prog_14_method_63_code 27 = .ok (.iinc 2 1, 3) := by decide +kernel
theorem dq_Md_stored_30 : decode prog_14_method_63_code 30 = .ok (.goto (-26), 3) := by decide +kernel
theorem dq_Md_stored_33 : decode prog_14_method_63_code 33 = .ok (.iload_n 1, 1) := by decide +kernel
theorem dq_Md_stored_34 : decode prog_14_method_63_code 34 = .ok (.ireturn, 1) := by decide +kernel
set_option maxRecDepth 100000 in
def pq_Md_stored_26 (E : wo_E) (mc ms : Nat) (Post : Int32 → wo_W → Prop) (k4 : wo_W → Nat → Nat → Nat → Int32 → Int32 → Prop) (G : wo_W) (c s : Nat) (x0 : Nat) (x2 : Int32) (y0 : Int32) : Prop := k4 G c s x0 y0 (x2 + (1 : Int32))
set_option maxRecDepth 100000 in
def pq_Md_stored_4 (E : wo_E) (mc ms : Nat) (Post : Int32 → wo_W → Prop) : Nat → wo_W → Nat → Nat → Nat → Int32 → Int32 → Prop
  | 0 => fun _ _ _ _ _ _ => False
  | n + 1 => fun G c s x0 x1 x2 => (((20 : Int32) ≤ x2 → Post x1 G) ∧
  (¬ (20 : Int32) ≤ x2 → wo_ty G x0 = 15 ∧ ∀ r2 : Option Nat, r2 = wo_gr G 936 x0 → ∃ a4 : Nat, r2 = some a4 ∧ wo_ty G a4 = 72 ∧ vp_in x2 (wo_len G a4) ∧ (((wo_ei G a4 x2.toNatClampNeg) = (0 : Int32) → pq_Md_stored_26 E mc ms Post (pq_Md_stored_4 E mc ms Post n) G c s x0 x2 x1) ∧
    (¬ (wo_ei G a4 x2.toNatClampNeg) = (0 : Int32) → pq_Md_stored_26 E mc ms Post (pq_Md_stored_4 E mc ms Post n) G c s x0 x2 (x1 + (1 : Int32))))))
set_option maxRecDepth 100000 in
def pq_Md_stored_0 (E : wo_E) (mc ms : Nat) (Post : Int32 → wo_W → Prop) (G : wo_W) (c s : Nat) (x0 : Nat) : Prop := ∃ n1 : Nat, pq_Md_stored_4 E mc ms Post n1 G c s x0 (0 : Int32) (0 : Int32)
def pq_Md_stored (E : wo_E) (mc ms : Nat) (Post : Int32 → wo_W → Prop) (G : wo_W) (x0 : Nat) : Prop := pq_Md_stored_0 E mc ms Post G 0 0 x0
set_option maxRecDepth 100000 in
set_option maxHeartbeats 4000000 in
theorem tq_Md_stored_26 {p : Program} {l : Launch} {e : Env} {R : Room} {s₀ : State} {m : MethodId} {args : Array Value} {below : List Frame} {meth : Method} {cd : Code} {E : wo_E} {mc ms : Nat} {Post : Int32 → wo_W → Prop} {k4 : wo_W → Nat → Nat → Nat → Int32 → Int32 → Prop} (hC : wo_Cx E "EdgeCacheModel" prog_14_method_63_code 3 0 0 ((Option.some Jvm.ClassFile.FieldType.int)) "stored" mc ms p R s₀ m args meth cd) (hk4 : ∀ {G : wo_W} {c s : Nat} {x0 : Nat} {x1 : Int32} {x2 : Int32}, k4 G c s x0 x1 x2 → ∀ {H : Heap} {locs : List Loc} {ls : Array Slot}, wo_Se E G H → va_S (en_A E) s₀.heap H locs → lx_has ls 3 [(0, 1, .ref x0), (1, 1, .int x1), (2, 1, .int x2)] → c ≤ mc → s ≤ ms → W p l e R s₀ m args below meth cd H locs c s (MQ below (va_Qi Post (wo_B E) (en_A E)) args s₀ mc ms (en_A E)) (F0 m 4 ls [])) : ∀ {G : wo_W} {c s : Nat} {x0 : Nat} {x2 : Int32} {y0 : Int32}, pq_Md_stored_26 E mc ms Post k4 G c s x0 x2 y0 → ∀ {H : Heap} {locs : List Loc} {ls : Array Slot}, wo_Se E G H → va_S (en_A E) s₀.heap H locs → lx_has ls 3 [(0, 1, .ref x0), (2, 1, .int x2)] → c ≤ mc → s ≤ ms → W p l e R s₀ m args below meth cd H locs c s (MQ below (va_Qi Post (wo_B E) (en_A E)) args s₀ mc ms (en_A E)) (F0 m 26 ls [.int y0]) := by
  intro G c s x0 x2 y0 hw H locs ls hG hS hl hcc hss
  dsimp only [pq_Md_stored_26] at hw
  have hx := hC.1
  have hb := hC.2.1
  refine lx_istore_n (lv' := [(1, 1, .int y0), (0, 1, .ref x0), (2, 1, .int x2)]) hx hb dq_Md_stored_26 rfl hl (by decide) rfl (fun ls hl' => ?_)
  clear hl
  have hl := hl'
  clear hl'
  refine lx_iinc (k := 2) (v := (x2 + (1 : Int32))) (lv' := [(2, 1, .int (x2 + (1 : Int32))), (1, 1, .int y0), (0, 1, .ref x0)]) hx hb dq_Md_stored_27 hl rfl rfl (by decide) rfl (fun ls hl' => ?_)
  clear hl
  have hl := hl'
  clear hl'
  refine lv_goto (tgt := 4) hx hb dq_Md_stored_30 rfl ?_
  exact hk4 hw hG hS (lx_sub hl [2, 1, 0] rfl) hcc hss
set_option maxRecDepth 100000 in
set_option maxHeartbeats 4000000 in
theorem tq_Md_stored_4 {p : Program} {l : Launch} {e : Env} {R : Room} {s₀ : State} {m : MethodId} {args : Array Value} {below : List Frame} {meth : Method} {cd : Code} {E : wo_E} {mc ms : Nat} {Post : Int32 → wo_W → Prop} (hC : wo_Cx E "EdgeCacheModel" prog_14_method_63_code 3 0 0 ((Option.some Jvm.ClassFile.FieldType.int)) "stored" mc ms p R s₀ m args meth cd) : ∀ n : Nat, ∀ {G : wo_W} {c s : Nat} {x0 : Nat} {x1 : Int32} {x2 : Int32}, pq_Md_stored_4 E mc ms Post n G c s x0 x1 x2 → ∀ {H : Heap} {locs : List Loc} {ls : Array Slot}, wo_Se E G H → va_S (en_A E) s₀.heap H locs → lx_has ls 3 [(0, 1, .ref x0), (1, 1, .int x1), (2, 1, .int x2)] → c ≤ mc → s ≤ ms → W p l e R s₀ m args below meth cd H locs c s (MQ below (va_Qi Post (wo_B E) (en_A E)) args s₀ mc ms (en_A E)) (F0 m 4 ls []) := by
  intro n
  induction n with
  | zero => intro G c s x0 x1 x2 hw; exact hw.elim
  | succ n ih =>
    intro G c s x0 x1 x2 hw H locs ls hG hS hl hcc hss
    dsimp only [pq_Md_stored_4] at hw
    have hx := hC.1
    have hb := hC.2.1
    refine lv_iload_n hx hb dq_Md_stored_4 rfl (lx_at hl 2 rfl) ?_
    refine lv_bipush (v := (20 : Int32)) hx hb dq_Md_stored_5 rfl ?_
    refine lv_icmp_ge (tgt := 33) hx hb dq_Md_stored_7 rfl (fun h => ?_) (fun h => ?_)
    · replace hw := hw.1 h
      refine lv_iload_n hx hb dq_Md_stored_33 rfl (lx_at hl 1 rfl) ?_
      exact wo_iret hC hG hS hcc hss hw dq_Md_stored_34
    · replace hw := hw.2 h
      refine lv_aload_n hx hb dq_Md_stored_10 rfl (lx_at hl 0 rfl) ?_
      obtain ⟨t1, hw⟩ := hw
      refine wo_getR hC fq_Md_120 rfl hG t1 dq_Md_stored_11 (fun r2 e3 => ?_)
      replace hw := hw r2 e3
      refine lv_iload_n hx hb dq_Md_stored_14 rfl (lx_at hl 2 rfl) ?_
      obtain ⟨a4, rfl, hw⟩ := hw
      obtain ⟨t5, hw⟩ := hw
      obtain ⟨h6, hw⟩ := hw
      refine wo_zald (j := 8) hC rfl hG t5 h6 dq_Md_stored_15 ?_
      refine lv_if_eq (tgt := 25) hx hb dq_Md_stored_16 rfl (fun h => ?_) (fun h => ?_)
      · replace hw := hw.1 h
        refine lv_iload_n hx hb dq_Md_stored_25 rfl (lx_at hl 1 rfl) ?_
        exact tq_Md_stored_26 hC ih hw hG hS (lx_sub hl [0, 2] rfl) hcc hss
      · replace hw := hw.2 h
        refine lv_iload_n hx hb dq_Md_stored_19 rfl (lx_at hl 1 rfl) ?_
        refine lv_iconst (v := (1 : Int32)) hx hb dq_Md_stored_20 rfl ?_
        refine lv_iadd hx hb dq_Md_stored_21 ?_
        refine lv_goto (tgt := 26) hx hb dq_Md_stored_22 rfl ?_
        exact tq_Md_stored_26 hC ih hw hG hS (lx_sub hl [0, 2] rfl) hcc hss
set_option maxRecDepth 100000 in
set_option maxHeartbeats 4000000 in
theorem tq_Md_stored_0 {p : Program} {l : Launch} {e : Env} {R : Room} {s₀ : State} {m : MethodId} {args : Array Value} {below : List Frame} {meth : Method} {cd : Code} {E : wo_E} {mc ms : Nat} {Post : Int32 → wo_W → Prop} (hC : wo_Cx E "EdgeCacheModel" prog_14_method_63_code 3 0 0 ((Option.some Jvm.ClassFile.FieldType.int)) "stored" mc ms p R s₀ m args meth cd) : ∀ {G : wo_W} {c s : Nat} {x0 : Nat}, pq_Md_stored_0 E mc ms Post G c s x0 → ∀ {H : Heap} {locs : List Loc} {ls : Array Slot}, wo_Se E G H → va_S (en_A E) s₀.heap H locs → lx_has ls 3 [(0, 1, .ref x0)] → c ≤ mc → s ≤ ms → W p l e R s₀ m args below meth cd H locs c s (MQ below (va_Qi Post (wo_B E) (en_A E)) args s₀ mc ms (en_A E)) (F0 m 0 ls []) := by
  intro G c s x0 hw H locs ls hG hS hl hcc hss
  dsimp only [pq_Md_stored_0] at hw
  have hx := hC.1
  have hb := hC.2.1
  refine lv_iconst (v := (0 : Int32)) hx hb dq_Md_stored_0 rfl ?_
  refine lx_istore_n (lv' := [(1, 1, .int (0 : Int32)), (0, 1, .ref x0)]) hx hb dq_Md_stored_1 rfl hl (by decide) rfl (fun ls hl' => ?_)
  clear hl
  have hl := hl'
  clear hl'
  refine lv_iconst (v := (0 : Int32)) hx hb dq_Md_stored_2 rfl ?_
  refine lx_istore_n (lv' := [(2, 1, .int (0 : Int32)), (1, 1, .int (0 : Int32)), (0, 1, .ref x0)]) hx hb dq_Md_stored_3 rfl hl (by decide) rfl (fun ls hl' => ?_)
  clear hl
  have hl := hl'
  clear hl'
  obtain ⟨n1, hw⟩ := hw
  exact tq_Md_stored_4 hC n1 hw hG hS (lx_sub hl [2, 1, 0] rfl) hcc hss
set_option maxHeartbeats 4000000 in
theorem mq_Md_stored {l : Launch} {E : wo_E} {mc ms : Nat} {Post : Int32 → wo_W → Prop} {G : wo_W} {x0 : Nat} (hw : pq_Md_stored E mc ms Post G x0) : Met l yq_Md_stored (Cond.code yq_Md_stored prog_14_method_63_code 3 ((Option.some Jvm.ClassFile.FieldType.int)) :: vw_WG) { frames := 0, cells := mc, slots := ms, locals := 0 } (va_Pc [.ref x0] (wo_Ok E G)) (va_Qi Post (wo_B E) (en_A E)) mc ms (en_A E) := by
  unfold pq_Md_stored at hw
  exact wo_met [(1, .ref x0)] rfl (by decide) (fun q hq => by simp only [List.mem_cons, List.not_mem_nil, or_false] at hq; rcases hq with rfl <;> first | rfl | exact lx_cR _) (Nat.le_of_ble_eq_true rfl) (fun p e R s m args below meth cd ls hC hG hS hl => tq_Md_stored_0 hC hw hG hS (lx_sub hl [0] rfl) (Nat.zero_le _) (Nat.zero_le _))

theorem dq_Md_tag_0 : decode prog_14_method_65_code 0 = .ok (.aload_n 0, 1) := by decide +kernel
theorem dq_Md_tag_1 : decode prog_14_method_65_code 1 = .ok (.getfield 331, 3) := by decide +kernel
theorem dq_Md_tag_4 : decode prog_14_method_65_code 4 = .ok (.ireturn, 1) := by decide +kernel
set_option maxRecDepth 100000 in
def pq_Md_tag_0 (E : wo_E) (mc ms : Nat) (Post : Int32 → wo_W → Prop) (G : wo_W) (c s : Nat) (x0 : Nat) : Prop := wo_ty G x0 = 15 ∧ Post (wo_gi G 957 x0) G
def pq_Md_tag (E : wo_E) (mc ms : Nat) (Post : Int32 → wo_W → Prop) (G : wo_W) (x0 : Nat) : Prop := pq_Md_tag_0 E mc ms Post G 0 0 x0
set_option maxRecDepth 100000 in
set_option maxHeartbeats 4000000 in
theorem tq_Md_tag_0 {p : Program} {l : Launch} {e : Env} {R : Room} {s₀ : State} {m : MethodId} {args : Array Value} {below : List Frame} {meth : Method} {cd : Code} {E : wo_E} {mc ms : Nat} {Post : Int32 → wo_W → Prop} (hC : wo_Cx E "EdgeCacheModel" prog_14_method_65_code 1 0 0 ((Option.some Jvm.ClassFile.FieldType.int)) "tag" mc ms p R s₀ m args meth cd) : ∀ {G : wo_W} {c s : Nat} {x0 : Nat}, pq_Md_tag_0 E mc ms Post G c s x0 → ∀ {H : Heap} {locs : List Loc} {ls : Array Slot}, wo_Se E G H → va_S (en_A E) s₀.heap H locs → lx_has ls 1 [(0, 1, .ref x0)] → c ≤ mc → s ≤ ms → W p l e R s₀ m args below meth cd H locs c s (MQ below (va_Qi Post (wo_B E) (en_A E)) args s₀ mc ms (en_A E)) (F0 m 0 ls []) := by
  intro G c s x0 hw H locs ls hG hS hl hcc hss
  dsimp only [pq_Md_tag_0] at hw
  have hx := hC.1
  have hb := hC.2.1
  refine lv_aload_n hx hb dq_Md_tag_0 rfl (lx_at hl 0 rfl) ?_
  obtain ⟨t1, hw⟩ := hw
  refine wo_getI hC fq_Md_331 rfl hG t1 dq_Md_tag_1 ?_
  exact wo_iret hC hG hS hcc hss hw dq_Md_tag_4
set_option maxHeartbeats 4000000 in
theorem mq_Md_tag {l : Launch} {E : wo_E} {mc ms : Nat} {Post : Int32 → wo_W → Prop} {G : wo_W} {x0 : Nat} (hw : pq_Md_tag E mc ms Post G x0) : Met l yq_Md_tag (Cond.code yq_Md_tag prog_14_method_65_code 1 ((Option.some Jvm.ClassFile.FieldType.int)) :: vw_WG) { frames := 0, cells := mc, slots := ms, locals := 0 } (va_Pc [.ref x0] (wo_Ok E G)) (va_Qi Post (wo_B E) (en_A E)) mc ms (en_A E) := by
  unfold pq_Md_tag at hw
  exact wo_met [(1, .ref x0)] rfl (by decide) (fun q hq => by simp only [List.mem_cons, List.not_mem_nil, or_false] at hq; rcases hq with rfl <;> first | rfl | exact lx_cR _) (Nat.le_of_ble_eq_true rfl) (fun p e R s m args below meth cd ls hC hG hS hl => tq_Md_tag_0 hC hw hG hS (lx_sub hl [0] rfl) (Nat.zero_le _) (Nat.zero_le _))

theorem dq_Md_clock_0 : decode prog_14_method_66_code 0 = .ok (.aload_n 0, 1) := by decide +kernel
theorem dq_Md_clock_1 : decode prog_14_method_66_code 1 = .ok (.getfield 349, 3) := by decide +kernel
theorem dq_Md_clock_4 : decode prog_14_method_66_code 4 = .ok (.ireturn, 1) := by decide +kernel
set_option maxRecDepth 100000 in
def pq_Md_clock_0 (E : wo_E) (mc ms : Nat) (Post : Int32 → wo_W → Prop) (G : wo_W) (c s : Nat) (x0 : Nat) : Prop := wo_ty G x0 = 15 ∧ Post (wo_gi G 956 x0) G
def pq_Md_clock (E : wo_E) (mc ms : Nat) (Post : Int32 → wo_W → Prop) (G : wo_W) (x0 : Nat) : Prop := pq_Md_clock_0 E mc ms Post G 0 0 x0
set_option maxRecDepth 100000 in
set_option maxHeartbeats 4000000 in
theorem tq_Md_clock_0 {p : Program} {l : Launch} {e : Env} {R : Room} {s₀ : State} {m : MethodId} {args : Array Value} {below : List Frame} {meth : Method} {cd : Code} {E : wo_E} {mc ms : Nat} {Post : Int32 → wo_W → Prop} (hC : wo_Cx E "EdgeCacheModel" prog_14_method_66_code 1 0 0 ((Option.some Jvm.ClassFile.FieldType.int)) "clock" mc ms p R s₀ m args meth cd) : ∀ {G : wo_W} {c s : Nat} {x0 : Nat}, pq_Md_clock_0 E mc ms Post G c s x0 → ∀ {H : Heap} {locs : List Loc} {ls : Array Slot}, wo_Se E G H → va_S (en_A E) s₀.heap H locs → lx_has ls 1 [(0, 1, .ref x0)] → c ≤ mc → s ≤ ms → W p l e R s₀ m args below meth cd H locs c s (MQ below (va_Qi Post (wo_B E) (en_A E)) args s₀ mc ms (en_A E)) (F0 m 0 ls []) := by
  intro G c s x0 hw H locs ls hG hS hl hcc hss
  dsimp only [pq_Md_clock_0] at hw
  have hx := hC.1
  have hb := hC.2.1
  refine lv_aload_n hx hb dq_Md_clock_0 rfl (lx_at hl 0 rfl) ?_
  obtain ⟨t1, hw⟩ := hw
  refine wo_getI hC fq_Md_349 rfl hG t1 dq_Md_clock_1 ?_
  exact wo_iret hC hG hS hcc hss hw dq_Md_clock_4
set_option maxHeartbeats 4000000 in
theorem mq_Md_clock {l : Launch} {E : wo_E} {mc ms : Nat} {Post : Int32 → wo_W → Prop} {G : wo_W} {x0 : Nat} (hw : pq_Md_clock E mc ms Post G x0) : Met l yq_Md_clock (Cond.code yq_Md_clock prog_14_method_66_code 1 ((Option.some Jvm.ClassFile.FieldType.int)) :: vw_WG) { frames := 0, cells := mc, slots := ms, locals := 0 } (va_Pc [.ref x0] (wo_Ok E G)) (va_Qi Post (wo_B E) (en_A E)) mc ms (en_A E) := by
  unfold pq_Md_clock at hw
  exact wo_met [(1, .ref x0)] rfl (by decide) (fun q hq => by simp only [List.mem_cons, List.not_mem_nil, or_false] at hq; rcases hq with rfl <;> first | rfl | exact lx_cR _) (Nat.le_of_ble_eq_true rfl) (fun p e R s m args below meth cd ls hC hG hS hl => tq_Md_clock_0 hC hw hG hS (lx_sub hl [0] rfl) (Nat.zero_le _) (Nat.zero_le _))
