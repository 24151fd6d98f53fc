theorem dq_Md_origin_0 : decode prog_14_method_52_code 0 = .ok (.iload_n 1, 1) := by decide +kernel
theorem dq_Md_origin_1 : decode prog_14_method_52_code 1 = .ok (.ifCond .lt 8, 3) := by decide +kernel
theorem dq_Md_origin_4 : decode prog_14_method_52_code 4 = .ok (.iload_n 1, 1) := by decide +kernel
theorem dq_Md_origin_5 : decode prog_14_method_52_code 5 = .ok (.iconst 1, 1) := by decide +kernel
theorem dq_Md_origin_6 : decode prog_14_method_52_code 6 = .ok (.if_icmp .le 7, 3) := by decide +kernel
theorem dq_Md_origin_9 : decode prog_14_method_52_code 9 = .ok (.iconst (-1), 1) := by decide +kernel
theorem dq_Md_origin_10 : decode prog_14_method_52_code 10 = .ok (.goto 8, 3) := by decide +kernel
theorem dq_Md_origin_13 : decode prog_14_method_52_code 13 = .ok (.aload_n 0, 1) := by decide +kernel
theorem dq_Md_origin_14 : decode prog_14_method_52_code 14 = .ok (.iload_n 1, 1) := by decide +kernel
theorem dq_Md_origin_15 : decode prog_14_method_52_code 15 = .ok (.invokevirtual 373, 3) := by decide +kernel
theorem dq_Md_origin_18 : decode prog_14_method_52_code 18 = .ok (.istore_n 2, 1) := by decide +kernel
theorem dq_Md_origin_19 : decode prog_14_method_52_code 19 = .ok (.iload_n 2, 1) := by decide +kernel
theorem dq_Md_origin_20 : decode prog_14_method_52_code 20 = .ok (.ifCond .lt 13, 3) := by decide +kernel
theorem dq_Md_origin_23 : decode prog_14_method_52_code 23 = .ok (.aload_n 0, 1) := by decide +kernel
theorem dq_Md_origin_24 : decode prog_14_method_52_code 24 = .ok (.getfield 69, 3) := by decide +kernel
theorem dq_Md_origin_27 : decode prog_14_method_52_code 27 = .ok (.iload_n 2, 1) := by decide +kernel
theorem dq_Md_origin_28 : decode prog_14_method_52_code 28 = .ok (.iaload, 1) := by decide +kernel
theorem dq_Md_origin_29 : decode prog_14_method_52_code 29 = .ok (.iconst 2, 1) := by decide +kernel
theorem dq_Md_origin_30 : decode prog_14_method_52_code 30 = .ok (.if_icmp .eq 5, 3) := by decide +kernel
theorem dq_Md_origin_33 : decode prog_14_method_52_code 33 = .ok (.iconst (-1), 1) := by decide +kernel
theorem dq_Md_origin_34 : decode prog_14_method_52_code 34 = .ok (.ireturn, 1) := by decide +kernel
theorem dq_Md_origin_35 : decode prog_14_method_52_code 35 = .ok (.aload_n 0, 1) := by decide +kernel
theorem dq_Md_origin_36 : decode prog_14_method_52_code 36 = .ok (.getfield 69, 3) := by decide +kernel
theorem dq_Md_origin_39 : decode prog_14_method_52_code 39 = .ok (.iload_n 2, 1) := by decide +kernel
theorem dq_Md_origin_40 : decode prog_14_method_52_code 40 = .ok (.iconst 3, 1) := by decide +kernel
theorem dq_Md_origin_41 : decode prog_14_method_52_code 41 = .ok (.iastore, 1) := by decide +kernel
theorem dq_Md_origin_42 : decode prog_14_method_52_code 42 = .ok (.aload_n 0, 1) := by decide +kernel
theorem dq_Md_origin_43 : decode prog_14_method_52_code 43 = .ok (.getfield 93, 3) := by decide +kernel
theorem dq_Md_origin_46 : decode prog_14_method_52_code 46 = .ok (.iload_n 2, 1) := by decide +kernel
theorem dq_Md_origin_47 : decode prog_14_method_52_code 47 = .ok (.aload_n 0, 1) := by decide +kernel
theorem dq_Md_origin_48 : decode prog_14_method_52_code 48 = .ok (.getfield 41, 3) := by decide +kernel
theorem dq_Md_origin_51 : decode prog_14_method_52_code 51 = .ok (.iload_n 2, 1) := by decide +kernel
theorem dq_Md_origin_52 : decode prog_14_method_52_code 52 = .ok (.iaload, 1) := by decide +kernel
theorem dq_Md_origin_53 : decode prog_14_method_52_code 53 = .ok (.iconst 1, 1) := by decide +kernel
theorem dq_Md_origin_54 : decode prog_14_method_52_code 54 = .ok (.if_icmp .le 11, 3) := by decide +kernel
theorem dq_Md_origin_57 : decode prog_14_method_52_code 57 = .ok (.aload_n 0, 1) := by decide +kernel
theorem dq_Md_origin_58 : decode prog_14_method_52_code 58 = .ok (.iload_n 2, 1) := by decide +kernel
theorem dq_Md_origin_59 : decode prog_14_method_52_code 59 = .ok (.invokevirtual 334, 3) := by decide +kernel
theorem dq_Md_origin_62 : decode prog_14_method_52_code 62 = .ok (.goto 12, 3) := by decide +kernel
theorem dq_Md_origin_65 : decode prog_14_method_52_code 65 = .ok (.aload_n 0, 1) := by decide +kernel
theorem dq_Md_origin_66 : decode prog_14_method_52_code 66 = .ok (.iload_n 2, 1) := by decide +kernel
theorem dq_Md_origin_67 : decode prog_14_method_52_code 67 = .ok (.bipush 30, 2) := by decide +kernel
theorem dq_Md_origin_69 : decode prog_14_method_52_code 69 = .ok (.iload_n 2, 1) := by decide +kernel
theorem dq_Md_origin_70 : decode prog_14_method_52_code 70 = .ok (.iadd, 1) := by decide +kernel
theorem dq_Md_origin_71 : decode prog_14_method_52_code 71 = .ok (.invokevirtual 340, 3) := by decide +kernel
theorem dq_Md_origin_74 : decode prog_14_method_52_code 74 = .ok (.iastore, 1) := by decide +kernel
theorem dq_Md_origin_75 : decode prog_14_method_52_code 75 = .ok (.aload_n 0, 1) := by decide +kernel
theorem dq_Md_origin_76 : decode prog_14_method_52_code 76 = .ok (.getfield 93, 3) := by decide +kernel
theorem dq_Md_origin_79 : decode prog_14_method_52_code 79 = .ok (.iload_n 2, 1) := by decide +kernel
theorem dq_Md_origin_80 : decode prog_14_method_52_code 80 = .ok (.iaload, 1) := by decide +kernel
theorem dq_Md_origin_81 : decode prog_14_method_52_code 81 = .ok (.sipush 200, 3) := by decide +kernel
theorem dq_Md_origin_84 : decode prog_14_method_52_code 84 = .ok (.if_icmp .ne 42, 3) := by decide +kernel
theorem dq_Md_origin_87 : decode prog_14_method_52_code 87 = .ok (.aload_n 0, 1) := by decide +kernel
theorem dq_Md_origin_88 : decode prog_14_method_52_code 88 = .ok (.getfield 87, 3) := by decide +kernel
theorem dq_Md_origin_91 : decode prog_14_method_52_code 91 = .ok (.iload_n 2, 1) := by decide +kernel
theorem dq_Md_origin_92 : decode prog_14_method_52_code 92 = .ok (.baload, 1) := by decide +kernel
theorem dq_Md_origin_93 : decode prog_14_method_52_code 93 = .ok (.ifCond .eq 33, 3) := by decide +kernel
theorem dq_Md_origin_96 : decode prog_14_method_52_code 96 = .ok (.aload_n 0, 1) := by decide +kernel
theorem dq_Md_origin_97 : decode prog_14_method_52_code 97 = .ok (.getfield 108, 3) := by decide +kernel
theorem dq_Md_origin_100 : decode prog_14_method_52_code 100 = .ok (.bipush 20, 2) := by decide +kernel
theorem dq_Md_origin_102 : decode prog_14_method_52_code 102 = .ok (.iload_n 2, 1) := by decide +kernel
theorem dq_Md_origin_103 : decode prog_14_method_52_code 103 = .ok (.iadd, 1) := by decide +kernel
theorem dq_Md_origin_104 : decode prog_14_method_52_code 104 = .ok (.iaload, 1) := by decide +kernel
theorem dq_Md_origin_105 : decode prog_14_method_52_code 105 = .ok (.aload_n 0, 1) := by decide +kernel
theorem dq_Md_origin_106 : decode prog_14_method_52_code 106 = .ok (.getfield 108, 3) := by decide +kernel
theorem dq_Md_origin_109 : decode prog_14_method_52_code 109 = .ok (.bipush 30, 2) := by decide +kernel
theorem dq_Md_origin_111 : decode prog_14_method_52_code 111 = .ok (.iload_n 2, 1) := by decide +kernel
theorem dq_Md_origin_112 : decode prog_14_method_52_code 112 = .ok (.iadd, 1) := by decide +kernel
theorem dq_Md_origin_113 : decode prog_14_method_52_code 113 = .ok (.iaload, 1) := by decide +kernel
theorem dq_Md_origin_114 : decode prog_14_method_52_code 114 = .ok (.if_icmp .ne 12, 3) := by decide +kernel
theorem dq_Md_origin_117 : decode prog_14_method_52_code 117 = .ok (.aload_n 0, 1) := by decide +kernel
theorem dq_Md_origin_118 : decode prog_14_method_52_code 118 = .ok (.getfield 93, 3) := by decide +kernel
theorem dq_Md_origin_121 : decode prog_14_method_52_code 121 = .ok (.iload_n 2, 1) := by decide +kernel
theorem dq_Md_origin_122 : decode prog_14_method_52_code 122 = .ok (.sipush 304, 3) := by decide +kernel
theorem dq_Md_origin_125 : decode prog_14_method_52_code 125 = .ok (.iastore, 1) := by decide +kernel
theorem dq_Md_origin_126 : decode prog_14_method_52_code 126 = .ok (.aload_n 0, 1) := by decide +kernel
theorem dq_Md_origin_127 : decode prog_14_method_52_code 127 = .ok (.getfield 93, 3) := by decide +kernel
theorem dq_Md_origin_130 : decode prog_14_method_52_code 130 = .ok (.iload_n 2, 1) := by decide +kernel
theorem dq_Md_origin_131 : decode prog_14_method_52_code 131 = .ok (.iaload, 1) := by decide +kernel
theorem dq_Md_origin_132 : decode prog_14_method_52_code 132 = .ok (.ireturn, 1) := by decide +kernel
set_option maxRecDepth 100000 in
def pq_Md_origin_33 (E : wo_E) (mc ms : Nat) (Post : Int32 → wo_W → Prop) (G : wo_W) (c s : Nat) : Prop := Post (-1 : Int32) G
set_option maxRecDepth 100000 in
def pq_Md_origin_126 (E : wo_E) (mc ms : Nat) (Post : Int32 → wo_W → Prop) (G : wo_W) (c s : Nat) (x0 : Nat) (x2 : Int32) : Prop := wo_ty G x0 = 15 ∧ ∀ r2 : Option Nat, r2 = wo_gr G 926 x0 → ∃ a4 : Nat, r2 = some a4 ∧ wo_ty G a4 = 66 ∧ vp_in x2 (wo_len G a4) ∧ Post (wo_ei G a4 x2.toNatClampNeg) G
set_option maxRecDepth 100000 in
def pq_Md_origin_74 (E : wo_E) (mc ms : Nat) (Post : Int32 → wo_W → Prop) (G : wo_W) (c s : Nat) (x0 : Nat) (x2 : Int32) (y0 : Option Nat) (y1 : Int32) (y2 : Int32) : Prop := ∃ a1 : Nat, y0 = some a1 ∧ wo_ty G a1 = 66 ∧ vp_in y1 (wo_len G a1) ∧ en_bs E ≤ a1 ∧ ∀ G5 : wo_W, G5 = wo_sei G a1 y1.toNatClampNeg y2 → 
  wo_ty G5 x0 = 15 ∧ ∀ r8 : Option Nat, r8 = wo_gr G5 926 x0 → ∃ a10 : Nat, r8 = some a10 ∧ wo_ty G5 a10 = 66 ∧ vp_in x2 (wo_len G5 a10) ∧ ((¬ (wo_ei G5 a10 x2.toNatClampNeg) = (200 : Int32) → pq_Md_origin_126 E mc ms Post G5 c s x0 x2) ∧
  ((wo_ei G5 a10 x2.toNatClampNeg) = (200 : Int32) → ∀ r13 : Option Nat, r13 = wo_gr G5 924 x0 → ∃ a15 : Nat, r13 = some a15 ∧ wo_ty G5 a15 = 72 ∧ vp_in x2 (wo_len G5 a15) ∧ (((wo_ei G5 a15 x2.toNatClampNeg) = (0 : Int32) → pq_Md_origin_126 E mc ms Post G5 c s x0 x2) ∧
    (¬ (wo_ei G5 a15 x2.toNatClampNeg) = (0 : Int32) → ∀ r18 : Option Nat, r18 = wo_gr G5 932 x0 → ∃ a20 : Nat, r18 = some a20 ∧ wo_ty G5 a20 = 66 ∧ vp_in ((20 : Int32) + x2) (wo_len G5 a20) ∧ ∀ r23 : Option Nat, r23 = wo_gr G5 932 x0 → ∃ a25 : Nat, r23 = some a25 ∧ wo_ty G5 a25 = 66 ∧ vp_in ((30 : Int32) + x2) (wo_len G5 a25) ∧ ((¬ (wo_ei G5 a20 ((20 : Int32) + x2).toNatClampNeg) = (wo_ei G5 a25 ((30 : Int32) + x2).toNatClampNeg) → pq_Md_origin_126 E mc ms Post G5 c s x0 x2) ∧
      ((wo_ei G5 a20 ((20 : Int32) + x2).toNatClampNeg) = (wo_ei G5 a25 ((30 : Int32) + x2).toNatClampNeg) → ∀ r28 : Option Nat, r28 = wo_gr G5 926 x0 → ∃ a30 : Nat, r28 = some a30 ∧ wo_ty G5 a30 = 66 ∧ vp_in x2 (wo_len G5 a30) ∧ en_bs E ≤ a30 ∧ ∀ G34 : wo_W, G34 = wo_sei G5 a30 x2.toNatClampNeg (304 : Int32) → 
        pq_Md_origin_126 E mc ms Post G34 c s x0 x2))))))
set_option maxRecDepth 100000 in
def pq_Md_origin_18 (E : wo_E) (mc ms : Nat) (Post : Int32 → wo_W → Prop) (G : wo_W) (c s : Nat) (x0 : Nat) (y0 : Int32) : Prop := ((y0 < (0 : Int32) → pq_Md_origin_33 E mc ms Post G c s) ∧
  (¬ y0 < (0 : Int32) → wo_ty G x0 = 15 ∧ ∀ r2 : Option Nat, r2 = wo_gr G 918 x0 → ∃ a4 : Nat, r2 = some a4 ∧ wo_ty G a4 = 66 ∧ vp_in y0 (wo_len G a4) ∧ (((wo_ei G a4 y0.toNatClampNeg) = (2 : Int32) → ∀ r7 : Option Nat, r7 = wo_gr G 918 x0 → ∃ a9 : Nat, r7 = some a9 ∧ wo_ty G a9 = 66 ∧ vp_in y0 (wo_len G a9) ∧ en_bs E ≤ a9 ∧ ∀ G13 : wo_W, G13 = wo_sei G a9 y0.toNatClampNeg (3 : Int32) → 
      ∀ r15 : Option Nat, r15 = wo_gr G13 926 x0 → ∀ r17 : Option Nat, r17 = wo_gr G13 907 x0 → ∃ a19 : Nat, r17 = some a19 ∧ wo_ty G13 a19 = 66 ∧ vp_in y0 (wo_len G13 a19) ∧ (((wo_ei G13 a19 y0.toNatClampNeg) ≤ (1 : Int32) → ∃ mc22 ms23 : Nat, (c + mc22) ≤ mc ∧ (s + ms23) ≤ ms ∧ pq_Md_ask E mc22 ms23 (fun v25 G24 => 
        pq_Md_origin_74 E mc ms Post G24 (c + mc22) (s + ms23) x0 y0 r15 y0 v25) G13 x0 y0 ((30 : Int32) + y0)) ∧
      (¬ (wo_ei G13 a19 y0.toNatClampNeg) ≤ (1 : Int32) → ∃ mc26 ms27 : Nat, (c + mc26) ≤ mc ∧ (s + ms27) ≤ ms ∧ pq_Md_change E mc26 ms27 (fun v29 G28 => 
        pq_Md_origin_74 E mc ms Post G28 (c + mc26) (s + ms27) x0 y0 r15 y0 v29) G13 x0 y0))) ∧
    (¬ (wo_ei G a4 y0.toNatClampNeg) = (2 : Int32) → pq_Md_origin_33 E mc ms Post G c s))))
set_option maxRecDepth 100000 in
def pq_Md_origin_9 (E : wo_E) (mc ms : Nat) (Post : Int32 → wo_W → Prop) (G : wo_W) (c s : Nat) (x0 : Nat) : Prop := pq_Md_origin_18 E mc ms Post G c s x0 (-1 : Int32)
set_option maxRecDepth 100000 in
def pq_Md_origin_0 (E : wo_E) (mc ms : Nat) (Post : Int32 → wo_W → Prop) (G : wo_W) (c s : Nat) (x0 : Nat) (x1 : Int32) : Prop := ((x1 < (0 : Int32) → pq_Md_origin_9 E mc ms Post G c s x0) ∧
  (¬ x1 < (0 : Int32) → ((x1 ≤ (1 : Int32) → wo_ty G x0 = 15 ∧ ∃ mc2 ms3 : Nat, (c + mc2) ≤ mc ∧ (s + ms3) ≤ ms ∧ pq_Md_jobOn E mc2 ms3 (fun v5 G4 => 
      pq_Md_origin_18 E mc ms Post G4 (c + mc2) (s + ms3) x0 v5) G x0 x1) ∧
    (¬ x1 ≤ (1 : Int32) → pq_Md_origin_9 E mc ms Post G c s x0))))
def pq_Md_origin (E : wo_E) (mc ms : Nat) (Post : Int32 → wo_W → Prop) (G : wo_W) (x0 : Nat) (x1 : Int32) : Prop := pq_Md_origin_0 E mc ms Post G 0 0 x0 x1
set_option maxRecDepth 100000 in
set_option maxHeartbeats 4000000 in
theorem tq_Md_origin_33 {p : Program} {l : Launch} {e : Env} {R : Room} {s₀ : State} {m : MethodId} {args : Array Value} {below : List Frame} {meth : Method} {cd : Code} {E : wo_E} {mc ms : Nat} {Post : Int32 → wo_W → Prop} (hC : wo_Cx E "EdgeCacheModel" prog_14_method_52_code 3 6 146 ((Option.some Jvm.ClassFile.FieldType.int)) "origin" mc ms p R s₀ m args meth cd) : ∀ {G : wo_W} {c s : Nat}, pq_Md_origin_33 E mc ms Post G c s → ∀ {H : Heap} {locs : List Loc} {ls : Array Slot}, wo_Se E G H → va_S (en_A E) s₀.heap H locs → lx_has ls 3 [] → c ≤ mc → s ≤ ms → W p l e R s₀ m args below meth cd H locs c s (MQ below (va_Qi Post (wo_B E) (en_A E)) args s₀ mc ms (en_A E)) (F0 m 33 ls []) := by
  intro G c s hw H locs ls hG hS hl hcc hss
  dsimp only [pq_Md_origin_33] at hw
  have hx := hC.1
  have hb := hC.2.1
  refine lv_iconst (v := (-1 : Int32)) hx hb dq_Md_origin_33 rfl ?_
  exact wo_iret hC hG hS hcc hss hw dq_Md_origin_34
set_option maxRecDepth 100000 in
set_option maxHeartbeats 4000000 in
theorem tq_Md_origin_126 {p : Program} {l : Launch} {e : Env} {R : Room} {s₀ : State} {m : MethodId} {args : Array Value} {below : List Frame} {meth : Method} {cd : Code} {E : wo_E} {mc ms : Nat} {Post : Int32 → wo_W → Prop} (hC : wo_Cx E "EdgeCacheModel" prog_14_method_52_code 3 6 146 ((Option.some Jvm.ClassFile.FieldType.int)) "origin" mc ms p R s₀ m args meth cd) : ∀ {G : wo_W} {c s : Nat} {x0 : Nat} {x2 : Int32}, pq_Md_origin_126 E mc ms Post G c s x0 x2 → ∀ {H : Heap} {locs : List Loc} {ls : Array Slot}, wo_Se E G H → va_S (en_A E) s₀.heap H locs → lx_has ls 3 [(0, 1, .ref x0), (2, 1, .int x2)] → c ≤ mc → s ≤ ms → W p l e R s₀ m args below meth cd H locs c s (MQ below (va_Qi Post (wo_B E) (en_A E)) args s₀ mc ms (en_A E)) (F0 m 126 ls []) := by
  intro G c s x0 x2 hw H locs ls hG hS hl hcc hss
  dsimp only [pq_Md_origin_126] at hw
  have hx := hC.1
  have hb := hC.2.1
  refine lv_aload_n hx hb dq_Md_origin_126 rfl (lx_at hl 0 rfl) ?_
  obtain ⟨t1, hw⟩ := hw
  refine wo_getR hC fq_Md_93 rfl hG t1 dq_Md_origin_127 (fun r2 e3 => ?_)
  replace hw := hw r2 e3
  refine lv_iload_n hx hb dq_Md_origin_130 rfl (lx_at hl 1 rfl) ?_
  obtain ⟨a4, rfl, hw⟩ := hw
  obtain ⟨t5, hw⟩ := hw
  obtain ⟨h6, hw⟩ := hw
  refine wo_iald (j := 2) hC rfl hG t5 h6 dq_Md_origin_131 ?_
  exact wo_iret hC hG hS hcc hss hw dq_Md_origin_132
set_option maxRecDepth 100000 in
set_option maxHeartbeats 4000000 in
theorem tq_Md_origin_74 {p : Program} {l : Launch} {e : Env} {R : Room} {s₀ : State} {m : MethodId} {args : Array Value} {below : List Frame} {meth : Method} {cd : Code} {E : wo_E} {mc ms : Nat} {Post : Int32 → wo_W → Prop} (hC : wo_Cx E "EdgeCacheModel" prog_14_method_52_code 3 6 146 ((Option.some Jvm.ClassFile.FieldType.int)) "origin" mc ms p R s₀ m args meth cd) : ∀ {G : wo_W} {c s : Nat} {x0 : Nat} {x2 : Int32} {y0 : Option Nat} {y1 : Int32} {y2 : Int32}, pq_Md_origin_74 E mc ms Post G c s x0 x2 y0 y1 y2 → ∀ {H : Heap} {locs : List Loc} {ls : Array Slot}, wo_Se E G H → va_S (en_A E) s₀.heap H locs → lx_has ls 3 [(0, 1, .ref x0), (2, 1, .int x2)] → c ≤ mc → s ≤ ms → W p l e R s₀ m args below meth cd H locs c s (MQ below (va_Qi Post (wo_B E) (en_A E)) args s₀ mc ms (en_A E)) (F0 m 74 ls [.int y2, .int y1, va_rf y0]) := by
  intro G c s x0 x2 y0 y1 y2 hw H locs ls hG hS hl hcc hss
  dsimp only [pq_Md_origin_74] at hw
  have hx := hC.1
  have hb := hC.2.1
  obtain ⟨a1, rfl, hw⟩ := hw
  obtain ⟨t2, hw⟩ := hw
  obtain ⟨h3, hw⟩ := hw
  obtain ⟨h4, hw⟩ := hw
  refine wo_iast (j := 2) hC rfl hG hS t2 h3 h4 dq_Md_origin_74 (fun G5 H locs e6 hG hS => ?_)
  replace hw := hw G5 e6
  refine lv_aload_n hx hb dq_Md_origin_75 rfl (lx_at hl 0 rfl) ?_
  obtain ⟨t7, hw⟩ := hw
  refine wo_getR hC fq_Md_93 rfl hG t7 dq_Md_origin_76 (fun r8 e9 => ?_)
  replace hw := hw r8 e9
  refine lv_iload_n hx hb dq_Md_origin_79 rfl (lx_at hl 1 rfl) ?_
  obtain ⟨a10, rfl, hw⟩ := hw
  obtain ⟨t11, hw⟩ := hw
  obtain ⟨h12, hw⟩ := hw
  refine wo_iald (j := 2) hC rfl hG t11 h12 dq_Md_origin_80 ?_
  refine lv_sipush (v := (200 : Int32)) hx hb dq_Md_origin_81 rfl ?_
  refine lv_icmp_ne (tgt := 126) hx hb dq_Md_origin_84 rfl (fun h => ?_) (fun h => ?_)
  · replace hw := hw.1 h
    exact tq_Md_origin_126 hC hw hG hS (lx_sub hl [0, 1] rfl) hcc hss
  · replace hw := hw.2 h
    refine lv_aload_n hx hb dq_Md_origin_87 rfl (lx_at hl 0 rfl) ?_
    refine wo_getR hC fq_Md_87 rfl hG t7 dq_Md_origin_88 (fun r13 e14 => ?_)
    replace hw := hw r13 e14
    refine lv_iload_n hx hb dq_Md_origin_91 rfl (lx_at hl 1 rfl) ?_
    obtain ⟨a15, rfl, hw⟩ := hw
    obtain ⟨t16, hw⟩ := hw
    obtain ⟨h17, hw⟩ := hw
    refine wo_zald (j := 8) hC rfl hG t16 h17 dq_Md_origin_92 ?_
    refine lv_if_eq (tgt := 126) hx hb dq_Md_origin_93 rfl (fun h => ?_) (fun h => ?_)
    · replace hw := hw.1 h
      exact tq_Md_origin_126 hC hw hG hS (lx_sub hl [0, 1] rfl) hcc hss
    · replace hw := hw.2 h
      refine lv_aload_n hx hb dq_Md_origin_96 rfl (lx_at hl 0 rfl) ?_
      refine wo_getR hC fq_Md_108 rfl hG t7 dq_Md_origin_97 (fun r18 e19 => ?_)
      replace hw := hw r18 e19
      refine lv_bipush (v := (20 : Int32)) hx hb dq_Md_origin_100 rfl ?_
      refine lv_iload_n hx hb dq_Md_origin_102 rfl (lx_at hl 1 rfl) ?_
      refine lv_iadd hx hb dq_Md_origin_103 ?_
      obtain ⟨a20, rfl, hw⟩ := hw
      obtain ⟨t21, hw⟩ := hw
      obtain ⟨h22, hw⟩ := hw
      refine wo_iald (j := 2) hC rfl hG t21 h22 dq_Md_origin_104 ?_
      refine lv_aload_n hx hb dq_Md_origin_105 rfl (lx_at hl 0 rfl) ?_
      refine wo_getR hC fq_Md_108 rfl hG t7 dq_Md_origin_106 (fun r23 e24 => ?_)
      replace hw := hw r23 e24
      refine lv_bipush (v := (30 : Int32)) hx hb dq_Md_origin_109 rfl ?_
      refine lv_iload_n hx hb dq_Md_origin_111 rfl (lx_at hl 1 rfl) ?_
      refine lv_iadd hx hb dq_Md_origin_112 ?_
      obtain ⟨a25, rfl, hw⟩ := hw
      obtain ⟨t26, hw⟩ := hw
      obtain ⟨h27, hw⟩ := hw
      refine wo_iald (j := 2) hC rfl hG t26 h27 dq_Md_origin_113 ?_
      refine lv_icmp_ne (tgt := 126) hx hb dq_Md_origin_114 rfl (fun h => ?_) (fun h => ?_)
      · replace hw := hw.1 h
        exact tq_Md_origin_126 hC hw hG hS (lx_sub hl [0, 1] rfl) hcc hss
      · replace hw := hw.2 h
        refine lv_aload_n hx hb dq_Md_origin_117 rfl (lx_at hl 0 rfl) ?_
        refine wo_getR hC fq_Md_93 rfl hG t7 dq_Md_origin_118 (fun r28 e29 => ?_)
        replace hw := hw r28 e29
        refine lv_iload_n hx hb dq_Md_origin_121 rfl (lx_at hl 1 rfl) ?_
        refine lv_sipush (v := (304 : Int32)) hx hb dq_Md_origin_122 rfl ?_
        obtain ⟨a30, rfl, hw⟩ := hw
        obtain ⟨t31, hw⟩ := hw
        obtain ⟨h32, hw⟩ := hw
        obtain ⟨h33, hw⟩ := hw
        refine wo_iast (j := 2) hC rfl hG hS t31 h32 h33 dq_Md_origin_125 (fun G34 H locs e35 hG hS => ?_)
        replace hw := hw G34 e35
        exact tq_Md_origin_126 hC hw hG hS (lx_sub hl [0, 1] rfl) hcc hss
set_option maxRecDepth 100000 in
set_option maxHeartbeats 4000000 in
theorem tq_Md_origin_18 {p : Program} {l : Launch} {e : Env} {R : Room} {s₀ : State} {m : MethodId} {args : Array Value} {below : List Frame} {meth : Method} {cd : Code} {E : wo_E} {mc ms : Nat} {Post : Int32 → wo_W → Prop} (hC : wo_Cx E "EdgeCacheModel" prog_14_method_52_code 3 6 146 ((Option.some Jvm.ClassFile.FieldType.int)) "origin" mc ms p R s₀ m args meth cd) : ∀ {G : wo_W} {c s : Nat} {x0 : Nat} {y0 : Int32}, pq_Md_origin_18 E mc ms Post G c s x0 y0 → ∀ {H : Heap} {locs : List Loc} {ls : Array Slot}, wo_Se E G H → va_S (en_A E) s₀.heap H locs → lx_has ls 3 [(0, 1, .ref x0)] → c ≤ mc → s ≤ ms → W p l e R s₀ m args below meth cd H locs c s (MQ below (va_Qi Post (wo_B E) (en_A E)) args s₀ mc ms (en_A E)) (F0 m 18 ls [.int y0]) := by
  intro G c s x0 y0 hw H locs ls hG hS hl hcc hss
  dsimp only [pq_Md_origin_18] at hw
  have hx := hC.1
  have hb := hC.2.1
  refine lx_istore_n (lv' := [(2, 1, .int y0), (0, 1, .ref x0)]) hx hb dq_Md_origin_18 rfl hl (by decide) rfl (fun ls hl' => ?_)
  clear hl
  have hl := hl'
  clear hl'
  refine lv_iload_n hx hb dq_Md_origin_19 rfl (lx_at hl 0 rfl) ?_
  refine lv_if_lt (tgt := 33) hx hb dq_Md_origin_20 rfl (fun h => ?_) (fun h => ?_)
  · replace hw := hw.1 h
    exact tq_Md_origin_33 hC hw hG hS (lx_sub hl [] rfl) hcc hss
  · replace hw := hw.2 h
    refine lv_aload_n hx hb dq_Md_origin_23 rfl (lx_at hl 1 rfl) ?_
    obtain ⟨t1, hw⟩ := hw
    refine wo_getR hC fq_Md_69 rfl hG t1 dq_Md_origin_24 (fun r2 e3 => ?_)
    replace hw := hw r2 e3
    refine lv_iload_n hx hb dq_Md_origin_27 rfl (lx_at hl 0 rfl) ?_
    obtain ⟨a4, rfl, hw⟩ := hw
    obtain ⟨t5, hw⟩ := hw
    obtain ⟨h6, hw⟩ := hw
    refine wo_iald (j := 2) hC rfl hG t5 h6 dq_Md_origin_28 ?_
    refine lv_iconst (v := (2 : Int32)) hx hb dq_Md_origin_29 rfl ?_
    refine lv_icmp_eq (tgt := 35) hx hb dq_Md_origin_30 rfl (fun h => ?_) (fun h => ?_)
    · replace hw := hw.1 h
      refine lv_aload_n hx hb dq_Md_origin_35 rfl (lx_at hl 1 rfl) ?_
      refine wo_getR hC fq_Md_69 rfl hG t1 dq_Md_origin_36 (fun r7 e8 => ?_)
      replace hw := hw r7 e8
      refine lv_iload_n hx hb dq_Md_origin_39 rfl (lx_at hl 0 rfl) ?_
      refine lv_iconst (v := (3 : Int32)) hx hb dq_Md_origin_40 rfl ?_
      obtain ⟨a9, rfl, hw⟩ := hw
      obtain ⟨t10, hw⟩ := hw
      obtain ⟨h11, hw⟩ := hw
      obtain ⟨h12, hw⟩ := hw
      refine wo_iast (j := 2) hC rfl hG hS t10 h11 h12 dq_Md_origin_41 (fun G13 H locs e14 hG hS => ?_)
      replace hw := hw G13 e14
      refine lv_aload_n hx hb dq_Md_origin_42 rfl (lx_at hl 1 rfl) ?_
      refine wo_getR hC fq_Md_93 rfl hG (ty_sei e14 t1) dq_Md_origin_43 (fun r15 e16 => ?_)
      replace hw := hw r15 e16
      refine lv_iload_n hx hb dq_Md_origin_46 rfl (lx_at hl 0 rfl) ?_
      refine lv_aload_n hx hb dq_Md_origin_47 rfl (lx_at hl 1 rfl) ?_
      refine wo_getR hC fq_Md_41 rfl hG (ty_sei e14 t1) dq_Md_origin_48 (fun r17 e18 => ?_)
      replace hw := hw r17 e18
      refine lv_iload_n hx hb dq_Md_origin_51 rfl (lx_at hl 0 rfl) ?_
      obtain ⟨a19, rfl, hw⟩ := hw
      obtain ⟨t20, hw⟩ := hw
      obtain ⟨h21, hw⟩ := hw
      refine wo_iald (j := 2) hC rfl hG t20 h21 dq_Md_origin_52 ?_
      refine lv_iconst (v := (1 : Int32)) hx hb dq_Md_origin_53 rfl ?_
      refine lv_icmp_le (tgt := 65) hx hb dq_Md_origin_54 rfl (fun h => ?_) (fun h => ?_)
      · replace hw := hw.1 h
        refine lv_aload_n hx hb dq_Md_origin_65 rfl (lx_at hl 1 rfl) ?_
        refine lv_iload_n hx hb dq_Md_origin_66 rfl (lx_at hl 0 rfl) ?_
        refine lv_bipush (v := (30 : Int32)) hx hb dq_Md_origin_67 rfl ?_
        refine lv_iload_n hx hb dq_Md_origin_69 rfl (lx_at hl 0 rfl) ?_
        refine lv_iadd hx hb dq_Md_origin_70 ?_
        obtain ⟨mc22, ms23, hc1, hs1, hw⟩ := hw
        refine va_calli (wo_runV hC lq_Md_340 (mq_Md_ask hw) hG hS (ty_sei e14 t1) rfl (lx_sz hl) rfl (lx_rm (Nat.le_of_ble_eq_true rfl)) (by decide) dq_Md_origin_71 ⟨hc1, hs1⟩) hS (fun _ _ h => h) (fun _ h => h) (fun v25 G24 t H locs ht hvm hw' hB _ _ hS => ?_)
        clear hw
        have hw := hw'
        clear hw'
        replace hG := wo_bk ht hB
        replace hcc := hc1
        replace hss := hs1
        exact tq_Md_origin_74 hC hw hG hS (lx_sub hl [1, 0] rfl) hcc hss
      · replace hw := hw.2 h
        refine lv_aload_n hx hb dq_Md_origin_57 rfl (lx_at hl 1 rfl) ?_
        refine lv_iload_n hx hb dq_Md_origin_58 rfl (lx_at hl 0 rfl) ?_
        obtain ⟨mc26, ms27, hc1, hs1, hw⟩ := hw
        refine va_calli (wo_runV hC lq_Md_334 (mq_Md_change hw) hG hS (ty_sei e14 t1) rfl (lx_sz hl) rfl (lx_rm (Nat.le_of_ble_eq_true rfl)) (by decide) dq_Md_origin_59 ⟨hc1, hs1⟩) hS (fun _ _ h => h) (fun _ h => h) (fun v29 G28 t H locs ht hvm hw' hB _ _ hS => ?_)
        clear hw
        have hw := hw'
        clear hw'
        replace hG := wo_bk ht hB
        replace hcc := hc1
        replace hss := hs1
        refine lv_goto (tgt := 74) hx hb dq_Md_origin_62 rfl ?_
        exact tq_Md_origin_74 hC hw hG hS (lx_sub hl [1, 0] rfl) hcc hss
    · replace hw := hw.2 h
      exact tq_Md_origin_33 hC hw hG hS (lx_sub hl [] rfl) hcc hss
set_option maxRecDepth 100000 in
set_option maxHeartbeats 4000000 in
theorem tq_Md_origin_9 {p : Program} {l : Launch} {e : Env} {R : Room} {s₀ : State} {m : MethodId} {args : Array Value} {below : List Frame} {meth : Method} {cd : Code} {E : wo_E} {mc ms : Nat} {Post : Int32 → wo_W → Prop} (hC : wo_Cx E "EdgeCacheModel" prog_14_method_52_code 3 6 146 ((Option.some Jvm.ClassFile.FieldType.int)) "origin" mc ms p R s₀ m args meth cd) : ∀ {G : wo_W} {c s : Nat} {x0 : Nat}, pq_Md_origin_9 E mc ms Post G c s x0 → ∀ {H : Heap} {locs : List Loc} {ls : Array Slot}, wo_Se E G H → va_S (en_A E) s₀.heap H locs → lx_has ls 3 [(0, 1, .ref x0)] → c ≤ mc → s ≤ ms → W p l e R s₀ m args below meth cd H locs c s (MQ below (va_Qi Post (wo_B E) (en_A E)) args s₀ mc ms (en_A E)) (F0 m 9 ls []) := by
  intro G c s x0 hw H locs ls hG hS hl hcc hss
  dsimp only [pq_Md_origin_9] at hw
  have hx := hC.1
  have hb := hC.2.1
  refine lv_iconst (v := (-1 : Int32)) hx hb dq_Md_origin_9 rfl ?_
  refine lv_goto (tgt := 18) hx hb dq_Md_origin_10 rfl ?_
  exact tq_Md_origin_18 hC hw hG hS (lx_sub hl [0] rfl) hcc hss
set_option maxRecDepth 100000 in
set_option maxHeartbeats 4000000 in
theorem tq_Md_origin_0 {p : Program} {l : Launch} {e : Env} {R : Room} {s₀ : State} {m : MethodId} {args : Array Value} {below : List Frame} {meth : Method} {cd : Code} {E : wo_E} {mc ms : Nat} {Post : Int32 → wo_W → Prop} (hC : wo_Cx E "EdgeCacheModel" prog_14_method_52_code 3 6 146 ((Option.some Jvm.ClassFile.FieldType.int)) "origin" mc ms p R s₀ m args meth cd) : ∀ {G : wo_W} {c s : Nat} {x0 : Nat} {x1 : Int32}, pq_Md_origin_0 E mc ms Post G c s x0 x1 → ∀ {H : Heap} {locs : List Loc} {ls : Array Slot}, wo_Se E G H → va_S (en_A E) s₀.heap H locs → lx_has ls 3 [(0, 1, .ref x0), (1, 1, .int x1)] → c ≤ mc → s ≤ ms → W p l e R s₀ m args below meth cd H locs c s (MQ below (va_Qi Post (wo_B E) (en_A E)) args s₀ mc ms (en_A E)) (F0 m 0 ls []) := by
  intro G c s x0 x1 hw H locs ls hG hS hl hcc hss
  dsimp only [pq_Md_origin_0] at hw
  have hx := hC.1
  have hb := hC.2.1
  refine lv_iload_n hx hb dq_Md_origin_0 rfl (lx_at hl 1 rfl) ?_
  refine lv_if_lt (tgt := 9) hx hb dq_Md_origin_1 rfl (fun h => ?_) (fun h => ?_)
  · replace hw := hw.1 h
    exact tq_Md_origin_9 hC hw hG hS (lx_sub hl [0] rfl) hcc hss
  · replace hw := hw.2 h
    refine lv_iload_n hx hb dq_Md_origin_4 rfl (lx_at hl 1 rfl) ?_
    refine lv_iconst (v := (1 : Int32)) hx hb dq_Md_origin_5 rfl ?_
    refine lv_icmp_le (tgt := 13) hx hb dq_Md_origin_6 rfl (fun h => ?_) (fun h => ?_)
    · replace hw := hw.1 h
      refine lv_aload_n hx hb dq_Md_origin_13 rfl (lx_at hl 0 rfl) ?_
      refine lv_iload_n hx hb dq_Md_origin_14 rfl (lx_at hl 1 rfl) ?_
      obtain ⟨t1, hw⟩ := hw
      obtain ⟨mc2, ms3, hc1, hs1, hw⟩ := hw
      refine va_calli (wo_runV hC lq_Md_373 (mq_Md_jobOn hw) hG hS t1 rfl (lx_sz hl) rfl (Nat.zero_le _) (by decide) dq_Md_origin_15 ⟨hc1, hs1⟩) hS (fun _ _ h => h) (fun _ h => h) (fun v5 G4 t H locs ht hvm hw' hB _ _ hS => ?_)
      clear hw
      have hw := hw'
      clear hw'
      replace hG := wo_bk ht hB
      replace hcc := hc1
      replace hss := hs1
      exact tq_Md_origin_18 hC hw hG hS (lx_sub hl [0] rfl) hcc hss
    · replace hw := hw.2 h
      exact tq_Md_origin_9 hC hw hG hS (lx_sub hl [0] rfl) hcc hss
set_option maxHeartbeats 4000000 in
theorem mq_Md_origin {l : Launch} {E : wo_E} {mc ms : Nat} {Post : Int32 → wo_W → Prop} {G : wo_W} {x0 : Nat} {x1 : Int32} (hw : pq_Md_origin E mc ms Post G x0 x1) : Met l yq_Md_origin (Cond.code yq_Md_origin prog_14_method_52_code 3 ((Option.some Jvm.ClassFile.FieldType.int)) :: vw_WG) { frames := 6, cells := mc, slots := ms, locals := 146 } (va_Pc [.ref x0, .int x1] (wo_Ok E G)) (va_Qi Post (wo_B E) (en_A E)) mc ms (en_A E) := by
  unfold pq_Md_origin at hw
  exact wo_met [(1, .ref x0), (1, .int x1)] rfl (by decide) (fun q hq => by simp only [List.mem_cons, List.not_mem_nil, or_false] at hq; rcases hq with rfl | rfl <;> first | rfl | exact lx_cR _) (Nat.le_of_ble_eq_true rfl) (fun p e R s m args below meth cd ls hC hG hS hl => tq_Md_origin_0 hC hw hG hS (lx_sub hl [0, 1] rfl) (Nat.zero_le _) (Nat.zero_le _))

theorem dq_Md_invalidate_0 : decode prog_14_method_54_code 0 = .ok (.iconst 0, 1) := by decide +kernel
theorem dq_Md_invalidate_1 : decode prog_14_method_54_code 1 = .ok (.istore_n 3, 1) := by decide +kernel
theorem dq_Md_invalidate_2 : decode prog_14_method_54_code 2 = .ok (.iload_n 3, 1) := by decide +kernel
theorem dq_Md_invalidate_3 : decode prog_14_method_54_code 3 = .ok (.bipush 20, 2) := by decide +kernel
theorem dq_Md_invalidate_5 : decode prog_14_method_54_code 5 = .ok (.if_icmp .ge 38, 3) := by decide +kernel
theorem dq_Md_invalidate_8 : decode prog_14_method_54_code 8 = .ok (.aload_n 0, 1) := by decide +kernel
theorem dq_Md_invalidate_9 : decode prog_14_method_54_code 9 = .ok (.getfield 120, 3) := by decide +kernel
theorem dq_Md_invalidate_12 : decode prog_14_method_54_code 12 = .ok (.iload_n 3, 1) := by decide +kernel
theorem dq_Md_invalidate_13 : decode prog_14_method_54_code 13 = .ok (.aload_n 0, 1) := by decide +kernel
theorem dq_Md_invalidate_14 : decode prog_14_method_54_code 14 = .ok (.getfield 120, 3) := by decide +kernel
theorem dq_Md_invalidate_17 : decode prog_14_method_54_code 17 = .ok (.iload_n 3, 1) := by decide +kernel
theorem dq_Md_invalidate_18 : decode prog_14_method_54_code 18 = .ok (.baload, 1) := by decide +kernel
theorem dq_Md_invalidate_19 : decode prog_14_method_54_code 19 = .ok (.ifCond .eq 16, 3) := by decide +kernel
theorem dq_Md_invalidate_22 : decode prog_14_method_54_code 22 = .ok (.aload_n 0, 1) := by decide +kernel
theorem dq_Md_invalidate_23 : decode prog_14_method_54_code 23 = .ok (.iload_n 3, 1) := by decide +kernel
theorem dq_Md_invalidate_24 : decode prog_14_method_54_code 24 = .ok (.iload_n 1, 1) := by decide +kernel
theorem dq_Md_invalidate_25 : decode prog_14_method_54_code 25 = .ok (.invokevirtual 346, 3) := by decide +kernel
theorem dq_Md_invalidate_28 : decode prog_14_method_54_code 28 = .ok (.ifCond .ne 7, 3) := by decide +kernel
theorem dq_Md_invalidate_31 : decode prog_14_method_54_code 31 = .ok (.iconst 1, 1) := by decide +kernel
theorem dq_Md_invalidate_32 : decode prog_14_method_54_code 32 = .ok (.goto 4, 3) := by decide +kernel
theorem dq_Md_invalidate_35 : decode prog_14_method_54_code 35 = .ok (.iconst 0, 1) := by decide +kernel
theorem dq_Md_invalidate_36 : decode prog_14_method_54_code 36 = .ok (.bastore, 1) := by decide +kernel
theorem dq_Md_invalidate_37 : decode prog_14_method_54_code 37 = .ok (.iinc 3 1, 3) := by decide +kernel
theorem dq_Md_invalidate_40 : decode prog_14_method_54_code 40 = .ok (.goto (-38), 3) := by decide +kernel
theorem dq_Md_invalidate_43 : decode prog_14_method_54_code 43 = .ok (.aload_n 0, 1) := by decide +kernel
theorem dq_Md_invalidate_44 : decode prog_14_method_54_code 44 = .ok (.iload_n 2, 1) := by decide +kernel
theorem dq_Md_invalidate_45 : decode prog_14_method_54_code 45 = .ok (.invokevirtual 373, 3) := by decide +kernel
theorem dq_Md_invalidate_48 : decode prog_14_method_54_code 48 = .ok (.istore_n 3, 1) := by decide +kernel
theorem dq_Md_invalidate_49 : decode prog_14_method_54_code 49 = .ok (.iload_n 3, 1) := by decide +kernel
theorem dq_Md_invalidate_50 : decode prog_14_method_54_code 50 = .ok (.ifCond .lt 51, 3) := by decide +kernel
theorem dq_Md_invalidate_53 : decode prog_14_method_54_code 53 = .ok (.aload_n 0, 1) := by decide +kernel
theorem dq_Md_invalidate_54 : decode prog_14_method_54_code 54 = .ok (.getfield 41, 3) := by decide +kernel
theorem dq_Md_invalidate_57 : decode prog_14_method_54_code 57 = .ok (.iload_n 3, 1) := by decide +kernel
theorem dq_Md_invalidate_58 : decode prog_14_method_54_code 58 = .ok (.iaload, 1) := by decide +kernel
theorem dq_Md_invalidate_59 : decode prog_14_method_54_code 59 = .ok (.iconst 2, 1) := by decide +kernel
theorem dq_Md_invalidate_60 : decode prog_14_method_54_code 60 = .ok (.if_icmp .ge 41, 3) := by decide +kernel
theorem dq_Md_invalidate_63 : decode prog_14_method_54_code 63 = .ok (.aload_n 0, 1) := by decide +kernel
theorem dq_Md_invalidate_64 : decode prog_14_method_54_code 64 = .ok (.getfield 44, 3) := by decide +kernel
theorem dq_Md_invalidate_67 : decode prog_14_method_54_code 67 = .ok (.iload_n 3, 1) := by decide +kernel
theorem dq_Md_invalidate_68 : decode prog_14_method_54_code 68 = .ok (.laload, 1) := by decide +kernel
theorem dq_Md_invalidate_69 : decode prog_14_method_54_code 69 = .ok (.aload_n 0, 1) := by decide +kernel
theorem dq_Md_invalidate_70 : decode prog_14_method_54_code 70 = .ok (.getfield 44, 3) := by decide +kernel
theorem dq_Md_invalidate_73 : decode prog_14_method_54_code 73 = .ok (.iload_n 1, 1) := by decide +kernel
theorem dq_Md_invalidate_74 : decode prog_14_method_54_code 74 = .ok (.laload, 1) := by decide +kernel
theorem dq_Md_invalidate_75 : decode prog_14_method_54_code 75 = .ok (.lcmp, 1) := by decide +kernel
theorem dq_Md_invalidate_76 : decode prog_14_method_54_code 76 = .ok (.ifCond .ne 25, 3) := by decide +kernel
theorem dq_Md_invalidate_79 : decode prog_14_method_54_code 79 = .ok (.aload_n 0, 1) := by decide +kernel
theorem dq_Md_invalidate_80 : decode prog_14_method_54_code 80 = .ok (.getfield 48, 3) := by decide +kernel
theorem dq_Md_invalidate_83 : decode prog_14_method_54_code 83 = .ok (.iload_n 3, 1) := by decide +kernel
theorem dq_Md_invalidate_84 : decode prog_14_method_54_code 84 = .ok (.iaload, 1) := by decide +kernel
theorem dq_Md_invalidate_85 : decode prog_14_method_54_code 85 = .ok (.aload_n 0, 1) := by decide +kernel
theorem dq_Md_invalidate_86 : decode prog_14_method_54_code 86 = .ok (.getfield 48, 3) := by decide +kernel
theorem dq_Md_invalidate_89 : decode prog_14_method_54_code 89 = .ok (.iload_n 1, 1) := by decide +kernel
theorem dq_Md_invalidate_90 : decode prog_14_method_54_code 90 = .ok (.iaload, 1) := by decide +kernel
theorem dq_Md_invalidate_91 : decode prog_14_method_54_code 91 = .ok (.if_icmp .ne 10, 3) := by decide +kernel
theorem dq_Md_invalidate_94 : decode prog_14_method_54_code 94 = .ok (.aload_n 0, 1) := by decide +kernel
theorem dq_Md_invalidate_95 : decode prog_14_method_54_code 95 = .ok (.getfield 90, 3) := by decide +kernel
theorem dq_Md_invalidate_98 : decode prog_14_method_54_code 98 = .ok (.iload_n 3, 1) := by decide +kernel
theorem dq_Md_invalidate_99 : decode prog_14_method_54_code 99 = .ok (.iconst 1, 1) := by decide +kernel
theorem dq_Md_invalidate_100 : decode prog_14_method_54_code 100 = .ok (.bastore, 1) := by decide +kernel
theorem dq_Md_invalidate_101 : decode prog_14_method_54_code 101 = .ok (.return_, 1) := by decide +kernel
set_option maxRecDepth 100000 in
def pq_Md_invalidate_101 (E : wo_E) (mc ms : Nat) (Post : wo_W → Prop) (G : wo_W) (c s : Nat) : Prop := Post G
set_option maxRecDepth 100000 in
def pq_Md_invalidate_36 (E : wo_E) (mc ms : Nat) (Post : wo_W → Prop) (k2 : wo_W → Nat → Nat → Nat → Int32 → Int32 → Int32 → Prop) (G : wo_W) (c s : Nat) (x0 : Nat) (x1 : Int32) (x2 : Int32) (x3 : Int32) (y0 : Option Nat) (y1 : Int32) (y2 : Int32) : Prop := ∃ a1 : Nat, y0 = some a1 ∧ wo_ty G a1 = 72 ∧ vp_in y1 (wo_len G a1) ∧ en_bs E ≤ a1 ∧ ∀ G5 : wo_W, G5 = wo_sei G a1 y1.toNatClampNeg (vp_nar .boolean y2) → 
  k2 G5 c s x0 x1 x2 (x3 + (1 : Int32))
set_option maxRecDepth 100000 in
def pq_Md_invalidate_35 (E : wo_E) (mc ms : Nat) (Post : wo_W → Prop) (k2 : wo_W → Nat → Nat → Nat → Int32 → Int32 → Int32 → Prop) (G : wo_W) (c s : Nat) (x0 : Nat) (x1 : Int32) (x2 : Int32) (x3 : Int32) (y0 : Option Nat) (y1 : Int32) : Prop := pq_Md_invalidate_36 E mc ms Post k2 G c s x0 x1 x2 x3 y0 y1 (0 : Int32)
set_option maxRecDepth 100000 in
def pq_Md_invalidate_2 (E : wo_E) (mc ms : Nat) (Post : wo_W → Prop) : Nat → wo_W → Nat → Nat → Nat → Int32 → Int32 → Int32 → Prop
  | 0 => fun _ _ _ _ _ _ _ => False
  | n + 1 => fun G c s x0 x1 x2 x3 => (((20 : Int32) ≤ x3 → wo_ty G x0 = 15 ∧ ∃ mc2 ms3 : Nat, (c + mc2) ≤ mc ∧ (s + ms3) ≤ ms ∧ pq_Md_jobOn E mc2 ms3 (fun v5 G4 => 
    ((v5 < (0 : Int32) → pq_Md_invalidate_101 E mc ms Post G4 (c + mc2) (s + ms3)) ∧
      (¬ v5 < (0 : Int32) → wo_ty G4 x0 = 15 ∧ ∀ r7 : Option Nat, r7 = wo_gr G4 907 x0 → ∃ a9 : Nat, r7 = some a9 ∧ wo_ty G4 a9 = 66 ∧ vp_in v5 (wo_len G4 a9) ∧ (((2 : Int32) ≤ (wo_ei G4 a9 v5.toNatClampNeg) → pq_Md_invalidate_101 E mc ms Post G4 (c + mc2) (s + ms3)) ∧
        (¬ (2 : Int32) ≤ (wo_ei G4 a9 v5.toNatClampNeg) → ∀ r12 : Option Nat, r12 = wo_gr G4 908 x0 → ∃ a14 : Nat, r12 = some a14 ∧ wo_ty G4 a14 = 73 ∧ vp_in v5 (wo_len G4 a14) ∧ ∀ r17 : Option Nat, r17 = wo_gr G4 908 x0 → ∃ a19 : Nat, r17 = some a19 ∧ wo_ty G4 a19 = 73 ∧ vp_in x1 (wo_len G4 a19) ∧ ((¬ (lg_cmp (wo_el G4 a14 v5.toNatClampNeg) (wo_el G4 a19 x1.toNatClampNeg)) = (0 : Int32) → pq_Md_invalidate_101 E mc ms Post G4 (c + mc2) (s + ms3)) ∧
          ((lg_cmp (wo_el G4 a14 v5.toNatClampNeg) (wo_el G4 a19 x1.toNatClampNeg)) = (0 : Int32) → ∀ r22 : Option Nat, r22 = wo_gr G4 909 x0 → ∃ a24 : Nat, r22 = some a24 ∧ wo_ty G4 a24 = 66 ∧ vp_in v5 (wo_len G4 a24) ∧ ∀ r27 : Option Nat, r27 = wo_gr G4 909 x0 → ∃ a29 : Nat, r27 = some a29 ∧ wo_ty G4 a29 = 66 ∧ vp_in x1 (wo_len G4 a29) ∧ ((¬ (wo_ei G4 a24 v5.toNatClampNeg) = (wo_ei G4 a29 x1.toNatClampNeg) → pq_Md_invalidate_101 E mc ms Post G4 (c + mc2) (s + ms3)) ∧
            ((wo_ei G4 a24 v5.toNatClampNeg) = (wo_ei G4 a29 x1.toNatClampNeg) → ∀ r32 : Option Nat, r32 = wo_gr G4 925 x0 → ∃ a34 : Nat, r32 = some a34 ∧ wo_ty G4 a34 = 72 ∧ vp_in v5 (wo_len G4 a34) ∧ en_bs E ≤ a34 ∧ ∀ G38 : wo_W, G38 = wo_sei G4 a34 v5.toNatClampNeg (vp_nar .boolean (1 : Int32)) → 
              pq_Md_invalidate_101 E mc ms Post G38 (c + mc2) (s + ms3)))))))))) G x0 x2) ∧
  (¬ (20 : Int32) ≤ x3 → wo_ty G x0 = 15 ∧ ∀ r41 : Option Nat, r41 = wo_gr G 936 x0 → ∀ r43 : Option Nat, r43 = wo_gr G 936 x0 → ∃ a45 : Nat, r43 = some a45 ∧ wo_ty G a45 = 72 ∧ vp_in x3 (wo_len G a45) ∧ (((wo_ei G a45 x3.toNatClampNeg) = (0 : Int32) → pq_Md_invalidate_35 E mc ms Post (pq_Md_invalidate_2 E mc ms Post n) G c s x0 x1 x2 x3 r41 x3) ∧
    (¬ (wo_ei G a45 x3.toNatClampNeg) = (0 : Int32) → ∃ mc48 ms49 : Nat, (c + mc48) ≤ mc ∧ (s + ms49) ≤ ms ∧ pq_Md_samePath E mc48 ms49 (fun v51 G50 => 
      ((¬ v51 = (0 : Int32) → pq_Md_invalidate_35 E mc ms Post (pq_Md_invalidate_2 E mc ms Post n) G50 (c + mc48) (s + ms49) x0 x1 x2 x3 r41 x3) ∧
        (v51 = (0 : Int32) → pq_Md_invalidate_36 E mc ms Post (pq_Md_invalidate_2 E mc ms Post n) G50 (c + mc48) (s + ms49) x0 x1 x2 x3 r41 x3 (1 : Int32)))) G x0 x3 x1))))
set_option maxRecDepth 100000 in
def pq_Md_invalidate_0 (E : wo_E) (mc ms : Nat) (Post : wo_W → Prop) (G : wo_W) (c s : Nat) (x0 : Nat) (x1 : Int32) (x2 : Int32) : Prop := ∃ n1 : Nat, pq_Md_invalidate_2 E mc ms Post n1 G c s x0 x1 x2 (0 : Int32)
def pq_Md_invalidate (E : wo_E) (mc ms : Nat) (Post : wo_W → Prop) (G : wo_W) (x0 : Nat) (x1 : Int32) (x2 : Int32) : Prop := pq_Md_invalidate_0 E mc ms Post G 0 0 x0 x1 x2
set_option maxRecDepth 100000 in
set_option maxHeartbeats 4000000 in
theorem tq_Md_invalidate_101 {p : Program} {l : Launch} {e : Env} {R : Room} {s₀ : State} {m : MethodId} {args : Array Value} {below : List Frame} {meth : Method} {cd : Code} {E : wo_E} {mc ms : Nat} {Post : wo_W → Prop} (hC : wo_Cx E "EdgeCacheModel" prog_14_method_54_code 4 1 22 ((Option.none : Option Jvm.ClassFile.FieldType)) "invalidate" mc ms p R s₀ m args meth cd) : ∀ {G : wo_W} {c s : Nat}, pq_Md_invalidate_101 E mc ms Post G c s → ∀ {H : Heap} {locs : List Loc} {ls : Array Slot}, wo_Se E G H → va_S (en_A E) s₀.heap H locs → lx_has ls 4 [] → c ≤ mc → s ≤ ms → W p l e R s₀ m args below meth cd H locs c s (MQ below (va_Qv Post (wo_B E) (en_A E)) args s₀ mc ms (en_A E)) (F0 m 101 ls []) := by
  intro G c s hw H locs ls hG hS hl hcc hss
  dsimp only [pq_Md_invalidate_101] at hw
  have hx := hC.1
  have hb := hC.2.1
  exact wo_vret hC hG hS hcc hss hw dq_Md_invalidate_101
set_option maxRecDepth 100000 in
set_option maxHeartbeats 4000000 in
theorem tq_Md_invalidate_36 {p : Program} {l : Launch} {e : Env} {R : Room} {s₀ : State} {m : MethodId} {args : Array Value} {below : List Frame} {meth : Method} {cd : Code} {E : wo_E} {mc ms : Nat} {Post : wo_W → Prop} {k2 : wo_W → Nat → Nat → Nat → Int32 → Int32 → Int32 → Prop} (hC : wo_Cx E "EdgeCacheModel" prog_14_method_54_code 4 1 22 ((Option.none : Option Jvm.ClassFile.FieldType)) "invalidate" mc ms p R s₀ m args meth cd) (hk2 : ∀ {G : wo_W} {c s : Nat} {x0 : Nat} {x1 : Int32} {x2 : Int32} {x3 : Int32}, k2 G c s x0 x1 x2 x3 → ∀ {H : Heap} {locs : List Loc} {ls : Array Slot}, wo_Se E G H → va_S (en_A E) s₀.heap H locs → lx_has ls 4 [(0, 1, .ref x0), (1, 1, .int x1), (2, 1, .int x2), (3, 1, .int x3)] → c ≤ mc → s ≤ ms → W p l e R s₀ m args below meth cd H locs c s (MQ below (va_Qv Post (wo_B E) (en_A E)) args s₀ mc ms (en_A E)) (F0 m 2 ls [])) : ∀ {G : wo_W} {c s : Nat} {x0 : Nat} {x1 : Int32} {x2 : Int32} {x3 : Int32} {y0 : Option Nat} {y1 : Int32} {y2 : Int32}, pq_Md_invalidate_36 E mc ms Post k2 G c s x0 x1 x2 x3 y0 y1 y2 → ∀ {H : Heap} {locs : List Loc} {ls : Array Slot}, wo_Se E G H → va_S (en_A E) s₀.heap H locs → lx_has ls 4 [(0, 1, .ref x0), (1, 1, .int x1), (2, 1, .int x2), (3, 1, .int x3)] → c ≤ mc → s ≤ ms → W p l e R s₀ m args below meth cd H locs c s (MQ below (va_Qv Post (wo_B E) (en_A E)) args s₀ mc ms (en_A E)) (F0 m 36 ls [.int y2, .int y1, va_rf y0]) := by
  intro G c s x0 x1 x2 x3 y0 y1 y2 hw H locs ls hG hS hl hcc hss
  dsimp only [pq_Md_invalidate_36] at hw
  have hx := hC.1
  have hb := hC.2.1
  obtain ⟨a1, rfl, hw⟩ := hw
  obtain ⟨t2, hw⟩ := hw
  obtain ⟨h3, hw⟩ := hw
  obtain ⟨h4, hw⟩ := hw
  refine wo_zast (j := 8) hC rfl hG hS t2 h3 h4 dq_Md_invalidate_36 (fun G5 H locs e6 hG hS => ?_)
  replace hw := hw G5 e6
  refine lx_iinc (k := 3) (v := (x3 + (1 : Int32))) (lv' := [(3, 1, .int (x3 + (1 : Int32))), (0, 1, .ref x0), (1, 1, .int x1), (2, 1, .int x2)]) hx hb dq_Md_invalidate_37 hl rfl rfl (by decide) rfl (fun ls hl' => ?_)
  clear hl
  have hl := hl'
  clear hl'
  refine lv_goto (tgt := 2) hx hb dq_Md_invalidate_40 rfl ?_
  exact hk2 hw hG hS (lx_sub hl [1, 2, 3, 0] rfl) hcc hss
set_option maxRecDepth 100000 in
set_option maxHeartbeats 4000000 in
theorem tq_Md_invalidate_35 {p : Program} {l : Launch} {e : Env} {R : Room} {s₀ : State} {m : MethodId} {args : Array Value} {below : List Frame} {meth : Method} {cd : Code} {E : wo_E} {mc ms : Nat} {Post : wo_W → Prop} {k2 : wo_W → Nat → Nat → Nat → Int32 → Int32 → Int32 → Prop} (hC : wo_Cx E "EdgeCacheModel" prog_14_method_54_code 4 1 22 ((Option.none : Option Jvm.ClassFile.FieldType)) "invalidate" mc ms p R s₀ m args meth cd) (hk2 : ∀ {G : wo_W} {c s : Nat} {x0 : Nat} {x1 : Int32} {x2 : Int32} {x3 : Int32}, k2 G c s x0 x1 x2 x3 → ∀ {H : Heap} {locs : List Loc} {ls : Array Slot}, wo_Se E G H → va_S (en_A E) s₀.heap H locs → lx_has ls 4 [(0, 1, .ref x0), (1, 1, .int x1), (2, 1, .int x2), (3, 1, .int x3)] → c ≤ mc → s ≤ ms → W p l e R s₀ m args below meth cd H locs c s (MQ below (va_Qv Post (wo_B E) (en_A E)) args s₀ mc ms (en_A E)) (F0 m 2 ls [])) : ∀ {G : wo_W} {c s : Nat} {x0 : Nat} {x1 : Int32} {x2 : Int32} {x3 : Int32} {y0 : Option Nat} {y1 : Int32}, pq_Md_invalidate_35 E mc ms Post k2 G c s x0 x1 x2 x3 y0 y1 → ∀ {H : Heap} {locs : List Loc} {ls : Array Slot}, wo_Se E G H → va_S (en_A E) s₀.heap H locs → lx_has ls 4 [(0, 1, .ref x0), (1, 1, .int x1), (2, 1, .int x2), (3, 1, .int x3)] → c ≤ mc → s ≤ ms → W p l e R s₀ m args below meth cd H locs c s (MQ below (va_Qv Post (wo_B E) (en_A E)) args s₀ mc ms (en_A E)) (F0 m 35 ls [.int y1, va_rf y0]) := by
  intro G c s x0 x1 x2 x3 y0 y1 hw H locs ls hG hS hl hcc hss
  dsimp only [pq_Md_invalidate_35] at hw
  have hx := hC.1
  have hb := hC.2.1
  refine lv_iconst (v := (0 : Int32)) hx hb dq_Md_invalidate_35 rfl ?_
  exact tq_Md_invalidate_36 hC hk2 hw hG hS (lx_sub hl [0, 1, 2, 3] rfl) hcc hss
set_option maxRecDepth 100000 in
set_option maxHeartbeats 4000000 in
theorem tq_Md_invalidate_2 {p : Program} {l : Launch} {e : Env} {R : Room} {s₀ : State} {m : MethodId} {args : Array Value} {below : List Frame} {meth : Method} {cd : Code} {E : wo_E} {mc ms : Nat} {Post : wo_W → Prop} (hC : wo_Cx E "EdgeCacheModel" prog_14_method_54_code 4 1 22 ((Option.none : Option Jvm.ClassFile.FieldType)) "invalidate" mc ms p R s₀ m args meth cd) : ∀ n : Nat, ∀ {G : wo_W} {c s : Nat} {x0 : Nat} {x1 : Int32} {x2 : Int32} {x3 : Int32}, pq_Md_invalidate_2 E mc ms Post n G c s x0 x1 x2 x3 → ∀ {H : Heap} {locs : List Loc} {ls : Array Slot}, wo_Se E G H → va_S (en_A E) s₀.heap H locs → lx_has ls 4 [(0, 1, .ref x0), (1, 1, .int x1), (2, 1, .int x2), (3, 1, .int x3)] → c ≤ mc → s ≤ ms → W p l e R s₀ m args below meth cd H locs c s (MQ below (va_Qv Post (wo_B E) (en_A E)) args s₀ mc ms (en_A E)) (F0 m 2 ls []) := by
  intro n
  induction n with
  | zero => intro G c s x0 x1 x2 x3 hw; exact hw.elim
  | succ n ih =>
    intro G c s x0 x1 x2 x3 hw H locs ls hG hS hl hcc hss
    dsimp only [pq_Md_invalidate_2] at hw
    have hx := hC.1
    have hb := hC.2.1
    refine lv_iload_n hx hb dq_Md_invalidate_2 rfl (lx_at hl 3 rfl) ?_
    refine lv_bipush (v := (20 : Int32)) hx hb dq_Md_invalidate_3 rfl ?_
    refine lv_icmp_ge (tgt := 43) hx hb dq_Md_invalidate_5 rfl (fun h => ?_) (fun h => ?_)
    · replace hw := hw.1 h
      refine lv_aload_n hx hb dq_Md_invalidate_43 rfl (lx_at hl 0 rfl) ?_
      refine lv_iload_n hx hb dq_Md_invalidate_44 rfl (lx_at hl 2 rfl) ?_
      obtain ⟨t1, hw⟩ := hw
      obtain ⟨mc2, ms3, hc1, hs1, hw⟩ := hw
      refine va_calli (wo_runV hC lq_Md_373 (mq_Md_jobOn hw) hG hS t1 rfl (lx_sz hl) rfl (Nat.zero_le _) (by decide) dq_Md_invalidate_45 ⟨hc1, hs1⟩) hS (fun _ _ h => h) (fun _ h => h) (fun v5 G4 t H locs ht hvm hw' hB _ _ hS => ?_)
      clear hw
      have hw := hw'
      clear hw'
      replace hG := wo_bk ht hB
      replace hcc := hc1
      replace hss := hs1
      refine lx_istore_n (lv' := [(3, 1, .int v5), (0, 1, .ref x0), (1, 1, .int x1), (2, 1, .int x2)]) hx hb dq_Md_invalidate_48 rfl hl (by decide) rfl (fun ls hl' => ?_)
      clear hl
      have hl := hl'
      clear hl'
      refine lv_iload_n hx hb dq_Md_invalidate_49 rfl (lx_at hl 0 rfl) ?_
      refine lv_if_lt (tgt := 101) hx hb dq_Md_invalidate_50 rfl (fun h => ?_) (fun h => ?_)
      · replace hw := hw.1 h
        exact tq_Md_invalidate_101 hC hw hG hS (lx_sub hl [] rfl) hcc hss
      · replace hw := hw.2 h
        refine lv_aload_n hx hb dq_Md_invalidate_53 rfl (lx_at hl 1 rfl) ?_
        obtain ⟨t6, hw⟩ := hw
        refine wo_getR hC fq_Md_41 rfl hG t6 dq_Md_invalidate_54 (fun r7 e8 => ?_)
        replace hw := hw r7 e8
        refine lv_iload_n hx hb dq_Md_invalidate_57 rfl (lx_at hl 0 rfl) ?_
        obtain ⟨a9, rfl, hw⟩ := hw
        obtain ⟨t10, hw⟩ := hw
        obtain ⟨h11, hw⟩ := hw
        refine wo_iald (j := 2) hC rfl hG t10 h11 dq_Md_invalidate_58 ?_
        refine lv_iconst (v := (2 : Int32)) hx hb dq_Md_invalidate_59 rfl ?_
        refine lv_icmp_ge (tgt := 101) hx hb dq_Md_invalidate_60 rfl (fun h => ?_) (fun h => ?_)
        · replace hw := hw.1 h
          exact tq_Md_invalidate_101 hC hw hG hS (lx_sub hl [] rfl) hcc hss
        · replace hw := hw.2 h
          refine lv_aload_n hx hb dq_Md_invalidate_63 rfl (lx_at hl 1 rfl) ?_
          refine wo_getR hC fq_Md_44 rfl hG t6 dq_Md_invalidate_64 (fun r12 e13 => ?_)
          replace hw := hw r12 e13
          refine lv_iload_n hx hb dq_Md_invalidate_67 rfl (lx_at hl 0 rfl) ?_
          obtain ⟨a14, rfl, hw⟩ := hw
          obtain ⟨t15, hw⟩ := hw
          obtain ⟨h16, hw⟩ := hw
          refine wo_lald (j := 9) hC rfl hG t15 h16 dq_Md_invalidate_68 ?_
          refine lv_aload_n hx hb dq_Md_invalidate_69 rfl (lx_at hl 1 rfl) ?_
          refine wo_getR hC fq_Md_44 rfl hG t6 dq_Md_invalidate_70 (fun r17 e18 => ?_)
          replace hw := hw r17 e18
          refine lv_iload_n hx hb dq_Md_invalidate_73 rfl (lx_at hl 2 rfl) ?_
          obtain ⟨a19, rfl, hw⟩ := hw
          obtain ⟨t20, hw⟩ := hw
          obtain ⟨h21, hw⟩ := hw
          refine wo_lald (j := 9) hC rfl hG t20 h21 dq_Md_invalidate_74 ?_
          refine W.lcmp hx hb dq_Md_invalidate_75 ?_
          refine lv_if_ne (tgt := 101) hx hb dq_Md_invalidate_76 rfl (fun h => ?_) (fun h => ?_)
          · replace hw := hw.1 h
            exact tq_Md_invalidate_101 hC hw hG hS (lx_sub hl [] rfl) hcc hss
          · replace hw := hw.2 h
            refine lv_aload_n hx hb dq_Md_invalidate_79 rfl (lx_at hl 1 rfl) ?_
            refine wo_getR hC fq_Md_48 rfl hG t6 dq_Md_invalidate_80 (fun r22 e23 => ?_)
            replace hw := hw r22 e23
            refine lv_iload_n hx hb dq_Md_invalidate_83 rfl (lx_at hl 0 rfl) ?_
            obtain ⟨a24, rfl, hw⟩ := hw
            obtain ⟨t25, hw⟩ := hw
            obtain ⟨h26, hw⟩ := hw
            refine wo_iald (j := 2) hC rfl hG t25 h26 dq_Md_invalidate_84 ?_
            refine lv_aload_n hx hb dq_Md_invalidate_85 rfl (lx_at hl 1 rfl) ?_
            refine wo_getR hC fq_Md_48 rfl hG t6 dq_Md_invalidate_86 (fun r27 e28 => ?_)
            replace hw := hw r27 e28
            refine lv_iload_n hx hb dq_Md_invalidate_89 rfl (lx_at hl 2 rfl) ?_
            obtain ⟨a29, rfl, hw⟩ := hw
            obtain ⟨t30, hw⟩ := hw
            obtain ⟨h31, hw⟩ := hw
            refine wo_iald (j := 2) hC rfl hG t30 h31 dq_Md_invalidate_90 ?_
            refine lv_icmp_ne (tgt := 101) hx hb dq_Md_invalidate_91 rfl (fun h => ?_) (fun h => ?_)
            · replace hw := hw.1 h
              exact tq_Md_invalidate_101 hC hw hG hS (lx_sub hl [] rfl) hcc hss
            · replace hw := hw.2 h
              refine lv_aload_n hx hb dq_Md_invalidate_94 rfl (lx_at hl 1 rfl) ?_
              refine wo_getR hC fq_Md_90 rfl hG t6 dq_Md_invalidate_95 (fun r32 e33 => ?_)
              replace hw := hw r32 e33
              refine lv_iload_n hx hb dq_Md_invalidate_98 rfl (lx_at hl 0 rfl) ?_
              refine lv_iconst (v := (1 : Int32)) hx hb dq_Md_invalidate_99 rfl ?_
              obtain ⟨a34, rfl, hw⟩ := hw
              obtain ⟨t35, hw⟩ := hw
              obtain ⟨h36, hw⟩ := hw
              obtain ⟨h37, hw⟩ := hw
              refine wo_zast (j := 8) hC rfl hG hS t35 h36 h37 dq_Md_invalidate_100 (fun G38 H locs e39 hG hS => ?_)
              replace hw := hw G38 e39
              exact tq_Md_invalidate_101 hC hw hG hS (lx_sub hl [] rfl) hcc hss
    · replace hw := hw.2 h
      refine lv_aload_n hx hb dq_Md_invalidate_8 rfl (lx_at hl 0 rfl) ?_
      obtain ⟨t40, hw⟩ := hw
      refine wo_getR hC fq_Md_120 rfl hG t40 dq_Md_invalidate_9 (fun r41 e42 => ?_)
      replace hw := hw r41 e42
      refine lv_iload_n hx hb dq_Md_invalidate_12 rfl (lx_at hl 3 rfl) ?_
      refine lv_aload_n hx hb dq_Md_invalidate_13 rfl (lx_at hl 0 rfl) ?_
      refine wo_getR hC fq_Md_120 rfl hG t40 dq_Md_invalidate_14 (fun r43 e44 => ?_)
      replace hw := hw r43 e44
      refine lv_iload_n hx hb dq_Md_invalidate_17 rfl (lx_at hl 3 rfl) ?_
      obtain ⟨a45, rfl, hw⟩ := hw
      obtain ⟨t46, hw⟩ := hw
      obtain ⟨h47, hw⟩ := hw
      refine wo_zald (j := 8) hC rfl hG t46 h47 dq_Md_invalidate_18 ?_
      refine lv_if_eq (tgt := 35) hx hb dq_Md_invalidate_19 rfl (fun h => ?_) (fun h => ?_)
      · replace hw := hw.1 h
        exact tq_Md_invalidate_35 hC ih hw hG hS (lx_sub hl [0, 1, 2, 3] rfl) hcc hss
      · replace hw := hw.2 h
        refine lv_aload_n hx hb dq_Md_invalidate_22 rfl (lx_at hl 0 rfl) ?_
        refine lv_iload_n hx hb dq_Md_invalidate_23 rfl (lx_at hl 3 rfl) ?_
        refine lv_iload_n hx hb dq_Md_invalidate_24 rfl (lx_at hl 1 rfl) ?_
        obtain ⟨mc48, ms49, hc1, hs1, hw⟩ := hw
        refine va_calli (wo_runV hC lq_Md_346 (mq_Md_samePath hw) hG hS t40 rfl (lx_sz hl) rfl (lx_rm (Nat.le_of_ble_eq_true rfl)) (by decide) dq_Md_invalidate_25 ⟨hc1, hs1⟩) hS (fun _ _ h => h) (fun _ h => h) (fun v51 G50 t H locs ht hvm hw' hB _ _ hS => ?_)
        clear hw
        have hw := hw'
        clear hw'
        replace hG := wo_bk ht hB
        replace hcc := hc1
        replace hss := hs1
        refine lv_if_ne (tgt := 35) hx hb dq_Md_invalidate_28 rfl (fun h => ?_) (fun h => ?_)
        · replace hw := hw.1 h
          exact tq_Md_invalidate_35 hC ih hw hG hS (lx_sub hl [0, 1, 2, 3] rfl) hcc hss
        · replace hw := hw.2 h
          refine lv_iconst (v := (1 : Int32)) hx hb dq_Md_invalidate_31 rfl ?_
          refine lv_goto (tgt := 36) hx hb dq_Md_invalidate_32 rfl ?_
          exact tq_Md_invalidate_36 hC ih hw hG hS (lx_sub hl [0, 1, 2, 3] rfl) hcc hss
set_option maxRecDepth 100000 in
set_option maxHeartbeats 4000000 in
theorem tq_Md_invalidate_0 {p : Program} {l : Launch} {e : Env} {R : Room} {s₀ : State} {m : MethodId} {args : Array Value} {below : List Frame} {meth : Method} {cd : Code} {E : wo_E} {mc ms : Nat} {Post : wo_W → Prop} (hC : wo_Cx E "EdgeCacheModel" prog_14_method_54_code 4 1 22 ((Option.none : Option Jvm.ClassFile.FieldType)) "invalidate" mc ms p R s₀ m args meth cd) : ∀ {G : wo_W} {c s : Nat} {x0 : Nat} {x1 : Int32} {x2 : Int32}, pq_Md_invalidate_0 E mc ms Post G c s x0 x1 x2 → ∀ {H : Heap} {locs : List Loc} {ls : Array Slot}, wo_Se E G H → va_S (en_A E) s₀.heap H locs → lx_has ls 4 [(0, 1, .ref x0), (1, 1, .int x1), (2, 1, .int x2)] → c ≤ mc → s ≤ ms → W p l e R s₀ m args below meth cd H locs c s (MQ below (va_Qv Post (wo_B E) (en_A E)) args s₀ mc ms (en_A E)) (F0 m 0 ls []) := by
  intro G c s x0 x1 x2 hw H locs ls hG hS hl hcc hss
  dsimp only [pq_Md_invalidate_0] at hw
  have hx := hC.1
  have hb := hC.2.1
  refine lv_iconst (v := (0 : Int32)) hx hb dq_Md_invalidate_0 rfl ?_
  refine lx_istore_n (lv' := [(3, 1, .int (0 : Int32)), (0, 1, .ref x0), (1, 1, .int x1), (2, 1, .int x2)]) hx hb dq_Md_invalidate_1 rfl hl (by decide) rfl (fun ls hl' => ?_)
  clear hl
  have hl := hl'
  clear hl'
  obtain ⟨n1, hw⟩ := hw
  exact tq_Md_invalidate_2 hC n1 hw hG hS (lx_sub hl [1, 2, 3, 0] rfl) hcc hss
set_option maxHeartbeats 4000000 in
theorem mq_Md_invalidate {l : Launch} {E : wo_E} {mc ms : Nat} {Post : wo_W → Prop} {G : wo_W} {x0 : Nat} {x1 : Int32} {x2 : Int32} (hw : pq_Md_invalidate E mc ms Post G x0 x1 x2) : Met l yq_Md_invalidate (Cond.code yq_Md_invalidate prog_14_method_54_code 4 ((Option.none : Option Jvm.ClassFile.FieldType)) :: vw_WG) { frames := 1, cells := mc, slots := ms, locals := 22 } (va_Pc [.ref x0, .int x1, .int x2] (wo_Ok E G)) (va_Qv Post (wo_B E) (en_A E)) mc ms (en_A E) := by
  unfold pq_Md_invalidate at hw
  exact wo_met [(1, .ref x0), (1, .int x1), (1, .int x2)] rfl (by decide) (fun q hq => by simp only [List.mem_cons, List.not_mem_nil, or_false] at hq; rcases hq with rfl | rfl | rfl <;> first | rfl | exact lx_cR _) (Nat.le_of_ble_eq_true rfl) (fun p e R s m args below meth cd ls hC hG hS hl => tq_Md_invalidate_0 hC hw hG hS (lx_sub hl [0, 1, 2] rfl) (Nat.zero_le _) (Nat.zero_le _))

theorem dq_Md_bytes_0 : decode prog_14_method_64_code 0 = .ok (.iconst 0, 1) := by decide +kernel
theorem dq_Md_bytes_1 : decode prog_14_method_64_code 1 = .ok (.istore_n 1, 1) := by decide +kernel
theorem dq_Md_bytes_2 : decode prog_14_method_64_code 2 = .ok (.iconst 0, 1) := by decide +kernel
theorem dq_Md_bytes_3 : decode prog_14_method_64_code 3 = .ok (.istore_n 2, 1) := by decide +kernel
theorem dq_Md_bytes_4 : decode prog_14_method_64_code 4 = .ok (.iload_n 2, 1) := by decide +kernel
theorem dq_Md_bytes_5 : decode prog_14_method_64_code 5 = .ok (.bipush 20, 2) := by decide +kernel
theorem dq_Md_bytes_7 : decode prog_14_method_64_code 7 = .ok (.if_icmp .ge 31, 3) := by decide +kernel
theorem dq_Md_bytes_10 : decode prog_14_method_64_code 10 = .ok (.aload_n 0, 1) := by decide +kernel
theorem dq_Md_bytes_11 : decode prog_14_method_64_code 11 = .ok (.getfield 120, 3) := by decide +kernel
theorem dq_Md_bytes_14 : decode prog_14_method_64_code 14 = .ok (.iload_n 2, 1) := by decide +kernel
theorem dq_Md_bytes_15 : decode prog_14_method_64_code 15 = .ok (.baload, 1) := by decide +kernel
theorem dq_Md_bytes_16 : decode prog_14_method_64_code 16 = .ok (.ifCond .eq 14, 3) := by decide +kernel
theorem dq_Md_bytes_19 : decode prog_14_method_64_code 19 = .ok (.iload_n 1, 1) := by decide +kernel
theorem dq_Md_bytes_20 : decode prog_14_method_64_code 20 = .ok (.aload_n 0, 1) := by decide +kernel
theorem dq_Md_bytes_21 : decode prog_14_method_64_code 21 = .ok (.getfield 138, 3) := by decide +kernel
theorem dq_Md_bytes_24 : decode prog_14_method_64_code 24 = .ok (.iload_n 2, 1) := by decide +kernel
theorem dq_Md_bytes_25 : decode prog_14_method_64_code 25 = .ok (.iaload, 1) := by decide +kernel
theorem dq_Md_bytes_26 : decode prog_14_method_64_code 26 = .ok (.iadd, 1) := by decide +kernel
theorem dq_Md_bytes_27 : decode prog_14_method_64_code 27 = .ok (.goto 4, 3) := by decide +kernel
theorem dq_Md_bytes_30 : decode prog_14_method_64_code 30 = .ok (.iload_n 1, 1) := by decide +kernel
theorem dq_Md_bytes_31 : decode prog_14_method_64_code 31 = .ok (.istore_n 1, 1) := by decide +kernel
theorem dq_Md_bytes_32 : decode prog_14_method_64_code 32 = .ok (.iinc 2 1, 3) := by decide +kernel
theorem dq_Md_bytes_35 : decode prog_14_method_64_code 35 = .ok (.goto (-31), 3) := by decide +kernel
theorem dq_Md_bytes_38 : decode prog_14_method_64_code 38 = .ok (.iload_n 1, 1) := by decide +kernel
theorem dq_Md_bytes_39 : decode prog_14_method_64_code 39 = .ok (.ireturn, 1) := by decide +kernel
set_option maxRecDepth 100000 in
def pq_Md_bytes_31 (E : wo_E) (mc ms : Nat) (Post : Int32 → wo_W → Prop) (k4 : wo_W → Nat → Nat → Nat → Int32 → Int32 → Prop) (G : wo_W) (c s : Nat) (x0 : Nat) (x2 : Int32) (y0 : Int32) : Prop := k4 G c s x0 y0 (x2 + (1 : Int32))
set_option maxRecDepth 100000 in
def pq_Md_bytes_4 (E : wo_E) (mc ms : Nat) (Post : Int32 → wo_W → Prop) : Nat → wo_W → Nat → Nat → Nat → Int32 → Int32 → Prop
  | 0 => fun _ _ _ _ _ _ => False
  | n + 1 => fun G c s x0 x1 x2 => (((20 : Int32) ≤ x2 → Post x1 G) ∧
  (¬ (20 : Int32) ≤ x2 → wo_ty G x0 = 15 ∧ ∀ r2 : Option Nat, r2 = wo_gr G 936 x0 → ∃ a4 : Nat, r2 = some a4 ∧ wo_ty G a4 = 72 ∧ vp_in x2 (wo_len G a4) ∧ (((wo_ei G a4 x2.toNatClampNeg) = (0 : Int32) → pq_Md_bytes_31 E mc ms Post (pq_Md_bytes_4 E mc ms Post n) G c s x0 x2 x1) ∧
    (¬ (wo_ei G a4 x2.toNatClampNeg) = (0 : Int32) → ∀ r7 : Option Nat, r7 = wo_gr G 942 x0 → ∃ a9 : Nat, r7 = some a9 ∧ wo_ty G a9 = 66 ∧ vp_in x2 (wo_len G a9) ∧ pq_Md_bytes_31 E mc ms Post (pq_Md_bytes_4 E mc ms Post n) G c s x0 x2 (x1 + (wo_ei G a9 x2.toNatClampNeg))))))
set_option maxRecDepth 100000 in
def pq_Md_bytes_0 (E : wo_E) (mc ms : Nat) (Post : Int32 → wo_W → Prop) (G : wo_W) (c s : Nat) (x0 : Nat) : Prop := ∃ n1 : Nat, pq_Md_bytes_4 E mc ms Post n1 G c s x0 (0 : Int32) (0 : Int32)
def pq_Md_bytes (E : wo_E) (mc ms : Nat) (Post : Int32 → wo_W → Prop) (G : wo_W) (x0 : Nat) : Prop := pq_Md_bytes_0 E mc ms Post G 0 0 x0
set_option maxRecDepth 100000 in
set_option maxHeartbeats 4000000 in
theorem tq_Md_bytes_31 {p : Program} {l : Launch} {e : Env} {R : Room} {s₀ : State} {m : MethodId} {args : Array Value} {below : List Frame} {meth : Method} {cd : Code} {E : wo_E} {mc ms : Nat} {Post : Int32 → wo_W → Prop} {k4 : wo_W → Nat → Nat → Nat → Int32 → Int32 → Prop} (hC : wo_Cx E "EdgeCacheModel" prog_14_method_64_code 3 0 0 ((Option.some Jvm.ClassFile.FieldType.int)) "bytes" mc ms p R s₀ m args meth cd) (hk4 : ∀ {G : wo_W} {c s : Nat} {x0 : Nat} {x1 : Int32} {x2 : Int32}, k4 G c s x0 x1 x2 → ∀ {H : Heap} {locs : List Loc} {ls : Array Slot}, wo_Se E G H → va_S (en_A E) s₀.heap H locs → lx_has ls 3 [(0, 1, .ref x0), (1, 1, .int x1), (2, 1, .int x2)] → c ≤ mc → s ≤ ms → W p l e R s₀ m args below meth cd H locs c s (MQ below (va_Qi Post (wo_B E) (en_A E)) args s₀ mc ms (en_A E)) (F0 m 4 ls [])) : ∀ {G : wo_W} {c s : Nat} {x0 : Nat} {x2 : Int32} {y0 : Int32}, pq_Md_bytes_31 E mc ms Post k4 G c s x0 x2 y0 → ∀ {H : Heap} {locs : List Loc} {ls : Array Slot}, wo_Se E G H → va_S (en_A E) s₀.heap H locs → lx_has ls 3 [(0, 1, .ref x0), (2, 1, .int x2)] → c ≤ mc → s ≤ ms → W p l e R s₀ m args below meth cd H locs c s (MQ below (va_Qi Post (wo_B E) (en_A E)) args s₀ mc ms (en_A E)) (F0 m 31 ls [.int y0]) := by
  intro G c s x0 x2 y0 hw H locs ls hG hS hl hcc hss
  dsimp only [pq_Md_bytes_31] at hw
  have hx := hC.1
  have hb := hC.2.1
  refine lx_istore_n (lv' := [(1, 1, .int y0), (0, 1, .ref x0), (2, 1, .int x2)]) hx hb dq_Md_bytes_31 rfl hl (by decide) rfl (fun ls hl' => ?_)
  clear hl
  have hl := hl'
  clear hl'
  refine lx_iinc (k := 2) (v := (x2 + (1 : Int32))) (lv' := [(2, 1, .int (x2 + (1 : Int32))), (1, 1, .int y0), (0, 1, .ref x0)]) hx hb dq_Md_bytes_32 hl rfl rfl (by decide) rfl (fun ls hl' => ?_)
  clear hl
  have hl := hl'
  clear hl'
  refine lv_goto (tgt := 4) hx hb dq_Md_bytes_35 rfl ?_
  exact hk4 hw hG hS (lx_sub hl [2, 1, 0] rfl) hcc hss
set_option maxRecDepth 100000 in
set_option maxHeartbeats 4000000 in
theorem tq_Md_bytes_4 {p : Program} {l : Launch} {e : Env} {R : Room} {s₀ : State} {m : MethodId} {args : Array Value} {below : List Frame} {meth : Method} {cd : Code} {E : wo_E} {mc ms : Nat} {Post : Int32 → wo_W → Prop} (hC : wo_Cx E "EdgeCacheModel" prog_14_method_64_code 3 0 0 ((Option.some Jvm.ClassFile.FieldType.int)) "bytes" mc ms p R s₀ m args meth cd) : ∀ n : Nat, ∀ {G : wo_W} {c s : Nat} {x0 : Nat} {x1 : Int32} {x2 : Int32}, pq_Md_bytes_4 E mc ms Post n G c s x0 x1 x2 → ∀ {H : Heap} {locs : List Loc} {ls : Array Slot}, wo_Se E G H → va_S (en_A E) s₀.heap H locs → lx_has ls 3 [(0, 1, .ref x0), (1, 1, .int x1), (2, 1, .int x2)] → c ≤ mc → s ≤ ms → W p l e R s₀ m args below meth cd H locs c s (MQ below (va_Qi Post (wo_B E) (en_A E)) args s₀ mc ms (en_A E)) (F0 m 4 ls []) := by
  intro n
  induction n with
  | zero => intro G c s x0 x1 x2 hw; exact hw.elim
  | succ n ih =>
    intro G c s x0 x1 x2 hw H locs ls hG hS hl hcc hss
    dsimp only [pq_Md_bytes_4] at hw
    have hx := hC.1
    have hb := hC.2.1
    refine lv_iload_n hx hb dq_Md_bytes_4 rfl (lx_at hl 2 rfl) ?_
    refine lv_bipush (v := (20 : Int32)) hx hb dq_Md_bytes_5 rfl ?_
    refine lv_icmp_ge (tgt := 38) hx hb dq_Md_bytes_7 rfl (fun h => ?_) (fun h => ?_)
    · replace hw := hw.1 h
      refine lv_iload_n hx hb dq_Md_bytes_38 rfl (lx_at hl 1 rfl) ?_
      exact wo_iret hC hG hS hcc hss hw dq_Md_bytes_39
    · replace hw := hw.2 h
      refine lv_aload_n hx hb dq_Md_bytes_10 rfl (lx_at hl 0 rfl) ?_
      obtain ⟨t1, hw⟩ := hw
      refine wo_getR hC fq_Md_120 rfl hG t1 dq_Md_bytes_11 (fun r2 e3 => ?_)
      replace hw := hw r2 e3
      refine lv_iload_n hx hb dq_Md_bytes_14 rfl (lx_at hl 2 rfl) ?_
      obtain ⟨a4, rfl, hw⟩ := hw
      obtain ⟨t5, hw⟩ := hw
      obtain ⟨h6, hw⟩ := hw
      refine wo_zald (j := 8) hC rfl hG t5 h6 dq_Md_bytes_15 ?_
      refine lv_if_eq (tgt := 30) hx hb dq_Md_bytes_16 rfl (fun h => ?_) (fun h => ?_)
      · replace hw := hw.1 h
        refine lv_iload_n hx hb dq_Md_bytes_30 rfl (lx_at hl 1 rfl) ?_
        exact tq_Md_bytes_31 hC ih hw hG hS (lx_sub hl [0, 2] rfl) hcc hss
      · replace hw := hw.2 h
        refine lv_iload_n hx hb dq_Md_bytes_19 rfl (lx_at hl 1 rfl) ?_
        refine lv_aload_n hx hb dq_Md_bytes_20 rfl (lx_at hl 0 rfl) ?_
        refine wo_getR hC fq_Md_138 rfl hG t1 dq_Md_bytes_21 (fun r7 e8 => ?_)
        replace hw := hw r7 e8
        refine lv_iload_n hx hb dq_Md_bytes_24 rfl (lx_at hl 2 rfl) ?_
        obtain ⟨a9, rfl, hw⟩ := hw
        obtain ⟨t10, hw⟩ := hw
        obtain ⟨h11, hw⟩ := hw
        refine wo_iald (j := 2) hC rfl hG t10 h11 dq_Md_bytes_25 ?_
        refine lv_iadd hx hb dq_Md_bytes_26 ?_
        refine lv_goto (tgt := 31) hx hb dq_Md_bytes_27 rfl ?_
        exact tq_Md_bytes_31 hC ih hw hG hS (lx_sub hl [0, 2] rfl) hcc hss
set_option maxRecDepth 100000 in
set_option maxHeartbeats 4000000 in
theorem tq_Md_bytes_0 {p : Program} {l : Launch} {e : Env} {R : Room} {s₀ : State} {m : MethodId} {args : Array Value} {below : List Frame} {meth : Method} {cd : Code} {E : wo_E} {mc ms : Nat} {Post : Int32 → wo_W → Prop} (hC : wo_Cx E "EdgeCacheModel" prog_14_method_64_code 3 0 0 ((Option.some Jvm.ClassFile.FieldType.int)) "bytes" mc ms p R s₀ m args meth cd) : ∀ {G : wo_W} {c s : Nat} {x0 : Nat}, pq_Md_bytes_0 E mc ms Post G c s x0 → ∀ {H : Heap} {locs : List Loc} {ls : Array Slot}, wo_Se E G H → va_S (en_A E) s₀.heap H locs → lx_has ls 3 [(0, 1, .ref x0)] → c ≤ mc → s ≤ ms → W p l e R s₀ m args below meth cd H locs c s (MQ below (va_Qi Post (wo_B E) (en_A E)) args s₀ mc ms (en_A E)) (F0 m 0 ls []) := by
  intro G c s x0 hw H locs ls hG hS hl hcc hss
  dsimp only [pq_Md_bytes_0] at hw
  have hx := hC.1
  have hb := hC.2.1
  refine lv_iconst (v := (0 : Int32)) hx hb dq_Md_bytes_0 rfl ?_
  refine lx_istore_n (lv' := [(1, 1, .int (0 : Int32)), (0, 1, .ref x0)]) hx hb dq_Md_bytes_1 rfl hl (by decide) rfl (fun ls hl' => ?_)
  clear hl
  have hl := hl'
  clear hl'
  refine lv_iconst (v := (0 : Int32)) hx hb dq_Md_bytes_2 rfl ?_
  refine lx_istore_n (lv' := [(2, 1, .int (0 : Int32)), (1, 1, .int (0 : Int32)), (0, 1, .ref x0)]) hx hb dq_Md_bytes_3 rfl hl (by decide) rfl (fun ls hl' => ?_)
  clear hl
  have hl := hl'
  clear hl'
  obtain ⟨n1, hw⟩ := hw
  exact tq_Md_bytes_4 hC n1 hw hG hS (lx_sub hl [2, 1, 0] rfl) hcc hss
set_option maxHeartbeats 4000000 in
theorem mq_Md_bytes {l : Launch} {E : wo_E} {mc ms : Nat} {Post : Int32 → wo_W → Prop} {G : wo_W} {x0 : Nat} (hw : pq_Md_bytes E mc ms Post G x0) : Met l yq_Md_bytes (Cond.code yq_Md_bytes prog_14_method_64_code 3 ((Option.some Jvm.ClassFile.FieldType.int)) :: vw_WG) { frames := 0, cells := mc, slots := ms, locals := 0 } (va_Pc [.ref x0] (wo_Ok E G)) (va_Qi Post (wo_B E) (en_A E)) mc ms (en_A E) := by
  unfold pq_Md_bytes at hw
  exact wo_met [(1, .ref x0)] rfl (by decide) (fun q hq => by simp only [List.mem_cons, List.not_mem_nil, or_false] at hq; rcases hq with rfl <;> first | rfl | exact lx_cR _) (Nat.le_of_ble_eq_true rfl) (fun p e R s m args below meth cd ls hC hG hS hl => tq_Md_bytes_0 hC hw hG hS (lx_sub hl [0] rfl) (Nat.zero_le _) (Nat.zero_le _))
