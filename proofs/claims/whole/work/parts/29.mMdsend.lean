theorem dq_Md_send_0 : decode prog_14_method_51_code 0 = .ok (.iconst 0, 1) := by decide +kernel
theorem dq_Md_send_1 : decode prog_14_method_51_code 1 = .ok (.istore_n 1, 1) := by decide +kernel
theorem dq_Md_send_2 : decode prog_14_method_51_code 2 = .ok (.iload_n 1, 1) := by decide +kernel
theorem dq_Md_send_3 : decode prog_14_method_51_code 3 = .ok (.iconst 2, 1) := by decide +kernel
theorem dq_Md_send_4 : decode prog_14_method_51_code 4 = .ok (.if_icmp .ge 96, 3) := by decide +kernel
theorem dq_Md_send_7 : decode prog_14_method_51_code 7 = .ok (.iconst (-1), 1) := by decide +kernel
theorem dq_Md_send_8 : decode prog_14_method_51_code 8 = .ok (.istore_n 2, 1) := by decide +kernel
theorem dq_Md_send_9 : decode prog_14_method_51_code 9 = .ok (.iconst 0, 1) := by decide +kernel
theorem dq_Md_send_10 : decode prog_14_method_51_code 10 = .ok (.istore_n 3, 1) := by decide +kernel
theorem dq_Md_send_11 : decode prog_14_method_51_code 11 = .ok (.iload_n 3, 1) := by decide +kernel
theorem dq_Md_send_12 : decode prog_14_method_51_code 12 = .ok (.bipush 8, 2) := by decide +kernel
theorem dq_Md_send_14 : decode prog_14_method_51_code 14 = .ok (.if_icmp .ge 44, 3) := by decide +kernel
theorem dq_Md_send_17 : decode prog_14_method_51_code 17 = .ok (.aload_n 0, 1) := by decide +kernel
theorem dq_Md_send_18 : decode prog_14_method_51_code 18 = .ok (.getfield 69, 3) := by decide +kernel
theorem dq_Md_send_21 : decode prog_14_method_51_code 21 = .ok (.iload_n 3, 1) := by decide +kernel
theorem dq_Md_send_22 : decode prog_14_method_51_code 22 = .ok (.iaload, 1) := by decide +kernel
theorem dq_Md_send_23 : decode prog_14_method_51_code 23 = .ok (.iconst 1, 1) := by decide +kernel
theorem dq_Md_send_24 : decode prog_14_method_51_code 24 = .ok (.if_icmp .ne 26, 3) := by decide +kernel
theorem dq_Md_send_27 : decode prog_14_method_51_code 27 = .ok (.iload_n 2, 1) := by decide +kernel
theorem dq_Md_send_28 : decode prog_14_method_51_code 28 = .ok (.ifCond .lt 18, 3) := by decide +kernel
theorem dq_Md_send_31 : decode prog_14_method_51_code 31 = .ok (.aload_n 0, 1) := by decide +kernel
theorem dq_Md_send_32 : decode prog_14_method_51_code 32 = .ok (.getfield 78, 3) := by decide +kernel
theorem dq_Md_send_35 : decode prog_14_method_51_code 35 = .ok (.iload_n 3, 1) := by decide +kernel
theorem dq_Md_send_36 : decode prog_14_method_51_code 36 = .ok (.iaload, 1) := by decide +kernel
theorem dq_Md_send_37 : decode prog_14_method_51_code 37 = .ok (.aload_n 0, 1) := by decide +kernel
theorem dq_Md_send_38 : decode prog_14_method_51_code 38 = .ok (.getfield 78, 3) := by decide +kernel
theorem dq_Md_send_41 : decode prog_14_method_51_code 41 = .ok (.iload_n 2, 1) := by decide +kernel
theorem dq_Md_send_42 : decode prog_14_method_51_code 42 = .ok (.iaload, 1) := by decide +kernel
theorem dq_Md_send_43 : decode prog_14_method_51_code 43 = .ok (.if_icmp .ge 7, 3) := by decide +kernel
theorem dq_Md_send_46 : decode prog_14_method_51_code 46 = .ok (.iload_n 3, 1) := by decide +kernel
theorem dq_Md_send_47 : decode prog_14_method_51_code 47 = .ok (.goto 4, 3) := by decide +kernel
theorem dq_Md_send_50 : decode prog_14_method_51_code 50 = .ok (.iload_n 2, 1) := by decide +kernel
theorem dq_Md_send_51 : decode prog_14_method_51_code 51 = .ok (.istore_n 2, 1) := by decide +kernel
theorem dq_Md_send_52 : decode prog_14_method_51_code 52 = .ok (.iinc 3 1, 3) := by decide +kernel
theorem dq_Md_send_55 : decode prog_14_method_51_code 55 = .ok (.goto (-44), 3) := by decide +kernel
theorem dq_Md_send_58 : decode prog_14_method_51_code 58 = .ok (.iload_n 2, 1) := by decide +kernel
theorem dq_Md_send_59 : decode prog_14_method_51_code 59 = .ok (.ifCond .lt 35, 3) := by decide +kernel
theorem dq_Md_send_62 : decode prog_14_method_51_code 62 = .ok (.aload_n 0, 1) := by decide +kernel
theorem dq_Md_send_63 : decode prog_14_method_51_code 63 = .ok (.iload_n 1, 1) := by decide +kernel
theorem dq_Md_send_64 : decode prog_14_method_51_code 64 = .ok (.invokevirtual 373, 3) := by decide +kernel
theorem dq_Md_send_67 : decode prog_14_method_51_code 67 = .ok (.ifCond .ge 27, 3) := by decide +kernel
theorem dq_Md_send_70 : decode prog_14_method_51_code 70 = .ok (.aload_n 0, 1) := by decide +kernel
theorem dq_Md_send_71 : decode prog_14_method_51_code 71 = .ok (.getfield 69, 3) := by decide +kernel
theorem dq_Md_send_74 : decode prog_14_method_51_code 74 = .ok (.iload_n 2, 1) := by decide +kernel
theorem dq_Md_send_75 : decode prog_14_method_51_code 75 = .ok (.iconst 2, 1) := by decide +kernel
theorem dq_Md_send_76 : decode prog_14_method_51_code 76 = .ok (.iastore, 1) := by decide +kernel
theorem dq_Md_send_77 : decode prog_14_method_51_code 77 = .ok (.aload_n 0, 1) := by decide +kernel
theorem dq_Md_send_78 : decode prog_14_method_51_code 78 = .ok (.getfield 81, 3) := by decide +kernel
theorem dq_Md_send_81 : decode prog_14_method_51_code 81 = .ok (.iload_n 2, 1) := by decide +kernel
theorem dq_Md_send_82 : decode prog_14_method_51_code 82 = .ok (.iload_n 1, 1) := by decide +kernel
theorem dq_Md_send_83 : decode prog_14_method_51_code 83 = .ok (.iastore, 1) := by decide +kernel
theorem dq_Md_send_84 : decode prog_14_method_51_code 84 = .ok (.aload_n 0, 1) := by decide +kernel
theorem dq_Md_send_85 : decode prog_14_method_51_code 85 = .ok (.getfield 84, 3) := by decide +kernel
theorem dq_Md_send_88 : decode prog_14_method_51_code 88 = .ok (.iload_n 2, 1) := by decide +kernel
theorem dq_Md_send_89 : decode prog_14_method_51_code 89 = .ok (.aload_n 0, 1) := by decide +kernel
theorem dq_Md_send_90 : decode prog_14_method_51_code 90 = .ok (.getfield 349, 3) := by decide +kernel
theorem dq_Md_send_93 : decode prog_14_method_51_code 93 = .ok (.iastore, 1) := by decide +kernel
theorem dq_Md_send_94 : decode prog_14_method_51_code 94 = .ok (.iinc 1 1, 3) := by decide +kernel
theorem dq_Md_send_97 : decode prog_14_method_51_code 97 = .ok (.goto (-95), 3) := by decide +kernel
theorem dq_Md_send_100 : decode prog_14_method_51_code 100 = .ok (.return_, 1) := by decide +kernel
set_option maxRecDepth 100000 in
def pq_Md_send_94 (E : wo_E) (mc ms : Nat) (Post : wo_W → Prop) (k2 : wo_W → Nat → Nat → Nat → Int32 → Prop) (G : wo_W) (c s : Nat) (x0 : Nat) (x1 : Int32) : Prop := k2 G c s x0 (x1 + (1 : Int32))
set_option maxRecDepth 100000 in
def pq_Md_send_51 (E : wo_E) (mc ms : Nat) (Post : wo_W → Prop) (k2 : wo_W → Nat → Nat → Nat → Int32 → Prop) (k11 : wo_W → Nat → Nat → Nat → Int32 → Int32 → Int32 → Prop) (G : wo_W) (c s : Nat) (x0 : Nat) (x1 : Int32) (x3 : Int32) (y0 : Int32) : Prop := k11 G c s x0 x1 y0 (x3 + (1 : Int32))
set_option maxRecDepth 100000 in
def pq_Md_send_50 (E : wo_E) (mc ms : Nat) (Post : wo_W → Prop) (k2 : wo_W → Nat → Nat → Nat → Int32 → Prop) (k11 : wo_W → Nat → Nat → Nat → Int32 → Int32 → Int32 → Prop) (G : wo_W) (c s : Nat) (x0 : Nat) (x1 : Int32) (x2 : Int32) (x3 : Int32) : Prop := pq_Md_send_51 E mc ms Post k2 k11 G c s x0 x1 x3 x2
set_option maxRecDepth 100000 in
def pq_Md_send_46 (E : wo_E) (mc ms : Nat) (Post : wo_W → Prop) (k2 : wo_W → Nat → Nat → Nat → Int32 → Prop) (k11 : wo_W → Nat → Nat → Nat → Int32 → Int32 → Int32 → Prop) (G : wo_W) (c s : Nat) (x0 : Nat) (x1 : Int32) (x3 : Int32) : Prop := pq_Md_send_51 E mc ms Post k2 k11 G c s x0 x1 x3 x3
set_option maxRecDepth 100000 in
def pq_Md_send_11 (E : wo_E) (mc ms : Nat) (Post : wo_W → Prop) (k2 : wo_W → Nat → Nat → Nat → Int32 → Prop) : Nat → wo_W → Nat → Nat → Nat → Int32 → Int32 → Int32 → Prop
  | 0 => fun _ _ _ _ _ _ _ => False
  | n + 1 => fun G c s x0 x1 x2 x3 => (((8 : Int32) ≤ x3 → ((x2 < (0 : Int32) → pq_Md_send_94 E mc ms Post k2 G c s x0 x1) ∧
    (¬ x2 < (0 : Int32) → wo_ty G x0 = 15 ∧ ∃ mc2 ms3 : Nat, (c + mc2) ≤ mc ∧ (s + ms3) ≤ ms ∧ pq_Md_jobOn E mc2 ms3 (fun v5 G4 => 
      (((0 : Int32) ≤ v5 → pq_Md_send_94 E mc ms Post k2 G4 (c + mc2) (s + ms3) x0 x1) ∧
        (¬ (0 : Int32) ≤ v5 → wo_ty G4 x0 = 15 ∧ ∀ r7 : Option Nat, r7 = wo_gr G4 918 x0 → ∃ a9 : Nat, r7 = some a9 ∧ wo_ty G4 a9 = 66 ∧ vp_in x2 (wo_len G4 a9) ∧ en_bs E ≤ a9 ∧ ∀ G13 : wo_W, G13 = wo_sei G4 a9 x2.toNatClampNeg (2 : Int32) → 
          ∀ r15 : Option Nat, r15 = wo_gr G13 922 x0 → ∃ a17 : Nat, r15 = some a17 ∧ wo_ty G13 a17 = 66 ∧ vp_in x2 (wo_len G13 a17) ∧ en_bs E ≤ a17 ∧ ∀ G21 : wo_W, G21 = wo_sei G13 a17 x2.toNatClampNeg x1 → 
          ∀ r23 : Option Nat, r23 = wo_gr G21 923 x0 → ∃ a25 : Nat, r23 = some a25 ∧ wo_ty G21 a25 = 66 ∧ vp_in x2 (wo_len G21 a25) ∧ en_bs E ≤ a25 ∧ ∀ G29 : wo_W, G29 = wo_sei G21 a25 x2.toNatClampNeg (wo_gi G21 956 x0) → 
          pq_Md_send_94 E mc ms Post k2 G29 (c + mc2) (s + ms3) x0 x1))) G x0 x1))) ∧
  (¬ (8 : Int32) ≤ x3 → wo_ty G x0 = 15 ∧ ∀ r32 : Option Nat, r32 = wo_gr G 918 x0 → ∃ a34 : Nat, r32 = some a34 ∧ wo_ty G a34 = 66 ∧ vp_in x3 (wo_len G a34) ∧ ((¬ (wo_ei G a34 x3.toNatClampNeg) = (1 : Int32) → pq_Md_send_50 E mc ms Post k2 (pq_Md_send_11 E mc ms Post k2 n) G c s x0 x1 x2 x3) ∧
    ((wo_ei G a34 x3.toNatClampNeg) = (1 : Int32) → ((x2 < (0 : Int32) → pq_Md_send_46 E mc ms Post k2 (pq_Md_send_11 E mc ms Post k2 n) G c s x0 x1 x3) ∧
      (¬ x2 < (0 : Int32) → ∀ r37 : Option Nat, r37 = wo_gr G 921 x0 → ∃ a39 : Nat, r37 = some a39 ∧ wo_ty G a39 = 66 ∧ vp_in x3 (wo_len G a39) ∧ ∀ r42 : Option Nat, r42 = wo_gr G 921 x0 → ∃ a44 : Nat, r42 = some a44 ∧ wo_ty G a44 = 66 ∧ vp_in x2 (wo_len G a44) ∧ (((wo_ei G a44 x2.toNatClampNeg) ≤ (wo_ei G a39 x3.toNatClampNeg) → pq_Md_send_50 E mc ms Post k2 (pq_Md_send_11 E mc ms Post k2 n) G c s x0 x1 x2 x3) ∧
        (¬ (wo_ei G a44 x2.toNatClampNeg) ≤ (wo_ei G a39 x3.toNatClampNeg) → pq_Md_send_46 E mc ms Post k2 (pq_Md_send_11 E mc ms Post k2 n) G c s x0 x1 x3))))))))
set_option maxRecDepth 100000 in
def pq_Md_send_2 (E : wo_E) (mc ms : Nat) (Post : wo_W → Prop) : Nat → wo_W → Nat → Nat → Nat → Int32 → Prop
  | 0 => fun _ _ _ _ _ => False
  | n + 1 => fun G c s x0 x1 => (((2 : Int32) ≤ x1 → Post G) ∧
  (¬ (2 : Int32) ≤ x1 → ∃ n1 : Nat, pq_Md_send_11 E mc ms Post (pq_Md_send_2 E mc ms Post n) n1 G c s x0 x1 (-1 : Int32) (0 : Int32)))
set_option maxRecDepth 100000 in
def pq_Md_send_0 (E : wo_E) (mc ms : Nat) (Post : wo_W → Prop) (G : wo_W) (c s : Nat) (x0 : Nat) : Prop := ∃ n1 : Nat, pq_Md_send_2 E mc ms Post n1 G c s x0 (0 : Int32)
def pq_Md_send (E : wo_E) (mc ms : Nat) (Post : wo_W → Prop) (G : wo_W) (x0 : Nat) : Prop := pq_Md_send_0 E mc ms Post G 0 0 x0
set_option maxRecDepth 100000 in
set_option maxHeartbeats 4000000 in
theorem tq_Md_send_94 {p : Program} {l : Launch} {e : Env} {R : Room} {s₀ : State} {m : MethodId} {args : Array Value} {below : List Frame} {meth : Method} {cd : Code} {E : wo_E} {mc ms : Nat} {Post : wo_W → Prop} {k2 : wo_W → Nat → Nat → Nat → Int32 → Prop} (hC : wo_Cx E "EdgeCacheModel" prog_14_method_51_code 4 1 22 ((Option.none : Option Jvm.ClassFile.FieldType)) "send" mc ms p R s₀ m args meth cd) (hk2 : ∀ {G : wo_W} {c s : Nat} {x0 : Nat} {x1 : Int32}, k2 G c s x0 x1 → ∀ {H : Heap} {locs : List Loc} {ls : Array Slot}, wo_Se E G H → va_S (en_A E) s₀.heap H locs → lx_has ls 4 [(0, 1, .ref x0), (1, 1, .int x1)] → c ≤ mc → s ≤ ms → W p l e R s₀ m args below meth cd H locs c s (MQ below (va_Qv Post (wo_B E) (en_A E)) args s₀ mc ms (en_A E)) (F0 m 2 ls [])) : ∀ {G : wo_W} {c s : Nat} {x0 : Nat} {x1 : Int32}, pq_Md_send_94 E mc ms Post k2 G c s x0 x1 → ∀ {H : Heap} {locs : List Loc} {ls : Array Slot}, wo_Se E G H → va_S (en_A E) s₀.heap H locs → lx_has ls 4 [(0, 1, .ref x0), (1, 1, .int x1)] → c ≤ mc → s ≤ ms → W p l e R s₀ m args below meth cd H locs c s (MQ below (va_Qv Post (wo_B E) (en_A E)) args s₀ mc ms (en_A E)) (F0 m 94 ls []) := by
  intro G c s x0 x1 hw H locs ls hG hS hl hcc hss
  dsimp only [pq_Md_send_94] at hw
  have hx := hC.1
  have hb := hC.2.1
  refine lx_iinc (k := 1) (v := (x1 + (1 : Int32))) (lv' := [(1, 1, .int (x1 + (1 : Int32))), (0, 1, .ref x0)]) hx hb dq_Md_send_94 hl rfl rfl (by decide) rfl (fun ls hl' => ?_)
  clear hl
  have hl := hl'
  clear hl'
  refine lv_goto (tgt := 2) hx hb dq_Md_send_97 rfl ?_
  exact hk2 hw hG hS (lx_sub hl [1, 0] rfl) hcc hss
set_option maxRecDepth 100000 in
set_option maxHeartbeats 4000000 in
theorem tq_Md_send_51 {p : Program} {l : Launch} {e : Env} {R : Room} {s₀ : State} {m : MethodId} {args : Array Value} {below : List Frame} {meth : Method} {cd : Code} {E : wo_E} {mc ms : Nat} {Post : wo_W → Prop} {k2 : wo_W → Nat → Nat → Nat → Int32 → Prop} {k11 : wo_W → Nat → Nat → Nat → Int32 → Int32 → Int32 → Prop} (hC : wo_Cx E "EdgeCacheModel" prog_14_method_51_code 4 1 22 ((Option.none : Option Jvm.ClassFile.FieldType)) "send" mc ms p R s₀ m args meth cd) (hk2 : ∀ {G : wo_W} {c s : Nat} {x0 : Nat} {x1 : Int32}, k2 G c s x0 x1 → ∀ {H : Heap} {locs : List Loc} {ls : Array Slot}, wo_Se E G H → va_S (en_A E) s₀.heap H locs → lx_has ls 4 [(0, 1, .ref x0), (1, 1, .int x1)] → c ≤ mc → s ≤ ms → W p l e R s₀ m args below meth cd H locs c s (MQ below (va_Qv Post (wo_B E) (en_A E)) args s₀ mc ms (en_A E)) (F0 m 2 ls [])) (hk11 : ∀ {G : wo_W} {c s : Nat} {x0 : Nat} {x1 : Int32} {x2 : Int32} {x3 : Int32}, k11 G c s x0 x1 x2 x3 → ∀ {H : Heap} {locs : List Loc} {ls : Array Slot}, wo_Se E G H → va_S (en_A E) s₀.heap H locs → lx_has ls 4 [(0, 1, .ref x0), (1, 1, .int x1), (2, 1, .int x2), (3, 1, .int x3)] → c ≤ mc → s ≤ ms → W p l e R s₀ m args below meth cd H locs c s (MQ below (va_Qv Post (wo_B E) (en_A E)) args s₀ mc ms (en_A E)) (F0 m 11 ls [])) : ∀ {G : wo_W} {c s : Nat} {x0 : Nat} {x1 : Int32} {x3 : Int32} {y0 : Int32}, pq_Md_send_51 E mc ms Post k2 k11 G c s x0 x1 x3 y0 → ∀ {H : Heap} {locs : List Loc} {ls : Array Slot}, wo_Se E G H → va_S (en_A E) s₀.heap H locs → lx_has ls 4 [(0, 1, .ref x0), (1, 1, .int x1), (3, 1, .int x3)] → c ≤ mc → s ≤ ms → W p l e R s₀ m args below meth cd H locs c s (MQ below (va_Qv Post (wo_B E) (en_A E)) args s₀ mc ms (en_A E)) (F0 m 51 ls [.int y0]) := by
  intro G c s x0 x1 x3 y0 hw H locs ls hG hS hl hcc hss
  dsimp only [pq_Md_send_51] at hw
  have hx := hC.1
  have hb := hC.2.1
  refine lx_istore_n (lv' := [(2, 1, .int y0), (0, 1, .ref x0), (1, 1, .int x1), (3, 1, .int x3)]) hx hb dq_Md_send_51 rfl hl (by decide) rfl (fun ls hl' => ?_)
  clear hl
  have hl := hl'
  clear hl'
  refine lx_iinc (k := 3) (v := (x3 + (1 : Int32))) (lv' := [(3, 1, .int (x3 + (1 : Int32))), (2, 1, .int y0), (0, 1, .ref x0), (1, 1, .int x1)]) hx hb dq_Md_send_52 hl rfl rfl (by decide) rfl (fun ls hl' => ?_)
  clear hl
  have hl := hl'
  clear hl'
  refine lv_goto (tgt := 11) hx hb dq_Md_send_55 rfl ?_
  exact hk11 hw hG hS (lx_sub hl [2, 3, 1, 0] rfl) hcc hss
set_option maxRecDepth 100000 in
set_option maxHeartbeats 4000000 in
theorem tq_Md_send_50 {p : Program} {l : Launch} {e : Env} {R : Room} {s₀ : State} {m : MethodId} {args : Array Value} {below : List Frame} {meth : Method} {cd : Code} {E : wo_E} {mc ms : Nat} {Post : wo_W → Prop} {k2 : wo_W → Nat → Nat → Nat → Int32 → Prop} {k11 : wo_W → Nat → Nat → Nat → Int32 → Int32 → Int32 → Prop} (hC : wo_Cx E "EdgeCacheModel" prog_14_method_51_code 4 1 22 ((Option.none : Option Jvm.ClassFile.FieldType)) "send" mc ms p R s₀ m args meth cd) (hk2 : ∀ {G : wo_W} {c s : Nat} {x0 : Nat} {x1 : Int32}, k2 G c s x0 x1 → ∀ {H : Heap} {locs : List Loc} {ls : Array Slot}, wo_Se E G H → va_S (en_A E) s₀.heap H locs → lx_has ls 4 [(0, 1, .ref x0), (1, 1, .int x1)] → c ≤ mc → s ≤ ms → W p l e R s₀ m args below meth cd H locs c s (MQ below (va_Qv Post (wo_B E) (en_A E)) args s₀ mc ms (en_A E)) (F0 m 2 ls [])) (hk11 : ∀ {G : wo_W} {c s : Nat} {x0 : Nat} {x1 : Int32} {x2 : Int32} {x3 : Int32}, k11 G c s x0 x1 x2 x3 → ∀ {H : Heap} {locs : List Loc} {ls : Array Slot}, wo_Se E G H → va_S (en_A E) s₀.heap H locs → lx_has ls 4 [(0, 1, .ref x0), (1, 1, .int x1), (2, 1, .int x2), (3, 1, .int x3)] → c ≤ mc → s ≤ ms → W p l e R s₀ m args below meth cd H locs c s (MQ below (va_Qv Post (wo_B E) (en_A E)) args s₀ mc ms (en_A E)) (F0 m 11 ls [])) : ∀ {G : wo_W} {c s : Nat} {x0 : Nat} {x1 : Int32} {x2 : Int32} {x3 : Int32}, pq_Md_send_50 E mc ms Post k2 k11 G c s x0 x1 x2 x3 → ∀ {H : Heap} {locs : List Loc} {ls : Array Slot}, wo_Se E G H → va_S (en_A E) s₀.heap H locs → lx_has ls 4 [(0, 1, .ref x0), (1, 1, .int x1), (2, 1, .int x2), (3, 1, .int x3)] → c ≤ mc → s ≤ ms → W p l e R s₀ m args below meth cd H locs c s (MQ below (va_Qv Post (wo_B E) (en_A E)) args s₀ mc ms (en_A E)) (F0 m 50 ls []) := by
  intro G c s x0 x1 x2 x3 hw H locs ls hG hS hl hcc hss
  dsimp only [pq_Md_send_50] at hw
  have hx := hC.1
  have hb := hC.2.1
  refine lv_iload_n hx hb dq_Md_send_50 rfl (lx_at hl 2 rfl) ?_
  exact tq_Md_send_51 hC hk2 hk11 hw hG hS (lx_sub hl [0, 1, 3] rfl) hcc hss
set_option maxRecDepth 100000 in
set_option maxHeartbeats 4000000 in
theorem tq_Md_send_46 {p : Program} {l : Launch} {e : Env} {R : Room} {s₀ : State} {m : MethodId} {args : Array Value} {below : List Frame} {meth : Method} {cd : Code} {E : wo_E} {mc ms : Nat} {Post : wo_W → Prop} {k2 : wo_W → Nat → Nat → Nat → Int32 → Prop} {k11 : wo_W → Nat → Nat → Nat → Int32 → Int32 → Int32 → Prop} (hC : wo_Cx E "EdgeCacheModel" prog_14_method_51_code 4 1 22 ((Option.none : Option Jvm.ClassFile.FieldType)) "send" mc ms p R s₀ m args meth cd) (hk2 : ∀ {G : wo_W} {c s : Nat} {x0 : Nat} {x1 : Int32}, k2 G c s x0 x1 → ∀ {H : Heap} {locs : List Loc} {ls : Array Slot}, wo_Se E G H → va_S (en_A E) s₀.heap H locs → lx_has ls 4 [(0, 1, .ref x0), (1, 1, .int x1)] → c ≤ mc → s ≤ ms → W p l e R s₀ m args below meth cd H locs c s (MQ below (va_Qv Post (wo_B E) (en_A E)) args s₀ mc ms (en_A E)) (F0 m 2 ls [])) (hk11 : ∀ {G : wo_W} {c s : Nat} {x0 : Nat} {x1 : Int32} {x2 : Int32} {x3 : Int32}, k11 G c s x0 x1 x2 x3 → ∀ {H : Heap} {locs : List Loc} {ls : Array Slot}, wo_Se E G H → va_S (en_A E) s₀.heap H locs → lx_has ls 4 [(0, 1, .ref x0), (1, 1, .int x1), (2, 1, .int x2), (3, 1, .int x3)] → c ≤ mc → s ≤ ms → W p l e R s₀ m args below meth cd H locs c s (MQ below (va_Qv Post (wo_B E) (en_A E)) args s₀ mc ms (en_A E)) (F0 m 11 ls [])) : ∀ {G : wo_W} {c s : Nat} {x0 : Nat} {x1 : Int32} {x3 : Int32}, pq_Md_send_46 E mc ms Post k2 k11 G c s x0 x1 x3 → ∀ {H : Heap} {locs : List Loc} {ls : Array Slot}, wo_Se E G H → va_S (en_A E) s₀.heap H locs → lx_has ls 4 [(0, 1, .ref x0), (1, 1, .int x1), (3, 1, .int x3)] → c ≤ mc → s ≤ ms → W p l e R s₀ m args below meth cd H locs c s (MQ below (va_Qv Post (wo_B E) (en_A E)) args s₀ mc ms (en_A E)) (F0 m 46 ls []) := by
  intro G c s x0 x1 x3 hw H locs ls hG hS hl hcc hss
  dsimp only [pq_Md_send_46] at hw
  have hx := hC.1
  have hb := hC.2.1
  refine lv_iload_n hx hb dq_Md_send_46 rfl (lx_at hl 2 rfl) ?_
  refine lv_goto (tgt := 51) hx hb dq_Md_send_47 rfl ?_
  exact tq_Md_send_51 hC hk2 hk11 hw hG hS (lx_sub hl [0, 1, 2] rfl) hcc hss
set_option maxRecDepth 100000 in
set_option maxHeartbeats 4000000 in
theorem tq_Md_send_11 {p : Program} {l : Launch} {e : Env} {R : Room} {s₀ : State} {m : MethodId} {args : Array Value} {below : List Frame} {meth : Method} {cd : Code} {E : wo_E} {mc ms : Nat} {Post : wo_W → Prop} {k2 : wo_W → Nat → Nat → Nat → Int32 → Prop} (hC : wo_Cx E "EdgeCacheModel" prog_14_method_51_code 4 1 22 ((Option.none : Option Jvm.ClassFile.FieldType)) "send" mc ms p R s₀ m args meth cd) (hk2 : ∀ {G : wo_W} {c s : Nat} {x0 : Nat} {x1 : Int32}, k2 G c s x0 x1 → ∀ {H : Heap} {locs : List Loc} {ls : Array Slot}, wo_Se E G H → va_S (en_A E) s₀.heap H locs → lx_has ls 4 [(0, 1, .ref x0), (1, 1, .int x1)] → c ≤ mc → s ≤ ms → W p l e R s₀ m args below meth cd H locs c s (MQ below (va_Qv Post (wo_B E) (en_A E)) args s₀ mc ms (en_A E)) (F0 m 2 ls [])) : ∀ n : Nat, ∀ {G : wo_W} {c s : Nat} {x0 : Nat} {x1 : Int32} {x2 : Int32} {x3 : Int32}, pq_Md_send_11 E mc ms Post k2 n G c s x0 x1 x2 x3 → ∀ {H : Heap} {locs : List Loc} {ls : Array Slot}, wo_Se E G H → va_S (en_A E) s₀.heap H locs → lx_has ls 4 [(0, 1, .ref x0), (1, 1, .int x1), (2, 1, .int x2), (3, 1, .int x3)] → c ≤ mc → s ≤ ms → W p l e R s₀ m args below meth cd H locs c s (MQ below (va_Qv Post (wo_B E) (en_A E)) args s₀ mc ms (en_A E)) (F0 m 11 ls []) := by
  intro n
  induction n with
  | zero => intro G c s x0 x1 x2 x3 hw; exact hw.elim
  | succ n ih =>
    intro G c s x0 x1 x2 x3 hw H locs ls hG hS hl hcc hss
    dsimp only [pq_Md_send_11] at hw
    have hx := hC.1
    have hb := hC.2.1
    refine lv_iload_n hx hb dq_Md_send_11 rfl (lx_at hl 3 rfl) ?_
    refine lv_bipush (v := (8 : Int32)) hx hb dq_Md_send_12 rfl ?_
    refine lv_icmp_ge (tgt := 58) hx hb dq_Md_send_14 rfl (fun h => ?_) (fun h => ?_)
    · replace hw := hw.1 h
      refine lv_iload_n hx hb dq_Md_send_58 rfl (lx_at hl 2 rfl) ?_
      refine lv_if_lt (tgt := 94) hx hb dq_Md_send_59 rfl (fun h => ?_) (fun h => ?_)
      · replace hw := hw.1 h
        exact tq_Md_send_94 hC hk2 hw hG hS (lx_sub hl [0, 1] rfl) hcc hss
      · replace hw := hw.2 h
        refine lv_aload_n hx hb dq_Md_send_62 rfl (lx_at hl 0 rfl) ?_
        refine lv_iload_n hx hb dq_Md_send_63 rfl (lx_at hl 1 rfl) ?_
        obtain ⟨t1, hw⟩ := hw
        obtain ⟨mc2, ms3, hc1, hs1, hw⟩ := hw
        refine va_calli (wo_runV hC lq_Md_373 (mq_Md_jobOn hw) hG hS t1 rfl (lx_sz hl) rfl (Nat.zero_le _) (by decide) dq_Md_send_64 ⟨hc1, hs1⟩) hS (fun _ _ h => h) (fun _ h => h) (fun v5 G4 t H locs ht hvm hw' hB _ _ hS => ?_)
        clear hw
        have hw := hw'
        clear hw'
        replace hG := wo_bk ht hB
        replace hcc := hc1
        replace hss := hs1
        refine lv_if_ge (tgt := 94) hx hb dq_Md_send_67 rfl (fun h => ?_) (fun h => ?_)
        · replace hw := hw.1 h
          exact tq_Md_send_94 hC hk2 hw hG hS (lx_sub hl [0, 1] rfl) hcc hss
        · replace hw := hw.2 h
          refine lv_aload_n hx hb dq_Md_send_70 rfl (lx_at hl 0 rfl) ?_
          obtain ⟨t6, hw⟩ := hw
          refine wo_getR hC fq_Md_69 rfl hG t6 dq_Md_send_71 (fun r7 e8 => ?_)
          replace hw := hw r7 e8
          refine lv_iload_n hx hb dq_Md_send_74 rfl (lx_at hl 2 rfl) ?_
          refine lv_iconst (v := (2 : Int32)) hx hb dq_Md_send_75 rfl ?_
          obtain ⟨a9, rfl, hw⟩ := hw
          obtain ⟨t10, hw⟩ := hw
          obtain ⟨h11, hw⟩ := hw
          obtain ⟨h12, hw⟩ := hw
          refine wo_iast (j := 2) hC rfl hG hS t10 h11 h12 dq_Md_send_76 (fun G13 H locs e14 hG hS => ?_)
          replace hw := hw G13 e14
          refine lv_aload_n hx hb dq_Md_send_77 rfl (lx_at hl 0 rfl) ?_
          refine wo_getR hC fq_Md_81 rfl hG (ty_sei e14 t6) dq_Md_send_78 (fun r15 e16 => ?_)
          replace hw := hw r15 e16
          refine lv_iload_n hx hb dq_Md_send_81 rfl (lx_at hl 2 rfl) ?_
          refine lv_iload_n hx hb dq_Md_send_82 rfl (lx_at hl 1 rfl) ?_
          obtain ⟨a17, rfl, hw⟩ := hw
          obtain ⟨t18, hw⟩ := hw
          obtain ⟨h19, hw⟩ := hw
          obtain ⟨h20, hw⟩ := hw
          refine wo_iast (j := 2) hC rfl hG hS t18 h19 h20 dq_Md_send_83 (fun G21 H locs e22 hG hS => ?_)
          replace hw := hw G21 e22
          refine lv_aload_n hx hb dq_Md_send_84 rfl (lx_at hl 0 rfl) ?_
          refine wo_getR hC fq_Md_84 rfl hG (ty_sei e22 (ty_sei e14 t6)) dq_Md_send_85 (fun r23 e24 => ?_)
          replace hw := hw r23 e24
          refine lv_iload_n hx hb dq_Md_send_88 rfl (lx_at hl 2 rfl) ?_
          refine lv_aload_n hx hb dq_Md_send_89 rfl (lx_at hl 0 rfl) ?_
          refine wo_getI hC fq_Md_349 rfl hG (ty_sei e22 (ty_sei e14 t6)) dq_Md_send_90 ?_
          obtain ⟨a25, rfl, hw⟩ := hw
          obtain ⟨t26, hw⟩ := hw
          obtain ⟨h27, hw⟩ := hw
          obtain ⟨h28, hw⟩ := hw
          refine wo_iast (j := 2) hC rfl hG hS t26 h27 h28 dq_Md_send_93 (fun G29 H locs e30 hG hS => ?_)
          replace hw := hw G29 e30
          exact tq_Md_send_94 hC hk2 hw hG hS (lx_sub hl [0, 1] rfl) hcc hss
    · replace hw := hw.2 h
      refine lv_aload_n hx hb dq_Md_send_17 rfl (lx_at hl 0 rfl) ?_
      obtain ⟨t31, hw⟩ := hw
      refine wo_getR hC fq_Md_69 rfl hG t31 dq_Md_send_18 (fun r32 e33 => ?_)
      replace hw := hw r32 e33
      refine lv_iload_n hx hb dq_Md_send_21 rfl (lx_at hl 3 rfl) ?_
      obtain ⟨a34, rfl, hw⟩ := hw
      obtain ⟨t35, hw⟩ := hw
      obtain ⟨h36, hw⟩ := hw
      refine wo_iald (j := 2) hC rfl hG t35 h36 dq_Md_send_22 ?_
      refine lv_iconst (v := (1 : Int32)) hx hb dq_Md_send_23 rfl ?_
      refine lv_icmp_ne (tgt := 50) hx hb dq_Md_send_24 rfl (fun h => ?_) (fun h => ?_)
      · replace hw := hw.1 h
        exact tq_Md_send_50 hC hk2 ih hw hG hS (lx_sub hl [0, 1, 2, 3] rfl) hcc hss
      · replace hw := hw.2 h
        refine lv_iload_n hx hb dq_Md_send_27 rfl (lx_at hl 2 rfl) ?_
        refine lv_if_lt (tgt := 46) hx hb dq_Md_send_28 rfl (fun h => ?_) (fun h => ?_)
        · replace hw := hw.1 h
          exact tq_Md_send_46 hC hk2 ih hw hG hS (lx_sub hl [0, 1, 3] rfl) hcc hss
        · replace hw := hw.2 h
          refine lv_aload_n hx hb dq_Md_send_31 rfl (lx_at hl 0 rfl) ?_
          refine wo_getR hC fq_Md_78 rfl hG t31 dq_Md_send_32 (fun r37 e38 => ?_)
          replace hw := hw r37 e38
          refine lv_iload_n hx hb dq_Md_send_35 rfl (lx_at hl 3 rfl) ?_
          obtain ⟨a39, rfl, hw⟩ := hw
          obtain ⟨t40, hw⟩ := hw
          obtain ⟨h41, hw⟩ := hw
          refine wo_iald (j := 2) hC rfl hG t40 h41 dq_Md_send_36 ?_
          refine lv_aload_n hx hb dq_Md_send_37 rfl (lx_at hl 0 rfl) ?_
          refine wo_getR hC fq_Md_78 rfl hG t31 dq_Md_send_38 (fun r42 e43 => ?_)
          replace hw := hw r42 e43
          refine lv_iload_n hx hb dq_Md_send_41 rfl (lx_at hl 2 rfl) ?_
          obtain ⟨a44, rfl, hw⟩ := hw
          obtain ⟨t45, hw⟩ := hw
          obtain ⟨h46, hw⟩ := hw
          refine wo_iald (j := 2) hC rfl hG t45 h46 dq_Md_send_42 ?_
          refine lv_icmp_ge (tgt := 50) hx hb dq_Md_send_43 rfl (fun h => ?_) (fun h => ?_)
          · replace hw := hw.1 h
            exact tq_Md_send_50 hC hk2 ih hw hG hS (lx_sub hl [0, 1, 2, 3] rfl) hcc hss
          · replace hw := hw.2 h
            exact tq_Md_send_46 hC hk2 ih hw hG hS (lx_sub hl [0, 1, 3] rfl) hcc hss
set_option maxRecDepth 100000 in
set_option maxHeartbeats 4000000 in
theorem tq_Md_send_2 {p : Program} {l : Launch} {e : Env} {R : Room} {s₀ : State} {m : MethodId} {args : Array Value} {below : List Frame} {meth : Method} {cd : Code} {E : wo_E} {mc ms : Nat} {Post : wo_W → Prop} (hC : wo_Cx E "EdgeCacheModel" prog_14_method_51_code 4 1 22 ((Option.none : Option Jvm.ClassFile.FieldType)) "send" mc ms p R s₀ m args meth cd) : ∀ n : Nat, ∀ {G : wo_W} {c s : Nat} {x0 : Nat} {x1 : Int32}, pq_Md_send_2 E mc ms Post n G c s x0 x1 → ∀ {H : Heap} {locs : List Loc} {ls : Array Slot}, wo_Se E G H → va_S (en_A E) s₀.heap H locs → lx_has ls 4 [(0, 1, .ref x0), (1, 1, .int x1)] → c ≤ mc → s ≤ ms → W p l e R s₀ m args below meth cd H locs c s (MQ below (va_Qv Post (wo_B E) (en_A E)) args s₀ mc ms (en_A E)) (F0 m 2 ls []) := by
  intro n
  induction n with
  | zero => intro G c s x0 x1 hw; exact hw.elim
  | succ n ih =>
    intro G c s x0 x1 hw H locs ls hG hS hl hcc hss
    dsimp only [pq_Md_send_2] at hw
    have hx := hC.1
    have hb := hC.2.1
    refine lv_iload_n hx hb dq_Md_send_2 rfl (lx_at hl 1 rfl) ?_
    refine lv_iconst (v := (2 : Int32)) hx hb dq_Md_send_3 rfl ?_
    refine lv_icmp_ge (tgt := 100) hx hb dq_Md_send_4 rfl (fun h => ?_) (fun h => ?_)
    · replace hw := hw.1 h
      exact wo_vret hC hG hS hcc hss hw dq_Md_send_100
    · replace hw := hw.2 h
      refine lv_iconst (v := (-1 : Int32)) hx hb dq_Md_send_7 rfl ?_
      refine lx_istore_n (lv' := [(2, 1, .int (-1 : Int32)), (0, 1, .ref x0), (1, 1, .int x1)]) hx hb dq_Md_send_8 rfl hl (by decide) rfl (fun ls hl' => ?_)
      clear hl
      have hl := hl'
      clear hl'
      refine lv_iconst (v := (0 : Int32)) hx hb dq_Md_send_9 rfl ?_
      refine lx_istore_n (lv' := [(3, 1, .int (0 : Int32)), (2, 1, .int (-1 : Int32)), (0, 1, .ref x0), (1, 1, .int x1)]) hx hb dq_Md_send_10 rfl hl (by decide) rfl (fun ls hl' => ?_)
      clear hl
      have hl := hl'
      clear hl'
      obtain ⟨n1, hw⟩ := hw
      exact tq_Md_send_11 hC ih n1 hw hG hS (lx_sub hl [2, 3, 1, 0] rfl) hcc hss
set_option maxRecDepth 100000 in
set_option maxHeartbeats 4000000 in
theorem tq_Md_send_0 {p : Program} {l : Launch} {e : Env} {R : Room} {s₀ : State} {m : MethodId} {args : Array Value} {below : List Frame} {meth : Method} {cd : Code} {E : wo_E} {mc ms : Nat} {Post : wo_W → Prop} (hC : wo_Cx E "EdgeCacheModel" prog_14_method_51_code 4 1 22 ((Option.none : Option Jvm.ClassFile.FieldType)) "send" mc ms p R s₀ m args meth cd) : ∀ {G : wo_W} {c s : Nat} {x0 : Nat}, pq_Md_send_0 E mc ms Post G c s x0 → ∀ {H : Heap} {locs : List Loc} {ls : Array Slot}, wo_Se E G H → va_S (en_A E) s₀.heap H locs → lx_has ls 4 [(0, 1, .ref x0)] → c ≤ mc → s ≤ ms → W p l e R s₀ m args below meth cd H locs c s (MQ below (va_Qv Post (wo_B E) (en_A E)) args s₀ mc ms (en_A E)) (F0 m 0 ls []) := by
  intro G c s x0 hw H locs ls hG hS hl hcc hss
  dsimp only [pq_Md_send_0] at hw
  have hx := hC.1
  have hb := hC.2.1
  refine lv_iconst (v := (0 : Int32)) hx hb dq_Md_send_0 rfl ?_
  refine lx_istore_n (lv' := [(1, 1, .int (0 : Int32)), (0, 1, .ref x0)]) hx hb dq_Md_send_1 rfl hl (by decide) rfl (fun ls hl' => ?_)
  clear hl
  have hl := hl'
  clear hl'
  obtain ⟨n1, hw⟩ := hw
  exact tq_Md_send_2 hC n1 hw hG hS (lx_sub hl [1, 0] rfl) hcc hss
set_option maxHeartbeats 4000000 in
theorem mq_Md_send {l : Launch} {E : wo_E} {mc ms : Nat} {Post : wo_W → Prop} {G : wo_W} {x0 : Nat} (hw : pq_Md_send E mc ms Post G x0) : Met l yq_Md_send (Cond.code yq_Md_send prog_14_method_51_code 4 ((Option.none : Option Jvm.ClassFile.FieldType)) :: vw_WG) { frames := 1, cells := mc, slots := ms, locals := 22 } (va_Pc [.ref x0] (wo_Ok E G)) (va_Qv Post (wo_B E) (en_A E)) mc ms (en_A E) := by
  unfold pq_Md_send at hw
  exact wo_met [(1, .ref x0)] rfl (by decide) (fun q hq => by simp only [List.mem_cons, List.not_mem_nil, or_false] at hq; rcases hq with rfl <;> first | rfl | exact lx_cR _) (Nat.le_of_ble_eq_true rfl) (fun p e R s m args below meth cd ls hC hG hS hl => tq_Md_send_0 hC hw hG hS (lx_sub hl [0] rfl) (Nat.zero_le _) (Nat.zero_le _))

theorem dq_Md_inPolicy_0 : decode prog_14_method_20_code 0 = .ok (.aload_n 0, 1) := by decide +kernel
theorem dq_Md_inPolicy_1 : decode prog_14_method_20_code 1 = .ok (.getfield 111, 3) := by decide +kernel
theorem dq_Md_inPolicy_4 : decode prog_14_method_20_code 4 = .ok (.iload_n 1, 1) := by decide +kernel
theorem dq_Md_inPolicy_5 : decode prog_14_method_20_code 5 = .ok (.laload, 1) := by decide +kernel
theorem dq_Md_inPolicy_6 : decode prog_14_method_20_code 6 = .ok (.aload_n 0, 1) := by decide +kernel
theorem dq_Md_inPolicy_7 : decode prog_14_method_20_code 7 = .ok (.getfield 114, 3) := by decide +kernel
theorem dq_Md_inPolicy_10 : decode prog_14_method_20_code 10 = .ok (.iload_n 1, 1) := by decide +kernel
theorem dq_Md_inPolicy_11 : decode prog_14_method_20_code 11 = .ok (.iaload, 1) := by decide +kernel
theorem dq_Md_inPolicy_12 : decode prog_14_method_20_code 12 = .ok (.iload_n 2, 1) := by decide +kernel
theorem dq_Md_inPolicy_13 : decode prog_14_method_20_code 13 = .ok (.invokestatic 262, 3) := by decide +kernel
theorem dq_Md_inPolicy_16 : decode prog_14_method_20_code 16 = .ok (.ireturn, 1) := by decide +kernel
set_option maxRecDepth 100000 in
def pq_Md_inPolicy_0 (E : wo_E) (mc ms : Nat) (Post : Int32 → wo_W → Prop) (G : wo_W) (c s : Nat) (x0 : Nat) (x1 : Int32) (x2 : Int32) : Prop := wo_ty G x0 = 15 ∧ ∀ r2 : Option Nat, r2 = wo_gr G 933 x0 → ∃ a4 : Nat, r2 = some a4 ∧ wo_ty G a4 = 73 ∧ vp_in x1 (wo_len G a4) ∧ ∀ r7 : Option Nat, r7 = wo_gr G 934 x0 → ∃ a9 : Nat, r7 = some a9 ∧ wo_ty G a9 = 66 ∧ vp_in x1 (wo_len G a9) ∧ ∃ mc12 ms13 : Nat, (c + mc12) ≤ mc ∧ (s + ms13) ≤ ms ∧ pq_Md_numberOf E mc12 ms13 (fun v15 G14 => 
  Post v15 G14) G (wo_el G a4 x1.toNatClampNeg) (wo_ei G a9 x1.toNatClampNeg) x2
def pq_Md_inPolicy (E : wo_E) (mc ms : Nat) (Post : Int32 → wo_W → Prop) (G : wo_W) (x0 : Nat) (x1 : Int32) (x2 : Int32) : Prop := pq_Md_inPolicy_0 E mc ms Post G 0 0 x0 x1 x2
set_option maxRecDepth 100000 in
set_option maxHeartbeats 4000000 in
theorem tq_Md_inPolicy_0 {p : Program} {l : Launch} {e : Env} {R : Room} {s₀ : State} {m : MethodId} {args : Array Value} {below : List Frame} {meth : Method} {cd : Code} {E : wo_E} {mc ms : Nat} {Post : Int32 → wo_W → Prop} (hC : wo_Cx E "EdgeCacheModel" prog_14_method_20_code 3 3 73 ((Option.some Jvm.ClassFile.FieldType.int)) "inPolicy" mc ms p R s₀ m args meth cd) : ∀ {G : wo_W} {c s : Nat} {x0 : Nat} {x1 : Int32} {x2 : Int32}, pq_Md_inPolicy_0 E mc ms Post G c s x0 x1 x2 → ∀ {H : Heap} {locs : List Loc} {ls : Array Slot}, wo_Se E G H → va_S (en_A E) s₀.heap H locs → lx_has ls 3 [(0, 1, .ref x0), (1, 1, .int x1), (2, 1, .int x2)] → c ≤ mc → s ≤ ms → W p l e R s₀ m args below meth cd H locs c s (MQ below (va_Qi Post (wo_B E) (en_A E)) args s₀ mc ms (en_A E)) (F0 m 0 ls []) := by
  intro G c s x0 x1 x2 hw H locs ls hG hS hl hcc hss
  dsimp only [pq_Md_inPolicy_0] at hw
  have hx := hC.1
  have hb := hC.2.1
  refine lv_aload_n hx hb dq_Md_inPolicy_0 rfl (lx_at hl 0 rfl) ?_
  obtain ⟨t1, hw⟩ := hw
  refine wo_getR hC fq_Md_111 rfl hG t1 dq_Md_inPolicy_1 (fun r2 e3 => ?_)
  replace hw := hw r2 e3
  refine lv_iload_n hx hb dq_Md_inPolicy_4 rfl (lx_at hl 1 rfl) ?_
  obtain ⟨a4, rfl, hw⟩ := hw
  obtain ⟨t5, hw⟩ := hw
  obtain ⟨h6, hw⟩ := hw
  refine wo_lald (j := 9) hC rfl hG t5 h6 dq_Md_inPolicy_5 ?_
  refine lv_aload_n hx hb dq_Md_inPolicy_6 rfl (lx_at hl 0 rfl) ?_
  refine wo_getR hC fq_Md_114 rfl hG t1 dq_Md_inPolicy_7 (fun r7 e8 => ?_)
  replace hw := hw r7 e8
  refine lv_iload_n hx hb dq_Md_inPolicy_10 rfl (lx_at hl 1 rfl) ?_
  obtain ⟨a9, rfl, hw⟩ := hw
  obtain ⟨t10, hw⟩ := hw
  obtain ⟨h11, hw⟩ := hw
  refine wo_iald (j := 2) hC rfl hG t10 h11 dq_Md_inPolicy_11 ?_
  refine lv_iload_n hx hb dq_Md_inPolicy_12 rfl (lx_at hl 2 rfl) ?_
  obtain ⟨mc12, ms13, hc1, hs1, hw⟩ := hw
  refine va_calli (wo_runS hC lq_Md_262 (mq_Md_numberOf hw) hG hS rfl (lx_sz hl) rfl (Nat.zero_le _) (by decide) dq_Md_inPolicy_13 ⟨hc1, hs1⟩) hS (fun _ _ h => h) (fun _ h => h) (fun v15 G14 t H locs ht hvm hw' hB _ _ hS => ?_)
  clear hw
  have hw := hw'
  clear hw'
  replace hG := wo_bk ht hB
  replace hcc := hc1
  replace hss := hs1
  exact wo_iret hC hG hS hcc hss hw dq_Md_inPolicy_16
set_option maxHeartbeats 4000000 in
theorem mq_Md_inPolicy {l : Launch} {E : wo_E} {mc ms : Nat} {Post : Int32 → wo_W → Prop} {G : wo_W} {x0 : Nat} {x1 : Int32} {x2 : Int32} (hw : pq_Md_inPolicy E mc ms Post G x0 x1 x2) : Met l yq_Md_inPolicy (Cond.code yq_Md_inPolicy prog_14_method_20_code 3 ((Option.some Jvm.ClassFile.FieldType.int)) :: vw_WG) { frames := 3, cells := mc, slots := ms, locals := 73 } (va_Pc [.ref x0, .int x1, .int x2] (wo_Ok E G)) (va_Qi Post (wo_B E) (en_A E)) mc ms (en_A E) := by
  unfold pq_Md_inPolicy at hw
  exact wo_met [(1, .ref x0), (1, .int x1), (1, .int x2)] rfl (by decide) (fun q hq => by simp only [List.mem_cons, List.not_mem_nil, or_false] at hq; rcases hq with rfl | rfl | rfl <;> first | rfl | exact lx_cR _) (Nat.le_of_ble_eq_true rfl) (fun p e R s m args below meth cd ls hC hG hS hl => tq_Md_inPolicy_0 hC hw hG hS (lx_sub hl [0, 1, 2] rfl) (Nat.zero_le _) (Nat.zero_le _))

theorem dq_Md_usable_0 : decode prog_14_method_47_code 0 = .ok (.aload_n 0, 1) := by decide +kernel
theorem dq_Md_usable_1 : decode prog_14_method_47_code 1 = .ok (.getfield 349, 3) := by decide +kernel
theorem dq_Md_usable_4 : decode prog_14_method_47_code 4 = .ok (.aload_n 0, 1) := by decide +kernel
theorem dq_Md_usable_5 : decode prog_14_method_47_code 5 = .ok (.getfield 135, 3) := by decide +kernel
theorem dq_Md_usable_8 : decode prog_14_method_47_code 8 = .ok (.iload_n 1, 1) := by decide +kernel
theorem dq_Md_usable_9 : decode prog_14_method_47_code 9 = .ok (.iaload, 1) := by decide +kernel
theorem dq_Md_usable_10 : decode prog_14_method_47_code 10 = .ok (.isub, 1) := by decide +kernel
theorem dq_Md_usable_11 : decode prog_14_method_47_code 11 = .ok (.istore_n 3, 1) := by decide +kernel
theorem dq_Md_usable_12 : decode prog_14_method_47_code 12 = .ok (.aload_n 0, 1) := by decide +kernel
theorem dq_Md_usable_13 : decode prog_14_method_47_code 13 = .ok (.iload_n 1, 1) := by decide +kernel
theorem dq_Md_usable_14 : decode prog_14_method_47_code 14 = .ok (.bipush 115, 2) := by decide +kernel
theorem dq_Md_usable_16 : decode prog_14_method_47_code 16 = .ok (.invokevirtual 352, 3) := by decide +kernel
theorem dq_Md_usable_19 : decode prog_14_method_47_code 19 = .ok (.istore 4, 2) := by decide +kernel
theorem dq_Md_usable_21 : decode prog_14_method_47_code 21 = .ok (.iload 4, 2) := by decide +kernel
theorem dq_Md_usable_23 : decode prog_14_method_47_code 23 = .ok (.ifCond .ge 13, 3) := by decide +kernel
theorem dq_Md_usable_26 : decode prog_14_method_47_code 26 = .ok (.aload_n 0, 1) := by decide +kernel
theorem dq_Md_usable_27 : decode prog_14_method_47_code 27 = .ok (.iload_n 1, 1) := by decide +kernel
theorem dq_Md_usable_28 : decode prog_14_method_47_code 28 = .ok (.bipush 109, 2) := by decide +kernel
theorem dq_Md_usable_30 : decode prog_14_method_47_code 30 = .ok (.invokevirtual 352, 3) := by decide +kernel
theorem dq_Md_usable_33 : decode prog_14_method_47_code 33 = .ok (.goto 5, 3) := by decide +kernel
theorem dq_Md_usable_36 : decode prog_14_method_47_code 36 = .ok (.iload 4, 2) := by decide +kernel
theorem dq_Md_usable_38 : decode prog_14_method_47_code 38 = .ok (.istore 4, 2) := by decide +kernel
theorem dq_Md_usable_40 : decode prog_14_method_47_code 40 = .ok (.aload_n 0, 1) := by decide +kernel
theorem dq_Md_usable_41 : decode prog_14_method_47_code 41 = .ok (.iload_n 2, 1) := by decide +kernel
theorem dq_Md_usable_42 : decode prog_14_method_47_code 42 = .ok (.iconst 4, 1) := by decide +kernel
theorem dq_Md_usable_43 : decode prog_14_method_47_code 43 = .ok (.bipush 97, 2) := by decide +kernel
theorem dq_Md_usable_45 : decode prog_14_method_47_code 45 = .ok (.invokevirtual 314, 3) := by decide +kernel
theorem dq_Md_usable_48 : decode prog_14_method_47_code 48 = .ok (.istore 5, 2) := by decide +kernel
theorem dq_Md_usable_50 : decode prog_14_method_47_code 50 = .ok (.aload_n 0, 1) := by decide +kernel
theorem dq_Md_usable_51 : decode prog_14_method_47_code 51 = .ok (.iload_n 1, 1) := by decide +kernel
theorem dq_Md_usable_52 : decode prog_14_method_47_code 52 = .ok (.iload_n 2, 1) := by decide +kernel
theorem dq_Md_usable_53 : decode prog_14_method_47_code 53 = .ok (.invokevirtual 355, 3) := by decide +kernel
theorem dq_Md_usable_56 : decode prog_14_method_47_code 56 = .ok (.ifCond .eq 49, 3) := by decide +kernel
theorem dq_Md_usable_59 : decode prog_14_method_47_code 59 = .ok (.iload_n 3, 1) := by decide +kernel
theorem dq_Md_usable_60 : decode prog_14_method_47_code 60 = .ok (.iload 4, 2) := by decide +kernel
theorem dq_Md_usable_62 : decode prog_14_method_47_code 62 = .ok (.if_icmp .ge 43, 3) := by decide +kernel
theorem dq_Md_usable_65 : decode prog_14_method_47_code 65 = .ok (.aload_n 0, 1) := by decide +kernel
theorem dq_Md_usable_66 : decode prog_14_method_47_code 66 = .ok (.iload_n 1, 1) := by decide +kernel
theorem dq_Md_usable_67 : decode prog_14_method_47_code 67 = .ok (.bipush 110, 2) := by decide +kernel
theorem dq_Md_usable_69 : decode prog_14_method_47_code 69 = .ok (.invokevirtual 352, 3) := by decide +kernel
theorem dq_Md_usable_72 : decode prog_14_method_47_code 72 = .ok (.bipush (-2), 2) := by decide +kernel
theorem dq_Md_usable_74 : decode prog_14_method_47_code 74 = .ok (.if_icmp .ne 31, 3) := by decide +kernel
theorem dq_Md_usable_77 : decode prog_14_method_47_code 77 = .ok (.aload_n 0, 1) := by decide +kernel
theorem dq_Md_usable_78 : decode prog_14_method_47_code 78 = .ok (.iload_n 2, 1) := by decide +kernel
theorem dq_Md_usable_79 : decode prog_14_method_47_code 79 = .ok (.iconst 4, 1) := by decide +kernel
theorem dq_Md_usable_80 : decode prog_14_method_47_code 80 = .ok (.bipush 110, 2) := by decide +kernel
theorem dq_Md_usable_82 : decode prog_14_method_47_code 82 = .ok (.invokevirtual 314, 3) := by decide +kernel
theorem dq_Md_usable_85 : decode prog_14_method_47_code 85 = .ok (.bipush (-2), 2) := by decide +kernel
theorem dq_Md_usable_87 : decode prog_14_method_47_code 87 = .ok (.if_icmp .ne 18, 3) := by decide +kernel
theorem dq_Md_usable_90 : decode prog_14_method_47_code 90 = .ok (.iload 5, 2) := by decide +kernel
theorem dq_Md_usable_92 : decode prog_14_method_47_code 92 = .ok (.ifCond .lt 9, 3) := by decide +kernel
theorem dq_Md_usable_95 : decode prog_14_method_47_code 95 = .ok (.iload 5, 2) := by decide +kernel
theorem dq_Md_usable_97 : decode prog_14_method_47_code 97 = .ok (.iload_n 3, 1) := by decide +kernel
theorem dq_Md_usable_98 : decode prog_14_method_47_code 98 = .ok (.if_icmp .lt 7, 3) := by decide +kernel
theorem dq_Md_usable_101 : decode prog_14_method_47_code 101 = .ok (.iconst 1, 1) := by decide +kernel
theorem dq_Md_usable_102 : decode prog_14_method_47_code 102 = .ok (.goto 4, 3) := by decide +kernel
theorem dq_Md_usable_105 : decode prog_14_method_47_code 105 = .ok (.iconst 0, 1) := by decide +kernel
theorem dq_Md_usable_106 : decode prog_14_method_47_code 106 = .ok (.ireturn, 1) := by decide +kernel
set_option maxRecDepth 100000 in
def pq_Md_usable_106 (E : wo_E) (mc ms : Nat) (Post : Int32 → wo_W → Prop) (G : wo_W) (c s : Nat) (y0 : Int32) : Prop := wo_okI .boolean y0 ∧ Post y0 G
set_option maxRecDepth 100000 in
def pq_Md_usable_105 (E : wo_E) (mc ms : Nat) (Post : Int32 → wo_W → Prop) (G : wo_W) (c s : Nat) : Prop := pq_Md_usable_106 E mc ms Post G c s (0 : Int32)
set_option maxRecDepth 100000 in
def pq_Md_usable_101 (E : wo_E) (mc ms : Nat) (Post : Int32 → wo_W → Prop) (G : wo_W) (c s : Nat) : Prop := pq_Md_usable_106 E mc ms Post G c s (1 : Int32)
set_option maxRecDepth 100000 in
def pq_Md_usable_38 (E : wo_E) (mc ms : Nat) (Post : Int32 → wo_W → Prop) (G : wo_W) (c s : Nat) (x0 : Nat) (x1 : Int32) (x2 : Int32) (x3 : Int32) (y0 : Int32) : Prop := wo_ty G x0 = 15 ∧ ∃ mc2 ms3 : Nat, (c + mc2) ≤ mc ∧ (s + ms3) ≤ ms ∧ pq_Md_inValue E mc2 ms3 (fun v5 G4 => 
  wo_ty G4 x0 = 15 ∧ ∃ mc7 ms8 : Nat, ((c + mc2) + mc7) ≤ mc ∧ ((s + ms3) + ms8) ≤ ms ∧ pq_Md_fits E mc7 ms8 (fun v10 G9 => 
    ((v10 = (0 : Int32) → pq_Md_usable_105 E mc ms Post G9 ((c + mc2) + mc7) ((s + ms3) + ms8)) ∧
      (¬ v10 = (0 : Int32) → ((y0 ≤ x3 → pq_Md_usable_105 E mc ms Post G9 ((c + mc2) + mc7) ((s + ms3) + ms8)) ∧
        (¬ y0 ≤ x3 → wo_ty G9 x0 = 15 ∧ ∃ mc12 ms13 : Nat, (((c + mc2) + mc7) + mc12) ≤ mc ∧ (((s + ms3) + ms8) + ms13) ≤ ms ∧ pq_Md_inPolicy E mc12 ms13 (fun v15 G14 => 
          ((¬ v15 = (-2 : Int32) → pq_Md_usable_105 E mc ms Post G14 (((c + mc2) + mc7) + mc12) (((s + ms3) + ms8) + ms13)) ∧
            (v15 = (-2 : Int32) → wo_ty G14 x0 = 15 ∧ ∃ mc17 ms18 : Nat, ((((c + mc2) + mc7) + mc12) + mc17) ≤ mc ∧ ((((s + ms3) + ms8) + ms13) + ms18) ≤ ms ∧ pq_Md_inValue E mc17 ms18 (fun v20 G19 => 
              ((¬ v20 = (-2 : Int32) → pq_Md_usable_105 E mc ms Post G19 ((((c + mc2) + mc7) + mc12) + mc17) ((((s + ms3) + ms8) + ms13) + ms18)) ∧
                (v20 = (-2 : Int32) → ((v5 < (0 : Int32) → pq_Md_usable_101 E mc ms Post G19 ((((c + mc2) + mc7) + mc12) + mc17) ((((s + ms3) + ms8) + ms13) + ms18)) ∧
                  (¬ v5 < (0 : Int32) → ((v5 < x3 → pq_Md_usable_105 E mc ms Post G19 ((((c + mc2) + mc7) + mc12) + mc17) ((((s + ms3) + ms8) + ms13) + ms18)) ∧
                    (¬ v5 < x3 → pq_Md_usable_101 E mc ms Post G19 ((((c + mc2) + mc7) + mc12) + mc17) ((((s + ms3) + ms8) + ms13) + ms18)))))))) G14 x0 x2 (4 : Int32) (110 : Int32)))) G9 x0 x1 (110 : Int32)))))) G4 x0 x1 x2) G x0 x2 (4 : Int32) (97 : Int32)
set_option maxRecDepth 100000 in
def pq_Md_usable_0 (E : wo_E) (mc ms : Nat) (Post : Int32 → wo_W → Prop) (G : wo_W) (c s : Nat) (x0 : Nat) (x1 : Int32) (x2 : Int32) : Prop := wo_ty G x0 = 15 ∧ ∀ r2 : Option Nat, r2 = wo_gr G 941 x0 → ∃ a4 : Nat, r2 = some a4 ∧ wo_ty G a4 = 66 ∧ vp_in x1 (wo_len G a4) ∧ ∃ mc7 ms8 : Nat, (c + mc7) ≤ mc ∧ (s + ms8) ≤ ms ∧ pq_Md_inPolicy E mc7 ms8 (fun v10 G9 => 
  (((0 : Int32) ≤ v10 → pq_Md_usable_38 E mc ms Post G9 (c + mc7) (s + ms8) x0 x1 x2 ((wo_gi G 956 x0) - (wo_ei G a4 x1.toNatClampNeg)) v10) ∧
    (¬ (0 : Int32) ≤ v10 → wo_ty G9 x0 = 15 ∧ ∃ mc12 ms13 : Nat, ((c + mc7) + mc12) ≤ mc ∧ ((s + ms8) + ms13) ≤ ms ∧ pq_Md_inPolicy E mc12 ms13 (fun v15 G14 => 
      pq_Md_usable_38 E mc ms Post G14 ((c + mc7) + mc12) ((s + ms8) + ms13) x0 x1 x2 ((wo_gi G 956 x0) - (wo_ei G a4 x1.toNatClampNeg)) v15) G9 x0 x1 (109 : Int32)))) G x0 x1 (115 : Int32)
def pq_Md_usable (E : wo_E) (mc ms : Nat) (Post : Int32 → wo_W → Prop) (G : wo_W) (x0 : Nat) (x1 : Int32) (x2 : Int32) : Prop := pq_Md_usable_0 E mc ms Post G 0 0 x0 x1 x2
set_option maxRecDepth 100000 in
set_option maxHeartbeats 4000000 in
theorem tq_Md_usable_106 {p : Program} {l : Launch} {e : Env} {R : Room} {s₀ : State} {m : MethodId} {args : Array Value} {below : List Frame} {meth : Method} {cd : Code} {E : wo_E} {mc ms : Nat} {Post : Int32 → wo_W → Prop} (hC : wo_Cx E "EdgeCacheModel" prog_14_method_47_code 6 4 96 ((Option.some Jvm.ClassFile.FieldType.boolean)) "usable" mc ms p R s₀ m args meth cd) : ∀ {G : wo_W} {c s : Nat} {y0 : Int32}, pq_Md_usable_106 E mc ms Post G c s y0 → ∀ {H : Heap} {locs : List Loc} {ls : Array Slot}, wo_Se E G H → va_S (en_A E) s₀.heap H locs → lx_has ls 6 [] → c ≤ mc → s ≤ ms → W p l e R s₀ m args below meth cd H locs c s (MQ below (va_Qi Post (wo_B E) (en_A E)) args s₀ mc ms (en_A E)) (F0 m 106 ls [.int y0]) := by
  intro G c s y0 hw H locs ls hG hS hl hcc hss
  dsimp only [pq_Md_usable_106] at hw
  have hx := hC.1
  have hb := hC.2.1
  obtain ⟨h1, hw⟩ := hw
  exact wo_zret hC h1.1 hG hS hcc hss hw dq_Md_usable_106
set_option maxRecDepth 100000 in
set_option maxHeartbeats 4000000 in
theorem tq_Md_usable_105 {p : Program} {l : Launch} {e : Env} {R : Room} {s₀ : State} {m : MethodId} {args : Array Value} {below : List Frame} {meth : Method} {cd : Code} {E : wo_E} {mc ms : Nat} {Post : Int32 → wo_W → Prop} (hC : wo_Cx E "EdgeCacheModel" prog_14_method_47_code 6 4 96 ((Option.some Jvm.ClassFile.FieldType.boolean)) "usable" mc ms p R s₀ m args meth cd) : ∀ {G : wo_W} {c s : Nat}, pq_Md_usable_105 E mc ms Post G c s → ∀ {H : Heap} {locs : List Loc} {ls : Array Slot}, wo_Se E G H → va_S (en_A E) s₀.heap H locs → lx_has ls 6 [] → c ≤ mc → s ≤ ms → W p l e R s₀ m args below meth cd H locs c s (MQ below (va_Qi Post (wo_B E) (en_A E)) args s₀ mc ms (en_A E)) (F0 m 105 ls []) := by
  intro G c s hw H locs ls hG hS hl hcc hss
  dsimp only [pq_Md_usable_105] at hw
  have hx := hC.1
  have hb := hC.2.1
  refine lv_iconst (v := (0 : Int32)) hx hb dq_Md_usable_105 rfl ?_
  exact tq_Md_usable_106 hC hw hG hS (lx_sub hl [] rfl) hcc hss
set_option maxRecDepth 100000 in
set_option maxHeartbeats 4000000 in
theorem tq_Md_usable_101 {p : Program} {l : Launch} {e : Env} {R : Room} {s₀ : State} {m : MethodId} {args : Array Value} {below : List Frame} {meth : Method} {cd : Code} {E : wo_E} {mc ms : Nat} {Post : Int32 → wo_W → Prop} (hC : wo_Cx E "EdgeCacheModel" prog_14_method_47_code 6 4 96 ((Option.some Jvm.ClassFile.FieldType.boolean)) "usable" mc ms p R s₀ m args meth cd) : ∀ {G : wo_W} {c s : Nat}, pq_Md_usable_101 E mc ms Post G c s → ∀ {H : Heap} {locs : List Loc} {ls : Array Slot}, wo_Se E G H → va_S (en_A E) s₀.heap H locs → lx_has ls 6 [] → c ≤ mc → s ≤ ms → W p l e R s₀ m args below meth cd H locs c s (MQ below (va_Qi Post (wo_B E) (en_A E)) args s₀ mc ms (en_A E)) (F0 m 101 ls []) := by
  intro G c s hw H locs ls hG hS hl hcc hss
  dsimp only [pq_Md_usable_101] at hw
  have hx := hC.1
  have hb := hC.2.1
  refine lv_iconst (v := (1 : Int32)) hx hb dq_Md_usable_101 rfl ?_
  refine lv_goto (tgt := 106) hx hb dq_Md_usable_102 rfl ?_
  exact tq_Md_usable_106 hC hw hG hS (lx_sub hl [] rfl) hcc hss
set_option maxRecDepth 100000 in
set_option maxHeartbeats 4000000 in
theorem tq_Md_usable_38 {p : Program} {l : Launch} {e : Env} {R : Room} {s₀ : State} {m : MethodId} {args : Array Value} {below : List Frame} {meth : Method} {cd : Code} {E : wo_E} {mc ms : Nat} {Post : Int32 → wo_W → Prop} (hC : wo_Cx E "EdgeCacheModel" prog_14_method_47_code 6 4 96 ((Option.some Jvm.ClassFile.FieldType.boolean)) "usable" mc ms p R s₀ m args meth cd) : ∀ {G : wo_W} {c s : Nat} {x0 : Nat} {x1 : Int32} {x2 : Int32} {x3 : Int32} {y0 : Int32}, pq_Md_usable_38 E mc ms Post G c s x0 x1 x2 x3 y0 → ∀ {H : Heap} {locs : List Loc} {ls : Array Slot}, wo_Se E G H → va_S (en_A E) s₀.heap H locs → lx_has ls 6 [(0, 1, .ref x0), (1, 1, .int x1), (2, 1, .int x2), (3, 1, .int x3)] → c ≤ mc → s ≤ ms → W p l e R s₀ m args below meth cd H locs c s (MQ below (va_Qi Post (wo_B E) (en_A E)) args s₀ mc ms (en_A E)) (F0 m 38 ls [.int y0]) := by
  intro G c s x0 x1 x2 x3 y0 hw H locs ls hG hS hl hcc hss
  dsimp only [pq_Md_usable_38] at hw
  have hx := hC.1
  have hb := hC.2.1
  refine lx_istore (lv' := [(4, 1, .int y0), (0, 1, .ref x0), (1, 1, .int x1), (2, 1, .int x2), (3, 1, .int x3)]) hx hb dq_Md_usable_38 hl (by decide) rfl (fun ls hl' => ?_)
  clear hl
  have hl := hl'
  clear hl'
  refine lv_aload_n hx hb dq_Md_usable_40 rfl (lx_at hl 1 rfl) ?_
  refine lv_iload_n hx hb dq_Md_usable_41 rfl (lx_at hl 3 rfl) ?_
  refine lv_iconst (v := (4 : Int32)) hx hb dq_Md_usable_42 rfl ?_
  refine lv_bipush (v := (97 : Int32)) hx hb dq_Md_usable_43 rfl ?_
  obtain ⟨t1, hw⟩ := hw
  obtain ⟨mc2, ms3, hc1, hs1, hw⟩ := hw
  refine va_calli (wo_runV hC lq_Md_314 (mq_Md_inValue hw) hG hS t1 rfl (lx_sz hl) rfl (Nat.zero_le _) (by decide) dq_Md_usable_45 ⟨hc1, hs1⟩) hS (fun _ _ h => h) (fun _ h => h) (fun v5 G4 t H locs ht hvm hw' hB _ _ hS => ?_)
  clear hw
  have hw := hw'
  clear hw'
  replace hG := wo_bk ht hB
  replace hcc := hc1
  replace hss := hs1
  refine lx_istore (lv' := [(5, 1, .int v5), (4, 1, .int y0), (0, 1, .ref x0), (1, 1, .int x1), (2, 1, .int x2), (3, 1, .int x3)]) hx hb dq_Md_usable_48 hl (by decide) rfl (fun ls hl' => ?_)
  clear hl
  have hl := hl'
  clear hl'
  refine lv_aload_n hx hb dq_Md_usable_50 rfl (lx_at hl 2 rfl) ?_
  refine lv_iload_n hx hb dq_Md_usable_51 rfl (lx_at hl 3 rfl) ?_
  refine lv_iload_n hx hb dq_Md_usable_52 rfl (lx_at hl 4 rfl) ?_
  obtain ⟨t6, hw⟩ := hw
  obtain ⟨mc7, ms8, hc1, hs1, hw⟩ := hw
  refine va_calli (wo_runV hC lq_Md_355 (mq_Md_fits hw) hG hS t6 rfl (lx_sz hl) rfl (Nat.zero_le _) (by decide) dq_Md_usable_53 ⟨hc1, hs1⟩) hS (fun _ _ h => h) (fun _ h => h) (fun v10 G9 t H locs ht hvm hw' hB _ _ hS => ?_)
  clear hw
  have hw := hw'
  clear hw'
  replace hG := wo_bk ht hB
  replace hcc := hc1
  replace hss := hs1
  refine lv_if_eq (tgt := 105) hx hb dq_Md_usable_56 rfl (fun h => ?_) (fun h => ?_)
  · replace hw := hw.1 h
    exact tq_Md_usable_105 hC hw hG hS (lx_sub hl [] rfl) hcc hss
  · replace hw := hw.2 h
    refine lv_iload_n hx hb dq_Md_usable_59 rfl (lx_at hl 5 rfl) ?_
    refine lv_iload hx hb dq_Md_usable_60 (lx_at hl 1 rfl) ?_
    refine lv_icmp_ge (tgt := 105) hx hb dq_Md_usable_62 rfl (fun h => ?_) (fun h => ?_)
    · replace hw := hw.1 h
      exact tq_Md_usable_105 hC hw hG hS (lx_sub hl [] rfl) hcc hss
    · replace hw := hw.2 h
      refine lv_aload_n hx hb dq_Md_usable_65 rfl (lx_at hl 2 rfl) ?_
      refine lv_iload_n hx hb dq_Md_usable_66 rfl (lx_at hl 3 rfl) ?_
      refine lv_bipush (v := (110 : Int32)) hx hb dq_Md_usable_67 rfl ?_
      obtain ⟨t11, hw⟩ := hw
      obtain ⟨mc12, ms13, hc1, hs1, hw⟩ := hw
      refine va_calli (wo_runV hC lq_Md_352 (mq_Md_inPolicy hw) hG hS t11 rfl (lx_sz hl) rfl (Nat.zero_le _) (by decide) dq_Md_usable_69 ⟨hc1, hs1⟩) hS (fun _ _ h => h) (fun _ h => h) (fun v15 G14 t H locs ht hvm hw' hB _ _ hS => ?_)
      clear hw
      have hw := hw'
      clear hw'
      replace hG := wo_bk ht hB
      replace hcc := hc1
      replace hss := hs1
      refine lv_bipush (v := (-2 : Int32)) hx hb dq_Md_usable_72 rfl ?_
      refine lv_icmp_ne (tgt := 105) hx hb dq_Md_usable_74 rfl (fun h => ?_) (fun h => ?_)
      · replace hw := hw.1 h
        exact tq_Md_usable_105 hC hw hG hS (lx_sub hl [] rfl) hcc hss
      · replace hw := hw.2 h
        refine lv_aload_n hx hb dq_Md_usable_77 rfl (lx_at hl 2 rfl) ?_
        refine lv_iload_n hx hb dq_Md_usable_78 rfl (lx_at hl 4 rfl) ?_
        refine lv_iconst (v := (4 : Int32)) hx hb dq_Md_usable_79 rfl ?_
        refine lv_bipush (v := (110 : Int32)) hx hb dq_Md_usable_80 rfl ?_
        obtain ⟨t16, hw⟩ := hw
        obtain ⟨mc17, ms18, hc1, hs1, hw⟩ := hw
        refine va_calli (wo_runV hC lq_Md_314 (mq_Md_inValue hw) hG hS t16 rfl (lx_sz hl) rfl (Nat.zero_le _) (by decide) dq_Md_usable_82 ⟨hc1, hs1⟩) hS (fun _ _ h => h) (fun _ h => h) (fun v20 G19 t H locs ht hvm hw' hB _ _ hS => ?_)
        clear hw
        have hw := hw'
        clear hw'
        replace hG := wo_bk ht hB
        replace hcc := hc1
        replace hss := hs1
        refine lv_bipush (v := (-2 : Int32)) hx hb dq_Md_usable_85 rfl ?_
        refine lv_icmp_ne (tgt := 105) hx hb dq_Md_usable_87 rfl (fun h => ?_) (fun h => ?_)
        · replace hw := hw.1 h
          exact tq_Md_usable_105 hC hw hG hS (lx_sub hl [] rfl) hcc hss
        · replace hw := hw.2 h
          refine lv_iload hx hb dq_Md_usable_90 (lx_at hl 0 rfl) ?_
          refine lv_if_lt (tgt := 101) hx hb dq_Md_usable_92 rfl (fun h => ?_) (fun h => ?_)
          · replace hw := hw.1 h
            exact tq_Md_usable_101 hC hw hG hS (lx_sub hl [] rfl) hcc hss
          · replace hw := hw.2 h
            refine lv_iload hx hb dq_Md_usable_95 (lx_at hl 0 rfl) ?_
            refine lv_iload_n hx hb dq_Md_usable_97 rfl (lx_at hl 5 rfl) ?_
            refine lv_icmp_lt (tgt := 105) hx hb dq_Md_usable_98 rfl (fun h => ?_) (fun h => ?_)
            · replace hw := hw.1 h
              exact tq_Md_usable_105 hC hw hG hS (lx_sub hl [] rfl) hcc hss
            · replace hw := hw.2 h
              exact tq_Md_usable_101 hC hw hG hS (lx_sub hl [] rfl) hcc hss
set_option maxRecDepth 100000 in
set_option maxHeartbeats 4000000 in
theorem tq_Md_usable_0 {p : Program} {l : Launch} {e : Env} {R : Room} {s₀ : State} {m : MethodId} {args : Array Value} {below : List Frame} {meth : Method} {cd : Code} {E : wo_E} {mc ms : Nat} {Post : Int32 → wo_W → Prop} (hC : wo_Cx E "EdgeCacheModel" prog_14_method_47_code 6 4 96 ((Option.some Jvm.ClassFile.FieldType.boolean)) "usable" mc ms p R s₀ m args meth cd) : ∀ {G : wo_W} {c s : Nat} {x0 : Nat} {x1 : Int32} {x2 : Int32}, pq_Md_usable_0 E mc ms Post G c s x0 x1 x2 → ∀ {H : Heap} {locs : List Loc} {ls : Array Slot}, wo_Se E G H → va_S (en_A E) s₀.heap H locs → lx_has ls 6 [(0, 1, .ref x0), (1, 1, .int x1), (2, 1, .int x2)] → c ≤ mc → s ≤ ms → W p l e R s₀ m args below meth cd H locs c s (MQ below (va_Qi Post (wo_B E) (en_A E)) args s₀ mc ms (en_A E)) (F0 m 0 ls []) := by
  intro G c s x0 x1 x2 hw H locs ls hG hS hl hcc hss
  dsimp only [pq_Md_usable_0] at hw
  have hx := hC.1
  have hb := hC.2.1
  refine lv_aload_n hx hb dq_Md_usable_0 rfl (lx_at hl 0 rfl) ?_
  obtain ⟨t1, hw⟩ := hw
  refine wo_getI hC fq_Md_349 rfl hG t1 dq_Md_usable_1 ?_
  refine lv_aload_n hx hb dq_Md_usable_4 rfl (lx_at hl 0 rfl) ?_
  refine wo_getR hC fq_Md_135 rfl hG t1 dq_Md_usable_5 (fun r2 e3 => ?_)
  replace hw := hw r2 e3
  refine lv_iload_n hx hb dq_Md_usable_8 rfl (lx_at hl 1 rfl) ?_
  obtain ⟨a4, rfl, hw⟩ := hw
  obtain ⟨t5, hw⟩ := hw
  obtain ⟨h6, hw⟩ := hw
  refine wo_iald (j := 2) hC rfl hG t5 h6 dq_Md_usable_9 ?_
  refine lv_isub hx hb dq_Md_usable_10 ?_
  refine lx_istore_n (lv' := [(3, 1, .int ((wo_gi G 956 x0) - (wo_ei G a4 x1.toNatClampNeg))), (0, 1, .ref x0), (1, 1, .int x1), (2, 1, .int x2)]) hx hb dq_Md_usable_11 rfl hl (by decide) rfl (fun ls hl' => ?_)
  clear hl
  have hl := hl'
  clear hl'
  refine lv_aload_n hx hb dq_Md_usable_12 rfl (lx_at hl 1 rfl) ?_
  refine lv_iload_n hx hb dq_Md_usable_13 rfl (lx_at hl 2 rfl) ?_
  refine lv_bipush (v := (115 : Int32)) hx hb dq_Md_usable_14 rfl ?_
  obtain ⟨mc7, ms8, hc1, hs1, hw⟩ := hw
  refine va_calli (wo_runV hC lq_Md_352 (mq_Md_inPolicy hw) hG hS t1 rfl (lx_sz hl) rfl (Nat.zero_le _) (by decide) dq_Md_usable_16 ⟨hc1, hs1⟩) hS (fun _ _ h => h) (fun _ h => h) (fun v10 G9 t H locs ht hvm hw' hB _ _ hS => ?_)
  clear hw
  have hw := hw'
  clear hw'
  replace hG := wo_bk ht hB
  replace hcc := hc1
  replace hss := hs1
  refine lx_istore (lv' := [(4, 1, .int v10), (3, 1, .int ((wo_gi G 956 x0) - (wo_ei G a4 x1.toNatClampNeg))), (0, 1, .ref x0), (1, 1, .int x1), (2, 1, .int x2)]) hx hb dq_Md_usable_19 hl (by decide) rfl (fun ls hl' => ?_)
  clear hl
  have hl := hl'
  clear hl'
  refine lv_iload hx hb dq_Md_usable_21 (lx_at hl 0 rfl) ?_
  refine lv_if_ge (tgt := 36) hx hb dq_Md_usable_23 rfl (fun h => ?_) (fun h => ?_)
  · replace hw := hw.1 h
    refine lv_iload hx hb dq_Md_usable_36 (lx_at hl 0 rfl) ?_
    exact tq_Md_usable_38 hC hw hG hS (lx_sub hl [2, 3, 4, 1] rfl) hcc hss
  · replace hw := hw.2 h
    refine lv_aload_n hx hb dq_Md_usable_26 rfl (lx_at hl 2 rfl) ?_
    refine lv_iload_n hx hb dq_Md_usable_27 rfl (lx_at hl 3 rfl) ?_
    refine lv_bipush (v := (109 : Int32)) hx hb dq_Md_usable_28 rfl ?_
    obtain ⟨t11, hw⟩ := hw
    obtain ⟨mc12, ms13, hc1, hs1, hw⟩ := hw
    refine va_calli (wo_runV hC lq_Md_352 (mq_Md_inPolicy hw) hG hS t11 rfl (lx_sz hl) rfl (Nat.zero_le _) (by decide) dq_Md_usable_30 ⟨hc1, hs1⟩) hS (fun _ _ h => h) (fun _ h => h) (fun v15 G14 t H locs ht hvm hw' hB _ _ hS => ?_)
    clear hw
    have hw := hw'
    clear hw'
    replace hG := wo_bk ht hB
    replace hcc := hc1
    replace hss := hs1
    refine lv_goto (tgt := 38) hx hb dq_Md_usable_33 rfl ?_
    exact tq_Md_usable_38 hC hw hG hS (lx_sub hl [2, 3, 4, 1] rfl) hcc hss
set_option maxHeartbeats 4000000 in
theorem mq_Md_usable {l : Launch} {E : wo_E} {mc ms : Nat} {Post : Int32 → wo_W → Prop} {G : wo_W} {x0 : Nat} {x1 : Int32} {x2 : Int32} (hw : pq_Md_usable E mc ms Post G x0 x1 x2) : Met l yq_Md_usable (Cond.code yq_Md_usable prog_14_method_47_code 6 ((Option.some Jvm.ClassFile.FieldType.boolean)) :: vw_WG) { frames := 4, cells := mc, slots := ms, locals := 96 } (va_Pc [.ref x0, .int x1, .int x2] (wo_Ok E G)) (va_Qi Post (wo_B E) (en_A E)) mc ms (en_A E) := by
  unfold pq_Md_usable at hw
  exact wo_met [(1, .ref x0), (1, .int x1), (1, .int x2)] rfl (by decide) (fun q hq => by simp only [List.mem_cons, List.not_mem_nil, or_false] at hq; rcases hq with rfl | rfl | rfl <;> first | rfl | exact lx_cR _) (Nat.le_of_ble_eq_true rfl) (fun p e R s m args below meth cd ls hC hG hS hl => tq_Md_usable_0 hC hw hG hS (lx_sub hl [0, 1, 2] rfl) (Nat.zero_le _) (Nat.zero_le _))

theorem dq_Md_handle_0 : decode prog_14_method_48_code 0 = .ok (.iconst (-1), 1) := by decide +kernel
theorem dq_Md_handle_1 : decode prog_14_method_48_code 1 = .ok (.istore_n 3, 1) := by decide +kernel
theorem dq_Md_handle_2 : decode prog_14_method_48_code 2 = .ok (.iconst 0, 1) := by decide +kernel
theorem dq_Md_handle_3 : decode prog_14_method_48_code 3 = .ok (.istore 4, 2) := by decide +kernel
theorem dq_Md_handle_5 : decode prog_14_method_48_code 5 = .ok (.iload 4, 2) := by decide +kernel
theorem dq_Md_handle_7 : decode prog_14_method_48_code 7 = .ok (.bipush 20, 2) := by decide +kernel
theorem dq_Md_handle_9 : decode prog_14_method_48_code 9 = .ok (.if_icmp .ge 38, 3) := by decide +kernel
theorem dq_Md_handle_12 : decode prog_14_method_48_code 12 = .ok (.aload_n 0, 1) := by decide +kernel
theorem dq_Md_handle_13 : decode prog_14_method_48_code 13 = .ok (.getfield 41, 3) := by decide +kernel
theorem dq_Md_handle_16 : decode prog_14_method_48_code 16 = .ok (.bipush 8, 2) := by decide +kernel
theorem dq_Md_handle_18 : decode prog_14_method_48_code 18 = .ok (.iaload, 1) := by decide +kernel
theorem dq_Md_handle_19 : decode prog_14_method_48_code 19 = .ok (.iconst 2, 1) := by decide +kernel
theorem dq_Md_handle_20 : decode prog_14_method_48_code 20 = .ok (.if_icmp .ge 27, 3) := by decide +kernel
theorem dq_Md_handle_23 : decode prog_14_method_48_code 23 = .ok (.aload_n 0, 1) := by decide +kernel
theorem dq_Md_handle_24 : decode prog_14_method_48_code 24 = .ok (.iload 4, 2) := by decide +kernel
theorem dq_Md_handle_26 : decode prog_14_method_48_code 26 = .ok (.bipush 8, 2) := by decide +kernel
theorem dq_Md_handle_28 : decode prog_14_method_48_code 28 = .ok (.invokevirtual 355, 3) := by decide +kernel
theorem dq_Md_handle_31 : decode prog_14_method_48_code 31 = .ok (.ifCond .eq 8, 3) := by decide +kernel
theorem dq_Md_handle_34 : decode prog_14_method_48_code 34 = .ok (.iload 4, 2) := by decide +kernel
theorem dq_Md_handle_36 : decode prog_14_method_48_code 36 = .ok (.goto 4, 3) := by decide +kernel
theorem dq_Md_handle_39 : decode prog_14_method_48_code 39 = .ok (.iload_n 3, 1) := by decide +kernel
theorem dq_Md_handle_40 : decode prog_14_method_48_code 40 = .ok (.istore_n 3, 1) := by decide +kernel
theorem dq_Md_handle_41 : decode prog_14_method_48_code 41 = .ok (.iinc 4 1, 3) := by decide +kernel
theorem dq_Md_handle_44 : decode prog_14_method_48_code 44 = .ok (.goto (-39), 3) := by decide +kernel
theorem dq_Md_handle_47 : decode prog_14_method_48_code 47 = .ok (.iload_n 3, 1) := by decide +kernel
theorem dq_Md_handle_48 : decode prog_14_method_48_code 48 = .ok (.ifCond .lt 58, 3) := by decide +kernel
theorem dq_Md_handle_51 : decode prog_14_method_48_code 51 = .ok (.aload_n 0, 1) := by decide +kernel
theorem dq_Md_handle_52 : decode prog_14_method_48_code 52 = .ok (.iload_n 3, 1) := by decide +kernel
theorem dq_Md_handle_53 : decode prog_14_method_48_code 53 = .ok (.bipush 8, 2) := by decide +kernel
theorem dq_Md_handle_55 : decode prog_14_method_48_code 55 = .ok (.invokevirtual 358, 3) := by decide +kernel
theorem dq_Md_handle_58 : decode prog_14_method_48_code 58 = .ok (.ifCond .eq 48, 3) := by decide +kernel
theorem dq_Md_handle_61 : decode prog_14_method_48_code 61 = .ok (.aload_n 0, 1) := by decide +kernel
theorem dq_Md_handle_62 : decode prog_14_method_48_code 62 = .ok (.bipush 8, 2) := by decide +kernel
theorem dq_Md_handle_64 : decode prog_14_method_48_code 64 = .ok (.iload_n 3, 1) := by decide +kernel
theorem dq_Md_handle_65 : decode prog_14_method_48_code 65 = .ok (.aload_n 0, 1) := by decide +kernel
theorem dq_Md_handle_66 : decode prog_14_method_48_code 66 = .ok (.getfield 349, 3) := by decide +kernel
theorem dq_Md_handle_69 : decode prog_14_method_48_code 69 = .ok (.aload_n 0, 1) := by decide +kernel
theorem dq_Md_handle_70 : decode prog_14_method_48_code 70 = .ok (.getfield 135, 3) := by decide +kernel
theorem dq_Md_handle_73 : decode prog_14_method_48_code 73 = .ok (.iload_n 3, 1) := by decide +kernel
theorem dq_Md_handle_74 : decode prog_14_method_48_code 74 = .ok (.iaload, 1) := by decide +kernel
theorem dq_Md_handle_75 : decode prog_14_method_48_code 75 = .ok (.isub, 1) := by decide +kernel
theorem dq_Md_handle_76 : decode prog_14_method_48_code 76 = .ok (.invokevirtual 343, 3) := by decide +kernel
theorem dq_Md_handle_79 : decode prog_14_method_48_code 79 = .ok (.aload_n 0, 1) := by decide +kernel
theorem dq_Md_handle_80 : decode prog_14_method_48_code 80 = .ok (.iload_n 1, 1) := by decide +kernel
theorem dq_Md_handle_81 : decode prog_14_method_48_code 81 = .ok (.iload_n 2, 1) := by decide +kernel
theorem dq_Md_handle_82 : decode prog_14_method_48_code 82 = .ok (.invokevirtual 193, 3) := by decide +kernel
theorem dq_Md_handle_85 : decode prog_14_method_48_code 85 = .ok (.aload_n 0, 1) := by decide +kernel
theorem dq_Md_handle_86 : decode prog_14_method_48_code 86 = .ok (.dup, 1) := by decide +kernel
theorem dq_Md_handle_87 : decode prog_14_method_48_code 87 = .ok (.getfield 361, 3) := by decide +kernel
theorem dq_Md_handle_90 : decode prog_14_method_48_code 90 = .ok (.iconst 1, 1) := by decide +kernel
theorem dq_Md_handle_91 : decode prog_14_method_48_code 91 = .ok (.iadd, 1) := by decide +kernel
theorem dq_Md_handle_92 : decode prog_14_method_48_code 92 = .ok (.putfield 361, 3) := by decide +kernel
theorem dq_Md_handle_95 : decode prog_14_method_48_code 95 = .ok (.aload_n 0, 1) := by decide +kernel
theorem dq_Md_handle_96 : decode prog_14_method_48_code 96 = .ok (.getfield 141, 3) := by decide +kernel
theorem dq_Md_handle_99 : decode prog_14_method_48_code 99 = .ok (.iload_n 3, 1) := by decide +kernel
theorem dq_Md_handle_100 : decode prog_14_method_48_code 100 = .ok (.aload_n 0, 1) := by decide +kernel
theorem dq_Md_handle_101 : decode prog_14_method_48_code 101 = .ok (.getfield 361, 3) := by decide +kernel
theorem dq_Md_handle_104 : decode prog_14_method_48_code 104 = .ok (.iastore, 1) := by decide +kernel
theorem dq_Md_handle_105 : decode prog_14_method_48_code 105 = .ok (.return_, 1) := by decide +kernel
theorem dq_Md_handle_106 : decode prog_14_method_48_code 106 = .ok (.iconst 0, 1) := by decide +kernel
theorem dq_Md_handle_107 : decode prog_14_method_48_code 107 = .ok (.istore 4, 2) := by decide +kernel
theorem dq_Md_handle_109 : decode prog_14_method_48_code 109 = .ok (.aload_n 0, 1) := by decide +kernel
theorem dq_Md_handle_110 : decode prog_14_method_48_code 110 = .ok (.getfield 69, 3) := by decide +kernel
theorem dq_Md_handle_113 : decode prog_14_method_48_code 113 = .ok (.iload 4, 2) := by decide +kernel
theorem dq_Md_handle_115 : decode prog_14_method_48_code 115 = .ok (.iaload, 1) := by decide +kernel
theorem dq_Md_handle_116 : decode prog_14_method_48_code 116 = .ok (.ifCond .eq 9, 3) := by decide +kernel
theorem dq_Md_handle_119 : decode prog_14_method_48_code 119 = .ok (.iinc 4 1, 3) := by decide +kernel
theorem dq_Md_handle_122 : decode prog_14_method_48_code 122 = .ok (.goto (-13), 3) := by decide +kernel
theorem dq_Md_handle_125 : decode prog_14_method_48_code 125 = .ok (.aload_n 0, 1) := by decide +kernel
theorem dq_Md_handle_126 : decode prog_14_method_48_code 126 = .ok (.getfield 41, 3) := by decide +kernel
theorem dq_Md_handle_129 : decode prog_14_method_48_code 129 = .ok (.iload 4, 2) := by decide +kernel
theorem dq_Md_handle_131 : decode prog_14_method_48_code 131 = .ok (.aload_n 0, 1) := by decide +kernel
theorem dq_Md_handle_132 : decode prog_14_method_48_code 132 = .ok (.getfield 41, 3) := by decide +kernel
theorem dq_Md_handle_135 : decode prog_14_method_48_code 135 = .ok (.bipush 8, 2) := by decide +kernel
theorem dq_Md_handle_137 : decode prog_14_method_48_code 137 = .ok (.iaload, 1) := by decide +kernel
theorem dq_Md_handle_138 : decode prog_14_method_48_code 138 = .ok (.iastore, 1) := by decide +kernel
theorem dq_Md_handle_139 : decode prog_14_method_48_code 139 = .ok (.aload_n 0, 1) := by decide +kernel
theorem dq_Md_handle_140 : decode prog_14_method_48_code 140 = .ok (.getfield 44, 3) := by decide +kernel
theorem dq_Md_handle_143 : decode prog_14_method_48_code 143 = .ok (.iload 4, 2) := by decide +kernel
theorem dq_Md_handle_145 : decode prog_14_method_48_code 145 = .ok (.aload_n 0, 1) := by decide +kernel
theorem dq_Md_handle_146 : decode prog_14_method_48_code 146 = .ok (.getfield 44, 3) := by decide +kernel
theorem dq_Md_handle_149 : decode prog_14_method_48_code 149 = .ok (.bipush 8, 2) := by decide +kernel
theorem dq_Md_handle_151 : decode prog_14_method_48_code 151 = .ok (.laload, 1) := by decide +kernel
theorem dq_Md_handle_152 : decode prog_14_method_48_code 152 = .ok (.lastore, 1) := by decide +kernel
theorem dq_Md_handle_153 : decode prog_14_method_48_code 153 = .ok (.aload_n 0, 1) := by decide +kernel
theorem dq_Md_handle_154 : decode prog_14_method_48_code 154 = .ok (.getfield 48, 3) := by decide +kernel
theorem dq_Md_handle_157 : decode prog_14_method_48_code 157 = .ok (.iload 4, 2) := by decide +kernel
theorem dq_Md_handle_159 : decode prog_14_method_48_code 159 = .ok (.aload_n 0, 1) := by decide +kernel
theorem dq_Md_handle_160 : decode prog_14_method_48_code 160 = .ok (.getfield 48, 3) := by decide +kernel
theorem dq_Md_handle_163 : decode prog_14_method_48_code 163 = .ok (.bipush 8, 2) := by decide +kernel
theorem dq_Md_handle_165 : decode prog_14_method_48_code 165 = .ok (.iaload, 1) := by decide +kernel
theorem dq_Md_handle_166 : decode prog_14_method_48_code 166 = .ok (.iastore, 1) := by decide +kernel
theorem dq_Md_handle_167 : decode prog_14_method_48_code 167 = .ok (.aload_n 0, 1) := by decide +kernel
theorem dq_Md_handle_168 : decode prog_14_method_48_code 168 = .ok (.getfield 57, 3) := by decide +kernel
theorem dq_Md_handle_171 : decode prog_14_method_48_code 171 = .ok (.iload 4, 2) := by decide +kernel
theorem dq_Md_handle_173 : decode prog_14_method_48_code 173 = .ok (.aload_n 0, 1) := by decide +kernel
theorem dq_Md_handle_174 : decode prog_14_method_48_code 174 = .ok (.getfield 57, 3) := by decide +kernel
theorem dq_Md_handle_177 : decode prog_14_method_48_code 177 = .ok (.bipush 8, 2) := by decide +kernel
theorem dq_Md_handle_179 : decode prog_14_method_48_code 179 = .ok (.laload, 1) := by decide +kernel
theorem dq_Md_handle_180 : decode prog_14_method_48_code 180 = .ok (.lastore, 1) := by decide +kernel
theorem dq_Md_handle_181 : decode prog_14_method_48_code 181 = .ok (.aload_n 0, 1) := by decide +kernel
theorem dq_Md_handle_182 : decode prog_14_method_48_code 182 = .ok (.getfield 60, 3) := by decide +kernel
theorem dq_Md_handle_185 : decode prog_14_method_48_code 185 = .ok (.iload 4, 2) := by decide +kernel
theorem dq_Md_handle_187 : decode prog_14_method_48_code 187 = .ok (.aload_n 0, 1) := by decide +kernel
theorem dq_Md_handle_188 : decode prog_14_method_48_code 188 = .ok (.getfield 60, 3) := by decide +kernel
theorem dq_Md_handle_191 : decode prog_14_method_48_code 191 = .ok (.bipush 8, 2) := by decide +kernel
theorem dq_Md_handle_193 : decode prog_14_method_48_code 193 = .ok (.iaload, 1) := by decide +kernel
theorem dq_Md_handle_194 : decode prog_14_method_48_code 194 = .ok (.iastore, 1) := by decide +kernel
theorem dq_Md_handle_195 : decode prog_14_method_48_code 195 = .ok (.iconst 0, 1) := by decide +kernel
theorem dq_Md_handle_196 : decode prog_14_method_48_code 196 = .ok (.istore 5, 2) := by decide +kernel
theorem dq_Md_handle_198 : decode prog_14_method_48_code 198 = .ok (.iload 5, 2) := by decide +kernel
theorem dq_Md_handle_200 : decode prog_14_method_48_code 200 = .ok (.bipush 8, 2) := by decide +kernel
theorem dq_Md_handle_202 : decode prog_14_method_48_code 202 = .ok (.if_icmp .ge 55, 3) := by decide +kernel
theorem dq_Md_handle_205 : decode prog_14_method_48_code 205 = .ok (.aload_n 0, 1) := by decide +kernel
theorem dq_Md_handle_206 : decode prog_14_method_48_code 206 = .ok (.getfield 51, 3) := by decide +kernel
theorem dq_Md_handle_209 : decode prog_14_method_48_code 209 = .ok (.bipush 8, 2) := by decide +kernel
theorem dq_Md_handle_211 : decode prog_14_method_48_code 211 = .ok (.iload 4, 2) := by decide +kernel
theorem dq_Md_handle_213 : decode prog_14_method_48_code 213 = .ok (.imul, 1) := by decide +kernel
theorem dq_Md_handle_214 : decode prog_14_method_48_code 214 = .ok (.iload 5, 2) := by decide +kernel
theorem dq_Md_handle_216 : decode prog_14_method_48_code 216 = .ok (.iadd, 1) := by decide +kernel
theorem dq_Md_handle_217 : decode prog_14_method_48_code 217 = .ok (.aload_n 0, 1) := by decide +kernel
theorem dq_Md_handle_218 : decode prog_14_method_48_code 218 = .ok (.getfield 51, 3) := by decide +kernel
theorem dq_Md_handle_221 : decode prog_14_method_48_code 221 = .ok (.bipush 64, 2) := by decide +kernel
theorem dq_Md_handle_223 : decode prog_14_method_48_code 223 = .ok (.iload 5, 2) := by decide +kernel
theorem dq_Md_handle_225 : decode prog_14_method_48_code 225 = .ok (.iadd, 1) := by decide +kernel
theorem dq_Md_handle_226 : decode prog_14_method_48_code 226 = .ok (.laload, 1) := by decide +kernel
theorem dq_Md_handle_227 : decode prog_14_method_48_code 227 = .ok (.lastore, 1) := by decide +kernel
theorem dq_Md_handle_228 : decode prog_14_method_48_code 228 = .ok (.aload_n 0, 1) := by decide +kernel
theorem dq_Md_handle_229 : decode prog_14_method_48_code 229 = .ok (.getfield 54, 3) := by decide +kernel
theorem dq_Md_handle_232 : decode prog_14_method_48_code 232 = .ok (.bipush 8, 2) := by decide +kernel
theorem dq_Md_handle_234 : decode prog_14_method_48_code 234 = .ok (.iload 4, 2) := by decide +kernel
theorem dq_Md_handle_236 : decode prog_14_method_48_code 236 = .ok (.imul, 1) := by decide +kernel
theorem dq_Md_handle_237 : decode prog_14_method_48_code 237 = .ok (.iload 5, 2) := by decide +kernel
theorem dq_Md_handle_239 : decode prog_14_method_48_code 239 = .ok (.iadd, 1) := by decide +kernel
theorem dq_Md_handle_240 : decode prog_14_method_48_code 240 = .ok (.aload_n 0, 1) := by decide +kernel
theorem dq_Md_handle_241 : decode prog_14_method_48_code 241 = .ok (.getfield 54, 3) := by decide +kernel
theorem dq_Md_handle_244 : decode prog_14_method_48_code 244 = .ok (.bipush 64, 2) := by decide +kernel
theorem dq_Md_handle_246 : decode prog_14_method_48_code 246 = .ok (.iload 5, 2) := by decide +kernel
theorem dq_Md_handle_248 : decode prog_14_method_48_code 248 = .ok (.iadd, 1) := by decide +kernel
theorem dq_Md_handle_249 : decode prog_14_method_48_code 249 = .ok (.iaload, 1) := by decide +kernel
theorem dq_Md_handle_250 : decode prog_14_method_48_code 250 = .ok (.iastore, 1) := by decide +kernel
theorem dq_Md_handle_251 : decode prog_14_method_48_code 251 = .ok (.iinc 5 1, 3) := by decide +kernel
theorem dq_Md_handle_254 : decode prog_14_method_48_code 254 = .ok (.goto (-56), 3) := by decide +kernel
theorem dq_Md_handle_257 : decode prog_14_method_48_code 257 = .ok (.aload_n 0, 1) := by decide +kernel
theorem dq_Md_handle_258 : decode prog_14_method_48_code 258 = .ok (.getfield 69, 3) := by decide +kernel
theorem dq_Md_handle_261 : decode prog_14_method_48_code 261 = .ok (.iload 4, 2) := by decide +kernel
theorem dq_Md_handle_263 : decode prog_14_method_48_code 263 = .ok (.iconst 1, 1) := by decide +kernel
theorem dq_Md_handle_264 : decode prog_14_method_48_code 264 = .ok (.iastore, 1) := by decide +kernel
theorem dq_Md_handle_265 : decode prog_14_method_48_code 265 = .ok (.aload_n 0, 1) := by decide +kernel
theorem dq_Md_handle_266 : decode prog_14_method_48_code 266 = .ok (.getfield 72, 3) := by decide +kernel
theorem dq_Md_handle_269 : decode prog_14_method_48_code 269 = .ok (.iload 4, 2) := by decide +kernel
theorem dq_Md_handle_271 : decode prog_14_method_48_code 271 = .ok (.iload_n 1, 1) := by decide +kernel
theorem dq_Md_handle_272 : decode prog_14_method_48_code 272 = .ok (.iastore, 1) := by decide +kernel
theorem dq_Md_handle_273 : decode prog_14_method_48_code 273 = .ok (.aload_n 0, 1) := by decide +kernel
theorem dq_Md_handle_274 : decode prog_14_method_48_code 274 = .ok (.getfield 75, 3) := by decide +kernel
theorem dq_Md_handle_277 : decode prog_14_method_48_code 277 = .ok (.iload 4, 2) := by decide +kernel
theorem dq_Md_handle_279 : decode prog_14_method_48_code 279 = .ok (.iload_n 2, 1) := by decide +kernel
theorem dq_Md_handle_280 : decode prog_14_method_48_code 280 = .ok (.iastore, 1) := by decide +kernel
theorem dq_Md_handle_281 : decode prog_14_method_48_code 281 = .ok (.aload_n 0, 1) := by decide +kernel
theorem dq_Md_handle_282 : decode prog_14_method_48_code 282 = .ok (.dup, 1) := by decide +kernel
theorem dq_Md_handle_283 : decode prog_14_method_48_code 283 = .ok (.getfield 364, 3) := by decide +kernel
theorem dq_Md_handle_286 : decode prog_14_method_48_code 286 = .ok (.iconst 1, 1) := by decide +kernel
theorem dq_Md_handle_287 : decode prog_14_method_48_code 287 = .ok (.iadd, 1) := by decide +kernel
theorem dq_Md_handle_288 : decode prog_14_method_48_code 288 = .ok (.putfield 364, 3) := by decide +kernel
theorem dq_Md_handle_291 : decode prog_14_method_48_code 291 = .ok (.aload_n 0, 1) := by decide +kernel
theorem dq_Md_handle_292 : decode prog_14_method_48_code 292 = .ok (.getfield 78, 3) := by decide +kernel
theorem dq_Md_handle_295 : decode prog_14_method_48_code 295 = .ok (.iload 4, 2) := by decide +kernel
theorem dq_Md_handle_297 : decode prog_14_method_48_code 297 = .ok (.aload_n 0, 1) := by decide +kernel
theorem dq_Md_handle_298 : decode prog_14_method_48_code 298 = .ok (.getfield 364, 3) := by decide +kernel
theorem dq_Md_handle_301 : decode prog_14_method_48_code 301 = .ok (.iastore, 1) := by decide +kernel
theorem dq_Md_handle_302 : decode prog_14_method_48_code 302 = .ok (.aload_n 0, 1) := by decide +kernel
theorem dq_Md_handle_303 : decode prog_14_method_48_code 303 = .ok (.getfield 90, 3) := by decide +kernel
theorem dq_Md_handle_306 : decode prog_14_method_48_code 306 = .ok (.iload 4, 2) := by decide +kernel
theorem dq_Md_handle_308 : decode prog_14_method_48_code 308 = .ok (.iconst 0, 1) := by decide +kernel
theorem dq_Md_handle_309 : decode prog_14_method_48_code 309 = .ok (.bastore, 1) := by decide +kernel
theorem dq_Md_handle_310 : decode prog_14_method_48_code 310 = .ok (.aload_n 0, 1) := by decide +kernel
theorem dq_Md_handle_311 : decode prog_14_method_48_code 311 = .ok (.getfield 87, 3) := by decide +kernel
theorem dq_Md_handle_314 : decode prog_14_method_48_code 314 = .ok (.iload 4, 2) := by decide +kernel
theorem dq_Md_handle_316 : decode prog_14_method_48_code 316 = .ok (.iload_n 3, 1) := by decide +kernel
theorem dq_Md_handle_317 : decode prog_14_method_48_code 317 = .ok (.ifCond .lt 7, 3) := by decide +kernel
theorem dq_Md_handle_320 : decode prog_14_method_48_code 320 = .ok (.iconst 1, 1) := by decide +kernel
theorem dq_Md_handle_321 : decode prog_14_method_48_code 321 = .ok (.goto 4, 3) := by decide +kernel
theorem dq_Md_handle_324 : decode prog_14_method_48_code 324 = .ok (.iconst 0, 1) := by decide +kernel
theorem dq_Md_handle_325 : decode prog_14_method_48_code 325 = .ok (.bastore, 1) := by decide +kernel
theorem dq_Md_handle_326 : decode prog_14_method_48_code 326 = .ok (.iload_n 3, 1) := by decide +kernel
theorem dq_Md_handle_327 : decode prog_14_method_48_code 327 = .ok (.ifCond .lt 13, 3) := by decide +kernel
theorem dq_Md_handle_330 : decode prog_14_method_48_code 330 = .ok (.aload_n 0, 1) := by decide +kernel
theorem dq_Md_handle_331 : decode prog_14_method_48_code 331 = .ok (.iload_n 3, 1) := by decide +kernel
theorem dq_Md_handle_332 : decode prog_14_method_48_code 332 = .ok (.bipush 20, 2) := by decide +kernel
theorem dq_Md_handle_334 : decode prog_14_method_48_code 334 = .ok (.iload 4, 2) := by decide +kernel
theorem dq_Md_handle_336 : decode prog_14_method_48_code 336 = .ok (.iadd, 1) := by decide +kernel
theorem dq_Md_handle_337 : decode prog_14_method_48_code 337 = .ok (.invokevirtual 367, 3) := by decide +kernel
theorem dq_Md_handle_340 : decode prog_14_method_48_code 340 = .ok (.aload_n 0, 1) := by decide +kernel
theorem dq_Md_handle_341 : decode prog_14_method_48_code 341 = .ok (.invokevirtual 370, 3) := by decide +kernel
theorem dq_Md_handle_344 : decode prog_14_method_48_code 344 = .ok (.return_, 1) := by decide +kernel
set_option maxRecDepth 100000 in
def pq_Md_handle_340 (E : wo_E) (mc ms : Nat) (Post : wo_W → Prop) (G : wo_W) (c s : Nat) (x0 : Nat) : Prop := wo_ty G x0 = 15 ∧ ∃ mc2 ms3 : Nat, (c + mc2) ≤ mc ∧ (s + ms3) ≤ ms ∧ pq_Md_send E mc2 ms3 (fun G4 => 
  Post G4) G x0
set_option maxRecDepth 100000 in
def pq_Md_handle_325 (E : wo_E) (mc ms : Nat) (Post : wo_W → Prop) (G : wo_W) (c s : Nat) (x0 : Nat) (x3 : Int32) (x4 : Int32) (y0 : Option Nat) (y1 : Int32) (y2 : Int32) : Prop := ∃ a1 : Nat, y0 = some a1 ∧ wo_ty G a1 = 72 ∧ vp_in y1 (wo_len G a1) ∧ en_bs E ≤ a1 ∧ ∀ G5 : wo_W, G5 = wo_sei G a1 y1.toNatClampNeg (vp_nar .boolean y2) → 
  ((x3 < (0 : Int32) → pq_Md_handle_340 E mc ms Post G5 c s x0) ∧
  (¬ x3 < (0 : Int32) → wo_ty G5 x0 = 15 ∧ ∃ mc8 ms9 : Nat, (c + mc8) ≤ mc ∧ (s + ms9) ≤ ms ∧ pq_Md_copy E mc8 ms9 (fun G10 => 
    pq_Md_handle_340 E mc ms Post G10 (c + mc8) (s + ms9) x0) G5 x0 x3 ((20 : Int32) + x4)))
set_option maxRecDepth 100000 in
def pq_Md_handle_302 (E : wo_E) (mc ms : Nat) (Post : wo_W → Prop) (G : wo_W) (c s : Nat) (x0 : Nat) (x3 : Int32) (x4 : Int32) : Prop := wo_ty G x0 = 15 ∧ ∀ r2 : Option Nat, r2 = wo_gr G 925 x0 → ∃ a4 : Nat, r2 = some a4 ∧ wo_ty G a4 = 72 ∧ vp_in x4 (wo_len G a4) ∧ en_bs E ≤ a4 ∧ ∀ G8 : wo_W, G8 = wo_sei G a4 x4.toNatClampNeg (vp_nar .boolean (0 : Int32)) → 
  ∀ r10 : Option Nat, r10 = wo_gr G8 924 x0 → ((x3 < (0 : Int32) → pq_Md_handle_325 E mc ms Post G8 c s x0 x3 x4 r10 x4 (0 : Int32)) ∧
  (¬ x3 < (0 : Int32) → pq_Md_handle_325 E mc ms Post G8 c s x0 x3 x4 r10 x4 (1 : Int32)))
set_option maxRecDepth 100000 in
def pq_Md_handle_198 (E : wo_E) (mc ms : Nat) (Post : wo_W → Prop) : Nat → wo_W → Nat → Nat → Nat → Int32 → Int32 → Int32 → Int32 → Int32 → Prop
  | 0 => fun _ _ _ _ _ _ _ _ _ => False
  | n + 1 => fun G c s x0 x1 x2 x3 x4 x5 => (((8 : Int32) ≤ x5 → wo_ty G x0 = 15 ∧ ∀ r2 : Option Nat, r2 = wo_gr G 918 x0 → ∃ a4 : Nat, r2 = some a4 ∧ wo_ty G a4 = 66 ∧ vp_in x4 (wo_len G a4) ∧ en_bs E ≤ a4 ∧ ∀ G8 : wo_W, G8 = wo_sei G a4 x4.toNatClampNeg (1 : Int32) → 
    ∀ r10 : Option Nat, r10 = wo_gr G8 919 x0 → ∃ a12 : Nat, r10 = some a12 ∧ wo_ty G8 a12 = 66 ∧ vp_in x4 (wo_len G8 a12) ∧ en_bs E ≤ a12 ∧ ∀ G16 : wo_W, G16 = wo_sei G8 a12 x4.toNatClampNeg x1 → 
    ∀ r18 : Option Nat, r18 = wo_gr G16 920 x0 → ∃ a20 : Nat, r18 = some a20 ∧ wo_ty G16 a20 = 66 ∧ vp_in x4 (wo_len G16 a20) ∧ en_bs E ≤ a20 ∧ ∀ G24 : wo_W, G24 = wo_sei G16 a20 x4.toNatClampNeg x2 → 
    en_bs E ≤ x0 ∧ ∀ G27 : wo_W, G27 = wo_si G24 928 x0 ((wo_gi G24 928 x0) + (1 : Int32)) → 
    ∀ r29 : Option Nat, r29 = wo_gr G27 921 x0 → ∃ a31 : Nat, r29 = some a31 ∧ wo_ty G27 a31 = 66 ∧ vp_in x4 (wo_len G27 a31) ∧ en_bs E ≤ a31 ∧ ∀ G35 : wo_W, G35 = wo_sei G27 a31 x4.toNatClampNeg (wo_gi G27 928 x0) → 
    pq_Md_handle_302 E mc ms Post G35 c s x0 x3 x4) ∧
  (¬ (8 : Int32) ≤ x5 → wo_ty G x0 = 15 ∧ ∀ r38 : Option Nat, r38 = wo_gr G 910 x0 → ∀ r40 : Option Nat, r40 = wo_gr G 910 x0 → ∃ a42 : Nat, r40 = some a42 ∧ wo_ty G a42 = 73 ∧ vp_in ((64 : Int32) + x5) (wo_len G a42) ∧ ∃ a45 : Nat, r38 = some a45 ∧ wo_ty G a45 = 73 ∧ vp_in (((8 : Int32) * x4) + x5) (wo_len G a45) ∧ en_bs E ≤ a45 ∧ ∀ G49 : wo_W, G49 = wo_sel G a45 (((8 : Int32) * x4) + x5).toNatClampNeg (wo_el G a42 ((64 : Int32) + x5).toNatClampNeg) → 
    ∀ r51 : Option Nat, r51 = wo_gr G49 911 x0 → ∀ r53 : Option Nat, r53 = wo_gr G49 911 x0 → ∃ a55 : Nat, r53 = some a55 ∧ wo_ty G49 a55 = 66 ∧ vp_in ((64 : Int32) + x5) (wo_len G49 a55) ∧ ∃ a58 : Nat, r51 = some a58 ∧ wo_ty G49 a58 = 66 ∧ vp_in (((8 : Int32) * x4) + x5) (wo_len G49 a58) ∧ en_bs E ≤ a58 ∧ ∀ G62 : wo_W, G62 = wo_sei G49 a58 (((8 : Int32) * x4) + x5).toNatClampNeg (wo_ei G49 a55 ((64 : Int32) + x5).toNatClampNeg) → 
    pq_Md_handle_198 E mc ms Post n G62 c s x0 x1 x2 x3 x4 (x5 + (1 : Int32))))
set_option maxRecDepth 100000 in
def pq_Md_handle_109 (E : wo_E) (mc ms : Nat) (Post : wo_W → Prop) : Nat → wo_W → Nat → Nat → Nat → Int32 → Int32 → Int32 → Int32 → Prop
  | 0 => fun _ _ _ _ _ _ _ _ => False
  | n + 1 => fun G c s x0 x1 x2 x3 x4 => wo_ty G x0 = 15 ∧ ∀ r2 : Option Nat, r2 = wo_gr G 918 x0 → ∃ a4 : Nat, r2 = some a4 ∧ wo_ty G a4 = 66 ∧ vp_in x4 (wo_len G a4) ∧ (((wo_ei G a4 x4.toNatClampNeg) = (0 : Int32) → ∀ r7 : Option Nat, r7 = wo_gr G 907 x0 → ∀ r9 : Option Nat, r9 = wo_gr G 907 x0 → ∃ a11 : Nat, r9 = some a11 ∧ wo_ty G a11 = 66 ∧ vp_in (8 : Int32) (wo_len G a11) ∧ ∃ a14 : Nat, r7 = some a14 ∧ wo_ty G a14 = 66 ∧ vp_in x4 (wo_len G a14) ∧ en_bs E ≤ a14 ∧ ∀ G18 : wo_W, G18 = wo_sei G a14 x4.toNatClampNeg (wo_ei G a11 (8 : Int32).toNatClampNeg) → 
    ∀ r20 : Option Nat, r20 = wo_gr G18 908 x0 → ∀ r22 : Option Nat, r22 = wo_gr G18 908 x0 → ∃ a24 : Nat, r22 = some a24 ∧ wo_ty G18 a24 = 73 ∧ vp_in (8 : Int32) (wo_len G18 a24) ∧ ∃ a27 : Nat, r20 = some a27 ∧ wo_ty G18 a27 = 73 ∧ vp_in x4 (wo_len G18 a27) ∧ en_bs E ≤ a27 ∧ ∀ G31 : wo_W, G31 = wo_sel G18 a27 x4.toNatClampNeg (wo_el G18 a24 (8 : Int32).toNatClampNeg) → 
    ∀ r33 : Option Nat, r33 = wo_gr G31 909 x0 → ∀ r35 : Option Nat, r35 = wo_gr G31 909 x0 → ∃ a37 : Nat, r35 = some a37 ∧ wo_ty G31 a37 = 66 ∧ vp_in (8 : Int32) (wo_len G31 a37) ∧ ∃ a40 : Nat, r33 = some a40 ∧ wo_ty G31 a40 = 66 ∧ vp_in x4 (wo_len G31 a40) ∧ en_bs E ≤ a40 ∧ ∀ G44 : wo_W, G44 = wo_sei G31 a40 x4.toNatClampNeg (wo_ei G31 a37 (8 : Int32).toNatClampNeg) → 
    ∀ r46 : Option Nat, r46 = wo_gr G44 912 x0 → ∀ r48 : Option Nat, r48 = wo_gr G44 912 x0 → ∃ a50 : Nat, r48 = some a50 ∧ wo_ty G44 a50 = 73 ∧ vp_in (8 : Int32) (wo_len G44 a50) ∧ ∃ a53 : Nat, r46 = some a53 ∧ wo_ty G44 a53 = 73 ∧ vp_in x4 (wo_len G44 a53) ∧ en_bs E ≤ a53 ∧ ∀ G57 : wo_W, G57 = wo_sel G44 a53 x4.toNatClampNeg (wo_el G44 a50 (8 : Int32).toNatClampNeg) → 
    ∀ r59 : Option Nat, r59 = wo_gr G57 913 x0 → ∀ r61 : Option Nat, r61 = wo_gr G57 913 x0 → ∃ a63 : Nat, r61 = some a63 ∧ wo_ty G57 a63 = 66 ∧ vp_in (8 : Int32) (wo_len G57 a63) ∧ ∃ a66 : Nat, r59 = some a66 ∧ wo_ty G57 a66 = 66 ∧ vp_in x4 (wo_len G57 a66) ∧ en_bs E ≤ a66 ∧ ∀ G70 : wo_W, G70 = wo_sei G57 a66 x4.toNatClampNeg (wo_ei G57 a63 (8 : Int32).toNatClampNeg) → 
    ∃ n1 : Nat, pq_Md_handle_198 E mc ms Post n1 G70 c s x0 x1 x2 x3 x4 (0 : Int32)) ∧
  (¬ (wo_ei G a4 x4.toNatClampNeg) = (0 : Int32) → pq_Md_handle_109 E mc ms Post n G c s x0 x1 x2 x3 (x4 + (1 : Int32))))
set_option maxRecDepth 100000 in
def pq_Md_handle_106 (E : wo_E) (mc ms : Nat) (Post : wo_W → Prop) (G : wo_W) (c s : Nat) (x0 : Nat) (x1 : Int32) (x2 : Int32) (x3 : Int32) : Prop := ∃ n1 : Nat, pq_Md_handle_109 E mc ms Post n1 G c s x0 x1 x2 x3 (0 : Int32)
set_option maxRecDepth 100000 in
def pq_Md_handle_47 (E : wo_E) (mc ms : Nat) (Post : wo_W → Prop) (G : wo_W) (c s : Nat) (x0 : Nat) (x1 : Int32) (x2 : Int32) (x3 : Int32) : Prop := ((x3 < (0 : Int32) → pq_Md_handle_106 E mc ms Post G c s x0 x1 x2 x3) ∧
  (¬ x3 < (0 : Int32) → wo_ty G x0 = 15 ∧ ∃ mc2 ms3 : Nat, (c + mc2) ≤ mc ∧ (s + ms3) ≤ ms ∧ pq_Md_usable E mc2 ms3 (fun v5 G4 => 
    ((v5 = (0 : Int32) → pq_Md_handle_106 E mc ms Post G4 (c + mc2) (s + ms3) x0 x1 x2 x3) ∧
      (¬ v5 = (0 : Int32) → wo_ty G4 x0 = 15 ∧ ∀ r7 : Option Nat, r7 = wo_gr G4 941 x0 → ∃ a9 : Nat, r7 = some a9 ∧ wo_ty G4 a9 = 66 ∧ vp_in x3 (wo_len G4 a9) ∧ ∃ mc12 ms13 : Nat, ((c + mc2) + mc12) ≤ mc ∧ ((s + ms3) + ms13) ≤ ms ∧ pq_Md_select E mc12 ms13 (fun G14 => 
        wo_ty G14 x0 = 15 ∧ ∃ mc16 ms17 : Nat, (((c + mc2) + mc12) + mc16) ≤ mc ∧ (((s + ms3) + ms13) + ms17) ≤ ms ∧ pq_Md_finish E mc16 ms17 (fun G18 => 
          wo_ty G18 x0 = 15 ∧ en_bs E ≤ x0 ∧ ∀ G21 : wo_W, G21 = wo_si G18 944 x0 ((wo_gi G18 944 x0) + (1 : Int32)) → 
            ∀ r23 : Option Nat, r23 = wo_gr G21 943 x0 → ∃ a25 : Nat, r23 = some a25 ∧ wo_ty G21 a25 = 66 ∧ vp_in x3 (wo_len G21 a25) ∧ en_bs E ≤ a25 ∧ ∀ G29 : wo_W, G29 = wo_sei G21 a25 x3.toNatClampNeg (wo_gi G21 944 x0) → 
            Post G29) G14 x0 x1 x2) G4 x0 (8 : Int32) x3 ((wo_gi G4 956 x0) - (wo_ei G4 a9 x3.toNatClampNeg))))) G x0 x3 (8 : Int32)))
set_option maxRecDepth 100000 in
def pq_Md_handle_40 (E : wo_E) (mc ms : Nat) (Post : wo_W → Prop) (k5 : wo_W → Nat → Nat → Nat → Int32 → Int32 → Int32 → Int32 → Prop) (G : wo_W) (c s : Nat) (x0 : Nat) (x1 : Int32) (x2 : Int32) (x4 : Int32) (y0 : Int32) : Prop := k5 G c s x0 x1 x2 y0 (x4 + (1 : Int32))
set_option maxRecDepth 100000 in
def pq_Md_handle_5 (E : wo_E) (mc ms : Nat) (Post : wo_W → Prop) : Nat → wo_W → Nat → Nat → Nat → Int32 → Int32 → Int32 → Int32 → Prop
  | 0 => fun _ _ _ _ _ _ _ _ => False
  | n + 1 => fun G c s x0 x1 x2 x3 x4 => (((20 : Int32) ≤ x4 → pq_Md_handle_47 E mc ms Post G c s x0 x1 x2 x3) ∧
  (¬ (20 : Int32) ≤ x4 → wo_ty G x0 = 15 ∧ ∀ r2 : Option Nat, r2 = wo_gr G 907 x0 → ∃ a4 : Nat, r2 = some a4 ∧ wo_ty G a4 = 66 ∧ vp_in (8 : Int32) (wo_len G a4) ∧ (((2 : Int32) ≤ (wo_ei G a4 (8 : Int32).toNatClampNeg) → pq_Md_handle_47 E mc ms Post G c s x0 x1 x2 x3) ∧
    (¬ (2 : Int32) ≤ (wo_ei G a4 (8 : Int32).toNatClampNeg) → ∃ mc7 ms8 : Nat, (c + mc7) ≤ mc ∧ (s + ms8) ≤ ms ∧ pq_Md_fits E mc7 ms8 (fun v10 G9 => 
      ((v10 = (0 : Int32) → pq_Md_handle_40 E mc ms Post (pq_Md_handle_5 E mc ms Post n) G9 (c + mc7) (s + ms8) x0 x1 x2 x4 x3) ∧
        (¬ v10 = (0 : Int32) → pq_Md_handle_40 E mc ms Post (pq_Md_handle_5 E mc ms Post n) G9 (c + mc7) (s + ms8) x0 x1 x2 x4 x4))) G x0 x4 (8 : Int32)))))
set_option maxRecDepth 100000 in
def pq_Md_handle_0 (E : wo_E) (mc ms : Nat) (Post : wo_W → Prop) (G : wo_W) (c s : Nat) (x0 : Nat) (x1 : Int32) (x2 : Int32) : Prop := ∃ n1 : Nat, pq_Md_handle_5 E mc ms Post n1 G c s x0 x1 x2 (-1 : Int32) (0 : Int32)
def pq_Md_handle (E : wo_E) (mc ms : Nat) (Post : wo_W → Prop) (G : wo_W) (x0 : Nat) (x1 : Int32) (x2 : Int32) : Prop := pq_Md_handle_0 E mc ms Post G 0 0 x0 x1 x2
set_option maxRecDepth 100000 in
set_option maxHeartbeats 4000000 in
theorem tq_Md_handle_340 {p : Program} {l : Launch} {e : Env} {R : Room} {s₀ : State} {m : MethodId} {args : Array Value} {below : List Frame} {meth : Method} {cd : Code} {E : wo_E} {mc ms : Nat} {Post : wo_W → Prop} (hC : wo_Cx E "EdgeCacheModel" prog_14_method_48_code 6 6 138 ((Option.none : Option Jvm.ClassFile.FieldType)) "handle" mc ms p R s₀ m args meth cd) : ∀ {G : wo_W} {c s : Nat} {x0 : Nat}, pq_Md_handle_340 E mc ms Post G c s x0 → ∀ {H : Heap} {locs : List Loc} {ls : Array Slot}, wo_Se E G H → va_S (en_A E) s₀.heap H locs → lx_has ls 6 [(0, 1, .ref x0)] → c ≤ mc → s ≤ ms → W p l e R s₀ m args below meth cd H locs c s (MQ below (va_Qv Post (wo_B E) (en_A E)) args s₀ mc ms (en_A E)) (F0 m 340 ls []) := by
  intro G c s x0 hw H locs ls hG hS hl hcc hss
  dsimp only [pq_Md_handle_340] at hw
  have hx := hC.1
  have hb := hC.2.1
  refine lv_aload_n hx hb dq_Md_handle_340 rfl (lx_at hl 0 rfl) ?_
  obtain ⟨t1, hw⟩ := hw
  obtain ⟨mc2, ms3, hc1, hs1, hw⟩ := hw
  refine va_callv (wo_runV hC lq_Md_370 (mq_Md_send hw) hG hS t1 rfl (lx_sz hl) rfl (Nat.zero_le _) (by decide) dq_Md_handle_341 ⟨hc1, hs1⟩) hS (fun _ _ h => h) (fun _ h => h) (fun G4 t H locs ht hvm hw' hB _ _ hS => ?_)
  clear hw
  have hw := hw'
  clear hw'
  replace hG := wo_bk ht hB
  replace hcc := hc1
  replace hss := hs1
  exact wo_vret hC hG hS hcc hss hw dq_Md_handle_344
set_option maxRecDepth 100000 in
set_option maxHeartbeats 4000000 in
theorem tq_Md_handle_325 {p : Program} {l : Launch} {e : Env} {R : Room} {s₀ : State} {m : MethodId} {args : Array Value} {below : List Frame} {meth : Method} {cd : Code} {E : wo_E} {mc ms : Nat} {Post : wo_W → Prop} (hC : wo_Cx E "EdgeCacheModel" prog_14_method_48_code 6 6 138 ((Option.none : Option Jvm.ClassFile.FieldType)) "handle" mc ms p R s₀ m args meth cd) : ∀ {G : wo_W} {c s : Nat} {x0 : Nat} {x3 : Int32} {x4 : Int32} {y0 : Option Nat} {y1 : Int32} {y2 : Int32}, pq_Md_handle_325 E mc ms Post G c s x0 x3 x4 y0 y1 y2 → ∀ {H : Heap} {locs : List Loc} {ls : Array Slot}, wo_Se E G H → va_S (en_A E) s₀.heap H locs → lx_has ls 6 [(0, 1, .ref x0), (3, 1, .int x3), (4, 1, .int x4)] → c ≤ mc → s ≤ ms → W p l e R s₀ m args below meth cd H locs c s (MQ below (va_Qv Post (wo_B E) (en_A E)) args s₀ mc ms (en_A E)) (F0 m 325 ls [.int y2, .int y1, va_rf y0]) := by
  intro G c s x0 x3 x4 y0 y1 y2 hw H locs ls hG hS hl hcc hss
  dsimp only [pq_Md_handle_325] at hw
  have hx := hC.1
  have hb := hC.2.1
  obtain ⟨a1, rfl, hw⟩ := hw
  obtain ⟨t2, hw⟩ := hw
  obtain ⟨h3, hw⟩ := hw
  obtain ⟨h4, hw⟩ := hw
  refine wo_zast (j := 8) hC rfl hG hS t2 h3 h4 dq_Md_handle_325 (fun G5 H locs e6 hG hS => ?_)
  replace hw := hw G5 e6
  refine lv_iload_n hx hb dq_Md_handle_326 rfl (lx_at hl 1 rfl) ?_
  refine lv_if_lt (tgt := 340) hx hb dq_Md_handle_327 rfl (fun h => ?_) (fun h => ?_)
  · replace hw := hw.1 h
    exact tq_Md_handle_340 hC hw hG hS (lx_sub hl [0] rfl) hcc hss
  · replace hw := hw.2 h
    refine lv_aload_n hx hb dq_Md_handle_330 rfl (lx_at hl 0 rfl) ?_
    refine lv_iload_n hx hb dq_Md_handle_331 rfl (lx_at hl 1 rfl) ?_
    refine lv_bipush (v := (20 : Int32)) hx hb dq_Md_handle_332 rfl ?_
    refine lv_iload hx hb dq_Md_handle_334 (lx_at hl 2 rfl) ?_
    refine lv_iadd hx hb dq_Md_handle_336 ?_
    obtain ⟨t7, hw⟩ := hw
    obtain ⟨mc8, ms9, hc1, hs1, hw⟩ := hw
    refine va_callv (wo_runV hC lq_Md_367 (mq_Md_copy hw) hG hS t7 rfl (lx_sz hl) rfl (Nat.zero_le _) (by decide) dq_Md_handle_337 ⟨hc1, hs1⟩) hS (fun _ _ h => h) (fun _ h => h) (fun G10 t H locs ht hvm hw' hB _ _ hS => ?_)
    clear hw
    have hw := hw'
    clear hw'
    replace hG := wo_bk ht hB
    replace hcc := hc1
    replace hss := hs1
    exact tq_Md_handle_340 hC hw hG hS (lx_sub hl [0] rfl) hcc hss
set_option maxRecDepth 100000 in
set_option maxHeartbeats 4000000 in
theorem tq_Md_handle_302 {p : Program} {l : Launch} {e : Env} {R : Room} {s₀ : State} {m : MethodId} {args : Array Value} {below : List Frame} {meth : Method} {cd : Code} {E : wo_E} {mc ms : Nat} {Post : wo_W → Prop} (hC : wo_Cx E "EdgeCacheModel" prog_14_method_48_code 6 6 138 ((Option.none : Option Jvm.ClassFile.FieldType)) "handle" mc ms p R s₀ m args meth cd) : ∀ {G : wo_W} {c s : Nat} {x0 : Nat} {x3 : Int32} {x4 : Int32}, pq_Md_handle_302 E mc ms Post G c s x0 x3 x4 → ∀ {H : Heap} {locs : List Loc} {ls : Array Slot}, wo_Se E G H → va_S (en_A E) s₀.heap H locs → lx_has ls 6 [(0, 1, .ref x0), (3, 1, .int x3), (4, 1, .int x4)] → c ≤ mc → s ≤ ms → W p l e R s₀ m args below meth cd H locs c s (MQ below (va_Qv Post (wo_B E) (en_A E)) args s₀ mc ms (en_A E)) (F0 m 302 ls []) := by
  intro G c s x0 x3 x4 hw H locs ls hG hS hl hcc hss
  dsimp only [pq_Md_handle_302] at hw
  have hx := hC.1
  have hb := hC.2.1
  refine lv_aload_n hx hb dq_Md_handle_302 rfl (lx_at hl 0 rfl) ?_
  obtain ⟨t1, hw⟩ := hw
  refine wo_getR hC fq_Md_90 rfl hG t1 dq_Md_handle_303 (fun r2 e3 => ?_)
  replace hw := hw r2 e3
  refine lv_iload hx hb dq_Md_handle_306 (lx_at hl 2 rfl) ?_
  refine lv_iconst (v := (0 : Int32)) hx hb dq_Md_handle_308 rfl ?_
  obtain ⟨a4, rfl, hw⟩ := hw
  obtain ⟨t5, hw⟩ := hw
  obtain ⟨h6, hw⟩ := hw
  obtain ⟨h7, hw⟩ := hw
  refine wo_zast (j := 8) hC rfl hG hS t5 h6 h7 dq_Md_handle_309 (fun G8 H locs e9 hG hS => ?_)
  replace hw := hw G8 e9
  refine lv_aload_n hx hb dq_Md_handle_310 rfl (lx_at hl 0 rfl) ?_
  refine wo_getR hC fq_Md_87 rfl hG (ty_sei e9 t1) dq_Md_handle_311 (fun r10 e11 => ?_)
  replace hw := hw r10 e11
  refine lv_iload hx hb dq_Md_handle_314 (lx_at hl 2 rfl) ?_
  refine lv_iload_n hx hb dq_Md_handle_316 rfl (lx_at hl 1 rfl) ?_
  refine lv_if_lt (tgt := 324) hx hb dq_Md_handle_317 rfl (fun h => ?_) (fun h => ?_)
  · replace hw := hw.1 h
    refine lv_iconst (v := (0 : Int32)) hx hb dq_Md_handle_324 rfl ?_
    exact tq_Md_handle_325 hC hw hG hS (lx_sub hl [0, 1, 2] rfl) hcc hss
  · replace hw := hw.2 h
    refine lv_iconst (v := (1 : Int32)) hx hb dq_Md_handle_320 rfl ?_
    refine lv_goto (tgt := 325) hx hb dq_Md_handle_321 rfl ?_
    exact tq_Md_handle_325 hC hw hG hS (lx_sub hl [0, 1, 2] rfl) hcc hss
set_option maxRecDepth 100000 in
set_option maxHeartbeats 4000000 in
theorem tq_Md_handle_198 {p : Program} {l : Launch} {e : Env} {R : Room} {s₀ : State} {m : MethodId} {args : Array Value} {below : List Frame} {meth : Method} {cd : Code} {E : wo_E} {mc ms : Nat} {Post : wo_W → Prop} (hC : wo_Cx E "EdgeCacheModel" prog_14_method_48_code 6 6 138 ((Option.none : Option Jvm.ClassFile.FieldType)) "handle" mc ms p R s₀ m args meth cd) : ∀ n : Nat, ∀ {G : wo_W} {c s : Nat} {x0 : Nat} {x1 : Int32} {x2 : Int32} {x3 : Int32} {x4 : Int32} {x5 : Int32}, pq_Md_handle_198 E mc ms Post n G c s x0 x1 x2 x3 x4 x5 → ∀ {H : Heap} {locs : List Loc} {ls : Array Slot}, wo_Se E G H → va_S (en_A E) s₀.heap H locs → lx_has ls 6 [(0, 1, .ref x0), (1, 1, .int x1), (2, 1, .int x2), (3, 1, .int x3), (4, 1, .int x4), (5, 1, .int x5)] → c ≤ mc → s ≤ ms → W p l e R s₀ m args below meth cd H locs c s (MQ below (va_Qv Post (wo_B E) (en_A E)) args s₀ mc ms (en_A E)) (F0 m 198 ls []) := by
  intro n
  induction n with
  | zero => intro G c s x0 x1 x2 x3 x4 x5 hw; exact hw.elim
  | succ n ih =>
    intro G c s x0 x1 x2 x3 x4 x5 hw H locs ls hG hS hl hcc hss
    dsimp only [pq_Md_handle_198] at hw
    have hx := hC.1
    have hb := hC.2.1
    refine lv_iload hx hb dq_Md_handle_198 (lx_at hl 5 rfl) ?_
    refine lv_bipush (v := (8 : Int32)) hx hb dq_Md_handle_200 rfl ?_
    refine lv_icmp_ge (tgt := 257) hx hb dq_Md_handle_202 rfl (fun h => ?_) (fun h => ?_)
    · replace hw := hw.1 h
      refine lv_aload_n hx hb dq_Md_handle_257 rfl (lx_at hl 0 rfl) ?_
      obtain ⟨t1, hw⟩ := hw
      refine wo_getR hC fq_Md_69 rfl hG t1 dq_Md_handle_258 (fun r2 e3 => ?_)
      replace hw := hw r2 e3
      refine lv_iload hx hb dq_Md_handle_261 (lx_at hl 4 rfl) ?_
      refine lv_iconst (v := (1 : Int32)) hx hb dq_Md_handle_263 rfl ?_
      obtain ⟨a4, rfl, hw⟩ := hw
      obtain ⟨t5, hw⟩ := hw
      obtain ⟨h6, hw⟩ := hw
      obtain ⟨h7, hw⟩ := hw
      refine wo_iast (j := 2) hC rfl hG hS t5 h6 h7 dq_Md_handle_264 (fun G8 H locs e9 hG hS => ?_)
      replace hw := hw G8 e9
      refine lv_aload_n hx hb dq_Md_handle_265 rfl (lx_at hl 0 rfl) ?_
      refine wo_getR hC fq_Md_72 rfl hG (ty_sei e9 t1) dq_Md_handle_266 (fun r10 e11 => ?_)
      replace hw := hw r10 e11
      refine lv_iload hx hb dq_Md_handle_269 (lx_at hl 4 rfl) ?_
      refine lv_iload_n hx hb dq_Md_handle_271 rfl (lx_at hl 1 rfl) ?_
      obtain ⟨a12, rfl, hw⟩ := hw
      obtain ⟨t13, hw⟩ := hw
      obtain ⟨h14, hw⟩ := hw
      obtain ⟨h15, hw⟩ := hw
      refine wo_iast (j := 2) hC rfl hG hS t13 h14 h15 dq_Md_handle_272 (fun G16 H locs e17 hG hS => ?_)
      replace hw := hw G16 e17
      refine lv_aload_n hx hb dq_Md_handle_273 rfl (lx_at hl 0 rfl) ?_
      refine wo_getR hC fq_Md_75 rfl hG (ty_sei e17 (ty_sei e9 t1)) dq_Md_handle_274 (fun r18 e19 => ?_)
      replace hw := hw r18 e19
      refine lv_iload hx hb dq_Md_handle_277 (lx_at hl 4 rfl) ?_
      refine lv_iload_n hx hb dq_Md_handle_279 rfl (lx_at hl 2 rfl) ?_
      obtain ⟨a20, rfl, hw⟩ := hw
      obtain ⟨t21, hw⟩ := hw
      obtain ⟨h22, hw⟩ := hw
      obtain ⟨h23, hw⟩ := hw
      refine wo_iast (j := 2) hC rfl hG hS t21 h22 h23 dq_Md_handle_280 (fun G24 H locs e25 hG hS => ?_)
      replace hw := hw G24 e25
      refine lv_aload_n hx hb dq_Md_handle_281 rfl (lx_at hl 0 rfl) ?_
      refine lv_dup hx hb dq_Md_handle_282 rfl ?_
      refine wo_getI hC fq_Md_364 rfl hG (ty_sei e25 (ty_sei e17 (ty_sei e9 t1))) dq_Md_handle_283 ?_
      refine lv_iconst (v := (1 : Int32)) hx hb dq_Md_handle_286 rfl ?_
      refine lv_iadd hx hb dq_Md_handle_287 ?_
      obtain ⟨h26, hw⟩ := hw
      refine wo_putI hC fq_Md_364 (Or.inl rfl) rfl (wo_ok_int _) hG hS (ty_sei e25 (ty_sei e17 (ty_sei e9 t1))) h26 dq_Md_handle_288 (fun G27 H locs e28 hG hS => ?_)
      replace hw := hw G27 e28
      refine lv_aload_n hx hb dq_Md_handle_291 rfl (lx_at hl 0 rfl) ?_
      refine wo_getR hC fq_Md_78 rfl hG (ty_si e28 (ty_sei e25 (ty_sei e17 (ty_sei e9 t1)))) dq_Md_handle_292 (fun r29 e30 => ?_)
      replace hw := hw r29 e30
      refine lv_iload hx hb dq_Md_handle_295 (lx_at hl 4 rfl) ?_
      refine lv_aload_n hx hb dq_Md_handle_297 rfl (lx_at hl 0 rfl) ?_
      refine wo_getI hC fq_Md_364 rfl hG (ty_si e28 (ty_sei e25 (ty_sei e17 (ty_sei e9 t1)))) dq_Md_handle_298 ?_
      obtain ⟨a31, rfl, hw⟩ := hw
      obtain ⟨t32, hw⟩ := hw
      obtain ⟨h33, hw⟩ := hw
      obtain ⟨h34, hw⟩ := hw
      refine wo_iast (j := 2) hC rfl hG hS t32 h33 h34 dq_Md_handle_301 (fun G35 H locs e36 hG hS => ?_)
      replace hw := hw G35 e36
      exact tq_Md_handle_302 hC hw hG hS (lx_sub hl [0, 3, 4] rfl) hcc hss
    · replace hw := hw.2 h
      refine lv_aload_n hx hb dq_Md_handle_205 rfl (lx_at hl 0 rfl) ?_
      obtain ⟨t37, hw⟩ := hw
      refine wo_getR hC fq_Md_51 rfl hG t37 dq_Md_handle_206 (fun r38 e39 => ?_)
      replace hw := hw r38 e39
      refine lv_bipush (v := (8 : Int32)) hx hb dq_Md_handle_209 rfl ?_
      refine lv_iload hx hb dq_Md_handle_211 (lx_at hl 4 rfl) ?_
      refine lv_imul hx hb dq_Md_handle_213 ?_
      refine lv_iload hx hb dq_Md_handle_214 (lx_at hl 5 rfl) ?_
      refine lv_iadd hx hb dq_Md_handle_216 ?_
      refine lv_aload_n hx hb dq_Md_handle_217 rfl (lx_at hl 0 rfl) ?_
      refine wo_getR hC fq_Md_51 rfl hG t37 dq_Md_handle_218 (fun r40 e41 => ?_)
      replace hw := hw r40 e41
      refine lv_bipush (v := (64 : Int32)) hx hb dq_Md_handle_221 rfl ?_
      refine lv_iload hx hb dq_Md_handle_223 (lx_at hl 5 rfl) ?_
      refine lv_iadd hx hb dq_Md_handle_225 ?_
      obtain ⟨a42, rfl, hw⟩ := hw
      obtain ⟨t43, hw⟩ := hw
      obtain ⟨h44, hw⟩ := hw
      refine wo_lald (j := 9) hC rfl hG t43 h44 dq_Md_handle_226 ?_
      obtain ⟨a45, rfl, hw⟩ := hw
      obtain ⟨t46, hw⟩ := hw
      obtain ⟨h47, hw⟩ := hw
      obtain ⟨h48, hw⟩ := hw
      refine wo_last (j := 9) hC rfl hG hS t46 h47 h48 dq_Md_handle_227 (fun G49 H locs e50 hG hS => ?_)
      replace hw := hw G49 e50
      refine lv_aload_n hx hb dq_Md_handle_228 rfl (lx_at hl 0 rfl) ?_
      refine wo_getR hC fq_Md_54 rfl hG (ty_sel e50 t37) dq_Md_handle_229 (fun r51 e52 => ?_)
      replace hw := hw r51 e52
      refine lv_bipush (v := (8 : Int32)) hx hb dq_Md_handle_232 rfl ?_
      refine lv_iload hx hb dq_Md_handle_234 (lx_at hl 4 rfl) ?_
      refine lv_imul hx hb dq_Md_handle_236 ?_
      refine lv_iload hx hb dq_Md_handle_237 (lx_at hl 5 rfl) ?_
      refine lv_iadd hx hb dq_Md_handle_239 ?_
      refine lv_aload_n hx hb dq_Md_handle_240 rfl (lx_at hl 0 rfl) ?_
      refine wo_getR hC fq_Md_54 rfl hG (ty_sel e50 t37) dq_Md_handle_241 (fun r53 e54 => ?_)
      replace hw := hw r53 e54
      refine lv_bipush (v := (64 : Int32)) hx hb dq_Md_handle_244 rfl ?_
      refine lv_iload hx hb dq_Md_handle_246 (lx_at hl 5 rfl) ?_
      refine lv_iadd hx hb dq_Md_handle_248 ?_
      obtain ⟨a55, rfl, hw⟩ := hw
      obtain ⟨t56, hw⟩ := hw
      obtain ⟨h57, hw⟩ := hw
      refine wo_iald (j := 2) hC rfl hG t56 h57 dq_Md_handle_249 ?_
      obtain ⟨a58, rfl, hw⟩ := hw
      obtain ⟨t59, hw⟩ := hw
      obtain ⟨h60, hw⟩ := hw
      obtain ⟨h61, hw⟩ := hw
      refine wo_iast (j := 2) hC rfl hG hS t59 h60 h61 dq_Md_handle_250 (fun G62 H locs e63 hG hS => ?_)
      replace hw := hw G62 e63
      refine lx_iinc (k := 5) (v := (x5 + (1 : Int32))) (lv' := [(5, 1, .int (x5 + (1 : Int32))), (0, 1, .ref x0), (1, 1, .int x1), (2, 1, .int x2), (3, 1, .int x3), (4, 1, .int x4)]) hx hb dq_Md_handle_251 hl rfl rfl (by decide) rfl (fun ls hl' => ?_)
      clear hl
      have hl := hl'
      clear hl'
      refine lv_goto (tgt := 198) hx hb dq_Md_handle_254 rfl ?_
      exact ih hw hG hS (lx_sub hl [1, 2, 3, 4, 5, 0] rfl) hcc hss
set_option maxRecDepth 100000 in
set_option maxHeartbeats 4000000 in
theorem tq_Md_handle_109 {p : Program} {l : Launch} {e : Env} {R : Room} {s₀ : State} {m : MethodId} {args : Array Value} {below : List Frame} {meth : Method} {cd : Code} {E : wo_E} {mc ms : Nat} {Post : wo_W → Prop} (hC : wo_Cx E "EdgeCacheModel" prog_14_method_48_code 6 6 138 ((Option.none : Option Jvm.ClassFile.FieldType)) "handle" mc ms p R s₀ m args meth cd) : ∀ n : Nat, ∀ {G : wo_W} {c s : Nat} {x0 : Nat} {x1 : Int32} {x2 : Int32} {x3 : Int32} {x4 : Int32}, pq_Md_handle_109 E mc ms Post n G c s x0 x1 x2 x3 x4 → ∀ {H : Heap} {locs : List Loc} {ls : Array Slot}, wo_Se E G H → va_S (en_A E) s₀.heap H locs → lx_has ls 6 [(0, 1, .ref x0), (1, 1, .int x1), (2, 1, .int x2), (3, 1, .int x3), (4, 1, .int x4)] → c ≤ mc → s ≤ ms → W p l e R s₀ m args below meth cd H locs c s (MQ below (va_Qv Post (wo_B E) (en_A E)) args s₀ mc ms (en_A E)) (F0 m 109 ls []) := by
  intro n
  induction n with
  | zero => intro G c s x0 x1 x2 x3 x4 hw; exact hw.elim
  | succ n ih =>
    intro G c s x0 x1 x2 x3 x4 hw H locs ls hG hS hl hcc hss
    dsimp only [pq_Md_handle_109] at hw
    have hx := hC.1
    have hb := hC.2.1
    refine lv_aload_n hx hb dq_Md_handle_109 rfl (lx_at hl 0 rfl) ?_
    obtain ⟨t1, hw⟩ := hw
    refine wo_getR hC fq_Md_69 rfl hG t1 dq_Md_handle_110 (fun r2 e3 => ?_)
    replace hw := hw r2 e3
    refine lv_iload hx hb dq_Md_handle_113 (lx_at hl 4 rfl) ?_
    obtain ⟨a4, rfl, hw⟩ := hw
    obtain ⟨t5, hw⟩ := hw
    obtain ⟨h6, hw⟩ := hw
    refine wo_iald (j := 2) hC rfl hG t5 h6 dq_Md_handle_115 ?_
    refine lv_if_eq (tgt := 125) hx hb dq_Md_handle_116 rfl (fun h => ?_) (fun h => ?_)
    · replace hw := hw.1 h
      refine lv_aload_n hx hb dq_Md_handle_125 rfl (lx_at hl 0 rfl) ?_
      refine wo_getR hC fq_Md_41 rfl hG t1 dq_Md_handle_126 (fun r7 e8 => ?_)
      replace hw := hw r7 e8
      refine lv_iload hx hb dq_Md_handle_129 (lx_at hl 4 rfl) ?_
      refine lv_aload_n hx hb dq_Md_handle_131 rfl (lx_at hl 0 rfl) ?_
      refine wo_getR hC fq_Md_41 rfl hG t1 dq_Md_handle_132 (fun r9 e10 => ?_)
      replace hw := hw r9 e10
      refine lv_bipush (v := (8 : Int32)) hx hb dq_Md_handle_135 rfl ?_
      obtain ⟨a11, rfl, hw⟩ := hw
      obtain ⟨t12, hw⟩ := hw
      obtain ⟨h13, hw⟩ := hw
      refine wo_iald (j := 2) hC rfl hG t12 h13 dq_Md_handle_137 ?_
      obtain ⟨a14, rfl, hw⟩ := hw
      obtain ⟨t15, hw⟩ := hw
      obtain ⟨h16, hw⟩ := hw
      obtain ⟨h17, hw⟩ := hw
      refine wo_iast (j := 2) hC rfl hG hS t15 h16 h17 dq_Md_handle_138 (fun G18 H locs e19 hG hS => ?_)
      replace hw := hw G18 e19
      refine lv_aload_n hx hb dq_Md_handle_139 rfl (lx_at hl 0 rfl) ?_
      refine wo_getR hC fq_Md_44 rfl hG (ty_sei e19 t1) dq_Md_handle_140 (fun r20 e21 => ?_)
      replace hw := hw r20 e21
      refine lv_iload hx hb dq_Md_handle_143 (lx_at hl 4 rfl) ?_
      refine lv_aload_n hx hb dq_Md_handle_145 rfl (lx_at hl 0 rfl) ?_
      refine wo_getR hC fq_Md_44 rfl hG (ty_sei e19 t1) dq_Md_handle_146 (fun r22 e23 => ?_)
      replace hw := hw r22 e23
      refine lv_bipush (v := (8 : Int32)) hx hb dq_Md_handle_149 rfl ?_
      obtain ⟨a24, rfl, hw⟩ := hw
      obtain ⟨t25, hw⟩ := hw
      obtain ⟨h26, hw⟩ := hw
      refine wo_lald (j := 9) hC rfl hG t25 h26 dq_Md_handle_151 ?_
      obtain ⟨a27, rfl, hw⟩ := hw
      obtain ⟨t28, hw⟩ := hw
      obtain ⟨h29, hw⟩ := hw
      obtain ⟨h30, hw⟩ := hw
      refine wo_last (j := 9) hC rfl hG hS t28 h29 h30 dq_Md_handle_152 (fun G31 H locs e32 hG hS => ?_)
      replace hw := hw G31 e32
      refine lv_aload_n hx hb dq_Md_handle_153 rfl (lx_at hl 0 rfl) ?_
      refine wo_getR hC fq_Md_48 rfl hG (ty_sel e32 (ty_sei e19 t1)) dq_Md_handle_154 (fun r33 e34 => ?_)
      replace hw := hw r33 e34
      refine lv_iload hx hb dq_Md_handle_157 (lx_at hl 4 rfl) ?_
      refine lv_aload_n hx hb dq_Md_handle_159 rfl (lx_at hl 0 rfl) ?_
      refine wo_getR hC fq_Md_48 rfl hG (ty_sel e32 (ty_sei e19 t1)) dq_Md_handle_160 (fun r35 e36 => ?_)
      replace hw := hw r35 e36
      refine lv_bipush (v := (8 : Int32)) hx hb dq_Md_handle_163 rfl ?_
      obtain ⟨a37, rfl, hw⟩ := hw
      obtain ⟨t38, hw⟩ := hw
      obtain ⟨h39, hw⟩ := hw
      refine wo_iald (j := 2) hC rfl hG t38 h39 dq_Md_handle_165 ?_
      obtain ⟨a40, rfl, hw⟩ := hw
      obtain ⟨t41, hw⟩ := hw
      obtain ⟨h42, hw⟩ := hw
      obtain ⟨h43, hw⟩ := hw
      refine wo_iast (j := 2) hC rfl hG hS t41 h42 h43 dq_Md_handle_166 (fun G44 H locs e45 hG hS => ?_)
      replace hw := hw G44 e45
      refine lv_aload_n hx hb dq_Md_handle_167 rfl (lx_at hl 0 rfl) ?_
      refine wo_getR hC fq_Md_57 rfl hG (ty_sei e45 (ty_sel e32 (ty_sei e19 t1))) dq_Md_handle_168 (fun r46 e47 => ?_)
      replace hw := hw r46 e47
      refine lv_iload hx hb dq_Md_handle_171 (lx_at hl 4 rfl) ?_
      refine lv_aload_n hx hb dq_Md_handle_173 rfl (lx_at hl 0 rfl) ?_
      refine wo_getR hC fq_Md_57 rfl hG (ty_sei e45 (ty_sel e32 (ty_sei e19 t1))) dq_Md_handle_174 (fun r48 e49 => ?_)
      replace hw := hw r48 e49
      refine lv_bipush (v := (8 : Int32)) hx hb dq_Md_handle_177 rfl ?_
      obtain ⟨a50, rfl, hw⟩ := hw
      obtain ⟨t51, hw⟩ := hw
      obtain ⟨h52, hw⟩ := hw
      refine wo_lald (j := 9) hC rfl hG t51 h52 dq_Md_handle_179 ?_
      obtain ⟨a53, rfl, hw⟩ := hw
      obtain ⟨t54, hw⟩ := hw
      obtain ⟨h55, hw⟩ := hw
      obtain ⟨h56, hw⟩ := hw
      refine wo_last (j := 9) hC rfl hG hS t54 h55 h56 dq_Md_handle_180 (fun G57 H locs e58 hG hS => ?_)
      replace hw := hw G57 e58
      refine lv_aload_n hx hb dq_Md_handle_181 rfl (lx_at hl 0 rfl) ?_
      refine wo_getR hC fq_Md_60 rfl hG (ty_sel e58 (ty_sei e45 (ty_sel e32 (ty_sei e19 t1)))) dq_Md_handle_182 (fun r59 e60 => ?_)
      replace hw := hw r59 e60
      refine lv_iload hx hb dq_Md_handle_185 (lx_at hl 4 rfl) ?_
      refine lv_aload_n hx hb dq_Md_handle_187 rfl (lx_at hl 0 rfl) ?_
      refine wo_getR hC fq_Md_60 rfl hG (ty_sel e58 (ty_sei e45 (ty_sel e32 (ty_sei e19 t1)))) dq_Md_handle_188 (fun r61 e62 => ?_)
      replace hw := hw r61 e62
      refine lv_bipush (v := (8 : Int32)) hx hb dq_Md_handle_191 rfl ?_
      obtain ⟨a63, rfl, hw⟩ := hw
      obtain ⟨t64, hw⟩ := hw
      obtain ⟨h65, hw⟩ := hw
      refine wo_iald (j := 2) hC rfl hG t64 h65 dq_Md_handle_193 ?_
      obtain ⟨a66, rfl, hw⟩ := hw
      obtain ⟨t67, hw⟩ := hw
      obtain ⟨h68, hw⟩ := hw
      obtain ⟨h69, hw⟩ := hw
      refine wo_iast (j := 2) hC rfl hG hS t67 h68 h69 dq_Md_handle_194 (fun G70 H locs e71 hG hS => ?_)
      replace hw := hw G70 e71
      refine lv_iconst (v := (0 : Int32)) hx hb dq_Md_handle_195 rfl ?_
      refine lx_istore (lv' := [(5, 1, .int (0 : Int32)), (0, 1, .ref x0), (1, 1, .int x1), (2, 1, .int x2), (3, 1, .int x3), (4, 1, .int x4)]) hx hb dq_Md_handle_196 hl (by decide) rfl (fun ls hl' => ?_)
      clear hl
      have hl := hl'
      clear hl'
      obtain ⟨n1, hw⟩ := hw
      exact tq_Md_handle_198 hC n1 hw hG hS (lx_sub hl [1, 2, 3, 4, 5, 0] rfl) hcc hss
    · replace hw := hw.2 h
      refine lx_iinc (k := 4) (v := (x4 + (1 : Int32))) (lv' := [(4, 1, .int (x4 + (1 : Int32))), (0, 1, .ref x0), (1, 1, .int x1), (2, 1, .int x2), (3, 1, .int x3)]) hx hb dq_Md_handle_119 hl rfl rfl (by decide) rfl (fun ls hl' => ?_)
      clear hl
      have hl := hl'
      clear hl'
      refine lv_goto (tgt := 109) hx hb dq_Md_handle_122 rfl ?_
      exact ih hw hG hS (lx_sub hl [1, 2, 3, 4, 0] rfl) hcc hss
set_option maxRecDepth 100000 in
set_option maxHeartbeats 4000000 in
theorem tq_Md_handle_106 {p : Program} {l : Launch} {e : Env} {R : Room} {s₀ : State} {m : MethodId} {args : Array Value} {below : List Frame} {meth : Method} {cd : Code} {E : wo_E} {mc ms : Nat} {Post : wo_W → Prop} (hC : wo_Cx E "EdgeCacheModel" prog_14_method_48_code 6 6 138 ((Option.none : Option Jvm.ClassFile.FieldType)) "handle" mc ms p R s₀ m args meth cd) : ∀ {G : wo_W} {c s : Nat} {x0 : Nat} {x1 : Int32} {x2 : Int32} {x3 : Int32}, pq_Md_handle_106 E mc ms Post G c s x0 x1 x2 x3 → ∀ {H : Heap} {locs : List Loc} {ls : Array Slot}, wo_Se E G H → va_S (en_A E) s₀.heap H locs → lx_has ls 6 [(0, 1, .ref x0), (1, 1, .int x1), (2, 1, .int x2), (3, 1, .int x3)] → c ≤ mc → s ≤ ms → W p l e R s₀ m args below meth cd H locs c s (MQ below (va_Qv Post (wo_B E) (en_A E)) args s₀ mc ms (en_A E)) (F0 m 106 ls []) := by
  intro G c s x0 x1 x2 x3 hw H locs ls hG hS hl hcc hss
  dsimp only [pq_Md_handle_106] at hw
  have hx := hC.1
  have hb := hC.2.1
  refine lv_iconst (v := (0 : Int32)) hx hb dq_Md_handle_106 rfl ?_
  refine lx_istore (lv' := [(4, 1, .int (0 : Int32)), (0, 1, .ref x0), (1, 1, .int x1), (2, 1, .int x2), (3, 1, .int x3)]) hx hb dq_Md_handle_107 hl (by decide) rfl (fun ls hl' => ?_)
  clear hl
  have hl := hl'
  clear hl'
  obtain ⟨n1, hw⟩ := hw
  exact tq_Md_handle_109 hC n1 hw hG hS (lx_sub hl [1, 2, 3, 4, 0] rfl) hcc hss
set_option maxRecDepth 100000 in
set_option maxHeartbeats 4000000 in
theorem tq_Md_handle_47 {p : Program} {l : Launch} {e : Env} {R : Room} {s₀ : State} {m : MethodId} {args : Array Value} {below : List Frame} {meth : Method} {cd : Code} {E : wo_E} {mc ms : Nat} {Post : wo_W → Prop} (hC : wo_Cx E "EdgeCacheModel" prog_14_method_48_code 6 6 138 ((Option.none : Option Jvm.ClassFile.FieldType)) "handle" mc ms p R s₀ m args meth cd) : ∀ {G : wo_W} {c s : Nat} {x0 : Nat} {x1 : Int32} {x2 : Int32} {x3 : Int32}, pq_Md_handle_47 E mc ms Post G c s x0 x1 x2 x3 → ∀ {H : Heap} {locs : List Loc} {ls : Array Slot}, wo_Se E G H → va_S (en_A E) s₀.heap H locs → lx_has ls 6 [(0, 1, .ref x0), (1, 1, .int x1), (2, 1, .int x2), (3, 1, .int x3)] → c ≤ mc → s ≤ ms → W p l e R s₀ m args below meth cd H locs c s (MQ below (va_Qv Post (wo_B E) (en_A E)) args s₀ mc ms (en_A E)) (F0 m 47 ls []) := by
  intro G c s x0 x1 x2 x3 hw H locs ls hG hS hl hcc hss
  dsimp only [pq_Md_handle_47] at hw
  have hx := hC.1
  have hb := hC.2.1
  refine lv_iload_n hx hb dq_Md_handle_47 rfl (lx_at hl 3 rfl) ?_
  refine lv_if_lt (tgt := 106) hx hb dq_Md_handle_48 rfl (fun h => ?_) (fun h => ?_)
  · replace hw := hw.1 h
    exact tq_Md_handle_106 hC hw hG hS (lx_sub hl [0, 1, 2, 3] rfl) hcc hss
  · replace hw := hw.2 h
    refine lv_aload_n hx hb dq_Md_handle_51 rfl (lx_at hl 0 rfl) ?_
    refine lv_iload_n hx hb dq_Md_handle_52 rfl (lx_at hl 3 rfl) ?_
    refine lv_bipush (v := (8 : Int32)) hx hb dq_Md_handle_53 rfl ?_
    obtain ⟨t1, hw⟩ := hw
    obtain ⟨mc2, ms3, hc1, hs1, hw⟩ := hw
    refine va_calli (wo_runV hC lq_Md_358 (mq_Md_usable hw) hG hS t1 rfl (lx_sz hl) rfl (Nat.zero_le _) (by decide) dq_Md_handle_55 ⟨hc1, hs1⟩) hS (fun _ _ h => h) (fun _ h => h) (fun v5 G4 t H locs ht hvm hw' hB _ _ hS => ?_)
    clear hw
    have hw := hw'
    clear hw'
    replace hG := wo_bk ht hB
    replace hcc := hc1
    replace hss := hs1
    refine lv_if_eq (tgt := 106) hx hb dq_Md_handle_58 rfl (fun h => ?_) (fun h => ?_)
    · replace hw := hw.1 h
      exact tq_Md_handle_106 hC hw hG hS (lx_sub hl [0, 1, 2, 3] rfl) hcc hss
    · replace hw := hw.2 h
      refine lv_aload_n hx hb dq_Md_handle_61 rfl (lx_at hl 0 rfl) ?_
      refine lv_bipush (v := (8 : Int32)) hx hb dq_Md_handle_62 rfl ?_
      refine lv_iload_n hx hb dq_Md_handle_64 rfl (lx_at hl 3 rfl) ?_
      refine lv_aload_n hx hb dq_Md_handle_65 rfl (lx_at hl 0 rfl) ?_
      obtain ⟨t6, hw⟩ := hw
      refine wo_getI hC fq_Md_349 rfl hG t6 dq_Md_handle_66 ?_
      refine lv_aload_n hx hb dq_Md_handle_69 rfl (lx_at hl 0 rfl) ?_
      refine wo_getR hC fq_Md_135 rfl hG t6 dq_Md_handle_70 (fun r7 e8 => ?_)
      replace hw := hw r7 e8
      refine lv_iload_n hx hb dq_Md_handle_73 rfl (lx_at hl 3 rfl) ?_
      obtain ⟨a9, rfl, hw⟩ := hw
      obtain ⟨t10, hw⟩ := hw
      obtain ⟨h11, hw⟩ := hw
      refine wo_iald (j := 2) hC rfl hG t10 h11 dq_Md_handle_74 ?_
      refine lv_isub hx hb dq_Md_handle_75 ?_
      obtain ⟨mc12, ms13, hc1, hs1, hw⟩ := hw
      refine va_callv (wo_runV hC lq_Md_343 (mq_Md_select hw) hG hS t6 rfl (lx_sz hl) rfl (Nat.zero_le _) (by decide) dq_Md_handle_76 ⟨hc1, hs1⟩) hS (fun _ _ h => h) (fun _ h => h) (fun G14 t H locs ht hvm hw' hB _ _ hS => ?_)
      clear hw
      have hw := hw'
      clear hw'
      replace hG := wo_bk ht hB
      replace hcc := hc1
      replace hss := hs1
      refine lv_aload_n hx hb dq_Md_handle_79 rfl (lx_at hl 0 rfl) ?_
      refine lv_iload_n hx hb dq_Md_handle_80 rfl (lx_at hl 1 rfl) ?_
      refine lv_iload_n hx hb dq_Md_handle_81 rfl (lx_at hl 2 rfl) ?_
      obtain ⟨t15, hw⟩ := hw
      obtain ⟨mc16, ms17, hc1, hs1, hw⟩ := hw
      refine va_callv (wo_runV hC lq_Md_193 (mq_Md_finish hw) hG hS t15 rfl (lx_sz hl) rfl (Nat.zero_le _) (by decide) dq_Md_handle_82 ⟨hc1, hs1⟩) hS (fun _ _ h => h) (fun _ h => h) (fun G18 t H locs ht hvm hw' hB _ _ hS => ?_)
      clear hw
      have hw := hw'
      clear hw'
      replace hG := wo_bk ht hB
      replace hcc := hc1
      replace hss := hs1
      refine lv_aload_n hx hb dq_Md_handle_85 rfl (lx_at hl 0 rfl) ?_
      refine lv_dup hx hb dq_Md_handle_86 rfl ?_
      obtain ⟨t19, hw⟩ := hw
      refine wo_getI hC fq_Md_361 rfl hG t19 dq_Md_handle_87 ?_
      refine lv_iconst (v := (1 : Int32)) hx hb dq_Md_handle_90 rfl ?_
      refine lv_iadd hx hb dq_Md_handle_91 ?_
      obtain ⟨h20, hw⟩ := hw
      refine wo_putI hC fq_Md_361 (Or.inl rfl) rfl (wo_ok_int _) hG hS t19 h20 dq_Md_handle_92 (fun G21 H locs e22 hG hS => ?_)
      replace hw := hw G21 e22
      refine lv_aload_n hx hb dq_Md_handle_95 rfl (lx_at hl 0 rfl) ?_
      refine wo_getR hC fq_Md_141 rfl hG (ty_si e22 t19) dq_Md_handle_96 (fun r23 e24 => ?_)
      replace hw := hw r23 e24
      refine lv_iload_n hx hb dq_Md_handle_99 rfl (lx_at hl 3 rfl) ?_
      refine lv_aload_n hx hb dq_Md_handle_100 rfl (lx_at hl 0 rfl) ?_
      refine wo_getI hC fq_Md_361 rfl hG (ty_si e22 t19) dq_Md_handle_101 ?_
      obtain ⟨a25, rfl, hw⟩ := hw
      obtain ⟨t26, hw⟩ := hw
      obtain ⟨h27, hw⟩ := hw
      obtain ⟨h28, hw⟩ := hw
      refine wo_iast (j := 2) hC rfl hG hS t26 h27 h28 dq_Md_handle_104 (fun G29 H locs e30 hG hS => ?_)
      replace hw := hw G29 e30
      exact wo_vret hC hG hS hcc hss hw dq_Md_handle_105
set_option maxRecDepth 100000 in
set_option maxHeartbeats 4000000 in
theorem tq_Md_handle_40 {p : Program} {l : Launch} {e : Env} {R : Room} {s₀ : State} {m : MethodId} {args : Array Value} {below : List Frame} {meth : Method} {cd : Code} {E : wo_E} {mc ms : Nat} {Post : wo_W → Prop} {k5 : wo_W → Nat → Nat → Nat → Int32 → Int32 → Int32 → Int32 → Prop} (hC : wo_Cx E "EdgeCacheModel" prog_14_method_48_code 6 6 138 ((Option.none : Option Jvm.ClassFile.FieldType)) "handle" mc ms p R s₀ m args meth cd) (hk5 : ∀ {G : wo_W} {c s : Nat} {x0 : Nat} {x1 : Int32} {x2 : Int32} {x3 : Int32} {x4 : Int32}, k5 G c s x0 x1 x2 x3 x4 → ∀ {H : Heap} {locs : List Loc} {ls : Array Slot}, wo_Se E G H → va_S (en_A E) s₀.heap H locs → lx_has ls 6 [(0, 1, .ref x0), (1, 1, .int x1), (2, 1, .int x2), (3, 1, .int x3), (4, 1, .int x4)] → c ≤ mc → s ≤ ms → W p l e R s₀ m args below meth cd H locs c s (MQ below (va_Qv Post (wo_B E) (en_A E)) args s₀ mc ms (en_A E)) (F0 m 5 ls [])) : ∀ {G : wo_W} {c s : Nat} {x0 : Nat} {x1 : Int32} {x2 : Int32} {x4 : Int32} {y0 : Int32}, pq_Md_handle_40 E mc ms Post k5 G c s x0 x1 x2 x4 y0 → ∀ {H : Heap} {locs : List Loc} {ls : Array Slot}, wo_Se E G H → va_S (en_A E) s₀.heap H locs → lx_has ls 6 [(0, 1, .ref x0), (1, 1, .int x1), (2, 1, .int x2), (4, 1, .int x4)] → c ≤ mc → s ≤ ms → W p l e R s₀ m args below meth cd H locs c s (MQ below (va_Qv Post (wo_B E) (en_A E)) args s₀ mc ms (en_A E)) (F0 m 40 ls [.int y0]) := by
  intro G c s x0 x1 x2 x4 y0 hw H locs ls hG hS hl hcc hss
  dsimp only [pq_Md_handle_40] at hw
  have hx := hC.1
  have hb := hC.2.1
  refine lx_istore_n (lv' := [(3, 1, .int y0), (0, 1, .ref x0), (1, 1, .int x1), (2, 1, .int x2), (4, 1, .int x4)]) hx hb dq_Md_handle_40 rfl hl (by decide) rfl (fun ls hl' => ?_)
  clear hl
  have hl := hl'
  clear hl'
  refine lx_iinc (k := 4) (v := (x4 + (1 : Int32))) (lv' := [(4, 1, .int (x4 + (1 : Int32))), (3, 1, .int y0), (0, 1, .ref x0), (1, 1, .int x1), (2, 1, .int x2)]) hx hb dq_Md_handle_41 hl rfl rfl (by decide) rfl (fun ls hl' => ?_)
  clear hl
  have hl := hl'
  clear hl'
  refine lv_goto (tgt := 5) hx hb dq_Md_handle_44 rfl ?_
  exact hk5 hw hG hS (lx_sub hl [2, 3, 4, 1, 0] rfl) hcc hss
set_option maxRecDepth 100000 in
set_option maxHeartbeats 4000000 in
theorem tq_Md_handle_5 {p : Program} {l : Launch} {e : Env} {R : Room} {s₀ : State} {m : MethodId} {args : Array Value} {below : List Frame} {meth : Method} {cd : Code} {E : wo_E} {mc ms : Nat} {Post : wo_W → Prop} (hC : wo_Cx E "EdgeCacheModel" prog_14_method_48_code 6 6 138 ((Option.none : Option Jvm.ClassFile.FieldType)) "handle" mc ms p R s₀ m args meth cd) : ∀ n : Nat, ∀ {G : wo_W} {c s : Nat} {x0 : Nat} {x1 : Int32} {x2 : Int32} {x3 : Int32} {x4 : Int32}, pq_Md_handle_5 E mc ms Post n G c s x0 x1 x2 x3 x4 → ∀ {H : Heap} {locs : List Loc} {ls : Array Slot}, wo_Se E G H → va_S (en_A E) s₀.heap H locs → lx_has ls 6 [(0, 1, .ref x0), (1, 1, .int x1), (2, 1, .int x2), (3, 1, .int x3), (4, 1, .int x4)] → c ≤ mc → s ≤ ms → W p l e R s₀ m args below meth cd H locs c s (MQ below (va_Qv Post (wo_B E) (en_A E)) args s₀ mc ms (en_A E)) (F0 m 5 ls []) := by
  intro n
  induction n with
  | zero => intro G c s x0 x1 x2 x3 x4 hw; exact hw.elim
  | succ n ih =>
    intro G c s x0 x1 x2 x3 x4 hw H locs ls hG hS hl hcc hss
    dsimp only [pq_Md_handle_5] at hw
    have hx := hC.1
    have hb := hC.2.1
    refine lv_iload hx hb dq_Md_handle_5 (lx_at hl 4 rfl) ?_
    refine lv_bipush (v := (20 : Int32)) hx hb dq_Md_handle_7 rfl ?_
    refine lv_icmp_ge (tgt := 47) hx hb dq_Md_handle_9 rfl (fun h => ?_) (fun h => ?_)
    · replace hw := hw.1 h
      exact tq_Md_handle_47 hC hw hG hS (lx_sub hl [0, 1, 2, 3] rfl) hcc hss
    · replace hw := hw.2 h
      refine lv_aload_n hx hb dq_Md_handle_12 rfl (lx_at hl 0 rfl) ?_
      obtain ⟨t1, hw⟩ := hw
      refine wo_getR hC fq_Md_41 rfl hG t1 dq_Md_handle_13 (fun r2 e3 => ?_)
      replace hw := hw r2 e3
      refine lv_bipush (v := (8 : Int32)) hx hb dq_Md_handle_16 rfl ?_
      obtain ⟨a4, rfl, hw⟩ := hw
      obtain ⟨t5, hw⟩ := hw
      obtain ⟨h6, hw⟩ := hw
      refine wo_iald (j := 2) hC rfl hG t5 h6 dq_Md_handle_18 ?_
      refine lv_iconst (v := (2 : Int32)) hx hb dq_Md_handle_19 rfl ?_
      refine lv_icmp_ge (tgt := 47) hx hb dq_Md_handle_20 rfl (fun h => ?_) (fun h => ?_)
      · replace hw := hw.1 h
        exact tq_Md_handle_47 hC hw hG hS (lx_sub hl [0, 1, 2, 3] rfl) hcc hss
      · replace hw := hw.2 h
        refine lv_aload_n hx hb dq_Md_handle_23 rfl (lx_at hl 0 rfl) ?_
        refine lv_iload hx hb dq_Md_handle_24 (lx_at hl 4 rfl) ?_
        refine lv_bipush (v := (8 : Int32)) hx hb dq_Md_handle_26 rfl ?_
        obtain ⟨mc7, ms8, hc1, hs1, hw⟩ := hw
        refine va_calli (wo_runV hC lq_Md_355 (mq_Md_fits hw) hG hS t1 rfl (lx_sz hl) rfl (Nat.zero_le _) (by decide) dq_Md_handle_28 ⟨hc1, hs1⟩) hS (fun _ _ h => h) (fun _ h => h) (fun v10 G9 t H locs ht hvm hw' hB _ _ hS => ?_)
        clear hw
        have hw := hw'
        clear hw'
        replace hG := wo_bk ht hB
        replace hcc := hc1
        replace hss := hs1
        refine lv_if_eq (tgt := 39) hx hb dq_Md_handle_31 rfl (fun h => ?_) (fun h => ?_)
        · replace hw := hw.1 h
          refine lv_iload_n hx hb dq_Md_handle_39 rfl (lx_at hl 3 rfl) ?_
          exact tq_Md_handle_40 hC ih hw hG hS (lx_sub hl [0, 1, 2, 4] rfl) hcc hss
        · replace hw := hw.2 h
          refine lv_iload hx hb dq_Md_handle_34 (lx_at hl 4 rfl) ?_
          refine lv_goto (tgt := 40) hx hb dq_Md_handle_36 rfl ?_
          exact tq_Md_handle_40 hC ih hw hG hS (lx_sub hl [0, 1, 2, 4] rfl) hcc hss
set_option maxRecDepth 100000 in
set_option maxHeartbeats 4000000 in
theorem tq_Md_handle_0 {p : Program} {l : Launch} {e : Env} {R : Room} {s₀ : State} {m : MethodId} {args : Array Value} {below : List Frame} {meth : Method} {cd : Code} {E : wo_E} {mc ms : Nat} {Post : wo_W → Prop} (hC : wo_Cx E "EdgeCacheModel" prog_14_method_48_code 6 6 138 ((Option.none : Option Jvm.ClassFile.FieldType)) "handle" mc ms p R s₀ m args meth cd) : ∀ {G : wo_W} {c s : Nat} {x0 : Nat} {x1 : Int32} {x2 : Int32}, pq_Md_handle_0 E mc ms Post G c s x0 x1 x2 → ∀ {H : Heap} {locs : List Loc} {ls : Array Slot}, wo_Se E G H → va_S (en_A E) s₀.heap H locs → lx_has ls 6 [(0, 1, .ref x0), (1, 1, .int x1), (2, 1, .int x2)] → c ≤ mc → s ≤ ms → W p l e R s₀ m args below meth cd H locs c s (MQ below (va_Qv Post (wo_B E) (en_A E)) args s₀ mc ms (en_A E)) (F0 m 0 ls []) := by
  intro G c s x0 x1 x2 hw H locs ls hG hS hl hcc hss
  dsimp only [pq_Md_handle_0] at hw
  have hx := hC.1
  have hb := hC.2.1
  refine lv_iconst (v := (-1 : Int32)) hx hb dq_Md_handle_0 rfl ?_
  refine lx_istore_n (lv' := [(3, 1, .int (-1 : Int32)), (0, 1, .ref x0), (1, 1, .int x1), (2, 1, .int x2)]) hx hb dq_Md_handle_1 rfl hl (by decide) rfl (fun ls hl' => ?_)
  clear hl
  have hl := hl'
  clear hl'
  refine lv_iconst (v := (0 : Int32)) hx hb dq_Md_handle_2 rfl ?_
  refine lx_istore (lv' := [(4, 1, .int (0 : Int32)), (3, 1, .int (-1 : Int32)), (0, 1, .ref x0), (1, 1, .int x1), (2, 1, .int x2)]) hx hb dq_Md_handle_3 hl (by decide) rfl (fun ls hl' => ?_)
  clear hl
  have hl := hl'
  clear hl'
  obtain ⟨n1, hw⟩ := hw
  exact tq_Md_handle_5 hC n1 hw hG hS (lx_sub hl [2, 3, 4, 1, 0] rfl) hcc hss
set_option maxHeartbeats 4000000 in
theorem mq_Md_handle {l : Launch} {E : wo_E} {mc ms : Nat} {Post : wo_W → Prop} {G : wo_W} {x0 : Nat} {x1 : Int32} {x2 : Int32} (hw : pq_Md_handle E mc ms Post G x0 x1 x2) : Met l yq_Md_handle (Cond.code yq_Md_handle prog_14_method_48_code 6 ((Option.none : Option Jvm.ClassFile.FieldType)) :: vw_WG) { frames := 6, cells := mc, slots := ms, locals := 138 } (va_Pc [.ref x0, .int x1, .int x2] (wo_Ok E G)) (va_Qv Post (wo_B E) (en_A E)) mc ms (en_A E) := by
  unfold pq_Md_handle at hw
  exact wo_met [(1, .ref x0), (1, .int x1), (1, .int x2)] rfl (by decide) (fun q hq => by simp only [List.mem_cons, List.not_mem_nil, or_false] at hq; rcases hq with rfl | rfl | rfl <;> first | rfl | exact lx_cR _) (Nat.le_of_ble_eq_true rfl) (fun p e R s m args below meth cd ls hC hG hS hl => tq_Md_handle_0 hC hw hG hS (lx_sub hl [0, 1, 2] rfl) (Nat.zero_le _) (Nat.zero_le _))
