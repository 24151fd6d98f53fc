theorem dq_Sh_readPiece_0 : decode prog_9_method_15_code 0 = .ok (.aload_n 1, 1) := by decide +kernel
theorem dq_Sh_readPiece_1 : decode prog_9_method_15_code 1 = .ok (.bipush 45, 2) := by decide +kernel
theorem dq_Sh_readPiece_3 : decode prog_9_method_15_code 3 = .ok (.invokevirtual 159, 3) := by decide +kernel
theorem dq_Sh_readPiece_6 : decode prog_9_method_15_code 6 = .ok (.istore_n 3, 1) := by decide +kernel
theorem dq_Sh_readPiece_7 : decode prog_9_method_15_code 7 = .ok (.iload_n 3, 1) := by decide +kernel
theorem dq_Sh_readPiece_8 : decode prog_9_method_15_code 8 = .ok (.ifCond .ge 5, 3) := by decide +kernel
theorem dq_Sh_readPiece_11 : decode prog_9_method_15_code 11 = .ok (.iconst 0, 1) := by decide +kernel
theorem dq_Sh_readPiece_12 : decode prog_9_method_15_code 12 = .ok (.ireturn, 1) := by decide +kernel
theorem dq_Sh_readPiece_13 : decode prog_9_method_15_code 13 = .ok (.aload_n 1, 1) := by decide +kernel
theorem dq_Sh_readPiece_14 : decode prog_9_method_15_code 14 = .ok (.iconst 0, 1) := by decide +kernel
theorem dq_Sh_readPiece_15 : decode prog_9_method_15_code 15 = .ok (.iload_n 3, 1) := by decide +kernel
theorem dq_Sh_readPiece_16 : decode prog_9_method_15_code 16 = .ok (.invokestatic 156, 3) := by decide +kernel
theorem dq_Sh_readPiece_19 : decode prog_9_method_15_code 19 = .ok (.istore 4, 2) := by decide +kernel
theorem dq_Sh_readPiece_21 : decode prog_9_method_15_code 21 = .ok (.aload_n 1, 1) := by decide +kernel
theorem dq_Sh_readPiece_22 : decode prog_9_method_15_code 22 = .ok (.iload_n 3, 1) := by decide +kernel
theorem dq_Sh_readPiece_23 : decode prog_9_method_15_code 23 = .ok (.iconst 1, 1) := by decide +kernel
theorem dq_Sh_readPiece_24 : decode prog_9_method_15_code 24 = .ok (.iadd, 1) := by decide +kernel
theorem dq_Sh_readPiece_25 : decode prog_9_method_15_code 25 = .ok (.aload_n 1, 1) := by decide +kernel
theorem dq_Sh_readPiece_26 : decode prog_9_method_15_code 26 = .ok (.invokevirtual 80, 3) := by decide +kernel
theorem dq_Sh_readPiece_29 : decode prog_9_method_15_code 29 = .ok (.invokestatic 156, 3) := by decide +kernel
theorem dq_Sh_readPiece_32 : decode prog_9_method_15_code 32 = .ok (.istore 5, 2) := by decide +kernel
theorem dq_Sh_readPiece_34 : decode prog_9_method_15_code 34 = .ok (.iload_n 3, 1) := by decide +kernel
theorem dq_Sh_readPiece_35 : decode prog_9_method_15_code 35 = .ok (.ifCond .ne 7, 3) := by decide +kernel
theorem dq_Sh_readPiece_38 : decode prog_9_method_15_code 38 = .ok (.iconst 1, 1) := by decide +kernel
theorem dq_Sh_readPiece_39 : decode prog_9_method_15_code 39 = .ok (.goto 4, 3) := by decide +kernel
theorem dq_Sh_readPiece_42 : decode prog_9_method_15_code 42 = .ok (.iconst 0, 1) := by decide +kernel
theorem dq_Sh_readPiece_43 : decode prog_9_method_15_code 43 = .ok (.istore 6, 2) := by decide +kernel
theorem dq_Sh_readPiece_45 : decode prog_9_method_15_code 45 = .ok (.iload_n 3, 1) := by decide +kernel
theorem dq_Sh_readPiece_46 : decode prog_9_method_15_code 46 = .ok (.aload_n 1, 1) := by decide +kernel
theorem dq_Sh_readPiece_47 : decode prog_9_method_15_code 47 = .ok (.invokevirtual 80, 3) := by decide +kernel
theorem dq_Sh_readPiece_50 : decode prog_9_method_15_code 50 = .ok (.iconst 1, 1) := by decide +kernel
theorem dq_Sh_readPiece_51 : decode prog_9_method_15_code 51 = .ok (.isub, 1) := by decide +kernel
theorem dq_Sh_readPiece_52 : decode prog_9_method_15_code 52 = .ok (.if_icmp .ne 7, 3) := by decide +kernel
theorem dq_Sh_readPiece_55 : decode prog_9_method_15_code 55 = .ok (.iconst 1, 1) := by decide +kernel
theorem dq_Sh_readPiece_56 : decode prog_9_method_15_code 56 = .ok (.goto 4, 3) := by decide +kernel
theorem dq_Sh_readPiece_59 : decode prog_9_method_15_code 59 = .ok (.iconst 0, 1) := by decide +kernel
theorem dq_Sh_readPiece_60 : decode prog_9_method_15_code 60 = .ok (.istore 7, 2) := by decide +kernel
theorem dq_Sh_readPiece_62 : decode prog_9_method_15_code 62 = .ok (.iload 4, 2) := by decide +kernel
theorem dq_Sh_readPiece_64 : decode prog_9_method_15_code 64 = .ok (.iconst (-1), 1) := by decide +kernel
theorem dq_Sh_readPiece_65 : decode prog_9_method_15_code 65 = .ok (.if_icmp .ne 8, 3) := by decide +kernel
theorem dq_Sh_readPiece_68 : decode prog_9_method_15_code 68 = .ok (.iload 6, 2) := by decide +kernel
theorem dq_Sh_readPiece_70 : decode prog_9_method_15_code 70 = .ok (.ifCond .eq 14, 3) := by decide +kernel
theorem dq_Sh_readPiece_73 : decode prog_9_method_15_code 73 = .ok (.iload 5, 2) := by decide +kernel
theorem dq_Sh_readPiece_75 : decode prog_9_method_15_code 75 = .ok (.iconst (-1), 1) := by decide +kernel
theorem dq_Sh_readPiece_76 : decode prog_9_method_15_code 76 = .ok (.if_icmp .ne 10, 3) := by decide +kernel
theorem dq_Sh_readPiece_79 : decode prog_9_method_15_code 79 = .ok (.iload 7, 2) := by decide +kernel
theorem dq_Sh_readPiece_81 : decode prog_9_method_15_code 81 = .ok (.ifCond .ne 5, 3) := by decide +kernel
theorem dq_Sh_readPiece_84 : decode prog_9_method_15_code 84 = .ok (.iconst 0, 1) := by decide +kernel
theorem dq_Sh_readPiece_85 : decode prog_9_method_15_code 85 = .ok (.ireturn, 1) := by decide +kernel
theorem dq_Sh_readPiece_86 : decode prog_9_method_15_code 86 = .ok (.iload 6, 2) := by decide +kernel
theorem dq_Sh_readPiece_88 : decode prog_9_method_15_code 88 = .ok (.ifCond .eq 8, 3) := by decide +kernel
theorem dq_Sh_readPiece_91 : decode prog_9_method_15_code 91 = .ok (.iload 7, 2) := by decide +kernel
theorem dq_Sh_readPiece_93 : decode prog_9_method_15_code 93 = .ok (.ifCond .ne 20, 3) := by decide +kernel
theorem dq_Sh_readPiece_96 : decode prog_9_method_15_code 96 = .ok (.iload 6, 2) := by decide +kernel
theorem dq_Sh_readPiece_98 : decode prog_9_method_15_code 98 = .ok (.ifCond .ne 17, 3) := by decide +kernel
theorem dq_Sh_readPiece_101 : decode prog_9_method_15_code 101 = .ok (.iload 7, 2) := by decide +kernel
theorem dq_Sh_readPiece_103 : decode prog_9_method_15_code 103 = .ok (.ifCond .ne 12, 3) := by decide +kernel
theorem dq_Sh_readPiece_106 : decode prog_9_method_15_code 106 = .ok (.iload 4, 2) := by decide +kernel
theorem dq_Sh_readPiece_108 : decode prog_9_method_15_code 108 = .ok (.iload 5, 2) := by decide +kernel
theorem dq_Sh_readPiece_110 : decode prog_9_method_15_code 110 = .ok (.if_icmp .le 5, 3) := by decide +kernel
theorem dq_Sh_readPiece_113 : decode prog_9_method_15_code 113 = .ok (.iconst 0, 1) := by decide +kernel
theorem dq_Sh_readPiece_114 : decode prog_9_method_15_code 114 = .ok (.ireturn, 1) := by decide +kernel
theorem dq_Sh_readPiece_115 : decode prog_9_method_15_code 115 = .ok (.iload 6, 2) := by decide +kernel
theorem dq_Sh_readPiece_117 : decode prog_9_method_15_code 117 = .ok (.ifCond .eq 21, 3) := by decide +kernel
theorem dq_Sh_readPiece_120 : decode prog_9_method_15_code 120 = .ok (.aload_n 0, 1) := by decide +kernel
theorem dq_Sh_readPiece_121 : decode prog_9_method_15_code 121 = .ok (.iconst 0, 1) := by decide +kernel
theorem dq_Sh_readPiece_122 : decode prog_9_method_15_code 122 = .ok (.iload_n 2, 1) := by decide +kernel
theorem dq_Sh_readPiece_123 : decode prog_9_method_15_code 123 = .ok (.iload 5, 2) := by decide +kernel
theorem dq_Sh_readPiece_125 : decode prog_9_method_15_code 125 = .ok (.isub, 1) := by decide +kernel
theorem dq_Sh_readPiece_126 : decode prog_9_method_15_code 126 = .ok (.invokestatic 166, 3) := by decide +kernel
theorem dq_Sh_readPiece_129 : decode prog_9_method_15_code 129 = .ok (.iload_n 2, 1) := by decide +kernel
theorem dq_Sh_readPiece_130 : decode prog_9_method_15_code 130 = .ok (.iconst 1, 1) := by decide +kernel
theorem dq_Sh_readPiece_131 : decode prog_9_method_15_code 131 = .ok (.isub, 1) := by decide +kernel
theorem dq_Sh_readPiece_132 : decode prog_9_method_15_code 132 = .ok (.invokevirtual 172, 3) := by decide +kernel
theorem dq_Sh_readPiece_135 : decode prog_9_method_15_code 135 = .ok (.goto 28, 3) := by decide +kernel
theorem dq_Sh_readPiece_138 : decode prog_9_method_15_code 138 = .ok (.aload_n 0, 1) := by decide +kernel
theorem dq_Sh_readPiece_139 : decode prog_9_method_15_code 139 = .ok (.iload 4, 2) := by decide +kernel
theorem dq_Sh_readPiece_141 : decode prog_9_method_15_code 141 = .ok (.iload 7, 2) := by decide +kernel
theorem dq_Sh_readPiece_143 : decode prog_9_method_15_code 143 = .ok (.ifCond .eq 9, 3) := by decide +kernel
theorem dq_Sh_readPiece_146 : decode prog_9_method_15_code 146 = .ok (.iload_n 2, 1) := by decide +kernel
theorem dq_Sh_readPiece_147 : decode prog_9_method_15_code 147 = .ok (.iconst 1, 1) := by decide +kernel
theorem dq_Sh_readPiece_148 : decode prog_9_method_15_code 148 = .ok (.isub, 1) := by decide +kernel
theorem dq_Sh_readPiece_149 : decode prog_9_method_15_code 149 = .ok (.goto 11, 3) := by decide +kernel
theorem dq_Sh_readPiece_152 : decode prog_9_method_15_code 152 = .ok (.iload 5, 2) := by decide +kernel
theorem dq_Sh_readPiece_154 : decode prog_9_method_15_code 154 = .ok (.iload_n 2, 1) := by decide +kernel
theorem dq_Sh_readPiece_155 : decode prog_9_method_15_code 155 = .ok (.iconst 1, 1) := by decide +kernel
theorem dq_Sh_readPiece_156 : decode prog_9_method_15_code 156 = .ok (.isub, 1) := by decide +kernel
theorem dq_Sh_readPiece_157 : decode prog_9_method_15_code 157 = .ok (.invokestatic 176, 3) := by decide +kernel
theorem dq_Sh_readPiece_160 : decode prog_9_method_15_code 160 = .ok (.invokevirtual 172, 3) := by decide +kernel
theorem dq_Sh_readPiece_163 : decode prog_9_method_15_code 163 = .ok (.iconst 1, 1) := by decide +kernel
theorem dq_Sh_readPiece_164 : decode prog_9_method_15_code 164 = .ok (.ireturn, 1) := by decide +kernel
set_option maxRecDepth 100000 in
def pq_Sh_readPiece_163 (E : wo_E) (mc ms : Nat) (Post : Int32 → wo_W → Prop) (G : wo_W) (c s : Nat) : Prop := Post (1 : Int32) G
set_option maxRecDepth 100000 in
def pq_Sh_readPiece_160 (E : wo_E) (mc ms : Nat) (Post : Int32 → wo_W → Prop) (G : wo_W) (c s : Nat) (y0 : Nat) (y1 : Int32) (y2 : Int32) : Prop := wo_ty G y0 = 4 ∧ ∃ mc2 ms3 : Nat, (c + mc2) ≤ mc ∧ (s + ms3) ≤ ms ∧ pq_Sh_notePiece E mc2 ms3 (fun G4 => 
  pq_Sh_readPiece_163 E mc ms Post G4 (c + mc2) (s + ms3)) G y0 y1 y2
set_option maxRecDepth 100000 in
def pq_Sh_readPiece_115 (E : wo_E) (mc ms : Nat) (Post : Int32 → wo_W → Prop) (G : wo_W) (c s : Nat) (x0 : Nat) (x2 : Int32) (x4 : Int32) (x5 : Int32) (x6 : Int32) (x7 : Int32) : Prop := ((x6 = (0 : Int32) → ((x7 = (0 : Int32) → pq_Sh_readPiece_160 E mc ms Post G c s x0 x4 (wo_min x5 (x2 - (1 : Int32)))) ∧
    (¬ x7 = (0 : Int32) → pq_Sh_readPiece_160 E mc ms Post G c s x0 x4 (x2 - (1 : Int32))))) ∧
  (¬ x6 = (0 : Int32) → wo_ty G x0 = 4 ∧ ∃ mc2 ms3 : Nat, (c + mc2) ≤ mc ∧ (s + ms3) ≤ ms ∧ pq_Sh_notePiece E mc2 ms3 (fun G4 => 
    pq_Sh_readPiece_163 E mc ms Post G4 (c + mc2) (s + ms3)) G x0 (wo_max (0 : Int32) (x2 - x5)) (x2 - (1 : Int32))))
set_option maxRecDepth 100000 in
def pq_Sh_readPiece_113 (E : wo_E) (mc ms : Nat) (Post : Int32 → wo_W → Prop) (G : wo_W) (c s : Nat) : Prop := Post (0 : Int32) G
set_option maxRecDepth 100000 in
def pq_Sh_readPiece_96 (E : wo_E) (mc ms : Nat) (Post : Int32 → wo_W → Prop) (G : wo_W) (c s : Nat) (x0 : Nat) (x2 : Int32) (x4 : Int32) (x5 : Int32) (x6 : Int32) (x7 : Int32) : Prop := ((¬ x6 = (0 : Int32) → pq_Sh_readPiece_115 E mc ms Post G c s x0 x2 x4 x5 x6 x7) ∧
  (x6 = (0 : Int32) → ((¬ x7 = (0 : Int32) → pq_Sh_readPiece_115 E mc ms Post G c s x0 x2 x4 x5 x6 x7) ∧
    (x7 = (0 : Int32) → ((x4 ≤ x5 → pq_Sh_readPiece_115 E mc ms Post G c s x0 x2 x4 x5 x6 x7) ∧
      (¬ x4 ≤ x5 → pq_Sh_readPiece_113 E mc ms Post G c s))))))
set_option maxRecDepth 100000 in
def pq_Sh_readPiece_86 (E : wo_E) (mc ms : Nat) (Post : Int32 → wo_W → Prop) (G : wo_W) (c s : Nat) (x0 : Nat) (x2 : Int32) (x4 : Int32) (x5 : Int32) (x6 : Int32) (x7 : Int32) : Prop := ((x6 = (0 : Int32) → pq_Sh_readPiece_96 E mc ms Post G c s x0 x2 x4 x5 x6 x7) ∧
  (¬ x6 = (0 : Int32) → ((¬ x7 = (0 : Int32) → pq_Sh_readPiece_113 E mc ms Post G c s) ∧
    (x7 = (0 : Int32) → pq_Sh_readPiece_96 E mc ms Post G c s x0 x2 x4 x5 x6 x7))))
set_option maxRecDepth 100000 in
def pq_Sh_readPiece_84 (E : wo_E) (mc ms : Nat) (Post : Int32 → wo_W → Prop) (G : wo_W) (c s : Nat) : Prop := Post (0 : Int32) G
set_option maxRecDepth 100000 in
def pq_Sh_readPiece_73 (E : wo_E) (mc ms : Nat) (Post : Int32 → wo_W → Prop) (G : wo_W) (c s : Nat) (x0 : Nat) (x2 : Int32) (x4 : Int32) (x5 : Int32) (x6 : Int32) (x7 : Int32) : Prop := ((¬ x5 = (-1 : Int32) → pq_Sh_readPiece_86 E mc ms Post G c s x0 x2 x4 x5 x6 x7) ∧
  (x5 = (-1 : Int32) → ((¬ x7 = (0 : Int32) → pq_Sh_readPiece_86 E mc ms Post G c s x0 x2 x4 x5 x6 x7) ∧
    (x7 = (0 : Int32) → pq_Sh_readPiece_84 E mc ms Post G c s))))
set_option maxRecDepth 100000 in
def pq_Sh_readPiece_60 (E : wo_E) (mc ms : Nat) (Post : Int32 → wo_W → Prop) (G : wo_W) (c s : Nat) (x0 : Nat) (x2 : Int32) (x4 : Int32) (x5 : Int32) (x6 : Int32) (y0 : Int32) : Prop := ((¬ x4 = (-1 : Int32) → pq_Sh_readPiece_73 E mc ms Post G c s x0 x2 x4 x5 x6 y0) ∧
  (x4 = (-1 : Int32) → ((x6 = (0 : Int32) → pq_Sh_readPiece_84 E mc ms Post G c s) ∧
    (¬ x6 = (0 : Int32) → pq_Sh_readPiece_73 E mc ms Post G c s x0 x2 x4 x5 x6 y0))))
set_option maxRecDepth 100000 in
def pq_Sh_readPiece_43 (E : wo_E) (mc ms : Nat) (Post : Int32 → wo_W → Prop) (G : wo_W) (c s : Nat) (x0 : Nat) (x1 : Option Nat) (x2 : Int32) (x3 : Int32) (x4 : Int32) (x5 : Int32) (y0 : Int32) : Prop := ∃ a1 : Nat, x1 = some a1 ∧ wo_ty G a1 = 10 ∧ ∃ mc3 ms4 : Nat, (c + mc3) ≤ mc ∧ (s + ms4) ≤ ms ∧ pq_St_length E mc3 ms4 (fun v6 G5 => 
  ((¬ x3 = (v6 - (1 : Int32)) → pq_Sh_readPiece_60 E mc ms Post G5 (c + mc3) (s + ms4) x0 x2 x4 x5 y0 (0 : Int32)) ∧
    (x3 = (v6 - (1 : Int32)) → pq_Sh_readPiece_60 E mc ms Post G5 (c + mc3) (s + ms4) x0 x2 x4 x5 y0 (1 : Int32)))) G a1
set_option maxRecDepth 100000 in
def pq_Sh_readPiece_0 (E : wo_E) (mc ms : Nat) (Post : Int32 → wo_W → Prop) (G : wo_W) (c s : Nat) (x0 : Nat) (x1 : Option Nat) (x2 : Int32) : Prop := ∃ a1 : Nat, x1 = some a1 ∧ wo_ty G a1 = 10 ∧ ∃ mc3 ms4 : Nat, (c + mc3) ≤ mc ∧ (s + ms4) ≤ ms ∧ pq_St_indexOf_I E mc3 ms4 (fun v6 G5 => 
  (((0 : Int32) ≤ v6 → ∃ mc7 ms8 : Nat, ((c + mc3) + mc7) ≤ mc ∧ ((s + ms4) + ms8) ≤ ms ∧ pq_Tx_whole E mc7 ms8 (fun v10 G9 => 
      wo_ty G9 a1 = 10 ∧ ∃ mc12 ms13 : Nat, (((c + mc3) + mc7) + mc12) ≤ mc ∧ (((s + ms4) + ms8) + ms13) ≤ ms ∧ pq_St_length E mc12 ms13 (fun v15 G14 => 
        ∃ mc16 ms17 : Nat, ((((c + mc3) + mc7) + mc12) + mc16) ≤ mc ∧ ((((s + ms4) + ms8) + ms13) + ms17) ≤ ms ∧ pq_Tx_whole E mc16 ms17 (fun v19 G18 => 
          ((¬ v6 = (0 : Int32) → pq_Sh_readPiece_43 E mc ms Post G18 ((((c + mc3) + mc7) + mc12) + mc16) ((((s + ms4) + ms8) + ms13) + ms17) x0 (some a1) x2 v6 v10 v19 (0 : Int32)) ∧
            (v6 = (0 : Int32) → pq_Sh_readPiece_43 E mc ms Post G18 ((((c + mc3) + mc7) + mc12) + mc16) ((((s + ms4) + ms8) + ms13) + ms17) x0 (some a1) x2 v6 v10 v19 (1 : Int32)))) G14 (some a1) (v6 + (1 : Int32)) v15) G9 a1) G5 (some a1) (0 : Int32) v6) ∧
    (¬ (0 : Int32) ≤ v6 → Post (0 : Int32) G5))) G a1 (45 : Int32)
def pq_Sh_readPiece (E : wo_E) (mc ms : Nat) (Post : Int32 → wo_W → Prop) (G : wo_W) (x0 : Nat) (x1 : Option Nat) (x2 : Int32) : Prop := pq_Sh_readPiece_0 E mc ms Post G 0 0 x0 x1 x2
set_option maxRecDepth 100000 in
set_option maxHeartbeats 4000000 in
theorem tq_Sh_readPiece_163 {p : Program} {l : Launch} {e : Env} {R : Room} {s₀ : State} {m : MethodId} {args : Array Value} {below : List Frame} {meth : Method} {cd : Code} {E : wo_E} {mc ms : Nat} {Post : Int32 → wo_W → Prop} (hC : wo_Cx E "EdgeCache$Sheet" prog_9_method_15_code 8 5 110 ((Option.some Jvm.ClassFile.FieldType.boolean)) "readPiece" mc ms p R s₀ m args meth cd) : ∀ {G : wo_W} {c s : Nat}, pq_Sh_readPiece_163 E mc ms Post G c s → ∀ {H : Heap} {locs : List Loc} {ls : Array Slot}, wo_Se E G H → va_S (en_A E) s₀.heap H locs → lx_has ls 8 [] → c ≤ mc → s ≤ ms → W p l e R s₀ m args below meth cd H locs c s (MQ below (va_Qi Post (wo_B E) (en_A E)) args s₀ mc ms (en_A E)) (F0 m 163 ls []) := by
  intro G c s hw H locs ls hG hS hl hcc hss
  dsimp only [pq_Sh_readPiece_163] at hw
  have hx := hC.1
  have hb := hC.2.1
  refine lv_iconst (v := (1 : Int32)) hx hb dq_Sh_readPiece_163 rfl ?_
  exact wo_zret hC wo_z1 hG hS hcc hss hw dq_Sh_readPiece_164
set_option maxRecDepth 100000 in
set_option maxHeartbeats 4000000 in
theorem tq_Sh_readPiece_160 {p : Program} {l : Launch} {e : Env} {R : Room} {s₀ : State} {m : MethodId} {args : Array Value} {below : List Frame} {meth : Method} {cd : Code} {E : wo_E} {mc ms : Nat} {Post : Int32 → wo_W → Prop} (hC : wo_Cx E "EdgeCache$Sheet" prog_9_method_15_code 8 5 110 ((Option.some Jvm.ClassFile.FieldType.boolean)) "readPiece" mc ms p R s₀ m args meth cd) : ∀ {G : wo_W} {c s : Nat} {y0 : Nat} {y1 : Int32} {y2 : Int32}, pq_Sh_readPiece_160 E mc ms Post G c s y0 y1 y2 → ∀ {H : Heap} {locs : List Loc} {ls : Array Slot}, wo_Se E G H → va_S (en_A E) s₀.heap H locs → lx_has ls 8 [] → c ≤ mc → s ≤ ms → W p l e R s₀ m args below meth cd H locs c s (MQ below (va_Qi Post (wo_B E) (en_A E)) args s₀ mc ms (en_A E)) (F0 m 160 ls [.int y2, .int y1, .ref y0]) := by
  intro G c s y0 y1 y2 hw H locs ls hG hS hl hcc hss
  dsimp only [pq_Sh_readPiece_160] at hw
  have hx := hC.1
  have hb := hC.2.1
  obtain ⟨t1, hw⟩ := hw
  obtain ⟨mc2, ms3, hc1, hs1, hw⟩ := hw
  refine va_callv (wo_runV hC lq_Sh_172 (mq_Sh_notePiece hw) hG hS t1 rfl (lx_sz hl) rfl (Nat.zero_le _) (by decide) dq_Sh_readPiece_160 ⟨hc1, hs1⟩) hS (fun _ _ h => h) (fun _ h => h) (fun G4 t H locs ht hvm hw' hB _ _ hS => ?_)
  clear hw
  have hw := hw'
  clear hw'
  replace hG := wo_bk ht hB
  replace hcc := hc1
  replace hss := hs1
  exact tq_Sh_readPiece_163 hC hw hG hS (lx_sub hl [] rfl) hcc hss
set_option maxRecDepth 100000 in
set_option maxHeartbeats 4000000 in
theorem tq_Sh_readPiece_115 {p : Program} {l : Launch} {e : Env} {R : Room} {s₀ : State} {m : MethodId} {args : Array Value} {below : List Frame} {meth : Method} {cd : Code} {E : wo_E} {mc ms : Nat} {Post : Int32 → wo_W → Prop} (hC : wo_Cx E "EdgeCache$Sheet" prog_9_method_15_code 8 5 110 ((Option.some Jvm.ClassFile.FieldType.boolean)) "readPiece" mc ms p R s₀ m args meth cd) : ∀ {G : wo_W} {c s : Nat} {x0 : Nat} {x2 : Int32} {x4 : Int32} {x5 : Int32} {x6 : Int32} {x7 : Int32}, pq_Sh_readPiece_115 E mc ms Post G c s x0 x2 x4 x5 x6 x7 → ∀ {H : Heap} {locs : List Loc} {ls : Array Slot}, wo_Se E G H → va_S (en_A E) s₀.heap H locs → lx_has ls 8 [(0, 1, .ref x0), (2, 1, .int x2), (4, 1, .int x4), (5, 1, .int x5), (6, 1, .int x6), (7, 1, .int x7)] → c ≤ mc → s ≤ ms → W p l e R s₀ m args below meth cd H locs c s (MQ below (va_Qi Post (wo_B E) (en_A E)) args s₀ mc ms (en_A E)) (F0 m 115 ls []) := by
  intro G c s x0 x2 x4 x5 x6 x7 hw H locs ls hG hS hl hcc hss
  dsimp only [pq_Sh_readPiece_115] at hw
  have hx := hC.1
  have hb := hC.2.1
  refine lv_iload hx hb dq_Sh_readPiece_115 (lx_at hl 4 rfl) ?_
  refine lv_if_eq (tgt := 138) hx hb dq_Sh_readPiece_117 rfl (fun h => ?_) (fun h => ?_)
  · replace hw := hw.1 h
    refine lv_aload_n hx hb dq_Sh_readPiece_138 rfl (lx_at hl 0 rfl) ?_
    refine lv_iload hx hb dq_Sh_readPiece_139 (lx_at hl 2 rfl) ?_
    refine lv_iload hx hb dq_Sh_readPiece_141 (lx_at hl 5 rfl) ?_
    refine lv_if_eq (tgt := 152) hx hb dq_Sh_readPiece_143 rfl (fun h => ?_) (fun h => ?_)
    · replace hw := hw.1 h
      refine lv_iload hx hb dq_Sh_readPiece_152 (lx_at hl 3 rfl) ?_
      refine lv_iload_n hx hb dq_Sh_readPiece_154 rfl (lx_at hl 1 rfl) ?_
      refine lv_iconst (v := (1 : Int32)) hx hb dq_Sh_readPiece_155 rfl ?_
      refine lv_isub hx hb dq_Sh_readPiece_156 ?_
      refine wo_mmin hC lq_Sh_176 (lx_sz hl) hcc hss (by decide) (lx_rk (Nat.le_of_ble_eq_true rfl)) dq_Sh_readPiece_157 ?_
      exact tq_Sh_readPiece_160 hC hw hG hS (lx_sub hl [] rfl) hcc hss
    · replace hw := hw.2 h
      refine lv_iload_n hx hb dq_Sh_readPiece_146 rfl (lx_at hl 1 rfl) ?_
      refine lv_iconst (v := (1 : Int32)) hx hb dq_Sh_readPiece_147 rfl ?_
      refine lv_isub hx hb dq_Sh_readPiece_148 ?_
      refine lv_goto (tgt := 160) hx hb dq_Sh_readPiece_149 rfl ?_
      exact tq_Sh_readPiece_160 hC hw hG hS (lx_sub hl [] rfl) hcc hss
  · replace hw := hw.2 h
    refine lv_aload_n hx hb dq_Sh_readPiece_120 rfl (lx_at hl 0 rfl) ?_
    refine lv_iconst (v := (0 : Int32)) hx hb dq_Sh_readPiece_121 rfl ?_
    refine lv_iload_n hx hb dq_Sh_readPiece_122 rfl (lx_at hl 1 rfl) ?_
    refine lv_iload hx hb dq_Sh_readPiece_123 (lx_at hl 3 rfl) ?_
    refine lv_isub hx hb dq_Sh_readPiece_125 ?_
    refine wo_mmax hC lq_Sh_166 (lx_sz hl) hcc hss (by decide) (lx_rk (Nat.le_of_ble_eq_true rfl)) dq_Sh_readPiece_126 ?_
    refine lv_iload_n hx hb dq_Sh_readPiece_129 rfl (lx_at hl 1 rfl) ?_
    refine lv_iconst (v := (1 : Int32)) hx hb dq_Sh_readPiece_130 rfl ?_
    refine lv_isub hx hb dq_Sh_readPiece_131 ?_
    obtain ⟨t1, hw⟩ := hw
    obtain ⟨mc2, ms3, hc1, hs1, hw⟩ := hw
    refine va_callv (wo_runV hC lq_Sh_172 (mq_Sh_notePiece hw) hG hS t1 rfl (lx_sz hl) rfl (Nat.zero_le _) (by decide) dq_Sh_readPiece_132 ⟨hc1, hs1⟩) hS (fun _ _ h => h) (fun _ h => h) (fun G4 t H locs ht hvm hw' hB _ _ hS => ?_)
    clear hw
    have hw := hw'
    clear hw'
    replace hG := wo_bk ht hB
    replace hcc := hc1
    replace hss := hs1
    refine lv_goto (tgt := 163) hx hb dq_Sh_readPiece_135 rfl ?_
    exact tq_Sh_readPiece_163 hC hw hG hS (lx_sub hl [] rfl) hcc hss
set_option maxRecDepth 100000 in
set_option maxHeartbeats 4000000 in
theorem tq_Sh_readPiece_113 {p : Program} {l : Launch} {e : Env} {R : Room} {s₀ : State} {m : MethodId} {args : Array Value} {below : List Frame} {meth : Method} {cd : Code} {E : wo_E} {mc ms : Nat} {Post : Int32 → wo_W → Prop} (hC : wo_Cx E "EdgeCache$Sheet" prog_9_method_15_code 8 5 110 ((Option.some Jvm.ClassFile.FieldType.boolean)) "readPiece" mc ms p R s₀ m args meth cd) : ∀ {G : wo_W} {c s : Nat}, pq_Sh_readPiece_113 E mc ms Post G c s → ∀ {H : Heap} {locs : List Loc} {ls : Array Slot}, wo_Se E G H → va_S (en_A E) s₀.heap H locs → lx_has ls 8 [] → c ≤ mc → s ≤ ms → W p l e R s₀ m args below meth cd H locs c s (MQ below (va_Qi Post (wo_B E) (en_A E)) args s₀ mc ms (en_A E)) (F0 m 113 ls []) := by
  intro G c s hw H locs ls hG hS hl hcc hss
  dsimp only [pq_Sh_readPiece_113] at hw
  have hx := hC.1
  have hb := hC.2.1
  refine lv_iconst (v := (0 : Int32)) hx hb dq_Sh_readPiece_113 rfl ?_
  exact wo_zret hC wo_z0 hG hS hcc hss hw dq_Sh_readPiece_114
set_option maxRecDepth 100000 in
set_option maxHeartbeats 4000000 in
theorem tq_Sh_readPiece_96 {p : Program} {l : Launch} {e : Env} {R : Room} {s₀ : State} {m : MethodId} {args : Array Value} {below : List Frame} {meth : Method} {cd : Code} {E : wo_E} {mc ms : Nat} {Post : Int32 → wo_W → Prop} (hC : wo_Cx E "EdgeCache$Sheet" prog_9_method_15_code 8 5 110 ((Option.some Jvm.ClassFile.FieldType.boolean)) "readPiece" mc ms p R s₀ m args meth cd) : ∀ {G : wo_W} {c s : Nat} {x0 : Nat} {x2 : Int32} {x4 : Int32} {x5 : Int32} {x6 : Int32} {x7 : Int32}, pq_Sh_readPiece_96 E mc ms Post G c s x0 x2 x4 x5 x6 x7 → ∀ {H : Heap} {locs : List Loc} {ls : Array Slot}, wo_Se E G H → va_S (en_A E) s₀.heap H locs → lx_has ls 8 [(0, 1, .ref x0), (2, 1, .int x2), (4, 1, .int x4), (5, 1, .int x5), (6, 1, .int x6), (7, 1, .int x7)] → c ≤ mc → s ≤ ms → W p l e R s₀ m args below meth cd H locs c s (MQ below (va_Qi Post (wo_B E) (en_A E)) args s₀ mc ms (en_A E)) (F0 m 96 ls []) := by
  intro G c s x0 x2 x4 x5 x6 x7 hw H locs ls hG hS hl hcc hss
  dsimp only [pq_Sh_readPiece_96] at hw
  have hx := hC.1
  have hb := hC.2.1
  refine lv_iload hx hb dq_Sh_readPiece_96 (lx_at hl 4 rfl) ?_
  refine lv_if_ne (tgt := 115) hx hb dq_Sh_readPiece_98 rfl (fun h => ?_) (fun h => ?_)
  · replace hw := hw.1 h
    exact tq_Sh_readPiece_115 hC hw hG hS (lx_sub hl [0, 1, 2, 3, 4, 5] rfl) hcc hss
  · replace hw := hw.2 h
    refine lv_iload hx hb dq_Sh_readPiece_101 (lx_at hl 5 rfl) ?_
    refine lv_if_ne (tgt := 115) hx hb dq_Sh_readPiece_103 rfl (fun h => ?_) (fun h => ?_)
    · replace hw := hw.1 h
      exact tq_Sh_readPiece_115 hC hw hG hS (lx_sub hl [0, 1, 2, 3, 4, 5] rfl) hcc hss
    · replace hw := hw.2 h
      refine lv_iload hx hb dq_Sh_readPiece_106 (lx_at hl 2 rfl) ?_
      refine lv_iload hx hb dq_Sh_readPiece_108 (lx_at hl 3 rfl) ?_
      refine lv_icmp_le (tgt := 115) hx hb dq_Sh_readPiece_110 rfl (fun h => ?_) (fun h => ?_)
      · replace hw := hw.1 h
        exact tq_Sh_readPiece_115 hC hw hG hS (lx_sub hl [0, 1, 2, 3, 4, 5] rfl) hcc hss
      · replace hw := hw.2 h
        exact tq_Sh_readPiece_113 hC hw hG hS (lx_sub hl [] rfl) hcc hss
set_option maxRecDepth 100000 in
set_option maxHeartbeats 4000000 in
theorem tq_Sh_readPiece_86 {p : Program} {l : Launch} {e : Env} {R : Room} {s₀ : State} {m : MethodId} {args : Array Value} {below : List Frame} {meth : Method} {cd : Code} {E : wo_E} {mc ms : Nat} {Post : Int32 → wo_W → Prop} (hC : wo_Cx E "EdgeCache$Sheet" prog_9_method_15_code 8 5 110 ((Option.some Jvm.ClassFile.FieldType.boolean)) "readPiece" mc ms p R s₀ m args meth cd) : ∀ {G : wo_W} {c s : Nat} {x0 : Nat} {x2 : Int32} {x4 : Int32} {x5 : Int32} {x6 : Int32} {x7 : Int32}, pq_Sh_readPiece_86 E mc ms Post G c s x0 x2 x4 x5 x6 x7 → ∀ {H : Heap} {locs : List Loc} {ls : Array Slot}, wo_Se E G H → va_S (en_A E) s₀.heap H locs → lx_has ls 8 [(0, 1, .ref x0), (2, 1, .int x2), (4, 1, .int x4), (5, 1, .int x5), (6, 1, .int x6), (7, 1, .int x7)] → c ≤ mc → s ≤ ms → W p l e R s₀ m args below meth cd H locs c s (MQ below (va_Qi Post (wo_B E) (en_A E)) args s₀ mc ms (en_A E)) (F0 m 86 ls []) := by
  intro G c s x0 x2 x4 x5 x6 x7 hw H locs ls hG hS hl hcc hss
  dsimp only [pq_Sh_readPiece_86] at hw
  have hx := hC.1
  have hb := hC.2.1
  refine lv_iload hx hb dq_Sh_readPiece_86 (lx_at hl 4 rfl) ?_
  refine lv_if_eq (tgt := 96) hx hb dq_Sh_readPiece_88 rfl (fun h => ?_) (fun h => ?_)
  · replace hw := hw.1 h
    exact tq_Sh_readPiece_96 hC hw hG hS (lx_sub hl [0, 1, 2, 3, 4, 5] rfl) hcc hss
  · replace hw := hw.2 h
    refine lv_iload hx hb dq_Sh_readPiece_91 (lx_at hl 5 rfl) ?_
    refine lv_if_ne (tgt := 113) hx hb dq_Sh_readPiece_93 rfl (fun h => ?_) (fun h => ?_)
    · replace hw := hw.1 h
      exact tq_Sh_readPiece_113 hC hw hG hS (lx_sub hl [] rfl) hcc hss
    · replace hw := hw.2 h
      exact tq_Sh_readPiece_96 hC hw hG hS (lx_sub hl [0, 1, 2, 3, 4, 5] rfl) hcc hss
set_option maxRecDepth 100000 in
set_option maxHeartbeats 4000000 in
theorem tq_Sh_readPiece_84 {p : Program} {l : Launch} {e : Env} {R : Room} {s₀ : State} {m : MethodId} {args : Array Value} {below : List Frame} {meth : Method} {cd : Code} {E : wo_E} {mc ms : Nat} {Post : Int32 → wo_W → Prop} (hC : wo_Cx E "EdgeCache$Sheet" prog_9_method_15_code 8 5 110 ((Option.some Jvm.ClassFile.FieldType.boolean)) "readPiece" mc ms p R s₀ m args meth cd) : ∀ {G : wo_W} {c s : Nat}, pq_Sh_readPiece_84 E mc ms Post G c s → ∀ {H : Heap} {locs : List Loc} {ls : Array Slot}, wo_Se E G H → va_S (en_A E) s₀.heap H locs → lx_has ls 8 [] → c ≤ mc → s ≤ ms → W p l e R s₀ m args below meth cd H locs c s (MQ below (va_Qi Post (wo_B E) (en_A E)) args s₀ mc ms (en_A E)) (F0 m 84 ls []) := by
  intro G c s hw H locs ls hG hS hl hcc hss
  dsimp only [pq_Sh_readPiece_84] at hw
  have hx := hC.1
  have hb := hC.2.1
  refine lv_iconst (v := (0 : Int32)) hx hb dq_Sh_readPiece_84 rfl ?_
  exact wo_zret hC wo_z0 hG hS hcc hss hw dq_Sh_readPiece_85
set_option maxRecDepth 100000 in
set_option maxHeartbeats 4000000 in
theorem tq_Sh_readPiece_73 {p : Program} {l : Launch} {e : Env} {R : Room} {s₀ : State} {m : MethodId} {args : Array Value} {below : List Frame} {meth : Method} {cd : Code} {E : wo_E} {mc ms : Nat} {Post : Int32 → wo_W → Prop} (hC : wo_Cx E "EdgeCache$Sheet" prog_9_method_15_code 8 5 110 ((Option.some Jvm.ClassFile.FieldType.boolean)) "readPiece" mc ms p R s₀ m args meth cd) : ∀ {G : wo_W} {c s : Nat} {x0 : Nat} {x2 : Int32} {x4 : Int32} {x5 : Int32} {x6 : Int32} {x7 : Int32}, pq_Sh_readPiece_73 E mc ms Post G c s x0 x2 x4 x5 x6 x7 → ∀ {H : Heap} {locs : List Loc} {ls : Array Slot}, wo_Se E G H → va_S (en_A E) s₀.heap H locs → lx_has ls 8 [(0, 1, .ref x0), (2, 1, .int x2), (4, 1, .int x4), (5, 1, .int x5), (6, 1, .int x6), (7, 1, .int x7)] → c ≤ mc → s ≤ ms → W p l e R s₀ m args below meth cd H locs c s (MQ below (va_Qi Post (wo_B E) (en_A E)) args s₀ mc ms (en_A E)) (F0 m 73 ls []) := by
  intro G c s x0 x2 x4 x5 x6 x7 hw H locs ls hG hS hl hcc hss
  dsimp only [pq_Sh_readPiece_73] at hw
  have hx := hC.1
  have hb := hC.2.1
  refine lv_iload hx hb dq_Sh_readPiece_73 (lx_at hl 3 rfl) ?_
  refine lv_iconst (v := (-1 : Int32)) hx hb dq_Sh_readPiece_75 rfl ?_
  refine lv_icmp_ne (tgt := 86) hx hb dq_Sh_readPiece_76 rfl (fun h => ?_) (fun h => ?_)
  · replace hw := hw.1 h
    exact tq_Sh_readPiece_86 hC hw hG hS (lx_sub hl [0, 1, 2, 3, 4, 5] rfl) hcc hss
  · replace hw := hw.2 h
    refine lv_iload hx hb dq_Sh_readPiece_79 (lx_at hl 5 rfl) ?_
    refine lv_if_ne (tgt := 86) hx hb dq_Sh_readPiece_81 rfl (fun h => ?_) (fun h => ?_)
    · replace hw := hw.1 h
      exact tq_Sh_readPiece_86 hC hw hG hS (lx_sub hl [0, 1, 2, 3, 4, 5] rfl) hcc hss
    · replace hw := hw.2 h
      exact tq_Sh_readPiece_84 hC hw hG hS (lx_sub hl [] rfl) hcc hss
set_option maxRecDepth 100000 in
set_option maxHeartbeats 4000000 in
theorem tq_Sh_readPiece_60 {p : Program} {l : Launch} {e : Env} {R : Room} {s₀ : State} {m : MethodId} {args : Array Value} {below : List Frame} {meth : Method} {cd : Code} {E : wo_E} {mc ms : Nat} {Post : Int32 → wo_W → Prop} (hC : wo_Cx E "EdgeCache$Sheet" prog_9_method_15_code 8 5 110 ((Option.some Jvm.ClassFile.FieldType.boolean)) "readPiece" mc ms p R s₀ m args meth cd) : ∀ {G : wo_W} {c s : Nat} {x0 : Nat} {x2 : Int32} {x4 : Int32} {x5 : Int32} {x6 : Int32} {y0 : Int32}, pq_Sh_readPiece_60 E mc ms Post G c s x0 x2 x4 x5 x6 y0 → ∀ {H : Heap} {locs : List Loc} {ls : Array Slot}, wo_Se E G H → va_S (en_A E) s₀.heap H locs → lx_has ls 8 [(0, 1, .ref x0), (2, 1, .int x2), (4, 1, .int x4), (5, 1, .int x5), (6, 1, .int x6)] → c ≤ mc → s ≤ ms → W p l e R s₀ m args below meth cd H locs c s (MQ below (va_Qi Post (wo_B E) (en_A E)) args s₀ mc ms (en_A E)) (F0 m 60 ls [.int y0]) := by
  intro G c s x0 x2 x4 x5 x6 y0 hw H locs ls hG hS hl hcc hss
  dsimp only [pq_Sh_readPiece_60] at hw
  have hx := hC.1
  have hb := hC.2.1
  refine lx_istore (lv' := [(7, 1, .int y0), (0, 1, .ref x0), (2, 1, .int x2), (4, 1, .int x4), (5, 1, .int x5), (6, 1, .int x6)]) hx hb dq_Sh_readPiece_60 hl (by decide) rfl (fun ls hl' => ?_)
  clear hl
  have hl := hl'
  clear hl'
  refine lv_iload hx hb dq_Sh_readPiece_62 (lx_at hl 3 rfl) ?_
  refine lv_iconst (v := (-1 : Int32)) hx hb dq_Sh_readPiece_64 rfl ?_
  refine lv_icmp_ne (tgt := 73) hx hb dq_Sh_readPiece_65 rfl (fun h => ?_) (fun h => ?_)
  · replace hw := hw.1 h
    exact tq_Sh_readPiece_73 hC hw hG hS (lx_sub hl [1, 2, 3, 4, 5, 0] rfl) hcc hss
  · replace hw := hw.2 h
    refine lv_iload hx hb dq_Sh_readPiece_68 (lx_at hl 5 rfl) ?_
    refine lv_if_eq (tgt := 84) hx hb dq_Sh_readPiece_70 rfl (fun h => ?_) (fun h => ?_)
    · replace hw := hw.1 h
      exact tq_Sh_readPiece_84 hC hw hG hS (lx_sub hl [] rfl) hcc hss
    · replace hw := hw.2 h
      exact tq_Sh_readPiece_73 hC hw hG hS (lx_sub hl [1, 2, 3, 4, 5, 0] rfl) hcc hss
set_option maxRecDepth 100000 in
set_option maxHeartbeats 4000000 in
theorem tq_Sh_readPiece_43 {p : Program} {l : Launch} {e : Env} {R : Room} {s₀ : State} {m : MethodId} {args : Array Value} {below : List Frame} {meth : Method} {cd : Code} {E : wo_E} {mc ms : Nat} {Post : Int32 → wo_W → Prop} (hC : wo_Cx E "EdgeCache$Sheet" prog_9_method_15_code 8 5 110 ((Option.some Jvm.ClassFile.FieldType.boolean)) "readPiece" mc ms p R s₀ m args meth cd) : ∀ {G : wo_W} {c s : Nat} {x0 : Nat} {x1 : Option Nat} {x2 : Int32} {x3 : Int32} {x4 : Int32} {x5 : Int32} {y0 : Int32}, pq_Sh_readPiece_43 E mc ms Post G c s x0 x1 x2 x3 x4 x5 y0 → ∀ {H : Heap} {locs : List Loc} {ls : Array Slot}, wo_Se E G H → va_S (en_A E) s₀.heap H locs → lx_has ls 8 [(0, 1, .ref x0), (1, 1, va_rf x1), (2, 1, .int x2), (3, 1, .int x3), (4, 1, .int x4), (5, 1, .int x5)] → c ≤ mc → s ≤ ms → W p l e R s₀ m args below meth cd H locs c s (MQ below (va_Qi Post (wo_B E) (en_A E)) args s₀ mc ms (en_A E)) (F0 m 43 ls [.int y0]) := by
  intro G c s x0 x1 x2 x3 x4 x5 y0 hw H locs ls hG hS hl hcc hss
  dsimp only [pq_Sh_readPiece_43] at hw
  have hx := hC.1
  have hb := hC.2.1
  refine lx_istore (lv' := [(6, 1, .int y0), (0, 1, .ref x0), (1, 1, va_rf x1), (2, 1, .int x2), (3, 1, .int x3), (4, 1, .int x4), (5, 1, .int x5)]) hx hb dq_Sh_readPiece_43 hl (by decide) rfl (fun ls hl' => ?_)
  clear hl
  have hl := hl'
  clear hl'
  refine lv_iload_n hx hb dq_Sh_readPiece_45 rfl (lx_at hl 4 rfl) ?_
  refine lx_aloadR_n hx hb dq_Sh_readPiece_46 rfl (lx_at hl 2 rfl) ?_
  obtain ⟨a1, rfl, hw⟩ := hw
  obtain ⟨t2, hw⟩ := hw
  obtain ⟨mc3, ms4, hc1, hs1, hw⟩ := hw
  refine va_calli (wo_runV hC lq_Sh_80 (mq_St_length hw) hG hS t2 rfl (lx_sz hl) rfl (lx_rm (Nat.le_of_ble_eq_true rfl)) (by decide) dq_Sh_readPiece_47 ⟨hc1, hs1⟩) hS (fun _ _ h => h) (fun _ h => h) (fun v6 G5 t H locs ht hvm hw' hB _ _ hS => ?_)
  clear hw
  have hw := hw'
  clear hw'
  replace hG := wo_bk ht hB
  replace hcc := hc1
  replace hss := hs1
  refine lv_iconst (v := (1 : Int32)) hx hb dq_Sh_readPiece_50 rfl ?_
  refine lv_isub hx hb dq_Sh_readPiece_51 ?_
  refine lv_icmp_ne (tgt := 59) hx hb dq_Sh_readPiece_52 rfl (fun h => ?_) (fun h => ?_)
  · replace hw := hw.1 h
    refine lv_iconst (v := (0 : Int32)) hx hb dq_Sh_readPiece_59 rfl ?_
    exact tq_Sh_readPiece_60 hC hw hG hS (lx_sub hl [1, 3, 5, 6, 0] rfl) hcc hss
  · replace hw := hw.2 h
    refine lv_iconst (v := (1 : Int32)) hx hb dq_Sh_readPiece_55 rfl ?_
    refine lv_goto (tgt := 60) hx hb dq_Sh_readPiece_56 rfl ?_
    exact tq_Sh_readPiece_60 hC hw hG hS (lx_sub hl [1, 3, 5, 6, 0] rfl) hcc hss
set_option maxRecDepth 100000 in
set_option maxHeartbeats 4000000 in
theorem tq_Sh_readPiece_0 {p : Program} {l : Launch} {e : Env} {R : Room} {s₀ : State} {m : MethodId} {args : Array Value} {below : List Frame} {meth : Method} {cd : Code} {E : wo_E} {mc ms : Nat} {Post : Int32 → wo_W → Prop} (hC : wo_Cx E "EdgeCache$Sheet" prog_9_method_15_code 8 5 110 ((Option.some Jvm.ClassFile.FieldType.boolean)) "readPiece" mc ms p R s₀ m args meth cd) : ∀ {G : wo_W} {c s : Nat} {x0 : Nat} {x1 : Option Nat} {x2 : Int32}, pq_Sh_readPiece_0 E mc ms Post G c s x0 x1 x2 → ∀ {H : Heap} {locs : List Loc} {ls : Array Slot}, wo_Se E G H → va_S (en_A E) s₀.heap H locs → lx_has ls 8 [(0, 1, .ref x0), (1, 1, va_rf x1), (2, 1, .int x2)] → c ≤ mc → s ≤ ms → W p l e R s₀ m args below meth cd H locs c s (MQ below (va_Qi Post (wo_B E) (en_A E)) args s₀ mc ms (en_A E)) (F0 m 0 ls []) := by
  intro G c s x0 x1 x2 hw H locs ls hG hS hl hcc hss
  dsimp only [pq_Sh_readPiece_0] at hw
  have hx := hC.1
  have hb := hC.2.1
  refine lx_aloadR_n hx hb dq_Sh_readPiece_0 rfl (lx_at hl 1 rfl) ?_
  refine lv_bipush (v := (45 : Int32)) hx hb dq_Sh_readPiece_1 rfl ?_
  obtain ⟨a1, rfl, hw⟩ := hw
  obtain ⟨t2, hw⟩ := hw
  obtain ⟨mc3, ms4, hc1, hs1, hw⟩ := hw
  refine va_calli (wo_runV hC lq_Sh_159 (mq_St_indexOf_I hw) hG hS t2 rfl (lx_sz hl) rfl (Nat.zero_le _) (by decide) dq_Sh_readPiece_3 ⟨hc1, hs1⟩) hS (fun _ _ h => h) (fun _ h => h) (fun v6 G5 t H locs ht hvm hw' hB _ _ hS => ?_)
  clear hw
  have hw := hw'
  clear hw'
  replace hG := wo_bk ht hB
  replace hcc := hc1
  replace hss := hs1
  refine lx_istore_n (lv' := [(3, 1, .int v6), (0, 1, .ref x0), (1, 1, .ref a1), (2, 1, .int x2)]) hx hb dq_Sh_readPiece_6 rfl hl (by decide) rfl (fun ls hl' => ?_)
  clear hl
  have hl := hl'
  clear hl'
  refine lv_iload_n hx hb dq_Sh_readPiece_7 rfl (lx_at hl 0 rfl) ?_
  refine lv_if_ge (tgt := 13) hx hb dq_Sh_readPiece_8 rfl (fun h => ?_) (fun h => ?_)
  · replace hw := hw.1 h
    refine lv_aload_n hx hb dq_Sh_readPiece_13 rfl (lx_at hl 2 rfl) ?_
    refine lv_iconst (v := (0 : Int32)) hx hb dq_Sh_readPiece_14 rfl ?_
    refine lv_iload_n hx hb dq_Sh_readPiece_15 rfl (lx_at hl 0 rfl) ?_
    obtain ⟨mc7, ms8, hc1, hs1, hw⟩ := hw
    refine va_calli (wo_runS hC lq_Sh_156 (mq_Tx_whole hw) hG hS rfl (lx_sz hl) rfl (Nat.zero_le _) (by decide) dq_Sh_readPiece_16 ⟨hc1, hs1⟩) hS (fun _ _ h => h) (fun _ h => h) (fun v10 G9 t H locs ht hvm hw' hB _ _ hS => ?_)
    clear hw
    have hw := hw'
    clear hw'
    replace hG := wo_bk ht hB
    replace hcc := hc1
    replace hss := hs1
    refine lx_istore (lv' := [(4, 1, .int v10), (3, 1, .int v6), (0, 1, .ref x0), (1, 1, .ref a1), (2, 1, .int x2)]) hx hb dq_Sh_readPiece_19 hl (by decide) rfl (fun ls hl' => ?_)
    clear hl
    have hl := hl'
    clear hl'
    refine lv_aload_n hx hb dq_Sh_readPiece_21 rfl (lx_at hl 3 rfl) ?_
    refine lv_iload_n hx hb dq_Sh_readPiece_22 rfl (lx_at hl 1 rfl) ?_
    refine lv_iconst (v := (1 : Int32)) hx hb dq_Sh_readPiece_23 rfl ?_
    refine lv_iadd hx hb dq_Sh_readPiece_24 ?_
    refine lv_aload_n hx hb dq_Sh_readPiece_25 rfl (lx_at hl 3 rfl) ?_
    obtain ⟨t11, hw⟩ := hw
    obtain ⟨mc12, ms13, hc1, hs1, hw⟩ := hw
    refine va_calli (wo_runV hC lq_Sh_80 (mq_St_length hw) hG hS t11 rfl (lx_sz hl) rfl (lx_rm (Nat.le_of_ble_eq_true rfl)) (by decide) dq_Sh_readPiece_26 ⟨hc1, hs1⟩) hS (fun _ _ h => h) (fun _ h => h) (fun v15 G14 t H locs ht hvm hw' hB _ _ hS => ?_)
    clear hw
    have hw := hw'
    clear hw'
    replace hG := wo_bk ht hB
    replace hcc := hc1
    replace hss := hs1
    obtain ⟨mc16, ms17, hc1, hs1, hw⟩ := hw
    refine va_calli (wo_runS hC lq_Sh_156 (mq_Tx_whole hw) hG hS rfl (lx_sz hl) rfl (Nat.zero_le _) (by decide) dq_Sh_readPiece_29 ⟨hc1, hs1⟩) hS (fun _ _ h => h) (fun _ h => h) (fun v19 G18 t H locs ht hvm hw' hB _ _ hS => ?_)
    clear hw
    have hw := hw'
    clear hw'
    replace hG := wo_bk ht hB
    replace hcc := hc1
    replace hss := hs1
    refine lx_istore (lv' := [(5, 1, .int v19), (4, 1, .int v10), (3, 1, .int v6), (0, 1, .ref x0), (1, 1, .ref a1), (2, 1, .int x2)]) hx hb dq_Sh_readPiece_32 hl (by decide) rfl (fun ls hl' => ?_)
    clear hl
    have hl := hl'
    clear hl'
    refine lv_iload_n hx hb dq_Sh_readPiece_34 rfl (lx_at hl 2 rfl) ?_
    refine lv_if_ne (tgt := 42) hx hb dq_Sh_readPiece_35 rfl (fun h => ?_) (fun h => ?_)
    · replace hw := hw.1 h
      refine lv_iconst (v := (0 : Int32)) hx hb dq_Sh_readPiece_42 rfl ?_
      exact tq_Sh_readPiece_43 hC hw hG hS (lx_sub hl [3, 4, 5, 2, 1, 0] rfl) hcc hss
    · replace hw := hw.2 h
      refine lv_iconst (v := (1 : Int32)) hx hb dq_Sh_readPiece_38 rfl ?_
      refine lv_goto (tgt := 43) hx hb dq_Sh_readPiece_39 rfl ?_
      exact tq_Sh_readPiece_43 hC hw hG hS (lx_sub hl [3, 4, 5, 2, 1, 0] rfl) hcc hss
  · replace hw := hw.2 h
    refine lv_iconst (v := (0 : Int32)) hx hb dq_Sh_readPiece_11 rfl ?_
    exact wo_zret hC wo_z0 hG hS hcc hss hw dq_Sh_readPiece_12
set_option maxHeartbeats 4000000 in
theorem mq_Sh_readPiece {l : Launch} {E : wo_E} {mc ms : Nat} {Post : Int32 → wo_W → Prop} {G : wo_W} {x0 : Nat} {x1 : Option Nat} {x2 : Int32} (hw : pq_Sh_readPiece E mc ms Post G x0 x1 x2) : Met l yq_Sh_readPiece (Cond.code yq_Sh_readPiece prog_9_method_15_code 8 ((Option.some Jvm.ClassFile.FieldType.boolean)) :: vw_WG) { frames := 5, cells := mc, slots := ms, locals := 110 } (va_Pc [.ref x0, va_rf x1, .int x2] (wo_Ok E G)) (va_Qi Post (wo_B E) (en_A E)) mc ms (en_A E) := by
  unfold pq_Sh_readPiece at hw
  exact wo_met [(1, .ref x0), (1, va_rf x1), (1, .int x2)] rfl (by decide) (fun q hq => by simp only [List.mem_cons, List.not_mem_nil, or_false] at hq; rcases hq with rfl | rfl | rfl <;> first | rfl | exact lx_cR _) (Nat.le_of_ble_eq_true rfl) (fun p e R s m args below meth cd ls hC hG hS hl => tq_Sh_readPiece_0 hC hw hG hS (lx_sub hl [0, 1, 2] rfl) (Nat.zero_le _) (Nat.zero_le _))

theorem dq_Sh_readPieces_0 : decode prog_9_method_14_code 0 = .ok (.aload_n 0, 1) := by decide +kernel
theorem dq_Sh_readPieces_1 : decode prog_9_method_14_code 1 = .ok (.iconst 0, 1) := by decide +kernel
theorem dq_Sh_readPieces_2 : decode prog_9_method_14_code 2 = .ok (.putfield 131, 3) := by decide +kernel
theorem dq_Sh_readPieces_5 : decode prog_9_method_14_code 5 = .ok (.aload_n 1, 1) := by decide +kernel
theorem dq_Sh_readPieces_6 : decode prog_9_method_14_code 6 = .ok (.bipush 44, 2) := by decide +kernel
theorem dq_Sh_readPieces_8 : decode prog_9_method_14_code 8 = .ok (.invokevirtual 159, 3) := by decide +kernel
theorem dq_Sh_readPieces_11 : decode prog_9_method_14_code 11 = .ok (.istore_n 3, 1) := by decide +kernel
theorem dq_Sh_readPieces_12 : decode prog_9_method_14_code 12 = .ok (.iload_n 3, 1) := by decide +kernel
theorem dq_Sh_readPieces_13 : decode prog_9_method_14_code 13 = .ok (.ifCond .ge 10, 3) := by decide +kernel
theorem dq_Sh_readPieces_16 : decode prog_9_method_14_code 16 = .ok (.aload_n 0, 1) := by decide +kernel
theorem dq_Sh_readPieces_17 : decode prog_9_method_14_code 17 = .ok (.aload_n 1, 1) := by decide +kernel
theorem dq_Sh_readPieces_18 : decode prog_9_method_14_code 18 = .ok (.iload_n 2, 1) := by decide +kernel
theorem dq_Sh_readPieces_19 : decode prog_9_method_14_code 19 = .ok (.invokevirtual 163, 3) := by decide +kernel
theorem dq_Sh_readPieces_22 : decode prog_9_method_14_code 22 = .ok (.ireturn, 1) := by decide +kernel
theorem dq_Sh_readPieces_23 : decode prog_9_method_14_code 23 = .ok (.aload_n 0, 1) := by decide +kernel
theorem dq_Sh_readPieces_24 : decode prog_9_method_14_code 24 = .ok (.aload_n 1, 1) := by decide +kernel
theorem dq_Sh_readPieces_25 : decode prog_9_method_14_code 25 = .ok (.iconst 0, 1) := by decide +kernel
theorem dq_Sh_readPieces_26 : decode prog_9_method_14_code 26 = .ok (.iload_n 3, 1) := by decide +kernel
theorem dq_Sh_readPieces_27 : decode prog_9_method_14_code 27 = .ok (.invokevirtual 150, 3) := by decide +kernel
theorem dq_Sh_readPieces_30 : decode prog_9_method_14_code 30 = .ok (.iload_n 2, 1) := by decide +kernel
theorem dq_Sh_readPieces_31 : decode prog_9_method_14_code 31 = .ok (.invokevirtual 163, 3) := by decide +kernel
theorem dq_Sh_readPieces_34 : decode prog_9_method_14_code 34 = .ok (.ifCond .eq 26, 3) := by decide +kernel
theorem dq_Sh_readPieces_37 : decode prog_9_method_14_code 37 = .ok (.aload_n 0, 1) := by decide +kernel
theorem dq_Sh_readPieces_38 : decode prog_9_method_14_code 38 = .ok (.aload_n 1, 1) := by decide +kernel
theorem dq_Sh_readPieces_39 : decode prog_9_method_14_code 39 = .ok (.iload_n 3, 1) := by decide +kernel
theorem dq_Sh_readPieces_40 : decode prog_9_method_14_code 40 = .ok (.iconst 1, 1) := by decide +kernel
theorem dq_Sh_readPieces_41 : decode prog_9_method_14_code 41 = .ok (.iadd, 1) := by decide +kernel
theorem dq_Sh_readPieces_42 : decode prog_9_method_14_code 42 = .ok (.aload_n 1, 1) := by decide +kernel
theorem dq_Sh_readPieces_43 : decode prog_9_method_14_code 43 = .ok (.invokevirtual 80, 3) := by decide +kernel
theorem dq_Sh_readPieces_46 : decode prog_9_method_14_code 46 = .ok (.invokevirtual 150, 3) := by decide +kernel
theorem dq_Sh_readPieces_49 : decode prog_9_method_14_code 49 = .ok (.iload_n 2, 1) := by decide +kernel
theorem dq_Sh_readPieces_50 : decode prog_9_method_14_code 50 = .ok (.invokevirtual 163, 3) := by decide +kernel
theorem dq_Sh_readPieces_53 : decode prog_9_method_14_code 53 = .ok (.ifCond .eq 7, 3) := by decide +kernel
theorem dq_Sh_readPieces_56 : decode prog_9_method_14_code 56 = .ok (.iconst 1, 1) := by decide +kernel
theorem dq_Sh_readPieces_57 : decode prog_9_method_14_code 57 = .ok (.goto 4, 3) := by decide +kernel
theorem dq_Sh_readPieces_60 : decode prog_9_method_14_code 60 = .ok (.iconst 0, 1) := by decide +kernel
theorem dq_Sh_readPieces_61 : decode prog_9_method_14_code 61 = .ok (.ireturn, 1) := by decide +kernel
set_option maxRecDepth 100000 in
def pq_Sh_readPieces_61 (E : wo_E) (mc ms : Nat) (Post : Int32 → wo_W → Prop) (G : wo_W) (c s : Nat) (y0 : Int32) : Prop := wo_okI .boolean y0 ∧ Post y0 G
set_option maxRecDepth 100000 in
def pq_Sh_readPieces_60 (E : wo_E) (mc ms : Nat) (Post : Int32 → wo_W → Prop) (G : wo_W) (c s : Nat) : Prop := pq_Sh_readPieces_61 E mc ms Post G c s (0 : Int32)
set_option maxRecDepth 100000 in
def pq_Sh_readPieces_0 (E : wo_E) (mc ms : Nat) (Post : Int32 → wo_W → Prop) (G : wo_W) (c s : Nat) (x0 : Nat) (x1 : Option Nat) (x2 : Int32) : Prop := wo_ty G x0 = 4 ∧ en_bs E ≤ x0 ∧ ∀ G3 : wo_W, G3 = wo_si G 195 x0 (0 : Int32) → 
  ∃ a5 : Nat, x1 = some a5 ∧ wo_ty G3 a5 = 10 ∧ ∃ mc7 ms8 : Nat, (c + mc7) ≤ mc ∧ (s + ms8) ≤ ms ∧ pq_St_indexOf_I E mc7 ms8 (fun v10 G9 => 
  (((0 : Int32) ≤ v10 → wo_ty G9 a5 = 10 ∧ ∃ mc12 ms13 : Nat, ((c + mc7) + mc12) ≤ mc ∧ ((s + ms8) + ms13) ≤ ms ∧ pq_St_substring_II E mc12 ms13 (fun v15 G14 => 
      wo_ty G14 x0 = 4 ∧ ∃ mc17 ms18 : Nat, (((c + mc7) + mc12) + mc17) ≤ mc ∧ (((s + ms8) + ms13) + ms18) ≤ ms ∧ pq_Sh_readPiece E mc17 ms18 (fun v20 G19 => 
        ((v20 = (0 : Int32) → pq_Sh_readPieces_60 E mc ms Post G19 (((c + mc7) + mc12) + mc17) (((s + ms8) + ms13) + ms18)) ∧
          (¬ v20 = (0 : Int32) → wo_ty G19 a5 = 10 ∧ ∃ mc22 ms23 : Nat, ((((c + mc7) + mc12) + mc17) + mc22) ≤ mc ∧ ((((s + ms8) + ms13) + ms18) + ms23) ≤ ms ∧ pq_St_length E mc22 ms23 (fun v25 G24 => 
            wo_ty G24 a5 = 10 ∧ ∃ mc27 ms28 : Nat, (((((c + mc7) + mc12) + mc17) + mc22) + mc27) ≤ mc ∧ (((((s + ms8) + ms13) + ms18) + ms23) + ms28) ≤ ms ∧ pq_St_substring_II E mc27 ms28 (fun v30 G29 => 
              wo_ty G29 x0 = 4 ∧ ∃ mc32 ms33 : Nat, ((((((c + mc7) + mc12) + mc17) + mc22) + mc27) + mc32) ≤ mc ∧ ((((((s + ms8) + ms13) + ms18) + ms23) + ms28) + ms33) ≤ ms ∧ pq_Sh_readPiece E mc32 ms33 (fun v35 G34 => 
                ((v35 = (0 : Int32) → pq_Sh_readPieces_60 E mc ms Post G34 ((((((c + mc7) + mc12) + mc17) + mc22) + mc27) + mc32) ((((((s + ms8) + ms13) + ms18) + ms23) + ms28) + ms33)) ∧
                  (¬ v35 = (0 : Int32) → pq_Sh_readPieces_61 E mc ms Post G34 ((((((c + mc7) + mc12) + mc17) + mc22) + mc27) + mc32) ((((((s + ms8) + ms13) + ms18) + ms23) + ms28) + ms33) (1 : Int32)))) G29 x0 v30 x2) G24 a5 (v10 + (1 : Int32)) v25) G19 a5))) G14 x0 v15 x2) G9 a5 (0 : Int32) v10) ∧
    (¬ (0 : Int32) ≤ v10 → wo_ty G9 x0 = 4 ∧ ∃ mc37 ms38 : Nat, ((c + mc7) + mc37) ≤ mc ∧ ((s + ms8) + ms38) ≤ ms ∧ pq_Sh_readPiece E mc37 ms38 (fun v40 G39 => 
      wo_okI .boolean v40 ∧ Post v40 G39) G9 x0 (some a5) x2))) G3 a5 (44 : Int32)
def pq_Sh_readPieces (E : wo_E) (mc ms : Nat) (Post : Int32 → wo_W → Prop) (G : wo_W) (x0 : Nat) (x1 : Option Nat) (x2 : Int32) : Prop := pq_Sh_readPieces_0 E mc ms Post G 0 0 x0 x1 x2
set_option maxRecDepth 100000 in
set_option maxHeartbeats 4000000 in
theorem tq_Sh_readPieces_61 {p : Program} {l : Launch} {e : Env} {R : Room} {s₀ : State} {m : MethodId} {args : Array Value} {below : List Frame} {meth : Method} {cd : Code} {E : wo_E} {mc ms : Nat} {Post : Int32 → wo_W → Prop} (hC : wo_Cx E "EdgeCache$Sheet" prog_9_method_14_code 4 6 137 ((Option.some Jvm.ClassFile.FieldType.boolean)) "readPieces" mc ms p R s₀ m args meth cd) : ∀ {G : wo_W} {c s : Nat} {y0 : Int32}, pq_Sh_readPieces_61 E mc ms Post G c s y0 → ∀ {H : Heap} {locs : List Loc} {ls : Array Slot}, wo_Se E G H → va_S (en_A E) s₀.heap H locs → lx_has ls 4 [] → c ≤ mc → s ≤ ms → W p l e R s₀ m args below meth cd H locs c s (MQ below (va_Qi Post (wo_B E) (en_A E)) args s₀ mc ms (en_A E)) (F0 m 61 ls [.int y0]) := by
  intro G c s y0 hw H locs ls hG hS hl hcc hss
  dsimp only [pq_Sh_readPieces_61] at hw
  have hx := hC.1
  have hb := hC.2.1
  obtain ⟨h1, hw⟩ := hw
  exact wo_zret hC h1.1 hG hS hcc hss hw dq_Sh_readPieces_61
set_option maxRecDepth 100000 in
set_option maxHeartbeats 4000000 in
theorem tq_Sh_readPieces_60 {p : Program} {l : Launch} {e : Env} {R : Room} {s₀ : State} {m : MethodId} {args : Array Value} {below : List Frame} {meth : Method} {cd : Code} {E : wo_E} {mc ms : Nat} {Post : Int32 → wo_W → Prop} (hC : wo_Cx E "EdgeCache$Sheet" prog_9_method_14_code 4 6 137 ((Option.some Jvm.ClassFile.FieldType.boolean)) "readPieces" mc ms p R s₀ m args meth cd) : ∀ {G : wo_W} {c s : Nat}, pq_Sh_readPieces_60 E mc ms Post G c s → ∀ {H : Heap} {locs : List Loc} {ls : Array Slot}, wo_Se E G H → va_S (en_A E) s₀.heap H locs → lx_has ls 4 [] → c ≤ mc → s ≤ ms → W p l e R s₀ m args below meth cd H locs c s (MQ below (va_Qi Post (wo_B E) (en_A E)) args s₀ mc ms (en_A E)) (F0 m 60 ls []) := by
  intro G c s hw H locs ls hG hS hl hcc hss
  dsimp only [pq_Sh_readPieces_60] at hw
  have hx := hC.1
  have hb := hC.2.1
  refine lv_iconst (v := (0 : Int32)) hx hb dq_Sh_readPieces_60 rfl ?_
  exact tq_Sh_readPieces_61 hC hw hG hS (lx_sub hl [] rfl) hcc hss
set_option maxRecDepth 100000 in
set_option maxHeartbeats 4000000 in
theorem tq_Sh_readPieces_0 {p : Program} {l : Launch} {e : Env} {R : Room} {s₀ : State} {m : MethodId} {args : Array Value} {below : List Frame} {meth : Method} {cd : Code} {E : wo_E} {mc ms : Nat} {Post : Int32 → wo_W → Prop} (hC : wo_Cx E "EdgeCache$Sheet" prog_9_method_14_code 4 6 137 ((Option.some Jvm.ClassFile.FieldType.boolean)) "readPieces" mc ms p R s₀ m args meth cd) : ∀ {G : wo_W} {c s : Nat} {x0 : Nat} {x1 : Option Nat} {x2 : Int32}, pq_Sh_readPieces_0 E mc ms Post G c s x0 x1 x2 → ∀ {H : Heap} {locs : List Loc} {ls : Array Slot}, wo_Se E G H → va_S (en_A E) s₀.heap H locs → lx_has ls 4 [(0, 1, .ref x0), (1, 1, va_rf x1), (2, 1, .int x2)] → c ≤ mc → s ≤ ms → W p l e R s₀ m args below meth cd H locs c s (MQ below (va_Qi Post (wo_B E) (en_A E)) args s₀ mc ms (en_A E)) (F0 m 0 ls []) := by
  intro G c s x0 x1 x2 hw H locs ls hG hS hl hcc hss
  dsimp only [pq_Sh_readPieces_0] at hw
  have hx := hC.1
  have hb := hC.2.1
  refine lv_aload_n hx hb dq_Sh_readPieces_0 rfl (lx_at hl 0 rfl) ?_
  refine lv_iconst (v := (0 : Int32)) hx hb dq_Sh_readPieces_1 rfl ?_
  obtain ⟨t1, hw⟩ := hw
  obtain ⟨h2, hw⟩ := hw
  refine wo_putI hC fq_Sh_131 (Or.inl rfl) rfl (wo_ok_int _) hG hS t1 h2 dq_Sh_readPieces_2 (fun G3 H locs e4 hG hS => ?_)
  replace hw := hw G3 e4
  refine lx_aloadR_n hx hb dq_Sh_readPieces_5 rfl (lx_at hl 1 rfl) ?_
  refine lv_bipush (v := (44 : Int32)) hx hb dq_Sh_readPieces_6 rfl ?_
  obtain ⟨a5, rfl, hw⟩ := hw
  obtain ⟨t6, hw⟩ := hw
  obtain ⟨mc7, ms8, hc1, hs1, hw⟩ := hw
  refine va_calli (wo_runV hC lq_Sh_159 (mq_St_indexOf_I hw) hG hS t6 rfl (lx_sz hl) rfl (Nat.zero_le _) (by decide) dq_Sh_readPieces_8 ⟨hc1, hs1⟩) hS (fun _ _ h => h) (fun _ h => h) (fun v10 G9 t H locs ht hvm hw' hB _ _ hS => ?_)
  clear hw
  have hw := hw'
  clear hw'
  replace hG := wo_bk ht hB
  replace hcc := hc1
  replace hss := hs1
  refine lx_istore_n (lv' := [(3, 1, .int v10), (0, 1, .ref x0), (1, 1, .ref a5), (2, 1, .int x2)]) hx hb dq_Sh_readPieces_11 rfl hl (by decide) rfl (fun ls hl' => ?_)
  clear hl
  have hl := hl'
  clear hl'
  refine lv_iload_n hx hb dq_Sh_readPieces_12 rfl (lx_at hl 0 rfl) ?_
  refine lv_if_ge (tgt := 23) hx hb dq_Sh_readPieces_13 rfl (fun h => ?_) (fun h => ?_)
  · replace hw := hw.1 h
    refine lv_aload_n hx hb dq_Sh_readPieces_23 rfl (lx_at hl 1 rfl) ?_
    refine lv_aload_n hx hb dq_Sh_readPieces_24 rfl (lx_at hl 2 rfl) ?_
    refine lv_iconst (v := (0 : Int32)) hx hb dq_Sh_readPieces_25 rfl ?_
    refine lv_iload_n hx hb dq_Sh_readPieces_26 rfl (lx_at hl 0 rfl) ?_
    obtain ⟨t11, hw⟩ := hw
    obtain ⟨mc12, ms13, hc1, hs1, hw⟩ := hw
    refine va_callq (wo_runV hC lq_Sh_150 (mq_St_substring_II hw) hG hS t11 rfl (lx_sz hl) rfl (lx_rm (Nat.le_of_ble_eq_true rfl)) (by decide) dq_Sh_readPieces_27 ⟨hc1, hs1⟩) hS (fun _ _ h => h) (fun _ h => h) (fun v15 G14 t H locs ht hvm hw' hB _ _ hS => ?_)
    clear hw
    have hw := hw'
    clear hw'
    replace hG := wo_bk ht hB
    replace hcc := hc1
    replace hss := hs1
    refine lv_iload_n hx hb dq_Sh_readPieces_30 rfl (lx_at hl 3 rfl) ?_
    obtain ⟨t16, hw⟩ := hw
    obtain ⟨mc17, ms18, hc1, hs1, hw⟩ := hw
    refine va_calli (wo_runV hC lq_Sh_163 (mq_Sh_readPiece hw) hG hS t16 rfl (lx_sz hl) rfl (Nat.zero_le _) (by decide) dq_Sh_readPieces_31 ⟨hc1, hs1⟩) hS (fun _ _ h => h) (fun _ h => h) (fun v20 G19 t H locs ht hvm hw' hB _ _ hS => ?_)
    clear hw
    have hw := hw'
    clear hw'
    replace hG := wo_bk ht hB
    replace hcc := hc1
    replace hss := hs1
    refine lv_if_eq (tgt := 60) hx hb dq_Sh_readPieces_34 rfl (fun h => ?_) (fun h => ?_)
    · replace hw := hw.1 h
      exact tq_Sh_readPieces_60 hC hw hG hS (lx_sub hl [] rfl) hcc hss
    · replace hw := hw.2 h
      refine lv_aload_n hx hb dq_Sh_readPieces_37 rfl (lx_at hl 1 rfl) ?_
      refine lv_aload_n hx hb dq_Sh_readPieces_38 rfl (lx_at hl 2 rfl) ?_
      refine lv_iload_n hx hb dq_Sh_readPieces_39 rfl (lx_at hl 0 rfl) ?_
      refine lv_iconst (v := (1 : Int32)) hx hb dq_Sh_readPieces_40 rfl ?_
      refine lv_iadd hx hb dq_Sh_readPieces_41 ?_
      refine lv_aload_n hx hb dq_Sh_readPieces_42 rfl (lx_at hl 2 rfl) ?_
      obtain ⟨t21, hw⟩ := hw
      obtain ⟨mc22, ms23, hc1, hs1, hw⟩ := hw
      refine va_calli (wo_runV hC lq_Sh_80 (mq_St_length hw) hG hS t21 rfl (lx_sz hl) rfl (lx_rm (Nat.le_of_ble_eq_true rfl)) (by decide) dq_Sh_readPieces_43 ⟨hc1, hs1⟩) hS (fun _ _ h => h) (fun _ h => h) (fun v25 G24 t H locs ht hvm hw' hB _ _ hS => ?_)
      clear hw
      have hw := hw'
      clear hw'
      replace hG := wo_bk ht hB
      replace hcc := hc1
      replace hss := hs1
      obtain ⟨t26, hw⟩ := hw
      obtain ⟨mc27, ms28, hc1, hs1, hw⟩ := hw
      refine va_callq (wo_runV hC lq_Sh_150 (mq_St_substring_II hw) hG hS t26 rfl (lx_sz hl) rfl (lx_rm (Nat.le_of_ble_eq_true rfl)) (by decide) dq_Sh_readPieces_46 ⟨hc1, hs1⟩) hS (fun _ _ h => h) (fun _ h => h) (fun v30 G29 t H locs ht hvm hw' hB _ _ hS => ?_)
      clear hw
      have hw := hw'
      clear hw'
      replace hG := wo_bk ht hB
      replace hcc := hc1
      replace hss := hs1
      refine lv_iload_n hx hb dq_Sh_readPieces_49 rfl (lx_at hl 3 rfl) ?_
      obtain ⟨t31, hw⟩ := hw
      obtain ⟨mc32, ms33, hc1, hs1, hw⟩ := hw
      refine va_calli (wo_runV hC lq_Sh_163 (mq_Sh_readPiece hw) hG hS t31 rfl (lx_sz hl) rfl (Nat.zero_le _) (by decide) dq_Sh_readPieces_50 ⟨hc1, hs1⟩) hS (fun _ _ h => h) (fun _ h => h) (fun v35 G34 t H locs ht hvm hw' hB _ _ hS => ?_)
      clear hw
      have hw := hw'
      clear hw'
      replace hG := wo_bk ht hB
      replace hcc := hc1
      replace hss := hs1
      refine lv_if_eq (tgt := 60) hx hb dq_Sh_readPieces_53 rfl (fun h => ?_) (fun h => ?_)
      · replace hw := hw.1 h
        exact tq_Sh_readPieces_60 hC hw hG hS (lx_sub hl [] rfl) hcc hss
      · replace hw := hw.2 h
        refine lv_iconst (v := (1 : Int32)) hx hb dq_Sh_readPieces_56 rfl ?_
        refine lv_goto (tgt := 61) hx hb dq_Sh_readPieces_57 rfl ?_
        exact tq_Sh_readPieces_61 hC hw hG hS (lx_sub hl [] rfl) hcc hss
  · replace hw := hw.2 h
    refine lv_aload_n hx hb dq_Sh_readPieces_16 rfl (lx_at hl 1 rfl) ?_
    refine lv_aload_n hx hb dq_Sh_readPieces_17 rfl (lx_at hl 2 rfl) ?_
    refine lv_iload_n hx hb dq_Sh_readPieces_18 rfl (lx_at hl 3 rfl) ?_
    obtain ⟨t36, hw⟩ := hw
    obtain ⟨mc37, ms38, hc1, hs1, hw⟩ := hw
    refine va_calli (wo_runV hC lq_Sh_163 (mq_Sh_readPiece hw) hG hS t36 rfl (lx_sz hl) rfl (Nat.zero_le _) (by decide) dq_Sh_readPieces_19 ⟨hc1, hs1⟩) hS (fun _ _ h => h) (fun _ h => h) (fun v40 G39 t H locs ht hvm hw' hB _ _ hS => ?_)
    clear hw
    have hw := hw'
    clear hw'
    replace hG := wo_bk ht hB
    replace hcc := hc1
    replace hss := hs1
    obtain ⟨h41, hw⟩ := hw
    exact wo_zret hC h41.1 hG hS hcc hss hw dq_Sh_readPieces_22
set_option maxHeartbeats 4000000 in
theorem mq_Sh_readPieces {l : Launch} {E : wo_E} {mc ms : Nat} {Post : Int32 → wo_W → Prop} {G : wo_W} {x0 : Nat} {x1 : Option Nat} {x2 : Int32} (hw : pq_Sh_readPieces E mc ms Post G x0 x1 x2) : Met l yq_Sh_readPieces (Cond.code yq_Sh_readPieces prog_9_method_14_code 4 ((Option.some Jvm.ClassFile.FieldType.boolean)) :: vw_WG) { frames := 6, cells := mc, slots := ms, locals := 137 } (va_Pc [.ref x0, va_rf x1, .int x2] (wo_Ok E G)) (va_Qi Post (wo_B E) (en_A E)) mc ms (en_A E) := by
  unfold pq_Sh_readPieces at hw
  exact wo_met [(1, .ref x0), (1, va_rf x1), (1, .int x2)] rfl (by decide) (fun q hq => by simp only [List.mem_cons, List.not_mem_nil, or_false] at hq; rcases hq with rfl | rfl | rfl <;> first | rfl | exact lx_cR _) (Nat.le_of_ble_eq_true rfl) (fun p e R s m args below meth cd ls hC hG hS hl => tq_Sh_readPieces_0 hC hw hG hS (lx_sub hl [0, 1, 2] rfl) (Nat.zero_le _) (Nat.zero_le _))

theorem dq_Sh_whole_0 : decode prog_9_method_8_code 0 = .ok (.aload_n 0, 1) := by decide +kernel
theorem dq_Sh_whole_1 : decode prog_9_method_8_code 1 = .ok (.sipush 200, 3) := by decide +kernel
theorem dq_Sh_whole_4 : decode prog_9_method_8_code 4 = .ok (.aload_n 1, 1) := by decide +kernel
theorem dq_Sh_whole_5 : decode prog_9_method_8_code 5 = .ok (.iload_n 2, 1) := by decide +kernel
theorem dq_Sh_whole_6 : decode prog_9_method_8_code 6 = .ok (.invokevirtual 66, 3) := by decide +kernel
theorem dq_Sh_whole_9 : decode prog_9_method_8_code 9 = .ok (.aload_n 0, 1) := by decide +kernel
theorem dq_Sh_whole_10 : decode prog_9_method_8_code 10 = .ok (.bipush 76, 2) := by decide +kernel
theorem dq_Sh_whole_12 : decode prog_9_method_8_code 12 = .ok (.aload_n 1, 1) := by decide +kernel
theorem dq_Sh_whole_13 : decode prog_9_method_8_code 13 = .ok (.getfield 77, 3) := by decide +kernel
theorem dq_Sh_whole_16 : decode prog_9_method_8_code 16 = .ok (.invokevirtual 80, 3) := by decide +kernel
theorem dq_Sh_whole_19 : decode prog_9_method_8_code 19 = .ok (.invokevirtual 29, 3) := by decide +kernel
theorem dq_Sh_whole_22 : decode prog_9_method_8_code 22 = .ok (.aload_n 0, 1) := by decide +kernel
theorem dq_Sh_whole_23 : decode prog_9_method_8_code 23 = .ok (.getfield 12, 3) := by decide +kernel
theorem dq_Sh_whole_26 : decode prog_9_method_8_code 26 = .ok (.bipush 10, 2) := by decide +kernel
theorem dq_Sh_whole_28 : decode prog_9_method_8_code 28 = .ok (.invokevirtual 33, 3) := by decide +kernel
theorem dq_Sh_whole_31 : decode prog_9_method_8_code 31 = .ok (.pop, 1) := by decide +kernel
theorem dq_Sh_whole_32 : decode prog_9_method_8_code 32 = .ok (.iload_n 3, 1) := by decide +kernel
theorem dq_Sh_whole_33 : decode prog_9_method_8_code 33 = .ok (.ifCond .eq 15, 3) := by decide +kernel
theorem dq_Sh_whole_36 : decode prog_9_method_8_code 36 = .ok (.aload_n 0, 1) := by decide +kernel
theorem dq_Sh_whole_37 : decode prog_9_method_8_code 37 = .ok (.getfield 12, 3) := by decide +kernel
theorem dq_Sh_whole_40 : decode prog_9_method_8_code 40 = .ok (.aload_n 1, 1) := by decide +kernel
theorem dq_Sh_whole_41 : decode prog_9_method_8_code 41 = .ok (.getfield 77, 3) := by decide +kernel
theorem dq_Sh_whole_44 : decode prog_9_method_8_code 44 = .ok (.invokevirtual 109, 3) := by decide +kernel
theorem dq_Sh_whole_47 : decode prog_9_method_8_code 47 = .ok (.pop, 1) := by decide +kernel
theorem dq_Sh_whole_48 : decode prog_9_method_8_code 48 = .ok (.return_, 1) := by decide +kernel
set_option maxRecDepth 100000 in
def pq_Sh_whole_48 (E : wo_E) (mc ms : Nat) (Post : wo_W → Prop) (G : wo_W) (c s : Nat) : Prop := Post G
set_option maxRecDepth 100000 in
def pq_Sh_whole_0 (E : wo_E) (mc ms : Nat) (Post : wo_W → Prop) (G : wo_W) (c s : Nat) (x0 : Nat) (x1 : Option Nat) (x2 : Int32) (x3 : Int32) : Prop := wo_ty G x0 = 4 ∧ ∃ mc2 ms3 : Nat, (c + mc2) ≤ mc ∧ (s + ms3) ≤ ms ∧ pq_Sh_describe E mc2 ms3 (fun G4 => 
  ∃ a5 : Nat, x1 = some a5 ∧ wo_ty G4 a5 = 13 ∧ ∀ r7 : Option Nat, r7 = wo_gr G4 769 a5 → ∃ a9 : Nat, r7 = some a9 ∧ wo_ty G4 a9 = 10 ∧ ∃ mc11 ms12 : Nat, ((c + mc2) + mc11) ≤ mc ∧ ((s + ms3) + ms12) ≤ ms ∧ pq_St_length E mc11 ms12 (fun v14 G13 => 
    wo_ty G13 x0 = 4 ∧ ∃ mc16 ms17 : Nat, (((c + mc2) + mc11) + mc16) ≤ mc ∧ (((s + ms3) + ms12) + ms17) ≤ ms ∧ pq_Sh_numberLine E mc16 ms17 (fun G18 => 
      wo_ty G18 x0 = 4 ∧ ∀ r20 : Option Nat, r20 = wo_gr G18 192 x0 → ∃ a22 : Nat, r20 = some a22 ∧ wo_ty G18 a22 = 5 ∧ ∃ mc24 ms25 : Nat, ((((c + mc2) + mc11) + mc16) + mc24) ≤ mc ∧ ((((s + ms3) + ms12) + ms17) + ms25) ≤ ms ∧ pq_SB_append_C E mc24 ms25 (fun v27 G26 => 
        ((x3 = (0 : Int32) → pq_Sh_whole_48 E mc ms Post G26 ((((c + mc2) + mc11) + mc16) + mc24) ((((s + ms3) + ms12) + ms17) + ms25)) ∧
          (¬ x3 = (0 : Int32) → wo_ty G26 x0 = 4 ∧ ∀ r29 : Option Nat, r29 = wo_gr G26 192 x0 → wo_ty G26 a5 = 13 ∧ ∀ r32 : Option Nat, r32 = wo_gr G26 769 a5 → ∃ a34 : Nat, r29 = some a34 ∧ wo_ty G26 a34 = 5 ∧ ∃ mc36 ms37 : Nat, (((((c + mc2) + mc11) + mc16) + mc24) + mc36) ≤ mc ∧ (((((s + ms3) + ms12) + ms17) + ms25) + ms37) ≤ ms ∧ pq_SB_append_S E mc36 ms37 (fun v39 G38 => 
            pq_Sh_whole_48 E mc ms Post G38 (((((c + mc2) + mc11) + mc16) + mc24) + mc36) (((((s + ms3) + ms12) + ms17) + ms25) + ms37)) G26 a34 r32))) G18 a22 (10 : Int32)) G13 x0 (76 : Int32) v14) G4 a9) G x0 (200 : Int32) x1 x2
def pq_Sh_whole (E : wo_E) (mc ms : Nat) (Post : wo_W → Prop) (G : wo_W) (x0 : Nat) (x1 : Option Nat) (x2 : Int32) (x3 : Int32) : Prop := pq_Sh_whole_0 E mc ms Post G 0 0 x0 x1 x2 x3
set_option maxRecDepth 100000 in
set_option maxHeartbeats 4000000 in
theorem tq_Sh_whole_48 {p : Program} {l : Launch} {e : Env} {R : Room} {s₀ : State} {m : MethodId} {args : Array Value} {below : List Frame} {meth : Method} {cd : Code} {E : wo_E} {mc ms : Nat} {Post : wo_W → Prop} (hC : wo_Cx E "EdgeCache$Sheet" prog_9_method_8_code 4 8 187 ((Option.none : Option Jvm.ClassFile.FieldType)) "whole" mc ms p R s₀ m args meth cd) : ∀ {G : wo_W} {c s : Nat}, pq_Sh_whole_48 E mc ms Post G c s → ∀ {H : Heap} {locs : List Loc} {ls : Array Slot}, wo_Se E G H → va_S (en_A E) s₀.heap H locs → lx_has ls 4 [] → c ≤ mc → s ≤ ms → W p l e R s₀ m args below meth cd H locs c s (MQ below (va_Qv Post (wo_B E) (en_A E)) args s₀ mc ms (en_A E)) (F0 m 48 ls []) := by
  intro G c s hw H locs ls hG hS hl hcc hss
  dsimp only [pq_Sh_whole_48] at hw
  have hx := hC.1
  have hb := hC.2.1
  exact wo_vret hC hG hS hcc hss hw dq_Sh_whole_48
set_option maxRecDepth 100000 in
set_option maxHeartbeats 4000000 in
theorem tq_Sh_whole_0 {p : Program} {l : Launch} {e : Env} {R : Room} {s₀ : State} {m : MethodId} {args : Array Value} {below : List Frame} {meth : Method} {cd : Code} {E : wo_E} {mc ms : Nat} {Post : wo_W → Prop} (hC : wo_Cx E "EdgeCache$Sheet" prog_9_method_8_code 4 8 187 ((Option.none : Option Jvm.ClassFile.FieldType)) "whole" mc ms p R s₀ m args meth cd) : ∀ {G : wo_W} {c s : Nat} {x0 : Nat} {x1 : Option Nat} {x2 : Int32} {x3 : Int32}, pq_Sh_whole_0 E mc ms Post G c s x0 x1 x2 x3 → ∀ {H : Heap} {locs : List Loc} {ls : Array Slot}, wo_Se E G H → va_S (en_A E) s₀.heap H locs → lx_has ls 4 [(0, 1, .ref x0), (1, 1, va_rf x1), (2, 1, .int x2), (3, 1, .int x3)] → c ≤ mc → s ≤ ms → W p l e R s₀ m args below meth cd H locs c s (MQ below (va_Qv Post (wo_B E) (en_A E)) args s₀ mc ms (en_A E)) (F0 m 0 ls []) := by
  intro G c s x0 x1 x2 x3 hw H locs ls hG hS hl hcc hss
  dsimp only [pq_Sh_whole_0] at hw
  have hx := hC.1
  have hb := hC.2.1
  refine lv_aload_n hx hb dq_Sh_whole_0 rfl (lx_at hl 0 rfl) ?_
  refine lv_sipush (v := (200 : Int32)) hx hb dq_Sh_whole_1 rfl ?_
  refine lx_aloadR_n hx hb dq_Sh_whole_4 rfl (lx_at hl 1 rfl) ?_
  refine lv_iload_n hx hb dq_Sh_whole_5 rfl (lx_at hl 2 rfl) ?_
  obtain ⟨t1, hw⟩ := hw
  obtain ⟨mc2, ms3, hc1, hs1, hw⟩ := hw
  refine va_callv (wo_runV hC lq_Sh_66 (mq_Sh_describe hw) hG hS t1 rfl (lx_sz hl) rfl (Nat.zero_le _) (by decide) dq_Sh_whole_6 ⟨hc1, hs1⟩) hS (fun _ _ h => h) (fun _ h => h) (fun G4 t H locs ht hvm hw' hB _ _ hS => ?_)
  clear hw
  have hw := hw'
  clear hw'
  replace hG := wo_bk ht hB
  replace hcc := hc1
  replace hss := hs1
  refine lv_aload_n hx hb dq_Sh_whole_9 rfl (lx_at hl 0 rfl) ?_
  refine lv_bipush (v := (76 : Int32)) hx hb dq_Sh_whole_10 rfl ?_
  refine lx_aloadR_n hx hb dq_Sh_whole_12 rfl (lx_at hl 1 rfl) ?_
  obtain ⟨a5, rfl, hw⟩ := hw
  obtain ⟨t6, hw⟩ := hw
  refine wo_getR hC fq_Sh_77 rfl hG t6 dq_Sh_whole_13 (fun r7 e8 => ?_)
  replace hw := hw r7 e8
  obtain ⟨a9, rfl, hw⟩ := hw
  obtain ⟨t10, hw⟩ := hw
  obtain ⟨mc11, ms12, hc1, hs1, hw⟩ := hw
  refine va_calli (wo_runV hC lq_Sh_80 (mq_St_length hw) hG hS t10 rfl (lx_sz hl) rfl (lx_rm (Nat.le_of_ble_eq_true rfl)) (by decide) dq_Sh_whole_16 ⟨hc1, hs1⟩) hS (fun _ _ h => h) (fun _ h => h) (fun v14 G13 t H locs ht hvm hw' hB _ _ hS => ?_)
  clear hw
  have hw := hw'
  clear hw'
  replace hG := wo_bk ht hB
  replace hcc := hc1
  replace hss := hs1
  obtain ⟨t15, hw⟩ := hw
  obtain ⟨mc16, ms17, hc1, hs1, hw⟩ := hw
  refine va_callv (wo_runV hC lq_Sh_29 (mq_Sh_numberLine hw) hG hS t15 rfl (lx_sz hl) rfl (Nat.zero_le _) (by decide) dq_Sh_whole_19 ⟨hc1, hs1⟩) hS (fun _ _ h => h) (fun _ h => h) (fun G18 t H locs ht hvm hw' hB _ _ hS => ?_)
  clear hw
  have hw := hw'
  clear hw'
  replace hG := wo_bk ht hB
  replace hcc := hc1
  replace hss := hs1
  refine lv_aload_n hx hb dq_Sh_whole_22 rfl (lx_at hl 0 rfl) ?_
  obtain ⟨t19, hw⟩ := hw
  refine wo_getR hC fq_Sh_12 rfl hG t19 dq_Sh_whole_23 (fun r20 e21 => ?_)
  replace hw := hw r20 e21
  refine lv_bipush (v := (10 : Int32)) hx hb dq_Sh_whole_26 rfl ?_
  obtain ⟨a22, rfl, hw⟩ := hw
  obtain ⟨t23, hw⟩ := hw
  obtain ⟨mc24, ms25, hc1, hs1, hw⟩ := hw
  refine va_callq (wo_runV hC lq_Sh_33 (mq_SB_append_C hw) hG hS t23 rfl (lx_sz hl) rfl (Nat.zero_le _) (by decide) dq_Sh_whole_28 ⟨hc1, hs1⟩) hS (fun _ _ h => h) (fun _ h => h) (fun v27 G26 t H locs ht hvm hw' hB _ _ hS => ?_)
  clear hw
  have hw := hw'
  clear hw'
  replace hG := wo_bk ht hB
  replace hcc := hc1
  replace hss := hs1
  refine lv_pop hx hb dq_Sh_whole_31 (lx_cR _) ?_
  refine lv_iload_n hx hb dq_Sh_whole_32 rfl (lx_at hl 3 rfl) ?_
  refine lv_if_eq (tgt := 48) hx hb dq_Sh_whole_33 rfl (fun h => ?_) (fun h => ?_)
  · replace hw := hw.1 h
    exact tq_Sh_whole_48 hC hw hG hS (lx_sub hl [] rfl) hcc hss
  · replace hw := hw.2 h
    refine lv_aload_n hx hb dq_Sh_whole_36 rfl (lx_at hl 0 rfl) ?_
    obtain ⟨t28, hw⟩ := hw
    refine wo_getR hC fq_Sh_12 rfl hG t28 dq_Sh_whole_37 (fun r29 e30 => ?_)
    replace hw := hw r29 e30
    refine lv_aload_n hx hb dq_Sh_whole_40 rfl (lx_at hl 1 rfl) ?_
    obtain ⟨t31, hw⟩ := hw
    refine wo_getR hC fq_Sh_77 rfl hG t31 dq_Sh_whole_41 (fun r32 e33 => ?_)
    replace hw := hw r32 e33
    obtain ⟨a34, rfl, hw⟩ := hw
    obtain ⟨t35, hw⟩ := hw
    obtain ⟨mc36, ms37, hc1, hs1, hw⟩ := hw
    refine va_callq (wo_runV hC lq_Sh_109 (mq_SB_append_S hw) hG hS t35 rfl (lx_sz hl) rfl (Nat.zero_le _) (by decide) dq_Sh_whole_44 ⟨hc1, hs1⟩) hS (fun _ _ h => h) (fun _ h => h) (fun v39 G38 t H locs ht hvm hw' hB _ _ hS => ?_)
    clear hw
    have hw := hw'
    clear hw'
    replace hG := wo_bk ht hB
    replace hcc := hc1
    replace hss := hs1
    refine lv_pop hx hb dq_Sh_whole_47 (lx_cR _) ?_
    exact tq_Sh_whole_48 hC hw hG hS (lx_sub hl [] rfl) hcc hss
set_option maxHeartbeats 4000000 in
theorem mq_Sh_whole {l : Launch} {E : wo_E} {mc ms : Nat} {Post : wo_W → Prop} {G : wo_W} {x0 : Nat} {x1 : Option Nat} {x2 : Int32} {x3 : Int32} (hw : pq_Sh_whole E mc ms Post G x0 x1 x2 x3) : Met l yq_Sh_whole (Cond.code yq_Sh_whole prog_9_method_8_code 4 ((Option.none : Option Jvm.ClassFile.FieldType)) :: vw_WG) { frames := 8, cells := mc, slots := ms, locals := 187 } (va_Pc [.ref x0, va_rf x1, .int x2, .int x3] (wo_Ok E G)) (va_Qv Post (wo_B E) (en_A E)) mc ms (en_A E) := by
  unfold pq_Sh_whole at hw
  exact wo_met [(1, .ref x0), (1, va_rf x1), (1, .int x2), (1, .int x3)] rfl (by decide) (fun q hq => by simp only [List.mem_cons, List.not_mem_nil, or_false] at hq; rcases hq with rfl | rfl | rfl | rfl <;> first | rfl | exact lx_cR _) (Nat.le_of_ble_eq_true rfl) (fun p e R s m args below meth cd ls hC hG hS hl => tq_Sh_whole_0 hC hw hG hS (lx_sub hl [0, 1, 2, 3] rfl) (Nat.zero_le _) (Nat.zero_le _))

theorem dq_La_equals_0 : decode prog_24_method_13_code 0 = .ok (.aload_n 0, 1) := by decide +kernel
theorem dq_La_equals_1 : decode prog_24_method_13_code 1 = .ok (.arraylength, 1) := by decide +kernel
theorem dq_La_equals_2 : decode prog_24_method_13_code 2 = .ok (.aload_n 1, 1) := by decide +kernel
theorem dq_La_equals_3 : decode prog_24_method_13_code 3 = .ok (.arraylength, 1) := by decide +kernel
theorem dq_La_equals_4 : decode prog_24_method_13_code 4 = .ok (.if_icmp .ne 30, 3) := by decide +kernel
theorem dq_La_equals_7 : decode prog_24_method_13_code 7 = .ok (.iconst 0, 1) := by decide +kernel
theorem dq_La_equals_8 : decode prog_24_method_13_code 8 = .ok (.istore_n 2, 1) := by decide +kernel
theorem dq_La_equals_9 : decode prog_24_method_13_code 9 = .ok (.iload_n 2, 1) := by decide +kernel
theorem dq_La_equals_10 : decode prog_24_method_13_code 10 = .ok (.aload_n 0, 1) := by decide +kernel
theorem dq_La_equals_11 : decode prog_24_method_13_code 11 = .ok (.arraylength, 1) := by decide +kernel
theorem dq_La_equals_12 : decode prog_24_method_13_code 12 = .ok (.if_icmp .ge 20, 3) := by decide +kernel
theorem dq_La_equals_15 : decode prog_24_method_13_code 15 = .ok (.aload_n 0, 1) := by decide +kernel
theorem dq_La_equals_16 : decode prog_24_method_13_code 16 = .ok (.iload_n 2, 1) := by decide +kernel
theorem dq_La_equals_17 : decode prog_24_method_13_code 17 = .ok (.baload, 1) := by decide +kernel
theorem dq_La_equals_18 : decode prog_24_method_13_code 18 = .ok (.aload_n 1, 1) := by decide +kernel
theorem dq_La_equals_19 : decode prog_24_method_13_code 19 = .ok (.iload_n 2, 1) := by decide +kernel
theorem dq_La_equals_20 : decode prog_24_method_13_code 20 = .ok (.baload, 1) := by decide +kernel
theorem dq_La_equals_21 : decode prog_24_method_13_code 21 = .ok (.if_icmp .eq 5, 3) := by decide +kernel
theorem dq_La_equals_24 : decode prog_24_method_13_code 24 = .ok (.iconst 0, 1) := by decide +kernel
theorem dq_La_equals_25 : decode prog_24_method_13_code 25 = .ok (.ireturn, 1) := by decide +kernel
theorem dq_La_equals_26 : decode prog_24_method_13_code 26 = .ok (.iinc 2 1, 3) := by decide +kernel
theorem dq_La_equals_29 : decode prog_24_method_13_code 29 = .ok (.goto (-20), 3) := by decide +kernel
theorem dq_La_equals_32 : decode prog_24_method_13_code 32 = .ok (.iconst 1, 1) := by decide +kernel
theorem dq_La_equals_33 : decode prog_24_method_13_code 33 = .ok (.ireturn, 1) := by decide +kernel
theorem dq_La_equals_34 : decode prog_24_method_13_code 34 = .ok (.iconst 0, 1) := by decide +kernel
theorem dq_La_equals_35 : decode prog_24_method_13_code 35 = .ok (.ireturn, 1) := by decide +kernel
set_option maxRecDepth 100000 in
def pq_La_equals_9 (E : wo_E) (mc ms : Nat) (Post : Int32 → wo_W → Prop) : Nat → wo_W → Nat → Nat → Option Nat → Option Nat → Int32 → Prop
  | 0 => fun _ _ _ _ _ _ => False
  | n + 1 => fun G c s x0 x1 x2 => ∃ a1 : Nat, x0 = some a1 ∧ wo_ty G a1 = 65 ∧ (((nI (wo_len G a1)) ≤ x2 → Post (1 : Int32) G) ∧
  (¬ (nI (wo_len G a1)) ≤ x2 → vp_in x2 (wo_len G a1) ∧ ∃ a4 : Nat, x1 = some a4 ∧ wo_ty G a4 = 65 ∧ vp_in x2 (wo_len G a4) ∧ (((wo_ei G a1 x2.toNatClampNeg) = (wo_ei G a4 x2.toNatClampNeg) → pq_La_equals_9 E mc ms Post n G c s (some a1) (some a4) (x2 + (1 : Int32))) ∧
    (¬ (wo_ei G a1 x2.toNatClampNeg) = (wo_ei G a4 x2.toNatClampNeg) → Post (0 : Int32) G))))
set_option maxRecDepth 100000 in
def pq_La_equals_0 (E : wo_E) (mc ms : Nat) (Post : Int32 → wo_W → Prop) (G : wo_W) (c s : Nat) (x0 : Option Nat) (x1 : Option Nat) : Prop := ∃ a1 : Nat, x0 = some a1 ∧ wo_ty G a1 = 65 ∧ ∃ a3 : Nat, x1 = some a3 ∧ wo_ty G a3 = 65 ∧ ((¬ (nI (wo_len G a1)) = (nI (wo_len G a3)) → Post (0 : Int32) G) ∧
  ((nI (wo_len G a1)) = (nI (wo_len G a3)) → ∃ n1 : Nat, pq_La_equals_9 E mc ms Post n1 G c s (some a1) (some a3) (0 : Int32)))
def pq_La_equals (E : wo_E) (mc ms : Nat) (Post : Int32 → wo_W → Prop) (G : wo_W) (x0 : Option Nat) (x1 : Option Nat) : Prop := pq_La_equals_0 E mc ms Post G 0 0 x0 x1
set_option maxRecDepth 100000 in
set_option maxHeartbeats 4000000 in
theorem tq_La_equals_9 {p : Program} {l : Launch} {e : Env} {R : Room} {s₀ : State} {m : MethodId} {args : Array Value} {below : List Frame} {meth : Method} {cd : Code} {E : wo_E} {mc ms : Nat} {Post : Int32 → wo_W → Prop} (hC : wo_Cx E "java/lang/StringLatin1" prog_24_method_13_code 3 0 0 ((Option.some Jvm.ClassFile.FieldType.boolean)) "equals" mc ms p R s₀ m args meth cd) : ∀ n : Nat, ∀ {G : wo_W} {c s : Nat} {x0 : Option Nat} {x1 : Option Nat} {x2 : Int32}, pq_La_equals_9 E mc ms Post n G c s x0 x1 x2 → ∀ {H : Heap} {locs : List Loc} {ls : Array Slot}, wo_Se E G H → va_S (en_A E) s₀.heap H locs → lx_has ls 3 [(0, 1, va_rf x0), (1, 1, va_rf x1), (2, 1, .int x2)] → c ≤ mc → s ≤ ms → W p l e R s₀ m args below meth cd H locs c s (MQ below (va_Qi Post (wo_B E) (en_A E)) args s₀ mc ms (en_A E)) (F0 m 9 ls []) := by
  intro n
  induction n with
  | zero => intro G c s x0 x1 x2 hw; exact hw.elim
  | succ n ih =>
    intro G c s x0 x1 x2 hw H locs ls hG hS hl hcc hss
    dsimp only [pq_La_equals_9] at hw
    have hx := hC.1
    have hb := hC.2.1
    refine lv_iload_n hx hb dq_La_equals_9 rfl (lx_at hl 2 rfl) ?_
    refine lx_aloadR_n hx hb dq_La_equals_10 rfl (lx_at hl 0 rfl) ?_
    obtain ⟨a1, rfl, hw⟩ := hw
    obtain ⟨t2, hw⟩ := hw
    refine wo_alen (j := 1) hC rfl hG t2 dq_La_equals_11 ?_
    refine lv_icmp_ge (tgt := 32) hx hb dq_La_equals_12 rfl (fun h => ?_) (fun h => ?_)
    · replace hw := hw.1 h
      refine lv_iconst (v := (1 : Int32)) hx hb dq_La_equals_32 rfl ?_
      exact wo_zret hC wo_z1 hG hS hcc hss hw dq_La_equals_33
    · replace hw := hw.2 h
      refine lv_aload_n hx hb dq_La_equals_15 rfl (lx_at hl 0 rfl) ?_
      refine lv_iload_n hx hb dq_La_equals_16 rfl (lx_at hl 2 rfl) ?_
      obtain ⟨h3, hw⟩ := hw
      refine wo_bald (j := 1) hC rfl hG t2 h3 dq_La_equals_17 ?_
      refine lx_aloadR_n hx hb dq_La_equals_18 rfl (lx_at hl 1 rfl) ?_
      refine lv_iload_n hx hb dq_La_equals_19 rfl (lx_at hl 2 rfl) ?_
      obtain ⟨a4, rfl, hw⟩ := hw
      obtain ⟨t5, hw⟩ := hw
      obtain ⟨h6, hw⟩ := hw
      refine wo_bald (j := 1) hC rfl hG t5 h6 dq_La_equals_20 ?_
      refine lv_icmp_eq (tgt := 26) hx hb dq_La_equals_21 rfl (fun h => ?_) (fun h => ?_)
      · replace hw := hw.1 h
        refine lx_iinc (k := 2) (v := (x2 + (1 : Int32))) (lv' := [(2, 1, .int (x2 + (1 : Int32))), (0, 1, .ref a1), (1, 1, .ref a4)]) hx hb dq_La_equals_26 hl rfl rfl (by decide) rfl (fun ls hl' => ?_)
        clear hl
        have hl := hl'
        clear hl'
        refine lv_goto (tgt := 9) hx hb dq_La_equals_29 rfl ?_
        exact ih hw hG hS (lx_sub hl [1, 2, 0] rfl) hcc hss
      · replace hw := hw.2 h
        refine lv_iconst (v := (0 : Int32)) hx hb dq_La_equals_24 rfl ?_
        exact wo_zret hC wo_z0 hG hS hcc hss hw dq_La_equals_25
set_option maxRecDepth 100000 in
set_option maxHeartbeats 4000000 in
theorem tq_La_equals_0 {p : Program} {l : Launch} {e : Env} {R : Room} {s₀ : State} {m : MethodId} {args : Array Value} {below : List Frame} {meth : Method} {cd : Code} {E : wo_E} {mc ms : Nat} {Post : Int32 → wo_W → Prop} (hC : wo_Cx E "java/lang/StringLatin1" prog_24_method_13_code 3 0 0 ((Option.some Jvm.ClassFile.FieldType.boolean)) "equals" mc ms p R s₀ m args meth cd) : ∀ {G : wo_W} {c s : Nat} {x0 : Option Nat} {x1 : Option Nat}, pq_La_equals_0 E mc ms Post G c s x0 x1 → ∀ {H : Heap} {locs : List Loc} {ls : Array Slot}, wo_Se E G H → va_S (en_A E) s₀.heap H locs → lx_has ls 3 [(0, 1, va_rf x0), (1, 1, va_rf x1)] → c ≤ mc → s ≤ ms → W p l e R s₀ m args below meth cd H locs c s (MQ below (va_Qi Post (wo_B E) (en_A E)) args s₀ mc ms (en_A E)) (F0 m 0 ls []) := by
  intro G c s x0 x1 hw H locs ls hG hS hl hcc hss
  dsimp only [pq_La_equals_0] at hw
  have hx := hC.1
  have hb := hC.2.1
  refine lx_aloadR_n hx hb dq_La_equals_0 rfl (lx_at hl 0 rfl) ?_
  obtain ⟨a1, rfl, hw⟩ := hw
  obtain ⟨t2, hw⟩ := hw
  refine wo_alen (j := 1) hC rfl hG t2 dq_La_equals_1 ?_
  refine lx_aloadR_n hx hb dq_La_equals_2 rfl (lx_at hl 1 rfl) ?_
  obtain ⟨a3, rfl, hw⟩ := hw
  obtain ⟨t4, hw⟩ := hw
  refine wo_alen (j := 1) hC rfl hG t4 dq_La_equals_3 ?_
  refine lv_icmp_ne (tgt := 34) hx hb dq_La_equals_4 rfl (fun h => ?_) (fun h => ?_)
  · replace hw := hw.1 h
    refine lv_iconst (v := (0 : Int32)) hx hb dq_La_equals_34 rfl ?_
    exact wo_zret hC wo_z0 hG hS hcc hss hw dq_La_equals_35
  · replace hw := hw.2 h
    refine lv_iconst (v := (0 : Int32)) hx hb dq_La_equals_7 rfl ?_
    refine lx_istore_n (lv' := [(2, 1, .int (0 : Int32)), (0, 1, .ref a1), (1, 1, .ref a3)]) hx hb dq_La_equals_8 rfl hl (by decide) rfl (fun ls hl' => ?_)
    clear hl
    have hl := hl'
    clear hl'
    obtain ⟨n1, hw⟩ := hw
    exact tq_La_equals_9 hC n1 hw hG hS (lx_sub hl [1, 2, 0] rfl) hcc hss
set_option maxHeartbeats 4000000 in
theorem mq_La_equals {l : Launch} {E : wo_E} {mc ms : Nat} {Post : Int32 → wo_W → Prop} {G : wo_W} {x0 : Option Nat} {x1 : Option Nat} (hw : pq_La_equals E mc ms Post G x0 x1) : Met l yq_La_equals (Cond.code yq_La_equals prog_24_method_13_code 3 ((Option.some Jvm.ClassFile.FieldType.boolean)) :: vw_WG) { frames := 0, cells := mc, slots := ms, locals := 0 } (va_Pc [va_rf x0, va_rf x1] (wo_Ok E G)) (va_Qi Post (wo_B E) (en_A E)) mc ms (en_A E) := by
  unfold pq_La_equals at hw
  exact wo_met [(1, va_rf x0), (1, va_rf x1)] rfl (by decide) (fun q hq => by simp only [List.mem_cons, List.not_mem_nil, or_false] at hq; rcases hq with rfl | rfl <;> first | rfl | exact lx_cR _) (Nat.le_of_ble_eq_true rfl) (fun p e R s m args below meth cd ls hC hG hS hl => tq_La_equals_0 hC hw hG hS (lx_sub hl [0, 1] rfl) (Nat.zero_le _) (Nat.zero_le _))

theorem dq_St_equals_0 : decode prog_22_method_66_code 0 = .ok (.aload_n 0, 1) := by decide +kernel
theorem dq_St_equals_1 : decode prog_22_method_66_code 1 = .ok (.aload_n 1, 1) := by decide +kernel
theorem dq_St_equals_2 : decode prog_22_method_66_code 2 = .ok (.if_acmp .ne 5, 3) := by decide +kernel
theorem dq_St_equals_5 : decode prog_22_method_66_code 5 = .ok (.iconst 1, 1) := by decide +kernel
theorem dq_St_equals_6 : decode prog_22_method_66_code 6 = .ok (.ireturn, 1) := by decide +kernel
theorem dq_St_equals_7 : decode prog_22_method_66_code 7 = .ok (.aload_n 1, 1) := by decide +kernel
theorem dq_St_equals_8 : decode prog_22_method_66_code 8 = .ok (.instanceof 10, 3) := by decide +kernel
theorem dq_St_equals_11 : decode prog_22_method_66_code 11 = .ok (.ifCond .eq 43, 3) := by decide +kernel
theorem dq_St_equals_14 : decode prog_22_method_66_code 14 = .ok (.aload_n 1, 1) := by decide +kernel
theorem dq_St_equals_15 : decode prog_22_method_66_code 15 = .ok (.checkcast 10, 3) := by decide +kernel
theorem dq_St_equals_18 : decode prog_22_method_66_code 18 = .ok (.astore_n 2, 1) := by decide +kernel
theorem dq_St_equals_19 : decode prog_22_method_66_code 19 = .ok (.getstatic 38, 3) := by decide +kernel
theorem dq_St_equals_22 : decode prog_22_method_66_code 22 = .ok (.ifCond .eq 14, 3) := by decide +kernel
theorem dq_St_equals_25 : decode prog_22_method_66_code 25 = .ok (.aload_n 0, 1) := by decide +kernel
theorem dq_St_equals_26 : decode prog_22_method_66_code 26 = .ok (.getfield 15, 3) := by decide +kernel
theorem dq_St_equals_29 : decode prog_22_method_66_code 29 = .ok (.aload_n 2, 1) := by decide +kernel
theorem dq_St_equals_30 : decode prog_22_method_66_code 30 = .ok (.getfield 15, 3) := by decide +kernel
theorem dq_St_equals_33 : decode prog_22_method_66_code 33 = .ok (.if_icmp .ne 21, 3) := by decide +kernel
theorem dq_St_equals_36 : decode prog_22_method_66_code 36 = .ok (.aload_n 0, 1) := by decide +kernel
theorem dq_St_equals_37 : decode prog_22_method_66_code 37 = .ok (.getfield 9, 3) := by decide +kernel
theorem dq_St_equals_40 : decode prog_22_method_66_code 40 = .ok (.aload_n 2, 1) := by decide +kernel
theorem dq_St_equals_41 : decode prog_22_method_66_code 41 = .ok (.getfield 9, 3) := by decide +kernel
theorem dq_St_equals_44 : decode prog_22_method_66_code 44 = .ok (.invokestatic 541, 3) := by decide +kernel
theorem dq_St_equals_47 : decode prog_22_method_66_code 47 = .ok (.ifCond .eq 7, 3) := by decide +kernel
theorem dq_St_equals_50 : decode prog_22_method_66_code 50 = .ok (.iconst 1, 1) := by decide +kernel
theorem dq_St_equals_51 : decode prog_22_method_66_code 51 = .ok (.goto 4, 3) := by decide +kernel
theorem dq_St_equals_54 : decode prog_22_method_66_code 54 = .ok (.iconst 0, 1) := by decide +kernel
theorem dq_St_equals_55 : decode prog_22_method_66_code 55 = .ok (.ireturn, 1) := by decide +kernel
set_option maxRecDepth 100000 in
def pq_St_equals_55 (E : wo_E) (mc ms : Nat) (Post : Int32 → wo_W → Prop) (G : wo_W) (c s : Nat) (y0 : Int32) : Prop := wo_okI .boolean y0 ∧ Post y0 G
set_option maxRecDepth 100000 in
def pq_St_equals_54 (E : wo_E) (mc ms : Nat) (Post : Int32 → wo_W → Prop) (G : wo_W) (c s : Nat) : Prop := pq_St_equals_55 E mc ms Post G c s (0 : Int32)
set_option maxRecDepth 100000 in
def pq_St_equals_36 (E : wo_E) (mc ms : Nat) (Post : Int32 → wo_W → Prop) (G : wo_W) (c s : Nat) (x0 : Nat) (x2 : Option Nat) : Prop := wo_ty G x0 = 10 ∧ ∀ r2 : Option Nat, r2 = wo_gr G 576 x0 → ∃ a4 : Nat, x2 = some a4 ∧ wo_ty G a4 = 10 ∧ ∀ r6 : Option Nat, r6 = wo_gr G 576 a4 → ∃ mc8 ms9 : Nat, (c + mc8) ≤ mc ∧ (s + ms9) ≤ ms ∧ pq_La_equals E mc8 ms9 (fun v11 G10 => 
  ((v11 = (0 : Int32) → pq_St_equals_54 E mc ms Post G10 (c + mc8) (s + ms9)) ∧
    (¬ v11 = (0 : Int32) → pq_St_equals_55 E mc ms Post G10 (c + mc8) (s + ms9) (1 : Int32)))) G r2 r6
set_option maxRecDepth 100000 in
def pq_St_equals_0 (E : wo_E) (mc ms : Nat) (Post : Int32 → wo_W → Prop) (G : wo_W) (c s : Nat) (x0 : Nat) (x1 : Option Nat) : Prop := ((¬ (some x0) = x1 → ((x1 = none → pq_St_equals_54 E mc ms Post G c s) ∧
    (∀ a1 : Nat, x1 = some a1 → wo_ty G a1 = 10 ∧ wo_is G 10 (some a1) ∧ wo_ty G x0 = 10 ∧ ((¬ (wo_gi G 577 x0) = (wo_gi G 577 a1) → pq_St_equals_54 E mc ms Post G c s) ∧
      ((wo_gi G 577 x0) = (wo_gi G 577 a1) → pq_St_equals_36 E mc ms Post G c s x0 (some a1)))))) ∧
  ((some x0) = x1 → Post (1 : Int32) G))
def pq_St_equals (E : wo_E) (mc ms : Nat) (Post : Int32 → wo_W → Prop) (G : wo_W) (x0 : Nat) (x1 : Option Nat) : Prop := pq_St_equals_0 E mc ms Post G 0 0 x0 x1
set_option maxRecDepth 100000 in
set_option maxHeartbeats 4000000 in
theorem tq_St_equals_55 {p : Program} {l : Launch} {e : Env} {R : Room} {s₀ : State} {m : MethodId} {args : Array Value} {below : List Frame} {meth : Method} {cd : Code} {E : wo_E} {mc ms : Nat} {Post : Int32 → wo_W → Prop} (hC : wo_Cx E "java/lang/String" prog_22_method_66_code 3 1 22 ((Option.some Jvm.ClassFile.FieldType.boolean)) "equals" mc ms p R s₀ m args meth cd) : ∀ {G : wo_W} {c s : Nat} {y0 : Int32}, pq_St_equals_55 E mc ms Post G c s y0 → ∀ {H : Heap} {locs : List Loc} {ls : Array Slot}, wo_Se E G H → va_S (en_A E) s₀.heap H locs → lx_has ls 3 [] → c ≤ mc → s ≤ ms → W p l e R s₀ m args below meth cd H locs c s (MQ below (va_Qi Post (wo_B E) (en_A E)) args s₀ mc ms (en_A E)) (F0 m 55 ls [.int y0]) := by
  intro G c s y0 hw H locs ls hG hS hl hcc hss
  dsimp only [pq_St_equals_55] at hw
  have hx := hC.1
  have hb := hC.2.1
  obtain ⟨h1, hw⟩ := hw
  exact wo_zret hC h1.1 hG hS hcc hss hw dq_St_equals_55
set_option maxRecDepth 100000 in
set_option maxHeartbeats 4000000 in
theorem tq_St_equals_54 {p : Program} {l : Launch} {e : Env} {R : Room} {s₀ : State} {m : MethodId} {args : Array Value} {below : List Frame} {meth : Method} {cd : Code} {E : wo_E} {mc ms : Nat} {Post : Int32 → wo_W → Prop} (hC : wo_Cx E "java/lang/String" prog_22_method_66_code 3 1 22 ((Option.some Jvm.ClassFile.FieldType.boolean)) "equals" mc ms p R s₀ m args meth cd) : ∀ {G : wo_W} {c s : Nat}, pq_St_equals_54 E mc ms Post G c s → ∀ {H : Heap} {locs : List Loc} {ls : Array Slot}, wo_Se E G H → va_S (en_A E) s₀.heap H locs → lx_has ls 3 [] → c ≤ mc → s ≤ ms → W p l e R s₀ m args below meth cd H locs c s (MQ below (va_Qi Post (wo_B E) (en_A E)) args s₀ mc ms (en_A E)) (F0 m 54 ls []) := by
  intro G c s hw H locs ls hG hS hl hcc hss
  dsimp only [pq_St_equals_54] at hw
  have hx := hC.1
  have hb := hC.2.1
  refine lv_iconst (v := (0 : Int32)) hx hb dq_St_equals_54 rfl ?_
  exact tq_St_equals_55 hC hw hG hS (lx_sub hl [] rfl) hcc hss
set_option maxRecDepth 100000 in
set_option maxHeartbeats 4000000 in
theorem tq_St_equals_36 {p : Program} {l : Launch} {e : Env} {R : Room} {s₀ : State} {m : MethodId} {args : Array Value} {below : List Frame} {meth : Method} {cd : Code} {E : wo_E} {mc ms : Nat} {Post : Int32 → wo_W → Prop} (hC : wo_Cx E "java/lang/String" prog_22_method_66_code 3 1 22 ((Option.some Jvm.ClassFile.FieldType.boolean)) "equals" mc ms p R s₀ m args meth cd) : ∀ {G : wo_W} {c s : Nat} {x0 : Nat} {x2 : Option Nat}, pq_St_equals_36 E mc ms Post G c s x0 x2 → ∀ {H : Heap} {locs : List Loc} {ls : Array Slot}, wo_Se E G H → va_S (en_A E) s₀.heap H locs → lx_has ls 3 [(0, 1, .ref x0), (2, 1, va_rf x2)] → c ≤ mc → s ≤ ms → W p l e R s₀ m args below meth cd H locs c s (MQ below (va_Qi Post (wo_B E) (en_A E)) args s₀ mc ms (en_A E)) (F0 m 36 ls []) := by
  intro G c s x0 x2 hw H locs ls hG hS hl hcc hss
  dsimp only [pq_St_equals_36] at hw
  have hx := hC.1
  have hb := hC.2.1
  refine lv_aload_n hx hb dq_St_equals_36 rfl (lx_at hl 0 rfl) ?_
  obtain ⟨t1, hw⟩ := hw
  refine wo_getR hC fq_St_9 rfl hG t1 dq_St_equals_37 (fun r2 e3 => ?_)
  replace hw := hw r2 e3
  refine lx_aloadR_n hx hb dq_St_equals_40 rfl (lx_at hl 1 rfl) ?_
  obtain ⟨a4, rfl, hw⟩ := hw
  obtain ⟨t5, hw⟩ := hw
  refine wo_getR hC fq_St_9 rfl hG t5 dq_St_equals_41 (fun r6 e7 => ?_)
  replace hw := hw r6 e7
  obtain ⟨mc8, ms9, hc1, hs1, hw⟩ := hw
  refine va_calli (wo_runS hC lq_St_541 (mq_La_equals hw) hG hS rfl (lx_sz hl) rfl (Nat.zero_le _) (by decide) dq_St_equals_44 ⟨hc1, hs1⟩) hS (fun _ _ h => h) (fun _ h => h) (fun v11 G10 t H locs ht hvm hw' hB _ _ hS => ?_)
  clear hw
  have hw := hw'
  clear hw'
  replace hG := wo_bk ht hB
  replace hcc := hc1
  replace hss := hs1
  refine lv_if_eq (tgt := 54) hx hb dq_St_equals_47 rfl (fun h => ?_) (fun h => ?_)
  · replace hw := hw.1 h
    exact tq_St_equals_54 hC hw hG hS (lx_sub hl [] rfl) hcc hss
  · replace hw := hw.2 h
    refine lv_iconst (v := (1 : Int32)) hx hb dq_St_equals_50 rfl ?_
    refine lv_goto (tgt := 55) hx hb dq_St_equals_51 rfl ?_
    exact tq_St_equals_55 hC hw hG hS (lx_sub hl [] rfl) hcc hss
set_option maxRecDepth 100000 in
set_option maxHeartbeats 4000000 in
theorem tq_St_equals_0 {p : Program} {l : Launch} {e : Env} {R : Room} {s₀ : State} {m : MethodId} {args : Array Value} {below : List Frame} {meth : Method} {cd : Code} {E : wo_E} {mc ms : Nat} {Post : Int32 → wo_W → Prop} (hC : wo_Cx E "java/lang/String" prog_22_method_66_code 3 1 22 ((Option.some Jvm.ClassFile.FieldType.boolean)) "equals" mc ms p R s₀ m args meth cd) : ∀ {G : wo_W} {c s : Nat} {x0 : Nat} {x1 : Option Nat}, pq_St_equals_0 E mc ms Post G c s x0 x1 → ∀ {H : Heap} {locs : List Loc} {ls : Array Slot}, wo_Se E G H → va_S (en_A E) s₀.heap H locs → lx_has ls 3 [(0, 1, .ref x0), (1, 1, va_rf x1)] → c ≤ mc → s ≤ ms → W p l e R s₀ m args below meth cd H locs c s (MQ below (va_Qi Post (wo_B E) (en_A E)) args s₀ mc ms (en_A E)) (F0 m 0 ls []) := by
  intro G c s x0 x1 hw H locs ls hG hS hl hcc hss
  dsimp only [pq_St_equals_0] at hw
  have hx := hC.1
  have hb := hC.2.1
  refine lv_aload_n hx hb dq_St_equals_0 rfl (lx_at hl 0 rfl) ?_
  refine lx_aloadR_n hx hb dq_St_equals_1 rfl (lx_at hl 1 rfl) ?_
  refine lv_acmp_ne (rx := (some x0)) (ry := x1) (tgt := 7) hx hb dq_St_equals_2 rfl (fun h => ?_) (fun h => ?_)
  · replace hw := hw.1 h
    refine lx_aloadR_n hx hb dq_St_equals_7 rfl (lx_at hl 1 rfl) ?_
    refine wo_instR (x := x1) (c := 9) hC rfl kq_St_10 (Or.inl rfl) hG (fun a h => (hw.2 a h).1) dq_St_equals_8 (fun h => ?_) (fun a1 h => ?_)
    · replace hw := hw.1 h
      subst h
      refine lv_if_eq (tgt := 54) hx hb dq_St_equals_11 rfl (fun _ => ?_) (fun h => absurd h (by decide))
      exact tq_St_equals_54 hC hw hG hS (lx_sub hl [] rfl) hcc hss
    · replace hw := hw.2 a1 h
      obtain ⟨t2, hw⟩ := hw
      subst h
      refine lv_if_eq (tgt := 54) hx hb dq_St_equals_11 rfl (fun h => absurd h (by decide)) (fun _ => ?_)
      refine lv_aload_n hx hb dq_St_equals_14 rfl (lx_at hl 1 rfl) ?_
      obtain ⟨h3, hw⟩ := hw
      refine wo_chk (x := (some a1)) (c := 9) hC rfl kq_St_10 (Or.inl rfl) hG h3 dq_St_equals_15 ?_
      refine lx_astore_n (lv' := [(2, 1, .ref a1), (0, 1, .ref x0), (1, 1, .ref a1)]) hx hb dq_St_equals_18 rfl hl (by decide) rfl (fun ls hl' => ?_)
      clear hl
      have hl := hl'
      clear hl'
      refine wo_gstI hC sq_St_38 hS dq_St_equals_19 ?_
      refine lv_if_eq (tgt := 36) hx hb dq_St_equals_22 rfl (fun h => absurd h (by decide)) (fun _ => ?_)
      refine lv_aload_n hx hb dq_St_equals_25 rfl (lx_at hl 1 rfl) ?_
      obtain ⟨t4, hw⟩ := hw
      refine wo_getI hC fq_St_15 rfl hG t4 dq_St_equals_26 ?_
      refine lv_aload_n hx hb dq_St_equals_29 rfl (lx_at hl 0 rfl) ?_
      refine wo_getI hC fq_St_15 rfl hG t2 dq_St_equals_30 ?_
      refine lv_icmp_ne (tgt := 54) hx hb dq_St_equals_33 rfl (fun h => ?_) (fun h => ?_)
      · replace hw := hw.1 h
        exact tq_St_equals_54 hC hw hG hS (lx_sub hl [] rfl) hcc hss
      · replace hw := hw.2 h
        exact tq_St_equals_36 hC hw hG hS (lx_sub hl [1, 0] rfl) hcc hss
  · replace hw := hw.2 h
    refine lv_iconst (v := (1 : Int32)) hx hb dq_St_equals_5 rfl ?_
    exact wo_zret hC wo_z1 hG hS hcc hss hw dq_St_equals_6
set_option maxHeartbeats 4000000 in
theorem mq_St_equals {l : Launch} {E : wo_E} {mc ms : Nat} {Post : Int32 → wo_W → Prop} {G : wo_W} {x0 : Nat} {x1 : Option Nat} (hw : pq_St_equals E mc ms Post G x0 x1) : Met l yq_St_equals (Cond.code yq_St_equals prog_22_method_66_code 3 ((Option.some Jvm.ClassFile.FieldType.boolean)) :: vw_WG) { frames := 1, cells := mc, slots := ms, locals := 22 } (va_Pc [.ref x0, va_rf x1] (wo_Ok E G)) (va_Qi Post (wo_B E) (en_A E)) mc ms (en_A E) := by
  unfold pq_St_equals at hw
  exact wo_met [(1, .ref x0), (1, va_rf x1)] rfl (by decide) (fun q hq => by simp only [List.mem_cons, List.not_mem_nil, or_false] at hq; rcases hq with rfl | rfl <;> first | rfl | exact lx_cR _) (Nat.le_of_ble_eq_true rfl) (fun p e R s m args below meth cd ls hC hG hS hl => tq_St_equals_0 hC hw hG hS (lx_sub hl [0, 1] rfl) (Nat.zero_le _) (Nat.zero_le _))

theorem dq_Tx_matches_0 : decode prog_12_method_5_code 0 = .ok (.aload_n 0, 1) := by decide +kernel
theorem dq_Tx_matches_1 : decode prog_12_method_5_code 1 = .ok (.ldc 35, 2) := by decide +kernel
theorem dq_Tx_matches_3 : decode prog_12_method_5_code 3 = .ok (.invokevirtual 37, 3) := by decide +kernel
theorem dq_Tx_matches_6 : decode prog_12_method_5_code 6 = .ok (.ifCond .eq 5, 3) := by decide +kernel
theorem dq_Tx_matches_9 : decode prog_12_method_5_code 9 = .ok (.iconst 1, 1) := by decide +kernel
theorem dq_Tx_matches_10 : decode prog_12_method_5_code 10 = .ok (.ireturn, 1) := by decide +kernel
theorem dq_Tx_matches_11 : decode prog_12_method_5_code 11 = .ok (.iconst 0, 1) := by decide +kernel
theorem dq_Tx_matches_12 : decode prog_12_method_5_code 12 = .ok (.istore_n 2, 1) := by decide +kernel
theorem dq_Tx_matches_13 : decode prog_12_method_5_code 13 = .ok (.iconst 0, 1) := by decide +kernel
theorem dq_Tx_matches_14 : decode prog_12_method_5_code 14 = .ok (.istore_n 3, 1) := by decide +kernel
theorem dq_Tx_matches_15 : decode prog_12_method_5_code 15 = .ok (.iload_n 3, 1) := by decide +kernel
theorem dq_Tx_matches_16 : decode prog_12_method_5_code 16 = .ok (.aload_n 0, 1) := by decide +kernel
theorem dq_Tx_matches_17 : decode prog_12_method_5_code 17 = .ok (.invokevirtual 15, 3) := by decide +kernel
theorem dq_Tx_matches_20 : decode prog_12_method_5_code 20 = .ok (.if_icmp .gt 43, 3) := by decide +kernel
theorem dq_Tx_matches_23 : decode prog_12_method_5_code 23 = .ok (.iload_n 3, 1) := by decide +kernel
theorem dq_Tx_matches_24 : decode prog_12_method_5_code 24 = .ok (.aload_n 0, 1) := by decide +kernel
theorem dq_Tx_matches_25 : decode prog_12_method_5_code 25 = .ok (.invokevirtual 15, 3) := by decide +kernel
theorem dq_Tx_matches_28 : decode prog_12_method_5_code 28 = .ok (.if_icmp .eq 13, 3) := by decide +kernel
theorem dq_Tx_matches_31 : decode prog_12_method_5_code 31 = .ok (.aload_n 0, 1) := by decide +kernel
theorem dq_Tx_matches_32 : decode prog_12_method_5_code 32 = .ok (.iload_n 3, 1) := by decide +kernel
theorem dq_Tx_matches_33 : decode prog_12_method_5_code 33 = .ok (.invokevirtual 21, 3) := by decide +kernel
theorem dq_Tx_matches_36 : decode prog_12_method_5_code 36 = .ok (.bipush 44, 2) := by decide +kernel
theorem dq_Tx_matches_38 : decode prog_12_method_5_code 38 = .ok (.if_icmp .ne 19, 3) := by decide +kernel
theorem dq_Tx_matches_41 : decode prog_12_method_5_code 41 = .ok (.aload_n 0, 1) := by decide +kernel
theorem dq_Tx_matches_42 : decode prog_12_method_5_code 42 = .ok (.iload_n 2, 1) := by decide +kernel
theorem dq_Tx_matches_43 : decode prog_12_method_5_code 43 = .ok (.iload_n 3, 1) := by decide +kernel
theorem dq_Tx_matches_44 : decode prog_12_method_5_code 44 = .ok (.invokestatic 41, 3) := by decide +kernel
theorem dq_Tx_matches_47 : decode prog_12_method_5_code 47 = .ok (.iload_n 1, 1) := by decide +kernel
theorem dq_Tx_matches_48 : decode prog_12_method_5_code 48 = .ok (.if_icmp .ne 5, 3) := by decide +kernel
theorem dq_Tx_matches_51 : decode prog_12_method_5_code 51 = .ok (.iconst 1, 1) := by decide +kernel
theorem dq_Tx_matches_52 : decode prog_12_method_5_code 52 = .ok (.ireturn, 1) := by decide +kernel
theorem dq_Tx_matches_53 : decode prog_12_method_5_code 53 = .ok (.iload_n 3, 1) := by decide +kernel
theorem dq_Tx_matches_54 : decode prog_12_method_5_code 54 = .ok (.iconst 1, 1) := by decide +kernel
theorem dq_Tx_matches_55 : decode prog_12_method_5_code 55 = .ok (.iadd, 1) := by decide +kernel
theorem dq_Tx_matches_56 : decode prog_12_method_5_code 56 = .ok (.istore_n 2, 1) := by decide +kernel
theorem dq_Tx_matches_57 : decode prog_12_method_5_code 57 = .ok (.iinc 3 1, 3) := by decide +kernel
theorem dq_Tx_matches_60 : decode prog_12_method_5_code 60 = .ok (.goto (-45), 3) := by decide +kernel
theorem dq_Tx_matches_63 : decode prog_12_method_5_code 63 = .ok (.iconst 0, 1) := by decide +kernel
theorem dq_Tx_matches_64 : decode prog_12_method_5_code 64 = .ok (.ireturn, 1) := by decide +kernel
set_option maxRecDepth 100000 in
def pq_Tx_matches_57 (E : wo_E) (mc ms : Nat) (Post : Int32 → wo_W → Prop) (k15 : wo_W → Nat → Nat → Option Nat → Int32 → Int32 → Int32 → Prop) (G : wo_W) (c s : Nat) (x0 : Option Nat) (x1 : Int32) (x2 : Int32) (x3 : Int32) : Prop := k15 G c s x0 x1 x2 (x3 + (1 : Int32))
set_option maxRecDepth 100000 in
def pq_Tx_matches_41 (E : wo_E) (mc ms : Nat) (Post : Int32 → wo_W → Prop) (k15 : wo_W → Nat → Nat → Option Nat → Int32 → Int32 → Int32 → Prop) (G : wo_W) (c s : Nat) (x0 : Option Nat) (x1 : Int32) (x2 : Int32) (x3 : Int32) : Prop := ∃ mc1 ms2 : Nat, (c + mc1) ≤ mc ∧ (s + ms2) ≤ ms ∧ pq_Tx_whole E mc1 ms2 (fun v4 G3 => 
  ((¬ v4 = x1 → pq_Tx_matches_57 E mc ms Post k15 G3 (c + mc1) (s + ms2) x0 x1 (x3 + (1 : Int32)) x3) ∧
    (v4 = x1 → Post (1 : Int32) G3))) G x0 x2 x3
set_option maxRecDepth 100000 in
def pq_Tx_matches_15 (E : wo_E) (mc ms : Nat) (Post : Int32 → wo_W → Prop) : Nat → wo_W → Nat → Nat → Option Nat → Int32 → Int32 → Int32 → Prop
  | 0 => fun _ _ _ _ _ _ _ => False
  | n + 1 => fun G c s x0 x1 x2 x3 => ∃ a1 : Nat, x0 = some a1 ∧ wo_ty G a1 = 10 ∧ ∃ mc3 ms4 : Nat, (c + mc3) ≤ mc ∧ (s + ms4) ≤ ms ∧ pq_St_length E mc3 ms4 (fun v6 G5 => 
  ((v6 < x3 → Post (0 : Int32) G5) ∧
    (¬ v6 < x3 → wo_ty G5 a1 = 10 ∧ ∃ mc8 ms9 : Nat, ((c + mc3) + mc8) ≤ mc ∧ ((s + ms4) + ms9) ≤ ms ∧ pq_St_length E mc8 ms9 (fun v11 G10 => 
      ((x3 = v11 → pq_Tx_matches_41 E mc ms Post (pq_Tx_matches_15 E mc ms Post n) G10 ((c + mc3) + mc8) ((s + ms4) + ms9) (some a1) x1 x2 x3) ∧
        (¬ x3 = v11 → wo_ty G10 a1 = 10 ∧ ∃ mc13 ms14 : Nat, (((c + mc3) + mc8) + mc13) ≤ mc ∧ (((s + ms4) + ms9) + ms14) ≤ ms ∧ pq_St_charAt E mc13 ms14 (fun v16 G15 => 
          ((¬ v16 = (44 : Int32) → pq_Tx_matches_57 E mc ms Post (pq_Tx_matches_15 E mc ms Post n) G15 (((c + mc3) + mc8) + mc13) (((s + ms4) + ms9) + ms14) (some a1) x1 x2 x3) ∧
            (v16 = (44 : Int32) → pq_Tx_matches_41 E mc ms Post (pq_Tx_matches_15 E mc ms Post n) G15 (((c + mc3) + mc8) + mc13) (((s + ms4) + ms9) + ms14) (some a1) x1 x2 x3))) G10 a1 x3))) G5 a1))) G a1
set_option maxRecDepth 100000 in
def pq_Tx_matches_0 (E : wo_E) (mc ms : Nat) (Post : Int32 → wo_W → Prop) (G : wo_W) (c s : Nat) (x0 : Option Nat) (x1 : Int32) : Prop := ∃ a1 : Nat, x0 = some a1 ∧ wo_ty G a1 = 10 ∧ ∃ mc3 ms4 : Nat, (c + mc3) ≤ mc ∧ (s + ms4) ≤ ms ∧ pq_St_equals E mc3 ms4 (fun v6 G5 => 
  ((v6 = (0 : Int32) → ∃ n1 : Nat, pq_Tx_matches_15 E mc ms Post n1 G5 (c + mc3) (s + ms4) (some a1) x1 (0 : Int32) (0 : Int32)) ∧
    (¬ v6 = (0 : Int32) → Post (1 : Int32) G5))) G a1 (some (en_str E 11))
def pq_Tx_matches (E : wo_E) (mc ms : Nat) (Post : Int32 → wo_W → Prop) (G : wo_W) (x0 : Option Nat) (x1 : Int32) : Prop := pq_Tx_matches_0 E mc ms Post G 0 0 x0 x1
set_option maxRecDepth 100000 in
set_option maxHeartbeats 4000000 in
theorem tq_Tx_matches_57 {p : Program} {l : Launch} {e : Env} {R : Room} {s₀ : State} {m : MethodId} {args : Array Value} {below : List Frame} {meth : Method} {cd : Code} {E : wo_E} {mc ms : Nat} {Post : Int32 → wo_W → Prop} {k15 : wo_W → Nat → Nat → Option Nat → Int32 → Int32 → Int32 → Prop} (hC : wo_Cx E "EdgeCache$Text" prog_12_method_5_code 4 5 110 ((Option.some Jvm.ClassFile.FieldType.boolean)) "matches" mc ms p R s₀ m args meth cd) (hk15 : ∀ {G : wo_W} {c s : Nat} {x0 : Option Nat} {x1 : Int32} {x2 : Int32} {x3 : Int32}, k15 G c s x0 x1 x2 x3 → ∀ {H : Heap} {locs : List Loc} {ls : Array Slot}, wo_Se E G H → va_S (en_A E) s₀.heap H locs → lx_has ls 4 [(0, 1, va_rf x0), (1, 1, .int x1), (2, 1, .int x2), (3, 1, .int x3)] → c ≤ mc → s ≤ ms → W p l e R s₀ m args below meth cd H locs c s (MQ below (va_Qi Post (wo_B E) (en_A E)) args s₀ mc ms (en_A E)) (F0 m 15 ls [])) : ∀ {G : wo_W} {c s : Nat} {x0 : Option Nat} {x1 : Int32} {x2 : Int32} {x3 : Int32}, pq_Tx_matches_57 E mc ms Post k15 G c s x0 x1 x2 x3 → ∀ {H : Heap} {locs : List Loc} {ls : Array Slot}, wo_Se E G H → va_S (en_A E) s₀.heap H locs → lx_has ls 4 [(0, 1, va_rf x0), (1, 1, .int x1), (2, 1, .int x2), (3, 1, .int x3)] → c ≤ mc → s ≤ ms → W p l e R s₀ m args below meth cd H locs c s (MQ below (va_Qi Post (wo_B E) (en_A E)) args s₀ mc ms (en_A E)) (F0 m 57 ls []) := by
  intro G c s x0 x1 x2 x3 hw H locs ls hG hS hl hcc hss
  dsimp only [pq_Tx_matches_57] at hw
  have hx := hC.1
  have hb := hC.2.1
  refine lx_iinc (k := 3) (v := (x3 + (1 : Int32))) (lv' := [(3, 1, .int (x3 + (1 : Int32))), (0, 1, va_rf x0), (1, 1, .int x1), (2, 1, .int x2)]) hx hb dq_Tx_matches_57 hl rfl rfl (by decide) rfl (fun ls hl' => ?_)
  clear hl
  have hl := hl'
  clear hl'
  refine lv_goto (tgt := 15) hx hb dq_Tx_matches_60 rfl ?_
  exact hk15 hw hG hS (lx_sub hl [1, 2, 3, 0] rfl) hcc hss
set_option maxRecDepth 100000 in
set_option maxHeartbeats 4000000 in
theorem tq_Tx_matches_41 {p : Program} {l : Launch} {e : Env} {R : Room} {s₀ : State} {m : MethodId} {args : Array Value} {below : List Frame} {meth : Method} {cd : Code} {E : wo_E} {mc ms : Nat} {Post : Int32 → wo_W → Prop} {k15 : wo_W → Nat → Nat → Option Nat → Int32 → Int32 → Int32 → Prop} (hC : wo_Cx E "EdgeCache$Text" prog_12_method_5_code 4 5 110 ((Option.some Jvm.ClassFile.FieldType.boolean)) "matches" mc ms p R s₀ m args meth cd) (hk15 : ∀ {G : wo_W} {c s : Nat} {x0 : Option Nat} {x1 : Int32} {x2 : Int32} {x3 : Int32}, k15 G c s x0 x1 x2 x3 → ∀ {H : Heap} {locs : List Loc} {ls : Array Slot}, wo_Se E G H → va_S (en_A E) s₀.heap H locs → lx_has ls 4 [(0, 1, va_rf x0), (1, 1, .int x1), (2, 1, .int x2), (3, 1, .int x3)] → c ≤ mc → s ≤ ms → W p l e R s₀ m args below meth cd H locs c s (MQ below (va_Qi Post (wo_B E) (en_A E)) args s₀ mc ms (en_A E)) (F0 m 15 ls [])) : ∀ {G : wo_W} {c s : Nat} {x0 : Option Nat} {x1 : Int32} {x2 : Int32} {x3 : Int32}, pq_Tx_matches_41 E mc ms Post k15 G c s x0 x1 x2 x3 → ∀ {H : Heap} {locs : List Loc} {ls : Array Slot}, wo_Se E G H → va_S (en_A E) s₀.heap H locs → lx_has ls 4 [(0, 1, va_rf x0), (1, 1, .int x1), (2, 1, .int x2), (3, 1, .int x3)] → c ≤ mc → s ≤ ms → W p l e R s₀ m args below meth cd H locs c s (MQ below (va_Qi Post (wo_B E) (en_A E)) args s₀ mc ms (en_A E)) (F0 m 41 ls []) := by
  intro G c s x0 x1 x2 x3 hw H locs ls hG hS hl hcc hss
  dsimp only [pq_Tx_matches_41] at hw
  have hx := hC.1
  have hb := hC.2.1
  refine lx_aloadR_n hx hb dq_Tx_matches_41 rfl (lx_at hl 0 rfl) ?_
  refine lv_iload_n hx hb dq_Tx_matches_42 rfl (lx_at hl 2 rfl) ?_
  refine lv_iload_n hx hb dq_Tx_matches_43 rfl (lx_at hl 3 rfl) ?_
  obtain ⟨mc1, ms2, hc1, hs1, hw⟩ := hw
  refine va_calli (wo_runS hC lq_Tx_41 (mq_Tx_whole hw) hG hS rfl (lx_sz hl) rfl (Nat.zero_le _) (by decide) dq_Tx_matches_44 ⟨hc1, hs1⟩) hS (fun _ _ h => h) (fun _ h => h) (fun v4 G3 t H locs ht hvm hw' hB _ _ hS => ?_)
  clear hw
  have hw := hw'
  clear hw'
  replace hG := wo_bk ht hB
  replace hcc := hc1
  replace hss := hs1
  refine lv_iload_n hx hb dq_Tx_matches_47 rfl (lx_at hl 1 rfl) ?_
  refine lv_icmp_ne (tgt := 53) hx hb dq_Tx_matches_48 rfl (fun h => ?_) (fun h => ?_)
  · replace hw := hw.1 h
    refine lv_iload_n hx hb dq_Tx_matches_53 rfl (lx_at hl 3 rfl) ?_
    refine lv_iconst (v := (1 : Int32)) hx hb dq_Tx_matches_54 rfl ?_
    refine lv_iadd hx hb dq_Tx_matches_55 ?_
    refine lx_istore_n (lv' := [(2, 1, .int (x3 + (1 : Int32))), (0, 1, va_rf x0), (1, 1, .int x1), (3, 1, .int x3)]) hx hb dq_Tx_matches_56 rfl hl (by decide) rfl (fun ls hl' => ?_)
    clear hl
    have hl := hl'
    clear hl'
    exact tq_Tx_matches_57 hC hk15 hw hG hS (lx_sub hl [1, 2, 0, 3] rfl) hcc hss
  · replace hw := hw.2 h
    refine lv_iconst (v := (1 : Int32)) hx hb dq_Tx_matches_51 rfl ?_
    exact wo_zret hC wo_z1 hG hS hcc hss hw dq_Tx_matches_52
set_option maxRecDepth 100000 in
set_option maxHeartbeats 4000000 in
theorem tq_Tx_matches_15 {p : Program} {l : Launch} {e : Env} {R : Room} {s₀ : State} {m : MethodId} {args : Array Value} {below : List Frame} {meth : Method} {cd : Code} {E : wo_E} {mc ms : Nat} {Post : Int32 → wo_W → Prop} (hC : wo_Cx E "EdgeCache$Text" prog_12_method_5_code 4 5 110 ((Option.some Jvm.ClassFile.FieldType.boolean)) "matches" mc ms p R s₀ m args meth cd) : ∀ n : Nat, ∀ {G : wo_W} {c s : Nat} {x0 : Option Nat} {x1 : Int32} {x2 : Int32} {x3 : Int32}, pq_Tx_matches_15 E mc ms Post n G c s x0 x1 x2 x3 → ∀ {H : Heap} {locs : List Loc} {ls : Array Slot}, wo_Se E G H → va_S (en_A E) s₀.heap H locs → lx_has ls 4 [(0, 1, va_rf x0), (1, 1, .int x1), (2, 1, .int x2), (3, 1, .int x3)] → c ≤ mc → s ≤ ms → W p l e R s₀ m args below meth cd H locs c s (MQ below (va_Qi Post (wo_B E) (en_A E)) args s₀ mc ms (en_A E)) (F0 m 15 ls []) := by
  intro n
  induction n with
  | zero => intro G c s x0 x1 x2 x3 hw; exact hw.elim
  | succ n ih =>
    intro G c s x0 x1 x2 x3 hw H locs ls hG hS hl hcc hss
    dsimp only [pq_Tx_matches_15] at hw
    have hx := hC.1
    have hb := hC.2.1
    refine lv_iload_n hx hb dq_Tx_matches_15 rfl (lx_at hl 3 rfl) ?_
    refine lx_aloadR_n hx hb dq_Tx_matches_16 rfl (lx_at hl 0 rfl) ?_
    obtain ⟨a1, rfl, hw⟩ := hw
    obtain ⟨t2, hw⟩ := hw
    obtain ⟨mc3, ms4, hc1, hs1, hw⟩ := hw
    refine va_calli (wo_runV hC lq_Tx_15 (mq_St_length hw) hG hS t2 rfl (lx_sz hl) rfl (lx_rm (Nat.le_of_ble_eq_true rfl)) (by decide) dq_Tx_matches_17 ⟨hc1, hs1⟩) hS (fun _ _ h => h) (fun _ h => h) (fun v6 G5 t H locs ht hvm hw' hB _ _ hS => ?_)
    clear hw
    have hw := hw'
    clear hw'
    replace hG := wo_bk ht hB
    replace hcc := hc1
    replace hss := hs1
    refine lv_icmp_gt (tgt := 63) hx hb dq_Tx_matches_20 rfl (fun h => ?_) (fun h => ?_)
    · replace hw := hw.1 h
      refine lv_iconst (v := (0 : Int32)) hx hb dq_Tx_matches_63 rfl ?_
      exact wo_zret hC wo_z0 hG hS hcc hss hw dq_Tx_matches_64
    · replace hw := hw.2 h
      refine lv_iload_n hx hb dq_Tx_matches_23 rfl (lx_at hl 3 rfl) ?_
      refine lv_aload_n hx hb dq_Tx_matches_24 rfl (lx_at hl 0 rfl) ?_
      obtain ⟨t7, hw⟩ := hw
      obtain ⟨mc8, ms9, hc1, hs1, hw⟩ := hw
      refine va_calli (wo_runV hC lq_Tx_15 (mq_St_length hw) hG hS t7 rfl (lx_sz hl) rfl (lx_rm (Nat.le_of_ble_eq_true rfl)) (by decide) dq_Tx_matches_25 ⟨hc1, hs1⟩) hS (fun _ _ h => h) (fun _ h => h) (fun v11 G10 t H locs ht hvm hw' hB _ _ hS => ?_)
      clear hw
      have hw := hw'
      clear hw'
      replace hG := wo_bk ht hB
      replace hcc := hc1
      replace hss := hs1
      refine lv_icmp_eq (tgt := 41) hx hb dq_Tx_matches_28 rfl (fun h => ?_) (fun h => ?_)
      · replace hw := hw.1 h
        exact tq_Tx_matches_41 hC ih hw hG hS (lx_sub hl [0, 1, 2, 3] rfl) hcc hss
      · replace hw := hw.2 h
        refine lv_aload_n hx hb dq_Tx_matches_31 rfl (lx_at hl 0 rfl) ?_
        refine lv_iload_n hx hb dq_Tx_matches_32 rfl (lx_at hl 3 rfl) ?_
        obtain ⟨t12, hw⟩ := hw
        obtain ⟨mc13, ms14, hc1, hs1, hw⟩ := hw
        refine va_calli (wo_runV hC lq_Tx_21 (mq_St_charAt hw) hG hS t12 rfl (lx_sz hl) rfl (Nat.zero_le _) (by decide) dq_Tx_matches_33 ⟨hc1, hs1⟩) hS (fun _ _ h => h) (fun _ h => h) (fun v16 G15 t H locs ht hvm hw' hB _ _ hS => ?_)
        clear hw
        have hw := hw'
        clear hw'
        replace hG := wo_bk ht hB
        replace hcc := hc1
        replace hss := hs1
        refine lv_bipush (v := (44 : Int32)) hx hb dq_Tx_matches_36 rfl ?_
        refine lv_icmp_ne (tgt := 57) hx hb dq_Tx_matches_38 rfl (fun h => ?_) (fun h => ?_)
        · replace hw := hw.1 h
          exact tq_Tx_matches_57 hC ih hw hG hS (lx_sub hl [0, 1, 2, 3] rfl) hcc hss
        · replace hw := hw.2 h
          exact tq_Tx_matches_41 hC ih hw hG hS (lx_sub hl [0, 1, 2, 3] rfl) hcc hss
set_option maxRecDepth 100000 in
set_option maxHeartbeats 4000000 in
theorem tq_Tx_matches_0 {p : Program} {l : Launch} {e : Env} {R : Room} {s₀ : State} {m : MethodId} {args : Array Value} {below : List Frame} {meth : Method} {cd : Code} {E : wo_E} {mc ms : Nat} {Post : Int32 → wo_W → Prop} (hC : wo_Cx E "EdgeCache$Text" prog_12_method_5_code 4 5 110 ((Option.some Jvm.ClassFile.FieldType.boolean)) "matches" mc ms p R s₀ m args meth cd) : ∀ {G : wo_W} {c s : Nat} {x0 : Option Nat} {x1 : Int32}, pq_Tx_matches_0 E mc ms Post G c s x0 x1 → ∀ {H : Heap} {locs : List Loc} {ls : Array Slot}, wo_Se E G H → va_S (en_A E) s₀.heap H locs → lx_has ls 4 [(0, 1, va_rf x0), (1, 1, .int x1)] → c ≤ mc → s ≤ ms → W p l e R s₀ m args below meth cd H locs c s (MQ below (va_Qi Post (wo_B E) (en_A E)) args s₀ mc ms (en_A E)) (F0 m 0 ls []) := by
  intro G c s x0 x1 hw H locs ls hG hS hl hcc hss
  dsimp only [pq_Tx_matches_0] at hw
  have hx := hC.1
  have hb := hC.2.1
  refine lx_aloadR_n hx hb dq_Tx_matches_0 rfl (lx_at hl 0 rfl) ?_
  refine wo_ldcS hC gq_Tx_35 dq_Tx_matches_1 ?_
  obtain ⟨a1, rfl, hw⟩ := hw
  obtain ⟨t2, hw⟩ := hw
  obtain ⟨mc3, ms4, hc1, hs1, hw⟩ := hw
  refine va_calli (wo_runV hC lq_Tx_37 (mq_St_equals hw) hG hS t2 rfl (lx_sz hl) rfl (Nat.zero_le _) (by decide) dq_Tx_matches_3 ⟨hc1, hs1⟩) hS (fun _ _ h => h) (fun _ h => h) (fun v6 G5 t H locs ht hvm hw' hB _ _ hS => ?_)
  clear hw
  have hw := hw'
  clear hw'
  replace hG := wo_bk ht hB
  replace hcc := hc1
  replace hss := hs1
  refine lv_if_eq (tgt := 11) hx hb dq_Tx_matches_6 rfl (fun h => ?_) (fun h => ?_)
  · replace hw := hw.1 h
    refine lv_iconst (v := (0 : Int32)) hx hb dq_Tx_matches_11 rfl ?_
    refine lx_istore_n (lv' := [(2, 1, .int (0 : Int32)), (0, 1, .ref a1), (1, 1, .int x1)]) hx hb dq_Tx_matches_12 rfl hl (by decide) rfl (fun ls hl' => ?_)
    clear hl
    have hl := hl'
    clear hl'
    refine lv_iconst (v := (0 : Int32)) hx hb dq_Tx_matches_13 rfl ?_
    refine lx_istore_n (lv' := [(3, 1, .int (0 : Int32)), (2, 1, .int (0 : Int32)), (0, 1, .ref a1), (1, 1, .int x1)]) hx hb dq_Tx_matches_14 rfl hl (by decide) rfl (fun ls hl' => ?_)
    clear hl
    have hl := hl'
    clear hl'
    obtain ⟨n1, hw⟩ := hw
    exact tq_Tx_matches_15 hC n1 hw hG hS (lx_sub hl [2, 3, 1, 0] rfl) hcc hss
  · replace hw := hw.2 h
    refine lv_iconst (v := (1 : Int32)) hx hb dq_Tx_matches_9 rfl ?_
    exact wo_zret hC wo_z1 hG hS hcc hss hw dq_Tx_matches_10
set_option maxHeartbeats 4000000 in
theorem mq_Tx_matches {l : Launch} {E : wo_E} {mc ms : Nat} {Post : Int32 → wo_W → Prop} {G : wo_W} {x0 : Option Nat} {x1 : Int32} (hw : pq_Tx_matches E mc ms Post G x0 x1) : Met l yq_Tx_matches (Cond.code yq_Tx_matches prog_12_method_5_code 4 ((Option.some Jvm.ClassFile.FieldType.boolean)) :: vw_WG) { frames := 5, cells := mc, slots := ms, locals := 110 } (va_Pc [va_rf x0, .int x1] (wo_Ok E G)) (va_Qi Post (wo_B E) (en_A E)) mc ms (en_A E) := by
  unfold pq_Tx_matches at hw
  exact wo_met [(1, va_rf x0), (1, .int x1)] rfl (by decide) (fun q hq => by simp only [List.mem_cons, List.not_mem_nil, or_false] at hq; rcases hq with rfl | rfl <;> first | rfl | exact lx_cR _) (Nat.le_of_ble_eq_true rfl) (fun p e R s m args below meth cd ls hC hG hS hl => tq_Tx_matches_0 hC hw hG hS (lx_sub hl [0, 1] rfl) (Nat.zero_le _) (Nat.zero_le _))

theorem dq_Sh_select_0 : decode prog_9_method_3_code 0 = .ok (.aload_n 2, 1) := by decide +kernel
theorem dq_Sh_select_1 : decode prog_9_method_3_code 1 = .ok (.getfield 41, 3) := by decide +kernel
theorem dq_Sh_select_4 : decode prog_9_method_3_code 4 = .ok (.ifnull 26, 3) := by decide +kernel
theorem dq_Sh_select_7 : decode prog_9_method_3_code 7 = .ok (.aload_n 2, 1) := by decide +kernel
theorem dq_Sh_select_8 : decode prog_9_method_3_code 8 = .ok (.getfield 41, 3) := by decide +kernel
theorem dq_Sh_select_11 : decode prog_9_method_3_code 11 = .ok (.aload_n 1, 1) := by decide +kernel
theorem dq_Sh_select_12 : decode prog_9_method_3_code 12 = .ok (.getfield 47, 3) := by decide +kernel
theorem dq_Sh_select_15 : decode prog_9_method_3_code 15 = .ok (.invokestatic 53, 3) := by decide +kernel
theorem dq_Sh_select_18 : decode prog_9_method_3_code 18 = .ok (.ifCond .ne 12, 3) := by decide +kernel
theorem dq_Sh_select_21 : decode prog_9_method_3_code 21 = .ok (.aload_n 0, 1) := by decide +kernel
theorem dq_Sh_select_22 : decode prog_9_method_3_code 22 = .ok (.sipush 412, 3) := by decide +kernel
theorem dq_Sh_select_25 : decode prog_9_method_3_code 25 = .ok (.iconst 0, 1) := by decide +kernel
theorem dq_Sh_select_26 : decode prog_9_method_3_code 26 = .ok (.invokevirtual 59, 3) := by decide +kernel
theorem dq_Sh_select_29 : decode prog_9_method_3_code 29 = .ok (.areturn, 1) := by decide +kernel
theorem dq_Sh_select_30 : decode prog_9_method_3_code 30 = .ok (.aload_n 2, 1) := by decide +kernel
theorem dq_Sh_select_31 : decode prog_9_method_3_code 31 = .ok (.getfield 63, 3) := by decide +kernel
theorem dq_Sh_select_34 : decode prog_9_method_3_code 34 = .ok (.ifnull 44, 3) := by decide +kernel
theorem dq_Sh_select_37 : decode prog_9_method_3_code 37 = .ok (.aload_n 2, 1) := by decide +kernel
theorem dq_Sh_select_38 : decode prog_9_method_3_code 38 = .ok (.getfield 63, 3) := by decide +kernel
theorem dq_Sh_select_41 : decode prog_9_method_3_code 41 = .ok (.aload_n 1, 1) := by decide +kernel
theorem dq_Sh_select_42 : decode prog_9_method_3_code 42 = .ok (.getfield 47, 3) := by decide +kernel
theorem dq_Sh_select_45 : decode prog_9_method_3_code 45 = .ok (.invokestatic 53, 3) := by decide +kernel
theorem dq_Sh_select_48 : decode prog_9_method_3_code 48 = .ok (.ifCond .eq 30, 3) := by decide +kernel
theorem dq_Sh_select_51 : decode prog_9_method_3_code 51 = .ok (.aload_n 0, 1) := by decide +kernel
theorem dq_Sh_select_52 : decode prog_9_method_3_code 52 = .ok (.sipush 304, 3) := by decide +kernel
theorem dq_Sh_select_55 : decode prog_9_method_3_code 55 = .ok (.aload_n 1, 1) := by decide +kernel
theorem dq_Sh_select_56 : decode prog_9_method_3_code 56 = .ok (.iload_n 3, 1) := by decide +kernel
theorem dq_Sh_select_57 : decode prog_9_method_3_code 57 = .ok (.invokevirtual 66, 3) := by decide +kernel
theorem dq_Sh_select_60 : decode prog_9_method_3_code 60 = .ok (.aload_n 0, 1) := by decide +kernel
theorem dq_Sh_select_61 : decode prog_9_method_3_code 61 = .ok (.getfield 12, 3) := by decide +kernel
theorem dq_Sh_select_64 : decode prog_9_method_3_code 64 = .ok (.bipush 10, 2) := by decide +kernel
theorem dq_Sh_select_66 : decode prog_9_method_3_code 66 = .ok (.invokevirtual 33, 3) := by decide +kernel
theorem dq_Sh_select_69 : decode prog_9_method_3_code 69 = .ok (.pop, 1) := by decide +kernel
theorem dq_Sh_select_70 : decode prog_9_method_3_code 70 = .ok (.aload_n 0, 1) := by decide +kernel
theorem dq_Sh_select_71 : decode prog_9_method_3_code 71 = .ok (.getfield 12, 3) := by decide +kernel
theorem dq_Sh_select_74 : decode prog_9_method_3_code 74 = .ok (.invokevirtual 37, 3) := by decide +kernel
theorem dq_Sh_select_77 : decode prog_9_method_3_code 77 = .ok (.areturn, 1) := by decide +kernel
theorem dq_Sh_select_78 : decode prog_9_method_3_code 78 = .ok (.aload_n 2, 1) := by decide +kernel
theorem dq_Sh_select_79 : decode prog_9_method_3_code 79 = .ok (.aload_n 1, 1) := by decide +kernel
theorem dq_Sh_select_80 : decode prog_9_method_3_code 80 = .ok (.getfield 47, 3) := by decide +kernel
theorem dq_Sh_select_83 : decode prog_9_method_3_code 83 = .ok (.invokestatic 70, 3) := by decide +kernel
theorem dq_Sh_select_86 : decode prog_9_method_3_code 86 = .ok (.ifCond .eq 28, 3) := by decide +kernel
theorem dq_Sh_select_89 : decode prog_9_method_3_code 89 = .ok (.aload_n 0, 1) := by decide +kernel
theorem dq_Sh_select_90 : decode prog_9_method_3_code 90 = .ok (.aload_n 2, 1) := by decide +kernel
theorem dq_Sh_select_91 : decode prog_9_method_3_code 91 = .ok (.getfield 74, 3) := by decide +kernel
theorem dq_Sh_select_94 : decode prog_9_method_3_code 94 = .ok (.aload_n 1, 1) := by decide +kernel
theorem dq_Sh_select_95 : decode prog_9_method_3_code 95 = .ok (.getfield 77, 3) := by decide +kernel
theorem dq_Sh_select_98 : decode prog_9_method_3_code 98 = .ok (.invokevirtual 80, 3) := by decide +kernel
theorem dq_Sh_select_101 : decode prog_9_method_3_code 101 = .ok (.invokevirtual 86, 3) := by decide +kernel
theorem dq_Sh_select_104 : decode prog_9_method_3_code 104 = .ok (.ifCond .eq 10, 3) := by decide +kernel
theorem dq_Sh_select_107 : decode prog_9_method_3_code 107 = .ok (.aload_n 0, 1) := by decide +kernel
theorem dq_Sh_select_108 : decode prog_9_method_3_code 108 = .ok (.aload_n 1, 1) := by decide +kernel
theorem dq_Sh_select_109 : decode prog_9_method_3_code 109 = .ok (.iload_n 3, 1) := by decide +kernel
theorem dq_Sh_select_110 : decode prog_9_method_3_code 110 = .ok (.invokevirtual 89, 3) := by decide +kernel
theorem dq_Sh_select_113 : decode prog_9_method_3_code 113 = .ok (.areturn, 1) := by decide +kernel
theorem dq_Sh_select_114 : decode prog_9_method_3_code 114 = .ok (.aload_n 0, 1) := by decide +kernel
theorem dq_Sh_select_115 : decode prog_9_method_3_code 115 = .ok (.aload_n 1, 1) := by decide +kernel
theorem dq_Sh_select_116 : decode prog_9_method_3_code 116 = .ok (.iload_n 3, 1) := by decide +kernel
theorem dq_Sh_select_117 : decode prog_9_method_3_code 117 = .ok (.aload_n 2, 1) := by decide +kernel
theorem dq_Sh_select_118 : decode prog_9_method_3_code 118 = .ok (.getfield 93, 3) := by decide +kernel
theorem dq_Sh_select_121 : decode prog_9_method_3_code 121 = .ok (.ifCond .ne 7, 3) := by decide +kernel
theorem dq_Sh_select_124 : decode prog_9_method_3_code 124 = .ok (.iconst 1, 1) := by decide +kernel
theorem dq_Sh_select_125 : decode prog_9_method_3_code 125 = .ok (.goto 4, 3) := by decide +kernel
theorem dq_Sh_select_128 : decode prog_9_method_3_code 128 = .ok (.iconst 0, 1) := by decide +kernel
theorem dq_Sh_select_129 : decode prog_9_method_3_code 129 = .ok (.invokevirtual 96, 3) := by decide +kernel
theorem dq_Sh_select_132 : decode prog_9_method_3_code 132 = .ok (.aload_n 0, 1) := by decide +kernel
theorem dq_Sh_select_133 : decode prog_9_method_3_code 133 = .ok (.getfield 12, 3) := by decide +kernel
theorem dq_Sh_select_136 : decode prog_9_method_3_code 136 = .ok (.invokevirtual 37, 3) := by decide +kernel
theorem dq_Sh_select_139 : decode prog_9_method_3_code 139 = .ok (.areturn, 1) := by decide +kernel
set_option maxRecDepth 100000 in
def pq_Sh_select_129 (E : wo_E) (mc ms : Nat) (Post : Option Nat → wo_W → Prop) (G : wo_W) (c s : Nat) (x0 : Nat) (y0 : Nat) (y1 : Option Nat) (y2 : Int32) (y3 : Int32) : Prop := wo_ty G y0 = 4 ∧ ∃ mc2 ms3 : Nat, (c + mc2) ≤ mc ∧ (s + ms3) ≤ ms ∧ pq_Sh_whole E mc2 ms3 (fun G4 => 
  wo_ty G4 x0 = 4 ∧ ∀ r6 : Option Nat, r6 = wo_gr G4 192 x0 → ∃ a8 : Nat, r6 = some a8 ∧ wo_ty G4 a8 = 5 ∧ ∃ mc10 ms11 : Nat, ((c + mc2) + mc10) ≤ mc ∧ ((s + ms3) + ms11) ≤ ms ∧ pq_SB_toString E mc10 ms11 (fun v13 G12 => 
    Post v13 G12) G4 a8) G y0 y1 y2 y3
set_option maxRecDepth 100000 in
def pq_Sh_select_114 (E : wo_E) (mc ms : Nat) (Post : Option Nat → wo_W → Prop) (G : wo_W) (c s : Nat) (x0 : Nat) (x1 : Option Nat) (x2 : Option Nat) (x3 : Int32) : Prop := ∃ a1 : Nat, x2 = some a1 ∧ wo_ty G a1 = 9 ∧ ((¬ (wo_gi G 512 a1) = (0 : Int32) → pq_Sh_select_129 E mc ms Post G c s x0 x0 x1 x3 (0 : Int32)) ∧
  ((wo_gi G 512 a1) = (0 : Int32) → pq_Sh_select_129 E mc ms Post G c s x0 x0 x1 x3 (1 : Int32)))
set_option maxRecDepth 100000 in
def pq_Sh_select_78 (E : wo_E) (mc ms : Nat) (Post : Option Nat → wo_W → Prop) (G : wo_W) (c s : Nat) (x0 : Nat) (x1 : Option Nat) (x2 : Option Nat) (x3 : Int32) : Prop := ∃ a1 : Nat, x1 = some a1 ∧ wo_ty G a1 = 13 ∧ ∃ mc3 ms4 : Nat, (c + mc3) ≤ mc ∧ (s + ms4) ≤ ms ∧ pq_Sh_asksForPart E mc3 ms4 (fun v6 G5 => 
  ((v6 = (0 : Int32) → pq_Sh_select_114 E mc ms Post G5 (c + mc3) (s + ms4) x0 (some a1) x2 x3) ∧
    (¬ v6 = (0 : Int32) → ∃ a7 : Nat, x2 = some a7 ∧ wo_ty G5 a7 = 9 ∧ ∀ r9 : Option Nat, r9 = wo_gr G5 517 a7 → wo_ty G5 a1 = 13 ∧ ∀ r12 : Option Nat, r12 = wo_gr G5 769 a1 → ∃ a14 : Nat, r12 = some a14 ∧ wo_ty G5 a14 = 10 ∧ ∃ mc16 ms17 : Nat, ((c + mc3) + mc16) ≤ mc ∧ ((s + ms4) + ms17) ≤ ms ∧ pq_St_length E mc16 ms17 (fun v19 G18 => 
      wo_ty G18 x0 = 4 ∧ ∃ mc21 ms22 : Nat, (((c + mc3) + mc16) + mc21) ≤ mc ∧ (((s + ms4) + ms17) + ms22) ≤ ms ∧ pq_Sh_readPieces E mc21 ms22 (fun v24 G23 => 
        ((v24 = (0 : Int32) → pq_Sh_select_114 E mc ms Post G23 (((c + mc3) + mc16) + mc21) (((s + ms4) + ms17) + ms22) x0 (some a1) (some a7) x3) ∧
          (¬ v24 = (0 : Int32) → wo_ty G23 x0 = 4 ∧ ∃ mc26 ms27 : Nat, ((((c + mc3) + mc16) + mc21) + mc26) ≤ mc ∧ ((((s + ms4) + ms17) + ms22) + ms27) ≤ ms ∧ pq_Sh_part E mc26 ms27 (fun v29 G28 => 
            Post v29 G28) G23 x0 (some a1) x3))) G18 x0 r9 v19) G5 a14))) G x2 (wo_gi G 770 a1)
set_option maxRecDepth 100000 in
def pq_Sh_select_30 (E : wo_E) (mc ms : Nat) (Post : Option Nat → wo_W → Prop) (G : wo_W) (c s : Nat) (x0 : Nat) (x1 : Option Nat) (x2 : Option Nat) (x3 : Int32) : Prop := ∃ a1 : Nat, x2 = some a1 ∧ wo_ty G a1 = 9 ∧ ∀ r3 : Option Nat, r3 = wo_gr G 516 a1 → ((r3 = none → pq_Sh_select_78 E mc ms Post G c s x0 x1 (some a1) x3) ∧
  (∀ a5 : Nat, r3 = some a5 → ∀ r6 : Option Nat, r6 = wo_gr G 516 a1 → ∃ a8 : Nat, x1 = some a8 ∧ wo_ty G a8 = 13 ∧ ∃ mc10 ms11 : Nat, (c + mc10) ≤ mc ∧ (s + ms11) ≤ ms ∧ pq_Tx_matches E mc10 ms11 (fun v13 G12 => 
    ((v13 = (0 : Int32) → pq_Sh_select_78 E mc ms Post G12 (c + mc10) (s + ms11) x0 (some a8) (some a1) x3) ∧
      (¬ v13 = (0 : Int32) → wo_ty G12 x0 = 4 ∧ ∃ mc15 ms16 : Nat, ((c + mc10) + mc15) ≤ mc ∧ ((s + ms11) + ms16) ≤ ms ∧ pq_Sh_describe E mc15 ms16 (fun G17 => 
        wo_ty G17 x0 = 4 ∧ ∀ r19 : Option Nat, r19 = wo_gr G17 192 x0 → ∃ a21 : Nat, r19 = some a21 ∧ wo_ty G17 a21 = 5 ∧ ∃ mc23 ms24 : Nat, (((c + mc10) + mc15) + mc23) ≤ mc ∧ (((s + ms11) + ms16) + ms24) ≤ ms ∧ pq_SB_append_C E mc23 ms24 (fun v26 G25 => 
          wo_ty G25 x0 = 4 ∧ ∀ r28 : Option Nat, r28 = wo_gr G25 192 x0 → ∃ a30 : Nat, r28 = some a30 ∧ wo_ty G25 a30 = 5 ∧ ∃ mc32 ms33 : Nat, ((((c + mc10) + mc15) + mc23) + mc32) ≤ mc ∧ ((((s + ms11) + ms16) + ms24) + ms33) ≤ ms ∧ pq_SB_toString E mc32 ms33 (fun v35 G34 => 
            Post v35 G34) G25 a30) G17 a21 (10 : Int32)) G12 x0 (304 : Int32) (some a8) x3))) G r6 (wo_gi G 770 a8)))
set_option maxRecDepth 100000 in
def pq_Sh_select_0 (E : wo_E) (mc ms : Nat) (Post : Option Nat → wo_W → Prop) (G : wo_W) (c s : Nat) (x0 : Nat) (x1 : Option Nat) (x2 : Option Nat) (x3 : Int32) : Prop := ∃ a1 : Nat, x2 = some a1 ∧ wo_ty G a1 = 9 ∧ ∀ r3 : Option Nat, r3 = wo_gr G 515 a1 → ((r3 = none → pq_Sh_select_30 E mc ms Post G c s x0 x1 (some a1) x3) ∧
  (∀ a5 : Nat, r3 = some a5 → ∀ r6 : Option Nat, r6 = wo_gr G 515 a1 → ∃ a8 : Nat, x1 = some a8 ∧ wo_ty G a8 = 13 ∧ ∃ mc10 ms11 : Nat, (c + mc10) ≤ mc ∧ (s + ms11) ≤ ms ∧ pq_Tx_matches E mc10 ms11 (fun v13 G12 => 
    ((¬ v13 = (0 : Int32) → pq_Sh_select_30 E mc ms Post G12 (c + mc10) (s + ms11) x0 (some a8) (some a1) x3) ∧
      (v13 = (0 : Int32) → wo_ty G12 x0 = 4 ∧ ∃ mc15 ms16 : Nat, ((c + mc10) + mc15) ≤ mc ∧ ((s + ms11) + ms16) ≤ ms ∧ pq_Sh_bare E mc15 ms16 (fun v18 G17 => 
        Post v18 G17) G12 x0 (412 : Int32) (0 : Int32)))) G r6 (wo_gi G 770 a8)))
def pq_Sh_select (E : wo_E) (mc ms : Nat) (Post : Option Nat → wo_W → Prop) (G : wo_W) (x0 : Nat) (x1 : Option Nat) (x2 : Option Nat) (x3 : Int32) : Prop := pq_Sh_select_0 E mc ms Post G 0 0 x0 x1 x2 x3
set_option maxRecDepth 100000 in
set_option maxHeartbeats 4000000 in
theorem tq_Sh_select_129 {p : Program} {l : Launch} {e : Env} {R : Room} {s₀ : State} {m : MethodId} {args : Array Value} {below : List Frame} {meth : Method} {cd : Code} {E : wo_E} {mc ms : Nat} {Post : Option Nat → wo_W → Prop} (hC : wo_Cx E "EdgeCache$Sheet" prog_9_method_3_code 4 9 210 ((Option.some (Jvm.ClassFile.FieldType.object "java/lang/String"))) "select" mc ms p R s₀ m args meth cd) : ∀ {G : wo_W} {c s : Nat} {x0 : Nat} {y0 : Nat} {y1 : Option Nat} {y2 : Int32} {y3 : Int32}, pq_Sh_select_129 E mc ms Post G c s x0 y0 y1 y2 y3 → ∀ {H : Heap} {locs : List Loc} {ls : Array Slot}, wo_Se E G H → va_S (en_A E) s₀.heap H locs → lx_has ls 4 [(0, 1, .ref x0)] → c ≤ mc → s ≤ ms → W p l e R s₀ m args below meth cd H locs c s (MQ below (va_Qq Post (wo_B E) (en_A E)) args s₀ mc ms (en_A E)) (F0 m 129 ls [.int y3, .int y2, va_rf y1, .ref y0]) := by
  intro G c s x0 y0 y1 y2 y3 hw H locs ls hG hS hl hcc hss
  dsimp only [pq_Sh_select_129] at hw
  have hx := hC.1
  have hb := hC.2.1
  obtain ⟨t1, hw⟩ := hw
  obtain ⟨mc2, ms3, hc1, hs1, hw⟩ := hw
  refine va_callv (wo_runV hC lq_Sh_96 (mq_Sh_whole hw) hG hS t1 rfl (lx_sz hl) rfl (Nat.zero_le _) (by decide) dq_Sh_select_129 ⟨hc1, hs1⟩) hS (fun _ _ h => h) (fun _ h => h) (fun G4 t H locs ht hvm hw' hB _ _ hS => ?_)
  clear hw
  have hw := hw'
  clear hw'
  replace hG := wo_bk ht hB
  replace hcc := hc1
  replace hss := hs1
  refine lv_aload_n hx hb dq_Sh_select_132 rfl (lx_at hl 0 rfl) ?_
  obtain ⟨t5, hw⟩ := hw
  refine wo_getR hC fq_Sh_12 rfl hG t5 dq_Sh_select_133 (fun r6 e7 => ?_)
  replace hw := hw r6 e7
  obtain ⟨a8, rfl, hw⟩ := hw
  obtain ⟨t9, hw⟩ := hw
  obtain ⟨mc10, ms11, hc1, hs1, hw⟩ := hw
  refine va_callq (wo_runV hC lq_Sh_37 (mq_SB_toString hw) hG hS t9 rfl (lx_sz hl) rfl (Nat.zero_le _) (by decide) dq_Sh_select_136 ⟨hc1, hs1⟩) hS (fun _ _ h => h) (fun _ h => h) (fun v13 G12 t H locs ht hvm hw' hB _ _ hS => ?_)
  clear hw
  have hw := hw'
  clear hw'
  replace hG := wo_bk ht hB
  replace hcc := hc1
  replace hss := hs1
  exact wo_aret (x := v13) hC rfl hG hS hcc hss hw dq_Sh_select_139
set_option maxRecDepth 100000 in
set_option maxHeartbeats 4000000 in
theorem tq_Sh_select_114 {p : Program} {l : Launch} {e : Env} {R : Room} {s₀ : State} {m : MethodId} {args : Array Value} {below : List Frame} {meth : Method} {cd : Code} {E : wo_E} {mc ms : Nat} {Post : Option Nat → wo_W → Prop} (hC : wo_Cx E "EdgeCache$Sheet" prog_9_method_3_code 4 9 210 ((Option.some (Jvm.ClassFile.FieldType.object "java/lang/String"))) "select" mc ms p R s₀ m args meth cd) : ∀ {G : wo_W} {c s : Nat} {x0 : Nat} {x1 : Option Nat} {x2 : Option Nat} {x3 : Int32}, pq_Sh_select_114 E mc ms Post G c s x0 x1 x2 x3 → ∀ {H : Heap} {locs : List Loc} {ls : Array Slot}, wo_Se E G H → va_S (en_A E) s₀.heap H locs → lx_has ls 4 [(0, 1, .ref x0), (1, 1, va_rf x1), (2, 1, va_rf x2), (3, 1, .int x3)] → c ≤ mc → s ≤ ms → W p l e R s₀ m args below meth cd H locs c s (MQ below (va_Qq Post (wo_B E) (en_A E)) args s₀ mc ms (en_A E)) (F0 m 114 ls []) := by
  intro G c s x0 x1 x2 x3 hw H locs ls hG hS hl hcc hss
  dsimp only [pq_Sh_select_114] at hw
  have hx := hC.1
  have hb := hC.2.1
  refine lv_aload_n hx hb dq_Sh_select_114 rfl (lx_at hl 0 rfl) ?_
  refine lx_aloadR_n hx hb dq_Sh_select_115 rfl (lx_at hl 1 rfl) ?_
  refine lv_iload_n hx hb dq_Sh_select_116 rfl (lx_at hl 3 rfl) ?_
  refine lx_aloadR_n hx hb dq_Sh_select_117 rfl (lx_at hl 2 rfl) ?_
  obtain ⟨a1, rfl, hw⟩ := hw
  obtain ⟨t2, hw⟩ := hw
  refine wo_getI hC fq_Sh_93 rfl hG t2 dq_Sh_select_118 ?_
  refine lv_if_ne (tgt := 128) hx hb dq_Sh_select_121 rfl (fun h => ?_) (fun h => ?_)
  · replace hw := hw.1 h
    refine lv_iconst (v := (0 : Int32)) hx hb dq_Sh_select_128 rfl ?_
    exact tq_Sh_select_129 hC hw hG hS (lx_sub hl [0] rfl) hcc hss
  · replace hw := hw.2 h
    refine lv_iconst (v := (1 : Int32)) hx hb dq_Sh_select_124 rfl ?_
    refine lv_goto (tgt := 129) hx hb dq_Sh_select_125 rfl ?_
    exact tq_Sh_select_129 hC hw hG hS (lx_sub hl [0] rfl) hcc hss
set_option maxRecDepth 100000 in
set_option maxHeartbeats 4000000 in
theorem tq_Sh_select_78 {p : Program} {l : Launch} {e : Env} {R : Room} {s₀ : State} {m : MethodId} {args : Array Value} {below : List Frame} {meth : Method} {cd : Code} {E : wo_E} {mc ms : Nat} {Post : Option Nat → wo_W → Prop} (hC : wo_Cx E "EdgeCache$Sheet" prog_9_method_3_code 4 9 210 ((Option.some (Jvm.ClassFile.FieldType.object "java/lang/String"))) "select" mc ms p R s₀ m args meth cd) : ∀ {G : wo_W} {c s : Nat} {x0 : Nat} {x1 : Option Nat} {x2 : Option Nat} {x3 : Int32}, pq_Sh_select_78 E mc ms Post G c s x0 x1 x2 x3 → ∀ {H : Heap} {locs : List Loc} {ls : Array Slot}, wo_Se E G H → va_S (en_A E) s₀.heap H locs → lx_has ls 4 [(0, 1, .ref x0), (1, 1, va_rf x1), (2, 1, va_rf x2), (3, 1, .int x3)] → c ≤ mc → s ≤ ms → W p l e R s₀ m args below meth cd H locs c s (MQ below (va_Qq Post (wo_B E) (en_A E)) args s₀ mc ms (en_A E)) (F0 m 78 ls []) := by
  intro G c s x0 x1 x2 x3 hw H locs ls hG hS hl hcc hss
  dsimp only [pq_Sh_select_78] at hw
  have hx := hC.1
  have hb := hC.2.1
  refine lx_aloadR_n hx hb dq_Sh_select_78 rfl (lx_at hl 2 rfl) ?_
  refine lx_aloadR_n hx hb dq_Sh_select_79 rfl (lx_at hl 1 rfl) ?_
  obtain ⟨a1, rfl, hw⟩ := hw
  obtain ⟨t2, hw⟩ := hw
  refine wo_getI hC fq_Sh_47 rfl hG t2 dq_Sh_select_80 ?_
  obtain ⟨mc3, ms4, hc1, hs1, hw⟩ := hw
  refine va_calli (wo_runS hC lq_Sh_70 (mq_Sh_asksForPart hw) hG hS rfl (lx_sz hl) rfl (Nat.zero_le _) (by decide) dq_Sh_select_83 ⟨hc1, hs1⟩) hS (fun _ _ h => h) (fun _ h => h) (fun v6 G5 t H locs ht hvm hw' hB _ _ hS => ?_)
  clear hw
  have hw := hw'
  clear hw'
  replace hG := wo_bk ht hB
  replace hcc := hc1
  replace hss := hs1
  refine lv_if_eq (tgt := 114) hx hb dq_Sh_select_86 rfl (fun h => ?_) (fun h => ?_)
  · replace hw := hw.1 h
    exact tq_Sh_select_114 hC hw hG hS (lx_sub hl [0, 1, 2, 3] rfl) hcc hss
  · replace hw := hw.2 h
    refine lv_aload_n hx hb dq_Sh_select_89 rfl (lx_at hl 0 rfl) ?_
    refine lx_aloadR_n hx hb dq_Sh_select_90 rfl (lx_at hl 2 rfl) ?_
    obtain ⟨a7, rfl, hw⟩ := hw
    obtain ⟨t8, hw⟩ := hw
    refine wo_getR hC fq_Sh_74 rfl hG t8 dq_Sh_select_91 (fun r9 e10 => ?_)
    replace hw := hw r9 e10
    refine lv_aload_n hx hb dq_Sh_select_94 rfl (lx_at hl 1 rfl) ?_
    obtain ⟨t11, hw⟩ := hw
    refine wo_getR hC fq_Sh_77 rfl hG t11 dq_Sh_select_95 (fun r12 e13 => ?_)
    replace hw := hw r12 e13
    obtain ⟨a14, rfl, hw⟩ := hw
    obtain ⟨t15, hw⟩ := hw
    obtain ⟨mc16, ms17, hc1, hs1, hw⟩ := hw
    refine va_calli (wo_runV hC lq_Sh_80 (mq_St_length hw) hG hS t15 rfl (lx_sz hl) rfl (lx_rm (Nat.le_of_ble_eq_true rfl)) (by decide) dq_Sh_select_98 ⟨hc1, hs1⟩) hS (fun _ _ h => h) (fun _ h => h) (fun v19 G18 t H locs ht hvm hw' hB _ _ hS => ?_)
    clear hw
    have hw := hw'
    clear hw'
    replace hG := wo_bk ht hB
    replace hcc := hc1
    replace hss := hs1
    obtain ⟨t20, hw⟩ := hw
    obtain ⟨mc21, ms22, hc1, hs1, hw⟩ := hw
    refine va_calli (wo_runV hC lq_Sh_86 (mq_Sh_readPieces hw) hG hS t20 rfl (lx_sz hl) rfl (Nat.zero_le _) (by decide) dq_Sh_select_101 ⟨hc1, hs1⟩) hS (fun _ _ h => h) (fun _ h => h) (fun v24 G23 t H locs ht hvm hw' hB _ _ hS => ?_)
    clear hw
    have hw := hw'
    clear hw'
    replace hG := wo_bk ht hB
    replace hcc := hc1
    replace hss := hs1
    refine lv_if_eq (tgt := 114) hx hb dq_Sh_select_104 rfl (fun h => ?_) (fun h => ?_)
    · replace hw := hw.1 h
      exact tq_Sh_select_114 hC hw hG hS (lx_sub hl [0, 1, 2, 3] rfl) hcc hss
    · replace hw := hw.2 h
      refine lv_aload_n hx hb dq_Sh_select_107 rfl (lx_at hl 0 rfl) ?_
      refine lv_aload_n hx hb dq_Sh_select_108 rfl (lx_at hl 1 rfl) ?_
      refine lv_iload_n hx hb dq_Sh_select_109 rfl (lx_at hl 3 rfl) ?_
      obtain ⟨t25, hw⟩ := hw
      obtain ⟨mc26, ms27, hc1, hs1, hw⟩ := hw
      refine va_callq (wo_runV hC lq_Sh_89 (mq_Sh_part hw) hG hS t25 rfl (lx_sz hl) rfl (Nat.zero_le _) (by decide) dq_Sh_select_110 ⟨hc1, hs1⟩) hS (fun _ _ h => h) (fun _ h => h) (fun v29 G28 t H locs ht hvm hw' hB _ _ hS => ?_)
      clear hw
      have hw := hw'
      clear hw'
      replace hG := wo_bk ht hB
      replace hcc := hc1
      replace hss := hs1
      exact wo_aret (x := v29) hC rfl hG hS hcc hss hw dq_Sh_select_113
set_option maxRecDepth 100000 in
set_option maxHeartbeats 4000000 in
theorem tq_Sh_select_30 {p : Program} {l : Launch} {e : Env} {R : Room} {s₀ : State} {m : MethodId} {args : Array Value} {below : List Frame} {meth : Method} {cd : Code} {E : wo_E} {mc ms : Nat} {Post : Option Nat → wo_W → Prop} (hC : wo_Cx E "EdgeCache$Sheet" prog_9_method_3_code 4 9 210 ((Option.some (Jvm.ClassFile.FieldType.object "java/lang/String"))) "select" mc ms p R s₀ m args meth cd) : ∀ {G : wo_W} {c s : Nat} {x0 : Nat} {x1 : Option Nat} {x2 : Option Nat} {x3 : Int32}, pq_Sh_select_30 E mc ms Post G c s x0 x1 x2 x3 → ∀ {H : Heap} {locs : List Loc} {ls : Array Slot}, wo_Se E G H → va_S (en_A E) s₀.heap H locs → lx_has ls 4 [(0, 1, .ref x0), (1, 1, va_rf x1), (2, 1, va_rf x2), (3, 1, .int x3)] → c ≤ mc → s ≤ ms → W p l e R s₀ m args below meth cd H locs c s (MQ below (va_Qq Post (wo_B E) (en_A E)) args s₀ mc ms (en_A E)) (F0 m 30 ls []) := by
  intro G c s x0 x1 x2 x3 hw H locs ls hG hS hl hcc hss
  dsimp only [pq_Sh_select_30] at hw
  have hx := hC.1
  have hb := hC.2.1
  refine lx_aloadR_n hx hb dq_Sh_select_30 rfl (lx_at hl 2 rfl) ?_
  obtain ⟨a1, rfl, hw⟩ := hw
  obtain ⟨t2, hw⟩ := hw
  refine wo_getR hC fq_Sh_63 rfl hG t2 dq_Sh_select_31 (fun r3 e4 => ?_)
  replace hw := hw r3 e4
  refine lx_ifnull (tgt := 78) hx hb dq_Sh_select_34 rfl (fun h => ?_) (fun a5 h => ?_)
  · replace hw := hw.1 h
    subst h
    exact tq_Sh_select_78 hC hw hG hS (lx_sub hl [0, 1, 2, 3] rfl) hcc hss
  · replace hw := hw.2 a5 h
    subst h
    refine lv_aload_n hx hb dq_Sh_select_37 rfl (lx_at hl 2 rfl) ?_
    refine wo_getR hC fq_Sh_63 rfl hG t2 dq_Sh_select_38 (fun r6 e7 => ?_)
    replace hw := hw r6 e7
    refine lx_aloadR_n hx hb dq_Sh_select_41 rfl (lx_at hl 1 rfl) ?_
    obtain ⟨a8, rfl, hw⟩ := hw
    obtain ⟨t9, hw⟩ := hw
    refine wo_getI hC fq_Sh_47 rfl hG t9 dq_Sh_select_42 ?_
    obtain ⟨mc10, ms11, hc1, hs1, hw⟩ := hw
    refine va_calli (wo_runS hC lq_Sh_53 (mq_Tx_matches hw) hG hS rfl (lx_sz hl) rfl (Nat.zero_le _) (by decide) dq_Sh_select_45 ⟨hc1, hs1⟩) hS (fun _ _ h => h) (fun _ h => h) (fun v13 G12 t H locs ht hvm hw' hB _ _ hS => ?_)
    clear hw
    have hw := hw'
    clear hw'
    replace hG := wo_bk ht hB
    replace hcc := hc1
    replace hss := hs1
    refine lv_if_eq (tgt := 78) hx hb dq_Sh_select_48 rfl (fun h => ?_) (fun h => ?_)
    · replace hw := hw.1 h
      exact tq_Sh_select_78 hC hw hG hS (lx_sub hl [0, 1, 2, 3] rfl) hcc hss
    · replace hw := hw.2 h
      refine lv_aload_n hx hb dq_Sh_select_51 rfl (lx_at hl 0 rfl) ?_
      refine lv_sipush (v := (304 : Int32)) hx hb dq_Sh_select_52 rfl ?_
      refine lv_aload_n hx hb dq_Sh_select_55 rfl (lx_at hl 1 rfl) ?_
      refine lv_iload_n hx hb dq_Sh_select_56 rfl (lx_at hl 3 rfl) ?_
      obtain ⟨t14, hw⟩ := hw
      obtain ⟨mc15, ms16, hc1, hs1, hw⟩ := hw
      refine va_callv (wo_runV hC lq_Sh_66 (mq_Sh_describe hw) hG hS t14 rfl (lx_sz hl) rfl (Nat.zero_le _) (by decide) dq_Sh_select_57 ⟨hc1, hs1⟩) hS (fun _ _ h => h) (fun _ h => h) (fun G17 t H locs ht hvm hw' hB _ _ hS => ?_)
      clear hw
      have hw := hw'
      clear hw'
      replace hG := wo_bk ht hB
      replace hcc := hc1
      replace hss := hs1
      refine lv_aload_n hx hb dq_Sh_select_60 rfl (lx_at hl 0 rfl) ?_
      obtain ⟨t18, hw⟩ := hw
      refine wo_getR hC fq_Sh_12 rfl hG t18 dq_Sh_select_61 (fun r19 e20 => ?_)
      replace hw := hw r19 e20
      refine lv_bipush (v := (10 : Int32)) hx hb dq_Sh_select_64 rfl ?_
      obtain ⟨a21, rfl, hw⟩ := hw
      obtain ⟨t22, hw⟩ := hw
      obtain ⟨mc23, ms24, hc1, hs1, hw⟩ := hw
      refine va_callq (wo_runV hC lq_Sh_33 (mq_SB_append_C hw) hG hS t22 rfl (lx_sz hl) rfl (Nat.zero_le _) (by decide) dq_Sh_select_66 ⟨hc1, hs1⟩) hS (fun _ _ h => h) (fun _ h => h) (fun v26 G25 t H locs ht hvm hw' hB _ _ hS => ?_)
      clear hw
      have hw := hw'
      clear hw'
      replace hG := wo_bk ht hB
      replace hcc := hc1
      replace hss := hs1
      refine lv_pop hx hb dq_Sh_select_69 (lx_cR _) ?_
      refine lv_aload_n hx hb dq_Sh_select_70 rfl (lx_at hl 0 rfl) ?_
      obtain ⟨t27, hw⟩ := hw
      refine wo_getR hC fq_Sh_12 rfl hG t27 dq_Sh_select_71 (fun r28 e29 => ?_)
      replace hw := hw r28 e29
      obtain ⟨a30, rfl, hw⟩ := hw
      obtain ⟨t31, hw⟩ := hw
      obtain ⟨mc32, ms33, hc1, hs1, hw⟩ := hw
      refine va_callq (wo_runV hC lq_Sh_37 (mq_SB_toString hw) hG hS t31 rfl (lx_sz hl) rfl (Nat.zero_le _) (by decide) dq_Sh_select_74 ⟨hc1, hs1⟩) hS (fun _ _ h => h) (fun _ h => h) (fun v35 G34 t H locs ht hvm hw' hB _ _ hS => ?_)
      clear hw
      have hw := hw'
      clear hw'
      replace hG := wo_bk ht hB
      replace hcc := hc1
      replace hss := hs1
      exact wo_aret (x := v35) hC rfl hG hS hcc hss hw dq_Sh_select_77
set_option maxRecDepth 100000 in
set_option maxHeartbeats 4000000 in
theorem tq_Sh_select_0 {p : Program} {l : Launch} {e : Env} {R : Room} {s₀ : State} {m : MethodId} {args : Array Value} {below : List Frame} {meth : Method} {cd : Code} {E : wo_E} {mc ms : Nat} {Post : Option Nat → wo_W → Prop} (hC : wo_Cx E "EdgeCache$Sheet" prog_9_method_3_code 4 9 210 ((Option.some (Jvm.ClassFile.FieldType.object "java/lang/String"))) "select" mc ms p R s₀ m args meth cd) : ∀ {G : wo_W} {c s : Nat} {x0 : Nat} {x1 : Option Nat} {x2 : Option Nat} {x3 : Int32}, pq_Sh_select_0 E mc ms Post G c s x0 x1 x2 x3 → ∀ {H : Heap} {locs : List Loc} {ls : Array Slot}, wo_Se E G H → va_S (en_A E) s₀.heap H locs → lx_has ls 4 [(0, 1, .ref x0), (1, 1, va_rf x1), (2, 1, va_rf x2), (3, 1, .int x3)] → c ≤ mc → s ≤ ms → W p l e R s₀ m args below meth cd H locs c s (MQ below (va_Qq Post (wo_B E) (en_A E)) args s₀ mc ms (en_A E)) (F0 m 0 ls []) := by
  intro G c s x0 x1 x2 x3 hw H locs ls hG hS hl hcc hss
  dsimp only [pq_Sh_select_0] at hw
  have hx := hC.1
  have hb := hC.2.1
  refine lx_aloadR_n hx hb dq_Sh_select_0 rfl (lx_at hl 2 rfl) ?_
  obtain ⟨a1, rfl, hw⟩ := hw
  obtain ⟨t2, hw⟩ := hw
  refine wo_getR hC fq_Sh_41 rfl hG t2 dq_Sh_select_1 (fun r3 e4 => ?_)
  replace hw := hw r3 e4
  refine lx_ifnull (tgt := 30) hx hb dq_Sh_select_4 rfl (fun h => ?_) (fun a5 h => ?_)
  · replace hw := hw.1 h
    subst h
    exact tq_Sh_select_30 hC hw hG hS (lx_sub hl [0, 1, 2, 3] rfl) hcc hss
  · replace hw := hw.2 a5 h
    subst h
    refine lv_aload_n hx hb dq_Sh_select_7 rfl (lx_at hl 2 rfl) ?_
    refine wo_getR hC fq_Sh_41 rfl hG t2 dq_Sh_select_8 (fun r6 e7 => ?_)
    replace hw := hw r6 e7
    refine lx_aloadR_n hx hb dq_Sh_select_11 rfl (lx_at hl 1 rfl) ?_
    obtain ⟨a8, rfl, hw⟩ := hw
    obtain ⟨t9, hw⟩ := hw
    refine wo_getI hC fq_Sh_47 rfl hG t9 dq_Sh_select_12 ?_
    obtain ⟨mc10, ms11, hc1, hs1, hw⟩ := hw
    refine va_calli (wo_runS hC lq_Sh_53 (mq_Tx_matches hw) hG hS rfl (lx_sz hl) rfl (Nat.zero_le _) (by decide) dq_Sh_select_15 ⟨hc1, hs1⟩) hS (fun _ _ h => h) (fun _ h => h) (fun v13 G12 t H locs ht hvm hw' hB _ _ hS => ?_)
    clear hw
    have hw := hw'
    clear hw'
    replace hG := wo_bk ht hB
    replace hcc := hc1
    replace hss := hs1
    refine lv_if_ne (tgt := 30) hx hb dq_Sh_select_18 rfl (fun h => ?_) (fun h => ?_)
    · replace hw := hw.1 h
      exact tq_Sh_select_30 hC hw hG hS (lx_sub hl [0, 1, 2, 3] rfl) hcc hss
    · replace hw := hw.2 h
      refine lv_aload_n hx hb dq_Sh_select_21 rfl (lx_at hl 0 rfl) ?_
      refine lv_sipush (v := (412 : Int32)) hx hb dq_Sh_select_22 rfl ?_
      refine lv_iconst (v := (0 : Int32)) hx hb dq_Sh_select_25 rfl ?_
      obtain ⟨t14, hw⟩ := hw
      obtain ⟨mc15, ms16, hc1, hs1, hw⟩ := hw
      refine va_callq (wo_runV hC lq_Sh_59 (mq_Sh_bare hw) hG hS t14 rfl (lx_sz hl) rfl (Nat.zero_le _) (by decide) dq_Sh_select_26 ⟨hc1, hs1⟩) hS (fun _ _ h => h) (fun _ h => h) (fun v18 G17 t H locs ht hvm hw' hB _ _ hS => ?_)
      clear hw
      have hw := hw'
      clear hw'
      replace hG := wo_bk ht hB
      replace hcc := hc1
      replace hss := hs1
      exact wo_aret (x := v18) hC rfl hG hS hcc hss hw dq_Sh_select_29
set_option maxHeartbeats 4000000 in
theorem mq_Sh_select {l : Launch} {E : wo_E} {mc ms : Nat} {Post : Option Nat → wo_W → Prop} {G : wo_W} {x0 : Nat} {x1 : Option Nat} {x2 : Option Nat} {x3 : Int32} (hw : pq_Sh_select E mc ms Post G x0 x1 x2 x3) : Met l yq_Sh_select (Cond.code yq_Sh_select prog_9_method_3_code 4 ((Option.some (Jvm.ClassFile.FieldType.object "java/lang/String"))) :: vw_WG) { frames := 9, cells := mc, slots := ms, locals := 210 } (va_Pc [.ref x0, va_rf x1, va_rf x2, .int x3] (wo_Ok E G)) (va_Qq Post (wo_B E) (en_A E)) mc ms (en_A E) := by
  unfold pq_Sh_select at hw
  exact wo_met [(1, .ref x0), (1, va_rf x1), (1, va_rf x2), (1, .int x3)] rfl (by decide) (fun q hq => by simp only [List.mem_cons, List.not_mem_nil, or_false] at hq; rcases hq with rfl | rfl | rfl | rfl <;> first | rfl | exact lx_cR _) (Nat.le_of_ble_eq_true rfl) (fun p e R s m args below meth cd ls hC hG hS hl => tq_Sh_select_0 hC hw hG hS (lx_sub hl [0, 1, 2, 3] rfl) (Nat.zero_le _) (Nat.zero_le _))

theorem dq_EC_answerTo_0 : decode prog_1_method_22_code 0 = .ok (.aload_n 1, 1) := by decide +kernel
theorem dq_EC_answerTo_1 : decode prog_1_method_22_code 1 = .ok (.getfield 243, 3) := by decide +kernel
theorem dq_EC_answerTo_4 : decode prog_1_method_22_code 4 = .ok (.ifnull 20, 3) := by decide +kernel
theorem dq_EC_answerTo_7 : decode prog_1_method_22_code 7 = .ok (.aload_n 0, 1) := by decide +kernel
theorem dq_EC_answerTo_8 : decode prog_1_method_22_code 8 = .ok (.getfield 25, 3) := by decide +kernel
theorem dq_EC_answerTo_11 : decode prog_1_method_22_code 11 = .ok (.aload_n 1, 1) := by decide +kernel
theorem dq_EC_answerTo_12 : decode prog_1_method_22_code 12 = .ok (.getfield 243, 3) := by decide +kernel
theorem dq_EC_answerTo_15 : decode prog_1_method_22_code 15 = .ok (.aload_n 1, 1) := by decide +kernel
theorem dq_EC_answerTo_16 : decode prog_1_method_22_code 16 = .ok (.getfield 105, 3) := by decide +kernel
theorem dq_EC_answerTo_19 : decode prog_1_method_22_code 19 = .ok (.iconst (-1), 1) := by decide +kernel
theorem dq_EC_answerTo_20 : decode prog_1_method_22_code 20 = .ok (.invokevirtual 211, 3) := by decide +kernel
theorem dq_EC_answerTo_23 : decode prog_1_method_22_code 23 = .ok (.areturn, 1) := by decide +kernel
theorem dq_EC_answerTo_24 : decode prog_1_method_22_code 24 = .ok (.aload_n 0, 1) := by decide +kernel
theorem dq_EC_answerTo_25 : decode prog_1_method_22_code 25 = .ok (.getfield 25, 3) := by decide +kernel
theorem dq_EC_answerTo_28 : decode prog_1_method_22_code 28 = .ok (.aload_n 1, 1) := by decide +kernel
theorem dq_EC_answerTo_29 : decode prog_1_method_22_code 29 = .ok (.getfield 136, 3) := by decide +kernel
theorem dq_EC_answerTo_32 : decode prog_1_method_22_code 32 = .ok (.aload_n 1, 1) := by decide +kernel
theorem dq_EC_answerTo_33 : decode prog_1_method_22_code 33 = .ok (.getfield 246, 3) := by decide +kernel
theorem dq_EC_answerTo_36 : decode prog_1_method_22_code 36 = .ok (.invokevirtual 109, 3) := by decide +kernel
theorem dq_EC_answerTo_39 : decode prog_1_method_22_code 39 = .ok (.areturn, 1) := by decide +kernel
set_option maxRecDepth 100000 in
def pq_EC_answerTo_0 (E : wo_E) (mc ms : Nat) (Post : Option Nat → wo_W → Prop) (G : wo_W) (c s : Nat) (x0 : Nat) (x1 : Option Nat) : Prop := ∃ a1 : Nat, x1 = some a1 ∧ wo_ty G a1 = 11 ∧ ∀ r3 : Option Nat, r3 = wo_gr G 644 a1 → ((r3 = none → wo_ty G x0 = 1 ∧ ∀ r7 : Option Nat, r7 = wo_gr G 3 x0 → ∃ a9 : Nat, r7 = some a9 ∧ wo_ty G a9 = 4 ∧ ∃ mc11 ms12 : Nat, (c + mc11) ≤ mc ∧ (s + ms12) ≤ ms ∧ pq_Sh_bare E mc11 ms12 (fun v14 G13 => 
    Post v14 G13) G a9 (wo_gi G 643 a1) (wo_gi G 645 a1)) ∧
  (∀ a5 : Nat, r3 = some a5 → wo_ty G x0 = 1 ∧ ∀ r16 : Option Nat, r16 = wo_gr G 3 x0 → ∀ r18 : Option Nat, r18 = wo_gr G 644 a1 → ∀ r20 : Option Nat, r20 = wo_gr G 640 a1 → ∃ a22 : Nat, r16 = some a22 ∧ wo_ty G a22 = 4 ∧ ∃ mc24 ms25 : Nat, (c + mc24) ≤ mc ∧ (s + ms25) ≤ ms ∧ pq_Sh_select E mc24 ms25 (fun v27 G26 => 
    Post v27 G26) G a22 r18 r20 (-1 : Int32)))
def pq_EC_answerTo (E : wo_E) (mc ms : Nat) (Post : Option Nat → wo_W → Prop) (G : wo_W) (x0 : Nat) (x1 : Option Nat) : Prop := pq_EC_answerTo_0 E mc ms Post G 0 0 x0 x1
set_option maxRecDepth 100000 in
set_option maxHeartbeats 4000000 in
theorem tq_EC_answerTo_0 {p : Program} {l : Launch} {e : Env} {R : Room} {s₀ : State} {m : MethodId} {args : Array Value} {below : List Frame} {meth : Method} {cd : Code} {E : wo_E} {mc ms : Nat} {Post : Option Nat → wo_W → Prop} (hC : wo_Cx E "EdgeCache" prog_1_method_22_code 2 10 233 ((Option.some (Jvm.ClassFile.FieldType.object "java/lang/String"))) "answerTo" mc ms p R s₀ m args meth cd) : ∀ {G : wo_W} {c s : Nat} {x0 : Nat} {x1 : Option Nat}, pq_EC_answerTo_0 E mc ms Post G c s x0 x1 → ∀ {H : Heap} {locs : List Loc} {ls : Array Slot}, wo_Se E G H → va_S (en_A E) s₀.heap H locs → lx_has ls 2 [(0, 1, .ref x0), (1, 1, va_rf x1)] → c ≤ mc → s ≤ ms → W p l e R s₀ m args below meth cd H locs c s (MQ below (va_Qq Post (wo_B E) (en_A E)) args s₀ mc ms (en_A E)) (F0 m 0 ls []) := by
  intro G c s x0 x1 hw H locs ls hG hS hl hcc hss
  dsimp only [pq_EC_answerTo_0] at hw
  have hx := hC.1
  have hb := hC.2.1
  refine lx_aloadR_n hx hb dq_EC_answerTo_0 rfl (lx_at hl 1 rfl) ?_
  obtain ⟨a1, rfl, hw⟩ := hw
  obtain ⟨t2, hw⟩ := hw
  refine wo_getR hC fq_EC_243 rfl hG t2 dq_EC_answerTo_1 (fun r3 e4 => ?_)
  replace hw := hw r3 e4
  refine lx_ifnull (tgt := 24) hx hb dq_EC_answerTo_4 rfl (fun h => ?_) (fun a5 h => ?_)
  · replace hw := hw.1 h
    subst h
    refine lv_aload_n hx hb dq_EC_answerTo_24 rfl (lx_at hl 0 rfl) ?_
    obtain ⟨t6, hw⟩ := hw
    refine wo_getR hC fq_EC_25 rfl hG t6 dq_EC_answerTo_25 (fun r7 e8 => ?_)
    replace hw := hw r7 e8
    refine lv_aload_n hx hb dq_EC_answerTo_28 rfl (lx_at hl 1 rfl) ?_
    refine wo_getI hC fq_EC_136 rfl hG t2 dq_EC_answerTo_29 ?_
    refine lv_aload_n hx hb dq_EC_answerTo_32 rfl (lx_at hl 1 rfl) ?_
    refine wo_getI hC fq_EC_246 rfl hG t2 dq_EC_answerTo_33 ?_
    obtain ⟨a9, rfl, hw⟩ := hw
    obtain ⟨t10, hw⟩ := hw
    obtain ⟨mc11, ms12, hc1, hs1, hw⟩ := hw
    refine va_callq (wo_runV hC lq_EC_109 (mq_Sh_bare hw) hG hS t10 rfl (lx_sz hl) rfl (Nat.zero_le _) (by decide) dq_EC_answerTo_36 ⟨hc1, hs1⟩) hS (fun _ _ h => h) (fun _ h => h) (fun v14 G13 t H locs ht hvm hw' hB _ _ hS => ?_)
    clear hw
    have hw := hw'
    clear hw'
    replace hG := wo_bk ht hB
    replace hcc := hc1
    replace hss := hs1
    exact wo_aret (x := v14) hC rfl hG hS hcc hss hw dq_EC_answerTo_39
  · replace hw := hw.2 a5 h
    subst h
    refine lv_aload_n hx hb dq_EC_answerTo_7 rfl (lx_at hl 0 rfl) ?_
    obtain ⟨t15, hw⟩ := hw
    refine wo_getR hC fq_EC_25 rfl hG t15 dq_EC_answerTo_8 (fun r16 e17 => ?_)
    replace hw := hw r16 e17
    refine lv_aload_n hx hb dq_EC_answerTo_11 rfl (lx_at hl 1 rfl) ?_
    refine wo_getR hC fq_EC_243 rfl hG t2 dq_EC_answerTo_12 (fun r18 e19 => ?_)
    replace hw := hw r18 e19
    refine lv_aload_n hx hb dq_EC_answerTo_15 rfl (lx_at hl 1 rfl) ?_
    refine wo_getR hC fq_EC_105 rfl hG t2 dq_EC_answerTo_16 (fun r20 e21 => ?_)
    replace hw := hw r20 e21
    refine lv_iconst (v := (-1 : Int32)) hx hb dq_EC_answerTo_19 rfl ?_
    obtain ⟨a22, rfl, hw⟩ := hw
    obtain ⟨t23, hw⟩ := hw
    obtain ⟨mc24, ms25, hc1, hs1, hw⟩ := hw
    refine va_callq (wo_runV hC lq_EC_211 (mq_Sh_select hw) hG hS t23 rfl (lx_sz hl) rfl (Nat.zero_le _) (by decide) dq_EC_answerTo_20 ⟨hc1, hs1⟩) hS (fun _ _ h => h) (fun _ h => h) (fun v27 G26 t H locs ht hvm hw' hB _ _ hS => ?_)
    clear hw
    have hw := hw'
    clear hw'
    replace hG := wo_bk ht hB
    replace hcc := hc1
    replace hss := hs1
    exact wo_aret (x := v27) hC rfl hG hS hcc hss hw dq_EC_answerTo_23
set_option maxHeartbeats 4000000 in
theorem mq_EC_answerTo {l : Launch} {E : wo_E} {mc ms : Nat} {Post : Option Nat → wo_W → Prop} {G : wo_W} {x0 : Nat} {x1 : Option Nat} (hw : pq_EC_answerTo E mc ms Post G x0 x1) : Met l yq_EC_answerTo (Cond.code yq_EC_answerTo prog_1_method_22_code 2 ((Option.some (Jvm.ClassFile.FieldType.object "java/lang/String"))) :: vw_WG) { frames := 10, cells := mc, slots := ms, locals := 233 } (va_Pc [.ref x0, va_rf x1] (wo_Ok E G)) (va_Qq Post (wo_B E) (en_A E)) mc ms (en_A E) := by
  unfold pq_EC_answerTo at hw
  exact wo_met [(1, .ref x0), (1, va_rf x1)] rfl (by decide) (fun q hq => by simp only [List.mem_cons, List.not_mem_nil, or_false] at hq; rcases hq with rfl | rfl <;> first | rfl | exact lx_cR _) (Nat.le_of_ble_eq_true rfl) (fun p e R s m args below meth cd ls hC hG hS hl => tq_EC_answerTo_0 hC hw hG hS (lx_sub hl [0, 1] rfl) (Nat.zero_le _) (Nat.zero_le _))

theorem dq_Tx_isDigit_0 : decode prog_12_method_12_code 0 = .ok (.iload_n 0, 1) := by decide +kernel
theorem dq_Tx_isDigit_1 : decode prog_12_method_12_code 1 = .ok (.bipush 48, 2) := by decide +kernel
theorem dq_Tx_isDigit_3 : decode prog_12_method_12_code 3 = .ok (.if_icmp .lt 13, 3) := by decide +kernel
theorem dq_Tx_isDigit_6 : decode prog_12_method_12_code 6 = .ok (.iload_n 0, 1) := by decide +kernel
theorem dq_Tx_isDigit_7 : decode prog_12_method_12_code 7 = .ok (.bipush 57, 2) := by decide +kernel
theorem dq_Tx_isDigit_9 : decode prog_12_method_12_code 9 = .ok (.if_icmp .gt 7, 3) := by decide +kernel
theorem dq_Tx_isDigit_12 : decode prog_12_method_12_code 12 = .ok (.iconst 1, 1) := by decide +kernel
theorem dq_Tx_isDigit_13 : decode prog_12_method_12_code 13 = .ok (.goto 4, 3) := by decide +kernel
theorem dq_Tx_isDigit_16 : decode prog_12_method_12_code 16 = .ok (.iconst 0, 1) := by decide +kernel
theorem dq_Tx_isDigit_17 : decode prog_12_method_12_code 17 = .ok (.ireturn, 1) := by decide +kernel
set_option maxRecDepth 100000 in
def pq_Tx_isDigit_17 (E : wo_E) (mc ms : Nat) (Post : Int32 → wo_W → Prop) (G : wo_W) (c s : Nat) (y0 : Int32) : Prop := wo_okI .boolean y0 ∧ Post y0 G
set_option maxRecDepth 100000 in
def pq_Tx_isDigit_16 (E : wo_E) (mc ms : Nat) (Post : Int32 → wo_W → Prop) (G : wo_W) (c s : Nat) : Prop := pq_Tx_isDigit_17 E mc ms Post G c s (0 : Int32)
set_option maxRecDepth 100000 in
def pq_Tx_isDigit_0 (E : wo_E) (mc ms : Nat) (Post : Int32 → wo_W → Prop) (G : wo_W) (c s : Nat) (x0 : Int32) : Prop := ((x0 < (48 : Int32) → pq_Tx_isDigit_16 E mc ms Post G c s) ∧
  (¬ x0 < (48 : Int32) → (((57 : Int32) < x0 → pq_Tx_isDigit_16 E mc ms Post G c s) ∧
    (¬ (57 : Int32) < x0 → pq_Tx_isDigit_17 E mc ms Post G c s (1 : Int32)))))
def pq_Tx_isDigit (E : wo_E) (mc ms : Nat) (Post : Int32 → wo_W → Prop) (G : wo_W) (x0 : Int32) : Prop := pq_Tx_isDigit_0 E mc ms Post G 0 0 x0
set_option maxRecDepth 100000 in
set_option maxHeartbeats 4000000 in
theorem tq_Tx_isDigit_17 {p : Program} {l : Launch} {e : Env} {R : Room} {s₀ : State} {m : MethodId} {args : Array Value} {below : List Frame} {meth : Method} {cd : Code} {E : wo_E} {mc ms : Nat} {Post : Int32 → wo_W → Prop} (hC : wo_Cx E "EdgeCache$Text" prog_12_method_12_code 1 0 0 ((Option.some Jvm.ClassFile.FieldType.boolean)) "isDigit" mc ms p R s₀ m args meth cd) : ∀ {G : wo_W} {c s : Nat} {y0 : Int32}, pq_Tx_isDigit_17 E mc ms Post G c s y0 → ∀ {H : Heap} {locs : List Loc} {ls : Array Slot}, wo_Se E G H → va_S (en_A E) s₀.heap H locs → lx_has ls 1 [] → c ≤ mc → s ≤ ms → W p l e R s₀ m args below meth cd H locs c s (MQ below (va_Qi Post (wo_B E) (en_A E)) args s₀ mc ms (en_A E)) (F0 m 17 ls [.int y0]) := by
  intro G c s y0 hw H locs ls hG hS hl hcc hss
  dsimp only [pq_Tx_isDigit_17] at hw
  have hx := hC.1
  have hb := hC.2.1
  obtain ⟨h1, hw⟩ := hw
  exact wo_zret hC h1.1 hG hS hcc hss hw dq_Tx_isDigit_17
set_option maxRecDepth 100000 in
set_option maxHeartbeats 4000000 in
theorem tq_Tx_isDigit_16 {p : Program} {l : Launch} {e : Env} {R : Room} {s₀ : State} {m : MethodId} {args : Array Value} {below : List Frame} {meth : Method} {cd : Code} {E : wo_E} {mc ms : Nat} {Post : Int32 → wo_W → Prop} (hC : wo_Cx E "EdgeCache$Text" prog_12_method_12_code 1 0 0 ((Option.some Jvm.ClassFile.FieldType.boolean)) "isDigit" mc ms p R s₀ m args meth cd) : ∀ {G : wo_W} {c s : Nat}, pq_Tx_isDigit_16 E mc ms Post G c s → ∀ {H : Heap} {locs : List Loc} {ls : Array Slot}, wo_Se E G H → va_S (en_A E) s₀.heap H locs → lx_has ls 1 [] → c ≤ mc → s ≤ ms → W p l e R s₀ m args below meth cd H locs c s (MQ below (va_Qi Post (wo_B E) (en_A E)) args s₀ mc ms (en_A E)) (F0 m 16 ls []) := by
  intro G c s hw H locs ls hG hS hl hcc hss
  dsimp only [pq_Tx_isDigit_16] at hw
  have hx := hC.1
  have hb := hC.2.1
  refine lv_iconst (v := (0 : Int32)) hx hb dq_Tx_isDigit_16 rfl ?_
  exact tq_Tx_isDigit_17 hC hw hG hS (lx_sub hl [] rfl) hcc hss
set_option maxRecDepth 100000 in
set_option maxHeartbeats 4000000 in
theorem tq_Tx_isDigit_0 {p : Program} {l : Launch} {e : Env} {R : Room} {s₀ : State} {m : MethodId} {args : Array Value} {below : List Frame} {meth : Method} {cd : Code} {E : wo_E} {mc ms : Nat} {Post : Int32 → wo_W → Prop} (hC : wo_Cx E "EdgeCache$Text" prog_12_method_12_code 1 0 0 ((Option.some Jvm.ClassFile.FieldType.boolean)) "isDigit" mc ms p R s₀ m args meth cd) : ∀ {G : wo_W} {c s : Nat} {x0 : Int32}, pq_Tx_isDigit_0 E mc ms Post G c s x0 → ∀ {H : Heap} {locs : List Loc} {ls : Array Slot}, wo_Se E G H → va_S (en_A E) s₀.heap H locs → lx_has ls 1 [(0, 1, .int x0)] → c ≤ mc → s ≤ ms → W p l e R s₀ m args below meth cd H locs c s (MQ below (va_Qi Post (wo_B E) (en_A E)) args s₀ mc ms (en_A E)) (F0 m 0 ls []) := by
  intro G c s x0 hw H locs ls hG hS hl hcc hss
  dsimp only [pq_Tx_isDigit_0] at hw
  have hx := hC.1
  have hb := hC.2.1
  refine lv_iload_n hx hb dq_Tx_isDigit_0 rfl (lx_at hl 0 rfl) ?_
  refine lv_bipush (v := (48 : Int32)) hx hb dq_Tx_isDigit_1 rfl ?_
  refine lv_icmp_lt (tgt := 16) hx hb dq_Tx_isDigit_3 rfl (fun h => ?_) (fun h => ?_)
  · replace hw := hw.1 h
    exact tq_Tx_isDigit_16 hC hw hG hS (lx_sub hl [] rfl) hcc hss
  · replace hw := hw.2 h
    refine lv_iload_n hx hb dq_Tx_isDigit_6 rfl (lx_at hl 0 rfl) ?_
    refine lv_bipush (v := (57 : Int32)) hx hb dq_Tx_isDigit_7 rfl ?_
    refine lv_icmp_gt (tgt := 16) hx hb dq_Tx_isDigit_9 rfl (fun h => ?_) (fun h => ?_)
    · replace hw := hw.1 h
      exact tq_Tx_isDigit_16 hC hw hG hS (lx_sub hl [] rfl) hcc hss
    · replace hw := hw.2 h
      refine lv_iconst (v := (1 : Int32)) hx hb dq_Tx_isDigit_12 rfl ?_
      refine lv_goto (tgt := 17) hx hb dq_Tx_isDigit_13 rfl ?_
      exact tq_Tx_isDigit_17 hC hw hG hS (lx_sub hl [] rfl) hcc hss
set_option maxHeartbeats 4000000 in
theorem mq_Tx_isDigit {l : Launch} {E : wo_E} {mc ms : Nat} {Post : Int32 → wo_W → Prop} {G : wo_W} {x0 : Int32} (hw : pq_Tx_isDigit E mc ms Post G x0) : Met l yq_Tx_isDigit (Cond.code yq_Tx_isDigit prog_12_method_12_code 1 ((Option.some Jvm.ClassFile.FieldType.boolean)) :: vw_WG) { frames := 0, cells := mc, slots := ms, locals := 0 } (va_Pc [.int x0] (wo_Ok E G)) (va_Qi Post (wo_B E) (en_A E)) mc ms (en_A E) := by
  unfold pq_Tx_isDigit at hw
  exact wo_met [(1, .int x0)] rfl (by decide) (fun q hq => by simp only [List.mem_cons, List.not_mem_nil, or_false] at hq; rcases hq with rfl <;> first | rfl | exact lx_cR _) (Nat.le_of_ble_eq_true rfl) (fun p e R s m args below meth cd ls hC hG hS hl => tq_Tx_isDigit_0 hC hw hG hS (lx_sub hl [0] rfl) (Nat.zero_le _) (Nat.zero_le _))
