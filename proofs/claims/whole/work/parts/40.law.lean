def R_law : String := "EdgeCacheLaw"
def lw_P (b : Addr) (xs : List Int32) (args : Array Value) (s : State) : Prop := args = #[.ref b] ∧ s.IntsAt b xs ∧ xs.length ≤ 2049 ∧ (Jvm.Cond.and given_1 narrow_1).before args s = true
def lw_Q (_ : Array Value) (s : State) (o : Outcome) (t : State) : Prop := o = .returned (some (.int 1)) ∧ Framed s o t [] 600000 7302250
def lw_Z (below : List Frame) (a : Array Value) (s : State) : State → Prop := fun t => ∃ o, t.status = .running ∧ Ended t below o ∧ lw_Q a s o t
theorem lw_ret {p : Program} {l : Launch} {e : Env} {s : State} {m : MethodId} {below : List Frame} {meth : Method} {c : Code} {b : Nat} (hx : p.tables.exec = Jvm.exec) (hb : c.code = code) (hr : meth.sig.returnType = ret) (hlocks : meth.locks = false) {pc : Nat} {H : Heap} {ls : Array Slot} (hdg : decode code pc = .ok (.ireturn, 1)) : W p l e room_1 s m #[Value.ref b] below meth c H [] 600000 7302250 (lw_Z below #[Value.ref b] s) (F0 m pc ls [.int 1]) := by
  intro T hT X
  obtain ⟨fs, hret, hrun, hended, hW, hframe⟩ := X.leave (v := some (.int 1)) (hlocks := hlocks) (fun h => by rw [hr] at h; cases h)
  have hmeth' : T.vm.method? m = some meth := X.method'
  refine ⟨T.setFrames fs, ?_, .returned (some (.int 1)), hrun, hended, rfl, ⟨_, rfl⟩, hW, hframe⟩
  jvm_step X.here [X.here.top, hx, hb, hdg, hmeth', hr, ret, narrow_b1]
  (try refine ⟨rfl, ?_⟩); (try refine ⟨rfl, ?_⟩)
  first | (intro acts; rw [hret _ acts rfl rfl rfl]) | rw [hret _ _ rfl rfl rfl]
  exact Steps.refl _
def lw_At (p : Program) (s : State) (m : MethodId) (meth : Method) (c : Code) (b L : Nat) (xs : Nat → Int32) : Prop :=
  p.tables.exec = Jvm.exec ∧ c.code = code ∧ meth.sig.returnType = ret ∧ c.maxLocals = 4 ∧ s.vm.findClass R_law = some m.cls ∧ (∀ w ∈ lw_tbl, w.before #[Value.ref b] s = true) ∧ va_X b L xs s s.heap ∧ b < s.heap.size ∧ meth.locks = false ∧ (Jvm.Cond.and given_1 narrow_1).before #[Value.ref b] s = true
def lw_Po : Int32 → wo_W → Prop := fun r _ => r = 1
theorem wo_lawret {p : Program} {l : Launch} {e : Env} {s : State} {m : MethodId} {below : List Frame} {meth : Method} {cd : Code} {b : Nat} {E : wo_E} {G : wo_W} {own nm : String} {nL fr lo : Nat} {x : Int32} {H : Heap} {locs : List Loc} {cells slots pc : Nat} {ls : Array Slot} (hC : wo_Cx E own code nL fr lo ret nm 600000 7302250 p room_1 s m #[Value.ref b] meth cd) (hbs : en_bs E = s.heap.size) (hG : wo_Se E G H) (hS : va_S (en_A E) s.heap H locs) (h1 : cells ≤ 600000) (h2 : slots ≤ 7302250) (hw : lw_Po x G) (hdg : decode code pc = .ok (.ireturn, 1)) :
    W p l e room_1 s m #[Value.ref b] below meth cd H locs cells slots (lw_Z below #[Value.ref b] s) (F0 m pc ls [.int x]) := by
  obtain ⟨hx, hb, hml, hrt, hlk, -⟩ := hC
  have hx1 : x = 1 := hw
  subst hx1
  refine va_forget (fun q hq => ?_) (W.widen h1 h2 (lw_ret hx hb hrt hlk hdg))
  have := hS.2.2 q hq
  rw [← hbs]
  exact this
abbrev yq_Lw_cell : MethodName := ⟨"EdgeCacheLaw", "cell", "([II)I"⟩
theorem cq_Lw_21 : Cond.constantLong "EdgeCacheLaw" 21 (4294967295) ∈ vw_WG := (wg_t 1756 rfl rfl)
theorem lq_Lw_15 : wo_MI "EdgeCacheLaw" 15 yq_EC_init prog_1_method_1_code 3 1 := ⟨⟨(wg_t 1 rfl rfl), (wg_t 34 rfl rfl), ⟨by decide +kernel, by decide +kernel, by decide +kernel⟩, (wg_t 32 rfl rfl)⟩, rfl, (wg_t 33 rfl rfl)⟩
theorem lq_Lw_20 : wo_MI "EdgeCacheLaw" 20 yq_Md_init prog_14_method_1_code 2 1 := ⟨⟨(wg_t 16 rfl rfl), (wg_t 1302 rfl rfl), ⟨by decide +kernel, by decide +kernel, by decide +kernel⟩, (wg_t 1300 rfl rfl)⟩, rfl, (wg_t 1301 rfl rfl)⟩
theorem lq_Lw_23 : wo_MV "EdgeCacheLaw" 23 1 yq_EC_feed prog_1_method_2_code 9 ((Option.some Jvm.ClassFile.FieldType.int)) 2 := ⟨⟨(wg_t 1 rfl rfl), (wg_t 322 rfl rfl), ⟨by decide +kernel, by decide +kernel, by decide +kernel⟩, (wg_t 319 rfl rfl)⟩, (wg_t 320 rfl rfl), 0, _, rfl, rfl, (wg_t 321 rfl rfl)⟩
theorem lq_Lw_27 : wo_MV "EdgeCacheLaw" 27 15 yq_Md_feed prog_14_method_3_code 7 ((Option.some Jvm.ClassFile.FieldType.int)) 2 := ⟨⟨(wg_t 16 rfl rfl), (wg_t 1496 rfl rfl), ⟨by decide +kernel, by decide +kernel, by decide +kernel⟩, (wg_t 1493 rfl rfl)⟩, (wg_t 1494 rfl rfl), 14, _, rfl, rfl, (wg_t 1495 rfl rfl)⟩
theorem lq_Lw_28 : wo_MV "EdgeCacheLaw" 28 1 yq_EC_out prog_1_method_3_code 2 ((Option.some Jvm.ClassFile.FieldType.long)) 1 := ⟨⟨(wg_t 1 rfl rfl), (wg_t 1158 rfl rfl), ⟨by decide +kernel, by decide +kernel, by decide +kernel⟩, (wg_t 1155 rfl rfl)⟩, (wg_t 1156 rfl rfl), 0, _, rfl, rfl, (wg_t 1157 rfl rfl)⟩
theorem lq_Lw_32 : wo_MV "EdgeCacheLaw" 32 15 yq_Md_out prog_14_method_57_code 6 ((Option.some Jvm.ClassFile.FieldType.long)) 1 := ⟨⟨(wg_t 16 rfl rfl), (wg_t 1722 rfl rfl), ⟨by decide +kernel, by decide +kernel, by decide +kernel⟩, (wg_t 1719 rfl rfl)⟩, (wg_t 1720 rfl rfl), 14, _, rfl, rfl, (wg_t 1721 rfl rfl)⟩
theorem lq_Lw_33 : wo_MV "EdgeCacheLaw" 33 1 yq_EC_pending prog_1_method_4_code 2 ((Option.some Jvm.ClassFile.FieldType.int)) 1 := ⟨⟨(wg_t 1 rfl rfl), (wg_t 1169 rfl rfl), ⟨by decide +kernel, by decide +kernel, by decide +kernel⟩, (wg_t 1166 rfl rfl)⟩, (wg_t 1167 rfl rfl), 0, _, rfl, rfl, (wg_t 1168 rfl rfl)⟩
theorem lq_Lw_37 : wo_MV "EdgeCacheLaw" 37 15 yq_Md_pending prog_14_method_58_code 2 ((Option.some Jvm.ClassFile.FieldType.int)) 1 := ⟨⟨(wg_t 16 rfl rfl), (wg_t 1726 rfl rfl), ⟨by decide +kernel, by decide +kernel, by decide +kernel⟩, (wg_t 1723 rfl rfl)⟩, (wg_t 1724 rfl rfl), 14, _, rfl, rfl, (wg_t 1725 rfl rfl)⟩
theorem lq_Lw_38 : wo_MV "EdgeCacheLaw" 38 1 yq_EC_waiting prog_1_method_5_code 2 ((Option.some Jvm.ClassFile.FieldType.int)) 1 := ⟨⟨(wg_t 1 rfl rfl), (wg_t 1173 rfl rfl), ⟨by decide +kernel, by decide +kernel, by decide +kernel⟩, (wg_t 1170 rfl rfl)⟩, (wg_t 1171 rfl rfl), 0, _, rfl, rfl, (wg_t 1172 rfl rfl)⟩
theorem lq_Lw_41 : wo_MV "EdgeCacheLaw" 41 15 yq_Md_waiting prog_14_method_59_code 2 ((Option.some Jvm.ClassFile.FieldType.int)) 1 := ⟨⟨(wg_t 16 rfl rfl), (wg_t 1730 rfl rfl), ⟨by decide +kernel, by decide +kernel, by decide +kernel⟩, (wg_t 1727 rfl rfl)⟩, (wg_t 1728 rfl rfl), 14, _, rfl, rfl, (wg_t 1729 rfl rfl)⟩
theorem lq_Lw_42 : wo_MV "EdgeCacheLaw" 42 1 yq_EC_open prog_1_method_6_code 2 ((Option.some Jvm.ClassFile.FieldType.boolean)) 1 := ⟨⟨(wg_t 1 rfl rfl), (wg_t 1178 rfl rfl), ⟨by decide +kernel, by decide +kernel, by decide +kernel⟩, (wg_t 1175 rfl rfl)⟩, (wg_t 1176 rfl rfl), 0, _, rfl, rfl, (wg_t 1177 rfl rfl)⟩
theorem lq_Lw_46 : wo_MV "EdgeCacheLaw" 46 15 yq_Md_open prog_14_method_60_code 2 ((Option.some Jvm.ClassFile.FieldType.boolean)) 1 := ⟨⟨(wg_t 16 rfl rfl), (wg_t 1734 rfl rfl), ⟨by decide +kernel, by decide +kernel, by decide +kernel⟩, (wg_t 1731 rfl rfl)⟩, (wg_t 1732 rfl rfl), 14, _, rfl, rfl, (wg_t 1733 rfl rfl)⟩
theorem lq_Lw_47 : wo_MV "EdgeCacheLaw" 47 1 yq_EC_pass prog_1_method_7_code 5 ((Option.some Jvm.ClassFile.FieldType.int)) 1 := ⟨⟨(wg_t 1 rfl rfl), (wg_t 1182 rfl rfl), ⟨by decide +kernel, by decide +kernel, by decide +kernel⟩, (wg_t 1179 rfl rfl)⟩, (wg_t 1180 rfl rfl), 0, _, rfl, rfl, (wg_t 1181 rfl rfl)⟩
theorem lq_Lw_50 : wo_MV "EdgeCacheLaw" 50 15 yq_Md_pass prog_14_method_56_code 5 ((Option.some Jvm.ClassFile.FieldType.int)) 1 := ⟨⟨(wg_t 16 rfl rfl), (wg_t 1718 rfl rfl), ⟨by decide +kernel, by decide +kernel, by decide +kernel⟩, (wg_t 1715 rfl rfl)⟩, (wg_t 1716 rfl rfl), 14, _, rfl, rfl, (wg_t 1717 rfl rfl)⟩
theorem lq_Lw_51 : wo_MV "EdgeCacheLaw" 51 1 yq_EC_origin prog_1_method_8_code 3 ((Option.some Jvm.ClassFile.FieldType.int)) 1 := ⟨⟨(wg_t 1 rfl rfl), (wg_t 1190 rfl rfl), ⟨by decide +kernel, by decide +kernel, by decide +kernel⟩, (wg_t 1187 rfl rfl)⟩, (wg_t 1188 rfl rfl), 0, _, rfl, rfl, (wg_t 1189 rfl rfl)⟩
theorem lq_Lw_54 : wo_MV "EdgeCacheLaw" 54 15 yq_Md_origin prog_14_method_52_code 3 ((Option.some Jvm.ClassFile.FieldType.int)) 1 := ⟨⟨(wg_t 16 rfl rfl), (wg_t 1698 rfl rfl), ⟨by decide +kernel, by decide +kernel, by decide +kernel⟩, (wg_t 1695 rfl rfl)⟩, (wg_t 1696 rfl rfl), 14, _, rfl, rfl, (wg_t 1697 rfl rfl)⟩
theorem lq_Lw_55 : wo_MV "EdgeCacheLaw" 55 1 yq_EC_arrive prog_1_method_9_code 3 ((Option.some Jvm.ClassFile.FieldType.int)) 1 := ⟨⟨(wg_t 1 rfl rfl), (wg_t 1205 rfl rfl), ⟨by decide +kernel, by decide +kernel, by decide +kernel⟩, (wg_t 1202 rfl rfl)⟩, (wg_t 1203 rfl rfl), 0, _, rfl, rfl, (wg_t 1204 rfl rfl)⟩
theorem lq_Lw_58 : wo_MV "EdgeCacheLaw" 58 15 yq_Md_arrive prog_14_method_53_code 5 ((Option.some Jvm.ClassFile.FieldType.int)) 1 := ⟨⟨(wg_t 16 rfl rfl), (wg_t 1702 rfl rfl), ⟨by decide +kernel, by decide +kernel, by decide +kernel⟩, (wg_t 1699 rfl rfl)⟩, (wg_t 1700 rfl rfl), 14, _, rfl, rfl, (wg_t 1701 rfl rfl)⟩
theorem lq_Lw_59 : wo_MV "EdgeCacheLaw" 59 1 yq_EC_upstream prog_1_method_10_code 3 ((Option.some Jvm.ClassFile.FieldType.int)) 1 := ⟨⟨(wg_t 1 rfl rfl), (wg_t 1269 rfl rfl), ⟨by decide +kernel, by decide +kernel, by decide +kernel⟩, (wg_t 1266 rfl rfl)⟩, (wg_t 1267 rfl rfl), 0, _, rfl, rfl, (wg_t 1268 rfl rfl)⟩
theorem lq_Lw_62 : wo_MV "EdgeCacheLaw" 62 15 yq_Md_upstream prog_14_method_61_code 3 ((Option.some Jvm.ClassFile.FieldType.int)) 1 := ⟨⟨(wg_t 16 rfl rfl), (wg_t 1738 rfl rfl), ⟨by decide +kernel, by decide +kernel, by decide +kernel⟩, (wg_t 1735 rfl rfl)⟩, (wg_t 1736 rfl rfl), 14, _, rfl, rfl, (wg_t 1737 rfl rfl)⟩
theorem lq_Lw_63 : wo_MV "EdgeCacheLaw" 63 1 yq_EC_queue prog_1_method_11_code 1 ((Option.some Jvm.ClassFile.FieldType.int)) 0 := ⟨⟨(wg_t 1 rfl rfl), (wg_t 1273 rfl rfl), ⟨by decide +kernel, by decide +kernel, by decide +kernel⟩, (wg_t 1270 rfl rfl)⟩, (wg_t 1271 rfl rfl), 0, _, rfl, rfl, (wg_t 1272 rfl rfl)⟩
theorem lq_Lw_67 : wo_MV "EdgeCacheLaw" 67 15 yq_Md_queue prog_14_method_62_code 3 ((Option.some Jvm.ClassFile.FieldType.int)) 0 := ⟨⟨(wg_t 16 rfl rfl), (wg_t 1742 rfl rfl), ⟨by decide +kernel, by decide +kernel, by decide +kernel⟩, (wg_t 1739 rfl rfl)⟩, (wg_t 1740 rfl rfl), 14, _, rfl, rfl, (wg_t 1741 rfl rfl)⟩
theorem lq_Lw_68 : wo_MV "EdgeCacheLaw" 68 1 yq_EC_stored prog_1_method_12_code 1 ((Option.some Jvm.ClassFile.FieldType.int)) 0 := ⟨⟨(wg_t 1 rfl rfl), (wg_t 1278 rfl rfl), ⟨by decide +kernel, by decide +kernel, by decide +kernel⟩, (wg_t 1275 rfl rfl)⟩, (wg_t 1276 rfl rfl), 0, _, rfl, rfl, (wg_t 1277 rfl rfl)⟩
theorem lq_Lw_71 : wo_MV "EdgeCacheLaw" 71 15 yq_Md_stored prog_14_method_63_code 3 ((Option.some Jvm.ClassFile.FieldType.int)) 0 := ⟨⟨(wg_t 16 rfl rfl), (wg_t 1746 rfl rfl), ⟨by decide +kernel, by decide +kernel, by decide +kernel⟩, (wg_t 1743 rfl rfl)⟩, (wg_t 1744 rfl rfl), 14, _, rfl, rfl, (wg_t 1745 rfl rfl)⟩
theorem lq_Lw_72 : wo_MV "EdgeCacheLaw" 72 1 yq_EC_bytes prog_1_method_13_code 1 ((Option.some Jvm.ClassFile.FieldType.int)) 0 := ⟨⟨(wg_t 1 rfl rfl), (wg_t 1286 rfl rfl), ⟨by decide +kernel, by decide +kernel, by decide +kernel⟩, (wg_t 1283 rfl rfl)⟩, (wg_t 1284 rfl rfl), 0, _, rfl, rfl, (wg_t 1285 rfl rfl)⟩
theorem lq_Lw_75 : wo_MV "EdgeCacheLaw" 75 15 yq_Md_bytes prog_14_method_64_code 3 ((Option.some Jvm.ClassFile.FieldType.int)) 0 := ⟨⟨(wg_t 16 rfl rfl), (wg_t 1714 rfl rfl), ⟨by decide +kernel, by decide +kernel, by decide +kernel⟩, (wg_t 1747 rfl rfl)⟩, (wg_t 1712 rfl rfl), 14, _, rfl, rfl, (wg_t 1713 rfl rfl)⟩
theorem lq_Lw_76 : wo_MV "EdgeCacheLaw" 76 1 yq_EC_tag prog_1_method_14_code 1 ((Option.some Jvm.ClassFile.FieldType.int)) 0 := ⟨⟨(wg_t 1 rfl rfl), (wg_t 1290 rfl rfl), ⟨by decide +kernel, by decide +kernel, by decide +kernel⟩, (wg_t 1287 rfl rfl)⟩, (wg_t 1288 rfl rfl), 0, _, rfl, rfl, (wg_t 1289 rfl rfl)⟩
theorem lq_Lw_79 : wo_MV "EdgeCacheLaw" 79 15 yq_Md_tag prog_14_method_65_code 1 ((Option.some Jvm.ClassFile.FieldType.int)) 0 := ⟨⟨(wg_t 16 rfl rfl), (wg_t 1751 rfl rfl), ⟨by decide +kernel, by decide +kernel, by decide +kernel⟩, (wg_t 1748 rfl rfl)⟩, (wg_t 1749 rfl rfl), 14, _, rfl, rfl, (wg_t 1750 rfl rfl)⟩
theorem lq_Lw_80 : wo_MV "EdgeCacheLaw" 80 1 yq_EC_clock prog_1_method_15_code 1 ((Option.some Jvm.ClassFile.FieldType.int)) 0 := ⟨⟨(wg_t 1 rfl rfl), (wg_t 1294 rfl rfl), ⟨by decide +kernel, by decide +kernel, by decide +kernel⟩, (wg_t 1291 rfl rfl)⟩, (wg_t 1292 rfl rfl), 0, _, rfl, rfl, (wg_t 1293 rfl rfl)⟩
theorem lq_Lw_83 : wo_MV "EdgeCacheLaw" 83 15 yq_Md_clock prog_14_method_66_code 1 ((Option.some Jvm.ClassFile.FieldType.int)) 0 := ⟨⟨(wg_t 16 rfl rfl), (wg_t 1755 rfl rfl), ⟨by decide +kernel, by decide +kernel, by decide +kernel⟩, (wg_t 1752 rfl rfl)⟩, (wg_t 1753 rfl rfl), 14, _, rfl, rfl, (wg_t 1754 rfl rfl)⟩
theorem lq_Lw_9 : wo_MS "EdgeCacheLaw" 9 yq_Lw_cell method_2_code 2 ((Option.some Jvm.ClassFile.FieldType.int)) 2 := ⟨⟨(wg_t 0 rfl rfl), (wg_t 1297 rfl rfl), ⟨by decide +kernel, by decide +kernel, by decide +kernel⟩, (wg_t 1295 rfl rfl)⟩, (wg_t 1296 rfl rfl)⟩
theorem nq_Lw_18 : wo_FN "EdgeCacheLaw" 18 15 62 := ⟨14, _, rfl, rfl, rfl, (wg_t 1298 rfl rfl), (wg_t 1299 rfl rfl), (wg_t 16 rfl rfl)⟩
theorem nq_Lw_7 : wo_FN "EdgeCacheLaw" 7 1 7 := ⟨0, _, rfl, rfl, rfl, (wg_t 30 rfl rfl), (wg_t 31 rfl rfl), (wg_t 1 rfl rfl)⟩
theorem dq_Lw_cell_0 : decode method_2_code 0 = .ok (.iload_n 1, 1) := by decide +kernel
theorem dq_Lw_cell_1 : decode method_2_code 1 = .ok (.aload_n 0, 1) := by decide +kernel
theorem dq_Lw_cell_2 : decode method_2_code 2 = .ok (.arraylength, 1) := by decide +kernel
theorem dq_Lw_cell_3 : decode method_2_code 3 = .ok (.if_icmp .ge 9, 3) := by decide +kernel
theorem dq_Lw_cell_6 : decode method_2_code 6 = .ok (.aload_n 0, 1) := by decide +kernel
theorem dq_Lw_cell_7 : decode method_2_code 7 = .ok (.iload_n 1, 1) := by decide +kernel
theorem dq_Lw_cell_8 : decode method_2_code 8 = .ok (.iaload, 1) := by decide +kernel
theorem dq_Lw_cell_9 : decode method_2_code 9 = .ok (.goto 4, 3) := by decide +kernel
theorem dq_Lw_cell_12 : decode method_2_code 12 = .ok (.iconst 0, 1) := by decide +kernel
theorem dq_Lw_cell_13 : decode method_2_code 13 = .ok (.ireturn, 1) := by decide +kernel
set_option maxRecDepth 100000 in
def pq_Lw_cell_13 (E : wo_E) (mc ms : Nat) (Post : Int32 → wo_W → Prop) (G : wo_W) (c s : Nat) (y0 : Int32) : Prop := Post y0 G
set_option maxRecDepth 100000 in
def pq_Lw_cell_0 (E : wo_E) (mc ms : Nat) (Post : Int32 → wo_W → Prop) (G : wo_W) (c s : Nat) (x0 : Option Nat) (x1 : Int32) : Prop := ∃ a1 : Nat, x0 = some a1 ∧ wo_ty G a1 = 66 ∧ (((nI (wo_len G a1)) ≤ x1 → pq_Lw_cell_13 E mc ms Post G c s (0 : Int32)) ∧
  (¬ (nI (wo_len G a1)) ≤ x1 → vp_in x1 (wo_len G a1) ∧ pq_Lw_cell_13 E mc ms Post G c s (wo_ei G a1 x1.toNatClampNeg)))
def pq_Lw_cell (E : wo_E) (mc ms : Nat) (Post : Int32 → wo_W → Prop) (G : wo_W) (x0 : Option Nat) (x1 : Int32) : Prop := pq_Lw_cell_0 E mc ms Post G 0 0 x0 x1
set_option maxRecDepth 100000 in
set_option maxHeartbeats 4000000 in
theorem tq_Lw_cell_13 {p : Program} {l : Launch} {e : Env} {R : Room} {s₀ : State} {m : MethodId} {args : Array Value} {below : List Frame} {meth : Method} {cd : Code} {E : wo_E} {mc ms : Nat} {Post : Int32 → wo_W → Prop} (hC : wo_Cx E "EdgeCacheLaw" method_2_code 2 0 0 ((Option.some Jvm.ClassFile.FieldType.int)) "cell" mc ms p R s₀ m args meth cd) : ∀ {G : wo_W} {c s : Nat} {y0 : Int32}, pq_Lw_cell_13 E mc ms Post G c s y0 → ∀ {H : Heap} {locs : List Loc} {ls : Array Slot}, wo_Se E G H → va_S (en_A E) s₀.heap H locs → lx_has ls 2 [] → c ≤ mc → s ≤ ms → W p l e R s₀ m args below meth cd H locs c s (MQ below (va_Qi Post (wo_B E) (en_A E)) args s₀ mc ms (en_A E)) (F0 m 13 ls [.int y0]) := by
  intro G c s y0 hw H locs ls hG hS hl hcc hss
  dsimp only [pq_Lw_cell_13] at hw
  have hx := hC.1
  have hb := hC.2.1
  exact wo_iret hC hG hS hcc hss hw dq_Lw_cell_13
set_option maxRecDepth 100000 in
set_option maxHeartbeats 4000000 in
theorem tq_Lw_cell_0 {p : Program} {l : Launch} {e : Env} {R : Room} {s₀ : State} {m : MethodId} {args : Array Value} {below : List Frame} {meth : Method} {cd : Code} {E : wo_E} {mc ms : Nat} {Post : Int32 → wo_W → Prop} (hC : wo_Cx E "EdgeCacheLaw" method_2_code 2 0 0 ((Option.some Jvm.ClassFile.FieldType.int)) "cell" mc ms p R s₀ m args meth cd) : ∀ {G : wo_W} {c s : Nat} {x0 : Option Nat} {x1 : Int32}, pq_Lw_cell_0 E mc ms Post G c s x0 x1 → ∀ {H : Heap} {locs : List Loc} {ls : Array Slot}, wo_Se E G H → va_S (en_A E) s₀.heap H locs → lx_has ls 2 [(0, 1, va_rf x0), (1, 1, .int x1)] → c ≤ mc → s ≤ ms → W p l e R s₀ m args below meth cd H locs c s (MQ below (va_Qi Post (wo_B E) (en_A E)) args s₀ mc ms (en_A E)) (F0 m 0 ls []) := by
  intro G c s x0 x1 hw H locs ls hG hS hl hcc hss
  dsimp only [pq_Lw_cell_0] at hw
  have hx := hC.1
  have hb := hC.2.1
  refine lv_iload_n hx hb dq_Lw_cell_0 rfl (lx_at hl 1 rfl) ?_
  refine lx_aloadR_n hx hb dq_Lw_cell_1 rfl (lx_at hl 0 rfl) ?_
  obtain ⟨a1, rfl, hw⟩ := hw
  obtain ⟨t2, hw⟩ := hw
  refine wo_alen (j := 2) hC rfl hG t2 dq_Lw_cell_2 ?_
  refine lv_icmp_ge (tgt := 12) hx hb dq_Lw_cell_3 rfl (fun h => ?_) (fun h => ?_)
  · replace hw := hw.1 h
    refine lv_iconst (v := (0 : Int32)) hx hb dq_Lw_cell_12 rfl ?_
    exact tq_Lw_cell_13 hC hw hG hS (lx_sub hl [] rfl) hcc hss
  · replace hw := hw.2 h
    refine lv_aload_n hx hb dq_Lw_cell_6 rfl (lx_at hl 0 rfl) ?_
    refine lv_iload_n hx hb dq_Lw_cell_7 rfl (lx_at hl 1 rfl) ?_
    obtain ⟨h3, hw⟩ := hw
    refine wo_iald (j := 2) hC rfl hG t2 h3 dq_Lw_cell_8 ?_
    refine lv_goto (tgt := 13) hx hb dq_Lw_cell_9 rfl ?_
    exact tq_Lw_cell_13 hC hw hG hS (lx_sub hl [] rfl) hcc hss
set_option maxHeartbeats 4000000 in
theorem mq_Lw_cell {l : Launch} {E : wo_E} {mc ms : Nat} {Post : Int32 → wo_W → Prop} {G : wo_W} {x0 : Option Nat} {x1 : Int32} (hw : pq_Lw_cell E mc ms Post G x0 x1) : Met l yq_Lw_cell (Cond.code yq_Lw_cell method_2_code 2 ((Option.some Jvm.ClassFile.FieldType.int)) :: vw_WG) { frames := 0, cells := mc, slots := ms, locals := 0 } (va_Pc [va_rf x0, .int x1] (wo_Ok E G)) (va_Qi Post (wo_B E) (en_A E)) mc ms (en_A E) := by
  unfold pq_Lw_cell at hw
  exact wo_met [(1, va_rf x0), (1, .int x1)] rfl (by decide) (fun q hq => by simp only [List.mem_cons, List.not_mem_nil, or_false] at hq; rcases hq with rfl | rfl <;> first | rfl | exact lx_cR _) (Nat.le_of_ble_eq_true rfl) (fun p e R s m args below meth cd ls hC hG hS hl => tq_Lw_cell_0 hC hw hG hS (lx_sub hl [0, 1] rfl) (Nat.zero_le _) (Nat.zero_le _))

theorem dq_Lw_law_0 : decode code 0 = .ok (.new 7, 3) := by decide +kernel
theorem dq_Lw_law_3 : decode code 3 = .ok (.dup, 1) := by decide +kernel
theorem dq_Lw_law_4 : decode code 4 = .ok (.aload_n 0, 1) := by decide +kernel
theorem dq_Lw_law_5 : decode code 5 = .ok (.iconst 0, 1) := by decide +kernel
theorem dq_Lw_law_6 : decode code 6 = .ok (.invokestatic 9, 3) := by decide +kernel
theorem dq_Lw_law_9 : decode code 9 = .ok (.invokespecial 15, 3) := by decide +kernel
theorem dq_Lw_law_12 : decode code 12 = .ok (.astore_n 1, 1) := by decide +kernel
theorem dq_Lw_law_13 : decode code 13 = .ok (.new 18, 3) := by decide +kernel
theorem dq_Lw_law_16 : decode code 16 = .ok (.dup, 1) := by decide +kernel
theorem dq_Lw_law_17 : decode code 17 = .ok (.aload_n 0, 1) := by decide +kernel
theorem dq_Lw_law_18 : decode code 18 = .ok (.iconst 0, 1) := by decide +kernel
theorem dq_Lw_law_19 : decode code 19 = .ok (.invokestatic 9, 3) := by decide +kernel
theorem dq_Lw_law_22 : decode code 22 = .ok (.invokespecial 20, 3) := by decide +kernel
theorem dq_Lw_law_25 : decode code 25 = .ok (.astore_n 2, 1) := by decide +kernel
theorem dq_Lw_law_26 : decode code 26 = .ok (.iconst 1, 1) := by decide +kernel
theorem dq_Lw_law_27 : decode code 27 = .ok (.istore_n 3, 1) := by decide +kernel
theorem dq_Lw_law_28 : decode code 28 = .ok (.iload_n 3, 1) := by decide +kernel
theorem dq_Lw_law_29 : decode code 29 = .ok (.aload_n 0, 1) := by decide +kernel
theorem dq_Lw_law_30 : decode code 30 = .ok (.arraylength, 1) := by decide +kernel
theorem dq_Lw_law_31 : decode code 31 = .ok (.iconst 4, 1) := by decide +kernel
theorem dq_Lw_law_32 : decode code 32 = .ok (.isub, 1) := by decide +kernel
theorem dq_Lw_law_33 : decode code 33 = .ok (.if_icmp .gt 398, 3) := by decide +kernel
theorem dq_Lw_law_36 : decode code 36 = .ok (.aload_n 0, 1) := by decide +kernel
theorem dq_Lw_law_37 : decode code 37 = .ok (.iload_n 3, 1) := by decide +kernel
theorem dq_Lw_law_38 : decode code 38 = .ok (.iaload, 1) := by decide +kernel
theorem dq_Lw_law_39 : decode code 39 = .ok (.bipush 15, 2) := by decide +kernel
theorem dq_Lw_law_41 : decode code 41 = .ok (.iand, 1) := by decide +kernel
theorem dq_Lw_law_42 : decode code 42 = .ok (.tableswitch 383 0 13 #[70, 133, 157, 180, 203, 226, 249, 272, 295, 318, 331, 344, 357, 370], 70) := by decide +kernel
theorem dq_Lw_law_112 : decode code 112 = .ok (.aload_n 1, 1) := by decide +kernel
theorem dq_Lw_law_113 : decode code 113 = .ok (.aload_n 0, 1) := by decide +kernel
theorem dq_Lw_law_114 : decode code 114 = .ok (.iload_n 3, 1) := by decide +kernel
theorem dq_Lw_law_115 : decode code 115 = .ok (.iconst 1, 1) := by decide +kernel
theorem dq_Lw_law_116 : decode code 116 = .ok (.iadd, 1) := by decide +kernel
theorem dq_Lw_law_117 : decode code 117 = .ok (.iaload, 1) := by decide +kernel
theorem dq_Lw_law_118 : decode code 118 = .ok (.aload_n 0, 1) := by decide +kernel
theorem dq_Lw_law_119 : decode code 119 = .ok (.iload_n 3, 1) := by decide +kernel
theorem dq_Lw_law_120 : decode code 120 = .ok (.iconst 2, 1) := by decide +kernel
theorem dq_Lw_law_121 : decode code 121 = .ok (.iadd, 1) := by decide +kernel
theorem dq_Lw_law_122 : decode code 122 = .ok (.iaload, 1) := by decide +kernel
theorem dq_Lw_law_123 : decode code 123 = .ok (.i2l, 1) := by decide +kernel
theorem dq_Lw_law_124 : decode code 124 = .ok (.bipush 32, 2) := by decide +kernel
theorem dq_Lw_law_126 : decode code 126 = .ok (.lshl, 1) := by decide +kernel
theorem dq_Lw_law_127 : decode code 127 = .ok (.aload_n 0, 1) := by decide +kernel
theorem dq_Lw_law_128 : decode code 128 = .ok (.iload_n 3, 1) := by decide +kernel
theorem dq_Lw_law_129 : decode code 129 = .ok (.iconst 3, 1) := by decide +kernel
theorem dq_Lw_law_130 : decode code 130 = .ok (.iadd, 1) := by decide +kernel
theorem dq_Lw_law_131 : decode code 131 = .ok (.iaload, 1) := by decide +kernel
theorem dq_Lw_law_132 : decode code 132 = .ok (.i2l, 1) := by decide +kernel
theorem dq_Lw_law_133 : decode code 133 = .ok (.ldc2_w 21, 3) := by decide +kernel
theorem dq_Lw_law_136 : decode code 136 = .ok (.land, 1) := by decide +kernel
theorem dq_Lw_law_137 : decode code 137 = .ok (.lor, 1) := by decide +kernel
theorem dq_Lw_law_138 : decode code 138 = .ok (.invokevirtual 23, 3) := by decide +kernel
theorem dq_Lw_law_141 : decode code 141 = .ok (.aload_n 2, 1) := by decide +kernel
theorem dq_Lw_law_142 : decode code 142 = .ok (.aload_n 0, 1) := by decide +kernel
theorem dq_Lw_law_143 : decode code 143 = .ok (.iload_n 3, 1) := by decide +kernel
theorem dq_Lw_law_144 : decode code 144 = .ok (.iconst 1, 1) := by decide +kernel
theorem dq_Lw_law_145 : decode code 145 = .ok (.iadd, 1) := by decide +kernel
theorem dq_Lw_law_146 : decode code 146 = .ok (.iaload, 1) := by decide +kernel
theorem dq_Lw_law_147 : decode code 147 = .ok (.aload_n 0, 1) := by decide +kernel
theorem dq_Lw_law_148 : decode code 148 = .ok (.iload_n 3, 1) := by decide +kernel
theorem dq_Lw_law_149 : decode code 149 = .ok (.iconst 2, 1) := by decide +kernel
theorem dq_Lw_law_150 : decode code 150 = .ok (.iadd, 1) := by decide +kernel
theorem dq_Lw_law_151 : decode code 151 = .ok (.iaload, 1) := by decide +kernel
theorem dq_Lw_law_152 : decode code 152 = .ok (.i2l, 1) := by decide +kernel
theorem dq_Lw_law_153 : decode code 153 = .ok (.bipush 32, 2) := by decide +kernel
theorem dq_Lw_law_155 : decode code 155 = .ok (.lshl, 1) := by decide +kernel
theorem dq_Lw_law_156 : decode code 156 = .ok (.aload_n 0, 1) := by decide +kernel
theorem dq_Lw_law_157 : decode code 157 = .ok (.iload_n 3, 1) := by decide +kernel
theorem dq_Lw_law_158 : decode code 158 = .ok (.iconst 3, 1) := by decide +kernel
theorem dq_Lw_law_159 : decode code 159 = .ok (.iadd, 1) := by decide +kernel
theorem dq_Lw_law_160 : decode code 160 = .ok (.iaload, 1) := by decide +kernel
theorem dq_Lw_law_161 : decode code 161 = .ok (.i2l, 1) := by decide +kernel
theorem dq_Lw_law_162 : decode code 162 = .ok (.ldc2_w 21, 3) := by decide +kernel
theorem dq_Lw_law_165 : decode code 165 = .ok (.land, 1) := by decide +kernel
theorem dq_Lw_law_166 : decode code 166 = .ok (.lor, 1) := by decide +kernel
theorem dq_Lw_law_167 : decode code 167 = .ok (.invokevirtual 27, 3) := by decide +kernel
theorem dq_Lw_law_170 : decode code 170 = .ok (.if_icmp .eq 255, 3) := by decide +kernel
theorem dq_Lw_law_173 : decode code 173 = .ok (.iconst 0, 1) := by decide +kernel
theorem dq_Lw_law_174 : decode code 174 = .ok (.ireturn, 1) := by decide +kernel
theorem dq_Lw_law_175 : decode code 175 = .ok (.aload_n 1, 1) := by decide +kernel
theorem dq_Lw_law_176 : decode code 176 = .ok (.aload_n 0, 1) := by decide +kernel
theorem dq_Lw_law_177 : decode code 177 = .ok (.iload_n 3, 1) := by decide +kernel
theorem dq_Lw_law_178 : decode code 178 = .ok (.iconst 1, 1) := by decide +kernel
theorem dq_Lw_law_179 : decode code 179 = .ok (.iadd, 1) := by decide +kernel
theorem dq_Lw_law_180 : decode code 180 = .ok (.iaload, 1) := by decide +kernel
theorem dq_Lw_law_181 : decode code 181 = .ok (.invokevirtual 28, 3) := by decide +kernel
theorem dq_Lw_law_184 : decode code 184 = .ok (.aload_n 2, 1) := by decide +kernel
theorem dq_Lw_law_185 : decode code 185 = .ok (.aload_n 0, 1) := by decide +kernel
theorem dq_Lw_law_186 : decode code 186 = .ok (.iload_n 3, 1) := by decide +kernel
theorem dq_Lw_law_187 : decode code 187 = .ok (.iconst 1, 1) := by decide +kernel
theorem dq_Lw_law_188 : decode code 188 = .ok (.iadd, 1) := by decide +kernel
theorem dq_Lw_law_189 : decode code 189 = .ok (.iaload, 1) := by decide +kernel
theorem dq_Lw_law_190 : decode code 190 = .ok (.invokevirtual 32, 3) := by decide +kernel
theorem dq_Lw_law_193 : decode code 193 = .ok (.lcmp, 1) := by decide +kernel
theorem dq_Lw_law_194 : decode code 194 = .ok (.ifCond .eq 231, 3) := by decide +kernel
theorem dq_Lw_law_197 : decode code 197 = .ok (.iconst 0, 1) := by decide +kernel
theorem dq_Lw_law_198 : decode code 198 = .ok (.ireturn, 1) := by decide +kernel
theorem dq_Lw_law_199 : decode code 199 = .ok (.aload_n 1, 1) := by decide +kernel
theorem dq_Lw_law_200 : decode code 200 = .ok (.aload_n 0, 1) := by decide +kernel
theorem dq_Lw_law_201 : decode code 201 = .ok (.iload_n 3, 1) := by decide +kernel
theorem dq_Lw_law_202 : decode code 202 = .ok (.iconst 1, 1) := by decide +kernel
theorem dq_Lw_law_203 : decode code 203 = .ok (.iadd, 1) := by decide +kernel
theorem dq_Lw_law_204 : decode code 204 = .ok (.iaload, 1) := by decide +kernel
theorem dq_Lw_law_205 : decode code 205 = .ok (.invokevirtual 33, 3) := by decide +kernel
theorem dq_Lw_law_208 : decode code 208 = .ok (.aload_n 2, 1) := by decide +kernel
theorem dq_Lw_law_209 : decode code 209 = .ok (.aload_n 0, 1) := by decide +kernel
theorem dq_Lw_law_210 : decode code 210 = .ok (.iload_n 3, 1) := by decide +kernel
theorem dq_Lw_law_211 : decode code 211 = .ok (.iconst 1, 1) := by decide +kernel
theorem dq_Lw_law_212 : decode code 212 = .ok (.iadd, 1) := by decide +kernel
theorem dq_Lw_law_213 : decode code 213 = .ok (.iaload, 1) := by decide +kernel
theorem dq_Lw_law_214 : decode code 214 = .ok (.invokevirtual 37, 3) := by decide +kernel
theorem dq_Lw_law_217 : decode code 217 = .ok (.if_icmp .eq 208, 3) := by decide +kernel
theorem dq_Lw_law_220 : decode code 220 = .ok (.iconst 0, 1) := by decide +kernel
theorem dq_Lw_law_221 : decode code 221 = .ok (.ireturn, 1) := by decide +kernel
theorem dq_Lw_law_222 : decode code 222 = .ok (.aload_n 1, 1) := by decide +kernel
theorem dq_Lw_law_223 : decode code 223 = .ok (.aload_n 0, 1) := by decide +kernel
theorem dq_Lw_law_224 : decode code 224 = .ok (.iload_n 3, 1) := by decide +kernel
theorem dq_Lw_law_225 : decode code 225 = .ok (.iconst 1, 1) := by decide +kernel
theorem dq_Lw_law_226 : decode code 226 = .ok (.iadd, 1) := by decide +kernel
theorem dq_Lw_law_227 : decode code 227 = .ok (.iaload, 1) := by decide +kernel
theorem dq_Lw_law_228 : decode code 228 = .ok (.invokevirtual 38, 3) := by decide +kernel
theorem dq_Lw_law_231 : decode code 231 = .ok (.aload_n 2, 1) := by decide +kernel
theorem dq_Lw_law_232 : decode code 232 = .ok (.aload_n 0, 1) := by decide +kernel
theorem dq_Lw_law_233 : decode code 233 = .ok (.iload_n 3, 1) := by decide +kernel
theorem dq_Lw_law_234 : decode code 234 = .ok (.iconst 1, 1) := by decide +kernel
theorem dq_Lw_law_235 : decode code 235 = .ok (.iadd, 1) := by decide +kernel
theorem dq_Lw_law_236 : decode code 236 = .ok (.iaload, 1) := by decide +kernel
theorem dq_Lw_law_237 : decode code 237 = .ok (.invokevirtual 41, 3) := by decide +kernel
theorem dq_Lw_law_240 : decode code 240 = .ok (.if_icmp .eq 185, 3) := by decide +kernel
theorem dq_Lw_law_243 : decode code 243 = .ok (.iconst 0, 1) := by decide +kernel
theorem dq_Lw_law_244 : decode code 244 = .ok (.ireturn, 1) := by decide +kernel
theorem dq_Lw_law_245 : decode code 245 = .ok (.aload_n 1, 1) := by decide +kernel
theorem dq_Lw_law_246 : decode code 246 = .ok (.aload_n 0, 1) := by decide +kernel
theorem dq_Lw_law_247 : decode code 247 = .ok (.iload_n 3, 1) := by decide +kernel
theorem dq_Lw_law_248 : decode code 248 = .ok (.iconst 1, 1) := by decide +kernel
theorem dq_Lw_law_249 : decode code 249 = .ok (.iadd, 1) := by decide +kernel
theorem dq_Lw_law_250 : decode code 250 = .ok (.iaload, 1) := by decide +kernel
theorem dq_Lw_law_251 : decode code 251 = .ok (.invokevirtual 42, 3) := by decide +kernel
theorem dq_Lw_law_254 : decode code 254 = .ok (.aload_n 2, 1) := by decide +kernel
theorem dq_Lw_law_255 : decode code 255 = .ok (.aload_n 0, 1) := by decide +kernel
theorem dq_Lw_law_256 : decode code 256 = .ok (.iload_n 3, 1) := by decide +kernel
theorem dq_Lw_law_257 : decode code 257 = .ok (.iconst 1, 1) := by decide +kernel
theorem dq_Lw_law_258 : decode code 258 = .ok (.iadd, 1) := by decide +kernel
theorem dq_Lw_law_259 : decode code 259 = .ok (.iaload, 1) := by decide +kernel
theorem dq_Lw_law_260 : decode code 260 = .ok (.invokevirtual 46, 3) := by decide +kernel
theorem dq_Lw_law_263 : decode code 263 = .ok (.if_icmp .eq 162, 3) := by decide +kernel
theorem dq_Lw_law_266 : decode code 266 = .ok (.iconst 0, 1) := by decide +kernel
theorem dq_Lw_law_267 : decode code 267 = .ok (.ireturn, 1) := by decide +kernel
theorem dq_Lw_law_268 : decode code 268 = .ok (.aload_n 1, 1) := by decide +kernel
theorem dq_Lw_law_269 : decode code 269 = .ok (.aload_n 0, 1) := by decide +kernel
theorem dq_Lw_law_270 : decode code 270 = .ok (.iload_n 3, 1) := by decide +kernel
theorem dq_Lw_law_271 : decode code 271 = .ok (.iconst 1, 1) := by decide +kernel
theorem dq_Lw_law_272 : decode code 272 = .ok (.iadd, 1) := by decide +kernel
theorem dq_Lw_law_273 : decode code 273 = .ok (.iaload, 1) := by decide +kernel
theorem dq_Lw_law_274 : decode code 274 = .ok (.invokevirtual 47, 3) := by decide +kernel
theorem dq_Lw_law_277 : decode code 277 = .ok (.aload_n 2, 1) := by decide +kernel
theorem dq_Lw_law_278 : decode code 278 = .ok (.aload_n 0, 1) := by decide +kernel
theorem dq_Lw_law_279 : decode code 279 = .ok (.iload_n 3, 1) := by decide +kernel
theorem dq_Lw_law_280 : decode code 280 = .ok (.iconst 1, 1) := by decide +kernel
theorem dq_Lw_law_281 : decode code 281 = .ok (.iadd, 1) := by decide +kernel
theorem dq_Lw_law_282 : decode code 282 = .ok (.iaload, 1) := by decide +kernel
theorem dq_Lw_law_283 : decode code 283 = .ok (.invokevirtual 50, 3) := by decide +kernel
theorem dq_Lw_law_286 : decode code 286 = .ok (.if_icmp .eq 139, 3) := by decide +kernel
theorem dq_Lw_law_289 : decode code 289 = .ok (.iconst 0, 1) := by decide +kernel
theorem dq_Lw_law_290 : decode code 290 = .ok (.ireturn, 1) := by decide +kernel
theorem dq_Lw_law_291 : decode code 291 = .ok (.aload_n 1, 1) := by decide +kernel
theorem dq_Lw_law_292 : decode code 292 = .ok (.aload_n 0, 1) := by decide +kernel
theorem dq_Lw_law_293 : decode code 293 = .ok (.iload_n 3, 1) := by decide +kernel
theorem dq_Lw_law_294 : decode code 294 = .ok (.iconst 1, 1) := by decide +kernel
theorem dq_Lw_law_295 : decode code 295 = .ok (.iadd, 1) := by decide +kernel
theorem dq_Lw_law_296 : decode code 296 = .ok (.iaload, 1) := by decide +kernel
theorem dq_Lw_law_297 : decode code 297 = .ok (.invokevirtual 51, 3) := by decide +kernel
theorem dq_Lw_law_300 : decode code 300 = .ok (.aload_n 2, 1) := by decide +kernel
theorem dq_Lw_law_301 : decode code 301 = .ok (.aload_n 0, 1) := by decide +kernel
theorem dq_Lw_law_302 : decode code 302 = .ok (.iload_n 3, 1) := by decide +kernel
theorem dq_Lw_law_303 : decode code 303 = .ok (.iconst 1, 1) := by decide +kernel
theorem dq_Lw_law_304 : decode code 304 = .ok (.iadd, 1) := by decide +kernel
theorem dq_Lw_law_305 : decode code 305 = .ok (.iaload, 1) := by decide +kernel
theorem dq_Lw_law_306 : decode code 306 = .ok (.invokevirtual 54, 3) := by decide +kernel
theorem dq_Lw_law_309 : decode code 309 = .ok (.if_icmp .eq 116, 3) := by decide +kernel
theorem dq_Lw_law_312 : decode code 312 = .ok (.iconst 0, 1) := by decide +kernel
theorem dq_Lw_law_313 : decode code 313 = .ok (.ireturn, 1) := by decide +kernel
theorem dq_Lw_law_314 : decode code 314 = .ok (.aload_n 1, 1) := by decide +kernel
theorem dq_Lw_law_315 : decode code 315 = .ok (.aload_n 0, 1) := by decide +kernel
theorem dq_Lw_law_316 : decode code 316 = .ok (.iload_n 3, 1) := by decide +kernel
theorem dq_Lw_law_317 : decode code 317 = .ok (.iconst 1, 1) := by decide +kernel
theorem dq_Lw_law_318 : decode code 318 = .ok (.iadd, 1) := by decide +kernel
theorem dq_Lw_law_319 : decode code 319 = .ok (.iaload, 1) := by decide +kernel
theorem dq_Lw_law_320 : decode code 320 = .ok (.invokevirtual 55, 3) := by decide +kernel
theorem dq_Lw_law_323 : decode code 323 = .ok (.aload_n 2, 1) := by decide +kernel
theorem dq_Lw_law_324 : decode code 324 = .ok (.aload_n 0, 1) := by decide +kernel
theorem dq_Lw_law_325 : decode code 325 = .ok (.iload_n 3, 1) := by decide +kernel
theorem dq_Lw_law_326 : decode code 326 = .ok (.iconst 1, 1) := by decide +kernel
theorem dq_Lw_law_327 : decode code 327 = .ok (.iadd, 1) := by decide +kernel
theorem dq_Lw_law_328 : decode code 328 = .ok (.iaload, 1) := by decide +kernel
theorem dq_Lw_law_329 : decode code 329 = .ok (.invokevirtual 58, 3) := by decide +kernel
theorem dq_Lw_law_332 : decode code 332 = .ok (.if_icmp .eq 93, 3) := by decide +kernel
theorem dq_Lw_law_335 : decode code 335 = .ok (.iconst 0, 1) := by decide +kernel
theorem dq_Lw_law_336 : decode code 336 = .ok (.ireturn, 1) := by decide +kernel
theorem dq_Lw_law_337 : decode code 337 = .ok (.aload_n 1, 1) := by decide +kernel
theorem dq_Lw_law_338 : decode code 338 = .ok (.aload_n 0, 1) := by decide +kernel
theorem dq_Lw_law_339 : decode code 339 = .ok (.iload_n 3, 1) := by decide +kernel
theorem dq_Lw_law_340 : decode code 340 = .ok (.iconst 1, 1) := by decide +kernel
theorem dq_Lw_law_341 : decode code 341 = .ok (.iadd, 1) := by decide +kernel
theorem dq_Lw_law_342 : decode code 342 = .ok (.iaload, 1) := by decide +kernel
theorem dq_Lw_law_343 : decode code 343 = .ok (.invokevirtual 59, 3) := by decide +kernel
theorem dq_Lw_law_346 : decode code 346 = .ok (.aload_n 2, 1) := by decide +kernel
theorem dq_Lw_law_347 : decode code 347 = .ok (.aload_n 0, 1) := by decide +kernel
theorem dq_Lw_law_348 : decode code 348 = .ok (.iload_n 3, 1) := by decide +kernel
theorem dq_Lw_law_349 : decode code 349 = .ok (.iconst 1, 1) := by decide +kernel
theorem dq_Lw_law_350 : decode code 350 = .ok (.iadd, 1) := by decide +kernel
theorem dq_Lw_law_351 : decode code 351 = .ok (.iaload, 1) := by decide +kernel
theorem dq_Lw_law_352 : decode code 352 = .ok (.invokevirtual 62, 3) := by decide +kernel
theorem dq_Lw_law_355 : decode code 355 = .ok (.if_icmp .eq 70, 3) := by decide +kernel
theorem dq_Lw_law_358 : decode code 358 = .ok (.iconst 0, 1) := by decide +kernel
theorem dq_Lw_law_359 : decode code 359 = .ok (.ireturn, 1) := by decide +kernel
theorem dq_Lw_law_360 : decode code 360 = .ok (.aload_n 1, 1) := by decide +kernel
theorem dq_Lw_law_361 : decode code 361 = .ok (.invokevirtual 63, 3) := by decide +kernel
theorem dq_Lw_law_364 : decode code 364 = .ok (.aload_n 2, 1) := by decide +kernel
theorem dq_Lw_law_365 : decode code 365 = .ok (.invokevirtual 67, 3) := by decide +kernel
theorem dq_Lw_law_368 : decode code 368 = .ok (.if_icmp .eq 57, 3) := by decide +kernel
theorem dq_Lw_law_371 : decode code 371 = .ok (.iconst 0, 1) := by decide +kernel
theorem dq_Lw_law_372 : decode code 372 = .ok (.ireturn, 1) := by decide +kernel
theorem dq_Lw_law_373 : decode code 373 = .ok (.aload_n 1, 1) := by decide +kernel
theorem dq_Lw_law_374 : decode code 374 = .ok (.invokevirtual 68, 3) := by decide +kernel
theorem dq_Lw_law_377 : decode code 377 = .ok (.aload_n 2, 1) := by decide +kernel
theorem dq_Lw_law_378 : decode code 378 = .ok (.invokevirtual 71, 3) := by decide +kernel
theorem dq_Lw_law_381 : decode code 381 = .ok (.if_icmp .eq 44, 3) := by decide +kernel
theorem dq_Lw_law_384 : decode code 384 = .ok (.iconst 0, 1) := by decide +kernel
theorem dq_Lw_law_385 : decode code 385 = .ok (.ireturn, 1) := by decide +kernel
theorem dq_Lw_law_386 : decode code 386 = .ok (.aload_n 1, 1) := by decide +kernel
theorem dq_Lw_law_387 : decode code 387 = .ok (.invokevirtual 72, 3) := by decide +kernel
theorem dq_Lw_law_390 : decode code 390 = .ok (.aload_n 2, 1) := by decide +kernel
theorem dq_Lw_law_391 : decode code 391 = .ok (.invokevirtual 75, 3) := by decide +kernel
theorem dq_Lw_law_394 : decode code 394 = .ok (.if_icmp .eq 31, 3) := by decide +kernel
theorem dq_Lw_law_397 : decode code 397 = .ok (.iconst 0, 1) := by decide +kernel
theorem dq_Lw_law_398 : decode code 398 = .ok (.ireturn, 1) := by decide +kernel
theorem dq_Lw_law_399 : decode code 399 = .ok (.aload_n 1, 1) := by decide +kernel
theorem dq_Lw_law_400 : decode code 400 = .ok (.invokevirtual 76, 3) := by decide +kernel
theorem dq_Lw_law_403 : decode code 403 = .ok (.aload_n 2, 1) := by decide +kernel
theorem dq_Lw_law_404 : decode code 404 = .ok (.invokevirtual 79, 3) := by decide +kernel
theorem dq_Lw_law_407 : decode code 407 = .ok (.if_icmp .eq 18, 3) := by decide +kernel
theorem dq_Lw_law_410 : decode code 410 = .ok (.iconst 0, 1) := by decide +kernel
theorem dq_Lw_law_411 : decode code 411 = .ok (.ireturn, 1) := by decide +kernel
theorem dq_Lw_law_412 : decode code 412 = .ok (.aload_n 1, 1) := by decide +kernel
theorem dq_Lw_law_413 : decode code 413 = .ok (.invokevirtual 80, 3) := by decide +kernel
theorem dq_Lw_law_416 : decode code 416 = .ok (.aload_n 2, 1) := by decide +kernel
theorem dq_Lw_law_417 : decode code 417 = .ok (.invokevirtual 83, 3) := by decide +kernel
theorem dq_Lw_law_420 : decode code 420 = .ok (.if_icmp .eq 5, 3) := by decide +kernel
theorem dq_Lw_law_423 : decode code 423 = .ok (.iconst 0, 1) := by decide +kernel
theorem dq_Lw_law_424 : decode code 424 = .ok (.ireturn, 1) := by decide +kernel
theorem dq_Lw_law_425 : decode code 425 = .ok (.iinc 3 4, 3) := by decide +kernel
theorem dq_Lw_law_428 : decode code 428 = .ok (.goto (-400), 3) := by decide +kernel
theorem dq_Lw_law_431 : decode code 431 = .ok (.iconst 1, 1) := by decide +kernel
theorem dq_Lw_law_432 : decode code 432 = .ok (.ireturn, 1) := by decide +kernel
set_option maxRecDepth 100000 in
def pq_Lw_law_425 (E : wo_E) (mc ms : Nat) (Post : Int32 → wo_W → Prop) (k28 : wo_W → Nat → Nat → Option Nat → Nat → Nat → Int32 → Prop) (G : wo_W) (c s : Nat) (x0 : Option Nat) (x1 : Nat) (x2 : Nat) (x3 : Int32) : Prop := k28 G c s x0 x1 x2 (x3 + (4 : Int32))
set_option maxRecDepth 100000 in
def pq_Lw_law_28 (E : wo_E) (mc ms : Nat) (Post : Int32 → wo_W → Prop) : Nat → wo_W → Nat → Nat → Option Nat → Nat → Nat → Int32 → Prop
  | 0 => fun _ _ _ _ _ _ _ => False
  | n + 1 => fun G c s x0 x1 x2 x3 => ∃ a1 : Nat, x0 = some a1 ∧ wo_ty G a1 = 66 ∧ ((((nI (wo_len G a1)) - (4 : Int32)) < x3 → Post (1 : Int32) G) ∧
  (¬ ((nI (wo_len G a1)) - (4 : Int32)) < x3 → vp_in x3 (wo_len G a1) ∧ ((((wo_ei G a1 x3.toNatClampNeg) &&& (15 : Int32)) = (0 : Int32) → vp_in (x3 + (1 : Int32)) (wo_len G a1) ∧ vp_in (x3 + (2 : Int32)) (wo_len G a1) ∧ vp_in (x3 + (3 : Int32)) (wo_len G a1) ∧ wo_ty G x1 = 1 ∧ ∃ mc8 ms9 : Nat, (c + mc8) ≤ mc ∧ (s + ms9) ≤ ms ∧ pq_EC_feed E mc8 ms9 (fun v11 G10 => 
      wo_ty G10 a1 = 66 ∧ vp_in (x3 + (1 : Int32)) (wo_len G10 a1) ∧ vp_in (x3 + (2 : Int32)) (wo_len G10 a1) ∧ vp_in (x3 + (3 : Int32)) (wo_len G10 a1) ∧ wo_ty G10 x2 = 15 ∧ ∃ mc17 ms18 : Nat, ((c + mc8) + mc17) ≤ mc ∧ ((s + ms9) + ms18) ≤ ms ∧ pq_Md_feed E mc17 ms18 (fun v20 G19 => 
        ((v11 = v20 → pq_Lw_law_425 E mc ms Post (pq_Lw_law_28 E mc ms Post n) G19 ((c + mc8) + mc17) ((s + ms9) + ms18) (some a1) x1 x2 x3) ∧
          (¬ v11 = v20 → Post (0 : Int32) G19))) G10 x2 (wo_ei G10 a1 (x3 + (1 : Int32)).toNatClampNeg) (((wo_ei G10 a1 (x3 + (2 : Int32)).toNatClampNeg).toInt64 <<< ((32 : Int32).toInt64 &&& 63)) ||| ((wo_ei G10 a1 (x3 + (3 : Int32)).toNatClampNeg).toInt64 &&& (4294967295 : Int64)))) G x1 (wo_ei G a1 (x3 + (1 : Int32)).toNatClampNeg) (((wo_ei G a1 (x3 + (2 : Int32)).toNatClampNeg).toInt64 <<< ((32 : Int32).toInt64 &&& 63)) ||| ((wo_ei G a1 (x3 + (3 : Int32)).toNatClampNeg).toInt64 &&& (4294967295 : Int64)))) ∧
    (((wo_ei G a1 x3.toNatClampNeg) &&& (15 : Int32)) = (1 : Int32) → vp_in (x3 + (1 : Int32)) (wo_len G a1) ∧ wo_ty G x1 = 1 ∧ ∃ mc23 ms24 : Nat, (c + mc23) ≤ mc ∧ (s + ms24) ≤ ms ∧ pq_EC_out E mc23 ms24 (fun v26 G25 => 
      wo_ty G25 a1 = 66 ∧ vp_in (x3 + (1 : Int32)) (wo_len G25 a1) ∧ wo_ty G25 x2 = 15 ∧ ∃ mc30 ms31 : Nat, ((c + mc23) + mc30) ≤ mc ∧ ((s + ms24) + ms31) ≤ ms ∧ pq_Md_out E mc30 ms31 (fun v33 G32 => 
        (((lg_cmp v26 v33) = (0 : Int32) → pq_Lw_law_425 E mc ms Post (pq_Lw_law_28 E mc ms Post n) G32 ((c + mc23) + mc30) ((s + ms24) + ms31) (some a1) x1 x2 x3) ∧
          (¬ (lg_cmp v26 v33) = (0 : Int32) → Post (0 : Int32) G32))) G25 x2 (wo_ei G25 a1 (x3 + (1 : Int32)).toNatClampNeg)) G x1 (wo_ei G a1 (x3 + (1 : Int32)).toNatClampNeg)) ∧
    (((wo_ei G a1 x3.toNatClampNeg) &&& (15 : Int32)) = (2 : Int32) → vp_in (x3 + (1 : Int32)) (wo_len G a1) ∧ wo_ty G x1 = 1 ∧ ∃ mc36 ms37 : Nat, (c + mc36) ≤ mc ∧ (s + ms37) ≤ ms ∧ pq_EC_pending E mc36 ms37 (fun v39 G38 => 
      wo_ty G38 a1 = 66 ∧ vp_in (x3 + (1 : Int32)) (wo_len G38 a1) ∧ wo_ty G38 x2 = 15 ∧ ∃ mc43 ms44 : Nat, ((c + mc36) + mc43) ≤ mc ∧ ((s + ms37) + ms44) ≤ ms ∧ pq_Md_pending E mc43 ms44 (fun v46 G45 => 
        ((v39 = v46 → pq_Lw_law_425 E mc ms Post (pq_Lw_law_28 E mc ms Post n) G45 ((c + mc36) + mc43) ((s + ms37) + ms44) (some a1) x1 x2 x3) ∧
          (¬ v39 = v46 → Post (0 : Int32) G45))) G38 x2 (wo_ei G38 a1 (x3 + (1 : Int32)).toNatClampNeg)) G x1 (wo_ei G a1 (x3 + (1 : Int32)).toNatClampNeg)) ∧
    (((wo_ei G a1 x3.toNatClampNeg) &&& (15 : Int32)) = (3 : Int32) → vp_in (x3 + (1 : Int32)) (wo_len G a1) ∧ wo_ty G x1 = 1 ∧ ∃ mc49 ms50 : Nat, (c + mc49) ≤ mc ∧ (s + ms50) ≤ ms ∧ pq_EC_waiting E mc49 ms50 (fun v52 G51 => 
      wo_ty G51 a1 = 66 ∧ vp_in (x3 + (1 : Int32)) (wo_len G51 a1) ∧ wo_ty G51 x2 = 15 ∧ ∃ mc56 ms57 : Nat, ((c + mc49) + mc56) ≤ mc ∧ ((s + ms50) + ms57) ≤ ms ∧ pq_Md_waiting E mc56 ms57 (fun v59 G58 => 
        ((v52 = v59 → pq_Lw_law_425 E mc ms Post (pq_Lw_law_28 E mc ms Post n) G58 ((c + mc49) + mc56) ((s + ms50) + ms57) (some a1) x1 x2 x3) ∧
          (¬ v52 = v59 → Post (0 : Int32) G58))) G51 x2 (wo_ei G51 a1 (x3 + (1 : Int32)).toNatClampNeg)) G x1 (wo_ei G a1 (x3 + (1 : Int32)).toNatClampNeg)) ∧
    (((wo_ei G a1 x3.toNatClampNeg) &&& (15 : Int32)) = (4 : Int32) → vp_in (x3 + (1 : Int32)) (wo_len G a1) ∧ wo_ty G x1 = 1 ∧ ∃ mc62 ms63 : Nat, (c + mc62) ≤ mc ∧ (s + ms63) ≤ ms ∧ pq_EC_open E mc62 ms63 (fun v65 G64 => 
      wo_ty G64 a1 = 66 ∧ vp_in (x3 + (1 : Int32)) (wo_len G64 a1) ∧ wo_ty G64 x2 = 15 ∧ ∃ mc69 ms70 : Nat, ((c + mc62) + mc69) ≤ mc ∧ ((s + ms63) + ms70) ≤ ms ∧ pq_Md_open E mc69 ms70 (fun v72 G71 => 
        ((v65 = v72 → pq_Lw_law_425 E mc ms Post (pq_Lw_law_28 E mc ms Post n) G71 ((c + mc62) + mc69) ((s + ms63) + ms70) (some a1) x1 x2 x3) ∧
          (¬ v65 = v72 → Post (0 : Int32) G71))) G64 x2 (wo_ei G64 a1 (x3 + (1 : Int32)).toNatClampNeg)) G x1 (wo_ei G a1 (x3 + (1 : Int32)).toNatClampNeg)) ∧
    (((wo_ei G a1 x3.toNatClampNeg) &&& (15 : Int32)) = (5 : Int32) → vp_in (x3 + (1 : Int32)) (wo_len G a1) ∧ wo_ty G x1 = 1 ∧ ∃ mc75 ms76 : Nat, (c + mc75) ≤ mc ∧ (s + ms76) ≤ ms ∧ pq_EC_pass E mc75 ms76 (fun v78 G77 => 
      wo_ty G77 a1 = 66 ∧ vp_in (x3 + (1 : Int32)) (wo_len G77 a1) ∧ wo_ty G77 x2 = 15 ∧ ∃ mc82 ms83 : Nat, ((c + mc75) + mc82) ≤ mc ∧ ((s + ms76) + ms83) ≤ ms ∧ pq_Md_pass E mc82 ms83 (fun v85 G84 => 
        ((v78 = v85 → pq_Lw_law_425 E mc ms Post (pq_Lw_law_28 E mc ms Post n) G84 ((c + mc75) + mc82) ((s + ms76) + ms83) (some a1) x1 x2 x3) ∧
          (¬ v78 = v85 → Post (0 : Int32) G84))) G77 x2 (wo_ei G77 a1 (x3 + (1 : Int32)).toNatClampNeg)) G x1 (wo_ei G a1 (x3 + (1 : Int32)).toNatClampNeg)) ∧
    (((wo_ei G a1 x3.toNatClampNeg) &&& (15 : Int32)) = (6 : Int32) → vp_in (x3 + (1 : Int32)) (wo_len G a1) ∧ wo_ty G x1 = 1 ∧ ∃ mc88 ms89 : Nat, (c + mc88) ≤ mc ∧ (s + ms89) ≤ ms ∧ pq_EC_origin E mc88 ms89 (fun v91 G90 => 
      wo_ty G90 a1 = 66 ∧ vp_in (x3 + (1 : Int32)) (wo_len G90 a1) ∧ wo_ty G90 x2 = 15 ∧ ∃ mc95 ms96 : Nat, ((c + mc88) + mc95) ≤ mc ∧ ((s + ms89) + ms96) ≤ ms ∧ pq_Md_origin E mc95 ms96 (fun v98 G97 => 
        ((v91 = v98 → pq_Lw_law_425 E mc ms Post (pq_Lw_law_28 E mc ms Post n) G97 ((c + mc88) + mc95) ((s + ms89) + ms96) (some a1) x1 x2 x3) ∧
          (¬ v91 = v98 → Post (0 : Int32) G97))) G90 x2 (wo_ei G90 a1 (x3 + (1 : Int32)).toNatClampNeg)) G x1 (wo_ei G a1 (x3 + (1 : Int32)).toNatClampNeg)) ∧
    (((wo_ei G a1 x3.toNatClampNeg) &&& (15 : Int32)) = (7 : Int32) → vp_in (x3 + (1 : Int32)) (wo_len G a1) ∧ wo_ty G x1 = 1 ∧ ∃ mc101 ms102 : Nat, (c + mc101) ≤ mc ∧ (s + ms102) ≤ ms ∧ pq_EC_arrive E mc101 ms102 (fun v104 G103 => 
      wo_ty G103 a1 = 66 ∧ vp_in (x3 + (1 : Int32)) (wo_len G103 a1) ∧ wo_ty G103 x2 = 15 ∧ ∃ mc108 ms109 : Nat, ((c + mc101) + mc108) ≤ mc ∧ ((s + ms102) + ms109) ≤ ms ∧ pq_Md_arrive E mc108 ms109 (fun v111 G110 => 
        ((v104 = v111 → pq_Lw_law_425 E mc ms Post (pq_Lw_law_28 E mc ms Post n) G110 ((c + mc101) + mc108) ((s + ms102) + ms109) (some a1) x1 x2 x3) ∧
          (¬ v104 = v111 → Post (0 : Int32) G110))) G103 x2 (wo_ei G103 a1 (x3 + (1 : Int32)).toNatClampNeg)) G x1 (wo_ei G a1 (x3 + (1 : Int32)).toNatClampNeg)) ∧
    (((wo_ei G a1 x3.toNatClampNeg) &&& (15 : Int32)) = (8 : Int32) → vp_in (x3 + (1 : Int32)) (wo_len G a1) ∧ wo_ty G x1 = 1 ∧ ∃ mc114 ms115 : Nat, (c + mc114) ≤ mc ∧ (s + ms115) ≤ ms ∧ pq_EC_upstream E mc114 ms115 (fun v117 G116 => 
      wo_ty G116 a1 = 66 ∧ vp_in (x3 + (1 : Int32)) (wo_len G116 a1) ∧ wo_ty G116 x2 = 15 ∧ ∃ mc121 ms122 : Nat, ((c + mc114) + mc121) ≤ mc ∧ ((s + ms115) + ms122) ≤ ms ∧ pq_Md_upstream E mc121 ms122 (fun v124 G123 => 
        ((v117 = v124 → pq_Lw_law_425 E mc ms Post (pq_Lw_law_28 E mc ms Post n) G123 ((c + mc114) + mc121) ((s + ms115) + ms122) (some a1) x1 x2 x3) ∧
          (¬ v117 = v124 → Post (0 : Int32) G123))) G116 x2 (wo_ei G116 a1 (x3 + (1 : Int32)).toNatClampNeg)) G x1 (wo_ei G a1 (x3 + (1 : Int32)).toNatClampNeg)) ∧
    (((wo_ei G a1 x3.toNatClampNeg) &&& (15 : Int32)) = (9 : Int32) → wo_ty G x1 = 1 ∧ ∃ mc126 ms127 : Nat, (c + mc126) ≤ mc ∧ (s + ms127) ≤ ms ∧ pq_EC_queue E mc126 ms127 (fun v129 G128 => 
      wo_ty G128 x2 = 15 ∧ ∃ mc131 ms132 : Nat, ((c + mc126) + mc131) ≤ mc ∧ ((s + ms127) + ms132) ≤ ms ∧ pq_Md_queue E mc131 ms132 (fun v134 G133 => 
        ((v129 = v134 → pq_Lw_law_425 E mc ms Post (pq_Lw_law_28 E mc ms Post n) G133 ((c + mc126) + mc131) ((s + ms127) + ms132) (some a1) x1 x2 x3) ∧
          (¬ v129 = v134 → Post (0 : Int32) G133))) G128 x2) G x1) ∧
    (((wo_ei G a1 x3.toNatClampNeg) &&& (15 : Int32)) = (10 : Int32) → wo_ty G x1 = 1 ∧ ∃ mc136 ms137 : Nat, (c + mc136) ≤ mc ∧ (s + ms137) ≤ ms ∧ pq_EC_stored E mc136 ms137 (fun v139 G138 => 
      wo_ty G138 x2 = 15 ∧ ∃ mc141 ms142 : Nat, ((c + mc136) + mc141) ≤ mc ∧ ((s + ms137) + ms142) ≤ ms ∧ pq_Md_stored E mc141 ms142 (fun v144 G143 => 
        ((v139 = v144 → pq_Lw_law_425 E mc ms Post (pq_Lw_law_28 E mc ms Post n) G143 ((c + mc136) + mc141) ((s + ms137) + ms142) (some a1) x1 x2 x3) ∧
          (¬ v139 = v144 → Post (0 : Int32) G143))) G138 x2) G x1) ∧
    (((wo_ei G a1 x3.toNatClampNeg) &&& (15 : Int32)) = (11 : Int32) → wo_ty G x1 = 1 ∧ ∃ mc146 ms147 : Nat, (c + mc146) ≤ mc ∧ (s + ms147) ≤ ms ∧ pq_EC_bytes E mc146 ms147 (fun v149 G148 => 
      wo_ty G148 x2 = 15 ∧ ∃ mc151 ms152 : Nat, ((c + mc146) + mc151) ≤ mc ∧ ((s + ms147) + ms152) ≤ ms ∧ pq_Md_bytes E mc151 ms152 (fun v154 G153 => 
        ((v149 = v154 → pq_Lw_law_425 E mc ms Post (pq_Lw_law_28 E mc ms Post n) G153 ((c + mc146) + mc151) ((s + ms147) + ms152) (some a1) x1 x2 x3) ∧
          (¬ v149 = v154 → Post (0 : Int32) G153))) G148 x2) G x1) ∧
    (((wo_ei G a1 x3.toNatClampNeg) &&& (15 : Int32)) = (12 : Int32) → wo_ty G x1 = 1 ∧ ∃ mc156 ms157 : Nat, (c + mc156) ≤ mc ∧ (s + ms157) ≤ ms ∧ pq_EC_tag E mc156 ms157 (fun v159 G158 => 
      wo_ty G158 x2 = 15 ∧ ∃ mc161 ms162 : Nat, ((c + mc156) + mc161) ≤ mc ∧ ((s + ms157) + ms162) ≤ ms ∧ pq_Md_tag E mc161 ms162 (fun v164 G163 => 
        ((v159 = v164 → pq_Lw_law_425 E mc ms Post (pq_Lw_law_28 E mc ms Post n) G163 ((c + mc156) + mc161) ((s + ms157) + ms162) (some a1) x1 x2 x3) ∧
          (¬ v159 = v164 → Post (0 : Int32) G163))) G158 x2) G x1) ∧
    (((wo_ei G a1 x3.toNatClampNeg) &&& (15 : Int32)) = (13 : Int32) → wo_ty G x1 = 1 ∧ ∃ mc166 ms167 : Nat, (c + mc166) ≤ mc ∧ (s + ms167) ≤ ms ∧ pq_EC_clock E mc166 ms167 (fun v169 G168 => 
      wo_ty G168 x2 = 15 ∧ ∃ mc171 ms172 : Nat, ((c + mc166) + mc171) ≤ mc ∧ ((s + ms167) + ms172) ≤ ms ∧ pq_Md_clock E mc171 ms172 (fun v174 G173 => 
        ((v169 = v174 → pq_Lw_law_425 E mc ms Post (pq_Lw_law_28 E mc ms Post n) G173 ((c + mc166) + mc171) ((s + ms167) + ms172) (some a1) x1 x2 x3) ∧
          (¬ v169 = v174 → Post (0 : Int32) G173))) G168 x2) G x1) ∧
    (¬ ((wo_ei G a1 x3.toNatClampNeg) &&& (15 : Int32)) = (0 : Int32) → ¬ ((wo_ei G a1 x3.toNatClampNeg) &&& (15 : Int32)) = (1 : Int32) → ¬ ((wo_ei G a1 x3.toNatClampNeg) &&& (15 : Int32)) = (2 : Int32) → ¬ ((wo_ei G a1 x3.toNatClampNeg) &&& (15 : Int32)) = (3 : Int32) → ¬ ((wo_ei G a1 x3.toNatClampNeg) &&& (15 : Int32)) = (4 : Int32) → ¬ ((wo_ei G a1 x3.toNatClampNeg) &&& (15 : Int32)) = (5 : Int32) → ¬ ((wo_ei G a1 x3.toNatClampNeg) &&& (15 : Int32)) = (6 : Int32) → ¬ ((wo_ei G a1 x3.toNatClampNeg) &&& (15 : Int32)) = (7 : Int32) → ¬ ((wo_ei G a1 x3.toNatClampNeg) &&& (15 : Int32)) = (8 : Int32) → ¬ ((wo_ei G a1 x3.toNatClampNeg) &&& (15 : Int32)) = (9 : Int32) → ¬ ((wo_ei G a1 x3.toNatClampNeg) &&& (15 : Int32)) = (10 : Int32) → ¬ ((wo_ei G a1 x3.toNatClampNeg) &&& (15 : Int32)) = (11 : Int32) → ¬ ((wo_ei G a1 x3.toNatClampNeg) &&& (15 : Int32)) = (12 : Int32) → ¬ ((wo_ei G a1 x3.toNatClampNeg) &&& (15 : Int32)) = (13 : Int32) → pq_Lw_law_425 E mc ms Post (pq_Lw_law_28 E mc ms Post n) G c s (some a1) x1 x2 x3))))
set_option maxRecDepth 100000 in
def pq_Lw_law_0 (E : wo_E) (mc ms : Nat) (Post : Int32 → wo_W → Prop) (G : wo_W) (c s : Nat) (x0 : Option Nat) : Prop := (c + 1) ≤ mc ∧ (s + 7) ≤ ms ∧ ∀ q3 : Nat, wo_ty G q3 = 0 → en_bs E ≤ q3 → ∀ G6 : wo_W, G6 = wo_new G q3 1 → 
  ∃ mc8 ms9 : Nat, ((c + 1) + mc8) ≤ mc ∧ ((s + 7) + ms9) ≤ ms ∧ pq_Lw_cell E mc8 ms9 (fun v11 G10 => 
  wo_ty G10 q3 = 1 ∧ ∃ mc13 ms14 : Nat, (((c + 1) + mc8) + mc13) ≤ mc ∧ (((s + 7) + ms9) + ms14) ≤ ms ∧ pq_EC_init E mc13 ms14 (fun G15 => 
    ((((c + 1) + mc8) + mc13) + 1) ≤ mc ∧ ((((s + 7) + ms9) + ms14) + 62) ≤ ms ∧ ∀ q18 : Nat, wo_ty G15 q18 = 0 → en_bs E ≤ q18 → ∀ G21 : wo_W, G21 = wo_new G15 q18 15 → 
      ∃ mc23 ms24 : Nat, (((((c + 1) + mc8) + mc13) + 1) + mc23) ≤ mc ∧ (((((s + 7) + ms9) + ms14) + 62) + ms24) ≤ ms ∧ pq_Lw_cell E mc23 ms24 (fun v26 G25 => 
      wo_ty G25 q18 = 15 ∧ ∃ mc28 ms29 : Nat, ((((((c + 1) + mc8) + mc13) + 1) + mc23) + mc28) ≤ mc ∧ ((((((s + 7) + ms9) + ms14) + 62) + ms24) + ms29) ≤ ms ∧ pq_Md_init E mc28 ms29 (fun G30 => 
        ∃ n1 : Nat, pq_Lw_law_28 E mc ms Post n1 G30 ((((((c + 1) + mc8) + mc13) + 1) + mc23) + mc28) ((((((s + 7) + ms9) + ms14) + 62) + ms24) + ms29) x0 q3 q18 (1 : Int32)) G25 q18 v26) G21 x0 (0 : Int32)) G10 q3 v11) G6 x0 (0 : Int32)
def pq_Lw_law (E : wo_E) (mc ms : Nat) (Post : Int32 → wo_W → Prop) (G : wo_W) (x0 : Option Nat) : Prop := pq_Lw_law_0 E mc ms Post G 0 0 x0
set_option maxRecDepth 100000 in
set_option maxHeartbeats 4000000 in
theorem tq_Lw_law_425 {p : Program} {l : Launch} {e : Env} {s₀ : State} {m : MethodId} {b₀ : Nat} {nm₀ : String} {below : List Frame} {meth : Method} {cd : Code} {E : wo_E}  {k28 : wo_W → Nat → Nat → Option Nat → Nat → Nat → Int32 → Prop} (hC : wo_Cx E "EdgeCacheLaw" code 4 18 736 (ret) nm₀ 600000 7302250 p room_1 s₀ m #[Value.ref b₀] meth cd) (hbs : en_bs E = s₀.heap.size) (hk28 : ∀ {G : wo_W} {c s : Nat} {x0 : Option Nat} {x1 : Nat} {x2 : Nat} {x3 : Int32}, k28 G c s x0 x1 x2 x3 → ∀ {H : Heap} {locs : List Loc} {ls : Array Slot}, wo_Se E G H → va_S (en_A E) s₀.heap H locs → lx_has ls 4 [(0, 1, va_rf x0), (1, 1, .ref x1), (2, 1, .ref x2), (3, 1, .int x3)] → c ≤ 600000 → s ≤ 7302250 → W p l e room_1 s₀ m #[Value.ref b₀] below meth cd H locs c s (lw_Z below #[Value.ref b₀] s₀) (F0 m 28 ls [])) : ∀ {G : wo_W} {c s : Nat} {x0 : Option Nat} {x1 : Nat} {x2 : Nat} {x3 : Int32}, pq_Lw_law_425 E 600000 7302250 lw_Po k28 G c s x0 x1 x2 x3 → ∀ {H : Heap} {locs : List Loc} {ls : Array Slot}, wo_Se E G H → va_S (en_A E) s₀.heap H locs → lx_has ls 4 [(0, 1, va_rf x0), (1, 1, .ref x1), (2, 1, .ref x2), (3, 1, .int x3)] → c ≤ 600000 → s ≤ 7302250 → W p l e room_1 s₀ m #[Value.ref b₀] below meth cd H locs c s (lw_Z below #[Value.ref b₀] s₀) (F0 m 425 ls []) := by
  intro G c s x0 x1 x2 x3 hw H locs ls hG hS hl hcc hss
  dsimp only [pq_Lw_law_425] at hw
  have hx := hC.1
  have hb := hC.2.1
  refine lx_iinc (k := 3) (v := (x3 + (4 : Int32))) (lv' := [(3, 1, .int (x3 + (4 : Int32))), (0, 1, va_rf x0), (1, 1, .ref x1), (2, 1, .ref x2)]) hx hb dq_Lw_law_425 hl rfl rfl (by decide) rfl (fun ls hl' => ?_)
  clear hl
  have hl := hl'
  clear hl'
  refine lv_goto (tgt := 28) hx hb dq_Lw_law_428 rfl ?_
  exact hk28 hw hG hS (lx_sub hl [1, 2, 3, 0] rfl) hcc hss
set_option maxRecDepth 100000 in
set_option maxHeartbeats 4000000 in
theorem tq_Lw_law_28 {p : Program} {l : Launch} {e : Env} {s₀ : State} {m : MethodId} {b₀ : Nat} {nm₀ : String} {below : List Frame} {meth : Method} {cd : Code} {E : wo_E}  (hC : wo_Cx E "EdgeCacheLaw" code 4 18 736 (ret) nm₀ 600000 7302250 p room_1 s₀ m #[Value.ref b₀] meth cd) (hbs : en_bs E = s₀.heap.size) : ∀ n : Nat, ∀ {G : wo_W} {c s : Nat} {x0 : Option Nat} {x1 : Nat} {x2 : Nat} {x3 : Int32}, pq_Lw_law_28 E 600000 7302250 lw_Po n G c s x0 x1 x2 x3 → ∀ {H : Heap} {locs : List Loc} {ls : Array Slot}, wo_Se E G H → va_S (en_A E) s₀.heap H locs → lx_has ls 4 [(0, 1, va_rf x0), (1, 1, .ref x1), (2, 1, .ref x2), (3, 1, .int x3)] → c ≤ 600000 → s ≤ 7302250 → W p l e room_1 s₀ m #[Value.ref b₀] below meth cd H locs c s (lw_Z below #[Value.ref b₀] s₀) (F0 m 28 ls []) := by
  intro n
  induction n with
  | zero => intro G c s x0 x1 x2 x3 hw; exact hw.elim
  | succ n ih =>
    intro G c s x0 x1 x2 x3 hw H locs ls hG hS hl hcc hss
    dsimp only [pq_Lw_law_28] at hw
    have hx := hC.1
    have hb := hC.2.1
    refine lv_iload_n hx hb dq_Lw_law_28 rfl (lx_at hl 3 rfl) ?_
    refine lx_aloadR_n hx hb dq_Lw_law_29 rfl (lx_at hl 0 rfl) ?_
    obtain ⟨a1, rfl, hw⟩ := hw
    obtain ⟨t2, hw⟩ := hw
    refine wo_alen (j := 2) hC rfl hG t2 dq_Lw_law_30 ?_
    refine lv_iconst (v := (4 : Int32)) hx hb dq_Lw_law_31 rfl ?_
    refine lv_isub hx hb dq_Lw_law_32 ?_
    refine lv_icmp_gt (tgt := 431) hx hb dq_Lw_law_33 rfl (fun h => ?_) (fun h => ?_)
    · replace hw := hw.1 h
      refine lv_iconst (v := (1 : Int32)) hx hb dq_Lw_law_431 rfl ?_
      exact wo_lawret hC hbs hG hS hcc hss hw dq_Lw_law_432
    · replace hw := hw.2 h
      refine lv_aload_n hx hb dq_Lw_law_36 rfl (lx_at hl 0 rfl) ?_
      refine lv_iload_n hx hb dq_Lw_law_37 rfl (lx_at hl 3 rfl) ?_
      obtain ⟨h3, hw⟩ := hw
      refine wo_iald (j := 2) hC rfl hG t2 h3 dq_Lw_law_38 ?_
      refine lv_bipush (v := (15 : Int32)) hx hb dq_Lw_law_39 rfl ?_
      refine lv_iand hx hb dq_Lw_law_41 ?_
      by_cases h0 : ((wo_ei G a1 x3.toNatClampNeg) &&& (15 : Int32)) = (0 : Int32)
      · replace hw := hw.1 h0
        refine lv_tableIn (off := 70) (tgt := 112) hx hb dq_Lw_law_42 (by rw [h0]; decide) (by rw [h0]; decide) (by rw [h0]; rfl) rfl ?_
        refine lv_aload_n hx hb dq_Lw_law_112 rfl (lx_at hl 1 rfl) ?_
        refine lv_aload_n hx hb dq_Lw_law_113 rfl (lx_at hl 0 rfl) ?_
        refine lv_iload_n hx hb dq_Lw_law_114 rfl (lx_at hl 3 rfl) ?_
        refine lv_iconst (v := (1 : Int32)) hx hb dq_Lw_law_115 rfl ?_
        refine lv_iadd hx hb dq_Lw_law_116 ?_
        obtain ⟨h4, hw⟩ := hw
        refine wo_iald (j := 2) hC rfl hG t2 h4 dq_Lw_law_117 ?_
        refine lv_aload_n hx hb dq_Lw_law_118 rfl (lx_at hl 0 rfl) ?_
        refine lv_iload_n hx hb dq_Lw_law_119 rfl (lx_at hl 3 rfl) ?_
        refine lv_iconst (v := (2 : Int32)) hx hb dq_Lw_law_120 rfl ?_
        refine lv_iadd hx hb dq_Lw_law_121 ?_
        obtain ⟨h5, hw⟩ := hw
        refine wo_iald (j := 2) hC rfl hG t2 h5 dq_Lw_law_122 ?_
        refine lv_i2l (v := (wo_ei G a1 (x3 + (2 : Int32)).toNatClampNeg).toInt64) hx hb dq_Lw_law_123 rfl ?_
        refine lv_bipush (v := (32 : Int32)) hx hb dq_Lw_law_124 rfl ?_
        refine lv_lshl hx hb dq_Lw_law_126 rfl ?_
        refine lv_aload_n hx hb dq_Lw_law_127 rfl (lx_at hl 0 rfl) ?_
        refine lv_iload_n hx hb dq_Lw_law_128 rfl (lx_at hl 3 rfl) ?_
        refine lv_iconst (v := (3 : Int32)) hx hb dq_Lw_law_129 rfl ?_
        refine lv_iadd hx hb dq_Lw_law_130 ?_
        obtain ⟨h6, hw⟩ := hw
        refine wo_iald (j := 2) hC rfl hG t2 h6 dq_Lw_law_131 ?_
        refine lv_i2l (v := (wo_ei G a1 (x3 + (3 : Int32)).toNatClampNeg).toInt64) hx hb dq_Lw_law_132 rfl ?_
        refine lv_ldc2 hx hb hC.2.2.2.2.2.1 (hC.2.2.2.2.2.2.1 _ cq_Lw_21) dq_Lw_law_133 ?_
        refine lv_land hx hb dq_Lw_law_136 ?_
        refine lv_lor hx hb dq_Lw_law_137 ?_
        obtain ⟨t7, hw⟩ := hw
        obtain ⟨mc8, ms9, hc1, hs1, hw⟩ := hw
        refine va_calli (wo_runV hC lq_Lw_23 (mq_EC_feed hw) hG hS t7 rfl (lx_sz hl) rfl (Nat.zero_le _) (by decide) dq_Lw_law_138 ⟨hc1, hs1⟩) hS (fun _ _ h => h) (fun _ h => h) (fun v11 G10 t H locs ht hvm hw' hB _ _ hS => ?_)
        clear hw
        have hw := hw'
        clear hw'
        replace hG := wo_bk ht hB
        replace hcc := hc1
        replace hss := hs1
        refine lv_aload_n hx hb dq_Lw_law_141 rfl (lx_at hl 2 rfl) ?_
        refine lv_aload_n hx hb dq_Lw_law_142 rfl (lx_at hl 0 rfl) ?_
        refine lv_iload_n hx hb dq_Lw_law_143 rfl (lx_at hl 3 rfl) ?_
        refine lv_iconst (v := (1 : Int32)) hx hb dq_Lw_law_144 rfl ?_
        refine lv_iadd hx hb dq_Lw_law_145 ?_
        obtain ⟨t12, hw⟩ := hw
        obtain ⟨h13, hw⟩ := hw
        refine wo_iald (j := 2) hC rfl hG t12 h13 dq_Lw_law_146 ?_
        refine lv_aload_n hx hb dq_Lw_law_147 rfl (lx_at hl 0 rfl) ?_
        refine lv_iload_n hx hb dq_Lw_law_148 rfl (lx_at hl 3 rfl) ?_
        refine lv_iconst (v := (2 : Int32)) hx hb dq_Lw_law_149 rfl ?_
        refine lv_iadd hx hb dq_Lw_law_150 ?_
        obtain ⟨h14, hw⟩ := hw
        refine wo_iald (j := 2) hC rfl hG t12 h14 dq_Lw_law_151 ?_
        refine lv_i2l (v := (wo_ei G10 a1 (x3 + (2 : Int32)).toNatClampNeg).toInt64) hx hb dq_Lw_law_152 rfl ?_
        refine lv_bipush (v := (32 : Int32)) hx hb dq_Lw_law_153 rfl ?_
        refine lv_lshl hx hb dq_Lw_law_155 rfl ?_
        refine lv_aload_n hx hb dq_Lw_law_156 rfl (lx_at hl 0 rfl) ?_
        refine lv_iload_n hx hb dq_Lw_law_157 rfl (lx_at hl 3 rfl) ?_
        refine lv_iconst (v := (3 : Int32)) hx hb dq_Lw_law_158 rfl ?_
        refine lv_iadd hx hb dq_Lw_law_159 ?_
        obtain ⟨h15, hw⟩ := hw
        refine wo_iald (j := 2) hC rfl hG t12 h15 dq_Lw_law_160 ?_
        refine lv_i2l (v := (wo_ei G10 a1 (x3 + (3 : Int32)).toNatClampNeg).toInt64) hx hb dq_Lw_law_161 rfl ?_
        refine lv_ldc2 hx hb hC.2.2.2.2.2.1 (hC.2.2.2.2.2.2.1 _ cq_Lw_21) dq_Lw_law_162 ?_
        refine lv_land hx hb dq_Lw_law_165 ?_
        refine lv_lor hx hb dq_Lw_law_166 ?_
        obtain ⟨t16, hw⟩ := hw
        obtain ⟨mc17, ms18, hc1, hs1, hw⟩ := hw
        refine va_calli (wo_runV hC lq_Lw_27 (mq_Md_feed hw) hG hS t16 rfl (lx_sz hl) rfl (lx_rm (Nat.le_of_ble_eq_true rfl)) (by decide) dq_Lw_law_167 ⟨hc1, hs1⟩) hS (fun _ _ h => h) (fun _ h => h) (fun v20 G19 t H locs ht hvm hw' hB _ _ hS => ?_)
        clear hw
        have hw := hw'
        clear hw'
        replace hG := wo_bk ht hB
        replace hcc := hc1
        replace hss := hs1
        refine lv_icmp_eq (tgt := 425) hx hb dq_Lw_law_170 rfl (fun h => ?_) (fun h => ?_)
        · replace hw := hw.1 h
          exact tq_Lw_law_425 hC hbs ih hw hG hS (lx_sub hl [0, 1, 2, 3] rfl) hcc hss
        · replace hw := hw.2 h
          refine lv_iconst (v := (0 : Int32)) hx hb dq_Lw_law_173 rfl ?_
          exact wo_lawret hC hbs hG hS hcc hss hw dq_Lw_law_174
      by_cases h1 : ((wo_ei G a1 x3.toNatClampNeg) &&& (15 : Int32)) = (1 : Int32)
      · replace hw := hw.2.1 h1
        refine lv_tableIn (off := 133) (tgt := 175) hx hb dq_Lw_law_42 (by rw [h1]; decide) (by rw [h1]; decide) (by rw [h1]; rfl) rfl ?_
        refine lv_aload_n hx hb dq_Lw_law_175 rfl (lx_at hl 1 rfl) ?_
        refine lv_aload_n hx hb dq_Lw_law_176 rfl (lx_at hl 0 rfl) ?_
        refine lv_iload_n hx hb dq_Lw_law_177 rfl (lx_at hl 3 rfl) ?_
        refine lv_iconst (v := (1 : Int32)) hx hb dq_Lw_law_178 rfl ?_
        refine lv_iadd hx hb dq_Lw_law_179 ?_
        obtain ⟨h21, hw⟩ := hw
        refine wo_iald (j := 2) hC rfl hG t2 h21 dq_Lw_law_180 ?_
        obtain ⟨t22, hw⟩ := hw
        obtain ⟨mc23, ms24, hc1, hs1, hw⟩ := hw
        refine va_calll (wo_runV hC lq_Lw_28 (mq_EC_out hw) hG hS t22 rfl (lx_sz hl) rfl (Nat.zero_le _) (by decide) dq_Lw_law_181 ⟨hc1, hs1⟩) hS (fun _ _ h => h) (fun _ h => h) (fun v26 G25 t H locs ht hvm hw' hB _ _ hS => ?_)
        clear hw
        have hw := hw'
        clear hw'
        replace hG := wo_bk ht hB
        replace hcc := hc1
        replace hss := hs1
        refine lv_aload_n hx hb dq_Lw_law_184 rfl (lx_at hl 2 rfl) ?_
        refine lv_aload_n hx hb dq_Lw_law_185 rfl (lx_at hl 0 rfl) ?_
        refine lv_iload_n hx hb dq_Lw_law_186 rfl (lx_at hl 3 rfl) ?_
        refine lv_iconst (v := (1 : Int32)) hx hb dq_Lw_law_187 rfl ?_
        refine lv_iadd hx hb dq_Lw_law_188 ?_
        obtain ⟨t27, hw⟩ := hw
        obtain ⟨h28, hw⟩ := hw
        refine wo_iald (j := 2) hC rfl hG t27 h28 dq_Lw_law_189 ?_
        obtain ⟨t29, hw⟩ := hw
        obtain ⟨mc30, ms31, hc1, hs1, hw⟩ := hw
        refine va_calll (wo_runV hC lq_Lw_32 (mq_Md_out hw) hG hS t29 rfl (lx_sz hl) rfl (lx_rm (Nat.le_of_ble_eq_true rfl)) (by decide) dq_Lw_law_190 ⟨hc1, hs1⟩) hS (fun _ _ h => h) (fun _ h => h) (fun v33 G32 t H locs ht hvm hw' hB _ _ hS => ?_)
        clear hw
        have hw := hw'
        clear hw'
        replace hG := wo_bk ht hB
        replace hcc := hc1
        replace hss := hs1
        refine W.lcmp hx hb dq_Lw_law_193 ?_
        refine lv_if_eq (tgt := 425) hx hb dq_Lw_law_194 rfl (fun h => ?_) (fun h => ?_)
        · replace hw := hw.1 h
          exact tq_Lw_law_425 hC hbs ih hw hG hS (lx_sub hl [0, 1, 2, 3] rfl) hcc hss
        · replace hw := hw.2 h
          refine lv_iconst (v := (0 : Int32)) hx hb dq_Lw_law_197 rfl ?_
          exact wo_lawret hC hbs hG hS hcc hss hw dq_Lw_law_198
      by_cases h2 : ((wo_ei G a1 x3.toNatClampNeg) &&& (15 : Int32)) = (2 : Int32)
      · replace hw := hw.2.2.1 h2
        refine lv_tableIn (off := 157) (tgt := 199) hx hb dq_Lw_law_42 (by rw [h2]; decide) (by rw [h2]; decide) (by rw [h2]; rfl) rfl ?_
        refine lv_aload_n hx hb dq_Lw_law_199 rfl (lx_at hl 1 rfl) ?_
        refine lv_aload_n hx hb dq_Lw_law_200 rfl (lx_at hl 0 rfl) ?_
        refine lv_iload_n hx hb dq_Lw_law_201 rfl (lx_at hl 3 rfl) ?_
        refine lv_iconst (v := (1 : Int32)) hx hb dq_Lw_law_202 rfl ?_
        refine lv_iadd hx hb dq_Lw_law_203 ?_
        obtain ⟨h34, hw⟩ := hw
        refine wo_iald (j := 2) hC rfl hG t2 h34 dq_Lw_law_204 ?_
        obtain ⟨t35, hw⟩ := hw
        obtain ⟨mc36, ms37, hc1, hs1, hw⟩ := hw
        refine va_calli (wo_runV hC lq_Lw_33 (mq_EC_pending hw) hG hS t35 rfl (lx_sz hl) rfl (Nat.zero_le _) (by decide) dq_Lw_law_205 ⟨hc1, hs1⟩) hS (fun _ _ h => h) (fun _ h => h) (fun v39 G38 t H locs ht hvm hw' hB _ _ hS => ?_)
        clear hw
        have hw := hw'
        clear hw'
        replace hG := wo_bk ht hB
        replace hcc := hc1
        replace hss := hs1
        refine lv_aload_n hx hb dq_Lw_law_208 rfl (lx_at hl 2 rfl) ?_
        refine lv_aload_n hx hb dq_Lw_law_209 rfl (lx_at hl 0 rfl) ?_
        refine lv_iload_n hx hb dq_Lw_law_210 rfl (lx_at hl 3 rfl) ?_
        refine lv_iconst (v := (1 : Int32)) hx hb dq_Lw_law_211 rfl ?_
        refine lv_iadd hx hb dq_Lw_law_212 ?_
        obtain ⟨t40, hw⟩ := hw
        obtain ⟨h41, hw⟩ := hw
        refine wo_iald (j := 2) hC rfl hG t40 h41 dq_Lw_law_213 ?_
        obtain ⟨t42, hw⟩ := hw
        obtain ⟨mc43, ms44, hc1, hs1, hw⟩ := hw
        refine va_calli (wo_runV hC lq_Lw_37 (mq_Md_pending hw) hG hS t42 rfl (lx_sz hl) rfl (lx_rm (Nat.le_of_ble_eq_true rfl)) (by decide) dq_Lw_law_214 ⟨hc1, hs1⟩) hS (fun _ _ h => h) (fun _ h => h) (fun v46 G45 t H locs ht hvm hw' hB _ _ hS => ?_)
        clear hw
        have hw := hw'
        clear hw'
        replace hG := wo_bk ht hB
        replace hcc := hc1
        replace hss := hs1
        refine lv_icmp_eq (tgt := 425) hx hb dq_Lw_law_217 rfl (fun h => ?_) (fun h => ?_)
        · replace hw := hw.1 h
          exact tq_Lw_law_425 hC hbs ih hw hG hS (lx_sub hl [0, 1, 2, 3] rfl) hcc hss
        · replace hw := hw.2 h
          refine lv_iconst (v := (0 : Int32)) hx hb dq_Lw_law_220 rfl ?_
          exact wo_lawret hC hbs hG hS hcc hss hw dq_Lw_law_221
      by_cases h3 : ((wo_ei G a1 x3.toNatClampNeg) &&& (15 : Int32)) = (3 : Int32)
      · replace hw := hw.2.2.2.1 h3
        refine lv_tableIn (off := 180) (tgt := 222) hx hb dq_Lw_law_42 (by rw [h3]; decide) (by rw [h3]; decide) (by rw [h3]; rfl) rfl ?_
        refine lv_aload_n hx hb dq_Lw_law_222 rfl (lx_at hl 1 rfl) ?_
        refine lv_aload_n hx hb dq_Lw_law_223 rfl (lx_at hl 0 rfl) ?_
        refine lv_iload_n hx hb dq_Lw_law_224 rfl (lx_at hl 3 rfl) ?_
        refine lv_iconst (v := (1 : Int32)) hx hb dq_Lw_law_225 rfl ?_
        refine lv_iadd hx hb dq_Lw_law_226 ?_
        obtain ⟨h47, hw⟩ := hw
        refine wo_iald (j := 2) hC rfl hG t2 h47 dq_Lw_law_227 ?_
        obtain ⟨t48, hw⟩ := hw
        obtain ⟨mc49, ms50, hc1, hs1, hw⟩ := hw
        refine va_calli (wo_runV hC lq_Lw_38 (mq_EC_waiting hw) hG hS t48 rfl (lx_sz hl) rfl (Nat.zero_le _) (by decide) dq_Lw_law_228 ⟨hc1, hs1⟩) hS (fun _ _ h => h) (fun _ h => h) (fun v52 G51 t H locs ht hvm hw' hB _ _ hS => ?_)
        clear hw
        have hw := hw'
        clear hw'
        replace hG := wo_bk ht hB
        replace hcc := hc1
        replace hss := hs1
        refine lv_aload_n hx hb dq_Lw_law_231 rfl (lx_at hl 2 rfl) ?_
        refine lv_aload_n hx hb dq_Lw_law_232 rfl (lx_at hl 0 rfl) ?_
        refine lv_iload_n hx hb dq_Lw_law_233 rfl (lx_at hl 3 rfl) ?_
        refine lv_iconst (v := (1 : Int32)) hx hb dq_Lw_law_234 rfl ?_
        refine lv_iadd hx hb dq_Lw_law_235 ?_
        obtain ⟨t53, hw⟩ := hw
        obtain ⟨h54, hw⟩ := hw
        refine wo_iald (j := 2) hC rfl hG t53 h54 dq_Lw_law_236 ?_
        obtain ⟨t55, hw⟩ := hw
        obtain ⟨mc56, ms57, hc1, hs1, hw⟩ := hw
        refine va_calli (wo_runV hC lq_Lw_41 (mq_Md_waiting hw) hG hS t55 rfl (lx_sz hl) rfl (lx_rm (Nat.le_of_ble_eq_true rfl)) (by decide) dq_Lw_law_237 ⟨hc1, hs1⟩) hS (fun _ _ h => h) (fun _ h => h) (fun v59 G58 t H locs ht hvm hw' hB _ _ hS => ?_)
        clear hw
        have hw := hw'
        clear hw'
        replace hG := wo_bk ht hB
        replace hcc := hc1
        replace hss := hs1
        refine lv_icmp_eq (tgt := 425) hx hb dq_Lw_law_240 rfl (fun h => ?_) (fun h => ?_)
        · replace hw := hw.1 h
          exact tq_Lw_law_425 hC hbs ih hw hG hS (lx_sub hl [0, 1, 2, 3] rfl) hcc hss
        · replace hw := hw.2 h
          refine lv_iconst (v := (0 : Int32)) hx hb dq_Lw_law_243 rfl ?_
          exact wo_lawret hC hbs hG hS hcc hss hw dq_Lw_law_244
      by_cases h4 : ((wo_ei G a1 x3.toNatClampNeg) &&& (15 : Int32)) = (4 : Int32)
      · replace hw := hw.2.2.2.2.1 h4
        refine lv_tableIn (off := 203) (tgt := 245) hx hb dq_Lw_law_42 (by rw [h4]; decide) (by rw [h4]; decide) (by rw [h4]; rfl) rfl ?_
        refine lv_aload_n hx hb dq_Lw_law_245 rfl (lx_at hl 1 rfl) ?_
        refine lv_aload_n hx hb dq_Lw_law_246 rfl (lx_at hl 0 rfl) ?_
        refine lv_iload_n hx hb dq_Lw_law_247 rfl (lx_at hl 3 rfl) ?_
        refine lv_iconst (v := (1 : Int32)) hx hb dq_Lw_law_248 rfl ?_
        refine lv_iadd hx hb dq_Lw_law_249 ?_
        obtain ⟨h60, hw⟩ := hw
        refine wo_iald (j := 2) hC rfl hG t2 h60 dq_Lw_law_250 ?_
        obtain ⟨t61, hw⟩ := hw
        obtain ⟨mc62, ms63, hc1, hs1, hw⟩ := hw
        refine va_calli (wo_runV hC lq_Lw_42 (mq_EC_open hw) hG hS t61 rfl (lx_sz hl) rfl (Nat.zero_le _) (by decide) dq_Lw_law_251 ⟨hc1, hs1⟩) hS (fun _ _ h => h) (fun _ h => h) (fun v65 G64 t H locs ht hvm hw' hB _ _ hS => ?_)
        clear hw
        have hw := hw'
        clear hw'
        replace hG := wo_bk ht hB
        replace hcc := hc1
        replace hss := hs1
        refine lv_aload_n hx hb dq_Lw_law_254 rfl (lx_at hl 2 rfl) ?_
        refine lv_aload_n hx hb dq_Lw_law_255 rfl (lx_at hl 0 rfl) ?_
        refine lv_iload_n hx hb dq_Lw_law_256 rfl (lx_at hl 3 rfl) ?_
        refine lv_iconst (v := (1 : Int32)) hx hb dq_Lw_law_257 rfl ?_
        refine lv_iadd hx hb dq_Lw_law_258 ?_
        obtain ⟨t66, hw⟩ := hw
        obtain ⟨h67, hw⟩ := hw
        refine wo_iald (j := 2) hC rfl hG t66 h67 dq_Lw_law_259 ?_
        obtain ⟨t68, hw⟩ := hw
        obtain ⟨mc69, ms70, hc1, hs1, hw⟩ := hw
        refine va_calli (wo_runV hC lq_Lw_46 (mq_Md_open hw) hG hS t68 rfl (lx_sz hl) rfl (lx_rm (Nat.le_of_ble_eq_true rfl)) (by decide) dq_Lw_law_260 ⟨hc1, hs1⟩) hS (fun _ _ h => h) (fun _ h => h) (fun v72 G71 t H locs ht hvm hw' hB _ _ hS => ?_)
        clear hw
        have hw := hw'
        clear hw'
        replace hG := wo_bk ht hB
        replace hcc := hc1
        replace hss := hs1
        refine lv_icmp_eq (tgt := 425) hx hb dq_Lw_law_263 rfl (fun h => ?_) (fun h => ?_)
        · replace hw := hw.1 h
          exact tq_Lw_law_425 hC hbs ih hw hG hS (lx_sub hl [0, 1, 2, 3] rfl) hcc hss
        · replace hw := hw.2 h
          refine lv_iconst (v := (0 : Int32)) hx hb dq_Lw_law_266 rfl ?_
          exact wo_lawret hC hbs hG hS hcc hss hw dq_Lw_law_267
      by_cases h5 : ((wo_ei G a1 x3.toNatClampNeg) &&& (15 : Int32)) = (5 : Int32)
      · replace hw := hw.2.2.2.2.2.1 h5
        refine lv_tableIn (off := 226) (tgt := 268) hx hb dq_Lw_law_42 (by rw [h5]; decide) (by rw [h5]; decide) (by rw [h5]; rfl) rfl ?_
        refine lv_aload_n hx hb dq_Lw_law_268 rfl (lx_at hl 1 rfl) ?_
        refine lv_aload_n hx hb dq_Lw_law_269 rfl (lx_at hl 0 rfl) ?_
        refine lv_iload_n hx hb dq_Lw_law_270 rfl (lx_at hl 3 rfl) ?_
        refine lv_iconst (v := (1 : Int32)) hx hb dq_Lw_law_271 rfl ?_
        refine lv_iadd hx hb dq_Lw_law_272 ?_
        obtain ⟨h73, hw⟩ := hw
        refine wo_iald (j := 2) hC rfl hG t2 h73 dq_Lw_law_273 ?_
        obtain ⟨t74, hw⟩ := hw
        obtain ⟨mc75, ms76, hc1, hs1, hw⟩ := hw
        refine va_calli (wo_runV hC lq_Lw_47 (mq_EC_pass hw) hG hS t74 rfl (lx_sz hl) rfl (Nat.zero_le _) (by decide) dq_Lw_law_274 ⟨hc1, hs1⟩) hS (fun _ _ h => h) (fun _ h => h) (fun v78 G77 t H locs ht hvm hw' hB _ _ hS => ?_)
        clear hw
        have hw := hw'
        clear hw'
        replace hG := wo_bk ht hB
        replace hcc := hc1
        replace hss := hs1
        refine lv_aload_n hx hb dq_Lw_law_277 rfl (lx_at hl 2 rfl) ?_
        refine lv_aload_n hx hb dq_Lw_law_278 rfl (lx_at hl 0 rfl) ?_
        refine lv_iload_n hx hb dq_Lw_law_279 rfl (lx_at hl 3 rfl) ?_
        refine lv_iconst (v := (1 : Int32)) hx hb dq_Lw_law_280 rfl ?_
        refine lv_iadd hx hb dq_Lw_law_281 ?_
        obtain ⟨t79, hw⟩ := hw
        obtain ⟨h80, hw⟩ := hw
        refine wo_iald (j := 2) hC rfl hG t79 h80 dq_Lw_law_282 ?_
        obtain ⟨t81, hw⟩ := hw
        obtain ⟨mc82, ms83, hc1, hs1, hw⟩ := hw
        refine va_calli (wo_runV hC lq_Lw_50 (mq_Md_pass hw) hG hS t81 rfl (lx_sz hl) rfl (lx_rm (Nat.le_of_ble_eq_true rfl)) (by decide) dq_Lw_law_283 ⟨hc1, hs1⟩) hS (fun _ _ h => h) (fun _ h => h) (fun v85 G84 t H locs ht hvm hw' hB _ _ hS => ?_)
        clear hw
        have hw := hw'
        clear hw'
        replace hG := wo_bk ht hB
        replace hcc := hc1
        replace hss := hs1
        refine lv_icmp_eq (tgt := 425) hx hb dq_Lw_law_286 rfl (fun h => ?_) (fun h => ?_)
        · replace hw := hw.1 h
          exact tq_Lw_law_425 hC hbs ih hw hG hS (lx_sub hl [0, 1, 2, 3] rfl) hcc hss
        · replace hw := hw.2 h
          refine lv_iconst (v := (0 : Int32)) hx hb dq_Lw_law_289 rfl ?_
          exact wo_lawret hC hbs hG hS hcc hss hw dq_Lw_law_290
      by_cases h6 : ((wo_ei G a1 x3.toNatClampNeg) &&& (15 : Int32)) = (6 : Int32)
      · replace hw := hw.2.2.2.2.2.2.1 h6
        refine lv_tableIn (off := 249) (tgt := 291) hx hb dq_Lw_law_42 (by rw [h6]; decide) (by rw [h6]; decide) (by rw [h6]; rfl) rfl ?_
        refine lv_aload_n hx hb dq_Lw_law_291 rfl (lx_at hl 1 rfl) ?_
        refine lv_aload_n hx hb dq_Lw_law_292 rfl (lx_at hl 0 rfl) ?_
        refine lv_iload_n hx hb dq_Lw_law_293 rfl (lx_at hl 3 rfl) ?_
        refine lv_iconst (v := (1 : Int32)) hx hb dq_Lw_law_294 rfl ?_
        refine lv_iadd hx hb dq_Lw_law_295 ?_
        obtain ⟨h86, hw⟩ := hw
        refine wo_iald (j := 2) hC rfl hG t2 h86 dq_Lw_law_296 ?_
        obtain ⟨t87, hw⟩ := hw
        obtain ⟨mc88, ms89, hc1, hs1, hw⟩ := hw
        refine va_calli (wo_runV hC lq_Lw_51 (mq_EC_origin hw) hG hS t87 rfl (lx_sz hl) rfl (Nat.zero_le _) (by decide) dq_Lw_law_297 ⟨hc1, hs1⟩) hS (fun _ _ h => h) (fun _ h => h) (fun v91 G90 t H locs ht hvm hw' hB _ _ hS => ?_)
        clear hw
        have hw := hw'
        clear hw'
        replace hG := wo_bk ht hB
        replace hcc := hc1
        replace hss := hs1
        refine lv_aload_n hx hb dq_Lw_law_300 rfl (lx_at hl 2 rfl) ?_
        refine lv_aload_n hx hb dq_Lw_law_301 rfl (lx_at hl 0 rfl) ?_
        refine lv_iload_n hx hb dq_Lw_law_302 rfl (lx_at hl 3 rfl) ?_
        refine lv_iconst (v := (1 : Int32)) hx hb dq_Lw_law_303 rfl ?_
        refine lv_iadd hx hb dq_Lw_law_304 ?_
        obtain ⟨t92, hw⟩ := hw
        obtain ⟨h93, hw⟩ := hw
        refine wo_iald (j := 2) hC rfl hG t92 h93 dq_Lw_law_305 ?_
        obtain ⟨t94, hw⟩ := hw
        obtain ⟨mc95, ms96, hc1, hs1, hw⟩ := hw
        refine va_calli (wo_runV hC lq_Lw_54 (mq_Md_origin hw) hG hS t94 rfl (lx_sz hl) rfl (lx_rm (Nat.le_of_ble_eq_true rfl)) (by decide) dq_Lw_law_306 ⟨hc1, hs1⟩) hS (fun _ _ h => h) (fun _ h => h) (fun v98 G97 t H locs ht hvm hw' hB _ _ hS => ?_)
        clear hw
        have hw := hw'
        clear hw'
        replace hG := wo_bk ht hB
        replace hcc := hc1
        replace hss := hs1
        refine lv_icmp_eq (tgt := 425) hx hb dq_Lw_law_309 rfl (fun h => ?_) (fun h => ?_)
        · replace hw := hw.1 h
          exact tq_Lw_law_425 hC hbs ih hw hG hS (lx_sub hl [0, 1, 2, 3] rfl) hcc hss
        · replace hw := hw.2 h
          refine lv_iconst (v := (0 : Int32)) hx hb dq_Lw_law_312 rfl ?_
          exact wo_lawret hC hbs hG hS hcc hss hw dq_Lw_law_313
      by_cases h7 : ((wo_ei G a1 x3.toNatClampNeg) &&& (15 : Int32)) = (7 : Int32)
      · replace hw := hw.2.2.2.2.2.2.2.1 h7
        refine lv_tableIn (off := 272) (tgt := 314) hx hb dq_Lw_law_42 (by rw [h7]; decide) (by rw [h7]; decide) (by rw [h7]; rfl) rfl ?_
        refine lv_aload_n hx hb dq_Lw_law_314 rfl (lx_at hl 1 rfl) ?_
        refine lv_aload_n hx hb dq_Lw_law_315 rfl (lx_at hl 0 rfl) ?_
        refine lv_iload_n hx hb dq_Lw_law_316 rfl (lx_at hl 3 rfl) ?_
        refine lv_iconst (v := (1 : Int32)) hx hb dq_Lw_law_317 rfl ?_
        refine lv_iadd hx hb dq_Lw_law_318 ?_
        obtain ⟨h99, hw⟩ := hw
        refine wo_iald (j := 2) hC rfl hG t2 h99 dq_Lw_law_319 ?_
        obtain ⟨t100, hw⟩ := hw
        obtain ⟨mc101, ms102, hc1, hs1, hw⟩ := hw
        refine va_calli (wo_runV hC lq_Lw_55 (mq_EC_arrive hw) hG hS t100 rfl (lx_sz hl) rfl (Nat.zero_le _) (by decide) dq_Lw_law_320 ⟨hc1, hs1⟩) hS (fun _ _ h => h) (fun _ h => h) (fun v104 G103 t H locs ht hvm hw' hB _ _ hS => ?_)
        clear hw
        have hw := hw'
        clear hw'
        replace hG := wo_bk ht hB
        replace hcc := hc1
        replace hss := hs1
        refine lv_aload_n hx hb dq_Lw_law_323 rfl (lx_at hl 2 rfl) ?_
        refine lv_aload_n hx hb dq_Lw_law_324 rfl (lx_at hl 0 rfl) ?_
        refine lv_iload_n hx hb dq_Lw_law_325 rfl (lx_at hl 3 rfl) ?_
        refine lv_iconst (v := (1 : Int32)) hx hb dq_Lw_law_326 rfl ?_
        refine lv_iadd hx hb dq_Lw_law_327 ?_
        obtain ⟨t105, hw⟩ := hw
        obtain ⟨h106, hw⟩ := hw
        refine wo_iald (j := 2) hC rfl hG t105 h106 dq_Lw_law_328 ?_
        obtain ⟨t107, hw⟩ := hw
        obtain ⟨mc108, ms109, hc1, hs1, hw⟩ := hw
        refine va_calli (wo_runV hC lq_Lw_58 (mq_Md_arrive hw) hG hS t107 rfl (lx_sz hl) rfl (lx_rm (Nat.le_of_ble_eq_true rfl)) (by decide) dq_Lw_law_329 ⟨hc1, hs1⟩) hS (fun _ _ h => h) (fun _ h => h) (fun v111 G110 t H locs ht hvm hw' hB _ _ hS => ?_)
        clear hw
        have hw := hw'
        clear hw'
        replace hG := wo_bk ht hB
        replace hcc := hc1
        replace hss := hs1
        refine lv_icmp_eq (tgt := 425) hx hb dq_Lw_law_332 rfl (fun h => ?_) (fun h => ?_)
        · replace hw := hw.1 h
          exact tq_Lw_law_425 hC hbs ih hw hG hS (lx_sub hl [0, 1, 2, 3] rfl) hcc hss
        · replace hw := hw.2 h
          refine lv_iconst (v := (0 : Int32)) hx hb dq_Lw_law_335 rfl ?_
          exact wo_lawret hC hbs hG hS hcc hss hw dq_Lw_law_336
      by_cases h8 : ((wo_ei G a1 x3.toNatClampNeg) &&& (15 : Int32)) = (8 : Int32)
      · replace hw := hw.2.2.2.2.2.2.2.2.1 h8
        refine lv_tableIn (off := 295) (tgt := 337) hx hb dq_Lw_law_42 (by rw [h8]; decide) (by rw [h8]; decide) (by rw [h8]; rfl) rfl ?_
        refine lv_aload_n hx hb dq_Lw_law_337 rfl (lx_at hl 1 rfl) ?_
        refine lv_aload_n hx hb dq_Lw_law_338 rfl (lx_at hl 0 rfl) ?_
        refine lv_iload_n hx hb dq_Lw_law_339 rfl (lx_at hl 3 rfl) ?_
        refine lv_iconst (v := (1 : Int32)) hx hb dq_Lw_law_340 rfl ?_
        refine lv_iadd hx hb dq_Lw_law_341 ?_
        obtain ⟨h112, hw⟩ := hw
        refine wo_iald (j := 2) hC rfl hG t2 h112 dq_Lw_law_342 ?_
        obtain ⟨t113, hw⟩ := hw
        obtain ⟨mc114, ms115, hc1, hs1, hw⟩ := hw
        refine va_calli (wo_runV hC lq_Lw_59 (mq_EC_upstream hw) hG hS t113 rfl (lx_sz hl) rfl (Nat.zero_le _) (by decide) dq_Lw_law_343 ⟨hc1, hs1⟩) hS (fun _ _ h => h) (fun _ h => h) (fun v117 G116 t H locs ht hvm hw' hB _ _ hS => ?_)
        clear hw
        have hw := hw'
        clear hw'
        replace hG := wo_bk ht hB
        replace hcc := hc1
        replace hss := hs1
        refine lv_aload_n hx hb dq_Lw_law_346 rfl (lx_at hl 2 rfl) ?_
        refine lv_aload_n hx hb dq_Lw_law_347 rfl (lx_at hl 0 rfl) ?_
        refine lv_iload_n hx hb dq_Lw_law_348 rfl (lx_at hl 3 rfl) ?_
        refine lv_iconst (v := (1 : Int32)) hx hb dq_Lw_law_349 rfl ?_
        refine lv_iadd hx hb dq_Lw_law_350 ?_
        obtain ⟨t118, hw⟩ := hw
        obtain ⟨h119, hw⟩ := hw
        refine wo_iald (j := 2) hC rfl hG t118 h119 dq_Lw_law_351 ?_
        obtain ⟨t120, hw⟩ := hw
        obtain ⟨mc121, ms122, hc1, hs1, hw⟩ := hw
        refine va_calli (wo_runV hC lq_Lw_62 (mq_Md_upstream hw) hG hS t120 rfl (lx_sz hl) rfl (lx_rm (Nat.le_of_ble_eq_true rfl)) (by decide) dq_Lw_law_352 ⟨hc1, hs1⟩) hS (fun _ _ h => h) (fun _ h => h) (fun v124 G123 t H locs ht hvm hw' hB _ _ hS => ?_)
        clear hw
        have hw := hw'
        clear hw'
        replace hG := wo_bk ht hB
        replace hcc := hc1
        replace hss := hs1
        refine lv_icmp_eq (tgt := 425) hx hb dq_Lw_law_355 rfl (fun h => ?_) (fun h => ?_)
        · replace hw := hw.1 h
          exact tq_Lw_law_425 hC hbs ih hw hG hS (lx_sub hl [0, 1, 2, 3] rfl) hcc hss
        · replace hw := hw.2 h
          refine lv_iconst (v := (0 : Int32)) hx hb dq_Lw_law_358 rfl ?_
          exact wo_lawret hC hbs hG hS hcc hss hw dq_Lw_law_359
      by_cases h9 : ((wo_ei G a1 x3.toNatClampNeg) &&& (15 : Int32)) = (9 : Int32)
      · replace hw := hw.2.2.2.2.2.2.2.2.2.1 h9
        refine lv_tableIn (off := 318) (tgt := 360) hx hb dq_Lw_law_42 (by rw [h9]; decide) (by rw [h9]; decide) (by rw [h9]; rfl) rfl ?_
        refine lv_aload_n hx hb dq_Lw_law_360 rfl (lx_at hl 1 rfl) ?_
        obtain ⟨t125, hw⟩ := hw
        obtain ⟨mc126, ms127, hc1, hs1, hw⟩ := hw
        refine va_calli (wo_runV hC lq_Lw_63 (mq_EC_queue hw) hG hS t125 rfl (lx_sz hl) rfl (Nat.zero_le _) (by decide) dq_Lw_law_361 ⟨hc1, hs1⟩) hS (fun _ _ h => h) (fun _ h => h) (fun v129 G128 t H locs ht hvm hw' hB _ _ hS => ?_)
        clear hw
        have hw := hw'
        clear hw'
        replace hG := wo_bk ht hB
        replace hcc := hc1
        replace hss := hs1
        refine lv_aload_n hx hb dq_Lw_law_364 rfl (lx_at hl 2 rfl) ?_
        obtain ⟨t130, hw⟩ := hw
        obtain ⟨mc131, ms132, hc1, hs1, hw⟩ := hw
        refine va_calli (wo_runV hC lq_Lw_67 (mq_Md_queue hw) hG hS t130 rfl (lx_sz hl) rfl (lx_rm (Nat.le_of_ble_eq_true rfl)) (by decide) dq_Lw_law_365 ⟨hc1, hs1⟩) hS (fun _ _ h => h) (fun _ h => h) (fun v134 G133 t H locs ht hvm hw' hB _ _ hS => ?_)
        clear hw
        have hw := hw'
        clear hw'
        replace hG := wo_bk ht hB
        replace hcc := hc1
        replace hss := hs1
        refine lv_icmp_eq (tgt := 425) hx hb dq_Lw_law_368 rfl (fun h => ?_) (fun h => ?_)
        · replace hw := hw.1 h
          exact tq_Lw_law_425 hC hbs ih hw hG hS (lx_sub hl [0, 1, 2, 3] rfl) hcc hss
        · replace hw := hw.2 h
          refine lv_iconst (v := (0 : Int32)) hx hb dq_Lw_law_371 rfl ?_
          exact wo_lawret hC hbs hG hS hcc hss hw dq_Lw_law_372
      by_cases h10 : ((wo_ei G a1 x3.toNatClampNeg) &&& (15 : Int32)) = (10 : Int32)
      · replace hw := hw.2.2.2.2.2.2.2.2.2.2.1 h10
        refine lv_tableIn (off := 331) (tgt := 373) hx hb dq_Lw_law_42 (by rw [h10]; decide) (by rw [h10]; decide) (by rw [h10]; rfl) rfl ?_
        refine lv_aload_n hx hb dq_Lw_law_373 rfl (lx_at hl 1 rfl) ?_
        obtain ⟨t135, hw⟩ := hw
        obtain ⟨mc136, ms137, hc1, hs1, hw⟩ := hw
        refine va_calli (wo_runV hC lq_Lw_68 (mq_EC_stored hw) hG hS t135 rfl (lx_sz hl) rfl (Nat.zero_le _) (by decide) dq_Lw_law_374 ⟨hc1, hs1⟩) hS (fun _ _ h => h) (fun _ h => h) (fun v139 G138 t H locs ht hvm hw' hB _ _ hS => ?_)
        clear hw
        have hw := hw'
        clear hw'
        replace hG := wo_bk ht hB
        replace hcc := hc1
        replace hss := hs1
        refine lv_aload_n hx hb dq_Lw_law_377 rfl (lx_at hl 2 rfl) ?_
        obtain ⟨t140, hw⟩ := hw
        obtain ⟨mc141, ms142, hc1, hs1, hw⟩ := hw
        refine va_calli (wo_runV hC lq_Lw_71 (mq_Md_stored hw) hG hS t140 rfl (lx_sz hl) rfl (lx_rm (Nat.le_of_ble_eq_true rfl)) (by decide) dq_Lw_law_378 ⟨hc1, hs1⟩) hS (fun _ _ h => h) (fun _ h => h) (fun v144 G143 t H locs ht hvm hw' hB _ _ hS => ?_)
        clear hw
        have hw := hw'
        clear hw'
        replace hG := wo_bk ht hB
        replace hcc := hc1
        replace hss := hs1
        refine lv_icmp_eq (tgt := 425) hx hb dq_Lw_law_381 rfl (fun h => ?_) (fun h => ?_)
        · replace hw := hw.1 h
          exact tq_Lw_law_425 hC hbs ih hw hG hS (lx_sub hl [0, 1, 2, 3] rfl) hcc hss
        · replace hw := hw.2 h
          refine lv_iconst (v := (0 : Int32)) hx hb dq_Lw_law_384 rfl ?_
          exact wo_lawret hC hbs hG hS hcc hss hw dq_Lw_law_385
      by_cases h11 : ((wo_ei G a1 x3.toNatClampNeg) &&& (15 : Int32)) = (11 : Int32)
      · replace hw := hw.2.2.2.2.2.2.2.2.2.2.2.1 h11
        refine lv_tableIn (off := 344) (tgt := 386) hx hb dq_Lw_law_42 (by rw [h11]; decide) (by rw [h11]; decide) (by rw [h11]; rfl) rfl ?_
        refine lv_aload_n hx hb dq_Lw_law_386 rfl (lx_at hl 1 rfl) ?_
        obtain ⟨t145, hw⟩ := hw
        obtain ⟨mc146, ms147, hc1, hs1, hw⟩ := hw
        refine va_calli (wo_runV hC lq_Lw_72 (mq_EC_bytes hw) hG hS t145 rfl (lx_sz hl) rfl (Nat.zero_le _) (by decide) dq_Lw_law_387 ⟨hc1, hs1⟩) hS (fun _ _ h => h) (fun _ h => h) (fun v149 G148 t H locs ht hvm hw' hB _ _ hS => ?_)
        clear hw
        have hw := hw'
        clear hw'
        replace hG := wo_bk ht hB
        replace hcc := hc1
        replace hss := hs1
        refine lv_aload_n hx hb dq_Lw_law_390 rfl (lx_at hl 2 rfl) ?_
        obtain ⟨t150, hw⟩ := hw
        obtain ⟨mc151, ms152, hc1, hs1, hw⟩ := hw
        refine va_calli (wo_runV hC lq_Lw_75 (mq_Md_bytes hw) hG hS t150 rfl (lx_sz hl) rfl (lx_rm (Nat.le_of_ble_eq_true rfl)) (by decide) dq_Lw_law_391 ⟨hc1, hs1⟩) hS (fun _ _ h => h) (fun _ h => h) (fun v154 G153 t H locs ht hvm hw' hB _ _ hS => ?_)
        clear hw
        have hw := hw'
        clear hw'
        replace hG := wo_bk ht hB
        replace hcc := hc1
        replace hss := hs1
        refine lv_icmp_eq (tgt := 425) hx hb dq_Lw_law_394 rfl (fun h => ?_) (fun h => ?_)
        · replace hw := hw.1 h
          exact tq_Lw_law_425 hC hbs ih hw hG hS (lx_sub hl [0, 1, 2, 3] rfl) hcc hss
        · replace hw := hw.2 h
          refine lv_iconst (v := (0 : Int32)) hx hb dq_Lw_law_397 rfl ?_
          exact wo_lawret hC hbs hG hS hcc hss hw dq_Lw_law_398
      by_cases h12 : ((wo_ei G a1 x3.toNatClampNeg) &&& (15 : Int32)) = (12 : Int32)
      · replace hw := hw.2.2.2.2.2.2.2.2.2.2.2.2.1 h12
        refine lv_tableIn (off := 357) (tgt := 399) hx hb dq_Lw_law_42 (by rw [h12]; decide) (by rw [h12]; decide) (by rw [h12]; rfl) rfl ?_
        refine lv_aload_n hx hb dq_Lw_law_399 rfl (lx_at hl 1 rfl) ?_
        obtain ⟨t155, hw⟩ := hw
        obtain ⟨mc156, ms157, hc1, hs1, hw⟩ := hw
        refine va_calli (wo_runV hC lq_Lw_76 (mq_EC_tag hw) hG hS t155 rfl (lx_sz hl) rfl (Nat.zero_le _) (by decide) dq_Lw_law_400 ⟨hc1, hs1⟩) hS (fun _ _ h => h) (fun _ h => h) (fun v159 G158 t H locs ht hvm hw' hB _ _ hS => ?_)
        clear hw
        have hw := hw'
        clear hw'
        replace hG := wo_bk ht hB
        replace hcc := hc1
        replace hss := hs1
        refine lv_aload_n hx hb dq_Lw_law_403 rfl (lx_at hl 2 rfl) ?_
        obtain ⟨t160, hw⟩ := hw
        obtain ⟨mc161, ms162, hc1, hs1, hw⟩ := hw
        refine va_calli (wo_runV hC lq_Lw_79 (mq_Md_tag hw) hG hS t160 rfl (lx_sz hl) rfl (lx_rm (Nat.le_of_ble_eq_true rfl)) (by decide) dq_Lw_law_404 ⟨hc1, hs1⟩) hS (fun _ _ h => h) (fun _ h => h) (fun v164 G163 t H locs ht hvm hw' hB _ _ hS => ?_)
        clear hw
        have hw := hw'
        clear hw'
        replace hG := wo_bk ht hB
        replace hcc := hc1
        replace hss := hs1
        refine lv_icmp_eq (tgt := 425) hx hb dq_Lw_law_407 rfl (fun h => ?_) (fun h => ?_)
        · replace hw := hw.1 h
          exact tq_Lw_law_425 hC hbs ih hw hG hS (lx_sub hl [0, 1, 2, 3] rfl) hcc hss
        · replace hw := hw.2 h
          refine lv_iconst (v := (0 : Int32)) hx hb dq_Lw_law_410 rfl ?_
          exact wo_lawret hC hbs hG hS hcc hss hw dq_Lw_law_411
      by_cases h13 : ((wo_ei G a1 x3.toNatClampNeg) &&& (15 : Int32)) = (13 : Int32)
      · replace hw := hw.2.2.2.2.2.2.2.2.2.2.2.2.2.1 h13
        refine lv_tableIn (off := 370) (tgt := 412) hx hb dq_Lw_law_42 (by rw [h13]; decide) (by rw [h13]; decide) (by rw [h13]; rfl) rfl ?_
        refine lv_aload_n hx hb dq_Lw_law_412 rfl (lx_at hl 1 rfl) ?_
        obtain ⟨t165, hw⟩ := hw
        obtain ⟨mc166, ms167, hc1, hs1, hw⟩ := hw
        refine va_calli (wo_runV hC lq_Lw_80 (mq_EC_clock hw) hG hS t165 rfl (lx_sz hl) rfl (Nat.zero_le _) (by decide) dq_Lw_law_413 ⟨hc1, hs1⟩) hS (fun _ _ h => h) (fun _ h => h) (fun v169 G168 t H locs ht hvm hw' hB _ _ hS => ?_)
        clear hw
        have hw := hw'
        clear hw'
        replace hG := wo_bk ht hB
        replace hcc := hc1
        replace hss := hs1
        refine lv_aload_n hx hb dq_Lw_law_416 rfl (lx_at hl 2 rfl) ?_
        obtain ⟨t170, hw⟩ := hw
        obtain ⟨mc171, ms172, hc1, hs1, hw⟩ := hw
        refine va_calli (wo_runV hC lq_Lw_83 (mq_Md_clock hw) hG hS t170 rfl (lx_sz hl) rfl (lx_rm (Nat.le_of_ble_eq_true rfl)) (by decide) dq_Lw_law_417 ⟨hc1, hs1⟩) hS (fun _ _ h => h) (fun _ h => h) (fun v174 G173 t H locs ht hvm hw' hB _ _ hS => ?_)
        clear hw
        have hw := hw'
        clear hw'
        replace hG := wo_bk ht hB
        replace hcc := hc1
        replace hss := hs1
        refine lv_icmp_eq (tgt := 425) hx hb dq_Lw_law_420 rfl (fun h => ?_) (fun h => ?_)
        · replace hw := hw.1 h
          exact tq_Lw_law_425 hC hbs ih hw hG hS (lx_sub hl [0, 1, 2, 3] rfl) hcc hss
        · replace hw := hw.2 h
          refine lv_iconst (v := (0 : Int32)) hx hb dq_Lw_law_423 rfl ?_
          exact wo_lawret hC hbs hG hS hcc hss hw dq_Lw_law_424
      replace hw := hw.2.2.2.2.2.2.2.2.2.2.2.2.2.2 h0 h1 h2 h3 h4 h5 h6 h7 h8 h9 h10 h11 h12 h13
      have n0 : ¬ (((wo_ei G a1 x3.toNatClampNeg) &&& (15 : Int32))).toInt = 0 := fun q => h0 (Int32.toInt_inj.mp (q.trans (by decide)))
      have n1 : ¬ (((wo_ei G a1 x3.toNatClampNeg) &&& (15 : Int32))).toInt = 1 := fun q => h1 (Int32.toInt_inj.mp (q.trans (by decide)))
      have n2 : ¬ (((wo_ei G a1 x3.toNatClampNeg) &&& (15 : Int32))).toInt = 2 := fun q => h2 (Int32.toInt_inj.mp (q.trans (by decide)))
      have n3 : ¬ (((wo_ei G a1 x3.toNatClampNeg) &&& (15 : Int32))).toInt = 3 := fun q => h3 (Int32.toInt_inj.mp (q.trans (by decide)))
      have n4 : ¬ (((wo_ei G a1 x3.toNatClampNeg) &&& (15 : Int32))).toInt = 4 := fun q => h4 (Int32.toInt_inj.mp (q.trans (by decide)))
      have n5 : ¬ (((wo_ei G a1 x3.toNatClampNeg) &&& (15 : Int32))).toInt = 5 := fun q => h5 (Int32.toInt_inj.mp (q.trans (by decide)))
      have n6 : ¬ (((wo_ei G a1 x3.toNatClampNeg) &&& (15 : Int32))).toInt = 6 := fun q => h6 (Int32.toInt_inj.mp (q.trans (by decide)))
      have n7 : ¬ (((wo_ei G a1 x3.toNatClampNeg) &&& (15 : Int32))).toInt = 7 := fun q => h7 (Int32.toInt_inj.mp (q.trans (by decide)))
      have n8 : ¬ (((wo_ei G a1 x3.toNatClampNeg) &&& (15 : Int32))).toInt = 8 := fun q => h8 (Int32.toInt_inj.mp (q.trans (by decide)))
      have n9 : ¬ (((wo_ei G a1 x3.toNatClampNeg) &&& (15 : Int32))).toInt = 9 := fun q => h9 (Int32.toInt_inj.mp (q.trans (by decide)))
      have n10 : ¬ (((wo_ei G a1 x3.toNatClampNeg) &&& (15 : Int32))).toInt = 10 := fun q => h10 (Int32.toInt_inj.mp (q.trans (by decide)))
      have n11 : ¬ (((wo_ei G a1 x3.toNatClampNeg) &&& (15 : Int32))).toInt = 11 := fun q => h11 (Int32.toInt_inj.mp (q.trans (by decide)))
      have n12 : ¬ (((wo_ei G a1 x3.toNatClampNeg) &&& (15 : Int32))).toInt = 12 := fun q => h12 (Int32.toInt_inj.mp (q.trans (by decide)))
      have n13 : ¬ (((wo_ei G a1 x3.toNatClampNeg) &&& (15 : Int32))).toInt = 13 := fun q => h13 (Int32.toInt_inj.mp (q.trans (by decide)))
      refine lv_tableOut (tgt := 425) hx hb dq_Lw_law_42 (by omega) rfl ?_
      exact tq_Lw_law_425 hC hbs ih hw hG hS (lx_sub hl [0, 1, 2, 3] rfl) hcc hss
set_option maxRecDepth 100000 in
set_option maxHeartbeats 4000000 in
theorem tq_Lw_law_0 {p : Program} {l : Launch} {e : Env} {s₀ : State} {m : MethodId} {b₀ : Nat} {nm₀ : String} {below : List Frame} {meth : Method} {cd : Code} {E : wo_E}  (hC : wo_Cx E "EdgeCacheLaw" code 4 18 736 (ret) nm₀ 600000 7302250 p room_1 s₀ m #[Value.ref b₀] meth cd) (hbs : en_bs E = s₀.heap.size) : ∀ {G : wo_W} {c s : Nat} {x0 : Option Nat}, pq_Lw_law_0 E 600000 7302250 lw_Po G c s x0 → ∀ {H : Heap} {locs : List Loc} {ls : Array Slot}, wo_Se E G H → va_S (en_A E) s₀.heap H locs → lx_has ls 4 [(0, 1, va_rf x0)] → c ≤ 600000 → s ≤ 7302250 → W p l e room_1 s₀ m #[Value.ref b₀] below meth cd H locs c s (lw_Z below #[Value.ref b₀] s₀) (F0 m 0 ls []) := by
  intro G c s x0 hw H locs ls hG hS hl hcc hss
  dsimp only [pq_Lw_law_0] at hw
  have hx := hC.1
  have hb := hC.2.1
  obtain ⟨h1, hw⟩ := hw
  obtain ⟨h2, hw⟩ := hw
  refine wo_newc hC nq_Lw_7 hG hS h1 h2 dq_Lw_law_0 (fun q3 G6 H z4 b5 e7 hG hS => ?_)
  replace hw := hw q3 z4 b5 G6 e7
  replace hcc := h1
  replace hss := h2
  refine lv_dup hx hb dq_Lw_law_3 rfl ?_
  refine lx_aloadR_n hx hb dq_Lw_law_4 rfl (lx_at hl 0 rfl) ?_
  refine lv_iconst (v := (0 : Int32)) hx hb dq_Lw_law_5 rfl ?_
  obtain ⟨mc8, ms9, hc1, hs1, hw⟩ := hw
  refine va_calli (wo_runS hC lq_Lw_9 (mq_Lw_cell hw) hG hS rfl (lx_sz hl) rfl (lx_rm (Nat.le_of_ble_eq_true rfl)) (by decide) dq_Lw_law_6 ⟨hc1, hs1⟩) hS (fun _ _ h => h) (fun _ h => h) (fun v11 G10 t H locs ht hvm hw' hB _ _ hS => ?_)
  clear hw
  have hw := hw'
  clear hw'
  replace hG := wo_bk ht hB
  replace hcc := hc1
  replace hss := hs1
  obtain ⟨t12, hw⟩ := hw
  obtain ⟨mc13, ms14, hc1, hs1, hw⟩ := hw
  refine va_callv (wo_runI hC lq_Lw_15 (mq_EC_init hw) hG hS rfl (lx_sz hl) rfl (lx_rm (Nat.le_of_ble_eq_true rfl)) (by decide) dq_Lw_law_9 ⟨hc1, hs1⟩) hS (fun _ _ h => h) (fun _ h => h) (fun G15 t H locs ht hvm hw' hB _ _ hS => ?_)
  clear hw
  have hw := hw'
  clear hw'
  replace hG := wo_bk ht hB
  replace hcc := hc1
  replace hss := hs1
  refine lx_astore_n (lv' := [(1, 1, .ref q3), (0, 1, va_rf x0)]) hx hb dq_Lw_law_12 rfl hl (by decide) rfl (fun ls hl' => ?_)
  clear hl
  have hl := hl'
  clear hl'
  obtain ⟨h16, hw⟩ := hw
  obtain ⟨h17, hw⟩ := hw
  refine wo_newc hC nq_Lw_18 hG hS h16 h17 dq_Lw_law_13 (fun q18 G21 H z19 b20 e22 hG hS => ?_)
  replace hw := hw q18 z19 b20 G21 e22
  replace hcc := h16
  replace hss := h17
  refine lv_dup hx hb dq_Lw_law_16 rfl ?_
  refine lx_aloadR_n hx hb dq_Lw_law_17 rfl (lx_at hl 1 rfl) ?_
  refine lv_iconst (v := (0 : Int32)) hx hb dq_Lw_law_18 rfl ?_
  obtain ⟨mc23, ms24, hc1, hs1, hw⟩ := hw
  refine va_calli (wo_runS hC lq_Lw_9 (mq_Lw_cell hw) hG hS rfl (lx_sz hl) rfl (lx_rm (Nat.le_of_ble_eq_true rfl)) (by decide) dq_Lw_law_19 ⟨hc1, hs1⟩) hS (fun _ _ h => h) (fun _ h => h) (fun v26 G25 t H locs ht hvm hw' hB _ _ hS => ?_)
  clear hw
  have hw := hw'
  clear hw'
  replace hG := wo_bk ht hB
  replace hcc := hc1
  replace hss := hs1
  obtain ⟨t27, hw⟩ := hw
  obtain ⟨mc28, ms29, hc1, hs1, hw⟩ := hw
  refine va_callv (wo_runI hC lq_Lw_20 (mq_Md_init hw) hG hS rfl (lx_sz hl) rfl (lx_rm (Nat.le_of_ble_eq_true rfl)) (by decide) dq_Lw_law_22 ⟨hc1, hs1⟩) hS (fun _ _ h => h) (fun _ h => h) (fun G30 t H locs ht hvm hw' hB _ _ hS => ?_)
  clear hw
  have hw := hw'
  clear hw'
  replace hG := wo_bk ht hB
  replace hcc := hc1
  replace hss := hs1
  refine lx_astore_n (lv' := [(2, 1, .ref q18), (1, 1, .ref q3), (0, 1, va_rf x0)]) hx hb dq_Lw_law_25 rfl hl (by decide) rfl (fun ls hl' => ?_)
  clear hl
  have hl := hl'
  clear hl'
  refine lv_iconst (v := (1 : Int32)) hx hb dq_Lw_law_26 rfl ?_
  refine lx_istore_n (lv' := [(3, 1, .int (1 : Int32)), (2, 1, .ref q18), (1, 1, .ref q3), (0, 1, va_rf x0)]) hx hb dq_Lw_law_27 rfl hl (by decide) rfl (fun ls hl' => ?_)
  clear hl
  have hl := hl'
  clear hl'
  obtain ⟨n1, hw⟩ := hw
  exact tq_Lw_law_28 hC hbs n1 hw hG hS (lx_sub hl [3, 2, 1, 0] rfl) hcc hss

