def wo_FD (own : String) (idx f kd : Nat) (ty : FieldType) (fin wr : Bool) : Prop := ∃ (c k : Nat) (r : vw_C) (ref : String), f = 64 * c + k ∧ kd = c + 1 ∧ vw_Cl[c]? = some r ∧ k < r.2.2 ∧ vw_Ty c k = ty ∧ vw_Kf c k = true ∧ (r.2.1 k).2.2.2 = fin ∧
  Cond.fieldLink own idx ref (r.2.1 k).2.1 (r.2.1 k).2.2.1 ∈ vw_WG ∧ (ref = (r.2.1 k).1 ∨ Cond.sameField ref (r.2.1 k).1 (r.2.1 k).2.1 (r.2.1 k).2.2.1 ∈ vw_WG) ∧ (wr = true → (r.2.1 k).1 = own)
def wo_Kc (E : wo_E) (U : State) : Prop :=
  (∀ q ∈ vw_Nc, va_Nw (.castable q.1 q.2) U) ∧ (∀ q ∈ vw_Nm, va_Nw (.methodLinkNest q.1 q.2.1 q.2.2.1 q.2.2.2) U) ∧ (∀ q ∈ vw_Sr, vk_R q.1 q.2.1 q.2.2.1 (en_str E q.2.2.2) U) ∧
  (∀ q ∈ vw_Zi, va_Z q.1 q.2.1 q.2.2.1 (.int q.2.2.2) (en_A E) U U.heap) ∧ (∀ q ∈ vw_Za, va_Z q.1 q.2.1 q.2.2.1 (.ref (en_sta E q.2.2.2)) (en_A E) U U.heap) ∧ (∀ C ∈ vw_Ao, va_AO C U) ∧ va_Mi vw_Mc (en_cls E) U ∧ va_Dc U ∧ ∀ q ∈ vw_Zr, ∃ x : Option Nat, va_Z q.1 q.2.1 q.2.2 (va_rf x) (en_A E) U U.heap
def wo_Kn (E : wo_E) (U : State) : Prop := va_K (en_dC E, en_dI E) vw_Cl (en_tys E) U ∧ (∀ (a j : Nat) (ty : FieldType), a < en_bs E → vw_Ar[j]? = some ty → en_ca E a = j → ArrOfT U (en_cc E a) ty) ∧ wo_Kc E U
theorem wo_Kn.go {E : wo_E} {s U : State} (hW : s.WarmedH U.vm) (hh : ∀ q : Nat, q < s.heap.size → ¬ en_A E q → U.heap[q]? = s.heap[q]?) (h : wo_Kn E s) : wo_Kn E U := by
  obtain ⟨h1, h2, k1, k2, k3, k4, k5, k6, k7, k8, k9⟩ := h
  exact ⟨h1.moved hW.alike, fun a j ty ha hj hc => arrOfT_moved hW.alike (h2 a j ty ha hj hc), fun q hq => va_Nw.warmC hW (k1 q hq), fun q hq => va_Nw.warmM hW (k2 q hq), fun q hq => vk_R.warm hW (k3 q hq),
    fun q hq => ((k4 q hq).moved hW.alike).kept hh, fun q hq => ((k5 q hq).moved hW.alike).kept hh, fun C hC => (k6 C hC).moved hW.alike, k7.moved hW.alike, k8.moved hW.alike, fun q hq => by obtain ⟨x, h⟩ := k9 q hq; exact ⟨x, (h.moved hW.alike).kept hh⟩⟩
theorem wo_Kn.same {E : wo_E} {s U : State} (hv : U.vm = s.vm) (hh : U.heap = s.heap) (h : wo_Kn E s) : wo_Kn E U := by
  have ha : s.vm.Alike U.vm := by rw [hv]; exact Vm.Alike.refl _
  obtain ⟨h1, h2, k1, k2, k3, k4, k5, k6, k7, k8, k9⟩ := h
  exact ⟨h1.moved ha, fun a j ty q1 q2 q3 => arrOfT_moved ha (h2 a j ty q1 q2 q3), fun q hq => va_Nw.same rfl hv.symm (k1 q hq), fun q hq => va_Nw.same rfl hv.symm (k2 q hq), fun q hq => vk_R.same hv (k3 q hq),
    fun q hq => by rw [hh]; exact (k4 q hq).moved ha, fun q hq => by rw [hh]; exact (k5 q hq).moved ha, fun C hC => (k6 C hC).moved ha, k7.moved ha, k8.moved ha, fun q hq => by obtain ⟨x, h⟩ := k9 q hq; exact ⟨x, by rw [hh]; exact h.moved ha⟩⟩
def wo_Ok (E : wo_E) (G : wo_W) (U : State) : Prop := wo_Se E G U.heap ∧ wo_Kn E U
def wo_B (E : wo_E) : wo_W → State → Prop := fun G t => wo_Se E G t.heap
theorem wo_Sa.cls {E : wo_E} {G : wo_W} {H : Heap} {a c : Nat} {r : vw_C} (h : wo_Sa E G H a) (hk : wo_ty G a = c + 1) (hr : vw_Cl[c]? = some r) : ∃ cell : Cell, H[a]? = some cell ∧ cell.cls = en_dC E c ∧ cell.vm.isStatics = false ∧ cell.vm ≠ .unknown := by
  obtain ⟨g1, g2⟩ := h.2.1 c r hk hr
  by_cases hb : en_bs E ≤ a
  · obtain ⟨cell, q1, q2, q3, -⟩ := g1 hb
    exact ⟨cell, q1, q2, by rw [q3]; rfl, by rw [q3]; exact fun h => by cases h⟩
  · obtain ⟨cell, q1, q2, q3, q4, -⟩ := g2 (Nat.lt_of_not_le hb)
    exact ⟨cell, q1, q2, q3, q4⟩
theorem wo_Sa.arr {E : wo_E} {G : wo_W} {H : Heap} {a j : Nat} {ty : FieldType} {s : State} (hK : wo_Kn E s) (h : wo_Sa E G H a) (hk : wo_ty G a = 64 + j) (ht : vw_Ar[j]? = some ty) :
    ∃ cell : Cell, H[a]? = some cell ∧ s.isArrayOf cell ty ∧ cell.vm ≠ .unknown ∧ wo_len G a ≤ cell.slots.size ∧ cell.slots.size.toInt32 = Int32.ofNat (wo_len G a) ∧ ∀ i, i < wo_len G a → cell.slots[i]? = some (wo_ev ty G a i) := by
  obtain ⟨g1, g2⟩ := h.2.2 j ty hk ht
  by_cases hb : en_bs E ≤ a
  · refine ⟨_, g1 hb, (hK.1.2 j _ (en_tys_at E ht)).1 _ _, (fun h => by cases h), ?_, ?_, fun i hi => arrV_read _ _ hi⟩
    · rw [arrV_size]; exact Nat.le_refl _
    · rw [arrV_size]
  · obtain ⟨q0, cell, q1, q2, q3, q4, q5, q6, q7⟩ := g2 (Nat.lt_of_not_le hb)
    obtain ⟨-, kA, h2, comp, h3⟩ := hK.2.1 a j ty (Nat.lt_of_not_le hb) ht q0 0 (fun _ => .null)
    exact ⟨cell, q1, ⟨q3, kA, by rw [q2]; exact h2, comp, h3⟩, q4, q5, q6, q7⟩
def wo_Cx (E : wo_E) (own : String) (cc : ByteArray) (nL fr lo : Nat) (ret : Option FieldType) (nm : String) (mc ms : Nat) (p : Program) (R : Room) (s : State) (m : MethodId) (args : Array Value) (meth : Method) (cd : Code) : Prop :=
  p.tables.exec = Jvm.exec ∧ cd.code = cc ∧ cd.maxLocals = nL ∧ meth.sig.returnType = ret ∧ meth.locks = false ∧ s.vm.findClass own = some m.cls ∧ (∀ w ∈ vw_WG, w.before args s = true) ∧ wo_Kn E s ∧ meth.name = nm ∧ en_bs E ≤ s.heap.size ∧ R.frames = fr ∧ R.locals = lo ∧ R.cells = mc ∧ R.slots = ms
def wo_put (G G1 : wo_W) (f a : Nat) (ty : FieldType) (v : Value) : Prop := (∀ b, b ≠ a → wo_eq G G1 b) ∧ wo_ty G1 a = wo_ty G a ∧ wo_fv ty G1 f a = v ∧ ∀ (g : Nat) (t : FieldType), g ≠ f → wo_fv t G1 g a = wo_fv t G g a
theorem wo_put_i {G : wo_W} {f a : Nat} {x : Int32} {ty : FieldType} (h : wo_isI ty = true) : wo_put G (wo_si G f a x) f a ty (.int x) := by
  refine ⟨fun b hb => ⟨rfl, rfl, fun g => by simp [wo_gi, wo_si, wo_u2, hb], fun _ => rfl, fun _ => rfl, fun _ => rfl, fun _ => rfl, fun _ => rfl⟩, rfl, by rw [wo_fv_I h]; simp [wo_gi, wo_si, wo_u2], fun g t hg => ?_⟩
  cases t <;> simp [wo_fv, wo_gi, wo_gl, wo_gr, wo_si, wo_u2, hg]
theorem wo_put_l {G : wo_W} {f a : Nat} {x : Int64} : wo_put G (wo_sl G f a x) f a .long (.long x) := by
  refine ⟨fun b hb => ⟨rfl, rfl, fun _ => rfl, fun g => by simp [wo_gl, wo_sl, wo_u2, hb], fun _ => rfl, fun _ => rfl, fun _ => rfl, fun _ => rfl⟩, rfl, by simp [wo_fv, wo_gl, wo_sl, wo_u2], fun g t hg => ?_⟩
  cases t <;> simp [wo_fv, wo_gi, wo_gl, wo_gr, wo_sl, wo_u2, hg]
theorem wo_put_r {G : wo_W} {f a : Nat} {x : Option Nat} {ty : FieldType} (h : wo_isR ty = true) : wo_put G (wo_sr G f a x) f a ty (va_rf x) := by
  refine ⟨fun b hb => ⟨rfl, rfl, fun _ => rfl, fun _ => rfl, fun g => by simp [wo_gr, wo_sr, wo_u2, hb], fun _ => rfl, fun _ => rfl, fun _ => rfl⟩, rfl, by rw [wo_fv_R h]; simp [wo_gr, wo_sr, wo_u2], fun g t hg => ?_⟩
  cases t <;> simp [wo_fv, wo_gi, wo_gl, wo_gr, wo_sr, wo_u2, hg]
theorem wo_Sput {E : wo_E} {G G1 : wo_W} {H H1 : Heap} {a c k : Nat} {r : vw_C} {cell : Cell} {v : Value} (hG : wo_Se E G H) (hb : en_bs E ≤ a) (hk : wo_ty G a = c + 1) (hr : vw_Cl[c]? = some r) (hkN : k < r.2.2) (hu : wo_put G G1 (64 * c + k) a (vw_Ty c k) v)
    (hap : ∀ x y, x < r.2.2 → y < r.2.2 → x ≠ y → en_dI E c x ≠ en_dI E c y) (q1 : H[a]? = some cell) (q2 : cell.cls = en_dC E c) (q3 : cell.vm = .none) (q4 : ∀ j, j < r.2.2 → cell.slots[en_dI E c j]? = some (wo_fv (vw_Ty c j) G (64 * c + j) a))
    (e1 : H1[a]? = some (cell.setSlot (en_dI E c k) v)) (e2 : H1.size = H.size) (e3 : ∀ q, q ≠ a → H1[q]? = H[q]?) : wo_Se E G1 H1 := by
  obtain ⟨u1, u2, u3, u4⟩ := hu
  have hlt : a < H1.size := (Array.getElem?_eq_some_iff.mp e1).1
  refine hG.wr e2 e3 u1 ⟨fun _ => hlt, fun c' r' hc' hr' => ?_, fun j ty hj ht => ?_⟩
  · have ec : c' = c := by omega
    subst ec
    cases hr.symm.trans hr'
    refine ⟨fun _ => t_OB.to (V := updV (fun k => wo_fv (vw_Ty c' k) G (64 * c' + k) a) k v) ⟨_, e1, q2, q3, t_set q4 hap hkN v⟩ (fun j hj => ?_), fun h => absurd hb (Nat.not_le.mpr h)⟩
    by_cases hjk : j = k
    · subst hjk; simp [updV, u3]
    · have : 64 * c' + j ≠ 64 * c' + k := by omega
      simp [updV, hjk, u4 _ _ this]
  · have hc : c < vw_Cl.length := (List.getElem?_eq_some_iff.mp hr).1
    have := vt_ln
    omega
section WR
variable {p : Program} {l : Launch} {e : Env} {R : Room} {s : State} {m : MethodId} {args : Array Value} {below : List Frame} {meth : Method} {cd : Code} {H : Heap} {locs : List Loc} {cells slots : Nat} {Q : State → Prop}
variable {cc : ByteArray} {pc : Nat} {ls : Array Slot} {rest : List Value} {E : wo_E} {G : wo_W} {own nm : String} {nL fr lo mc ms : Nat} {ret : Option FieldType} {a idx f kd : Nat} {ty : FieldType} {fin wr : Bool}
theorem wo_get (hC : wo_Cx E own cc nL fr lo ret nm mc ms p R s m args meth cd) (F : wo_FD own idx f kd ty fin wr) (hG : wo_Se E G H) (hk : wo_ty G a = kd) (hdg : decode cc pc = .ok (.getfield idx, 3))
    (kk : W p l e R s m args below meth cd H locs cells slots Q (F0 m (pc + 3) ls (wo_fv ty G f a :: rest))) : W p l e R s m args below meth cd H locs cells slots Q (F0 m pc ls (.ref a :: rest)) := by
  obtain ⟨c, k, r, ref, rfl, rfl, hr, hkN, rfl, hkf, rfl, hl, hsm, -⟩ := F
  obtain ⟨hx, hb, hml, hrt, hlk, hown, hts, hK, -⟩ := hC
  obtain ⟨hSl, hfc, kC, hkC, hkind⟩ := hK.1.1 c r hr
  obtain ⟨cf, kf, fi, fd, hi, hsl⟩ := hSl k hkN
  have hst := (u_facts hfc hkC (u_lays hts (vt_ws c r hr) hkN) hi).1
  have hi' : s.fieldFound? ref (r.2.1 k).2.1 (r.2.1 k).2.2.1 = some (cf, kf, fi, fd) := by
    rcases hsm with h | h
    · rw [h]; exact hi
    · exact u_same (hts _ h) _ hi
  have hcell : ∃ cell : Cell, H[a]? = some cell ∧ cell.vm ≠ .unknown ∧ cell.slots[en_dI E c k]? = some (wo_fv (vw_Ty c k) G (64 * c + k) a) := by
    obtain ⟨g1, g2⟩ := (hG.2 a).2.1 c r hk hr
    by_cases hbs : en_bs E ≤ a
    · obtain ⟨cell, q1, q2, q3, q4⟩ := g1 hbs
      exact ⟨cell, q1, (by rw [q3]; exact fun h => by cases h), q4 k hkN⟩
    · obtain ⟨cell, q1, q2, q3, q4, q5⟩ := g2 (Nat.lt_of_not_le hbs)
      exact ⟨cell, q1, q4, q5 k hkN hkf⟩
  obtain ⟨cell, q1, q3, q4⟩ := hcell
  exact W.getf hx hb hown (hts _ hl) hi' hst q1 q3 (by rw [hsl]; exact q4) rfl rfl hdg kk
theorem wo_getI (hC : wo_Cx E own cc nL fr lo ret nm mc ms p R s m args meth cd) (F : wo_FD own idx f kd ty fin wr) (hi : wo_isI ty = true) (hG : wo_Se E G H) (hk : wo_ty G a = kd) (hdg : decode cc pc = .ok (.getfield idx, 3))
    (kk : W p l e R s m args below meth cd H locs cells slots Q (F0 m (pc + 3) ls (.int (wo_gi G f a) :: rest))) : W p l e R s m args below meth cd H locs cells slots Q (F0 m pc ls (.ref a :: rest)) :=
  wo_get hC F hG hk hdg (by rw [wo_fv_I hi]; exact kk)
theorem wo_getL (hC : wo_Cx E own cc nL fr lo ret nm mc ms p R s m args meth cd) (F : wo_FD own idx f kd .long fin wr) (hG : wo_Se E G H) (hk : wo_ty G a = kd) (hdg : decode cc pc = .ok (.getfield idx, 3))
    (kk : W p l e R s m args below meth cd H locs cells slots Q (F0 m (pc + 3) ls (.long (wo_gl G f a) :: rest))) : W p l e R s m args below meth cd H locs cells slots Q (F0 m pc ls (.ref a :: rest)) :=
  wo_get hC F hG hk hdg kk
theorem wo_getR (hC : wo_Cx E own cc nL fr lo ret nm mc ms p R s m args meth cd) (F : wo_FD own idx f kd ty fin wr) (hi : wo_isR ty = true) (hG : wo_Se E G H) (hk : wo_ty G a = kd) (hdg : decode cc pc = .ok (.getfield idx, 3))
    (kk : ∀ r : Option Nat, r = wo_gr G f a → W p l e R s m args below meth cd H locs cells slots Q (F0 m (pc + 3) ls (va_rf r :: rest))) : W p l e R s m args below meth cd H locs cells slots Q (F0 m pc ls (.ref a :: rest)) :=
  wo_get hC F hG hk hdg (by rw [wo_fv_R hi]; exact kk _ rfl)
theorem wo_putV (hC : wo_Cx E own cc nL fr lo ret nm mc ms p R s m args meth cd) (F : wo_FD own idx f kd ty fin wr) (hf : fin = false ∨ nm = "<init>" ∧ wr = true) (hG : wo_Se E G H) (hS : va_S (en_A E) s.heap H locs) (hk : wo_ty G a = kd) (hba : en_bs E ≤ a) {v : Value} (hn : narrow ty v = v) (hfit : fits ty v = true) {G1 : wo_W} (hu : wo_put G G1 f a ty v) (hdg : decode cc pc = .ok (.putfield idx, 3))
    (kk : ∀ (H1 : Heap) (locs1 : List Loc), wo_Se E G1 H1 → va_S (en_A E) s.heap H1 locs1 → W p l e R s m args below meth cd H1 locs1 cells slots Q (F0 m (pc + 3) ls rest)) : W p l e R s m args below meth cd H locs cells slots Q (F0 m pc ls (v :: .ref a :: rest)) := by
  obtain ⟨c, k, r, ref, rfl, rfl, hr, hkN, rfl, hkf, rfl, hl, hsm, hdc⟩ := F
  obtain ⟨hx, hb, hml, hrt, hlk, hown, hts, hK, hnm, -⟩ := hC
  obtain ⟨hSl, hfc, kC, hkC, hkind⟩ := hK.1.1 c r hr
  obtain ⟨cf, kf, fi, fd, hi, hsl⟩ := hSl k hkN
  have hlays := u_lays hts (vt_ws c r hr) hkN
  have hst := (u_facts hfc hkC hlays hi).1
  have hap := va_apart (own := own) hts (vt_ws c r hr) (vw_Ty c) (vt_ty c r hr) (vt_nm c r hr) hK.1 hr
  have hi' : s.fieldFound? ref (r.2.1 k).2.1 (r.2.1 k).2.2.1 = some (cf, kf, fi, fd) := by
    rcases hsm with h | h
    · rw [h]; exact hi
    · exact u_same (hts _ h) _ hi
  obtain ⟨cell, q1, q2, q3, q4⟩ := ((hG.2 a).2.1 c r hk hr).1 hba
  have hlay := hts _ (vt_ws c r hr _ (u_in_lay hkN))
  have key : ∀ H' : Heap, H'[a]? = some (cell.setSlot fd.slot v) → H'.size = H.size → (∀ q, q ≠ a → H'[q]? = H[q]?) → W p l e R s m args below meth cd H' (locs ++ [⟨a, fd.slot⟩]) cells slots Q (F0 m (pc + 3) ls rest) := by
    intro H' e1 e2 e3
    rw [hsl] at e1
    exact kk H' _ (wo_Sput hG hba hk hr hkN hu hap q1 q2 q3 q4 e1 e2 e3) (hS.put e2 e3 hba)
  by_cases hfin : (r.2.1 k).2.2.2 = true
  · have hin : meth.name = "<init>" ∧ wr = true := by
      rcases hf with h | h
      · rw [h] at hfin; cases hfin
      · exact ⟨by rw [hnm, h.1], h.2⟩
    have hlay' := hlay
    unfold u_lay at hlay'
    rw [if_pos hfin] at hlay'
    have hcf : m.cls = cf := by
      obtain ⟨_, _, c', _, _, _, -, -, hf', -, -, -, hown2, -⟩ := Cond.laysFinal_spec hlay'
      have e1 : c' = cf := by have := hi.symm.trans hf'; simp at this; exact this.1.symm
      rw [hdc hin.2] at hown2
      rw [← e1]; exact Option.some.inj (hown.symm.trans hown2)
    exact W.putFinK hx hb hown (hts _ hl) hi' hst hcf hin.1 (by rw [q2]; exact u_fits hfc hkC hkind hlays hi (vt_ty c r hr k hkN) hn hfit) q1 q3 (by rw [hsl]; exact k2_hasslot (q4 k hkN)) rfl rfl hdg key
  · unfold u_lay at hlay
    rw [if_neg hfin] at hlay
    exact W.putK hx hb (f := fd) ⟨hown, hts _ hl, ⟨_, _, _, hi'⟩, hst⟩ (by rw [q2]; exact u_store hfc hkC hkind hlay hi (vt_ty c r hr k hkN) hn hfit) q1 q3 (by rw [hsl]; exact k2_hasslot (q4 k hkN)) rfl rfl hdg key

theorem wo_z0 : narrow .boolean (.int 0) = .int 0 := rfl
theorem wo_z1 : narrow .boolean (.int 1) = .int 1 := rfl
def wo_okI (ty : FieldType) (x : Int32) : Prop := narrow ty (.int x) = .int x ∧ fits ty (.int x) = true
theorem wo_ok_int (x : Int32) : wo_okI .int x := ⟨rfl, rfl⟩
theorem wo_nR {ty : FieldType} (h : wo_isR ty = true) (x : Option Nat) : narrow ty (va_rf x) = va_rf x ∧ fits ty (va_rf x) = true := by
  cases ty <;> first | (cases x <;> exact ⟨rfl, rfl⟩) | cases h
theorem wo_putI {x : Int32} (hC : wo_Cx E own cc nL fr lo ret nm mc ms p R s m args meth cd) (F : wo_FD own idx f kd ty fin wr) (hf : fin = false ∨ nm = "<init>" ∧ wr = true) (hi : wo_isI ty = true) (ho : wo_okI ty x) (hG : wo_Se E G H) (hS : va_S (en_A E) s.heap H locs) (hk : wo_ty G a = kd) (hba : en_bs E ≤ a) (hdg : decode cc pc = .ok (.putfield idx, 3))
    (kk : ∀ (G1 : wo_W) (H1 : Heap) (locs1 : List Loc), G1 = wo_si G f a x → wo_Se E G1 H1 → va_S (en_A E) s.heap H1 locs1 → W p l e R s m args below meth cd H1 locs1 cells slots Q (F0 m (pc + 3) ls (rest))) : W p l e R s m args below meth cd H locs cells slots Q (F0 m pc ls (.int x :: .ref a :: rest)) :=
  wo_putV hC F hf hG hS hk hba ho.1 ho.2 (wo_put_i hi) hdg (fun H1 locs1 h1 h2 => kk _ H1 locs1 rfl h1 h2)
theorem wo_putR {x : Option Nat} (hC : wo_Cx E own cc nL fr lo ret nm mc ms p R s m args meth cd) (F : wo_FD own idx f kd ty fin wr) (hf : fin = false ∨ nm = "<init>" ∧ wr = true) (hi : wo_isR ty = true) (hG : wo_Se E G H) (hS : va_S (en_A E) s.heap H locs) (hk : wo_ty G a = kd) (hba : en_bs E ≤ a) (hdg : decode cc pc = .ok (.putfield idx, 3))
    (kk : ∀ (G1 : wo_W) (H1 : Heap) (locs1 : List Loc), G1 = wo_sr G f a x → wo_Se E G1 H1 → va_S (en_A E) s.heap H1 locs1 → W p l e R s m args below meth cd H1 locs1 cells slots Q (F0 m (pc + 3) ls (rest))) : W p l e R s m args below meth cd H locs cells slots Q (F0 m pc ls (va_rf x :: .ref a :: rest)) :=
  wo_putV hC F hf hG hS hk hba (wo_nR hi x).1 (wo_nR hi x).2 (wo_put_r hi) hdg (fun H1 locs1 h1 h2 => kk _ H1 locs1 rfl h1 h2)
theorem wo_putL {x : Int64} (hC : wo_Cx E own cc nL fr lo ret nm mc ms p R s m args meth cd) (F : wo_FD own idx f kd .long fin wr) (hf : fin = false ∨ nm = "<init>" ∧ wr = true) (hG : wo_Se E G H) (hS : va_S (en_A E) s.heap H locs) (hk : wo_ty G a = kd) (hba : en_bs E ≤ a) (hdg : decode cc pc = .ok (.putfield idx, 3))
    (kk : ∀ (G1 : wo_W) (H1 : Heap) (locs1 : List Loc), G1 = wo_sl G f a x → wo_Se E G1 H1 → va_S (en_A E) s.heap H1 locs1 → W p l e R s m args below meth cd H1 locs1 cells slots Q (F0 m (pc + 3) ls (rest))) : W p l e R s m args below meth cd H locs cells slots Q (F0 m pc ls (.long x :: .ref a :: rest)) :=
  wo_putV hC F hf hG hS hk hba rfl rfl wo_put_l hdg (fun H1 locs1 h1 h2 => kk _ H1 locs1 rfl h1 h2)
theorem wo_iald {i : Int32} {j : Nat} (hC : wo_Cx E own cc nL fr lo ret nm mc ms p R s m args meth cd) (ht : vw_Ar[j]? = some .int) (hG : wo_Se E G H) (hk : wo_ty G a = 64 + j) (hin : vp_in i (wo_len G a)) (hdg : decode cc pc = .ok (.iaload, 1))
    (kk : W p l e R s m args below meth cd H locs cells slots Q (F0 m (pc + 1) ls (.int (wo_ei G a i.toNatClampNeg) :: rest))) : W p l e R s m args below meth cd H locs cells slots Q (F0 m pc ls (.int i :: .ref a :: rest)) := by
  obtain ⟨hx, hb, hml, hrt, hlk, hown, hts, hK, -⟩ := hC
  obtain ⟨cell, q1, q2, q3, q4, q5, q6⟩ := (hG.2 a).arr hK hk ht
  have hlt : i.toNatClampNeg < wo_len G a := Nat.not_le.mp fun q => hin (Or.inr q)
  exact W.iald hx hb q1 q2 q3 (fun q => hin (q.elim Or.inl (fun z => Or.inr (Nat.le_trans q4 z)))) (q6 _ hlt) rfl rfl hdg kk
theorem wo_bald {i : Int32} {j : Nat} (hC : wo_Cx E own cc nL fr lo ret nm mc ms p R s m args meth cd) (ht : vw_Ar[j]? = some .byte) (hG : wo_Se E G H) (hk : wo_ty G a = 64 + j) (hin : vp_in i (wo_len G a)) (hdg : decode cc pc = .ok (.baload, 1))
    (kk : W p l e R s m args below meth cd H locs cells slots Q (F0 m (pc + 1) ls (.int (wo_ei G a i.toNatClampNeg) :: rest))) : W p l e R s m args below meth cd H locs cells slots Q (F0 m pc ls (.int i :: .ref a :: rest)) := by
  obtain ⟨hx, hb, hml, hrt, hlk, hown, hts, hK, -⟩ := hC
  obtain ⟨cell, q1, q2, q3, q4, q5, q6⟩ := (hG.2 a).arr hK hk ht
  have hlt : i.toNatClampNeg < wo_len G a := Nat.not_le.mp fun q => hin (Or.inr q)
  exact W.bald hx hb q1 q2 q3 (fun q => hin (q.elim Or.inl (fun z => Or.inr (Nat.le_trans q4 z)))) (q6 _ hlt) rfl rfl hdg kk
theorem wo_zald {i : Int32} {j : Nat} (hC : wo_Cx E own cc nL fr lo ret nm mc ms p R s m args meth cd) (ht : vw_Ar[j]? = some .boolean) (hG : wo_Se E G H) (hk : wo_ty G a = 64 + j) (hin : vp_in i (wo_len G a)) (hdg : decode cc pc = .ok (.baload, 1))
    (kk : W p l e R s m args below meth cd H locs cells slots Q (F0 m (pc + 1) ls (.int (wo_ei G a i.toNatClampNeg) :: rest))) : W p l e R s m args below meth cd H locs cells slots Q (F0 m pc ls (.int i :: .ref a :: rest)) := by
  obtain ⟨hx, hb, hml, hrt, hlk, hown, hts, hK, -⟩ := hC
  obtain ⟨cell, q1, q2, q3, q4, q5, q6⟩ := (hG.2 a).arr hK hk ht
  have hlt : i.toNatClampNeg < wo_len G a := Nat.not_le.mp fun q => hin (Or.inr q)
  exact W.zald hx hb q1 q2 q3 (fun q => hin (q.elim Or.inl (fun z => Or.inr (Nat.le_trans q4 z)))) (q6 _ hlt) rfl rfl hdg kk
theorem wo_cald {i : Int32} {j : Nat} (hC : wo_Cx E own cc nL fr lo ret nm mc ms p R s m args meth cd) (ht : vw_Ar[j]? = some .char) (hG : wo_Se E G H) (hk : wo_ty G a = 64 + j) (hin : vp_in i (wo_len G a)) (hdg : decode cc pc = .ok (.caload, 1))
    (kk : W p l e R s m args below meth cd H locs cells slots Q (F0 m (pc + 1) ls (.int (wo_ei G a i.toNatClampNeg) :: rest))) : W p l e R s m args below meth cd H locs cells slots Q (F0 m pc ls (.int i :: .ref a :: rest)) := by
  obtain ⟨hx, hb, hml, hrt, hlk, hown, hts, hK, -⟩ := hC
  obtain ⟨cell, q1, q2, q3, q4, q5, q6⟩ := (hG.2 a).arr hK hk ht
  have hlt : i.toNatClampNeg < wo_len G a := Nat.not_le.mp fun q => hin (Or.inr q)
  exact W.cald hx hb q1 q2 q3 (fun q => hin (q.elim Or.inl (fun z => Or.inr (Nat.le_trans q4 z)))) (q6 _ hlt) rfl rfl hdg kk
theorem wo_lald {i : Int32} {j : Nat} (hC : wo_Cx E own cc nL fr lo ret nm mc ms p R s m args meth cd) (ht : vw_Ar[j]? = some .long) (hG : wo_Se E G H) (hk : wo_ty G a = 64 + j) (hin : vp_in i (wo_len G a)) (hdg : decode cc pc = .ok (.laload, 1))
    (kk : W p l e R s m args below meth cd H locs cells slots Q (F0 m (pc + 1) ls (.long (wo_el G a i.toNatClampNeg) :: rest))) : W p l e R s m args below meth cd H locs cells slots Q (F0 m pc ls (.int i :: .ref a :: rest)) := by
  obtain ⟨hx, hb, hml, hrt, hlk, hown, hts, hK, -⟩ := hC
  obtain ⟨cell, q1, q2, q3, q4, q5, q6⟩ := (hG.2 a).arr hK hk ht
  have hlt : i.toNatClampNeg < wo_len G a := Nat.not_le.mp fun q => hin (Or.inr q)
  exact W.lald hx hb q1 q2 q3 (fun q => hin (q.elim Or.inl (fun z => Or.inr (Nat.le_trans q4 z)))) (q6 _ hlt) rfl rfl hdg kk
theorem wo_aald {i : Int32} {j : Nat} {C : String} (hC : wo_Cx E own cc nL fr lo ret nm mc ms p R s m args meth cd) (ht : vw_Ar[j]? = some (.object C)) (hG : wo_Se E G H) (hk : wo_ty G a = 64 + j) (hin : vp_in i (wo_len G a)) (hdg : decode cc pc = .ok (.aaload, 1))
    (kk : ∀ r : Option Nat, r = wo_er G a i.toNatClampNeg → W p l e R s m args below meth cd H locs cells slots Q (F0 m (pc + 1) ls (va_rf r :: rest))) : W p l e R s m args below meth cd H locs cells slots Q (F0 m pc ls (.int i :: .ref a :: rest)) := by
  obtain ⟨hx, hb, hml, hrt, hlk, hown, hts, hK, -⟩ := hC
  obtain ⟨cell, q1, q2, q3, q4, q5, q6⟩ := (hG.2 a).arr hK hk ht
  have hlt : i.toNatClampNeg < wo_len G a := Nat.not_le.mp fun q => hin (Or.inr q)
  exact W.aald hx hb q1 q2 rfl q3 (fun q => hin (q.elim Or.inl (fun z => Or.inr (Nat.le_trans q4 z)))) (q6 _ hlt) rfl rfl hdg (kk _ rfl)
theorem wo_alen {j : Nat} (hC : wo_Cx E own cc nL fr lo ret nm mc ms p R s m args meth cd) (ht : vw_Ar[j]? = some ty) (hG : wo_Se E G H) (hk : wo_ty G a = 64 + j) (hdg : decode cc pc = .ok (.arraylength, 1))
    (kk : W p l e R s m args below meth cd H locs cells slots Q (F0 m (pc + 1) ls (.int (nI (wo_len G a)) :: rest))) : W p l e R s m args below meth cd H locs cells slots Q (F0 m pc ls (.ref a :: rest)) := by
  obtain ⟨hx, hb, hml, hrt, hlk, hown, hts, hK, -⟩ := hC
  obtain ⟨cell, q1, q2, q3, q4, q5, q6⟩ := (hG.2 a).arr hK hk ht
  exact W.alen hx hb q1 q2 q5 rfl rfl hdg kk
def wo_set (G G1 : wo_W) (a i : Nat) (ty : FieldType) (v : Value) : Prop := (∀ b, b ≠ a → wo_eq G G1 b) ∧ wo_ty G1 a = wo_ty G a ∧ wo_len G1 a = wo_len G a ∧ wo_ev ty G1 a = updV (wo_ev ty G a) i v
theorem wo_set_i {G : wo_W} {a i : Nat} {x : Int32} {ty : FieldType} (h : wo_isI ty = true) : wo_set G (wo_sei G a i x) a i ty (.int x) := by
  refine ⟨fun b hb => ⟨rfl, rfl, fun _ => rfl, fun _ => rfl, fun _ => rfl, fun g => by simp [wo_ei, wo_sei, wo_u2, hb], fun _ => rfl, fun _ => rfl⟩, rfl, rfl, ?_⟩
  funext q
  rw [wo_ev_I h]
  by_cases hq : q = i
  · subst hq; simp [updV, wo_ei, wo_sei, wo_u2]
  · simp [updV, hq, wo_ev_I h, wo_ei, wo_sei, wo_u2]
theorem wo_set_l {G : wo_W} {a i : Nat} {x : Int64} : wo_set G (wo_sel G a i x) a i .long (.long x) := by
  refine ⟨fun b hb => ⟨rfl, rfl, fun _ => rfl, fun _ => rfl, fun _ => rfl, fun _ => rfl, fun g => by simp [wo_el, wo_sel, wo_u2, hb], fun _ => rfl⟩, rfl, rfl, ?_⟩
  funext q
  by_cases hq : q = i
  · subst hq; simp [updV, wo_ev, wo_el, wo_sel, wo_u2]
  · simp [updV, hq, wo_ev, wo_el, wo_sel, wo_u2]
theorem wo_set_r {G : wo_W} {a i : Nat} {x : Option Nat} {ty : FieldType} (h : wo_isR ty = true) : wo_set G (wo_ser G a i x) a i ty (va_rf x) := by
  refine ⟨fun b hb => ⟨rfl, rfl, fun _ => rfl, fun _ => rfl, fun _ => rfl, fun _ => rfl, fun _ => rfl, fun g => by simp [wo_er, wo_ser, wo_u2, hb]⟩, rfl, rfl, ?_⟩
  funext q
  rw [wo_ev_R h]
  by_cases hq : q = i
  · subst hq; simp [updV, wo_er, wo_ser, wo_u2]
  · simp [updV, hq, wo_ev_R h, wo_er, wo_ser, wo_u2]
theorem wo_Sset {E : wo_E} {G G1 : wo_W} {H H1 : Heap} {a j i : Nat} {ty : FieldType} {v : Value} (hG : wo_Se E G H) (hb : en_bs E ≤ a) (hk : wo_ty G a = 64 + j) (ht : vw_Ar[j]? = some ty) (hu : wo_set G G1 a i ty v)
    (e1 : H1[a]? = some ((arrV (en_dA E j) (wo_len G a) (wo_ev ty G a)).setSlot i v)) (e2 : H1.size = H.size) (e3 : ∀ q, q ≠ a → H1[q]? = H[q]?) : wo_Se E G1 H1 := by
  obtain ⟨u1, u2, u3, u4⟩ := hu
  have hlt : a < H1.size := (Array.getElem?_eq_some_iff.mp e1).1
  refine hG.wr e2 e3 u1 ⟨fun _ => hlt, fun c' r' hc' hr' => ?_, fun j' ty' hj ht' => ?_⟩
  · have hc : c' < vw_Cl.length := (List.getElem?_eq_some_iff.mp hr').1
    have := vt_ln
    omega
  · have ec : j' = j := by omega
    subst ec
    cases ht.symm.trans ht'
    refine ⟨fun _ => ?_, fun h => absurd hb (Nat.not_le.mpr h)⟩
    rw [e1, arrV_store, u3, u4]
theorem wo_iast {i : Int32} {x : Int32} {j : Nat} (hC : wo_Cx E own cc nL fr lo ret nm mc ms p R s m args meth cd) (ht : vw_Ar[j]? = some .int) (hG : wo_Se E G H) (hS : va_S (en_A E) s.heap H locs) (hk : wo_ty G a = 64 + j) (hin : vp_in i (wo_len G a)) (hba : en_bs E ≤ a) (hdg : decode cc pc = .ok (.iastore, 1))
    (kk : ∀ (G1 : wo_W) (H1 : Heap) (locs1 : List Loc), G1 = wo_sei G a i.toNatClampNeg x → wo_Se E G1 H1 → va_S (en_A E) s.heap H1 locs1 → W p l e R s m args below meth cd H1 locs1 cells slots Q (F0 m (pc + 1) ls (rest))) : W p l e R s m args below meth cd H locs cells slots Q (F0 m pc ls (.int x :: .int i :: .ref a :: rest)) := by
  obtain ⟨hx, hb, hml, hrt, hlk, hown, hts, hK, -⟩ := hC
  have q1 := ((hG.2 a).2.2 j _ hk ht).1 hba
  refine W.iast hx hb q1 ((hK.1.2 j _ (en_tys_at E ht)).1 _ _) (fun h => by cases h) (by rw [arrV_size]; exact hin) rfl rfl hdg fun H1 e1 e2 e3 => ?_
  exact kk _ H1 _ rfl (wo_Sset hG hba hk ht (wo_set_i rfl) e1 e2 e3) (hS.put e2 e3 hba)
theorem wo_bast {i : Int32} {x : Int32} {j : Nat} (hC : wo_Cx E own cc nL fr lo ret nm mc ms p R s m args meth cd) (ht : vw_Ar[j]? = some .byte) (hG : wo_Se E G H) (hS : va_S (en_A E) s.heap H locs) (hk : wo_ty G a = 64 + j) (hin : vp_in i (wo_len G a)) (hba : en_bs E ≤ a) (hdg : decode cc pc = .ok (.bastore, 1))
    (kk : ∀ (G1 : wo_W) (H1 : Heap) (locs1 : List Loc), G1 = wo_sei G a i.toNatClampNeg (vp_nar .byte x) → wo_Se E G1 H1 → va_S (en_A E) s.heap H1 locs1 → W p l e R s m args below meth cd H1 locs1 cells slots Q (F0 m (pc + 1) ls (rest))) : W p l e R s m args below meth cd H locs cells slots Q (F0 m pc ls (.int x :: .int i :: .ref a :: rest)) := by
  obtain ⟨hx, hb, hml, hrt, hlk, hown, hts, hK, -⟩ := hC
  have q1 := ((hG.2 a).2.2 j _ hk ht).1 hba
  refine W.bast hx hb q1 ((hK.1.2 j _ (en_tys_at E ht)).1 _ _) (fun h => by cases h) (by rw [arrV_size]; exact hin) rfl rfl hdg fun H1 e1 e2 e3 => ?_
  exact kk _ H1 _ rfl (wo_Sset hG hba hk ht (wo_set_i rfl) e1 e2 e3) (hS.put e2 e3 hba)
theorem wo_zast {i : Int32} {x : Int32} {j : Nat} (hC : wo_Cx E own cc nL fr lo ret nm mc ms p R s m args meth cd) (ht : vw_Ar[j]? = some .boolean) (hG : wo_Se E G H) (hS : va_S (en_A E) s.heap H locs) (hk : wo_ty G a = 64 + j) (hin : vp_in i (wo_len G a)) (hba : en_bs E ≤ a) (hdg : decode cc pc = .ok (.bastore, 1))
    (kk : ∀ (G1 : wo_W) (H1 : Heap) (locs1 : List Loc), G1 = wo_sei G a i.toNatClampNeg (vp_nar .boolean x) → wo_Se E G1 H1 → va_S (en_A E) s.heap H1 locs1 → W p l e R s m args below meth cd H1 locs1 cells slots Q (F0 m (pc + 1) ls (rest))) : W p l e R s m args below meth cd H locs cells slots Q (F0 m pc ls (.int x :: .int i :: .ref a :: rest)) := by
  obtain ⟨hx, hb, hml, hrt, hlk, hown, hts, hK, -⟩ := hC
  have q1 := ((hG.2 a).2.2 j _ hk ht).1 hba
  refine W.zast hx hb q1 ((hK.1.2 j _ (en_tys_at E ht)).1 _ _) (fun h => by cases h) (by rw [arrV_size]; exact hin) rfl rfl hdg fun H1 e1 e2 e3 => ?_
  exact kk _ H1 _ rfl (wo_Sset hG hba hk ht (wo_set_i rfl) e1 e2 e3) (hS.put e2 e3 hba)
theorem wo_cast {i : Int32} {x : Int32} {j : Nat} (hC : wo_Cx E own cc nL fr lo ret nm mc ms p R s m args meth cd) (ht : vw_Ar[j]? = some .char) (hG : wo_Se E G H) (hS : va_S (en_A E) s.heap H locs) (hk : wo_ty G a = 64 + j) (hin : vp_in i (wo_len G a)) (hba : en_bs E ≤ a) (hdg : decode cc pc = .ok (.castore, 1))
    (kk : ∀ (G1 : wo_W) (H1 : Heap) (locs1 : List Loc), G1 = wo_sei G a i.toNatClampNeg (vp_nar .char x) → wo_Se E G1 H1 → va_S (en_A E) s.heap H1 locs1 → W p l e R s m args below meth cd H1 locs1 cells slots Q (F0 m (pc + 1) ls (rest))) : W p l e R s m args below meth cd H locs cells slots Q (F0 m pc ls (.int x :: .int i :: .ref a :: rest)) := by
  obtain ⟨hx, hb, hml, hrt, hlk, hown, hts, hK, -⟩ := hC
  have q1 := ((hG.2 a).2.2 j _ hk ht).1 hba
  refine W.cast hx hb q1 ((hK.1.2 j _ (en_tys_at E ht)).1 _ _) (fun h => by cases h) (by rw [arrV_size]; exact hin) rfl rfl hdg fun H1 e1 e2 e3 => ?_
  exact kk _ H1 _ rfl (wo_Sset hG hba hk ht (wo_set_i rfl) e1 e2 e3) (hS.put e2 e3 hba)
theorem wo_last {i : Int32} {x : Int64} {j : Nat} (hC : wo_Cx E own cc nL fr lo ret nm mc ms p R s m args meth cd) (ht : vw_Ar[j]? = some .long) (hG : wo_Se E G H) (hS : va_S (en_A E) s.heap H locs) (hk : wo_ty G a = 64 + j) (hin : vp_in i (wo_len G a)) (hba : en_bs E ≤ a) (hdg : decode cc pc = .ok (.lastore, 1))
    (kk : ∀ (G1 : wo_W) (H1 : Heap) (locs1 : List Loc), G1 = wo_sel G a i.toNatClampNeg x → wo_Se E G1 H1 → va_S (en_A E) s.heap H1 locs1 → W p l e R s m args below meth cd H1 locs1 cells slots Q (F0 m (pc + 1) ls (rest))) : W p l e R s m args below meth cd H locs cells slots Q (F0 m pc ls (.long x :: .int i :: .ref a :: rest)) := by
  obtain ⟨hx, hb, hml, hrt, hlk, hown, hts, hK, -⟩ := hC
  have q1 := ((hG.2 a).2.2 j _ hk ht).1 hba
  refine W.last hx hb q1 ((hK.1.2 j _ (en_tys_at E ht)).1 _ _) (fun h => by cases h) (by rw [arrV_size]; exact hin) rfl rfl hdg fun H1 e1 e2 e3 => ?_
  exact kk _ H1 _ rfl (wo_Sset hG hba hk ht (wo_set_l) e1 e2 e3) (hS.put e2 e3 hba)
def wo_may (G : wo_W) (j : Nat) (r : Option Nat) : Prop := ∀ a, r = some a → ∃ c : Nat, wo_ty G a = c + 1 ∧ (j, c) ∈ vw_Fit
theorem wo_may_n (G : wo_W) (j : Nat) : wo_may G j none := fun a h => by cases h
theorem wo_any {C : String} {j v : Nat} (hK : wo_Kn E s) (hG : wo_Se E G H) (ht : vw_Ar[j]? = some (.object C)) (hm : wo_may G j (some v)) : va_Any C s H v := by
  obtain ⟨c, hk, hin⟩ := hm v rfl
  obtain ⟨C', r, h1, hr, hor⟩ := vt_fit _ hin
  cases ht.symm.trans h1
  obtain ⟨cell, q1, q2, q3, q4⟩ := (hG.2 v).cls hk hr
  have hat := (hK.1.1 c r hr).2
  obtain ⟨hfc, kC, hkC, hkind⟩ := hat
  refine ⟨cell, q1, q3, ⟨kC, by rw [q2]; exact hkC⟩, fun comp hcomp => ?_⟩
  rcases hor with h | h
  · rw [← h] at hcomp
    cases hfc.symm.trans hcomp
    rw [q2]
    exact va_assign ⟨hfc, kC, hkC, hkind⟩
  · rw [q2]
    exact vb_asgC (hK.2.2.1 _ h) comp _ hcomp hfc
theorem wo_aast {i : Int32} {x : Option Nat} {j : Nat} {C : String} (hC : wo_Cx E own cc nL fr lo ret nm mc ms p R s m args meth cd) (ht : vw_Ar[j]? = some (.object C)) (hG : wo_Se E G H) (hS : va_S (en_A E) s.heap H locs) (hk : wo_ty G a = 64 + j) (hin : vp_in i (wo_len G a)) (hba : en_bs E ≤ a) (hm : wo_may G j x) (hdg : decode cc pc = .ok (.aastore, 1))
    (kk : ∀ (G1 : wo_W) (H1 : Heap) (locs1 : List Loc), G1 = wo_ser G a i.toNatClampNeg x → wo_Se E G1 H1 → va_S (en_A E) s.heap H1 locs1 → W p l e R s m args below meth cd H1 locs1 cells slots Q (F0 m (pc + 1) ls (rest))) : W p l e R s m args below meth cd H locs cells slots Q (F0 m pc ls (va_rf x :: .int i :: .ref a :: rest)) := by
  obtain ⟨hx, hb, hml, hrt, hlk, hown, hts, hK, -⟩ := hC
  have q1 := ((hG.2 a).2.2 j _ hk ht).1 hba
  have hA := hK.1.2 j _ (en_tys_at E ht)
  cases x with
  | none =>
    refine va_WaastN (C := C) hx hb q1 (hA.1 _ _) (fun h => by cases h) (by rw [arrV_size]; exact hin) rfl rfl hdg fun H1 e1 e2 e3 => ?_
    exact kk _ H1 _ rfl (wo_Sset hG hba hk ht (wo_set_r (x := none) rfl) e1 e2 e3) (hS.put e2 e3 hba)
  | some v =>
    obtain ⟨cellV, g1, g3, ⟨kC, hkC⟩, hasg⟩ := wo_any hK hG ht hm
    obtain ⟨kA, comp, k1, k2, k3, -⟩ := hA.2
    obtain ⟨kE, hkE, -⟩ := Vm.findClass_spec k3
    have hlt : i.toNatClampNeg < wo_len G a := Nat.not_le.mp fun q => hin (Or.inr q)
    refine W.aast hx hb q1 (fun q h => by cases h) (fun h => by cases h) k1 k2 rfl hkE ⟨fun q => hin (Or.inl q), by rw [arrV_size]; exact hlt⟩ g1 (fun q h => by rw [h] at g3; cases g3) hkC (hasg _ k3) rfl rfl hdg fun H1 e1 e2 e3 => ?_
    exact kk _ H1 _ rfl (wo_Sset hG hba hk ht (wo_set_r (x := some v) rfl) e1 e2 e3) (hS.put e2 e3 hba)
def wo_FN (own : String) (idx kd N : Nat) : Prop := ∃ (c : Nat) (r : vw_C), kd = c + 1 ∧ vw_Cl[c]? = some r ∧ r.2.2 = N ∧ Cond.classLink own idx r.1 ∈ vw_WG ∧ Cond.instantiable r.1 r.2.2 ∈ vw_WG ∧ Cond.initialized r.1 ∈ vw_WG
theorem wo_eq_new {G : wo_W} {q k b : Nat} (hb : b ≠ q) : wo_eq G (wo_new G q k) b :=
  ⟨by simp [wo_ty, wo_new, wo_u1, hb], rfl, fun f => by simp [wo_gi, wo_new, wo_uc, hb], fun f => by simp [wo_gl, wo_new, wo_uc, hb], fun f => by simp [wo_gr, wo_new, wo_uc, hb], fun _ => rfl, fun _ => rfl, fun _ => rfl⟩
theorem wo_eq_na {G : wo_W} {q k n b : Nat} (hb : b ≠ q) : wo_eq G (wo_na G q k n) b :=
  ⟨by simp [wo_ty, wo_na, wo_u1, hb], by simp [wo_len, wo_na, wo_u1, hb], fun _ => rfl, fun _ => rfl, fun _ => rfl, fun i => by simp [wo_ei, wo_na, wo_ur, hb], fun i => by simp [wo_el, wo_na, wo_ur, hb], fun i => by simp [wo_er, wo_na, wo_ur, hb]⟩
theorem wo_eq_cln {G : wo_W} {a q b : Nat} (hb : b ≠ q) : wo_eq G (wo_cln G a q) b :=
  ⟨by simp [wo_ty, wo_cln, wo_u1, hb], by simp [wo_len, wo_cln, wo_u1, hb], fun _ => rfl, fun _ => rfl, fun _ => rfl, fun i => by simp [wo_ei, wo_cln, wo_ur, hb], fun i => by simp [wo_el, wo_cln, wo_ur, hb], fun i => by simp [wo_er, wo_cln, wo_ur, hb]⟩
theorem wo_def {ty : FieldType} (h : wo_nF ty = true) (G : wo_W) (f q k : Nat) : defaultValue ty = wo_fv ty (wo_new G q k) f q := by
  cases ty <;> first | (simp [defaultValue, wo_fv, wo_gi, wo_gl, wo_gr, wo_new, wo_uc, va_rf]; done) | cases h
theorem wo_defE {ty : FieldType} (h : wo_nF ty = true) (G : wo_W) (q k n : Nat) : (fun _ : Nat => defaultValue ty) = wo_ev ty (wo_na G q k n) q := by
  funext i
  cases ty <;> first | (simp [defaultValue, wo_ev, wo_ei, wo_el, wo_er, wo_na, wo_ur, va_rf]; done) | cases h
theorem wo_newS {H1 : Heap} (hS : va_S (en_A E) s.heap H locs) (z : H1.size = H.size + 1) (o1 : ∀ q, q < H.size → H1[q]? = H[q]?) : va_S (en_A E) s.heap H1 locs :=
  ⟨Nat.le_trans hS.1 (by omega), fun x h1 h2 => (o1 x (Nat.lt_of_lt_of_le h1 hS.1)).trans (hS.2.1 x h1 h2), hS.2.2⟩
theorem wo_newc {N : Nat} (hC : wo_Cx E own cc nL fr lo ret nm mc ms p R s m args meth cd) (F : wo_FN own idx kd N) (hG : wo_Se E G H) (hS : va_S (en_A E) s.heap H locs) (h1 : cells + 1 ≤ mc) (h2 : slots + N ≤ ms) (hdg : decode cc pc = .ok (.new idx, 3))
    (kk : ∀ (q : Nat) (G1 : wo_W) (H1 : Heap), wo_ty G q = 0 → en_bs E ≤ q → G1 = wo_new G q kd → wo_Se E G1 H1 → va_S (en_A E) s.heap H1 locs → W p l e R s m args below meth cd H1 locs (cells + 1) (slots + N) Q (F0 m (pc + 3) ls (.ref q :: rest))) : W p l e R s m args below meth cd H locs cells slots Q (F0 m pc ls (rest)) := by
  obtain ⟨c, r, rfl, hr, rfl, f1, f2, f3⟩ := F
  obtain ⟨hx, hb, hml, hrt, hlk, hown, hts, hK, hnm, hbs, hfr, hlo, hmc, hms⟩ := hC
  have hKn := hK.1.1 c r hr
  refine W.newcK hx hb hown (hts _ f1) (hts _ f2) (hts _ f3) rfl hdg (by rw [hmc]; exact h1) (by rw [hms]; exact h2) hKn.2.1 rfl fun H1 kC hkC e1 z1 o1 => ?_
  refine kk H.size _ H1 hG.free hG.1 rfl (hG.push z1 o1 (fun b hb => wo_eq_new hb) ⟨fun _ => by omega, fun c' r' hc' hr' => ?_, fun j ty hj ht => ?_⟩) (wo_newS hS z1 o1)
  · have ec : c' = c := by
      have : wo_ty (wo_new G H.size (c + 1)) H.size = c + 1 := by simp [wo_ty, wo_new, wo_u1]
      omega
    subst ec
    cases hr.symm.trans hr'
    exact ⟨fun _ => (u_born (vw_Ty c') hts (vt_ws c' r hr) hKn hkC e1 (vt_ty c' r hr)).to (fun k hk => wo_def (vt_nf c' r hr k hk) G _ _ _), fun h => absurd hG.1 (Nat.not_le.mpr h)⟩
  · have : wo_ty (wo_new G H.size (c + 1)) H.size = c + 1 := by simp [wo_ty, wo_new, wo_u1]
    have hc : c < vw_Cl.length := (List.getElem?_eq_some_iff.mp hr).1
    have := vt_ln
    omega
theorem wo_Sna {H1 : Heap} {j n : Nat} (hG : wo_Se E G H) (ht : vw_Ar[j]? = some ty) (e1 : H1[H.size]? = some (arrV (en_dA E j) n (fun _ => defaultValue ty))) (z1 : H1.size = H.size + 1) (o1 : ∀ q, q < H.size → H1[q]? = H[q]?) : wo_Se E (wo_na G H.size (64 + j) n) H1 := by
  have ht0 : wo_ty (wo_na G H.size (64 + j) n) H.size = 64 + j := by simp [wo_ty, wo_na, wo_u1]
  refine hG.push z1 o1 (fun b hb => wo_eq_na hb) ⟨fun _ => by omega, fun c' r' hc' hr' => ?_, fun j' ty' hj ht' => ?_⟩
  · have hc : c' < vw_Cl.length := (List.getElem?_eq_some_iff.mp hr').1
    have := vt_ln
    omega
  · have ec : j' = j := by omega
    subst ec
    cases ht.symm.trans ht'
    refine ⟨fun _ => ?_, fun h => absurd hG.1 (Nat.not_le.mpr h)⟩
    rw [e1, wo_defE (vt_na j' ty ht) G H.size (64 + j') n]
    simp [wo_len, wo_na, wo_u1]
theorem wo_newa {n : Int32} {j : Nat} {at_ : ArrayType} (hC : wo_Cx E own cc nL fr lo ret nm mc ms p R s m args meth cd) (ht : vw_Ar[j]? = some ty) (hat : newarray.typeOf at_ = ty) (hwd : Cond.arrayClass ty ∈ vw_WG) (hG : wo_Se E G H) (hS : va_S (en_A E) s.heap H locs) (h0 : ¬ n < 0) (hN : n.toNatClampNeg ≤ 65536) (h1 : cells + 1 ≤ mc) (h2 : slots + n.toNatClampNeg ≤ ms) (hdg : decode cc pc = .ok (.newarray at_, 2))
    (kk : ∀ (q : Nat) (G1 : wo_W) (H1 : Heap), wo_ty G q = 0 → en_bs E ≤ q → G1 = wo_na G q (64 + j) n.toNatClampNeg → wo_Se E G1 H1 → va_S (en_A E) s.heap H1 locs → W p l e R s m args below meth cd H1 locs (cells + 1) (slots + n.toNatClampNeg) Q (F0 m (pc + 2) ls (.ref q :: rest))) : W p l e R s m args below meth cd H locs cells slots Q (F0 m pc ls (.int n :: rest)) := by
  subst hat
  obtain ⟨hx, hb, hml, hrt, hlk, hown, hts, hK, hnm, hbs, hfr, hlo, hmc, hms⟩ := hC
  have hA := hK.1.2 j _ (en_tys_at E ht)
  refine va_newaK hx hb (hts _ hwd) rfl hdg rfl h0 rfl (by cases at_ <;> simp [newarray.typeOf, componentBytes] <;> omega) (by rw [hmc]; exact h1) (by rw [hms]; exact h2) rfl fun H1 cA e1 z1 o1 hAr hNm => ?_
  have hcA : cA = en_dA E j := by
    have h3 := hA.2
    cases at_ <;> exact Option.some.inj (hNm.symm.trans h3)
  subst hcA
  exact kk H.size _ H1 hG.free hG.1 rfl (wo_Sna hG ht e1 z1 o1) (wo_newS hS z1 o1)
theorem wo_newq {n : Int32} {j : Nat} {C : String} (hC : wo_Cx E own cc nL fr lo ret nm mc ms p R s m args meth cd) (ht : vw_Ar[j]? = some (.object C)) (hao : C ∈ vw_Ao) (hwd : Cond.classLink own idx C ∈ vw_WG) (hG : wo_Se E G H) (hS : va_S (en_A E) s.heap H locs) (h0 : ¬ n < 0) (hN : n.toNatClampNeg ≤ 65536) (h1 : cells + 1 ≤ mc) (h2 : slots + n.toNatClampNeg ≤ ms) (hdg : decode cc pc = .ok (.anewarray idx, 3))
    (kk : ∀ (q : Nat) (G1 : wo_W) (H1 : Heap), wo_ty G q = 0 → en_bs E ≤ q → G1 = wo_na G q (64 + j) n.toNatClampNeg → wo_Se E G1 H1 → va_S (en_A E) s.heap H1 locs → W p l e R s m args below meth cd H1 locs (cells + 1) (slots + n.toNatClampNeg) Q (F0 m (pc + 3) ls (.ref q :: rest))) : W p l e R s m args below meth cd H locs cells slots Q (F0 m pc ls (.int n :: rest)) := by
  obtain ⟨hx, hb, hml, hrt, hlk, hown, hts, hK, hnm, hbs, hfr, hlo, hmc, hms⟩ := hC
  have hA := hK.1.2 j _ (en_tys_at E ht)
  refine W.anew hx hb hown (hts _ hwd) (va_AO.use (hK.2.2.2.2.2.2.2.1 C hao)) rfl hdg rfl h0 (by omega) (by rw [hmc]; exact h1) (by rw [hms]; exact h2) fun cA kA comp f1 f2 f3 f4 => ?_
  obtain ⟨-, -, -, -, -, h6⟩ := hA.2
  cases f1.symm.trans h6
  generalize hH1 : H.push ({ cls := en_dA E j, slots := Array.replicate n.toNatClampNeg .null, vm := .none } : Cell) = H1
  have z1 : H1.size = H.size + 1 := by rw [← hH1, Array.size_push]
  have e1 : H1[H.size]? = some (arrV (en_dA E j) n.toNatClampNeg (fun _ => .null)) := by rw [← hH1, Array.getElem?_push_size, ← arrV_new]
  have o1 : ∀ q : Nat, q < H.size → H1[q]? = H[q]? := fun q hq => by rw [← hH1, Array.getElem?_push, if_neg (Nat.ne_of_lt hq)]
  exact kk H.size _ H1 hG.free hG.1 rfl (wo_Sna hG ht e1 z1 o1) (wo_newS hS z1 o1)
theorem wo_vret {Post : wo_W → Prop} (hC : wo_Cx E own cc nL fr lo (none) nm mc ms p R s m args meth cd) (hG : wo_Se E G H) (hS : va_S (en_A E) s.heap H locs) (h1 : cells ≤ mc) (h2 : slots ≤ ms) (hw : Post G) (hdg : decode cc pc = .ok (.return_, 1)) :
    W p l e R s m args below meth cd H locs cells slots (MQ below (va_Qv Post (wo_B E) (en_A E)) args s mc ms (en_A E)) (F0 m pc ls []) := by
  obtain ⟨hx, hb, hml, hrt, hlk, -⟩ := hC
  exact W.widen h1 h2 (W.vret hx hb hrt (fun t ht hW => ⟨⟨G, rfl, hw, by show wo_Se E G t.heap; rw [ht]; exact hG⟩, hS.F ht⟩) hS.2.2 hdg hlk)
theorem wo_iret {x : Int32} {Post : Int32 → wo_W → Prop} (hC : wo_Cx E own cc nL fr lo (some .int) nm mc ms p R s m args meth cd) (hG : wo_Se E G H) (hS : va_S (en_A E) s.heap H locs) (h1 : cells ≤ mc) (h2 : slots ≤ ms) (hw : Post x G) (hdg : decode cc pc = .ok (.ireturn, 1)) :
    W p l e R s m args below meth cd H locs cells slots (MQ below (va_Qi Post (wo_B E) (en_A E)) args s mc ms (en_A E)) (F0 m pc ls [.int x]) := by
  obtain ⟨hx, hb, hml, hrt, hlk, -⟩ := hC
  exact W.widen h1 h2 (W.iret hx hb hrt (fun t ht hW => ⟨⟨x, G, rfl, hw, by show wo_Se E G t.heap; rw [ht]; exact hG⟩, hS.F ht⟩) hS.2.2 hdg hlk)
theorem wo_zret {x : Int32} {Post : Int32 → wo_W → Prop} (hC : wo_Cx E own cc nL fr lo (some ty) nm mc ms p R s m args meth cd) (hn : narrow ty (.int x) = .int x) (hG : wo_Se E G H) (hS : va_S (en_A E) s.heap H locs) (h1 : cells ≤ mc) (h2 : slots ≤ ms) (hw : Post x G) (hdg : decode cc pc = .ok (.ireturn, 1)) :
    W p l e R s m args below meth cd H locs cells slots (MQ below (va_Qi Post (wo_B E) (en_A E)) args s mc ms (en_A E)) (F0 m pc ls [.int x]) := by
  obtain ⟨hx, hb, hml, hrt, hlk, -⟩ := hC
  exact W.widen h1 h2 (W.zret hx hb hrt hn (fun t ht hW => ⟨⟨x, G, rfl, hw, by show wo_Se E G t.heap; rw [ht]; exact hG⟩, hS.F ht⟩) hS.2.2 hdg hlk)
theorem wo_lret {x : Int64} {Post : Int64 → wo_W → Prop} (hC : wo_Cx E own cc nL fr lo (some .long) nm mc ms p R s m args meth cd) (hG : wo_Se E G H) (hS : va_S (en_A E) s.heap H locs) (h1 : cells ≤ mc) (h2 : slots ≤ ms) (hw : Post x G) (hdg : decode cc pc = .ok (.lreturn, 1)) :
    W p l e R s m args below meth cd H locs cells slots (MQ below (va_Ql Post (wo_B E) (en_A E)) args s mc ms (en_A E)) (F0 m pc ls [.long x]) := by
  obtain ⟨hx, hb, hml, hrt, hlk, -⟩ := hC
  exact W.widen h1 h2 (W.lret hx hb hrt (fun t ht hW => ⟨⟨x, G, rfl, hw, by show wo_Se E G t.heap; rw [ht]; exact hG⟩, hS.F ht⟩) hS.2.2 hdg hlk)
theorem wo_rk {ty : FieldType} (h : wo_isR ty = true) : (∃ n, ty = .object n) ∨ ∃ t, ty = .array t := by cases ty <;> first | exact Or.inl ⟨_, rfl⟩ | exact Or.inr ⟨_, rfl⟩ | cases h
theorem wo_rv (x : Option Nat) : va_rf x = .null ∨ ∃ a, va_rf x = .ref a := by cases x with
  | none => exact Or.inl rfl
  | some a => exact Or.inr ⟨a, rfl⟩
theorem wo_aret {x : Option Nat} {Post : Option Nat → wo_W → Prop} (hC : wo_Cx E own cc nL fr lo (some ty) nm mc ms p R s m args meth cd) (hn : wo_isR ty = true) (hG : wo_Se E G H) (hS : va_S (en_A E) s.heap H locs) (h1 : cells ≤ mc) (h2 : slots ≤ ms) (hw : Post x G) (hdg : decode cc pc = .ok (.areturn, 1)) :
    W p l e R s m args below meth cd H locs cells slots (MQ below (va_Qq Post (wo_B E) (en_A E)) args s mc ms (en_A E)) (F0 m pc ls [va_rf x]) := by
  obtain ⟨hx, hb, hml, hrt, hlk, -⟩ := hC
  exact W.widen h1 h2 (W.aret hx hb hrt (wo_rk hn) (wo_rv x) (fun t ht hW => ⟨⟨x, G, rfl, hw, by show wo_Se E G t.heap; rw [ht]; exact hG⟩, hS.F ht⟩) hS.2.2 hdg hlk)
def wo_is (G : wo_W) (kd : Nat) (r : Option Nat) : Prop := ∀ a, r = some a → wo_ty G a = kd
theorem wo_chk {x : Option Nat} {c : Nat} {r : vw_C} {C : String} (hC : wo_Cx E own cc nL fr lo ret nm mc ms p R s m args meth cd) (hr : vw_Cl[c]? = some r) (hwd : Cond.classLink own idx C ∈ vw_WG) (hc : r.1 = C ∨ (r.1, C) ∈ vw_Nc) (hG : wo_Se E G H) (hi : wo_is G (c + 1) x) (hdg : decode cc pc = .ok (.checkcast idx, 3))
    (kk : W p l e R s m args below meth cd H locs cells slots Q (F0 m (pc + 3) ls (va_rf x :: rest))) : W p l e R s m args below meth cd H locs cells slots Q (F0 m pc ls (va_rf x :: rest)) := by
  obtain ⟨hx, hb, hml, hrt, hlk, hown, hts, hK, -⟩ := hC
  cases x with
  | none => exact lv_castN hx hb hdg kk
  | some a =>
    obtain ⟨cell, q1, q2, q3, q4⟩ := (hG.2 a).cls (hi a rfl) hr
    have hfc := (hK.1.1 c r hr).2
    rcases hc with h | h
    · exact va_castS hx hb hown (hts _ hwd) (by rw [← h]; exact hfc) ⟨cell, q1, q3, by rw [← h, q2]; exact hfc.1⟩ hdg kk
    · exact va_castY hx hb hown (hts _ hwd) (hK.2.2.1 _ h) ⟨cell, q1, q3, by rw [q2]; exact hfc.1⟩ hdg kk
theorem wo_inst {c : Nat} {r : vw_C} {C : String} (hC : wo_Cx E own cc nL fr lo ret nm mc ms p R s m args meth cd) (hr : vw_Cl[c]? = some r) (hwd : Cond.classLink own idx C ∈ vw_WG) (hc : r.1 = C ∨ (r.1, C) ∈ vw_Nc) (hG : wo_Se E G H) (hi : wo_ty G a = c + 1) (hdg : decode cc pc = .ok (.instanceof idx, 3))
    (kk : W p l e R s m args below meth cd H locs cells slots Q (F0 m (pc + 3) ls (.int 1 :: rest))) : W p l e R s m args below meth cd H locs cells slots Q (F0 m pc ls (.ref a :: rest)) := by
  obtain ⟨hx, hb, hml, hrt, hlk, hown, hts, hK, -⟩ := hC
  obtain ⟨cell, q1, q2, q3, q4⟩ := (hG.2 a).cls hi hr
  have hfc := (hK.1.1 c r hr).2
  rcases hc with h | h
  · exact va_instS hx hb hown (hts _ hwd) (by rw [← h]; exact hfc) ⟨cell, q1, q3, by rw [← h, q2]; exact hfc.1⟩ hdg kk
  · exact va_instY hx hb hown (hts _ hwd) (hK.2.2.1 _ h) ⟨cell, q1, q3, by rw [q2]; exact hfc.1⟩ hdg kk
theorem wo_sm {ref C n d : String} (hts : ∀ w ∈ vw_WG, w.before args s = true) (h : ref = C ∨ Cond.sameField ref C n d ∈ vw_WG) (x : ClassId × Class × Nat × Field) (hx : s.fieldFound? C n d = some x) : s.fieldFound? ref n d = some x := by
  rcases h with q | q
  · rw [q]; exact hx
  · exact u_same (hts _ q) _ hx
def wo_ZI (own : String) (idx : Nat) (v : Int32) : Prop := ∃ C n d ref : String, (C, n, d, v) ∈ vw_Zi ∧ Cond.fieldLink own idx ref n d ∈ vw_WG ∧ (ref = C ∨ Cond.sameField ref C n d ∈ vw_WG)
def wo_ZA (own : String) (idx v : Nat) : Prop := ∃ C n d ref : String, (C, n, d, v) ∈ vw_Za ∧ Cond.fieldLink own idx ref n d ∈ vw_WG ∧ (ref = C ∨ Cond.sameField ref C n d ∈ vw_WG)
def wo_ST (own : String) (idx i : Nat) : Prop := ∃ tx : String, (own, idx, tx, i) ∈ vw_Sr
theorem wo_gstI {v : Int32} (hC : wo_Cx E own cc nL fr lo ret nm mc ms p R s m args meth cd) (F : wo_ZI own idx v) (hS : va_S (en_A E) s.heap H locs) (hdg : decode cc pc = .ok (.getstatic idx, 3))
    (kk : W p l e R s m args below meth cd H locs cells slots Q (F0 m (pc + 3) ls (.int v :: rest))) : W p l e R s m args below meth cd H locs cells slots Q (F0 m pc ls (rest)) := by
  obtain ⟨hx, hb, hml, hrt, hlk, hown, hts, hK, -⟩ := hC
  obtain ⟨C, n, d, ref, hz, hl, hsm⟩ := F
  exact va_gets hx hb (hK.2.2.2.2.2.1 _ hz) hS hown (hts _ hl) (wo_sm hts hsm) hdg kk
theorem wo_gstA {v : Nat} (hC : wo_Cx E own cc nL fr lo ret nm mc ms p R s m args meth cd) (F : wo_ZA own idx v) (hS : va_S (en_A E) s.heap H locs) (hdg : decode cc pc = .ok (.getstatic idx, 3))
    (kk : W p l e R s m args below meth cd H locs cells slots Q (F0 m (pc + 3) ls (.ref (en_sta E v) :: rest))) : W p l e R s m args below meth cd H locs cells slots Q (F0 m pc ls (rest)) := by
  obtain ⟨hx, hb, hml, hrt, hlk, hown, hts, hK, -⟩ := hC
  obtain ⟨C, n, d, ref, hz, hl, hsm⟩ := F
  exact va_gets hx hb (hK.2.2.2.2.2.2.1 _ hz) hS hown (hts _ hl) (wo_sm hts hsm) hdg kk
def wo_ZR (own : String) (idx : Nat) : Prop := ∃ C n d ref : String, (C, n, d) ∈ vw_Zr ∧ Cond.fieldLink own idx ref n d ∈ vw_WG ∧ (ref = C ∨ Cond.sameField ref C n d ∈ vw_WG)
theorem wo_gstR (hC : wo_Cx E own cc nL fr lo ret nm mc ms p R s m args meth cd) (F : wo_ZR own idx) (hS : va_S (en_A E) s.heap H locs) (hdg : decode cc pc = .ok (.getstatic idx, 3))
    (kk : ∀ x : Option Nat, W p l e R s m args below meth cd H locs cells slots Q (F0 m (pc + 3) ls (va_rf x :: rest))) : W p l e R s m args below meth cd H locs cells slots Q (F0 m pc ls (rest)) := by
  obtain ⟨hx, hb, hml, hrt, hlk, hown, hts, hK, -⟩ := hC
  obtain ⟨C, n, d, ref, hz, hl, hsm⟩ := F
  obtain ⟨x, hx2⟩ := hK.2.2.2.2.2.2.2.2.2.2 _ hz
  exact va_gets hx hb hx2 hS hown (hts _ hl) (wo_sm hts hsm) hdg (kk x)
theorem wo_ldcS {i : Nat} (hC : wo_Cx E own cc nL fr lo ret nm mc ms p R s m args meth cd) (F : wo_ST own idx i) (hdg : decode cc pc = .ok (.ldc idx, 2))
    (kk : W p l e R s m args below meth cd H locs cells slots Q (F0 m (pc + 2) ls (.ref (en_str E i) :: rest))) : W p l e R s m args below meth cd H locs cells slots Q (F0 m pc ls (rest)) := by
  obtain ⟨hx, hb, hml, hrt, hlk, hown, hts, hK, -⟩ := hC
  obtain ⟨tx, hz⟩ := F
  exact va_ldcS hx hb hown (hK.2.2.2.2.1 _ hz) hdg kk
theorem wo_instR {x : Option Nat} {c : Nat} {r : vw_C} {C : String} (hC : wo_Cx E own cc nL fr lo ret nm mc ms p R s m args meth cd) (hr : vw_Cl[c]? = some r) (hwd : Cond.classLink own idx C ∈ vw_WG) (hc : r.1 = C ∨ (r.1, C) ∈ vw_Nc) (hG : wo_Se E G H) (hi : wo_is G (c + 1) x) (hdg : decode cc pc = .ok (.instanceof idx, 3))
    (k0 : x = none → W p l e R s m args below meth cd H locs cells slots Q (F0 m (pc + 3) ls (.int 0 :: rest))) (k1 : ∀ a : Nat, x = some a → W p l e R s m args below meth cd H locs cells slots Q (F0 m (pc + 3) ls (.int 1 :: rest))) : W p l e R s m args below meth cd H locs cells slots Q (F0 m pc ls (va_rf x :: rest)) := by
  cases x with
  | none => exact lv_instN hC.1 hC.2.1 hdg (k0 rfl)
  | some a => exact wo_inst hC hr hwd hc hG (hi a rfl) hdg (k1 a rfl)
theorem wo_arr1 {j : Nat} (hK : wo_Kn E s) (ht : vw_Ar[j]? = some ty) (hG : wo_Se E G H) (hk : wo_ty G a = 64 + j) (hba : en_bs E ≤ a) : H[a]? = some (arrV (en_dA E j) (wo_len G a) (wo_ev ty G a)) := ((hG.2 a).2.2 j _ hk ht).1 hba
theorem wo_nmA {j : Nat} (hK : wo_Kn E s) (ht : vw_Ar[j]? = some ty) : s.vm.findClass ("[" ++ ty.toString) = some (en_dA E j) := by
  have hA := (hK.1.2 j _ (en_tys_at E ht)).2
  cases ty <;> first | exact hA | (obtain ⟨-, -, -, -, -, h4⟩ := hA; exact h4)
theorem wo_castA {x : Option Nat} {j : Nat} {nm2 : String} (hC : wo_Cx E own cc nL fr lo ret nm mc ms p R s m args meth cd) (ht : vw_Ar[j]? = some ty) (hwd : Cond.classLink own idx nm2 ∈ vw_WG) (hn : "[" ++ ty.toString = nm2) (hG : wo_Se E G H) (hi : wo_is G (64 + j) x) (hbs : ∀ a, x = some a → en_bs E ≤ a) (hdg : decode cc pc = .ok (.checkcast idx, 3))
    (kk : W p l e R s m args below meth cd H locs cells slots Q (F0 m (pc + 3) ls (va_rf x :: rest))) : W p l e R s m args below meth cd H locs cells slots Q (F0 m pc ls (va_rf x :: rest)) := by
  obtain ⟨hx, hb, hml, hrt, hlk, hown, hts, hK, -⟩ := hC
  cases x with
  | none => exact lv_castN hx hb hdg kk
  | some a =>
    have hnm : s.vm.findClass nm2 = some (en_dA E j) := by rw [← hn]; exact wo_nmA hK ht
    have q1 := wo_arr1 hK ht hG (hi a rfl) (hbs a rfl)
    intro T hT X
    obtain ⟨vm', X', st⟩ := X.checkcastYes hx hown (hts _ hwd) (by rw [hT]; exact q1) rfl hnm (va_asg _ _) (g := F0 m pc ls (.ref a :: rest)) rfl rfl (by rw [hb]; exact hdg)
    obtain ⟨t, a1, b1⟩ := kk (T.setVm vm') hT X'
    exact ⟨t, st t a1, b1⟩
theorem wo_ldcK (hC : wo_Cx E own cc nL fr lo ret nm mc ms p R s m args meth cd) (hwd : Cond.classLink own idx vw_Mc ∈ vw_WG) (hdg : decode cc pc = .ok (.ldc idx, 2))
    (kk : W p l e R s m args below meth cd H locs cells slots Q (F0 m (pc + 2) ls (.ref (en_cls E) :: rest))) : W p l e R s m args below meth cd H locs cells slots Q (F0 m pc ls (rest)) := by
  obtain ⟨hx, hb, hml, hrt, hlk, hown, hts, hK, -⟩ := hC
  exact va_ldcM hx hb hown (hts _ hwd) hK.2.2.2.2.2.2.2.2.1 hdg kk
theorem wo_getC {j : Nat} (hC : wo_Cx E own cc nL fr lo ret nm mc ms p R s m args meth cd) (ht : vw_Ar[j]? = some vw_Mt) (hl : Cond.methodLink own idx ⟨"java/lang/Object", "getClass", "()Ljava/lang/Class;"⟩ ∈ vw_WG) (hlv : ls.size = nL) (hG : wo_Se E G H) (hk : wo_ty G a = 64 + j) (hba : en_bs E ≤ a) (hf : 1 ≤ fr) (hg : (rest.map fun v => v.category).sum + 14 ≤ lo) (hdg : decode cc pc = .ok (.invokevirtual idx, 3))
    (kk : W p l e R s m args below meth cd H locs cells slots Q (F0 m (pc + 3) ls (.ref (en_cls E) :: rest))) : W p l e R s m args below meth cd H locs cells slots Q (F0 m pc ls (.ref a :: rest)) := by
  obtain ⟨hx, hb, hml, hrt, hlk, hown, hts, hK, hnm, hbs, hfr, hlo, hmc, hms⟩ := hC
  have hA := hK.1.2 j _ (en_tys_at E ht)
  exact va_getC hx hb (by rw [hml, hlv]) hown (hts _ hl) (va_Dc.use hK.2.2.2.2.2.2.2.2.2.1) (hts _ vt_gc1) (hts _ vt_gc2) (hts _ vt_gc3) hK.2.2.2.2.2.2.2.2.1 ⟨_, wo_arr1 hK ht hG hk hba, rfl, va_nmO hA.2 vt_mc⟩ (by rw [hfr]; exact hf) (by rw [hlo]; exact hg) hdg kk
def wo_CL (own : String) (idx : Nat) : Prop := Cond.methodLink own idx ⟨"[B", "clone", "()Ljava/lang/Object;"⟩ ∈ vw_WG ∧ Cond.sameMethod "[B" "java/lang/Object" "clone" "()Ljava/lang/Object;" ∈ vw_WG ∧ Cond.native ⟨"java/lang/Object", "clone", "()Ljava/lang/Object;"⟩ ∈ vw_WG ∧ Cond.instanceMethod ⟨"java/lang/Object", "clone", "()Ljava/lang/Object;"⟩ ∈ vw_WG ∧ Cond.selects "[B" ⟨"[B", "clone", "()Ljava/lang/Object;"⟩ ⟨"java/lang/Object", "clone", "()Ljava/lang/Object;"⟩ ∈ vw_WG ∧ ("[B", "java/lang/Cloneable") ∈ vw_Nc
def wo_fitA (ty : FieldType) (G : wo_W) (a : Nat) : Prop := ∀ i, i < wo_len G a → fits ty (.int (wo_ei G a i)) = true
theorem wo_fit_int (G : wo_W) (a : Nat) : wo_fitA .int G a := fun _ _ => rfl
theorem wo_eq_cpI {G : wo_W} {a b sp dp n q : Nat} (hb : q ≠ b) : wo_eq G (wo_cpI G a b sp dp n) q := ⟨rfl, rfl, fun _ => rfl, fun _ => rfl, fun _ => rfl, fun i => by simp [wo_ei, wo_cpI, wo_ur, hb], fun _ => rfl, fun _ => rfl⟩
theorem wo_eq_cpR {G : wo_W} {a b sp dp n q : Nat} (hb : q ≠ b) : wo_eq G (wo_cpR G a b sp dp n) q := ⟨rfl, rfl, fun _ => rfl, fun _ => rfl, fun _ => rfl, fun _ => rfl, fun _ => rfl, fun i => by simp [wo_er, wo_cpR, wo_ur, hb]⟩
theorem wo_Scp {G1 : wo_W} {H1 : Heap} {j : Nat} (hG : wo_Se E G H) (hb : en_bs E ≤ a) (hk : wo_ty G a = 64 + j) (ht : vw_Ar[j]? = some ty) (hs : ∀ b, b ≠ a → wo_eq G G1 b) (h0 : wo_ty G1 a = wo_ty G a) (h1 : wo_len G1 a = wo_len G a)
    (e1 : H1[a]? = some (arrV (en_dA E j) (wo_len G a) (wo_ev ty G1 a))) (e2 : H1.size = H.size) (e3 : ∀ q, q ≠ a → H1[q]? = H[q]?) : wo_Se E G1 H1 := by
  have hlt : a < H1.size := (Array.getElem?_eq_some_iff.mp e1).1
  refine hG.wr e2 e3 hs ⟨fun _ => hlt, fun c' r' hc' hr' => ?_, fun j' ty' hj ht' => ?_⟩
  · have hc : c' < vw_Cl.length := (List.getElem?_eq_some_iff.mp hr').1
    have := vt_ln
    omega
  · have ec : j' = j := by omega
    subst ec
    cases ht.symm.trans ht'
    refine ⟨fun _ => ?_, fun h => absurd hb (Nat.not_le.mpr h)⟩
    rw [e1, h1]
theorem wo_nn (z : Int32) (hz : ¬ z < 0) : z.toInt = (z.toNatClampNeg : Int) := by
  have hz0 : (0 : Int) ≤ z.toInt := by
    have := Int32.not_lt.mp hz
    simpa using Int32.le_iff_toInt_le.mp this
  show z.toInt = ((z.toInt.toNat : Nat) : Int)
  omega
theorem wo_cpyI {sp dp n : Int32} {j a0 : Nat} (hC : wo_Cx E own cc nL fr lo ret nm mc ms p R s m args meth cd) (ht : vw_Ar[j]? = some ty) (hI : wo_isI ty = true) (hl : Cond.methodLink own idx arraycopyName ∈ vw_WG) (hlv : ls.size = nL) (hG : wo_Se E G H) (hS : va_S (en_A E) s.heap H locs) (hk0 : wo_ty G a0 = 64 + j) (hk1 : wo_ty G a = 64 + j) (h1 : ¬ sp < 0) (h2 : ¬ dp < 0) (h3 : ¬ n < 0) (h4 : sp.toNatClampNeg + n.toNatClampNeg ≤ wo_len G a0) (h5 : dp.toNatClampNeg + n.toNatClampNeg ≤ wo_len G a) (hba : en_bs E ≤ a) (hfit : wo_fitA ty G a0) (hf : 1 ≤ fr) (hg : (rest.map fun v => v.category).sum + (nativeFrameWords "java/lang/System" "arraycopy" 5 + 11) ≤ lo) (hdg : decode cc pc = .ok (.invokestatic idx, 3))
    (kk : ∀ (G1 : wo_W) (H1 : Heap) (locs1 : List Loc), G1 = wo_cpI G a0 a sp.toNatClampNeg dp.toNatClampNeg n.toNatClampNeg → wo_Se E G1 H1 → va_S (en_A E) s.heap H1 locs1 → W p l e R s m args below meth cd H1 locs1 cells slots Q (F0 m (pc + 3) ls (rest))) : W p l e R s m args below meth cd H locs cells slots Q (F0 m pc ls (.int n :: .int dp :: .ref a :: .int sp :: .ref a0 :: rest)) := by
  obtain ⟨hx, hb, hml, hrt, hlk, hown, hts, hK, hnm, hbs, hfr, hlo, hmc, hms⟩ := hC
  obtain ⟨scr, hs1, ⟨hs6, k0, hk0', cm0, hkk0⟩, hs3, hs4, -, hs5⟩ := (hG.2 a0).arr hK hk0 ht
  have hA := hK.1.2 j _ (en_tys_at E ht)
  have hc1 := wo_arr1 hK ht hG hk1 hba
  obtain ⟨-, k1, hk1', cm1, hkk1⟩ := hA.1 (wo_len G a) (wo_ev ty G a)
  intro T hT X
  obtain ⟨vm', X', step⟩ := X.arraycopy hx hown (hts _ hl) (hts _ vt_ac1) (hts _ vt_ac2) (hts _ vt_ac3) (src := a0) (dst := a) (cs := scr) (cd := arrV (en_dA E j) (wo_len G a) (wo_ev ty G a)) (srcPos := sp) (destPos := dp) (n := n) (by rw [hT]; exact hs1) (by rw [hT]; exact hc1)
    hs6 (fun _ h => by cases h) hs3 (fun h => by cases h) hk0' hk1' hkk0 hkk1 (by cases ty <;> first | (simp [refKind]; done) | cases hI) h1 h2 h3
    (by rw [wo_nn sp h1, wo_nn n h3]; omega)
    (by rw [wo_nn dp h2, wo_nn n h3, arrV_size]; omega)
    (fun vm₁ hal i hi => by
      have e : scr.slots.getD (sp.toNatClampNeg + i) .null = .int (wo_ei G a0 (sp.toNatClampNeg + i)) := by
        rw [Array.getD_eq_getD_getElem?, hs5 _ (by omega), wo_ev_I hI]
        rfl
      exact ⟨by rw [e]; exact hfit _ (by omega), by rw [e]; exact trivial⟩)
    (g := F0 m pc ls (.int n :: .int dp :: .ref a :: .int sp :: .ref a0 :: rest)) rfl (by rw [hml, hlv]) (rest := rest) rfl (by rw [hb]; exact hdg) (by rw [hfr]; exact hf) (by rw [hlo]; show 2 * 0 + _ + _ ≤ _; omega)
  have e1 : copied scr (arrV (en_dA E j) (wo_len G a) (wo_ev ty G a)) sp dp n = arrV (en_dA E j) (wo_len G a) (wo_ev ty (wo_cpI G a0 a sp.toNatClampNeg dp.toNatClampNeg n.toNatClampNeg) a) := by
    have ea : wo_ev ty G a = fun q => .int (wo_ei G a q) := by funext q; exact wo_ev_I hI G a q
    have eb : wo_ev ty (wo_cpI G a0 a sp.toNatClampNeg dp.toNatClampNeg n.toNatClampNeg) a = fun q => .int (va_cpy (wo_ei G a0) (wo_ei G a) sp.toNatClampNeg dp.toNatClampNeg n.toNatClampNeg q) := by funext q; rw [wo_ev_I hI]; simp [wo_ei, wo_cpI, wo_ur]
    rw [ea, eb]
    exact va_copiedX (fun z => .int z) scr (en_dA E j) (wo_ei G a0) (wo_ei G a) (fun q hq => by rw [hs5 q hq, wo_ev_I hI]) h4
  rw [e1] at X' step
  have hl : a < H.size := (Array.getElem?_eq_some_iff.mp hc1).1
  have oq : ∀ q : Nat, q ≠ a → (H.setIfInBounds a (arrV (en_dA E j) (wo_len G a) (wo_ev ty (wo_cpI G a0 a sp.toNatClampNeg dp.toNatClampNeg n.toNatClampNeg) a)))[q]? = H[q]? := fun q hq => by simp [Array.getElem?_setIfInBounds, Ne.symm hq]
  obtain ⟨t, a1, b1⟩ := kk _ (H.setIfInBounds a (arrV (en_dA E j) (wo_len G a) (wo_ev ty (wo_cpI G a0 a sp.toNatClampNeg dp.toNatClampNeg n.toNatClampNeg) a))) _ rfl (wo_Scp hG hba hk1 ht (fun b hb => wo_eq_cpI hb) rfl rfl (by simp [Array.getElem?_setIfInBounds, hl]) (by simp) oq) ⟨by simp; exact hS.1, fun q g1 g2 => by
      rw [oq q (fun e => g2 (by rw [e]; exact hba))]
      exact hS.2.1 q g1 g2, fun q hq => by
      rcases List.mem_append.mp hq with h | h
      · exact hS.2.2 q h
      · obtain ⟨z, -, hz⟩ := List.mem_map.mp h
        rw [← hz]
        exact hba⟩ _ (by rw [← hT]; rfl) X'
  exact ⟨t, step t a1, b1⟩
theorem wo_cpyR {sp dp n : Int32} {j a0 : Nat} {C : String} (hC : wo_Cx E own cc nL fr lo ret nm mc ms p R s m args meth cd) (ht : vw_Ar[j]? = some (.object C)) (hl : Cond.methodLink own idx arraycopyName ∈ vw_WG) (hlv : ls.size = nL) (hG : wo_Se E G H) (hS : va_S (en_A E) s.heap H locs) (hk0 : wo_ty G a0 = 64 + j) (hk1 : wo_ty G a = 64 + j) (h1 : ¬ sp < 0) (h2 : ¬ dp < 0) (h3 : ¬ n < 0) (h4 : sp.toNatClampNeg + n.toNatClampNeg ≤ wo_len G a0) (h5 : dp.toNatClampNeg + n.toNatClampNeg ≤ wo_len G a) (hba : en_bs E ≤ a) (hfit : ∀ i, i < n.toNatClampNeg → wo_may G j (wo_er G a0 (sp.toNatClampNeg + i))) (hf : 1 ≤ fr) (hg : (rest.map fun v => v.category).sum + (nativeFrameWords "java/lang/System" "arraycopy" 5 + 11) ≤ lo) (hdg : decode cc pc = .ok (.invokestatic idx, 3))
    (kk : ∀ (G1 : wo_W) (H1 : Heap) (locs1 : List Loc), G1 = wo_cpR G a0 a sp.toNatClampNeg dp.toNatClampNeg n.toNatClampNeg → wo_Se E G1 H1 → va_S (en_A E) s.heap H1 locs1 → W p l e R s m args below meth cd H1 locs1 cells slots Q (F0 m (pc + 3) ls (rest))) : W p l e R s m args below meth cd H locs cells slots Q (F0 m pc ls (.int n :: .int dp :: .ref a :: .int sp :: .ref a0 :: rest)) := by
  obtain ⟨hx, hb, hml, hrt, hlk, hown, hts, hK, hnm, hbs, hfr, hlo, hmc, hms⟩ := hC
  obtain ⟨scr, hs1, ⟨hs6, k0, hk0', cm0, hkk0⟩, hs3, hs4, -, hs5⟩ := (hG.2 a0).arr hK hk0 ht
  have hA := hK.1.2 j _ (en_tys_at E ht)
  have hc1 := wo_arr1 hK ht hG hk1 hba
  obtain ⟨-, k1, hk1', cm1, hkk1⟩ := hA.1 (wo_len G a) (wo_ev (.object C) G a)
  intro T hT X
  obtain ⟨vm', X', step⟩ := X.arraycopy hx hown (hts _ hl) (hts _ vt_ac1) (hts _ vt_ac2) (hts _ vt_ac3) (src := a0) (dst := a) (cs := scr) (cd := arrV (en_dA E j) (wo_len G a) (wo_ev (.object C) G a)) (srcPos := sp) (destPos := dp) (n := n) (by rw [hT]; exact hs1) (by rw [hT]; exact hc1)
    hs6 (fun _ h => by cases h) hs3 (fun h => by cases h) hk0' hk1' hkk0 hkk1 (rfl) h1 h2 h3
    (by rw [wo_nn sp h1, wo_nn n h3]; omega)
    (by rw [wo_nn dp h2, wo_nn n h3, arrV_size]; omega)
    (fun vm₁ hal i hi => by
      have e : scr.slots.getD (sp.toNatClampNeg + i) .null = va_rf (wo_er G a0 (sp.toNatClampNeg + i)) := by
        rw [Array.getD_eq_getD_getElem?, hs5 _ (by omega)]
        rfl
      rw [e]
      cases hy : wo_er G a0 (sp.toNatClampNeg + i) with
      | none => exact ⟨rfl, trivial⟩
      | some y =>
        obtain ⟨cellV, g1, g2, ⟨kC, hkC⟩, hasg⟩ := wo_any hK hG ht (by rw [← hy]; exact hfit i hi)
        obtain ⟨kA, comp, r1, r2, r3, -⟩ := hA.2
        cases hk1'.symm.trans r1
        cases hkk1.symm.trans r2
        obtain ⟨kE, hkE, -⟩ := Vm.findClass_spec r3
        obtain ⟨kC', hkC', -⟩ := hal.2.2 _ _ hkC
        obtain ⟨kE', hkE', -⟩ := hal.2.2 _ _ hkE
        refine ⟨rfl, cellV, (show T.heap[y]? = some cellV by rw [hT]; exact g1), (fun q h => by rw [h] at g2; cases g2), ⟨kC', hkC'⟩, ?_, ?_⟩
        · exact ⟨kE', hkE'⟩
        · show vm₁.assignable _ _ = true
          rw [hal.assignable]
          exact hasg _ r3)
    (g := F0 m pc ls (.int n :: .int dp :: .ref a :: .int sp :: .ref a0 :: rest)) rfl (by rw [hml, hlv]) (rest := rest) rfl (by rw [hb]; exact hdg) (by rw [hfr]; exact hf) (by rw [hlo]; show 2 * 0 + _ + _ ≤ _; omega)
  have e1 : copied scr (arrV (en_dA E j) (wo_len G a) (wo_ev (.object C) G a)) sp dp n = arrV (en_dA E j) (wo_len G a) (wo_ev (.object C) (wo_cpR G a0 a sp.toNatClampNeg dp.toNatClampNeg n.toNatClampNeg) a) := by
    have eb : wo_ev (.object C) (wo_cpR G a0 a sp.toNatClampNeg dp.toNatClampNeg n.toNatClampNeg) a = fun q => va_rf (va_cpy (wo_er G a0) (wo_er G a) sp.toNatClampNeg dp.toNatClampNeg n.toNatClampNeg q) := by funext q; simp [wo_ev, wo_er, wo_cpR, wo_ur]
    rw [eb]
    exact va_copiedX (fun z => va_rf z) scr (en_dA E j) (wo_er G a0) (wo_er G a) (fun q hq => hs5 q hq) h4
  rw [e1] at X' step
  have hl : a < H.size := (Array.getElem?_eq_some_iff.mp hc1).1
  have oq : ∀ q : Nat, q ≠ a → (H.setIfInBounds a (arrV (en_dA E j) (wo_len G a) (wo_ev (.object C) (wo_cpR G a0 a sp.toNatClampNeg dp.toNatClampNeg n.toNatClampNeg) a)))[q]? = H[q]? := fun q hq => by simp [Array.getElem?_setIfInBounds, Ne.symm hq]
  obtain ⟨t, a1, b1⟩ := kk _ (H.setIfInBounds a (arrV (en_dA E j) (wo_len G a) (wo_ev (.object C) (wo_cpR G a0 a sp.toNatClampNeg dp.toNatClampNeg n.toNatClampNeg) a))) _ rfl (wo_Scp hG hba hk1 ht (fun b hb => wo_eq_cpR hb) rfl rfl (by simp [Array.getElem?_setIfInBounds, hl]) (by simp) oq) ⟨by simp; exact hS.1, fun q g1 g2 => by
      rw [oq q (fun e => g2 (by rw [e]; exact hba))]
      exact hS.2.1 q g1 g2, fun q hq => by
      rcases List.mem_append.mp hq with h | h
      · exact hS.2.2 q h
      · obtain ⟨z, -, hz⟩ := List.mem_map.mp h
        rw [← hz]
        exact hba⟩ _ (by rw [← hT]; rfl) X'
  exact ⟨t, step t a1, b1⟩
theorem wo_clone {j : Nat} (hC : wo_Cx E own cc nL fr lo ret nm mc ms p R s m args meth cd) (ht : vw_Ar[j]? = some .byte) (hl : wo_CL own idx) (hlv : ls.size = nL) (hG : wo_Se E G H) (hS : va_S (en_A E) s.heap H locs) (hk : wo_ty G a = 64 + j) (hba : en_bs E ≤ a) (hfit : wo_fitA .byte G a) (h1 : cells + 1 ≤ mc) (h2 : slots + wo_len G a ≤ ms) (hf : 1 ≤ fr) (hg : (rest.map fun v => v.category).sum + 14 ≤ lo) (hdg : decode cc pc = .ok (.invokevirtual idx, 3))
    (kk : ∀ (q : Nat) (G1 : wo_W) (H1 : Heap), wo_ty G q = 0 → en_bs E ≤ q → G1 = wo_cln G a q → wo_Se E G1 H1 → va_S (en_A E) s.heap H1 locs → W p l e R s m args below meth cd H1 locs (cells + 1) (slots + wo_len G a) Q (F0 m (pc + 3) ls (.ref q :: rest))) : W p l e R s m args below meth cd H locs cells slots Q (F0 m pc ls (.ref a :: rest)) := by
  obtain ⟨hx, hb, hml, hrt, hlk, hown, hts, hK, hnm, hbs, hfr, hlo, hmc, hms⟩ := hC
  obtain ⟨l1, l2, l3, l4, l5, l6⟩ := hl
  have q1 := wo_arr1 hK ht hG hk hba
  have hA := hK.1.2 j _ (en_tys_at E ht)
  have hnmA : s.vm.findClass "[B" = some (en_dA E j) := by
    have e : "[" ++ FieldType.byte.toString = "[B" := by decide +kernel
    rw [← e]; exact wo_nmA hK ht
  obtain ⟨c0, t0', f1, f2, f3⟩ := Cond.castable_spec (va_Nw.use (A := args) rfl (hK.2.2.1 _ l6))
  cases hnmA.symm.trans f1
  intro T hT X
  have hcellT : T.heap[a]? = some (arrV (en_dA E j) (wo_len G a) (wo_ev .byte G a)) := by rw [hT]; exact q1
  obtain ⟨-, kA, hkA, comp, hkind⟩ := State.isArrayOf_alike X.warmed.alike (hA.1 0 (fun _ => .null))
  obtain ⟨-, kS, hkS, compS, hkindS⟩ := hA.1 0 (fun _ => .null)
  obtain ⟨vm', X', st⟩ := X.cloneArray hx hown (hts _ l1) (hts _ l2) (hts _ l3) (hts _ l4) (hts _ l5) (a := a) (cell := arrV (en_dA E j) (wo_len G a) (wo_ev .byte G a)) hcellT (fun k h => by cases h) (fun h => by cases h) hnmA f2 f3
    (fun i v hv => by
      have hk' : T.vm.classes[en_dA E j]? = some kA := hkA
      have hfv : fits .byte v = true := by
        by_cases hi : i < wo_len G a
        · rw [arrV_read _ _ hi] at hv
          cases hv
          exact hfit i hi
        · rw [Array.getElem?_eq_none (by rw [arrV_size]; omega)] at hv
          cases hv
      show T.fitsSlot (en_dA E j) .none i v = true
      simpa [State.fitsSlot, State.slotType?, hk', hkind] using hfv)
    (g := F0 m pc ls (.ref a :: rest)) rfl (by rw [hml, hlv]) rfl (by rw [hb]; exact hdg) (by rw [hfr]; exact hf) (by rw [hlo]; show 2 * 0 + _ + 14 ≤ _; omega) (by rw [hmc]; exact h1) (by rw [hms, arrV_size]; exact h2) (hloader := Vm.clonesLoader_of_array hkS hkindS)
  rw [arrV_size] at X'
  have hce : ({ cls := (arrV (en_dA E j) (wo_len G a) (wo_ev .byte G a)).cls, slots := (arrV (en_dA E j) (wo_len G a) (wo_ev .byte G a)).slots } : Cell) = arrV (en_dA E j) (wo_len G a) (wo_ev .byte G a) := rfl
  rw [hce] at X' st
  generalize hH1 : H.push (arrV (en_dA E j) (wo_len G a) (wo_ev .byte G a)) = H1
  have z1 : H1.size = H.size + 1 := by rw [← hH1, Array.size_push]
  have e1 : H1[H.size]? = some (arrV (en_dA E j) (wo_len G a) (wo_ev .byte G a)) := by rw [← hH1, Array.getElem?_push_size]
  have o1 : ∀ q : Nat, q < H.size → H1[q]? = H[q]? := fun q hq => by rw [← hH1, Array.getElem?_push, if_neg (Nat.ne_of_lt hq)]
  have ht0 : wo_ty (wo_cln G a H.size) H.size = 64 + j := by simp [wo_ty, wo_cln, wo_u1]; exact hk
  have hSe : wo_Se E (wo_cln G a H.size) H1 := by
    refine hG.push z1 o1 (fun b hb => wo_eq_cln hb) ⟨fun _ => by omega, fun c' r' hc' hr' => ?_, fun j' ty' hj ht' => ?_⟩
    · have hc : c' < vw_Cl.length := (List.getElem?_eq_some_iff.mp hr').1
      have := vt_ln
      omega
    · have ec : j' = j := by omega
      subst ec
      cases ht.symm.trans ht'
      refine ⟨fun _ => ?_, fun h => absurd hG.1 (Nat.not_le.mpr h)⟩
      rw [e1]
      have el : wo_len (wo_cln G a H.size) H.size = wo_len G a := by simp [wo_len, wo_cln, wo_u1]
      have ee : wo_ev .byte (wo_cln G a H.size) H.size = wo_ev .byte G a := by funext i; simp [wo_ev, wo_ei, wo_cln, wo_ur]
      rw [el, ee]
  obtain ⟨t, b1, b2⟩ := kk H.size _ H1 hG.free hG.1 rfl hSe (wo_newS hS z1 o1) ((T.setVm vm').pushCell (arrV (en_dA E j) (wo_len G a) (wo_ev .byte G a))) (by rw [← hH1, ← hT]; rfl) X'
  refine ⟨t, st t ?_, b2⟩
  rw [hT]
  exact b1
theorem wo_bk {t : State} (ht : t.heap = H) (hB : wo_B E G t) : wo_Se E G H := ht ▸ hB
theorem ty_si {G G1 : wo_W} {f c : Nat} {x : Int32} {a k : Nat} (e : G1 = wo_si G f c x) (h : wo_ty G a = k) : wo_ty G1 a = k := by subst e; exact h
theorem ty_sl {G G1 : wo_W} {f c : Nat} {x : Int64} {a k : Nat} (e : G1 = wo_sl G f c x) (h : wo_ty G a = k) : wo_ty G1 a = k := by subst e; exact h
theorem ty_sr {G G1 : wo_W} {f c : Nat} {x : Option Nat} {a k : Nat} (e : G1 = wo_sr G f c x) (h : wo_ty G a = k) : wo_ty G1 a = k := by subst e; exact h
theorem ty_sei {G G1 : wo_W} {c i : Nat} {x : Int32} {a k : Nat} (e : G1 = wo_sei G c i x) (h : wo_ty G a = k) : wo_ty G1 a = k := by subst e; exact h
theorem ty_sel {G G1 : wo_W} {c i : Nat} {x : Int64} {a k : Nat} (e : G1 = wo_sel G c i x) (h : wo_ty G a = k) : wo_ty G1 a = k := by subst e; exact h
theorem ty_ser {G G1 : wo_W} {c i : Nat} {x : Option Nat} {a k : Nat} (e : G1 = wo_ser G c i x) (h : wo_ty G a = k) : wo_ty G1 a = k := by subst e; exact h
theorem ty_copyI {G G1 : wo_W} {b c sp dp n : Nat} {a k : Nat} (e : G1 = wo_cpI G b c sp dp n) (h : wo_ty G a = k) : wo_ty G1 a = k := by subst e; exact h
theorem ty_copyR {G G1 : wo_W} {b c sp dp n : Nat} {a k : Nat} (e : G1 = wo_cpR G b c sp dp n) (h : wo_ty G a = k) : wo_ty G1 a = k := by subst e; exact h
theorem ty_new {G G1 : wo_W} {q j : Nat} {a k : Nat} (h0 : k ≠ 0) (z : wo_ty G q = 0) (e : G1 = wo_new G q j) (h : wo_ty G a = k) : wo_ty G1 a = k := by
  subst e
  have hq : a ≠ q := fun h1 => h0 (by rw [← h, h1]; exact z)
  simpa [wo_ty, wo_new, wo_u1, hq] using h
theorem ty_newq {G G1 : wo_W} {q j : Nat} (e : G1 = wo_new G q j) : wo_ty G1 q = j := by subst e; simp [wo_ty, wo_new, wo_u1]
theorem ty_na {G G1 : wo_W} {q j n : Nat} {a k : Nat} (h0 : k ≠ 0) (z : wo_ty G q = 0) (e : G1 = wo_na G q j n) (h : wo_ty G a = k) : wo_ty G1 a = k := by
  subst e
  have hq : a ≠ q := fun h1 => h0 (by rw [← h, h1]; exact z)
  simpa [wo_ty, wo_na, wo_u1, hq] using h
theorem ty_naq {G G1 : wo_W} {q j n : Nat} (e : G1 = wo_na G q j n) : wo_ty G1 q = j := by subst e; simp [wo_ty, wo_na, wo_u1]
theorem ty_cln {G G1 : wo_W} {q b : Nat} {a k : Nat} (h0 : k ≠ 0) (z : wo_ty G q = 0) (e : G1 = wo_cln G b q) (h : wo_ty G a = k) : wo_ty G1 a = k := by
  subst e
  have hq : a ≠ q := fun h1 => h0 (by rw [← h, h1]; exact z)
  simpa [wo_ty, wo_cln, wo_u1, hq] using h
theorem ty_clnq {G G1 : wo_W} {q b k : Nat} (e : G1 = wo_cln G b q) (h : wo_ty G b = k) : wo_ty G1 q = k := by subst e; simpa [wo_ty, wo_cln, wo_u1] using h
theorem wo_objI (hC : wo_Cx E own cc nL fr lo ret nm mc ms p R s m args meth cd) (hl : Cond.methodLink own idx Lib.objectInit ∈ vw_WG) (hlv : ls.size = nL) (hf : 1 ≤ fr) (hg : (rest.map fun v => v.category).sum + 12 ≤ lo) (hdg : decode cc pc = .ok (.invokespecial idx, 3))
    (kk : W p l e R s m args below meth cd H locs cells slots Q (F0 m (pc + 3) ls (rest))) : W p l e R s m args below meth cd H locs cells slots Q (F0 m pc ls (.ref a :: rest)) := by
  obtain ⟨hx, hb, hml, hrt, hlk, hown, hts, hK, hnm, hbs, hfr, hlo, hmc, hms⟩ := hC
  exact W.objInit hx hb hown (hts _ hl) (hts _ vt_oi1) (hts _ vt_oi2) rfl (by rw [hml]; exact hlv) rfl hdg (by rw [hfr]; exact hf) (by rw [hlo]; show 2 * 0 + _ + 12 ≤ _; omega) kk
def wo_max (x y : Int32) : Int32 := if x < y then y else x
def wo_min (x y : Int32) : Int32 := if y < x then y else x
theorem wo_mmax {x y : Int32} (hC : wo_Cx E own cc nL fr lo ret nm mc ms p R s m args meth cd) (hl : Cond.methodLink own idx Lib.Math.max.name ∈ vw_WG) (hlv : ls.size = nL) (h1 : cells ≤ mc) (h2 : slots ≤ ms) (hf : 1 ≤ fr) (hg : (rest.map fun v => v.category).sum + 13 ≤ lo) (hdg : decode cc pc = .ok (.invokestatic idx, 3))
    (kk : W p l e R s m args below meth cd H locs cells slots Q (F0 m (pc + 3) ls (.int (wo_max x y) :: rest))) : W p l e R s m args below meth cd H locs cells slots Q (F0 m pc ls (.int y :: .int x :: rest)) := by
  obtain ⟨hx, hb, hml, hrt, hlk, hown, hts, hK, hnm, hbs, hfr, hlo, hmc, hms⟩ := hC
  exact va_mmax hx hb (by rw [hml, hlv]) hown (hts _ hl) (hts _ vt_mx1) (hts _ vt_mx0) (hts _ vt_mx2) (by rw [hfr]; exact hf) (by rw [hlo]; exact hg) (by rw [hmc]; exact h1) (by rw [hms]; exact h2) hdg kk
theorem wo_mmin {x y : Int32} (hC : wo_Cx E own cc nL fr lo ret nm mc ms p R s m args meth cd) (hl : Cond.methodLink own idx Lib.Math.min.name ∈ vw_WG) (hlv : ls.size = nL) (h1 : cells ≤ mc) (h2 : slots ≤ ms) (hf : 1 ≤ fr) (hg : (rest.map fun v => v.category).sum + 13 ≤ lo) (hdg : decode cc pc = .ok (.invokestatic idx, 3))
    (kk : W p l e R s m args below meth cd H locs cells slots Q (F0 m (pc + 3) ls (.int (wo_min x y) :: rest))) : W p l e R s m args below meth cd H locs cells slots Q (F0 m pc ls (.int y :: .int x :: rest)) := by
  obtain ⟨hx, hb, hml, hrt, hlk, hown, hts, hK, hnm, hbs, hfr, hlo, hmc, hms⟩ := hC
  exact va_mmin hx hb (by rw [hml, hlv]) hown (hts _ hl) (hts _ vt_mn1) (hts _ vt_mx0) (hts _ vt_mn2) (by rw [hfr]; exact hf) (by rw [hlo]; exact hg) (by rw [hmc]; exact h1) (by rw [hms]; exact h2) hdg kk
theorem wo_gd (y : MethodName) (bytes : ByteArray) (maxL : Nat) (rY : Option FieldType) (h : Cond.code y bytes maxL rY ∈ vw_WG) : GoodIn vw_WG (Cond.code y bytes maxL rY :: vw_WG) := by
  intro w hw
  rcases List.mem_cons.mp hw with rfl | hw
  · exact ⟨h, vt_good _ h⟩
  · exact ⟨hw, vt_good _ hw⟩
theorem wo_bl {G : wo_W} {av : List Value} : FrameBlind (va_Pc av (wo_Ok E G)) := fun _ _ _ _ h => ⟨h.1, h.2.1, wo_Kn.same rfl rfl h.2.2⟩
theorem wo_pc {G : wo_W} {av : List Value} (hK : wo_Kn E s) (hG : wo_Se E G H) (hS : va_S (en_A E) s.heap H locs) {U : State} (hU : U.heap = H) (hW : s.WarmedH U.vm) : va_Pc av (wo_Ok E G) av.toArray U :=
  ⟨rfl, by rw [hU]; exact hG, wo_Kn.go hW (fun q h1 h2 => by rw [hU]; exact hS.2.1 q h1 h2) hK⟩
def wo_CB (own : String) (idx : Nat) (y : MethodName) (bytes : ByteArray) (maxL : Nat) (rY : Option FieldType) (n : Nat) : Prop := Cond.initialized y.cls ∈ vw_WG ∧ Cond.code y bytes maxL rY ∈ vw_WG ∧ (y.cls ≠ "java/lang/invoke/MethodHandle" ∧ y.cls ≠ "java/lang/invoke/VarHandle" ∧ (parseMethodDescriptor y.desc).map (fun d => d.parameters.length) = some n) ∧ Cond.methodLink own idx y ∈ vw_WG
def wo_MS (own : String) (idx : Nat) (y : MethodName) (bytes : ByteArray) (maxL : Nat) (rY : Option FieldType) (n : Nat) : Prop := wo_CB own idx y bytes maxL rY n ∧ Cond.static y ∈ vw_WG
def wo_MI (own : String) (idx : Nat) (y : MethodName) (bytes : ByteArray) (maxL : Nat) (n : Nat) : Prop := wo_CB own idx y bytes maxL none n ∧ y.name = "<init>" ∧ Cond.instanceMethod y ∈ vw_WG
theorem wo_sel2 {C : String} {x0 y0 y : MethodName} (h0 : (Cond.selects C x0 y0).before args s = true) (hc : y0.cls = y.cls) (hy : y.cls ≠ "java/lang/invoke/MethodHandle" ∧ y.cls ≠ "java/lang/invoke/VarHandle") (hp : (Cond.privateMethod y).before args s = true) (hi : (Cond.instanceMethod y).before args s = true) : (Cond.selects C y y).before args s = true := by
  obtain ⟨c2, r2, m2, q1, -, q3, -, kP, hkP, hkPi⟩ := Cond.selects_spec h0
  obtain ⟨mk, methM, hnamed, hmethM, -, -⟩ := Cond.instanceMethod_spec hi
  have hfound : s.methodFound? y.cls y.name y.desc = some mk := State.methodFound?_of_named hnamed hy
  have hcls : mk.cls = m2.cls := Option.some.inj ((findClass_of_methodNamed hnamed).symm.trans (hc ▸ findClass_of_methodNamed q3))
  have hsel : selectMethod {} s.vm c2 mk = .method mk := selectMethod_private hmethM (Cond.privateMethod_at hp mk methM hnamed hmethM)
  simp only [Cond.before, Cond.holds, Cond.value, q1, hfound, hnamed, hsel, hcls, hkP]
  simp; exact hkPi
def wo_MV (own : String) (idx kd : Nat) (y : MethodName) (bytes : ByteArray) (maxL : Nat) (rY : Option FieldType) (n : Nat) : Prop := wo_CB own idx y bytes maxL rY n ∧ Cond.instanceMethod y ∈ vw_WG ∧ ∃ (c : Nat) (r : vw_C), kd = c + 1 ∧ vw_Cl[c]? = some r ∧ Cond.selects r.1 y y ∈ vw_WG
def wo_MU (own : String) (idx kd : Nat) (y : MethodName) (bytes : ByteArray) (maxL : Nat) (rY : Option FieldType) (n : Nat) : Prop := Cond.initialized y.cls ∈ vw_WG ∧ Cond.code y bytes maxL rY ∈ vw_WG ∧ Cond.instanceMethod y ∈ vw_WG ∧ ∃ (x : MethodName) (b0 : ByteArray) (m0 : Nat) (r0 : Option FieldType) (c : Nat) (r : vw_C), (x.cls ≠ "java/lang/invoke/MethodHandle" ∧ x.cls ≠ "java/lang/invoke/VarHandle" ∧ (parseMethodDescriptor x.desc).map (fun d => d.parameters.length) = some n) ∧
  Cond.methodLink own idx x ∈ vw_WG ∧ Cond.sameMethod x.cls x.cls x.name x.desc ∈ vw_WG ∧ Cond.instanceMethod x ∈ vw_WG ∧ Cond.code x b0 m0 r0 ∈ vw_WG ∧ kd = c + 1 ∧ vw_Cl[c]? = some r ∧ Cond.selects r.1 x y ∈ vw_WG
def wo_MP (own : String) (idx kd : Nat) (y : MethodName) (bytes : ByteArray) (maxL : Nat) (rY : Option FieldType) (n : Nat) : Prop := wo_CB own idx y bytes maxL rY n ∧ Cond.instanceMethod y ∈ vw_WG ∧ y.name ≠ "<init>" ∧ Cond.sameMethod y.cls y.cls y.name y.desc ∈ vw_WG ∧ Cond.superclass own y.cls ∈ vw_WG ∧ ∃ (c : Nat) (r : vw_C), kd = c + 1 ∧ vw_Cl[c]? = some r
def wo_MN (own : String) (idx : Nat) (y : MethodName) (bytes : ByteArray) (maxL : Nat) (n : Nat) : Prop := ∃ host : String, (own, idx, y, host) ∈ vw_Nm ∧ Cond.initialized y.cls ∈ vw_WG ∧ Cond.code y bytes maxL none ∈ vw_WG ∧ (y.cls ≠ "java/lang/invoke/MethodHandle" ∧ y.cls ≠ "java/lang/invoke/VarHandle" ∧ (parseMethodDescriptor y.desc).map (fun d => d.parameters.length) = some n) ∧ y.name = "<init>" ∧ Cond.instanceMethod y ∈ vw_WG
theorem wo_runS {y : MethodName} {bytes : ByteArray} {maxL n fY lY mY sY : Nat} {rY : Option FieldType} {Qc : Array Value → State → Outcome → State → Prop} {As : List Value} {st : List Value} (hC : wo_Cx E own cc nL fr lo ret nm mc ms p R s m args meth cd) (M : wo_MS own idx y bytes maxL rY n) (hM : Met l y (Cond.code y bytes maxL rY :: vw_WG) { frames := fY, cells := mY, slots := sY, locals := lY } (va_Pc (As) (wo_Ok E G)) Qc mY sY (en_A E)) (hG : wo_Se E G H) (hS : va_S (en_A E) s.heap H locs) (hn : As.length = n) (hlv : ls.size = nL) (hst : st = As.reverse ++ rest) (hw : (rest.map fun v => v.category).sum ≤ 8) (hR : fY + 1 ≤ fr ∧ 8 + (maxL + 11) + lY ≤ lo) (hdg : decode cc pc = .ok (.invokestatic idx, 3)) (hf : cells + mY ≤ mc ∧ slots + sY ≤ ms) :
    va_Run p l e R s m args below meth cd H locs cells slots mY sY (F0 m pc ls st) rest (Qc (As).toArray) (en_A E) := by
  obtain ⟨hx, hb, hml, hrt, hlk, hown, hts, hK, hnm, hbs, hfr, hlo, hmc, hms⟩ := hC
  subst hst; subst hfr; subst hlo; subst hmc; subst hms
  obtain ⟨⟨m1, m2, m3, m4⟩, m5⟩ := M
  exact va_runS (nL := nL) (Ts := vw_WG) (own := own) (ret := rY) (As := As) ⟨hx, hb, hml, hown, hts⟩ hM ⟨callB_of n hts (wo_gd y bytes maxL rY m2) rfl rfl rfl (hts _ m1) (hts _ m4) m3 hR, hts _ m5⟩ ⟨wo_bl, fun U hU hW => wo_pc hK hG hS hU hW⟩ rfl hn hlv rfl (lv_room hw) hdg hf
theorem wo_runI {y : MethodName} {bytes : ByteArray} {maxL n fY lY mY sY : Nat} {Qc : Array Value → State → Outcome → State → Prop} {b : Nat} {As : List Value} {st : List Value} (hC : wo_Cx E own cc nL fr lo ret nm mc ms p R s m args meth cd) (M : wo_MI own idx y bytes maxL n) (hM : Met l y (Cond.code y bytes maxL none :: vw_WG) { frames := fY, cells := mY, slots := sY, locals := lY } (va_Pc (.ref b :: As) (wo_Ok E G)) Qc mY sY (en_A E)) (hG : wo_Se E G H) (hS : va_S (en_A E) s.heap H locs) (hn : As.length = n) (hlv : ls.size = nL) (hst : st = As.reverse ++ .ref b :: rest) (hw : (rest.map fun v => v.category).sum ≤ 8) (hR : fY + 1 ≤ fr ∧ 8 + (maxL + 11) + lY ≤ lo) (hdg : decode cc pc = .ok (.invokespecial idx, 3)) (hf : cells + mY ≤ mc ∧ slots + sY ≤ ms) :
    va_Run p l e R s m args below meth cd H locs cells slots mY sY (F0 m pc ls st) rest (Qc (Value.ref b :: As).toArray) (en_A E) := by
  obtain ⟨hx, hb, hml, hrt, hlk, hown, hts, hK, hnm, hbs, hfr, hlo, hmc, hms⟩ := hC
  subst hst; subst hfr; subst hlo; subst hmc; subst hms
  obtain ⟨⟨m1, m2, m3, m4⟩, m5, m6⟩ := M
  exact va_runI (nL := nL) (Ts := vw_WG) (own := own) (As := As) ⟨hx, hb, hml, hown, hts⟩ hM ⟨callB_of n hts (wo_gd y bytes maxL none m2) rfl rfl rfl (hts _ m1) (hts _ m4) m3 hR, m5, hts _ m6⟩ ⟨wo_bl, fun U hU hW => wo_pc hK hG hS hU hW⟩ rfl hn hlv rfl (lv_room hw) hdg hf
theorem wo_runV {y : MethodName} {bytes : ByteArray} {maxL n fY lY mY sY : Nat} {rY : Option FieldType} {Qc : Array Value → State → Outcome → State → Prop} {b : Nat} {As : List Value} {st : List Value} (hC : wo_Cx E own cc nL fr lo ret nm mc ms p R s m args meth cd) (M : wo_MV own idx kd y bytes maxL rY n) (hM : Met l y (Cond.code y bytes maxL rY :: vw_WG) { frames := fY, cells := mY, slots := sY, locals := lY } (va_Pc (.ref b :: As) (wo_Ok E G)) Qc mY sY (en_A E)) (hG : wo_Se E G H) (hS : va_S (en_A E) s.heap H locs) (hk : wo_ty G b = kd) (hn : As.length = n) (hlv : ls.size = nL) (hst : st = As.reverse ++ .ref b :: rest) (hw : (rest.map fun v => v.category).sum ≤ 8) (hR : fY + 1 ≤ fr ∧ 8 + (maxL + 11) + lY ≤ lo) (hdg : decode cc pc = .ok (.invokevirtual idx, 3)) (hf : cells + mY ≤ mc ∧ slots + sY ≤ ms) :
    va_Run p l e R s m args below meth cd H locs cells slots mY sY (F0 m pc ls st) rest (Qc (Value.ref b :: As).toArray) (en_A E) := by
  obtain ⟨hx, hb, hml, hrt, hlk, hown, hts, hK, hnm, hbs, hfr, hlo, hmc, hms⟩ := hC
  subst hst; subst hfr; subst hlo; subst hmc; subst hms
  obtain ⟨⟨m1, m2, m3, m4⟩, m5, c, r, rfl, hr, m6⟩ := M
  obtain ⟨cell, q1, q2, q3, q4⟩ := (hG.2 b).cls hk hr
  exact va_runV (nL := nL) (Ts := vw_WG) (own := own) (C := r.1) (ret := rY) (As := As) ⟨hx, hb, hml, hown, hts⟩ hM ⟨callB_of n hts (wo_gd y bytes maxL rY m2) rfl rfl rfl (hts _ m1) (hts _ m4) m3 hR, hts _ m5, hts _ m6⟩ ⟨wo_bl, ⟨cell, q1, q3, by rw [q2]; exact (hK.1.1 c r hr).2.1⟩, fun U hU hW => wo_pc hK hG hS hU hW⟩ rfl hn hlv rfl (lv_room hw) hdg hf
theorem wo_runU {y : MethodName} {bytes : ByteArray} {maxL n fY lY mY sY : Nat} {rY : Option FieldType} {Qc : Array Value → State → Outcome → State → Prop} {b : Nat} {As : List Value} {st : List Value} (hC : wo_Cx E own cc nL fr lo ret nm mc ms p R s m args meth cd) (M : wo_MU own idx kd y bytes maxL rY n) (hM : Met l y (Cond.code y bytes maxL rY :: vw_WG) { frames := fY, cells := mY, slots := sY, locals := lY } (va_Pc (.ref b :: As) (wo_Ok E G)) Qc mY sY (en_A E)) (hG : wo_Se E G H) (hS : va_S (en_A E) s.heap H locs) (hk : wo_ty G b = kd) (hn : As.length = n) (hlv : ls.size = nL) (hst : st = As.reverse ++ .ref b :: rest) (hw : (rest.map fun v => v.category).sum ≤ 8) (hR : fY + 1 ≤ fr ∧ 8 + (maxL + 11) + lY ≤ lo) (hdg : decode cc pc = .ok (.invokevirtual idx, 3)) (hf : cells + mY ≤ mc ∧ slots + sY ≤ ms) :
    va_Run p l e R s m args below meth cd H locs cells slots mY sY (F0 m pc ls st) rest (Qc (Value.ref b :: As).toArray) (en_A E) := by
  obtain ⟨hx, hb, hml, hrt, hlk, hown, hts, hK, hnm, hbs, hfr, hlo, hmc, hms⟩ := hC
  subst hst; subst hfr; subst hlo; subst hmc; subst hms
  obtain ⟨m1, m2, m3, x, b0, m0, r0, c, r, hd, m4, m5, m6, m7, rfl, hr, m8⟩ := M
  obtain ⟨cell, q1, q2, q3, q4⟩ := (hG.2 b).cls hk hr
  have hgd := wo_gd y bytes maxL rY m2
  refine va_runU (nL := nL) (Ts := vw_WG) (own := own) (C := r.1) (owner := x.cls) (x := x) (ret := rY) (bytes := bytes) (maxL := maxL) (As := As) ⟨hx, hb, hml, hown, hts⟩ hM ⟨⟨rfl, rfl, hR.1, hR.2, pay_in hts hgd, List.mem_cons_self⟩, hts _ m2, hts _ m1, ⟨hd.1, hd.2.1⟩, fun sig h => ?_, hts _ m4, hts _ m5, va_Decl.of (hts _ m6) (hts _ m7), hts _ m8, hts _ m3⟩ ⟨wo_bl, ⟨cell, q1, q3, by rw [q2]; exact (hK.1.1 c r hr).2.1⟩, fun U hU hW => wo_pc hK hG hS hU hW⟩ rfl hn hlv rfl (lv_room hw) hdg hf
  have h2 := hd.2.2
  rw [h] at h2
  exact (Option.some.inj h2).symm
theorem wo_runP {y : MethodName} {bytes : ByteArray} {maxL n fY lY mY sY : Nat} {rY : Option FieldType} {Qc : Array Value → State → Outcome → State → Prop} {b : Nat} {As : List Value} {st : List Value} (hC : wo_Cx E own cc nL fr lo ret nm mc ms p R s m args meth cd) (M : wo_MP own idx kd y bytes maxL rY n) (hM : Met l y (Cond.code y bytes maxL rY :: vw_WG) { frames := fY, cells := mY, slots := sY, locals := lY } (va_Pc (.ref b :: As) (wo_Ok E G)) Qc mY sY (en_A E)) (hG : wo_Se E G H) (hS : va_S (en_A E) s.heap H locs) (hk : wo_ty G b = kd) (hn : As.length = n) (hlv : ls.size = nL) (hst : st = As.reverse ++ .ref b :: rest) (hw : (rest.map fun v => v.category).sum ≤ 8) (hR : fY + 1 ≤ fr ∧ 8 + (maxL + 11) + lY ≤ lo) (hdg : decode cc pc = .ok (.invokespecial idx, 3)) (hf : cells + mY ≤ mc ∧ slots + sY ≤ ms) :
    va_Run p l e R s m args below meth cd H locs cells slots mY sY (F0 m pc ls st) rest (Qc (Value.ref b :: As).toArray) (en_A E) := by
  obtain ⟨hx, hb, hml, hrt, hlk, hown, hts, hK, hnm, hbs, hfr, hlo, hmc, hms⟩ := hC
  subst hst; subst hfr; subst hlo; subst hmc; subst hms
  obtain ⟨⟨m1, m2, m3, m4⟩, m5, m6, m7, m8, c, r, rfl, hr⟩ := M
  obtain ⟨cell, q1, q2, q3, q4⟩ := (hG.2 b).cls hk hr
  have hgd := wo_gd y bytes maxL rY m2
  have hat := (hK.1.1 c r hr).2
  refine va_runSU (nL := nL) (Ts := vw_WG) (own := own) (C := r.1) (ret := rY) (bytes := bytes) (maxL := maxL) (As := As) hat ⟨hx, hb, hml, hown, hts⟩ hM ⟨⟨rfl, rfl, hR.1, hR.2, pay_in hts hgd, List.mem_cons_self⟩, hts _ m4, hts _ m7, hts _ m8, hts _ m5, hts _ m1, hts _ m2, m6, fun sig h => ?_⟩ ⟨wo_bl, ⟨cell, q1, q3, by rw [q2]; exact hat.1⟩, fun U hU hW => wo_pc hK hG hS hU hW⟩ rfl hn hlv rfl (lv_room hw) hdg hf
  have h2 := m3.2.2
  rw [h] at h2
  exact (Option.some.inj h2).symm
theorem wo_runN {y : MethodName} {bytes : ByteArray} {maxL n fY lY mY sY : Nat} {Qc : Array Value → State → Outcome → State → Prop} {b : Nat} {As : List Value} {st : List Value} (hC : wo_Cx E own cc nL fr lo ret nm mc ms p R s m args meth cd) (M : wo_MN own idx y bytes maxL n) (hM : Met l y (Cond.code y bytes maxL none :: vw_WG) { frames := fY, cells := mY, slots := sY, locals := lY } (va_Pc (.ref b :: As) (wo_Ok E G)) Qc mY sY (en_A E)) (hG : wo_Se E G H) (hS : va_S (en_A E) s.heap H locs) (hn : As.length = n) (hlv : ls.size = nL) (hst : st = As.reverse ++ .ref b :: rest) (hw : (rest.map fun v => v.category).sum ≤ 8) (hR : fY + 1 ≤ fr ∧ 8 + (maxL + 11) + lY ≤ lo) (hdg : decode cc pc = .ok (.invokespecial idx, 3)) (hf : cells + mY ≤ mc ∧ slots + sY ≤ ms) :
    va_Run p l e R s m args below meth cd H locs cells slots mY sY (F0 m pc ls st) rest (Qc (Value.ref b :: As).toArray) (en_A E) := by
  obtain ⟨hx, hb, hml, hrt, hlk, hown, hts, hK, hnm, hbs, hfr, hlo, hmc, hms⟩ := hC
  subst hst; subst hfr; subst hlo; subst hmc; subst hms
  obtain ⟨host, m0, m1, m2, m3, m5, m6⟩ := M
  exact va_runIN (nL := nL) (Ts := vw_WG) (own := own) (As := As) ⟨hx, hb, hml, hown, hts⟩ hM ⟨va_cnB n hts (wo_gd y bytes maxL none m2) rfl rfl rfl (hK.2.2.2.1 _ m0) (hts _ m1) m3 hR, m5, hts _ m6⟩ ⟨wo_bl, fun U hU hW => wo_pc hK hG hS hU hW⟩ rfl hn hlv rfl (lv_room hw) hdg hf
end WR
theorem lx_len : ∀ (av : List (Nat × Value)), (∀ q ∈ av, q.2.category = q.1) → (lg_sl (av.map (fun q => q.2))).length = (av.map (fun q => q.1)).sum
  | [], _ => rfl
  | (c, v) :: l, h => by
    have hc : v.category = c := h (c, v) List.mem_cons_self
    have ih := lx_len l (fun q hq => h q (List.mem_cons_of_mem _ hq))
    have e : lg_sl (((c, v) :: l).map (fun q => q.2)) = (if v.category = 2 then [.val v, .second] else [.val v]) ++ lg_sl (l.map (fun q => q.2)) := by simp [lg_sl]
    rw [e, List.length_append, ih, List.map_cons, List.sum_cons]
    rcases lv_cat v with h1 | h1
    · rw [if_neg (by omega)]; show 1 + _ = _; omega
    · rw [if_pos h1]; show 2 + _ = _; omega
theorem wo_met {l : Launch} {E : wo_E} {G : wo_W} {y : MethodName} {cc : ByteArray} {nL fr lo mc ms : Nat} {ret : Option FieldType} {Qc : Array Value → State → Outcome → State → Prop} (av : List (Nat × Value)) {vs : List Value} (hvs : av.map (fun q => q.2) = vs) (hy : plainName y.cls = true) (hav : ∀ q ∈ av, q.2.category = q.1) (hsz : (av.map (fun q => q.1)).sum ≤ nL)
    (body : ∀ (p : Program) (e : Env) (R : Room) (s : State) (m : MethodId) (args : Array Value) (below : List Frame) (meth : Method) (cd : Code) (ls : Array Slot), wo_Cx E y.cls cc nL fr lo ret y.name mc ms p R s m args meth cd → wo_Se E G s.heap → va_S (en_A E) s.heap s.heap [] → lx_has ls nL (lx_args 0 av) →
      W p l e R s m args below meth cd s.heap [] 0 0 (MQ below Qc args s mc ms (en_A E)) (F0 m 0 ls [])) :
    Met l y (Cond.code y cc nL ret :: vw_WG) { frames := fr, cells := mc, slots := ms, locals := lo } (va_Pc vs (wo_Ok E G)) Qc mc ms (en_A E) := by
  subst hvs
  refine Met.ofW (cc := cc) (maxL := nL) (ret := ret) hy rfl ?_
  intro p e s m args below meth c s₁ B hml hv
  obtain ⟨rfl, hG, hK⟩ := hv
  have hts := atoms_spec (ws := Cond.code y cc nL ret :: vw_WG) B.pre
  have hown : s.vm.findClass y.cls = some m.cls := findClass_of_methodNamed B.named
  have hn : meth.name = y.name := (name_of_methodNamed B.named B.method).1
  have hl := lv_entry (av.map (fun q => q.2)) (n := nL) (by rw [lx_len av hav]; exact hsz)
  rw [lg_entry_eq]
  generalize (lg_sl (av.map (fun q => q.2)) ++ List.replicate (nL - (lg_sl (av.map (fun q => q.2))).length) Slot.unset).toArray = ls at hl ⊢
  have hl' : lx_has ls nL (lx_args 0 av) := ⟨by rw [lx_args_lv av 0 hav]; exact hl, lx_args_cat av 0 hav⟩
  exact body p e _ s m _ below meth c ls ⟨B.exec, B.bytes, hml, B.returns, B.notSynchronized, hown, fun w hw => hts w (List.mem_cons_of_mem _ hw), hK, hn, hG.1, rfl, rfl, rfl, rfl⟩ hG va_S.rf hl'
