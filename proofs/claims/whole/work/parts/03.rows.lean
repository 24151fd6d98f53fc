def lx_has (ls : Array Slot) (nL : Nat) (l : List (Nat × Nat × Value)) : Prop := lv_has ls nL (l.map (fun q => (q.1, q.2.2))) ∧ ∀ q ∈ l, q.2.2.category = q.2.1
theorem lx_at {ls : Array Slot} {nL : Nat} {l : List (Nat × Nat × Value)} (h : lx_has ls nL l) (k : Nat) {i c : Nat} {v : Value} (hk : l[k]? = some (i, c, v)) : ls[i]? = some (.val v) :=
  h.1.2.2 (i, v) (List.mem_map.mpr ⟨(i, c, v), List.mem_of_getElem? hk, rfl⟩)
theorem lx_sz {ls : Array Slot} {nL : Nat} {l : List (Nat × Nat × Value)} (h : lx_has ls nL l) : ls.size = nL := h.1.1
theorem lx_sub {ls : Array Slot} {nL : Nat} {l l' : List (Nat × Nat × Value)} (h : lx_has ls nL l) (ks : List Nat) (hl : ks.filterMap (fun k => l[k]?) = l') : lx_has ls nL l' := by
  have hm : ∀ q ∈ l', q ∈ l := by
    intro q hq
    rw [← hl] at hq
    obtain ⟨k, -, hk⟩ := List.mem_filterMap.mp hq
    exact List.mem_of_getElem? hk
  refine ⟨⟨h.1.1, h.1.2.1, fun q hq => ?_⟩, fun q hq => h.2 q (hm q hq)⟩
  obtain ⟨x, hx, rfl⟩ := List.mem_map.mp hq
  exact h.1.2.2 _ (List.mem_map.mpr ⟨x, hm x hx, rfl⟩)
theorem lx_st1 {ls : Array Slot} {nL : Nat} {l l' : List (Nat × Nat × Value)} {i : Nat} {v : Value} (h : lx_has ls nL l) (hi : i < nL) (hc : v.category = 1) (hl : (i, 1, v) :: l.filter (fun q => !(q.1 == i) && !(q.1 + 1 == i && q.2.1 == 2)) = l') :
    ∃ ls', storeLocals ls i v = some ls' ∧ lx_has ls' nL l' := by
  obtain ⟨ls', e1, h1⟩ := lv_store1 h.1 hi hc
  refine ⟨ls', e1, ?_, ?_⟩
  · rw [← hl, List.map_cons]
    refine ⟨h1.1, h1.2.1, fun q hq => h1.2.2 q ?_⟩
    rcases List.mem_cons.mp hq with rfl | hq
    · exact List.mem_cons_self
    · refine List.mem_cons_of_mem _ ?_
      obtain ⟨x, hx, rfl⟩ := List.mem_map.mp hq
      obtain ⟨x1, x2⟩ := List.mem_filter.mp hx
      refine List.mem_filter.mpr ⟨List.mem_map.mpr ⟨x, x1, rfl⟩, ?_⟩
      show (!(x.1 == i) && !(x.1 + 1 == i && x.2.2.category == 2)) = true
      rw [h.2 x x1]
      exact x2
  · intro q hq
    rw [← hl] at hq
    rcases List.mem_cons.mp hq with rfl | hq
    · exact hc
    · exact h.2 q (List.mem_filter.mp hq).1
theorem lx_st2 {ls : Array Slot} {nL : Nat} {l l' : List (Nat × Nat × Value)} {i : Nat} {v : Value} (h : lx_has ls nL l) (hi : i + 1 < nL) (hc : v.category = 2) (hl : (i, 2, v) :: l.filter (fun q => !(q.1 == i) && (!(q.1 == i + 1) && !(q.1 + 1 == i && q.2.1 == 2))) = l') :
    ∃ ls', storeLocals ls i v = some ls' ∧ lx_has ls' nL l' := by
  obtain ⟨ls', e1, h1⟩ := lv_store2 h.1 hi hc
  refine ⟨ls', e1, ?_, ?_⟩
  · rw [← hl, List.map_cons]
    refine ⟨h1.1, h1.2.1, fun q hq => h1.2.2 q ?_⟩
    rcases List.mem_cons.mp hq with rfl | hq
    · exact List.mem_cons_self
    · refine List.mem_cons_of_mem _ ?_
      obtain ⟨x, hx, rfl⟩ := List.mem_map.mp hq
      obtain ⟨x1, x2⟩ := List.mem_filter.mp hx
      refine List.mem_filter.mpr ⟨List.mem_map.mpr ⟨x, x1, rfl⟩, ?_⟩
      show (!(x.1 == i) && (!(x.1 == i + 1) && !(x.1 + 1 == i && x.2.2.category == 2))) = true
      rw [h.2 x x1]
      exact x2
  · intro q hq
    rw [← hl] at hq
    rcases List.mem_cons.mp hq with rfl | hq
    · exact hc
    · exact h.2 q (List.mem_filter.mp hq).1
theorem lx_rk {st : List Value} {k n : Nat} (h : 2 * st.length + k ≤ n) : (st.map fun v => v.category).sum + k ≤ n := by
  have h1 : (st.map fun v => v.category).sum ≤ 2 * st.length := by
    clear h
    induction st with
    | nil => exact Nat.le_refl _
    | cons v t ih =>
      rw [List.map_cons, List.sum_cons, List.length_cons]
      rcases lv_cat v with h2 | h2 <;> omega
  omega
theorem lx_rm {st : List Value} (h : st.length ≤ 4) : (st.map fun v => v.category).sum ≤ 8 := lx_rk (k := 0) (by omega)
theorem lx_cR (r : Option Nat) : (va_rf r).category = 1 := by cases r <;> rfl
def lx_args : Nat → List (Nat × Value) → List (Nat × Nat × Value)
  | _, [] => []
  | i, (c, v) :: l => (i, c, v) :: lx_args (i + c) l
theorem lx_args_lv : ∀ (l : List (Nat × Value)) (i : Nat), (∀ q ∈ l, q.2.category = q.1) → (lx_args i l).map (fun q => (q.1, q.2.2)) = lv_args i (l.map (fun q => q.2))
  | [], _, _ => rfl
  | (c, v) :: l, i, h => by
    have hc : v.category = c := h (c, v) List.mem_cons_self
    have ih := lx_args_lv l (i + c) (fun q hq => h q (List.mem_cons_of_mem _ hq))
    rcases lv_cat v with h1 | h1
    · rw [hc] at h1; subst h1
      simp only [lx_args, List.map_cons, lv_args, hc, ih]
      simp
    · rw [hc] at h1; subst h1
      simp only [lx_args, List.map_cons, lv_args, hc, ih]
      simp
theorem lx_args_cat : ∀ (l : List (Nat × Value)) (i : Nat), (∀ q ∈ l, q.2.category = q.1) → ∀ q ∈ lx_args i l, q.2.2.category = q.2.1
  | [], _, _ => fun q hq => by cases hq
  | (c, v) :: l, i, h => by
    intro q hq
    rcases List.mem_cons.mp hq with rfl | hq
    · exact h (c, v) List.mem_cons_self
    · exact lx_args_cat l (i + c) (fun q hq => h q (List.mem_cons_of_mem _ hq)) q hq
section LX
variable {p : Program} {l : Launch} {e : Env} {R : Room} {s : State} {m : MethodId} {args : Array Value} {below : List Frame} {meth : Method} {c : Code} {H : Heap} {locs : List Loc} {cells slots : Nat} {Q : State → Prop}
variable {cc : ByteArray} {pc : Nat} {ls : Array Slot} {rest : List Value}
theorem lx_istore_n (hexec : p.tables.exec = Jvm.exec) (hb : c.code = cc) {k : Fin 4} {i nL : Nat} {x : Int32} {lv lv' : List (Nat × Nat × Value)} (hdg : decode cc pc = .ok (.istore_n k, 1)) (hi : (k : Nat) = i) (h : lx_has ls nL lv) (hn : i < nL) (hl : (i, 1, Value.int x) :: lv.filter (fun q => !(q.1 == i) && !(q.1 + 1 == i && q.2.1 == 2)) = lv')
    (kk : ∀ ls' : Array Slot, lx_has ls' nL lv' → W p l e R s m args below meth c H locs cells slots Q (F0 m (pc + 1) ls' rest)) : W p l e R s m args below meth c H locs cells slots Q (F0 m pc ls (.int x :: rest)) := by
  subst hi
  obtain ⟨ls', e', h'⟩ := lx_st1 (v := .int x) h hn rfl hl
  intro T hT X
  obtain ⟨t, a, b⟩ := kk ls' h' T hT X
  refine ⟨t, ?_, b⟩
  jvm_step X.here [X.here.top, ↓top_set X.here.top, hexec, hb, hdg, e']
  exact a
theorem lx_istore (hexec : p.tables.exec = Jvm.exec) (hb : c.code = cc) {i nL : Nat} {x : Int32} {lv lv' : List (Nat × Nat × Value)} (hdg : decode cc pc = .ok (.istore i, 2)) (h : lx_has ls nL lv) (hn : i < nL) (hl : (i, 1, Value.int x) :: lv.filter (fun q => !(q.1 == i) && !(q.1 + 1 == i && q.2.1 == 2)) = lv')
    (kk : ∀ ls' : Array Slot, lx_has ls' nL lv' → W p l e R s m args below meth c H locs cells slots Q (F0 m (pc + 2) ls' rest)) : W p l e R s m args below meth c H locs cells slots Q (F0 m pc ls (.int x :: rest)) := by
  obtain ⟨ls', e', h'⟩ := lx_st1 (v := .int x) h hn rfl hl
  intro T hT X
  obtain ⟨t, a, b⟩ := kk ls' h' T hT X
  refine ⟨t, ?_, b⟩
  jvm_step X.here [X.here.top, ↓top_set X.here.top, hexec, hb, hdg, e']
  exact a
theorem lx_lstore_n (hexec : p.tables.exec = Jvm.exec) (hb : c.code = cc) {k : Fin 4} {i nL : Nat} {x : Int64} {lv lv' : List (Nat × Nat × Value)} (hdg : decode cc pc = .ok (.lstore_n k, 1)) (hi : (k : Nat) = i) (h : lx_has ls nL lv) (hn : i + 1 < nL) (hl : (i, 2, Value.long x) :: lv.filter (fun q => !(q.1 == i) && (!(q.1 == i + 1) && !(q.1 + 1 == i && q.2.1 == 2))) = lv')
    (kk : ∀ ls' : Array Slot, lx_has ls' nL lv' → W p l e R s m args below meth c H locs cells slots Q (F0 m (pc + 1) ls' rest)) : W p l e R s m args below meth c H locs cells slots Q (F0 m pc ls (.long x :: rest)) := by
  subst hi
  obtain ⟨ls', e', h'⟩ := lx_st2 (v := .long x) h hn rfl hl
  intro T hT X
  obtain ⟨t, a, b⟩ := kk ls' h' T hT X
  refine ⟨t, ?_, b⟩
  jvm_step X.here [X.here.top, ↓top_set X.here.top, hexec, hb, hdg, e']
  exact a
theorem lx_lstore (hexec : p.tables.exec = Jvm.exec) (hb : c.code = cc) {i nL : Nat} {x : Int64} {lv lv' : List (Nat × Nat × Value)} (hdg : decode cc pc = .ok (.lstore i, 2)) (h : lx_has ls nL lv) (hn : i + 1 < nL) (hl : (i, 2, Value.long x) :: lv.filter (fun q => !(q.1 == i) && (!(q.1 == i + 1) && !(q.1 + 1 == i && q.2.1 == 2))) = lv')
    (kk : ∀ ls' : Array Slot, lx_has ls' nL lv' → W p l e R s m args below meth c H locs cells slots Q (F0 m (pc + 2) ls' rest)) : W p l e R s m args below meth c H locs cells slots Q (F0 m pc ls (.long x :: rest)) := by
  obtain ⟨ls', e', h'⟩ := lx_st2 (v := .long x) h hn rfl hl
  intro T hT X
  obtain ⟨t, a, b⟩ := kk ls' h' T hT X
  refine ⟨t, ?_, b⟩
  jvm_step X.here [X.here.top, ↓top_set X.here.top, hexec, hb, hdg, e']
  exact a
theorem lx_astoreR_n (hexec : p.tables.exec = Jvm.exec) (hb : c.code = cc) {k : Fin 4} {i nL : Nat} {r : Option Nat} {lv lv' : List (Nat × Nat × Value)} (hdg : decode cc pc = .ok (.astore_n k, 1)) (hi : (k : Nat) = i) (h : lx_has ls nL lv) (hn : i < nL) (hl : (i, 1, va_rf r) :: lv.filter (fun q => !(q.1 == i) && !(q.1 + 1 == i && q.2.1 == 2)) = lv')
    (kk : ∀ ls' : Array Slot, lx_has ls' nL lv' → W p l e R s m args below meth c H locs cells slots Q (F0 m (pc + 1) ls' rest)) : W p l e R s m args below meth c H locs cells slots Q (F0 m pc ls (va_rf r :: rest)) := by
  subst hi
  obtain ⟨ls', e', h'⟩ := lx_st1 (v := va_rf r) h hn (lx_cR r) hl
  intro T hT X
  obtain ⟨t, a, b⟩ := kk ls' h' T hT X
  refine ⟨t, ?_, b⟩
  cases r <;> simp only [va_rf] at e' ⊢ <;> (jvm_step X.here [X.here.top, ↓top_set X.here.top, hexec, hb, hdg, e', Value.isRef]; exact a)
theorem lx_astoreR (hexec : p.tables.exec = Jvm.exec) (hb : c.code = cc) {i nL : Nat} {r : Option Nat} {lv lv' : List (Nat × Nat × Value)} (hdg : decode cc pc = .ok (.astore i, 2)) (h : lx_has ls nL lv) (hn : i < nL) (hl : (i, 1, va_rf r) :: lv.filter (fun q => !(q.1 == i) && !(q.1 + 1 == i && q.2.1 == 2)) = lv')
    (kk : ∀ ls' : Array Slot, lx_has ls' nL lv' → W p l e R s m args below meth c H locs cells slots Q (F0 m (pc + 2) ls' rest)) : W p l e R s m args below meth c H locs cells slots Q (F0 m pc ls (va_rf r :: rest)) := by
  obtain ⟨ls', e', h'⟩ := lx_st1 (v := va_rf r) h hn (lx_cR r) hl
  intro T hT X
  obtain ⟨t, a, b⟩ := kk ls' h' T hT X
  refine ⟨t, ?_, b⟩
  cases r <;> simp only [va_rf] at e' ⊢ <;> (jvm_step X.here [X.here.top, ↓top_set X.here.top, hexec, hb, hdg, e', Value.isRef]; exact a)
theorem lx_astore_n (hexec : p.tables.exec = Jvm.exec) (hb : c.code = cc) {k : Fin 4} {i nL : Nat} {x : Nat} {lv lv' : List (Nat × Nat × Value)} (hdg : decode cc pc = .ok (.astore_n k, 1)) (hi : (k : Nat) = i) (h : lx_has ls nL lv) (hn : i < nL) (hl : (i, 1, Value.ref x) :: lv.filter (fun q => !(q.1 == i) && !(q.1 + 1 == i && q.2.1 == 2)) = lv')
    (kk : ∀ ls' : Array Slot, lx_has ls' nL lv' → W p l e R s m args below meth c H locs cells slots Q (F0 m (pc + 1) ls' rest)) : W p l e R s m args below meth c H locs cells slots Q (F0 m pc ls (.ref x :: rest)) :=
  lx_astoreR_n (r := some x) hexec hb hdg hi h hn hl kk
theorem lx_astore (hexec : p.tables.exec = Jvm.exec) (hb : c.code = cc) {i nL : Nat} {x : Nat} {lv lv' : List (Nat × Nat × Value)} (hdg : decode cc pc = .ok (.astore i, 2)) (h : lx_has ls nL lv) (hn : i < nL) (hl : (i, 1, Value.ref x) :: lv.filter (fun q => !(q.1 == i) && !(q.1 + 1 == i && q.2.1 == 2)) = lv')
    (kk : ∀ ls' : Array Slot, lx_has ls' nL lv' → W p l e R s m args below meth c H locs cells slots Q (F0 m (pc + 2) ls' rest)) : W p l e R s m args below meth c H locs cells slots Q (F0 m pc ls (.ref x :: rest)) :=
  lx_astoreR (r := some x) hexec hb hdg h hn hl kk
theorem lx_astoreN_n (hexec : p.tables.exec = Jvm.exec) (hb : c.code = cc) {k : Fin 4} {i nL : Nat} {lv lv' : List (Nat × Nat × Value)} (hdg : decode cc pc = .ok (.astore_n k, 1)) (hi : (k : Nat) = i) (h : lx_has ls nL lv) (hn : i < nL) (hl : (i, 1, Value.null) :: lv.filter (fun q => !(q.1 == i) && !(q.1 + 1 == i && q.2.1 == 2)) = lv')
    (kk : ∀ ls' : Array Slot, lx_has ls' nL lv' → W p l e R s m args below meth c H locs cells slots Q (F0 m (pc + 1) ls' rest)) : W p l e R s m args below meth c H locs cells slots Q (F0 m pc ls (.null :: rest)) :=
  lx_astoreR_n (r := none) hexec hb hdg hi h hn hl kk
theorem lx_astoreN (hexec : p.tables.exec = Jvm.exec) (hb : c.code = cc) {i nL : Nat} {lv lv' : List (Nat × Nat × Value)} (hdg : decode cc pc = .ok (.astore i, 2)) (h : lx_has ls nL lv) (hn : i < nL) (hl : (i, 1, Value.null) :: lv.filter (fun q => !(q.1 == i) && !(q.1 + 1 == i && q.2.1 == 2)) = lv')
    (kk : ∀ ls' : Array Slot, lx_has ls' nL lv' → W p l e R s m args below meth c H locs cells slots Q (F0 m (pc + 2) ls' rest)) : W p l e R s m args below meth c H locs cells slots Q (F0 m pc ls (.null :: rest)) :=
  lx_astoreR (r := none) hexec hb hdg h hn hl kk
theorem lx_aloadR_n (hexec : p.tables.exec = Jvm.exec) (hb : c.code = cc) {k : Fin 4} {i : Nat} {r : Option Nat} (hdg : decode cc pc = .ok (.aload_n k, 1)) (hi : (k : Nat) = i) (hl : ls[i]? = some (.val (va_rf r)))
    (k : W p l e R s m args below meth c H locs cells slots Q (F0 m (pc + 1) ls (va_rf r :: rest))) : W p l e R s m args below meth c H locs cells slots Q (F0 m pc ls rest) := by
  cases r with
  | none => exact lv_aload_nN hexec hb hdg hi hl k
  | some x => exact lv_aload_n hexec hb hdg hi hl k
theorem lx_aloadR (hexec : p.tables.exec = Jvm.exec) (hb : c.code = cc) {i : Nat} {r : Option Nat} (hdg : decode cc pc = .ok (.aload i, 2)) (hl : ls[i]? = some (.val (va_rf r)))
    (k : W p l e R s m args below meth c H locs cells slots Q (F0 m (pc + 2) ls (va_rf r :: rest))) : W p l e R s m args below meth c H locs cells slots Q (F0 m pc ls rest) := by
  cases r with
  | none => exact lv_aloadN hexec hb hdg hl k
  | some x => exact lv_aload hexec hb hdg hl k
theorem lx_iinc (hexec : p.tables.exec = Jvm.exec) (hb : c.code = cc) {i nL k cat : Nat} {n : Int} {x v : Int32} {lv lv' : List (Nat × Nat × Value)} (hdg : decode cc pc = .ok (.iinc i n, 3)) (h : lx_has ls nL lv) (hk : lv[k]? = some (i, cat, .int x)) (hv : x + Int32.ofInt n = v) (hn : i < nL) (hl : (i, 1, Value.int v) :: lv.filter (fun q => !(q.1 == i) && !(q.1 + 1 == i && q.2.1 == 2)) = lv')
    (kk : ∀ ls' : Array Slot, lx_has ls' nL lv' → W p l e R s m args below meth c H locs cells slots Q (F0 m (pc + 3) ls' rest)) : W p l e R s m args below meth c H locs cells slots Q (F0 m pc ls rest) := by
  subst hv
  have hg := lx_at h k hk
  obtain ⟨ls', e', h'⟩ := lx_st1 (v := .int (x + Int32.ofInt n)) h hn rfl hl
  intro T hT X
  obtain ⟨t, a, b⟩ := kk ls' h' T hT X
  refine ⟨t, ?_, b⟩
  jvm_step X.here [X.here.top, ↓top_set X.here.top, hexec, hb, hdg, hg, e']
  exact a
theorem lx_ifnull (hexec : p.tables.exec = Jvm.exec) (hb : c.code = cc) {r : Option Nat} {off : Int} {tgt : Nat} (hdg : decode cc pc = .ok (.ifnull off, 3)) (ht : (pc : Int) + off = (tgt : Int))
    (k0 : r = none → W p l e R s m args below meth c H locs cells slots Q (F0 m tgt ls rest)) (k1 : ∀ x : Nat, r = some x → W p l e R s m args below meth c H locs cells slots Q (F0 m (pc + 3) ls rest)) : W p l e R s m args below meth c H locs cells slots Q (F0 m pc ls (va_rf r :: rest)) := by
  cases r with
  | none => exact lv_ifnullN hexec hb hdg ht (k0 rfl)
  | some x => exact lv_ifnull hexec hb hdg (k1 x rfl)
theorem lx_ifnonnull (hexec : p.tables.exec = Jvm.exec) (hb : c.code = cc) {r : Option Nat} {off : Int} {tgt : Nat} (hdg : decode cc pc = .ok (.ifnonnull off, 3)) (ht : (pc : Int) + off = (tgt : Int))
    (k0 : r = none → W p l e R s m args below meth c H locs cells slots Q (F0 m (pc + 3) ls rest)) (k1 : ∀ x : Nat, r = some x → W p l e R s m args below meth c H locs cells slots Q (F0 m tgt ls rest)) : W p l e R s m args below meth c H locs cells slots Q (F0 m pc ls (va_rf r :: rest)) := by
  cases r with
  | none => exact lv_ifnonnullN hexec hb hdg (k0 rfl)
  | some x => exact lv_ifnonnull hexec hb hdg ht (k1 x rfl)
theorem lx_out {x : Int32} : ∀ (n : Nat) (lo : Int), (∀ k : Nat, k < n → ¬ x.toInt = lo + k) → x.toInt < lo ∨ lo + n ≤ x.toInt
  | 0, lo, _ => by omega
  | n + 1, lo, h => by
    have ih := lx_out n lo (fun k hk => h k (by omega))
    have := h n (by omega)
    omega
end LX
