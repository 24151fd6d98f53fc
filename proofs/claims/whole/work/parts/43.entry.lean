theorem sx_inst : ∀ (c : Nat) (r : vw_C), vw_Cl[c]? = some r → ∃ n : Nat, Cond.instantiable r.1 n ∈ vw_WG
  | 0, r, h => by cases h; exact ⟨_, (wg_t 31 rfl rfl)⟩
  | 1, r, h => by cases h; exact ⟨_, (wg_t 41 rfl rfl)⟩
  | 2, r, h => by cases h; exact ⟨_, (wg_t 47 rfl rfl)⟩
  | 3, r, h => by cases h; exact ⟨_, (wg_t 81 rfl rfl)⟩
  | 4, r, h => by cases h; exact ⟨_, (wg_t 87 rfl rfl)⟩
  | 5, r, h => by cases h; exact ⟨_, (wg_t 138 rfl rfl)⟩
  | 6, r, h => by cases h; exact ⟨_, (wg_t 162 rfl rfl)⟩
  | 7, r, h => by cases h; exact ⟨_, (wg_t 168 rfl rfl)⟩
  | 8, r, h => by cases h; exact ⟨_, (wg_t 176 rfl rfl)⟩
  | 9, r, h => by cases h; exact ⟨_, (wg_t 438 rfl rfl)⟩
  | 10, r, h => by cases h; exact ⟨_, (wg_t 806 rfl rfl)⟩
  | 11, r, h => by cases h; exact ⟨_, (wg_t 887 rfl rfl)⟩
  | 12, r, h => by cases h; exact ⟨_, (wg_t 954 rfl rfl)⟩
  | 13, r, h => by cases h; exact ⟨_, (wg_t 1112 rfl rfl)⟩
  | 14, r, h => by cases h; exact ⟨_, (wg_t 1299 rfl rfl)⟩
  | n + 15, r, h => by
    have := (List.getElem?_eq_some_iff.mp h).1
    have h2 : vw_Cl.length = 15 := rfl
    omega
section SY
variable {args : Array Value} {s : State}
theorem sx_hts (hts : ∀ w ∈ lw_tbl, w.before args s = true) : ∀ w ∈ vw_WG, w.before args s = true := by
  intro w hw
  rcases List.mem_append.mp hw with h | h
  · have key : ∀ y : MethodName, y.cls = "java/lang/AbstractStringBuilder" → Cond.privateMethod y ∈ lw_tbl → Cond.instanceMethod y ∈ lw_tbl → (Cond.selects "java/lang/StringBuilder" y y).before args s = true := fun y h1 h2 h3 => wo_sel2 (x0 := ⟨"java/lang/AbstractStringBuilder", "isLatin1", "()Z"⟩) (y0 := ⟨"java/lang/AbstractStringBuilder", "isLatin1", "()Z"⟩) (hts _ (List.mem_append_right _ (vw_at_in (n := 383) rfl))) (by rw [h1]) (by rw [h1]; exact ⟨by decide +kernel, by decide +kernel⟩) (hts _ h2) (hts _ h3)
    unfold vw_S2 at h
    simp only [List.mem_cons, List.not_mem_nil, or_false] at h
    rcases h with rfl | rfl | rfl | rfl | rfl | rfl
    · exact key _ rfl (List.mem_append_right _ (vw_at_in (n := 350) rfl)) (List.mem_append_right _ (vw_at_in (n := 351) rfl))
    · exact key _ rfl (List.mem_append_right _ (vw_at_in (n := 354) rfl)) (List.mem_append_right _ (vw_at_in (n := 355) rfl))
    · exact key _ rfl (List.mem_append_right _ (vw_at_in (n := 389) rfl)) (List.mem_append_right _ (vw_at_in (n := 390) rfl))
    · exact key _ rfl (List.mem_append_right _ (vw_at_in (n := 686) rfl)) (List.mem_append_right _ (vw_at_in (n := 687) rfl))
    · exact key _ rfl (List.mem_append_right _ (vw_at_in (n := 694) rfl)) (List.mem_append_right _ (vw_at_in (n := 695) rfl))
    · exact key _ rfl (List.mem_append_right _ (vw_at_in (n := 698) rfl)) (List.mem_append_right _ (vw_at_in (n := 699) rfl))
  · exact hts w (List.mem_filter.mp h).1
theorem sx_arrC (hts : ∀ w ∈ lw_tbl, w.before args s = true) : ∀ j : Nat, ∃ cA : ClassId, ∀ ty : FieldType, vw_Ar[j]? = some ty → ArrOfT s cA ty ∧ va_RA s cA ty := by
  intro j
  match j with
    | 0 =>
      obtain ⟨comp, c, k, h1, h2, h3, h4, h5⟩ := Cond.arrayOver_spec (hts (Cond.arrayOver (.object "EdgeCache$Connection")) (List.mem_append_right _ (vw_at_in (n := 39) rfl)))
      exact ⟨c, fun ty ht => by cases ht; exact ⟨fun n z => ⟨(fun k h => by cases h), k, h3, comp, h4⟩, k, comp, h3, h4, h1, h5⟩⟩
    | 1 =>
      obtain ⟨c, k, comp, h1, h3, h4⟩ := Cond.arrayClass_spec (hts (Cond.arrayClass (.byte)) (List.mem_append_right _ (vw_at_in (n := 118) rfl)))
      exact ⟨c, fun ty ht => by cases ht; exact ⟨fun n z => ⟨(fun k h => by cases h), k, h3, comp, h4⟩, h1⟩⟩
    | 2 =>
      obtain ⟨c, k, comp, h1, h3, h4⟩ := Cond.arrayClass_spec (hts (Cond.arrayClass (.int)) (List.mem_append_right _ (vw_at_in (n := 132) rfl)))
      exact ⟨c, fun ty ht => by cases ht; exact ⟨fun n z => ⟨(fun k h => by cases h), k, h3, comp, h4⟩, h1⟩⟩
    | 3 =>
      obtain ⟨comp, c, k, h1, h2, h3, h4, h5⟩ := Cond.arrayOver_spec (hts (Cond.arrayOver (.object "EdgeCache$Job")) (List.mem_append_right _ (vw_at_in (n := 134) rfl)))
      exact ⟨c, fun ty ht => by cases ht; exact ⟨fun n z => ⟨(fun k h => by cases h), k, h3, comp, h4⟩, k, comp, h3, h4, h1, h5⟩⟩
    | 4 =>
      obtain ⟨comp, c, k, h1, h2, h3, h4, h5⟩ := Cond.arrayOver_spec (hts (Cond.arrayOver (.object "EdgeCache$Request")) (List.mem_append_right _ (vw_at_in (n := 270) rfl)))
      exact ⟨c, fun ty ht => by cases ht; exact ⟨fun n z => ⟨(fun k h => by cases h), k, h3, comp, h4⟩, k, comp, h3, h4, h1, h5⟩⟩
    | 5 =>
      obtain ⟨c, k, comp, h1, h3, h4⟩ := Cond.arrayClass_spec (hts (Cond.arrayClass (.char)) (List.mem_append_right _ (vw_at_in (n := 296) rfl)))
      exact ⟨c, fun ty ht => by cases ht; exact ⟨fun n z => ⟨(fun k h => by cases h), k, h3, comp, h4⟩, h1⟩⟩
    | 6 =>
      obtain ⟨comp, c, k, h1, h2, h3, h4, h5⟩ := Cond.arrayOver_spec (hts (Cond.arrayOver (.object "EdgeCache$Representation")) (List.mem_append_right _ (vw_at_in (n := 893) rfl)))
      exact ⟨c, fun ty ht => by cases ht; exact ⟨fun n z => ⟨(fun k h => by cases h), k, h3, comp, h4⟩, k, comp, h3, h4, h1, h5⟩⟩
    | 7 =>
      obtain ⟨comp, c, k, h1, h2, h3, h4, h5⟩ := Cond.arrayOver_spec (hts (Cond.arrayOver (.object "java/lang/Object")) (List.mem_append_right _ (vw_at_in (n := 945) rfl)))
      exact ⟨c, fun ty ht => by cases ht; exact ⟨fun n z => ⟨(fun k h => by cases h), k, h3, comp, h4⟩, k, comp, h3, h4, h1, h5⟩⟩
    | 8 =>
      obtain ⟨c, k, comp, h1, h3, h4⟩ := Cond.arrayClass_spec (hts (Cond.arrayClass (.boolean)) (List.mem_append_right _ (vw_at_in (n := 1491) rfl)))
      exact ⟨c, fun ty ht => by cases ht; exact ⟨fun n z => ⟨(fun k h => by cases h), k, h3, comp, h4⟩, h1⟩⟩
    | 9 =>
      obtain ⟨c, k, comp, h1, h3, h4⟩ := Cond.arrayClass_spec (hts (Cond.arrayClass (.long)) (List.mem_append_right _ (vw_at_in (n := 1492) rfl)))
      exact ⟨c, fun ty ht => by cases ht; exact ⟨fun n z => ⟨(fun k h => by cases h), k, h3, comp, h4⟩, h1⟩⟩
    | n + 10 => exact ⟨0, fun ty h => by have := (List.getElem?_eq_some_iff.mp h).1; have h2 : vw_Ar.length = 10 := rfl; omega⟩
end SY
def sx_0 (E : wo_E) (G : wo_W) (b L : Nat) (xs : Nat → Int32) : Prop :=
  (b < en_bs E ∧ wo_ty G b = 66 ∧ wo_len G b = L ∧ ∀ i, i < L → wo_ei G b i = xs i) ∧
  (∀ i, i < 19 → en_str E i < en_bs E ∧ wo_ty G (en_str E i) = 10 ∧ wo_gi G 577 (en_str E i) = 0 ∧ ∃ v : Nat, v < en_bs E ∧ wo_gr G 576 (en_str E i) = some v ∧ wo_ty G v = 65 ∧ wo_len G v = (sx_by i).length ∧ ∀ j, j < (sx_by i).length → wo_ei G v j = (sx_by i).getD j 0) ∧
  (en_sta E 1 < en_bs E ∧ wo_ty G (en_sta E 1) = 65 ∧ wo_len G (en_sta E 1) = 100 ∧ ∀ j, j < 100 → wo_ei G (en_sta E 1) j = Int32.ofNat (48 + j % 10)) ∧
  (en_sta E 2 < en_bs E ∧ wo_ty G (en_sta E 2) = 65 ∧ wo_len G (en_sta E 2) = 100 ∧ ∀ j, j < 100 → wo_ei G (en_sta E 2) j = Int32.ofNat (48 + j / 10)) ∧
  (en_sta E 0 < en_bs E ∧ wo_ty G (en_sta E 0) = 71 ∧ wo_len G (en_sta E 0) = 0) ∧ ∀ a, en_bs E ≤ a → wo_ty G a = 0
theorem sx_rdA {s : State} {a N : Nat} {ty : FieldType} {f : Nat → Value} (hN : N < 2 ^ 31) (h : va_T ty a N f (sx_A s) s s.heap) : a < s.heap.size ∧ hp_n s.heap a = N ∧ ∀ i, i < N → ∀ x : Int32, f i = .int x → hp_i s.heap a i = x := by
  obtain ⟨cell, q1, q2, q3, q4, q5, q6, q7⟩ := h
  refine ⟨(Array.getElem?_eq_some_iff.mp q1).1, by simp only [hp_n, q1, q5]; exact sx_nI hN, fun i hi x hx => ?_⟩
  simp only [hp_i, hp_c, q1, Option.bind_some, q6 i hi, hx]

theorem sx_ref {args : Array Value} {s : State} {C n d : String} {A : Nat → Prop} (hl : (Cond.laysStatic C n d).before args s = true) (hini : (Cond.initialized C).before args s = true) (hr : (Cond.isRef (.static C n d)).before args s = true) (hA : ∀ a : Nat, a < s.heap.size → ¬ A a) : ∃ x : Option Nat, va_Z C n d (va_rf x) A s s.heap := by
  obtain ⟨v, hv, hv2⟩ := Cond.isRef_spec hr
  cases v with
  | null => exact ⟨none, va_Zof hl hini hv hA⟩
  | ref a => exact ⟨some a, va_Zof hl hini hv hA⟩
  | _ => cases hv2
set_option maxRecDepth 100000 in
set_option maxHeartbeats 4000000 in
theorem sx_start {p : Program} {s : State} {m : MethodId} {meth : Method} {c : Code} {b L : Nat} {xs : Nat → Int32} (hL : L ≤ 2049) (C0 : lw_At p s m meth c b L xs) : ∃ (E : wo_E) (G : wo_W), en_bs E = s.heap.size ∧ wo_Se E G s.heap ∧ wo_Kn E s ∧ sx_0 E G b L xs := by
  obtain ⟨hx, hb, hr, hml, hown, hts, hX, hbl, hlk, hgv⟩ := C0
  have hs := flat_of_before _ hgv
  have hA : ∀ a : Nat, a < s.heap.size → ¬ sx_A s a := fun a h q => Nat.not_le.mpr h q
  have hw := sx_hts hts
  obtain ⟨⟨t1, e1, T1⟩, ⟨t2, e2, T2⟩, ⟨t3, e3, T3⟩⟩ := sx_arrs hs
  have hcls : ∀ c : Nat, ∃ q : ClassId × (Nat → Nat), ∀ r : vw_C, vw_Cl[c]? = some r → u_Kn s r.1 r.2.1 r.2.2 q.1 q.2 := by
    intro c
    cases hc : vw_Cl[c]? with
    | none => exact ⟨(0, fun _ => 0), fun r h => by cases h⟩
    | some r =>
      obtain ⟨n, hn⟩ := sx_inst c r hc
      obtain ⟨cC, iS, h⟩ := u_known hw (vt_ws c r hc) (hw _ hn)
      exact ⟨(cC, iS), fun r' h' => by cases h'; exact h⟩
  obtain ⟨dq, hdq⟩ := Classical.axiomOfChoice hcls
  obtain ⟨dA, hdA⟩ := Classical.axiomOfChoice (sx_arrC hts)
  have hst : ∀ i : Nat, ∃ q : Nat × Nat, i < 19 → (sx_tm i).eval #[Value.ref b] s none [] s = some (.ref q.1) ∧ va_O "java/lang/String" q.1 (sx_A s) s s.heap ∧ va_OF "java/lang/String" "coder" "B" (.int 0) q.1 (sx_A s) s s.heap ∧ va_OF "java/lang/String" "value" "[B" (.ref q.2) q.1 (sx_A s) s s.heap ∧ va_T .byte q.2 (sx_by i).length (fun j => .int ((sx_by i).getD j 0)) (sx_A s) s s.heap := by
    intro i
    by_cases hi : i < 19
    · obtain ⟨q, h⟩ := sx_one hs i hi
      exact ⟨q, fun _ => h⟩
    · exact ⟨(0, 0), fun h => absurd h hi⟩
  obtain ⟨sq, hsq⟩ := Classical.axiomOfChoice hst
  obtain ⟨mi, hmi⟩ := va_Mi.of (hs _ (List.mem_of_getElem? (i := 234) (by decide +kernel) : Cond.isRef (.mirror vw_Mc) ∈ sx_fl))
  let P : Nat → Prop := fun a => a = b ∨ (∃ i, i < 19 ∧ (a = (sq i).1 ∨ a = (sq i).2)) ∨ a = t1 ∨ a = t2 ∨ a = t3
  let E : wo_E := (fun c => (dq c).1, fun c => (dq c).2, dA, s.heap.size, sx_ca s P, sx_cc s, fun i => (sq i).1, fun j => if j = 1 then t1 else if j = 2 then t2 else t3, mi)
  have hKA : va_K (en_dC E, en_dI E) vw_Cl (en_tys E) s := by
    refine ⟨fun c q hc => hdq c q hc, fun k q hk => ?_⟩
    simp only [en_tys, List.getElem?_map, List.getElem?_zipIdx, Option.map_eq_some_iff] at hk
    obtain ⟨x, ⟨y, hy, rfl⟩, rfl⟩ := hk
    have h9 := hdA k y hy
    simp only [Nat.zero_add]
    exact h9
  have hbA : sx_isA s b 66 .int := by
    obtain ⟨scr, q1, q2, q3, q4, q5⟩ := hX
    exact ⟨L, fun j => .int (xs j), by omega, fun i _ => ⟨_, rfl⟩, ⟨scr, q1, q2, q3, Nat.le_of_eq q4.symm, by rw [q4], q5, hA b hbl⟩, Or.inl ⟨rfl, rfl⟩⟩
  have hvA : ∀ i, i < 19 → sx_isA s (sq i).2 65 .byte := fun i hi => ⟨_, _, sx_in6 i hi, fun j _ => ⟨_, rfl⟩, (hsq i hi).2.2.2.2, Or.inr (Or.inl ⟨rfl, rfl⟩)⟩
  have hsS : ∀ i, i < 19 → sx_isS s (sq i).1 := fun i hi => ⟨_, (hsq i hi).2.1, (hsq i hi).2.2.1, (hsq i hi).2.2.2.1⟩
  have h1A : sx_isA s t1 65 .byte := ⟨_, _, by decide, fun j _ => ⟨_, rfl⟩, T1, Or.inr (Or.inl ⟨rfl, rfl⟩)⟩
  have h2A : sx_isA s t2 65 .byte := ⟨_, _, by decide, fun j _ => ⟨_, rfl⟩, T2, Or.inr (Or.inl ⟨rfl, rfl⟩)⟩
  have h3A : sx_isA s t3 71 (.object "java/lang/Object") := ⟨_, _, by decide, fun j h => absurd h (Nat.not_lt_zero _), T3, Or.inr (Or.inr ⟨rfl, rfl, rfl⟩)⟩
  have hP : ∀ a, P a → sx_isS s a ∨ ∃ (k : Nat) (ty : FieldType), sx_isA s a k ty := by
    intro a ha
    rcases ha with rfl | ⟨i, hi, rfl | rfl⟩ | rfl | rfl | rfl
    · exact Or.inr ⟨_, _, hbA⟩
    · exact Or.inl (hsS i hi)
    · exact Or.inr ⟨_, _, hvA i hi⟩
    · exact Or.inr ⟨_, _, h1A⟩
    · exact Or.inr ⟨_, _, h2A⟩
    · exact Or.inr ⟨_, _, h3A⟩
  have hS9 : u_Kn s "java/lang/String" (fun k => vw_F9.getD k ("", "", "", false)) 4 (en_dC E 9) (en_dI E 9) := hdq 9 _ rfl
  have hSe : wo_Se E (sx_G s P (en_dI E)) s.heap := sx_Se rfl rfl rfl hS9 hP
  have kd : ∀ {a k : Nat} {ty : FieldType}, P a → sx_isA s a k ty → wo_ty (sx_G s P (en_dI E)) a = k := fun hp h => (sx_in (s := s) hp).trans (sx_ckA h).1
  refine ⟨E, sx_G s P (en_dI E), rfl, hSe, ⟨hKA, fun a j ty ha hj hc => ?_, ?_⟩, ?_⟩
  · have hj10 : j < vw_Ar.length := (List.getElem?_eq_some_iff.mp hj).1
    have hl10 : vw_Ar.length = 10 := rfl
    have hc : sx_ca s P a = j := hc
    have hk : sx_kd s P a = 64 + j := by
      simp only [sx_ca] at hc
      split at hc <;> omega
    obtain ⟨hp, hck⟩ := sx_pos (s := s) (P := P) (a := a) (by omega)
    rcases hP a hp with hS | ⟨k, ty', hA'⟩
    · have := sx_ckS hS9.2 hS
      omega
    · obtain ⟨h1, cell, h2, h3⟩ := sx_ckA hA'
      obtain ⟨N, f, -, -, -, h4⟩ := hA'
      have hty : ty' = ty := by
        rcases h4 with ⟨rfl, rfl⟩ | ⟨rfl, rfl⟩ | ⟨rfl, rfl, -⟩
        · have : j = 2 := by omega
          subst this; cases hj; rfl
        · have : j = 1 := by omega
          subst this; cases hj; rfl
        · have : j = 7 := by omega
          subst this; cases hj; rfl
      subst hty
      have hcl : en_cc E a = cell.cls := by show sx_cc s a = cell.cls; simp only [sx_cc, h2]
      rw [hcl]
      obtain ⟨-, kc, q1, comp, q2⟩ := h3
      exact fun n z => ⟨(fun k h => by cases h), kc, q1, comp, q2⟩
  · refine ⟨?_, ?_, ?_, ?_, ?_, ?_, hmi, va_Dc.of (hts _ (List.mem_append_right _ (vw_at_in (n := 1774) rfl))), ?_⟩
    · exact List.forall_mem_cons.mpr ⟨va_Nw.of rfl (hts _ (List.mem_append_right _ (vw_at_in (n := 374) rfl))), List.forall_mem_cons.mpr ⟨va_Nw.of rfl (hts _ (List.mem_append_right _ (vw_at_in (n := 1769) rfl))), List.forall_mem_cons.mpr ⟨va_Nw.of rfl (hts _ (List.mem_append_right _ (vw_at_in (n := 1770) rfl))), List.forall_mem_cons.mpr ⟨va_Nw.of rfl (hts _ (List.mem_append_right _ (vw_at_in (n := 1771) rfl))), List.forall_mem_cons.mpr ⟨va_Nw.of rfl (hts _ (List.mem_append_right _ (vw_at_in (n := 1775) rfl))), List.forall_mem_cons.mpr ⟨va_Nw.of rfl (hts _ (List.mem_append_right _ (vw_at_in (n := 1776) rfl))), List.forall_mem_cons.mpr ⟨va_Nw.of rfl (hts _ (List.mem_append_right _ (vw_at_in (n := 1777) rfl))), List.forall_mem_cons.mpr ⟨va_Nw.of rfl (hts _ (List.mem_append_right _ (vw_at_in (n := 1778) rfl))), List.forall_mem_cons.mpr ⟨va_Nw.of rfl (hts _ (List.mem_append_right _ (vw_at_in (n := 1779) rfl))), List.forall_mem_cons.mpr ⟨va_Nw.of rfl (hts _ (List.mem_append_right _ (vw_at_in (n := 1780) rfl))), List.forall_mem_cons.mpr ⟨va_Nw.of rfl (hts _ (List.mem_append_right _ (vw_at_in (n := 1781) rfl))), List.forall_mem_cons.mpr ⟨va_Nw.of rfl (hts _ (List.mem_append_right _ (vw_at_in (n := 1782) rfl))), List.forall_mem_cons.mpr ⟨va_Nw.of rfl (hts _ (List.mem_append_right _ (vw_at_in (n := 1783) rfl))), List.forall_mem_cons.mpr ⟨va_Nw.of rfl (hts _ (List.mem_append_right _ (vw_at_in (n := 1784) rfl))), List.forall_mem_cons.mpr ⟨va_Nw.of rfl (hts _ (List.mem_append_right _ (vw_at_in (n := 1785) rfl))), List.forall_mem_cons.mpr ⟨va_Nw.of rfl (hts _ (List.mem_append_right _ (vw_at_in (n := 1786) rfl))), List.forall_mem_cons.mpr ⟨va_Nw.of rfl (hts _ (List.mem_append_right _ (vw_at_in (n := 1787) rfl))), fun _ h => absurd h List.not_mem_nil⟩⟩⟩⟩⟩⟩⟩⟩⟩⟩⟩⟩⟩⟩⟩⟩⟩
    · exact List.forall_mem_cons.mpr ⟨va_Nw.of rfl (hts _ (List.mem_append_right _ (vw_at_in (n := 42) rfl))), List.forall_mem_cons.mpr ⟨va_Nw.of rfl (hts _ (List.mem_append_right _ (vw_at_in (n := 82) rfl))), List.forall_mem_cons.mpr ⟨va_Nw.of rfl (hts _ (List.mem_append_right _ (vw_at_in (n := 163) rfl))), List.forall_mem_cons.mpr ⟨va_Nw.of rfl (hts _ (List.mem_append_right _ (vw_at_in (n := 169) rfl))), List.forall_mem_cons.mpr ⟨va_Nw.of rfl (hts _ (List.mem_append_right _ (vw_at_in (n := 177) rfl))), fun _ h => absurd h List.not_mem_nil⟩⟩⟩⟩⟩
    · exact List.forall_mem_cons.mpr ⟨vk_R.of (hts _ (List.mem_append_right _ (vw_at_in (n := 181) rfl))) (hsq 0 (by decide)).1, List.forall_mem_cons.mpr ⟨vk_R.of (hts _ (List.mem_append_right _ (vw_at_in (n := 600) rfl))) (hsq 1 (by decide)).1, List.forall_mem_cons.mpr ⟨vk_R.of (hts _ (List.mem_append_right _ (vw_at_in (n := 609) rfl))) (hsq 2 (by decide)).1, List.forall_mem_cons.mpr ⟨vk_R.of (hts _ (List.mem_append_right _ (vw_at_in (n := 618) rfl))) (hsq 3 (by decide)).1, List.forall_mem_cons.mpr ⟨vk_R.of (hts _ (List.mem_append_right _ (vw_at_in (n := 627) rfl))) (hsq 4 (by decide)).1, List.forall_mem_cons.mpr ⟨vk_R.of (hts _ (List.mem_append_right _ (vw_at_in (n := 628) rfl))) (hsq 5 (by decide)).1, List.forall_mem_cons.mpr ⟨vk_R.of (hts _ (List.mem_append_right _ (vw_at_in (n := 629) rfl))) (hsq 6 (by decide)).1, List.forall_mem_cons.mpr ⟨vk_R.of (hts _ (List.mem_append_right _ (vw_at_in (n := 665) rfl))) (hsq 7 (by decide)).1, List.forall_mem_cons.mpr ⟨vk_R.of (hts _ (List.mem_append_right _ (vw_at_in (n := 675) rfl))) (hsq 8 (by decide)).1, List.forall_mem_cons.mpr ⟨vk_R.of (hts _ (List.mem_append_right _ (vw_at_in (n := 677) rfl))) (hsq 9 (by decide)).1, List.forall_mem_cons.mpr ⟨vk_R.of (hts _ (List.mem_append_right _ (vw_at_in (n := 742) rfl))) (hsq 10 (by decide)).1, List.forall_mem_cons.mpr ⟨vk_R.of (hts _ (List.mem_append_right _ (vw_at_in (n := 885) rfl))) (hsq 11 (by decide)).1, List.forall_mem_cons.mpr ⟨vk_R.of (hts _ (List.mem_append_right _ (vw_at_in (n := 949) rfl))) (hsq 12 (by decide)).1, List.forall_mem_cons.mpr ⟨vk_R.of (hts _ (List.mem_append_right _ (vw_at_in (n := 1040) rfl))) (hsq 13 (by decide)).1, List.forall_mem_cons.mpr ⟨vk_R.of (hts _ (List.mem_append_right _ (vw_at_in (n := 1042) rfl))) (hsq 14 (by decide)).1, List.forall_mem_cons.mpr ⟨vk_R.of (hts _ (List.mem_append_right _ (vw_at_in (n := 1044) rfl))) (hsq 15 (by decide)).1, List.forall_mem_cons.mpr ⟨vk_R.of (hts _ (List.mem_append_right _ (vw_at_in (n := 1070) rfl))) (hsq 16 (by decide)).1, List.forall_mem_cons.mpr ⟨vk_R.of (hts _ (List.mem_append_right _ (vw_at_in (n := 1071) rfl))) (hsq 17 (by decide)).1, List.forall_mem_cons.mpr ⟨vk_R.of (hts _ (List.mem_append_right _ (vw_at_in (n := 1076) rfl))) (hsq 18 (by decide)).1, fun _ h => absurd h List.not_mem_nil⟩⟩⟩⟩⟩⟩⟩⟩⟩⟩⟩⟩⟩⟩⟩⟩⟩⟩⟩
    · exact List.forall_mem_cons.mpr ⟨va_Zof (hts _ (List.mem_append_right _ (vw_at_in (n := 96) rfl))) (hts _ (List.mem_append_right _ (vw_at_in (n := 9) rfl))) (va_eqi (hs _ (List.mem_of_getElem? (i := 8) (by decide +kernel)))) hA, fun _ h => absurd h List.not_mem_nil⟩
    · exact List.forall_mem_cons.mpr ⟨va_Zof (hts _ (List.mem_append_right _ (vw_at_in (n := 59) rfl))) (hts _ (List.mem_append_right _ (vw_at_in (n := 5) rfl))) e3 hA, List.forall_mem_cons.mpr ⟨va_Zof (hts _ (List.mem_append_right _ (vw_at_in (n := 789) rfl))) (hts _ (List.mem_append_right _ (vw_at_in (n := 24) rfl))) e1 hA, List.forall_mem_cons.mpr ⟨va_Zof (hts _ (List.mem_append_right _ (vw_at_in (n := 791) rfl))) (hts _ (List.mem_append_right _ (vw_at_in (n := 24) rfl))) e2 hA, fun _ h => absurd h List.not_mem_nil⟩⟩⟩
    · exact List.forall_mem_cons.mpr ⟨va_AO.of (hts _ (List.mem_append_right _ (vw_at_in (n := 39) rfl))), List.forall_mem_cons.mpr ⟨va_AO.of (hts _ (List.mem_append_right _ (vw_at_in (n := 134) rfl))), List.forall_mem_cons.mpr ⟨va_AO.of (hts _ (List.mem_append_right _ (vw_at_in (n := 270) rfl))), List.forall_mem_cons.mpr ⟨va_AO.of (hts _ (List.mem_append_right _ (vw_at_in (n := 893) rfl))), List.forall_mem_cons.mpr ⟨va_AO.of (hts _ (List.mem_append_right _ (vw_at_in (n := 945) rfl))), fun _ h => absurd h List.not_mem_nil⟩⟩⟩⟩⟩
    · exact List.forall_mem_cons.mpr ⟨sx_ref (hts _ (List.mem_append_right _ (vw_at_in (n := 408) rfl))) (hts _ (List.mem_append_right _ (vw_at_in (n := 21) rfl))) (hs _ (List.mem_of_getElem? (i := 9) (by decide +kernel) : Cond.isRef (.static "jdk/internal/util/Preconditions" "SIOOBE_FORMATTER" "Ljava/util/function/BiFunction;") ∈ sx_fl)) hA, fun _ h => absurd h List.not_mem_nil⟩
  · have hlt : ∀ {a N : Nat} {ty : FieldType} {f : Nat → Value}, va_T ty a N f (sx_A s) s s.heap → a < s.heap.size := fun h => by obtain ⟨cell, q1, -⟩ := h; exact (Array.getElem?_eq_some_iff.mp q1).1
    refine ⟨⟨hbl, kd (Or.inl rfl) hbA, ?_, ?_⟩, fun i hi => ?_, ⟨hlt T1, kd (Or.inr (Or.inr (Or.inl rfl))) h1A, (sx_rdA (by decide) T1).2.1, fun j hj => (sx_rdA (by decide) T1).2.2 j hj _ rfl⟩, ⟨hlt T2, kd (Or.inr (Or.inr (Or.inr (Or.inl rfl)))) h2A, (sx_rdA (by decide) T2).2.1, fun j hj => (sx_rdA (by decide) T2).2.2 j hj _ rfl⟩, ⟨hlt T3, kd (Or.inr (Or.inr (Or.inr (Or.inr rfl)))) h3A, (sx_rdA (by decide) T3).2.1⟩, fun a ha => ?_⟩
    · obtain ⟨scr, q1, q2, q3, q4, q5⟩ := hX
      show hp_n s.heap b = L
      simp only [hp_n, q1, q4]
      exact sx_nI (by omega)
    · intro i hi
      obtain ⟨scr, q1, q2, q3, q4, q5⟩ := hX
      show hp_i s.heap b i = xs i
      simp only [hp_i, hp_c, q1, Option.bind_some, q5 i hi]
    · obtain ⟨g0, ⟨cell, h1, h2, h3, -⟩, ⟨cf, kk, fi, fd, c2, g1, g2, g3, g4, g5, -⟩, ⟨cf', kk', fi', fd', c2', g1', g2', g3', g4', g5', -⟩, hT⟩ := hsq i hi
      cases h1.symm.trans g3
      cases h1.symm.trans g3'
      refine ⟨(Array.getElem?_eq_some_iff.mp h1).1, (sx_in (s := s) (P := P) (Or.inr (Or.inl ⟨i, hi, Or.inl rfl⟩))).trans (sx_ckS hS9.2 (hsS i hi)), ?_, (sq i).2, hlt hT, ?_, kd (Or.inr (Or.inl ⟨i, hi, Or.inr rfl⟩)) (hvA i hi), (sx_rdA (sx_in6 i hi) hT).2.1, fun j hj => (sx_rdA (sx_in6 i hi) hT).2.2 j hj _ rfl⟩
      · obtain ⟨_, _, _, _, e1, e2⟩ := hS9.1 1 (by decide)
        cases g1.symm.trans e1
        show hp_i s.heap (sq i).1 (en_dI E 9 1) = 0
        simp only [hp_i, hp_c, h1, Option.bind_some, ← e2, g5]
      · obtain ⟨_, _, _, _, e1, e2⟩ := hS9.1 0 (by decide)
        cases g1'.symm.trans e1
        show hp_r s.heap (sq i).1 (en_dI E 9 0) = some (sq i).2
        simp only [hp_r, hp_c, h1, Option.bind_some, ← e2, g5']
    · exact Classical.byContradiction fun q => absurd ((hSe.2 a).1 q) (Nat.not_lt.mpr (show s.heap.size ≤ a from ha))

set_option maxHeartbeats 4000000 in
theorem sx_whole {p : Program} {e : Env} {s : State} {m : MethodId} {below : List Frame} {meth : Method} {c : Code} (l : Launch) {b L : Nat} {xs : Nat → Int32} (hL : L ≤ 2049) (C0 : lw_At p s m meth c b L xs) (hp : ∀ (E : wo_E) (G : wo_W), sx_0 E G b L xs → pq_Lw_law E 600000 7302250 lw_Po G (some b)) : W p l e room_1 s m #[Value.ref b] below meth c s.heap [] 0 0 (lw_Z below #[Value.ref b] s) (entryFrame m ([Value.ref b] : List Value).toArray 4) := by
  obtain ⟨E, G, hbs, hSe, hKn, h0⟩ := sx_start hL C0
  obtain ⟨hx, hb, hr, hml, hown, hts, hX, hbl, hlk, hgv⟩ := C0
  have hw := hp E G h0
  unfold pq_Lw_law at hw
  have hl := lv_entry [Value.ref b] (n := 4) (Nat.le_of_ble_eq_true rfl)
  rw [lg_entry_eq]
  generalize (lg_sl [Value.ref b] ++ List.replicate (4 - (lg_sl [Value.ref b]).length) Slot.unset).toArray = ls at hl ⊢
  have hl' : lx_has ls 4 [(0, 1, va_rf (some b))] := ⟨hl, fun q hq => by rw [List.mem_singleton.mp hq]; rfl⟩
  exact tq_Lw_law_0 (m := m) ⟨hx, hb, hml, hr, hlk, hown, sx_hts hts, hKn, rfl, Nat.le_of_eq hbs, rfl, rfl, rfl, rfl⟩ hbs hw hSe va_S.rf hl' (Nat.zero_le _) (Nat.zero_le _)

