section SX
variable {args : Array Value} {s : State}
abbrev sx_A (s : State) : Nat → Prop := fun q => s.heap.size ≤ q
theorem sx_one (hs : ∀ c ∈ sx_fl, c.before args s = true) (i : Nat) (hi : i < 19) : ∃ q : Nat × Nat, (sx_tm i).eval args s none [] s = some (.ref q.1) ∧ va_O "java/lang/String" q.1 (sx_A s) s s.heap ∧ va_OF "java/lang/String" "coder" "B" (.int 0) q.1 (sx_A s) s s.heap ∧ va_OF "java/lang/String" "value" "[B" (.ref q.2) q.1 (sx_A s) s s.heap ∧ va_T .byte q.2 (sx_by i).length (fun j => .int ((sx_by i).getD j 0)) (sx_A s) s s.heap := by
  have hA : ∀ a : Nat, a < s.heap.size → ¬ sx_A s a := fun a h q => Nat.not_le.mpr h q
  obtain ⟨a, c, cA, kA, q1, q2, q3, q4, q5, q6, -⟩ := Cond.exactly_spec (args := args) (first := s) (o := none) (s := s) (idx := []) (t := sx_tm i) (cls := "java/lang/String") (hs _ (sx_in1 i hi))
  obtain ⟨t, ht, hT⟩ := va_Tof (f := fun j => .int ((sx_by i).getD j 0)) (A := sx_A s) (sx_in6 i hi) (hs _ (sx_in3 i hi)) (va_eqt (hs _ (sx_in4 i hi))) (fun j hj => va_eqt (hs _ (sx_in5 i hi j hj))) hA
  exact ⟨(a, t), q1, ⟨cA, q3, q5, by rw [q6]; exact q2, hA a (Array.getElem?_eq_some_iff.mp q3).1⟩, vk_OFof q1 (va_eqt (hs _ (sx_in2 i hi))) hA, vk_OFof q1 ht hA, hT⟩
theorem sx_arrs (hs : ∀ c ∈ sx_fl, c.before args s = true) : (∃ t : Nat, sx_on.eval args s none [] s = some (.ref t) ∧ va_T .byte t 100 (fun j => .int (Int32.ofNat (48 + j % 10))) (sx_A s) s s.heap) ∧ (∃ t : Nat, sx_te.eval args s none [] s = some (.ref t) ∧ va_T .byte t 100 (fun j => .int (Int32.ofNat (48 + j / 10))) (sx_A s) s s.heap) ∧ ∃ t : Nat, sx_dc.eval args s none [] s = some (.ref t) ∧ va_T (.object "java/lang/Object") t 0 (fun _ => .null) (sx_A s) s s.heap := by
  have hA : ∀ a : Nat, a < s.heap.size → ¬ sx_A s a := fun a h q => Nat.not_le.mpr h q
  obtain ⟨h1, h2, h3, h4, h5, h6⟩ := sx_ar1
  exact ⟨va_Tof (by decide) (hs _ h1) (va_eqt (hs _ h2)) (fun j hj => va_eqt (hs _ (sx_on1 j hj))) hA, va_Tof (by decide) (hs _ h3) (va_eqt (hs _ h4)) (fun j hj => va_eqt (hs _ (sx_te1 j hj))) hA, va_Tof (by decide) (hs _ h5) (va_eqt (hs _ h6)) (fun j hj => absurd hj (Nat.not_lt_zero _)) hA⟩
end SX
def hp_c (H : Heap) (a k : Nat) : Option Value := (H[a]?).bind (fun c => c.slots[k]?)
def hp_i (H : Heap) (a k : Nat) : Int32 := match hp_c H a k with
  | some (.int x) => x
  | _ => 0
def hp_r (H : Heap) (a k : Nat) : Option Nat := match hp_c H a k with
  | some (.ref x) => some x
  | _ => none
def hp_n (H : Heap) (a : Nat) : Nat := match H[a]? with
  | some c => c.slots.size.toInt32.toNatClampNeg
  | none => 0
def sx_k0 (k : Class) : Nat := match k.kind with
  | .array _ .int => 66
  | .array _ .byte => 65
  | .array _ (.object _) => 71
  | _ => 10
def sx_ck (s : State) (a : Nat) : Nat := match (s.heap[a]?).bind (fun c => s.vm.classes[c.cls]?) with
  | some k => sx_k0 k
  | none => 0
noncomputable def sx_kd (s : State) (P : Nat → Prop) (a : Nat) : Nat := @ite _ (P a) (Classical.propDecidable _) (sx_ck s a) 0
noncomputable def sx_G (s : State) (P : Nat → Prop) (dI : Nat → Nat → Nat) : wo_W := (sx_kd s P, hp_n s.heap, fun f a => hp_i s.heap a (dI (f / 64) (f % 64)), fun _ _ => 0, fun f a => hp_r s.heap a (dI (f / 64) (f % 64)), fun a i => hp_i s.heap a i, fun _ _ => 0, fun a i => hp_r s.heap a i)
def sx_cc (s : State) (a : Nat) : ClassId := match s.heap[a]? with
  | some c => c.cls
  | none => 0
noncomputable def sx_ca (s : State) (P : Nat → Prop) (a : Nat) : Nat := if 64 ≤ sx_kd s P a then sx_kd s P a - 64 else 1000
def sx_isA (s : State) (a k : Nat) (ty : FieldType) : Prop := ∃ (N : Nat) (f : Nat → Value), N < 2 ^ 31 ∧ (∀ i, i < N → ∃ x : Int32, f i = .int x) ∧ va_T ty a N f (sx_A s) s s.heap ∧ (ty = .int ∧ k = 66 ∨ ty = .byte ∧ k = 65 ∨ ty = .object "java/lang/Object" ∧ k = 71 ∧ N = 0)
def sx_isS (s : State) (a : Nat) : Prop := ∃ v : Nat, va_O "java/lang/String" a (sx_A s) s s.heap ∧ va_OF "java/lang/String" "coder" "B" (.int 0) a (sx_A s) s s.heap ∧ va_OF "java/lang/String" "value" "[B" (.ref v) a (sx_A s) s s.heap
theorem sx_ckA {s : State} {a k : Nat} {ty : FieldType} (h : sx_isA s a k ty) : sx_ck s a = k ∧ ∃ cell : Cell, s.heap[a]? = some cell ∧ s.isArrayOf cell ty := by
  obtain ⟨N, f, -, -, ⟨cell, h1, h2, -⟩, h3⟩ := h
  refine ⟨?_, cell, h1, h2⟩
  obtain ⟨-, kc, h4, comp, h5⟩ := h2
  simp only [sx_ck, h1, Option.bind_some, h4, sx_k0, h5]
  rcases h3 with ⟨rfl, rfl⟩ | ⟨rfl, rfl⟩ | ⟨rfl, rfl, -⟩ <;> rfl
theorem sx_ckS {s : State} {a : Nat} {cC : ClassId} (hc : ClassAt s "java/lang/String" cC) (h : sx_isS s a) : sx_ck s a = 10 := by
  obtain ⟨v, ⟨cell, h1, -, h3, -⟩, -⟩ := h
  obtain ⟨h4, kc, h5, h6⟩ := hc
  cases h3.symm.trans h4
  simp only [sx_ck, h1, Option.bind_some, h5, sx_k0, h6]

theorem sx_pos {s : State} {P : Nat → Prop} {a : Nat} (h : sx_kd s P a ≠ 0) : P a ∧ sx_kd s P a = sx_ck s a := by
  by_cases hp : P a
  · exact ⟨hp, by simp only [sx_kd]; exact if_pos hp⟩
  · exact absurd (by simp only [sx_kd]; exact if_neg hp) h
theorem sx_in {s : State} {P : Nat → Prop} {a : Nat} (h : P a) : sx_kd s P a = sx_ck s a := by simp only [sx_kd]; exact if_pos h
theorem sx_nI {N : Nat} (h : N < 2 ^ 31) : (Int32.ofNat N).toNatClampNeg = N := nI_clamp h
theorem sx_Se {s : State} {P : Nat → Prop} {E : wo_E} (hbs : en_bs E = s.heap.size) (hca : en_ca E = sx_ca s P) (hcc : en_cc E = sx_cc s) (hS9 : u_Kn s "java/lang/String" (fun k => vw_F9.getD k ("", "", "", false)) 4 (en_dC E 9) (en_dI E 9))
    (hP : ∀ a, P a → sx_isS s a ∨ ∃ (k : Nat) (ty : FieldType), sx_isA s a k ty) : wo_Se E (sx_G s P (en_dI E)) s.heap := by
  have hlt : ∀ a, P a → a < s.heap.size := by
    intro a ha
    rcases hP a ha with ⟨v, ⟨cell, h1, -⟩, -⟩ | ⟨k, ty, N, f, -, -, ⟨cell, h1, -⟩, -⟩
    · exact (Array.getElem?_eq_some_iff.mp h1).1
    · exact (Array.getElem?_eq_some_iff.mp h1).1
  refine ⟨Nat.le_of_eq hbs, fun a => ⟨fun h => hlt a (sx_pos h).1, fun c r hk hr => ?_, fun j ty hk ht => ?_⟩⟩
  · have hk : sx_kd s P a = c + 1 := hk
    obtain ⟨hp, hck⟩ := sx_pos (s := s) (P := P) (a := a) (by omega)
    have hcl : c < vw_Cl.length := (List.getElem?_eq_some_iff.mp hr).1
    have hcl2 : vw_Cl.length = 15 := rfl
    rcases hP a hp with hS | ⟨k, ty, hA⟩
    · have h10 := sx_ckS hS9.2 hS
      have hc9 : c = 9 := by omega
      subst hc9
      cases hr
      refine ⟨fun h => absurd (hlt a hp) (by omega), fun _ => ?_⟩
      obtain ⟨v, ⟨cell, h1, h2, h3, -⟩, ⟨cf, kk, fi, fd, c2, g1, g2, g3, g4, g5, -⟩, ⟨cf', kk', fi', fd', c2', g1', g2', g3', g4', g5', -⟩⟩ := hS
      cases h1.symm.trans g3
      cases h1.symm.trans g3'
      refine ⟨cell, h1, Option.some.inj (h3.symm.trans hS9.2.1), h2, g4, fun k hk hf => ?_⟩
      match k, hk, hf with
      | 0, _, _ =>
        obtain ⟨_, _, _, _, e1, e2⟩ := hS9.1 0 (by decide)
        cases g1'.symm.trans e1
        have hv : hp_r s.heap a (en_dI E 9 0) = some v := by simp only [hp_r, hp_c, h1, Option.bind_some, ← e2, g5']
        show cell.slots[en_dI E 9 0]? = some (va_rf (hp_r s.heap a (en_dI E 9 0)))
        rw [hv, ← e2]; exact g5'
      | 1, _, _ =>
        obtain ⟨_, _, _, _, e1, e2⟩ := hS9.1 1 (by decide)
        cases g1.symm.trans e1
        have hv : hp_i s.heap a (en_dI E 9 1) = 0 := by simp only [hp_i, hp_c, h1, Option.bind_some, ← e2, g5]
        show cell.slots[en_dI E 9 1]? = some (.int (hp_i s.heap a (en_dI E 9 1)))
        rw [hv, ← e2]; exact g5
      | 2, _, h => cases h
      | 3, _, h => cases h
    · have h1 := (sx_ckA hA).1
      obtain ⟨N, f, -, -, -, h3⟩ := hA
      rcases h3 with ⟨-, rfl⟩ | ⟨-, rfl⟩ | ⟨-, rfl, -⟩ <;> omega
  · have hk : sx_kd s P a = 64 + j := hk
    obtain ⟨hp, hck⟩ := sx_pos (s := s) (P := P) (a := a) (by omega)
    refine ⟨fun h => absurd (hlt a hp) (by omega), fun _ => ?_⟩
    refine ⟨by rw [hca]; simp only [sx_ca, hk]; rw [if_pos (by omega)]; omega, ?_⟩
    rcases hP a hp with hS | ⟨k, ty', hA⟩
    · have h10 := sx_ckS hS9.2 hS
      omega
    · have h1 := (sx_ckA hA).1
      obtain ⟨N, f, hN, hf, ⟨cell, q1, q2, q3, q4, q5, q6, q7⟩, h3⟩ := hA
      have hn : hp_n s.heap a = N := by simp only [hp_n, q1, q5]; exact sx_nI hN
      have hty : ty = ty' ∧ ∀ i, i < N → cell.slots[i]? = some (wo_ev ty (sx_G s P (en_dI E)) a i) := by
        have hrd : ∀ i, i < N → hp_i s.heap a i = (match f i with | .int x => x | _ => 0) ∧ ∃ x : Int32, f i = .int x := by
          intro i hi
          obtain ⟨x, hx⟩ := hf i hi
          refine ⟨?_, x, hx⟩
          simp only [hp_i, hp_c, q1, Option.bind_some, q6 i hi, hx]
        rcases h3 with ⟨rfl, rfl⟩ | ⟨rfl, rfl⟩ | ⟨rfl, rfl, rfl⟩
        · have hj : j = 2 := by omega
          subst hj; cases ht
          refine ⟨rfl, fun i hi => ?_⟩
          obtain ⟨e1, x, hx⟩ := hrd i hi
          rw [q6 i hi, hx]
          show some (Value.int x) = some (.int (hp_i s.heap a i))
          rw [e1, hx]
        · have hj : j = 1 := by omega
          subst hj; cases ht
          refine ⟨rfl, fun i hi => ?_⟩
          obtain ⟨e1, x, hx⟩ := hrd i hi
          rw [q6 i hi, hx]
          show some (Value.int x) = some (.int (hp_i s.heap a i))
          rw [e1, hx]
        · have hj : j = 7 := by omega
          subst hj; cases ht
          exact ⟨rfl, fun i hi => absurd hi (Nat.not_lt_zero _)⟩
      obtain ⟨rfl, hel⟩ := hty
      have hln : wo_len (sx_G s P (en_dI E)) a = N := hn
      refine ⟨cell, q1, by rw [hcc]; simp only [sx_cc, q1], q2.1, q3, by rw [hln]; exact q4, by rw [hln]; exact q5, fun i hi => hel i (by rw [← hln]; exact hi)⟩

