abbrev k38T : Type := wo_W → Nat → Nat → Nat → Int32 → Int32 → Int32 → Int32 → Prop
theorem pa_skip {t : List Nat} {e p : Nat} {r : List Nat} : ∀ (d i j k : Nat), i + d = j → j ≤ e → (∀ x, i ≤ x → x < j → t.getD x 0 ≠ 47) → pa_go t e (k + d) i p r = pa_go t e k j p r := by
  intro d
  induction d with
  | zero => intro i j k h _ _; rw [← h]; rfl
  | succ d ih =>
    intro i j k h hj hn
    show pa_go t e (k + d + 1) i p r = _
    rw [pa_go, if_neg (by omega), if_neg (fun z => z.elim (fun z => by omega) (fun z => hn i (Nat.le_refl _) (by omega) z))]
    exact ih (i + 1) j k (by omega) hj (fun x h1 h2 => hn x (by omega) h2)
theorem pa_seg {t : List Nat} {e p q j k : Nat} {r : List Nat} (hq : q ≤ j) (hj : j ≤ e) (hn : ∀ x, q ≤ x → x < j → t.getD x 0 ≠ 47) (h : j = e ∨ t.getD j 0 = 47) : pa_go t e (k + 1 + (j - q)) q p r = pa_go t e k (j + 1) (j + 1) (as_of r (tx_sub t p j) (decide (j = e))) := by
  rw [pa_skip (j - q) q j (k + 1) (by omega) hj hn, pa_go, if_neg (by omega), if_pos h]
theorem pa_end {t : List Nat} {e p i k : Nat} {r : List Nat} (h : e < i) : pa_go t e k i p r = r := by
  cases k with
  | zero => rfl
  | succ k => rw [pa_go, if_pos h]
theorem ls_lt {r : List Nat} : ∀ k, r.getD 0 0 = 47 → r.getD (ls_go r k) 0 = 47 ∧ (0 < k → ls_go r k < k) ∧ ∀ x, ls_go r k < x → x < k → r.getD x 0 ≠ 47 := by
  intro k h0
  induction k with
  | zero => exact ⟨h0, fun z => absurd z (by decide), fun x h1 h2 => by omega⟩
  | succ k ih =>
    rw [ls_go]
    by_cases z : r.getD k 0 = 47
    · rw [if_pos z]; exact ⟨z, fun _ => Nat.lt_succ_self _, fun x h1 h2 => by omega⟩
    · rw [if_neg z]
      have hk : 0 < k := Nat.pos_of_ne_zero (fun e => z (by rw [e]; exact h0))
      refine ⟨ih.1, fun _ => by have := ih.2.1 hk; omega, fun x h1 h2 => ?_⟩
      by_cases y : x = k
      · rw [y]; exact z
      · exact ih.2.2 x h1 (by omega)
section MD
variable {E : wo_E} {mc ms m c s : Nat} {G0 G G1 G2 : wo_W} {ow : Nat → Nat} {A : Nat → Nat} {P Q : Nat → Nat → Prop} {R : List Nat} {r u : List Nat} {e q j : Nat}
theorem sp_nrm50 {Post : Int32 → wo_W → Prop} {k38 : k38T} {x1 x3 : Int32} (h : md_k E ow m A G) (hu : kp_at A G 916 u) (hb : ∀ b ∈ u, b < 256) (hl : u.length ≤ 24) (he : e ≤ u.length) (hp : ∀ j, q + 1 ≤ j → j ≤ e → (∀ x, q + 1 ≤ x → x < j → u.getD x 0 ≠ 47) → (j = e ∨ u.getD j 0 = 47) → pq_Md_normal_74 E mc ms Post k38 G 0 0 m x1 (nI e) x3 (nI q) (nI j)) : ∀ (d i : Nat), i + d = e → q + 1 ≤ i → (∀ x, q + 1 ≤ x → x < i → u.getD x 0 ≠ 47) → pq_Md_normal_50 E mc ms Post k38 (d + 1) G 0 0 m x1 (nI e) x3 (nI q) (nI i) := by
  intro d
  induction d with
  | zero =>
    intro i hd hi hn
    have e0 : i = e := by omega
    subst e0
    unfold pq_Md_normal_50
    exact ⟨fun _ => hp i hi (Nat.le_refl _) hn (Or.inl rfl), fun w => absurd (nI_le (Nat.le_refl _) (by omega)) w⟩
  | succ d ih =>
    intro i hd hi hn
    unfold pq_Md_normal_50
    refine ⟨fun w => absurd w (nI_ge (by omega) (by omega)), fun _ => ⟨h.1, h.rd (f := 916) (k := 66) (n := 24) (by decide) (vp_in_nI (by omega) (by decide)) ?_⟩⟩
    have hbi := hb _ (tx_mem (t := u) (i := i) (by omega))
    rw [nI_clamp (by omega), hu i (by omega)]
    refine ⟨fun w => hp i hi (by omega) hn (Or.inr ((nI_eq (b := 47) (by omega) (by decide)).mp w)), fun w => ?_⟩
    rw [nI_1]
    refine ih (i + 1) (by omega) (by omega) (fun x h1 h2 => ?_)
    by_cases z : x = i
    · rw [z]; exact fun y => w (by rw [y]; rfl)
    · exact hn x h1 (by omega)
theorem sp_nrm74 {Post : Int32 → wo_W → Prop} {k38 : k38T} {x1 x3 : Int32} (h : md_k E ow m A G) (hu : kp_at A G 916 u) (hb : ∀ b ∈ u, b < 256) (hl : u.length ≤ 24) (hq : q + 1 ≤ j) (hj : j ≤ u.length) (hp : pq_Md_normal_146 E mc ms Post k38 G 0 0 m x1 (nI e) x3 (nI q) (nI j) (bo_I (decide (tx_sub u (q + 1) j = [46]))) (bo_I (decide (tx_sub u (q + 1) j = [46, 46])))) : pq_Md_normal_74 E mc ms Post k38 G 0 0 m x1 (nI e) x3 (nI q) (nI j) := by
  have gl : (tx_sub u (q + 1) j).length = j - (q + 1) := tx_sub_len hj
  have ga : ∀ i, i < j - (q + 1) → (tx_sub u (q + 1) j).getD i 0 = u.getD (q + 1 + i) 0 := fun i hi => tx_sub_at hi
  have rd : ∀ i, i < u.length → wo_ei G (A 916) (nI i).toNatClampNeg = nI (u.getD i 0) ∧ u.getD i 0 < 256 ∧ vp_in (nI i) 24 := fun i hi => ⟨by rw [nI_clamp (by omega)]; exact hu i hi, hb _ (tx_mem hi), vp_in_nI (by omega) (by decide)⟩
  generalize hg : tx_sub u (q + 1) j = g at *
  have d1 : g = [46] ↔ j - q = 2 ∧ u.getD (q + 1) 0 = 46 := by
    constructor
    · intro z
      rw [z] at gl ga
      simp at gl
      have := ga 0 (by omega)
      exact ⟨by omega, this.symm⟩
    · rintro ⟨z1, z2⟩
      refine tx_ext (by rw [gl]; simp; omega) (fun i hi => ?_)
      rw [ga i (by omega)]
      have : i = 0 := by omega
      subst this
      exact z2
  have d2 : g = [46, 46] ↔ j - q = 3 ∧ u.getD (q + 1) 0 = 46 ∧ u.getD (q + 2) 0 = 46 := by
    constructor
    · intro z
      rw [z] at gl ga
      simp at gl
      have h1 := ga 0 (by omega)
      have h2 := ga 1 (by omega)
      exact ⟨by omega, h1.symm, h2.symm⟩
    · rintro ⟨z1, z2, z3⟩
      refine tx_ext (by rw [gl]; simp; omega) (fun i hi => ?_)
      rw [ga i (by omega)]
      have : i = 0 ∨ i = 1 := by omega
      rcases this with q0 | q0
      · subst q0; exact z2
      · subst q0; exact z3
  have eqI : ∀ k : Nat, k < 24 → (nI j - nI q = nI k ↔ j - q = k) := fun k hk => by
    rw [pk_sub (by omega)]
    exact nI_eq (by omega) (by omega)
  have e2 := eqI 2 (by decide)
  have e3 := eqI 3 (by decide)
  have h145 : g ≠ [46, 46] → pq_Md_normal_145 E mc ms Post k38 G 0 0 m x1 (nI e) x3 (nI q) (nI j) (bo_I (decide (g = [46]))) := fun z => by
    rw [decide_eq_false z] at hp
    exact hp
  have h102 : pq_Md_normal_102 E mc ms Post k38 G 0 0 m x1 (nI e) x3 (nI q) (nI j) (bo_I (decide (g = [46]))) := by
    unfold pq_Md_normal_102
    refine ⟨fun w => h145 (fun z => w (e3.mpr (d2.mp z).1)), fun w => ⟨h.1, ?_⟩⟩
    have w3 := e3.mp w
    obtain ⟨r1, r2, r3⟩ := rd (q + 1) (by omega)
    obtain ⟨s1, s2, s3⟩ := rd (q + 2) (by omega)
    rw [nI_1, nI_c2]
    refine h.rd (f := 916) (k := 66) (n := 24) (by decide) r3 ?_
    rw [r1]
    refine ⟨fun w4 => h145 (fun z => w4 (by rw [(d2.mp z).2.1]; rfl)), fun w4 => h.rd (f := 916) (k := 66) (n := 24) (by decide) s3 ?_⟩
    rw [s1]
    have y1 := (nI_eq (b := 46) (by omega) (by decide)).mp w4
    refine ⟨fun w5 => h145 (fun z => w5 (by rw [(d2.mp z).2.2]; rfl)), fun w5 => ?_⟩
    have y2 := (nI_eq (b := 46) (by omega) (by decide)).mp w5
    rw [decide_eq_true (d2.mpr ⟨w3, y1, y2⟩)] at hp
    exact hp
  unfold pq_Md_normal_74
  have h101 : g ≠ [46] → pq_Md_normal_101 E mc ms Post k38 G 0 0 m x1 (nI e) x3 (nI q) (nI j) := fun z => by
    rw [decide_eq_false z] at h102
    exact h102
  refine ⟨fun w => h101 (fun z => w (e2.mpr (d1.mp z).1)), fun w => ⟨h.1, ?_⟩⟩
  have w3 := e2.mp w
  obtain ⟨r1, r2, r3⟩ := rd (q + 1) (by omega)
  rw [nI_1]
  refine h.rd (f := 916) (k := 66) (n := 24) (by decide) r3 ?_
  rw [r1]
  refine ⟨fun w4 => h101 (fun z => w4 (by rw [(d1.mp z).2]; rfl)), fun w4 => ?_⟩
  have y1 := (nI_eq (b := 46) (by omega) (by decide)).mp w4
  rw [decide_eq_true (d1.mpr ⟨w3, y1⟩)] at h102
  exact h102
theorem sp_nrm146 {Post : Int32 → wo_W → Prop} {k38 : k38T} {x1 x2 x4 x5 x6 : Int32} {b : Bool} (h : md_k E ow m A G) (hr : kp_at A G 917 r) (hb : ∀ b ∈ r, b < 256) (hl : r.length ≤ 24) (h0 : r = [] ∨ r.getD 0 0 = 47) (hp : pq_Md_normal_177 E mc ms Post k38 G 0 0 m x1 x2 (nI (if b then r.take (ls_of r) else r).length) x4 x5 x6 (bo_I b)) : pq_Md_normal_146 E mc ms Post k38 G 0 0 m x1 x2 (nI r.length) x4 x5 x6 (bo_I b) := by
  unfold pq_Md_normal_146
  cases b with
  | false => exact ⟨fun _ => hp, fun w => absurd rfl w⟩
  | true =>
    have hp : pq_Md_normal_177 E mc ms Post k38 G 0 0 m x1 x2 (nI (r.take (ls_of r)).length) x4 x5 x6 1 := hp
    refine ⟨fun w => absurd w (by decide), fun _ => ⟨fun w => ?_, fun w => ?_⟩⟩
    · have e0 : r = [] := by
        apply List.length_eq_zero_iff.mp
        have := (nI_leI (b := 0) (by omega) (by decide)).mp w
        omega
      subst e0
      exact hp
    · have ne : r ≠ [] := fun z => w (by rw [z]; decide)
      have r47 : r.getD 0 0 = 47 := h0.resolve_left ne
      have hpos : 0 < r.length := List.length_pos_iff.mpr ne
      obtain ⟨a1, a2, a3⟩ := ls_lt (r := r) r.length r47
      have a2 := a2 hpos
      have ll : (r.take (ls_of r)).length = ls_of r := by rw [List.length_take]; have : ls_of r < r.length := a2; omega
      rw [ll] at hp
      have key : ∀ d i, ls_of r + d = i → i < r.length → pq_Md_normal_160 E mc ms Post k38 (d + 1) G 0 0 m x1 x2 (nI i) x4 x5 x6 1 := by
        intro d
        induction d with
        | zero =>
          intro i hi hlt
          have e0 : ls_of r = i := by omega
          rw [e0] at hp
          have a1 : r.getD (ls_of r) 0 = 47 := a1
          unfold pq_Md_normal_160
          refine ⟨h.1, h.rd (f := 917) (k := 66) (n := 24) (by decide) (vp_in_nI (by omega) (by decide)) ?_⟩
          rw [nI_clamp (by omega), hr i hlt, ← e0, a1]
          exact ⟨fun _ => by rw [e0]; exact hp, fun w => absurd rfl w⟩
        | succ d ih =>
          intro i hi hlt
          have a3 := a3 i (by show ls_of r < i; omega) hlt
          have hbi := hb _ (tx_mem (t := r) (i := i) (by omega))
          unfold pq_Md_normal_160
          refine ⟨h.1, h.rd (f := 917) (k := 66) (n := 24) (by decide) (vp_in_nI (by omega) (by decide)) ?_⟩
          rw [nI_clamp (by omega), hr i hlt]
          refine ⟨fun w => absurd ((nI_eq (b := 47) (by omega) (by decide)).mp w) a3, fun _ => ?_⟩
          have e1 : nI i + (-1 : Int32) = nI (i - 1) := by
            rw [← nI_pm (y := i) (by omega), Int32.sub_eq_add_neg]
          rw [e1]
          exact ih (i - 1) (by omega) (by omega)
      have e1 : nI r.length + (-1 : Int32) = nI (r.length - 1) := by
        rw [← nI_pm (y := r.length) hpos, Int32.sub_eq_add_neg]
      rw [e1]
      exact ⟨r.length - 1 - ls_of r + 1, key (r.length - 1 - ls_of r) (r.length - 1) (by have : ls_of r < r.length := a2; omega) (by omega)⟩
end MD
