def pc_at (E : wo_E) (G : wo_W) (z f l : Nat) (ps : List (Nat × Nat)) : Prop := wo_ty G z = 4 ∧ en_bs E ≤ z ∧ wo_gr G 193 z = some f ∧ wo_ty G f = 66 ∧ en_bs E ≤ f ∧ wo_len G f = 2 ∧ wo_gr G 194 z = some l ∧ wo_ty G l = 66 ∧ en_bs E ≤ l ∧ wo_len G l = 2 ∧ f ≠ l ∧ wo_gi G 195 z = nI ps.length ∧ ps.length ≤ 2 ∧ ∀ i, i < ps.length → wo_ei G f i = nI (ps.getD i (0, 0)).1 ∧ wo_ei G l i = nI (ps.getD i (0, 0)).2
def pc_W (z f l : Nat) : Nat → Prop := fun x => x = z ∨ x = f ∨ x = l
def np_of (ps : List (Nat × Nat)) (x y : Nat) : List (Nat × Nat) := if x < y ∧ ps.length < 2 then ps ++ [(x, y - 1)] else ps
def ri_of (g : List Nat) (n : Nat) : Option (Nat × Nat) :=
  if ix_of 45 g = g.length then none
  else if wh_of (tx_sub g 0 (ix_of 45 g)) = none ∧ ¬ ix_of 45 g = 0 ∨ wh_of (tx_sub g (ix_of 45 g + 1) g.length) = none ∧ ¬ ix_of 45 g + 1 = g.length then none
  else if ix_of 45 g = 0 ∧ ix_of 45 g + 1 = g.length ∨ ¬ ix_of 45 g = 0 ∧ ¬ ix_of 45 g + 1 = g.length ∧ (wh_of (tx_sub g (ix_of 45 g + 1) g.length)).getD 0 < (wh_of (tx_sub g 0 (ix_of 45 g))).getD 0 then none
  else if ix_of 45 g = 0 then some (n - (wh_of (tx_sub g (ix_of 45 g + 1) g.length)).getD 0, n)
  else some ((wh_of (tx_sub g 0 (ix_of 45 g))).getD 0, if ix_of 45 g + 1 = g.length then n else min ((wh_of (tx_sub g (ix_of 45 g + 1) g.length)).getD 0 + 1) n)
theorem pc_at.ne {E : wo_E} {G : wo_W} {z f l : Nat} {ps : List (Nat × Nat)} (h : pc_at E G z f l ps) : z ≠ f ∧ z ≠ l := by
  obtain ⟨h1, h2, h3, h4, h5, h6, h7, h8, _⟩ := h
  exact ⟨fun q => (by rw [q, h4] at h1; cases h1), fun q => (by rw [q, h8] at h1; cases h1)⟩
theorem pc_at.eq {E : wo_E} {G G1 : wo_W} {z f l : Nat} {ps : List (Nat × Nat)} (h : pc_at E G z f l ps) (ez : wo_eq G G1 z) (ef : wo_eq G G1 f) (el : wo_eq G G1 l) : pc_at E G1 z f l ps := by
  obtain ⟨h1, h2, h3, h4, h5, h6, h7, h8, h9, h10, h11, h12, h13, h14⟩ := h
  exact ⟨ez.1.trans h1, h2, (ez.2.2.2.2.1 _).trans h3, ef.1.trans h4, h5, ef.2.1.trans h6, (ez.2.2.2.2.1 _).trans h7, el.1.trans h8, h9, el.2.1.trans h10, h11, (ez.2.2.1 _).trans h12, h13, fun i hi => ⟨(ef.2.2.2.2.2.1 i).trans (h14 i hi).1, (el.2.2.2.2.2.1 i).trans (h14 i hi).2⟩⟩
theorem nI_pm {y : Nat} (h : 0 < y) : nI y - 1 = nI (y - 1) := by
  cases y with
  | zero => omega
  | succ y => exact nI_pred y
theorem nI_ltp {x y : Nat} (hx : x < 2 ^ 30) (hy : y < 2 ^ 30) : nI y - 1 < nI x ↔ ¬ x < y := by
  rw [Int32.lt_iff_toInt_lt, show (1 : Int32) = nI 1 by decide, pk_sub_toInt hy (by decide), nI_toInt (by omega)]
  omega
section SP
variable {E : wo_E} {mc ms : Nat} {G G0 : wo_W} {z f l : Nat} {ps : List (Nat × Nat)}
theorem sp_note {Post : wo_W → Prop} {x y : Nat} (h : pc_at E G z f l ps) (hx : x < 2 ^ 30) (hy : y < 2 ^ 30) (hp : ∀ G', pc_at E G' z f l (np_of ps x y) → fr_W (pc_W z f l) G G' → (∀ a, wo_ty G' a = wo_ty G a) → wo_gr G' 192 z = wo_gr G 192 z → Post G') : pq_Sh_notePiece E mc ms Post G z (nI x) (nI y - 1) := by
  have hne := h.ne
  have hh := h
  obtain ⟨h1, h2, h3, h4, h5, h6, h7, h8, h9, h10, h11, h12, h13, h14⟩ := hh
  unfold pq_Sh_notePiece pq_Sh_notePiece_0 pq_Sh_notePiece_43
  rw [nI_ltp hx hy]
  have no : ¬ (x < y ∧ ps.length < 2) → Post G := by
    intro q
    refine hp G ?_ (fr_rf _ _) (fun _ => rfl) rfl
    unfold np_of
    rw [if_neg q]
    exact h
  refine ⟨fun q => no (fun w => q w.1), fun q => ⟨h1, fun q2 => no (fun w => ?_), fun q2 => ?_⟩⟩
  · rw [h12] at q2
    exact absurd ((nI_leI (a := 2) (by decide) (by omega)).mp q2) (by omega)
  · have hxy : x < y := Classical.byContradiction q
    have hl : ps.length < 2 := by
      rcases Nat.lt_or_ge ps.length 2 with w | w
      · exact w
      · exact absurd (by rw [h12]; exact nI_le (a := 2) w (by omega)) q2
    intro r hr
    refine ⟨f, hr.trans h3, h4, by rw [h12, h6]; exact vp_in_nI hl (by decide), h5, fun G1 e1 r10 hr10 => ?_⟩
    rw [h12, nI_clamp (by omega)] at e1
    have hz1 : wo_eq G G1 z := by rw [e1]; exact (wo_set_i (ty := .int) rfl).1 z hne.1
    have hl1 : wo_eq G G1 l := by rw [e1]; exact (wo_set_i (ty := .int) rfl).1 l (fun w => h11 w.symm)
    have g1 : wo_gi G1 195 z = nI ps.length := (hz1.2.2.1 _).trans h12
    refine ⟨l, hr10.trans ((hz1.2.2.2.2.1 _).trans h7), hl1.1.trans h8, by rw [g1, hl1.2.1, h10]; exact vp_in_nI hl (by decide), h9, fun G2 e2 => ⟨h2, fun G3 e3 => ?_⟩⟩
    rw [g1, nI_clamp (by omega), nI_pm (by omega)] at e2
    have g2 : wo_gi G2 195 z = nI ps.length := by rw [e2]; exact g1
    rw [g2, nI_1] at e3
    have hty : ∀ a, wo_ty G3 a = wo_ty G a := fun a => by rw [e3, e2, e1]; rfl
    have hps : (ps ++ [(x, y - 1)]).length = ps.length + 1 := by simp
    have ef : ∀ i, wo_ei G3 f i = if i = ps.length then nI x else wo_ei G f i := by
      intro i
      have a1 : wo_ei G3 f i = wo_ei G2 f i := by rw [e3]; rfl
      have a2 : wo_ei G2 f i = wo_ei G1 f i := by
        rw [e2]
        exact ((wo_set_i (ty := .int) rfl).1 f h11).2.2.2.2.2.1 i
      rw [a1, a2, e1, ei_set]
    have el : ∀ i, wo_ei G3 l i = if i = ps.length then nI (y - 1) else wo_ei G l i := by
      intro i
      have a1 : wo_ei G3 l i = wo_ei G2 l i := by rw [e3]; rfl
      rw [a1, e2, ei_set, hl1.2.2.2.2.2.1 i]
    refine hp G3 ?_ ?_ hty (by rw [e3, e2, e1]; rfl)
    · unfold np_of
      rw [if_pos ⟨hxy, hl⟩]
      refine ⟨by rw [hty]; exact h1, h2, by rw [e3, e2, e1]; exact h3, by rw [hty]; exact h4, h5, by rw [e3, e2, e1]; exact h6, by rw [e3, e2, e1]; exact h7, by rw [hty]; exact h8, h9, by rw [e3, e2, e1]; exact h10, h11, by rw [e3, hps]; simp [wo_gi, wo_si, wo_u2], by rw [hps]; omega, fun i hi => ?_⟩
      rw [hps] at hi
      rw [ef, el]
      by_cases w : i = ps.length
      · rw [if_pos w, if_pos w, w]
        have : (ps ++ [(x, y - 1)]).getD ps.length (0, 0) = (x, y - 1) := by simp
        rw [this]
        exact ⟨rfl, rfl⟩
      · rw [if_neg w, if_neg w]
        have : (ps ++ [(x, y - 1)]).getD i (0, 0) = ps.getD i (0, 0) := by
          rw [List.getD_eq_getElem?_getD, List.getD_eq_getElem?_getD, List.getElem?_append_left (by omega)]
        rw [this]
        exact h14 i (by omega)
    · rw [e3, e2, e1]
      exact fr_tr (fr_tr (fr_sei (Or.inr (Or.inl rfl))) (fr_sei (Or.inr (Or.inr rfl)))) (fr_si (Or.inl rfl))
end SP
