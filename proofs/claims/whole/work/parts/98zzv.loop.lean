def scr (E : wo_E) (G : wo_W) (b L : Nat) (xs : Nat → Int32) : Prop := b < en_bs E ∧ wo_ty G b = 66 ∧ wo_len G b = L ∧ ∀ j, j < L → wo_ei G b j = xs j
def LI (E : wo_E) (b L : Nat) (xs : Nat → Int32) (x m : Nat) (A : Nat → Nat) (ca : Nat) (cad : Nat → Nat) (og so sh sj wl cap i : Nat) (raf : Nat → Nat → Nat) (ow : Nat → Nat) (G : wo_W) (S : hdT) (now k : Nat) : Prop :=
  cx E ow G ∧ ec_S E ow G x ca cad raf og so sh sj wl S cap now ∧ mr E ow m A G S cap now k ∧ sok S cap now k ∧ k ≤ 8 * i ∧ now ≤ 1000 * i ∧ scr E G b L xs
section LW
variable {E : wo_E} {b L x m ca og so sh sj wl cap i now k : Nat} {xs : Nat → Int32} {A : Nat → Nat} {cad : Nat → Nat} {raf raf' : Nat → Nat → Nat} {ow ow1 : Nat → Nat} {G G1 G2 : wo_W} {S S1 : hdT} {R : Nat → Prop}
theorem scr.xt (h : scr E G b L xs) (hb : ow_b E ow G) (y : xt E R ow G ow1 G1) (h0 : ¬ R 0) : scr E G1 b L xs := by
  obtain ⟨h1, h2, h3, h4⟩ := h
  have zb : wo_ty G b ≠ 0 := by rw [h2]; decide
  have e0 : ow b = 0 := by
    apply Decidable.byContradiction
    intro z
    have := (hb b z).1
    omega
  have e := y.eq zb (by rw [e0]; exact h0)
  exact ⟨h1, e.1.trans h2, e.2.1.trans h3, fun j hj => (e.2.2.2.2.2.1 j).trans (h4 j hj)⟩
theorem R0_Rec : ¬ Rec 0 := fun z => z.1 rfl
theorem R0_9 : ¬ R9 0 := by decide
theorem bl_len {e : Int64} : ∀ j, (bl_of e j).length = j := by
  intro j
  induction j with
  | zero => rfl
  | succ j ih => show (bl_of e j).length + 1 = j + 1; rw [ih]
theorem li_sub {L x : Nat} (hL : L < 2 ^ 30) (hx : x < 2 ^ 30) : nI L - 4 < nI x ↔ L < x + 4 := by
  by_cases z : 4 ≤ L
  · rw [show (4 : Int32) = nI 4 from rfl, pk_sub z, nI_ltI (by omega) (by omega)]
    omega
  · have h1 : nI L - 4 < 0 := by
      rcases (by omega : L = 0 ∨ L = 1 ∨ L = 2 ∨ L = 3) with q | q | q | q <;> subst q <;> decide
    exact ⟨fun _ => by omega, fun _ => Int32.lt_of_lt_of_le h1 (nI_pos' (by omega))⟩
theorem LI_mid (h : LI E b L xs x m A ca cad og so sh sj wl cap i raf ow G S now k) (y : xt E Rec ow G ow1 G1) : mr E ow1 m A G1 S cap now k ∧ scr E G1 b L xs := ⟨mr_Rec h.2.2.1 h.1.2 y, h.2.2.2.2.2.2.xt h.1.2 y R0_Rec⟩
theorem LI_end {now' k' : Nat} (c1 : cx E ow1 G1) (e1 : ec_S E ow1 G1 x ca cad raf' og so sh sj wl S1 cap now') (s1 : scr E G1 b L xs) (m2 : mf E ow1 m A PT G1 G2) (r2 : mr E ow1 m A G2 S1 cap now' k') (o2 : sok S1 cap now' k') (hk : k' ≤ 8 * (i + 1)) (hn : now' ≤ 1000 * (i + 1)) : LI E b L xs x m A ca cad og so sh sj wl cap (i + 1) raf' ow1 G2 S1 now' k' :=
  ⟨c1.xt m2.1.1 R0_9, ec_9 e1 c1 o2.2.1.b m2.1.1, r2, o2, hk, hn, s1.xt c1.2 m2.1.1 R0_9⟩
theorem LI_same (h : LI E b L xs x m A ca cad og so sh sj wl cap i raf ow G S now k) : LI E b L xs x m A ca cad og so sh sj wl cap (i + 1) raf ow G S now k := by
  obtain ⟨h1, h2, h3, h4, h5, h6, h7⟩ := h
  exact ⟨h1, h2, h3, h4, by omega, by omega, h7⟩
theorem mr_W (h : mr E ow m A G S cap now k) : ∃ W us o, wq (W, us) = (S.2.2.2.2.1, S.2.2.2.2.2) ∧ mjs m A G (rvf S.1) W us o := by
  obtain ⟨W, us, o, w1, w2, w3⟩ := h.2.2.2.2.2.1
  exact ⟨W, us, o, w1, w2⟩
theorem mr_K (h : mr E ow m A G S cap now k) : ∃ K n, K.map (fun x => x.2.2) = S.2.2.2.1 ∧ mss m A G K n := by
  obtain ⟨K, n, k1, k2, k3⟩ := h.2.2.2.2.1
  exact ⟨K, n, k1, k2⟩
end LW
