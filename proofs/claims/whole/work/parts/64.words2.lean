def kx_tx (i : Nat) : List Nat := [[], [], [], [71, 69, 84], [72, 69, 65, 68], [80, 85, 84], [68, 69, 76, 69, 84, 69], [48, 49, 50, 51, 52, 53, 54, 55, 56, 57, 65, 66, 67, 68, 69, 70], [46, 46], [46], [99], [42], [], [75, 58], [89, 58, 86, 10], [80, 58], [82, 58, 42, 47], [10, 76, 58, 48, 10, 10], [82, 58]].getD i []
def kx_ok (E : wo_E) (G : wo_W) : Prop := (∀ i, i < 19 → en_str E i < en_bs E ∧ tx_S G (en_str E i) (kx_tx i) ∧ ∀ b, wo_gr G 576 (en_str E i) = some b → b < en_bs E) ∧ sta_ok E G ∧ en_sta E 0 < en_bs E ∧ wo_ty G (en_sta E 0) = 71 ∧ wo_len G (en_sta E 0) = 0
theorem kx_ok.fr {E : wo_E} {G G1 : wo_W} {W : Nat → Prop} (h : kx_ok E G) (f : fr_W W G G1) (hW : ∀ a, W a → en_bs E ≤ a) : kx_ok E G1 := by
  refine ⟨fun i hi => ?_, h.2.1.fr f hW, h.2.2.1, ?_, ?_⟩
  · obtain ⟨a1, a2, a3⟩ := h.1 i hi
    refine ⟨a1, a2.fr f (fun q => absurd (hW _ q) (by omega)) (fun b hb q => absurd (hW _ q) (by have := a3 b hb; omega)), fun b hb => a3 b ?_⟩
    rw [← (f.2 _ (by rw [a2.1]; decide) (fun q => absurd (hW _ q) (by omega))).2.2.2.2.1 576]
    exact hb
  · rw [(f.2 _ (by rw [h.2.2.2.1]; decide) (fun q => absurd (hW _ q) (by have := h.2.2.1; omega))).1]; exact h.2.2.2.1
  · rw [(f.2 _ (by rw [h.2.2.2.1]; decide) (fun q => absurd (hW _ q) (by have := h.2.2.1; omega))).2.1]; exact h.2.2.2.2
theorem kx_start {E : wo_E} {G : wo_W} {b L : Nat} {xs : Nat → Int32} (h : sx_0 E G b L xs) : kx_ok E G := by
  obtain ⟨_, h1, h2, h3, h4, _⟩ := h
  refine ⟨fun i hi => ?_, ⟨h2, h3⟩, h4⟩
  obtain ⟨a1, a2, a3, v, a4, a5, a6, a7, a8⟩ := h1 i hi
  have key : ∀ i, i < 19 → (kx_tx i).length = (sx_by i).length ∧ (kx_tx i).length ≤ 65536 ∧ (∀ c ∈ kx_tx i, c < 256) ∧ ∀ j, j < (kx_tx i).length → (sx_by i).getD j 0 = sb_b ((kx_tx i).getD j 0) := by decide +kernel
  obtain ⟨b1, b2, b3, b4⟩ := key i hi
  refine ⟨a1, ⟨a2, a3, b2, b3, v, a5, a6, a7.trans b1.symm, fun j hj => (a8 j (b1 ▸ hj)).trans (b4 j hj)⟩, fun b hb => ?_⟩
  rw [a5] at hb
  cases hb
  exact a4
def mt_go (t : List Nat) (g : Nat) : Nat → Nat → Nat → Bool
  | 0, _, _ => false
  | k + 1, p, e => if e = t.length ∨ t.getD e 0 = 44 then (if wh_of (tx_sub t p e) = some g then true else mt_go t g k (e + 1) (e + 1)) else mt_go t g k p (e + 1)
def mt_of (t : List Nat) (g : Nat) : Bool := if t = [42] then true else mt_go t g (t.length + 1) 0 0
theorem wh_lt : ∀ (l : List Nat) (r n : Nat), wh_go r l = some n → n < (r + 1) * 10 ^ l.length := by
  intro l
  induction l with
  | nil =>
    intro r n h
    cases h
    simp
  | cons d l ih =>
    intro r n h
    rw [wh_go] at h
    by_cases z : 48 ≤ d ∧ d ≤ 57
    · rw [if_pos z] at h
      have h2 := ih _ _ h
      refine Nat.lt_of_lt_of_le h2 ?_
      rw [List.length_cons, Nat.pow_succ, Nat.mul_comm (10 ^ l.length) 10, ← Nat.mul_assoc]
      exact Nat.mul_le_mul_right _ (by omega)
    · rw [if_neg z] at h
      cases h
theorem wh_b {l : List Nat} {n : Nat} (hl : l.length ≤ 8) (h : wh_of l = some n) : n < 10 ^ 8 := by
  unfold wh_of at h
  by_cases z : l = []
  · rw [if_pos z] at h; cases h
  · rw [if_neg z] at h
    have := wh_lt l 0 n h
    have h8 : 10 ^ l.length ≤ 10 ^ 8 := Nat.pow_le_pow_right (by decide) hl
    omega
theorem wh_eq {l : List Nat} {g : Nat} (hl : l.length ≤ 8) (hg : g < 2 ^ 31) : wh_I (wh_of l) = nI g ↔ wh_of l = some g := by
  cases h : wh_of l with
  | none =>
    refine ⟨fun q => absurd q (fun z => ?_), fun q => absurd q (by simp)⟩
    exact nI_pos hg (show nI g < 0 by rw [← show (-1 : Int32) = nI g from z]; decide)
  | some n =>
    have hn := wh_b hl h
    refine ⟨fun q => ?_, fun q => ?_⟩
    · rw [(nI_eq (by omega) hg).mp q]
    · cases q; rfl
theorem tx_sub_le {t : List Nat} {p e : Nat} : (tx_sub t p e).length ≤ t.length := by
  simp only [tx_sub, List.length_take, List.length_drop]
  omega
section SP
variable {E : wo_E} {mc ms : Nat} {G : wo_W} {a : Nat} {t : List Nat}
theorem sp_mtLoop {Post : Int32 → wo_W → Prop} {c s g : Nat} (h : tx_S G a t) (ht : t.length ≤ 8) (hg : g < 2 ^ 31) (hc : c ≤ mc) (hs : s ≤ ms) : ∀ (k p e : Nat), t.length + 1 - e = k → e ≤ t.length + 1 → p ≤ e → Post (bo_I (mt_go t g k p e)) G →
    ∃ n, pq_Tx_matches_15 E mc ms Post n G c s (some a) (nI g) (nI p) (nI e) := by
  intro k
  induction k with
  | zero =>
    intro p e hk he hpe hp
    refine ⟨1, a, rfl, h.1, 0, 0, hc, hs, sp_length h ⟨fun _ => hp, fun q => absurd (nI_lt (by omega) (by omega)) q⟩⟩
  | succ k ih =>
    intro p e hk he hpe hp
    have h1 : ∀ n, (e < t.length ∧ ¬ t.getD e 0 = 44 → pq_Tx_matches_15 E mc ms Post n G c s (some a) (nI g) (nI p) (nI (e + 1))) → (e = t.length ∨ t.getD e 0 = 44 → ¬ wh_of (tx_sub t p e) = some g → pq_Tx_matches_15 E mc ms Post n G c s (some a) (nI g) (nI (e + 1)) (nI (e + 1))) → (e = t.length ∨ t.getD e 0 = 44 → wh_of (tx_sub t p e) = some g → Post 1 G) → pq_Tx_matches_15 E mc ms Post (n + 1) G c s (some a) (nI g) (nI p) (nI e) := by
      intro n n1 n2 n3
      have h41 : e = t.length ∨ t.getD e 0 = 44 → pq_Tx_matches_41 E mc ms Post (pq_Tx_matches_15 E mc ms Post n) G c s (some a) (nI g) (nI p) (nI e) := by
        intro z
        refine ⟨0, 0, hc, hs, sp_whole h hpe (by omega) ⟨fun q => ?_, fun q => ?_⟩⟩
        · have q2 : ¬ wh_of (tx_sub t p e) = some g := fun y => q ((wh_eq (Nat.le_trans tx_sub_le ht) hg).mpr y)
          show pq_Tx_matches_15 E mc ms Post n G c s (some a) (nI g) (nI e + 1) (nI e + 1)
          rw [nI_1]
          exact n2 z q2
        · exact n3 z ((wh_eq (Nat.le_trans tx_sub_le ht) hg).mp q)
      refine ⟨a, rfl, h.1, 0, 0, hc, hs, sp_length h ⟨fun q => absurd ((nI_ltI (by omega) (by omega)).mp q) (by omega), fun _ => ⟨h.1, 0, 0, hc, hs, sp_length h ⟨fun q => ?_, fun q => ?_⟩⟩⟩⟩
      · exact h41 (Or.inl ((nI_eq (by omega) (by omega)).mp q))
      · have q2 : e < t.length := by
          rcases Nat.lt_or_ge e t.length with y | y
          · exact y
          · exact absurd (by rw [show e = t.length by omega]) q
        have hd := h.2.2.2.1 _ (tx_mem (t := t) (i := e) q2)
        refine ⟨h.1, 0, 0, hc, hs, sp_charAt h q2 ⟨fun q3 => ?_, fun q3 => ?_⟩⟩
        · show pq_Tx_matches_15 E mc ms Post n G c s (some a) (nI g) (nI p) (nI e + 1)
          rw [nI_1]
          exact n1 ⟨q2, fun y => q3 (by rw [y]; rfl)⟩
        · exact h41 (Or.inr ((nI_eq (b := 44) (by omega) (by decide)).mp q3))
    rw [mt_go] at hp
    by_cases z : e = t.length ∨ t.getD e 0 = 44
    · rw [if_pos z] at hp
      by_cases y : wh_of (tx_sub t p e) = some g
      · rw [if_pos y] at hp
        exact ⟨1, h1 0 (fun q => absurd z (by omega)) (fun _ q => absurd y q) (fun _ _ => hp)⟩
      · rw [if_neg y] at hp
        obtain ⟨n, hn⟩ := ih (e + 1) (e + 1) (by omega) (by omega) (by omega) hp
        exact ⟨n + 1, h1 n (fun q => absurd z (by omega)) (fun _ _ => hn) (fun _ q => absurd q y)⟩
    · rw [if_neg z] at hp
      obtain ⟨n, hn⟩ := ih p (e + 1) (by omega) (by omega) (by omega) hp
      exact ⟨n + 1, h1 n (fun _ => hn) (fun q => absurd q z) (fun q => absurd q z)⟩
theorem sp_matches {Post : Int32 → wo_W → Prop} {g : Nat} (hk : kx_ok E G) (h : tx_S G a t) (ht : t.length ≤ 8) (hg : g < 2 ^ 31) (hp : Post (bo_I (mt_of t g)) G) : pq_Tx_matches E mc ms Post G (some a) (nI g) := by
  unfold pq_Tx_matches pq_Tx_matches_0
  refine ⟨a, rfl, h.1, 0, 0, Nat.zero_le _, Nat.zero_le _, sp_equals h (hk.1 11 (by decide)).2.1 ⟨fun q => ?_, fun q => ?_⟩⟩
  · have z : ¬ t = [42] := fun z => by rw [if_pos (show t = kx_tx 11 from z)] at q; exact absurd q (by decide)
    unfold mt_of at hp
    rw [if_neg z] at hp
    exact sp_mtLoop h ht hg (Nat.zero_le _) (Nat.zero_le _) _ 0 0 (by omega) (by omega) (by omega) hp
  · have z : t = [42] := by
      apply Classical.byContradiction
      intro z
      exact q (if_neg z)
    unfold mt_of at hp
    rw [if_pos z] at hp
    exact hp
theorem nb_lt : ∀ (l : List Nat) (x k : Nat) (st : Option (Option Nat)) (b : Bool), nb_v st < 10 ^ k → nb_v (nb_go x st b l) < 10 ^ (k + l.length) := by
  intro l
  induction l with
  | nil => intro x k st b h; exact h
  | cons d l ih =>
    intro x k st b h
    have hpos : 0 < 10 ^ k := Nat.pow_pos (by decide)
    have h10 : 10 ^ (k + 1) = 10 * 10 ^ k := by rw [Nat.pow_succ, Nat.mul_comm]
    rw [nb_go, List.length_cons, show k + (l.length + 1) = (k + 1) + l.length by omega]
    by_cases y : d = x
    · rw [if_pos y]
      exact ih _ _ _ _ (by show 0 < 10 ^ (k + 1); omega)
    · rw [if_neg y]
      by_cases z : b = true ∧ 48 ≤ d ∧ d ≤ 57
      · rw [if_pos z]
        exact ih _ _ _ _ (by show 10 * nb_v st + (d - 48) < 10 ^ (k + 1); omega)
      · rw [if_neg z]
        exact ih _ _ _ _ (by omega)
theorem nb_b {l : List Nat} {x : Nat} (hl : l.length ≤ 8) : nb_v (nb_of x l) < 10 ^ 8 := by
  have := nb_lt l x 0 none false (by decide)
  have h8 : 10 ^ (0 + l.length) ≤ 10 ^ 8 := Nat.pow_le_pow_right (by decide) (by omega)
  unfold nb_of
  omega
def tx_O (G : wo_W) (r : Option Nat) (o : Option (List Nat)) : Prop := match r, o with
  | none, none => True
  | some a, some t => tx_S G a t ∧ t.length ≤ 8
  | _, _ => False
theorem nb_oI {o : Option (List Nat)} {x : Nat} (h : ∀ t, o = some t → t.length ≤ 8) : nb_I (nb_o x o) = -2 ↔ nb_o x o = none := by
  apply nb_I2
  rcases o with _ | t
  · show 0 < 2 ^ 31
    decide
  · exact Nat.lt_trans (nb_b (h t rfl)) (by decide)
theorem sp_numberO {Post : Int32 → wo_W → Prop} {x : Nat} {r : Option Nat} {o : Option (List Nat)} (h : tx_O G r o) (hx : x < 256) (hp : Post (nb_I (nb_o x o)) G) : pq_Tx_number E mc ms Post G r (nI x) := by
  rcases r with _ | a <;> rcases o with _ | t
  · exact sp_numberN hp
  · exact h.elim
  · exact h.elim
  · exact sp_number h.1 h.2 hx hp
theorem tx_O.le {r : Option Nat} {o : Option (List Nat)} (h : tx_O G r o) : ∀ t, o = some t → t.length ≤ 8 := by
  intro t e
  subst e
  rcases r with _ | a
  · exact h.elim
  · exact h.2
theorem sp_counts {Post : Int32 → wo_W → Prop} {x : Nat} {r : Option Nat} {o : Option (List Nat)} (h : tx_O G r o) (hx : x < 256) (hp : Post (bo_I (nb_o x o).isSome) G) : pq_Tx_counts E mc ms Post G r (nI x) := by
  unfold pq_Tx_counts pq_Tx_counts_0 pq_Tx_counts_15
  refine ⟨0, 0, Nat.zero_le _, Nat.zero_le _, sp_numberO h hx ⟨fun q => ⟨tx_ok0, ?_⟩, fun q => ⟨tx_ok1, ?_⟩⟩⟩
  · rw [(nb_oI h.le).mp q] at hp
    exact hp
  · cases hh : nb_o x o with
    | none => exact absurd ((nb_oI h.le).mpr hh) q
    | some y => rw [hh] at hp; exact hp
theorem sp_hex {Post : Int32 → wo_W → Prop} {d : Nat} (hd : d < 65536) (hp : Post (wh_I (hx_of d)) G) : pq_Tx_hexadecimal E mc ms Post G (nI d) := by
  unfold pq_Tx_hexadecimal pq_Tx_hexadecimal_0 pq_Tx_hexadecimal_32 pq_Tx_hexadecimal_54 pq_Tx_hexadecimal_55
  unfold hx_of at hp
  refine ⟨0, 0, Nat.zero_le _, Nat.zero_le _, sp_isDigit hd ?_⟩
  rw [show (65 : Int32) = nI 65 by decide, show (70 : Int32) = nI 70 by decide, show (97 : Int32) = nI 97 by decide, show (102 : Int32) = nI 102 by decide, show (48 : Int32) = nI 48 by decide, show (10 : Int32) = nI 10 by decide, nI_ltI (by omega) (by omega), nI_ltI (by omega) (by omega), nI_ltI (by omega) (by omega), nI_ltI (by omega) (by omega)]
  by_cases z : 48 ≤ d ∧ d ≤ 57
  · rw [if_pos z] at hp ⊢
    refine ⟨fun q => absurd q (by decide), fun _ => ?_⟩
    rw [pk_sub z.1]
    exact hp
  · rw [if_neg z] at hp ⊢
    refine ⟨fun _ => ?_, fun q => absurd rfl q⟩
    have h32 : ¬ (65 ≤ d ∧ d ≤ 70) → (d < 97 → Post (-1) G) ∧ (¬ d < 97 → (102 < d → Post (-1) G) ∧ (¬ 102 < d → Post (nI d - nI 97 + nI 10) G)) := by
      intro y
      rw [if_neg y] at hp
      refine ⟨fun q => ?_, fun q => ⟨fun q2 => ?_, fun q2 => ?_⟩⟩
      · rw [if_neg (by omega)] at hp; exact hp
      · rw [if_neg (by omega)] at hp; exact hp
      · rw [if_pos (by omega)] at hp
        rw [pk_sub (by omega), nI_add, show d - 97 + 10 = d - 87 by omega]
        exact hp
    refine ⟨fun q => h32 (by omega), fun q => ⟨fun q2 => h32 (by omega), fun q2 => ?_⟩⟩
    rw [if_pos (by omega)] at hp
    rw [pk_sub (by omega), nI_add, show d - 65 + 10 = d - 55 by omega]
    exact hp
end SP
