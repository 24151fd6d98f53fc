def dg_of (v : Nat) : Nat := if v < 10 then 48 + v else 55 + v
def pr_of (h l : Nat) : List Nat := if pl_of (16 * h + l) = true then [16 * h + l] else [37, dg_of h, dg_of l]
def de_go (t : List Nat) : Nat → Nat → List Nat → Option (List Nat)
  | 0, _, r => some r
  | k + 1, i, r => if t.length ≤ i then some r else if t.getD i 0 < 33 ∨ 126 < t.getD i 0 then none else if t.getD i 0 = 37 then (if i + 2 < t.length then (match hx_of (t.getD (i + 1) 0), hx_of (t.getD (i + 2) 0) with
    | some h, some l => de_go t k (i + 3) (r ++ pr_of h l)
    | _, _ => none) else none) else de_go t k (i + 1) (r ++ [t.getD i 0])
def de_of (t : List Nat) : Option (List Nat) := if t = [] then none else if t.getD 0 0 = 47 then de_go t (t.length + 1) 0 [] else none
theorem hx_lt {d n : Nat} (h : hx_of d = some n) : n < 16 := by
  unfold hx_of at h
  by_cases a : 48 ≤ d ∧ d ≤ 57
  · rw [if_pos a] at h; cases h; omega
  · rw [if_neg a] at h
    by_cases b : 65 ≤ d ∧ d ≤ 70
    · rw [if_pos b] at h; cases h; omega
    · rw [if_neg b] at h
      by_cases c : 97 ≤ d ∧ d ≤ 102
      · rw [if_pos c] at h; cases h; omega
      · rw [if_neg c] at h; cases h
theorem pr_len {h l : Nat} : (pr_of h l).length ≤ 3 := by
  unfold pr_of
  split <;> simp
theorem wo_c256 {c : Nat} (h : c < 256) : wo_i2c (nI c) = nI c := (sb_byte c h).2.1
section SP
variable {E : wo_E} {mc ms : Nat} {G G0 : wo_W} {a b v0 : Nat} {t u : List Nat}
theorem pl_iff {m : Nat} : pl_of m = true ↔ (48 ≤ m ∧ m ≤ 57) ∨ (65 ≤ m ∧ m ≤ 90) ∨ (97 ≤ m ∧ m ≤ 122) ∨ m = 45 ∨ m = 46 ∨ m = 95 ∨ m = 126 := by
  unfold pl_of
  simp only [Bool.or_eq_true, Bool.and_eq_true, decide_eq_true_eq, beq_iff_eq]
  omega
theorem sp_isPlain {Post : Int32 → wo_W → Prop} {m : Nat} (hm : m < 65536) (hp : Post (bo_I (pl_of m)) G) : pq_Tx_isPlain E mc ms Post G (nI m) := by
  have h1 : ((48 ≤ m ∧ m ≤ 57) ∨ (65 ≤ m ∧ m ≤ 90) ∨ (97 ≤ m ∧ m ≤ 122) ∨ m = 45 ∨ m = 46 ∨ m = 95 ∨ m = 126) → wo_okI .boolean (1 : Int32) ∧ Post 1 G := by
    intro z
    rw [pl_iff.mpr z] at hp
    exact ⟨tx_ok1, hp⟩
  have h0 : ¬ ((48 ≤ m ∧ m ≤ 57) ∨ (65 ≤ m ∧ m ≤ 90) ∨ (97 ≤ m ∧ m ≤ 122) ∨ m = 45 ∨ m = 46 ∨ m = 95 ∨ m = 126) → wo_okI .boolean (0 : Int32) ∧ Post 0 G := by
    intro z
    cases hb : pl_of m with
    | true => exact absurd (pl_iff.mp hb) z
    | false => rw [hb] at hp; exact ⟨tx_ok0, hp⟩
  unfold pq_Tx_isPlain pq_Tx_isPlain_0 pq_Tx_isPlain_19 pq_Tx_isPlain_31 pq_Tx_isPlain_55 pq_Tx_isPlain_60
  refine ⟨0, 0, Nat.zero_le _, Nat.zero_le _, sp_isDigit hm ?_⟩
  rw [show (45 : Int32) = nI 45 by decide, show (46 : Int32) = nI 46 by decide, show (95 : Int32) = nI 95 by decide, show (126 : Int32) = nI 126 by decide, show (97 : Int32) = nI 97 by decide, show (122 : Int32) = nI 122 by decide, show (65 : Int32) = nI 65 by decide, show (90 : Int32) = nI 90 by decide]
  simp only [nI_ltI (a := m) (b := 97) (by omega) (by omega), nI_ltI (a := m) (b := 65) (by omega) (by omega), nI_leI (a := m) (b := 122) (by omega) (by omega), nI_leI (a := m) (b := 90) (by omega) (by omega), nI_eq (a := m) (b := 45) (by omega) (by omega), nI_eq (a := m) (b := 46) (by omega) (by omega), nI_eq (a := m) (b := 95) (by omega) (by omega), nI_eq (a := m) (b := 126) (by omega) (by omega)]
  by_cases z : 48 ≤ m ∧ m ≤ 57
  · rw [if_pos z]
    exact ⟨fun _ => h1 (by omega), fun q => absurd q (by decide)⟩
  · rw [if_neg z]
    refine ⟨fun q => absurd rfl q, fun _ => ?_⟩
    have h31 : ¬ (65 ≤ m ∧ m ≤ 90) → ¬ (97 ≤ m ∧ m ≤ 122) → (m = 45 → wo_okI .boolean (1 : Int32) ∧ Post 1 G) ∧ (¬ m = 45 → (m = 46 → wo_okI .boolean (1 : Int32) ∧ Post 1 G) ∧ (¬ m = 46 → (m = 95 → wo_okI .boolean (1 : Int32) ∧ Post 1 G) ∧ (¬ m = 95 → (¬ m = 126 → wo_okI .boolean (0 : Int32) ∧ Post 0 G) ∧ (m = 126 → wo_okI .boolean (1 : Int32) ∧ Post 1 G)))) :=
      fun x y => ⟨fun q => h1 (by omega), fun q => ⟨fun q2 => h1 (by omega), fun q2 => ⟨fun q3 => h1 (by omega), fun q3 => ⟨fun q4 => h0 (by omega), fun q4 => h1 (by omega)⟩⟩⟩⟩
    have h19 : ¬ (65 ≤ m ∧ m ≤ 90) → _ := fun x => (⟨fun q => h31 x (by omega), fun q => ⟨fun q2 => h1 (by omega), fun q2 => h31 x (by omega)⟩⟩ : (m < 97 → _) ∧ (¬ m < 97 → (m ≤ 122 → _) ∧ (¬ m ≤ 122 → _)))
    exact ⟨fun q => h19 (by omega), fun q => ⟨fun q2 => h1 (by omega), fun q2 => h19 (by omega)⟩⟩
theorem sp_appendPair {Post : wo_W → Prop} {h l : Nat} (hb : sg_ev E G0 v0 a G t) (hk : kx_ok E G0) (ha : en_bs E ≤ a) (hv : en_bs E ≤ v0) (hh : h < 16) (hl : l < 16) (hn : t.length + 3 ≤ 4096) (h1 : 3 ≤ mc) (h2 : 6 * (t.length + 3) ≤ ms) (hp : ∀ G', sg_ev E G0 v0 a G' (t ++ pr_of h l) → Post G') : pq_Tx_appendPair E mc ms Post G (some a) (nI h) (nI l) := by
  have key : ∀ v, v < 16 → (kx_tx 7).getD v 0 = dg_of v ∧ dg_of v < 256 := by decide
  unfold pq_Tx_appendPair pq_Tx_appendPair_0
  rw [show (16 : Int32) = nI 16 by decide, pk_mul, nI_add, Nat.mul_comm h 16, wo_c256 (by omega)]
  refine ⟨0, 0, Nat.zero_le _, Nat.zero_le _, sp_isPlain (by omega) ⟨fun q => ?_, fun q => ?_⟩⟩
  · have hpl : ¬ pl_of (16 * h + l) = true := fun z => by rw [z] at q; exact absurd q (by decide)
    unfold pr_of at hp
    rw [if_neg hpl] at hp
    have hs7 : ∀ G' u, sg_ev E G0 v0 a G' u → tx_S G' (en_str E 7) (kx_tx 7) := fun G' u z => ((z.kx hk ha hv).1 7 (by decide)).2.1
    refine ⟨a, rfl, hb.ty, 1, 2 * (t.length + 3), by omega, by omega, ev_C (c := 37) hb (by decide) (by omega) (by omega) (by omega) (fun G1 e1 => ?_)⟩
    have e1' : (t ++ [37]).length = t.length + 1 := by simp
    refine ⟨(hs7 G1 _ e1).1, 0, 0, by omega, by omega, sp_charAt (hs7 G1 _ e1) (by show h < 16; omega) ?_⟩
    rw [(key h hh).1]
    refine ⟨e1.ty, 1, 2 * (t.length + 3), by omega, by omega, ev_C e1 (key h hh).2 (by omega) (by omega) (by omega) (fun G2 e2 => ?_)⟩
    have e2' : (t ++ [37] ++ [dg_of h]).length = t.length + 2 := by simp
    refine ⟨(hs7 G2 _ e2).1, 0, 0, by omega, by omega, sp_charAt (hs7 G2 _ e2) (by show l < 16; omega) ?_⟩
    rw [(key l hl).1]
    refine ⟨e2.ty, 1, 2 * (t.length + 3), by omega, by omega, ev_C e2 (key l hl).2 (by omega) (by omega) (by omega) (fun G3 e3 => hp G3 ?_)⟩
    simpa using e3
  · have hpl : pl_of (16 * h + l) = true := by
      cases z : pl_of (16 * h + l) with
      | true => rfl
      | false => rw [z] at q; exact absurd rfl q
    unfold pr_of at hp
    rw [if_pos hpl] at hp
    exact ⟨a, rfl, hb.ty, 1, 2 * (t.length + 3), by omega, by omega, ev_C hb (by omega) (by omega) (by omega) (by omega) hp⟩
end SP
