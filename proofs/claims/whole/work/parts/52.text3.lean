def tx_P (G : wo_W) (b : Nat) (t : List Nat) : Prop := wo_ty G b = 65 ∧ t.length ≤ wo_len G b ∧ (∀ i, i < t.length → wo_ei G b i = sb_b (t.getD i 0)) ∧ wo_fitA .byte G b
theorem tx_B.P {G : wo_W} {b : Nat} {t : List Nat} (h : tx_B G b t) : tx_P G b t := by
  refine ⟨h.1, Nat.le_of_eq h.2.1.symm, h.2.2, fun i hi => ?_⟩
  rw [h.2.1] at hi
  rw [h.2.2 i hi]
  exact sb_fitB _
theorem tx_P.eq {G G1 : wo_W} {b : Nat} {t : List Nat} (h : tx_P G b t) (e : wo_eq G G1 b) : tx_P G1 b t :=
  ⟨e.1.trans h.1, by rw [e.2.1]; exact h.2.1, fun i hi => (e.2.2.2.2.2.1 i).trans (h.2.2.1 i hi), fun i hi => by rw [e.2.2.2.2.2.1 i]; exact h.2.2.2 i (by rw [← e.2.1]; exact hi)⟩
def tx_sub (t : List Nat) (p e : Nat) : List Nat := (t.drop p).take (e - p)
theorem tx_sub_len {t : List Nat} {p e : Nat} (h : e ≤ t.length) : (tx_sub t p e).length = e - p := by
  simp only [tx_sub, List.length_take, List.length_drop]
  omega
theorem tx_sub_at {t : List Nat} {p e i : Nat} (hi : i < e - p) : (tx_sub t p e).getD i 0 = t.getD (p + i) 0 := by
  simp only [tx_sub, List.getD_eq_getElem?_getD, List.getElem?_take, List.getElem?_drop, if_pos hi]
theorem tx_sub_all {t : List Nat} : tx_sub t 0 t.length = t := by simp [tx_sub]
theorem tx_sub_mem {t : List Nat} {p e c : Nat} (h : c ∈ tx_sub t p e) : c ∈ t := List.mem_of_mem_drop (List.mem_of_mem_take h)
theorem nI_min {a b : Nat} (ha : a < 2 ^ 31) (hb : b < 2 ^ 31) : wo_min (nI a) (nI b) = nI (min a b) := by
  unfold wo_min
  by_cases h : b < a
  · rw [if_pos (nI_lt h ha), Nat.min_eq_right (by omega)]
  · rw [if_neg (nI_nlt (by omega) hb), Nat.min_eq_left (by omega)]
theorem nI_max {a b : Nat} (ha : a < 2 ^ 31) (hb : b < 2 ^ 31) : wo_max (nI a) (nI b) = nI (max a b) := by
  unfold wo_max
  by_cases h : a < b
  · rw [if_pos (nI_lt h hb), Nat.max_eq_right (by omega)]
  · rw [if_neg (nI_nlt (by omega) ha), Nat.max_eq_left (by omega)]
abbrev fr_0 : Nat → Prop := fun _ => False
theorem wo_ei_cp {G : wo_W} {a b sp dp n i : Nat} : wo_ei (wo_cpI G a b sp dp n) b i = va_cpy (wo_ei G a) (wo_ei G b) sp dp n i := by simp [wo_ei, wo_cpI, wo_ur]
section SP
variable {E : wo_E} {mc ms : Nat} {G : wo_W} {a b : Nat} {t u : List Nat}
theorem sp_copyRange {Post : Option Nat → wo_W → Prop} {p e : Nat} (h : tx_P G b t) (hl : wo_len G b ≤ 65536) (hpe : p ≤ e) (he : e ≤ t.length) (hbs : p = 0 → e = wo_len G b → en_bs E ≤ b) (h1 : 1 ≤ mc) (h2 : e - p ≤ ms)
    (hp : ∀ (q : Nat) (G' : wo_W), wo_ty G q = 0 → en_bs E ≤ q → fr_W fr_0 G G' → tx_B G' q (tx_sub t p e) → Post (some q) G') : pq_Ar_copyOfRange E mc ms Post G (some b) (nI p) (nI e) := by
  have h' := h
  obtain ⟨g1, g2, g3, g4⟩ := h'
  have key : pq_Ar_copyOfRange_10 E mc ms Post G 0 0 (some b) (nI p) (nI e) := by
    unfold pq_Ar_copyOfRange_10
    refine ⟨mc, ms, by omega, by omega, ?_⟩
    unfold pq_Ar_copyOfRangeByte pq_Ar_copyOfRangeByte_0
    refine ⟨0, 0, Nat.zero_le _, Nat.zero_le _, ?_⟩
    unfold pq_Ar_checkLength pq_Ar_checkLength_0
    refine ⟨fun _ => ?_, fun q => absurd (nI_le hpe (by omega)) q⟩
    rw [pk_sub hpe, nI_clamp (by omega)]
    refine ⟨nI_pos (by omega), by omega, by omega, by omega, fun q hq hqb G1 e1 => ?_⟩
    have hne : b ≠ q := fun q2 => by rw [q2, hq] at g1; cases g1
    have hfr : fr_W fr_0 G G1 := by rw [e1]; exact fr_na hq
    have hb1 := h.eq (hfr.2 b (by omega) (fun q => q))
    have hlen : wo_len G1 b = wo_len G b := (hfr.2 b (by omega) (fun q => q)).2.1
    have hq1 : wo_ty G1 q = 65 := by rw [e1]; exact ty_naq rfl
    have hql : wo_len G1 q = e - p := by rw [e1]; simp [wo_len, wo_na, wo_u1]
    refine ⟨b, rfl, hb1.1, nI_pos (by omega), by decide, ?_⟩
    have hmin : wo_min (nI (wo_len G1 b) - nI p) (nI (e - p)) = nI (e - p) := by
      rw [hlen, pk_sub (by omega), nI_min (by omega) (by omega), Nat.min_eq_right (by omega)]
    rw [hmin, nI_clamp (by omega), nI_clamp (by omega)]
    refine ⟨nI_pos (by omega), by rw [hlen]; omega, by rw [hql]; simp, hqb, hb1.2.2.2, fun G2 e2 => ?_⟩
    have hty2 : wo_ty G2 q = 65 := by rw [e2]; exact hq1
    refine hp q G2 hq hqb ?_ ⟨hty2, by rw [e2]; show wo_len G1 q = _; rw [hql, tx_sub_len he], fun i hi => ?_⟩
    · refine ⟨fun x hx => by rw [e2]; exact hfr.1 x hx, fun x hx hx2 => ?_⟩
      have hxq : x ≠ q := fun q2 => hx (by rw [q2]; exact hq)
      have h3 := hfr.2 x hx hx2
      rw [e2]
      exact h3.tr (wo_eq_cpI hxq)
    · rw [tx_sub_len he] at hi
      rw [e2, wo_ei_cp, sb_cl0, pk_cpy_in (Nat.zero_le _) (by omega), tx_sub_at hi, Nat.sub_zero]
      exact hb1.2.2.1 _ (by omega)
  unfold pq_Ar_copyOfRange pq_Ar_copyOfRange_0
  refine ⟨fun _ => key, fun q0 => ⟨b, rfl, g1, fun qe => ?_, fun _ => key⟩⟩
  have hp0 : p = 0 := (nI_eq (by omega) (by decide)).mp (q0.trans nI_0.symm)
  have hee : e = wo_len G b := (nI_eq (by omega) (by omega)).mp qe
  refine ⟨hbs hp0 hee, g4, by omega, by omega, fun q hq hqb G1 e1 => ⟨fun x hx => (by cases hx; rw [e1]; exact ty_clnq rfl g1), fun x hx => (by cases hx; exact hqb), ?_⟩⟩
  refine hp q G1 hq hqb (by rw [e1]; exact fr_cln hq) ⟨by rw [e1]; exact ty_clnq rfl g1, ?_, fun i hi => ?_⟩
  · rw [e1, tx_sub_len he]
    simp [wo_len, wo_cln, wo_u1]
    show wo_len G b = _
    omega
  · rw [tx_sub_len he] at hi
    rw [tx_sub_at hi, e1]
    have : wo_ei (wo_cln G b q) q i = wo_ei G b i := by simp [wo_ei, wo_cln, wo_ur]
    rw [this, hp0, Nat.zero_add]
    exact g3 i (by omega)
end SP
