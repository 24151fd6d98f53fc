def sg_at (E : wo_E) (G : wo_W) (a v : Nat) (t : List Nat) : Prop := wo_ty G a = 5 ∧ en_bs E ≤ a ∧ wo_gi G 257 a = 0 ∧ wo_gi G 259 a = nI t.length ∧ wo_gr G 256 a = some v ∧ tx_P G v t ∧ en_bs E ≤ v ∧ wo_len G v ≤ 16384 ∧ (∀ c ∈ t, c < 256)
def sg_W (a v : Nat) : Nat → Prop := fun x => x = a ∨ x = v
theorem sg_at.eq {E : wo_E} {G G1 : wo_W} {a v : Nat} {t : List Nat} (h : sg_at E G a v t) (e : wo_eq G G1 a) (ev : wo_eq G G1 v) : sg_at E G1 a v t := by
  obtain ⟨h1, h2, h3, h4, h5, h6, h7, h8, h9⟩ := h
  exact ⟨e.1.trans h1, h2, (e.2.2.1 _).trans h3, (e.2.2.1 _).trans h4, (e.2.2.2.2.1 _).trans h5, h6.eq ev, h7, by rw [ev.2.1]; exact h8, h9⟩
theorem sg_ne {E : wo_E} {G : wo_W} {a v : Nat} {t : List Nat} (h : sg_at E G a v t) : a ≠ v := by
  intro e
  have h1 := h.1
  have h2 := h.2.2.2.2.2.1.1
  rw [e] at h1
  omega
section SP
variable {E : wo_E} {mc ms : Nat} {G : wo_W} {a v : Nat} {t u : List Nat}
theorem sp_abLatin1 {Post : Int32 → wo_W → Prop} (h : wo_ty G a = 5) (h0 : wo_gi G 257 a = 0) (hp : Post 1 G) : pq_AB_isLatin1 E mc ms Post G a := by
  unfold pq_AB_isLatin1 pq_AB_isLatin1_0 pq_AB_isLatin1_18
  exact ⟨h, fun n => absurd h0 n, fun _ => ⟨tx_ok1, hp⟩⟩
theorem nI_c2 (n : Nat) : nI n + (2 : Int32) = nI (n + 2) := nI_add n 2
theorem sp_ensure {Post : wo_W → Prop} {n : Nat} (h : sg_at E G a v t) (hn : n ≤ 4096) (h1 : 1 ≤ mc) (h2 : 2 * n ≤ ms)
    (hp : ∀ (w : Nat) (G' : wo_W), sg_at E G' a w t → (w = v ∨ wo_ty G w = 0) → fr_W (sg_W a v) G G' → n ≤ wo_len G' w → wo_len G' w ≤ max (wo_len G v) (2 * n) → Post G') : pq_AB_ensureCapacityInternal E mc ms Post G a (nI n) := by
  have hh := h
  obtain ⟨g1, g2, g3, g4, g5, g6, g7, g8, g9⟩ := hh
  have g6' := g6
  obtain ⟨k1, k2, k3, k4⟩ := g6'
  unfold pq_AB_ensureCapacityInternal pq_AB_ensureCapacityInternal_0 pq_AB_ensureCapacityInternal_38
  refine ⟨g1, fun r hr => ⟨v, hr.trans g5, k1, ?_, ?_⟩⟩
  · rw [g3, sb_shr0]
    intro q
    have hle : n ≤ wo_len G v := by
      by_cases hx : n ≤ wo_len G v
      · exact hx
      · rw [pk_sub (by omega)] at q
        exact absurd q (nI_nle (by omega) (by omega))
    exact hp v G h (Or.inl rfl) (fr_rf _ _) hle (by omega)
  · rw [g3, sb_shr0]
    intro q r2 hr2
    have hgt : wo_len G v < n := by
      by_cases hx : n ≤ wo_len G v
      · have e2 : nI n - nI (wo_len G v) ≤ 0 := by
          rw [Int32.le_iff_toInt_le, pk_sub_toInt (by omega) (by omega)]
          show _ ≤ (0 : Int)
          omega
        exact absurd e2 q
      · omega
    refine ⟨0, 0, by omega, by omega, ?_⟩
    unfold pq_AB_newCapacity pq_AB_newCapacity_0
    refine ⟨g1, fun r3 hr3 => ⟨v, hr3.trans g5, k1, 0, 0, by omega, by omega, ?_⟩⟩
    rw [g3, sb_shl0, sb_shl0, pk_sub (by omega), nI_c2, hr2, g5]
    unfold pq_As_newLength pq_As_newLength_0
    rw [nI_max (by omega) (by omega), nI_add]
    have hmx : wo_len G v + max (n - wo_len G v) (wo_len G v + 2) ≤ 2 * n := by omega
    refine ⟨fun q2 => absurd q2 (nI_nle (by omega) (by omega)), fun _ => ⟨fun q2 => absurd q2 (nI_nlt (a := 2147483639) (by omega) (by omega)), fun _ => ⟨fun _ => ⟨g1, ?_⟩, fun q2 => absurd ((nI_eq (b := 2147483647) (by omega) (by omega)).mp q2) (by omega)⟩⟩⟩
    rw [g3, sb_shr0]
    refine ⟨g1, 1, wo_len G v + max (n - wo_len G v) (wo_len G v + 2), by omega, by omega, ?_⟩
    rw [g3, sb_shl0]
    unfold pq_Ar_copyOf_aBI pq_Ar_copyOf_aBI_0
    generalize hC : wo_len G v + max (n - wo_len G v) (wo_len G v + 2) = C
    have hCn : n ≤ C ∧ wo_len G v < C ∧ C ≤ 2 * n := by omega
    refine ⟨v, rfl, k1, fun _ => ⟨nI_pos (by omega), by rw [nI_clamp (by omega)]; omega, by omega, by rw [nI_clamp (by omega)]; omega, ?_⟩, fun q2 => absurd ((nI_eq (by omega) (by omega)).mp q2) (by omega)⟩
    rw [nI_clamp (by omega)]
    intro w hw hwb G1 e1
    have hfr1 : fr_W fr_0 G G1 := by rw [e1]; exact fr_na hw
    have hv1 := hfr1.2 v (by omega) (fun q => q)
    have ha1 := hfr1.2 a (by omega) (fun q => q)
    have hwv : w ≠ v := fun q2 => by rw [q2, k1] at hw; cases hw
    have hwa : w ≠ a := fun q2 => by rw [q2, g1] at hw; cases hw
    have hw1 : wo_ty G1 w = 65 := by rw [e1]; exact ty_naq rfl
    have hwl : wo_len G1 w = C := by rw [e1]; simp [wo_len, wo_na, wo_u1]
    have hmin : wo_min (nI (wo_len G1 v)) (nI C) = nI (wo_len G v) := by
      rw [hv1.2.1, nI_min (by omega) (by omega), Nat.min_eq_left (by omega)]
    rw [hmin, nI_clamp (by omega), sb_cl0]
    have hP1 := g6.eq hv1
    refine ⟨by decide, by decide, nI_pos (by omega), by rw [hv1.2.1]; omega, by rw [hwl]; omega, hwb, hP1.2.2.2, fun G2 e2 => ?_⟩
    have ha2 : wo_eq G1 G2 a := by rw [e2]; exact wo_eq_cpI (fun q2 => hwa q2.symm)
    have hta : wo_ty G2 a = 5 := ha2.1.trans (ha1.1.trans g1)
    refine ⟨hta, g2, fun G3 e3 => ?_⟩
    have hw3 : wo_eq G2 G3 w := by rw [e3]; exact (wo_put_r (ty := .array .int) rfl).1 w hwa
    have hlen2 : wo_len G2 w = C := by rw [e2]; exact hwl
    have hP3 : tx_P G2 w t := by
      refine ⟨by rw [e2]; exact hw1, by rw [hlen2]; omega, fun i hi => ?_, fun i hi => ?_⟩
      · rw [e2, wo_ei_cp, pk_cpy_in (Nat.zero_le _) (by omega), Nat.sub_zero, Nat.zero_add]
        exact hP1.2.2.1 i hi
      · rw [e2, wo_ei_cp]
        by_cases hi2 : i < wo_len G v
        · rw [pk_cpy_in (Nat.zero_le _) (by omega), Nat.sub_zero, Nat.zero_add]
          exact hP1.2.2.2 i (by rw [hv1.2.1]; exact hi2)
        · rw [pk_cpy_out (Or.inr (by omega))]
          have : wo_ei G1 w i = 0 := by rw [e1]; simp [wo_ei, wo_na, wo_ur]
          rw [this]
          rfl
    refine hp w G3 ⟨by rw [e3]; exact hta, g2, ?_, ?_, by rw [e3]; simp [wo_gr, wo_sr, wo_u2], hP3.eq hw3, hwb, ?_, g9⟩ (Or.inr hw) ?_ ?_ ?_
    · rw [e3]
      exact (ha2.2.2.1 257).trans ((ha1.2.2.1 257).trans g3)
    · rw [e3]
      exact (ha2.2.2.1 259).trans ((ha1.2.2.1 259).trans g4)
    · rw [hw3.2.1, hlen2]; omega
    · refine ⟨fun x hx => by rw [e3, e2]; exact hfr1.1 x hx, fun x hx hx2 => ?_⟩
      have hxw : x ≠ w := fun q2 => hx (by rw [q2]; exact hw)
      have hxa : x ≠ a := fun q2 => hx2 (Or.inl q2)
      have h5 := hfr1.2 x hx (fun q => q)
      rw [e3, e2]
      exact h5.tr ((wo_eq_cpI hxw).tr ((wo_put_r (ty := .array .int) rfl).1 x hxa))
    · rw [hw3.2.1, hlen2]; omega
    · rw [hw3.2.1, hlen2]; omega
end SP
