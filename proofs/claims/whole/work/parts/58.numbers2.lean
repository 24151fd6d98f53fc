def sta_ok (E : wo_E) (G : wo_W) : Prop := (en_sta E 1 < en_bs E ∧ wo_ty G (en_sta E 1) = 65 ∧ wo_len G (en_sta E 1) = 100 ∧ ∀ j, j < 100 → wo_ei G (en_sta E 1) j = Int32.ofNat (48 + j % 10)) ∧ (en_sta E 2 < en_bs E ∧ wo_ty G (en_sta E 2) = 65 ∧ wo_len G (en_sta E 2) = 100 ∧ ∀ j, j < 100 → wo_ei G (en_sta E 2) j = Int32.ofNat (48 + j / 10))
theorem sta_ok.fr {E : wo_E} {G G1 : wo_W} {W : Nat → Prop} (h : sta_ok E G) (f : fr_W W G G1) (hW : ∀ a, W a → en_bs E ≤ a) : sta_ok E G1 := by
  obtain ⟨⟨a1, a2, a3, a4⟩, b1, b2, b3, b4⟩ := h
  have e1 := f.2 (en_sta E 1) (by omega) (fun q => absurd (hW _ q) (by omega))
  have e2 := f.2 (en_sta E 2) (by omega) (fun q => absurd (hW _ q) (by omega))
  exact ⟨⟨a1, e1.1.trans a2, e1.2.1.trans a3, fun j hj => (e1.2.2.2.2.2.1 j).trans (a4 j hj)⟩, b1, e2.1.trans b2, e2.2.1.trans b3, fun j hj => (e2.2.2.2.2.2.1 j).trans (b4 j hj)⟩
def gc_rel (G G' : wo_W) (w p : Nat) (ds : List Nat) : Prop := fr_W (fun x => x = w) G G' ∧ wo_ty G' w = wo_ty G w ∧ wo_len G' w = wo_len G w ∧ (∀ i, i < p - ds.length ∨ p ≤ i → wo_ei G' w i = wo_ei G w i) ∧ ∀ j, j < ds.length → wo_ei G' w (p - ds.length + j) = sb_b (ds.getD j 0)
theorem ei_set {G : wo_W} {w k i : Nat} {x : Int32} : wo_ei (wo_sei G w k x) w i = if i = k then x else wo_ei G w i := by
  by_cases h : i = k <;> simp [wo_ei, wo_sei, wo_u2, h]
section SP
variable {E : wo_E} {mc ms : Nat} {w : Nat}
theorem sp_nar {c : Nat} : vp_nar .byte (Int32.ofNat c) = sb_b c := rfl
theorem sp_gc {Post : Int32 → wo_W → Prop} {c s : Nat} : ∀ (m : Nat), m < 2 ^ 31 → ∀ (p : Nat) (G : wo_W), (dc_of m).length ≤ p → p ≤ wo_len G w → wo_len G w ≤ 65536 → wo_ty G w = 65 → en_bs E ≤ w → sta_ok E G → (∀ G' : wo_W, gc_rel G G' w p (dc_of m) → Post (nI (p - (dc_of m).length)) G') → ∃ n, pq_It_getChars_22 E mc ms Post n G c s (-nI m) (some w) (nI p) 0 := by
  intro m
  induction m using Nat.strongRecOn with
  | ind m ih =>
    intro hm p G hlp hpl hL hw hwb hst hp
    have hst' := hst
    obtain ⟨⟨a1, a2, a3, a4⟩, b1, b2, b3, b4⟩ := hst'
    have hw1 : en_sta E 1 ≠ w := fun q => by omega
    have hw2 : en_sta E 2 ≠ w := fun q => by omega
    have hdp := dc_pos m
    by_cases h100 : m < 100
    · refine ⟨1, ?_⟩
      unfold pq_It_getChars_22
      refine ⟨fun _ => ⟨a2, ?_⟩, fun q => absurd ((sb_nlt (a := 100) (b := m) (by decide) hm).mpr h100) q⟩
      rw [Int32.neg_neg, a3, sb_m1 (by omega), nI_clamp hm, nI_clamp (by omega), a4 m h100, sp_nar]
      refine ⟨vp_in_nI h100 (by decide), w, rfl, hw, vp_in_nI (by omega) (by omega), hwb, fun G1 e1 => ⟨fun q9 => ?_, fun q9 => ?_⟩⟩
      · have h9 : m ≤ 9 := (sb_nle (a := 9) (b := m) (by decide) hm).mp q9
        unfold pq_It_getChars_104 pq_It_getChars_118
        refine ⟨fun _ => ?_, fun q => absurd rfl q⟩
        rw [dc_lo (by omega)] at hp hlp
        have hr : m % 10 = m := by omega
        rw [hr] at e1
        refine hp G1 ⟨by rw [e1]; exact fr_sei rfl, by rw [e1]; rfl, by rw [e1]; rfl, fun i hi => ?_, fun j hj => ?_⟩
        · rw [e1, ei_set, if_neg]
          have : ([48 + m] : List Nat).length = 1 := rfl
          omega
        · have hj0 : j = 0 := by
            have : ([48 + m] : List Nat).length = 1 := rfl
            omega
          subst hj0
          rw [e1, ei_set, if_pos]
          · rfl
          · show p - 1 + 0 = p - 1
            omega
      · have h9 : 10 ≤ m := by
          apply Nat.lt_of_not_le
          intro q2
          exact q9 ((sb_nle (a := 9) (b := m) (by decide) hm).mpr q2)
        have hdd := dc_two h9 h100
        rw [hdd] at hp hlp
        have hlp : 2 ≤ p := hlp
        have e2s : wo_eq G G1 (en_sta E 2) := by rw [e1]; exact (wo_set_i (ty := .int) rfl).1 _ hw2
        rw [e2s.2.1, b3, sb_m1 (by omega), nI_clamp (by omega), e2s.2.2.2.2.2.1 m, b4 m h100, sp_nar]
        refine ⟨e2s.1.trans b2, vp_in_nI h100 (by decide), ?_, hwb, fun G2 e2 => ?_⟩
        · have : wo_len G1 w = wo_len G w := by rw [e1]; rfl
          rw [this]; exact vp_in_nI (by omega) (by omega)
        unfold pq_It_getChars_104 pq_It_getChars_118
        refine ⟨fun _ => ?_, fun q => absurd rfl q⟩
        have := hp G2 ⟨⟨fun x hx => by rw [e2, e1]; rfl, fun x hx hx2 => by rw [e2, e1]; exact ((wo_set_i (ty := .int) rfl).1 x hx2).tr ((wo_set_i (ty := .int) rfl).1 x hx2)⟩, by rw [e2, e1]; rfl, by rw [e2, e1]; rfl, fun i hi => ?_, fun j hj => ?_⟩
        · exact this
        · have hl2 : ([48 + m / 10, 48 + m % 10] : List Nat).length = 2 := rfl
          rw [hl2] at hi
          rw [e2, ei_set, if_neg (by omega), e1, ei_set, if_neg (by omega)]
        · have hl2 : ([48 + m / 10, 48 + m % 10] : List Nat).length = 2 := rfl
          rw [hl2] at hj ⊢
          have hj2 : j = 0 ∨ j = 1 := by omega
          rcases hj2 with rfl | rfl
          · rw [e2, ei_set, if_pos (by omega)]; rfl
          · rw [e2, ei_set, if_neg (by omega), e1, ei_set, if_pos (by omega)]; rfl
    · have hm100 : m / 100 < m := by omega
      have hr : m % 100 < 100 := Nat.mod_lt _ (by decide)
      have hdd := dc_hun (n := m) (by omega)
      have hlen : (dc_of m).length = (dc_of (m / 100)).length + 2 := by rw [hdd, List.length_append]; rfl
      let G1 := wo_sei G w (p - 1) (sb_b (48 + m % 100 % 10))
      let G2 := wo_sei G1 w (p - 1 - 1) (sb_b (48 + m % 100 / 10))
      have hfr2 : fr_W (fun x => x = w) G G2 := fr_tr (fr_sei (G := G) (a := w) rfl) (fr_sei (G := G1) (a := w) rfl)
      obtain ⟨n, hn⟩ := ih (m / 100) hm100 (by omega) (p - 1 - 1) G2 (by omega) (by show _ ≤ wo_len G w; omega) hL hw hwb (hst.fr hfr2 (fun x hx => by rw [hx]; exact hwb)) (fun G' hrel => by
        obtain ⟨r1, r2, r3, r4, r5⟩ := hrel
        have hpos := hp G' ⟨fr_tr hfr2 r1, r2, r3, fun i hi => ?_, fun j hj => ?_⟩
        · rw [hlen] at hpos
          have e : p - ((dc_of (m / 100)).length + 2) = p - 1 - 1 - (dc_of (m / 100)).length := by omega
          rw [e] at hpos
          exact hpos
        · rw [hlen] at hi
          rw [r4 i (by omega)]
          show wo_ei (wo_sei G1 w _ _) w i = _
          rw [ei_set, if_neg (by omega)]
          show wo_ei (wo_sei G w _ _) w i = _
          rw [ei_set, if_neg (by omega)]
        · rw [hlen] at hj ⊢
          by_cases hj2 : j < (dc_of (m / 100)).length
          · have e : p - ((dc_of (m / 100)).length + 2) + j = p - 1 - 1 - (dc_of (m / 100)).length + j := by omega
            rw [e, r5 j hj2, hdd, tx_getApp2 hj2]
          · rw [r4 _ (by omega), hdd, tx_getApp3 (by omega)]
            have hj3 : j = (dc_of (m / 100)).length ∨ j = (dc_of (m / 100)).length + 1 := by omega
            show wo_ei (wo_sei G1 w _ _) w _ = _
            rcases hj3 with hj3 | hj3
            · rw [ei_set, if_pos (by omega), hj3, Nat.sub_self]; rfl
            · rw [ei_set, if_neg (by omega)]
              show wo_ei (wo_sei G w _ _) w _ = _
              rw [ei_set, if_pos (by omega), hj3]
              have e : (dc_of (m / 100)).length + 1 - (dc_of (m / 100)).length = 1 := by omega
              rw [e]; rfl)
      refine ⟨n + 1, ?_⟩
      unfold pq_It_getChars_22
      refine ⟨fun q => absurd ((sb_nlt (a := 100) (b := m) (by decide) hm).mp q) h100, fun _ => ⟨a2, ?_⟩⟩
      rw [sb_ndiv hm, sb_nrem hm, a3, sb_m1 (by omega), nI_clamp (by omega), nI_clamp (by omega), a4 _ hr, sp_nar]
      refine ⟨vp_in_nI hr (by decide), w, rfl, hw, vp_in_nI (by omega) (by omega), hwb, fun G1' e1 => ?_⟩
      have e2s : wo_eq G G1' (en_sta E 2) := by rw [e1]; exact (wo_set_i (ty := .int) rfl).1 _ hw2
      rw [e2s.2.1, b3, sb_m1 (by omega), nI_clamp (by omega), e2s.2.2.2.2.2.1 (m % 100), b4 _ hr, sp_nar]
      refine ⟨e2s.1.trans b2, vp_in_nI hr (by decide), ?_, hwb, fun G2' e2 => ?_⟩
      · have : wo_len G1' w = wo_len G w := by rw [e1]; rfl
        rw [this]; exact vp_in_nI (by omega) (by omega)
      rw [e2, e1]
      exact hn
end SP
