theorem sb_inj {c d : Nat} (hc : c < 256) (hd : d < 256) (h : sb_b c = sb_b d) : c = d := by
  have h1 := (sb_byte c hc).1
  have h2 := (sb_byte d hd).1
  rw [h] at h1
  exact (nI_eq (by omega) (by omega)).mp (h1.symm.trans h2)
theorem tx_ext {t u : List Nat} (hl : t.length = u.length) (h : ∀ i, i < t.length → t.getD i 0 = u.getD i 0) : t = u := by
  apply List.ext_getElem? 
  intro i
  by_cases hi : i < t.length
  · have := h i hi
    rw [List.getD_eq_getElem?_getD, List.getD_eq_getElem?_getD, List.getElem?_eq_getElem hi, List.getElem?_eq_getElem (by omega)] at this
    rw [List.getElem?_eq_getElem hi, List.getElem?_eq_getElem (by omega)]
    exact congrArg some this
  · rw [List.getElem?_eq_none (by omega), List.getElem?_eq_none (by omega)]
section SP
variable {E : wo_E} {mc ms : Nat} {G : wo_W} {a b : Nat} {t u : List Nat}
theorem sp_laEq {Post : Int32 → wo_W → Prop} {c s : Nat} (h : tx_B G a t) (h2 : tx_B G b u) (hl : t.length = u.length) (hn : t.length < 2 ^ 31) (ht : ∀ x ∈ t, x < 256) (hu : ∀ x ∈ u, x < 256) (hp : Post (if t = u then 1 else 0) G) :
    ∀ (d k : Nat), t.length - k = d → k ≤ t.length → (∀ i, i < k → t.getD i 0 = u.getD i 0) → pq_La_equals_9 E mc ms Post (d + 1) G c s (some a) (some b) (nI k) := by
  intro d
  induction d with
  | zero =>
    intro k hd hk hi
    unfold pq_La_equals_9
    have hk2 : k = t.length := by omega
    have e : t = u := tx_ext hl (fun i h => hi i (by omega))
    rw [if_pos e] at hp
    refine ⟨a, rfl, h.1, fun _ => hp, fun q => absurd (by rw [h.2.1, hk2]; exact Int32.le_refl _) q⟩
  | succ d ih =>
    intro k hd hk hi
    unfold pq_La_equals_9
    have hk2 : k < t.length := by omega
    refine ⟨a, rfl, h.1, fun q => absurd q (by rw [h.2.1]; exact nI_ge hk2 hn), fun _ => ⟨by rw [h.2.1]; exact vp_in_nI hk2 hn, b, rfl, h2.1, by rw [h2.2.1, ← hl]; exact vp_in_nI hk2 hn, ?_, ?_⟩⟩
    · rw [nI_clamp (by omega), tx_at h hk2, tx_at h2 (by omega)]
      intro e
      rw [nI_1]
      refine ih (k + 1) (by omega) (by omega) (fun i hi2 => ?_)
      by_cases hik : i = k
      · rw [hik]; exact sb_inj (ht _ (tx_mem hk2)) (hu _ (tx_mem (by omega))) e
      · exact hi i (by omega)
    · rw [nI_clamp (by omega), tx_at h hk2, tx_at h2 (by omega)]
      intro e
      rw [if_neg (fun q => e (by rw [q]))] at hp
      exact hp
theorem sp_laEquals {Post : Int32 → wo_W → Prop} (h : tx_B G a t) (h2 : tx_B G b u) (hn : t.length < 2 ^ 31) (hn2 : u.length < 2 ^ 31) (ht : ∀ x ∈ t, x < 256) (hu : ∀ x ∈ u, x < 256) (hp : Post (if t = u then 1 else 0) G) : pq_La_equals E mc ms Post G (some a) (some b) := by
  unfold pq_La_equals pq_La_equals_0
  refine ⟨a, rfl, h.1, b, rfl, h2.1, fun q => ?_, fun q => ?_⟩
  · rw [h.2.1, h2.2.1] at q
    rw [if_neg (fun e => q (by rw [e]))] at hp
    exact hp
  · rw [h.2.1, h2.2.1] at q
    have hl := (nI_eq hn hn2).mp q
    exact ⟨t.length + 1, sp_laEq h h2 hl hn ht hu hp t.length 0 (by omega) (Nat.zero_le _) (fun i hi => absurd hi (Nat.not_lt_zero _))⟩
theorem sp_equals {Post : Int32 → wo_W → Prop} (h : tx_S G a t) (h2 : tx_S G b u) (hp : Post (if t = u then 1 else 0) G) : pq_St_equals E mc ms Post G a (some b) := by
  have hh := h
  obtain ⟨h1, h3, h4, h5, x, h6, h7⟩ := h
  obtain ⟨g1, g3, g4, g5, y, g6, g7⟩ := h2
  unfold pq_St_equals pq_St_equals_0
  refine ⟨fun hne => ⟨fun q => (by cases q), fun c hc => ?_⟩, fun he => ?_⟩
  · cases hc
    refine ⟨g1, fun c hc => (by cases hc; exact g1), h1, fun q => absurd (h3.trans g3.symm) q, fun _ => ?_⟩
    unfold pq_St_equals_36
    refine ⟨h1, fun r hr => ⟨b, rfl, g1, fun r2 hr2 => ⟨0, 0, Nat.zero_le _, Nat.zero_le _, ?_⟩⟩⟩
    rw [hr, hr2, h6, g6]
    refine sp_laEquals h7 g7 (by omega) (by omega) h5 g5 ?_
    unfold pq_St_equals_54 pq_St_equals_55
    by_cases e : t = u
    · rw [if_pos e] at hp ⊢
      exact ⟨fun q => absurd q (by decide), fun _ => ⟨tx_ok1, hp⟩⟩
    · rw [if_neg e] at hp ⊢
      exact ⟨fun _ => ⟨tx_ok0, hp⟩, fun q => absurd rfl q⟩
  · cases he
    cases h6.symm.trans g6
    have e : t = u := tx_ext (h7.2.1.symm.trans g7.2.1) (fun i hi => sb_inj (h5 _ (tx_mem hi)) (g5 _ (tx_mem (by rw [← g7.2.1, h7.2.1]; exact hi))) ((tx_at h7 hi).symm.trans (tx_at g7 (by rw [← g7.2.1, h7.2.1]; exact hi))))
    rw [if_pos e] at hp
    exact hp
theorem sp_equalsN {Post : Int32 → wo_W → Prop} (hp : Post 0 G) : pq_St_equals E mc ms Post G a none := by
  unfold pq_St_equals pq_St_equals_0 pq_St_equals_54 pq_St_equals_55
  exact ⟨fun _ => ⟨fun _ => ⟨tx_ok0, hp⟩, fun c hc => (by cases hc)⟩, fun h => (by cases h)⟩
end SP
