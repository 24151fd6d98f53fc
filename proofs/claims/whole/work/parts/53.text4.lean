section SP
variable {E : wo_E} {mc ms : Nat} {G : wo_W} {a b : Nat} {t u : List Nat}
def tx_base (E : wo_E) (G : wo_W) (a : Nat) : Prop := ∀ b, wo_gr G 576 a = some b → en_bs E ≤ b
theorem sp_newString {Post : Option Nat → wo_W → Prop} {p n : Nat} (h : tx_P G b t) (hl : wo_len G b ≤ 65536) (hpn : p + n ≤ t.length) (ht : ∀ c ∈ t, c < 256) (hbs : p = 0 → n = wo_len G b → en_bs E ≤ b) (h1 : 2 ≤ mc) (h2 : n + 4 ≤ ms)
    (h0 : n = 0 → Post (some (en_str E 1)) G)
    (hp : ∀ (q : Nat) (G' : wo_W), 0 < n → wo_ty G q = 0 → en_bs E ≤ q → fr_W fr_0 G G' → tx_S G' q (tx_sub t p (p + n)) → (∀ b', wo_gr G' 576 q = some b' → wo_ty G b' = 0 ∧ en_bs E ≤ b') → Post (some q) G') : pq_La_newString E mc ms Post G (some b) (nI p) (nI n) := by
  have hl2 := h.2.1
  unfold pq_La_newString pq_La_newString_0
  refine ⟨fun hn => ?_, fun hn => h0 ((nI_eq (by omega) (by decide)).mp (hn.trans nI_0.symm))⟩
  have hn0 : 0 < n := Nat.pos_of_ne_zero (fun q => hn (by rw [q]; exact nI_0))
  refine ⟨by omega, by omega, fun q hq hqb G1 e1 => ⟨mc - 1, ms - 4, by omega, by omega, ?_⟩⟩
  rw [nI_add]
  have hfr1 : fr_W fr_0 G G1 := by rw [e1]; exact fr_new hq
  have hb1 := h.eq (hfr1.2 b (by have := h.1; omega) (fun q => q))
  have hlen : wo_len G1 b = wo_len G b := (hfr1.2 b (by have := h.1; omega) (fun q => q)).2.1
  have hq1 : wo_ty G1 q = 10 := by rw [e1]; exact ty_newq rfl
  refine sp_copyRange hb1 (by omega) (by omega) hpn (fun h3 h4 => hbs h3 (by omega)) (by omega) (by omega) (fun v G2 hv hvb hfr2 hB => ?_)
  have hvq : v ≠ q := fun q2 => by rw [q2, hq1] at hv; cases hv
  have hv0 : wo_ty G v = 0 := by
    rw [e1] at hv
    simpa [wo_ty, wo_new, wo_u1, hvq] using hv
  have hq2 : wo_ty G2 q = 10 := by rw [(hfr2.2 q (by omega) (fun q => q)).1]; exact hq1
  refine ⟨hq2, 0, 0, by omega, by omega, ?_⟩
  unfold pq_St_init_aBB pq_St_init_aBB_0
  refine ⟨hq2, hqb, fun G3 e3 => ⟨hqb, tx_okb, fun G4 e4 => ?_⟩⟩
  have hv4 : wo_eq G2 G4 v := by
    rw [e4, e3]
    exact ((wo_put_r (ty := .array .int) rfl).1 v hvq).tr ((wo_put_i (ty := .int) rfl).1 v hvq)
  refine hp q G4 hn0 hq hqb ⟨fun x hx => by rw [e4, e3]; exact ky_tr hfr1.1 hfr2.1 x hx, fun x hx hx2 => ?_⟩ ⟨by rw [e4, e3]; exact hq2, by rw [e4]; simp [wo_gi, wo_si, wo_u2], by rw [tx_sub_len hpn]; have := h.2.1; omega, fun c hc => ht c (tx_sub_mem hc), v, ?_, hB.eq hv4⟩ (fun b' hb' => ?_)
  · have hxq : x ≠ q := fun q2 => hx (by rw [q2]; exact hq)
    rw [e4, e3]
    have h5 := hfr1.2 x hx hx2
    exact (h5.tr (hfr2.2 x (by rw [h5.1]; exact hx) hx2)).tr (((wo_put_r (ty := .array .int) rfl).1 x hxq).tr ((wo_put_i (ty := .int) rfl).1 x hxq))
  · rw [e4, e3]; simp [wo_gr, wo_si, wo_sr, wo_u2]
  · rw [e4, e3] at hb'
    simp [wo_gr, wo_si, wo_sr, wo_u2] at hb'
    subst hb'
    exact ⟨hv0, hvb⟩
theorem sp_bounds {Post : wo_W → Prop} {p e n : Nat} (hpe : p ≤ e) (hen : e ≤ n) (hn : n < 2 ^ 31) (hp : Post G) : pq_St_checkBoundsBeginEnd E mc ms Post G (nI p) (nI e) (nI n) := by
  unfold pq_St_checkBoundsBeginEnd pq_St_checkBoundsBeginEnd_0
  intro r
  refine ⟨0, 0, Nat.zero_le _, Nat.zero_le _, ?_⟩
  unfold pq_Pc_checkFromToIndex pq_Pc_checkFromToIndex_0
  exact ⟨fun h => absurd h (nI_pos (by omega)), fun _ => ⟨fun h => absurd h (nI_nlt hpe (by omega)), fun _ => ⟨fun _ => hp, fun h => absurd (nI_le hen hn) h⟩⟩⟩
theorem sp_substring {Post : Option Nat → wo_W → Prop} {p e : Nat} (h : tx_S G a t) (hpe : p ≤ e) (he : e ≤ t.length) (h1 : 2 ≤ mc) (h2 : e - p + 4 ≤ ms)
    (hs : p = 0 → e = t.length → Post (some a) G) (h0 : p = e → ¬ (p = 0 ∧ e = t.length) → Post (some (en_str E 1)) G)
    (hp : ∀ (q : Nat) (G' : wo_W), p < e → wo_ty G q = 0 → en_bs E ≤ q → fr_W fr_0 G G' → tx_S G' q (tx_sub t p e) → (∀ b', wo_gr G' 576 q = some b' → wo_ty G b' = 0 ∧ en_bs E ≤ b') → Post (some q) G') : pq_St_substring_II E mc ms Post G a (nI p) (nI e) := by
  have hh := h
  obtain ⟨g1, g2, g3, g4, b, g5, g6⟩ := hh
  have key : ¬ (p = 0 ∧ e = t.length) → pq_St_substring_II_22 E mc ms Post G 0 0 a (nI p) (nI e) := by
    intro hne
    unfold pq_St_substring_II_22
    refine ⟨g1, 0, 0, by omega, by omega, sp_isLatin1 g1 g2 ⟨fun q => absurd q (by decide), fun _ => ⟨g1, fun r hr => ⟨mc, ms, by omega, by omega, ?_⟩⟩⟩⟩
    rw [hr, g5, pk_sub hpe]
    have hep : p + (e - p) = e := by omega
    refine sp_newString g6.P (by rw [g6.2.1]; exact g3) (by omega) g4 (fun q1 q2 => absurd ⟨q1, by rw [g6.2.1] at q2; omega⟩ hne) h1 h2 (fun q => h0 (by omega) hne) (fun q G' hn hq hqb hf hS hb => ?_)
    rw [hep] at hS
    exact hp q G' (by omega) hq hqb hf hS hb
  unfold pq_St_substring_II pq_St_substring_II_0
  refine ⟨g1, 0, 0, by omega, by omega, sp_length h ⟨0, 0, by omega, by omega, sp_bounds hpe he (by omega) ⟨fun q => key (fun q2 => q (by rw [q2.1]; exact nI_0)), fun q => ⟨fun q2 => key (fun q3 => q2 (by rw [q3.2])), fun q2 => ?_⟩⟩⟩⟩
  exact hs ((nI_eq (by omega) (by decide)).mp (q.trans nI_0.symm)) ((nI_eq (by omega) (by omega)).mp q2)
theorem sp_indexChar {Post : Int32 → wo_W → Prop} {c s ch : Nat} (h : tx_B G b t) (hn : t.length < 2 ^ 31) (hc : ch < 256) (ht : ∀ x ∈ t, x < 256) :
    ∀ (d k : Nat), t.length - k = d → k ≤ t.length → (∀ i, i < k → t.getD i 0 ≠ ch) → ((∀ i, i < t.length → t.getD i 0 ≠ ch) → Post (-1) G) → (∀ i, i < t.length → t.getD i 0 = ch → (∀ j, j < i → t.getD j 0 ≠ ch) → Post (nI i) G) → pq_La_indexOfChar_7 E mc ms Post (d + 1) G c s (some b) (nI t.length) (sb_b ch) (nI k) := by
  intro d
  induction d with
  | zero =>
    intro k hd hk hi hm hf
    unfold pq_La_indexOfChar_7
    have hk2 : k = t.length := by omega
    exact ⟨fun _ => hm (fun i h => hi i (by omega)), fun q => absurd (by rw [hk2]; exact Int32.le_refl _) q⟩
  | succ d ih =>
    intro k hd hk hi hm hf
    unfold pq_La_indexOfChar_7
    have hk2 : k < t.length := by omega
    refine ⟨fun q => absurd q (nI_ge hk2 hn), fun _ => ⟨b, rfl, h.1, by rw [h.2.1]; exact vp_in_nI hk2 hn, ?_, ?_⟩⟩
    · rw [nI_clamp (by omega), tx_at h hk2]
      intro q
      rw [nI_1]
      refine ih (k + 1) (by omega) (by omega) (fun i hi2 => ?_) hm hf
      by_cases hik : i = k
      · rw [hik]; exact fun q2 => q (by rw [q2])
      · exact hi i (by omega)
    · rw [nI_clamp (by omega), tx_at h hk2]
      intro q
      exact hf k hk2 (sb_inj (ht _ (tx_mem hk2)) hc q) hi
theorem sp_indexOf {Post : Int32 → wo_W → Prop} {ch : Nat} (h : tx_S G a t) (hc : ch < 256) (hm : (∀ i, i < t.length → t.getD i 0 ≠ ch) → Post (-1) G) (hf : ∀ i, i < t.length → t.getD i 0 = ch → (∀ j, j < i → t.getD j 0 ≠ ch) → Post (nI i) G) : pq_St_indexOf_I E mc ms Post G a (nI ch) := by
  have hh := h
  obtain ⟨g1, g2, g3, g4, b, g5, g6⟩ := hh
  unfold pq_St_indexOf_I pq_St_indexOf_I_0
  refine ⟨g1, 0, 0, by omega, by omega, ?_⟩
  unfold pq_St_indexOf_II pq_St_indexOf_II_0
  refine ⟨g1, 0, 0, by omega, by omega, sp_isLatin1 g1 g2 ⟨fun q => absurd q (by decide), fun _ => ⟨g1, fun r hr => ⟨0, 0, by omega, by omega, sp_length h ⟨0, 0, by omega, by omega, ?_⟩⟩⟩⟩⟩
  rw [hr, g5]
  unfold pq_La_indexOf pq_La_indexOf_0
  refine ⟨0, 0, by omega, by omega, ?_⟩
  unfold pq_La_canEncode_I pq_La_canEncode_I_0 pq_La_canEncode_I_16
  have hc255 : ¬ (255 : Int32) < nI ch := nI_nlt (a := 255) (b := ch) (by omega) (by omega)
  refine ⟨fun q => absurd q (nI_pos (by omega)), fun _ => ⟨fun q => absurd q hc255, fun _ => ⟨tx_ok1, fun _ => ⟨b, rfl, g6.1, ?_, ?_⟩, fun q => absurd q (by decide)⟩⟩⟩
  · rw [g6.2.1]
    have e1 : wo_max (0 : Int32) 0 = nI 0 := by decide
    rw [e1, nI_min (by omega) (by omega), Nat.min_self]
    intro _
    refine ⟨0, 0, by omega, by omega, ?_⟩
    unfold pq_La_indexOfChar pq_La_indexOfChar_0
    exact ⟨t.length + 1, sp_indexChar g6 (by omega) hc g4 t.length 0 (by omega) (Nat.zero_le _) (fun i hi => absurd hi (Nat.not_lt_zero _)) hm hf⟩
  · rw [g6.2.1]
    have e1 : wo_max (0 : Int32) 0 = nI 0 := by decide
    rw [e1, nI_min (by omega) (by omega), Nat.min_self]
    intro q
    exact hm (fun i hi => absurd (nI_lt (a := 0) (b := t.length) (by omega) (by omega)) q)
end SP
