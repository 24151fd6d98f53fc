section SP
variable {E : wo_E} {mc ms : Nat} {G G0 : wo_W} {a b v0 : Nat} {t t0 u r g : List Nat}
theorem sub_nb {G1 : wo_W} {q : Nat} (hev : sg_ev E G0 v0 a G r) (f : fr_W fr_0 G G1) (hb : ∀ x w, wo_gr G 576 b = some x → wo_gr G 256 a = some w → x ≠ w) (hx : ∀ x, wo_gr G1 576 q = some x → wo_gr G 576 b = some x ∨ x < en_bs E ∨ wo_ty G x = 0 ∧ en_bs E ≤ x) : ∀ x w, wo_gr G1 576 q = some x → wo_gr G1 256 a = some w → x ≠ w := by
  intro x w h1 h2 e
  obtain ⟨w2, j1, j2, j3⟩ := hev
  have ea := f.2 a (by rw [j1.1]; decide) (fun q => q)
  have hw : wo_gr G 256 a = some w := by rw [← ea.2.2.2.2.1 256]; exact h2
  have hww : w = w2 := by
    have := j1.2.2.2.2.1
    rw [hw] at this
    exact Option.some.inj this
  rcases hx x h1 with z | z | z
  · exact hb x w z hw e
  · have := j1.2.2.2.2.2.2.1
    omega
  · have := j1.2.2.2.2.2.1.1
    rw [← hww, ← e, z.1] at this
    cases this
theorem sp_paLoop {Post : Option Nat → wo_W → Prop} {e : Nat} (h0 : sg_at E G0 a v0 t0) (hk : kx_ok E G0) (hS : tx_S G0 b t) (hb : ∀ x, wo_gr G0 576 b = some x → x ≠ v0) (ht : t.length ≤ 20) (he : e ≤ t.length) :
    ∀ (k i p : Nat) (r : List Nat) (G : wo_W) (c s : Nat), e + 1 - i < k → 1 ≤ p → p ≤ i → (i ≤ e + 1 ∨ r = [] ∧ i = 1 ∧ e = 0) → r.length ≤ p - 1 → sg_ev E G0 v0 a G r → c + (e + 1 - i) * 4 + 5 ≤ mc → s + (e + 1 - i) * 112 + 200 ≤ ms →
    (∀ q G', tx_new E G0 a G' q (pa_go t e k i p r ++ tx_sub t e t.length) → fr_W (sg_W a v0) G0 G' → (∃ r', sg_ev E G0 v0 a G' r' ∧ r'.length ≤ 40) → Post (some q) G') →
    pq_Tx_path_31 E mc ms Post k G c s (some b) (some a) (nI e) (nI p) (nI i) := by
  have ha5 := h0.1
  have hab := h0.2.1
  have hvb := h0.2.2.2.2.2.2.1
  have hv65 := h0.2.2.2.2.2.1.1
  intro k
  induction k with
  | zero => intro i p r G c s hk0; omega
  | succ k ih =>
    intro i p r G c s hki hp1 hpi hie hr hev hc hs hp
    have hSG := hev.S hS hb ha5 hv65
    have hkG := hev.kx hk hab hvb
    have hnb := hev.nb h0 hS hb
    rw [pa_go] at hp
    by_cases z : e < i
    · rw [if_pos z] at hp
      have hi21 : i ≤ 21 := by omega
      refine ⟨fun _ => ⟨b, rfl, hSG.1, 0, 0, by omega, by omega, sp_length hSG ⟨hSG.1, 2, 24, by omega, by omega, ?_⟩⟩, fun q => absurd (nI_lt z (by omega)) q⟩
      refine sp_sub hkG hSG he (Nat.le_refl _) (by omega) (by omega) (fun q G1 f1 hS1 hx hq => ?_)
      have hev1 := hev.fr0 f1
      have hlen : (tx_sub t e t.length).length ≤ 20 := by rw [tx_sub_len (Nat.le_refl _)]; omega
      have hrl : r.length ≤ 20 := by omega
      refine ⟨a, rfl, hev1.ty, 1, 80, by omega, by omega, ev_S hev1 hS1 (sub_nb hev f1 hnb hx) (by omega) (by omega) (by omega) (fun G2 hev2 => ?_)⟩
      have hl2 : (r ++ tx_sub t e t.length).length ≤ 40 := by rw [List.length_append]; omega
      refine ⟨hev2.ty, 2, 44, by omega, by omega, ev_T hev2 (by omega) (by omega) (by omega) (fun q2 G3 q1 q3 q4 q5 q6 q7 => ?_)⟩
      exact hp q2 G3 (ev_new hev2 q1 q3 q4 q5 q6) q7.frm ⟨_, q7, hl2⟩
    · rw [if_neg z] at hp
      have hie' : i ≤ e := by omega
      have h54 : (i = e ∨ t.getD i 0 = 47) → pq_Tx_path_54 E mc ms Post (pq_Tx_path_31 E mc ms Post k) G c s (some b) (some a) (nI e) (nI p) (nI i) := by
        intro y
        rw [if_pos y] at hp
        refine ⟨b, rfl, hSG.1, 2, 24, by omega, by omega, sp_sub hkG hSG hpi (by omega) (by omega) (by omega) (fun q G1 f1 hS1 hx hq => ?_)⟩
        have hev1 := hev.fr0 f1
        have hgl : (tx_sub t p i).length = i - p := tx_sub_len (by omega)
        have key : pq_Tx_path_74 E mc ms Post (pq_Tx_path_31 E mc ms Post k) G1 (c + 2) (s + 24) (some b) (some a) (nI e) (nI i) (some a) (some q) (bo_I (decide (i = e))) := by
          refine ⟨2, 88, by omega, by omega, sp_addSegment hev1 hk hab hvb hS1 (sub_nb hev f1 hnb hx) (by omega) (by omega) (by omega) (fun G2 hev2 => ?_)⟩
          show pq_Tx_path_31 E mc ms Post k G2 (c + 2 + 2) (s + 24 + 88) (some b) (some a) (nI e) (nI i + 1) (nI i + 1)
          rw [nI_1]
          have hal := as_len (r := r) (g := tx_sub t p i) (z := decide (i = e))
          exact ih (i + 1) (i + 1) _ G2 _ _ (by omega) (by omega) (by omega) (by omega) (by omega) hev2 (by omega) (by omega) hp
        refine ⟨fun q2 => ?_, fun q2 => ?_⟩
        · have w : ¬ i = e := fun w => q2 (by rw [w])
          have e1 : bo_I (decide (i = e)) = 0 := by rw [decide_eq_false w]; rfl
          rw [e1] at key
          exact key
        · have w : i = e := (nI_eq (by omega) (by omega)).mp q2
          have e1 : bo_I (decide (i = e)) = 1 := by rw [decide_eq_true w]; rfl
          rw [e1] at key
          exact key
      refine ⟨fun q => absurd ((nI_ltI (by omega) (by omega)).mp q) (by omega), fun _ => ⟨fun q => h54 (Or.inl ((nI_eq (by omega) (by omega)).mp q)), fun q => ?_⟩⟩
      have w : ¬ i = e := fun w => q (by rw [w])
      have hd := hSG.2.2.2.1 _ (tx_mem (t := t) (i := i) (by omega))
      refine ⟨b, rfl, hSG.1, 0, 0, by omega, by omega, sp_charAt hSG (by omega) ⟨fun q2 => ?_, fun q2 => h54 (Or.inr ((nI_eq (b := 47) (by omega) (by decide)).mp q2))⟩⟩
      have y : ¬ (i = e ∨ t.getD i 0 = 47) := by
        intro y
        rcases y with y | y
        · exact w y
        · exact q2 (by rw [y]; rfl)
      rw [if_neg y] at hp
      show pq_Tx_path_31 E mc ms Post k G (c + 0) (s + 0) (some b) (some a) (nI e) (nI p) (nI i + 1)
      rw [nI_1]
      exact ih (i + 1) p r G _ _ (by omega) hp1 (by omega) (by omega) hr hev (by omega) (by omega) hp
theorem pa_fuel (t : List Nat) (e : Nat) : ∀ (k m i p : Nat) (r : List Nat), e + 1 - i < k → e + 1 - i < m → pa_go t e k i p r = pa_go t e m i p r := by
  intro k
  induction k with
  | zero => intro m i p r h; omega
  | succ k ih =>
    intro m i p r h h2
    cases m with
    | zero => omega
    | succ m =>
      rw [pa_go, pa_go]
      by_cases z : e < i
      · rw [if_pos z, if_pos z]
      · rw [if_neg z, if_neg z]
        by_cases y : i = e ∨ t.getD i 0 = 47
        · rw [if_pos y, if_pos y]
          exact ih m _ _ _ (by omega) (by omega)
        · rw [if_neg y, if_neg y]
          exact ih m _ _ _ (by omega) (by omega)
theorem sp_path {Post : Option Nat → wo_W → Prop} (h0 : sg_at E G0 a v0 t0) (ht0 : t0.length ≤ 4096) (hk : kx_ok E G0) (hS : tx_S G0 b t) (hb : ∀ x, wo_gr G0 576 b = some x → x ≠ v0) (ht : t.length ≤ 20) (h1 : 90 ≤ mc) (h2 : 2500 ≤ ms)
    (hp : ∀ q G', tx_new E G0 a G' q (pa_of t) → fr_W (sg_W a v0) G0 G' → (∃ r', sg_ev E G0 v0 a G' r' ∧ r'.length ≤ 40) → Post (some q) G') : pq_Tx_path E mc ms Post G0 (some b) (some a) := by
  have hev := sg_ev.in h0
  have hix := ix_le 63 t
  unfold pq_Tx_path pq_Tx_path_0
  have h19 : ∀ e, e = ix_of 63 t → pq_Tx_path_19 E mc ms Post G0 0 0 (some b) (some a) (nI e) := by
    intro e e1
    unfold pq_Tx_path_19
    refine ⟨a, rfl, h0.1, 1, 0, by omega, by omega, ev_L (n := 0) hev (Nat.zero_le _) ht0 (by omega) (by omega) (fun G' w => ?_)⟩
    have w2 : sg_ev E G0 v0 a G' [] := w
    refine ⟨t.length + 1, sp_paLoop h0 hk hS hb ht (by omega) (t.length + 1) 1 1 [] G' _ _ (by omega) (by omega) (by omega) ?_ (by simp) w2 (by omega) (by omega) (fun q G2 j1 j2 j3 => hp q G2 ?_ j2 j3)⟩
    · rcases Nat.eq_zero_or_pos e with y | y
      · exact Or.inr ⟨rfl, rfl, y⟩
      · exact Or.inl (by omega)
    · unfold pa_of
      rw [← e1]
      exact j1
  refine ⟨b, rfl, hS.1, 0, 0, by omega, by omega, sp_indexOf (ch := 63) hS (by decide) (fun q => ?_) (fun i hi q1 q2 => ?_)⟩
  · refine ⟨fun q2 => absurd q2 (by decide), fun _ => ⟨hS.1, 0, 0, by omega, by omega, sp_length hS (h19 _ (ix_no 63 t q).symm)⟩⟩
  · have := hS.2.2.1
    exact ⟨fun _ => h19 _ (ix_at 63 t i hi q1 q2).symm, fun q3 => absurd (nI_pos' (by omega)) q3⟩
end SP
