def sb_st (E : wo_E) (ow : Nat → Nat) (r : Nat) (G : wo_W) (a : Nat) (t : List Nat) : Prop := ∃ v, sg_at E G a v t ∧ t.length ≤ 4096 ∧ ow a = r ∧ ow v = r
section SP
variable {E : wo_E} {mc ms : Nat} {G G1 : wo_W} {a r : Nat} {ow ow1 : Nat → Nat} {t u : List Nat} {R : Nat → Prop}
theorem sb_st.ty (h : sb_st E ow r G a t) : wo_ty G a = 5 := by
  obtain ⟨v, k, _⟩ := h
  exact k.1
theorem sb_st.xt (h : sb_st E ow r G a t) (x : xt E R ow G ow1 G1) (hr : ¬ R r) : sb_st E ow1 r G1 a t := by
  obtain ⟨v, k, kl, w1, w2⟩ := h
  have za : wo_ty G a ≠ 0 := by rw [k.1]; decide
  have zv : wo_ty G v ≠ 0 := by rw [k.2.2.2.2.2.1.1]; decide
  exact ⟨v, k.eq (x.eq za (by rw [w1]; exact hr)) (x.eq zv (by rw [w2]; exact hr)), kl, (x.w za).trans w1, (x.w zv).trans w2⟩
theorem sb_fin {v : Nat} {t0 : List Nat} (c : cx E ow G) (k : sg_at E G a v t0) (w1 : ow a = r) (w2 : ow v = r) (e : sg_ev E G v a G1 t) (ht : t.length ≤ 4096) : ∃ ow', xt E (fun q => q = r) ow G ow' G1 ∧ sb_st E ow' r G1 a t ∧ ∀ q u, tx_new E G a G1 q u → tx_i (im ow') G1 q u := by
  have za : wo_ty G a ≠ 0 := by rw [k.1]; decide
  have zv : wo_ty G v ≠ 0 := by rw [k.2.2.2.2.2.1.1]; decide
  obtain ⟨w, e1, e2, e3⟩ := e
  have x : xt E (fun q => q = r) ow G (ow_ex ow G r [w]) G1 := by
    refine xt.ex c.2 (fun y hy _ => ?_) (fr_mn (fun y _ q => ?_) e3)
    · rw [List.mem_singleton.mp hy]
      exact ⟨e1.2.2.2.2.2.2.1, by rw [e1.2.2.2.2.2.1.1]; decide⟩
    · rcases q with q | q <;> rw [q] <;> assumption
  refine ⟨_, x, ⟨w, e1, ht, (x.w za).trans w1, ?_⟩, fun q u tn => ?_⟩
  · rcases e2 with q | q
    · rw [ow_old (show wo_ty G w ≠ 0 by rw [q]; exact zv), q]; exact w2
    · exact ow_new q (List.mem_singleton.mpr rfl)
  · obtain ⟨t1, t2, t3, t4⟩ := tn
    have hq : q ≠ w := by
      intro y
      have := t3.1
      rw [y, e1.2.2.2.2.2.1.1] at this
      cases this
    exact ⟨t3, ow_non t1 (fun y => hq (List.mem_singleton.mp y)), fun x hx2 => ow_non (t4 x hx2).1 (fun y => (t4 x hx2).2.2 w e1.2.2.2.2.1 (List.mem_singleton.mp y))⟩
theorem bs_C {Post : Option Nat → wo_W → Prop} {d : Nat} (c : cx E ow G) (h : sb_st E ow r G a t) (hd : d < 256) (hn : t.length + 1 ≤ 4096) (h1 : 1 ≤ mc) (h2 : 2 * (t.length + 1) ≤ ms) (hp : ∀ ow' G', xt E (fun q => q = r) ow G ow' G' → sb_st E ow' r G' a (t ++ [d]) → Post (some a) G') : pq_SB_append_C E mc ms Post G a (nI d) := by
  obtain ⟨v, k, kl, w1, w2⟩ := h
  refine ev_C (sg_ev.in k) hd hn h1 h2 (fun G' e => ?_)
  obtain ⟨ow', x1, x2, _⟩ := sb_fin c k w1 w2 e (by rw [List.length_append]; exact hn)
  exact hp ow' G' x1 x2
theorem bs_L {Post : wo_W → Prop} (c : cx E ow G) (h : sb_st E ow r G a t) (h1 : 1 ≤ mc) (hp : ∀ ow' G', xt E (fun q => q = r) ow G ow' G' → sb_st E ow' r G' a [] → Post G') : pq_SB_setLength E mc ms Post G a 0 := by
  obtain ⟨v, k, kl, w1, w2⟩ := h
  refine ev_L (n := 0) (sg_ev.in k) (Nat.zero_le _) kl h1 (Nat.zero_le _) (fun G' e => ?_)
  obtain ⟨ow', x1, x2, _⟩ := sb_fin c k w1 w2 e (by simp)
  exact hp ow' G' x1 x2
theorem bs_T {Post : Option Nat → wo_W → Prop} (c : cx E ow G) (h : sb_st E ow r G a t) (h1 : 2 ≤ mc) (h2 : t.length + 4 ≤ ms) (hp : ∀ q G', xt E (fun _ => False) ow G ow G' → tx_i (im ow) G' q t → Post (some q) G') : pq_SB_toString E mc ms Post G a := by
  obtain ⟨v, k, kl, w1, w2⟩ := h
  refine ev_T (sg_ev.in k) kl h1 h2 (fun q G' q1 q2 q3 q4 q5 q6 => ?_)
  refine hp q G' (xt.of c.2 q3) ⟨q4, c.2.z q1, fun b hb => c.2.z (q5 b hb).1⟩
theorem bs_len {Post : Int32 → wo_W → Prop} (h : sb_st E ow r G a t) (hp : Post (nI t.length) G) : pq_SB_length E mc ms Post G a := by
  obtain ⟨v, k, kl, w1, w2⟩ := h
  exact sp_sbLength k hp
theorem bs_decoded {Post : Option Nat → wo_W → Prop} {b : Nat} {t0 : List Nat} (c : cx E ow G) (h : sb_st E ow r G a t0) (hr : r ≠ 0) (hS : tx_i (im ow) G b t) (ht : t.length ≤ 20) (h1 : 23 ≤ mc) (h2 : 944 ≤ ms)
    (hpn : de_of t = none → ∀ ow' G', xt E (fun q => q = r) ow G ow' G' → (∃ t', sb_st E ow' r G' a t') → Post none G') (hps : ∀ u q ow' G', de_of t = some u → u.length ≤ 20 → xt E (fun q => q = r) ow G ow' G' → (∃ t', sb_st E ow' r G' a t') → tx_i (im ow') G' q u → Post (some q) G') : pq_Tx_decoded E mc ms Post G (some b) (some a) := by
  obtain ⟨v, k, kl, w1, w2⟩ := h
  have hb : ∀ x, wo_gr G 576 b = some x → x ≠ v := fun x hx e => hr (by rw [← w2, ← e]; exact hS.2.2 x hx)
  refine sp_decoded k kl c.1 hS.1 hb ht h1 h2 (fun hn G' r' e z => ?_) (fun u q G' hu tn e z => ?_)
  · obtain ⟨ow', x1, x2, _⟩ := sb_fin c k w1 w2 e z
    exact hpn hn ow' G' x1 ⟨_, x2⟩
  · obtain ⟨ow', x1, x2, x3⟩ := sb_fin c k w1 w2 e (by omega)
    exact hps u q ow' G' hu z x1 ⟨_, x2⟩ (x3 _ _ tn)
theorem bs_path {Post : Option Nat → wo_W → Prop} {b : Nat} {t0 : List Nat} (c : cx E ow G) (h : sb_st E ow r G a t0) (hr : r ≠ 0) (hS : tx_i (im ow) G b t) (ht : t.length ≤ 20) (h1 : 90 ≤ mc) (h2 : 2500 ≤ ms)
    (hp : ∀ q ow' G', xt E (fun q => q = r) ow G ow' G' → (∃ t', sb_st E ow' r G' a t') → tx_i (im ow') G' q (pa_of t) → Post (some q) G') : pq_Tx_path E mc ms Post G (some b) (some a) := by
  obtain ⟨v, k, kl, w1, w2⟩ := h
  have hb : ∀ x, wo_gr G 576 b = some x → x ≠ v := fun x hx e => hr (by rw [← w2, ← e]; exact hS.2.2 x hx)
  refine sp_path k kl c.1 hS.1 hb ht h1 h2 (fun q G' tn f e => ?_)
  obtain ⟨r', e1, e2⟩ := e
  obtain ⟨ow', x1, x2, x3⟩ := sb_fin c k w1 w2 e1 (by omega)
  exact hp q ow' G' x1 ⟨_, x2⟩ (x3 _ _ tn)
theorem is_sub {Post : Option Nat → wo_W → Prop} {b p e : Nat} (c : cx E ow G) (hS : tx_i (im ow) G b t) (hpe : p ≤ e) (he : e ≤ t.length) (h1 : 2 ≤ mc) (h2 : e - p + 4 ≤ ms) (hp : ∀ q G', xt E (fun _ => False) ow G ow G' → tx_i (im ow) G' q (tx_sub t p e) → Post (some q) G') : pq_St_substring_II E mc ms Post G b (nI p) (nI e) := by
  have b0 : ∀ y, y < en_bs E → ow y = 0 := fun y hy => by
    apply Classical.byContradiction
    intro w
    have := (c.2 y w).1
    omega
  refine sp_sub c.1 hS.1 hpe he h1 h2 (fun q G' f S hx hq => hp q G' (xt.of c.2 f) ⟨S, ?_, fun x hx2 => ?_⟩)
  · rcases hq with z | z | z
    · rw [z]; exact hS.2.1
    · exact b0 q z
    · exact c.2.z z.1
  · rcases hx x hx2 with z | z | z
    · exact hS.2.2 x z
    · exact b0 x z
    · exact c.2.z z.1
theorem is_subI {Post : Option Nat → wo_W → Prop} {b p : Nat} (c : cx E ow G) (hS : tx_i (im ow) G b t) (hpe : p ≤ t.length) (h1 : 2 ≤ mc) (h2 : t.length - p + 4 ≤ ms) (hp : ∀ q G', xt E (fun _ => False) ow G ow G' → tx_i (im ow) G' q (tx_sub t p t.length) → Post (some q) G') : pq_St_substring_I E mc ms Post G b (nI p) := by
  unfold pq_St_substring_I pq_St_substring_I_0
  exact ⟨hS.1.1, 0, 0, Nat.zero_le _, Nat.zero_le _, sp_length hS.1 ⟨hS.1.1, mc, ms, by omega, by omega, is_sub c hS hpe (Nat.le_refl _) h1 h2 hp⟩⟩
end SP
