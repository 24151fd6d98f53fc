def sg_ev (E : wo_E) (G0 : wo_W) (v0 a : Nat) (G : wo_W) (t : List Nat) : Prop := ∃ w, sg_at E G a w t ∧ (w = v0 ∨ wo_ty G0 w = 0) ∧ fr_W (sg_W a v0) G0 G
theorem sg_ev.in {E : wo_E} {G : wo_W} {a v : Nat} {t : List Nat} (h : sg_at E G a v t) : sg_ev E G v a G t := ⟨v, h, Or.inl rfl, fr_rf _ _⟩
theorem sg_ev.frm {E : wo_E} {G0 G : wo_W} {v0 a : Nat} {t : List Nat} (h : sg_ev E G0 v0 a G t) : fr_W (sg_W a v0) G0 G := by
  obtain ⟨w, h1, h2, h3⟩ := h
  exact h3
theorem sg_ev.ty {E : wo_E} {G0 G : wo_W} {v0 a : Nat} {t : List Nat} (h : sg_ev E G0 v0 a G t) : wo_ty G a = 5 := by
  obtain ⟨w, h1, h2, h3⟩ := h
  exact h1.1
theorem sg_ev.step {E : wo_E} {G0 G G1 : wo_W} {v0 a v w : Nat} {t : List Nat} (hv : v = v0 ∨ wo_ty G0 v = 0) (f : fr_W (sg_W a v0) G0 G) (hw : w = v ∨ wo_ty G w = 0) (f1 : fr_W (sg_W a v) G G1) (h1 : sg_at E G1 a w t) : sg_ev E G0 v0 a G1 t := by
  refine ⟨w, h1, ?_, ky_tr f.1 f1.1, fun x hx hx2 => ?_⟩
  · rcases hw with q | q
    · rw [q]; exact hv
    · by_cases z : wo_ty G0 w = 0
      · exact Or.inr z
      · exact absurd ((f.1 w z).symm.trans q) z
  · refine (f.2 x hx hx2).tr (f1.2 x (by rw [f.1 x hx]; exact hx) (fun q => ?_))
    rcases q with q | q
    · exact hx2 (Or.inl q)
    · rcases hv with z | z
      · exact hx2 (Or.inr (q.trans z))
      · exact hx (by rw [q]; exact z)
theorem sg_ev.fr0 {E : wo_E} {G0 G G1 : wo_W} {v0 a : Nat} {t : List Nat} (h : sg_ev E G0 v0 a G t) (f1 : fr_W fr_0 G G1) : sg_ev E G0 v0 a G1 t := by
  obtain ⟨w, h1, h2, h3⟩ := h
  have ea := f1.2 a (by rw [h1.1]; decide) (fun q => q)
  have ew := f1.2 w (by rw [h1.2.2.2.2.2.1.1]; decide) (fun q => q)
  exact ⟨w, h1.eq ea ew, h2, ky_tr h3.1 f1.1, fun x hx hx2 => (h3.2 x hx hx2).tr (f1.2 x (by rw [h3.1 x hx]; exact hx) (fun q => q))⟩
theorem sg_ev.S {E : wo_E} {G0 G : wo_W} {v0 a b : Nat} {t u : List Nat} (h : sg_ev E G0 v0 a G t) (hS : tx_S G0 b u) (hb : ∀ x, wo_gr G0 576 b = some x → x ≠ v0) (ha : wo_ty G0 a = 5) (hv : wo_ty G0 v0 = 65) : tx_S G b u := by
  refine hS.fr h.frm (fun q => ?_) (fun x hx q => ?_)
  · rcases q with q | q
    · have := hS.1; rw [q, ha] at this; cases this
    · have := hS.1; rw [q, hv] at this; cases this
  · rcases q with q | q
    · obtain ⟨_, _, _, _, y, hy, hyB⟩ := hS
      rw [hx] at hy
      cases hy
      have := hyB.1
      rw [q, ha] at this
      cases this
    · exact hb x hx q
theorem sg_ev.kx {E : wo_E} {G0 G : wo_W} {v0 a : Nat} {t : List Nat} (h : sg_ev E G0 v0 a G t) (hk : kx_ok E G0) (ha : en_bs E ≤ a) (hv : en_bs E ≤ v0) : kx_ok E G := hk.fr h.frm (fun x q => by rcases q with q | q <;> rw [q] <;> assumption)
section SP
variable {E : wo_E} {mc ms : Nat} {G G0 : wo_W} {a b v0 : Nat} {t u : List Nat}
theorem ev_C {Post : Option Nat → wo_W → Prop} {c : Nat} (h : sg_ev E G0 v0 a G t) (hc : c < 256) (hn : t.length + 1 ≤ 4096) (h1 : 1 ≤ mc) (h2 : 2 * (t.length + 1) ≤ ms) (hp : ∀ G', sg_ev E G0 v0 a G' (t ++ [c]) → Post (some a) G') : pq_SB_append_C E mc ms Post G a (nI c) := by
  obtain ⟨w, k1, k2, k3⟩ := h
  exact sp_appendC k1 hc hn h1 h2 (fun x G' q1 q2 q3 _ => hp G' (sg_ev.step k2 k3 q2 q3 q1))
theorem ev_I {Post : Option Nat → wo_W → Prop} {m : Nat} (h : sg_ev E G0 v0 a G t) (hm : m < 2 ^ 31) (hst : sta_ok E G) (hn : t.length + (dc_of m).length ≤ 4096) (h1 : 1 ≤ mc) (h2 : 2 * (t.length + (dc_of m).length) ≤ ms) (hp : ∀ G', sg_ev E G0 v0 a G' (t ++ dc_of m) → Post (some a) G') : pq_SB_append_I E mc ms Post G a (nI m) := by
  obtain ⟨w, k1, k2, k3⟩ := h
  exact sp_appendI k1 hm hst hn h1 h2 (fun x G' q1 q2 q3 _ => hp G' (sg_ev.step k2 k3 q2 q3 q1))
theorem ev_S {Post : Option Nat → wo_W → Prop} (h : sg_ev E G0 v0 a G t) (hS : tx_S G b u) (hbv : ∀ x w, wo_gr G 576 b = some x → wo_gr G 256 a = some w → x ≠ w) (hn : t.length + u.length ≤ 4096) (h1 : 1 ≤ mc) (h2 : 2 * (t.length + u.length) ≤ ms) (hp : ∀ G', sg_ev E G0 v0 a G' (t ++ u) → Post (some a) G') : pq_SB_append_S E mc ms Post G a (some b) := by
  obtain ⟨w, k1, k2, k3⟩ := h
  exact sp_appendS k1 hS (fun x hx => hbv x w hx k1.2.2.2.2.1) hn h1 h2 (fun x G' q1 q2 q3 _ => hp G' (sg_ev.step k2 k3 q2 q3 q1))
theorem ev_L {Post : wo_W → Prop} {n : Nat} (h : sg_ev E G0 v0 a G t) (hn : n ≤ t.length) (ht : t.length ≤ 4096) (h1 : 1 ≤ mc) (h2 : 2 * n ≤ ms) (hp : ∀ G', sg_ev E G0 v0 a G' (t.take n) → Post G') : pq_SB_setLength E mc ms Post G a (nI n) := by
  obtain ⟨w, k1, k2, k3⟩ := h
  exact sp_setLength k1 hn ht h1 h2 (fun G' q1 q2 _ => hp G' (sg_ev.step k2 k3 (Or.inl rfl) (fr_mn (fun x _ q => Or.inl q) q2) q1))
theorem ev_T {Post : Option Nat → wo_W → Prop} (h : sg_ev E G0 v0 a G t) (hn : t.length ≤ 4096) (h1 : 2 ≤ mc) (h2 : t.length + 4 ≤ ms) (hp : ∀ (q : Nat) (G' : wo_W), wo_ty G q = 0 → en_bs E ≤ q → fr_W fr_0 G G' → tx_S G' q t → (∀ b', wo_gr G' 576 q = some b' → wo_ty G b' = 0 ∧ en_bs E ≤ b') → sg_ev E G0 v0 a G' t → Post (some q) G') : pq_SB_toString E mc ms Post G a := by
  have hh := h
  obtain ⟨w, k1, k2, k3⟩ := hh
  exact sp_toString k1 hn h1 h2 (fun q G' q1 q2 q3 q4 q5 => hp q G' q1 q2 q3 q4 q5 (h.fr0 q3))
theorem ev_len {Post : Int32 → wo_W → Prop} (h : sg_ev E G0 v0 a G t) (hp : Post (nI t.length) G) : pq_SB_length E mc ms Post G a := by
  obtain ⟨w, k1, k2, k3⟩ := h
  exact sp_sbLength k1 hp
theorem ev_at {Post : Int32 → wo_W → Prop} {i : Nat} (h : sg_ev E G0 v0 a G t) (hi : i < t.length) (ht : t.length ≤ 4096) (hp : Post (nI (t.getD i 0)) G) : pq_SB_charAt E mc ms Post G a (nI i) := by
  obtain ⟨w, k1, k2, k3⟩ := h
  exact sp_sbCharAt k1 hi ht hp
end SP
