def tx_i (im : Nat → Prop) (G : wo_W) (q : Nat) (t : List Nat) : Prop := tx_S G q t ∧ im q ∧ ∀ x, wo_gr G 576 q = some x → im x
def rp_at (im : Nat → Prop) (G : wo_W) (p l : Nat) (bd : List Nat) (g : Nat) (po : List Nat) (vr : Bool) : Prop := wo_ty G p = 13 ∧ im p ∧ wo_gi G 768 p = nI l ∧ l < 256 ∧ (∃ q, wo_gr G 769 p = some q ∧ tx_i im G q bd ∧ bd.length ≤ 8) ∧ wo_gi G 770 p = nI g ∧ g < 2 ^ 31 ∧ (∃ q, wo_gr G 771 p = some q ∧ tx_i im G q po ∧ po.length ≤ 8) ∧ wo_gi G 772 p = bo_I vr
def ag_of : Option Nat → List Nat
  | none => []
  | some n => nl_of 65 n
def ds_of (m l g : Nat) (po : List Nat) (vr : Bool) (ag : Option Nat) : List Nat := bg_of m ++ nl_of 69 g ++ [75, 58] ++ [l] ++ [10] ++ (if vr then [89, 58, 86, 10] else []) ++ (if po = [] then [] else [80, 58] ++ po ++ [10]) ++ ag_of ag
theorem tx_i.fr {im W : Nat → Prop} {G G1 : wo_W} {q : Nat} {t : List Nat} (h : tx_i im G q t) (f : fr_W W G G1) (hW : ∀ x, W x → ¬ im x) : tx_i im G1 q t := by
  obtain ⟨h1, h2, h3⟩ := h
  have hq : ¬ W q := fun z => hW q z h2
  refine ⟨h1.fr f hq (fun b hb z => hW b z (h3 b hb)), h2, fun x hx => h3 x ?_⟩
  rw [← (f.2 q (by rw [h1.1]; decide) hq).2.2.2.2.1 576]
  exact hx
theorem rp_at.fr {im W : Nat → Prop} {G G1 : wo_W} {p l g : Nat} {bd po : List Nat} {vr : Bool} (h : rp_at im G p l bd g po vr) (f : fr_W W G G1) (hW : ∀ x, W x → ¬ im x) : rp_at im G1 p l bd g po vr := by
  obtain ⟨h1, h2, h3, h4, ⟨q, h5, h6, h7⟩, h8, h9, ⟨q2, j1, j2, j3⟩, j4⟩ := h
  have e := f.2 p (by rw [h1]; decide) (fun z => hW p z h2)
  exact ⟨e.1.trans h1, h2, (e.2.2.1 _).trans h3, h4, ⟨q, (e.2.2.2.2.1 _).trans h5, h6.fr f hW, h7⟩, (e.2.2.1 _).trans h8, h9, ⟨q2, (e.2.2.2.2.1 _).trans j1, j2.fr f hW, j3⟩, (e.2.2.1 _).trans j4⟩
section SP
variable {E : wo_E} {mc ms : Nat} {G G0 : wo_W} {a z v0 : Nat} {t u : List Nat} {im : Nat → Prop}
theorem sh_b.cs {i : Nat} (h : sh_b E G0 v0 z a) (e : sg_ev E G0 v0 a G t) (hi : i < 19) : tx_S G (en_str E i) (kx_tx i) ∧ ∀ x w, wo_gr G 576 (en_str E i) = some x → wo_gr G 256 a = some w → x ≠ w := by
  obtain ⟨k1, k2, k3⟩ := (h.k e).1 i hi
  refine ⟨k2, fun x w hx hw q => ?_⟩
  obtain ⟨w2, j1, j2, j3⟩ := e
  have hww : w = w2 := by
    have := j1.2.2.2.2.1
    rw [hw] at this
    exact Option.some.inj this
  have h5 := j1.2.2.2.2.2.2.1
  have h6 := k3 x hx
  omega
theorem sh_b.iS (h : sh_b E G0 v0 z a) (e : sg_ev E G0 v0 a G t) (ha : ¬ im a) (hv : ¬ im v0) {q : Nat} (hS : tx_i im G0 q u) : tx_S G q u ∧ ∀ x w, wo_gr G 576 q = some x → wo_gr G 256 a = some w → x ≠ w := by
  obtain ⟨⟨t0, k, _⟩, _⟩ := h
  have hb : ∀ x, wo_gr G0 576 q = some x → x ≠ v0 := fun x hx y => hv (by rw [← y]; exact hS.2.2 x hx)
  exact ⟨e.S hS.1 hb k.1 k.2.2.2.2.2.1.1, e.nb k hS.1 hb⟩
theorem sp_describe {Post : wo_W → Prop} {p m l g : Nat} {bd po : List Nat} {vr : Bool} {ag : Option Nat} (h : sh_b E G0 v0 z a) (e : sg_ev E G0 v0 a G t) (ht : t.length ≤ 4096) (hr : rp_at im G0 p l bd g po vr) (ha : ¬ im a) (hv : ¬ im v0) (hm : m < 2 ^ 31) (hag : ∀ n, ag = some n → n < 2 ^ 31) (h1 : 20 ≤ mc) (h2 : 4000 ≤ ms) (hp : ∀ G', sg_ev E G0 v0 a G' (ds_of m l g po vr ag) → Post G') : pq_Sh_describe E mc ms Post G z (nI m) (some p) (wh_I ag) := by
  have hW : ∀ x, sg_W a v0 x → ¬ im x := fun x q => by rcases q with q | q <;> rw [q] <;> assumption
  have hb := bg_len hm
  have hR : ∀ G' t', sg_ev E G0 v0 a G' t' → rp_at im G' p l bd g po vr := fun G' t' e' => hr.fr e'.frm hW
  have hr0 := hr
  obtain ⟨g1, g2, g3, g4, ⟨q1, g5, g6, g7⟩, g8, g9, ⟨q2, j1, j2, j3⟩, j4⟩ := hr0
  have hn := nl_len (x := 69) g9
  unfold pq_Sh_describe pq_Sh_describe_0
  have h106 : ∀ G1 t1 c s, sg_ev E G0 v0 a G1 t1 → t1.length ≤ 60 → c + 4 ≤ mc → s + 960 ≤ ms → t1 ++ ag_of ag = ds_of m l g po vr ag → pq_Sh_describe_106 E mc ms Post G1 c s z (wh_I ag) := by
    intro G1 t1 c s e1 ht1 hc hs hq
    unfold pq_Sh_describe_106 pq_Sh_describe_118
    cases ag with
    | none =>
      refine ⟨fun _ => hp G1 ?_, fun q => absurd rfl q⟩
      rw [← hq]
      simpa [ag_of] using e1
    | some n =>
      have hn2 := hag n rfl
      refine ⟨fun q => absurd q (fun y => nI_pos hn2 (show nI n < 0 by rw [show nI n = -1 from y]; decide)), fun _ => ⟨(h.zz e1).1, 4, 960, by omega, by omega, sp_numberLine (x := 65) (m := n) h e1 (by omega) (by decide) hn2 (by omega) (by omega) (fun G2 e2 => hp G2 ?_)⟩⟩
      rw [← hq]
      exact e2
  have h64 : ∀ G1 t1 c s, sg_ev E G0 v0 a G1 t1 → t1.length ≤ 48 → c + 7 ≤ mc → s + 1680 ≤ ms → t1 ++ (if po = [] then [] else [80, 58] ++ po ++ [10]) ++ ag_of ag = ds_of m l g po vr ag → pq_Sh_describe_64 E mc ms Post G1 c s z (some p) (wh_I ag) := by
    intro G1 t1 c s e1 ht1 hc hs hq
    unfold pq_Sh_describe_64
    have r1 := hR G1 t1 e1
    have s1 := h.iS e1 ha hv j2
    have ep : ∀ G' t', sg_ev E G0 v0 a G' t' → wo_gr G' 771 p = some q2 := by
      intro G' t' e'
      rw [(e'.frm.2 p (by rw [g1]; decide) (fun y => hW p y g2)).2.2.2.2.1 771]
      exact j1
    refine ⟨p, rfl, r1.1, fun r hr => ⟨q2, hr.trans (ep G1 t1 e1), s1.1.1, 0, 0, by omega, by omega, sp_isEmpty s1.1 ⟨fun q => ?_, fun q => ?_⟩⟩⟩
    · have y : po = [] := by
        apply Classical.byContradiction
        intro y
        exact q (if_neg y)
      rw [if_pos y, List.append_nil] at hq
      exact h106 G1 t1 _ _ e1 (by omega) (by omega) (by omega) hq
    · have y : ¬ po = [] := fun y => by rw [if_pos y] at q; exact absurd q (by decide)
      rw [if_neg y] at hq
      have c15 := h.cs (i := 15) e1 (by decide)
      refine ⟨(h.zz e1).1, fun r hr => ⟨a, (h.zz e1).2 r hr, e1.ty, 1, 240, by omega, by omega, ev_S e1 c15.1 c15.2 (by show t1.length + 2 ≤ 4096; omega) (by omega) (by show 2 * (t1.length + 2) ≤ 240; omega) (fun G2 e2 => ?_)⟩⟩
      have l2 : (t1 ++ kx_tx 15).length = t1.length + 2 := by rw [List.length_append]; rfl
      have s2 := h.iS e2 ha hv j2
      refine ⟨(h.zz e2).1, fun r hr => ⟨(hR G2 _ e2).1, fun r24 hr24 => ⟨a, (h.zz e2).2 r hr, e2.ty, 1, 240, by omega, by omega, ?_⟩⟩⟩
      rw [hr24, ep G2 _ e2]
      refine ev_S e2 s2.1 s2.2 (by omega) (by omega) (by omega) (fun G3 e3 => ?_)
      have l3 : (t1 ++ kx_tx 15 ++ po).length = t1.length + 2 + po.length := by rw [List.length_append, l2]
      refine ⟨(h.zz e3).1, fun r hr => ⟨a, (h.zz e3).2 r hr, e3.ty, 1, 240, by omega, by omega, ev_C (c := 10) e3 (by decide) (by omega) (by omega) (by omega) (fun G4 e4 => ?_)⟩⟩
      refine h106 G4 _ _ _ e4 (by rw [List.length_append, l3]; show t1.length + 2 + po.length + 1 ≤ 60; omega) (by omega) (by omega) ?_
      rw [← hq]
      simp [kx_tx]
  refine ⟨(h.zz e).1, 3, 100, by omega, by omega, sp_begin h e ht hm (by omega) (by omega) (fun G1 e1 => ⟨p, rfl, (hR G1 _ e1).1, (h.zz e1).1, 4, 960, by omega, by omega, ?_⟩)⟩
  rw [(hR G1 _ e1).2.2.2.2.2.1]
  refine sp_numberLine (x := 69) h e1 (by omega) (by decide) g9 (by omega) (by omega) (fun G2 e2 => ?_)
  have l2 : (bg_of m ++ nl_of 69 g).length ≤ 24 := by rw [List.length_append]; omega
  have c13 := h.cs (i := 13) e2 (by decide)
  refine ⟨(h.zz e2).1, fun r hr => ⟨a, (h.zz e2).2 r hr, e2.ty, 1, 240, by omega, by omega, ev_S e2 c13.1 c13.2 (by show _ + 2 ≤ 4096; omega) (by omega) (by show 2 * (_ + 2) ≤ 240; omega) (fun G3 e3 => ?_)⟩⟩
  have l3 : (bg_of m ++ nl_of 69 g ++ kx_tx 13).length ≤ 26 := by rw [List.length_append]; show _ + 2 ≤ 26; omega
  refine ⟨(h.zz e3).1, fun r hr => ⟨(hR G3 _ e3).1, a, (h.zz e3).2 r hr, e3.ty, 1, 240, by omega, by omega, ?_⟩⟩
  rw [(hR G3 _ e3).2.2.1]
  refine ev_C e3 g4 (by omega) (by omega) (by omega) (fun G4 e4 => ?_)
  have l4 : (bg_of m ++ nl_of 69 g ++ kx_tx 13 ++ [l]).length ≤ 27 := by rw [List.length_append]; show _ + 1 ≤ 27; omega
  refine ⟨(h.zz e4).1, fun r hr => ⟨a, (h.zz e4).2 r hr, e4.ty, 1, 240, by omega, by omega, ev_C (c := 10) e4 (by decide) (by omega) (by omega) (by omega) (fun G5 e5 => ?_)⟩⟩
  have l5 : (bg_of m ++ nl_of 69 g ++ kx_tx 13 ++ [l] ++ [10]).length ≤ 28 := by rw [List.length_append]; show _ + 1 ≤ 28; omega
  have r5 := hR G5 _ e5
  refine ⟨r5.1, fun q => ?_, fun q => ?_⟩
  · rw [r5.2.2.2.2.2.2.2.2] at q
    have y : vr = false := by
      cases vr
      · rfl
      · exact absurd q (by decide)
    refine h64 G5 _ _ _ e5 (by omega) (by omega) (by omega) ?_
    unfold ds_of
    rw [y]
    simp [kx_tx]
  · rw [r5.2.2.2.2.2.2.2.2] at q
    have y : vr = true := by
      cases vr
      · exact absurd rfl q
      · rfl
    have c14 := h.cs (i := 14) e5 (by decide)
    refine ⟨(h.zz e5).1, fun r hr => ⟨a, (h.zz e5).2 r hr, e5.ty, 1, 240, by omega, by omega, ev_S e5 c14.1 c14.2 (by show _ + 4 ≤ 4096; omega) (by omega) (by show 2 * (_ + 4) ≤ 240; omega) (fun G6 e6 => ?_)⟩⟩
    refine h64 G6 _ _ _ e6 (by rw [List.length_append]; show _ + 4 ≤ 48; omega) (by omega) (by omega) ?_
    unfold ds_of
    rw [y]
    simp [kx_tx]
end SP
