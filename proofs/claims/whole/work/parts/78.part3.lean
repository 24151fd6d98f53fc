theorem np_b {n x y : Nat} {ps : List (Nat × Nat)} (h : ∀ i, i < ps.length → (ps.getD i (0, 0)).1 ≤ (ps.getD i (0, 0)).2 ∧ (ps.getD i (0, 0)).2 < n) (hy : y ≤ n) : ∀ i, i < (np_of ps x y).length → ((np_of ps x y).getD i (0, 0)).1 ≤ ((np_of ps x y).getD i (0, 0)).2 ∧ ((np_of ps x y).getD i (0, 0)).2 < n := by
  intro i hi
  unfold np_of at hi ⊢
  by_cases z : x < y ∧ ps.length < 2
  · rw [if_pos z] at hi ⊢
    by_cases w : i < ps.length
    · have e : (ps ++ [(x, y - 1)]).getD i (0, 0) = ps.getD i (0, 0) := by
        rw [List.getD_eq_getElem?_getD, List.getElem?_append_left w, ← List.getD_eq_getElem?_getD]
      rw [e]
      exact h i w
    · rw [List.length_append] at hi
      have hi2 : i = ps.length := by simp at hi; omega
      have e : (ps ++ [(x, y - 1)]).getD i (0, 0) = (x, y - 1) := by
        rw [hi2, List.getD_eq_getElem?_getD, List.getElem?_append_right (Nat.le_refl _)]
        simp
      rw [e]
      exact ⟨by show x ≤ y - 1; omega, by show y - 1 < n; omega⟩
  · rw [if_neg z] at hi ⊢
    exact h i hi
theorem ri_b {g : List Nat} {n : Nat} {q : Nat × Nat} (h : ri_of g n = some q) : q.2 ≤ n := by
  unfold ri_of at h
  split at h
  · cases h
  · split at h
    · cases h
    · split at h
      · cases h
      · split at h
        · cases h; exact Nat.le_refl _
        · cases h
          show (if _ then n else min _ n) ≤ n
          split
          · exact Nat.le_refl _
          · exact Nat.min_le_right _ _
theorem rs_b {g : List Nat} {n : Nat} {ps : List (Nat × Nat)} (h : rs_of g n = some ps) : ∀ i, i < ps.length → (ps.getD i (0, 0)).1 ≤ (ps.getD i (0, 0)).2 ∧ (ps.getD i (0, 0)).2 < n := by
  have h0 : ∀ i, i < ([] : List (Nat × Nat)).length → (([] : List (Nat × Nat)).getD i (0, 0)).1 ≤ (([] : List (Nat × Nat)).getD i (0, 0)).2 ∧ (([] : List (Nat × Nat)).getD i (0, 0)).2 < n := fun i hi => absurd hi (Nat.not_lt_zero _)
  unfold rs_of at h
  split at h
  · split at h
    · cases h
    · rename_i q hq
      cases h
      exact np_b h0 (ri_b hq)
  · split at h
    · cases h
    · rename_i q hq
      split at h
      · cases h
      · rename_i q2 hq2
        cases h
        exact np_b (np_b h0 (ri_b hq)) (ri_b hq2)
section SP
variable {E : wo_E} {mc ms : Nat} {G G0 : wo_W} {a z v0 f l b : Nat} {t u bd : List Nat} {ps : List (Nat × Nat)} {im : Nat → Prop}
theorem sp_part {Post : Option Nat → wo_W → Prop} {p lt g : Nat} {po : List Nat} {vr : Bool} {ag : Option Nat} (h : sh_b E G0 v0 z a) (pc : pc_at E G0 z f l ps) (hr : rp_at im G0 p lt bd g po vr) (ha : ¬ im a) (hv : ¬ im v0) (hb : pb_ok bd ps) (hag : ∀ n, ag = some n → n < 2 ^ 31) (h1 : 47 ≤ mc) (h2 : 9400 ≤ ms)
    (hp : ∀ q G', tx_new E G0 a G' q (pt_of lt g bd po vr ag ps) → (∃ t', sg_ev E G0 v0 a G' t' ∧ t'.length ≤ 4096) → Post (some q) G') : pq_Sh_part E mc ms Post G0 z (some p) (wh_I ag) := by
  have hW : ∀ x, sg_W a v0 x → ¬ im x := fun x q => by rcases q with q | q <;> rw [q] <;> assumption
  have hR : ∀ G' t', sg_ev E G0 v0 a G' t' → rp_at im G' p lt bd g po vr := fun G' t' e' => hr.fr e'.frm hW
  have hr0 := hr
  obtain ⟨g1, g2, g3, g4, ⟨q1, g5, g6, g7⟩, g8, g9, ⟨q2, j1, j2, j3⟩, j4⟩ := hr0
  have ep : ∀ G' t', sg_ev E G0 v0 a G' t' → wo_gr G' 769 p = some q1 := by
    intro G' t' e'
    rw [(e'.frm.2 p (by rw [g1]; decide) (fun y => hW p y g2)).2.2.2.2.1 769]
    exact g5
  have hh := h
  obtain ⟨⟨t0, k, kl⟩, _⟩ := hh
  have e0 := sg_ev.in k
  have pl := pc.2.2.2.2.2.2.2.2.2.2.2.2.1
  have pn := pc.2.2.2.2.2.2.2.2.2.2.2.1
  have hd := ds_len (m := 206) (l := lt) (vr := vr) (by decide) g9 hag j3
  have d1 := dc_lo (n := bd.length) (by omega)
  have h93 : ∀ G1 t1 c s, sg_ev E G0 v0 a G1 t1 → t1.length ≤ 120 → c + 2 ≤ mc → s + 130 ≤ ms → t1 = pt_of lt g bd po vr ag ps → pq_Sh_part_93 E mc ms Post G1 c s z := by
    intro G1 t1 c s e ht hc hs hq
    unfold pq_Sh_part_93
    refine ⟨(h.zz e).1, fun r hr => ⟨a, (h.zz e).2 r hr, e.ty, 2, 130, by omega, by omega, ev_T e (by omega) (by omega) (by omega) (fun q2 G4 q1 q3 q4 q5 q6 q7 => ?_)⟩⟩
    rw [← hq] at hp
    exact hp q2 G4 (ev_new e q1 q3 q4 q5 q6) ⟨_, q7, by omega⟩
  unfold pq_Sh_part pq_Sh_part_0
  refine ⟨pc.1, fun q => ?_, fun q => ?_⟩
  · have y : ¬ ps.length = 0 := fun y => q (by rw [pn, y]; rfl)
    refine ⟨20, 4000, by omega, by omega, sp_describe (m := 206) h e0 kl hr ha hv (by decide) hag (by omega) (by omega) (fun G1 e1 => ?_)⟩
    have k1 := h.pc pc e1
    have pn1 := k1.2.2.2.2.2.2.2.2.2.2.2.1
    refine ⟨(h.zz e1).1, fun q2 => ?_, fun q2 => ?_⟩
    · have y2 : ps.length = 2 := by
        have : ¬ ps.length = 1 := fun y2 => q2 (by rw [pn1, y2]; rfl)
        omega
      refine ⟨p, rfl, (hR G1 _ e1).1, fun r hr => ⟨25, 5200, by omega, by omega, ?_⟩⟩
      rw [hr, ep G1 _ e1]
      refine sp_twoPieces h pc e1 hd y2 hb g6 ha hv (by omega) (by omega) (fun G2 e2 => ?_)
      have b3 := hb.2 0 (by omega)
      have b4 := hb.2 1 (by omega)
      have lp := pz_len (bd := bd) b3.1 b3.2 hb.1
      have lp2 := pz_len (bd := bd) b4.1 b4.2 hb.1
      have n82 := nl_len (x := 82) (m := 2) (by decide)
      have n76 := nl_len (x := 76) (m := (ps.getD 0 (0, 0)).2 - (ps.getD 0 (0, 0)).1 + ((ps.getD 1 (0, 0)).2 - (ps.getD 1 (0, 0)).1) + 12) (by omega)
      refine h93 G2 _ _ _ e2 ?_ (by omega) (by omega) ?_
      · unfold tp_of
        simp only [List.length_append]
        show _ + (_ + _ + 1 + _ + _) ≤ 120
        omega
      · unfold pt_of
        rw [if_neg y, if_neg (show ¬ ps.length = 1 by omega)]
    · have y2 : ps.length = 1 := by
        rw [pn1] at q2
        exact (nI_eq (b := 1) (by omega) (by decide)).mp q2
      refine ⟨p, rfl, (hR G1 _ e1).1, fun r hr => ⟨15, 3200, by omega, by omega, ?_⟩⟩
      rw [hr, ep G1 _ e1]
      refine sp_onePiece h pc e1 hd (by omega) hb g6 ha hv (by omega) (by omega) (fun G2 e2 => ?_)
      have b3 := hb.2 0 (by omega)
      have ls := sa_len (q := ps.getD 0 (0, 0)) (by omega) (by omega)
      have n76 := nl_len (x := 76) (m := (ps.getD 0 (0, 0)).2 - (ps.getD 0 (0, 0)).1 + 1) (by omega)
      refine h93 G2 _ _ _ e2 ?_ (by omega) (by omega) ?_
      · unfold op_of
        simp only [List.length_append, d1, ls, tx_sub_len (t := bd) (p := (ps.getD 0 (0, 0)).1) (e := (ps.getD 0 (0, 0)).2 + 1) (by omega)]
        show _ + (2 + 3 + 1 + 1 + 1 + _ + 1 + _) ≤ 120
        omega
      · unfold pt_of
        rw [if_neg y, if_pos y2]
  · have y : ps.length = 0 := by
      rw [pn] at q
      exact (nI_eq (b := 0) (by omega) (by decide)).mp q
    have hbg := bg_len (m := 416) (by decide)
    refine ⟨3, 100, by omega, by omega, sp_begin (m := 416) h e0 kl (by decide) (by omega) (by omega) (fun G1 e1 => ?_)⟩
    have c16 := h.cs (i := 16) e1 (by decide)
    have k16 : kx_tx 16 = [82, 58, 42, 47] := rfl
    rw [k16] at c16
    refine ⟨(h.zz e1).1, fun r hr => ⟨a, (h.zz e1).2 r hr, e1.ty, 1, 240, by omega, by omega, ev_S e1 c16.1 c16.2 (by simp; omega) (by omega) (by simp; omega) (fun G2 e2 => ?_)⟩⟩
    have l2 : (bg_of 416 ++ [82, 58, 42, 47]).length ≤ 15 := by rw [List.length_append]; show _ + 4 ≤ _; omega
    have s2 := h.iS e2 ha hv g6
    refine ⟨(h.zz e2).1, fun r hr => ⟨p, rfl, (hR G2 _ e2).1, fun r2 hr2 => ⟨q1, hr2.trans (ep G2 _ e2), s2.1.1, 0, 0, by omega, by omega, sp_length s2.1 ⟨a, (h.zz e2).2 r hr, e2.ty, 1, 240, by omega, by omega, ev_I e2 (by omega) (h.k e2).2.1 (by rw [d1]; simp; omega) (by omega) (by rw [d1]; show 2 * (_ + 1) ≤ 240; omega) (fun G3 e3 => ?_)⟩⟩⟩⟩
    have l3 : (bg_of 416 ++ [82, 58, 42, 47] ++ dc_of bd.length).length ≤ 16 := by rw [List.length_append, d1]; show _ + 1 ≤ _; omega
    have c17 := h.cs (i := 17) e3 (by decide)
    have k17 : kx_tx 17 = [10, 76, 58, 48, 10, 10] := rfl
    rw [k17] at c17
    refine ⟨(h.zz e3).1, fun r hr => ⟨a, (h.zz e3).2 r hr, e3.ty, 1, 240, by omega, by omega, ev_S e3 c17.1 c17.2 (by show _ + 6 ≤ 4096; omega) (by omega) (by show 2 * (_ + 6) ≤ 240; omega) (fun G4 e4 => ?_)⟩⟩
    have l4 : (bg_of 416 ++ [82, 58, 42, 47] ++ dc_of bd.length ++ [10, 76, 58, 48, 10, 10]).length ≤ 22 := by rw [List.length_append]; show _ + 6 ≤ _; omega
    refine ⟨(h.zz e4).1, fun r hr => ⟨a, (h.zz e4).2 r hr, e4.ty, 2, 130, by omega, by omega, ev_T e4 (by omega) (by omega) (by omega) (fun q2 G5 q1 q3 q4 q5 q6 q7 => ?_)⟩⟩
    have hq : pt_of lt g bd po vr ag ps = bg_of 416 ++ [82, 58, 42, 47] ++ dc_of bd.length ++ [10, 76, 58, 48, 10, 10] := by
      unfold pt_of
      rw [if_pos y]
    rw [hq] at hp
    exact hp q2 G5 (ev_new e4 q1 q3 q4 q5 q6) ⟨_, q7, by omega⟩
end SP
