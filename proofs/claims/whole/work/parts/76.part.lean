def sa_of (q : Nat × Nat) : List Nat := dc_of q.1 ++ [45] ++ dc_of q.2
def op_of (bd : List Nat) (q : Nat × Nat) : List Nat := [82, 58] ++ sa_of q ++ [47] ++ dc_of bd.length ++ [10] ++ nl_of 76 (q.2 - q.1 + 1) ++ [10] ++ tx_sub bd q.1 (q.2 + 1)
def pb_ok (bd : List Nat) (ps : List (Nat × Nat)) : Prop := bd.length ≤ 8 ∧ ∀ i, i < ps.length → (ps.getD i (0, 0)).1 ≤ (ps.getD i (0, 0)).2 ∧ (ps.getD i (0, 0)).2 < bd.length
theorem sa_len {q : Nat × Nat} (h1 : q.1 < 10) (h2 : q.2 < 10) : (sa_of q).length = 3 := by
  unfold sa_of
  rw [dc_lo h1, dc_lo h2]
  rfl
section SP
variable {E : wo_E} {mc ms : Nat} {G G0 : wo_W} {a z v0 f l b : Nat} {t u bd : List Nat} {ps : List (Nat × Nat)} {im : Nat → Prop}
theorem sh_b.pc (h : sh_b E G0 v0 z a) (p : pc_at E G0 z f l ps) (e : sg_ev E G0 v0 a G t) : pc_at E G z f l ps := by
  obtain ⟨⟨t0, k, _⟩, _⟩ := h
  exact pc_ev p k e
theorem pc_at.r1 (p : pc_at E G z f l ps) : ∀ r, r = wo_gr G 193 z → r = some f := fun r hr => hr.trans p.2.2.1
theorem pc_at.r2 (p : pc_at E G z f l ps) : ∀ r, r = wo_gr G 194 z → r = some l := fun r hr => hr.trans p.2.2.2.2.2.2.1
theorem pc_at.in1 (p : pc_at E G z f l ps) {i : Nat} (hi : i < ps.length) : wo_ty G f = 66 ∧ vp_in (nI i) (wo_len G f) ∧ wo_ei G f (nI i).toNatClampNeg = nI (ps.getD i (0, 0)).1 := by
  obtain ⟨h1, h2, h3, h4, h5, h6, h7, h8, h9, h10, h11, h12, h13, h14⟩ := p
  exact ⟨h4, by rw [h6]; exact vp_in_nI (by omega) (by decide), by rw [nI_clamp (by omega)]; exact (h14 i hi).1⟩
theorem pc_at.in2 (p : pc_at E G z f l ps) {i : Nat} (hi : i < ps.length) : wo_ty G l = 66 ∧ vp_in (nI i) (wo_len G l) ∧ wo_ei G l (nI i).toNatClampNeg = nI (ps.getD i (0, 0)).2 := by
  obtain ⟨h1, h2, h3, h4, h5, h6, h7, h8, h9, h10, h11, h12, h13, h14⟩ := p
  exact ⟨h8, by rw [h10]; exact vp_in_nI (by omega) (by decide), by rw [nI_clamp (by omega)]; exact (h14 i hi).2⟩
theorem sp_span {Post : wo_W → Prop} {i : Nat} (h : sh_b E G0 v0 z a) (p : pc_at E G0 z f l ps) (e : sg_ev E G0 v0 a G t) (ht : t.length + 3 ≤ 120) (hi : i < ps.length) (hb : pb_ok bd ps) (h1 : 3 ≤ mc) (h2 : 720 ≤ ms) (hp : ∀ G', sg_ev E G0 v0 a G' (t ++ sa_of (ps.getD i (0, 0))) → Post G') : pq_Sh_span E mc ms Post G z (nI i) := by
  obtain ⟨b1, b2⟩ := hb
  have b3 := b2 i hi
  have d1 := dc_lo (n := (ps.getD i (0, 0)).1) (by omega)
  have d2 := dc_lo (n := (ps.getD i (0, 0)).2) (by omega)
  have k0 := h.pc p e
  unfold pq_Sh_span pq_Sh_span_0
  refine ⟨(h.zz e).1, fun r hr r2 hr2 => ⟨f, k0.r1 r2 hr2, (k0.in1 hi).1, (k0.in1 hi).2.1, a, (h.zz e).2 r hr, e.ty, 1, 240, by omega, by omega, ?_⟩⟩
  rw [(k0.in1 hi).2.2]
  refine ev_I e (by omega) (h.k e).2.1 (by rw [d1]; simp; omega) (by omega) (by rw [d1]; simp; omega) (fun G1 e1 => ?_)
  have l1 : (t ++ dc_of (ps.getD i (0, 0)).1).length = t.length + 1 := by rw [d1]; simp
  refine ⟨(h.zz e1).1, fun r hr => ⟨a, (h.zz e1).2 r hr, e1.ty, 1, 240, by omega, by omega, ev_C (c := 45) e1 (by decide) (by omega) (by omega) (by omega) (fun G2 e2 => ?_)⟩⟩
  have l2 : (t ++ dc_of (ps.getD i (0, 0)).1 ++ [45]).length = t.length + 2 := by rw [d1]; simp
  have k2 := h.pc p e2
  refine ⟨(h.zz e2).1, fun r hr r2 hr2 => ⟨l, k2.r2 r2 hr2, (k2.in2 hi).1, (k2.in2 hi).2.1, a, (h.zz e2).2 r hr, e2.ty, 1, 240, by omega, by omega, ?_⟩⟩
  rw [(k2.in2 hi).2.2]
  refine ev_I e2 (by omega) (h.k e2).2.1 (by rw [d2, l2]; simp; omega) (by omega) (by rw [d2, l2]; simp; omega) (fun G3 e3 => hp G3 ?_)
  have l4 : t ++ dc_of (ps.getD i (0, 0)).1 ++ [45] ++ dc_of (ps.getD i (0, 0)).2 = t ++ sa_of (ps.getD i (0, 0)) := by simp [sa_of]
  rw [← l4]
  exact e3
theorem sp_onePiece {Post : wo_W → Prop} (h : sh_b E G0 v0 z a) (p : pc_at E G0 z f l ps) (e : sg_ev E G0 v0 a G t) (ht : t.length ≤ 60) (hi : 0 < ps.length) (hb : pb_ok bd ps) (hS : tx_i im G0 b bd) (ha : ¬ im a) (hv : ¬ im v0) (h1 : 15 ≤ mc) (h2 : 3200 ≤ ms) (hp : ∀ G', sg_ev E G0 v0 a G' (t ++ op_of bd (ps.getD 0 (0, 0))) → Post G') : pq_Sh_onePiece E mc ms Post G z (some b) := by
  have hb' := hb
  obtain ⟨b1, b2⟩ := hb'
  have b3 := b2 0 hi
  have ls := sa_len (q := ps.getD 0 (0, 0)) (by omega) (by omega)
  have d1 := dc_lo (n := bd.length) (by omega)
  have cs := h.cs (i := 18) e (by decide)
  have k18 : kx_tx 18 = [82, 58] := rfl
  rw [k18] at cs
  unfold pq_Sh_onePiece pq_Sh_onePiece_0
  refine ⟨(h.zz e).1, fun r hr => ⟨a, (h.zz e).2 r hr, e.ty, 1, 240, by omega, by omega, ev_S e cs.1 cs.2 (by simp; omega) (by omega) (by simp; omega) (fun G1 e1 => ?_)⟩⟩
  have l1 : (t ++ [82, 58]).length = t.length + 2 := by simp
  refine ⟨(h.zz e1).1, 3, 720, by omega, by omega, sp_span (i := 0) h p e1 (by omega) hi hb (by omega) (by omega) (fun G2 e2 => ?_)⟩
  have l2 : (t ++ [82, 58] ++ sa_of (ps.getD 0 (0, 0))).length = t.length + 5 := by rw [List.length_append, l1, ls]
  refine ⟨(h.zz e2).1, fun r hr => ⟨a, (h.zz e2).2 r hr, e2.ty, 1, 240, by omega, by omega, ev_C (c := 47) e2 (by decide) (by omega) (by omega) (by omega) (fun G3 e3 => ?_)⟩⟩
  have l3 : (t ++ [82, 58] ++ sa_of (ps.getD 0 (0, 0)) ++ [47]).length = t.length + 6 := by rw [List.length_append, l2]; rfl
  have s3 := h.iS e3 ha hv hS
  refine ⟨(h.zz e3).1, fun r hr => ⟨b, rfl, s3.1.1, 0, 0, by omega, by omega, sp_length s3.1 ⟨a, (h.zz e3).2 r hr, e3.ty, 1, 240, by omega, by omega, ev_I e3 (by omega) (h.k e3).2.1 (by rw [d1, l3]; simp; omega) (by omega) (by rw [d1, l3]; simp; omega) (fun G4 e4 => ?_)⟩⟩⟩
  have l4 : (t ++ [82, 58] ++ sa_of (ps.getD 0 (0, 0)) ++ [47] ++ dc_of bd.length).length = t.length + 7 := by rw [List.length_append, l3, d1]; rfl
  refine ⟨(h.zz e4).1, fun r hr => ⟨a, (h.zz e4).2 r hr, e4.ty, 1, 240, by omega, by omega, ev_C (c := 10) e4 (by decide) (by omega) (by omega) (by omega) (fun G5 e5 => ?_)⟩⟩
  have l5 : (t ++ [82, 58] ++ sa_of (ps.getD 0 (0, 0)) ++ [47] ++ dc_of bd.length ++ [10]).length = t.length + 8 := by rw [List.length_append, l4]; rfl
  have k5 := h.pc p e5
  refine ⟨(h.zz e5).1, fun r hr => ⟨l, k5.r2 r hr, (k5.in2 hi).1, (k5.in2 hi).2.1, fun r2 hr2 => ⟨f, k5.r1 r2 hr2, (k5.in1 hi).1, (k5.in1 hi).2.1, 4, 960, by omega, by omega, ?_⟩⟩⟩
  have ea : wo_ei G5 l (0 : Int32).toNatClampNeg - wo_ei G5 f (0 : Int32).toNatClampNeg + 1 = nI ((ps.getD 0 (0, 0)).2 - (ps.getD 0 (0, 0)).1 + 1) := by
    have x1 := (k5.in1 hi).2.2
    have x2 := (k5.in2 hi).2.2
    rw [nI_0] at x1 x2
    rw [x1, x2, pk_sub b3.1, nI_1]
  rw [ea]
  refine sp_numberLine (x := 76) h e5 (by omega) (by decide) (by omega) (by omega) (by omega) (fun G6 e6 => ?_)
  have hn := nl_len (x := 76) (m := (ps.getD 0 (0, 0)).2 - (ps.getD 0 (0, 0)).1 + 1) (by omega)
  have l6 : (t ++ [82, 58] ++ sa_of (ps.getD 0 (0, 0)) ++ [47] ++ dc_of bd.length ++ [10] ++ nl_of 76 ((ps.getD 0 (0, 0)).2 - (ps.getD 0 (0, 0)).1 + 1)).length ≤ t.length + 21 := by rw [List.length_append, l5]; omega
  refine ⟨(h.zz e6).1, fun r hr => ⟨a, (h.zz e6).2 r hr, e6.ty, 1, 240, by omega, by omega, ev_C (c := 10) e6 (by decide) (by omega) (by omega) (by omega) (fun G7 e7 => ?_)⟩⟩
  have l7 : (t ++ [82, 58] ++ sa_of (ps.getD 0 (0, 0)) ++ [47] ++ dc_of bd.length ++ [10] ++ nl_of 76 ((ps.getD 0 (0, 0)).2 - (ps.getD 0 (0, 0)).1 + 1) ++ [10]).length ≤ t.length + 22 := by rw [List.length_append]; show _ + 1 ≤ _; omega
  have k7 := h.pc p e7
  have s7 := h.iS e7 ha hv hS
  refine ⟨(h.zz e7).1, fun r hr r2 hr2 => ⟨f, k7.r1 r2 hr2, (k7.in1 hi).1, (k7.in1 hi).2.1, fun r3 hr3 => ⟨l, k7.r2 r3 hr3, (k7.in2 hi).1, (k7.in2 hi).2.1, s7.1.1, 2, 12, by omega, by omega, ?_⟩⟩⟩
  have x1 := (k7.in1 hi).2.2
  have x2 := (k7.in2 hi).2.2
  rw [nI_0] at x1 x2
  rw [x1, x2, nI_1]
  refine sp_sub (h.k e7) s7.1 (by omega) (by omega) (by omega) (by omega) (fun q G8 f8 S8 x8 _ => ?_)
  have e8 := e7.fr0 f8
  refine ⟨a, (h.zz e7).2 r hr, e8.ty, 1, 240, by omega, by omega, ev_S e8 S8 (sub_nb e7 f8 s7.2 x8) ?_ (by omega) ?_ (fun G9 e9 => hp G9 ?_)⟩
  · rw [tx_sub_len (by omega)]; omega
  · rw [tx_sub_len (by omega)]; omega
  · have l9 : t ++ op_of bd (ps.getD 0 (0, 0)) = t ++ [82, 58] ++ sa_of (ps.getD 0 (0, 0)) ++ [47] ++ dc_of bd.length ++ [10] ++ nl_of 76 ((ps.getD 0 (0, 0)).2 - (ps.getD 0 (0, 0)).1 + 1) ++ [10] ++ tx_sub bd (ps.getD 0 (0, 0)).1 ((ps.getD 0 (0, 0)).2 + 1) := by simp [op_of]
    rw [l9]
    exact e9
end SP
