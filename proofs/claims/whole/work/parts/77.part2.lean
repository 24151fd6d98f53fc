def pz_of (bd : List Nat) (q : Nat × Nat) : List Nat := sa_of q ++ [61] ++ tx_sub bd q.1 (q.2 + 1) ++ [10]
def tp_of (bd : List Nat) (q p : Nat × Nat) : List Nat := nl_of 82 2 ++ nl_of 76 (q.2 - q.1 + (p.2 - p.1) + 12) ++ [10] ++ pz_of bd q ++ pz_of bd p
def pt_of (l g : Nat) (bd po : List Nat) (vr : Bool) (ag : Option Nat) (ps : List (Nat × Nat)) : List Nat :=
  if ps.length = 0 then bg_of 416 ++ [82, 58, 42, 47] ++ dc_of bd.length ++ [10, 76, 58, 48, 10, 10]
  else ds_of 206 l g po vr ag ++ (if ps.length = 1 then op_of bd (ps.getD 0 (0, 0)) else tp_of bd (ps.getD 0 (0, 0)) (ps.getD 1 (0, 0)))
theorem pz_len {bd : List Nat} {q : Nat × Nat} (h : q.1 ≤ q.2) (h2 : q.2 < bd.length) (h3 : bd.length ≤ 8) : (pz_of bd q).length ≤ 13 := by
  unfold pz_of
  rw [List.length_append, List.length_append, List.length_append, sa_len (by omega) (by omega), tx_sub_len (by omega)]
  simp
  omega
section SP
variable {E : wo_E} {mc ms : Nat} {G G0 : wo_W} {a z v0 f l b : Nat} {t u bd : List Nat} {ps : List (Nat × Nat)} {im : Nat → Prop}
theorem sp_tpTurn {Post : wo_W → Prop} {i n c s : Nat} (h : sh_b E G0 v0 z a) (p : pc_at E G0 z f l ps) (e : sg_ev E G0 v0 a G t) (ht : t.length + 13 ≤ 120) (hi : i < ps.length) (hb : pb_ok bd ps) (hS : tx_i im G0 b bd) (ha : ¬ im a) (hv : ¬ im v0) (h1 : c + 8 ≤ mc) (h2 : s + 1500 ≤ ms)
    (hp : ∀ G' s', s' ≤ s + 1500 → sg_ev E G0 v0 a G' (t ++ pz_of bd (ps.getD i (0, 0))) → pq_Sh_twoPieces_61 E mc ms Post n G' (c + 8) s' z (some b) (nI (i + 1))) : pq_Sh_twoPieces_61 E mc ms Post (n + 1) G c s z (some b) (nI i) := by
  have hb' := hb
  obtain ⟨b1, b2⟩ := hb'
  have b3 := b2 i hi
  have p13 := p.2.2.2.2.2.2.2.2.2.2.2.2.1
  have ls := sa_len (q := ps.getD i (0, 0)) (by omega) (by omega)
  unfold pq_Sh_twoPieces_61
  refine ⟨fun q => absurd q (nI_ge (b := 2) (by omega) (by decide)), fun _ => ⟨(h.zz e).1, 3, 720, by omega, by omega, sp_span (i := i) h p e (by omega) hi hb (by omega) (by omega) (fun G2 e2 => ?_)⟩⟩
  have l2 : (t ++ sa_of (ps.getD i (0, 0))).length = t.length + 3 := by rw [List.length_append, ls]
  refine ⟨(h.zz e2).1, fun r hr => ⟨a, (h.zz e2).2 r hr, e2.ty, 1, 240, by omega, by omega, ev_C (c := 61) e2 (by decide) (by omega) (by omega) (by omega) (fun G3 e3 => ?_)⟩⟩
  have l3 : (t ++ sa_of (ps.getD i (0, 0)) ++ [61]).length = t.length + 4 := by rw [List.length_append, l2]; rfl
  have k3 := h.pc p e3
  have s3 := h.iS e3 ha hv hS
  refine ⟨(h.zz e3).1, fun r hr r2 hr2 => ⟨f, k3.r1 r2 hr2, (k3.in1 hi).1, (k3.in1 hi).2.1, fun r3 hr3 => ⟨l, k3.r2 r3 hr3, (k3.in2 hi).1, (k3.in2 hi).2.1, b, rfl, s3.1.1, 2, 12, by omega, by omega, ?_⟩⟩⟩
  rw [(k3.in1 hi).2.2, (k3.in2 hi).2.2, nI_1 (ps.getD i (0, 0)).2]
  refine sp_sub (h.k e3) s3.1 (by omega) (by omega) (by omega) (by omega) (fun q G4 f4 S4 x4 _ => ?_)
  have e4 := e3.fr0 f4
  have l5 : (tx_sub bd (ps.getD i (0, 0)).1 ((ps.getD i (0, 0)).2 + 1)).length ≤ 8 := by rw [tx_sub_len (by omega)]; omega
  refine ⟨a, (h.zz e3).2 r hr, e4.ty, 1, 240, by omega, by omega, ev_S e4 S4 (sub_nb e3 f4 s3.2 x4) (by omega) (by omega) (by omega) (fun G5 e5 => ?_)⟩
  have l6 : (t ++ sa_of (ps.getD i (0, 0)) ++ [61] ++ tx_sub bd (ps.getD i (0, 0)).1 ((ps.getD i (0, 0)).2 + 1)).length ≤ t.length + 12 := by rw [List.length_append, l3]; omega
  refine ⟨(h.zz e5).1, fun r hr => ⟨a, (h.zz e5).2 r hr, e5.ty, 1, 240, by omega, by omega, ev_C (c := 10) e5 (by decide) (by omega) (by omega) (by omega) (fun G6 e6 => ?_)⟩⟩
  rw [nI_1]
  refine hp G6 _ (by omega) ?_
  have l7 : t ++ pz_of bd (ps.getD i (0, 0)) = t ++ sa_of (ps.getD i (0, 0)) ++ [61] ++ tx_sub bd (ps.getD i (0, 0)).1 ((ps.getD i (0, 0)).2 + 1) ++ [10] := by simp [pz_of]
  rw [l7]
  exact e6
theorem sp_twoPieces {Post : wo_W → Prop} (h : sh_b E G0 v0 z a) (p : pc_at E G0 z f l ps) (e : sg_ev E G0 v0 a G t) (ht : t.length ≤ 60) (hi : ps.length = 2) (hb : pb_ok bd ps) (hS : tx_i im G0 b bd) (ha : ¬ im a) (hv : ¬ im v0) (h1 : 25 ≤ mc) (h2 : 5200 ≤ ms) (hp : ∀ G', sg_ev E G0 v0 a G' (t ++ tp_of bd (ps.getD 0 (0, 0)) (ps.getD 1 (0, 0))) → Post G') : pq_Sh_twoPieces E mc ms Post G z (some b) := by
  have hb' := hb
  obtain ⟨b1, b2⟩ := hb'
  have b3 := b2 0 (by omega)
  have b4 := b2 1 (by omega)
  have n82 := nl_len (x := 82) (m := 2) (by decide)
  unfold pq_Sh_twoPieces pq_Sh_twoPieces_0
  refine ⟨(h.zz e).1, 4, 960, by omega, by omega, sp_numberLine (x := 82) (m := 2) h e (by omega) (by decide) (by decide) (by omega) (by omega) (fun G1 e1 => ⟨3, ?_⟩)⟩
  have l1 : (t ++ nl_of 82 2).length ≤ t.length + 13 := by rw [List.length_append]; omega
  have k1 := h.pc p e1
  unfold pq_Sh_twoPieces_11
  refine ⟨fun q => absurd q (by decide), fun _ => ⟨(h.zz e1).1, fun r hr => ⟨l, k1.r2 r hr, (k1.in2 (i := 0) (by omega)).1, (k1.in2 (i := 0) (by omega)).2.1, fun r2 hr2 => ⟨f, k1.r1 r2 hr2, (k1.in1 (i := 0) (by omega)).1, (k1.in1 (i := 0) (by omega)).2.1, ?_⟩⟩⟩⟩
  have x1 := (k1.in1 (i := 0) (by omega)).2.2
  have x2 := (k1.in2 (i := 0) (by omega)).2.2
  rw [nI_0] at x1 x2
  rw [x1, x2]
  unfold pq_Sh_twoPieces_11
  refine ⟨fun q => absurd q (by decide), fun _ => ⟨(h.zz e1).1, fun r hr => ⟨l, k1.r2 r hr, (k1.in2 (i := 1) (by omega)).1, (k1.in2 (i := 1) (by omega)).2.1, fun r2 hr2 => ⟨f, k1.r1 r2 hr2, (k1.in1 (i := 1) (by omega)).1, (k1.in1 (i := 1) (by omega)).2.1, ?_⟩⟩⟩⟩
  have x3 := (k1.in1 (i := 1) (by omega)).2.2
  have x4 := (k1.in2 (i := 1) (by omega)).2.2
  have y0 : (0 : Int32) + 1 = nI 1 := by decide
  rw [y0, x3, x4]
  have y1 : (0 : Int32) + (((5 : Int32) + nI (ps.getD 0 (0, 0)).2) - nI (ps.getD 0 (0, 0)).1 + 1) + (((5 : Int32) + nI (ps.getD 1 (0, 0)).2) - nI (ps.getD 1 (0, 0)).1 + 1) = nI ((ps.getD 0 (0, 0)).2 - (ps.getD 0 (0, 0)).1 + ((ps.getD 1 (0, 0)).2 - (ps.getD 1 (0, 0)).1) + 12) := by
    rw [show (5 : Int32) = nI 5 from rfl, show (0 : Int32) = nI 0 from rfl, nI_add, nI_add, pk_sub (by omega), pk_sub (by omega), nI_1, nI_1, nI_add, nI_add]
    congr 1
    omega
  rw [y1]
  unfold pq_Sh_twoPieces_11
  refine ⟨fun _ => ⟨(h.zz e1).1, 4, 960, by omega, by omega, sp_numberLine (x := 76) h e1 (by omega) (by decide) (by omega) (by omega) (by omega) (fun G2 e2 => ?_)⟩, fun q => absurd (by decide) q⟩
  have n76 := nl_len (x := 76) (m := (ps.getD 0 (0, 0)).2 - (ps.getD 0 (0, 0)).1 + ((ps.getD 1 (0, 0)).2 - (ps.getD 1 (0, 0)).1) + 12) (by omega)
  have l2 : (t ++ nl_of 82 2 ++ nl_of 76 ((ps.getD 0 (0, 0)).2 - (ps.getD 0 (0, 0)).1 + ((ps.getD 1 (0, 0)).2 - (ps.getD 1 (0, 0)).1) + 12)).length ≤ t.length + 26 := by rw [List.length_append]; omega
  refine ⟨(h.zz e2).1, fun r hr => ⟨a, (h.zz e2).2 r hr, e2.ty, 1, 240, by omega, by omega, ev_C (c := 10) e2 (by decide) (by omega) (by omega) (by omega) (fun G3 e3 => ⟨3, ?_⟩)⟩⟩
  have l3 : (t ++ nl_of 82 2 ++ nl_of 76 ((ps.getD 0 (0, 0)).2 - (ps.getD 0 (0, 0)).1 + ((ps.getD 1 (0, 0)).2 - (ps.getD 1 (0, 0)).1) + 12) ++ [10]).length ≤ t.length + 27 := by rw [List.length_append]; show _ + 1 ≤ _; omega
  have pz := pz_len (bd := bd) b3.1 b3.2 b1
  refine sp_tpTurn (i := 0) (n := 2) h p e3 (by omega) (by omega) hb hS ha hv (by omega) (by omega) (fun G4 s4 hs4 e4 => ?_)
  have l4 : (t ++ nl_of 82 2 ++ nl_of 76 ((ps.getD 0 (0, 0)).2 - (ps.getD 0 (0, 0)).1 + ((ps.getD 1 (0, 0)).2 - (ps.getD 1 (0, 0)).1) + 12) ++ [10] ++ pz_of bd (ps.getD 0 (0, 0))).length ≤ t.length + 40 := by rw [List.length_append]; omega
  refine sp_tpTurn (i := 1) (n := 1) h p e4 (by omega) (by omega) hb hS ha hv (by omega) (by omega) (fun G5 s5 hs5 e5 => ?_)
  unfold pq_Sh_twoPieces_61
  refine ⟨fun _ => hp G5 ?_, fun q => absurd (by decide) q⟩
  have l9 : t ++ tp_of bd (ps.getD 0 (0, 0)) (ps.getD 1 (0, 0)) = t ++ nl_of 82 2 ++ nl_of 76 ((ps.getD 0 (0, 0)).2 - (ps.getD 0 (0, 0)).1 + ((ps.getD 1 (0, 0)).2 - (ps.getD 1 (0, 0)).1) + 12) ++ [10] ++ pz_of bd (ps.getD 0 (0, 0)) ++ pz_of bd (ps.getD 1 (0, 0)) := by simp [tp_of]
  rw [l9]
  exact e5
end SP
