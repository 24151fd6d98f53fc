def rs_of (g : List Nat) (n : Nat) : Option (List (Nat × Nat)) :=
  if ix_of 44 g = g.length then (match ri_of g n with
    | none => none
    | some q => some (np_of [] q.1 q.2))
  else match ri_of (tx_sub g 0 (ix_of 44 g)) n with
    | none => none
    | some q => match ri_of (tx_sub g (ix_of 44 g + 1) g.length) n with
      | none => none
      | some q2 => some (np_of (np_of [] q.1 q.2) q2.1 q2.2)
theorem pc_k {E : wo_E} {G : wo_W} {z f l : Nat} {ps : List (Nat × Nat)} (h : pc_at E G z f l ps) {x : Nat} (hx : pc_W z f l x) : (wo_ty G x = 4 ∨ wo_ty G x = 66) ∧ en_bs E ≤ x := by
  obtain ⟨h1, h2, h3, h4, h5, h6, h7, h8, h9, _⟩ := h
  rcases hx with q | q | q
  · rw [q]; exact ⟨Or.inl h1, h2⟩
  · rw [q]; exact ⟨Or.inr h4, h5⟩
  · rw [q]; exact ⟨Or.inr h8, h9⟩
theorem pc_S {E : wo_E} {G G1 : wo_W} {z f l b : Nat} {ps : List (Nat × Nat)} {t : List Nat} (h : pc_at E G z f l ps) (fr : fr_W (pc_W z f l) G G1) (hS : tx_S G b t) : tx_S G1 b t := by
  refine hS.fr fr (fun q => ?_) (fun x hx q => ?_)
  · have := (pc_k h q).1
    rw [hS.1] at this
    omega
  · obtain ⟨_, _, _, _, y, hy, hyB⟩ := hS
    rw [hx] at hy
    cases hy
    have := (pc_k h q).1
    rw [hyB.1] at this
    omega
theorem pc_gr {E : wo_E} {G G1 : wo_W} {z f l b : Nat} {ps : List (Nat × Nat)} {t : List Nat} (h : pc_at E G z f l ps) (fr : fr_W (pc_W z f l) G G1) (hS : tx_S G b t) : wo_gr G1 576 b = wo_gr G 576 b := by
  refine (fr.2 b (by rw [hS.1]; decide) (fun q => ?_)).2.2.2.2.1 576
  have := (pc_k h q).1
  rw [hS.1] at this
  omega
theorem pc_fr0 {E : wo_E} {G G1 : wo_W} {z f l : Nat} {ps : List (Nat × Nat)} (h : pc_at E G z f l ps) (fr : fr_W fr_0 G G1) : pc_at E G1 z f l ps := by
  have h1 := h.1
  have h4 := h.2.2.2.1
  have h8 := h.2.2.2.2.2.2.2.1
  exact h.eq (fr.2 z (by omega) (fun q => q)) (fr.2 f (by omega) (fun q => q)) (fr.2 l (by omega) (fun q => q))
theorem pc_ev {E : wo_E} {G0 G : wo_W} {z f l a v0 : Nat} {ps : List (Nat × Nat)} {t t0 : List Nat} (h : pc_at E G0 z f l ps) (k : sg_at E G0 a v0 t0) (e : sg_ev E G0 v0 a G t) : pc_at E G z f l ps := by
  have h1 := h.1
  have h4 := h.2.2.2.1
  have h8 := h.2.2.2.2.2.2.2.1
  have no : ∀ x, (wo_ty G0 x = 4 ∨ wo_ty G0 x = 66) → ¬ sg_W a v0 x := by
    intro x hx q
    have k1 := k.1
    have k2 := k.2.2.2.2.2.1.1
    rcases q with q | q <;> rw [q] at hx <;> omega
  exact h.eq (e.frm.2 z (by omega) (no z (Or.inl h1))) (e.frm.2 f (by omega) (no f (Or.inr h4))) (e.frm.2 l (by omega) (no l (Or.inr h8)))
section SP
variable {E : wo_E} {mc ms : Nat} {G G0 : wo_W} {z f l b : Nat} {ps : List (Nat × Nat)} {g : List Nat}
theorem sp_readPieces {Post : Int32 → wo_W → Prop} {n : Nat} (h : pc_at E G z f l ps) (hk : kx_ok E G) (hS : tx_S G b g) (hg : g.length ≤ 8) (hn : n < 2 ^ 30) (h1 : 4 ≤ mc) (h2 : 24 ≤ ms)
    (hp0 : rs_of g n = none → ∀ G' ps', pc_at E G' z f l ps' → fr_W (pc_W z f l) G G' → wo_gr G' 192 z = wo_gr G 192 z → Post 0 G')
    (hp : ∀ ps' G', rs_of g n = some ps' → pc_at E G' z f l ps' → fr_W (pc_W z f l) G G' → wo_gr G' 192 z = wo_gr G 192 z → Post 1 G') : pq_Sh_readPieces E mc ms Post G z (some b) (nI n) := by
  have hz := h.1
  have hzb := h.2.1
  have hne := h.ne
  unfold pq_Sh_readPieces pq_Sh_readPieces_0 pq_Sh_readPieces_60 pq_Sh_readPieces_61
  refine ⟨hz, hzb, fun G1 e1 => ?_⟩
  have f1 : fr_W (pc_W z f l) G G1 := by rw [e1]; exact fr_si (Or.inl rfl)
  have p1 : pc_at E G1 z f l [] := by
    obtain ⟨a1, a2, a3, a4, a5, a6, a7, a8, a9, a10, a11, a12, a13, a14⟩ := h
    rw [e1]
    exact ⟨a1, a2, a3, a4, a5, a6, a7, a8, a9, a10, a11, (by simp [wo_gi, wo_si, wo_u2]; rfl), by simp, fun i hi => absurd hi (by simp)⟩
  have w1 : wo_gr G1 192 z = wo_gr G 192 z := by rw [e1]; rfl
  have S1 := pc_S h f1 hS
  have K1 : kx_ok E G1 := hk.fr f1 (fun x q => (pc_k h q).2)
  refine ⟨b, rfl, S1.1, 0, 0, by omega, by omega, sp_indexOf (ch := 44) S1 (by decide) (fun q => ?_) (fun i hi q1 q2 => ?_)⟩
  · have hd := ix_no 44 g q
    unfold rs_of at hp0 hp
    rw [if_pos hd] at hp0
    simp only [if_pos hd] at hp
    refine ⟨fun q2 => absurd q2 (by decide), fun _ => ⟨p1.1, 0, 0, by omega, by omega, sp_readPiece p1 S1 hg hn (fun q2 => ⟨tx_ok0, hp0 (by rw [q2]) G1 [] p1 f1 w1⟩) (fun x y G' q2 q3 q4 q5 q6 => ⟨tx_ok1, hp _ G' (by rw [q2]) q3 (fr_tr f1 q4) (q6.trans w1)⟩)⟩⟩
  · have hd := ix_at 44 g i hi q1 q2
    unfold rs_of at hp0 hp
    rw [hd, if_neg (show ¬ i = g.length by omega)] at hp0
    simp only [hd, if_neg (show ¬ i = g.length by omega)] at hp
    refine ⟨fun _ => ⟨S1.1, 2, 12, by omega, by omega, sp_sub (p := 0) K1 S1 (Nat.zero_le _) (by omega) (by omega) (by omega) (fun q G2 f2 S2 _ _ => ?_)⟩, fun q3 => absurd (nI_pos' (by omega)) q3⟩
    have p2 := pc_fr0 p1 f2
    have f02 : fr_W (pc_W z f l) G G2 := fr_tr f1 (fr_mn (fun x _ q => False.elim q) f2)
    have w2 : wo_gr G2 192 z = wo_gr G 192 z := ((f2.2 z (by rw [p1.1]; decide) (fun q => q)).2.2.2.2.1 192).trans w1
    refine ⟨p2.1, 0, 0, by omega, by omega, sp_readPiece p2 S2 (Nat.le_trans tx_sub_le hg) hn (fun q3 => ⟨fun _ => ⟨tx_ok0, hp0 (by rw [q3]) G2 [] p2 f02 w2⟩, fun q4 => absurd rfl q4⟩) (fun x y G3 q3 p3 f3 _ w3 => ⟨fun q4 => absurd q4 (by decide), fun _ => ?_⟩)⟩
    have f03 := fr_tr f02 f3
    have S3 : tx_S G3 b g := pc_S p2 f3 (S1.fr f2 (fun q => q) (fun _ _ q => q))
    have K3 : kx_ok E G3 := hk.fr f03 (fun x q => (pc_k h q).2)
    refine ⟨S3.1, 0, 0, by omega, by omega, sp_length S3 ⟨S3.1, 2, 12, by omega, by omega, ?_⟩⟩
    rw [nI_1]
    refine sp_sub K3 S3 (by omega) (Nat.le_refl _) (by omega) (by omega) (fun q' G4 f4 S4 _ _ => ?_)
    have p4 := pc_fr0 p3 f4
    have f04 : fr_W (pc_W z f l) G G4 := fr_tr f03 (fr_mn (fun x _ q => False.elim q) f4)
    have w4 : wo_gr G4 192 z = wo_gr G 192 z := ((f4.2 z (by rw [p3.1]; decide) (fun q => q)).2.2.2.2.1 192).trans (w3.trans w2)
    refine ⟨p4.1, 0, 0, by omega, by omega, sp_readPiece p4 S4 (Nat.le_trans tx_sub_le hg) hn (fun q5 => ⟨fun _ => ⟨tx_ok0, hp0 (by rw [q3]; simp only [q5]) G4 _ p4 f04 w4⟩, fun q4 => absurd rfl q4⟩) (fun x2 y2 G5 q5 p5 f5 _ w5 => ⟨fun q4 => absurd q4 (by decide), fun _ => ⟨tx_ok1, hp _ G5 (by rw [q3]; simp only [q5]) p5 (fr_tr f04 f5) (w5.trans w4)⟩⟩)⟩
end SP
