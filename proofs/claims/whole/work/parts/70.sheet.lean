def sh_b (E : wo_E) (G0 : wo_W) (v0 z a : Nat) : Prop := (∃ t0, sg_at E G0 a v0 t0 ∧ t0.length ≤ 4096) ∧ wo_ty G0 z = 4 ∧ wo_gr G0 192 z = some a ∧ kx_ok E G0
def nl_of (x m : Nat) : List Nat := [x, 58] ++ dc_of m ++ [10]
def bg_of (m : Nat) : List Nat := dc_of m ++ [10]
def ba_of (m g : Nat) : List Nat := bg_of m ++ (if 0 < g then nl_of 69 g else []) ++ nl_of 76 0 ++ [10]
section SP
variable {E : wo_E} {mc ms : Nat} {G G0 : wo_W} {a z v0 : Nat} {t u : List Nat}
theorem sh_b.zz (h : sh_b E G0 v0 z a) (e : sg_ev E G0 v0 a G t) : wo_ty G z = 4 ∧ ∀ r, r = wo_gr G 192 z → r = some a := by
  obtain ⟨⟨t0, k, _⟩, h2, h3, _⟩ := h
  have hw : ¬ sg_W a v0 z := by
    intro q
    rcases q with q | q
    · rw [q, k.1] at h2; cases h2
    · rw [q, k.2.2.2.2.2.1.1] at h2; cases h2
  have f := e.frm.2 z (by rw [h2]; decide) hw
  exact ⟨f.1.trans h2, fun r hr => hr.trans ((f.2.2.2.2.1 192).trans h3)⟩
theorem sh_b.k (h : sh_b E G0 v0 z a) (e : sg_ev E G0 v0 a G t) : kx_ok E G := by
  obtain ⟨⟨t0, k, _⟩, h2, h3, h4⟩ := h
  exact e.kx h4 k.2.1 k.2.2.2.2.2.2.1
theorem sp_begin {Post : wo_W → Prop} {m : Nat} (h : sh_b E G0 v0 z a) (e : sg_ev E G0 v0 a G t) (ht : t.length ≤ 4096) (hm : m < 2 ^ 31) (h1 : 3 ≤ mc) (h2 : 100 ≤ ms) (hp : ∀ G', sg_ev E G0 v0 a G' (bg_of m) → Post G') : pq_Sh_begin E mc ms Post G z (nI m) := by
  have hd := dc_len10 hm
  unfold pq_Sh_begin pq_Sh_begin_0
  refine ⟨(h.zz e).1, fun r hr => ⟨a, (h.zz e).2 r hr, e.ty, 1, 0, by omega, by omega, ev_L (n := 0) e (Nat.zero_le _) ht (by omega) (by omega) (fun G1 e1 => ?_)⟩⟩
  have e1' : sg_ev E G0 v0 a G1 [] := e1
  refine ⟨(h.zz e1').1, fun r hr => ⟨a, (h.zz e1').2 r hr, e1'.ty, 1, 40, by omega, by omega, ev_I e1' hm (h.k e1').2.1 (by simp; omega) (by omega) (by simp; omega) (fun G2 e2 => ?_)⟩⟩
  have e2' : sg_ev E G0 v0 a G2 (dc_of m) := e2
  exact ⟨(h.zz e2').1, fun r hr => ⟨a, (h.zz e2').2 r hr, e2'.ty, 1, 40, by omega, by omega, ev_C (c := 10) e2' (by decide) (by omega) (by omega) (by omega) (fun G3 e3 => hp G3 e3)⟩⟩
theorem sp_numberLine {Post : wo_W → Prop} {x m : Nat} (h : sh_b E G0 v0 z a) (e : sg_ev E G0 v0 a G t) (ht : t.length + 13 ≤ 120) (hx : x < 256) (hm : m < 2 ^ 31) (h1 : 4 ≤ mc) (h2 : 960 ≤ ms) (hp : ∀ G', sg_ev E G0 v0 a G' (t ++ nl_of x m) → Post G') : pq_Sh_numberLine E mc ms Post G z (nI x) (nI m) := by
  have hd := dc_len10 hm
  unfold pq_Sh_numberLine pq_Sh_numberLine_0
  refine ⟨(h.zz e).1, fun r hr => ⟨a, (h.zz e).2 r hr, e.ty, 1, 240, by omega, by omega, ev_C e hx (by omega) (by omega) (by omega) (fun G1 e1 => ?_)⟩⟩
  have l1 : (t ++ [x]).length = t.length + 1 := by simp
  refine ⟨(h.zz e1).1, fun r hr => ⟨a, (h.zz e1).2 r hr, e1.ty, 1, 240, by omega, by omega, ev_C (c := 58) e1 (by decide) (by omega) (by omega) (by omega) (fun G2 e2 => ?_)⟩⟩
  have l2 : (t ++ [x] ++ [58]).length = t.length + 2 := by simp
  refine ⟨(h.zz e2).1, fun r hr => ⟨a, (h.zz e2).2 r hr, e2.ty, 1, 240, by omega, by omega, ev_I e2 hm (h.k e2).2.1 (by omega) (by omega) (by omega) (fun G3 e3 => ?_)⟩⟩
  have l3 : (t ++ [x] ++ [58] ++ dc_of m).length = t.length + 2 + (dc_of m).length := by simp; omega
  refine ⟨(h.zz e3).1, fun r hr => ⟨a, (h.zz e3).2 r hr, e3.ty, 1, 240, by omega, by omega, ev_C (c := 10) e3 (by decide) (by omega) (by omega) (by omega) (fun G4 e4 => hp G4 ?_)⟩⟩
  have l4 : t ++ [x] ++ [58] ++ dc_of m ++ [10] = t ++ nl_of x m := by simp [nl_of]
  rw [← l4]
  exact e4
theorem nl_len {x m : Nat} (hm : m < 2 ^ 31) : (nl_of x m).length ≤ 13 := by
  have := dc_len10 hm
  simp [nl_of]
  omega
theorem bg_len {m : Nat} (hm : m < 2 ^ 31) : (bg_of m).length ≤ 11 := by
  have := dc_len10 hm
  simp [bg_of]
  omega
theorem sp_bare {Post : Option Nat → wo_W → Prop} {m g : Nat} (h : sh_b E G0 v0 z a) (hm : m < 2 ^ 31) (hg : g < 2 ^ 31) (h1 : 14 ≤ mc) (h2 : 2500 ≤ ms) (hp : ∀ q G', tx_new E G0 a G' q (ba_of m g) → sg_ev E G0 v0 a G' (ba_of m g) → Post (some q) G') : pq_Sh_bare E mc ms Post G0 z (nI m) (nI g) := by
  have hh := h
  obtain ⟨⟨t0, k, kl⟩, _⟩ := hh
  have e0 := sg_ev.in k
  have hb := bg_len hm
  have hn := nl_len (x := 69) hg
  have hn0 := nl_len (x := 76) (m := 0) (by decide)
  unfold pq_Sh_bare pq_Sh_bare_0
  have h16 : ∀ G1 t c s, sg_ev E G0 v0 a G1 t → t.length ≤ 24 → c + 7 ≤ mc → s + 1400 ≤ ms → t ++ nl_of 76 0 ++ [10] = ba_of m g → pq_Sh_bare_16 E mc ms Post G1 c s z := by
    intro G1 t c s e ht hc hs hq
    unfold pq_Sh_bare_16
    refine ⟨(h.zz e).1, 4, 960, by omega, by omega, sp_numberLine (x := 76) (m := 0) h e (by omega) (by decide) (by decide) (by omega) (by omega) (fun G2 e2 => ?_)⟩
    have l2 : (t ++ nl_of 76 0).length ≤ 37 := by rw [List.length_append]; omega
    refine ⟨(h.zz e2).1, fun r hr => ⟨a, (h.zz e2).2 r hr, e2.ty, 1, 240, by omega, by omega, ev_C (c := 10) e2 (by decide) (by omega) (by omega) (by omega) (fun G3 e3 => ?_)⟩⟩
    have l3 : (t ++ nl_of 76 0 ++ [10]).length ≤ 38 := by rw [List.length_append]; simp; omega
    refine ⟨(h.zz e3).1, fun r hr => ⟨a, (h.zz e3).2 r hr, e3.ty, 2, 100, by omega, by omega, ev_T e3 (by omega) (by omega) (by omega) (fun q2 G4 q1 q3 q4 q5 q6 q7 => ?_)⟩⟩
    rw [hq] at q5 q7
    exact hp q2 G4 (ev_new e3 q1 q3 q4 q5 q6) q7
  refine ⟨(h.zz e0).1, 3, 100, by omega, by omega, sp_begin h e0 kl hm (by omega) (by omega) (fun G1 e1 => ⟨fun q => ?_, fun q => ?_⟩)⟩
  · have y : ¬ 0 < g := fun y => nI_nle y hg q
    exact h16 G1 _ _ _ e1 (by omega) (by omega) (by omega) (by unfold ba_of; rw [if_neg y]; simp)
  · have y : 0 < g := by
      apply Nat.pos_of_ne_zero
      intro y
      rw [y] at q
      exact q (by decide)
    refine ⟨(h.zz e1).1, 4, 960, by omega, by omega, sp_numberLine (x := 69) h e1 (by omega) (by decide) hg (by omega) (by omega) (fun G2 e2 => ?_)⟩
    exact h16 G2 _ _ _ e2 (by rw [List.length_append]; omega) (by omega) (by omega) (by unfold ba_of; rw [if_pos y])
end SP
