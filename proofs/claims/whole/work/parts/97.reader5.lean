section SP
variable {E : wo_E} {mc ms : Nat} {G G1 : wo_W} {B Q x a1 a2 a3 p : Nat} {ow ow1 : Nat → Nat} {R : Nat → Prop} {pt hd lf : Nat} {ln m : Option Nat} {ch : Bool} {li bo pa : List Nat} {vs : vsT}
theorem sp_judge {Post : Int32 → wo_W → Prop} {a : Nat} {t : List Nat} (c : cx E ow G) (hQ : 0 < Q ∧ Q < B) (h : rd_k E ow B Q G x a1 a2 a3 p (pt, hd, ln, ch, lf, [], bo, m, pa, vs)) (hok : rd_ok (pt, hd, ln, ch, lf, t, bo, m, pa, vs)) (hpt : ¬ (pt = 2 ∨ pt = 4) ∧ pt ≠ 5) (hS : tx_i (im ow) G a t) (h1 : (if pt = 0 ∧ t ≠ [] then 120 else 4) ≤ mc) (h2 : (if pt = 0 ∧ t ≠ [] then 3600 else 60) ≤ ms)
    (hp : ∀ ow' G', xt E (Rrd B Q) ow G ow' G' → rd_res E ow' B Q G' x (jd_of (pt, hd, ln, ch, lf, t, bo, m, pa, vs)) → Post (nI (jd_of (pt, hd, ln, ch, lf, t, bo, m, pa, vs)).1) G') : pq_Rd_judge E mc ms Post G x (some a) := by
  obtain ⟨o1, o2, o3, o4, o5, o6, o7⟩ := hok
  have k8 := h.2.2.2.2.2.2.2.1
  have f1 := k8.1
  have l0 := o7 hpt.1
  have fin : ∀ {ow' G' q}, xt E (Rrd B Q) ow G ow' G' → jd_of (pt, hd, ln, ch, lf, t, bo, m, pa, vs) = q → (q.1 < 2 → rd_k E ow' B Q G' x a1 a2 a3 p q.2) → (∃ d, rd_k E ow' B Q G' x a1 a2 a3 p d ∧ d_bo d = bo) → Post (nI q.1) G' := by
    intro ow' G' q y e k1 k2
    rw [e] at hp
    obtain ⟨d, k2, k3⟩ := k2
    exact hp ow' G' y ⟨fun z => ⟨a1, a2, a3, p, k1 z⟩, d, ⟨a1, a2, a3, p, k2⟩, by rw [k3]; omega⟩
  have emp : ∀ {G2 : wo_W} (P2 : Prop), (t = [] → P2) → ((if t = [] then (1 : Int32) else 0) = 0 → False) → P2 := by
    intro G2 P2 k1 k2
    by_cases z : t = []
    · exact k1 z
    · exact False.elim (k2 (if_neg z))
  unfold pq_Rd_judge pq_Rd_judge_0 pq_Rd_judge_52 pq_Rd_judge_72 pq_Rd_judge_91
  rw [f1]
  refine ⟨h.1, fun w => ?_, fun w => ?_, fun w => ?_, fun w => ?_, fun w0 w1 w2 w3 => ?_⟩
  · have e0 : pt = 0 := (nI_eq (b := 0) (by omega) (by decide)).mp w
    subst e0
    refine ⟨a, rfl, hS.1.1, 0, 0, by omega, by omega, sp_isEmpty hS.1 ⟨fun w2 => ?_, fun w2 => ?_⟩⟩
    · have z : ¬ t = [] := fun z => by rw [if_pos z] at w2; exact absurd w2 (by decide)
      rw [if_pos ⟨rfl, z⟩] at h1 h2
      have ej : jd_of (0, hd, ln, ch, lf, t, bo, m, pa, vs) = ((jl_of t).1, (1, hd, ln, ch, lf, [], bo, (jl_of t).2.1, (jl_of t).2.2, vs)) := by
        simp [jd_of, z]
      rw [l0] at h
      refine ⟨h.1, mc, ms, by omega, by omega, sp_judgeRequestLine c hQ h hS o4 h1 h2 (fun ow' G' y k1 k2 => fin y ej (fun z => ?_) k2)⟩
      rw [l0]
      exact k1 z
    · have z : t = [] := Classical.byContradiction fun z => w2 (if_neg z)
      have ej : jd_of (0, hd, ln, ch, lf, t, bo, m, pa, vs) = (0, (0, hd, ln, ch, lf, [], bo, m, pa, vs)) := by
        simp [jd_of, z]
      exact fin (xt.rf c.2) ej (fun _ => h) ⟨_, h, rfl⟩
  · have e0 : pt = 1 := (nI_eq (b := 1) (by omega) (by decide)).mp w
    subst e0
    rw [if_neg (by omega)] at h1 h2
    refine ⟨a, rfl, hS.1.1, 0, 0, by omega, by omega, sp_isEmpty hS.1 ⟨fun w2 => ?_, fun w2 => ?_⟩⟩
    · have z : ¬ t = [] := fun z => by rw [if_pos z] at w2; exact absurd w2 (by decide)
      have ej : jd_of (1, hd, ln, ch, lf, t, bo, m, pa, vs) = ((jh_of t hd ln ch vs).1, (1, hd + 1, (jh_of t hd ln ch vs).2.1, (jh_of t hd ln ch vs).2.2.1, lf, [], bo, m, pa, (jh_of t hd ln ch vs).2.2.2)) := by
        simp [jd_of, z]
      exact ⟨h.1, mc, ms, by omega, by omega, sp_judgeHeader c hQ h o2 o3 hS o4 (by omega) (by omega) (fun G' y k1 k2 => fin y ej k1 k2)⟩
    · have z : t = [] := Classical.byContradiction fun z => w2 (if_neg z)
      have ej : jd_of (1, hd, ln, ch, lf, t, bo, m, pa, vs) = ((eh_of ln ch).1, ((eh_of ln ch).2.1, hd, ln, ch, (eh_of ln ch).2.2, [], bo, m, pa, vs)) := by
        simp [jd_of, z]
      rw [l0] at h
      exact ⟨h.1, 0, 0, by omega, by omega, sp_endHeaders c hQ h o3 (fun G' y k1 => fin y ej (fun _ => k1) ⟨_, k1, rfl⟩)⟩
  · exact absurd ((nI_eq (b := 2) (by omega) (by decide)).mp w) (fun e => hpt.1 (Or.inl e))
  · have e0 : pt = 3 := (nI_eq (b := 3) (by omega) (by decide)).mp w
    subst e0
    have ej : jd_of (3, hd, ln, ch, lf, t, bo, m, pa, vs) = ((jc_of t bo).1, ((jc_of t bo).2.1, hd, ln, ch, (jc_of t bo).2.2, [], bo, m, pa, vs)) := by
      simp [jd_of]
    rw [l0] at h
    exact ⟨0, 0, by omega, by omega, sp_judgeChunk c hQ h (by omega) hS.1 o4 (fun G' y k1 => fin y ej (fun _ => k1) ⟨_, k1, rfl⟩)⟩
  · have n0 : ¬ pt = 0 := fun e => w0 (by rw [e]; rfl)
    have n1 : ¬ pt = 1 := fun e => w1 (by rw [e]; rfl)
    have n3 : ¬ pt = 3 := fun e => w3 (by rw [e]; rfl)
    rw [if_neg (by omega)] at h1 h2
    have ej : jd_of (pt, hd, ln, ch, lf, t, bo, m, pa, vs) = (if t = [] then 1 else 0, (pt, hd, ln, ch, lf, [], bo, m, pa, vs)) := by
      simp [jd_of, n0, n1, n3]
    refine ⟨a, rfl, hS.1.1, 0, 0, by omega, by omega, sp_isEmpty hS.1 ⟨fun w2 => ?_, fun w2 => ?_⟩⟩
    · have z : ¬ t = [] := fun z => by rw [if_pos z] at w2; exact absurd w2 (by decide)
      rw [if_neg z] at ej
      exact fin (xt.rf c.2) ej (fun _ => h) ⟨_, h, rfl⟩
    · have z : t = [] := Classical.byContradiction fun z => w2 (if_neg z)
      rw [if_pos z] at ej
      exact fin (xt.rf c.2) ej (fun _ => h) ⟨_, h, rfl⟩
theorem rdk_li {ow' : Nat → Nat} {G' : wo_W} {t : List Nat} (hQ : 0 < Q ∧ Q < B) (h : rd_k E ow B Q G x a1 a2 a3 p (pt, hd, ln, ch, lf, li, bo, m, pa, vs)) (y : xt E (fun q => q = B + 2) ow G ow' G') (s : sb_st E ow' (B + 2) G' a1 t) : rd_k E ow' B Q G' x a1 a2 a3 p (pt, hd, ln, ch, lf, t, bo, m, pa, vs) := by
  obtain ⟨k1, k2, k3, k4, k5, k6, k7, k8, k9, k10, ⟨t3, k11⟩, k12⟩ := h
  have zx : wo_ty G x ≠ 0 := by rw [k1]; decide
  have e4 := y.eq zx (by rw [k3]; omega)
  exact ⟨e4.1.trans k1, k2, (y.w zx).trans k3, (e4.2.2.2.2.1 _).trans k4, (e4.2.2.2.2.1 _).trans k5, (e4.2.2.2.2.1 _).trans k6, (e4.2.2.2.2.1 _).trans k7, k8.eq e4, s, k10.xt y (by omega), ⟨t3, k11.xt y (by omega)⟩, k12.xt y (by omega) (by omega)⟩
def tk_c (d : rdT) (b : Nat) : Nat := if d.1 = 0 ∧ b = 10 ∧ d.2.2.2.2.2.1 ≠ [] then 130 else 10
def tk_s (d : rdT) (b : Nat) : Nat := if d.1 = 0 ∧ b = 10 ∧ d.2.2.2.2.2.1 ≠ [] then 3700 else 130
theorem sp_take {Post : Int32 → wo_W → Prop} {b : Nat} {d : rdT} (c : cx E ow G) (hQ : 0 < Q ∧ Q < B) (h : rd_at E ow B Q G x d) (hok : rd_ok d) (hb : b < 256) (h1 : tk_c d b ≤ mc) (h2 : tk_s d b ≤ ms)
    (hp : ∀ ow' G', xt E (Rrd B Q) ow G ow' G' → rd_res E ow' B Q G' x (rd_step d b) → Post (nI (rd_step d b).1) G') : pq_Rd_take E mc ms Post G x (nI b) := by
  obtain ⟨a1, a2, a3, p, h⟩ := h
  obtain ⟨pt, hd, ln, ch, lf, li, bo, m, pa, vs⟩ := d
  have hok' := hok
  obtain ⟨o1, o2, o3, o4, o5, o6, o7⟩ := hok'
  have h' := h
  obtain ⟨k1, k2, k3, k4, k5, k6, k7, k8, k9, k10, ⟨t3, k11⟩, k12⟩ := h'
  unfold tk_c at h1
  unfold tk_s at h2
  simp only [] at h1 h2
  have m10 : 10 ≤ mc := by split at h1 <;> omega
  have m130 : 130 ≤ ms := by split at h2 <;> omega
  have hb8 : bo.length ≤ 8 := by omega
  have fin : ∀ {ow' G' q}, xt E (Rrd B Q) ow G ow' G' → rd_step (pt, hd, ln, ch, lf, li, bo, m, pa, vs) b = q → (q.1 < 2 → rd_k E ow' B Q G' x a1 a2 a3 p q.2) → (∃ d, rd_k E ow' B Q G' x a1 a2 a3 p d ∧ (d_bo d).length ≤ 8) → Post (nI q.1) G' := by
    intro ow' G' q y e k1 k2
    rw [e] at hp
    obtain ⟨d, k2, k3⟩ := k2
    exact hp ow' G' y ⟨fun z => ⟨a1, a2, a3, p, k1 z⟩, d, ⟨a1, a2, a3, p, k2⟩, k3⟩
  have h16 : (pt = 2 ∨ pt = 4) → pq_Rd_take_16 E mc ms Post G 0 0 x (nI b) := by
    intro z
    unfold pq_Rd_take_16
    have hb9 : (d_bo (rd_step (pt, hd, ln, ch, lf, li, bo, m, pa, vs) b).2).length ≤ 8 := by
      have e : d_bo (rd_step (pt, hd, ln, ch, lf, li, bo, m, pa, vs) b).2 = bo ++ [b] := by
        unfold rd_step
        simp only []
        rw [if_pos z]
        rfl
      rw [e, List.length_append]
      have := o6 z
      show bo.length + 1 ≤ 8
      omega
    exact ⟨k1, 1, 20, by omega, by omega, sp_takeBody c hQ h z (o6 z) o5 hb (by omega) (by omega) (fun ow' G' y r => fin y rfl (fun _ => r) ⟨_, r, hb9⟩)⟩
  unfold pq_Rd_take pq_Rd_take_0 pq_Rd_take_48
  rw [k8.1]
  refine ⟨k1, fun w => h16 (Or.inl ((nI_eq (b := 2) (by omega) (by decide)).mp w)), fun w2 => ⟨fun w4 => ⟨fun w5 => ⟨fun wb => ?_, fun wb => ?_⟩, fun w5 => ⟨k2, fun G1 e1 => ?_⟩⟩, fun w => h16 (Or.inr ((nI_eq (b := 4) (by omega) (by decide)).mp w))⟩⟩
  · have n2 : ¬ (pt = 2 ∨ pt = 4) := fun z => by rcases z with z | z; exact w2 (by rw [z]; rfl); exact w4 (by rw [z]; rfl)
    have n5 : ¬ pt = 5 := fun z => w5 (by rw [z]; rfl)
    have nb : ¬ b = 10 := fun z => wb (by rw [z]; rfl)
    have es : rd_step (pt, hd, ln, ch, lf, li, bo, m, pa, vs) b = if 20 ≤ li.length then (431, (pt, hd, ln, ch, lf, li, bo, m, pa, vs)) else (0, (pt, hd, ln, ch, lf, li ++ [b], bo, m, pa, vs)) := by
      show (if pt = 2 ∨ pt = 4 then _ else if pt = 5 then _ else if b = 10 then _ else _) = _
      rw [if_neg n2, if_neg n5, if_neg nb]
    intro r hr
    refine ⟨a1, hr.trans k4, k9.ty, 0, 0, by omega, by omega, bs_len k9 ⟨fun w => ⟨k1, fun r hr => ⟨a1, hr.trans k4, k9.ty, 1, 50, by omega, by omega, ?_⟩⟩, fun w => ?_⟩⟩
    · have z := (nI_ltI (b := 20) (by omega) (by decide)).mp w
      rw [if_neg (by omega)] at es
      rw [wo_c256 hb]
      refine bs_C c k9 hb (by omega) (by omega) (by omega) (fun ow1 G1 y1 s1 => ?_)
      have r1 := rdk_li hQ h y1 s1
      exact fin (y1.mn (fun r e => Or.inl (by omega))) es (fun _ => r1) ⟨_, r1, hb8⟩
    · have z : 20 ≤ li.length := Nat.le_of_not_lt (fun y => w (nI_lt (b := 20) y (by decide)))
      rw [if_pos z] at es
      exact fin (xt.rf c.2) es (fun z => absurd z no431) ⟨_, h, hb8⟩
  · have n2 : ¬ (pt = 2 ∨ pt = 4) := fun z => by rcases z with z | z; exact w2 (by rw [z]; rfl); exact w4 (by rw [z]; rfl)
    have n5 : ¬ pt = 5 := fun z => w5 (by rw [z]; rfl)
    have eb : b = 10 := (nI_eq (b := 10) (by omega) (by decide)).mp wb
    have es : rd_step (pt, hd, ln, ch, lf, li, bo, m, pa, vs) b = jd_of (pt, hd, ln, ch, lf, li, bo, m, pa, vs) := by
      show (if pt = 2 ∨ pt = 4 then _ else if pt = 5 then _ else if b = 10 then _ else _) = _
      rw [if_neg n2, if_neg n5, if_pos eb]
    rw [es] at hp
    intro r hr
    refine ⟨a1, hr.trans k4, k9.ty, 2, 30, by omega, by omega, bs_T c k9 (by omega) (by omega) (fun q G1 y1 S1 => ?_)⟩
    have c1 := c.xt y1 (fun z => z)
    have r1 := rdk_0 h y1
    refine ⟨r1.1, fun r hr => ⟨a1, hr.trans r1.2.2.2.1, r1.2.2.2.2.2.2.2.2.1.ty, 1, 0, by omega, by omega, bs_L c1 r1.2.2.2.2.2.2.2.2.1 (by omega) (fun ow2 G2 y2 s2 => ?_)⟩⟩
    have c2 := c1.xt y2 (by omega)
    have r2 := rdk_li hQ r1 y2 s2
    have S2 := S1.xt y2 (by omega)
    have y12 : xt E (Rrd B Q) ow G ow2 G2 := (y1.mn (fun _ z => False.elim z)).tr (y2.mn (fun r e => Or.inl (by omega)))
    refine ⟨r2.1, mc - 3, ms - 30, by omega, by omega, sp_judge c2 hQ r2 hok ⟨n2, n5⟩ S2 ?_ ?_ (fun ow3 G3 y3 r3 => hp ow3 G3 (y12.tr y3) r3)⟩
    · by_cases z : pt = 0 ∧ li ≠ []
      · rw [if_pos z]
        rw [if_pos ⟨z.1, eb, z.2⟩] at h1
        omega
      · rw [if_neg z]; omega
    · by_cases z : pt = 0 ∧ li ≠ []
      · rw [if_pos z]
        rw [if_pos ⟨z.1, eb, z.2⟩] at h2
        omega
      · rw [if_neg z]; omega
  · have e5 : pt = 5 := (nI_eq (b := 5) (by omega) (by decide)).mp w5
    have es : rd_step (pt, hd, ln, ch, lf, li, bo, m, pa, vs) b = (if b = 10 then 0 else 400, (3, hd, ln, ch, lf, li, bo, m, pa, vs)) := by
      show (if pt = 2 ∨ pt = 4 then _ else if pt = 5 then _ else if b = 10 then _ else _) = _
      rw [if_neg (by omega), if_pos e5]
    obtain ⟨y1, r1⟩ := rdk_si c hQ h (rd_f452 k8 (n := 3) (l2 := lf) (by omega))
    have e1' : G1 = wo_si G 452 x (nI 3) := e1
    rw [← e1'] at y1 r1
    refine ⟨fun w => ?_, fun w => ?_⟩
    · have z : ¬ b = 10 := fun z => w (by rw [z]; rfl)
      rw [if_neg z] at es
      exact fin y1 es (fun z => absurd z no400) ⟨_, r1, hb8⟩
    · have z : b = 10 := (nI_eq (b := 10) (by omega) (by decide)).mp w
      rw [if_pos z] at es
      exact fin y1 es (fun _ => r1) ⟨_, r1, hb8⟩
theorem sp_rqInit {Post : wo_W → Prop} {q Q2 : Nat} (c : cx E ow G) (hq : wo_ty G q = 0) (hqb : en_bs E ≤ q) (hp : ∀ ow' G', xt E (fun _ => False) ow G ow' G' → rc_at E ow' Q2 G' q none [] (fun _ => none) → Post G') : pq_Rq_init E mc ms Post (wo_new G q 9) q := by
  unfold pq_Rq_init pq_Rq_init_0
  refine ⟨by simp [wo_ty, wo_new, wo_u1], hqb, fun G1 e1 => ⟨hqb, fun G2 e2 => ⟨hqb, fun G3 e3 => ?_⟩⟩⟩
  have f : fr_W (fun x => x = q) G G3 := by
    rw [e3, e2, e1]
    exact fr_tr (fr_tr (fr_tr (fr_new hq) (fr_si rfl)) (fr_sr rfl)) (fr_sr rfl)
  have f0 : fr_W fr_0 G G3 := fr_mn (fun a ha e => ha (by rw [e]; exact hq)) f
  have ty : wo_ty G3 q = 9 := by rw [e3, e2, e1]; simp [wo_ty, wo_new, wo_si, wo_sr, wo_u1]
  have y : xt E (fun _ => False) ow G (ow_ex ow G Q2 [q]) G3 := xt.ex c.2 (fun z hz _ => by rw [List.mem_singleton.mp hz]; exact ⟨hqb, by rw [ty]; decide⟩) f0
  have c3 := c.xt y (fun z => z)
  obtain ⟨s1, s2, s3⟩ := c3.1.1 0 (by decide)
  have b0 : ∀ y, y < en_bs E → (ow_ex ow G Q2 [q]) y = 0 := fun y hy => by
    apply Classical.byContradiction
    intro w
    have := (c3.2 y w).1
    omega
  have T : tx_i (im (ow_ex ow G Q2 [q])) G3 (en_str E 0) [] := ⟨s2, b0 _ s1, fun z hz => b0 _ (s3 z hz)⟩
  refine hp _ G3 y ⟨⟨ty, ?_, fun k e => (by cases e), ⟨_, ?_, T⟩, ⟨_, ?_, T, by simp⟩, fun k hk => ?_⟩, hqb, ow_new hq (List.mem_singleton.mpr rfl), ?_⟩
  · rw [e3, e2, e1]; simp [wo_gi, wo_si, wo_sr, wo_u2]; rfl
  · rw [e3, e2]; simp [wo_gr, wo_sr, wo_u2]
  · rw [e3]; simp [wo_gr, wo_sr, wo_u2]
  · have : wo_gr G3 (515 + k) q = none := by
      rw [e3, e2, e1]
      have h1 : ¬ 515 + k = 514 := by omega
      have h2 : ¬ 515 + k = 513 := by omega
      simp [wo_gr, wo_sr, wo_si, wo_u2, wo_new, wo_uc, h1, h2]
    rw [this]
    trivial
  · rw [e3, e2, e1]; simp [wo_gr, wo_sr, wo_si, wo_u2, wo_new, wo_uc]
theorem sp_finish {Post : Option Nat → wo_W → Prop} {Q2 : Nat} (c : cx E ow G) (hQ : 0 < Q ∧ Q < B) (hQ2 : 0 < Q2 ∧ Q2 < B) (h : rd_at E ow B Q G x (pt, hd, ln, ch, lf, li, bo, m, pa, vs)) (hbo : bo.length ≤ 8) (h1 : 4 ≤ mc) (h2 : 40 ≤ ms)
    (hp : ∀ p ow' G', xt E (Rrd B Q) ow G ow' G' → rd_at E ow' B Q2 G' x (0, 0, none, false, 0, li, [], none, [], fun _ => none) → rq_at (im ow') G' p m pa bo vs → en_bs E ≤ p → ow' p = Q → wo_gr G' 523 p = none → Post (some p) G') : pq_Rd_finish E mc ms Post G x := by
  obtain ⟨a1, a2, a3, p, h⟩ := h
  have h' := h
  obtain ⟨k1, k2, k3, k4, k5, k6, k7, k8, k9, k10, ⟨t3, k11⟩, k12⟩ := h'
  have R0 := Rrd0 hQ
  unfold pq_Rd_finish pq_Rd_finish_0
  refine ⟨k1, fun r hr r4 hr4 => ⟨a2, hr4.trans k5, k10.ty, 2, 20, by omega, by omega, bs_T c k10 (by omega) (by omega) (fun q1 G1 y1 S1 => ?_)⟩⟩
  have c1 := c.xt y1 (fun z => z)
  have r1 := rdk_0 h y1
  have rc1 := r1.2.2.2.2.2.2.2.2.2.2.2
  refine ⟨p, hr.trans k7, rc1.1.1, rc1.2.1, fun G2 e2 => ?_⟩
  have y2 : xt E (fun r => r = Q) ow G1 ow G2 := xt.of c1.2 (by rw [e2]; exact fr_sr rc1.2.2.1)
  have nQ : ¬ (fun r => r = Q) 0 := by omega
  have c2 := c1.xt y2 nQ
  have rq2 : rq_at (im ow) G2 p m pa bo vs := by
    obtain ⟨⟨j1, j2, j3, ⟨j4, j5, j6⟩, j7, j8⟩, _⟩ := rc1
    have g : ∀ f, f ≠ 514 → wo_gr G2 f p = wo_gr G1 f p := fun f hf => by rw [e2]; simp [wo_gr, wo_sr, wo_u2, hf]
    refine ⟨by rw [e2]; exact j1, by rw [e2]; exact j2, j3, ⟨j4, (g 513 (by omega)).trans j5, j6.xt y2 nQ⟩, ⟨q1, by rw [e2]; simp [wo_gr, wo_sr, wo_u2], S1.xt y2 nQ, hbo⟩, fun k hk => ?_⟩
    rw [g (515 + k) (by omega)]
    exact (j8 k hk).xt y2 nQ
  have an2 : wo_gr G2 523 p = none := by rw [e2]; simpa [wo_gr, wo_sr, wo_u2] using rc1.2.2.2
  have zx1 : wo_ty G1 x ≠ 0 := by rw [r1.1]; decide
  have e12 := y2.eq zx1 (by rw [r1.2.2.1]; omega)
  have zp2 : wo_ty G2 p ≠ 0 := by rw [rq2.1]; decide
  refine ⟨by omega, by omega, fun q3 hq3 hqb G3 e3 => ?_⟩
  rw [e3]
  refine ⟨0, 0, by omega, by omega, sp_rqInit (Q2 := Q2) c2 hq3 hqb (fun ow4 G4 y4 rc4 => ?_)⟩
  have c4 := c2.xt y4 (fun z => z)
  have zx2 : wo_ty G2 x ≠ 0 := by rw [e12.1]; exact zx1
  have e24 := y4.eq zx2 (fun z => z)
  have tx4 : wo_ty G4 x = 8 := e24.1.trans (e12.1.trans r1.1)
  have wx4 : ow4 x = B + 1 := (y4.w zx2).trans r1.2.2.1
  refine ⟨tx4, k2, fun G5 e5 => ?_⟩
  have y5 : xt E (fun r => r = B + 1) ow4 G4 ow4 G5 := xt.of c4.2 (by rw [e5]; exact fr_sr wx4)
  have n5 : ¬ (fun r => r = B + 1) 0 := by omega
  have c5 := c4.xt y5 n5
  have gx : ∀ f, f ≠ 451 → wo_gr G5 f x = wo_gr G1 f x := fun f hf => by
    have : wo_gr G5 f x = wo_gr G4 f x := by rw [e5]; simp [wo_gr, wo_sr, wo_u2, hf]
    rw [this, e24.2.2.2.2.1, e12.2.2.2.2.1]
  have r1' := r1
  obtain ⟨u1, u2, u3, u4, u5, u6, u7, u8, u9, u10, ⟨t5, u11⟩, u12⟩ := r1'
  have s9 : sb_st E ow4 (B + 2) G5 a1 li := ((u9.xt y2 (by omega)).xt y4 (fun z => z)).xt y5 (by omega)
  have s10 : sb_st E ow4 (B + 3) G5 a2 bo := ((u10.xt y2 (by omega)).xt y4 (fun z => z)).xt y5 (by omega)
  have s11 : sb_st E ow4 (B + 4) G5 a3 t5 := ((u11.xt y2 (by omega)).xt y4 (fun z => z)).xt y5 (by omega)
  have rc5 : rc_at E ow4 Q2 G5 q3 none [] (fun _ => none) := rc4.xt y5 n5 (by omega)
  have rq5 : rq_at (im ow4) G5 p m pa bo vs := (rq2.xt y4 (fun z => z) (fun z => z)).xt y5 n5 (by rw [y4.w zp2, rc1.2.2.1]; omega)
  have wp4 : ow4 p = Q := (y4.w zp2).trans rc1.2.2.1
  have zp4 : wo_ty G4 p ≠ 0 := y4.nz zp2
  have an5 : wo_gr G5 523 p = none := by
    rw [(y5.eq zp4 (by rw [wp4]; omega)).2.2.2.2.1, (y4.eq zp2 (fun z => z)).2.2.2.2.1]
    exact an2
  have gi5 : ∀ f, wo_gi G5 f x = wo_gi G1 f x := fun f => by
    have : wo_gi G5 f x = wo_gi G4 f x := by rw [e5]; rfl
    rw [this, e24.2.2.1, e12.2.2.1]
  intro r hr2
  refine ⟨a2, hr2.trans ((gx 449 (by decide)).trans u5), s10.ty, 1, 0, by omega, by omega, bs_L c5 s10 (by omega) (fun ow6 G6 y6 s6 => ?_)⟩
  have c6 := c5.xt y6 (by omega)
  have zx5 : wo_ty G5 x ≠ 0 := by rw [e5]; show wo_ty G4 x ≠ 0; rw [tx4]; decide
  have tx5 : wo_ty G5 x = 8 := by rw [e5]; exact tx4
  have e56 := y6.eq zx5 (by rw [wx4]; omega)
  have r6 : rd_k E ow6 B Q2 G6 x a1 a2 a3 q3 (pt, hd, ln, ch, lf, li, [], none, [], fun _ => none) := by
    refine ⟨e56.1.trans tx5, k2, (y6.w zx5).trans wx4, (e56.2.2.2.2.1 _).trans ((gx 448 (by decide)).trans u4), (e56.2.2.2.2.1 _).trans ((gx 449 (by decide)).trans u5), (e56.2.2.2.2.1 _).trans ((gx 450 (by decide)).trans u6), (e56.2.2.2.2.1 _).trans ?_, ?_, s9.xt y6 (by omega), s6, ⟨t5, s11.xt y6 (by omega)⟩, rc5.xt y6 (by omega) (by omega)⟩
    · rw [e5]; simp [wo_gr, wo_sr, wo_u2]
    · obtain ⟨f1, f2, f3, f4, f5⟩ := u8
      exact ⟨(e56.2.2.1 _).trans ((gi5 _).trans f1), (e56.2.2.1 _).trans ((gi5 _).trans f2), (e56.2.2.1 _).trans ((gi5 _).trans f3), (e56.2.2.1 _).trans ((gi5 _).trans f4), fun w => (e56.2.2.1 _).trans ((gi5 _).trans (f5 w))⟩
  have zp5 : wo_ty G5 p ≠ 0 := by rw [rq5.1]; decide
  have rq6 : rq_at (im ow6) G6 p m pa bo vs := rq5.xt y6 (by omega) (by rw [wp4]; omega)
  have wp6 : ow6 p = Q := (y6.w zp5).trans wp4
  have an6 : wo_gr G6 523 p = none := by rw [(y6.eq zp5 (by rw [wp4]; omega)).2.2.2.2.1]; exact an5
  have y16 : xt E (Rrd B Q) ow G ow6 G6 := ((((y1.mn (fun _ z => False.elim z)).tr (y2.mn (fun _ z => Or.inr z))).tr (y4.mn (fun _ z => False.elim z))).tr (y5.mn (fun _ z => Or.inl (by omega)))).tr (y6.mn (fun _ z => Or.inl (by omega)))
  refine ⟨r6.1, k2, fun G7 e7 => ⟨k2, fun G8 e8 => ⟨k2, fun G9 e9 => ⟨k2, tx_ok0, fun G10 e10 => ?_⟩⟩⟩⟩
  obtain ⟨v7, r7⟩ := rdk_si c6 hQ2 r6 (rd_f452 r6.2.2.2.2.2.2.2.1 (n := 0) (l2 := 0) (by omega))
  have e7' : G7 = wo_si G6 452 x (nI 0) := e7
  rw [← e7'] at v7 r7
  have c7 := c6.xt v7 (Rrd0 hQ2)
  obtain ⟨v8, r8⟩ := rdk_si c7 hQ2 r7 (rd_f453 r7.2.2.2.2.2.2.2.1 (n := 0))
  have e8' : G8 = wo_si G7 453 x (nI 0) := e8
  rw [← e8'] at v8 r8
  have c8 := c7.xt v8 (Rrd0 hQ2)
  obtain ⟨v9, r9⟩ := rdk_si c8 hQ2 r8 (rd_f454 r8.2.2.2.2.2.2.2.1 (o := none))
  have e9' : G9 = wo_si G8 454 x (wh_I none) := e9
  rw [← e9'] at v9 r9
  have c9 := c8.xt v9 (Rrd0 hQ2)
  obtain ⟨v10, r10⟩ := rdk_si c9 hQ2 r9 (rd_f455 r9.2.2.2.2.2.2.2.1 (b := false))
  have e10' : G10 = wo_si G9 455 x (bo_I false) := e10
  rw [← e10'] at v10 r10
  have y610 : xt E (fun r => r = B + 1) ow6 G6 ow6 G10 := by
    refine xt.of c6.2 ?_
    rw [e10, e9, e8, e7]
    exact fr_tr (fr_tr (fr_tr (fr_si r6.2.2.1) (fr_si r6.2.2.1)) (fr_si r6.2.2.1)) (fr_si r6.2.2.1)
  have zp6 : wo_ty G6 p ≠ 0 := by rw [rq6.1]; decide
  exact hp p ow6 G10 (y16.tr (y610.mn (fun _ z => Or.inl (by omega)))) ⟨a1, a2, a3, q3, r10⟩ (rq6.xt y610 n5 (by rw [wp6]; omega)) rc1.2.1 wp6 (by rw [(y610.eq zp6 (by rw [wp6]; omega)).2.2.2.2.1]; exact an6)
end SP
