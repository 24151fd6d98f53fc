abbrev rqT : Type := Option Nat × List Nat × List Nat × vsT
def rq_v (im : Nat → Prop) (G : wo_W) (p : Nat) (r : rqT) : Prop := rq_at im G p r.1 r.2.1 r.2.2.1 r.2.2.2
def rqs_at (E : wo_E) (ow : Nat → Nat) (G : wo_W) (Qb nh : Nat) (ra : Nat → Nat) (rv : Nat → rqT) (an : Nat → Option (List Nat)) : Prop := ∀ t, t < nh → wo_ty G (ra t) = 9 ∧ en_bs E ≤ ra t ∧ ow (ra t) = Qb + t ∧ an_at (im ow) G (ra t) (an t) ∧ (an t = none → rq_v (im ow) G (ra t) (rv t))
section SP
variable {E : wo_E} {mc ms : Nat} {G G1 : wo_W} {B o x ar au nh na Qb : Nat} {out : List Nat} {sh : Bool} {ra : Nat → Nat} {rv : Nat → rqT} {an : Nat → Option (List Nat)} {ow ow1 : Nat → Nat} {R : Nat → Prop}
theorem rqs_at.xt (h : rqs_at E ow G Qb nh ra rv an) (y : xt E R ow G ow1 G1) (h0 : ¬ R 0) (hQ : ∀ t, t < nh → ¬ R (Qb + t)) : rqs_at E ow1 G1 Qb nh ra rv an := by
  intro t ht
  obtain ⟨k1, k2, k3, k4, k5⟩ := h t ht
  have zp : wo_ty G (ra t) ≠ 0 := by rw [k1]; decide
  have n : ¬ R (ow (ra t)) := by rw [k3]; exact hQ t ht
  exact ⟨(y.ty zp).trans k1, k2, (y.w zp).trans k3, k4.xt y h0 zp n, fun e => rq_at.xt (k5 e) y h0 n⟩
theorem cn_388 {n : Nat} (c : cx E ow G) (h : cn_k E ow B G o x ar au nh na out sh ra) (hn : n ≤ nh) : xt E (Rcn B) ow G ow (wo_si G 388 o (nI n)) ∧ cn_k E ow B (wo_si G 388 o (nI n)) o x ar au nh n out sh ra := by
  obtain ⟨⟨k1, k2, k3, k4, k5, k6, k7, k8, k9, k10⟩, a, u, h1, h2, h3, h4⟩ := h
  refine ⟨xt.of c.2 (fr_si (Or.inl k3)), ⟨k1, k2, k3, k4, k5, k6, ?_, ?_, ?_, ?_⟩, a, u, h1, hn, h3, h4⟩
  · simpa [wo_gi, wo_si, wo_u2] using k7
  · simp [wo_gi, wo_si, wo_u2]
  · simpa [wo_gi, wo_si, wo_u2] using k9
  · simpa [wo_gi, wo_si, wo_u2] using k10
theorem cn_390 {b : Bool} (c : cx E ow G) (h : cn_k E ow B G o x ar au nh na out sh ra) : xt E (Rcn B) ow G ow (wo_si G 390 o (bo_I b)) ∧ cn_k E ow B (wo_si G 390 o (bo_I b)) o x ar au nh na out b ra := by
  obtain ⟨⟨k1, k2, k3, k4, k5, k6, k7, k8, k9, k10⟩, a, u, h1, h2, h3, h4⟩ := h
  refine ⟨xt.of c.2 (fr_si (Or.inl k3)), ⟨k1, k2, k3, k4, k5, k6, ?_, ?_, ?_, ?_⟩, a, u, h1, h2, h3, h4⟩
  · simpa [wo_gi, wo_si, wo_u2] using k7
  · simpa [wo_gi, wo_si, wo_u2] using k8
  · simpa [wo_gi, wo_si, wo_u2] using k9
  · simp [wo_gi, wo_si, wo_u2]
theorem sp_dvLoop {Post : wo_W → Prop} (hB : 0 < B) (hQB : ∀ t, t < nh → ¬ Rcn B (Qb + t)) (hlen : ∀ t u, t < nh → an t = some u → u.length ≤ 80) : ∀ (k na : Nat) (out : List Nat) (G : wo_W) (c s : Nat), na + k = nh → cx E ow G → cn_k E ow B G o x ar au nh na out sh ra → rqs_at E ow G Qb nh ra rv an → out.length + 80 * k ≤ 640 → c ≤ mc → s ≤ ms →
    (∀ G', xt E (Rcn B) ow G ow G' → cn_k E ow B G' o x ar au nh (dv_go an k na out).1 (dv_go an k na out).2 sh ra → Post G') → pq_Cn_deliver_0 E mc ms Post (k + 1) G c s o := by
  intro k
  have n0 : ¬ Rcn B 0 := by rintro (z | z | z) <;> omega
  induction k with
  | zero =>
    intro na out G c s hk cc h hr ho hc hs hp
    have h' := h
    obtain ⟨⟨k1, k2, k3, k4, k5, k6, k7, k8, k9, k10⟩, _, _, h1, h2, h3, h4⟩ := h'
    unfold pq_Cn_deliver_0 pq_Cn_deliver_55
    rw [k7, k8]
    exact ⟨k1, fun _ => hp G (xt.rf cc.2) h, fun w => absurd (nI_le (by omega) (by omega)) w⟩
  | succ k ih =>
    intro na out G c s hk cc h hr ho hc hs hp
    have h' := h
    obtain ⟨⟨k1, k2, k3, k4, k5, k6, k7, k8, k9, k10⟩, ⟨a1, a2, a3, a4, a5⟩, _, h1, h2, h3, h4⟩ := h'
    obtain ⟨q1, q2, q3, q4, _⟩ := hr na (by omega)
    unfold dv_go at hp
    unfold pq_Cn_deliver_0 pq_Cn_deliver_55
    rw [k7, k8]
    have av : vp_in (nI na) (wo_len G ar) := by rw [a2]; exact vp_in_nI (by omega) (by decide)
    have ae : wo_er G ar (nI na).toNatClampNeg = some (ra na) := by rw [nI_clamp (by omega)]; exact a5 na (by omega)
    refine ⟨k1, fun w => absurd w (nI_ge (by omega) (by omega)), fun _ => fun r hr' => ⟨ar, hr'.trans k5, a1, av, fun r7 hr7 => ⟨ra na, hr7.trans ae, q1, fun r11 hr11 => ⟨fun w => ?_, fun a w => fun r14 hr14 => ⟨ar, hr14.trans k5, a1, av, fun r19 hr19 => ⟨ra na, hr19.trans ae, q1, fun r23 hr23 => ⟨0, 0, hc, hs, ?_⟩⟩⟩⟩⟩⟩⟩
    · have e : an na = none := by
        cases e : an na with
        | none => rfl
        | some t =>
          rw [e] at q4
          obtain ⟨q, e1, _⟩ := q4
          rw [← hr11, w] at e1
          cases e1
      rw [e] at hp
      exact hp G (xt.rf cc.2) h
    · cases e : an na with
      | none =>
        rw [e] at q4
        have q5 : wo_gr G 523 (ra na) = none := q4
        rw [hr11, q5] at w
        cases w
      | some t =>
        rw [e] at q4 hp
        obtain ⟨q, e1, e2⟩ := q4
        have tl := hlen na t (by omega) e
        rw [hr23, e1]
        refine sp_write cc hB h e2 (by omega) (fun G2 y2 h2 => ?_)
        have c2 := cc.xt y2 n0
        refine ⟨h2.1.1, k2, fun G3 e3 => ?_⟩
        rw [h2.1.2.2.2.2.2.2.2.1, nI_1] at e3
        obtain ⟨y3, h3⟩ := cn_388 (n := na + 1) c2 h2 (by omega)
        rw [← e3] at y3 h3
        exact ih (na + 1) (out ++ t) G3 _ _ (by omega) (c2.xt y3 n0) h3 (hr.xt (y2.tr y3) n0 hQB) (by rw [List.length_append]; omega) hc hs (fun G' y4 h4 => hp G' ((y2.tr y3).tr y4) h4)
theorem sp_deliver {Post : wo_W → Prop} (cc : cx E ow G) (hB : 0 < B) (hQB : ∀ t, t < nh → ¬ Rcn B (Qb + t)) (hlen : ∀ t u, t < nh → an t = some u → u.length ≤ 80) (h : cn_k E ow B G o x ar au nh na out sh ra) (hr : rqs_at E ow G Qb nh ra rv an) (ho : out.length + 80 * (nh - na) ≤ 640)
    (hp : ∀ G', xt E (Rcn B) ow G ow G' → cn_k E ow B G' o x ar au nh (dv_go an (nh - na) na out).1 (dv_go an (nh - na) na out).2 sh ra → Post G') : ∃ n, pq_Cn_deliver_0 E mc ms Post n G 0 0 o := by
  have h2 := h.2.2.2.2.1
  exact ⟨nh - na + 1, sp_dvLoop hB hQB hlen (nh - na) na out G 0 0 (by omega) cc h hr ho (Nat.zero_le _) (Nat.zero_le _) hp⟩
theorem sp_isRead {Post : Int32 → wo_W → Prop} {p : Nat} {m : Option Nat} {pa bd : List Nat} {vs : vsT} {im : Nat → Prop} (h : rq_at im G p m pa bd vs) (hp : Post (bo_I (decide (m = some 0 ∨ m = some 1))) G) : pq_Rq_isRead E mc ms Post G p := by
  obtain ⟨y1, y2, y3, _⟩ := h
  have e0 := wh_Ieq (m := m) (k := 0) (fun n e => by have := y3 n e; omega) (by decide)
  have e1 := wh_Ieq (m := m) (k := 1) (fun n e => by have := y3 n e; omega) (by decide)
  unfold pq_Rq_isRead pq_Rq_isRead_0 pq_Rq_isRead_15 pq_Rq_isRead_20
  rw [y2]
  refine ⟨y1, fun w => ?_, fun w => ⟨fun w2 => ?_, fun w2 => ?_⟩⟩
  · rw [decide_eq_true (Or.inl (e0.mp w))] at hp
    exact ⟨tx_ok1, hp⟩
  · rw [decide_eq_false (fun z => z.elim (fun z => w (e0.mpr z)) (fun z => w2 (e1.mpr z)))] at hp
    exact ⟨tx_ok0, hp⟩
  · rw [decide_eq_true (Or.inr (e1.mp w2))] at hp
    exact ⟨tx_ok1, hp⟩
end SP
