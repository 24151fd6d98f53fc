def rc_at (E : wo_E) (ow : Nat → Nat) (Q : Nat) (G : wo_W) (p : Nat) (m : Option Nat) (pa : List Nat) (vs : vsT) : Prop := rq_at (im ow) G p m pa [] vs ∧ en_bs E ≤ p ∧ ow p = Q ∧ wo_gr G 523 p = none
def rd_f (G : wo_W) (x pt hd : Nat) (ln : Option Nat) (ch : Bool) (lf : Nat) : Prop := wo_gi G 452 x = nI pt ∧ wo_gi G 453 x = nI hd ∧ wo_gi G 454 x = wh_I ln ∧ wo_gi G 455 x = bo_I ch ∧ (pt = 2 ∨ pt = 4 → wo_gi G 456 x = nI lf)
def rd_k (E : wo_E) (ow : Nat → Nat) (B Q : Nat) (G : wo_W) (x a1 a2 a3 p : Nat) : rdT → Prop
  | (pt, hd, ln, ch, lf, li, bo, m, pa, vs) => wo_ty G x = 8 ∧ en_bs E ≤ x ∧ ow x = B + 1 ∧ wo_gr G 448 x = some a1 ∧ wo_gr G 449 x = some a2 ∧ wo_gr G 450 x = some a3 ∧ wo_gr G 451 x = some p ∧ rd_f G x pt hd ln ch lf ∧ sb_st E ow (B + 2) G a1 li ∧ sb_st E ow (B + 3) G a2 bo ∧ (∃ t, sb_st E ow (B + 4) G a3 t) ∧ rc_at E ow Q G p m pa vs
def rd_at (E : wo_E) (ow : Nat → Nat) (B Q : Nat) (G : wo_W) (x : Nat) (d : rdT) : Prop := ∃ a1 a2 a3 p, rd_k E ow B Q G x a1 a2 a3 p d
def rd_ok : rdT → Prop
  | (pt, hd, ln, ch, lf, li, bo, m, pa, vs) => pt ≤ 6 ∧ hd ≤ 8 ∧ (∀ n, ln = some n → n < 100) ∧ li.length ≤ 20 ∧ bo.length + lf ≤ 8 ∧ (pt = 2 ∨ pt = 4 → 0 < lf) ∧ (¬ (pt = 2 ∨ pt = 4) → lf = 0)
def Rrd (B Q : Nat) : Nat → Prop := fun r => B + 1 ≤ r ∧ r ≤ B + 4 ∨ r = Q
def rd_res (E : wo_E) (ow : Nat → Nat) (B Q : Nat) (G : wo_W) (x : Nat) (q : Nat × rdT) : Prop := (q.1 < 2 → rd_at E ow B Q G x q.2) ∧ ∃ d, rd_at E ow B Q G x d ∧ (d_bo d).length ≤ 8
section SP
variable {E : wo_E} {mc ms : Nat} {G G1 : wo_W} {B Q x a1 a2 a3 p : Nat} {ow ow1 : Nat → Nat} {R : Nat → Prop} {pt hd lf : Nat} {ln m : Option Nat} {ch : Bool} {li bo pa : List Nat} {vs : vsT}
theorem rc_at.xt (h : rc_at E ow Q G p m pa vs) (y : xt E R ow G ow1 G1) (h0 : ¬ R 0) (hQ : ¬ R Q) : rc_at E ow1 Q G1 p m pa vs := by
  obtain ⟨k1, k2, k3, k4⟩ := h
  have zp : wo_ty G p ≠ 0 := by rw [k1.1]; decide
  exact ⟨k1.xt y h0 (by rw [k3]; exact hQ), k2, (y.w zp).trans k3, by rw [(y.eq zp (by rw [k3]; exact hQ)).2.2.2.2.1]; exact k4⟩
theorem rd_f.eq (h : rd_f G x pt hd ln ch lf) (e : wo_eq G G1 x) : rd_f G1 x pt hd ln ch lf := by
  obtain ⟨k1, k2, k3, k4, k5⟩ := h
  exact ⟨(e.2.2.1 _).trans k1, (e.2.2.1 _).trans k2, (e.2.2.1 _).trans k3, (e.2.2.1 _).trans k4, fun w => (e.2.2.1 _).trans (k5 w)⟩
theorem rd_k.xt {d : rdT} (h : rd_k E ow B Q G x a1 a2 a3 p d) (y : xt E R ow G ow1 G1) (h0 : ¬ R 0) (hB : ∀ k, 1 ≤ k → k ≤ 4 → ¬ R (B + k)) (hQ : ¬ R Q) : rd_k E ow1 B Q G1 x a1 a2 a3 p d := by
  obtain ⟨pt, hd, ln, ch, lf, li, bo, m, pa, vs⟩ := d
  obtain ⟨k1, k2, k3, k4, k5, k6, k7, k8, k9, k10, ⟨t, k11⟩, k12⟩ := h
  have zx : wo_ty G x ≠ 0 := by rw [k1]; decide
  have e := y.eq zx (by rw [k3]; exact hB 1 (by omega) (by omega))
  exact ⟨e.1.trans k1, k2, (y.w zx).trans k3, (e.2.2.2.2.1 _).trans k4, (e.2.2.2.2.1 _).trans k5, (e.2.2.2.2.1 _).trans k6, (e.2.2.2.2.1 _).trans k7, k8.eq e, k9.xt y (hB 2 (by omega) (by omega)), k10.xt y (hB 3 (by omega) (by omega)), ⟨t, k11.xt y (hB 4 (by omega) (by omega))⟩, k12.xt y h0 hQ⟩
theorem rd_at.xt {d : rdT} (h : rd_at E ow B Q G x d) (y : xt E R ow G ow1 G1) (h0 : ¬ R 0) (hB : ∀ k, 1 ≤ k → k ≤ 4 → ¬ R (B + k)) (hQ : ¬ R Q) : rd_at E ow1 B Q G1 x d := by
  obtain ⟨a1, a2, a3, p, k⟩ := h
  exact ⟨a1, a2, a3, p, k.xt y h0 hB hQ⟩
theorem rdk_si {pt' hd' lf' f : Nat} {ln' : Option Nat} {ch' : Bool} {v : Int32} (c : cx E ow G) (hQ : 0 < Q ∧ Q < B) (h : rd_k E ow B Q G x a1 a2 a3 p (pt, hd, ln, ch, lf, li, bo, m, pa, vs)) (hf : rd_f (wo_si G f x v) x pt' hd' ln' ch' lf') : xt E (Rrd B Q) ow G ow (wo_si G f x v) ∧ rd_k E ow B Q (wo_si G f x v) x a1 a2 a3 p (pt', hd', ln', ch', lf', li, bo, m, pa, vs) := by
  obtain ⟨k1, k2, k3, k4, k5, k6, k7, k8, k9, k10, ⟨t, k11⟩, k12⟩ := h
  have y : xt E (fun r => r = B + 1) ow G ow (wo_si G f x v) := xt.of c.2 (fr_si k3)
  refine ⟨y.mn (fun r e => Or.inl (by omega)), k1, k2, k3, k4, k5, k6, k7, hf, k9.xt y (by omega), k10.xt y (by omega), ⟨t, k11.xt y (by omega)⟩, k12.xt y (by omega) (by omega)⟩
theorem rd_bump (h : rd_f G x pt hd ln ch lf) : ∀ n, rd_f (wo_si G 452 x (nI n)) x n hd ln ch lf ∨ n = 2 ∨ n = 4 := by
  intro n
  obtain ⟨k1, k2, k3, k4, k5⟩ := h
  by_cases z : n = 2 ∨ n = 4
  · exact Or.inr z
  · exact Or.inl ⟨by simp [wo_gi, wo_si, wo_u2], by simpa [wo_gi, wo_si, wo_u2] using k2, by simpa [wo_gi, wo_si, wo_u2] using k3, by simpa [wo_gi, wo_si, wo_u2] using k4, fun w => absurd w z⟩
theorem rd_f452 (h : rd_f G x pt hd ln ch lf) {n l2 : Nat} (h2 : ¬ (n = 2 ∨ n = 4)) : rd_f (wo_si G 452 x (nI n)) x n hd ln ch l2 := by
  obtain ⟨k1, k2, k3, k4, k5⟩ := h
  exact ⟨by simp [wo_gi, wo_si, wo_u2], by simpa [wo_gi, wo_si, wo_u2] using k2, by simpa [wo_gi, wo_si, wo_u2] using k3, by simpa [wo_gi, wo_si, wo_u2] using k4, fun w => absurd w h2⟩
theorem rd_fx (h : rd_f G x pt hd ln ch lf) {n l : Nat} : rd_f (wo_si (wo_si G 456 x (nI l)) 452 x (nI n)) x n hd ln ch l := by
  obtain ⟨k1, k2, k3, k4, k5⟩ := h
  exact ⟨by simp [wo_gi, wo_si, wo_u2], by simpa [wo_gi, wo_si, wo_u2] using k2, by simpa [wo_gi, wo_si, wo_u2] using k3, by simpa [wo_gi, wo_si, wo_u2] using k4, fun _ => by simp [wo_gi, wo_si, wo_u2]⟩
theorem rd_f456 (h : rd_f G x pt hd ln ch lf) {l : Nat} : rd_f (wo_si G 456 x (nI l)) x pt hd ln ch l := by
  obtain ⟨k1, k2, k3, k4, k5⟩ := h
  exact ⟨by simpa [wo_gi, wo_si, wo_u2] using k1, by simpa [wo_gi, wo_si, wo_u2] using k2, by simpa [wo_gi, wo_si, wo_u2] using k3, by simpa [wo_gi, wo_si, wo_u2] using k4, fun _ => by simp [wo_gi, wo_si, wo_u2]⟩
theorem rd_f453 (h : rd_f G x pt hd ln ch lf) {n : Nat} : rd_f (wo_si G 453 x (nI n)) x pt n ln ch lf := by
  obtain ⟨k1, k2, k3, k4, k5⟩ := h
  exact ⟨by simpa [wo_gi, wo_si, wo_u2] using k1, by simp [wo_gi, wo_si, wo_u2], by simpa [wo_gi, wo_si, wo_u2] using k3, by simpa [wo_gi, wo_si, wo_u2] using k4, fun w => by simpa [wo_gi, wo_si, wo_u2] using k5 w⟩
theorem rd_f454 (h : rd_f G x pt hd ln ch lf) {o : Option Nat} : rd_f (wo_si G 454 x (wh_I o)) x pt hd o ch lf := by
  obtain ⟨k1, k2, k3, k4, k5⟩ := h
  exact ⟨by simpa [wo_gi, wo_si, wo_u2] using k1, by simpa [wo_gi, wo_si, wo_u2] using k2, by simp [wo_gi, wo_si, wo_u2], by simpa [wo_gi, wo_si, wo_u2] using k4, fun w => by simpa [wo_gi, wo_si, wo_u2] using k5 w⟩
theorem rd_f455 (h : rd_f G x pt hd ln ch lf) {b : Bool} : rd_f (wo_si G 455 x (bo_I b)) x pt hd ln b lf := by
  obtain ⟨k1, k2, k3, k4, k5⟩ := h
  exact ⟨by simpa [wo_gi, wo_si, wo_u2] using k1, by simpa [wo_gi, wo_si, wo_u2] using k2, by simpa [wo_gi, wo_si, wo_u2] using k3, by simp [wo_gi, wo_si, wo_u2], fun w => by simpa [wo_gi, wo_si, wo_u2] using k5 w⟩
theorem sp_takeBody {Post : Int32 → wo_W → Prop} {b : Nat} (c : cx E ow G) (hQ : 0 < Q ∧ Q < B) (h : rd_k E ow B Q G x a1 a2 a3 p (pt, hd, ln, ch, lf, li, bo, m, pa, vs)) (hpt : pt = 2 ∨ pt = 4) (hlf : 0 < lf) (hbo : bo.length + lf ≤ 8) (hb : b < 256) (h1 : 1 ≤ mc) (h2 : 20 ≤ ms)
    (hp : ∀ ow' G', xt E (Rrd B Q) ow G ow' G' → rd_k E ow' B Q G' x a1 a2 a3 p (rd_step (pt, hd, ln, ch, lf, li, bo, m, pa, vs) b).2 → Post (nI (rd_step (pt, hd, ln, ch, lf, li, bo, m, pa, vs) b).1) G') : pq_Rd_takeBody E mc ms Post G x (nI b) := by
  have es : rd_step (pt, hd, ln, ch, lf, li, bo, m, pa, vs) b = (if 1 < lf then 0 else if pt = 2 then 1 else 0, (if 1 < lf then pt else if pt = 2 then 2 else 5, hd, ln, ch, lf - 1, li, bo ++ [b], m, pa, vs)) := by
    show (if pt = 2 ∨ pt = 4 then _ else _) = _
    rw [if_pos hpt]
  rw [es] at hp
  have h' := h
  obtain ⟨k1, k2, k3, k4, k5, k6, k7, k8, k9, k10, ⟨t, k11⟩, k12⟩ := h'
  unfold pq_Rd_takeBody pq_Rd_takeBody_0
  refine ⟨k1, fun r hr => ⟨a2, hr.trans k5, k10.ty, 1, 20, by omega, by omega, ?_⟩⟩
  rw [wo_c256 hb]
  refine bs_C c k10 hb (by omega) (by omega) (by omega) (fun ow1 G1 y1 b1 => ?_)
  have c1 := c.xt y1 (by omega)
  have zx : wo_ty G x ≠ 0 := by rw [k1]; decide
  have e1 := y1.eq zx (by rw [k3]; omega)
  have h1 : rd_k E ow1 B Q G1 x a1 a2 a3 p (pt, hd, ln, ch, lf, li, bo ++ [b], m, pa, vs) := ⟨e1.1.trans k1, k2, (y1.w zx).trans k3, (e1.2.2.2.2.1 _).trans k4, (e1.2.2.2.2.1 _).trans k5, (e1.2.2.2.2.1 _).trans k6, (e1.2.2.2.2.1 _).trans k7, k8.eq e1, k9.xt y1 (by omega), b1, ⟨t, k11.xt y1 (by omega)⟩, k12.xt y1 (by omega) (by omega)⟩
  have y1' : xt E (Rrd B Q) ow G ow1 G1 := y1.mn (fun r e => Or.inl (by omega))
  have f1 : rd_f G1 x pt hd ln ch lf := k8.eq e1
  refine ⟨h1.1, k2, fun G2 e2 => ?_⟩
  have l1 : wo_gi G1 456 x = nI lf := f1.2.2.2.2 hpt
  rw [l1, nI_pm hlf] at e2
  obtain ⟨y2, h2⟩ := rdk_si c1 hQ h1 (rd_f456 f1 (l := lf - 1))
  rw [← e2] at y2 h2
  have c2 := c1.xt y2 (by rintro (⟨_, _⟩ | _) <;> omega)
  have f2 := h2.2.2.2.2.2.2.2.1
  have l2 : wo_gi G2 456 x = nI (lf - 1) := f2.2.2.2.2 hpt
  have p2 := f2.1
  rw [l2, p2]
  refine ⟨fun w => ?_, fun w => ?_⟩
  · have z : ¬ 1 < lf := fun z => nI_nle (n := lf - 1) (by omega) (by omega) w
    rw [if_neg z, if_neg z] at hp
    refine ⟨fun w2 => ⟨k2, fun G3 e3 => ?_⟩, fun w2 => ?_⟩
    · have n2 : ¬ pt = 2 := fun e => w2 (by rw [e]; rfl)
      rw [if_neg n2, if_neg n2] at hp
      obtain ⟨y3, h3⟩ := rdk_si c2 hQ h2 (rd_f452 f2 (n := 5) (l2 := lf - 1) (by omega))
      rw [show (5 : Int32) = nI 5 from rfl] at e3
      rw [← e3] at y3 h3
      exact hp ow1 G3 ((y1'.tr y2).tr y3) h3
    · have n2 : pt = 2 := (nI_eq (b := 2) (by omega) (by decide)).mp w2
      rw [if_pos n2, if_pos n2] at hp
      rw [n2] at h2
      exact hp ow1 G2 (y1'.tr y2) h2
  · have z : 1 < lf := by
      apply Nat.lt_of_not_le
      intro z
      exact w (by rw [show lf - 1 = 0 by omega]; decide)
    rw [if_pos z, if_pos z] at hp
    exact hp ow1 G2 (y1'.tr y2) h2
end SP
