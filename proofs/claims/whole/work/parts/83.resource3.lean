abbrev R4 : Nat → Prop := fun r => r = 4
def up_of (po : List Nat) (vr : Bool) : Option rpT → Option rpT
  | none => none
  | some r => some (r.1, r.2.1, r.2.2.1, po, vr)
def cb_of (bt : Nat → Option (List Nat × Nat)) : Nat := (if (bt 0).isSome then 1 else 0) + ((if (bt 1).isSome then 1 else 0) + ((if (bt 2).isSome then 1 else 0) + 0))
def ex_of (po : List Nat) (bt : Nat → Option (List Nat × Nat)) (i : Nat) : Option rpT := (bt i).map (fun q => (97 + i, q.1, q.2, po, decide (1 < cb_of bt)))
def bu_of (bt : Nat → Option (List Nat × Nat)) (i : Nat) (q : List Nat × Nat) : Nat → Option (List Nat × Nat) := fun j => if j = i then some q else bt j
theorem rs_at.cg {E : wo_E} {im : Nat → Prop} {G : wo_W} {p A : Nat} {pa : List Nat} {fs fs' : Nat → Option rpT} (h : rs_at E im G p pa A fs) (e : ∀ i, i < 3 → fs i = fs' i) : rs_at E im G p pa A fs' := by
  obtain ⟨h1, h2, h3, h4, h5, h6, h7, h8⟩ := h
  exact ⟨h1, h2, h3, h4, h5, h6, h7, fun i hi => by rw [← e i hi]; exact h8 i hi⟩
section SP
variable {E : wo_E} {mc ms : Nat} {G : wo_W} {p A : Nat} {pa t : List Nat} {fs : Nat → Option rpT} {ow : Nat → Nat}
theorem sp_rpInit {Post : wo_W → Prop} {q l g b d : Nat} {bd po : List Nat} {vr : Bool} {im : Nat → Prop} (hq : wo_ty G q = 0) (hb : en_bs E ≤ q) (hi : im q) (hl : l < 256) (h1 : tx_i im G b bd) (h2 : bd.length ≤ 8) (h3 : tx_i im G d po) (h4 : po.length ≤ 8) (hg : g < 2 ^ 31)
    (hp : ∀ G', fr_W fr_0 G G' → rp_at im G' q l bd g po vr → wo_ty G' q = 13 → Post G') : pq_Rp_init E mc ms Post (wo_new G q 13) q (nI l) (some b) (nI g) (some d) (bo_I vr) := by
  unfold pq_Rp_init pq_Rp_init_0
  refine ⟨by simp [wo_ty, wo_new, wo_u1], hb, tx_okc (by omega), fun G1 e1 => ⟨hb, fun G2 e2 => ⟨hb, fun G3 e3 => ⟨hb, fun G4 e4 => ⟨hb, bo_ok vr, fun G5 e5 => ?_⟩⟩⟩⟩⟩
  have f : fr_W (fun x => x = q) G G5 := by
    rw [e5, e4, e3, e2, e1]
    exact fr_tr (fr_tr (fr_tr (fr_tr (fr_tr (fr_new hq) (fr_si rfl)) (fr_sr rfl)) (fr_si rfl)) (fr_sr rfl)) (fr_si rfl)
  have f0 : fr_W fr_0 G G5 := fr_mn (fun a ha e => ha (by rw [e]; exact hq)) f
  have ty : wo_ty G5 q = 13 := by rw [e5, e4, e3, e2, e1]; simp [wo_ty, wo_new, wo_si, wo_sr, wo_u1]
  have n0 : ∀ x, fr_0 x → ¬ im x := fun x z => False.elim z
  refine hp G5 f0 ⟨ty, hi, ?_, hl, ⟨b, ?_, h1.fr f0 n0, h2⟩, ?_, hg, ⟨d, ?_, h3.fr f0 n0, h4⟩, ?_⟩ ty
  · rw [e5, e4, e3, e2, e1]; simp [wo_gi, wo_si, wo_sr, wo_u2]
  · rw [e5, e4, e3, e2, e1]; simp [wo_gr, wo_si, wo_sr, wo_u2]
  · rw [e5, e4, e3, e2, e1]; simp [wo_gi, wo_si, wo_sr, wo_u2]
  · rw [e5, e4, e3, e2, e1]; simp [wo_gr, wo_si, wo_sr, wo_u2]
  · rw [e5, e4, e3, e2, e1]; simp [wo_gi, wo_si, wo_sr, wo_u2]
theorem rs_put {i q : Nat} {r : rpT} (h : rs_at E (im ow) G p pa A fs) (hA : ow A = 4) (hi : i < 3) (hr : rp_A (im ow) G q r) : fr_W (fun x => x = A) G (wo_ser G A i (some q)) ∧ rs_at E (im ow) (wo_ser G A i (some q)) p pa A (fun j => if j = i then some r else fs j) := by
  have f : fr_W (fun x => x = A) G (wo_ser G A i (some q)) := fr_ser rfl
  have hW : ∀ x, x = A → ¬ im ow x := fun x e z => by
    have z2 : ow x = 0 := z
    rw [e, hA] at z2
    cases z2
  obtain ⟨h1, h2, ⟨s, h3, h4⟩, h5, h6, h7, h8, h9⟩ := h
  have hpA : p ≠ A := fun e => by rw [e, h6] at h1; cases h1
  have ep := f.2 p (by rw [h1]; decide) hpA
  refine ⟨f, ep.1.trans h1, h2, ⟨s, (ep.2.2.2.2.1 _).trans h3, h4.fr f hW⟩, (ep.2.2.2.2.1 _).trans h5, h6, h7, h8, fun j hj => ?_⟩
  have ej : wo_er (wo_ser G A i (some q)) A j = if j = i then some q else wo_er G A j := by simp [wo_er, wo_ser, wo_u2]
  rw [ej]
  by_cases z : j = i
  · rw [if_pos z]
    show rp_O _ _ _ (if j = i then some r else fs j)
    rw [if_pos z]
    exact rp_at.fr hr f hW
  · rw [if_neg z]
    show rp_O _ _ _ (if j = i then some r else fs j)
    rw [if_neg z]
    have k := h9 j hj
    cases e1 : wo_er G A j with
    | none => rw [e1] at k; rw [k.none rfl]; trivial
    | some x =>
      rw [e1] at k
      obtain ⟨t, e2, e3⟩ := k.some rfl
      rw [e2]
      exact rp_at.fr e3 f hW
theorem sp_setLoop {Post : wo_W → Prop} {d : Nat} {po : List Nat} {vr : Bool} : ∀ k i (fs : Nat → Option rpT) (G : wo_W) (c s : Nat), i + k = 3 → ow_b E ow G → rs_at E (im ow) G p pa A fs → ow A = 4 → tx_i (im ow) G d po → po.length ≤ 8 → c + k ≤ mc → s + 5 * k ≤ ms →
    (∀ G' fs', (∀ j, j < 3 → fs' j = if j < i then fs j else up_of po vr (fs j)) → rs_at E (im ow) G' p pa A fs' → xt E R4 ow G ow G' → Post G') → pq_Rs_set_51 E mc ms Post (k + 1) G c s p (some d) (bo_I vr) (nI i) := by
  intro k
  induction k with
  | zero =>
    intro i fs G c s hi hb h hA hd hpo hc hs hp
    unfold pq_Rs_set_51
    rw [show i = 3 by omega]
    exact ⟨fun _ => hp G fs (fun j hj => by rw [if_pos (by omega)]) h (xt.rf hb), fun q => absurd (by decide) q⟩
  | succ k ih =>
    intro i fs G c s hi hb h hA hd hpo hc hs hp
    obtain ⟨k1, k2, k3, k4, k5⟩ := h.el (i := i) (by omega)
    unfold pq_Rs_set_51 pq_Rs_set_104
    refine ⟨fun q => absurd q (nI_lit3 (by omega)), fun _ => ⟨k1, fun r hr => ⟨A, k2 r hr, k3, k4, fun r hr => ⟨fun z => ?_, fun x hx r2 hr2 => ⟨by omega, by omega, fun q hq hqb G1 e1 => ?_⟩⟩⟩⟩⟩
    · have hn := (k5 r hr).none z
      rw [nI_1]
      refine ih (i + 1) fs G c s (by omega) hb h hA hd hpo (by omega) (by omega) (fun G' fs' h1 h2 h3 => hp G' fs' (fun j hj => ?_) h2 h3)
      rw [h1 j hj]
      by_cases z : j < i
      · rw [if_pos z, if_pos (by omega)]
      · rw [if_neg z]
        by_cases w : j = i
        · rw [if_pos (by omega), w, hn]; rfl
        · rw [if_neg (by omega)]
    · obtain ⟨v, e2, e3⟩ := (k5 r hr).some hx
      have e3' := e3
      obtain ⟨g1, g2, g3, g4, ⟨q1, g5, g6, g7⟩, g8, g9, ⟨q2, j1, j2, j3⟩, j4⟩ := e3'
      have xq : x ≠ q := fun e => by rw [e, hq] at g1; cases g1
      have ex := wo_eq_new (G := G) (k := 13) xq
      rw [e1]
      refine ⟨ex.1.trans g1, fun r3 hr3 => ⟨0, 0, by omega, by omega, ?_⟩⟩
      rw [hr3, (ex.2.2.2.2.1 769), g5, ex.2.2.1 768, ex.2.2.1 770, g3, g8]
      refine sp_rpInit hq hqb (hb.z hq) g4 g6 g7 hd hpo g9 (fun G2 f2 rp ty => ?_)
      have x2 : xt E R4 ow G ow G2 := xt.of hb (fr_mn (fun a _ z => False.elim z) f2)
      have h2 := h.xt (R := fun _ => False) (xt.of hb (fr_mn (fun a _ z => False.elim z) f2)) (fun z => z) (fun z => z)
      obtain ⟨m1, m2, m3, m4, m5⟩ := h2.el (i := i) (by omega)
      refine ⟨A, k2 r2 hr2, m3, m4, h2.2.2.2.2.2.2.1, fun a ha => (by cases ha; exact ⟨12, ty, by decide⟩), fun G3 e4 => ?_⟩
      rw [nI_clamp (by omega)] at e4
      obtain ⟨f3, h3⟩ := rs_put (r := (v.1, v.2.1, v.2.2.1, po, vr)) h2 hA (show i < 3 by omega) rp
      rw [← e4] at f3 h3
      have x3 : xt E R4 ow G2 ow G3 := xt.of x2.2.2 (fr_mn (fun a _ z => by show ow a = 4; rw [z]; exact hA) f3)
      have x13 := x2.tr x3
      rw [nI_1]
      refine ih (i + 1) _ G3 _ _ (by omega) x13.2.2 h3 hA ((hd.xt x13 (by decide))) hpo (by omega) (by omega) (fun G' fs' u1 u2 u3 => hp G' fs' (fun j hj => ?_) u2 (x13.tr u3))
      rw [u1 j hj]
      show (if j < i + 1 then (if j = i then some (v.1, v.2.1, v.2.2.1, po, vr) else fs j) else up_of po vr (if j = i then some (v.1, v.2.1, v.2.2.1, po, vr) else fs j)) = _
      by_cases z : j < i
      · rw [if_pos z, if_pos (by omega), if_neg (by omega)]
      · rw [if_neg z]
        by_cases w : j = i
        · rw [if_pos (by omega), if_pos w, w, e2]; rfl
        · rw [if_neg (by omega), if_neg w]
theorem sp_set {Post : wo_W → Prop} {d b i g : Nat} {po bd po0 : List Nat} {bt : Nat → Option (List Nat × Nat)} (hb : ow_b E ow G) (h : rs_at E (im ow) G p pa A (ex_of po0 bt)) (hA : ow A = 4) (hi : i < 3) (h1 : tx_i (im ow) G b bd) (h2 : bd.length ≤ 8) (h3 : tx_i (im ow) G d po) (h4 : po.length ≤ 8) (hg : g < 2 ^ 31) (hc : 4 ≤ mc) (hs : 20 ≤ ms)
    (hp : ∀ G', rs_at E (im ow) G' p pa A (ex_of po (bu_of bt i (bd, g))) → xt E R4 ow G ow G' → Post G') : pq_Rs_set E mc ms Post G p (nI i) (some b) (nI g) (some d) := by
  obtain ⟨k1, k2, k3, k4, k5⟩ := h.el hi
  unfold pq_Rs_set pq_Rs_set_0
  refine ⟨fun q => absurd q (nI_pos (by omega)), fun _ => ⟨fun _ => ⟨k1, fun r hr => ⟨by omega, by omega, fun q hq hqb G1 e1 => ⟨0, 0, by omega, by omega, ?_⟩⟩⟩, fun q => absurd (nI_lt (b := 3) hi (by decide)) q⟩⟩
  rw [e1, show (97 : Int32) + nI i = nI (97 + i) from nI_add 97 i, wo_c256 (by omega)]
  refine sp_rpInit (vr := false) hq hqb (hb.z hq) (by omega) h1 h2 h3 h4 hg (fun G2 f2 rp ty => ?_)
  have x2 : xt E R4 ow G ow G2 := xt.of hb (fr_mn (fun a _ z => False.elim z) f2)
  have r2 := h.xt (R := fun _ => False) (xt.of hb (fr_mn (fun a _ z => False.elim z) f2)) (fun z => z) (fun z => z)
  obtain ⟨m1, m2, m3, m4, m5⟩ := r2.el (i := i) (by omega)
  refine ⟨A, k2 r hr, m3, m4, r2.2.2.2.2.2.2.1, fun a ha => (by cases ha; exact ⟨12, ty, by decide⟩), fun G3 e4 => ?_⟩
  rw [nI_clamp (by omega)] at e4
  obtain ⟨f3, r3⟩ := rs_put (r := (97 + i, bd, g, po, false)) r2 hA hi rp
  rw [← e4] at f3 r3
  have x3 : xt E R4 ow G2 ow G3 := xt.of x2.2.2 (fr_mn (fun a _ z => by show ow a = 4; rw [z]; exact hA) f3)
  have x13 := x2.tr x3
  have iS : ∀ j, j < 3 → (if j = i then some (97 + i, bd, g, po, false) else ex_of po0 bt j : Option rpT).isSome = (bu_of bt i (bd, g) j).isSome := by
    intro j _
    unfold bu_of ex_of
    by_cases z : j = i
    · rw [if_pos z, if_pos z]; rfl
    · rw [if_neg z, if_neg z]; cases bt j <;> rfl
  have hct : ct_of (fun j => if j = i then some (97 + i, bd, g, po, false) else ex_of po0 bt j) = cb_of (bu_of bt i (bd, g)) := by
    unfold ct_of ct_k ct_k ct_k ct_k cb_of
    rw [iS 0 (by decide), iS 1 (by decide), iS 2 (by decide)]
  refine ⟨r3.1, 0, 0, by omega, by omega, sp_letterCount r3 ?_⟩
  rw [hct]
  have hle : cb_of (bu_of bt i (bd, g)) ≤ 3 := by rw [← hct]; exact ct_le _ 3
  have fin : ∀ vr, vr = decide (1 < cb_of (bu_of bt i (bd, g))) → pq_Rs_set_46 E mc ms Post G3 (0 + 1 + 0 + 0) (0 + 5 + 0 + 0) p (some d) (bo_I vr) := by
    intro vr hvr
    unfold pq_Rs_set_46
    refine ⟨4, sp_setLoop 3 0 _ G3 _ _ rfl x13.2.2 r3 hA (h3.xt x13 (by decide)) h4 (by omega) (by omega) (fun G' fs' u1 u2 u3 => hp G' (u2.cg (fun j hj => ?_)) (x13.tr u3))⟩
    rw [u1 j hj, if_neg (Nat.not_lt_zero _)]
    unfold ex_of bu_of
    by_cases z : j = i
    · rw [if_pos z, if_pos z, hvr, z]; rfl
    · rw [if_neg z, if_neg z, hvr]
      cases bt j <;> rfl
  refine ⟨fun q => fin false (decide_eq_false (fun y => ?_)).symm, fun q => fin true (decide_eq_true ?_).symm⟩
  · exact nI_ge (b := cb_of (bu_of bt i (bd, g))) y (by omega) q
  · exact Nat.lt_of_not_le (fun y => q (nI_le (b := 1) y (by decide)))
end SP
