def ow_b (E : wo_E) (ow : Nat → Nat) (G : wo_W) : Prop := ∀ a, ow a ≠ 0 → en_bs E ≤ a ∧ wo_ty G a ≠ 0
def xt (E : wo_E) (R : Nat → Prop) (ow : Nat → Nat) (G : wo_W) (ow' : Nat → Nat) (G' : wo_W) : Prop := fr_W (fun a => R (ow a)) G G' ∧ (∀ a, wo_ty G a ≠ 0 → ow' a = ow a) ∧ ow_b E ow' G'
def cx (E : wo_E) (ow : Nat → Nat) (G : wo_W) : Prop := kx_ok E G ∧ ow_b E ow G
def im (ow : Nat → Nat) : Nat → Prop := fun x => ow x = 0
def ow_ex (ow : Nat → Nat) (G : wo_W) (r : Nat) (L : List Nat) : Nat → Nat := fun x => if wo_ty G x = 0 then (if x ∈ L then r else 0) else ow x
theorem ow_exb {E : wo_E} {ow : Nat → Nat} {G G1 : wo_W} {r : Nat} {L : List Nat} (h : ow_b E ow G) (k : ∀ a, wo_ty G a ≠ 0 → wo_ty G1 a = wo_ty G a) (hL : ∀ x ∈ L, wo_ty G x = 0 → en_bs E ≤ x ∧ wo_ty G1 x ≠ 0) : ow_b E (ow_ex ow G r L) G1 := by
  intro a ha
  unfold ow_ex at ha
  by_cases z : wo_ty G a = 0
  · rw [if_pos z] at ha
    by_cases w : a ∈ L
    · exact hL a w z
    · rw [if_neg w] at ha; exact absurd rfl ha
  · rw [if_neg z] at ha
    exact ⟨(h a ha).1, by rw [k a z]; exact z⟩
theorem ow_b.k {E : wo_E} {ow : Nat → Nat} {G G1 : wo_W} (h : ow_b E ow G) (k : ∀ a, wo_ty G a ≠ 0 → wo_ty G1 a = wo_ty G a) : ow_b E ow G1 := fun a ha => ⟨(h a ha).1, by rw [k a (h a ha).2]; exact (h a ha).2⟩
theorem ow_b.z {E : wo_E} {ow : Nat → Nat} {G : wo_W} (h : ow_b E ow G) {a : Nat} (ha : wo_ty G a = 0) : ow a = 0 := Classical.byContradiction fun q => (h a q).2 ha
theorem ow_old {ow : Nat → Nat} {G : wo_W} {r a : Nat} {L : List Nat} (h : wo_ty G a ≠ 0) : ow_ex ow G r L a = ow a := if_neg h
theorem ow_new {ow : Nat → Nat} {G : wo_W} {r a : Nat} {L : List Nat} (h : wo_ty G a = 0) (hL : a ∈ L) : ow_ex ow G r L a = r := by
  unfold ow_ex
  rw [if_pos h, if_pos hL]
theorem ow_non {ow : Nat → Nat} {G : wo_W} {r a : Nat} {L : List Nat} (h : wo_ty G a = 0) (hL : a ∉ L) : ow_ex ow G r L a = 0 := by
  unfold ow_ex
  rw [if_pos h, if_neg hL]
section XT
variable {E : wo_E} {R S : Nat → Prop} {ow ow1 ow2 : Nat → Nat} {G G1 G2 : wo_W}
theorem xt.rf (h : ow_b E ow G) : xt E R ow G ow G := ⟨fr_rf _ _, fun _ _ => rfl, h⟩
theorem xt.of (h : ow_b E ow G) (f : fr_W (fun a => R (ow a)) G G1) : xt E R ow G ow G1 := ⟨f, fun _ _ => rfl, h.k f.1⟩
theorem xt.ex {r : Nat} {L : List Nat} (h : ow_b E ow G) (hL : ∀ x ∈ L, wo_ty G x = 0 → en_bs E ≤ x ∧ wo_ty G1 x ≠ 0) (f : fr_W (fun a => R (ow a)) G G1) : xt E R ow G (ow_ex ow G r L) G1 := ⟨f, fun _ ha => ow_old ha, ow_exb h f.1 hL⟩
theorem xt.tr (h : xt E R ow G ow1 G1) (h2 : xt E R ow1 G1 ow2 G2) : xt E R ow G ow2 G2 := by
  obtain ⟨a1, a2, a3⟩ := h
  obtain ⟨b1, b2, b3⟩ := h2
  have nz : ∀ a, wo_ty G a ≠ 0 → wo_ty G1 a ≠ 0 := fun a ha => by rw [a1.1 a ha]; exact ha
  refine ⟨⟨ky_tr a1.1 b1.1, fun a ha hr => (a1.2 a ha hr).tr (b1.2 a (nz a ha) ?_)⟩, fun a ha => (b2 a (nz a ha)).trans (a2 a ha), b3⟩
  show ¬ R (ow1 a)
  rw [a2 a ha]
  exact hr
theorem xt.mn (h : xt E R ow G ow1 G1) (hs : ∀ a, R a → S a) : xt E S ow G ow1 G1 := ⟨fr_mn (fun a _ q => hs _ q) h.1, h.2⟩
theorem xt.nz (h : xt E R ow G ow1 G1) {a : Nat} (ha : wo_ty G a ≠ 0) : wo_ty G1 a ≠ 0 := by rw [h.1.1 a ha]; exact ha
theorem xt.ty (h : xt E R ow G ow1 G1) {a : Nat} (ha : wo_ty G a ≠ 0) : wo_ty G1 a = wo_ty G a := h.1.1 a ha
theorem xt.eq (h : xt E R ow G ow1 G1) {a : Nat} (ha : wo_ty G a ≠ 0) (hr : ¬ R (ow a)) : wo_eq G G1 a := h.1.2 a ha hr
theorem xt.w (h : xt E R ow G ow1 G1) {a : Nat} (ha : wo_ty G a ≠ 0) : ow1 a = ow a := h.2.1 a ha
theorem cx.xt (h : cx E ow G) (x : xt E R ow G ow1 G1) (h0 : ¬ R 0) : cx E ow1 G1 := ⟨h.1.fr x.1 (fun a q => (h.2 a (fun z => h0 (by rw [← z]; exact q))).1), x.2.2⟩
theorem im_W (h0 : ¬ R 0) : ∀ a, R (ow a) → ¬ im ow a := fun a q z => h0 (by rw [← show ow a = 0 from z]; exact q)
theorem tx_i.bt {im : Nat → Prop} {q : Nat} {t : List Nat} (h : tx_i im G q t) {x : Nat} (hx : wo_gr G 576 q = some x) : wo_ty G x ≠ 0 := by
  obtain ⟨⟨_, _, _, _, b, hb, hB⟩, _, _⟩ := h
  rw [hx] at hb
  cases hb
  rw [hB.1]
  decide
theorem tx_i.nz {im : Nat → Prop} {q : Nat} {t : List Nat} (h : tx_i im G q t) : wo_ty G q ≠ 0 := by rw [h.1.1]; decide
theorem tx_i.xt {q : Nat} {t : List Nat} (h : tx_i (im ow) G q t) (x : xt E R ow G ow1 G1) (h0 : ¬ R 0) : tx_i (im ow1) G1 q t := by
  have g := h.fr x.1 (im_W h0)
  have e := (x.eq h.nz (fun z => h0 (by rw [← show ow q = 0 from h.2.1]; exact z))).2.2.2.2.1 576
  refine ⟨g.1, (x.w h.nz).trans h.2.1, fun b hb => ?_⟩
  rw [e] at hb
  exact (x.w (h.bt hb)).trans (h.2.2 b hb)
theorem tx_oi.xt {r : Option Nat} {o : Option (List Nat)} (h : tx_oi (im ow) G r o) (x : xt E R ow G ow1 G1) (h0 : ¬ R 0) : tx_oi (im ow1) G1 r o := by
  cases r with
  | none => cases o with
    | none => exact h
    | some t => exact h
  | some q => cases o with
    | none => exact h
    | some t => exact ⟨h.1.xt x h0, h.2⟩
theorem rp_at.xt {p l g : Nat} {bd po : List Nat} {vr : Bool} (h : rp_at (im ow) G p l bd g po vr) (x : xt E R ow G ow1 G1) (h0 : ¬ R 0) : rp_at (im ow1) G1 p l bd g po vr := by
  obtain ⟨h1, h2, h3, h4, ⟨q, h5, h6, h7⟩, h8, h9, ⟨q2, j1, j2, j3⟩, j4⟩ := h
  have nz : wo_ty G p ≠ 0 := by rw [h1]; decide
  have e := x.eq nz (fun z => h0 (by rw [← show ow p = 0 from h2]; exact z))
  exact ⟨e.1.trans h1, (x.w nz).trans h2, (e.2.2.1 _).trans h3, h4, ⟨q, (e.2.2.2.2.1 _).trans h5, h6.xt x h0, h7⟩, (e.2.2.1 _).trans h8, h9, ⟨q2, (e.2.2.2.2.1 _).trans j1, j2.xt x h0, j3⟩, (e.2.2.1 _).trans j4⟩
theorem rq_at.xt {p : Nat} {m : Option Nat} {pa bd : List Nat} {vs : Nat → Option (List Nat)} (h : rq_at (im ow) G p m pa bd vs) (x : xt E R ow G ow1 G1) (h0 : ¬ R 0) (hp : ¬ R (ow p)) : rq_at (im ow1) G1 p m pa bd vs := by
  obtain ⟨h1, h2, h3, ⟨q, h4, h5⟩, ⟨q2, h6, h7, h8⟩, h9⟩ := h
  have e := x.eq (by rw [h1]; decide) hp
  exact ⟨e.1.trans h1, (e.2.2.1 _).trans h2, h3, ⟨q, (e.2.2.2.2.1 _).trans h4, h5.xt x h0⟩, ⟨q2, (e.2.2.2.2.1 _).trans h6, h7.xt x h0, h8⟩, fun i hi => by rw [e.2.2.2.2.1]; exact (h9 i hi).xt x h0⟩
end XT
def sh_st (E : wo_E) (ow : Nat → Nat) (G : wo_W) (z : Nat) : Prop := ∃ a v f l ps, sh_b E G v z a ∧ pc_at E G z f l ps ∧ ∀ x, sh_W z a v f l x → ow x = 6
abbrev R6 : Nat → Prop := fun r => r = 6
section SH
variable {E : wo_E} {R : Nat → Prop} {ow ow1 : Nat → Nat} {G G0 G1 : wo_W} {mc ms z : Nat}
theorem sh_nz {a v f l : Nat} {ps : List (Nat × Nat)} (h : sh_b E G v z a) (p : pc_at E G z f l ps) : ∀ x, sh_W z a v f l x → wo_ty G x ≠ 0 ∧ en_bs E ≤ x := by
  obtain ⟨⟨t0, k, _⟩, hz, hza, _⟩ := h
  intro x hx
  rcases hx with q | q
  · rcases q with q | q
    · rw [q, k.1]; exact ⟨by decide, k.2.1⟩
    · rw [q, k.2.2.2.2.2.1.1]; exact ⟨by decide, k.2.2.2.2.2.2.1⟩
  · obtain ⟨w1, w2⟩ := pc_k p q
    exact ⟨by omega, w2⟩
theorem sh_st.xt (h : sh_st E ow G z) (c : cx E ow G) (x : xt E R ow G ow1 G1) (h0 : ¬ R 0) (h6 : ¬ R 6) : sh_st E ow1 G1 z := by
  obtain ⟨a, v, f, l, ps, hb, pc, hw⟩ := h
  have nz := sh_nz hb pc
  have eq : ∀ y, sh_W z a v f l y → wo_eq G G1 y := fun y hy => x.eq (nz y hy).1 (by rw [hw y hy]; exact h6)
  have ez := eq z (Or.inr (Or.inl rfl))
  obtain ⟨⟨t0, k, kl⟩, hz, hza, _⟩ := hb
  exact ⟨a, v, f, l, ps, ⟨⟨t0, k.eq (eq a (Or.inl (Or.inl rfl))) (eq v (Or.inl (Or.inr rfl))), kl⟩, ez.1.trans hz, (ez.2.2.2.2.1 _).trans hza, (c.xt x h0).1⟩, pc.eq ez (eq f (Or.inr (Or.inr (Or.inl rfl)))) (eq l (Or.inr (Or.inr (Or.inr rfl)))), fun y hy => (x.w (nz y hy).1).trans (hw y hy)⟩
theorem xs_fin {a v f l : Nat} {ps : List (Nat × Nat)} (c : cx E ow G0) (hb : sh_b E G0 v z a) (pc : pc_at E G0 z f l ps) (hw : ∀ x, sh_W z a v f l x → ow x = 6) (r : sh_r E G0 z a v f l G) : ∃ ow', xt E R6 ow G0 ow' G ∧ sh_st E ow' G z ∧ ∀ q t, tx_new E G0 a G q t → tx_i (im ow') G q t := by
  have nz := sh_nz hb pc
  obtain ⟨⟨w, t, k, kl, kw⟩, ⟨ps', pc'⟩, hza, fr⟩ := r
  have hx : xt E R6 ow G0 (ow_ex ow G0 6 [w]) G := by
    refine xt.ex c.2 (fun x hx _ => ?_) (fr_mn (fun x _ q => hw x q) fr)
    rw [List.mem_singleton.mp hx]
    exact ⟨k.2.2.2.2.2.2.1, by rw [k.2.2.2.2.2.1.1]; decide⟩
  have w6 : ow_ex ow G0 6 [w] w = 6 := by
    rcases kw with kw | kw
    · rw [kw, ow_old (nz v (Or.inl (Or.inr rfl))).1]; exact hw v (Or.inl (Or.inr rfl))
    · exact ow_new kw (List.mem_singleton.mpr rfl)
  refine ⟨_, hx, ⟨a, w, f, l, ps', ⟨⟨t, k, kl⟩, pc'.1, hza, (c.xt hx (by decide)).1⟩, pc', fun x hx2 => ?_⟩, fun q t tn => ?_⟩
  · rcases hx2 with q | q
    · rcases q with q | q
      · rw [q, hx.w (nz a (Or.inl (Or.inl rfl))).1]; exact hw a (Or.inl (Or.inl rfl))
      · rw [q]; exact w6
    · rw [hx.w (nz x (Or.inr q)).1]; exact hw x (Or.inr q)
  · obtain ⟨t1, t2, t3, t4⟩ := tn
    have hq : q ≠ w := by
      intro y
      have := t3.1
      rw [y, k.2.2.2.2.2.1.1] at this
      cases this
    exact ⟨t3, ow_non t1 (fun y => hq (List.mem_singleton.mp y)), fun x hx2 => ow_non (t4 x hx2).1 (fun y => (t4 x hx2).2.2 w k.2.2.2.2.1 (List.mem_singleton.mp y))⟩
theorem xs_bare {Post : Option Nat → wo_W → Prop} {m g : Nat} (c : cx E ow G) (h : sh_st E ow G z) (hm : m < 2 ^ 31) (hg : g < 2 ^ 31) (h1 : 14 ≤ mc) (h2 : 2500 ≤ ms) (hp : ∀ q ow' G', xt E R6 ow G ow' G' → sh_st E ow' G' z → tx_i (im ow') G' q (ba_of m g) → Post (some q) G') : pq_Sh_bare E mc ms Post G z (nI m) (nI g) := by
  obtain ⟨a, v, f, l, ps, hb, pc, hw⟩ := h
  have bl := ba_len hm hg
  refine sp_bare hb hm hg h1 h2 (fun q G' tn ev => ?_)
  obtain ⟨ow', r1, r2, r3⟩ := xs_fin c hb pc hw (sh_fin (q := 0) hb pc (fr_rf _ _) ev (by omega))
  exact hp q ow' G' r1 r2 (r3 _ _ tn)
theorem xs_sizeOf {Post : Int32 → wo_W → Prop} {p l g : Nat} {bd po : List Nat} {vr : Bool} (c : cx E ow G) (h : sh_st E ow G z) (hr : rp_at (im ow) G p l bd g po vr) (h1 : 27 ≤ mc) (h2 : 5500 ≤ ms) (hp : ∀ ow' G', xt E R6 ow G ow' G' → sh_st E ow' G' z → Post (nI (hl_of l g bd po vr none true).length) G') : pq_Sh_sizeOf E mc ms Post G z (some p) := by
  obtain ⟨a, v, f, l', ps, hb, pc, hw⟩ := h
  have ni : ∀ x, sh_W z a v f l' x → ¬ im ow x := fun x hx q => by
    have := hw x hx
    rw [show ow x = 0 from q] at this
    cases this
  have hr' := hr
  obtain ⟨r1, r2, r3, r4, ⟨s1, r5, r6, r7⟩, r8, r9, ⟨s2, j1, j2, j3⟩, j4⟩ := hr'
  refine sp_sizeOf hb hr (ni a (Or.inl (Or.inl rfl))) (ni v (Or.inl (Or.inr rfl))) h1 h2 (fun G' ev => ?_)
  have hl : (hl_of l g bd po vr none true).length ≤ 120 := by
    have := ds_len (m := 200) (l := l) (vr := vr) (ag := none) (by decide) r9 (fun _ q => (by cases q)) j3
    have := nl_len (x := 76) (m := bd.length) (by omega)
    unfold hl_of
    simp only [List.length_append]
    have : [10].length = 1 := rfl
    simp
    omega
  obtain ⟨ow', r1, r2, r3⟩ := xs_fin c hb pc hw (sh_fin (q := 0) hb pc (fr_rf _ _) ev (by omega))
  exact hp ow' G' r1 r2
theorem xs_select {Post : Option Nat → wo_W → Prop} {p p2 lt g : Nat} {m : Option Nat} {pa b2 bd : List Nat} {vs : Nat → Option (List Nat)} {po : List Nat} {vr : Bool} {ag : Option Nat} (c : cx E ow G) (h : sh_st E ow G z) (hr : rp_at (im ow) G p lt bd g po vr) (hq : rq_at (im ow) G p2 m pa b2 vs) (hn : ow p2 ≠ 6) (hag : ∀ n, ag = some n → n < 2 ^ 31) (h1 : 60 ≤ mc) (h2 : 10000 ≤ ms)
    (hp : ∀ q ow' G', xt E R6 ow G ow' G' → sh_st E ow' G' z → tx_i (im ow') G' q (sl_of m vs lt g bd po vr ag) → Post (some q) G') : pq_Sh_select E mc ms Post G z (some p) (some p2) (wh_I ag) := by
  obtain ⟨a, v, f, l', ps, hb, pc, hw⟩ := h
  have ni : ∀ x, sh_W z a v f l' x → ¬ im ow x := fun x hx q => by
    have := hw x hx
    rw [show ow x = 0 from q] at this
    cases this
  refine sp_select hb pc hr hq (fun y => hn (hw p2 y)) ni hag h1 h2 (fun q G' tn sr => ?_)
  obtain ⟨ow', r1, r2, r3⟩ := xs_fin c hb pc hw sr
  exact hp q ow' G' r1 r2 (r3 _ _ tn)
end SH
