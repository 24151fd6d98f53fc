abbrev roT : Type := List Nat × List Nat × (Nat → Option (List Nat × Nat))
def ro_0 : roT := ([], [], fun _ => none)
def rs_v (E : wo_E) (ow : Nat → Nat) (G : wo_W) (p A : Nat) (r : roT) : Prop := rs_at E (im ow) G p r.1 A (ex_of r.2.1 r.2.2)
def li_at (E : wo_E) (ow : Nat → Nat) (r : Nat) (G : wo_W) (a v : Nat) (os : List Nat) : Prop := la_at E G a v os ∧ ow a = r ∧ (v = en_sta E 0 ∨ ow v = r)
def og_at (E : wo_E) (ow : Nat → Nat) (G : wo_W) (o : Nat) (rs : List roT) (g : Nat) : Prop := wo_ty G o = 2 ∧ en_bs E ≤ o ∧ ow o = 4 ∧ wo_gi G 65 o = nI g ∧ ∃ (li lv : Nat) (os As : List Nat), wo_gr G 64 o = some li ∧ li_at E ow 40 G li lv os ∧ os.length = rs.length ∧ As.length = rs.length ∧ As.Nodup ∧ ∀ i, i < rs.length → rs_v E ow G (os.getD i 0) (As.getD i 0) (rs.getD i ro_0) ∧ ow (As.getD i 0) = 4
def io_of (pa : List Nat) : List roT → Option Nat
  | [] => none
  | r :: l => if r.1 = pa then some 0 else (io_of pa l).map (fun i => i + 1)
def fb_2 (vs : Nat → Option (List Nat)) (o : Option Nat) : Bool := match vs 1, o with
  | some t, some g => mt_of t g
  | _, _ => false
def fb_of (vs : Nat → Option (List Nat)) (o : Option Nat) : Bool := match vs 0, o with
  | some _, none => true
  | some t, some g => if mt_of t g = true then fb_2 vs o else true
  | none, _ => fb_2 vs o
def rt_of (o : Option rpT) : Option Nat := o.map (fun r => r.2.2.1)
def jb_at (E : wo_E) (im : Nat → Prop) (G : wo_W) (j p cp sa st : Nat) (rp : Option rpT) (gt : Nat) (sp : Bool) : Prop := wo_ty G j = 11 ∧ en_bs E ≤ j ∧ wo_gr G 640 j = some p ∧ wo_gi G 641 j = nI cp ∧ wo_gi G 642 j = nI sa ∧ wo_gi G 643 j = nI st ∧ rp_O im G (wo_gr G 644 j) rp ∧ wo_gi G 645 j = nI gt ∧ wo_gi G 646 j = bo_I sp
theorem li_at.xt {E : wo_E} {R : Nat → Prop} {ow ow1 : Nat → Nat} {G G1 : wo_W} {r a v : Nat} {os : List Nat} (h : li_at E ow r G a v os) (c : cx E ow G) (x : xt E R ow G ow1 G1) (h0 : ¬ R 0) (hr : ¬ R r) : li_at E ow1 r G1 a v os := by
  obtain ⟨k, h2, h3⟩ := h
  have za : wo_ty G a ≠ 0 := by rw [k.1]; decide
  have zv : wo_ty G v ≠ 0 := by rw [k.2.2.2.2.1]; decide
  have wv : ¬ R (ow v) := by
    rcases h3 with q | q
    · have : ow v = 0 := by
        apply Classical.byContradiction
        intro y
        have := (c.2 v y).1
        have := c.1.2.2.1
        rw [q] at *
        omega
      rw [this]; exact h0
    · rw [q]; exact hr
  refine ⟨k.eq (x.eq za (by rw [h2]; exact hr)) (x.eq zv wv) (fun o ho => x.ty (k.2.2.2.2.2.2.2.2.2 o ho).nz), (x.w za).trans h2, h3.elim Or.inl (fun q => Or.inr ((x.w zv).trans q))⟩
theorem og_at.xt {E : wo_E} {R : Nat → Prop} {ow ow1 : Nat → Nat} {G G1 : wo_W} {o g : Nat} {rs : List roT} (h : og_at E ow G o rs g) (c : cx E ow G) (x : xt E R ow G ow1 G1) (h0 : ¬ R 0) (h4 : ¬ R 4) (h40 : ¬ R 40) : og_at E ow1 G1 o rs g := by
  obtain ⟨k1, k2, k3, k4, li, lv, os, As, k5, k6, k7, k8, k9, k10⟩ := h
  have zo : wo_ty G o ≠ 0 := by rw [k1]; decide
  have e := x.eq zo (by rw [k3]; exact h4)
  refine ⟨e.1.trans k1, k2, (x.w zo).trans k3, (e.2.2.1 _).trans k4, li, lv, os, As, (e.2.2.2.2.1 _).trans k5, k6.xt c x h0 h40, k7, k8, k9, fun i hi => ?_⟩
  obtain ⟨m1, m2⟩ := k10 i hi
  have zA : wo_ty G (As.getD i 0) ≠ 0 := by rw [m1.2.2.2.2.1]; decide
  exact ⟨rs_at.xt m1 x h0 (by rw [m2]; exact h4), (x.w zA).trans m2⟩
theorem jb_at.xt {E : wo_E} {R : Nat → Prop} {ow ow1 : Nat → Nat} {G G1 : wo_W} {j p cp sa st gt : Nat} {rp : Option rpT} {sp : Bool} (h : jb_at E (im ow) G j p cp sa st rp gt sp) (x : xt E R ow G ow1 G1) (h0 : ¬ R 0) (hj : ¬ R (ow j)) : jb_at E (im ow1) G1 j p cp sa st rp gt sp := by
  obtain ⟨h1, h2, h3, h4, h5, h6, h7, h8, h9⟩ := h
  have e := x.eq (by rw [h1]; decide) hj
  exact ⟨e.1.trans h1, h2, (e.2.2.2.2.1 _).trans h3, (e.2.2.1 _).trans h4, (e.2.2.1 _).trans h5, (e.2.2.1 _).trans h6, by rw [e.2.2.2.2.1]; exact h7.xt x h0, (e.2.2.1 _).trans h8, (e.2.2.1 _).trans h9⟩
theorem io_lt {pa : List Nat} : ∀ {rs : List roT} {i : Nat}, io_of pa rs = some i → i < rs.length := by
  intro rs
  induction rs with
  | nil => intro i h; cases h
  | cons r l ih =>
    intro i h
    unfold io_of at h
    by_cases z : r.1 = pa
    · rw [if_pos z] at h; cases h; simp
    · rw [if_neg z] at h
      cases e : io_of pa l with
      | none => rw [e] at h; cases h
      | some k =>
        rw [e] at h
        have h2 : k + 1 = i := Option.some.inj h
        have := ih e
        rw [List.length_cons]
        omega
section SP
variable {E : wo_E} {mc ms : Nat} {G : wo_W} {o p g : Nat} {pa bd : List Nat} {ow : Nat → Nat} {rs : List roT} {vs : Nat → Option (List Nat)} {m : Option Nat}
theorem sp_ioLoop {Post : Int32 → wo_W → Prop} {c s q : Nat} (h : og_at E ow G o rs g) (hS : tx_S G q pa) (hl : rs.length ≤ 100) (hc : c ≤ mc) (hs : s ≤ ms) : ∀ k i, i + k = rs.length → Post (match io_of pa (rs.drop i) with | none => -1 | some n => nI (i + n)) G → pq_Og_indexOf_2 E mc ms Post (k + 1) G c s o (some q) (nI i) := by
  obtain ⟨k1, k2, k3, k4, li, lv, os, As, k5, k6, k7, k8, k9, k10⟩ := h
  intro k
  induction k with
  | zero =>
    intro i hi hp
    unfold pq_Og_indexOf_2
    refine ⟨k1, fun r hr => ⟨li, hr.trans k5, k6.1.1, 0, 0, hc, hs, sp_alSize k6.1 ⟨fun _ => ?_, fun w => absurd (nI_le (by omega) (by omega)) w⟩⟩⟩
    rw [List.drop_of_length_le (by omega)] at hp
    exact hp
  | succ k ih =>
    intro i hi hp
    obtain ⟨m1, m2⟩ := k10 i (by omega)
    obtain ⟨n1, n2, ⟨s1, n3, n4⟩, n5, n6⟩ := m1
    have hd : rs.drop i = rs.getD i ro_0 :: rs.drop (i + 1) := by
      rw [List.drop_eq_getElem_cons (by omega), List.getD_eq_getElem?_getD, List.getElem?_eq_getElem (by omega)]
      rfl
    rw [hd] at hp
    unfold io_of at hp
    unfold pq_Og_indexOf_2
    refine ⟨k1, fun r hr => ⟨li, hr.trans k5, k6.1.1, 0, 0, hc, hs, sp_alSize k6.1 ⟨fun w => absurd w (nI_ge (by omega) (by omega)), fun _ => ⟨k1, fun r hr => ⟨li, hr.trans k5, k6.1.1, 0, 0, hc, hs, sp_alGet k6.1 (by omega) ⟨fun a ha => (by cases ha; exact n1), os.getD i 0, rfl, n1, fun r hr => ⟨s1, hr.trans n3, n4.1.1, 0, 0, hc, hs, sp_equals n4.1 hS ?_⟩⟩⟩⟩⟩⟩⟩
    by_cases z : (rs.getD i ro_0).1 = pa
    · rw [if_pos z] at hp ⊢
      exact ⟨fun w => absurd w (by decide), fun _ => hp⟩
    · rw [if_neg z] at hp ⊢
      refine ⟨fun _ => ?_, fun w => absurd rfl w⟩
      rw [nI_1]
      refine ih (i + 1) (by omega) ?_
      cases e : io_of pa (rs.drop (i + 1)) with
      | none => rw [e] at hp; exact hp
      | some n =>
        rw [e] at hp
        show Post (nI (i + 1 + n)) G
        have e2 : i + 1 + n = i + (n + 1) := by omega
        rw [e2]
        exact hp
theorem sp_ogIndex {Post : Int32 → wo_W → Prop} {q : Nat} (h : og_at E ow G o rs g) (hS : tx_S G q pa) (hl : rs.length ≤ 100) (hp : Post (wh_I (io_of pa rs)) G) : pq_Og_indexOf E mc ms Post G o (some q) := by
  unfold pq_Og_indexOf pq_Og_indexOf_0
  refine ⟨rs.length + 1, sp_ioLoop h hS hl (Nat.zero_le _) (Nat.zero_le _) rs.length 0 (by omega) ?_⟩
  rw [List.drop_zero]
  cases e : io_of pa rs with
  | none => rw [e] at hp; exact hp
  | some n =>
    rw [e] at hp
    show Post (nI (0 + n)) G
    rw [Nat.zero_add]
    exact hp
theorem sp_forbidden {Post : Int32 → wo_W → Prop} {im : Nat → Prop} {x : Option Nat} {ro : Option rpT} (hk : kx_ok E G) (hq : rq_at im G p m pa bd vs) (ho : rp_O im G x ro) (hp : Post (bo_I (fb_of vs (rt_of ro))) G) : pq_Og_isForbidden E mc ms Post G (some p) x := by
  obtain ⟨h1, h2, h3, h4, h5, h6⟩ := hq
  have q0 := h6 0 (by decide)
  have q1 := h6 1 (by decide)
  have h27 : ∀ c s, c ≤ mc → s ≤ ms → (Post (bo_I (fb_2 vs (rt_of ro))) G) → pq_Og_isForbidden_27 E mc ms Post G c s (some p) x := by
    intro c s hc hs hp
    unfold fb_2 at hp
    unfold pq_Og_isForbidden_27 pq_Og_isForbidden_56 pq_Og_isForbidden_57
    refine ⟨p, rfl, h1, fun r hr => ⟨fun z => ?_, fun y hy => ⟨fun z => ?_, fun w hw r2 hr2 => ?_⟩⟩⟩
    · rw [q1.none (hr ▸ z)] at hp
      exact ⟨tx_ok0, hp⟩
    · rw [ho.none z] at hp
      obtain ⟨t, e, _⟩ := q1.some (hr ▸ hy)
      rw [e] at hp
      exact ⟨tx_ok0, hp⟩
    · obtain ⟨t, e, i1, l1⟩ := q1.some (hr ▸ hy)
      obtain ⟨v, e2, e3⟩ := ho.some hw
      rw [e, e2] at hp
      obtain ⟨g1, g2, g3, g4, _, g8, g9, _⟩ := e3
      refine ⟨g1, 0, 0, hc, hs, ?_⟩
      rw [hr2, show wo_gr G 516 p = some y from hr ▸ hy, g8]
      refine sp_matches hk i1.1 l1 g9 ?_
      have hp2 : Post (bo_I (mt_of t v.2.2.1)) G := hp
      cases hm : mt_of t v.2.2.1 with
      | false => rw [hm] at hp2; exact ⟨fun _ => ⟨tx_ok0, hp2⟩, fun w => absurd rfl w⟩
      | true => rw [hm] at hp2; exact ⟨fun w => absurd w (by decide), fun _ => ⟨tx_ok1, hp2⟩⟩
  unfold fb_of at hp
  unfold pq_Og_isForbidden pq_Og_isForbidden_0 pq_Og_isForbidden_25
  refine ⟨p, rfl, h1, fun r hr => ⟨fun z => ?_, fun y hy => ⟨fun z => ?_, fun w hw r2 hr2 => ?_⟩⟩⟩
  · rw [q0.none (hr ▸ z)] at hp
    exact h27 0 0 (Nat.zero_le _) (Nat.zero_le _) hp
  · rw [ho.none z] at hp
    obtain ⟨t, e, _⟩ := q0.some (hr ▸ hy)
    rw [e] at hp
    exact hp
  · obtain ⟨t, e, i1, l1⟩ := q0.some (hr ▸ hy)
    obtain ⟨v, e2, e3⟩ := ho.some hw
    rw [e, e2] at hp
    have e3' := e3
    obtain ⟨g1, g2, g3, g4, _, g8, g9, _⟩ := e3'
    refine ⟨g1, 0, 0, Nat.zero_le _, Nat.zero_le _, ?_⟩
    rw [hr2, show wo_gr G 515 p = some y from hr ▸ hy, g8]
    refine sp_matches hk i1.1 l1 g9 ?_
    have hp2 : Post (bo_I (if mt_of t v.2.2.1 = true then fb_2 vs (rt_of (some v)) else true)) G := hp
    cases hm : mt_of t v.2.2.1 with
    | false => rw [hm] at hp2; exact ⟨fun w => absurd rfl w, fun _ => hp2⟩
    | true =>
      rw [hm] at hp2
      rw [← hw]
      exact ⟨fun _ => h27 0 0 (Nat.zero_le _) (Nat.zero_le _) (by rw [e2]; exact hp2), fun w => absurd w (by decide)⟩
end SP
