def tx_oi (im : Nat → Prop) (G : wo_W) (r : Option Nat) (o : Option (List Nat)) : Prop := match r, o with
  | none, none => True
  | some q, some t => tx_i im G q t ∧ t.length ≤ 8
  | _, _ => False
def rq_at (im : Nat → Prop) (G : wo_W) (p : Nat) (m : Option Nat) (pa bd : List Nat) (vs : Nat → Option (List Nat)) : Prop := wo_ty G p = 9 ∧ wo_gi G 512 p = wh_I m ∧ (∀ k, m = some k → k < 4) ∧ (∃ q, wo_gr G 513 p = some q ∧ tx_i im G q pa) ∧ (∃ q, wo_gr G 514 p = some q ∧ tx_i im G q bd ∧ bd.length ≤ 8) ∧ ∀ h, h < 8 → tx_oi im G (wo_gr G (515 + h) p) (vs h)
theorem tx_oi.O {im : Nat → Prop} {G : wo_W} {r : Option Nat} {o : Option (List Nat)} (h : tx_oi im G r o) : tx_O G r o := by
  unfold tx_oi at h
  unfold tx_O
  cases r with
  | none => cases o with
    | none => exact h
    | some t => exact h
  | some q => cases o with
    | none => exact h
    | some t => exact ⟨h.1.1, h.2⟩
theorem tx_oi.none {im : Nat → Prop} {G : wo_W} {r : Option Nat} {o : Option (List Nat)} (h : tx_oi im G r o) (e : r = Option.none) : o = Option.none := by
  cases o with
  | none => rfl
  | some t => rw [e] at h; exact False.elim h
theorem tx_oi.some {im : Nat → Prop} {G : wo_W} {r : Option Nat} {o : Option (List Nat)} {q : Nat} (h : tx_oi im G r o) (e : r = Option.some q) : ∃ t, o = Option.some t ∧ tx_i im G q t ∧ t.length ≤ 8 := by
  cases o with
  | none => rw [e] at h; exact False.elim h
  | some t => rw [e] at h; exact ⟨t, rfl, h.1, h.2⟩
theorem tx_oi.fr {im W : Nat → Prop} {G G1 : wo_W} {r : Option Nat} {o : Option (List Nat)} (h : tx_oi im G r o) (f : fr_W W G G1) (hW : ∀ x, W x → ¬ im x) : tx_oi im G1 r o := by
  cases r with
  | none => cases o with
    | none => exact h
    | some t => exact h
  | some q => cases o with
    | none => exact h
    | some t => exact ⟨h.1.fr f hW, h.2⟩
theorem rq_at.fr {im W : Nat → Prop} {G G1 : wo_W} {p : Nat} {m : Option Nat} {pa bd : List Nat} {vs : Nat → Option (List Nat)} (h : rq_at im G p m pa bd vs) (f : fr_W W G G1) (hW : ∀ x, W x → ¬ im x) (hp : ¬ W p) : rq_at im G1 p m pa bd vs := by
  obtain ⟨h1, h2, h3, ⟨q, h4, h5⟩, ⟨q2, h6, h7, h8⟩, h9⟩ := h
  have e := f.2 p (by rw [h1]; decide) hp
  exact ⟨e.1.trans h1, (e.2.2.1 _).trans h2, h3, ⟨q, (e.2.2.2.2.1 _).trans h4, h5.fr f hW⟩, ⟨q2, (e.2.2.2.2.1 _).trans h6, h7.fr f hW, h8⟩, fun i hi => by rw [e.2.2.2.2.1]; exact (h9 i hi).fr f hW⟩
def mo_of (o : Option (List Nat)) (g : Nat) : Option Bool := o.map (fun t => mt_of t g)
def ak_of (m : Option Nat) (vs : Nat → Option (List Nat)) (g : Nat) : Bool := if m = some 0 ∧ vs 2 ≠ none then (match vs 3 with
  | none => true
  | some t => decide (wh_of t = some g)) else false
def rx_of (m : Option Nat) (vs : Nat → Option (List Nat)) (g n : Nat) : Option (List (Nat × Nat)) := if ak_of m vs g = true then (match vs 2 with
  | none => none
  | some r => rs_of r n) else none
def sl_of (m : Option Nat) (vs : Nat → Option (List Nat)) (lt g : Nat) (bd po : List Nat) (vr : Bool) (ag : Option Nat) : List Nat :=
  if mo_of (vs 0) g = some false then ba_of 412 0
  else if mo_of (vs 1) g = some true then ds_of 304 lt g po vr ag ++ [10]
  else match rx_of m vs g bd.length with
    | some ps => pt_of lt g bd po vr ag ps
    | none => hl_of lt g bd po vr ag (decide (m = some 0))
theorem ba_len {m g : Nat} (hm : m < 2 ^ 31) (hg : g < 2 ^ 31) : (ba_of m g).length ≤ 38 := by
  have h1 := bg_len hm
  have h2 := nl_len (x := 69) hg
  have h3 := nl_len (x := 76) (m := 0) (by decide)
  unfold ba_of
  simp only [List.length_append]
  have h4 : (if 0 < g then nl_of 69 g else []).length ≤ 13 := by
    split
    · exact h2
    · exact Nat.zero_le _
  have h5 : [10].length = 1 := rfl
  omega
def sh_W (z a v f l : Nat) : Nat → Prop := fun x => sg_W a v x ∨ pc_W z f l x
def sh_r (E : wo_E) (G0 : wo_W) (z a v f l : Nat) (G : wo_W) : Prop := (∃ w t, sg_at E G a w t ∧ t.length ≤ 4096 ∧ (w = v ∨ wo_ty G0 w = 0)) ∧ (∃ ps, pc_at E G z f l ps) ∧ wo_gr G 192 z = some a ∧ fr_W (sh_W z a v f l) G0 G
section SP
variable {E : wo_E} {mc ms : Nat} {G G0 : wo_W} {a z v0 f l b : Nat} {t u bd : List Nat} {ps : List (Nat × Nat)} {im : Nat → Prop}
theorem sh_fin {G1 G2 : wo_W} {q : Nat} {r : List Nat} (h : sh_b E G1 v0 z a) (p : pc_at E G1 z f l ps) (f1 : fr_W (pc_W z f l) G0 G1) (e : sg_ev E G1 v0 a G2 r) (hr : r.length ≤ 4096) : sh_r E G0 z a v0 f l G2 := by
  have hz := h.zz e
  have k := h.pc p e
  obtain ⟨w, k1, k2, k3⟩ := e
  refine ⟨⟨w, r, k1, hr, ?_⟩, ⟨ps, k⟩, (hz.2 _ rfl), fr_tr (fr_mn (fun x _ q => Or.inr q) f1) (fr_mn (fun x _ q => Or.inl q) k3)⟩
  rcases k2 with k2 | k2
  · exact Or.inl k2
  · exact Or.inr (fr_new0 f1 k2)
theorem tx_new.tr {G1 G2 : wo_W} {W : Nat → Prop} {q : Nat} (h : tx_new E G1 a G2 q t) (f1 : fr_W W G0 G1) : tx_new E G0 a G2 q t := ⟨fr_new0 f1 h.1, h.2.1, h.2.2.1, fun x hx => ⟨fr_new0 f1 (h.2.2.2 x hx).1, (h.2.2.2 x hx).2⟩⟩
theorem sp_asks {Post : Int32 → wo_W → Prop} {p g : Nat} {m : Option Nat} {pa bd : List Nat} {vs : Nat → Option (List Nat)} (hq : rq_at im G p m pa bd vs) (hg : g < 2 ^ 31) (hp : Post (bo_I (ak_of m vs g)) G) : pq_Sh_asksForPart E mc ms Post G (some p) (nI g) := by
  obtain ⟨h1, h2, h3, h4, h5, h6⟩ := hq
  have q2 := h6 2 (by decide)
  have q3 := h6 3 (by decide)
  have m0 : wo_gi G 512 p = 0 ↔ m = some 0 := by
    rw [h2]
    cases m with
    | none => exact ⟨fun q => absurd q (by decide), fun q => (by cases q)⟩
    | some k => exact ⟨fun q => by rw [(nI_eq (b := 0) (by have := h3 k rfl; omega) (by decide)).mp q], fun q => by cases q; rfl⟩
  unfold ak_of at hp
  unfold pq_Sh_asksForPart pq_Sh_asksForPart_0 pq_Sh_asksForPart_14 pq_Sh_asksForPart_38 pq_Sh_asksForPart_43
  refine ⟨p, rfl, h1, fun q => ?_, fun q => fun r hr => ⟨fun z => ?_, fun x hx r2 hr2 => ⟨fun z => ?_, fun y hy => ?_⟩⟩⟩
  · rw [if_neg (fun y => q (m0.mpr y.1))] at hp
    exact hp
  · rw [if_neg (fun y => y.2 (q2.none (hr ▸ z)))] at hp
    exact hp
  · obtain ⟨t2, e2, _⟩ := q2.some (hr ▸ hx)
    rw [if_pos ⟨m0.mp q, by rw [e2]; simp⟩, q3.none (hr2 ▸ z)] at hp
    exact ⟨tx_ok1, hp⟩
  · obtain ⟨t2, e2, _⟩ := q2.some (hr ▸ hx)
    obtain ⟨t3, e3, i3, l3⟩ := q3.some (hr2 ▸ hy)
    rw [if_pos ⟨m0.mp q, by rw [e2]; simp⟩, e3] at hp
    refine ⟨i3.1.1, 0, 0, by omega, by omega, sp_length i3.1 ⟨0, 0, by omega, by omega, sp_whole (p := 0) i3.1 (Nat.zero_le _) (Nat.le_refl _) ?_⟩⟩
    rw [tx_sub_all]
    have key := wh_eq (l := t3) (g := g) l3 hg
    simp only [] at hp
    refine ⟨fun w => ?_, fun w => ?_⟩
    · rw [show decide (wh_of t3 = some g) = false from decide_eq_false (fun y => w (key.mpr y))] at hp
      exact ⟨tx_ok0, hp⟩
    · rw [show decide (wh_of t3 = some g) = true from decide_eq_true (key.mp w)] at hp
      exact ⟨tx_ok1, hp⟩
theorem sp_select {Post : Option Nat → wo_W → Prop} {p p2 lt g : Nat} {m : Option Nat} {pa b2 : List Nat} {vs : Nat → Option (List Nat)} {po : List Nat} {vr : Bool} {ag : Option Nat} (h : sh_b E G0 v0 z a) (pc : pc_at E G0 z f l ps) (hr : rp_at im G0 p lt bd g po vr) (hq : rq_at im G0 p2 m pa b2 vs) (hn : ¬ sh_W z a v0 f l p2) (hW : ∀ x, sh_W z a v0 f l x → ¬ im x) (hag : ∀ n, ag = some n → n < 2 ^ 31) (h1 : 60 ≤ mc) (h2 : 10000 ≤ ms)
    (hp : ∀ q G', tx_new E G0 a G' q (sl_of m vs lt g bd po vr ag) → sh_r E G0 z a v0 f l G' → Post (some q) G') : pq_Sh_select E mc ms Post G0 z (some p) (some p2) (wh_I ag) := by
  have ha : ¬ im a := hW a (Or.inl (Or.inl rfl))
  have hv : ¬ im v0 := hW v0 (Or.inl (Or.inr rfl))
  have hq' := hq
  have hr' := hr
  have hr0 := hr
  obtain ⟨r1, r2, r3, r4, ⟨s1, r5, r6, r7⟩, r8, r9, ⟨s2, j1, j2, j3⟩, j4⟩ := hr'
  obtain ⟨y1, y2, y3, ⟨y4, y5, y6⟩, y7, y8⟩ := hq'
  have hk := h.2.2.2
  have hh := h
  obtain ⟨⟨t0, k, kl⟩, hz, hza, _⟩ := hh
  have e0 := sg_ev.in k
  have fin : ∀ {q : Nat} {G' : wo_W} {r : List Nat}, tx_new E G0 a G' q (sl_of m vs lt g bd po vr ag) → sg_ev E G0 v0 a G' r → r.length ≤ 4096 → Post (some q) G' := fun tn e hl => hp _ _ tn (sh_fin (q := 0) h pc (fr_rf _ _) e hl)
  have m0 : wo_gi G0 512 p2 = 0 ↔ m = some 0 := by
    rw [y2]
    cases m with
    | none => exact ⟨fun q => absurd q (by decide), fun q => (by cases q)⟩
    | some k => exact ⟨fun q => by rw [(nI_eq (b := 0) (by have := y3 k rfl; omega) (by decide)).mp q], fun q => by cases q; rfl⟩
  -- the road to the whole answer, from a base world that the pieces alone have changed
  have h114 : ∀ G1 ps1 c s, sh_b E G1 v0 z a → pc_at E G1 z f l ps1 → fr_W (pc_W z f l) G0 G1 → c + 32 ≤ mc → s + 6000 ≤ ms → sl_of m vs lt g bd po vr ag = hl_of lt g bd po vr ag (decide (m = some 0)) → pq_Sh_select_114 E mc ms Post G1 c s z (some p) (some p2) (wh_I ag) := by
    intro G1 ps1 c s hb1 pc1 f1 hc hs hs0
    have rr : rp_at im G1 p lt bd g po vr := hr.fr f1 (fun x q => hW x (Or.inr q))
    have qq : rq_at im G1 p2 m pa b2 vs := hq.fr f1 (fun x q => hW x (Or.inr q)) (fun q => hn (Or.inr q))
    have h129 : ∀ bb, bb = decide (m = some 0) → pq_Sh_select_129 E mc ms Post G1 c s z z (some p) (wh_I ag) (bo_I bb) := by
      intro bb hbb
      have hh1 := hb1
      obtain ⟨⟨t1, k1, kl1⟩, _⟩ := hh1
      have e1 := sg_ev.in k1
      unfold pq_Sh_select_129
      refine ⟨pc1.1, 27, 5500, by omega, by omega, sp_shWhole (b := bb) hb1 e1 kl1 rr ha hv hag (by omega) (by omega) (fun G2 e2 => ?_)⟩
      have hl : (hl_of lt g bd po vr ag bb).length ≤ 120 := by
        have := ds_len (m := 200) (l := lt) (vr := vr) (by decide) r9 hag j3
        have := nl_len (x := 76) (m := bd.length) (by omega)
        unfold hl_of
        simp only [List.length_append]
        have : (if bb = true then bd else []).length ≤ 8 := by cases bb <;> simp <;> omega
        have : [10].length = 1 := rfl
        omega
      refine ⟨(hb1.zz e2).1, fun r hr => ⟨a, (hb1.zz e2).2 r hr, e2.ty, 2, 130, by omega, by omega, ev_T e2 (by omega) (by omega) (by omega) (fun q2 G5 q1 q3 q4 q5 q6 q7 => ?_)⟩⟩
      refine hp q2 G5 ?_ (sh_fin (q := 0) hb1 pc1 f1 q7 (by omega))
      rw [hs0, ← hbb]
      exact (ev_new e2 q1 q3 q4 q5 q6).tr f1
    unfold pq_Sh_select_114
    refine ⟨p2, rfl, qq.1, fun q => ?_, fun q => ?_⟩
    · rw [qq.2.1, ← y2] at q
      exact h129 false (decide_eq_false (fun y => q (m0.mpr y))).symm
    · rw [qq.2.1, ← y2] at q
      exact h129 true (decide_eq_true (m0.mp q)).symm
  have h78 : ∀ c s, c + 55 ≤ mc → s + 9500 ≤ ms → ¬ mo_of (vs 0) g = some false → ¬ mo_of (vs 1) g = some true → pq_Sh_select_78 E mc ms Post G0 c s z (some p) (some p2) (wh_I ag) := by
    intro c s hc hs hs0 hs1
    unfold pq_Sh_select_78
    refine ⟨p, rfl, r1, 0, 0, by omega, by omega, ?_⟩
    rw [r8]
    refine sp_asks hq r9 ⟨fun q => ?_, fun q => ?_⟩
    · have ak : ak_of m vs g = false := by
        cases hk : ak_of m vs g with
        | false => rfl
        | true => rw [hk] at q; exact absurd q (by decide)
      refine h114 G0 ps _ _ h pc (fr_rf _ _) (by omega) (by omega) ?_
      unfold sl_of rx_of
      rw [if_neg hs0, if_neg hs1, if_neg (by rw [ak]; decide)]
    · have ak : ak_of m vs g = true := by
        cases hk : ak_of m vs g with
        | true => rfl
        | false => rw [hk] at q; exact absurd rfl q
      refine ⟨p2, rfl, y1, fun r hr => ⟨r1, fun r' hr' => ⟨s1, hr'.trans r5, r6.1.1, 0, 0, by omega, by omega, sp_length r6.1 ⟨hz, 4, 24, by omega, by omega, ?_⟩⟩⟩⟩
      have q2 := y8 2 (by decide)
      have v2 : vs 2 ≠ none := by
        intro y
        unfold ak_of at ak
        rw [if_neg (fun w => w.2 y)] at ak
        cases ak
      cases hg2 : wo_gr G0 (515 + 2) p2 with
      | none => exact absurd (q2.none hg2) v2
      | some x =>
        obtain ⟨t2, e2, i2, l2⟩ := q2.some hg2
        rw [hr, show wo_gr G0 517 p2 = some x from hg2]
        have kk : ∀ G', fr_W (pc_W z f l) G0 G' → wo_gr G' 192 z = wo_gr G0 192 z → wo_ty G' z = 4 → sh_b E G' v0 z a := by
          intro G' f' w' t'
          have na : ¬ pc_W z f l a := fun y => by
            have := (pc_k pc y).1
            rw [k.1] at this
            omega
          have nv : ¬ pc_W z f l v0 := fun y => by
            have := (pc_k pc y).1
            rw [k.2.2.2.2.2.1.1] at this
            omega
          exact ⟨⟨t0, k.eq (f'.2 a (by rw [k.1]; decide) na) (f'.2 v0 (by rw [k.2.2.2.2.2.1.1]; decide) nv), kl⟩, t', w'.trans hza, hk.fr f' (fun x q => (pc_k pc q).2)⟩
        refine sp_readPieces pc hk i2.1 l2 (by omega) (by omega) (by omega) (fun w G' ps' pc' f' w' => ⟨fun _ => ?_, fun y => absurd rfl y⟩) (fun ps' G' w pc' f' w' => ⟨fun y => absurd y (by decide), fun _ => ?_⟩)
        · refine h114 G' ps' _ _ (kk G' f' w' pc'.1) pc' f' (by omega) (by omega) ?_
          unfold sl_of rx_of
          rw [if_neg hs0, if_neg hs1, if_pos ak, e2]
          simp only [w]
        · have rr : rp_at im G' p lt bd g po vr := hr0.fr f' (fun x q => hW x (Or.inr q))
          refine ⟨pc'.1, 47, 9400, by omega, by omega, sp_part (kk G' f' w' pc'.1) pc' rr ha hv ⟨r7, rs_b w⟩ hag (by omega) (by omega) (fun q G2 tn ev => ?_)⟩
          obtain ⟨t', ev1, ev2⟩ := ev
          refine hp q G2 ?_ (sh_fin (q := 0) (kk G' f' w' pc'.1) pc' f' ev1 ev2)
          have : sl_of m vs lt g bd po vr ag = pt_of lt g bd po vr ag ps' := by
            unfold sl_of rx_of
            rw [if_neg hs0, if_neg hs1, if_pos ak, e2]
            simp only [w]
          rw [this]
          exact tn.tr f'
  have h30 : ∀ c s, c + 55 ≤ mc → s + 9500 ≤ ms → ¬ mo_of (vs 0) g = some false → pq_Sh_select_30 E mc ms Post G0 c s z (some p) (some p2) (wh_I ag) := by
    intro c s hc hs hs0
    have q1 := y8 1 (by decide)
    unfold pq_Sh_select_30
    refine ⟨p2, rfl, y1, fun r hr => ⟨fun w => h78 c s hc hs hs0 ?_, fun x hx r' hr' => ⟨p, rfl, r1, 0, 0, by omega, by omega, ?_⟩⟩⟩
    · rw [q1.none (hr ▸ w)]
      exact fun y => (by cases y)
    · obtain ⟨t1, e1, i1, l1⟩ := q1.some (hr ▸ hx)
      rw [hr', show wo_gr G0 516 p2 = some x from hr ▸ hx, r8]
      refine sp_matches hk i1.1 l1 r9 ⟨fun w => h78 _ _ (by omega) (by omega) hs0 ?_, fun w => ⟨hz, 20, 4000, by omega, by omega, sp_describe (m := 304) h e0 kl hr0 ha hv (by decide) hag (by omega) (by omega) (fun G1 ev1 => ?_)⟩⟩
      · rw [e1]
        intro y
        rw [show mt_of t1 g = true from Option.some.inj y] at w
        exact absurd w (by decide)
      · have hd := ds_len (m := 304) (l := lt) (vr := vr) (by decide) r9 hag j3
        have mt : mt_of t1 g = true := by
          cases hm : mt_of t1 g with
          | true => rfl
          | false => rw [hm] at w; exact absurd rfl w
        refine ⟨(h.zz ev1).1, fun r hr => ⟨a, (h.zz ev1).2 r hr, ev1.ty, 1, 240, by omega, by omega, ev_C (c := 10) ev1 (by decide) (by omega) (by omega) (by omega) (fun G2 ev2 => ?_)⟩⟩
        have l2 : (ds_of 304 lt g po vr ag ++ [10]).length ≤ 61 := by rw [List.length_append]; show _ + 1 ≤ _; omega
        refine ⟨(h.zz ev2).1, fun r hr => ⟨a, (h.zz ev2).2 r hr, ev2.ty, 2, 130, by omega, by omega, ev_T ev2 (by omega) (by omega) (by omega) (fun q2 G5 q1 q3 q4 q5 q6 q7 => ?_)⟩⟩
        refine fin ?_ q7 (by omega)
        have : sl_of m vs lt g bd po vr ag = ds_of 304 lt g po vr ag ++ [10] := by
          unfold sl_of
          rw [if_neg hs0, e1, if_pos (by show some (mt_of t1 g) = some true; rw [mt])]
        rw [this]
        exact ev_new ev2 q1 q3 q4 q5 q6
  have q0 := y8 0 (by decide)
  unfold pq_Sh_select pq_Sh_select_0
  refine ⟨p2, rfl, y1, fun r hr => ⟨fun w => h30 0 0 (by omega) (by omega) ?_, fun x hx r' hr' => ⟨p, rfl, r1, 0, 0, by omega, by omega, ?_⟩⟩⟩
  · rw [q0.none (hr ▸ w)]
    exact fun y => (by cases y)
  · obtain ⟨t1, e1, i1, l1⟩ := q0.some (hr ▸ hx)
    rw [hr', show wo_gr G0 515 p2 = some x from hr ▸ hx, r8]
    refine sp_matches hk i1.1 l1 r9 ⟨fun w => h30 _ _ (by omega) (by omega) ?_, fun w => ⟨hz, 14, 2500, by omega, by omega, sp_bare (m := 412) (g := 0) h (by decide) (by decide) (by omega) (by omega) (fun q G' tn ev => ?_)⟩⟩
    · rw [e1]
      intro y
      rw [show mt_of t1 g = false from Option.some.inj y] at w
      exact absurd rfl w
    · have mt : mt_of t1 g = false := by
        cases hm : mt_of t1 g with
        | false => rfl
        | true => rw [hm] at w; exact absurd w (by decide)
      have : sl_of m vs lt g bd po vr ag = ba_of 412 0 := by
        unfold sl_of
        rw [e1, if_pos (by show some (mt_of t1 g) = some false; rw [mt])]
      have bl := ba_len (m := 412) (g := 0) (by decide) (by decide)
      exact fin (by rw [this]; exact tn) ev (by omega)
end SP
