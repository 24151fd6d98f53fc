abbrev btT : Type := Nat → Option (List Nat × Nat)
def li_of (bt : btT) : Nat := if (bt 0).isSome then 0 else if (bt 1).isSome then 1 else 2
theorem le_li {po : List Nat} {bt : btT} : le_of (ex_of po bt) = ex_of po bt (li_of bt) := by
  unfold le_of
  simp only [le_k, li_of]
  show (match ex_of po bt 0 with | some r => some r | none => match ex_of po bt 1 with | some r => some r | none => match ex_of po bt 2 with | some r => some r | none => none) = _
  cases h0 : bt 0 with
  | some q => simp [ex_of, h0]
  | none =>
    cases h1 : bt 1 with
    | some q => simp [ex_of, h0, h1]
    | none =>
      cases h2 : bt 2 with
      | some q => simp [ex_of, h0, h1, h2]
      | none => simp [ex_of, h0, h1, h2]
theorem ct_cb {po : List Nat} {bt : btT} : ct_of (ex_of po bt) = cb_of bt := by
  unfold ct_of cb_of
  simp only [ct_k, ex_of, Option.isSome_map]
def mh_s (t : List Nat) (bt : btT) (b : Option Nat × Nat) (l : Nat) : Option Nat × Nat := match bt l with
  | none => b
  | some _ => if b.2 < qu_of (nb_of (97 + l) t) then (some l, qu_of (nb_of (97 + l) t)) else b
def mh_of (o : Option (List Nat)) (bt : btT) : Option Nat := match o with
  | none => some (li_of bt)
  | some t => if cb_of bt = 1 then some (li_of bt) else (mh_s t bt (mh_s t bt (mh_s t bt (none, 0) 0) 1) 2).1
def xo_of (po : List Nat) (bt : btT) : Option Nat → Option rpT
  | none => none
  | some l => ex_of po bt l
theorem mh_cs {t po : List Nat} {bt : btT} {b : Option Nat × Nat} {l : Nat} : cs_of t (ex_of po bt) (xo_of po bt b.1, b.2) l = (xo_of po bt (mh_s t bt b l).1, (mh_s t bt b l).2) := by
  unfold cs_of mh_s
  cases h : bt l with
  | none => simp [ex_of, h]
  | some q =>
    simp only [ex_of, h, Option.map_some]
    by_cases z : b.2 < qu_of (nb_of (97 + l) t)
    · rw [if_pos z, if_pos z]
      simp [xo_of, ex_of, h]
    · rw [if_neg z, if_neg z]
theorem mh_ch {o : Option (List Nat)} {po : List Nat} {bt : btT} : ch_of o (ex_of po bt) = xo_of po bt (mh_of o bt) := by
  cases o with
  | none => exact le_li
  | some t =>
    show (if ct_of (ex_of po bt) = 1 then le_of (ex_of po bt) else (cs_k t (ex_of po bt) 3 (none, 0)).1) = xo_of po bt (if cb_of bt = 1 then some (li_of bt) else _)
    rw [ct_cb]
    by_cases z : cb_of bt = 1
    · rw [if_pos z, if_pos z]; exact le_li
    · rw [if_neg z, if_neg z]
      show (cs_of t (ex_of po bt) (cs_of t (ex_of po bt) (cs_of t (ex_of po bt) (xo_of po bt none, 0) 0) 1) 2).1 = _
      have e0 := mh_cs (t := t) (po := po) (bt := bt) (b := (none, 0)) (l := 0)
      have e1 := mh_cs (t := t) (po := po) (bt := bt) (b := mh_s t bt (none, 0) 0) (l := 1)
      have e2 := mh_cs (t := t) (po := po) (bt := bt) (b := mh_s t bt (mh_s t bt (none, 0) 0) 1) (l := 2)
      rw [e0, e1, e2]
theorem mh_lt {o : Option (List Nat)} {bt : btT} {l : Nat} (h : mh_of o bt = some l) : l < 3 := by
  have hli : li_of bt < 3 := by unfold li_of; split; decide; split <;> decide
  have hs : ∀ t b l, (∀ x, b.1 = some x → x < 3) → l < 3 → ∀ x, (mh_s t bt b l).1 = some x → x < 3 := by
    intro t b l hb hl x hx
    unfold mh_s at hx
    split at hx
    · exact hb x hx
    · split at hx
      · cases hx; exact hl
      · exact hb x hx
  unfold mh_of at h
  split at h
  · cases h; exact hli
  · split at h
    · cases h; exact hli
    · exact hs _ _ 2 (hs _ _ 1 (hs _ _ 0 (fun x e => (by cases e)) (by decide)) (by decide)) (by decide) l h
section MD
variable {E : wo_E} {mc ms m c s : Nat} {G0 G G1 G2 : wo_W} {ow : Nat → Nat} {A : Nat → Nat} {F K : Nat → Prop} {u : List Nat} {P Q : Nat → Nat → Prop}
def rf_ok (pa : List Nat) (L : rlT) (o : Option (Nat × roT)) : Prop := match o with
  | none => ∀ x ∈ L, x.2.1 ≠ pa
  | some x => x ∈ L ∧ x.2.1 = pa
def rf_I : Option (Nat × roT) → Int32
  | none => -1
  | some x => nI x.1
theorem sp_resource {Post : Int32 → wo_W → Prop} {L : rlT} {j : Nat} {pa : List Nat} (h : md_k E ow m A G) (hk : mrs A G L) (hj : j < 9) (hq : pt_ok (wo_el G (A 908) j) (wo_ei G (A 909) j) pa) (hp : ∀ o, rf_ok pa L o → Post (rf_I o) G) : pq_Md_resource E mc ms Post G m (nI j) := by
  obtain ⟨b1, b2, b3⟩ := hk
  have vj : vp_in (nI j) 9 := vp_in_nI hj (by decide)
  have cj : (nI j).toNatClampNeg = j := nI_clamp (by omega)
  have key : ∀ (k i : Nat), i + k = 6 → (∀ x ∈ L, x.1 < i → x.2.1 ≠ pa) → pq_Md_resource_2 E mc ms Post (k + 1) G 0 0 m (nI j) (nI i) := by
    intro k
    induction k with
    | zero =>
      intro i hi hno
      have e : i = 6 := by omega
      subst e
      unfold pq_Md_resource_2
      exact ⟨fun _ => hp none (fun x hx => hno x hx (b2 x hx).1), fun w => absurd (by decide) w⟩
    | succ k ih =>
      intro i hi hno
      have vi : vp_in (nI i) 6 := vp_in_nI (by omega) (by decide)
      have ci : (nI i).toNatClampNeg = i := nI_clamp (by omega)
      have next : (∀ x ∈ L, x.1 = i → x.2.1 ≠ pa) → pq_Md_resource_2 E mc ms Post (k + 1) G 0 0 m (nI j) (nI (i + 1)) := by
        intro hn
        refine ih (i + 1) (by omega) (fun x hx hlt => ?_)
        by_cases z : x.1 = i
        · exact hn x hx z
        · exact hno x hx (by omega)
      unfold pq_Md_resource_2 pq_Md_resource_50
      rw [nI_1]
      refine ⟨fun w => absurd w (nI_ge (b := 6) (by omega) (by decide)), fun _ => ⟨h.1, h.rd (f := 945) (k := 72) (n := 6) (by decide) vi ?_⟩⟩
      rw [ci, cj, b3 i (by omega)]
      by_cases z : i ∈ L.map (fun x => x.1)
      · rw [decide_eq_true z]
        obtain ⟨y, hy, ey⟩ := List.mem_map.mp z
        have ey : y.1 = i := ey
        have uniq : ∀ x ∈ L, x.1 = i → x = y := by
          intro x hx ex
          have key : ∀ (L : rlT), (L.map (fun x => x.1)).Nodup → x ∈ L → y ∈ L → x.1 = y.1 → x = y := by
            intro L
            induction L with
            | nil => intro _ hx; cases hx
            | cons a L ih =>
              intro hn hx hy e
              rw [List.map_cons, List.nodup_cons] at hn
              rcases List.mem_cons.mp hx with q | q <;> rcases List.mem_cons.mp hy with p | p
              · rw [q, p]
              · exact absurd (List.mem_map.mpr ⟨y, p, by rw [← q]; exact e.symm⟩) hn.1
              · exact absurd (List.mem_map.mpr ⟨x, q, by rw [← p]; exact e⟩) hn.1
              · exact ih hn.2 q p e
          exact key L b1 hx hy (by rw [ex, ey])
        have hm := (b2 y hy).2.1
        rw [ey] at hm
        have pe := pt_eq hm hq
        refine ⟨fun w => absurd w (by decide), fun _ => h.rd (f := 946) (k := 73) (n := 6) (by decide) vi (h.rd (f := 908) (k := 73) (n := 9) (by decide) vj ⟨fun w => next ?_, fun w => h.rd (f := 947) (k := 66) (n := 6) (by decide) vi (h.rd (f := 909) (k := 66) (n := 9) (by decide) vj ⟨fun w2 => next ?_, fun w2 => ?_⟩)⟩)⟩
        · intro x hx ex e2
          rw [uniq x hx ex] at e2
          exact w ((lg_cmp_eq _ _).mpr (pe.mp e2).1)
        · intro x hx ex e2
          rw [uniq x hx ex] at e2
          exact w2 (pe.mp e2).2
        · have e2 := pe.mpr ⟨(lg_cmp_eq _ _).mp w, w2⟩
          have := hp (some y) ⟨hy, e2⟩
          rw [← ey]
          exact this
      · rw [decide_eq_false z]
        exact ⟨fun _ => next (fun x hx e => absurd (List.mem_map.mpr ⟨x, hx, e⟩) z), fun w => absurd rfl w⟩
  unfold pq_Md_resource pq_Md_resource_0
  exact ⟨7, key 6 0 rfl (fun x _ hx => absurd hx (Nat.not_lt_zero _))⟩
theorem bt_pos {k l : Nat} {bt : btT} (h : bt_at A G k l (bt l)) : wo_ei G (A 952) (3 * k + l) ≤ 0 ↔ bt l = none := by
  cases e : bt l with
  | none =>
    rw [e] at h
    have h2 : wo_ei G (A 952) (3 * k + l) = 0 := h
    rw [h2]
    simp
  | some q =>
    rw [e] at h
    obtain ⟨h1, h2, h3, h4⟩ := h
    rw [h2]
    exact ⟨fun w => absurd w (nI_nle h3 (by omega)), fun w => (by cases w)⟩
theorem ix3 {k l : Nat} (hk : k < 6) (hl : l < 3) : ((3 : Int32) * nI k) + nI l = nI (3 * k + l) ∧ (nI (3 * k + l)).toNatClampNeg = 3 * k + l ∧ vp_in (nI (3 * k + l)) 18 :=
  ⟨by rw [show (3 : Int32) = nI 3 from rfl, pk_mul, nI_add], nI_clamp (by omega), vp_in_nI (by omega) (by decide)⟩
theorem sp_mleast {Post : Int32 → wo_W → Prop} {k : Nat} {r : roT} (h : md_k E ow m A G) (hk6 : k < 6) (hk : mro A G k r) (hp : Post (nI (li_of r.2.2)) G) : pq_Md_least E mc ms Post G m (nI k) := by
  obtain ⟨i1, i2, i3⟩ := ix3 (l := 0) hk6 (by decide)
  obtain ⟨j1, j2, j3⟩ := ix3 (l := 1) hk6 (by decide)
  have e0 : (3 : Int32) * nI k = nI (3 * k + 0) := by rw [← i1]; simp [nI_0]
  have p0 := bt_pos (hk.2.2 0 (by decide))
  have p1 := bt_pos (hk.2.2 1 (by decide))
  unfold li_of at hp
  unfold pq_Md_least pq_Md_least_0 pq_Md_least_33
  rw [show (1 : Int32) = nI 1 from rfl, j1, e0]
  refine ⟨h.1, h.rd (f := 952) (k := 66) (n := 18) (by decide) i3 ?_⟩
  rw [i2]
  refine ⟨fun w => h.rd (f := 952) (k := 66) (n := 18) (by decide) j3 ?_, fun w => ?_⟩
  · have z0 := p0.mp w
    rw [z0, if_neg (by simp)] at hp
    rw [j2]
    refine ⟨fun w => ?_, fun w => ?_⟩
    · rw [p1.mp w, if_neg (by simp)] at hp
      exact hp
    · have z1 : (r.2.2 1).isSome = true := by
        cases e : r.2.2 1 with
        | none => exact absurd (p1.mpr e) w
        | some q => rfl
      rw [z1, if_pos rfl] at hp
      exact hp
  · have z1 : (r.2.2 0).isSome = true := by
      cases e : r.2.2 0 with
      | none => exact absurd (p0.mpr e) w
      | some q => rfl
    rw [z1, if_pos rfl] at hp
    exact hp
theorem sp_letters {Post : Int32 → wo_W → Prop} {k : Nat} {r : roT} (h : md_k E ow m A G) (hk6 : k < 6) (hk : mro A G k r) (hp : Post (nI (cb_of r.2.2)) G) : pq_Md_letters E mc ms Post G m (nI k) := by
  have step : ∀ (l n x : Nat), l < 3 → (∀ x', x' = x + (if (r.2.2 l).isSome then 1 else 0) → pq_Md_letters_4 E mc ms Post n G 0 0 m (nI k) (nI x') (nI (l + 1))) → pq_Md_letters_4 E mc ms Post (n + 1) G 0 0 m (nI k) (nI x) (nI l) := by
    intro l n x hl hn
    obtain ⟨i1, i2, i3⟩ := ix3 hk6 hl
    unfold pq_Md_letters_4 pq_Md_letters_29
    refine ⟨fun w => absurd w (nI_lit3 hl), fun _ => ⟨h.1, ?_⟩⟩
    rw [i1]
    refine h.rd (f := 952) (k := 66) (n := 18) (by decide) i3 ?_
    have p0 := bt_pos (hk.2.2 l hl)
    rw [i2, nI_1 l]
    refine ⟨fun w => hn x ?_, fun w => ?_⟩
    · rw [p0.mp w]; rfl
    · rw [nI_1 x]
      refine hn (x + 1) ?_
      cases e : r.2.2 l with
      | none => exact absurd (p0.mpr e) w
      | some q => rfl
  unfold pq_Md_letters pq_Md_letters_0
  refine ⟨4, step 0 3 0 (by decide) (fun x0 e0 => step 1 2 x0 (by decide) (fun x1 e1 => step 2 1 x1 (by decide) (fun x2 e2 => ?_)))⟩
  unfold pq_Md_letters_4
  refine ⟨fun _ => ?_, fun w => absurd (by decide) w⟩
  have e : x2 = cb_of r.2.2 := by
    unfold cb_of
    omega
  rw [e]
  exact hp
theorem sp_mchoose {Post : Int32 → wo_W → Prop} {j k : Nat} {q : rqT} {r : roT} (h : md_k E ow m A G) (hq : vq_at A G j q) (hj : j < 9) (hk6 : k < 6) (hk : mro A G k r) (hp : Post (wh_I (mh_of (q.2.2.2 5) r.2.2)) G) : pq_Md_choose E mc ms Post G m (nI j) (nI k) := by
  have step : ∀ (t : List Nat) (l n : Nat) (b : Option Nat × Nat), q.2.2.2 5 = some t → t.length ≤ 8 → l < 3 → b.2 < 10 ^ 8 → ((mh_s t r.2.2 b l).2 < 10 ^ 8 → pq_Md_choose_32 E mc ms Post n G 0 0 m (nI j) (nI k) (wh_I (mh_s t r.2.2 b l).1) (nI (mh_s t r.2.2 b l).2) (nI (l + 1))) → pq_Md_choose_32 E mc ms Post (n + 1) G 0 0 m (nI j) (nI k) (wh_I b.1) (nI b.2) (nI l) := by
    intro t l n b ht htl hl hb hn
    obtain ⟨i1, i2, i3⟩ := ix3 hk6 hl
    have p0 := bt_pos (hk.2.2 l hl)
    have ql := qu_lt (x := 97 + l) htl
    have h75 : pq_Md_choose_75 E mc ms Post (pq_Md_choose_32 E mc ms Post n) G 0 0 m (nI j) (nI k) (wh_I b.1) (nI b.2) (nI l) (nI (qu_of (nb_of (97 + l) t))) := by
      unfold pq_Md_choose_75 pq_Md_choose_105
      rw [i1, nI_1]
      refine ⟨h.1, h.rd (f := 952) (k := 66) (n := 18) (by decide) i3 ?_⟩
      rw [i2]
      unfold mh_s at hn
      refine ⟨fun w => ?_, fun w => ⟨fun w2 => ?_, fun w2 => ?_⟩⟩
      · rw [p0.mp w] at hn
        exact hn hb
      all_goals
        cases e : r.2.2 l with
        | none => exact absurd (p0.mpr e) w
        | some x =>
          rw [e] at hn
          simp only [] at hn
          first
          | (rw [if_neg (Nat.not_lt.mpr ((nI_leI (by omega) (by omega)).mp w2))] at hn; exact hn hb)
          | (rw [if_pos (Nat.lt_of_not_le (fun q => w2 (nI_le q (by omega))))] at hn; exact hn ql)
    unfold pq_Md_choose_32
    refine ⟨fun w => absurd w (nI_lit3 hl), fun _ => ⟨h.1, 0, 0, Nat.zero_le _, Nat.zero_le _, ?_⟩⟩
    rw [show (97 : Int32) = nI 97 from rfl, nI_add]
    refine sp_inValue (h := 5) h hq hj (by decide) (by omega) ?_
    have eo : nb_o (97 + l) (q.2.2.2 5) = nb_of (97 + l) t := by rw [ht]; rfl
    rw [eo]
    have nb := nb_b (l := t) (x := 97 + l) htl
    revert h75 nb
    cases nb_of (97 + l) t with
    | none => intro h75 _; exact ⟨fun w => absurd rfl w, fun _ => h75⟩
    | some o =>
      cases o with
      | none => intro h75 _; exact ⟨fun _ => ⟨fun w => absurd rfl w, fun _ => h75⟩, fun w => absurd w (by decide)⟩
      | some n =>
        intro h75 nb
        have nb : n < 10 ^ 8 := nb
        refine ⟨fun _ => ⟨fun _ => h75, fun w => absurd w (nI_nm1 (by omega))⟩, fun w => ?_⟩
        exact absurd w (fun q => nI_pos (n := n) (by omega) (by rw [show nI n = -2 from q]; decide))
  have h18 : ∀ c s, c ≤ mc → s ≤ ms → mh_of (q.2.2.2 5) r.2.2 = some (li_of r.2.2) → pq_Md_choose_18 E mc ms Post G c s m (nI k) := by
    intro c s hc hs e
    rw [e] at hp
    unfold pq_Md_choose_18
    exact ⟨h.1, 0, 0, hc, hs, sp_mleast h hk6 hk hp⟩
  unfold pq_Md_choose pq_Md_choose_0
  refine ⟨h.1, 0, 0, Nat.zero_le _, Nat.zero_le _, sp_has (h := 5) h hq hj (by decide) ?_⟩
  cases e : q.2.2.2 5 with
  | none => exact ⟨fun _ => h18 _ _ (Nat.zero_le _) (Nat.zero_le _) (by rw [e]; rfl), fun w => absurd rfl w⟩
  | some t =>
    have vo := hq.2.2.2 5 (by decide)
    rw [e] at vo
    have tl := vo.2.2.1
    have cb3 : cb_of r.2.2 ≤ 3 := by unfold cb_of; split <;> split <;> split <;> omega
    refine ⟨fun w => absurd w bo_s, fun _ => ⟨h.1, 0, 0, Nat.zero_le _, Nat.zero_le _, sp_letters h hk6 hk ⟨fun w => ⟨4, ?_⟩, fun w => h18 _ _ (Nat.zero_le _) (Nat.zero_le _) ?_⟩⟩⟩
    · have z : ¬ cb_of r.2.2 = 1 := fun z => w (by rw [z]; rfl)
      have hp2 : Post (wh_I (mh_s t r.2.2 (mh_s t r.2.2 (mh_s t r.2.2 (none, 0) 0) 1) 2).1) G := by
        rw [e] at hp
        unfold mh_of at hp
        simp only [] at hp
        rw [if_neg z] at hp
        exact hp
      refine step t 0 3 (none, 0) e tl (by decide) (by decide) (fun l0 => step t 1 2 _ e tl (by decide) l0 (fun l1 => step t 2 1 _ e tl (by decide) l1 (fun l2 => ?_)))
      unfold pq_Md_choose_32
      exact ⟨fun _ => hp2, fun w => absurd (by decide) w⟩
    · have z : cb_of r.2.2 = 1 := (nI_eq (b := 1) (by omega) (by decide)).mp w
      rw [e]
      unfold mh_of
      simp only []
      rw [if_pos z]
end MD
