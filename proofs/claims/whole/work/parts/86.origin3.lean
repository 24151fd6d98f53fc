theorem nd_get {l : List Nat} (h : l.Nodup) {i j : Nat} (hi : i < l.length) (hj : j < l.length) (e : l.getD i 0 = l.getD j 0) : i = j := by
  rw [List.getD_eq_getElem?_getD, List.getD_eq_getElem?_getD, List.getElem?_eq_getElem hi, List.getElem?_eq_getElem hj] at e
  exact (List.getElem?_inj hi h).mp (by rw [List.getElem?_eq_getElem hi, List.getElem?_eq_getElem hj]; exact congrArg some e)
theorem set_get {α : Type} {l : List α} {d v : α} {i k : Nat} (hi : i < l.length) : (l.set i v).getD k d = if k = i then v else l.getD k d := by
  rw [List.getD_eq_getElem?_getD, List.getElem?_set]
  by_cases z : i = k
  · rw [if_pos z, if_pos hi, if_pos z.symm]; rfl
  · rw [if_neg z, if_neg (fun e => z e.symm), List.getD_eq_getElem?_getD]
theorem app_get {α : Type} {l : List α} {d v : α} {k : Nat} : (l ++ [v]).getD k d = if k < l.length then l.getD k d else if k = l.length then v else d := by
  rw [List.getD_eq_getElem?_getD]
  by_cases z : k < l.length
  · rw [if_pos z, List.getElem?_append_left z, List.getD_eq_getElem?_getD]
  · rw [if_neg z, List.getElem?_append_right (by omega)]
    by_cases w : k = l.length
    · rw [if_pos w, w]; simp
    · rw [if_neg w]
      obtain ⟨n, hn⟩ : ∃ n, k - l.length = n + 1 := ⟨k - l.length - 1, by omega⟩
      rw [hn]; rfl
def nt_of (bd : List Nat) (g : Nat) : Option rpT → Nat × Nat
  | none => (g + 1, g + 1)
  | some r => if r.2.1 = bd then (r.2.2.1, g) else (g + 1, g + 1)
def st_of : Option rpT → Nat
  | none => 201
  | some _ => 204
def og_k (E : wo_E) (ow : Nat → Nat) (G : wo_W) (o : Nat) (rs : List roT) (g li lv : Nat) (os As : List Nat) : Prop := wo_ty G o = 2 ∧ en_bs E ≤ o ∧ ow o = 4 ∧ wo_gi G 65 o = nI g ∧ wo_gr G 64 o = some li ∧ li_at E ow 40 G li lv os ∧ os.length = rs.length ∧ As.length = rs.length ∧ As.Nodup ∧ ∀ i, i < rs.length → rs_v E ow G (os.getD i 0) (As.getD i 0) (rs.getD i ro_0) ∧ ow (As.getD i 0) = 4
section SP
variable {E : wo_E} {mc ms : Nat} {G G1 : wo_W} {o p g j J cp sa st gt li lv : Nat} {pa bd : List Nat} {ow ow1 : Nat → Nat} {rs : List roT} {vs : Nat → Option (List Nat)} {m : Option Nat} {rp : Option rpT} {sp : Bool} {os As : List Nat} {R : Nat → Prop}
theorem og_k.og (h : og_k E ow G o rs g li lv os As) : og_at E ow G o rs g := by
  obtain ⟨k1, k2, k3, k4, k5, k6, k7, k8, k9, k10⟩ := h
  exact ⟨k1, k2, k3, k4, li, lv, os, As, k5, k6, k7, k8, k9, k10⟩
theorem og_at.k (h : og_at E ow G o rs g) : ∃ (li lv : Nat) (os As : List Nat), og_k E ow G o rs g li lv os As := by
  obtain ⟨k1, k2, k3, k4, li, lv, os, As, k5, k6, k7, k8, k9, k10⟩ := h
  exact ⟨li, lv, os, As, k1, k2, k3, k4, k5, k6, k7, k8, k9, k10⟩
theorem og_k.xt (h : og_k E ow G o rs g li lv os As) (c : cx E ow G) (x : xt E R ow G ow1 G1) (h0 : ¬ R 0) (h4 : ¬ R 4) (h40 : ¬ R 40) : og_k E ow1 G1 o rs g li lv os As := by
  obtain ⟨k1, k2, k3, k4, k5, k6, k7, k8, k9, k10⟩ := h
  have zo : wo_ty G o ≠ 0 := by rw [k1]; decide
  have e := x.eq zo (by rw [k3]; exact h4)
  refine ⟨e.1.trans k1, k2, (x.w zo).trans k3, (e.2.2.1 _).trans k4, (e.2.2.2.2.1 _).trans k5, k6.xt c x h0 h40, k7, k8, k9, fun i hi => ?_⟩
  obtain ⟨m1, m2⟩ := k10 i hi
  have zA : wo_ty G (As.getD i 0) ≠ 0 := by rw [m1.2.2.2.2.1]; decide
  exact ⟨rs_at.xt m1 x h0 (by rw [m2]; exact h4), (x.w zA).trans m2⟩
theorem ow_lab {A : Nat} (ow : Nat → Nat) (hA : ow A ≠ 0) : ∃ ow2 : Nat → Nat, im ow2 = im ow ∧ ow2 A = 4 ∧ (∀ x, ow2 x = 4 → x = A) ∧ ∀ x, ow2 x ≠ 0 → ow x ≠ 0 := by
  refine ⟨fun x => if ow x = 0 then 0 else if x = A then 4 else 1, funext fun x => propext ?_, ?_, fun x hx => ?_, fun x hx => ?_⟩
  · show (if ow x = 0 then 0 else if x = A then 4 else 1) = 0 ↔ ow x = 0
    by_cases z : ow x = 0
    · rw [if_pos z]; exact ⟨fun _ => z, fun _ => rfl⟩
    · rw [if_neg z]
      refine ⟨fun q => ?_, fun q => absurd q z⟩
      by_cases w : x = A
      · rw [if_pos w] at q; cases q
      · rw [if_neg w] at q; cases q
  · show (if ow A = 0 then 0 else if A = A then 4 else 1) = 4
    rw [if_neg hA, if_pos rfl]
  · have hx2 : (if ow x = 0 then 0 else if x = A then 4 else 1) = 4 := hx
    by_cases z : ow x = 0
    · rw [if_pos z] at hx2; cases hx2
    · rw [if_neg z] at hx2
      by_cases w : x = A
      · exact w
      · rw [if_neg w] at hx2; cases hx2
  · intro z
    have hx2 : ¬ (if ow x = 0 then 0 else if x = A then 4 else 1) = 0 := hx
    rw [if_pos z] at hx2
    exact hx2 rfl
theorem sp_set2 {Post : wo_W → Prop} {A d b i g : Nat} {po bd po0 : List Nat} {bt : Nat → Option (List Nat × Nat)} (hb : ow_b E ow G) (h : rs_at E (im ow) G p pa A (ex_of po0 bt)) (hA : ow A ≠ 0) (hi : i < 3) (h1 : tx_i (im ow) G b bd) (h2 : bd.length ≤ 8) (h3 : tx_i (im ow) G d po) (h4 : po.length ≤ 8) (hg : g < 2 ^ 31) (hc : 4 ≤ mc) (hs : 20 ≤ ms)
    (hp : ∀ G', rs_at E (im ow) G' p pa A (ex_of po (bu_of bt i (bd, g))) → fr_W (fun x => x = A) G G' → Post G') : pq_Rs_set E mc ms Post G p (nI i) (some b) (nI g) (some d) := by
  obtain ⟨ow2, e1, e2, e3, e4⟩ := ow_lab ow hA
  rw [← e1] at h h1 h3 hp
  exact sp_set (fun a ha => hb a (e4 a ha)) h e2 hi h1 h2 h3 h4 hg hc hs (fun G' r x => hp G' r (fr_mn (fun y _ q => e3 y q) x.1))
theorem li_fr (h : li_at E ow 40 G li lv os) (f : fr_W R G G1) (nl : ¬ R li) (nv : ¬ R lv) : li_at E ow 40 G1 li lv os := by
  obtain ⟨k, h2, h3⟩ := h
  have za : wo_ty G li ≠ 0 := by rw [k.1]; decide
  have zv : wo_ty G lv ≠ 0 := by rw [k.2.2.2.2.1]; decide
  exact ⟨k.eq (f.2 _ za nl) (f.2 _ zv nv) (fun o ho => f.1 o (k.2.2.2.2.2.2.2.2.2 o ho).nz), h2, h3⟩
theorem rs_vfr {A : Nat} {r : roT} (h : rs_v E ow G p A r) (f : fr_W R G G1) (nA : ¬ R A) (nW : ∀ x, R x → ow x ≠ 0) : rs_v E ow G1 p A r := by
  obtain ⟨n1, n2, ⟨s, n3, n4⟩, n5, n6, n7, n8, n9⟩ := h
  have hW : ∀ x, R x → ¬ im ow x := fun x hx z => nW x hx z
  have ep := f.2 p (by rw [n1]; decide) (fun z => nW p z n2)
  have eA := f.2 A (by rw [n6]; decide) nA
  refine ⟨ep.1.trans n1, n2, ⟨s, (ep.2.2.2.2.1 _).trans n3, n4.fr f hW⟩, (ep.2.2.2.2.1 _).trans n5, eA.1.trans n6, eA.2.1.trans n7, n8, fun q hq => ?_⟩
  rw [eA.2.2.2.2.2.2.2]
  have k := n9 q hq
  cases e1 : wo_er G A q with
  | none => rw [e1] at k; rw [k.none rfl]; trivial
  | some x =>
    rw [e1] at k
    obtain ⟨t, e2, e3⟩ := k.some rfl
    rw [e2]
    exact rp_at.fr e3 f hW
theorem og_tag {n : Nat} (h : og_k E ow G o rs g li lv os As) : fr_W (fun x => x = o) G (wo_si G 65 o (nI n)) ∧ og_k E ow (wo_si G 65 o (nI n)) o rs n li lv os As := by
  obtain ⟨k1, k2, k3, k4, k5, k6, k7, k8, k9, k10⟩ := h
  have f : fr_W (fun x => x = o) G (wo_si G 65 o (nI n)) := fr_si rfl
  refine ⟨f, k1, k2, k3, by simp [wo_gi, wo_si, wo_u2], k5, li_fr k6 f ?_ ?_, k7, k8, k9, fun i hi => ⟨rs_vfr (k10 i hi).1 f ?_ ?_, (k10 i hi).2⟩⟩
  · intro e; have := k6.1.1; rw [e] at this; omega
  · intro e; have := k6.1.2.2.2.2.1; rw [e] at this; omega
  · intro e; have := (k10 i hi).1.2.2.2.2.1; rw [e] at this; omega
  · intro x e; rw [e, k3]; decide
theorem og_set {i : Nat} {v : roT} (h : og_k E ow G o rs g li lv os As) (hi : i < rs.length) (f : fr_W (fun x => x = As.getD i 0) G G1) (hv : rs_v E ow G1 (os.getD i 0) (As.getD i 0) v) : og_k E ow G1 o (rs.set i v) g li lv os As := by
  obtain ⟨k1, k2, k3, k4, k5, k6, k7, k8, k9, k10⟩ := h
  have tA := (k10 i hi).1.2.2.2.2.1
  have eo := f.2 o (by rw [k1]; decide) (fun e => by rw [e] at k1; omega)
  refine ⟨eo.1.trans k1, k2, k3, (eo.2.2.1 _).trans k4, (eo.2.2.2.2.1 _).trans k5, li_fr k6 f ?_ ?_, by rw [List.length_set]; exact k7, by rw [List.length_set]; exact k8, k9, fun n hn => ?_⟩
  · intro e; have := k6.1.1; rw [e] at this; omega
  · intro e; have := k6.1.2.2.2.2.1; rw [e] at this; omega
  · rw [List.length_set] at hn
    rw [set_get hi]
    by_cases z : n = i
    · rw [if_pos z, z]; exact ⟨hv, (k10 i hi).2⟩
    · rw [if_neg z]
      refine ⟨rs_vfr (k10 n hn).1 f (fun e => z (nd_get k9 (by omega) (by omega) e)) (fun x e => ?_), (k10 n hn).2⟩
      rw [e, (k10 i hi).2]; decide
theorem sp_put157 {Post : wo_W → Prop} {c s n i : Nat} {x5 : Option Nat} {old : Option rpT} (cc : cx E ow G) (h : og_k E ow G o rs g li lv os As) (hi : i < rs.length) (hn : n < 3) (hg : g + 1 < 2 ^ 31) (hb : jb_at E (im ow) G j p cp sa st rp gt sp) (hj : ow j = J) (hJ : J ≠ 0) (hJ4 : J ≠ 4) (hJ40 : J ≠ 40) (hq : rq_at (im ow) G p m pa bd vs) (hp4 : ow p ≠ 4) (hp40 : ow p ≠ 40) (hpJ : ow p ≠ J) (ho : rp_O (im ow) G x5 old) (hc : c + 4 ≤ mc) (hs : s + 20 ≤ ms)
    (hp : ∀ G', xt E (fun r => r = 4 ∨ r = 40 ∨ r = J) ow G ow G' → og_at E ow G' o (rs.set i ((rs.getD i ro_0).1, (vs 7).getD [], bu_of (rs.getD i ro_0).2.2 n (bd, (nt_of bd g old).1))) (nt_of bd g old).2 → jb_at E (im ow) G' j p cp sa (st_of old) rp (nt_of bd g old).1 sp → Post G') :
    pq_Og_put_157 E mc ms Post G c s o (some j) (some p) (nI n) x5 (some (os.getD i 0)) := by
  have hq' := hq
  obtain ⟨y1, y2, y3, ⟨y4, y5, y6⟩, ⟨y9, y10, y11, y12⟩, y8⟩ := hq'
  have n0 : ¬ (fun r => r = 4 ∨ r = 40 ∨ r = J) 0 := fun e => by rcases e with e | e | e; exact absurd e (by decide); exact absurd e (by decide); exact hJ e.symm
  have npJ : ¬ (fun r => r = 4 ∨ r = 40 ∨ r = J) (ow p) := fun e => by rcases e with e | e | e; exact hp4 e; exact hp40 e; exact hpJ e
  have nJ0 : ¬ (fun r => r = J) 0 := fun e => hJ e.symm
  have nJ4 : ¬ (fun r => r = J) 4 := fun e => hJ4 e.symm
  have nJ40 : ¬ (fun r => r = J) 40 := fun e => hJ40 e.symm
  -- the policy, the setting and the status
  have h207 : ∀ G1 c s, xt E (fun r => r = 4 ∨ r = 40 ∨ r = J) ow G ow G1 → og_k E ow G1 o rs (nt_of bd g old).2 li lv os As → jb_at E (im ow) G1 j p cp sa st rp (nt_of bd g old).1 sp → (nt_of bd g old).1 < 2 ^ 31 → c + 4 ≤ mc → s + 20 ≤ ms → pq_Og_put_207 E mc ms Post G1 c s (some j) (some p) (nI n) x5 (some (os.getD i 0)) := by
    intro G1 c s x1 og1 jb1 hgt hc hs
    have q1 := hq.xt x1 n0 npJ
    have c1 := cc.xt x1 n0
    have q1' := q1
    obtain ⟨z1, z2, z3, z4, ⟨z9, z10, z11, z12⟩, z8⟩ := q1'
    have ro1 := (og1.2.2.2.2.2.2.2.2.2 i hi)
    have z7 := z8 7 (by decide)
    have h234 : ∀ d, tx_i (im ow) G1 d ((vs 7).getD []) → ((vs 7).getD []).length ≤ 8 → pq_Og_put_234 E mc ms Post G1 c s (some j) x5 (some (os.getD i 0)) (nI n) (some z9) (nI (nt_of bd g old).1) (some d) := by
      intro d hd hd8
      unfold pq_Og_put_234
      refine ⟨_, rfl, ro1.1.1, 4, 20, by omega, by omega, sp_set2 c1.2 ro1.1 (by rw [ro1.2]; decide) hn z11 z12 hd hd8 hgt (by omega) (by omega) (fun G2 r2 f2 => ?_)⟩
      have x2 : xt E (fun r => r = 4) ow G1 ow G2 := xt.of c1.2 (fr_mn (fun y _ e => by show ow y = 4; rw [e]; exact ro1.2) f2)
      have og2 := og_set (v := ((rs.getD i ro_0).1, (vs 7).getD [], bu_of (rs.getD i ro_0).2.2 n (bd, (nt_of bd g old).1))) og1 hi f2 r2
      have jb2 := jb1.xt x2 (by decide) (by rw [hj]; exact hJ4)
      have c2 := c1.xt x2 (by decide)
      have fin : ∀ k, k = st_of old → pq_Og_put_252 E mc ms Post G2 (c + 4) (s + 20) (some j) (nI k) := by
        intro k hk
        unfold pq_Og_put_252
        refine ⟨j, rfl, jb2.1, jb2.2.1, fun G3 e3 => ?_⟩
        obtain ⟨u1, u2⟩ := jb_643 (n := k) jb2 c2.2 hj hJ
        rw [← e3] at u1 u2
        refine hp G3 ((x1.tr (x2.mn (fun a q => Or.inl q))).tr (u1.mn (fun a q => Or.inr (Or.inr q)))) (og2.xt c2 u1 nJ0 nJ4 nJ40).og ?_
        rw [← hk]
        exact u2
      refine ⟨fun e => fin 201 ?_, fun a e => fin 204 ?_⟩
      · rw [ho.none e]; rfl
      · obtain ⟨v, e1, _⟩ := ho.some e
        rw [e1]; rfl
    unfold pq_Og_put_207
    refine ⟨p, rfl, z1, fun r hr => ⟨j, rfl, jb1.1, fun r2 hr2 => ⟨fun e => ?_, fun a e r3 hr3 => ?_⟩⟩⟩
    · rw [hr, z10, jb1.2.2.2.2.2.2.2.1]
      have v7 := z7.none (hr2 ▸ e)
      obtain ⟨s1, s2, s3⟩ := c1.1.1 12 (by decide)
      have b0 : ∀ y, y < en_bs E → ow y = 0 := fun y hy => by
        apply Classical.byContradiction
        intro w
        have := (c1.2 y w).1
        omega
      rw [v7] at h234
      exact h234 _ ⟨s2, b0 _ s1, fun y hy => b0 _ (s3 y hy)⟩ (Nat.zero_le _)
    · rw [hr, z10, jb1.2.2.2.2.2.2.2.1, hr3, show wo_gr G1 522 p = some a from hr2 ▸ e]
      obtain ⟨t, e1, i1, l1⟩ := z7.some (show wo_gr G1 (515 + 7) p = some a from hr2 ▸ e)
      rw [e1] at h234
      exact h234 a i1 l1
  have h177 : ∀ c s, nt_of bd g old = (g + 1, g + 1) → c + 4 ≤ mc → s + 20 ≤ ms → pq_Og_put_177 E mc ms Post G c s o (some j) (some p) (nI n) x5 (some (os.getD i 0)) := by
    intro c s hnt hc hs
    unfold pq_Og_put_177
    refine ⟨h.1, h.2.1, fun G1 e1 => ⟨j, rfl, ?_⟩⟩
    rw [h.2.2.2.1, nI_1] at e1
    obtain ⟨f1, og1⟩ := og_tag (n := g + 1) h
    rw [← e1] at f1 og1
    have x1 : xt E (fun r => r = 4) ow G ow G1 := xt.of cc.2 (fr_mn (fun y _ e => by show ow y = 4; rw [e]; exact h.2.2.1) f1)
    have jb1 := hb.xt x1 (by decide) (by rw [hj]; exact hJ4)
    have c1 := cc.xt x1 (by decide)
    refine ⟨jb1.1, jb1.2.1, fun G2 e2 => ?_⟩
    rw [og1.2.2.2.1] at e2
    obtain ⟨u1, u2⟩ := jb_645 (n := g + 1) jb1 c1.2 hj hJ
    rw [← e2] at u1 u2
    refine h207 G2 c s ((x1.mn (fun a q => Or.inl q)).tr (u1.mn (fun a q => Or.inr (Or.inr q)))) ?_ ?_ (by rw [hnt]; exact hg) hc hs
    · rw [hnt]; exact og1.xt c1 u1 nJ0 nJ4 nJ40
    · rw [hnt]; exact u2
  unfold pq_Og_put_157
  refine ⟨fun e => ?_, fun a e => ?_⟩
  · rw [← e]
    have eo := ho.none e
    exact h177 c s (by rw [eo]; rfl) hc hs
  · obtain ⟨v, e1, e2⟩ := ho.some e
    have e2' := e2
    obtain ⟨g1, g2, g3, g4, ⟨q1, g5, g6, g7⟩, g8, g9, _⟩ := e2'
    refine ⟨g1, fun r hr => ⟨p, rfl, y1, fun r2 hr2 => ⟨q1, hr.trans g5, g6.1.1, 0, 0, by omega, by omega, ?_⟩⟩⟩
    rw [hr2, y10]
    refine sp_equals g6.1 y11.1 ?_
    by_cases z : v.2.1 = bd
    · rw [if_pos z]
      have hnt : nt_of bd g old = (v.2.2.1, g) := by
        rw [e1]
        show (if v.2.1 = bd then _ else _) = _
        rw [if_pos z]
      refine ⟨fun _ => ⟨g1, j, rfl, hb.1, hb.2.1, fun G2 e3 => ?_⟩, fun w => absurd w (by decide)⟩
      rw [g8] at e3
      obtain ⟨u1, u2⟩ := jb_645 (n := v.2.2.1) hb cc.2 hj hJ
      rw [← e3] at u1 u2
      rw [← e]
      refine h207 G2 _ _ (u1.mn (fun a q => Or.inr (Or.inr q))) ?_ ?_ (by rw [hnt]; exact g9) (by omega) (by omega)
      · rw [hnt]; exact h.xt cc u1 nJ0 nJ4 nJ40
      · rw [hnt]; exact u2
    · rw [if_neg z]
      have hnt : nt_of bd g old = (g + 1, g + 1) := by
        rw [e1]
        show (if v.2.1 = bd then _ else _) = _
        rw [if_neg z]
      rw [← e]
      exact ⟨fun w => absurd rfl w, fun _ => h177 _ _ hnt (by omega) (by omega)⟩
end SP
