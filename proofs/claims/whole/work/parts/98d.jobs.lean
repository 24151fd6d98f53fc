abbrev jobT : Type := Nat × Nat × Nat × Nat × Nat × Option rpT × Nat × Bool
def jb_0 : jobT := (0, 0, 0, 0, 0, none, 0, false)
def rid (j : jobT) : Nat := 200 + 32 * j.1 + j.2.1
def j_sa (j : jobT) (n : Nat) : jobT := (j.1, j.2.1, j.2.2.1, n, j.2.2.2.2)
def jb_v (E : wo_E) (ow : Nat → Nat) (G : wo_W) (ra : Nat → Nat → Nat) (a : Nat) (j : jobT) : Prop := jb_at E (im ow) G a (ra j.1 j.2.1) j.2.2.1 j.2.2.2.1 j.2.2.2.2.1 j.2.2.2.2.2.1 j.2.2.2.2.2.2.1 j.2.2.2.2.2.2.2 ∧ ow a = rid j
def jb_o (E : wo_E) (ow : Nat → Nat) (G : wo_W) (ra : Nat → Nat → Nat) (r : Option Nat) (o : Option jobT) : Prop := match r, o with
  | none, none => True
  | some a, some j => jb_v E ow G ra a j
  | _, _ => False
def sj_at (E : wo_E) (ow : Nat → Nat) (G : wo_W) (sj : Nat) (ra : Nat → Nat → Nat) (sn : Nat → Option jobT) : Prop := wo_ty G sj = 67 ∧ wo_len G sj = 2 ∧ en_bs E ≤ sj ∧ ow sj = 71 ∧ ∀ u, u < 2 → jb_o E ow G ra (wo_er G sj u) (sn u)
def wl_at (E : wo_E) (ow : Nat → Nat) (G : wo_W) (wl : Nat) (ra : Nat → Nat → Nat) (wt : List jobT) : Prop := ∃ (wv : Nat) (os : List Nat), li_at E ow 70 G wl wv os ∧ os.length = wt.length ∧ ∀ i, i < wt.length → jb_v E ow G ra (os.getD i 0) (wt.getD i jb_0)
def ec_o (E : wo_E) (ow : Nat → Nat) (G : wo_W) (x ca og so sh sj wl now : Nat) : Prop := wo_ty G x = 1 ∧ en_bs E ≤ x ∧ ow x = 7 ∧ wo_gr G 0 x = some ca ∧ wo_gr G 1 x = some og ∧ wo_gr G 2 x = some so ∧ wo_gr G 3 x = some sh ∧ wo_gr G 4 x = some sj ∧ wo_gr G 5 x = some wl ∧ wo_gi G 6 x = nI now
def js_ok (wt : List jobT) (sn : Nat → Option jobT) : Prop := (wt.map rid).Nodup ∧ (∀ u j, u < 2 → sn u = some j → rid j ∉ wt.map rid) ∧ (∀ j0 j1, sn 0 = some j0 → sn 1 = some j1 → rid j0 ≠ rid j1) ∧ (∀ j ∈ wt, j.1 < 2 ∧ j.2.1 < 20) ∧ ∀ u j, u < 2 → sn u = some j → j.1 < 2 ∧ j.2.1 < 20
def sw_1 (now u : Nat) (q : List jobT × (Nat → Option jobT)) : List jobT × (Nat → Option jobT) := match q.2 u, q.1 with
  | none, j :: l => (l, fun k => if k = u then some (j_sa j now) else q.2 k)
  | _, _ => q
def sw_of (now : Nat) (q : List jobT × (Nat → Option jobT)) : List jobT × (Nat → Option jobT) := sw_1 now 1 (sw_1 now 0 q)
def Rsw : Nat → Prop := fun r => r = 70 ∨ r = 71 ∨ 200 ≤ r ∧ r < 300
def RswL (wt : List jobT) : Nat → Prop := fun r => r = 70 ∨ r = 71 ∨ r ∈ wt.map rid
def spl_of (pa : List Nat) (rv : Nat → Nat → rqT) : Option jobT → Option jobT
  | none => none
  | some j => if (((rv j.1 j.2.1).1 = some 0 ∨ (rv j.1 j.2.1).1 = some 1) ∧ (rv j.1 j.2.1).2.1 = pa) then some (j.1, j.2.1, j.2.2.1, j.2.2.2.1, j.2.2.2.2.1, j.2.2.2.2.2.1, j.2.2.2.2.2.2.1, true) else some j
section SP
variable {E : wo_E} {mc ms : Nat} {G G1 : wo_W} {x ca og so sh sj wl now : Nat} {ow ow1 : Nat → Nat} {R : Nat → Prop} {ra : Nat → Nat → Nat} {sn : Nat → Option jobT} {wt : List jobT}
theorem jb_v.xt {a : Nat} {j : jobT} (h : jb_v E ow G ra a j) (y : xt E R ow G ow1 G1) (h0 : ¬ R 0) (hj : ¬ R (rid j)) : jb_v E ow1 G1 ra a j := by
  have za : wo_ty G a ≠ 0 := by rw [h.1.1]; decide
  exact ⟨h.1.xt y h0 (by rw [h.2]; exact hj), (y.w za).trans h.2⟩
theorem jb_o.xt {r : Option Nat} {o : Option jobT} (h : jb_o E ow G ra r o) (y : xt E R ow G ow1 G1) (h0 : ¬ R 0) (hj : ∀ j, o = some j → ¬ R (rid j)) : jb_o E ow1 G1 ra r o := by
  cases r with
  | none => cases o with
    | none => exact h
    | some j => exact h
  | some a => cases o with
    | none => exact h
    | some j => exact jb_v.xt h y h0 (hj j rfl)
theorem jb_o.none {r : Option Nat} {o : Option jobT} (h : jb_o E ow G ra r o) (e : r = Option.none) : o = Option.none := by
  cases o with
  | none => rfl
  | some t => rw [e] at h; exact False.elim h
theorem jb_o.some {r : Option Nat} {o : Option jobT} {a : Nat} (h : jb_o E ow G ra r o) (e : r = Option.some a) : ∃ j, o = Option.some j ∧ jb_v E ow G ra a j := by
  cases o with
  | none => rw [e] at h; exact False.elim h
  | some t => rw [e] at h; exact ⟨t, rfl, h⟩
theorem sj_at.xt (h : sj_at E ow G sj ra sn) (y : xt E R ow G ow1 G1) (h0 : ¬ R 0) (h71 : ¬ R 71) (hj : ∀ u j, u < 2 → sn u = some j → ¬ R (rid j)) : sj_at E ow1 G1 sj ra sn := by
  obtain ⟨k1, k2, k3, k4, k5⟩ := h
  have zs : wo_ty G sj ≠ 0 := by rw [k1]; decide
  have e := y.eq zs (by rw [k4]; exact h71)
  exact ⟨e.1.trans k1, e.2.1.trans k2, k3, (y.w zs).trans k4, fun u hu => by rw [e.2.2.2.2.2.2.2]; exact (k5 u hu).xt y h0 (fun j hj2 => hj u j hu hj2)⟩
theorem wl_at.xt (h : wl_at E ow G wl ra wt) (c : cx E ow G) (y : xt E R ow G ow1 G1) (h0 : ¬ R 0) (h70 : ¬ R 70) (hj : ∀ j ∈ wt, ¬ R (rid j)) : wl_at E ow1 G1 wl ra wt := by
  obtain ⟨wv, os, k1, k2, k3⟩ := h
  refine ⟨wv, os, k1.xt c y h0 h70, k2, fun i hi => (k3 i hi).xt y h0 (hj _ ?_)⟩
  rw [List.getD_eq_getElem?_getD, List.getElem?_eq_getElem hi]
  exact List.getElem_mem hi
theorem ec_o.xt (h : ec_o E ow G x ca og so sh sj wl now) (y : xt E R ow G ow1 G1) (h7 : ¬ R 7) : ec_o E ow1 G1 x ca og so sh sj wl now := by
  obtain ⟨k1, k2, k3, k4, k5, k6, k7, k8, k9, k10⟩ := h
  have zx : wo_ty G x ≠ 0 := by rw [k1]; decide
  have e := y.eq zx (by rw [k3]; exact h7)
  exact ⟨e.1.trans k1, k2, (y.w zx).trans k3, (e.2.2.2.2.1 _).trans k4, (e.2.2.2.2.1 _).trans k5, (e.2.2.2.2.1 _).trans k6, (e.2.2.2.2.1 _).trans k7, (e.2.2.2.2.1 _).trans k8, (e.2.2.2.2.1 _).trans k9, (e.2.2.1 _).trans k10⟩
theorem rid_b {j : jobT} (h : j.1 < 2 ∧ j.2.1 < 20) : 200 ≤ rid j ∧ rid j < 300 := by unfold rid; omega
theorem RswL_e (h : js_ok wt sn) : ∀ r, RswL wt r → Rsw r := by
  intro r z
  rcases z with z | z | z
  · exact Or.inl z
  · exact Or.inr (Or.inl z)
  · obtain ⟨j, hj, e⟩ := List.mem_map.mp z
    have := rid_b (h.2.2.2.1 j hj)
    exact Or.inr (Or.inr (by omega))
theorem js_sw {u : Nat} (h : js_ok wt sn) (hu : u < 2) : js_ok (sw_1 now u (wt, sn)).1 (sw_1 now u (wt, sn)).2 := by
  obtain ⟨h1, h2, h3, h4, h5⟩ := h
  unfold sw_1
  cases e : sn u with
  | some j => simp only [e]; exact ⟨h1, h2, h3, h4, h5⟩
  | none =>
    cases wt with
    | nil => simp only [e]; exact ⟨h1, h2, h3, h4, h5⟩
    | cons j l =>
      simp only [e]
      have h1' := List.nodup_cons.mp h1
      have rj : rid (j_sa j now) = rid j := rfl
      refine ⟨h1'.2, fun k i hk hi => ?_, fun j0 j1 e0 e1 => ?_, fun i hi => h4 i (List.mem_cons_of_mem _ hi), fun k i hk hi => ?_⟩
      · simp only [] at hi
        by_cases z : k = u
        · rw [if_pos z] at hi; cases hi; rw [rj]; exact h1'.1
        · rw [if_neg z] at hi
          exact fun q => h2 k i hk hi (List.mem_cons_of_mem _ q)
      · simp only [] at e0 e1
        by_cases z0 : 0 = u
        · rw [if_pos z0] at e0; cases e0
          rw [if_neg (by omega)] at e1
          rw [rj]
          exact fun q => h2 1 j1 (by omega) e1 (by rw [← q]; exact List.mem_cons_self)
        · rw [if_neg z0] at e0
          have z1 : 1 = u := by omega
          rw [if_pos z1] at e1; cases e1
          rw [rj]
          exact fun q => h2 0 j0 (by omega) e0 (by rw [q]; exact List.mem_cons_self)
      · simp only [] at hi
        by_cases z : k = u
        · rw [if_pos z] at hi; cases hi; exact h4 j List.mem_cons_self
        · rw [if_neg z] at hi; exact h5 k i hk hi
theorem sp_sw1 {Post : wo_W → Prop} {u n c s : Nat} (cc : cx E ow G) (ho : ec_o E ow G x ca og so sh sj wl now) (hsj : sj_at E ow G sj ra sn) (hwl : wl_at E ow G wl ra wt) (hok : js_ok wt sn) (hlen : wt.length ≤ 1000) (hu : u < 2) (hc : c ≤ mc) (hs : s ≤ ms)
    (hp : ∀ G', xt E (RswL wt) ow G ow G' → sj_at E ow G' sj ra (sw_1 now u (wt, sn)).2 → wl_at E ow G' wl ra (sw_1 now u (wt, sn)).1 → pq_EC_sendWaiting_2 E mc ms Post n G' c s x (nI (u + 1))) : pq_EC_sendWaiting_2 E mc ms Post (n + 1) G c s x (nI u) := by
  have ho' := ho
  obtain ⟨k1, k2, k3, k4, k5, k6, k7, k8, k9, k10⟩ := ho'
  have hsj' := hsj
  obtain ⟨s1, s2, s3, s4, s5⟩ := hsj'
  have hwl' := hwl
  obtain ⟨wv, os, w1, w2, w3⟩ := hwl'
  obtain ⟨o1, o2, o3, o4, o5⟩ := hok
  have su := s5 u hu
  have vi : vp_in (nI u) (wo_len G sj) := by rw [s2]; exact vp_in_nI hu (by decide)
  have same : sw_1 now u (wt, sn) = (wt, sn) → pq_EC_sendWaiting_2 E mc ms Post n G c s x (nI u + 1) := by
    intro e
    rw [e] at hp
    rw [nI_1]
    exact hp G (xt.rf cc.2) hsj hwl
  unfold pq_EC_sendWaiting_2 pq_EC_sendWaiting_53
  refine ⟨fun w => absurd w (nI_ge (b := 2) hu (by decide)), fun _ => ⟨k1, fun r hr => ⟨sj, hr.trans k8, s1, vi, fun r7 hr7 => ⟨fun e => ?_, fun a e => ?_⟩⟩⟩⟩
  · rw [nI_clamp (by omega)] at hr7
    have en := su.none (hr7 ▸ e)
    intro r10 hr10
    refine ⟨wl, hr10.trans k9, w1.1.1, 0, 0, hc, hs, sp_alEmpty w1.1 ⟨fun w => ?_, fun w => ?_⟩⟩
    · have ez : os = [] := Classical.byContradiction fun z => w (if_neg z)
      have wz : wt = [] := List.length_eq_zero_iff.mp (by rw [← w2, ez]; rfl)
      refine same ?_
      unfold sw_1
      rw [wz]
      simp only [en]
    · have ez : ¬ os = [] := fun z => by rw [if_pos z] at w; exact absurd w (by decide)
      have lpos : 0 < os.length := List.length_pos_iff.mpr ez
      refine ⟨k1, fun r19 hr19 => ⟨wl, hr19.trans k9, w1.1.1, 0, 0, hc, hs, ?_⟩⟩
      rw [show (0 : Int32) = nI 0 from rfl]
      refine li_rem cc w1 (by decide) lpos (fun G2 y2 f2 l2 => ?_)
      cases hwt : wt with
      | nil => rw [hwt] at w2; exact absurd lpos (by rw [w2]; exact Nat.lt_irrefl _)
      | cons j l =>
        have j0 := w3 0 (by omega)
        rw [hwt] at j0
        have j0' : jb_v E ow G ra (os.getD 0 0) j := j0
        have jm : j ∈ wt := by rw [hwt]; exact List.mem_cons_self
        have rb := rid_b (o4 j jm)
        have j2 := j0'.xt y2 (by decide) (by omega)
        have c2 := cc.xt y2 (by decide)
        have zx : wo_ty G x ≠ 0 := by rw [k1]; decide
        have ex2 := y2.eq zx (by rw [k3]; decide)
        refine ⟨fun a ha => (by cases ha; exact j2.1.1), ex2.1.trans k1, os.getD 0 0, rfl, j2.1.1, j2.1.2.1, fun G3 e3 => ?_⟩
        rw [ex2.2.2.1, k10] at e3
        obtain ⟨y3, jb3⟩ := jb_642 (n := now) j2.1 c2.2 j2.2 (by omega)
        rw [← e3] at y3 jb3
        have c3 := c2.xt y3 (by omega)
        have zs : wo_ty G sj ≠ 0 := by rw [s1]; decide
        have es2 := y2.eq zs (by rw [s4]; decide)
        have es3 := y3.eq (y2.nz zs) (by rw [s4]; omega)
        have ts3 : wo_ty G3 sj = 67 := es3.1.trans (es2.1.trans s1)
        have ex3 := y3.eq (y2.nz zx) (by rw [k3]; omega)
        intro r34 hr34
        refine ⟨sj, hr34.trans ((ex3.2.2.2.2.1 _).trans ((ex2.2.2.2.2.1 _).trans k8)), ts3, by rw [es3.2.1, es2.2.1]; exact vi, s3, fun a ha => (by cases ha; exact ⟨10, jb3.1, by decide⟩), fun G4 e4 => ?_⟩
        rw [nI_clamp (by omega)] at e4
        have y4 : xt E (fun r => r = 71) ow G3 ow G4 := xt.of c3.2 (by rw [e4]; exact fr_ser s4)
        have y14 : xt E (RswL wt) ow G ow G4 := ((y2.mn (fun r z => Or.inl z)).tr (y3.mn (fun r z => by rw [show r = rid j from z]; exact Or.inr (Or.inr (List.mem_map.mpr ⟨j, jm, rfl⟩))))).tr (y4.mn (fun r z => Or.inr (Or.inl z)))
        have y13 : xt E (fun r => r = 70 ∨ r = rid j) ow G ow G3 := (y2.mn (fun r z => Or.inl z)).tr (y3.mn (fun r z => Or.inr z))
        rw [nI_1]
        have e5 : sw_1 now u (wt, sn) = (l, fun k => if k = u then some (j_sa j now) else sn k) := by
          unfold sw_1
          rw [hwt]
          simp only [en]
        rw [e5] at hp
        have er4 : ∀ k, wo_er G4 sj k = if k = u then some (os.getD 0 0) else wo_er G3 sj k := fun k => by rw [e4]; simp [wo_er, wo_ser, wo_u2]
        refine hp G4 y14 ⟨by rw [e4]; exact ts3, by rw [e4]; show wo_len G3 sj = 2; rw [es3.2.1, es2.2.1]; exact s2, s3, s4, fun k hk => ?_⟩ ⟨wv, os.eraseIdx 0, (l2.xt c2 y3 (by omega) (by omega)).xt c3 y4 (by decide) (by decide), ?_, fun i hi => ?_⟩
        · show jb_o E ow G4 ra (wo_er G4 sj k) (if k = u then some (j_sa j now) else sn k)
          rw [er4]
          by_cases z : k = u
          · rw [if_pos z, if_pos z]
            have q3 : jb_v E ow G3 ra (os.getD 0 0) (j_sa j now) := ⟨jb3, j2.2⟩
            exact q3.xt y4 (by decide) (by show ¬ rid (j_sa j now) = 71; rw [show rid (j_sa j now) = rid j from rfl]; omega)
          · rw [if_neg z, if_neg z, es3.2.2.2.2.2.2.2, es2.2.2.2.2.2.2.2]
            refine ((s5 k hk).xt y13 (by rintro (z | z) <;> omega) (fun i hi => ?_)).xt y4 (by decide) (fun i hi => ?_)
            · have ib := rid_b (o5 k i hk hi)
              rintro (q | q)
              · omega
              · exact o2 k i hk hi (by rw [q]; exact List.mem_map.mpr ⟨j, jm, rfl⟩)
            · have ib := rid_b (o5 k i hk hi)
              show ¬ rid i = 71
              omega
        · rw [List.length_eraseIdx_of_lt lpos, w2, hwt]; rfl
        · have hi2 : i + 1 < wt.length := by rw [hwt, List.length_cons]; exact Nat.succ_lt_succ hi
          rw [er_get, if_neg (Nat.not_lt_zero _)]
          have k5' := w3 (i + 1) hi2
          have e6 : wt.getD (i + 1) jb_0 = l.getD i jb_0 := by rw [hwt]; rfl
          rw [e6] at k5'
          have im : l.getD i jb_0 ∈ l := by rw [List.getD_eq_getElem?_getD, List.getElem?_eq_getElem hi]; exact List.getElem_mem hi
          have im2 : l.getD i jb_0 ∈ wt := by rw [hwt]; exact List.mem_cons_of_mem _ im
          have ib := rid_b (o4 _ im2)
          have nd : rid j ≠ rid (l.getD i jb_0) := by
            rw [hwt] at o1
            have := (List.nodup_cons.mp o1).1
            exact fun q => this (by rw [q]; exact List.mem_map.mpr ⟨_, im, rfl⟩)
          exact (k5'.xt y13 (by rintro (z | z) <;> omega) (by rintro (z | z) <;> omega)).xt y4 (by decide) (by show ¬ rid (l.getD i jb_0) = 71; omega)
  · rw [nI_clamp (by omega)] at hr7
    obtain ⟨j, e1, _⟩ := su.some (hr7 ▸ e)
    refine same ?_
    unfold sw_1
    simp only [e1]
theorem sp_sendWaiting {Post : wo_W → Prop} (cc : cx E ow G) (ho : ec_o E ow G x ca og so sh sj wl now) (hsj : sj_at E ow G sj ra sn) (hwl : wl_at E ow G wl ra wt) (hok : js_ok wt sn) (hlen : wt.length ≤ 1000)
    (hp : ∀ G', xt E (RswL wt) ow G ow G' → sj_at E ow G' sj ra (sw_of now (wt, sn)).2 → wl_at E ow G' wl ra (sw_of now (wt, sn)).1 → Post G') : pq_EC_sendWaiting E mc ms Post G x := by
  have ge : ∀ r, r < 70 → ¬ RswL wt r := fun r hr z => by have := RswL_e hok r z; rcases this with z | z | z <;> omega
  unfold pq_EC_sendWaiting pq_EC_sendWaiting_0
  refine ⟨3, ?_⟩
  rw [show (0 : Int32) = nI 0 from rfl]
  refine sp_sw1 cc ho hsj hwl hok hlen (by decide) (Nat.zero_le _) (Nat.zero_le _) (fun G1 y1 sj1 wl1 => ?_)
  have ok1 := js_sw (now := now) hok (u := 0) (by decide)
  have len1 : (sw_1 now 0 (wt, sn)).1.length ≤ 1000 := by
    unfold sw_1
    split
    · rename_i j l e1 e2
      have e2' : wt = j :: l := e2
      rw [e2', List.length_cons] at hlen
      show l.length ≤ 1000
      omega
    · exact hlen
  refine sp_sw1 (wt := (sw_1 now 0 (wt, sn)).1) (sn := (sw_1 now 0 (wt, sn)).2) (cc.xt y1 (ge 0 (by decide))) (ho.xt y1 (ge 7 (by decide))) sj1 wl1 ok1 len1 (by decide) (Nat.zero_le _) (Nat.zero_le _) (fun G2 y2 sj2 wl2 => ?_)
  unfold pq_EC_sendWaiting_2
  have sub : ∀ r, RswL (sw_1 now 0 (wt, sn)).1 r → RswL wt r := by
    intro r z
    rcases z with z | z | z
    · exact Or.inl z
    · exact Or.inr (Or.inl z)
    · refine Or.inr (Or.inr ?_)
      unfold sw_1 at z
      split at z
      · rename_i j l e1 e2
        have e2' : wt = j :: l := e2
        rw [e2', List.map_cons]
        exact List.mem_cons_of_mem _ z
      · exact z
  exact ⟨fun _ => hp G2 (y1.tr (y2.mn sub)) sj2 wl2, fun w => absurd (by decide) w⟩
theorem sp_spoil {Post : wo_W → Prop} {q : Nat} {r : Option Nat} {o : Option jobT} {pa : List Nat} {rv : Nat → Nat → rqT} (cc : cx E ow G) (ho : jb_o E ow G ra r o) (hb : ∀ j, o = some j → 200 ≤ rid j ∧ rid j < 300) (hq : ∀ j, o = some j → rq_v (im ow) G (ra j.1 j.2.1) (rv j.1 j.2.1)) (hS : tx_S G q pa)
    (hp : ∀ G', xt E (fun r => 200 ≤ r ∧ r < 300 ∧ ∃ j, o = some j ∧ r = rid j) ow G ow G' → jb_o E ow G' ra r (spl_of pa rv o) → Post G') : pq_EC_spoil E mc ms Post G r (some q) := by
  unfold pq_EC_spoil pq_EC_spoil_0 pq_EC_spoil_33
  refine ⟨fun e => ?_, fun a e => ?_⟩
  · have eo := ho.none e
    rw [eo] at hp ho
    exact hp G (xt.rf cc.2) ho
  · obtain ⟨j, eo, jv⟩ := ho.some e
    rw [eo] at hp ho hb hq
    have hq' := hq j rfl
    have hb' := hb j rfl
    have hq'' := hq'
    obtain ⟨y1, y2, y3, ⟨y4, y5, y6⟩, _⟩ := hq''
    have same : ¬ (((rv j.1 j.2.1).1 = some 0 ∨ (rv j.1 j.2.1).1 = some 1) ∧ (rv j.1 j.2.1).2.1 = pa) → Post G := by
      intro z
      unfold spl_of at hp
      simp only [] at hp
      rw [if_neg z] at hp
      exact hp G (xt.rf cc.2) ho
    refine ⟨jv.1.1, fun r3 hr3 => ⟨_, hr3.trans jv.1.2.2.1, y1, 0, 0, Nat.zero_le _, Nat.zero_le _, sp_isRead hq' ?_⟩⟩
    by_cases z : (rv j.1 j.2.1).1 = some 0 ∨ (rv j.1 j.2.1).1 = some 1
    · rw [decide_eq_true z]
      refine ⟨fun w => absurd w (by decide), fun _ => ⟨jv.1.1, fun r12 hr12 => ⟨_, hr12.trans jv.1.2.2.1, y1, fun r16 hr16 => ⟨y4, hr16.trans y5, y6.1.1, 0, 0, Nat.zero_le _, Nat.zero_le _, sp_equals y6.1 hS ?_⟩⟩⟩⟩
      by_cases w : (rv j.1 j.2.1).2.1 = pa
      · rw [if_pos w]
        refine ⟨fun w => absurd w (by decide), fun _ => ⟨jv.1.1, jv.1.2.1, tx_ok1, fun G2 e2 => ?_⟩⟩
        obtain ⟨y7, jb7⟩ := jb_646 (b := true) jv.1 cc.2 jv.2 (by omega)
        have e2' : G2 = wo_si G 646 a (bo_I true) := e2
        rw [← e2'] at y7 jb7
        unfold spl_of at hp
        simp only [] at hp
        rw [if_pos ⟨z, w⟩] at hp
        refine hp G2 (y7.mn (fun r q => ⟨by rw [show r = rid j from q]; exact hb'.1, by rw [show r = rid j from q]; exact hb'.2, j, rfl, q⟩)) ?_
        rw [e]
        exact ⟨jb7, jv.2⟩
      · rw [if_neg w]
        exact ⟨fun _ => same (fun q => w q.2), fun w => absurd rfl w⟩
    · rw [decide_eq_false z]
      exact ⟨fun _ => same (fun q => z q.1), fun w => absurd rfl w⟩
end SP
