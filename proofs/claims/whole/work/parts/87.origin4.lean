def pu_old (pa : List Nat) (rs : List roT) (n : Nat) : Option rpT := match io_of pa rs with
  | none => none
  | some i => rx_ex rs i n
def pu_rs (pa po : List Nat) (rs : List roT) (n : Nat) (q : List Nat × Nat) : List roT := match io_of pa rs with
  | none => rs ++ [(pa, po, bu_of (fun _ => none) n q)]
  | some i => rs.set i ((rs.getD i ro_0).1, po, bu_of (rs.getD i ro_0).2.2 n q)
def pu_of (pa bd : List Nat) (vs : Nat → Option (List Nat)) (rs : List roT) (g : Nat) : Nat × Nat × List roT × Nat := match pl_at (vs 6) with
  | none => (415, 0, rs, g)
  | some n => if fb_of vs (rt_of (pu_old pa rs n)) = true then (412, 0, rs, g)
    else if io_of pa rs = none ∧ 6 ≤ rs.length then (507, 0, rs, g)
    else (st_of (pu_old pa rs n), (nt_of bd g (pu_old pa rs n)).1, pu_rs pa ((vs 7).getD []) rs n (bd, (nt_of bd g (pu_old pa rs n)).1), (nt_of bd g (pu_old pa rs n)).2)
section SP
variable {E : wo_E} {mc ms : Nat} {G G1 : wo_W} {o p g j J cp sa st gt li lv : Nat} {pa bd : List Nat} {ow ow1 : Nat → Nat} {rs : List roT} {vs : Nat → Option (List Nat)} {m : Option Nat} {rp : Option rpT} {sp : Bool} {os As : List Nat} {R : Nat → Prop}
theorem li_add {Post : Int32 → wo_W → Prop} {r a v o : Nat} {os : List Nat} (c : cx E ow G) (h : li_at E ow r G a v os) (hr : r ≠ 0) (ho : la_el G o) (hoa : o ≠ a) (hov : o ≠ v) (hn : os.length + 1 ≤ 1000) (h1 : 1 ≤ mc) (h2 : max 10 (2 * (os.length + 1)) ≤ ms)
    (hp : ∀ w ow' G', xt E (fun q => q = r) ow G ow' G' → li_at E ow' r G' a w (os ++ [o]) → Post 1 G') : pq_Al_add_O E mc ms Post G a (some o) := by
  obtain ⟨k, k2, k3⟩ := h
  have za : wo_ty G a ≠ 0 := by rw [k.1]; decide
  have zv : wo_ty G v ≠ 0 := by rw [k.2.2.2.2.1]; decide
  have sb := c.1.2.2.1
  refine sp_alAdd k ho hoa hov hn h1 h2 (fun w G' l1 hw hwb f1 _ => ?_)
  have x : xt E (fun q => q = r) ow G (ow_ex ow G r [w]) G' := by
    refine xt.ex c.2 (fun y hy _ => ?_) (fr_mn (fun y _ q => ?_) f1)
    · rw [List.mem_singleton.mp hy]
      exact ⟨hwb, by rw [l1.2.2.2.2.1]; decide⟩
    · rcases q with q | q
      · rw [q]; exact k2
      · rw [q.1]
        rcases k3 with z | z
        · exact absurd q.2 (by rw [z]; omega)
        · exact z
  refine hp w _ G' x ⟨l1, (x.w za).trans k2, Or.inr ?_⟩
  rcases hw with q | q
  · rw [ow_old (show wo_ty G w ≠ 0 by rw [q]; exact zv), q]
    rcases k3 with z | z
    · exact absurd hwb (by rw [q, z]; omega)
    · exact z
  · exact ow_new q (List.mem_singleton.mpr rfl)
theorem sp_rsNew {Post : wo_W → Prop} {q y : Nat} (c : cx E ow G) (hq : wo_ty G q = 0) (hqb : en_bs E ≤ q) (hS : tx_i (im ow) G y pa) (h1 : 1 ≤ mc) (h2 : 3 ≤ ms)
    (hp : ∀ A ow' G', xt E (fun _ => False) ow G ow' G' → ow' A = 4 → wo_ty G A = 0 → wo_ty G' q = 12 → rs_at E (im ow') G' q pa A (fun _ => none) → Post G') : pq_Rs_init E mc ms Post (wo_new G q 12) q (some y) := by
  unfold pq_Rs_init pq_Rs_init_0
  refine ⟨by decide, by decide, by omega, by show 0 + 3 ≤ ms; omega, fun A hA hAb G2 e2 => ?_⟩
  have tq : wo_ty (wo_new G q 12) q = 12 := by simp [wo_ty, wo_new, wo_u1]
  have qA : q ≠ A := fun e => by rw [← e, tq] at hA; cases hA
  have A0 : wo_ty G A = 0 := fr_new0 (fr_new (W := fr_0) (k := 12) hq) hA
  have t2 : wo_ty G2 q = 12 := by rw [e2]; exact (wo_eq_na qA).1.trans tq
  refine ⟨t2, hqb, fun G3 e3 => ⟨hqb, fun G4 e4 => ?_⟩⟩
  have f : fr_W (fun x => x = q ∨ x = A) G G4 := by
    rw [e4, e3, e2]
    exact fr_tr (fr_tr (fr_tr (fr_new hq) (fr_na hA)) (fr_sr (Or.inl rfl))) (fr_sr (Or.inl rfl))
  have f0 : fr_W fr_0 G G4 := fr_mn (fun a ha e => by rcases e with e | e; exact ha (by rw [e]; exact hq); exact ha (by rw [e]; exact A0)) f
  have t4 : wo_ty G4 q = 12 := by rw [e4, e3]; exact t2
  have tA : wo_ty G4 A = 70 := by rw [e4, e3, e2]; simp [wo_ty, wo_na, wo_sr, wo_u1]
  have x : xt E (fun _ => False) ow G (ow_ex ow G 4 [A]) G4 := xt.ex c.2 (fun z hz _ => by rw [List.mem_singleton.mp hz]; exact ⟨hAb, by rw [tA]; decide⟩) (fr_mn (fun a _ z => False.elim z) f0)
  refine hp A _ G4 x (ow_new A0 (List.mem_singleton.mpr rfl)) A0 t4 ⟨t4, ow_non hq (fun z => qA (List.mem_singleton.mp z)), ⟨y, ?_, hS.xt x (fun z => z)⟩, ?_, tA, ?_, hAb, fun i hi => ?_⟩
  · rw [e4]; simp [wo_gr, wo_sr, wo_u2]
  · rw [e4, e3]; simp [wo_gr, wo_sr, wo_u2]
  · rw [e4, e3, e2]; simp [wo_len, wo_na, wo_sr, wo_u1]
  · have : wo_er G4 A i = none := by rw [e4, e3, e2]; simp [wo_er, wo_na, wo_sr, wo_ur]
    rw [this]
    trivial
theorem sp_ogPut {Post : wo_W → Prop} (c : cx E ow G) (h : og_at E ow G o rs g) (hl : rs.length ≤ 6) (hg : g + 1 < 2 ^ 31) (hb : jb_at E (im ow) G j p cp sa st rp 0 sp) (hj : ow j = J) (hJ : J ≠ 0) (hJ4 : J ≠ 4) (hJ40 : J ≠ 40) (hq : rq_at (im ow) G p m pa bd vs) (hp4 : ow p ≠ 4) (hp40 : ow p ≠ 40) (hpJ : ow p ≠ J) (h1 : 8 ≤ mc) (h2 : 60 ≤ ms)
    (hp : ∀ ow' G', xt E (fun r => r = 4 ∨ r = 40 ∨ r = J) ow G ow' G' → og_at E ow' G' o (pu_of pa bd vs rs g).2.2.1 (pu_of pa bd vs rs g).2.2.2 → jb_at E (im ow') G' j p cp sa (pu_of pa bd vs rs g).1 rp (pu_of pa bd vs rs g).2.1 sp → Post G') : pq_Og_put E mc ms Post G o (some j) := by
  have hb' := hb
  obtain ⟨b1, b2, b3, b4, b5, b6, b7, b8, b9⟩ := hb'
  obtain ⟨li, lv, os, As, hk⟩ := h.k
  have hk' := hk
  obtain ⟨k1, k2, k3, k4, k5, k6, k7, k8, k9, k10⟩ := hk'
  have hq' := hq
  obtain ⟨y1, y2, y3, ⟨y4, y5, y6⟩, y7, y8⟩ := hq'
  have nJ0 : ¬ (fun r => r = J) 0 := fun e => hJ e.symm
  have nJ4 : ¬ (fun r => r = J) 4 := fun e => hJ4 e.symm
  have nJ40 : ¬ (fun r => r = J) 40 := fun e => hJ40 e.symm
  have zj : wo_ty G j ≠ 0 := by rw [b1]; decide
  have zp : wo_ty G p ≠ 0 := by rw [y1]; decide
  have ref : ∀ n, pu_of pa bd vs rs g = (n, 0, rs, g) → ∀ G2, G2 = wo_si G 643 j (nI n) → Post G2 := by
    intro n hn G2 e2
    obtain ⟨x1, x2⟩ := jb_643 (n := n) hb c.2 hj hJ
    rw [← e2] at x1 x2
    rw [hn] at hp
    exact hp ow G2 (x1.mn (fun a q => Or.inr (Or.inr q))) (h.xt c x1 nJ0 nJ4 nJ40) x2
  unfold pq_Og_put pq_Og_put_0
  refine ⟨j, rfl, b1, fun r hr => ⟨p, hr.trans b3, y1, fun r2 hr2 => ⟨0, 0, Nat.zero_le _, Nat.zero_le _, ?_⟩⟩⟩
  have v6 := (y8 6 (by decide)).O
  rw [show (515 + 6) = 521 from rfl, ← hr2] at v6
  refine sp_placeOf v6 ?_
  cases ep : pl_at (vs 6) with
  | none => exact ⟨fun w => absurd rfl w, fun _ => ⟨b1, b2, ref 415 (by unfold pu_of; rw [ep])⟩⟩
  | some n =>
    have hn : n < 3 := by
      cases e6 : vs 6 with
      | none => rw [e6] at ep; cases ep; decide
      | some t =>
        rw [e6] at ep
        have ep2 : (if t.length = 1 ∧ 97 ≤ t.getD 0 0 ∧ t.getD 0 0 < 100 then some (t.getD 0 0 - 97) else none) = some n := ep
        by_cases z : t.length = 1 ∧ 97 ≤ t.getD 0 0 ∧ t.getD 0 0 < 100
        · rw [if_pos z] at ep2; cases ep2; omega
        · rw [if_neg z] at ep2; cases ep2
    refine ⟨fun _ => ⟨y1, fun r hr => ⟨k1, 0, 0, Nat.zero_le _, Nat.zero_le _, ?_⟩⟩, fun w => absurd w (nI_nm1 (by omega))⟩
    rw [hr, y5]
    -- behind the forbidding
    have h62 : ∀ x, rp_O (im ow) G x (pu_old pa rs n) → pq_Og_put_62 E mc ms Post G 0 0 o (some j) (some p) (nI n) (wh_I (io_of pa rs)) x := by
      intro x hx
      unfold pq_Og_put_62
      refine ⟨0, 0, Nat.zero_le _, Nat.zero_le _, sp_forbidden c.1 hq hx ?_⟩
      cases hf : fb_of vs (rt_of (pu_old pa rs n)) with
      | true =>
        refine ⟨fun w => absurd w (by decide), fun _ => ⟨j, rfl, b1, b2, ref 412 ?_⟩⟩
        unfold pu_of
        rw [ep]
        simp only [hf, if_true]
      | false =>
        refine ⟨fun _ => ?_, fun w => absurd rfl w⟩
        cases e : io_of pa rs with
        | some i =>
          have hi := io_lt e
          have hpu : pu_of pa bd vs rs g = (st_of (pu_old pa rs n), (nt_of bd g (pu_old pa rs n)).1, rs.set i ((rs.getD i ro_0).1, (vs 7).getD [], bu_of (rs.getD i ro_0).2.2 n (bd, (nt_of bd g (pu_old pa rs n)).1)), (nt_of bd g (pu_old pa rs n)).2) := by
            unfold pu_of
            rw [ep]
            simp only [hf]
            rw [if_neg (by decide), if_neg (by rw [e]; exact fun w => absurd w.1 (by simp))]
            unfold pu_rs
            rw [e]
          rw [hpu] at hp
          refine ⟨fun _ => ?_, fun w => absurd w (nI_nm1 (by omega))⟩
          unfold pq_Og_put_107 pq_Og_put_139
          refine ⟨fun _ => ⟨k1, fun r hr => ⟨li, hr.trans k5, k6.1.1, 0, 0, Nat.zero_le _, Nat.zero_le _, sp_alGet k6.1 (by omega) ⟨fun a ha => (by cases ha; exact (k10 i hi).1.1), fun _ => ?_, fun w => absurd w (nI_nm1 (by omega))⟩⟩⟩, fun w => absurd w (nI_nm1 (by omega))⟩
          exact sp_put157 c hk hi hn hg hb hj hJ hJ4 hJ40 hq hp4 hp40 hpJ hx (by omega) (by omega) (fun G' x' og' jb' => hp ow G' x' og' jb')
        | none =>
          refine ⟨fun w => absurd rfl w, fun _ => ⟨k1, fun r hr => ⟨li, hr.trans k5, k6.1.1, 0, 0, Nat.zero_le _, Nat.zero_le _, sp_alSize k6.1 ⟨fun w => ?_, fun w => ?_⟩⟩⟩⟩
          · have hlt : rs.length < 6 := by
              have := (nI_ltI (b := 6) (by omega) (by decide)).mp w
              omega
            have eo : pu_old pa rs n = none := by unfold pu_old; rw [e]
            have hpu : pu_of pa bd vs rs g = (201, g + 1, rs ++ [(pa, (vs 7).getD [], bu_of (fun _ => none) n (bd, g + 1))], g + 1) := by
              unfold pu_of
              rw [ep]
              simp only [hf]
              rw [if_neg (by decide), if_neg (by omega), eo]
              unfold pu_rs
              rw [e]
              rfl
            rw [hpu] at hp
            unfold pq_Og_put_107
            refine ⟨fun w => absurd rfl w, fun _ => ⟨by omega, by omega, fun q hq0 hqb G2 e2 => ⟨p, rfl, ?_⟩⟩⟩
            have pq : p ≠ q := fun w => zp (by rw [w]; exact hq0)
            have e3 := wo_eq_new (G := G) (k := 12) pq
            rw [e2]
            refine ⟨e3.1.trans y1, fun r hr => ⟨1, 3, by omega, by omega, ?_⟩⟩
            rw [hr, e3.2.2.2.2.1 513, y5]
            refine sp_rsNew c hq0 hqb y6 (by omega) (by omega) (fun A ow1 G3 x3 wA A0 tq r3 => ?_)
            have nF : ¬ (fun _ : Nat => False) 0 := fun z => z
            have c3 := c.xt x3 (fun z => z)
            have hk3 := hk.xt c x3 (fun z => z) (fun z => z) (fun z => z)
            have hk3' := hk3
            obtain ⟨u1, u2, u3, u4, u5, u6, u7, u8, u9, u10⟩ := hk3'
            unfold pq_Og_put_139
            refine ⟨fun w => absurd rfl w, fun _ => ⟨u1, fun r hr => ⟨li, hr.trans u5, u6.1.1, 1, 20, by omega, by omega, ?_⟩⟩⟩
            have ql : q ≠ li := fun z => by rw [z, u6.1.1] at tq; cases tq
            have qv : q ≠ lv := fun z => by rw [z, u6.1.2.2.2.2.1] at tq; cases tq
            refine li_add c3 u6 (by decide) ⟨11, tq, by decide⟩ ql qv (by omega) (by omega) (by omega) (fun w ow4 G4 x4 l4 => ?_)
            have c4 := c3.xt x4 (by decide)
            have x34 : xt E (fun r => r = 4 ∨ r = 40 ∨ r = J) ow G ow4 G4 := (x3.mn (fun a z => False.elim z)).tr (x4.mn (fun a z => Or.inr (Or.inl z)))
            have n0 : ¬ (fun r => r = 4 ∨ r = 40 ∨ r = J) 0 := fun e => by rcases e with e | e | e; exact absurd e (by decide); exact absurd e (by decide); exact hJ e.symm
            have zo3 : wo_ty G3 o ≠ 0 := by rw [u1]; decide
            have eo4 := x4.eq zo3 (by rw [u3]; decide)
            have zA3 : wo_ty G3 A ≠ 0 := by rw [r3.2.2.2.2.1]; decide
            have hk4 : og_k E ow4 G4 o (rs ++ [(pa, [], fun _ => none)]) g li w (os ++ [q]) (As ++ [A]) := by
              refine ⟨eo4.1.trans u1, u2, (x4.w zo3).trans u3, (eo4.2.2.1 _).trans u4, (eo4.2.2.2.2.1 _).trans u5, l4, by simp [u7], by simp [u8], ?_, fun i hi => ?_⟩
              · refine List.nodup_append.mpr ⟨u9, by simp, fun a ha b hb' => ?_⟩
                rw [List.mem_singleton.mp hb']
                intro z
                obtain ⟨n2, hn2, en2⟩ := List.getElem_of_mem ha
                have := (k10 n2 (by omega)).1.2.2.2.2.1
                have e5 : As.getD n2 0 = a := by rw [List.getD_eq_getElem?_getD, List.getElem?_eq_getElem hn2]; exact en2
                rw [e5, z, A0] at this
                cases this
              · rw [List.length_append] at hi
                have hi2 : i < rs.length + 1 := hi
                rw [app_get, app_get, app_get, u7, u8]
                by_cases z : i < rs.length
                · rw [if_pos z, if_pos z, if_pos z]
                  obtain ⟨v1, v2⟩ := u10 i z
                  have zA : wo_ty G3 (As.getD i 0) ≠ 0 := by rw [v1.2.2.2.2.1]; decide
                  exact ⟨rs_at.xt v1 x4 (by decide) (by rw [v2]; decide), (x4.w zA).trans v2⟩
                · have z2 : i = rs.length := by omega
                  rw [if_neg z, if_neg z, if_neg z, if_pos z2, if_pos z2, if_pos z2]
                  exact ⟨rs_at.xt r3 x4 (by decide) (by rw [wA]; decide), (x4.w zA3).trans wA⟩
            have jb4 : jb_at E (im ow4) G4 j p cp sa st rp 0 sp := by
              have := hb.xt x3 (fun z => z) (fun z => z)
              exact this.xt x4 (by decide) (by rw [x3.w zj, hj]; exact hJ40)
            have rq4 : rq_at (im ow4) G4 p m pa bd vs := by
              have := hq.xt x3 (fun z => z) (fun z => z)
              exact this.xt x4 (by decide) (by rw [x3.w zp]; exact hp40)
            have wj : ow4 j = J := by rw [x34.w zj]; exact hj
            have wp : ow4 p = ow p := x34.w zp
            have ln : (os ++ [q]).getD rs.length 0 = q := by rw [app_get, u7, if_neg (Nat.lt_irrefl _), if_pos rfl]
            have e6 : (rs ++ [((pa, [], fun _ => none) : roT)]).getD rs.length ro_0 = (pa, [], fun _ => none) := by rw [app_get, if_neg (Nat.lt_irrefl _), if_pos rfl]
            rw [← ln]
            rw [eo] at hx
            have hx4 : rp_O (im ow4) G4 x none := by
              cases x with
              | none => trivial
              | some y => exact hx
            refine sp_put157 (old := none) c4 hk4 (by simp) hn hg jb4 wj hJ hJ4 hJ40 rq4 (by rw [wp]; exact hp4) (by rw [wp]; exact hp40) (by rw [wp]; exact hpJ) hx4 (by omega) (by omega) (fun G5 x5 og5 jb5 => hp ow4 G5 (x34.tr x5) ?_ jb5)
            rw [e6] at og5
            have e7 : (rs ++ [((pa, [], fun _ => none) : roT)]).set rs.length (pa, (vs 7).getD [], bu_of (fun _ => none) n (bd, (nt_of bd g none).1)) = rs ++ [(pa, (vs 7).getD [], bu_of (fun _ => none) n (bd, g + 1))] := by
              rw [List.set_append_right _ _ (Nat.le_refl _), Nat.sub_self]
              rfl
            rw [e7] at og5
            exact og5
          · have hge : 6 ≤ rs.length := by
              rcases Nat.lt_or_ge rs.length 6 with z | z
              · exact absurd (nI_lt (b := 6) (by omega) (by decide)) w
              · exact z
            refine ⟨j, rfl, b1, b2, ref 507 ?_⟩
            unfold pu_of
            rw [ep]
            simp only [hf]
            rw [if_neg (by decide), if_pos ⟨e, hge⟩]
    refine sp_ogIndex h y6.1 (by omega) ?_
    cases e : io_of pa rs with
    | none =>
      refine ⟨fun w => absurd rfl w, fun _ => ?_⟩
      rw [e] at h62
      refine h62 none ?_
      unfold pu_old
      rw [e]
      trivial
    | some i =>
      have hi := io_lt e
      obtain ⟨m1, m2⟩ := k10 i hi
      refine ⟨fun _ => ⟨k1, fun r hr => ⟨li, hr.trans k5, k6.1.1, 0, 0, Nat.zero_le _, Nat.zero_le _, sp_alGet k6.1 (by omega) ⟨fun a ha => (by cases ha; exact m1.1), os.getD i 0, rfl, m1.1, 0, 0, Nat.zero_le _, Nat.zero_le _, sp_rsAt m1 hn (fun x hx => ?_)⟩⟩⟩, fun w => absurd w (nI_nm1 (by omega))⟩
      rw [e] at h62
      refine h62 x ?_
      unfold pu_old
      rw [e]
      exact hx
end SP
