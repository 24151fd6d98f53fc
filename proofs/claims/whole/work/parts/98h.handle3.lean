abbrev hdT : Type := (Nat → cnT) × List roT × Nat × List sdT × List jobT × (Nat → Option jobT)
def hd_q (cn : Nat → cnT) (c : Nat) : rqT := rq_d (c_rd (cn c))
def hd_w (cn : Nat → cnT) (c : Nat) (rs : List roT) (tg : Nat) : Nat × Option rpT × Nat × List roT × Nat := wk_of (hd_q cn c).1 (hd_q cn c).2.1 (hd_q cn c).2.2.1 (hd_q cn c).2.2.2 0 rs tg
def hd_a (cn : Nat → cnT) (c : Nat) (rs : List roT) (tg : Nat) : List Nat := at_of (hd_q cn c) (hd_w cn c rs tg).1 (hd_w cn c rs tg).2.1 (hd_w cn c rs tg).2.2.1
def hd_j (cn : Nat → cnT) (c : Nat) (ss : List sdT) : jobT := (c, c_nh (cn c), hp_of (hd_q cn c) ss, 0, 0, none, 0, false)
def hd_m (c : Nat) (cn : Nat → cnT) (rs : List roT) (tg : Nat) (ss : List sdT) (wt : List jobT) (sn : Nat → Option jobT) (now : Nat) : Option Nat → hdT
  | some i => (cup cn c (dvc (anc (enl (cn c)) (c_nh (cn c)) (ha_of (hd_q cn c) (ss.getD i sd_0) now))), rs, tg, us_of i ss, wt, sn)
  | none => (cup cn c (dvc (enl (cn c))), rs, tg, ss, (sw_of now (wt ++ [hd_j cn c ss], sn)).1, (sw_of now (wt ++ [hd_j cn c ss], sn)).2)
def hd_of (c o : Nat) (cn : Nat → cnT) (rs : List roT) (tg : Nat) (ss : List sdT) (wt : List jobT) (sn : Nat → Option jobT) (now : Nat) : hdT :=
  if o = 1 then (if c = 2 then (cup cn c (dvc (anc (enl (cn c)) (c_nh (cn c)) (hd_a cn c rs tg))), (hd_w cn c rs tg).2.2.2.1, (hd_w cn c rs tg).2.2.2.2, ss, wt, sn) else hd_m c cn rs tg ss wt sn now (hu_of (hd_q cn c) ss now))
  else (cup cn c (dvc (anc (enr (cn c)) (c_nh (cn c)) (ba_of o 0))), rs, tg, ss, wt, sn)
section SP
variable {E : wo_E} {mc ms : Nat} {G G1 : wo_W} {x ca og so sh sj wl now c o cap tg t : Nat} {ow ow1 : Nat → Nat} {R : Nat → Prop} {raf raf' : Nat → Nat → Nat} {cad : Nat → Nat} {cn : Nat → cnT} {rs : List roT} {ss : List sdT} {wt : List jobT} {sn : Nat → Option jobT}
theorem cup_c {v : cnT} : cup cn c v c = v := if_pos rfl
theorem cup_n {v : cnT} {e : Nat} (h : e ≠ c) : cup cn c v e = cn e := if_neg h
theorem ec_og {rs' : List roT} {tg' J : Nat} (h : ec_k E ow G x ca cad raf og so sh sj wl cn rs tg ss cap wt sn now) (cc : cx E ow G) (hJ : 200 ≤ J ∧ J < 300) (hb : js_b wt sn) (hn : (∀ j ∈ wt, rid j ≠ J) ∧ ∀ u j, u < 2 → sn u = some j → rid j ≠ J) (y : xt E (Rwk J) ow G ow1 G1) (h4 : og_at E ow1 G1 og rs' tg') : ec_k E ow1 G1 x ca cad raf og so sh sj wl cn rs' tg' ss cap wt sn now := by
  obtain ⟨k1, k2, k3, k4, k5, k6, k7, k8⟩ := h
  have hR : ∀ r, Rwk J r → r ≠ 0 ∧ (r < 100 ∨ 200 ≤ r ∧ r < 1000) := fun r z => by rcases z with z | z | z <;> omega
  have n : ∀ r, r < 200 → r ≠ 4 → r ≠ 40 → ¬ Rwk J r := fun r h1 h2 h3 z => by rcases z with z | z | z <;> omega
  have nj : ∀ j : jobT, (200 ≤ rid j ∧ rid j < 300) → rid j ≠ J → ¬ Rwk J (rid j) := fun j h1 h2 z => by rcases z with z | z | z <;> omega
  exact ⟨k1.xt y (n 7 (by omega) (by omega) (by omega)), k2.xt y (n 7 (by omega) (by omega) (by omega)), fun e he => cn_lo (k3 e he) he y hR, h4, k5.xt cc y (n 0 (by omega) (by omega) (by omega)) (n 5 (by omega) (by omega) (by omega)) (n 50 (by omega) (by omega) (by omega)), k6.xt cc y (n 0 (by omega) (by omega) (by omega)) (n 6 (by omega) (by omega) (by omega)), k7.xt y (n 0 (by omega) (by omega) (by omega)) (n 71 (by omega) (by omega) (by omega)) (fun u j hu hj => nj j (hb.2 u j hu hj) (hn.2 u j hu hj)), k8.xt cc y (n 0 (by omega) (by omega) (by omega)) (n 70 (by omega) (by omega) (by omega)) (fun j hj => nj j (hb.1 j hj) (hn.1 j hj))⟩
theorem ec_o3 {v : cnT} (h : ec_k E ow G x ca cad raf og so sh sj wl cn rs tg ss cap wt sn now) (hc : c < 3) : wo_ty G x = 1 ∧ (∀ r, r = wo_gr G 0 x → r = some ca) ∧ wo_ty G ca = 64 ∧ vp_in (nI c) (wo_len G ca) ∧ (∀ r, r = wo_er G ca (nI c).toNatClampNeg → r = some (cad c)) ∧ wo_ty G (cad c) = 7 := by
  obtain ⟨k1, k2, k3, _⟩ := h
  obtain ⟨_, _, _, q, _⟩ := k3 c hc
  exact ⟨k1.1, fun r hr => hr.trans k1.2.2.2.1, k2.1, by rw [k2.2.1]; exact vp_in_nI hc (by decide), fun r hr => by rw [hr, nI_clamp (by omega)]; exact k2.2.2.2 c hc, q.1.1⟩
theorem sp_handle {Post : wo_W → Prop} (cc : cx E ow G) (h : ec_k E ow G x ca cad raf og so sh sj wl cn rs tg ss cap wt sn now) (hok : js_ok wt sn) (hc : c < 3) (hsh : c_sh (cn c) = false) (hnh : c_nh (cn c) < 20) (hbo : (d_bo (c_rd (cn c))).length ≤ 8) (hj : jn_ok cn wt sn) (ho : o < 1000) (hout : (c_out (cn c)).length + 80 * (c_nh (cn c) + 1 - c_na (cn c)) ≤ 640) (hans : ∀ t u, t < c_nh (cn c) → c_an (cn c) t = some u → u.length ≤ 80)
    (hrs : rs.length ≤ 6) (htg : tg + 1 < 2 ^ 31) (hat : c = 2 → o = 1 → (hd_a cn c rs tg).length ≤ 80 ∧ (hd_w cn c rs tg).1 < 2 ^ 31 ∧ (hd_w cn c rs tg).2.2.1 < 2 ^ 31) (hha : ∀ i, o = 1 → hu_of (hd_q cn c) ss now = some i → (ha_of (hd_q cn c) (ss.getD i sd_0) now).length ≤ 80)
    (hnew : c ≠ 2 → o = 1 → js_ok (wt ++ [hd_j cn c ss]) sn) (hlen : wt.length ≤ 8) (hsl : ss.length ≤ 20) (hnow : now < 2 ^ 30) (htm : ∀ i, i < ss.length → (ss.getD i sd_0).2.2.2.1 ≤ now) (h1 : 90 ≤ mc) (h2 : 10300 ≤ ms)
    (hp : ∀ raf' ow' G', xt E Rec ow G ow' G' → cx E ow' G' → ec_k E ow' G' x ca cad raf' og so sh sj wl (hd_of c o cn rs tg ss wt sn now).1 (hd_of c o cn rs tg ss wt sn now).2.1 (hd_of c o cn rs tg ss wt sn now).2.2.1 (hd_of c o cn rs tg ss wt sn now).2.2.2.1 cap (hd_of c o cn rs tg ss wt sn now).2.2.2.2.1 (hd_of c o cn rs tg ss wt sn now).2.2.2.2.2 now → Post G') : pq_EC_handle E mc ms Post G x (nI c) (nI o) := by
  have hb := hok.b
  have h' := h
  obtain ⟨k1, k2, k3, k4, k5, k6, k7, k8⟩ := h'
  obtain ⟨xr, ar, au, n1, n2, n3⟩ := k3 c hc
  obtain ⟨g1, g2, g3, g4, g5, g6⟩ := ec_o3 (v := cn c) h hc
  have txr : wo_ty G xr = 8 := by obtain ⟨_, _, _, _, q⟩ := n3 hsh; generalize c_rd (cn c) = d at q; obtain ⟨pt, hd', ln, ch, lf, li, bo, m, pa, vs⟩ := d; exact q.1
  have nh0 := (k3 c hc).nh
  -- the delivering at the end
  have h95 : ∀ raf2 ow2 G2 v cn2 rs2 tg2 ss2 wt2 sn2 c2 s2, cn2 c = v → xt E Rec ow G ow2 G2 → cx E ow2 G2 → ec_k E ow2 G2 x ca cad raf2 og so sh sj wl cn2 rs2 tg2 ss2 cap wt2 sn2 now → js_b wt2 sn2 → jn_ok cn2 wt2 sn2 → dv_ok v → c2 ≤ mc → s2 ≤ ms → (∀ raf' ow' G', xt E Rec ow G ow' G' → cx E ow' G' → ec_k E ow' G' x ca cad raf' og so sh sj wl (cup cn2 c (dvc v)) rs2 tg2 ss2 cap wt2 sn2 now → Post G') → pq_EC_handle_95 E mc ms Post G2 c2 s2 (some (cad c)) := by
    intro raf2 ow2 G2 v cn2 rs2 tg2 ss2 wt2 sn2 c2 s2 hv y2 cc2 e2 hb2 hj2 hdv hc2 hs2 hp2
    have cv := e2.2.2.1 c hc
    rw [hv] at cv
    unfold pq_EC_handle_95
    refine ⟨cad c, rfl, (ec_o3 (v := v) e2 hc).2.2.2.2.2, 0, 0, hc2, hs2, sp_deliverC cc2 hc cv hdv (fun G3 y3 cv3 => ?_)⟩
    exact hp2 raf2 ow2 G3 (y2.tr (y3.mn (fun r z => Rc_e hc r (Rcn_c r z)))) (cc2.xt y3 Rcn0) (ec_cv e2 cc2 hb2 hc y3 Rcn_c hj2 cv3)
  unfold pq_EC_handle pq_EC_handle_0
  refine ⟨g1, fun r hr => ⟨ca, g2 r hr, g3, g4, fun r7 hr7 => ⟨cad c, g5 r7 hr7, g6, fun r11 hr11 => ⟨xr, hr11.trans n1.1.2.2.2.1, txr, 4, 40, by omega, by omega, ?_⟩⟩⟩⟩
  refine sp_finEnl cc h hb hc hsh hnh hbo hj (by omega) (by omega) n1.1.2.2.2.1 (fun p G1 t1 enq => ⟨t1, 0, 0, by omega, by omega, enq _ (fun ow2 G2 y2 c2 e2 ep => ?_)⟩)
  have jn2 : jn_ok (cup cn c (enl (cn c))) wt sn := by
    have key : ∀ j : jobT, j.2.1 < c_nh (cn j.1) → j.2.1 < c_nh (cup cn c (enl (cn c)) j.1) := by
      intro j hj
      by_cases z : j.1 = c
      · rw [z, cup_c]
        rw [z] at hj
        show j.2.1 < c_nh (cn c) + 1
        omega
      · rw [cup_n z]; exact hj
    exact ⟨fun j hj2 => key j (hj.1 j hj2), fun u j hu hj2 => key j (hj.2 u j hu hj2)⟩
  have nhE : c_nh (cup cn c (enl (cn c)) c) = c_nh (cn c) + 1 := by rw [cup_c]; rfl
  have tn : c_nh (cn c) < c_nh (cup cn c (enl (cn c)) c) := by rw [nhE]; omega
  have cv2 := e2.2.2.1 c hc
  rw [cup_c] at cv2
  have anE : ∀ t u, t < c_nh (cn c) + 1 → c_an (enl (cn c)) t = some u → u.length ≤ 80 := by
    intro t u ht hu
    have hu2 : (if t = c_nh (cn c) then none else c_an (cn c) t) = some u := hu
    by_cases z : t = c_nh (cn c)
    · rw [if_pos z] at hu2; cases hu2
    · rw [if_neg z] at hu2; exact hans t u (by omega) hu2
  have dvA : ∀ w : List Nat, w.length ≤ 80 → dv_ok (anc (enl (cn c)) (c_nh (cn c)) w) := by
    intro w hw
    refine ⟨hout, fun t u ht hu => ?_⟩
    have hu2 : (if t = c_nh (cn c) then some w else c_an (enl (cn c)) t) = some u := hu
    by_cases z : t = c_nh (cn c)
    · rw [if_pos z] at hu2; cases hu2; exact hw
    · rw [if_neg z] at hu2; exact anE t u ht hu2
  have rvE : c_rv (cup cn c (enl (cn c)) c) (c_nh (cn c)) = hd_q cn c := by
    rw [cup_c]
    exact if_pos rfl
  have anN : c_an (cup cn c (enl (cn c)) c) (c_nh (cn c)) = none := by
    rw [cup_c]
    exact if_pos rfl
  have cupcup : ∀ v w : cnT, cup (cup cn c v) c w = cup cn c w := by
    intro v w
    funext e
    unfold cup
    by_cases z : e = c
    · rw [if_pos z, if_pos z]
    · rw [if_neg z, if_neg z, if_neg z]
  have ancup : ∀ (cn2 : Nat → cnT) v w, cn2 = cup cn c v → (fun e => if e = c then anc (cn2 e) (c_nh (cn c)) w else cn2 e) = cup cn c (anc v (c_nh (cn c)) w) := by
    intro cn2 v w e
    funext k
    unfold cup at *
    by_cases z : k = c
    · simp only [if_pos z]; rw [e]; simp only [if_pos z]
    · simp only [if_neg z]; rw [e]; simp only [if_neg z]
  refine ⟨fun wo => ⟨fun wc => ?_, fun wc => ?_⟩, fun wo => ?_⟩
  · -- at the cache
    have eo : o = 1 := (nI_eq (b := 1) (by omega) (by decide)).mp wo
    have nc : c ≠ 2 := fun z => wc (by rw [z]; rfl)
    have eh : hd_of c o cn rs tg ss wt sn now = hd_m c cn rs tg ss wt sn now (hu_of (hd_q cn c) ss now) := by
      unfold hd_of
      rw [if_pos eo, if_neg nc]
    rw [eh] at hp
    refine ⟨e2.1.1, 70, 10100, by omega, by omega, ?_⟩
    rw [← ep]
    refine sp_handleAtCache c2 e2 hok (show c < 2 by omega) tn (by omega) anN (by rw [rvE]; exact hnew nc eo) hlen hsl hnow htm (by omega) (by omega) (fun i hi ow3 G3 y3 c3 e3 => ?_) (fun hi ow3 G3 y3 c3 e3 => ?_)
    · rw [rvE] at hi e3
      rw [hi] at hp
      have eq := ancup (cup cn c (enl (cn c))) (enl (cn c)) (ha_of (hd_q cn c) (ss.getD i sd_0) now) rfl
      rw [eq] at e3
      have jn3 : jn_ok (cup cn c (anc (enl (cn c)) (c_nh (cn c)) (ha_of (hd_q cn c) (ss.getD i sd_0) now))) wt sn := by
        have key : ∀ e, c_nh (cup cn c (anc (enl (cn c)) (c_nh (cn c)) (ha_of (hd_q cn c) (ss.getD i sd_0) now)) e) = c_nh (cup cn c (enl (cn c)) e) := by
          intro e
          by_cases z : e = c
          · rw [z, cup_c, cup_c]; rfl
          · rw [cup_n z, cup_n z]
        exact ⟨fun j hj => by rw [key]; exact jn2.1 j hj, fun u j hu hj => by rw [key]; exact jn2.2 u j hu hj⟩
      refine h95 _ ow3 G3 _ _ _ _ _ _ _ _ _ cup_c (y2.tr y3) c3 e3 hb jn3 (dvA _ (hha i eo hi)) (by omega) (by omega) (fun raf' ow' G' y4 c4 e4 => hp raf' ow' G' y4 c4 ?_)
      rw [cupcup] at e4
      exact e4
    · rw [rvE] at hi e3
      rw [hi] at hp
      have hnew' := hnew nc eo
      have b3 : js_ok (sw_of now (wt ++ [hd_j cn c ss], sn)).1 (sw_of now (wt ++ [hd_j cn c ss], sn)).2 := js_sw (js_sw hnew' (u := 0) (by decide)) (u := 1) (by decide)
      have jn3 : jn_ok (cup cn c (enl (cn c))) (sw_of now (wt ++ [hd_j cn c ss], sn)).1 (sw_of now (wt ++ [hd_j cn c ss], sn)).2 := by
        have step : ∀ u wt sn, jn_ok (cup cn c (enl (cn c))) wt sn → jn_ok (cup cn c (enl (cn c))) (sw_1 now u (wt, sn)).1 (sw_1 now u (wt, sn)).2 := by
          intro u wt sn hj
          unfold sw_1
          cases e : sn u with
          | some j => simp only [e]; exact hj
          | none =>
            cases wt with
            | nil => simp only [e]; exact hj
            | cons j l =>
              simp only [e]
              refine ⟨fun k hk => hj.1 k (List.mem_cons_of_mem _ hk), fun k i hk hi => ?_⟩
              simp only [] at hi
              by_cases z : k = u
              · rw [if_pos z] at hi; cases hi; exact hj.1 j List.mem_cons_self
              · rw [if_neg z] at hi; exact hj.2 k i hk hi
        refine step 1 _ _ (step 0 _ _ ⟨fun j hj => ?_, jn2.2⟩)
        rcases List.mem_append.mp hj with z | z
        · exact jn2.1 j z
        · rw [List.mem_singleton.mp z]
          exact tn
      refine h95 _ ow3 G3 _ _ _ _ _ _ _ _ _ cup_c (y2.tr y3) c3 e3 b3.b jn3 ⟨hout, anE⟩ (by omega) (by omega) (fun raf' ow' G' y4 c4 e4 => hp raf' ow' G' y4 c4 ?_)
      rw [cupcup] at e4
      exact e4
  · -- to the origin itself
    have eo : o = 1 := (nI_eq (b := 1) (by omega) (by decide)).mp wo
    have ec : c = 2 := (nI_eq (b := 2) (by omega) (by decide)).mp wc
    obtain ⟨al, st31, gt31⟩ := hat ec eo
    have eh : hd_of c o cn rs tg ss wt sn now = (cup cn c (dvc (anc (enl (cn c)) (c_nh (cn c)) (hd_a cn c rs tg))), (hd_w cn c rs tg).2.2.2.1, (hd_w cn c rs tg).2.2.2.2, ss, wt, sn) := by
      unfold hd_of
      rw [if_pos eo, if_pos ec]
    rw [eh] at hp
    refine ⟨by omega, by omega, fun q hq hqb G3 e3 => ⟨0, 0, by omega, by omega, ?_⟩⟩
    rw [e3, show (0 : Int32) = nI 0 from rfl]
    refine sp_jbInit (J := 200 + 32 * c + c_nh (cn c)) c2 hq hqb (fun ow4 G4 y4 jb4 w4 => ?_)
    have c4 := c2.xt y4 (fun z => z)
    have e4 := ec_f e2 c2 hb y4
    obtain ⟨_, _, _, _, rq4, _⟩ := e4.2.2.1 c hc
    obtain ⟨q0, q2, q3, q4, q5⟩ := rq4 (c_nh (cn c)) tn
    have q1 := q5 anN
    rw [ep] at q1 q2 q3
    rw [rvE] at q1
    have tog : wo_ty G4 og = 2 := e4.2.2.2.1.1
    have nJ : (∀ j ∈ wt, rid j ≠ 200 + 32 * c + c_nh (cn c)) ∧ ∀ u j, u < 2 → sn u = some j → rid j ≠ 200 + 32 * c + c_nh (cn c) := by
      have key : ∀ j : jobT, j.1 < 2 ∧ j.2.1 < 20 → rid j ≠ 200 + 32 * c + c_nh (cn c) := fun j hj => by unfold rid; omega
      exact ⟨fun j hj => key j (hok.2.2.2.1 j hj), fun u j hu hj => key j (hok.2.2.2.2 u j hu hj)⟩
    refine ⟨e4.1.1, fun r38 hr38 => ⟨og, hr38.trans e4.1.2.2.2.2.1, tog, 8, 60, by omega, by omega, ?_⟩⟩
    refine sp_work (sp := false) c4 e4.2.2.2.1 hrs htg jb4 (by decide) w4 (by omega) (by omega) (by omega) q1 (by rw [q3]; unfold Qc; omega) (by rw [q3]; unfold Qc; omega) (by rw [q3]; unfold Qc; omega) (by omega) (by omega) (fun ow5 G5 y5 og5 jb5 => ?_)
    have R50 : ¬ Rwk (200 + 32 * c + c_nh (cn c)) 0 := by rintro (z | z | z) <;> omega
    have c5 := c4.xt y5 R50
    have e5 := ec_og e4 c4 (by omega) hb nJ y5 og5
    have zq : wo_ty G4 p ≠ 0 := by rw [q1.1]; decide
    have nq : ¬ Rwk (200 + 32 * c + c_nh (cn c)) (ow4 p) := by rw [q3]; unfold Qc; rintro (z | z | z) <;> omega
    have q15 : rq_v (im ow5) G5 p (hd_q cn c) := rq_at.xt q1 y5 R50 nq
    have w5 : ow5 p = Qc c + c_nh (cn c) := (y5.w zq).trans q3
    refine ⟨e5.1.1, 60, 10000, by omega, by omega, ?_⟩
    refine sp_answerTo c5 e5.1.1 e5.1.2.2.2.2.2.2.1 e5.2.2.2.2.2.1 jb5 st31 gt31 q15 (by rw [w5]; unfold Qc; omega) (by omega) (by omega) (fun ya ow6 G6 y6 s6 S6 => ?_)
    have c6 := c5.xt y6 (by decide)
    have e6 := ec_sh e5 c5 hb y6 s6
    obtain ⟨a1, a2, a3, a4, a5⟩ := ec_an (t := c_nh (cn c)) e6 c6 hb hc tn S6
    rw [ep] at a1 a2 a3 a4 a5
    refine ⟨p, rfl, a1, a2, fun G7 e7 => ?_⟩
    rw [← e7] at a3 a4 a5
    have eq := ancup (cup cn c (enl (cn c))) (enl (cn c)) (hd_a cn c rs tg) rfl
    rw [show at_of (hd_q cn c) (wk_of (hd_q cn c).1 (hd_q cn c).2.1 (hd_q cn c).2.2.1 (hd_q cn c).2.2.2 0 rs tg).1 (wk_of (hd_q cn c).1 (hd_q cn c).2.1 (hd_q cn c).2.2.1 (hd_q cn c).2.2.2 0 rs tg).2.1 (wk_of (hd_q cn c).1 (hd_q cn c).2.1 (hd_q cn c).2.2.1 (hd_q cn c).2.2.2 0 rs tg).2.2.1 = hd_a cn c rs tg from rfl, eq] at a5
    have jn3 : jn_ok (cup cn c (anc (enl (cn c)) (c_nh (cn c)) (hd_a cn c rs tg))) wt sn := by
      have key : ∀ e, c_nh (cup cn c (anc (enl (cn c)) (c_nh (cn c)) (hd_a cn c rs tg)) e) = c_nh (cup cn c (enl (cn c)) e) := by
        intro e
        by_cases z : e = c
        · rw [z, cup_c, cup_c]; rfl
        · rw [cup_n z, cup_n z]
      exact ⟨fun j hj => by rw [key]; exact jn2.1 j hj, fun u j hu hj => by rw [key]; exact jn2.2 u j hu hj⟩
    have yy : xt E Rec ow G ow6 G7 := (((y2.tr (y4.mn (fun _ z => False.elim z))).tr (y5.mn (fun r z => by rcases z with z | z | z <;> constructor <;> omega))).tr (y6.mn R6_e)).tr a3
    refine h95 _ ow6 G7 _ _ _ _ _ _ _ _ _ cup_c yy a4 a5 hb jn3 (dvA _ al) (by omega) (by omega) (fun raf' ow' G' y8 c8 e8 => hp raf' ow' G' y8 c8 ?_)
    rw [cupcup] at e8
    exact e8
  · -- refused
    have no : ¬ o = 1 := fun z => wo (by rw [z]; rfl)
    have eh : hd_of c o cn rs tg ss wt sn now = (cup cn c (dvc (anc (enr (cn c)) (c_nh (cn c)) (ba_of o 0))), rs, tg, ss, wt, sn) := by
      unfold hd_of
      rw [if_neg no]
    rw [eh] at hp
    obtain ⟨xr2, ar2, au2, m1, m2, m3⟩ := cv2
    refine ⟨m1.1.1, m1.1.2.1, tx_ok1, fun G3 e3 => ?_⟩
    obtain ⟨y3, m4⟩ := cn_390 (b := true) c2 m1
    have e3' : G3 = wo_si G2 390 (cad c) (bo_I true) := e3
    rw [← e3'] at y3 m4
    have c3 := c2.xt y3 Rcn0
    have cv3 : cn_a E ow2 G3 c (cad c) (rup raf c (c_nh (cn c)) p c) (shu (enl (cn c))) := ⟨xr2, ar2, au2, m4, m2.xt y3 Rcn0 (fun t ht => RcnQ hc (by have : t < c_nh (cn c) + 1 := ht; omega) hc), fun z => (by cases z)⟩
    have e3k := ec_cv e2 c2 hb hc y3 Rcn_c jn2 cv3
    rw [cupcup] at e3k
    have tz3 : wo_ty G3 sh = 4 := by obtain ⟨_, _, _, _, _, hb, _⟩ := e3k.2.2.2.2.2.1; exact hb.2.1
    refine ⟨e3k.1.1, fun r61 hr61 => ⟨sh, hr61.trans e3k.1.2.2.2.2.2.2.1, tz3, 14, 2500, by omega, by omega, ?_⟩⟩
    rw [show (0 : Int32) = nI 0 from rfl]
    refine xs_bare c3 e3k.2.2.2.2.2.1 (by omega) (by decide) (by omega) (by omega) (fun ya ow4 G4 y4 s4 S4 => ?_)
    have c4 := c3.xt y4 (by decide)
    have e4 := ec_sh e3k c3 hb y4 s4
    have tn3 : c_nh (cn c) < c_nh (cup cn c (shu (enl (cn c))) c) := by rw [cup_c]; exact Nat.lt_succ_self _
    obtain ⟨a1, a2, a3, a4, a5⟩ := ec_an (t := c_nh (cn c)) e4 c4 hb hc tn3 S4
    rw [ep] at a1 a2 a3 a4 a5
    refine ⟨p, rfl, a1, a2, fun G5 e5 => ?_⟩
    rw [← e5] at a3 a4 a5
    have eq := ancup (cup cn c (shu (enl (cn c)))) (shu (enl (cn c))) (ba_of o 0) rfl
    rw [eq] at a5
    have cvr := a5.2.2.1 c hc
    rw [cup_c] at cvr
    have cvx : cn_a E ow4 G5 c (cad c) (rup raf c (c_nh (cn c)) p c) (anc (enr (cn c)) (c_nh (cn c)) (ba_of o 0)) := by
      refine cn_rx cvr rfl rfl rfl rfl rfl (fun s hs e => ?_) (fun z => (by cases z))
      have e2 : (if s = c_nh (cn c) then some (ba_of o 0) else (if s = c_nh (cn c) then none else c_an (cn c) s)) = none := e
      by_cases z : s = c_nh (cn c)
      · rw [if_pos z] at e2; cases e2
      · show c_rv (cn c) s = (if s = c_nh (cn c) then rq_d (c_rd (cn c)) else c_rv (cn c) s)
        rw [if_neg z]
    have jn3 : ∀ w : cnT → cnT, jn_ok (cup cn c (anc (w (cn c)) (c_nh (cn c)) (ba_of o 0))) wt sn ∨ ¬ (c_nh (w (cn c)) = c_nh (cn c) + 1) := by
      intro w
      by_cases hw : c_nh (w (cn c)) = c_nh (cn c) + 1
      · refine Or.inl ?_
        have key : ∀ e, c_nh (cup cn c (anc (w (cn c)) (c_nh (cn c)) (ba_of o 0)) e) = c_nh (cup cn c (enl (cn c)) e) := by
          intro e
          by_cases z : e = c
          · rw [z, cup_c, cup_c]; exact hw
          · rw [cup_n z, cup_n z]
        exact ⟨fun j hj => by rw [key]; exact jn2.1 j hj, fun u j hu hj => by rw [key]; exact jn2.2 u j hu hj⟩
      · exact Or.inr hw
    have jn4 := (jn3 (fun v => shu (enl v))).resolve_right (fun z => z rfl)
    have jn5 := (jn3 enr).resolve_right (fun z => z rfl)
    have a6 := ec_cv a5 a4 hb hc (xt.rf (R := Rcn (Bc c)) a4.2) Rcn_c jn4 cvx
    rw [cupcup] at a6
    have bl := ba_len (m := o) (g := 0) (by omega) (by decide)
    have dv3 : dv_ok (anc (enr (cn c)) (c_nh (cn c)) (ba_of o 0)) := ⟨hout, (dvA (ba_of o 0) (by omega)).2⟩
    have yy : xt E Rec ow G ow4 G5 := ((y2.tr (y3.mn (fun r z => Rc_e hc r (Rcn_c r z)))).tr (y4.mn R6_e)).tr a3
    refine h95 _ ow4 G5 _ _ _ _ _ _ _ _ _ cup_c yy a4 a6 hb jn5 dv3 (by omega) (by omega) (fun raf' ow' G' y8 c8 e8 => hp raf' ow' G' y8 c8 ?_)
    rw [cupcup] at e8
    exact e8
end SP
