def ar_q (cn : Nat → cnT) (j : jobT) : rqT := c_rv (cn j.1) j.2.1
def ar_a (cn : Nat → cnT) (j : jobT) : List Nat := at_of (ar_q cn j) j.2.2.2.2.1 j.2.2.2.2.2.1 j.2.2.2.2.2.2.1
def ar_r (cn : Nat → cnT) (j : jobT) : Bool := decide ((ar_q cn j).1 = some 0 ∨ (ar_q cn j).1 = some 1)
def ar_w (j : jobT) : Bool := decide (j.2.2.2.2.1 = 201 ∨ j.2.2.2.2.1 = 204)
def ar_s (cn : Nat → cnT) (j : jobT) (cap : Nat) (ss : List sdT) : List sdT := if ar_r cn j = true then tr_of (ar_q cn j) j.2.2.2.1 j.2.2.2.2.2.2.2 j.2.2.2.2.2.1 cap ss else if ar_w j = true then dr_of (fun d => decide (d.2.1 = (ar_q cn j).2.1)) ss else ss
def ar_n (cn : Nat → cnT) (u : Nat) (j : jobT) (sn : Nat → Option jobT) : Nat → Option jobT := if ar_r cn j = false ∧ ar_w j = true then sup sn (1 - u) (spl_of (ar_q cn j).2.1 (fun e k => c_rv (cn e) k) (sn (1 - u))) else sn
def ar_c (cn : Nat → cnT) (j : jobT) : Nat → cnT := cup cn j.1 (anc (cn j.1) j.2.1 (ar_a cn j))
section SP
variable {E : wo_E} {mc ms : Nat} {G G1 : wo_W} {x ca og so sh sj wl now c o cap tg t : Nat} {ow ow1 : Nat → Nat} {R : Nat → Prop} {raf raf' : Nat → Nat → Nat} {cad : Nat → Nat} {cn : Nat → cnT} {rs : List roT} {ss : List sdT} {wt : List jobT} {sn : Nat → Option jobT}
theorem dv_anc {v : cnT} {u : List Nat} (h : dv_ok v) (hu : u.length ≤ 80) : dv_ok (anc v t u) := by
  refine ⟨h.1, fun s w hs hw => ?_⟩
  have hw2 : (if s = t then some u else c_an v s) = some w := hw
  by_cases z : s = t
  · rw [if_pos z] at hw2; cases hw2; exact hu
  · rw [if_neg z] at hw2; exact h.2 s w hs hw2
theorem dv_cup {v : cnT} (h : ∀ e, e < 3 → dv_ok (cn e)) (hv : dv_ok v) : ∀ e, e < 3 → dv_ok (cup cn c v e) := by
  intro e he
  by_cases z : e = c
  · rw [z, cup_c]; exact hv
  · rw [cup_n z]; exact h e he
theorem anc_cup {u : List Nat} : (fun e => if e = c then anc (cn e) t u else cn e) = cup cn c (anc (cn c) t u) := by
  funext e
  unfold cup
  by_cases z : e = c
  · simp only [if_pos z]; rw [z]
  · simp only [if_neg z]
theorem jn_anc {u : List Nat} {d s : Nat} (h : jn_ok cn wt sn) : jn_ok (cup cn d (anc (cn d) s u)) wt sn := by
  have key : ∀ e, c_nh (cup cn d (anc (cn d) s u) e) = c_nh (cn e) := by
    intro e
    by_cases z : e = d
    · rw [z, cup_c]; rfl
    · rw [cup_n z]
  exact ⟨fun j hj => by rw [key]; exact h.1 j hj, fun k j hk hj => by rw [key]; exact h.2 k j hk hj⟩
theorem js_rm {u : Nat} (h : js_ok wt sn) : js_ok wt (sup sn u none) := by
  obtain ⟨h1, h2, h3, h4, h5⟩ := h
  have key : ∀ k j, sup sn u none k = some j → sn k = some j := by
    intro k j e
    unfold sup at e
    by_cases z : k = u
    · rw [if_pos z] at e; cases e
    · rw [if_neg z] at e; exact e
  exact ⟨h1, fun k j hk e => h2 k j hk (key k j e), fun j0 j1 e0 e1 => h3 j0 j1 (key 0 j0 e0) (key 1 j1 e1), h4, fun k j hk e => h5 k j hk (key k j e)⟩
theorem jn_rm {u : Nat} (h : jn_ok cn wt sn) : jn_ok cn wt (sup sn u none) := by
  refine ⟨h.1, fun k j hk e => ?_⟩
  unfold sup at e
  by_cases z : k = u
  · rw [if_pos z] at e; cases e
  · rw [if_neg z] at e; exact h.2 k j hk e
theorem spl_rid {pa : List Nat} {rv : Nat → Nat → rqT} {o : Option jobT} {j : jobT} (h : spl_of pa rv o = some j) : ∃ i, o = some i ∧ rid i = rid j ∧ i.1 = j.1 ∧ i.2.1 = j.2.1 := by
  cases o with
  | none => cases h
  | some i =>
    unfold spl_of at h
    simp only [] at h
    refine ⟨i, rfl, ?_⟩
    split at h
    · cases h; exact ⟨rfl, rfl, rfl⟩
    · cases h; exact ⟨rfl, rfl, rfl⟩
theorem js_spl {u : Nat} {pa : List Nat} {rv : Nat → Nat → rqT} (h : js_ok wt sn) : js_ok wt (sup sn u (spl_of pa rv (sn u))) := by
  obtain ⟨h1, h2, h3, h4, h5⟩ := h
  have key : ∀ k j, sup sn u (spl_of pa rv (sn u)) k = some j → ∃ i, sn k = some i ∧ rid i = rid j ∧ i.1 = j.1 ∧ i.2.1 = j.2.1 := by
    intro k j e
    unfold sup at e
    by_cases z : k = u
    · rw [if_pos z] at e; rw [z]; exact spl_rid e
    · rw [if_neg z] at e; exact ⟨j, e, rfl, rfl, rfl⟩
  refine ⟨h1, fun k j hk e => ?_, fun j0 j1 e0 e1 => ?_, h4, fun k j hk e => ?_⟩
  · obtain ⟨i, e1, e2, _⟩ := key k j e
    rw [← e2]; exact h2 k i hk e1
  · obtain ⟨i0, a1, a2, _⟩ := key 0 j0 e0
    obtain ⟨i1, b1, b2, _⟩ := key 1 j1 e1
    rw [← a2, ← b2]; exact h3 i0 i1 a1 b1
  · obtain ⟨i, e1, e2, e3, e4⟩ := key k j e
    rw [← e3, ← e4]; exact h5 k i hk e1
theorem jn_spl {u : Nat} {pa : List Nat} {rv : Nat → Nat → rqT} (h : jn_ok cn wt sn) : jn_ok cn wt (sup sn u (spl_of pa rv (sn u))) := by
  refine ⟨h.1, fun k j hk e => ?_⟩
  unfold sup at e
  by_cases z : k = u
  · rw [if_pos z] at e
    obtain ⟨i, e1, e2, e3, e4⟩ := spl_rid e
    rw [← e3, ← e4]; exact h.2 u i (by omega) e1
  · rw [if_neg z] at e; exact h.2 k j hk e
theorem ec_sn0 {u : Nat} (h : ec_k E ow G x ca cad raf og so sh sj wl cn rs tg ss cap wt sn now) (cc : cx E ow G) (hb : js_b wt sn) : xt E (fun r => r = 71) ow G ow (wo_ser G sj u none) ∧ ec_k E ow (wo_ser G sj u none) x ca cad raf og so sh sj wl cn rs tg ss cap wt (sup sn u none) now := by
  obtain ⟨k1, k2, k3, k4, k5, k6, k7, k8⟩ := h
  have w4 := k7.2.2.2.1
  have y : xt E (fun r => r = 71) ow G ow (wo_ser G sj u none) := xt.of cc.2 (fr_ser w4)
  refine ⟨y, k1.xt y (by decide), k2.xt y (by decide), fun e he => cn_lo (k3 e he) he y (fun r z => by have : r = 71 := z; omega), k4.xt cc y (by decide) (by decide) (by decide), k5.xt cc y (by decide) (by decide) (by decide), k6.xt cc y (by decide) (by decide), ?_, k8.xt cc y (by decide) (by decide) (fun j hj => by have := hb.1 j hj; show ¬ rid j = 71; omega)⟩
  obtain ⟨s1, s2, s3, s4, s5⟩ := k7
  refine ⟨s1, s2, s3, s4, fun k hk => ?_⟩
  have e : wo_er (wo_ser G sj u none) sj k = if k = u then none else wo_er G sj k := by simp [wo_er, wo_ser, wo_u2]
  rw [e]
  unfold sup
  by_cases z : k = u
  · rw [if_pos z, if_pos z]; trivial
  · rw [if_neg z, if_neg z]
    exact (s5 k hk).xt y (by decide) (fun j hj => by have := hb.2 k j hk hj; show ¬ rid j = 71; omega)
theorem sp_swdv {K : wo_W → Prop} {mc2 ms2 : Nat} (cc : cx E ow G) (h : ec_k E ow G x ca cad raf og so sh sj wl cn rs tg ss cap wt sn now) (hok : js_ok wt sn) (hlen : wt.length ≤ 8) (hdv : ∀ e, e < 3 → dv_ok (cn e))
    (hK : ∀ G2 : wo_W, wo_ty G2 x = 1 → (∀ (mc3 ms3 : Nat) (Post : wo_W → Prop), (∀ G', xt E (fun r => RswL wt r ∨ 1000 ≤ r) ow G ow G' → cx E ow G' → ec_k E ow G' x ca cad raf og so sh sj wl (fun e => dvc (cn e)) rs tg ss cap (sw_of now (wt, sn)).1 (sw_of now (wt, sn)).2 now → Post G') → pq_EC_deliver E mc3 ms3 Post G2 x) → K G2) : pq_EC_sendWaiting E mc2 ms2 K G x := by
  refine sp_sendWaiting cc h.1 h.2.2.2.2.2.2.1 h.2.2.2.2.2.2.2 hok (by omega) (fun G2 y2 s2 w2 => ?_)
  have y2' := y2.mn (RswL_e hok)
  have c2 := cc.xt y2' (by rintro (z | z | z) <;> omega)
  have e2 := ec_sw h cc y2' s2 w2
  have ok2 : js_ok (sw_of now (wt, sn)).1 (sw_of now (wt, sn)).2 := js_sw (js_sw hok (u := 0) (by decide)) (u := 1) (by decide)
  refine hK G2 e2.1.1 (fun mc3 ms3 Post hp => sp_deliverAll c2 e2.1 e2.2.1 e2.2.2.1 hdv (fun G3 y3 cn3 => ?_))
  exact hp G3 ((y2.mn (fun r z => Or.inl z)).tr (y3.mn (fun r z => Or.inr z))) (c2.xt y3 (by decide)) (ec_dv e2 c2 ok2.b y3 cn3)
theorem ec_spl {u : Nat} {pa : List Nat} {o : Option jobT} (hu : u < 2) (h : ec_k E ow G x ca cad raf og so sh sj wl cn rs tg ss cap wt sn now) (cc : cx E ow G) (hok : js_ok wt sn) (ho : o = sn u) (y : xt E (fun r => 200 ≤ r ∧ r < 300 ∧ ∃ j, o = some j ∧ r = rid j) ow G ow G1) {o' : Option jobT} (hj : jb_o E ow G1 raf (wo_er G sj u) o') : ec_k E ow G1 x ca cad raf og so sh sj wl cn rs tg ss cap wt (sup sn u o') now := by
  have hb := hok.b
  obtain ⟨k1, k2, k3, k4, k5, k6, k7, k8⟩ := h
  have lo : ∀ r, r < 200 → ¬ (fun r => 200 ≤ r ∧ r < 300 ∧ ∃ j, o = some j ∧ r = rid j) r := fun r hr z => by have := z.1; omega
  refine ⟨k1.xt y (lo 7 (by decide)), k2.xt y (lo 7 (by decide)), fun e he => cn_lo (k3 e he) he y (fun r z => by have := z.1; have := z.2.1; omega), k4.xt cc y (lo 0 (by decide)) (lo 4 (by decide)) (lo 40 (by decide)), k5.xt cc y (lo 0 (by decide)) (lo 5 (by decide)) (lo 50 (by decide)), k6.xt cc y (lo 0 (by decide)) (lo 6 (by decide)), ?_, k8.xt cc y (lo 0 (by decide)) (lo 70 (by decide)) (fun j hj2 z => ?_)⟩
  · obtain ⟨s1, s2, s3, s4, s5⟩ := k7
    have zs : wo_ty G sj ≠ 0 := by rw [s1]; decide
    have es := y.eq zs (by rw [s4]; exact lo 71 (by decide))
    refine ⟨es.1.trans s1, es.2.1.trans s2, s3, s4, fun k hk => ?_⟩
    rw [es.2.2.2.2.2.2.2]
    unfold sup
    by_cases z : k = u
    · rw [if_pos z, z]; exact hj
    · rw [if_neg z]
      refine (s5 k hk).xt y (lo 0 (by decide)) (fun i hi q => ?_)
      obtain ⟨_, _, j, ej, er⟩ := q
      rw [ho] at ej
      have h3 := hok.2.2.1
      rcases Nat.lt_or_ge k 1 with q | q
      · have k0 : k = 0 := by omega
        have u1 : u = 1 := by omega
        rw [k0] at hi; rw [u1] at ej
        exact h3 i j hi ej er
      · have k0 : k = 1 := by omega
        have u1 : u = 0 := by omega
        rw [k0] at hi; rw [u1] at ej
        exact h3 j i ej hi er.symm
  · obtain ⟨_, _, i, ei, er⟩ := z
    rw [ho] at ei
    exact hok.2.1 u i hu ei (by rw [← er]; exact List.mem_map.mpr ⟨j, hj2, rfl⟩)
theorem sp_arrive {Post : Int32 → wo_W → Prop} {i : Int32} (cc : cx E ow G) (h : ec_k E ow G x ca cad raf og so sh sj wl cn rs tg ss cap wt sn now) (hok : js_ok wt sn) (hj : jn_ok cn wt sn) (hlen : wt.length ≤ 8) (hdv : ∀ e, e < 3 → dv_ok (cn e)) (hsl : ss.length ≤ 20) (hcap : cap < 2 ^ 29) (hsm : sm_of ss < 2 ^ 29) (hsm2 : ∀ f : sdT → Bool, sm_of (dr_of f ss) < 2 ^ 29 ∧ (dr_of f ss).length ≤ 20)
    (hst : ∀ u j, u < 2 → sn u = some j → j.2.2.2.2.1 < 2 ^ 31 ∧ j.2.2.2.2.2.2.1 < 2 ^ 31 ∧ (ar_a cn j).length ≤ 80 ∧ (∀ r, j.2.2.2.2.2.1 = some r → sz_of r < 2 ^ 29) ∧ c_an (cn j.1) j.2.1 = none) (h1' : (∃ u j, ci_of i 2 = some u ∧ sn u = some j ∧ j.2.2.2.2.1 ≠ 0) → 95 ≤ mc) (h2' : (∃ u j, ci_of i 2 = some u ∧ sn u = some j ∧ j.2.2.2.2.1 ≠ 0) → 15700 ≤ ms)
    (hn : (∀ u j, ci_of i 2 = some u → sn u = some j → j.2.2.2.2.1 = 0) → Post (-1) G)
    (hp : ∀ u j, ci_of i 2 = some u → sn u = some j → j.2.2.2.2.1 ≠ 0 → ∀ ow' G', xt E Rec ow G ow' G' → cx E ow' G' → ec_k E ow' G' x ca cad raf og so sh sj wl (fun e => dvc (ar_c cn j e)) rs tg (ar_s cn j cap ss) cap (sw_of now (wt, sup (ar_n cn u j sn) u none)).1 (sw_of now (wt, sup (ar_n cn u j sn) u none)).2 now → Post (nI j.2.2.2.2.1) G') : pq_EC_arrive E mc ms Post G x i := by
  have hb := hok.b
  unfold pq_EC_arrive pq_EC_arrive_0 pq_EC_arrive_17
  refine ⟨h.1.1, 0, 0, Nat.zero_le _, Nat.zero_le _, sp_jobOn h (fun e => ⟨fun _ => hn (fun u j z => by rw [e] at z; cases z), fun a w => (by cases w)⟩) (fun u e r hr jo => ⟨fun w => hn (fun u2 j z z2 => ?_), fun a w => ?_⟩)⟩
  · rw [e] at z; cases z
    rw [jo.none w] at z2; cases z2
  · obtain ⟨ei, hu⟩ := ci_some e
    obtain ⟨j, e1, e2⟩ := jo.some w
    obtain ⟨st1, st2, st3, st4, st5⟩ := hst u j hu e1
    have rb := hb.2 u j hu e1
    have jc := hok.2.2.2.2 u j hu e1
    have jn := hj.2 u j hu e1
    have hc3 : j.1 < 3 := by omega
    refine ⟨e2.1.1, 0, 0, Nat.zero_le _, Nat.zero_le _, sp_isDone e2.1 st1 ?_⟩
    by_cases z : j.2.2.2.2.1 = 0
    · rw [show decide (j.2.2.2.2.1 ≠ 0) = false from decide_eq_false (fun w => w z)]
      refine ⟨fun w => absurd rfl w, fun _ => hn (fun u2 j2 z1 z2 => ?_)⟩
      rw [e] at z1; cases z1
      rw [e1] at z2; cases z2
      exact z
    · rw [decide_eq_true z]
      refine ⟨fun _ => ?_, fun w => absurd w (by decide)⟩
      have hp' := hp u j e e1 z
      have h1 := h1' ⟨u, j, e, e1, z⟩
      have h2 := h2' ⟨u, j, e, e1, z⟩
      obtain ⟨_, _, _, _, rq, _⟩ := h.2.2.1 j.1 hc3
      obtain ⟨q0, q2, q3, q4, q5⟩ := rq j.2.1 jn
      have q1 := q5 st5
      have za : wo_ty G a ≠ 0 := by rw [e2.1.1]; decide
      refine ⟨e2.1.1, fun r13 hr13 => ⟨h.1.1, 60, 10000, by omega, by omega, ?_⟩⟩
      refine sp_answerTo cc h.1.1 h.1.2.2.2.2.2.2.1 h.2.2.2.2.2.1 e2.1 st1 st2 q1 (by rw [q3]; unfold Qc; omega) (by omega) (by omega) (fun ya ow2 G2 y2 s2 S2 => ?_)
      have c2 := cc.xt y2 (by decide)
      have k2 := ec_sh h cc hb y2 s2
      obtain ⟨a1, a2, a3, a4, a5⟩ := ec_an (t := j.2.1) k2 c2 hb hc3 jn S2
      have jb2 := e2.xt y2 (by decide) (by show ¬ rid j = 6; omega)
      refine ⟨raf j.1 j.2.1, hr13.trans e2.1.2.2.1, a1, a2, fun G3 e3 => ?_⟩
      rw [← e3] at a3 a4 a5
      rw [anc_cup] at a5
      -- what the answer changes
      obtain ⟨_, _, yq, _, wq2⟩ := cn_set (q := ya) (u := at_of (c_rv (cn j.1) j.2.1) j.2.2.2.2.1 j.2.2.2.2.2.1 j.2.2.2.2.2.2.1) c2 hc3 (k2.2.2.1 j.1 hc3) jn S2
      rw [← e3] at yq
      have jb3 := jb2.xt yq (by unfold Qc; omega) (by show ¬ rid j = Qc j.1 + j.2.1; unfold Qc; omega)
      have y13 : xt E Rec ow G ow2 G3 := (y2.mn R6_e).tr a3
      have hj3 : jn_ok (ar_c cn j) wt sn := jn_anc hj
      have ek3 : ec_k E ow2 G3 x ca cad raf og so sh sj wl (ar_c cn j) rs tg ss cap wt sn now := a5
      have dv3 : ∀ e, e < 3 → dv_ok (ar_c cn j e) := dv_cup hdv (dv_anc (hdv j.1 hc3) st3)
      have q12 : rq_v (im ow2) G2 (raf j.1 j.2.1) (c_rv (cn j.1) j.2.1) := rq_at.xt q1 y2 (by decide) (by rw [q3]; unfold Qc; show ¬ _ = 6; omega)
      have u1 : rq_v (im ow2) G3 (raf j.1 j.2.1) (c_rv (cn j.1) j.2.1) := by
        rw [e3]
        exact rq_523 c2 q12 wq2 (by unfold Qc; omega)
      have u3 : ow2 (raf j.1 j.2.1) = Qc j.1 + j.2.1 := wq2
      -- the end of each road
      have h100 : ∀ ow4 G4 ss4 sn4 c4 s4, xt E Rec ow G ow4 G4 → cx E ow4 G4 → ec_k E ow4 G4 x ca cad raf og so sh sj wl (ar_c cn j) rs tg ss4 cap wt sn4 now → jb_v E ow4 G4 raf a j → js_ok wt sn4 → jn_ok (ar_c cn j) wt sn4 → c4 ≤ mc → s4 ≤ ms → ss4 = ar_s cn j cap ss → sn4 = ar_n cn u j sn → pq_EC_arrive_100 E mc ms Post G4 c4 s4 x i (some a) := by
        intro ow4 G4 ss4 sn4 c4 s4 y4 cc4 k4 jv4 ok4 jn4 hc4 hs4 es4 en4
        obtain ⟨v1, v2, v3⟩ := sj_el k4.2.2.2.2.2.2.1 hu
        unfold pq_EC_arrive_100
        rw [ei]
        refine ⟨k4.1.1, fun r hr => ⟨sj, hr.trans k4.1.2.2.2.2.2.2.2.1, v1, v2, k4.2.2.2.2.2.2.1.2.2.1, fun G5 e5 => ?_⟩⟩
        rw [nI_clamp (by omega)] at e5
        obtain ⟨y5, k5⟩ := ec_sn0 (u := u) k4 cc4 ok4.b
        rw [← e5] at y5 k5
        have cc5 := cc4.xt y5 (by decide)
        have jv5 := jv4.xt y5 (by decide) (by show ¬ rid j = 71; omega)
        have ok5 : js_ok wt (sup sn4 u none) := js_rm ok4
        have ndj : rid j ∉ wt.map rid := hok.2.1 u j hu e1
        refine ⟨0, 0, by omega, by omega, ?_⟩
        refine sp_swdv cc5 k5 ok5 hlen dv3 (fun G7 t7 dl => ⟨t7, 0, 0, by omega, by omega, dl 0 0 _ (fun G6 y6 cc6 k6 => ?_)⟩)
        have jv6 := jv5.xt y6 (by
            rintro (z | z)
            · have := RswL_e ok5 _ z; rcases this with z | z | z <;> omega
            · omega) (by
            rintro (z | z)
            · rcases z with z | z | z
              · omega
              · omega
              · exact ndj z
            · omega)
        refine ⟨a, rfl, jv6.1.1, ?_⟩
        rw [jv6.1.2.2.2.2.2.1]
        rw [es4, en4] at k6
        refine hp' ow4 G6 ((y4.tr (y5.mn (fun r z => by have : r = 71 := z; constructor <;> omega))).tr (y6.mn (fun r z => ?_))) cc6 k6
        rcases z with z | z
        · exact Rsw_e r (RswL_e ok5 r z)
        · constructor <;> omega
      have er : ar_r cn j = decide ((c_rv (cn j.1) j.2.1).1 = some 0 ∨ (c_rv (cn j.1) j.2.1).1 = some 1) := rfl
      refine ⟨jb3.1.1, fun r26 hr26 => ⟨raf j.1 j.2.1, hr26.trans jb3.1.2.2.1, u1.1, 0, 0, by omega, by omega, sp_isRead u1 ?_⟩⟩
      rw [← er]
      cases hr0 : ar_r cn j with
      | true =>
        refine ⟨fun w => absurd w (by decide), fun _ => ⟨ek3.1.1, 30, 5600, by omega, by omega, ?_⟩⟩
        refine sp_takeRead a4 ek3.1.1 ek3.1.2.2.2.2.2.2.1 ek3.1.2.2.2.2.2.1 ek3.2.2.2.2.2.1 ek3.2.2.2.2.1 hsl hcap hsm hsm2 jb3.1 u1 ek3.1.2.2.1 (by rw [u3]; unfold Qc; omega) (by rw [jb3.2]; omega) st4 (by omega) (by omega) (fun ow5 G5 y5 s5 o5 => ?_)
        have k5 := ec_tr ek3 a4 hb y5 s5 o5
        have c5 := a4.xt y5 (by decide)
        have jb5 := jb3.xt y5 (by decide) (by show ¬ (rid j = 5 ∨ rid j = 50 ∨ rid j = 6); omega)
        refine h100 ow5 G5 _ sn _ _ (y13.tr (y5.mn (fun r z => by rcases z with z | z | z <;> constructor <;> omega))) c5 k5 jb5 hok hj3 (by omega) (by omega) ?_ ?_
        · unfold ar_s; rw [if_pos hr0]; rfl
        · unfold ar_n; rw [if_neg (by rw [hr0]; simp)]
      | false =>
        have h69 : ∀ c6 s6, c6 ≤ mc → s6 ≤ ms → ar_w j = true → pq_EC_arrive_69 E mc ms Post G3 c6 s6 x i (some a) := by
          intro c6 s6 hc6 hs6 hw
          have u1' := u1
          obtain ⟨y1, y2', y3, ⟨y4, y5, y6⟩, _⟩ := u1'
          unfold pq_EC_arrive_69
          have tso : wo_ty G3 so = 6 := by obtain ⟨_, _, _, k⟩ := ek3.2.2.2.2.1; exact k.1
          refine ⟨ek3.1.1, fun r2 hr2 => ⟨a, rfl, jb3.1.1, fun r6 hr6 => ⟨raf j.1 j.2.1, hr6.trans jb3.1.2.2.1, y1, fun r10 hr10 => ⟨so, hr2.trans ek3.1.2.2.2.2.2.1, tso, 0, 0, hc6, hs6, ?_⟩⟩⟩⟩
          rw [hr10, y5]
          refine sp_dropPath a4 ek3.2.2.2.2.1 (by omega) y6 (fun G5 o5 yy5 => ?_)
          have k5 := ec_so ek3 a4 hb yy5 o5
          have c5 := a4.xt yy5 (by decide)
          have jb5 := jb3.xt yy5 (by decide) (by show ¬ (rid j = 5 ∨ rid j = 50); omega)
          have zp3 : wo_ty G3 (raf j.1 j.2.1) ≠ 0 := by rw [y1]; decide
          have ep5 := yy5.eq zp3 (by rw [u3]; unfold Qc; show ¬ (_ ∨ _); omega)
          have S5 := y6.xt yy5 (by decide)
          refine ⟨k5.1.1, 0, 0, by omega, by omega, ?_⟩
          rw [ei, show (1 : Int32) = nI 1 from rfl, pk_sub (by omega)]
          refine sp_jobOn k5 (fun en => by rw [ci_nI (by omega) (by decide)] at en; cases en) (fun u' eu' r' hr' jo' => ?_)
          rw [ci_nI (by omega) (by decide)] at eu'
          have eu2 : 1 - u = u' := Option.some.inj eu'
          rw [← eu2] at hr' jo'
          refine ⟨jb5.1.1, fun r23 hr23 => ⟨raf j.1 j.2.1, hr23.trans jb5.1.2.2.1, ep5.1.trans y1, fun r27 hr27 => ⟨0, 0, by omega, by omega, ?_⟩⟩⟩
          rw [hr27, ep5.2.2.2.2.1, y5]
          refine sp_spoil (rv := fun e k => c_rv (cn e) k) (pa := (c_rv (cn j.1) j.2.1).2.1) c5 jo' (fun i hi => hb.2 (1 - u) i (by omega) hi) (fun i hi => ?_) S5.1 (fun G6 y6' jo6 => ?_)
          · have ic := hok.2.2.2.2 (1 - u) i (by omega) hi
            have inn := hj3.2 (1 - u) i (by omega) hi
            obtain ⟨_, _, _, _, rq5, _⟩ := k5.2.2.1 i.1 (by omega)
            have nij : ¬ (i.1 = j.1 ∧ i.2.1 = j.2.1) := by
              intro q
              have er : rid i = rid j := by unfold rid; rw [q.1, q.2]
              have h3 := hok.2.2.1
              rcases Nat.lt_or_ge u 1 with z | z
              · have u0 : u = 0 := by omega
                rw [u0] at e1 hi
                exact h3 j i e1 hi er.symm
              · have u0 : u = 1 := by omega
                rw [u0] at e1 hi
                exact h3 i j hi e1 er
            have an5 : c_an (ar_c cn j i.1) i.2.1 = none := by
              have an0 := (hst (1 - u) i (by omega) hi).2.2.2.2
              unfold ar_c
              by_cases z : i.1 = j.1
              · rw [z, cup_c]
                show (if i.2.1 = j.2.1 then some (ar_a cn j) else c_an (cn j.1) i.2.1) = none
                rw [if_neg (fun w => nij ⟨z, w⟩), ← z]
                exact an0
              · rw [cup_n z]; exact an0
            have := (rq5 i.2.1 inn).2.2.2.2 an5
            have rve : c_rv (ar_c cn j i.1) = c_rv (cn i.1) := by
              unfold ar_c
              by_cases z : i.1 = j.1
              · rw [z, cup_c]; rfl
              · rw [cup_n z]
            rw [rve] at this
            exact this
          · rw [hr'] at jo6
            have k6 := ec_spl (u := 1 - u) (pa := []) (by omega) k5 c5 hok rfl y6' jo6
            have c6' := c5.xt y6' (fun z => by have := z.1; omega)
            have jb6 := jb5.xt y6' (fun z => by have := z.1; omega) (fun z => by
              obtain ⟨_, _, i, hi, er⟩ := z
              have h3 := hok.2.2.1
              rcases Nat.lt_or_ge u 1 with q | q
              · have u0 : u = 0 := by omega
                rw [u0] at e1 hi
                exact h3 j i e1 hi er
              · have u0 : u = 1 := by omega
                rw [u0] at e1 hi
                exact h3 i j hi e1 er.symm)
            rw [← ei]
            refine h100 ow2 G6 _ _ _ _ ((y13.tr (yy5.mn R5_e)).tr (y6'.mn (fun r z => by have := z.1; have := z.2.1; constructor <;> omega))) c6' k6 jb6 (js_spl hok) (jn_spl hj3) (by omega) (by omega) ?_ ?_
            · unfold ar_s; rw [if_neg (by rw [hr0]; decide), if_pos hw]; rfl
            · unfold ar_n; rw [if_pos ⟨hr0, hw⟩]; rfl
        refine ⟨fun _ => ⟨jb3.1.1, ?_⟩, fun w => absurd rfl w⟩
        rw [jb3.1.2.2.2.2.2.1]
        refine ⟨fun w => h69 _ _ (by omega) (by omega) ?_, fun w => ⟨fun w2 => ?_, fun w2 => h69 _ _ (by omega) (by omega) ?_⟩⟩
        · unfold ar_w; exact decide_eq_true (Or.inl ((nI_eq (b := 201) st1 (by decide)).mp w))
        · have hw : ar_w j = false := by
            unfold ar_w
            refine decide_eq_false (fun q => ?_)
            rcases q with q | q
            · exact w (by rw [q]; rfl)
            · exact w2 (by rw [q]; rfl)
          refine h100 ow2 G3 ss sn _ _ y13 a4 ek3 jb3 hok hj3 (by omega) (by omega) ?_ ?_
          · unfold ar_s; rw [if_neg (by rw [hr0]; decide), if_neg (by rw [hw]; decide)]
          · unfold ar_n; rw [if_neg (by rw [hw]; simp)]
        · unfold ar_w; exact decide_eq_true (Or.inr ((nI_eq (b := 204) st1 (by decide)).mp w2))
end SP
