def ouc (v : cnT) : cnT := (c_raw v, c_rd v, c_sh v, c_nh v, c_na v, (c_out v).drop 8, c_rv v, c_an v)
section SP
variable {E : wo_E} {mc ms : Nat} {G G1 : wo_W} {x ca og so sh sj wl now c o cap tg t : Nat} {ow ow1 : Nat → Nat} {R : Nat → Prop} {raf raf' : Nat → Nat → Nat} {cad : Nat → Nat} {cn : Nat → cnT} {rs : List roT} {ss : List sdT} {wt : List jobT} {sn : Nat → Option jobT}
theorem sp_out {Post : Int64 → wo_W → Prop} {i : Int32} (cc : cx E ow G) (h : ec_k E ow G x ca cad raf og so sh sj wl cn rs tg ss cap wt sn now) (hok : js_ok wt sn) (hj : jn_ok cn wt sn)
    (hn : ci_of i 3 = none → Post 0 G) (hp : ∀ c, ci_of i 3 = some c → ∀ G', xt E Rec ow G ow G' → cx E ow G' → ec_k E ow G' x ca cad raf og so sh sj wl (cup cn c (ouc (cn c))) rs tg ss cap wt sn now → Post (te_go ((c_out (cn c)).take 8) 0) G') : pq_EC_out E mc ms Post G x i := by
  unfold pq_EC_out pq_EC_out_0 pq_EC_out_20
  refine ⟨0, 0, Nat.zero_le _, Nat.zero_le _, sp_isConn (fun e => ⟨fun _ => hn e, fun w => absurd rfl w⟩) (fun c e => ⟨fun w => absurd w (by decide), fun _ => ?_⟩)⟩
  obtain ⟨ei, hc⟩ := ci_some e
  obtain ⟨g1, g2, g3, g4, g5, g6⟩ := ec_o3 (v := cn c) h hc
  rw [ei]
  refine ⟨g1, fun r hr => ⟨ca, g2 r hr, g3, g4, fun r2 hr2 => ⟨cad c, g5 r2 hr2, g6, 0, 0, Nat.zero_le _, Nat.zero_le _, ?_⟩⟩⟩
  obtain ⟨xr, ar, au, n1, n2, n3⟩ := h.2.2.1 c hc
  have nh := (h.2.2.1 c hc).nh.1
  refine sp_takeEight cc (by unfold Bc; omega) n1 (fun G' y n4 => hp c e G' (y.mn (fun r z => Rc_e hc r (Rcn_c r z))) (cc.xt y Rcn0) (ec_cv h cc hok.b hc y Rcn_c hj ⟨xr, ar, au, n4, n2.xt y Rcn0 (fun t ht => RcnQ hc (by omega) hc), fun z => (n3 z).xt y Rcn0 (fun k h1 h2 z => by rcases z with z | z | z <;> omega) (RcnQ hc (by omega) hc)⟩))
theorem sp_pending {Post : Int32 → wo_W → Prop} {i : Int32} (h : ec_k E ow G x ca cad raf og so sh sj wl cn rs tg ss cap wt sn now) (hn : ci_of i 3 = none → Post (-1) G) (hp : ∀ c, ci_of i 3 = some c → Post (nI (c_out (cn c)).length) G) : pq_EC_pending E mc ms Post G x i := by
  unfold pq_EC_pending pq_EC_pending_0 pq_EC_pending_20
  refine ⟨0, 0, Nat.zero_le _, Nat.zero_le _, sp_isConn (fun e => ⟨fun _ => hn e, fun w => absurd rfl w⟩) (fun c e => ⟨fun w => absurd w (by decide), fun _ => ?_⟩)⟩
  obtain ⟨ei, hc⟩ := ci_some e
  obtain ⟨g1, g2, g3, g4, g5, g6⟩ := ec_o3 (v := cn c) h hc
  rw [ei]
  refine ⟨g1, fun r hr => ⟨ca, g2 r hr, g3, g4, fun r2 hr2 => ⟨cad c, g5 r2 hr2, g6, ?_⟩⟩⟩
  obtain ⟨xr, ar, au, n1, n2, n3⟩ := h.2.2.1 c hc
  rw [n1.1.2.2.2.2.2.2.2.2.1]
  exact hp c e
theorem sp_waiting {Post : Int32 → wo_W → Prop} {i : Int32} (h : ec_k E ow G x ca cad raf og so sh sj wl cn rs tg ss cap wt sn now) (hn : ci_of i 3 = none → Post (-1) G) (hp : ∀ c, ci_of i 3 = some c → Post (nI (c_nh (cn c) - c_na (cn c))) G) : pq_EC_waiting E mc ms Post G x i := by
  unfold pq_EC_waiting pq_EC_waiting_0 pq_EC_waiting_20
  refine ⟨0, 0, Nat.zero_le _, Nat.zero_le _, sp_isConn (fun e => ⟨fun _ => hn e, fun w => absurd rfl w⟩) (fun c e => ⟨fun w => absurd w (by decide), fun _ => ?_⟩)⟩
  obtain ⟨ei, hc⟩ := ci_some e
  obtain ⟨g1, g2, g3, g4, g5, g6⟩ := ec_o3 (v := cn c) h hc
  rw [ei]
  obtain ⟨xr, ar, au, n1, n2, n3⟩ := h.2.2.1 c hc
  exact ⟨g1, fun r hr => ⟨ca, g2 r hr, g3, g4, fun r2 hr2 => ⟨cad c, g5 r2 hr2, g6, 0, 0, Nat.zero_le _, Nat.zero_le _, sp_unanswered n1 (hp c e)⟩⟩⟩
theorem sp_open {Post : Int32 → wo_W → Prop} {i : Int32} (h : ec_k E ow G x ca cad raf og so sh sj wl cn rs tg ss cap wt sn now) (hn : ci_of i 3 = none → Post 0 G) (hp : ∀ c, ci_of i 3 = some c → Post (bo_I (!c_sh (cn c))) G) : pq_EC_open E mc ms Post G x i := by
  unfold pq_EC_open pq_EC_open_0 pq_EC_open_23 pq_EC_open_24
  refine ⟨0, 0, Nat.zero_le _, Nat.zero_le _, sp_isConn (fun e => ⟨fun _ => ⟨tx_ok0, hn e⟩, fun w => absurd rfl w⟩) (fun c e => ⟨fun w => absurd w (by decide), fun _ => ?_⟩)⟩
  obtain ⟨ei, hc⟩ := ci_some e
  obtain ⟨g1, g2, g3, g4, g5, g6⟩ := ec_o3 (v := cn c) h hc
  rw [ei]
  obtain ⟨xr, ar, au, n1, n2, n3⟩ := h.2.2.1 c hc
  have hp' := hp c e
  refine ⟨g1, fun r hr => ⟨ca, g2 r hr, g3, g4, fun r2 hr2 => ⟨cad c, g5 r2 hr2, g6, ?_⟩⟩⟩
  rw [n1.1.2.2.2.2.2.2.2.2.2]
  cases hs : c_sh (cn c) with
  | false => rw [hs] at hp'; exact ⟨fun w => absurd rfl w, fun _ => ⟨tx_ok1, hp'⟩⟩
  | true => rw [hs] at hp'; exact ⟨fun _ => ⟨tx_ok0, hp'⟩, fun w => absurd w (by decide)⟩
theorem sp_isDone {Post : Int32 → wo_W → Prop} {im : Nat → Prop} {j p cp sa st gt : Nat} {rp : Option rpT} {sp : Bool} (h : jb_at E im G j p cp sa st rp gt sp) (hst : st < 2 ^ 31) (hp : Post (bo_I (decide (st ≠ 0))) G) : pq_Jb_isDone E mc ms Post G j := by
  obtain ⟨b1, b2, b3, b4, b5, b6, _⟩ := h
  unfold pq_Jb_isDone pq_Jb_isDone_0 pq_Jb_isDone_12
  rw [b6]
  refine ⟨b1, fun w => ?_, fun w => ?_⟩
  · have e : st = 0 := (nI_eq (b := 0) hst (by decide)).mp w
    rw [show decide (st ≠ 0) = false from decide_eq_false (fun z => z e)] at hp
    exact ⟨tx_ok0, hp⟩
  · have e : st ≠ 0 := fun e => w (by rw [e]; rfl)
    rw [decide_eq_true e] at hp
    exact ⟨tx_ok1, hp⟩
theorem sj_el {u : Nat} (h : sj_at E ow G sj raf sn) (hu : u < 2) : wo_ty G sj = 67 ∧ vp_in (nI u) (wo_len G sj) ∧ ∀ r, r = wo_er G sj (nI u).toNatClampNeg → jb_o E ow G raf r (sn u) := by
  obtain ⟨s1, s2, s3, s4, s5⟩ := h
  refine ⟨s1, by rw [s2]; exact vp_in_nI hu (by decide), fun r hr => ?_⟩
  rw [hr, nI_clamp (by omega)]
  exact s5 u hu
theorem sp_upstream {Post : Int32 → wo_W → Prop} {i : Int32} (h : ec_k E ow G x ca cad raf og so sh sj wl cn rs tg ss cap wt sn now) (hst : ∀ u j, u < 2 → sn u = some j → j.2.2.2.2.1 < 2 ^ 31) (hn : ci_of i 2 = none → Post (-1) G) (hp : ∀ u, ci_of i 2 = some u → Post (match sn u with | none => 0 | some j => if j.2.2.2.2.1 = 0 then 1 else 2) G) : pq_EC_upstream E mc ms Post G x i := by
  unfold pq_EC_upstream pq_EC_upstream_0 pq_EC_upstream_34
  refine ⟨0, 0, Nat.zero_le _, Nat.zero_le _, sp_isUp (fun e => ⟨fun w => absurd rfl w, fun _ => hn e⟩) (fun u e => ⟨fun _ => ?_, fun w => absurd w (by decide)⟩)⟩
  obtain ⟨ei, hu⟩ := ci_some e
  obtain ⟨s1, s2, s3⟩ := sj_el h.2.2.2.2.2.2.1 hu
  have hp' := hp u e
  rw [ei]
  refine ⟨h.1.1, fun r hr => ⟨sj, hr.trans h.1.2.2.2.2.2.2.2.1, s1, s2, fun r2 hr2 => ⟨fun w => ?_, fun a w => ?_⟩⟩⟩
  · rw [(s3 r2 hr2).none w] at hp'
    exact hp'
  · obtain ⟨j, e1, e2⟩ := (s3 r2 hr2).some w
    rw [e1] at hp'
    simp only [] at hp'
    refine ⟨e2.1.1, 0, 0, Nat.zero_le _, Nat.zero_le _, sp_isDone e2.1 (hst u j hu e1) ?_⟩
    by_cases z : j.2.2.2.2.1 = 0
    · rw [if_pos z] at hp'
      rw [show decide (j.2.2.2.2.1 ≠ 0) = false from decide_eq_false (fun w => w z)]
      exact ⟨fun _ => hp', fun w => absurd rfl w⟩
    · rw [if_neg z] at hp'
      rw [decide_eq_true z]
      exact ⟨fun w => absurd w (by decide), fun _ => hp'⟩
theorem sp_queue {Post : Int32 → wo_W → Prop} (h : ec_k E ow G x ca cad raf og so sh sj wl cn rs tg ss cap wt sn now) (hp : Post (nI wt.length) G) : pq_EC_queue E mc ms Post G x := by
  obtain ⟨wv, os, w1, w2, w3⟩ := h.2.2.2.2.2.2.2
  unfold pq_EC_queue pq_EC_queue_0
  refine ⟨h.1.1, fun r hr => ⟨wl, hr.trans h.1.2.2.2.2.2.2.2.2.1, w1.1.1, 0, 0, Nat.zero_le _, Nat.zero_le _, sp_alSize w1.1 ?_⟩⟩
  rw [w2]
  exact hp
theorem sp_stored {Post : Int32 → wo_W → Prop} (h : ec_k E ow G x ca cad raf og so sh sj wl cn rs tg ss cap wt sn now) (hp : Post (nI ss.length) G) : pq_EC_stored E mc ms Post G x := by
  obtain ⟨li, lv, os, k⟩ := h.2.2.2.2.1
  unfold pq_EC_stored pq_EC_stored_0
  exact ⟨h.1.1, fun r hr => ⟨so, hr.trans h.1.2.2.2.2.2.1, k.1, 0, 0, Nat.zero_le _, Nat.zero_le _, sp_soCount k hp⟩⟩
theorem sp_bytes {Post : Int32 → wo_W → Prop} (h : ec_k E ow G x ca cad raf og so sh sj wl cn rs tg ss cap wt sn now) (hp : Post (nI (sm_of ss)) G) : pq_EC_bytes E mc ms Post G x := by
  obtain ⟨li, lv, os, k⟩ := h.2.2.2.2.1
  unfold pq_EC_bytes pq_EC_bytes_0
  refine ⟨h.1.1, fun r hr => ⟨so, hr.trans h.1.2.2.2.2.2.1, k.1, ?_⟩⟩
  rw [k.2.2.2.2.1]
  exact hp
theorem sp_tag {Post : Int32 → wo_W → Prop} (h : ec_k E ow G x ca cad raf og so sh sj wl cn rs tg ss cap wt sn now) (hp : Post (nI tg) G) : pq_EC_tag E mc ms Post G x := by
  have k := h.2.2.2.1
  unfold pq_EC_tag pq_EC_tag_0
  refine ⟨h.1.1, fun r hr => ⟨og, hr.trans h.1.2.2.2.2.1, k.1, ?_⟩⟩
  rw [k.2.2.2.1]
  exact hp
theorem sp_clock {Post : Int32 → wo_W → Prop} (h : ec_k E ow G x ca cad raf og so sh sj wl cn rs tg ss cap wt sn now) (hp : Post (nI now) G) : pq_EC_clock E mc ms Post G x := by
  unfold pq_EC_clock pq_EC_clock_0
  refine ⟨h.1.1, ?_⟩
  rw [h.1.2.2.2.2.2.2.2.2.2]
  exact hp
theorem sp_jobOn {Post : Option Nat → wo_W → Prop} {i : Int32} (h : ec_k E ow G x ca cad raf og so sh sj wl cn rs tg ss cap wt sn now) (hn : ci_of i 2 = none → Post none G) (hp : ∀ u, ci_of i 2 = some u → ∀ r, r = wo_er G sj u → jb_o E ow G raf r (sn u) → Post r G) : pq_EC_jobOn E mc ms Post G x i := by
  unfold pq_EC_jobOn pq_EC_jobOn_0 pq_EC_jobOn_17
  refine ⟨0, 0, Nat.zero_le _, Nat.zero_le _, sp_isUp (fun e => ⟨fun _ => hn e, fun w => absurd rfl w⟩) (fun u e => ⟨fun w => absurd w (by decide), fun _ => ?_⟩)⟩
  obtain ⟨ei, hu⟩ := ci_some e
  obtain ⟨s1, s2, s3⟩ := sj_el h.2.2.2.2.2.2.1 hu
  rw [ei]
  refine ⟨h.1.1, fun r hr => ⟨sj, hr.trans h.1.2.2.2.2.2.2.2.1, s1, s2, fun r2 hr2 => hp u e r2 ?_ (s3 r2 hr2)⟩⟩
  rw [hr2, nI_clamp (by omega)]
def or_j (cn : Nat → cnT) (j : jobT) (rs : List roT) (tg : Nat) : Nat × Option rpT × Nat × List roT × Nat := wk_of (c_rv (cn j.1) j.2.1).1 (c_rv (cn j.1) j.2.1).2.1 (c_rv (cn j.1) j.2.1).2.2.1 (c_rv (cn j.1) j.2.1).2.2.2 j.2.2.1 rs tg
def or_s (j : jobT) (w : Nat × Option rpT × Nat × List roT × Nat) : jobT := (j.1, j.2.1, j.2.2.1, j.2.2.2.1, w.1, w.2.1, w.2.2.1, j.2.2.2.2.2.2.2)
def sup (sn : Nat → Option jobT) (u : Nat) (o : Option jobT) : Nat → Option jobT := fun k => if k = u then o else sn k
theorem sp_origin {Post : Int32 → wo_W → Prop} {i : Int32} (cc : cx E ow G) (h : ec_k E ow G x ca cad raf og so sh sj wl cn rs tg ss cap wt sn now) (hok : js_ok wt sn) (hj : jn_ok cn wt sn) (hrs : rs.length ≤ 6) (htg : tg + 1 < 2 ^ 31) (hst : ∀ u j, u < 2 → sn u = some j → j.2.2.2.2.1 < 2 ^ 31 ∧ j.2.2.1 < 2 ^ 31 ∧ (j.2.2.2.2.1 = 0 → j.2.2.2.2.2.1 = none ∧ j.2.2.2.2.2.2.1 = 0) ∧ c_an (cn j.1) j.2.1 = none) (h1 : 8 ≤ mc) (h2 : 60 ≤ ms)
    (hn : (∀ u j, ci_of i 2 = some u → sn u = some j → j.2.2.2.2.1 ≠ 0) → Post (-1) G)
    (hp : ∀ u j, ci_of i 2 = some u → sn u = some j → j.2.2.2.2.1 = 0 → ∀ ow' G', xt E Rec ow G ow' G' → cx E ow' G' → ec_k E ow' G' x ca cad raf og so sh sj wl cn (or_j cn j rs tg).2.2.2.1 (or_j cn j rs tg).2.2.2.2 ss cap wt (sup sn u (some (or_s j (or_j cn j rs tg)))) now → Post (nI (or_j cn j rs tg).1) G') : pq_EC_origin E mc ms Post G x i := by
  have hb := hok.b
  unfold pq_EC_origin pq_EC_origin_0 pq_EC_origin_17
  refine ⟨h.1.1, 0, 0, Nat.zero_le _, Nat.zero_le _, sp_jobOn h (fun e => ⟨fun _ => hn (fun u j z => by rw [e] at z; cases z), fun a w => (by cases w)⟩) (fun u e r hr jo => ⟨fun w => hn (fun u2 j z z2 => ?_), fun a w => ?_⟩)⟩
  · rw [e] at z; cases z
    rw [jo.none w] at z2; cases z2
  · obtain ⟨ei, hu⟩ := ci_some e
    obtain ⟨j, e1, e2⟩ := jo.some w
    obtain ⟨st1, st2, st3, st4⟩ := hst u j hu e1
    refine ⟨e2.1.1, 0, 0, Nat.zero_le _, Nat.zero_le _, sp_isDone e2.1 st1 ?_⟩
    by_cases z : j.2.2.2.2.1 = 0
    · rw [show decide (j.2.2.2.2.1 ≠ 0) = false from decide_eq_false (fun w => w z)]
      refine ⟨fun _ => ?_, fun w => absurd rfl w⟩
      obtain ⟨f1, f2⟩ := st3 z
      have jb := e2.1
      rw [f1, f2] at jb
      have rb := hb.2 u j hu e1
      have jc := hok.2.2.2.2 u j hu e1
      have jn := hj.2 u j hu e1
      obtain ⟨_, _, _, _, rq, _⟩ := h.2.2.1 j.1 (by omega)
      obtain ⟨q0, q2, q3, q4, q5⟩ := rq j.2.1 jn
      have q1 := q5 st4
      refine ⟨h.1.1, fun r13 hr13 => ⟨og, hr13.trans h.1.2.2.2.2.1, h.2.2.2.1.1, mc, ms, by omega, by omega, ?_⟩⟩
      refine sp_work cc h.2.2.2.1 hrs htg jb st2 e2.2 (by omega) (by omega) (by omega) q1 (by rw [q3]; unfold Qc; omega) (by rw [q3]; unfold Qc; omega) (by rw [q3]; unfold Qc; omega) (by omega) (by omega) (fun ow2 G2 y2 og2 jb2 => ?_)
      have R0 : ¬ Rwk (rid j) 0 := by rintro (z | z | z) <;> omega
      have lo : ∀ r, r < 200 → r ≠ 4 → r ≠ 40 → ¬ Rwk (rid j) r := fun r h1 h2 h3 z => by rcases z with z | z | z <;> omega
      have c2 := cc.xt y2 R0
      have za : wo_ty G a ≠ 0 := by rw [e2.1.1]; decide
      have w2 : ow2 a = rid j := (y2.w za).trans e2.2
      refine ⟨jb2.1, ?_⟩
      rw [jb2.2.2.2.2.2.1]
      refine hp u j e e1 z ow2 G2 (y2.mn (fun r z => by rcases z with z | z | z <;> constructor <;> omega)) c2 ?_
      obtain ⟨k1, k2, k3, k4, k5, k6, k7, k8⟩ := h
      have hR : ∀ r, Rwk (rid j) r → r ≠ 0 ∧ (r < 100 ∨ 200 ≤ r ∧ r < 1000) := fun r z => by rcases z with z | z | z <;> omega
      refine ⟨k1.xt y2 (lo 7 (by omega) (by omega) (by omega)), k2.xt y2 (lo 7 (by omega) (by omega) (by omega)), fun e he => cn_lo (k3 e he) he y2 hR, og2, k5.xt cc y2 R0 (lo 5 (by omega) (by omega) (by omega)) (lo 50 (by omega) (by omega) (by omega)), k6.xt cc y2 R0 (lo 6 (by omega) (by omega) (by omega)), ?_, k8.xt cc y2 R0 (lo 70 (by omega) (by omega) (by omega)) (fun i hi => ?_)⟩
      · obtain ⟨s1, s2, s3, s4, s5⟩ := k7
        have zs : wo_ty G sj ≠ 0 := by rw [s1]; decide
        have es := y2.eq zs (by rw [s4]; exact lo 71 (by omega) (by omega) (by omega))
        refine ⟨es.1.trans s1, es.2.1.trans s2, s3, (y2.w zs).trans s4, fun k hk => ?_⟩
        rw [es.2.2.2.2.2.2.2]
        unfold sup
        by_cases zk : k = u
        · rw [if_pos zk, zk, ← hr, w]
          exact ⟨jb2, w2⟩
        · rw [if_neg zk]
          refine (s5 k hk).xt y2 R0 (fun i hi => ?_)
          have ib := hb.2 k i hk hi
          have nd : rid i ≠ rid j := by
            have h3 := hok.2.2.1
            rcases Nat.lt_or_ge k 1 with q | q
            · have k0 : k = 0 := by omega
              have u1 : u = 1 := by omega
              rw [k0] at hi; rw [u1] at e1
              exact h3 i j hi e1
            · have k0 : k = 1 := by omega
              have u1 : u = 0 := by omega
              rw [k0] at hi; rw [u1] at e1
              exact fun q => h3 j i e1 hi q.symm
          rintro (q | q | q) <;> omega
      · have ib := hb.1 i hi
        have nd : rid i ≠ rid j := fun q => hok.2.1 u j hu e1 (by rw [← q]; exact List.mem_map.mpr ⟨i, hi, rfl⟩)
        rintro (q | q | q) <;> omega
    · rw [decide_eq_true z]
      refine ⟨fun w => absurd w (by decide), fun _ => hn (fun u2 j2 z1 z2 => ?_)⟩
      rw [e] at z1; cases z1
      rw [e1] at z2; cases z2
      exact z
end SP
