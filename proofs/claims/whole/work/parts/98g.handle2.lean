def rq_d (d : rdT) : rqT := (d.2.2.2.2.2.2.2.1, d.2.2.2.2.2.2.2.2.1, d.2.2.2.2.2.2.1, d.2.2.2.2.2.2.2.2.2)
def rd_n (li : List Nat) : rdT := (0, 0, none, false, 0, li, [], none, [], fun _ => none)
def enl (v : cnT) : cnT := ([], rd_n (d_li (c_rd v)), c_sh v, c_nh v + 1, c_na v, c_out v, fun k => if k = c_nh v then rq_d (c_rd v) else c_rv v k, fun k => if k = c_nh v then none else c_an v k)
def enr (v : cnT) : cnT := ([], rd_0, true, c_nh v + 1, c_na v, c_out v, c_rv v, fun k => if k = c_nh v then none else c_an v k)
def shu (v : cnT) : cnT := (c_raw v, c_rd v, true, c_nh v, c_na v, c_out v, c_rv v, c_an v)
def rup (raf : Nat → Nat → Nat) (c n p : Nat) : Nat → Nat → Nat := fun e k => if e = c ∧ k = n then p else raf e k
def cup (cn : Nat → cnT) (c : Nat) (v : cnT) : Nat → cnT := fun e => if e = c then v else cn e
def jn_ok (cn : Nat → cnT) (wt : List jobT) (sn : Nat → Option jobT) : Prop := (∀ j ∈ wt, j.2.1 < c_nh (cn j.1)) ∧ ∀ u j, u < 2 → sn u = some j → j.2.1 < c_nh (cn j.1)
section SP
variable {E : wo_E} {mc ms : Nat} {G G1 : wo_W} {x ca og so sh sj wl now c o cap tg t : Nat} {ow ow1 : Nat → Nat} {R : Nat → Prop} {raf raf' : Nat → Nat → Nat} {cad : Nat → Nat} {cn : Nat → cnT} {rs : List roT} {ss : List sdT} {wt : List jobT} {sn : Nat → Option jobT}
theorem jb_vr {a : Nat} {j : jobT} (h : jb_v E ow G raf a j) (e : raf' j.1 j.2.1 = raf j.1 j.2.1) : jb_v E ow G raf' a j := by
  unfold jb_v at h ⊢
  rw [e]
  exact h
theorem ec_cn {v' : cnT} {n p : Nat} (h : ec_k E ow G x ca cad raf og so sh sj wl cn rs tg ss cap wt sn now) (cc : cx E ow G) (hb : js_b wt sn) (hc : c < 3) (y : xt E R ow G ow1 G1) (hR : ∀ r, R r → Bc c ≤ r ∧ r ≤ Bc c + 6 ∨ Qc c ≤ r ∧ r ≤ Qc c + 20) (hj : jn_ok cn wt sn) (hn : n = c_nh (cn c)) (hv : cn_a E ow1 G1 c (cad c) (rup raf c n p c) v') : ec_k E ow1 G1 x ca cad (rup raf c n p) og so sh sj wl (cup cn c v') rs tg ss cap wt sn now := by
  obtain ⟨k1, k2, k3, k4, k5, k6, k7, k8⟩ := h
  have lo : ∀ r, r < 100 → ¬ R r := fun r hr z => by have := hR r z; unfold Bc Qc at this; omega
  have hi : ∀ r, 200 ≤ r → r < 300 → ¬ R r := fun r h1 h2 z => by have := hR r z; unfold Bc Qc at this; omega
  have rr : ∀ j : jobT, j.2.1 < c_nh (cn j.1) → rup raf c n p j.1 j.2.1 = raf j.1 j.2.1 := by
    intro j hj
    unfold rup
    refine if_neg (fun z => ?_)
    rw [z.1] at hj
    omega
  refine ⟨k1.xt y (lo 7 (by decide)), k2.xt y (lo 7 (by decide)), fun e he => ?_, k4.xt cc y (lo 0 (by decide)) (lo 4 (by decide)) (lo 40 (by decide)), k5.xt cc y (lo 0 (by decide)) (lo 5 (by decide)) (lo 50 (by decide)), k6.xt cc y (lo 0 (by decide)) (lo 6 (by decide)), ?_, ?_⟩
  · unfold cup
    by_cases z : e = c
    · rw [if_pos z, z]; exact hv
    · rw [if_neg z]
      have er : rup raf c n p e = raf e := by funext k; unfold rup; exact if_neg (fun w => z w.1)
      rw [er]
      exact (k3 e he).xt y (lo 0 (by decide)) (fun k hk w => by have := hR _ w; unfold Bc Qc at this; omega) (fun s hs w => by have := hR _ w; unfold Bc Qc at this; omega)
  · have k7' := k7.xt y (lo 0 (by decide)) (lo 71 (by decide)) (fun u j hu hj => hi _ (hb.2 u j hu hj).1 (hb.2 u j hu hj).2)
    obtain ⟨s1, s2, s3, s4, s5⟩ := k7'
    refine ⟨s1, s2, s3, s4, fun u hu => ?_⟩
    have := s5 u hu
    cases e1 : wo_er G1 sj u with
    | none => rw [e1] at this; rw [this.none rfl]; trivial
    | some a =>
      rw [e1] at this
      obtain ⟨j, e2, e3⟩ := this.some rfl
      rw [e2]
      exact jb_vr e3 (rr j (hj.2 u j hu e2))
  · have k8' := k8.xt cc y (lo 0 (by decide)) (lo 70 (by decide)) (fun j hj => hi _ (hb.1 j hj).1 (hb.1 j hj).2)
    obtain ⟨wv, os, w1, w2, w3⟩ := k8'
    refine ⟨wv, os, w1, w2, fun i hi2 => jb_vr (w3 i hi2) (rr _ (hj.1 _ ?_))⟩
    rw [List.getD_eq_getElem?_getD, List.getElem?_eq_getElem hi2]
    exact List.getElem_mem hi2
theorem ec_cg (h : ec_k E ow G x ca cad raf og so sh sj wl cn rs tg ss cap wt sn now) {cn' : Nat → cnT} (e : ∀ k, k < 3 → cn k = cn' k) : ec_k E ow G x ca cad raf og so sh sj wl cn' rs tg ss cap wt sn now := by
  obtain ⟨k1, k2, k3, k4, k5, k6, k7, k8⟩ := h
  exact ⟨k1, k2, fun k hk => by rw [← e k hk]; exact k3 k hk, k4, k5, k6, k7, k8⟩
theorem rup_self {n : Nat} : rup raf c n (raf c n) = raf := by
  funext e k
  unfold rup
  by_cases z : e = c ∧ k = n
  · rw [if_pos z, z.1, z.2]
  · rw [if_neg z]
theorem ec_cv {v' : cnT} (h : ec_k E ow G x ca cad raf og so sh sj wl cn rs tg ss cap wt sn now) (cc : cx E ow G) (hb : js_b wt sn) (hc : c < 3) (y : xt E R ow G ow1 G1) (hR : ∀ r, R r → Bc c ≤ r ∧ r ≤ Bc c + 6 ∨ Qc c ≤ r ∧ r ≤ Qc c + 20) (hj : jn_ok cn wt sn) (hv : cn_a E ow1 G1 c (cad c) (raf c) v') : ec_k E ow1 G1 x ca cad raf og so sh sj wl (cup cn c v') rs tg ss cap wt sn now := by
  have := ec_cn (n := c_nh (cn c)) (p := raf c (c_nh (cn c))) (v' := v') h cc hb hc y hR hj rfl (by rw [rup_self]; exact hv)
  rw [rup_self] at this
  exact this
theorem Rcn_c : ∀ r, Rcn (Bc c) r → Bc c ≤ r ∧ r ≤ Bc c + 6 ∨ Qc c ≤ r ∧ r ≤ Qc c + 20 := fun r z => by rcases z with z | z | z <;> omega
theorem Rc_e (hc : c < 3) : ∀ r, (Bc c ≤ r ∧ r ≤ Bc c + 6 ∨ Qc c ≤ r ∧ r ≤ Qc c + 20) → Rec r := fun r z => by unfold Bc Qc at z; constructor <;> omega
theorem sp_finEnl {mc2 ms2 mc3 ms3 xr : Nat} {K : Option Nat → wo_W → Prop} (cc : cx E ow G) (h : ec_k E ow G x ca cad raf og so sh sj wl cn rs tg ss cap wt sn now) (hb : js_b wt sn) (hc : c < 3) (hsh : c_sh (cn c) = false) (hnh : c_nh (cn c) < 20) (hbo : (d_bo (c_rd (cn c))).length ≤ 8) (hj : jn_ok cn wt sn) (h1 : 4 ≤ mc2) (h2 : 40 ≤ ms2) (hxr : wo_gr G 384 (cad c) = some xr)
    (hp : ∀ (p : Nat) (G' : wo_W), wo_ty G' (cad c) = 7 → (∀ Post2 : wo_W → Prop, (∀ ow2 G2, xt E Rec ow G ow2 G2 → cx E ow2 G2 → ec_k E ow2 G2 x ca cad (rup raf c (c_nh (cn c)) p) og so sh sj wl (cup cn c (enl (cn c))) rs tg ss cap wt sn now → rup raf c (c_nh (cn c)) p c (c_nh (cn c)) = p → Post2 G2) → pq_Cn_enlist E mc3 ms3 Post2 G' (cad c) (some p)) → K (some p) G') : pq_Rd_finish E mc2 ms2 K G xr := by
  have h' := h
  obtain ⟨k1, k2, k3, k4, k5, k6, k7, k8⟩ := h'
  obtain ⟨x2, ar, au, n1, n2, n3⟩ := k3 c hc
  have ex : x2 = xr := by
    have := n1.1.2.2.2.1
    rw [hxr] at this
    exact (Option.some.inj this).symm
  rw [ex] at n1 n3
  have rd := n3 hsh
  have hQ : 0 < Qc c + c_nh (cn c) ∧ Qc c + c_nh (cn c) < Bc c := by unfold Qc Bc; omega
  have hQ2 : 0 < Qc c + (c_nh (cn c) + 1) ∧ Qc c + (c_nh (cn c) + 1) < Bc c := by unfold Qc Bc; omega
  have R0 : ¬ Rrd (Bc c) (Qc c + c_nh (cn c)) 0 := Rrd0 hQ
  generalize hd : c_rd (cn c) = d at rd hbo
  obtain ⟨pt, hd', ln, ch, lf, li, bo, m, pa, vs⟩ := d
  refine sp_finish (Q2 := Qc c + (c_nh (cn c) + 1)) cc hQ hQ2 rd hbo h1 h2 (fun p ow1 G1 y1 r1 q1 q2 q3 q4 => ?_)
  have c1 := cc.xt y1 R0
  have Rn : ∀ r, (r = Bc c ∨ r = Bc c + 5 ∨ r = Bc c + 6) → ¬ Rrd (Bc c) (Qc c + c_nh (cn c)) r := fun r hr z => by
    rcases z with z | z
    · omega
    · unfold Bc Qc at *; omega
  have n1' := n1.xt y1 (Rn _ (Or.inl rfl)) (Rn _ (Or.inr (Or.inl rfl))) (Rn _ (Or.inr (Or.inr rfl)))
  have n2' := n2.xt y1 R0 (fun s hs z => by
    rcases z with z | z
    · unfold Bc Qc at z; omega
    · omega)
  refine hp p G1 n1'.1.1 (fun Post2 hp2 => ?_)
  refine sp_enlist c1 (by unfold Bc; omega) n1' hnh q1.1 (fun G2 y2 n3' => ?_)
  have c2 := c1.xt y2 Rcn0
  have y12 : xt E (fun r => Bc c ≤ r ∧ r ≤ Bc c + 6 ∨ Qc c ≤ r ∧ r ≤ Qc c + 20) ow G ow1 G2 := (y1.mn (fun r z => by
    rcases z with z | z
    · left; omega
    · right; omega)).tr (y2.mn Rcn_c)
  have er : rup raf c (c_nh (cn c)) p c = fun t => if t = c_nh (cn c) then p else raf c t := by
    funext k
    unfold rup
    by_cases z : k = c_nh (cn c)
    · rw [if_pos ⟨rfl, z⟩, if_pos z]
    · rw [if_neg (fun w => z w.2), if_neg z]
  have zp : wo_ty G1 p ≠ 0 := by rw [q1.1]; decide
  have nQ : ¬ Rcn (Bc c) (Qc c + c_nh (cn c)) := RcnQ hc (by omega) hc
  have hv : cn_a E ow1 G2 c (cad c) (rup raf c (c_nh (cn c)) p c) (enl (cn c)) := by
    rw [er]
    refine ⟨xr, ar, au, n3', fun s hs => ?_, fun _ => ?_⟩
    · have hs' : s < c_nh (cn c) + 1 := hs
      by_cases z : s = c_nh (cn c)
      · have e1 : (fun t => if t = c_nh (cn c) then p else raf c t) s = p := if_pos z
        have e2 : c_rv (enl (cn c)) s = rq_d (pt, hd', ln, ch, lf, li, bo, m, pa, vs) := by
          show (if s = c_nh (cn c) then rq_d (c_rd (cn c)) else c_rv (cn c) s) = _
          rw [if_pos z, hd]
        have e3 : c_an (enl (cn c)) s = none := if_pos z
        rw [e1, e2, e3]
        refine ⟨(y2.ty zp).trans q1.1, q2, by rw [z]; exact q3, ?_, fun _ => rq_at.xt q1 y2 Rcn0 (by rw [q3]; exact nQ)⟩
        show wo_gr G2 523 p = none
        rw [(y2.eq zp (by rw [q3]; exact nQ)).2.2.2.2.1]
        exact q4
      · have e1 : (fun t => if t = c_nh (cn c) then p else raf c t) s = raf c s := if_neg z
        have e2 : c_rv (enl (cn c)) s = c_rv (cn c) s := if_neg z
        have e3 : c_an (enl (cn c)) s = c_an (cn c) s := if_neg z
        rw [e1, e2, e3]
        exact (n2'.xt y2 Rcn0 (fun t ht => RcnQ hc (by omega) hc)) s (by omega)
    · have e4 : c_rd (enl (cn c)) = rd_n li := by
        show rd_n (d_li (c_rd (cn c))) = rd_n li
        rw [hd]
        rfl
      rw [e4]
      exact r1.xt y2 Rcn0 (fun k h1 h2 z => by rcases z with z | z | z <;> omega) (RcnQ hc (by omega) hc)
  exact hp2 ow1 G2 (y12.mn (Rc_e hc)) c2 (ec_cn h cc hb hc y12 (fun r z => z) hj rfl hv) (by unfold rup; exact if_pos ⟨rfl, rfl⟩)
end SP
