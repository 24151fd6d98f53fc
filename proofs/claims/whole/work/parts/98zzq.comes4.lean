section MD
variable {E : wo_E} {mc ms m c s b k cap now tg o : Nat} {G0 G G1 G2 : wo_W} {ow : Nat → Nat} {A : Nat → Nat} {P Q : Nat → Nat → Prop} {raw raw' out : List Nat} {sh sh' : Bool} {nh na : Nat} {an an' : Nat → Option (List Nat)} {rv rv' : Nat → Nat → rqT} {rs : List roT} {ss : List sdT} {wt : List jobT} {sn : Nat → Option jobT} {cn : Nat → cnT} {v w : cnT} {S : hdT}
theorem sp_cm53 {Post : wo_W → Prop} (hc : c < 3) (m0 : mf E ow m A PT G0 G) (hcn : ∀ e, e < 3 → e ≠ c → mcn A G e (cn e)) (hk : mk A G c raw (c_sh (cn c)) (c_nh (cn c)) (c_na (cn c)) (c_out (cn c)) (c_an (cn c))) (hmo : mo m A G (rvf cn) rs tg ss wt sn cap now k) (hs : sok (cn, rs, tg, ss, wt, sn) cap now k) (hk1 : k + 1 < 4200) (hm : my_of (cn c) = true) (ho : o = (rd_step (c_rd (cn c)) b).1) (ho0 : o ≠ 0) (hq : o = 1 → vq_at A G 8 (rq_d (rd_step (c_rd (cn c)) b).2)) (hp : ∀ G', mf E ow m A PT G0 G' → mr E ow m A G' (hd_of c o (cup cn c (rdc (cn c) b)) rs tg ss wt sn now) cap now (k + 1) → Post G') : pq_Md_comes_53 E mc ms Post G 0 0 m (nI c) (nI o) := by
  have hv : cok (cn c) := (hs.1 c hc).1
  have hr := (rk_step (b := b) hv.2.1).1
  have vc : vp_in (nI c) 3 := vp_in_nI hc (by decide)
  have cl : (nI c).toNatClampNeg = c := nI_clamp (by omega)
  have hmb := my_b hm
  have o1000 : o < 1000 := by rw [ho]; exact hr
  have hnh := hv.2.2.2.2.2.1
  unfold pq_Md_comes_53 pq_Md_comes_164
  refine ⟨fun _ => ⟨m0.k.1, m0.k.wr (f := 897) (k := 66) (n := 3) (by decide) vc (fun G1 e1 => ⟨fun _ => ?_, fun w => absurd (nI_pos' (by omega)) w⟩)⟩, fun w => absurd ((nI_eq (b := 0) (by omega) (by decide)).mp w) ho0⟩
  rw [cl] at e1
  have m1 : mf E ow m A (fun f i => f = 897 ∧ i = c) G G1 := by rw [e1]; exact mf_sei m0.k m0.b (f := 897) (k := 66) (n := 3) (by decide) ⟨rfl, rfl⟩
  have k1 : mk A G1 c [] (c_sh (cn c)) (c_nh (cn c)) (c_na (cn c)) (c_out (cn c)) (c_an (cn c)) := mk_r hk m1 (fun f i z => Or.inr z.1) ⟨by rw [e1, sei_at, if_pos rfl]; rfl, by decide, fun i hi => (by cases hi)⟩
  have e903 := k1.2.2.2.1.1
  have e904 := k1.2.2.2.1.2.1
  refine m1.k.rd (f := 903) (k := 66) (n := 3) (by decide) vc (m1.k.rd (f := 904) (k := 66) (n := 3) (by decide) vc ?_)
  have et : nI (c_na (cn c)) + nI (c_nh (cn c) - c_na (cn c)) = nI (c_nh (cn c)) := by rw [nI_add]; congr 1; omega
  have ex : (4 : Int32) * nI c + (nI (c_nh (cn c)) - nI (c_nh (cn c)) / 4 * 4) = nI (4 * c + c_nh (cn c) % 4) := by rw [nI_mod4 (by omega), show (4 : Int32) = nI 4 from rfl, nI_lin]
  rw [cl, e903, e904, et, ex]
  refine m1.k.wr (f := 902) (k := 66) (n := 12) (by decide) (vp_in_nI (by omega) (by decide)) (fun G2 e2 => ?_)
  rw [nI_clamp (by omega)] at e2
  have m2 : mf E ow m A (Pnw c (c_nh (cn c))) G1 G2 := by rw [e2]; exact mf_sei m1.k m1.b (f := 902) (k := 66) (n := 12) (by decide) (Or.inl ⟨rfl, rfl⟩)
  refine m2.k.wi (f := 904) (k := 66) (n := 3) (by decide) vc (fun G3 e3 => ?_)
  have e904b : wo_ei G2 (A 904) c = nI (c_nh (cn c) - c_na (cn c)) := by
    rw [e2, ei_sei m1.k (f := 902) (k := 66) (n := 12) (f' := 904) (k' := 66) (n' := 3) (by decide) (by decide), if_neg (fun z => absurd z.1 (by decide))]
    exact e904
  rw [e904b, nI_1] at e3
  have m3 : mf E ow m A (Pnw c (c_nh (cn c))) G2 G3 := by rw [e3]; exact mf_sei m2.k m2.b (f := 904) (k := 66) (n := 3) (by decide) (Or.inr ⟨rfl, rfl⟩)
  have m13 := m2.tr m3
  have k3 : mk A G3 c [] (c_sh (cn c)) (c_nh (cn c) + 1) (c_na (cn c)) (c_out (cn c)) (fun t => if t = c_nh (cn c) then none else c_an (cn c) t) := by
    refine mk_new k1 m13 (fun f i z => z) hmb.2.2.1 hmb.2.1 ?_ ?_
    · rw [e3, ei_sei m2.k (f := 904) (k := 66) (n := 3) (f' := 902) (k' := 66) (n' := 12) (by decide) (by decide), if_neg (fun z => absurd z.1 (by decide)), e2, sei_at, if_pos rfl]
    · rw [e3, sei_at, if_pos rfl]
  have k3 : mcn A G3 c (enl (rdc (cn c) b)) := k3
  have m1C : mf E ow m A (PC c) G G1 := m1.mn (fun f i z => Or.inr (Or.inl z))
  have mC : mf E ow m A (PC c) G G3 := m1C.tr (m13.mn (fun f i z => Pnw_C z))
  have mT : mf E ow m A PT G0 G3 := m0.tr (mC.mn (fun _ _ _ => trivial))
  have hcn3 : ∀ e, e < 3 → e ≠ c → mcn A G3 e (cn e) := fun e he z => mk.mf (hcn e he z) mC (fun f i y q => PC_ne z y q)
  have hmo3 := mo_mf hmo mC (fun f i z => mo_PC z)
  have o1 : nI o ≤ 1 ↔ o ≤ 1 := nI_leI (b := 1) (by omega) (by decide)
  refine ⟨fun w1 => ?_, fun w1 => ⟨0, 0, Nat.zero_le _, Nat.zero_le _, ?_⟩⟩
  · have eo : o = 1 := by have := o1.mp w1; omega
    have eo' : (rd_step (c_rd (cn c)) b).1 = 1 := by rw [← ho]; exact eo
    have hq3 : vq_at A G3 8 (rq_d (rd_step (c_rd (cn c)) b).2) := by
      refine (hq eo).mf mC (fun f hf z => ?_) (fun i hi => ⟨fun z => ?_, fun z => ?_⟩)
      · have h2 : 896 ≤ f ∧ f ≤ 904 := by unfold PC at z; omega
        simp at hf
        omega
      · unfold PC at z; omega
      · unfold PC at z; omega
    subst eo
    refine ⟨fun w2 => ⟨0, 0, Nat.zero_le _, Nat.zero_le _, ?_⟩, fun w2 => ⟨0, 0, Nat.zero_le _, Nat.zero_le _, ?_⟩⟩
    · have nc2 : c ≠ 2 := fun z => w2 (by rw [z]; rfl)
      exact sp_cmHandle (by omega) mT hcn3 k3 hmo3 hs hk1 hm eo' hq3 hp
    · have ec2 : c = 2 := (nI_eq (b := 2) (by omega) (by decide)).mp w2
      exact sp_cmDirect ec2 mT hcn3 k3 hmo3 hs hk1 hm eo' hq3 hp
  · exact sp_cmPlain hc mT hcn3 k3 hmo3 hs hm ho (fun z => w1 (o1.mpr (by omega))) hp
theorem sp_mcomes {Post : wo_W → Prop} (h : mr E ow m A G S cap now k) (hbb : ow_b E ow G) (hs : sok S cap now k) (hk1 : k + 1 < 4200) (hc : c < 3) (hb0 : 0 < b) (hb : b < 256) (hm : my_of (S.1 c) = true) (hp : ∀ G', mf E ow m A PT G G' → mr E ow m A G' (fe_of c b now S) cap now (k + 1) → Post G') : pq_Md_comes E mc ms Post G m (nI c) (nI b) := by
  obtain ⟨cn, rs, tg, ss, wt, sn⟩ := S
  obtain ⟨hk, hcn, hmo⟩ := h
  simp only [] at hm hcn hmo
  have hc0 := hs.1 c hc
  have hv : cok (cn c) := hc0.1
  have hrawk : (c_raw (cn c)).length ≤ k := hc0.2
  have vc : vp_in (nI c) 3 := vp_in_nI hc (by decide)
  have cl : (nI c).toNatClampNeg = c := nI_clamp (by omega)
  have k0 := hcn c hc
  obtain ⟨⟨r1, r2, r3⟩, _⟩ := hcn c hc
  obtain ⟨a1, a2, a3, a4⟩ := hk.a (f := 896) (k := 66) (n := 12600) (by decide)
  obtain ⟨d1, d2, d3, d4⟩ := hk.a (f := 897) (k := 66) (n := 3) (by decide)
  have ei : (4200 : Int32) * nI c + nI (c_raw (cn c)).length = nI (4200 * c + (c_raw (cn c)).length) := by rw [show (4200 : Int32) = nI 4200 from rfl, nI_lin]
  unfold pq_Md_comes pq_Md_comes_0
  refine ⟨hk.1, fun x2 hx2 x4 hx4 => ⟨A 897, d1 _ hx4, d2, by rw [d3]; exact vc, A 896, a1 _ hx2, a2, ?_, a4, fun G1 e1 => ?_⟩⟩
  · rw [cl, r1, ei, a3]; exact vp_in_nI (by omega) (by decide)
  rw [cl, r1, ei, nI_clamp (by omega)] at e1
  have m1 : mf E ow m A (fun f i => (f = 896 ∧ i / 4200 = c) ∨ f = 897 ∧ i = c) G G1 := by rw [e1]; exact mf_sei hk hbb (f := 896) (k := 66) (n := 12600) (by decide) (Or.inl ⟨rfl, by omega⟩)
  refine m1.k.wi (f := 897) (k := 66) (n := 3) (by decide) vc (fun G2 e2 => ?_)
  have r1b : wo_ei G1 (A 897) c = nI (c_raw (cn c)).length := by
    rw [e1, ei_sei hk (f := 896) (k := 66) (n := 12600) (f' := 897) (k' := 66) (n' := 3) (by decide) (by decide), if_neg (fun z => absurd z.1 (by decide))]
    exact r1
  rw [cl, r1b, nI_1] at e2
  have m2 : mf E ow m A (fun f i => (f = 896 ∧ i / 4200 = c) ∨ f = 897 ∧ i = c) G1 G2 := by rw [e2]; exact mf_sei m1.k m1.b (f := 897) (k := 66) (n := 3) (by decide) (Or.inr ⟨rfl, rfl⟩)
  have m12 := m1.tr m2
  have mC : mf E ow m A (PC c) G G2 := m12.mn (fun f i z => z.elim (fun z => Or.inl z) (fun z => Or.inr (Or.inl z)))
  have ll : (c_raw (cn c) ++ [b]).length = (c_raw (cn c)).length + 1 := by simp
  have raw2 : wo_ei G2 (A 897) c = nI (c_raw (cn c) ++ [b]).length ∧ (c_raw (cn c) ++ [b]).length < 4200 ∧ ∀ i, i < (c_raw (cn c) ++ [b]).length → wo_ei G2 (A 896) (4200 * c + i) = nI ((c_raw (cn c) ++ [b]).getD i 0) := by
    refine ⟨by rw [e2, sei_at, if_pos rfl, ll], by omega, fun i hi => ?_⟩
    rw [e2, ei_sei m1.k (f := 897) (k := 66) (n := 3) (f' := 896) (k' := 66) (n' := 12600) (by decide) (by decide), if_neg (fun z => absurd z.1 (by decide)), e1, sei_at, app_get]
    by_cases z : i = (c_raw (cn c)).length
    · rw [if_pos (by omega), if_neg (by omega), if_pos z]
    · rw [if_neg (by omega), if_pos (by omega)]; exact r3 i (by omega)
  have k2 : mk A G2 c (c_raw (cn c) ++ [b]) (c_sh (cn c)) (c_nh (cn c)) (c_na (cn c)) (c_out (cn c)) (c_an (cn c)) := mk_r k0 m12 (fun f i z => z.elim (fun z => Or.inl z.1) (fun z => Or.inr z.1)) raw2
  have hcn2 : ∀ e, e < 3 → e ≠ c → mcn A G2 e (cn e) := fun e he z => mk.mf (hcn e he) mC (fun f i y q => PC_ne z y q)
  have hmo2 := mo_mf hmo mC (fun f i z => mo_PC z)
  have mT : mf E ow m A PT G G2 := mC.mn (fun _ _ _ => trivial)
  have h48 : ¬ (b = 10 ∧ c_raw (cn c) = []) → pq_Md_comes_48 E mc ms Post G2 0 0 m (nI c) := by
    intro nz
    unfold pq_Md_comes_48
    refine ⟨m2.k.1, 0, 0, Nat.zero_le _, Nat.zero_le _, ?_⟩
    have hmem : ∀ x ∈ c_raw (cn c) ++ [b], 0 < x ∧ x < 256 := fun x hx => by
      rcases List.mem_append.mp hx with q | q
      · exact hv.2.2.2.1 x q
      · rw [List.mem_singleton.mp q]; exact ⟨hb0, hb⟩
    have rn1 : rn rd_0 (c_raw (cn c) ++ [b]) = some (rd_step (c_rd (cn c)) b) := rn_snoc _ _ _ _ hv.1
    refine sp_parse (R := c_raw (cn c) ++ [b]) (x := rd_step (c_rd (cn c)) b) m2.k m2.b ⟨raw2.1, raw2.2.1, raw2.2.2, fun x hx => (hmem x hx).2⟩ (fun x hx => (hmem x hx).1) hc (by simp) ?_ rn1 (fun G3 m3 hq3 => ?_)
    · cases e : c_raw (cn c) with
      | nil => show b ≠ 10; exact fun y => nz ⟨y, e⟩
      | cons a l => have := hv.2.2.2.2.1; rw [e] at this; exact this
    · have k3 := mk.mf k2 m3 (fun f i z => PC_pr z)
      have hcn3 : ∀ e, e < 3 → e ≠ c → mcn A G3 e (cn e) := fun e he z => mk.mf (hcn2 e he z) m3 (fun f i y => PC_pr y)
      have hmo3 := mo_mf hmo2 m3 (fun f i z => mo_pr z)
      have mT3 : mf E ow m A PT G G3 := mT.tr (m3.mn (fun _ _ _ => trivial))
      by_cases z0 : (rd_step (c_rd (cn c)) b).1 = 0
      · have ef : fe_of c b now (cn, rs, tg, ss, wt, sn) = (cup cn c (rdc (cn c) b), rs, tg, ss, wt, sn) := if_pos z0
        have er : rw_of (c_raw (cn c)) b (rd_step (c_rd (cn c)) b).1 = c_raw (cn c) ++ [b] := by unfold rw_of; rw [if_pos z0, if_neg nz]
        have := hp G3 mT3
        rw [ef] at this
        have this := this (mr_of m3 (fun e he => ?_) (mo_up (by rw [rv_cup (cn := cn) (c := c) (w := rdc (cn c) b) (fun s => rfl)]; exact hmo3) (Nat.le_succ k)))
        · unfold pq_Md_comes_53
          rw [z0]
          exact ⟨fun w => absurd rfl w, fun _ => this⟩
        · by_cases z : e = c
          · subst z
            rw [cup_c]
            show mk A G3 e (rw_of (c_raw (cn e)) b (rd_step (c_rd (cn e)) b).1) (c_sh (cn e)) (c_nh (cn e)) (c_na (cn e)) (c_out (cn e)) (c_an (cn e))
            rw [er]
            exact k3
          · rw [cup_n z]; exact hcn3 e he z
      · have ef : fe_of c b now (cn, rs, tg, ss, wt, sn) = hd_of c (rd_step (c_rd (cn c)) b).1 (cup cn c (rdc (cn c) b)) rs tg ss wt sn now := if_neg z0
        rw [ef] at hp
        exact sp_cm53 hc mT3 hcn3 k3 hmo3 hs hk1 hm rfl z0 hq3 hp
  have e10 : nI b = 10 ↔ b = 10 := nI_eq (b := 10) (by omega) (by decide)
  refine ⟨fun w => h48 (fun z => w (e10.mpr z.1)), fun w => m2.k.rd (f := 897) (k := 66) (n := 3) (by decide) vc ?_⟩
  rw [cl, raw2.1, ll]
  refine ⟨fun w2 => h48 (fun z => w2 (by rw [z.2]; rfl)), fun w2 => ?_⟩
  have el : c_raw (cn c) = [] := by
    apply List.length_eq_zero_iff.mp
    have := (nI_eq (b := 1) (by omega) (by decide)).mp w2
    omega
  have eb := e10.mp w
  unfold pq_Md_comes_53
  refine ⟨fun _ => ⟨m2.k.1, m2.k.wr (f := 897) (k := 66) (n := 3) (by decide) vc (fun G3 e3 => ⟨fun w => absurd w (by decide), fun _ => ?_⟩)⟩, fun w => absurd w (by decide)⟩
  rw [cl] at e3
  have m3 : mf E ow m A (fun f i => f = 897 ∧ i = c) G2 G3 := by rw [e3]; exact mf_sei m2.k m2.b (f := 897) (k := 66) (n := 3) (by decide) ⟨rfl, rfl⟩
  have k3 : mk A G3 c [] (c_sh (cn c)) (c_nh (cn c)) (c_na (cn c)) (c_out (cn c)) (c_an (cn c)) := mk_r k2 m3 (fun f i z => Or.inr z.1) ⟨by rw [e3, sei_at, if_pos rfl]; rfl, by decide, fun i hi => (by cases hi)⟩
  have m3C : mf E ow m A (PC c) G2 G3 := m3.mn (fun f i z => Or.inr (Or.inl z))
  have e0 : c_rd (cn c) = rd_0 := by
    have h1 := hv.1
    rw [el] at h1
    have h1 : some (0, rd_0) = some (0, c_rd (cn c)) := h1
    exact ((Prod.mk.inj (Option.some.inj h1)).2).symm
  have z0 : (rd_step (c_rd (cn c)) b).1 = 0 := by rw [e0, eb, step_rd0]
  have ef : fe_of c b now (cn, rs, tg, ss, wt, sn) = (cup cn c (rdc (cn c) b), rs, tg, ss, wt, sn) := if_pos z0
  have er : rw_of (c_raw (cn c)) b (rd_step (c_rd (cn c)) b).1 = [] := by unfold rw_of; rw [if_pos z0, if_pos ⟨eb, el⟩]
  rw [ef] at hp
  refine hp G3 (mT.tr (m3C.mn (fun _ _ _ => trivial))) (mr_of m3 (fun e he => ?_) (mo_up (by rw [rv_cup (cn := cn) (c := c) (w := rdc (cn c) b) (fun s => rfl)]; exact mo_mf hmo2 m3C (fun f i z => mo_PC z)) (Nat.le_succ k)))
  by_cases z : e = c
  · subst z
    rw [cup_c]
    show mk A G3 e (rw_of (c_raw (cn e)) b (rd_step (c_rd (cn e)) b).1) (c_sh (cn e)) (c_nh (cn e)) (c_na (cn e)) (c_out (cn e)) (c_an (cn e))
    rw [er]
    exact k3
  · rw [cup_n z]; exact mk.mf (hcn2 e he z) m3C (fun f i y q => PC_ne z y q)
end MD
