def jr_ok (q : rqT) (b : jobT) : Prop := b.2.2.2.2.1 ≠ 0 → ((q.1 = some 0 ∨ q.1 = some 1) → b.2.2.2.2.2.2.1 = 0 ∧ (∀ r, b.2.2.2.2.2.1 = some r → b.2.2.2.2.1 ≤ 400) ∧ (b.2.2.2.2.2.1 = none → 400 < b.2.2.2.2.1)) ∧ ((q.1 = some 2 ∨ q.1 = some 3) → b.2.2.2.2.2.1 = none ∧ (b.2.2.2.2.1 < 300 ↔ b.2.2.2.2.1 = 201 ∨ b.2.2.2.2.1 = 204) ∧ (¬ (q.1 = some 2 ∧ (b.2.2.2.2.1 = 201 ∨ b.2.2.2.2.1 = 204)) → b.2.2.2.2.2.2.1 = 0) ∧ (q.1 = some 2 → (b.2.2.2.2.1 = 201 ∨ b.2.2.2.2.1 = 204) → 0 < b.2.2.2.2.2.2.1))
theorem wq_up {W : jlT} {us : jsT} {u : Nat} : wq (W, uup us u none) = ((wq (W, us)).1, sup (wq (W, us)).2 u none) := by
  unfold wq uup sup
  congr 1
  funext k
  by_cases z : k = u
  · simp [z]
  · simp [z]
theorem hl_lt {l g : Nat} {bd po : List Nat} {vr : Bool} {ag : Option Nat} {b : Bool} (hg : g < 10 ^ 9) (hb : bd.length ≤ 8) (hp : po.length ≤ 8) (ha : ∀ n, ag = some n → n < 10 ^ 9) : (hl_of l g bd po vr ag b).length < 128 := by
  have h1 := ds_le (cd := 200) (l := l) (vr := vr) (by decide) hg hp ha
  have h2 := nl_le (x := 76) (v := bd.length) (by omega)
  have h3 : (if b then bd else []).length ≤ 8 := by cases b <;> simp <;> omega
  unfold hl_of
  simp only [List.length_append, List.length_cons, List.length_nil]
  omega
def P64 (c : Nat) : Nat → Nat → Prop := fun f i => f = 918 ∨ f = 922 ∨ f = 923 ∨ PF c f i
def Par (c : Nat) : Nat → Nat → Prop := fun f i => P64 c f i ∨ FS f ∨ 936 ≤ f ∧ f ≤ 944 ∨ 929 ≤ f ∧ f ≤ 935 ∧ i < 20 ∨ f = 925
section MD
variable {E : wo_E} {mc ms m c s : Nat} {G0 G G1 G2 : wo_W} {ow : Nat → Nat} {A : Nat → Nat} {F K : Nat → Prop} {P Q : Nat → Nat → Prop} {rv : Nat → Nat → rqT} {W : jlT} {us : jsT} {n j u v now t o tg : Nat} {b : jobT} {q : rqT} {L : slT}
theorem FS_i {f : Nat} (z : FS f) : f = 905 ∨ f = 906 ∨ f = 953 ∨ f = 954 := by rcases z with z | z <;> rcases z with z | z <;> omega
theorem FT_i {f : Nat} (z : FT f) : f = 905 ∨ f = 906 := by rcases z with z | z <;> omega
theorem sp_ar164 {Post : Int32 → wo_W → Prop} {x : Nat × jobT} {v : cnT} {tx : List Nat} {x3 : Int32} (hu : u < 2) (hx : us u = some x) (h : md_k E ow m A G) (hbb : ow_b E ow G) (ht : tb_at m A G tx) (htl : tx.length ≤ 80) (hb : mjs m A G rv W us o) (hk : mcn A G x.2.1 v) (ht1 : c_na v ≤ x.2.2.1) (ht2 : x.2.2.1 < c_nh v) (han : c_an v x.2.2.1 = none) (h80 : ∀ t y, t < c_nh v → c_an v t = some y → y.length ≤ 80) (hl : (c_out v).length + 80 * (c_nh v - c_na v) ≤ 640) (hnow : wo_gi G 956 m = nI now) (hc : c ≤ mc) (hs : s ≤ ms) (hp : ∀ G' W' us', mf E ow m A (P64 x.2.1) G G' → mcn A G' x.2.1 (dvc (anc v x.2.2.1 tx)) → mjs m A G' rv W' us' o → wq (W', us') = sw_of now ((wq (W, us)).1, sup (wq (W, us)).2 u none) → Post x3 G') : pq_Md_arrive_164 E mc ms Post G c s m (nI x.1) x3 := by
  obtain ⟨x8, xw, hmt⟩ := hb.2.1.1 u x hu hx
  obtain ⟨⟨a1, a2, a3, a4, a5⟩, _⟩ := hmt
  have vj8 : vp_in (nI x.1) 8 := vp_in_nI x8 (by decide)
  have cj : (nI x.1).toNatClampNeg = x.1 := nI_clamp (by omega)
  unfold pq_Md_arrive_164
  refine ⟨h.1, h.wr (f := 918) (k := 66) (n := 8) (by decide) vj8 (fun G1 e1 => ?_)⟩
  rw [cj] at e1
  have m1 : mf E ow m A (fun f i => f = 918 ∧ i = x.1) G G1 := by rw [e1]; exact mf_sei h hbb (f := 918) (k := 66) (n := 8) (by decide) ⟨rfl, rfl⟩
  have v1 : wo_ei G1 (A 918) x.1 = 0 := by rw [e1, sei_at, if_pos rfl]
  have b1 := mjs_rem hb hu hx m1 (fun f i z => z) v1
  refine m1.k.rd (f := 919) (k := 66) (n := 8) (by decide) vj8 (m1.k.rd (f := 920) (k := 66) (n := 8) (by decide) vj8 ⟨0, 0, hc, hs, ?_⟩)
  rw [cj, m1.ei (f := 919) (k := 66) (n := 8) (by decide) (by omega), m1.ei (f := 920) (k := 66) (n := 8) (by decide) (by omega), a1, a3]
  have t1 : tb_at m A G1 tx := ⟨by rw [m1.gi (fun i => by omega)]; exact ht.1, ht.2.1, fun i hi => by rw [m1.ei (f := 905) (k := 66) (n := 128) (by decide) (by omega)]; exact ht.2.2 i hi⟩
  have k1 : mcn A G1 x.2.1 v := hk.mf m1 (fun f i z w => by unfold PC at z; omega)
  refine sp_mfinish (by omega) m1.k m1.b t1 k1 htl ht1 ht2 han h80 hl (fun G2 m2 k2 => ⟨m2.k.1, 0, 0, hc, hs, ?_⟩)
  have b2 := mjs_f b1 m2 (fun f i z w => by unfold PJ at z; unfold PF at w; omega)
  refine sp_msend m2.k m2.b b2 ?_ (fun G3 W' us' m3 b3 e3 => hp G3 W' us' ((m1.mn (fun f i z => Or.inl z.1)).tr ((m2.mn (fun f i z => Or.inr (Or.inr (Or.inr z)))).tr (m3.mn (fun f i z => z.elim Or.inl (fun z => Or.inr (z.elim Or.inl (fun z => Or.inr (Or.inl z)))))))) (k2.mf m3 (fun f i z w => by unfold PC at z; unfold Psn at w; omega)) b3 (by rw [e3, wq_up]))
  rw [m2.gi (fun i w => by unfold PF at w; omega), m1.gi (fun i => by omega)]
  exact hnow
theorem sp_arDrop {Post : Int32 → wo_W → Prop} {x3 : Int32} (hj : j < 8) (hq : vq_at A G0 j q) (hfin : ∀ G', mf E ow m A Pst G0 G' → mss m A G' (dk (ft_of q.2.1 (q.2.2.2 5)) 20 L) n → pq_Md_arrive_164 E mc ms Post G' 0 0 m (nI j) x3) : ∀ (k i : Nat) (G : wo_W), i + k = 20 → mf E ow m A Pst G0 G → mss m A G (dk (ft_of q.2.1 (q.2.2.2 5)) i L) n → pq_Md_arrive_92 E mc ms Post (k + 1) G 0 0 m (nI j) x3 (nI i) := by
  intro k
  induction k with
  | zero =>
    intro i G hi m0 hb
    have e : i = 20 := by omega
    subst e
    unfold pq_Md_arrive_92
    exact ⟨fun _ => hfin G m0 hb, fun w => absurd (by decide) w⟩
  | succ k ih =>
    intro i G hi m0 hb
    have vi : vp_in (nI i) 20 := vp_in_nI (by omega) (by decide)
    have ci : (nI i).toNatClampNeg = i := nI_clamp (by omega)
    have q1 : vq_at A G j q := vq_r hq m0 (fun f i z => by have z : f = 936 := z; omega)
    have hw : ∀ (b : Bool) (c s : Nat) (r2 : Option Nat), c = 0 → s = 0 → r2 = wo_gr G 936 m → (b = true ↔ ∃ x ∈ dk (ft_of q.2.1 (q.2.2.2 5)) i L, x.1 = i ∧ ft_of q.2.1 (q.2.2.2 5) x.2.2 = false) → pq_Md_arrive_130 E mc ms Post (pq_Md_arrive_92 E mc ms Post (k + 1)) G c s m (nI j) x3 (nI i) r2 (nI i) (bo_I b) := by
      intro b c s r2 ec es hr2 hbv
      subst ec; subst es
      unfold pq_Md_arrive_130
      refine m0.k.wr (f := 936) (k := 72) (n := 20) (by decide) vi (fun G1 e1 => ?_) r2 hr2
      rw [ci, vp_b] at e1
      rw [e1, nI_1]
      refine ih (i + 1) _ (by omega) (m0.tr (mf_sei m0.k m0.b (f := 936) (k := 72) (n := 20) (by decide) rfl)) ?_
      rw [dk_s]
      exact mss_drop m0.k m0.b hb (by omega) hbv
    unfold pq_Md_arrive_92 pq_Md_arrive_129
    refine ⟨fun w => absurd w (nI_ge (b := 20) (by omega) (by decide)), fun _ => ⟨m0.k.1, fun r2 hr2 => m0.k.rd (f := 936) (k := 72) (n := 20) (by decide) vi ?_⟩⟩
    rw [ci, hb.2.2.1 i (by omega)]
    by_cases z : i ∈ (dk (ft_of q.2.1 (q.2.2.2 5)) i L).map (fun x => x.1)
    · rw [decide_eq_true z]
      refine ⟨fun w => absurd w (by decide), fun _ => ⟨0, 0, Nat.zero_le _, Nat.zero_le _, sp_mfits m0.k hb (by omega) (by omega) q1 (fun y => absurd z y) (fun x hx ex => ?_)⟩⟩
      have uq : ∀ y ∈ dk (ft_of q.2.1 (q.2.2.2 5)) i L, y.1 = i → y = x := fun y hy ey => nd_at hb.1 hy hx (by rw [ey, ex])
      cases zp : ft_of q.2.1 (q.2.2.2 5) x.2.2 with
      | true =>
        refine ⟨fun _ => hw false _ _ r2 rfl rfl hr2 ⟨fun w => (by cases w), fun ⟨y, hy, e1, e2⟩ => ?_⟩, fun w => absurd w (by decide)⟩
        rw [uq y hy e1, zp] at e2
        cases e2
      | false => exact ⟨fun w => absurd rfl w, fun _ => hw true _ _ r2 rfl rfl hr2 ⟨fun _ => ⟨x, hx, ex, zp⟩, fun _ => rfl⟩⟩
    · rw [decide_eq_false z]
      exact ⟨fun _ => hw false _ _ r2 rfl rfl hr2 ⟨fun w => (by cases w), fun ⟨y, hy, e1, e2⟩ => absurd (List.mem_map.mpr ⟨y, hy, e1⟩) z⟩, fun w => absurd rfl w⟩
theorem sp_marrive {Post : Int32 → wo_W → Prop} {i : Int32} {cn : Nat → cnT} {cap : Nat} (h : md_k E ow m A G) (hbb : ow_b E ow G) (hcn : ∀ c, c < 3 → mcn A G c (cn c)) (hrv : rv = fun e k => c_rv (cn e) k) (hb : mjs m A G rv W us o) (hs : mss m A G L n) (hnow : wo_gi G 956 m = nI now) (hcap : wo_gi G 955 m = nI cap) (hc3 : cap ≤ 300) (hn6 : n + 1 < 10 ^ 6) (h17 : ∀ x ∈ L, 17 ≤ x.2.2.2.2.2.2) (hsm : sm_of (L.map (fun x => x.2.2)) < 2 ^ 29)
    (hj : ∀ u x, u < 2 → us u = some x → jr_ok (rv x.2.1 x.2.2.1) x.2 ∧ (ar_a cn x.2).length ≤ 80 ∧ c_na (cn x.2.1) ≤ x.2.2.1 ∧ x.2.2.1 < c_nh (cn x.2.1) ∧ c_an (cn x.2.1) x.2.2.1 = none)
    (hdv : ∀ c, c < 3 → (∀ t y, t < c_nh (cn c) → c_an (cn c) t = some y → y.length ≤ 80) ∧ (c_out (cn c)).length + 80 * (c_nh (cn c) - c_na (cn c)) ≤ 640)
    (hn : (∀ u x, ci_of i 2 = some u → us u = some x → x.2.2.2.2.2.1 = 0) → Post (-1) G)
    (hp : ∀ u x, ci_of i 2 = some u → us u = some x → x.2.2.2.2.2.1 ≠ 0 → ∀ G' L' n' W' us', mf E ow m A (Par x.2.1) G G' → mcn A G' x.2.1 (dvc (anc (cn x.2.1) x.2.2.1 (ar_a cn x.2))) → mss m A G' L' n' → n' ≤ n + 1 → L'.map (fun x => x.2.2) = ar_s cn x.2 cap (L.map (fun x => x.2.2)) → mjs m A G' rv W' us' o → wq (W', us') = sw_of now ((wq (W, us)).1, sup (ar_n cn u x.2 (wq (W, us)).2) u none) → Post (nI x.2.2.2.2.2.1) G') : pq_Md_arrive E mc ms Post G m i := by
  unfold pq_Md_arrive pq_Md_arrive_0 pq_Md_arrive_9
  refine ci_sw2 (fun e => ?_) (fun u e => ?_)
  · unfold pq_Md_arrive_18 pq_Md_arrive_33
    exact ⟨fun _ => hn (fun u x z => by rw [e] at z; cases z), fun w => absurd (by decide) w⟩
  · obtain ⟨e1, hu⟩ := ci_some e
    subst e1
    refine ⟨h.1, 0, 0, Nat.zero_le _, Nat.zero_le _, sp_mjobOn h hb hu ?_⟩
    unfold pq_Md_arrive_18 pq_Md_arrive_33
    cases eu : us u with
    | none => exact ⟨fun _ => hn (fun u2 x z z2 => by rw [e] at z; cases z; rw [eu] at z2; cases z2), fun w => absurd (by decide) w⟩
    | some x =>
      obtain ⟨x8, xw, hmt⟩ := hb.2.1.1 u x hu eu
      obtain ⟨hmb, t2, t3, t4, t5⟩ := hmt
      have vj8 : vp_in (nI x.1) 8 := vp_in_nI x8 (by decide)
      have vj9 : vp_in (nI x.1) 9 := vp_in_nI (by omega) (by decide)
      have cj : (nI x.1).toNatClampNeg = x.1 := nI_clamp (by omega)
      refine ⟨fun w => absurd w (nI_pos (n := x.1) (by omega)), fun _ => ⟨h.1, h.rd (f := 918) (k := 66) (n := 8) (by decide) vj8 ?_⟩⟩
      rw [show (jo_I (some x)).toNatClampNeg = x.1 from cj, t2]
      by_cases z : x.2.2.2.2.2.1 = 0
      · rw [if_pos z]
        exact ⟨fun w => absurd w (by decide), fun _ => hn (fun u2 x2 z1 z2 => by rw [e] at z1; cases z1; rw [eu] at z2; cases z2; exact z)⟩
      · rw [if_neg z]
        obtain ⟨d1, d2, d3, d4⟩ := t5 z
        obtain ⟨jr, jl, j1, j2, j3⟩ := hj u x hu eu
        obtain ⟨jr1, jr2⟩ := jr z
        have hcc : x.2.1 < 3 := by have := hmb.2.1; omega
        obtain ⟨dv1, dv2⟩ := hdv x.2.1 hcc
        have hk := hcn x.2.1 hcc
        have qv := hmb.2.2.2.2.1
        have eq : ar_q cn x.2 = rv x.2.1 x.2.2.1 := by rw [hrv]; rfl
        obtain ⟨kk, k1, k2, k3⟩ := qv.1
        have hp := hp u x e eu z
        have ea : ar_a cn x.2 = at_of (rv x.2.1 x.2.2.1) x.2.2.2.2.2.1 x.2.2.2.2.2.2.1 x.2.2.2.2.2.2.2.1 := by unfold ar_a; rw [eq]
        refine ⟨fun _ => h.rd (f := 926) (k := 66) (n := 8) (by decide) vj8 (h.rd (f := 907) (k := 66) (n := 9) (by decide) vj9 ?_), fun w => absurd rfl w⟩
        rw [k3, d1]
        -- one end for all roads
        have fin : ∀ (G1 : wo_W) (L1 : slT) (n1 : Nat) (us1 : jsT) (c s : Nat), c = 0 → s = 0 → mf E ow m A (fun f i => FS f ∨ 936 ≤ f ∧ f ≤ 944 ∨ 929 ≤ f ∧ f ≤ 935 ∧ i < 20 ∨ f = 925) G G1 → mss m A G1 L1 n1 → n1 ≤ n + 1 → L1.map (fun x => x.2.2) = ar_s cn x.2 cap (L.map (fun x => x.2.2)) → mjs m A G1 rv W us1 o → us1 u = some x → (wq (W, us1)).2 = ar_n cn u x.2 (wq (W, us)).2 → tb_at m A G1 (ar_a cn x.2) → pq_Md_arrive_164 E mc ms Post G1 c s m (nI x.1) (nI x.2.2.2.2.2.1) := by
          intro G1 L1 n1 us1 c s ec es m1 s1 hn1 el b1 hu1 ew t1
          subst ec; subst es
          have k1 : mcn A G1 x.2.1 (cn x.2.1) := hk.mf m1 (fun f i z w => by
            unfold PC at z
            rcases w with w | w | w | w
            · have := FS_i w; omega
            · omega
            · omega
            · omega)
          refine sp_ar164 (now := now) hu hu1 m1.k m1.b t1 jl b1 k1 j1 j2 j3 dv1 dv2 ?_ (Nat.zero_le _) (Nat.zero_le _) (fun G2 W' us' m2 k2 b2 e2 => hp G2 L1 n1 W' us' ?_ k2 ?_ hn1 el b2 ?_)
          · rw [m1.gi (fun i w => by rcases w with w | w | w | w; have := FS_i w; omega; omega; omega; omega)]; exact hnow
          · exact (m1.mn (fun f i z => Or.inr z)).tr (m2.mn (fun f i z => Or.inl z))
          · exact s1.mf m2 (fun f i z w => by unfold PS at z; unfold P64 PF at w; omega)
          · rw [e2, ew]
            rfl
        refine ⟨fun w1 => ?_, fun w1 => ?_⟩
        · have hk1 : kk ≤ 1 := (nI_leI (b := 1) (by omega) (by decide)).mp w1
          have hr : (rv x.2.1 x.2.2.1).1 = some 0 ∨ (rv x.2.1 x.2.2.1).1 = some 1 := by
            rw [k1]
            have : kk = 0 ∨ kk = 1 := by omega
            rcases this with z | z <;> rw [z] <;> simp
          obtain ⟨g1, g2, g3⟩ := jr1 hr
          have er : ar_r cn x.2 = true := by unfold ar_r; rw [eq]; exact decide_eq_true hr
          have es : ar_s cn x.2 cap (L.map (fun x => x.2.2)) = tr_of (rv x.2.1 x.2.2.1) x.2.2.2.2.1 x.2.2.2.2.2.2.2.2 x.2.2.2.2.2.2.1 cap (L.map (fun x => x.2.2)) := by unfold ar_s; rw [er, if_pos rfl, eq]
          have en : ar_n cn u x.2 (wq (W, us)).2 = (wq (W, us)).2 := by unfold ar_n; rw [if_neg (fun y => by rw [er] at y; cases y.1)]
          refine ⟨fun w2 => h.rd (f := 925) (k := 72) (n := 8) (by decide) vj8 ?_, fun w2 => ?_⟩
          · have st4 : x.2.2.2.2.2.1 ≤ 400 := (nI_leI (b := 400) (by omega) (by decide)).mp w2
            cases erp : x.2.2.2.2.2.2.1 with
            | none => have := g3 erp; omega
            | some r =>
              rw [erp] at es ea
              have rr := d3 r erp
              have h154 : ∀ (G1 : wo_W) (L1 : slT) (n1 c s : Nat), c = 0 → s = 0 → mf E ow m A (fun f i => FS f ∨ 936 ≤ f ∧ f ≤ 944 ∨ 929 ≤ f ∧ f ≤ 935 ∧ i < 20 ∨ f = 925) G G1 → mf E ow m A Pso G G1 → mss m A G1 L1 n1 → n1 ≤ n + 1 → L1.map (fun x => x.2.2) = ar_s cn x.2 cap (L.map (fun x => x.2.2)) → pq_Md_arrive_154 E mc ms Post G1 c s m (nI x.1) (nI x.2.2.2.2.2.1) := by
                intro G1 L1 n1 c s ec es' m1 m1' s1 hn1 el
                subst ec; subst es'
                unfold pq_Md_arrive_154
                refine ⟨m1.k.1, 0, 0, Nat.zero_le _, Nat.zero_le _, ?_⟩
                rw [show (30 : Int32) + nI x.1 = nI (30 + x.1) from nI_add 30 x.1]
                have pso : ∀ f i, Pso f i → f = 905 ∨ f = 906 ∨ 936 ≤ f ∧ f ≤ 944 ∨ 929 ≤ f ∧ f ≤ 935 ∧ i < 20 := fun f i z => by rcases z with z | z | z; have := FT_i z; omega; omega; omega
                have q1 : vq_at A G1 x.1 (rv x.2.1 x.2.2.1) := qv.mf m1' (fun f hf z => by have := pso f _ z; simp only [List.mem_cons, List.mem_nil_iff, or_false] at hf; omega) (fun i hi => ⟨fun z => by have := pso _ _ z; omega, fun z => by have := pso _ _ z; omega⟩)
                have r1 : rr_at A G1 (30 + x.1) r := rr.mf m1' (fun f hf z => by have := pso f _ z; simp only [List.mem_cons, List.mem_nil_iff, or_false] at hf; omega)
                have b1 := mjs_f hb m1' (fun f i z w => by have := pso f i w; unfold PJ at z; omega)
                refine sp_mselect (ag := none) m1.k m1.b q1 (by omega) r1 (by omega) (fun n e => (by cases e)) (fun G2 m2 t2 => ?_)
                have m2' : mf E ow m A (fun f _ => FS f) G1 G2 := m2.mf (fun f i z => z)
                refine fin G2 L1 n1 us _ _ rfl rfl (m1.tr (m2'.mn (fun f i z => Or.inl z))) (s1.mf m2' (fun f i z w => by have := FS_i w; unfold PS at z; omega)) hn1 el (mjs_f b1 m2' (fun f i z w => by have := FS_i w; unfold PJ at z; omega)) eu (by rw [en]) ?_
                rw [ea]
                exact t2
              rw [hmb.2.2.2.2.2.2.2.2]
              cases esp : x.2.2.2.2.2.2.2.2 with
              | true =>
                refine ⟨fun _ => h154 G L n _ _ rfl rfl (mf.rf h hbb) (mf.rf h hbb) hs (by omega) ?_, fun w => absurd w (by decide)⟩
                rw [es, esp]
                rfl
              | false =>
                refine ⟨fun w => absurd rfl w, fun _ => ⟨0, 0, Nat.zero_le _, Nat.zero_le _, ?_⟩⟩
                have szl : sz_of r < 128 := hl_lt rr.2.2.2.2.1 rr.2.2.1.2.2.1 rr.2.2.2.2.2.1.2.2.1 (fun n e => (by cases e))
                refine sp_mstore h hbb hs x8 qv rr t4 hcap hc3 hn6 h17 hsm szl (fun G1 L1 n1 m1 s1 hn1 el => h154 G1 L1 n1 _ _ rfl rfl (m1.mn (fun f i z => ?_)) m1 s1 hn1 ?_)
                · rcases z with z | z | z
                  · exact Or.inl (Or.inl z)
                  · exact Or.inr (Or.inl z)
                  · exact Or.inr (Or.inr (Or.inl z))
                · rw [es, esp]; exact el
          · have st4 : ¬ x.2.2.2.2.2.1 ≤ 400 := fun y => w2 (nI_le (b := 400) y (by decide))
            cases erp : x.2.2.2.2.2.2.1 with
            | some r => exact absurd (g2 r erp) st4
            | none =>
              rw [erp] at es ea
              refine ⟨0, 0, Nat.zero_le _, Nat.zero_le _, sp_plain (by omega) h hbb (fun G1 m1 t1 => ⟨21, ?_⟩)⟩
              have m1' : mf E ow m A (fun f _ => FT f) G G1 := m1.mf (fun f i z => z)
              have q1 : vq_at A G1 x.1 (rv x.2.1 x.2.2.1) := qv.me m1 (nfT (by decide))
              refine sp_arDrop (L := L) (n := n) x8 q1 (fun G2 m2 s2 => ?_) 20 0 G1 rfl (mf.rf m1.2.1 m1.b) (by rw [dk_0]; exact hs.mf m1' (fun f i z w => by have := FT_i w; unfold PS at z; omega))
              have p1 : ∀ f i, Pst f i → f = 936 := fun f i z => z
              have m12 : mf E ow m A (fun f _ => FT f ∨ f = 936) G G2 := (m1'.mn (fun f i z => Or.inl z)).tr (m2.mn (fun f i z => Or.inr (p1 f i z)))
              refine fin G2 _ n us _ _ rfl rfl (m12.mn (fun f i z => ?_)) s2 (by omega) ?_ (mjs_f hb m12 (fun f i z w => by rcases w with w | w; have := FT_i w; unfold PJ at z; omega; unfold PJ at z; omega)) eu (by rw [en]) ?_
              · rcases z with z | z
                · exact Or.inl (Or.inl z)
                · exact Or.inr (Or.inl (by omega))
              · rw [es]
                exact dk_n (fun x hx => (hs.2.1 x hx).1)
              · rw [ea, g1]
                refine ⟨?_, t1.2.1, fun i hi => ?_⟩
                · rw [m2.gi (fun i w => by have := p1 _ _ w; omega)]; exact t1.1
                · rw [m2.ei (f := 905) (k := 66) (n := 128) (by decide) (fun w => by have := p1 _ _ w; omega)]; exact t1.2.2 i hi
        · have hk1 : ¬ kk ≤ 1 := fun z => w1 (nI_le (b := 1) z (by decide))
          have hm : (rv x.2.1 x.2.2.1).1 = some 2 ∨ (rv x.2.1 x.2.2.1).1 = some 3 := by
            rw [k1]
            have : kk = 2 ∨ kk = 3 := by omega
            rcases this with z | z <;> rw [z] <;> simp
          obtain ⟨g1, g2, g3, g4⟩ := jr2 hm
          have er : ar_r cn x.2 = false := by
            unfold ar_r
            rw [eq]
            refine decide_eq_false (fun y => ?_)
            rcases y with y | y <;> rcases hm with w | w <;> (rw [y] at w; cases w)
          rw [g1] at ea
          refine ⟨0, 0, Nat.zero_le _, Nat.zero_le _, sp_changed h hbb (by omega) qv (by omega) hm (fun y1 y2 => ?_) g3 (fun G1 m1 t1 => ?_)⟩
          · have := g4 y1 y2
            exact ⟨(d4 this).1, this, (d4 this).2⟩
          · have m1' : mf E ow m A (fun f _ => FT f) G G1 := m1.mf (fun f i z => z)
            have s1 : mss m A G1 L n := hs.mf m1' (fun f i z w => by have := FT_i w; unfold PS at z; omega)
            have b1 := mjs_f hb m1' (fun f i z w => by have := FT_i w; unfold PJ at z; omega)
            have q1 : vq_at A G1 x.1 (rv x.2.1 x.2.2.1) := qv.me m1 (nfT (by decide))
            refine ⟨fun w2 => ?_, fun w2 => ⟨m1.2.1.1, 0, 0, Nat.zero_le _, Nat.zero_le _, ?_⟩⟩
            · have st3 : ¬ x.2.2.2.2.2.1 < 300 := by have := (nI_leI (a := 300) (by decide) (by omega)).mp w2; omega
              have ew : ar_w x.2 = false := decide_eq_false (fun y => st3 (g2.mpr y))
              refine fin G1 L n us _ _ rfl rfl (m1'.mn (fun f i z => Or.inl (Or.inl z))) s1 (by omega) ?_ b1 eu ?_ (by rw [ea]; exact t1)
              · unfold ar_s; rw [er, if_neg (by simp), ew, if_neg (by simp)]
              · unfold ar_n; rw [if_neg (fun y => by rw [ew] at y; cases y.2)]
            · have st3 : x.2.2.2.2.2.1 < 300 := Nat.lt_of_not_le (fun y => w2 (nI_le (a := 300) y (by omega)))
              have ew : ar_w x.2 = true := decide_eq_true (g2.mp st3)
              have e1u : (1 : Int32) - nI u = nI (1 - u) := by rw [show (1 : Int32) = nI 1 from rfl, pk_sub (by omega)]
              rw [e1u]
              refine sp_invalidate (by omega) x8 m1.2.1 m1.b q1 b1 s1 (fun G2 L2 m2 b2 s2 el => ?_)
              have m12 : mf E ow m A (fun f _ => FT f ∨ f = 936 ∨ f = 925) G G2 := (m1'.mn (fun f i z => Or.inl z)).tr (m2.mn (fun f i z => Or.inr z))
              refine fin G2 L2 n _ _ _ rfl rfl (m12.mn (fun f i z => ?_)) s2 (by omega) ?_ b2 ((spx_u (by omega)).trans eu) ?_ ?_
              · rcases z with z | z | z
                · exact Or.inl (Or.inl z)
                · exact Or.inr (Or.inl (by omega))
                · exact Or.inr (Or.inr (Or.inr z))
              · rw [el]
                unfold ar_s
                rw [er, if_neg (by simp), ew, if_pos rfl, eq]
                rfl
              · unfold ar_n
                rw [if_pos ⟨er, ew⟩, eq]
                show (fun k => (spx _ rv us (1 - u) k).map (fun x => x.2)) = _
                rw [spx_m, hrv]
                rfl
              · rw [ea]
                refine ⟨?_, t1.2.1, fun i hi => ?_⟩
                · rw [m2.gi (fun i w => by rcases w with w | w <;> omega)]; exact t1.1
                · rw [m2.ei (f := 905) (k := 66) (n := 128) (by decide) (fun w => by rcases w with w | w <;> omega)]; exact t1.2.2 i hi
end MD
