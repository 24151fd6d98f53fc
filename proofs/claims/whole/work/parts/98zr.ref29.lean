theorem dv_le (an : Nat → Option (List Nat)) : ∀ (k na : Nat) (out : List Nat), na ≤ (dv_go an k na out).1 ∧ (dv_go an k na out).1 ≤ na + k := by
  intro k
  induction k with
  | zero => intro na out; exact ⟨Nat.le_refl _, Nat.le_refl _⟩
  | succ k ih =>
    intro na out
    unfold dv_go
    cases an na with
    | none => exact ⟨Nat.le_refl _, by show na ≤ _; omega⟩
    | some t =>
      have := ih (na + 1) (out ++ t)
      show na ≤ (dv_go an k (na + 1) (out ++ t)).1 ∧ (dv_go an k (na + 1) (out ++ t)).1 ≤ na + (k + 1)
      omega
theorem dv_no {an : Nat → Option (List Nat)} {t : Nat} (h : an t = none) : ∀ (k na : Nat) (out : List Nat), na ≤ t → (dv_go an k na out).1 ≤ t := by
  intro k
  induction k with
  | zero => intro na out hn; exact hn
  | succ k ih =>
    intro na out hn
    unfold dv_go
    cases e : an na with
    | none => exact hn
    | some u =>
      have : na ≠ t := fun q => by rw [q, h] at e; cases e
      exact ih (na + 1) (out ++ u) (by omega)
theorem dv_len {an : Nat → Option (List Nat)} : ∀ (k na : Nat) (out : List Nat), (∀ t u, na ≤ t → t < na + k → an t = some u → u.length ≤ 80) → (dv_go an k na out).2.length + 80 * (na + k - (dv_go an k na out).1) ≤ out.length + 80 * k := by
  intro k
  induction k with
  | zero => intro na out _; show out.length + 80 * (na - na) ≤ _; omega
  | succ k ih =>
    intro na out h
    unfold dv_go
    cases e : an na with
    | none => show out.length + 80 * (na + (k + 1) - na) ≤ _; omega
    | some u =>
      have h1 := h na u (Nat.le_refl _) (by omega) e
      have h2 := ih (na + 1) (out ++ u) (fun t v q1 q2 q3 => h t v (by omega) (by omega) q3)
      have h3 := dv_le an k (na + 1) (out ++ u)
      rw [List.length_append] at h2
      show (dv_go an k (na + 1) (out ++ u)).2.length + 80 * (na + (k + 1) - (dv_go an k (na + 1) (out ++ u)).1) ≤ _
      omega
theorem dv_stop (an : Nat → Option (List Nat)) : ∀ (k na : Nat) (out : List Nat), (dv_go an k na out).1 = na + k ∨ an (dv_go an k na out).1 = none := by
  intro k
  induction k with
  | zero => intro na out; exact Or.inl rfl
  | succ k ih =>
    intro na out
    unfold dv_go
    cases e : an na with
    | none => exact Or.inr e
    | some u =>
      have := ih (na + 1) (out ++ u)
      show (dv_go an k (na + 1) (out ++ u)).1 = na + (k + 1) ∨ _
      rcases this with h | h
      · exact Or.inl (by omega)
      · exact Or.inr h
theorem dv_cont {an an' : Nat → Option (List Nat)} (h : ∀ t u, an t = some u → an' t = some u) : ∀ (k na : Nat) (out : List Nat), dv_go an' k na out = dv_go an' (na + k - (dv_go an k na out).1) (dv_go an k na out).1 (dv_go an k na out).2 := by
  intro k
  induction k with
  | zero =>
    intro na out
    show dv_go an' 0 na out = dv_go an' (na + 0 - na) na out
    rw [show na + 0 - na = 0 by omega]
  | succ k ih =>
    intro na out
    cases e : an na with
    | none =>
      have e1 : dv_go an (k + 1) na out = (na, out) := by unfold dv_go; rw [e]
      rw [e1]
      show _ = dv_go an' (na + (k + 1) - na) na out
      rw [show na + (k + 1) - na = k + 1 by omega]
    | some u =>
      have e1 : dv_go an (k + 1) na out = dv_go an k (na + 1) (out ++ u) := by
        show (match an na with | none => (na, out) | some t => dv_go an k (na + 1) (out ++ t)) = _
        rw [e]
      have e2 : dv_go an' (k + 1) na out = dv_go an' k (na + 1) (out ++ u) := by
        show (match an' na with | none => (na, out) | some t => dv_go an' k (na + 1) (out ++ t)) = _
        rw [h na u e]
      rw [e1, e2, ih (na + 1) (out ++ u), show na + (k + 1) = na + 1 + k by omega]
def rest (v : cnT) : Prop := c_na v = c_nh v ∨ c_an v (c_na v) = none
theorem dvc_rest {v : cnT} (h : rest v) : dvc v = v := by
  have e : dv_go (c_an v) (c_nh v - c_na v) (c_na v) (c_out v) = (c_na v, c_out v) := by
    cases e : c_nh v - c_na v with
    | zero => rfl
    | succ k =>
      rcases h with h | h
      · omega
      · show (match c_an v (c_na v) with | none => (c_na v, c_out v) | some t => _) = _
        rw [h]
  unfold dvc
  rw [e]
  rfl
theorem rest_dvc {v : cnT} (h : c_na v ≤ c_nh v) : rest (dvc v) := by
  have := dv_stop (c_an v) (c_nh v - c_na v) (c_na v) (c_out v)
  rcases this with q | q
  · exact Or.inl (by show (dv_go _ _ _ _).1 = c_nh v; omega)
  · exact Or.inr q
theorem dv_anc2 {v : cnT} {t : Nat} {u : List Nat} (h : c_an v t = none) (hn : c_na v ≤ c_nh v) : dvc (anc (dvc v) t u) = dvc (anc v t u) := by
  have ext : ∀ x y, c_an v x = some y → (fun k => if k = t then some u else c_an v k) x = some y := by
    intro x y e
    show (if x = t then some u else c_an v x) = some y
    rw [if_neg (fun q => by rw [q, h] at e; cases e)]
    exact e
  have hc := dv_cont ext (c_nh v - c_na v) (c_na v) (c_out v)
  rw [show c_na v + (c_nh v - c_na v) = c_nh v by omega] at hc
  have e1 : dvc (anc (dvc v) t u) = (c_raw v, c_rd v, c_sh v, c_nh v, (dv_go (fun k => if k = t then some u else c_an v k) (c_nh v - (dv_go (c_an v) (c_nh v - c_na v) (c_na v) (c_out v)).1) (dv_go (c_an v) (c_nh v - c_na v) (c_na v) (c_out v)).1 (dv_go (c_an v) (c_nh v - c_na v) (c_na v) (c_out v)).2).1, (dv_go (fun k => if k = t then some u else c_an v k) (c_nh v - (dv_go (c_an v) (c_nh v - c_na v) (c_na v) (c_out v)).1) (dv_go (c_an v) (c_nh v - c_na v) (c_na v) (c_out v)).1 (dv_go (c_an v) (c_nh v - c_na v) (c_na v) (c_out v)).2).2, c_rv v, fun k => if k = t then some u else c_an v k) := rfl
  have e2 : dvc (anc v t u) = (c_raw v, c_rd v, c_sh v, c_nh v, (dv_go (fun k => if k = t then some u else c_an v k) (c_nh v - c_na v) (c_na v) (c_out v)).1, (dv_go (fun k => if k = t then some u else c_an v k) (c_nh v - c_na v) (c_na v) (c_out v)).2, c_rv v, fun k => if k = t then some u else c_an v k) := rfl
  rw [e1, e2, ← hc]
theorem dvc_na {v : cnT} {t : Nat} (h : c_an v t = none) (hn : c_na v ≤ t) : c_na (dvc v) ≤ t := dv_no h _ _ _ hn
theorem dvc_ok {v : cnT} (h : dv_ok v) (hn : c_na v ≤ c_nh v) : dv_ok (dvc v) := by
  obtain ⟨h1, h2⟩ := h
  refine ⟨?_, h2⟩
  have := dv_len (an := c_an v) (c_nh v - c_na v) (c_na v) (c_out v) (fun t u q1 q2 q3 => h2 t u (by omega) q3)
  show (dv_go (c_an v) (c_nh v - c_na v) (c_na v) (c_out v)).2.length + 80 * (c_nh v - (dv_go (c_an v) (c_nh v - c_na v) (c_na v) (c_out v)).1) ≤ 640
  rw [show c_na v + (c_nh v - c_na v) = c_nh v by omega] at this
  omega
abbrev mpT : Type := (Nat → cnT) × jsT × Nat
def mp_1 (now u : Nat) (q : mpT) : mpT := match q.2.1 u with
  | none => q
  | some x => if 10 ≤ now - x.2.2.2.2.1 then (cup q.1 x.2.1 (dvc (anc (q.1 x.2.1) x.2.2.1 (ba_of 504 0))), uup q.2.1 u none, q.2.2 + 1) else q
section MD
variable {E : wo_E} {mc ms m c s : Nat} {G0 G G1 G2 : wo_W} {ow : Nat → Nat} {A : Nat → Nat} {F K : Nat → Prop} {P Q : Nat → Nat → Prop} {rv : Nat → Nat → rqT} {W : jlT} {us : jsT} {n j u v now t o tg : Nat} {b : jobT} {q : rqT} {L : slT} {cn : Nat → cnT}
def Pps : Nat → Nat → Prop := fun f i => f = 918 ∨ f = 922 ∨ f = 923 ∨ 899 ≤ f ∧ f ≤ 906
def Ppa : Nat → Nat → Prop := fun f i => f = 918 ∨ f = 922 ∨ f = 923 ∨ 899 ≤ f ∧ f ≤ 906 ∨ f = 956
theorem sp_psStp {Post : Int32 → wo_W → Prop} {k : Nat} (hu : u < 2) (h : md_k E ow m A G) (hbb : ow_b E ow G) (hcn : ∀ c, c < 3 → mcn A G c (cn c)) (hb : mjs m A G rv W us o) (hnow : wo_gi G 956 m = nI now) (hn30 : now < 2 ^ 30) (hsa : ∀ x, us u = some x → x.2.2.2.2.1 ≤ now) (hj : ∀ x, us u = some x → c_na (cn x.2.1) ≤ x.2.2.1 ∧ x.2.2.1 < c_nh (cn x.2.1) ∧ c_an (cn x.2.1) x.2.2.1 = none) (hdv : ∀ c, c < 3 → dv_ok (cn c)) (hp : ∀ G', mf E ow m A Pps G G' → (∀ c, c < 3 → mcn A G' c ((mp_1 now u (cn, us, k)).1 c)) → mjs m A G' rv W (mp_1 now u (cn, us, k)).2.1 o → pq_Md_pass_27 E mc ms Post n G' 0 0 m (nI (mp_1 now u (cn, us, k)).2.2) (nI (u + 1))) : pq_Md_pass_27 E mc ms Post (n + 1) G 0 0 m (nI k) (nI u) := by
  unfold pq_Md_pass_27 pq_Md_pass_98
  rw [nI_1 u]
  refine ⟨fun w => absurd w (nI_ge (b := 2) hu (by decide)), fun _ => ⟨h.1, 0, 0, Nat.zero_le _, Nat.zero_le _, sp_mjobOn h hb hu ?_⟩⟩
  unfold mp_1 at hp
  simp only [] at hp
  cases eu : us u with
  | none =>
    rw [eu] at hp
    exact ⟨fun _ => hp G (mf.rf h hbb) hcn hb, fun w => absurd (by decide) w⟩
  | some x =>
    rw [eu] at hp
    simp only [] at hp
    obtain ⟨x8, xw, hmt⟩ := hb.2.1.1 u x hu eu
    obtain ⟨⟨a1, a2, a3, a4, a5⟩, t2, t3, t4, t5⟩ := hmt
    have vj8 : vp_in (nI x.1) 8 := vp_in_nI x8 (by decide)
    have cj : (nI x.1).toNatClampNeg = x.1 := nI_clamp (by omega)
    have sa := hsa x eu
    refine ⟨fun w => absurd w (nI_pos (n := x.1) (by omega)), fun _ => ⟨h.1, h.rd (f := 923) (k := 66) (n := 8) (by decide) vj8 ?_⟩⟩
    rw [show (jo_I (some x)).toNatClampNeg = x.1 from cj, t4, hnow, pk_sub sa]
    refine ⟨fun w => ?_, fun w => ?_⟩
    · have := (nI_ltI (b := 10) (by omega) (by decide)).mp w
      rw [if_neg (by omega)] at hp
      exact hp G (mf.rf h hbb) hcn hb
    · have z : 10 ≤ now - x.2.2.2.2.1 := Nat.le_of_not_lt (fun q => w (nI_lt (b := 10) q (by decide)))
      rw [if_pos z] at hp
      refine ⟨0, 0, Nat.zero_le _, Nat.zero_le _, sp_plain (v := 504) (by decide) h hbb (fun G1 m1 t1 => ⟨m1.2.1.1, m1.2.1.wr (f := 918) (k := 66) (n := 8) (by decide) vj8 (fun G2 e2 => ?_)⟩)⟩
      have m1' : mf E ow m A (fun f _ => FT f) G G1 := m1.mf (fun f i z => z)
      have m2 : mf E ow m A (fun f i => f = 918 ∧ i = x.1) G1 G2 := by rw [e2]; exact mf_sei m1.2.1 m1.b (f := 918) (k := 66) (n := 8) (by decide) ⟨rfl, rfl⟩
      have v2 : wo_ei G2 (A 918) x.1 = 0 := by rw [e2, sei_at, if_pos rfl]
      have b1 := mjs_f hb m1' (fun f i z w => by have := FT_i w; unfold PJ at z; omega)
      have b2 := mjs_rem b1 hu eu m2 (fun f i z => z) v2
      have m12 : mf E ow m A (fun f i => FT f ∨ f = 918 ∧ i = x.1) G G2 := (m1'.mn (fun f i z => Or.inl z)).tr (m2.mn (fun f i z => Or.inr z))
      have n12 : ∀ f i, f ≠ 905 → f ≠ 906 → f ≠ 918 → ¬ (FT f ∨ f = 918 ∧ i = x.1) := fun f i q1 q2 q3 z => by rcases z with z | z; have := FT_i z; omega; omega
      refine m2.k.rd (f := 919) (k := 66) (n := 8) (by decide) vj8 (m2.k.rd (f := 920) (k := 66) (n := 8) (by decide) vj8 ⟨0, 0, Nat.zero_le _, Nat.zero_le _, ?_⟩)
      rw [m12.ei (f := 919) (k := 66) (n := 8) (by decide) (n12 _ _ (by decide) (by decide) (by decide)), m12.ei (f := 920) (k := 66) (n := 8) (by decide) (n12 _ _ (by decide) (by decide) (by decide)), a1, a3]
      have tt : tb_at m A G2 (ba_of 504 0) := ⟨by rw [m2.gi (fun i => by omega)]; exact t1.1, t1.2.1, fun i hi => by rw [m2.ei (f := 905) (k := 66) (n := 128) (by decide) (by omega)]; exact t1.2.2 i hi⟩
      have hc3 : x.2.1 < 3 := by omega
      have k2 : ∀ c, c < 3 → mcn A G2 c (cn c) := fun c hc => (hcn c hc).mf m12 (fun f i z w => n12 f i (by unfold PC at z; omega) (by unfold PC at z; omega) (by unfold PC at z; omega) w)
      obtain ⟨j1, j2, j3⟩ := hj x eu
      have bl := ba_len (m := 504) (g := 0) (by decide) (by decide)
      refine sp_mfinish hc3 m2.k m2.b tt (k2 x.2.1 hc3) (by omega) j1 j2 j3 (hdv x.2.1 hc3).2 (hdv x.2.1 hc3).1 (fun G3 m3 k3 => ?_)
      rw [nI_1]
      refine hp G3 ((m12.mn (fun f i z => by rcases z with z | z; have := FT_i z; unfold Pps; omega; unfold Pps; omega)).tr (m3.mn (fun f i z => by unfold PF at z; unfold Pps; omega))) (fun c hc => ?_) (mjs_f b2 m3 (fun f i z w => by unfold PJ at z; unfold PF at w; omega))
      show mcn A G3 c (cup cn x.2.1 (dvc (anc (cn x.2.1) x.2.2.1 (ba_of 504 0))) c)
      by_cases y : c = x.2.1
      · rw [y, cup_c]; exact k3
      · rw [cup_n y]
        exact (k2 c hc).mf m3 (fun f i z w => by unfold PC at z; unfold PF at w; omega)
theorem sp_mpass {Post : Int32 → wo_W → Prop} {i : Int32} (h : md_k E ow m A G) (hbb : ow_b E ow G) (hcn : ∀ c, c < 3 → mcn A G c (cn c)) (hb : mjs m A G rv W us o) (hnow : wo_gi G 956 m = nI now) (hn30 : now + 1000 < 2 ^ 30) (hsa : ∀ u x, u < 2 → us u = some x → x.2.2.2.2.1 ≤ now) (hj : ∀ u x, u < 2 → us u = some x → c_na (cn x.2.1) ≤ x.2.2.1 ∧ x.2.2.1 < c_nh (cn x.2.1) ∧ c_an (cn x.2.1) x.2.2.1 = none) (hd : ∀ x y, us 0 = some x → us 1 = some y → ¬ (x.2.1 = y.2.1 ∧ x.2.2.1 = y.2.2.1)) (hdv : ∀ c, c < 3 → dv_ok (cn c))
    (hn : ci_of i 1001 = none → Post (-1) G)
    (hp : ∀ n, ci_of i 1001 = some n → ∀ G' W' us', mf E ow m A Ppa G G' → (∀ c, c < 3 → mcn A G' c ((mp_1 (now + n) 1 (mp_1 (now + n) 0 (cn, us, 0))).1 c)) → wo_gi G' 956 m = nI (now + n) → mjs m A G' rv W' us' o → wq (W', us') = sw_of (now + n) (wq (W, (mp_1 (now + n) 1 (mp_1 (now + n) 0 (cn, us, 0))).2.1)) → Post (nI (mp_1 (now + n) 1 (mp_1 (now + n) 0 (cn, us, 0))).2.2) G') : pq_Md_pass E mc ms Post G m i := by
  have kn := ci_none (x := i) (k := 1001) (by decide)
  have le : i ≤ (1000 : Int32) ↔ ¬ nI 1001 ≤ i := by
    rw [Int32.le_iff_toInt_le, Int32.le_iff_toInt_le, show (1000 : Int32).toInt = 1000 by decide, show (nI 1001).toInt = 1001 by decide]
    omega
  unfold pq_Md_pass pq_Md_pass_0 pq_Md_pass_11
  refine ⟨fun w => hn (kn.mpr (Or.inl w)), fun w => ⟨fun w2 => ⟨h.1, h.2.1, fun G1 e1 => ⟨3, ?_⟩⟩, fun w2 => hn (kn.mpr (Or.inr (Classical.byContradiction fun q => w2 (le.mpr q))))⟩⟩
  cases ec : ci_of i 1001 with
  | none =>
    rcases kn.mp ec with z | z
    · exact absurd z w
    · exact absurd z (le.mp w2)
  | some n =>
    obtain ⟨ei, hn1⟩ := ci_some ec
    have hp := hp n ec
    rw [hnow, ei, nI_add] at e1
    have m1 : mf E ow m A (fun f _ => f = 956) G G1 := by rw [e1]; exact mf_si h hbb (f := 956) rfl
    have g1 : wo_gi G1 956 m = nI (now + n) := by rw [e1, si_at]
    have k1 : ∀ c, c < 3 → mcn A G1 c (cn c) := fun c hc => (hcn c hc).mf m1 (fun f i z w => by unfold PC at z; omega)
    have b1 := mjs_f hb m1 (fun f i z w => by unfold PJ at z; omega)
    have n0 : now + n < 2 ^ 30 := by omega
    refine sp_psStp (u := 0) (k := 0) (by decide) m1.k m1.b k1 b1 g1 n0 (fun x hx => by have := hsa 0 x (by decide) hx; omega) (fun x hx => hj 0 x (by decide) hx) hdv (fun G2 m2 k2 b2 => ?_)
    have pps : ∀ f i, Pps f i → f ≠ 956 := fun f i z => by unfold Pps at z; omega
    have ppa : ∀ f i, Pps f i → Ppa f i := fun f i z => by unfold Pps at z; unfold Ppa; omega
    have g2 : wo_gi G2 956 m = nI (now + n) := by rw [m2.gi (fun i w => pps _ _ w rfl)]; exact g1
    generalize hst : mp_1 (now + n) 0 (cn, us, 0) = S1 at *
    have e1' : ∀ y, S1.2.1 1 = some y → us 1 = some y ∧ (c_na (S1.1 y.2.1) ≤ y.2.2.1 ∧ y.2.2.1 < c_nh (S1.1 y.2.1) ∧ c_an (S1.1 y.2.1) y.2.2.1 = none) := by
      intro y hy
      unfold mp_1 at hst
      simp only [] at hst
      cases eu : us 0 with
      | none =>
        rw [eu] at hst
        rw [← hst] at hy ⊢
        exact ⟨hy, hj 1 y (by decide) hy⟩
      | some x =>
        rw [eu] at hst
        simp only [] at hst
        by_cases z : 10 ≤ now + n - x.2.2.2.2.1
        · rw [if_pos z] at hst
          rw [← hst] at hy ⊢
          have hy : uup us 0 none 1 = some y := hy
          unfold uup at hy
          rw [if_neg (by decide)] at hy
          obtain ⟨j1, j2, j3⟩ := hj 1 y (by decide) hy
          refine ⟨hy, ?_⟩
          show c_na (cup cn x.2.1 (dvc (anc (cn x.2.1) x.2.2.1 (ba_of 504 0))) y.2.1) ≤ y.2.2.1 ∧ y.2.2.1 < c_nh (cup cn x.2.1 (dvc (anc (cn x.2.1) x.2.2.1 (ba_of 504 0))) y.2.1) ∧ c_an (cup cn x.2.1 (dvc (anc (cn x.2.1) x.2.2.1 (ba_of 504 0))) y.2.1) y.2.2.1 = none
          by_cases w : y.2.1 = x.2.1
          · rw [w] at j1 j2 j3 ⊢
            rw [cup_c]
            have ne : ¬ y.2.2.1 = x.2.2.1 := fun q => hd x y eu hy ⟨w.symm, q.symm⟩
            have j3' : c_an (anc (cn x.2.1) x.2.2.1 (ba_of 504 0)) y.2.2.1 = none := by
              show (if y.2.2.1 = x.2.2.1 then _ else c_an (cn x.2.1) y.2.2.1) = none
              rw [if_neg ne]; exact j3
            exact ⟨dvc_na j3' j1, j2, j3'⟩
          · rw [cup_n w]; exact ⟨j1, j2, j3⟩
        · rw [if_neg z] at hst
          rw [← hst] at hy ⊢
          exact ⟨hy, hj 1 y (by decide) hy⟩
    have dv1 : ∀ c, c < 3 → dv_ok (S1.1 c) := by
      intro c hc
      unfold mp_1 at hst
      simp only [] at hst
      cases eu : us 0 with
      | none => rw [eu] at hst; rw [← hst]; exact hdv c hc
      | some x =>
        rw [eu] at hst
        simp only [] at hst
        by_cases z : 10 ≤ now + n - x.2.2.2.2.1
        · rw [if_pos z] at hst
          rw [← hst]
          show dv_ok (cup cn x.2.1 (dvc (anc (cn x.2.1) x.2.2.1 (ba_of 504 0))) c)
          have hx3 : x.2.1 < 3 := by have := (hb.2.1.1 0 x (by decide) eu).2.2.1.2.1; omega
          have bl := ba_len (m := 504) (g := 0) (by decide) (by decide)
          exact dv_cup hdv (dvc_ok (dv_anc (hdv x.2.1 hx3) (by omega)) (hcn x.2.1 hx3).2.2.2.1.2.2.1) c hc
        · rw [if_neg z] at hst; rw [← hst]; exact hdv c hc
    obtain ⟨cn1, us1, kk⟩ := S1
    refine sp_psStp (u := 1) (k := kk) (by decide) m2.k m2.b k2 b2 g2 n0 (fun x hx => by have := hsa 1 x (by decide) (e1' x hx).1; omega) (fun x hx => (e1' x hx).2) dv1 (fun G3 m3 k3 b3 => ?_)
    have g3 : wo_gi G3 956 m = nI (now + n) := by rw [m3.gi (fun i w => pps _ _ w rfl)]; exact g2
    unfold pq_Md_pass_27
    refine ⟨fun _ => ⟨m3.k.1, 0, 0, Nat.zero_le _, Nat.zero_le _, sp_msend m3.k m3.b b3 g3 (fun G4 W' us' m4 b4 e4 => hp G4 W' us' ?_ (fun c hc => ?_) ?_ b4 e4)⟩, fun w => absurd (by decide) w⟩
    · exact (m1.mn (fun f i z => by unfold Ppa; omega)).tr ((m2.mn ppa).tr ((m3.mn ppa).tr (m4.mn (fun f i z => by unfold Psn at z; unfold Ppa; omega))))
    · exact (k3 c hc).mf m4 (fun f i z w => by unfold PC at z; unfold Psn at w; omega)
    · rw [m4.gi (fun i w => by unfold Psn at w; omega)]; exact g3
end MD
