def fp_at (A : Nat → Nat) (G : wo_W) (ps : List (Nat × Nat)) : Prop := ∀ i, i < ps.length → wo_ei G (A 953) i = nI (ps.getD i (0, 0)).1 ∧ wo_ei G (A 954) i = nI (ps.getD i (0, 0)).2
def FP : Nat → Prop := fun f => f = 953 ∨ f = 954
theorem tx_ss {g : List Nat} {p e a b : Nat} (hb : b ≤ e - p) : tx_sub (tx_sub g p e) a b = tx_sub g (p + a) (p + b) := by
  unfold tx_sub
  rw [List.drop_take, List.take_take, List.drop_drop]
  congr 1
  omega
section MD
variable {E : wo_E} {mc ms m c s : Nat} {G0 G G1 G2 : wo_W} {ow : Nat → Nat} {A : Nat → Nat} {F K : Nat → Prop} {t : List Nat}
theorem sp_mwhole {Post : wo_W → Prop} {r : Nat} {p : rpT} {ag : Option Nat} {b : Bool} (h : md_k E ow m A G) (hb : ow_b E ow G) (hr : rr_at A G r p) (hr40 : r < 40) (ha : ∀ n, ag = some n → n < 10 ^ 9) (hp : ∀ G', me E ow m A FT G G' → tb_at m A G' (hl_of p.1 p.2.2.1 p.2.1 p.2.2.2.1 p.2.2.2.2 ag b) → Post G') : pq_Md_whole E mc ms Post G m (nI r) (wh_I ag) (bo_I b) := by
  have nF : nf FT [929, 930, 931, 932, 933, 934, 935] := nfT (by decide)
  have vr40 : vp_in (nI r) 40 := vp_in_nI hr40 (by decide)
  have cl : (nI r).toNatClampNeg = r := nI_clamp (by omega)
  have hg := hr.2.2.2.2.1
  have hpo := hr.2.2.2.2.2.1.2.2.1
  have hbl := hr.2.2.1.2.2.1
  have hbb := hr.2.2.1.2.2.2
  have dl := ds_le (cd := 200) (l := p.1) (g := p.2.2.1) (po := p.2.2.2.1) (vr := p.2.2.2.2) (ag := ag) (by decide) hg hpo ha
  unfold pq_Md_whole pq_Md_whole_0
  refine ⟨h.1, 0, 0, Nat.zero_le _, Nat.zero_le _, sp_mhead (cd := 200) (by decide) h hb hr hr40 ha (fun G1 m1 t1 => ⟨m1.2.1.1, m1.2.1.rd (f := 931) (k := 66) (n := 40) (by decide) vr40 ?_⟩)⟩
  have r1 := hr.me m1 nF
  rw [cl, r1.2.2.1.2.1]
  refine m1.li (b := 76) t1 (Nat.zero_le _) (Nat.zero_le _) (by omega) (by omega) (fun G2 m2 t2 => ⟨m2.2.1.1, ?_⟩)
  have l2 := le_app dl (nl_le (x := 76) (v := p.2.1.length) (by omega))
  refine m2.pu (b := 10) t2 (Nat.zero_le _) (Nat.zero_le _) (by omega) (fun G3 m3 t3 => ⟨m3.2.1.1, m3.2.1.rd (f := 930) (k := 73) (n := 40) (by decide) vr40 ?_⟩)
  have l3 := le_app l2 (show ([10] : List Nat).length ≤ 1 by simp)
  have r3 := hr.me m3 nF
  rw [r3.2.2.1.1]
  have ehl : hl_of p.1 p.2.2.1 p.2.1 p.2.2.2.1 p.2.2.2.2 ag b = ds_of 200 p.1 p.2.2.1 p.2.2.2.1 p.2.2.2.2 ag ++ nl_of 76 p.2.1.length ++ [10] ++ (if b then p.2.1 else []) := rfl
  unfold pq_Md_whole_49
  cases b with
  | false =>
    refine ⟨fun _ => ⟨m3.2.1.1, m3.by (p := 0) (e := 0) t3 (Nat.zero_le _) (Nat.zero_le _) hbb hbl (Nat.zero_le _) (Nat.zero_le _) (by omega) (fun G4 m4 t4 => hp G4 m4 ?_)⟩, fun w => absurd rfl w⟩
    rw [ehl]
    rw [tx_sub_nil (Nat.le_refl _)] at t4
    exact t4
  | true =>
    refine ⟨fun w => absurd w (by decide), fun _ => m3.2.1.rd (f := 931) (k := 66) (n := 40) (by decide) vr40 ?_⟩
    rw [r3.2.2.1.2.1]
    refine ⟨m3.2.1.1, m3.by (p := 0) t3 (Nat.zero_le _) (Nat.zero_le _) hbb hbl (Nat.zero_le _) (Nat.le_refl _) (by omega) (fun G4 m4 t4 => hp G4 m4 ?_)⟩
    rw [ehl]
    rw [tx_sub_all] at t4
    exact t4
abbrev k12T : Type := wo_W → Nat → Nat → Nat → Int64 → Int32 → Int32 → Int32 → Int32 → Int32 → Int32 → Prop
theorem sp_pcAdd {Post : Int32 → wo_W → Prop} {k12 : k12T} {g : Int64} {n z cm e x y : Nat} {ps : List (Nat × Nat)} (h : md_k E ow m A G) (hb : ow_b E ow G) (hps : fp_at A G ps) (hpl : ps.length < 2) (hx : x < 2 ^ 30) (hy : y < 2 ^ 30) (hk : ∀ G', me E ow m A FP G G' → fp_at A G' (np_of ps x y) → k12 G' c s m g (nI n) (nI z) (nI (np_of ps x y).length) (nI cm) (nI (e + 1)) (nI (e + 1))) : pq_Md_pieces_250 E mc ms Post k12 G c s m g (nI n) (nI z) (nI ps.length) (nI cm) (nI e) (nI x) (nI y - 1) := by
  unfold pq_Md_pieces_250 pq_Md_pieces_280 pq_Md_pieces_286
  have vp : vp_in (nI ps.length) 2 := vp_in_nI hpl (by decide)
  have cl : (nI ps.length).toNatClampNeg = ps.length := nI_clamp (by omega)
  refine ⟨fun w => ?_, fun w => ?_⟩
  · have z := (nI_ltp hx hy).mp w
    have e1 : np_of ps x y = ps := if_neg (fun q => z q.1)
    rw [e1] at hk
    rw [nI_1]
    exact hk G (me.rf h hb) hps
  · have z : x < y := Decidable.byContradiction (fun q => w ((nI_ltp hx hy).mpr q))
    have e1 : np_of ps x y = ps ++ [(x, y - 1)] := if_pos ⟨z, hpl⟩
    rw [e1] at hk
    refine ⟨h.1, h.wr (f := 953) (k := 66) (n := 2) (by decide) vp (fun G8 e8 => ?_)⟩
    rw [cl] at e8
    have m1 := me_sei (i := ps.length) (v := nI x) h hb (f := 953) (k := 66) (n := 2) (by decide)
    rw [← e8] at m1
    refine m1.2.1.wr (f := 954) (k := 66) (n := 2) (by decide) vp (fun G16 e16 => ?_)
    rw [cl] at e16
    have m2 := me_sei (i := ps.length) (v := nI y - 1) m1.2.1 m1.b (f := 954) (k := 66) (n := 2) (by decide)
    rw [← e16] at m2
    rw [nI_1, nI_1]
    have hl : (ps ++ [(x, y - 1)]).length = ps.length + 1 := by simp
    rw [hl] at hk
    refine hk G16 ((m1.mn (fun f z => Or.inl z)).tr (m2.mn (fun f z => Or.inr z))) (fun i hi => ?_)
    rw [hl] at hi
    have a3 : wo_ei G16 (A 953) i = wo_ei G8 (A 953) i := m2.ei (k := 66) (n := 2) (by decide) (by decide) i
    rw [a3, e8, sei_at, e16, sei_at, m1.ei (f := 954) (k := 66) (n := 2) (by decide) (by decide) i]
    by_cases q : i = ps.length
    · rw [if_pos q, if_pos q, q]
      refine ⟨by simp, ?_⟩
      rw [nI_pm (by omega)]
      simp
    · have hi2 : i < ps.length := by omega
      rw [if_neg q, if_neg q]
      have : (ps ++ [(x, y - 1)]).getD i (0, 0) = ps.getD i (0, 0) := by simp [List.getD_eq_getElem?_getD, List.getElem?_append_left hi2]
      rw [this]
      exact hps i hi2
theorem sp_pc80 {Post : Int32 → wo_W → Prop} {k12 : k12T} {g : List Nat} {z p e cm : Nat} {ps : List (Nat × Nat)} (hg : ∀ c ∈ g, c < 256) (hgl : g.length ≤ 8) (hz : z ≤ 8) (hcm : cm ≤ 2) (hpe : p ≤ e) (he : e ≤ g.length) (h : md_k E ow m A G) (hb : ow_b E ow G) (hc : c ≤ mc) (hs : s ≤ ms) (hps : fp_at A G ps) (hpl : ps.length < 2) (hn : (ri_of (tx_sub g p e) z = none ∨ 1 < cm) → Post (-1) G) (hk : ∀ q, ri_of (tx_sub g p e) z = some q → ¬ 1 < cm → ∀ G', me E ow m A FP G G' → fp_at A G' (np_of ps q.1 q.2) → k12 G' c s m (pk_of g) (nI g.length) (nI z) (nI (np_of ps q.1 q.2).length) (nI cm) (nI (e + 1)) (nI (e + 1))) : pq_Md_pieces_80 E mc ms Post k12 G c s m (pk_of g) (nI g.length) (nI z) (nI ps.length) (nI cm) (nI p) (nI e) (nI (p + ix_of 45 (tx_sub g p e))) := by
  have sl : (tx_sub g p e).length = e - p := tx_sub_len he
  have dle := ix_le 45 (tx_sub g p e)
  generalize hd : ix_of 45 (tx_sub g p e) = d at *
  rw [sl] at dle
  have ea : tx_sub (tx_sub g p e) 0 d = tx_sub g p (p + d) := tx_ss (a := 0) (by omega)
  have eb : tx_sub (tx_sub g p e) (d + 1) (tx_sub g p e).length = tx_sub g (p + d + 1) e := by
    rw [sl, tx_ss (by omega)]
    congr 1
    omega
  have wb : ∀ (l : List Nat) (n : Nat), l.length ≤ 8 → wh_of l = some n → n < 2 ^ 30 := fun l n h1 h2 => by have := wh_b h1 h2; omega
  have la : (tx_sub g p (p + d)).length ≤ 8 := Nat.le_trans tx_sub_le hgl
  have lb : (tx_sub g (p + d + 1) e).length ≤ 8 := Nat.le_trans tx_sub_le hgl
  unfold pq_Md_pieces_80 pq_Md_pieces_114
  refine ⟨0, 0, hc, hs, sp_mdigits hg hgl (by omega) (by omega) ⟨0, 0, hc, hs, ?_⟩⟩
  rw [nI_1]
  refine sp_mdigits hg hgl (by omega) (by omega) ?_
  -- the chain
  have bad : (ri_of (tx_sub g p e) z = none ∨ 1 < cm) → ∀ c s, pq_Md_pieces_192 E mc ms Post G c s := fun q c s => hn q
  have rif := hd
  unfold ri_of at hk hn bad
  rw [hd, ea, eb, sl] at hk hn bad
  have h130 : ∀ (o1 o2 : Bool), (o1 = true ↔ d = 0) → (o2 = true ↔ d + 1 = e - p) → pq_Md_pieces_130 E mc ms Post k12 G c s m (pk_of g) (nI g.length) (nI z) (nI ps.length) (nI cm) (nI e) (nI (p + d)) (wh_I (wh_of (tx_sub g p (p + d)))) (wh_I (wh_of (tx_sub g (p + d + 1) e))) (bo_I o1) (bo_I o2) := by
    intro o1 o2 h1 h2
    unfold pq_Md_pieces_130
    refine ⟨fun w => bad (Or.inl (if_pos ?_)) _ _, fun w => ⟨fun w2 => bad (Or.inr ?_) _ _, fun w2 => ?_⟩⟩
    · have := (nI_leI (by omega) (by omega)).mp w; omega
    · exact (nI_ltI (a := 1) (by decide) (by omega)).mp w2
    have hde : d < e - p := Nat.lt_of_not_le (fun q => w (nI_le (by omega) (by omega)))
    have hcm1 : ¬ 1 < cm := fun q => w2 (nI_lt (a := 1) q (by omega))
    rw [if_neg (by omega)] at bad hk
    generalize ha : wh_of (tx_sub g p (p + d)) = oa at *
    generalize hb2 : wh_of (tx_sub g (p + d + 1) e) = ob at *
    have a0 : d = 0 → oa = none := by
      intro q
      rw [← ha, q, tx_sub_nil (by omega)]
      rfl
    have b0 : d + 1 = e - p → ob = none := by
      intro q
      rw [← hb2, tx_sub_nil (by omega)]
      rfl
    have alt : ∀ n, oa = some n → n < 2 ^ 30 := fun n q => wb _ n la (ha.trans q)
    have blt : ∀ n, ob = some n → n < 2 ^ 30 := fun n q => wb _ n lb (hb2.trans q)
    have c2 : 2 ^ 30 < 2 ^ 31 := by decide
    have h220 : ∀ (x : Nat), x < 2 ^ 30 → (¬ d = 0 → ¬ d + 1 = e - p → ob ≠ none) → (∀ q, (some q : Option (Nat × Nat)) = (if d = 0 then some (z - ob.getD 0, z) else some (oa.getD 0, if d + 1 = e - p then z else min (ob.getD 0 + 1) z)) → q.1 = x) → (¬ (oa = none ∧ ¬ d = 0 ∨ ob = none ∧ ¬ d + 1 = e - p)) → (¬ (d = 0 ∧ d + 1 = e - p ∨ ¬ d = 0 ∧ ¬ d + 1 = e - p ∧ ob.getD 0 < oa.getD 0)) → pq_Md_pieces_220 E mc ms Post k12 G c s m (pk_of g) (nI g.length) (nI z) (nI ps.length) (nI cm) (nI e) (wh_I ob) (bo_I o1) (bo_I o2) (nI x) := by
      intro x hx hob hq n1 n2
      rw [if_neg n1, if_neg n2] at hk
      unfold pq_Md_pieces_220 pq_Md_pieces_241
      refine ⟨fun w => ?_, fun w => ⟨fun w2 => ?_, fun w2 => ⟨fun w3 => ?_, fun w3 => ?_⟩⟩⟩
      · have hd0 : d = 0 := h1.mp (by cases o1; exact absurd rfl w; rfl)
        rw [if_pos hd0] at hk hq
        have := hq _ rfl
        simp only [] at this
        subst this
        exact sp_pcAdd h hb hps hpl hx (by omega) (hk _ rfl hcm1)
      · have hd0 : ¬ d = 0 := fun q => absurd w (by rw [h1.mpr q]; decide)
        have he0 : d + 1 = e - p := h2.mp (by cases o2; exact absurd rfl w2; rfl)
        rw [if_neg hd0, if_pos he0] at hk hq
        have := hq _ rfl
        simp only [] at this
        subst this
        exact sp_pcAdd h hb hps hpl hx (by omega) (hk _ rfl hcm1)
      · have hd0 : ¬ d = 0 := fun q => absurd w (by rw [h1.mpr q]; decide)
        have he0 : ¬ d + 1 = e - p := fun q => absurd w2 (by rw [h2.mpr q]; decide)
        rw [if_neg hd0, if_neg he0] at hk hq
        have := hq _ rfl
        simp only [] at this
        subst this
        cases ob with
        | none => exact absurd rfl (hob hd0 he0)
        | some n =>
          have hn := blt n rfl
          have hnz : n + 1 ≤ z := by
            have : ¬ nI z - 1 < nI n := Int32.not_lt.mpr w3
            exact Decidable.byContradiction (fun q => this ((nI_ltp hn (by omega)).mpr (by omega)))
          have e1 : min ((some n).getD 0 + 1) z = n + 1 := Nat.min_eq_left hnz
          rw [e1] at hk
          have e2 : wh_I (some n) = nI (n + 1) - 1 := (nI_pred n).symm
          rw [e2]
          exact sp_pcAdd h hb hps hpl hx (by omega) (hk _ rfl hcm1)
      · have hd0 : ¬ d = 0 := fun q => absurd w (by rw [h1.mpr q]; decide)
        have he0 : ¬ d + 1 = e - p := fun q => absurd w2 (by rw [h2.mpr q]; decide)
        rw [if_neg hd0, if_neg he0] at hk hq
        have := hq _ rfl
        simp only [] at this
        subst this
        cases ob with
        | none => exact absurd rfl (hob hd0 he0)
        | some n =>
          have hn := blt n rfl
          have hnz : ¬ n < z := by
            have : nI z - 1 < nI n := Int32.not_le.mp w3
            exact (nI_ltp hn (by omega)).mp this
          have e1 : min ((some n).getD 0 + 1) z = z := Nat.min_eq_right (by simp; omega)
          rw [e1] at hk
          exact sp_pcAdd h hb hps hpl hx (by omega) (hk _ rfl hcm1)
    have h194 : (¬ (oa = none ∧ ¬ d = 0 ∨ ob = none ∧ ¬ d + 1 = e - p)) → (¬ (d = 0 ∧ d + 1 = e - p ∨ ¬ d = 0 ∧ ¬ d + 1 = e - p ∧ ob.getD 0 < oa.getD 0)) → pq_Md_pieces_194 E mc ms Post k12 G c s m (pk_of g) (nI g.length) (nI z) (nI ps.length) (nI cm) (nI e) (wh_I oa) (wh_I ob) (bo_I o1) (bo_I o2) := by
      intro n1 n2
      unfold pq_Md_pieces_194
      refine ⟨fun w => ?_, fun w => ?_⟩
      · have hd0 : ¬ d = 0 := fun q => absurd w (by rw [h1.mpr q]; decide)
        cases oa with
        | none => exact absurd (Or.inl ⟨rfl, hd0⟩) n1
        | some n =>
          refine h220 n (alt n rfl) (fun _ q1 q2 => n1 (Or.inr ⟨q2, q1⟩)) (fun q hq => ?_) n1 n2
          rw [if_neg hd0] at hq
          cases hq
          rfl
      · have hd0 : d = 0 := h1.mp (by cases o1; exact absurd rfl w; rfl)
        have he0 : ¬ d + 1 = e - p := fun q => n2 (Or.inl ⟨hd0, q⟩)
        cases ob with
        | none => exact absurd (Or.inr ⟨rfl, he0⟩) n1
        | some n =>
          have hn := blt n rfl
          have hq : ∀ x, z - n = x → ∀ q, (some q : Option (Nat × Nat)) = (if d = 0 then some (z - (some n).getD 0, z) else some (oa.getD 0, if d + 1 = e - p then z else min ((some n).getD 0 + 1) z)) → q.1 = x := by
            intro x hx q hq
            rw [if_pos hd0] at hq
            cases hq
            exact hx
          refine ⟨fun w2 => ?_, fun w2 => ?_⟩
          · have hnz : n ≤ z := (nI_leI (by omega) (by omega)).mp w2
            have e3 : nI z - wh_I (some n) = nI (z - n) := pk_sub hnz
            rw [e3]
            exact h220 (z - n) (by omega) (fun q _ => absurd hd0 q) (hq _ rfl) n1 n2
          · have hnz : ¬ n ≤ z := fun q => w2 (nI_le q (by omega))
            exact h220 0 (by omega) (fun q _ => absurd hd0 q) (hq _ (by omega)) n1 n2
    have h175 : (¬ (oa = none ∧ ¬ d = 0 ∨ ob = none ∧ ¬ d + 1 = e - p)) → ¬ (d = 0 ∧ d + 1 = e - p) → pq_Md_pieces_175 E mc ms Post k12 G c s m (pk_of g) (nI g.length) (nI z) (nI ps.length) (nI cm) (nI e) (wh_I oa) (wh_I ob) (bo_I o1) (bo_I o2) := by
      intro n1 n3
      unfold pq_Md_pieces_175
      refine ⟨fun w => h194 n1 ?_, fun w => ⟨fun w2 => h194 n1 ?_, fun w2 => ⟨fun w3 => h194 n1 ?_, fun w3 => bad (Or.inl ?_) _ _⟩⟩⟩
      · cases oa with
        | none => rintro (q | q); exact n3 q; exact n1 (Or.inl ⟨rfl, q.1⟩)
        | some n => exact absurd w (nI_pos (by have := alt n rfl; omega))
      · cases ob with
        | none => rintro (q | q); exact n3 q; exact n1 (Or.inr ⟨rfl, q.2.1⟩)
        | some n => exact absurd w2 (nI_pos (by have := blt n rfl; omega))
      · cases oa with
        | none => exact absurd (by decide) w
        | some x =>
          cases ob with
          | none => exact absurd (by decide) w2
          | some y =>
            have hx := alt x rfl
            have hy := blt y rfl
            have hxy : x ≤ y := (nI_leI (by omega) (by omega)).mp w3
            rintro (q | q)
            · exact n3 q
            · exact absurd q.2.2 (by show ¬ y < x; omega)
      · cases oa with
        | none => exact absurd (by decide) w
        | some x =>
          cases ob with
          | none => exact absurd (by decide) w2
          | some y =>
            have hx := alt x rfl
            have hy := blt y rfl
            have hxy : ¬ x ≤ y := fun q => w3 (nI_le q (by omega))
            rw [if_neg n1, if_pos (Or.inr ⟨fun q => (by have := a0 q; cases this), fun q => (by have := b0 q; cases this), by show y < x; omega⟩)]
    have h165 : (¬ (oa = none ∧ ¬ d = 0 ∨ ob = none ∧ ¬ d + 1 = e - p)) → pq_Md_pieces_165 E mc ms Post k12 G c s m (pk_of g) (nI g.length) (nI z) (nI ps.length) (nI cm) (nI e) (wh_I oa) (wh_I ob) (bo_I o1) (bo_I o2) := by
      intro n1
      unfold pq_Md_pieces_165
      refine ⟨fun w => h175 n1 (fun q => ?_), fun w => ⟨fun w2 => bad (Or.inl ?_) _ _, fun w2 => h175 n1 (fun q => ?_)⟩⟩
      · exact absurd w (by rw [h1.mpr q.1]; decide)
      · rw [if_neg n1, if_pos (Or.inl ⟨h1.mp (by cases o1; exact absurd rfl w; rfl), h2.mp (by cases o2; exact absurd rfl w2; rfl)⟩)]
      · exact absurd w2 (by rw [h2.mpr q.2]; decide)
    have h155 : ¬ (oa = none ∧ ¬ d = 0) → pq_Md_pieces_155 E mc ms Post k12 G c s m (pk_of g) (nI g.length) (nI z) (nI ps.length) (nI cm) (nI e) (wh_I oa) (wh_I ob) (bo_I o1) (bo_I o2) := by
      intro n0
      unfold pq_Md_pieces_155
      refine ⟨fun w => h165 ?_, fun w => ⟨fun w2 => bad (Or.inl (if_pos (Or.inr ?_))) _ _, fun w2 => h165 ?_⟩⟩
      · rintro (q | q)
        · exact n0 q
        · rw [q.1] at w; exact absurd w (by decide)
      · cases ob with
        | none => exact ⟨rfl, fun q => absurd w2 (by rw [h2.mpr q]; decide)⟩
        | some n => exact absurd (nI_pos' (by have := blt n rfl; omega)) w
      · rintro (q | q)
        · exact n0 q
        · exact q.2 (h2.mp (by cases o2; exact absurd rfl w2; rfl))
    refine ⟨fun w3 => h155 (fun q => ?_), fun w3 => ⟨fun w4 => bad (Or.inl (if_pos (Or.inl ?_))) _ _, fun w4 => h155 (fun q => ?_)⟩⟩
    · rw [q.1] at w3; exact absurd w3 (by decide)
    · cases oa with
      | none => exact ⟨rfl, fun q => absurd w4 (by rw [h1.mpr q]; decide)⟩
      | some n => exact absurd (nI_pos' (by have := alt n rfl; omega)) w3
    · exact q.2 (h1.mp (by cases o1; exact absurd rfl w4; rfl))
  have e1 : nI (p + d) = nI p ↔ d = 0 := by rw [nI_eq (by omega) (by omega)]; omega
  have e2 : nI (p + d + 1) = nI e ↔ d + 1 = e - p := by rw [nI_eq (by omega) (by omega)]; omega
  refine ⟨fun w => ⟨fun w2 => ?_, fun w2 => ?_⟩, fun w => ⟨fun w2 => ?_, fun w2 => ?_⟩⟩
  · exact h130 false false ⟨fun q => (by cases q), fun q => absurd (e1.mpr q) w⟩ ⟨fun q => (by cases q), fun q => absurd (e2.mpr q) w2⟩
  · exact h130 false true ⟨fun q => (by cases q), fun q => absurd (e1.mpr q) w⟩ ⟨fun _ => e2.mp w2, fun _ => rfl⟩
  · exact h130 true false ⟨fun _ => e1.mp w, fun _ => rfl⟩ ⟨fun q => (by cases q), fun q => absurd (e2.mpr q) w2⟩
  · exact h130 true true ⟨fun _ => e1.mp w, fun _ => rfl⟩ ⟨fun _ => e2.mp w2, fun _ => rfl⟩
end MD
