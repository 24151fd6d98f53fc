abbrev k21T : Type := wo_W → Nat → Nat → Nat → Int32 → Int32 → Int32 → Prop
theorem step_5 {hd lf b : Nat} {ln : Option Nat} {ch : Bool} {li bo : List Nat} {m : Option Nat} {pa : List Nat} {vs : vsT} : rd_step (5, hd, ln, ch, lf, li, bo, m, pa, vs) b = (if b = 10 then 0 else 400, (3, hd, ln, ch, lf, li, bo, m, pa, vs)) := rfl
section MD
variable {E : wo_E} {mc ms m c s : Nat} {G0 G G1 G2 : wo_W} {ow : Nat → Nat} {A : Nat → Nat} {P Q : Nat → Nat → Prop} {R : List Nat} {p hd lf : Nat} {ln : Option Nat} {ch : Bool} {mm : Option Nat} {pa bo : List Nat} {vs : vsT} {x : Nat × rdT}
theorem Pbd_f {f i : Nat} (z : Pbd f i) : f = 912 ∨ f = 913 := z.1
theorem sp_ckCopy {Post : Int32 → wo_W → Prop} {k21 : k21T} {n : Nat} (hc : c < 3) (hn0 : 0 < n) (hn : p + n < R.length) (hfin : ∀ G', mf E ow m A Pbd G0 G' → bd_at A G' (bo ++ (R.drop p).take n) → ((R.getD (p + n) 0 = 10 → k21 G' 0 0 m (nI c) (nI (p + n + 1)) (nI n)) ∧ (R.getD (p + n) 0 ≠ 10 → Post 400 G'))) : ∀ (k i : Nat) (G : wo_W), i + k = n → mf E ow m A Pbd G0 G → rw_at A G c R → bd_at A G (bo ++ (R.drop p).take i) → bo.length + n ≤ 8 → pq_Md_chunks_138 E mc ms Post k21 (k + 1) G 0 0 m (nI c) (nI p) (nI n) (nI i) := by
  have v8 : vp_in (8 : Int32) 9 := vp_in_nI (n := 8) (by decide) (by decide)
  have c8 : (8 : Int32).toNatClampNeg = 8 := by decide
  intro k
  induction k with
  | zero =>
    intro i G hi m0 hw hbd hl
    have e : i = n := by omega
    subst e
    have h42 := hw.2.1
    obtain ⟨i1, i2, i3⟩ := rw_ix hw hc (i := p + i) (by omega)
    have hb := hw.2.2.2 _ (tx_mem (t := R) (i := p + i) hn)
    obtain ⟨f1, f2⟩ := hfin G m0 hbd
    unfold pq_Md_chunks_138 pq_Md_chunks_230 pq_Md_chunks_242
    rw [nI_add, nI_1]
    refine ⟨fun _ => ⟨fun w => absurd w (nI_nle hn0 (by omega)), fun _ => ⟨m0.k.1, ?_⟩⟩, fun w => absurd (nI_le (Nat.le_refl _) (by omega)) w⟩
    rw [i1]
    refine m0.k.rd (f := 896) (k := 66) (n := 12600) (by decide) i3 ?_
    rw [i2, hw.2.2.1 (p + i) hn]
    refine ⟨fun w => ⟨fun w2 => absurd w2 (nI_nle hn0 (by omega)), fun _ => f1 ((nI_eq (b := 10) (by omega) (by decide)).mp w)⟩, fun w => f2 (fun y => w (by rw [y]; rfl))⟩
  | succ k ih =>
    intro i G hi m0 hw hbd hl
    have h42 := hw.2.1
    obtain ⟨i1, i2, i3⟩ := rw_ix hw hc (i := p + i) (by omega)
    have hb := hw.2.2.2 _ (tx_mem (t := R) (i := p + i) (by omega))
    have lb : (bo ++ (R.drop p).take i).length = bo.length + i := by rw [List.length_append, List.length_take, List.length_drop]; omega
    have ex : (4200 : Int32) * nI c + nI p + nI i = nI (4200 * c + (p + i)) := by
      rw [← i1, ← nI_add p i, Int32.add_assoc]
    unfold pq_Md_chunks_138
    rw [ex]
    refine ⟨fun w => absurd w (nI_ge (by omega) (by omega)), fun _ => ⟨m0.k.1, m0.k.rd (f := 912) (k := 73) (n := 9) (by decide) v8 (m0.k.rd (f := 896) (k := 66) (n := 12600) (by decide) i3 ?_)⟩⟩
    have a912 := m0.k.a (f := 912) (k := 73) (n := 9) (by decide)
    refine m0.k.rd (f := 913) (k := 66) (n := 9) (by decide) v8 ⟨by rw [a912.2.2.1]; exact v8, a912.2.2.2, fun G1 e1 => ?_⟩
    rw [c8, i2, hw.2.2.1 (p + i) (by omega)] at e1
    have mm1 : mf E ow m A Pbd G G1 := by rw [e1]; exact mf_sel m0.k m0.b (f := 912) (k := 73) (n := 9) (by decide) ⟨Or.inl rfl, rfl⟩
    refine mm1.k.wi (f := 913) (k := 66) (n := 9) (by decide) v8 (fun G2 e2 => ?_)
    rw [c8] at e2
    obtain ⟨m1, m2, b2⟩ := sp_bdPush m0.k m0.b hbd (by rw [lb]; omega) hb G1 G2 e1 e2
    rw [nI_1]
    refine ih (i + 1) G2 (by omega) (m0.tr (m1.tr m2)) (hw.mf (m1.tr m2) (fun f i z => by have := Pbd_f z; omega)) ?_ hl
    have tk : (R.drop p).take (i + 1) = (R.drop p).take i ++ [R.getD (p + i) 0] := by
      rw [List.take_succ, List.getElem?_drop, List.getElem?_eq_getElem (by omega)]
      congr 1
      rw [List.getD_eq_getElem?_getD, List.getElem?_eq_getElem (by omega)]
      rfl
    rw [tk, ← List.append_assoc]
    exact b2
theorem sp_chunkL {Post : Int32 → wo_W → Prop} (hc : c < 3) (hp : ∀ G', mf E ow m A Pbd G0 G' → (x.1 = 1 → ∃ bo', bd_at A G' bo' ∧ rq_d x.2 = (mm, pa, bo', vs)) → Post (nI x.1) G') : ∀ (k p : Nat) (bo : List Nat) (n0 : Nat) (G : wo_W), R.length - p ≤ k → p ≤ R.length → 0 < n0 → n0 < 100 → mf E ow m A Pbd G0 G → rw_at A G c R → bd_at A G bo → rn (3, hd, ln, ch, 0, [], bo, mm, pa, vs) (R.drop p) = some x → pq_Md_chunks_21 E mc ms Post (k + 2) G 0 0 m (nI c) (nI p) (nI n0) := by
  intro k
  induction k with
  | zero =>
    intro p bo n0 G hk hp0 hn0 hn1 m0 hw hbd hr
    have e : R.drop p = [] := List.drop_of_length_le (by omega)
    rw [e] at hr
    have ex : x = (0, (3, hd, ln, ch, 0, [], bo, mm, pa, vs)) := (Option.some.inj hr).symm
    unfold pq_Md_chunks_21 pq_Md_chunks_52
    refine ⟨fun w => absurd w (nI_nle hn0 (by omega)), fun _ => ⟨m0.k.1, 0, 0, Nat.zero_le _, Nat.zero_le _, sp_lineEnd m0.k hw hc hp0 ?_⟩⟩
    rw [e, show le_I p [] = -1 from rfl]
    have := hp G m0 (fun z => by rw [ex] at z; cases z)
    rw [ex] at this
    exact ⟨fun w => absurd w (by decide), fun _ => ⟨fun w => absurd rfl w, fun _ => this⟩⟩
  | succ k ih =>
    intro p bo n0 G hk hp0 hn0 hn1 m0 hw hbd hr
    have h42 := hw.2.1
    have ld : (R.drop p).length = R.length - p := List.length_drop
    have v8 : vp_in (8 : Int32) 9 := vp_in_nI (n := 8) (by decide) (by decide)
    have c8 : (8 : Int32).toNatClampNeg = 8 := by decide
    have vc : vp_in (nI c) 3 := vp_in_nI hc (by decide)
    have cl : (nI c).toNatClampNeg = c := nI_clamp (by omega)
    unfold pq_Md_chunks_21 pq_Md_chunks_52
    refine ⟨fun w => absurd w (nI_nle hn0 (by omega)), fun _ => ⟨m0.k.1, 0, 0, Nat.zero_le _, Nat.zero_le _, sp_lineEnd m0.k hw hc hp0 ?_⟩⟩
    by_cases z : ix_of 10 (R.drop p) < (R.drop p).length
    · have el : le_I p (R.drop p) = nI (p + ix_of 10 (R.drop p)) := if_pos z
      obtain ⟨h20, hh⟩ := rn_lf (Or.inr (Or.inr (Or.inl rfl))) z hr
      rw [el]
      have ej : jd_of (3, hd, ln, ch, 0, (R.drop p).take (ix_of 10 (R.drop p)), bo, mm, pa, vs) = ((jc_of ((R.drop p).take (ix_of 10 (R.drop p))) bo).1, ((jc_of ((R.drop p).take (ix_of 10 (R.drop p))) bo).2.1, hd, ln, ch, (jc_of ((R.drop p).take (ix_of 10 (R.drop p))) bo).2.2, [], bo, mm, pa, vs)) := rfl
      rw [ej] at hh
      have lt : ((R.drop p).take (ix_of 10 (R.drop p))).length = ix_of 10 (R.drop p) := by rw [List.length_take]; omega
      have ed : (R.drop p).drop (ix_of 10 (R.drop p) + 1) = R.drop (p + ix_of 10 (R.drop p) + 1) := by rw [List.drop_drop]; rfl
      rw [ed] at hh
      -- the size once known
      have h80 : ∀ o : Option Nat, jc_of ((R.drop p).take (ix_of 10 (R.drop p))) bo = jc_m bo o → (∀ n, o = some n → n < 16) → ∀ c' s', c' = 0 → s' = 0 → pq_Md_chunks_80 E mc ms Post (pq_Md_chunks_21 E mc ms Post (k + 2)) G c' s' m (nI c) (nI (p + ix_of 10 (R.drop p))) (wh_I o) := by
        intro o ejc ho c' s' ec es
        subst ec; subst es
        rw [ejc] at hh
        generalize hxx : ix_of 10 (R.drop p) = ix at *
        unfold pq_Md_chunks_80
        cases o with
        | none =>
          refine ⟨fun w => absurd w (by decide), fun _ => ?_⟩
          rcases hh with hh | hh
          · exact absurd hh.1 (by show ¬ 400 = 0; decide)
          · have ex := hh.2.2
            have := hp G m0 (fun z => by rw [ex] at z; cases z)
            rw [ex] at this
            exact this
        | some n =>
          have hn16 := ho n rfl
          refine ⟨fun _ => ⟨m0.k.1, m0.k.rd (f := 913) (k := 66) (n := 9) (by decide) v8 ?_⟩, fun w => absurd (nI_pos' (by omega)) w⟩
          rw [c8, hbd.2.1, show wh_I (some n) = nI n from rfl, nI_add, nI_1]
          have bl := hbd.2.2.1
          by_cases y0 : n = 0
          · subst y0
            have e0 : jc_m bo (some 0) = (0, 6, 0) := rfl
            rw [e0] at hh
            rcases hh with hh | hh
            · refine ⟨fun _ => ⟨fun _ => ?_, fun w => absurd (by decide) w⟩, fun w => absurd (nI_le (b := 8) (by omega) (by decide)) w⟩
              unfold pq_Md_chunks_135
              refine ⟨1, ?_⟩
              unfold pq_Md_chunks_138 pq_Md_chunks_230 pq_Md_chunks_242
              refine ⟨fun _ => ⟨fun _ => ⟨fun _ => ?_, fun w => absurd (by decide) w⟩, fun w => absurd (by decide) w⟩, fun w => absurd (by decide) w⟩
              rw [nI_add, Nat.add_zero]
              unfold pq_Md_chunks_21
              refine ⟨fun _ => ⟨m0.k.1, 0, 0, Nat.zero_le _, Nat.zero_le _, sp_lineEnd m0.k hw hc (by omega) ⟨R.length - (p + ix + 1) + 1, ?_⟩⟩, fun w => absurd (by decide) w⟩
              exact sp_ctail m0.k hw hc _ (p + ix + 1) (Nat.le_refl _) (by omega) hh.2 (fun hq => hp G m0 (fun z => ⟨bo, hbd, hq z⟩))
            · exact absurd rfl hh.1
          · by_cases y8 : 8 < bo.length + n
            · have e8 : jc_m bo (some n) = (413, 3, 0) := by
                show (if n = 0 then _ else if 8 < bo.length + n then _ else _) = _
                rw [if_neg y0, if_pos y8]
              rw [e8] at hh
              refine ⟨fun w => absurd w (nI_ge (a := 8) y8 (by omega)), fun _ => ?_⟩
              rcases hh with hh | hh
              · exact absurd hh.1 (by show ¬ 413 = 0; decide)
              · have ex := hh.2.2
                have := hp G m0 (fun z => by rw [ex] at z; cases z)
                rw [ex] at this
                exact this
            · have e8 : jc_m bo (some n) = (0, 4, n) := by
                show (if n = 0 then _ else if 8 < bo.length + n then _ else _) = _
                rw [if_neg y0, if_neg y8]
              rw [e8] at hh
              refine ⟨fun _ => ⟨fun w => absurd w (nI_nle (by omega) (by omega)), fun _ => m0.k.rd (f := 897) (k := 66) (n := 3) (by decide) vc ?_⟩, fun w => absurd (nI_le (b := 8) (by omega) (by decide)) w⟩
              rw [cl, hw.1, pk_sub (by omega)]
              rcases hh with hh | hh
              · have hh2 : rn (4, hd, ln, ch, n, [], bo, mm, pa, vs) (R.drop (p + ix + 1)) = some x := hh.2
                have ld2 : (R.drop (p + ix + 1)).length = R.length - (p + ix + 1) := List.length_drop
                refine ⟨fun w => ?_, fun w => ?_⟩
                · have hlt : n < R.length - (p + ix + 1) := (nI_ltI (by omega) (by omega)).mp w
                  rw [rn_last (by omega) (by rw [ld2]; omega) (Or.inr rfl), if_neg (by decide), tx_drop (i := n) (by rw [ld2]; omega), rn_cons, step_5] at hh2
                  rw [drop_at, List.drop_drop] at hh2
                  unfold pq_Md_chunks_135
                  refine ⟨n + 1, sp_ckCopy (G0 := G) (bo := bo) hc (by omega) (by omega) (fun G' m' b' => ⟨fun q10 => ?_, fun q10 => ?_⟩) n 0 G (by omega) (mf.rf m0.k m0.b) hw (by rw [List.take_zero, List.append_nil]; exact hbd) (by omega)⟩
                  · rw [if_pos q10, if_pos rfl] at hh2
                    refine ih (p + ix + 1 + n + 1) (bo ++ (R.drop (p + ix + 1)).take n) n G' (by omega) (by omega) (by omega) (by omega) (m0.tr m') (hw.mf m' (fun f i z => by have := Pbd_f z; omega)) b' ?_
                    rw [show p + ix + 1 + n + 1 = p + ix + 1 + (n + 1) by omega]
                    exact hh2
                  · rw [if_neg q10, if_neg (by show ¬ 400 = 0; decide)] at hh2
                    by_cases ye : R.drop (p + ix + 1 + (n + 1)) = []
                    · rw [if_pos ye] at hh2
                      have ex := Option.some.inj hh2
                      have := hp G' (m0.tr m') (fun z => by rw [← ex] at z; cases z)
                      rw [← ex] at this
                      exact this
                    · rw [if_neg ye] at hh2; cases hh2
                · have hle : ¬ n < R.length - (p + ix + 1) := fun q => w (nI_lt q (by omega))
                  have x0 : x.1 = 0 := by
                    by_cases ye : R.length - (p + ix + 1) = n
                    · rw [rn_last (by omega) (by rw [ld2]; omega) (Or.inr rfl), if_neg (by decide), List.drop_of_length_le (l := R.drop (p + ix + 1)) (i := n) (by rw [ld2]; omega)] at hh2
                      have ex := Option.some.inj hh2
                      rw [← ex]
                    · rw [rn_body (Or.inr rfl) _ _ bo (Nat.le_refl _) n (by rw [ld2]; omega)] at hh2
                      have ex := Option.some.inj hh2
                      rw [← ex]
                  have := hp G m0 (fun z => by rw [x0] at z; cases z)
                  rw [x0] at this
                  exact this
              · exact absurd rfl hh.1
      refine ⟨fun _ => ⟨fun w => ?_, fun w => ?_⟩, fun w => absurd (nI_pos' (by omega)) w⟩
      · have ne : ¬ ix_of 10 (R.drop p) = 1 := fun q => w (by rw [q, pk_sub (by omega), show p + 1 - p = 1 by omega]; rfl)
        have := h80 none (by unfold jc_of; rw [lt, if_neg ne]) (fun n e => (by cases e)) _ _ rfl rfl
        exact this
      · have e1 : ix_of 10 (R.drop p) = 1 := by
          rw [pk_sub (by omega)] at w
          have := (nI_eq (b := 1) (by omega) (by decide)).mp w
          omega
        obtain ⟨i1, i2, i3⟩ := rw_ix hw hc (i := p) (by omega)
        refine ⟨m0.k.1, ?_⟩
        rw [i1]
        refine m0.k.rd (f := 896) (k := 66) (n := 12600) (by decide) i3 ⟨0, 0, Nat.zero_le _, Nat.zero_le _, ?_⟩
        rw [i2, hw.2.2.1 p (by omega)]
        have hb := hw.2.2.2 _ (tx_mem (t := R) (i := p) (by omega))
        refine sp_mhex hb ?_
        refine h80 (hx_of (R.getD p 0)) ?_ (fun n e => ?_) _ _ rfl rfl
        · unfold jc_of
          rw [lt, if_pos e1, e1]
          congr 2
          have := drop_at (R := R) (p := p) (i := 0)
          rw [Nat.add_zero] at this
          rw [← this]
          cases R.drop p with
          | nil => rfl
          | cons a l => rfl
        · unfold hx_of at e
          split at e
          · cases e; omega
          · split at e
            · cases e; omega
            · split at e
              · cases e; omega
              · cases e
    · have ex := rn_nolf (Or.inr (Or.inr (Or.inl rfl))) z hr
      have el : le_I p (R.drop p) = if (R.drop p).length ≤ 20 then -1 else -2 := if_neg z
      have hx1 : ¬ x.1 = 1 := by rw [ex]; split <;> decide
      have hp := hp G m0 (fun q => absurd q hx1)
      rw [el]
      by_cases y : (R.drop p).length ≤ 20
      · rw [if_pos y] at ex ⊢
        rw [ex] at hp
        exact ⟨fun w => absurd w (by decide), fun _ => ⟨fun w => absurd rfl w, fun _ => hp⟩⟩
      · rw [if_neg y] at ex ⊢
        rw [ex] at hp
        exact ⟨fun w => absurd w (by decide), fun _ => ⟨fun _ => hp, fun w => absurd w (by decide)⟩⟩
theorem sp_chunks {Post : Int32 → wo_W → Prop} (h : md_k E ow m A G) (hbb : ow_b E ow G) (hw : rw_at A G c R) (hc : c < 3) (hp0 : p ≤ R.length) (hr : rn (3, hd, ln, ch, 0, [], [], mm, pa, vs) (R.drop p) = some x) (hp : ∀ G', mf E ow m A Pbd G G' → (x.1 = 1 → ∃ bo', bd_at A G' bo' ∧ rq_d x.2 = (mm, pa, bo', vs)) → Post (nI x.1) G') : pq_Md_chunks E mc ms Post G m (nI c) (nI p) := by
  have v8 : vp_in (8 : Int32) 9 := vp_in_nI (n := 8) (by decide) (by decide)
  have c8 : (8 : Int32).toNatClampNeg = 8 := by decide
  unfold pq_Md_chunks pq_Md_chunks_0
  refine ⟨h.1, h.wr (f := 912) (k := 73) (n := 9) (by decide) v8 (fun G1 e1 => ?_)⟩
  rw [c8] at e1
  have m1 : mf E ow m A Pbd G G1 := by rw [e1]; exact mf_sel h hbb (f := 912) (k := 73) (n := 9) (by decide) ⟨Or.inl rfl, rfl⟩
  have v1 : wo_el G1 (A 912) 8 = 0 := by rw [e1, sel_at, if_pos rfl]
  refine m1.k.wr (f := 913) (k := 66) (n := 9) (by decide) v8 (fun G2 e2 => ⟨R.length - p + 2, ?_⟩)
  rw [c8] at e2
  have m2 : mf E ow m A Pbd G1 G2 := by rw [e2]; exact mf_sei m1.k m1.b (f := 913) (k := 66) (n := 9) (by decide) ⟨Or.inr rfl, rfl⟩
  have v2 : wo_ei G2 (A 913) 8 = 0 := by rw [e2, sei_at, if_pos rfl]
  refine sp_chunkL (G0 := G) hc hp (R.length - p) p [] 1 G2 (Nat.le_refl _) hp0 (by decide) (by decide) (m1.tr m2) (hw.mf (m1.tr m2) (fun f i z => by have := Pbd_f z; omega)) ⟨?_, v2, by simp, fun d hd => (by cases hd)⟩ hr
  rw [show wo_el G2 (A 912) 8 = wo_el G1 (A 912) 8 by rw [e2]; rfl]
  exact v1
theorem sp_pbLoop2 {Post : Int32 → wo_W → Prop} {n : Nat} (hc : c < 3) (hn : p + n ≤ R.length) (hn8 : n ≤ 8) (hp : ∀ G', mf E ow m A Pbd G0 G' → bd_at A G' ((R.drop p).take n) → Post 1 G') : ∀ (k i : Nat) (G : wo_W), i + k = n → mf E ow m A Pbd G0 G → rw_at A G c R → wo_el G (A 912) 8 = pk_of ((R.drop p).take i) → pq_Md_plainBody_41 E mc ms Post (k + 1) G 0 0 m (nI c) (nI p) (nI n) (nI i) := by
  have v8 : vp_in (8 : Int32) 9 := vp_in_nI (n := 8) (by decide) (by decide)
  have c8 : (8 : Int32).toNatClampNeg = 8 := by decide
  intro k
  induction k with
  | zero =>
    intro i G hi m0 hw hbd
    have e : i = n := by omega
    subst e
    unfold pq_Md_plainBody_41
    refine ⟨fun _ => ⟨m0.k.1, m0.k.wr (f := 913) (k := 66) (n := 9) (by decide) v8 (fun G1 e1 => ?_)⟩, fun w => absurd (nI_le (Nat.le_refl _) (by omega)) w⟩
    rw [c8] at e1
    have m1 : mf E ow m A Pbd G G1 := by rw [e1]; exact mf_sei m0.k m0.b (f := 913) (k := 66) (n := 9) (by decide) ⟨Or.inr rfl, rfl⟩
    have lt : ((R.drop p).take i).length = i := by rw [List.length_take, List.length_drop]; omega
    refine hp G1 (m0.tr m1) ⟨?_, ?_, by rw [lt]; exact hn8, fun d hd => hw.2.2.2 d (List.mem_of_mem_drop (List.mem_of_mem_take hd))⟩
    · rw [show wo_el G1 (A 912) 8 = wo_el G (A 912) 8 by rw [e1]; rfl]; exact hbd
    · rw [e1, sei_at, if_pos rfl, lt]
  | succ k ih =>
    intro i G hi m0 hw hbd
    have h42 := hw.2.1
    obtain ⟨i1, i2, i3⟩ := rw_ix hw hc (i := p + i) (by omega)
    have hb := hw.2.2.2 _ (tx_mem (t := R) (i := p + i) (by omega))
    have ex : (4200 : Int32) * nI c + nI p + nI i = nI (4200 * c + (p + i)) := by
      rw [← i1, ← nI_add p i, Int32.add_assoc]
    have lt : ((R.drop p).take i).length = i := by rw [List.length_take, List.length_drop]; omega
    unfold pq_Md_plainBody_41
    rw [ex]
    have a912 := m0.k.a (f := 912) (k := 73) (n := 9) (by decide)
    refine ⟨fun w => absurd w (nI_ge (by omega) (by omega)), fun _ => ⟨m0.k.1, m0.k.rd (f := 912) (k := 73) (n := 9) (by decide) v8 (m0.k.rd (f := 896) (k := 66) (n := 12600) (by decide) i3 ⟨by rw [a912.2.2.1]; exact v8, a912.2.2.2, fun G1 e1 => ?_⟩)⟩⟩
    have po := pk_or (t := (R.drop p).take i) (b := R.getD (p + i) 0) (fun d hd => hw.2.2.2 d (List.mem_of_mem_drop (List.mem_of_mem_take hd))) (by omega) hb
    rw [lt] at po
    rw [c8, i2, hw.2.2.1 (p + i) (by omega), hbd, show (8 : Int32) = nI 8 from rfl, pk_mul, po] at e1
    have m1 : mf E ow m A Pbd G G1 := by rw [e1]; exact mf_sel m0.k m0.b (f := 912) (k := 73) (n := 9) (by decide) ⟨Or.inl rfl, rfl⟩
    rw [nI_1]
    refine ih (i + 1) G1 (by omega) (m0.tr m1) (hw.mf m1 (fun f i z => by have := Pbd_f z; omega)) ?_
    have tk : (R.drop p).take (i + 1) = (R.drop p).take i ++ [R.getD (p + i) 0] := by
      rw [List.take_succ, List.getElem?_drop, List.getElem?_eq_getElem (by omega)]
      congr 1
      rw [List.getD_eq_getElem?_getD, List.getElem?_eq_getElem (by omega)]
      rfl
    rw [e1, sel_at, if_pos rfl, tk]
theorem sp_plainBody {Post : Int32 → wo_W → Prop} (h : md_k E ow m A G) (hbb : ow_b E ow G) (hw : rw_at A G c R) (hc : c < 3) (hp0 : p ≤ R.length) (hln : wo_gi G 914 m = wh_I ln) (hl8 : ∀ n, ln = some n → n ≤ 8) (hp1 : R.length - p < ln.getD 0 → Post 0 G) (hp2 : ln.getD 0 ≤ R.length - p → ∀ G', mf E ow m A Pbd G G' → bd_at A G' ((R.drop p).take (ln.getD 0)) → Post 1 G') : pq_Md_plainBody E mc ms Post G m (nI c) (nI p) := by
  have v8 : vp_in (8 : Int32) 9 := vp_in_nI (n := 8) (by decide) (by decide)
  have c8 : (8 : Int32).toNatClampNeg = 8 := by decide
  have vc : vp_in (nI c) 3 := vp_in_nI hc (by decide)
  have cl : (nI c).toNatClampNeg = c := nI_clamp (by omega)
  have h42 := hw.2.1
  have n8 : ln.getD 0 ≤ 8 := by
    cases e : ln with
    | none => simp
    | some n => exact hl8 n e
  have h15 : pq_Md_plainBody_15 E mc ms Post G 0 0 m (nI c) (nI p) (nI (ln.getD 0)) := by
    unfold pq_Md_plainBody_15
    refine ⟨h.1, h.rd (f := 897) (k := 66) (n := 3) (by decide) vc ?_⟩
    rw [cl, hw.1, pk_sub hp0]
    refine ⟨fun w => h.wr (f := 912) (k := 73) (n := 9) (by decide) v8 (fun G1 e1 => ⟨ln.getD 0 + 1, ?_⟩), fun w => hp1 (Nat.lt_of_not_le (fun q => w (nI_le q (by omega))))⟩
    have hle := (nI_leI (by omega) (by omega)).mp w
    rw [c8] at e1
    have m1 : mf E ow m A Pbd G G1 := by rw [e1]; exact mf_sel h hbb (f := 912) (k := 73) (n := 9) (by decide) ⟨Or.inl rfl, rfl⟩
    exact sp_pbLoop2 (G0 := G) hc (by omega) n8 (hp2 hle) (ln.getD 0) 0 G1 (by omega) m1 (hw.mf m1 (fun f i z => by have := Pbd_f z; omega)) (by rw [e1, sel_at, if_pos rfl]; rfl)
  unfold pq_Md_plainBody pq_Md_plainBody_0
  refine ⟨h.1, ?_⟩
  rw [hln]
  cases e : ln with
  | none => rw [e] at h15; exact ⟨fun w => absurd w (by decide), fun _ => h15⟩
  | some n => rw [e] at h15; exact ⟨fun _ => h15, fun w => absurd (nI_pos' (by have := hl8 n e; omega)) w⟩
end MD
