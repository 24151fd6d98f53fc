abbrev k90T : Type := wo_W → Nat → Nat → Nat → Int32 → Int32 → Int32 → Int32 → Int32 → Prop
section MD
variable {E : wo_E} {mc ms m c s : Nat} {G0 G G1 G2 : wo_W} {ow : Nat → Nat} {A : Nat → Nat} {P Q : Nat → Nat → Prop} {R : List Nat} {p hd : Nat} {ln : Option Nat} {ch : Bool} {mm : Option Nat} {pa bo : List Nat} {vs : vsT} {x : Nat × rdT}
theorem sp_prsBad {Post : Int32 → wo_W → Prop} {b k : Nat} {x2 x4 x5 : Int32} (hb0 : b ≠ 0) (hb : b ≤ 431) (hp : Post (nI b) G) : pq_Md_parse_90 E mc ms Post (k + 1) G 0 0 m (nI c) x2 (nI b) x4 x5 := by
  have n0 : ¬ nI b = 0 := fun z => hb0 ((nI_eq (b := 0) (by omega) (by decide)).mp z)
  unfold pq_Md_parse_90 pq_Md_parse_141
  exact ⟨fun _ => ⟨fun w => absurd w n0, fun _ => hp⟩, fun w => absurd w n0⟩
theorem sp_prs90 {Post : Int32 → wo_W → Prop} (hc : c < 3) (hp : ∀ G', mf E ow m A Pph G0 G' → (x.1 = 1 → vq_at A G' 8 (rq_d x.2)) → Post (nI x.1) G') : ∀ (k p hd : Nat) (ln : Option Nat) (ch : Bool) (vs : vsT) (G : wo_W), R.length - p ≤ k → p ≤ R.length → hd ≤ 8 → mf E ow m A Pph G0 G → rw_at A G c R → rl_at A G mm pa → hd_at A m G ln ch vs → rn (1, hd, ln, ch, 0, [], [], mm, pa, vs) (R.drop p) = some x → pq_Md_parse_90 E mc ms Post (k + 2) G 0 0 m (nI c) (le_I p (R.drop p)) 0 (nI p) (nI hd) := by
  intro k
  induction k with
  | zero =>
    intro p hd ln ch vs G hk hp0 hhd m0 hw hrl hh hr
    have h42 := hw.2.1
    have e : R.drop p = [] := List.drop_of_length_le (by omega)
    rw [e] at hr ⊢
    have ex : x = (0, (1, hd, ln, ch, 0, [], [], mm, pa, vs)) := (Option.some.inj hr).symm
    have el : le_I p [] = -1 := rfl
    rw [el]
    have := hp G m0 (fun z => by rw [ex] at z; cases z)
    rw [ex] at this
    unfold pq_Md_parse_90 pq_Md_parse_141 pq_Md_parse_163
    refine ⟨fun w => absurd rfl w, fun _ => ⟨fun _ => ⟨fun _ => ⟨fun w => absurd w (by decide), fun _ => ⟨fun w => absurd rfl w, fun _ => this⟩⟩, fun w => absurd rfl w⟩, fun w => ?_⟩⟩
    exact absurd (Int32.le_trans (by decide) (nI_pos' (n := p) (by omega))) w
  | succ k ih =>
    intro p hd ln ch vs G hk hp0 hhd m0 hw hrl hh hr
    have h42 := hw.2.1
    have ld : (R.drop p).length = R.length - p := List.length_drop
    by_cases z : ix_of 10 (R.drop p) < (R.drop p).length
    · have el : le_I p (R.drop p) = nI (p + ix_of 10 (R.drop p)) := if_pos z
      obtain ⟨h20, hh2⟩ := rn_lf (Or.inr (Or.inl rfl)) z hr
      rw [el]
      have edr : (R.drop p).drop (ix_of 10 (R.drop p) + 1) = R.drop (p + ix_of 10 (R.drop p) + 1) := by rw [List.drop_drop]; rfl
      rw [edr] at hh2
      by_cases y : ix_of 10 (R.drop p) = 0
      · rw [y] at hh2 ⊢
        rw [Nat.add_zero] at hh2 ⊢
        have ej : jd_of (1, hd, ln, ch, 0, (R.drop p).take 0, [], mm, pa, vs) = ((eh_of ln ch).1, ((eh_of ln ch).2.1, hd, ln, ch, (eh_of ln ch).2.2, [], [], mm, pa, vs)) := rfl
        rw [ej] at hh2
        unfold pq_Md_parse_90
        exact ⟨fun w => absurd rfl w, fun _ => ⟨fun _ => sp_prs141 hc m0 hw (by omega) hrl hh hh2 hp, fun w => absurd (nI_le (Nat.le_refl _) (by omega)) w⟩⟩
      · generalize hix : ix_of 10 (R.drop p) = ix at *
        have lli : ((R.drop p).take ix).length = ix := by rw [List.length_take]; omega
        have nli : ¬ (R.drop p).take ix = [] := fun e => by have := congrArg List.length e; rw [lli] at this; simp at this; omega
        have ej : jd_of (1, hd, ln, ch, 0, (R.drop p).take ix, [], mm, pa, vs) = ((jh_of ((R.drop p).take ix) hd ln ch vs).1, (1, hd + 1, (jh_of ((R.drop p).take ix) hd ln ch vs).2.1, (jh_of ((R.drop p).take ix) hd ln ch vs).2.2.1, 0, [], [], mm, pa, (jh_of ((R.drop p).take ix) hd ln ch vs).2.2.2)) := by
          unfold jd_of
          simp only []
          rw [if_neg (by decide), if_pos trivial, if_neg nli]
        rw [ej] at hh2
        have hjb := jh_b (li := (R.drop p).take ix) (hd := hd) (ln := ln) (ch := ch) (vs := vs)
        generalize hjh : jh_of ((R.drop p).take ix) hd ln ch vs = jh at *
        have bad : jh.1 ≠ 0 → ∀ G', mf E ow m A Pph G0 G' → Post (nI jh.1) G' := fun q G' m' => by
          rcases hh2 with hh2 | hh2
          · exact absurd hh2.1 q
          · have ex := hh2.2.2
            have x1 : x.1 = jh.1 := by rw [ex]
            have := hp G' m' (fun z1 => ?_)
            · rw [x1] at this; exact this
            · exfalso
              rw [x1] at z1
              have : jh.1 = 400 ∨ jh.1 = 431 ∨ jh.1 = 0 := by
                rw [← hjh]
                unfold jh_of
                by_cases y1 : 8 ≤ hd
                · rw [if_pos y1]; exact Or.inr (Or.inl rfl)
                · rw [if_neg y1]
                  by_cases y2 : ih_of ((R.drop p).take ix) = false
                  · rw [if_pos y2]; exact Or.inl rfl
                  · rw [if_neg y2]
                    by_cases y3 : 8 < ((R.drop p).take ix).length - 2
                    · rw [if_pos y3]; exact Or.inr (Or.inl rfl)
                    · rw [if_neg y3]
                      by_cases y4 : ((R.drop p).take ix).getD 0 0 = 76
                      · rw [if_pos y4]
                        generalize tl_of (tx_sub ((R.drop p).take ix) 2 ((R.drop p).take ix).length) ln = o
                        cases o with
                        | none => exact Or.inl rfl
                        | some n => exact Or.inr (Or.inr rfl)
                      · rw [if_neg y4]
                        by_cases y5 : ((R.drop p).take ix).getD 0 0 = 84
                        · rw [if_pos y5]
                          show (if tx_sub ((R.drop p).take ix) 2 ((R.drop p).take ix).length = [99] then 0 else 400) = 400 ∨ _
                          split
                          · exact Or.inr (Or.inr rfl)
                          · exact Or.inl rfl
                        · rw [if_neg y5]; exact Or.inr (Or.inr rfl)
              omega
        have next : ∀ G', mf E ow m A Pph G0 G' → rw_at A G' c R → rl_at A G' mm pa → (jh.1 = 0 → hd < 8 ∧ hd_at A m G' jh.2.1 jh.2.2.1 jh.2.2.2) → pq_Md_parse_121 E mc ms Post (pq_Md_parse_90 E mc ms Post (k + 2)) G' 0 0 m (nI c) (nI (p + ix)) (nI hd) (nI jh.1) := by
          intro G' m' hw' hrl' hq
          unfold pq_Md_parse_121
          rw [nI_1, nI_1]
          refine ⟨m'.k.1, 0, 0, Nat.zero_le _, Nat.zero_le _, sp_lineEnd m'.k hw' hc (by omega) ?_⟩
          by_cases z0 : jh.1 = 0
          · obtain ⟨q1, q2⟩ := hq z0
            rcases hh2 with hh2 | hh2
            · rw [z0]
              exact ih (p + ix + 1) (hd + 1) jh.2.1 jh.2.2.1 jh.2.2.2 G' (by omega) (by omega) (by omega) m' hw' hrl' q2 hh2.2
            · exact absurd z0 hh2.1
          · exact sp_prsBad z0 hjb (bad z0 G' m')
        unfold pq_Md_parse_90
        refine ⟨fun w => absurd rfl w, fun _ => ⟨fun w => absurd w (nI_ge (by omega) (by omega)), fun _ => ⟨fun w => ⟨m0.k.1, 0, 0, Nat.zero_le _, Nat.zero_le _, ?_⟩, fun w => ?_⟩⟩⟩
        · have n8 : hd ≠ 8 := fun q => w (by rw [q]; rfl)
          have := sp_header (E := E) (mc := 0) (ms := 0) (li := (R.drop p).take ix) (p := p) (hd := hd) (Post := fun v5 G4 => pq_Md_parse_121 E mc ms Post (pq_Md_parse_90 E mc ms Post (k + 2)) G4 0 0 m (nI c) (nI (p + ix)) (nI hd) v5) m0.k m0.b hw hc (by omega) (by omega) (by omega) (by omega) (fun i hi => ?_) hh (fun G' m' hq => ?_)
          · rw [lli] at this; exact this
          · rw [tk_at (by omega), drop_at]
          · have m'' : mf E ow m A Pph G G' := m'.mn (fun f i z => Or.inl z)
            rw [hjh] at hq ⊢
            exact next G' (m0.tr m'') (hw.mf m'' (fun f i z => ⟨(Pph_7 z).2.2.2.1, (Pph_7 z).2.2.2.2⟩)) (hrl.mf m'' (fun f i z => ⟨(Pph_7 z).1, (Pph_7 z).2.1, (Pph_7 z).2.2.1⟩)) (fun q => ⟨by omega, hq q⟩)
        · have e8 : hd = 8 := (nI_eq (b := 8) (by omega) (by decide)).mp w
          have ej4 : jh.1 = 431 := by rw [← hjh]; unfold jh_of; rw [if_pos (by omega)]
          have := next G m0 hw hrl (fun q => by rw [ej4] at q; cases q)
          rw [ej4] at this
          exact this
    · have ex := rn_nolf (Or.inr (Or.inl rfl)) z hr
      have el : le_I p (R.drop p) = if (R.drop p).length ≤ 20 then -1 else -2 := if_neg z
      have hx1 : ¬ x.1 = 1 := by rw [ex]; split <;> decide
      have hp := hp G m0 (fun q => absurd q hx1)
      rw [el]
      unfold pq_Md_parse_90 pq_Md_parse_141 pq_Md_parse_163
      by_cases y : (R.drop p).length ≤ 20
      · rw [if_pos y] at ex ⊢
        rw [ex] at hp
        refine ⟨fun w => absurd rfl w, fun _ => ⟨fun _ => ⟨fun _ => ⟨fun w => absurd w (by decide), fun _ => ⟨fun w => absurd rfl w, fun _ => hp⟩⟩, fun w => absurd rfl w⟩, fun w => ?_⟩⟩
        exact absurd (Int32.le_trans (by decide) (nI_pos' (n := p) (by omega))) w
      · rw [if_neg y] at ex ⊢
        rw [ex] at hp
        refine ⟨fun w => absurd rfl w, fun _ => ⟨fun _ => ⟨fun _ => ⟨fun w => absurd w (by decide), fun _ => ⟨fun _ => hp, fun w => absurd w (by decide)⟩⟩, fun w => absurd rfl w⟩, fun w => ?_⟩⟩
        exact absurd (Int32.le_trans (by decide) (nI_pos' (n := p) (by omega))) w
theorem sp_prs35 {Post : Int32 → wo_W → Prop} {x2 x3 : Int32} (hp : ∀ G', mf E ow m A Phd G0 G' → hd_at A m G' none false (fun _ => none) → ∃ mc9 ms10 : Nat, (0 + mc9) ≤ mc ∧ (0 + ms10) ≤ ms ∧ pq_Md_lineEnd E mc9 ms10 (fun v12 G11 => ∃ n1 : Nat, pq_Md_parse_90 E mc ms Post n1 G11 (0 + mc9) (0 + ms10) m (nI c) v12 x3 (x2 + (1 : Int32)) (0 : Int32)) G' m (nI c) (x2 + (1 : Int32))) : ∀ (d i : Nat) (G : wo_W), i + d = 8 → mf E ow m A Phd G0 G → (∀ h, h < i → vo_at (wo_ei G (A 911) (64 + h)) (wo_el G (A 910) (64 + h)) none) → pq_Md_parse_35 E mc ms Post (d + 1) G 0 0 m (nI c) x2 x3 (nI (64 + i)) := by
  intro d
  induction d with
  | zero =>
    intro i G hi m0 hv
    have e0 : i = 8 := by omega
    subst e0
    unfold pq_Md_parse_35
    refine ⟨fun _ => ⟨m0.k.1, m0.k.2.1, fun G1 e1 => ⟨m0.k.2.1, tx_ok0, fun G2 e2 => ?_⟩⟩, fun w => absurd (nI_le (a := 72) (by decide) (by decide)) w⟩
    have m1 : mf E ow m A Phd G G1 := by rw [e1]; exact mf_si m0.k m0.b (Phd_g (by decide) (by decide))
    have m2 : mf E ow m A Phd G1 G2 := by rw [e2]; exact mf_si m1.k m1.b (Phd_g (by decide) (by decide))
    refine hp G2 ((m0.tr m1).tr m2) ⟨?_, fun n z => (by cases z), by rw [e2, si_at]; rfl, fun h hh => by rw [e2, e1]; exact hv h hh⟩
    rw [show wo_gi G2 914 m = wo_gi G1 914 m by rw [e2]; simp [wo_gi, wo_si, wo_u2], e1, si_at]; rfl
  | succ d ih =>
    intro i G hi m0 hv
    unfold pq_Md_parse_35
    have vi : vp_in (nI (64 + i)) 72 := vp_in_nI (by omega) (by decide)
    have ci : (nI (64 + i)).toNatClampNeg = 64 + i := nI_clamp (by omega)
    refine ⟨fun w => absurd w (nI_ge (b := 72) (by omega) (by decide)), fun _ => ⟨m0.k.1, m0.k.wr (f := 911) (k := 66) (n := 72) (by decide) vi (fun G1 e1 => ?_)⟩⟩
    rw [ci] at e1
    have m1 : mf E ow m A Phd G G1 := by rw [e1]; exact mf_sei m0.k m0.b (f := 911) (k := 66) (n := 72) (by decide) (Phd_v (Or.inr rfl))
    refine m1.k.wr (f := 910) (k := 73) (n := 72) (by decide) vi (fun G2 e2 => ?_)
    rw [ci] at e2
    have m2 : mf E ow m A Phd G1 G2 := by rw [e2]; exact mf_sel m1.k m1.b (f := 910) (k := 73) (n := 72) (by decide) (Phd_v (Or.inl rfl))
    rw [nI_1]
    refine ih (i + 1) G2 (by omega) ((m0.tr m1).tr m2) (fun h hh => ?_)
    have i1 : wo_ei G2 (A 911) (64 + h) = if 64 + h = 64 + i then -1 else wo_ei G (A 911) (64 + h) := by
      rw [show wo_ei G2 (A 911) (64 + h) = wo_ei G1 (A 911) (64 + h) by rw [e2]; rfl, e1, sei_at]
    have i2 : wo_el G2 (A 910) (64 + h) = if 64 + h = 64 + i then 0 else wo_el G (A 910) (64 + h) := by
      rw [e2, sel_at]
      congr 1
      rw [e1]; rfl
    rw [i1, i2]
    by_cases z : h = i
    · rw [if_pos (by omega), if_pos (by omega)]; exact ⟨rfl, rfl⟩
    · rw [if_neg (by omega), if_neg (by omega)]; exact hv h (by omega)
theorem sp_parse {Post : Int32 → wo_W → Prop} (h : md_k E ow m A G) (hbb : ow_b E ow G) (hw : rw_at A G c R) (h0 : ∀ b ∈ R, 0 < b) (hc : c < 3) (hR0 : R ≠ []) (hR1 : R.getD 0 0 ≠ 10) (hr : rn rd_0 R = some x) (hp : ∀ G', mf E ow m A Ppr G G' → (x.1 = 1 → vq_at A G' 8 (rq_d x.2)) → Post (nI x.1) G') : pq_Md_parse E mc ms Post G m (nI c) := by
  have h42 := hw.2.1
  unfold pq_Md_parse pq_Md_parse_0 pq_Md_parse_23
  refine ⟨h.1, 0, 0, Nat.zero_le _, Nat.zero_le _, sp_lineEnd (p := 0) h hw hc (Nat.zero_le _) ?_⟩
  rw [List.drop_zero]
  have hr : rn (0, 0, none, false, 0, [], [], none, [], fun _ => none) R = some x := hr
  by_cases z : ix_of 10 R < R.length
  · have el : le_I 0 R = nI (ix_of 10 R) := by unfold le_I; rw [if_pos z, Nat.zero_add]
    obtain ⟨h20, hh⟩ := rn_lf (Or.inl rfl) z hr
    rw [el]
    have hix0 : ix_of 10 R ≠ 0 := fun q => by have := ix_lt_at R z; rw [q] at this; exact hR1 this
    generalize hix : ix_of 10 R = ix at *
    have lli : (R.take ix).length = ix := by rw [List.length_take]; omega
    have nli : ¬ R.take ix = [] := fun e => by have := congrArg List.length e; rw [lli] at this; simp at this; omega
    have ej : jd_of (0, 0, none, false, 0, R.take ix, [], none, [], fun _ => none) = ((jl_of (R.take ix)).1, (1, 0, none, false, 0, [], [], (jl_of (R.take ix)).2.1, (jl_of (R.take ix)).2.2, fun _ => none)) := by
      unfold jd_of
      simp only []
      rw [if_pos trivial, if_neg nli]
    rw [ej] at hh
    refine ⟨fun _ => ⟨h.1, 0, 0, Nat.zero_le _, Nat.zero_le _, ?_⟩, fun w => absurd (nI_pos' (by omega)) w⟩
    have hjb := jl_b (li := R.take ix)
    have := sp_requestLine (E := E) (mc := 0) (ms := 0) (li := R.take ix) (Post := fun v10 G9 => ∃ n1 : Nat, pq_Md_parse_35 E mc ms Post n1 G9 ((0 + 0) + 0) ((0 + 0) + 0) m (nI c) (nI ix) v10 (64 : Int32)) h hbb hw h0 hc (by omega) (by omega) (fun i hi => (tk_at (by omega)).symm) (fun G1 m1 hrl => ?_)
    · rw [lli] at this; exact this
    · have hw1 : rw_at A G1 c R := hw.mf m1 (fun f i z => by unfold Ppr at z; omega)
      refine ⟨9, sp_prs35 (G0 := G1) (fun G2 m2 hh2 => ⟨0, 0, Nat.zero_le _, Nat.zero_le _, ?_⟩) 8 0 G1 rfl (mf.rf m1.k m1.b) (fun h hh => by omega)⟩
      have m2' : mf E ow m A Pph G1 G2 := m2.mn (fun f i z => Or.inl z)
      have hw2 : rw_at A G2 c R := hw1.mf m2' (fun f i z => ⟨(Pph_7 z).2.2.2.1, (Pph_7 z).2.2.2.2⟩)
      rw [nI_1]
      refine sp_lineEnd m2.k hw2 hc (by omega) ⟨R.length - (ix + 1) + 2, ?_⟩
      by_cases zj : (jl_of (R.take ix)).1 = 0
      · obtain ⟨k, k1, k2, k3, k4⟩ := hrl zj
        rcases hh with hh | hh
        · have rl1 : rl_at A G1 (jl_of (R.take ix)).2.1 (jl_of (R.take ix)).2.2 := ⟨⟨k, k1, k2, k3⟩, k4⟩
          rw [zj]
          exact sp_prs90 (G0 := G2) (ow := ow) hc (fun G' m' q => hp G' (m1.tr ((m2'.tr m').mn (fun f i z => Pph_pr z))) q) (R.length - (ix + 1)) (ix + 1) 0 none false _ G2 (Nat.le_refl _) (by omega) (by decide) (mf.rf m2.k m2.b) hw2 (rl1.mf m2' (fun f i z => ⟨(Pph_7 z).1, (Pph_7 z).2.1, (Pph_7 z).2.2.1⟩)) hh2 hh.2
        · exact absurd zj hh.1
      · rcases hh with hh | hh
        · exact absurd hh.1 zj
        · have x1 : x.1 = (jl_of (R.take ix)).1 := by rw [hh.2.2]
          have := hp G2 (m1.tr (m2'.mn (fun f i z => Pph_pr z))) (fun q => ?_)
          · rw [x1] at this
            exact sp_prsBad zj (by omega) this
          · exfalso
            rw [x1] at q
            have : (jl_of (R.take ix)).1 = 0 ∨ (jl_of (R.take ix)).1 = 400 ∨ (jl_of (R.take ix)).1 = 414 := by
              unfold jl_of
              by_cases y1 : ix_of 32 (R.take ix) = (R.take ix).length
              · rw [if_pos y1]; exact Or.inr (Or.inl rfl)
              · rw [if_neg y1]
                cases mn_of (tx_sub (R.take ix) 0 (ix_of 32 (R.take ix))) with
                | none => exact Or.inr (Or.inl rfl)
                | some k =>
                  cases de_of (tx_sub (R.take ix) (ix_of 32 (R.take ix) + 1) (R.take ix).length) with
                  | none => exact Or.inr (Or.inl rfl)
                  | some u =>
                    show (if 8 < (pa_of u).length then 414 else 0) = 0 ∨ (if 8 < (pa_of u).length then 414 else 0) = 400 ∨ (if 8 < (pa_of u).length then 414 else 0) = 414
                    split
                    · exact Or.inr (Or.inr rfl)
                    · exact Or.inl rfl
            omega
  · have ex := rn_nolf (Or.inl rfl) z hr
    have el : le_I 0 R = if R.length ≤ 20 then -1 else -2 := if_neg z
    have hx1 : ¬ x.1 = 1 := by rw [ex]; split <;> decide
    have hp := hp G (mf.rf h hbb) (fun q => absurd q hx1)
    rw [el]
    by_cases y : R.length ≤ 20
    · rw [if_pos y] at ex ⊢
      rw [ex] at hp
      exact ⟨fun w => absurd w (by decide), fun _ => ⟨fun w => absurd rfl w, fun _ => hp⟩⟩
    · rw [if_neg y] at ex ⊢
      rw [ex] at hp
      exact ⟨fun w => absurd w (by decide), fun _ => ⟨fun _ => hp, fun w => absurd w (by decide)⟩⟩
end MD
