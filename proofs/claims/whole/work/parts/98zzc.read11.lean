def rl_at (A : Nat → Nat) (G : wo_W) (mm : Option Nat) (pa : List Nat) : Prop := (∃ k, mm = some k ∧ k < 4 ∧ wo_ei G (A 907) 8 = nI k) ∧ pt_ok (wo_el G (A 908) 8) (wo_ei G (A 909) 8) pa
theorem jl_b {li : List Nat} : (jl_of li).1 ≤ 414 := by
  unfold jl_of
  by_cases z : ix_of 32 li = li.length
  · rw [if_pos z]; decide
  · rw [if_neg z]
    cases mn_of (tx_sub li 0 (ix_of 32 li)) with
    | none => exact (by decide : 400 ≤ 414)
    | some k =>
      cases de_of (tx_sub li (ix_of 32 li + 1) li.length) with
      | none => exact (by decide : 400 ≤ 414)
      | some u =>
        show (if 8 < (pa_of u).length then 414 else 0) ≤ 414
        split <;> decide
theorem jh_b {li : List Nat} {hd : Nat} {ln : Option Nat} {ch : Bool} {vs : vsT} : (jh_of li hd ln ch vs).1 ≤ 431 := by
  unfold jh_of
  by_cases z1 : 8 ≤ hd
  · rw [if_pos z1]; exact (by decide : 431 ≤ 431)
  · rw [if_neg z1]
    by_cases z2 : ih_of li = false
    · rw [if_pos z2]; exact (by decide : 400 ≤ 431)
    · rw [if_neg z2]
      by_cases z3 : 8 < li.length - 2
      · rw [if_pos z3]; exact (by decide : 431 ≤ 431)
      · rw [if_neg z3]
        by_cases z4 : li.getD 0 0 = 76
        · rw [if_pos z4]
          generalize tl_of (tx_sub li 2 li.length) ln = o
          cases o with
          | none => exact (by decide : 400 ≤ 431)
          | some n => exact (by decide : 0 ≤ 431)
        · rw [if_neg z4]
          by_cases z5 : li.getD 0 0 = 84
          · rw [if_pos z5]
            show (if tx_sub li 2 li.length = [99] then 0 else 400) ≤ 431
            split <;> decide
          · rw [if_neg z5]; exact (by decide : 0 ≤ 431)
section MD
variable {E : wo_E} {mc ms m c s : Nat} {G0 G G1 G2 : wo_W} {ow : Nat → Nat} {A : Nat → Nat} {P Q : Nat → Nat → Prop} {R : List Nat} {p hd : Nat} {ln : Option Nat} {ch : Bool} {mm : Option Nat} {pa bo : List Nat} {vs : vsT} {x : Nat × rdT}
theorem rl_at.mf (hr : rl_at A G mm pa) (h : mf E ow m A P G G1) (hP : ∀ f i, P f i → f ≠ 907 ∧ f ≠ 908 ∧ f ≠ 909) : rl_at A G1 mm pa := by
  obtain ⟨⟨k, h1, h2, h3⟩, h4⟩ := hr
  refine ⟨⟨k, h1, h2, ?_⟩, ?_⟩
  · rw [h.ei (f := 907) (k := 66) (n := 9) (by decide) (fun z => (hP _ _ z).1 rfl)]; exact h3
  · rw [h.el (f := 908) (k := 73) (n := 9) (by decide) (fun z => (hP _ _ z).2.1 rfl), h.ei (f := 909) (k := 66) (n := 9) (by decide) (fun z => (hP _ _ z).2.2 rfl)]; exact h4
theorem hd_at.mf (hr : hd_at A m G ln ch vs) (h : mf E ow m A P G G1) (hP : ∀ f i, P f i → f ≠ 910 ∧ f ≠ 911 ∧ f ≠ 914 ∧ f ≠ 915) : hd_at A m G1 ln ch vs := by
  obtain ⟨h1, h2, h3, h4⟩ := hr
  refine ⟨?_, h2, ?_, fun x hx => ?_⟩
  · rw [h.gi (fun i z => (hP _ _ z).2.2.1 rfl)]; exact h1
  · rw [h.gi (fun i z => (hP _ _ z).2.2.2 rfl)]; exact h3
  · rw [h.ei (f := 911) (k := 66) (n := 72) (by decide) (fun z => (hP _ _ z).2.1 rfl), h.el (f := 910) (k := 73) (n := 72) (by decide) (fun z => (hP _ _ z).1 rfl)]; exact h4 x hx
theorem vq_8 {q : rqT} (h1 : rl_at A G mm pa) (h2 : hd_at A m G ln ch vs) (h3 : bd_at A G bo) (e : q = (mm, pa, bo, vs)) : vq_at A G 8 q := by
  subst e
  exact ⟨h1.1, h1.2, h3, fun h hh => h2.2.2.2 h hh⟩
def Pph : Nat → Nat → Prop := fun f i => Phd f i ∨ Pbd f i
theorem Pph_pr {f i : Nat} (z : Pph f i) : Ppr f i := by
  rcases z with z | z
  · rcases z with z | z
    · exact Or.inr (Or.inl z)
    · exact Or.inr (Or.inr (by omega))
  · rcases z with ⟨z | z, z2⟩
    · exact Or.inl ⟨Or.inr (Or.inr (Or.inr (Or.inl z))), z2⟩
    · exact Or.inl ⟨Or.inr (Or.inr (Or.inr (Or.inr z))), z2⟩
theorem Pph_7 {f i : Nat} (z : Pph f i) : f ≠ 907 ∧ f ≠ 908 ∧ f ≠ 909 ∧ f ≠ 896 ∧ f ≠ 897 := by
  unfold Pph Phd Pbd at z
  omega
theorem sp_prs141 {Post : Int32 → wo_W → Prop} (hc : c < 3) (m0 : mf E ow m A Pph G0 G) (hw : rw_at A G c R) (hp0 : p < R.length) (hrl : rl_at A G mm pa) (hh : hd_at A m G ln ch vs) (hr : ((eh_of ln ch).1 = 0 ∧ rn ((eh_of ln ch).2.1, hd, ln, ch, (eh_of ln ch).2.2, [], [], mm, pa, vs) (R.drop (p + 1)) = some x) ∨ ((eh_of ln ch).1 ≠ 0 ∧ R.drop (p + 1) = [] ∧ x = ((eh_of ln ch).1, ((eh_of ln ch).2.1, hd, ln, ch, (eh_of ln ch).2.2, [], [], mm, pa, vs)))) (hp : ∀ G', mf E ow m A Pph G0 G' → (x.1 = 1 → vq_at A G' 8 (rq_d x.2)) → Post (nI x.1) G') : pq_Md_parse_141 E mc ms Post G 0 0 m (nI c) (nI p) 0 (nI p) := by
  have h42 := hw.2.1
  have k := m0.k
  have hlen : (R.drop (p + 1)).length = R.length - (p + 1) := List.length_drop
  unfold pq_Md_parse_141
  refine ⟨fun _ => ⟨fun _ => ⟨k.1, ?_⟩, fun w => absurd (nI_pos' (by omega)) w⟩, fun w => absurd rfl w⟩
  rw [hh.1, hh.2.2.1]
  -- the rest, without a length and chunks both
  have h184 : ¬ (ch = true ∧ ln ≠ none) → pq_Md_parse_184 E mc ms Post G 0 0 m (nI c) (nI p) := by
    intro nb
    unfold pq_Md_parse_184 pq_Md_parse_227
    rw [hh.1, hh.2.2.1, nI_1]
    refine ⟨k.1, ?_⟩
    cases ch with
    | true =>
      have eln : ln = none := Decidable.byContradiction (fun z => nb ⟨rfl, z⟩)
      subst eln
      refine ⟨fun _ => ⟨fun w => absurd w (by decide), fun _ => ⟨0, 0, Nat.zero_le _, Nat.zero_le _, ?_⟩⟩, fun w => absurd (by decide) w⟩
      rcases hr with hr | hr
      · refine sp_chunks k m0.b hw hc (by omega) hr.2 (fun G' m' hq => hp G' (m0.tr (m'.mn (fun f i z => Or.inr z))) (fun z => ?_))
        obtain ⟨bo', hb1, hb2⟩ := hq z
        exact vq_8 (hrl.mf m' (fun f i z => by have := Pbd_f z; omega)) (hh.mf m' (fun f i z => by have := Pbd_f z; omega)) hb1 hb2
      · exact absurd rfl hr.1
    | false =>
      have plain : ∀ n, ln.getD 0 = n → (∀ j, ln = some j → j ≤ 8) → pq_Md_plainBody E 0 0 (fun v5 G4 => Post v5 G4) G m (nI c) (nI (p + 1)) := by
        intro n en h8
        by_cases z0 : n = 0
        · have e1 : eh_of ln false = (1, 1, 0) := by
            cases ln with
            | none => rfl
            | some j => have : j = 0 := en.trans z0; subst this; rfl
          rw [e1] at hr
          rcases hr with hr | hr
          · exact absurd hr.1 (by decide)
          · have ex := hr.2.2
            refine sp_plainBody k m0.b hw hc (by omega) hh.1 h8 (fun z => by omega) (fun _ G' m' hb => ?_)
            rw [en, z0, List.take_zero] at hb
            have := hp G' (m0.tr (m'.mn (fun f i z => Or.inr z))) (fun z => ?_)
            · rw [ex] at this; exact this
            · refine vq_8 (hrl.mf m' (fun f i z => by have := Pbd_f z; omega)) (hh.mf m' (fun f i z => by have := Pbd_f z; omega)) hb ?_
              rw [ex]; rfl
        · have eln : ln = some n := by
            cases ln with
            | none => exact absurd en.symm z0
            | some j => rw [show j = n from en]
          have hn8 := h8 n eln
          have e1 : eh_of ln false = (0, 2, n) := by
            rw [eln]
            show (if 8 < n then _ else if n = 0 then _ else _) = _
            rw [if_neg (by omega), if_neg z0]
          rw [e1] at hr
          rcases hr with hr | hr
          · have hr2 := hr.2
            simp only [] at hr2
            refine sp_plainBody k m0.b hw hc (by omega) hh.1 h8 (fun z => ?_) (fun z G' m' hb => ?_)
            · rw [en] at z
              rw [rn_body (Or.inl rfl) _ _ [] (Nat.le_refl _) n (by omega)] at hr2
              have ex := Option.some.inj hr2
              have := hp G m0 (fun q => by rw [← ex] at q; cases q)
              rw [← ex] at this
              exact this
            · rw [en] at z hb
              rw [rn_last (by omega) (by omega) (Or.inl rfl), if_pos rfl] at hr2
              by_cases zl : (R.drop (p + 1)).length = n
              · rw [if_pos zl] at hr2
                have ex := Option.some.inj hr2
                have := hp G' (m0.tr (m'.mn (fun f i z => Or.inr z))) (fun q => ?_)
                · rw [← ex] at this; exact this
                · refine vq_8 (hrl.mf m' (fun f i z => by have := Pbd_f z; omega)) (hh.mf m' (fun f i z => by have := Pbd_f z; omega)) hb ?_
                  rw [← ex, List.take_of_length_le (by omega)]
                  rfl
              · rw [if_neg zl] at hr2; cases hr2
          · exact absurd rfl hr.1
      refine ⟨fun w => ⟨fun _ => ⟨0, 0, Nat.zero_le _, Nat.zero_le _, ?_⟩, fun w => absurd rfl w⟩, fun w => ?_⟩
      · refine plain _ rfl (fun j ej => ?_)
        have := hh.2.1 j ej
        rw [ej] at w
        exact (nI_leI (b := 8) (by omega) (by decide)).mp w
      · cases eln : ln with
        | none => rw [eln] at w; exact absurd (by decide) w
        | some n =>
          rw [eln] at w
          have hn := hh.2.1 n eln
          have h8 : 8 < n := Nat.lt_of_not_le (fun z => w (nI_le (b := 8) z (by decide)))
          have e1 : eh_of ln false = (413, 1, 0) := by
            rw [eln]
            show (if 8 < n then _ else if n = 0 then _ else _) = _
            rw [if_pos h8]
          rw [e1] at hr
          rcases hr with hr | hr
          · exact absurd hr.1 (by decide)
          · have := hp G m0 (fun q => by rw [hr.2.2] at q; cases q)
            rw [hr.2.2] at this
            exact this
  refine ⟨fun w => h184 (fun z => ?_), fun w => ⟨fun w2 => h184 (fun z => ?_), fun w2 => ?_⟩⟩
  · cases eln : ln with
    | none => exact z.2 eln
    | some n => rw [eln] at w; have := hh.2.1 n eln; exact absurd w (nI_pos (by omega))
  · rw [z.1] at w2; exact absurd w2 (by decide)
  · have ech : ch = true := by cases ch with | true => rfl | false => exact absurd rfl w2
    have nln : ln ≠ none := fun z => w (by rw [z]; decide)
    have e1 : (eh_of ln ch).1 = 400 := by
      unfold eh_of
      rw [if_pos ech, if_neg nln]
    rcases hr with hr | hr
    · rw [e1] at hr; exact absurd hr.1 (by decide)
    · have e2 : x.1 = 400 := by rw [hr.2.2]; exact e1
      have := hp G m0 (fun q => by rw [e2] at q; cases q)
      rw [e2] at this
      exact this
end MD
