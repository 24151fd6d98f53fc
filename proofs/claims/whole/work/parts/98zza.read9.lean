theorem wd_step {l : List Nat} {b : Nat} (hb : b < 256) : pk_of l * 256 + (nI b).toInt64 = pk_of (b :: l) := by
  have k2 : ∀ b, b < 256 → (nI b).toInt64 = Int64.ofNat b := by decide +kernel
  rw [k2 b hb]
  unfold pk_of
  rw [show (256 : Int64) = Int64.ofNat 256 from rfl, ← Int64.ofNat_mul, ← Int64.ofNat_add]
  congr 1
  show pn_of l * 256 + b = b + 256 * pn_of l
  omega
theorem wd_eq {w cs : List Nat} (hw : ∀ b ∈ w, 0 < b ∧ b < 256) (hc : ∀ b ∈ cs, 0 < b ∧ b < 256) (hl : w.length ≤ 8) (hl2 : cs.length ≤ 8) : lg_cmp (pk_of w.reverse) (pk_of cs.reverse) = 0 ↔ w = cs := by
  rw [lg_cmp_eq]
  constructor
  · intro e
    have e2 : (pk_of w.reverse).toBitVec.toNat = (pk_of cs.reverse).toBitVec.toNat := by rw [e]
    rw [pk_nat (fun c h => (hw c (List.mem_reverse.mp h)).2) (by rw [List.length_reverse]; exact hl), pk_nat (fun c h => (hc c (List.mem_reverse.mp h)).2) (by rw [List.length_reverse]; exact hl2)] at e2
    have := pn_inj0 _ _ (fun c h => hw c (List.mem_reverse.mp h)) (fun c h => hc c (List.mem_reverse.mp h)) e2
    exact List.reverse_inj.mp this
  · intro e; rw [e]
theorem mn_lt6 {w : List Nat} {k : Nat} (h : mn_of w = some k) : k < 4 ∧ w.length ≤ 6 := by
  unfold mn_of at h
  by_cases a : w = [71, 69, 84]
  · rw [if_pos a] at h; cases h; rw [a]; decide
  · rw [if_neg a] at h
    by_cases b : w = [72, 69, 65, 68]
    · rw [if_pos b] at h; cases h; rw [b]; decide
    · rw [if_neg b] at h
      by_cases c : w = [80, 85, 84]
      · rw [if_pos c] at h; cases h; rw [c]; decide
      · rw [if_neg c] at h
        by_cases d : w = [68, 69, 76, 69, 84, 69]
        · rw [if_pos d] at h; cases h; rw [d]; decide
        · rw [if_neg d] at h; cases h
theorem sub_take {t : List Nat} {i : Nat} : tx_sub t 0 i = t.take i := by
  unfold tx_sub
  simp
def rl_ok (A : Nat → Nat) (li : List Nat) (G' : wo_W) : Prop := (jl_of li).1 = 0 → ∃ k, (jl_of li).2.1 = some k ∧ k < 4 ∧ wo_ei G' (A 907) 8 = nI k ∧ pt_ok (wo_el G' (A 908) 8) (wo_ei G' (A 909) 8) (jl_of li).2.2
section MD
variable {E : wo_E} {mc ms m c s : Nat} {G0 G G1 G2 : wo_W} {ow : Nat → Nat} {A : Nat → Nat} {P Q : Nat → Nat → Prop} {R li r u : List Nat} {S : Nat}
theorem rl_ok.no {G' : wo_W} (h : (jl_of li).1 = 400) : rl_ok A li G' := fun z => by rw [h] at z; cases z
theorem Ppr_k {f i : Nat} (z : Pk 916 f i) : Ppr f i := Or.inr (Or.inr (by have z : f = 916 := z; omega))
theorem Ppr_n {f i : Nat} (z : Pnm f i) : Ppr f i := by
  rcases z with z | ⟨z | z, z2⟩
  · exact Or.inr (Or.inr (by omega))
  · exact Or.inl ⟨Or.inr (Or.inl z), z2⟩
  · exact Or.inl ⟨Or.inr (Or.inr (Or.inl z)), z2⟩
theorem jl_400 {i : Nat} (hi : i ≤ li.length) (hno : ∀ x, x < i → li.getD x 0 ≠ 32) (hst : i = li.length ∨ i = 7 ∨ li.getD i 0 = 32) (h : ∀ k u, mn_of (li.take i) = some k → i + 1 < li.length → li.getD i 0 = 32 → li.getD (i + 1) 0 = 47 → de_of (tx_sub li (i + 1) li.length) = some u → False) : (jl_of li).1 = 400 := by
  unfold jl_of
  by_cases z : ix_of 32 li = li.length
  · rw [if_pos z]
  · rw [if_neg z]
    have hlt : ix_of 32 li < li.length := by have := ix_le 32 li; omega
    have hat := ix_lt_at li hlt
    have hle : i ≤ ix_of 32 li := Nat.le_of_not_lt (fun q => hno _ q hat)
    cases em : mn_of (tx_sub li 0 (ix_of 32 li)) with
    | none => rfl
    | some k =>
      cases ed : de_of (tx_sub li (ix_of 32 li + 1) li.length) with
      | none => rfl
      | some u =>
        exfalso
        have m1 := mn_lt6 em
        rw [tx_sub_len (by omega)] at m1
        have ei : i = ix_of 32 li := by
          rcases hst with q | q | q
          · omega
          · omega
          · apply Decidable.byContradiction
            intro y
            exact ix_be li i (by omega) q
        rw [← ei] at em ed
        rw [sub_take] at em
        have hl1 : i + 1 < li.length := by
          apply Decidable.byContradiction
          intro y
          rw [tx_sub_nil (by omega)] at ed
          cases ed
        have h47 : li.getD (i + 1) 0 = 47 := by
          unfold de_of at ed
          by_cases y0 : tx_sub li (i + 1) li.length = []
          · rw [if_pos y0] at ed; cases ed
          · rw [if_neg y0] at ed
            by_cases y : (tx_sub li (i + 1) li.length).getD 0 0 = 47
            · rw [tx_sub_at (by omega)] at y; exact y
            · rw [if_neg y] at ed; cases ed
        exact h k u em hl1 (by rw [ei]; exact hat) h47 ed
theorem sp_rq63 {Post : Int32 → wo_W → Prop} {i : Nat} (h : md_k E ow m A G) (hbb : ow_b E ow G) (hw : rw_at A G c R) (h0 : ∀ b ∈ R, 0 < b) (hc : c < 3) (hL : li.length ≤ 20) (hLR : li.length ≤ R.length) (hR : ∀ i, i < li.length → R.getD i 0 = li.getD i 0) (hi : i ≤ li.length) (hi7 : i ≤ 7) (hno : ∀ x, x < i → li.getD x 0 ≠ 32) (hst : i = li.length ∨ i = 7 ∨ li.getD i 0 = 32) (hp : ∀ G', mf E ow m A Ppr G G' → rl_ok A li G' → Post (nI (jl_of li).1) G') : pq_Md_requestLine_63 E mc ms Post G 0 0 m (nI c) (nI li.length) (pk_of (li.take i).reverse) (nI i) := by
  have v8 : vp_in (8 : Int32) 9 := vp_in_nI (n := 8) (by decide) (by decide)
  have c8 : (8 : Int32).toNatClampNeg = 8 := by decide
  have h42 := hw.2.1
  have lb : ∀ b ∈ li.take i, 0 < b ∧ b < 256 := fun b hb => by
    have hb := List.mem_of_mem_take hb
    obtain ⟨x, hx, ex⟩ := List.mem_iff_getElem.mp hb
    have e1 : R.getD x 0 = b := by rw [hR x hx, List.getD_eq_getElem?_getD, List.getElem?_eq_getElem hx]; exact ex
    rw [← e1]
    exact ⟨h0 _ (tx_mem (by omega)), hw.2.2.2 _ (tx_mem (by omega))⟩
  have wl : (li.take i).length ≤ 8 := by rw [List.length_take]; omega
  have h118 : pq_Md_requestLine_118 E mc ms Post G 0 0 m (nI c) (nI li.length) (nI i) (some (A 907)) 8 (wh_I (mn_of (li.take i))) := by
    obtain ⟨a1, a2, a3, a4⟩ := h.a (f := 907) (k := 66) (n := 9) (by decide)
    unfold pq_Md_requestLine_118 pq_Md_requestLine_175
    refine ⟨A 907, rfl, a2, by rw [a3]; exact v8, a4, fun G1 e1 => ?_⟩
    rw [c8] at e1
    have m1 : mf E ow m A Ppr G G1 := by rw [e1]; exact mf_sei h hbb (f := 907) (k := 66) (n := 9) (by decide) (Or.inl ⟨Or.inl rfl, rfl⟩)
    have hw1 : rw_at A G1 c R := ⟨by rw [m1.ei (f := 897) (k := 66) (n := 3) (by decide) (by unfold Ppr; omega)]; exact hw.1, h42, fun i hi => by rw [m1.ei (f := 896) (k := 66) (n := 12600) (by decide) (by unfold Ppr; omega)]; exact hw.2.2.1 i hi, hw.2.2.2⟩
    have v907 : wo_ei G1 (A 907) 8 = wh_I (mn_of (li.take i)) := by rw [e1, sei_at, if_pos rfl]
    refine ⟨m1.k.1, m1.k.rd (f := 907) (k := 66) (n := 9) (by decide) v8 ?_⟩
    rw [c8, v907]
    have bad : (∀ k u, mn_of (li.take i) = some k → i + 1 < li.length → li.getD i 0 = 32 → li.getD (i + 1) 0 = 47 → de_of (tx_sub li (i + 1) li.length) = some u → False) → ∀ G', mf E ow m A Ppr G1 G' → Post 400 G' := fun q G' m' => by
      have z := jl_400 hi hno hst q
      have := hp G' (m1.tr m') (rl_ok.no z)
      rw [z] at this
      exact this
    cases em : mn_of (li.take i) with
    | none =>
      exact ⟨fun _ => bad (fun k u z => by rw [em] at z; cases z) G1 (mf.rf m1.k m1.b), fun w => absurd (by decide) w⟩
    | some k =>
      have hk4 := (mn_lt6 em).1
      refine ⟨fun w => absurd w (nI_pos (by show k < _; omega)), fun _ => ?_⟩
      rw [nI_1]
      refine ⟨fun w => ?_, fun w => ?_⟩
      · have := (nI_leI (by omega) (by omega)).mp w
        exact bad (fun k u _ z => by omega) G1 (mf.rf m1.k m1.b)
      · have hl1 : i + 1 < li.length := Nat.lt_of_not_le (fun z => w (nI_le z (by omega)))
        obtain ⟨i1, i2, i3⟩ := rw_ix hw1 hc (i := i) (by omega)
        have hb1 : R.getD i 0 < 256 := hw.2.2.2 _ (tx_mem (by omega))
        have hb2 : R.getD (i + 1) 0 < 256 := hw.2.2.2 _ (tx_mem (by omega))
        rw [i1, nI_1]
        refine m1.k.rd (f := 896) (k := 66) (n := 12600) (by decide) i3 ?_
        rw [i2, hw1.2.2.1 i (by omega)]
        refine ⟨fun w => bad (fun k u _ _ z => absurd (by rw [hR i (by omega), z]; rfl) w) G1 (mf.rf m1.k m1.b), fun w => ?_⟩
        have h32 : li.getD i 0 = 32 := by rw [← hR i (by omega)]; exact (nI_eq (b := 32) (by omega) (by decide)).mp w
        refine m1.k.rd (f := 896) (k := 66) (n := 12600) (by decide) (vp_in_nI (by omega) (by decide)) ?_
        rw [nI_clamp (by omega), show 4200 * c + i + 1 = 4200 * c + (i + 1) by omega, hw1.2.2.1 (i + 1) (by omega)]
        refine ⟨fun w2 => ?_, fun w2 => bad (fun k u _ _ _ z => absurd (by rw [hR (i + 1) (by omega), z]; rfl) w2) G1 (mf.rf m1.k m1.b)⟩
        have h47 : li.getD (i + 1) 0 = 47 := by rw [← hR (i + 1) (by omega)]; exact (nI_eq (b := 47) (by omega) (by decide)).mp w2
        have tl : (tx_sub li (i + 1) li.length).length = li.length - (i + 1) := tx_sub_len (Nat.le_refl _)
        have t0 : (tx_sub li (i + 1) li.length).getD 0 0 = 47 := by rw [tx_sub_at (by omega)]; exact h47
        have eix : ix_of 32 li = i := ix_at 32 li i (by omega) h32 hno
        have ede : de_of (tx_sub li (i + 1) li.length) = de_go (tx_sub li (i + 1) li.length) ((tx_sub li (i + 1) li.length).length + 1) 0 [] := by
          unfold de_of
          rw [if_neg (fun z => by have := congrArg List.length z; rw [tl] at this; simp at this; omega), if_pos t0]
        refine ⟨(tx_sub li (i + 1) li.length).length + 1, sp_rqDec (G0 := G1) (S := i + 1) hc hL hLR hR rfl (by omega) _ 0 [] G1 (by omega) (Nat.zero_le _) (Nat.le_refl _) (fun b hb => (by cases hb)) (fun i hi => (by cases hi)) (mf.rf m1.k m1.b) hw1 (fun z G' m' => ?_) (fun u z G' m' k' l' b' => ?_)⟩
        · exact bad (fun k u _ _ _ _ q => by rw [ede, z] at q; cases q) G' (m'.mn (fun f i z => Ppr_k z))
        · have u47 : u.getD 0 0 = 47 := by
            rw [de_go, if_neg (by omega), t0, if_neg (by decide), if_neg (by decide)] at z
            obtain ⟨w, hw⟩ := de_pre _ _ _ _ z
            rw [hw]
            rfl
          have ej : jl_of li = (if 8 < (pa_of u).length then 414 else 0, some k, pa_of u) := by
            unfold jl_of
            rw [eix, if_neg (by omega), sub_take, em, ede, z]
          refine sp_normal m'.k m'.b k' (by omega) b' u47 (fun G'' m'' pt => ?_)
          have := hp G'' ((m1.tr (m'.mn (fun f i z => Ppr_k z))).tr (m''.mn (fun f i z => Ppr_n z)))
          rw [ej] at this
          refine this (fun q => ?_)
          rw [ej] at q ⊢
          have q8 : ¬ 8 < (pa_of u).length := fun y => by
            have q : (if 8 < (pa_of u).length then 414 else 0) = 0 := q
            rw [if_pos y] at q; cases q
          refine ⟨k, rfl, hk4, ?_, pt (by omega)⟩
          rw [m''.ei (f := 907) (k := 66) (n := 9) (by decide) (by unfold Pnm; omega), m'.ei (f := 907) (k := 66) (n := 9) (by decide) (fun (z : 907 = 916) => by cases z), v907, em]
          rfl
  have ce : ∀ cs : List Nat, (∀ b ∈ cs, 0 < b ∧ b < 256) → cs.length ≤ 8 → (lg_cmp (pk_of (li.take i).reverse) (pk_of cs.reverse) = 0 ↔ li.take i = cs) := fun cs h1 h2 => wd_eq lb h1 wl h2
  have c1 := ce [71, 69, 84] (by decide) (by decide)
  have c2 := ce [72, 69, 65, 68] (by decide) (by decide)
  have c3 := ce [80, 85, 84] (by decide) (by decide)
  have c4 := ce [68, 69, 76, 69, 84, 69] (by decide) (by decide)
  rw [show pk_of [71, 69, 84].reverse = 4670804 by decide] at c1
  rw [show pk_of [72, 69, 65, 68].reverse = 1212498244 by decide] at c2
  rw [show pk_of [80, 85, 84].reverse = 5264724 by decide] at c3
  rw [show pk_of [68, 69, 76, 69, 84, 69].reverse = 75064423044165 by decide] at c4
  unfold pq_Md_requestLine_63
  refine ⟨h.1, fun r2 hr2 => ?_⟩
  rw [(h.a (f := 907) (k := 66) (n := 9) (by decide)).1 r2 hr2]
  unfold mn_of at h118
  refine ⟨fun w1 => ⟨fun w2 => ⟨fun w3 => ⟨fun w4 => ?_, fun w4 => ?_⟩, fun w3 => ?_⟩, fun w2 => ?_⟩, fun w1 => ?_⟩
  · rw [if_neg (fun z => w1 (c1.mpr z)), if_neg (fun z => w2 (c2.mpr z)), if_neg (fun z => w3 (c3.mpr z)), if_neg (fun z => w4 (c4.mpr z))] at h118; exact h118
  · rw [if_neg (fun z => w1 (c1.mpr z)), if_neg (fun z => w2 (c2.mpr z)), if_neg (fun z => w3 (c3.mpr z)), if_pos (c4.mp w4)] at h118; exact h118
  · rw [if_neg (fun z => w1 (c1.mpr z)), if_neg (fun z => w2 (c2.mpr z)), if_pos (c3.mp w3)] at h118; exact h118
  · rw [if_neg (fun z => w1 (c1.mpr z)), if_pos (c2.mp w2)] at h118; exact h118
  · rw [if_pos (c1.mp w1)] at h118; exact h118
theorem sp_requestLine {Post : Int32 → wo_W → Prop} (h : md_k E ow m A G) (hbb : ow_b E ow G) (hw : rw_at A G c R) (h0 : ∀ b ∈ R, 0 < b) (hc : c < 3) (hL : li.length ≤ 20) (hLR : li.length ≤ R.length) (hR : ∀ i, i < li.length → R.getD i 0 = li.getD i 0) (hp : ∀ G', mf E ow m A Ppr G G' → rl_ok A li G' → Post (nI (jl_of li).1) G') : pq_Md_requestLine E mc ms Post G m (nI c) (nI li.length) := by
  have h42 := hw.2.1
  have key : ∀ (d i : Nat), i + d = min li.length 7 → (∀ x, x < i → li.getD x 0 ≠ 32) → pq_Md_requestLine_5 E mc ms Post (d + 1) G 0 0 m (nI c) (nI li.length) (pk_of (li.take i).reverse) (nI i) := by
    intro d
    induction d with
    | zero =>
      intro i hi hno
      have fin : (i = li.length ∨ i = 7 ∨ li.getD i 0 = 32) → pq_Md_requestLine_63 E mc ms Post G 0 0 m (nI c) (nI li.length) (pk_of (li.take i).reverse) (nI i) := fun q => sp_rq63 h hbb hw h0 hc hL hLR hR (by omega) (by omega) hno q hp
      unfold pq_Md_requestLine_5
      refine ⟨fun w => fin (by have := (nI_leI (by omega) (by omega)).mp w; omega), fun w => ⟨fun w2 => fin (by have := (nI_leI (a := 7) (by decide) (by omega)).mp w2; omega), fun w2 => ?_⟩⟩
      have y1 : ¬ li.length ≤ i := fun z => w (nI_le z (by omega))
      have y2 : ¬ 7 ≤ i := fun z => w2 (nI_le (a := 7) z (by omega))
      omega
    | succ d ih =>
      intro i hi hno
      have fin : (i = li.length ∨ i = 7 ∨ li.getD i 0 = 32) → pq_Md_requestLine_63 E mc ms Post G 0 0 m (nI c) (nI li.length) (pk_of (li.take i).reverse) (nI i) := fun q => sp_rq63 h hbb hw h0 hc hL hLR hR (by omega) (by omega) hno q hp
      obtain ⟨i1, i2, i3⟩ := rw_ix hw hc (i := i) (by omega)
      have hb : R.getD i 0 < 256 := hw.2.2.2 _ (tx_mem (by omega))
      unfold pq_Md_requestLine_5
      rw [i1]
      refine ⟨fun w => absurd w (nI_ge (by omega) (by omega)), fun _ => ⟨fun w => absurd w (nI_ge (b := 7) (by omega) (by decide)), fun _ => ⟨h.1, h.rd (f := 896) (k := 66) (n := 12600) (by decide) i3 ?_⟩⟩⟩
      rw [i2, hw.2.2.1 i (by omega)]
      refine ⟨fun w => fin (Or.inr (Or.inr (by rw [← hR i (by omega)]; exact (nI_eq (b := 32) (by omega) (by decide)).mp w))), fun w => h.rd (f := 896) (k := 66) (n := 12600) (by decide) i3 ?_⟩
      rw [hw.2.2.1 i (by omega), nI_1, wd_step hb]
      have := ih (i + 1) (by omega) (fun x hx => ?_)
      · rw [tk_sc (by omega), List.reverse_append, ← hR i (by omega)] at this
        exact this
      · by_cases z : x = i
        · rw [z, ← hR i (by omega)]; exact fun y => w (by rw [y]; rfl)
        · exact hno x (by omega)
  unfold pq_Md_requestLine pq_Md_requestLine_0
  exact ⟨_, key (min li.length 7) 0 (by omega) (fun x hx => by omega)⟩
end MD
