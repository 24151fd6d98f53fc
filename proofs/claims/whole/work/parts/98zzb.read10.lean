def Phd : Nat → Nat → Prop := fun f i => (f = 910 ∨ f = 911) ∧ 64 ≤ i ∨ 914 ≤ f ∧ f ≤ 915
def hd_at (A : Nat → Nat) (m : Nat) (G : wo_W) (ln : Option Nat) (ch : Bool) (vs : vsT) : Prop := wo_gi G 914 m = wh_I ln ∧ (∀ n, ln = some n → n < 10 ^ 8) ∧ wo_gi G 915 m = bo_I ch ∧ ∀ h, h < 8 → vo_at (wo_ei G (A 911) (64 + h)) (wo_el G (A 910) (64 + h)) (vs h)
def jh_L (ln : Option Nat) (ch : Bool) (vs : vsT) : Option Nat → Nat × Option Nat × Bool × vsT
  | none => (400, ln, ch, vs)
  | some n => (0, some n, ch, vs)
theorem hi_lt {l h : Nat} (e : hi_of l = some h) : h < 8 := by
  unfold hi_of at e
  repeat' split at e
  all_goals first | (cases e; decide) | cases e
theorem ih_all {v : List Nat} : ih_go v = true ↔ ∀ x, x < v.length → 32 ≤ v.getD x 0 ∧ v.getD x 0 ≤ 126 := by
  unfold ih_go
  rw [List.all_eq_true]
  constructor
  · intro h x hx
    have := h _ (tx_mem hx)
    simpa using this
  · intro h b hb
    obtain ⟨x, hx, ex⟩ := List.mem_iff_getElem.mp hb
    have := h x hx
    rw [List.getD_eq_getElem?_getD, List.getElem?_eq_getElem hx] at this
    simp at this
    rw [ex] at this
    simpa using this
section MD
variable {E : wo_E} {mc ms m c s : Nat} {G0 G G1 G2 : wo_W} {ow : Nat → Nat} {A : Nat → Nat} {P Q : Nat → Nat → Prop} {R li v : List Nat} {p : Nat} {ln : Option Nat} {ch : Bool} {vs : vsT}
theorem Phd_v {f h : Nat} (hf : f = 910 ∨ f = 911) : Phd f (64 + h) := Or.inl ⟨hf, Nat.le_add_right _ _⟩
theorem Phd_g {f i : Nat} (h1 : 914 ≤ f) (h2 : f ≤ 915) : Phd f i := Or.inr ⟨h1, h2⟩
theorem sp_hd215 {Post : Int32 → wo_W → Prop} {l : Nat} (h : md_k E ow m A G) (hbb : ow_b E ow G) (hl : l < 256) (hv : v.length ≤ 8) (hvb : ∀ b ∈ v, b < 256) (hh : hd_at A m G ln ch vs) (hpT : l = 84 → ∀ G', mf E ow m A Phd G G' → hd_at A m G' ln true vs → Post (nI (if v = [99] then 0 else 400)) G') (hp : l ≠ 84 → ∀ G', mf E ow m A Phd G G' → hd_at A m G' ln ch (sv_of vs l v) → Post 0 G') : pq_Md_header_215 E mc ms Post G 0 0 m (nI l) (pk_of v) (nI v.length) := by
  obtain ⟨g1, g2, g3, g4⟩ := hh
  have q : ∀ k : Nat, k < 256 → (nI l = nI k ↔ l = k) := fun k hk => nI_eq (by omega) (by omega)
  have none' : l ≠ 84 → hi_of l = none → pq_Md_header_341 E mc ms Post G 0 0 m (pk_of v) (nI v.length) (-1) := fun n84 e => by
    unfold pq_Md_header_341 pq_Md_header_372
    refine ⟨fun _ => ?_, fun w => absurd (by decide) w⟩
    have := hp n84 G (mf.rf h hbb)
    unfold sv_of at this
    rw [e] at this
    exact this ⟨g1, g2, g3, g4⟩
  have some' : ∀ k, l ≠ 84 → hi_of l = some k → pq_Md_header_341 E mc ms Post G 0 0 m (pk_of v) (nI v.length) (nI k) := fun k n84 e => by
    have hk := hi_lt e
    unfold pq_Md_header_341 pq_Md_header_372
    rw [show (64 : Int32) = nI 64 from rfl, nI_add]
    refine ⟨fun w => absurd w (nI_pos (by omega)), fun _ => ⟨h.1, h.wr (f := 910) (k := 73) (n := 72) (by decide) (vp_in_nI (by omega) (by decide)) (fun G1 e1 => ?_)⟩⟩
    rw [nI_clamp (by omega)] at e1
    have m1 : mf E ow m A Phd G G1 := by rw [e1]; exact mf_sel h hbb (f := 910) (k := 73) (n := 72) (by decide) (Phd_v (Or.inl rfl))
    refine m1.k.wr (f := 911) (k := 66) (n := 72) (by decide) (vp_in_nI (by omega) (by decide)) (fun G2 e2 => ?_)
    rw [nI_clamp (by omega)] at e2
    have m2 : mf E ow m A Phd G1 G2 := by rw [e2]; exact mf_sei m1.k m1.b (f := 911) (k := 66) (n := 72) (by decide) (Phd_v (Or.inr rfl))
    refine hp n84 G2 (m1.tr m2) ⟨?_, g2, ?_, fun x hx => ?_⟩
    · rw [show wo_gi G2 914 m = wo_gi G 914 m by rw [e2, e1]; rfl]; exact g1
    · rw [show wo_gi G2 915 m = wo_gi G 915 m by rw [e2, e1]; rfl]; exact g3
    · have i1 : wo_ei G2 (A 911) (64 + x) = if 64 + x = 64 + k then nI v.length else wo_ei G (A 911) (64 + x) := by
        rw [e2, sei_at]
        congr 1
        rw [e1]; rfl
      have i2 : wo_el G2 (A 910) (64 + x) = if 64 + x = 64 + k then pk_of v else wo_el G (A 910) (64 + x) := by
        rw [show wo_el G2 (A 910) (64 + x) = wo_el G1 (A 910) (64 + x) by rw [e2]; rfl, e1, sel_at]
      rw [i1, i2]
      unfold sv_of
      rw [e]
      by_cases z : x = k
      · subst z
        rw [if_pos rfl, if_pos rfl]
        show vo_at _ _ (if x = x then some v else vs x)
        rw [if_pos rfl]
        exact ⟨rfl, rfl, hv, hvb⟩
      · rw [if_neg (by omega), if_neg (by omega)]
        show vo_at _ _ (if x = k then some v else vs x)
        rw [if_neg z]
        exact g4 x hx
  unfold pq_Md_header_215
  refine ⟨fun w => ?_, fun w => ?_⟩
  · have n84 : l ≠ 84 := fun z => w ((q 84 (by decide)).mpr z)
    refine ⟨fun w1 => ⟨fun w2 => ⟨fun w3 => ⟨fun w4 => ⟨fun w5 => ⟨fun w6 => ⟨fun w7 => ⟨fun w8 => ?_, fun w8 => ?_⟩, fun w7 => ?_⟩, fun w6 => ?_⟩, fun w5 => ?_⟩, fun w4 => ?_⟩, fun w3 => ?_⟩, fun w2 => ?_⟩, fun w1 => ?_⟩
    · refine none' n84 ?_
      unfold hi_of
      rw [if_neg (fun z => w1 ((q 77 (by decide)).mpr z)), if_neg (fun z => w2 ((q 78 (by decide)).mpr z)), if_neg (fun z => w3 ((q 82 (by decide)).mpr z)), if_neg (fun z => w4 ((q 73 (by decide)).mpr z)), if_neg (fun z => w5 ((q 67 (by decide)).mpr z)), if_neg (fun z => w6 ((q 86 (by decide)).mpr z)), if_neg (fun z => w7 ((q 75 (by decide)).mpr z)), if_neg (fun z => w8 ((q 80 (by decide)).mpr z))]
    · exact some' 7 n84 (by rw [(q 80 (by decide)).mp w8]; rfl)
    · exact some' 6 n84 (by rw [(q 75 (by decide)).mp w7]; rfl)
    · exact some' 5 n84 (by rw [(q 86 (by decide)).mp w6]; rfl)
    · exact some' 4 n84 (by rw [(q 67 (by decide)).mp w5]; rfl)
    · exact some' 3 n84 (by rw [(q 73 (by decide)).mp w4]; rfl)
    · exact some' 2 n84 (by rw [(q 82 (by decide)).mp w3]; rfl)
    · exact some' 1 n84 (by rw [(q 78 (by decide)).mp w2]; rfl)
    · exact some' 0 n84 (by rw [(q 77 (by decide)).mp w1]; rfl)
  · have e84 : l = 84 := (q 84 (by decide)).mp w
    refine ⟨h.1, h.2.1, tx_ok1, fun G1 e1 => ?_⟩
    have m1 : mf E ow m A Phd G G1 := by rw [e1]; exact mf_si h hbb (Phd_g (by decide) (by decide))
    have := hpT e84 G1 m1 ⟨by rw [show wo_gi G1 914 m = wo_gi G 914 m by rw [e1]; simp [wo_gi, wo_si, wo_u2]]; exact g1, g2, by rw [e1, si_at]; rfl, fun x hx => by rw [e1]; exact g4 x hx⟩
    unfold pq_Md_header_246 pq_Md_header_249
    refine ⟨fun w1 => ?_, fun w1 => ⟨fun w2 => ?_, fun w2 => ?_⟩⟩
    · rw [if_neg (fun z => w1 (by rw [z]; rfl))] at this; exact this
    · rw [if_neg (fun z => w2 ((lg_cmp_eq _ _).mpr (by rw [z]; decide)))] at this; exact this
    · have e1 : v.length = 1 := (nI_eq (b := 1) (by omega) (by decide)).mp w1
      rw [if_pos ((pk_1 hvb e1 (b := 99) (by decide)).mp ((lg_cmp_eq _ _).mp w2))] at this
      exact this
theorem sp_header {Post : Int32 → wo_W → Prop} {hd : Nat} (h : md_k E ow m A G) (hbb : ow_b E ow G) (hw : rw_at A G c R) (hc : c < 3) (hhd : hd < 8) (hL : li.length ≤ 20) (hL0 : 0 < li.length) (hLR : p + li.length ≤ R.length) (hR : ∀ i, i < li.length → R.getD (p + i) 0 = li.getD i 0) (hh : hd_at A m G ln ch vs) (hp : ∀ G', mf E ow m A Phd G G' → ((jh_of li hd ln ch vs).1 = 0 → hd_at A m G' (jh_of li hd ln ch vs).2.1 (jh_of li hd ln ch vs).2.2.1 (jh_of li hd ln ch vs).2.2.2) → Post (nI (jh_of li hd ln ch vs).1) G') : pq_Md_header E mc ms Post G m (nI c) (nI p) (nI (p + li.length)) := by
  have h42 := hw.2.1
  have lib : ∀ i, i < li.length → li.getD i 0 < 256 := fun i hi => by rw [← hR i hi]; exact hw.2.2.2 _ (tx_mem (by omega))
  obtain ⟨i1, i2, i3⟩ := rw_ix hw hc (i := p) (by omega)
  have r0 : wo_ei G (A 896) (4200 * c + p) = nI (li.getD 0 0) := by
    rw [hw.2.2.1 p (by omega)]
    have := hR 0 hL0
    rw [Nat.add_zero] at this
    rw [this]
  have b0 := lib 0 hL0
  have bad : ih_of li = false → Post 400 G := fun z => by
    have e : (jh_of li hd ln ch vs).1 = 400 := by unfold jh_of; rw [if_neg (by omega), if_pos z]
    have := hp G (mf.rf h hbb) (fun q => by rw [e] at q; cases q)
    rw [e] at this
    exact this
  unfold pq_Md_header pq_Md_header_0 pq_Md_header_54
  rw [i1]
  refine ⟨h.1, h.rd (f := 896) (k := 66) (n := 12600) (by decide) i3 ?_⟩
  rw [i2, r0, pk_sub (by omega), show p + li.length - p = li.length by omega, nI_1]
  have q65 : nI (li.getD 0 0) < 65 ↔ li.getD 0 0 < 65 := nI_ltI (b := 65) (by omega) (by decide)
  have q90 : 90 < nI (li.getD 0 0) ↔ 90 < li.getD 0 0 := nI_ltI (a := 90) (by decide) (by omega)
  have ihb : ¬ (2 ≤ li.length ∧ 65 ≤ li.getD 0 0 ∧ li.getD 0 0 ≤ 90 ∧ li.getD 1 0 = 58) → ih_of li = false := fun z => by unfold ih_of; rw [if_neg z]
  refine ⟨fun w => bad (ihb (fun z => by have := (nI_ltI (b := 2) (by omega) (by decide)).mp w; omega)), fun w1 => ⟨fun w => bad (ihb (fun z => by have := q65.mp w; omega)), fun w2 => ⟨fun w => bad (ihb (fun z => by have := q90.mp w; omega)), fun w3 => ?_⟩⟩⟩
  have l2 : 2 ≤ li.length := Nat.le_of_not_lt (fun z => w1 (nI_lt (b := 2) z (by decide)))
  have b1 := lib 1 (by omega)
  refine h.rd (f := 896) (k := 66) (n := 12600) (by decide) (vp_in_nI (by omega) (by decide)) ?_
  rw [nI_clamp (by omega), show 4200 * c + p + 1 = 4200 * c + (p + 1) by omega, hw.2.2.1 (p + 1) (by omega), hR 1 (by omega)]
  refine ⟨fun w4 => ?_, fun w => bad (ihb (fun z => w (by rw [z.2.2.2]; rfl)))⟩
  have hpre : 2 ≤ li.length ∧ 65 ≤ li.getD 0 0 ∧ li.getD 0 0 ≤ 90 ∧ li.getD 1 0 = 58 := ⟨l2, Nat.le_of_not_lt (fun z => w2 (q65.mpr z)), Nat.le_of_not_lt (fun z => w3 (q90.mpr z)), (nI_eq (b := 58) (by omega) (by decide)).mp w4⟩
  have eih : ih_of li = ih_go (li.drop 2) := if_pos hpre
  have ed : li.drop 2 = tx_sub li 2 li.length := by unfold tx_sub; rw [List.take_of_length_le (by rw [List.length_drop]; omega)]
  rw [ed] at eih
  have vl : (tx_sub li 2 li.length).length = li.length - 2 := tx_sub_len (Nat.le_refl _)
  have va : ∀ i, i < li.length - 2 → (tx_sub li 2 li.length).getD i 0 = li.getD (2 + i) 0 := fun i hi => tx_sub_at hi
  have vb : ∀ b ∈ tx_sub li 2 li.length, b < 256 := fun b hb => by
    obtain ⟨x, hx, ex⟩ := List.mem_iff_getElem.mp (tx_sub_mem hb)
    have := lib x hx
    rw [List.getD_eq_getElem?_getD, List.getElem?_eq_getElem hx] at this
    have this : li[x] < 256 := this
    rw [ex] at this
    exact this
  have ejh : jh_of li hd ln ch vs = if ih_of li = false then (400, ln, ch, vs) else if 8 < li.length - 2 then (431, ln, ch, vs) else if li.getD 0 0 = 76 then jh_L ln ch vs (tl_of (tx_sub li 2 li.length) ln) else if li.getD 0 0 = 84 then (if tx_sub li 2 li.length = [99] then 0 else 400, ln, true, vs) else (0, ln, ch, sv_of vs (li.getD 0 0) (tx_sub li 2 li.length)) := by
    unfold jh_of
    rw [if_neg (by omega)]
    generalize tl_of (tx_sub li 2 li.length) ln = o
    cases o <;> rfl
  rw [show (2 : Int32) = nI 2 from rfl, pk_sub l2, ← vl]
  generalize hgv : tx_sub li 2 li.length = v at *
  generalize hgl : li.getD 0 0 = l at *
  -- behind the loop
  have fin : (∀ x, x < v.length → 32 ≤ v.getD x 0 ∧ v.getD x 0 ≤ 126) → ((nI v.length ≤ 8 → ((¬ nI l = 76 → pq_Md_header_215 E mc ms Post G 0 0 m (nI l) (pk_of (v.take (min v.length 8))) (nI v.length)) ∧ (nI l = 76 → ((nI v.length ≤ 2 → ∃ mc1 ms2 : Nat, (0 + mc1) ≤ mc ∧ (0 + ms2) ≤ ms ∧ pq_Md_digits E mc1 ms2 (fun v4 G3 => pq_Md_header_182 E mc ms Post G3 (0 + mc1) (0 + ms2) m (nI l) (pk_of (v.take (min v.length 8))) (nI v.length) v4) G (pk_of (v.take (min v.length 8))) 0 (nI v.length)) ∧ (¬ nI v.length ≤ 2 → pq_Md_header_182 E mc ms Post G 0 0 m (nI l) (pk_of (v.take (min v.length 8))) (nI v.length) (-1)))))) ∧ (¬ nI v.length ≤ 8 → Post 431 G)) := by
    intro hall
    have hih : ¬ ih_of li = false := by rw [eih, ih_all.mpr hall]; decide
    rw [if_neg hih] at ejh
    refine ⟨fun w => ?_, fun w => ?_⟩
    · have v8 : v.length ≤ 8 := (nI_leI (b := 8) (by omega) (by decide)).mp w
      rw [if_neg (by omega)] at ejh
      rw [Nat.min_eq_left v8, List.take_length]
      refine ⟨fun w5 => ?_, fun w5 => ?_⟩
      · have n76 : l ≠ 76 := fun z => w5 (by rw [z]; rfl)
        rw [if_neg n76] at ejh
        refine sp_hd215 h hbb b0 v8 vb hh (fun z G' m' hh' => ?_) (fun z G' m' hh' => ?_)
        · rw [if_pos z] at ejh
          rw [ejh] at hp
          exact hp G' m' (fun _ => hh')
        · rw [if_neg z] at ejh
          rw [ejh] at hp
          exact hp G' m' (fun _ => hh')
      · have e76 : l = 76 := (nI_eq (b := 76) (by omega) (by decide)).mp w5
        rw [if_pos e76] at ejh
        have h182 : ∀ o : Option Nat, (if 2 < v.length then none else wh_of v) = o → pq_Md_header_182 E mc ms Post G 0 0 m (nI l) (pk_of v) (nI v.length) (wh_I o) := by
          intro o eo
          unfold tl_of at ejh
          rw [eo] at ejh
          unfold pq_Md_header_182 pq_Md_header_205
          cases o with
          | none =>
            rw [ejh] at hp
            exact ⟨fun _ => hp G (mf.rf h hbb) (fun q => by cases q), fun w => absurd (by decide) w⟩
          | some n =>
            have hn8 : n < 10 ^ 8 := by
              by_cases z : 2 < v.length
              · rw [if_pos z] at eo; cases eo
              · rw [if_neg z] at eo; exact wh_b (by omega) eo
            have h209 : (ln = none ∨ ln = some n) → pq_Md_header_209 E mc ms Post G 0 0 m (nI l) (pk_of v) (nI v.length) (nI n) := fun q => by
              have et : tl_m ln (some n) = some n := if_pos q
              rw [et] at ejh
              unfold pq_Md_header_209
              refine ⟨h.1, h.2.1, fun G1 e1 => ?_⟩
              have m1 : mf E ow m A Phd G G1 := by rw [e1]; exact mf_si h hbb (Phd_g (by decide) (by decide))
              have hh1 : hd_at A m G1 (some n) ch vs := ⟨by rw [e1, si_at]; rfl, fun k ek => (by cases ek; exact hn8), by rw [show wo_gi G1 915 m = wo_gi G 915 m by rw [e1]; simp [wo_gi, wo_si, wo_u2]]; exact hh.2.2.1, fun x hx => by rw [e1]; exact hh.2.2.2 x hx⟩
              rw [ejh] at hp
              refine sp_hd215 m1.k m1.b b0 v8 vb hh1 (fun z => absurd z (by omega)) (fun z G' m' hh' => ?_)
              rw [e76] at hh'
              exact hp G' (m1.tr m') (fun _ => hh')
            refine ⟨fun w => absurd w (nI_pos (by omega)), fun _ => ⟨h.1, ?_⟩⟩
            rw [hh.1]
            cases eln : ln with
            | none => exact ⟨fun _ => h209 (Or.inl eln), fun w => absurd (by decide) w⟩
            | some k =>
              have hk8 := hh.2.1 k eln
              refine ⟨fun w => absurd w (nI_pos (by omega)), fun _ => ⟨fun w => h209 (Or.inr (by rw [eln, (nI_eq (by omega) (by omega)).mp w])), fun w => ?_⟩⟩
              have et : tl_m ln (some n) = none := if_neg (fun q => by
                rcases q with q | q
                · rw [eln] at q; cases q
                · rw [eln] at q; cases q; exact w rfl)
              rw [et] at ejh
              rw [ejh] at hp
              exact hp G (mf.rf h hbb) (fun q => by cases q)
        refine ⟨fun w6 => ⟨0, 0, Nat.zero_le _, Nat.zero_le _, ?_⟩, fun w6 => ?_⟩
        · have v2 : v.length ≤ 2 := (nI_leI (b := 2) (by omega) (by decide)).mp w6
          refine sp_mdigits (p := 0) vb v8 (Nat.le_refl _) (by decide) ?_
          rw [tx_sub_all]
          exact h182 (wh_of v) (if_neg (by omega))
        · have v2 : 2 < v.length := Nat.lt_of_not_le (fun z => w6 (nI_le (b := 2) z (by decide)))
          exact h182 none (if_pos v2)
    · have v8 : 8 < v.length := Nat.lt_of_not_le (fun z => w (nI_le (b := 8) z (by decide)))
      rw [if_pos (by omega)] at ejh
      rw [ejh] at hp
      exact hp G (mf.rf h hbb) (fun q => by cases q)
  have key : ∀ (d i : Nat), i + d = v.length → (∀ x, x < i → 32 ≤ v.getD x 0 ∧ v.getD x 0 ≤ 126) → pq_Md_header_71 E mc ms Post (d + 1) G 0 0 m (nI c) (nI p) (nI l) (pk_of (v.take (min i 8))) (nI v.length) (nI i) := by
    intro d
    induction d with
    | zero =>
      intro i hi hall
      have e0 : i = v.length := by omega
      subst e0
      unfold pq_Md_header_71
      exact ⟨fun _ => fin hall, fun w => absurd (nI_le (Nat.le_refl _) (by omega)) w⟩
    | succ d ih =>
      intro i hi hall
      unfold pq_Md_header_71 pq_Md_header_111 pq_Md_header_137
      have ex : (4200 : Int32) * nI c + nI p + 2 + nI i = nI (4200 * c + (p + (2 + i))) := by
        rw [i1, nI_c2, nI_add]
        congr 1
        omega
      rw [ex]
      have er : wo_ei G (A 896) (nI (4200 * c + (p + (2 + i)))).toNatClampNeg = nI (v.getD i 0) := by
        rw [nI_clamp (by omega), hw.2.2.1 _ (by omega), hR (2 + i) (by omega), va i (by omega)]
      have bi := vb _ (tx_mem (t := v) (i := i) (by omega))
      have q32 : nI (v.getD i 0) < 32 ↔ v.getD i 0 < 32 := nI_ltI (b := 32) (by omega) (by decide)
      have q126 : nI (v.getD i 0) ≤ 126 ↔ v.getD i 0 ≤ 126 := nI_leI (b := 126) (by omega) (by decide)
      have no : ¬ (32 ≤ v.getD i 0 ∧ v.getD i 0 ≤ 126) → Post 400 G := fun z => bad (by
        rw [eih]
        apply Bool.eq_false_iff.mpr
        intro y
        exact z (ih_all.mp y i (by omega)))
      refine ⟨fun w => absurd w (nI_ge (by omega) (by omega)), fun _ => ⟨h.1, h.rd (f := 896) (k := 66) (n := 12600) (by decide) (vp_in_nI (by omega) (by decide)) ?_⟩⟩
      rw [er]
      refine ⟨fun w => no (fun z => by have := q32.mp w; omega), fun w => ⟨fun w2 => ?_, fun w2 => no (fun z => w2 (q126.mpr z.2))⟩⟩
      have hall2 : ∀ x, x < i + 1 → 32 ≤ v.getD x 0 ∧ v.getD x 0 ≤ 126 := fun x hx => by
        by_cases z : x = i
        · rw [z]; exact ⟨Nat.le_of_not_lt (fun y => w (q32.mpr y)), q126.mp w2⟩
        · exact hall x (by omega)
      have ih := ih (i + 1) (by omega) hall2
      rw [nI_1]
      refine ⟨fun w3 => ?_, fun w3 => ?_⟩
      · have h8 : 8 ≤ i := (nI_leI (a := 8) (by decide) (by omega)).mp w3
        rw [Nat.min_eq_right (by omega)] at ih
        rw [Nat.min_eq_right h8, Int64.or_zero]
        exact ih
      · have h8 : i < 8 := Nat.lt_of_not_le (fun z => w3 (nI_le (a := 8) z (by omega)))
        rw [Nat.min_eq_left (by omega), tk_sc (by omega)] at ih
        have lt : (v.take i).length = i := by rw [List.length_take]; omega
        have po := pk_or (t := v.take i) (b := v.getD i 0) (fun d hd => vb d (List.mem_of_mem_take hd)) (by omega) bi
        rw [lt] at po
        rw [Nat.min_eq_left (by omega), show (8 : Int32) = nI 8 from rfl, pk_mul, po]
        exact ih
  exact ⟨_, key v.length 0 (by omega) (fun x hx => by omega)⟩
end MD
