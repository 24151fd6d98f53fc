def PF (c : Nat) : Nat → Nat → Prop := fun f i => f = 899 ∧ i / 640 = c ∨ f = 900 ∧ i = c ∨ f = 901 ∧ i / 384 = c ∨ f = 902 ∧ i / 4 = c ∨ f = 903 ∧ i = c ∨ f = 904 ∧ i = c
theorem PF_C {c f i : Nat} (h : PF c f i) : PC c f i := by unfold PF at h; unfold PC; omega
theorem nI_mod4 {t : Nat} (ht : t < 2 ^ 31) : nI t - nI t / 4 * 4 = nI (t % 4) := by
  rw [show (4 : Int32) = nI 4 from rfl, pk_div ht (by decide) (by decide), pk_mul, pk_sub (by omega)]
  congr 1
  omega
theorem nI_lin {a b c : Nat} : nI a * nI b + nI c = nI (a * b + c) := by rw [pk_mul, nI_add]
section MD
variable {E : wo_E} {mc ms m c s : Nat} {G0 G G1 G2 : wo_W} {ow : Nat → Nat} {A : Nat → Nat} {F K : Nat → Prop} {u : List Nat} {P Q : Nat → Nat → Prop} {raw out out' : List Nat} {sh : Bool} {nh na na' : Nat} {an an' : Nat → Option (List Nat)}
theorem mk_o (hk : mk A G c raw sh nh na out an) (h : mf E ow m A P G G1) (hP : ∀ f i, P f i → f = 899 ∨ f = 900) (h1 : wo_ei G1 (A 900) c = nI out'.length ∧ out'.length ≤ 640 ∧ ∀ i, i < out'.length → wo_ei G1 (A 899) (640 * c + i) = nI (out'.getD i 0)) : mk A G1 c raw sh nh na out' an := by
  have nP : ∀ f i, f ≠ 899 → f ≠ 900 → ¬ P f i := fun f i q1 q2 z => (hP f i z).elim q1 q2
  obtain ⟨⟨a1, a2, a3⟩, a4, ⟨a5, a6, a7⟩, ⟨a8, a9, a10, a11, a12⟩, a13⟩ := hk
  refine ⟨⟨?_, a2, fun i hi => ?_⟩, ?_, h1, ⟨?_, ?_, a10, a11, a12⟩, fun t h1 h2 => (a13 t h1 h2).mf h (nP _ _ (by decide) (by decide)) (fun i hi => nP _ _ (by decide) (by decide))⟩
  · rw [h.ei (k := 66) (n := 3) (by decide) (nP _ _ (by decide) (by decide))]; exact a1
  · rw [h.ei (k := 66) (n := 12600) (by decide) (nP _ _ (by decide) (by decide))]; exact a3 i hi
  · rw [h.ei (k := 72) (n := 3) (by decide) (nP _ _ (by decide) (by decide))]; exact a4
  · rw [h.ei (k := 66) (n := 3) (by decide) (nP _ _ (by decide) (by decide))]; exact a8
  · rw [h.ei (k := 66) (n := 3) (by decide) (nP _ _ (by decide) (by decide))]; exact a9
theorem mk_p (hk : mk A G c raw sh nh na out an) (h : mf E ow m A P G G1) (hP : ∀ f i, P f i → f = 901 ∨ f = 902) (h1 : ∀ t, na ≤ t → t < nh → po_at A G (4 * c + t % 4) (an t) → po_at A G1 (4 * c + t % 4) (an' t)) : mk A G1 c raw sh nh na out an' := by
  have nP : ∀ f i, f ≠ 901 → f ≠ 902 → ¬ P f i := fun f i q1 q2 z => (hP f i z).elim q1 q2
  obtain ⟨⟨a1, a2, a3⟩, a4, ⟨a5, a6, a7⟩, ⟨a8, a9, a10, a11, a12⟩, a13⟩ := hk
  refine ⟨⟨?_, a2, fun i hi => ?_⟩, ?_, ⟨?_, a6, fun i hi => ?_⟩, ⟨?_, ?_, a10, a11, a12⟩, fun t q1 q2 => h1 t q1 q2 (a13 t q1 q2)⟩
  · rw [h.ei (k := 66) (n := 3) (by decide) (nP _ _ (by decide) (by decide))]; exact a1
  · rw [h.ei (k := 66) (n := 12600) (by decide) (nP _ _ (by decide) (by decide))]; exact a3 i hi
  · rw [h.ei (k := 72) (n := 3) (by decide) (nP _ _ (by decide) (by decide))]; exact a4
  · rw [h.ei (k := 66) (n := 3) (by decide) (nP _ _ (by decide) (by decide))]; exact a5
  · rw [h.ei (k := 66) (n := 1920) (by decide) (nP _ _ (by decide) (by decide))]; exact a7 i hi
  · rw [h.ei (k := 66) (n := 3) (by decide) (nP _ _ (by decide) (by decide))]; exact a8
  · rw [h.ei (k := 66) (n := 3) (by decide) (nP _ _ (by decide) (by decide))]; exact a9
theorem mk_n {nh' : Nat} (hk : mk A G c raw sh nh na out an) (h : mf E ow m A P G G1) (hP : ∀ f i, P f i → f = 903 ∨ f = 904) (h1 : wo_ei G1 (A 903) c = nI na' ∧ wo_ei G1 (A 904) c = nI (nh' - na') ∧ na' ≤ nh' ∧ nh' ≤ na' + 4 ∧ nh' ≤ 20) (h2 : ∀ t, na' ≤ t → t < nh' → na ≤ t ∧ t < nh) : mk A G1 c raw sh nh' na' out an := by
  have nP : ∀ f i, f ≠ 903 → f ≠ 904 → ¬ P f i := fun f i q1 q2 z => (hP f i z).elim q1 q2
  obtain ⟨⟨a1, a2, a3⟩, a4, ⟨a5, a6, a7⟩, ⟨a8, a9, a10, a11, a12⟩, a13⟩ := hk
  refine ⟨⟨?_, a2, fun i hi => ?_⟩, ?_, ⟨?_, a6, fun i hi => ?_⟩, h1, fun t q1 q2 => (a13 t (h2 t q1 q2).1 (h2 t q1 q2).2).mf h (nP _ _ (by decide) (by decide)) (fun i hi => nP _ _ (by decide) (by decide))⟩
  · rw [h.ei (k := 66) (n := 3) (by decide) (nP _ _ (by decide) (by decide))]; exact a1
  · rw [h.ei (k := 66) (n := 12600) (by decide) (nP _ _ (by decide) (by decide))]; exact a3 i hi
  · rw [h.ei (k := 72) (n := 3) (by decide) (nP _ _ (by decide) (by decide))]; exact a4
  · rw [h.ei (k := 66) (n := 3) (by decide) (nP _ _ (by decide) (by decide))]; exact a5
  · rw [h.ei (k := 66) (n := 1920) (by decide) (nP _ _ (by decide) (by decide))]; exact a7 i hi
abbrev k55T : Type := wo_W → Nat → Nat → Nat → Int32 → Prop
theorem sp_fiCopy {Post : wo_W → Prop} {k55 : k55T} {v : Int32} (hc3 : c < 3) (han : an na = some u) (hna : na < nh) (hv : v = nI (4 * c + na % 4)) : ∀ (k i : Nat) (G : wo_W), i + k = u.length → mf E ow m A (PF c) G0 G → mk A G c raw sh nh na (out ++ u.take i) an → out.length + u.length ≤ 640 → (∀ G', mf E ow m A (PF c) G0 G' → mk A G' c raw sh nh (na + 1) (out ++ u) an → k55 G' 0 0 m (nI c)) → pq_Md_finish_101 E mc ms Post k55 (k + 1) G 0 0 m (nI c) v (nI i) := by
  subst hv
  have vc : vp_in (nI c) 3 := vp_in_nI hc3 (by decide)
  have cl : (nI c).toNatClampNeg = c := nI_clamp (by omega)
  have sl : 4 * c + na % 4 < 12 := by omega
  have vs : vp_in (nI (4 * c + na % 4)) 12 := vp_in_nI sl (by decide)
  have cs : (nI (4 * c + na % 4)).toNatClampNeg = 4 * c + na % 4 := nI_clamp (by omega)
  intro k
  induction k with
  | zero =>
    intro i G hi m0 hk hl hp
    have a := hk.2.2.2.2 na (Nat.le_refl _) hna
    rw [han] at a
    obtain ⟨p1, p2, p3⟩ := a
    unfold pq_Md_finish_101
    refine ⟨m0.k.1, m0.k.rd (f := 902) (k := 66) (n := 12) (by decide) vs ?_⟩
    rw [cs, p1]
    refine ⟨fun _ => ?_, fun w => absurd (nI_le (by omega) (by omega)) w⟩
    obtain ⟨b1, b2, b3, b4, b5⟩ := hk.2.2.2.1
    have r1 := m0.k.a (f := 903) (k := 66) (n := 3) (by decide)
    refine fun r hr => ⟨A 903, r1.1 r hr, r1.2.1, by rw [r1.2.2.1]; exact vc, by rw [r1.2.2.1]; exact vc, r1.2.2.2, fun G1 e1 => ?_⟩
    rw [cl, b1, nI_1] at e1
    have m1 : mf E ow m A (fun f i => f = 903 ∧ i = c) G G1 := by rw [e1]; exact mf_sei m0.k m0.b (f := 903) (k := 66) (n := 3) (by decide) ⟨rfl, rfl⟩
    have r2 := m1.k.a (f := 904) (k := 66) (n := 3) (by decide)
    refine fun r hr => ⟨A 904, r2.1 r hr, r2.2.1, by rw [r2.2.2.1]; exact vc, by rw [r2.2.2.1]; exact vc, r2.2.2.2, fun G2 e2 => ?_⟩
    rw [cl, m1.ei (f := 904) (k := 66) (n := 3) (by decide) (by simp), b2, show nh - na = (nh - (na + 1)) + 1 by omega, nI_pred] at e2
    have m2 : mf E ow m A (fun f i => f = 904 ∧ i = c) G1 G2 := by rw [e2]; exact mf_sei m1.k m1.b (f := 904) (k := 66) (n := 3) (by decide) ⟨rfl, rfl⟩
    have m3 : mf E ow m A (fun f i => (f = 903 ∨ f = 904) ∧ i = c) G G2 := (m1.mn (fun f i z => ⟨Or.inl z.1, z.2⟩)).tr (m2.mn (fun f i z => ⟨Or.inr z.1, z.2⟩))
    refine hp G2 (m0.tr (m3.mn (fun f i z => by obtain ⟨z1, z2⟩ := z; unfold PF; omega))) ?_
    rw [List.take_of_length_le (by omega)] at hk
    refine mk_n hk m3 (fun f i z => z.1) ⟨?_, ?_, by omega, by omega, b5⟩ (fun t q1 q2 => ⟨by omega, q2⟩)
    · rw [m2.ei (f := 903) (k := 66) (n := 3) (by decide) (by simp), e1, sei_at, if_pos rfl]
    · rw [e2, sei_at, if_pos rfl]
  | succ k ih =>
    intro i G hi m0 hk hl hp
    have a := hk.2.2.2.2 na (Nat.le_refl _) hna
    rw [han] at a
    obtain ⟨p1, p2, p3⟩ := a
    obtain ⟨o1, o2, o3⟩ := hk.2.2.1
    have ol : (out ++ u.take i).length = out.length + i := by rw [List.length_append, List.length_take]; omega
    rw [ol] at o1 o3
    unfold pq_Md_finish_101
    refine ⟨m0.k.1, m0.k.rd (f := 902) (k := 66) (n := 12) (by decide) vs ?_⟩
    rw [cs, p1]
    refine ⟨fun w => absurd w (nI_ge (by omega) (by omega)), fun _ => ?_⟩
    have r1 := m0.k.a (f := 899) (k := 66) (n := 1920) (by decide)
    have v1 : vp_in (nI (640 * c + (out.length + i))) 1920 := vp_in_nI (by omega) (by decide)
    have c1 : (nI (640 * c + (out.length + i))).toNatClampNeg = 640 * c + (out.length + i) := nI_clamp (by omega)
    have v2 : vp_in (nI (96 * (4 * c + na % 4) + i)) 1152 := vp_in_nI (by omega) (by decide)
    have c2 : (nI (96 * (4 * c + na % 4) + i)).toNatClampNeg = 96 * (4 * c + na % 4) + i := nI_clamp (by omega)
    refine fun r25 hr25 => m0.k.rd (f := 900) (k := 66) (n := 3) (by decide) vc ?_
    rw [cl, o1, show (640 : Int32) = nI 640 from rfl, show (96 : Int32) = nI 96 from rfl, nI_lin, nI_lin]
    refine m0.k.rd (f := 901) (k := 66) (n := 1152) (by decide) v2 ⟨A 899, r1.1 r25 hr25, r1.2.1, by rw [r1.2.2.1]; exact v1, r1.2.2.2, fun G1 e1 => ?_⟩
    rw [c1, c2, p3 i (by omega)] at e1
    have m1 : mf E ow m A (fun f j => f = 899 ∧ j = 640 * c + (out.length + i)) G G1 := by rw [e1]; exact mf_sei m0.k m0.b (f := 899) (k := 66) (n := 1920) (by decide) ⟨rfl, rfl⟩
    have r2 := m1.k.a (f := 900) (k := 66) (n := 3) (by decide)
    refine fun r hr => ⟨A 900, r2.1 r hr, r2.2.1, by rw [r2.2.2.1]; exact vc, by rw [r2.2.2.1]; exact vc, r2.2.2.2, fun G2 e2 => ?_⟩
    rw [m1.ei (f := 900) (k := 66) (n := 3) (by decide) (by simp), o1, nI_1] at e2
    have m2 : mf E ow m A (fun f i => f = 900 ∧ i = c) G1 G2 := by rw [e2]; exact mf_sei m1.k m1.b (f := 900) (k := 66) (n := 3) (by decide) ⟨rfl, rfl⟩
    have m3 : mf E ow m A (fun f j => f = 899 ∧ j = 640 * c + (out.length + i) ∨ f = 900 ∧ j = c) G G2 := (m1.mn (fun f i z => Or.inl z)).tr (m2.mn (fun f i z => Or.inr z))
    rw [nI_1]
    have tk : out ++ u.take (i + 1) = (out ++ u.take i) ++ [u.getD i 0] := by
      rw [List.append_assoc]
      congr 1
      rw [List.take_succ, List.getElem?_eq_getElem (by omega)]
      congr 1
      rw [List.getD_eq_getElem?_getD, List.getElem?_eq_getElem (by omega)]
      rfl
    have ol2 : (out ++ u.take (i + 1)).length = out.length + i + 1 := by rw [tk, List.length_append, ol]; rfl
    refine ih (i + 1) G2 (by omega) (m0.tr (m3.mn (fun f j z => by unfold PF; omega))) ?_ hl hp
    refine mk_o hk m3 (fun f i z => z.elim (fun z => Or.inl z.1) (fun z => Or.inr z.1)) ⟨?_, by omega, fun x hx => ?_⟩
    · rw [e2, sei_at, if_pos rfl, ol2]
    · rw [ol2] at hx
      rw [m2.ei (f := 899) (k := 66) (n := 1920) (by decide) (by simp), e1, sei_at, tk, app_get, ol]
      by_cases z : x = out.length + i
      · rw [if_pos (by omega), if_neg (by omega), if_pos z]
      · rw [if_neg (by omega), if_pos (by omega)]
        exact o3 x (by omega)
theorem sp_fiDel {Post : wo_W → Prop} (hc3 : c < 3) (h80 : ∀ t x, t < nh → an t = some x → x.length ≤ 80) : ∀ (k na : Nat) (out : List Nat) (G : wo_W), nh - na = k → mf E ow m A (PF c) G0 G → mk A G c raw sh nh na out an → out.length + 80 * (nh - na) ≤ 640 → (∀ G', mf E ow m A (PF c) G0 G' → mk A G' c raw sh nh (dv_go an k na out).1 (dv_go an k na out).2 an → Post G') → pq_Md_finish_55 E mc ms Post (k + 1) G 0 0 m (nI c) := by
  have vc : vp_in (nI c) 3 := vp_in_nI hc3 (by decide)
  have cl : (nI c).toNatClampNeg = c := nI_clamp (by omega)
  intro k
  induction k with
  | zero =>
    intro na out G hk0 m0 hk hl hp
    obtain ⟨b1, b2, b3, b4, b5⟩ := hk.2.2.2.1
    unfold pq_Md_finish_55 pq_Md_finish_182
    refine ⟨m0.k.1, m0.k.rd (f := 904) (k := 66) (n := 3) (by decide) vc ?_⟩
    rw [cl, b2, hk0]
    exact ⟨fun _ => hp G m0 hk, fun w => absurd (by decide) w⟩
  | succ k ih =>
    intro na out G hk0 m0 hk hl hp
    obtain ⟨b1, b2, b3, b4, b5⟩ := hk.2.2.2.1
    have sl : 4 * c + na % 4 < 12 := by omega
    have vs : vp_in (nI (4 * c + na % 4)) 12 := vp_in_nI sl (by decide)
    have cs : (nI (4 * c + na % 4)).toNatClampNeg = 4 * c + na % 4 := nI_clamp (by omega)
    have a := hk.2.2.2.2 na (Nat.le_refl _) (by omega)
    unfold pq_Md_finish_55 pq_Md_finish_182
    refine ⟨m0.k.1, m0.k.rd (f := 904) (k := 66) (n := 3) (by decide) vc ?_⟩
    rw [cl, b2]
    refine ⟨fun w => absurd w (nI_nle (by omega) (by omega)), fun _ => ?_⟩
    have r1 := m0.k.a (f := 902) (k := 66) (n := 12) (by decide)
    refine fun r7 hr7 => m0.k.rd (f := 903) (k := 66) (n := 3) (by decide) vc ?_
    have ex : (4 : Int32) * nI c + (nI na - nI na / 4 * 4) = nI (4 * c + na % 4) := by rw [nI_mod4 (by omega), show (4 : Int32) = nI 4 from rfl, nI_lin]
    rw [b1, ex]
    refine ⟨A 902, r1.1 r7 hr7, r1.2.1, by rw [r1.2.2.1]; exact vs, ?_⟩
    rw [cs]
    have hd : dv_go an (k + 1) na out = (match an na with | none => (na, out) | some t => dv_go an k (na + 1) (out ++ t)) := rfl
    cases han : an na with
    | none =>
      rw [han] at a hd
      rw [hd] at hp
      have a' : wo_ei G (A 902) (4 * c + na % 4) = -1 := a
      rw [a']
      exact ⟨fun _ => hp G m0 hk, fun w => absurd (by decide) w⟩
    | some u =>
      rw [han] at a hd
      rw [hd] at hp
      obtain ⟨p1, p2, p3⟩ := a
      have u80 := h80 na u (by omega) han
      rw [p1]
      refine ⟨fun w => absurd w (nI_pos (by omega)), fun _ => m0.k.rd (f := 903) (k := 66) (n := 3) (by decide) vc ⟨u.length + 1, ?_⟩⟩
      rw [b1]
      refine sp_fiCopy (na := na) (nh := nh) hc3 han (by omega) ex u.length 0 G (by omega) m0 (by rw [List.take_zero, List.append_nil]; exact hk) (by omega) (fun G' m' k' => ?_)
      exact ih (na + 1) (out ++ u) G' (by omega) m' k' (by rw [List.length_append]; omega) hp
theorem sp_fiText {Post : wo_W → Prop} {t : Nat} (hc3 : c < 3) (hu : u.length ≤ 80) (ht1 : na ≤ t) (ht2 : t < nh) (han : an t = none) (h80 : ∀ t x, t < nh → an t = some x → x.length ≤ 80) (hl : out.length + 80 * (nh - na) ≤ 640) : ∀ (k i : Nat) (G : wo_W), i + k = u.length → mf E ow m A (PF c) G0 G → tb_at m A G u → mk A G c raw sh nh na out an → (∀ x, x < i → wo_ei G (A 901) (96 * (4 * c + t % 4) + x) = nI (u.getD x 0)) → (∀ G', mf E ow m A (PF c) G0 G' → mk A G' c raw sh nh (dv_go (fun x => if x = t then some u else an x) (nh - na) na out).1 (dv_go (fun x => if x = t then some u else an x) (nh - na) na out).2 (fun x => if x = t then some u else an x) → Post G') → pq_Md_finish_11 E mc ms Post (k + 1) G 0 0 m (nI c) (nI (4 * c + t % 4)) (nI i) := by
  have vs : vp_in (nI (4 * c + t % 4)) 12 := vp_in_nI (by omega) (by decide)
  have cs : (nI (4 * c + t % 4)).toNatClampNeg = 4 * c + t % 4 := nI_clamp (by omega)
  intro k
  induction k with
  | zero =>
    intro i G hi m0 ht hk hcp hp
    obtain ⟨b1, b2, b3, b4, b5⟩ := hk.2.2.2.1
    unfold pq_Md_finish_11
    refine ⟨m0.k.1, ?_⟩
    rw [ht.1]
    refine ⟨fun _ => m0.k.wr (f := 902) (k := 66) (n := 12) (by decide) vs (fun G1 e1 => ⟨nh - na + 1, ?_⟩), fun w => absurd (nI_le (by omega) (by omega)) w⟩
    rw [cs] at e1
    have m1 : mf E ow m A (fun f i => f = 902 ∧ i = 4 * c + t % 4) G G1 := by rw [e1]; exact mf_sei m0.k m0.b (f := 902) (k := 66) (n := 12) (by decide) ⟨rfl, rfl⟩
    refine sp_fiDel (an := fun x => if x = t then some u else an x) hc3 (fun x y hx hy => ?_) (nh - na) na out G1 rfl (m0.tr (m1.mn (fun f i z => by unfold PF; omega))) ?_ hl hp
    · by_cases z : x = t
      · rw [if_pos z] at hy; cases hy; exact hu
      · rw [if_neg z] at hy; exact h80 x y hx hy
    · refine mk_p hk m1 (fun f i z => Or.inr z.1) (fun x q1 q2 q3 => ?_)
      by_cases z : x = t
      · rw [if_pos z, z]
        refine ⟨?_, by omega, fun y hy => ?_⟩
        · rw [e1, sei_at, if_pos rfl]
        · rw [m1.ei (f := 901) (k := 66) (n := 1152) (by decide) (by simp)]
          exact hcp y (by omega)
      · rw [if_neg z]
        exact q3.mf m1 (by intro w; have := w.2; omega) (fun y _ => by simp)
  | succ k ih =>
    intro i G hi m0 ht hk hcp hp
    obtain ⟨b1, b2, b3, b4, b5⟩ := hk.2.2.2.1
    have vi : vp_in (nI i) 128 := vp_in_nI (by omega) (by decide)
    have ci : (nI i).toNatClampNeg = i := nI_clamp (by omega)
    have v2 : vp_in (nI (96 * (4 * c + t % 4) + i)) 1152 := vp_in_nI (by omega) (by decide)
    have c2 : (nI (96 * (4 * c + t % 4) + i)).toNatClampNeg = 96 * (4 * c + t % 4) + i := nI_clamp (by omega)
    have r1 := m0.k.a (f := 901) (k := 66) (n := 1152) (by decide)
    unfold pq_Md_finish_11
    refine ⟨m0.k.1, ?_⟩
    rw [ht.1]
    refine ⟨fun w => absurd w (nI_ge (by omega) (by omega)), fun _ r10 hr10 => m0.k.rd (f := 905) (k := 66) (n := 128) (by decide) vi ⟨A 901, r1.1 r10 hr10, r1.2.1, ?_, r1.2.2.2, fun G1 e1 => ?_⟩⟩
    · rw [r1.2.2.1, show (96 : Int32) = nI 96 from rfl, nI_lin]; exact v2
    · rw [show (96 : Int32) = nI 96 from rfl, nI_lin, c2, ci, ht.2.2 i (by omega)] at e1
      have m1 : mf E ow m A (fun f x => f = 901 ∧ x = 96 * (4 * c + t % 4) + i) G G1 := by rw [e1]; exact mf_sei m0.k m0.b (f := 901) (k := 66) (n := 1152) (by decide) ⟨rfl, rfl⟩
      rw [nI_1]
      refine ih (i + 1) G1 (by omega) (m0.tr (m1.mn (fun f i z => by unfold PF; omega))) ⟨?_, ht.2.1, fun x hx => ?_⟩ ?_ (fun x hx => ?_) hp
      · rw [m1.gi (by simp)]; exact ht.1
      · rw [m1.ei (f := 905) (k := 66) (n := 128) (by decide) (by simp)]; exact ht.2.2 x hx
      · refine mk_p hk m1 (fun f i z => Or.inl z.1) (fun x q1 q2 q3 => ?_)
        by_cases z : x = t
        · rw [z, han] at q3 ⊢
          show wo_ei G1 (A 902) (4 * c + t % 4) = -1
          rw [m1.ei (f := 902) (k := 66) (n := 12) (by decide) (by simp)]
          exact q3
        · exact q3.mf m1 (by simp) (fun y _ w => by have := w.2; omega)
      · rw [e1, sei_at]
        by_cases z : x = i
        · rw [if_pos (by omega), z]
        · rw [if_neg (by omega)]; exact hcp x (by omega)
theorem sp_mfinish {Post : wo_W → Prop} {t : Nat} {v : cnT} (hc3 : c < 3) (h : md_k E ow m A G) (hb : ow_b E ow G) (ht : tb_at m A G u) (hk : mcn A G c v) (hu : u.length ≤ 80) (ht1 : c_na v ≤ t) (ht2 : t < c_nh v) (han : c_an v t = none) (h80 : ∀ t x, t < c_nh v → c_an v t = some x → x.length ≤ 80) (hl : (c_out v).length + 80 * (c_nh v - c_na v) ≤ 640) (hp : ∀ G', mf E ow m A (PF c) G G' → mcn A G' c (dvc (anc v t u)) → Post G') : pq_Md_finish E mc ms Post G m (nI c) (nI t) := by
  obtain ⟨b1, b2, b3, b4, b5⟩ := hk.2.2.2.1
  unfold pq_Md_finish pq_Md_finish_0
  have ex : (4 : Int32) * nI c + (nI t - nI t / 4 * 4) = nI (4 * c + t % 4) := by rw [nI_mod4 (by omega), show (4 : Int32) = nI 4 from rfl, nI_lin]
  rw [ex]
  exact ⟨u.length + 1, sp_fiText hc3 hu ht1 ht2 han h80 hl u.length 0 G (by omega) (mf.rf h hb) ht hk (fun x hx => absurd hx (Nat.not_lt_zero _)) (fun G' m' k' => hp G' m' k')⟩
end MD
