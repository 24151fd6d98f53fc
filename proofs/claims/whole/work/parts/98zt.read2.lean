theorem rn_body {pt hd : Nat} {ln : Option Nat} {ch : Bool} {li : List Nat} {m : Option Nat} {pa : List Nat} {vs : vsT} (hpt : pt = 2 ∨ pt = 4) : ∀ (k : Nat) (S bo : List Nat), S.length ≤ k → ∀ lf, S.length < lf → rn (pt, hd, ln, ch, lf, li, bo, m, pa, vs) S = some (0, (pt, hd, ln, ch, lf - S.length, li, bo ++ S, m, pa, vs)) := by
  intro k
  induction k with
  | zero =>
    intro S bo hS lf hl
    have e : S = [] := List.length_eq_zero_iff.mp (by omega)
    subst e
    show some _ = _
    simp
  | succ k ih =>
    intro S bo hS lf hl
    cases S with
    | nil => show some _ = _; simp
    | cons b S =>
      simp only [List.length_cons] at hS hl
      have e : rd_step (pt, hd, ln, ch, lf, li, bo, m, pa, vs) b = (0, (pt, hd, ln, ch, lf - 1, li, bo ++ [b], m, pa, vs)) := by
        unfold rd_step
        simp only []
        rw [if_pos hpt, if_pos (by omega), if_pos (by omega)]
      rw [rn_cons, e, if_pos rfl]
      show rn (pt, hd, ln, ch, lf - 1, li, bo ++ [b], m, pa, vs) S = _
      rw [ih S (bo ++ [b]) (by omega) (lf - 1) (by omega)]
      congr 4
      simp only [List.length_cons, List.append_assoc, List.singleton_append]
      rw [show lf - 1 - S.length = lf - (S.length + 1) by omega]
theorem rn_app0 : ∀ (l1 l2 : List Nat) (d d1 : rdT), rn d l1 = some (0, d1) → rn d (l1 ++ l2) = rn d1 l2 := by
  intro l1
  induction l1 with
  | nil =>
    intro l2 d d1 h
    have : d = d1 := by have h : some (0, d) = some (0, d1) := h; exact (Prod.mk.inj (Option.some.inj h)).2
    rw [this]; rfl
  | cons a l ih =>
    intro l2 d d1 h
    rw [rn_cons] at h
    show rn d (a :: (l ++ l2)) = _
    rw [rn_cons]
    by_cases z : (rd_step d a).1 = 0
    · rw [if_pos z] at h ⊢
      exact ih l2 _ d1 h
    · rw [if_neg z] at h
      by_cases y : l = []
      · rw [if_pos y] at h
        have : rd_step d a = (0, d1) := Option.some.inj h
        rw [this] at z
        exact absurd rfl z
      · rw [if_neg y] at h; cases h
theorem rn_last {pt hd lf : Nat} {ln : Option Nat} {ch : Bool} {li bo : List Nat} {m : Option Nat} {pa : List Nat} {vs : vsT} {S : List Nat} (hl : 0 < lf) (h : lf ≤ S.length) (hpt : pt = 2 ∨ pt = 4) : rn (pt, hd, ln, ch, lf, li, bo, m, pa, vs) S = (if pt = 2 then (if S.length = lf then some (1, (2, hd, ln, ch, 0, li, bo ++ S, m, pa, vs)) else none) else rn (5, hd, ln, ch, 0, li, bo ++ S.take lf, m, pa, vs) (S.drop lf)) := by
  obtain ⟨k, rfl⟩ : ∃ k, lf = k + 1 := ⟨lf - 1, by omega⟩
  have lk : (S.take k).length = k := by rw [List.length_take]; omega
  have e1 : S = S.take k ++ (S.getD k 0 :: S.drop (k + 1)) := by rw [← tx_drop (by omega), List.take_append_drop]
  have r1 := rn_body (hd := hd) (ln := ln) (ch := ch) (li := li) (m := m) (pa := pa) (vs := vs) hpt k (S.take k) bo (by omega) (k + 1) (by omega)
  rw [lk, show k + 1 - k = 1 by omega] at r1
  have r2 := rn_app0 _ (S.getD k 0 :: S.drop (k + 1)) _ _ r1
  rw [← e1] at r2
  rw [r2, rn_cons]
  have tk : S.take k ++ [S.getD k 0] = S.take (k + 1) := by
    rw [List.take_succ, List.getElem?_eq_getElem (by omega)]
    congr 1
    rw [List.getD_eq_getElem?_getD, List.getElem?_eq_getElem (by omega)]
    rfl
  rcases hpt with e | e
  · subst e
    have e2 : rd_step (2, hd, ln, ch, 1, li, bo ++ S.take k, m, pa, vs) (S.getD k 0) = (1, (2, hd, ln, ch, 0, li, bo ++ S.take (k + 1), m, pa, vs)) := by
      rw [← tk, ← List.append_assoc]; rfl
    rw [e2, if_pos rfl, if_neg (by show ¬ 1 = 0; decide)]
    by_cases z : S.length = k + 1
    · rw [if_pos z, if_pos (List.drop_of_length_le (by omega)), List.take_of_length_le (by omega)]
    · rw [if_neg z, if_neg (fun y => by have := congrArg List.length y; rw [List.length_drop] at this; simp at this; omega)]
  · subst e
    have e2 : rd_step (4, hd, ln, ch, 1, li, bo ++ S.take k, m, pa, vs) (S.getD k 0) = (0, (5, hd, ln, ch, 0, li, bo ++ S.take (k + 1), m, pa, vs)) := by
      rw [← tk, ← List.append_assoc]; rfl
    rw [e2, if_pos rfl, if_neg (show ¬ 4 = 2 by decide)]
def bd_at (A : Nat → Nat) (G : wo_W) (bo : List Nat) : Prop := pt_ok (wo_el G (A 912) 8) (wo_ei G (A 913) 8) bo
def Pbd : Nat → Nat → Prop := fun f i => (f = 912 ∨ f = 913) ∧ i = 8
section MD
variable {E : wo_E} {mc ms m c s : Nat} {G0 G G1 G2 : wo_W} {ow : Nat → Nat} {A : Nat → Nat} {P Q : Nat → Nat → Prop} {R : List Nat} {p hd lf : Nat} {ln : Option Nat} {ch : Bool} {mm : Option Nat} {pa bo : List Nat} {vs : vsT} {x : Nat × rdT}
theorem sp_mhex {Post : Int32 → wo_W → Prop} {b : Nat} (hb : b < 256) (hp : Post (wh_I (hx_of b)) G) : pq_Md_hex E mc ms Post G (nI b) := by
  have lt : ∀ k : Nat, k < 256 → (nI b < nI k ↔ b < k) := fun k hk => nI_ltI (by omega) (by omega)
  have gt : ∀ k : Nat, k < 256 → (nI k < nI b ↔ k < b) := fun k hk => nI_ltI (by omega) (by omega)
  have l48 := lt 48 (by decide)
  have l65 := lt 65 (by decide)
  have l97 := lt 97 (by decide)
  have g57 := gt 57 (by decide)
  have g70 := gt 70 (by decide)
  have g102 := gt 102 (by decide)
  have h57 : ¬ (48 ≤ b ∧ b ≤ 57) → ¬ (65 ≤ b ∧ b ≤ 70) → ¬ (97 ≤ b ∧ b ≤ 102) → Post (-1) G := by
    intro n1 n2 n3
    unfold hx_of at hp
    rw [if_neg n1, if_neg n2, if_neg n3] at hp
    exact hp
  have h38 : ¬ (48 ≤ b ∧ b ≤ 57) → ¬ (65 ≤ b ∧ b ≤ 70) → ∀ c s, pq_Md_hex_38 E mc ms Post G c s (nI b) := by
    intro n1 n2 c s
    unfold pq_Md_hex_38 pq_Md_hex_57 pq_Md_hex_58
    refine ⟨fun w => h57 n1 n2 (fun z => by have := l97.mp w; omega), fun w => ⟨fun w2 => h57 n1 n2 (fun z => by have := g102.mp w2; omega), fun w2 => ?_⟩⟩
    have z1 : 97 ≤ b := Nat.le_of_not_lt (fun z => w (l97.mpr z))
    have z2 : b ≤ 102 := Nat.le_of_not_lt (fun z => w2 (g102.mpr z))
    unfold hx_of at hp
    rw [if_neg n1, if_neg n2, if_pos ⟨z1, z2⟩] at hp
    rw [show (87 : Int32) = nI 87 from rfl, pk_sub (by omega)]
    exact hp
  have h19 : ¬ (48 ≤ b ∧ b ≤ 57) → ∀ c s, pq_Md_hex_19 E mc ms Post G c s (nI b) := by
    intro n1 c s
    unfold pq_Md_hex_19 pq_Md_hex_58
    refine ⟨fun w => h38 n1 (fun z => by have := l65.mp w; omega) _ _, fun w => ⟨fun w2 => h38 n1 (fun z => by have := g70.mp w2; omega) _ _, fun w2 => ?_⟩⟩
    have z1 : 65 ≤ b := Nat.le_of_not_lt (fun z => w (l65.mpr z))
    have z2 : b ≤ 70 := Nat.le_of_not_lt (fun z => w2 (g70.mpr z))
    unfold hx_of at hp
    rw [if_neg n1, if_pos ⟨z1, z2⟩] at hp
    rw [show (55 : Int32) = nI 55 from rfl, pk_sub (by omega)]
    exact hp
  unfold pq_Md_hex pq_Md_hex_0 pq_Md_hex_58
  refine ⟨fun w => h19 (fun z => by have := l48.mp w; omega) _ _, fun w => ⟨fun w2 => h19 (fun z => by have := g57.mp w2; omega) _ _, fun w2 => ?_⟩⟩
  have z1 : 48 ≤ b := Nat.le_of_not_lt (fun z => w (l48.mpr z))
  have z2 : b ≤ 57 := Nat.le_of_not_lt (fun z => w2 (g57.mpr z))
  unfold hx_of at hp
  rw [if_pos ⟨z1, z2⟩] at hp
  rw [show (48 : Int32) = nI 48 from rfl, pk_sub (by omega)]
  exact hp
theorem drop_at {R : List Nat} {p i : Nat} : (R.drop p).getD i 0 = R.getD (p + i) 0 := by simp [List.getD_eq_getElem?_getD, List.getElem?_drop]
theorem sp_ctail {Post : Int32 → wo_W → Prop} (h : md_k E ow m A G) (hw : rw_at A G c R) (hc : c < 3) : ∀ (k p : Nat), R.length - p ≤ k → p ≤ R.length → rn (6, hd, ln, ch, lf, [], bo, mm, pa, vs) (R.drop p) = some x → ((x.1 = 1 → rq_d x.2 = (mm, pa, bo, vs)) → Post (nI x.1) G) → pq_Md_chunks_254 E mc ms Post (k + 1) G 0 0 m (nI c) (nI p) (le_I p (R.drop p)) := by
  intro k
  induction k with
  | zero =>
    intro p hk hp0 hr hp
    have e : R.drop p = [] := List.drop_of_length_le (by omega)
    rw [e] at hr ⊢
    have : x = (0, (6, hd, ln, ch, lf, [], bo, mm, pa, vs)) := (Option.some.inj hr).symm
    subst this
    have el : le_I p [] = -1 := rfl
    rw [el]
    unfold pq_Md_chunks_254 pq_Md_chunks_300
    refine ⟨fun _ => ⟨fun _ => ⟨fun w => absurd rfl w, fun _ => hp (fun z => by cases z)⟩, fun w => absurd w (by decide)⟩, fun w => ?_⟩
    exact absurd (Int32.le_trans (by decide) (nI_pos' (n := p) (by have := hw.2.1; omega))) w
  | succ k ih =>
    intro p hk hp0 hr hp
    have h42 := hw.2.1
    have ld : (R.drop p).length = R.length - p := List.length_drop
    unfold pq_Md_chunks_254 pq_Md_chunks_300
    by_cases z : ix_of 10 (R.drop p) < (R.drop p).length
    · have el : le_I p (R.drop p) = nI (p + ix_of 10 (R.drop p)) := if_pos z
      obtain ⟨h20, hh⟩ := rn_lf (Or.inr (Or.inr (Or.inr rfl))) z hr
      rw [el]
      have ej : jd_of (6, hd, ln, ch, lf, (R.drop p).take (ix_of 10 (R.drop p)), bo, mm, pa, vs) = (if (R.drop p).take (ix_of 10 (R.drop p)) = [] then 1 else 0, (6, hd, ln, ch, lf, [], bo, mm, pa, vs)) := rfl
      rw [ej] at hh
      by_cases y : ix_of 10 (R.drop p) = 0
      · have et : (R.drop p).take (ix_of 10 (R.drop p)) = [] := by rw [y]; rfl
        rw [if_pos et] at hh
        rcases hh with hh | hh
        · exact absurd hh.1 (by show ¬ 1 = 0; decide)
        · have ex := hh.2.2
          subst ex
          refine ⟨fun _ => ⟨fun _ => ⟨fun _ => hp (fun _ => rfl), fun w => ?_⟩, fun w => ?_⟩, fun w => absurd (nI_le (by omega) (by omega)) w⟩
          · exact absurd w (nI_nm1 (by omega))
          · exact absurd w (fun q => nI_pos (n := p + ix_of 10 (R.drop p)) (by omega) (by rw [q]; decide))
      · have et : ¬ (R.drop p).take (ix_of 10 (R.drop p)) = [] := fun e => by have := congrArg List.length e; rw [List.length_take] at this; simp at this; omega
        rw [if_neg et] at hh
        rcases hh with hh | hh
        · refine ⟨fun w => absurd w (nI_ge (by omega) (by omega)), fun _ => ⟨h.1, 0, 0, Nat.zero_le _, Nat.zero_le _, ?_⟩⟩
          rw [nI_1]
          refine sp_lineEnd h hw hc (by omega) ?_
          have ed : (R.drop p).drop (ix_of 10 (R.drop p) + 1) = R.drop (p + ix_of 10 (R.drop p) + 1) := by rw [List.drop_drop]; rfl
          rw [ed] at hh
          exact ih (p + ix_of 10 (R.drop p) + 1) (by omega) (by omega) hh.2 hp
        · exact absurd rfl hh.1
    · have ex := rn_nolf (Or.inr (Or.inr (Or.inr rfl))) z hr
      have el : le_I p (R.drop p) = if (R.drop p).length ≤ 20 then -1 else -2 := if_neg z
      have hx1 : ¬ x.1 = 1 := by rw [ex]; split <;> decide
      have hp := hp (fun q => absurd q hx1)
      rw [el]
      by_cases y : (R.drop p).length ≤ 20
      · rw [if_pos y] at ex ⊢
        rw [ex] at hp
        refine ⟨fun _ => ⟨fun _ => ⟨fun w => absurd rfl w, fun _ => hp⟩, fun w => absurd w (by decide)⟩, fun w => ?_⟩
        exact absurd (Int32.le_trans (by decide) (nI_pos' (n := p) (by omega))) w
      · rw [if_neg y] at ex ⊢
        rw [ex] at hp
        refine ⟨fun _ => ⟨fun w => absurd rfl w, fun _ => hp⟩, fun w => ?_⟩
        exact absurd (Int32.le_trans (by decide) (nI_pos' (n := p) (by omega))) w
theorem sp_bdPush {b : Nat} (h : md_k E ow m A G) (hbb : ow_b E ow G) (hbd : bd_at A G bo) (hl : bo.length < 8) (hb : b < 256) : ∀ G1 G2, G1 = wo_sel G (A 912) 8 (wo_el G (A 912) 8 ||| ((nI b).toInt64 <<< (((8 : Int32) * wo_ei G (A 913) 8).toInt64 &&& 63))) → G2 = wo_sei G1 (A 913) 8 (wo_ei G1 (A 913) 8 + 1) → mf E ow m A Pbd G G1 ∧ mf E ow m A Pbd G1 G2 ∧ bd_at A G2 (bo ++ [b]) := by
  intro G1 G2 e1 e2
  obtain ⟨b1, b2, b3, b4⟩ := hbd
  rw [b1, b2, show (8 : Int32) = nI 8 from rfl, pk_mul, pk_or b4 hl hb] at e1
  have m1 : mf E ow m A Pbd G G1 := by rw [e1]; exact mf_sel h hbb (f := 912) (k := 73) (n := 9) (by decide) ⟨Or.inl rfl, rfl⟩
  have v1 : wo_el G1 (A 912) 8 = pk_of (bo ++ [b]) := by rw [e1, sel_at, if_pos rfl]
  have w1 : wo_ei G1 (A 913) 8 = nI bo.length := by rw [e1]; exact b2
  rw [w1, nI_1] at e2
  have m2 : mf E ow m A Pbd G1 G2 := by rw [e2]; exact mf_sei m1.k m1.b (f := 913) (k := 66) (n := 9) (by decide) ⟨Or.inr rfl, rfl⟩
  refine ⟨m1, m2, ?_, ?_, by simp; omega, fun d hd => ?_⟩
  · rw [show wo_el G2 (A 912) 8 = wo_el G1 (A 912) 8 by rw [e2]; rfl]; exact v1
  · rw [e2, sei_at, if_pos rfl]; simp
  · rcases List.mem_append.mp hd with q | q
    · exact b4 d q
    · rw [List.mem_singleton.mp q]; exact hb
end MD
