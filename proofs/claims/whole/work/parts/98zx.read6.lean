section MD
variable {E : wo_E} {mc ms m c s : Nat} {G0 G G1 G2 : wo_W} {ow : Nat → Nat} {A : Nat → Nat} {P Q : Nat → Nat → Prop} {R : List Nat} {r u : List Nat} {e q j : Nat}
theorem sub_snoc {t : List Nat} {p i : Nat} (hp : p ≤ i) (hi : i < t.length) : tx_sub t p (i + 1) = tx_sub t p i ++ [t.getD i 0] := by
  refine tx_ext (by rw [List.length_append, tx_sub_len (by omega), tx_sub_len (by omega)]; simp; omega) (fun k hk => ?_)
  rw [tx_sub_len (by omega)] at hk
  rw [tx_sub_at hk, app_get, tx_sub_len (by omega)]
  by_cases z : k < i - p
  · rw [if_pos z, tx_sub_at z]
  · rw [if_neg z, if_pos (by omega), show p + k = i by omega]
theorem sp_nrm220 {Post : Int32 → wo_W → Prop} {k38 : k38T} {x1 : Int32} {b1 b2 : Bool} (h : md_k E ow m A G) (hbb : ow_b E ow G) (hr : kp_at A G 917 r) (hl : r.length < 24) (hj : j ≤ 24) (he : e ≤ 24) (hp : ∀ G', mf E ow m A (Pk 917) G G' → kp_at A G' 917 (r ++ if (b1 || b2) && decide (j = e) then [47] else []) → k38 G' 0 0 m x1 (nI e) (nI (r ++ if (b1 || b2) && decide (j = e) then [47] else []).length) (nI j)) : pq_Md_normal_220 E mc ms Post k38 G 0 0 m x1 (nI e) (nI r.length) (nI j) (bo_I b1) (bo_I b2) := by
  have no : ((b1 || b2) && decide (j = e)) = false → pq_Md_normal_247 E mc ms Post k38 G 0 0 m x1 (nI e) (nI r.length) (nI j) := fun z => by
    have := hp G (mf.rf h hbb)
    simp only [z, Bool.false_eq_true, if_false, List.append_nil] at this
    exact this hr
  have yes : ((b1 || b2) && decide (j = e)) = true → pq_Md_normal_236 E mc ms Post k38 G 0 0 m x1 (nI e) (nI r.length) (nI j) := fun z => by
    unfold pq_Md_normal_236 pq_Md_normal_247
    refine ⟨h.1, h.wr (f := 917) (k := 66) (n := 24) (by decide) (vp_in_nI hl (by decide)) (fun G1 e1 => ?_)⟩
    rw [nI_clamp (by omega)] at e1
    obtain ⟨m1, k1⟩ := kp_push (f := 917) (b := 47) (by decide) h hbb hr e1
    have := hp G1 m1
    simp only [z, if_true] at this
    rw [nI_1]
    have this := this k1
    rw [List.length_append] at this
    exact this
  have ej : nI j = nI e ↔ j = e := nI_eq (by omega) (by omega)
  unfold pq_Md_normal_220
  refine ⟨fun w => no (by rw [decide_eq_false (fun z => w (ej.mpr z)), Bool.and_false]), fun w => ?_⟩
  have z := ej.mp w
  have de : decide (j = e) = true := decide_eq_true z
  refine ⟨fun w1 => yes (by cases b1 with | false => exact absurd rfl w1 | true => rw [de]; rfl), fun w1 => ⟨fun w2 => no ?_, fun w2 => yes (by cases b2 with | false => exact absurd rfl w2 | true => rw [de, Bool.or_true]; rfl)⟩⟩
  cases b1 with
  | true => exact absurd w1 (by decide)
  | false => cases b2 with
    | true => exact absurd w2 (by decide)
    | false => rfl
theorem sp_nrm177 {Post : Int32 → wo_W → Prop} {k38 : k38T} {x1 : Int32} {b1 b2 : Bool} (h : md_k E ow m A G) (hbb : ow_b E ow G) (hu : kp_at A G 916 u) (hr : kp_at A G 917 r) (hl : u.length ≤ 24) (hrq : r.length ≤ q) (hq : q < j) (hj : j ≤ e) (he : e ≤ u.length) (hp : ∀ r2, r2 = (if b1 || b2 then r ++ (if decide (j = e) then [47] else []) else r ++ tx_sub u q j) → ∀ G', mf E ow m A (Pk 917) G G' → kp_at A G' 917 r2 → k38 G' 0 0 m x1 (nI e) (nI r2.length) (nI j)) : pq_Md_normal_177 E mc ms Post k38 G 0 0 m x1 (nI e) (nI r.length) (nI q) (nI j) (bo_I b1) (bo_I b2) := by
  unfold pq_Md_normal_177
  cases hb : (b1 || b2) with
  | true =>
    refine ⟨1, ?_⟩
    have h220 : pq_Md_normal_220 E mc ms Post k38 G 0 0 m x1 (nI e) (nI r.length) (nI j) (bo_I b1) (bo_I b2) := by
      refine sp_nrm220 h hbb hr (by omega) (by omega) (by omega) (fun G' m' k' => ?_)
      rw [hb, Bool.true_and] at k' ⊢
      refine hp _ ?_ G' m' k'
      rw [hb, if_pos rfl]
    unfold pq_Md_normal_181
    refine ⟨fun _ => h220, fun w => ⟨fun _ => h220, fun w1 => ⟨fun _ => h220, fun w2 => ?_⟩⟩⟩
    cases b1 with
    | true => exact absurd w1 (by decide)
    | false => cases b2 with
      | true => exact absurd w2 (by decide)
      | false => cases hb
  | false =>
    have e1 : b1 = false := by cases b1 with | true => cases hb | false => rfl
    have e2 : b2 = false := by cases b2 with | true => rw [e1] at hb; cases hb | false => rfl
    subst e1; subst e2
    have key : ∀ (d i : Nat) (G1 : wo_W), i + d = j → q ≤ i → mf E ow m A (Pk 917) G G1 → kp_at A G1 917 (r ++ tx_sub u q i) → pq_Md_normal_181 E mc ms Post k38 (d + 1) G1 0 0 m x1 (nI e) (nI (r ++ tx_sub u q i).length) (nI j) 0 0 (nI i) := by
      intro d
      induction d with
      | zero =>
        intro i G1 hi hqi m1 k1
        have e0 : i = j := by omega
        subst e0
        have ll : (r ++ tx_sub u q i).length = r.length + (i - q) := by rw [List.length_append, tx_sub_len (by omega)]
        unfold pq_Md_normal_181
        refine ⟨fun _ => ?_, fun w => absurd (nI_le (Nat.le_refl _) (by omega)) w⟩
        by_cases z24 : (r ++ tx_sub u q i).length < 24
        · refine sp_nrm220 (b1 := false) (b2 := false) m1.k m1.b k1 z24 (by omega) (by omega) (fun G' m' k' => ?_)
          simp only [Bool.or_self, Bool.false_and, Bool.false_eq_true, if_false, List.append_nil] at k' ⊢
          exact hp _ (by rfl) G' (m1.tr m') k'
        · have := hp (r ++ tx_sub u q i) (by rfl) G1 m1 k1
          unfold pq_Md_normal_220 pq_Md_normal_247
          exact ⟨fun _ => this, fun w => ⟨fun w1 => absurd rfl w1, fun _ => ⟨fun _ => this, fun w2 => absurd rfl w2⟩⟩⟩
      | succ d ih =>
        intro i G1 hi hqi m1 k1
        have ll : (r ++ tx_sub u q i).length = r.length + (i - q) := by rw [List.length_append, tx_sub_len (by omega)]
        have hu1 : kp_at A G1 916 u := kp_mf hu (by decide) m1 (fun i (z : 916 = 917) => by cases z)
        unfold pq_Md_normal_181
        refine ⟨fun w => absurd w (nI_ge (by omega) (by omega)), fun _ => ⟨fun w => absurd rfl w, fun _ => ⟨fun w => absurd rfl w, fun _ => ⟨m1.k.1, fun r2 hr2 r4 hr4 => ?_⟩⟩⟩⟩
        obtain ⟨a1, a2, a3, a4⟩ := m1.k.a (f := 917) (k := 66) (n := 24) (by decide)
        obtain ⟨c1, c2, c3, c4⟩ := m1.k.a (f := 916) (k := 66) (n := 24) (by decide)
        refine ⟨A 916, c1 _ hr4, c2, by rw [c3]; exact vp_in_nI (by omega) (by decide), A 917, a1 _ hr2, a2, by rw [a3]; exact vp_in_nI (by omega) (by decide), a4, fun G2 e2 => ?_⟩
        rw [nI_clamp (by omega), nI_clamp (by omega), hu1 i (by omega)] at e2
        obtain ⟨m2, k2⟩ := kp_push (f := 917) (by decide) m1.k m1.b k1 e2
        have := ih (i + 1) G2 (by omega) (by omega) (m1.tr m2) (by rw [sub_snoc hqi (by omega), ← List.append_assoc]; exact k2)
        rw [nI_1, nI_1]
        rw [show (r ++ tx_sub u q (i + 1)).length = (r ++ tx_sub u q i).length + 1 by rw [List.length_append, List.length_append, tx_sub_len (by omega), tx_sub_len (by omega)]; omega] at this
        exact this
    have := key (j - q) q G (by omega) (Nat.le_refl _) (mf.rf h hbb) (by rw [tx_sub_nil (Nat.le_refl _), List.append_nil]; exact hr)
    rw [tx_sub_nil (Nat.le_refl _), List.append_nil] at this
    exact ⟨_, this⟩
theorem as_eq {z : Bool} (h47 : u.getD q 0 = 47) (hq : q < j) (hj : j ≤ u.length) : (if decide (tx_sub u (q + 1) j = [46]) || decide (tx_sub u (q + 1) j = [46, 46]) then (if decide (tx_sub u (q + 1) j = [46, 46]) then r.take (ls_of r) else r) ++ (if z then [47] else []) else (if decide (tx_sub u (q + 1) j = [46, 46]) then r.take (ls_of r) else r) ++ tx_sub u q j) = as_of r (tx_sub u (q + 1) j) z := by
  have e1 : tx_sub u q j = 47 :: tx_sub u (q + 1) j := by rw [tx_sub_cons hq hj, h47]
  rw [e1]
  generalize tx_sub u (q + 1) j = g
  unfold as_of
  by_cases y2 : g = [46, 46]
  · subst y2; rfl
  · by_cases y1 : g = [46]
    · subst y1; rfl
    · rw [if_neg y2, if_neg y1, decide_eq_false y1, decide_eq_false y2]
      simp
end MD
