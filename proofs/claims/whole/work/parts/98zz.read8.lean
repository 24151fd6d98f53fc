abbrev k188T : Type := wo_W → Nat → Nat → Nat → Int32 → Int32 → Int32 → Int32 → Prop
theorem dg_lt {v : Nat} (h : v < 16) : dg_of v < 256 := by
  unfold dg_of
  split <;> omega
theorem pr_lt {h l b : Nat} (h1 : h < 16) (h2 : l < 16) (hb : b ∈ pr_of h l) : b < 256 := by
  unfold pr_of at hb
  split at hb
  · have := List.mem_singleton.mp hb; omega
  · have := dg_lt h1
    have := dg_lt h2
    simp at hb
    omega
theorem de_pre {t : List Nat} : ∀ (k i : Nat) (r u : List Nat), de_go t k i r = some u → ∃ w, u = r ++ w := by
  intro k
  induction k with
  | zero => intro i r u h; exact ⟨[], by have h : some r = some u := h; cases h; simp⟩
  | succ k ih =>
    intro i r u h
    rw [de_go] at h
    by_cases z1 : t.length ≤ i
    · rw [if_pos z1] at h; cases h; exact ⟨[], by simp⟩
    · rw [if_neg z1] at h
      by_cases z2 : t.getD i 0 < 33 ∨ 126 < t.getD i 0
      · rw [if_pos z2] at h; cases h
      · rw [if_neg z2] at h
        by_cases z3 : t.getD i 0 = 37
        · rw [if_pos z3] at h
          by_cases z4 : i + 2 < t.length
          · rw [if_pos z4] at h
            cases e1 : hx_of (t.getD (i + 1) 0) with
            | none => rw [e1] at h; cases h
            | some a =>
              cases e2 : hx_of (t.getD (i + 2) 0) with
              | none => rw [e1, e2] at h; cases h
              | some b =>
                rw [e1, e2] at h
                obtain ⟨w, hw⟩ := ih _ _ _ h
                exact ⟨pr_of a b ++ w, by rw [hw, List.append_assoc]⟩
          · rw [if_neg z4] at h; cases h
        · rw [if_neg z3] at h
          obtain ⟨w, hw⟩ := ih _ _ _ h
          exact ⟨[t.getD i 0] ++ w, by rw [hw, List.append_assoc]⟩
section MD
variable {E : wo_E} {mc ms m c s : Nat} {G0 G G1 G2 : wo_W} {ow : Nat → Nat} {A : Nat → Nat} {P Q : Nat → Nat → Prop} {R li r u : List Nat} {S : Nat}
theorem Pk_ne {f : Nat} (hf : f ≠ 896 ∧ f ≠ 897) : ∀ g i, Pk f g i → g ≠ 896 ∧ g ≠ 897 := fun g i (z : g = f) => by rw [z]; exact hf
theorem sp_rqPush {b : Nat} (m0 : mf E ow m A (Pk 916) G0 G) (hk : kp_at A G 916 r) {G1 : wo_W} (e : G1 = wo_sei G (A 916) r.length (nI b)) : mf E ow m A (Pk 916) G0 G1 ∧ mf E ow m A (Pk 916) G G1 ∧ kp_at A G1 916 (r ++ [b]) := by
  obtain ⟨m1, k1⟩ := kp_push (f := 916) (by decide) m0.k m0.b hk e
  exact ⟨m0.tr m1, m1, k1⟩
theorem sp_rqDec {Post : Int32 → wo_W → Prop} {t : List Nat} (hc : c < 3) (hL : li.length ≤ 20) (hLR : li.length ≤ R.length) (hR : ∀ i, i < li.length → R.getD i 0 = li.getD i 0) (et : t = tx_sub li S li.length) (hS : S ≤ li.length) : ∀ (k i : Nat) (r : List Nat) (G : wo_W), t.length + 1 ≤ i + k → i ≤ t.length → r.length ≤ i → (∀ b ∈ r, b < 256) → kp_at A G 916 r → mf E ow m A (Pk 916) G0 G → rw_at A G c R → (de_go t k i r = none → ∀ G', mf E ow m A (Pk 916) G0 G' → Post 400 G') → (∀ u, de_go t k i r = some u → ∀ G', mf E ow m A (Pk 916) G0 G' → kp_at A G' 916 u → u.length ≤ 20 → (∀ b ∈ u, b < 256) → pq_Md_normal E 0 0 Post G' m (nI u.length)) → pq_Md_requestLine_188 E mc ms Post k G 0 0 m (nI c) (nI li.length) (nI r.length) (nI (S + i)) := by
  have tl : t.length = li.length - S := by rw [et, tx_sub_len (Nat.le_refl _)]
  have ta : ∀ i, i < t.length → t.getD i 0 = R.getD (S + i) 0 := fun i hi => by rw [tl] at hi; rw [et, tx_sub_at hi, hR _ (by omega)]
  intro k
  induction k with
  | zero => intro i r G h1 h2; omega
  | succ k ih =>
    intro i r G hf hi hri hrb hk m0 hw hp0 hp1
    rw [de_go] at hp0
    have hp1' := fun u => hp1 u
    simp only [de_go] at hp1
    unfold pq_Md_requestLine_188
    have h42 := hw.2.1
    by_cases z : t.length ≤ i
    · refine ⟨fun _ => ⟨m0.k.1, 0, 0, Nat.zero_le _, Nat.zero_le _, ?_⟩, fun w => absurd (nI_le (by omega) (by omega)) w⟩
      rw [if_pos z] at hp1
      exact hp1 r rfl G m0 hk (by omega) hrb
    · have hit : i < t.length := Nat.lt_of_not_le z
      obtain ⟨i1, i2, i3⟩ := rw_ix hw hc (i := S + i) (by omega)
      have ei : wo_ei G (A 896) (4200 * c + (S + i)) = nI (t.getD i 0) := by rw [hw.2.2.1 (S + i) (by omega), ta i hit]
      have hb : t.getD i 0 < 256 := by rw [ta i hit]; exact hw.2.2.2 _ (tx_mem (by omega))
      rw [if_neg z] at hp0
      simp only [if_neg z] at hp1
      rw [i1]
      refine ⟨fun w => absurd w (nI_ge (by omega) (by omega)), fun _ => ⟨m0.k.1, m0.k.rd (f := 896) (k := 66) (n := 12600) (by decide) i3 ?_⟩⟩
      rw [i2, ei]
      have lt33 : nI (t.getD i 0) < 33 ↔ t.getD i 0 < 33 := nI_ltI (b := 33) (by omega) (by decide)
      have gt126 : 126 < nI (t.getD i 0) ↔ 126 < t.getD i 0 := nI_ltI (a := 126) (by decide) (by omega)
      by_cases z3 : t.getD i 0 = 37
      · -- a pair
        have n2 : ¬ (t.getD i 0 < 33 ∨ 126 < t.getD i 0) := by omega
        rw [if_neg n2, if_pos z3] at hp0
        simp only [if_neg n2, if_pos z3] at hp1
        refine ⟨fun w => absurd (by rw [z3]; rfl) w, fun _ => ?_⟩
        have bad : ∀ x10 y0 : Int32, (¬ x10 < 0 → 0 ≤ y0 → False) → (∀ G', mf E ow m A (Pk 916) G0 G' → Post 400 G') → pq_Md_requestLine_295 E mc ms Post (pq_Md_requestLine_188 E mc ms Post k) G 0 0 m (nI c) (nI li.length) (nI r.length) (nI (S + i)) (nI (t.getD i 0)) 1 x10 y0 := by
          intro x10 y0 hx hp
          unfold pq_Md_requestLine_295 pq_Md_requestLine_326
          exact ⟨fun _ => hp G m0, fun _ => ⟨fun _ => hp G m0, fun _ => ⟨fun w => absurd w (by decide), fun _ => ⟨fun _ => hp G m0, fun w => ⟨fun w2 => absurd (hx w w2) id, fun _ => hp G m0⟩⟩⟩⟩⟩
        unfold pq_Md_requestLine_221 pq_Md_requestLine_257 pq_Md_requestLine_258 pq_Md_requestLine_294
        rw [nI_c2, i1, nI_1, nI_c2]
        by_cases z4 : i + 2 < t.length
        · rw [if_pos z4] at hp0
          simp only [if_pos z4] at hp1
          have v1 : vp_in (nI (4200 * c + (S + i) + 1)) 12600 := vp_in_nI (by omega) (by decide)
          have v2 : vp_in (nI (4200 * c + (S + i) + 2)) 12600 := vp_in_nI (by omega) (by decide)
          have b1 : t.getD (i + 1) 0 < 256 := by rw [ta (i + 1) (by omega)]; exact hw.2.2.2 _ (tx_mem (by omega))
          have b2 : t.getD (i + 2) 0 < 256 := by rw [ta (i + 2) (by omega)]; exact hw.2.2.2 _ (tx_mem (by omega))
          have r1 : wo_ei G (A 896) (nI (4200 * c + (S + i) + 1)).toNatClampNeg = nI (t.getD (i + 1) 0) := by rw [nI_clamp (by omega), show 4200 * c + (S + i) + 1 = 4200 * c + (S + (i + 1)) by omega, hw.2.2.1 _ (by omega), ta (i + 1) (by omega)]
          have r2 : wo_ei G (A 896) (nI (4200 * c + (S + i) + 2)).toNatClampNeg = nI (t.getD (i + 2) 0) := by rw [nI_clamp (by omega), show 4200 * c + (S + i) + 2 = 4200 * c + (S + (i + 2)) by omega, hw.2.2.1 _ (by omega), ta (i + 2) (by omega)]
          have nle : ¬ nI li.length ≤ nI (S + i + 2) := nI_ge (by omega) (by omega)
          refine ⟨fun w => absurd w (by decide), fun _ => ⟨fun w => absurd w nle, fun _ => ⟨m0.k.1, m0.k.rd (f := 896) (k := 66) (n := 12600) (by decide) v1 ⟨0, 0, Nat.zero_le _, Nat.zero_le _, ?_⟩⟩⟩⟩
          rw [r1]
          refine sp_mhex b1 ⟨fun w => absurd w (by decide), fun _ => ⟨fun w => absurd w nle, fun _ => ⟨m0.k.1, m0.k.rd (f := 896) (k := 66) (n := 12600) (by decide) v2 ⟨0, 0, Nat.zero_le _, Nat.zero_le _, ?_⟩⟩⟩⟩
          rw [r2]
          refine sp_mhex b2 ?_
          cases e1 : hx_of (t.getD (i + 1) 0) with
          | none =>
            rw [e1] at hp0
            exact bad _ _ (fun w _ => absurd (by decide) w) (hp0 rfl)
          | some a =>
            cases e2 : hx_of (t.getD (i + 2) 0) with
            | none =>
              rw [e1, e2] at hp0
              exact bad _ _ (fun _ w => absurd w (by decide)) (hp0 rfl)
            | some b =>
              simp only [e1, e2] at hp0 hp1
              have ha := hx_lt e1
              have hb2 := hx_lt e2
              show pq_Md_requestLine_295 E mc ms Post (pq_Md_requestLine_188 E mc ms Post k) G 0 0 m (nI c) (nI li.length) (nI r.length) (nI (S + i)) (nI (t.getD i 0)) 1 (nI a) (nI b)
              unfold pq_Md_requestLine_295
              refine ⟨fun w => absurd (lt33.mp w) (by omega), fun _ => ⟨fun w => absurd (gt126.mp w) (by omega), fun _ => ⟨fun w => absurd w (by decide), fun _ => ⟨fun w => absurd w (nI_pos (by omega)), fun _ => ⟨fun _ => ?_, fun w => absurd (nI_pos' (by omega)) w⟩⟩⟩⟩⟩
              unfold pq_Md_requestLine_330
              refine ⟨fun w => absurd w (by decide), fun _ => ⟨0, 0, Nat.zero_le _, Nat.zero_le _, ?_⟩⟩
              rw [show (16 : Int32) = nI 16 from rfl, nI_lin]
              have e3 : S + i + 2 + 1 = S + (i + 3) := by omega
              refine sp_munres (by omega) ?_
              cases ep : pl_of (16 * a + b) with
              | true =>
                have epr : pr_of a b = [16 * a + b] := if_pos ep
                rw [epr] at hp0 hp1
                refine ⟨fun w => absurd w (by decide), fun _ => ⟨m0.k.1, m0.k.wr (f := 916) (k := 66) (n := 24) (by decide) (vp_in_nI (by omega) (by decide)) (fun G1 e4 => ?_)⟩⟩
                rw [nI_clamp (by omega)] at e4
                obtain ⟨m1, f1, k1⟩ := sp_rqPush m0 hk e4
                unfold pq_Md_requestLine_428 pq_Md_requestLine_442
                rw [nI_1, nI_c2, nI_1 (S + i + 2), e3]
                have ll : (r ++ [16 * a + b]).length = r.length + 1 := by simp
                have := ih (i + 3) (r ++ [16 * a + b]) G1 (by omega) (by omega) (by omega) (fun d hd => (List.mem_append.mp hd).elim (hrb d) (fun q => by have := List.mem_singleton.mp q; omega)) k1 m1 (hw.mf f1 (Pk_ne (by decide))) hp0 hp1
                rw [ll] at this
                exact ⟨fun w => absurd w (by decide), fun _ => this⟩
              | false =>
                have epr : pr_of a b = [37, dg_of a, dg_of b] := if_neg (by rw [ep]; decide)
                rw [epr] at hp0 hp1
                refine ⟨fun _ => ?_, fun w => absurd rfl w⟩
                unfold pq_Md_requestLine_368
                refine ⟨fun w => absurd w (by decide), fun _ => ⟨m0.k.1, m0.k.wr (f := 916) (k := 66) (n := 24) (by decide) (vp_in_nI (by omega) (by decide)) (fun G1 e4 => ?_)⟩⟩
                rw [nI_clamp (by omega)] at e4
                obtain ⟨m1, f1, k1⟩ := sp_rqPush (b := 37) m0 hk e4
                intro r19 hr19
                refine ⟨0, 0, Nat.zero_le _, Nat.zero_le _, sp_mdigit ha ?_⟩
                obtain ⟨a1, a2, a3, a4⟩ := m1.k.a (f := 916) (k := 66) (n := 24) (by decide)
                rw [nI_1]
                refine ⟨A 916, a1 _ hr19, a2, by rw [a3]; exact vp_in_nI (by omega) (by decide), a4, fun G2 e5 => ?_⟩
                have l1 : (r ++ [37]).length = r.length + 1 := by simp
                rw [nI_clamp (by omega), ← l1] at e5
                obtain ⟨m2, f2, k2⟩ := sp_rqPush m1 k1 e5
                refine ⟨m2.k.1, fun r32 hr32 => ⟨0, 0, Nat.zero_le _, Nat.zero_le _, sp_mdigit hb2 ?_⟩⟩
                obtain ⟨d1, d2, d3, d4⟩ := m2.k.a (f := 916) (k := 66) (n := 24) (by decide)
                rw [nI_c2]
                refine ⟨A 916, d1 _ hr32, d2, by rw [d3]; exact vp_in_nI (by omega) (by decide), d4, fun G3 e6 => ?_⟩
                have l2 : (r ++ [37] ++ [dg_of a]).length = r.length + 2 := by simp
                rw [nI_clamp (by omega), ← l2] at e6
                obtain ⟨m3, f3, k3⟩ := sp_rqPush m2 k2 e6
                unfold pq_Md_requestLine_428 pq_Md_requestLine_442
                rw [show (3 : Int32) = nI 3 from rfl, nI_add, nI_c2, nI_1 (S + i + 2), e3]
                have el : r ++ [37] ++ [dg_of a] ++ [dg_of b] = r ++ [37, dg_of a, dg_of b] := by simp
                rw [el] at k3
                have ll : (r ++ [37, dg_of a, dg_of b]).length = r.length + 3 := by simp
                have hd1 := dg_lt ha
                have hd2 := dg_lt hb2
                have := ih (i + 3) (r ++ [37, dg_of a, dg_of b]) G3 (by omega) (by omega) (by omega) (fun d hd => (List.mem_append.mp hd).elim (hrb d) (fun q => by simp at q; omega)) k3 m3 (((hw.mf f1 (Pk_ne (by decide))).mf f2 (Pk_ne (by decide))).mf f3 (Pk_ne (by decide))) hp0 hp1
                rw [ll] at this
                exact ⟨fun w => absurd w (by decide), fun _ => this⟩
        · rw [if_neg z4] at hp0
          have le : nI li.length ≤ nI (S + i + 2) := nI_le (by omega) (by omega)
          refine ⟨fun w => absurd w (by decide), fun _ => ⟨fun _ => ⟨fun w => absurd w (by decide), fun _ => ⟨fun _ => ?_, fun w => absurd le w⟩⟩, fun w => absurd le w⟩⟩
          exact bad _ _ (fun w _ => absurd (by decide) w) (hp0 rfl)
      · refine ⟨fun _ => ?_, fun w => absurd ((nI_eq (b := 37) (by omega) (by decide)).mp w) z3⟩
        unfold pq_Md_requestLine_221 pq_Md_requestLine_257 pq_Md_requestLine_258 pq_Md_requestLine_294 pq_Md_requestLine_295 pq_Md_requestLine_326
        refine ⟨fun _ => ⟨fun _ => ⟨fun w => ?_, fun w => ⟨fun w2 => ?_, fun w2 => ⟨fun _ => ?_, fun w => absurd rfl w⟩⟩⟩, fun w => absurd rfl w⟩, fun w => absurd rfl w⟩
        · rw [if_pos (Or.inl (lt33.mp w))] at hp0; exact hp0 rfl G m0
        · rw [if_pos (Or.inr (gt126.mp w2))] at hp0; exact hp0 rfl G m0
        · have n2 : ¬ (t.getD i 0 < 33 ∨ 126 < t.getD i 0) := fun q => q.elim (fun q => w (lt33.mpr q)) (fun q => w2 (gt126.mpr q))
          rw [if_neg n2, if_neg z3] at hp0
          simp only [if_neg n2, if_neg z3] at hp1
          unfold pq_Md_requestLine_330 pq_Md_requestLine_368
          refine ⟨fun _ => ⟨fun _ => ⟨m0.k.1, m0.k.wr (f := 916) (k := 66) (n := 24) (by decide) (vp_in_nI (by omega) (by decide)) (fun G1 e4 => ?_)⟩, fun w => absurd rfl w⟩, fun w => absurd rfl w⟩
          rw [nI_clamp (by omega)] at e4
          obtain ⟨m1, f1, k1⟩ := sp_rqPush m0 hk e4
          unfold pq_Md_requestLine_428 pq_Md_requestLine_442
          rw [nI_1, nI_1 (S + i), show S + i + 1 = S + (i + 1) by omega]
          have ll : (r ++ [t.getD i 0]).length = r.length + 1 := by simp
          have := ih (i + 1) (r ++ [t.getD i 0]) G1 (by omega) (by omega) (by omega) (fun d hd => (List.mem_append.mp hd).elim (hrb d) (fun q => by have := List.mem_singleton.mp q; omega)) k1 m1 (hw.mf f1 (Pk_ne (by decide))) hp0 hp1
          rw [ll] at this
          exact ⟨fun _ => this, fun w => absurd rfl w⟩
end MD
