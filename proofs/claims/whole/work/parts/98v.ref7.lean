def FS : Nat → Prop := fun f => FT f ∨ FP f
section MD
variable {E : wo_E} {mc ms m c s : Nat} {G0 G G1 G2 : wo_W} {ow : Nat → Nat} {A : Nat → Nat} {F K : Nat → Prop} {t : List Nat}
theorem nfS {l : List Nat} (h : ∀ f ∈ l, f ≠ 905 ∧ f ≠ 906 ∧ f ≠ 953 ∧ f ≠ 954) : nf FS l := fun f hf z => z.elim (fun z => z.elim (h f hf).1 (h f hf).2.1) (fun z => z.elim (h f hf).2.2.1 (h f hf).2.2.2)
theorem rs_l2 {g : List Nat} {n : Nat} {ps : List (Nat × Nat)} (h : rs_of g n = some ps) : ps.length ≤ 2 := by
  have np : ∀ (ps : List (Nat × Nat)) x y, ps.length ≤ 2 → (np_of ps x y).length ≤ 2 := by
    intro ps x y h
    unfold np_of
    split
    · rename_i q; simp; omega
    · exact h
  unfold rs_of at h
  split at h
  · split at h
    · cases h
    · cases h; exact np _ _ _ (by simp)
  · split at h
    · cases h
    · split at h
      · cases h
      · cases h; exact np _ _ _ (np _ _ _ (by simp))
theorem sp_mselect {Post : wo_W → Prop} {j r : Nat} {q : rqT} {p : rpT} {ag : Option Nat} (h : md_k E ow m A G) (hb : ow_b E ow G) (hq : vq_at A G j q) (hj : j < 9) (hr : rr_at A G r p) (hr40 : r < 40) (ha : ∀ n, ag = some n → n < 10 ^ 9) (hp : ∀ G', me E ow m A FS G G' → tb_at m A G' (sl_of q.1 q.2.2.2 p.1 p.2.2.1 p.2.1 p.2.2.2.1 p.2.2.2.2 ag) → Post G') : pq_Md_select E mc ms Post G m (nI j) (nI r) (wh_I ag) := by
  have nF : nf FT [929, 930, 931, 932, 933, 934, 935] := nfT (by decide)
  have vr40 : vp_in (nI r) 40 := vp_in_nI hr40 (by decide)
  have vj9 : vp_in (nI j) 9 := vp_in_nI hj (by decide)
  have cl : (nI r).toNatClampNeg = r := nI_clamp (by omega)
  have cj : (nI j).toNatClampNeg = j := nI_clamp (by omega)
  have hg := hr.2.2.2.2.1
  have hg31 : p.2.2.1 < 2 ^ 31 := by omega
  have hpo := hr.2.2.2.2.2.1.2.2.1
  have hbl := hr.2.2.1.2.2.1
  have tS : ∀ G', me E ow m A FT G G' → me E ow m A FS G G' := fun G' m' => m'.mn (fun f z => Or.inl z)
  -- the parts from behind
  have h179 : ∀ (G1 : wo_W) (o : Option (List (Nat × Nat))), me E ow m A FP G G1 → (∀ ps, o = some ps → fp_at A G1 ps ∧ ps.length ≤ 2 ∧ ∀ i, i < ps.length → (ps.getD i (0, 0)).1 ≤ (ps.getD i (0, 0)).2 ∧ (ps.getD i (0, 0)).2 < p.2.1.length) → (∀ G', me E ow m A FS G G' → tb_at m A G' (match o with | some ps => pt_of p.1 p.2.2.1 p.2.1 p.2.2.2.1 p.2.2.2.2 ag ps | none => hl_of p.1 p.2.2.1 p.2.1 p.2.2.2.1 p.2.2.2.2 ag (decide (q.1 = some 0))) → Post G') → pq_Md_select_179 E mc ms Post G1 0 0 m (nI j) (nI r) (wh_I ag) (rs_I o) := by
    intro G1 o m1 ho hp
    have nP1 : nf FP [929, 930, 931, 932, 933, 934, 935] := fun f hf z => by rcases z with z | z <;> (subst z; revert hf; decide)
    have nP2 : nf FP [907, 908, 909, 910, 911, 912, 913] := fun f hf z => by rcases z with z | z <;> (subst z; revert hf; decide)
    have hr1 := hr.me m1 nP1
    have hq1 := hq.me m1 nP2
    have j1 : ∀ G', me E ow m A FT G1 G' → me E ow m A FS G G' := fun G' m' => (m1.mn (fun f z => Or.inr z)).tr (m'.mn (fun f z => Or.inl z))
    unfold pq_Md_select_179 pq_Md_select_203 pq_Md_select_279
    cases o with
    | none =>
      refine ⟨fun w => absurd w (by decide), fun _ => ⟨m1.2.1.1, m1.2.1.rd (f := 907) (k := 66) (n := 9) (by decide) vj9 ?_⟩⟩
      obtain ⟨k, k1, k2, k3⟩ := hq1.1
      rw [cj, k3]
      refine ⟨fun w => ⟨m1.2.1.1, 0, 0, Nat.zero_le _, Nat.zero_le _, sp_mwhole (b := false) m1.2.1 m1.b hr1 hr40 ha (fun G2 m2 t2 => hp G2 (j1 G2 m2) ?_)⟩, fun w => ⟨m1.2.1.1, 0, 0, Nat.zero_le _, Nat.zero_le _, sp_mwhole (b := true) m1.2.1 m1.b hr1 hr40 ha (fun G2 m2 t2 => hp G2 (j1 G2 m2) ?_)⟩⟩
      · have : decide (q.1 = some 0) = false := by
          rw [k1]
          exact decide_eq_false (fun e => by cases e; exact w rfl)
        simp only [this]
        exact t2
      · have : decide (q.1 = some 0) = true := by
          rw [k1]
          have : k = 0 := (nI_eq (b := 0) (by omega) (by decide)).mp w
          rw [this]
          rfl
        simp only [this]
        exact t2
    | some ps =>
      obtain ⟨f1, f2, f3⟩ := ho ps rfl
      refine ⟨fun _ => ⟨fun w => ⟨m1.2.1.1, 0, 0, Nat.zero_le _, Nat.zero_le _, ?_⟩, fun w => ⟨m1.2.1.1, 0, 0, Nat.zero_le _, Nat.zero_le _, ?_⟩⟩, fun w => absurd (nI_pos' (by omega)) w⟩
      · have l1 : 1 ≤ ps.length := by
          have : ¬ ps.length = 0 := fun e => w (by show nI ps.length = 0; rw [e]; rfl)
          omega
        exact sp_mpart m1.2.1 m1.b hr1 hr40 ha f1 l1 f2 f3 (fun G2 m2 t2 => hp G2 (j1 G2 m2) t2)
      · have l0 : ps.length = 0 := (nI_eq (b := 0) (by omega) (by decide)).mp w
        unfold pt_of at hp
        simp only [] at hp
        rw [if_pos l0] at hp
        refine sp_mbegin (v := 416) (by decide) m1.2.1 m1.b (fun G2 m2 t2 => ⟨m2.2.1.1, ?_⟩)
        have l2 := bg_le (v := 416) (by decide)
        refine m2.na (b := 82) t2 (Nat.zero_le _) (Nat.zero_le _) (by omega) (fun G3 m3 t3 => ⟨m3.2.1.1, ?_⟩)
        have l3 := le_app l2 (show ([82, 58] : List Nat).length ≤ 2 by simp)
        refine m3.pu (b := 42) t3 (Nat.zero_le _) (Nat.zero_le _) (by omega) (fun G4 m4 t4 => ⟨m4.2.1.1, ?_⟩)
        have l4 := le_app l3 (show ([42] : List Nat).length ≤ 1 by simp)
        refine m4.pu (b := 47) t4 (Nat.zero_le _) (Nat.zero_le _) (by omega) (fun G5 m5 t5 => ⟨m5.2.1.1, m5.2.1.rd (f := 931) (k := 66) (n := 40) (by decide) vr40 ?_⟩)
        have l5 := le_app l4 (show ([47] : List Nat).length ≤ 1 by simp)
        rw [cl, (hr1.me m5 nF).2.2.1.2.1]
        refine m5.nu t5 (Nat.zero_le _) (Nat.zero_le _) (by omega) (by omega) (fun G6 m6 t6 => ⟨m6.2.1.1, ?_⟩)
        have l6 := le_app l5 (dc_1 (v := p.2.1.length) (by omega))
        refine m6.pu (b := 10) t6 (Nat.zero_le _) (Nat.zero_le _) (by omega) (fun G7 m7 t7 => ⟨m7.2.1.1, ?_⟩)
        have l7 := le_app l6 (show ([10] : List Nat).length ≤ 1 by simp)
        refine m7.li (b := 76) (v := 0) t7 (Nat.zero_le _) (Nat.zero_le _) (by decide) (by omega) (fun G8 m8 t8 => ⟨m8.2.1.1, ?_⟩)
        have l8 := le_app l7 (nl_le (x := 76) (v := 0) (by decide))
        refine m8.pu (b := 10) t8 (Nat.zero_le _) (Nat.zero_le _) (by omega) (fun G9 m9 t9 => hp G9 (j1 G9 m9) ?_)
        have e9 : bg_of 416 ++ [82, 58, 42, 47] ++ dc_of p.2.1.length ++ [10, 76, 58, 48, 10, 10] = bg_of 416 ++ [82, 58] ++ [42] ++ [47] ++ dc_of p.2.1.length ++ [10] ++ nl_of 76 0 ++ [10] := by
          have : nl_of 76 0 = [76, 58, 48, 10] := by rw [nl_of, dc_lo (by decide)]; rfl
          simp [this, List.append_assoc]
        rw [e9]
        exact t9
  have hsl : ¬ mo_of (q.2.2.2 0) p.2.2.1 = some false → ¬ mo_of (q.2.2.2 1) p.2.2.1 = some true → sl_of q.1 q.2.2.2 p.1 p.2.2.1 p.2.1 p.2.2.2.1 p.2.2.2.2 ag = (match rx_of q.1 q.2.2.2 p.2.2.1 p.2.1.length with | some ps => pt_of p.1 p.2.2.1 p.2.1 p.2.2.2.1 p.2.2.2.2 ag ps | none => hl_of p.1 p.2.2.1 p.2.1 p.2.2.2.1 p.2.2.2.2 ag (decide (q.1 = some 0))) := by
    intro n1 n2
    unfold sl_of
    rw [if_neg n1, if_neg n2]
    cases rx_of q.1 q.2.2.2 p.2.2.1 p.2.1.length <;> rfl
  have h136 : ¬ mo_of (q.2.2.2 0) p.2.2.1 = some false → ¬ mo_of (q.2.2.2 1) p.2.2.1 = some true → ∀ b : Bool, ak_of q.1 q.2.2.2 p.2.2.1 = b → (b = true → ∃ u, q.2.2.2 2 = some u) → pq_Md_select_136 E mc ms Post G 0 0 m (nI j) (nI r) (wh_I ag) (bo_I b) := by
    intro n1 n2 b hb1 hb2
    have hp2 := hp
    rw [hsl n1 n2] at hp2
    unfold rx_of at hp2
    unfold pq_Md_select_136
    cases b with
    | false =>
      rw [hb1, if_neg (by simp)] at hp2
      exact ⟨fun _ => h179 G none (me.rf h hb) (fun ps e => (by cases e)) hp2, fun w => absurd rfl w⟩
    | true =>
      obtain ⟨u, hu⟩ := hb2 rfl
      rw [hb1, if_pos rfl, hu] at hp2
      have vo := hq.2.2.2 2 (by decide)
      rw [hu] at vo
      obtain ⟨v1, v2, v3, v4⟩ := vo
      obtain ⟨i1, i2, i3⟩ := ix8 (h := 2) hj (by decide)
      refine ⟨fun w => absurd w (by decide), fun _ => ⟨h.1, ?_⟩⟩
      rw [show (2 : Int32) = nI 2 from rfl, i1]
      refine h.rd (f := 910) (k := 73) (n := 72) (by decide) i3 (h.rd (f := 911) (k := 66) (n := 72) (by decide) i3 (h.rd (f := 931) (k := 66) (n := 40) (by decide) vr40 ⟨0, 0, Nat.zero_le _, Nat.zero_le _, ?_⟩))
      rw [i2, v1, v2, cl, hr.2.2.1.2.1]
      exact sp_pieces v4 v3 hbl h hb (fun G1 m1 f1 => h179 G1 _ m1 (fun ps e => ⟨f1 ps e, rs_l2 e, rs_b e⟩) hp2)
  have h73 : ¬ mo_of (q.2.2.2 0) p.2.2.1 = some false → ¬ mo_of (q.2.2.2 1) p.2.2.1 = some true → pq_Md_select_73 E mc ms Post G 0 0 m (nI j) (nI r) (wh_I ag) (nI p.2.2.1) := by
    intro n1 n2
    obtain ⟨k, k1, k2, k3⟩ := hq.1
    unfold pq_Md_select_73 pq_Md_select_135 pq_Md_select_131
    refine ⟨h.1, h.rd (f := 907) (k := 66) (n := 9) (by decide) vj9 ?_⟩
    rw [cj, k3]
    refine ⟨fun w => h136 n1 n2 false ?_ (fun e => (by cases e)), fun w => ⟨0, 0, Nat.zero_le _, Nat.zero_le _, sp_has (h := 2) h hq hj (by decide) ⟨fun w2 => h136 n1 n2 false ?_ (fun e => (by cases e)), fun w2 => ⟨h.1, 0, 0, Nat.zero_le _, Nat.zero_le _, sp_has (h := 3) h hq hj (by decide) ⟨fun w3 => ?_, fun w3 => ?_⟩⟩⟩⟩⟩
    · unfold ak_of
      rw [if_neg (fun e => by rw [k1] at e; have := e.1; cases this; exact w rfl)]
    · unfold ak_of
      rw [if_neg (fun e => ?_)]
      cases e2 : q.2.2.2 2 with
      | none => exact e.2 e2
      | some u => rw [e2] at w2; exact absurd w2 bo_s
    all_goals
      have hk0 : k = 0 := (nI_eq (b := 0) (by omega) (by decide)).mp w
      have hu2 : ∃ u, q.2.2.2 2 = some u := by
        cases e2 : q.2.2.2 2 with
        | none => rw [e2] at w2; exact absurd rfl w2
        | some u => exact ⟨u, rfl⟩
      have hak : ak_of q.1 q.2.2.2 p.2.2.1 = (match q.2.2.2 3 with | none => true | some t => decide (wh_of t = some p.2.2.1)) := by
        obtain ⟨u, hu⟩ := hu2
        unfold ak_of
        rw [if_pos ⟨by rw [k1, hk0], by rw [hu]; simp⟩]
        cases q.2.2.2 3 <;> rfl
    · refine h136 n1 n2 true ?_ (fun _ => hu2)
      rw [hak]
      cases e3 : q.2.2.2 3 with
      | none => rfl
      | some u => rw [e3] at w3; exact absurd w3 bo_s
    · cases e3 : q.2.2.2 3 with
      | none => rw [e3] at w3; exact absurd rfl w3
      | some u =>
        rw [e3] at hak
        have vo := hq.2.2.2 3 (by decide)
        rw [e3] at vo
        obtain ⟨v1, v2, v3, v4⟩ := vo
        obtain ⟨i1, i2, i3⟩ := ix8 (h := 3) hj (by decide)
        refine ⟨h.1, ?_⟩
        rw [show (3 : Int32) = nI 3 from rfl, i1]
        refine h.rd (f := 910) (k := 73) (n := 72) (by decide) i3 (h.rd (f := 911) (k := 66) (n := 72) (by decide) i3 ⟨0, 0, Nat.zero_le _, Nat.zero_le _, ?_⟩)
        rw [i2, v1, v2]
        refine sp_mdigits (p := 0) v4 v3 (Nat.le_refl _) (by omega) ?_
        rw [tx_sub_all]
        refine ⟨fun w4 => h136 n1 n2 false ?_ (fun e => (by cases e)), fun w4 => h136 n1 n2 true ?_ (fun _ => hu2)⟩
        · rw [hak]
          exact decide_eq_false (fun e => w4 ((wh_eq v3 hg31).mpr e))
        · rw [hak]
          exact decide_eq_true ((wh_eq v3 hg31).mp w4)
  have h37 : ¬ mo_of (q.2.2.2 0) p.2.2.1 = some false → pq_Md_select_37 E mc ms Post G 0 0 m (nI j) (nI r) (wh_I ag) (nI p.2.2.1) := by
    intro n1
    unfold pq_Md_select_37
    refine ⟨h.1, 0, 0, Nat.zero_le _, Nat.zero_le _, sp_has (h := 1) h hq hj (by decide) ?_⟩
    cases e : q.2.2.2 1 with
    | none => exact ⟨fun _ => h73 n1 (by rw [e]; simp [mo_of]), fun w => absurd rfl w⟩
    | some u =>
      refine ⟨fun w => absurd w bo_s, fun _ => ⟨h.1, 0, 0, Nat.zero_le _, Nat.zero_le _, sp_mmatches (h := 1) h hq hj (by decide) e hg31 ?_⟩⟩
      have emo : mo_of (q.2.2.2 1) p.2.2.1 = some (mt_of u p.2.2.1) := by rw [e]; rfl
      cases e2 : mt_of u p.2.2.1 with
      | false => exact ⟨fun _ => h73 n1 (by rw [emo, e2]; simp), fun w => absurd rfl w⟩
      | true =>
        refine ⟨fun w => absurd w (by decide), fun _ => ⟨h.1, 0, 0, Nat.zero_le _, Nat.zero_le _, sp_mhead (cd := 304) (by decide) h hb hr hr40 ha (fun G1 m1 t1 => ⟨m1.2.1.1, m1.pu (b := 10) t1 (Nat.zero_le _) (Nat.zero_le _) ?_ (fun G2 m2 t2 => hp G2 (tS G2 m2) ?_)⟩)⟩⟩
        · have := ds_le (cd := 304) (l := p.1) (g := p.2.2.1) (po := p.2.2.2.1) (vr := p.2.2.2.2) (ag := ag) (by decide) hg hpo ha
          omega
        · have : sl_of q.1 q.2.2.2 p.1 p.2.2.1 p.2.1 p.2.2.2.1 p.2.2.2.2 ag = ds_of 304 p.1 p.2.2.1 p.2.2.2.1 p.2.2.2.2 ag ++ [10] := by
            unfold sl_of
            rw [if_neg n1, if_pos (by rw [emo, e2])]
          rw [this]
          exact t2
  unfold pq_Md_select pq_Md_select_0
  refine ⟨h.1, h.rd (f := 932) (k := 66) (n := 40) (by decide) vr40 ⟨0, 0, Nat.zero_le _, Nat.zero_le _, ?_⟩⟩
  rw [cl, hr.2.2.2.1]
  refine sp_has (h := 0) h hq hj (by decide) ?_
  cases e : q.2.2.2 0 with
  | none => exact ⟨fun _ => h37 (by rw [e]; simp [mo_of]), fun w => absurd rfl w⟩
  | some u =>
    refine ⟨fun w => absurd w bo_s, fun _ => ⟨h.1, 0, 0, Nat.zero_le _, Nat.zero_le _, sp_mmatches (h := 0) h hq hj (by decide) e hg31 ?_⟩⟩
    have emo : mo_of (q.2.2.2 0) p.2.2.1 = some (mt_of u p.2.2.1) := by rw [e]; rfl
    cases e2 : mt_of u p.2.2.1 with
    | true => exact ⟨fun _ => h37 (by rw [emo, e2]; simp), fun w => absurd w (by decide)⟩
    | false =>
      refine ⟨fun w => absurd rfl w, fun _ => ⟨h.1, 0, 0, Nat.zero_le _, Nat.zero_le _, sp_plain (v := 412) (by decide) h hb (fun G1 m1 t1 => hp G1 (tS G1 m1) ?_)⟩⟩
      have : sl_of q.1 q.2.2.2 p.1 p.2.2.1 p.2.1 p.2.2.2.1 p.2.2.2.2 ag = ba_of 412 0 := by
        unfold sl_of
        rw [if_pos (by rw [emo, e2])]
      rw [this]
      exact t1
end MD
