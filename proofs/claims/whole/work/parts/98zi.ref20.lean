def Pst : Nat → Nat → Prop := fun f _ => f = 936
section MD
variable {E : wo_E} {mc ms m c s : Nat} {G0 G G1 G2 : wo_W} {ow : Nat → Nat} {A : Nat → Nat} {F K : Nat → Prop} {P Q : Nat → Nat → Prop} {L : slT} {n j : Nat} {q : rqT}
theorem sp_msame {Post : Int32 → wo_W → Prop} {pa : List Nat} (h : md_k E ow m A G) (hb : mss m A G L n) (hs : s < 20) (hj : j < 9) (hq : pt_ok (wo_el G (A 908) j) (wo_ei G (A 909) j) pa) (h0 : s ∉ L.map (fun x => x.1) → Post 0 G) (h1 : ∀ x ∈ L, x.1 = s → Post (bo_I (decide (x.2.2.2.1 = pa))) G) : pq_Md_samePath E mc ms Post G m (nI s) (nI j) := by
  obtain ⟨b1, b2, b3, b4, b5, b6⟩ := hb
  have vs : vp_in (nI s) 20 := vp_in_nI hs (by decide)
  have cs : (nI s).toNatClampNeg = s := nI_clamp (by omega)
  have vj : vp_in (nI j) 9 := vp_in_nI hj (by decide)
  have cj : (nI j).toNatClampNeg = j := nI_clamp (by omega)
  unfold pq_Md_samePath pq_Md_samePath_0 pq_Md_samePath_44 pq_Md_samePath_45
  refine ⟨h.1, h.rd (f := 936) (k := 72) (n := 20) (by decide) vs ?_⟩
  rw [cs, cj, b3 s hs]
  by_cases z : s ∈ L.map (fun x => x.1)
  · obtain ⟨x, hx, ex⟩ := List.mem_map.mp z
    have ex : x.1 = s := ex
    have hm := (b2 x hx).2.1.2.1
    rw [ex] at hm
    have pe := pt_eq hm hq
    have h1 := h1 x hx ex
    rw [decide_eq_true z]
    refine ⟨fun w => absurd w (by decide), fun _ => h.rd (f := 937) (k := 73) (n := 20) (by decide) vs (h.rd (f := 908) (k := 73) (n := 9) (by decide) vj ⟨fun w => ⟨tx_ok0, ?_⟩, fun w => h.rd (f := 938) (k := 66) (n := 20) (by decide) vs (h.rd (f := 909) (k := 66) (n := 9) (by decide) vj ⟨fun w2 => ⟨tx_ok0, ?_⟩, fun w2 => ⟨tx_ok1, ?_⟩⟩)⟩)⟩
    · rw [decide_eq_false (fun e => w ((lg_cmp_eq _ _).mpr (pe.mp e).1))] at h1; exact h1
    · rw [decide_eq_false (fun e => w2 (pe.mp e).2)] at h1; exact h1
    · rw [decide_eq_true (pe.mpr ⟨(lg_cmp_eq _ _).mp w, w2⟩)] at h1; exact h1
  · rw [decide_eq_false z]
    exact ⟨fun _ => ⟨tx_ok0, h0 z⟩, fun w => absurd rfl w⟩
theorem sp_mfits {Post : Int32 → wo_W → Prop} (h : md_k E ow m A G) (hb : mss m A G L n) (hs : s < 20) (hj : j < 9) (hq : vq_at A G j q) (h0 : s ∉ L.map (fun x => x.1) → Post 0 G) (h1 : ∀ x ∈ L, x.1 = s → Post (bo_I (ft_of q.2.1 (q.2.2.2 5) x.2.2)) G) : pq_Md_fits E mc ms Post G m (nI s) (nI j) := by
  have vs : vp_in (nI s) 20 := vp_in_nI hs (by decide)
  have vs4 : vp_in (nI s) 40 := vp_in_nI (by omega) (by decide)
  have cs : (nI s).toNatClampNeg = s := nI_clamp (by omega)
  obtain ⟨y1, y2, y3⟩ := ix8 (h := 5) hj (by decide)
  unfold pq_Md_fits pq_Md_fits_0 pq_Md_fits_63 pq_Md_fits_59 pq_Md_fits_64
  rw [show (5 : Int32) = nI 5 from rfl, y1]
  refine ⟨h.1, 0, 0, Nat.zero_le _, Nat.zero_le _, sp_msame h hb hs hj hq.2.1 (fun z => ⟨fun _ => ⟨tx_ok0, h0 z⟩, fun w => absurd rfl w⟩) (fun x hx ex => ?_)⟩
  have h1 := h1 x hx ex
  obtain ⟨a1, a2, a3, a4⟩ := hb.2.1 x hx
  rw [ex] at a2
  have ef : ft_of q.2.1 (q.2.2.2 5) x.2.2 = (decide (x.2.2.2.1 = q.2.1) && (!x.2.2.1.2.2.2.2 || decide (x.2.2.2.2.1 = q.2.2.2 5))) := rfl
  rw [ef] at h1
  cases z : decide (x.2.2.2.1 = q.2.1) with
  | false => rw [z] at h1; exact ⟨fun _ => ⟨tx_ok0, h1⟩, fun w => absurd rfl w⟩
  | true =>
    rw [z] at h1
    refine ⟨fun w => absurd w (by decide), fun _ => ⟨h.1, h.rd (f := 935) (k := 72) (n := 40) (by decide) vs4 ?_⟩⟩
    rw [cs, a2.1.2.2.2.2.2.2]
    cases zv : x.2.2.1.2.2.2.2 with
    | false => rw [zv] at h1; exact ⟨fun _ => ⟨tx_ok1, h1⟩, fun w => absurd rfl w⟩
    | true =>
      rw [zv] at h1
      have ve := vo_eq a2.2.2.1 (hq.2.2.2 5 (by decide))
      refine ⟨fun w => absurd w (by decide), fun _ => h.rd (f := 940) (k := 66) (n := 20) (by decide) vs (h.rd (f := 911) (k := 66) (n := 72) (by decide) y3 ?_)⟩
      rw [y2]
      refine ⟨fun w => ⟨tx_ok0, ?_⟩, fun w => h.rd (f := 939) (k := 73) (n := 20) (by decide) vs (h.rd (f := 910) (k := 73) (n := 72) (by decide) y3 ⟨fun w2 => ⟨tx_ok0, ?_⟩, fun w2 => ⟨tx_ok1, ?_⟩⟩)⟩
      · rw [decide_eq_false (fun e => w (ve.mp e).1)] at h1; exact h1
      · rw [decide_eq_false (fun e => w2 ((lg_cmp_eq _ _).mpr (ve.mp e).2))] at h1; exact h1
      · rw [decide_eq_true (ve.mpr ⟨w, (lg_cmp_eq _ _).mp w2⟩)] at h1; exact h1
theorem nbI_neg {st : Option (Option Nat)} (h : nb_v st < 10 ^ 8) : (nb_I st < 0 ↔ ∀ n, st ≠ some (some n)) ∧ (0 ≤ nb_I st ↔ ∃ n, st = some (some n)) := by
  cases st with
  | none => exact ⟨⟨fun _ n e => (by cases e), fun _ => by decide⟩, ⟨fun w => absurd w (by decide), fun ⟨n, e⟩ => (by cases e)⟩⟩
  | some o =>
    cases o with
    | none => exact ⟨⟨fun _ n e => (by cases e), fun _ => by decide⟩, ⟨fun w => absurd w (by decide), fun ⟨n, e⟩ => (by cases e)⟩⟩
    | some k =>
      have : k < 10 ^ 8 := h
      exact ⟨⟨fun w => absurd w (nI_pos (by omega)), fun w => absurd rfl (w k)⟩, ⟨fun _ => ⟨k, rfl⟩, fun _ => nI_pos' (by omega)⟩⟩
theorem sp_usable {Post : Int32 → wo_W → Prop} {now : Nat} {x : Nat × Nat × sdT} (h : md_k E ow m A G) (hb : mss m A G L n) (hx : x ∈ L) (hj : j < 9) (hq : vq_at A G j q) (hf : ft_of q.2.1 (q.2.2.2 5) x.2.2 = true) (hnow : wo_gi G 956 m = nI now) (hn : now < 2 ^ 30) (ht : x.2.2.2.2.2.1 ≤ now) (hp : Post (bo_I (ma_of x.2.2 q.2.2.2 now)) G) : pq_Md_usable E mc ms Post G m (nI x.1) (nI j) := by
  obtain ⟨a1, a2, a3, a4⟩ := hb.2.1 x hx
  have vs : vp_in (nI x.1) 20 := vp_in_nI a1 (by decide)
  have cs : (nI x.1).toNatClampNeg = x.1 := nI_clamp (by omega)
  have pl8 := a2.1.2.2.2.2.2.1.2.2.1
  have v4l : ∀ t, q.2.2.2 4 = some t → t.length ≤ 8 := by
    intro t e
    have := hq.2.2.2 4 (by decide)
    rw [e] at this
    exact this.2.2.1
  have nbo : ∀ y, nb_v (nb_o y (q.2.2.2 4)) < 10 ^ 8 := by
    intro y
    cases e : q.2.2.2 4 with
    | none => show (0 : Nat) < 10 ^ 8; decide
    | some t => exact nb_b (v4l t e)
  have nbp : ∀ y, nb_v (nb_of y x.2.2.1.2.2.2.1) < 10 ^ 8 := fun y => nb_b pl8
  have em : ma_of x.2.2 q.2.2.2 now = (decide (now - x.2.2.2.2.2.1 < lf_of x.2.2.1.2.2.2.1) && decide (nb_of 110 x.2.2.1.2.2.2.1 = none) && decide (nb_o 110 (q.2.2.2 4) = none) && (match nb_o 97 (q.2.2.2 4) with | some (some n) => decide (now - x.2.2.2.2.2.1 ≤ n) | _ => true)) := rfl
  have h38 : ∀ (st : Option (Option Nat)), nb_v st < 10 ^ 8 → (now - x.2.2.2.2.2.1 < lf_of x.2.2.1.2.2.2.1 ↔ now - x.2.2.2.2.2.1 < nb_v st ∧ ∃ n, st = some (some n)) → ∀ c s, c ≤ mc → s ≤ ms → pq_Md_usable_38 E mc ms Post G c s m (nI x.1) (nI j) (nI (now - x.2.2.2.2.2.1)) (nb_I st) := by
    intro st hst hlf c s hc hs
    have no : ma_of x.2.2 q.2.2.2 now = false → ∀ c s, pq_Md_usable_105 E mc ms Post G c s := by
      intro e c s
      rw [e] at hp
      unfold pq_Md_usable_105 pq_Md_usable_106
      exact ⟨tx_ok0, hp⟩
    have yes : ma_of x.2.2 q.2.2.2 now = true → ∀ c s, pq_Md_usable_101 E mc ms Post G c s := by
      intro e c s
      rw [e] at hp
      unfold pq_Md_usable_101 pq_Md_usable_106
      exact ⟨tx_ok1, hp⟩
    unfold pq_Md_usable_38
    refine ⟨h.1, 0, 0, hc, hs, sp_inValue (h := 4) (x := 97) h hq hj (by decide) (by decide) ⟨h.1, 0, 0, hc, hs, sp_mfits h hb a1 hj hq (fun z => absurd (List.mem_map.mpr ⟨x, hx, rfl⟩) z) (fun y hy ey => ?_)⟩⟩
    rw [nd_at hb.1 hy hx ey, hf]
    refine ⟨fun w => absurd w (by decide), fun _ => ⟨fun w => no ?_ _ _, fun w => ⟨h.1, 0, 0, hc, hs, sp_inPolicy (x := 110) h a2.1 (by omega) (by decide) ⟨fun w2 => no ?_ _ _, fun w2 => ⟨h.1, 0, 0, hc, hs, sp_inValue (h := 4) (x := 110) h hq hj (by decide) (by decide) ⟨fun w3 => no ?_ _ _, fun w3 => ?_⟩⟩⟩⟩⟩⟩
    · rw [em, decide_eq_false]
      · rfl
      · intro y
        obtain ⟨y1, k, y2⟩ := hlf.mp y
        rw [y2] at w y1 hst
        have y1 : now - x.2.2.2.2.2.1 < k := y1
        have hst : k < 10 ^ 8 := hst
        exact absurd w (nI_ge y1 (by omega))
    · have : decide (nb_of 110 x.2.2.1.2.2.2.1 = none) = false := decide_eq_false (fun e => w2 (by rw [e]; rfl))
      rw [em, this]
      simp
    · have : decide (nb_o 110 (q.2.2.2 4) = none) = false := decide_eq_false (fun e => w3 (by rw [e]; rfl))
      rw [em, this]
      simp
    · have z1 : now - x.2.2.2.2.2.1 < lf_of x.2.2.1.2.2.2.1 := by
        refine hlf.mpr ?_
        have w' := Int32.not_le.mp w
        cases st with
        | none => exact absurd (Int32.lt_of_le_of_lt (nI_pos' (by omega)) w') (by decide)
        | some o =>
          cases o with
          | none => exact absurd (Int32.lt_of_le_of_lt (nI_pos' (by omega)) w') (by decide)
          | some k =>
            have hst : k < 10 ^ 8 := hst
            exact ⟨(nI_ltI (by omega) (by omega)).mp w', k, rfl⟩
      have z2 : nb_of 110 x.2.2.1.2.2.2.1 = none := (nb_I2 (by have := nbp 110; omega)).mp w2
      have z3 : nb_o 110 (q.2.2.2 4) = none := (nb_I2 (by have := nbo 110; omega)).mp w3
      rw [decide_eq_true z1, decide_eq_true z2, decide_eq_true z3] at em
      simp only [Bool.true_and] at em
      have nn := nbI_neg (nbo 97)
      refine ⟨fun w4 => yes ?_ _ _, fun w4 => ?_⟩
      · rw [em]
        have := nn.1.mp w4
        cases e : nb_o 97 (q.2.2.2 4) with
        | none => rfl
        | some o =>
          cases o with
          | none => rfl
          | some k => exact absurd e (this k)
      · obtain ⟨k, ek⟩ := nn.2.mp (Int32.not_lt.mp w4)
        have kb := nbo 97
        rw [ek] at em kb
        have kb : k < 10 ^ 8 := kb
        rw [ek]
        refine ⟨fun w5 => no ?_ _ _, fun w5 => yes ?_ _ _⟩
        · rw [em]
          have := (nI_ltI (by omega) (by omega)).mp w5
          exact decide_eq_false (by omega)
        · rw [em]
          have : ¬ k < now - x.2.2.2.2.2.1 := fun z => w5 (nI_lt z (by omega))
          exact decide_eq_true (by omega)
  unfold pq_Md_usable pq_Md_usable_0
  refine ⟨h.1, h.rd (f := 941) (k := 66) (n := 20) (by decide) vs ⟨0, 0, Nat.zero_le _, Nat.zero_le _, ?_⟩⟩
  rw [cs, hnow, a2.2.2.2.1, pk_sub ht]
  refine sp_inPolicy (x := 115) h a2.1 (by omega) (by decide) ⟨fun w => ?_, fun w => ⟨h.1, 0, 0, Nat.zero_le _, Nat.zero_le _, sp_inPolicy (x := 109) h a2.1 (by omega) (by decide) ?_⟩⟩
  · obtain ⟨k, ek⟩ := (nbI_neg (nbp 115)).2.mp w
    refine h38 _ (nbp 115) ?_ _ _ (Nat.zero_le _) (Nat.zero_le _)
    have : lf_of x.2.2.1.2.2.2.1 = k := by unfold lf_of; rw [ek]
    rw [this, ek]
    exact ⟨fun z => ⟨z, k, rfl⟩, fun z => z.1⟩
  · have nk : ∀ k, nb_of 115 x.2.2.1.2.2.2.1 ≠ some (some k) := (nbI_neg (nbp 115)).1.mp (Int32.not_le.mp w)
    refine h38 _ (nbp 109) ?_ _ _ (Nat.zero_le _) (Nat.zero_le _)
    have : lf_of x.2.2.1.2.2.2.1 = nb_v (nb_of 109 x.2.2.1.2.2.2.1) := by
      unfold lf_of
      cases e : nb_of 115 x.2.2.1.2.2.2.1 with
      | none => rfl
      | some o =>
        cases o with
        | none => rfl
        | some k => exact absurd e (nk k)
    rw [this]
    refine ⟨fun z => ⟨z, ?_⟩, fun z => z.1⟩
    cases e : nb_of 109 x.2.2.1.2.2.2.1 with
    | none => rw [e] at z; exact absurd z (Nat.not_lt_zero _)
    | some o =>
      cases o with
      | none => rw [e] at z; exact absurd z (Nat.not_lt_zero _)
      | some k => exact ⟨k, rfl⟩
end MD
