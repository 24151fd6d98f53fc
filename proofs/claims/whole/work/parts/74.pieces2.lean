theorem nI_nm1 {n : Nat} (h : n < 2 ^ 31) : ¬ nI n = (-1 : Int32) := fun q => nI_pos h (by rw [q]; decide)
theorem nI_max0 {n k : Nat} (hn : n < 2 ^ 30) (hk : k < 2 ^ 30) : wo_max 0 (nI n - nI k) = nI (n - k) := by
  rcases Nat.lt_or_ge n k with q | q
  · have h := pk_sneg (a := n) hk q
    unfold wo_max
    rw [if_neg, show n - k = 0 by omega]
    · rfl
    · intro z
      rw [Int32.lt_iff_toInt_lt] at h z
      have : (0 : Int32).toInt = 0 := by decide
      omega
  · rw [pk_sub q]
    have := nI_max (a := 0) (b := n - k) (by decide) (by omega)
    rw [show wo_max 0 (nI (n - k)) = wo_max (nI 0) (nI (n - k)) from rfl, this, Nat.max_eq_right (Nat.zero_le _)]
theorem nI_minp {n k : Nat} (hn : n < 2 ^ 30) (hk : k < 2 ^ 30) : wo_min (nI k) (nI n - 1) = nI (min (k + 1) n) - 1 := by
  unfold wo_min
  by_cases q : k < n
  · rw [if_neg (fun z => (nI_ltp hk hn).mp z q), Nat.min_eq_left (by omega), nI_pred]
  · rw [if_pos ((nI_ltp hk hn).mpr q), Nat.min_eq_right (by omega)]
section SP
variable {E : wo_E} {mc ms : Nat} {G G0 : wo_W} {z f l b : Nat} {ps : List (Nat × Nat)} {g : List Nat}
theorem sp_readPiece {Post : Int32 → wo_W → Prop} {n : Nat} (h : pc_at E G z f l ps) (hS : tx_S G b g) (hg : g.length ≤ 8) (hn : n < 2 ^ 30) (hp0 : ri_of g n = none → Post 0 G)
    (hp : ∀ x y G', ri_of g n = some (x, y) → pc_at E G' z f l (np_of ps x y) → fr_W (pc_W z f l) G G' → (∀ a, wo_ty G' a = wo_ty G a) → wo_gr G' 192 z = wo_gr G 192 z → Post 1 G') : pq_Sh_readPiece E mc ms Post G z (some b) (nI n) := by
  have h1 := h.1
  unfold pq_Sh_readPiece pq_Sh_readPiece_0
  refine ⟨b, rfl, hS.1, 0, 0, by omega, by omega, sp_indexOf (ch := 45) hS (by decide) (fun q => ?_) (fun i hi q1 q2 => ?_)⟩
  · have hd := ix_no 45 g q
    exact ⟨fun q2 => absurd q2 (by decide), fun _ => hp0 (by unfold ri_of; rw [if_pos hd])⟩
  · have hd := ix_at 45 g i hi q1 q2
    refine ⟨fun _ => ⟨0, 0, by omega, by omega, sp_whole (p := 0) hS (Nat.zero_le _) (by omega) ⟨hS.1, 0, 0, by omega, by omega, sp_length hS ⟨0, 0, by omega, by omega, ?_⟩⟩⟩, fun q3 => absurd (nI_pos' (by omega)) q3⟩
    rw [nI_1]
    refine sp_whole hS (by omega) (Nat.le_refl _) ?_
    unfold ri_of at hp0 hp
    rw [hd, if_neg (show ¬ i = g.length by omega)] at hp0
    simp only [hd, if_neg (show ¬ i = g.length by omega)] at hp
    generalize hL : wh_of (tx_sub g 0 i) = L at hp0 hp ⊢
    generalize hR : wh_of (tx_sub g (i + 1) g.length) = R at hp0 hp ⊢
    have bL : ∀ m, L = some m → m < 2 ^ 30 := fun m e => by have := wh_b (Nat.le_trans tx_sub_le hg) (hL.trans e); omega
    have bR : ∀ m, R = some m → m < 2 ^ 30 := fun m e => by have := wh_b (Nat.le_trans tx_sub_le hg) (hR.trans e); omega
    have L0 : i = 0 → L = none := fun e => by rw [← hL, tx_sub_nil (by omega)]; rfl
    have R0 : i + 1 = g.length → R = none := fun e => by rw [← hR, tx_sub_nil (by omega)]; rfl
    have note : ∀ x y c s, x < 2 ^ 30 → y < 2 ^ 30 → (∀ G', pc_at E G' z f l (np_of ps x y) → fr_W (pc_W z f l) G G' → (∀ a, wo_ty G' a = wo_ty G a) → wo_gr G' 192 z = wo_gr G 192 z → Post 1 G') → c ≤ mc → s ≤ ms → (wo_ty G z = 4 ∧ ∃ mc2 ms3 : Nat, (c + mc2) ≤ mc ∧ (s + ms3) ≤ ms ∧ pq_Sh_notePiece E mc2 ms3 (fun G4 => Post 1 G4) G z (nI x) (nI y - 1)) :=
      fun x y c s hx hy hq hc hs => ⟨h1, 0, 0, hc, hs, sp_note h hx hy hq⟩
    have e43 : ∀ (y0 : Int32), (y0 = bo_I (decide (i = 0))) → pq_Sh_readPiece_43 E mc ms Post G 0 0 z (some b) (nI n) (nI i) (wh_I L) (wh_I R) y0 := by
      intro y0 hy0
      unfold pq_Sh_readPiece_43
      have e60 : ∀ (y1 : Int32), (y1 = bo_I (decide (i + 1 = g.length))) → pq_Sh_readPiece_60 E mc ms Post G 0 0 z (nI n) (wh_I L) (wh_I R) y0 y1 := by
        intro y1 hy1
        have x6 : (y0 = 0) = ¬ i = 0 := by
          rw [hy0]
          by_cases w : i = 0
          · rw [decide_eq_true w]; exact propext ⟨fun q => absurd q (by decide), fun q => absurd w q⟩
          · rw [decide_eq_false w]; exact propext ⟨fun _ => w, fun _ => rfl⟩
        have x7 : (y1 = 0) = ¬ i + 1 = g.length := by
          rw [hy1]
          by_cases w : i + 1 = g.length
          · rw [decide_eq_true w]; exact propext ⟨fun q => absurd q (by decide), fun q => absurd w q⟩
          · rw [decide_eq_false w]; exact propext ⟨fun _ => w, fun _ => rfl⟩
        have x4 : (wh_I L = -1) = (L = none) := by
          cases hc : L with
          | none => exact propext ⟨fun _ => rfl, fun _ => rfl⟩
          | some m => exact propext ⟨fun q => absurd q (nI_nm1 (by have := bL m hc; omega)), fun q => absurd q (by simp)⟩
        have x5 : (wh_I R = -1) = (R = none) := by
          cases hc : R with
          | none => exact propext ⟨fun _ => rfl, fun _ => rfl⟩
          | some m => exact propext ⟨fun q => absurd q (nI_nm1 (by have := bR m hc; omega)), fun q => absurd q (by simp)⟩
        have p115 : ¬ (L = none ∧ ¬ i = 0 ∨ R = none ∧ ¬ i + 1 = g.length) → ¬ (i = 0 ∧ i + 1 = g.length ∨ ¬ i = 0 ∧ ¬ i + 1 = g.length ∧ R.getD 0 < L.getD 0) → pq_Sh_readPiece_115 E mc ms Post G 0 0 z (nI n) (wh_I L) (wh_I R) y0 y1 := by
          intro c1 c2
          simp only [if_neg c1, if_neg c2] at hp
          unfold pq_Sh_readPiece_115 pq_Sh_readPiece_160 pq_Sh_readPiece_163
          rw [x6, x7]
          refine ⟨fun w6 => ?_, fun w6 => ?_⟩
          · cases hc : L with
            | none => exact absurd (Or.inl ⟨hc, w6⟩) c1
            | some m =>
              have hm := bL m hc
              simp only [if_neg w6, hc, Option.getD_some] at hp
              refine ⟨fun w7 => ?_, fun w7 => ?_⟩
              · cases hc2 : R with
                | none => exact absurd (Or.inr ⟨hc2, w7⟩) c1
                | some r =>
                  have hr := bR r hc2
                  simp only [if_neg w7, hc2, Option.getD_some] at hp
                  show _ ∧ ∃ mc2 ms3 : Nat, _ ∧ _ ∧ pq_Sh_notePiece E mc2 ms3 _ G z (nI m) (wo_min (nI r) (nI n - 1))
                  rw [nI_minp hn hr]
                  exact note m (min (r + 1) n) 0 0 hm (by omega) (fun G' => hp m _ G' rfl) (Nat.zero_le _) (Nat.zero_le _)
              · have w7' : i + 1 = g.length := Classical.byContradiction w7
                simp only [if_pos w7'] at hp
                exact note m n 0 0 hm hn (fun G' => hp m _ G' rfl) (Nat.zero_le _) (Nat.zero_le _)
          · have w6' : i = 0 := Classical.byContradiction w6
            simp only [if_pos w6'] at hp
            cases hc2 : R with
            | none => exact absurd (Classical.byContradiction (fun w7 => c1 (Or.inr ⟨hc2, w7⟩))) (fun w7 => c2 (Or.inl ⟨w6', w7⟩))
            | some r =>
              have hr := bR r hc2
              simp only [hc2, Option.getD_some] at hp
              show _ ∧ ∃ mc2 ms3 : Nat, _ ∧ _ ∧ pq_Sh_notePiece E mc2 ms3 _ G z (wo_max 0 (nI n - nI r)) (nI n - 1)
              rw [nI_max0 hn hr]
              exact note (n - r) n 0 0 (by omega) hn (fun G' => hp _ _ G' rfl) (Nat.zero_le _) (Nat.zero_le _)
        have p96 : ¬ (L = none ∧ ¬ i = 0 ∨ R = none ∧ ¬ i + 1 = g.length) → ¬ (i = 0 ∧ i + 1 = g.length) → pq_Sh_readPiece_96 E mc ms Post G 0 0 z (nI n) (wh_I L) (wh_I R) y0 y1 := by
          intro c1 c2
          unfold pq_Sh_readPiece_96 pq_Sh_readPiece_113
          rw [x6, x7]
          refine ⟨fun w6 => p115 c1 ?_, fun w6 => ⟨fun w7 => p115 c1 ?_, fun w7 => ⟨fun w => p115 c1 ?_, fun w => hp0 ?_⟩⟩⟩
          · intro q; rcases q with q | q
            · exact c2 q
            · exact w6 q.1
          · intro q; rcases q with q | q
            · exact c2 q
            · exact w7 q.2.1
          · intro q; rcases q with q | q
            · exact c2 q
            · cases hc : L with
              | none => exact c1 (Or.inl ⟨hc, w6⟩)
              | some m =>
                cases hc2 : R with
                | none => exact c1 (Or.inr ⟨hc2, w7⟩)
                | some r =>
                  rw [hc, hc2] at w q
                  have h3 := (nI_leI (a := m) (b := r) (by have := bL m hc; omega) (by have := bR r hc2; omega)).mp w
                  have h4 : r < m := q.2.2
                  omega
          · rw [if_neg c1, if_pos]
            refine Or.inr ⟨w6, w7, ?_⟩
            cases hc : L with
            | none => exact absurd (Or.inl ⟨hc, w6⟩) c1
            | some m =>
              cases hc2 : R with
              | none => exact absurd (Or.inr ⟨hc2, w7⟩) c1
              | some r =>
                rw [hc, hc2] at w
                show r < m
                rcases Nat.lt_or_ge r m with h3 | h3
                · exact h3
                · exact absurd (nI_le h3 (by have := bR r hc2; omega)) w
        have p86 : ¬ (L = none ∧ ¬ i = 0 ∨ R = none ∧ ¬ i + 1 = g.length) → pq_Sh_readPiece_86 E mc ms Post G 0 0 z (nI n) (wh_I L) (wh_I R) y0 y1 := by
          intro c1
          unfold pq_Sh_readPiece_86 pq_Sh_readPiece_113
          rw [x6, x7]
          refine ⟨fun w6 => p96 c1 (fun q => w6 q.1), fun w6 => ⟨fun w7 => hp0 ?_, fun w7 => p96 c1 (fun q => w7 q.2)⟩⟩
          rw [if_neg c1, if_pos (Or.inl ⟨Classical.byContradiction w6, Classical.byContradiction w7⟩)]
        have p73 : ¬ (L = none ∧ ¬ i = 0) → pq_Sh_readPiece_73 E mc ms Post G 0 0 z (nI n) (wh_I L) (wh_I R) y0 y1 := by
          intro c1
          unfold pq_Sh_readPiece_73 pq_Sh_readPiece_84
          rw [x5, x7]
          refine ⟨fun w5 => p86 (fun q => q.elim c1 (fun q => w5 q.1)), fun w5 => ⟨fun w7 => p86 (fun q => q.elim c1 (fun q => w7 q.2)), fun w7 => hp0 ?_⟩⟩
          rw [if_pos (Or.inr ⟨w5, w7⟩)]
        unfold pq_Sh_readPiece_60 pq_Sh_readPiece_84
        rw [x4, x6]
        refine ⟨fun w4 => p73 (fun q => w4 q.1), fun w4 => ⟨fun w6 => hp0 ?_, fun w6 => p73 (fun q => w6 q.2)⟩⟩
        rw [if_pos (Or.inl ⟨w4, w6⟩)]
      refine ⟨b, rfl, hS.1, 0, 0, by omega, by omega, sp_length hS ?_⟩
      have hgl := hS.2.2.1
      rw [nI_pm (by omega)]
      refine ⟨fun q => e60 0 ?_, fun q => e60 1 ?_⟩
      · have w : ¬ i + 1 = g.length := fun w => q (by rw [show i = g.length - 1 by omega])
        rw [decide_eq_false w]; rfl
      · have w := (nI_eq (by omega) (by omega)).mp q
        rw [decide_eq_true (show i + 1 = g.length by omega)]; rfl
    refine ⟨fun q => e43 0 ?_, fun q => e43 1 ?_⟩
    · have w : ¬ i = 0 := fun w => q (by rw [w]; rfl)
      rw [decide_eq_false w]; rfl
    · have w : i = 0 := (nI_eq (b := 0) (by omega) (by decide)).mp q
      rw [decide_eq_true w]; rfl
end SP
