section LW
variable {E : wo_E} {b L x m ca og so sh sj wl cap : Nat} {xs : Nat → Int32} {A : Nat → Nat} {cad : Nat → Nat}
set_option maxRecDepth 100000 in
theorem lw_loop (hL : L ≤ 2049) : ∀ (d i : Nat) (raf : Nat → Nat → Nat) (ow : Nat → Nat) (G : wo_W) (S : hdT) (now k c s : Nat), L ≤ 4 * i + 4 + 4 * d → LI E b L xs x m A ca cad og so sh sj wl cap i raf ow G S now k → c + ph 130 90 95 S ≤ 100000 + 80 * i → s + ph 3700 10300 15700 S ≤ 4000000 + 5000 * i → i ≤ 512 → pq_Lw_law_28 E 600000 7302250 lw_Po (d + 1) G c s (some b) x m (nI (4 * i + 1)) := by
  intro d
  induction d with
  | zero =>
    intro i raf ow G S now k c s hd h hc hs hi
    obtain ⟨c0, e0, r0, o0, hk, hn, s0⟩ := h
    unfold pq_Lw_law_28
    refine ⟨b, rfl, s0.2.1, fun _ => rfl, fun w => ?_⟩
    rw [s0.2.2.1] at w
    exact absurd ((li_sub (by omega) (by omega)).mpr (by omega)) w
  | succ d ih =>
    intro i raf ow G S now k c s hd h hc hs hi
    have hall := h
    obtain ⟨c0, e0, r0, o0, hk, hn, s0⟩ := h
    have es0 := s0
    obtain ⟨b1, b2, b3, b4⟩ := s0
    have e0 : ec_k E ow G x ca cad raf og so sh sj wl S.1 S.2.1 S.2.2.1 S.2.2.2.1 cap S.2.2.2.2.1 S.2.2.2.2.2 now := e0
    have tx : wo_ty G x = 1 := e0.1.1
    by_cases hend : L < 4 * i + 1 + 4
    · unfold pq_Lw_law_28
      refine ⟨b, rfl, b2, fun _ => rfl, fun w => ?_⟩
      rw [b3] at w
      exact absurd ((li_sub (by omega) (by omega)).mpr hend) w
    · have hi5 : i ≤ 511 := by omega
      have go : gon E b L xs x m A ca cad og so sh sj wl cap i (pq_Lw_law_28 E 600000 7302250 lw_Po (d + 1)) := by
        intro raf' ow' G' S' now' k' c' s' h' hc' hs'
        rw [show (4 : Int32) = nI 4 from rfl, nI_add, show 4 * i + 1 + 4 = 4 * (i + 1) + 1 by omega]
        exact ih (i + 1) raf' ow' G' S' now' k' c' s' (by omega) h' hc' hs' (by omega)
      have fin : pq_Lw_law_28 E 600000 7302250 lw_Po (d + 1) G (c + 0 + 0) (s + 0 + 0) (some b) x m (nI (4 * i + 1) + 4) := go raf ow G S now k _ _ (LI_same hall) (by omega) (by omega)
      have fin0 : pq_Lw_law_28 E 600000 7302250 lw_Po (d + 1) G c s (some b) x m (nI (4 * i + 1) + 4) := go raf ow G S now k _ _ (LI_same hall) (by omega) (by omega)
      have v1 : ∀ q, q < 4 → vp_in (nI (4 * i + 1) + nI q) L := fun q hq => by rw [nI_add]; exact vp_in_nI (by omega) (by omega)
      have w0 : vp_in (nI (4 * i + 1)) L := vp_in_nI (by omega) (by omega)
      have w1 : vp_in (nI (4 * i + 1) + 1) L := v1 1 (by decide)
      have w2 : vp_in (nI (4 * i + 1) + 2) L := v1 2 (by decide)
      have w3 : vp_in (nI (4 * i + 1) + 3) L := v1 3 (by decide)
      have rd : ∀ G', scr E G' b L xs → ∀ q, q < 4 → wo_ei G' b (nI (4 * i + 1) + nI q).toNatClampNeg = xs (4 * i + 1 + q) := fun G' s' q hq => by rw [nI_add, nI_clamp (by omega)]; exact s'.2.2.2 _ (by omega)
      have rd1 : ∀ G', scr E G' b L xs → wo_ei G' b (nI (4 * i + 1) + 1).toNatClampNeg = xs (4 * i + 1 + 1) := fun G' s' => rd G' s' 1 (by decide)
      have rd2 : ∀ G', scr E G' b L xs → wo_ei G' b (nI (4 * i + 1) + 2).toNatClampNeg = xs (4 * i + 1 + 2) := fun G' s' => rd G' s' 2 (by decide)
      have rd3 : ∀ G', scr E G' b L xs → wo_ei G' b (nI (4 * i + 1) + 3).toNatClampNeg = xs (4 * i + 1 + 3) := fun G' s' => rd G' s' 3 (by decide)
      have lc : c + 0 ≤ 600000 := by omega
      have ls : s + 0 ≤ 7302250 := by omega
      have lc2 : c + 0 + 0 ≤ 600000 := by omega
      have ls2 : s + 0 + 0 ≤ 7302250 := by omega
      have ty15 : wo_ty G m = 15 := r0.1.1
      have rw1 := rd1 G es0
      unfold pq_Lw_law_28 pq_Lw_law_425
      refine ⟨b, rfl, b2, fun _ => rfl, fun _ => ⟨by rw [b3]; exact w0, fun _ => ?_, fun _ => ?_, fun _ => ?_, fun _ => ?_, fun _ => ?_, fun _ => ?_, fun _ => ?_, fun _ => ?_, fun _ => ?_, fun _ => ?_, fun _ => ?_, fun _ => ?_, fun _ => ?_, fun _ => ?_, fun _ _ _ _ _ _ _ _ _ _ _ _ _ _ => fin0⟩⟩
      · rw [rw1, rd2 G es0, rd3 G es0]
        refine ⟨by rw [b3]; exact w1, by rw [b3]; exact w2, by rw [b3]; exact w3, tx, lw_feed hi5 hall hc hs go (fun mc8 ms9 v11 G10 s10 t10 inner => ?_)⟩
        refine ⟨s10.2.1, by rw [s10.2.2.1]; exact w1, by rw [s10.2.2.1]; exact w2, by rw [s10.2.2.1]; exact w3, t10, ?_⟩
        rw [rd1 G10 s10, rd2 G10 s10, rd3 G10 s10]
        exact inner
      · rw [rw1]
        refine ⟨by rw [b3]; exact w1, tx, lw_out hi5 hall hc hs go (fun mc8 ms9 v11 G10 s10 t10 inner => ?_)⟩
        refine ⟨s10.2.1, by rw [s10.2.2.1]; exact w1, t10, ?_⟩
        rw [rd1 G10 s10]
        exact inner
      · rw [rw1]
        refine ⟨by rw [b3]; exact w1, tx, 0, 0, lc, ls, sp_pending e0 (fun en => ⟨b2, by rw [b3]; exact w1, ty15, 0, 0, lc2, ls2, ?_⟩) (fun q eq => ⟨b2, by rw [b3]; exact w1, ty15, 0, 0, lc2, ls2, ?_⟩)⟩
        · rw [rw1]
          exact sp_mpending r0.1 r0.2.1 (fun _ => ⟨fun _ => fin, fun w => absurd rfl w⟩) (fun q eq => by rw [en] at eq; cases eq)
        · rw [rw1]
          exact sp_mpending r0.1 r0.2.1 (fun en => by rw [eq] at en; cases en) (fun q' eq' => by rw [eq] at eq'; cases eq'; exact ⟨fun _ => fin, fun w => absurd rfl w⟩)
      · rw [rw1]
        refine ⟨by rw [b3]; exact w1, tx, 0, 0, lc, ls, sp_waiting e0 (fun en => ⟨b2, by rw [b3]; exact w1, ty15, 0, 0, lc2, ls2, ?_⟩) (fun q eq => ⟨b2, by rw [b3]; exact w1, ty15, 0, 0, lc2, ls2, ?_⟩)⟩
        · rw [rw1]
          exact sp_mwaiting r0.1 r0.2.1 (fun _ => ⟨fun _ => fin, fun w => absurd rfl w⟩) (fun q eq => by rw [en] at eq; cases eq)
        · rw [rw1]
          exact sp_mwaiting r0.1 r0.2.1 (fun en => by rw [eq] at en; cases en) (fun q' eq' => by rw [eq] at eq'; cases eq'; exact ⟨fun _ => fin, fun w => absurd rfl w⟩)
      · rw [rw1]
        refine ⟨by rw [b3]; exact w1, tx, 0, 0, lc, ls, sp_open e0 (fun en => ⟨b2, by rw [b3]; exact w1, ty15, 0, 0, lc2, ls2, ?_⟩) (fun q eq => ⟨b2, by rw [b3]; exact w1, ty15, 0, 0, lc2, ls2, ?_⟩)⟩
        · rw [rw1]
          exact sp_mopen r0.1 r0.2.1 (fun _ => ⟨fun _ => fin, fun w => absurd rfl w⟩) (fun q eq => by rw [en] at eq; cases eq)
        · rw [rw1]
          exact sp_mopen r0.1 r0.2.1 (fun en => by rw [eq] at en; cases en) (fun q' eq' => by rw [eq] at eq'; cases eq'; exact ⟨fun _ => fin, fun w => absurd rfl w⟩)
      · rw [rw1]
        refine ⟨by rw [b3]; exact w1, tx, lw_pass hi5 hall hc hs go (fun mc8 ms9 v11 G10 s10 t10 inner => ?_)⟩
        refine ⟨s10.2.1, by rw [s10.2.2.1]; exact w1, t10, ?_⟩
        rw [rd1 G10 s10]
        exact inner
      · rw [rw1]
        refine ⟨by rw [b3]; exact w1, tx, lw_origin hi5 hall hc hs go (fun mc8 ms9 v11 G10 s10 t10 inner => ?_)⟩
        refine ⟨s10.2.1, by rw [s10.2.2.1]; exact w1, t10, ?_⟩
        rw [rd1 G10 s10]
        exact inner
      · rw [rw1]
        refine ⟨by rw [b3]; exact w1, tx, lw_arrive hi5 hall hc hs go (fun mc8 ms9 v11 G10 s10 t10 inner => ?_)⟩
        refine ⟨s10.2.1, by rw [s10.2.2.1]; exact w1, t10, ?_⟩
        rw [rd1 G10 s10]
        exact inner
      · rw [rw1]
        obtain ⟨W, us, o', q1, q2⟩ := mr_W r0
        refine ⟨by rw [b3]; exact w1, tx, 0, 0, lc, ls, sp_upstream e0 (fun u j hu ej => by have := (o0.2.2.1.2 u j hu ej).2.2.2.2.1; omega) (fun en => ⟨b2, by rw [b3]; exact w1, ty15, 0, 0, lc2, ls2, ?_⟩) (fun q eq => ⟨b2, by rw [b3]; exact w1, ty15, 0, 0, lc2, ls2, ?_⟩)⟩
        · rw [rw1]
          exact sp_mupstream r0.1 q2 (fun _ => ⟨fun _ => fin, fun w => absurd rfl w⟩) (fun q eq => by rw [en] at eq; cases eq)
        · rw [rw1]
          refine sp_mupstream r0.1 q2 (fun en => by rw [eq] at en; cases en) (fun q' eq' => ?_)
          rw [eq] at eq'
          cases eq'
          refine ⟨fun _ => fin, fun w => absurd ?_ w⟩
          rw [wq_u q1 q]
          cases us q with
          | none => rfl
          | some y => rfl
      · obtain ⟨W, us, o', q1, q2⟩ := mr_W r0
        have e1 : W.map (fun x => x.2.2) = S.2.2.2.2.1 := congrArg Prod.fst q1
        refine ⟨tx, 0, 0, lc, ls, sp_queue e0 ⟨ty15, 0, 0, lc2, ls2, sp_mqueue r0.1 q2 ⟨fun _ => fin, fun w => absurd ?_ w⟩⟩⟩
        rw [← e1, List.length_map]
      · obtain ⟨K, n', q1, q2⟩ := mr_K r0
        refine ⟨tx, 0, 0, lc, ls, sp_stored e0 ⟨ty15, 0, 0, lc2, ls2, sp_mstored r0.1 q2 ⟨fun _ => fin, fun w => absurd ?_ w⟩⟩⟩
        rw [← q1, List.length_map]
      · obtain ⟨K, n', q1, q2⟩ := mr_K r0
        refine ⟨tx, 0, 0, lc, ls, sp_bytes e0 ⟨ty15, 0, 0, lc2, ls2, sp_mbytes r0.1 q2 ⟨fun _ => fin, fun w => absurd ?_ w⟩⟩⟩
        rw [q1]
      · exact ⟨tx, 0, 0, lc, ls, sp_tag e0 ⟨ty15, 0, 0, lc2, ls2, sp_mtag r0.1 r0.2.2.2.1 ⟨fun _ => fin, fun w => absurd rfl w⟩⟩⟩
      · exact ⟨tx, 0, 0, lc, ls, sp_clock e0 ⟨ty15, 0, 0, lc2, ls2, sp_mclock r0.1 r0.2.2.2.2.2.2.1 ⟨fun _ => fin, fun w => absurd rfl w⟩⟩⟩
end LW
