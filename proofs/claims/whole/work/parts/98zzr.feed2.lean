section MD
variable {E : wo_E} {mc ms m c s b k cap now tg o : Nat} {G0 G G1 G2 : wo_W} {ow : Nat → Nat} {A : Nat → Nat} {P Q : Nat → Nat → Prop} {S : hdT}
theorem mr_up {U : Nat} (h : mr E ow m A G S cap now k) (hu : k ≤ U) : mr E ow m A G S cap now U := ⟨h.1, h.2.1, mo_up h.2.2 hu⟩
theorem sok_up {U : Nat} (h : sok S cap now k) (hu : k ≤ U) : sok S cap now U := by
  obtain ⟨h1, h2, h3, h4, h5, h6, h7, h8⟩ := h
  exact ⟨fun c hc => ⟨(h1 c hc).1, Nat.le_trans (h1 c hc).2 hu⟩, h2, aj_mn h3 (fun j hj => jb_up hj hu (Nat.le_refl _)), os_up h4 hu, Nat.le_trans h5 hu, so_up h6 hu (Nat.le_refl _), h7, h8⟩
theorem sp_mfLoop {Post : Int32 → wo_W → Prop} {e : Int64} (hc : c < 3) : ∀ (j n : Nat) (S : hdT) (k : Nat) (G : wo_W), j ≤ 8 → k + j + 1 < 4200 → sok S cap now k → mr E ow m A G S cap now k → mf E ow m A PT G0 G → (∀ G', mf E ow m A PT G0 G' → mr E ow m A G' (fl_of c now (bl_of e j) S n).1 cap now (k + j) → sok (fl_of c now (bl_of e j) S n).1 cap now (k + j) → Post (nI (fl_of c now (bl_of e j) S n).2) G') → pq_Md_feed_18 E mc ms Post (j + 1) G 0 0 m (nI c) e (nI n) (nI j - 1) := by
  intro j
  induction j with
  | zero =>
    intro n S k G hj hk hs h m0 hp
    unfold pq_Md_feed_18
    exact ⟨fun _ => hp G m0 h hs, fun w => absurd (by decide) w⟩
  | succ j ih =>
    intro n S k G hj hk hs h m0 hp
    obtain ⟨bz, bl⟩ := bt_eq (wo_lushr e (nI (8 * j))).toInt32
    have e1 : nI (j + 1) - 1 = nI j := by rw [nI_pm (by omega)]; rfl
    have e2 : nI j + (-1 : Int32) = nI j - 1 := (Int32.sub_eq_add_neg _ _).symm
    have e8 : (8 : Int32) * nI j = nI (8 * j) := by rw [show (8 : Int32) = nI 8 from rfl, pk_mul]
    have eb : bl_of e (j + 1) = bt_z (wo_lushr e (nI (8 * j))).toInt32 :: bl_of e j := rfl
    rw [eb] at hp
    unfold fl_of at hp
    unfold pq_Md_feed_18 pq_Md_feed_63
    rw [e1, e8, bz, e2]
    refine ⟨fun w => absurd w (nI_pos (by omega)), fun _ => ⟨fun w => ?_, fun w => ⟨h.1.1, 0, 0, Nat.zero_le _, Nat.zero_le _, ?_⟩⟩⟩
    · have b0 : bt_z (wo_lushr e (nI (8 * j))).toInt32 = 0 := (nI_eq (b := 0) (by omega) (by decide)).mp w
      simp only [if_pos b0] at hp
      exact ih n S k G (by omega) (by omega) hs h m0 (fun G' m' h' s' => hp G' m' (mr_up h' (by omega)) (sok_up s' (by omega)))
    · have b0 : ¬ bt_z (wo_lushr e (nI (8 * j))).toInt32 = 0 := fun z => w (by rw [z]; rfl)
      simp only [if_neg b0] at hp
      refine sp_may h.1 (h.2.1 c hc) hc ?_
      cases hmy : my_of (S.1 c) with
      | true =>
        simp only [if_pos hmy] at hp
        refine ⟨fun _ => ⟨h.1.1, 0, 0, Nat.zero_le _, Nat.zero_le _, ?_⟩, fun w => absurd w (by decide)⟩
        refine sp_mcomes h m0.b hs (by omega) hc (by omega) bl hmy (fun G1 m1 h1 => ?_)
        rw [nI_1]
        refine ih (n + 1) _ (k + 1) G1 (by omega) (by omega) (sok_fe hs (by omega) hc (by omega) bl hmy) h1 (m0.tr m1) (fun G' m' h' s' => hp G' m' ?_ ?_)
        · rw [show k + (j + 1) = k + 1 + j by omega]; exact h'
        · rw [show k + (j + 1) = k + 1 + j by omega]; exact s'
      | false =>
        simp only [if_neg (show ¬ my_of (S.1 c) = true by rw [hmy]; decide)] at hp
        exact ⟨fun w => absurd rfl w, fun _ => hp G m0 (mr_up h (by omega)) (sok_up hs (by omega))⟩
theorem sp_mfeed {Post : Int32 → wo_W → Prop} {e : Int64} {i : Int32} (hbb : ow_b E ow G) (hk : k + 9 < 4200) (hs : sok S cap now k) (h : mr E ow m A G S cap now k) (hn : ci_of i 3 = none → Post 0 G) (hp : ∀ c, ci_of i 3 = some c → ∀ G', mf E ow m A PT G G' → mr E ow m A G' (fl_of c now (bl_of e 8) S 0).1 cap now (k + 8) → sok (fl_of c now (bl_of e 8) S 0).1 cap now (k + 8) → Post (nI (fl_of c now (bl_of e 8) S 0).2) G') : pq_Md_feed E mc ms Post G m i e := by
  unfold pq_Md_feed pq_Md_feed_0 pq_Md_feed_9
  refine ci_sw3 hn (fun c ec => ?_)
  obtain ⟨ei, hc⟩ := ci_some ec
  rw [ei]
  refine ⟨9, ?_⟩
  rw [show (7 : Int32) = nI 8 - 1 by decide]
  exact sp_mfLoop (G0 := G) hc 8 0 S k G (by decide) (by omega) hs h (mf.rf h.1 hbb) (hp c ec)
end MD
