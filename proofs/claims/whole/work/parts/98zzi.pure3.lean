def vk (d : rdT) : Prop := ∀ h t, d.2.2.2.2.2.2.2.2.2 h = some t → t.length ≤ 8
theorem vk_sv {vs : vsT} {l : Nat} {v : List Nat} (h : ∀ h t, vs h = some t → t.length ≤ 8) (hv : v.length ≤ 8) : ∀ h t, sv_of vs l v h = some t → t.length ≤ 8 := by
  intro k t e
  unfold sv_of at e
  cases hh : hi_of l with
  | none => rw [hh] at e; exact h k t e
  | some n =>
    simp only [hh] at e
    by_cases z : k = n
    · rw [if_pos z] at e; cases e; exact hv
    · rw [if_neg z] at e; exact h k t e
theorem vk_jh {li : List Nat} {hd : Nat} {ln : Option Nat} {ch : Bool} {vs : vsT} (h : ∀ h t, vs h = some t → t.length ≤ 8) : ∀ h t, (jh_of li hd ln ch vs).2.2.2 h = some t → t.length ≤ 8 := by
  unfold jh_of
  by_cases y1 : 8 ≤ hd
  · rw [if_pos y1]; exact h
  · rw [if_neg y1]
    by_cases y2 : ih_of li = false
    · rw [if_pos y2]; exact h
    · rw [if_neg y2]
      by_cases y3 : 8 < li.length - 2
      · rw [if_pos y3]; exact h
      · rw [if_neg y3]
        by_cases y4 : li.getD 0 0 = 76
        · rw [if_pos y4]
          generalize tl_of (tx_sub li 2 li.length) ln = o
          cases o with
          | none => exact h
          | some n => exact h
        · rw [if_neg y4]
          by_cases y5 : li.getD 0 0 = 84
          · rw [if_pos y5]; exact h
          · rw [if_neg y5]
            refine vk_sv h ?_
            rw [tx_sub_len (Nat.le_refl _)]
            omega
theorem vk_step {d : rdT} {b : Nat} (h : vk d) : vk (rd_step d b).2 := by
  obtain ⟨pt, hd, ln, ch, lf, li, bo, m, pa, vs⟩ := d
  have h : ∀ h t, vs h = some t → t.length ≤ 8 := h
  unfold rd_step
  simp only []
  by_cases z : pt = 2 ∨ pt = 4
  · rw [if_pos z]; exact h
  · rw [if_neg z]
    by_cases z5 : pt = 5
    · rw [if_pos z5]; exact h
    · rw [if_neg z5]
      by_cases zb : b = 10
      · rw [if_pos zb]
        unfold jd_of
        simp only []
        by_cases z0 : pt = 0
        · rw [if_pos z0]
          by_cases zl : li = []
          · rw [if_pos zl]; exact h
          · rw [if_neg zl]; exact h
        · rw [if_neg z0]
          by_cases z1 : pt = 1
          · rw [if_pos z1]
            by_cases zl : li = []
            · rw [if_pos zl]; exact h
            · rw [if_neg zl]; exact vk_jh h
          · rw [if_neg z1]
            by_cases z3 : pt = 3
            · rw [if_pos z3]; exact h
            · rw [if_neg z3]; exact h
      · rw [if_neg zb]
        by_cases z20 : 20 ≤ li.length
        · rw [if_pos z20]; exact h
        · rw [if_neg z20]; exact h
def cok (v : cnT) : Prop := rn rd_0 (c_raw v) = some (0, c_rd v) ∧ rk (c_rd v) ∧ vk (c_rd v) ∧ (∀ b ∈ c_raw v, 0 < b ∧ b < 256) ∧ (c_raw v).getD 0 0 ≠ 10 ∧ (c_na v ≤ c_nh v ∧ c_nh v ≤ c_na v + 4 ∧ c_nh v ≤ 20) ∧ dv_ok v ∧ rest v
theorem vk_0 : vk rd_0 := fun h t e => by cases e
theorem cok_0 : cok cn_0 := ⟨rfl, rk_0, vk_0, fun b hb => (by cases hb), by decide, ⟨Nat.le_refl _, by decide, by decide⟩, ⟨by decide, fun t u h => (by cases h)⟩, Or.inl rfl⟩
theorem cok_ouc {v : cnT} (h : cok v) : cok (ouc v) := by
  obtain ⟨h1, h2, h3, h4, h5, h6, h7, h8⟩ := h
  refine ⟨h1, h2, h3, h4, h5, h6, ⟨?_, h7.2⟩, h8⟩
  have := h7.1
  show ((c_out v).drop 8).length + 80 * (c_nh v - c_na v) ≤ 640
  rw [List.length_drop]
  omega
theorem step_rd0 : rd_step rd_0 10 = (0, rd_0) := rfl
theorem cok_rdc {v : cnT} {b : Nat} (h : cok v) (hb0 : 0 < b) (hb : b < 256) (ho : (rd_step (c_rd v) b).1 = 0) : cok (rdc v b) := by
  obtain ⟨h1, h2, h3, h4, h5, h6, h7, h8⟩ := h
  have hs := (rk_step (b := b) h2).2.1 ho
  have hv := vk_step (b := b) h3
  have es : rd_step (c_rd v) b = (0, (rd_step (c_rd v) b).2) := by rw [← ho]
  by_cases z : b = 10 ∧ c_raw v = []
  · have er : rw_of (c_raw v) b (rd_step (c_rd v) b).1 = [] := by unfold rw_of; rw [if_pos ho, if_pos z]
    have e0 : c_rd v = rd_0 := by
      rw [z.2] at h1
      have h1 : some (0, rd_0) = some (0, c_rd v) := h1
      exact ((Prod.mk.inj (Option.some.inj h1)).2).symm
    have e1 : (rd_step (c_rd v) b).2 = rd_0 := by rw [e0, z.1, step_rd0]
    refine ⟨?_, hs, hv, ?_, ?_, h6, h7, h8⟩
    · show rn rd_0 (rw_of (c_raw v) b (rd_step (c_rd v) b).1) = some (0, (rd_step (c_rd v) b).2)
      rw [er, e1]; rfl
    · intro x hx
      have hx : x ∈ rw_of (c_raw v) b (rd_step (c_rd v) b).1 := hx
      rw [er] at hx; cases hx
    · show (rw_of (c_raw v) b (rd_step (c_rd v) b).1).getD 0 0 ≠ 10
      rw [er]; decide
  · have er : rw_of (c_raw v) b (rd_step (c_rd v) b).1 = c_raw v ++ [b] := by unfold rw_of; rw [if_pos ho, if_neg z]
    refine ⟨?_, hs, hv, ?_, ?_, h6, h7, h8⟩
    · show rn rd_0 (rw_of (c_raw v) b (rd_step (c_rd v) b).1) = some (0, (rd_step (c_rd v) b).2)
      rw [er, rn_snoc _ _ _ _ h1, ← es]
    · intro x hx
      have hx : x ∈ rw_of (c_raw v) b (rd_step (c_rd v) b).1 := hx
      rw [er] at hx
      rcases List.mem_append.mp hx with q | q
      · exact h4 x q
      · rw [List.mem_singleton.mp q]; exact ⟨hb0, hb⟩
    · show (rw_of (c_raw v) b (rd_step (c_rd v) b).1).getD 0 0 ≠ 10
      rw [er]
      cases e : c_raw v with
      | nil =>
        show b ≠ 10
        exact fun y => z ⟨y, e⟩
      | cons a l => rw [e] at h5; exact h5
theorem cok_anc {v : cnT} {t : Nat} {u : List Nat} (h : cok v) (h2 : t < c_nh v) (h3 : c_an v t = none) (hu : u.length ≤ 80) : cok (dvc (anc v t u)) := by
  obtain ⟨a1, a2, a3, a4, a5, a6, a7, a8⟩ := h
  have hn : c_na (anc v t u) ≤ c_nh (anc v t u) := a6.1
  have hd : dv_ok (anc v t u) := ⟨a7.1, fun x y hx e => by
    have e : (if x = t then some u else c_an v x) = some y := e
    by_cases z : x = t
    · rw [if_pos z] at e; cases e; exact hu
    · rw [if_neg z] at e; exact a7.2 x y hx e⟩
  have hl := dv_le (c_an (anc v t u)) (c_nh (anc v t u) - c_na (anc v t u)) (c_na (anc v t u)) (c_out (anc v t u))
  refine ⟨a1, a2, a3, a4, a5, ⟨?_, ?_, a6.2.2⟩, dvc_ok hd hn, rest_dvc hn⟩
  · show (dv_go _ _ _ _).1 ≤ c_nh v
    have e : c_nh (anc v t u) = c_nh v := rfl
    omega
  · show c_nh v ≤ (dv_go _ _ _ _).1 + 4
    have e : c_na (anc v t u) = c_na v := rfl
    have := a6.2.1
    omega
def nwc (v w : cnT) : Prop := c_raw w = [] ∧ c_rd w = rd_0 ∧ c_nh w = c_nh v + 1 ∧ c_na w = c_na v ∧ c_out w = c_out v ∧ (∀ k, c_an w k = if k = c_nh v then none else c_an v k)
theorem cok_nwc {v w : cnT} (h : cok v) (hw : nwc v w) (hm : my_of v = true) : cok w ∧ c_an w (c_nh v) = none ∧ c_nh v < c_nh w ∧ c_na w ≤ c_nh v := by
  obtain ⟨a1, a2, a3, a4, a5, a6, a7, a8⟩ := h
  obtain ⟨w1, w2, w3, w4, w5, w6⟩ := hw
  unfold my_of mt_b at hm
  simp only [Bool.and_eq_true, decide_eq_true_eq] at hm
  obtain ⟨⟨⟨m1, m2⟩, m3⟩, m4⟩ := hm
  refine ⟨⟨by rw [w1, w2]; rfl, by rw [w2]; exact rk_0, by rw [w2]; exact vk_0, by rw [w1]; exact fun b hb => (by cases hb), by rw [w1]; decide, ⟨by omega, by omega, by omega⟩, ⟨by rw [w3, w4, w5]; omega, fun t u ht e => ?_⟩, ?_⟩, by rw [w6, if_pos rfl], by omega, by rw [w4]; exact a6.1⟩
  · rw [w6] at e
    by_cases z : t = c_nh v
    · rw [if_pos z] at e; cases e
    · rw [if_neg z] at e; exact a7.2 t u (by omega) e
  · refine Or.inr ?_
    rw [w6, w4]
    by_cases z : c_na v = c_nh v
    · rw [if_pos z]
    · rw [if_neg z]; exact a8.resolve_left z
theorem nwc_enl {v : cnT} {b : Nat} (h : cok v) (ho : (rd_step (c_rd v) b).1 = 1) : nwc v (enl (rdc v b)) := by
  have hl := (rk_step (b := b) h.2.1).2.2.2 ho
  refine ⟨rfl, ?_, rfl, rfl, rfl, fun k => rfl⟩
  show rd_n (d_li (rd_step (c_rd v) b).2) = rd_0
  rw [hl]
  rfl
theorem nwc_enr {v : cnT} {b : Nat} : nwc v (enr (rdc v b)) := ⟨rfl, rfl, rfl, rfl, rfl, fun k => rfl⟩
def jp_ok (cn : Nat → cnT) (j : jobT) : Prop := c_na (cn j.1) ≤ j.2.1 ∧ j.2.1 < c_nh (cn j.1) ∧ c_an (cn j.1) j.2.1 = none
def jq_ok (T now : Nat) (q : rqT) (j : jobT) : Prop := j.2.2.1 ≤ T ∧ j.2.2.2.1 ≤ now ∧ (j.2.2.2.2.1 = 0 → j.2.2.2.2.2.1 = none ∧ j.2.2.2.2.2.2.1 = 0) ∧ j.2.2.2.2.1 < 1000 ∧ (∀ r, j.2.2.2.2.2.1 = some r → rp_ok T r) ∧ j.2.2.2.2.2.2.1 ≤ T ∧ jr_ok q j ∧ q.2.2.1.length ≤ 8 ∧ ∀ t, q.2.2.2 7 = some t → t.length ≤ 8
def jb_ok (T now : Nat) (cn : Nat → cnT) (j : jobT) : Prop := jp_ok cn j ∧ jq_ok T now (c_rv (cn j.1) j.2.1) j
def aj (wt : List jobT) (sn : Nat → Option jobT) (P : jobT → Prop) : Prop := (∀ j ∈ wt, P j) ∧ ∀ u j, u < 2 → sn u = some j → P j
theorem aj_mn {wt : List jobT} {sn : Nat → Option jobT} {P Q : jobT → Prop} (h : aj wt sn P) (hk : ∀ j, P j → Q j) : aj wt sn Q := ⟨fun j hj => hk j (h.1 j hj), fun u j hu e => hk j (h.2 u j hu e)⟩
theorem aj_sw1 {now u : Nat} {P : jobT → Prop} (hP : ∀ j, P j → P (j_sa j now)) {q : List jobT × (Nat → Option jobT)} (h : aj q.1 q.2 P) : aj (sw_1 now u q).1 (sw_1 now u q).2 P := by
  obtain ⟨wt, sn⟩ := q
  unfold sw_1
  cases e : sn u with
  | some x => simp only [e]; exact h
  | none =>
    cases wt with
    | nil => simp only [e]; exact h
    | cons j l =>
      simp only [e]
      refine ⟨fun i hi => h.1 i (List.mem_cons_of_mem _ hi), fun v i hv ei => ?_⟩
      have ei : (if v = u then some (j_sa j now) else sn v) = some i := ei
      by_cases z : v = u
      · rw [if_pos z] at ei; cases ei; exact hP j (h.1 j List.mem_cons_self)
      · rw [if_neg z] at ei; exact h.2 v i hv ei
theorem aj_sw {now : Nat} {P : jobT → Prop} (hP : ∀ j, P j → P (j_sa j now)) {q : List jobT × (Nat → Option jobT)} (h : aj q.1 q.2 P) : aj (sw_of now q).1 (sw_of now q).2 P := aj_sw1 hP (aj_sw1 hP h)
theorem js_swo {now : Nat} {wt : List jobT} {sn : Nat → Option jobT} (h : js_ok wt sn) : js_ok (sw_of now (wt, sn)).1 (sw_of now (wt, sn)).2 := by
  have h1 := js_sw (now := now) (u := 0) h (by decide)
  exact js_sw (now := now) (u := 1) h1 (by decide)
theorem jb_sa {T now : Nat} {cn : Nat → cnT} (j : jobT) (h : jb_ok T now cn j) : jb_ok T now cn (j_sa j now) := by
  obtain ⟨h1, a1, a2, a3, a4, a5, a6, a7, a8, a9⟩ := h
  exact ⟨h1, a1, Nat.le_refl _, a3, a4, a5, a6, a7, a8, a9⟩
