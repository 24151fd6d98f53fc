section SK
variable {S : hdT} {cn : Nat → cnT} {rs : List roT} {tg cap now k c b : Nat} {ss : List sdT} {wt : List jobT} {sn : Nat → Option jobT} {v w : cnT}
theorem sok_mk {U : Nat} (hU : k ≤ U) (hcs : ∀ e, e < 3 → cok (cn e) ∧ (c_raw (cn e)).length ≤ k) (hw : cok w ∧ (c_raw w).length ≤ U) (hj : js_ok wt sn) (ha : aj wt sn (jb_ok U now (cup cn c w))) (ho : os_ok U rs) (ht : tg ≤ U) (hs : so_ok U cap now ss) (hcap : cap ≤ 300) (hnow : now < 10 ^ 6) : sok (cup cn c w, rs, tg, ss, wt, sn) cap now U := by
  refine ⟨fun e he => ?_, hj, ha, ho, ht, hs, hcap, hnow⟩
  by_cases z : e = c
  · subst z
    show cok (cup cn e w e) ∧ (c_raw (cup cn e w e)).length ≤ U
    rw [cup_c]; exact hw
  · show cok (cup cn c w e) ∧ (c_raw (cup cn c w e)).length ≤ U
    rw [cup_n z]; exact ⟨(hcs e he).1, Nat.le_trans (hcs e he).2 hU⟩
theorem aj_keep {T U : Nat} (hu : T ≤ U) (h : aj wt sn (jb_ok T now cn)) (hk : ∀ s, c_na (cn c) ≤ s → s < c_nh (cn c) → c_an (cn c) s = none → c_na w ≤ s ∧ s < c_nh w ∧ c_an w s = none ∧ c_rv w s = c_rv (cn c) s) : aj wt sn (jb_ok U now (cup cn c w)) := aj_mn h (fun j hj => jb_cup hj hu (fun e => by
  have := hj.1
  unfold jp_ok at this
  rw [e] at this
  exact hk j.2.1 this.1 this.2.1 this.2.2))
theorem nwc_keep {u : List Nat} (hw : nwc v w) (hrv : ∀ s, s < c_nh v → c_rv w s = c_rv v s) : ∀ s, c_na v ≤ s → s < c_nh v → c_an v s = none → c_na (dvc (anc w (c_nh v) u)) ≤ s ∧ s < c_nh (dvc (anc w (c_nh v) u)) ∧ c_an (dvc (anc w (c_nh v) u)) s = none ∧ c_rv (dvc (anc w (c_nh v) u)) s = c_rv v s := by
  intro s h1 h2 h3
  obtain ⟨n1, n2, n3⟩ := nwc_s hw h1 h2 h3
  have := jk_anc (u := u) (t := c_nh v) n1 n2 n3 (by omega)
  exact ⟨this.1, this.2.1, this.2.2.1, this.2.2.2.trans (hrv s h2)⟩
theorem rv_enl : ∀ s, s < c_nh v → c_rv (enl (rdc v b)) s = c_rv v s := fun s hs => by
  show (if s = c_nh v then _ else c_rv v s) = c_rv v s
  rw [if_neg (by omega)]
theorem sok_hd {u : List Nat} {rs' : List roT} {tg' : Nat} {ss' : List sdT} (h : sok (cn, rs, tg, ss, wt, sn) cap now k) (hc : c < 3) (hm : my_of (cn c) = true) (hw : nwc (cn c) w) (hrv : ∀ s, s < c_nh (cn c) → c_rv w s = c_rv (cn c) s) (hu : u.length ≤ 80) (ho : os_ok (k + 1) rs') (ht : tg' ≤ k + 1) (hs : so_ok (k + 1) cap now ss') : sok (cup cn c (dvc (anc w (c_nh (cn c)) u)), rs', tg', ss', wt, sn) cap now (k + 1) := by
  obtain ⟨h1, h2, h3, h4, h5, h6, h7, h8⟩ := h
  obtain ⟨w1, w2, w3, w4⟩ := cok_nwc (h1 c hc).1 hw hm
  refine sok_mk (Nat.le_succ _) h1 ⟨cok_anc w1 w3 w2 hu, ?_⟩ h2 (aj_keep (Nat.le_succ _) h3 (nwc_keep hw hrv)) ho ht hs h7 h8
  show (c_raw w).length ≤ k + 1
  rw [hw.1]
  exact Nat.zero_le _
theorem js_new {j : jobT} (h : js_ok wt sn) (ha : aj wt sn (jp_ok cn)) (h1 : j.1 < 2) (h2 : j.2.1 < 20) (h3 : c_nh (cn j.1) ≤ j.2.1) : js_ok (wt ++ [j]) sn := by
  obtain ⟨a1, a2, a3, a4, a5⟩ := h
  have ne : ∀ i : jobT, i.1 < 2 ∧ i.2.1 < 20 → jp_ok cn i → rid i ≠ rid j := fun i hi hp e => by
    obtain ⟨e1, e2⟩ := rid_e hi.2 h2 e
    unfold jp_ok at hp
    rw [e1] at hp
    omega
  refine ⟨?_, fun u i hu e hm => ?_, a3, fun i hi => ?_, a5⟩
  · rw [List.map_append]
    refine List.nodup_append.mpr ⟨a1, by simp, fun x hx y hy e => ?_⟩
    have hy : y = rid j := by simpa using hy
    obtain ⟨i, hi, ei⟩ := List.mem_map.mp hx
    exact ne i (a4 i hi) (ha.1 i hi) (by rw [ei, e, hy])
  · rw [List.map_append] at hm
    rcases List.mem_append.mp hm with q | q
    · exact a2 u i hu e q
    · have q : rid i = rid j := by simpa using q
      exact ne i (a5 u i hu e) (ha.2 u i hu e) q
  · rcases List.mem_append.mp hi with q | q
    · exact a4 i q
    · rw [List.mem_singleton.mp q]; exact ⟨h1, h2⟩
theorem sok_fe (h : sok S cap now k) (hk : k + 1 < 10 ^ 4) (hc : c < 3) (hb0 : 0 < b) (hb : b < 256) (hm : my_of (S.1 c) = true) : sok (fe_of c b now S) cap now (k + 1) := by
  obtain ⟨cn, rs, tg, ss, wt, sn⟩ := S
  have hall := h
  obtain ⟨h1, h2, h3, h4, h5, h6, h7, h8⟩ := h
  simp only [] at hm h1 h2 h3 h4 h5 h6
  have hv := (h1 c hc).1
  have hr := rk_step (b := b) hv.2.1
  have hvk := vk_step (b := b) hv.2.2.1
  have o6 := os_up h4 (Nat.le_succ k)
  have s6 := so_up h6 (Nat.le_succ k) (Nat.le_refl now)
  unfold fe_of
  simp only []
  by_cases z0 : (rd_step (c_rd (cn c)) b).1 = 0
  · rw [if_pos z0]
    refine sok_mk (Nat.le_succ k) h1 ⟨cok_rdc hv hb0 hb z0, ?_⟩ h2 (aj_keep (Nat.le_succ k) h3 (fun s q1 q2 q3 => ⟨q1, q2, q3, rfl⟩)) o6 (by omega) s6 h7 h8
    have := (h1 c hc).2
    show (rw_of (c_raw (cn c)) b (rd_step (c_rd (cn c)) b).1).length ≤ k + 1
    unfold rw_of
    rw [if_pos z0]
    split
    · exact Nat.zero_le _
    · simp; omega
  · rw [if_neg z0]
    unfold hd_of
    simp only [cup_c, cup_cup]
    by_cases z1 : (rd_step (c_rd (cn c)) b).1 = 1
    · rw [if_pos z1]
      have hw := nwc_enl (b := b) hv z1
      have hq : hd_q (cup cn c (rdc (cn c) b)) c = rq_d (rd_step (c_rd (cn c)) b).2 := by
        unfold hd_q
        rw [cup_c]; rfl
      have hbo : (rq_d (rd_step (c_rd (cn c)) b).2).2.2.1.length ≤ 8 := hr.2.2.1 (by omega)
      have hv7 : ∀ t, (rq_d (rd_step (c_rd (cn c)) b).2).2.2.2 7 = some t → t.length ≤ 8 := fun t e => hvk 7 t e
      by_cases z2 : c = 2
      · rw [if_pos z2]
        have wk := wk_ok (cp := 0) (q := hd_q (cup cn c (rdc (cn c) b)) c) (w := hd_w (cup cn c (rdc (cn c) b)) c rs tg) rfl h4 h5 (by rw [hq]; exact hbo) (by rw [hq]; exact hv7)
        obtain ⟨k1, k2, k3, k4, k5, k6, k7, k8⟩ := wk
        refine sok_hd hall hc hm hw rv_enl ?_ k1 (by omega) s6
        unfold hd_a
        exact at_80 (T := k) (by omega) k6 k7 k4
      · rw [if_neg z2]
        cases eu : hu_of (hd_q (cup cn c (rdc (cn c) b)) c) ss now with
        | some i =>
          unfold hd_m
          simp only [cup_c, cup_cup]
          obtain ⟨i1, i2⟩ := hu_m eu
          refine sok_hd (tg' := tg) hall hc hm hw rv_enl ?_ o6 (by omega) (so_us s6 i1)
          exact ha_80 (T := k) (by omega) h8 (h6.2.1 _ i2).1
        | none =>
          unfold hd_m
          simp only [cup_c, cup_cup]
          obtain ⟨w1, w2, w3, w4⟩ := cok_nwc hv hw hm
          rw [dvc_rest w1.2.2.2.2.2.2.2]
          have hj0 : hd_j (cup cn c (rdc (cn c) b)) c ss = (c, c_nh (cn c), hp_of (rq_d (rd_step (c_rd (cn c)) b).2) ss, 0, 0, none, 0, false) := by
            unfold hd_j
            rw [hq, cup_c]; rfl
          rw [hj0]
          have hmb := my_b hm
          have hjn : js_ok (wt ++ [(c, c_nh (cn c), hp_of (rq_d (rd_step (c_rd (cn c)) b).2) ss, 0, 0, none, 0, false)]) sn := js_new h2 (aj_mn h3 (fun j hj => hj.1)) (by show c < 2; omega) hmb.2.1 (Nat.le_refl _)
          have ha : aj (wt ++ [(c, c_nh (cn c), hp_of (rq_d (rd_step (c_rd (cn c)) b).2) ss, 0, 0, none, 0, false)]) sn (jb_ok (k + 1) now (cup cn c (enl (rdc (cn c) b)))) := by
            have ha0 : aj wt sn (jb_ok (k + 1) now (cup cn c (enl (rdc (cn c) b)))) := aj_keep (Nat.le_succ k) h3 (fun s q1 q2 q3 => by
              obtain ⟨n1, n2, n3⟩ := nwc_s hw q1 q2 q3
              exact ⟨n1, n2, n3, rv_enl s q2⟩)
            refine ⟨fun j hj => ?_, ha0.2⟩
            rcases List.mem_append.mp hj with q | q
            · exact ha0.1 j q
            · have e := List.mem_singleton.mp q
              subst e
              have ec : cup cn c (enl (rdc (cn c) b)) c = enl (rdc (cn c) b) := cup_c
              refine ⟨?_, ?_⟩
              · unfold jp_ok
                show c_na (cup cn c (enl (rdc (cn c) b)) c) ≤ c_nh (cn c) ∧ c_nh (cn c) < c_nh (cup cn c (enl (rdc (cn c) b)) c) ∧ c_an (cup cn c (enl (rdc (cn c) b)) c) (c_nh (cn c)) = none
                rw [ec]
                exact ⟨w4, w3, w2⟩
              · show jq_ok (k + 1) now (c_rv (cup cn c (enl (rdc (cn c) b)) c) (c_nh (cn c))) _
                rw [ec]
                have erv : c_rv (enl (rdc (cn c) b)) (c_nh (cn c)) = rq_d (rd_step (c_rd (cn c)) b).2 := by
                  show (if c_nh (cn c) = c_nh (cn c) then rq_d (rd_step (c_rd (cn c)) b).2 else _) = _
                  rw [if_pos rfl]
                rw [erv]
                exact ⟨hp_T s6, Nat.zero_le _, fun _ => ⟨rfl, rfl⟩, by show 0 < 1000; decide, fun r e => (by cases e), Nat.zero_le _, fun e => absurd rfl e, hbo, hv7⟩
          refine sok_mk (Nat.le_succ k) h1 ⟨w1, ?_⟩ (js_swo hjn) (aj_sw (q := (_, sn)) jb_sa ha) o6 (by omega) s6 h7 h8
          show (0 : Nat) ≤ k + 1
          omega
    · rw [if_neg z1]
      refine sok_hd (tg' := tg) hall hc hm nwc_enr (fun s _ => rfl) ?_ o6 (by omega) s6
      exact ba_80 (by have := hr.1; omega) (by decide)
theorem sok_jn (h : sok S cap now k) : jn_ok S.1 S.2.2.2.2.1 S.2.2.2.2.2 := by
  have h3 := h.2.2.1
  exact ⟨fun j hj => (h3.1 j hj).1.2.1, fun u j hu e => (h3.2 u j hu e).1.2.1⟩
theorem sok_4 (h : sok S cap now k) : ∀ c, c < 2 → c_nh (S.1 c) ≤ c_na (S.1 c) + 4 := fun c hc => (h.1 c (by omega)).1.2.2.2.2.2.1.2.1
theorem sok_wt (h : sok S cap now k) : S.2.2.2.2.1.length ≤ 8 := wt_8 h.2.1 (aj_mn h.2.2.1 (fun j hj => hj.1)) (sok_4 h)
theorem fd_sok (h : sok S cap now k) (hk : k + 1 < 10 ^ 4) (hc : c < 3) (hm : my_of (S.1 c) = true) : fd_u c b now S := by
  have hall := h
  have h8w := sok_wt h
  obtain ⟨cn, rs, tg, ss, wt, sn⟩ := S
  obtain ⟨h1, h2, h3, h4, h5, h6, h7, h8⟩ := h
  simp only [] at hm h1 h2 h3 h4 h5 h6 h8w
  have hv := (h1 c hc).1
  have hr := rk_step (b := b) hv.2.1
  have hvk := vk_step (b := b) hv.2.2.1
  have hmb := my_b hm
  have hdv := hv.2.2.2.2.2.2.1
  have h17 := so_20 h6 h7
  refine ⟨h2, sok_jn hall, rd_rk hv.2.1, hr.1, hr.2.2.1, fun _ => ⟨by show (c_out (cn c)).length + 80 * (c_nh (cn c) + 1 - c_na (cn c)) ≤ 640; omega, hdv.2, h4.1, by show tg + 1 < 2 ^ 31; omega, h8w, by show ss.length ≤ 20; omega, by omega, fun i hi => ?_⟩, fun z1 => ⟨fun z2 => ?_, fun i eu => ?_, fun z2 => ?_⟩⟩
  · have hi : i < ss.length := hi
    refine (h6.2.1 _ ?_).2.1
    show ss.getD i sd_0 ∈ ss
    rw [List.getD_eq_getElem?_getD, List.getElem?_eq_getElem hi]
    exact List.getElem_mem hi
  · have hq : hd_q (cup cn c (rdc (cn c) b)) c = rq_d (rd_step (c_rd (cn c)) b).2 := by
      unfold hd_q
      rw [cup_c]; rfl
    have wk := wk_ok (cp := 0) (q := hd_q (cup cn c (rdc (cn c) b)) c) (w := hd_w (cup cn c (rdc (cn c) b)) c rs tg) rfl h4 h5 (by rw [hq]; exact hr.2.2.1 (by have z1 : (rd_step (c_rd (cn c)) b).1 = 1 := z1; omega)) (by rw [hq]; exact fun t e => hvk 7 t e)
    obtain ⟨k1, k2, k3, k4, k5, k6, k7, k8⟩ := wk
    refine ⟨?_, by show (hd_w (cup cn c (rdc (cn c) b)) c rs tg).1 < 2 ^ 31; omega, by show (hd_w (cup cn c (rdc (cn c) b)) c rs tg).2.2.1 < 2 ^ 31; omega⟩
    show (hd_a (cup cn c (rdc (cn c) b)) c rs tg).length ≤ 80
    unfold hd_a
    exact at_80 (T := k) (by omega) k6 k7 k4
  · exact ha_80 (T := k) (by omega) h8 (h6.2.1 _ (hu_m eu).2).1
  · have ej : hd_j (cup cn c (rdc (cn c) b)) c ss = (c, c_nh (cn c), hp_of (hd_q (cup cn c (rdc (cn c) b)) c) ss, 0, 0, none, 0, false) := by
      unfold hd_j
      rw [cup_c]; rfl
    show js_ok (wt ++ [hd_j (cup cn c (rdc (cn c) b)) c ss]) sn
    rw [ej]
    exact js_new h2 (aj_mn h3 (fun j hj => hj.1)) (by show c < 2; omega) hmb.2.1 (Nat.le_refl _)
end SK
