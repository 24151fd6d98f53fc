def sok (S : hdT) (cap now k : Nat) : Prop := (∀ c, c < 3 → cok (S.1 c) ∧ (c_raw (S.1 c)).length ≤ k) ∧ js_ok S.2.2.2.2.1 S.2.2.2.2.2 ∧ aj S.2.2.2.2.1 S.2.2.2.2.2 (jb_ok k now S.1) ∧ os_ok k S.2.1 ∧ S.2.2.1 ≤ k ∧ so_ok k cap now S.2.2.2.1 ∧ cap ≤ 300 ∧ now < 10 ^ 6
theorem jq_up {T U now now' : Nat} {q : rqT} {j : jobT} (h : jq_ok T now q j) (hu : T ≤ U) (hn : now ≤ now') : jq_ok U now' q j := by
  obtain ⟨a1, a2, a3, a4, a5, a6, a7, a8, a9⟩ := h
  exact ⟨Nat.le_trans a1 hu, Nat.le_trans a2 hn, a3, a4, fun r e => rp_up (a5 r e) hu, Nat.le_trans a6 hu, a7, a8, a9⟩
theorem jb_up {T U now now' : Nat} {cn : Nat → cnT} {j : jobT} (h : jb_ok T now cn j) (hu : T ≤ U) (hn : now ≤ now') : jb_ok U now' cn j := ⟨h.1, jq_up h.2 hu hn⟩
theorem jb_cup {T U now : Nat} {cn : Nat → cnT} {j : jobT} {c : Nat} {w : cnT} (h : jb_ok T now cn j) (hu : T ≤ U) (hw : j.1 = c → c_na w ≤ j.2.1 ∧ j.2.1 < c_nh w ∧ c_an w j.2.1 = none ∧ c_rv w j.2.1 = c_rv (cn c) j.2.1) : jb_ok U now (cup cn c w) j := by
  by_cases z : j.1 = c
  · obtain ⟨w1, w2, w3, w4⟩ := hw z
    have e : cup cn c w j.1 = w := by rw [z]; exact cup_c
    refine ⟨?_, ?_⟩
    · unfold jp_ok; rw [e]; exact ⟨w1, w2, w3⟩
    · rw [e, w4, ← z]; exact jq_up h.2 hu (Nat.le_refl _)
  · have e : cup cn c w j.1 = cn j.1 := cup_n z
    refine ⟨?_, ?_⟩
    · unfold jp_ok; rw [e]; exact h.1
    · rw [e]; exact jq_up h.2 hu (Nat.le_refl _)
theorem jk_anc {v : cnT} {t s : Nat} {u : List Nat} (h1 : c_na v ≤ s) (h2 : s < c_nh v) (h3 : c_an v s = none) (hs : s ≠ t) : c_na (dvc (anc v t u)) ≤ s ∧ s < c_nh (dvc (anc v t u)) ∧ c_an (dvc (anc v t u)) s = none ∧ c_rv (dvc (anc v t u)) s = c_rv v s := by
  have e : c_an (anc v t u) s = none := by
    show (if s = t then some u else c_an v s) = none
    rw [if_neg hs]; exact h3
  exact ⟨dvc_na e h1, h2, e, rfl⟩
theorem nwc_s {v w : cnT} {s : Nat} (hw : nwc v w) (h1 : c_na v ≤ s) (h2 : s < c_nh v) (h3 : c_an v s = none) : c_na w ≤ s ∧ s < c_nh w ∧ c_an w s = none := by
  obtain ⟨w1, w2, w3, w4, w5, w6⟩ := hw
  refine ⟨by rw [w4]; exact h1, by rw [w3]; omega, ?_⟩
  rw [w6, if_neg (by omega)]
  exact h3
theorem rd_rk {d : rdT} (h : rk d) : rd_ok d := by
  obtain ⟨pt, hd, ln, ch, lf, li, bo, m, pa, vs⟩ := d
  exact h.1
theorem rid_e {i j : jobT} (h1 : i.2.1 < 20) (h2 : j.2.1 < 20) (e : rid i = rid j) : i.1 = j.1 ∧ i.2.1 = j.2.1 := by
  unfold rid at e
  omega
def al (wt : List jobT) (sn : Nat → Option jobT) : List jobT := wt ++ ((sn 0).toList ++ (sn 1).toList)
theorem al_m {wt : List jobT} {sn : Nat → Option jobT} {P : jobT → Prop} (h : aj wt sn P) : ∀ j ∈ al wt sn, P j := by
  intro j hj
  rcases List.mem_append.mp hj with q | q
  · exact h.1 j q
  · rcases List.mem_append.mp q with q | q
    · exact h.2 0 j (by decide) (Option.mem_toList.mp q)
    · exact h.2 1 j (by decide) (Option.mem_toList.mp q)
theorem al_nd {wt : List jobT} {sn : Nat → Option jobT} (h : js_ok wt sn) : ((al wt sn).map rid).Nodup := by
  obtain ⟨h1, h2, h3, _⟩ := h
  unfold al
  rw [List.map_append, List.map_append]
  refine List.nodup_append.mpr ⟨h1, ?_, ?_⟩
  · cases e0 : sn 0 with
    | none =>
      cases e1 : sn 1 with
      | none => simp
      | some y => simp
    | some x =>
      cases e1 : sn 1 with
      | none => simp
      | some y => simpa using h3 x y e0 e1
  · intro a ha b hb e
    rcases List.mem_append.mp hb with q | q
    · obtain ⟨j, hj, ej⟩ := List.mem_map.mp q
      exact h2 0 j (by decide) (Option.mem_toList.mp hj) (by rw [ej, ← e]; exact ha)
    · obtain ⟨j, hj, ej⟩ := List.mem_map.mp q
      exact h2 1 j (by decide) (Option.mem_toList.mp hj) (by rw [ej, ← e]; exact ha)
theorem js_aj {wt : List jobT} {sn : Nat → Option jobT} (h : js_ok wt sn) : aj wt sn (fun j => j.1 < 2 ∧ j.2.1 < 20) := ⟨h.2.2.2.1, h.2.2.2.2⟩
theorem al_8 {cn : Nat → cnT} {wt : List jobT} {sn : Nat → Option jobT} (h : js_ok wt sn) (hp : aj wt sn (jp_ok cn)) (h4 : ∀ c, c < 2 → c_nh (cn c) ≤ c_na (cn c) + 4) : ((al wt sn).map (fun j => 4 * j.1 + (j.2.1 - c_na (cn j.1)))).Nodup ∧ ∀ x ∈ (al wt sn).map (fun j => 4 * j.1 + (j.2.1 - c_na (cn j.1))), x < 8 := by
  have hm := al_m hp
  have hb := al_m (js_aj h)
  refine ⟨?_, fun x hx => ?_⟩
  · have hn := List.pairwise_map.mp (al_nd h)
    refine List.pairwise_map.mpr (hn.imp_of_mem (fun {i j} hi hj hne e => hne ?_))
    have i1 := hm i hi
    have j1 := hm j hj
    have i2 := hb i hi
    have j2 := hb j hj
    have i4 := h4 i.1 i2.1
    have j4 := h4 j.1 j2.1
    unfold jp_ok at i1 j1
    have e1 : i.1 = j.1 := by omega
    rw [e1] at i1 i4 e
    unfold rid
    omega
  · obtain ⟨j, hj, ej⟩ := List.mem_map.mp hx
    have j1 := hm j hj
    have j2 := hb j hj
    have j4 := h4 j.1 j2.1
    unfold jp_ok at j1
    omega
theorem nd_len {l : List Nat} {n : Nat} (h : l.Nodup) (h2 : ∀ x ∈ l, x < n) : l.length ≤ n := by
  by_cases z : ∃ k, k < n ∧ k ∉ l
  · obtain ⟨k, hk, hkl⟩ := z
    exact Nat.le_of_lt (nd_free h h2 hk hkl)
  · refine Nat.le_of_eq (nd_full h h2 (fun k hk => ?_))
    apply Decidable.byContradiction
    intro y
    exact z ⟨k, hk, y⟩
theorem al_7 {cn : Nat → cnT} {wt : List jobT} {sn : Nat → Option jobT} {c : Nat} (h : js_ok wt sn) (hp : aj wt sn (jp_ok cn)) (h4 : ∀ c, c < 2 → c_nh (cn c) ≤ c_na (cn c) + 4) (hc : c < 2) (h3 : c_nh (cn c) - c_na (cn c) < 4) (hna : c_na (cn c) ≤ c_nh (cn c)) : (al wt sn).length < 8 := by
  obtain ⟨a1, a2⟩ := al_8 h hp h4
  have := nd_free a1 a2 (k := 4 * c + (c_nh (cn c) - c_na (cn c))) (by omega) (fun z => by
    obtain ⟨j, hj, ej⟩ := List.mem_map.mp z
    have j1 := al_m hp j hj
    have j2 := al_m (js_aj h) j hj
    have j4 := h4 j.1 j2.1
    unfold jp_ok at j1
    have ej : 4 * j.1 + (j.2.1 - c_na (cn j.1)) = 4 * c + (c_nh (cn c) - c_na (cn c)) := ej
    have e1 : j.1 = c := by omega
    rw [e1] at j1 ej
    omega)
  rw [List.length_map] at this
  exact this
theorem wt_8 {cn : Nat → cnT} {wt : List jobT} {sn : Nat → Option jobT} (h : js_ok wt sn) (hp : aj wt sn (jp_ok cn)) (h4 : ∀ c, c < 2 → c_nh (cn c) ≤ c_na (cn c) + 4) : wt.length ≤ 8 := by
  obtain ⟨a1, a2⟩ := al_8 h hp h4
  have := nd_len a1 a2
  rw [List.length_map] at this
  unfold al at this
  rw [List.length_append] at this
  omega
theorem my_b {v : cnT} (hm : my_of v = true) : c_sh v = false ∧ c_nh v < 20 ∧ c_nh v - c_na v < 4 ∧ (c_out v).length < 200 := by
  unfold my_of mt_b at hm
  simp only [Bool.and_eq_true, decide_eq_true_eq] at hm
  obtain ⟨⟨⟨m1, m2⟩, m3⟩, m4⟩ := hm
  refine ⟨?_, m2, m3, m4⟩
  cases hs : c_sh v with
  | false => rfl
  | true => rw [hs] at m1; cases m1
theorem at_80 {T : Nat} {q : rqT} {st gt : Nat} {rp : Option rpT} (hT : T < 10 ^ 4) (h1 : st < 1000) (h2 : gt ≤ T + 1) (hr : ∀ r, rp = some r → rp_ok T r) : (at_of q st rp gt).length ≤ 80 := by
  unfold at_of
  cases rp with
  | none => exact ba_80 (by omega) (by omega)
  | some r =>
    have := hr r rfl
    exact sl_80 (by have := this.2.2.1; omega) this.2.2.2 (fun n z => by cases z) this.1
theorem ha_80 {T now : Nat} {q : rqT} {d : sdT} (hT : T < 10 ^ 4) (hn : now < 10 ^ 6) (hr : rp_ok T d.1) : (ha_of q d now).length ≤ 80 := by
  unfold ha_of
  exact sl_80 (by have := hr.2.2.1; omega) hr.2.2.2 (fun n z => by have : now - d.2.2.2.1 = n := Option.some.inj z; omega) hr.1
theorem hu_m {q : rqT} {ss : List sdT} {now i : Nat} (h : hu_of q ss now = some i) : i < ss.length ∧ ss.getD i sd_0 ∈ ss := by
  unfold hu_of at h
  cases e : hf_of q ss with
  | none => rw [e] at h; cases h
  | some k =>
    simp only [e] at h
    by_cases z : ma_of (ss.getD k sd_0) q.2.2.2 now = true
    · rw [if_pos z] at h
      cases h
      unfold hf_of at e
      split at e
      · exact fi_m ss _ e
      · cases e
    · rw [if_neg z] at h; cases h
theorem hp_T {T cap now : Nat} {q : rqT} {ss : List sdT} (h : so_ok T cap now ss) : hp_of q ss ≤ T := by
  unfold hp_of
  cases e : hf_of q ss with
  | none => exact Nat.zero_le _
  | some k =>
    unfold hf_of at e
    split at e
    · exact (h.2.1 _ (fi_m ss _ e).2).1.2.2.1
    · cases e
