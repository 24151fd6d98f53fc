section SK
variable {S : hdT} {cn cn' : Nat → cnT} {rs : List roT} {tg cap now k c b u : Nat} {ss : List sdT} {wt : List jobT} {sn : Nat → Option jobT} {v w : cnT} {j : jobT}
theorem sok_cg (h : sok (cn, rs, tg, ss, wt, sn) cap now k) (e : ∀ c, c < 3 → cn' c = cn c) : sok (cn', rs, tg, ss, wt, sn) cap now k := by
  obtain ⟨h1, h2, h3, h4, h5, h6, h7, h8⟩ := h
  refine ⟨fun c hc => by show cok (cn' c) ∧ (c_raw (cn' c)).length ≤ k; rw [e c hc]; exact h1 c hc, h2, ?_, h4, h5, h6, h7, h8⟩
  have hb := js_aj h2
  have key : ∀ i : jobT, i.1 < 2 ∧ i.2.1 < 20 → jb_ok k now cn i → jb_ok k now cn' i := fun i hi hj => by
    unfold jb_ok jp_ok
    rw [e i.1 (by omega)]
    exact hj
  exact ⟨fun i hi => key i (hb.1 i hi) (h3.1 i hi), fun u i hu ei => key i (hb.2 u i hu ei) (h3.2 u i hu ei)⟩
theorem sok_out (h : sok (cn, rs, tg, ss, wt, sn) cap now k) (hc : c < 3) : sok (cup cn c (ouc (cn c)), rs, tg, ss, wt, sn) cap now k := by
  obtain ⟨h1, h2, h3, h4, h5, h6, h7, h8⟩ := h
  exact sok_mk (Nat.le_refl _) h1 ⟨cok_ouc (h1 c hc).1, (h1 c hc).2⟩ h2 (aj_keep (Nat.le_refl _) h3 (fun s q1 q2 q3 => ⟨q1, q2, q3, rfl⟩)) h4 h5 h6 h7 h8
theorem js_sup {j' : jobT} (h : js_ok wt sn) (hu : u < 2) (e : sn u = some j) (e1 : j'.1 = j.1) (e2 : j'.2.1 = j.2.1) : js_ok wt (sup sn u (some j')) := by
  have er : rid j' = rid j := by unfold rid; rw [e1, e2]
  obtain ⟨a1, a2, a3, a4, a5⟩ := h
  have key : ∀ v i, v < 2 → sup sn u (some j') v = some i → ∃ i', sn v = some i' ∧ rid i' = rid i ∧ i'.1 = i.1 ∧ i'.2.1 = i.2.1 := fun v i hv ei => by
    unfold sup at ei
    by_cases z : v = u
    · rw [if_pos z] at ei; cases ei; exact ⟨j, by rw [z]; exact e, er.symm, e1.symm, e2.symm⟩
    · rw [if_neg z] at ei; exact ⟨i, ei, rfl, rfl, rfl⟩
  refine ⟨a1, fun v i hv ei => ?_, fun i0 i1 e0 e1 => ?_, a4, fun v i hv ei => ?_⟩
  · obtain ⟨i', k1, k2, _⟩ := key v i hv ei
    rw [← k2]; exact a2 v i' hv k1
  · obtain ⟨i', k1, k2, _⟩ := key 0 i0 (by decide) e0
    obtain ⟨i'', l1, l2, _⟩ := key 1 i1 (by decide) e1
    rw [← k2, ← l2]; exact a3 i' i'' k1 l1
  · obtain ⟨i', k1, k2, k3, k4⟩ := key v i hv ei
    rw [← k3, ← k4]; exact a5 v i' hv k1
theorem sok_or {wr : Nat × Option rpT × Nat × List roT × Nat} (h : sok (cn, rs, tg, ss, wt, sn) cap now k) (hu : u < 2) (e : sn u = some j) (ew : wr = or_j cn j rs tg) : sok (cn, wr.2.2.2.1, wr.2.2.2.2, ss, wt, sup sn u (some (or_s j wr))) cap now (k + 1) := by
  obtain ⟨h1, h2, h3, h4, h5, h6, h7, h8⟩ := h
  simp only [] at h1 h2 h3 h4 h5 h6
  have hj := h3.2 u j hu e
  obtain ⟨hp, a1, a2, a3, a4, a5, a6, a7, a8, a9⟩ := hj
  obtain ⟨k1, k2, k3, k4, k5, k6, k7, k8⟩ := wk_ok (cp := j.2.2.1) (q := c_rv (cn j.1) j.2.1) (w := wr) ew h4 h5 a8 a9
  refine ⟨fun c hc => ⟨(h1 c hc).1, Nat.le_succ_of_le (h1 c hc).2⟩, js_sup h2 hu e rfl rfl, ⟨fun i hi => jb_up (h3.1 i hi) (Nat.le_succ _) (Nat.le_refl _), fun x i hx ei => ?_⟩, k1, by show wr.2.2.2.2 ≤ k + 1; omega, so_up h6 (Nat.le_succ _) (Nat.le_refl _), h7, h8⟩
  have ei : sup sn u (some (or_s j wr)) x = some i := ei
  unfold sup at ei
  by_cases z : x = u
  · rw [if_pos z] at ei
    cases ei
    exact ⟨hp, Nat.le_succ_of_le a1, a2, fun q => (by have q : wr.1 = 0 := q; omega), k6, fun r er => rp_up (k4 r er) (Nat.le_succ _), k7, k8 _ rfl rfl rfl, a8, a9⟩
  · rw [if_neg z] at ei; exact jb_up (h3.2 x i hx ei) (Nat.le_succ _) (Nat.le_refl _)
theorem oth (h : js_ok wt sn) (hu : u < 2) (e : sn u = some j) : aj wt (sup sn u none) (fun i => ¬ (i.1 = j.1 ∧ i.2.1 = j.2.1)) := by
  obtain ⟨a1, a2, a3, a4, a5⟩ := h
  have er : ∀ i : jobT, i.1 = j.1 ∧ i.2.1 = j.2.1 → rid i = rid j := fun i hi => by unfold rid; rw [hi.1, hi.2]
  refine ⟨fun i hi z => ?_, fun x i hx ei z => ?_⟩
  · refine a2 u j hu e ?_
    rw [← er i z]
    exact List.mem_map.mpr ⟨i, hi, rfl⟩
  · unfold sup at ei
    by_cases y : x = u
    · rw [if_pos y] at ei; cases ei
    · rw [if_neg y] at ei
      have := er i z
      rcases (by omega : x = 0 ∧ u = 1 ∨ x = 1 ∧ u = 0) with q | q
      · rw [q.1] at ei; rw [q.2] at e; exact a3 i j ei e this
      · rw [q.1] at ei; rw [q.2] at e; exact a3 j i e ei this.symm
theorem aj_and {P Q : jobT → Prop} (h : aj wt sn P) (h2 : aj wt sn Q) : aj wt sn (fun i => P i ∧ Q i) := ⟨fun i hi => ⟨h.1 i hi, h2.1 i hi⟩, fun u i hu e => ⟨h.2 u i hu e, h2.2 u i hu e⟩⟩
theorem aj_rm {P : jobT → Prop} (h : aj wt sn P) : aj wt (sup sn u none) P := ⟨h.1, fun x i hx e => by
  unfold sup at e
  by_cases z : x = u
  · rw [if_pos z] at e; cases e
  · rw [if_neg z] at e; exact h.2 x i hx e⟩
theorem sok_rm {x : List Nat} (h : sok (cn, rs, tg, ss, wt, sn) cap now k) (hu : u < 2) (e : sn u = some j) (hx : x.length ≤ 80) : sok (cup cn j.1 (dvc (anc (cn j.1) j.2.1 x)), rs, tg, ss, wt, sup sn u none) cap now k := by
  obtain ⟨h1, h2, h3, h4, h5, h6, h7, h8⟩ := h
  simp only [] at h1 h2 h3 h4 h5 h6
  have hj := (h3.2 u j hu e).1
  unfold jp_ok at hj
  have hb := (js_aj h2).2 u j hu e
  refine sok_mk (Nat.le_refl _) h1 ⟨cok_anc (h1 j.1 (by omega)).1 hj.2.1 hj.2.2 hx, (h1 j.1 (by omega)).2⟩ (js_rm h2) ?_ h4 h5 h6 h7 h8
  refine aj_mn (aj_and (aj_rm h3) (oth h2 hu e)) (fun i hi => jb_cup hi.1 (Nat.le_refl _) (fun e1 => ?_))
  have h9 := hi.1.1
  unfold jp_ok at h9
  rw [e1] at h9
  exact jk_anc h9.1 h9.2.1 h9.2.2 (fun z => hi.2 ⟨e1, z⟩)
theorem spl_s {pa : List Nat} {rv : Nat → Nat → rqT} {o : Option jobT} {i : jobT} (h : spl_of pa rv o = some i) : ∃ i' : jobT, ∃ f : Bool, o = some i' ∧ i = (i'.1, i'.2.1, i'.2.2.1, i'.2.2.2.1, i'.2.2.2.2.1, i'.2.2.2.2.2.1, i'.2.2.2.2.2.2.1, f) := by
  cases o with
  | none => cases h
  | some i' =>
    have h : (if (((rv i'.1 i'.2.1).1 = some 0 ∨ (rv i'.1 i'.2.1).1 = some 1) ∧ (rv i'.1 i'.2.1).2.1 = pa) then some (i'.1, i'.2.1, i'.2.2.1, i'.2.2.2.1, i'.2.2.2.2.1, i'.2.2.2.2.2.1, i'.2.2.2.2.2.2.1, true) else some i') = some i := h
    by_cases z : (((rv i'.1 i'.2.1).1 = some 0 ∨ (rv i'.1 i'.2.1).1 = some 1) ∧ (rv i'.1 i'.2.1).2.1 = pa)
    · rw [if_pos z] at h; cases h; exact ⟨i', true, rfl, rfl⟩
    · rw [if_neg z] at h; cases h; exact ⟨i, i.2.2.2.2.2.2.2, rfl, rfl⟩
theorem sok_arr (h : sok (cn, rs, tg, ss, wt, sn) cap now k) (hk : k + 1 < 10 ^ 4) (hu : u < 2) (e : sn u = some j) : sok ((fun c => dvc (ar_c cn j c)), rs, tg, ar_s cn j cap ss, (sw_of now (wt, sup (ar_n cn u j sn) u none)).1, (sw_of now (wt, sup (ar_n cn u j sn) u none)).2) cap now k ∧ (ar_a cn j).length ≤ 80 ∧ ∀ c, c < 3 → dvc (ar_c cn j c) = cup cn j.1 (dvc (anc (cn j.1) j.2.1 (ar_a cn j))) c := by
  have hall := h
  obtain ⟨h1, h2, h3, h4, h5, h6, h7, h8⟩ := h
  simp only [] at h1 h2 h3 h4 h5 h6
  have hj := h3.2 u j hu e
  obtain ⟨hp, a1, a2, a3, a4, a5, a6, a7, a8, a9⟩ := hj
  have h80 : (ar_a cn j).length ≤ 80 := at_80 (T := k) (by omega) a4 (by omega) a5
  have hcn : ∀ c, c < 3 → dvc (ar_c cn j c) = cup cn j.1 (dvc (anc (cn j.1) j.2.1 (ar_a cn j))) c := fun c hc => by
    unfold ar_c
    by_cases z : c = j.1
    · subst z; rw [cup_c, cup_c]
    · rw [cup_n z, cup_n z, dvc_rest (h1 c hc).1.2.2.2.2.2.2.2]
  refine ⟨?_, h80, hcn⟩
  obtain ⟨b1, b2, b3, b4, b5, b6, b7, b8⟩ := sok_rm hall hu e h80
  simp only [] at b1 b2 b3 b4 b5 b6
  refine sok_cg ?_ hcn
  have hss : so_ok k cap now (ar_s cn j cap ss) := by
    unfold ar_s
    split
    · exact so_tr h6 a5 a2
    · split
      · exact so_fl _ h6
      · exact h6
  have key : ∀ x i, x < 2 → sup (ar_n cn u j sn) u none x = some i → ∃ i' : jobT, ∃ f : Bool, sup sn u none x = some i' ∧ (i = i' ∨ i = (i'.1, i'.2.1, i'.2.2.1, i'.2.2.2.1, i'.2.2.2.2.1, i'.2.2.2.2.2.1, i'.2.2.2.2.2.2.1, f)) := by
    intro x i hx ei
    by_cases z : x = u
    · unfold sup at ei; rw [if_pos z] at ei; cases ei
    · have e1 : sup sn u none x = sn x := if_neg z
      have e2 : sup (ar_n cn u j sn) u none x = ar_n cn u j sn x := if_neg z
      rw [e2] at ei
      unfold ar_n at ei
      split at ei
      · unfold sup at ei
        by_cases y : x = 1 - u
        · rw [if_pos y] at ei
          obtain ⟨i', f, s1, s2⟩ := spl_s ei
          exact ⟨i', f, by rw [e1, y]; exact s1, Or.inr s2⟩
        · rw [if_neg y] at ei; exact ⟨i, true, by rw [e1]; exact ei, Or.inl rfl⟩
      · exact ⟨i, true, by rw [e1]; exact ei, Or.inl rfl⟩
  have hjs : js_ok wt (sup (ar_n cn u j sn) u none) := by
    refine js_rm ?_
    unfold ar_n
    split
    · exact js_spl h2
    · exact h2
  have haj : aj wt (sup (ar_n cn u j sn) u none) (jb_ok k now (cup cn j.1 (dvc (anc (cn j.1) j.2.1 (ar_a cn j))))) := by
    refine ⟨b3.1, fun x i hx ei => ?_⟩
    obtain ⟨i', f, s1, s2⟩ := key x i hx ei
    have := b3.2 x i' hx s1
    rcases s2 with s2 | s2
    · rw [s2]; exact this
    · rw [s2]; exact this
  exact ⟨b1, js_swo hjs, aj_sw (q := (wt, _)) jb_sa haj, h4, h5, hss, h7, h8⟩
def qs_1 (now u : Nat) (q : psT) : psT := match q.2.1 u with
  | none => q
  | some j => if 10 ≤ now - j.2.2.2.1 then (cup q.1 j.1 (dvc (anc (q.1 j.1) j.2.1 (ba_of 504 0))), sup q.2.1 u none, q.2.2 + 1) else q
theorem sok_qs {n : Nat} {q : psT} (h : sok (q.1, rs, tg, ss, wt, q.2.1) cap now k) (hu : u < 2) : sok ((qs_1 n u q).1, rs, tg, ss, wt, (qs_1 n u q).2.1) cap now k := by
  unfold qs_1
  cases e : q.2.1 u with
  | none => simp only [e]; exact h
  | some j =>
    simp only [e]
    by_cases z : 10 ≤ n - j.2.2.2.1
    · rw [if_pos z]; exact sok_rm h hu e (ba_80 (by decide) (by decide))
    · rw [if_neg z]; exact h
def ps_R (a b : psT) : Prop := a.2 = b.2 ∧ ∀ c, c < 3 → dvc (a.1 c) = b.1 c ∧ c_na (a.1 c) ≤ c_nh (a.1 c)
theorem ps_qs {n : Nat} {a q : psT} (h : ps_R a q) (hj : ∀ j, q.2.1 u = some j → j.1 < 3 ∧ c_an (a.1 j.1) j.2.1 = none) : ps_R (ps_1 n u a) (qs_1 n u q) := by
  obtain ⟨e2, h1⟩ := h
  unfold ps_1 qs_1
  rw [e2]
  cases e : q.2.1 u with
  | none => simp only [e]; exact ⟨e2, h1⟩
  | some j =>
    simp only [e]
    obtain ⟨j1, j2⟩ := hj j e
    by_cases z : 10 ≤ n - j.2.2.2.1
    · rw [if_pos z, if_pos z]
      refine ⟨rfl, fun c hc => ?_⟩
      show dvc (cup a.1 j.1 (anc (a.1 j.1) j.2.1 (ba_of 504 0)) c) = cup q.1 j.1 (dvc (anc (q.1 j.1) j.2.1 (ba_of 504 0))) c ∧ c_na (cup a.1 j.1 (anc (a.1 j.1) j.2.1 (ba_of 504 0)) c) ≤ c_nh (cup a.1 j.1 (anc (a.1 j.1) j.2.1 (ba_of 504 0)) c)
      by_cases y : c = j.1
      · subst y
        rw [cup_c, cup_c, ← (h1 j.1 j1).1, dv_anc2 j2 (h1 j.1 j1).2]
        exact ⟨rfl, (h1 j.1 j1).2⟩
      · rw [cup_n y, cup_n y]; exact h1 c hc
    · rw [if_neg z, if_neg z]; exact ⟨e2, h1⟩
theorem sok_now {now' : Nat} (h : sok (cn, rs, tg, ss, wt, sn) cap now k) (hn : now ≤ now') (h6 : now' < 10 ^ 6) : sok (cn, rs, tg, ss, wt, sn) cap now' k := by
  obtain ⟨h1, h2, h3, h4, h5, h6', h7, h8⟩ := h
  exact ⟨h1, h2, aj_mn h3 (fun i hi => jb_up hi (Nat.le_refl _) hn), h4, h5, so_up h6' (Nat.le_refl _) hn, h7, h6⟩
theorem ps_all {n : Nat} (h : sok (cn, rs, tg, ss, wt, sn) cap now k) : ps_R (ps_of n cn sn) (qs_1 n 1 (qs_1 n 0 (cn, sn, 0))) := by
  obtain ⟨h1, h2, h3, h4, h5, h6', h7, h8⟩ := h
  simp only [] at h1 h2 h3
  have r0 : ps_R (cn, sn, 0) (cn, sn, 0) := ⟨rfl, fun c hc => ⟨dvc_rest (h1 c hc).1.2.2.2.2.2.2.2, (h1 c hc).1.2.2.2.2.2.1.1⟩⟩
  have hb := js_aj h2
  have r1 := ps_qs (n := n) (u := 0) r0 (fun j e => ⟨by have := hb.2 0 j (by decide) e; omega, (h3.2 0 j (by decide) e).1.2.2⟩)
  refine ps_qs (n := n) (u := 1) r1 (fun j e => ?_)
  -- the second one: its slot wasn't touched
  have e1 : sn 1 = some j := by
    unfold qs_1 at e
    cases e0 : sn 0 with
    | none => simp only [e0] at e; exact e
    | some i =>
      simp only [e0] at e
      by_cases z : 10 ≤ n - i.2.2.2.1
      · rw [if_pos z] at e; exact e
      · rw [if_neg z] at e; exact e
  have hj := h3.2 1 j (by decide) e1
  refine ⟨by have := hb.2 1 j (by decide) e1; omega, ?_⟩
  unfold ps_1
  cases e0 : sn 0 with
  | none => simp only [e0]; exact hj.1.2.2
  | some i =>
    simp only [e0]
    by_cases z : 10 ≤ n - i.2.2.2.1
    · rw [if_pos z]
      show c_an (cup cn i.1 (anc (cn i.1) i.2.1 (ba_of 504 0)) j.1) j.2.1 = none
      have ho := (oth h2 (by decide) e0).2 1 j (by decide) (by show (if 1 = 0 then none else sn 1) = some j; rw [if_neg (by decide)]; exact e1)
      by_cases y : j.1 = i.1
      · rw [y, cup_c]
        show (if j.2.1 = i.2.1 then _ else c_an (cn i.1) j.2.1) = none
        rw [if_neg (fun q => ho ⟨y, q⟩), ← y]
        exact hj.1.2.2
      · rw [cup_n y]; exact hj.1.2.2
    · rw [if_neg z]; exact hj.1.2.2
theorem sok_ps {n : Nat} (h : sok (cn, rs, tg, ss, wt, sn) cap now k) (hn : now ≤ n) (h6 : n < 10 ^ 6) : sok ((fun e => dvc ((ps_of n cn sn).1 e)), rs, tg, ss, (sw_of n (wt, (ps_of n cn sn).2.1)).1, (sw_of n (wt, (ps_of n cn sn).2.1)).2) cap n k := by
  obtain ⟨r1, r2⟩ := ps_all (n := n) h
  have hq := sok_qs (n := n) (u := 1) (q := qs_1 n 0 (cn, sn, 0)) (sok_qs (n := n) (u := 0) (q := (cn, sn, 0)) (sok_now h hn h6) (by decide)) (by decide)
  rw [r1]
  obtain ⟨b1, b2, b3, b4, b5, b6, b7, b8⟩ := hq
  refine sok_cg (cn := (qs_1 n 1 (qs_1 n 0 (cn, sn, 0))).1) ?_ (fun c hc => (r2 c hc).1)
  exact ⟨b1, js_swo b2, aj_sw (q := (wt, _)) jb_sa b3, b4, b5, b6, b7, b8⟩
end SK
