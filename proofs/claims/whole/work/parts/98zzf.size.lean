theorem dl_3 {v : Nat} (h : v < 1000) : (dc_of v).length ≤ 3 := dc_lt 2 v h
theorem nl_k {x v k : Nat} (h : v < 10 ^ (k + 1)) : (nl_of x v).length ≤ k + 4 := by
  have := dc_lt k v h
  unfold nl_of
  simp only [List.length_append, List.length_cons, List.length_nil]
  omega
theorem ds_38 {cd l g : Nat} {po : List Nat} {vr : Bool} {ag : Option Nat} (hcd : cd < 1000) (hg : g < 10 ^ 4) (hpo : po.length ≤ 8) (ha : ∀ n, ag = some n → n < 10 ^ 6) : (ds_of cd l g po vr ag).length ≤ 39 := by
  have h1 := dl_3 hcd
  have h2 := nl_k (x := 69) (k := 3) hg
  have h3 : (if vr then [89, 58, 86, 10] else ([] : List Nat)).length ≤ 4 := by cases vr <;> decide
  have h4 : (if po = [] then [] else [80, 58] ++ po ++ [10]).length ≤ 11 := by
    split
    · decide
    · simp; omega
  have h5 : (ag_of ag).length ≤ 9 := by
    cases ag with
    | none => decide
    | some n => exact nl_k (k := 5) (ha n rfl)
  unfold ds_of bg_of
  simp only [List.length_append, List.length_cons, List.length_nil]
  omega
theorem rs_pb {g : List Nat} {n : Nat} {ps : List (Nat × Nat)} (h : rs_of g n = some ps) : ∀ i, i < ps.length → (ps.getD i (0, 0)).1 ≤ (ps.getD i (0, 0)).2 ∧ (ps.getD i (0, 0)).2 < n := by
  have h0 : ∀ i, i < ([] : List (Nat × Nat)).length → (([] : List (Nat × Nat)).getD i (0, 0)).1 ≤ (([] : List (Nat × Nat)).getD i (0, 0)).2 ∧ (([] : List (Nat × Nat)).getD i (0, 0)).2 < n := fun i hi => by cases hi
  unfold rs_of at h
  by_cases z : ix_of 44 g = g.length
  · rw [if_pos z] at h
    cases e : ri_of g n with
    | none => rw [e] at h; cases h
    | some q => rw [e] at h; cases h; exact np_b h0 (ri_b e)
  · rw [if_neg z] at h
    cases e : ri_of (tx_sub g 0 (ix_of 44 g)) n with
    | none => rw [e] at h; cases h
    | some q =>
      rw [e] at h
      cases e2 : ri_of (tx_sub g (ix_of 44 g + 1) g.length) n with
      | none => simp only [e2] at h; cases h
      | some q2 => simp only [e2] at h; cases h; exact np_b (np_b h0 (ri_b e)) (ri_b e2)
theorem pt_80 {lt g : Nat} {bd po : List Nat} {vr : Bool} {ag : Option Nat} {ps : List (Nat × Nat)} (hg : g < 10 ^ 4) (hpo : po.length ≤ 8) (ha : ∀ n, ag = some n → n < 10 ^ 6) (hb : bd.length ≤ 8) (hp : ∀ i, i < ps.length → (ps.getD i (0, 0)).1 ≤ (ps.getD i (0, 0)).2 ∧ (ps.getD i (0, 0)).2 < bd.length) (h2 : ps.length ≤ 2) : (pt_of lt g bd po vr ag ps).length ≤ 80 := by
  have hd := ds_38 (cd := 206) (l := lt) (vr := vr) (by decide) hg hpo ha
  have hb1 : (dc_of bd.length).length ≤ 1 := dc_1 (by omega)
  unfold pt_of
  by_cases z : ps.length = 0
  · rw [if_pos z]
    have := dl_3 (v := 416) (by decide)
    unfold bg_of
    simp only [List.length_append, List.length_cons, List.length_nil]
    omega
  · rw [if_neg z]
    have p0 := hp 0 (by omega)
    by_cases z1 : ps.length = 1
    · rw [if_pos z1]
      generalize ps.getD 0 (0, 0) = q at *
      have s1 := sa_len (q := q) (by omega) (by omega)
      have s2 := nl_k (x := 76) (v := q.2 - q.1 + 1) (k := 0) (by omega)
      have s3 : (tx_sub bd q.1 (q.2 + 1)).length = q.2 + 1 - q.1 := tx_sub_len (by omega)
      unfold op_of
      simp only [List.length_append, List.length_cons, List.length_nil]
      omega
    · rw [if_neg z1]
      have p1 := hp 1 (by omega)
      generalize ps.getD 0 (0, 0) = q at *
      generalize ps.getD 1 (0, 0) = r at *
      have s1 := pz_len p0.1 p0.2 hb
      have s2 := pz_len p1.1 p1.2 hb
      have s3 := nl_k (x := 82) (v := 2) (k := 0) (by decide)
      have s4 := nl_k (x := 76) (v := q.2 - q.1 + (r.2 - r.1) + 12) (k := 1) (by omega)
      unfold tp_of
      simp only [List.length_append, List.length_cons, List.length_nil]
      omega
theorem rs_2 {g : List Nat} {n : Nat} {ps : List (Nat × Nat)} (h : rs_of g n = some ps) : ps.length ≤ 2 := by
  have np2 : ∀ (l : List (Nat × Nat)) (x y : Nat), l.length ≤ 2 → (np_of l x y).length ≤ 2 := fun l x y hl => by
    unfold np_of
    split
    · simp; omega
    · exact hl
  unfold rs_of at h
  by_cases z : ix_of 44 g = g.length
  · rw [if_pos z] at h
    cases e : ri_of g n with
    | none => rw [e] at h; cases h
    | some q => rw [e] at h; cases h; exact np2 _ _ _ (by decide)
  · rw [if_neg z] at h
    cases e : ri_of (tx_sub g 0 (ix_of 44 g)) n with
    | none => rw [e] at h; cases h
    | some q =>
      rw [e] at h
      cases e2 : ri_of (tx_sub g (ix_of 44 g + 1) g.length) n with
      | none => simp only [e2] at h; cases h
      | some q2 => simp only [e2] at h; cases h; exact np2 _ _ _ (np2 _ _ _ (by decide))
theorem ba_80 {st g : Nat} (h1 : st < 2 ^ 31) (h2 : g < 2 ^ 31) : (ba_of st g).length ≤ 80 := Nat.le_trans (ba_len h1 h2) (by decide)
theorem sl_80 {m : Option Nat} {vs : Nat → Option (List Nat)} {lt g : Nat} {bd po : List Nat} {vr : Bool} {ag : Option Nat} (hg : g < 10 ^ 4) (hpo : po.length ≤ 8) (ha : ∀ n, ag = some n → n < 10 ^ 6) (hb : bd.length ≤ 8) : (sl_of m vs lt g bd po vr ag).length ≤ 80 := by
  unfold sl_of
  by_cases z1 : mo_of (vs 0) g = some false
  · rw [if_pos z1]; exact ba_80 (by decide) (by decide)
  · rw [if_neg z1]
    by_cases z2 : mo_of (vs 1) g = some true
    · rw [if_pos z2]
      have := ds_38 (cd := 304) (l := lt) (vr := vr) (by decide) hg hpo ha
      simp only [List.length_append, List.length_cons, List.length_nil]
      omega
    · rw [if_neg z2]
      cases e : rx_of m vs g bd.length with
      | none =>
        have := ds_38 (cd := 200) (l := lt) (vr := vr) (by decide) hg hpo ha
        have h2 := nl_k (x := 76) (v := bd.length) (k := 0) (by omega)
        show (hl_of lt g bd po vr ag (decide (m = some 0))).length ≤ 80
        unfold hl_of
        have h3 : (if decide (m = some 0) then bd else []).length ≤ 8 := by
          split
          · exact hb
          · decide
        simp only [List.length_append, List.length_cons, List.length_nil]
        omega
      | some ps =>
        have er : ∃ g', rs_of g' bd.length = some ps := by
          unfold rx_of at e
          split at e
          · cases ev : vs 2 with
            | none => rw [ev] at e; cases e
            | some r => rw [ev] at e; exact ⟨r, e⟩
          · cases e
        obtain ⟨g', er⟩ := er
        exact pt_80 hg hpo ha hb (rs_pb er) (rs_2 er)
