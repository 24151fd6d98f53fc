def rp_ok (T : Nat) (r : rpT) : Prop := r.2.1.length ≤ 8 ∧ 0 < r.2.2.1 ∧ r.2.2.1 ≤ T ∧ r.2.2.2.1.length ≤ 8
def ro_ok (T : Nat) (r : roT) : Prop := r.2.1.length ≤ 8 ∧ (∃ l, l < 3 ∧ r.2.2 l ≠ none) ∧ ∀ l q, r.2.2 l = some q → q.1.length ≤ 8 ∧ 0 < q.2 ∧ q.2 ≤ T
def os_ok (T : Nat) (rs : List roT) : Prop := rs.length ≤ 6 ∧ (rs.map (fun r => r.1)).Nodup ∧ ∀ r ∈ rs, ro_ok T r
theorem rp_up {T U : Nat} {r : rpT} (h : rp_ok T r) (hu : T ≤ U) : rp_ok U r := ⟨h.1, h.2.1, Nat.le_trans h.2.2.1 hu, h.2.2.2⟩
theorem os_up {T U : Nat} {rs : List roT} (h : os_ok T rs) (hu : T ≤ U) : os_ok U rs := ⟨h.1, h.2.1, fun r hr => ⟨(h.2.2 r hr).1, (h.2.2 r hr).2.1, fun l q e => ⟨((h.2.2 r hr).2.2 l q e).1, ((h.2.2 r hr).2.2 l q e).2.1, Nat.le_trans ((h.2.2 r hr).2.2 l q e).2.2 hu⟩⟩⟩
theorem ex_ok {T i : Nat} {r : roT} {p : rpT} (h : ro_ok T r) (e : ex_of r.2.1 r.2.2 i = some p) : rp_ok T p := by
  unfold ex_of at e
  cases eb : r.2.2 i with
  | none => rw [eb] at e; cases e
  | some q =>
    rw [eb] at e
    cases e
    have := h.2.2 i q eb
    exact ⟨this.1, this.2.1, this.2.2, h.1⟩
theorem le_ex {fs : Nat → Option rpT} {r : rpT} : ∀ k, le_k fs k = some r → ∃ i, fs i = some r := by
  intro k
  induction k with
  | zero => intro h; cases h
  | succ k ih =>
    intro h
    rw [le_k] at h
    cases e : fs (2 - k) with
    | none => rw [e] at h; exact ih h
    | some p => rw [e] at h; cases h; exact ⟨_, e⟩
theorem cs_ex {t : List Nat} {fs : Nat → Option rpT} : ∀ (k : Nat) (b : Option rpT × Nat), (∀ r, b.1 = some r → ∃ i, fs i = some r) → ∀ r, (cs_k t fs k b).1 = some r → ∃ i, fs i = some r := by
  intro k
  induction k with
  | zero => intro b h r e; exact h r e
  | succ k ih =>
    intro b h r e
    refine ih (cs_of t fs b (2 - k)) (fun r' e' => ?_) r e
    unfold cs_of at e'
    cases ef : fs (2 - k) with
    | none => rw [ef] at e'; exact h r' e'
    | some p =>
      simp only [ef] at e'
      by_cases z : b.2 < qu_of (nb_of p.1 t)
      · rw [if_pos z] at e'; cases e'; exact ⟨_, ef⟩
      · rw [if_neg z] at e'; exact h r' e'
theorem ch_ex {o : Option (List Nat)} {fs : Nat → Option rpT} {r : rpT} (h : ch_of o fs = some r) : ∃ i, fs i = some r := by
  unfold ch_of at h
  cases o with
  | none => exact le_ex 3 h
  | some t =>
    simp only [] at h
    by_cases z : ct_of fs = 1
    · rw [if_pos z] at h; exact le_ex 3 h
    · rw [if_neg z] at h; exact cs_ex 3 (none, 0) (fun r e => by cases e) r h
theorem io_s {pa : List Nat} : ∀ (rs : List roT) (i : Nat), io_of pa rs = some i → i < rs.length ∧ rs.getD i ro_0 ∈ rs ∧ (rs.getD i ro_0).1 = pa := by
  intro rs
  induction rs with
  | nil => intro i h; cases h
  | cons r l ih =>
    intro i h
    rw [io_of] at h
    by_cases z : r.1 = pa
    · rw [if_pos z] at h
      cases h
      exact ⟨by simp, by simp, z⟩
    · rw [if_neg z] at h
      cases e : io_of pa l with
      | none => rw [e] at h; cases h
      | some k =>
        rw [e] at h
        cases h
        obtain ⟨h1, h2, h3⟩ := ih k e
        exact ⟨by simp; omega, List.mem_cons_of_mem _ h2, h3⟩
theorem io_n {pa : List Nat} : ∀ (rs : List roT), io_of pa rs = none → pa ∉ rs.map (fun r => r.1) := by
  intro rs
  induction rs with
  | nil => intro _ h; cases h
  | cons r l ih =>
    intro h hm
    rw [io_of] at h
    by_cases z : r.1 = pa
    · rw [if_pos z] at h; cases h
    · rw [if_neg z] at h
      cases e : io_of pa l with
      | none =>
        rcases List.mem_cons.mp hm with q | q
        · exact z q.symm
        · exact ih e q
      | some k => rw [e] at h; cases h
theorem rx_ok {T i k : Nat} {rs : List roT} {p : rpT} {pa : List Nat} (h : os_ok T rs) (hi : io_of pa rs = some i) (e : rx_ex rs i k = some p) : rp_ok T p := ex_ok (h.2.2 _ (io_s rs i hi).2.1) e
theorem pl_3 {o : Option (List Nat)} {n : Nat} (h : pl_at o = some n) : n < 3 := by
  unfold pl_at at h
  cases o with
  | none => cases h; decide
  | some t =>
    simp only [] at h
    split at h
    · cases h; omega
    · cases h
theorem pu_ok {T g : Nat} {pa bd : List Nat} {vs : Nat → Option (List Nat)} {rs : List roT} (h : os_ok T rs) (hg : g ≤ T) (hb : bd.length ≤ 8) (hv : ∀ t, vs 7 = some t → t.length ≤ 8) : os_ok (T + 1) (pu_of pa bd vs rs g).2.2.1 ∧ g ≤ (pu_of pa bd vs rs g).2.2.2 ∧ (pu_of pa bd vs rs g).2.2.2 ≤ g + 1 ∧ (pu_of pa bd vs rs g).2.1 ≤ T + 1 ∧ ((pu_of pa bd vs rs g).1 < 300 ↔ (pu_of pa bd vs rs g).1 = 201 ∨ (pu_of pa bd vs rs g).1 = 204) ∧ ((pu_of pa bd vs rs g).1 = 201 ∨ (pu_of pa bd vs rs g).1 = 204 → 0 < (pu_of pa bd vs rs g).2.1) := by
  have same : ∀ st, 300 ≤ st → os_ok (T + 1) (st, 0, rs, g).2.2.1 ∧ g ≤ (st, 0, rs, g).2.2.2 ∧ (st, 0, rs, g).2.2.2 ≤ g + 1 ∧ (st, 0, rs, g).2.1 ≤ T + 1 ∧ ((st, 0, rs, g).1 < 300 ↔ (st, 0, rs, g).1 = 201 ∨ (st, 0, rs, g).1 = 204) ∧ ((st, 0, rs, g).1 = 201 ∨ (st, 0, rs, g).1 = 204 → 0 < (st, 0, rs, g).2.1) := by
    intro st hst
    exact ⟨os_up h (by omega), Nat.le_refl _, by show g ≤ g + 1; omega, Nat.zero_le _, ⟨fun z => (by have z : st < 300 := z; omega), fun z => (by have z : st = 201 ∨ st = 204 := z; omega)⟩, fun z => (by have z : st = 201 ∨ st = 204 := z; omega)⟩
  unfold pu_of
  cases e6 : pl_at (vs 6) with
  | none => exact same 415 (by decide)
  | some n =>
    simp only []
    by_cases z1 : fb_of vs (rt_of (pu_old pa rs n)) = true
    · rw [if_pos z1]; exact same 412 (by decide)
    · rw [if_neg z1]
      by_cases z2 : io_of pa rs = none ∧ 6 ≤ rs.length
      · rw [if_pos z2]; exact same 507 (by decide)
      · rw [if_neg z2]
        have hn3 := pl_3 e6
        have hnt : 0 < (nt_of bd g (pu_old pa rs n)).1 ∧ (nt_of bd g (pu_old pa rs n)).1 ≤ T + 1 ∧ g ≤ (nt_of bd g (pu_old pa rs n)).2 ∧ (nt_of bd g (pu_old pa rs n)).2 ≤ g + 1 := by
          cases eo : pu_old pa rs n with
          | none => exact ⟨Nat.succ_pos _, by show g + 1 ≤ T + 1; omega, by show g ≤ g + 1; omega, Nat.le_refl _⟩
          | some r =>
            have hr : rp_ok T r := by
              unfold pu_old at eo
              cases ei : io_of pa rs with
              | none => rw [ei] at eo; cases eo
              | some i => rw [ei] at eo; exact rx_ok h ei eo
            unfold nt_of
            simp only []
            by_cases z3 : r.2.1 = bd
            · rw [if_pos z3]; exact ⟨hr.2.1, by have := hr.2.2.1; show r.2.2.1 ≤ T + 1; omega, Nat.le_refl _, by show g ≤ g + 1; omega⟩
            · rw [if_neg z3]; exact ⟨Nat.succ_pos _, by show g + 1 ≤ T + 1; omega, by show g ≤ g + 1; omega, Nat.le_refl _⟩
        have hst : st_of (pu_old pa rs n) = 201 ∨ st_of (pu_old pa rs n) = 204 := by
          cases pu_old pa rs n with
          | none => exact Or.inl rfl
          | some r => exact Or.inr rfl
        have hpo : ((vs 7).getD []).length ≤ 8 := by
          cases ev : vs 7 with
          | none => decide
          | some t => exact hv t ev
        generalize (nt_of bd g (pu_old pa rs n)).1 = a at *
        refine ⟨?_, hnt.2.2.1, hnt.2.2.2, hnt.2.1, ⟨fun _ => hst, fun _ => by show st_of _ < 300; omega⟩, fun _ => hnt.1⟩
        show os_ok (T + 1) (pu_rs pa ((vs 7).getD []) rs n (bd, a))
        unfold pu_rs
        cases ei : io_of pa rs with
        | none =>
          refine ⟨?_, ?_, fun r hr => ?_⟩
          · rw [List.length_append]
            have : ¬ 6 ≤ rs.length := fun q => z2 ⟨ei, q⟩
            simp; omega
          · rw [List.map_append]
            refine List.nodup_append.mpr ⟨h.2.1, by simp, fun a ha b hb e => ?_⟩
            have hb : b = pa := by simpa using hb
            exact io_n rs ei (by rw [← hb, ← e]; exact ha)
          · rcases List.mem_append.mp hr with q | q
            · exact (os_up h (Nat.le_succ _)).2.2 r q
            · have e := List.mem_singleton.mp q
              subst e
              refine ⟨hpo, ⟨n, hn3, ?_⟩, fun l q e => ?_⟩
              · show bu_of (fun _ => none) n (bd, a) n ≠ none
                unfold bu_of
                rw [if_pos rfl]
                exact fun z => by cases z
              · have e : bu_of (fun _ => none) n (bd, a) l = some q := e
                unfold bu_of at e
                by_cases zl : l = n
                · rw [if_pos zl] at e; cases e; exact ⟨hb, hnt.1, hnt.2.1⟩
                · rw [if_neg zl] at e; cases e
        | some i =>
          obtain ⟨i1, i2, i3⟩ := io_s rs i ei
          refine ⟨by rw [List.length_set]; exact h.1, ?_, fun r hr => ?_⟩
          · have e : (rs.set i ((rs.getD i ro_0).1, (vs 7).getD [], bu_of (rs.getD i ro_0).2.2 n (bd, a))).map (fun r => r.1) = rs.map (fun r => r.1) := by
              rw [List.map_set]
              show (rs.map (fun r => r.1)).set i (rs.getD i ro_0).1 = _
              apply List.ext_getElem?
              intro k
              rw [List.getElem?_set]
              by_cases zk : i = k
              · subst zk
                rw [if_pos rfl, if_pos (by rw [List.length_map]; exact i1), List.getElem?_map, List.getElem?_eq_getElem i1, List.getD_eq_getElem?_getD, List.getElem?_eq_getElem i1]
                rfl
              · rw [if_neg zk]
            rw [e]
            exact h.2.1
          · rcases List.mem_or_eq_of_mem_set hr with q | q
            · exact (os_up h (Nat.le_succ _)).2.2 r q
            · subst q
              have ho := (os_up h (Nat.le_succ _)).2.2 _ i2
              refine ⟨hpo, ⟨n, hn3, ?_⟩, fun l q e => ?_⟩
              · show bu_of _ n (bd, a) n ≠ none
                unfold bu_of
                rw [if_pos rfl]
                exact fun z => by cases z
              · have e : bu_of (rs.getD i ro_0).2.2 n (bd, a) l = some q := e
                unfold bu_of at e
                by_cases zl : l = n
                · rw [if_pos zl] at e; cases e; exact ⟨hb, hnt.1, hnt.2.1⟩
                · rw [if_neg zl] at e; exact ho.2.2 l q e
theorem dl_ok {T : Nat} {pa : List Nat} {vs : Nat → Option (List Nat)} {rs : List roT} (h : os_ok T rs) : os_ok T (dl_of pa vs rs).2 ∧ ((dl_of pa vs rs).1 < 300 ↔ (dl_of pa vs rs).1 = 201 ∨ (dl_of pa vs rs).1 = 204) := by
  unfold dl_of
  cases ei : io_of pa rs with
  | none => exact ⟨h, (by decide : 404 < 300 ↔ 404 = 201 ∨ 404 = 204)⟩
  | some i =>
    simp only []
    by_cases z : fb_of vs (rt_of (le_of (rx_ex rs i))) = true
    · rw [if_pos z]; exact ⟨h, (by decide : 412 < 300 ↔ 412 = 201 ∨ 412 = 204)⟩
    · rw [if_neg z]
      refine ⟨⟨Nat.le_trans (List.length_eraseIdx_le ..) h.1, ?_, fun r hr => h.2.2 r (List.mem_of_mem_eraseIdx hr)⟩, (by decide : 204 < 300 ↔ 204 = 201 ∨ 204 = 204)⟩
      exact List.Nodup.sublist ((List.eraseIdx_sublist _ _).map _) h.2.1
theorem wk_ok {T g cp : Nat} {q : rqT} {rs : List roT} {w : Nat × Option rpT × Nat × List roT × Nat} (ew : w = wk_of q.1 q.2.1 q.2.2.1 q.2.2.2 cp rs g) (h : os_ok T rs) (hg : g ≤ T) (hb : q.2.2.1.length ≤ 8) (hv : ∀ t, q.2.2.2 7 = some t → t.length ≤ 8) : os_ok (T + 1) w.2.2.2.1 ∧ g ≤ w.2.2.2.2 ∧ w.2.2.2.2 ≤ g + 1 ∧ (∀ r, w.2.1 = some r → rp_ok T r) ∧ 0 < w.1 ∧ w.1 < 1000 ∧ w.2.2.1 ≤ T + 1 ∧ (∀ b : jobT, b.2.2.2.2.1 = w.1 → b.2.2.2.2.2.1 = w.2.1 → b.2.2.2.2.2.2.1 = w.2.2.1 → jr_ok q b) := by
  obtain ⟨m, pa, bd, vs⟩ := q
  simp only [] at ew hb hv
  unfold wk_of at ew
  by_cases m2 : m = some 2
  · rw [if_pos m2] at ew
    subst ew
    obtain ⟨p1, p2, p3, p4, p5, p6⟩ := pu_ok (pa := pa) (bd := bd) (vs := vs) h hg hb hv
    have n2 := pu_n2 (pa := pa) (bd := bd) (vs := vs) (rs := rs) (g := g)
    have st := pu_st (pa := pa) (bd := bd) (vs := vs) (rs := rs) (g := g)
    refine ⟨p1, p2, p3, fun r e => (by cases e), n2.1, st, p4, fun b e1 e2 e3 _ => ⟨fun z => ?_, fun _ => ?_⟩⟩
    · have z : m = some 0 ∨ m = some 1 := z
      rw [m2] at z
      rcases z with z | z <;> cases z
    · rw [e1, e2, e3]
      refine ⟨rfl, p5, fun z => ?_, fun _ => p6⟩
      exact pu_0 (fun y => z ⟨m2, y⟩)
  · rw [if_neg m2] at ew
    by_cases m3 : m = some 3
    · rw [if_pos m3] at ew
      subst ew
      obtain ⟨p1, p5⟩ := dl_ok (pa := pa) (vs := vs) h
      have n2 := dl_n2 (pa := pa) (vs := vs) (rs := rs)
      have st := dl_st (pa := pa) (vs := vs) (rs := rs)
      refine ⟨os_up p1 (Nat.le_succ _), Nat.le_refl _, Nat.le_succ _, fun r e => (by cases e), n2.1, st, Nat.zero_le _, fun b e1 e2 e3 _ => ⟨fun z => ?_, fun _ => ?_⟩⟩
      · have z : m = some 0 ∨ m = some 1 := z
        rw [m3] at z
        rcases z with z | z <;> cases z
      · rw [e1, e2, e3]
        exact ⟨rfl, p5, fun _ => rfl, fun z => absurd z m2⟩
    · rw [if_neg m3] at ew
      subst ew
      have hre : (re_of pa vs cp rs).1 = 404 ∧ (re_of pa vs cp rs).2 = none ∨ (re_of pa vs cp rs).1 = 406 ∧ (re_of pa vs cp rs).2 = none ∨ ∃ r, (re_of pa vs cp rs).2 = some r ∧ rp_ok T r ∧ ((re_of pa vs cp rs).1 = 304 ∨ (re_of pa vs cp rs).1 = 200) := by
        unfold re_of
        cases ei : io_of pa rs with
        | none => exact Or.inl ⟨rfl, rfl⟩
        | some i =>
          simp only []
          cases ec : ch_of (vs 5) (rx_ex rs i) with
          | none => exact Or.inr (Or.inl ⟨rfl, rfl⟩)
          | some r =>
            obtain ⟨k, ek⟩ := ch_ex ec
            refine Or.inr (Or.inr ⟨r, rfl, rx_ok h ei ek, ?_⟩)
            show (if r.2.2.1 = cp then 304 else 200) = 304 ∨ (if r.2.2.1 = cp then 304 else 200) = 200
            split
            · exact Or.inl rfl
            · exact Or.inr rfl
      generalize re_of pa vs cp rs = re at hre
      refine ⟨os_up h (Nat.le_succ _), Nat.le_refl _, Nat.le_succ _, fun r e => ?_, ?_, ?_, Nat.zero_le _, fun b e1 e2 e3 _ => ⟨fun _ => ⟨by rw [e3], fun r e => ?_, fun e => ?_⟩, fun z => ?_⟩⟩
      · have e : re.2 = some r := e
        rcases hre with q | q | ⟨r', q1, q2, q3⟩
        · rw [q.2] at e; cases e
        · rw [q.2] at e; cases e
        · rw [q1] at e; cases e; exact q2
      · show 0 < re.1
        rcases hre with q | q | ⟨r', q1, q2, q3⟩ <;> omega
      · show re.1 < 1000
        rcases hre with q | q | ⟨r', q1, q2, q3⟩ <;> omega
      · rw [e2] at e
        have e : re.2 = some r := e
        rw [e1]
        show re.1 ≤ 400
        rcases hre with q | q | ⟨r', q1, q2, q3⟩
        · rw [q.2] at e; cases e
        · rw [q.2] at e; cases e
        · omega
      · rw [e2] at e
        have e : re.2 = none := e
        rw [e1]
        show 400 < re.1
        rcases hre with q | q | ⟨r', q1, q2, q3⟩
        · omega
        · omega
        · rw [q1] at e; cases e
      · have z : m = some 2 ∨ m = some 3 := z
        exact absurd (z.elim (fun z => m2 z) (fun z => m3 z)) id
