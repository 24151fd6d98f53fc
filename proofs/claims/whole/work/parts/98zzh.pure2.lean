def cf (d e : sdT) : Prop := d.2.1 = e.2.1 ∧ (d.1.2.2.2.2 = false ∨ e.1.2.2.2.2 = false ∨ d.2.2.1 = e.2.2.1)
def so_ok (T cap now : Nat) (ss : List sdT) : Prop := sm_of ss ≤ cap ∧ (∀ d ∈ ss, rp_ok T d.1 ∧ d.2.2.2.1 ≤ now ∧ d.2.2.2.2 = sz_of d.1) ∧ ss.Pairwise (fun d e => ¬ cf d e)
theorem cf_sy {d e : sdT} (h : cf d e) : cf e d := ⟨h.1.symm, h.2.elim (fun z => Or.inr (Or.inl z)) (fun z => z.elim (fun z => Or.inl z) (fun z => Or.inr (Or.inr z.symm)))⟩
theorem sz_17 {r : rpT} : 17 ≤ sz_of r := by
  have h1 := dc_ge 2 200 (by decide)
  have h2 := dc_pos r.2.2.1
  have h3 := dc_pos r.2.1.length
  unfold sz_of hl_of ds_of nl_of bg_of
  simp only [List.length_append, List.length_cons, List.length_nil]
  omega
theorem sz_128 {r : rpT} {T : Nat} (h : rp_ok T r) (hT : T < 10 ^ 9) : sz_of r < 128 := hl_lt (by have := h.2.2.1; omega) h.1 h.2.2.2 (fun n z => by cases z)
theorem so_20 {T cap now : Nat} {ss : List sdT} (h : so_ok T cap now ss) (hc : cap ≤ 300) : ss.length ≤ 17 := by
  have := sm_17 ss (fun d hd => by rw [(h.2.1 d hd).2.2]; exact sz_17)
  have := h.1
  omega
theorem so_up {T U cap now now' : Nat} {ss : List sdT} (h : so_ok T cap now ss) (hu : T ≤ U) (hn : now ≤ now') : so_ok U cap now' ss := ⟨h.1, fun d hd => ⟨rp_up (h.2.1 d hd).1 hu, Nat.le_trans (h.2.1 d hd).2.1 hn, (h.2.1 d hd).2.2⟩, h.2.2⟩
theorem so_fl {T cap now : Nat} {ss : List sdT} (f : sdT → Bool) (h : so_ok T cap now ss) : so_ok T cap now (dr_of f ss) := by
  refine ⟨Nat.le_trans (sm_fl f ss) h.1, fun d hd => ?_, ?_⟩
  · rw [dr_filter] at hd
    exact h.2.1 d (List.mem_filter.mp hd).1
  · rw [dr_filter]
    exact h.2.2.sublist List.filter_sublist
theorem fi_m {pa : List Nat} {v : Option (List Nat)} : ∀ (ss : List sdT) (i : Nat), fi_of pa v ss = some i → i < ss.length ∧ ss.getD i sd_0 ∈ ss := by
  intro ss
  induction ss with
  | nil => intro i h; cases h
  | cons d l ih =>
    intro i h
    rw [fi_of] at h
    by_cases z : ft_of pa v d = true
    · rw [if_pos z] at h; cases h; exact ⟨by simp, by simp⟩
    · rw [if_neg z] at h
      cases e : fi_of pa v l with
      | none => rw [e] at h; cases h
      | some k =>
        rw [e] at h
        cases h
        obtain ⟨h1, h2⟩ := ih k e
        exact ⟨by simp; omega, List.mem_cons_of_mem _ h2⟩
theorem so_us {T cap now i : Nat} {ss : List sdT} (h : so_ok T cap now ss) (hi : i < ss.length) : so_ok T cap now (us_of i ss) := by
  have hm : ss.getD i sd_0 ∈ ss := by
    rw [List.getD_eq_getElem?_getD, List.getElem?_eq_getElem hi]
    exact List.getElem_mem hi
  have hp : (us_of i ss).Perm ss := by
    unfold us_of
    have e : ss.getD i sd_0 = ss[i] := by rw [List.getD_eq_getElem?_getD, List.getElem?_eq_getElem hi]; rfl
    rw [e]
    have e2 : ss = ss.take i ++ ss[i] :: ss.drop (i + 1) := by rw [← List.drop_eq_getElem_cons hi, List.take_append_drop]
    have h3 : (ss[i] :: ss.eraseIdx i).Perm ss := by
      rw [List.eraseIdx_eq_take_drop_succ]
      exact (List.perm_middle.symm).trans (by rw [← e2])
    exact (List.perm_append_singleton _ _).trans h3
  refine ⟨?_, fun d hd => h.2.1 d (hp.mem_iff.mp hd), ?_⟩
  · unfold us_of
    rw [sm_app]
    have := sm_er ss i hi
    have e : sm_of [ss.getD i sd_0] = (ss.getD i sd_0).2.2.2.2 := rfl
    rw [e]
    have := h.1
    omega
  · exact (hp.pairwise_iff (fun z y => z (cf_sy y))).mpr h.2.2
theorem kp_suf {cap sz : Nat} : ∀ (ss : List sdT), sz ≤ cap → List.Sublist (kp_go cap sz ss) ss ∧ sm_of (kp_go cap sz ss) + sz ≤ cap := by
  intro ss hs
  induction ss with
  | nil => exact ⟨List.Sublist.refl _, by show 0 + sz ≤ cap; omega⟩
  | cons d l ih =>
    rw [kp_go]
    by_cases z : cap < sm_of (d :: l) + sz
    · rw [if_pos z]; exact ⟨ih.1.cons _, ih.2⟩
    · rw [if_neg z]; exact ⟨List.Sublist.refl _, by omega⟩
theorem so_tr {T cap now sa : Nat} {q : rqT} {sp : Bool} {rp : Option rpT} {ss : List sdT} (h : so_ok T cap now ss) (hr : ∀ r, rp = some r → rp_ok T r) (hsa : sa ≤ now) : so_ok T cap now (tr_of q sa sp rp cap ss) := by
  unfold tr_of
  cases rp with
  | none => exact so_fl _ h
  | some r =>
    simp only []
    by_cases z1 : sp = true
    · rw [if_pos z1]; exact h
    · rw [if_neg z1]
      by_cases z2 : nb_of 120 r.2.2.2.1 ≠ none ∨ nb_of 112 r.2.2.2.1 ≠ none ∨ nb_o 120 (q.2.2.2 4) ≠ none
      · rw [if_pos z2]; exact so_fl _ h
      · rw [if_neg z2]
        have hf := so_fl (rl_of q.2.1 (q.2.2.2 5) r.2.2.2.2) h
        unfold kp_of
        by_cases z3 : cap < (r, q.2.1, q.2.2.2 5, sa, sz_of r).2.2.2.2
        · rw [if_pos z3]; exact hf
        · rw [if_neg z3]
          have z3 : sz_of r ≤ cap := Nat.le_of_not_lt z3
          obtain ⟨k1, k2⟩ := kp_suf (dr_of (rl_of q.2.1 (q.2.2.2 5) r.2.2.2.2) ss) z3
          refine ⟨?_, fun d hd => ?_, ?_⟩
          · rw [sm_app]
            show sm_of (kp_go cap (sz_of r) _) + (sz_of r + 0) ≤ cap
            omega
          · rcases List.mem_append.mp hd with y | y
            · exact hf.2.1 d (k1.subset y)
            · have e := List.mem_singleton.mp y
              subst e
              exact ⟨hr r rfl, hsa, rfl⟩
          · refine List.pairwise_append.mpr ⟨hf.2.2.sublist k1, List.pairwise_singleton _ _, fun d hd e he c => ?_⟩
            have ee := List.mem_singleton.mp he
            subst ee
            have hd := k1.subset hd
            rw [dr_filter] at hd
            have hn := (List.mem_filter.mp hd).2
            obtain ⟨c1, c2⟩ := c
            have c1 : d.2.1 = q.2.1 := c1
            have c2 : d.1.2.2.2.2 = false ∨ r.2.2.2.2 = false ∨ d.2.2.1 = q.2.2.2 5 := c2
            have hy : rl_of q.2.1 (q.2.2.2 5) r.2.2.2.2 d = true := by
              unfold rl_of ft_of
              rw [decide_eq_true c1]
              by_cases y : d.1.2.2.2.2 = r.2.2.2.2
              · rw [decide_eq_false (fun z => z y)]
                cases ev : d.1.2.2.2.2 with
                | false => rfl
                | true =>
                  have er : r.2.2.2.2 = true := by rw [← y]; exact ev
                  have : d.2.2.1 = q.2.2.2 5 := by
                    rcases c2 with c | c | c
                    · rw [ev] at c; cases c
                    · rw [er] at c; cases c
                    · exact c
                  rw [decide_eq_true this]
                  rfl
              · rw [decide_eq_true y]; rfl
            rw [hy] at hn
            cases hn
theorem ft_cf {pa : List Nat} {v : Option (List Nat)} {d e : sdT} (h1 : ft_of pa v d = true) (h2 : ft_of pa v e = true) : cf d e := by
  unfold ft_of at h1 h2
  simp only [Bool.and_eq_true, Bool.or_eq_true, Bool.not_eq_true', decide_eq_true_eq] at h1 h2
  refine ⟨h1.1.trans h2.1.symm, ?_⟩
  rcases h1.2 with a | a
  · exact Or.inl a
  · rcases h2.2 with b | b
    · exact Or.inr (Or.inl b)
    · exact Or.inr (Or.inr (a.trans b.symm))
theorem so_un {T cap now : Nat} {L : slT} {pa : List Nat} {v : Option (List Nat)} (h : so_ok T cap now (L.map (fun x => x.2.2))) : ∀ x ∈ L, ∀ y ∈ L, ft_of pa v x.2.2 = true → ft_of pa v y.2.2 = true → y = x := by
  have hp := List.pairwise_map.mp h.2.2
  clear h
  induction L with
  | nil => intro x hx; cases hx
  | cons z l ih =>
    obtain ⟨h1, h2⟩ := List.pairwise_cons.mp hp
    intro x hx y hy fx fy
    rcases List.mem_cons.mp hx with e1 | e1
    · rcases List.mem_cons.mp hy with e2 | e2
      · rw [e1, e2]
      · subst e1; exact absurd (ft_cf fx fy) (h1 y e2)
    · rcases List.mem_cons.mp hy with e2 | e2
      · subst e2; exact absurd (ft_cf fy fx) (h1 x e1)
      · exact ih h2 x e1 y e2 fx fy
