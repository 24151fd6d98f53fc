theorem jl_v {li : List Nat} : (jl_of li).1 = 0 ∨ (jl_of li).1 = 400 ∨ (jl_of li).1 = 414 := by
  unfold jl_of
  by_cases y1 : ix_of 32 li = li.length
  · rw [if_pos y1]; exact Or.inr (Or.inl rfl)
  · rw [if_neg y1]
    cases mn_of (tx_sub li 0 (ix_of 32 li)) with
    | none => exact Or.inr (Or.inl rfl)
    | some k =>
      cases de_of (tx_sub li (ix_of 32 li + 1) li.length) with
      | none => exact Or.inr (Or.inl rfl)
      | some u =>
        show (if 8 < (pa_of u).length then 414 else 0) = 0 ∨ (if 8 < (pa_of u).length then 414 else 0) = 400 ∨ (if 8 < (pa_of u).length then 414 else 0) = 414
        split
        · exact Or.inr (Or.inr rfl)
        · exact Or.inl rfl
theorem jh_v {li : List Nat} {hd : Nat} {ln : Option Nat} {ch : Bool} {vs : vsT} : (jh_of li hd ln ch vs).1 = 400 ∨ (jh_of li hd ln ch vs).1 = 431 ∨ (jh_of li hd ln ch vs).1 = 0 := by
  unfold jh_of
  by_cases y1 : 8 ≤ hd
  · rw [if_pos y1]; exact Or.inr (Or.inl rfl)
  · rw [if_neg y1]
    by_cases y2 : ih_of li = false
    · rw [if_pos y2]; exact Or.inl rfl
    · rw [if_neg y2]
      by_cases y3 : 8 < li.length - 2
      · rw [if_pos y3]; exact Or.inr (Or.inl rfl)
      · rw [if_neg y3]
        by_cases y4 : li.getD 0 0 = 76
        · rw [if_pos y4]
          generalize tl_of (tx_sub li 2 li.length) ln = o
          cases o with
          | none => exact Or.inl rfl
          | some n => exact Or.inr (Or.inr rfl)
        · rw [if_neg y4]
          by_cases y5 : li.getD 0 0 = 84
          · rw [if_pos y5]
            show (if tx_sub li 2 li.length = [99] then 0 else 400) = 400 ∨ _
            split
            · exact Or.inr (Or.inr rfl)
            · exact Or.inl rfl
          · rw [if_neg y5]; exact Or.inr (Or.inr rfl)
def rk : rdT → Prop
  | (pt, hd, ln, ch, lf, li, bo, m, pa, vs) => rd_ok (pt, hd, ln, ch, lf, li, bo, m, pa, vs) ∧ (pt = 2 ∨ pt = 4 ∨ pt = 5 → li = []) ∧ (pt ≤ 1 → bo = [])
theorem rk_0 : rk rd_0 := by
  refine ⟨⟨by decide, by decide, fun n z => (by cases z), by decide, by decide, fun z => (by rcases z with z | z <;> cases z), fun _ => rfl⟩, fun _ => rfl, fun _ => rfl⟩
def rk_r (x : Nat × rdT) : Prop := x.1 < 1000 ∧ (x.1 = 0 → rk x.2) ∧ (x.1 < 2 → (d_bo x.2).length ≤ 8) ∧ (x.1 = 1 → d_li x.2 = [])
theorem rr0 {d : rdT} (h : rk d) : rk_r (0, d) := by
  refine ⟨by show 0 < 1000; decide, fun _ => h, fun _ => ?_, fun z => by cases z⟩
  obtain ⟨pt, hd, ln, ch, lf, li, bo, m, pa, vs⟩ := d
  have := h.1.2.2.2.2.1
  show bo.length ≤ 8
  omega
theorem rr1 {d : rdT} (hb : (d_bo d).length ≤ 8) (hl : d_li d = []) : rk_r (1, d) := ⟨by show 1 < 1000; decide, fun z => (by cases z), fun _ => hb, fun _ => hl⟩
theorem rrx {n : Nat} {d : rdT} (h2 : 2 ≤ n) (h : n < 1000) : rk_r (n, d) := ⟨h, fun z => (by have z : n = 0 := z; omega), fun z => (by have z : n < 2 := z; omega), fun z => (by have z : n = 1 := z; omega)⟩
theorem l08 : ([] : List Nat).length ≤ 8 := by decide
theorem l020 : ([] : List Nat).length ≤ 20 := by decide
theorem n24 {k : Nat} (h2 : k ≠ 2) (h4 : k ≠ 4) {P : Prop} : k = 2 ∨ k = 4 → P := fun z => (z.elim h2 h4).elim
theorem rk_jd {pt hd lf : Nat} {ln : Option Nat} {ch : Bool} {li bo : List Nat} {m : Option Nat} {pa : List Nat} {vs : vsT} (h : rk (pt, hd, ln, ch, lf, li, bo, m, pa, vs)) (hpt : ¬ (pt = 2 ∨ pt = 4)) (h5 : pt ≠ 5) : rk_r (jd_of (pt, hd, ln, ch, lf, li, bo, m, pa, vs)) := by
  obtain ⟨⟨p1, p2, p3, p4, p5, p6, p7⟩, p8, p9⟩ := h
  have lf0 := p7 hpt
  subst lf0
  unfold jd_of
  simp only []
  by_cases z0 : pt = 0
  · subst z0
    have eb := p9 (by decide)
    subst eb
    rw [if_pos rfl]
    by_cases zl : li = []
    · rw [if_pos zl]
      exact rr0 ⟨⟨by decide, p2, p3, l020, by decide, p6, p7⟩, fun _ => rfl, fun _ => rfl⟩
    · rw [if_neg zl]
      have hj : (jl_of li).1 = 0 ∨ (jl_of li).1 = 400 ∨ (jl_of li).1 = 414 := jl_v
      rcases hj with e | e | e
      · rw [e]; exact rr0 ⟨⟨by decide, p2, p3, l020, by decide, n24 (by decide) (by decide), fun _ => rfl⟩, fun _ => rfl, fun _ => rfl⟩
      · rw [e]; exact rrx (by decide) (by decide)
      · rw [e]; exact rrx (by decide) (by decide)
  · rw [if_neg z0]
    by_cases z1 : pt = 1
    · subst z1
      have eb := p9 (by decide)
      subst eb
      rw [if_pos rfl]
      by_cases zl : li = []
      · rw [if_pos zl]
        cases ch with
        | true =>
          cases ln with
          | none => exact rr0 ⟨⟨by decide, p2, p3, l020, by decide, n24 (by decide) (by decide), fun _ => rfl⟩, fun _ => rfl, fun _ => rfl⟩
          | some n => exact rrx (n := 400) (by decide) (by decide)
        | false =>
          cases ln with
          | none => exact rr1 l08 rfl
          | some n =>
            have ee : eh_of (some n) false = if 8 < n then (413, 1, 0) else if n = 0 then (1, 1, 0) else (0, 2, n) := rfl
            rw [ee]
            by_cases n8 : 8 < n
            · rw [if_pos n8]; exact rrx (n := 413) (by decide) (by decide)
            · rw [if_neg n8]
              by_cases n0 : n = 0
              · rw [if_pos n0]; exact rr1 l08 rfl
              · rw [if_neg n0]
                exact rr0 (d := (2, hd, some n, false, n, [], [], m, pa, vs)) ⟨⟨by decide, p2, p3, l020, by simp; omega, fun _ => by omega, fun z => absurd (Or.inl rfl) z⟩, fun _ => rfl, fun z => absurd z (by decide)⟩
      · rw [if_neg zl]
        rcases jh_v (li := li) (hd := hd) (ln := ln) (ch := ch) (vs := vs) with e | e | e
        · rw [e]; exact rrx (n := 400) (by decide) (by decide)
        · rw [e]; exact rrx (n := 431) (by decide) (by decide)
        · have z := e
          rw [e]
          refine rr0 ?_
          have key : hd < 8 ∧ ∀ n, (jh_of li hd ln ch vs).2.1 = some n → n < 100 := by
            unfold jh_of at z ⊢
            by_cases y1 : 8 ≤ hd
            · rw [if_pos y1] at z; cases z
            · rw [if_neg y1] at z ⊢
              refine ⟨by omega, ?_⟩
              by_cases y2 : ih_of li = false
              · rw [if_pos y2] at z; cases z
              · rw [if_neg y2] at z ⊢
                by_cases y3 : 8 < li.length - 2
                · rw [if_pos y3] at z; cases z
                · rw [if_neg y3] at z ⊢
                  by_cases y4 : li.getD 0 0 = 76
                  · rw [if_pos y4] at z ⊢
                    cases et : tl_of (tx_sub li 2 li.length) ln with
                    | none => rw [et] at z; cases z
                    | some n =>
                      intro n' en
                      have en : some n = some n' := en
                      cases en
                      unfold tl_of at et
                      by_cases y5 : 2 < (tx_sub li 2 li.length).length
                      · rw [if_pos y5] at et; cases et
                      · rw [if_neg y5] at et
                        cases ew : wh_of (tx_sub li 2 li.length) with
                        | none => rw [ew] at et; cases et
                        | some k =>
                          rw [ew] at et
                          have ek : k = n := by
                            have et : (if ln = none ∨ ln = some k then some k else none) = some n := et
                            by_cases q : ln = none ∨ ln = some k
                            · rw [if_pos q] at et; exact Option.some.inj et
                            · rw [if_neg q] at et; cases et
                          subst ek
                          unfold wh_of at ew
                          by_cases y6 : tx_sub li 2 li.length = []
                          · rw [if_pos y6] at ew; cases ew
                          · rw [if_neg y6] at ew
                            have w1 := wh_lt _ _ _ ew
                            have w2 : 10 ^ (tx_sub li 2 li.length).length ≤ 10 ^ 2 := Nat.pow_le_pow_right (by decide) (by omega)
                            omega
                  · rw [if_neg y4] at z ⊢
                    by_cases y5 : li.getD 0 0 = 84
                    · rw [if_pos y5]; exact p3
                    · rw [if_neg y5]; exact p3
          exact ⟨⟨by decide, by omega, key.2, l020, by decide, n24 (by decide) (by decide), fun _ => rfl⟩, fun _ => rfl, fun _ => rfl⟩
    · rw [if_neg z1]
      by_cases z3 : pt = 3
      · subst z3
        rw [if_pos rfl]
        unfold jc_of
        generalize (if li.length = 1 then hx_of (li.getD 0 0) else none) = o
        cases o with
        | none => exact rrx (n := 400) (by decide) (by decide)
        | some n =>
          have ee : jc_m bo (some n) = if n = 0 then (0, 6, 0) else if 8 < bo.length + n then (413, 3, 0) else (0, 4, n) := rfl
          rw [ee]
          by_cases n0 : n = 0
          · rw [if_pos n0]
            exact rr0 ⟨⟨by decide, p2, p3, l020, p5, n24 (by decide) (by decide), fun _ => rfl⟩, fun _ => rfl, fun z => absurd z (by decide)⟩
          · rw [if_neg n0]
            by_cases n8 : 8 < bo.length + n
            · rw [if_pos n8]; exact rrx (n := 413) (by decide) (by decide)
            · rw [if_neg n8]
              exact rr0 (d := (4, hd, ln, ch, n, [], bo, m, pa, vs)) ⟨⟨by decide, p2, p3, l020, by omega, fun _ => by omega, fun z => absurd (Or.inr rfl) z⟩, fun _ => rfl, fun z => absurd z (by decide)⟩
      · rw [if_neg z3]
        by_cases zl : li = []
        · rw [if_pos zl]; exact rr1 p5 rfl
        · rw [if_neg zl]; exact rr0 ⟨⟨p1, p2, p3, l020, p5, p6, p7⟩, fun _ => rfl, fun z => (by omega)⟩
theorem rk_step {d : rdT} {b : Nat} (h : rk d) : rk_r (rd_step d b) := by
  obtain ⟨pt, hd, ln, ch, lf, li, bo, m, pa, vs⟩ := d
  have h' := h
  obtain ⟨⟨p1, p2, p3, p4, p5, p6, p7⟩, p8, p9⟩ := h'
  unfold rd_step
  simp only []
  have lb : (bo ++ [b]).length = bo.length + 1 := by simp
  by_cases z : pt = 2 ∨ pt = 4
  · have lf0 := p6 z
    have eli := p8 (by omega)
    subst eli
    rw [if_pos z]
    by_cases l1 : 1 < lf
    · rw [if_pos l1, if_pos l1]
      exact rr0 ⟨⟨p1, p2, p3, l020, by omega, fun _ => by omega, fun y => absurd z y⟩, fun _ => rfl, fun y => by omega⟩
    · rw [if_neg l1, if_neg l1]
      by_cases y2 : pt = 2
      · rw [if_pos y2, if_pos y2]
        exact rr1 (by show (bo ++ [b]).length ≤ 8; omega) rfl
      · rw [if_neg y2, if_neg y2]
        exact rr0 ⟨⟨by decide, p2, p3, l020, by omega, n24 (by decide) (by decide), fun _ => by omega⟩, fun _ => rfl, fun y => absurd y (by decide)⟩
  · rw [if_neg z]
    have lf0 := p7 z
    by_cases z5 : pt = 5
    · rw [if_pos z5]
      have eli := p8 (by omega)
      subst eli
      by_cases zb : b = 10
      · rw [if_pos zb]; exact rr0 ⟨⟨by decide, p2, p3, l020, p5, n24 (by decide) (by decide), fun _ => lf0⟩, fun _ => rfl, fun y => absurd y (by decide)⟩
      · rw [if_neg zb]; exact rrx (n := 400) (by decide) (by decide)
    · rw [if_neg z5]
      by_cases zb : b = 10
      · rw [if_pos zb]; exact rk_jd h z z5
      · rw [if_neg zb]
        by_cases z20 : 20 ≤ li.length
        · rw [if_pos z20]; exact rrx (n := 431) (by decide) (by decide)
        · rw [if_neg z20]
          exact rr0 ⟨⟨p1, p2, p3, by simp; omega, p5, p6, p7⟩, fun y => (by omega), p9⟩
