def pw (a h j : Nat) (v : cnT) : Nat := (a + h + j) * (21 - c_nh v) - (if (c_rd v).1 = 0 then 0 else a)
def ph (a h j : Nat) (S : hdT) : Nat := pw a h j (S.1 0) + pw a h j (S.1 1) + pw a h j (S.1 2) + j * (al S.2.2.2.2.1 S.2.2.2.2.2).length
theorem pw_eq {a h j : Nat} {v w : cnT} (h1 : c_nh w = c_nh v) (h2 : (c_rd w).1 = (c_rd v).1) : pw a h j w = pw a h j v := by
  unfold pw
  rw [h1, h2]
theorem pw_next {a h j : Nat} {v w : cnT} (h1 : c_nh w = c_nh v + 1) (hn : c_nh v < 20) (h2 : (c_rd w).1 = 0) : pw a h j w + (a + h + j) = pw a h j v + (if (c_rd v).1 = 0 then 0 else a) := by
  unfold pw
  rw [h1, h2, if_pos rfl]
  have e1 : 21 - (c_nh v + 1) = 20 - c_nh v := by omega
  have e2 : 21 - c_nh v = (20 - c_nh v) + 1 := by omega
  rw [e1, e2, Nat.mul_add, Nat.mul_one]
  generalize (a + h + j) * (20 - c_nh v) = X
  split
  · omega
  · omega
theorem pw_line {a h j : Nat} {v w : cnT} (h1 : c_nh w = c_nh v) (hn : c_nh v < 20) (h0 : (c_rd v).1 = 0) (h2 : (c_rd w).1 ≠ 0) : pw a h j w + a = pw a h j v := by
  unfold pw
  rw [h1, if_neg h2, if_pos h0]
  have e2 : 21 - c_nh v = (20 - c_nh v) + 1 := by omega
  rw [e2, Nat.mul_add, Nat.mul_one]
  generalize (a + h + j) * (20 - c_nh v) = X
  omega
theorem pw_cup {a h j c : Nat} {cn : Nat → cnT} {w : cnT} (hc : c < 3) : pw a h j (cup cn c w 0) + pw a h j (cup cn c w 1) + pw a h j (cup cn c w 2) + pw a h j (cn c) = pw a h j (cn 0) + pw a h j (cn 1) + pw a h j (cn 2) + pw a h j w := by
  rcases (by omega : c = 0 ∨ c = 1 ∨ c = 2) with z | z | z
  · subst z
    rw [cup_c, cup_n (by decide), cup_n (by decide)]
    omega
  · subst z
    rw [cup_c, cup_n (by decide), cup_n (by decide)]
    omega
  · subst z
    rw [cup_c, cup_n (by decide), cup_n (by decide)]
    omega
theorem al_sw1 {now u : Nat} {q : List jobT × (Nat → Option jobT)} (hu : u < 2) : (al (sw_1 now u q).1 (sw_1 now u q).2).length = (al q.1 q.2).length := by
  obtain ⟨wt, sn⟩ := q
  unfold sw_1
  cases e : sn u with
  | some x => simp only [e]
  | none =>
    cases wt with
    | nil => simp only [e]
    | cons j l =>
      simp only [e]
      unfold al
      simp only [List.length_append, List.length_cons]
      rcases (by omega : u = 0 ∨ u = 1) with z | z
      · subst z
        rw [if_pos rfl, if_neg (by decide), e]
        show l.length + (1 + _) = l.length + 1 + (0 + _)
        omega
      · subst z
        rw [if_pos rfl, if_neg (by decide), e]
        show l.length + (_ + 1) = l.length + 1 + (_ + 0)
        omega
theorem al_swo {now : Nat} {q : List jobT × (Nat → Option jobT)} : (al (sw_of now q).1 (sw_of now q).2).length = (al q.1 q.2).length := by
  unfold sw_of
  rw [al_sw1 (by decide), al_sw1 (by decide)]
theorem al_app {wt : List jobT} {sn : Nat → Option jobT} {j : jobT} : (al (wt ++ [j]) sn).length = (al wt sn).length + 1 := by
  unfold al
  simp only [List.length_append, List.length_cons, List.length_nil]
  omega
theorem al_rm {wt : List jobT} {sn : Nat → Option jobT} {u : Nat} {j : jobT} (hu : u < 2) (e : sn u = some j) : (al wt (sup sn u none)).length + 1 = (al wt sn).length := by
  unfold al sup
  simp only [List.length_append]
  rcases (by omega : u = 0 ∨ u = 1) with z | z
  · subst z
    rw [if_pos rfl, if_neg (by decide), e]
    show wt.length + (0 + _) + 1 = wt.length + (1 + _)
    omega
  · subst z
    rw [if_pos rfl, if_neg (by decide), e]
    show wt.length + (_ + 0) + 1 = wt.length + (_ + 1)
    omega
theorem al_set {wt : List jobT} {sn : Nat → Option jobT} {u : Nat} {i j : jobT} (e : sn u = some j) : (al wt (sup sn u (some i))).length = (al wt sn).length := by
  unfold al sup
  simp only [List.length_append]
  by_cases z0 : 0 = u
  · rw [if_pos z0, if_neg (by omega), z0, e]; rfl
  · by_cases z1 : 1 = u
    · rw [if_neg z0, if_pos z1, z1, e]; rfl
    · rw [if_neg z0, if_neg z1]
theorem pt_step {d : rdT} {b : Nat} (h : (rd_step d b).1 = 0) : (d.1 ≠ 0 → (rd_step d b).2.1 ≠ 0) ∧ (d.1 = 0 → (d.1 = 0 ∧ b = 10 ∧ d.2.2.2.2.2.1 ≠ []) → (rd_step d b).2.1 ≠ 0) ∧ (d.1 = 0 → ¬ (d.1 = 0 ∧ b = 10 ∧ d.2.2.2.2.2.1 ≠ []) → (rd_step d b).2.1 = 0) := by
  obtain ⟨pt, hd, ln, ch, lf, li, bo, m, pa, vs⟩ := d
  unfold rd_step at h ⊢
  simp only [] at h ⊢
  by_cases z : pt = 2 ∨ pt = 4
  · rw [if_pos z]
    refine ⟨fun _ => ?_, fun z0 => by omega, fun z0 => by omega⟩
    show (if 1 < lf then pt else if pt = 2 then 2 else 5) ≠ 0
    split
    · omega
    · split <;> omega
  · rw [if_neg z] at h ⊢
    by_cases z5 : pt = 5
    · rw [if_pos z5]
      exact ⟨fun _ => (by decide : (3 : Nat) ≠ 0), fun z0 => by omega, fun z0 => by omega⟩
    · rw [if_neg z5] at h ⊢
      by_cases zb : b = 10
      · rw [if_pos zb] at h ⊢
        unfold jd_of at h ⊢
        simp only [] at h ⊢
        by_cases z0 : pt = 0
        · rw [if_pos z0] at h ⊢
          by_cases zl : li = []
          · rw [if_pos zl]
            exact ⟨fun y => absurd z0 y, fun _ y => absurd zl y.2.2, fun _ _ => z0⟩
          · rw [if_neg zl]
            exact ⟨fun y => absurd z0 y, fun _ _ => (by decide : (1 : Nat) ≠ 0), fun _ y => absurd ⟨z0, zb, zl⟩ y⟩
        · rw [if_neg z0] at h ⊢
          refine ⟨fun _ => ?_, fun y => absurd y z0, fun y => absurd y z0⟩
          by_cases z1 : pt = 1
          · rw [if_pos z1]
            by_cases zl : li = []
            · rw [if_pos zl]
              show (eh_of ln ch).2.1 ≠ 0
              unfold eh_of
              split
              · exact (by decide : (3 : Nat) ≠ 0)
              · cases ln with
                | none => exact (by decide : (1 : Nat) ≠ 0)
                | some n =>
                  show (if 8 < n then (413, 1, 0) else if n = 0 then (1, 1, 0) else (0, 2, n)).2.1 ≠ 0
                  split
                  · exact (by decide : (1 : Nat) ≠ 0)
                  · split
                    · exact (by decide : (1 : Nat) ≠ 0)
                    · exact (by decide : (2 : Nat) ≠ 0)
            · rw [if_neg zl]; exact z0
          · rw [if_neg z1]
            by_cases z3 : pt = 3
            · rw [if_pos z3]
              show (jc_of li bo).2.1 ≠ 0
              unfold jc_of
              generalize (if li.length = 1 then hx_of (li.getD 0 0) else none) = o
              cases o with
              | none => exact (by decide : (3 : Nat) ≠ 0)
              | some n =>
                show (if n = 0 then (0, 6, 0) else if 8 < bo.length + n then (413, 3, 0) else (0, 4, n)).2.1 ≠ 0
                split
                · exact (by decide : (6 : Nat) ≠ 0)
                · split
                  · exact (by decide : (3 : Nat) ≠ 0)
                  · exact (by decide : (4 : Nat) ≠ 0)
            · rw [if_neg z3]; exact z0
      · rw [if_neg zb] at h ⊢
        by_cases z20 : 20 ≤ li.length
        · rw [if_pos z20] at h; cases h
        · rw [if_neg z20]
          exact ⟨fun y => y, fun _ y => absurd y.2.1 zb, fun y _ => y⟩
theorem ph_c {a h j c : Nat} {cn : Nat → cnT} {w : cnT} {rs rs' : List roT} {tg tg' : Nat} {ss ss' : List sdT} {wt wt' : List jobT} {sn sn' : Nat → Option jobT} (hc : c < 3) : ph a h j (cup cn c w, rs', tg', ss', wt', sn') + pw a h j (cn c) + j * (al wt sn).length = ph a h j (cn, rs, tg, ss, wt, sn) + pw a h j w + j * (al wt' sn').length := by
  have := pw_cup (a := a) (h := h) (j := j) (cn := cn) (w := w) hc
  unfold ph
  simp only []
  omega
theorem ph_fe {a h j t c b now : Nat} {S : hdT} (hc : c < 3) (hm : my_of (S.1 c) = true) : (if (c_rd (S.1 c)).1 = 0 ∧ b = 10 ∧ (c_rd (S.1 c)).2.2.2.2.2.1 ≠ [] then a else t) + (if (rd_step (c_rd (S.1 c)) b).1 = 0 then 0 else h) + ph a h j (fe_of c b now S) ≤ t + ph a h j S := by
  obtain ⟨cn, rs, tg, ss, wt, sn⟩ := S
  simp only [] at hm ⊢
  have hmb := my_b hm
  -- a request that ends: what it gives back
  have fin : ∀ (w : cnT) (rs' : List roT) (tg' : Nat) (ss' : List sdT) (wt' : List jobT) (sn' : Nat → Option jobT), c_nh w = c_nh (cn c) + 1 → (c_rd w).1 = 0 → (al wt' sn').length ≤ (al wt sn).length + 1 → ((c_rd (cn c)).1 = 0 → a + h + ph a h j (cup cn c w, rs', tg', ss', wt', sn') ≤ ph a h j (cn, rs, tg, ss, wt, sn)) ∧ (h + ph a h j (cup cn c w, rs', tg', ss', wt', sn') ≤ ph a h j (cn, rs, tg, ss, wt, sn)) := by
    intro w rs' tg' ss' wt' sn' w1 w2 w3
    have e1 := pw_next (a := a) (h := h) (j := j) w1 hmb.2.1 w2
    have e2 := ph_c (a := a) (h := h) (j := j) (c := c) (cn := cn) (w := w) (rs := rs) (rs' := rs') (tg := tg) (tg' := tg') (ss := ss) (ss' := ss') (wt := wt) (wt' := wt') (sn := sn) (sn' := sn') hc
    have e3 : j * (al wt' sn').length ≤ j * (al wt sn).length + j := by
      have := Nat.mul_le_mul_left j w3
      rw [Nat.mul_add, Nat.mul_one] at this
      exact this
    by_cases z : (c_rd (cn c)).1 = 0
    · rw [if_pos z] at e1
      exact ⟨fun _ => by omega, by omega⟩
    · rw [if_neg z] at e1
      exact ⟨fun y => absurd y z, by omega⟩
  unfold fe_of
  simp only []
  by_cases z0 : (rd_step (c_rd (cn c)) b).1 = 0
  · rw [if_pos z0, if_pos z0]
    obtain ⟨p1, p2, p3⟩ := pt_step z0
    have e2 := ph_c (a := a) (h := h) (j := j) (c := c) (cn := cn) (w := rdc (cn c) b) (rs := rs) (rs' := rs) (tg := tg) (tg' := tg) (ss := ss) (ss' := ss) (wt := wt) (wt' := wt) (sn := sn) (sn' := sn) hc
    by_cases zl : (c_rd (cn c)).1 = 0 ∧ b = 10 ∧ (c_rd (cn c)).2.2.2.2.2.1 ≠ []
    · rw [if_pos zl]
      have e1 := pw_line (a := a) (h := h) (j := j) (v := cn c) (w := rdc (cn c) b) rfl hmb.2.1 zl.1 (p2 zl.1 zl)
      omega
    · rw [if_neg zl]
      have e1 : pw a h j (rdc (cn c) b) = pw a h j (cn c) := by
        by_cases zz : (c_rd (cn c)).1 = 0
        · exact pw_eq rfl ((p3 zz zl).trans zz.symm)
        · unfold pw
          rw [if_neg zz, if_neg (show ¬ (c_rd (rdc (cn c) b)).1 = 0 from p1 zz)]
          rfl
      omega
  · rw [if_neg z0, if_neg z0]
    -- every way it can end
    have key : ∃ (w : cnT) (rs' : List roT) (tg' : Nat) (ss' : List sdT) (wt' : List jobT) (sn' : Nat → Option jobT), hd_of c (rd_step (c_rd (cn c)) b).1 (cup cn c (rdc (cn c) b)) rs tg ss wt sn now = (cup cn c w, rs', tg', ss', wt', sn') ∧ c_nh w = c_nh (cn c) + 1 ∧ (c_rd w).1 = 0 ∧ (al wt' sn').length ≤ (al wt sn).length + 1 := by
      unfold hd_of
      simp only [cup_c, cup_cup]
      by_cases z1 : (rd_step (c_rd (cn c)) b).1 = 1
      · rw [if_pos z1]
        by_cases z2 : c = 2
        · rw [if_pos z2]
          exact ⟨_, _, _, _, _, _, rfl, rfl, rfl, Nat.le_succ _⟩
        · rw [if_neg z2]
          cases hu_of (hd_q (cup cn c (rdc (cn c) b)) c) ss now with
          | some i =>
            unfold hd_m
            simp only [cup_c, cup_cup]
            exact ⟨_, _, _, _, _, _, rfl, rfl, rfl, Nat.le_succ _⟩
          | none =>
            unfold hd_m
            simp only [cup_c, cup_cup]
            refine ⟨_, _, _, _, _, _, rfl, rfl, rfl, ?_⟩
            rw [al_swo, al_app]
            exact Nat.le_refl _
      · rw [if_neg z1]
        exact ⟨_, _, _, _, _, _, rfl, rfl, rfl, Nat.le_succ _⟩
    obtain ⟨w, rs', tg', ss', wt', sn', e, w1, w2, w3⟩ := key
    rw [e]
    obtain ⟨f1, f2⟩ := fin w rs' tg' ss' wt' sn' w1 w2 w3
    by_cases zl : (c_rd (cn c)).1 = 0 ∧ b = 10 ∧ (c_rd (cn c)).2.2.2.2.2.1 ≠ []
    · rw [if_pos zl]
      have := f1 zl.1
      omega
    · rw [if_neg zl]
      omega
theorem fc_ph {c now : Nat} (hc : c < 3) : ∀ (l : List Nat) (S : hdT) (n : Nat), fc_of c now l S + ph 130 90 95 (fl_of c now l S n).1 ≤ 10 * l.length + ph 130 90 95 S := by
  intro l
  induction l with
  | nil => intro S n; show 0 + _ ≤ _; simp [fl_of]
  | cons b l ih =>
    intro S n
    unfold fc_of fl_of
    simp only [List.length_cons]
    by_cases z : b = 0
    · rw [if_pos z, if_pos z]
      have := ih S n
      omega
    · rw [if_neg z, if_neg z]
      by_cases hm : my_of (S.1 c) = true
      · rw [if_pos hm, if_pos hm]
        have h1 := ih (fe_of c b now S) (n + 1)
        have h2 := ph_fe (a := 130) (h := 90) (j := 95) (t := 10) (b := b) (now := now) hc hm
        unfold tc_of tk_c
        omega
      · rw [if_neg hm, if_neg hm]
        show 0 + ph 130 90 95 S ≤ _
        omega
theorem fs_ph {c now : Nat} (hc : c < 3) : ∀ (l : List Nat) (S : hdT) (n : Nat), fs_of c now l S + ph 3700 10300 15700 (fl_of c now l S n).1 ≤ 130 * l.length + ph 3700 10300 15700 S := by
  intro l
  induction l with
  | nil => intro S n; show 0 + _ ≤ _; simp [fl_of]
  | cons b l ih =>
    intro S n
    unfold fs_of fl_of
    simp only [List.length_cons]
    by_cases z : b = 0
    · rw [if_pos z, if_pos z]
      have := ih S n
      omega
    · rw [if_neg z, if_neg z]
      by_cases hm : my_of (S.1 c) = true
      · rw [if_pos hm, if_pos hm]
        have h1 := ih (fe_of c b now S) (n + 1)
        have h2 := ph_fe (a := 3700) (h := 10300) (j := 15700) (t := 130) (b := b) (now := now) hc hm
        unfold ts_of tk_s
        omega
      · rw [if_neg hm, if_neg hm]
        show 0 + ph 3700 10300 15700 S ≤ _
        omega
