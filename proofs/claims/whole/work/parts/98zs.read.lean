def rn : rdT → List Nat → Option (Nat × rdT)
  | d, [] => some (0, d)
  | d, b :: l => if (rd_step d b).1 = 0 then rn (rd_step d b).2 l else if l = [] then some (rd_step d b) else none
theorem rn_cons {d : rdT} {b : Nat} {l : List Nat} : rn d (b :: l) = if (rd_step d b).1 = 0 then rn (rd_step d b).2 l else if l = [] then some (rd_step d b) else none := rfl
theorem rn_snoc : ∀ (l : List Nat) (d d1 : rdT) (b : Nat), rn d l = some (0, d1) → rn d (l ++ [b]) = some (rd_step d1 b) := by
  intro l
  induction l with
  | nil =>
    intro d d1 b h
    have e : d = d1 := by have : some (0, d) = some (0, d1) := h; cases this; rfl
    subst e
    show rn d (b :: []) = _
    rw [rn_cons]
    by_cases z : (rd_step d b).1 = 0
    · rw [if_pos z]
      show some (0, (rd_step d b).2) = _
      rw [← z]
    · rw [if_neg z, if_pos rfl]
  | cons a l ih =>
    intro d d1 b h
    rw [rn_cons] at h
    show rn d (a :: (l ++ [b])) = _
    rw [rn_cons]
    by_cases z : (rd_step d a).1 = 0
    · rw [if_pos z] at h ⊢
      exact ih _ d1 b h
    · rw [if_neg z] at h
      by_cases y : l = []
      · rw [if_pos y] at h
        have : rd_step d a = (0, d1) := Option.some.inj h
        rw [this] at z
        exact absurd rfl z
      · rw [if_neg y] at h; cases h
theorem step_line {pt hd lf b : Nat} {ln : Option Nat} {ch : Bool} {li bo : List Nat} {m : Option Nat} {pa : List Nat} {vs : vsT} (h : pt = 0 ∨ pt = 1 ∨ pt = 3 ∨ pt = 6) (hb : b ≠ 10) : rd_step (pt, hd, ln, ch, lf, li, bo, m, pa, vs) b = if 20 ≤ li.length then (431, (pt, hd, ln, ch, lf, li, bo, m, pa, vs)) else (0, (pt, hd, ln, ch, lf, li ++ [b], bo, m, pa, vs)) := by
  unfold rd_step
  simp only []
  rw [if_neg (by omega), if_neg (by omega), if_neg hb]
theorem step_lf {pt hd lf : Nat} {ln : Option Nat} {ch : Bool} {li bo : List Nat} {m : Option Nat} {pa : List Nat} {vs : vsT} (h : pt = 0 ∨ pt = 1 ∨ pt = 3 ∨ pt = 6) : rd_step (pt, hd, ln, ch, lf, li, bo, m, pa, vs) 10 = jd_of (pt, hd, ln, ch, lf, li, bo, m, pa, vs) := by
  unfold rd_step
  simp only []
  rw [if_neg (by omega), if_neg (by omega), if_pos trivial]
theorem rn_line {pt hd lf : Nat} {ln : Option Nat} {ch : Bool} {bo : List Nat} {m : Option Nat} {pa : List Nat} {vs : vsT} (h : pt = 0 ∨ pt = 1 ∨ pt = 3 ∨ pt = 6) : ∀ (line li T : List Nat), 10 ∉ line → li.length + line.length ≤ 20 → rn (pt, hd, ln, ch, lf, li, bo, m, pa, vs) (line ++ T) = rn (pt, hd, ln, ch, lf, li ++ line, bo, m, pa, vs) T := by
  intro line
  induction line with
  | nil => intro li T _ _; rw [List.append_nil]; rfl
  | cons b line ih =>
    intro li T hn hl
    have hb : b ≠ 10 := fun e => hn (by rw [e]; exact List.mem_cons_self)
    simp only [List.length_cons] at hl
    show rn _ (b :: (line ++ T)) = _
    have e20 : rd_step (pt, hd, ln, ch, lf, li, bo, m, pa, vs) b = (0, (pt, hd, ln, ch, lf, li ++ [b], bo, m, pa, vs)) := by rw [step_line h hb, if_neg (by omega)]
    rw [rn_cons, e20, if_pos rfl]
    show rn (pt, hd, ln, ch, lf, li ++ [b], bo, m, pa, vs) (line ++ T) = _
    rw [ih (li ++ [b]) T (fun z => hn (List.mem_cons_of_mem _ z)) (by simp; omega), List.append_assoc]
    rfl
theorem rn_long {pt hd lf : Nat} {ln : Option Nat} {ch : Bool} {bo : List Nat} {m : Option Nat} {pa : List Nat} {vs : vsT} (h : pt = 0 ∨ pt = 1 ∨ pt = 3 ∨ pt = 6) (T : List Nat) (hn : 10 ∉ T.take 21) (hl : 20 < T.length) {x : Nat × rdT} (hr : rn (pt, hd, ln, ch, lf, [], bo, m, pa, vs) T = some x) : T.length = 21 ∧ x.1 = 431 := by
  have e : T = T.take 20 ++ T.drop 20 := (List.take_append_drop 20 T).symm
  have l20 : (T.take 20).length = 20 := by rw [List.length_take]; omega
  have t20 : T.take 21 = T.take 20 ++ (T.drop 20).take 1 := by rw [← List.take_add]
  rw [t20] at hn
  rw [e, rn_line h _ [] _ (fun z => hn (List.mem_append_left _ z)) (by rw [l20]; exact Nat.le_refl _)] at hr
  cases ed : T.drop 20 with
  | nil => have := congrArg List.length ed; rw [List.length_drop] at this; simp at this; omega
  | cons b l =>
    rw [ed] at hr hn
    have hb : b ≠ 10 := fun z => hn (List.mem_append_right _ (by rw [z]; simp))
    have e20 : rd_step (pt, hd, ln, ch, lf, [] ++ T.take 20, bo, m, pa, vs) b = (431, (pt, hd, ln, ch, lf, [] ++ T.take 20, bo, m, pa, vs)) := by rw [step_line h hb, if_pos (by rw [List.nil_append, l20]; exact Nat.le_refl _)]
    rw [rn_cons, e20, if_neg (by show ¬ 431 = 0; decide)] at hr
    by_cases z : l = []
    · rw [if_pos z] at hr
      cases hr
      have := congrArg List.length ed
      rw [List.length_drop, z] at this
      simp at this
      exact ⟨by omega, rfl⟩
    · rw [if_neg z] at hr; cases hr
def le_I (p : Nat) (S : List Nat) : Int32 := if ix_of 10 S < S.length then nI (p + ix_of 10 S) else if S.length ≤ 20 then -1 else -2
theorem ix_not {x : Nat} : ∀ l : List Nat, x ∉ l.take (ix_of x l) := by
  intro l
  induction l with
  | nil => intro h; cases h
  | cons a l ih =>
    intro h
    rw [ix_cons] at h
    by_cases z : a = x
    · rw [if_pos z] at h; cases h
    · rw [if_neg z, List.take_succ_cons] at h
      rcases List.mem_cons.mp h with q | q
      · exact z q.symm
      · exact ih q
theorem ix_all {x : Nat} {l : List Nat} (h : ¬ ix_of x l < l.length) : x ∉ l := by
  have h1 := ix_not (x := x) l
  rw [List.take_of_length_le (by omega)] at h1
  exact h1
theorem ix_split {x : Nat} {l : List Nat} (h : ix_of x l < l.length) : l = l.take (ix_of x l) ++ x :: l.drop (ix_of x l + 1) := by
  have h1 := ix_lt_at l h
  have h2 : l.drop (ix_of x l) = x :: l.drop (ix_of x l + 1) := by rw [tx_drop h, h1]
  rw [← h2, List.take_append_drop]
theorem rn_lf {pt hd lf : Nat} {ln : Option Nat} {ch : Bool} {bo : List Nat} {m : Option Nat} {pa : List Nat} {vs : vsT} (h : pt = 0 ∨ pt = 1 ∨ pt = 3 ∨ pt = 6) {S : List Nat} (hi : ix_of 10 S < S.length) {x : Nat × rdT} (hr : rn (pt, hd, ln, ch, lf, [], bo, m, pa, vs) S = some x) : ix_of 10 S ≤ 20 ∧ (((jd_of (pt, hd, ln, ch, lf, S.take (ix_of 10 S), bo, m, pa, vs)).1 = 0 ∧ rn (jd_of (pt, hd, ln, ch, lf, S.take (ix_of 10 S), bo, m, pa, vs)).2 (S.drop (ix_of 10 S + 1)) = some x) ∨ ((jd_of (pt, hd, ln, ch, lf, S.take (ix_of 10 S), bo, m, pa, vs)).1 ≠ 0 ∧ S.drop (ix_of 10 S + 1) = [] ∧ x = jd_of (pt, hd, ln, ch, lf, S.take (ix_of 10 S), bo, m, pa, vs))) := by
  have h20 : ix_of 10 S ≤ 20 := by
    apply Decidable.byContradiction
    intro z
    have hn : 10 ∉ S.take 21 := fun y => by
      have h1 := ix_not (x := 10) S
      have e : S.take 21 = (S.take (ix_of 10 S)).take 21 := by rw [List.take_take, Nat.min_eq_left (by omega)]
      rw [e] at y
      exact h1 (List.mem_of_mem_take y)
    have := rn_long h S hn (by omega) hr
    omega
  refine ⟨h20, ?_⟩
  have l1 : (S.take (ix_of 10 S)).length = ix_of 10 S := by rw [List.length_take]; omega
  have es := ix_split hi
  rw [es, rn_line h _ [] _ (ix_not S) (by rw [l1]; simp; omega), rn_cons, List.nil_append, step_lf h] at hr
  by_cases z : (jd_of (pt, hd, ln, ch, lf, S.take (ix_of 10 S), bo, m, pa, vs)).1 = 0
  · rw [if_pos z] at hr; exact Or.inl ⟨z, hr⟩
  · rw [if_neg z] at hr
    by_cases y : S.drop (ix_of 10 S + 1) = []
    · rw [if_pos y] at hr; exact Or.inr ⟨z, y, (Option.some.inj hr).symm⟩
    · rw [if_neg y] at hr; cases hr
theorem rn_nolf {pt hd lf : Nat} {ln : Option Nat} {ch : Bool} {bo : List Nat} {m : Option Nat} {pa : List Nat} {vs : vsT} (h : pt = 0 ∨ pt = 1 ∨ pt = 3 ∨ pt = 6) {S : List Nat} (hi : ¬ ix_of 10 S < S.length) {x : Nat × rdT} (hr : rn (pt, hd, ln, ch, lf, [], bo, m, pa, vs) S = some x) : x.1 = if S.length ≤ 20 then 0 else 431 := by
  by_cases z : S.length ≤ 20
  · rw [if_pos z]
    have e : S = S ++ [] := (List.append_nil S).symm
    rw [e, rn_line h _ [] _ (ix_all hi) (by simpa using z)] at hr
    have : some (0, (pt, hd, ln, ch, lf, [] ++ S, bo, m, pa, vs)) = some x := hr
    cases this
    rfl
  · rw [if_neg z]
    exact (rn_long h S (fun y => ix_all hi (List.mem_of_mem_take y)) (by omega) hr).2
def rw_at (A : Nat → Nat) (G : wo_W) (c : Nat) (R : List Nat) : Prop := wo_ei G (A 897) c = nI R.length ∧ R.length < 4200 ∧ (∀ i, i < R.length → wo_ei G (A 896) (4200 * c + i) = nI (R.getD i 0)) ∧ ∀ b ∈ R, b < 256
def Ppr : Nat → Nat → Prop := fun f i => (f = 907 ∨ f = 908 ∨ f = 909 ∨ f = 912 ∨ f = 913) ∧ i = 8 ∨ (f = 910 ∨ f = 911) ∧ 64 ≤ i ∨ 914 ≤ f ∧ f ≤ 917
section MD
variable {E : wo_E} {mc ms m c s : Nat} {G0 G G1 G2 : wo_W} {ow : Nat → Nat} {A : Nat → Nat} {P Q : Nat → Nat → Prop} {R : List Nat} {p : Nat}
theorem rw_at.mf (hr : rw_at A G c R) (h : mf E ow m A P G G1) (hP : ∀ f i, P f i → f ≠ 896 ∧ f ≠ 897) : rw_at A G1 c R := by
  obtain ⟨h1, h2, h3, h4⟩ := hr
  refine ⟨?_, h2, fun i hi => ?_, h4⟩
  · rw [h.ei (f := 897) (k := 66) (n := 3) (by decide) (fun z => (hP _ _ z).2 rfl)]; exact h1
  · rw [h.ei (f := 896) (k := 66) (n := 12600) (by decide) (fun z => (hP _ _ z).1 rfl)]; exact h3 i hi
theorem rw_ix (hr : rw_at A G c R) (hc : c < 3) {i : Nat} (hi : i < 4200) : (4200 : Int32) * nI c + nI i = nI (4200 * c + i) ∧ (nI (4200 * c + i)).toNatClampNeg = 4200 * c + i ∧ vp_in (nI (4200 * c + i)) 12600 :=
  ⟨by rw [show (4200 : Int32) = nI 4200 from rfl, nI_lin], nI_clamp (by omega), vp_in_nI (by omega) (by decide)⟩
theorem sp_lineEnd {Post : Int32 → wo_W → Prop} (h : md_k E ow m A G) (hr : rw_at A G c R) (hc : c < 3) (hp0 : p ≤ R.length) (hp : Post (le_I p (R.drop p)) G) : pq_Md_lineEnd E mc ms Post G m (nI c) (nI p) := by
  have vc : vp_in (nI c) 3 := vp_in_nI hc (by decide)
  have cl : (nI c).toNatClampNeg = c := nI_clamp (by omega)
  obtain ⟨h1, h2, h3, h4⟩ := hr
  have hr : rw_at A G c R := ⟨h1, h2, h3, h4⟩
  have ld : (R.drop p).length = R.length - p := List.length_drop
  have key : ∀ (k q : Nat), q + k = R.length → p ≤ q → (∀ i, p ≤ i → i < q → R.getD i 0 ≠ 10) → pq_Md_lineEnd_2 E mc ms Post (k + 1) G 0 0 m (nI c) (nI p) (nI q) := by
    intro k
    induction k with
    | zero =>
      intro q hq hpq hno
      have e : q = R.length := by omega
      have ix : ix_of 10 (R.drop p) = (R.drop p).length := ix_no 10 _ (fun i hi => by
        rw [ld] at hi
        have : (R.drop p).getD i 0 = R.getD (p + i) 0 := by simp [List.getD_eq_getElem?_getD, List.getElem?_drop]
        rw [this]
        exact hno (p + i) (by omega) (by omega))
      unfold le_I at hp
      rw [ix, if_neg (Nat.lt_irrefl _), ld] at hp
      unfold pq_Md_lineEnd_2 pq_Md_lineEnd_56
      refine ⟨h.1, h.rd (f := 897) (k := 66) (n := 3) (by decide) vc ?_⟩
      rw [cl, h1]
      refine ⟨fun _ => h.rd (f := 897) (k := 66) (n := 3) (by decide) vc ?_, fun w => absurd (nI_le (by omega) (by omega)) w⟩
      rw [h1, pk_sub hp0]
      refine ⟨fun w => ?_, fun w => ?_⟩
      · rw [if_pos ((nI_leI (b := 20) (by omega) (by decide)).mp w)] at hp; exact hp
      · rw [if_neg (fun z => w (nI_le (b := 20) z (by decide)))] at hp; exact hp
    | succ k ih =>
      intro q hq hpq hno
      obtain ⟨i1, i2, i3⟩ := rw_ix hr hc (i := q) (by omega)
      unfold pq_Md_lineEnd_2
      refine ⟨h.1, h.rd (f := 897) (k := 66) (n := 3) (by decide) vc ?_⟩
      rw [cl, h1, i1]
      refine ⟨fun w => absurd w (nI_ge (by omega) (by omega)), fun _ => h.rd (f := 896) (k := 66) (n := 12600) (by decide) i3 ?_⟩
      rw [i2, h3 q (by omega)]
      have hb := h4 _ (tx_mem (t := R) (i := q) (by omega))
      refine ⟨fun w => ?_, fun w => ?_⟩
      · rw [nI_1]
        refine ih (q + 1) (by omega) (by omega) (fun i q1 q2 => ?_)
        by_cases z : i = q
        · rw [z]; exact fun y => w (by rw [y]; rfl)
        · exact hno i q1 (by omega)
      · have y : R.getD q 0 = 10 := (nI_eq (b := 10) (by omega) (by decide)).mp w
        have gd : ∀ i, (R.drop p).getD i 0 = R.getD (p + i) 0 := fun i => by simp [List.getD_eq_getElem?_getD, List.getElem?_drop]
        have ix : ix_of 10 (R.drop p) = q - p := ix_at 10 _ (q - p) (by rw [ld]; omega) (by rw [gd, show p + (q - p) = q by omega]; exact y) (fun j hj => by rw [gd]; exact hno (p + j) (by omega) (by omega))
        unfold le_I at hp
        rw [ix, if_pos (by rw [ld]; omega), show p + (q - p) = q by omega] at hp
        exact hp
  unfold pq_Md_lineEnd pq_Md_lineEnd_0
  exact ⟨R.length - p + 1, key (R.length - p) p (by omega) (Nat.le_refl _) (fun i h1 h2 => by omega)⟩
end MD
