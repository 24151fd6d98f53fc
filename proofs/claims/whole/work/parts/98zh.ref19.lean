def sL (now u : Nat) (q : jlT × jsT) : jlT × jsT := match q.2 u, q.1 with
  | none, x :: l => (l, fun k => if k = u then some (x.1, j_sa x.2.2 now) else q.2 k)
  | _, _ => q
def wq (q : jlT × jsT) : List jobT × (Nat → Option jobT) := (q.1.map (fun x => x.2.2), fun u => (q.2 u).map (fun x => x.2))
theorem sL_sw {now u : Nat} {q : jlT × jsT} : wq (sL now u q) = sw_1 now u (wq q) := by
  obtain ⟨W, us⟩ := q
  unfold sL sw_1 wq
  cases e : us u with
  | some x => simp [e]
  | none =>
    cases W with
    | nil => simp [e]
    | cons x l =>
      simp only [e, Option.map_none, List.map_cons]
      congr 1
      funext k
      by_cases z : k = u
      · simp [z]
      · simp [z]
def Psn : Nat → Nat → Prop := fun f i => f = 918 ∨ f = 922 ∨ f = 923
section MD
variable {E : wo_E} {mc ms m c s : Nat} {G0 G G1 G2 : wo_W} {ow : Nat → Nat} {A : Nat → Nat} {F K : Nat → Prop} {P Q : Nat → Nat → Prop} {rv : Nat → Nat → rqT} {W : jlT} {us : jsT} {n j u now : Nat} {b : jobT}
abbrev k2T : Type := wo_W → Nat → Nat → Nat → Int32 → Prop
def nx_I : Option (Nat × Nat × jobT) → Int32
  | none => -1
  | some x => nI x.1
def nx_ok (W : jlT) (i : Nat) (o : Option (Nat × Nat × jobT)) : Prop := match o with
  | none => ∀ x ∈ W, ¬ x.1 < i
  | some x => x ∈ W ∧ x.1 < i ∧ ∀ y ∈ W, y.1 < i → x.2.1 ≤ y.2.1
theorem nd_at {α : Type} : ∀ {L : List (Nat × α)} {x y : Nat × α}, (L.map (fun x => x.1)).Nodup → x ∈ L → y ∈ L → x.1 = y.1 → x = y := by
  intro L
  induction L with
  | nil => intro x y _ hx; cases hx
  | cons a L ih =>
    intro x y hn hx hy e
    rw [List.map_cons, List.nodup_cons] at hn
    rcases List.mem_cons.mp hx with q | q <;> rcases List.mem_cons.mp hy with p | p
    · rw [q, p]
    · exact absurd (List.mem_map.mpr ⟨y, p, by rw [← q]; exact e.symm⟩) hn.1
    · exact absurd (List.mem_map.mpr ⟨x, q, by rw [← p]; exact e⟩) hn.1
    · exact ih hn.2 q p e
theorem sp_snScan {Post : wo_W → Prop} {k2 : k2T} (h : md_k E ow m A G) (hb : mjs m A G rv W us n) (hfin : ∀ o, nx_ok W 8 o → pq_Md_send_11 E mc ms Post k2 1 G 0 0 m (nI u) (nx_I o) (nI 8)) : ∀ (k i : Nat) (o : Option (Nat × Nat × jobT)), i + k = 8 → nx_ok W i o → pq_Md_send_11 E mc ms Post k2 (k + 1) G 0 0 m (nI u) (nx_I o) (nI i) := by
  have hb' := hb
  obtain ⟨⟨b1, b2, b3⟩, ⟨b4, b5⟩, b6, b7, b8⟩ := hb'
  intro k
  induction k with
  | zero =>
    intro i o hi ho
    have e : i = 8 := by omega
    subst e
    exact hfin o ho
  | succ k ih =>
    intro i o hi ho
    have vi : vp_in (nI i) 8 := vp_in_nI (by omega) (by decide)
    have ci : (nI i).toNatClampNeg = i := nI_clamp (by omega)
    have stay : (∀ x ∈ W, x.1 = i → ∃ y, o = some y ∧ y.2.1 ≤ x.2.1) → pq_Md_send_11 E mc ms Post k2 (k + 1) G 0 0 m (nI u) (nx_I o) (nI (i + 1)) := by
      intro hn
      refine ih (i + 1) o (by omega) ?_
      cases o with
      | none =>
        intro x hx hlt
        by_cases z : x.1 = i
        · obtain ⟨y, hy, _⟩ := hn x hx z; cases hy
        · exact ho x hx (by omega)
      | some y =>
        obtain ⟨h1, h2, h3⟩ := ho
        refine ⟨h1, by omega, fun x hx hlt => ?_⟩
        by_cases z : x.1 = i
        · obtain ⟨y2, hy, q⟩ := hn x hx z; cases hy; exact q
        · exact h3 x hx (by omega)
    unfold pq_Md_send_11
    refine ⟨fun w => absurd w (nI_ge (b := 8) (by omega) (by decide)), fun _ => ⟨h.1, h.rd (f := 918) (k := 66) (n := 8) (by decide) vi ?_⟩⟩
    unfold pq_Md_send_50 pq_Md_send_46 pq_Md_send_51
    rw [ci, nI_1]
    by_cases z : i ∈ W.map (fun x => x.1)
    · obtain ⟨x, hx, ex⟩ := List.mem_map.mp z
      have ex : x.1 = i := ex
      obtain ⟨a1, a2, a3, a4, a5, a6⟩ := b2 x hx
      rw [ex] at a4 a5
      rw [a4]
      refine ⟨fun w => absurd rfl w, fun _ => ?_⟩
      have take : (∀ y, o = some y → x.2.1 < y.2.1) → pq_Md_send_11 E mc ms Post k2 (k + 1) G 0 0 m (nI u) (nI i) (nI (i + 1)) := by
        intro hn
        have := ih (i + 1) (some x) (by omega) ⟨hx, by omega, fun y hy hlt => ?_⟩
        · rw [show nx_I (some x) = nI i by rw [← ex]; rfl] at this
          exact this
        · by_cases q : y.1 = i
          · rw [nd_at b1 hy hx (by rw [q, ex])]; exact Nat.le_refl _
          · cases o with
            | none => exact absurd (show y.1 < i by omega) (ho y hy)
            | some y2 =>
              have := hn y2 rfl
              have := ho.2.2 y hy (by omega)
              omega
      cases o with
      | none => exact ⟨fun _ => take (fun y e => (by cases e)), fun w => absurd (by decide) w⟩
      | some y =>
        obtain ⟨h1, h2, h3⟩ := ho
        obtain ⟨c1, c2, c3, c4, c5, c6⟩ := b2 y h1
        have vy : vp_in (nI y.1) 8 := vp_in_nI c1 (by decide)
        have cy : (nI y.1).toNatClampNeg = y.1 := nI_clamp (by omega)
        refine ⟨fun w => absurd w (nI_pos (by omega)), fun _ => h.rd (f := 921) (k := 66) (n := 8) (by decide) vi (h.rd (f := 921) (k := 66) (n := 8) (by decide) vy ?_)⟩
        rw [show (nx_I (some y)).toNatClampNeg = y.1 from cy, c5, a5]
        refine ⟨fun w => stay (fun x2 hx2 e2 => ⟨y, rfl, ?_⟩), fun w => take (fun y2 e2 => ?_)⟩
        · rw [nd_at b1 hx2 hx (by rw [e2, ex])]
          exact (nI_leI (by omega) (by omega)).mp w
        · cases e2
          exact Nat.lt_of_not_le (fun q => w (nI_le q (by omega)))
    · have e1 : ¬ wo_ei G (A 918) i = 1 := by
        rcases mjs_state hb (show i < 8 by omega) with ⟨z1, z2⟩ | ⟨v, x, hv, hx, ex, z1, z2, z3⟩ | ⟨z1, z2, z3⟩
        · exact absurd z1 z
        · rw [z2]; split <;> decide
        · rw [z3]; decide
      exact ⟨fun _ => stay (fun x hx e => absurd (List.mem_map.mpr ⟨x, hx, e⟩) z), fun w => absurd w e1⟩
theorem nx_head (hb : W.Pairwise (fun x y => x.2.1 < y.2.1)) {o : Option (Nat × Nat × jobT)} (h8 : ∀ x ∈ W, x.1 < 8) (ho : nx_ok W 8 o) : o = W.head? := by
  cases W with
  | nil =>
    cases o with
    | none => rfl
    | some x => cases ho.1
  | cons a l =>
    cases o with
    | none => exact absurd (h8 a List.mem_cons_self) (ho a List.mem_cons_self)
    | some x =>
      obtain ⟨h1, h2, h3⟩ := ho
      rcases List.mem_cons.mp h1 with e | e
      · rw [e]; rfl
      · have := (List.pairwise_cons.mp hb).1 x e
        have := h3 a List.mem_cons_self (h8 a List.mem_cons_self)
        omega
theorem mjs_send {x : Nat × Nat × jobT} {l : jlT} (hb : mjs m A G rv (x :: l) us n) (hu : u < 2) (hus : us u = none) (h : mf E ow m A P G G1) (hP : ∀ f i, P f i → (f = 918 ∨ f = 922 ∨ f = 923) ∧ i = x.1) (h1 : wo_ei G1 (A 918) x.1 = 2) (h2 : wo_ei G1 (A 922) x.1 = nI u) (h3 : wo_ei G1 (A 923) x.1 = nI now) : mjs m A G1 rv l (fun k => if k = u then some (x.1, j_sa x.2.2 now) else us k) n := by
  obtain ⟨⟨b1, b2, b3⟩, ⟨b4, b5⟩, b6, b7, b8⟩ := hb
  rw [List.map_cons, List.nodup_cons] at b1
  have nP : ∀ f i, i ≠ x.1 → ¬ P f i := fun f i q z => q (hP f i z).2
  have fj : ∀ j, j ≠ x.1 → ∀ f i, Pj j f i → ¬ P f i := fun j q f i z w => by
    have := hP f i w
    unfold Pj at z
    omega
  obtain ⟨a1, a2, a3, a4, a5, a6⟩ := b2 x List.mem_cons_self
  have other : ∀ v y, v < 2 → us v = some y → y.1 ≠ x.1 := fun v y hv hy e => (b4 v y hv hy).2.1 (by rw [List.map_cons, e]; exact List.mem_cons_self)
  refine ⟨⟨b1.2, fun y hy => ?_, (List.pairwise_cons.mp b3).2⟩, ⟨fun v y hv hy => ?_, fun y z hy hz => ?_⟩, fun j hj q1 q2 => ?_, ?_, b8⟩
  · have ne : y.1 ≠ x.1 := fun e => b1.1 (List.mem_map.mpr ⟨y, hy, e⟩)
    obtain ⟨c1, c2, c3, c4, c5, c6⟩ := b2 y (List.mem_cons_of_mem _ hy)
    refine ⟨c1, mjb_f c2 h (fj y.1 ne), c3, ?_, ?_, c6⟩
    · rw [h.ei (f := 918) (k := 66) (n := 8) (by decide) (nP _ _ ne)]; exact c4
    · rw [h.ei (f := 921) (k := 66) (n := 8) (by decide) (nP _ _ ne)]; exact c5
  · simp only [] at hy
    by_cases z : v = u
    · rw [if_pos z] at hy
      cases hy
      refine ⟨a1, b1.1, ?_, ?_, by rw [z]; exact h2, h3, fun w => absurd a3 w⟩
      · obtain ⟨d1, d2, d3, d4, d5, d6, d7, d8, d9⟩ := a2
        refine ⟨?_, d2, ?_, d4, d5.mf h (fun f hf w => ?_) (fun i hi => ⟨fun w => ?_, fun w => ?_⟩), ?_, fun q => ?_, d8, ?_⟩
        · rw [h.ei (f := 919) (k := 66) (n := 8) (by decide) (fun w => by have := hP _ _ w; omega)]; exact d1
        · rw [h.ei (f := 920) (k := 66) (n := 8) (by decide) (fun w => by have := hP _ _ w; omega)]; exact d3
        · have := hP _ _ w
          simp only [List.mem_cons, List.mem_nil_iff, or_false] at hf
          omega
        · have := hP _ _ w; omega
        · have := hP _ _ w; omega
        · rw [h.ei (f := 924) (k := 72) (n := 8) (by decide) (fun w => by have := hP _ _ w; omega)]; exact d6
        · rw [h.ei (f := 932) (k := 66) (n := 40) (by decide) (fun w => by have := hP _ _ w; omega)]; exact d7 q
        · rw [h.ei (f := 925) (k := 72) (n := 8) (by decide) (fun w => by have := hP _ _ w; omega)]; exact d9
      · rw [h1]
        exact (if_pos a3).symm
    · rw [if_neg z] at hy
      obtain ⟨c1, c2, c3⟩ := b4 v y hv hy
      rw [List.map_cons] at c2
      have ne := other v y hv hy
      exact ⟨c1, fun w => c2 (List.mem_cons_of_mem _ w), mjt_f c3 h (fj y.1 ne)⟩
  · simp only [] at hy hz
    by_cases z0 : 0 = u
    · rw [if_pos z0] at hy
      rw [if_neg (by omega)] at hz
      cases hy
      exact fun e => other 1 z (by decide) hz e.symm
    · rw [if_neg z0] at hy
      by_cases z1 : 1 = u
      · rw [if_pos z1] at hz
        cases hz
        exact other 0 y (by decide) hy
      · omega
  · have ne : j ≠ x.1 := fun e => q2 u (x.1, j_sa x.2.2 now) hu (if_pos rfl) e.symm
    rw [h.ei (f := 918) (k := 66) (n := 8) (by decide) (nP _ _ ne)]
    refine b6 j hj (fun w => ?_) (fun v y hv hy => ?_)
    · rw [List.map_cons] at w
      rcases List.mem_cons.mp w with w | w
      · exact ne w
      · exact q1 w
    · by_cases z : v = u
      · rw [z, hus] at hy; cases hy
      · exact q2 v y hv (by show (if v = u then _ else us v) = _; rw [if_neg z]; exact hy)
  · rw [h.gi (fun i w => by have := hP _ _ w; omega)]; exact b7
theorem sp_snStep {Post : wo_W → Prop} {k2 : k2T} (h : md_k E ow m A G) (hbb : ow_b E ow G) (hb : mjs m A G rv W us n) (hu : u < 2) (hnow : wo_gi G 956 m = nI now) (hp : ∀ G', mf E ow m A Psn G G' → mjs m A G' rv (sL now u (W, us)).1 (sL now u (W, us)).2 n → k2 G' 0 0 m (nI (u + 1))) : ∃ n1, pq_Md_send_11 E mc ms Post k2 n1 G 0 0 m (nI u) (-1) (nI 0) := by
  refine ⟨9, sp_snScan h hb (fun o ho => ?_) 8 0 none rfl (fun x _ hx => absurd hx (Nat.not_lt_zero _))⟩
  have b2 := hb.1.2.1
  have eo := nx_head hb.1.2.2 (fun x hx => (b2 x hx).1) ho
  unfold pq_Md_send_11 pq_Md_send_94
  rw [nI_1]
  refine ⟨fun _ => ?_, fun w => absurd (by decide) w⟩
  cases W with
  | nil =>
    rw [eo]
    have e : sL now u ([], us) = ([], us) := by unfold sL; simp only []; cases us u <;> rfl
    rw [e] at hp
    exact ⟨fun _ => hp G (mf.rf h hbb) hb, fun w => absurd (by decide) w⟩
  | cons x l =>
    rw [eo]
    have a1 := (b2 x List.mem_cons_self).1
    have vx : vp_in (nI x.1) 8 := vp_in_nI a1 (by decide)
    have cx : (nI x.1).toNatClampNeg = x.1 := nI_clamp (by omega)
    refine ⟨fun w => absurd w (nI_pos (by omega)), fun _ => ⟨h.1, 0, 0, Nat.zero_le _, Nat.zero_le _, sp_mjobOn h hb hu ?_⟩⟩
    cases e : us u with
    | some y =>
      have e : sL now u (x :: l, us) = (x :: l, us) := by unfold sL; simp only []; rw [e]
      rw [e] at hp
      exact ⟨fun _ => hp G (mf.rf h hbb) hb, fun w => absurd (nI_pos' (by have := (hb.2.1.1 u y hu (by assumption)).1; omega)) w⟩
    | none =>
      have e2 : sL now u (x :: l, us) = (l, fun k => if k = u then some (x.1, j_sa x.2.2 now) else us k) := by unfold sL; simp only []; rw [e]
      rw [e2] at hp
      refine ⟨fun w => absurd w (by decide), fun _ => ⟨h.1, ?_⟩⟩
      refine h.wr (f := 918) (k := 66) (n := 8) (by decide) vx (fun G1 e1 => ?_)
      have e1 : G1 = wo_sei G (A 918) (nI x.1).toNatClampNeg 2 := e1
      rw [cx] at e1
      have m1 : mf E ow m A (fun f i => (f = 918 ∨ f = 922 ∨ f = 923) ∧ i = x.1) G G1 := by rw [e1]; exact mf_sei h hbb (f := 918) (k := 66) (n := 8) (by decide) ⟨Or.inl rfl, rfl⟩
      have v1 : wo_ei G1 (A 918) x.1 = 2 := by rw [e1, sei_at, if_pos rfl]
      refine m1.k.wr (f := 922) (k := 66) (n := 8) (by decide) vx (fun G2 e2 => ?_)
      have e2 : G2 = wo_sei G1 (A 922) (nI x.1).toNatClampNeg (nI u) := e2
      rw [cx] at e2
      have m2 : mf E ow m A (fun f i => (f = 918 ∨ f = 922 ∨ f = 923) ∧ i = x.1) G1 G2 := by rw [e2]; exact mf_sei m1.k m1.b (f := 922) (k := 66) (n := 8) (by decide) ⟨Or.inr (Or.inl rfl), rfl⟩
      have w2 : wo_ei G2 (A 918) x.1 = 2 := by rw [e2, ei_sei m1.k (f := 922) (k := 66) (n := 8) (f' := 918) (k' := 66) (n' := 8) (by decide) (by decide), if_neg (by simp)]; exact v1
      have v2 : wo_ei G2 (A 922) x.1 = nI u := by rw [e2, sei_at, if_pos rfl]
      refine m2.k.wr (f := 923) (k := 66) (n := 8) (by decide) vx (fun G3 e3 => ?_)
      have e3 : G3 = wo_sei G2 (A 923) (nI x.1).toNatClampNeg (wo_gi G2 956 m) := e3
      have hn2 : wo_gi G2 956 m = nI now := by rw [m2.gi (fun i w => by omega), m1.gi (fun i w => by omega)]; exact hnow
      rw [cx, hn2] at e3
      have m3 : mf E ow m A (fun f i => (f = 918 ∨ f = 922 ∨ f = 923) ∧ i = x.1) G2 G3 := by rw [e3]; exact mf_sei m2.k m2.b (f := 923) (k := 66) (n := 8) (by decide) ⟨Or.inr (Or.inr rfl), rfl⟩
      have m4 := (m1.tr m2).tr m3
      refine hp G3 (m4.mn (fun f i z => z.1)) (mjs_send hb hu e m4 (fun f i z => z) ?_ ?_ ?_)
      · rw [e3, ei_sei m2.k (f := 923) (k := 66) (n := 8) (f' := 918) (k' := 66) (n' := 8) (by decide) (by decide), if_neg (by simp)]; exact w2
      · rw [e3, ei_sei m2.k (f := 923) (k := 66) (n := 8) (f' := 922) (k' := 66) (n' := 8) (by decide) (by decide), if_neg (by simp)]; exact v2
      · rw [e3, sei_at, if_pos rfl]
theorem sp_msend {Post : wo_W → Prop} (h : md_k E ow m A G) (hbb : ow_b E ow G) (hb : mjs m A G rv W us n) (hnow : wo_gi G 956 m = nI now) (hp : ∀ G' W' us', mf E ow m A Psn G G' → mjs m A G' rv W' us' n → wq (W', us') = sw_of now (wq (W, us)) → Post G') : pq_Md_send E mc ms Post G m := by
  unfold pq_Md_send pq_Md_send_0
  refine ⟨3, ?_⟩
  unfold pq_Md_send_2
  refine ⟨fun w => absurd w (by decide), fun _ => sp_snStep (u := 0) h hbb hb (by decide) hnow (fun G1 m1 b1 => ?_)⟩
  unfold pq_Md_send_2
  refine ⟨fun w => absurd w (by decide), fun _ => sp_snStep (u := 1) m1.k m1.b b1 (by decide) (by rw [m1.gi (fun i w => by unfold Psn at w; omega)]; exact hnow) (fun G2 m2 b2 => ?_)⟩
  unfold pq_Md_send_2
  refine ⟨fun _ => hp G2 _ _ (m1.tr m2) b2 ?_, fun w => absurd (by decide) w⟩
  rw [show ((sL now 1 ((sL now 0 (W, us)).1, (sL now 0 (W, us)).2)).1, (sL now 1 ((sL now 0 (W, us)).1, (sL now 0 (W, us)).2)).2) = sL now 1 (sL now 0 (W, us)) from rfl, sL_sw, sL_sw]
  rfl
end MD
