abbrev jlT : Type := List (Nat × Nat × jobT)
abbrev jsT : Type := Nat → Option (Nat × jobT)
def mjb (A : Nat → Nat) (G : wo_W) (rv : Nat → Nat → rqT) (j : Nat) (b : jobT) : Prop := wo_ei G (A 919) j = nI b.1 ∧ b.1 < 2 ∧ wo_ei G (A 920) j = nI b.2.1 ∧ b.2.1 < 20 ∧ vq_at A G j (rv b.1 b.2.1) ∧ wo_ei G (A 924) j = bo_I (decide (b.2.2.1 ≠ 0)) ∧ (b.2.2.1 ≠ 0 → wo_ei G (A 932) (20 + j) = nI b.2.2.1) ∧ b.2.2.1 < 10 ^ 9 ∧ wo_ei G (A 925) j = bo_I b.2.2.2.2.2.2.2
def mjr (A : Nat → Nat) (G : wo_W) (j : Nat) (b : jobT) : Prop := b.2.2.2.2.1 ≠ 0 → wo_ei G (A 926) j = nI b.2.2.2.2.1 ∧ b.2.2.2.2.1 < 1000 ∧ (∀ r, b.2.2.2.2.2.1 = some r → rr_at A G (30 + j) r) ∧ (0 < b.2.2.2.2.2.2.1 → wo_ei G (A 927) j = nI b.2.2.2.2.2.2.1 ∧ b.2.2.2.2.2.2.1 < 10 ^ 9)
def mjt (A : Nat → Nat) (G : wo_W) (rv : Nat → Nat → rqT) (u j : Nat) (b : jobT) : Prop := mjb A G rv j b ∧ wo_ei G (A 918) j = (if b.2.2.2.2.1 = 0 then 2 else 3) ∧ wo_ei G (A 922) j = nI u ∧ wo_ei G (A 923) j = nI b.2.2.2.1 ∧ mjr A G j b
def mjs (m : Nat) (A : Nat → Nat) (G : wo_W) (rv : Nat → Nat → rqT) (W : jlT) (us : jsT) (n : Nat) : Prop :=
  ((W.map (fun x => x.1)).Nodup ∧ (∀ x ∈ W, x.1 < 8 ∧ mjb A G rv x.1 x.2.2 ∧ x.2.2.2.2.2.2.1 = 0 ∧ wo_ei G (A 918) x.1 = 1 ∧ wo_ei G (A 921) x.1 = nI x.2.1 ∧ x.2.1 ≤ n) ∧ W.Pairwise (fun x y => x.2.1 < y.2.1)) ∧
  ((∀ u x, u < 2 → us u = some x → x.1 < 8 ∧ x.1 ∉ W.map (fun x => x.1) ∧ mjt A G rv u x.1 x.2) ∧ ∀ x y, us 0 = some x → us 1 = some y → x.1 ≠ y.1) ∧
  (∀ j, j < 8 → j ∉ W.map (fun x => x.1) → (∀ u x, u < 2 → us u = some x → x.1 ≠ j) → wo_ei G (A 918) j = 0) ∧
  wo_gi G 928 m = nI n ∧ n < 10 ^ 6
def PJ : Nat → Nat → Prop := fun f i => (f = 907 ∨ f = 908 ∨ f = 909 ∨ f = 912 ∨ f = 913) ∧ i < 8 ∨ (f = 910 ∨ f = 911) ∧ i < 64 ∨ 918 ≤ f ∧ f ≤ 926 ∨ f = 927 ∧ i < 8 ∨ f = 928 ∨ 929 ≤ f ∧ f ≤ 935 ∧ 20 ≤ i ∧ i < 38
def Pj (j : Nat) : Nat → Nat → Prop := fun f i => (f = 907 ∨ f = 908 ∨ f = 909 ∨ f = 912 ∨ f = 913) ∧ i = j ∨ (f = 910 ∨ f = 911) ∧ i / 8 = j ∨ 918 ≤ f ∧ f ≤ 927 ∧ i = j ∨ 929 ≤ f ∧ f ≤ 935 ∧ (i = 20 + j ∨ i = 30 + j)
section MD
variable {E : wo_E} {mc ms m c s : Nat} {G0 G G1 G2 : wo_W} {ow : Nat → Nat} {A : Nat → Nat} {F K : Nat → Prop} {P Q : Nat → Nat → Prop} {rv : Nat → Nat → rqT} {W : jlT} {us : jsT} {n j u : Nat} {b : jobT}
theorem mjb_f (hb : mjb A G rv j b) (h : mf E ow m A P G G1) (hf : ∀ f i, Pj j f i → ¬ P f i) : mjb A G1 rv j b := by
  obtain ⟨b1, b2, b3, b4, b5, b6, b7, b8, b9⟩ := hb
  refine ⟨?_, b2, ?_, b4, b5.mf h (fun f hx => hf f _ ?_) (fun i hi => ⟨hf _ _ ?_, hf _ _ ?_⟩), ?_, fun z => ?_, b8, ?_⟩
  · rw [h.ei (f := 919) (k := 66) (n := 8) (by decide) (hf _ _ (by unfold Pj; omega))]; exact b1
  · rw [h.ei (f := 920) (k := 66) (n := 8) (by decide) (hf _ _ (by unfold Pj; omega))]; exact b3
  · simp only [List.mem_cons, List.mem_nil_iff, or_false] at hx; unfold Pj; omega
  · unfold Pj; omega
  · unfold Pj; omega
  · rw [h.ei (f := 924) (k := 72) (n := 8) (by decide) (hf _ _ (by unfold Pj; omega))]; exact b6
  · rw [h.ei (f := 932) (k := 66) (n := 40) (by decide) (hf _ _ (by unfold Pj; omega))]; exact b7 z
  · rw [h.ei (f := 925) (k := 72) (n := 8) (by decide) (hf _ _ (by unfold Pj; omega))]; exact b9
theorem mjr_f (hb : mjr A G j b) (h : mf E ow m A P G G1) (hf : ∀ f i, Pj j f i → ¬ P f i) : mjr A G1 j b := by
  intro z
  obtain ⟨b1, b2, b3, b4⟩ := hb z
  refine ⟨?_, b2, fun r hr => (b3 r hr).mf h (fun f hx => hf f _ ?_), fun z => ⟨?_, (b4 z).2⟩⟩
  · rw [h.ei (f := 926) (k := 66) (n := 8) (by decide) (hf _ _ (by unfold Pj; omega))]; exact b1
  · simp only [List.mem_cons, List.mem_nil_iff, or_false] at hx; unfold Pj; omega
  · rw [h.ei (f := 927) (k := 66) (n := 9) (by decide) (hf _ _ (by unfold Pj; omega))]; exact (b4 z).1
theorem mjt_f (hb : mjt A G rv u j b) (h : mf E ow m A P G G1) (hf : ∀ f i, Pj j f i → ¬ P f i) : mjt A G1 rv u j b := by
  obtain ⟨b1, b2, b3, b4, b5⟩ := hb
  refine ⟨mjb_f b1 h hf, ?_, ?_, ?_, mjr_f b5 h hf⟩
  · rw [h.ei (f := 918) (k := 66) (n := 8) (by decide) (hf _ _ (by unfold Pj; omega))]; exact b2
  · rw [h.ei (f := 922) (k := 66) (n := 8) (by decide) (hf _ _ (by unfold Pj; omega))]; exact b3
  · rw [h.ei (f := 923) (k := 66) (n := 8) (by decide) (hf _ _ (by unfold Pj; omega))]; exact b4
theorem Pj_J (hj : j < 8) {f i : Nat} (h : Pj j f i) : PJ f i := by unfold Pj at h; unfold PJ; omega
theorem mjs_f (hb : mjs m A G rv W us n) (h : mf E ow m A P G G1) (hf : ∀ f i, PJ f i → ¬ P f i) : mjs m A G1 rv W us n := by
  obtain ⟨⟨b1, b2, b3⟩, ⟨b4, b5⟩, b6, b7, b8⟩ := hb
  refine ⟨⟨b1, fun x hx => ?_, b3⟩, ⟨fun u x hu hx => ?_, b5⟩, fun j hj h1 h2 => ?_, ?_, b8⟩
  · obtain ⟨a1, a2, a3, a4, a5, a6⟩ := b2 x hx
    refine ⟨a1, mjb_f a2 h (fun f i z => hf f i (Pj_J a1 z)), a3, ?_, ?_, a6⟩
    · rw [h.ei (f := 918) (k := 66) (n := 8) (by decide) (hf _ _ (by unfold PJ; omega))]; exact a4
    · rw [h.ei (f := 921) (k := 66) (n := 8) (by decide) (hf _ _ (by unfold PJ; omega))]; exact a5
  · obtain ⟨a1, a2, a3⟩ := b4 u x hu hx
    exact ⟨a1, a2, mjt_f a3 h (fun f i z => hf f i (Pj_J a1 z))⟩
  · rw [h.ei (f := 918) (k := 66) (n := 8) (by decide) (hf _ _ (by unfold PJ; omega))]; exact b6 j hj h1 h2
  · rw [h.gi (fun i => hf _ i (by unfold PJ; omega))]; exact b7
theorem mjs_rv {rv' : Nat → Nat → rqT} (hb : mjs m A G rv W us n) (h1 : ∀ x ∈ W, rv' x.2.2.1 x.2.2.2.1 = rv x.2.2.1 x.2.2.2.1) (h2 : ∀ u x, u < 2 → us u = some x → rv' x.2.1 x.2.2.1 = rv x.2.1 x.2.2.1) : mjs m A G rv' W us n := by
  obtain ⟨⟨b1, b2, b3⟩, ⟨b4, b5⟩, b6, b7, b8⟩ := hb
  refine ⟨⟨b1, fun x hx => ?_, b3⟩, ⟨fun u x hu hx => ?_, b5⟩, b6, b7, b8⟩
  · obtain ⟨a1, ⟨a2, a3, a4, a5, a6, a7⟩, a8⟩ := b2 x hx
    exact ⟨a1, ⟨a2, a3, a4, a5, by rw [h1 x hx]; exact a6, a7⟩, a8⟩
  · obtain ⟨a1, a2, ⟨c1, c2, c3, c4, c5, c6⟩, a4⟩ := b4 u x hu hx
    exact ⟨a1, a2, ⟨c1, c2, c3, c4, by rw [h2 u x hu hx]; exact c5, c6⟩, a4⟩
theorem mjs_state (hb : mjs m A G rv W us n) (hj : j < 8) : (j ∈ W.map (fun x => x.1) ∧ wo_ei G (A 918) j = 1) ∨ (∃ u x, u < 2 ∧ us u = some x ∧ x.1 = j ∧ j ∉ W.map (fun x => x.1) ∧ wo_ei G (A 918) j = (if x.2.2.2.2.2.1 = 0 then 2 else 3) ∧ wo_ei G (A 922) j = nI u) ∨ (j ∉ W.map (fun x => x.1) ∧ (∀ u x, u < 2 → us u = some x → x.1 ≠ j) ∧ wo_ei G (A 918) j = 0) := by
  obtain ⟨⟨b1, b2, b3⟩, ⟨b4, b5⟩, b6, b7, b8⟩ := hb
  by_cases z : j ∈ W.map (fun x => x.1)
  · obtain ⟨x, hx, e⟩ := List.mem_map.mp z
    have := (b2 x hx).2.2.2.1
    have e : x.1 = j := e
    rw [e] at this
    exact Or.inl ⟨z, this⟩
  · by_cases y : ∃ u x, u < 2 ∧ us u = some x ∧ x.1 = j
    · obtain ⟨u, x, hu, hx, e⟩ := y
      have := (b4 u x hu hx).2.2
      rw [e] at this
      exact Or.inr (Or.inl ⟨u, x, hu, hx, e, z, this.2.1, this.2.2.1⟩)
    · have y2 : ∀ u x, u < 2 → us u = some x → x.1 ≠ j := fun u x hu hx e => y ⟨u, x, hu, hx, e⟩
      exact Or.inr (Or.inr ⟨z, y2, b6 j hj z y2⟩)
def jo_I : Option (Nat × jobT) → Int32
  | none => -1
  | some x => nI x.1
theorem sp_mjobOn {Post : Int32 → wo_W → Prop} (h : md_k E ow m A G) (hb : mjs m A G rv W us n) (hu : u < 2) (hp : Post (jo_I (us u)) G) : pq_Md_jobOn E mc ms Post G m (nI u) := by
  have hb' := hb
  obtain ⟨⟨b1, b2, b3⟩, ⟨b4, b5⟩, b6, b7, b8⟩ := hb'
  have key : ∀ (k i : Nat), i + k = 8 → (∀ x, us u = some x → i ≤ x.1) → pq_Md_jobOn_2 E mc ms Post (k + 1) G 0 0 m (nI u) (nI i) := by
    intro k
    induction k with
    | zero =>
      intro i hi hno
      have e : i = 8 := by omega
      subst e
      unfold pq_Md_jobOn_2
      refine ⟨fun _ => ?_, fun w => absurd (by decide) w⟩
      cases e : us u with
      | none => rw [e] at hp; exact hp
      | some x =>
        have := (b4 u x hu e).1
        have := hno x e
        omega
    | succ k ih =>
      intro i hi hno
      have vi : vp_in (nI i) 8 := vp_in_nI (by omega) (by decide)
      have ci : (nI i).toNatClampNeg = i := nI_clamp (by omega)
      have next : (∀ x, us u = some x → x.1 ≠ i) → pq_Md_jobOn_2 E mc ms Post (k + 1) G 0 0 m (nI u) (nI (i + 1)) := fun hn => ih (i + 1) (by omega) (fun x hx => by have := hno x hx; have := hn x hx; omega)
      unfold pq_Md_jobOn_2 pq_Md_jobOn_30
      rw [nI_1]
      refine ⟨fun w => absurd w (nI_ge (b := 8) (by omega) (by decide)), fun _ => ⟨h.1, h.rd (f := 918) (k := 66) (n := 8) (by decide) vi ?_⟩⟩
      rw [ci]
      rcases mjs_state hb (show i < 8 by omega) with ⟨z1, z2⟩ | ⟨v, x, hv, hx, ex, z1, z2, z3⟩ | ⟨z1, z2, z3⟩
      · rw [z2]
        exact ⟨fun _ => next (fun x hx e => (b4 u x hu hx).2.1 (by rw [e]; exact z1)), fun w => absurd (by decide) w⟩
      · rw [z2]
        refine ⟨fun w => ?_, fun _ => h.rd (f := 922) (k := 66) (n := 8) (by decide) vi ?_⟩
        · by_cases y : x.2.2.2.2.2.1 = 0
          · rw [if_pos y] at w; exact absurd w (by decide)
          · rw [if_neg y] at w; exact absurd w (by decide)
        · rw [z3]
          refine ⟨fun w => next (fun x2 hx2 e2 => ?_), fun w => ?_⟩
          · have ne : v ≠ u := fun e => w (by rw [e])
            have hv2 : v = 0 ∧ u = 1 ∨ v = 1 ∧ u = 0 := by omega
            rcases hv2 with ⟨e3, e4⟩ | ⟨e3, e4⟩
            · subst e3; subst e4; exact b5 x x2 hx hx2 (by rw [ex, e2])
            · subst e3; subst e4; exact b5 x2 x hx2 hx (by rw [ex, e2])
          · have e : v = u := (nI_eq (by omega) (by omega)).mp w
            subst e
            rw [hx] at hp
            rw [← ex]
            exact hp
      · rw [z3]
        exact ⟨fun _ => next (fun x hx => z2 u x hu hx), fun w => absurd (by decide) w⟩
  unfold pq_Md_jobOn pq_Md_jobOn_0
  exact ⟨9, key 8 0 rfl (fun x hx => Nat.zero_le _)⟩
theorem sp_mqueue {Post : Int32 → wo_W → Prop} (h : md_k E ow m A G) (hb : mjs m A G rv W us n) (hp : Post (nI W.length) G) : pq_Md_queue E mc ms Post G m := by
  have hb' := hb
  obtain ⟨⟨b1, b2, b3⟩, ⟨b4, b5⟩, b6, b7, b8⟩ := hb'
  have key : ∀ (k i : Nat), i + k = 8 → pq_Md_queue_4 E mc ms Post (k + 1) G 0 0 m (nI ((List.range i).filter (fun x => decide (x ∈ W.map (fun x => x.1)))).length) (nI i) := by
    intro k
    induction k with
    | zero =>
      intro i hi
      unfold pq_Md_queue_4
      have e : i = 8 := by omega
      subst e
      refine ⟨fun _ => ?_, fun w => absurd (by decide) w⟩
      rw [(rg_filter b1 (fun x hx => ?_)).length_eq, List.length_map]
      · exact hp
      · obtain ⟨y, hy, e⟩ := List.mem_map.mp hx
        rw [← e]
        exact (b2 y hy).1
    | succ k ih =>
      intro i hi
      unfold pq_Md_queue_4 pq_Md_queue_27
      refine ⟨fun w => absurd w (nI_ge (b := 8) (by omega) (by decide)), fun _ => ⟨h.1, h.rd (f := 918) (k := 66) (n := 8) (by decide) (vp_in_nI (by omega) (by decide)) ?_⟩⟩
      rw [nI_clamp (by omega), nI_1]
      have ih := ih (i + 1) (by omega)
      rw [rg_succ] at ih
      by_cases z : i ∈ W.map (fun x => x.1)
      · rw [if_pos (decide_eq_true z), List.length_append] at ih
        have e1 : wo_ei G (A 918) i = 1 := by
          rcases mjs_state hb (show i < 8 by omega) with ⟨z1, z2⟩ | ⟨v, x, hv, hx, ex, z1, z2, z3⟩ | ⟨z1, z2, z3⟩
          · exact z2
          · exact absurd z z1
          · exact absurd z z1
        rw [e1, nI_1]
        exact ⟨fun w => absurd rfl w, fun _ => ih⟩
      · rw [if_neg (fun y => z (of_decide_eq_true y)), List.append_nil] at ih
        have e1 : ¬ wo_ei G (A 918) i = 1 := by
          rcases mjs_state hb (show i < 8 by omega) with ⟨z1, z2⟩ | ⟨v, x, hv, hx, ex, z1, z2, z3⟩ | ⟨z1, z2, z3⟩
          · exact absurd z1 z
          · rw [z2]; split <;> decide
          · rw [z3]; decide
        exact ⟨fun _ => ih, fun w => absurd w e1⟩
  unfold pq_Md_queue pq_Md_queue_0
  exact ⟨9, key 8 0 rfl⟩
theorem sp_mupstream {Post : Int32 → wo_W → Prop} {i : Int32} (h : md_k E ow m A G) (hb : mjs m A G rv W us n) (hn : ci_of i 2 = none → Post (-1) G) (hp : ∀ u, ci_of i 2 = some u → Post (match us u with | none => 0 | some x => if x.2.2.2.2.2.1 = 0 then 1 else 2) G) : pq_Md_upstream E mc ms Post G m i := by
  unfold pq_Md_upstream pq_Md_upstream_0 pq_Md_upstream_9
  refine ci_sw2 (fun e => ?_) (fun u e => ?_)
  · unfold pq_Md_upstream_19 pq_Md_upstream_46
    exact ⟨fun w => absurd rfl w, fun _ => hn e⟩
  · obtain ⟨e1, hu⟩ := ci_some e
    have hp2 := hp u e
    subst e1
    refine ⟨h.1, 0, 0, Nat.zero_le _, Nat.zero_le _, sp_mjobOn h hb hu ?_⟩
    unfold pq_Md_upstream_19 pq_Md_upstream_46
    cases e2 : us u with
    | none =>
      rw [e2] at hp2
      exact ⟨fun _ => ⟨fun w => absurd w (by decide), fun _ => hp2⟩, fun w => absurd w (by decide)⟩
    | some x =>
      rw [e2] at hp2
      obtain ⟨a1, a2, a3⟩ := hb.2.1.1 u x hu e2
      refine ⟨fun _ => ⟨fun _ => ⟨h.1, h.rd (f := 918) (k := 66) (n := 8) (by decide) (vp_in_nI a1 (by decide)) ?_⟩, fun w => absurd (nI_pos' (by omega)) w⟩, fun w => ?_⟩
      · show Post (wo_ei G (A 918) (nI x.1).toNatClampNeg - 1) G
        rw [nI_clamp (by omega), a3.2.1]
        by_cases y : x.2.2.2.2.2.1 = 0
        · rw [if_pos y]; simp only [] at hp2; rw [if_pos y] at hp2; exact hp2
        · rw [if_neg y]; simp only [] at hp2; rw [if_neg y] at hp2; exact hp2
      · exact absurd w (fun q => nI_pos (n := x.1) (by omega) (by rw [show nI x.1 = -2 from q]; decide))
end MD
