def fd_ok (q : rqT) (L : slT) (k : Nat) (fo : Option (Nat × Nat × sdT)) : Prop := match fo with
  | none => ∀ x ∈ L, x.1 < k → ft_of q.2.1 (q.2.2.2 5) x.2.2 = false
  | some x => x ∈ L ∧ ft_of q.2.1 (q.2.2.2 5) x.2.2 = true
theorem fi_L {pa : List Nat} {v : Option (List Nat)} : ∀ {L : slT} {x : Nat × Nat × sdT}, (∀ y ∈ L, ft_of pa v y.2.2 = true → y = x) → x ∈ L → ft_of pa v x.2.2 = true → ∃ i, fi_of pa v (L.map (fun x => x.2.2)) = some i ∧ L[i]? = some x := by
  intro L
  induction L with
  | nil => intro x _ hx; cases hx
  | cons a L ih =>
    intro x hu hx ex
    rw [List.map_cons]
    unfold fi_of
    by_cases z : ft_of pa v a.2.2 = true
    · rw [if_pos z]
      exact ⟨0, rfl, by rw [hu a List.mem_cons_self z]; rfl⟩
    · rw [if_neg z]
      rcases List.mem_cons.mp hx with e | e
      · rw [e] at ex; exact absurd ex z
      · obtain ⟨i, h1, h2⟩ := ih (fun y hy => hu y (List.mem_cons_of_mem _ hy)) e ex
        exact ⟨i + 1, by rw [h1]; rfl, by simpa using h2⟩
theorem fi_0 {pa : List Nat} {v : Option (List Nat)} : ∀ {L : slT}, (∀ y ∈ L, ft_of pa v y.2.2 = false) → fi_of pa v (L.map (fun x => x.2.2)) = none := by
  intro L
  induction L with
  | nil => intro _; rfl
  | cons a L ih =>
    intro h
    rw [List.map_cons]
    unfold fi_of
    rw [if_neg (by rw [h a List.mem_cons_self]; simp), ih (fun y hy => h y (List.mem_cons_of_mem _ hy))]
    rfl
theorem gt_M {α β : Type} {f : α → β} {L : List α} {i : Nat} {x : α} {d : β} (h : L[i]? = some x) : (L.map f).getD i d = f x := by
  rw [List.getD_eq_getElem?_getD, List.getElem?_map, h]
  rfl
def Pha (c : Nat) : Nat → Nat → Prop := fun f i => PF c f i ∨ FS f ∨ f = 943 ∨ f = 944
section MD
variable {E : wo_E} {mc ms m c s : Nat} {G0 G G1 G2 : wo_W} {ow : Nat → Nat} {A : Nat → Nat} {F K : Nat → Prop} {P Q : Nat → Nat → Prop} {rv : Nat → Nat → rqT} {W : jlT} {us : jsT} {n j u now t o : Nat} {b : jobT} {q : rqT} {L : slT}
theorem mss_use {i : Nat} {x : Nat × Nat × sdT} (hb : mss m A G L n) (hi : L[i]? = some x) (h : mf E ow m A P G G1) (hP : ∀ f y, P f y → f = 943 ∧ y = x.1 ∨ f = 944) (h2 : wo_ei G1 (A 943) x.1 = nI (n + 1)) (h3 : wo_gi G1 944 m = nI (n + 1)) (h4 : n + 1 < 10 ^ 6) : mss m A G1 (L.eraseIdx i ++ [(x.1, n + 1, x.2.2)]) (n + 1) := by
  obtain ⟨b1, b2, b3, b4, b5, b6⟩ := hb
  have her := nd_ers b1 hi
  have hx := List.mem_of_getElem? hi
  have nP : ∀ f y, f ≠ 943 → f ≠ 944 → ¬ P f y := fun f y q1 q2 z => by have := hP f y z; omega
  have mv : ∀ y ∈ L, msd A G1 y.1 y.2.2 := fun y hy => (b2 y hy).2.1.mf h (fun f hf z => by have := hP _ _ z; simp only [List.mem_cons, List.mem_nil_iff, or_false] at hf; omega) (fun f hf z => by have := hP _ _ z; simp only [List.mem_cons, List.mem_nil_iff, or_false] at hf; omega)
  refine ⟨?_, fun y hy => ?_, fun k hk => ?_, ?_, h3, h4⟩
  · rw [List.map_append]
    refine List.nodup_append.mpr ⟨?_, by simp, fun a ha b hb e => ?_⟩
    · rw [mp_er]; exact b1.sublist (List.eraseIdx_sublist _ _)
    · have eb : b = x.1 := by simpa using hb
      obtain ⟨y, hy, ey⟩ := List.mem_map.mp ha
      exact ((her y).mp hy).2 (by rw [← eb, ← e]; exact ey)
  · rcases List.mem_append.mp hy with z | z
    · obtain ⟨hy1, hy2⟩ := (her y).mp z
      obtain ⟨a1, a2, a3, a4⟩ := b2 y hy1
      refine ⟨a1, mv y hy1, ?_, by omega⟩
      rw [h.ei (f := 943) (k := 66) (n := 20) (by decide) (fun w => by have := hP _ _ w; omega)]; exact a3
    · have : y = (x.1, n + 1, x.2.2) := by simpa using z
      rw [this]
      exact ⟨(b2 x hx).1, mv x hx, h2, Nat.le_refl _⟩
  · rw [h.ei (f := 936) (k := 72) (n := 20) (by decide) (nP _ _ (by decide) (by decide)), b3 k hk]
    congr 1
    apply Bool.eq_iff_iff.mpr
    rw [decide_eq_true_iff, decide_eq_true_iff, List.map_append, List.mem_append]
    constructor
    · intro hm
      obtain ⟨y, hy, ey⟩ := List.mem_map.mp hm
      have ey : y.1 = k := ey
      by_cases w : y.1 = x.1
      · exact Or.inr (by simp; omega)
      · exact Or.inl (List.mem_map.mpr ⟨y, (her y).mpr ⟨hy, w⟩, ey⟩)
    · rintro (hm | hm)
      · obtain ⟨y, hy, ey⟩ := List.mem_map.mp hm
        exact List.mem_map.mpr ⟨y, ((her y).mp hy).1, ey⟩
      · have : k = x.1 := by simpa using hm
        exact List.mem_map.mpr ⟨x, hx, this.symm⟩
  · refine List.pairwise_append.mpr ⟨b4.sublist (List.eraseIdx_sublist _ _), by simp, fun a ha y hy => ?_⟩
    have : y = (x.1, n + 1, x.2.2) := by simpa using hy
    rw [this]
    have := (b2 a ((her a).mp ha).1).2.2.2
    show a.2.1 < n + 1
    omega
theorem sp_haFind {Post : wo_W → Prop} {x1 x2 : Int32} (h : md_k E ow m A G) (hs : mss m A G L n) (hq : vq_at A G 8 q) (hr : q.1 = some 0 ∨ q.1 = some 1) (hfin : ∀ fo, fd_ok q L 20 fo → pq_Md_handle_47 E mc ms Post G 0 0 m x1 x2 (nz_I fo)) : ∀ (k i : Nat) (fo : Option (Nat × Nat × sdT)), i + k = 20 → fd_ok q L i fo → pq_Md_handle_5 E mc ms Post (k + 1) G 0 0 m x1 x2 (nz_I fo) (nI i) := by
  have v8 : vp_in (8 : Int32) 9 := vp_in_nI (n := 8) (by decide) (by decide)
  have c8 : (8 : Int32).toNatClampNeg = 8 := by decide
  obtain ⟨kk, k1, k2, k3⟩ := hq.1
  have hk1 : kk < 2 := by
    rcases hr with e | e <;> (rw [k1] at e; cases e; decide)
  intro k
  induction k with
  | zero =>
    intro i fo hi ho
    have e : i = 20 := by omega
    subst e
    unfold pq_Md_handle_5
    exact ⟨fun _ => hfin fo ho, fun w => absurd (by decide) w⟩
  | succ k ih =>
    intro i fo hi ho
    unfold pq_Md_handle_5
    refine ⟨fun w => absurd w (nI_ge (b := 20) (by omega) (by decide)), fun _ => ⟨h.1, h.rd (f := 907) (k := 66) (n := 9) (by decide) v8 ?_⟩⟩
    rw [c8, k3]
    refine ⟨fun w => absurd w (nI_ge (b := 2) hk1 (by decide)), fun _ => ⟨0, 0, Nat.zero_le _, Nat.zero_le _, ?_⟩⟩
    unfold pq_Md_handle_40
    rw [nI_1]
    have stay : (∀ x ∈ L, x.1 = i → ft_of q.2.1 (q.2.2.2 5) x.2.2 = false) → pq_Md_handle_5 E mc ms Post (k + 1) G 0 0 m x1 x2 (nz_I fo) (nI (i + 1)) := by
      intro hn
      refine ih (i + 1) fo (by omega) ?_
      cases fo with
      | none =>
        intro x hx hlt
        by_cases z : x.1 = i
        · exact hn x hx z
        · exact ho x hx (by omega)
      | some y => exact ho
    refine sp_mfits (j := 8) h hs (by omega) (by decide) hq (fun z => ⟨fun _ => stay (fun x hx e => absurd (List.mem_map.mpr ⟨x, hx, e⟩) z), fun w => absurd rfl w⟩) (fun x hx ex => ?_)
    cases z : ft_of q.2.1 (q.2.2.2 5) x.2.2 with
    | false => exact ⟨fun _ => stay (fun y hy ey => by rw [nd_at hs.1 hy hx (by rw [ey, ex])]; exact z), fun w => absurd rfl w⟩
    | true =>
      refine ⟨fun w => absurd w (by decide), fun _ => ?_⟩
      have := ih (i + 1) (some x) (by omega) ⟨hx, z⟩
      rw [show nz_I (some x) = nI i by rw [← ex]; rfl] at this
      exact this
theorem sp_mhandle {Post : wo_W → Prop} {v : cnT} (hc2 : c < 2) (h : md_k E ow m A G) (hbb : ow_b E ow G) (hk : mcn A G c v) (ht0 : t < 20) (ht1 : c_na v ≤ t) (ht2 : t < c_nh v) (han : c_an v t = none) (h80 : ∀ t x, t < c_nh v → c_an v t = some x → x.length ≤ 80) (hl : (c_out v).length + 80 * (c_nh v - c_na v) ≤ 640) (hq : vq_at A G 8 q) (hs : mss m A G L n) (hb : mjs m A G rv W us o) (hrv : rv c t = q) (hnow : wo_gi G 956 m = nI now) (hn30 : now < 10 ^ 9) (htm : ∀ x ∈ L, x.2.2.2.2.2.1 ≤ now) (hun : ∀ x ∈ L, ∀ y ∈ L, ft_of q.2.1 (q.2.2.2 5) x.2.2 = true → ft_of q.2.1 (q.2.2.2 5) y.2.2 = true → y = x) (htag : ∀ x ∈ L, 0 < x.2.2.1.2.2.1) (hn : n + 1 < 10 ^ 6) (ho : o + 1 < 10 ^ 6) (hfree : ∃ j, j < 8 ∧ j ∉ W.map (fun x => x.1) ∧ ∀ u x, u < 2 → us u = some x → x.1 ≠ j)
    (ha80 : ∀ i, hu_of q (L.map (fun x => x.2.2)) now = some i → (ha_of q ((L.map (fun x => x.2.2)).getD i sd_0) now).length ≤ 80)
    (hp1 : ∀ i, hu_of q (L.map (fun x => x.2.2)) now = some i → ∀ G' L', mf E ow m A (Pha c) G G' → mcn A G' c (dvc (anc v t (ha_of q ((L.map (fun x => x.2.2)).getD i sd_0) now))) → mss m A G' L' (n + 1) → L'.map (fun x => x.2.2) = us_of i (L.map (fun x => x.2.2)) → Post G')
    (hp2 : hu_of q (L.map (fun x => x.2.2)) now = none → ∀ G' W' us', mf E ow m A PJ G G' → mjs m A G' rv W' us' (o + 1) → wq (W', us') = sw_of now ((wq (W, us)).1 ++ [(c, t, hp_of q (L.map (fun x => x.2.2)), 0, 0, none, 0, false)], (wq (W, us)).2) → Post G') : pq_Md_handle E mc ms Post G m (nI c) (nI t) := by
  have v8 : vp_in (8 : Int32) 9 := vp_in_nI (n := 8) (by decide) (by decide)
  have c8 : (8 : Int32).toNatClampNeg = 8 := by decide
  obtain ⟨kk, k1, k2, k3⟩ := hq.1
  -- a new job
  have h106 : ∀ fo, (∀ x, fo = some x → x ∈ L) → hp_of q (L.map (fun x => x.2.2)) = fo_g fo → hu_of q (L.map (fun x => x.2.2)) now = none → ∀ c' s', c' = 0 → s' = 0 → pq_Md_handle_106 E mc ms Post G c' s' m (nI c) (nI t) (nz_I fo) := by
    intro fo hfo hg hu c' s' ec es
    subst ec; subst es
    have key : ∀ (k i : Nat), i + k = 8 → (∀ x, x < i → ¬ (x ∉ W.map (fun x => x.1) ∧ ∀ u y, u < 2 → us u = some y → y.1 ≠ x)) → pq_Md_handle_109 E mc ms Post (k + 1) G 0 0 m (nI c) (nI t) (nz_I fo) (nI i) := by
      intro k
      induction k with
      | zero =>
        intro i hi hall
        obtain ⟨j, j1, j2, j3⟩ := hfree
        exact absurd ⟨j2, j3⟩ (hall j (by omega))
      | succ k ih =>
        intro i hi hall
        by_cases z : i ∉ W.map (fun x => x.1) ∧ ∀ u y, u < 2 → us u = some y → y.1 ≠ i
        · refine sp_haNew hc2 ht0 h hbb hb hs hfo (fun x e => htag x (hfo x e)) (by omega) z.1 z.2 hq hrv ho hnow (k + 1) (fun G' W' us' m' b' e' => hp2 hu G' W' us' m' b' ?_)
          rw [e', hg]
          congr 1
          unfold wq
          simp
        · unfold pq_Md_handle_109
          refine ⟨h.1, h.rd (f := 918) (k := 66) (n := 8) (by decide) (vp_in_nI (by omega) (by decide)) ?_⟩
          rw [nI_clamp (by omega), nI_1]
          have ne : ¬ wo_ei G (A 918) i = 0 := by
            rcases mjs_state hb (show i < 8 by omega) with ⟨z1, z2⟩ | ⟨v, x, hv, hx, ex, z1, z2, z3⟩ | ⟨z1, z2, z3⟩
            · rw [z2]; decide
            · rw [z2]; split <;> decide
            · exact absurd ⟨z1, z2⟩ z
          refine ⟨fun w => absurd w ne, fun _ => ih (i + 1) (by omega) (fun x hx => ?_)⟩
          by_cases y : x = i
          · rw [y]; exact z
          · exact hall x (by omega)
    unfold pq_Md_handle_106
    exact ⟨9, key 8 0 rfl (fun x hx => absurd hx (Nat.not_lt_zero _))⟩
  have hn0 : ∀ fo, fo = none → hf_of q (L.map (fun x => x.2.2)) = none → pq_Md_handle_47 E mc ms Post G 0 0 m (nI c) (nI t) (nz_I fo) := by
    intro fo efo e
    subst efo
    unfold pq_Md_handle_47
    refine ⟨fun _ => h106 none (fun x e => (by cases e)) ?_ ?_ _ _ rfl rfl, fun w => absurd (by decide) w⟩
    · unfold hp_of; rw [e]; rfl
    · unfold hu_of; rw [e]
  unfold pq_Md_handle pq_Md_handle_0
  by_cases hr : q.1 = some 0 ∨ q.1 = some 1
  · refine ⟨21, sp_haFind h hs hq hr (fun fo ho => ?_) 20 0 none rfl (fun x _ hx => absurd hx (Nat.not_lt_zero _))⟩
    have ehf : hf_of q (L.map (fun x => x.2.2)) = fi_of q.2.1 (q.2.2.2 5) (L.map (fun x => x.2.2)) := if_pos hr
    cases fo with
    | none => exact hn0 none rfl (by rw [ehf]; exact fi_0 (fun y hy => ho y hy (hs.2.1 y hy).1))
    | some x =>
      obtain ⟨hx, fx⟩ := ho
      obtain ⟨i, e1, e2⟩ := fi_L (fun y hy => hun x hx y hy fx) hx fx
      rw [e1] at ehf
      have eg : (L.map (fun x => x.2.2)).getD i sd_0 = x.2.2 := gt_M e2
      obtain ⟨a1, a2, a3, a4⟩ := hs.2.1 x hx
      have vx : vp_in (nI x.1) 20 := vp_in_nI a1 (by decide)
      have cx : (nI x.1).toNatClampNeg = x.1 := nI_clamp (by omega)
      have ehp : hp_of q (L.map (fun x => x.2.2)) = fo_g (some x) := by unfold hp_of; rw [ehf]; simp only []; rw [eg]; rfl
      unfold pq_Md_handle_47
      refine ⟨fun w => absurd w (nI_pos (n := x.1) (by omega)), fun _ => ⟨h.1, 0, 0, Nat.zero_le _, Nat.zero_le _, ?_⟩⟩
      have us1 := sp_usable (mc := 0) (ms := 0) (E := E) (Post := fun v5 G4 => ((v5 = 0 → pq_Md_handle_106 E mc ms Post G4 (0 + 0) (0 + 0) m (nI c) (nI t) (nz_I (some x))) ∧ (¬ v5 = 0 → wo_ty G4 m = 15 ∧ ∀ r7 : Option Nat, r7 = wo_gr G4 941 m → ∃ a9 : Nat, r7 = some a9 ∧ wo_ty G4 a9 = 66 ∧ vp_in (nz_I (some x)) (wo_len G4 a9) ∧ ∃ mc12 ms13 : Nat, ((0 + 0) + mc12) ≤ mc ∧ ((0 + 0) + ms13) ≤ ms ∧ pq_Md_select E mc12 ms13 (fun G14 => wo_ty G14 m = 15 ∧ ∃ mc16 ms17 : Nat, (((0 + 0) + mc12) + mc16) ≤ mc ∧ (((0 + 0) + ms13) + ms17) ≤ ms ∧ pq_Md_finish E mc16 ms17 (fun G18 => wo_ty G18 m = 15 ∧ en_bs E ≤ m ∧ ∀ G21 : wo_W, G21 = wo_si G18 944 m ((wo_gi G18 944 m) + 1) → ∀ r23 : Option Nat, r23 = wo_gr G21 943 m → ∃ a25 : Nat, r23 = some a25 ∧ wo_ty G21 a25 = 66 ∧ vp_in (nz_I (some x)) (wo_len G21 a25) ∧ en_bs E ≤ a25 ∧ ∀ G29 : wo_W, G29 = wo_sei G21 a25 (nz_I (some x)).toNatClampNeg (wo_gi G21 944 m) → Post G29) G14 m (nI c) (nI t)) G4 m 8 (nz_I (some x)) ((wo_gi G4 956 m) - (wo_ei G4 a9 (nz_I (some x)).toNatClampNeg))))) (j := 8) h hs hx (by decide) hq fx hnow (by omega) (htm x hx) ?_
      · exact us1
      cases ema : ma_of x.2.2 q.2.2.2 now with
      | false =>
        have ehu : hu_of q (L.map (fun x => x.2.2)) now = none := by unfold hu_of; rw [ehf]; simp only []; rw [eg, ema]; rfl
        exact ⟨fun _ => h106 (some x) (fun y e => by cases e; exact hx) ehp ehu _ _ rfl rfl, fun w => absurd rfl w⟩
      | true =>
        have ehu : hu_of q (L.map (fun x => x.2.2)) now = some i := by unfold hu_of; rw [ehf]; simp only []; rw [eg, ema]; rfl
        have l80 := ha80 i ehu
        have hp1 := hp1 i ehu
        rw [eg] at l80 hp1
        refine ⟨fun w => absurd w (by decide), fun _ => ⟨h.1, h.rd (f := 941) (k := 66) (n := 20) (by decide) vx ⟨0, 0, Nat.zero_le _, Nat.zero_le _, ?_⟩⟩⟩
        rw [show (nz_I (some x)).toNatClampNeg = x.1 from cx, a2.2.2.2.1, hnow, pk_sub (htm x hx)]
        refine sp_mselect (j := 8) (ag := some (now - x.2.2.2.2.2.1)) h hbb hq (by decide) a2.1 (by omega) (fun k e => by cases e; omega) (fun G1 m1 t1 => ⟨m1.2.1.1, 0, 0, Nat.zero_le _, Nat.zero_le _, ?_⟩)
        have m1' : mf E ow m A (fun f _ => FS f) G G1 := m1.mf (fun f i z => z)
        have sF : ∀ f, FS f → f = 905 ∨ f = 906 ∨ f = 953 ∨ f = 954 := fun f z => by rcases z with z | z <;> rcases z with z | z <;> omega
        have k1 : mcn A G1 c v := hk.mf m1' (fun f i z w => by have := sF f w; unfold PC at z; omega)
        refine sp_mfinish (by omega) m1.2.1 m1.b t1 k1 l80 ht1 ht2 han h80 hl (fun G2 m2 k2 => ⟨m2.k.1, m2.k.2.1, fun G3 e3 => ?_⟩)
        have n2 : mf E ow m A (fun f i => PF c f i ∨ FS f) G G2 := (m1'.mn (fun f i z => Or.inr z)).tr (m2.mn (fun f i z => Or.inl z))
        have s2 : mss m A G2 L n := hs.mf n2 (fun f i z w => by unfold PS at z; rcases w with w | w; unfold PF at w; omega; have := sF f w; omega)
        rw [s2.2.2.2.2.1, nI_1] at e3
        have m3 : mf E ow m A (fun f _ => f = 944) G2 G3 := by rw [e3]; exact mf_si m2.k m2.b (f := 944) rfl
        have v3 : wo_gi G3 944 m = nI (n + 1) := by rw [e3, si_at]
        refine m3.k.wr (f := 943) (k := 66) (n := 20) (by decide) vx (fun G4 e4 => ?_)
        rw [v3] at e4
        have m4 : mf E ow m A (fun f y => f = 943 ∧ y = x.1) G3 G4 := by rw [e4]; exact mf_sei m3.k m3.b (f := 943) (k := 66) (n := 20) (by decide) ⟨rfl, rfl⟩
        have m34 : mf E ow m A (fun f y => f = 943 ∧ y = x.1 ∨ f = 944) G2 G4 := (m3.mn (fun f i z => by omega)).tr (m4.mn (fun f i z => by omega))
        refine hp1 G4 (L.eraseIdx i ++ [(x.1, n + 1, x.2.2)]) ((n2.mn (fun f i z => by unfold Pha; rcases z with z | z; exact Or.inl z; exact Or.inr (Or.inl z))).tr (m34.mn (fun f i z => by unfold Pha; omega))) (k2.mf m34 (fun f i z w => by unfold PC at z; omega)) (mss_use s2 e2 m34 (fun f y z => z) ?_ ?_ hn) ?_
        · rw [e4, sei_at, if_pos rfl]
        · rw [m4.gi (fun i => by omega)]; exact v3
        · rw [List.map_append, mp_er]
          unfold us_of
          rw [eg]
          rfl
  · have ehf : hf_of q (L.map (fun x => x.2.2)) = none := if_neg hr
    refine ⟨1, ?_⟩
    unfold pq_Md_handle_5
    refine ⟨fun w => absurd w (by decide), fun _ => ⟨h.1, h.rd (f := 907) (k := 66) (n := 9) (by decide) v8 ?_⟩⟩
    rw [c8, k3]
    refine ⟨fun _ => hn0 none rfl ehf, fun w => absurd (nI_le (a := 2) ?_ (by omega)) w⟩
    have : kk ≠ 0 := fun e => hr (Or.inl (by rw [k1, e]))
    have : kk ≠ 1 := fun e => hr (Or.inr (by rw [k1, e]))
    omega
end MD
