def Pso : Nat → Nat → Prop := fun f i => FT f ∨ 936 ≤ f ∧ f ≤ 944 ∨ 929 ≤ f ∧ f ≤ 935 ∧ i < 20
theorem rl_eq {pa : List Nat} {v : Option (List Nat)} {vr : Bool} {d : sdT} : rl_of pa v vr d = (decide (d.2.1 = pa) && (ft_of pa v d || decide (d.1.2.2.2.2 ≠ vr))) := by
  unfold rl_of ft_of
  cases decide (d.2.1 = pa) <;> cases decide (d.1.2.2.2.2 ≠ vr) <;> simp
section MD
variable {E : wo_E} {mc ms m c s : Nat} {G0 G G1 G2 : wo_W} {ow : Nat → Nat} {A : Nat → Nat} {F K : Nat → Prop} {P Q : Nat → Nat → Prop} {L : slT} {n j : Nat} {q : rqT} {p : rpT}
abbrev k7T : Type := wo_W → Nat → Nat → Nat → Int32 → Int32 → Int32 → Prop
theorem sp_stW {Post : wo_W → Prop} {k7 : k7T} {x1 x2 : Int32} {i : Nat} {b : Bool} {r : Option Nat} (h : md_k E ow m A G) (hi : i < 20) (hr : r = wo_gr G 936 m) (hp : ∀ c s, k7 (wo_sei G (A 936) i (bo_I b)) c s m x1 x2 (nI (i + 1))) : pq_Md_store_77 E mc ms Post k7 G c s m x1 x2 (nI i) r (nI i) (bo_I b) := by
  unfold pq_Md_store_77
  refine h.wr (f := 936) (k := 72) (n := 20) (by decide) (vp_in_nI hi (by decide)) (fun G1 e1 => ?_) r hr
  rw [nI_clamp (by omega), vp_b] at e1
  rw [e1, nI_1]
  exact hp _ _
theorem sp_stDrop {Post : wo_W → Prop} (hj : j < 8) (hq : vq_at A G0 j q) (hr : rr_at A G0 (30 + j) p) (hfin : ∀ G', mf E ow m A Pst G0 G' → mss m A G' (dk (rl_of q.2.1 (q.2.2.2 5) p.2.2.2.2) 20 L) n → pq_Md_store_7 E mc ms Post 1 G' 0 0 m (nI j) (nI (30 + j)) (nI 20)) : ∀ (k i : Nat) (G : wo_W), i + k = 20 → mf E ow m A Pst G0 G → mss m A G (dk (rl_of q.2.1 (q.2.2.2 5) p.2.2.2.2) i L) n → pq_Md_store_7 E mc ms Post (k + 1) G 0 0 m (nI j) (nI (30 + j)) (nI i) := by
  intro k
  induction k with
  | zero =>
    intro i G hi m0 hb
    have e : i = 20 := by omega
    subst e
    exact hfin G m0 hb
  | succ k ih =>
    intro i G hi m0 hb
    have vi : vp_in (nI i) 20 := vp_in_nI (by omega) (by decide)
    have vi4 : vp_in (nI i) 40 := vp_in_nI (by omega) (by decide)
    have ci : (nI i).toNatClampNeg = i := nI_clamp (by omega)
    have vr4 : vp_in (nI (30 + j)) 40 := vp_in_nI (by omega) (by decide)
    have cr : (nI (30 + j)).toNatClampNeg = 30 + j := nI_clamp (by omega)
    have q1 : vq_at A G j q := vq_r hq m0 (fun f i z => by have z : f = 936 := z; omega)
    have r1 : rr_at A G (30 + j) p := hr.mf m0 (fun f hf z => by have z : f = 936 := z; simp only [List.mem_cons, List.mem_nil_iff, or_false] at hf; omega)
    have next : ∀ b : Bool, (b = true ↔ ∃ x ∈ dk (rl_of q.2.1 (q.2.2.2 5) p.2.2.2.2) i L, x.1 = i ∧ rl_of q.2.1 (q.2.2.2 5) p.2.2.2.2 x.2.2 = false) → pq_Md_store_7 E mc ms Post (k + 1) (wo_sei G (A 936) i (bo_I b)) 0 0 m (nI j) (nI (30 + j)) (nI (i + 1)) := by
      intro b hbv
      refine ih (i + 1) _ (by omega) (m0.tr (mf_sei m0.k m0.b (f := 936) (k := 72) (n := 20) (by decide) rfl)) ?_
      rw [dk_s]
      exact mss_drop m0.k m0.b hb (by omega) hbv
    have h51 : ∀ g : Bool, (∀ x ∈ dk (rl_of q.2.1 (q.2.2.2 5) p.2.2.2.2) i L, x.1 = i → rl_of q.2.1 (q.2.2.2 5) p.2.2.2.2 x.2.2 = g) → pq_Md_store_51 E mc ms Post (pq_Md_store_7 E mc ms Post (k + 1)) G 0 0 m (nI j) (nI (30 + j)) (nI i) (bo_I g) := by
      intro g hg
      unfold pq_Md_store_51 pq_Md_store_76
      refine ⟨m0.k.1, fun r2 hr2 => m0.k.rd (f := 936) (k := 72) (n := 20) (by decide) vi ?_⟩
      rw [ci, hb.2.2.1 i (by omega)]
      have hw : ∀ b : Bool, (b = true ↔ ∃ x ∈ dk (rl_of q.2.1 (q.2.2.2 5) p.2.2.2.2) i L, x.1 = i ∧ rl_of q.2.1 (q.2.2.2 5) p.2.2.2.2 x.2.2 = false) → pq_Md_store_77 E mc ms Post (pq_Md_store_7 E mc ms Post (k + 1)) G 0 0 m (nI j) (nI (30 + j)) (nI i) r2 (nI i) (bo_I b) := by
        intro b hbv
        unfold pq_Md_store_77
        refine m0.k.wr (f := 936) (k := 72) (n := 20) (by decide) vi (fun G1 e1 => ?_) r2 hr2
        rw [ci, vp_b] at e1
        rw [e1, nI_1]
        exact next b hbv
      by_cases z : i ∈ (dk (rl_of q.2.1 (q.2.2.2 5) p.2.2.2.2) i L).map (fun x => x.1)
      · obtain ⟨x, hx, ex⟩ := List.mem_map.mp z
        rw [decide_eq_true z]
        refine ⟨fun w => absurd w (by decide), fun _ => ?_⟩
        cases g with
        | true =>
          refine ⟨fun _ => hw false ⟨fun w => (by cases w), fun ⟨y, hy, e1, e2⟩ => ?_⟩, fun w => absurd w (by decide)⟩
          rw [hg y hy e1] at e2
          cases e2
        | false => exact ⟨fun w => absurd rfl w, fun _ => hw true ⟨fun _ => ⟨x, hx, ex, hg x hx ex⟩, fun _ => rfl⟩⟩
      · rw [decide_eq_false z]
        exact ⟨fun _ => hw false ⟨fun w => (by cases w), fun ⟨y, hy, e1, e2⟩ => absurd (List.mem_map.mpr ⟨y, hy, e1⟩) z⟩, fun w => absurd rfl w⟩
    unfold pq_Md_store_7 pq_Md_store_50 pq_Md_store_46
    refine ⟨fun w => absurd w (nI_ge (b := 20) (by omega) (by decide)), fun _ => ⟨m0.k.1, 0, 0, Nat.zero_le _, Nat.zero_le _, sp_msame m0.k hb (by omega) (by omega) q1.2.1 (fun z => ?_) (fun x hx ex => ?_)⟩⟩
    · exact ⟨fun _ => h51 false (fun x hx e => absurd (List.mem_map.mpr ⟨x, hx, e⟩) z), fun w => absurd rfl w⟩
    · have uq : ∀ y ∈ dk (rl_of q.2.1 (q.2.2.2 5) p.2.2.2.2) i L, y.1 = i → y = x := fun y hy ey => nd_at hb.1 hy hx (by rw [ey, ex])
      cases zp : decide (x.2.2.2.1 = q.2.1) with
      | false => exact ⟨fun _ => h51 false (fun y hy ey => by rw [uq y hy ey, rl_eq, zp]; rfl), fun w => absurd rfl w⟩
      | true =>
        refine ⟨fun w => absurd w (by decide), fun _ => ⟨m0.k.1, 0, 0, Nat.zero_le _, Nat.zero_le _, sp_mfits m0.k hb (by omega) (by omega) q1 (fun z => absurd (List.mem_map.mpr ⟨x, hx, ex⟩) z) (fun y hy ey => ?_)⟩⟩
        rw [uq y hy ey]
        cases zf : ft_of q.2.1 (q.2.2.2 5) x.2.2 with
        | true => exact ⟨fun _ => h51 true (fun y hy ey => by rw [uq y hy ey, rl_eq, zp, zf]; rfl), fun w => absurd w (by decide)⟩
        | false =>
          refine ⟨fun w => absurd rfl w, fun _ => ⟨m0.k.1, m0.k.rd (f := 935) (k := 72) (n := 40) (by decide) vi4 (m0.k.rd (f := 935) (k := 72) (n := 40) (by decide) vr4 ?_)⟩⟩
          have a2 := (hb.2.1 x hx).2.1
          rw [ex] at a2
          rw [ci, cr, a2.1.2.2.2.2.2.2, r1.2.2.2.2.2.2]
          have bi : ∀ a b : Bool, bo_I a = bo_I b ↔ a = b := by decide
          refine ⟨fun w => h51 false (fun y hy ey => ?_), fun w => h51 true (fun y hy ey => ?_)⟩
          · rw [uq y hy ey, rl_eq, zp, zf, decide_eq_false (fun z => z ((bi _ _).mp w))]; rfl
          · rw [uq y hy ey, rl_eq, zp, zf, decide_eq_true (show x.2.2.1.2.2.2.2 ≠ p.2.2.2.2 from fun z => w ((bi _ _).mpr z))]; rfl
theorem mss_tail {x : Nat × Nat × sdT} {l : slT} (h : md_k E ow m A G) (hbb : ow_b E ow G) (hb : mss m A G (x :: l) n) : mss m A (wo_sei G (A 936) x.1 0) l n := by
  have h1 := mss_drop (f := fun _ => true) (b := false) (s := x.1) h hbb hb (hb.2.1 x List.mem_cons_self).1 ⟨fun w => (by cases w), fun ⟨y, hy, e1, e2⟩ => (by cases e2)⟩
  have e : (x :: l).filter (fun y => !(decide (y.1 = x.1) && true)) = l := by
    rw [List.filter_cons_of_neg (by simp)]
    refine List.filter_eq_self.mpr (fun y hy => ?_)
    have hn := hb.1
    rw [List.map_cons, List.nodup_cons] at hn
    have : ¬ y.1 = x.1 := fun e => hn.1 (List.mem_map.mpr ⟨y, hy, e⟩)
    simp [this]
  rw [e] at h1
  exact h1
def nz_I : Option (Nat × Nat × sdT) → Int32
  | none => -1
  | some x => nI x.1
def nz_ok (W : slT) (i : Nat) (o : Option (Nat × Nat × sdT)) : Prop := match o with
  | none => ∀ x ∈ W, ¬ x.1 < i
  | some x => x ∈ W ∧ x.1 < i ∧ ∀ y ∈ W, y.1 < i → x.2.1 ≤ y.2.1
theorem nz_head {W : slT} (hb : W.Pairwise (fun x y => x.2.1 < y.2.1)) {o : Option (Nat × Nat × sdT)} (h8 : ∀ x ∈ W, x.1 < 20) (ho : nz_ok W 20 o) : o = W.head? := by
  cases W with
  | nil =>
    cases o with
    | none => rfl
    | some x => cases ho.1
  | cons a l =>
    cases o with
    | none => exact absurd (h8 a List.mem_cons_self) (ho a List.mem_cons_self)
    | some x =>
      obtain ⟨h1, h2, h3⟩ := ho
      rcases List.mem_cons.mp h1 with e | e
      · rw [e]; rfl
      · have := (List.pairwise_cons.mp hb).1 x e
        have := h3 a List.mem_cons_self (h8 a List.mem_cons_self)
        omega
theorem sp_stScan {Post : wo_W → Prop} {k142 : k7T} {x1 x2 x3 : Int32} (hc : c ≤ mc) (hs : s ≤ ms) (h : md_k E ow m A G) (hb : mss m A G L n) (hfin : ∀ o, nz_ok L 20 o → pq_Md_store_161 E mc ms Post k142 1 G c s m x1 x2 x3 (nz_I o) (nI 20)) : ∀ (k i : Nat) (o : Option (Nat × Nat × sdT)), i + k = 20 → nz_ok L i o → pq_Md_store_161 E mc ms Post k142 (k + 1) G c s m x1 x2 x3 (nz_I o) (nI i) := by
  obtain ⟨b1, b2, b3, b4, b5, b6⟩ := hb
  intro k
  induction k with
  | zero =>
    intro i o hi ho
    have e : i = 20 := by omega
    subst e
    exact hfin o ho
  | succ k ih =>
    intro i o hi ho
    have vi : vp_in (nI i) 20 := vp_in_nI (by omega) (by decide)
    have ci : (nI i).toNatClampNeg = i := nI_clamp (by omega)
    have stay : (∀ x ∈ L, x.1 = i → ∃ y, o = some y ∧ y.2.1 ≤ x.2.1) → pq_Md_store_161 E mc ms Post k142 (k + 1) G c s m x1 x2 x3 (nz_I o) (nI (i + 1)) := by
      intro hn
      refine ih (i + 1) o (by omega) ?_
      cases o with
      | none =>
        intro x hx hlt
        by_cases z : x.1 = i
        · obtain ⟨y, hy, _⟩ := hn x hx z; cases hy
        · exact ho x hx (by omega)
      | some y =>
        obtain ⟨h1, h2, h3⟩ := ho
        refine ⟨h1, by omega, fun x hx hlt => ?_⟩
        by_cases z : x.1 = i
        · obtain ⟨y2, hy, q⟩ := hn x hx z; cases hy; exact q
        · exact h3 x hx (by omega)
    unfold pq_Md_store_161
    refine ⟨fun w => absurd w (nI_ge (b := 20) (by omega) (by decide)), fun _ => ⟨h.1, h.rd (f := 936) (k := 72) (n := 20) (by decide) vi ?_⟩⟩
    unfold pq_Md_store_205 pq_Md_store_200 pq_Md_store_207
    rw [ci, nI_1, b3 i (by omega)]
    by_cases z : i ∈ L.map (fun x => x.1)
    · obtain ⟨x, hx, ex⟩ := List.mem_map.mp z
      have ex : x.1 = i := ex
      obtain ⟨a1, a2, a3, a4⟩ := b2 x hx
      rw [ex] at a3
      rw [decide_eq_true z]
      refine ⟨fun w => absurd w (by decide), fun _ => ?_⟩
      have take : (∀ y, o = some y → x.2.1 < y.2.1) → pq_Md_store_161 E mc ms Post k142 (k + 1) G c s m x1 x2 x3 (nI i) (nI (i + 1)) := by
        intro hn
        have := ih (i + 1) (some x) (by omega) ⟨hx, by omega, fun y hy hlt => ?_⟩
        · rw [show nz_I (some x) = nI i by rw [← ex]; rfl] at this
          exact this
        · by_cases q : y.1 = i
          · rw [nd_at b1 hy hx (by rw [q, ex])]; exact Nat.le_refl _
          · cases o with
            | none => exact absurd (show y.1 < i by omega) (ho y hy)
            | some y2 =>
              have := hn y2 rfl
              have := ho.2.2 y hy (by omega)
              omega
      cases o with
      | none => exact ⟨fun _ => take (fun y e => (by cases e)), fun w => absurd (by decide) w⟩
      | some y =>
        obtain ⟨h1, h2, h3⟩ := ho
        obtain ⟨c1, c2, c3, c4⟩ := b2 y h1
        have vy : vp_in (nI y.1) 20 := vp_in_nI c1 (by decide)
        have cy : (nI y.1).toNatClampNeg = y.1 := nI_clamp (by omega)
        refine ⟨fun w => absurd w (nI_pos (by omega)), fun _ => h.rd (f := 943) (k := 66) (n := 20) (by decide) vi (h.rd (f := 943) (k := 66) (n := 20) (by decide) vy ?_)⟩
        rw [show (nz_I (some y)).toNatClampNeg = y.1 from cy, c3, a3]
        refine ⟨fun w => stay (fun x2 hx2 e2 => ⟨y, rfl, ?_⟩), fun w => take (fun y2 e2 => ?_)⟩
        · rw [nd_at b1 hx2 hx (by rw [e2, ex])]
          exact (nI_leI (by omega) (by omega)).mp w
        · cases e2
          exact Nat.lt_of_not_le (fun q => w (nI_le q (by omega)))
    · rw [decide_eq_false z]
      exact ⟨fun _ => stay (fun x hx e => absurd (List.mem_map.mpr ⟨x, hx, e⟩) z), fun w => absurd rfl w⟩
theorem sp_stEvict {Post : wo_W → Prop} {x1 x2 : Int32} {cap sz : Nat} (hc : c ≤ mc) (hs : s ≤ ms) (hcap : wo_gi G0 955 m = nI cap) (hc3 : cap ≤ 300) (hsz : sz ≤ cap) : ∀ (L : slT) (G : wo_W), mf E ow m A Pst G0 G → mss m A G L n → sm_of (L.map (fun x => x.2.2)) < 2 ^ 29 → (∀ G' L', mf E ow m A Pst G0 G' → mss m A G' L' n → L'.map (fun x => x.2.2) = kp_go cap sz (L.map (fun x => x.2.2)) → (∀ x ∈ L', x ∈ L) → sm_of (L'.map (fun x => x.2.2)) + sz ≤ cap → ∃ n1, pq_Md_store_229 E mc ms Post n1 G' c s m x1 x2 (nI sz) (nI 0)) → pq_Md_store_142 E mc ms Post (L.length + 1) G c s m x1 x2 (nI sz) := by
  intro L
  induction L with
  | nil =>
    intro G m0 hb hsm hp
    unfold pq_Md_store_142
    refine ⟨m0.k.1, 0, 0, hc, hs, sp_mbytes m0.k hb ⟨m0.k.1, ?_⟩⟩
    have e : wo_gi G 955 m = nI cap := by rw [m0.gi (fun i z => by have z : 955 = 936 := z; omega)]; exact hcap
    rw [e, nI_add]
    exact ⟨fun _ => hp G [] m0 hb rfl (fun x hx => hx) (by show 0 + sz ≤ cap; omega), fun w => absurd (nI_le (by show 0 + sz ≤ cap; omega) (by omega)) w⟩
  | cons x l ih =>
    intro G m0 hb hsm hp
    have e0 : kp_go cap sz ((x :: l).map (fun x => x.2.2)) = if cap < sm_of ((x :: l).map (fun x => x.2.2)) + sz then kp_go cap sz (l.map (fun x => x.2.2)) else (x :: l).map (fun x => x.2.2) := rfl
    have e1 : sm_of ((x :: l).map (fun x => x.2.2)) = x.2.2.2.2.2.2 + sm_of (l.map (fun x => x.2.2)) := rfl
    unfold pq_Md_store_142
    refine ⟨m0.k.1, 0, 0, hc, hs, sp_mbytes m0.k hb ⟨m0.k.1, ?_⟩⟩
    have e : wo_gi G 955 m = nI cap := by rw [m0.gi (fun i z => by have z : 955 = 936 := z; omega)]; exact hcap
    rw [e, nI_add]
    refine ⟨fun w => ?_, fun w => ⟨21, ?_⟩⟩
    · have z := (nI_leI (by omega) (by omega)).mp w
      rw [if_neg (by omega)] at e0
      exact hp G (x :: l) m0 hb e0.symm (fun y hy => hy) z
    · have z : ¬ sm_of ((x :: l).map (fun x => x.2.2)) + sz ≤ cap := fun z => w (nI_le z (by omega))
      rw [if_pos (by omega)] at e0
      refine sp_stScan hc hs m0.k hb (fun o ho => ?_) 20 0 none rfl (fun y _ hy => absurd hy (Nat.not_lt_zero _))
      have eo := nz_head hb.2.2.2.1 (fun y hy => (hb.2.1 y hy).1) ho
      rw [eo]
      have x20 := (hb.2.1 x List.mem_cons_self).1
      unfold pq_Md_store_161
      refine ⟨fun _ => ⟨m0.k.1, m0.k.wr (f := 936) (k := 72) (n := 20) (by decide) (vp_in_nI x20 (by decide)) (fun G1 e1 => ?_)⟩, fun w => absurd (by decide) w⟩
      have e1 : G1 = wo_sei G (A 936) (nI x.1).toNatClampNeg (vp_nar .boolean 0) := e1
      rw [nI_clamp (by omega), show vp_nar .boolean 0 = 0 by decide] at e1
      have m1 : mf E ow m A Pst G G1 := by rw [e1]; exact mf_sei m0.k m0.b (f := 936) (k := 72) (n := 20) (by decide) rfl
      have b1 : mss m A G1 l n := by rw [e1]; exact mss_tail m0.k m0.b hb
      refine ih G1 (m0.tr m1) b1 (by omega) (fun G' L' m' b' el hin hle => hp G' L' m' b' (by rw [el, e0]) (fun y hy => List.mem_cons_of_mem _ (hin y hy)) hle)
theorem mss_add {k : Nat} {d : sdT} (hb : mss m A G L n) (hk : k < 20) (hkn : k ∉ L.map (fun x => x.1)) (h : mf E ow m A P G G1) (hP : ∀ f y, P f y → 929 ≤ f ∧ f ≤ 943 ∧ y = k ∨ f = 944) (hv : msd A G1 k d) (h1 : wo_ei G1 (A 936) k = 1) (h2 : wo_ei G1 (A 943) k = nI (n + 1)) (h3 : wo_gi G1 944 m = nI (n + 1)) (h4 : n + 1 < 10 ^ 6) : mss m A G1 (L ++ [(k, n + 1, d)]) (n + 1) := by
  obtain ⟨b1, b2, b3, b4, b5, b6⟩ := hb
  refine ⟨?_, fun y hy => ?_, fun x hx => ?_, ?_, h3, h4⟩
  · rw [List.map_append]
    refine List.nodup_append.mpr ⟨b1, by simp, fun a ha b hb e => ?_⟩
    have : b = k := by simpa using hb
    exact hkn (by rw [← this, ← e]; exact ha)
  · rcases List.mem_append.mp hy with q | q
    · have ne : y.1 ≠ k := fun e => hkn (List.mem_map.mpr ⟨y, q, e⟩)
      obtain ⟨a1, a2, a3, a4⟩ := b2 y q
      refine ⟨a1, a2.mf h (fun f hf z => ?_) (fun f hf z => ?_), ?_, by omega⟩
      · have := hP f _ z; simp only [List.mem_cons, List.mem_nil_iff, or_false] at hf; omega
      · have := hP f _ z; simp only [List.mem_cons, List.mem_nil_iff, or_false] at hf; omega
      · rw [h.ei (f := 943) (k := 66) (n := 20) (by decide) (fun z => by have := hP _ _ z; omega)]; exact a3
    · have : y = (k, n + 1, d) := by simpa using q
      rw [this]; exact ⟨hk, hv, h2, Nat.le_refl _⟩
  · rw [List.map_append]
    by_cases z : x = k
    · rw [z, h1, decide_eq_true (by simp)]; rfl
    · rw [h.ei (f := 936) (k := 72) (n := 20) (by decide) (fun w => by have := hP _ _ w; omega), b3 x hx]
      congr 1
      simp [z]
  · refine List.pairwise_append.mpr ⟨b4, by simp, fun a ha b hb => ?_⟩
    have : b = (k, n + 1, d) := by simpa using hb
    rw [this]
    have := (b2 a ha).2.2.2
    show a.2.1 < n + 1
    omega
end MD
