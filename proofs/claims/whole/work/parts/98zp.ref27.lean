def spx (pa : List Nat) (rv : Nat → Nat → rqT) (us : jsT) (v : Nat) : jsT := match us v with
  | none => us
  | some y => if ((rv y.2.1 y.2.2.1).1 = some 0 ∨ (rv y.2.1 y.2.2.1).1 = some 1) ∧ (rv y.2.1 y.2.2.1).2.1 = pa then uup us v (some (y.1, (y.2.1, y.2.2.1, y.2.2.2.1, y.2.2.2.2.1, y.2.2.2.2.2.1, y.2.2.2.2.2.2.1, y.2.2.2.2.2.2.2.1, true))) else us
theorem spx_m {pa : List Nat} {rv : Nat → Nat → rqT} {us : jsT} {v : Nat} : (fun k => (spx pa rv us v k).map (fun x => x.2)) = sup (fun k => (us k).map (fun x => x.2)) v (spl_of pa rv ((us v).map (fun x => x.2))) := by
  funext k
  unfold spx sup
  cases e : us v with
  | none =>
    show (us k).map (fun x => x.2) = _
    by_cases z : k = v
    · rw [if_pos z, z, e]; rfl
    · rw [if_neg z]
  | some y =>
    simp only [Option.map_some, spl_of]
    by_cases w : ((rv y.2.1 y.2.2.1).1 = some 0 ∨ (rv y.2.1 y.2.2.1).1 = some 1) ∧ (rv y.2.1 y.2.2.1).2.1 = pa
    · rw [if_pos w, if_pos w]
      unfold uup
      by_cases z : k = v
      · rw [if_pos z, if_pos z]; rfl
      · rw [if_neg z, if_neg z]
    · rw [if_neg w, if_neg w]
      by_cases z : k = v
      · rw [if_pos z, z, e]; rfl
      · rw [if_neg z]
theorem spx_u {pa : List Nat} {rv : Nat → Nat → rqT} {us : jsT} {v u : Nat} (h : u ≠ v) : spx pa rv us v u = us u := by
  unfold spx
  cases us v with
  | none => rfl
  | some y =>
    show (if _ then uup us v _ else us) u = us u
    split
    · unfold uup; rw [if_neg h]
    · rfl
def Pinv : Nat → Nat → Prop := fun f _ => f = 936 ∨ f = 925
section MD
variable {E : wo_E} {mc ms m c s : Nat} {G0 G G1 G2 : wo_W} {ow : Nat → Nat} {A : Nat → Nat} {F K : Nat → Prop} {P Q : Nat → Nat → Prop} {rv : Nat → Nat → rqT} {W : jlT} {us : jsT} {n j u v now t o tg : Nat} {b : jobT} {q : rqT} {L : slT}
theorem vq_p {j k : Nat} {q p : rqT} (hq : vq_at A G j q) (hp : vq_at A G k p) : (q.2.1 = p.2.1 ↔ wo_el G (A 908) j = wo_el G (A 908) k ∧ wo_ei G (A 909) j = wo_ei G (A 909) k) := pt_eq hq.2.1 hp.2.1
theorem sp_inSpoil {Post : wo_W → Prop} (hv : v < 2) (hj : j < 8) (h : md_k E ow m A G) (hbb : ow_b E ow G) (hq : vq_at A G j q) (hb : mjs m A G rv W us o) (hp : ∀ G', mf E ow m A Pinv G G' → mf E ow m A (fun f _ => f = 925) G G' → mjs m A G' rv W (spx q.2.1 rv us v) o → Post G') : pq_Md_invalidate_2 E mc ms Post 1 G 0 0 m (nI j) (nI v) (nI 20) := by
  have vj9 : vp_in (nI j) 9 := vp_in_nI (by omega) (by decide)
  have cj : (nI j).toNatClampNeg = j := nI_clamp (by omega)
  unfold pq_Md_invalidate_2 pq_Md_invalidate_101
  refine ⟨fun _ => ⟨h.1, 0, 0, Nat.zero_le _, Nat.zero_le _, sp_mjobOn h hb hv ?_⟩, fun w => absurd (by decide) w⟩
  cases e : us v with
  | none =>
    have es : spx q.2.1 rv us v = us := by unfold spx; rw [e]
    rw [es] at hp
    exact ⟨fun _ => hp G (mf.rf h hbb) (mf.rf h hbb) hb, fun w => absurd (by decide) w⟩
  | some y =>
    obtain ⟨y8, yw, hmt⟩ := hb.2.1.1 v y hv e
    have vy8 : vp_in (nI y.1) 8 := vp_in_nI y8 (by decide)
    have vy9 : vp_in (nI y.1) 9 := vp_in_nI (by omega) (by decide)
    have cy : (nI y.1).toNatClampNeg = y.1 := nI_clamp (by omega)
    have hmb := hmt.1
    have qy := hmb.2.2.2.2.1
    obtain ⟨kk, k1, k2, k3⟩ := qy.1
    have no : ¬ (((rv y.2.1 y.2.2.1).1 = some 0 ∨ (rv y.2.1 y.2.2.1).1 = some 1) ∧ (rv y.2.1 y.2.2.1).2.1 = q.2.1) → Post G := by
      intro z
      have es : spx q.2.1 rv us v = us := by unfold spx; rw [e]; simp only []; rw [if_neg z]
      rw [es] at hp
      exact hp G (mf.rf h hbb) (mf.rf h hbb) hb
    have pe := vq_p qy hq
    refine ⟨fun w => absurd w (nI_pos (n := y.1) (by omega)), fun _ => ⟨h.1, h.rd (f := 907) (k := 66) (n := 9) (by decide) vy9 ?_⟩⟩
    rw [show (jo_I (some y)).toNatClampNeg = y.1 from cy, cj, k3]
    refine ⟨fun w => no (fun z => ?_), fun w => h.rd (f := 908) (k := 73) (n := 9) (by decide) vy9 (h.rd (f := 908) (k := 73) (n := 9) (by decide) vj9 ⟨fun w2 => no (fun z => w2 ((lg_cmp_eq _ _).mpr (pe.mp z.2).1)), fun w2 => h.rd (f := 909) (k := 66) (n := 9) (by decide) vy9 (h.rd (f := 909) (k := 66) (n := 9) (by decide) vj9 ⟨fun w3 => no (fun z => w3 (pe.mp z.2).2), fun w3 => ?_⟩)⟩)⟩
    · have := (nI_leI (a := 2) (by decide) (by omega)).mp w
      rcases z.1 with y1 | y1 <;> (rw [k1] at y1; cases y1; omega)
    · have hk2 : kk < 2 := Nat.lt_of_not_le (fun z => w (nI_le (a := 2) z (by omega)))
      have hr : (rv y.2.1 y.2.2.1).1 = some 0 ∨ (rv y.2.1 y.2.2.1).1 = some 1 := by
        rw [k1]
        have : kk = 0 ∨ kk = 1 := by omega
        rcases this with z | z <;> rw [z] <;> simp
      have es : spx q.2.1 rv us v = uup us v (some (y.1, (y.2.1, y.2.2.1, y.2.2.2.1, y.2.2.2.2.1, y.2.2.2.2.2.1, y.2.2.2.2.2.2.1, y.2.2.2.2.2.2.2.1, true))) := by
        unfold spx; rw [e]; simp only []
        rw [if_pos ⟨hr, pe.mpr ⟨(lg_cmp_eq _ _).mp w2, w3⟩⟩]
      rw [es] at hp
      refine h.wr (f := 925) (k := 72) (n := 8) (by decide) vy8 (fun G1 e1 => ?_)
      rw [show vp_nar .boolean 1 = 1 by decide] at e1
      have m1 : mf E ow m A (fun f i => f = 925 ∧ i = y.1) G G1 := by rw [e1]; exact mf_sei h hbb (f := 925) (k := 72) (n := 8) (by decide) ⟨rfl, rfl⟩
      have v1 : wo_ei G1 (A 925) y.1 = 1 := by rw [e1, sei_at, if_pos rfl]
      refine hp G1 (m1.mn (fun f i z => Or.inr z.1)) (m1.mn (fun f i z => z.1)) (mjs_upd hb hv e m1 (fun f i z _ => by unfold Pj; omega) ?_)
      obtain ⟨⟨a1, a2, a3, a4, a5, a6, a7, a8, a9⟩, t2, t3, t4, t5⟩ := hmt
      refine ⟨⟨?_, a2, ?_, a4, vq_r a5 m1 (fun f i z => by omega), ?_, fun z => ?_, a8, v1⟩, ?_, ?_, ?_, fun z => ?_⟩
      · rw [m1.ei (f := 919) (k := 66) (n := 8) (by decide) (by omega)]; exact a1
      · rw [m1.ei (f := 920) (k := 66) (n := 8) (by decide) (by omega)]; exact a3
      · rw [m1.ei (f := 924) (k := 72) (n := 8) (by decide) (by omega)]; exact a6
      · rw [m1.ei (f := 932) (k := 66) (n := 40) (by decide) (by omega)]; exact a7 z
      · rw [m1.ei (f := 918) (k := 66) (n := 8) (by decide) (by omega)]; exact t2
      · rw [m1.ei (f := 922) (k := 66) (n := 8) (by decide) (by omega)]; exact t3
      · rw [m1.ei (f := 923) (k := 66) (n := 8) (by decide) (by omega)]; exact t4
      · obtain ⟨d1, d2, d3, d4⟩ := t5 z
        refine ⟨?_, d2, fun r hr => (d3 r hr).mf m1 (fun f hf z => by simp only [List.mem_cons, List.mem_nil_iff, or_false] at hf; omega), fun w => ⟨?_, (d4 w).2⟩⟩
        · rw [m1.ei (f := 926) (k := 66) (n := 8) (by decide) (by omega)]; exact d1
        · rw [m1.ei (f := 927) (k := 66) (n := 9) (by decide) (by omega)]; exact (d4 w).1
def sp_f (pa : List Nat) : sdT → Bool := fun d => decide (d.2.1 = pa)
theorem sp_inDrop {Post : wo_W → Prop} (hj : j < 8) (hq : vq_at A G0 j q) (hfin : ∀ G', mf E ow m A Pst G0 G' → mss m A G' (dk (sp_f q.2.1) 20 L) n → pq_Md_invalidate_2 E mc ms Post 1 G' 0 0 m (nI j) (nI v) (nI 20)) : ∀ (k i : Nat) (G : wo_W), i + k = 20 → mf E ow m A Pst G0 G → mss m A G (dk (sp_f q.2.1) i L) n → pq_Md_invalidate_2 E mc ms Post (k + 1) G 0 0 m (nI j) (nI v) (nI i) := by
  intro k
  induction k with
  | zero =>
    intro i G hi m0 hb
    have e : i = 20 := by omega
    subst e
    exact hfin G m0 hb
  | succ k ih =>
    intro i G hi m0 hb
    have vi : vp_in (nI i) 20 := vp_in_nI (by omega) (by decide)
    have ci : (nI i).toNatClampNeg = i := nI_clamp (by omega)
    have q1 : vq_at A G j q := vq_r hq m0 (fun f i z => by have z : f = 936 := z; omega)
    have hw : ∀ (b : Bool) (c s : Nat) (r2 : Option Nat), c = 0 → s = 0 → r2 = wo_gr G 936 m → (b = true ↔ ∃ x ∈ dk (sp_f q.2.1) i L, x.1 = i ∧ sp_f q.2.1 x.2.2 = false) → pq_Md_invalidate_36 E mc ms Post (pq_Md_invalidate_2 E mc ms Post (k + 1)) G c s m (nI j) (nI v) (nI i) r2 (nI i) (bo_I b) := by
      intro b c s r2 ec es hr2 hbv
      subst ec; subst es
      unfold pq_Md_invalidate_36
      refine m0.k.wr (f := 936) (k := 72) (n := 20) (by decide) vi (fun G1 e1 => ?_) r2 hr2
      rw [ci, vp_b] at e1
      rw [e1, nI_1]
      refine ih (i + 1) _ (by omega) (m0.tr (mf_sei m0.k m0.b (f := 936) (k := 72) (n := 20) (by decide) rfl)) ?_
      rw [dk_s]
      exact mss_drop m0.k m0.b hb (by omega) hbv
    unfold pq_Md_invalidate_2 pq_Md_invalidate_35
    refine ⟨fun w => absurd w (nI_ge (b := 20) (by omega) (by decide)), fun _ => ⟨m0.k.1, fun r2 hr2 => m0.k.rd (f := 936) (k := 72) (n := 20) (by decide) vi ?_⟩⟩
    rw [ci, hb.2.2.1 i (by omega)]
    by_cases z : i ∈ (dk (sp_f q.2.1) i L).map (fun x => x.1)
    · rw [decide_eq_true z]
      refine ⟨fun w => absurd w (by decide), fun _ => ⟨0, 0, Nat.zero_le _, Nat.zero_le _, sp_msame m0.k hb (by omega) (by omega) q1.2.1 (fun y => absurd z y) (fun x hx ex => ?_)⟩⟩
      have uq : ∀ y ∈ dk (sp_f q.2.1) i L, y.1 = i → y = x := fun y hy ey => nd_at hb.1 hy hx (by rw [ey, ex])
      cases zp : decide (x.2.2.2.1 = q.2.1) with
      | true =>
        refine ⟨fun _ => hw false _ _ r2 rfl rfl hr2 ⟨fun w => (by cases w), fun ⟨y, hy, e1, e2⟩ => ?_⟩, fun w => absurd w (by decide)⟩
        rw [uq y hy e1] at e2
        unfold sp_f at e2
        rw [zp] at e2
        cases e2
      | false => exact ⟨fun w => absurd rfl w, fun _ => hw true _ _ r2 rfl rfl hr2 ⟨fun _ => ⟨x, hx, ex, zp⟩, fun _ => rfl⟩⟩
    · rw [decide_eq_false z]
      exact ⟨fun _ => hw false _ _ r2 rfl rfl hr2 ⟨fun w => (by cases w), fun ⟨y, hy, e1, e2⟩ => absurd (List.mem_map.mpr ⟨y, hy, e1⟩) z⟩, fun w => absurd rfl w⟩
theorem sp_invalidate {Post : wo_W → Prop} (hv : v < 2) (hj : j < 8) (h : md_k E ow m A G) (hbb : ow_b E ow G) (hq : vq_at A G j q) (hb : mjs m A G rv W us o) (hs : mss m A G L n) (hp : ∀ G' L', mf E ow m A Pinv G G' → mjs m A G' rv W (spx q.2.1 rv us v) o → mss m A G' L' n → L'.map (fun x => x.2.2) = dr_of (sp_f q.2.1) (L.map (fun x => x.2.2)) → Post G') : pq_Md_invalidate E mc ms Post G m (nI j) (nI v) := by
  unfold pq_Md_invalidate pq_Md_invalidate_0
  refine ⟨21, sp_inDrop (L := L) (n := n) hj hq (fun G1 m1 s1 => ?_) 20 0 G rfl (mf.rf h hbb) (by rw [dk_0]; exact hs)⟩
  have p1 : ∀ f i, Pst f i → f = 936 := fun f i z => z
  refine sp_inSpoil hv hj m1.k m1.b (vq_r hq m1 (fun f i z => by have := p1 f i z; omega)) (mjs_f hb m1 (fun f i z w => by have := p1 f i w; unfold PJ at z; omega)) (fun G2 m2 m2' b2 => ?_)
  exact hp G2 _ ((m1.mn (fun f i z => Or.inl (p1 f i z))).tr m2) b2 (s1.mf m2' (fun f i z w => by unfold PS at z; omega)) (dk_n (fun x hx => (hs.2.1 x hx).1))
theorem mjs_rem {x : Nat × jobT} (hb : mjs m A G rv W us o) (hu : u < 2) (hx : us u = some x) (h : mf E ow m A P G G1) (hP : ∀ f i, P f i → f = 918 ∧ i = x.1) (h1 : wo_ei G1 (A 918) x.1 = 0) : mjs m A G1 rv W (uup us u none) o := by
  obtain ⟨⟨b1, b2, b3⟩, ⟨b4, b5⟩, b6, b7, b8⟩ := hb
  obtain ⟨x8, xw, _⟩ := b4 u x hu hx
  have nP : ∀ i, i ≠ x.1 → ∀ f k, Pj i f k → ¬ P f k := fun i q f k z w => by
    have h1 := hP f k w
    unfold Pj at z
    omega
  refine ⟨⟨b1, fun y hy => ?_, b3⟩, ⟨fun v y hv2 hy => ?_, fun y z hy hz => ?_⟩, fun k hk q1 q2 => ?_, ?_, b8⟩
  · obtain ⟨c1, c2, c3, c4, c5, c6⟩ := b2 y hy
    have ne : y.1 ≠ x.1 := fun e => xw (by rw [← e]; exact List.mem_map.mpr ⟨y, hy, rfl⟩)
    have np := nP y.1 ne
    refine ⟨c1, mjb_f c2 h np, c3, ?_, ?_, c6⟩
    · rw [h.ei (f := 918) (k := 66) (n := 8) (by decide) (np _ _ (by unfold Pj; omega))]; exact c4
    · rw [h.ei (f := 921) (k := 66) (n := 8) (by decide) (np _ _ (by unfold Pj; omega))]; exact c5
  · unfold uup at hy
    by_cases z : v = u
    · rw [if_pos z] at hy; cases hy
    · rw [if_neg z] at hy
      obtain ⟨c1, c2, c3⟩ := b4 v y hv2 hy
      have ne : y.1 ≠ x.1 := by
        have hv3 : v = 0 ∧ u = 1 ∨ v = 1 ∧ u = 0 := by omega
        rcases hv3 with ⟨e3, e4⟩ | ⟨e3, e4⟩
        · subst e3; subst e4; exact b5 y x hy hx
        · subst e3; subst e4; exact fun e => b5 x y hx hy e.symm
      exact ⟨c1, c2, mjt_f c3 h (nP y.1 ne)⟩
  · unfold uup at hy hz
    by_cases z0 : 0 = u
    · rw [if_pos z0] at hy; cases hy
    · rw [if_neg z0] at hy
      by_cases z1 : 1 = u
      · rw [if_pos z1] at hz; cases hz
      · omega
  · by_cases ne : k = x.1
    · rw [ne]; exact h1
    · rw [h.ei (f := 918) (k := 66) (n := 8) (by decide) (fun w => by have := hP _ _ w; omega)]
      refine b6 k hk q1 (fun v y hv2 hy e => ?_)
      by_cases z : v = u
      · rw [z, hx] at hy; cases hy; exact ne e.symm
      · exact q2 v y hv2 (by unfold uup; rw [if_neg z]; exact hy) e
  · rw [h.gi (fun i w => by have := hP _ _ w; omega)]; exact b7
end MD
