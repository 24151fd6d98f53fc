def uup (us : jsT) (u : Nat) (o : Option (Nat × jobT)) : jsT := fun k => if k = u then o else us k
theorem dl_n2 {pa : List Nat} {vs : vsT} {rs : List roT} : 0 < (dl_of pa vs rs).1 ∧ (dl_of pa vs rs).1 ≠ 200 := by
  unfold dl_of
  split
  · exact ⟨by show 0 < 404; decide, by show 404 ≠ 200; decide⟩
  · split
    · exact ⟨by show 0 < 412; decide, by show 412 ≠ 200; decide⟩
    · exact ⟨by show 0 < 204; decide, by show 204 ≠ 200; decide⟩
theorem pu_n2 {pa bd : List Nat} {vs : vsT} {rs : List roT} {g : Nat} : 0 < (pu_of pa bd vs rs g).1 ∧ (pu_of pa bd vs rs g).1 ≠ 200 := by
  unfold pu_of
  split
  · exact ⟨by show 0 < 415; decide, by show 415 ≠ 200; decide⟩
  · split
    · exact ⟨by show 0 < 412; decide, by show 412 ≠ 200; decide⟩
    · split
      · exact ⟨by show 0 < 507; decide, by show 507 ≠ 200; decide⟩
      · rename_i n _ _ _
        show 0 < st_of (pu_old pa rs n) ∧ st_of (pu_old pa rs n) ≠ 200
        cases pu_old pa rs n with
        | none => exact ⟨by show 0 < 201; decide, by show 201 ≠ 200; decide⟩
        | some _ => exact ⟨by show 0 < 204; decide, by show 204 ≠ 200; decide⟩
def Por (j : Nat) : Nat → Nat → Prop := fun f i => (f = 918 ∨ f = 926) ∧ i = j ∨ Prr (30 + j) f i ∨ Pch j f i
section MD
variable {E : wo_E} {mc ms m c s : Nat} {G0 G G1 G2 : wo_W} {ow : Nat → Nat} {A : Nat → Nat} {F K : Nat → Prop} {P Q : Nat → Nat → Prop} {rv : Nat → Nat → rqT} {W : jlT} {us : jsT} {n j u now t o tg : Nat} {b : jobT} {q : rqT} {L : rlT}
theorem mjs_upd {x : Nat × jobT} (hb : mjs m A G rv W us o) (hu : u < 2) (hx : us u = some x) (h : mf E ow m A P G G1) (hP : ∀ f i, P f i → PJ f i → Pj x.1 f i) (hv : mjt A G1 rv u x.1 b) : mjs m A G1 rv W (uup us u (some (x.1, b))) o := by
  obtain ⟨⟨b1, b2, b3⟩, ⟨b4, b5⟩, b6, b7, b8⟩ := hb
  obtain ⟨x8, xw, _⟩ := b4 u x hu hx
  have nP : ∀ i, i < 8 → i ≠ x.1 → ∀ f k, Pj i f k → ¬ P f k := fun i hi q f k z w => by
    have h1 := hP f k w (Pj_J hi z)
    unfold Pj at z h1
    omega
  refine ⟨⟨b1, fun y hy => ?_, b3⟩, ⟨fun v y hv2 hy => ?_, fun y z hy hz => ?_⟩, fun k hk q1 q2 => ?_, ?_, b8⟩
  · obtain ⟨c1, c2, c3, c4, c5, c6⟩ := b2 y hy
    have ne : y.1 ≠ x.1 := fun e => xw (by rw [← e]; exact List.mem_map.mpr ⟨y, hy, rfl⟩)
    have np := nP y.1 c1 ne
    refine ⟨c1, mjb_f c2 h np, c3, ?_, ?_, c6⟩
    · rw [h.ei (f := 918) (k := 66) (n := 8) (by decide) (np _ _ (by unfold Pj; omega))]; exact c4
    · rw [h.ei (f := 921) (k := 66) (n := 8) (by decide) (np _ _ (by unfold Pj; omega))]; exact c5
  · unfold uup at hy
    by_cases z : v = u
    · rw [if_pos z] at hy
      cases hy
      rw [z]
      exact ⟨x8, xw, hv⟩
    · rw [if_neg z] at hy
      obtain ⟨c1, c2, c3⟩ := b4 v y hv2 hy
      have ne : y.1 ≠ x.1 := by
        have hv3 : v = 0 ∧ u = 1 ∨ v = 1 ∧ u = 0 := by omega
        rcases hv3 with ⟨e3, e4⟩ | ⟨e3, e4⟩
        · subst e3; subst e4; exact b5 y x hy hx
        · subst e3; subst e4; exact fun e => b5 x y hx hy e.symm
      exact ⟨c1, c2, mjt_f c3 h (nP y.1 c1 ne)⟩
  · unfold uup at hy hz
    by_cases z0 : 0 = u
    · rw [if_pos z0] at hy
      rw [if_neg (by omega)] at hz
      cases hy
      subst z0
      exact b5 x z hx hz
    · rw [if_neg z0] at hy
      by_cases z1 : 1 = u
      · rw [if_pos z1] at hz
        cases hz
        subst z1
        exact b5 y x hy hx
      · omega
  · have ne : k ≠ x.1 := fun e => q2 u (x.1, b) hu (by unfold uup; rw [if_pos rfl]) e.symm
    rw [h.ei (f := 918) (k := 66) (n := 8) (by decide) (nP k hk ne _ _ (by unfold Pj; omega))]
    refine b6 k hk q1 (fun v y hv2 hy e => ?_)
    by_cases z : v = u
    · rw [z, hx] at hy; cases hy; exact ne e.symm
    · exact q2 v y hv2 (by unfold uup; rw [if_neg z]; exact hy) e
  · rw [h.gi (fun i w => by have h1 := hP 928 i w (by unfold PJ; omega); unfold Pj at h1; omega)]; exact b7
theorem sp_morigin {Post : Int32 → wo_W → Prop} {i : Int32} (h : md_k E ow m A G) (hbb : ow_b E ow G) (hk : mrs A G L) (hnd : (L.map (fun x => x.2.1)).Nodup) (hne : ∀ x ∈ L, ∃ l, l < 3 ∧ x.2.2.2 l ≠ none) (htg : wo_gi G 957 m = nI tg) (ht9 : tg + 1 < 10 ^ 9) (hb : mjs m A G rv W us o)
    (hn : (∀ u x, ci_of i 2 = some u → us u = some x → x.2.2.2.2.2.1 ≠ 0) → Post (-1) G)
    (hp : ∀ u x w, ci_of i 2 = some u → us u = some x → x.2.2.2.2.2.1 = 0 → w = wk_of (rv x.2.1 x.2.2.1).1 (rv x.2.1 x.2.2.1).2.1 (rv x.2.1 x.2.2.1).2.2.1 (rv x.2.1 x.2.2.1).2.2.2 x.2.2.2.1 (rl L) tg → ∀ L' G', rl L' = w.2.2.2.1 → mrs A G' L' → wo_gi G' 957 m = nI w.2.2.2.2 → mjs m A G' rv W (uup us u (some (x.1, or_s x.2 w))) o → mf E ow m A (Por x.1) G G' → Post (nI w.1) G') : pq_Md_origin E mc ms Post G m i := by
  unfold pq_Md_origin pq_Md_origin_0 pq_Md_origin_9
  refine ci_sw2 (fun e => ?_) (fun u e => ?_)
  · unfold pq_Md_origin_18 pq_Md_origin_33
    exact ⟨fun _ => hn (fun u x z => by rw [e] at z; cases z), fun w => absurd (by decide) w⟩
  · obtain ⟨e1, hu⟩ := ci_some e
    subst e1
    refine ⟨h.1, 0, 0, Nat.zero_le _, Nat.zero_le _, sp_mjobOn h hb hu ?_⟩
    unfold pq_Md_origin_18 pq_Md_origin_33
    cases eu : us u with
    | none => exact ⟨fun _ => hn (fun u2 x z z2 => by rw [e] at z; cases z; rw [eu] at z2; cases z2), fun w => absurd (by decide) w⟩
    | some x =>
      obtain ⟨x8, xw, hmt⟩ := hb.2.1.1 u x hu eu
      obtain ⟨hmb, t2, t3, t4, t5⟩ := hmt
      have vj8 : vp_in (nI x.1) 8 := vp_in_nI x8 (by decide)
      have vj9 : vp_in (nI x.1) 9 := vp_in_nI (by omega) (by decide)
      have cj : (nI x.1).toNatClampNeg = x.1 := nI_clamp (by omega)
      refine ⟨fun w => absurd w (nI_pos (n := x.1) (by omega)), fun _ => ⟨h.1, h.rd (f := 918) (k := 66) (n := 8) (by decide) vj8 ?_⟩⟩
      rw [show (jo_I (some x)).toNatClampNeg = x.1 from cj, t2]
      by_cases z : x.2.2.2.2.2.1 = 0
      · rw [if_pos z]
        refine ⟨fun _ => h.wr (f := 918) (k := 66) (n := 8) (by decide) vj8 (fun G1 e1 => ?_), fun w => absurd rfl w⟩
        have m1 : mf E ow m A (fun f y => f = 918 ∧ y = x.1) G G1 := by rw [e1]; exact mf_sei h hbb (f := 918) (k := 66) (n := 8) (by decide) ⟨rfl, rfl⟩
        have v1 : wo_ei G1 (A 918) x.1 = 3 := by rw [e1, sei_at, if_pos rfl]
        have q1 : vq_at A G1 x.1 (rv x.2.1 x.2.2.1) := vq_r hmb.2.2.2.2.1 m1 (fun f i z => by omega)
        have r1 : mrs A G1 L := hk.mf m1 (fun f i z w => by unfold PR at z; omega)
        have g1 : wo_gi G1 957 m = nI tg := by rw [m1.gi (fun i => by omega)]; exact htg
        obtain ⟨kk, k1, k2, k3⟩ := q1.1
        have hp := fun w => hp u x w e eu z
        generalize hw : wk_of (rv x.2.1 x.2.2.1).1 (rv x.2.1 x.2.2.1).2.1 (rv x.2.1 x.2.2.1).2.2.1 (rv x.2.1 x.2.2.1).2.2.2 x.2.2.2.1 (rl L) tg = w at hp
        have hp := hp w rfl
        -- the end: status is written, and may be turned into 304
        have fin : ∀ (L' : rlT) (G2 G3 : wo_W) (st : Nat), mf E ow m A (fun f y => Prr (30 + x.1) f y ∨ Pch x.1 f y) G1 G2 → mrs A G2 L' → wo_gi G2 957 m = nI w.2.2.2.2 → rl L' = w.2.2.2.1 → (∀ r, w.2.1 = some r → rr_at A G2 (30 + x.1) r) → (0 < w.2.2.1 → wo_ei G2 (A 927) x.1 = nI w.2.2.1 ∧ w.2.2.1 < 10 ^ 9) → mf E ow m A (fun f y => f = 926 ∧ y = x.1) G2 G3 → wo_ei G3 (A 926) x.1 = nI w.1 → 0 < w.1 → w.1 < 1000 → Post (nI w.1) G3 := by
          intro L' G2 G3 st m2 r2 g2 el hrr hgt m3 v3 hw0 hw1
          have m13 : mf E ow m A (fun f y => (f = 918 ∨ f = 926) ∧ y = x.1 ∨ Prr (30 + x.1) f y ∨ Pch x.1 f y) G G3 := (m1.mn (fun f i z => Or.inl ⟨Or.inl z.1, z.2⟩)).tr ((m2.mn (fun f i z => Or.inr z)).tr (m3.mn (fun f i z => Or.inl ⟨Or.inr z.1, z.2⟩)))
          have m23 : mf E ow m A (fun f y => f = 926 ∧ y = x.1 ∨ Prr (30 + x.1) f y ∨ Pch x.1 f y) G1 G3 := (m2.mn (fun f i z => Or.inr z)).tr (m3.mn (fun f i z => Or.inl z))
          have nx : ∀ f y, (f ≤ 925 ∨ f = 928 ∨ f = 932 ∧ y = 20 + x.1) → ¬ (f = 926 ∧ y = x.1 ∨ Prr (30 + x.1) f y ∨ Pch x.1 f y) := fun f y q z => by unfold Prr Pch at z; omega
          refine hp L' G3 el (r2.mf m3 (fun f i z w => by unfold PR at z; omega)) (by rw [m3.gi (fun i => by omega)]; exact g2) (mjs_upd hb hu eu m13 (fun f i z y => by unfold Prr Pch at z; unfold PJ at y; unfold Pj; omega) ⟨?_, ?_, ?_, ?_, ?_⟩) (m13.mn (fun f i z => z))
          · obtain ⟨a1, a2, a3, a4, a5, a6, a7, a8, a9⟩ := hmb
            refine ⟨?_, a2, ?_, a4, ?_, ?_, fun q => ?_, a8, ?_⟩
            · rw [m23.ei (f := 919) (k := 66) (n := 8) (by decide) (nx _ _ (by omega)), m1.ei (f := 919) (k := 66) (n := 8) (by decide) (by omega)]; exact a1
            · rw [m23.ei (f := 920) (k := 66) (n := 8) (by decide) (nx _ _ (by omega)), m1.ei (f := 920) (k := 66) (n := 8) (by decide) (by omega)]; exact a3
            · exact vq_r q1 m23 (fun f i z => by unfold Prr Pch at z; omega)
            · rw [m23.ei (f := 924) (k := 72) (n := 8) (by decide) (nx _ _ (by omega)), m1.ei (f := 924) (k := 72) (n := 8) (by decide) (by omega)]; exact a6
            · rw [m23.ei (f := 932) (k := 66) (n := 40) (by decide) (nx _ _ (by omega)), m1.ei (f := 932) (k := 66) (n := 40) (by decide) (by omega)]; exact a7 q
            · rw [m23.ei (f := 925) (k := 72) (n := 8) (by decide) (nx _ _ (by omega)), m1.ei (f := 925) (k := 72) (n := 8) (by decide) (by omega)]; exact a9
          · rw [m23.ei (f := 918) (k := 66) (n := 8) (by decide) (nx _ _ (by omega)), v1]
            exact (if_neg (by show ¬ w.1 = 0; omega)).symm
          · rw [m23.ei (f := 922) (k := 66) (n := 8) (by decide) (nx _ _ (by omega)), m1.ei (f := 922) (k := 66) (n := 8) (by decide) (by omega)]; exact t3
          · rw [m23.ei (f := 923) (k := 66) (n := 8) (by decide) (nx _ _ (by omega)), m1.ei (f := 923) (k := 66) (n := 8) (by decide) (by omega)]; exact t4
          · intro _
            refine ⟨v3, hw1, fun r hr => (hrr r hr).mf m3 (fun f hf z => by simp only [List.mem_cons, List.mem_nil_iff, or_false] at hf; omega), fun q => ⟨?_, (hgt q).2⟩⟩
            rw [m3.ei (f := 927) (k := 66) (n := 9) (by decide) (by omega)]; exact (hgt q).1
        -- not 200
        have n200 : ∀ (L' : rlT) (G2 : wo_W) (c s : Nat) (r15 : Option Nat), r15 = wo_gr G1 926 m → mf E ow m A (fun f y => Prr (30 + x.1) f y ∨ Pch x.1 f y) G1 G2 → mrs A G2 L' → wo_gi G2 957 m = nI w.2.2.2.2 → rl L' = w.2.2.2.1 → (∀ r, w.2.1 = some r → rr_at A G2 (30 + x.1) r) → (0 < w.2.2.1 → wo_ei G2 (A 927) x.1 = nI w.2.2.1 ∧ w.2.2.1 < 10 ^ 9) → 0 < w.1 → w.1 < 1000 → w.1 ≠ 200 → pq_Md_origin_74 E mc ms Post G2 c s m (nI x.1) r15 (nI x.1) (nI w.1) := by
          intro L' G2 c s r15 hr15 m2 r2 g2 el hrr hgt hw0 hw1 hw2
          have hr15 : r15 = wo_gr G2 926 m := by
            have a1 := m1.k.a (f := 926) (k := 66) (n := 8) (by decide)
            have a2 := m2.k.2.2.2.1 (926, 66, 8) (by decide)
            rw [a1.1 r15 hr15]
            exact a2.1.symm
          unfold pq_Md_origin_74
          refine m2.k.wr (f := 926) (k := 66) (n := 8) (by decide) vj8 (fun G3 e3 => ?_) r15 hr15
          rw [cj] at e3
          have m3 : mf E ow m A (fun f y => f = 926 ∧ y = x.1) G2 G3 := by rw [e3]; exact mf_sei m2.k m2.b (f := 926) (k := 66) (n := 8) (by decide) ⟨rfl, rfl⟩
          have v3 : wo_ei G3 (A 926) x.1 = nI w.1 := by rw [e3, sei_at, if_pos rfl]
          refine ⟨m3.k.1, m3.k.rd (f := 926) (k := 66) (n := 8) (by decide) vj8 ?_⟩
          rw [cj, v3]
          refine ⟨fun _ => ?_, fun q => absurd ((nI_eq (b := 200) (by omega) (by decide)).mp q) hw2⟩
          unfold pq_Md_origin_126
          refine ⟨m3.k.1, m3.k.rd (f := 926) (k := 66) (n := 8) (by decide) vj8 ?_⟩
          rw [cj, v3]
          exact fin L' G2 G3 0 m2 r2 g2 el hrr hgt m3 v3 hw0 hw1
        refine fun r15 hr15 => m1.k.rd (f := 907) (k := 66) (n := 9) (by decide) vj9 ?_
        rw [k3]
        refine ⟨fun w1 => ?_, fun w1 => ?_⟩
        · have hk1 : kk ≤ 1 := (nI_leI (b := 1) (by omega) (by decide)).mp w1
          have ew : w = ((re_of (rv x.2.1 x.2.2.1).2.1 (rv x.2.1 x.2.2.1).2.2.2 x.2.2.2.1 (rl L)).1, (re_of (rv x.2.1 x.2.2.1).2.1 (rv x.2.1 x.2.2.1).2.2.2 x.2.2.2.1 (rl L)).2, 0, rl L, tg) := by
            rw [← hw]
            unfold wk_of
            rw [k1, if_neg (fun z => by cases z; omega), if_neg (fun z => by cases z; omega)]
          refine ⟨0, 0, Nat.zero_le _, Nat.zero_le _, ?_⟩
          show pq_Md_ask E 0 0 _ G1 m (nI x.1) ((30 : Int32) + nI x.1)
          rw [show (30 : Int32) + nI x.1 = nI (30 + x.1) from nI_add 30 x.1]
          have rf : mf E ow m A (fun f y => Prr (30 + x.1) f y ∨ Pch x.1 f y) G1 G1 := mf.rf m1.k m1.b
          refine sp_mask m1.k m1.b r1 q1 (by omega) (by omega) hne (fun hno => ?_) (fun y hy ey ec => ?_) (fun y hy ey p ec G2 m2 rr2 => ?_)
          · have er : re_of (rv x.2.1 x.2.2.1).2.1 (rv x.2.1 x.2.2.1).2.2.2 x.2.2.2.1 (rl L) = (404, none) := by unfold re_of; rw [show io_of (rv x.2.1 x.2.2.1).2.1 (rl L) = none from io_0 hno]
            rw [er] at ew
            have := n200 L G1 (0 + 0 + 0) (0 + 0 + 0) r15 hr15 rf r1 (by rw [ew]; exact g1) (by rw [ew]) (fun r hr => by rw [ew] at hr; cases hr) (fun q => by rw [ew] at q; exact absurd q (Nat.lt_irrefl 0)) (by rw [ew]; show 0 < 404; decide) (by rw [ew]; show 404 < 1000; decide) (by rw [ew]; show 404 ≠ 200; decide)
            rw [show w.1 = 404 by rw [ew]] at this
            exact this
          · have er : re_of (rv x.2.1 x.2.2.1).2.1 (rv x.2.1 x.2.2.1).2.2.2 x.2.2.2.1 (rl L) = (406, none) := by rw [re_L hnd hy ey, ec]
            rw [er] at ew
            have := n200 L G1 (0 + 0 + 0) (0 + 0 + 0) r15 hr15 rf r1 (by rw [ew]; exact g1) (by rw [ew]) (fun r hr => by rw [ew] at hr; cases hr) (fun q => by rw [ew] at q; exact absurd q (Nat.lt_irrefl 0)) (by rw [ew]; show 0 < 406; decide) (by rw [ew]; show 406 < 1000; decide) (by rw [ew]; show 406 ≠ 200; decide)
            rw [show w.1 = 406 by rw [ew]] at this
            exact this
          · have er : re_of (rv x.2.1 x.2.2.1).2.1 (rv x.2.1 x.2.2.1).2.2.2 x.2.2.2.1 (rl L) = (if p.2.2.1 = x.2.2.2.1 then 304 else 200, some p) := by rw [re_L hnd hy ey, ec]
            rw [er] at ew
            have m2' : mf E ow m A (fun f y => Prr (30 + x.1) f y ∨ Pch x.1 f y) G1 G2 := m2.mn (fun f i z => Or.inl z)
            have r2 : mrs A G2 L := r1.mf m2 (fun f i z w => by unfold PR at z; unfold Prr at w; omega)
            have g2 : wo_gi G2 957 m = nI tg := by rw [m2.gi (fun i w => by unfold Prr at w; omega)]; exact g1
            have hr15 : r15 = wo_gr G2 926 m := by
              have a1 := m1.k.a (f := 926) (k := 66) (n := 8) (by decide)
              have a2 := m2.k.2.2.2.1 (926, 66, 8) (by decide)
              rw [a1.1 r15 hr15]
              exact a2.1.symm
            have hrr : ∀ r, w.2.1 = some r → rr_at A G2 (30 + x.1) r := fun r hr => by rw [ew] at hr; cases hr; exact rr2
            have hgt : 0 < w.2.2.1 → wo_ei G2 (A 927) x.1 = nI w.2.2.1 ∧ w.2.2.1 < 10 ^ 9 := fun q => by rw [ew] at q; exact absurd q (Nat.lt_irrefl 0)
            have ptag : 0 < p.2.2.1 := by
              rw [mh_ch] at ec
              cases em : mh_of ((rv x.2.1 x.2.2.1).2.2.2 5) y.2.2.2 with
              | none => rw [em] at ec; cases ec
              | some l =>
                rw [em] at ec
                have hb3 := (hk.2.1 y hy).2.2.2 l (mh_lt em)
                unfold xo_of ex_of at ec
                simp only [] at ec
                cases eb : y.2.2.2 l with
                | none => rw [eb] at ec; cases ec
                | some v =>
                  rw [eb] at ec hb3
                  simp only [Option.map_some, Option.some.injEq] at ec
                  rw [← ec]
                  exact hb3.2.2.1
            unfold pq_Md_origin_74
            refine m2.k.wr (f := 926) (k := 66) (n := 8) (by decide) vj8 (fun G3 e3 => ?_) r15 hr15
            have e3 : G3 = wo_sei G2 (A 926) (nI x.1).toNatClampNeg 200 := e3
            rw [cj] at e3
            have m3 : mf E ow m A (fun f y => f = 926 ∧ y = x.1) G2 G3 := by rw [e3]; exact mf_sei m2.k m2.b (f := 926) (k := 66) (n := 8) (by decide) ⟨rfl, rfl⟩
            have v3 : wo_ei G3 (A 926) x.1 = 200 := by rw [e3, sei_at, if_pos rfl]
            refine ⟨m3.k.1, m3.k.rd (f := 926) (k := 66) (n := 8) (by decide) vj8 ?_⟩
            show (¬ wo_ei G3 (A 926) (nI x.1).toNatClampNeg = 200 → _) ∧ _
            rw [cj, v3]
            have done : w.1 = 200 → ∀ c s, pq_Md_origin_126 E mc ms Post G3 c s m (nI x.1) := by
              intro e200 c s
              unfold pq_Md_origin_126
              refine ⟨m3.k.1, m3.k.rd (f := 926) (k := 66) (n := 8) (by decide) vj8 ?_⟩
              rw [cj, v3]
              have := fin L G2 G3 0 m2' r2 (by rw [ew]; exact g2) (by rw [ew]) hrr hgt m3 (by rw [v3, e200]; rfl) (by omega) (by omega)
              rw [e200] at this
              exact this
            refine ⟨fun q => absurd rfl q, fun _ => m3.k.rd (f := 924) (k := 72) (n := 8) (by decide) vj8 ?_⟩
            have c924 : wo_ei G3 (A 924) x.1 = bo_I (decide (x.2.2.2.1 ≠ 0)) := by
              rw [m3.ei (f := 924) (k := 72) (n := 8) (by decide) (by omega), m2.ei (f := 924) (k := 72) (n := 8) (by decide) (by unfold Prr; omega), m1.ei (f := 924) (k := 72) (n := 8) (by decide) (by omega)]
              exact hmb.2.2.2.2.2.1
            rw [show (jo_I (some x)).toNatClampNeg = x.1 from cj, c924]
            by_cases zc : x.2.2.2.1 = 0
            · rw [decide_eq_false (fun q => q zc)]
              refine ⟨fun _ => done ?_ _ _, fun q => absurd rfl q⟩
              rw [ew]
              exact if_neg (by omega)
            · rw [decide_eq_true zc]
              refine ⟨fun q => absurd q (by decide), fun _ => ?_⟩
              have e20 : (20 : Int32) + jo_I (some x) = nI (20 + x.1) := nI_add 20 x.1
              have e30 : (30 : Int32) + jo_I (some x) = nI (30 + x.1) := nI_add 30 x.1
              rw [e20, e30]
              refine m3.k.rd (f := 932) (k := 66) (n := 40) (by decide) (vp_in_nI (by omega) (by decide)) (m3.k.rd (f := 932) (k := 66) (n := 40) (by decide) (vp_in_nI (by omega) (by decide)) ?_)
              have c20 : wo_ei G3 (A 932) (20 + x.1) = nI x.2.2.2.1 := by
                rw [m3.ei (f := 932) (k := 66) (n := 40) (by decide) (by omega), m2.ei (f := 932) (k := 66) (n := 40) (by decide) (by unfold Prr; omega), m1.ei (f := 932) (k := 66) (n := 40) (by decide) (by omega)]
                exact hmb.2.2.2.2.2.2.1 zc
              have c30 : wo_ei G3 (A 932) (30 + x.1) = nI p.2.2.1 := by
                rw [m3.ei (f := 932) (k := 66) (n := 40) (by decide) (by omega)]
                exact rr2.2.2.2.1
              have xb := hmb.2.2.2.2.2.2.2.1
              have pb := rr2.2.2.2.2.1
              rw [nI_clamp (by omega), nI_clamp (by omega), c20, c30]
              refine ⟨fun q => done ?_ _ _, fun q => m3.k.wr (f := 926) (k := 66) (n := 8) (by decide) vj8 (fun G4 e4 => ?_)⟩
              · rw [ew]
                exact if_neg (fun y => q (by rw [y]))
              · have e304 : w.1 = 304 := by
                  rw [ew]
                  exact if_pos ((nI_eq (by omega) (by omega)).mp q).symm
                have m4 : mf E ow m A (fun f y => f = 926 ∧ y = x.1) G3 G4 := by rw [e4]; exact mf_sei m3.k m3.b (f := 926) (k := 66) (n := 8) (by decide) ⟨rfl, rfl⟩
                have v4 : wo_ei G4 (A 926) x.1 = 304 := by rw [e4, sei_at, if_pos rfl]
                unfold pq_Md_origin_126
                refine ⟨m4.k.1, m4.k.rd (f := 926) (k := 66) (n := 8) (by decide) vj8 ?_⟩
                show Post (wo_ei G4 (A 926) (nI x.1).toNatClampNeg) G4
                rw [cj, v4]
                have := fin L G2 G4 0 m2' r2 (by rw [ew]; exact g2) (by rw [ew]) hrr hgt (m3.tr m4) (by rw [v4, e304]; rfl) (by omega) (by omega)
                rw [e304] at this
                exact this
        · have hk1 : ¬ kk ≤ 1 := fun z => w1 (nI_le (b := 1) z (by decide))
          have hm : (rv x.2.1 x.2.2.1).1 = some 2 ∨ (rv x.2.1 x.2.2.1).1 = some 3 := by
            rw [k1]
            have : kk = 2 ∨ kk = 3 := by omega
            rcases this with z | z <;> rw [z] <;> simp
          refine ⟨0, 0, Nat.zero_le _, Nat.zero_le _, ?_⟩
          refine sp_change m1.k m1.b r1 hnd hne (by omega) q1 hm g1 ht9 (fun e3 L' G2 el hk2 ht2 m2 => ?_) (fun e2 L' G2 el hk2 ht2 m2 hg => ?_)
          · have ew : w = ((dl_of (rv x.2.1 x.2.2.1).2.1 (rv x.2.1 x.2.2.1).2.2.2 (rl L)).1, none, 0, (dl_of (rv x.2.1 x.2.2.1).2.1 (rv x.2.1 x.2.2.1).2.2.2 (rl L)).2, tg) := by
              rw [← hw]
              unfold wk_of
              rw [e3, if_neg (by decide), if_pos rfl]
            have d1 := dl_n2 (pa := (rv x.2.1 x.2.2.1).2.1) (vs := (rv x.2.1 x.2.2.1).2.2.2) (rs := rl L)
            have d2 := dl_st (pa := (rv x.2.1 x.2.2.1).2.1) (vs := (rv x.2.1 x.2.2.1).2.2.2) (rs := rl L)
            have := n200 L' G2 (0 + 0 + 0) (0 + 0 + 0) r15 hr15 (m2.mn (fun f i z => Or.inr z)) hk2 (by rw [ew]; exact ht2) (by rw [ew]; exact el) (fun r hr => by rw [ew] at hr; cases hr) (fun q => by rw [ew] at q; exact absurd q (Nat.lt_irrefl 0)) (by rw [ew]; exact d1.1) (by rw [ew]; exact d2) (by rw [ew]; exact d1.2)
            rw [show w.1 = (dl_of (rv x.2.1 x.2.2.1).2.1 (rv x.2.1 x.2.2.1).2.2.2 (rl L)).1 by rw [ew]] at this
            exact this
          · have ew : w = ((pu_of (rv x.2.1 x.2.2.1).2.1 (rv x.2.1 x.2.2.1).2.2.1 (rv x.2.1 x.2.2.1).2.2.2 (rl L) tg).1, none, (pu_of (rv x.2.1 x.2.2.1).2.1 (rv x.2.1 x.2.2.1).2.2.1 (rv x.2.1 x.2.2.1).2.2.2 (rl L) tg).2.1, (pu_of (rv x.2.1 x.2.2.1).2.1 (rv x.2.1 x.2.2.1).2.2.1 (rv x.2.1 x.2.2.1).2.2.2 (rl L) tg).2.2.1, (pu_of (rv x.2.1 x.2.2.1).2.1 (rv x.2.1 x.2.2.1).2.2.1 (rv x.2.1 x.2.2.1).2.2.2 (rl L) tg).2.2.2) := by
              rw [← hw]
              unfold wk_of
              rw [e2, if_pos rfl]
            have d1 := pu_n2 (pa := (rv x.2.1 x.2.2.1).2.1) (bd := (rv x.2.1 x.2.2.1).2.2.1) (vs := (rv x.2.1 x.2.2.1).2.2.2) (rs := rl L) (g := tg)
            have d2 := pu_st (pa := (rv x.2.1 x.2.2.1).2.1) (bd := (rv x.2.1 x.2.2.1).2.2.1) (vs := (rv x.2.1 x.2.2.1).2.2.2) (rs := rl L) (g := tg)
            have gpos : 0 < w.2.2.1 → wo_ei G2 (A 927) x.1 = nI w.2.2.1 ∧ w.2.2.1 < 10 ^ 9 := by
              intro q
              rw [ew] at q ⊢
              have hc : (pu_of (rv x.2.1 x.2.2.1).2.1 (rv x.2.1 x.2.2.1).2.2.1 (rv x.2.1 x.2.2.1).2.2.2 (rl L) tg).1 = 201 ∨ (pu_of (rv x.2.1 x.2.2.1).2.1 (rv x.2.1 x.2.2.1).2.2.1 (rv x.2.1 x.2.2.1).2.2.2 (rl L) tg).1 = 204 := Decidable.byContradiction (fun y => by have := pu_0 y; have q : 0 < (pu_of (rv x.2.1 x.2.2.1).2.1 (rv x.2.1 x.2.2.1).2.2.1 (rv x.2.1 x.2.2.1).2.2.2 (rl L) tg).2.1 := q; omega)
              exact ⟨(hg hc).1, (hg hc).2.2⟩
            have := n200 L' G2 (0 + 0 + 0) (0 + 0 + 0) r15 hr15 (m2.mn (fun f i z => Or.inr z)) hk2 (by rw [ew]; exact ht2) (by rw [ew]; exact el) (fun r hr => by rw [ew] at hr; cases hr) gpos (by rw [ew]; exact d1.1) (by rw [ew]; exact d2) (by rw [ew]; exact d1.2)
            rw [show w.1 = (pu_of (rv x.2.1 x.2.2.1).2.1 (rv x.2.1 x.2.2.1).2.2.1 (rv x.2.1 x.2.2.1).2.2.2 (rl L) tg).1 by rw [ew]] at this
            exact this
      · rw [if_neg z]
        exact ⟨fun w => absurd w (by decide), fun _ => hn (fun u2 x2 z1 z2 => by rw [e] at z1; cases z1; rw [eu] at z2; cases z2; exact z)⟩
end MD
