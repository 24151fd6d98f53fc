def fo_g : Option (Nat × Nat × sdT) → Nat
  | none => 0
  | some x => x.2.2.1.2.2.1
def Pjn (j : Nat) : Nat → Nat → Prop := fun f i => Pj j f i ∨ f = 928
section MD
variable {E : wo_E} {mc ms m c s : Nat} {G0 G G1 G2 : wo_W} {ow : Nat → Nat} {A : Nat → Nat} {F K : Nat → Prop} {P Q : Nat → Nat → Prop} {rv : Nat → Nat → rqT} {W : jlT} {us : jsT} {n j u now t o : Nat} {b : jobT} {q : rqT} {L : slT}
theorem Pj_dis {i j : Nat} (h : i ≠ j) (hi : i < 8) (hj : j < 8) : ∀ f k, Pj i f k → ¬ Pjn j f k := by
  intro f k z w
  unfold Pj at z
  unfold Pjn Pj at w
  omega
theorem mjs_add (hb : mjs m A G rv W us o) (hj : j < 8) (hjn : j ∉ W.map (fun x => x.1)) (hju : ∀ u x, u < 2 → us u = some x → x.1 ≠ j) (h : mf E ow m A (Pjn j) G G1) (hv : mjb A G1 rv j b) (h0 : b.2.2.2.2.1 = 0) (h1 : wo_ei G1 (A 918) j = 1) (h2 : wo_ei G1 (A 921) j = nI (o + 1)) (h3 : wo_gi G1 928 m = nI (o + 1)) (h4 : o + 1 < 10 ^ 6) : mjs m A G1 rv (W ++ [(j, o + 1, b)]) us (o + 1) := by
  obtain ⟨⟨b1, b2, b3⟩, ⟨b4, b5⟩, b6, b7, b8⟩ := hb
  have nP : ∀ f i, 918 ≤ f → f ≤ 927 → i ≠ j → ¬ Pjn j f i := fun f i q1 q2 q3 z => by unfold Pjn Pj at z; omega
  refine ⟨⟨?_, fun x hx => ?_, ?_⟩, ⟨fun u x hu hx => ?_, b5⟩, fun k hk q1 q2 => ?_, h3, h4⟩
  · rw [List.map_append]
    refine List.nodup_append.mpr ⟨b1, by simp, fun a ha b hb e => ?_⟩
    have : b = j := by simpa using hb
    exact hjn (by rw [← this, ← e]; exact ha)
  · rcases List.mem_append.mp hx with z | z
    · have ne : x.1 ≠ j := fun e => hjn (List.mem_map.mpr ⟨x, z, e⟩)
      obtain ⟨c1, c2, c3, c4, c5, c6⟩ := b2 x z
      refine ⟨c1, mjb_f c2 h (Pj_dis ne c1 hj), c3, ?_, ?_, by omega⟩
      · rw [h.ei (f := 918) (k := 66) (n := 8) (by decide) (nP _ _ (by decide) (by decide) ne)]; exact c4
      · rw [h.ei (f := 921) (k := 66) (n := 8) (by decide) (nP _ _ (by decide) (by decide) ne)]; exact c5
    · have : x = (j, o + 1, b) := by simpa using z
      rw [this]
      exact ⟨hj, hv, h0, h1, h2, Nat.le_refl _⟩
  · refine List.pairwise_append.mpr ⟨b3, by simp, fun a ha x hx => ?_⟩
    have : x = (j, o + 1, b) := by simpa using hx
    rw [this]
    have := (b2 a ha).2.2.2.2.2
    show a.2.1 < o + 1
    omega
  · obtain ⟨c1, c2, c3⟩ := b4 u x hu hx
    have ne := hju u x hu hx
    refine ⟨c1, fun z => ?_, mjt_f c3 h (Pj_dis ne c1 hj)⟩
    rw [List.map_append] at z
    rcases List.mem_append.mp z with z | z
    · exact c2 z
    · exact ne (by simpa using z)
  · rw [List.map_append] at q1
    have ne : k ≠ j := fun e => q1 (by rw [e]; simp)
    rw [h.ei (f := 918) (k := 66) (n := 8) (by decide) (nP _ _ (by decide) (by decide) ne)]
    exact b6 k hk (fun z => q1 (List.mem_append_left _ z)) q2
theorem sp_haCopy {Post : wo_W → Prop} {x1 x2 x3 : Int32} (hj : j < 8) (hv : ∀ i, i < 8 → vo_at (wo_ei G0 (A 911) (64 + i)) (wo_el G0 (A 910) (64 + i)) (q.2.2.2 i)) (hfin : ∀ G', mf E ow m A (fun f i => (f = 910 ∨ f = 911) ∧ i / 8 = j) G0 G' → (∀ i, i < 8 → vo_at (wo_ei G' (A 911) (8 * j + i)) (wo_el G' (A 910) (8 * j + i)) (q.2.2.2 i)) → pq_Md_handle_198 E mc ms Post 1 G' c s m x1 x2 x3 (nI j) (nI 8)) : ∀ (k i : Nat) (G : wo_W), i + k = 8 → mf E ow m A (fun f i => (f = 910 ∨ f = 911) ∧ i / 8 = j) G0 G → (∀ x, x < i → vo_at (wo_ei G (A 911) (8 * j + x)) (wo_el G (A 910) (8 * j + x)) (q.2.2.2 x)) → pq_Md_handle_198 E mc ms Post (k + 1) G c s m x1 x2 x3 (nI j) (nI i) := by
  intro k
  induction k with
  | zero =>
    intro i G hi m0 h0
    have e : i = 8 := by omega
    subst e
    exact hfin G m0 h0
  | succ k ih =>
    intro i G hi m0 h0
    obtain ⟨y1, y2, y3⟩ := ix8 (j := j) (h := i) (by omega) (by omega)
    have v1 : vp_in (nI (64 + i)) 72 := vp_in_nI (by omega) (by decide)
    have c1 : (nI (64 + i)).toNatClampNeg = 64 + i := nI_clamp (by omega)
    have hvi := hv i (by omega)
    unfold pq_Md_handle_198
    rw [y1, show (64 : Int32) + nI i = nI (64 + i) from nI_add 64 i]
    refine ⟨fun w => absurd w (nI_ge (b := 8) (by omega) (by decide)), fun _ => ⟨m0.k.1, fun r hr => m0.k.rd (f := 910) (k := 73) (n := 72) (by decide) v1 (m0.k.wr (f := 910) (k := 73) (n := 72) (by decide) y3 (fun G1 e1 => ?_) r hr)⟩⟩
    rw [c1, y2, m0.el (f := 910) (k := 73) (n := 72) (by decide) (by omega)] at e1
    have m1 : mf E ow m A (fun f x => f = 910 ∧ x = 8 * j + i) G G1 := by rw [e1]; exact mf_sel m0.k m0.b (f := 910) (k := 73) (n := 72) (by decide) ⟨rfl, rfl⟩
    have w1 : wo_el G1 (A 910) (8 * j + i) = wo_el G0 (A 910) (64 + i) := by rw [e1, sel_at, if_pos rfl]
    refine fun r hr => m1.k.rd (f := 911) (k := 66) (n := 72) (by decide) v1 (m1.k.wr (f := 911) (k := 66) (n := 72) (by decide) y3 (fun G2 e2 => ?_) r hr)
    rw [c1, y2, m1.ei (f := 911) (k := 66) (n := 72) (by decide) (by omega), m0.ei (f := 911) (k := 66) (n := 72) (by decide) (by omega)] at e2
    have m2 : mf E ow m A (fun f x => f = 911 ∧ x = 8 * j + i) G1 G2 := by rw [e2]; exact mf_sei m1.k m1.b (f := 911) (k := 66) (n := 72) (by decide) ⟨rfl, rfl⟩
    have w2 : wo_ei G2 (A 911) (8 * j + i) = wo_ei G0 (A 911) (64 + i) := by rw [e2, sei_at, if_pos rfl]
    rw [nI_1]
    refine ih (i + 1) G2 (by omega) (m0.tr ((m1.mn (fun f x z => by omega)).tr (m2.mn (fun f x z => by omega)))) (fun x hx => ?_)
    by_cases z : x = i
    · rw [z, w2, m2.el (f := 910) (k := 73) (n := 72) (by decide) (by omega), w1]
      exact hvi
    · rw [m2.ei (f := 911) (k := 66) (n := 72) (by decide) (by omega), m1.ei (f := 911) (k := 66) (n := 72) (by decide) (by omega), m2.el (f := 910) (k := 73) (n := 72) (by decide) (by omega), m1.el (f := 910) (k := 73) (n := 72) (by decide) (by omega)]
      exact h0 x (by omega)
theorem sp_haNew {Post : wo_W → Prop} {fo : Option (Nat × Nat × sdT)} (hc2 : c < 2) (ht : t < 20) (h : md_k E ow m A G) (hbb : ow_b E ow G) (hb : mjs m A G rv W us o) (hs : mss m A G L n) (hfo : ∀ x, fo = some x → x ∈ L) (htag : ∀ x, fo = some x → 0 < x.2.2.1.2.2.1) (hj : j < 8) (hjn : j ∉ W.map (fun x => x.1)) (hju : ∀ u x, u < 2 → us u = some x → x.1 ≠ j) (hq : vq_at A G 8 q) (hrv : rv c t = q) (ho : o + 1 < 10 ^ 6) (hnow : wo_gi G 956 m = nI now) (k : Nat) (hp : ∀ G' W' us', mf E ow m A PJ G G' → mjs m A G' rv W' us' (o + 1) → wq (W', us') = sw_of now (wq (W ++ [(j, o + 1, (c, t, fo_g fo, 0, 0, none, 0, false))], us)) → Post G') : pq_Md_handle_109 E mc ms Post (k + 1) G 0 0 m (nI c) (nI t) (nz_I fo) (nI j) := by
  have vj8 : vp_in (nI j) 8 := vp_in_nI hj (by decide)
  have vj9 : vp_in (nI j) 9 := vp_in_nI (by omega) (by decide)
  have cj : (nI j).toNatClampNeg = j := nI_clamp (by omega)
  have v8 : vp_in (8 : Int32) 9 := vp_in_nI (n := 8) (by decide) (by decide)
  have c8 : (8 : Int32).toNatClampNeg = 8 := by decide
  have st0 := hb.2.2.1 j hj hjn hju
  obtain ⟨⟨kk, k1, k2, k3⟩, ⟨p1, p2, p3⟩, ⟨d1, d2, d3⟩, hv⟩ := hq
  unfold pq_Md_handle_109
  refine ⟨h.1, h.rd (f := 918) (k := 66) (n := 8) (by decide) vj8 ?_⟩
  rw [cj, st0, c8]
  refine ⟨fun _ r hr => h.rd (f := 907) (k := 66) (n := 9) (by decide) v8 (h.wr (f := 907) (k := 66) (n := 9) (by decide) vj9 (fun G1 e1 => ?_) r hr), fun w => absurd rfl w⟩
  rw [k3] at e1
  have m1 : mf E ow m A (fun f x => f = 907 ∧ x = j) G G1 := by rw [e1]; exact mf_sei h hbb (f := 907) (k := 66) (n := 9) (by decide) ⟨rfl, rfl⟩
  have v1 : wo_ei G1 (A 907) j = nI kk := by rw [e1, sei_at, if_pos rfl]
  refine fun r hr => m1.k.rd (f := 908) (k := 73) (n := 9) (by decide) v8 (m1.k.wr (f := 908) (k := 73) (n := 9) (by decide) vj9 (fun G2 e2 => ?_) r hr)
  rw [m1.el (f := 908) (k := 73) (n := 9) (by decide) (by omega), p1] at e2
  have m2 : mf E ow m A (fun f x => f = 908 ∧ x = j) G1 G2 := by rw [e2]; exact mf_sel m1.k m1.b (f := 908) (k := 73) (n := 9) (by decide) ⟨rfl, rfl⟩
  have v2 : wo_el G2 (A 908) j = pk_of q.2.1 := by rw [e2, sel_at, if_pos rfl]
  have n2 : mf E ow m A (fun f x => 907 ≤ f ∧ f ≤ 908 ∧ x = j) G G2 := (m1.mn (fun f i z => by omega)).tr (m2.mn (fun f i z => by omega))
  refine fun r hr => m2.k.rd (f := 909) (k := 66) (n := 9) (by decide) v8 (m2.k.wr (f := 909) (k := 66) (n := 9) (by decide) vj9 (fun G3 e3 => ?_) r hr)
  rw [n2.ei (f := 909) (k := 66) (n := 9) (by decide) (by omega), p2] at e3
  have m3 : mf E ow m A (fun f x => f = 909 ∧ x = j) G2 G3 := by rw [e3]; exact mf_sei m2.k m2.b (f := 909) (k := 66) (n := 9) (by decide) ⟨rfl, rfl⟩
  have v3 : wo_ei G3 (A 909) j = nI q.2.1.length := by rw [e3, sei_at, if_pos rfl]
  have n3 : mf E ow m A (fun f x => 907 ≤ f ∧ f ≤ 909 ∧ x = j) G G3 := (n2.mn (fun f i z => by omega)).tr (m3.mn (fun f i z => by omega))
  refine fun r hr => m3.k.rd (f := 912) (k := 73) (n := 9) (by decide) v8 (m3.k.wr (f := 912) (k := 73) (n := 9) (by decide) vj9 (fun G4 e4 => ?_) r hr)
  rw [n3.el (f := 912) (k := 73) (n := 9) (by decide) (by omega), d1] at e4
  have m4 : mf E ow m A (fun f x => f = 912 ∧ x = j) G3 G4 := by rw [e4]; exact mf_sel m3.k m3.b (f := 912) (k := 73) (n := 9) (by decide) ⟨rfl, rfl⟩
  have v4 : wo_el G4 (A 912) j = pk_of q.2.2.1 := by rw [e4, sel_at, if_pos rfl]
  have n4 : mf E ow m A (fun f x => (907 ≤ f ∧ f ≤ 909 ∨ f = 912) ∧ x = j) G G4 := (n3.mn (fun f i z => by omega)).tr (m4.mn (fun f i z => by omega))
  refine fun r hr => m4.k.rd (f := 913) (k := 66) (n := 9) (by decide) v8 (m4.k.wr (f := 913) (k := 66) (n := 9) (by decide) vj9 (fun G5 e5 => ⟨9, ?_⟩) r hr)
  rw [n4.ei (f := 913) (k := 66) (n := 9) (by decide) (by omega), d2] at e5
  have m5 : mf E ow m A (fun f x => f = 913 ∧ x = j) G4 G5 := by rw [e5]; exact mf_sei m4.k m4.b (f := 913) (k := 66) (n := 9) (by decide) ⟨rfl, rfl⟩
  have v5 : wo_ei G5 (A 913) j = nI q.2.2.1.length := by rw [e5, sei_at, if_pos rfl]
  have n5 : mf E ow m A (fun f x => (907 ≤ f ∧ f ≤ 909 ∨ f = 912 ∨ f = 913) ∧ x = j) G G5 := (n4.mn (fun f i z => by omega)).tr (m5.mn (fun f i z => by omega))
  refine sp_haCopy (q := q) hj (fun i hi => ?_) (fun G6 m6 v6 => ?_) 8 0 G5 rfl (mf.rf m5.k m5.b) (fun x hx => absurd hx (Nat.not_lt_zero _))
  · rw [n5.ei (f := 911) (k := 66) (n := 72) (by decide) (by omega), n5.el (f := 910) (k := 73) (n := 72) (by decide) (by omega)]
    exact hv i hi
  have n6 : mf E ow m A (fun f x => (907 ≤ f ∧ f ≤ 909 ∨ f = 912 ∨ f = 913) ∧ x = j ∨ (f = 910 ∨ f = 911) ∧ x / 8 = j) G G6 := (n5.mn (fun f i z => by omega)).tr (m6.mn (fun f i z => by omega))
  have q6 : vq_at A G6 j q := by
    refine ⟨⟨kk, k1, k2, ?_⟩, ⟨?_, ?_, p3⟩, ⟨?_, ?_, d3⟩, v6⟩
    · rw [m6.ei (f := 907) (k := 66) (n := 9) (by decide) (by omega), m5.ei (f := 907) (k := 66) (n := 9) (by decide) (by omega), m4.ei (f := 907) (k := 66) (n := 9) (by decide) (by omega), m3.ei (f := 907) (k := 66) (n := 9) (by decide) (by omega), m2.ei (f := 907) (k := 66) (n := 9) (by decide) (by omega)]; exact v1
    · rw [m6.el (f := 908) (k := 73) (n := 9) (by decide) (by omega), m5.el (f := 908) (k := 73) (n := 9) (by decide) (by omega), m4.el (f := 908) (k := 73) (n := 9) (by decide) (by omega), m3.el (f := 908) (k := 73) (n := 9) (by decide) (by omega)]; exact v2
    · rw [m6.ei (f := 909) (k := 66) (n := 9) (by decide) (by omega), m5.ei (f := 909) (k := 66) (n := 9) (by decide) (by omega), m4.ei (f := 909) (k := 66) (n := 9) (by decide) (by omega)]; exact v3
    · rw [m6.el (f := 912) (k := 73) (n := 9) (by decide) (by omega), m5.el (f := 912) (k := 73) (n := 9) (by decide) (by omega)]; exact v4
    · rw [m6.ei (f := 913) (k := 66) (n := 9) (by decide) (by omega)]; exact v5
  unfold pq_Md_handle_198
  refine ⟨fun _ => ⟨m6.k.1, m6.k.wr (f := 918) (k := 66) (n := 8) (by decide) vj8 (fun G7 e7 => ?_)⟩, fun w => absurd (by decide) w⟩
  rw [cj] at e7
  have m7 : mf E ow m A (fun f x => f = 918 ∧ x = j) G6 G7 := by rw [e7]; exact mf_sei m6.k m6.b (f := 918) (k := 66) (n := 8) (by decide) ⟨rfl, rfl⟩
  have v7 : wo_ei G7 (A 918) j = 1 := by rw [e7, sei_at, if_pos rfl]
  refine m7.k.wr (f := 919) (k := 66) (n := 8) (by decide) vj8 (fun G8 e8 => ?_)
  rw [cj] at e8
  have m8 : mf E ow m A (fun f x => f = 919 ∧ x = j) G7 G8 := by rw [e8]; exact mf_sei m7.k m7.b (f := 919) (k := 66) (n := 8) (by decide) ⟨rfl, rfl⟩
  have v8' : wo_ei G8 (A 919) j = nI c := by rw [e8, sei_at, if_pos rfl]
  refine m8.k.wr (f := 920) (k := 66) (n := 8) (by decide) vj8 (fun G9 e9 => ⟨m8.k.2.1, fun Ga ea => ?_⟩)
  rw [cj] at e9
  have m9 : mf E ow m A (fun f x => f = 920 ∧ x = j) G8 G9 := by rw [e9]; exact mf_sei m8.k m8.b (f := 920) (k := 66) (n := 8) (by decide) ⟨rfl, rfl⟩
  have v9 : wo_ei G9 (A 920) j = nI t := by rw [e9, sei_at, if_pos rfl]
  have g9 : wo_gi G9 928 m = nI o := by rw [m9.gi (fun i => by omega), m8.gi (fun i => by omega), m7.gi (fun i => by omega), n6.gi (fun i => by omega)]; exact hb.2.2.2.1
  rw [g9, nI_1] at ea
  have ma : mf E ow m A (fun f x => f = 928) G9 Ga := by rw [ea]; exact mf_si m9.k m9.b (f := 928) rfl
  have va : wo_gi Ga 928 m = nI (o + 1) := by rw [ea, si_at]
  refine ma.k.wr (f := 921) (k := 66) (n := 8) (by decide) vj8 (fun Gb eb => ?_)
  rw [cj, va] at eb
  have mb : mf E ow m A (fun f x => f = 921 ∧ x = j) Ga Gb := by rw [eb]; exact mf_sei ma.k ma.b (f := 921) (k := 66) (n := 8) (by decide) ⟨rfl, rfl⟩
  have vb : wo_ei Gb (A 921) j = nI (o + 1) := by rw [eb, sei_at, if_pos rfl]
  unfold pq_Md_handle_302
  refine ⟨mb.k.1, mb.k.wr (f := 925) (k := 72) (n := 8) (by decide) vj8 (fun Gc ec => ?_)⟩
  rw [cj, show vp_nar .boolean 0 = 0 by decide] at ec
  have mc' : mf E ow m A (fun f x => f = 925 ∧ x = j) Gb Gc := by rw [ec]; exact mf_sei mb.k mb.b (f := 925) (k := 72) (n := 8) (by decide) ⟨rfl, rfl⟩
  have vc : wo_ei Gc (A 925) j = 0 := by rw [ec, sei_at, if_pos rfl]
  have n7c : mf E ow m A (fun f x => 918 ≤ f ∧ f ≤ 928 ∧ f ≠ 924 ∧ (f = 928 ∨ x = j)) G6 Gc := (m7.mn (fun f i z => by omega)).tr ((m8.mn (fun f i z => by omega)).tr ((m9.mn (fun f i z => by omega)).tr ((ma.mn (fun f i z => by omega)).tr ((mb.mn (fun f i z => by omega)).tr (mc'.mn (fun f i z => by omega))))))
  have nc : mf E ow m A (Pjn j) G Gc := (n6.mn (fun f i z => by unfold Pjn Pj; omega)).tr (n7c.mn (fun f i z => by unfold Pjn Pj; omega))
  -- the last steps
  have fin : ∀ (bo : Bool) (cp : Nat) (Gx : wo_W), cp < 10 ^ 9 → decide (cp ≠ 0) = bo → (cp = fo_g fo) → mf E ow m A (fun f x => f = 924 ∧ x = j ∨ 929 ≤ f ∧ f ≤ 935 ∧ x = 20 + j) Gc Gx → wo_ei Gx (A 924) j = bo_I bo → (cp ≠ 0 → wo_ei Gx (A 932) (20 + j) = nI cp) → pq_Md_handle_340 E mc ms Post Gx 0 0 m := by
    intro bo cp Gx hcp ebo ecp mx vx tx
    unfold pq_Md_handle_340
    have nx : mf E ow m A (Pjn j) G Gx := nc.tr (mx.mn (fun f i z => by unfold Pjn Pj; omega))
    have q7 : vq_at A Gx j q := vq_r (vq_r q6 n7c (fun f i z => by omega)) mx (fun f i z => by omega)
    have hadd : mjs m A Gx rv (W ++ [(j, o + 1, (c, t, cp, 0, 0, none, 0, false))]) us (o + 1) := by
      refine mjs_add hb hj hjn hju nx ⟨?_, hc2, ?_, ht, by rw [hrv]; exact q7, by rw [ebo]; exact vx, tx, hcp, ?_⟩ rfl ?_ ?_ ?_ ho
      · rw [mx.ei (f := 919) (k := 66) (n := 8) (by decide) (by omega), mc'.ei (f := 919) (k := 66) (n := 8) (by decide) (by omega), mb.ei (f := 919) (k := 66) (n := 8) (by decide) (by omega), ma.ei (f := 919) (k := 66) (n := 8) (by decide) (by omega), m9.ei (f := 919) (k := 66) (n := 8) (by decide) (by omega)]; exact v8'
      · rw [mx.ei (f := 920) (k := 66) (n := 8) (by decide) (by omega), mc'.ei (f := 920) (k := 66) (n := 8) (by decide) (by omega), mb.ei (f := 920) (k := 66) (n := 8) (by decide) (by omega), ma.ei (f := 920) (k := 66) (n := 8) (by decide) (by omega)]; exact v9
      · rw [mx.ei (f := 925) (k := 72) (n := 8) (by decide) (by omega)]; exact vc
      · rw [mx.ei (f := 918) (k := 66) (n := 8) (by decide) (by omega), mc'.ei (f := 918) (k := 66) (n := 8) (by decide) (by omega), mb.ei (f := 918) (k := 66) (n := 8) (by decide) (by omega), ma.ei (f := 918) (k := 66) (n := 8) (by decide) (by omega), m9.ei (f := 918) (k := 66) (n := 8) (by decide) (by omega), m8.ei (f := 918) (k := 66) (n := 8) (by decide) (by omega)]; exact v7
      · rw [mx.ei (f := 921) (k := 66) (n := 8) (by decide) (by omega), mc'.ei (f := 921) (k := 66) (n := 8) (by decide) (by omega)]; exact vb
      · rw [mx.gi (fun i => by omega), mc'.gi (fun i => by omega), mb.gi (fun i => by omega)]; exact va
    refine ⟨mx.k.1, 0, 0, Nat.zero_le _, Nat.zero_le _, sp_msend mx.k mx.b hadd ?_ (fun G' W' us' m' b' e' => hp G' W' us' ((nx.mn (fun f i z => ?_)).tr (m'.mn (fun f i z => by unfold Psn at z; unfold PJ; omega))) b' (by rw [← ecp]; exact e'))⟩
    · rw [nx.gi (fun i z => by unfold Pjn Pj at z; omega)]; exact hnow
    · unfold Pjn Pj at z; unfold PJ; omega
  have h325 : ∀ (bo : Bool), (bo = true ↔ ∃ x, fo = some x) → ∀ r10 : Option Nat, r10 = wo_gr Gc 924 m → pq_Md_handle_325 E mc ms Post Gc 0 0 m (nz_I fo) (nI j) r10 (nI j) (bo_I bo) := by
    intro bo hbo r10 hr10
    unfold pq_Md_handle_325
    refine mc'.k.wr (f := 924) (k := 72) (n := 8) (by decide) vj8 (fun Gd ed => ?_) r10 hr10
    rw [cj, vp_b] at ed
    have md : mf E ow m A (fun f x => f = 924 ∧ x = j) Gc Gd := by rw [ed]; exact mf_sei mc'.k mc'.b (f := 924) (k := 72) (n := 8) (by decide) ⟨rfl, rfl⟩
    have vd : wo_ei Gd (A 924) j = bo_I bo := by rw [ed, sei_at, if_pos rfl]
    cases fo with
    | none =>
      have eb : bo = false := by
        cases bo with
        | false => rfl
        | true => obtain ⟨x, hx⟩ := hbo.mp rfl; cases hx
      refine ⟨fun _ => fin bo 0 Gd (by decide) (by rw [eb]; rfl) rfl (md.mn (fun f i z => by omega)) vd (fun z => absurd rfl z), fun w => absurd (by decide) w⟩
    | some x =>
      have eb : bo = true := hbo.mpr ⟨x, rfl⟩
      obtain ⟨a1, a2, a3, a4⟩ := hs.2.1 x (hfo x rfl)
      have hx0 := htag x rfl
      have rd : rr_at A Gd x.1 x.2.2.1 := (a2.1.mf nc (fun f hf z => by simp only [List.mem_cons, List.mem_nil_iff, or_false] at hf; unfold Pjn Pj at z; omega)).mf md (fun f hf z => by simp only [List.mem_cons, List.mem_nil_iff, or_false] at hf; omega)
      refine ⟨fun w => absurd w (nI_pos (by omega)), fun _ => ⟨md.k.1, 0, 0, Nat.zero_le _, Nat.zero_le _, ?_⟩⟩
      rw [show (20 : Int32) + nI j = nI (20 + j) from nI_add 20 j]
      refine sp_mcopy md.k md.b (by omega) (by omega) (by omega) rd (fun Ge me re => ?_)
      refine fin bo x.2.2.1.2.2.1 Ge a2.1.2.2.2.2.1 ?_ rfl ((md.mn (fun f i z => by omega)).tr (me.mn (fun f i z => by unfold Prr at z; omega))) ?_ (fun _ => re.2.2.2.1)
      · rw [eb]; exact decide_eq_true (by omega)
      · rw [me.ei (f := 924) (k := 72) (n := 8) (by decide) (fun z => by unfold Prr at z; omega)]; exact vd
  refine fun r10 hr10 => ⟨fun w => ?_, fun w => ?_⟩
  · cases fo with
    | none => exact h325 false ⟨fun z => (by cases z), fun ⟨x, z⟩ => (by cases z)⟩ r10 hr10
    | some x =>
      have := (hs.2.1 x (hfo x rfl)).1
      exact absurd w (nI_pos (n := x.1) (by omega))
  · cases fo with
    | none => exact absurd (by decide) w
    | some x => exact h325 true ⟨fun _ => ⟨x, rfl⟩, fun _ => rfl⟩ r10 hr10
end MD
