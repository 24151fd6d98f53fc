def dk (f : sdT → Bool) (i : Nat) (L : slT) : slT := L.filter (fun x => !(decide (x.1 < i) && f x.2.2))
theorem dk_0 {f : sdT → Bool} {L : slT} : dk f 0 L = L := by
  unfold dk
  exact List.filter_eq_self.mpr (fun x _ => by simp)
theorem dk_n {f : sdT → Bool} {L : slT} {k : Nat} (h : ∀ x ∈ L, x.1 < k) : (dk f k L).map (fun x => x.2.2) = dr_of f (L.map (fun x => x.2.2)) := by
  rw [dr_filter]
  unfold dk
  rw [List.filter_map]
  congr 1
  refine List.filter_congr (fun x hx => ?_)
  rw [decide_eq_true (h x hx)]
  rfl
theorem dk_s {f : sdT → Bool} {L : slT} {i : Nat} : dk f (i + 1) L = (dk f i L).filter (fun x => !(decide (x.1 = i) && f x.2.2)) := by
  unfold dk
  rw [List.filter_filter]
  refine List.filter_congr (fun x hx => ?_)
  by_cases z1 : x.1 < i
  · have z2 : ¬ x.1 = i := by omega
    have z3 : x.1 < i + 1 := by omega
    simp [z1, z2, z3]
  · by_cases z2 : x.1 = i
    · have z3 : x.1 < i + 1 := by omega
      simp [z2]
    · have z3 : ¬ x.1 < i + 1 := by omega
      simp [z1, z2, z3]
section MD
variable {E : wo_E} {mc ms m c s : Nat} {G0 G G1 G2 : wo_W} {ow : Nat → Nat} {A : Nat → Nat} {F K : Nat → Prop} {P Q : Nat → Nat → Prop} {L : slT} {n j : Nat} {q : rqT}
theorem mss_sub {p : Nat × Nat × sdT → Bool} (hb : mss m A G L n) (h : mf E ow m A P G G1) (hP : ∀ f i, P f i → f = 936) (h1 : ∀ k, k < 20 → wo_ei G1 (A 936) k = bo_I (decide (k ∈ (L.filter p).map (fun x => x.1)))) : mss m A G1 (L.filter p) n := by
  obtain ⟨b1, b2, b3, b4, b5, b6⟩ := hb
  refine ⟨b1.sublist (List.Sublist.map _ List.filter_sublist), fun x hx => ?_, h1, b4.sublist List.filter_sublist, ?_, b6⟩
  · obtain ⟨a1, a2, a3, a4⟩ := b2 x (List.mem_filter.mp hx).1
    refine ⟨a1, a2.mf h (fun f hf z => ?_) (fun f hf z => ?_), ?_, a4⟩
    · have := hP _ _ z; simp only [List.mem_cons, List.mem_nil_iff, or_false] at hf; omega
    · have := hP _ _ z; simp only [List.mem_cons, List.mem_nil_iff, or_false] at hf; omega
    · rw [h.ei (f := 943) (k := 66) (n := 20) (by decide) (fun z => by have := hP _ _ z; omega)]; exact a3
  · rw [h.gi (fun i z => by have := hP _ _ z; omega)]; exact b5
theorem mss_drop {f : sdT → Bool} {b : Bool} (h : md_k E ow m A G) (hbb : ow_b E ow G) (hb : mss m A G L n) (hs : s < 20) (hv : b = true ↔ ∃ x ∈ L, x.1 = s ∧ f x.2.2 = false) : mss m A (wo_sei G (A 936) s (bo_I b)) (L.filter (fun x => !(decide (x.1 = s) && f x.2.2))) n := by
  refine mss_sub hb (mf_sei (P := fun f i => f = 936 ∧ i = s) h hbb (f := 936) (k := 72) (n := 20) (by decide) ⟨rfl, rfl⟩) (fun f i z => z.1) (fun k hk => ?_)
  rw [sei_at]
  by_cases z : k = s
  · rw [if_pos z]
    congr 1
    apply Bool.eq_iff_iff.mpr
    rw [hv, decide_eq_true_iff, List.mem_map]
    constructor
    · rintro ⟨x, hx, e1, e2⟩
      exact ⟨x, List.mem_filter.mpr ⟨hx, by rw [e2]; simp⟩, by rw [e1, z]⟩
    · rintro ⟨x, hx, e1⟩
      obtain ⟨h1, h2⟩ := List.mem_filter.mp hx
      have e1 : x.1 = s := by rw [← z]; exact e1
      refine ⟨x, h1, e1, ?_⟩
      rw [decide_eq_true e1] at h2
      simpa using h2
  · rw [if_neg z, hb.2.2.1 k hk]
    congr 1
    apply Bool.eq_iff_iff.mpr
    rw [decide_eq_true_iff, decide_eq_true_iff, List.mem_map, List.mem_map]
    constructor
    · rintro ⟨x, hx, e1⟩
      have e1 : x.1 = k := e1
      exact ⟨x, List.mem_filter.mpr ⟨hx, by rw [decide_eq_false (fun y => z (e1.symm.trans y))]; rfl⟩, e1⟩
    · rintro ⟨x, hx, e1⟩
      exact ⟨x, (List.mem_filter.mp hx).1, e1⟩
theorem sp_mcopy {Post : wo_W → Prop} {a b : Nat} {p : rpT} (h : md_k E ow m A G) (hbb : ow_b E ow G) (ha : a < 40) (hb : b < 40) (hne : a ≠ b) (hr : rr_at A G a p) (hp : ∀ G', mf E ow m A (Prr b) G G' → rr_at A G' b p → Post G') : pq_Md_copy E mc ms Post G m (nI a) (nI b) := by
  have va : vp_in (nI a) 40 := vp_in_nI ha (by decide)
  have vb : vp_in (nI b) 40 := vp_in_nI hb (by decide)
  have ca : (nI a).toNatClampNeg = a := nI_clamp (by omega)
  have cb : (nI b).toNatClampNeg = b := nI_clamp (by omega)
  obtain ⟨r1, r2, ⟨r3, r4, r5⟩, r6, r7, ⟨r8, r9, r10⟩, r11⟩ := hr
  unfold pq_Md_copy pq_Md_copy_0
  refine ⟨h.1, fun r hr => h.rd (f := 929) (k := 66) (n := 40) (by decide) va (h.wr (f := 929) (k := 66) (n := 40) (by decide) vb (fun G1 e1 => ?_) r hr)⟩
  rw [ca, cb, r1] at e1
  have m1 : mf E ow m A (fun f i => f = 929 ∧ i = b) G G1 := by rw [e1]; exact mf_sei h hbb (f := 929) (k := 66) (n := 40) (by decide) ⟨rfl, rfl⟩
  have v1 : wo_ei G1 (A 929) b = nI p.1 := by rw [e1, sei_at, if_pos rfl]
  refine fun r hr => m1.k.rd (f := 930) (k := 73) (n := 40) (by decide) va (m1.k.wr (f := 930) (k := 73) (n := 40) (by decide) vb (fun G2 e2 => ?_) r hr)
  rw [ca, cb, m1.el (f := 930) (k := 73) (n := 40) (by decide) (by simp), r3] at e2
  have m2 : mf E ow m A (fun f i => f = 930 ∧ i = b) G1 G2 := by rw [e2]; exact mf_sel m1.k m1.b (f := 930) (k := 73) (n := 40) (by decide) ⟨rfl, rfl⟩
  have v2 : wo_el G2 (A 930) b = pk_of p.2.1 := by rw [e2, sel_at, if_pos rfl]
  have n2 : mf E ow m A (fun f i => 929 ≤ f ∧ f ≤ 930 ∧ i = b) G G2 := (m1.mn (fun f i z => by omega)).tr (m2.mn (fun f i z => by omega))
  refine fun r hr => m2.k.rd (f := 931) (k := 66) (n := 40) (by decide) va (m2.k.wr (f := 931) (k := 66) (n := 40) (by decide) vb (fun G3 e3 => ?_) r hr)
  rw [ca, cb, n2.ei (f := 931) (k := 66) (n := 40) (by decide) (by simp), r4] at e3
  have m3 : mf E ow m A (fun f i => f = 931 ∧ i = b) G2 G3 := by rw [e3]; exact mf_sei m2.k m2.b (f := 931) (k := 66) (n := 40) (by decide) ⟨rfl, rfl⟩
  have v3 : wo_ei G3 (A 931) b = nI p.2.1.length := by rw [e3, sei_at, if_pos rfl]
  have n3 : mf E ow m A (fun f i => 929 ≤ f ∧ f ≤ 931 ∧ i = b) G G3 := (n2.mn (fun f i z => by omega)).tr (m3.mn (fun f i z => by omega))
  refine fun r hr => m3.k.rd (f := 932) (k := 66) (n := 40) (by decide) va (m3.k.wr (f := 932) (k := 66) (n := 40) (by decide) vb (fun G4 e4 => ?_) r hr)
  rw [ca, cb, n3.ei (f := 932) (k := 66) (n := 40) (by decide) (by simp), r6] at e4
  have m4 : mf E ow m A (fun f i => f = 932 ∧ i = b) G3 G4 := by rw [e4]; exact mf_sei m3.k m3.b (f := 932) (k := 66) (n := 40) (by decide) ⟨rfl, rfl⟩
  have v4 : wo_ei G4 (A 932) b = nI p.2.2.1 := by rw [e4, sei_at, if_pos rfl]
  have n4 : mf E ow m A (fun f i => 929 ≤ f ∧ f ≤ 932 ∧ i = b) G G4 := (n3.mn (fun f i z => by omega)).tr (m4.mn (fun f i z => by omega))
  refine fun r hr => m4.k.rd (f := 933) (k := 73) (n := 40) (by decide) va (m4.k.wr (f := 933) (k := 73) (n := 40) (by decide) vb (fun G5 e5 => ?_) r hr)
  rw [ca, cb, n4.el (f := 933) (k := 73) (n := 40) (by decide) (by simp), r8] at e5
  have m5 : mf E ow m A (fun f i => f = 933 ∧ i = b) G4 G5 := by rw [e5]; exact mf_sel m4.k m4.b (f := 933) (k := 73) (n := 40) (by decide) ⟨rfl, rfl⟩
  have v5 : wo_el G5 (A 933) b = pk_of p.2.2.2.1 := by rw [e5, sel_at, if_pos rfl]
  have n5 : mf E ow m A (fun f i => 929 ≤ f ∧ f ≤ 933 ∧ i = b) G G5 := (n4.mn (fun f i z => by omega)).tr (m5.mn (fun f i z => by omega))
  refine fun r hr => m5.k.rd (f := 934) (k := 66) (n := 40) (by decide) va (m5.k.wr (f := 934) (k := 66) (n := 40) (by decide) vb (fun G6 e6 => ?_) r hr)
  rw [ca, cb, n5.ei (f := 934) (k := 66) (n := 40) (by decide) (by simp), r9] at e6
  have m6 : mf E ow m A (fun f i => f = 934 ∧ i = b) G5 G6 := by rw [e6]; exact mf_sei m5.k m5.b (f := 934) (k := 66) (n := 40) (by decide) ⟨rfl, rfl⟩
  have v6 : wo_ei G6 (A 934) b = nI p.2.2.2.1.length := by rw [e6, sei_at, if_pos rfl]
  have n6 : mf E ow m A (fun f i => 929 ≤ f ∧ f ≤ 934 ∧ i = b) G G6 := (n5.mn (fun f i z => by omega)).tr (m6.mn (fun f i z => by omega))
  refine fun r hr => m6.k.rd (f := 935) (k := 72) (n := 40) (by decide) va (m6.k.wr (f := 935) (k := 72) (n := 40) (by decide) vb (fun G7 e7 => ?_) r hr)
  rw [ca, cb, n6.ei (f := 935) (k := 72) (n := 40) (by decide) (by simp), r11, vp_b] at e7
  have m7 : mf E ow m A (fun f i => f = 935 ∧ i = b) G6 G7 := by rw [e7]; exact mf_sei m6.k m6.b (f := 935) (k := 72) (n := 40) (by decide) ⟨rfl, rfl⟩
  have v7 : wo_ei G7 (A 935) b = bo_I p.2.2.2.2 := by rw [e7, sei_at, if_pos rfl]
  have b6 : mf E ow m A (fun f i => 934 < f) G6 G7 := m7.mn (fun f i z => by omega)
  have b5 : mf E ow m A (fun f i => 933 < f) G5 G7 := (m6.mn (fun f i z => by omega)).tr (b6.mn (fun f i z => by omega))
  have b4 : mf E ow m A (fun f i => 932 < f) G4 G7 := (m5.mn (fun f i z => by omega)).tr (b5.mn (fun f i z => by omega))
  have b3 : mf E ow m A (fun f i => 931 < f) G3 G7 := (m4.mn (fun f i z => by omega)).tr (b4.mn (fun f i z => by omega))
  have b2 : mf E ow m A (fun f i => 930 < f) G2 G7 := (m3.mn (fun f i z => by omega)).tr (b3.mn (fun f i z => by omega))
  have b1 : mf E ow m A (fun f i => 929 < f) G1 G7 := (m2.mn (fun f i z => by omega)).tr (b2.mn (fun f i z => by omega))
  refine hp G7 ((n6.mn (fun f i z => by unfold Prr; omega)).tr (m7.mn (fun f i z => by unfold Prr; omega))) ⟨?_, r2, ⟨?_, ?_, r5⟩, ?_, r7, ⟨?_, ?_, r10⟩, ?_⟩
  · rw [b1.ei (f := 929) (k := 66) (n := 40) (by decide) (by simp)]; exact v1
  · rw [b2.el (f := 930) (k := 73) (n := 40) (by decide) (by simp)]; exact v2
  · rw [b3.ei (f := 931) (k := 66) (n := 40) (by decide) (by simp)]; exact v3
  · rw [b4.ei (f := 932) (k := 66) (n := 40) (by decide) (by simp)]; exact v4
  · rw [b5.el (f := 933) (k := 73) (n := 40) (by decide) (by simp)]; exact v5
  · rw [b6.ei (f := 934) (k := 66) (n := 40) (by decide) (by simp)]; exact v6
  · exact v7
end MD
