def Pres (k : Nat) : Nat → Nat → Prop := fun f i => 945 ≤ f ∧ f ≤ 949 ∧ i = k ∨ 950 ≤ f ∧ f ≤ 952 ∧ i / 3 = k
theorem nd_full {l : List Nat} {n : Nat} (h : l.Nodup) (h2 : ∀ x ∈ l, x < n) (h3 : ∀ k, k < n → k ∈ l) : l.length = n := by
  rw [← (rg_filter h h2).length_eq, List.filter_eq_self.mpr (fun a ha => decide_eq_true (h3 a (List.mem_range.mp ha)))]
  exact List.length_range
theorem nd_free {l : List Nat} {n k : Nat} (h : l.Nodup) (h2 : ∀ x ∈ l, x < n) (hk : k < n) (h3 : k ∉ l) : l.length < n := by
  have h4 : (k :: l).Nodup := List.nodup_cons.mpr ⟨h3, h⟩
  have h5 : ∀ x ∈ k :: l, x < n := fun x hx => by
    rcases List.mem_cons.mp hx with e | e
    · rw [e]; exact hk
    · exact h2 x e
  have h6 := (rg_filter h4 h5).length_eq
  have h7 : ((List.range n).filter (fun x => decide (x ∈ k :: l))).length ≤ (List.range n).length := List.length_filter_le _ _
  rw [h6, List.length_range] at h7
  exact h7
section MD
variable {E : wo_E} {mc ms m c s : Nat} {G0 G G1 G2 : wo_W} {ow : Nat → Nat} {A : Nat → Nat} {F K : Nat → Prop} {u : List Nat} {P Q : Nat → Nat → Prop}
theorem sp_freTags {Post : Int32 → wo_W → Prop} {k : Nat} (hk : k < 6) : ∀ (n l : Nat) (G : wo_W), l + n = 3 → mf E ow m A (Pres k) G0 G → (∀ x, x < l → wo_ei G (A 952) (3 * k + x) = 0) → (∀ G', mf E ow m A (fun f i => f = 952 ∧ i / 3 = k) G G' → mf E ow m A (Pres k) G0 G' → (∀ x, x < 3 → wo_ei G' (A 952) (3 * k + x) = 0) → Post (nI k) G') → pq_Md_freshResource_50 E mc ms Post (n + 1) G 0 0 m (nI k) (nI l) := by
  intro n
  induction n with
  | zero =>
    intro l G hl m0 h0 hp
    have e : l = 3 := by omega
    subst e
    unfold pq_Md_freshResource_50
    exact ⟨fun _ => hp G (mf.rf m0.k m0.b) m0 h0, fun w => absurd (by decide) w⟩
  | succ n ih =>
    intro l G hl m0 h0 hp
    obtain ⟨i1, i2, i3⟩ := ix3 (l := l) hk (by omega)
    unfold pq_Md_freshResource_50
    refine ⟨fun w => absurd w (nI_lit3 (by omega)), fun _ => ⟨m0.k.1, ?_⟩⟩
    rw [i1]
    refine m0.k.wr (f := 952) (k := 66) (n := 18) (by decide) i3 (fun G1 e1 => ?_)
    rw [i2] at e1
    have m1 : mf E ow m A (fun f i => f = 952 ∧ i / 3 = k) G G1 := by rw [e1]; exact mf_sei m0.k m0.b (f := 952) (k := 66) (n := 18) (by decide) ⟨rfl, by omega⟩
    rw [nI_1]
    refine ih (l + 1) G1 (by omega) (m0.tr (m1.mn (fun f i z => by unfold Pres; omega))) (fun x hx => ?_) (fun G' m' => hp G' (m1.tr m'))
    rw [e1, sei_at]
    by_cases z : x = l
    · rw [if_pos (by omega)]
    · rw [if_neg (by omega)]; exact h0 x (by omega)
theorem sp_fresh {Post : Int32 → wo_W → Prop} {L : rlT} {j : Nat} {pa : List Nat} (h : md_k E ow m A G) (hb : ow_b E ow G) (hk : mrs A G L) (hj : j < 9) (hq : pt_ok (wo_el G (A 908) j) (wo_ei G (A 909) j) pa) (hp1 : 6 ≤ L.length → Post (-1) G) (hp2 : ∀ k, k < 6 → k ∉ L.map (fun x => x.1) → L.length < 6 → ∀ G', mf E ow m A (Pres k) G G' → wo_ei G' (A 945) k = 1 → pt_ok (wo_el G' (A 946) k) (wo_ei G' (A 947) k) pa → (∀ l, l < 3 → wo_ei G' (A 952) (3 * k + l) = 0) → Post (nI k) G') : pq_Md_freshResource E mc ms Post G m (nI j) := by
  obtain ⟨b1, b2, b3⟩ := hk
  have hlt : ∀ x ∈ L.map (fun x => x.1), x < 6 := fun x hx => by
    obtain ⟨y, hy, e⟩ := List.mem_map.mp hx
    rw [← e]
    exact (b2 y hy).1
  have vj : vp_in (nI j) 9 := vp_in_nI hj (by decide)
  have cj : (nI j).toNatClampNeg = j := nI_clamp (by omega)
  have key : ∀ (k i : Nat), i + k = 6 → (∀ x, x < i → x ∈ L.map (fun x => x.1)) → pq_Md_freshResource_2 E mc ms Post (k + 1) G 0 0 m (nI j) (nI i) := by
    intro k
    induction k with
    | zero =>
      intro i hi hall
      have e : i = 6 := by omega
      subst e
      unfold pq_Md_freshResource_2
      refine ⟨fun _ => hp1 ?_, fun w => absurd (by decide) w⟩
      have := nd_full b1 hlt hall
      rw [List.length_map] at this
      omega
    | succ k ih =>
      intro i hi hall
      have vi : vp_in (nI i) 6 := vp_in_nI (by omega) (by decide)
      have ci : (nI i).toNatClampNeg = i := nI_clamp (by omega)
      unfold pq_Md_freshResource_2
      refine ⟨fun w => absurd w (nI_ge (b := 6) (by omega) (by decide)), fun _ => ⟨h.1, h.rd (f := 945) (k := 72) (n := 6) (by decide) vi ?_⟩⟩
      rw [ci, cj, b3 i (by omega)]
      by_cases z : i ∈ L.map (fun x => x.1)
      · rw [decide_eq_true z, nI_1]
        refine ⟨fun _ => ih (i + 1) (by omega) (fun x hx => ?_), fun w => absurd w (by decide)⟩
        by_cases y : x = i
        · rw [y]; exact z
        · exact hall x (by omega)
      · rw [decide_eq_false z]
        refine ⟨fun w => absurd rfl w, fun _ => h.wr (f := 945) (k := 72) (n := 6) (by decide) vi (fun G1 e1 => ?_)⟩
        have m1 : mf E ow m A (fun f x => f = 945 ∧ x = i) G G1 := by rw [e1]; exact mf_sei h hb (f := 945) (k := 72) (n := 6) (by decide) ⟨rfl, rfl⟩
        have v1 : wo_ei G1 (A 945) i = 1 := by rw [e1, sei_at, if_pos rfl]; decide
        refine fun r15 hr15 => m1.k.rd (f := 908) (k := 73) (n := 9) (by decide) vj (m1.k.wr (f := 946) (k := 73) (n := 6) (by decide) vi (fun G2 e2 => ?_) r15 hr15)
        rw [m1.el (f := 908) (k := 73) (n := 9) (by decide) (by simp), hq.1] at e2
        have m2 : mf E ow m A (fun f x => f = 946 ∧ x = i) G1 G2 := by rw [e2]; exact mf_sel m1.k m1.b (f := 946) (k := 73) (n := 6) (by decide) ⟨rfl, rfl⟩
        have v2 : wo_el G2 (A 946) i = pk_of pa := by rw [e2, sel_at, if_pos rfl]
        have n2 : mf E ow m A (fun f x => 945 ≤ f ∧ f ≤ 946 ∧ x = i) G G2 := (m1.mn (fun f i z => by omega)).tr (m2.mn (fun f i z => by omega))
        refine fun r28 hr28 => m2.k.rd (f := 909) (k := 66) (n := 9) (by decide) vj (m2.k.wr (f := 947) (k := 66) (n := 6) (by decide) vi (fun G3 e3 => ⟨4, ?_⟩) r28 hr28)
        rw [n2.ei (f := 909) (k := 66) (n := 9) (by decide) (by simp), hq.2.1] at e3
        have m3 : mf E ow m A (fun f x => f = 947 ∧ x = i) G2 G3 := by rw [e3]; exact mf_sei m2.k m2.b (f := 947) (k := 66) (n := 6) (by decide) ⟨rfl, rfl⟩
        have v3 : wo_ei G3 (A 947) i = nI pa.length := by rw [e3, sei_at, if_pos rfl]
        have n3 : mf E ow m A (fun f x => 945 ≤ f ∧ f ≤ 947 ∧ x = i) G G3 := (n2.mn (fun f i z => by omega)).tr (m3.mn (fun f i z => by omega))
        refine sp_freTags (G0 := G) (by omega) 3 0 G3 rfl (n3.mn (fun f i z => by unfold Pres; omega)) (fun x hx => absurd hx (Nat.not_lt_zero _)) (fun G' m' m'' ht => ?_)
        refine hp2 i (by omega) z ?_ G' m'' ?_ ⟨?_, ?_, hq.2.2⟩ ht
        · have := nd_free b1 hlt (by omega) z
          rw [List.length_map] at this
          exact this
        · rw [m'.ei (f := 945) (k := 72) (n := 6) (by decide) (by simp), m3.ei (f := 945) (k := 72) (n := 6) (by decide) (by simp), m2.ei (f := 945) (k := 72) (n := 6) (by decide) (by simp)]; exact v1
        · rw [m'.el (f := 946) (k := 73) (n := 6) (by decide) (by simp), m3.el (f := 946) (k := 73) (n := 6) (by decide) (by simp)]; exact v2
        · rw [m'.ei (f := 947) (k := 66) (n := 6) (by decide) (by simp)]; exact v3
  unfold pq_Md_freshResource pq_Md_freshResource_0
  exact ⟨7, key 6 0 rfl (fun x hx => absurd hx (Nat.not_lt_zero _))⟩
def nt_b (bd : List Nat) (tg : Nat) : Option (List Nat × Nat) → Nat × Nat
  | none => (tg + 1, tg + 1)
  | some r => if r.1 = bd then (r.2, tg) else (tg + 1, tg + 1)
def st_b : Option (List Nat × Nat) → Nat
  | none => 201
  | some _ => 204
def Pset (k j : Nat) : Nat → Nat → Prop := fun f i => 948 ≤ f ∧ f ≤ 949 ∧ i = k ∨ 950 ≤ f ∧ f ≤ 952 ∧ i / 3 = k ∨ f = 957 ∨ f = 927 ∧ i = j
theorem vq_r {j : Nat} {q : rqT} (hq : vq_at A G j q) (h : mf E ow m A P G G1) (hP : ∀ f i, P f i → 914 ≤ f) : vq_at A G1 j q :=
  hq.mf h (fun f hf z => by have := hP f j z; simp only [List.mem_cons, List.mem_nil_iff, or_false] at hf; omega) (fun i _ => ⟨fun z => by have := hP _ _ z; omega, fun z => by have := hP _ _ z; omega⟩)
theorem sp_ch269 {Post : Int32 → wo_W → Prop} {k j n g : Nat} {q : rqT} {o : Option (List Nat × Nat)} {pa : List Nat} {bt : btT} (hc : c ≤ mc) (hs : s ≤ ms) (h : md_k E ow m A G) (hb : ow_b E ow G) (hk : k < 6) (hn : n < 3) (hj : j < 9) (hq : vq_at A G j q) (hpa : pt_ok (wo_el G (A 946) k) (wo_ei G (A 947) k) pa) (hbt : ∀ l, l < 3 → l ≠ n → bt_at A G k l (bt l)) (hg : wo_ei G (A 952) (3 * k + n) = nI g) (hg0 : 0 < g) (hg9 : g < 10 ^ 9) {x6 : Int32} (h6 : x6 = 0 ↔ o = none) (hp : ∀ G', mf E ow m A (Pset k j) G G' → mro A G' k (pa, (q.2.2.2 7).getD [], bu_of bt n (q.2.2.1, g)) → wo_ei G' (A 927) j = nI g → wo_gi G' 957 m = wo_gi G 957 m → Post (nI (st_b o)) G') : pq_Md_change_269 E mc ms Post G c s m (nI j) (nI k) x6 (nI (3 * k + n)) := by
  obtain ⟨i1, i2, i3⟩ := ix3 hk hn
  have vj : vp_in (nI j) 9 := vp_in_nI hj (by decide)
  have cj : (nI j).toNatClampNeg = j := nI_clamp (by omega)
  have vk : vp_in (nI k) 6 := vp_in_nI hk (by decide)
  have ck : (nI k).toNatClampNeg = k := nI_clamp (by omega)
  obtain ⟨y1, y2, y3⟩ := ix8 (h := 7) hj (by decide)
  have hbd := hq.2.2.1
  unfold pq_Md_change_269
  rw [show (7 : Int32) = nI 7 from rfl, y1]
  refine ⟨h.1, fun r2 hr2 => h.rd (f := 912) (k := 73) (n := 9) (by decide) vj (h.wr (f := 950) (k := 73) (n := 18) (by decide) i3 (fun G1 e1 => ?_) r2 hr2)⟩
  rw [i2, cj, hbd.1] at e1
  have m1 : mf E ow m A (fun f x => f = 950 ∧ x = 3 * k + n) G G1 := by rw [e1]; exact mf_sel h hb (f := 950) (k := 73) (n := 18) (by decide) ⟨rfl, rfl⟩
  have v1 : wo_el G1 (A 950) (3 * k + n) = pk_of q.2.2.1 := by rw [e1, sel_at, if_pos rfl]
  refine fun r15 hr15 => m1.k.rd (f := 913) (k := 66) (n := 9) (by decide) vj (m1.k.wr (f := 951) (k := 66) (n := 18) (by decide) i3 (fun G2 e2 => ?_) r15 hr15)
  rw [i2, cj, m1.ei (f := 913) (k := 66) (n := 9) (by decide) (by simp), hbd.2.1] at e2
  have m2 : mf E ow m A (fun f x => f = 951 ∧ x = 3 * k + n) G1 G2 := by rw [e2]; exact mf_sei m1.k m1.b (f := 951) (k := 66) (n := 18) (by decide) ⟨rfl, rfl⟩
  have v2 : wo_ei G2 (A 951) (3 * k + n) = nI q.2.2.1.length := by rw [e2, sei_at, if_pos rfl]
  have n2 : mf E ow m A (fun f x => 950 ≤ f ∧ f ≤ 951 ∧ x = 3 * k + n) G G2 := (m1.mn (fun f i z => by omega)).tr (m2.mn (fun f i z => by omega))
  have q2 := vq_r hq n2 (fun f i z => by omega)
  have hpo : ∃ (pv : Int64) (pl : Int32), pt_ok pv pl ((q.2.2.2 7).getD []) ∧ (∀ t, q.2.2.2 7 = some t → wo_el G (A 910) (8 * j + 7) = pv ∧ wo_ei G (A 911) (8 * j + 7) = pl) ∧ (q.2.2.2 7 = none → pv = 0 ∧ pl = 0) := by
    have vo := hq.2.2.2 7 (by decide)
    cases e : q.2.2.2 7 with
    | none => exact ⟨0, 0, ⟨rfl, rfl, by simp, fun c hc => (by cases hc)⟩, fun t ht => (by cases ht), fun _ => ⟨rfl, rfl⟩⟩
    | some t =>
      rw [e] at vo
      obtain ⟨w1, w2, w3, w4⟩ := vo
      exact ⟨pk_of t, nI t.length, ⟨rfl, rfl, w3, w4⟩, fun _ _ => ⟨w2, w1⟩, fun z => (by cases z)⟩
  obtain ⟨pv, pl, hpt, hp_s, hp_n⟩ := hpo
  have h326 : ∀ c s, c ≤ mc → s ≤ ms → ∀ r28 : Option Nat, r28 = wo_gr G2 948 m → pq_Md_change_326 E mc ms Post G2 c s m (nI j) (nI k) x6 (nI (3 * k + n)) r28 (nI k) pv := by
    intro c s hc hs r28 hr28
    unfold pq_Md_change_326
    rw [show (7 : Int32) = nI 7 from rfl, y1]
    refine m2.k.wr (f := 948) (k := 73) (n := 6) (by decide) vk (fun G3 e3 => ⟨?_, fun r8 hr8 => ?_⟩) r28 hr28
    all_goals
      rw [ck] at e3
      have m3 : mf E ow m A (fun f x => f = 948 ∧ x = k) G2 G3 := by rw [e3]; exact mf_sel m2.k m2.b (f := 948) (k := 73) (n := 6) (by decide) ⟨rfl, rfl⟩
    · exact m3.k.1
    · have v3 : wo_el G3 (A 948) k = pv := by rw [e3, sel_at, if_pos rfl]
      have q3 := vq_r q2 m3 (fun f i z => by omega)
      have h358 : ∀ c s, pq_Md_change_358 E mc ms Post G3 c s m (nI j) x6 (nI (3 * k + n)) r8 (nI k) pl := by
        intro c s
        unfold pq_Md_change_358 pq_Md_change_386
        refine m3.k.wr (f := 949) (k := 66) (n := 6) (by decide) vk (fun G4 e4 => ⟨?_, fun r8 hr8 => ?_⟩) r8 hr8
        all_goals
          rw [ck] at e4
          have m4 : mf E ow m A (fun f x => f = 949 ∧ x = k) G3 G4 := by rw [e4]; exact mf_sei m3.k m3.b (f := 949) (k := 66) (n := 6) (by decide) ⟨rfl, rfl⟩
        · exact m4.k.1
        · have v4 : wo_ei G4 (A 949) k = pl := by rw [e4, sei_at, if_pos rfl]
          have n4 : mf E ow m A (fun f x => 948 ≤ f ∧ f ≤ 949 ∧ x = k ∨ 950 ≤ f ∧ f ≤ 951 ∧ x = 3 * k + n) G G4 := (n2.mn (fun f i z => by omega)).tr ((m3.mn (fun f i z => by omega)).tr (m4.mn (fun f i z => by omega)))
          have g4 : wo_ei G4 (A 952) (3 * k + n) = nI g := by rw [n4.ei (f := 952) (k := 66) (n := 18) (by decide) (by omega)]; exact hg
          refine m4.k.rd (f := 952) (k := 66) (n := 18) (by decide) i3 (m4.k.wr (f := 927) (k := 66) (n := 9) (by decide) vj (fun G5 e5 => ?_) r8 hr8)
          rw [i2, cj, g4] at e5
          have m5 : mf E ow m A (fun f x => f = 927 ∧ x = j) G4 G5 := by rw [e5]; exact mf_sei m4.k m4.b (f := 927) (k := 66) (n := 9) (by decide) ⟨rfl, rfl⟩
          have v5 : wo_ei G5 (A 927) j = nI g := by rw [e5, sei_at, if_pos rfl]
          have n5 : mf E ow m A (fun f x => 948 ≤ f ∧ f ≤ 949 ∧ x = k ∨ 950 ≤ f ∧ f ≤ 951 ∧ x = 3 * k + n ∨ f = 927 ∧ x = j) G G5 := (n4.mn (fun f i z => by omega)).tr (m5.mn (fun f i z => by omega))
          have fin : Post (nI (st_b o)) G5 := by
            refine hp G5 (n5.mn (fun f i z => by unfold Pset; omega)) ⟨?_, ?_, fun l hl => ?_⟩ v5 (n5.gi (fun i => by omega))
            · rw [n5.el (f := 946) (k := 73) (n := 6) (by decide) (by omega), n5.ei (f := 947) (k := 66) (n := 6) (by decide) (by omega)]; exact hpa
            · rw [m5.el (f := 948) (k := 73) (n := 6) (by decide) (by omega), m4.el (f := 948) (k := 73) (n := 6) (by decide) (by omega), v3, m5.ei (f := 949) (k := 66) (n := 6) (by decide) (by omega), v4]; exact hpt
            · show bt_at A G5 k l (if l = n then some (q.2.2.1, g) else bt l)
              by_cases z : l = n
              · rw [if_pos z, z]
                refine ⟨⟨?_, ?_, hbd.2.2⟩, ?_, hg0, hg9⟩
                · rw [m5.el (f := 950) (k := 73) (n := 18) (by decide) (by omega), m4.el (f := 950) (k := 73) (n := 18) (by decide) (by omega), m3.el (f := 950) (k := 73) (n := 18) (by decide) (by omega), m2.el (f := 950) (k := 73) (n := 18) (by decide) (by omega)]; exact v1
                · rw [m5.ei (f := 951) (k := 66) (n := 18) (by decide) (by omega), m4.ei (f := 951) (k := 66) (n := 18) (by decide) (by omega), m3.ei (f := 951) (k := 66) (n := 18) (by decide) (by omega)]; exact v2
                · rw [m5.ei (f := 952) (k := 66) (n := 18) (by decide) (by omega)]; exact g4
              · rw [if_neg z]
                exact (hbt l hl z).mf n5 (fun f hf => by simp only [List.mem_cons, List.mem_nil_iff, or_false] at hf; omega)
          refine ⟨fun w => ?_, fun w => ?_⟩
          · have : st_b o = 204 := by
              cases e : o with
              | none => exact absurd (h6.mpr e) w
              | some _ => rfl
            rw [this] at fin
            exact fin
          · have : st_b o = 201 := by rw [h6.mp w]; rfl
            rw [this] at fin
            exact fin
      refine ⟨0, 0, hc, hs, sp_has (h := 7) m3.k q3 hj (by decide) ?_⟩
      cases e : q.2.2.2 7 with
      | none =>
        have := (hp_n e).2
        rw [← this]
        exact ⟨fun _ => h358 _ _, fun w => absurd (by rw [this]; rfl) w⟩
      | some t =>
        refine ⟨fun w => absurd w bo_s, fun _ => ⟨m3.k.1, m3.k.rd (f := 911) (k := 66) (n := 72) (by decide) y3 ?_⟩⟩
        rw [y2, m3.ei (f := 911) (k := 66) (n := 72) (by decide) (by omega), n2.ei (f := 911) (k := 66) (n := 72) (by decide) (by omega), (hp_s t e).2]
        exact h358 _ _
  refine fun r28 hr28 => ⟨0, 0, hc, hs, sp_has (h := 7) m2.k q2 hj (by decide) ?_⟩
  cases e : q.2.2.2 7 with
  | none =>
    have e0 := (hp_n e).1
    refine ⟨fun _ => ?_, fun w => absurd rfl w⟩
    rw [← e0]
    exact h326 _ _ hc hs r28 hr28
  | some t =>
    refine ⟨fun w => absurd w bo_s, fun _ => ⟨m2.k.1, m2.k.rd (f := 910) (k := 73) (n := 72) (by decide) y3 ?_⟩⟩
    rw [y2, n2.el (f := 910) (k := 73) (n := 72) (by decide) (by omega), (hp_s t e).1]
    exact h326 _ _ hc hs r28 hr28
end MD
