def PS2 : Nat → Nat → Prop := fun f i => 936 ≤ f ∧ f ≤ 944 ∨ 929 ≤ f ∧ f ≤ 935 ∧ i < 20
section MD
variable {E : wo_E} {mc ms m c s : Nat} {G0 G G1 G2 : wo_W} {ow : Nat → Nat} {A : Nat → Nat} {F K : Nat → Prop} {P Q : Nat → Nat → Prop} {L : slT} {n j : Nat} {q : rqT} {p : rpT}
theorem sp_stFill {Post : wo_W → Prop} {i sz sa : Nat} (hc : c ≤ mc) (hs : s ≤ ms) (h : md_k E ow m A G) (hbb : ow_b E ow G) (hb : mss m A G L n) (hj : j < 8) (hq : vq_at A G j q) (hr : rr_at A G (30 + j) p) (hsa : wo_ei G (A 923) j = nI sa) (hn : n + 1 < 10 ^ 6) (hi : i < 20) (hin : i ∉ L.map (fun x => x.1)) (k : Nat) (hp : ∀ G', mf E ow m A PS2 G G' → mss m A G' (L ++ [(i, n + 1, (p, q.2.1, q.2.2.2 5, sa, sz))]) (n + 1) → Post G') : pq_Md_store_229 E mc ms Post (k + 1) G c s m (nI j) (nI (30 + j)) (nI sz) (nI i) := by
  have vi : vp_in (nI i) 20 := vp_in_nI hi (by decide)
  have ci : (nI i).toNatClampNeg = i := nI_clamp (by omega)
  have vj9 : vp_in (nI j) 9 := vp_in_nI (by omega) (by decide)
  have vj8 : vp_in (nI j) 8 := vp_in_nI hj (by decide)
  have cj : (nI j).toNatClampNeg = j := nI_clamp (by omega)
  obtain ⟨y1, y2, y3⟩ := ix8 (j := j) (h := 5) (by omega) (by decide)
  have hb3 := hb.2.2.1 i hi
  rw [decide_eq_false hin] at hb3
  have hpa := hq.2.1
  have hvo := hq.2.2.2 5 (by decide)
  unfold pq_Md_store_229 pq_Md_store_335
  rw [show (5 : Int32) = nI 5 from rfl, y1]
  refine ⟨h.1, h.rd (f := 936) (k := 72) (n := 20) (by decide) vi ?_⟩
  rw [ci, hb3]
  refine ⟨fun _ => ⟨0, 0, hc, hs, sp_mcopy h hbb (by omega) (by omega) (by omega) hr (fun G1 m1 r1 => ⟨m1.k.1, m1.k.wr (f := 936) (k := 72) (n := 20) (by decide) vi (fun G2 e2 => ?_)⟩)⟩, fun w => absurd rfl w⟩
  have m2 : mf E ow m A (fun f x => f = 936 ∧ x = i) G1 G2 := by rw [e2]; exact mf_sei m1.k m1.b (f := 936) (k := 72) (n := 20) (by decide) ⟨rfl, rfl⟩
  have v2 : wo_ei G2 (A 936) i = 1 := by rw [e2, sei_at, if_pos rfl]; decide
  have n2 : mf E ow m A (fun f x => 929 ≤ f ∧ f ≤ 936 ∧ x = i) G G2 := (m1.mn (fun f i z => by unfold Prr at z; omega)).tr (m2.mn (fun f i z => by omega))
  refine fun r hr => m2.k.rd (f := 908) (k := 73) (n := 9) (by decide) vj9 (m2.k.wr (f := 937) (k := 73) (n := 20) (by decide) vi (fun G3 e3 => ?_) r hr)
  rw [cj, n2.el (f := 908) (k := 73) (n := 9) (by decide) (by omega), hpa.1] at e3
  have m3 : mf E ow m A (fun f x => f = 937 ∧ x = i) G2 G3 := by rw [e3]; exact mf_sel m2.k m2.b (f := 937) (k := 73) (n := 20) (by decide) ⟨rfl, rfl⟩
  have v3 : wo_el G3 (A 937) i = pk_of q.2.1 := by rw [e3, sel_at, if_pos rfl]
  have n3 : mf E ow m A (fun f x => 929 ≤ f ∧ f ≤ 937 ∧ x = i) G G3 := (n2.mn (fun f i z => by omega)).tr (m3.mn (fun f i z => by omega))
  refine fun r hr => m3.k.rd (f := 909) (k := 66) (n := 9) (by decide) vj9 (m3.k.wr (f := 938) (k := 66) (n := 20) (by decide) vi (fun G4 e4 => ?_) r hr)
  rw [cj, n3.ei (f := 909) (k := 66) (n := 9) (by decide) (by omega), hpa.2.1] at e4
  have m4 : mf E ow m A (fun f x => f = 938 ∧ x = i) G3 G4 := by rw [e4]; exact mf_sei m3.k m3.b (f := 938) (k := 66) (n := 20) (by decide) ⟨rfl, rfl⟩
  have v4 : wo_ei G4 (A 938) i = nI q.2.1.length := by rw [e4, sei_at, if_pos rfl]
  have n4 : mf E ow m A (fun f x => 929 ≤ f ∧ f ≤ 938 ∧ x = i) G G4 := (n3.mn (fun f i z => by omega)).tr (m4.mn (fun f i z => by omega))
  refine fun r hr => m4.k.rd (f := 910) (k := 73) (n := 72) (by decide) y3 (m4.k.wr (f := 939) (k := 73) (n := 20) (by decide) vi (fun G5 e5 => ?_) r hr)
  rw [y2, n4.el (f := 910) (k := 73) (n := 72) (by decide) (by omega)] at e5
  have m5 : mf E ow m A (fun f x => f = 939 ∧ x = i) G4 G5 := by rw [e5]; exact mf_sel m4.k m4.b (f := 939) (k := 73) (n := 20) (by decide) ⟨rfl, rfl⟩
  have v5 : wo_el G5 (A 939) i = wo_el G (A 910) (8 * j + 5) := by rw [e5, sel_at, if_pos rfl]
  have n5 : mf E ow m A (fun f x => 929 ≤ f ∧ f ≤ 939 ∧ x = i) G G5 := (n4.mn (fun f i z => by omega)).tr (m5.mn (fun f i z => by omega))
  refine fun r hr => m5.k.rd (f := 911) (k := 66) (n := 72) (by decide) y3 (m5.k.wr (f := 940) (k := 66) (n := 20) (by decide) vi (fun G6 e6 => ?_) r hr)
  rw [y2, n5.ei (f := 911) (k := 66) (n := 72) (by decide) (by omega)] at e6
  have m6 : mf E ow m A (fun f x => f = 940 ∧ x = i) G5 G6 := by rw [e6]; exact mf_sei m5.k m5.b (f := 940) (k := 66) (n := 20) (by decide) ⟨rfl, rfl⟩
  have v6 : wo_ei G6 (A 940) i = wo_ei G (A 911) (8 * j + 5) := by rw [e6, sei_at, if_pos rfl]
  have n6 : mf E ow m A (fun f x => 929 ≤ f ∧ f ≤ 940 ∧ x = i) G G6 := (n5.mn (fun f i z => by omega)).tr (m6.mn (fun f i z => by omega))
  refine fun r hr => m6.k.rd (f := 923) (k := 66) (n := 8) (by decide) vj8 (m6.k.wr (f := 941) (k := 66) (n := 20) (by decide) vi (fun G7 e7 => ?_) r hr)
  rw [cj, n6.ei (f := 923) (k := 66) (n := 8) (by decide) (by omega), hsa] at e7
  have m7 : mf E ow m A (fun f x => f = 941 ∧ x = i) G6 G7 := by rw [e7]; exact mf_sei m6.k m6.b (f := 941) (k := 66) (n := 20) (by decide) ⟨rfl, rfl⟩
  have v7 : wo_ei G7 (A 941) i = nI sa := by rw [e7, sei_at, if_pos rfl]
  have n7 : mf E ow m A (fun f x => 929 ≤ f ∧ f ≤ 941 ∧ x = i) G G7 := (n6.mn (fun f i z => by omega)).tr (m7.mn (fun f i z => by omega))
  refine ⟨m7.k.1, m7.k.wr (f := 942) (k := 66) (n := 20) (by decide) vi (fun G8 e8 => ?_)⟩
  have m8 : mf E ow m A (fun f x => f = 942 ∧ x = i) G7 G8 := by rw [e8]; exact mf_sei m7.k m7.b (f := 942) (k := 66) (n := 20) (by decide) ⟨rfl, rfl⟩
  have v8 : wo_ei G8 (A 942) i = nI sz := by rw [e8, sei_at, if_pos rfl]
  have n8 : mf E ow m A (fun f x => 929 ≤ f ∧ f ≤ 942 ∧ x = i) G G8 := (n7.mn (fun f i z => by omega)).tr (m8.mn (fun f i z => by omega))
  refine ⟨m8.k.2.1, fun G9 e9 => ?_⟩
  rw [n8.gi (fun i => by omega), hb.2.2.2.2.1, nI_1] at e9
  have m9 : mf E ow m A (fun f x => f = 944) G8 G9 := by rw [e9]; exact mf_si m8.k m8.b (f := 944) rfl
  have v9 : wo_gi G9 944 m = nI (n + 1) := by rw [e9, si_at]
  have n9 : mf E ow m A (fun f x => 929 ≤ f ∧ f ≤ 942 ∧ x = i ∨ f = 944) G G9 := (n8.mn (fun f i z => by omega)).tr (m9.mn (fun f i z => by omega))
  refine m9.k.wr (f := 943) (k := 66) (n := 20) (by decide) vi (fun Ga ea => ?_)
  rw [v9] at ea
  have ma : mf E ow m A (fun f x => f = 943 ∧ x = i) G9 Ga := by rw [ea]; exact mf_sei m9.k m9.b (f := 943) (k := 66) (n := 20) (by decide) ⟨rfl, rfl⟩
  have va : wo_ei Ga (A 943) i = nI (n + 1) := by rw [ea, sei_at, if_pos rfl]
  have na : mf E ow m A (fun f x => 929 ≤ f ∧ f ≤ 943 ∧ x = i ∨ f = 944) G Ga := (n9.mn (fun f i z => by omega)).tr (ma.mn (fun f i z => by omega))
  have t9 : mf E ow m A (fun f x => 942 < f) G8 Ga := (m9.mn (fun f i z => by omega)).tr (ma.mn (fun f i z => by omega))
  have t7 : mf E ow m A (fun f x => 941 < f) G7 Ga := (m8.mn (fun f i z => by omega)).tr (t9.mn (fun f i z => by omega))
  have t6 : mf E ow m A (fun f x => 940 < f) G6 Ga := (m7.mn (fun f i z => by omega)).tr (t7.mn (fun f i z => by omega))
  have t5 : mf E ow m A (fun f x => 939 < f) G5 Ga := (m6.mn (fun f i z => by omega)).tr (t6.mn (fun f i z => by omega))
  have t4 : mf E ow m A (fun f x => 938 < f) G4 Ga := (m5.mn (fun f i z => by omega)).tr (t5.mn (fun f i z => by omega))
  have t3 : mf E ow m A (fun f x => 937 < f) G3 Ga := (m4.mn (fun f i z => by omega)).tr (t4.mn (fun f i z => by omega))
  have t2 : mf E ow m A (fun f x => 936 < f) G2 Ga := (m3.mn (fun f i z => by omega)).tr (t3.mn (fun f i z => by omega))
  have t1 : mf E ow m A (fun f x => 935 < f) G1 Ga := (m2.mn (fun f i z => by omega)).tr (t2.mn (fun f i z => by omega))
  refine hp Ga (na.mn (fun f i z => by unfold PS2; omega)) (mss_add hb hi hin na (fun f y z => z) ⟨r1.mf t1 (fun f hf z => by simp only [List.mem_cons, List.mem_nil_iff, or_false] at hf; omega), ⟨?_, ?_, hpa.2.2⟩, ?_, ?_, ?_⟩ ?_ va ?_ hn)
  · rw [t3.el (f := 937) (k := 73) (n := 20) (by decide) (by omega)]; exact v3
  · rw [t4.ei (f := 938) (k := 66) (n := 20) (by decide) (by omega)]; exact v4
  · rw [t6.ei (f := 940) (k := 66) (n := 20) (by decide) (by omega), t5.el (f := 939) (k := 73) (n := 20) (by decide) (by omega), v6, v5]; exact hvo
  · rw [t7.ei (f := 941) (k := 66) (n := 20) (by decide) (by omega)]; exact v7
  · rw [t9.ei (f := 942) (k := 66) (n := 20) (by decide) (by omega)]; exact v8
  · rw [t2.ei (f := 936) (k := 72) (n := 20) (by decide) (by omega)]; exact v2
  · rw [ma.gi (fun i => by omega)]; exact v9
theorem sp_stFind {Post : wo_W → Prop} {sz sa : Nat} (hc : c ≤ mc) (hs : s ≤ ms) (h : md_k E ow m A G) (hbb : ow_b E ow G) (hb : mss m A G L n) (hj : j < 8) (hq : vq_at A G j q) (hr : rr_at A G (30 + j) p) (hsa : wo_ei G (A 923) j = nI sa) (hn : n + 1 < 10 ^ 6) (hl : L.length < 20) (hp : ∀ i G', mf E ow m A PS2 G G' → mss m A G' (L ++ [(i, n + 1, (p, q.2.1, q.2.2.2 5, sa, sz))]) (n + 1) → Post G') : ∀ (k i : Nat), i + k = 20 → (∀ x, x < i → x ∈ L.map (fun x => x.1)) → pq_Md_store_229 E mc ms Post (k + 1) G c s m (nI j) (nI (30 + j)) (nI sz) (nI i) := by
  have hlt : ∀ x ∈ L.map (fun x => x.1), x < 20 := fun x hx => by
    obtain ⟨y, hy, e⟩ := List.mem_map.mp hx
    rw [← e]
    exact (hb.2.1 y hy).1
  intro k
  induction k with
  | zero =>
    intro i hi hall
    have e : i = 20 := by omega
    subst e
    have := nd_full hb.1 hlt hall
    rw [List.length_map] at this
    omega
  | succ k ih =>
    intro i hi hall
    by_cases z : i ∈ L.map (fun x => x.1)
    · have vi : vp_in (nI i) 20 := vp_in_nI (by omega) (by decide)
      have ci : (nI i).toNatClampNeg = i := nI_clamp (by omega)
      unfold pq_Md_store_229
      refine ⟨h.1, h.rd (f := 936) (k := 72) (n := 20) (by decide) vi ?_⟩
      rw [ci, hb.2.2.1 i (by omega), decide_eq_true z, nI_1]
      refine ⟨fun w => absurd w (by decide), fun _ => ih (i + 1) (by omega) (fun x hx => ?_)⟩
      by_cases y : x = i
      · rw [y]; exact z
      · exact hall x (by omega)
    · exact sp_stFill hc hs h hbb hb hj hq hr hsa hn (by omega) z (k + 1) (fun G' m' b' => hp i G' m' b')
theorem sm_17 : ∀ ss : List sdT, (∀ d ∈ ss, 17 ≤ d.2.2.2.2) → 17 * ss.length ≤ sm_of ss := by
  intro ss
  induction ss with
  | nil => intro _; exact Nat.zero_le _
  | cons d l ih =>
    intro h
    have h1 := ih (fun x hx => h x (List.mem_cons_of_mem _ hx))
    have h2 := h d List.mem_cons_self
    show 17 * (l.length + 1) ≤ d.2.2.2.2 + sm_of l
    omega
theorem sm_fl (f : sdT → Bool) : ∀ ss : List sdT, sm_of (dr_of f ss) ≤ sm_of ss := by
  intro ss
  rw [dr_filter]
  induction ss with
  | nil => exact Nat.le_refl _
  | cons d l ih =>
    by_cases z : (!f d) = true
    · rw [List.filter_cons_of_pos (p := fun d => !f d) z]
      show d.2.2.2.2 + sm_of _ ≤ d.2.2.2.2 + sm_of l
      omega
    · rw [List.filter_cons_of_neg (p := fun d => !f d) z]
      show _ ≤ d.2.2.2.2 + sm_of l
      omega
theorem sp_mstore {Post : wo_W → Prop} {cap sa : Nat} (h : md_k E ow m A G) (hbb : ow_b E ow G) (hb : mss m A G L n) (hj : j < 8) (hq : vq_at A G j q) (hr : rr_at A G (30 + j) p) (hsa : wo_ei G (A 923) j = nI sa) (hcap : wo_gi G 955 m = nI cap) (hc3 : cap ≤ 300) (hn : n + 1 < 10 ^ 6) (h17 : ∀ x ∈ L, 17 ≤ x.2.2.2.2.2.2) (hsm : sm_of (L.map (fun x => x.2.2)) < 2 ^ 29) (hz : sz_of p < 128) (hp : ∀ G' L' n', mf E ow m A Pso G G' → mss m A G' L' n' → n' ≤ n + 1 → L'.map (fun x => x.2.2) = tr_of q sa false (some p) cap (L.map (fun x => x.2.2)) → Post G') : pq_Md_store E mc ms Post G m (nI j) := by
  have vr4 : vp_in (nI (30 + j)) 40 := vp_in_nI (by omega) (by decide)
  unfold pq_Md_store pq_Md_store_0
  rw [show (30 : Int32) = nI 30 from rfl, nI_add]
  refine ⟨21, sp_stDrop (L := L) (n := n) hj hq hr (fun G1 m1 b1 => ?_) 20 0 G rfl (mf.rf h hbb) (by rw [dk_0]; exact hb)⟩
  have l20 : ∀ x ∈ L, x.1 < 20 := fun x hx => (hb.2.1 x hx).1
  have el := dk_n (f := rl_of q.2.1 (q.2.2.2 5) p.2.2.2.2) l20
  have q1 : vq_at A G1 j q := vq_r hq m1 (fun f i z => by have z : f = 936 := z; omega)
  have r1 : rr_at A G1 (30 + j) p := hr.mf m1 (fun f hf z => by have z : f = 936 := z; simp only [List.mem_cons, List.mem_nil_iff, or_false] at hf; omega)
  have etr : tr_of q sa false (some p) cap (L.map (fun x => x.2.2)) = if nb_of 120 p.2.2.2.1 ≠ none ∨ nb_of 112 p.2.2.2.1 ≠ none ∨ nb_o 120 (q.2.2.2 4) ≠ none then dr_of (rl_of q.2.1 (q.2.2.2 5) p.2.2.2.2) (L.map (fun x => x.2.2)) else kp_of cap (p, q.2.1, q.2.2.2 5, sa, sz_of p) (dr_of (rl_of q.2.1 (q.2.2.2 5) p.2.2.2.2) (L.map (fun x => x.2.2))) := rfl
  have hpo := hr.2.2.2.2.2.1.2.2.1
  have nbp : ∀ y, nb_v (nb_of y p.2.2.2.1) < 2 ^ 31 := fun y => by have := nb_b (l := p.2.2.2.1) (x := y) hpo; omega
  have nbo : ∀ y, nb_v (nb_o y (q.2.2.2 4)) < 2 ^ 31 := by
    intro y
    have hv := hq.2.2.2 4 (by decide)
    cases e : q.2.2.2 4 with
    | none => show (0 : Nat) < 2 ^ 31; decide
    | some t => rw [e] at hv; have := nb_b (l := t) (x := y) hv.2.2.1; exact Nat.lt_trans this (by decide)
  unfold pq_Md_store_7
  refine ⟨fun _ => ⟨m1.k.1, 0, 0, Nat.zero_le _, Nat.zero_le _, sp_mwhole (ag := none) (b := true) m1.k m1.b r1 (by omega) (fun n e => (by cases e)) (fun G2 m2 t2 => ⟨m2.2.1.1, 0, 0, Nat.zero_le _, Nat.zero_le _, ?_⟩)⟩, fun w => absurd (by decide) w⟩
  have m2' : mf E ow m A (fun f _ => FT f) G1 G2 := m2.mf (fun f i z => z)
  have r2 : rr_at A G2 (30 + j) p := r1.me m2 (nfT (by decide))
  have q2 : vq_at A G2 j q := q1.me m2 (nfT (by decide))
  have b2 : mss m A G2 (dk (rl_of q.2.1 (q.2.2.2 5) p.2.2.2.2) 20 L) n := b1.mf m2' (fun f i z w => by unfold PS at z; rcases w with w | w <;> omega)
  have m12 : mf E ow m A Pso G G2 := (m1.mn (fun f i z => by have z : f = 936 := z; unfold Pso; omega)).tr (m2'.mn (fun f i z => Or.inl z))
  have sz : wo_gi G2 906 m = nI (sz_of p) := t2.1
  have done : tr_of q sa false (some p) cap (L.map (fun x => x.2.2)) = dr_of (rl_of q.2.1 (q.2.2.2 5) p.2.2.2.2) (L.map (fun x => x.2.2)) → ∀ c s, pq_Md_store_141 E mc ms Post G2 c s := by
    intro e c s
    unfold pq_Md_store_141
    exact hp G2 _ n m12 b2 (by omega) (by rw [e]; exact el)
  refine sp_inPolicy (x := 120) m2.2.1 r2 (by omega) (by decide) ⟨fun w => done ?_ _ _, fun w => ⟨m2.2.1.1, 0, 0, Nat.zero_le _, Nat.zero_le _, sp_inPolicy (x := 112) m2.2.1 r2 (by omega) (by decide) ⟨fun w2 => done ?_ _ _, fun w2 => ⟨m2.2.1.1, 0, 0, Nat.zero_le _, Nat.zero_le _, sp_inValue (h := 4) (x := 120) m2.2.1 q2 (by omega) (by decide) (by decide) ⟨fun w3 => done ?_ _ _, fun w3 => ⟨m2.2.1.1, ?_⟩⟩⟩⟩⟩⟩
  · rw [etr, if_pos (Or.inl (fun e => w (by rw [e]; rfl)))]
  · rw [etr, if_pos (Or.inr (Or.inl (fun e => w2 (by rw [e]; rfl))))]
  · rw [etr, if_pos (Or.inr (Or.inr (fun e => w3 (by rw [e]; rfl))))]
  · have z1 := (nb_I2 (nbp 120)).mp w
    have z2 := (nb_I2 (nbp 112)).mp w2
    have z3 := (nb_I2 (nbo 120)).mp w3
    rw [if_neg (by rintro (z | z | z); exact z z1; exact z z2; exact z z3)] at etr
    have c2 : wo_gi G2 955 m = nI cap := by
      rw [m2'.gi (fun i z => by rcases z with z | z <;> omega), m1.gi (fun i z => by have z : 955 = 936 := z; omega)]
      exact hcap
    rw [sz, c2]
    refine ⟨fun w4 => ⟨_, sp_stEvict (Nat.zero_le _) (Nat.zero_le _) c2 hc3 ((nI_leI (by omega) (by omega)).mp w4) _ G2 (mf.rf m2.2.1 m2.b) b2 ?_ (fun G3 L3 m3 b3 e3 hin hle => ⟨21, ?_⟩)⟩, fun w4 => done ?_ _ _⟩
    · rw [el]
      exact Nat.lt_of_le_of_lt (sm_fl _ _) hsm
    · have ll : L3.length < 20 := by
        have h1 : 17 * (L3.map (fun x => x.2.2)).length ≤ sm_of (L3.map (fun x => x.2.2)) := sm_17 _ (fun d hd => by
          obtain ⟨y, hy, e⟩ := List.mem_map.mp hd
          rw [← e]
          have := hin y hy
          exact h17 y (List.mem_filter.mp this).1)
        rw [List.length_map] at h1
        omega
      have p3 : ∀ f i, Pst f i → f = 936 := fun f i z => z
      have sa3 : wo_ei G3 (A 923) j = nI sa := by
        rw [m3.ei (f := 923) (k := 66) (n := 8) (by decide) (fun z => by have := p3 _ _ z; omega), m2'.ei (f := 923) (k := 66) (n := 8) (by decide) (fun z => by rcases z with z | z <;> omega), m1.ei (f := 923) (k := 66) (n := 8) (by decide) (fun z => by have := p3 _ _ z; omega)]
        exact hsa
      refine sp_stFind (Nat.zero_le _) (Nat.zero_le _) m3.k m3.b b3 hj (vq_r q2 m3 (fun f i z => by have := p3 _ _ z; omega)) (r2.mf m3 (fun f hf z => by have := p3 _ _ z; simp only [List.mem_cons, List.mem_nil_iff, or_false] at hf; omega)) sa3 hn ll (fun i G4 m4 b4 => ?_) 20 0 rfl (fun x hx => absurd hx (Nat.not_lt_zero _))
      refine hp G4 _ (n + 1) (m12.tr ((m3.mn (fun f i z => by have := p3 _ _ z; unfold Pso; omega)).tr (m4.mn (fun f i z => by unfold PS2 at z; unfold Pso; omega)))) b4 (Nat.le_refl _) ?_
      rw [etr, List.map_append, e3, el]
      unfold kp_of
      rw [if_neg (by have := (nI_leI (by omega) (by omega)).mp w4; show ¬ cap < sz_of p; omega)]
      rfl
    · rw [etr]
      unfold kp_of
      rw [if_pos]
      have : ¬ sz_of p ≤ cap := fun z => w4 (nI_le z (by omega))
      show cap < sz_of p
      omega
end MD
