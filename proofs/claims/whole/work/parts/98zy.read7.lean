theorem as_mem {r g : List Nat} {z : Bool} {b : Nat} (h : b ∈ as_of r g z) : b ∈ r ∨ b = 47 ∨ b ∈ g := by
  have hz : b ∈ (if z = true then [47] else ([] : List Nat)) → b = 47 := fun q => by
    cases z with
    | true => exact List.mem_singleton.mp q
    | false => cases q
  unfold as_of at h
  by_cases y2 : g = [46, 46]
  · rw [if_pos y2] at h
    rcases List.mem_append.mp h with q | q
    · exact Or.inl (List.mem_of_mem_take q)
    · exact Or.inr (Or.inl (hz q))
  · rw [if_neg y2] at h
    by_cases y1 : g = [46]
    · rw [if_pos y1] at h
      rcases List.mem_append.mp h with q | q
      · exact Or.inl q
      · exact Or.inr (Or.inl (hz q))
    · rw [if_neg y1] at h
      rcases List.mem_append.mp h with q | q
      · rcases List.mem_append.mp q with q | q
        · exact Or.inl q
        · exact Or.inr (Or.inl (List.mem_singleton.mp q))
      · exact Or.inr (Or.inr q)
theorem hd_app {a b : List Nat} (ha : a = [] ∨ a.getD 0 0 = 47) (hb : b = [] ∨ b.getD 0 0 = 47) : a ++ b = [] ∨ (a ++ b).getD 0 0 = 47 := by
  cases a with
  | nil => exact hb
  | cons x l => exact Or.inr (ha.resolve_left (fun z => by cases z))
theorem as_hd {r g : List Nat} {z : Bool} (h : r = [] ∨ r.getD 0 0 = 47) : as_of r g z = [] ∨ (as_of r g z).getD 0 0 = 47 := by
  have hz : (if z = true then [47] else ([] : List Nat)) = [] ∨ (if z = true then [47] else ([] : List Nat)).getD 0 0 = 47 := by
    cases z with
    | true => exact Or.inr rfl
    | false => exact Or.inl rfl
  unfold as_of
  by_cases y2 : g = [46, 46]
  · rw [if_pos y2]
    refine hd_app ?_ hz
    cases r with
    | nil => exact Or.inl (List.take_nil)
    | cons x l =>
      cases hk : ls_of (x :: l) with
      | zero => exact Or.inl rfl
      | succ k => exact Or.inr (h.resolve_left (fun z => by cases z))
  · rw [if_neg y2]
    by_cases y1 : g = [46]
    · rw [if_pos y1]; exact hd_app h hz
    · rw [if_neg y1, List.append_assoc]; exact hd_app h (Or.inr rfl)
def Pnm : Nat → Nat → Prop := fun f i => f = 917 ∨ (f = 908 ∨ f = 909) ∧ i = 8
section MD
variable {E : wo_E} {mc ms m c s : Nat} {G0 G G1 G2 : wo_W} {ow : Nat → Nat} {A : Nat → Nat} {P Q : Nat → Nat → Prop} {R : List Nat} {r u pp : List Nat} {e q j : Nat}
theorem sp_nrm296 {Post : Int32 → wo_W → Prop} (hl : pp.length ≤ 24) (hb : ∀ b ∈ pp, b < 256) (hp : ∀ G', mf E ow m A Pnm G0 G' → (pp.length ≤ 8 → pt_ok (wo_el G' (A 908) 8) (wo_ei G' (A 909) 8) pp) → Post (nI (if 8 < pp.length then 414 else 0)) G') : ∀ (d i : Nat) (G : wo_W), i + d = min pp.length 8 → mf E ow m A Pnm G0 G → kp_at A G 917 pp → wo_el G (A 908) 8 = pk_of (pp.take i) → pq_Md_normal_296 E mc ms Post (d + 1) G 0 0 m (nI pp.length) (nI i) := by
  have v8 : vp_in (8 : Int32) 9 := vp_in_nI (n := 8) (by decide) (by decide)
  have c8 : (8 : Int32).toNatClampNeg = 8 := by decide
  intro d
  induction d with
  | zero =>
    intro i G hi m0 hk hv
    have h339 : pq_Md_normal_339 E mc ms Post G 0 0 m (nI pp.length) := by
      unfold pq_Md_normal_339 pq_Md_normal_360
      refine ⟨m0.k.1, m0.k.wr (f := 909) (k := 66) (n := 9) (by decide) v8 (fun G1 e1 => ?_)⟩
      rw [c8] at e1
      have m1 : mf E ow m A Pnm G G1 := by rw [e1]; exact mf_sei m0.k m0.b (f := 909) (k := 66) (n := 9) (by decide) (Or.inr ⟨Or.inr rfl, rfl⟩)
      have := hp G1 (m0.tr m1) (fun h8 => ⟨?_, by rw [e1, sei_at, if_pos rfl], h8, hb⟩)
      · refine ⟨fun w => ?_, fun w => ?_⟩
        · have := (nI_leI (b := 8) (by omega) (by decide)).mp w
          rw [if_neg (by omega)] at *
          exact ‹Post (nI 0) G1›
        · have h8 : 8 < pp.length := Nat.lt_of_not_le (fun z => w (nI_le (b := 8) z (by decide)))
          rw [if_pos h8] at this
          exact this
      · rw [show wo_el G1 (A 908) 8 = wo_el G (A 908) 8 by rw [e1]; rfl, hv, List.take_of_length_le (by omega)]
    unfold pq_Md_normal_296
    refine ⟨fun _ => h339, fun w => ⟨fun _ => h339, fun w2 => ?_⟩⟩
    have y1 : ¬ pp.length ≤ i := fun z => w (nI_le z (by omega))
    have y2 : ¬ 8 ≤ i := fun z => w2 (nI_le (a := 8) z (by omega))
    omega
  | succ d ih =>
    intro i G hi m0 hk hv
    unfold pq_Md_normal_296
    refine ⟨fun w => absurd w (nI_ge (by omega) (by omega)), fun _ => ⟨fun w => absurd w (nI_ge (b := 8) (by omega) (by decide)), fun _ => ⟨m0.k.1, m0.k.rd (f := 908) (k := 73) (n := 9) (by decide) v8 (m0.k.rd (f := 917) (k := 66) (n := 24) (by decide) (vp_in_nI (by omega) (by decide)) ?_)⟩⟩⟩
    obtain ⟨a1, a2, a3, a4⟩ := m0.k.a (f := 908) (k := 73) (n := 9) (by decide)
    refine ⟨by rw [a3]; exact v8, a4, fun G1 e1 => ?_⟩
    have lt : (pp.take i).length = i := by rw [List.length_take]; omega
    have po := pk_or (t := pp.take i) (b := pp.getD i 0) (fun d hd => hb d (List.mem_of_mem_take hd)) (by omega) (hb _ (tx_mem (by omega)))
    rw [lt] at po
    rw [c8, nI_clamp (by omega), hk i (by omega), hv, show (8 : Int32) = nI 8 from rfl, pk_mul, po] at e1
    have m1 : mf E ow m A Pnm G G1 := by rw [e1]; exact mf_sel m0.k m0.b (f := 908) (k := 73) (n := 9) (by decide) (Or.inr ⟨Or.inl rfl, rfl⟩)
    rw [nI_1]
    refine ih (i + 1) G1 (by omega) (m0.tr m1) (fun k hk2 => by rw [e1]; exact hk k hk2) ?_
    rw [e1, sel_at, if_pos rfl, tk_sc (by omega)]
theorem sp_nrm257 {Post : Int32 → wo_W → Prop} (hl : u.length ≤ 24) (hrl : r.length ≤ e) (hb : ∀ b ∈ r ++ tx_sub u e u.length, b < 256) (hp : ∀ G', mf E ow m A Pnm G0 G' → ((r ++ tx_sub u e u.length).length ≤ 8 → pt_ok (wo_el G' (A 908) 8) (wo_ei G' (A 909) 8) (r ++ tx_sub u e u.length)) → Post (nI (if 8 < (r ++ tx_sub u e u.length).length then 414 else 0)) G') : ∀ (d i : Nat) (G : wo_W), i + d = u.length → e ≤ i → mf E ow m A Pnm G0 G → kp_at A G 916 u → kp_at A G 917 (r ++ tx_sub u e i) → pq_Md_normal_257 E mc ms Post (d + 1) G 0 0 m (nI u.length) (nI (r ++ tx_sub u e i).length) (nI i) := by
  have v8 : vp_in (8 : Int32) 9 := vp_in_nI (n := 8) (by decide) (by decide)
  have c8 : (8 : Int32).toNatClampNeg = 8 := by decide
  intro d
  induction d with
  | zero =>
    intro i G hi hei m0 hu hk
    have e0 : i = u.length := by omega
    subst e0
    have ll : (r ++ tx_sub u e u.length).length = r.length + (u.length - e) := by rw [List.length_append, tx_sub_len (Nat.le_refl _)]
    unfold pq_Md_normal_257
    refine ⟨fun _ => ⟨m0.k.1, m0.k.wr (f := 908) (k := 73) (n := 9) (by decide) v8 (fun G1 e1 => ?_)⟩, fun w => absurd (nI_le (Nat.le_refl _) (by omega)) w⟩
    rw [c8] at e1
    have m1 : mf E ow m A Pnm G G1 := by rw [e1]; exact mf_sel m0.k m0.b (f := 908) (k := 73) (n := 9) (by decide) (Or.inr ⟨Or.inl rfl, rfl⟩)
    exact ⟨_, sp_nrm296 (G0 := G0) (by omega) hb hp (min (r ++ tx_sub u e u.length).length 8) 0 G1 (by omega) (m0.tr m1) (fun k hk2 => by rw [e1]; exact hk k hk2) (by rw [e1, sel_at, if_pos rfl]; rfl)⟩
  | succ d ih =>
    intro i G hi hei m0 hu hk
    have ll : (r ++ tx_sub u e i).length = r.length + (i - e) := by rw [List.length_append, tx_sub_len (by omega)]
    unfold pq_Md_normal_257
    refine ⟨fun w => absurd w (nI_ge (by omega) (by omega)), fun _ => ⟨m0.k.1, fun r2 hr2 r4 hr4 => ?_⟩⟩
    obtain ⟨a1, a2, a3, a4⟩ := m0.k.a (f := 917) (k := 66) (n := 24) (by decide)
    obtain ⟨c1, c2, c3, c4⟩ := m0.k.a (f := 916) (k := 66) (n := 24) (by decide)
    refine ⟨A 916, c1 _ hr4, c2, by rw [c3]; exact vp_in_nI (by omega) (by decide), A 917, a1 _ hr2, a2, by rw [a3]; exact vp_in_nI (by omega) (by decide), a4, fun G2 e2 => ?_⟩
    rw [nI_clamp (by omega), nI_clamp (by omega), hu i (by omega)] at e2
    obtain ⟨m2, k2⟩ := kp_push (f := 917) (by decide) m0.k m0.b hk e2
    have := ih (i + 1) G2 (by omega) (by omega) (m0.tr (m2.mn (fun f i z => Or.inl z))) (kp_mf hu (by decide) m2 (fun i (z : 916 = 917) => by cases z)) (by rw [sub_snoc hei (by omega), ← List.append_assoc]; exact k2)
    rw [nI_1, nI_1]
    rw [show (r ++ tx_sub u e (i + 1)).length = (r ++ tx_sub u e i).length + 1 by rw [List.length_append, List.length_append, tx_sub_len (by omega), tx_sub_len (by omega)]; omega] at this
    exact this
theorem sp_nrm38 {Post : Int32 → wo_W → Prop} (hl : u.length ≤ 24) (hub : ∀ b ∈ u, b < 256) (he : e ≤ u.length) : ∀ (d q : Nat) (r : List Nat) (G : wo_W), e - q ≤ d → q ≤ e → (q < e → u.getD q 0 = 47) → r.length ≤ q → (r = [] ∨ r.getD 0 0 = 47) → (∀ b ∈ r, b < 256) → mf E ow m A Pnm G0 G → kp_at A G 916 u → kp_at A G 917 r → (∀ G', mf E ow m A Pnm G0 G' → ((pa_go u e (u.length + 1 - q) (q + 1) (q + 1) r ++ tx_sub u e u.length).length ≤ 8 → pt_ok (wo_el G' (A 908) 8) (wo_ei G' (A 909) 8) (pa_go u e (u.length + 1 - q) (q + 1) (q + 1) r ++ tx_sub u e u.length)) → Post (nI (if 8 < (pa_go u e (u.length + 1 - q) (q + 1) (q + 1) r ++ tx_sub u e u.length).length then 414 else 0)) G') → pq_Md_normal_38 E mc ms Post (d + 1) G 0 0 m (nI u.length) (nI e) (nI r.length) (nI q) := by
  intro d
  have fin : ∀ (r : List Nat) (G : wo_W), r.length ≤ e → (∀ b ∈ r, b < 256) → mf E ow m A Pnm G0 G → kp_at A G 916 u → kp_at A G 917 r → (∀ G', mf E ow m A Pnm G0 G' → ((r ++ tx_sub u e u.length).length ≤ 8 → pt_ok (wo_el G' (A 908) 8) (wo_ei G' (A 909) 8) (r ++ tx_sub u e u.length)) → Post (nI (if 8 < (r ++ tx_sub u e u.length).length then 414 else 0)) G') → ∃ n1, pq_Md_normal_257 E mc ms Post n1 G 0 0 m (nI u.length) (nI r.length) (nI e) := by
    intro r G hr hb m0 hu hk hp
    have := sp_nrm257 (mc := mc) (ms := ms) (Post := Post) (G0 := G0) (r := r) hl hr (fun b hb2 => (List.mem_append.mp hb2).elim (hb b) (fun z => hub b (tx_sub_mem z))) hp (u.length - e) e G (by omega) (Nat.le_refl _) m0 hu (by rw [tx_sub_nil (Nat.le_refl _), List.append_nil]; exact hk)
    rw [tx_sub_nil (Nat.le_refl _), List.append_nil] at this
    exact ⟨_, this⟩
  induction d with
  | zero =>
    intro q r G hd hq h47 hr h0 hb m0 hu hk hp
    have e0 : q = e := by omega
    subst e0
    rw [pa_end (Nat.lt_succ_self _)] at hp
    unfold pq_Md_normal_38
    exact ⟨fun _ => fin r G hr hb m0 hu hk hp, fun w => absurd (nI_le (Nat.le_refl _) (by omega)) w⟩
  | succ d ih =>
    intro q r G hd hq h47 hr h0 hb m0 hu hk hp
    unfold pq_Md_normal_38
    by_cases z : q = e
    · subst z
      rw [pa_end (Nat.lt_succ_self _)] at hp
      exact ⟨fun _ => fin r G hr hb m0 hu hk hp, fun w => absurd (nI_le (Nat.le_refl _) (by omega)) w⟩
    · have hqe : q < e := by omega
      refine ⟨fun w => absurd w (nI_ge hqe (by omega)), fun _ => ⟨e - (q + 1) + 1, ?_⟩⟩
      rw [nI_1]
      refine sp_nrm50 m0.k hu hub hl he (fun j h1 h2 h3 h4 => ?_) (e - (q + 1)) (q + 1) (by omega) (Nat.le_refl _) (fun x q1 q2 => by omega)
      refine sp_nrm74 m0.k hu hub hl h1 (by omega) (sp_nrm146 m0.k hk hb (by omega) h0 ?_)
      have l1 : (if decide (tx_sub u (q + 1) j = [46, 46]) = true then r.take (ls_of r) else r).length ≤ q := by
        split
        · rw [List.length_take]; omega
        · exact hr
      refine sp_nrm177 m0.k m0.b hu ?_ hl l1 h1 h2 he (fun r2 er2 G' m' k' => ?_)
      · split
        · exact kp_take hk
        · exact hk
      · rw [as_eq (h47 hqe) h1 (by omega)] at er2
        have seg := pa_seg (t := u) (p := q + 1) (q := q + 1) (k := u.length + 1 - j) (r := r) h1 h2 h3 h4
        rw [show u.length + 1 - j + 1 + (j - (q + 1)) = u.length + 1 - q by omega, ← er2] at seg
        rw [seg] at hp
        have ll : r2.length ≤ j := by
          rw [er2]
          have := as_len (r := r) (g := tx_sub u (q + 1) j) (z := decide (j = e))
          rw [tx_sub_len (by omega)] at this
          omega
        refine ih j r2 G' (by omega) h2 (fun q2 => h4.resolve_left (by omega)) ll (by rw [er2]; exact as_hd h0) (fun b hb2 => ?_) (m0.tr (m'.mn (fun f i z => Or.inl z))) (kp_mf hu (by decide) m' (fun i (z : 916 = 917) => by cases z)) k' hp
        rw [er2] at hb2
        rcases as_mem hb2 with y | y | y
        · exact hb b y
        · omega
        · exact hub b (tx_sub_mem y)
theorem ix_drop {x : Nat} {k : Nat} (h : k < u.length) : ix_of x (u.drop k) = if u.getD k 0 = x then 0 else ix_of x (u.drop (k + 1)) + 1 := by
  rw [tx_drop h, ix_cons]
theorem sp_normal {Post : Int32 → wo_W → Prop} (h : md_k E ow m A G) (hbb : ow_b E ow G) (hu : kp_at A G 916 u) (hl : u.length ≤ 24) (hub : ∀ b ∈ u, b < 256) (h47 : u.getD 0 0 = 47) (hp : ∀ G', mf E ow m A Pnm G G' → ((pa_of u).length ≤ 8 → pt_ok (wo_el G' (A 908) 8) (wo_ei G' (A 909) 8) (pa_of u)) → Post (nI (if 8 < (pa_of u).length then 414 else 0)) G') : pq_Md_normal E mc ms Post G m (nI u.length) := by
  have key : ∀ k, k ≤ u.length → pq_Md_normal_6 E mc ms Post (k + 1) G 0 0 m (nI u.length) (nI (k + ix_of 63 (u.drop k))) (nI k - 1) := by
    intro k
    induction k with
    | zero =>
      intro _
      unfold pq_Md_normal_6
      refine ⟨fun _ => ⟨ix_of 63 u - 0 + 1, ?_⟩, fun w => absurd (by decide) w⟩
      rw [List.drop_zero, Nat.zero_add]
      refine sp_nrm38 (G0 := G) hl hub (ix_le 63 u) (ix_of 63 u - 0) 0 [] G (Nat.le_refl _) (Nat.zero_le _) (fun _ => h47) (Nat.le_refl _) (Or.inl rfl) (fun b hb => (by cases hb)) (mf.rf h hbb) hu (fun i hi => (by cases hi)) hp
    | succ k ih =>
      intro hk
      have ih := ih (by omega)
      have hbk := hub _ (tx_mem (t := u) (i := k) (by omega))
      unfold pq_Md_normal_6 pq_Md_normal_26
      have e1 : nI (k + 1) - 1 = nI k := by rw [nI_pm (by omega)]; rfl
      have e2 : nI k + (-1 : Int32) = nI k - 1 := (Int32.sub_eq_add_neg _ _).symm
      rw [e1, e2]
      refine ⟨fun w => absurd w (nI_pos (by omega)), fun _ => ⟨h.1, h.rd (f := 916) (k := 66) (n := 24) (by decide) (vp_in_nI (by omega) (by decide)) ?_⟩⟩
      rw [nI_clamp (by omega), hu k (by omega)]
      rw [ix_drop (by omega)] at ih
      refine ⟨fun w => ?_, fun w => ?_⟩
      · rw [if_neg (fun z => w (by rw [z]; rfl)), show k + (ix_of 63 (u.drop (k + 1)) + 1) = k + 1 + ix_of 63 (u.drop (k + 1)) by omega] at ih
        exact ih
      · rw [if_pos ((nI_eq (b := 63) (by omega) (by decide)).mp w), Nat.add_zero] at ih
        exact ih
  unfold pq_Md_normal pq_Md_normal_0
  have := key u.length (Nat.le_refl _)
  rw [List.drop_of_length_le (Nat.le_refl _), show u.length + ix_of 63 [] = u.length from rfl] at this
  exact ⟨_, this⟩
end MD
