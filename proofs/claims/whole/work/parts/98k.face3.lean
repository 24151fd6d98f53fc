abbrev psT : Type := (Nat → cnT) × (Nat → Option jobT) × Nat
def ps_1 (now u : Nat) (q : psT) : psT := match q.2.1 u with
  | none => q
  | some j => if 10 ≤ now - j.2.2.2.1 then (cup q.1 j.1 (anc (q.1 j.1) j.2.1 (ba_of 504 0)), sup q.2.1 u none, q.2.2 + 1) else q
def ps_of (now : Nat) (cn : Nat → cnT) (sn : Nat → Option jobT) : psT := ps_1 now 1 (ps_1 now 0 (cn, sn, 0))
section SP
variable {E : wo_E} {mc ms : Nat} {G G1 : wo_W} {x ca og so sh sj wl now c o cap tg t : Nat} {ow ow1 : Nat → Nat} {R : Nat → Prop} {raf raf' : Nat → Nat → Nat} {cad : Nat → Nat} {cn : Nat → cnT} {rs : List roT} {ss : List sdT} {wt : List jobT} {sn : Nat → Option jobT}
theorem ec_now {n : Nat} (h : ec_k E ow G x ca cad raf og so sh sj wl cn rs tg ss cap wt sn now) (cc : cx E ow G) (hb : js_b wt sn) : xt E (fun r => r = 7) ow G ow (wo_si G 6 x (nI n)) ∧ ec_k E ow (wo_si G 6 x (nI n)) x ca cad raf og so sh sj wl cn rs tg ss cap wt sn n := by
  obtain ⟨k1, k2, k3, k4, k5, k6, k7, k8⟩ := h
  have y : xt E (fun r => r = 7) ow G ow (wo_si G 6 x (nI n)) := xt.of cc.2 (fr_si k1.2.2.1)
  obtain ⟨o1, o2, o3, o4, o5, o6, o7, o8, o9, o10⟩ := k1
  have ca7 : ca_at (wo_si G 6 x (nI n)) ow ca cad := k2
  have hR2 : ∀ r, (fun r => r = 7) r → r ≠ 0 ∧ r ≠ 70 ∧ r ≠ 71 ∧ (r < 200 ∨ 300 ≤ r) := fun r z => by have : r = 7 := z; omega
  exact ⟨y, ⟨o1, o2, o3, o4, o5, o6, o7, o8, o9, by simp [wo_gi, wo_si, wo_u2]⟩, ca7, fun e he => cn_lo (k3 e he) he y (fun r z => by have : r = 7 := z; omega), k4.xt cc y (by decide) (by decide) (by decide), k5.xt cc y (by decide) (by decide) (by decide), k6.xt cc y (by decide) (by decide), sj_lo k7 hb y hR2, wl_lo k8 cc hb y hR2⟩
theorem sp_psStep {Post : Int32 → wo_W → Prop} {u k n c2 s2 : Nat} (cc : cx E ow G) (h : ec_k E ow G x ca cad raf og so sh sj wl cn rs tg ss cap wt sn now) (hok : js_ok wt sn) (hj : jn_ok cn wt sn) (hu : u < 2) (hnow : now < 2 ^ 30) (hsa : ∀ v j, v < 2 → sn v = some j → j.2.2.2.1 ≤ now) (hc : c2 + 14 ≤ mc) (hs : s2 + 2500 ≤ ms)
    (hp : ∀ c3 s3 ow' G', c3 ≤ c2 + 14 → s3 ≤ s2 + 2500 → xt E Rec ow G ow' G' → cx E ow' G' → ec_k E ow' G' x ca cad raf og so sh sj wl (ps_1 now u (cn, sn, k)).1 rs tg ss cap wt (ps_1 now u (cn, sn, k)).2.1 now → pq_EC_pass_27 E mc ms Post n G' c3 s3 x (nI (ps_1 now u (cn, sn, k)).2.2) (nI (u + 1))) : pq_EC_pass_27 E mc ms Post (n + 1) G c2 s2 x (nI k) (nI u) := by
  have hb := hok.b
  obtain ⟨v1, v2, v3⟩ := sj_el h.2.2.2.2.2.2.1 hu
  have same : ps_1 now u (cn, sn, k) = (cn, sn, k) → pq_EC_pass_27 E mc ms Post n G c2 s2 x (nI k) (nI u + 1) := by
    intro e
    rw [e] at hp
    rw [nI_1]
    exact hp c2 s2 ow G (by omega) (by omega) (xt.rf cc.2) cc h
  unfold pq_EC_pass_27 pq_EC_pass_89
  refine ⟨fun w => absurd w (nI_ge (b := 2) hu (by decide)), fun _ => ⟨h.1.1, fun r hr => ⟨sj, hr.trans h.1.2.2.2.2.2.2.2.1, v1, v2, fun r15 hr15 => ⟨fun w => ?_, fun a w => ?_⟩⟩⟩⟩
  · have e := (v3 r15 hr15).none w
    exact same (by unfold ps_1; simp only [e])
  · obtain ⟨j, e1, e2⟩ := (v3 r15 hr15).some w
    have sle := hsa u j hu e1
    have rb := hb.2 u j hu e1
    have jc := hok.2.2.2.2 u j hu e1
    have jn := hj.2 u j hu e1
    have hc3 : j.1 < 3 := by omega
    have eps : ps_1 now u (cn, sn, k) = if 10 ≤ now - j.2.2.2.1 then (cup cn j.1 (anc (cn j.1) j.2.1 (ba_of 504 0)), sup sn u none, k + 1) else (cn, sn, k) := by
      unfold ps_1
      simp only [e1]
    refine ⟨e2.1.1, ?_⟩
    rw [h.1.2.2.2.2.2.2.2.2.2, e2.1.2.2.2.2.1, pk_sub sle]
    refine ⟨fun w2 => ?_, fun w2 => fun r19 hr19 r21 hr21 => ?_⟩
    · have z := (nI_ltI (b := 10) (by omega) (by decide)).mp w2
      exact same (by rw [eps, if_neg (by omega)])
    · have z : 10 ≤ now - j.2.2.2.1 := Nat.le_of_not_lt (fun y => w2 (nI_lt (b := 10) y (by decide)))
      rw [eps, if_pos z] at hp
      have tz : wo_ty G sh = 4 := by obtain ⟨_, _, _, _, _, hb, _⟩ := h.2.2.2.2.2.1; exact hb.2.1
      refine ⟨sh, hr21.trans h.1.2.2.2.2.2.2.1, tz, 14, 2500, by omega, by omega, ?_⟩
      refine xs_bare (m := 504) (g := 0) cc h.2.2.2.2.2.1 (by decide) (by decide) (by omega) (by omega) (fun ya ow2 G2 y2 s2' S2 => ?_)
      have c2' := cc.xt y2 (by decide)
      have k2 := ec_sh h cc hb y2 s2'
      obtain ⟨a1, a2, a3, a4, a5⟩ := ec_an (t := j.2.1) k2 c2' hb hc3 jn S2
      refine ⟨raf j.1 j.2.1, hr19.trans e2.1.2.2.1, a1, a2, fun G3 e3 => ?_⟩
      rw [← e3] at a3 a4 a5
      rw [anc_cup] at a5
      obtain ⟨w1, w2', w3⟩ := sj_el a5.2.2.2.2.2.2.1 hu
      refine ⟨a5.1.1, fun r35 hr35 => ⟨sj, hr35.trans a5.1.2.2.2.2.2.2.2.1, w1, w2', a5.2.2.2.2.2.2.1.2.2.1, fun G4 e4 => ?_⟩⟩
      rw [nI_clamp (by omega)] at e4
      obtain ⟨y5, k5⟩ := ec_sn0 (u := u) a5 a4 hb
      rw [← e4] at y5 k5
      rw [nI_1, nI_1]
      exact hp _ _ ow2 G4 (by omega) (by omega) (((y2.mn R6_e).tr a3).tr (y5.mn (fun r z => by have : r = 71 := z; constructor <;> omega))) (a4.xt y5 (by decide)) k5
theorem js_ps {u k : Nat} (h : js_ok wt sn) : js_ok wt (ps_1 now u (cn, sn, k)).2.1 := by
  unfold ps_1
  cases e : sn u with
  | none => simp only [e]; exact h
  | some j =>
    simp only [e]
    by_cases z : 10 ≤ now - j.2.2.2.1
    · rw [if_pos z]; exact js_rm h
    · rw [if_neg z]; exact h
theorem jn_ps {u k : Nat} (h : jn_ok cn wt sn) : jn_ok (ps_1 now u (cn, sn, k)).1 wt (ps_1 now u (cn, sn, k)).2.1 := by
  unfold ps_1
  cases e : sn u with
  | none => simp only [e]; exact h
  | some j =>
    simp only [e]
    by_cases z : 10 ≤ now - j.2.2.2.1
    · rw [if_pos z]; exact jn_rm (jn_anc h)
    · rw [if_neg z]; exact h
theorem sa_ps {u k : Nat} (h : ∀ v j, v < 2 → sn v = some j → j.2.2.2.1 ≤ now) : ∀ v j, v < 2 → (ps_1 now u (cn, sn, k)).2.1 v = some j → j.2.2.2.1 ≤ now := by
  intro v j hv e
  unfold ps_1 at e
  cases e1 : sn u with
  | none => simp only [e1] at e; exact h v j hv e
  | some i =>
    simp only [e1] at e
    by_cases z : 10 ≤ now - i.2.2.2.1
    · rw [if_pos z] at e
      have e2 : sup sn u none v = some j := e
      unfold sup at e2
      by_cases w : v = u
      · rw [if_pos w] at e2; cases e2
      · rw [if_neg w] at e2; exact h v j hv e2
    · rw [if_neg z] at e; exact h v j hv e
theorem dv_ps {u k : Nat} (h : ∀ e, e < 3 → dv_ok (cn e)) (hj : ∀ v j, v < 2 → sn v = some j → j.1 < 3) (hu : u < 2) : ∀ e, e < 3 → dv_ok ((ps_1 now u (cn, sn, k)).1 e) := by
  intro e he
  unfold ps_1
  cases e1 : sn u with
  | none => simp only [e1]; exact h e he
  | some j =>
    simp only [e1]
    by_cases z : 10 ≤ now - j.2.2.2.1
    · rw [if_pos z]
      have bl := ba_len (m := 504) (g := 0) (by decide) (by decide)
      exact dv_cup h (dv_anc (h j.1 (hj u j hu e1)) (by omega)) e he
    · rw [if_neg z]; exact h e he
theorem sp_pass {Post : Int32 → wo_W → Prop} {i : Int32} (cc : cx E ow G) (h : ec_k E ow G x ca cad raf og so sh sj wl cn rs tg ss cap wt sn now) (hok : js_ok wt sn) (hj : jn_ok cn wt sn) (hlen : wt.length ≤ 8) (hdv : ∀ e, e < 3 → dv_ok (cn e)) (hnow : now + 1000 < 2 ^ 30) (hsa : ∀ v j, v < 2 → sn v = some j → j.2.2.2.1 ≤ now) (h1 : 28 ≤ mc) (h2 : 5000 ≤ ms)
    (hn : ci_of i 1001 = none → Post (-1) G)
    (hp : ∀ n, ci_of i 1001 = some n → ∀ ow' G', xt E Rec ow G ow' G' → cx E ow' G' → ec_k E ow' G' x ca cad raf og so sh sj wl (fun e => dvc ((ps_of (now + n) cn sn).1 e)) rs tg ss cap (sw_of (now + n) (wt, (ps_of (now + n) cn sn).2.1)).1 (sw_of (now + n) (wt, (ps_of (now + n) cn sn).2.1)).2 (now + n) → Post (nI (ps_of (now + n) cn sn).2.2) G') : pq_EC_pass E mc ms Post G x i := by
  have hb := hok.b
  have kn := ci_none (x := i) (k := 1001) (by decide)
  have le : i ≤ (1000 : Int32) ↔ ¬ nI 1001 ≤ i := by
    rw [Int32.le_iff_toInt_le, Int32.le_iff_toInt_le, show (1000 : Int32).toInt = 1000 by decide, show (nI 1001).toInt = 1001 by decide]
    omega
  unfold pq_EC_pass pq_EC_pass_0 pq_EC_pass_11
  refine ⟨fun w => hn (kn.mpr (Or.inl w)), fun w => ⟨fun w2 => ⟨h.1.1, h.1.2.1, fun G1 e1 => ⟨3, ?_⟩⟩, fun w2 => hn (kn.mpr (Or.inr (Classical.byContradiction fun q => w2 (le.mpr q))))⟩⟩
  cases ec : ci_of i 1001 with
  | none =>
    rcases kn.mp ec with z | z
    · exact absurd z w
    · exact absurd z (le.mp w2)
  | some n =>
    obtain ⟨ei, hn1⟩ := ci_some ec
    have hp' := hp n ec
    rw [h.1.2.2.2.2.2.2.2.2.2, ei, nI_add] at e1
    obtain ⟨y1, k1⟩ := ec_now (n := now + n) h cc hb
    rw [← e1] at y1 k1
    have c1 := cc.xt y1 (by decide)
    have hsa1 : ∀ v j, v < 2 → sn v = some j → j.2.2.2.1 ≤ now + n := fun v j hv e => by have := hsa v j hv e; omega
    rw [show (0 : Int32) = nI 0 from rfl]
    refine sp_psStep (k := 0) c1 k1 hok hj (by decide) (by omega) hsa1 (by omega) (by omega) (fun c3 s3 ow3 G3 hc3 hs3 y3 cc3 k3 => ?_)
    refine sp_psStep (k := (ps_1 (now + n) 0 (cn, sn, 0)).2.2) cc3 k3 (js_ps hok) (jn_ps hj) (by decide) (by omega) (sa_ps hsa1) (by omega) (by omega) (fun c4 s4 ow4 G4 hc4 hs4 y4 cc4 k4 => ?_)
    have ok4 : js_ok wt (ps_of (now + n) cn sn).2.1 := js_ps (js_ps hok)
    have dv4 : ∀ e, e < 3 → dv_ok ((ps_of (now + n) cn sn).1 e) := dv_ps (dv_ps hdv (fun v j hv e => by have := hok.2.2.2.2 v j hv e; omega) (by decide)) (fun v j hv e => by have := (js_ps (cn := cn) (k := 0) (now := now + n) (u := 0) hok).2.2.2.2 v j hv e; omega) (by decide)
    unfold pq_EC_pass_27
    refine ⟨fun _ => ⟨k4.1.1, 0, 0, by omega, by omega, sp_swdv cc4 k4 ok4 hlen dv4 (fun G7 t7 dl => ⟨t7, 0, 0, by omega, by omega, dl 0 0 _ (fun G6 y6 cc6 k6 => ?_)⟩)⟩, fun w => absurd (by decide) w⟩
    refine hp' ow4 G6 ((((y1.mn (fun r z => by have : r = 7 := z; constructor <;> omega)).tr y3).tr y4).tr (y6.mn (fun r z => ?_))) cc6 k6
    rcases z with z | z
    · exact Rsw_e r (RswL_e ok4 r z)
    · constructor <;> omega
end SP
