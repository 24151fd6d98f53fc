def us_of (i : Nat) (ss : List sdT) : List sdT := ss.eraseIdx i ++ [ss.getD i sd_0]
theorem nd_er {os : List Nat} (h : os.Nodup) {i : Nat} (hi : i < os.length) : (os.eraseIdx i ++ [os.getD i 0]).Nodup := by
  refine List.nodup_append.mpr ⟨h.sublist (List.eraseIdx_sublist _ _), by simp, fun a ha b hb => ?_⟩
  rw [List.mem_singleton.mp hb]
  intro z
  obtain ⟨n, hn, en⟩ := List.getElem_of_mem ha
  have e5 : (os.eraseIdx i).getD n 0 = a := by rw [List.getD_eq_getElem?_getD, List.getElem?_eq_getElem hn]; exact en
  rw [List.length_eraseIdx_of_lt hi] at hn
  rw [er_get] at e5
  by_cases w : n < i
  · rw [if_pos w] at e5
    have := nd_get h (by omega) hi (e5.trans z)
    omega
  · rw [if_neg w] at e5
    have := nd_get h (by omega) hi (e5.trans z)
    omega
section SP
variable {E : wo_E} {mc ms : Nat} {G : wo_W} {o q cap li lv : Nat} {pa bd : List Nat} {vs : Nat → Option (List Nat)} {m : Option Nat} {ow : Nat → Nat} {ss : List sdT} {os : List Nat}
theorem sp_useLoop {Post : wo_W → Prop} {i c s : Nat} (cc : cx E ow G) (h : so_k E ow G o ss cap li lv os) (hl : ss.length ≤ 20) (hi : i < ss.length) (hc : c + 1 ≤ mc) (hs : s + 42 ≤ ms)
    (hp : ∀ ow' G', so_at E ow' G' o (us_of i ss) cap → xt E R5 ow G ow' G' → Post G') : ∀ k n, n + k = i → pq_So_use_2 E mc ms Post (k + 1) G c s o (some (os.getD i 0)) (nI n) := by
  have h' := h
  obtain ⟨k1, k2, k3, k4, k5, k6, k7, k8, k9, k10⟩ := h'
  have hsd := k10 i hi
  intro k
  induction k with
  | zero =>
    intro n hn
    have hn : n = i := by omega
    rw [hn]
    unfold pq_So_use_2
    refine ⟨k1, fun r hr => ⟨li, hr.trans k6, k7.1.1, 0, 0, by omega, by omega, sp_alSize k7.1 ⟨fun w => absurd w (nI_ge (by omega) (by omega)), fun _ => ⟨k1, fun r hr => ⟨li, hr.trans k6, k7.1.1, 0, 0, by omega, by omega, sp_alGet k7.1 (by omega) ⟨fun w => absurd rfl w, fun _ => ⟨k1, fun r hr => ⟨li, hr.trans k6, k7.1.1, 0, 0, by omega, by omega, li_rem cc k7 (by decide) (by omega) (fun G2 x2 f2 l2 => ?_)⟩⟩⟩⟩⟩⟩⟩⟩
    have c2 := cc.xt x2 (by decide)
    have zo : wo_ty G o ≠ 0 := by rw [k1]; decide
    have e2 := x2.eq zo (by rw [k3]; decide)
    have hsd2 := hsd.xt x2 (by decide)
    have le : (os.eraseIdx i).length = ss.length - 1 := by rw [List.length_eraseIdx_of_lt (by omega), k8]
    refine ⟨e2.1.trans k1, fun r hr => ⟨li, hr.trans ((e2.2.2.2.2.1 _).trans k6), l2.1.1, 1, 42, by omega, by omega, ?_⟩⟩
    refine li_add c2 l2 (by decide) ⟨13, hsd2.1, by decide⟩ (fun z => ?_) (fun z => ?_) (by omega) (by omega) (by omega) (fun w ow3 G3 x3 l3 => ?_)
    · have := hsd2.1; rw [z, l2.1.1] at this; cases this
    · have := hsd2.1; rw [z, l2.1.2.2.2.2.1] at this; cases this
    · have zo2 : wo_ty G2 o ≠ 0 := by rw [e2.1]; exact zo
      have e3 := x3.eq zo2 (by rw [k3]; decide)
      have x13 : xt E (fun r => r = 50) ow G ow3 G3 := x2.tr x3
      refine hp ow3 G3 ⟨li, w, _, e3.1.trans (e2.1.trans k1), k2, (x13.w zo).trans k3, (e3.2.2.1 _).trans ((e2.2.2.1 _).trans k4), (e3.2.2.1 _).trans ((e2.2.2.1 _).trans ?_), (e3.2.2.2.2.1 _).trans ((e2.2.2.2.2.1 _).trans k6), l3, ?_, nd_er k9 (by omega), fun n hn2 => ?_⟩ (x13.mn (fun a z => Or.inr z))
      · unfold us_of
        rw [k5, sm_app, sm_er ss i hi]
        simp only [sm_of]
        congr 1
        omega
      · unfold us_of
        rw [List.length_append, List.length_append, le, List.length_eraseIdx_of_lt hi]
        rfl
      · unfold us_of at hn2 ⊢
        rw [List.length_append, List.length_eraseIdx_of_lt hi] at hn2
        have hn3 : n < ss.length - 1 + 1 := hn2
        rw [app_get, app_get, le, List.length_eraseIdx_of_lt hi]
        by_cases z : n < ss.length - 1
        · rw [if_pos z, if_pos z, er_get, er_get]
          by_cases w2 : n < i
          · rw [if_pos w2, if_pos w2]; exact (k10 n (by omega)).xt x13 (by decide)
          · rw [if_neg w2, if_neg w2]; exact (k10 (n + 1) (by omega)).xt x13 (by decide)
        · have z2 : n = ss.length - 1 := by omega
          rw [if_neg z, if_neg z, if_pos z2, if_pos z2]
          exact hsd.xt x13 (by decide)
  | succ k ih =>
    intro n hn
    unfold pq_So_use_2
    refine ⟨k1, fun r hr => ⟨li, hr.trans k6, k7.1.1, 0, 0, by omega, by omega, sp_alSize k7.1 ⟨fun w => absurd w (nI_ge (by omega) (by omega)), fun _ => ⟨k1, fun r hr => ⟨li, hr.trans k6, k7.1.1, 0, 0, by omega, by omega, sp_alGet k7.1 (by omega) ⟨fun _ => ?_, fun w => ?_⟩⟩⟩⟩⟩⟩
    · rw [nI_1]
      exact ih (n + 1) (by omega)
    · have := nd_get k9 (by omega) (by omega) (Option.some.inj w)
      omega
theorem sp_use {Post : wo_W → Prop} {i : Nat} (cc : cx E ow G) (h : so_k E ow G o ss cap li lv os) (hl : ss.length ≤ 20) (hi : i < ss.length) (hc : 1 ≤ mc) (hs : 42 ≤ ms)
    (hp : ∀ ow' G', so_at E ow' G' o (us_of i ss) cap → xt E R5 ow G ow' G' → Post G') : pq_So_use E mc ms Post G o (some (os.getD i 0)) := by
  unfold pq_So_use pq_So_use_0
  exact ⟨i + 1, sp_useLoop cc h hl hi (by omega) (by omega) hp i 0 (by omega)⟩
theorem sp_kpLoop {Post : wo_W → Prop} {p : Nat} {d : sdT} (hcap : cap < 2 ^ 29) (hsz : d.2.2.2.2 < 2 ^ 29) (hpz : ow p = 0) : ∀ (k : Nat) (ss : List sdT) (os : List Nat) (G : wo_W) (c s : Nat), cx E ow G → so_k E ow G o ss cap li lv os → ss.length = k → ss.length ≤ 20 → sm_of ss < 2 ^ 29 → sd_at (im ow) G p d → p ∉ os → c + 1 ≤ mc → s + 42 ≤ ms →
    (∀ ow' G', so_at E ow' G' o (kp_go cap d.2.2.2.2 ss ++ [d]) cap → xt E R5 ow G ow' G' → Post G') → pq_So_keep_20 E mc ms Post (k + 1) G c s o (some p) (nI k) := by
  -- the adding at the end
  have h51 : ∀ (ss : List sdT) (os : List Nat) (G : wo_W) (c s : Nat), cx E ow G → so_k E ow G o ss cap li lv os → ss.length ≤ 20 → sd_at (im ow) G p d → p ∉ os → c + 1 ≤ mc → s + 42 ≤ ms → (∀ ow' G', so_at E ow' G' o (ss ++ [d]) cap → xt E R5 ow G ow' G' → Post G') → pq_So_keep_51 E mc ms Post G c s o (some p) := by
    intro ss os G c s cc h hl hsd hpo hc hs hp
    obtain ⟨k1, k2, k3, k4, k5, k6, k7, k8, k9, k10⟩ := h
    unfold pq_So_keep_51
    refine ⟨k1, fun r hr => ⟨li, hr.trans k6, k7.1.1, 1, 42, by omega, by omega, ?_⟩⟩
    refine li_add cc k7 (by decide) ⟨13, hsd.1, by decide⟩ (fun z => ?_) (fun z => ?_) (by omega) (by omega) (by omega) (fun w ow3 G3 x3 l3 => ?_)
    · have := hsd.1; rw [z, k7.1.1] at this; cases this
    · have := hsd.1; rw [z, k7.1.2.2.2.2.1] at this; cases this
    · have zo : wo_ty G o ≠ 0 := by rw [k1]; decide
      have e3 := x3.eq zo (by rw [k3]; decide)
      have hsd3 := hsd.xt x3 (by decide)
      have c3 := cc.xt x3 (by decide)
      refine ⟨e3.1.trans k1, p, rfl, hsd3.1, k2, fun G4 e4 => ?_⟩
      rw [e3.2.2.1, k5, hsd3.2.2.2.2.2.2, nI_add] at e4
      have w3 : ow3 o = 5 := (x3.w zo).trans k3
      have x4 : xt E (fun r => r = 5) ow3 G3 ow3 G4 := xt.of x3.2.2 (by rw [e4]; exact fr_si w3)
      have l4 := l3.xt c3 x4 (by decide) (by decide)
      have x14 : xt E R5 ow G ow3 G4 := (x3.mn (fun a z => Or.inr z)).tr (x4.mn (fun a z => Or.inl z))
      refine hp ow3 G4 ⟨li, w, os ++ [p], ?_, k2, w3, ?_, ?_, ?_, l4, by simp [k8], ?_, fun n hn => ?_⟩ x14
      · rw [e4]; exact e3.1.trans k1
      · rw [e4]; simpa [wo_gi, wo_si, wo_u2] using (e3.2.2.1 321).trans k4
      · rw [e4, sm_app]; simp [wo_gi, wo_si, wo_u2, sm_of]
      · rw [e4]; exact (e3.2.2.2.2.1 _).trans k6
      · refine List.nodup_append.mpr ⟨k9, by simp, fun a ha b hb => ?_⟩
        rw [List.mem_singleton.mp hb]
        intro z
        exact hpo (z ▸ ha)
      · rw [List.length_append] at hn
        have hn2 : n < ss.length + 1 := hn
        rw [app_get, app_get, k8]
        by_cases z : n < ss.length
        · rw [if_pos z, if_pos z]; exact (k10 n z).xt x14 (by decide)
        · have z2 : n = ss.length := by omega
          rw [if_neg z, if_neg z, if_pos z2, if_pos z2]; exact hsd.xt x14 (by decide)
  intro k
  induction k with
  | zero =>
    intro ss os G c s cc h hk hl hsm hsd hpo hc hs hp
    have hn : ss = [] := List.length_eq_zero_iff.mp hk
    rw [hn] at h hp
    unfold pq_So_keep_20
    exact ⟨fun _ => h51 [] os G c s cc h (by simp) hsd hpo hc hs hp, fun w => absurd (by decide) w⟩
  | succ k ih =>
    intro ss os G c s cc h hk hl hsm hsd hpo hc hs hp
    have h' := h
    obtain ⟨k1, k2, k3, k4, k5, k6, k7, k8, k9, k10⟩ := h'
    cases ss with
    | nil => cases hk
    | cons e l =>
      unfold kp_go at hp
      unfold pq_So_keep_20
      refine ⟨fun w => absurd w (nI_nle (by omega) (by omega)), fun _ => ⟨k1, p, rfl, hsd.1, fun w => ?_, fun w => ?_⟩⟩
      · rw [k5, hsd.2.2.2.2.2.2, nI_add, k4] at w
        have := (nI_leI (by omega) (by omega)).mp w
        rw [if_neg (by omega)] at hp
        exact h51 (e :: l) os G c s cc h hl hsd hpo hc hs hp
      · rw [k5, hsd.2.2.2.2.2.2, nI_add, k4] at w
        have z : cap < sm_of (e :: l) + d.2.2.2.2 := Nat.lt_of_not_le (fun y => w (nI_le y (by omega)))
        rw [if_pos z] at hp
        refine ⟨0, 0, by omega, by omega, sp_drop (i := 0) cc h (by omega) (by simp) (fun G2 h2 x2 => ?_)⟩
        have e3 : nI (k + 1) + (-1) = nI k := by rw [sb_m1 (by omega)]; rfl
        rw [e3]
        have hsm2 : sm_of l < 2 ^ 29 := by
          have : sm_of (e :: l) = e.2.2.2.2 + sm_of l := rfl
          omega
        have hk2 : l.length = k := by simpa using hk
        refine ih l (os.eraseIdx 0) G2 _ _ (cc.xt x2 (by decide)) h2 hk2 (by rw [List.length_cons] at hl; omega) hsm2 (hsd.xt x2 (by decide)) (fun z => hpo (List.mem_of_mem_eraseIdx z)) (by omega) (by omega) (fun ow' G' h3 x3 => hp ow' G' h3 (x2.tr x3))
theorem sp_keep {Post : wo_W → Prop} {p : Nat} {d : sdT} (cc : cx E ow G) (h : so_k E ow G o ss cap li lv os) (hl : ss.length ≤ 20) (hcap : cap < 2 ^ 29) (hsz : d.2.2.2.2 < 2 ^ 29) (hsm : sm_of ss < 2 ^ 29) (hsd : sd_at (im ow) G p d) (hpo : p ∉ os) (hc : 1 ≤ mc) (hs : 42 ≤ ms)
    (hp : ∀ ow' G', so_at E ow' G' o (kp_of cap d ss) cap → xt E R5 ow G ow' G' → Post G') : pq_So_keep E mc ms Post G o (some p) := by
  have h' := h
  obtain ⟨k1, k2, k3, k4, k5, k6, k7, k8, k9, k10⟩ := h'
  unfold kp_of at hp
  unfold pq_So_keep pq_So_keep_0
  refine ⟨p, rfl, hsd.1, k1, fun w => fun r hr => ⟨li, hr.trans k6, k7.1.1, 0, 0, by omega, by omega, sp_alSize k7.1 ⟨ss.length + 1, ?_⟩⟩, fun w => ?_⟩
  · rw [hsd.2.2.2.2.2.2, k4] at w
    have := (nI_leI (by omega) (by omega)).mp w
    rw [if_neg (by omega)] at hp
    rw [k8]
    exact sp_kpLoop hcap hsz hsd.2.1 ss.length ss os G _ _ cc h rfl hl hsm hsd hpo (by omega) (by omega) hp
  · rw [hsd.2.2.2.2.2.2, k4] at w
    have z : cap < d.2.2.2.2 := Nat.lt_of_not_le (fun y => w (nI_le y (by omega)))
    rw [if_pos z] at hp
    exact hp ow G ⟨li, lv, os, h⟩ (xt.rf cc.2)
theorem sp_sdInit {Post : wo_W → Prop} {p y t z : Nat} {r : rpT} (cc : cx E ow G) (hq0 : wo_ty G p = 0) (hqb : en_bs E ≤ p) (hr : rp_A (im ow) G y r) (hq : rq_at (im ow) G q m pa bd vs)
    (hp : ∀ G', fr_W fr_0 G G' → xt E (fun _ => False) ow G ow G' → sd_at (im ow) G' p (r, pa, vs 5, t, z) → Post G') : pq_Sd_init E mc ms Post (wo_new G p 14) p (some y) (some q) (nI t) (nI z) := by
  have hq' := hq
  obtain ⟨y1, y2, y3, ⟨y4, y5, y6⟩, y7, y8⟩ := hq'
  have qp : q ≠ p := fun e => by rw [e, hq0] at y1; cases y1
  have en := wo_eq_new (G := G) (k := 14) qp
  unfold pq_Sd_init pq_Sd_init_0
  refine ⟨by simp [wo_ty, wo_new, wo_u1], hqb, fun G1 e1 => ⟨q, rfl, by rw [e1]; exact en.1.trans y1, fun r1 hr1 => ⟨hqb, fun G2 e2 => fun r2 hr2 => ⟨hqb, fun G3 e3 => ⟨hqb, fun G4 e4 => ⟨hqb, fun G5 e5 => ?_⟩⟩⟩⟩⟩⟩
  have er1 : r1 = some y4 := by
    rw [hr1, e1]
    have : wo_gr (wo_sr (wo_new G p 14) 832 p (some y)) 513 q = wo_gr (wo_new G p 14) 513 q := by simp [wo_gr, wo_sr, wo_u2]
    rw [this, en.2.2.2.2.1, y5]
  have er2 : r2 = wo_gr G 520 q := by
    rw [hr2, e2, e1]
    have : wo_gr (wo_sr (wo_sr (wo_new G p 14) 832 p (some y)) 833 p r1) 520 q = wo_gr (wo_new G p 14) 520 q := by simp [wo_gr, wo_sr, wo_u2]
    rw [this, en.2.2.2.2.1]
  have f : fr_W (fun x => x = p) G G5 := by
    rw [e5, e4, e3, e2, e1]
    exact fr_tr (fr_tr (fr_tr (fr_tr (fr_tr (fr_new hq0) (fr_sr rfl)) (fr_sr rfl)) (fr_sr rfl)) (fr_si rfl)) (fr_si rfl)
  have f0 : fr_W fr_0 G G5 := fr_mn (fun a ha e => ha (by rw [e]; exact hq0)) f
  have x : xt E (fun _ => False) ow G ow G5 := xt.of cc.2 f0
  have nF : ¬ (fun _ : Nat => False) 0 := fun w => w
  have ty : wo_ty G5 p = 14 := by rw [e5, e4, e3, e2, e1]; simp [wo_ty, wo_new, wo_si, wo_sr, wo_u1]
  refine hp G5 f0 x ⟨ty, cc.2.z hq0, ⟨y, ?_, rp_at.xt hr x nF⟩, ⟨y4, ?_, y6.xt x nF⟩, ?_, ?_, ?_⟩
  · rw [e5, e4, e3, e2, e1]; simp [wo_gr, wo_si, wo_sr, wo_u2]
  · rw [e5, e4, e3, e2, er1]; simp [wo_gr, wo_si, wo_sr, wo_u2]
  · have : wo_gr G5 834 p = wo_gr G 520 q := by rw [e5, e4, e3, er2]; simp [wo_gr, wo_si, wo_sr, wo_u2]
    rw [this]
    exact (y8 5 (by decide)).xt x nF
  · rw [e5, e4]; simp [wo_gi, wo_si, wo_sr, wo_u2]
  · rw [e5]; simp [wo_gi, wo_si, wo_sr, wo_u2]
end SP
