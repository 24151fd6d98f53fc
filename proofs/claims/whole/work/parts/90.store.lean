abbrev R5 : Nat → Prop := fun r => r = 5 ∨ r = 50
def dr_k (f : sdT → Bool) : Nat → List sdT → List sdT
  | 0, ss => ss
  | k + 1, ss => dr_k f k (if f (ss.getD k sd_0) = true then ss.eraseIdx k else ss)
def dr_of (f : sdT → Bool) (ss : List sdT) : List sdT := dr_k f ss.length ss
def kp_go (cap sz : Nat) : List sdT → List sdT
  | [] => []
  | d :: l => if cap < sm_of (d :: l) + sz then kp_go cap sz l else d :: l
def kp_of (cap : Nat) (d : sdT) (ss : List sdT) : List sdT := if cap < d.2.2.2.2 then ss else kp_go cap d.2.2.2.2 ss ++ [d]
def rl_of (pa : List Nat) (v : Option (List Nat)) (vr : Bool) (d : sdT) : Bool := (decide (d.2.1 = pa) && decide (d.1.2.2.2.2 ≠ vr)) || ft_of pa v d
theorem sm_app (a b : List sdT) : sm_of (a ++ b) = sm_of a + sm_of b := by
  induction a with
  | nil => simp [sm_of]
  | cons d l ih => simp only [List.cons_append, sm_of, ih]; omega
theorem sm_er : ∀ (ss : List sdT) (i : Nat), i < ss.length → sm_of ss = (ss.getD i sd_0).2.2.2.2 + sm_of (ss.eraseIdx i) := by
  intro ss
  induction ss with
  | nil => intro i hi; exact absurd hi (Nat.not_lt_zero _)
  | cons d l ih =>
    intro i hi
    cases i with
    | zero => rfl
    | succ i =>
      have := ih i (by simpa using hi)
      show d.2.2.2.2 + sm_of l = (l.getD i sd_0).2.2.2.2 + (d.2.2.2.2 + sm_of (l.eraseIdx i))
      omega
theorem dr_fil (f : sdT → Bool) : ∀ (k : Nat) (ss : List sdT), k ≤ ss.length → dr_k f k ss = (ss.take k).filter (fun d => !f d) ++ ss.drop k := by
  intro k
  induction k with
  | zero => intro ss _; simp [dr_k]
  | succ k ih =>
    intro ss hk
    unfold dr_k
    have h1 : k < ss.length := by omega
    have hg : ss.getD k sd_0 = ss[k] := by rw [List.getD_eq_getElem?_getD, List.getElem?_eq_getElem h1]; rfl
    have ht : ss.take (k + 1) = ss.take k ++ [ss[k]] := by rw [List.take_succ, List.getElem?_eq_getElem h1]; rfl
    have hd : ss.drop k = ss[k] :: ss.drop (k + 1) := List.drop_eq_getElem_cons h1
    rw [hg, ht, List.filter_append]
    by_cases z : f ss[k] = true
    · rw [if_pos z, ih _ (by rw [List.length_eraseIdx_of_lt h1]; omega)]
      have e1 : (ss.eraseIdx k).take k = ss.take k := by rw [List.eraseIdx_eq_take_drop_succ, List.take_append_of_le_length (by rw [List.length_take]; omega), List.take_take, Nat.min_self]
      have e2 : (ss.eraseIdx k).drop k = ss.drop (k + 1) := by
        rw [List.eraseIdx_eq_take_drop_succ, List.drop_append_of_le_length (by rw [List.length_take]; omega)]
        rw [List.drop_of_length_le (by rw [List.length_take]; omega)]
        rfl
      rw [e1, e2]
      simp [z]
    · rw [if_neg z, ih ss (by omega), hd]
      simp [z]
theorem dr_filter (f : sdT → Bool) (ss : List sdT) : dr_of f ss = ss.filter (fun d => !f d) := by
  unfold dr_of
  rw [dr_fil f ss.length ss (Nat.le_refl _)]
  simp
theorem nI_down {k : Nat} : nI (k + 1) - 1 + (-1) = nI k - 1 := by
  rw [nI_pred, Int32.sub_eq_add_neg]
section SP
variable {E : wo_E} {mc ms : Nat} {G : wo_W} {o q cap li lv : Nat} {pa bd : List Nat} {vs : Nat → Option (List Nat)} {m : Option Nat} {ow : Nat → Nat} {ss : List sdT} {os : List Nat}
theorem sp_drop {Post : wo_W → Prop} {i : Nat} (c : cx E ow G) (h : so_k E ow G o ss cap li lv os) (hl : ss.length ≤ 100) (hi : i < ss.length) (hp : ∀ G', so_k E ow G' o (ss.eraseIdx i) cap li lv (os.eraseIdx i) → xt E R5 ow G ow G' → Post G') : pq_So_drop E mc ms Post G o (nI i) := by
  obtain ⟨k1, k2, k3, k4, k5, k6, k7, k8, k9, k10⟩ := h
  have hsd := k10 i hi
  have hsm := sm_er ss i hi
  unfold pq_So_drop pq_So_drop_0 pq_So_drop_47
  refine ⟨fun w => absurd w (nI_pos (by omega)), fun _ => ⟨k1, fun r hr => ⟨li, hr.trans k6, k7.1.1, 0, 0, Nat.zero_le _, Nat.zero_le _, sp_alSize k7.1 ⟨fun w => absurd w (nI_ge (by omega) (by omega)), fun _ => ⟨k1, fun r hr => ⟨li, hr.trans k6, k7.1.1, 0, 0, Nat.zero_le _, Nat.zero_le _, sp_alGet k7.1 (by omega) ⟨fun a ha => (by cases ha; exact hsd.1), os.getD i 0, rfl, hsd.1, k1, k2, fun G2 e2 => fun r hr => ?_⟩⟩⟩⟩⟩⟩⟩
  rw [k5, hsd.2.2.2.2.2.2, hsm, pk_sub (by omega), Nat.add_sub_cancel_left] at e2
  have f2 : fr_W (fun x => x = o) G G2 := by rw [e2]; exact fr_si rfl
  have x2 : xt E (fun r => r = 5) ow G ow G2 := xt.of c.2 (fr_mn (fun y _ z => by show ow y = 5; rw [z]; exact k3) f2)
  have c2 := c.xt x2 (by decide)
  have l2 := k7.xt c x2 (by decide) (by decide)
  have g6 : wo_gr G2 320 o = some li := by rw [e2]; exact k6
  refine ⟨li, hr.trans g6, l2.1.1, 0, 0, Nat.zero_le _, Nat.zero_le _, li_rem c2 l2 (by decide) (by omega) (fun G3 x3 f3 l3 => ?_)⟩
  have x13 : xt E R5 ow G ow G3 := (x2.mn (fun a z => Or.inl z)).tr (x3.mn (fun a z => Or.inr z))
  have zo2 : wo_ty G2 o ≠ 0 := by rw [e2]; show wo_ty G o ≠ 0; rw [k1]; decide
  have e3 := x3.eq zo2 (by rw [k3]; decide)
  refine hp G3 ⟨e3.1.trans (by rw [e2]; exact k1), k2, k3, (e3.2.2.1 _).trans ?_, (e3.2.2.1 _).trans ?_, (e3.2.2.2.2.1 _).trans g6, l3, ?_, k9.sublist (List.eraseIdx_sublist _ _), fun n hn => ?_⟩ x13
  · rw [e2]; simpa [wo_gi, wo_si, wo_u2] using k4
  · rw [e2]; simp [wo_gi, wo_si, wo_u2]
  · rw [List.length_eraseIdx_of_lt (by omega), List.length_eraseIdx_of_lt hi, k8]
  · rw [List.length_eraseIdx_of_lt hi] at hn
    rw [er_get, er_get]
    by_cases z : n < i
    · rw [if_pos z, if_pos z]; exact (k10 n (by omega)).xt x13 (by decide)
    · rw [if_neg z, if_neg z]; exact (k10 (n + 1) (by omega)).xt x13 (by decide)
theorem sp_dpLoop {Post : wo_W → Prop} : ∀ (k : Nat) (ss : List sdT) (os : List Nat) (G : wo_W) (c s : Nat), cx E ow G → so_k E ow G o ss cap li lv os → ss.length ≤ 100 → tx_i (im ow) G q pa → k ≤ ss.length → c ≤ mc → s ≤ ms →
    (∀ G' os', so_k E ow G' o (dr_k (fun d => decide (d.2.1 = pa)) k ss) cap li lv os' → xt E R5 ow G ow G' → Post G') → pq_So_dropPath_10 E mc ms Post (k + 1) G c s o (some q) (nI k - 1) := by
  intro k
  induction k with
  | zero =>
    intro ss os G c s cc h hl hS hk hc hs hp
    unfold pq_So_dropPath_10
    exact ⟨fun _ => hp G os h (xt.rf cc.2), fun w => absurd (by decide) w⟩
  | succ k ih =>
    intro ss os G c s cc h hl hS hk hc hs hp
    have h' := h
    obtain ⟨k1, k2, k3, k4, k5, k6, k7, k8, k9, k10⟩ := h'
    have hsd := k10 k (by omega)
    have hsd' := hsd
    obtain ⟨m1, m2, m3, ⟨s2, m4, m5⟩, m6⟩ := hsd'
    unfold dr_k at hp
    unfold pq_So_dropPath_10 pq_So_dropPath_40
    rw [nI_pred]
    refine ⟨fun w => absurd w (nI_pos (by omega)), fun _ => ⟨k1, fun r hr => ⟨li, hr.trans k6, k7.1.1, 0, 0, hc, hs, sp_alGet k7.1 (by omega) ⟨fun a ha => (by cases ha; exact m1), os.getD k 0, rfl, m1, fun r hr => ⟨s2, hr.trans m4, m5.1.1, 0, 0, hc, hs, sp_equals m5.1 hS.1 ?_⟩⟩⟩⟩⟩
    by_cases z : (ss.getD k sd_0).2.1 = pa
    · rw [if_pos z]
      simp only [decide_eq_true z, if_true] at hp
      refine ⟨fun w => absurd w (by decide), fun _ => ⟨k1, 0, 0, hc, hs, sp_drop cc h hl (by omega) (fun G2 h2 x2 => ?_)⟩⟩
      have e3 : nI k + (-1) = nI k - 1 := by rw [Int32.sub_eq_add_neg]
      rw [e3]
      exact ih _ _ G2 _ _ (cc.xt x2 (by decide)) h2 (by rw [List.length_eraseIdx_of_lt (by omega)]; omega) (hS.xt x2 (by decide)) (by rw [List.length_eraseIdx_of_lt (by omega)]; omega) hc hs (fun G' os' h3 x3 => hp G' os' h3 (x2.tr x3))
    · rw [if_neg z]
      rw [if_neg (show ¬ decide ((ss.getD k sd_0).2.1 = pa) = true by rw [decide_eq_false z]; decide)] at hp
      refine ⟨fun _ => ?_, fun w => absurd rfl w⟩
      have e3 : nI k + (-1) = nI k - 1 := by rw [Int32.sub_eq_add_neg]
      rw [e3]
      exact ih ss os G _ _ cc h hl hS (by omega) hc hs hp
theorem sp_dropPath {Post : wo_W → Prop} (cc : cx E ow G) (h : so_at E ow G o ss cap) (hl : ss.length ≤ 100) (hS : tx_i (im ow) G q pa) (hp : ∀ G', so_at E ow G' o (dr_of (fun d => decide (d.2.1 = pa)) ss) cap → xt E R5 ow G ow G' → Post G') : pq_So_dropPath E mc ms Post G o (some q) := by
  obtain ⟨li, lv, os, h⟩ := h
  have h' := h
  obtain ⟨k1, k2, k3, k4, k5, k6, k7, k8, k9, k10⟩ := h'
  unfold pq_So_dropPath pq_So_dropPath_0
  refine ⟨k1, fun r hr => ⟨li, hr.trans k6, k7.1.1, 0, 0, Nat.zero_le _, Nat.zero_le _, sp_alSize k7.1 ⟨ss.length + 1, ?_⟩⟩⟩
  rw [k8]
  exact sp_dpLoop ss.length ss os G _ _ cc h hl hS (Nat.le_refl _) (Nat.zero_le _) (Nat.zero_le _) (fun G' os' h3 x3 => hp G' ⟨li, lv, os', h3⟩ x3)
theorem sp_dfLoop {Post : wo_W → Prop} (hqr : ow q ≠ 5 ∧ ow q ≠ 50) : ∀ (k : Nat) (ss : List sdT) (os : List Nat) (G : wo_W) (c s : Nat), cx E ow G → so_k E ow G o ss cap li lv os → ss.length ≤ 100 → rq_at (im ow) G q m pa bd vs → k ≤ ss.length → c ≤ mc → s ≤ ms →
    (∀ G' os', so_k E ow G' o (dr_k (ft_of pa (vs 5)) k ss) cap li lv os' → xt E R5 ow G ow G' → Post G') → pq_So_dropFitting_10 E mc ms Post (k + 1) G c s o (some q) (nI k - 1) := by
  intro k
  induction k with
  | zero =>
    intro ss os G c s cc h hl hS hk hc hs hp
    unfold pq_So_dropFitting_10
    exact ⟨fun _ => hp G os h (xt.rf cc.2), fun w => absurd (by decide) w⟩
  | succ k ih =>
    intro ss os G c s cc h hl hS hk hc hs hp
    have h' := h
    obtain ⟨k1, k2, k3, k4, k5, k6, k7, k8, k9, k10⟩ := h'
    have hsd := k10 k (by omega)
    have e3 : nI k + (-1) = nI k - 1 := by rw [Int32.sub_eq_add_neg]
    unfold dr_k at hp
    unfold pq_So_dropFitting_10 pq_So_dropFitting_37
    rw [nI_pred]
    refine ⟨fun w => absurd w (nI_pos (by omega)), fun _ => ⟨k1, fun r hr => ⟨li, hr.trans k6, k7.1.1, 0, 0, hc, hs, sp_alGet k7.1 (by omega) ⟨fun a ha => (by cases ha; exact hsd.1), os.getD k 0, rfl, hsd.1, 0, 0, hc, hs, sp_fits hsd hS ?_⟩⟩⟩⟩
    cases z : ft_of pa (vs 5) (ss.getD k sd_0) with
    | true =>
      rw [if_pos z] at hp
      refine ⟨fun w => absurd w (by decide), fun _ => ⟨k1, 0, 0, hc, hs, sp_drop cc h hl (by omega) (fun G2 h2 x2 => ?_)⟩⟩
      rw [e3]
      exact ih _ _ G2 _ _ (cc.xt x2 (by decide)) h2 (by rw [List.length_eraseIdx_of_lt (by omega)]; omega) (hS.xt x2 (by decide) (fun z => z.elim hqr.1 hqr.2)) (by rw [List.length_eraseIdx_of_lt (by omega)]; omega) hc hs (fun G' os' h3 x3 => hp G' os' h3 (x2.tr x3))
    | false =>
      rw [if_neg (by rw [z]; decide)] at hp
      refine ⟨fun _ => ?_, fun w => absurd rfl w⟩
      rw [e3]
      exact ih ss os G _ _ cc h hl hS (by omega) hc hs hp
theorem sp_dropFitting {Post : wo_W → Prop} (cc : cx E ow G) (h : so_at E ow G o ss cap) (hl : ss.length ≤ 100) (hS : rq_at (im ow) G q m pa bd vs) (hqr : ow q ≠ 5 ∧ ow q ≠ 50) (hp : ∀ G', so_at E ow G' o (dr_of (ft_of pa (vs 5)) ss) cap → xt E R5 ow G ow G' → Post G') : pq_So_dropFitting E mc ms Post G o (some q) := by
  obtain ⟨li, lv, os, h⟩ := h
  have h' := h
  obtain ⟨k1, k2, k3, k4, k5, k6, k7, k8, k9, k10⟩ := h'
  unfold pq_So_dropFitting pq_So_dropFitting_0
  refine ⟨k1, fun r hr => ⟨li, hr.trans k6, k7.1.1, 0, 0, Nat.zero_le _, Nat.zero_le _, sp_alSize k7.1 ⟨ss.length + 1, ?_⟩⟩⟩
  rw [k8]
  exact sp_dfLoop hqr ss.length ss os G _ _ cc h hl hS (Nat.le_refl _) (Nat.zero_le _) (Nat.zero_le _) (fun G' os' h3 x3 => hp G' ⟨li, lv, os', h3⟩ x3)
theorem sp_drLoop {Post : wo_W → Prop} {vr : Bool} (hqr : ow q ≠ 5 ∧ ow q ≠ 50) : ∀ (k : Nat) (ss : List sdT) (os : List Nat) (G : wo_W) (c s : Nat), cx E ow G → so_k E ow G o ss cap li lv os → ss.length ≤ 100 → rq_at (im ow) G q m pa bd vs → k ≤ ss.length → c ≤ mc → s ≤ ms →
    (∀ G' os', so_k E ow G' o (dr_k (rl_of pa (vs 5) vr) k ss) cap li lv os' → xt E R5 ow G ow G' → Post G') → pq_So_dropReplaced_10 E mc ms Post (k + 1) G c s o (some q) (bo_I vr) (nI k - 1) := by
  intro k
  induction k with
  | zero =>
    intro ss os G c s cc h hl hS hk hc hs hp
    unfold pq_So_dropReplaced_10
    exact ⟨fun _ => hp G os h (xt.rf cc.2), fun w => absurd (by decide) w⟩
  | succ k ih =>
    intro ss os G c s cc h hl hS hk hc hs hp
    have h' := h
    obtain ⟨k1, k2, k3, k4, k5, k6, k7, k8, k9, k10⟩ := h'
    have hsd := k10 k (by omega)
    have hsd' := hsd
    obtain ⟨m1, m2, ⟨s1, m3, m7⟩, ⟨s2, m4, m5⟩, m6⟩ := hsd'
    have hS' := hS
    obtain ⟨y1, y2, y3, ⟨y4, y5, y6⟩, y7, y8⟩ := hS'
    have e3 : nI k + (-1) = nI k - 1 := by rw [Int32.sub_eq_add_neg]
    unfold dr_k at hp
    have h75 : rl_of pa (vs 5) vr (ss.getD k sd_0) = true → ∀ c s, c ≤ mc → s ≤ ms → pq_So_dropReplaced_75 E mc ms Post (pq_So_dropReplaced_10 E mc ms Post (k + 1)) G c s o (some q) (bo_I vr) (nI k) := by
      intro z c s hc hs
      rw [if_pos z] at hp
      unfold pq_So_dropReplaced_75 pq_So_dropReplaced_80
      refine ⟨k1, 0, 0, hc, hs, sp_drop cc h hl (by omega) (fun G2 h2 x2 => ?_)⟩
      rw [e3]
      exact ih _ _ G2 _ _ (cc.xt x2 (by decide)) h2 (by rw [List.length_eraseIdx_of_lt (by omega)]; omega) (hS.xt x2 (by decide) (fun z => z.elim hqr.1 hqr.2)) (by rw [List.length_eraseIdx_of_lt (by omega)]; omega) hc hs (fun G' os' h3 x3 => hp G' os' h3 (x2.tr x3))
    have h58 : (rl_of pa (vs 5) vr (ss.getD k sd_0) = ft_of pa (vs 5) (ss.getD k sd_0)) → ∀ c s, c ≤ mc → s ≤ ms → pq_So_dropReplaced_58 E mc ms Post (pq_So_dropReplaced_10 E mc ms Post (k + 1)) G c s o (some q) (bo_I vr) (nI k) (some (os.getD k 0)) := by
      intro z c s hc hs
      unfold pq_So_dropReplaced_58 pq_So_dropReplaced_59
      refine ⟨fun w => absurd rfl w, fun _ => ⟨os.getD k 0, rfl, m1, 0, 0, hc, hs, sp_fits hsd hS ?_⟩⟩
      cases w : ft_of pa (vs 5) (ss.getD k sd_0) with
      | true => exact ⟨fun w2 => absurd w2 (by decide), fun _ => h75 (z.trans w) _ _ hc hs⟩
      | false =>
        rw [if_neg (by rw [z, w]; decide)] at hp
        refine ⟨fun _ => ?_, fun w2 => absurd rfl w2⟩
        unfold pq_So_dropReplaced_80
        rw [e3]
        exact ih ss os G _ _ cc h hl hS (by omega) hc hs hp
    unfold pq_So_dropReplaced_10
    rw [nI_pred]
    refine ⟨fun w => absurd w (nI_pos (by omega)), fun _ => ⟨k1, fun r hr => ⟨li, hr.trans k6, k7.1.1, 0, 0, hc, hs, sp_alGet k7.1 (by omega) ⟨fun a ha => (by cases ha; exact m1), os.getD k 0, rfl, m1, fun r hr => ⟨q, rfl, y1, fun r2 hr2 => ⟨s2, hr.trans m4, m5.1.1, 0, 0, hc, hs, ?_⟩⟩⟩⟩⟩⟩
    rw [hr2, y5]
    refine sp_equals m5.1 y6.1 ?_
    by_cases z : (ss.getD k sd_0).2.1 = pa
    · rw [if_pos z]
      refine ⟨fun w => absurd w (by decide), fun _ => ⟨m1, fun r hr => ⟨s1, hr.trans m3, m7.1, fun w => ?_, fun w => ?_⟩⟩⟩
      · rw [m7.2.2.2.2.2.2.2.2] at w
        have e4 : (ss.getD k sd_0).1.2.2.2.2 = vr := by
          cases h1 : (ss.getD k sd_0).1.2.2.2.2 <;> cases h2 : vr <;> rw [h1, h2] at w <;> first | rfl | exact absurd w (by decide)
        refine h58 ?_ _ _ hc hs
        unfold rl_of
        rw [e4]
        simp
      · rw [m7.2.2.2.2.2.2.2.2] at w
        have e4 : (ss.getD k sd_0).1.2.2.2.2 ≠ vr := fun e => w (by rw [e])
        unfold pq_So_dropReplaced_59
        refine ⟨fun _ => h75 ?_ _ _ hc hs, fun w2 => absurd w2 (by decide)⟩
        unfold rl_of
        rw [decide_eq_true z, decide_eq_true e4]
        simp
    · rw [if_neg z]
      refine ⟨fun _ => h58 ?_ _ _ hc hs, fun w => absurd rfl w⟩
      unfold rl_of
      rw [decide_eq_false z]
      simp
theorem sp_dropReplaced {Post : wo_W → Prop} {vr : Bool} (cc : cx E ow G) (h : so_at E ow G o ss cap) (hl : ss.length ≤ 100) (hS : rq_at (im ow) G q m pa bd vs) (hqr : ow q ≠ 5 ∧ ow q ≠ 50) (hp : ∀ G', so_at E ow G' o (dr_of (rl_of pa (vs 5) vr) ss) cap → xt E R5 ow G ow G' → Post G') : pq_So_dropReplaced E mc ms Post G o (some q) (bo_I vr) := by
  obtain ⟨li, lv, os, h⟩ := h
  have h' := h
  obtain ⟨k1, k2, k3, k4, k5, k6, k7, k8, k9, k10⟩ := h'
  unfold pq_So_dropReplaced pq_So_dropReplaced_0
  refine ⟨k1, fun r hr => ⟨li, hr.trans k6, k7.1.1, 0, 0, Nat.zero_le _, Nat.zero_le _, sp_alSize k7.1 ⟨ss.length + 1, ?_⟩⟩⟩
  rw [k8]
  exact sp_drLoop hqr ss.length ss os G _ _ cc h hl hS (Nat.le_refl _) (Nat.zero_le _) (Nat.zero_le _) (fun G' os' h3 x3 => hp G' ⟨li, lv, os', h3⟩ x3)
end SP
