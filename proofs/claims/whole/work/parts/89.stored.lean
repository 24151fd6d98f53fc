abbrev sdT : Type := rpT × List Nat × Option (List Nat) × Nat × Nat
def sd_0 : sdT := ((0, [], 0, [], false), [], none, 0, 0)
def sd_at (im : Nat → Prop) (G : wo_W) (p : Nat) (d : sdT) : Prop := wo_ty G p = 14 ∧ im p ∧ (∃ q, wo_gr G 832 p = some q ∧ rp_A im G q d.1) ∧ (∃ q, wo_gr G 833 p = some q ∧ tx_i im G q d.2.1) ∧ tx_oi im G (wo_gr G 834 p) d.2.2.1 ∧ wo_gi G 835 p = nI d.2.2.2.1 ∧ wo_gi G 836 p = nI d.2.2.2.2
def sm_of : List sdT → Nat
  | [] => 0
  | d :: l => d.2.2.2.2 + sm_of l
def so_k (E : wo_E) (ow : Nat → Nat) (G : wo_W) (o : Nat) (ss : List sdT) (cap li lv : Nat) (os : List Nat) : Prop := wo_ty G o = 6 ∧ en_bs E ≤ o ∧ ow o = 5 ∧ wo_gi G 321 o = nI cap ∧ wo_gi G 322 o = nI (sm_of ss) ∧ wo_gr G 320 o = some li ∧ li_at E ow 50 G li lv os ∧ os.length = ss.length ∧ os.Nodup ∧ ∀ i, i < ss.length → sd_at (im ow) G (os.getD i 0) (ss.getD i sd_0)
def so_at (E : wo_E) (ow : Nat → Nat) (G : wo_W) (o : Nat) (ss : List sdT) (cap : Nat) : Prop := ∃ (li lv : Nat) (os : List Nat), so_k E ow G o ss cap li lv os
def ft_of (pa : List Nat) (v : Option (List Nat)) (d : sdT) : Bool := decide (d.2.1 = pa) && (!d.1.2.2.2.2 || decide (d.2.2.1 = v))
def lf_of (po : List Nat) : Nat := match nb_of 115 po with
  | some (some n) => n
  | _ => nb_v (nb_of 109 po)
def fi_of (pa : List Nat) (v : Option (List Nat)) : List sdT → Option Nat
  | [] => none
  | d :: l => if ft_of pa v d = true then some 0 else (fi_of pa v l).map (fun i => i + 1)
theorem sd_at.xt {E : wo_E} {R : Nat → Prop} {ow ow1 : Nat → Nat} {G G1 : wo_W} {p : Nat} {d : sdT} (h : sd_at (im ow) G p d) (x : xt E R ow G ow1 G1) (h0 : ¬ R 0) : sd_at (im ow1) G1 p d := by
  obtain ⟨h1, h2, ⟨q, h3, h4⟩, ⟨q2, h5, h6⟩, h7, h8, h9⟩ := h
  have nz : wo_ty G p ≠ 0 := by rw [h1]; decide
  have e := x.eq nz (fun z => h0 (by rw [← show ow p = 0 from h2]; exact z))
  exact ⟨e.1.trans h1, (x.w nz).trans h2, ⟨q, (e.2.2.2.2.1 _).trans h3, rp_at.xt h4 x h0⟩, ⟨q2, (e.2.2.2.2.1 _).trans h5, h6.xt x h0⟩, by rw [e.2.2.2.2.1]; exact h7.xt x h0, (e.2.2.1 _).trans h8, (e.2.2.1 _).trans h9⟩
theorem so_k.xt {E : wo_E} {R : Nat → Prop} {ow ow1 : Nat → Nat} {G G1 : wo_W} {o cap li lv : Nat} {ss : List sdT} {os : List Nat} (h : so_k E ow G o ss cap li lv os) (c : cx E ow G) (x : xt E R ow G ow1 G1) (h0 : ¬ R 0) (h5 : ¬ R 5) (h50 : ¬ R 50) : so_k E ow1 G1 o ss cap li lv os := by
  obtain ⟨k1, k2, k3, k4, k5, k6, k7, k8, k9, k10⟩ := h
  have zo : wo_ty G o ≠ 0 := by rw [k1]; decide
  have e := x.eq zo (by rw [k3]; exact h5)
  exact ⟨e.1.trans k1, k2, (x.w zo).trans k3, (e.2.2.1 _).trans k4, (e.2.2.1 _).trans k5, (e.2.2.2.2.1 _).trans k6, k7.xt c x h0 h50, k8, k9, fun i hi => (k10 i hi).xt x h0⟩
theorem so_at.xt {E : wo_E} {R : Nat → Prop} {ow ow1 : Nat → Nat} {G G1 : wo_W} {o cap : Nat} {ss : List sdT} (h : so_at E ow G o ss cap) (c : cx E ow G) (x : xt E R ow G ow1 G1) (h0 : ¬ R 0) (h5 : ¬ R 5) (h50 : ¬ R 50) : so_at E ow1 G1 o ss cap := by
  obtain ⟨li, lv, os, k⟩ := h
  exact ⟨li, lv, os, k.xt c x h0 h5 h50⟩
theorem fi_lt {pa : List Nat} {v : Option (List Nat)} : ∀ {ss : List sdT} {i : Nat}, fi_of pa v ss = some i → i < ss.length := by
  intro ss
  induction ss with
  | nil => intro i h; cases h
  | cons r l ih =>
    intro i h
    unfold fi_of at h
    by_cases z : ft_of pa v r = true
    · rw [if_pos z] at h; cases h; simp
    · rw [if_neg z] at h
      cases e : fi_of pa v l with
      | none => rw [e] at h; cases h
      | some k =>
        rw [e] at h
        have h2 : k + 1 = i := Option.some.inj h
        have := ih e
        rw [List.length_cons]
        omega
theorem nb_max2 {st : Option (Option Nat)} (h : nb_v st < 2 ^ 31) : wo_max 0 (nb_I st) = nI (nb_v st) := by
  cases st with
  | none => decide
  | some q => cases q with
    | none => decide
    | some n =>
      have : wo_max (nI 0) (nI n) = nI (max 0 n) := nI_max (by decide) h
      rw [Nat.max_eq_right (Nat.zero_le _)] at this
      exact this
section SP
variable {E : wo_E} {mc ms : Nat} {G : wo_W} {o p q : Nat} {pa bd : List Nat} {vs : Nat → Option (List Nat)} {m : Option Nat} {d : sdT} {im : Nat → Prop} {x : Option Nat} {v : Option (List Nat)}
theorem sp_hasVariant {Post : Int32 → wo_W → Prop} (h : sd_at im G p d) (hv : tx_oi im G x v) (hp : Post (bo_I (decide (d.2.2.1 = v))) G) : pq_Sd_hasVariant E mc ms Post G p x := by
  obtain ⟨h1, h2, h3, h4, h5, h6, h7⟩ := h
  unfold pq_Sd_hasVariant pq_Sd_hasVariant_0 pq_Sd_hasVariant_11 pq_Sd_hasVariant_26 pq_Sd_hasVariant_27
  refine ⟨h1, fun r hr => ⟨fun e => ⟨h1, fun r2 hr2 => ⟨fun e2 => ⟨fun e3 => ?_, fun a e3 => ?_⟩, fun a e2 => ?_⟩⟩, fun a e => ⟨fun e2 => ⟨h1, fun r2 hr2 => ⟨fun e3 => ?_, fun b e3 => ?_⟩⟩, fun b e2 r2 hr2 => ?_⟩⟩⟩
  · rw [h5.none (hr ▸ e), hv.none e3] at hp
    exact ⟨tx_ok1, hp⟩
  · obtain ⟨t, e4, _⟩ := hv.some e3
    rw [h5.none (hr ▸ e), e4] at hp
    exact ⟨tx_ok0, hp⟩
  · rw [hr2, ← hr, e] at e2; cases e2
  · rw [hr2, ← hr, e] at e3; cases e3
  · obtain ⟨t, e4, _⟩ := h5.some (hr ▸ e)
    rw [hv.none e2, e4] at hp
    exact ⟨tx_ok0, hp⟩
  · obtain ⟨t, e4, i4, l4⟩ := h5.some (hr ▸ e)
    obtain ⟨u, e5, i5, l5⟩ := hv.some e2
    rw [e4, e5] at hp
    refine ⟨a, hr2.trans (hr ▸ e), i4.1.1, 0, 0, Nat.zero_le _, Nat.zero_le _, sp_equals i4.1 i5.1 ?_⟩
    by_cases z : t = u
    · rw [if_pos z]
      rw [show decide (some t = some u) = true from decide_eq_true (by rw [z])] at hp
      exact ⟨tx_ok1, hp⟩
    · rw [if_neg z]
      rw [show decide (some t = some u) = false from decide_eq_false (fun w => z (Option.some.inj w))] at hp
      exact ⟨tx_ok0, hp⟩
theorem sp_fits {Post : Int32 → wo_W → Prop} (h : sd_at im G p d) (hq : rq_at im G q m pa bd vs) (hp : Post (bo_I (ft_of pa (vs 5) d)) G) : pq_Sd_fits E mc ms Post G p (some q) := by
  have h' := h
  obtain ⟨h1, h2, ⟨s1, h3, h4⟩, ⟨s2, h5, h6⟩, h7, h8, h9⟩ := h'
  obtain ⟨y1, y2, y3, ⟨y4, y5, y6⟩, y7, y8⟩ := hq
  unfold ft_of at hp
  unfold pq_Sd_fits pq_Sd_fits_0 pq_Sd_fits_39 pq_Sd_fits_35 pq_Sd_fits_40
  refine ⟨h1, fun r hr => ⟨q, rfl, y1, fun r2 hr2 => ⟨s2, hr.trans h5, h6.1.1, 0, 0, Nat.zero_le _, Nat.zero_le _, ?_⟩⟩⟩
  rw [hr2, y5]
  refine sp_equals h6.1 y6.1 ?_
  by_cases z : d.2.1 = pa
  · rw [if_pos z]
    rw [show decide (d.2.1 = pa) = true from decide_eq_true z, Bool.true_and] at hp
    refine ⟨fun w => absurd w (by decide), fun _ => ⟨h1, fun r hr => ⟨s1, hr.trans h3, h4.1, fun w => ?_, fun w => ⟨y1, fun r2 hr2 => ⟨0, 0, Nat.zero_le _, Nat.zero_le _, ?_⟩⟩⟩⟩⟩
    · rw [h4.2.2.2.2.2.2.2.2] at w
      have : d.1.2.2.2.2 = false := by
        cases hb : d.1.2.2.2.2 with
        | false => rfl
        | true => rw [hb] at w; exact absurd w (by decide)
      rw [this] at hp
      exact ⟨tx_ok1, hp⟩
    · rw [h4.2.2.2.2.2.2.2.2] at w
      have hb : d.1.2.2.2.2 = true := by
        cases hb : d.1.2.2.2.2 with
        | true => rfl
        | false => rw [hb] at w; exact absurd rfl w
      rw [hb] at hp
      have v5 := y8 5 (by decide)
      rw [show (515 + 5) = 520 from rfl, ← hr2] at v5
      refine sp_hasVariant h v5 ?_
      rw [show (!true || decide (d.2.2.1 = vs 5)) = decide (d.2.2.1 = vs 5) from Bool.false_or _] at hp
      cases hd : decide (d.2.2.1 = vs 5) with
      | false => rw [hd] at hp; exact ⟨fun _ => ⟨tx_ok0, hp⟩, fun w => absurd rfl w⟩
      | true => rw [hd] at hp; exact ⟨fun w => absurd w (by decide), fun _ => ⟨tx_ok1, hp⟩⟩
  · rw [if_neg z]
    rw [show decide (d.2.1 = pa) = false from decide_eq_false z, Bool.false_and] at hp
    exact ⟨fun _ => ⟨tx_ok0, hp⟩, fun w => absurd rfl w⟩
theorem sp_lifetime {Post : Int32 → wo_W → Prop} (h : sd_at im G p d) (hp : Post (nI (lf_of d.1.2.2.2.1)) G) : pq_Sd_lifetime E mc ms Post G p := by
  obtain ⟨h1, h2, ⟨s1, h3, h4⟩, _⟩ := h
  have h4' := h4
  obtain ⟨r1, r2, r3, r4, r5, r8, r9, ⟨s2, j1, j2, j3⟩, j4⟩ := h4'
  have b1 := nb_b (x := 115) j3
  have b2 := nb_b (x := 109) j3
  unfold lf_of at hp
  unfold pq_Sd_lifetime pq_Sd_lifetime_0 pq_Sd_lifetime_37
  refine ⟨h1, fun r hr => ⟨s1, hr.trans h3, r1, fun r2 hr2 => ⟨0, 0, Nat.zero_le _, Nat.zero_le _, ?_⟩⟩⟩
  rw [hr2, j1]
  refine sp_number (x := 115) j2.1 j3 (by decide) ?_
  have low : (Post (nI (nb_v (nb_of 109 d.1.2.2.2.1))) G) → wo_ty G p = 14 ∧ ∀ r13 : Option Nat, r13 = wo_gr G 832 p → ∃ a15 : Nat, r13 = some a15 ∧ wo_ty G a15 = 13 ∧ ∀ r17 : Option Nat, r17 = wo_gr G 771 a15 → ∃ mc19 ms20 : Nat, ((0 + 0) + mc19) ≤ mc ∧ ((0 + 0) + ms20) ≤ ms ∧ pq_Tx_number E mc19 ms20 (fun v22 G21 => Post (wo_max (0 : Int32) v22) G21) G r17 (109 : Int32) := by
    intro hp
    refine ⟨h1, fun r hr => ⟨s1, hr.trans h3, r1, fun r2 hr2 => ⟨0, 0, Nat.zero_le _, Nat.zero_le _, ?_⟩⟩⟩
    rw [hr2, j1]
    refine sp_number (x := 109) j2.1 j3 (by decide) ?_
    show Post (wo_max 0 (nb_I (nb_of 109 d.1.2.2.2.1))) G
    rw [nb_max2 (by omega)]
    exact hp
  cases e : nb_of 115 d.1.2.2.2.1 with
  | none =>
    rw [e] at hp
    exact ⟨fun _ => low hp, fun w => absurd (by decide) w⟩
  | some q => cases q with
    | none =>
      rw [e] at hp
      exact ⟨fun _ => low hp, fun w => absurd (by decide) w⟩
    | some n =>
      rw [e] at hp b1
      exact ⟨fun w => absurd w (nI_pos (n := n) (by have : n < 10 ^ 8 := b1; omega)), fun _ => hp⟩
end SP
section SP
variable {E : wo_E} {mc ms : Nat} {G : wo_W} {o q cap li lv : Nat} {pa bd : List Nat} {vs : Nat → Option (List Nat)} {m : Option Nat} {ow : Nat → Nat} {ss : List sdT} {os : List Nat}
theorem sp_soCount {Post : Int32 → wo_W → Prop} (h : so_k E ow G o ss cap li lv os) (hp : Post (nI ss.length) G) : pq_So_count E mc ms Post G o := by
  obtain ⟨k1, k2, k3, k4, k5, k6, k7, k8, k9, k10⟩ := h
  unfold pq_So_count pq_So_count_0
  refine ⟨k1, fun r hr => ⟨li, hr.trans k6, k7.1.1, 0, 0, Nat.zero_le _, Nat.zero_le _, sp_alSize k7.1 ?_⟩⟩
  rw [k8]
  exact hp
theorem sp_fiLoop {Post : Option Nat → wo_W → Prop} {c s : Nat} (h : so_k E ow G o ss cap li lv os) (hl : ss.length ≤ 100) (hq : rq_at (im ow) G q m pa bd vs) (hc : c ≤ mc) (hs : s ≤ ms) : ∀ k i, i + k = ss.length → Post (match fi_of pa (vs 5) (ss.drop i) with | none => none | some n => some (os.getD (i + n) 0)) G → pq_So_fitting_2 E mc ms Post (k + 1) G c s o (some q) (nI i) := by
  obtain ⟨k1, k2, k3, k4, k5, k6, k7, k8, k9, k10⟩ := h
  intro k
  induction k with
  | zero =>
    intro i hi hp
    unfold pq_So_fitting_2
    refine ⟨k1, fun r hr => ⟨li, hr.trans k6, k7.1.1, 0, 0, hc, hs, sp_alSize k7.1 ⟨fun _ => ?_, fun w => absurd (nI_le (by omega) (by omega)) w⟩⟩⟩
    rw [List.drop_of_length_le (by omega)] at hp
    exact hp
  | succ k ih =>
    intro i hi hp
    have hd : ss.drop i = ss.getD i sd_0 :: ss.drop (i + 1) := by
      rw [List.drop_eq_getElem_cons (by omega), List.getD_eq_getElem?_getD, List.getElem?_eq_getElem (by omega)]
      rfl
    have hsd := k10 i (by omega)
    rw [hd] at hp
    unfold fi_of at hp
    unfold pq_So_fitting_2
    refine ⟨k1, fun r hr => ⟨li, hr.trans k6, k7.1.1, 0, 0, hc, hs, sp_alSize k7.1 ⟨fun w => absurd w (nI_ge (by omega) (by omega)), fun _ => ⟨k1, fun r hr => ⟨li, hr.trans k6, k7.1.1, 0, 0, hc, hs, sp_alGet k7.1 (by omega) ⟨fun a ha => (by cases ha; exact hsd.1), os.getD i 0, rfl, hsd.1, 0, 0, hc, hs, sp_fits hsd hq ?_⟩⟩⟩⟩⟩⟩
    cases z : ft_of pa (vs 5) (ss.getD i sd_0) with
    | true =>
      rw [if_pos z] at hp
      exact ⟨fun w => absurd w (by decide), fun _ => ⟨k1, fun r hr => ⟨li, hr.trans k6, k7.1.1, 0, 0, hc, hs, sp_alGet k7.1 (by omega) ⟨fun a ha => (by cases ha; exact hsd.1), hp⟩⟩⟩⟩
    | false =>
      rw [if_neg (by rw [z]; decide)] at hp
      refine ⟨fun _ => ?_, fun w => absurd rfl w⟩
      rw [nI_1]
      refine ih (i + 1) (by omega) ?_
      cases e : fi_of pa (vs 5) (ss.drop (i + 1)) with
      | none => rw [e] at hp; exact hp
      | some n =>
        rw [e] at hp
        show Post (some (os.getD (i + 1 + n) 0)) G
        have e2 : i + 1 + n = i + (n + 1) := by omega
        rw [e2]
        exact hp
theorem sp_fitting {Post : Option Nat → wo_W → Prop} (h : so_k E ow G o ss cap li lv os) (hl : ss.length ≤ 100) (hq : rq_at (im ow) G q m pa bd vs) (hp : Post (match fi_of pa (vs 5) ss with | none => none | some n => some (os.getD n 0)) G) : pq_So_fitting E mc ms Post G o (some q) := by
  unfold pq_So_fitting pq_So_fitting_0
  refine ⟨ss.length + 1, sp_fiLoop h hl hq (Nat.zero_le _) (Nat.zero_le _) ss.length 0 (by omega) ?_⟩
  rw [List.drop_zero]
  cases e : fi_of pa (vs 5) ss with
  | none => rw [e] at hp; exact hp
  | some n =>
    rw [e] at hp
    show Post (some (os.getD (0 + n) 0)) G
    rw [Nat.zero_add]
    exact hp
end SP
