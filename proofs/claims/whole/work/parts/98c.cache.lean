def ci_of (x : Int32) (k : Nat) : Option Nat := if 0 ≤ x.toInt ∧ x.toInt < k then some x.toInt.toNat else none
theorem ci_some {x : Int32} {k n : Nat} (h : ci_of x k = some n) : x = nI n ∧ n < k := by
  unfold ci_of at h
  by_cases z : 0 ≤ x.toInt ∧ x.toInt < k
  · rw [if_pos z] at h
    cases h
    have hx := x.toInt_lt
    refine ⟨?_, by omega⟩
    apply Int32.toInt_inj.mp
    rw [nI_toInt (by omega)]
    omega
  · rw [if_neg z] at h; cases h
theorem ci_nI {k n : Nat} (hn : n < k) (hk : k < 2 ^ 31) : ci_of (nI n) k = some n := by
  unfold ci_of
  rw [nI_toInt (by omega), if_pos (by omega)]
  simp
theorem ci_none {x : Int32} {k : Nat} (hk : k < 2 ^ 31) : ci_of x k = none ↔ x < 0 ∨ nI k ≤ x := by
  unfold ci_of
  rw [Int32.lt_iff_toInt_lt, Int32.le_iff_toInt_le, nI_toInt hk, show (0 : Int32).toInt = 0 by decide]
  by_cases z : 0 ≤ x.toInt ∧ x.toInt < k
  · rw [if_pos z]
    refine ⟨fun q => (by cases q), fun q => ?_⟩
    omega
  · rw [if_neg z]
    refine ⟨fun _ => by omega, fun _ => rfl⟩
def ma_of (d : sdT) (vs : vsT) (now : Nat) : Bool := decide (now - d.2.2.2.1 < lf_of d.1.2.2.2.1) && decide (nb_of 110 d.1.2.2.2.1 = none) && decide (nb_o 110 (vs 4) = none) && (match nb_o 97 (vs 4) with
  | some (some n) => decide (now - d.2.2.2.1 ≤ n)
  | _ => true)
def at_of (q : rqT) (st : Nat) (rp : Option rpT) (gt : Nat) : List Nat := match rp with
  | some r => sl_of q.1 q.2.2.2 r.1 r.2.2.1 r.2.1 r.2.2.2.1 r.2.2.2.2 none
  | none => ba_of st gt
def sz_of (r : rpT) : Nat := (hl_of r.1 r.2.2.1 r.2.1 r.2.2.2.1 r.2.2.2.2 none true).length
def tr_of (q : rqT) (sa : Nat) (sp : Bool) (rp : Option rpT) (cap : Nat) (ss : List sdT) : List sdT := match rp with
  | none => dr_of (ft_of q.2.1 (q.2.2.2 5)) ss
  | some r => if sp = true then ss
    else if nb_of 120 r.2.2.2.1 ≠ none ∨ nb_of 112 r.2.2.2.1 ≠ none ∨ nb_o 120 (q.2.2.2 4) ≠ none then dr_of (rl_of q.2.1 (q.2.2.2 5) r.2.2.2.2) ss
    else kp_of cap (r, q.2.1, q.2.2.2 5, sa, sz_of r) (dr_of (rl_of q.2.1 (q.2.2.2 5) r.2.2.2.2) ss)
section SP
variable {E : wo_E} {mc ms : Nat} {G : wo_W} {x : Nat} {ow : Nat → Nat}
theorem sp_isConn {Post : Int32 → wo_W → Prop} {i : Int32} (h0 : ci_of i 3 = none → Post 0 G) (h1 : ∀ n, ci_of i 3 = some n → Post 1 G) : pq_EC_isConnection E mc ms Post G i := by
  have k := ci_none (x := i) (k := 3) (by decide)
  unfold pq_EC_isConnection pq_EC_isConnection_0 pq_EC_isConnection_13 pq_EC_isConnection_14
  refine ⟨fun w => ⟨tx_ok0, h0 (k.mpr (Or.inl w))⟩, fun w => ⟨fun w2 => ⟨tx_ok0, h0 (k.mpr (Or.inr w2))⟩, fun w2 => ⟨tx_ok1, ?_⟩⟩⟩
  cases e : ci_of i 3 with
  | none => exact (k.mp e).elim (fun z => absurd z w) (fun z => absurd z w2)
  | some n => exact h1 n e
theorem sp_isUp {Post : Int32 → wo_W → Prop} {i : Int32} (h0 : ci_of i 2 = none → Post 0 G) (h1 : ∀ n, ci_of i 2 = some n → Post 1 G) : pq_EC_isUpstream E mc ms Post G i := by
  have k := ci_none (x := i) (k := 2) (by decide)
  unfold pq_EC_isUpstream pq_EC_isUpstream_0 pq_EC_isUpstream_13 pq_EC_isUpstream_14
  refine ⟨fun w => ⟨tx_ok0, h0 (k.mpr (Or.inl w))⟩, fun w => ⟨fun w2 => ⟨tx_ok0, h0 (k.mpr (Or.inr w2))⟩, fun w2 => ⟨tx_ok1, ?_⟩⟩⟩
  cases e : ci_of i 2 with
  | none => exact (k.mp e).elim (fun z => absurd z w) (fun z => absurd z w2)
  | some n => exact h1 n e
theorem bo_s {α : Type} {k : α} : ¬ bo_I (some k).isSome = 0 := by
  show ¬ bo_I true = 0
  decide
theorem sh_st.rl {z : Nat} {ow' : Nat → Nat} (h : sh_st E ow G z) (hw : ∀ a, ow a = 6 → ow' a = 6) : sh_st E ow' G z := by
  obtain ⟨a, v, f, l, ps, hb, pc, w⟩ := h
  exact ⟨a, v, f, l, ps, hb, pc, fun y hy => hw y (w y hy)⟩
theorem sp_sdRaw {Post : wo_W → Prop} {p q : Nat} {r : Option Nat} {t z : Int32} (hty : wo_ty G p = 14) (hpb : en_bs E ≤ p) (hq : wo_ty G q = 9) (hp : ∀ G', fr_W (fun x => x = p) G G' → wo_ty G' p = 14 → wo_gr G' 832 p = r → wo_gr G' 833 p = wo_gr G 513 q → wo_gr G' 834 p = wo_gr G 520 q → wo_gi G' 835 p = t → wo_gi G' 836 p = z → Post G') : pq_Sd_init E mc ms Post G p r (some q) t z := by
  have qp : ¬ q = p := fun e => by rw [e, hty] at hq; cases hq
  unfold pq_Sd_init pq_Sd_init_0
  refine ⟨hty, hpb, fun G1 e1 => ⟨q, rfl, by rw [e1]; exact hq, fun r1 hr1 => ⟨hpb, fun G2 e2 => fun r2 hr2 => ⟨hpb, fun G3 e3 => ⟨hpb, fun G4 e4 => ⟨hpb, fun G5 e5 => ?_⟩⟩⟩⟩⟩⟩
  have er1 : r1 = wo_gr G 513 q := by rw [hr1, e1]; simp [wo_gr, wo_sr, wo_u2]
  have er2 : r2 = wo_gr G 520 q := by rw [hr2, e2, e1]; simp [wo_gr, wo_sr, wo_u2]
  refine hp G5 ?_ ?_ ?_ ?_ ?_ ?_ ?_
  · rw [e5, e4, e3, e2, e1]
    exact fr_tr (fr_tr (fr_tr (fr_tr (fr_sr rfl) (fr_sr rfl)) (fr_sr rfl)) (fr_si rfl)) (fr_si rfl)
  · rw [e5, e4, e3, e2, e1]; exact hty
  · rw [e5, e4, e3, e2, e1]; simp [wo_gr, wo_si, wo_sr, wo_u2]
  · rw [e5, e4, e3, e2, er1]; simp [wo_gr, wo_si, wo_sr, wo_u2]
  · rw [e5, e4, e3, er2]; simp [wo_gr, wo_si, wo_sr, wo_u2]
  · rw [e5, e4]; simp [wo_gi, wo_si, wo_u2]
  · rw [e5]; simp [wo_gi, wo_si, wo_u2]
theorem tx_O1 {q : Nat} {t : List Nat} (h : tx_S G q t) (hl : t.length ≤ 8) : tx_O G (some q) (some t) := ⟨h, hl⟩
theorem sp_mayAnswer {Post : Int32 → wo_W → Prop} {p q now : Nat} {d : sdT} {m : Option Nat} {pa bd : List Nat} {vs : vsT} {im : Nat → Prop} (hx : wo_ty G x = 1) (hnow : wo_gi G 6 x = nI now) (hn : now < 2 ^ 30) (hd : sd_at im G p d) (ht : d.2.2.2.1 ≤ now) (hq : rq_at im G q m pa bd vs) (hp : Post (bo_I (ma_of d vs now)) G) : pq_EC_mayAnswer E mc ms Post G x (some p) (some q) := by
  have hd' := hd
  obtain ⟨h1, h2, ⟨s1, h3, h4⟩, h5, h6, h7, h8⟩ := hd'
  have h4' := h4
  obtain ⟨r1, r2, r3, r4, r5, r8, r9, ⟨s2, j1, j2, j3⟩, j4⟩ := h4'
  obtain ⟨y1, y2, y3, y4, y7, y8⟩ := hq
  have v4 := (y8 4 (by decide)).O
  have age : wo_gi G 6 x - wo_gi G 835 p = nI (now - d.2.2.2.1) := by rw [hnow, h7, pk_sub ht]
  have lf31 : lf_of d.1.2.2.2.1 < 2 ^ 31 := by
    have b1 := nb_b (x := 115) j3
    have b2 := nb_b (x := 109) j3
    unfold lf_of
    split
    · rename_i n e; rw [e] at b1; have : n < 10 ^ 8 := b1; omega
    · omega
  unfold ma_of at hp
  unfold pq_EC_mayAnswer pq_EC_mayAnswer_0 pq_EC_mayAnswer_49 pq_EC_mayAnswer_74 pq_EC_mayAnswer_79
  refine ⟨p, rfl, h1, fun r hr => ⟨s1, hr.trans h3, r1, fun r7 hr7 => ⟨hx, 0, 0, Nat.zero_le _, Nat.zero_le _, sp_lifetime hd ?_⟩⟩⟩
  rw [age]
  refine ⟨fun w => ?_, fun w => ⟨0, 0, Nat.zero_le _, Nat.zero_le _, ?_⟩⟩
  · have z := (nI_leI lf31 (by omega)).mp w
    rw [show decide (now - d.2.2.2.1 < lf_of d.1.2.2.2.1) = false from decide_eq_false (by omega), Bool.false_and, Bool.false_and, Bool.false_and] at hp
    exact hp
  · have z : now - d.2.2.2.1 < lf_of d.1.2.2.2.1 := Nat.lt_of_not_le (fun y => w (nI_le y (by omega)))
    rw [decide_eq_true z, Bool.true_and] at hp
    rw [hr7, j1]
    refine sp_counts (x := 110) (tx_O1 j2.1 j3) (by decide) ?_
    have e1 : nb_o 110 (some d.1.2.2.2.1) = nb_of 110 d.1.2.2.2.1 := rfl
    rw [e1]
    cases n1 : nb_of 110 d.1.2.2.2.1 with
    | some k =>
      rw [n1] at hp
      have hp2 : Post (bo_I false) G := by simpa using hp
      exact ⟨fun _ => hp2, fun w => absurd w bo_s⟩
    | none =>
      rw [n1] at hp
      refine ⟨fun w => absurd rfl w, fun _ => ⟨q, rfl, y1, fun r20 hr20 => ⟨0, 0, Nat.zero_le _, Nat.zero_le _, ?_⟩⟩⟩
      rw [hr20]
      refine sp_counts (x := 110) v4 (by decide) ?_
      cases n2 : nb_o 110 (vs 4) with
      | some k =>
        rw [n2] at hp
        have hp2 : Post (bo_I false) G := by simpa using hp
        exact ⟨fun w => absurd w bo_s, fun _ => hp2⟩
      | none =>
        rw [n2] at hp
        refine ⟨fun _ => ⟨y1, fun r27 hr27 => ⟨0, 0, Nat.zero_le _, Nat.zero_le _, ?_⟩⟩, fun w => absurd rfl w⟩
        rw [hr27]
        refine sp_numberO (x := 97) v4 (by decide) ?_
        have b8 : ∀ n, nb_o 97 (vs 4) = some (some n) → n < 10 ^ 8 := by
          intro n e
          cases e4 : vs 4 with
          | none => rw [e4] at e; cases e
          | some t =>
            have tl := v4.le t e4
            rw [e4] at e
            have e' : nb_of 97 t = some (some n) := e
            have := nb_b (x := 97) tl
            rw [e'] at this
            exact this
        simp only [decide_true, Bool.true_and] at hp
        cases n3 : nb_o 97 (vs 4) with
        | none => rw [n3] at hp; exact ⟨fun _ => ⟨tx_ok1, hp⟩, fun w => absurd (by decide) w⟩
        | some k => cases k with
          | none => rw [n3] at hp; exact ⟨fun _ => ⟨tx_ok1, hp⟩, fun w => absurd (by decide) w⟩
          | some n =>
            rw [n3] at hp
            have nb := b8 n n3
            simp only [] at hp
            refine ⟨fun w => absurd w (nI_pos (n := n) (by omega)), fun _ => ⟨fun w => ?_, fun w => ?_⟩⟩
            · have z2 := (nI_ltI (a := n) (by omega) (by omega)).mp w
              rw [show decide (now - d.2.2.2.1 ≤ n) = false from decide_eq_false (by omega)] at hp
              exact ⟨tx_ok0, hp⟩
            · have z2 : now - d.2.2.2.1 ≤ n := Nat.le_of_not_lt (fun y => w (nI_lt y (by omega)))
              rw [decide_eq_true z2] at hp
              exact ⟨tx_ok1, hp⟩
theorem sp_answerTo {Post : Option Nat → wo_W → Prop} {z j p cp sa st gt : Nat} {rp : Option rpT} {sp : Bool} {q : rqT} (c : cx E ow G) (hx : wo_ty G x = 1) (hz : wo_gr G 3 x = some z) (hs : sh_st E ow G z) (hj : jb_at E (im ow) G j p cp sa st rp gt sp) (hst : st < 2 ^ 31) (hgt : gt < 2 ^ 31) (hq : rq_v (im ow) G p q) (hp6 : ow p ≠ 6) (h1 : 60 ≤ mc) (h2 : 10000 ≤ ms)
    (hp : ∀ y ow' G', xt E R6 ow G ow' G' → sh_st E ow' G' z → tx_i (im ow') G' y (at_of q st rp gt) → Post (some y) G') : pq_EC_answerTo E mc ms Post G x (some j) := by
  have hj' := hj
  obtain ⟨b1, b2, b3, b4, b5, b6, b7, b8, b9⟩ := hj'
  have hs' := hs
  obtain ⟨sa1, sv, sf, sl, sps, hb, _⟩ := hs'
  have tz := hb.2.1
  unfold pq_EC_answerTo pq_EC_answerTo_0
  refine ⟨j, rfl, b1, fun r hr => ⟨fun e => ⟨hx, fun r7 hr7 => ⟨z, hr7.trans hz, tz, 14, 2500, by omega, by omega, ?_⟩⟩, fun a e => ⟨hx, fun r16 hr16 r18 hr18 r20 hr20 => ⟨z, hr16.trans hz, tz, 60, 10000, by omega, by omega, ?_⟩⟩⟩⟩
  · have e2 := b7.none (hr ▸ e)
    rw [e2] at hp
    rw [b6, b8]
    exact xs_bare c hs hst hgt (by omega) (by omega) hp
  · obtain ⟨v, e2, e3⟩ := b7.some (hr ▸ e)
    rw [e2] at hp
    rw [hr18, ← hr, e, hr20, b3]
    exact xs_select (ag := none) c hs e3 hq hp6 (fun n w => (by cases w)) (by omega) (by omega) hp
theorem sp_takeRead {Post : wo_W → Prop} {z s j p cp sa st gt cap : Nat} {rp : Option rpT} {sp : Bool} {q : rqT} {ss : List sdT} (c : cx E ow G) (hx : wo_ty G x = 1) (hz : wo_gr G 3 x = some z) (hso : wo_gr G 2 x = some s) (hs : sh_st E ow G z) (ho : so_at E ow G s ss cap) (hl : ss.length ≤ 20) (hcap : cap < 2 ^ 29) (hsm : sm_of ss < 2 ^ 29) (hsm2 : ∀ f : sdT → Bool, sm_of (dr_of f ss) < 2 ^ 29 ∧ (dr_of f ss).length ≤ 20) (hj : jb_at E (im ow) G j p cp sa st rp gt sp) (hq : rq_v (im ow) G p q) (wx : ow x = 7) (wp : ow p ≠ 5 ∧ ow p ≠ 50 ∧ ow p ≠ 6) (wj : ow j ≠ 5 ∧ ow j ≠ 50 ∧ ow j ≠ 6) (hsz : ∀ r, rp = some r → sz_of r < 2 ^ 29) (h1 : 30 ≤ mc) (h2 : 5600 ≤ ms)
    (hp : ∀ ow' G', xt E (fun r => r = 5 ∨ r = 50 ∨ r = 6) ow G ow' G' → sh_st E ow' G' z → so_at E ow' G' s (tr_of q sa sp rp cap ss) cap → Post G') : pq_EC_takeRead E mc ms Post G x (some j) := by
  have hj' := hj
  obtain ⟨b1, b2, b3, b4, b5, b6, b7, b8, b9⟩ := hj'
  have ts : wo_ty G s = 6 := by obtain ⟨_, _, _, k⟩ := ho; exact k.1
  have zx : wo_ty G x ≠ 0 := by rw [hx]; decide
  have zj : wo_ty G j ≠ 0 := by rw [b1]; decide
  have zp : wo_ty G p ≠ 0 := by rw [hq.1]; decide
  unfold pq_EC_takeRead pq_EC_takeRead_0
  refine ⟨j, rfl, b1, fun r3 hr3 r5 hr5 => ⟨fun e => ⟨hx, fun r9 hr9 => ⟨s, hr9.trans hso, ts, 0, 0, Nat.zero_le _, Nat.zero_le _, ?_⟩⟩, fun a e => ?_⟩⟩
  · have e2 := b7.none (hr5 ▸ e)
    rw [e2] at hp
    rw [hr3, b3]
    exact sp_dropFitting c ho (by omega) hq ⟨wp.1, wp.2.1⟩ (fun G' o' y => hp ow G' (y.mn (fun r z => z.elim Or.inl (fun z => Or.inr (Or.inl z)))) (hs.xt c y (by decide) (by decide)) o')
  · obtain ⟨v, e2, e3⟩ := b7.some (hr5 ▸ e)
    rw [e2] at hp hsz
    rw [b9]
    have et : tr_of q sa sp (some v) cap ss = if sp = true then ss else if nb_of 120 v.2.2.2.1 ≠ none ∨ nb_of 112 v.2.2.2.1 ≠ none ∨ nb_o 120 (q.2.2.2 4) ≠ none then dr_of (rl_of q.2.1 (q.2.2.2 5) v.2.2.2.2) ss else kp_of cap (v, q.2.1, q.2.2.2 5, sa, sz_of v) (dr_of (rl_of q.2.1 (q.2.2.2 5) v.2.2.2.2) ss) := rfl
    rw [et] at hp
    refine ⟨fun w => ⟨hx, fun r17 hr17 => ⟨e3.1, s, hr17.trans hso, ts, 0, 0, Nat.zero_le _, Nat.zero_le _, ?_⟩⟩, fun w => ?_⟩
    · have es : sp = false := by
        cases sp with
        | false => rfl
        | true => exact absurd w (by decide)
      rw [es] at hp
      rw [if_neg (by decide)] at hp
      rw [hr3, b3, e3.2.2.2.2.2.2.2.2]
      refine sp_dropReplaced c ho (by omega) hq ⟨wp.1, wp.2.1⟩ (fun G2 o2 y2 => ?_)
      have c2 := c.xt y2 (by decide)
      have e32 := rp_at.xt e3 y2 (by decide)
      have hq2 : rq_v (im ow) G2 p q := rq_at.xt hq y2 (by decide) (fun z => z.elim wp.1 wp.2.1)
      have hs2 := hs.xt c y2 (by decide) (by decide)
      have hj2 := hj.xt y2 (by decide) (fun z => z.elim wj.1 wj.2.1)
      have ex2 := y2.eq zx (by rw [wx]; decide)
      have y2' : xt E (fun r => r = 5 ∨ r = 50 ∨ r = 6) ow G ow G2 := y2.mn (fun r z => z.elim Or.inl (fun z => Or.inr (Or.inl z)))
      have e32' := e32
      obtain ⟨r1, r2, rr3, r4, r5', r8, r9, ⟨s2, j1, j2, j3⟩, j4⟩ := e32'
      have v4 := (hq2.2.2.2.2.2 4 (by decide)).O
      have tO : tx_O G2 (wo_gr G2 771 a) (some v.2.2.2.1) := by rw [j1]; exact tx_O1 j2.1 j3
      have h119 : (nb_of 120 v.2.2.2.1 ≠ none ∨ nb_of 112 v.2.2.2.1 ≠ none ∨ nb_o 120 (q.2.2.2 4) ≠ none) → ∀ c s, pq_EC_takeRead_79 E mc ms Post G2 c s x (some j) (some p) (some a) := by
        intro z c s
        rw [if_pos z] at hp
        unfold pq_EC_takeRead_79 pq_EC_takeRead_84 pq_EC_takeRead_119
        exact ⟨fun _ => hp ow G2 y2' hs2 o2, fun w => absurd w (by decide)⟩
      refine ⟨e32.1, fun r26 hr26 => ⟨0, 0, Nat.zero_le _, Nat.zero_le _, ?_⟩⟩
      rw [hr26]
      refine sp_counts (x := 120) tO (by decide) ?_
      cases n1 : nb_of 120 v.2.2.2.1 with
      | some k =>
        rw [show nb_o 120 (some v.2.2.2.1) = nb_of 120 v.2.2.2.1 from rfl, n1]
        exact ⟨fun _ => h119 (Or.inl (by rw [n1]; simp)) _ _, fun w => absurd w bo_s⟩
      | none =>
        rw [show nb_o 120 (some v.2.2.2.1) = nb_of 120 v.2.2.2.1 from rfl, n1]
        refine ⟨fun w => absurd rfl w, fun _ => ⟨e32.1, fun r33 hr33 => ⟨0, 0, Nat.zero_le _, Nat.zero_le _, ?_⟩⟩⟩
        rw [hr33]
        refine sp_counts (x := 112) tO (by decide) ?_
        cases n2 : nb_of 112 v.2.2.2.1 with
        | some k =>
          rw [show nb_o 112 (some v.2.2.2.1) = nb_of 112 v.2.2.2.1 from rfl, n2]
          exact ⟨fun _ => h119 (Or.inr (Or.inl (by rw [n2]; simp))) _ _, fun w => absurd w bo_s⟩
        | none =>
          rw [show nb_o 112 (some v.2.2.2.1) = nb_of 112 v.2.2.2.1 from rfl, n2]
          refine ⟨fun w => absurd rfl w, fun _ => ⟨p, rfl, hq2.1, fun r41 hr41 => ⟨0, 0, Nat.zero_le _, Nat.zero_le _, ?_⟩⟩⟩
          rw [hr41]
          refine sp_counts (x := 120) v4 (by decide) ?_
          cases n3 : nb_o 120 (q.2.2.2 4) with
          | some k => exact ⟨fun w => absurd w bo_s, fun _ => h119 (Or.inr (Or.inr (by rw [n3]; simp))) _ _⟩
          | none =>
            refine ⟨fun _ => ?_, fun w => absurd rfl w⟩
            rw [if_neg (by rw [n1, n2, n3]; simp)] at hp
            unfold pq_EC_takeRead_84
            refine ⟨fun w => absurd rfl w, fun _ => ⟨ex2.1.trans hx, fun r2' hr2' => ⟨by omega, by omega, fun y hy hyb G3 e3' => ?_⟩⟩⟩
            have jy : j ≠ y := fun e => y2.nz zj (by rw [e]; exact hy)
            have xy : x ≠ y := fun e => y2.nz zx (by rw [e]; exact hy)
            have en : ∀ {b : Nat}, b ≠ y → wo_eq G2 (wo_new G2 y 14) b := fun hb => wo_eq_new hb
            have ty3 : wo_ty G3 y = 14 := by rw [e3']; simp [wo_ty, wo_new, wo_u1]
            have y3 : xt E (fun _ => False) ow G2 (ow_ex ow G2 99 [y]) G3 := xt.ex c2.2 (fun w hw _ => by rw [List.mem_singleton.mp hw]; exact ⟨hyb, by rw [ty3]; decide⟩) (by rw [e3']; exact fr_new hy)
            have wy3 : ow_ex ow G2 99 [y] y = 99 := ow_new hy (List.mem_singleton.mpr rfl)
            have c3 := c2.xt y3 (fun z => z)
            have hs3 := hs2.xt c2 y3 (fun z => z) (fun z => z)
            have tz3 : wo_ty G3 z = 4 := by obtain ⟨_, _, _, _, _, hb, _⟩ := hs3; exact hb.2.1
            have ex3 : wo_eq G2 G3 x := by rw [e3']; exact en xy
            have ej3 : wo_eq G2 G3 j := by rw [e3']; exact en jy
            refine ⟨j, rfl, ej3.1.trans hj2.1, fun r13 hr13 => ⟨z, hr13.trans ((ex3.2.2.2.2.1 _).trans ((ex2.2.2.2.2.1 _).trans hz)), tz3, 27, 5500, by omega, by omega, ?_⟩⟩
            refine xs_sizeOf c3 hs3 (rp_at.xt e32 y3 (fun z => z)) (by omega) (by omega) (fun ow4 G4 y4 hs4 => ?_)
            have c4 := c3.xt y4 (by decide)
            have zy3 : wo_ty G3 y ≠ 0 := by rw [ty3]; decide
            have ty4 : wo_ty G4 y = 14 := by rw [y4.ty zy3]; exact ty3
            have wy4 : ow4 y = 99 := (y4.w zy3).trans wy3
            have hq4 : wo_ty G4 p = 9 := by
              have k1 : wo_ty G3 p = 9 := (y3.ty (y2.nz zp)).trans hq2.1
              exact (y4.ty (y3.nz (y2.nz zp))).trans k1
            have y24 : xt E R6 ow G2 ow4 G4 := (y3.mn (fun _ z => False.elim z)).tr y4
            have e64 : wo_gi G3 642 j = nI sa := (ej3.2.2.1 _).trans hj2.2.2.2.2.1
            have sz : nI (hl_of v.1 v.2.2.1 v.2.1 v.2.2.2.1 v.2.2.2.2 none true).length = nI (sz_of v) := rfl
            rw [e64, sz]
            refine ⟨ty4, 0, 0, by omega, by omega, sp_sdRaw ty4 hyb hq4 (fun G5 f5 t5 g1 g2 g3 g4 g5 => ?_)⟩
            -- the new one counts as unchanging from here on
            have ag : ∀ a, wo_ty G2 a ≠ 0 → (fun a => if a = y then 0 else ow4 a) a = ow a := fun a ha => by
              have : a ≠ y := fun e => ha (by rw [e]; exact hy)
              show (if a = y then 0 else ow4 a) = ow a
              rw [if_neg this]
              exact y24.w ha
            have y25 : xt E R6 ow G2 (fun a => if a = y then 0 else ow4 a) G5 := by
              refine ⟨⟨ky_tr y24.1.1 f5.1, fun a ha hr => (y24.1.2 a ha hr).tr (f5.2 a (y24.nz ha) (fun e => ha (by rw [e]; exact hy)))⟩, ag, fun a ha => ?_⟩
              have ha2 : (if a = y then 0 else ow4 a) ≠ 0 := ha
              by_cases e : a = y
              · rw [if_pos e] at ha2; exact absurd rfl ha2
              · rw [if_neg e] at ha2
                obtain ⟨w1, w2⟩ := c4.2 a ha2
                exact ⟨w1, by rw [f5.1 a w2]; exact w2⟩
            have c5 := c2.xt y25 (by decide)
            have hs5' : sh_st E ow4 G5 z := hs4.xt c4 (R := fun r => r = 99) (xt.of c4.2 (fr_mn (fun a _ e => by show ow4 a = 99; rw [e]; exact wy4) f5)) (by decide) (by decide)
            have hs5 : sh_st E (fun a => if a = y then 0 else ow4 a) G5 z := hs5'.rl (fun a ha => by
              have : a ≠ y := fun e => by rw [e, wy4] at ha; cases ha
              show (if a = y then 0 else ow4 a) = 6
              rw [if_neg this]
              exact ha)
            have o5 := o2.xt c2 y25 (by decide) (by decide) (by decide)
            have rp5 := rp_at.xt e32 y25 (by decide)
            have hq5 : rq_v (im (fun a => if a = y then 0 else ow4 a)) G5 p q := rq_at.xt hq2 y25 (by decide) wp.2.2
            have ep : ∀ f, wo_gr G4 f p = wo_gr G2 f p := fun f => (y24.eq (y2.nz zp) wp.2.2).2.2.2.2.1 f
            have ep5 : ∀ f, wo_gr G5 f p = wo_gr G2 f p := fun f => (y25.eq (y2.nz zp) wp.2.2).2.2.2.2.1 f
            have sd5 : sd_at (im (fun a => if a = y then 0 else ow4 a)) G5 y (v, q.2.1, q.2.2.2 5, sa, sz_of v) := by
              obtain ⟨j1', j2', j3', ⟨j4', j5', j6'⟩, j7', j8'⟩ := hq5
              refine ⟨t5, if_pos rfl, ⟨a, g1, rp5⟩, ⟨j4', ?_, j6'⟩, ?_, g4, g5⟩
              · rw [g2, ep, ← ep5]; exact j5'
              · rw [g3, ep, ← ep5]; exact j8' 5 (by decide)
            have ts5 : wo_ty G5 s = 6 := by obtain ⟨_, _, _, k⟩ := o5; exact k.1
            refine ⟨s, hr2'.trans ((ex2.2.2.2.2.1 _).trans hso), ts5, 1, 42, by omega, by omega, ?_⟩
            obtain ⟨li, lv, os, k5⟩ := o5
            have hyo : y ∉ os := by
              intro hm
              obtain ⟨n, hn, en'⟩ := List.getElem_of_mem hm
              obtain ⟨li2, lv2, os2, k2⟩ := o2
              have g64 : wo_gr G5 320 s = some li := k5.2.2.2.2.2.1
              have zs2 : wo_ty G2 s ≠ 0 := by rw [k2.1]; decide
              have es2 := y25.eq zs2 (by rw [k2.2.2.1]; decide)
              rw [es2.2.2.2.2.1, k2.2.2.2.2.2.1] at g64
              cases g64
              have zl2 : wo_ty G2 li ≠ 0 := by rw [k2.2.2.2.2.2.2.1.1.1]; decide
              have el2 := y25.eq zl2 (by rw [k2.2.2.2.2.2.2.1.2.1]; decide)
              have gv : wo_gr G5 128 li = some lv := k5.2.2.2.2.2.2.1.1.2.2.2.1
              rw [el2.2.2.2.2.1, k2.2.2.2.2.2.2.1.1.2.2.2.1] at gv
              cases gv
              have lv5 := k5.2.2.2.2.2.2.1.1.2.2.2.2.2.2.2.1
              have e9 := lv5 n hn
              have zl : wo_ty G2 lv ≠ 0 := by rw [k2.2.2.2.2.2.2.1.1.2.2.2.2.1]; decide
              have wlv : ¬ R6 (ow lv) := by
                rcases k2.2.2.2.2.2.2.1.2.2 with w | w
                · have : ow lv = 0 := by
                    apply Classical.byContradiction
                    intro w2
                    have := (c2.2 lv w2).1
                    have := c2.1.2.2.1
                    rw [w] at *
                    omega
                  show ¬ ow lv = 6
                  rw [this]; decide
                · show ¬ ow lv = 6
                  rw [w]; decide
              rw [(y25.eq zl wlv).2.2.2.2.2.2.2] at e9
              have ln5 : os.length = os2.length := k5.2.2.2.2.2.2.2.1.trans k2.2.2.2.2.2.2.2.1.symm
              have e10 := k2.2.2.2.2.2.2.1.1.2.2.2.2.2.2.2.1 n (by omega)
              rw [e10] at e9
              have e11 : os.getD n 0 = y := by rw [List.getD_eq_getElem?_getD, List.getElem?_eq_getElem hn]; exact en'
              rw [e11] at e9
              have e12 : os2.getD n 0 = y := Option.some.inj e9
              have ln2 : os2.length = (dr_of (rl_of q.2.1 (q.2.2.2 5) v.2.2.2.2) ss).length := k2.2.2.2.2.2.2.2.1
              have sd2 := k2.2.2.2.2.2.2.2.2.2 n (by omega)
              have t2 := sd2.1
              rw [e12, hy] at t2
              cases t2
            refine sp_keep c5 k5 (hsm2 _).2 hcap (hsz v rfl) (hsm2 _).1 sd5 hyo (by omega) (by omega) (fun ow6 G6 o6 y6 => ?_)
            unfold pq_EC_takeRead_119
            exact hp ow6 G6 ((y2'.tr (y25.mn (fun r z => Or.inr (Or.inr z)))).tr (y6.mn (fun r z => z.elim Or.inl (fun z => Or.inr (Or.inl z))))) (hs5.xt c5 y6 (by decide) (by decide)) o6
    · have es : sp = true := by
        cases sp with
        | true => rfl
        | false => exact absurd rfl w
      rw [es, if_pos rfl] at hp
      exact hp ow G (xt.rf c.2) hs ho
end SP
