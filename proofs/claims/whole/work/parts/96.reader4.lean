theorem no400 : ¬ 400 < 2 := by decide
theorem no431 : ¬ 431 < 2 := by decide
theorem no414 : ¬ 414 < 2 := by decide
theorem nI_lit {l n : Nat} (h : l < 2 ^ 31) (hn : n < 2 ^ 31) : nI l = nI n ↔ l = n := nI_eq h hn
section SP
variable {E : wo_E} {mc ms : Nat} {G G1 : wo_W} {B Q x a1 a2 a3 p : Nat} {ow ow1 : Nat → Nat} {R : Nat → Prop} {pt hd lf : Nat} {ln m : Option Nat} {ch : Bool} {li bo pa : List Nat} {vs : vsT}
theorem rdk_rc {G' : wo_W} {m' : Option Nat} {pa' : List Nat} {vs' : vsT} (c : cx E ow G) (hQ : 0 < Q ∧ Q < B) (h : rd_k E ow B Q G x a1 a2 a3 p (pt, hd, ln, ch, lf, li, bo, m, pa, vs)) (y : xt E (fun r => r = Q) ow G ow G') (hr : rc_at E ow Q G' p m' pa' vs') : rd_k E ow B Q G' x a1 a2 a3 p (pt, hd, ln, ch, lf, li, bo, m', pa', vs') := by
  obtain ⟨k1, k2, k3, k4, k5, k6, k7, k8, k9, k10, ⟨t, k11⟩, k12⟩ := h
  have zx : wo_ty G x ≠ 0 := by rw [k1]; decide
  have e := y.eq zx (by rw [k3]; omega)
  exact ⟨e.1.trans k1, k2, k3, (e.2.2.2.2.1 _).trans k4, (e.2.2.2.2.1 _).trans k5, (e.2.2.2.2.1 _).trans k6, (e.2.2.2.2.1 _).trans k7, k8.eq e, k9.xt y (by omega), k10.xt y (by omega), ⟨t, k11.xt y (by omega)⟩, hr⟩
theorem rdk_0 {d : rdT} (h : rd_k E ow B Q G x a1 a2 a3 p d) (y : xt E (fun _ => False) ow G ow1 G1) : rd_k E ow1 B Q G1 x a1 a2 a3 p d := h.xt y (fun z => z) (fun _ _ _ z => z) (fun z => z)
theorem Rrd0 (hQ : 0 < Q ∧ Q < B) : ¬ Rrd B Q 0 := by rintro (⟨_, _⟩ | _) <;> omega
theorem sp_judgeHeader {Post : Int32 → wo_W → Prop} {a : Nat} {t : List Nat} (c : cx E ow G) (hQ : 0 < Q ∧ Q < B) (h : rd_k E ow B Q G x a1 a2 a3 p (pt, hd, ln, ch, lf, li, bo, m, pa, vs)) (hhd : hd ≤ 8) (hln : ∀ n, ln = some n → n < 100) (hS : tx_i (im ow) G a t) (ht : t.length ≤ 20) (h1 : 4 ≤ mc) (h2 : 60 ≤ ms)
    (hp : ∀ G', xt E (Rrd B Q) ow G ow G' → ((jh_of t hd ln ch vs).1 < 2 → rd_k E ow B Q G' x a1 a2 a3 p (pt, hd + 1, (jh_of t hd ln ch vs).2.1, (jh_of t hd ln ch vs).2.2.1, lf, li, bo, m, pa, (jh_of t hd ln ch vs).2.2.2)) → (∃ d, rd_k E ow B Q G' x a1 a2 a3 p d ∧ d_bo d = bo) → Post (nI (jh_of t hd ln ch vs).1) G') : pq_Rd_judgeHeader E mc ms Post G x (some a) := by
  have k8 := h.2.2.2.2.2.2.2.1
  have f2 := k8.2.1
  unfold jh_of at hp
  unfold pq_Rd_judgeHeader pq_Rd_judgeHeader_0
  rw [f2]
  refine ⟨h.1, fun w => ⟨h.2.1, fun G1 e1 => ⟨0, 0, by omega, by omega, ?_⟩⟩, fun w => ?_⟩
  · have z := (nI_ltI (b := 8) (by omega) (by decide)).mp w
    rw [if_neg (show ¬ 8 ≤ hd by omega)] at hp
    rw [nI_1] at e1
    obtain ⟨y1, r1⟩ := rdk_si c hQ h (rd_f453 k8 (n := hd + 1))
    rw [← e1] at y1 r1
    have c1 := c.xt y1 (Rrd0 hQ)
    have S1 := hS.xt y1 (Rrd0 hQ)
    refine sp_isHeader S1.1 (by omega) ?_
    cases hi : ih_of t with
    | false =>
      rw [if_pos hi] at hp
      exact ⟨fun w => absurd rfl w, fun _ => hp G1 y1 (fun z => absurd z no400) ⟨_, r1, rfl⟩⟩
    | true =>
      rw [if_neg (by rw [hi]; decide)] at hp
      have hl2 : 2 ≤ t.length := by
        unfold ih_of at hi
        by_cases z : 2 ≤ t.length ∧ 65 ≤ t.getD 0 0 ∧ t.getD 0 0 ≤ 90 ∧ t.getD 1 0 = 58
        · exact z.1
        · rw [if_neg z] at hi; cases hi
      have hc := S1.1.2.2.2.1 _ (tx_mem (t := t) (i := 0) (by omega))
      refine ⟨fun _ => ⟨a, rfl, S1.1.1, 0, 0, by omega, by omega, sp_charAt (i := 0) S1.1 (by omega) ⟨S1.1.1, 2, 30, by omega, by omega, is_subI (p := 2) c1 S1 hl2 (by omega) (by omega) (fun q G2 y2 S2 => ?_)⟩⟩, fun w => absurd w (by decide)⟩
      have r2 := rdk_0 r1 y2
      have c2 := c1.xt y2 (fun z => z)
      have y12 : xt E (Rrd B Q) ow G ow G2 := y1.tr (y2.mn (fun _ z => False.elim z))
      have hvl : (tx_sub t 2 t.length).length = t.length - 2 := tx_sub_len (Nat.le_refl _)
      have k82 := r2.2.2.2.2.2.2.2.1
      refine ⟨q, rfl, S2.1.1, 0, 0, by omega, by omega, sp_length S2.1 ⟨fun w => ?_, fun w => ?_⟩⟩
      · rw [hvl] at w
        have z8 := (nI_leI (b := 8) (by omega) (by decide)).mp w
        rw [if_neg (show ¬ 8 < t.length - 2 by omega)] at hp
        refine ⟨fun w2 => ⟨fun w3 => ?_, fun w3 => ?_⟩, fun w2 => ?_⟩
        · have n76 : ¬ t.getD 0 0 = 76 := fun e => w2 (by rw [e]; rfl)
          have n84 : ¬ t.getD 0 0 = 84 := fun e => w3 (by rw [e]; rfl)
          rw [if_neg n76, if_neg n84] at hp
          refine ⟨r2.1, fun r hr => ⟨p, hr.trans r2.2.2.2.2.2.2.1, r2.2.2.2.2.2.2.2.2.2.2.2.1.1, 0, 0, by omega, by omega, sp_rqSet c2 (by omega) r2.2.2.2.2.2.2.2.2.2.2.2 S2 (by omega) hc (fun G3 y3 rc3 => ?_)⟩⟩
          have r3 := rdk_rc c2 hQ r2 y3 rc3
          exact hp G3 (y12.tr (y3.mn (fun _ z => Or.inr z))) (fun _ => r3) ⟨_, r3, rfl⟩
        · have e84 : t.getD 0 0 = 84 := (nI_eq (b := 84) (by omega) (by decide)).mp w3
          have n76 : ¬ t.getD 0 0 = 76 := by omega
          rw [if_neg n76, if_pos e84] at hp
          refine ⟨r2.1, r2.2.1, tx_ok1, fun G3 e3 => ?_⟩
          obtain ⟨y3, r3⟩ := rdk_si c2 hQ r2 (rd_f455 k82 (b := true))
          have e3' : G3 = wo_si G2 455 x (bo_I true) := e3
          rw [← e3'] at y3 r3
          have S3 := S2.xt y3 (Rrd0 hQ)
          have c3 := c2.xt y3 (Rrd0 hQ)
          refine ⟨S3.1.1, 0, 0, by omega, by omega, sp_equals S3.1 (c3.1.1 10 (by decide)).2.1 ?_⟩
          unfold pq_Rd_judgeHeader_98
          by_cases z : tx_sub t 2 t.length = [99]
          · rw [if_pos z] at hp
            rw [if_pos (show tx_sub t 2 t.length = kx_tx 10 from z)]
            exact ⟨fun w => absurd w (by decide), fun _ => hp G3 (y12.tr y3) (fun _ => r3) ⟨_, r3, rfl⟩⟩
          · rw [if_neg z] at hp
            rw [if_neg (show ¬ tx_sub t 2 t.length = kx_tx 10 from z)]
            exact ⟨fun _ => hp G3 (y12.tr y3) (fun z => absurd z no400) ⟨_, r3, rfl⟩, fun w => absurd rfl w⟩
        · have e76 : t.getD 0 0 = 76 := (nI_eq (b := 76) (by omega) (by decide)).mp w2
          rw [if_pos e76] at hp
          refine ⟨r2.1, 0, 0, by omega, by omega, sp_takeLength c2 hQ r2 hln S2.1 (by omega) (fun n hn G3 y3 r3 => ?_) (fun hn => ?_)⟩
          · rw [hn] at hp
            exact hp G3 (y12.tr y3) (fun _ => r3) ⟨_, r3, rfl⟩
          · rw [hn] at hp
            exact hp G2 y12 (fun z => absurd z no400) ⟨_, r2, rfl⟩
      · rw [hvl] at w
        have z8 : 8 < t.length - 2 := Nat.lt_of_not_le (fun y => w (nI_le (b := 8) y (by decide)))
        rw [if_pos z8] at hp
        exact hp G2 y12 (fun z => absurd z no431) ⟨_, r2, rfl⟩
  · have z : 8 ≤ hd := Nat.le_of_not_lt (fun y => w (nI_lt (b := 8) y (by decide)))
    rw [if_pos z] at hp
    exact hp G (xt.rf c.2) (fun z => absurd z no431) ⟨_, h, rfl⟩
theorem rc_512 {n : Option Nat} (c : cx E ow G) (hQ : Q ≠ 0) (hr : rc_at E ow Q G p m pa vs) (hn : ∀ k, n = some k → k < 4) : xt E (fun r => r = Q) ow G ow (wo_si G 512 p (wh_I n)) ∧ rc_at E ow Q (wo_si G 512 p (wh_I n)) p n pa vs := by
  obtain ⟨⟨y1, y2, y3, ⟨y4, y5, y6⟩, ⟨y9, y10, y11, y12⟩, y8⟩, k2, k3, k4⟩ := hr
  have y : xt E (fun r => r = Q) ow G ow (wo_si G 512 p (wh_I n)) := xt.of c.2 (fr_si k3)
  have n0 : ¬ (fun r => r = Q) 0 := fun e => hQ e.symm
  exact ⟨y, ⟨y1, by simp [wo_gi, wo_si, wo_u2], hn, ⟨y4, y5, y6.xt y n0⟩, ⟨y9, y10, y11.xt y n0, y12⟩, fun k hk => (y8 k hk).xt y n0⟩, k2, k3, k4⟩
theorem rc_513 {a : Nat} {t : List Nat} (c : cx E ow G) (hQ : Q ≠ 0) (hr : rc_at E ow Q G p m pa vs) (hS : tx_i (im ow) G a t) : xt E (fun r => r = Q) ow G ow (wo_sr G 513 p (some a)) ∧ rc_at E ow Q (wo_sr G 513 p (some a)) p m t vs := by
  obtain ⟨⟨y1, y2, y3, ⟨y4, y5, y6⟩, ⟨y9, y10, y11, y12⟩, y8⟩, k2, k3, k4⟩ := hr
  have y : xt E (fun r => r = Q) ow G ow (wo_sr G 513 p (some a)) := xt.of c.2 (fr_sr k3)
  have n0 : ¬ (fun r => r = Q) 0 := fun e => hQ e.symm
  have g : ∀ f, f ≠ 513 → wo_gr (wo_sr G 513 p (some a)) f p = wo_gr G f p := fun f hf => by simp [wo_gr, wo_sr, wo_u2, hf]
  exact ⟨y, ⟨y1, y2, y3, ⟨a, by simp [wo_gr, wo_sr, wo_u2], hS.xt y n0⟩, ⟨y9, (g 514 (by omega)).trans y10, y11.xt y n0, y12⟩, fun k hk => by rw [g (515 + k) (by omega)]; exact (y8 k hk).xt y n0⟩, k2, k3, (g 523 (by omega)).trans k4⟩
theorem mn_lt {t : List Nat} {k : Nat} (h : mn_of t = some k) : k < 4 := by
  unfold mn_of at h
  split at h
  · cases h; decide
  · split at h
    · cases h; decide
    · split at h
      · cases h; decide
      · split at h
        · cases h; decide
        · cases h
theorem sp_judgeRequestLine {Post : Int32 → wo_W → Prop} {a : Nat} {t : List Nat} (c : cx E ow G) (hQ : 0 < Q ∧ Q < B) (h : rd_k E ow B Q G x a1 a2 a3 p (pt, hd, ln, ch, 0, li, bo, m, pa, vs)) (hS : tx_i (im ow) G a t) (ht : t.length ≤ 20) (h1 : 120 ≤ mc) (h2 : 3600 ≤ ms)
    (hp : ∀ ow' G', xt E (Rrd B Q) ow G ow' G' → ((jl_of t).1 < 2 → rd_k E ow' B Q G' x a1 a2 a3 p (1, hd, ln, ch, 0, li, bo, (jl_of t).2.1, (jl_of t).2.2, vs)) → (∃ d, rd_k E ow' B Q G' x a1 a2 a3 p d ∧ d_bo d = bo) → Post (nI (jl_of t).1) G') : pq_Rd_judgeRequestLine E mc ms Post G x (some a) := by
  have R0 := Rrd0 hQ
  unfold pq_Rd_judgeRequestLine pq_Rd_judgeRequestLine_0
  refine ⟨a, rfl, hS.1.1, 0, 0, by omega, by omega, sp_indexOf (ch := 32) hS.1 (by decide) (fun q => ?_) (fun i hi q1 q2 => ?_)⟩
  · have hd := ix_no 32 t q
    unfold jl_of at hp
    rw [if_pos hd] at hp
    exact ⟨fun w => absurd w (by decide), fun _ => hp ow G (xt.rf c.2) (fun z => absurd z (by decide)) ⟨_, h, rfl⟩⟩
  · have hd2 := ix_at 32 t i hi q1 q2
    unfold jl_of at hp
    rw [hd2, if_neg (show ¬ i = t.length by omega)] at hp
    refine ⟨fun _ => ⟨h.1, fun r8 hr8 => ⟨hS.1.1, 2, 30, by omega, by omega, is_sub (p := 0) c hS (Nat.zero_le _) (by omega) (by omega) (by omega) (fun q G1 y1 S1 => ?_)⟩⟩, fun w => absurd (nI_pos' (by omega)) w⟩
    have c1 := c.xt y1 (fun z => z)
    have r1 := rdk_0 h y1
    have hS1 := hS.xt y1 (fun z => z)
    refine ⟨0, 0, by omega, by omega, sp_methodNamed c1.1 S1.1 ⟨p, hr8.trans h.2.2.2.2.2.2.1, r1.2.2.2.2.2.2.2.2.2.2.2.1.1, r1.2.2.2.2.2.2.2.2.2.2.2.2.1, fun G2 e2 => ?_⟩⟩
    obtain ⟨y2, rc2⟩ := rc_512 (n := mn_of (tx_sub t 0 i)) c1 (by omega) r1.2.2.2.2.2.2.2.2.2.2.2 (fun k e => mn_lt e)
    rw [← e2] at y2 rc2
    have r2 := rdk_rc c1 hQ r1 y2 rc2
    have c2 := c1.xt y2 (by omega)
    have hS2 := hS1.xt y2 (by omega)
    have y12 : xt E (Rrd B Q) ow G ow G2 := (y1.mn (fun _ z => False.elim z)).tr (y2.mn (fun _ z => Or.inr z))
    refine ⟨hS2.1.1, 2, 30, by omega, by omega, ?_⟩
    rw [nI_1]
    refine is_subI (p := i + 1) c2 hS2 (by omega) (by omega) (by omega) (fun q3 G3 y3 S3 => ?_)
    have c3 := c2.xt y3 (fun z => z)
    have r3 := rdk_0 r2 y3
    have y13 := y12.tr (y3.mn (fun _ z => False.elim z))
    have r3' := r3
    obtain ⟨k1, k2, k3, k4, k5, k6, k7, k8, k9, k10, ⟨t3, k11⟩, k12⟩ := r3'
    have hsl : (tx_sub t (i + 1) t.length).length ≤ 20 := by rw [tx_sub_len (Nat.le_refl _)]; omega
    have zx : wo_ty G3 x ≠ 0 := by rw [k1]; decide
    refine ⟨k1, fun r hr => ⟨23, 944, by omega, by omega, ?_⟩⟩
    rw [hr, k6]
    have step : ∀ ow4 G4, xt E (fun q => q = B + 4) ow G3 ow4 G4 → (∃ t', sb_st E ow4 (B + 4) G4 a3 t') → rd_k E ow4 B Q G4 x a1 a2 a3 p (pt, hd, ln, ch, 0, li, bo, mn_of (tx_sub t 0 i), pa, vs) := by
      intro ow4 G4 y4 s4
      have e4 := y4.eq zx (by rw [k3]; omega)
      exact ⟨e4.1.trans k1, k2, (y4.w zx).trans k3, (e4.2.2.2.2.1 _).trans k4, (e4.2.2.2.2.1 _).trans k5, (e4.2.2.2.2.1 _).trans k6, (e4.2.2.2.2.1 _).trans k7, k8.eq e4, k9.xt y4 (by omega), k10.xt y4 (by omega), s4, k12.xt y4 (by omega) (by omega)⟩
    refine bs_decoded c3 k11 (by omega) S3 hsl (by omega) (by omega) (fun hn ow4 G4 y4 s4 => ?_) (fun u q4 ow4 G4 hu hul y4 s4 S4 => ?_)
    · have r4 := step ow4 G4 y4 s4
      have y14 := y13.tr (y4.mn (fun r e => Or.inl (by omega)))
      rw [hn] at hp
      have hp' : Post 400 G4 := by
        cases hm : mn_of (tx_sub t 0 i) with
        | none => rw [hm] at hp; exact hp ow4 G4 y14 (fun z => absurd z no400) ⟨_, r4, rfl⟩
        | some k => rw [hm] at hp; exact hp ow4 G4 y14 (fun z => absurd z no400) ⟨_, r4, rfl⟩
      unfold pq_Rd_judgeRequestLine_61
      exact ⟨r4.1, fun r hr => ⟨p, hr.trans r4.2.2.2.2.2.2.1, r4.2.2.2.2.2.2.2.2.2.2.2.1.1, fun _ => hp', fun _ => ⟨fun _ => hp', fun a e => (by cases e)⟩⟩⟩
    · have r4 := step ow4 G4 y4 s4
      have y14 := y13.tr (y4.mn (fun r e => Or.inl (by omega)))
      have c4 := c3.xt y4 (by omega)
      rw [hu] at hp
      unfold pq_Rd_judgeRequestLine_61
      refine ⟨r4.1, fun r hr => ⟨p, hr.trans r4.2.2.2.2.2.2.1, r4.2.2.2.2.2.2.2.2.2.2.2.1.1, fun w => ?_, fun w => ⟨fun e => (by cases e), fun a5 e5 => ?_⟩⟩⟩
      · rw [r4.2.2.2.2.2.2.2.2.2.2.2.1.2.1] at w
        cases hm : mn_of (tx_sub t 0 i) with
        | none => rw [hm] at hp; exact hp ow4 G4 y14 (fun z => absurd z no400) ⟨_, r4, rfl⟩
        | some k => rw [hm] at w; exact absurd w (nI_nm1 (n := k) (by have := mn_lt hm; omega))
      · rw [r4.2.2.2.2.2.2.2.2.2.2.2.1.2.1] at w
        cases hm : mn_of (tx_sub t 0 i) with
        | none => rw [hm] at w; exact absurd rfl w
        | some k =>
          rw [hm] at hp r4
          simp only [] at hp
          cases e5
          intro r42 hr42 r44 hr44
          refine ⟨90, 2500, by omega, by omega, ?_⟩
          rw [hr44, r4.2.2.2.2.2.1]
          have r4' := r4
          obtain ⟨m1, m2, m3, m4, m5, m6, m7, m8, m9, m10, ⟨t4, m11⟩, m12⟩ := r4'
          have zx4 : wo_ty G4 x ≠ 0 := by rw [m1]; decide
          refine bs_path c4 m11 (by omega) S4 hul (by omega) (by omega) (fun q6 ow6 G6 y6 s6 S6 => ?_)
          have e6 := y6.eq zx4 (by rw [m3]; omega)
          have r6 : rd_k E ow6 B Q G6 x a1 a2 a3 p (pt, hd, ln, ch, 0, li, bo, some k, pa, vs) := ⟨e6.1.trans m1, m2, (y6.w zx4).trans m3, (e6.2.2.2.2.1 _).trans m4, (e6.2.2.2.2.1 _).trans m5, (e6.2.2.2.2.1 _).trans m6, (e6.2.2.2.2.1 _).trans m7, m8.eq e6, m9.xt y6 (by omega), m10.xt y6 (by omega), s6, m12.xt y6 (by omega) (by omega)⟩
          have c6 := c4.xt y6 (by omega)
          have y16 := y14.tr (y6.mn (fun r e => Or.inl (by omega)))
          refine ⟨p, hr42.trans m7, r6.2.2.2.2.2.2.2.2.2.2.2.1.1, r6.2.2.2.2.2.2.2.2.2.2.2.2.1, fun G7 e7 => ?_⟩
          obtain ⟨y7, rc7⟩ := rc_513 c6 (by omega) r6.2.2.2.2.2.2.2.2.2.2.2 S6
          rw [← e7] at y7 rc7
          have r7 := rdk_rc c6 hQ r6 y7 rc7
          have c7 := c6.xt y7 (by omega)
          have S7 := S6.xt y7 (by omega)
          have y17 := y16.tr (y7.mn (fun _ z => Or.inr z))
          refine ⟨r7.1, r7.2.1, fun G8 e8 => fun r hr => ?_⟩
          obtain ⟨y8, r8⟩ := rdk_si c7 hQ r7 (rd_f452 r7.2.2.2.2.2.2.2.1 (n := 1) (l2 := 0) (by omega))
          have e8' : G8 = wo_si G7 452 x (nI 1) := e8
          rw [← e8'] at y8 r8
          have y18 := y17.tr y8
          have rc8 := r8.2.2.2.2.2.2.2.2.2.2.2
          obtain ⟨⟨n1, n2, n3, ⟨n4, n5, n6⟩, n7⟩, n8⟩ := rc8
          refine ⟨p, hr.trans r8.2.2.2.2.2.2.1, n1, fun r9 hr9 => ⟨n4, hr9.trans n5, n6.1.1, 0, 0, by omega, by omega, sp_length n6.1 ?_⟩⟩
          have pl : (pa_of u).length < 2 ^ 31 := by have := n6.1.2.2.1; omega
          unfold pq_Rd_judgeRequestLine_107
          refine ⟨fun w => ?_, fun w => ?_⟩
          · have z := (nI_leI (b := 8) pl (by decide)).mp w
            rw [if_neg (by omega)] at hp
            exact hp ow6 G8 y18 (fun _ => r8) ⟨_, r8, rfl⟩
          · have z : 8 < (pa_of u).length := Nat.lt_of_not_le (fun y => w (nI_le (b := 8) y (by decide)))
            rw [if_pos z] at hp
            exact hp ow6 G8 y18 (fun z => absurd z (by decide)) ⟨_, r8, rfl⟩
end SP
