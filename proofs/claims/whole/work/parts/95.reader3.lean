section SP
variable {E : wo_E} {mc ms : Nat} {G G1 : wo_W} {B Q x a1 a2 a3 p : Nat} {ow ow1 : Nat → Nat} {R : Nat → Prop} {pt hd lf : Nat} {ln m : Option Nat} {ch : Bool} {li bo pa : List Nat} {vs : vsT}
theorem rc_set {a h : Nat} {v : List Nat} (c : cx E ow G) (hQ : Q ≠ 0) (hr : rc_at E ow Q G p m pa vs) (hS : tx_i (im ow) G a v) (hv : v.length ≤ 8) (hh : h < 8) : xt E (fun r => r = Q) ow G ow (wo_sr G (515 + h) p (some a)) ∧ rc_at E ow Q (wo_sr G (515 + h) p (some a)) p m pa (fun k => if k = h then some v else vs k) := by
  obtain ⟨⟨y1, y2, y3, ⟨y4, y5, y6⟩, ⟨y9, y10, y11, y12⟩, y8⟩, k2, k3, k4⟩ := hr
  have y : xt E (fun r => r = Q) ow G ow (wo_sr G (515 + h) p (some a)) := xt.of c.2 (fr_sr k3)
  have n0 : ¬ (fun r => r = Q) 0 := fun e => hQ e.symm
  have g : ∀ f, f ≠ 515 + h → wo_gr (wo_sr G (515 + h) p (some a)) f p = wo_gr G f p := fun f hf => by simp [wo_gr, wo_sr, wo_u2, hf]
  refine ⟨y, ⟨y1, y2, y3, ⟨y4, (g 513 (by omega)).trans y5, y6.xt y n0⟩, ⟨y9, (g 514 (by omega)).trans y10, y11.xt y n0, y12⟩, fun k hk => ?_⟩, k2, k3, (g 523 (by omega)).trans k4⟩
  by_cases z : k = h
  · have e : wo_gr (wo_sr G (515 + h) p (some a)) (515 + k) p = some a := by rw [z]; simp [wo_gr, wo_sr, wo_u2]
    rw [e]
    show tx_oi _ _ _ (if k = h then some v else vs k)
    rw [if_pos z]
    exact ⟨hS.xt y n0, hv⟩
  · rw [g (515 + k) (by omega)]
    show tx_oi _ _ _ (if k = h then some v else vs k)
    rw [if_neg z]
    exact (y8 k hk).xt y n0
theorem sp_rqSet {Post : wo_W → Prop} {a l : Nat} {v : List Nat} (c : cx E ow G) (hQ : Q ≠ 0) (h : rc_at E ow Q G p m pa vs) (hS : tx_i (im ow) G a v) (hv : v.length ≤ 8) (hl : l < 256) (hp : ∀ G', xt E (fun r => r = Q) ow G ow G' → rc_at E ow Q G' p m pa (sv_of vs l v) → Post G') : pq_Rq_set E mc ms Post G p (nI l) (some a) := by
  have key : ∀ n, n < 256 → nI l = nI n → l = n := fun n hn e => (nI_eq (by omega) (by omega)).mp e
  have no : ∀ n, hi_of n = none → l = n → Post G := fun n hn e => by
    refine hp G (xt.rf c.2) ?_
    unfold sv_of
    rw [e, hn]
    exact h
  have st : ∀ n k, k < 8 → hi_of n = some k → l = n → ∀ G3, G3 = wo_sr G (515 + k) p (some a) → Post G3 := fun n k hk hn e G3 e3 => by
    obtain ⟨z1, z2⟩ := rc_set c hQ h hS hv hk
    rw [← e3] at z1 z2
    refine hp G3 z1 ?_
    unfold sv_of
    rw [e, hn]
    exact z2
  unfold pq_Rq_set pq_Rq_set_0 pq_Rq_set_160
  refine ⟨fun w => ⟨h.1.1, h.2.1, fun G3 e3 => st 67 4 (by decide) rfl (key 67 (by decide) w) G3 e3⟩, fun w => no 68 rfl (key 68 (by decide) w), fun w => no 69 rfl (key 69 (by decide) w), fun w => no 70 rfl (key 70 (by decide) w), fun w => no 71 rfl (key 71 (by decide) w), fun w => no 72 rfl (key 72 (by decide) w), fun w => ⟨h.1.1, h.2.1, fun G3 e3 => st 73 3 (by decide) rfl (key 73 (by decide) w) G3 e3⟩, fun w => no 74 rfl (key 74 (by decide) w), fun w => ⟨h.1.1, h.2.1, fun G3 e3 => st 75 6 (by decide) rfl (key 75 (by decide) w) G3 e3⟩, fun w => no 76 rfl (key 76 (by decide) w), fun w => ⟨h.1.1, h.2.1, fun G3 e3 => st 77 0 (by decide) rfl (key 77 (by decide) w) G3 e3⟩, fun w => ⟨h.1.1, h.2.1, fun G3 e3 => st 78 1 (by decide) rfl (key 78 (by decide) w) G3 e3⟩, fun w => no 79 rfl (key 79 (by decide) w), fun w => ⟨h.1.1, h.2.1, fun G3 e3 => st 80 7 (by decide) rfl (key 80 (by decide) w) G3 e3⟩, fun w => no 81 rfl (key 81 (by decide) w), fun w => ⟨h.1.1, h.2.1, fun G3 e3 => st 82 2 (by decide) rfl (key 82 (by decide) w) G3 e3⟩, fun w => no 83 rfl (key 83 (by decide) w), fun w => no 84 rfl (key 84 (by decide) w), fun w => no 85 rfl (key 85 (by decide) w), fun w => ⟨h.1.1, h.2.1, fun G3 e3 => st 86 5 (by decide) rfl (key 86 (by decide) w) G3 e3⟩, fun w67 w68 w69 w70 w71 w72 w73 w74 w75 w76 w77 w78 w79 w80 w81 w82 w83 w84 w85 w86 => ?_⟩
  have e : hi_of l = none := by
    have f : ∀ n, ¬ nI l = nI n → l ≠ n := fun n w e => w (by rw [e])
    unfold hi_of
    rw [if_neg (f 77 w77), if_neg (f 78 w78), if_neg (f 82 w82), if_neg (f 73 w73), if_neg (f 67 w67), if_neg (f 86 w86), if_neg (f 75 w75), if_neg (f 80 w80)]
  exact no l e rfl
theorem h1_1 (h : rc_at E ow Q G p m pa vs) : wo_ty G p = 9 ∧ en_bs E ≤ p := ⟨h.1.1, h.2.1⟩
theorem sp_takeLength {Post : Int32 → wo_W → Prop} {a : Nat} {v : List Nat} (c : cx E ow G) (hQ : 0 < Q ∧ Q < B) (h : rd_k E ow B Q G x a1 a2 a3 p (pt, hd, ln, ch, lf, li, bo, m, pa, vs)) (hln : ∀ n, ln = some n → n < 100) (hS : tx_S G a v) (hv : v.length ≤ 8)
    (hp : ∀ n, tl_of v ln = some n → ∀ G', xt E (Rrd B Q) ow G ow G' → rd_k E ow B Q G' x a1 a2 a3 p (pt, hd, some n, ch, lf, li, bo, m, pa, vs) → Post 0 G') (hn : tl_of v ln = none → Post 400 G) : pq_Rd_takeLength E mc ms Post G x (some a) := by
  have k8 := h.2.2.2.2.2.2.2.1
  have h21 : ∀ o c s, (if 2 < v.length then none else wh_of v) = o → (∀ n, o = some n → n < 2 ^ 31) → pq_Rd_takeLength_21 E mc ms Post G c s x (wh_I o) := by
    intro o c2 s ho hob
    have et : tl_of v ln = tl_m ln o := by unfold tl_of; rw [ho]
    rw [et] at hp hn
    unfold pq_Rd_takeLength_21 pq_Rd_takeLength_43 pq_Rd_takeLength_47
    cases o with
    | none => exact ⟨fun _ => hn rfl, fun w => absurd rfl w⟩
    | some n =>
      have hn31 := hob n rfl
      have fin : (ln = none ∨ ln = some n) → wo_ty G x = 8 ∧ en_bs E ≤ x ∧ ∀ G3 : wo_W, G3 = wo_si G 454 x (nI n) → Post 0 G3 := by
        intro w
        refine ⟨h.1, h.2.1, fun G3 e3 => ?_⟩
        obtain ⟨z1, z2⟩ := rdk_si c hQ h (rd_f454 k8 (o := some n))
        rw [show wh_I (some n) = nI n from rfl, ← e3] at z1 z2
        exact hp n (if_pos w) G3 z1 z2
      refine ⟨fun w => absurd w (nI_nm1 hn31), fun _ => ⟨h.1, fun w => fin (Or.inl ?_), fun w => ⟨fun w2 => fin (Or.inr ?_), fun w2 => hn (if_neg ?_)⟩⟩⟩
      · rw [k8.2.2.1] at w
        cases e : ln with
        | none => rfl
        | some k => rw [e] at w; exact absurd w (nI_nm1 (n := k) (by have := hln k e; omega))
      · rw [k8.2.2.1] at w2
        exact (wh_Ieq (fun k e => by have := hln k e; omega) hn31).mp w2
      · rw [k8.2.2.1] at w w2
        intro z
        rcases z with z | z
        · exact w (by rw [z]; rfl)
        · exact w2 (by rw [z])
  unfold pq_Rd_takeLength pq_Rd_takeLength_0
  refine ⟨a, rfl, hS.1, 0, 0, Nat.zero_le _, Nat.zero_le _, sp_length hS ⟨fun w => ⟨hS.1, 0, 0, Nat.zero_le _, Nat.zero_le _, sp_length hS ⟨0, 0, Nat.zero_le _, Nat.zero_le _, sp_whole (p := 0) hS (Nat.zero_le _) (Nat.le_refl _) ?_⟩⟩, fun w => ?_⟩⟩
  · have z := (nI_leI (b := 2) (by omega) (by decide)).mp w
    rw [tx_sub_all]
    exact h21 _ _ _ (if_neg (by omega)) (fun n hn2 => by have := wh_b hv hn2; omega)
  · have z : 2 < v.length := Nat.lt_of_not_le (fun y => w (nI_le (b := 2) y (by decide)))
    exact h21 none _ _ (if_pos z) (fun n e => (by cases e))
theorem sp_endHeaders {Post : Int32 → wo_W → Prop} (c : cx E ow G) (hQ : 0 < Q ∧ Q < B) (h : rd_k E ow B Q G x a1 a2 a3 p (1, hd, ln, ch, 0, li, bo, m, pa, vs)) (hln : ∀ n, ln = some n → n < 100)
    (hp : ∀ G', xt E (Rrd B Q) ow G ow G' → rd_k E ow B Q G' x a1 a2 a3 p ((eh_of ln ch).2.1, hd, ln, ch, (eh_of ln ch).2.2, li, bo, m, pa, vs) → Post (nI (eh_of ln ch).1) G') : pq_Rd_endHeaders E mc ms Post G x := by
  have k8 := h.2.2.2.2.2.2.2.1
  obtain ⟨f1, f2, f3, f4, f5⟩ := k8
  have k8 := h.2.2.2.2.2.2.2.1
  unfold pq_Rd_endHeaders pq_Rd_endHeaders_0 pq_Rd_endHeaders_27
  refine ⟨h.1, fun w => ?_, fun w => ⟨h.2.1, fun G3 e3 => ?_⟩⟩
  · rw [f4] at w
    have ec : ch = false := by
      cases ch with
      | false => rfl
      | true => exact absurd w (by decide)
    rw [ec] at hp h
    have ee : eh_of ln false = eh_m ln := rfl
    rw [ee] at hp
    rw [f3]
    cases ln with
    | none => exact ⟨fun _ => ⟨fun w2 => absurd w2 (by decide), fun _ => hp G (xt.rf c.2) h⟩, fun w2 => absurd (by decide) w2⟩
    | some n =>
      have hn := hln n rfl
      unfold eh_m at hp
      simp only [] at hp
      refine ⟨fun w2 => ?_, fun w2 => ?_⟩
      · have z := (nI_leI (a := n) (b := 8) (by omega) (by decide)).mp w2
        rw [if_neg (show ¬ 8 < n by omega)] at hp
        refine ⟨fun w3 => ⟨h.2.1, fun G3 e3 => ⟨h.2.1, fun G4 e4 => ?_⟩⟩, fun w3 => ?_⟩
        · have z2 : ¬ n = 0 := fun z => by rw [z] at w3; exact absurd w3 (by decide)
          rw [if_neg z2] at hp
          obtain ⟨u1, u2⟩ := rdk_si (f := 456) (v := nI n) c hQ h (rd_f456 h.2.2.2.2.2.2.2.1 (l := n))
          have e3' : G3 = wo_si G 456 x (nI n) := e3
          rw [← e3'] at u1 u2
          have c2 := c.xt u1 (by rintro (⟨_, _⟩ | _) <;> omega)
          have ff : rd_f (wo_si G3 452 x (nI 2)) x 2 hd (some n) false n := by rw [e3']; exact rd_fx h.2.2.2.2.2.2.2.1
          obtain ⟨u3, u4⟩ := rdk_si c2 hQ u2 ff
          have e4' : G4 = wo_si G3 452 x (nI 2) := e4
          rw [← e4'] at u3 u4
          exact hp G4 (u1.tr u3) u4
        · have z2 : n = 0 := by
            apply Nat.eq_zero_of_not_pos
            intro z
            exact w3 (nI_lt (a := 0) z (by omega))
          rw [if_pos z2] at hp
          exact hp G (xt.rf c.2) h
      · have z : 8 < n := Nat.lt_of_not_le (fun y => w2 (nI_le (b := 8) y (by decide)))
        rw [if_pos z] at hp
        exact hp G (xt.rf c.2) h
  · rw [f4] at w
    have ec : ch = true := by
      cases ch with
      | true => rfl
      | false => exact absurd rfl w
    rw [ec] at hp h
    have ee : eh_of ln true = (if ln = none then 0 else 400, 3, 0) := rfl
    rw [ee] at hp
    obtain ⟨u1, u2⟩ := rdk_si c hQ h (rd_f452 (l2 := 0) h.2.2.2.2.2.2.2.1 (n := 3) (by omega))
    have e3' : G3 = wo_si G 452 x (nI 3) := e3
    rw [← e3'] at u1 u2
    have l3 := u2.2.2.2.2.2.2.2.1.2.2.1
    rw [l3]
    refine ⟨fun w2 => ?_, fun w2 => ?_⟩
    · have z : ¬ ln = none := fun z => w2 (by rw [z]; rfl)
      rw [if_neg z] at hp
      exact hp G3 u1 u2
    · have z : ln = none := by
        cases e : ln with
        | none => rfl
        | some k => rw [e] at w2; exact absurd w2 (nI_nm1 (n := k) (by have := hln k e; omega))
      rw [if_pos z] at hp
      exact hp G3 u1 u2
theorem sp_judgeChunk {Post : Int32 → wo_W → Prop} {a : Nat} {t : List Nat} (c : cx E ow G) (hQ : 0 < Q ∧ Q < B) (h : rd_k E ow B Q G x a1 a2 a3 p (3, hd, ln, ch, 0, li, bo, m, pa, vs)) (hbo : bo.length ≤ 8) (hS : tx_S G a t) (ht : t.length ≤ 20)
    (hp : ∀ G', xt E (Rrd B Q) ow G ow G' → rd_k E ow B Q G' x a1 a2 a3 p ((jc_of t bo).2.1, hd, ln, ch, (jc_of t bo).2.2, li, bo, m, pa, vs) → Post (nI (jc_of t bo).1) G') : pq_Rd_judgeChunk E mc ms Post G x (some a) := by
  have k8 := h.2.2.2.2.2.2.2.1
  have k10 := h.2.2.2.2.2.2.2.2.2.1
  have h20 : ∀ o c2 s, c2 ≤ mc → s ≤ ms → (if t.length = 1 then hx_of (t.getD 0 0) else none) = o → (∀ n, o = some n → n < 16) → pq_Rd_judgeChunk_20 E mc ms Post G c2 s x (wh_I o) := by
    intro o c2 s hc hs ho hob
    have et : jc_of t bo = jc_m bo o := by unfold jc_of; rw [ho]
    rw [et] at hp
    unfold pq_Rd_judgeChunk_20
    cases o with
    | none => exact ⟨fun w => absurd rfl w, fun _ => hp G (xt.rf c.2) h⟩
    | some n =>
      have hn := hob n rfl
      unfold jc_m at hp
      simp only [] at hp
      refine ⟨fun _ => ⟨fun w => ⟨h.1, fun r hr => ⟨a2, hr.trans h.2.2.2.2.1, k10.ty, 0, 0, hc, hs, bs_len k10 ?_⟩⟩, fun w => ⟨h.1, h.2.1, fun G3 e3 => ?_⟩⟩, fun w => absurd w (nI_nm1 (n := n) (by omega))⟩
      · have z : ¬ n = 0 := fun z => w (by rw [z]; rfl)
        rw [if_neg z] at hp
        rw [show wh_I (some n) = nI n from rfl, nI_add]
        refine ⟨fun w2 => ⟨h.1, h.2.1, fun G3 e3 => ⟨h.2.1, fun G4 e4 => ?_⟩⟩, fun w2 => ?_⟩
        · have z2 := (nI_leI (b := 8) (by omega) (by decide)).mp w2
          rw [if_neg (by omega)] at hp
          obtain ⟨u1, u2⟩ := rdk_si c hQ h (rd_f456 k8 (l := n))
          rw [← e3] at u1 u2
          have c2 := c.xt u1 (by rintro (⟨_, _⟩ | _) <;> omega)
          have ff : rd_f (wo_si G3 452 x (nI 4)) x 4 hd ln ch n := by rw [e3]; exact rd_fx k8
          obtain ⟨u3, u4⟩ := rdk_si c2 hQ u2 ff
          have e4' : G4 = wo_si G3 452 x (nI 4) := e4
          rw [← e4'] at u3 u4
          exact hp G4 (u1.tr u3) u4
        · have z2 : 8 < bo.length + n := Nat.lt_of_not_le (fun y => w2 (nI_le (b := 8) y (by decide)))
          rw [if_pos z2] at hp
          exact hp G (xt.rf c.2) h
      · have z : n = 0 := (nI_eq (b := 0) (by omega) (by decide)).mp w
        rw [if_pos z] at hp
        obtain ⟨u1, u2⟩ := rdk_si c hQ h (rd_f452 k8 (n := 6) (l2 := 0) (by omega))
        have e3' : G3 = wo_si G 452 x (nI 6) := e3
        rw [← e3'] at u1 u2
        exact hp G3 u1 u2
  unfold pq_Rd_judgeChunk pq_Rd_judgeChunk_0
  refine ⟨a, rfl, hS.1, 0, 0, Nat.zero_le _, Nat.zero_le _, sp_length hS ⟨fun w => ?_, fun w => ⟨hS.1, 0, 0, Nat.zero_le _, Nat.zero_le _, ?_⟩⟩⟩
  · have z : ¬ t.length = 1 := fun z => w (by rw [z]; rfl)
    exact h20 none _ _ (Nat.zero_le _) (Nat.zero_le _) (if_neg z) (fun n e => (by cases e))
  · have z : t.length = 1 := (nI_eq (b := 1) (by omega) (by decide)).mp w
    have hc := hS.2.2.2.1 _ (tx_mem (t := t) (i := 0) (by omega))
    refine sp_charAt (i := 0) hS (by omega) ⟨0, 0, Nat.zero_le _, Nat.zero_le _, sp_hex (by omega) ?_⟩
    exact h20 _ _ _ (Nat.zero_le _) (Nat.zero_le _) (if_pos z) (fun n e => hx_lt e)
end SP
