abbrev cnT : Type := List Nat × rdT × Bool × Nat × Nat × List Nat × (Nat → rqT) × (Nat → Option (List Nat))
def c_raw (v : cnT) : List Nat := v.1
def c_rd (v : cnT) : rdT := v.2.1
def c_sh (v : cnT) : Bool := v.2.2.1
def c_nh (v : cnT) : Nat := v.2.2.2.1
def c_na (v : cnT) : Nat := v.2.2.2.2.1
def c_out (v : cnT) : List Nat := v.2.2.2.2.2.1
def c_rv (v : cnT) : Nat → rqT := v.2.2.2.2.2.2.1
def c_an (v : cnT) : Nat → Option (List Nat) := v.2.2.2.2.2.2.2
def Bc (c : Nat) : Nat := 1000 * (c + 1)
def Qc (c : Nat) : Nat := 100 + 32 * c
def cn_a (E : wo_E) (ow : Nat → Nat) (G : wo_W) (c o : Nat) (ra : Nat → Nat) (v : cnT) : Prop := ∃ x ar au, cn_k E ow (Bc c) G o x ar au (c_nh v) (c_na v) (c_out v) (c_sh v) ra ∧ rqs_at E ow G (Qc c) (c_nh v) ra (c_rv v) (c_an v) ∧ (c_sh v = false → rd_at E ow (Bc c) (Qc c + c_nh v) G x (c_rd v))
def dvc (v : cnT) : cnT := (c_raw v, c_rd v, c_sh v, c_nh v, (dv_go (c_an v) (c_nh v - c_na v) (c_na v) (c_out v)).1, (dv_go (c_an v) (c_nh v - c_na v) (c_na v) (c_out v)).2, c_rv v, c_an v)
def dv_ok (v : cnT) : Prop := (c_out v).length + 80 * (c_nh v - c_na v) ≤ 640 ∧ ∀ t u, t < c_nh v → c_an v t = some u → u.length ≤ 80
def anc (v : cnT) (t : Nat) (u : List Nat) : cnT := (c_raw v, c_rd v, c_sh v, c_nh v, c_na v, c_out v, c_rv v, fun k => if k = t then some u else c_an v k)
def ca_at (G : wo_W) (ow : Nat → Nat) (ca : Nat) (cad : Nat → Nat) : Prop := wo_ty G ca = 64 ∧ wo_len G ca = 3 ∧ ow ca = 7 ∧ ∀ c, c < 3 → wo_er G ca c = some (cad c)
section SP
variable {E : wo_E} {mc ms : Nat} {G G1 : wo_W} {x ca og so sh sj wl now c o : Nat} {ow ow1 : Nat → Nat} {R : Nat → Prop} {ra : Nat → Nat} {v : cnT} {cad : Nat → Nat}
theorem ca_at.xt (h : ca_at G ow ca cad) (y : xt E R ow G ow1 G1) (h0 : ¬ R 7) : ca_at G1 ow1 ca cad := by
  obtain ⟨k1, k2, k3, k4⟩ := h
  have z : wo_ty G ca ≠ 0 := by rw [k1]; decide
  have e := y.eq z (by rw [k3]; exact h0)
  exact ⟨e.1.trans k1, e.2.1.trans k2, (y.w z).trans k3, fun c hc => (e.2.2.2.2.2.2.2 c).trans (k4 c hc)⟩
theorem cn_a.nh (h : cn_a E ow G c o ra v) : c_nh v ≤ 20 ∧ c_na v ≤ c_nh v ∧ (c_out v).length ≤ 640 := by
  obtain ⟨x, ar, au, k, _⟩ := h
  exact ⟨k.2.2.2.1, k.2.2.2.2.1, k.2.2.2.2.2.1⟩
theorem cn_a.xt (h : cn_a E ow G c o ra v) (y : xt E R ow G ow1 G1) (h0 : ¬ R 0) (hB : ∀ k, k ≤ 6 → ¬ R (Bc c + k)) (hQ : ∀ t, t ≤ 20 → ¬ R (Qc c + t)) : cn_a E ow1 G1 c o ra v := by
  have hn := h.nh.1
  obtain ⟨x, ar, au, k1, k2, k3⟩ := h
  exact ⟨x, ar, au, k1.xt y (hB 0 (by omega)) (hB 5 (by omega)) (hB 6 (by omega)), k2.xt y h0 (fun t ht => hQ t (by omega)), fun z => (k3 z).xt y h0 (fun k h1 h2 => hB k (by omega)) (hQ _ (by omega))⟩
theorem Rcn0 : ¬ Rcn (Bc c) 0 := by unfold Bc; rintro (z | z | z) <;> omega
theorem RcnQ {t : Nat} (hc : c < 3) (ht : t ≤ 20) {d : Nat} (hd : d < 3) : ¬ Rcn (Bc c) (Qc d + t) := by unfold Bc Qc; rintro (z | z | z) <;> omega
theorem sp_deliverC {Post : wo_W → Prop} (cc : cx E ow G) (hc : c < 3) (h : cn_a E ow G c o ra v) (hok : dv_ok v) (hp : ∀ G', xt E (Rcn (Bc c)) ow G ow G' → cn_a E ow G' c o ra (dvc v) → Post G') : pq_Cn_deliver E mc ms Post G o := by
  have hn := h.nh.1
  obtain ⟨x, ar, au, k1, k2, k3⟩ := h
  refine sp_deliver cc (by unfold Bc; omega) (fun t ht => RcnQ hc (by omega) hc) hok.2 k1 k2 hok.1 (fun G' y k4 => hp G' y ⟨x, ar, au, k4, k2.xt y Rcn0 (fun t ht => RcnQ hc (by omega) hc), fun z => (k3 z).xt y Rcn0 (fun k h1 h2 => ?_) (RcnQ hc (by omega) hc)⟩)
  rintro (z | z | z) <;> omega
theorem rq_523 {t q : Nat} {r : rqT} {n : Nat} (cc : cx E ow G) (h : rq_v (im ow) G t r) (hn : ow t = n) (hn0 : n ≠ 0) : rq_v (im ow) (wo_sr G 523 t (some q)) t r := by
  have y : xt E (fun r => r = n) ow G ow (wo_sr G 523 t (some q)) := xt.of cc.2 (fr_sr hn)
  have n0 : ¬ (fun r => r = n) 0 := fun e => hn0 e.symm
  obtain ⟨y1, y2, y3, ⟨y4, y5, y6⟩, ⟨y7, y8, y9, y10⟩, y11⟩ := h
  have g : ∀ f, f ≠ 523 → wo_gr (wo_sr G 523 t (some q)) f t = wo_gr G f t := fun f hf => by simp [wo_gr, wo_sr, wo_u2, hf]
  exact ⟨y1, y2, y3, ⟨y4, (g 513 (by decide)).trans y5, y6.xt y n0⟩, ⟨y7, (g 514 (by decide)).trans y8, y9.xt y n0, y10⟩, fun k hk => by rw [g (515 + k) (by omega)]; exact (y11 k hk).xt y n0⟩
theorem cn_rx {v' : cnT} (h : cn_a E ow G c o ra v) (e1 : c_sh v' = c_sh v) (e2 : c_nh v' = c_nh v) (e3 : c_na v' = c_na v) (e4 : c_out v' = c_out v) (e5 : c_an v' = c_an v) (e6 : ∀ t, t < c_nh v → c_an v t = none → c_rv v' t = c_rv v t) (e7 : c_sh v = false → c_rd v' = c_rd v) : cn_a E ow G c o ra v' := by
  obtain ⟨x, ar, au, k1, k2, k3⟩ := h
  refine ⟨x, ar, au, by rw [e1, e2, e3, e4]; exact k1, fun t ht => ?_, fun z => ?_⟩
  · rw [e2] at ht
    obtain ⟨p1, p2, p3, p4, p5⟩ := k2 t ht
    rw [e5]
    exact ⟨p1, p2, p3, p4, fun e => by rw [e6 t ht e]; exact p5 e⟩
  · rw [e1] at z
    rw [e2, e7 z]
    exact k3 z
theorem cn_set {t q : Nat} {u : List Nat} (cc : cx E ow G) (hc : c < 3) (h : cn_a E ow G c o ra v) (ht : t < c_nh v) (hS : tx_i (im ow) G q u) : wo_ty G (ra t) = 9 ∧ en_bs E ≤ ra t ∧ xt E (fun r => r = Qc c + t) ow G ow (wo_sr G 523 (ra t) (some q)) ∧ cn_a E ow (wo_sr G 523 (ra t) (some q)) c o ra (anc v t u) ∧ ow (ra t) = Qc c + t := by
  have hn := h.nh.1
  obtain ⟨x, ar, au, k1, k2, k3⟩ := h
  obtain ⟨q1, q2, q3, q4, q5⟩ := k2 t ht
  have y : xt E (fun r => r = Qc c + t) ow G ow (wo_sr G 523 (ra t) (some q)) := xt.of cc.2 (fr_sr q3)
  have n0 : ¬ (fun r => r = Qc c + t) 0 := by unfold Qc; omega
  refine ⟨q1, q2, y, ⟨x, ar, au, k1.xt y (by unfold Bc Qc; omega) (by unfold Bc Qc; omega) (by unfold Bc Qc; omega), fun s hs => ?_, fun z => (k3 z).xt y n0 (fun k h1 h2 => by unfold Bc Qc; omega) (by show ¬ Qc c + c_nh v = Qc c + t; omega)⟩, q3⟩
  have hs' : s < c_nh v := hs
  by_cases z : s = t
  · rw [z]
    have e523 : wo_gr (wo_sr G 523 (ra t) (some q)) 523 (ra t) = some q := by simp [wo_gr, wo_sr, wo_u2]
    refine ⟨q1, q2, q3, ?_, fun e => ?_⟩
    · show an_at _ _ _ (if t = t then some u else c_an v t)
      rw [if_pos rfl]
      exact ⟨q, e523, hS.xt y n0⟩
    · have e2 : (if t = t then some u else c_an v t) = none := e
      rw [if_pos rfl] at e2
      cases e2
  · obtain ⟨p1, p2, p3, p4, p5⟩ := k2 s hs'
    have zp : wo_ty G (ra s) ≠ 0 := by rw [p1]; decide
    have n : ¬ (fun r => r = Qc c + t) (ow (ra s)) := by rw [p3]; show ¬ Qc c + s = Qc c + t; omega
    refine ⟨p1, p2, p3, ?_, fun e => ?_⟩
    · show an_at _ _ _ (if s = t then some u else c_an v s)
      rw [if_neg z]
      exact p4.xt y n0 zp n
    · have e2 : (if s = t then some u else c_an v s) = none := e
      rw [if_neg z] at e2
      exact rq_at.xt (p5 e2) y n0 n
theorem sp_dvaLoop {Post : wo_W → Prop} {raf : Nat → Nat → Nat} : ∀ (k d : Nat) (cn : Nat → cnT) (G : wo_W) (c2 s : Nat), d + k = 3 → cx E ow G → ec_o E ow G x ca og so sh sj wl now → ca_at G ow ca cad → (∀ e, e < 3 → cn_a E ow G e (cad e) (raf e) (cn e)) → (∀ e, e < 3 → dv_ok (cn e)) → c2 ≤ mc → s ≤ ms →
    (∀ G', xt E (fun r => 1000 ≤ r) ow G ow G' → (∀ e, e < 3 → cn_a E ow G' e (cad e) (raf e) (if d ≤ e then dvc (cn e) else cn e)) → Post G') → pq_EC_deliver_2 E mc ms Post (k + 1) G c2 s x (nI d) := by
  intro k
  induction k with
  | zero =>
    intro d cn G c2 s hd cc ho hca hcn hok hc hs hp
    unfold pq_EC_deliver_2
    refine ⟨fun _ => hp G (xt.rf cc.2) (fun e he => ?_), fun w => absurd (by rw [show d = 3 by omega]; decide) w⟩
    rw [if_neg (by omega)]
    exact hcn e he
  | succ k ih =>
    intro d cn G c2 s hd cc ho hca hcn hok hc hs hp
    have ho' := ho
    obtain ⟨k1, k2, k3, k4, k5, k6, k7, k8, k9, k10⟩ := ho'
    have hd3 : d < 3 := by omega
    have cd := hcn d hd3
    have tcd : wo_ty G (cad d) = 7 := by obtain ⟨_, _, _, q, _⟩ := cd; exact q.1.1
    unfold pq_EC_deliver_2
    refine ⟨fun w => absurd w (nI_lit3 hd3), fun _ => ⟨k1, fun r hr => ⟨ca, hr.trans k4, hca.1, by rw [hca.2.1]; exact vp_in_nI hd3 (by decide), fun r7 hr7 => ⟨cad d, ?_, tcd, 0, 0, hc, hs, sp_deliverC cc hd3 cd (hok d hd3) (fun G2 y2 c2' => ?_)⟩⟩⟩⟩
    · rw [hr7, nI_clamp (by omega)]
      exact hca.2.2.2 d hd3
    · have y2' : xt E (fun r => 1000 ≤ r) ow G ow G2 := y2.mn (fun r z => by unfold Rcn Bc at z; show 1000 ≤ r; omega)
      have cn2 : ∀ e, e < 3 → cn_a E ow G2 e (cad e) (raf e) (if e = d then dvc (cn e) else cn e) := by
        intro e he
        by_cases z : e = d
        · rw [if_pos z, z]; exact c2'
        · rw [if_neg z]
          refine (hcn e he).xt y2 Rcn0 (fun k hk => ?_) (fun t ht => RcnQ hd3 ht he)
          unfold Bc
          rintro (w | w | w) <;> omega
      rw [nI_1]
      refine ih (d + 1) (fun e => if e = d then dvc (cn e) else cn e) G2 _ _ (by omega) (cc.xt y2 Rcn0) (ho.xt y2 (by unfold Bc; rintro (w | w | w) <;> omega)) (hca.xt y2 (by unfold Bc; rintro (w | w | w) <;> omega)) cn2 (fun e he => ?_) hc hs (fun G' y3 c3 => hp G' (y2'.tr y3) (fun e he => ?_))
      · by_cases z : e = d
        · simp only [if_pos z]
          obtain ⟨q1, q2⟩ := hok e he
          have len : ∀ k na out, na + k ≤ c_nh (cn e) → out.length + 80 * k ≤ 640 → (dv_go (c_an (cn e)) k na out).2.length + 80 * (c_nh (cn e) - (dv_go (c_an (cn e)) k na out).1) ≤ out.length + 80 * (c_nh (cn e) - na) := by
            intro k
            induction k with
            | zero => intro na out _ _; exact Nat.le_refl _
            | succ k ih2 =>
              intro na out h1 h2
              unfold dv_go
              cases e2 : c_an (cn e) na with
              | none => exact Nat.le_refl _
              | some u =>
                have ul := q2 na u (by omega) e2
                have := ih2 (na + 1) (out ++ u) (by omega) (by rw [List.length_append]; omega)
                simp only []
                rw [List.length_append] at this
                omega
          refine ⟨?_, q2⟩
          have hn := (hcn e he).nh
          have := len (c_nh (cn e) - c_na (cn e)) (c_na (cn e)) (c_out (cn e)) (by omega) q1
          show (dv_go (c_an (cn e)) (c_nh (cn e) - c_na (cn e)) (c_na (cn e)) (c_out (cn e))).2.length + 80 * (c_nh (cn e) - (dv_go (c_an (cn e)) (c_nh (cn e) - c_na (cn e)) (c_na (cn e)) (c_out (cn e))).1) ≤ 640
          omega
        · simp only [if_neg z]; exact hok e he
      · have := c3 e he
        by_cases z : d + 1 ≤ e
        · rw [if_pos z] at this
          rw [if_pos (by omega)]
          simp only [if_neg (show ¬ e = d by omega)] at this
          exact this
        · rw [if_neg z] at this
          by_cases w : e = d
          · rw [if_pos (by omega)]
            simp only [if_pos w] at this
            exact this
          · rw [if_neg (by omega)]
            simp only [if_neg w] at this
            exact this
theorem sp_deliverAll {Post : wo_W → Prop} {raf : Nat → Nat → Nat} {cn : Nat → cnT} (cc : cx E ow G) (ho : ec_o E ow G x ca og so sh sj wl now) (hca : ca_at G ow ca cad) (hcn : ∀ e, e < 3 → cn_a E ow G e (cad e) (raf e) (cn e)) (hok : ∀ e, e < 3 → dv_ok (cn e))
    (hp : ∀ G', xt E (fun r => 1000 ≤ r) ow G ow G' → (∀ e, e < 3 → cn_a E ow G' e (cad e) (raf e) (dvc (cn e))) → Post G') : pq_EC_deliver E mc ms Post G x := by
  unfold pq_EC_deliver pq_EC_deliver_0
  refine ⟨4, sp_dvaLoop 3 0 cn G _ _ rfl cc ho hca hcn hok (Nat.zero_le _) (Nat.zero_le _) (fun G' y c => hp G' y (fun e he => ?_))⟩
  have := c e he
  rw [if_pos (Nat.zero_le _)] at this
  exact this
end SP
