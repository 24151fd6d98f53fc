theorem qu_lt {x : Nat} {t : List Nat} (h : t.length ≤ 8) : qu_of (nb_of x t) < 10 ^ 8 := by
  have := nb_b (x := x) h
  cases e : nb_of x t with
  | none => decide
  | some q => cases q with
    | none => decide
    | some n => rw [e] at this; exact this
section SP
variable {E : wo_E} {mc ms : Nat} {G : wo_W} {p A : Nat} {pa t : List Nat} {fs : Nat → Option rpT} {im : Nat → Prop}
theorem sp_chLoop {Post : Option Nat → wo_W → Prop} {c s a : Nat} (h : rs_at E im G p pa A fs) (hS : tx_S G a t) (ht : t.length ≤ 8) (hc : c ≤ mc) (hs : s ≤ ms) : ∀ k i (b : Option rpT × Nat) (x : Option Nat), i + k = 3 → rp_O im G x b.1 → b.2 < 10 ^ 8 → (∀ r, rp_O im G r (cs_k t fs k b).1 → Post r G) → pq_Rs_choose_24 E mc ms Post (k + 1) G c s p (some a) x (nI b.2) (nI i) := by
  intro k
  induction k with
  | zero =>
    intro i b x hi hx hb hp
    unfold pq_Rs_choose_24
    rw [show i = 3 by omega]
    exact ⟨fun _ => hp x hx, fun q => absurd (by decide) q⟩
  | succ k ih =>
    intro i b x hi hx hb hp
    obtain ⟨k1, k2, k3, k4, k5⟩ := h.el (i := i) (by omega)
    have ei : 2 - k = i := by omega
    unfold cs_k at hp
    rw [ei] at hp
    have h78 : ∀ q, q < 10 ^ 8 → (cs_of t fs b i = if b.2 < q then (fs i, q) else b) → pq_Rs_choose_78 E mc ms Post (pq_Rs_choose_24 E mc ms Post (k + 1)) G c s p (some a) x (nI b.2) (nI i) (nI q) := by
      intro q hq he
      rw [he] at hp
      unfold pq_Rs_choose_78 pq_Rs_choose_97
      refine ⟨fun w => ?_, fun w => ⟨k1, fun r hr => ⟨A, k2 r hr, k3, k4, fun r hr => ?_⟩⟩⟩
      · have y : ¬ b.2 < q := fun y => nI_ge y (by omega) w
        rw [if_neg y] at hp
        rw [nI_1]
        exact ih (i + 1) b x (by omega) hx hb hp
      · have y : b.2 < q := Nat.lt_of_not_le (fun y => w (nI_le y (by omega)))
        rw [if_pos y] at hp
        rw [nI_1]
        exact ih (i + 1) (fs i, q) r (by omega) (k5 r hr) hq hp
    unfold pq_Rs_choose_24
    refine ⟨fun q => absurd q (nI_lit3 (by omega)), fun _ => ⟨k1, fun r hr => ⟨A, k2 r hr, k3, k4, fun r hr => ⟨fun z => ?_, fun y hy r2 hr2 => ⟨A, k2 r2 hr2, k3, k4, fun r3 hr3 => ?_⟩⟩⟩⟩⟩
    · have hn := (k5 r hr).none z
      unfold pq_Rs_choose_59
      refine ⟨fun _ => h78 0 (by decide) ?_, fun q => absurd q (by decide)⟩
      unfold cs_of
      rw [hn, if_neg (Nat.not_lt_zero _)]
    · rw [← hr] at hr3
      obtain ⟨q, e1, e2⟩ := (k5 r hr).some hy
      have e2' := e2
      obtain ⟨g1, g2, g3, g4, _⟩ := e2'
      refine ⟨y, hr3.trans hy, g1, 0, 0, hc, hs, ?_⟩
      rw [g3]
      refine sp_number hS ht g4 ?_
      show pq_Rs_choose_59 E mc ms Post (pq_Rs_choose_24 E mc ms Post (k + 1)) G c s p (some a) x (nI b.2) (nI i) (nb_I (nb_of q.1 t))
      have hq := qu_lt (x := q.1) ht
      have he : cs_of t fs b i = if b.2 < qu_of (nb_of q.1 t) then (fs i, qu_of (nb_of q.1 t)) else b := by
        unfold cs_of
        rw [e1]
      have hb8 := nb_b (x := q.1) ht
      unfold pq_Rs_choose_59
      cases st : nb_of q.1 t with
      | none =>
        rw [st] at he hq
        exact ⟨fun _ => h78 0 (by decide) he, fun w => absurd w (by decide)⟩
      | some o => cases o with
        | none =>
          rw [st] at he hq
          exact ⟨fun w => absurd rfl w, fun _ => h78 9 (by decide) he⟩
        | some n =>
          rw [st] at he hq hb8
          refine ⟨fun _ => ?_, fun w => absurd w (nI_nm1 (n := n) (by have : n < 10 ^ 8 := hq; omega))⟩
          rw [nb_max (by omega)]
          exact h78 n hq he
theorem sp_choose {Post : Option Nat → wo_W → Prop} {x : Option Nat} {o : Option (List Nat)} (h : rs_at E im G p pa A fs) (hO : tx_O G x o) (hp : ∀ r, rp_O im G r (ch_of o fs) → Post r G) : pq_Rs_choose E mc ms Post G p x := by
  have h12 : ∀ c s, c ≤ mc → s ≤ ms → (∀ r, rp_O im G r (le_of fs) → Post r G) → pq_Rs_choose_12 E mc ms Post G c s p := by
    intro c s hc hs hp
    unfold pq_Rs_choose_12
    exact ⟨h.1, 0, 0, hc, hs, sp_least h hp⟩
  have hct : ct_of fs < 2 ^ 31 := Nat.lt_of_le_of_lt (ct_le fs 3) (by decide)
  unfold pq_Rs_choose pq_Rs_choose_0
  refine ⟨fun e => ?_, fun q e => ?_⟩
  · cases o with
    | none => exact h12 0 0 (Nat.zero_le _) (Nat.zero_le _) hp
    | some t => rw [e] at hO; exact False.elim hO
  · cases o with
    | none => rw [e] at hO; exact False.elim hO
    | some t =>
      rw [e] at hO
      unfold ch_of at hp
      simp only [] at hp
      refine ⟨h.1, 0, 0, Nat.zero_le _, Nat.zero_le _, sp_letterCount h ⟨fun w => ⟨4, ?_⟩, fun w => h12 0 0 (Nat.zero_le _) (Nat.zero_le _) ?_⟩⟩
      · have y : ¬ ct_of fs = 1 := fun y => w (by rw [y]; rfl)
        rw [if_neg y] at hp
        exact sp_chLoop h hO.1 hO.2 (Nat.zero_le _) (Nat.zero_le _) 3 0 (none, 0) none rfl trivial (by decide) hp
      · have y : ct_of fs = 1 := (nI_eq (b := 1) hct (by decide)).mp w
        rw [if_pos y] at hp
        exact hp
end SP
