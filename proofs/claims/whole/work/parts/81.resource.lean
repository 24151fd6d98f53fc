abbrev rpT : Type := Nat × List Nat × Nat × List Nat × Bool
def rp_A (im : Nat → Prop) (G : wo_W) (p : Nat) (r : rpT) : Prop := rp_at im G p r.1 r.2.1 r.2.2.1 r.2.2.2.1 r.2.2.2.2
def rp_O (im : Nat → Prop) (G : wo_W) (p : Option Nat) (o : Option rpT) : Prop := match p, o with
  | none, none => True
  | some q, some r => rp_A im G q r
  | _, _ => False
def ra_at (E : wo_E) (im : Nat → Prop) (G : wo_W) (A : Nat) (fs : Nat → Option rpT) : Prop := wo_ty G A = 70 ∧ wo_len G A = 3 ∧ en_bs E ≤ A ∧ ∀ i, i < 3 → rp_O im G (wo_er G A i) (fs i)
def rs_at (E : wo_E) (im : Nat → Prop) (G : wo_W) (p : Nat) (pa : List Nat) (A : Nat) (fs : Nat → Option rpT) : Prop := wo_ty G p = 12 ∧ im p ∧ (∃ q, wo_gr G 704 p = some q ∧ tx_i im G q pa) ∧ wo_gr G 705 p = some A ∧ ra_at E im G A fs
def pl_at : Option (List Nat) → Option Nat
  | none => some 0
  | some t => if t.length = 1 ∧ 97 ≤ t.getD 0 0 ∧ t.getD 0 0 < 100 then some (t.getD 0 0 - 97) else none
def le_k (fs : Nat → Option rpT) : Nat → Option rpT
  | 0 => none
  | k + 1 => match fs (2 - k) with
    | some r => some r
    | none => le_k fs k
def le_of (fs : Nat → Option rpT) : Option rpT := le_k fs 3
def ct_k (fs : Nat → Option rpT) : Nat → Nat
  | 0 => 0
  | k + 1 => (if (fs (2 - k)).isSome then 1 else 0) + ct_k fs k
def ct_of (fs : Nat → Option rpT) : Nat := ct_k fs 3
def qu_of : Option (Option Nat) → Nat
  | none => 0
  | some none => 9
  | some (some n) => n
def cs_of (t : List Nat) (fs : Nat → Option rpT) (b : Option rpT × Nat) (i : Nat) : Option rpT × Nat := match fs i with
  | none => b
  | some r => if b.2 < qu_of (nb_of r.1 t) then (some r, qu_of (nb_of r.1 t)) else b
def cs_k (t : List Nat) (fs : Nat → Option rpT) : Nat → Option rpT × Nat → Option rpT × Nat
  | 0, b => b
  | k + 1, b => cs_k t fs k (cs_of t fs b (2 - k))
def ch_of (o : Option (List Nat)) (fs : Nat → Option rpT) : Option rpT := match o with
  | none => le_of fs
  | some t => if ct_of fs = 1 then le_of fs else (cs_k t fs 3 (none, 0)).1
theorem rp_O.none {im : Nat → Prop} {G : wo_W} {r : Option Nat} {o : Option rpT} (h : rp_O im G r o) (e : r = Option.none) : o = Option.none := by
  cases o with
  | none => rfl
  | some t => rw [e] at h; exact False.elim h
theorem rp_O.some {im : Nat → Prop} {G : wo_W} {r : Option Nat} {o : Option rpT} {q : Nat} (h : rp_O im G r o) (e : r = Option.some q) : ∃ t, o = Option.some t ∧ rp_A im G q t := by
  cases o with
  | none => rw [e] at h; exact False.elim h
  | some t => rw [e] at h; exact ⟨t, rfl, h⟩
theorem rp_O.xt {E : wo_E} {R : Nat → Prop} {ow ow1 : Nat → Nat} {G G1 : wo_W} {r : Option Nat} {o : Option rpT} (h : rp_O (im ow) G r o) (x : xt E R ow G ow1 G1) (h0 : ¬ R 0) : rp_O (im ow1) G1 r o := by
  cases r with
  | none => cases o with
    | none => exact h
    | some t => exact h
  | some q => cases o with
    | none => exact h
    | some t => exact rp_at.xt h x h0
theorem ra_at.xt {E : wo_E} {R : Nat → Prop} {ow ow1 : Nat → Nat} {G G1 : wo_W} {A : Nat} {fs : Nat → Option rpT} (h : ra_at E (im ow) G A fs) (x : xt E R ow G ow1 G1) (h0 : ¬ R 0) (hA : ¬ R (ow A)) : ra_at E (im ow1) G1 A fs := by
  obtain ⟨h1, h2, h3, h4⟩ := h
  have e := x.eq (by rw [h1]; decide) hA
  exact ⟨e.1.trans h1, e.2.1.trans h2, h3, fun i hi => by rw [e.2.2.2.2.2.2.2]; exact (h4 i hi).xt x h0⟩
theorem rs_at.xt {E : wo_E} {R : Nat → Prop} {ow ow1 : Nat → Nat} {G G1 : wo_W} {p A : Nat} {pa : List Nat} {fs : Nat → Option rpT} (h : rs_at E (im ow) G p pa A fs) (x : xt E R ow G ow1 G1) (h0 : ¬ R 0) (hA : ¬ R (ow A)) : rs_at E (im ow1) G1 p pa A fs := by
  obtain ⟨h1, h2, ⟨q, h3, h4⟩, h5, h6⟩ := h
  have nz : wo_ty G p ≠ 0 := by rw [h1]; decide
  have e := x.eq nz (fun z => h0 (by rw [← show ow p = 0 from h2]; exact z))
  exact ⟨e.1.trans h1, (x.w nz).trans h2, ⟨q, (e.2.2.2.2.1 _).trans h3, h4.xt x h0⟩, (e.2.2.2.2.1 _).trans h5, h6.xt x h0 hA⟩
theorem nI_lit3 {i : Nat} (h : i < 3) : ¬ (3 : Int32) ≤ nI i := nI_ge (b := 3) h (by decide)
section SP
variable {E : wo_E} {mc ms : Nat} {G : wo_W} {p A : Nat} {pa : List Nat} {fs : Nat → Option rpT} {im : Nat → Prop}
theorem rs_at.el (h : rs_at E im G p pa A fs) {i : Nat} (hi : i < 3) : wo_ty G p = 12 ∧ (∀ r, r = wo_gr G 705 p → r = some A) ∧ wo_ty G A = 70 ∧ vp_in (nI i) (wo_len G A) ∧ ∀ r, r = wo_er G A (nI i).toNatClampNeg → rp_O im G r (fs i) := by
  obtain ⟨h1, h2, h3, h4, h5, h6, h7, h8⟩ := h
  refine ⟨h1, fun r hr => hr.trans h4, h5, by rw [h6]; exact vp_in_nI hi (by decide), fun r hr => ?_⟩
  rw [hr, nI_clamp (by omega)]
  exact h8 i hi
theorem sp_placeOf {Post : Int32 → wo_W → Prop} {r : Option Nat} {o : Option (List Nat)} (h : tx_O G r o) (hp : Post (wh_I (pl_at o)) G) : pq_Rs_placeOf E mc ms Post G r := by
  unfold pq_Rs_placeOf pq_Rs_placeOf_0
  refine ⟨fun e => ?_, fun q e => ?_⟩
  · cases o with
    | none => exact hp
    | some t => rw [e] at h; exact False.elim h
  · cases o with
    | none => rw [e] at h; exact False.elim h
    | some t =>
      rw [e] at h
      obtain ⟨hS, hl⟩ := h
      have p26 : ∀ c s (y : Int32), (∀ n, n < 3 → y = nI n → Post (nI n) G) → ((∀ n, n < 3 → y ≠ nI n) → Post (-1) G) → pq_Rs_placeOf_26 E mc ms Post G c s y := by
        intro c s y k1 k2
        unfold pq_Rs_placeOf_26 pq_Rs_placeOf_40 pq_Rs_placeOf_41
        refine ⟨fun q => k2 (fun n hn e => nI_pos (n := n) (by omega) (e ▸ q)), fun q => ⟨fun q2 => k2 (fun n hn e => nI_lit3 hn (e ▸ q2)), fun q2 => ?_⟩⟩
        have t0 : (0 : Int32).toInt = 0 := by decide
        have t3 : (3 : Int32).toInt = 3 := by decide
        rw [Int32.lt_iff_toInt_lt, t0] at q
        rw [Int32.le_iff_toInt_le, t3] at q2
        have hy : y = nI y.toInt.toNat := by
          apply Int32.toInt_inj.mp
          rw [nI_toInt (by omega)]
          omega
        have := k1 y.toInt.toNat (by omega) hy
        rw [← hy] at this
        exact this
      refine ⟨hS.1, 0, 0, by omega, by omega, sp_length hS ⟨fun q => ?_, fun q => ⟨hS.1, 0, 0, by omega, by omega, ?_⟩⟩⟩
      · have y : ¬ t.length = 1 := fun y => q (by rw [y]; rfl)
        refine p26 _ _ _ (fun n hn e => absurd e.symm (nI_nm1 (by omega))) (fun _ => ?_)
        unfold pl_at at hp
        simp only [] at hp
        rw [if_neg (fun w => y w.1)] at hp
        exact hp
      · have y : t.length = 1 := (nI_eq (b := 1) (by omega) (by decide)).mp q
        have hc := hS.2.2.2.1 _ (tx_mem (t := t) (i := 0) (by omega))
        refine sp_charAt (i := 0) hS (by omega) ?_
        have key : ∀ n, n < 3 → (nI (t.getD 0 0) - 97 = nI n ↔ t.getD 0 0 = 97 + n) := by
          intro n hn
          refine ⟨fun e => ?_, fun e => by rw [e, show (97 : Int32) = nI 97 from rfl, pk_sub (by omega)]; congr 1; omega⟩
          have e2 := congrArg Int32.toInt e
          rw [show (97 : Int32) = nI 97 from rfl, pk_sub_toInt (by omega) (by omega), nI_toInt (by omega)] at e2
          omega
        unfold pl_at at hp
        simp only [] at hp
        refine p26 _ _ _ (fun n hn e => ?_) (fun k => ?_)
        · have := (key n hn).mp e
          rw [if_pos ⟨y, by omega, by omega⟩, show t.getD 0 0 - 97 = n by omega] at hp
          exact hp
        · rw [if_neg (fun w => k (t.getD 0 0 - 97) (by omega) ((key (t.getD 0 0 - 97) (by omega)).mpr (by omega)))] at hp
          exact hp
theorem sp_rsAt {Post : Option Nat → wo_W → Prop} {i : Nat} (h : rs_at E im G p pa A fs) (hi : i < 3) (hp : ∀ r, rp_O im G r (fs i) → Post r G) : pq_Rs_at E mc ms Post G p (nI i) := by
  obtain ⟨k1, k2, k3, k4, k5⟩ := h.el hi
  unfold pq_Rs_at pq_Rs_at_0 pq_Rs_at_19
  exact ⟨fun q => absurd q (nI_pos (by omega)), fun _ => ⟨fun q => absurd q (nI_lit3 hi), fun _ => ⟨k1, fun r hr => ⟨A, k2 r hr, k3, k4, fun r hr => hp r (k5 r hr)⟩⟩⟩⟩
theorem sp_leLoop {Post : Option Nat → wo_W → Prop} {c s : Nat} (h : rs_at E im G p pa A fs) : ∀ k i, i + k = 3 → (∀ r, rp_O im G r (le_k fs k) → Post r G) → pq_Rs_least_2 E mc ms Post (k + 1) G c s p (nI i) := by
  intro k
  induction k with
  | zero =>
    intro i hi hp
    unfold pq_Rs_least_2
    rw [show i = 3 by omega]
    exact ⟨fun _ => hp none trivial, fun q => absurd (by decide) q⟩
  | succ k ih =>
    intro i hi hp
    obtain ⟨k1, k2, k3, k4, k5⟩ := h.el (i := i) (by omega)
    have ei : 2 - k = i := by omega
    unfold le_k at hp
    rw [ei] at hp
    unfold pq_Rs_least_2
    refine ⟨fun q => absurd q (nI_lit3 (by omega)), fun _ => ⟨k1, fun r hr => ⟨A, k2 r hr, k3, k4, fun r hr => ⟨fun z => ?_, fun x hx r2 hr2 => ⟨A, k2 r2 hr2, k3, k4, fun r3 hr3 => ?_⟩⟩⟩⟩⟩
    · rw [(k5 r hr).none z] at hp
      rw [nI_1]
      exact ih (i + 1) (by omega) hp
    · obtain ⟨t, e1, e2⟩ := (k5 r hr).some hx
      rw [e1] at hp
      refine hp r3 ?_
      have := k5 r3 hr3
      rw [e1] at this
      exact this
theorem sp_least {Post : Option Nat → wo_W → Prop} (h : rs_at E im G p pa A fs) (hp : ∀ r, rp_O im G r (le_of fs) → Post r G) : pq_Rs_least E mc ms Post G p := by
  unfold pq_Rs_least pq_Rs_least_0
  exact ⟨4, sp_leLoop h 3 0 rfl hp⟩
theorem sp_lcLoop {Post : Int32 → wo_W → Prop} {c s : Nat} (h : rs_at E im G p pa A fs) : ∀ k i n, i + k = 3 → Post (nI (n + ct_k fs k)) G → pq_Rs_letterCount_4 E mc ms Post (k + 1) G c s p (nI n) (nI i) := by
  intro k
  induction k with
  | zero =>
    intro i n hi hp
    unfold pq_Rs_letterCount_4
    rw [show i = 3 by omega]
    exact ⟨fun _ => hp, fun q => absurd (by decide) q⟩
  | succ k ih =>
    intro i n hi hp
    obtain ⟨k1, k2, k3, k4, k5⟩ := h.el (i := i) (by omega)
    have ei : 2 - k = i := by omega
    unfold ct_k at hp
    rw [ei] at hp
    unfold pq_Rs_letterCount_4 pq_Rs_letterCount_21
    refine ⟨fun q => absurd q (nI_lit3 (by omega)), fun _ => ⟨k1, fun r hr => ⟨A, k2 r hr, k3, k4, fun r hr => ⟨fun z => ?_, fun x hx => ?_⟩⟩⟩⟩
    · rw [(k5 r hr).none z] at hp
      rw [nI_1]
      refine ih (i + 1) n (by omega) ?_
      simpa using hp
    · obtain ⟨t, e1, e2⟩ := (k5 r hr).some hx
      rw [e1] at hp
      rw [nI_1, nI_1]
      refine ih (i + 1) (n + 1) (by omega) ?_
      have e3 : n + ((if (some t : Option rpT).isSome = true then 1 else 0) + ct_k fs k) = n + 1 + ct_k fs k := by simp; omega
      rw [e3] at hp
      exact hp
theorem sp_letterCount {Post : Int32 → wo_W → Prop} (h : rs_at E im G p pa A fs) (hp : Post (nI (ct_of fs)) G) : pq_Rs_letterCount E mc ms Post G p := by
  unfold pq_Rs_letterCount pq_Rs_letterCount_0
  refine ⟨4, sp_lcLoop h 3 0 0 rfl ?_⟩
  rw [Nat.zero_add]
  exact hp
theorem ct_le (fs : Nat → Option rpT) : ∀ k, ct_k fs k ≤ k := by
  intro k
  induction k with
  | zero => exact Nat.le_refl _
  | succ k ih =>
    unfold ct_k
    split <;> omega
end SP
