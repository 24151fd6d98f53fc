abbrev vsT : Type := Nat → Option (List Nat)
abbrev rdT : Type := Nat × Nat × Option Nat × Bool × Nat × List Nat × List Nat × Option Nat × List Nat × vsT
def d_li (d : rdT) : List Nat := d.2.2.2.2.2.1
def d_bo (d : rdT) : List Nat := d.2.2.2.2.2.2.1
def rd_0 : rdT := (0, 0, none, false, 0, [], [], none, [], fun _ => none)
def mn_of (t : List Nat) : Option Nat := if t = [71, 69, 84] then some 0 else if t = [72, 69, 65, 68] then some 1 else if t = [80, 85, 84] then some 2 else if t = [68, 69, 76, 69, 84, 69] then some 3 else none
def hi_of (l : Nat) : Option Nat := if l = 77 then some 0 else if l = 78 then some 1 else if l = 82 then some 2 else if l = 73 then some 3 else if l = 67 then some 4 else if l = 86 then some 5 else if l = 75 then some 6 else if l = 80 then some 7 else none
def sv_of (vs : vsT) (l : Nat) (v : List Nat) : vsT := match hi_of l with
  | none => vs
  | some h => fun k => if k = h then some v else vs k
def jl_of (li : List Nat) : Nat × Option Nat × List Nat :=
  if ix_of 32 li = li.length then (400, none, [])
  else match mn_of (tx_sub li 0 (ix_of 32 li)), de_of (tx_sub li (ix_of 32 li + 1) li.length) with
    | some m, some u => (if 8 < (pa_of u).length then 414 else 0, some m, pa_of u)
    | _, _ => (400, none, [])
def ih_go (t : List Nat) : Bool := t.all (fun c => decide (32 ≤ c) && decide (c ≤ 126))
def ih_of (t : List Nat) : Bool := if 2 ≤ t.length ∧ 65 ≤ t.getD 0 0 ∧ t.getD 0 0 ≤ 90 ∧ t.getD 1 0 = 58 then ih_go (t.drop 2) else false
def tl_m (ln : Option Nat) : Option Nat → Option Nat
  | none => none
  | some n => if ln = none ∨ ln = some n then some n else none
def tl_of (v : List Nat) (ln : Option Nat) : Option Nat := tl_m ln (if 2 < v.length then none else wh_of v)
def jh_of (li : List Nat) (hd : Nat) (ln : Option Nat) (ch : Bool) (vs : vsT) : Nat × Option Nat × Bool × vsT :=
  if 8 ≤ hd then (431, ln, ch, vs)
  else if ih_of li = false then (400, ln, ch, vs)
  else if 8 < li.length - 2 then (431, ln, ch, vs)
  else if li.getD 0 0 = 76 then (match tl_of (tx_sub li 2 li.length) ln with
    | none => (400, ln, ch, vs)
    | some n => (0, some n, ch, vs))
  else if li.getD 0 0 = 84 then (if tx_sub li 2 li.length = [99] then 0 else 400, ln, true, vs)
  else (0, ln, ch, sv_of vs (li.getD 0 0) (tx_sub li 2 li.length))
def eh_m : Option Nat → Nat × Nat × Nat
  | none => (1, 1, 0)
  | some n => if 8 < n then (413, 1, 0) else if n = 0 then (1, 1, 0) else (0, 2, n)
def eh_of (ln : Option Nat) (ch : Bool) : Nat × Nat × Nat := if ch = true then (if ln = none then 0 else 400, 3, 0) else eh_m ln
def jc_m (bo : List Nat) : Option Nat → Nat × Nat × Nat
  | none => (400, 3, 0)
  | some n => if n = 0 then (0, 6, 0) else if 8 < bo.length + n then (413, 3, 0) else (0, 4, n)
def jc_of (li bo : List Nat) : Nat × Nat × Nat := jc_m bo (if li.length = 1 then hx_of (li.getD 0 0) else none)
def jd_of : rdT → Nat × rdT
  | (pt, hd, ln, ch, lf, li, bo, m, pa, vs) =>
    if pt = 0 then (if li = [] then (0, (pt, hd, ln, ch, lf, [], bo, m, pa, vs)) else ((jl_of li).1, (1, hd, ln, ch, lf, [], bo, (jl_of li).2.1, (jl_of li).2.2, vs)))
    else if pt = 1 then (if li = [] then ((eh_of ln ch).1, ((eh_of ln ch).2.1, hd, ln, ch, (eh_of ln ch).2.2, [], bo, m, pa, vs)) else ((jh_of li hd ln ch vs).1, (pt, hd + 1, (jh_of li hd ln ch vs).2.1, (jh_of li hd ln ch vs).2.2.1, lf, [], bo, m, pa, (jh_of li hd ln ch vs).2.2.2)))
    else if pt = 3 then ((jc_of li bo).1, ((jc_of li bo).2.1, hd, ln, ch, (jc_of li bo).2.2, [], bo, m, pa, vs))
    else (if li = [] then 1 else 0, (pt, hd, ln, ch, lf, [], bo, m, pa, vs))
def rd_step : rdT → Nat → Nat × rdT
  | (pt, hd, ln, ch, lf, li, bo, m, pa, vs), b =>
    if pt = 2 ∨ pt = 4 then (if 1 < lf then 0 else if pt = 2 then 1 else 0, (if 1 < lf then pt else if pt = 2 then 2 else 5, hd, ln, ch, lf - 1, li, bo ++ [b], m, pa, vs))
    else if pt = 5 then (if b = 10 then 0 else 400, (3, hd, ln, ch, lf, li, bo, m, pa, vs))
    else if b = 10 then jd_of (pt, hd, ln, ch, lf, li, bo, m, pa, vs)
    else if 20 ≤ li.length then (431, (pt, hd, ln, ch, lf, li, bo, m, pa, vs))
    else (0, (pt, hd, ln, ch, lf, li ++ [b], bo, m, pa, vs))
section SP
variable {E : wo_E} {mc ms : Nat} {G G1 : wo_W} {a : Nat} {ow ow1 : Nat → Nat} {t u : List Nat} {R : Nat → Prop}
theorem sp_methodNamed {Post : Int32 → wo_W → Prop} (hk : kx_ok E G) (h : tx_S G a t) (hp : Post (wh_I (mn_of t)) G) : pq_Rq_methodNamed E mc ms Post G (some a) := by
  unfold mn_of at hp
  have k3 := (hk.1 3 (by decide)).2.1
  have k4 := (hk.1 4 (by decide)).2.1
  have k5 := (hk.1 5 (by decide)).2.1
  have k6 := (hk.1 6 (by decide)).2.1
  unfold pq_Rq_methodNamed pq_Rq_methodNamed_0 pq_Rq_methodNamed_47
  refine ⟨a, rfl, h.1, 0, 0, Nat.zero_le _, Nat.zero_le _, sp_equals h k3 ?_⟩
  by_cases z3 : t = [71, 69, 84]
  · rw [if_pos z3] at hp
    rw [if_pos (show t = kx_tx 3 from z3)]
    exact ⟨fun w => absurd w (by decide), fun _ => hp⟩
  · rw [if_neg z3] at hp
    rw [if_neg (show ¬ t = kx_tx 3 from z3)]
    refine ⟨fun _ => ⟨h.1, 0, 0, Nat.zero_le _, Nat.zero_le _, sp_equals h k4 ?_⟩, fun w => absurd rfl w⟩
    by_cases z4 : t = [72, 69, 65, 68]
    · rw [if_pos z4] at hp
      rw [if_pos (show t = kx_tx 4 from z4)]
      exact ⟨fun w => absurd w (by decide), fun _ => hp⟩
    · rw [if_neg z4] at hp
      rw [if_neg (show ¬ t = kx_tx 4 from z4)]
      refine ⟨fun _ => ⟨h.1, 0, 0, Nat.zero_le _, Nat.zero_le _, sp_equals h k5 ?_⟩, fun w => absurd rfl w⟩
      by_cases z5 : t = [80, 85, 84]
      · rw [if_pos z5] at hp
        rw [if_pos (show t = kx_tx 5 from z5)]
        exact ⟨fun w => absurd w (by decide), fun _ => hp⟩
      · rw [if_neg z5] at hp
        rw [if_neg (show ¬ t = kx_tx 5 from z5)]
        refine ⟨fun _ => ⟨h.1, 0, 0, Nat.zero_le _, Nat.zero_le _, sp_equals h k6 ?_⟩, fun w => absurd rfl w⟩
        by_cases z6 : t = [68, 69, 76, 69, 84, 69]
        · rw [if_pos z6] at hp
          rw [if_pos (show t = kx_tx 6 from z6)]
          exact ⟨fun w => absurd w (by decide), fun _ => hp⟩
        · rw [if_neg z6] at hp
          rw [if_neg (show ¬ t = kx_tx 6 from z6)]
          exact ⟨fun _ => hp, fun w => absurd rfl w⟩
theorem sp_ihLoop {Post : Int32 → wo_W → Prop} {c s : Nat} (h : tx_S G a t) (ht : t.length ≤ 4096) (hc : c ≤ mc) (hs : s ≤ ms) : ∀ k i, i + k = t.length → Post (bo_I (ih_go (t.drop i))) G → pq_Rd_isHeader_42 E mc ms Post (k + 1) G c s (some a) (nI i) := by
  intro k
  induction k with
  | zero =>
    intro i hi hp
    unfold pq_Rd_isHeader_42
    refine ⟨a, rfl, h.1, 0, 0, hc, hs, sp_length h ⟨fun _ => ?_, fun w => absurd (nI_le (by omega) (by omega)) w⟩⟩
    rw [List.drop_of_length_le (by omega)] at hp
    exact hp
  | succ k ih =>
    intro i hi hp
    have hd := h.2.2.2.1 _ (tx_mem (t := t) (i := i) (by omega))
    rw [tx_drop (by omega)] at hp
    have e : ih_go (t.getD i 0 :: t.drop (i + 1)) = ((decide (32 ≤ t.getD i 0) && decide (t.getD i 0 ≤ 126)) && ih_go (t.drop (i + 1))) := rfl
    rw [e] at hp
    unfold pq_Rd_isHeader_42 pq_Rd_isHeader_70
    refine ⟨a, rfl, h.1, 0, 0, hc, hs, sp_length h ⟨fun w => absurd w (nI_ge (by omega) (by omega)), fun _ => ⟨h.1, 0, 0, hc, hs, sp_charAt h (by omega) ⟨fun w => ?_, fun w => ⟨h.1, 0, 0, hc, hs, sp_charAt h (by omega) ⟨fun w2 => ?_, fun w2 => ?_⟩⟩⟩⟩⟩⟩
    · have := (nI_ltI (b := 32) (by omega) (by decide)).mp w
      rw [show decide (32 ≤ t.getD i 0) = false from decide_eq_false (by omega)] at hp
      exact hp
    · have h1 : 32 ≤ t.getD i 0 := Nat.le_of_not_lt (fun y => w (nI_lt (b := 32) y (by decide)))
      have h2 := (nI_leI (b := 126) (by omega) (by decide)).mp w2
      rw [show decide (32 ≤ t.getD i 0) = true from decide_eq_true h1, show decide (t.getD i 0 ≤ 126) = true from decide_eq_true h2, Bool.true_and, Bool.true_and] at hp
      rw [nI_1]
      exact ih (i + 1) (by omega) hp
    · have h2 : ¬ t.getD i 0 ≤ 126 := fun y => w2 (nI_le (b := 126) y (by decide))
      rw [show decide (t.getD i 0 ≤ 126) = false from decide_eq_false h2, Bool.and_false] at hp
      exact hp
theorem sp_isHeader {Post : Int32 → wo_W → Prop} (h : tx_S G a t) (ht : t.length ≤ 4096) (hp : Post (bo_I (ih_of t)) G) : pq_Rd_isHeader E mc ms Post G (some a) := by
  unfold ih_of at hp
  unfold pq_Rd_isHeader pq_Rd_isHeader_0 pq_Rd_isHeader_38
  refine ⟨a, rfl, h.1, 0, 0, Nat.zero_le _, Nat.zero_le _, sp_length h ⟨fun w => ?_, fun w => ?_⟩⟩
  · have := (nI_ltI (b := 2) (by omega) (by decide)).mp w
    rw [if_neg (by omega)] at hp
    exact hp
  · have hl : 2 ≤ t.length := Nat.le_of_not_lt (fun y => w (nI_lt (b := 2) y (by decide)))
    have hd := h.2.2.2.1 _ (tx_mem (t := t) (i := 0) (by omega))
    have hd1 := h.2.2.2.1 _ (tx_mem (t := t) (i := 1) (by omega))
    refine ⟨h.1, 0, 0, Nat.zero_le _, Nat.zero_le _, sp_charAt (i := 0) h (by omega) ⟨fun w => ?_, fun w => ⟨h.1, 0, 0, Nat.zero_le _, Nat.zero_le _, sp_charAt (i := 0) h (by omega) ⟨fun w2 => ?_, fun w2 => ⟨h.1, 0, 0, Nat.zero_le _, Nat.zero_le _, sp_charAt (i := 1) h (by omega) ⟨fun w3 => ⟨t.length - 2 + 1, ?_⟩, fun w3 => ?_⟩⟩⟩⟩⟩⟩
    · have := (nI_ltI (b := 65) (by omega) (by decide)).mp w
      rw [if_neg (by omega)] at hp
      exact hp
    · have := (nI_ltI (a := 90) (by decide) (by omega)).mp w2
      rw [if_neg (by omega)] at hp
      exact hp
    · have h1 : 65 ≤ t.getD 0 0 := Nat.le_of_not_lt (fun y => w (nI_lt (b := 65) y (by decide)))
      have h2 : t.getD 0 0 ≤ 90 := Nat.le_of_not_lt (fun y => w2 (nI_lt (a := 90) y (by omega)))
      have h3 : t.getD 1 0 = 58 := (nI_eq (b := 58) (by omega) (by decide)).mp w3
      rw [if_pos ⟨hl, h1, h2, h3⟩] at hp
      exact sp_ihLoop h ht (Nat.zero_le _) (Nat.zero_le _) (t.length - 2) 2 (by omega) hp
    · have h3 : ¬ t.getD 1 0 = 58 := fun y => w3 (by rw [y]; rfl)
      rw [if_neg (fun y => h3 y.2.2.2)] at hp
      exact hp
end SP
