def wh_go : Nat → List Nat → Option Nat
  | k, [] => some k
  | k, d :: r => if 48 ≤ d ∧ d ≤ 57 then wh_go (10 * k + (d - 48)) r else none
def wh_of (l : List Nat) : Option Nat := if l = [] then none else wh_go 0 l
def wh_I : Option Nat → Int32
  | none => -1
  | some n => nI n
def nb_v : Option (Option Nat) → Nat
  | some (some n) => n
  | _ => 0
def nb_I : Option (Option Nat) → Int32
  | none => -2
  | some none => -1
  | some (some n) => nI n
def nb_go (x : Nat) : Option (Option Nat) → Bool → List Nat → Option (Option Nat)
  | st, _, [] => st
  | st, b, d :: r => if d = x then nb_go x (some none) true r else if b = true ∧ 48 ≤ d ∧ d ≤ 57 then nb_go x (some (some (10 * nb_v st + (d - 48)))) true r else nb_go x st false r
def nb_of (x : Nat) (l : List Nat) : Option (Option Nat) := nb_go x none false l
def bo_I (b : Bool) : Int32 := if b then 1 else 0
def nb_o (x : Nat) : Option (List Nat) → Option (Option Nat)
  | none => none
  | some l => nb_of x l
def hx_of (d : Nat) : Option Nat := if 48 ≤ d ∧ d ≤ 57 then some (d - 48) else if 65 ≤ d ∧ d ≤ 70 then some (d - 55) else if 97 ≤ d ∧ d ≤ 102 then some (d - 87) else none
def pl_of (d : Nat) : Bool := (48 ≤ d && d ≤ 57) || (65 ≤ d && d ≤ 90) || (97 ≤ d && d ≤ 122) || d == 45 || d == 46 || d == 95 || d == 126
theorem bo_ok (b : Bool) : wo_okI .boolean (bo_I b) := by cases b; exact tx_ok0; exact tx_ok1
theorem tx_drop {t : List Nat} {i : Nat} (h : i < t.length) : t.drop i = t.getD i 0 :: t.drop (i + 1) := by
  rw [List.drop_eq_getElem_cons h, List.getD_eq_getElem?_getD, List.getElem?_eq_getElem h]
  rfl
theorem tx_sub_cons {t : List Nat} {i e : Nat} (h : i < e) (he : e ≤ t.length) : tx_sub t i e = t.getD i 0 :: tx_sub t (i + 1) e := by
  unfold tx_sub
  rw [tx_drop (by omega), show e - i = (e - (i + 1)) + 1 by omega, List.take_succ_cons]
theorem tx_sub_nil {t : List Nat} {i e : Nat} (h : e ≤ i) : tx_sub t i e = [] := by
  unfold tx_sub
  rw [show e - i = 0 by omega, List.take_zero]
theorem nb_max {st : Option (Option Nat)} (h : nb_v st < 2 ^ 31) : wo_max (nb_I st) 0 = nI (nb_v st) := by
  rcases st with _ | _ | n
  · decide
  · decide
  · show wo_max (nI n) (nI 0) = nI n
    rw [nI_max (a := n) (b := 0) h (by decide), Nat.max_eq_left (Nat.zero_le _)]
section SP
variable {E : wo_E} {mc ms : Nat} {G : wo_W} {a : Nat} {t : List Nat}
theorem sp_isDigit {Post : Int32 → wo_W → Prop} {d : Nat} (hd : d < 65536) (hp : Post (if 48 ≤ d ∧ d ≤ 57 then 1 else 0) G) : pq_Tx_isDigit E mc ms Post G (nI d) := by
  unfold pq_Tx_isDigit pq_Tx_isDigit_0 pq_Tx_isDigit_16 pq_Tx_isDigit_17
  refine ⟨fun q => ⟨tx_ok0, ?_⟩, fun q => ⟨fun q2 => ⟨tx_ok0, ?_⟩, fun q2 => ⟨tx_ok1, ?_⟩⟩⟩
  · have := (nI_ltI (a := d) (b := 48) (by omega) (by decide)).mp q
    rwa [if_neg (by omega)] at hp
  · have := (nI_ltI (a := 57) (b := d) (by decide) (by omega)).mp q2
    rwa [if_neg (by omega)] at hp
  · have h1 : ¬ d < 48 := fun z => q (nI_lt (a := d) (b := 48) z (by decide))
    have h2 : ¬ 57 < d := fun z => q2 (nI_lt (a := 57) (b := d) z (by omega))
    rwa [if_pos (by omega)] at hp
theorem sp_whLoop {Post : Int32 → wo_W → Prop} {c s e : Nat} (h : tx_S G a t) (he : e ≤ t.length) (hc : c ≤ mc) (hs : s ≤ ms) : ∀ (k i r : Nat), e - i = k → i ≤ e → Post (wh_I (wh_go r (tx_sub t i e))) G →
    ∃ n, pq_Tx_whole_14 E mc ms Post n G c s (some a) (nI e) (nI r) (nI i) := by
  have hl := h.2.2.1
  intro k
  induction k with
  | zero =>
    intro i r hk hi hp
    refine ⟨1, fun _ => ?_, fun q => absurd (nI_le (by omega) (by omega)) q⟩
    rw [tx_sub_nil (by omega)] at hp
    exact hp
  | succ k ih =>
    intro i r hk hi hp
    have hd := h.2.2.2.1 _ (tx_mem (t := t) (i := i) (by omega))
    rw [tx_sub_cons (by omega) he] at hp
    generalize hdd : t.getD i 0 = d at hp hd
    by_cases z : 48 ≤ d ∧ d ≤ 57
    · rw [wh_go, if_pos z] at hp
      obtain ⟨n, hn⟩ := ih (i + 1) _ (by omega) (by omega) hp
      refine ⟨n + 1, fun q => absurd ((nI_leI (by omega) (by omega)).mp q) (by omega), fun _ => ⟨a, rfl, h.1, 0, 0, hc, hs, sp_length h ⟨fun q => absurd ((nI_leI (by omega) (by omega)).mp q) (by omega), fun _ => ⟨h.1, 0, 0, hc, hs, sp_charAt h (by omega) ?_⟩⟩⟩⟩
      rw [hdd, show (48 : Int32) = nI 48 by decide, pk_sub z.1]
      refine ⟨fun q => absurd q (nI_pos (by omega)), fun _ => ⟨fun _ => ?_, fun q => absurd (nI_le (a := d - 48) (b := 9) (by omega) (by decide)) q⟩⟩
      rw [show (10 : Int32) = nI 10 by decide, pk_mul, nI_add, nI_1, Nat.mul_comm r 10]
      exact hn
    · rw [wh_go, if_neg z] at hp
      refine ⟨1, fun q => absurd ((nI_leI (by omega) (by omega)).mp q) (by omega), fun _ => ⟨a, rfl, h.1, 0, 0, hc, hs, sp_length h ⟨fun q => absurd ((nI_leI (by omega) (by omega)).mp q) (by omega), fun _ => ⟨h.1, 0, 0, hc, hs, sp_charAt h (by omega) ?_⟩⟩⟩⟩
      rw [hdd, show (48 : Int32) = nI 48 by decide]
      refine ⟨fun _ => hp, fun q => ⟨fun q2 => ?_, fun _ => hp⟩⟩
      exfalso
      rcases Nat.lt_or_ge d 48 with y | y
      · exact q (pk_sneg (by decide) y)
      · rw [pk_sub y] at q2
        exact absurd ((nI_leI (a := d - 48) (b := 9) (by omega) (by decide)).mp q2) (by omega)
theorem sp_whole {Post : Int32 → wo_W → Prop} {p e : Nat} (h : tx_S G a t) (hpe : p ≤ e) (he : e ≤ t.length) (hp : Post (wh_I (wh_of (tx_sub t p e))) G) : pq_Tx_whole E mc ms Post G (some a) (nI p) (nI e) := by
  have hl := h.2.2.1
  unfold pq_Tx_whole pq_Tx_whole_0 pq_Tx_whole_10
  refine ⟨fun q => ?_, fun q => ?_⟩
  · have q2 := (nI_leI (by omega) (by omega)).mp q
    refine ⟨1, fun _ => ?_, fun q => absurd (nI_le (by omega) (by omega)) q⟩
    rw [tx_sub_nil q2] at hp
    exact hp
  · have q2 : p < e := by
      rcases Nat.lt_or_ge p e with z | z
      · exact z
      · exact absurd (nI_le z (by omega)) q
    refine sp_whLoop h he (Nat.zero_le _) (Nat.zero_le _) _ p 0 rfl hpe ?_
    unfold wh_of at hp
    rwa [if_neg (by rw [tx_sub_cons q2 he]; exact List.cons_ne_nil _ _)] at hp
theorem sp_nbLoop {Post : Int32 → wo_W → Prop} {c s x : Nat} (h : tx_S G a t) (ht : t.length ≤ 8) (hx : x < 256) (hc : c ≤ mc) (hs : s ≤ ms) : ∀ (k i : Nat) (st : Option (Option Nat)) (b : Bool), t.length - i = k → i ≤ t.length → nb_v st < 10 ^ i → Post (nb_I (nb_go x st b (t.drop i))) G →
    ∃ n, pq_Tx_number_8 E mc ms Post n G c s (some a) (nI x) (nb_I st) (bo_I b) (nI i) := by
  intro k
  induction k with
  | zero =>
    intro i st b hk hi hv hp
    refine ⟨1, fun q => absurd q (by simp), fun a1 q => ?_⟩
    cases q
    refine ⟨h.1, 0, 0, hc, hs, sp_length h ⟨fun _ => ?_, fun q => absurd (nI_le (by omega) (by omega)) q⟩⟩
    rw [List.drop_of_length_le (by omega)] at hp
    exact hp
  | succ k ih =>
    intro i st b hk hi hv hp
    have hd := h.2.2.2.1 _ (tx_mem (t := t) (i := i) (by omega))
    rw [tx_drop (by omega)] at hp
    generalize hdd : t.getD i 0 = d at hp hd
    have h10 : 10 ^ (i + 1) = 10 * 10 ^ i := by rw [Nat.pow_succ, Nat.mul_comm]
    have h8 : 10 ^ i ≤ 10 ^ 8 := Nat.pow_le_pow_right (by decide) (by omega)
    have hpos : 0 < 10 ^ i := Nat.pow_pos (by decide)
    have key : ∀ n, (pq_Tx_number_8 E mc ms Post n G c s (some a) (nI x) (if d = x then -1 else if b = true ∧ 48 ≤ d ∧ d ≤ 57 then nI (10 * nb_v st + (d - 48)) else nb_I st) (if d = x then 1 else if b = true ∧ 48 ≤ d ∧ d ≤ 57 then 1 else 0) (nI (i + 1))) → pq_Tx_number_8 E mc ms Post (n + 1) G c s (some a) (nI x) (nb_I st) (bo_I b) (nI i) := by
      intro n hn
      refine ⟨fun q => absurd q (by simp), fun a1 q => ?_⟩
      cases q
      refine ⟨h.1, 0, 0, hc, hs, sp_length h ⟨fun q => absurd ((nI_leI (by omega) (by omega)).mp q) (by omega), fun _ => ⟨h.1, 0, 0, hc, hs, sp_charAt h (by omega) ?_⟩⟩⟩
      rw [hdd]
      refine ⟨fun q => ?_, fun q => ?_⟩
      · have hne : ¬ d = x := fun z => q (by rw [z])
        rw [if_neg hne, if_neg hne] at hn
        refine ⟨fun q2 => ?_, fun q2 => ⟨0, 0, hc, hs, sp_isDigit (by omega) ⟨fun q3 => ?_, fun q3 => ?_⟩⟩⟩
        · have hb : ¬ (b = true ∧ 48 ≤ d ∧ d ≤ 57) := fun z => by rw [z.1] at q2; exact absurd q2 (by decide)
          rw [if_neg hb, if_neg hb] at hn
          show pq_Tx_number_8 E mc ms Post n G c s (some a) (nI x) (nb_I st) 0 (nI i + 1)
          rw [nI_1]
          exact hn
        · have hb : ¬ (b = true ∧ 48 ≤ d ∧ d ≤ 57) := fun z => by rw [if_pos z.2] at q3; exact absurd q3 (by decide)
          rw [if_neg hb, if_neg hb] at hn
          show pq_Tx_number_8 E mc ms Post n G c s (some a) (nI x) (nb_I st) 0 (nI i + 1)
          rw [nI_1]
          exact hn
        · have hb : b = true := by
            cases b
            · exact absurd rfl q2
            · rfl
          have hdg : 48 ≤ d ∧ d ≤ 57 := by
            apply Classical.byContradiction
            intro z
            exact q3 (if_neg z)
          rw [if_pos ⟨hb, hdg⟩, if_pos ⟨hb, hdg⟩] at hn
          show pq_Tx_number_8 E mc ms Post n G c s (some a) (nI x) (wo_max (nb_I st) 0 * 10 + (nI d - 48)) (bo_I b) (nI i + 1)
          rw [nI_1, nb_max (by omega), show (10 : Int32) = nI 10 by decide, show (48 : Int32) = nI 48 by decide, pk_sub hdg.1, pk_mul, nI_add, Nat.mul_comm _ 10, hb]
          exact hn
      · have hne : d = x := (nI_eq (by omega) (by omega)).mp q
        rw [if_pos hne, if_pos hne] at hn
        show pq_Tx_number_8 E mc ms Post n G c s (some a) (nI x) (-1) 1 (nI i + 1)
        rw [nI_1]
        exact hn
    by_cases y : d = x
    · rw [nb_go, if_pos y] at hp
      obtain ⟨n, hn⟩ := ih (i + 1) (some none) true (by omega) (by omega) (by show 0 < 10 ^ (i + 1); omega) hp
      refine ⟨n + 1, key n ?_⟩
      rw [if_pos y, if_pos y]
      exact hn
    · by_cases z : b = true ∧ 48 ≤ d ∧ d ≤ 57
      · rw [nb_go, if_neg y, if_pos z] at hp
        obtain ⟨n, hn⟩ := ih (i + 1) _ true (by omega) (by omega) (by show 10 * nb_v st + (d - 48) < 10 ^ (i + 1); omega) hp
        refine ⟨n + 1, key n ?_⟩
        rw [if_neg y, if_neg y, if_pos z, if_pos z]
        exact hn
      · rw [nb_go, if_neg y, if_neg z] at hp
        obtain ⟨n, hn⟩ := ih (i + 1) st false (by omega) (by omega) (by omega) hp
        refine ⟨n + 1, key n ?_⟩
        rw [if_neg y, if_neg y, if_neg z, if_neg z]
        exact hn
theorem sp_number {Post : Int32 → wo_W → Prop} {x : Nat} (h : tx_S G a t) (ht : t.length ≤ 8) (hx : x < 256) (hp : Post (nb_I (nb_of x t)) G) : pq_Tx_number E mc ms Post G (some a) (nI x) := by
  unfold pq_Tx_number pq_Tx_number_0
  exact sp_nbLoop h ht hx (Nat.zero_le _) (Nat.zero_le _) _ 0 none false rfl (Nat.zero_le _) (by decide) (by rw [List.drop_zero]; exact hp)
theorem sp_numberN {Post : Int32 → wo_W → Prop} {x : Int32} (hp : Post (-2) G) : pq_Tx_number E mc ms Post G none x := by
  unfold pq_Tx_number pq_Tx_number_0
  exact ⟨1, fun _ => hp, fun a1 q => absurd q (by simp)⟩
theorem nb_I2 {st : Option (Option Nat)} (h : nb_v st < 2 ^ 31) : nb_I st = -2 ↔ st = none := by
  rcases st with _ | _ | n
  · exact ⟨fun _ => rfl, fun _ => rfl⟩
  · exact ⟨fun q => absurd q (by decide), fun q => absurd q (by simp)⟩
  · refine ⟨fun q => absurd q (fun z => ?_), fun q => absurd q (by simp)⟩
    exact nI_pos h (show nI n < 0 by rw [show nI n = -2 from z]; decide)
end SP
