def isd (d : Nat) : Bool := decide (48 ≤ d) && decide (d ≤ 57)
def dp_of : List Nat → List Nat
  | [] => []
  | d :: l => if isd d = true then d :: dp_of l else []
def lo_k (x : Nat) (t : List Nat) : Nat → Option Nat
  | 0 => none
  | k + 1 => if t.getD k 0 = x then some k else lo_k x t k
theorem dp_cons {d : Nat} {l : List Nat} : dp_of (d :: l) = if isd d = true then d :: dp_of l else [] := rfl
theorem isd_iff {d : Nat} : isd d = true ↔ 48 ≤ d ∧ d ≤ 57 := by unfold isd; simp
theorem nb_f (x : Nat) : ∀ (l : List Nat) (st : Option (Option Nat)), x ∉ l → nb_go x st false l = st := by
  intro l
  induction l with
  | nil => intro st _; rfl
  | cons d l ih =>
    intro st h
    have h1 : ¬ d = x := fun e => h (by rw [e]; exact List.mem_cons_self)
    unfold nb_go
    rw [if_neg h1, if_neg (by simp)]
    exact ih st (fun q => h (List.mem_cons_of_mem _ q))
theorem nb_t (x : Nat) : ∀ (l : List Nat) (n : Nat), x ∉ l → nb_go x (some (some n)) true l = some (wh_go n (dp_of l)) := by
  intro l
  induction l with
  | nil => intro n _; rfl
  | cons d l ih =>
    intro n h
    have h1 : ¬ d = x := fun e => h (by rw [e]; exact List.mem_cons_self)
    have h2 : x ∉ l := fun q => h (List.mem_cons_of_mem _ q)
    unfold nb_go dp_of
    rw [if_neg h1]
    by_cases z : 48 ≤ d ∧ d ≤ 57
    · rw [if_pos ⟨rfl, z⟩, if_pos (isd_iff.mpr z), wh_go, if_pos z]
      exact ih _ h2
    · rw [if_neg (fun q => z q.2), if_neg (fun q => z (isd_iff.mp q)), nb_f x l _ h2]
      rfl
theorem nb_n (x : Nat) (l : List Nat) (h : x ∉ l) : nb_go x (some none) true l = some (wh_of (dp_of l)) := by
  cases l with
  | nil => rfl
  | cons d l =>
    have h1 : ¬ d = x := fun e => h (by rw [e]; exact List.mem_cons_self)
    have h2 : x ∉ l := fun q => h (List.mem_cons_of_mem _ q)
    unfold nb_go dp_of
    rw [if_neg h1]
    by_cases z : 48 ≤ d ∧ d ≤ 57
    · rw [if_pos ⟨rfl, z⟩, if_pos (isd_iff.mpr z)]
      unfold wh_of
      rw [if_neg (by simp), wh_go, if_pos z]
      exact nb_t x l _ h2
    · rw [if_neg (fun q => z q.2), if_neg (fun q => z (isd_iff.mp q)), nb_f x l _ h2]
      rfl
theorem nb_x (x : Nat) (l2 : List Nat) (h : x ∉ l2) : ∀ (l1 : List Nat) (st : Option (Option Nat)) (b : Bool), nb_go x st b (l1 ++ x :: l2) = some (wh_of (dp_of l2)) := by
  intro l1
  induction l1 with
  | nil =>
    intro st b
    show nb_go x st b (x :: l2) = _
    unfold nb_go
    rw [if_pos rfl]
    exact nb_n x l2 h
  | cons d l1 ih =>
    intro st b
    show nb_go x st b (d :: (l1 ++ x :: l2)) = _
    unfold nb_go
    split
    · exact ih _ _
    · split
      · exact ih _ _
      · exact ih _ _
theorem lo_s (x : Nat) (t : List Nat) : ∀ k, k ≤ t.length → x ∉ t.drop k → nb_of x t = (match lo_k x t k with | none => none | some p => some (wh_of (dp_of (t.drop (p + 1))))) ∧ ∀ p, lo_k x t k = some p → p < k := by
  intro k
  induction k with
  | zero =>
    intro _ h
    rw [List.drop_zero] at h
    exact ⟨nb_f x t none h, fun p e => (by cases e)⟩
  | succ k ih =>
    intro hk h
    unfold lo_k
    by_cases z : t.getD k 0 = x
    · rw [if_pos z]
      refine ⟨?_, fun p e => by cases e; omega⟩
      have e : t = t.take k ++ x :: t.drop (k + 1) := by
        rw [← z, ← tx_drop (by omega), List.take_append_drop]
      have := nb_x x (t.drop (k + 1)) h (t.take k) none false
      rw [← e] at this
      exact this
    · rw [if_neg z]
      obtain ⟨h1, h2⟩ := ih (by omega) (by
        rw [tx_drop (by omega)]
        intro q
        rcases List.mem_cons.mp q with q | q
        · exact z q.symm
        · exact h q)
      exact ⟨h1, fun p e => by have := h2 p e; omega⟩
theorem lo_of (x : Nat) (t : List Nat) : nb_of x t = (match lo_k x t t.length with | none => none | some p => some (wh_of (dp_of (t.drop (p + 1))))) := (lo_s x t t.length (Nat.le_refl _) (by rw [List.drop_length]; simp)).1
section MD
variable {E : wo_E} {mc ms m : Nat} {G G1 G2 : wo_W} {ow : Nat → Nat} {A : Nat → Nat} {t : List Nat}
theorem sp_mdgLoop {Post : Int32 → wo_W → Prop} {c s e : Nat} (ht : ∀ c ∈ t, c < 256) (hl : t.length ≤ 8) (he : e ≤ t.length) (hc : c ≤ mc) (hs : s ≤ ms) : ∀ (k i : Nat) (o : Option Nat), i + k = e → (∀ n, o = some n → n < 10 ^ i) → Post (wh_I (match o with | none => none | some r => wh_go r (tx_sub t i e))) G → pq_Md_digits_15 E mc ms Post (k + 2) G c s (pk_of t) (nI e) (wh_I o) (nI i) := by
  intro k
  induction k with
  | zero =>
    intro i o hi hb hp
    unfold pq_Md_digits_15 pq_Md_digits_71
    refine ⟨fun _ => ?_, fun w => absurd (nI_le (by omega) (by omega)) w⟩
    rw [tx_sub_nil (by omega)] at hp
    cases o with
    | none => exact hp
    | some r => exact hp
  | succ k ih =>
    intro i o hi hb hp
    unfold pq_Md_digits_15 pq_Md_digits_71
    refine ⟨fun w => absurd w (nI_ge (by omega) (by omega)), fun _ => ⟨fun w => ?_, fun w => ⟨0, 0, hc, hs, ?_⟩⟩⟩
    · cases o with
      | none => exact hp
      | some r =>
        have := hb r rfl
        have h8 : 10 ^ i ≤ 10 ^ 8 := Nat.pow_le_pow_right (by decide) (by omega)
        exact absurd w (nI_pos (n := r) (by omega))
    · cases o with
      | none => exact absurd (by decide) w
      | some r =>
        have hr := hb r rfl
        have h8 : 10 ^ i ≤ 10 ^ 7 := Nat.pow_le_pow_right (by decide) (by omega)
        have hd := ht _ (tx_mem (t := t) (i := i) (by omega))
        simp only [] at hp
        rw [tx_sub_cons (by omega) he, wh_go] at hp
        unfold pq_Md_byteOf pq_Md_byteOf_0
        rw [show (8 : Int32) = nI 8 from rfl, pk_mul, pk_byte ht hl (by omega)]
        have bad : ¬ (48 ≤ t.getD i 0 ∧ t.getD i 0 ≤ 57) → pq_Md_digits_62 E mc ms Post (pq_Md_digits_15 E mc ms Post (k + 2)) G c s (pk_of t) (nI e) (nI i) := by
          intro z
          rw [if_neg z] at hp
          unfold pq_Md_digits_62 pq_Md_digits_63
          rw [nI_1]
          exact ih (i + 1) none (by omega) (fun n e => (by cases e)) hp
        refine ⟨fun w2 => bad (fun z => ?_), fun w2 => ⟨fun w3 => bad (fun z => ?_), fun w3 => ?_⟩⟩
        · have := (nI_ltI (b := 48) (by omega) (by decide)).mp w2; omega
        · have := (nI_ltI (a := 57) (by decide) (by omega)).mp w3; omega
        · have z1 : 48 ≤ t.getD i 0 := Nat.le_of_not_lt (fun y => w2 (nI_lt (b := 48) y (by decide)))
          have z2 : t.getD i 0 ≤ 57 := Nat.le_of_not_lt (fun y => w3 (nI_lt (a := 57) y (by omega)))
          rw [if_pos ⟨z1, z2⟩] at hp
          unfold pq_Md_digits_63
          rw [show wh_I (some r) = nI r from rfl, show (10 : Int32) = nI 10 from rfl, pk_mul, nI_add, show (48 : Int32) = nI 48 from rfl, pk_sub (by omega), nI_1]
          have e5 : 10 * r + t.getD i 0 - 48 = 10 * r + (t.getD i 0 - 48) := by omega
          rw [e5]
          have hp10 : 10 ^ (i + 1) = 10 ^ i * 10 := Nat.pow_succ ..
          exact ih (i + 1) (some (10 * r + (t.getD i 0 - 48))) (by omega) (fun n e => by cases e; omega) hp
theorem sp_mdigits {Post : Int32 → wo_W → Prop} {p e : Nat} (ht : ∀ c ∈ t, c < 256) (hl : t.length ≤ 8) (he : e ≤ t.length) (hp9 : p ≤ 100) (hp : Post (wh_I (wh_of (tx_sub t p e))) G) : pq_Md_digits E mc ms Post G (pk_of t) (nI p) (nI e) := by
  unfold pq_Md_digits pq_Md_digits_0 pq_Md_digits_10
  refine ⟨fun w => ⟨1, ?_⟩, fun w => ⟨e - p + 2, ?_⟩⟩
  · have z := (nI_leI (a := e) (b := p) (by omega) (by omega)).mp w
    rw [tx_sub_nil z] at hp
    unfold pq_Md_digits_15 pq_Md_digits_71
    exact ⟨fun _ => hp, fun w2 => absurd w w2⟩
  · have z : p < e := Nat.lt_of_not_le (fun y => w (nI_le y (by omega)))
    refine sp_mdgLoop ht hl he (Nat.zero_le _) (Nat.zero_le _) (e - p) p (some 0) (by omega) (fun n e => ?_) ?_
    · cases e
      exact Nat.pow_pos (by decide)
    · unfold wh_of at hp
      rw [if_neg (by rw [tx_sub_cons z he]; simp)] at hp
      exact hp
theorem sp_mruLoop {Post : Int32 → wo_W → Prop} {c s p : Nat} (ht : ∀ c ∈ t, c < 256) (hl : t.length ≤ 8) (hc : c ≤ mc) (hs : s ≤ ms) : ∀ (k i : Nat), i + k = t.length → p < i → (tx_sub t (p + 1) i ++ dp_of (t.drop i) = dp_of (t.drop (p + 1))) → Post (wh_I (wh_of (dp_of (t.drop (p + 1))))) G → pq_Md_numberOf_26 E mc ms Post (k + 1) G c s (pk_of t) (nI t.length) (nI p) (nI i) := by
  intro k
  induction k with
  | zero =>
    intro i hi hpi hq hp
    unfold pq_Md_numberOf_26 pq_Md_numberOf_60
    refine ⟨fun _ => ⟨0, 0, hc, hs, ?_⟩, fun w => absurd (nI_le (by omega) (by omega)) w⟩
    rw [nI_1]
    refine sp_mdigits ht hl (by omega) (by omega) ?_
    rw [List.drop_of_length_le (by omega)] at hq
    have e : tx_sub t (p + 1) i = dp_of (t.drop (p + 1)) := by simpa [dp_of] using hq
    rw [e]
    exact hp
  | succ k ih =>
    intro i hi hpi hq hp
    have hd := ht _ (tx_mem (t := t) (i := i) (by omega))
    have stop : ¬ (48 ≤ t.getD i 0 ∧ t.getD i 0 ≤ 57) → ∀ c s, c ≤ mc → s ≤ ms → pq_Md_numberOf_60 E mc ms Post G c s (pk_of t) (nI p) (nI i) := by
      intro z c s hc hs
      unfold pq_Md_numberOf_60
      refine ⟨0, 0, hc, hs, ?_⟩
      rw [nI_1]
      refine sp_mdigits ht hl (by omega) (by omega) ?_
      rw [tx_drop (by omega)] at hq
      rw [dp_cons, if_neg (fun q => z (isd_iff.mp q)), List.append_nil] at hq
      rw [hq]
      exact hp
    unfold pq_Md_numberOf_26
    refine ⟨fun w => absurd w (nI_ge (by omega) (by omega)), fun _ => ⟨0, 0, hc, hs, ?_⟩⟩
    unfold pq_Md_byteOf pq_Md_byteOf_0
    rw [show (8 : Int32) = nI 8 from rfl, pk_mul, pk_byte ht hl (by omega)]
    refine ⟨fun w => stop (fun z => ?_) _ _ hc hs, fun w => ⟨0, 0, hc, hs, ?_⟩⟩
    · have := (nI_ltI (b := 48) (by omega) (by decide)).mp w; omega
    · refine ⟨fun w2 => stop (fun z => ?_) _ _ hc hs, fun w2 => ?_⟩
      · have := (nI_ltI (a := 57) (by decide) (by omega)).mp w2; omega
      · have z1 : 48 ≤ t.getD i 0 := Nat.le_of_not_lt (fun y => w (nI_lt (b := 48) y (by decide)))
        have z2 : t.getD i 0 ≤ 57 := Nat.le_of_not_lt (fun y => w2 (nI_lt (a := 57) y (by omega)))
        rw [nI_1]
        refine ih (i + 1) (by omega) (by omega) ?_ hp
        rw [tx_drop (show i < t.length by omega)] at hq
        rw [dp_cons, if_pos (isd_iff.mpr ⟨z1, z2⟩)] at hq
        have e : tx_sub t (p + 1) (i + 1) = tx_sub t (p + 1) i ++ [t.getD i 0] := by
          unfold tx_sub
          rw [show i + 1 - (p + 1) = (i - (p + 1)) + 1 by omega, List.take_succ, List.getElem?_drop, show p + 1 + (i - (p + 1)) = i by omega]
          rw [List.getElem?_eq_getElem (by omega)]
          congr 1
          rw [List.getD_eq_getElem?_getD, List.getElem?_eq_getElem (by omega)]
          rfl
        rw [e, List.append_assoc]
        exact hq
theorem sp_mnoLoop {Post : Int32 → wo_W → Prop} {c s x : Nat} (ht : ∀ c ∈ t, c < 256) (hl : t.length ≤ 8) (hx : x < 256) (hc : c ≤ mc) (hs : s ≤ ms) : ∀ k, k ≤ t.length → Post (nb_I (match lo_k x t k with | none => none | some p => some (wh_of (dp_of (t.drop (p + 1)))))) G → pq_Md_numberOf_5 E mc ms Post (k + 1) G c s (pk_of t) (nI t.length) (nI x) (nI k - 1) := by
  intro k
  induction k with
  | zero =>
    intro _ hp
    unfold pq_Md_numberOf_5
    exact ⟨fun _ => hp, fun w => absurd (by decide) w⟩
  | succ k ih =>
    intro hk hp
    have hd := ht _ (tx_mem (t := t) (i := k) (by omega))
    unfold lo_k at hp
    unfold pq_Md_numberOf_5
    rw [nI_pred]
    refine ⟨fun w => absurd w (nI_pos (by omega)), fun _ => ⟨0, 0, hc, hs, ?_⟩⟩
    unfold pq_Md_byteOf pq_Md_byteOf_0
    rw [show (8 : Int32) = nI 8 from rfl, pk_mul, pk_byte ht hl (by omega)]
    refine ⟨fun w => ?_, fun w => ⟨t.length - (k + 1) + 1, ?_⟩⟩
    · have z : ¬ t.getD k 0 = x := fun z => w (by rw [z])
      rw [if_neg z] at hp
      have e3 : nI k + (-1) = nI k - 1 := by rw [Int32.sub_eq_add_neg]
      rw [e3]
      exact ih (by omega) hp
    · have z : t.getD k 0 = x := (nI_eq (by omega) (by omega)).mp w
      rw [if_pos z] at hp
      rw [nI_1]
      refine sp_mruLoop ht hl hc hs (t.length - (k + 1)) (k + 1) (by omega) (by omega) ?_ ?_
      · rw [tx_sub_nil (Nat.le_refl _)]; rfl
      · have e : nb_I (some (wh_of (dp_of (t.drop (k + 1))))) = wh_I (wh_of (dp_of (t.drop (k + 1)))) := by
          cases wh_of (dp_of (t.drop (k + 1))) <;> rfl
        simp only [] at hp
        rw [e] at hp
        exact hp
theorem sp_numberOf {Post : Int32 → wo_W → Prop} {x : Nat} (ht : ∀ c ∈ t, c < 256) (hl : t.length ≤ 8) (hx : x < 256) (hp : Post (nb_I (nb_of x t)) G) : pq_Md_numberOf E mc ms Post G (pk_of t) (nI t.length) (nI x) := by
  unfold pq_Md_numberOf pq_Md_numberOf_0
  refine ⟨t.length + 1, sp_mnoLoop ht hl hx (Nat.zero_le _) (Nat.zero_le _) t.length (Nat.le_refl _) ?_⟩
  rw [lo_of] at hp
  exact hp
def vo_at (l : Int32) (v : Int64) (o : Option (List Nat)) : Prop := match o with
  | none => l = -1 ∧ v = 0
  | some t => l = nI t.length ∧ v = pk_of t ∧ t.length ≤ 8 ∧ ∀ c ∈ t, c < 256
def vq_at (A : Nat → Nat) (G : wo_W) (j : Nat) (q : rqT) : Prop := (∃ k, q.1 = some k ∧ k < 4 ∧ wo_ei G (A 907) j = nI k) ∧ (wo_el G (A 908) j = pk_of q.2.1 ∧ wo_ei G (A 909) j = nI q.2.1.length ∧ q.2.1.length ≤ 8 ∧ ∀ c ∈ q.2.1, c < 256) ∧ (wo_el G (A 912) j = pk_of q.2.2.1 ∧ wo_ei G (A 913) j = nI q.2.2.1.length ∧ q.2.2.1.length ≤ 8 ∧ ∀ c ∈ q.2.2.1, c < 256) ∧ ∀ h, h < 8 → vo_at (wo_ei G (A 911) (8 * j + h)) (wo_el G (A 910) (8 * j + h)) (q.2.2.2 h)
def rr_at (A : Nat → Nat) (G : wo_W) (r : Nat) (p : rpT) : Prop := wo_ei G (A 929) r = nI p.1 ∧ p.1 < 256 ∧ (wo_el G (A 930) r = pk_of p.2.1 ∧ wo_ei G (A 931) r = nI p.2.1.length ∧ p.2.1.length ≤ 8 ∧ ∀ c ∈ p.2.1, c < 256) ∧ wo_ei G (A 932) r = nI p.2.2.1 ∧ p.2.2.1 < 10 ^ 9 ∧ (wo_el G (A 933) r = pk_of p.2.2.2.1 ∧ wo_ei G (A 934) r = nI p.2.2.2.1.length ∧ p.2.2.2.1.length ≤ 8 ∧ ∀ c ∈ p.2.2.2.1, c < 256) ∧ wo_ei G (A 935) r = bo_I p.2.2.2.2
theorem ix8 {j h : Nat} (hj : j < 9) (hh : h < 8) : ((8 : Int32) * nI j) + nI h = nI (8 * j + h) ∧ (nI (8 * j + h)).toNatClampNeg = 8 * j + h ∧ vp_in (nI (8 * j + h)) 72 := by
  refine ⟨by rw [show (8 : Int32) = nI 8 from rfl, pk_mul, nI_add], nI_clamp (by omega), vp_in_nI (by omega) (by decide)⟩
theorem sp_has {Post : Int32 → wo_W → Prop} {j h : Nat} {q : rqT} (hk : md_k E ow m A G) (hq : vq_at A G j q) (hj : j < 9) (hh : h < 8) (hp : Post (bo_I (q.2.2.2 h).isSome) G) : pq_Md_has E mc ms Post G m (nI j) (nI h) := by
  obtain ⟨a1, a2, a3, a4⟩ := hk.a (f := 911) (k := 66) (n := 72) (by decide)
  obtain ⟨i1, i2, i3⟩ := ix8 hj hh
  have vo := hq.2.2.2 h hh
  unfold pq_Md_has pq_Md_has_0 pq_Md_has_19
  rw [i1]
  refine ⟨hk.1, fun r hr => ⟨A 911, a1 r hr, a2, by rw [a3]; exact i3, ?_⟩⟩
  rw [i2]
  cases e : q.2.2.2 h with
  | none =>
    rw [e] at vo hp
    rw [vo.1]
    exact ⟨fun _ => ⟨tx_ok0, hp⟩, fun w => absurd (by decide) w⟩
  | some t =>
    rw [e] at vo hp
    obtain ⟨v1, v2, v3, v4⟩ := vo
    rw [v1]
    exact ⟨fun w => absurd w (nI_pos (by omega)), fun _ => ⟨tx_ok1, hp⟩⟩
theorem sp_inValue {Post : Int32 → wo_W → Prop} {j h x : Nat} {q : rqT} (hk : md_k E ow m A G) (hq : vq_at A G j q) (hj : j < 9) (hh : h < 8) (hx : x < 256) (hp : Post (nb_I (nb_o x (q.2.2.2 h))) G) : pq_Md_inValue E mc ms Post G m (nI j) (nI h) (nI x) := by
  obtain ⟨a1, a2, a3, a4⟩ := hk.a (f := 911) (k := 66) (n := 72) (by decide)
  obtain ⟨b1, b2, b3, b4⟩ := hk.a (f := 910) (k := 73) (n := 72) (by decide)
  obtain ⟨i1, i2, i3⟩ := ix8 hj hh
  have vo := hq.2.2.2 h hh
  unfold pq_Md_inValue pq_Md_inValue_0 pq_Md_inValue_40
  refine ⟨hk.1, 0, 0, Nat.zero_le _, Nat.zero_le _, sp_has hk hq hj hh ?_⟩
  cases e : q.2.2.2 h with
  | none =>
    rw [e] at hp
    exact ⟨fun _ => hp, fun w => absurd rfl w⟩
  | some t =>
    rw [e] at vo hp
    obtain ⟨v1, v2, v3, v4⟩ := vo
    refine ⟨fun w => absurd w bo_s, fun _ => ⟨hk.1, fun r hr => ⟨A 910, b1 r hr, b2, by rw [b3, i1]; exact i3, fun r2 hr2 => ⟨A 911, a1 r2 hr2, a2, by rw [a3, i1]; exact i3, 0, 0, Nat.zero_le _, Nat.zero_le _, ?_⟩⟩⟩⟩
    rw [i1, i2, v1, v2]
    exact sp_numberOf v4 v3 hx hp
theorem sp_inPolicy {Post : Int32 → wo_W → Prop} {r x : Nat} {p : rpT} (hk : md_k E ow m A G) (hr : rr_at A G r p) (hr40 : r < 40) (hx : x < 256) (hp : Post (nb_I (nb_of x p.2.2.2.1)) G) : pq_Md_inPolicy E mc ms Post G m (nI r) (nI x) := by
  obtain ⟨a1, a2, a3, a4⟩ := hk.a (f := 933) (k := 73) (n := 40) (by decide)
  obtain ⟨b1, b2, b3, b4⟩ := hk.a (f := 934) (k := 66) (n := 40) (by decide)
  obtain ⟨r1, r2, r3, r4, r5, ⟨p1, p2, p3, p4⟩, r7⟩ := hr
  unfold pq_Md_inPolicy pq_Md_inPolicy_0
  refine ⟨hk.1, fun r hr => ⟨A 933, a1 r hr, a2, by rw [a3]; exact vp_in_nI hr40 (by decide), fun r2 hr2 => ⟨A 934, b1 r2 hr2, b2, by rw [b3]; exact vp_in_nI hr40 (by decide), 0, 0, Nat.zero_le _, Nat.zero_le _, ?_⟩⟩⟩
  rw [nI_clamp (by omega), p1, p2]
  exact sp_numberOf p4 p3 hx hp
theorem sp_mmLoop {Post : Int32 → wo_W → Prop} {c s g : Nat} (ht : ∀ c ∈ t, c < 256) (hl : t.length ≤ 8) (hg : g < 2 ^ 31) (hc : c ≤ mc) (hs : s ≤ ms) : ∀ (k p e : Nat), t.length + 1 - e = k → e ≤ t.length + 1 → p ≤ e → Post (bo_I (mt_go t g k p e)) G → pq_Md_matches_49 E mc ms Post (k + 1) G c s (nI g) (pk_of t) (nI t.length) (nI p) (nI e) := by
  intro k
  induction k with
  | zero =>
    intro p e hk he hpe hp
    unfold pq_Md_matches_49
    exact ⟨fun _ => hp, fun w => absurd (nI_lt (by omega) (by omega)) w⟩
  | succ k ih =>
    intro p e hk he hpe hp
    unfold mt_go at hp
    have h75 : (e = t.length ∨ t.getD e 0 = 44) → pq_Md_matches_75 E mc ms Post (pq_Md_matches_49 E mc ms Post (k + 1)) G c s (nI g) (pk_of t) (nI t.length) (nI p) (nI e) := by
      intro z
      rw [if_pos z] at hp
      unfold pq_Md_matches_75 pq_Md_matches_96
      refine ⟨0, 0, hc, hs, sp_mdigits ht hl (by omega) (by omega) ⟨fun w => ?_, fun w => ?_⟩⟩
      · have y : ¬ wh_of (tx_sub t p e) = some g := fun y => w ((wh_eq (Nat.le_trans tx_sub_le hl) hg).mpr y)
        rw [if_neg y] at hp
        rw [nI_1]
        exact ih (e + 1) (e + 1) (by omega) (by omega) (Nat.le_refl _) hp
      · have y := (wh_eq (l := tx_sub t p e) (Nat.le_trans tx_sub_le hl) hg).mp w
        rw [if_pos y] at hp
        exact hp
    unfold pq_Md_matches_49
    refine ⟨fun w => absurd w (nI_nlt (by omega) (by omega)), fun _ => ⟨fun w => h75 (Or.inl ((nI_eq (by omega) (by omega)).mp w)), fun w => ⟨0, 0, hc, hs, ?_⟩⟩⟩
    have ne : ¬ e = t.length := fun z => w (by rw [z])
    have hd := ht _ (tx_mem (t := t) (i := e) (by omega))
    unfold pq_Md_byteOf pq_Md_byteOf_0
    rw [show (8 : Int32) = nI 8 from rfl, pk_mul, pk_byte ht hl (by omega)]
    refine ⟨fun w2 => ?_, fun w2 => h75 (Or.inr ((nI_eq (b := 44) (by omega) (by decide)).mp w2))⟩
    have z : ¬ (e = t.length ∨ t.getD e 0 = 44) := by
      rintro (z | z)
      · exact ne z
      · exact w2 (by rw [z]; rfl)
    rw [if_neg z] at hp
    unfold pq_Md_matches_96
    rw [nI_1]
    exact ih p (e + 1) (by omega) (by omega) (by omega) hp
theorem sp_mmatches {Post : Int32 → wo_W → Prop} {j h g : Nat} {q : rqT} (hk : md_k E ow m A G) (hq : vq_at A G j q) (hj : j < 9) (hh : h < 8) (hv : q.2.2.2 h = some t) (hg : g < 2 ^ 31) (hp : Post (bo_I (mt_of t g)) G) : pq_Md_matches E mc ms Post G m (nI j) (nI h) (nI g) := by
  obtain ⟨a1, a2, a3, a4⟩ := hk.a (f := 911) (k := 66) (n := 72) (by decide)
  obtain ⟨b1, b2, b3, b4⟩ := hk.a (f := 910) (k := 73) (n := 72) (by decide)
  obtain ⟨i1, i2, i3⟩ := ix8 hj hh
  have vo := hq.2.2.2 h hh
  rw [hv] at vo
  obtain ⟨v1, v2, v3, v4⟩ := vo
  have h43 : ¬ t = [42] → pq_Md_matches_43 E mc ms Post G 0 0 (nI g) (pk_of t) (nI t.length) := by
    intro z
    unfold mt_of at hp
    rw [if_neg z] at hp
    unfold pq_Md_matches_43
    exact ⟨t.length + 1 + 1, sp_mmLoop v4 v3 hg (Nat.zero_le _) (Nat.zero_le _) (t.length + 1) 0 0 (by omega) (by omega) (Nat.le_refl _) hp⟩
  unfold pq_Md_matches pq_Md_matches_0
  rw [i1]
  refine ⟨hk.1, fun r hr => ⟨A 910, b1 r hr, b2, by rw [b3]; exact i3, fun r2 hr2 => ⟨A 911, a1 r2 hr2, a2, by rw [a3]; exact i3, ?_⟩⟩⟩
  rw [i2, v1, v2]
  refine ⟨fun w => h43 (fun z => w (by rw [z]; rfl)), fun w => ⟨fun w2 => h43 (fun z => w2 ?_), fun w2 => ?_⟩⟩
  · rw [z]
    exact (lg_cmp_eq _ _).mpr rfl
  · have hl1 : t.length = 1 := (nI_eq (b := 1) (by omega) (by decide)).mp w
    have z := (pk_1 v4 hl1 (b := 42) (by decide)).mp ((lg_cmp_eq _ _).mp w2)
    unfold mt_of at hp
    rw [if_pos z] at hp
    exact hp
end MD
