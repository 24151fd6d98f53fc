def pn_of : List Nat → Nat
  | [] => 0
  | c :: l => c + 256 * pn_of l
def pk_of (t : List Nat) : Int64 := Int64.ofNat (pn_of t)
theorem pn_lt : ∀ (t : List Nat), (∀ c ∈ t, c < 256) → pn_of t < 256 ^ t.length := by
  intro t
  induction t with
  | nil => intro _; decide
  | cons c l ih =>
    intro h
    have h1 := ih (fun d hd => h d (List.mem_cons_of_mem _ hd))
    have h2 := h c List.mem_cons_self
    have e : (c :: l).length = l.length + 1 := rfl
    rw [e, Nat.pow_succ]
    show c + 256 * pn_of l < 256 ^ l.length * 256
    omega
theorem pn_64 {t : List Nat} (h : ∀ c ∈ t, c < 256) (hl : t.length ≤ 8) : pn_of t < 2 ^ 64 := by
  have h1 := pn_lt t h
  have h2 : 256 ^ t.length ≤ 256 ^ 8 := Nat.pow_le_pow_right (by decide) hl
  have h3 : 256 ^ 8 = 2 ^ 64 := by decide
  omega
theorem pn_at : ∀ (t : List Nat) (k : Nat), (∀ c ∈ t, c < 256) → pn_of t / 256 ^ k % 256 = t.getD k 0 := by
  intro t
  induction t with
  | nil => intro k _; simp [pn_of]
  | cons c l ih =>
    intro k h
    have h2 := h c List.mem_cons_self
    cases k with
    | zero =>
      show (c + 256 * pn_of l) / 256 ^ 0 % 256 = c
      rw [Nat.pow_zero, Nat.div_one]
      omega
    | succ k =>
      have h1 := ih k (fun d hd => h d (List.mem_cons_of_mem _ hd))
      show (c + 256 * pn_of l) / 256 ^ (k + 1) % 256 = l.getD k 0
      rw [← h1, Nat.pow_succ, Nat.mul_comm (256 ^ k) 256, ← Nat.div_div_eq_div_mul]
      congr 2
      omega
theorem pn_app : ∀ (t : List Nat) (b : Nat), pn_of (t ++ [b]) = pn_of t + b * 256 ^ t.length := by
  intro t
  induction t with
  | nil => intro b; simp [pn_of]
  | cons c l ih =>
    intro b
    show c + 256 * pn_of (l ++ [b]) = c + 256 * pn_of l + b * 256 ^ (l.length + 1)
    rw [ih, Nat.pow_succ, Nat.mul_add]
    have : 256 * (b * 256 ^ l.length) = b * (256 ^ l.length * 256) := by
      rw [Nat.mul_comm 256, Nat.mul_assoc]
    omega
theorem pn_inj : ∀ (t u : List Nat), t.length = u.length → (∀ c ∈ t, c < 256) → (∀ c ∈ u, c < 256) → pn_of t = pn_of u → t = u := by
  intro t u hl ht hu e
  refine tx_ext hl (fun i _ => ?_)
  rw [← pn_at t i ht, ← pn_at u i hu, e]
theorem i64_bv (n : Nat) : (Int64.ofNat n).toBitVec = BitVec.ofNat 64 n := rfl
theorem pk_inj {t u : List Nat} (ht : ∀ c ∈ t, c < 256) (hu : ∀ c ∈ u, c < 256) (hl : t.length ≤ 8) (e1 : t.length = u.length) (e : pk_of t = pk_of u) : t = u := by
  refine pn_inj t u e1 ht hu ?_
  have e2 := congrArg (fun x => x.toBitVec.toNat) e
  unfold pk_of at e2
  simp only [i64_bv, BitVec.toNat_ofNat] at e2
  rw [Nat.mod_eq_of_lt (pn_64 ht hl), Nat.mod_eq_of_lt (pn_64 hu (by omega))] at e2
  exact e2
theorem bt_nat (z : Int32) : bt_z z = z.toBitVec.toNat % 256 := by
  unfold bt_z
  rw [BitVec.toNat_and]
  show z.toBitVec.toNat &&& 255 = _
  exact Nat.and_two_pow_sub_one_eq_mod z.toBitVec.toNat 8
theorem lushr_nat (x : Int64) {s : Nat} (hs : s < 64) : (wo_lushr x (nI s)).toBitVec.toNat = x.toBitVec.toNat / 2 ^ s := by
  have key : ∀ s, s < 64 → ((nI s).toInt64.toUInt64 &&& Int64.toUInt64 63).toNat = s := by decide +kernel
  have h1 : (wo_lushr x (nI s)).toBitVec.toNat = (x.toUInt64 >>> ((nI s).toInt64.toUInt64 &&& Int64.toUInt64 63)).toNat := rfl
  rw [h1, UInt64.toNat_shiftRight, key s hs, Nat.mod_eq_of_lt hs, Nat.shiftRight_eq_div_pow]
  rfl
theorem pk_byte {t : List Nat} {k : Nat} (ht : ∀ c ∈ t, c < 256) (hl : t.length ≤ 8) (hk : k < 8) : (wo_lushr (pk_of t) (nI (8 * k))).toInt32 &&& 255 = nI (t.getD k 0) := by
  rw [(bt_eq _).1, bt_nat]
  have h1 : (wo_lushr (pk_of t) (nI (8 * k))).toInt32.toBitVec.toNat = (wo_lushr (pk_of t) (nI (8 * k))).toBitVec.toNat % 2 ^ 32 := by
    show ((wo_lushr (pk_of t) (nI (8 * k))).toBitVec.signExtend 32).toNat = _
    rw [BitVec.signExtend_eq_setWidth_of_le _ (by decide), BitVec.toNat_setWidth]
  have h2 : (pk_of t).toBitVec.toNat = pn_of t := by
    unfold pk_of
    rw [i64_bv, BitVec.toNat_ofNat, Nat.mod_eq_of_lt (pn_64 ht hl)]
  rw [h1, lushr_nat _ (by omega), h2, ← pn_at t k ht]
  congr 1
  rw [Nat.pow_mul]
  have : ∀ a : Nat, a % 2 ^ 32 % 256 = a % 256 := fun a => by omega
  rw [this]
theorem i64_inj {a b : Int64} (h : a.toBitVec.toNat = b.toBitVec.toNat) : a = b := Int64.toBitVec_inj.mp (BitVec.eq_of_toNat_eq h)
theorem pk_nat {t : List Nat} (ht : ∀ c ∈ t, c < 256) (hl : t.length ≤ 8) : (pk_of t).toBitVec.toNat = pn_of t := by
  unfold pk_of
  rw [i64_bv, BitVec.toNat_ofNat, Nat.mod_eq_of_lt (pn_64 ht hl)]
theorem shl_nat {b s : Nat} (hb : b < 256) (hs : s < 64) : ((nI b).toInt64 <<< ((nI s).toInt64 &&& 63)).toBitVec.toNat = b * 2 ^ s % 2 ^ 64 := by
  have k1 : ∀ s, s < 64 → (((nI s).toInt64 &&& 63).toBitVec.smod 64).toNat = s := by decide +kernel
  have k2 : ∀ b, b < 256 → (nI b).toInt64.toBitVec.toNat = b := by decide +kernel
  have h1 : ((nI b).toInt64 <<< ((nI s).toInt64 &&& 63)).toBitVec = (nI b).toInt64.toBitVec <<< (((nI s).toInt64 &&& 63).toBitVec.smod 64) := rfl
  rw [h1, BitVec.shiftLeft_eq', k1 s hs, BitVec.toNat_shiftLeft, k2 b hb, Nat.shiftLeft_eq]
theorem pk_or {t : List Nat} {b : Nat} (ht : ∀ c ∈ t, c < 256) (hl : t.length < 8) (hb : b < 256) : pk_of t ||| ((nI b).toInt64 <<< ((nI (8 * t.length)).toInt64 &&& 63)) = pk_of (t ++ [b]) := by
  have hm : ∀ c ∈ t ++ [b], c < 256 := fun c hc => by
    rcases List.mem_append.mp hc with z | z
    · exact ht c z
    · rw [List.mem_singleton.mp z]; exact hb
  have hl2 : (t ++ [b]).length ≤ 8 := by rw [List.length_append]; exact hl
  apply i64_inj
  rw [pk_nat hm hl2, pn_app]
  have h1 : (pk_of t ||| ((nI b).toInt64 <<< ((nI (8 * t.length)).toInt64 &&& 63))).toBitVec.toNat = (pk_of t).toBitVec.toNat ||| ((nI b).toInt64 <<< ((nI (8 * t.length)).toInt64 &&& 63)).toBitVec.toNat := rfl
  have h2 : pn_of t + b * 256 ^ t.length < 2 ^ 64 := by
    rw [← pn_app]
    exact pn_64 hm hl2
  have e256 : 256 ^ t.length = 2 ^ (8 * t.length) := by rw [Nat.pow_mul]
  have h3 := pn_lt t ht
  rw [e256] at h2 h3 ⊢
  rw [h1, pk_nat ht (by omega), shl_nat hb (by omega), Nat.mod_eq_of_lt (by omega), ← Nat.shiftLeft_eq, Nat.or_comm, ← Nat.shiftLeft_add_eq_or_of_lt h3, Nat.add_comm]
theorem pk_0 : pk_of [] = 0 := rfl
theorem pk_1 {t : List Nat} {b : Nat} (ht : ∀ c ∈ t, c < 256) (hl : t.length = 1) (hb : b < 256) : pk_of t = Int64.ofNat b ↔ t = [b] := by
  refine ⟨fun e => ?_, fun e => by rw [e]; rfl⟩
  refine pk_inj ht (fun c hc => by rw [List.mem_singleton.mp hc]; exact hb) (by omega) hl ?_
  rw [e]
  rfl
