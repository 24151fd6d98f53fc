def dc_of (n : Nat) : List Nat := if h : n < 10 then [48 + n] else dc_of (n / 10) ++ [48 + n % 10]
  termination_by n
  decreasing_by omega
theorem dc_lo {n : Nat} (h : n < 10) : dc_of n = [48 + n] := by rw [dc_of, dif_pos h]
theorem dc_hi {n : Nat} (h : 10 ≤ n) : dc_of n = dc_of (n / 10) ++ [48 + n % 10] := by rw [dc_of, dif_neg (by omega)]
theorem dc_two {n : Nat} (h : 10 ≤ n) (h2 : n < 100) : dc_of n = [48 + n / 10, 48 + n % 10] := by rw [dc_hi h, dc_lo (by omega)]; rfl
theorem dc_hun {n : Nat} (h : 100 ≤ n) : dc_of n = dc_of (n / 100) ++ [48 + n % 100 / 10, 48 + n % 100 % 10] := by
  rw [dc_hi (by omega), dc_hi (n := n / 10) (by omega), List.append_assoc]
  have e1 : n / 10 / 10 = n / 100 := by omega
  have e2 : n / 10 % 10 = n % 100 / 10 := by omega
  have e3 : n % 10 = n % 100 % 10 := by omega
  rw [e1, e2, e3]
  rfl
theorem dc_pos (n : Nat) : 1 ≤ (dc_of n).length := by
  by_cases h : n < 10
  · rw [dc_lo h]; exact Nat.le_refl _
  · rw [dc_hi (by omega), List.length_append]; exact Nat.le_add_left _ _
theorem dc_lt : ∀ (k n : Nat), n < 10 ^ (k + 1) → (dc_of n).length ≤ k + 1 := by
  intro k
  induction k with
  | zero => intro n h; rw [dc_lo (by omega)]; exact Nat.le_refl _
  | succ k ih =>
    intro n h
    by_cases h2 : n < 10
    · rw [dc_lo h2]; exact Nat.le_add_left _ _
    · rw [dc_hi (by omega), List.length_append]
      have h3 : n / 10 < 10 ^ (k + 1) := by
        rw [Nat.pow_succ] at h
        exact Nat.div_lt_of_lt_mul (by omega)
      have := ih (n / 10) h3
      show _ + 1 ≤ _
      omega
theorem dc_len10 {n : Nat} (h : n < 2 ^ 31) : (dc_of n).length ≤ 10 := dc_lt 9 n (by omega)
theorem dc_mem : ∀ (n c : Nat), c ∈ dc_of n → 48 ≤ c ∧ c ≤ 57 := by
  intro n
  induction n using Nat.strongRecOn with
  | ind n ih =>
    intro c hc
    by_cases h : n < 10
    · rw [dc_lo h] at hc
      have := List.mem_singleton.mp hc
      omega
    · rw [dc_hi (by omega)] at hc
      rcases List.mem_append.mp hc with q | q
      · exact ih (n / 10) (by omega) c q
      · have := List.mem_singleton.mp q
        omega
theorem dc_ge : ∀ (k n : Nat), 10 ^ k ≤ n → k + 1 ≤ (dc_of n).length := by
  intro k
  induction k with
  | zero => intro n _; exact dc_pos n
  | succ k ih =>
    intro n h
    have h1 : 1 ≤ 10 ^ k := Nat.one_le_iff_ne_zero.mpr (by exact Nat.ne_of_gt (Nat.pow_pos (by decide)))
    rw [Nat.pow_succ] at h
    rw [dc_hi (by omega), List.length_append]
    have h3 : 10 ^ k ≤ n / 10 := by rw [Nat.le_div_iff_mul_le (by decide)]; exact h
    have := ih (n / 10) h3
    show _ ≤ _ + 1
    omega
theorem nI_neg0 {n : Nat} : -nI n = 0 - nI n := by
  rw [Int32.zero_sub]
section SP
variable {E : wo_E} {mc ms : Nat} {G : wo_W} {a b v : Nat} {t u : List Nat}
theorem sp_ssLoop {Post : Int32 → wo_W → Prop} {c s m : Nat} (hm : m < 2 ^ 31) (hp : Post (nI (dc_of m).length) G) :
    ∀ (d k : Nat), 10 - k = d → 1 ≤ k → k ≤ 10 → k ≤ (dc_of m).length → pq_It_stringSize_16 E mc ms Post (d + 1) G c s (-nI m) 0 (-nI (10 ^ k % 2 ^ 32)) (nI k) := by
  intro d
  induction d with
  | zero =>
    intro k hd h1 h2 h3
    unfold pq_It_stringSize_16
    have hk : k = 10 := by omega
    subst hk
    have := dc_len10 hm
    have e : (dc_of m).length = 10 := by omega
    rw [e] at hp
    exact ⟨fun _ => hp, fun q => absurd (by decide) q⟩
  | succ d ih =>
    intro k hd h1 h2 h3
    have hk : k < 10 := by omega
    have hpw : 10 ^ k < 2 ^ 31 := Nat.lt_of_le_of_lt (Nat.pow_le_pow_right (by decide) (by omega : k ≤ 9)) (by decide)
    have hmod : 10 ^ k % 2 ^ 32 = 10 ^ k := Nat.mod_eq_of_lt (by omega)
    rw [hmod]
    unfold pq_It_stringSize_16
    refine ⟨fun q => absurd q (nI_ge (a := k) (b := 10) hk (by decide)), fun _ => ⟨fun q => ?_, fun q => ?_⟩⟩
    · have hge : 10 ^ k ≤ m := (sb_nle hm hpw).mp q
      have h4 := dc_ge k m hge
      have e : (10 : Int32) * -nI (10 ^ k) = -nI (10 ^ (k + 1) % 2 ^ 32) := by
        have hk9 : k = 1 ∨ k = 2 ∨ k = 3 ∨ k = 4 ∨ k = 5 ∨ k = 6 ∨ k = 7 ∨ k = 8 ∨ k = 9 := by omega
        rcases hk9 with rfl | rfl | rfl | rfl | rfl | rfl | rfl | rfl | rfl <;> decide
      rw [e, nI_1]
      exact ih (k + 1) (by omega) (by omega) (by omega) (by omega)
    · have hlt : m < 10 ^ k := by
        apply Nat.lt_of_not_le
        intro q2
        exact q ((sb_nle hm hpw).mpr q2)
      have h4 := dc_lt (k - 1) m (by rw [show k - 1 + 1 = k by omega]; exact hlt)
      have e : (dc_of m).length = k := by omega
      rw [e] at hp
      have e2 : nI k + 0 = nI k := Int32.add_zero _
      rw [e2]
      exact hp
theorem sp_stringSize {Post : Int32 → wo_W → Prop} {m : Nat} (hm : m < 2 ^ 31) (hp : Post (nI (dc_of m).length) G) : pq_It_stringSize E mc ms Post G (nI m) := by
  unfold pq_It_stringSize pq_It_stringSize_0 pq_It_stringSize_11
  exact ⟨fun q => absurd q (nI_pos hm), fun _ => ⟨10, sp_ssLoop hm hp 9 1 (by omega) (by omega) (by omega) (dc_pos m)⟩⟩
end SP
