def kp_at (A : Nat → Nat) (G : wo_W) (f : Nat) (r : List Nat) : Prop := ∀ i, i < r.length → wo_ei G (A f) i = nI (r.getD i 0)
def Pk (f : Nat) : Nat → Nat → Prop := fun g _ => g = f
theorem pn_inj0 : ∀ (t u : List Nat), (∀ c ∈ t, 0 < c ∧ c < 256) → (∀ c ∈ u, 0 < c ∧ c < 256) → pn_of t = pn_of u → t = u := by
  intro t
  induction t with
  | nil =>
    intro u _ hu e
    cases u with
    | nil => rfl
    | cons c l =>
      have h1 := (hu c List.mem_cons_self).1
      have e2 : 0 = c + 256 * pn_of l := e
      omega
  | cons a t ih =>
    intro u ht hu e
    have h0 := ht a List.mem_cons_self
    cases u with
    | nil =>
      have e2 : a + 256 * pn_of t = 0 := e
      omega
    | cons c l =>
      have h1 := hu c List.mem_cons_self
      have e2 : a + 256 * pn_of t = c + 256 * pn_of l := e
      have e3 : a = c := by omega
      have e4 : pn_of t = pn_of l := by omega
      rw [e3, ih l (fun d hd => ht d (List.mem_cons_of_mem _ hd)) (fun d hd => hu d (List.mem_cons_of_mem _ hd)) e4]
theorem tk_at {r : List Nat} {k i : Nat} (h : i < k) : (r.take k).getD i 0 = r.getD i 0 := by
  rw [List.getD_eq_getElem?_getD, List.getD_eq_getElem?_getD, List.getElem?_take, if_pos h]
theorem tk_sc {r : List Nat} {k : Nat} (h : k < r.length) : r.take (k + 1) = r.take k ++ [r.getD k 0] := by
  rw [List.take_succ, List.getElem?_eq_getElem h]
  congr 1
  rw [List.getD_eq_getElem?_getD, List.getElem?_eq_getElem h]
  rfl
section MD
variable {E : wo_E} {mc ms m c s : Nat} {G0 G G1 G2 : wo_W} {ow : Nat → Nat} {A : Nat → Nat} {P Q : Nat → Nat → Prop} {R : List Nat} {r u : List Nat}
theorem kp_mf {f : Nat} (hk : kp_at A G f r) (hq : (f, 66, 24) ∈ md_tb) (h : mf E ow m A P G G1) (hP : ∀ i, ¬ P f i) : kp_at A G1 f r := fun i hi => by rw [h.ei hq (hP i)]; exact hk i hi
theorem kp_take {f k : Nat} (hk : kp_at A G f r) : kp_at A G f (r.take k) := fun i hi => by
  rw [List.length_take] at hi
  rw [hk i (by omega), tk_at (by omega)]
theorem kp_push {f b : Nat} (hq : (f, 66, 24) ∈ md_tb) (h : md_k E ow m A G) (hbb : ow_b E ow G) (hk : kp_at A G f r) {G1 : wo_W} (e : G1 = wo_sei G (A f) r.length (nI b)) : mf E ow m A (Pk f) G G1 ∧ kp_at A G1 f (r ++ [b]) := by
  refine ⟨by rw [e]; exact mf_sei h hbb hq rfl, fun i hi => ?_⟩
  rw [List.length_append] at hi
  have hi2 : i < r.length + 1 := hi
  rw [e, sei_at, app_get]
  by_cases z : i = r.length
  · rw [if_pos z, if_neg (by omega), if_pos z]
  · rw [if_neg z, if_pos (by omega)]; exact hk i (by omega)
theorem sp_mdigit {Post : Int32 → wo_W → Prop} {v : Nat} (hv : v < 16) (hp : Post (nI (dg_of v)) G) : pq_Md_digit E mc ms Post G (nI v) := by
  unfold pq_Md_digit pq_Md_digit_0 pq_Md_digit_17
  unfold dg_of at hp
  refine ⟨fun w => ?_, fun w => ?_⟩
  · have : 10 ≤ v := (nI_leI (a := 10) (by decide) (by omega)).mp w
    rw [if_neg (by omega), ← nI_add] at hp
    exact hp
  · have : ¬ 10 ≤ v := fun z => w (nI_le (a := 10) z (by omega))
    rw [if_pos (by omega), ← nI_add] at hp
    exact hp
theorem sp_munres {Post : Int32 → wo_W → Prop} {b : Nat} (hb : b < 256) (hp : Post (bo_I (pl_of b)) G) : pq_Md_unreserved E mc ms Post G (nI b) := by
  have h1 : pl_of b = true → ∀ c s, pq_Md_unreserved_60 E mc ms Post G c s := fun z c s => by
    rw [z] at hp
    unfold pq_Md_unreserved_60 pq_Md_unreserved_65
    exact ⟨tx_ok1, hp⟩
  have h0 : pl_of b = false → ∀ c s, pq_Md_unreserved_65 E mc ms Post G c s 0 := fun z c s => by
    rw [z] at hp
    unfold pq_Md_unreserved_65
    exact ⟨tx_ok0, hp⟩
  have lt : ∀ k : Nat, k < 256 → (nI b < nI k ↔ b < k) := fun k hk => nI_ltI (by omega) (by omega)
  have le : ∀ k : Nat, k < 256 → (nI b ≤ nI k ↔ b ≤ k) := fun k hk => nI_leI (by omega) (by omega)
  have eq : ∀ k : Nat, k < 256 → (nI b = nI k ↔ b = k) := fun k hk => nI_eq (by omega) (by omega)
  have l97 := lt 97 (by decide)
  have l65 := lt 65 (by decide)
  have l48 := lt 48 (by decide)
  have e122 := le 122 (by decide)
  have e90 := le 90 (by decide)
  have e57 := le 57 (by decide)
  have q45 := eq 45 (by decide)
  have q46 := eq 46 (by decide)
  have q95 := eq 95 (by decide)
  have q126 := eq 126 (by decide)
  have h36 : ¬ (48 ≤ b ∧ b ≤ 57) → ¬ (65 ≤ b ∧ b ≤ 90) → ¬ (97 ≤ b ∧ b ≤ 122) → ∀ c s, pq_Md_unreserved_36 E mc ms Post G c s (nI b) := by
    intro n1 n2 n3 c s
    unfold pq_Md_unreserved_36
    refine ⟨fun w => h1 (by have := q45.mp w; simp [pl_of, this]) _ _, fun w1 => ⟨fun w => h1 (by have := q46.mp w; simp [pl_of, this]) _ _, fun w2 => ⟨fun w => h1 (by have := q95.mp w; simp [pl_of, this]) _ _, fun w3 => ⟨fun w => h0 ?_ _ _, fun w => h1 (by have := q126.mp w; simp [pl_of, this]) _ _⟩⟩⟩⟩
    have z1 : b ≠ 45 := fun z => w1 (q45.mpr z)
    have z2 : b ≠ 46 := fun z => w2 (q46.mpr z)
    have z3 : b ≠ 95 := fun z => w3 (q95.mpr z)
    have z4 : b ≠ 126 := fun z => w (q126.mpr z)
    simp [pl_of, z1, z2, z3, z4]
    omega
  have h24 : ¬ (65 ≤ b ∧ b ≤ 90) → ¬ (97 ≤ b ∧ b ≤ 122) → ∀ c s, pq_Md_unreserved_24 E mc ms Post G c s (nI b) := by
    intro n2 n3 c s
    unfold pq_Md_unreserved_24
    refine ⟨fun w => h36 (fun z => by have := l48.mp w; omega) n2 n3 _ _, fun w => ⟨fun w2 => h1 ?_ _ _, fun w2 => h36 (fun z => w2 (e57.mpr z.2)) n2 n3 _ _⟩⟩
    have z1 : 48 ≤ b := Nat.le_of_not_lt (fun z => w (l48.mpr z))
    have z2 := e57.mp w2
    simp [pl_of, z1, z2]
  have h12 : ¬ (97 ≤ b ∧ b ≤ 122) → ∀ c s, pq_Md_unreserved_12 E mc ms Post G c s (nI b) := by
    intro n3 c s
    unfold pq_Md_unreserved_12
    refine ⟨fun w => h24 (fun z => by have := l65.mp w; omega) n3 _ _, fun w => ⟨fun w2 => h1 ?_ _ _, fun w2 => h24 (fun z => w2 (e90.mpr z.2)) n3 _ _⟩⟩
    have z1 : 65 ≤ b := Nat.le_of_not_lt (fun z => w (l65.mpr z))
    have z2 := e90.mp w2
    simp [pl_of, z1, z2]
  unfold pq_Md_unreserved pq_Md_unreserved_0
  refine ⟨fun w => h12 (fun z => by have := l97.mp w; omega) _ _, fun w => ⟨fun w2 => h1 ?_ _ _, fun w2 => h12 (fun z => w2 (e122.mpr z.2)) _ _⟩⟩
  have z1 : 97 ≤ b := Nat.le_of_not_lt (fun z => w (l97.mpr z))
  have z2 := e122.mp w2
  simp [pl_of, z1, z2]
end MD
