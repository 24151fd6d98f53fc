def md_tb : List (Nat × Nat × Nat) := [(896, 66, 12600), (897, 66, 3), (898, 72, 3), (899, 66, 1920), (900, 66, 3), (901, 66, 1152), (902, 66, 12), (903, 66, 3), (904, 66, 3), (905, 66, 128), (907, 66, 9), (908, 73, 9), (909, 66, 9), (910, 73, 72), (911, 66, 72), (912, 73, 9), (913, 66, 9), (916, 66, 24), (917, 66, 24), (918, 66, 8), (919, 66, 8), (920, 66, 8), (921, 66, 8), (922, 66, 8), (923, 66, 8), (924, 72, 8), (925, 72, 8), (926, 66, 8), (927, 66, 9), (929, 66, 40), (930, 73, 40), (931, 66, 40), (932, 66, 40), (933, 73, 40), (934, 66, 40), (935, 72, 40), (936, 72, 20), (937, 73, 20), (938, 66, 20), (939, 73, 20), (940, 66, 20), (941, 66, 20), (942, 66, 20), (943, 66, 20), (945, 72, 6), (946, 73, 6), (947, 66, 6), (948, 73, 6), (949, 66, 6), (950, 73, 18), (951, 66, 18), (952, 66, 18), (953, 66, 2), (954, 66, 2)]
abbrev R9 : Nat → Prop := fun r => r = 9
def md_k (E : wo_E) (ow : Nat → Nat) (m : Nat) (A : Nat → Nat) (G : wo_W) : Prop := wo_ty G m = 15 ∧ en_bs E ≤ m ∧ ow m = 9 ∧ (∀ q ∈ md_tb, wo_gr G q.1 m = some (A q.1) ∧ wo_ty G (A q.1) = q.2.1 ∧ wo_len G (A q.1) = q.2.2 ∧ en_bs E ≤ A q.1 ∧ ow (A q.1) = 9) ∧ (∀ p ∈ md_tb, ∀ q ∈ md_tb, A p.1 = A q.1 → p.1 = q.1)
def me (E : wo_E) (ow : Nat → Nat) (m : Nat) (A : Nat → Nat) (F : Nat → Prop) (G G' : wo_W) : Prop := xt E R9 ow G ow G' ∧ md_k E ow m A G' ∧ (∀ q ∈ md_tb, ¬ F q.1 → (∀ i, wo_ei G' (A q.1) i = wo_ei G (A q.1) i) ∧ ∀ i, wo_el G' (A q.1) i = wo_el G (A q.1) i) ∧ ∀ f, ¬ F f → wo_gi G' f m = wo_gi G f m
def FT : Nat → Prop := fun f => f = 905 ∨ f = 906
def tb_at (m : Nat) (A : Nat → Nat) (G : wo_W) (t : List Nat) : Prop := wo_gi G 906 m = nI t.length ∧ t.length ≤ 128 ∧ ∀ i, i < t.length → wo_ei G (A 905) i = nI (t.getD i 0)
section MD
variable {E : wo_E} {mc ms m : Nat} {G G1 G2 : wo_W} {ow : Nat → Nat} {A : Nat → Nat} {F K : Nat → Prop} {t : List Nat}
theorem md_k.a (h : md_k E ow m A G) {f k n : Nat} (hq : (f, k, n) ∈ md_tb) : (∀ r, r = wo_gr G f m → r = some (A f)) ∧ wo_ty G (A f) = k ∧ wo_len G (A f) = n ∧ en_bs E ≤ A f := by
  obtain ⟨h1, h2, h3, h4, h5⟩ := h
  obtain ⟨a1, a2, a3, a4, a5⟩ := h4 (f, k, n) hq
  exact ⟨fun r hr => hr.trans a1, a2, a3, a4⟩
theorem me.rf (h : md_k E ow m A G) (hb : ow_b E ow G) : me E ow m A F G G := ⟨xt.rf hb, h, fun _ _ _ => ⟨fun _ => rfl, fun _ => rfl⟩, fun _ _ => rfl⟩
theorem me.tr (h : me E ow m A F G G1) (h2 : me E ow m A F G1 G2) : me E ow m A F G G2 := by
  obtain ⟨a1, a2, a3, a4⟩ := h
  obtain ⟨b1, b2, b3, b4⟩ := h2
  exact ⟨a1.tr b1, b2, fun q hq hf => ⟨fun i => ((b3 q hq hf).1 i).trans ((a3 q hq hf).1 i), fun i => ((b3 q hq hf).2 i).trans ((a3 q hq hf).2 i)⟩, fun f hf => (b4 f hf).trans (a4 f hf)⟩
theorem me.mn (h : me E ow m A F G G1) (hk : ∀ f, F f → K f) : me E ow m A K G G1 := ⟨h.1, h.2.1, fun q hq hf => h.2.2.1 q hq (fun z => hf (hk _ z)), fun f hf => h.2.2.2 f (fun z => hf (hk _ z))⟩
theorem me.b (h : me E ow m A F G G1) : ow_b E ow G1 := h.1.2.2
theorem me_sei {f k n i : Nat} {v : Int32} (h : md_k E ow m A G) (hb : ow_b E ow G) (hq : (f, k, n) ∈ md_tb) : me E ow m A (fun g => g = f) G (wo_sei G (A f) i v) := by
  have h' := h
  obtain ⟨h1, h2, h3, h4, h5⟩ := h'
  obtain ⟨a1, a2, a3, a4, a5⟩ := h4 (f, k, n) hq
  refine ⟨xt.of hb (fr_sei a5), h, fun q hq2 hf => ⟨fun j => ?_, fun j => rfl⟩, fun g _ => rfl⟩
  have ne : ¬ A q.1 = A f := fun e => hf (h5 q hq2 (f, k, n) hq e)
  simp [wo_ei, wo_sei, wo_u2, ne]
theorem me_sel {f k n i : Nat} {v : Int64} (h : md_k E ow m A G) (hb : ow_b E ow G) (hq : (f, k, n) ∈ md_tb) : me E ow m A (fun g => g = f) G (wo_sel G (A f) i v) := by
  have h' := h
  obtain ⟨h1, h2, h3, h4, h5⟩ := h'
  obtain ⟨a1, a2, a3, a4, a5⟩ := h4 (f, k, n) hq
  refine ⟨xt.of hb (fr_sel a5), h, fun q hq2 hf => ⟨fun j => rfl, fun j => ?_⟩, fun g _ => rfl⟩
  have ne : ¬ A q.1 = A f := fun e => hf (h5 q hq2 (f, k, n) hq e)
  simp [wo_el, wo_sel, wo_u2, ne]
theorem me_si {f : Nat} {v : Int32} (h : md_k E ow m A G) (hb : ow_b E ow G) : me E ow m A (fun g => g = f) G (wo_si G f m v) := by
  refine ⟨xt.of hb (fr_si h.2.2.1), h, fun q hq2 hf => ⟨fun j => rfl, fun j => rfl⟩, fun g hg => ?_⟩
  have hg2 : ¬ g = f := hg
  simp [wo_gi, wo_si, wo_u2, hg2]
theorem sei_at {a i j : Nat} {v : Int32} : wo_ei (wo_sei G a i v) a j = if j = i then v else wo_ei G a j := by
  by_cases z : j = i <;> simp [wo_ei, wo_sei, wo_u2, z]
theorem sel_at {a i j : Nat} {v : Int64} : wo_el (wo_sel G a i v) a j = if j = i then v else wo_el G a j := by
  by_cases z : j = i <;> simp [wo_el, wo_sel, wo_u2, z]
theorem si_at {f : Nat} {v : Int32} : wo_gi (wo_si G f m v) f m = v := by simp [wo_gi, wo_si, wo_u2]
theorem sp_put {Post : wo_W → Prop} {b : Nat} (h : md_k E ow m A G) (hb : ow_b E ow G) (ht : tb_at m A G t) (hl : t.length < 128) (hp : ∀ G', me E ow m A FT G G' → tb_at m A G' (t ++ [b]) → Post G') : pq_Md_put E mc ms Post G m (nI b) := by
  obtain ⟨t1, t2, t3⟩ := ht
  obtain ⟨a1, a2, a3, a4⟩ := h.a (f := 905) (k := 66) (n := 128) (by decide)
  unfold pq_Md_put pq_Md_put_0
  rw [t1]
  refine ⟨h.1, fun r hr => ⟨A 905, a1 r hr, a2, by rw [a3]; exact vp_in_nI hl (by decide), a4, fun G1 e1 => ⟨h.2.1, fun G2 e2 => ?_⟩⟩⟩
  rw [nI_clamp (by omega)] at e1
  have m1 := me_sei (i := t.length) (v := nI b) h hb (f := 905) (k := 66) (n := 128) (by decide)
  rw [← e1] at m1
  have g1 : wo_gi G1 906 m = nI t.length := by rw [e1]; exact t1
  rw [g1, nI_1] at e2
  have m2 := me_si (f := 906) (v := nI (t.length + 1)) m1.2.1 m1.b
  rw [← e2] at m2
  refine hp G2 ((m1.mn (fun f z => Or.inl z)).tr (m2.mn (fun f z => Or.inr z))) ⟨?_, by rw [List.length_append]; exact hl, fun i hi => ?_⟩
  · rw [e2, si_at, List.length_append]
    rfl
  · have e3 : wo_ei G2 (A 905) i = wo_ei G1 (A 905) i := by rw [e2]; rfl
    rw [List.length_append] at hi
    have hi2 : i < t.length + 1 := hi
    rw [e3, e1, sei_at, app_get]
    by_cases z : i = t.length
    · rw [if_pos z, if_neg (by omega), if_pos z]
    · rw [if_neg z, if_pos (by omega)]; exact t3 i (by omega)
def dg_k (v : Nat) : Nat → List Nat
  | 0 => [48 + v % 10]
  | k + 1 => (48 + v / 10 ^ (k + 1) % 10) :: dg_k v k
theorem dg_s (v : Nat) : ∀ k, dg_k v (k + 1) = dg_k (v / 10) k ++ [48 + v % 10] := by
  intro k
  induction k with
  | zero =>
    show [48 + v / 10 ^ 1 % 10, 48 + v % 10] = [48 + v / 10 % 10] ++ [48 + v % 10]
    rfl
  | succ k ih =>
    show (48 + v / 10 ^ (k + 1 + 1) % 10) :: dg_k v (k + 1) = (48 + v / 10 / 10 ^ (k + 1) % 10) :: dg_k (v / 10) k ++ [48 + v % 10]
    rw [ih, Nat.div_div_eq_div_mul, ← Nat.pow_succ']
    rfl
theorem dg_dc : ∀ (k v : Nat), (k = 0 ∨ 10 ^ k ≤ v) → v < 10 ^ (k + 1) → dg_k v k = dc_of v := by
  intro k
  induction k with
  | zero =>
    intro v _ h
    have h2 : v < 10 := by simpa using h
    rw [dc_lo h2]
    show [48 + v % 10] = [48 + v]
    rw [Nat.mod_eq_of_lt h2]
  | succ k ih =>
    intro v h1 h2
    have h3 : 10 ^ (k + 1) ≤ v := by rcases h1 with z | z; cases z; exact z
    have hp : 10 ^ (k + 1) = 10 ^ k * 10 := Nat.pow_succ ..
    have hp2 : 10 ^ (k + 1 + 1) = 10 ^ (k + 1) * 10 := Nat.pow_succ ..
    have h1k : 1 ≤ 10 ^ k := Nat.one_le_pow _ _ (by decide)
    have h10 : 10 ≤ v := by omega
    rw [dg_s, dc_hi h10, ih (v / 10) (Or.inr ?_) ?_]
    · rw [hp] at h3
      omega
    · rw [hp2] at h2
      omega
theorem sp_pnDown {Post : wo_W → Prop} {v : Nat} (hv : v < 2 ^ 31) : ∀ (k : Nat) (t : List Nat) (G : wo_W) (c s : Nat), k ≤ 9 → md_k E ow m A G → ow_b E ow G → tb_at m A G t → t.length + k + 1 ≤ 128 → c ≤ mc → s ≤ ms → (∀ G', me E ow m A FT G G' → tb_at m A G' (t ++ dg_k v k) → Post G') → pq_Md_putNumber_18 E mc ms Post (k + 2) G c s m (nI v) (nI (10 ^ k)) := by
  have key : ∀ k, k ≤ 9 → 10 ^ k < 2 ^ 31 ∧ 0 < 10 ^ k := by decide
  intro k
  induction k with
  | zero =>
    intro t G c s hk h hb ht hl hc hs hp
    obtain ⟨k1, k2⟩ := key 0 hk
    unfold pq_Md_putNumber_18
    refine ⟨fun w => absurd w (by decide), fun _ => ⟨by decide, h.1, 0, 0, hc, hs, ?_⟩⟩
    have e : (48 : Int32) + (nI v / nI (10 ^ 0) - nI v / nI (10 ^ 0) / 10 * 10) = nI (48 + v % 10) := by
      rw [pk_div hv (by decide) (by decide), Nat.pow_zero, Nat.div_one, show (10 : Int32) = nI 10 from rfl, pk_div hv (by decide) (by decide), pk_mul, pk_sub (by omega), show (48 : Int32) = nI 48 from rfl, nI_add]
      congr 1
      omega
    rw [e]
    refine sp_put h hb ht (by omega) (fun G1 m1 t1 => ?_)
    unfold pq_Md_putNumber_18
    exact ⟨fun _ => hp G1 m1 t1, fun w => absurd (by decide) w⟩
  | succ k ih =>
    intro t G c s hk h hb ht hl hc hs hp
    obtain ⟨k1, k2⟩ := key (k + 1) hk
    unfold pq_Md_putNumber_18
    refine ⟨fun w => absurd w (nI_nle k2 k1), fun _ => ⟨nI_ne0 k2 k1, h.1, 0, 0, hc, hs, ?_⟩⟩
    have hq : v / 10 ^ (k + 1) < 2 ^ 31 := Nat.lt_of_le_of_lt (Nat.div_le_self _ _) hv
    have e : (48 : Int32) + (nI v / nI (10 ^ (k + 1)) - nI v / nI (10 ^ (k + 1)) / 10 * 10) = nI (48 + v / 10 ^ (k + 1) % 10) := by
      rw [pk_div hv k2 k1, show (10 : Int32) = nI 10 from rfl, pk_div hq (by decide) (by decide), pk_mul, pk_sub (by omega), show (48 : Int32) = nI 48 from rfl, nI_add]
      congr 1
      omega
    have e2 : nI (10 ^ (k + 1)) / 10 = nI (10 ^ k) := by
      rw [show (10 : Int32) = nI 10 from rfl, pk_div k1 (by decide) (by decide)]
      congr 1
      rw [Nat.pow_succ]
      omega
    rw [e]
    refine sp_put h hb ht (by omega) (fun G1 m1 t1 => ?_)
    rw [e2]
    refine ih _ G1 _ _ (by omega) m1.2.1 m1.b t1 (by rw [List.length_append]; show t.length + 1 + k + 1 ≤ 128; omega) hc hs (fun G' m2 t2 => hp G' (m1.tr m2) ?_)
    rw [List.append_assoc] at t2
    exact t2
theorem sp_pnUp {Post : wo_W → Prop} {v c s : Nat} (hv : v < 10 ^ 9) (h : md_k E ow m A G) (hb : ow_b E ow G) (ht : tb_at m A G t) (hl : t.length + 10 ≤ 128) (hc : c ≤ mc) (hs : s ≤ ms) (hp : ∀ G', me E ow m A FT G G' → tb_at m A G' (t ++ dc_of v) → Post G') : ∀ (d k : Nat), k + d = 8 → (k = 0 ∨ 10 ^ k ≤ v) → pq_Md_putNumber_2 E mc ms Post (d + 1) G c s m (nI v) (nI (10 ^ k)) := by
  have key : ∀ k, k ≤ 8 → 10 ^ k < 2 ^ 31 ∧ 0 < 10 ^ k ∧ nI (10 ^ k) * 10 = nI (10 ^ (k + 1)) := by decide +kernel
  have go : ∀ k, k ≤ 8 → (k = 0 ∨ 10 ^ k ≤ v) → v < 10 ^ (k + 1) → ∃ n1 : Nat, pq_Md_putNumber_18 E mc ms Post n1 G c s m (nI v) (nI (10 ^ k)) := by
    intro k hk h1 h2
    refine ⟨k + 2, sp_pnDown (by omega) k t G c s (by omega) h hb ht (by omega) hc hs ?_⟩
    rw [dg_dc k v h1 h2]
    exact hp
  intro d
  induction d with
  | zero =>
    intro k hk hv2
    have hk8 : k = 8 := by omega
    obtain ⟨k1, k2, k3⟩ := key k (by omega)
    unfold pq_Md_putNumber_2
    rw [pk_div (by omega) k2 k1]
    refine ⟨nI_ne0 k2 k1, fun _ => go k (by omega) hv2 (by rw [hk8]; exact hv), fun w => absurd (nI_lt (b := 10) ?_ (by decide)) w⟩
    rw [hk8]
    omega
  | succ d ih =>
    intro k hk hv2
    obtain ⟨k1, k2, k3⟩ := key k (by omega)
    have hp10 : 10 ^ (k + 1) = 10 ^ k * 10 := Nat.pow_succ ..
    have hq : v / 10 ^ k < 2 ^ 31 := Nat.lt_of_le_of_lt (Nat.div_le_self _ _) (by omega)
    unfold pq_Md_putNumber_2
    rw [pk_div (by omega) k2 k1]
    refine ⟨nI_ne0 k2 k1, fun w => go k (by omega) hv2 ?_, fun w => ?_⟩
    · have z := (nI_ltI (b := 10) hq (by decide)).mp w
      rw [hp10]
      exact (Nat.div_lt_iff_lt_mul k2).mp z |> fun q => by rw [Nat.mul_comm]; exact q
    · rw [k3]
      refine ih (k + 1) (by omega) (Or.inr ?_)
      have z : 10 ≤ v / 10 ^ k := Nat.le_of_not_lt (fun y => w (nI_lt (b := 10) y (by decide)))
      rw [hp10]
      exact (Nat.le_div_iff_mul_le k2).mp z |> fun q => by rw [Nat.mul_comm]; exact q
theorem sp_putNumber {Post : wo_W → Prop} {v : Nat} (hv : v < 10 ^ 9) (h : md_k E ow m A G) (hb : ow_b E ow G) (ht : tb_at m A G t) (hl : t.length + 10 ≤ 128) (hp : ∀ G', me E ow m A FT G G' → tb_at m A G' (t ++ dc_of v) → Post G') : pq_Md_putNumber E mc ms Post G m (nI v) := by
  unfold pq_Md_putNumber pq_Md_putNumber_0
  exact ⟨9, sp_pnUp hv h hb ht hl (Nat.zero_le _) (Nat.zero_le _) hp 8 0 rfl (Or.inl rfl)⟩
theorem sp_name {Post : wo_W → Prop} {b : Nat} (h : md_k E ow m A G) (hb : ow_b E ow G) (ht : tb_at m A G t) (hl : t.length + 2 ≤ 128) (hp : ∀ G', me E ow m A FT G G' → tb_at m A G' (t ++ [b, 58]) → Post G') : pq_Md_name E mc ms Post G m (nI b) := by
  unfold pq_Md_name pq_Md_name_0
  refine ⟨h.1, 0, 0, Nat.zero_le _, Nat.zero_le _, sp_put h hb ht (by omega) (fun G1 m1 t1 => ⟨m1.2.1.1, 0, 0, Nat.zero_le _, Nat.zero_le _, sp_put (b := 58) m1.2.1 m1.b t1 (by rw [List.length_append]; exact hl) (fun G2 m2 t2 => hp G2 (m1.tr m2) ?_)⟩)⟩
  rw [List.append_assoc] at t2
  exact t2
theorem sp_putLine {Post : wo_W → Prop} {b v : Nat} (hv : v < 10 ^ 9) (h : md_k E ow m A G) (hb : ow_b E ow G) (ht : tb_at m A G t) (hl : t.length + 13 ≤ 128) (hp : ∀ G', me E ow m A FT G G' → tb_at m A G' (t ++ nl_of b v) → Post G') : pq_Md_putLine E mc ms Post G m (nI b) (nI v) := by
  have dl := dc_len10 (n := v) (by omega)
  unfold pq_Md_putLine pq_Md_putLine_0
  refine ⟨h.1, 0, 0, Nat.zero_le _, Nat.zero_le _, sp_name h hb ht (by omega) (fun G1 m1 t1 => ⟨m1.2.1.1, 0, 0, Nat.zero_le _, Nat.zero_le _, sp_putNumber hv m1.2.1 m1.b t1 (by rw [List.length_append]; show t.length + 2 + 10 ≤ 128; omega) (fun G2 m2 t2 => ⟨m2.2.1.1, 0, 0, Nat.zero_le _, Nat.zero_le _, sp_put (b := 10) m2.2.1 m2.b t2 (by rw [List.length_append, List.length_append]; show t.length + 2 + _ < 128; omega) (fun G3 m3 t3 => hp G3 ((m1.tr m2).tr m3) ?_)⟩)⟩)⟩
  have e : t ++ nl_of b v = t ++ [b, 58] ++ dc_of v ++ [10] := by simp [nl_of]
  rw [e]
  exact t3
theorem sp_mbegin {Post : wo_W → Prop} {v : Nat} (hv : v < 10 ^ 9) (h : md_k E ow m A G) (hb : ow_b E ow G) (hp : ∀ G', me E ow m A FT G G' → tb_at m A G' (bg_of v) → Post G') : pq_Md_begin E mc ms Post G m (nI v) := by
  have dl := dc_len10 (n := v) (by omega)
  unfold pq_Md_begin pq_Md_begin_0
  refine ⟨h.1, h.2.1, fun G1 e1 => ⟨0, 0, Nat.zero_le _, Nat.zero_le _, ?_⟩⟩
  have m1 := me_si (f := 906) (v := 0) h hb
  rw [← e1] at m1
  have m1' : me E ow m A FT G G1 := m1.mn (fun f z => Or.inr z)
  have t1 : tb_at m A G1 [] := ⟨by rw [e1, si_at]; rfl, by simp, fun i hi => absurd hi (Nat.not_lt_zero _)⟩
  refine sp_putNumber hv m1.2.1 m1.b t1 (by simp) (fun G2 m2 t2 => ⟨m2.2.1.1, 0, 0, Nat.zero_le _, Nat.zero_le _, sp_put (b := 10) m2.2.1 m2.b t2 (by show (dc_of v).length < 128; omega) (fun G3 m3 t3 => hp G3 ((m1'.tr m2).tr m3) t3)⟩)
theorem sp_plain {Post : Int32 → wo_W → Prop} {v : Nat} (hv : v < 10 ^ 9) (h : md_k E ow m A G) (hb : ow_b E ow G) (hp : ∀ G', me E ow m A FT G G' → tb_at m A G' (ba_of v 0) → Post (nI v) G') : pq_Md_plain E mc ms Post G m (nI v) := by
  have bl := bg_len (m := v) (by omega)
  have nl := nl_len (x := 76) (m := 0) (by decide)
  unfold pq_Md_plain pq_Md_plain_0
  refine ⟨h.1, 0, 0, Nat.zero_le _, Nat.zero_le _, sp_mbegin hv h hb (fun G1 m1 t1 => ⟨m1.2.1.1, 0, 0, Nat.zero_le _, Nat.zero_le _, sp_putLine (b := 76) (v := 0) (by decide) m1.2.1 m1.b t1 (by omega) (fun G2 m2 t2 => ⟨m2.2.1.1, 0, 0, Nat.zero_le _, Nat.zero_le _, sp_put (b := 10) m2.2.1 m2.b t2 (by rw [List.length_append]; omega) (fun G3 m3 t3 => hp G3 ((m1.tr m2).tr m3) ?_)⟩)⟩)⟩
  have e : ba_of v 0 = bg_of v ++ nl_of 76 0 ++ [10] := by simp [ba_of]
  rw [e]
  exact t3
theorem sp_pbLoop {Post : wo_W → Prop} {u : List Nat} {e : Nat} (hu : ∀ c ∈ u, c < 256) (hul : u.length ≤ 8) (he : e ≤ u.length) : ∀ (k p : Nat) (t : List Nat) (G : wo_W) (c s : Nat), p + k = e → md_k E ow m A G → ow_b E ow G → tb_at m A G t → t.length + k ≤ 128 → c ≤ mc → s ≤ ms → (∀ G', me E ow m A FT G G' → tb_at m A G' (t ++ tx_sub u p e) → Post G') → pq_Md_putBytes_3 E mc ms Post (k + 1) G c s m (pk_of u) (nI e) (nI p) := by
  intro k
  induction k with
  | zero =>
    intro p t G c s hk h hb ht hl hc hs hp
    unfold pq_Md_putBytes_3
    refine ⟨fun _ => hp G (me.rf h hb) ?_, fun w => absurd (nI_le (by omega) (by omega)) w⟩
    rw [tx_sub_nil (by omega), List.append_nil]
    exact ht
  | succ k ih =>
    intro p t G c s hk h hb ht hl hc hs hp
    unfold pq_Md_putBytes_3
    refine ⟨fun w => absurd w (nI_ge (by omega) (by omega)), fun _ => ⟨0, 0, hc, hs, ?_⟩⟩
    unfold pq_Md_byteOf pq_Md_byteOf_0
    rw [show (8 : Int32) = nI 8 from rfl, pk_mul, pk_byte hu hul (by omega)]
    refine ⟨h.1, 0, 0, hc, hs, sp_put h hb ht (by omega) (fun G1 m1 t1 => ?_)⟩
    rw [nI_1]
    refine ih (p + 1) _ G1 _ _ (by omega) m1.2.1 m1.b t1 (by rw [List.length_append]; show t.length + 1 + k ≤ 128; omega) hc hs (fun G' m2 t2 => hp G' (m1.tr m2) ?_)
    rw [List.append_assoc] at t2
    rw [tx_sub_cons (by omega) he]
    exact t2
theorem sp_putBytes {Post : wo_W → Prop} {u : List Nat} {p e : Nat} (hu : ∀ c ∈ u, c < 256) (hul : u.length ≤ 8) (hpe : p ≤ e) (he : e ≤ u.length) (h : md_k E ow m A G) (hb : ow_b E ow G) (ht : tb_at m A G t) (hl : t.length + 8 ≤ 128) (hp : ∀ G', me E ow m A FT G G' → tb_at m A G' (t ++ tx_sub u p e) → Post G') : pq_Md_putBytes E mc ms Post G m (pk_of u) (nI p) (nI e) := by
  unfold pq_Md_putBytes pq_Md_putBytes_0
  exact ⟨e - p + 1, sp_pbLoop hu hul he (e - p) p t G 0 0 (by omega) h hb ht (by omega) (Nat.zero_le _) (Nat.zero_le _) hp⟩
end MD
