def la_el (G : wo_W) (o : Nat) : Prop := ∃ c : Nat, wo_ty G o = c + 1 ∧ (7, c) ∈ vw_Fit
def la_at (E : wo_E) (G : wo_W) (a v : Nat) (os : List Nat) : Prop := wo_ty G a = 3 ∧ en_bs E ≤ a ∧ wo_gi G 129 a = nI os.length ∧ wo_gr G 128 a = some v ∧ wo_ty G v = 71 ∧ os.length ≤ wo_len G v ∧ wo_len G v ≤ 4096 ∧ (∀ i, i < os.length → wo_er G v i = some (os.getD i 0)) ∧ (v = en_sta E 0 ∧ wo_len G v = 0 ∨ en_bs E ≤ v ∧ 0 < wo_len G v) ∧ ∀ o ∈ os, la_el G o
theorem la_el.ty {G G1 : wo_W} {o : Nat} (h : la_el G o) (e : wo_ty G1 o = wo_ty G o) : la_el G1 o := by
  obtain ⟨c, h1, h2⟩ := h
  exact ⟨c, e.trans h1, h2⟩
theorem la_el.nz {G : wo_W} {o : Nat} (h : la_el G o) : wo_ty G o ≠ 0 := by
  obtain ⟨c, h1, h2⟩ := h
  omega
theorem la_at.eq {E : wo_E} {G G1 : wo_W} {a v : Nat} {os : List Nat} (h : la_at E G a v os) (e : wo_eq G G1 a) (ev : wo_eq G G1 v) (eo : ∀ o ∈ os, wo_ty G1 o = wo_ty G o) : la_at E G1 a v os := by
  obtain ⟨h1, h2, h3, h4, h5, h6, h7, h8, h9, h10⟩ := h
  exact ⟨e.1.trans h1, h2, (e.2.2.1 _).trans h3, (e.2.2.2.2.1 _).trans h4, ev.1.trans h5, by rw [ev.2.1]; exact h6, by rw [ev.2.1]; exact h7, fun i hi => (ev.2.2.2.2.2.2.2 i).trans (h8 i hi), by rw [ev.2.1]; exact h9, fun o ho => (h10 o ho).ty (eo o ho)⟩
theorem la_ne {E : wo_E} {G : wo_W} {a v : Nat} {os : List Nat} (h : la_at E G a v os) : a ≠ v := by
  intro e
  have h1 := h.1
  have h2 := h.2.2.2.2.1
  rw [e] at h1
  omega
section SP
variable {E : wo_E} {mc ms : Nat} {G : wo_W} {a v o : Nat} {os : List Nat}
theorem sp_alSize {Post : Int32 → wo_W → Prop} (h : la_at E G a v os) (hp : Post (nI os.length) G) : pq_Al_size E mc ms Post G a := by
  unfold pq_Al_size pq_Al_size_0
  rw [h.2.2.1]
  exact ⟨h.1, hp⟩
theorem sp_alEmpty {Post : Int32 → wo_W → Prop} (h : la_at E G a v os) (hp : Post (if os = [] then 1 else 0) G) : pq_Al_isEmpty E mc ms Post G a := by
  unfold pq_Al_isEmpty pq_Al_isEmpty_0 pq_Al_isEmpty_12
  have h6 := h.2.2.2.2.2.1
  have h7 := h.2.2.2.2.2.2.1
  rw [h.2.2.1]
  refine ⟨h.1, fun q => ?_, fun q => ?_⟩
  · rw [if_neg (fun e => q (by rw [e]; rfl))] at hp
    exact ⟨tx_ok0, hp⟩
  · have : os = [] := by
      cases os with
      | nil => rfl
      | cons x l => exact absurd q (nI_ne0 (by simp) (by omega))
    rw [if_pos this] at hp
    exact ⟨tx_ok1, hp⟩
theorem sp_obCheck {Post : Int32 → wo_W → Prop} {i n : Nat} (hi : i < n) (hn : n < 2 ^ 31) (hp : Post (nI i) G) : pq_Ob_checkIndex E mc ms Post G (nI i) (nI n) := by
  unfold pq_Ob_checkIndex pq_Ob_checkIndex_0 pq_Pc_checkIndex pq_Pc_checkIndex_0
  exact ⟨0, 0, Nat.zero_le _, Nat.zero_le _, fun h => absurd h (nI_pos (by omega)), fun _ => ⟨fun _ => hp, fun h => absurd (nI_lt hi hn) h⟩⟩
theorem sp_alGet {Post : Option Nat → wo_W → Prop} {i : Nat} (h : la_at E G a v os) (hi : i < os.length) (hp : Post (some (os.getD i 0)) G) : pq_Al_get E mc ms Post G a (nI i) := by
  obtain ⟨h1, h2, h3, h4, h5, h6, h7, h8, h9, h10⟩ := h
  unfold pq_Al_get pq_Al_get_0
  rw [h3]
  refine ⟨h1, 0, 0, Nat.zero_le _, Nat.zero_le _, sp_obCheck hi (by omega) ⟨h1, 0, 0, Nat.zero_le _, Nat.zero_le _, ?_⟩⟩
  unfold pq_Al_elementData pq_Al_elementData_0
  refine ⟨h1, fun r hr => ⟨v, hr.trans h4, h5, vp_in_nI (by omega) (by omega), fun r7 hr7 => ?_⟩⟩
  rw [hr7, nI_clamp (by omega), h8 i hi]
  exact hp
theorem sp_alAdd11 {Post : wo_W → Prop} {c s : Nat} (h : la_at E G a v os) (hvb : en_bs E ≤ v) (hlt : os.length < wo_len G v) (ho : la_el G o) (hoa : o ≠ a) (hov : o ≠ v)
    (hp : ∀ G' : wo_W, la_at E G' a v (os ++ [o]) → fr_W (fun x => x = a ∨ x = v) G G' → wo_len G' v = wo_len G v → Post G') : pq_Al_add_OaOI_11 E mc ms Post G c s a (some o) (some v) (nI os.length) := by
  have hav := la_ne h
  obtain ⟨h1, h2, h3, h4, h5, h6, h7, h8, h9, h10⟩ := h
  unfold pq_Al_add_OaOI_11
  refine ⟨v, rfl, h5, vp_in_nI hlt (by omega), hvb, fun x hx => (by cases hx; exact ho), fun G1 e1 => ?_⟩
  rw [nI_clamp (by omega)] at e1
  have ha1 : wo_eq G G1 a := by rw [e1]; exact (wo_set_r (ty := .array .int) rfl).1 a hav
  refine ⟨ha1.1.trans h1, h2, fun G2 e2 => ?_⟩
  rw [nI_1] at e2
  have hv2 : wo_eq G1 G2 v := by rw [e2]; exact (wo_put_i (ty := .int) rfl).1 v (fun q => hav q.symm)
  have hty : ∀ x, wo_ty G2 x = wo_ty G x := fun x => by rw [e2, e1]; rfl
  have hl2 : wo_len G2 v = wo_len G v := by rw [e2, e1]; rfl
  have her : ∀ i, wo_er G2 v i = if i = os.length then some o else wo_er G v i := by
    intro i
    rw [hv2.2.2.2.2.2.2.2 i, e1]
    by_cases q : i = os.length <;> simp [wo_er, wo_ser, wo_u2, q]
  refine hp G2 ⟨by rw [hty]; exact h1, h2, by rw [e2, List.length_append]; simp [wo_gi, wo_si, wo_u2], by rw [e2, e1]; exact h4, by rw [hty]; exact h5, by rw [hl2, List.length_append]; exact hlt, by rw [hl2]; exact h7, fun i hi => ?_, Or.inr ⟨hvb, by rw [hl2]; omega⟩, fun x hx => ?_⟩ ⟨fun x _ => hty x, fun x hx hx2 => ?_⟩ hl2
  · rw [List.length_append] at hi
    have hi : i < os.length + 1 := hi
    rw [her]
    by_cases q : i = os.length
    · rw [if_pos q, q, tx_getEnd]
    · rw [if_neg q, tx_getApp1 (by omega)]
      exact h8 i (by omega)
  · rcases List.mem_append.mp hx with q | q
    · exact (h10 x q).ty (hty x)
    · rw [List.mem_singleton.mp q]
      exact ho.ty (hty o)
  · rw [e2, e1]
    exact ((wo_set_r (ty := .array .int) rfl).1 x (fun q => hx2 (Or.inr q))).tr ((wo_put_i (ty := .int) rfl).1 x (fun q => hx2 (Or.inl q)))
end SP
