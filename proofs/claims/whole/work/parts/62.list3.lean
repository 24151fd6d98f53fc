theorem la_erase {os : List Nat} {i k : Nat} : (os.eraseIdx i).getD k 0 = if k < i then os.getD k 0 else os.getD (k + 1) 0 := by
  rw [List.getD_eq_getElem?_getD, List.getElem?_eraseIdx]
  by_cases q : k < i
  · rw [if_pos q, if_pos q, List.getD_eq_getElem?_getD]
  · rw [if_neg q, if_neg q, List.getD_eq_getElem?_getD]
section SP
variable {E : wo_E} {mc ms : Nat} {G : wo_W} {a v o : Nat} {os : List Nat}
theorem sp_alRemove {Post : Option Nat → wo_W → Prop} {i : Nat} (h : la_at E G a v os) (hi : i < os.length)
    (hp : ∀ G' : wo_W, la_at E G' a v (os.eraseIdx i) → fr_W (fun x => x = a ∨ x = v) G G' → wo_len G' v = wo_len G v → Post (some (os.getD i 0)) G') : pq_Al_remove E mc ms Post G a (nI i) := by
  have hav := la_ne h
  have hh := h
  obtain ⟨k1, k2, k3, k4, k5, k6, k7, k8, k9, k10⟩ := hh
  have hvb : en_bs E ≤ v := k9.elim (fun q => absurd q.2 (by omega)) (fun q => q.1)
  have hlen : (os.eraseIdx i).length = os.length - 1 := List.length_eraseIdx_of_lt hi
  unfold pq_Al_remove pq_Al_remove_0
  rw [k3]
  refine ⟨k1, 0, 0, Nat.zero_le _, Nat.zero_le _, sp_obCheck hi (by omega) ⟨k1, fun r hr => ⟨v, hr.trans k4, k5, vp_in_nI (by omega) (by omega), fun r12 hr12 => ⟨0, 0, Nat.zero_le _, Nat.zero_le _, ?_⟩⟩⟩⟩
  rw [nI_clamp (by omega), k8 i hi] at hr12
  rw [hr12]
  unfold pq_Al_fastRemove pq_Al_fastRemove_0
  have fin : ∀ (G2 : wo_W), (∀ x, wo_ty G2 x = wo_ty G x) → wo_len G2 v = wo_len G v → wo_gr G2 128 a = some v → (∀ k, k < os.length - 1 → wo_er G2 v k = some ((os.eraseIdx i).getD k 0)) → fr_W (fun x => x = a ∨ x = v) G G2 → pq_Al_fastRemove_34 E 0 0 (fun G16 => Post (some (os.getD i 0)) G16) G2 0 0 a (some v) (nI (os.length - 1)) := by
    intro G2 hty hl hgr her hfr
    unfold pq_Al_fastRemove_34
    refine ⟨by rw [hty]; exact k1, k2, fun G3 e3 => ⟨v, rfl, by rw [e3]; exact (hty v).trans k5, ?_, hvb, fun G4 e4 => ?_⟩⟩
    · rw [e3]
      show vp_in _ (wo_len G2 v)
      rw [hl]
      exact vp_in_nI (by omega) (by omega)
    · rw [nI_clamp (by omega)] at e4
      have hty4 : ∀ x, wo_ty G4 x = wo_ty G x := fun x => by rw [e4, e3]; exact hty x
      have hl4 : wo_len G4 v = wo_len G v := by rw [e4, e3]; exact hl
      have her4 : ∀ k, k < os.length - 1 → wo_er G4 v k = wo_er G2 v k := by
        intro k hk
        rw [e4, e3]
        have q : ¬ k = os.length - 1 := by omega
        simp [wo_er, wo_ser, wo_u2, wo_si, q]
      refine hp G4 ⟨by rw [hty4]; exact k1, k2, ?_, ?_, by rw [hty4]; exact k5, by rw [hl4, hlen]; omega, by rw [hl4]; exact k7, fun k hk => ?_, Or.inr ⟨hvb, by rw [hl4]; omega⟩, fun x hx => (k10 x (List.mem_of_mem_eraseIdx hx)).ty (hty4 x)⟩ ?_ hl4
      · rw [e4, e3, hlen]; simp [wo_gi, wo_ser, wo_si, wo_u2]
      · rw [e4, e3]; exact hgr
      · rw [hlen] at hk
        rw [her4 k hk]
        exact her k hk
      · refine fr_tr hfr ?_
        rw [e4, e3]
        exact fr_tr (fr_si (Or.inl rfl)) (fr_ser (Or.inr rfl))
  refine ⟨k1, k2, fun G1 e1 => ?_⟩
  have hg : wo_gi G1 129 a - (1 : Int32) = nI (os.length - 1) := by
    have : wo_gi G1 129 a = nI os.length := by rw [e1]; simp [wo_gi, wo_si, wo_u2]; exact k3
    rw [this, show (1 : Int32) = nI 1 by decide, pk_sub (by omega)]
  have hty1 : ∀ x, wo_ty G1 x = wo_ty G x := fun x => by rw [e1]; rfl
  have hl1 : wo_len G1 v = wo_len G v := by rw [e1]; rfl
  have her1 : ∀ k, wo_er G1 v k = wo_er G v k := fun k => by rw [e1]; rfl
  have hgr1 : wo_gr G1 128 a = some v := by rw [e1]; exact k4
  have hfr1 : fr_W (fun x => x = a ∨ x = v) G G1 := by rw [e1]; exact fr_si (Or.inl rfl)
  rw [hg]
  refine ⟨fun q => ?_, fun q => ?_⟩
  · have q2 := (nI_leI (by omega) (by omega)).mp q
    refine fin G1 hty1 hl1 hgr1 (fun k hk => ?_) hfr1
    rw [her1, k8 k (by omega), la_erase, if_pos (by omega)]
  · have q2 : i < os.length - 1 := by
      rcases Nat.lt_or_ge i (os.length - 1) with z | z
      · exact z
      · exact absurd (nI_le z (by omega)) q
    rw [nI_1, pk_sub (by omega), nI_clamp (by omega), nI_clamp (by omega), nI_clamp (by omega)]
    refine ⟨v, rfl, by rw [hty1]; exact k5, nI_pos (by omega), nI_pos (by omega), nI_pos (by omega), by rw [hl1]; omega, by rw [hl1]; omega, hvb, fun k hk => ?_, fun G2 e2 => ?_⟩
    · rw [her1, k8 _ (by omega)]
      intro x hx
      cases hx
      exact (k10 _ (tx_mem (by omega))).ty (hty1 _)
    · refine fin G2 (fun x => by rw [e2]; exact hty1 x) (by rw [e2]; exact hl1) (by rw [e2]; exact hgr1) (fun k hk => ?_) ?_
      · rw [e2, wo_er_cp, la_erase]
        by_cases z : k < i
        · rw [pk_cpy_out (Or.inl z), if_pos z, her1, k8 k (by omega)]
        · rw [pk_cpy_in (by omega) (by omega), if_neg z, her1, show i + 1 + (k - i) = k + 1 by omega, k8 _ (by omega)]
      · refine fr_tr hfr1 ?_
        rw [e2]
        exact fr_cpR (Or.inr rfl)
theorem sp_alInit {Post : wo_W → Prop} (h : wo_ty G a = 3) (hb : en_bs E ≤ a) (h0 : wo_gi G 129 a = 0) (hst : wo_ty G (en_sta E 0) = 71 ∧ wo_len G (en_sta E 0) = 0) (hsa : en_sta E 0 ≠ a)
    (hp : ∀ G' : wo_W, la_at E G' a (en_sta E 0) [] → fr_W (fun x => x = a) G G' → (∀ x, wo_ty G' x = wo_ty G x) → Post G') : pq_Al_init E mc ms Post G a := by
  unfold pq_Al_init pq_Al_init_0 pq_At_init pq_At_init_0 pq_Ac_init pq_Ac_init_0
  refine ⟨h, 0, 0, Nat.zero_le _, Nat.zero_le _, h, 0, 0, Nat.zero_le _, Nat.zero_le _, h, hb, fun G1 e1 => ⟨by rw [e1]; exact h, hb, fun G2 e2 => ?_⟩⟩
  have hty : ∀ x, wo_ty G2 x = wo_ty G x := fun x => by rw [e2, e1]; rfl
  refine hp G2 ⟨by rw [hty]; exact h, hb, ?_, ?_, by rw [hty]; exact hst.1, Nat.zero_le _, ?_, fun i hi => absurd hi (Nat.not_lt_zero _), Or.inl ⟨rfl, ?_⟩, fun x hx => absurd hx (by simp)⟩ ?_ hty
  · rw [e2, e1]; simp [wo_gi, wo_sr, wo_si, wo_u2]; exact h0
  · rw [e2]; simp [wo_gr, wo_sr, wo_u2]
  · rw [e2, e1]; show wo_len G (en_sta E 0) ≤ 4096; rw [hst.2]; omega
  · rw [e2, e1]; exact hst.2
  · rw [e2, e1]; exact fr_tr (fr_si rfl) (fr_sr rfl)
theorem sp_sbInit {Post : wo_W → Prop} (h : wo_ty G a = 5) (hb : en_bs E ≤ a) (h0 : wo_gi G 259 a = 0) (h1 : 1 ≤ mc) (h2 : 16 ≤ ms)
    (hp : ∀ (v : Nat) (G' : wo_W), wo_ty G v = 0 → sg_at E G' a v [] → fr_W (fun x => x = a) G G' → wo_len G' v = 16 → Post G') : pq_SB_init E mc ms Post G a := by
  unfold pq_SB_init pq_SB_init_0 pq_AB_init pq_AB_init_0
  refine ⟨h, 1, 16, by omega, by omega, by decide, by decide, by decide, by decide, fun v hv hvb G1 e1 => ?_⟩
  have hav : a ≠ v := fun q => by rw [q, hv] at h; cases h
  have ha1 : wo_eq G G1 a := by rw [e1]; exact wo_eq_na hav
  refine ⟨ha1.1.trans h, hb, fun G2 e2 => ⟨hb, tx_okb, fun G3 e3 => ?_⟩⟩
  have hv3 : wo_eq G1 G3 v := by
    rw [e3, e2]
    exact ((wo_put_r (ty := .array .int) rfl).1 v (fun q => hav q.symm)).tr ((wo_put_i (ty := .int) rfl).1 v (fun q => hav q.symm))
  have hl : wo_len G1 v = 16 := by rw [e1]; simp [wo_len, wo_na, wo_u1]
  have hP : tx_P G1 v [] := by
    refine ⟨by rw [e1]; exact ty_naq rfl, Nat.zero_le _, fun i hi => absurd hi (Nat.not_lt_zero _), fun i hi => ?_⟩
    have : wo_ei G1 v i = 0 := by rw [e1]; simp [wo_ei, wo_na, wo_ur]
    rw [this]
    rfl
  refine hp v G3 hv ⟨?_, hb, ?_, ?_, ?_, hP.eq hv3, hvb, by rw [hv3.2.1, hl]; omega, fun c hc => absurd hc (by simp)⟩ ?_ (by rw [hv3.2.1, hl])
  · rw [e3, e2]; exact ha1.1.trans h
  · rw [e3]; simp [wo_gi, wo_si, wo_u2]
  · rw [e3, e2]
    have : wo_gi G1 259 a = 0 := (ha1.2.2.1 259).trans h0
    simp [wo_gi, wo_si, wo_sr, wo_u2] at this ⊢
    exact this
  · rw [e3, e2]; simp [wo_gr, wo_si, wo_sr, wo_u2]
  · refine fr_tr (W := fun x => x = a) (G1 := G1) (by rw [e1]; exact fr_na hv) ?_
    rw [e3, e2]
    exact fr_tr (fr_sr rfl) (fr_si rfl)
end SP
