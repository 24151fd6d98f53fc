theorem wo_er_cp {G : wo_W} {a b sp dp n i : Nat} : wo_er (wo_cpR G a b sp dp n) b i = va_cpy (wo_er G a) (wo_er G b) sp dp n i := by simp [wo_er, wo_cpR, wo_ur]
section SP
variable {E : wo_E} {mc ms : Nat} {G : wo_W} {a v o : Nat} {os : List Nat}
theorem sp_alGrow {Post : Option Nat → wo_W → Prop} (h : la_at E G a v os) (hfull : os.length = wo_len G v) (hn : os.length + 1 ≤ 1000) (h1 : 1 ≤ mc) (h2 : max 10 (2 * (os.length + 1)) ≤ ms)
    (hp : ∀ (w : Nat) (G' : wo_W), la_at E G' a w os → wo_ty G w = 0 → en_bs E ≤ w → fr_W (fun x => x = a) G G' → os.length < wo_len G' w → wo_len G' w ≤ max 10 (2 * (os.length + 1)) → Post (some w) G') : pq_Al_grow_ E mc ms Post G a := by
  have hh := h
  obtain ⟨k1, k2, k3, k4, k5, k6, k7, k8, k9, k10⟩ := hh
  unfold pq_Al_grow_ pq_Al_grow__0
  rw [k3, nI_1]
  refine ⟨k1, mc, ms, by omega, by omega, ?_⟩
  unfold pq_Al_grow_I pq_Al_grow_I_0
  have fin : ∀ (w : Nat) (G1 G2 : wo_W) (C : Nat), wo_ty G w = 0 → en_bs E ≤ w → fr_W fr_0 G G1 → wo_ty G1 w = 71 → wo_len G1 w = C → os.length < C → C ≤ max 10 (2 * (os.length + 1)) → (∀ i, i < os.length → wo_er G1 w i = some (os.getD i 0)) → G2 = wo_sr G1 128 a (some w) → Post (some w) G2 := by
    intro w G1 G2 C hw hwb hf ht hl hC hC2 hel e2
    have hwa : w ≠ a := fun q => by rw [q, k1] at hw; cases hw
    have ha1 := hf.2 a (by omega) (fun q => q)
    have hw2 : wo_eq G1 G2 w := by rw [e2]; exact (wo_put_r (ty := .array .int) rfl).1 w hwa
    refine hp w G2 ⟨by rw [e2]; exact ha1.1.trans k1, k2, by rw [e2]; exact (ha1.2.2.1 _).trans k3, by rw [e2]; simp [wo_gr, wo_sr, wo_u2], hw2.1.trans ht, by rw [hw2.2.1, hl]; omega, by rw [hw2.2.1, hl]; omega, fun i hi => (hw2.2.2.2.2.2.2.2 i).trans (hel i hi), Or.inr ⟨hwb, by rw [hw2.2.1, hl]; omega⟩, fun x hx => (k10 x hx).ty ?_⟩ hw hwb ⟨fun x hx => by rw [e2]; exact hf.1 x hx, fun x hx hx2 => ?_⟩ (by rw [hw2.2.1, hl]; exact hC) (by rw [hw2.2.1, hl]; exact hC2)
    · rw [e2]; exact (hf.2 x (k10 x hx).nz (fun q => q)).1
    · rw [e2]; exact (hf.2 x hx (fun q => q)).tr ((wo_put_r (ty := .array .int) rfl).1 x hx2)
  refine ⟨k1, fun r hr => ⟨v, hr.trans k4, k5, fun hpos => ?_, fun hz => ?_⟩⟩
  · have hpos2 : 0 < wo_len G v := by
      apply Nat.pos_of_ne_zero
      intro q
      rw [q] at hpos
      exact absurd hpos (by decide)
    have hvb : en_bs E ≤ v := k9.elim (fun q => absurd q.2 (by omega)) (fun q => q.1)
    unfold pq_Al_grow_I_20
    refine ⟨0, 0, by omega, by omega, ?_⟩
    rw [pk_sub (by omega), pk_shrN (by omega) _ 1 (by decide)]
    unfold pq_As_newLength pq_As_newLength_0
    rw [nI_max (by omega) (by omega), nI_add]
    generalize hC : wo_len G v + max (os.length + 1 - wo_len G v) (wo_len G v / 2 ^ 1) = C
    have hC3 : os.length < C ∧ C ≤ 2 * (os.length + 1) := by omega
    refine ⟨fun q => absurd q (nI_nle (by omega) (by omega)), fun _ => ⟨fun q => absurd q (nI_nlt (a := 2147483639) (by omega) (by omega)), fun _ => ⟨k1, fun r6 hr6 => ⟨mc, ms, by omega, by omega, ?_⟩⟩⟩⟩
    rw [hr6, k4]
    unfold pq_Ar_copyOf_aOI pq_Ar_copyOf_aOI_0
    refine ⟨v, rfl, k5, hvb, mc, ms, by omega, by omega, ?_⟩
    unfold pq_Ar_copyOf_aOIO pq_Ar_copyOf_aOIO_0
    refine ⟨fun q => absurd rfl q, fun _ => ⟨nI_pos (by omega), ?_⟩⟩
    rw [nI_clamp (by omega)]
    refine ⟨by omega, by omega, by omega, fun w hw hwb G1 e1 => ?_⟩
    have hfr1 : fr_W fr_0 G G1 := by rw [e1]; exact fr_na hw
    have hv1 := hfr1.2 v (by omega) (fun q => q)
    have ha1 := hfr1.2 a (by omega) (fun q => q)
    have hwa : w ≠ a := fun q => by rw [q, k1] at hw; cases hw
    have hwv : w ≠ v := fun q => by rw [q, k5] at hw; cases hw
    have hwl : wo_len G1 w = C := by rw [e1]; simp [wo_len, wo_na, wo_u1]
    have hmin : wo_min (nI (wo_len G1 v)) (nI C) = nI (wo_len G v) := by
      rw [hv1.2.1, nI_min (by omega) (by omega), Nat.min_eq_left (by omega)]
    refine ⟨v, rfl, hv1.1.trans k5, by decide, by decide, ?_⟩
    rw [hmin, nI_clamp (by omega), sb_cl0, hwl, hv1.2.1]
    refine ⟨nI_pos (by omega), by omega, by omega, hwb, fun i hi => ?_, fun G2 e2 => ?_⟩
    · rw [Nat.zero_add, hv1.2.2.2.2.2.2.2 i, k8 i (by omega)]
      intro x hx
      cases hx
      have hm := tx_mem (t := os) (i := i) (by omega)
      exact (k10 _ hm).ty (hfr1.2 _ (k10 _ hm).nz (fun q => q)).1
    · have ha2 : wo_eq G1 G2 a := by rw [e2]; exact wo_eq_cpR (fun q => hwa q.symm)
      refine ⟨ha2.1.trans (ha1.1.trans k1), k2, fun G3 e3 => ?_⟩
      refine fin w G2 G3 C hw hwb ⟨fun x hx => by rw [e2]; exact hfr1.1 x hx, fun x hx _ => ?_⟩ (by rw [e2]; show wo_ty G1 w = 71; rw [e1]; exact ty_naq rfl) (by rw [e2]; exact hwl) (by omega) (by omega) (fun i hi => ?_) e3
      · have hxw : x ≠ w := fun q => hx (by rw [q]; exact hw)
        rw [e2]
        exact (hfr1.2 x hx (fun q => q)).tr (wo_eq_cpR hxw)
      · rw [e2, wo_er_cp, pk_cpy_in (Nat.zero_le _) (by omega), Nat.sub_zero, Nat.zero_add, hv1.2.2.2.2.2.2.2 i]
        exact k8 i hi
  · have hl0 : wo_len G v = 0 := by
      apply Nat.eq_zero_of_not_pos
      intro q
      exact hz (nI_lt (a := 0) (b := wo_len G v) q (by omega))
    have hv : v = en_sta E 0 := k9.elim (fun q => q.1) (fun q => absurd q.2 (by omega))
    intro r6 hr6
    rw [hr6, k4, hv]
    refine ⟨fun _ => ?_, fun q => absurd rfl q⟩
    have e10 : wo_max (10 : Int32) (nI (os.length + 1)) = nI 10 := by
      have h10 : (10 : Int32) = nI 10 := by decide
      rw [h10, nI_max (by decide) (by omega), Nat.max_eq_left (by omega)]
    rw [e10, nI_clamp (by decide)]
    refine ⟨by decide, by omega, by omega, by omega, fun w hw hwb G1 e1 => ⟨k2, fun G2 e2 => ?_⟩⟩
    exact fin w G1 G2 10 hw hwb (by rw [e1]; exact fr_na hw) (by rw [e1]; exact ty_naq rfl) (by rw [e1]; simp [wo_len, wo_na, wo_u1]) (by omega) (by omega) (fun i hi => absurd hi (by omega)) e2
theorem sp_alAdd {Post : Int32 → wo_W → Prop} (h : la_at E G a v os) (ho : la_el G o) (hoa : o ≠ a) (hov : o ≠ v) (hn : os.length + 1 ≤ 1000) (h1 : 1 ≤ mc) (h2 : max 10 (2 * (os.length + 1)) ≤ ms)
    (hp : ∀ (w : Nat) (G' : wo_W), la_at E G' a w (os ++ [o]) → (w = v ∨ wo_ty G w = 0) → en_bs E ≤ w → fr_W (fun x => x = a ∨ x = v ∧ en_bs E ≤ v) G G' → wo_len G' w ≤ max (wo_len G v) (max 10 (2 * (os.length + 1))) → Post 1 G') : pq_Al_add_O E mc ms Post G a (some o) := by
  have hav := la_ne h
  have hh := h
  obtain ⟨k1, k2, k3, k4, k5, k6, k7, k8, k9, k10⟩ := hh
  unfold pq_Al_add_O pq_Al_add_O_0
  refine ⟨k1, k2, fun G1 e1 r hr => ⟨mc, ms, by omega, by omega, ?_⟩⟩
  have hfr1 : fr_W (fun x => x = a ∨ x = v ∧ en_bs E ≤ v) G G1 := by rw [e1]; exact fr_si (Or.inl rfl)
  have hty1 : ∀ x, wo_ty G1 x = wo_ty G x := fun x => by rw [e1]; rfl
  have hv1 : wo_eq G G1 v := by rw [e1]; exact (wo_put_i (ty := .int) rfl).1 v (fun q => hav q.symm)
  have kk : la_at E G1 a v os := by
    refine ⟨by rw [hty1]; exact k1, k2, by rw [e1]; simp [wo_gi, wo_si, wo_u2]; exact k3, by rw [e1]; exact k4, hv1.1.trans k5, by rw [hv1.2.1]; exact k6, by rw [hv1.2.1]; exact k7, fun i hi => (hv1.2.2.2.2.2.2.2 i).trans (k8 i hi), by rw [hv1.2.1]; exact k9, fun x hx => (k10 x hx).ty (hty1 x)⟩
  have ho1 : la_el G1 o := ho.ty (hty1 o)
  rw [hr, kk.2.2.2.1, kk.2.2.1]
  unfold pq_Al_add_OaOI pq_Al_add_OaOI_0
  refine ⟨v, rfl, kk.2.2.2.2.1, fun q => ?_, fun q => ⟨kk.1, mc, ms, by omega, by omega, ?_⟩⟩
  · rw [hv1.2.1] at q
    have hlt : os.length < wo_len G v := by
      rcases Nat.lt_or_ge os.length (wo_len G v) with q2 | q2
      · exact q2
      · exact absurd (by rw [show os.length = wo_len G v by omega]) q
    have hvb : en_bs E ≤ v := k9.elim (fun q => absurd q.2 (by omega)) (fun q => q.1)
    refine sp_alAdd11 kk hvb (by rw [hv1.2.1]; exact hlt) ho1 hoa hov (fun G2 hl hf hln => ?_)
    exact hp v G2 hl (Or.inl rfl) hvb (fr_tr hfr1 (fr_mn (fun x _ q => q.elim Or.inl (fun q => Or.inr ⟨q, hvb⟩)) hf)) (by rw [hln, hv1.2.1]; omega)
  · rw [hv1.2.1] at q
    have hfull : os.length = wo_len G1 v := by rw [hv1.2.1]; exact (nI_eq (by omega) (by omega)).mp q
    refine sp_alGrow kk hfull hn h1 h2 (fun w G2 hl2 hw hwb hf2 hlt hle => ?_)
    have hw0 : wo_ty G w = 0 := by rw [← hty1]; exact hw
    have ho2 : la_el G2 o := ho1.ty (hf2.2 o ho1.nz hoa).1
    have how : o ≠ w := fun q2 => ho.nz (by rw [q2]; exact hw0)
    refine sp_alAdd11 hl2 hwb hlt ho2 hoa how (fun G3 hl3 hf3 hln => ?_)
    refine hp w G3 hl3 (Or.inr hw0) hwb ⟨ky_tr hfr1.1 (ky_tr hf2.1 hf3.1), fun x hx hx2 => ?_⟩ (by rw [hln]; omega)
    have hxa : x ≠ a := fun q2 => hx2 (Or.inl q2)
    have hxw : x ≠ w := fun q2 => hx (by rw [q2]; exact hw0)
    have e12 := hfr1.2 x hx hx2
    have e23 := hf2.2 x (by rw [e12.1]; exact hx) hxa
    exact (e12.tr e23).tr (hf3.2 x (by rw [e23.1, e12.1]; exact hx) (fun q2 => q2.elim hxa hxw))
end SP
