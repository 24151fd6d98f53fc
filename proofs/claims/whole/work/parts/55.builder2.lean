theorem tx_getApp1 {t : List Nat} {c i : Nat} (h : i < t.length) : (t ++ [c]).getD i 0 = t.getD i 0 := by
  rw [List.getD_eq_getElem?_getD, List.getD_eq_getElem?_getD, List.getElem?_append_left h]
theorem tx_getApp2 {t u : List Nat} {i : Nat} (h : i < t.length) : (t ++ u).getD i 0 = t.getD i 0 := by
  rw [List.getD_eq_getElem?_getD, List.getD_eq_getElem?_getD, List.getElem?_append_left h]
theorem tx_getApp3 {t u : List Nat} {i : Nat} (h : t.length ≤ i) : (t ++ u).getD i 0 = u.getD (i - t.length) 0 := by
  rw [List.getD_eq_getElem?_getD, List.getD_eq_getElem?_getD, List.getElem?_append_right h]
theorem tx_getEnd {t : List Nat} {c : Nat} : (t ++ [c]).getD t.length 0 = c := by
  rw [tx_getApp3 (Nat.le_refl _), Nat.sub_self]; rfl
section SP
variable {E : wo_E} {mc ms : Nat} {G : wo_W} {a v : Nat} {t u : List Nat}
theorem sp_appendC {Post : Option Nat → wo_W → Prop} {c : Nat} (h : sg_at E G a v t) (hc : c < 256) (hn : t.length + 1 ≤ 4096) (h1 : 1 ≤ mc) (h2 : 2 * (t.length + 1) ≤ ms)
    (hp : ∀ (w : Nat) (G' : wo_W), sg_at E G' a w (t ++ [c]) → (w = v ∨ wo_ty G w = 0) → fr_W (sg_W a v) G G' → wo_len G' w ≤ max (wo_len G v) (2 * (t.length + 1)) → Post (some a) G') : pq_SB_append_C E mc ms Post G a (nI c) := by
  have hh := h
  obtain ⟨g1, g2, g3, g4, g5, g6, g7, g8, g9⟩ := hh
  unfold pq_SB_append_C pq_SB_append_C_0
  refine ⟨g1, mc, ms, by omega, by omega, ?_⟩
  unfold pq_AB_append_C pq_AB_append_C_0
  refine ⟨g1, mc, ms, by omega, by omega, ?_⟩
  rw [g4, nI_1]
  refine sp_ensure h hn h1 h2 (fun w G1 k hw hfr hl1 hl2 => ?_)
  have kk := k
  obtain ⟨k1, k2, k3, k4, k5, k6, k7, k8, k9⟩ := kk
  have haw : a ≠ w := sg_ne k
  refine ⟨k1, 0, 0, by omega, by omega, sp_abLatin1 k1 k3 ⟨fun q => absurd q (by decide), fun _ => ⟨0, 0, by omega, by omega, ?_⟩⟩⟩
  unfold pq_La_canEncode_C pq_La_canEncode_C_0 pq_La_canEncode_C_12
  refine ⟨fun q => absurd q (nI_nlt (a := 255) (b := c) (by omega) (by omega)), fun _ => ⟨tx_ok1, fun q => absurd q (by decide), fun _ => ⟨k1, fun r hr => ⟨k2, fun G2 e2 => ?_⟩⟩⟩⟩
  rw [k4, nI_1] at e2
  have hw2 : wo_eq G1 G2 w := by rw [e2]; exact (wo_put_i (ty := .int) rfl).1 w (fun q => haw q.symm)
  refine ⟨w, hr.trans k5, hw2.1.trans k6.1, ?_, k7, fun G3 e3 => ?_⟩
  · rw [hw2.2.1, k4]; exact vp_in_nI (by omega) (by omega)
  rw [k4, nI_clamp (by omega), pk_vb] at e3
  have ha3 : ∀ f, wo_gi G3 f a = wo_gi G2 f a := fun f => by rw [e3]; rfl
  have hl3 : wo_len G3 w = wo_len G1 w := by rw [e3]; exact hw2.2.1
  have hlt := k6.2.1
  refine hp w G3 ⟨by rw [e3, e2]; exact k1, k2, ?_, ?_, by rw [e3, e2]; exact k5, ⟨by rw [e3]; exact hw2.1.trans k6.1, ?_, fun i hi => ?_, fun i hi => ?_⟩, k7, by rw [hl3]; exact k8, ?_⟩ hw ?_ (by rw [hl3]; exact hl2)
  · rw [ha3, e2]; simp [wo_gi, wo_si, wo_u2]; exact k3
  · rw [ha3, e2]; simp [wo_gi, wo_si, wo_u2]
  · rw [hl3, List.length_append]; exact hl1
  · rw [List.length_append] at hi
    have hi : i < t.length + 1 := hi
    by_cases hit : i = t.length
    · rw [hit, tx_getEnd, e3]
      simp [wo_ei, wo_sei, wo_u2]
      rfl
    · have : wo_ei G3 w i = wo_ei G2 w i := by rw [e3]; simp [wo_ei, wo_sei, wo_u2, hit]
      rw [this, hw2.2.2.2.2.2.1 i, tx_getApp1 (by omega)]
      exact k6.2.2.1 i (by omega)
  · rw [hl3] at hi
    by_cases hit : i = t.length
    · have : wo_ei G3 w i = (nI c).toInt8.toInt32 := by rw [e3, hit]; simp [wo_ei, wo_sei, wo_u2]
      rw [this]; exact pk_fb _
    · have : wo_ei G3 w i = wo_ei G2 w i := by rw [e3]; simp [wo_ei, wo_sei, wo_u2, hit]
      rw [this, hw2.2.2.2.2.2.1 i]
      exact k6.2.2.2 i hi
  · intro x hx
    rcases List.mem_append.mp hx with q | q
    · exact k9 x q
    · rw [List.mem_singleton.mp q]; exact hc
  · refine ⟨fun x hx => by rw [e3, e2]; exact hfr.1 x hx, fun x hx hx2 => ?_⟩
    have hxa : x ≠ a := fun q => hx2 (Or.inl q)
    have hxw : x ≠ w := by
      intro q
      rcases hw with q2 | q2
      · exact hx2 (Or.inr (q.trans q2))
      · exact hx (by rw [q]; exact q2)
    rw [e3, e2]
    exact (hfr.2 x hx hx2).tr (((wo_put_i (ty := .int) rfl).1 x hxa).tr ((wo_set_i (ty := .int) rfl).1 x hxw))
theorem sp_sbLength {Post : Int32 → wo_W → Prop} (h : sg_at E G a v t) (hp : Post (nI t.length) G) : pq_SB_length E mc ms Post G a := by
  unfold pq_SB_length pq_SB_length_0 pq_AB_length pq_AB_length_0
  refine ⟨h.1, 0, 0, by omega, by omega, h.1, ?_⟩
  rw [h.2.2.2.1]
  exact hp
theorem sp_toString {Post : Option Nat → wo_W → Prop} (h : sg_at E G a v t) (hn : t.length ≤ 4096) (h1 : 2 ≤ mc) (h2 : t.length + 4 ≤ ms)
    (hp : ∀ (q : Nat) (G' : wo_W), wo_ty G q = 0 → en_bs E ≤ q → fr_W fr_0 G G' → tx_S G' q t → (∀ b', wo_gr G' 576 q = some b' → wo_ty G b' = 0 ∧ en_bs E ≤ b') → Post (some q) G') : pq_SB_toString E mc ms Post G a := by
  have hh := h
  obtain ⟨g1, g2, g3, g4, g5, g6, g7, g8, g9⟩ := hh
  unfold pq_SB_toString pq_SB_toString_0
  refine ⟨by omega, by omega, fun q hq hqb G1 e1 => ⟨mc - 1, ms - 4, by omega, by omega, ?_⟩⟩
  have hfr1 : fr_W fr_0 G G1 := by rw [e1]; exact fr_new hq
  have hv0 := g6.1
  have ha1 := hfr1.2 a (by omega) (fun q => q)
  have hv1 := hfr1.2 v (by omega) (fun q => q)
  have k := h.eq ha1 hv1
  have hq1 : wo_ty G1 q = 10 := by rw [e1]; exact ty_newq rfl
  unfold pq_St_init_O pq_St_init_O_0
  refine ⟨hq1, mc - 1, ms - 4, by omega, by omega, ?_⟩
  unfold pq_St_init_OO pq_St_init_OO_0
  refine ⟨a, rfl, k.1, 0, 0, by omega, by omega, ?_⟩
  unfold pq_AB_getValue pq_AB_getValue_0
  refine ⟨k.1, fun r hr => ⟨k.1, 0, 0, by omega, by omega, sp_sbLength k ⟨k.1, 0, 0, by omega, by omega, sp_abLatin1 k.1 k.2.2.1 ⟨fun q => absurd q (by decide), fun _ => ⟨hq1, hqb, tx_okb, fun G2 e2 => ⟨mc - 1, ms - 4, by omega, by omega, ?_⟩⟩⟩⟩⟩⟩
  rw [hr, k.2.2.2.2.1, ← nI_0]
  have hqv : v ≠ q := fun q2 => by rw [q2, hq] at hv0; cases hv0
  have hv2 : wo_eq G1 G2 v := by rw [e2]; exact (wo_put_i (ty := .int) rfl).1 v hqv
  have hP2 := k.2.2.2.2.2.1.eq hv2
  have hq2 : wo_ty G2 q = 10 := by rw [e2]; exact hq1
  have hl2 : wo_len G2 v = wo_len G v := hv2.2.1.trans hv1.2.1
  refine sp_copyRange hP2 (by omega) (Nat.zero_le _) (Nat.le_refl _) (fun _ _ => g7) (by omega) (by omega) (fun w G3 hw hwb hfr3 hB => ?_)
  rw [tx_sub_all] at hB
  have hwq : w ≠ q := fun q2 => by rw [q2, hq2] at hw; cases hw
  have hw0 : wo_ty G w = 0 := by
    rw [e2, e1] at hw
    have : wo_ty (wo_new G q 10) w = 0 := hw
    simpa [wo_ty, wo_new, wo_u1, hwq] using this
  have hq3 := hfr3.2 q (by omega) (fun q => q)
  refine ⟨hq3.1.trans hq2, hqb, fun G4 e4 => ?_⟩
  unfold pq_St_init_OO_97
  have hw4 : wo_eq G3 G4 w := by rw [e4]; exact (wo_put_r (ty := .array .int) rfl).1 w hwq
  refine hp q G4 hq hqb ⟨fun x hx => by rw [e4]; exact (hfr3.1 x (by rw [e2]; show wo_ty G1 x ≠ 0; rw [hfr1.1 x hx]; exact hx)).trans (by rw [e2]; exact hfr1.1 x hx), fun x hx hx2 => ?_⟩ ⟨by rw [e4]; exact hq3.1.trans hq2, ?_, by omega, g9, w, by rw [e4]; simp [wo_gr, wo_sr, wo_u2], hB.eq hw4⟩ (fun b' hb' => ?_)
  · have hxq : x ≠ q := fun q2 => hx (by rw [q2]; exact hq)
    have h5 := hfr1.2 x hx hx2
    have h6 : wo_eq G1 G2 x := by rw [e2]; exact (wo_put_i (ty := .int) rfl).1 x hxq
    have h7 := h5.tr h6
    rw [e4]
    exact (h7.tr (hfr3.2 x (by rw [h7.1]; exact hx) hx2)).tr ((wo_put_r (ty := .array .int) rfl).1 x hxq)
  · rw [e4]
    show wo_gi G3 577 q = 0
    rw [hq3.2.2.1, e2]
    simp [wo_gi, wo_si, wo_u2]
  · rw [e4] at hb'
    simp [wo_gr, wo_sr, wo_u2] at hb'
    subst hb'
    exact ⟨hw0, hwb⟩
end SP
