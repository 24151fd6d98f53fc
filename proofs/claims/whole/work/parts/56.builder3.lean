section SP
variable {E : wo_E} {mc ms : Nat} {G : wo_W} {a b v : Nat} {t u : List Nat}
theorem sp_appendS {Post : Option Nat → wo_W → Prop} (h : sg_at E G a v t) (hS : tx_S G b u) (hbv : ∀ x, wo_gr G 576 b = some x → x ≠ v) (hn : t.length + u.length ≤ 4096) (h1 : 1 ≤ mc) (h2 : 2 * (t.length + u.length) ≤ ms)
    (hp : ∀ (w : Nat) (G' : wo_W), sg_at E G' a w (t ++ u) → (w = v ∨ wo_ty G w = 0) → fr_W (sg_W a v) G G' → wo_len G' w ≤ max (wo_len G v) (2 * (t.length + u.length)) → Post (some a) G') : pq_SB_append_S E mc ms Post G a (some b) := by
  have hh := h
  obtain ⟨g1, g2, g3, g4, g5, g6, g7, g8, g9⟩ := hh
  have hS' := hS
  obtain ⟨s1, s2, s3, s4, y, s5, s6⟩ := hS'
  have hyv := hbv y s5
  have s6t := s6.1
  unfold pq_SB_append_S pq_SB_append_S_0
  refine ⟨g1, mc, ms, by omega, by omega, ?_⟩
  unfold pq_AB_append_S pq_AB_append_S_0
  refine ⟨fun q => (by cases q), fun b' hb' => ?_⟩
  cases hb'
  refine ⟨s1, 0, 0, by omega, by omega, sp_length hS ⟨g1, mc, ms, by omega, by omega, ?_⟩⟩
  rw [g4, nI_add]
  refine sp_ensure h hn h1 h2 (fun w G1 k hw hfr hl1 hl2 => ?_)
  have kk := k
  obtain ⟨k1, k2, k3, k4, k5, k6, k7, k8, k9⟩ := kk
  have haw : a ≠ w := sg_ne k
  have hba : b ≠ a := fun q => by rw [q, g1] at s1; cases s1
  have hya : y ≠ a := fun q => by rw [q, g1] at s6t; cases s6t
  have hbv2 : b ≠ v := fun q => by have := g6.1; rw [q, this] at s1; cases s1
  have hb1 := hfr.2 b (by omega) (fun q => q.elim hba hbv2)
  have hy1 := hfr.2 y (by omega) (fun q => q.elim hya hyv)
  have hyw : y ≠ w := fun q => by
    rcases hw with q2 | q2
    · exact hyv (q.trans q2)
    · rw [← q, s6t] at q2; cases q2
  refine ⟨k1, 0, 0, by omega, by omega, ?_⟩
  unfold pq_AB_putStringAt pq_AB_putStringAt_0
  refine ⟨k1, 0, 0, by omega, by omega, ?_⟩
  unfold pq_AB_inflateIfNeededFor pq_AB_inflateIfNeededFor_0 pq_AB_inflateIfNeededFor_21
  have hcb : wo_gi G1 577 b = 0 := (hb1.2.2.1 _).trans s2
  have htb : wo_ty G1 b = 10 := hb1.1.trans s1
  have hrb : wo_gr G1 576 b = some y := (hb1.2.2.2.2.1 _).trans s5
  have hBy := s6.eq hy1
  refine ⟨k1, b, rfl, htb, 0, 0, by omega, by omega, sp_coder htb hcb ⟨fun _ => ⟨k1, fun r hr => ⟨b, rfl, htb, 0, 0, by omega, by omega, ?_⟩⟩, fun q => absurd k3 q⟩⟩
  unfold pq_St_getBytes pq_St_getBytes_0
  rw [k3, k4, hr, k5, sb_shl0]
  have hlt := k6.2.1
  have hly := hBy.2.1
  refine ⟨htb, 0, 0, by omega, by omega, sp_coder htb hcb ⟨fun q => absurd rfl q, fun _ => ⟨htb, fun r7 hr7 r9 hr9 => ⟨y, hr9.trans hrb, hBy.1, y, hr7.trans hrb, w, rfl, hBy.1, k6.1, by decide, nI_pos (by omega), nI_pos (by omega), ?_⟩⟩⟩⟩
  rw [hly, nI_clamp (by omega), nI_clamp (by omega), sb_cl0]
  refine ⟨by omega, by omega, k7, hBy.P.2.2.2, fun G2 e2 => ?_⟩
  have ha2 : wo_eq G1 G2 a := by rw [e2]; exact wo_eq_cpI haw
  refine ⟨ha2.1.trans k1, k2, fun G3 e3 => ?_⟩
  rw [ha2.2.2.1 259, k4, nI_add] at e3
  have hw3 : wo_eq G2 G3 w := by rw [e3]; exact (wo_put_i (ty := .int) rfl).1 w (fun q => haw q.symm)
  have hl3 : wo_len G3 w = wo_len G1 w := by rw [hw3.2.1, e2]; rfl
  have hel : ∀ i, wo_ei G3 w i = va_cpy (wo_ei G1 y) (wo_ei G1 w) 0 t.length u.length i := fun i => by rw [hw3.2.2.2.2.2.1 i, e2, wo_ei_cp]
  refine hp w G3 ⟨by rw [e3]; exact ha2.1.trans k1, k2, ?_, ?_, ?_, ⟨by rw [hw3.1, e2]; exact k6.1, ?_, fun i hi => ?_, fun i hi => ?_⟩, k7, by rw [hl3]; exact k8, ?_⟩ hw ?_ (by rw [hl3]; exact hl2)
  · rw [e3]; simp [wo_gi, wo_si, wo_u2]; exact (ha2.2.2.1 257).trans k3
  · rw [e3, List.length_append]; simp [wo_gi, wo_si, wo_u2]
  · rw [e3]; exact (ha2.2.2.2.2.1 256).trans k5
  · rw [hl3, List.length_append]; exact hl1
  · rw [List.length_append] at hi
    rw [hel]
    by_cases hit : i < t.length
    · rw [pk_cpy_out (Or.inl hit), tx_getApp2 hit]
      exact k6.2.2.1 i hit
    · rw [pk_cpy_in (by omega) (by omega), tx_getApp3 (by omega), Nat.zero_add]
      exact tx_at hBy (by omega)
  · rw [hl3] at hi
    rw [hel]
    by_cases hit : i < t.length ∨ t.length + u.length ≤ i
    · rw [pk_cpy_out hit]
      exact k6.2.2.2 i hi
    · rw [pk_cpy_in (by omega) (by omega), Nat.zero_add, tx_at hBy (by omega)]
      exact sb_fitB _
  · intro x hx
    rcases List.mem_append.mp hx with q | q
    · exact k9 x q
    · exact s4 x q
  · refine ⟨fun x hx => by rw [e3, e2]; exact hfr.1 x hx, fun x hx hx2 => ?_⟩
    have hxa : x ≠ a := fun q => hx2 (Or.inl q)
    have hxw : x ≠ w := by
      intro q
      rcases hw with q2 | q2
      · exact hx2 (Or.inr (q.trans q2))
      · exact hx (by rw [q]; exact q2)
    rw [e3, e2]
    exact (hfr.2 x hx hx2).tr ((wo_eq_cpI hxw).tr ((wo_put_i (ty := .int) rfl).1 x hxa))
theorem sp_setLength {Post : wo_W → Prop} {n : Nat} (h : sg_at E G a v t) (hn : n ≤ t.length) (ht : t.length ≤ 4096) (h1 : 1 ≤ mc) (h2 : 2 * n ≤ ms)
    (hp : ∀ G' : wo_W, sg_at E G' a v (t.take n) → fr_W (fun x => x = a) G G' → wo_len G' v = wo_len G v → Post G') : pq_SB_setLength E mc ms Post G a (nI n) := by
  have hh := h
  obtain ⟨g1, g2, g3, g4, g5, g6, g7, g8, g9⟩ := hh
  have hav : a ≠ v := sg_ne h
  unfold pq_SB_setLength pq_SB_setLength_0
  refine ⟨g1, mc, ms, by omega, by omega, ?_⟩
  unfold pq_AB_setLength pq_AB_setLength_0
  refine ⟨fun _ => ⟨g1, mc, ms, by omega, by omega, ?_⟩, fun q => absurd (nI_pos' (by omega)) q⟩
  have key : ∀ G1 : wo_W, sg_at E G1 a v t → fr_W (fun x => x = a) G G1 → wo_len G1 v = wo_len G v → pq_AB_setLength_76 E mc ms Post G1 (0 + mc) (0 + ms) a (nI n) := by
    intro G1 k hfr hl
    unfold pq_AB_setLength_76
    obtain ⟨k1, k2, k3, k4, k5, k6, k7, k8, k9⟩ := k
    refine ⟨k1, k2, fun G2 e2 => ?_⟩
    have hv2 : wo_eq G1 G2 v := by rw [e2]; exact (wo_put_i (ty := .int) rfl).1 v (fun q => hav q.symm)
    have hln : (t.take n).length = n := by rw [List.length_take]; omega
    have hP := k6.eq hv2
    refine hp G2 ⟨by rw [e2]; exact k1, k2, by rw [e2]; simp [wo_gi, wo_si, wo_u2]; exact k3, by rw [e2, hln]; simp [wo_gi, wo_si, wo_u2], by rw [e2]; exact k5, ⟨hP.1, by rw [hln]; have := hP.2.1; omega, fun i hi => ?_, hP.2.2.2⟩, k7, by rw [hv2.2.1]; exact k8, fun c hc => k9 c (List.mem_of_mem_take hc)⟩ ⟨fun x hx => by rw [e2]; exact hfr.1 x hx, fun x hx hx2 => ?_⟩ (by rw [hv2.2.1]; exact hl)
    · rw [hln] at hi
      rw [hP.2.2.1 i (by omega), List.getD_eq_getElem?_getD, List.getD_eq_getElem?_getD, List.getElem?_take, if_pos hi]
    · rw [e2]
      exact (hfr.2 x hx hx2).tr ((wo_put_i (ty := .int) rfl).1 x hx2)
  have hlen := g6.2.1
  unfold pq_AB_ensureCapacityInternal pq_AB_ensureCapacityInternal_0 pq_AB_ensureCapacityInternal_38
  refine ⟨g1, fun r hr => ⟨v, hr.trans g5, g6.1, fun _ => ⟨g1, ?_, ?_⟩, ?_⟩⟩
  · rw [g4]
    intro _
    refine ⟨fun _ => key G h (fr_rf _ _) rfl, fun _ => ⟨g2, tx_ok1, fun G1 e1 => key G1 ?_ ?_ ?_⟩⟩
    · obtain ⟨k1, k2, k3, k4, k5, k6, k7, k8, k9⟩ := h
      have hv1 : wo_eq G G1 v := by rw [e1]; exact (wo_put_i (ty := .int) rfl).1 v (fun q => hav q.symm)
      exact ⟨by rw [e1]; exact k1, k2, by rw [e1]; simp [wo_gi, wo_si, wo_u2]; exact k3, by rw [e1]; simp [wo_gi, wo_si, wo_u2]; exact k4, by rw [e1]; exact k5, k6.eq hv1, k7, by rw [hv1.2.1]; exact k8, k9⟩
    · rw [e1]; exact fr_si rfl
    · rw [e1]; rfl
  · rw [g4]
    exact fun q => absurd (nI_le hn (by omega)) q
  · rw [g3, sb_shr0]
    intro q
    have e2 : nI n - nI (wo_len G v) ≤ 0 := by
      rw [Int32.le_iff_toInt_le, pk_sub_toInt (by omega) (by omega)]
      show _ ≤ (0 : Int)
      omega
    exact absurd e2 q
theorem sp_sbCharAt {Post : Int32 → wo_W → Prop} {i : Nat} (h : sg_at E G a v t) (hi : i < t.length) (ht : t.length ≤ 4096) (hp : Post (nI (t.getD i 0)) G) : pq_SB_charAt E mc ms Post G a (nI i) := by
  obtain ⟨g1, g2, g3, g4, g5, g6, g7, g8, g9⟩ := h
  have hc := g9 _ (tx_mem hi)
  have hlen := g6.2.1
  unfold pq_SB_charAt pq_SB_charAt_0
  refine ⟨g1, 0, 0, by omega, by omega, ?_⟩
  unfold pq_AB_charAt pq_AB_charAt_0
  refine ⟨g1, fun r hr => ⟨v, hr.trans g5, g6.1, 0, 0, by omega, by omega, ?_⟩⟩
  rw [g3, g4, sb_shr0, nI_min (by omega) (by omega), Nat.min_eq_left hlen]
  have e : wo_i2c (wo_ei G v (nI i).toNatClampNeg &&& 255) = nI (t.getD i 0) := by
    rw [nI_clamp (by omega), g6.2.2.1 i hi, (sb_byte _ hc).1]
    exact (sb_byte _ hc).2.1
  refine sp_checkIndex hi (by omega) ⟨fun q => absurd rfl q, fun _ => ⟨g6.1, vp_in_nI (by omega) (by omega), ?_⟩⟩
  rw [e]
  exact ⟨tx_okc (by omega), tx_okc (by omega), hp⟩
end SP
