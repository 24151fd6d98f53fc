section SP
variable {E : wo_E} {mc ms : Nat} {G : wo_W} {a v : Nat} {t : List Nat}
theorem sp_appendI {Post : Option Nat → wo_W → Prop} {m : Nat} (h : sg_at E G a v t) (hm : m < 2 ^ 31) (hst : sta_ok E G) (hn : t.length + (dc_of m).length ≤ 4096) (h1 : 1 ≤ mc) (h2 : 2 * (t.length + (dc_of m).length) ≤ ms)
    (hp : ∀ (w : Nat) (G' : wo_W), sg_at E G' a w (t ++ dc_of m) → (w = v ∨ wo_ty G w = 0) → fr_W (sg_W a v) G G' → wo_len G' w ≤ max (wo_len G v) (2 * (t.length + (dc_of m).length)) → Post (some a) G') : pq_SB_append_I E mc ms Post G a (nI m) := by
  have hh := h
  obtain ⟨g1, g2, g3, g4, g5, g6, g7, g8, g9⟩ := hh
  unfold pq_SB_append_I pq_SB_append_I_0
  refine ⟨g1, mc, ms, by omega, by omega, ?_⟩
  unfold pq_AB_append_I pq_AB_append_I_0
  refine ⟨g1, 0, 0, by omega, by omega, sp_stringSize hm ⟨g1, mc, ms, by omega, by omega, ?_⟩⟩
  rw [g4, nI_add]
  refine sp_ensure h hn h1 h2 (fun w G1 k hw hfr hl1 hl2 => ?_)
  have kk := k
  obtain ⟨k1, k2, k3, k4, k5, k6, k7, k8, k9⟩ := kk
  have haw : a ≠ w := sg_ne k
  have hst1 : sta_ok E G1 := hst.fr hfr (fun x hx => by rcases hx with q | q <;> rw [q]; exact g2; exact g7)
  refine ⟨k1, 0, 0, by omega, by omega, sp_abLatin1 k1 k3 ⟨fun q => absurd q (by decide), fun _ => ⟨k1, fun r hr => ⟨0, 0, by omega, by omega, ?_⟩⟩⟩⟩
  rw [hr, k5]
  unfold pq_It_getChars pq_It_getChars_0 pq_It_getChars_12
  refine ⟨fun _ => ⟨fun q => absurd rfl q, fun _ => ?_⟩, fun q => absurd (nI_pos' hm) q⟩
  refine sp_gc m hm _ G1 (by omega) hl1 (by omega) k6.1 k7 hst1 (fun G2 hrel => ?_)
  obtain ⟨r1, r2, r3, r4, r5⟩ := hrel
  have hpe : t.length + (dc_of m).length - (dc_of m).length = t.length := by omega
  rw [hpe] at r4 r5
  have ha2 := r1.2 a (by omega) haw
  refine ⟨ha2.1.trans k1, k2, fun G3 e3 => ?_⟩
  have hw3 : wo_eq G2 G3 w := by rw [e3]; exact (wo_put_i (ty := .int) rfl).1 w (fun q => haw q.symm)
  have hl3 : wo_len G3 w = wo_len G1 w := hw3.2.1.trans r3
  refine hp w G3 ⟨by rw [e3]; exact ha2.1.trans k1, k2, ?_, ?_, ?_, ⟨hw3.1.trans (r2.trans k6.1), ?_, fun i hi => ?_, fun i hi => ?_⟩, k7, by rw [hl3]; exact k8, ?_⟩ hw ?_ (by rw [hl3]; exact hl2)
  · rw [e3]; simp [wo_gi, wo_si, wo_u2]; exact (ha2.2.2.1 257).trans k3
  · rw [e3, List.length_append]; simp [wo_gi, wo_si, wo_u2]
  · rw [e3]; exact (ha2.2.2.2.2.1 256).trans k5
  · rw [hl3, List.length_append]; exact hl1
  · rw [List.length_append] at hi
    rw [hw3.2.2.2.2.2.1 i]
    by_cases hit : i < t.length
    · rw [r4 i (Or.inl hit), tx_getApp2 hit]
      exact k6.2.2.1 i hit
    · rw [tx_getApp3 (by omega), ← r5 (i - t.length) (by omega)]
      congr 1
      omega
  · rw [hl3] at hi
    rw [hw3.2.2.2.2.2.1 i]
    by_cases hit : i < t.length ∨ t.length + (dc_of m).length ≤ i
    · rw [r4 i hit]
      exact k6.2.2.2 i hi
    · have := r5 (i - t.length) (by omega)
      rw [show t.length + (i - t.length) = i by omega] at this
      rw [this]
      exact sb_fitB _
  · intro x hx
    rcases List.mem_append.mp hx with q | q
    · exact k9 x q
    · have := dc_mem _ _ q; omega
  · refine ⟨fun x hx => by rw [e3]; exact ky_tr hfr.1 r1.1 x hx, fun x hx hx2 => ?_⟩
    have hxa : x ≠ a := fun q => hx2 (Or.inl q)
    have hxw : x ≠ w := by
      intro q
      rcases hw with q2 | q2
      · exact hx2 (Or.inr (q.trans q2))
      · exact hx (by rw [q]; exact q2)
    rw [e3]
    have h5 := hfr.2 x hx hx2
    exact (h5.tr (r1.2 x (by rw [h5.1]; exact hx) hxw)).tr ((wo_put_i (ty := .int) rfl).1 x hxa)
end SP
