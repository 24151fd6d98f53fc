section MD
variable {E : wo_E} {mc ms m c s : Nat} {G0 G G1 G2 : wo_W} {ow : Nat → Nat} {A : Nat → Nat} {F K : Nat → Prop} {t : List Nat}
theorem md_k.rd (h : md_k E ow m A G) {f k n : Nat} (hq : (f, k, n) ∈ md_tb) {x : Int32} {Q : Nat → Prop} (hx : vp_in x n) (hQ : Q (A f)) : ∀ r : Option Nat, r = wo_gr G f m → ∃ a : Nat, r = some a ∧ wo_ty G a = k ∧ vp_in x (wo_len G a) ∧ Q a := by
  obtain ⟨a1, a2, a3, a4⟩ := h.a hq
  exact fun r hr => ⟨A f, a1 r hr, a2, by rw [a3]; exact hx, hQ⟩
theorem md_k.wr (h : md_k E ow m A G) {f k n : Nat} (hq : (f, k, n) ∈ md_tb) {x : Int32} {Q : Nat → Prop} (hx : vp_in x n) (hQ : Q (A f)) : ∀ r : Option Nat, r = wo_gr G f m → ∃ a : Nat, r = some a ∧ wo_ty G a = k ∧ vp_in x (wo_len G a) ∧ en_bs E ≤ a ∧ Q a := by
  obtain ⟨a1, a2, a3, a4⟩ := h.a hq
  exact fun r hr => ⟨A f, a1 r hr, a2, by rw [a3]; exact hx, a4, hQ⟩
theorem me.ei (h : me E ow m A F G G1) {f k n : Nat} (hq : (f, k, n) ∈ md_tb) (hf : ¬ F f) (i : Nat) : wo_ei G1 (A f) i = wo_ei G (A f) i := (h.2.2.1 (f, k, n) hq hf).1 i
theorem me.el (h : me E ow m A F G G1) {f k n : Nat} (hq : (f, k, n) ∈ md_tb) (hf : ¬ F f) (i : Nat) : wo_el G1 (A f) i = wo_el G (A f) i := (h.2.2.1 (f, k, n) hq hf).2 i
theorem me.gi (h : me E ow m A F G G1) {f : Nat} (hf : ¬ F f) : wo_gi G1 f m = wo_gi G f m := h.2.2.2 f hf
def nf (F : Nat → Prop) (l : List Nat) : Prop := ∀ f ∈ l, ¬ F f
theorem rr_at.me {r : Nat} {p : rpT} (hr : rr_at A G r p) (h : me E ow m A F G G1) (hf : nf F [929, 930, 931, 932, 933, 934, 935]) : rr_at A G1 r p := by
  obtain ⟨r1, r2, ⟨r3, r4, r5⟩, r6, r7, ⟨r8, r9, r10⟩, r11⟩ := hr
  refine ⟨?_, r2, ⟨?_, ?_, r5⟩, ?_, r7, ⟨?_, ?_, r10⟩, ?_⟩
  · rw [h.ei (k := 66) (n := 40) (by decide) (hf 929 (by decide))]; exact r1
  · rw [h.el (k := 73) (n := 40) (by decide) (hf 930 (by decide))]; exact r3
  · rw [h.ei (k := 66) (n := 40) (by decide) (hf 931 (by decide))]; exact r4
  · rw [h.ei (k := 66) (n := 40) (by decide) (hf 932 (by decide))]; exact r6
  · rw [h.el (k := 73) (n := 40) (by decide) (hf 933 (by decide))]; exact r8
  · rw [h.ei (k := 66) (n := 40) (by decide) (hf 934 (by decide))]; exact r9
  · rw [h.ei (k := 72) (n := 40) (by decide) (hf 935 (by decide))]; exact r11
theorem vq_at.me {j : Nat} {q : rqT} (hq : vq_at A G j q) (h : me E ow m A F G G1) (hf : nf F [907, 908, 909, 910, 911, 912, 913]) : vq_at A G1 j q := by
  obtain ⟨⟨k, r1, r2, r3⟩, ⟨p1, p2, p3⟩, ⟨b1, b2, b3⟩, hv⟩ := hq
  refine ⟨⟨k, r1, r2, ?_⟩, ⟨?_, ?_, p3⟩, ⟨?_, ?_, b3⟩, fun i hi => ?_⟩
  · rw [h.ei (k := 66) (n := 9) (by decide) (hf 907 (by decide))]; exact r3
  · rw [h.el (k := 73) (n := 9) (by decide) (hf 908 (by decide))]; exact p1
  · rw [h.ei (k := 66) (n := 9) (by decide) (hf 909 (by decide))]; exact p2
  · rw [h.el (k := 73) (n := 9) (by decide) (hf 912 (by decide))]; exact b1
  · rw [h.ei (k := 66) (n := 9) (by decide) (hf 913 (by decide))]; exact b2
  · rw [h.ei (k := 66) (n := 72) (by decide) (hf 911 (by decide)), h.el (k := 73) (n := 72) (by decide) (hf 910 (by decide))]
    exact hv i hi
theorem nfT {l : List Nat} (h : ∀ f ∈ l, f ≠ 905 ∧ f ≠ 906) : nf FT l := fun f hf z => z.elim (h f hf).1 (h f hf).2
theorem me.pu {Post : Nat → Nat → wo_W → Prop} {b : Nat} (h : me E ow m A FT G0 G) (ht : tb_at m A G t) (hc : c ≤ mc) (hs : s ≤ ms) (hl : t.length < 128) (hp : ∀ G', me E ow m A FT G0 G' → tb_at m A G' (t ++ [b]) → Post 0 0 G') : ∃ mc2 ms2 : Nat, (c + mc2) ≤ mc ∧ (s + ms2) ≤ ms ∧ pq_Md_put E mc2 ms2 (Post mc2 ms2) G m (nI b) :=
  ⟨0, 0, hc, hs, sp_put h.2.1 h.b ht hl (fun G1 m1 t1 => hp G1 (h.tr m1) t1)⟩
theorem me.nu {Post : Nat → Nat → wo_W → Prop} {v : Nat} (h : me E ow m A FT G0 G) (ht : tb_at m A G t) (hc : c ≤ mc) (hs : s ≤ ms) (hv : v < 10 ^ 9) (hl : t.length + 10 ≤ 128) (hp : ∀ G', me E ow m A FT G0 G' → tb_at m A G' (t ++ dc_of v) → Post 0 0 G') : ∃ mc2 ms2 : Nat, (c + mc2) ≤ mc ∧ (s + ms2) ≤ ms ∧ pq_Md_putNumber E mc2 ms2 (Post mc2 ms2) G m (nI v) :=
  ⟨0, 0, hc, hs, sp_putNumber hv h.2.1 h.b ht hl (fun G1 m1 t1 => hp G1 (h.tr m1) t1)⟩
theorem me.na {Post : Nat → Nat → wo_W → Prop} {b : Nat} (h : me E ow m A FT G0 G) (ht : tb_at m A G t) (hc : c ≤ mc) (hs : s ≤ ms) (hl : t.length + 2 ≤ 128) (hp : ∀ G', me E ow m A FT G0 G' → tb_at m A G' (t ++ [b, 58]) → Post 0 0 G') : ∃ mc2 ms2 : Nat, (c + mc2) ≤ mc ∧ (s + ms2) ≤ ms ∧ pq_Md_name E mc2 ms2 (Post mc2 ms2) G m (nI b) :=
  ⟨0, 0, hc, hs, sp_name h.2.1 h.b ht hl (fun G1 m1 t1 => hp G1 (h.tr m1) t1)⟩
theorem me.li {Post : Nat → Nat → wo_W → Prop} {b v : Nat} (h : me E ow m A FT G0 G) (ht : tb_at m A G t) (hc : c ≤ mc) (hs : s ≤ ms) (hv : v < 10 ^ 9) (hl : t.length + 13 ≤ 128) (hp : ∀ G', me E ow m A FT G0 G' → tb_at m A G' (t ++ nl_of b v) → Post 0 0 G') : ∃ mc2 ms2 : Nat, (c + mc2) ≤ mc ∧ (s + ms2) ≤ ms ∧ pq_Md_putLine E mc2 ms2 (Post mc2 ms2) G m (nI b) (nI v) :=
  ⟨0, 0, hc, hs, sp_putLine hv h.2.1 h.b ht hl (fun G1 m1 t1 => hp G1 (h.tr m1) t1)⟩
theorem me.by {Post : Nat → Nat → wo_W → Prop} {u : List Nat} {p e : Nat} (h : me E ow m A FT G0 G) (ht : tb_at m A G t) (hc : c ≤ mc) (hs : s ≤ ms) (hu : ∀ c ∈ u, c < 256) (hul : u.length ≤ 8) (hpe : p ≤ e) (he : e ≤ u.length) (hl : t.length + 8 ≤ 128) (hp : ∀ G', me E ow m A FT G0 G' → tb_at m A G' (t ++ tx_sub u p e) → Post 0 0 G') : ∃ mc2 ms2 : Nat, (c + mc2) ≤ mc ∧ (s + ms2) ≤ ms ∧ pq_Md_putBytes E mc2 ms2 (Post mc2 ms2) G m (pk_of u) (nI p) (nI e) :=
  ⟨0, 0, hc, hs, sp_putBytes hu hul hpe he h.2.1 h.b ht hl (fun G1 m1 t1 => hp G1 (h.tr m1) t1)⟩
theorem le_app {t u : List Nat} {a b : Nat} (h : t.length ≤ a) (h2 : u.length ≤ b) : (t ++ u).length ≤ a + b := by rw [List.length_append]; omega
theorem nl_le {x v : Nat} (hv : v < 10 ^ 9) : (nl_of x v).length ≤ 13 := by
  have := dc_len10 (n := v) (by omega)
  simp only [nl_of, List.length_append, List.length_cons, List.length_nil]
  omega
theorem bg_le {v : Nat} (hv : v < 10 ^ 9) : (bg_of v).length ≤ 11 := by
  have := dc_len10 (n := v) (by omega)
  simp only [bg_of, List.length_append, List.length_cons, List.length_nil]
  omega
theorem ds_le {cd l g : Nat} {po : List Nat} {vr : Bool} {ag : Option Nat} (hcd : cd < 10 ^ 9) (hg : g < 10 ^ 9) (hpo : po.length ≤ 8) (ha : ∀ n, ag = some n → n < 10 ^ 9) : (ds_of cd l g po vr ag).length ≤ 60 := by
  have h1 := bg_le hcd
  have h2 := nl_le (x := 69) hg
  have h3 : (ag_of ag).length ≤ 13 := by
    cases ag with
    | none => exact Nat.zero_le _
    | some n => exact nl_le (ha n rfl)
  have h4 : (if vr then [89, 58, 86, 10] else ([] : List Nat)).length ≤ 4 := by cases vr <;> simp
  have h5 : (if po = [] then [] else [80, 58] ++ po ++ [10]).length ≤ 11 := by
    by_cases z : po = []
    · rw [if_pos z]; exact Nat.zero_le _
    · rw [if_neg z]; simp only [List.length_append, List.length_cons, List.length_nil]; omega
  unfold ds_of
  simp only [List.length_append, List.length_cons, List.length_nil]
  omega
theorem sp_mhead {Post : wo_W → Prop} {cd r : Nat} {p : rpT} {ag : Option Nat} (hcd : cd < 10 ^ 9) (h : md_k E ow m A G) (hb : ow_b E ow G) (hr : rr_at A G r p) (hr40 : r < 40) (ha : ∀ n, ag = some n → n < 10 ^ 9) (hp : ∀ G', me E ow m A FT G G' → tb_at m A G' (ds_of cd p.1 p.2.2.1 p.2.2.2.1 p.2.2.2.2 ag) → Post G') : pq_Md_head E mc ms Post G m (nI cd) (nI r) (wh_I ag) := by
  have nF : nf FT [929, 930, 931, 932, 933, 934, 935] := nfT (by decide)
  have vr40 : vp_in (nI r) 40 := vp_in_nI hr40 (by decide)
  have cl : (nI r).toNatClampNeg = r := nI_clamp (by omega)
  have hg := hr.2.2.2.2.1
  have hpo := hr.2.2.2.2.2.1.2.2.1
  have hpb := hr.2.2.2.2.2.1.2.2.2
  have b1 := bg_le hcd
  have b2 := nl_le (x := 69) hg
  have h104 : ∀ (G1 : wo_W) (t : List Nat), me E ow m A FT G G1 → tb_at m A G1 t → t.length ≤ 48 → (t ++ ag_of ag = ds_of cd p.1 p.2.2.1 p.2.2.2.1 p.2.2.2.2 ag) → pq_Md_head_104 E mc ms Post G1 0 0 m (wh_I ag) := by
    intro G1 t m1 t1 hl e
    unfold pq_Md_head_104 pq_Md_head_115
    cases ag with
    | none =>
      refine ⟨fun _ => hp G1 m1 ?_, fun w => absurd (by decide) w⟩
      rw [← e]
      show tb_at m A G1 (t ++ [])
      rw [List.append_nil]
      exact t1
    | some n =>
      have hn := ha n rfl
      refine ⟨fun w => absurd w (nI_pos (by omega)), fun _ => ⟨m1.2.1.1, m1.li (b := 65) t1 (Nat.zero_le _) (Nat.zero_le _) hn (by omega) (fun G2 m2 t2 => hp G2 m2 ?_)⟩⟩
      rw [← e]
      exact t2
  have h66 : ∀ (G1 : wo_W) (t : List Nat), me E ow m A FT G G1 → tb_at m A G1 t → t.length ≤ 37 → (t ++ (if p.2.2.2.1 = [] then [] else [80, 58] ++ p.2.2.2.1 ++ [10]) ++ ag_of ag = ds_of cd p.1 p.2.2.1 p.2.2.2.1 p.2.2.2.2 ag) → pq_Md_head_66 E mc ms Post G1 0 0 m (nI r) (wh_I ag) := by
    intro G1 t m1 t1 hl e
    have r1 := hr.me m1 nF
    unfold pq_Md_head_66
    refine ⟨m1.2.1.1, m1.2.1.rd (f := 934) (k := 66) (n := 40) (by decide) vr40 ?_⟩
    rw [cl, r1.2.2.2.2.2.1.2.1]
    refine ⟨fun w => ?_, fun w => ?_⟩
    · have z : p.2.2.2.1.length = 0 := by have := (nI_leI (b := 0) (by omega) (by decide)).mp w; omega
      have z2 : p.2.2.2.1 = [] := List.length_eq_zero_iff.mp z
      rw [if_pos z2, List.append_nil] at e
      exact h104 G1 t m1 t1 (by omega) e
    · have z2 : ¬ p.2.2.2.1 = [] := fun z => w (by rw [z]; decide)
      rw [if_neg z2] at e
      refine m1.na (b := 80) t1 (Nat.zero_le _) (Nat.zero_le _) (by omega) (fun G2 m2 t2 => ⟨m2.2.1.1, m2.2.1.rd (f := 933) (k := 73) (n := 40) (by decide) vr40 (m2.2.1.rd (f := 934) (k := 66) (n := 40) (by decide) vr40 ?_)⟩)
      have r2 := hr.me m2 nF
      rw [r2.2.2.2.2.2.1.2.1, r2.2.2.2.2.2.1.1]
      have l2 : (t ++ [80, 58]).length ≤ 37 + 2 := le_app hl (Nat.le_refl 2)
      refine m2.by (p := 0) t2 (Nat.zero_le _) (Nat.zero_le _) hpb hpo (Nat.zero_le _) (Nat.le_refl _) (by omega) (fun G3 m3 t3 => ⟨m3.2.1.1, ?_⟩)
      rw [tx_sub_all] at t3
      have l3 : (t ++ [80, 58] ++ p.2.2.2.1).length ≤ 37 + 2 + 8 := le_app l2 hpo
      refine m3.pu (b := 10) t3 (Nat.zero_le _) (Nat.zero_le _) (by omega) (fun G4 m4 t4 => h104 G4 _ m4 t4 (le_app (b := 1) l3 (Nat.le_refl 1)) ?_)
      rw [← e]
      simp [List.append_assoc]
  unfold pq_Md_head pq_Md_head_0
  refine ⟨h.1, 0, 0, Nat.zero_le _, Nat.zero_le _, sp_mbegin hcd h hb (fun G1 m1 t1 => ⟨m1.2.1.1, m1.2.1.rd (f := 932) (k := 66) (n := 40) (by decide) vr40 ?_⟩)⟩
  have r1 := hr.me m1 nF
  rw [cl, r1.2.2.2.1]
  refine m1.li (b := 69) t1 (Nat.zero_le _) (Nat.zero_le _) hg (by omega) (fun G2 m2 t2 => ⟨m2.2.1.1, ?_⟩)
  have l2 : (bg_of cd ++ nl_of 69 p.2.2.1).length ≤ 11 + 13 := le_app b1 b2
  refine m2.na (b := 75) t2 (Nat.zero_le _) (Nat.zero_le _) (by omega) (fun G3 m3 t3 => ⟨m3.2.1.1, m3.2.1.rd (f := 929) (k := 66) (n := 40) (by decide) vr40 ?_⟩)
  have r3 := hr.me m3 nF
  have l3 := le_app l2 (show ([75, 58] : List Nat).length ≤ 2 by simp)
  rw [r3.1]
  refine m3.pu (b := p.1) t3 (Nat.zero_le _) (Nat.zero_le _) (by omega) (fun G4 m4 t4 => ⟨m4.2.1.1, ?_⟩)
  have l4 := le_app l3 (show ([p.1] : List Nat).length ≤ 1 by simp)
  refine m4.pu (b := 10) t4 (Nat.zero_le _) (Nat.zero_le _) (by omega) (fun G5 m5 t5 => ⟨m5.2.1.1, m5.2.1.rd (f := 935) (k := 72) (n := 40) (by decide) vr40 ?_⟩)
  have l5 := le_app l4 (show ([10] : List Nat).length ≤ 1 by simp)
  have r5 := hr.me m5 nF
  rw [r5.2.2.2.2.2.2]
  have eds : ds_of cd p.1 p.2.2.1 p.2.2.2.1 p.2.2.2.2 ag = bg_of cd ++ nl_of 69 p.2.2.1 ++ [75, 58] ++ [p.1] ++ [10] ++ (if p.2.2.2.2 then [89, 58, 86, 10] else []) ++ (if p.2.2.2.1 = [] then [] else [80, 58] ++ p.2.2.2.1 ++ [10]) ++ ag_of ag := rfl
  cases e : p.2.2.2.2 with
  | false =>
    refine ⟨fun _ => h66 G5 _ m5 t5 (by omega) ?_, fun w => absurd rfl w⟩
    rw [eds, e]
    simp
  | true =>
    refine ⟨fun w => absurd w (by decide), fun _ => ?_⟩
    refine m5.na (b := 89) t5 (Nat.zero_le _) (Nat.zero_le _) (by omega) (fun G6 m6 t6 => ⟨m6.2.1.1, ?_⟩)
    have l6 := le_app l5 (show ([89, 58] : List Nat).length ≤ 2 by simp)
    refine m6.pu (b := 86) t6 (Nat.zero_le _) (Nat.zero_le _) (by omega) (fun G7 m7 t7 => ⟨m7.2.1.1, ?_⟩)
    have l7 := le_app l6 (show ([86] : List Nat).length ≤ 1 by simp)
    refine m7.pu (b := 10) t7 (Nat.zero_le _) (Nat.zero_le _) (by omega) (fun G8 m8 t8 => h66 G8 _ m8 t8 (le_app l7 (show ([10] : List Nat).length ≤ 1 by simp) |> fun q => by omega) ?_)
    rw [eds, e]
    simp [List.append_assoc]
end MD
