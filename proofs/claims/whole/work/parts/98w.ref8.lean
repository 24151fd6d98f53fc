def mf (E : wo_E) (ow : Nat → Nat) (m : Nat) (A : Nat → Nat) (P : Nat → Nat → Prop) (G G' : wo_W) : Prop := me E ow m A (fun f => ∃ i, P f i) G G' ∧ ∀ q ∈ md_tb, ∀ i, ¬ P q.1 i → wo_ei G' (A q.1) i = wo_ei G (A q.1) i ∧ wo_el G' (A q.1) i = wo_el G (A q.1) i
def po_at (A : Nat → Nat) (G : wo_W) (s : Nat) (o : Option (List Nat)) : Prop := match o with
  | none => wo_ei G (A 902) s = -1
  | some u => wo_ei G (A 902) s = nI u.length ∧ u.length ≤ 96 ∧ ∀ i, i < u.length → wo_ei G (A 901) (96 * s + i) = nI (u.getD i 0)
def mk (A : Nat → Nat) (G : wo_W) (c : Nat) (raw : List Nat) (sh : Bool) (nh na : Nat) (out : List Nat) (an : Nat → Option (List Nat)) : Prop :=
  (wo_ei G (A 897) c = nI raw.length ∧ raw.length < 4200 ∧ ∀ i, i < raw.length → wo_ei G (A 896) (4200 * c + i) = nI (raw.getD i 0)) ∧
  wo_ei G (A 898) c = bo_I sh ∧
  (wo_ei G (A 900) c = nI out.length ∧ out.length ≤ 640 ∧ ∀ i, i < out.length → wo_ei G (A 899) (640 * c + i) = nI (out.getD i 0)) ∧
  (wo_ei G (A 903) c = nI na ∧ wo_ei G (A 904) c = nI (nh - na) ∧ na ≤ nh ∧ nh ≤ na + 4 ∧ nh ≤ 20) ∧
  ∀ t, na ≤ t → t < nh → po_at A G (4 * c + t % 4) (an t)
def mcn (A : Nat → Nat) (G : wo_W) (c : Nat) (v : cnT) : Prop := mk A G c (c_raw v) (c_sh v) (c_nh v) (c_na v) (c_out v) (c_an v)
def PC (c : Nat) : Nat → Nat → Prop := fun f i => f = 896 ∧ i / 4200 = c ∨ f = 897 ∧ i = c ∨ f = 898 ∧ i = c ∨ f = 899 ∧ i / 640 = c ∨ f = 900 ∧ i = c ∨ f = 901 ∧ i / 384 = c ∨ f = 902 ∧ i / 4 = c ∨ f = 903 ∧ i = c ∨ f = 904 ∧ i = c
section MD
variable {E : wo_E} {mc ms m c s : Nat} {G0 G G1 G2 : wo_W} {ow : Nat → Nat} {A : Nat → Nat} {F K : Nat → Prop} {t : List Nat} {P Q : Nat → Nat → Prop}
theorem mf.rf (h : md_k E ow m A G) (hb : ow_b E ow G) : mf E ow m A P G G := ⟨me.rf h hb, fun _ _ _ _ => ⟨rfl, rfl⟩⟩
theorem mf.tr (h : mf E ow m A P G G1) (h2 : mf E ow m A P G1 G2) : mf E ow m A P G G2 := ⟨h.1.tr h2.1, fun q hq i hi => ⟨((h2.2 q hq i hi).1).trans (h.2 q hq i hi).1, ((h2.2 q hq i hi).2).trans (h.2 q hq i hi).2⟩⟩
theorem mf.mn (h : mf E ow m A P G G1) (hk : ∀ f i, P f i → Q f i) : mf E ow m A Q G G1 := ⟨h.1.mn (fun f z => (by obtain ⟨i, hi⟩ := z; exact ⟨i, hk f i hi⟩)), fun q hq i hi => h.2 q hq i (fun z => hi (hk _ _ z))⟩
theorem me.mf (h : me E ow m A F G G1) (hk : ∀ f i, F f → P f i) : mf E ow m A P G G1 := ⟨h.mn (fun f z => ⟨0, hk f 0 z⟩), fun q hq i hi => ⟨(h.2.2.1 q hq (fun z => hi (hk _ _ z))).1 i, (h.2.2.1 q hq (fun z => hi (hk _ _ z))).2 i⟩⟩
theorem mf.k (h : mf E ow m A P G G1) : md_k E ow m A G1 := h.1.2.1
theorem mf.b (h : mf E ow m A P G G1) : ow_b E ow G1 := h.1.b
theorem mf.ei (h : mf E ow m A P G G1) {f k n i : Nat} (hq : (f, k, n) ∈ md_tb) (hf : ¬ P f i) : wo_ei G1 (A f) i = wo_ei G (A f) i := (h.2 (f, k, n) hq i hf).1
theorem mf.el (h : mf E ow m A P G G1) {f k n i : Nat} (hq : (f, k, n) ∈ md_tb) (hf : ¬ P f i) : wo_el G1 (A f) i = wo_el G (A f) i := (h.2 (f, k, n) hq i hf).2
theorem mf.gi (h : mf E ow m A P G G1) {f : Nat} (hf : ∀ i, ¬ P f i) : wo_gi G1 f m = wo_gi G f m := h.1.gi (fun ⟨i, z⟩ => hf i z)
theorem ei_sei (h : md_k E ow m A G) {f k n f' k' n' i i' : Nat} {v : Int32} (hq : (f, k, n) ∈ md_tb) (hq' : (f', k', n') ∈ md_tb) : wo_ei (wo_sei G (A f) i v) (A f') i' = if f' = f ∧ i' = i then v else wo_ei G (A f') i' := by
  obtain ⟨h1, h2, h3, h4, h5⟩ := h
  by_cases e : f' = f
  · subst e
    rw [sei_at]
    by_cases z : i' = i
    · rw [if_pos z, if_pos ⟨rfl, z⟩]
    · rw [if_neg z, if_neg (fun q => z q.2)]
  · rw [if_neg (fun q => e q.1)]
    have ne : ¬ A f' = A f := fun q => e (h5 (f', k', n') hq' (f, k, n) hq q)
    simp [wo_ei, wo_sei, wo_u2, ne]
theorem el_sel (h : md_k E ow m A G) {f k n f' k' n' i i' : Nat} {v : Int64} (hq : (f, k, n) ∈ md_tb) (hq' : (f', k', n') ∈ md_tb) : wo_el (wo_sel G (A f) i v) (A f') i' = if f' = f ∧ i' = i then v else wo_el G (A f') i' := by
  obtain ⟨h1, h2, h3, h4, h5⟩ := h
  by_cases e : f' = f
  · subst e
    rw [sel_at]
    by_cases z : i' = i
    · rw [if_pos z, if_pos ⟨rfl, z⟩]
    · rw [if_neg z, if_neg (fun q => z q.2)]
  · rw [if_neg (fun q => e q.1)]
    have ne : ¬ A f' = A f := fun q => e (h5 (f', k', n') hq' (f, k, n) hq q)
    simp [wo_el, wo_sel, wo_u2, ne]
theorem mf_sei {f k n i : Nat} {v : Int32} (h : md_k E ow m A G) (hb : ow_b E ow G) (hq : (f, k, n) ∈ md_tb) (hP : P f i) : mf E ow m A P G (wo_sei G (A f) i v) := by
  refine ⟨(me_sei h hb hq).mn (fun g z => by have z2 : g = f := z; exact ⟨i, by rw [z2]; exact hP⟩), fun q hq2 i' hi => ⟨?_, rfl⟩⟩
  rw [ei_sei h hq (k' := q.2.1) (n' := q.2.2) hq2, if_neg (fun z => hi (by rw [z.1, z.2]; exact hP))]
theorem mf_sel {f k n i : Nat} {v : Int64} (h : md_k E ow m A G) (hb : ow_b E ow G) (hq : (f, k, n) ∈ md_tb) (hP : P f i) : mf E ow m A P G (wo_sel G (A f) i v) := by
  refine ⟨(me_sel h hb hq).mn (fun g z => by have z2 : g = f := z; exact ⟨i, by rw [z2]; exact hP⟩), fun q hq2 i' hi => ⟨rfl, ?_⟩⟩
  rw [el_sel h hq (k' := q.2.1) (n' := q.2.2) hq2, if_neg (fun z => hi (by rw [z.1, z.2]; exact hP))]
theorem mf_si {f : Nat} {v : Int32} (h : md_k E ow m A G) (hb : ow_b E ow G) (hP : P f 0) : mf E ow m A P G (wo_si G f m v) :=
  ⟨(me_si h hb).mn (fun g z => by have z2 : g = f := z; exact ⟨0, by rw [z2]; exact hP⟩), fun q hq2 i' hi => ⟨rfl, rfl⟩⟩
theorem rr_at.mf {r : Nat} {p : rpT} (hr : rr_at A G r p) (h : mf E ow m A P G G1) (hf : ∀ f ∈ [929, 930, 931, 932, 933, 934, 935], ¬ P f r) : rr_at A G1 r p := by
  obtain ⟨r1, r2, ⟨r3, r4, r5⟩, r6, r7, ⟨r8, r9, r10⟩, r11⟩ := hr
  refine ⟨?_, r2, ⟨?_, ?_, r5⟩, ?_, r7, ⟨?_, ?_, r10⟩, ?_⟩
  · rw [h.ei (k := 66) (n := 40) (by decide) (hf 929 (by decide))]; exact r1
  · rw [h.el (k := 73) (n := 40) (by decide) (hf 930 (by decide))]; exact r3
  · rw [h.ei (k := 66) (n := 40) (by decide) (hf 931 (by decide))]; exact r4
  · rw [h.ei (k := 66) (n := 40) (by decide) (hf 932 (by decide))]; exact r6
  · rw [h.el (k := 73) (n := 40) (by decide) (hf 933 (by decide))]; exact r8
  · rw [h.ei (k := 66) (n := 40) (by decide) (hf 934 (by decide))]; exact r9
  · rw [h.ei (k := 72) (n := 40) (by decide) (hf 935 (by decide))]; exact r11
theorem vq_at.mf {j : Nat} {q : rqT} (hq : vq_at A G j q) (h : mf E ow m A P G G1) (hf : ∀ f ∈ [907, 908, 909, 912, 913], ¬ P f j) (hf2 : ∀ i, i < 8 → ¬ P 910 (8 * j + i) ∧ ¬ P 911 (8 * j + i)) : vq_at A G1 j q := by
  obtain ⟨⟨k, r1, r2, r3⟩, ⟨p1, p2, p3⟩, ⟨b1, b2, b3⟩, hv⟩ := hq
  refine ⟨⟨k, r1, r2, ?_⟩, ⟨?_, ?_, p3⟩, ⟨?_, ?_, b3⟩, fun i hi => ?_⟩
  · rw [h.ei (k := 66) (n := 9) (by decide) (hf 907 (by decide))]; exact r3
  · rw [h.el (k := 73) (n := 9) (by decide) (hf 908 (by decide))]; exact p1
  · rw [h.ei (k := 66) (n := 9) (by decide) (hf 909 (by decide))]; exact p2
  · rw [h.el (k := 73) (n := 9) (by decide) (hf 912 (by decide))]; exact b1
  · rw [h.ei (k := 66) (n := 9) (by decide) (hf 913 (by decide))]; exact b2
  · rw [h.ei (k := 66) (n := 72) (by decide) (hf2 i hi).2, h.el (k := 73) (n := 72) (by decide) (hf2 i hi).1]
    exact hv i hi
theorem po_at.mf {s : Nat} {o : Option (List Nat)} (hp : po_at A G s o) (h : mf E ow m A P G G1) (h1 : ¬ P 902 s) (h2 : ∀ i, i < 96 → ¬ P 901 (96 * s + i)) : po_at A G1 s o := by
  cases o with
  | none =>
    show wo_ei G1 (A 902) s = -1
    rw [h.ei (k := 66) (n := 12) (by decide) h1]
    exact hp
  | some u =>
    obtain ⟨p1, p2, p3⟩ := hp
    refine ⟨?_, p2, fun i hi => ?_⟩
    · rw [h.ei (k := 66) (n := 12) (by decide) h1]; exact p1
    · rw [h.ei (k := 66) (n := 1152) (by decide) (h2 i (by omega))]; exact p3 i hi
theorem mk.mf {raw out : List Nat} {sh : Bool} {nh na : Nat} {an : Nat → Option (List Nat)} (hk : mk A G c raw sh nh na out an) (h : mf E ow m A P G G1) (hf : ∀ f i, PC c f i → ¬ P f i) : mk A G1 c raw sh nh na out an := by
  obtain ⟨⟨a1, a2, a3⟩, a4, ⟨a5, a6, a7⟩, ⟨a8, a9, a10, a11, a12⟩, a13⟩ := hk
  refine ⟨⟨?_, a2, fun i hi => ?_⟩, ?_, ⟨?_, a6, fun i hi => ?_⟩, ⟨?_, ?_, a10, a11, a12⟩, fun t h1 h2 => (a13 t h1 h2).mf h ?_ (fun i hi => ?_)⟩
  · rw [h.ei (k := 66) (n := 3) (by decide) (hf _ _ (by simp [PC]))]; exact a1
  · rw [h.ei (k := 66) (n := 12600) (by decide) (hf _ _ (by simp [PC]; omega))]; exact a3 i hi
  · rw [h.ei (k := 72) (n := 3) (by decide) (hf _ _ (by simp [PC]))]; exact a4
  · rw [h.ei (k := 66) (n := 3) (by decide) (hf _ _ (by simp [PC]))]; exact a5
  · rw [h.ei (k := 66) (n := 1920) (by decide) (hf _ _ (by simp [PC]; omega))]; exact a7 i hi
  · rw [h.ei (k := 66) (n := 3) (by decide) (hf _ _ (by simp [PC]))]; exact a8
  · rw [h.ei (k := 66) (n := 3) (by decide) (hf _ _ (by simp [PC]))]; exact a9
  · exact hf _ _ (by simp [PC]; omega)
  · exact hf _ _ (by simp [PC]; omega)
theorem sp_may {Post : Int32 → wo_W → Prop} {v : cnT} (h : md_k E ow m A G) (hk : mcn A G c v) (hc : c < 3) (hp : Post (bo_I (my_of v)) G) : pq_Md_may E mc ms Post G m (nI c) := by
  obtain ⟨⟨a1, a2, a3⟩, a4, ⟨a5, a6, a7⟩, ⟨a8, a9, a10, a11, a12⟩, a13⟩ := hk
  have vc : vp_in (nI c) 3 := vp_in_nI hc (by decide)
  have cl : (nI c).toNatClampNeg = c := nI_clamp (by omega)
  have e : my_of v = (!c_sh v && decide (c_nh v < 20) && decide (c_nh v - c_na v < 4) && decide ((c_out v).length < 200)) := rfl
  unfold pq_Md_may pq_Md_may_0 pq_Md_may_53 pq_Md_may_54
  refine ⟨h.1, h.rd (f := 898) (k := 72) (n := 3) (by decide) vc ?_⟩
  rw [cl, a4]
  have no : my_of v = false → wo_okI .boolean 0 ∧ Post 0 G := fun z => ⟨tx_ok0, by rw [z] at hp; exact hp⟩
  refine ⟨fun w => no ?_, fun w => h.rd (f := 903) (k := 66) (n := 3) (by decide) vc (h.rd (f := 904) (k := 66) (n := 3) (by decide) vc ?_)⟩
  · rw [e]
    cases z : c_sh v with
    | false => rw [z] at w; exact absurd rfl w
    | true => rfl
  · have s0 : c_sh v = false := by
      cases z : c_sh v with
      | false => rfl
      | true => rw [z] at w; exact absurd w (by decide)
    rw [a8, a9, nI_add, show c_na v + (c_nh v - c_na v) = c_nh v by omega]
    rw [e, s0]  at hp
    rw [e, s0]  at no
    refine ⟨fun w => no ?_, fun w => h.rd (f := 904) (k := 66) (n := 3) (by decide) vc ?_⟩
    · have := (nI_leI (a := 20) (by decide) (by omega)).mp w
      simp; omega
    · have w1 : c_nh v < 20 := Nat.lt_of_not_le (fun q => w (nI_le (a := 20) q (by omega)))
      rw [a9]
      refine ⟨fun w => no ?_, fun w => h.rd (f := 900) (k := 66) (n := 3) (by decide) vc ?_⟩
      · have := (nI_leI (a := 4) (by decide) (by omega)).mp w
        simp; omega
      · have w2 : c_nh v - c_na v < 4 := Nat.lt_of_not_le (fun q => w (nI_le (a := 4) q (by omega)))
        rw [a5]
        refine ⟨fun w => no ?_, fun w => ⟨tx_ok1, ?_⟩⟩
        · have := (nI_leI (a := 200) (by decide) (by omega)).mp w
          simp; omega
        · have w3 : (c_out v).length < 200 := Nat.lt_of_not_le (fun q => w (nI_le (a := 200) q (by omega)))
          simp [w1, w2, w3] at hp
          exact hp
end MD
