section MD
variable {E : wo_E} {mc ms m c s : Nat} {G0 G G1 G2 : wo_W} {ow : Nat → Nat} {A : Nat → Nat} {F K : Nat → Prop} {u : List Nat} {P Q : Nat → Nat → Prop} {raw out out' : List Nat} {sh : Bool} {nh na na' : Nat} {an an' : Nat → Option (List Nat)}
theorem md_k.wi (h : md_k E ow m A G) {f k n : Nat} (hq : (f, k, n) ∈ md_tb) {x : Int32} {Q : Nat → Prop} (hx : vp_in x n) (hQ : Q (A f)) : ∀ r : Option Nat, r = wo_gr G f m → ∃ a : Nat, r = some a ∧ wo_ty G a = k ∧ vp_in x (wo_len G a) ∧ vp_in x (wo_len G a) ∧ en_bs E ≤ a ∧ Q a := by
  obtain ⟨a1, a2, a3, a4⟩ := h.a hq
  exact fun r hr => ⟨A f, a1 r hr, a2, by rw [a3]; exact hx, by rw [a3]; exact hx, a4, hQ⟩
theorem sp_ouShift {Post : Int64 → wo_W → Prop} {v : Int64} {n : Nat} (hc3 : c < 3) (hn : n ≤ out.length) : ∀ (k i : Nat) (G : wo_W), i + k = out.length → n ≤ i → mf E ow m A (PF c) G0 G → (mk A G0 c raw sh nh na out an) → (∀ f x, ¬ (f = 899 ∧ x / 640 = c ∧ x < 640 * c + (i - n)) → ∀ k n, (f, k, n) ∈ md_tb → wo_ei G (A f) x = wo_ei G0 (A f) x) → (∀ x, x < i - n → wo_ei G (A 899) (640 * c + x) = nI (out.getD (n + x) 0)) → (∀ G', mf E ow m A (PF c) G0 G' → mk A G' c raw sh nh na (out.drop n) an → Post v G') → pq_Md_out_78 E mc ms Post (k + 1) G 0 0 m (nI c) v (nI n) (nI i) := by
  have vc : vp_in (nI c) 3 := vp_in_nI hc3 (by decide)
  have cl : (nI c).toNatClampNeg = c := nI_clamp (by omega)
  intro k
  induction k with
  | zero =>
    intro i G hi hni m0 hk hsame hcp hp
    obtain ⟨⟨a1, a2, a3⟩, a4, ⟨a5, a6, a7⟩, ⟨a8, a9, a10, a11, a12⟩, a13⟩ := hk
    have o1 : wo_ei G (A 900) c = nI out.length := by rw [hsame 900 c (by omega) 66 3 (by decide)]; exact a5
    unfold pq_Md_out_78
    refine ⟨m0.k.1, m0.k.rd (f := 900) (k := 66) (n := 3) (by decide) vc ?_⟩
    rw [cl, o1]
    refine ⟨fun _ => m0.k.wi (f := 900) (k := 66) (n := 3) (by decide) vc (fun G1 e1 => ?_), fun w => absurd (nI_le (by omega) (by omega)) w⟩
    rw [o1, pk_sub hn] at e1
    have m1 : mf E ow m A (fun f i => f = 900 ∧ i = c) G G1 := by rw [e1]; exact mf_sei m0.k m0.b (f := 900) (k := 66) (n := 3) (by decide) ⟨rfl, rfl⟩
    have dl : (out.drop n).length = out.length - n := List.length_drop
    have same2 : ∀ f x k n', f ≠ 899 → f ≠ 900 → (f, k, n') ∈ md_tb → wo_ei G1 (A f) x = wo_ei G0 (A f) x := by
      intro f x k n' h1 h2 hm
      rw [m1.ei hm (fun z => h2 z.1)]
      exact hsame f x (fun z => h1 z.1) k n' hm
    refine hp G1 (m0.tr (m1.mn (fun f i z => by unfold PF; omega))) ⟨⟨?_, a2, fun x hx => ?_⟩, ?_, ⟨?_, by omega, fun x hx => ?_⟩, ⟨?_, ?_, a10, a11, a12⟩, fun t q1 q2 => ?_⟩
    · rw [same2 897 c 66 3 (by decide) (by decide) (by decide)]; exact a1
    · rw [same2 896 _ 66 12600 (by decide) (by decide) (by decide)]; exact a3 x hx
    · rw [same2 898 _ 72 3 (by decide) (by decide) (by decide)]; exact a4
    · rw [e1, sei_at, if_pos rfl, dl]
    · rw [dl] at hx
      rw [m1.ei (f := 899) (k := 66) (n := 1920) (by decide) (by simp), hcp x (by omega)]
      congr 1
      simp [List.getD_eq_getElem?_getD, List.getElem?_drop]
    · rw [same2 903 _ 66 3 (by decide) (by decide) (by decide)]; exact a8
    · rw [same2 904 _ 66 3 (by decide) (by decide) (by decide)]; exact a9
    · have := a13 t q1 q2
      revert this
      cases an t with
      | none =>
        intro z
        show wo_ei G1 (A 902) _ = -1
        rw [same2 902 _ 66 12 (by decide) (by decide) (by decide)]; exact z
      | some w =>
        rintro ⟨z1, z2, z3⟩
        refine ⟨?_, z2, fun x hx => ?_⟩
        · rw [same2 902 _ 66 12 (by decide) (by decide) (by decide)]; exact z1
        · rw [same2 901 _ 66 1152 (by decide) (by decide) (by decide)]; exact z3 x hx
  | succ k ih =>
    intro i G hi hni m0 hk hsame hcp hp
    have hk' := hk
    obtain ⟨⟨a1, a2, a3⟩, a4, ⟨a5, a6, a7⟩, ⟨a8, a9, a10, a11, a12⟩, a13⟩ := hk
    have o1 : wo_ei G (A 900) c = nI out.length := by rw [hsame 900 c (by omega) 66 3 (by decide)]; exact a5
    have v1 : vp_in (nI (640 * c + i)) 1920 := vp_in_nI (by omega) (by decide)
    have c1 : (nI (640 * c + i)).toNatClampNeg = 640 * c + i := nI_clamp (by omega)
    have v2 : vp_in (nI (640 * c + i - n)) 1920 := vp_in_nI (by omega) (by decide)
    have c2 : (nI (640 * c + i - n)).toNatClampNeg = 640 * c + i - n := nI_clamp (by omega)
    unfold pq_Md_out_78
    refine ⟨m0.k.1, m0.k.rd (f := 900) (k := 66) (n := 3) (by decide) vc ?_⟩
    rw [cl, o1, show (640 : Int32) = nI 640 from rfl, nI_lin, pk_sub (by omega)]
    refine ⟨fun w => absurd w (nI_ge (by omega) (by omega)), fun _ r hr => m0.k.rd (f := 899) (k := 66) (n := 1920) (by decide) v1 (m0.k.wr (f := 899) (k := 66) (n := 1920) (by decide) v2 (fun G1 e1 => ?_) r hr)⟩
    rw [c1, c2, hsame 899 (640 * c + i) (by omega) 66 1920 (by decide), a7 i (by omega)] at e1
    have m1 : mf E ow m A (fun f x => f = 899 ∧ x = 640 * c + i - n) G G1 := by rw [e1]; exact mf_sei m0.k m0.b (f := 899) (k := 66) (n := 1920) (by decide) ⟨rfl, rfl⟩
    rw [nI_1]
    refine ih (i + 1) G1 (by omega) (by omega) (m0.tr (m1.mn (fun f i z => by unfold PF; omega))) hk' (fun f x hz k n' hm => ?_) (fun x hx => ?_) hp
    · rw [m1.ei hm (by omega)]
      exact hsame f x (by omega) k n' hm
    · rw [e1, sei_at]
      by_cases z : x = i - n
      · rw [if_pos (by omega), z]
        congr 2
        omega
      · rw [if_neg (by omega)]; exact hcp x (by omega)
theorem sp_ouRead {Post : Int64 → wo_W → Prop} {n : Nat} (hc3 : c < 3) (hn : n ≤ out.length) (h : md_k E ow m A G) (hk : mk A G c raw sh nh na out an) (hp : ∃ n1, pq_Md_out_78 E mc ms Post n1 G 0 0 m (nI c) (te_go (out.take n) 0) (nI n) (nI n)) : ∀ (k i : Nat), i + k = n → pq_Md_out_40 E mc ms Post (k + 1) G 0 0 m (nI c) (te_go (out.take i) 0) (nI n) (nI i) := by
  have te : ∀ (l : List Nat) (b : Nat) (v : Int64), te_go (l ++ [b]) v = te_go l v * 256 + (nI b).toInt64 := by
    intro l
    induction l with
    | nil => intro b v; rfl
    | cons a l ih => intro b v; exact ih b _
  obtain ⟨⟨a1, a2, a3⟩, a4, ⟨a5, a6, a7⟩, ⟨a8, a9, a10, a11, a12⟩, a13⟩ := hk
  intro k
  induction k with
  | zero =>
    intro i hi
    have e : i = n := by omega
    subst e
    unfold pq_Md_out_40
    exact ⟨fun _ => hp, fun w => absurd (nI_le (Nat.le_refl _) (by omega)) w⟩
  | succ k ih =>
    intro i hi
    have v1 : vp_in (nI (640 * c + i)) 1920 := vp_in_nI (by omega) (by decide)
    have c1 : (nI (640 * c + i)).toNatClampNeg = 640 * c + i := nI_clamp (by omega)
    unfold pq_Md_out_40
    refine ⟨fun w => absurd w (nI_ge (by omega) (by omega)), fun _ => ⟨h.1, ?_⟩⟩
    rw [show (640 : Int32) = nI 640 from rfl, nI_lin]
    refine h.rd (f := 899) (k := 66) (n := 1920) (by decide) v1 ?_
    rw [c1, a7 i (by omega), nI_1, ← te]
    have tk : out.take i ++ [out.getD i 0] = out.take (i + 1) := by
      rw [List.take_succ, List.getElem?_eq_getElem (by omega)]
      congr 1
      rw [List.getD_eq_getElem?_getD, List.getElem?_eq_getElem (by omega)]
      rfl
    rw [tk]
    exact ih (i + 1) (by omega)
theorem ci_in {i : Int32} {k n : Nat} (h : ci_of i k = some n) : i = nI n ∧ n < k := ci_some h
theorem sp_mout {Post : Int64 → wo_W → Prop} {i : Int32} {cn : Nat → cnT} (h : md_k E ow m A G) (hb : ow_b E ow G) (hk : ∀ c, c < 3 → mcn A G c (cn c)) (hn : ci_of i 3 = none → Post 0 G) (hp : ∀ c, ci_of i 3 = some c → ∀ G', mf E ow m A (PF c) G G' → mcn A G' c (ouc (cn c)) → Post (te_go ((c_out (cn c)).take 8) 0) G') : pq_Md_out E mc ms Post G m i := by
  unfold pq_Md_out pq_Md_out_0 pq_Md_out_9
  refine ⟨fun w => hn ((ci_none (by decide)).mpr (Or.inl w)), fun w => ⟨fun w2 => ?_, fun w2 => hn ((ci_none (by decide)).mpr (Or.inr ?_))⟩⟩
  · cases e : ci_of i 3 with
    | none =>
      rcases (ci_none (by decide)).mp e with z | z
      · exact absurd z w
      · have z2 : (3 : Int32) ≤ i := z
        have : ∀ i : Int32, 3 ≤ i → i ≤ 2 → False := by
          intro i h1 h2
          rw [Int32.le_iff_toInt_le] at h1 h2
          have e3 : (3 : Int32).toInt = 3 := by decide
          have e2 : (2 : Int32).toInt = 2 := by decide
          omega
        exact absurd w2 (fun q => this i z2 q)
    | some c =>
      obtain ⟨e1, hc3⟩ := ci_some e
      subst e1
      have hp := hp c e
      have hk := hk c hc3
      have hk2 : mk A G c (c_raw (cn c)) (c_sh (cn c)) (c_nh (cn c)) (c_na (cn c)) (c_out (cn c)) (c_an (cn c)) := hk
      obtain ⟨⟨a1, a2, a3⟩, a4, ⟨a5, a6, a7⟩, ⟨a8, a9, a10, a11, a12⟩, a13⟩ := hk
      have vc : vp_in (nI c) 3 := vp_in_nI hc3 (by decide)
      have cl : (nI c).toNatClampNeg = c := nI_clamp (by omega)
      have go : ∀ n, n ≤ (c_out (cn c)).length → n = min 8 (c_out (cn c)).length → pq_Md_out_35 E mc ms Post G 0 0 m (nI c) 0 (nI n) := by
        intro n hn1 hn2
        unfold pq_Md_out_35
        refine ⟨n + 1, sp_ouRead hc3 hn1 h hk2 ⟨(c_out (cn c)).length - n + 1, ?_⟩ n 0 (by omega)⟩
        refine sp_ouShift hc3 hn1 ((c_out (cn c)).length - n) n G (by omega) (Nat.le_refl _) (mf.rf h hb) hk2 (fun f x _ k n' hm => rfl) (fun x hx => by omega) (fun G' m' k' => ?_)
        have e1 : (c_out (cn c)).take n = (c_out (cn c)).take 8 := by
          rw [hn2]
          by_cases z : 8 ≤ (c_out (cn c)).length
          · rw [Nat.min_eq_left z]
          · rw [Nat.min_eq_right (by omega), List.take_of_length_le (Nat.le_refl _), List.take_of_length_le (by omega)]
        have e2 : (c_out (cn c)).drop n = (c_out (cn c)).drop 8 := by
          rw [hn2]
          by_cases z : 8 ≤ (c_out (cn c)).length
          · rw [Nat.min_eq_left z]
          · rw [Nat.min_eq_right (by omega), List.drop_of_length_le (Nat.le_refl _), List.drop_of_length_le (by omega)]
        rw [e1]
        rw [e2] at k'
        exact hp G' m' k'
      refine ⟨h.1, h.rd (f := 900) (k := 66) (n := 3) (by decide) vc ?_⟩
      rw [cl, a5]
      refine ⟨fun w => ?_, fun w => h.rd (f := 900) (k := 66) (n := 3) (by decide) vc ?_⟩
      · have := (nI_leI (a := 8) (by decide) (by omega)).mp w
        exact go 8 this (by omega)
      · have : ¬ 8 ≤ (c_out (cn c)).length := fun q => w (nI_le (a := 8) q (by omega))
        rw [a5]
        exact go _ (Nat.le_refl _) (by omega)
  · have : ∀ i : Int32, ¬ i ≤ 2 → 3 ≤ i := by
      intro i h1
      rw [Int32.le_iff_toInt_le] at h1 ⊢
      have e3 : (3 : Int32).toInt = 3 := by decide
      have e2 : (2 : Int32).toInt = 2 := by decide
      omega
    exact this i w2
end MD
