def cn_k (E : wo_E) (ow : Nat → Nat) (B : Nat) (G : wo_W) (o x ar au nh na : Nat) (out : List Nat) (sh : Bool) (ra : Nat → Nat) : Prop :=
  (wo_ty G o = 7 ∧ en_bs E ≤ o ∧ ow o = B ∧ wo_gr G 384 o = some x ∧ wo_gr G 385 o = some ar ∧ wo_gr G 386 o = some au ∧ wo_gi G 387 o = nI nh ∧ wo_gi G 388 o = nI na ∧ wo_gi G 389 o = nI out.length ∧ wo_gi G 390 o = bo_I sh) ∧
  (wo_ty G ar = 68 ∧ wo_len G ar = 20 ∧ en_bs E ≤ ar ∧ ow ar = B + 5 ∧ ∀ t, t < nh → wo_er G ar t = some (ra t)) ∧
  (wo_ty G au = 69 ∧ wo_len G au = 640 ∧ en_bs E ≤ au ∧ ow au = B + 6 ∧ wo_fitA .char G au ∧ ∀ i, i < out.length → wo_ei G au i = nI (out.getD i 0)) ∧
  (nh ≤ 20 ∧ na ≤ nh ∧ out.length ≤ 640 ∧ ∀ c ∈ out, c < 256)
def an_at (im : Nat → Prop) (G : wo_W) (p : Nat) (o : Option (List Nat)) : Prop := match o with
  | none => wo_gr G 523 p = none
  | some t => ∃ q, wo_gr G 523 p = some q ∧ tx_i im G q t
def dv_go (an : Nat → Option (List Nat)) : Nat → Nat → List Nat → Nat × List Nat
  | 0, na, out => (na, out)
  | k + 1, na, out => match an na with
    | none => (na, out)
    | some t => dv_go an k (na + 1) (out ++ t)
def te_go : List Nat → Int64 → Int64
  | [], v => v
  | b :: l, v => te_go l (v * 256 + (nI b).toInt64)
def Rcn (B : Nat) : Nat → Prop := fun r => r = B ∨ r = B + 5 ∨ r = B + 6
section SP
variable {E : wo_E} {mc ms : Nat} {G G1 : wo_W} {B o x ar au nh na : Nat} {out : List Nat} {sh : Bool} {ra : Nat → Nat} {ow ow1 : Nat → Nat} {R : Nat → Prop}
theorem an_at.xt {p : Nat} {a : Option (List Nat)} (h : an_at (im ow) G p a) (y : xt E R ow G ow1 G1) (h0 : ¬ R 0) (zp : wo_ty G p ≠ 0) (hp : ¬ R (ow p)) : an_at (im ow1) G1 p a := by
  have e := (y.eq zp hp).2.2.2.2.1 523
  cases a with
  | none => exact e.trans h
  | some t =>
    obtain ⟨q, h1, h2⟩ := h
    exact ⟨q, e.trans h1, h2.xt y h0⟩
theorem cn_k.xt (h : cn_k E ow B G o x ar au nh na out sh ra) (y : xt E R ow G ow1 G1) (hB : ¬ R B) (h5 : ¬ R (B + 5)) (h6 : ¬ R (B + 6)) : cn_k E ow1 B G1 o x ar au nh na out sh ra := by
  obtain ⟨⟨k1, k2, k3, k4, k5, k6, k7, k8, k9, k10⟩, ⟨a1, a2, a3, a4, a5⟩, ⟨u1, u2, u3, u4, u5, u6⟩, k11⟩ := h
  have zo : wo_ty G o ≠ 0 := by rw [k1]; decide
  have zr : wo_ty G ar ≠ 0 := by rw [a1]; decide
  have zu : wo_ty G au ≠ 0 := by rw [u1]; decide
  have eo := y.eq zo (by rw [k3]; exact hB)
  have er := y.eq zr (by rw [a4]; exact h5)
  have eu := y.eq zu (by rw [u4]; exact h6)
  exact ⟨⟨eo.1.trans k1, k2, (y.w zo).trans k3, (eo.2.2.2.2.1 _).trans k4, (eo.2.2.2.2.1 _).trans k5, (eo.2.2.2.2.1 _).trans k6, (eo.2.2.1 _).trans k7, (eo.2.2.1 _).trans k8, (eo.2.2.1 _).trans k9, (eo.2.2.1 _).trans k10⟩, ⟨er.1.trans a1, er.2.1.trans a2, a3, (y.w zr).trans a4, fun t ht => (er.2.2.2.2.2.2.2 t).trans (a5 t ht)⟩, ⟨eu.1.trans u1, eu.2.1.trans u2, u3, (y.w zu).trans u4, fun i hi => by rw [eu.2.2.2.2.2.1]; exact u5 i (by rw [← eu.2.1]; exact hi), fun i hi => (eu.2.2.2.2.2.1 i).trans (u6 i hi)⟩, k11⟩
theorem sp_unanswered {Post : Int32 → wo_W → Prop} (h : cn_k E ow B G o x ar au nh na out sh ra) (hp : Post (nI (nh - na)) G) : pq_Cn_unanswered E mc ms Post G o := by
  obtain ⟨⟨k1, k2, k3, k4, k5, k6, k7, k8, k9, k10⟩, _, _, h1, h2, _⟩ := h
  unfold pq_Cn_unanswered pq_Cn_unanswered_0
  rw [k7, k8, pk_sub h2]
  exact ⟨k1, hp⟩
def mt_b (nh na : Nat) (out : List Nat) (sh : Bool) : Bool := !sh && decide (nh < 20) && decide (nh - na < 4) && decide (out.length < 200)
theorem sp_mayTake {Post : Int32 → wo_W → Prop} (h : cn_k E ow B G o x ar au nh na out sh ra) (hp : Post (bo_I (mt_b nh na out sh)) G) : pq_Cn_mayTake E mc ms Post G o := by
  have h' := h
  obtain ⟨⟨k1, k2, k3, k4, k5, k6, k7, k8, k9, k10⟩, _, _, h1, h2, h3, _⟩ := h'
  unfold mt_b at hp
  unfold pq_Cn_mayTake pq_Cn_mayTake_0 pq_Cn_mayTake_38 pq_Cn_mayTake_39
  rw [k7, k10]
  refine ⟨k1, fun w => ?_, fun w => ⟨fun w2 => ?_, fun w2 => ⟨0, 0, Nat.zero_le _, Nat.zero_le _, sp_unanswered h ⟨fun w3 => ?_, fun w3 => ⟨k1, ?_⟩⟩⟩⟩⟩
  · have e : sh = true := by
      cases sh with
      | true => rfl
      | false => exact absurd rfl w
    rw [e] at hp
    exact ⟨tx_ok0, hp⟩
  · have z := (nI_leI (a := 20) (by decide) (by omega)).mp w2
    rw [show decide (nh < 20) = false from decide_eq_false (by omega), Bool.and_false, Bool.false_and, Bool.false_and] at hp
    exact ⟨tx_ok0, hp⟩
  · have z := (nI_leI (a := 4) (by decide) (by omega)).mp w3
    rw [show decide (nh - na < 4) = false from decide_eq_false (by omega), Bool.and_false, Bool.false_and] at hp
    exact ⟨tx_ok0, hp⟩
  · rw [k9]
    refine ⟨fun w4 => ?_, fun w4 => ?_⟩
    · have z := (nI_leI (a := 200) (by decide) (by omega)).mp w4
      rw [show decide (out.length < 200) = false from decide_eq_false (by omega), Bool.and_false] at hp
      exact ⟨tx_ok0, hp⟩
    · have e : sh = false := by
        cases sh with
        | false => rfl
        | true => exact absurd w (by decide)
      have z2 : nh < 20 := Nat.lt_of_not_le (fun y => w2 (nI_le (a := 20) y (by omega)))
      have z3 : nh - na < 4 := Nat.lt_of_not_le (fun y => w3 (nI_le (a := 4) y (by omega)))
      have z4 : out.length < 200 := Nat.lt_of_not_le (fun y => w4 (nI_le (a := 200) y (by omega)))
      rw [e, decide_eq_true z2, decide_eq_true z3, decide_eq_true z4] at hp
      exact ⟨tx_ok1, hp⟩
theorem sp_enlist {Post : wo_W → Prop} {p : Nat} (c : cx E ow G) (hB : 0 < B) (h : cn_k E ow B G o x ar au nh na out sh ra) (hn : nh < 20) (hpt : wo_ty G p = 9) (hp : ∀ G', xt E (Rcn B) ow G ow G' → cn_k E ow B G' o x ar au (nh + 1) na out sh (fun t => if t = nh then p else ra t) → Post G') : pq_Cn_enlist E mc ms Post G o (some p) := by
  obtain ⟨⟨k1, k2, k3, k4, k5, k6, k7, k8, k9, k10⟩, ⟨a1, a2, a3, a4, a5⟩, ⟨u1, u2, u3, u4, u5, u6⟩, h1, h2, h3, h4⟩ := h
  unfold pq_Cn_enlist pq_Cn_enlist_0 pq_Cn_enlist_29
  rw [k7]
  refine ⟨k1, fun w => absurd w (nI_ge (b := 20) hn (by decide)), fun _ => fun r hr => ⟨ar, hr.trans k5, a1, by rw [a2]; exact vp_in_nI hn (by decide), a3, fun a e => (by cases e; exact ⟨8, hpt, by decide⟩), fun G1 e1 => ⟨k2, fun G2 e2 => ?_⟩⟩⟩
  rw [nI_clamp (by omega)] at e1
  have g7 : wo_gi G1 387 o = nI nh := by rw [e1]; exact k7
  rw [g7, nI_1] at e2
  have y : xt E (Rcn B) ow G ow G2 := by
    refine xt.of c.2 ?_
    rw [e2, e1]
    exact fr_tr (fr_ser (Or.inr (Or.inl a4))) (fr_si (Or.inl k3))
  have no5 : o ≠ ar := fun e => by rw [e, a1] at k1; cases k1
  have eu : wo_eq G G2 au := by
    rw [e2, e1]
    exact ((wo_set_r (ty := .array .int) rfl).1 au (fun e => by rw [e, a1] at u1; cases u1)).tr ((wo_put_i (ty := .int) rfl).1 au (fun e => by rw [e, k1] at u1; cases u1))
  refine hp G2 y ⟨⟨?_, k2, k3, ?_, ?_, ?_, ?_, ?_, ?_, ?_⟩, ⟨?_, ?_, a3, a4, fun t ht => ?_⟩, ⟨eu.1.trans u1, eu.2.1.trans u2, u3, u4, fun i hi => by rw [eu.2.2.2.2.2.1]; exact u5 i (by rw [← eu.2.1]; exact hi), fun i hi => (eu.2.2.2.2.2.1 i).trans (u6 i hi)⟩, by omega, by omega, h3, h4⟩
  · rw [e2, e1]; exact k1
  · rw [e2, e1]; exact k4
  · rw [e2, e1]; exact k5
  · rw [e2, e1]; exact k6
  · rw [e2, e1]; simp [wo_gi, wo_si, wo_u2]
  · rw [e2, e1]; simpa [wo_gi, wo_si, wo_ser, wo_u2] using k8
  · rw [e2, e1]; simpa [wo_gi, wo_si, wo_ser, wo_u2] using k9
  · rw [e2, e1]; simpa [wo_gi, wo_si, wo_ser, wo_u2] using k10
  · rw [e2, e1]; exact a1
  · rw [e2, e1]; exact a2
  · have e3 : wo_er G2 ar t = if t = nh then some p else wo_er G ar t := by rw [e2, e1]; simp [wo_er, wo_ser, wo_si, wo_u2]
    rw [e3]
    by_cases z : t = nh
    · rw [if_pos z]; simp [z]
    · rw [if_neg z, a5 t (by omega)]; simp [z]
theorem char_fit {n : Nat} (h : n < 256) : vp_nar .char (nI n) = nI n ∧ fits .char (.int (nI n)) = true := by
  have k := pk_charN (q := n) (by omega)
  refine ⟨?_, k.2⟩
  unfold vp_nar
  rw [k.1]
theorem sp_wrLoop {Post : wo_W → Prop} {q : Nat} {t : List Nat} (hB : 0 < B) (ht : t.length ≤ 4096) : ∀ (k i : Nat) (out : List Nat) (G : wo_W) (c s : Nat), i + k = t.length → cx E ow G → cn_k E ow B G o x ar au nh na out sh ra → tx_i (im ow) G q t → out.length + k ≤ 640 → c ≤ mc → s ≤ ms →
    (∀ G', xt E (Rcn B) ow G ow G' → cn_k E ow B G' o x ar au nh na (out ++ t.drop i) sh ra → Post G') → pq_Cn_write_2 E mc ms Post (k + 1) G c s o (some q) (nI i) := by
  intro k
  induction k with
  | zero =>
    intro i out G c s hi cc h hS ho hc hs hp
    unfold pq_Cn_write_2 pq_Cn_write_50
    refine ⟨q, rfl, hS.1.1, 0, 0, hc, hs, sp_length hS.1 ⟨fun _ => hp G (xt.rf cc.2) ?_, fun w => absurd (nI_le (by omega) (by omega)) w⟩⟩
    rw [List.drop_of_length_le (by omega), List.append_nil]
    exact h
  | succ k ih =>
    intro i out G c s hi cc h hS ho hc hs hp
    have h' := h
    obtain ⟨⟨k1, k2, k3, k4, k5, k6, k7, k8, k9, k10⟩, ⟨a1, a2, a3, a4, a5⟩, ⟨u1, u2, u3, u4, u5, u6⟩, h1, h2, h3, h4⟩ := h'
    have hd := hS.1.2.2.2.1 _ (tx_mem (t := t) (i := i) (by omega))
    have cf := char_fit hd
    unfold pq_Cn_write_2
    refine ⟨q, rfl, hS.1.1, 0, 0, hc, hs, sp_length hS.1 ⟨fun w => absurd w (nI_ge (by omega) (by omega)), fun _ => ⟨k1, ?_⟩⟩⟩
    rw [k9]
    refine ⟨fun w => absurd w (nI_ge (b := 640) (by omega) (by decide)), fun _ => fun r hr => ⟨hS.1.1, 0, 0, hc, hs, sp_charAt hS.1 (by omega) ⟨au, hr.trans k6, u1, by rw [u2]; exact vp_in_nI (by omega) (by decide), u3, fun G1 e1 => ?_⟩⟩⟩
    rw [nI_clamp (by omega), cf.1] at e1
    have g9 : wo_gi G1 389 o = nI out.length := by rw [e1]; exact k9
    refine ⟨by rw [e1]; exact k1, k2, fun G2 e2 => ?_⟩
    rw [g9, nI_1] at e2
    have y : xt E (Rcn B) ow G ow G2 := by
      refine xt.of cc.2 ?_
      rw [e2, e1]
      exact fr_tr (fr_sei (Or.inr (Or.inr u4))) (fr_si (Or.inl k3))
    have n0 : ¬ Rcn B 0 := by rintro (z | z | z) <;> omega
    have er : wo_eq G G2 ar := by
      rw [e2, e1]
      exact ((wo_set_i (ty := .int) rfl).1 ar (fun e => by rw [e, u1] at a1; cases a1)).tr ((wo_put_i (ty := .int) rfl).1 ar (fun e => by rw [e, k1] at a1; cases a1))
    have ee : ∀ n, wo_ei G2 au n = if n = out.length then nI (t.getD i 0) else wo_ei G au n := fun n => by rw [e2, e1]; simp [wo_ei, wo_sei, wo_si, wo_u2]
    have hl2 : (out ++ [t.getD i 0]).length = out.length + 1 := by simp
    have h2' : cn_k E ow B G2 o x ar au nh na (out ++ [t.getD i 0]) sh ra := by
      refine ⟨⟨?_, k2, k3, ?_, ?_, ?_, ?_, ?_, ?_, ?_⟩, ⟨er.1.trans a1, er.2.1.trans a2, a3, a4, fun t ht => (er.2.2.2.2.2.2.2 t).trans (a5 t ht)⟩, ⟨?_, ?_, u3, u4, fun n hn => ?_, fun n hn => ?_⟩, h1, h2, by omega, fun d hd2 => ?_⟩
      · rw [e2, e1]; exact k1
      · rw [e2, e1]; exact k4
      · rw [e2, e1]; exact k5
      · rw [e2, e1]; exact k6
      · rw [e2, e1]; simpa [wo_gi, wo_si, wo_sei, wo_u2] using k7
      · rw [e2, e1]; simpa [wo_gi, wo_si, wo_sei, wo_u2] using k8
      · rw [e2, e1, hl2]; simp [wo_gi, wo_si, wo_sei, wo_u2]
      · rw [e2, e1]; simpa [wo_gi, wo_si, wo_sei, wo_u2] using k10
      · rw [e2, e1]; exact u1
      · rw [e2, e1]; exact u2
      · rw [ee]
        by_cases z : n = out.length
        · rw [if_pos z]; exact cf.2
        · rw [if_neg z]; exact u5 n (by rw [e2, e1] at hn; exact hn)
      · rw [ee, app_get]
        by_cases z : n = out.length
        · rw [if_pos z, if_neg (by omega), if_pos z]
        · rw [if_neg z, if_pos (by omega)]; exact u6 n (by omega)
      · rcases List.mem_append.mp hd2 with z | z
        · exact h4 d z
        · rw [List.mem_singleton.mp z]; exact hd
    rw [nI_1]
    refine ih (i + 1) _ G2 _ _ (by omega) (cc.xt y n0) h2' (hS.xt y n0) (by omega) hc hs (fun G' y2 h3 => hp G' (y.tr y2) ?_)
    rw [tx_drop (by omega)]
    rw [List.append_assoc] at h3
    exact h3
theorem sp_write {Post : wo_W → Prop} {q : Nat} {t : List Nat} (c : cx E ow G) (hB : 0 < B) (h : cn_k E ow B G o x ar au nh na out sh ra) (hS : tx_i (im ow) G q t) (ho : out.length + t.length ≤ 640) (hp : ∀ G', xt E (Rcn B) ow G ow G' → cn_k E ow B G' o x ar au nh na (out ++ t) sh ra → Post G') : pq_Cn_write E mc ms Post G o (some q) := by
  unfold pq_Cn_write pq_Cn_write_0
  exact ⟨t.length + 1, sp_wrLoop hB (by omega) t.length 0 out G 0 0 (by omega) c h hS ho (Nat.zero_le _) (Nat.zero_le _) hp⟩
theorem sp_teLoop {Post : Int64 → wo_W → Prop} {c s k : Nat} (cc : cx E ow G) (hB : 0 < B) (h : cn_k E ow B G o x ar au nh na out sh ra) (hk : k = min 8 out.length)
    (hp : ∀ G', xt E (Rcn B) ow G ow G' → cn_k E ow B G' o x ar au nh na (out.drop k) sh ra → Post (te_go (out.take k) 0) G') : ∀ (j i : Nat) (v : Int64), i + j = k → te_go (out.take k) 0 = te_go ((out.take k).drop i) v → pq_Cn_takeEight_15 E mc ms Post (j + 1) G c s o (nI k) v (nI i) := by
  have h' := h
  obtain ⟨⟨k1, k2, k3, k4, k5, k6, k7, k8, k9, k10⟩, ⟨a1, a2, a3, a4, a5⟩, ⟨u1, u2, u3, u4, u5, u6⟩, h1, h2, h3, h4⟩ := h'
  intro j
  induction j with
  | zero =>
    intro i v hi hv
    have hi2 : i = k := by omega
    unfold pq_Cn_takeEight_15
    refine ⟨fun _ => ⟨k1, k2, fun G1 e1 => ?_⟩, fun w => absurd (nI_le (by omega) (by omega)) w⟩
    rw [k9, pk_sub (by omega)] at e1
    have g9 : wo_gi G1 389 o = nI (out.length - k) := by rw [e1]; simp [wo_gi, wo_si, wo_u2]
    have g6 : wo_gr G1 386 o = some au := by rw [e1]; exact k6
    intro r hr r2 hr2
    refine ⟨au, hr.trans g6, au, hr2.trans g6, by rw [e1]; exact u1, by rw [e1]; exact u1, nI_pos (by omega), by decide, by rw [g9]; exact nI_pos (by omega), ?_, ?_, u3, ?_, fun G2 e2 => ?_⟩
    · rw [g9, nI_clamp (by omega), nI_clamp (by omega)]
      show _ ≤ wo_len G1 au
      rw [e1]
      show _ ≤ wo_len G au
      rw [u2]
      omega
    · rw [g9, nI_clamp (by omega), sb_cl0]
      show _ ≤ wo_len G1 au
      rw [e1]
      show _ ≤ wo_len G au
      rw [u2]
      omega
    · intro n hn
      rw [e1] at hn ⊢
      exact u5 n hn
    · rw [g9, nI_clamp (by omega), nI_clamp (by omega), sb_cl0] at e2
      have y : xt E (Rcn B) ow G ow G2 := by
        refine xt.of cc.2 ?_
        rw [e2, e1]
        exact fr_tr (fr_si (Or.inl k3)) (fr_cpI (Or.inr (Or.inr u4)))
      have er : wo_eq G G2 ar := by
        rw [e2, e1]
        exact ((wo_put_i (ty := .int) rfl).1 ar (fun e => by rw [e, k1] at a1; cases a1)).tr (wo_eq_cpI (fun e => by rw [e, u1] at a1; cases a1))
      have ee : ∀ n, wo_ei G2 au n = if n < out.length - k then wo_ei G au (k + n) else wo_ei G au n := by
        intro n
        rw [e2, wo_ei_cp]
        have q : ∀ m, wo_ei G1 au m = wo_ei G au m := fun m => by rw [e1]; rfl
        by_cases z : n < out.length - k
        · rw [pk_cpy_in (Nat.zero_le _) (by omega), if_pos z, q, Nat.sub_zero]
        · rw [pk_cpy_out (Or.inr (by omega)), if_neg z, q]
      have hv2 : te_go (out.take k) 0 = v := by
        rw [hv, hi2, List.drop_of_length_le (by rw [List.length_take]; omega)]
        rfl
      rw [hv2] at hp
      have hdl : (out.drop k).length = out.length - k := List.length_drop
      refine hp G2 y ⟨⟨?_, k2, k3, ?_, ?_, ?_, ?_, ?_, ?_, ?_⟩, ⟨er.1.trans a1, er.2.1.trans a2, a3, a4, fun t ht => (er.2.2.2.2.2.2.2 t).trans (a5 t ht)⟩, ⟨?_, ?_, u3, u4, fun n hn => ?_, fun n hn => ?_⟩, h1, h2, by omega, fun d hd => h4 d (List.mem_of_mem_drop hd)⟩
      · rw [e2, e1]; exact k1
      · rw [e2, e1]; exact k4
      · rw [e2, e1]; exact k5
      · rw [e2, e1]; exact k6
      · rw [e2, e1]; simpa [wo_gi, wo_si, wo_cpI, wo_u2] using k7
      · rw [e2, e1]; simpa [wo_gi, wo_si, wo_cpI, wo_u2] using k8
      · rw [e2, e1, hdl]; simp [wo_gi, wo_si, wo_cpI, wo_u2]
      · rw [e2, e1]; simpa [wo_gi, wo_si, wo_cpI, wo_u2] using k10
      · rw [e2, e1]; exact u1
      · rw [e2, e1]; exact u2
      · rw [e2, e1] at hn
        have hn2 : n < wo_len G au := hn
        rw [ee]
        by_cases z : n < out.length - k
        · rw [if_pos z]; exact u5 _ (by rw [u2]; omega)
        · rw [if_neg z]; exact u5 n hn2
      · rw [hdl] at hn
        rw [ee, if_pos hn, u6 _ (by omega)]
        rw [List.getD_eq_getElem?_getD, List.getD_eq_getElem?_getD, List.getElem?_drop]
  | succ j ih =>
    intro i v hi hv
    have hi2 : i < k := by omega
    unfold pq_Cn_takeEight_15
    refine ⟨fun w => absurd w (nI_ge hi2 (by omega)), fun _ => ⟨k1, fun r hr => ⟨au, hr.trans k6, u1, by rw [u2]; exact vp_in_nI (by omega) (by decide), ?_⟩⟩⟩
    rw [nI_clamp (by omega), u6 i (by omega), nI_1]
    refine ih (i + 1) _ (by omega) ?_
    rw [hv]
    have hl : i < (out.take k).length := by rw [List.length_take]; omega
    rw [tx_drop hl]
    have e : (out.take k).getD i 0 = out.getD i 0 := by
      rw [List.getD_eq_getElem?_getD, List.getD_eq_getElem?_getD, List.getElem?_take, if_pos hi2]
    rw [e]
    rfl
theorem sp_takeEight {Post : Int64 → wo_W → Prop} (cc : cx E ow G) (hB : 0 < B) (h : cn_k E ow B G o x ar au nh na out sh ra)
    (hp : ∀ G', xt E (Rcn B) ow G ow G' → cn_k E ow B G' o x ar au nh na (out.drop 8) sh ra → Post (te_go (out.take 8) 0) G') : pq_Cn_takeEight E mc ms Post G o := by
  have h' := h
  obtain ⟨⟨k1, k2, k3, k4, k5, k6, k7, k8, k9, k10⟩, _, _, h1, h2, h3, h4⟩ := h'
  unfold pq_Cn_takeEight pq_Cn_takeEight_0
  refine ⟨k1, min 8 out.length + 1, ?_⟩
  rw [k9, show (8 : Int32) = nI 8 from rfl, nI_min (by decide) (by omega)]
  have e1 : out.take (min 8 out.length) = out.take 8 := by
    rcases Nat.le_total 8 out.length with z | z
    · rw [Nat.min_eq_left z]
    · rw [Nat.min_eq_right z, List.take_of_length_le (Nat.le_refl _), List.take_of_length_le z]
  have e2 : out.drop (min 8 out.length) = out.drop 8 := by
    rcases Nat.le_total 8 out.length with z | z
    · rw [Nat.min_eq_left z]
    · rw [Nat.min_eq_right z, List.drop_of_length_le (Nat.le_refl _), List.drop_of_length_le z]
  refine sp_teLoop cc hB h rfl (fun G' y h5 => ?_) (min 8 out.length) 0 0 (by omega) rfl
  rw [e2] at h5
  rw [e1]
  exact hp G' y h5
end SP
