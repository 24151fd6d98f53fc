section SP
variable {E : wo_E} {mc ms m k : Nat} {A : Nat → Nat} {G G1 : wo_W} {x ca og so sh sj wl now c o cap tg t : Nat} {ow ow1 : Nat → Nat} {R : Nat → Prop} {raf : Nat → Nat → Nat} {cad : Nat → Nat} {cn : Nat → cnT} {rs : List roT} {ss : List sdT} {wt : List jobT} {sn : Nat → Option jobT} {S : hdT} {u : Nat} {j : jobT}
theorem ec_9 (h : ec_k E ow G x ca cad raf og so sh sj wl cn rs tg ss cap wt sn now) (cc : cx E ow G) (hb : js_b wt sn) (y : xt E R9 ow G ow1 G1) : ec_k E ow1 G1 x ca cad raf og so sh sj wl cn rs tg ss cap wt sn now := by
  obtain ⟨k1, k2, k3, k4, k5, k6, k7, k8⟩ := h
  have hR : ∀ r, R9 r → r ≠ 0 ∧ (r < 100 ∨ 200 ≤ r ∧ r < 1000) := fun r z => by rw [show r = 9 from z]; omega
  have hR2 : ∀ r, R9 r → r ≠ 0 ∧ r ≠ 70 ∧ r ≠ 71 ∧ (r < 200 ∨ 300 ≤ r) := fun r z => by rw [show r = 9 from z]; omega
  exact ⟨k1.xt y (by decide), k2.xt y (by decide), fun e he => cn_lo (k3 e he) he y hR, k4.xt cc y (by decide) (by decide) (by decide), k5.xt cc y (by decide) (by decide) (by decide), k6.xt cc y (by decide) (by decide), sj_lo k7 hb y hR2, wl_lo k8 cc hb y hR2⟩
theorem md_xt (h : md_k E ow m A G) (y : xt E Rec ow G ow1 G1) : md_k E ow1 m A G1 ∧ wo_eq G G1 m ∧ ∀ q ∈ md_tb, wo_eq G G1 (A q.1) := by
  obtain ⟨h1, h2, h3, h4, h5⟩ := h
  have zm : wo_ty G m ≠ 0 := by rw [h1]; decide
  have em := y.eq zm (fun z => z.2 h3)
  have nzk : ∀ q ∈ md_tb, q.2.1 ≠ 0 := by decide
  have ea : ∀ q ∈ md_tb, wo_ty G (A q.1) ≠ 0 ∧ wo_eq G G1 (A q.1) := fun q hq => by
    obtain ⟨a1, a2, a3, a4, a5⟩ := h4 q hq
    have za : wo_ty G (A q.1) ≠ 0 := by rw [a2]; exact nzk q hq
    exact ⟨za, y.eq za (fun z => z.2 a5)⟩
  refine ⟨⟨em.1.trans h1, h2, (y.w zm).trans h3, fun q hq => ?_, h5⟩, em, fun q hq => (ea q hq).2⟩
  obtain ⟨a1, a2, a3, a4, a5⟩ := h4 q hq
  obtain ⟨e1, e2⟩ := ea q hq
  exact ⟨(em.2.2.2.2.1 _).trans a1, e2.1.trans a2, e2.2.1.trans a3, a4, (y.w e1).trans a5⟩
theorem mr_Rec (h : mr E ow m A G S cap now k) (hb : ow_b E ow G) (y : xt E Rec ow G ow1 G1) : mr E ow1 m A G1 S cap now k := by
  obtain ⟨hk, hcn, hmo⟩ := h
  obtain ⟨k1, k2, k3⟩ := md_xt hk y
  -- a region map under which nothing of the reference has changed
  have mm : mf E (fun a => if wo_ty G1 a ≠ 0 ∧ en_bs E ≤ a then 9 else 0) m A (fun _ _ => False) G G1 := by
    refine ⟨⟨⟨?_, fun a _ => rfl, fun a ha => ?_⟩, ?_, fun q hq _ => ⟨fun i => (k3 q hq).2.2.2.2.2.1 i, fun i => (k3 q hq).2.2.2.2.2.2.1 i⟩, fun f _ => k2.2.2.1 f⟩, fun q hq i _ => ⟨(k3 q hq).2.2.2.2.2.1 i, (k3 q hq).2.2.2.2.2.2.1 i⟩⟩
    · refine fr_mn (fun a ha z => ?_) y.1
      show (if wo_ty G1 a ≠ 0 ∧ en_bs E ≤ a then 9 else 0) = 9
      have z : Rec (ow a) := z
      rw [if_pos ⟨y.nz ha, (hb a z.1).1⟩]
    · have ha : (if wo_ty G1 a ≠ 0 ∧ en_bs E ≤ a then 9 else 0) ≠ 0 := ha
      by_cases z : wo_ty G1 a ≠ 0 ∧ en_bs E ≤ a
      · exact ⟨z.2, z.1⟩
      · rw [if_neg z] at ha; exact absurd rfl ha
    · obtain ⟨h1, h2, h3, h4, h5⟩ := k1
      refine ⟨h1, h2, ?_, fun q hq => ?_, h5⟩
      · show (if wo_ty G1 m ≠ 0 ∧ en_bs E ≤ m then 9 else 0) = 9
        rw [if_pos ⟨by rw [h1]; decide, h2⟩]
      · obtain ⟨a1, a2, a3, a4, a5⟩ := h4 q hq
        refine ⟨a1, a2, a3, a4, ?_⟩
        show (if wo_ty G1 (A q.1) ≠ 0 ∧ en_bs E ≤ A q.1 then 9 else 0) = 9
        have nzk : ∀ q ∈ md_tb, q.2.1 ≠ 0 := by decide
        rw [if_pos ⟨by rw [a2]; exact nzk q hq, a4⟩]
  exact ⟨k1, fun c hc => mk.mf (hcn c hc) mm (fun f i _ z => z), mo_mf hmo mm (fun f i z => False.elim z)⟩
theorem ph_out {a h j c : Nat} (hc : c < 3) : ph a h j (cup cn c (ouc (cn c)), rs, tg, ss, wt, sn) = ph a h j (cn, rs, tg, ss, wt, sn) := by
  have e1 : pw a h j (ouc (cn c)) = pw a h j (cn c) := pw_eq rfl rfl
  have e2 := ph_c (a := a) (h := h) (j := j) (c := c) (cn := cn) (w := ouc (cn c)) (rs := rs) (rs' := rs) (tg := tg) (tg' := tg) (ss := ss) (ss' := ss) (wt := wt) (wt' := wt) (sn := sn) (sn' := sn) hc
  omega
theorem ph_or {a h jj : Nat} {i : jobT} {rs' : List roT} {tg' : Nat} (e : sn u = some j) : ph a h jj (cn, rs', tg', ss, wt, sup sn u (some i)) = ph a h jj (cn, rs, tg, ss, wt, sn) := by
  unfold ph
  simp only []
  rw [al_set e]
theorem spl_len {pa : List Nat} {rv : Nat → Nat → rqT} {o : Option jobT} : (spl_of pa rv o).toList.length = o.toList.length := by
  cases o with
  | none => rfl
  | some i =>
    show ((if (((rv i.1 i.2.1).1 = some 0 ∨ (rv i.1 i.2.1).1 = some 1) ∧ (rv i.1 i.2.1).2.1 = pa) then some (i.1, i.2.1, i.2.2.1, i.2.2.2.1, i.2.2.2.2.1, i.2.2.2.2.2.1, i.2.2.2.2.2.2.1, true) else some i) : Option jobT).toList.length = 1
    split <;> rfl
theorem al_arn : (al wt (sup (ar_n cn u j sn) u none)).length = (al wt (sup sn u none)).length := by
  unfold ar_n
  split
  · unfold al sup
    simp only [List.length_append]
    congr 2
    · by_cases z0 : 0 = u
      · rw [if_pos z0, if_pos z0]
      · rw [if_neg z0, if_neg z0]
        by_cases y : 0 = 1 - u
        · rw [if_pos y, spl_len, ← y]
        · rw [if_neg y]
    · by_cases z0 : 1 = u
      · rw [if_pos z0, if_pos z0]
      · rw [if_neg z0, if_neg z0]
        by_cases y : 1 = 1 - u
        · rw [if_pos y, spl_len, ← y]
        · rw [if_neg y]
  · rfl
theorem pw_arc {a h jj e : Nat} : pw a h jj (dvc (ar_c cn j e)) = pw a h jj (cn e) := by
  unfold ar_c
  by_cases z : e = j.1
  · subst z; rw [cup_c]; exact pw_eq rfl rfl
  · rw [cup_n z]; exact pw_eq rfl rfl
theorem ph_arr {a h jj : Nat} {ss' : List sdT} (hu : u < 2) (e : sn u = some j) : jj + ph a h jj ((fun e => dvc (ar_c cn j e)), rs, tg, ss', (sw_of now (wt, sup (ar_n cn u j sn) u none)).1, (sw_of now (wt, sup (ar_n cn u j sn) u none)).2) = ph a h jj (cn, rs, tg, ss, wt, sn) := by
  unfold ph
  simp only []
  rw [pw_arc, pw_arc, pw_arc, al_swo]
  simp only []
  rw [al_arn]
  have := al_rm (wt := wt) hu e
  rw [← this, Nat.mul_add, Nat.mul_one]
  omega
theorem ps_pw {a h jj n v e : Nat} {p : psT} : pw a h jj ((ps_1 n v p).1 e) = pw a h jj (p.1 e) := by
  unfold ps_1
  cases eu : p.2.1 v with
  | none => rfl
  | some i =>
    simp only [eu]
    by_cases z : 10 ≤ n - i.2.2.2.1
    · rw [if_pos z]
      show pw a h jj (cup p.1 i.1 (anc (p.1 i.1) i.2.1 (ba_of 504 0)) e) = _
      by_cases y : e = i.1
      · subst y; rw [cup_c]; exact pw_eq rfl rfl
      · rw [cup_n y]
    · rw [if_neg z]
theorem ps_al {n v : Nat} {p : psT} (hv : v < 2) : (al wt (ps_1 n v p).2.1).length ≤ (al wt p.2.1).length := by
  unfold ps_1
  cases eu : p.2.1 v with
  | none => exact Nat.le_refl _
  | some i =>
    simp only [eu]
    by_cases z : 10 ≤ n - i.2.2.2.1
    · rw [if_pos z]
      have := al_rm (wt := wt) hv eu
      show (al wt (sup p.2.1 v none)).length ≤ _
      omega
    · rw [if_neg z]; exact Nat.le_refl _
theorem ph_ps {a h jj n : Nat} : ph a h jj ((fun e => dvc ((ps_of n cn sn).1 e)), rs, tg, ss, (sw_of n (wt, (ps_of n cn sn).2.1)).1, (sw_of n (wt, (ps_of n cn sn).2.1)).2) ≤ ph a h jj (cn, rs, tg, ss, wt, sn) := by
  have e : ∀ e, pw a h jj (dvc ((ps_of n cn sn).1 e)) = pw a h jj (cn e) := fun e => by
    have e1 : pw a h jj (dvc ((ps_of n cn sn).1 e)) = pw a h jj ((ps_of n cn sn).1 e) := pw_eq rfl rfl
    rw [e1]
    unfold ps_of
    rw [ps_pw, ps_pw]
  unfold ph
  simp only []
  rw [e, e, e, al_swo]
  simp only []
  have h1 := ps_al (wt := wt) (n := n) (v := 1) (p := ps_1 n 0 (cn, sn, 0)) (by decide)
  have h2 := ps_al (wt := wt) (n := n) (v := 0) (p := (cn, sn, 0)) (by decide)
  have h3 : (al wt (ps_of n cn sn).2.1).length ≤ (al wt sn).length := Nat.le_trans h1 h2
  have := Nat.mul_le_mul_left jj h3
  omega
end SP
