section MD
variable {E : wo_E} {mc ms m c s : Nat} {G0 G G1 G2 : wo_W} {ow : Nat → Nat} {A : Nat → Nat} {F K : Nat → Prop} {t : List Nat}
theorem fp_at.me {ps : List (Nat × Nat)} (hp : fp_at A G ps) (h : me E ow m A F G G1) (hf : nf F [953, 954]) : fp_at A G1 ps := by
  intro i hi
  rw [h.ei (f := 953) (k := 66) (n := 2) (by decide) (hf 953 (by decide)), h.ei (f := 954) (k := 66) (n := 2) (by decide) (hf 954 (by decide))]
  exact hp i hi
theorem dc_1 {v : Nat} (h : v < 10) : (dc_of v).length ≤ 1 := by rw [dc_lo h]; exact Nat.le_refl 1
theorem sb_8 {u : List Nat} {p e : Nat} (h : u.length ≤ 8) : (tx_sub u p e).length ≤ 8 := Nat.le_trans tx_sub_le h
theorem sp_ptLoop {Post : wo_W → Prop} {bd : List Nat} {r : Nat} {p : rpT} {q0 q1 : Nat × Nat} (hr : rr_at A G0 r p) (hr40 : r < 40) (hbd : p.2.1 = bd) (hps : fp_at A G0 [q0, q1]) (hq0 : q0.1 ≤ q0.2 ∧ q0.2 < bd.length) (hq1 : q1.1 ≤ q1.2 ∧ q1.2 < bd.length) : ∀ (k i : Nat), i + k = 2 → ∀ (G : wo_W) (t : List Nat), me E ow m A FT G0 G → tb_at m A G t → t.length ≤ 100 - 13 * k → (∀ G', me E ow m A FT G0 G' → tb_at m A G' (t ++ (if k = 2 then pz_of bd q0 ++ pz_of bd q1 else if k = 1 then pz_of bd q1 else [])) → Post G') → pq_Md_part_177 E mc ms Post (k + 1) G 0 0 m (nI r) (nI i) := by
  have nF : nf FT [929, 930, 931, 932, 933, 934, 935] := nfT (by decide)
  have nP : nf FT [953, 954] := nfT (by decide)
  have vr40 : vp_in (nI r) 40 := vp_in_nI hr40 (by decide)
  have cl : (nI r).toNatClampNeg = r := nI_clamp (by omega)
  have hbl : bd.length ≤ 8 := by rw [← hbd]; exact hr.2.2.1.2.2.1
  have hbb : ∀ c ∈ bd, c < 256 := by rw [← hbd]; exact hr.2.2.1.2.2.2
  intro k
  induction k with
  | zero =>
    intro i hi G t m0 ht hl hp
    unfold pq_Md_part_177
    have e : i = 2 := by omega
    subst e
    refine ⟨fun _ => hp G m0 ?_, fun w => absurd (by decide) w⟩
    rw [if_neg (by decide), if_neg (by decide), List.append_nil]
    exact ht
  | succ k ih =>
    intro i hi G t m0 ht hl hp
    have hi2 : i < 2 := by omega
    have vi : vp_in (nI i) 2 := vp_in_nI hi2 (by decide)
    have ci : (nI i).toNatClampNeg = i := nI_clamp (by omega)
    have hq : ∃ q : Nat × Nat, [q0, q1].getD i (0, 0) = q ∧ q.1 ≤ q.2 ∧ q.2 < bd.length := by
      have : i = 0 ∨ i = 1 := by omega
      rcases this with z | z
      · exact ⟨q0, by rw [z]; rfl, hq0⟩
      · exact ⟨q1, by rw [z]; rfl, hq1⟩
    obtain ⟨q, e0, h1, h2⟩ := hq
    have fp : ∀ G', me E ow m A FT G0 G' → wo_ei G' (A 953) i = nI q.1 ∧ wo_ei G' (A 954) i = nI q.2 := by
      intro G' m'
      have := (hps.me m' nP) i (by show i < 2; exact hi2)
      rw [e0] at this
      exact this
    unfold pq_Md_part_177
    refine ⟨fun w => absurd w (nI_ge (b := 2) hi2 (by decide)), fun _ => ⟨m0.2.1.1, m0.2.1.rd (f := 953) (k := 66) (n := 2) (by decide) vi ?_⟩⟩
    rw [ci, (fp G m0).1]
    refine m0.nu ht (Nat.zero_le _) (Nat.zero_le _) (by omega) (by omega) (fun G1 m1 t1 => ⟨m1.2.1.1, ?_⟩)
    have l1 := le_app hl (dc_1 (v := q.1) (by omega))
    refine m1.pu (b := 45) t1 (Nat.zero_le _) (Nat.zero_le _) (by omega) (fun G2 m2 t2 => ⟨m2.2.1.1, m2.2.1.rd (f := 954) (k := 66) (n := 2) (by decide) vi ?_⟩)
    have l2 := le_app l1 (show ([45] : List Nat).length ≤ 1 by simp)
    rw [(fp G2 m2).2]
    refine m2.nu t2 (Nat.zero_le _) (Nat.zero_le _) (by omega) (by omega) (fun G3 m3 t3 => ⟨m3.2.1.1, ?_⟩)
    have l3 := le_app l2 (dc_1 (v := q.2) (by omega))
    refine m3.pu (b := 61) t3 (Nat.zero_le _) (Nat.zero_le _) (by omega) (fun G4 m4 t4 => ⟨m4.2.1.1, m4.2.1.rd (f := 930) (k := 73) (n := 40) (by decide) vr40 (m4.2.1.rd (f := 953) (k := 66) (n := 2) (by decide) vi (m4.2.1.rd (f := 954) (k := 66) (n := 2) (by decide) vi ?_))⟩)
    have l4 := le_app l3 (show ([61] : List Nat).length ≤ 1 by simp)
    rw [(fp G4 m4).2, (fp G4 m4).1, cl, (hr.me m4 nF).2.2.1.1, nI_1 q.2, hbd]
    refine m4.by t4 (Nat.zero_le _) (Nat.zero_le _) hbb hbl (by omega) (by omega) (by omega) (fun G5 m5 t5 => ⟨m5.2.1.1, ?_⟩)
    have l5 := le_app l4 (sb_8 (u := bd) (p := q.1) (e := q.2 + 1) hbl)
    refine m5.pu (b := 10) t5 (Nat.zero_le _) (Nat.zero_le _) (by omega) (fun G6 m6 t6 => ?_)
    have l6 := le_app l5 (show ([10] : List Nat).length ≤ 1 by simp)
    rw [nI_1]
    refine ih (i + 1) (by omega) G6 _ m6 t6 (by omega) (fun G' m' t' => hp G' m' ?_)
    have : i = 0 ∨ i = 1 := by omega
    rcases this with z | z
    · have k1 : k = 1 := by omega
      rw [z] at e0
      have e1 : q0 = q := e0
      rw [k1, if_neg (by decide), if_pos rfl] at t'
      rw [k1, if_pos rfl, e1]
      have e9 : t ++ (pz_of bd q ++ pz_of bd q1) = t ++ dc_of q.1 ++ [45] ++ dc_of q.2 ++ [61] ++ tx_sub bd q.1 (q.2 + 1) ++ [10] ++ pz_of bd q1 := by simp [pz_of, sa_of, List.append_assoc]
      rw [e9]
      exact t'
    · have k1 : k = 0 := by omega
      rw [z] at e0
      have e1 : q1 = q := e0
      rw [k1, if_neg (by decide), if_neg (by decide), List.append_nil] at t'
      rw [k1, if_neg (by decide), if_pos rfl, e1]
      have e9 : t ++ (pz_of bd q) = t ++ dc_of q.1 ++ [45] ++ dc_of q.2 ++ [61] ++ tx_sub bd q.1 (q.2 + 1) ++ [10] := by simp [pz_of, sa_of, List.append_assoc]
      rw [e9]
      exact t'
theorem sp_mpart {Post : wo_W → Prop} {r : Nat} {p : rpT} {ag : Option Nat} {ps : List (Nat × Nat)} (h : md_k E ow m A G) (hb : ow_b E ow G) (hr : rr_at A G r p) (hr40 : r < 40) (ha : ∀ n, ag = some n → n < 10 ^ 9) (hps : fp_at A G ps) (h1 : 1 ≤ ps.length) (h2 : ps.length ≤ 2) (hpb : ∀ i, i < ps.length → (ps.getD i (0, 0)).1 ≤ (ps.getD i (0, 0)).2 ∧ (ps.getD i (0, 0)).2 < p.2.1.length) (hp : ∀ G', me E ow m A FT G G' → tb_at m A G' (pt_of p.1 p.2.2.1 p.2.1 p.2.2.2.1 p.2.2.2.2 ag ps) → Post G') : pq_Md_part E mc ms Post G m (nI r) (wh_I ag) (nI ps.length) := by
  have nF : nf FT [929, 930, 931, 932, 933, 934, 935] := nfT (by decide)
  have nP : nf FT [953, 954] := nfT (by decide)
  have vr40 : vp_in (nI r) 40 := vp_in_nI hr40 (by decide)
  have v0 : vp_in (0 : Int32) 2 := vp_in_nI (n := 0) (by decide) (by decide)
  have v1 : vp_in (1 : Int32) 2 := vp_in_nI (n := 1) (by decide) (by decide)
  have c0 : (0 : Int32).toNatClampNeg = 0 := by decide
  have c1 : (1 : Int32).toNatClampNeg = 1 := by decide
  have cl : (nI r).toNatClampNeg = r := nI_clamp (by omega)
  have hg := hr.2.2.2.2.1
  have hpo := hr.2.2.2.2.2.1.2.2.1
  have hbl := hr.2.2.1.2.2.1
  have hbb := hr.2.2.1.2.2.2
  have dl := ds_le (cd := 206) (l := p.1) (g := p.2.2.1) (po := p.2.2.2.1) (vr := p.2.2.2.2) (ag := ag) (by decide) hg hpo ha
  unfold pt_of at hp
  rw [if_neg (by omega)] at hp
  unfold pq_Md_part pq_Md_part_0
  refine ⟨h.1, 0, 0, Nat.zero_le _, Nat.zero_le _, sp_mhead (cd := 206) (by decide) h hb hr hr40 ha (fun G1 m1 t1 => ⟨m1.2.1.1, ?_⟩)⟩
  refine m1.na (b := 82) t1 (Nat.zero_le _) (Nat.zero_le _) (by omega) (fun G2 m2 t2 => ⟨fun w => ?_, fun w => ?_⟩)
  all_goals have l2 := le_app dl (show ([82, 58] : List Nat).length ≤ 2 by simp)
  · have n2 : ps.length = 2 := by
      have : ¬ ps.length = 1 := fun q => w (by rw [q]; rfl)
      omega
    obtain ⟨q0, q1, e0⟩ : ∃ q0 q1, ps = [q0, q1] := by
      match ps, n2 with
      | [q0, q1], _ => exact ⟨q0, q1, rfl⟩
    subst e0
    have hq0 : q0.1 ≤ q0.2 ∧ q0.2 < p.2.1.length := hpb 0 (by simp)
    have hq1 : q1.1 ≤ q1.2 ∧ q1.2 < p.2.1.length := hpb 1 (by simp)
    rw [if_neg (by simp)] at hp
    refine ⟨m2.2.1.1, m2.pu (b := 50) t2 (Nat.zero_le _) (Nat.zero_le _) (by omega) (fun G3 m3 t3 => ⟨m3.2.1.1, ?_⟩)⟩
    have l3 := le_app l2 (show ([50] : List Nat).length ≤ 1 by simp)
    refine m3.pu (b := 10) t3 (Nat.zero_le _) (Nat.zero_le _) (by omega) (fun G4 m4 t4 => ⟨m4.2.1.1, m4.2.1.rd (f := 954) (k := 66) (n := 2) (by decide) v0 (m4.2.1.rd (f := 953) (k := 66) (n := 2) (by decide) v0 (m4.2.1.rd (f := 954) (k := 66) (n := 2) (by decide) v1 (m4.2.1.rd (f := 953) (k := 66) (n := 2) (by decide) v1 ?_)))⟩)
    have l4 := le_app l3 (show ([10] : List Nat).length ≤ 1 by simp)
    have f4 := hps.me m4 nP
    have f40 := f4 0 (by simp)
    have f41 := f4 1 (by simp)
    rw [c0, c1, f40.1, f40.2, f41.1, f41.2]
    have ev : nI ([q0, q1].getD 0 (0, 0)).2 - nI ([q0, q1].getD 0 (0, 0)).1 + nI ([q0, q1].getD 1 (0, 0)).2 - nI ([q0, q1].getD 1 (0, 0)).1 + 12 = nI (q0.2 - q0.1 + (q1.2 - q1.1) + 12) := by
      show nI q0.2 - nI q0.1 + nI q1.2 - nI q1.1 + nI 12 = _
      rw [pk_sub hq0.1, nI_add, pk_sub (by omega), nI_add]
      congr 1
      omega
    rw [ev]
    refine m4.li (b := 76) t4 (Nat.zero_le _) (Nat.zero_le _) (by omega) (by omega) (fun G5 m5 t5 => ⟨m5.2.1.1, ?_⟩)
    have dv : (nl_of 76 (q0.2 - q0.1 + (q1.2 - q1.1) + 12)).length ≤ 5 := by
      rw [nl_of, dc_two (by omega) (by omega)]
      simp
    have l5 := le_app l4 dv
    refine m5.pu (b := 10) t5 (Nat.zero_le _) (Nat.zero_le _) (by omega) (fun G6 m6 t6 => ⟨3, ?_⟩)
    have l6 := le_app l5 (show ([10] : List Nat).length ≤ 1 by simp)
    have hps6 : fp_at A G [q0, q1] := hps
    refine sp_ptLoop (G0 := G) (i := 0) (k := 2) hr hr40 rfl hps6 hq0 hq1 rfl G6 _ m6 t6 (by omega) (fun G' m' t' => hp G' m' ?_)
    rw [if_pos rfl] at t'
    have e9 : ds_of 206 p.1 p.2.2.1 p.2.2.2.1 p.2.2.2.2 ag ++ tp_of p.2.1 ([q0, q1].getD 0 (0, 0)) ([q0, q1].getD 1 (0, 0)) = ds_of 206 p.1 p.2.2.1 p.2.2.2.1 p.2.2.2.2 ag ++ [82, 58] ++ [50] ++ [10] ++ nl_of 76 (q0.2 - q0.1 + (q1.2 - q1.1) + 12) ++ [10] ++ (pz_of p.2.1 q0 ++ pz_of p.2.1 q1) := by
      have : nl_of 82 2 = [82, 58, 50, 10] := by rw [nl_of, dc_lo (by decide)]; rfl
      simp [tp_of, this, List.append_assoc]
    rw [e9]
    exact t'
  · have n1 : ps.length = 1 := (nI_eq (b := 1) (by omega) (by decide)).mp w
    obtain ⟨q0, e0⟩ : ∃ q0, ps = [q0] := by
      match ps, n1 with
      | [q0], _ => exact ⟨q0, rfl⟩
    subst e0
    have hq0 : q0.1 ≤ q0.2 ∧ q0.2 < p.2.1.length := hpb 0 (by simp)
    rw [if_pos (show [q0].length = 1 from rfl)] at hp
    have fp : ∀ G', me E ow m A FT G G' → wo_ei G' (A 953) 0 = nI q0.1 ∧ wo_ei G' (A 954) 0 = nI q0.2 := fun G' m' => (hps.me m' nP) 0 (by simp)
    refine ⟨m2.2.1.1, m2.2.1.rd (f := 953) (k := 66) (n := 2) (by decide) v0 ?_⟩
    rw [c0, (fp G2 m2).1]
    refine m2.nu t2 (Nat.zero_le _) (Nat.zero_le _) (by omega) (by omega) (fun G3 m3 t3 => ⟨m3.2.1.1, ?_⟩)
    have l3 := le_app l2 (dc_1 (v := q0.1) (by omega))
    refine m3.pu (b := 45) t3 (Nat.zero_le _) (Nat.zero_le _) (by omega) (fun G4 m4 t4 => ⟨m4.2.1.1, m4.2.1.rd (f := 954) (k := 66) (n := 2) (by decide) v0 ?_⟩)
    have l4 := le_app l3 (show ([45] : List Nat).length ≤ 1 by simp)
    rw [(fp G4 m4).2]
    refine m4.nu t4 (Nat.zero_le _) (Nat.zero_le _) (by omega) (by omega) (fun G5 m5 t5 => ⟨m5.2.1.1, ?_⟩)
    have l5 := le_app l4 (dc_1 (v := q0.2) (by omega))
    refine m5.pu (b := 47) t5 (Nat.zero_le _) (Nat.zero_le _) (by omega) (fun G6 m6 t6 => ⟨m6.2.1.1, m6.2.1.rd (f := 931) (k := 66) (n := 40) (by decide) vr40 ?_⟩)
    have l6 := le_app l5 (show ([47] : List Nat).length ≤ 1 by simp)
    rw [cl, (hr.me m6 nF).2.2.1.2.1]
    refine m6.nu t6 (Nat.zero_le _) (Nat.zero_le _) (by omega) (by omega) (fun G7 m7 t7 => ⟨m7.2.1.1, ?_⟩)
    have l7 := le_app l6 (dc_1 (v := p.2.1.length) (by omega))
    refine m7.pu (b := 10) t7 (Nat.zero_le _) (Nat.zero_le _) (by omega) (fun G8 m8 t8 => ⟨m8.2.1.1, m8.2.1.rd (f := 954) (k := 66) (n := 2) (by decide) v0 (m8.2.1.rd (f := 953) (k := 66) (n := 2) (by decide) v0 ?_)⟩)
    have l8 := le_app l7 (show ([10] : List Nat).length ≤ 1 by simp)
    rw [(fp G8 m8).1, (fp G8 m8).2, pk_sub hq0.1, nI_1]
    refine m8.li (b := 76) t8 (Nat.zero_le _) (Nat.zero_le _) (by omega) (by omega) (fun G9 m9 t9 => ⟨m9.2.1.1, ?_⟩)
    have dv : (nl_of 76 (q0.2 - q0.1 + 1)).length ≤ 4 := by
      rw [nl_of, dc_lo (by omega)]
      simp
    have l9 := le_app l8 dv
    refine m9.pu (b := 10) t9 (Nat.zero_le _) (Nat.zero_le _) (by omega) (fun Ga ma ta => ⟨ma.2.1.1, ma.2.1.rd (f := 930) (k := 73) (n := 40) (by decide) vr40 (ma.2.1.rd (f := 953) (k := 66) (n := 2) (by decide) v0 (ma.2.1.rd (f := 954) (k := 66) (n := 2) (by decide) v0 ?_))⟩)
    have la := le_app l9 (show ([10] : List Nat).length ≤ 1 by simp)
    rw [(fp Ga ma).1, (fp Ga ma).2, (hr.me ma nF).2.2.1.1, nI_1]
    refine ma.by ta (Nat.zero_le _) (Nat.zero_le _) hbb hbl (by omega) (by omega) (by omega) (fun Gb mb tb => hp Gb mb ?_)
    have e9 : ds_of 206 p.1 p.2.2.1 p.2.2.2.1 p.2.2.2.2 ag ++ op_of p.2.1 ([q0].getD 0 (0, 0)) = ds_of 206 p.1 p.2.2.1 p.2.2.2.1 p.2.2.2.2 ag ++ [82, 58] ++ dc_of q0.1 ++ [45] ++ dc_of q0.2 ++ [47] ++ dc_of p.2.1.length ++ [10] ++ nl_of 76 (q0.2 - q0.1 + 1) ++ [10] ++ tx_sub p.2.1 q0.1 (q0.2 + 1) := by
      simp [op_of, sa_of, List.append_assoc]
    rw [e9]
    exact tb
end MD
