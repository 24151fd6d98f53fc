def cp_of (i : Int32) : Nat := if i.toInt < 0 then 0 else if 300 < i.toInt then 300 else i.toInt.toNat
theorem cp_eq (i : Int32) : wo_max 0 (wo_min i 300) = nI (cp_of i) := by
  have t3 : (300 : Int32).toInt = 300 := by decide
  have t0 : (0 : Int32).toInt = 0 := by decide
  have lt := i.toInt_lt
  apply Int32.toInt_inj.mp
  unfold wo_max wo_min cp_of
  by_cases h3 : (300 : Int32) < i
  · have h3' := Int32.lt_iff_toInt_lt.mp h3
    rw [t3] at h3'
    rw [if_pos h3, if_pos (by decide), if_neg (by omega), if_pos (by omega)]
    decide
  · have h3' : ¬ 300 < i.toInt := fun z => h3 (Int32.lt_iff_toInt_lt.mpr (by rw [t3]; exact z))
    rw [if_neg h3]
    by_cases h0 : (0 : Int32) < i
    · have h0' := Int32.lt_iff_toInt_lt.mp h0
      rw [t0] at h0'
      rw [if_pos h0, if_neg (by omega), if_neg h3', nI_toInt (by omega)]
      omega
    · have h0' : ¬ 0 < i.toInt := fun z => h0 (Int32.lt_iff_toInt_lt.mpr (by rw [t0]; exact z))
      rw [if_neg h0]
      by_cases hn : i.toInt < 0
      · rw [if_pos hn]; decide
      · rw [if_neg hn, if_neg h3', nI_toInt (by omega), t0]
        omega
theorem cp_le (i : Int32) : cp_of i ≤ 300 := by
  unfold cp_of
  split
  · omega
  · split
    · omega
    · omega
section SP
variable {E : wo_E} {mc ms : Nat} {G G1 : wo_W} {ow ow1 : Nat → Nat} {R : Nat → Prop}
theorem sp_cnInit {Post : wo_W → Prop} {o c : Nat} {ra : Nat → Nat} (cc : cx E ow G) (hc3 : c < 3) (h1 : wo_ty G o = 7) (h2 : en_bs E ≤ o) (h3 : ow o = Bc c) (h4 : ∀ f, wo_gi G f o = 0) (hc : 10 ≤ mc) (hs : 745 ≤ ms) (hp : ∀ ow' G', xt E (fun r => r = Bc c ∨ r = Bc c + 1) ow G ow' G' → cn_a E ow' G' c o ra cn_0 → Post G') : pq_Cn_init E mc ms Post G o := by
  have hQ : 0 < Qc c ∧ Qc c < Bc c := by unfold Qc Bc; omega
  have B0 : ¬ (fun r => r = Bc c) 0 := by unfold Bc; omega
  have zo : wo_ty G o ≠ 0 := by rw [h1]; decide
  unfold pq_Cn_init pq_Cn_init_0
  refine ⟨by omega, by omega, fun x hx hxb G1 e1 => ⟨7, 72, by omega, by omega, ?_⟩⟩
  obtain ⟨y1, w1⟩ := xc_new (q := x) (k := 8) (r := Bc c + 1) cc hx hxb (by decide)
  rw [← e1] at y1
  generalize hw : ow_ex ow G (Bc c + 1) [x] = ow1 at y1 w1
  have c1 := cc.xt y1 (fun z => z)
  have tx1 : wo_ty G1 x = 8 := by rw [e1]; exact new_ty
  have zx1 : wo_ty G1 x ≠ 0 := by rw [tx1]; decide
  have o1 := y1.eq zo (fun z => z)
  have wo1 : ow1 o = Bc c := (y1.w zo).trans h3
  have zo1 : wo_ty G1 o ≠ 0 := by rw [o1.1]; exact zo
  refine sp_rdInit (B := Bc c) (Q := Qc c) c1 hQ tx1 hxb w1 (fun f => by rw [e1]; exact new_gi) (by omega) (by omega) (fun ow2 G2 y2 r2 => ?_)
  have nb : ¬ (fun r => r = Bc c + 1) 0 := by omega
  have c2 := c1.xt y2 nb
  have o2 := y2.eq zo1 (by rw [wo1]; omega)
  have wo2 : ow2 o = Bc c := (y2.w zo1).trans wo1
  have to2 : wo_ty G2 o = 7 := o2.1.trans (o1.1.trans h1)
  have zo2 : wo_ty G2 o ≠ 0 := by rw [to2]; decide
  refine ⟨to2, h2, fun G3 e3 => ⟨by decide, by decide, by omega, by show _ + 20 ≤ ms; omega, fun ar har harb G4 e4 => ⟨h2, fun G5 e5 => ⟨by decide, by decide, by omega, by show _ + 20 + 640 ≤ ms; omega, fun au hau haub G6 e6 => ⟨h2, fun G7 e7 => ?_⟩⟩⟩⟩⟩
  have y3 : xt E (fun r => r = Bc c) ow2 G2 ow2 G3 := xt.of c2.2 (by rw [e3]; exact fr_sr wo2)
  have c3 := c2.xt y3 B0
  have to3 : wo_ty G3 o = 7 := by rw [e3]; exact to2
  have zo3 : wo_ty G3 o ≠ 0 := by rw [to3]; decide
  obtain ⟨y4, f1, f2, f3, f4, f5, f6⟩ := xc_na (q := ar) (k := 68) (n := 20) (r := Bc c + 5) c3 har harb (by decide)
  have e4' : G4 = wo_na G3 ar 68 20 := e4
  rw [← e4'] at y4 f2 f3 f6
  generalize hw4 : ow_ex ow2 G3 (Bc c + 5) [ar] = ow4 at y4 f1
  have c4 := c3.xt y4 (fun z => z)
  have o4 := y4.eq zo3 (fun z => z)
  have wo4 : ow4 o = Bc c := (y4.w zo3).trans wo2
  have to4 : wo_ty G4 o = 7 := o4.1.trans to3
  have y5 : xt E (fun r => r = Bc c) ow4 G4 ow4 G5 := xt.of c4.2 (by rw [e5]; exact fr_sr wo4)
  have c5 := c4.xt y5 B0
  have to5 : wo_ty G5 o = 7 := by rw [e5]; exact to4
  have zo5 : wo_ty G5 o ≠ 0 := by rw [to5]; decide
  obtain ⟨y6, g1, g2, g3, g4, g5, g6⟩ := xc_na (q := au) (k := 69) (n := 640) (r := Bc c + 6) c5 hau haub (by decide)
  have e6' : G6 = wo_na G5 au 69 640 := e6
  rw [← e6'] at y6 g2 g3 g4
  generalize hw6 : ow_ex ow4 G5 (Bc c + 6) [au] = ow6 at y6 g1
  have c6 := c5.xt y6 (fun z => z)
  have o6 := y6.eq zo5 (fun z => z)
  have wo6 : ow6 o = Bc c := (y6.w zo5).trans wo4
  have to6 : wo_ty G6 o = 7 := o6.1.trans to5
  have y7 : xt E (fun r => r = Bc c) ow6 G6 ow6 G7 := xt.of c6.2 (by rw [e7]; exact fr_sr wo6)
  have y27 : xt E (fun r => r = Bc c) ow2 G2 ow6 G7 := (((y3.tr (y4.mn (fun _ z => False.elim z))).tr y5).tr (y6.mn (fun _ z => False.elim z))).tr y7
  have zar4 : wo_ty G4 ar ≠ 0 := by rw [f2]; decide
  have ar5 := y5.eq zar4 (by rw [f1]; omega)
  have zar5 : wo_ty G5 ar ≠ 0 := by rw [ar5.1]; exact zar4
  have ar6 := y6.eq zar5 (fun z => z)
  have zar6 : wo_ty G6 ar ≠ 0 := by rw [ar6.1]; exact zar5
  have war6 : ow6 ar = Bc c + 5 := (y6.w zar5).trans ((y5.w zar4).trans f1)
  have ar7 := y7.eq zar6 (by rw [war6]; omega)
  have zau6 : wo_ty G6 au ≠ 0 := by rw [g2]; decide
  have au7 := y7.eq zau6 (by rw [g1]; omega)
  have gi : ∀ f, wo_gi G7 f o = 0 := fun f => by
    rw [e7]
    show wo_gi G6 f o = 0
    rw [o6.2.2.1, e5]
    show wo_gi G4 f o = 0
    rw [o4.2.2.1, e3]
    show wo_gi G2 f o = 0
    rw [o2.2.2.1, o1.2.2.1]
    exact h4 f
  have g384 : wo_gr G7 384 o = some x := by
    rw [e7]
    have a : wo_gr (wo_sr G6 386 o (some au)) 384 o = wo_gr G6 384 o := by simp [wo_gr, wo_sr, wo_u2]
    rw [a, o6.2.2.2.2.1, e5]
    have b : wo_gr (wo_sr G4 385 o (some ar)) 384 o = wo_gr G4 384 o := by simp [wo_gr, wo_sr, wo_u2]
    rw [b, o4.2.2.2.2.1, e3]
    simp [wo_gr, wo_sr, wo_u2]
  have g385 : wo_gr G7 385 o = some ar := by
    rw [e7]
    have a : wo_gr (wo_sr G6 386 o (some au)) 385 o = wo_gr G6 385 o := by simp [wo_gr, wo_sr, wo_u2]
    rw [a, o6.2.2.2.2.1, e5]
    simp [wo_gr, wo_sr, wo_u2]
  have y17 : xt E (fun r => r = Bc c ∨ r = Bc c + 1) ow1 G1 ow6 G7 := (y2.mn (fun r z => Or.inr z)).tr (y27.mn (fun r z => Or.inl z))
  have yy : xt E (fun r => r = Bc c ∨ r = Bc c + 1) ow G ow6 G7 := (y1.mn (fun _ z => False.elim z)).tr y17
  refine hp ow6 G7 yy ⟨x, ar, au, ⟨⟨by rw [e7]; exact to6, h2, wo6, g384, g385, by rw [e7]; simp [wo_gr, wo_sr, wo_u2], by rw [gi]; rfl, by rw [gi]; rfl, by rw [gi]; rfl, by rw [gi]; rfl⟩, ⟨?_, ?_, harb, war6, fun t ht => absurd ht (Nat.not_lt_zero _)⟩, ⟨?_, ?_, haub, g1, fun i hi => ?_, fun i hi => absurd hi (Nat.not_lt_zero _)⟩, by decide, by decide, by simp [cn_0, c_out], fun d hd => (by cases hd)⟩, fun t ht => absurd ht (Nat.not_lt_zero _), fun _ => ?_⟩
  · rw [ar7.1, ar6.1, ar5.1]; exact f2
  · rw [ar7.2.1, ar6.2.1, ar5.2.1]; exact f3
  · rw [au7.1]; exact g2
  · rw [au7.2.1]; exact g3
  · rw [au7.2.2.2.2.2.1, g4]; rfl
  · exact r2.xt y27 B0 (fun k h1 h2 z => by have : Bc c + k = Bc c := z; omega) (by show ¬ Qc c + 0 = Bc c; omega)
set_option maxRecDepth 100000 in
theorem sp_ecLoop {Post : wo_W → Prop} {x ca og so sh sj wl cap : Nat} {raf : Nat → Nat → Nat} : ∀ (k c : Nat) (cad : Nat → Nat) (ow : Nat → Nat) (G : wo_W) (c2 s2 : Nat), c + k = 3 → cx E ow G → ec_o E ow G x ca og so sh sj wl 0 → (wo_ty G ca = 64 ∧ wo_len G ca = 3 ∧ ow ca = 7 ∧ en_bs E ≤ ca ∧ ∀ e, e < c → wo_er G ca e = some (cad e)) → (∀ e, e < c → cn_a E ow G e (cad e) (raf e) cn_0) → og_at E ow G og [] 0 → so_at E ow G so [] cap → sh_st E ow G sh → sj_at E ow G sj raf (fun _ => none) → wl_at E ow G wl raf [] → c2 + 11 * k ≤ mc → s2 + 760 * k ≤ ms →
    (∀ cad' ow' G', xt E (fun r => r = 7 ∨ 1000 ≤ r) ow G ow' G' → cx E ow' G' → ec_k E ow' G' x ca cad' raf og so sh sj wl (fun _ => cn_0) [] 0 [] cap [] (fun _ => none) 0 → Post G') → pq_EC_init_77 E mc ms Post (k + 1) G c2 s2 x (nI c) := by
  intro k
  induction k with
  | zero =>
    intro c cad ow G c2 s2 hk cc ho hca hcn h4 h5 h6 h7 h8 hc hs hp
    unfold pq_EC_init_77
    have hc3 : c = 3 := by omega
    rw [hc3] at hca hcn
    exact ⟨fun _ => hp cad ow G (xt.rf cc.2) cc ⟨ho, ⟨hca.1, hca.2.1, hca.2.2.1, hca.2.2.2.2⟩, hcn, h4, h5, h6, h7, h8⟩, fun w => absurd (by rw [hc3]; decide) w⟩
  | succ k ih =>
    intro c cad ow G c2 s2 hk cc ho hca hcn h4 h5 h6 h7 h8 hc hs hp
    have hc3 : c < 3 := by omega
    have zx : wo_ty G x ≠ 0 := by rw [ho.1]; decide
    have zca : wo_ty G ca ≠ 0 := by rw [hca.1]; decide
    unfold pq_EC_init_77
    refine ⟨fun w => absurd w (nI_lit3 hc3), fun _ => ⟨ho.1, fun r hr => ⟨by omega, by omega, fun o hon hob G1 e1 => ⟨10, 745, by omega, by omega, ?_⟩⟩⟩⟩
    obtain ⟨y1, w1⟩ := xc_new (q := o) (k := 7) (r := Bc c) cc hon hob (by decide)
    rw [← e1] at y1
    generalize hw : ow_ex ow G (Bc c) [o] = ow1 at y1 w1
    have c1 := cc.xt y1 (fun z => z)
    have to1 : wo_ty G1 o = 7 := by rw [e1]; exact new_ty
    refine sp_cnInit (ra := raf c) c1 hc3 to1 hob w1 (fun f => by rw [e1]; exact new_gi) (by omega) (by omega) (fun ow2 G2 y2 cn2 => ?_)
    have lo : ∀ r, r < 1000 → ¬ (fun r => r = Bc c ∨ r = Bc c + 1) r := fun r hr z => by rcases z with z | z <;> (unfold Bc at z; omega)
    have c2' := c1.xt y2 (lo 0 (by decide))
    have y12 : xt E (fun r => r = Bc c ∨ r = Bc c + 1) ow G ow2 G2 := (y1.mn (fun _ z => False.elim z)).tr y2
    have eca := y12.eq zca (by rw [hca.2.2.1]; exact lo 7 (by decide))
    have wca : ow2 ca = 7 := (y12.w zca).trans hca.2.2.1
    have to2 : wo_ty G2 o = 7 := by obtain ⟨_, _, _, q, _⟩ := cn2; exact q.1.1
    refine ⟨ca, hr.trans ho.2.2.2.1, eca.1.trans hca.1, by rw [eca.2.1, hca.2.1]; exact vp_in_nI hc3 (by decide), hca.2.2.2.1, fun a ha => (by cases ha; exact ⟨6, to2, by decide⟩), fun G3 e3 => ?_⟩
    rw [nI_clamp (by omega)] at e3
    have y3 : xt E (fun r => r = 7) ow2 G2 ow2 G3 := xt.of c2'.2 (by rw [e3]; exact fr_ser wca)
    have c3 := c2'.xt y3 (by decide)
    have n7 : ∀ r, r ≠ 7 → ¬ (fun r => r = 7) r := fun r h z => h z
    have y13 : xt E (fun r => r = 7 ∨ 1000 ≤ r) ow G ow2 G3 := (y12.mn (fun r z => by rcases z with z | z <;> (unfold Bc at z; right; omega))).tr (y3.mn (fun r z => Or.inl z))
    have ho2 := ho.xt y12 (lo 7 (by decide))
    have ho3 : ec_o E ow2 G3 x ca og so sh sj wl 0 := by
      obtain ⟨o1, o2, o3, o4, o5, o6, o7, o8, o9, o10⟩ := ho2
      rw [e3]
      exact ⟨o1, o2, o3, o4, o5, o6, o7, o8, o9, o10⟩
    rw [nI_1]
    refine ih (c + 1) (fun e => if e = c then o else cad e) ow2 G3 _ _ (by omega) c3 ho3 ⟨by rw [e3]; exact eca.1.trans hca.1, by rw [e3]; exact eca.2.1.trans hca.2.1, wca, hca.2.2.2.1, fun e he => ?_⟩ (fun e he => ?_) ((h4.xt cc y12 (lo 0 (by decide)) (lo 4 (by decide)) (lo 40 (by decide))).xt c2' y3 (by decide) (by decide) (by decide)) ((h5.xt cc y12 (lo 0 (by decide)) (lo 5 (by decide)) (lo 50 (by decide))).xt c2' y3 (by decide) (by decide) (by decide)) ((h6.xt cc y12 (lo 0 (by decide)) (lo 6 (by decide))).xt c2' y3 (by decide) (by decide)) ((h7.xt y12 (lo 0 (by decide)) (lo 71 (by decide)) (fun u j hu e => (by cases e))).xt y3 (by decide) (by decide) (fun u j hu e => (by cases e))) ((h8.xt cc y12 (lo 0 (by decide)) (lo 70 (by decide)) (fun j hj => (by cases hj))).xt c2' y3 (by decide) (by decide) (fun j hj => (by cases hj))) (by omega) (by omega) (fun cad' ow' G' y4 c4 k4 => hp cad' ow' G' (y13.tr y4) c4 k4)
    · have e5 : wo_er G3 ca e = if e = c then some o else wo_er G2 ca e := by rw [e3]; simp [wo_er, wo_ser, wo_u2]
      rw [e5]
      by_cases z : e = c
      · rw [if_pos z]; simp [z]
      · rw [if_neg z, eca.2.2.2.2.2.2.2, hca.2.2.2.2 e (by omega)]; simp [z]
    · by_cases z : e = c
      · simp only [if_pos z]
        rw [z]
        exact cn2.xt y3 (by decide) (fun k hk z => by have z2 : Bc c + k = 7 := z; unfold Bc at z2; omega) (fun t ht z => by have z2 : Qc c + t = 7 := z; unfold Qc at z2; omega)
      · simp only [if_neg z]
        have a := (hcn e (by omega)).xt y12 (lo 0 (by decide)) (fun k hk z => by rcases z with z | z <;> (unfold Bc at z; omega)) (fun t ht z => by rcases z with z | z <;> (unfold Bc Qc at z; omega))
        exact a.xt y3 (by decide) (fun k hk z => by have z2 : Bc e + k = 7 := z; unfold Bc at z2; omega) (fun t ht z => by have z2 : Qc e + t = 7 := z; unfold Qc at z2; omega)
set_option maxRecDepth 100000 in
theorem sp_ecInit {Post : wo_W → Prop} {x : Nat} {i : Int32} (cc : cx E ow G) (h1 : wo_ty G x = 1) (h2 : en_bs E ≤ x) (h3 : ow x = 7) (h4 : wo_gi G 6 x = 0) (hc : 60 ≤ mc) (hs : 2500 ≤ ms)
    (hp : ∀ ca cad raf og so sh sj wl ow' G', xt E Rec ow G ow' G' → cx E ow' G' → ec_k E ow' G' x ca cad raf og so sh sj wl (fun _ => cn_0) [] 0 [] (cp_of i) [] (fun _ => none) 0 → Post G') : pq_EC_init E mc ms Post G x i := by
  have zx : wo_ty G x ≠ 0 := by rw [h1]; decide
  have step : ∀ {ow : Nat → Nat} {G : wo_W} {f q : Nat}, cx E ow G → ow x = 7 → xt E (fun r => r = 7) ow G ow (wo_sr G f x (some q)) ∧ cx E ow (wo_sr G f x (some q)) := fun {ow G f q} cc hw =>
    ⟨xt.of cc.2 (fr_sr hw), cc.xt (xt.of (R := fun r => r = 7) cc.2 (fr_sr hw)) (by decide)⟩
  have F : ∀ {G : wo_W} {f q : Nat}, wo_ty (wo_sr G f x (some q)) x = wo_ty G x := fun {G f q} => rfl
  unfold pq_EC_init pq_EC_init_0
  refine ⟨by decide, by decide, by omega, by show 0 + 3 ≤ ms; omega, fun ca hca hcab G1 e1 => ?_⟩
  have e1' : G1 = wo_na G ca 64 3 := e1
  obtain ⟨y1, a1, a2, a3, a4, a5, a6⟩ := xc_na (q := ca) (k := 64) (n := 3) (r := 7) cc hca hcab (by decide)
  rw [← e1'] at y1 a2 a3
  generalize hw1 : ow_ex ow G 7 [ca] = ow1 at y1 a1
  have c1 := cc.xt y1 (fun z => z)
  have x1 := y1.eq zx (fun z => z)
  have t1 : wo_ty G1 x = 1 := x1.1.trans h1
  have w1 : ow1 x = 7 := (y1.w zx).trans h3
  have zca1 : wo_ty G1 ca ≠ 0 := by rw [a2]; decide
  refine ⟨t1, h2, fun G2 e2 => ⟨by omega, by show 0 + 3 + 2 ≤ ms; omega, fun og hog hogb G3 e3 => ⟨1, 3, by omega, by show 0 + 3 + 2 + 3 ≤ ms; omega, ?_⟩⟩⟩
  obtain ⟨y2, c2⟩ := step (f := 0) (q := ca) c1 w1
  rw [← e2] at y2 c2
  have t2 : wo_ty G2 x = 1 := by rw [e2]; exact t1
  have z2 : wo_ty G2 x ≠ 0 := by rw [t2]; decide
  have cax : ca ≠ x := fun e => by rw [e, t1] at a2; cases a2
  have ca2 : wo_eq G1 G2 ca := by rw [e2]; exact (wo_put_r (ty := .array .int) rfl).1 ca cax
  obtain ⟨y3, w3⟩ := xc_new (q := og) (k := 2) (r := 4) c2 hog hogb (by decide)
  rw [← e3] at y3
  generalize hw3 : ow_ex ow1 G2 4 [og] = ow3 at y3 w3
  have c3 := c2.xt y3 (fun z => z)
  have tog3 : wo_ty G3 og = 2 := by rw [e3]; exact new_ty
  refine sp_ogInit c3 tog3 hogb w3 (by rw [e3]; exact new_gi) (by omega) (by omega) (fun ow4 G4 y4 og4 => ?_)
  have c4 := c3.xt y4 (by decide)
  have y24 : xt E (fun r => r = 4) ow1 G2 ow4 G4 := (y3.mn (fun _ z => False.elim z)).tr y4
  have x4 := y24.eq z2 (by rw [w1]; decide)
  have t4 : wo_ty G4 x = 1 := x4.1.trans t2
  have w4 : ow4 x = 7 := (y24.w z2).trans w1
  have zca2 : wo_ty G2 ca ≠ 0 := by rw [ca2.1]; exact zca1
  have ca4 := y24.eq zca2 (by rw [a1]; decide)
  have wca4 : ow4 ca = 7 := (y24.w zca2).trans a1
  refine ⟨t4, h2, fun G5 e5 => ⟨by omega, by show 0 + 3 + 2 + 3 + 4 ≤ ms; omega, fun sh hsh hshb G6 e6 => ⟨4, 24, by omega, by show 0 + 3 + 2 + 3 + 4 + 24 ≤ ms; omega, ?_⟩⟩⟩
  obtain ⟨y5, c5⟩ := step (f := 1) (q := og) c4 w4
  rw [← e5] at y5 c5
  have t5 : wo_ty G5 x = 1 := by rw [e5]; exact t4
  have z5 : wo_ty G5 x ≠ 0 := by rw [t5]; decide
  have og5 := og4.xt c4 y5 (by decide) (by decide) (by decide)
  have zca4 : wo_ty G4 ca ≠ 0 := by rw [ca4.1]; exact zca2
  have ca5 : wo_eq G4 G5 ca := by rw [e5]; exact (wo_put_r (ty := .array .int) rfl).1 ca cax
  obtain ⟨y6, w6⟩ := xc_new (q := sh) (k := 4) (r := 6) c5 hsh hshb (by decide)
  rw [← e6] at y6
  generalize hw6 : ow_ex ow4 G5 6 [sh] = ow6 at y6 w6
  have c6 := c5.xt y6 (fun z => z)
  have tsh6 : wo_ty G6 sh = 4 := by rw [e6]; exact new_ty
  refine sp_shInit c6 tsh6 hshb w6 (by rw [e6]; exact new_gi) (by omega) (by omega) (fun ow7 G7 y7 sh7 => ?_)
  have c7 := c6.xt y7 (by decide)
  have y57 : xt E R6 ow4 G5 ow7 G7 := (y6.mn (fun _ z => False.elim z)).tr y7
  have x7 := y57.eq z5 (by rw [w4]; decide)
  have t7 : wo_ty G7 x = 1 := x7.1.trans t5
  have w7 : ow7 x = 7 := (y57.w z5).trans w4
  have og7 := og5.xt c5 y57 (by decide) (by decide) (by decide)
  have zca5 : wo_ty G5 ca ≠ 0 := by rw [ca5.1]; exact zca4
  have ca7 := y57.eq zca5 (by rw [wca4]; decide)
  have wca7 : ow7 ca = 7 := (y57.w zca5).trans wca4
  have zca7 : wo_ty G7 ca ≠ 0 := by rw [ca7.1]; exact zca5
  refine ⟨t7, h2, fun G8 e8 => ⟨by decide, by decide, by omega, by show 0 + 3 + 2 + 3 + 4 + 24 + 2 ≤ ms; omega, fun sj hsj hsjb G9 e9 => ⟨h2, fun G10 e10 => ⟨by omega, by show 0 + 3 + 2 + 3 + 4 + 24 + 2 + 3 ≤ ms; omega, fun wl hwl hwlb G11 e11 => ⟨0, 0, by omega, by show 0 + 3 + 2 + 3 + 4 + 24 + 2 + 3 + 0 ≤ ms; omega, ?_⟩⟩⟩⟩⟩
  obtain ⟨y8, c8⟩ := step (f := 3) (q := sh) c7 w7
  rw [← e8] at y8 c8
  have t8 : wo_ty G8 x = 1 := by rw [e8]; exact t7
  have z8 : wo_ty G8 x ≠ 0 := by rw [t8]; decide
  have og8 := og7.xt c7 y8 (by decide) (by decide) (by decide)
  have sh8 := sh7.xt c7 y8 (by decide) (by decide)
  have ca8 : wo_eq G7 G8 ca := by rw [e8]; exact (wo_put_r (ty := .array .int) rfl).1 ca cax
  have zca8 : wo_ty G8 ca ≠ 0 := by rw [ca8.1]; exact zca7
  have e9' : G9 = wo_na G8 sj 67 2 := e9
  obtain ⟨y9, b1, b2, b3, b4, b5, b6⟩ := xc_na (q := sj) (k := 67) (n := 2) (r := 71) c8 hsj hsjb (by decide)
  rw [← e9'] at y9 b2 b3 b6
  generalize hw9 : ow_ex ow7 G8 71 [sj] = ow9 at y9 b1
  have c9 := c8.xt y9 (fun z => z)
  have x9 := y9.eq z8 (fun z => z)
  have t9 : wo_ty G9 x = 1 := x9.1.trans t8
  have w9 : ow9 x = 7 := (y9.w z8).trans w7
  have og9 := og8.xt c8 y9 (fun z => z) (fun z => z) (fun z => z)
  have sh9 := sh8.xt c8 y9 (fun z => z) (fun z => z)
  have ca9 := y9.eq zca8 (fun z => z)
  have wca9 : ow9 ca = 7 := (y9.w zca8).trans wca7
  have zca9 : wo_ty G9 ca ≠ 0 := by rw [ca9.1]; exact zca8
  have sj9 : sj_at E ow9 G9 sj (fun _ _ => 0) (fun _ => none) := ⟨b2, b3, hsjb, b1, fun u hu => by rw [b6]; trivial⟩
  obtain ⟨y10, c10⟩ := step (f := 4) (q := sj) c9 w9
  rw [← e10] at y10 c10
  have t10 : wo_ty G10 x = 1 := by rw [e10]; exact t9
  have z10 : wo_ty G10 x ≠ 0 := by rw [t10]; decide
  have og10 := og9.xt c9 y10 (by decide) (by decide) (by decide)
  have sh10 := sh9.xt c9 y10 (by decide) (by decide)
  have sj10 := sj9.xt y10 (by decide) (by decide) (fun u j hu e => (by cases e))
  have ca10 : wo_eq G9 G10 ca := by rw [e10]; exact (wo_put_r (ty := .array .int) rfl).1 ca cax
  have zca10 : wo_ty G10 ca ≠ 0 := by rw [ca10.1]; exact zca9
  rw [e11]
  refine xc_al (r := 70) c10 hwl hwlb (fun ow12 G12 y12 l12 => ?_)
  have c12 := c10.xt y12 (fun z => z)
  have x12 := y12.eq z10 (fun z => z)
  have t12 : wo_ty G12 x = 1 := x12.1.trans t10
  have w12 : ow12 x = 7 := (y12.w z10).trans w9
  have og12 := og10.xt c10 y12 (fun z => z) (fun z => z) (fun z => z)
  have sh12 := sh10.xt c10 y12 (fun z => z) (fun z => z)
  have sj12 := sj10.xt y12 (fun z => z) (fun z => z) (fun u j hu e => (by cases e))
  have ca12 := y12.eq zca10 (fun z => z)
  have wca12 : ow12 ca = 7 := (y12.w zca10).trans wca9
  have zca12 : wo_ty G12 ca ≠ 0 := by rw [ca12.1]; exact zca10
  have wl12 : wl_at E ow12 G12 wl (fun _ _ => 0) [] := ⟨en_sta E 0, [], l12, rfl, fun i hi => absurd hi (Nat.not_lt_zero _)⟩
  refine ⟨t12, h2, fun G13 e13 => ⟨by omega, by show 0 + 3 + 2 + 3 + 4 + 24 + 2 + 3 + 0 + 3 ≤ ms; omega, fun so hso hsob G14 e14 => ⟨1, 3, by omega, by show 0 + 3 + 2 + 3 + 4 + 24 + 2 + 3 + 0 + 3 + 3 ≤ ms; omega, ?_⟩⟩⟩
  obtain ⟨y13, c13⟩ := step (f := 5) (q := wl) c12 w12
  rw [← e13] at y13 c13
  have t13 : wo_ty G13 x = 1 := by rw [e13]; exact t12
  have z13 : wo_ty G13 x ≠ 0 := by rw [t13]; decide
  have og13 := og12.xt c12 y13 (by decide) (by decide) (by decide)
  have sh13 := sh12.xt c12 y13 (by decide) (by decide)
  have sj13 := sj12.xt y13 (by decide) (by decide) (fun u j hu e => (by cases e))
  have wl13 := wl12.xt c12 y13 (by decide) (by decide) (fun j hj => (by cases hj))
  have ca13 : wo_eq G12 G13 ca := by rw [e13]; exact (wo_put_r (ty := .array .int) rfl).1 ca cax
  have zca13 : wo_ty G13 ca ≠ 0 := by rw [ca13.1]; exact zca12
  obtain ⟨y14, w14⟩ := xc_new (q := so) (k := 6) (r := 5) c13 hso hsob (by decide)
  rw [← e14] at y14
  generalize hw14 : ow_ex ow12 G13 5 [so] = ow14 at y14 w14
  have c14 := c13.xt y14 (fun z => z)
  have tso14 : wo_ty G14 so = 6 := by rw [e14]; exact new_ty
  rw [cp_eq]
  refine sp_soInit (cap := cp_of i) c14 tso14 hsob w14 (by rw [e14]; exact new_gi) (by omega) (by omega) (fun ow15 G15 y15 so15 => ?_)
  have c15 := c14.xt y15 (by decide)
  have yA : xt E (fun r => r = 5) ow12 G13 ow15 G15 := (y14.mn (fun _ z => False.elim z)).tr y15
  have x15 := yA.eq z13 (by rw [w12]; decide)
  have t15 : wo_ty G15 x = 1 := x15.1.trans t13
  have w15 : ow15 x = 7 := (yA.w z13).trans w12
  have og15 := og13.xt c13 yA (by decide) (by decide) (by decide)
  have sh15 := sh13.xt c13 yA (by decide) (by decide)
  have sj15 := sj13.xt yA (by decide) (by decide) (fun u j hu e => (by cases e))
  have wl15 := wl13.xt c13 yA (by decide) (by decide) (fun j hj => (by cases hj))
  have ca15 := yA.eq zca13 (by rw [wca12]; decide)
  have wca15 : ow15 ca = 7 := (yA.w zca13).trans wca12
  refine ⟨t15, h2, fun G16 e16 => ⟨4, ?_⟩⟩
  obtain ⟨y16, c16⟩ := step (f := 2) (q := so) c15 w15
  rw [← e16] at y16 c16
  have og16 := og15.xt c15 y16 (by decide) (by decide) (by decide)
  have so16 := so15.xt c15 y16 (by decide) (by decide) (by decide)
  have sh16 := sh15.xt c15 y16 (by decide) (by decide)
  have sj16 := sj15.xt y16 (by decide) (by decide) (fun u j hu e => (by cases e))
  have wl16 := wl15.xt c15 y16 (by decide) (by decide) (fun j hj => (by cases hj))
  have ca16 : wo_eq G15 G16 ca := by rw [e16]; exact (wo_put_r (ty := .array .int) rfl).1 ca cax
  have cat : wo_ty G16 ca = 64 ∧ wo_len G16 ca = 3 := by
    refine ⟨?_, ?_⟩
    · rw [ca16.1, ca15.1, ca13.1, ca12.1, ca10.1, ca9.1, ca8.1, ca7.1, ca5.1, ca4.1, ca2.1]; exact a2
    · rw [ca16.2.1, ca15.2.1, ca13.2.1, ca12.2.1, ca10.2.1, ca9.2.1, ca8.2.1, ca7.2.1, ca5.2.1, ca4.2.1, ca2.2.1]; exact a3
  have gr : ∀ f, f ≠ 2 → wo_gr G16 f x = wo_gr G13 f x := fun f hf => by
    have : wo_gr G16 f x = wo_gr G15 f x := by rw [e16]; simp [wo_gr, wo_sr, wo_u2, hf]
    rw [this, x15.2.2.2.2.1]
  have gr10 : ∀ f, f ≠ 2 → f ≠ 5 → wo_gr G16 f x = wo_gr G10 f x := fun f h5 h6 => by
    have : wo_gr G13 f x = wo_gr G12 f x := by rw [e13]; simp [wo_gr, wo_sr, wo_u2, h6]
    rw [gr f h5, this, x12.2.2.2.2.1]
  have gr8 : ∀ f, f ≠ 2 → f ≠ 5 → f ≠ 4 → wo_gr G16 f x = wo_gr G8 f x := fun f h5 h6 h7 => by
    have : wo_gr G10 f x = wo_gr G9 f x := by rw [e10]; simp [wo_gr, wo_sr, wo_u2, h7]
    rw [gr10 f h5 h6, this, x9.2.2.2.2.1]
  have gr5 : ∀ f, f ≠ 2 → f ≠ 5 → f ≠ 4 → f ≠ 3 → wo_gr G16 f x = wo_gr G5 f x := fun f h5 h6 h7 h8 => by
    have : wo_gr G8 f x = wo_gr G7 f x := by rw [e8]; simp [wo_gr, wo_sr, wo_u2, h8]
    rw [gr8 f h5 h6 h7, this, x7.2.2.2.2.1]
  have g0 : wo_gr G16 0 x = some ca := by
    have : wo_gr G5 0 x = wo_gr G4 0 x := by rw [e5]; simp [wo_gr, wo_sr, wo_u2]
    rw [gr5 0 (by decide) (by decide) (by decide) (by decide), this, x4.2.2.2.2.1, e2]
    simp [wo_gr, wo_sr, wo_u2]
  have gi6 : wo_gi G16 6 x = 0 := by
    rw [e16]; show wo_gi G15 6 x = 0
    rw [x15.2.2.1, e13]; show wo_gi G12 6 x = 0
    rw [x12.2.2.1, e10]; show wo_gi G9 6 x = 0
    rw [x9.2.2.1, e8]; show wo_gi G7 6 x = 0
    rw [x7.2.2.1, e5]; show wo_gi G4 6 x = 0
    rw [x4.2.2.1, e2]; show wo_gi G1 6 x = 0
    rw [x1.2.2.1]; exact h4
  have eo16 : ec_o E ow15 G16 x ca og so sh sj wl 0 := by
    refine ⟨by rw [e16]; exact t15, h2, w15, g0, ?_, ?_, ?_, ?_, ?_, by rw [gi6]; rfl⟩
    · rw [gr5 1 (by decide) (by decide) (by decide) (by decide), e5]; simp [wo_gr, wo_sr, wo_u2]
    · rw [e16]; simp [wo_gr, wo_sr, wo_u2]
    · rw [gr8 3 (by decide) (by decide) (by decide), e8]; simp [wo_gr, wo_sr, wo_u2]
    · rw [gr10 4 (by decide) (by decide), e10]; simp [wo_gr, wo_sr, wo_u2]
    · rw [gr 5 (by decide), e13]; simp [wo_gr, wo_sr, wo_u2]
  have yy : xt E Rec ow G ow15 G16 := by
    have m7 : ∀ r, (fun r => r = 7) r → Rec r := fun r z => by rw [show r = 7 from z]; exact ⟨by decide, by decide⟩
    have m4 : ∀ r, (fun r => r = 4) r → Rec r := fun r z => by rw [show r = 4 from z]; exact ⟨by decide, by decide⟩
    have m5 : ∀ r, (fun r => r = 5) r → Rec r := fun r z => by rw [show r = 5 from z]; exact ⟨by decide, by decide⟩
    have mf : ∀ r, (fun _ : Nat => False) r → Rec r := fun r z => False.elim z
    exact ((((((((((y1.mn mf).tr (y2.mn m7)).tr (y24.mn m4)).tr (y5.mn m7)).tr (y57.mn R6_e)).tr (y8.mn m7)).tr (y9.mn mf)).tr (y10.mn m7)).tr (y12.mn mf)).tr (y13.mn m7)).tr ((yA.mn m5).tr (y16.mn m7))
  rw [show (0 : Int32) = nI 0 from rfl]
  refine sp_ecLoop (raf := fun _ _ => 0) 3 0 (fun _ => 0) ow15 G16 _ _ rfl c16 eo16 ⟨cat.1, cat.2, wca15, hcab, fun e he => absurd he (Nat.not_lt_zero _)⟩ (fun e he => absurd he (Nat.not_lt_zero _)) og16 so16 sh16 sj16 wl16 (by omega) (by show 0 + 3 + 2 + 3 + 4 + 24 + 2 + 3 + 0 + 3 + 3 + 760 * 3 ≤ ms; omega) (fun cad' ow' G' y17 c17 k17 => hp ca cad' _ og so sh sj wl ow' G' (yy.tr (y17.mn (fun r z => ?_))) c17 k17)
  rcases z with z | z <;> constructor <;> omega
end SP
