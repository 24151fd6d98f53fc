def cn_0 : cnT := ([], rd_0, false, 0, 0, [], fun _ => (none, [], [], fun _ => none), fun _ => none)
section SP
variable {E : wo_E} {mc ms : Nat} {G G1 : wo_W} {ow ow1 : Nat → Nat} {R : Nat → Prop}
theorem new_gi {q k f : Nat} : wo_gi (wo_new G q k) f q = 0 := by simp [wo_gi, wo_new, wo_uc]
theorem new_gr {q k f : Nat} : wo_gr (wo_new G q k) f q = none := by simp [wo_gr, wo_new, wo_uc]
theorem new_ty {q k : Nat} : wo_ty (wo_new G q k) q = k := by simp [wo_ty, wo_new, wo_u1]
theorem xc_new {q k r : Nat} (cc : cx E ow G) (hq : wo_ty G q = 0) (hqb : en_bs E ≤ q) (hk : k ≠ 0) : xt E (fun _ => False) ow G (ow_ex ow G r [q]) (wo_new G q k) ∧ ow_ex ow G r [q] q = r :=
  ⟨xt.ex cc.2 (fun z hz _ => by rw [List.mem_singleton.mp hz]; exact ⟨hqb, by rw [new_ty]; exact hk⟩) (fr_new hq), ow_new hq (List.mem_singleton.mpr rfl)⟩
theorem xc_na {q k n r : Nat} (cc : cx E ow G) (hq : wo_ty G q = 0) (hqb : en_bs E ≤ q) (hk : k ≠ 0) : xt E (fun _ => False) ow G (ow_ex ow G r [q]) (wo_na G q k n) ∧ ow_ex ow G r [q] q = r ∧ wo_ty (wo_na G q k n) q = k ∧ wo_len (wo_na G q k n) q = n ∧ (∀ i, wo_ei (wo_na G q k n) q i = 0) ∧ (∀ i, wo_el (wo_na G q k n) q i = 0) ∧ ∀ i, wo_er (wo_na G q k n) q i = none := by
  have t : wo_ty (wo_na G q k n) q = k := by simp [wo_ty, wo_na, wo_u1]
  refine ⟨xt.ex cc.2 (fun z hz _ => by rw [List.mem_singleton.mp hz]; exact ⟨hqb, by rw [t]; exact hk⟩) (fr_na hq), ow_new hq (List.mem_singleton.mpr rfl), t, by simp [wo_len, wo_na, wo_u1], fun i => by simp [wo_ei, wo_na, wo_ur], fun i => by simp [wo_el, wo_na, wo_ur], fun i => by simp [wo_er, wo_na, wo_ur]⟩
theorem xc_sb {Post : wo_W → Prop} {q r : Nat} (cc : cx E ow G) (hq : wo_ty G q = 0) (hqb : en_bs E ≤ q) (h1 : 1 ≤ mc) (h2 : 16 ≤ ms) (hp : ∀ ow' G', xt E (fun _ => False) ow G ow' G' → sb_st E ow' r G' q [] → Post G') : pq_SB_init E mc ms Post (wo_new G q 5) q := by
  refine sp_sbInit new_ty hqb new_gi h1 h2 (fun v G' hv k f hl => ?_)
  have hv0 : wo_ty G v = 0 := fr_new0 (fr_new (W := fr_0) (k := 5) hq) hv
  have qv : v ≠ q := fun e => by rw [e, new_ty] at hv; cases hv
  have f0 : fr_W fr_0 G G' := fr_mn (fun a ha e => ha (by rw [e]; exact hq)) (fr_tr (fr_new hq) f)
  have x : xt E (fun _ => False) ow G (ow_ex ow G r [q, v]) G' := by
    refine xt.ex cc.2 (fun z hz _ => ?_) f0
    rcases List.mem_cons.mp hz with e | e
    · rw [e]; exact ⟨hqb, by rw [k.1]; decide⟩
    · rw [List.mem_singleton.mp e]; exact ⟨k.2.2.2.2.2.2.1, by rw [k.2.2.2.2.2.1.1]; decide⟩
  exact hp _ G' x ⟨v, k, by simp, ow_new hq (by simp), ow_new hv0 (by simp)⟩
theorem xc_al {Post : wo_W → Prop} {q r : Nat} (cc : cx E ow G) (hq : wo_ty G q = 0) (hqb : en_bs E ≤ q) (hp : ∀ ow' G', xt E (fun _ => False) ow G ow' G' → li_at E ow' r G' q (en_sta E 0) [] → Post G') : pq_Al_init E mc ms Post (wo_new G q 3) q := by
  have sb := cc.1.2.2
  have sq : en_sta E 0 ≠ q := fun e => by have := sb.1; omega
  have es := wo_eq_new (G := G) (k := 3) sq
  refine sp_alInit new_ty hqb new_gi ⟨es.1.trans sb.2.1, es.2.1.trans sb.2.2⟩ sq (fun G' k f ht => ?_)
  have f0 : fr_W fr_0 G G' := fr_mn (fun a ha e => ha (by rw [e]; exact hq)) (fr_tr (fr_new hq) f)
  have x : xt E (fun _ => False) ow G (ow_ex ow G r [q]) G' := xt.ex cc.2 (fun z hz _ => by rw [List.mem_singleton.mp hz]; exact ⟨hqb, by rw [k.1]; decide⟩) f0
  exact hp _ G' x ⟨k, ow_new hq (by simp), Or.inl rfl⟩
theorem sp_ogInit {Post : wo_W → Prop} {o : Nat} (cc : cx E ow G) (h1 : wo_ty G o = 2) (h2 : en_bs E ≤ o) (h3 : ow o = 4) (h4 : wo_gi G 65 o = 0) (hc : 1 ≤ mc) (hs : 3 ≤ ms) (hp : ∀ ow' G', xt E (fun r => r = 4) ow G ow' G' → og_at E ow' G' o [] 0 → Post G') : pq_Og_init E mc ms Post G o := by
  have zo : wo_ty G o ≠ 0 := by rw [h1]; decide
  unfold pq_Og_init pq_Og_init_0
  refine ⟨by omega, by omega, fun q hq hqb G1 e1 => ⟨0, 0, by omega, by omega, ?_⟩⟩
  rw [e1]
  refine xc_al (r := 40) cc hq hqb (fun ow2 G2 y2 l2 => ?_)
  have c2 := cc.xt y2 (fun z => z)
  have eo := y2.eq zo (fun z => z)
  have w2 : ow2 o = 4 := (y2.w zo).trans h3
  refine ⟨eo.1.trans h1, h2, fun G3 e3 => ?_⟩
  have y3 : xt E (fun r => r = 4) ow2 G2 ow2 G3 := xt.of c2.2 (by rw [e3]; exact fr_sr w2)
  refine hp ow2 G3 ((y2.mn (fun _ z => False.elim z)).tr y3) ⟨by rw [e3]; exact eo.1.trans h1, h2, w2, ?_, q, en_sta E 0, [], [], by rw [e3]; simp [wo_gr, wo_sr, wo_u2], l2.xt c2 y3 (by decide) (by decide), rfl, rfl, List.nodup_nil, fun i hi => absurd hi (Nat.not_lt_zero _)⟩
  rw [e3]
  exact ((eo.2.2.1 _).trans h4)
theorem sp_soInit {Post : wo_W → Prop} {o cap : Nat} (cc : cx E ow G) (h1 : wo_ty G o = 6) (h2 : en_bs E ≤ o) (h3 : ow o = 5) (h4 : wo_gi G 322 o = 0) (hc : 1 ≤ mc) (hs : 3 ≤ ms) (hp : ∀ ow' G', xt E (fun r => r = 5) ow G ow' G' → so_at E ow' G' o [] cap → Post G') : pq_So_init E mc ms Post G o (nI cap) := by
  have zo : wo_ty G o ≠ 0 := by rw [h1]; decide
  unfold pq_So_init pq_So_init_0
  refine ⟨by omega, by omega, fun q hq hqb G1 e1 => ⟨0, 0, by omega, by omega, ?_⟩⟩
  rw [e1]
  refine xc_al (r := 50) cc hq hqb (fun ow2 G2 y2 l2 => ?_)
  have c2 := cc.xt y2 (fun z => z)
  have eo := y2.eq zo (fun z => z)
  have w2 : ow2 o = 5 := (y2.w zo).trans h3
  refine ⟨eo.1.trans h1, h2, fun G3 e3 => ⟨h2, fun G4 e4 => ?_⟩⟩
  have y4 : xt E (fun r => r = 5) ow2 G2 ow2 G4 := xt.of c2.2 (by rw [e4, e3]; exact fr_tr (fr_sr w2) (fr_si w2))
  refine hp ow2 G4 ((y2.mn (fun _ z => False.elim z)).tr y4) ⟨q, en_sta E 0, [], by rw [e4, e3]; exact eo.1.trans h1, h2, w2, by rw [e4]; simp [wo_gi, wo_si, wo_u2], ?_, by rw [e4, e3]; simp [wo_gr, wo_sr, wo_si, wo_u2], l2.xt c2 y4 (by decide) (by decide), rfl, List.nodup_nil, fun i hi => absurd hi (Nat.not_lt_zero _)⟩
  have q0 : wo_gi G4 322 o = 0 := by
    rw [e4, e3]
    simpa [wo_gi, wo_si, wo_sr, wo_u2] using ((eo.2.2.1 322).trans h4)
  rw [q0]
  rfl
theorem sp_shInit {Post : wo_W → Prop} {z : Nat} (cc : cx E ow G) (h1 : wo_ty G z = 4) (h2 : en_bs E ≤ z) (h3 : ow z = 6) (h4 : wo_gi G 195 z = 0) (hc : 4 ≤ mc) (hs : 24 ≤ ms) (hp : ∀ ow' G', xt E R6 ow G ow' G' → sh_st E ow' G' z → Post G') : pq_Sh_init E mc ms Post G z := by
  have zo : wo_ty G z ≠ 0 := by rw [h1]; decide
  unfold pq_Sh_init pq_Sh_init_0
  refine ⟨by omega, by omega, fun q hq hqb G1 e1 => ⟨1, 16, by omega, by omega, ?_⟩⟩
  rw [e1]
  refine xc_sb (r := 6) cc hq hqb (by omega) (by omega) (fun ow2 G2 y2 s2 => ?_)
  have c2 := cc.xt y2 (fun z => z)
  have eo := y2.eq zo (fun z => z)
  have w2 : ow2 z = 6 := (y2.w zo).trans h3
  obtain ⟨v, k, kl, wa, wv⟩ := s2
  refine ⟨eo.1.trans h1, h2, fun G3 e3 => ⟨by decide, by decide, by omega, by show _ + 2 ≤ ms; omega, fun f hf hfb G4 e4 => ⟨h2, fun G5 e5 => ⟨by decide, by decide, by omega, by show _ + 2 + 2 ≤ ms; omega, fun l hl hlb G6 e6 => ⟨h2, fun G7 e7 => ?_⟩⟩⟩⟩⟩
  have y3 : xt E R6 ow2 G2 ow2 G3 := xt.of c2.2 (by rw [e3]; exact fr_sr w2)
  have c3 := c2.xt y3 (by decide)
  have z3 : wo_ty G3 z = 4 := by rw [e3]; exact eo.1.trans h1
  have zz3 : wo_ty G3 z ≠ 0 := by rw [z3]; decide
  obtain ⟨y4, f1, f2, f3, f4, f5, f6⟩ := xc_na (q := f) (k := 66) (n := 2) (r := 6) c3 hf hfb (by decide)
  have e4' : G4 = wo_na G3 f 66 2 := e4
  rw [← e4'] at y4 f2 f3 f4
  generalize hw4 : ow_ex ow2 G3 6 [f] = ow4 at y4 f1
  have c4 := c3.xt y4 (fun z => z)
  have ez4 := y4.eq zz3 (fun z => z)
  have w4 : ow4 z = 6 := (y4.w zz3).trans w2
  have y5 : xt E R6 ow4 G4 ow4 G5 := xt.of c4.2 (by rw [e5]; exact fr_sr w4)
  have c5 := c4.xt y5 (by decide)
  have z5 : wo_ty G5 z = 4 := by rw [e5]; exact ez4.1.trans z3
  have zz5 : wo_ty G5 z ≠ 0 := by rw [z5]; decide
  obtain ⟨y6, g1, g2, g3, g4, g5, g6⟩ := xc_na (q := l) (k := 66) (n := 2) (r := 6) c5 hl hlb (by decide)
  have e6' : G6 = wo_na G5 l 66 2 := e6
  rw [← e6'] at y6 g2 g3 g4
  generalize hw6 : ow_ex ow4 G5 6 [l] = ow6 at y6 g1
  have c6 := c5.xt y6 (fun z => z)
  have ez6 := y6.eq zz5 (fun z => z)
  have w6 : ow6 z = 6 := (y6.w zz5).trans w4
  have y7 : xt E R6 ow6 G6 ow6 G7 := xt.of c6.2 (by rw [e7]; exact fr_sr w6)
  have c7 := c6.xt y7 (by decide)
  have y27 : xt E R6 ow2 G2 ow6 G7 := (((y3.tr (y4.mn (fun _ z => False.elim z))).tr y5).tr (y6.mn (fun _ z => False.elim z))).tr y7
  have zf4 : wo_ty G4 f ≠ 0 := by rw [f2]; decide
  have zf : f ≠ z := fun e => by rw [e] at f2; have := ez4.1.trans z3; omega
  have zl : l ≠ z := fun e => by rw [e] at g2; have := ez6.1.trans z5; omega
  have zf5 : wo_ty G5 f ≠ 0 := by rw [e5]; exact zf4
  have fl : f ≠ l := fun e => by rw [e, hl] at zf5; exact zf5 rfl
  have nzv : ∀ y, (y = q ∨ y = v) → wo_ty G2 y ≠ 0 ∧ y ≠ z := by
    intro y hy
    rcases hy with e | e
    · rw [e, k.1]; exact ⟨by decide, fun e2 => by rw [e2] at k; have := k.1; have := eo.1.trans h1; omega⟩
    · rw [e, k.2.2.2.2.2.1.1]; exact ⟨by decide, fun e2 => by have := k.2.2.2.2.2.1.1; rw [e2] at this; have := eo.1.trans h1; omega⟩
  have keep : ∀ y, wo_ty G2 y ≠ 0 → y ≠ z → wo_eq G2 G7 y := by
    intro y hy hz
    have a3 : wo_eq G2 G3 y := by rw [e3]; exact (wo_put_r (ty := .array .int) rfl).1 y hz
    have a4 : wo_eq G3 G4 y := y4.eq (by rw [a3.1]; exact hy) (fun z => z)
    have a5 : wo_eq G4 G5 y := by rw [e5]; exact (wo_put_r (ty := .array .int) rfl).1 y hz
    have a6 : wo_eq G5 G6 y := y6.eq (by rw [a5.1, a4.1, a3.1]; exact hy) (fun z => z)
    have a7 : wo_eq G6 G7 y := by rw [e7]; exact (wo_put_r (ty := .array .int) rfl).1 y hz
    exact (((a3.tr a4).tr a5).tr a6).tr a7
  have kq := keep q (nzv q (Or.inl rfl)).1 (nzv q (Or.inl rfl)).2
  have kv := keep v (nzv v (Or.inr rfl)).1 (nzv v (Or.inr rfl)).2
  have ef5 : wo_eq G4 G5 f := by rw [e5]; exact (wo_put_r (ty := .array .int) rfl).1 f zf
  have ef6 : wo_eq G5 G6 f := y6.eq zf5 (fun z => z)
  have ef7 : wo_eq G6 G7 f := by rw [e7]; exact (wo_put_r (ty := .array .int) rfl).1 f zf
  have el7 : wo_eq G6 G7 l := by rw [e7]; exact (wo_put_r (ty := .array .int) rfl).1 l zl
  have zl6 : wo_ty G6 l ≠ 0 := by rw [g2]; decide
  have g192 : wo_gr G7 192 z = some q := by
    rw [e7]
    have a : wo_gr (wo_sr G6 194 z (some l)) 192 z = wo_gr G6 192 z := by simp [wo_gr, wo_sr, wo_u2]
    rw [a, ez6.2.2.2.2.1, e5]
    have b : wo_gr (wo_sr G4 193 z (some f)) 192 z = wo_gr G4 192 z := by simp [wo_gr, wo_sr, wo_u2]
    rw [b, ez4.2.2.2.2.1, e3]
    simp [wo_gr, wo_sr, wo_u2]
  have g193 : wo_gr G7 193 z = some f := by
    rw [e7]
    have a : wo_gr (wo_sr G6 194 z (some l)) 193 z = wo_gr G6 193 z := by simp [wo_gr, wo_sr, wo_u2]
    rw [a, ez6.2.2.2.2.1, e5]
    simp [wo_gr, wo_sr, wo_u2]
  have z7 : wo_ty G7 z = 4 := by rw [e7]; exact ez6.1.trans z5
  have gi7 : wo_gi G7 195 z = 0 := by
    rw [e7]
    show wo_gi G6 195 z = 0
    rw [ez6.2.2.1, e5]
    show wo_gi G4 195 z = 0
    rw [ez4.2.2.1, e3]
    exact (eo.2.2.1 _).trans h4
  refine hp ow6 G7 ((y2.mn (fun _ z => False.elim z)).tr y27) ⟨q, v, f, l, [], ⟨⟨[], k.eq kq kv, by simp⟩, z7, g192, c7.1⟩, ⟨z7, h2, g193, ?_, hfb, ?_, ?_, ?_, hlb, ?_, fl, by rw [gi7]; rfl, by simp, fun i hi => absurd hi (Nat.not_lt_zero _)⟩, fun y hy => ?_⟩
  · rw [ef7.1, ef6.1, ef5.1]; exact f2
  · rw [ef7.2.1, ef6.2.1, ef5.2.1]; exact f3
  · rw [e7]; simp [wo_gr, wo_sr, wo_u2]
  · rw [el7.1]; exact g2
  · rw [el7.2.1]; exact g3
  · rcases hy with hy | hy
    · rcases hy with e | e
      · rw [e, y27.w (nzv q (Or.inl rfl)).1]; exact wa
      · rw [e, y27.w (nzv v (Or.inr rfl)).1]; exact wv
    · rcases hy with e | e | e
      · rw [e]; exact w6
      · rw [e, y6.w zf5, y5.w zf4]; exact f1
      · rw [e]; exact g1
theorem sp_rdInit {Post : wo_W → Prop} {x B Q : Nat} (cc : cx E ow G) (hQ : 0 < Q ∧ Q < B) (h1 : wo_ty G x = 8) (h2 : en_bs E ≤ x) (h3 : ow x = B + 1) (h4 : ∀ f, wo_gi G f x = 0) (hc : 7 ≤ mc) (hs : 72 ≤ ms) (hp : ∀ ow' G', xt E (fun r => r = B + 1) ow G ow' G' → rd_at E ow' B Q G' x rd_0 → Post G') : pq_Rd_init E mc ms Post G x := by
  have B0 : ¬ (fun r => r = B + 1) 0 := by omega
  have step : ∀ {ow : Nat → Nat} {G : wo_W} {f q : Nat}, cx E ow G → wo_ty G x = 8 → ow x = B + 1 → xt E (fun r => r = B + 1) ow G ow (wo_sr G f x (some q)) ∧ cx E ow (wo_sr G f x (some q)) := fun {ow G f q} cc ht hw =>
    ⟨xt.of cc.2 (fr_sr hw), cc.xt (xt.of (R := fun r => r = B + 1) cc.2 (fr_sr hw)) B0⟩
  unfold pq_Rd_init pq_Rd_init_0
  have zx : wo_ty G x ≠ 0 := by rw [h1]; decide
  refine ⟨by omega, by omega, fun a1 ha1 hb1 G1 e1 => ⟨1, 16, by omega, by omega, ?_⟩⟩
  rw [e1]
  refine xc_sb (r := B + 2) cc ha1 hb1 (by omega) (by omega) (fun ow2 G2 y2 s1 => ?_)
  have c2 := cc.xt y2 (fun z => z)
  have x2 := y2.eq zx (fun z => z)
  have t2 : wo_ty G2 x = 8 := x2.1.trans h1
  have w2 : ow2 x = B + 1 := (y2.w zx).trans h3
  refine ⟨t2, h2, fun G3 e3 => ⟨by omega, by omega, fun a2 ha2 hb2 G4 e4 => ⟨1, 16, by omega, by omega, ?_⟩⟩⟩
  obtain ⟨y3, c3⟩ := step (f := 448) (q := a1) c2 t2 w2
  rw [← e3] at y3 c3
  have t3 : wo_ty G3 x = 8 := by rw [e3]; exact t2
  have z3 : wo_ty G3 x ≠ 0 := by rw [t3]; decide
  have s1' := s1.xt y3 (by omega)
  rw [e4]
  refine xc_sb (r := B + 3) c3 ha2 hb2 (by omega) (by omega) (fun ow5 G5 y5 s2 => ?_)
  have c5 := c3.xt y5 (fun z => z)
  have x5 := y5.eq z3 (fun z => z)
  have t5 : wo_ty G5 x = 8 := x5.1.trans t3
  have w5 : ow5 x = B + 1 := (y5.w z3).trans w2
  have s1'' := s1'.xt y5 (fun z => z)
  refine ⟨t5, h2, fun G6 e6 => ⟨by omega, by omega, fun a3 ha3 hb3 G7 e7 => ⟨1, 16, by omega, by omega, ?_⟩⟩⟩
  obtain ⟨y6, c6⟩ := step (f := 449) (q := a2) c5 t5 w5
  rw [← e6] at y6 c6
  have t6 : wo_ty G6 x = 8 := by rw [e6]; exact t5
  have z6 : wo_ty G6 x ≠ 0 := by rw [t6]; decide
  have s1_6 := s1''.xt y6 (by omega)
  have s2_6 := s2.xt y6 (by omega)
  rw [e7]
  refine xc_sb (r := B + 4) c6 ha3 hb3 (by omega) (by omega) (fun ow8 G8 y8 s3 => ?_)
  have c8 := c6.xt y8 (fun z => z)
  have x8 := y8.eq z6 (fun z => z)
  have t8 : wo_ty G8 x = 8 := x8.1.trans t6
  have w8 : ow8 x = B + 1 := (y8.w z6).trans w5
  refine ⟨t8, h2, fun G9 e9 => ⟨by omega, by omega, fun p hpn hpb G10 e10 => ⟨0, 0, by omega, by omega, ?_⟩⟩⟩
  obtain ⟨y9, c9⟩ := step (f := 450) (q := a3) c8 t8 w8
  rw [← e9] at y9 c9
  have t9 : wo_ty G9 x = 8 := by rw [e9]; exact t8
  have z9 : wo_ty G9 x ≠ 0 := by rw [t9]; decide
  rw [e10]
  refine sp_rqInit (Q2 := Q) c9 hpn hpb (fun ow11 G11 y11 rc11 => ?_)
  have c11 := c9.xt y11 (fun z => z)
  have x11 := y11.eq z9 (fun z => z)
  have t11 : wo_ty G11 x = 8 := x11.1.trans t9
  have w11 : ow11 x = B + 1 := (y11.w z9).trans w8
  refine ⟨t11, h2, fun G12 e12 => ⟨h2, fun G13 e13 => ⟨h2, fun G14 e14 => ?_⟩⟩⟩
  have y14 : xt E (fun r => r = B + 1) ow11 G11 ow11 G14 := xt.of c11.2 (by rw [e14, e13, e12]; exact fr_tr (fr_tr (fr_sr w11) (fr_si w11)) (fr_si w11))
  have sA : sb_st E ow11 (B + 2) G14 a1 [] := (((s1_6.xt y8 (fun z => z)).xt y9 (by omega)).xt y11 (fun z => z)).xt y14 (by omega)
  have sB : sb_st E ow11 (B + 3) G14 a2 [] := (((s2_6.xt y8 (fun z => z)).xt y9 (by omega)).xt y11 (fun z => z)).xt y14 (by omega)
  have sC : sb_st E ow11 (B + 4) G14 a3 [] := ((s3.xt y9 (by omega)).xt y11 (fun z => z)).xt y14 (by omega)
  have gr : ∀ f, f ≠ 451 → wo_gr G14 f x = wo_gr G11 f x := fun f hf => by rw [e14, e13, e12]; simp [wo_gr, wo_sr, wo_si, wo_u2, hf]
  have gr9 : ∀ f, f ≠ 451 → f ≠ 450 → wo_gr G14 f x = wo_gr G8 f x := fun f h1 h2 => by rw [gr f h1, x11.2.2.2.2.1, e9]; simp [wo_gr, wo_sr, wo_u2, h2]
  have gr6 : ∀ f, f ≠ 451 → f ≠ 450 → f ≠ 449 → wo_gr G14 f x = wo_gr G5 f x := fun f h1 h2 h3 => by rw [gr9 f h1 h2, x8.2.2.2.2.1, e6]; simp [wo_gr, wo_sr, wo_u2, h3]
  have gi : ∀ f, f ≠ 452 → f ≠ 454 → wo_gi G14 f x = 0 := fun f h5 h6 => by
    have a : wo_gi G14 f x = wo_gi G11 f x := by rw [e14, e13, e12]; simp [wo_gi, wo_sr, wo_si, wo_u2, h5, h6]
    rw [a, x11.2.2.1, e9]
    show wo_gi G8 f x = 0
    rw [x8.2.2.1, e6]
    show wo_gi G5 f x = 0
    rw [x5.2.2.1, e3]
    show wo_gi G2 f x = 0
    rw [x2.2.2.1]
    exact h4 f
  have yy : xt E (fun r => r = B + 1) ow G ow11 G14 := (((((((y2.mn (fun _ z => False.elim z)).tr y3).tr (y5.mn (fun _ z => False.elim z))).tr y6).tr (y8.mn (fun _ z => False.elim z))).tr y9).tr (y11.mn (fun _ z => False.elim z))).tr y14
  refine hp ow11 G14 yy ⟨a1, a2, a3, p, by rw [e14, e13, e12]; exact t11, h2, w11, ?_, ?_, ?_, ?_, ⟨?_, ?_, ?_, ?_, fun w => (by rcases w with w | w <;> cases w)⟩, sA, sB, ⟨[], sC⟩, rc11.xt y14 B0 (by omega)⟩
  · rw [gr6 448 (by decide) (by decide) (by decide), x5.2.2.2.2.1, e3]; simp [wo_gr, wo_sr, wo_u2]
  · rw [gr9 449 (by decide) (by decide), x8.2.2.2.2.1, e6]; simp [wo_gr, wo_sr, wo_u2]
  · rw [gr 450 (by decide), x11.2.2.2.2.1, e9]; simp [wo_gr, wo_sr, wo_u2]
  · rw [e14, e13, e12]; simp [wo_gr, wo_sr, wo_si, wo_u2]
  · rw [e14, e13]; simp [wo_gi, wo_si, wo_u2]; rfl
  · rw [gi 453 (by decide) (by decide)]; rfl
  · rw [e14]; simp [wo_gi, wo_si, wo_u2]; rfl
  · rw [gi 455 (by decide) (by decide)]; rfl
end SP
