def mi (E : wo_E) (G0 : wo_W) (m : Nat) (T : List (Nat × Nat × Nat)) (A : Nat → Nat) (G : wo_W) : Prop := wo_ty G m = 15 ∧ en_bs E ≤ m ∧ wo_ty G0 m = 0 ∧ fr_W (fun _ => False) G0 G ∧ (∀ f, wo_gi G f m = 0) ∧ (∀ q ∈ T, wo_gr G q.1 m = some (A q.1) ∧ wo_ty G (A q.1) = q.2.1 ∧ q.2.1 ≠ 0 ∧ wo_len G (A q.1) = q.2.2 ∧ en_bs E ≤ A q.1 ∧ wo_ty G0 (A q.1) = 0 ∧ A q.1 ≠ m ∧ (∀ i, wo_ei G (A q.1) i = 0) ∧ ∀ i, wo_el G (A q.1) i = 0) ∧ ∀ p ∈ T, ∀ q ∈ T, A p.1 = A q.1 → p.1 = q.1
section MI
variable {E : wo_E} {mc ms m f k n c' s' : Nat} {G0 G G1 G2 : wo_W} {T : List (Nat × Nat × Nat)} {A : Nat → Nat}
theorem mi_step {q : Nat} (h : mi E G0 m T A G) (hf : f ∉ T.map (fun x => x.1)) (hk : k ≠ 0) (hq : wo_ty G q = 0) (hb : en_bs E ≤ q) (e1 : G1 = wo_na G q k n) (e2 : G2 = wo_sr G1 f m (some q)) : wo_ty G1 m = 15 ∧ mi E G0 m (T ++ [(f, k, n)]) (fun g => if g = f then q else A g) G2 := by
  obtain ⟨h1, h2, h3, h4, h5, h6, h7⟩ := h
  have qm : q ≠ m := fun z => by rw [z, h1] at hq; cases hq
  have mq : ¬ m = q := fun z => qm z.symm
  have qa : ∀ p ∈ T, A p.1 ≠ q := fun p hp z => by
    have := (h6 p hp)
    rw [z, hq] at this
    exact this.2.2.1 this.2.1.symm
  have pf : ∀ p ∈ T, p.1 ≠ f := fun p hp z => hf (List.mem_map.mpr ⟨p, hp, z⟩)
  have ty2 : ∀ a, wo_ty G2 a = if a = q then k else wo_ty G a := fun a => by rw [e2, e1]; rfl
  have q0 : wo_ty G0 q = 0 := fr_new0 h4 hq
  have fr2 : fr_W (fun a => a = m) G G2 := by
    rw [e2, e1]
    exact fr_tr (fr_na hq) (fr_sr rfl)
  have t1 : wo_ty G1 m = 15 := by
    rw [e1]
    show (if m = q then k else wo_ty G m) = 15
    rw [if_neg mq]; exact h1
  refine ⟨t1, by rw [ty2, if_neg mq]; exact h1, h2, h3, fr_trV h4 (fun a ha z => ha (by rw [z]; exact h3)) fr2, fun g => by rw [e2, e1]; exact h5 g, fun p hp => ?_, fun p hp r hr e => ?_⟩
  · rcases List.mem_append.mp hp with z | z
    · obtain ⟨a1, a2, a3, a4, a5, a6, a7, a8, a9⟩ := h6 p z
      have np := pf p z
      have nq := qa p z
      show wo_gr G2 p.1 m = some (if p.1 = f then q else A p.1) ∧ wo_ty G2 (if p.1 = f then q else A p.1) = p.2.1 ∧ p.2.1 ≠ 0 ∧ wo_len G2 (if p.1 = f then q else A p.1) = p.2.2 ∧ en_bs E ≤ (if p.1 = f then q else A p.1) ∧ wo_ty G0 (if p.1 = f then q else A p.1) = 0 ∧ (if p.1 = f then q else A p.1) ≠ m ∧ (∀ i, wo_ei G2 (if p.1 = f then q else A p.1) i = 0) ∧ ∀ i, wo_el G2 (if p.1 = f then q else A p.1) i = 0
      rw [if_neg np]
      refine ⟨?_, by rw [ty2, if_neg nq]; exact a2, a3, ?_, a5, a6, a7, fun i => ?_, fun i => ?_⟩
      · rw [e2, e1]
        show (if p.1 = f ∧ m = m then some q else wo_gr G p.1 m) = some (A p.1)
        rw [if_neg (fun y => np y.1)]; exact a1
      · rw [e2, e1]
        show (if A p.1 = q then n else wo_len G (A p.1)) = p.2.2
        rw [if_neg nq]; exact a4
      · rw [e2, e1]
        show (if A p.1 = q then (0 : Int32) else wo_ei G (A p.1) i) = 0
        rw [if_neg nq]; exact a8 i
      · rw [e2, e1]
        show (if A p.1 = q then (0 : Int64) else wo_el G (A p.1) i) = 0
        rw [if_neg nq]; exact a9 i
    · have ep := List.mem_singleton.mp z
      subst ep
      show wo_gr G2 f m = some (if f = f then q else A f) ∧ wo_ty G2 (if f = f then q else A f) = k ∧ k ≠ 0 ∧ wo_len G2 (if f = f then q else A f) = n ∧ en_bs E ≤ (if f = f then q else A f) ∧ wo_ty G0 (if f = f then q else A f) = 0 ∧ (if f = f then q else A f) ≠ m ∧ (∀ i, wo_ei G2 (if f = f then q else A f) i = 0) ∧ ∀ i, wo_el G2 (if f = f then q else A f) i = 0
      rw [if_pos rfl]
      refine ⟨?_, by rw [ty2, if_pos rfl], hk, ?_, hb, q0, qm, fun i => ?_, fun i => ?_⟩
      · rw [e2, e1]
        show (if f = f ∧ m = m then some q else wo_gr G f m) = some q
        rw [if_pos ⟨rfl, rfl⟩]
      · rw [e2, e1]
        show (if q = q then n else wo_len G q) = n
        rw [if_pos rfl]
      · rw [e2, e1]
        show (if q = q then (0 : Int32) else wo_ei G q i) = 0
        rw [if_pos rfl]
      · rw [e2, e1]
        show (if q = q then (0 : Int64) else wo_el G q i) = 0
        rw [if_pos rfl]
  · have e : (if p.1 = f then q else A p.1) = (if r.1 = f then q else A r.1) := e
    rcases List.mem_append.mp hp with z | z
    · rw [if_neg (pf p z)] at e
      rcases List.mem_append.mp hr with y | y
      · rw [if_neg (pf r y)] at e; exact h7 p z r y e
      · have er := List.mem_singleton.mp y
        rw [er] at e
        rw [if_pos rfl] at e
        exact absurd e (qa p z)
    · have ep := List.mem_singleton.mp z
      rcases List.mem_append.mp hr with y | y
      · rw [ep, if_pos rfl, if_neg (pf r y)] at e
        exact absurd e.symm (qa r y)
      · rw [ep, List.mem_singleton.mp y]
theorem mi_go {Z : Int32} {K : wo_W → Prop} (h : mi E G0 m T A G) (hZ : ¬ Z < 0 ∧ Z.toNatClampNeg = n ∧ n ≤ 65536) (hf : f ∉ T.map (fun x => x.1)) (hk : k ≠ 0) (h1 : c' ≤ mc) (h2 : s' ≤ ms) (hK : ∀ A' G', mi E G0 m (T ++ [(f, k, n)]) A' G' → K G') : ¬ Z < 0 ∧ Z.toNatClampNeg ≤ 65536 ∧ c' ≤ mc ∧ s' ≤ ms ∧ ∀ q : Nat, wo_ty G q = 0 → en_bs E ≤ q → ∀ G8 : wo_W, G8 = wo_na G q k Z.toNatClampNeg → en_bs E ≤ m ∧ ∀ G12 : wo_W, G12 = wo_sr G8 f m (some q) → K G12 := by
  obtain ⟨z1, z2, z3⟩ := hZ
  refine ⟨z1, by rw [z2]; exact z3, h1, h2, fun q hq hb G8 e8 => ?_⟩
  rw [z2] at e8
  exact ⟨h.2.1, fun G12 e12 => hK _ G12 (mi_step h hf hk hq hb e8 e12).2⟩
theorem mi_go0 {Z : Int32} {K : wo_W → Prop} (h : mi E G0 m T A G) (hZ : ¬ Z < 0 ∧ Z.toNatClampNeg = n ∧ n ≤ 65536) (hf : f ∉ T.map (fun x => x.1)) (hk : k ≠ 0) (h1 : c' ≤ mc) (h2 : s' ≤ ms) (hK : ∀ A' G', mi E G0 m (T ++ [(f, k, n)]) A' G' → K G') : ¬ Z < 0 ∧ Z.toNatClampNeg ≤ 65536 ∧ c' ≤ mc ∧ s' ≤ ms ∧ ∀ q : Nat, wo_ty G q = 0 → en_bs E ≤ q → ∀ G8 : wo_W, G8 = wo_na G q k Z.toNatClampNeg → wo_ty G8 m = 15 ∧ en_bs E ≤ m ∧ ∀ G12 : wo_W, G12 = wo_sr G8 f m (some q) → K G12 := by
  obtain ⟨z1, z2, z3⟩ := hZ
  refine ⟨z1, by rw [z2]; exact z3, h1, h2, fun q hq hb G8 e8 => ?_⟩
  rw [z2] at e8
  exact ⟨(mi_step h hf hk hq hb e8 rfl).1, h.2.1, fun G12 e12 => hK _ G12 (mi_step h hf hk hq hb e8 e12).2⟩
set_option maxRecDepth 100000 in
theorem sp_mdInit0 {Post : wo_W → Prop} {i : Int32} (h0 : mi E G0 m [] A G) (hp : ∀ A' G', mi E G0 m md_tb A' G' → pq_Md_init_456 E 60 20000 Post G' 0 0 m (nI (cp_of i))) : pq_Md_init E 60 20000 Post G m i := by
  have hc : ∀ G' c s, (pq_Md_init_456 E 60 20000 Post G' 0 0 m (nI (cp_of i)) → pq_Md_init_456 E 60 20000 Post G' c s m (nI (cp_of i))) := fun G' c s z => z
  unfold pq_Md_init pq_Md_init_0
  refine mi_go0 (f := 896) (k := 66) (n := 12600) h0 (by decide) (by decide) (by decide) (by decide) (by decide) (fun A1 G1 h1 => ?_)
  refine mi_go (f := 897) (k := 66) (n := 3) h1 (by decide) (by decide) (by decide) (by decide) (by decide) (fun A2 G2 h2 => ?_)
  refine mi_go (f := 898) (k := 72) (n := 3) h2 (by decide) (by decide) (by decide) (by decide) (by decide) (fun A3 G3 h3 => ?_)
  refine mi_go (f := 899) (k := 66) (n := 1920) h3 (by decide) (by decide) (by decide) (by decide) (by decide) (fun A4 G4 h4 => ?_)
  refine mi_go (f := 900) (k := 66) (n := 3) h4 (by decide) (by decide) (by decide) (by decide) (by decide) (fun A5 G5 h5 => ?_)
  refine mi_go (f := 901) (k := 66) (n := 1152) h5 (by decide) (by decide) (by decide) (by decide) (by decide) (fun A6 G6 h6 => ?_)
  refine mi_go (f := 902) (k := 66) (n := 12) h6 (by decide) (by decide) (by decide) (by decide) (by decide) (fun A7 G7 h7 => ?_)
  refine mi_go (f := 903) (k := 66) (n := 3) h7 (by decide) (by decide) (by decide) (by decide) (by decide) (fun A8 G8 h8 => ?_)
  refine mi_go (f := 904) (k := 66) (n := 3) h8 (by decide) (by decide) (by decide) (by decide) (by decide) (fun A9 G9 h9 => ?_)
  refine mi_go (f := 905) (k := 66) (n := 128) h9 (by decide) (by decide) (by decide) (by decide) (by decide) (fun A10 G10 h10 => ?_)
  refine mi_go (f := 907) (k := 66) (n := 9) h10 (by decide) (by decide) (by decide) (by decide) (by decide) (fun A11 G11 h11 => ?_)
  refine mi_go (f := 908) (k := 73) (n := 9) h11 (by decide) (by decide) (by decide) (by decide) (by decide) (fun A12 G12 h12 => ?_)
  refine mi_go (f := 909) (k := 66) (n := 9) h12 (by decide) (by decide) (by decide) (by decide) (by decide) (fun A13 G13 h13 => ?_)
  refine mi_go (f := 910) (k := 73) (n := 72) h13 (by decide) (by decide) (by decide) (by decide) (by decide) (fun A14 G14 h14 => ?_)
  refine mi_go (f := 911) (k := 66) (n := 72) h14 (by decide) (by decide) (by decide) (by decide) (by decide) (fun A15 G15 h15 => ?_)
  unfold pq_Md_init_123
  refine mi_go0 (f := 912) (k := 73) (n := 9) h15 (by decide) (by decide) (by decide) (by decide) (by decide) (fun A16 G16 h16 => ?_)
  refine mi_go (f := 913) (k := 66) (n := 9) h16 (by decide) (by decide) (by decide) (by decide) (by decide) (fun A17 G17 h17 => ?_)
  refine mi_go (f := 916) (k := 66) (n := 24) h17 (by decide) (by decide) (by decide) (by decide) (by decide) (fun A18 G18 h18 => ?_)
  refine mi_go (f := 917) (k := 66) (n := 24) h18 (by decide) (by decide) (by decide) (by decide) (by decide) (fun A19 G19 h19 => ?_)
  refine mi_go (f := 918) (k := 66) (n := 8) h19 (by decide) (by decide) (by decide) (by decide) (by decide) (fun A20 G20 h20 => ?_)
  refine mi_go (f := 919) (k := 66) (n := 8) h20 (by decide) (by decide) (by decide) (by decide) (by decide) (fun A21 G21 h21 => ?_)
  refine mi_go (f := 920) (k := 66) (n := 8) h21 (by decide) (by decide) (by decide) (by decide) (by decide) (fun A22 G22 h22 => ?_)
  refine mi_go (f := 921) (k := 66) (n := 8) h22 (by decide) (by decide) (by decide) (by decide) (by decide) (fun A23 G23 h23 => ?_)
  refine mi_go (f := 922) (k := 66) (n := 8) h23 (by decide) (by decide) (by decide) (by decide) (by decide) (fun A24 G24 h24 => ?_)
  refine mi_go (f := 923) (k := 66) (n := 8) h24 (by decide) (by decide) (by decide) (by decide) (by decide) (fun A25 G25 h25 => ?_)
  refine mi_go (f := 924) (k := 72) (n := 8) h25 (by decide) (by decide) (by decide) (by decide) (by decide) (fun A26 G26 h26 => ?_)
  refine mi_go (f := 925) (k := 72) (n := 8) h26 (by decide) (by decide) (by decide) (by decide) (by decide) (fun A27 G27 h27 => ?_)
  refine mi_go (f := 926) (k := 66) (n := 8) h27 (by decide) (by decide) (by decide) (by decide) (by decide) (fun A28 G28 h28 => ?_)
  refine mi_go (f := 927) (k := 66) (n := 9) h28 (by decide) (by decide) (by decide) (by decide) (by decide) (fun A29 G29 h29 => ?_)
  refine mi_go (f := 929) (k := 66) (n := 40) h29 (by decide) (by decide) (by decide) (by decide) (by decide) (fun A30 G30 h30 => ?_)
  refine mi_go (f := 930) (k := 73) (n := 40) h30 (by decide) (by decide) (by decide) (by decide) (by decide) (fun A31 G31 h31 => ?_)
  unfold pq_Md_init_251
  refine mi_go0 (f := 931) (k := 66) (n := 40) h31 (by decide) (by decide) (by decide) (by decide) (by decide) (fun A32 G32 h32 => ?_)
  refine mi_go (f := 932) (k := 66) (n := 40) h32 (by decide) (by decide) (by decide) (by decide) (by decide) (fun A33 G33 h33 => ?_)
  refine mi_go (f := 933) (k := 73) (n := 40) h33 (by decide) (by decide) (by decide) (by decide) (by decide) (fun A34 G34 h34 => ?_)
  refine mi_go (f := 934) (k := 66) (n := 40) h34 (by decide) (by decide) (by decide) (by decide) (by decide) (fun A35 G35 h35 => ?_)
  refine mi_go (f := 935) (k := 72) (n := 40) h35 (by decide) (by decide) (by decide) (by decide) (by decide) (fun A36 G36 h36 => ?_)
  refine mi_go (f := 936) (k := 72) (n := 20) h36 (by decide) (by decide) (by decide) (by decide) (by decide) (fun A37 G37 h37 => ?_)
  refine mi_go (f := 937) (k := 73) (n := 20) h37 (by decide) (by decide) (by decide) (by decide) (by decide) (fun A38 G38 h38 => ?_)
  refine mi_go (f := 938) (k := 66) (n := 20) h38 (by decide) (by decide) (by decide) (by decide) (by decide) (fun A39 G39 h39 => ?_)
  refine mi_go (f := 939) (k := 73) (n := 20) h39 (by decide) (by decide) (by decide) (by decide) (by decide) (fun A40 G40 h40 => ?_)
  refine mi_go (f := 940) (k := 66) (n := 20) h40 (by decide) (by decide) (by decide) (by decide) (by decide) (fun A41 G41 h41 => ?_)
  refine mi_go (f := 941) (k := 66) (n := 20) h41 (by decide) (by decide) (by decide) (by decide) (by decide) (fun A42 G42 h42 => ?_)
  refine mi_go (f := 942) (k := 66) (n := 20) h42 (by decide) (by decide) (by decide) (by decide) (by decide) (fun A43 G43 h43 => ?_)
  refine mi_go (f := 943) (k := 66) (n := 20) h43 (by decide) (by decide) (by decide) (by decide) (by decide) (fun A44 G44 h44 => ?_)
  refine mi_go (f := 945) (k := 72) (n := 6) h44 (by decide) (by decide) (by decide) (by decide) (by decide) (fun A45 G45 h45 => ?_)
  refine mi_go (f := 946) (k := 73) (n := 6) h45 (by decide) (by decide) (by decide) (by decide) (by decide) (fun A46 G46 h46 => ?_)
  refine mi_go (f := 947) (k := 66) (n := 6) h46 (by decide) (by decide) (by decide) (by decide) (by decide) (fun A47 G47 h47 => ?_)
  unfold pq_Md_init_379
  refine mi_go0 (f := 948) (k := 73) (n := 6) h47 (by decide) (by decide) (by decide) (by decide) (by decide) (fun A48 G48 h48 => ?_)
  refine mi_go (f := 949) (k := 66) (n := 6) h48 (by decide) (by decide) (by decide) (by decide) (by decide) (fun A49 G49 h49 => ?_)
  refine mi_go (f := 950) (k := 73) (n := 18) h49 (by decide) (by decide) (by decide) (by decide) (by decide) (fun A50 G50 h50 => ?_)
  refine mi_go (f := 951) (k := 66) (n := 18) h50 (by decide) (by decide) (by decide) (by decide) (by decide) (fun A51 G51 h51 => ?_)
  refine mi_go (f := 952) (k := 66) (n := 18) h51 (by decide) (by decide) (by decide) (by decide) (by decide) (fun A52 G52 h52 => ?_)
  refine mi_go (f := 953) (k := 66) (n := 2) h52 (by decide) (by decide) (by decide) (by decide) (by decide) (fun A53 G53 h53 => ?_)
  refine mi_go (f := 954) (k := 66) (n := 2) h53 (by decide) (by decide) (by decide) (by decide) (by decide) (fun A54 G54 h54 => ?_)
  have hq := hp A54 G54 h54
  have ec : ∀ y : Int32, y = nI (cp_of i) → ∀ c s, pq_Md_init_456 E 60 20000 Post G54 c s m y := fun y ey c s => by rw [ey]; exact hq
  have e0 : (0 : Int32) ≤ i ↔ 0 ≤ i.toInt := Int32.le_iff_toInt_le
  have e3 : i ≤ (300 : Int32) ↔ i.toInt ≤ 300 := Int32.le_iff_toInt_le
  refine ⟨fun w => ⟨fun w2 => ec _ ?_ _ _, fun w2 => ec _ ?_ _ _⟩, fun w => ec _ ?_ _ _⟩
  · unfold cp_of
    have a1 := e0.mp w
    have a2 := e3.mp w2
    rw [if_neg (by omega), if_neg (by omega)]
    apply Int32.toInt_inj.mp
    rw [show (nI i.toInt.toNat).toInt = (i.toInt.toNat : Int) from nI_toInt (by omega)]
    omega
  · unfold cp_of
    have a1 := e0.mp w
    have a2 : ¬ i.toInt ≤ 300 := fun z => w2 (e3.mpr z)
    rw [if_neg (by omega), if_pos (by omega)]
    rfl
  · unfold cp_of
    have a1 : ¬ 0 ≤ i.toInt := fun z => w (e0.mpr z)
    rw [if_pos (by omega)]
    rfl
end MI
