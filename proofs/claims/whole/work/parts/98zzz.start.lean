def S_0 : hdT := (fun _ => cn_0, [], 0, [], [], fun _ => none)
theorem sok_0 {cap : Nat} (hc : cap ≤ 300) : sok S_0 cap 0 0 := by
  refine ⟨fun c _ => ⟨cok_0, Nat.le_refl _⟩, ⟨List.nodup_nil, fun u j _ e => (by cases e), fun j0 j1 e => (by cases e), fun j hj => (by cases hj), fun u j _ e => (by cases e)⟩, ⟨fun j hj => (by cases hj), fun u j _ e => (by cases e)⟩, ⟨by decide, List.nodup_nil, fun r hr => (by cases hr)⟩, Nat.le_refl _, ⟨Nat.zero_le _, fun d hd => (by cases hd), List.Pairwise.nil⟩, hc, by decide⟩
theorem cp_300 {i : Int32} : cp_of i ≤ 300 := by
  unfold cp_of
  split
  · omega
  · split
    · omega
    · omega
section MI
variable {E : wo_E} {mc ms m cap : Nat} {G0 G G1 : wo_W} {A : Nat → Nat} {ow : Nat → Nat}
theorem mr_0 (h : mi E G0 m md_tb A G) (hb : ow_b E ow G0) (e : G1 = wo_si G 955 m (nI cap)) : ∃ ow', xt E (fun _ => False) ow G0 ow' G1 ∧ mr E ow' m A G1 S_0 cap 0 0 := by
  obtain ⟨h1, h2, h3, h4, h5, h6, h7⟩ := h
  have eq1 : ∀ a, wo_ty G1 a = wo_ty G a := fun a => by rw [e]; rfl
  have eei : ∀ a i, wo_ei G1 a i = wo_ei G a i := fun a i => by rw [e]; rfl
  have eel : ∀ a i, wo_el G1 a i = wo_el G a i := fun a i => by rw [e]; rfl
  have fr1 : fr_W (fun _ => False) G0 G1 := by
    refine fr_trV h4 (fun a ha z => ha (by rw [z]; exact h3)) (V := fun a => a = m) ?_
    rw [e]
    exact fr_si rfl
  have hL : ∀ x ∈ m :: md_tb.map (fun q => A q.1), wo_ty G0 x = 0 ∧ en_bs E ≤ x ∧ wo_ty G1 x ≠ 0 := by
    intro x hx
    rcases List.mem_cons.mp hx with z | z
    · rw [z, eq1, h1]; exact ⟨h3, h2, by decide⟩
    · obtain ⟨q, hq, eq⟩ := List.mem_map.mp z
      have eq : A q.1 = x := eq
      obtain ⟨a1, a2, a3, a4, a5, a6, a7, a8, a9⟩ := h6 q hq
      rw [← eq, eq1, a2]; exact ⟨a6, a5, a3⟩
  refine ⟨ow_ex ow G0 9 (m :: md_tb.map (fun q => A q.1)), xt.ex hb (fun x hx _ => ⟨(hL x hx).2.1, (hL x hx).2.2⟩) fr1, ?_⟩
  have z0 : ∀ f k n i, (f, k, n) ∈ md_tb → wo_ei G1 (A f) i = 0 := fun f k n i hq => by rw [eei]; exact (h6 (f, k, n) hq).2.2.2.2.2.2.2.1 i
  have g0 : ∀ f, f ≠ 955 → wo_gi G1 f m = 0 := fun f hf => by
    rw [e]
    show (if f = 955 ∧ m = m then nI cap else wo_gi G f m) = 0
    rw [if_neg (fun z => hf z.1)]; exact h5 f
  refine ⟨⟨by rw [eq1]; exact h1, h2, ow_new h3 List.mem_cons_self, fun q hq => ?_, h7⟩, fun c hc => ?_, ⟨[], rfl, List.nodup_nil, fun x hx => (by cases hx), fun k hk => ?_⟩, g0 957 (by decide), ⟨[], 0, rfl, ⟨List.nodup_nil, fun x hx => (by cases hx), fun k hk => ?_, List.Pairwise.nil, g0 944 (by decide), by decide⟩, Nat.le_refl _⟩, ⟨[], fun _ => none, 0, rfl, ⟨⟨List.nodup_nil, fun x hx => (by cases hx), List.Pairwise.nil⟩, ⟨fun u x _ ex => (by cases ex), fun x y ex => (by cases ex)⟩, fun j hj _ _ => ?_, g0 928 (by decide), by decide⟩, Nat.le_refl _⟩, g0 956 (by decide), ?_⟩
  · obtain ⟨a1, a2, a3, a4, a5, a6, a7, a8, a9⟩ := h6 q hq
    refine ⟨?_, by rw [eq1]; exact a2, ?_, a5, ow_new a6 (List.mem_cons_of_mem _ (List.mem_map.mpr ⟨q, hq, rfl⟩))⟩
    · rw [e]; exact a1
    · rw [e]; exact a4
  · show mk A G1 c [] false 0 0 [] (fun _ => none)
    refine ⟨⟨z0 897 66 3 c (by decide), by decide, fun i hi => (by cases hi)⟩, z0 898 72 3 c (by decide), ⟨z0 900 66 3 c (by decide), by decide, fun i hi => (by cases hi)⟩, ⟨z0 903 66 3 c (by decide), z0 904 66 3 c (by decide), Nat.le_refl _, by decide, by decide⟩, fun t h1 h2 => (by cases h2)⟩
  · exact z0 945 72 6 k (by decide)
  · exact z0 936 72 20 k (by decide)
  · exact z0 918 66 8 j (by decide)
  · rw [e, si_at]
end MI
section LW
variable {E : wo_E} {b L : Nat} {xs : Nat → Int32} {G : wo_W}
def c_0 (L : Nat) (xs : Nat → Int32) : Int32 := if L = 0 then 0 else xs 0
theorem sp_cell {mc ms : Nat} {Post : Int32 → wo_W → Prop} (hL : L ≤ 2049) (h : scr E G b L xs) (hp : Post (c_0 L xs) G) : pq_Lw_cell E mc ms Post G (some b) 0 := by
  obtain ⟨h1, h2, h3, h4⟩ := h
  unfold pq_Lw_cell pq_Lw_cell_0 pq_Lw_cell_13
  unfold c_0 at hp
  refine ⟨b, rfl, h2, fun w => ?_, fun w => ?_⟩
  · rw [h3] at w
    have : L = 0 := by have := (nI_leI (b := 0) (by omega) (by decide)).mp w; omega
    rw [if_pos this] at hp
    exact hp
  · rw [h3] at w
    have n0 : L ≠ 0 := fun z => w (by rw [z]; decide)
    rw [if_neg n0] at hp
    rw [h3]
    refine ⟨vp_in_nI (n := 0) (by omega) (by omega), ?_⟩
    rw [show (0 : Int32).toNatClampNeg = 0 by decide, h4 0 (by omega)]
    exact hp
theorem lw_pure0 (hL : L ≤ 2049) (h : sx_0 E G b L xs) : pq_Lw_law E 600000 7302250 lw_Po G (some b) := by
  have cc0 : cx E (fun _ => 0) G := ⟨kx_start h, fun a z => absurd rfl z⟩
  have s0 : scr E G b L xs := h.1
  unfold pq_Lw_law pq_Lw_law_0
  refine ⟨by decide, by decide, fun x hx hxb G6 e6 => ⟨0, 0, by decide, by decide, ?_⟩⟩
  have fr6 : fr_W (fun _ => False) G G6 := by rw [e6]; exact fr_new hx
  have tx : wo_ty G6 x = 1 := by rw [e6]; show (if x = x then 1 else wo_ty G x) = 1; rw [if_pos rfl]
  have y6 : xt E (fun _ => False) (fun _ => 0) G (ow_ex (fun _ => 0) G 7 [x]) G6 := xt.ex cc0.2 (fun z hz _ => by rw [List.mem_singleton.mp hz, tx]; exact ⟨hxb, by decide⟩) fr6
  have cc6 := cc0.xt y6 (fun z => z)
  have s6 := s0.xt cc0.2 y6 (fun z => z)
  refine sp_cell hL s6 ⟨tx, 60, 2500, by decide, by decide, ?_⟩
  refine sp_ecInit cc6 tx hxb (ow_new hx (List.mem_singleton.mpr rfl)) (by rw [e6]; show (if x = x then (0 : Int32) else wo_gi G 6 x) = 0; rw [if_pos rfl]) (Nat.le_refl _) (Nat.le_refl _) (fun ca cad raf og so sh sj wl ow1 G1 y1 c1 k1 => ⟨by decide, by decide, fun m hm hmb G2 e2 => ⟨0, 0, by decide, by decide, ?_⟩⟩)
  have s1 := s6.xt cc6.2 y1 R0_Rec
  have i0 : mi E G1 m [] (fun _ => 0) G2 := by
    refine ⟨?_, hmb, hm, by rw [e2]; exact fr_new hm, fun f => ?_, fun q hq => (by cases hq), fun p hp => (by cases hp)⟩
    · rw [e2]; show (if m = m then 15 else wo_ty G1 m) = 15; rw [if_pos rfl]
    · rw [e2]; show (if m = m then (0 : Int32) else wo_gi G1 f m) = 0; rw [if_pos rfl]
  have y2 : xt E (fun _ => False) ow1 G1 (ow_ex ow1 G1 9 [m]) G2 := xt.ex c1.2 (fun z hz _ => by rw [List.mem_singleton.mp hz, i0.1]; exact ⟨hmb, by decide⟩) i0.2.2.2.1
  have s2 := s1.xt c1.2 y2 (fun z => z)
  refine sp_cell hL s2 ⟨i0.1, 60, 20000, by decide, by decide, ?_⟩
  refine sp_mdInit0 i0 (fun A' G' hmi => ?_)
  unfold pq_Md_init_456
  refine ⟨hmi.1, hmb, fun G3 e3 => ⟨513, ?_⟩⟩
  obtain ⟨ow3, y3, r3⟩ := mr_0 hmi c1.2 e3
  have p1 : ph 130 90 95 S_0 ≤ 19845 := by decide
  have p2 : ph 3700 10300 15700 S_0 ≤ 1871100 := by decide
  have li : LI E b L xs x m A' ca cad og so sh sj wl (cp_of (c_0 L xs)) 0 raf ow3 G3 S_0 0 0 := ⟨c1.xt y3 (fun z => z), ec_f k1 c1 ⟨fun j hj => (by cases hj), fun u j _ e => (by cases e)⟩ y3, r3, sok_0 cp_300, Nat.le_refl _, Nat.le_refl _, s1.xt c1.2 y3 (fun z => z)⟩
  exact lw_loop hL 512 0 raf ow3 G3 S_0 0 0 _ _ (by omega) li (by omega) (by omega) (by decide)
end LW
