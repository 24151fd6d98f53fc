section LW
variable {E : wo_E} {b L x m ca og so sh sj wl cap i now k : Nat} {xs : Nat → Int32} {A : Nat → Nat} {cad : Nat → Nat} {raf raf' : Nat → Nat → Nat} {ow ow1 : Nat → Nat} {G G1 G2 : wo_W} {S S1 : hdT} {R : Nat → Prop}
def fcm (now : Nat) (e : Int64) (S : hdT) (o : Option Nat) : Nat := match o with
  | none => 0
  | some c => fc_of c now (bl_of e 8) S
def fsm (now : Nat) (e : Int64) (S : hdT) (o : Option Nat) : Nat := match o with
  | none => 0
  | some c => fs_of c now (bl_of e 8) S
abbrev k28T : Type := wo_W → Nat → Nat → Option Nat → Nat → Nat → Int32 → Prop
def gon (E : wo_E) (b L : Nat) (xs : Nat → Int32) (x m : Nat) (A : Nat → Nat) (ca : Nat) (cad : Nat → Nat) (og so sh sj wl cap i : Nat) (k28 : k28T) : Prop :=
  ∀ (raf : Nat → Nat → Nat) (ow : Nat → Nat) (G : wo_W) (S : hdT) (now k c s : Nat), LI E b L xs x m A ca cad og so sh sj wl cap (i + 1) raf ow G S now k → c + ph 130 90 95 S ≤ 100000 + 80 * (i + 1) → s + ph 3700 10300 15700 S ≤ 4000000 + 5000 * (i + 1) → k28 G c s (some b) x m (nI (4 * i + 1) + 4)
theorem lw_feed {k28 : k28T} {Pq : Nat → Nat → Int32 → wo_W → Prop} {e : Int64} {a : Int32} {c s : Nat} (hi : i ≤ 511) (h : LI E b L xs x m A ca cad og so sh sj wl cap i raf ow G S now k) (hc : c + ph 130 90 95 S ≤ 100000 + 80 * i) (hs : s + ph 3700 10300 15700 S ≤ 4000000 + 5000 * i) (go : gon E b L xs x m A ca cad og so sh sj wl cap i k28) (hP : ∀ mc8 ms9 v11 G10, scr E G10 b L xs → wo_ty G10 m = 15 → (∃ mc17 ms18 : Nat, ((c + mc8) + mc17) ≤ 600000 ∧ ((s + ms9) + ms18) ≤ 7302250 ∧ pq_Md_feed E mc17 ms18 (fun v20 G19 => ((v11 = v20 → k28 G19 ((c + mc8) + mc17) ((s + ms9) + ms18) (some b) x m (nI (4 * i + 1) + 4)) ∧ (¬ v11 = v20 → lw_Po (0 : Int32) G19))) G10 m a e) → Pq mc8 ms9 v11 G10) : ∃ mc8 ms9 : Nat, (c + mc8) ≤ 600000 ∧ (s + ms9) ≤ 7302250 ∧ pq_EC_feed E mc8 ms9 (Pq mc8 ms9) G x a e := by
  obtain ⟨c0, e0, r0, o0, hk, hn, s0⟩ := h
  have h : LI E b L xs x m A ca cad og so sh sj wl cap i raf ow G S now k := ⟨c0, e0, r0, o0, hk, hn, s0⟩
  have bl8 : (bl_of e 8).length = 8 := bl_len 8
  have hcost : c + fcm now e S (ci_of a 3) ≤ 600000 ∧ s + fsm now e S (ci_of a 3) ≤ 7302250 := by
    cases ec : ci_of a 3 with
    | none => exact ⟨by show c + 0 ≤ 600000; omega, by show s + 0 ≤ 7302250; omega⟩
    | some q =>
      have h1 := fc_ph (now := now) (ci_some ec).2 (bl_of e 8) S 0
      have h2 := fs_ph (now := now) (ci_some ec).2 (bl_of e 8) S 0
      rw [bl8] at h1 h2
      exact ⟨by show c + fc_of q now (bl_of e 8) S ≤ 600000; omega, by show s + fs_of q now (bl_of e 8) S ≤ 7302250; omega⟩
  refine ⟨fcm now e S (ci_of a 3), fsm now e S (ci_of a 3), hcost.1, hcost.2, ?_⟩
  refine sp_feed (I := fun c n S => ∃ k', sok S cap now k' ∧ k' + n ≤ k + 8) c0 e0 (fun q hq => ⟨k, o0, Nat.le_refl _⟩) (fun q n S' b' hq hI hb0 hb hm => ?_) (fun q n S' hq hI => ?_) (fun q n S' b' hq hI hb0 hb hm => ?_) (fun q eq => by rw [eq]; exact Nat.le_refl _) (fun q eq => by rw [eq]; exact Nat.le_refl _) (fun en => ?_) (fun q eq raf1 ow1 G1 y1 c1 e1 => ?_)
  · obtain ⟨k', h1, h2⟩ := hI
    exact ⟨k' + 1, sok_fe h1 (by omega) hq hb0 hb hm, by omega⟩
  · obtain ⟨k', h1, h2⟩ := hI
    exact ⟨k', h1, by omega⟩
  · obtain ⟨k', h1, h2⟩ := hI
    exact fd_sok h1 (by omega) hq hm
  · refine hP _ _ _ _ s0 r0.1.1 ⟨0, 0, by rw [en]; show c + 0 + 0 ≤ 600000; omega, by rw [en]; show s + 0 + 0 ≤ 7302250; omega, ?_⟩
    refine sp_mfeed c0.2 (by omega) o0 r0 (fun _ => ⟨fun _ => ?_, fun w => absurd rfl w⟩) (fun q eq => by rw [en] at eq; cases eq)
    rw [en]
    exact go raf ow G S now k _ _ (LI_same h) (by show c + 0 + 0 + _ ≤ _; omega) (by show s + 0 + 0 + _ ≤ _; omega)
  · obtain ⟨r1, s1⟩ := LI_mid h y1
    have h1 := fc_ph (now := now) (ci_some eq).2 (bl_of e 8) S 0
    have h2 := fs_ph (now := now) (ci_some eq).2 (bl_of e 8) S 0
    rw [bl8] at h1 h2
    rw [eq] at hcost
    have hcost : c + fc_of q now (bl_of e 8) S ≤ 600000 ∧ s + fs_of q now (bl_of e 8) S ≤ 7302250 := hcost
    refine hP _ _ _ _ s1 r1.1.1 ⟨0, 0, by rw [eq]; exact hcost.1, by rw [eq]; exact hcost.2, ?_⟩
    refine sp_mfeed c1.2 (by omega) o0 r1 (fun en => by rw [eq] at en; cases en) (fun q' eq' G2 m2 r2 o2 => ?_)
    rw [eq] at eq'
    cases eq'
    refine ⟨fun _ => ?_, fun w => absurd rfl w⟩
    rw [eq]
    exact go raf1 ow1 G2 _ now (k + 8) _ _ (LI_end c1 e1 s1 m2 r2 o2 (by omega) (by omega)) (by show c + fc_of q now (bl_of e 8) S + 0 + _ ≤ _; omega) (by show s + fs_of q now (bl_of e 8) S + 0 + _ ≤ _; omega)
theorem lw_out {k28 : k28T} {Pq : Nat → Nat → Int64 → wo_W → Prop} {a : Int32} {c s : Nat} (hi : i ≤ 511) (h : LI E b L xs x m A ca cad og so sh sj wl cap i raf ow G S now k) (hc : c + ph 130 90 95 S ≤ 100000 + 80 * i) (hs : s + ph 3700 10300 15700 S ≤ 4000000 + 5000 * i) (go : gon E b L xs x m A ca cad og so sh sj wl cap i k28) (hP : ∀ mc8 ms9 v11 G10, scr E G10 b L xs → wo_ty G10 m = 15 → (∃ mc17 ms18 : Nat, ((c + mc8) + mc17) ≤ 600000 ∧ ((s + ms9) + ms18) ≤ 7302250 ∧ pq_Md_out E mc17 ms18 (fun v20 G19 => ((lg_cmp v11 v20 = 0 → k28 G19 ((c + mc8) + mc17) ((s + ms9) + ms18) (some b) x m (nI (4 * i + 1) + 4)) ∧ (¬ lg_cmp v11 v20 = 0 → lw_Po (0 : Int32) G19))) G10 m a) → Pq mc8 ms9 v11 G10) : ∃ mc8 ms9 : Nat, (c + mc8) ≤ 600000 ∧ (s + ms9) ≤ 7302250 ∧ pq_EC_out E mc8 ms9 (Pq mc8 ms9) G x a := by
  obtain ⟨cn, rs, tg, ss, wt, sn⟩ := S
  obtain ⟨c0, e0, r0, o0, hk, hn, s0⟩ := h
  have h : LI E b L xs x m A ca cad og so sh sj wl cap i raf ow G (cn, rs, tg, ss, wt, sn) now k := ⟨c0, e0, r0, o0, hk, hn, s0⟩
  have e0 : ec_k E ow G x ca cad raf og so sh sj wl cn rs tg ss cap wt sn now := e0
  refine ⟨0, 0, by omega, by omega, ?_⟩
  refine sp_out c0 e0 o0.2.1 (sok_jn o0) (fun en => ?_) (fun q eq G1 y1 c1 e1 => ?_)
  · refine hP _ _ _ _ s0 r0.1.1 ⟨0, 0, by omega, by omega, ?_⟩
    refine sp_Rout c0.2 r0 (fun _ => ⟨fun _ => ?_, fun w => absurd ((lg_cmp_eq _ _).mpr rfl) w⟩) (fun q eq => by rw [en] at eq; cases eq)
    exact go raf ow G _ now k _ _ (LI_same h) (by omega) (by omega)
  · obtain ⟨r1, s1⟩ := LI_mid h y1
    refine hP _ _ _ _ s1 r1.1.1 ⟨0, 0, by omega, by omega, ?_⟩
    refine sp_Rout c1.2 r1 (fun en => by rw [eq] at en; cases en) (fun q' eq' G2 m2 r2 => ?_)
    rw [eq] at eq'
    cases eq'
    refine ⟨fun _ => ?_, fun w => absurd ((lg_cmp_eq _ _).mpr rfl) w⟩
    have hq := (ci_some eq).2
    have p1 := ph_out (a := 130) (h := 90) (j := 95) (cn := cn) (rs := rs) (tg := tg) (ss := ss) (wt := wt) (sn := sn) hq
    have p2 := ph_out (a := 3700) (h := 10300) (j := 15700) (cn := cn) (rs := rs) (tg := tg) (ss := ss) (wt := wt) (sn := sn) hq
    exact go raf ow G2 _ now k _ _ (LI_end (S1 := (cup cn q (ouc (cn q)), rs, tg, ss, wt, sn)) c1 e1 s1 m2 r2 (sok_out o0 hq) (by omega) (by omega)) (by omega) (by omega)
theorem lw_pass {k28 : k28T} {Pq : Nat → Nat → Int32 → wo_W → Prop} {a : Int32} {c s : Nat} (hi : i ≤ 511) (h : LI E b L xs x m A ca cad og so sh sj wl cap i raf ow G S now k) (hc : c + ph 130 90 95 S ≤ 100000 + 80 * i) (hs : s + ph 3700 10300 15700 S ≤ 4000000 + 5000 * i) (go : gon E b L xs x m A ca cad og so sh sj wl cap i k28) (hP : ∀ mc8 ms9 v11 G10, scr E G10 b L xs → wo_ty G10 m = 15 → (∃ mc17 ms18 : Nat, ((c + mc8) + mc17) ≤ 600000 ∧ ((s + ms9) + ms18) ≤ 7302250 ∧ pq_Md_pass E mc17 ms18 (fun v20 G19 => ((v11 = v20 → k28 G19 ((c + mc8) + mc17) ((s + ms9) + ms18) (some b) x m (nI (4 * i + 1) + 4)) ∧ (¬ v11 = v20 → lw_Po (0 : Int32) G19))) G10 m a) → Pq mc8 ms9 v11 G10) : ∃ mc8 ms9 : Nat, (c + mc8) ≤ 600000 ∧ (s + ms9) ≤ 7302250 ∧ pq_EC_pass E mc8 ms9 (Pq mc8 ms9) G x a := by
  have hwt := sok_wt h.2.2.2.1
  obtain ⟨cn, rs, tg, ss, wt, sn⟩ := S
  obtain ⟨c0, e0, r0, o0, hk, hn, s0⟩ := h
  have h : LI E b L xs x m A ca cad og so sh sj wl cap i raf ow G (cn, rs, tg, ss, wt, sn) now k := ⟨c0, e0, r0, o0, hk, hn, s0⟩
  have e0 : ec_k E ow G x ca cad raf og so sh sj wl cn rs tg ss cap wt sn now := e0
  refine ⟨28, 5000, by omega, by omega, ?_⟩
  refine sp_pass c0 e0 o0.2.1 (sok_jn o0) hwt (fun e he => (o0.1 e he).1.2.2.2.2.2.2.1) (by omega) (fun u j hu ej => (o0.2.2.1.2 u j hu ej).2.2.1) (Nat.le_refl _) (Nat.le_refl _) (fun en => ?_) (fun q eq ow1 G1 y1 c1 e1 => ?_)
  · refine hP _ _ _ _ s0 r0.1.1 ⟨0, 0, by omega, by omega, ?_⟩
    refine sp_Rpass c0.2 (by omega) o0 r0 (fun _ => ⟨fun _ => ?_, fun w => absurd rfl w⟩) (fun q eq => by rw [en] at eq; cases eq)
    exact go raf ow G _ now k _ _ (LI_same h) (by omega) (by omega)
  · obtain ⟨r1, s1⟩ := LI_mid h y1
    refine hP _ _ _ _ s1 r1.1.1 ⟨0, 0, by omega, by omega, ?_⟩
    refine sp_Rpass c1.2 (by omega) o0 r1 (fun en => by rw [eq] at en; cases en) (fun q' eq' G2 m2 r2 => ?_)
    rw [eq] at eq'
    cases eq'
    refine ⟨fun _ => ?_, fun w => absurd rfl w⟩
    have hq := (ci_some eq).2
    have p1 := ph_ps (a := 130) (h := 90) (jj := 95) (n := now + q) (cn := cn) (rs := rs) (tg := tg) (ss := ss) (wt := wt) (sn := sn)
    have p2 := ph_ps (a := 3700) (h := 10300) (jj := 15700) (n := now + q) (cn := cn) (rs := rs) (tg := tg) (ss := ss) (wt := wt) (sn := sn)
    exact go raf ow1 G2 _ (now + q) k _ _ (LI_end (S1 := ((fun e => dvc ((ps_of (now + q) cn sn).1 e)), rs, tg, ss, (sw_of (now + q) (wt, (ps_of (now + q) cn sn).2.1)).1, (sw_of (now + q) (wt, (ps_of (now + q) cn sn).2.1)).2)) c1 e1 s1 m2 r2 (sok_ps o0 (by omega) (by omega)) (by omega) (by omega)) (by omega) (by omega)
theorem lw_origin {k28 : k28T} {Pq : Nat → Nat → Int32 → wo_W → Prop} {a : Int32} {c s : Nat} (hi : i ≤ 511) (h : LI E b L xs x m A ca cad og so sh sj wl cap i raf ow G S now k) (hc : c + ph 130 90 95 S ≤ 100000 + 80 * i) (hs : s + ph 3700 10300 15700 S ≤ 4000000 + 5000 * i) (go : gon E b L xs x m A ca cad og so sh sj wl cap i k28) (hP : ∀ mc8 ms9 v11 G10, scr E G10 b L xs → wo_ty G10 m = 15 → (∃ mc17 ms18 : Nat, ((c + mc8) + mc17) ≤ 600000 ∧ ((s + ms9) + ms18) ≤ 7302250 ∧ pq_Md_origin E mc17 ms18 (fun v20 G19 => ((v11 = v20 → k28 G19 ((c + mc8) + mc17) ((s + ms9) + ms18) (some b) x m (nI (4 * i + 1) + 4)) ∧ (¬ v11 = v20 → lw_Po (0 : Int32) G19))) G10 m a) → Pq mc8 ms9 v11 G10) : ∃ mc8 ms9 : Nat, (c + mc8) ≤ 600000 ∧ (s + ms9) ≤ 7302250 ∧ pq_EC_origin E mc8 ms9 (Pq mc8 ms9) G x a := by
  obtain ⟨cn, rs, tg, ss, wt, sn⟩ := S
  obtain ⟨c0, e0, r0, o0, hk, hn, s0⟩ := h
  have h : LI E b L xs x m A ca cad og so sh sj wl cap i raf ow G (cn, rs, tg, ss, wt, sn) now k := ⟨c0, e0, r0, o0, hk, hn, s0⟩
  have e0 : ec_k E ow G x ca cad raf og so sh sj wl cn rs tg ss cap wt sn now := e0
  have htg : tg ≤ k := o0.2.2.2.2.1
  refine ⟨8, 60, by omega, by omega, ?_⟩
  refine sp_origin c0 e0 o0.2.1 (sok_jn o0) o0.2.2.2.1.1 (by omega) (fun u j hu ej => ?_) (Nat.le_refl _) (Nat.le_refl _) (fun hz => ?_) (fun u j eu ej ez ow1 G1 y1 c1 e1 => ?_)
  · obtain ⟨q0, q1, q2, q3, q4, _⟩ := o0.2.2.1.2 u j hu ej
    exact ⟨by omega, by omega, q3, q0.2.2⟩
  · refine hP _ _ _ _ s0 r0.1.1 ⟨0, 0, by omega, by omega, ?_⟩
    refine sp_Rorigin c0.2 (by omega) o0 r0 (fun _ => ⟨fun _ => ?_, fun w => absurd rfl w⟩) (fun u j eu ej ez => absurd ez (hz u j eu ej))
    exact go raf ow G _ now k _ _ (LI_same h) (by omega) (by omega)
  · obtain ⟨r1, s1⟩ := LI_mid h y1
    refine hP _ _ _ _ s1 r1.1.1 ⟨0, 0, by omega, by omega, ?_⟩
    refine sp_Rorigin c1.2 (by omega) o0 r1 (fun hz => absurd ez (hz u j eu ej)) (fun u' j' eu' ej' ez' G2 m2 r2 => ?_)
    rw [eu] at eu'
    cases eu'
    rw [ej] at ej'
    cases ej'
    refine ⟨fun _ => ?_, fun w => absurd rfl w⟩
    have hu := (ci_some eu).2
    have p1 := ph_or (a := 130) (h := 90) (jj := 95) (i := or_s j (or_j cn j rs tg)) (rs' := (or_j cn j rs tg).2.2.2.1) (tg' := (or_j cn j rs tg).2.2.2.2) (cn := cn) (rs := rs) (tg := tg) (ss := ss) (wt := wt) (sn := sn) ej
    have p2 := ph_or (a := 3700) (h := 10300) (jj := 15700) (i := or_s j (or_j cn j rs tg)) (rs' := (or_j cn j rs tg).2.2.2.1) (tg' := (or_j cn j rs tg).2.2.2.2) (cn := cn) (rs := rs) (tg := tg) (ss := ss) (wt := wt) (sn := sn) ej
    exact go raf ow1 G2 _ now (k + 1) _ _ (LI_end (S1 := (cn, (or_j cn j rs tg).2.2.2.1, (or_j cn j rs tg).2.2.2.2, ss, wt, sup sn u (some (or_s j (or_j cn j rs tg))))) c1 e1 s1 m2 r2 (sok_or o0 hu ej rfl) (by omega) (by omega)) (by omega) (by omega)
theorem lw_arrive {k28 : k28T} {Pq : Nat → Nat → Int32 → wo_W → Prop} {a : Int32} {c s : Nat} (hi : i ≤ 511) (h : LI E b L xs x m A ca cad og so sh sj wl cap i raf ow G S now k) (hc : c + ph 130 90 95 S ≤ 100000 + 80 * i) (hs : s + ph 3700 10300 15700 S ≤ 4000000 + 5000 * i) (go : gon E b L xs x m A ca cad og so sh sj wl cap i k28) (hP : ∀ mc8 ms9 v11 G10, scr E G10 b L xs → wo_ty G10 m = 15 → (∃ mc17 ms18 : Nat, ((c + mc8) + mc17) ≤ 600000 ∧ ((s + ms9) + ms18) ≤ 7302250 ∧ pq_Md_arrive E mc17 ms18 (fun v20 G19 => ((v11 = v20 → k28 G19 ((c + mc8) + mc17) ((s + ms9) + ms18) (some b) x m (nI (4 * i + 1) + 4)) ∧ (¬ v11 = v20 → lw_Po (0 : Int32) G19))) G10 m a) → Pq mc8 ms9 v11 G10) : ∃ mc8 ms9 : Nat, (c + mc8) ≤ 600000 ∧ (s + ms9) ≤ 7302250 ∧ pq_EC_arrive E mc8 ms9 (Pq mc8 ms9) G x a := by
  have hwt := sok_wt h.2.2.2.1
  obtain ⟨cn, rs, tg, ss, wt, sn⟩ := S
  obtain ⟨c0, e0, r0, o0, hk, hn, s0⟩ := h
  have h : LI E b L xs x m A ca cad og so sh sj wl cap i raf ow G (cn, rs, tg, ss, wt, sn) now k := ⟨c0, e0, r0, o0, hk, hn, s0⟩
  have e0 : ec_k E ow G x ca cad raf og so sh sj wl cn rs tg ss cap wt sn now := e0
  have ho6 : so_ok k cap now ss := o0.2.2.2.2.2.1
  have hcap : cap ≤ 300 := o0.2.2.2.2.2.2.1
  have h17 := so_20 ho6 hcap
  by_cases hex : ∃ u j, ci_of a 2 = some u ∧ sn u = some j ∧ j.2.2.2.2.1 ≠ 0
  · refine ⟨95, 15700, ?_, ?_, ?_⟩
    · omega
    · omega
    obtain ⟨u, j, eu, ej, ez⟩ := hex
    have hu := (ci_some eu).2
    refine sp_arrive c0 e0 o0.2.1 (sok_jn o0) hwt (fun e he => (o0.1 e he).1.2.2.2.2.2.2.1) (by show ss.length ≤ 20; omega) (by omega) (by have := ho6.1; show sm_of ss < 2 ^ 29; omega) (fun f => ⟨by have := (so_fl f ho6).1; omega, by have := so_20 (so_fl f ho6) hcap; omega⟩) (fun u' j' hu' ej' => ?_) (fun _ => Nat.le_refl _) (fun _ => Nat.le_refl _) (fun hz => absurd (hz u j eu ej) ez) (fun u' j' eu' ej' ez' ow1 G1 y1 c1 e1 => ?_)
    · obtain ⟨q0, q1, q2, q3, q4, q5, q6, _⟩ := o0.2.2.1.2 u' j' hu' ej'
      exact ⟨by omega, by omega, (sok_arr o0 (by omega) hu' ej').2.1, fun r er => by have := sz_128 (q5 r er) (by omega); omega, q0.2.2⟩
    · rw [eu] at eu'
      cases eu'
      rw [ej] at ej'
      cases ej'
      obtain ⟨r1, s1⟩ := LI_mid h y1
      refine hP _ _ _ _ s1 r1.1.1 ⟨0, 0, by omega, by omega, ?_⟩
      refine sp_Rarrive c1.2 (by omega) o0 r1 (fun hz => absurd (hz u j eu ej) ez) (fun u' j' eu' ej' ez' G2 m2 r2 => ?_)
      rw [eu] at eu'
      cases eu'
      rw [ej] at ej'
      cases ej'
      refine ⟨fun _ => ?_, fun w => absurd rfl w⟩
      have p1 := ph_arr (a := 130) (h := 90) (jj := 95) (now := now) (cn := cn) (rs := rs) (tg := tg) (ss := ss) (ss' := ar_s cn j cap ss) (wt := wt) (sn := sn) hu ej
      have p2 := ph_arr (a := 3700) (h := 10300) (jj := 15700) (now := now) (cn := cn) (rs := rs) (tg := tg) (ss := ss) (ss' := ar_s cn j cap ss) (wt := wt) (sn := sn) hu ej
      exact go raf ow1 G2 _ now (k + 1) _ _ (LI_end (S1 := ((fun e => dvc (ar_c cn j e)), rs, tg, ar_s cn j cap ss, (sw_of now (wt, sup (ar_n cn u j sn) u none)).1, (sw_of now (wt, sup (ar_n cn u j sn) u none)).2)) c1 e1 s1 m2 r2 (sok_up (sok_arr o0 (by omega) hu ej).1 (Nat.le_succ _)) (by omega) (by omega)) (by omega) (by omega)
  · refine ⟨0, 0, by omega, by omega, ?_⟩
    have hz : ∀ u j, ci_of a 2 = some u → sn u = some j → j.2.2.2.2.1 = 0 := fun u j eu ej => by
      apply Decidable.byContradiction
      intro z
      exact hex ⟨u, j, eu, ej, z⟩
    refine sp_arrive c0 e0 o0.2.1 (sok_jn o0) hwt (fun e he => (o0.1 e he).1.2.2.2.2.2.2.1) (by show ss.length ≤ 20; omega) (by omega) (by have := ho6.1; show sm_of ss < 2 ^ 29; omega) (fun f => ⟨by have := (so_fl f ho6).1; omega, by have := so_20 (so_fl f ho6) hcap; omega⟩) (fun u' j' hu' ej' => ?_) (fun q => absurd q hex) (fun q => absurd q hex) (fun _ => ?_) (fun u' j' eu' ej' ez' => absurd (hz u' j' eu' ej') ez')
    · obtain ⟨q0, q1, q2, q3, q4, q5, q6, _⟩ := o0.2.2.1.2 u' j' hu' ej'
      exact ⟨by omega, by omega, (sok_arr o0 (by omega) hu' ej').2.1, fun r er => by have := sz_128 (q5 r er) (by omega); omega, q0.2.2⟩
    · refine hP _ _ _ _ s0 r0.1.1 ⟨0, 0, by omega, by omega, ?_⟩
      refine sp_Rarrive c0.2 (by omega) o0 r0 (fun _ => ⟨fun _ => ?_, fun w => absurd rfl w⟩) (fun u j eu ej ez => absurd (hz u j eu ej) ez)
      exact go raf ow G _ now k _ _ (LI_same h) (by omega) (by omega)
end LW
