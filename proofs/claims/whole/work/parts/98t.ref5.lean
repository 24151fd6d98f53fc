theorem ix_cons {x d : Nat} {l : List Nat} : ix_of x (d :: l) = if d = x then 0 else ix_of x l + 1 := rfl
theorem wh_bad {l : List Nat} {x : Nat} (hx : ¬ (48 ≤ x ∧ x ≤ 57)) : ∀ (r : Nat), x ∈ l → wh_go r l = none := by
  induction l with
  | nil => intro r h; cases h
  | cons d l ih =>
    intro r h
    unfold wh_go
    by_cases z : 48 ≤ d ∧ d ≤ 57
    · rw [if_pos z]
      rcases List.mem_cons.mp h with q | q
      · rw [q] at hx; exact absurd z hx
      · exact ih _ q
    · rw [if_neg z]
theorem wh_none {l : List Nat} {x : Nat} (hx : ¬ (48 ≤ x ∧ x ≤ 57)) (h : x ∈ l) : wh_of l = none := by
  unfold wh_of
  rw [if_neg (fun e => by rw [e] at h; cases h)]
  exact wh_bad hx 0 h
theorem ri_comma {l : List Nat} {n : Nat} (h : 44 ∈ l) : ri_of l n = none := by
  have dle := ix_le 45 l
  unfold ri_of
  generalize hd : ix_of 45 l = d at *
  by_cases z : d = l.length
  · rw [if_pos z]
  · rw [if_neg z]
    have e : l = tx_sub l 0 d ++ l.getD d 0 :: tx_sub l (d + 1) l.length := by
      have e1 : tx_sub l (d + 1) l.length = l.drop (d + 1) := by
        unfold tx_sub
        rw [List.take_of_length_le (by rw [List.length_drop]; omega)]
      have e2 : tx_sub l 0 d = l.take d := by unfold tx_sub; simp
      rw [e1, e2, ← tx_drop (by omega), List.take_append_drop]
    have hat : l.getD d 0 = 45 := by
      have key : ∀ l : List Nat, ix_of 45 l < l.length → l.getD (ix_of 45 l) 0 = 45 := by
        intro l
        induction l with
        | nil => intro h; cases h
        | cons a l ih =>
          intro h
          rw [ix_cons] at h ⊢
          by_cases y : a = 45
          · rw [if_pos y]; exact y
          · rw [if_neg y] at h ⊢
            exact ih (by simpa using h)
      rw [← hd]
      exact key l (by omega)
    rw [e] at h
    rcases List.mem_append.mp h with q | q
    · rw [if_pos (Or.inl ⟨wh_none (by decide) q, fun y => by rw [y, tx_sub_nil (Nat.le_refl _)] at q; cases q⟩)]
    · rcases List.mem_cons.mp q with q | q
      · rw [hat] at q; exact absurd q (by decide)
      · rw [if_pos (Or.inr ⟨wh_none (by decide) q, fun y => by rw [tx_sub_nil (by omega)] at q; cases q⟩)]
section MD
variable {E : wo_E} {mc ms m c s : Nat} {G0 G G1 G2 : wo_W} {ow : Nat → Nat} {A : Nat → Nat} {F K : Nat → Prop} {t : List Nat}
theorem sp_pcDash {Post : Int32 → wo_W → Prop} {k12 : k12T} {g : List Nat} {z p e cm : Nat} {ps : List (Nat × Nat)} (hg : ∀ c ∈ g, c < 256) (hgl : g.length ≤ 8) (hpe : p ≤ e) (he : e ≤ g.length) (hc : c ≤ mc) (hs : s ≤ ms) (h80 : pq_Md_pieces_80 E mc ms Post k12 G c s m (pk_of g) (nI g.length) (nI z) (nI ps.length) (nI cm) (nI p) (nI e) (nI (p + ix_of 45 (tx_sub g p e)))) : ∀ (k d : Nat), d + k = e - p → (∀ i, i < d → g.getD (p + i) 0 ≠ 45) → pq_Md_pieces_56 E mc ms Post k12 (k + 1) G c s m (pk_of g) (nI g.length) (nI z) (nI ps.length) (nI cm) (nI p) (nI e) (nI (p + d)) := by
  have sl : (tx_sub g p e).length = e - p := tx_sub_len he
  intro k
  induction k with
  | zero =>
    intro d hd hno
    unfold pq_Md_pieces_56
    have e1 : ix_of 45 (tx_sub g p e) = d := by
      rw [ix_no 45 _ (fun i hi => ?_), sl]
      · omega
      · rw [sl] at hi
        rw [tx_sub_at hi]
        exact hno i (by omega)
    rw [e1] at h80
    exact ⟨fun _ => h80, fun w => absurd (nI_le (by omega) (by omega)) w⟩
  | succ k ih =>
    intro d hd hno
    unfold pq_Md_pieces_56
    refine ⟨fun w => absurd w (nI_ge (by omega) (by omega)), fun _ => ⟨0, 0, hc, hs, ?_⟩⟩
    unfold pq_Md_byteOf pq_Md_byteOf_0
    rw [show (8 : Int32) = nI 8 from rfl, pk_mul, pk_byte hg hgl (by omega)]
    have hb := hg _ (tx_mem (t := g) (i := p + d) (by omega))
    refine ⟨fun w => ?_, fun w => ?_⟩
    · have y : g.getD (p + d) 0 = 45 := (nI_eq (b := 45) (by omega) (by decide)).mp w
      have e1 : ix_of 45 (tx_sub g p e) = d := ix_at 45 _ d (by rw [sl]; omega) (by rw [tx_sub_at (by omega)]; exact y) (fun j hj => by rw [tx_sub_at (by omega)]; exact hno j hj)
      rw [e1] at h80
      exact h80
    · rw [nI_1]
      refine ih (d + 1) (by omega) (fun i hi => ?_)
      by_cases y : i = d
      · rw [y]; exact fun q => w (by rw [q]; rfl)
      · exact hno i (by omega)
theorem sp_pcScan {Post : Int32 → wo_W → Prop} {g : List Nat} {z p cm e1 n2 : Nat} {ps : List (Nat × Nat)} (hg : ∀ c ∈ g, c < 256) (hgl : g.length ≤ 8) (he1 : e1 ≤ g.length) (hat : e1 < g.length → g.getD e1 0 = 44) (hc : c ≤ mc) (hs : s ≤ ms) (h35 : pq_Md_pieces_35 E mc ms Post (pq_Md_pieces_12 E mc ms Post n2) G c s m (pk_of g) (nI g.length) (nI z) (nI ps.length) (nI cm) (nI p) (nI e1)) : ∀ (k e : Nat), e + k = e1 → (∀ i, e ≤ i → i < e1 → g.getD i 0 ≠ 44) → pq_Md_pieces_12 E mc ms Post (k + n2 + 1) G c s m (pk_of g) (nI g.length) (nI z) (nI ps.length) (nI cm) (nI p) (nI e) := by
  intro k
  induction k with
  | zero =>
    intro e he hno
    have e2 : e = e1 := by omega
    subst e2
    rw [Nat.zero_add]
    unfold pq_Md_pieces_12
    refine ⟨fun w => absurd w (nI_nlt (by omega) (by omega)), fun _ => ⟨fun _ => h35, fun w => ⟨0, 0, hc, hs, ?_⟩⟩⟩
    have ne : e < g.length := Nat.lt_of_le_of_ne he1 (fun q => w (by rw [q]))
    unfold pq_Md_byteOf pq_Md_byteOf_0
    rw [show (8 : Int32) = nI 8 from rfl, pk_mul, pk_byte hg hgl (by omega), hat ne]
    exact ⟨fun w => absurd rfl w, fun _ => h35⟩
  | succ k ih =>
    intro e he hno
    have hne : e < g.length := by omega
    rw [show k + 1 + n2 + 1 = (k + n2 + 1) + 1 by omega]
    unfold pq_Md_pieces_12
    refine ⟨fun w => absurd w (nI_nlt (by omega) (by omega)), fun _ => ⟨fun w => ?_, fun w => ⟨0, 0, hc, hs, ?_⟩⟩⟩
    · have := (nI_eq (by omega) (by omega)).mp w; omega
    have hb := hg _ (tx_mem (t := g) (i := e) hne)
    unfold pq_Md_byteOf pq_Md_byteOf_0
    rw [show (8 : Int32) = nI 8 from rfl, pk_mul, pk_byte hg hgl (by omega)]
    refine ⟨fun w2 => ?_, fun w2 => absurd ((nI_eq (b := 44) (by omega) (by decide)).mp w2) (hno e (Nat.le_refl _) (by omega))⟩
    unfold pq_Md_pieces_286
    rw [nI_1]
    exact ih (e + 1) (by omega) (fun i h1 h2 => hno i (by omega) h2)
theorem sp_pcSeg {Post : Int32 → wo_W → Prop} {k12 : k12T} {g : List Nat} {z p e cm : Nat} {ps : List (Nat × Nat)} (hg : ∀ c ∈ g, c < 256) (hgl : g.length ≤ 8) (hz : z ≤ 8) (hcm : cm ≤ 1) (hpe : p ≤ e) (he : e ≤ g.length) (h : md_k E ow m A G) (hb : ow_b E ow G) (hc : c ≤ mc) (hs : s ≤ ms) (hps : fp_at A G ps) (hpl : ps.length < 2) (hn : (ri_of (tx_sub g p e) z = none ∨ (e < g.length ∧ cm = 1)) → Post (-1) G) (hk : ∀ q, ri_of (tx_sub g p e) z = some q → ¬ (e < g.length ∧ cm = 1) → ∀ G', me E ow m A FP G G' → fp_at A G' (np_of ps q.1 q.2) → k12 G' c s m (pk_of g) (nI g.length) (nI z) (nI (np_of ps q.1 q.2).length) (nI (if e < g.length then cm + 1 else cm)) (nI (e + 1)) (nI (e + 1))) : pq_Md_pieces_35 E mc ms Post k12 G c s m (pk_of g) (nI g.length) (nI z) (nI ps.length) (nI cm) (nI p) (nI e) := by
  unfold pq_Md_pieces_35 pq_Md_pieces_50
  refine ⟨fun w => ⟨e - p + 1, ?_⟩, fun w => ⟨e - p + 1, ?_⟩⟩
  · have z1 : ¬ e < g.length := by have := (nI_leI (by omega) (by omega)).mp w; omega
    rw [if_neg z1] at hk
    refine sp_pcDash hg hgl hpe he hc hs ?_ (e - p) 0 (by omega) (fun i hi => absurd hi (Nat.not_lt_zero _))
    exact sp_pc80 hg hgl hz (by omega) hpe he h hb hc hs hps hpl (fun q => hn (q.elim Or.inl (fun q => by omega))) (fun q hq _ => hk q hq (fun w => z1 w.1))
  · have z1 : e < g.length := Nat.lt_of_not_le (fun q => w (nI_le q (by omega)))
    rw [if_pos z1] at hk
    rw [nI_1]
    refine sp_pcDash hg hgl hpe he hc hs ?_ (e - p) 0 (by omega) (fun i hi => absurd hi (Nat.not_lt_zero _))
    exact sp_pc80 hg hgl hz (by omega) hpe he h hb hc hs hps hpl (fun q => hn (q.elim Or.inl (fun q => Or.inr ⟨z1, by omega⟩))) (fun q hq w2 => hk q hq (fun w => by omega))
theorem ix_lt_at {x : Nat} : ∀ l : List Nat, ix_of x l < l.length → l.getD (ix_of x l) 0 = x := by
  intro l
  induction l with
  | nil => intro h; cases h
  | cons a l ih =>
    intro h
    rw [ix_cons] at h ⊢
    by_cases y : a = x
    · rw [if_pos y]; exact y
    · rw [if_neg y] at h ⊢
      exact ih (by simpa using h)
theorem ix_be {x : Nat} : ∀ (l : List Nat) (i : Nat), i < ix_of x l → l.getD i 0 ≠ x := by
  intro l
  induction l with
  | nil => intro i h; cases h
  | cons a l ih =>
    intro i h
    rw [ix_cons] at h
    by_cases y : a = x
    · rw [if_pos y] at h; exact absurd h (Nat.not_lt_zero _)
    · rw [if_neg y] at h
      cases i with
      | zero => exact y
      | succ i => exact ih i (by omega)
theorem np_l1 {x y : Nat} : (np_of [] x y).length ≤ 1 := by
  unfold np_of
  split <;> simp
def rs_I : Option (List (Nat × Nat)) → Int32
  | none => -1
  | some ps => nI ps.length
theorem sp_pieces {Post : Int32 → wo_W → Prop} {g : List Nat} {z : Nat} (hg : ∀ c ∈ g, c < 256) (hgl : g.length ≤ 8) (hz : z ≤ 8) (h : md_k E ow m A G) (hb : ow_b E ow G) (hp : ∀ G', me E ow m A FP G G' → (∀ ps, rs_of g z = some ps → fp_at A G' ps) → Post (rs_I (rs_of g z)) G') : pq_Md_pieces E mc ms Post G m (pk_of g) (nI g.length) (nI z) := by
  have xle := ix_le 44 g
  unfold pq_Md_pieces pq_Md_pieces_0
  by_cases y : ix_of 44 g = g.length
  · have hr : rs_of g z = (match ri_of g z with | none => none | some q => some (np_of [] q.1 q.2)) := if_pos y
    refine ⟨g.length + 1 + 1, ?_⟩
    refine sp_pcScan (e1 := g.length) (n2 := 1) (ps := []) (cm := 0) (p := 0) hg hgl (Nat.le_refl _) (fun q => absurd q (Nat.lt_irrefl _)) (Nat.zero_le _) (Nat.zero_le _) ?_ g.length 0 (by omega) (fun i _ h2 => ix_be g i (by omega))
    refine sp_pcSeg hg hgl hz (by omega) (Nat.zero_le _) (Nat.le_refl _) h hb (Nat.zero_le _) (Nat.zero_le _) (fun i hi => absurd hi (Nat.not_lt_zero _)) (by simp) (fun q => ?_) (fun q hq _ G1 m1 f1 => ?_)
    · rcases q with q | q
      · rw [tx_sub_all] at q
        rw [q] at hr
        rw [hr] at hp
        exact hp G (me.rf h hb) (fun ps e => (by cases e))
      · omega
    · rw [tx_sub_all] at hq
      rw [hq] at hr
      rw [hr] at hp
      unfold pq_Md_pieces_12
      exact ⟨fun _ => hp G1 m1 (fun ps e => by cases e; exact f1), fun w => absurd (nI_lt (by omega) (by omega)) w⟩
  · have y2 : ix_of 44 g < g.length := by omega
    have hr : rs_of g z = (match ri_of (tx_sub g 0 (ix_of 44 g)) z with | none => none | some q => match ri_of (tx_sub g (ix_of 44 g + 1) g.length) z with | none => none | some q2 => some (np_of (np_of [] q.1 q.2) q2.1 q2.2)) := if_neg y
    have hat := ix_lt_at g y2
    generalize hx : ix_of 44 g = x at *
    -- the second segment's end
    have hrest : (tx_sub g (x + 1) g.length).length = g.length - (x + 1) := tx_sub_len (Nat.le_refl _)
    have yle := ix_le 44 (tx_sub g (x + 1) g.length)
    generalize hy : ix_of 44 (tx_sub g (x + 1) g.length) = e2 at *
    rw [hrest] at yle
    refine ⟨x + (e2 + 1 + 1) + 1, ?_⟩
    refine sp_pcScan (e1 := x) (n2 := e2 + 1 + 1) (ps := []) (cm := 0) (p := 0) hg hgl xle (fun _ => hat) (Nat.zero_le _) (Nat.zero_le _) ?_ x 0 (by omega) (fun i _ h2 => ix_be g i (by omega))
    refine sp_pcSeg hg hgl hz (by omega) (Nat.zero_le _) xle h hb (Nat.zero_le _) (Nat.zero_le _) (fun i hi => absurd hi (Nat.not_lt_zero _)) (by simp) (fun q => ?_) (fun q hq _ G1 m1 f1 => ?_)
    · rcases q with q | q
      · rw [q] at hr
        rw [hr] at hp
        exact hp G (me.rf h hb) (fun ps e => (by cases e))
      · omega
    · rw [hq] at hr
      simp only [] at hr
      rw [if_pos y2]
      have np1 := np_l1 (x := q.1) (y := q.2)
      refine sp_pcScan (e1 := x + 1 + e2) (n2 := 1) (cm := 1) (p := x + 1) hg hgl (by omega) (fun w => ?_) (Nat.zero_le _) (Nat.zero_le _) ?_ e2 (x + 1) (by omega) (fun i h1 h2 => ?_)
      · have := ix_lt_at (x := 44) (tx_sub g (x + 1) g.length) (by rw [hrest, hy]; omega)
        rw [hy, tx_sub_at (by omega)] at this
        exact this
      · refine sp_pcSeg hg hgl hz (by omega) (by omega) (by omega) m1.2.1 m1.b (Nat.zero_le _) (Nat.zero_le _) f1 (by omega) (fun w => ?_) (fun q2 hq2 nw G2 m2 f2 => ?_)
        · have e3 : ri_of (tx_sub g (x + 1) g.length) z = none := by
            by_cases e4 : x + 1 + e2 = g.length
            · rcases w with w | w
              · rw [e4] at w; exact w
              · omega
            · refine ri_comma ?_
              have := ix_lt_at (x := 44) (tx_sub g (x + 1) g.length) (by rw [hrest, hy]; omega)
              rw [← this]
              exact tx_mem (by rw [hrest, hy]; omega)
          rw [e3] at hr
          rw [hr] at hp
          exact hp G1 m1 (fun ps e => (by cases e))
        · by_cases e4 : x + 1 + e2 = g.length
          · rw [e4] at hq2
            rw [hq2] at hr
            rw [hr] at hp
            unfold pq_Md_pieces_12
            exact ⟨fun _ => hp G2 (m1.tr m2) (fun ps e => by cases e; exact f2), fun w => absurd (nI_lt (by omega) (by omega)) w⟩
          · exact absurd ⟨by omega, rfl⟩ nw
      · have := ix_be (x := 44) (tx_sub g (x + 1) g.length) (i - (x + 1)) (by omega)
        rw [tx_sub_at (by omega)] at this
        rw [show x + 1 + (i - (x + 1)) = i by omega] at this
        exact this
end MD
