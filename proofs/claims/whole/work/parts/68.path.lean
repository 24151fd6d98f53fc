def ls_go (t : List Nat) : Nat → Nat
  | 0 => 0
  | k + 1 => if t.getD k 0 = 47 then k else ls_go t k
def ls_of (t : List Nat) : Nat := ls_go t t.length
def as_of (r g : List Nat) (z : Bool) : List Nat := if g = [46, 46] then r.take (ls_of r) ++ (if z then [47] else []) else if g = [46] then r ++ (if z then [47] else []) else r ++ [47] ++ g
def pa_go (t : List Nat) (e : Nat) : Nat → Nat → Nat → List Nat → List Nat
  | 0, _, _, r => r
  | k + 1, i, p, r => if e < i then r else if i = e ∨ t.getD i 0 = 47 then pa_go t e k (i + 1) (i + 1) (as_of r (tx_sub t p i) (decide (i = e))) else pa_go t e k (i + 1) p r
def ix_of (x : Nat) : List Nat → Nat
  | [] => 0
  | d :: r => if d = x then 0 else ix_of x r + 1
def pa_of (t : List Nat) : List Nat := pa_go t (ix_of 63 t) (t.length + 1) 1 1 [] ++ tx_sub t (ix_of 63 t) t.length
theorem ls_le (t : List Nat) : ∀ k, ls_go t k ≤ k := by
  intro k
  induction k with
  | zero => exact Nat.le_refl _
  | succ k ih =>
    rw [ls_go]
    split <;> omega
theorem as_len {r g : List Nat} {z : Bool} : (as_of r g z).length ≤ r.length + 1 + g.length := by
  unfold as_of
  have h1 : (if z = true then [47] else ([] : List Nat)).length ≤ 1 := by cases z <;> simp
  by_cases a : g = [46, 46]
  · rw [if_pos a, List.length_append, List.length_take]; omega
  · rw [if_neg a]
    by_cases b : g = [46]
    · rw [if_pos b, List.length_append]; omega
    · rw [if_neg b]; simp; omega
theorem ix_le (x : Nat) : ∀ t : List Nat, ix_of x t ≤ t.length := by
  intro t
  induction t with
  | nil => exact Nat.le_refl _
  | cons d r ih =>
    rw [ix_of, List.length_cons]
    split <;> omega
theorem ix_no (x : Nat) : ∀ t : List Nat, (∀ i, i < t.length → t.getD i 0 ≠ x) → ix_of x t = t.length := by
  intro t
  induction t with
  | nil => intro _; rfl
  | cons d r ih =>
    intro h
    rw [ix_of, if_neg (show ¬ d = x from h 0 (by simp)), ih (fun i hi => h (i + 1) (by simp; omega)), List.length_cons]
theorem ix_at (x : Nat) : ∀ (t : List Nat) (i : Nat), i < t.length → t.getD i 0 = x → (∀ j, j < i → t.getD j 0 ≠ x) → ix_of x t = i := by
  intro t
  induction t with
  | nil => intro i hi; simp at hi
  | cons d r ih =>
    intro i hi he hl
    cases i with
    | zero => rw [ix_of, if_pos (show d = x from he)]
    | succ i =>
      rw [ix_of, if_neg (show ¬ d = x from hl 0 (by omega)), ih i (by simp at hi; omega) he (fun j hj => hl (j + 1) (by omega))]
section SP
variable {E : wo_E} {mc ms : Nat} {G G0 : wo_W} {a b v0 : Nat} {t t0 u r g : List Nat}
theorem sg_ev.tr {w : Nat} {G2 : wo_W} (hw : w = v0 ∨ wo_ty G0 w = 0) (f : fr_W (sg_W a v0) G0 G) (h2 : sg_ev E G w a G2 u) : sg_ev E G0 v0 a G2 u := by
  obtain ⟨w2, j1, j2, j3⟩ := h2
  exact sg_ev.step hw f j2 j3 j1
theorem sg_ev.nb {w : Nat} {G1 : wo_W} (e : sg_ev E G w a G1 u) (k : sg_at E G a w t) (hS : tx_S G b g) (hb : ∀ x, wo_gr G 576 b = some x → x ≠ w) : ∀ x w1, wo_gr G1 576 b = some x → wo_gr G1 256 a = some w1 → x ≠ w1 := by
  intro x w1 hx hw1 q
  obtain ⟨w2, j1, j2, j3⟩ := e
  have hba : ¬ sg_W a w b := by
    intro z
    have h10 := hS.1
    rcases z with z | z
    · rw [z, k.1] at h10; cases h10
    · rw [z, k.2.2.2.2.2.1.1] at h10; cases h10
  have hx0 : wo_gr G 576 b = some x := by rw [← (j3.2 b (by rw [hS.1]; decide) hba).2.2.2.2.1 576]; exact hx
  have hw2 : w1 = w2 := by
    have := j1.2.2.2.2.1
    rw [hw1] at this
    exact Option.some.inj this
  obtain ⟨_, _, _, _, y, hy, hyB⟩ := hS
  rw [hx0] at hy
  cases hy
  rcases j2 with z | z
  · exact hb x hx0 (q.trans (hw2.trans z))
  · rw [← hw2, ← q, hyB.1] at z
    cases z
theorem sp_sub {Post : Option Nat → wo_W → Prop} {p e : Nat} (hk : kx_ok E G) (h : tx_S G a t) (hpe : p ≤ e) (he : e ≤ t.length) (h1 : 2 ≤ mc) (h2 : e - p + 4 ≤ ms)
    (hp : ∀ (q : Nat) (G' : wo_W), fr_W fr_0 G G' → tx_S G' q (tx_sub t p e) → (∀ x, wo_gr G' 576 q = some x → wo_gr G 576 a = some x ∨ x < en_bs E ∨ wo_ty G x = 0 ∧ en_bs E ≤ x) → (q = a ∨ q < en_bs E ∨ wo_ty G q = 0 ∧ en_bs E ≤ q) → Post (some q) G') : pq_St_substring_II E mc ms Post G a (nI p) (nI e) := by
  refine sp_substring h hpe he h1 h2 (fun q1 q2 => ?_) (fun q1 _ => ?_) (fun q G' _ q2 q3 q4 q5 q6 => hp q G' q4 q5 (fun x hx => Or.inr (Or.inr (q6 x hx))) (Or.inr (Or.inr ⟨q2, q3⟩)))
  · refine hp a G (fr_rf _ _) ?_ (fun x hx => Or.inl hx) (Or.inl rfl)
    rw [q1, q2, tx_sub_all]
    exact h
  · obtain ⟨k1, k2, k3⟩ := hk.1 1 (by decide)
    refine hp _ G (fr_rf _ _) ?_ (fun x hx => Or.inr (Or.inl (k3 x hx))) (Or.inr (Or.inl k1))
    rw [tx_sub_nil (by omega)]
    exact k2
theorem sp_lsLoop {Post : Int32 → wo_W → Prop} {c s : Nat} (h : sg_ev E G0 v0 a G r) (hr : r.length ≤ 4096) (hc : c ≤ mc) (hs : s ≤ ms) : ∀ k, k ≤ r.length → Post (nI (ls_go r k)) G → pq_Tx_lastSlash_7 E mc ms Post (k + 1) G c s (some a) (nI k - 1) := by
  intro k
  induction k with
  | zero =>
    intro _ hp
    exact ⟨fun _ => hp, fun q => absurd (show nI 0 - 1 < (0 : Int32) by decide) q⟩
  | succ k ih =>
    intro hk hp
    have hh := h
    obtain ⟨w, hw, _, _⟩ := hh
    have hd := hw.2.2.2.2.2.2.2.2 _ (tx_mem (t := r) (i := k) (by omega))
    rw [nI_pred]
    refine ⟨fun q => absurd q (nI_pos (by omega)), fun _ => ⟨a, rfl, h.ty, 0, 0, hc, hs, ev_at h (by omega) hr ⟨fun q => ?_, fun q => ?_⟩⟩⟩
    · have z : ¬ r.getD k 0 = 47 := fun z => q (by rw [z]; rfl)
      rw [ls_go, if_neg z] at hp
      have := ih (by omega) hp
      rw [show nI k + (-1 : Int32) = nI k - 1 from (Int32.sub_eq_add_neg _ _).symm]
      exact this
    · have z : r.getD k 0 = 47 := (nI_eq (b := 47) (by omega) (by decide)).mp q
      rw [ls_go, if_pos z] at hp
      exact hp
theorem sp_lastSlash {Post : Int32 → wo_W → Prop} (h : sg_ev E G0 v0 a G r) (hr : r.length ≤ 4096) (hp : Post (nI (ls_of r)) G) : pq_Tx_lastSlash E mc ms Post G (some a) := by
  unfold pq_Tx_lastSlash pq_Tx_lastSlash_0
  exact ⟨a, rfl, h.ty, 0, 0, by omega, by omega, ev_len h ⟨r.length + 1, sp_lsLoop h hr (by omega) (by omega) _ (Nat.le_refl _) hp⟩⟩
theorem sp_addSegment {Post : wo_W → Prop} {z : Bool} (h : sg_ev E G0 v0 a G r) (hk : kx_ok E G0) (ha : en_bs E ≤ a) (hv : en_bs E ≤ v0) (hS : tx_S G b g) (hbv : ∀ x w, wo_gr G 576 b = some x → wo_gr G 256 a = some w → x ≠ w) (hr : r.length + 1 + g.length ≤ 22) (h1 : 2 ≤ mc) (h2 : 88 ≤ ms)
    (hp : ∀ G', sg_ev E G0 v0 a G' (as_of r g z) → Post G') : pq_Tx_addSegment E mc ms Post G (some a) (some b) (bo_I z) := by
  have hkG := h.kx hk ha hv
  unfold pq_Tx_addSegment pq_Tx_addSegment_0
  have h46 : ∀ (G1 : wo_W) (t : List Nat) (c s : Nat), sg_ev E G0 v0 a G1 t → t.length ≤ 21 → c + 1 ≤ mc → s + 44 ≤ ms → (∀ G', sg_ev E G0 v0 a G' (t ++ (if z then [47] else [])) → Post G') → pq_Tx_addSegment_46 E mc ms Post G1 c s (some a) (bo_I z) := by
    intro G1 t c s e ht hc hs hq
    unfold pq_Tx_addSegment_46 pq_Tx_addSegment_57
    cases z with
    | false =>
      refine ⟨fun _ => hq G1 (by simpa using e), fun q => absurd rfl q⟩
    | true =>
      refine ⟨fun q => absurd q (by decide), fun _ => ⟨a, rfl, e.ty, 1, 44, hc, hs, ev_C (c := 47) e (by decide) (by omega) (by omega) (by omega) (fun G' e2 => hq G' e2)⟩⟩
  refine ⟨b, rfl, hS.1, 0, 0, by omega, by omega, sp_equals hS (hkG.1 8 (by decide)).2.1 ⟨fun q => ?_, fun q => ⟨hS.1, 0, 0, by omega, by omega, sp_equals hS (hkG.1 9 (by decide)).2.1 ⟨fun q2 => ?_, fun q2 => ?_⟩⟩⟩⟩
  · have y : g = [46, 46] := by
      apply Classical.byContradiction
      intro y
      exact q (if_neg y)
    have e1 : as_of r g z = r.take (ls_of r) ++ (if z then [47] else []) := by unfold as_of; rw [if_pos y]
    rw [e1] at hp
    unfold pq_Tx_addSegment_34
    refine ⟨fun q3 => absurd q3 q, fun _ => ⟨0, 0, by omega, by omega, sp_lastSlash h (by omega) ⟨a, rfl, h.ty, 1, 44, by omega, by omega, ?_⟩⟩⟩
    have hl := ls_le r r.length
    refine ev_L h hl (by omega) (by omega) (by show 2 * ls_of r ≤ 44; have : ls_of r ≤ r.length := hl; omega) (fun G1 e => h46 G1 _ _ _ e (by rw [List.length_take]; omega) (by omega) (by omega) hp)
  · have y1 : ¬ g = [46, 46] := fun y => by rw [if_pos (show g = kx_tx 8 from y)] at q; exact absurd q (by decide)
    have y : g = [46] := by
      apply Classical.byContradiction
      intro y
      exact q2 (if_neg y)
    have e1 : as_of r g z = r ++ (if z then [47] else []) := by unfold as_of; rw [if_neg y1, if_pos y]
    rw [e1] at hp
    rw [q]
    unfold pq_Tx_addSegment_34
    exact ⟨fun _ => h46 G r _ _ h (by omega) (by omega) (by omega) hp, fun q3 => absurd rfl q3⟩
  · have y1 : ¬ g = [46, 46] := fun y => by rw [if_pos (show g = kx_tx 8 from y)] at q; exact absurd q (by decide)
    have y2 : ¬ g = [46] := fun y => by rw [if_pos (show g = kx_tx 9 from y)] at q2; exact absurd q2 (by decide)
    have e1 : as_of r g z = r ++ [47] ++ g := by unfold as_of; rw [if_neg y1, if_neg y2]
    rw [e1] at hp
    obtain ⟨w, k1, k2, k3⟩ := h
    have hbw : ∀ x, wo_gr G 576 b = some x → x ≠ w := fun x hx => hbv x w hx k1.2.2.2.2.1
    refine ⟨a, rfl, k1.1, 1, 44, by omega, by omega, ev_C (c := 47) (sg_ev.in k1) (by decide) (by omega) (by omega) (by omega) (fun G1 j => ?_)⟩
    have hS1 := j.S hS hbw k1.1 k1.2.2.2.2.2.1.1
    have hl : (r ++ [47]).length = r.length + 1 := by simp
    exact ⟨j.ty, 1, 44, by omega, by omega, ev_S j hS1 (j.nb k1 hS hbw) (by omega) (by omega) (by omega) (fun G2 j2 => hp G2 (sg_ev.tr k2 k3 j2))⟩
end SP
