def wk_of (m : Option Nat) (pa bd : List Nat) (vs : Nat → Option (List Nat)) (cp : Nat) (rs : List roT) (g : Nat) : Nat × Option rpT × Nat × List roT × Nat :=
  if m = some 2 then ((pu_of pa bd vs rs g).1, none, (pu_of pa bd vs rs g).2.1, (pu_of pa bd vs rs g).2.2.1, (pu_of pa bd vs rs g).2.2.2)
  else if m = some 3 then ((dl_of pa vs rs).1, none, 0, (dl_of pa vs rs).2, g)
  else ((re_of pa vs cp rs).1, (re_of pa vs cp rs).2, 0, rs, g)
def Rwk (J : Nat) : Nat → Prop := fun r => r = 4 ∨ r = 40 ∨ r = J
section SP
variable {E : wo_E} {mc ms : Nat} {G : wo_W} {o p g j J cp sa st : Nat} {pa bd : List Nat} {ow : Nat → Nat} {rs : List roT} {vs : Nat → Option (List Nat)} {m : Option Nat} {sp : Bool}
theorem wh_Ieq {m : Option Nat} {k : Nat} (h : ∀ n, m = some n → n < 2 ^ 31) (hk : k < 2 ^ 31) : wh_I m = nI k ↔ m = some k := by
  cases m with
  | none => exact ⟨fun q => absurd q.symm (nI_nm1 hk), fun q => (by cases q)⟩
  | some n => exact ⟨fun q => by rw [(nI_eq (h n rfl) hk).mp q], fun q => by cases q; rfl⟩
theorem sp_work {Post : wo_W → Prop} (c : cx E ow G) (h : og_at E ow G o rs g) (hl : rs.length ≤ 6) (hg : g + 1 < 2 ^ 31) (hb : jb_at E (im ow) G j p cp sa st none 0 sp) (hcp : cp < 2 ^ 31) (hj : ow j = J) (hJ : J ≠ 0) (hJ4 : J ≠ 4) (hJ40 : J ≠ 40) (hq : rq_at (im ow) G p m pa bd vs) (hp4 : ow p ≠ 4) (hp40 : ow p ≠ 40) (hpJ : ow p ≠ J) (h1 : 8 ≤ mc) (h2 : 60 ≤ ms)
    (hp : ∀ ow' G', xt E (Rwk J) ow G ow' G' → og_at E ow' G' o (wk_of m pa bd vs cp rs g).2.2.2.1 (wk_of m pa bd vs cp rs g).2.2.2.2 → jb_at E (im ow') G' j p cp sa (wk_of m pa bd vs cp rs g).1 (wk_of m pa bd vs cp rs g).2.1 (wk_of m pa bd vs cp rs g).2.2.1 sp → Post G') : pq_Og_work E mc ms Post G o (some j) := by
  have hb' := hb
  obtain ⟨b1, b2, b3, _⟩ := hb'
  have hq' := hq
  obtain ⟨y1, y2, y3, _⟩ := hq'
  have k2 := wh_Ieq (m := m) (k := 2) (fun n e => by have := y3 n e; omega) (by decide)
  have k3 := wh_Ieq (m := m) (k := 3) (fun n e => by have := y3 n e; omega) (by decide)
  unfold pq_Og_work pq_Og_work_0 pq_Og_work_43
  refine ⟨j, rfl, b1, fun r hr => ⟨p, hr.trans b3, y1, fun w => fun r2 hr2 => ⟨p, hr2.trans b3, y1, fun w2 => ⟨h.1, 0, 0, Nat.zero_le _, Nat.zero_le _, ?_⟩, fun w2 => ⟨h.1, 0, 0, Nat.zero_le _, Nat.zero_le _, ?_⟩⟩, fun w => ⟨h.1, mc, ms, by omega, by omega, ?_⟩⟩⟩
  · rw [y2] at w w2
    have e : wk_of m pa bd vs cp rs g = ((re_of pa vs cp rs).1, (re_of pa vs cp rs).2, 0, rs, g) := by
      unfold wk_of
      rw [if_neg (fun z => w (k2.mpr z)), if_neg (fun z => w2 (k3.mpr z))]
    rw [e] at hp
    exact sp_ogRead c h (by omega) hb hcp hj hJ hJ4 hJ40 hq (fun G' x og jb => hp ow G' (x.mn (fun a q => Or.inr (Or.inr q))) og jb)
  · rw [y2] at w w2
    have e : wk_of m pa bd vs cp rs g = ((dl_of pa vs rs).1, none, 0, (dl_of pa vs rs).2, g) := by
      unfold wk_of
      rw [if_neg (fun z => w (k2.mpr z)), if_pos (k3.mp w2)]
    rw [e] at hp
    exact sp_ogDelete c h (by omega) hb hj hJ hJ4 hJ40 hq (fun G' x og jb => hp ow G' x og jb)
  · rw [y2] at w
    have e : wk_of m pa bd vs cp rs g = ((pu_of pa bd vs rs g).1, none, (pu_of pa bd vs rs g).2.1, (pu_of pa bd vs rs g).2.2.1, (pu_of pa bd vs rs g).2.2.2) := by
      unfold wk_of
      rw [if_pos (k2.mp w)]
    rw [e] at hp
    exact sp_ogPut c h hl hg hb hj hJ hJ4 hJ40 hq hp4 hp40 hpJ h1 h2 (fun ow' G' x og jb => hp ow' G' x og jb)
end SP
