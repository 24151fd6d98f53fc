def hl_of (l g : Nat) (bd po : List Nat) (vr : Bool) (ag : Option Nat) (b : Bool) : List Nat := ds_of 200 l g po vr ag ++ nl_of 76 bd.length ++ [10] ++ (if b then bd else [])
theorem ds_len {m l g : Nat} {po : List Nat} {vr : Bool} {ag : Option Nat} (hm : m < 1000) (hg : g < 2 ^ 31) (hag : ∀ n, ag = some n → n < 2 ^ 31) (hpo : po.length ≤ 8) : (ds_of m l g po vr ag).length ≤ 60 := by
  have h1 := bg_len (m := m) (by omega)
  have h2 := nl_len (x := 69) hg
  have h3 : (ag_of ag).length ≤ 13 := by
    cases ag with
    | none => exact Nat.zero_le _
    | some n => exact nl_len (hag n rfl)
  have h4 : (if vr = true then [89, 58, 86, 10] else ([] : List Nat)).length ≤ 4 := by cases vr <;> simp
  have h5 : (if po = [] then [] else [80, 58] ++ po ++ [10]).length ≤ 11 := by
    by_cases y : po = []
    · rw [if_pos y]; exact Nat.zero_le _
    · rw [if_neg y]; simp; omega
  unfold ds_of
  simp only [List.length_append]
  have h6 : [75, 58].length = 2 := rfl
  have h7 : [l].length = 1 := rfl
  have h8 : [10].length = 1 := rfl
  omega
section SP
variable {E : wo_E} {mc ms : Nat} {G G0 : wo_W} {a z v0 : Nat} {t u : List Nat} {im : Nat → Prop}
theorem sp_shWhole {Post : wo_W → Prop} {p l g : Nat} {bd po : List Nat} {vr b : Bool} {ag : Option Nat} (h : sh_b E G0 v0 z a) (e : sg_ev E G0 v0 a G t) (ht : t.length ≤ 4096) (hr : rp_at im G0 p l bd g po vr) (ha : ¬ im a) (hv : ¬ im v0) (hag : ∀ n, ag = some n → n < 2 ^ 31) (h1 : 27 ≤ mc) (h2 : 5500 ≤ ms) (hp : ∀ G', sg_ev E G0 v0 a G' (hl_of l g bd po vr ag b) → Post G') : pq_Sh_whole E mc ms Post G z (some p) (wh_I ag) (bo_I b) := by
  have hW : ∀ x, sg_W a v0 x → ¬ im x := fun x q => by rcases q with q | q <;> rw [q] <;> assumption
  have hR : ∀ G' t', sg_ev E G0 v0 a G' t' → rp_at im G' p l bd g po vr := fun G' t' e' => hr.fr e'.frm hW
  have hr0 := hr
  obtain ⟨g1, g2, g3, g4, ⟨q1, g5, g6, g7⟩, g8, g9, ⟨q2, j1, j2, j3⟩, j4⟩ := hr0
  have ep : ∀ G' t', sg_ev E G0 v0 a G' t' → wo_gr G' 769 p = some q1 := by
    intro G' t' e'
    rw [(e'.frm.2 p (by rw [g1]; decide) (fun y => hW p y g2)).2.2.2.2.1 769]
    exact g5
  have hd := ds_len (m := 200) (l := l) (vr := vr) (by decide) g9 hag j3
  unfold pq_Sh_whole pq_Sh_whole_0
  refine ⟨(h.zz e).1, 20, 4000, by omega, by omega, sp_describe (m := 200) h e ht hr ha hv (by decide) hag (by omega) (by omega) (fun G1 e1 => ?_)⟩
  have s1 := h.iS e1 ha hv g6
  refine ⟨p, rfl, (hR G1 _ e1).1, fun r hr => ⟨q1, hr.trans (ep G1 _ e1), s1.1.1, 0, 0, by omega, by omega, sp_length s1.1 ⟨(h.zz e1).1, 4, 960, by omega, by omega, ?_⟩⟩⟩
  refine sp_numberLine (x := 76) h e1 (by omega) (by decide) (by omega) (by omega) (by omega) (fun G2 e2 => ?_)
  have hn := nl_len (x := 76) (m := bd.length) (by omega)
  have l2 : (ds_of 200 l g po vr ag ++ nl_of 76 bd.length).length ≤ 73 := by rw [List.length_append]; omega
  refine ⟨(h.zz e2).1, fun r hr => ⟨a, (h.zz e2).2 r hr, e2.ty, 1, 240, by omega, by omega, ev_C (c := 10) e2 (by decide) (by omega) (by omega) (by omega) (fun G3 e3 => ?_)⟩⟩
  have l3 : (ds_of 200 l g po vr ag ++ nl_of 76 bd.length ++ [10]).length ≤ 74 := by rw [List.length_append]; show _ + 1 ≤ 74; omega
  unfold pq_Sh_whole_48
  cases b with
  | false =>
    refine ⟨fun _ => hp G3 ?_, fun q => absurd rfl q⟩
    simpa [hl_of] using e3
  | true =>
    refine ⟨fun q => absurd q (by decide), fun _ => ⟨(h.zz e3).1, fun r hr => ⟨(hR G3 _ e3).1, fun r2 hr2 => ⟨a, (h.zz e3).2 r hr, e3.ty, 1, 240, by omega, by omega, ?_⟩⟩⟩⟩
    have s3 := h.iS e3 ha hv g6
    rw [hr2, ep G3 _ e3]
    exact ev_S e3 s3.1 s3.2 (by omega) (by omega) (by omega) (fun G4 e4 => hp G4 e4)
theorem sp_sizeOf {Post : Int32 → wo_W → Prop} {p l g : Nat} {bd po : List Nat} {vr : Bool} (h : sh_b E G0 v0 z a) (hr : rp_at im G0 p l bd g po vr) (ha : ¬ im a) (hv : ¬ im v0) (h1 : 27 ≤ mc) (h2 : 5500 ≤ ms) (hp : ∀ G', sg_ev E G0 v0 a G' (hl_of l g bd po vr none true) → Post (nI (hl_of l g bd po vr none true).length) G') : pq_Sh_sizeOf E mc ms Post G0 z (some p) := by
  have hh := h
  obtain ⟨⟨t0, k, kl⟩, _⟩ := hh
  have e0 := sg_ev.in k
  unfold pq_Sh_sizeOf pq_Sh_sizeOf_0
  refine ⟨(h.zz e0).1, 27, 5500, by omega, by omega, sp_shWhole (ag := none) (b := true) h e0 kl hr ha hv (fun n q => (by cases q)) (by omega) (by omega) (fun G1 e1 => ?_)⟩
  exact ⟨(h.zz e1).1, fun r hr => ⟨a, (h.zz e1).2 r hr, e1.ty, 0, 0, by omega, by omega, ev_len e1 (hp G1 e1)⟩⟩
end SP
