theorem pu_0 {pa bd : List Nat} {vs : vsT} {rs : List roT} {g : Nat} (h : ¬ ((pu_of pa bd vs rs g).1 = 201 ∨ (pu_of pa bd vs rs g).1 = 204)) : (pu_of pa bd vs rs g).2.1 = 0 := by
  unfold pu_of at h ⊢
  split
  · rfl
  · rename_i n e
    rw [e] at h
    simp only [] at h
    split
    · rfl
    · rename_i z
      rw [if_neg z] at h
      split
      · rfl
      · rename_i z2
        rw [if_neg z2] at h
        exact absurd (by cases pu_old pa rs n <;> simp [st_of]) h
def Pdi : Nat → Nat → Prop := fun f i => Pch 8 f i ∨ Prr 38 f i ∨ FS f
section MD
variable {E : wo_E} {mc ms m c s : Nat} {G0 G G1 G2 : wo_W} {ow : Nat → Nat} {A : Nat → Nat} {F K : Nat → Prop} {u : List Nat} {P Q : Nat → Nat → Prop}
theorem ba_g {st g : Nat} (h : 0 < g) : ba_of st g = bg_of st ++ nl_of 69 g ++ nl_of 76 0 ++ [10] := by unfold ba_of; rw [if_pos h]
theorem sp_changed {Post : wo_W → Prop} {j st gt : Nat} {q : rqT} (h : md_k E ow m A G) (hb : ow_b E ow G) (hj : j < 9) (hq : vq_at A G j q) (hst : st < 10 ^ 9) (hm : q.1 = some 2 ∨ q.1 = some 3) (hg : q.1 = some 2 → (st = 201 ∨ st = 204) → wo_ei G (A 927) j = nI gt ∧ 0 < gt ∧ gt < 10 ^ 9) (hg0 : ¬ (q.1 = some 2 ∧ (st = 201 ∨ st = 204)) → gt = 0) (hp : ∀ G', me E ow m A FT G G' → tb_at m A G' (ba_of st gt) → Post G') : pq_Md_changed E mc ms Post G m (nI j) (nI st) := by
  have vj : vp_in (nI j) 9 := vp_in_nI hj (by decide)
  have cj : (nI j).toNatClampNeg = j := nI_clamp (by omega)
  obtain ⟨kk, k1, k2, k3⟩ := hq.1
  have h24 : ¬ (q.1 = some 2 ∧ (st = 201 ∨ st = 204)) → ∀ c s, c ≤ mc → s ≤ ms → pq_Md_changed_24 E mc ms Post G c s m (nI st) := by
    intro z c s hc hs
    rw [hg0 z] at hp
    unfold pq_Md_changed_24
    exact ⟨h.1, 0, 0, hc, hs, sp_plain hst h hb hp⟩
  have h31 : q.1 = some 2 → (st = 201 ∨ st = 204) → pq_Md_changed_31 E mc ms Post G 0 0 m (nI j) (nI st) := by
    intro z1 z2
    obtain ⟨g1, g2, g3⟩ := hg z1 z2
    unfold pq_Md_changed_31
    refine ⟨h.1, 0, 0, Nat.zero_le _, Nat.zero_le _, sp_mbegin hst h hb (fun G1 m1 t1 => ⟨m1.2.1.1, m1.2.1.rd (f := 927) (k := 66) (n := 9) (by decide) vj ?_⟩)⟩
    have l1 := bg_le hst
    rw [cj, m1.ei (f := 927) (k := 66) (n := 9) (by decide) (fun z => by rcases z with z | z <;> cases z), g1]
    refine m1.li (b := 69) t1 (Nat.zero_le _) (Nat.zero_le _) g3 (by omega) (fun G2 m2 t2 => ⟨m2.2.1.1, ?_⟩)
    have l2 := le_app l1 (nl_le (x := 69) g3)
    refine m2.li (b := 76) (v := 0) t2 (Nat.zero_le _) (Nat.zero_le _) (by decide) (by omega) (fun G3 m3 t3 => ⟨m3.2.1.1, ?_⟩)
    have l3 := le_app l2 (nl_le (x := 76) (v := 0) (by decide))
    refine m3.pu (b := 10) t3 (Nat.zero_le _) (Nat.zero_le _) (by omega) (fun G4 m4 t4 => hp G4 m4 ?_)
    rw [ba_g g2]
    exact t4
  unfold pq_Md_changed pq_Md_changed_0
  refine ⟨h.1, h.rd (f := 907) (k := 66) (n := 9) (by decide) vj ?_⟩
  rw [cj, k3]
  refine ⟨fun w => h24 (fun z => ?_) _ _ (Nat.zero_le _) (Nat.zero_le _), fun w => ?_⟩
  · have : kk = 3 := (nI_eq (b := 3) (by omega) (by decide)).mp w
    have := z.1
    rw [k1] at this
    cases this
    omega
  · have m2 : q.1 = some 2 := by
      rcases hm with e | e
      · exact e
      · rw [k1] at e; cases e; exact absurd rfl w
    refine ⟨fun w2 => h31 m2 (Or.inl ((nI_eq (b := 201) (by omega) (by decide)).mp w2)), fun w2 => ⟨fun w3 => h31 m2 (Or.inr ((nI_eq (b := 204) (by omega) (by decide)).mp w3)), fun w3 => h24 (fun z => ?_) _ _ (Nat.zero_le _) (Nat.zero_le _)⟩⟩
    rcases z.2 with z | z
    · exact w2 (by rw [z]; rfl)
    · exact w3 (by rw [z]; rfl)
theorem pu_st {pa bd : List Nat} {vs : vsT} {rs : List roT} {g : Nat} : (pu_of pa bd vs rs g).1 < 1000 := by
  unfold pu_of
  split
  · show 415 < 1000; decide
  · split
    · show 412 < 1000; decide
    · split
      · show 507 < 1000; decide
      · rename_i n _ _ _
        show st_of (pu_old pa rs n) < 1000
        cases pu_old pa rs n with
        | none => show 201 < 1000; decide
        | some _ => show 204 < 1000; decide
theorem dl_st {pa : List Nat} {vs : vsT} {rs : List roT} : (dl_of pa vs rs).1 < 1000 := by
  unfold dl_of
  split
  · show 404 < 1000; decide
  · split
    · show 412 < 1000; decide
    · show 204 < 1000; decide
theorem re_L {L : rlT} {pa : List Nat} {vs : vsT} {cp : Nat} {x : Nat × roT} (hnd : (L.map (fun x => x.2.1)).Nodup) (hx : x ∈ L) (ex : x.2.1 = pa) : re_of pa vs cp (rl L) = (match ch_of (vs 5) (ex_of x.2.2.1 x.2.2.2) with | none => (406, none) | some r => (if r.2.2.1 = cp then 304 else 200, some r)) := by
  obtain ⟨i, e0, e1, e2⟩ := io_L hnd hx ex
  have e0 : io_of pa (rl L) = some i := e0
  have eg : (rl L).getD i ro_0 = x.2 := gt_L e2
  unfold re_of rx_ex
  rw [e0]
  simp only []
  rw [eg]
  cases ch_of (vs 5) (ex_of x.2.2.1 x.2.2.2) <;> rfl
theorem sp_direct {Post : wo_W → Prop} {L : rlT} {tg : Nat} {q : rqT} {w : Nat × Option rpT × Nat × List roT × Nat} (hw : w = wk_of q.1 q.2.1 q.2.2.1 q.2.2.2 0 (rl L) tg) (h : md_k E ow m A G) (hb : ow_b E ow G) (hk : mrs A G L) (hnd : (L.map (fun x => x.2.1)).Nodup) (hne : ∀ x ∈ L, ∃ l, l < 3 ∧ x.2.2.2 l ≠ none) (hq : vq_at A G 8 q) (htg : wo_gi G 957 m = nI tg) (ht9 : tg + 1 < 10 ^ 9) (hp : ∀ L' G', rl L' = w.2.2.2.1 → mrs A G' L' → wo_gi G' 957 m = nI w.2.2.2.2 → mf E ow m A Pdi G G' → tb_at m A G' (at_of q w.1 w.2.1 w.2.2.1) → Post G') : pq_Md_direct E mc ms Post G m := by
  have vj : vp_in (8 : Int32) 9 := vp_in_nI (n := 8) (by decide) (by decide)
  have cj : (8 : Int32).toNatClampNeg = 8 := by decide
  obtain ⟨kk, k1, k2, k3⟩ := hq.1
  unfold pq_Md_direct pq_Md_direct_0 pq_Md_direct_60
  refine ⟨h.1, h.rd (f := 907) (k := 66) (n := 9) (by decide) vj ?_⟩
  rw [cj, k3]
  have e8 : (8 : Int32) = nI 8 := rfl
  have fT : ∀ G1, me E ow m A FT G G1 → mf E ow m A Pdi G G1 := fun G1 m1 => m1.mf (fun f i z => Or.inr (Or.inr (Or.inl z)))
  have keepT : ∀ G1 G2 L, mrs A G1 L → mf E ow m A (fun f _ => FS f) G1 G2 → mrs A G2 L := fun G1 G2 L h1 h2 => h1.mf h2 (fun f i z w => by unfold PR at z; rcases w with w | w <;> rcases w with w | w <;> omega)
  have gT : ∀ G1 G2, mf E ow m A (fun f _ => FS f) G1 G2 → wo_gi G2 957 m = wo_gi G1 957 m := fun G1 G2 h2 => h2.gi (fun i w => by rcases w with w | w <;> rcases w with w | w <;> omega)
  refine ⟨fun w1 => ?_, fun w1 => ?_⟩
  · have hk1 : kk ≤ 1 := (nI_leI (b := 1) (by omega) (by decide)).mp w1
    have ew : w = ((re_of q.2.1 q.2.2.2 0 (rl L)).1, (re_of q.2.1 q.2.2.2 0 (rl L)).2, 0, rl L, tg) := by
      rw [hw]
      unfold wk_of
      rw [k1, if_neg (fun z => by cases z; omega), if_neg (fun z => by cases z; omega)]
    rw [ew] at hp
    have plain : ∀ st, st < 1000 → re_of q.2.1 q.2.2.2 0 (rl L) = (st, none) → ∀ c s, c ≤ mc → s ≤ ms → pq_Md_plain E 0 0 (fun v15 G14 => Post G14) G m (nI st) := by
      intro st hst e c s hc hs
      rw [e] at hp
      refine sp_plain (by omega) h hb (fun G1 m1 t1 => hp L G1 rfl (keepT G G1 L hk (m1.mf (fun f i z => Or.inl z))) ?_ (fT G1 m1) t1)
      rw [gT G G1 (m1.mf (fun f i z => Or.inl z))]
      exact htg
    refine ⟨0, 0, Nat.zero_le _, Nat.zero_le _, ?_⟩
    rw [e8, show (38 : Int32) = nI 38 from rfl]
    refine sp_mask h hb hk hq (by decide) (by decide) hne (fun hno => ?_) (fun x hx ex ec => ?_) (fun x hx ex p ec G1 m1 r1 => ?_)
    · have e0 : io_of q.2.1 (rl L) = none := io_0 hno
      refine ⟨fun _ => ⟨h.1, 0, 0, Nat.zero_le _, Nat.zero_le _, plain 404 (by decide) (by unfold re_of; rw [e0]) 0 0 (Nat.zero_le _) (Nat.zero_le _)⟩, fun w => absurd w (by decide)⟩
    · refine ⟨fun _ => ⟨h.1, 0, 0, Nat.zero_le _, Nat.zero_le _, plain 406 (by decide) (by rw [re_L hnd hx ex, ec]) 0 0 (Nat.zero_le _) (Nat.zero_le _)⟩, fun w => absurd w (by decide)⟩
    · refine ⟨fun w => absurd rfl w, fun _ => ⟨m1.k.1, 0, 0, Nat.zero_le _, Nat.zero_le _, ?_⟩⟩
      have q1 : vq_at A G1 8 q := vq_r hq m1 (fun f i z => by unfold Prr at z; omega)
      refine sp_mselect (ag := none) m1.k m1.b q1 (by decide) r1 (by decide) (fun n e => (by cases e)) (fun G2 m2 t2 => ?_)
      have m2' : mf E ow m A (fun f _ => FS f) G1 G2 := m2.mf (fun f i z => z)
      have er : re_of q.2.1 q.2.2.2 0 (rl L) = (if p.2.2.1 = 0 then 304 else 200, some p) := by rw [re_L hnd hx ex, ec]
      rw [er] at hp
      refine hp L G2 rfl (keepT G1 G2 L (hk.mf m1 (fun f i z w => by unfold PR at z; unfold Prr at w; omega)) m2') ?_ ((m1.mn (fun f i z => Or.inr (Or.inl z))).tr (m2'.mn (fun f i z => Or.inr (Or.inr z)))) t2
      rw [gT G1 G2 m2', m1.gi (fun i w => by unfold Prr at w; omega)]
      exact htg
  · have hk1 : ¬ kk ≤ 1 := fun z => w1 (nI_le (b := 1) z (by decide))
    have hm : q.1 = some 2 ∨ q.1 = some 3 := by
      rw [k1]
      have : kk = 2 ∨ kk = 3 := by omega
      rcases this with z | z <;> rw [z] <;> simp
    refine ⟨0, 0, Nat.zero_le _, Nat.zero_le _, ?_⟩
    rw [e8]
    have goP : ∀ (L' : rlT) (G1 : wo_W) (st gt tg' : Nat), w = (st, none, gt, rl L', tg') → st < 10 ^ 9 → mrs A G1 L' → wo_gi G1 957 m = nI tg' → mf E ow m A (Pch 8) G G1 → (q.1 = some 2 → (st = 201 ∨ st = 204) → wo_ei G1 (A 927) 8 = nI gt ∧ 0 < gt ∧ gt < 10 ^ 9) → (¬ (q.1 = some 2 ∧ (st = 201 ∨ st = 204)) → gt = 0) → wo_ty G1 m = 15 ∧ ∃ mc25 ms26 : Nat, ((0 + 0) + mc25) ≤ mc ∧ ((0 + 0) + ms26) ≤ ms ∧ pq_Md_changed E mc25 ms26 (fun G27 => Post G27) G1 m (nI 8) (nI st) := by
      intro L' G1 st gt tg' ew hst hk1 ht1 m1 hg hg0
      rw [ew] at hp
      have q1 : vq_at A G1 8 q := vq_r hq m1 (fun f i z => by unfold Pch at z; omega)
      refine ⟨m1.k.1, 0, 0, Nat.zero_le _, Nat.zero_le _, sp_changed m1.k m1.b (by decide) q1 hst hm hg hg0 (fun G2 m2 t2 => ?_)⟩
      have m2' : mf E ow m A (fun f _ => FS f) G1 G2 := m2.mf (fun f i z => Or.inl z)
      refine hp L' G2 rfl (keepT G1 G2 L' hk1 m2') ?_ ((m1.mn (fun f i z => Or.inl z)).tr (m2'.mn (fun f i z => Or.inr (Or.inr z)))) t2
      rw [gT G1 G2 m2']
      exact ht1
    refine sp_change h hb hk hnd hne (by decide) hq hm htg ht9 (fun e3 L' G1 el hk1 ht1 m1 => ?_) (fun e2 L' G1 el hk1 ht1 m1 hg => ?_)
    · refine goP L' G1 _ 0 tg ?_ (by have := dl_st (pa := q.2.1) (vs := q.2.2.2) (rs := rl L); omega) hk1 ht1 m1 (fun z => by rw [e3] at z; cases z) (fun _ => rfl)
      rw [hw, el]
      unfold wk_of
      rw [e3, if_neg (by decide), if_pos rfl]
    · refine goP L' G1 _ _ _ ?_ (by have := pu_st (pa := q.2.1) (bd := q.2.2.1) (vs := q.2.2.2) (rs := rl L) (g := tg); omega) hk1 ht1 m1 (fun _ => hg) (fun z => pu_0 (fun y => z ⟨e2, y⟩))
      rw [hw, el]
      unfold wk_of
      rw [e2, if_pos rfl]
end MD
