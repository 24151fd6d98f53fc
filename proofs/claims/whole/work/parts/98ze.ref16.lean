def Pch (j : Nat) : Nat → Nat → Prop := fun f i => 945 ≤ f ∧ f ≤ 952 ∨ f = 957 ∨ f = 927 ∧ i = j
def rl (L : rlT) : List roT := L.map (fun x => x.2)
theorem ex_rt {po : List Nat} {bt : btT} {n : Nat} : rt_of (ex_of po bt n) = (bt n).map (fun x => x.2) := by
  unfold rt_of ex_of
  cases bt n <;> rfl
theorem nt_nb {po bd : List Nat} {bt : btT} {n tg : Nat} : nt_of bd tg (ex_of po bt n) = nt_b bd tg (bt n) := by
  unfold ex_of
  cases bt n <;> rfl
theorem st_sb {po : List Nat} {bt : btT} {n : Nat} : st_of (ex_of po bt n) = st_b (bt n) := by
  unfold ex_of
  cases bt n <;> rfl
section MD
variable {E : wo_E} {mc ms m c s : Nat} {G0 G G1 G2 : wo_W} {ow : Nat → Nat} {A : Nat → Nat} {F K : Nat → Prop} {u : List Nat} {P Q : Nat → Nat → Prop}
theorem mrs_set {L : rlT} {i : Nat} {x : Nat × roT} {v : roT} (hk : mrs A G L) (hi : L[i]? = some x) (h : mf E ow m A P G G1) (hP : ∀ f y, P f y → 948 ≤ f ∧ f ≤ 949 ∧ y = x.1 ∨ 950 ≤ f ∧ f ≤ 952 ∧ y / 3 = x.1 ∨ f = 957 ∨ f = 927) (hv : mro A G1 x.1 v) : mrs A G1 (L.set i (x.1, v)) := by
  obtain ⟨b1, b2, b3⟩ := hk
  obtain ⟨s1, s2⟩ := nd_set (v := v) b1 hi
  refine ⟨by rw [s2]; exact b1, fun y hy => ?_, fun k hk6 => ?_⟩
  · rcases (s1 y).mp hy with q | q
    · rw [q]; exact ⟨(b2 x (List.mem_of_getElem? hi)).1, hv⟩
    · refine ⟨(b2 y q.1).1, (b2 y q.1).2.mf h (fun f hf z => ?_) (fun l hl f hf z => ?_)⟩
      · have := hP f _ z; simp only [List.mem_cons, List.mem_nil_iff, or_false] at hf
        have := q.2
        omega
      · have := hP f _ z; simp only [List.mem_cons, List.mem_nil_iff, or_false] at hf
        have := q.2
        omega
  · rw [s2, h.ei (f := 945) (k := 72) (n := 6) (by decide) (fun z => by have := hP _ _ z; omega)]
    exact b3 k hk6
theorem mrs_add {L : rlT} {k : Nat} {v : roT} (hk : mrs A G L) (hk6 : k < 6) (hkn : k ∉ L.map (fun x => x.1)) (h : mf E ow m A P G G1) (hP : ∀ f y, P f y → 945 ≤ f ∧ f ≤ 949 ∧ y = k ∨ 950 ≤ f ∧ f ≤ 952 ∧ y / 3 = k ∨ f = 957 ∨ f = 927) (hv : mro A G1 k v) (h1 : wo_ei G1 (A 945) k = 1) : mrs A G1 (L ++ [(k, v)]) := by
  obtain ⟨b1, b2, b3⟩ := hk
  refine ⟨?_, fun y hy => ?_, fun x hx => ?_⟩
  · rw [List.map_append]
    refine List.nodup_append.mpr ⟨b1, by simp, fun a ha b hb e => ?_⟩
    have : b = k := by simpa using hb
    exact hkn (by rw [← this, ← e]; exact ha)
  · rcases List.mem_append.mp hy with q | q
    · have ne : y.1 ≠ k := fun e => hkn (List.mem_map.mpr ⟨y, q, e⟩)
      refine ⟨(b2 y q).1, (b2 y q).2.mf h (fun f hf z => ?_) (fun l hl f hf z => ?_)⟩
      · have := hP f _ z; simp only [List.mem_cons, List.mem_nil_iff, or_false] at hf
        omega
      · have := hP f _ z; simp only [List.mem_cons, List.mem_nil_iff, or_false] at hf
        omega
    · have : y = (k, v) := by simpa using q
      rw [this]; exact ⟨hk6, hv⟩
  · rw [List.map_append]
    by_cases z : x = k
    · rw [z, h1, decide_eq_true (by simp)]; rfl
    · rw [h.ei (f := 945) (k := 72) (n := 6) (by decide) (fun w => by have := hP _ _ w; omega), b3 x hx]
      congr 1
      simp [z]
theorem bu_pos {k n g : Nat} {pa po bd : List Nat} {bt : btT} (h : mro A G k (pa, po, bu_of bt n (bd, g))) (hn : n < 3) : 0 < g ∧ g < 10 ^ 9 := by
  have h1 := h.2.2 n hn
  have e : bu_of bt n (bd, g) n = some (bd, g) := if_pos rfl
  simp only [] at h1
  rw [e] at h1
  exact h1.2.2
theorem sp_change {Post : Int32 → wo_W → Prop} {L : rlT} {j tg : Nat} {q : rqT} (h : md_k E ow m A G) (hb : ow_b E ow G) (hk : mrs A G L) (hnd : (L.map (fun x => x.2.1)).Nodup) (hne : ∀ x ∈ L, ∃ l, l < 3 ∧ x.2.2.2 l ≠ none) (hj : j < 9) (hq : vq_at A G j q) (hm : q.1 = some 2 ∨ q.1 = some 3) (htg : wo_gi G 957 m = nI tg) (ht9 : tg + 1 < 10 ^ 9)
    (hp3 : q.1 = some 3 → ∀ L' G', rl L' = (dl_of q.2.1 q.2.2.2 (rl L)).2 → mrs A G' L' → wo_gi G' 957 m = nI tg → mf E ow m A (Pch j) G G' → Post (nI (dl_of q.2.1 q.2.2.2 (rl L)).1) G')
    (hp2 : q.1 = some 2 → ∀ L' G', rl L' = (pu_of q.2.1 q.2.2.1 q.2.2.2 (rl L) tg).2.2.1 → mrs A G' L' → wo_gi G' 957 m = nI (pu_of q.2.1 q.2.2.1 q.2.2.2 (rl L) tg).2.2.2 → mf E ow m A (Pch j) G G' → ((pu_of q.2.1 q.2.2.1 q.2.2.2 (rl L) tg).1 = 201 ∨ (pu_of q.2.1 q.2.2.1 q.2.2.2 (rl L) tg).1 = 204 → wo_ei G' (A 927) j = nI (pu_of q.2.1 q.2.2.1 q.2.2.2 (rl L) tg).2.1 ∧ 0 < (pu_of q.2.1 q.2.2.1 q.2.2.2 (rl L) tg).2.1 ∧ (pu_of q.2.1 q.2.2.1 q.2.2.2 (rl L) tg).2.1 < 10 ^ 9) → Post (nI (pu_of q.2.1 q.2.2.1 q.2.2.2 (rl L) tg).1) G') : pq_Md_change E mc ms Post G m (nI j) := by
  have vj : vp_in (nI j) 9 := vp_in_nI hj (by decide)
  have cj : (nI j).toNatClampNeg = j := nI_clamp (by omega)
  have rf := mf.rf (P := Pch j) h hb
  obtain ⟨y1, y2, y3⟩ := ix8 (h := 6) hj (by decide)
  unfold pq_Md_change pq_Md_change_0
  rw [show (6 : Int32) = nI 6 from rfl, y1]
  refine ⟨h.1, 0, 0, Nat.zero_le _, Nat.zero_le _, sp_resource h hk hj hq.2.1 (fun o ho => ⟨h.1, h.rd (f := 907) (k := 66) (n := 9) (by decide) vj ?_⟩)⟩
  obtain ⟨kk, k1, k2, k3⟩ := hq.1
  rw [cj, k3]
  refine ⟨fun w => ?_, fun w => ?_⟩
  · -- put
    have m2 : q.1 = some 2 := by
      rcases hm with e | e
      · exact e
      · rw [k1] at e; cases e; exact absurd rfl w
    have hp2 := hp2 m2
    clear hp3
    have h415 : pl_at (q.2.2.2 6) = none → ∀ c s, pq_Md_change_138 E mc ms Post G c s := by
      intro e c s
      have ep : pu_of q.2.1 q.2.2.1 q.2.2.2 (rl L) tg = (415, 0, rl L, tg) := by unfold pu_of; rw [e]
      rw [ep] at hp2
      unfold pq_Md_change_138
      exact hp2 L G rfl hk htg rf (fun z => by rcases z with z | z <;> cases z)
    -- the road of a good letter
    have h168 : ∀ n, n < 3 → pl_at (q.2.2.2 6) = some n → ∀ c s, c ≤ mc → s ≤ ms → pq_Md_change_168 E mc ms Post G c s m (nI j) (rf_I o) (nI n) (tg_I (rt_of (pu_old q.2.1 (rl L) n))) := by
      intro n hn epl c s hc hs
      have ep : pu_of q.2.1 q.2.2.1 q.2.2.2 (rl L) tg = (if fb_of q.2.2.2 (rt_of (pu_old q.2.1 (rl L) n)) = true then (412, 0, rl L, tg) else if io_of q.2.1 (rl L) = none ∧ 6 ≤ (rl L).length then (507, 0, rl L, tg) else (st_of (pu_old q.2.1 (rl L) n), (nt_of q.2.2.1 tg (pu_old q.2.1 (rl L) n)).1, pu_rs q.2.1 ((q.2.2.2 7).getD []) (rl L) n (q.2.2.1, (nt_of q.2.2.1 tg (pu_old q.2.1 (rl L) n)).1), (nt_of q.2.2.1 tg (pu_old q.2.1 (rl L) n)).2)) := by
        unfold pu_of; rw [epl]
      have hto : ∀ g, rt_of (pu_old q.2.1 (rl L) n) = some g → 0 < g ∧ g < 2 ^ 31 := by
        intro g eg
        cases o with
        | none =>
          have e0 : io_of q.2.1 (rl L) = none := io_0 ho
          unfold pu_old at eg
          rw [e0] at eg
          cases eg
        | some x =>
          obtain ⟨hx, ex⟩ := ho
          obtain ⟨i, e0, e1, e2⟩ := io_L hnd hx ex
          have e0 : io_of q.2.1 (rl L) = some i := e0
          unfold pu_old rx_ex at eg
          rw [e0] at eg
          simp only [] at eg
          rw [show (rl L).getD i ro_0 = x.2 from gt_L e2, ex_rt] at eg
          have hb := (hk.2.1 x hx).2.2.2 n hn
          cases eb : x.2.2.2 n with
          | none => rw [eb] at eg; cases eg
          | some v =>
            rw [eb] at eg hb
            have : v.2 = g := by simpa using eg
            have := hb.2.2
            omega
      unfold pq_Md_change_168
      refine ⟨h.1, 0, 0, hc, hs, sp_holds h hq hj hto ?_⟩
      cases hfb : fb_of q.2.2.2 (rt_of (pu_old q.2.1 (rl L) n)) with
      | true =>
        rw [hfb, if_pos rfl] at ep
        rw [ep] at hp2
        exact ⟨fun w => absurd rfl w, fun _ => hp2 L G rfl hk htg rf (fun z => by rcases z with z | z <;> cases z)⟩
      | false =>
        rw [hfb, if_neg (by simp)] at ep
        refine ⟨fun _ => ?_, fun w => absurd w (by decide)⟩
        cases o with
        | none =>
          have e0 : io_of q.2.1 (rl L) = none := io_0 ho
          have eo : pu_old q.2.1 (rl L) n = none := by unfold pu_old; rw [e0]
          refine ⟨fun w => absurd w (by decide), fun _ => ⟨h.1, 0, 0, hc, hs, sp_fresh h hb hk hj hq.2.1 (fun h6 => ?_) (fun k hk6 hkn hl6 G1 m1 a1 a2 a3 => ?_)⟩⟩
          · rw [if_pos ⟨e0, by unfold rl; rw [List.length_map]; exact h6⟩] at ep
            rw [ep] at hp2
            unfold pq_Md_change_194
            exact ⟨fun w => absurd w (by decide), fun _ => hp2 L G rfl hk htg rf (fun z => by rcases z with z | z <;> cases z)⟩
          · rw [if_neg (fun z => by have := z.2; unfold rl at this; rw [List.length_map] at this; omega)] at ep
            have epr : pu_rs q.2.1 ((q.2.2.2 7).getD []) (rl L) n (q.2.2.1, (nt_of q.2.2.1 tg (pu_old q.2.1 (rl L) n)).1) = rl L ++ [(q.2.1, (q.2.2.2 7).getD [], bu_of (fun _ => none) n (q.2.2.1, (nt_of q.2.2.1 tg (pu_old q.2.1 (rl L) n)).1))] := by unfold pu_rs; rw [e0]
            rw [epr, eo] at ep
            rw [ep] at hp2
            rw [eo]
            have t1 : wo_gi G1 957 m = nI tg := by rw [m1.gi (fun i => by unfold Pres; omega)]; exact htg
            refine sp_ch194 (bt := fun _ => none) (pa := q.2.1) hc hs m1.k m1.b hk6 hn hj (vq_r hq m1 (fun f i z => by unfold Pres at z; omega)) a2 (fun l hl => a3 l hl) t1 ht9 (fun G' m' r' g' t' => ?_)
            refine hp2 (L ++ [(k, (q.2.1, (q.2.2.2 7).getD [], bu_of (fun _ => none) n (q.2.2.1, tg + 1)))]) G' (by unfold rl; rw [List.map_append]; rfl) ?_ t' ((m1.mn (fun f i z => by unfold Pres at z; unfold Pch; omega)).tr (m'.mn (fun f i z => by unfold Pset at z; unfold Pch; omega))) (fun _ => ⟨g', bu_pos r' hn⟩)
            refine mrs_add (P := fun f y => Pres k f y ∨ Pset k j f y) hk hk6 hkn ((m1.mn (fun f i z => Or.inl z)).tr (m'.mn (fun f i z => Or.inr z))) (fun f y z => by unfold Pres Pset at z; omega) r' ?_
            rw [m'.ei (f := 945) (k := 72) (n := 6) (by decide) (by unfold Pset; omega)]
            exact a1
        | some x =>
          obtain ⟨hx, ex⟩ := ho
          obtain ⟨i, e0, e1, e2⟩ := io_L hnd hx ex
          have e0 : io_of q.2.1 (rl L) = some i := e0
          have eg : (rl L).getD i ro_0 = x.2 := gt_L e2
          have eo : pu_old q.2.1 (rl L) n = ex_of x.2.2.1 x.2.2.2 n := by unfold pu_old rx_ex; rw [e0]; simp only []; rw [eg]
          have hx6 := (hk.2.1 x hx).1
          have hmr := (hk.2.1 x hx).2
          rw [if_neg (fun z => by rw [e0] at z; cases z.1)] at ep
          have epr : pu_rs q.2.1 ((q.2.2.2 7).getD []) (rl L) n (q.2.2.1, (nt_of q.2.2.1 tg (pu_old q.2.1 (rl L) n)).1) = (rl L).set i (q.2.1, (q.2.2.2 7).getD [], bu_of x.2.2.2 n (q.2.2.1, (nt_of q.2.2.1 tg (pu_old q.2.1 (rl L) n)).1)) := by unfold pu_rs; rw [e0]; simp only []; rw [eg, ex]
          rw [epr, eo, nt_nb, st_sb] at ep
          rw [ep] at hp2
          rw [eo, ex_rt]
          refine ⟨fun _ => ?_, fun w => absurd (nI_pos' (by omega)) w⟩
          have hpa := hmr.1
          rw [ex] at hpa
          refine sp_ch194 hc hs h hb hx6 hn hj hq hpa hmr.2.2 htg ht9 (fun G' m' r' g' t' => ?_)
          refine hp2 (L.set i (x.1, (q.2.1, (q.2.2.2 7).getD [], bu_of x.2.2.2 n (q.2.2.1, (nt_b q.2.2.1 tg (x.2.2.2 n)).1)))) G' (by unfold rl; rw [List.map_set]) ?_ t' (m'.mn (fun f i z => by unfold Pset at z; unfold Pch; omega)) (fun _ => ⟨g', bu_pos r' hn⟩)
          exact mrs_set hk e2 m' (fun f y z => by unfold Pset at z; omega) r'
    -- the letter
    have h122 : ∀ v, v < 256 → pl_at (q.2.2.2 6) = (if 97 ≤ v ∧ v < 100 then some (v - 97) else none) → ∀ c s, c ≤ mc → s ≤ ms → pq_Md_change_122 E mc ms Post G c s m (nI j) (rf_I o) (Int64.ofNat v) := by
      intro v hv epl c s hc hs
      have key : ∀ v, v < 256 → (lg_cmp (Int64.ofNat v) 97 < 0 ↔ v < 97) ∧ (lg_cmp (Int64.ofNat v) 99 ≤ 0 ↔ v ≤ 99) ∧ (97 ≤ v → (Int64.ofNat v).toInt32 - 97 = nI (v - 97)) := by decide +kernel
      obtain ⟨c1, c2, c3⟩ := key v hv
      unfold pq_Md_change_122
      refine ⟨fun w => h415 ?_ _ _, fun w => ⟨fun w2 => ?_, fun w2 => h415 ?_ _ _⟩⟩
      · rw [epl, if_neg (fun z => by have := c1.mp w; omega)]
      · have z1 : 97 ≤ v := Nat.le_of_not_lt (fun z => w (c1.mpr z))
        have z2 := c2.mp w2
        rw [if_pos ⟨z1, by omega⟩] at epl
        rw [c3 z1]
        cases o with
        | none =>
          have e0 : io_of q.2.1 (rl L) = none := io_0 ho
          have := h168 (v - 97) (by omega) epl c s hc hs
          have eo : pu_old q.2.1 (rl L) (v - 97) = none := by unfold pu_old; rw [e0]
          rw [eo] at this
          exact ⟨fun w => absurd w (by decide), fun _ => this⟩
        | some x =>
          have ho2 := ho
          obtain ⟨hx, ex⟩ := ho2
          obtain ⟨i, e0, e1, e2⟩ := io_L hnd hx ex
          have e0 : io_of q.2.1 (rl L) = some i := e0
          have eg : (rl L).getD i ro_0 = x.2 := gt_L e2
          have hx6 := (hk.2.1 x hx).1
          have hmr := (hk.2.1 x hx).2
          obtain ⟨i1, i2, i3⟩ := ix3 (l := v - 97) hx6 (by omega)
          refine ⟨fun _ => ⟨h.1, ?_⟩, fun w => absurd (nI_pos' (by omega)) w⟩
          have h168 := h168 (v - 97) (by omega) epl c s hc hs
          have eo : pu_old q.2.1 (rl L) (v - 97) = ex_of x.2.2.1 x.2.2.2 (v - 97) := by unfold pu_old rx_ex; rw [e0]; simp only []; rw [eg]
          rw [eo, ex_rt] at h168
          show ∀ r2 : Option Nat, _
          rw [show rf_I (some x) = nI x.1 from rfl, i1]
          refine h.rd (f := 952) (k := 66) (n := 18) (by decide) i3 ?_
          have hbt := hmr.2.2 (v - 97) (by omega)
          have et : wo_ei G (A 952) (3 * x.1 + (v - 97)) = tg_I ((x.2.2.2 (v - 97)).map (fun x => x.2)) := by
            cases eb : x.2.2.2 (v - 97) with
            | none => rw [eb] at hbt; exact hbt
            | some y => rw [eb] at hbt; exact hbt.2.1
          rw [i2, et]
          exact h168
      · rw [epl, if_neg (fun z => w2 (c2.mpr (by omega)))]
    refine ⟨0, 0, Nat.zero_le _, Nat.zero_le _, sp_has (h := 6) h hq hj (by decide) ?_⟩
    unfold pq_Md_change_95
    rw [show (6 : Int32) = nI 6 from rfl, y1]
    have vo := hq.2.2.2 6 (by decide)
    cases e : q.2.2.2 6 with
    | none =>
      refine ⟨fun _ => ⟨h.1, 0, 0, Nat.zero_le _, Nat.zero_le _, sp_has (h := 6) h hq hj (by decide) ?_⟩, fun w => absurd rfl w⟩
      rw [e]
      exact ⟨fun _ => h122 97 (by decide) (by rw [e]; rfl) _ _ (Nat.zero_le _) (Nat.zero_le _), fun w => absurd rfl w⟩
    | some t =>
      rw [e] at vo
      obtain ⟨w1, w2, w3, w4⟩ := vo
      refine ⟨fun w => absurd w bo_s, fun _ => ⟨h.1, h.rd (f := 910) (k := 73) (n := 72) (by decide) y3 ⟨h.1, 0, 0, Nat.zero_le _, Nat.zero_le _, sp_has (h := 6) h hq hj (by decide) ?_⟩⟩⟩
      rw [e, y2, w2]
      refine ⟨fun w => absurd w bo_s, fun _ => ⟨h.1, h.rd (f := 911) (k := 66) (n := 72) (by decide) y3 ?_⟩⟩
      rw [w1]
      refine ⟨fun w => h415 ?_ _ _, fun w => ?_⟩
      · rw [e]
        exact if_neg (fun z => w (by rw [z.1]; rfl))
      · have tl : t.length = 1 := (nI_eq (b := 1) (by omega) (by decide)).mp w
        obtain ⟨b, eb⟩ : ∃ b, t = [b] := by
          match t, tl with
          | [b], _ => exact ⟨b, rfl⟩
        subst eb
        have := h122 b (w4 b (by simp)) (by rw [e]; unfold pl_at; simp) 0 0 (Nat.zero_le _) (Nat.zero_le _)
        exact this
  · -- delete
    have m3 : q.1 = some 3 := by
      have : kk = 3 := (nI_eq (b := 3) (by omega) (by decide)).mp w
      rw [k1, this]
    have hp3 := hp3 m3
    clear hp2
    unfold pq_Md_change_42 pq_Md_change_55
    cases o with
    | none =>
      have e0 : io_of q.2.1 (rl L) = none := io_0 ho
      have ed : dl_of q.2.1 q.2.2.2 (rl L) = (404, rl L) := by unfold dl_of; rw [e0]
      rw [ed] at hp3
      exact ⟨fun _ => ⟨fun w => absurd w (by decide), fun _ => hp3 L G rfl hk htg rf⟩, fun w => absurd (by decide) w⟩
    | some x =>
      obtain ⟨hx, ex⟩ := ho
      obtain ⟨i, e0, e1, e2⟩ := io_L hnd hx ex
      have e0 : io_of q.2.1 (rl L) = some i := e0
      have eg : (rl L).getD i ro_0 = x.2 := gt_L e2
      have hx6 := (hk.2.1 x hx).1
      have hmr := (hk.2.1 x hx).2
      have vk : vp_in (nI x.1) 6 := vp_in_nI hx6 (by decide)
      have ck : (nI x.1).toNatClampNeg = x.1 := nI_clamp (by omega)
      have li3 : li_of x.2.2.2 < 3 := by unfold li_of; split; decide; split <;> decide
      obtain ⟨i1, i2, i3⟩ := ix3 hx6 li3
      have ed : dl_of q.2.1 q.2.2.2 (rl L) = if fb_of q.2.2.2 ((x.2.2.2 (li_of x.2.2.2)).map (fun x => x.2)) = true then (412, rl L) else (204, (rl L).eraseIdx i) := by
        unfold dl_of rx_ex
        rw [e0]
        simp only []
        rw [eg, le_li, ex_rt]
      have hbt := hmr.2.2 (li_of x.2.2.2) li3
      have et : wo_ei G (A 952) (3 * x.1 + (li_of x.2.2.2)) = tg_I ((x.2.2.2 (li_of x.2.2.2)).map (fun x => x.2)) := by
        cases eb : x.2.2.2 (li_of x.2.2.2) with
        | none => rw [eb] at hbt; exact hbt
        | some y => rw [eb] at hbt; exact hbt.2.1
      have hto : ∀ g, (x.2.2.2 (li_of x.2.2.2)).map (fun x => x.2) = some g → 0 < g ∧ g < 2 ^ 31 := by
        intro g eg
        cases eb : x.2.2.2 (li_of x.2.2.2) with
        | none => rw [eb] at eg; cases eg
        | some v =>
          rw [eb] at eg hbt
          have : v.2 = g := by simpa using eg
          have := hbt.2.2
          omega
      refine ⟨fun w => absurd w (nI_pos (by omega)), fun _ r22 hr22 => ⟨0, 0, Nat.zero_le _, Nat.zero_le _, sp_mleast h hx6 hmr ?_⟩⟩
      show ∃ a28 : Nat, _
      rw [show rf_I (some x) = nI x.1 from rfl, i1]
      refine h.rd (f := 952) (k := 66) (n := 18) (by decide) i3 ⟨h.1, 0, 0, Nat.zero_le _, Nat.zero_le _, ?_⟩ r22 hr22
      rw [i2, et]
      refine sp_holds h hq hj hto ?_
      cases hfb : fb_of q.2.2.2 ((x.2.2.2 (li_of x.2.2.2)).map (fun x => x.2)) with
      | true =>
        rw [hfb, if_pos rfl] at ed
        rw [ed] at hp3
        exact ⟨fun w => absurd rfl w, fun _ => ⟨fun _ => hp3 L G rfl hk htg rf, fun w => absurd (nI_pos' (by omega)) w⟩⟩
      | false =>
        rw [hfb, if_neg (by simp)] at ed
        rw [ed] at hp3
        refine ⟨fun _ => ⟨h.1, h.wr (f := 945) (k := 72) (n := 6) (by decide) vk (fun G1 e1 => ?_)⟩, fun w => absurd w (by decide)⟩
        rw [ck] at e1
        have m1 : mf E ow m A (fun f i => f = 945 ∧ i = x.1) G G1 := by rw [e1]; exact mf_sei h hb (f := 945) (k := 72) (n := 6) (by decide) ⟨rfl, rfl⟩
        have v1 : wo_ei G1 (A 945) x.1 = 0 := by rw [e1, sei_at, if_pos rfl]; decide
        have her := nd_ers hk.1 e2
        refine hp3 (L.eraseIdx i) G1 (mp_er _ L i) ⟨?_, fun y hy => ?_, fun k hk6 => ?_⟩ ?_ (m1.mn (fun f i z => by unfold Pch; omega))
        · rw [mp_er]
          exact hk.1.sublist (List.eraseIdx_sublist _ _)
        · have hy2 := ((her y).mp hy).1
          exact ⟨(hk.2.1 y hy2).1, (hk.2.1 y hy2).2.mf m1 (fun f hf z => by simp only [List.mem_cons, List.mem_nil_iff, or_false] at hf; omega) (fun l _ f hf z => by simp only [List.mem_cons, List.mem_nil_iff, or_false] at hf; omega)⟩
        · by_cases z : k = x.1
          · rw [z, v1, decide_eq_false]
            · rfl
            · intro hm
              obtain ⟨y, hy, ey⟩ := List.mem_map.mp hm
              exact ((her y).mp hy).2 ey
          · rw [m1.ei (f := 945) (k := 72) (n := 6) (by decide) (fun w => z w.2), hk.2.2 k hk6]
            congr 1
            apply Bool.eq_iff_iff.mpr
            rw [decide_eq_true_iff, decide_eq_true_iff]
            constructor
            · intro hm
              obtain ⟨y, hy, ey⟩ := List.mem_map.mp hm
              exact List.mem_map.mpr ⟨y, (her y).mpr ⟨hy, fun w => z (ey.symm.trans w)⟩, ey⟩
            · intro hm
              obtain ⟨y, hy, ey⟩ := List.mem_map.mp hm
              exact List.mem_map.mpr ⟨y, ((her y).mp hy).1, ey⟩
        · rw [m1.gi (fun i => by omega)]; exact htg
end MD
