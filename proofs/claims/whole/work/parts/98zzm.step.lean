def mo (m : Nat) (A : Nat → Nat) (G : wo_W) (rv : Nat → Nat → rqT) (rs : List roT) (tg : Nat) (ss : List sdT) (wt : List jobT) (sn : Nat → Option jobT) (cap now k : Nat) : Prop :=
  (∃ L : rlT, rl L = rs ∧ mrs A G L) ∧ wo_gi G 957 m = nI tg ∧ (∃ (K : slT) (n : Nat), K.map (fun x => x.2.2) = ss ∧ mss m A G K n ∧ n ≤ k) ∧ (∃ (W : jlT) (us : jsT) (o : Nat), wq (W, us) = (wt, sn) ∧ mjs m A G rv W us o ∧ o ≤ k) ∧ wo_gi G 956 m = nI now ∧ wo_gi G 955 m = nI cap
def rvf (cn : Nat → cnT) : Nat → Nat → rqT := fun e t => c_rv (cn e) t
def mr (E : wo_E) (ow : Nat → Nat) (m : Nat) (A : Nat → Nat) (G : wo_W) (S : hdT) (cap now k : Nat) : Prop := md_k E ow m A G ∧ (∀ c, c < 3 → mcn A G c (S.1 c)) ∧ mo m A G (rvf S.1) S.2.1 S.2.2.1 S.2.2.2.1 S.2.2.2.2.1 S.2.2.2.2.2 cap now k
def PT : Nat → Nat → Prop := fun _ _ => True
section MD
variable {E : wo_E} {mc ms m c s b k cap now tg : Nat} {G0 G G1 G2 : wo_W} {ow : Nat → Nat} {A : Nat → Nat} {P Q : Nat → Nat → Prop} {raw raw' out : List Nat} {sh sh' : Bool} {nh na : Nat} {an an' : Nat → Option (List Nat)} {rv rv' : Nat → Nat → rqT} {rs : List roT} {ss : List sdT} {wt : List jobT} {sn : Nat → Option jobT} {cn : Nat → cnT} {v w : cnT} {S : hdT}
theorem mk_r (hk : mk A G c raw sh nh na out an) (h : mf E ow m A P G G1) (hP : ∀ f i, P f i → f = 896 ∨ f = 897) (h1 : wo_ei G1 (A 897) c = nI raw'.length ∧ raw'.length < 4200 ∧ ∀ i, i < raw'.length → wo_ei G1 (A 896) (4200 * c + i) = nI (raw'.getD i 0)) : mk A G1 c raw' sh nh na out an := by
  have nP : ∀ f i, f ≠ 896 → f ≠ 897 → ¬ P f i := fun f i q1 q2 z => (hP f i z).elim q1 q2
  obtain ⟨⟨a1, a2, a3⟩, a4, ⟨a5, a6, a7⟩, ⟨a8, a9, a10, a11, a12⟩, a13⟩ := hk
  refine ⟨h1, ?_, ⟨?_, a6, fun i hi => ?_⟩, ⟨?_, ?_, a10, a11, a12⟩, fun t h1 h2 => (a13 t h1 h2).mf h (nP _ _ (by decide) (by decide)) (fun i hi => nP _ _ (by decide) (by decide))⟩
  · rw [h.ei (k := 72) (n := 3) (by decide) (nP _ _ (by decide) (by decide))]; exact a4
  · rw [h.ei (k := 66) (n := 3) (by decide) (nP _ _ (by decide) (by decide))]; exact a5
  · rw [h.ei (k := 66) (n := 1920) (by decide) (nP _ _ (by decide) (by decide))]; exact a7 i hi
  · rw [h.ei (k := 66) (n := 3) (by decide) (nP _ _ (by decide) (by decide))]; exact a8
  · rw [h.ei (k := 66) (n := 3) (by decide) (nP _ _ (by decide) (by decide))]; exact a9
theorem mk_s (hk : mk A G c raw sh nh na out an) (h : mf E ow m A P G G1) (hP : ∀ f i, P f i → f = 898) (h1 : wo_ei G1 (A 898) c = bo_I sh') : mk A G1 c raw sh' nh na out an := by
  have nP : ∀ f i, f ≠ 898 → ¬ P f i := fun f i q1 z => q1 (hP f i z)
  obtain ⟨⟨a1, a2, a3⟩, a4, ⟨a5, a6, a7⟩, ⟨a8, a9, a10, a11, a12⟩, a13⟩ := hk
  refine ⟨⟨?_, a2, fun i hi => ?_⟩, h1, ⟨?_, a6, fun i hi => ?_⟩, ⟨?_, ?_, a10, a11, a12⟩, fun t h1 h2 => (a13 t h1 h2).mf h (nP _ _ (by decide)) (fun i hi => nP _ _ (by decide))⟩
  · rw [h.ei (k := 66) (n := 3) (by decide) (nP _ _ (by decide))]; exact a1
  · rw [h.ei (k := 66) (n := 12600) (by decide) (nP _ _ (by decide))]; exact a3 i hi
  · rw [h.ei (k := 66) (n := 3) (by decide) (nP _ _ (by decide))]; exact a5
  · rw [h.ei (k := 66) (n := 1920) (by decide) (nP _ _ (by decide))]; exact a7 i hi
  · rw [h.ei (k := 66) (n := 3) (by decide) (nP _ _ (by decide))]; exact a8
  · rw [h.ei (k := 66) (n := 3) (by decide) (nP _ _ (by decide))]; exact a9
theorem mk_new (hk : mk A G c raw sh nh na out an) (h : mf E ow m A P G G1) (hP : ∀ f i, P f i → f = 902 ∧ i = 4 * c + nh % 4 ∨ f = 904 ∧ i = c) (h3 : nh - na < 4) (h20 : nh < 20) (h1 : wo_ei G1 (A 902) (4 * c + nh % 4) = -1) (h2 : wo_ei G1 (A 904) c = nI (nh - na + 1)) : mk A G1 c raw sh (nh + 1) na out (fun t => if t = nh then none else an t) := by
  have nP : ∀ f i, f ≠ 902 → f ≠ 904 → ¬ P f i := fun f i q1 q2 z => (hP f i z).elim (fun z => q1 z.1) (fun z => q2 z.1)
  obtain ⟨⟨a1, a2, a3⟩, a4, ⟨a5, a6, a7⟩, ⟨a8, a9, a10, a11, a12⟩, a13⟩ := hk
  refine ⟨⟨?_, a2, fun i hi => ?_⟩, ?_, ⟨?_, a6, fun i hi => ?_⟩, ⟨?_, ?_, by omega, by omega, by omega⟩, fun t q1 q2 => ?_⟩
  · rw [h.ei (k := 66) (n := 3) (by decide) (nP _ _ (by decide) (by decide))]; exact a1
  · rw [h.ei (k := 66) (n := 12600) (by decide) (nP _ _ (by decide) (by decide))]; exact a3 i hi
  · rw [h.ei (k := 72) (n := 3) (by decide) (nP _ _ (by decide) (by decide))]; exact a4
  · rw [h.ei (k := 66) (n := 3) (by decide) (nP _ _ (by decide) (by decide))]; exact a5
  · rw [h.ei (k := 66) (n := 1920) (by decide) (nP _ _ (by decide) (by decide))]; exact a7 i hi
  · rw [h.ei (k := 66) (n := 3) (by decide) (nP _ _ (by decide) (by decide))]; exact a8
  · rw [h2]; congr 1; omega
  · by_cases z : t = nh
    · show po_at A G1 (4 * c + t % 4) (if t = nh then none else an t)
      rw [if_pos z, z]
      exact h1
    · show po_at A G1 (4 * c + t % 4) (if t = nh then none else an t)
      rw [if_neg z]
      refine (a13 t q1 (by omega)).mf h (fun z2 => ?_) (fun i hi => nP _ _ (by decide) (by decide))
      rcases hP _ _ z2 with q | q
      · omega
      · omega
theorem mo_mf (h : mo m A G rv rs tg ss wt sn cap now k) (hm : mf E ow m A P G G1) (hP : ∀ f i, P f i → ¬ PR f ∧ ¬ PS f i ∧ ¬ PJ f i ∧ f ≠ 955 ∧ f ≠ 956 ∧ f ≠ 957) : mo m A G1 rv rs tg ss wt sn cap now k := by
  obtain ⟨⟨L, l1, l2⟩, h2, ⟨K, n, k1, k2, k3⟩, ⟨W, us, o, w1, w2, w3⟩, h5, h6⟩ := h
  refine ⟨⟨L, l1, l2.mf hm (fun f i z y => (hP f i y).1 z)⟩, ?_, ⟨K, n, k1, k2.mf hm (fun f i z y => (hP f i y).2.1 z), k3⟩, ⟨W, us, o, w1, mjs_f w2 hm (fun f i z y => (hP f i y).2.2.1 z), w3⟩, ?_, ?_⟩
  · rw [hm.gi (fun i z => (hP _ _ z).2.2.2.2.2 rfl)]; exact h2
  · rw [hm.gi (fun i z => (hP _ _ z).2.2.2.2.1 rfl)]; exact h5
  · rw [hm.gi (fun i z => (hP _ _ z).2.2.2.1 rfl)]; exact h6
theorem wq_aj {W : jlT} {us : jsT} {Pj : jobT → Prop} (e : wq (W, us) = (wt, sn)) (h : aj wt sn Pj) : (∀ x ∈ W, Pj x.2.2) ∧ ∀ u x, u < 2 → us u = some x → Pj x.2 := by
  have e1 : W.map (fun x => x.2.2) = wt := congrArg Prod.fst e
  have e2 : (fun u => (us u).map (fun x => x.2)) = sn := congrArg Prod.snd e
  refine ⟨fun x hx => h.1 _ (by rw [← e1]; exact List.mem_map.mpr ⟨x, hx, rfl⟩), fun u x hu ex => h.2 u x.2 hu ?_⟩
  rw [← e2]
  show (us u).map (fun x => x.2) = some x.2
  rw [ex]; rfl
theorem wq_u {W : jlT} {us : jsT} (e : wq (W, us) = (wt, sn)) (u : Nat) : sn u = (us u).map (fun x => x.2) := by
  have e2 : (fun u => (us u).map (fun x => x.2)) = sn := congrArg Prod.snd e
  rw [← e2]
theorem mo_rv (h : mo m A G rv rs tg ss wt sn cap now k) (hj : aj wt sn (fun j => rv' j.1 j.2.1 = rv j.1 j.2.1)) : mo m A G rv' rs tg ss wt sn cap now k := by
  obtain ⟨h1, h2, h3, ⟨W, us, o, w1, w2, w3⟩, h5, h6⟩ := h
  obtain ⟨q1, q2⟩ := wq_aj w1 hj
  exact ⟨h1, h2, h3, ⟨W, us, o, w1, mjs_rv w2 q1 q2, w3⟩, h5, h6⟩
theorem mo_up {U : Nat} (h : mo m A G rv rs tg ss wt sn cap now k) (hu : k ≤ U) : mo m A G rv rs tg ss wt sn cap now U := by
  obtain ⟨h1, h2, ⟨K, n, k1, k2, k3⟩, ⟨W, us, o, w1, w2, w3⟩, h5, h6⟩ := h
  exact ⟨h1, h2, ⟨K, n, k1, k2, Nat.le_trans k3 hu⟩, ⟨W, us, o, w1, w2, Nat.le_trans w3 hu⟩, h5, h6⟩
theorem rv_cup (h : ∀ s, c_rv w s = c_rv (cn c) s) : rvf (cup cn c w) = rvf cn := by
  funext e t
  unfold rvf
  by_cases z : e = c
  · subst z; rw [cup_c]; exact h t
  · rw [cup_n z]
theorem mcn_oth (hcn : ∀ c, c < 3 → mcn A G c (cn c)) (hm : mf E ow m A P G G1) (hP : ∀ e, e < 3 → e ≠ c → ∀ f i, PC e f i → ¬ P f i) (hw : mcn A G1 c w) : ∀ e, e < 3 → mcn A G1 e (cup cn c w e) := by
  intro e he
  by_cases z : e = c
  · subst z; rw [cup_c]; exact hw
  · rw [cup_n z]; exact mk.mf (hcn e he) hm (hP e he z)
theorem mr_xt (hm : mf E ow m A P G G1) : xt E R9 ow G ow G1 := hm.1.1
theorem PC_pr {e f i : Nat} (h : PC e f i) : ¬ Ppr f i := by
  unfold PC at h
  unfold Ppr
  omega
theorem PC_ne {e f i : Nat} (hec : e ≠ c) (h : PC e f i) : ¬ PC c f i := by
  unfold PC at h ⊢
  omega
theorem mo_PC {f i : Nat} (h : PC c f i) : ¬ PR f ∧ ¬ PS f i ∧ ¬ PJ f i ∧ f ≠ 955 ∧ f ≠ 956 ∧ f ≠ 957 := by
  unfold PC at h
  unfold PR PS PJ
  omega
theorem mo_pr {f i : Nat} (h : Ppr f i) : ¬ PR f ∧ ¬ PS f i ∧ ¬ PJ f i ∧ f ≠ 955 ∧ f ≠ 956 ∧ f ≠ 957 := by
  unfold Ppr at h
  unfold PR PS PJ
  omega
end MD
