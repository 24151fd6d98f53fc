def pt_ok (v : Int64) (l : Int32) (t : List Nat) : Prop := v = pk_of t ∧ l = nI t.length ∧ t.length ≤ 8 ∧ ∀ c ∈ t, c < 256
def bt_at (A : Nat → Nat) (G : wo_W) (k l : Nat) (o : Option (List Nat × Nat)) : Prop := match o with
  | none => wo_ei G (A 952) (3 * k + l) = 0
  | some q => pt_ok (wo_el G (A 950) (3 * k + l)) (wo_ei G (A 951) (3 * k + l)) q.1 ∧ wo_ei G (A 952) (3 * k + l) = nI q.2 ∧ 0 < q.2 ∧ q.2 < 10 ^ 9
def mro (A : Nat → Nat) (G : wo_W) (k : Nat) (r : roT) : Prop := pt_ok (wo_el G (A 946) k) (wo_ei G (A 947) k) r.1 ∧ pt_ok (wo_el G (A 948) k) (wo_ei G (A 949) k) r.2.1 ∧ ∀ l, l < 3 → bt_at A G k l (r.2.2 l)
abbrev rlT : Type := List (Nat × roT)
def mrs (A : Nat → Nat) (G : wo_W) (L : rlT) : Prop := (L.map (fun x => x.1)).Nodup ∧ (∀ x ∈ L, x.1 < 6 ∧ mro A G x.1 x.2) ∧ ∀ k, k < 6 → wo_ei G (A 945) k = bo_I (decide (k ∈ L.map (fun x => x.1)))
def msd (A : Nat → Nat) (G : wo_W) (s : Nat) (d : sdT) : Prop := rr_at A G s d.1 ∧ pt_ok (wo_el G (A 937) s) (wo_ei G (A 938) s) d.2.1 ∧ vo_at (wo_ei G (A 940) s) (wo_el G (A 939) s) d.2.2.1 ∧ wo_ei G (A 941) s = nI d.2.2.2.1 ∧ wo_ei G (A 942) s = nI d.2.2.2.2
abbrev slT : Type := List (Nat × Nat × sdT)
def mss (m : Nat) (A : Nat → Nat) (G : wo_W) (L : slT) (n : Nat) : Prop := (L.map (fun x => x.1)).Nodup ∧ (∀ x ∈ L, x.1 < 20 ∧ msd A G x.1 x.2.2 ∧ wo_ei G (A 943) x.1 = nI x.2.1 ∧ x.2.1 ≤ n) ∧ (∀ k, k < 20 → wo_ei G (A 936) k = bo_I (decide (k ∈ L.map (fun x => x.1)))) ∧ L.Pairwise (fun x y => x.2.1 < y.2.1) ∧ wo_gi G 944 m = nI n ∧ n < 10 ^ 6
def PR : Nat → Prop := fun f => 945 ≤ f ∧ f ≤ 952
def PS : Nat → Nat → Prop := fun f i => 936 ≤ f ∧ f ≤ 944 ∨ 929 ≤ f ∧ f ≤ 935 ∧ i < 20
theorem ci_sw3 {i : Int32} {X Y : Prop} (hX : ci_of i 3 = none → X) (hY : ∀ c, ci_of i 3 = some c → Y) : (i < 0 → X) ∧ (¬ i < 0 → ((i ≤ 2 → Y) ∧ (¬ i ≤ 2 → X))) := by
  have key : ∀ i : Int32, ¬ i ≤ 2 ↔ 3 ≤ i := by
    intro i
    rw [Int32.le_iff_toInt_le, Int32.le_iff_toInt_le]
    have e3 : (3 : Int32).toInt = 3 := by decide
    have e2 : (2 : Int32).toInt = 2 := by decide
    omega
  refine ⟨fun w => hX ((ci_none (by decide)).mpr (Or.inl w)), fun w => ⟨fun w2 => ?_, fun w2 => hX ((ci_none (by decide)).mpr (Or.inr ((key i).mp w2)))⟩⟩
  cases e : ci_of i 3 with
  | none =>
    rcases (ci_none (by decide)).mp e with z | z
    · exact absurd z w
    · exact absurd w2 ((key i).mpr z)
  | some c => exact hY c e
theorem ci_sw2 {i : Int32} {X Y : Prop} (hX : ci_of i 2 = none → X) (hY : ∀ c, ci_of i 2 = some c → Y) : (i < 0 → X) ∧ (¬ i < 0 → ((i ≤ 1 → Y) ∧ (¬ i ≤ 1 → X))) := by
  have key : ∀ i : Int32, ¬ i ≤ 1 ↔ 2 ≤ i := by
    intro i
    rw [Int32.le_iff_toInt_le, Int32.le_iff_toInt_le]
    have e3 : (1 : Int32).toInt = 1 := by decide
    have e2 : (2 : Int32).toInt = 2 := by decide
    omega
  refine ⟨fun w => hX ((ci_none (by decide)).mpr (Or.inl w)), fun w => ⟨fun w2 => ?_, fun w2 => hX ((ci_none (by decide)).mpr (Or.inr ((key i).mp w2)))⟩⟩
  cases e : ci_of i 2 with
  | none =>
    rcases (ci_none (by decide)).mp e with z | z
    · exact absurd z w
    · exact absurd w2 ((key i).mpr z)
  | some c => exact hY c e
theorem pt_eq {v v' : Int64} {l l' : Int32} {t u : List Nat} (h1 : pt_ok v l t) (h2 : pt_ok v' l' u) : t = u ↔ v = v' ∧ l = l' := by
  obtain ⟨a1, a2, a3, a4⟩ := h1
  obtain ⟨b1, b2, b3, b4⟩ := h2
  rw [a1, a2, b1, b2]
  refine ⟨fun e => by rw [e]; exact ⟨rfl, rfl⟩, fun e => ?_⟩
  exact pk_inj a4 b4 a3 ((nI_eq (by omega) (by omega)).mp e.2) e.1
theorem vo_eq {v v' : Int64} {l l' : Int32} {t u : Option (List Nat)} (h1 : vo_at l v t) (h2 : vo_at l' v' u) : t = u ↔ l = l' ∧ v = v' := by
  cases t with
  | none =>
    cases u with
    | none => rw [h1.1, h1.2, h2.1, h2.2]; simp
    | some u =>
      obtain ⟨b1, b2, b3, b4⟩ := h2
      rw [h1.1, h1.2, b1, b2]
      refine ⟨fun e => (by cases e), fun e => ?_⟩
      exact absurd e.1.symm (nI_nm1 (by omega))
  | some t =>
    obtain ⟨a1, a2, a3, a4⟩ := h1
    cases u with
    | none =>
      rw [h2.1, h2.2, a1, a2]
      refine ⟨fun e => (by cases e), fun e => ?_⟩
      exact absurd e.1 (nI_nm1 (by omega))
    | some u =>
      obtain ⟨b1, b2, b3, b4⟩ := h2
      rw [a1, a2, b1, b2]
      refine ⟨fun e => by cases e; exact ⟨rfl, rfl⟩, fun e => ?_⟩
      rw [pk_inj a4 b4 a3 ((nI_eq (by omega) (by omega)).mp e.1) e.2]
theorem su_perm {l k : List Nat} (h : l.Perm k) : l.sum = k.sum := by
  induction h with
  | nil => rfl
  | cons x _ ih => simp [ih]
  | swap x y l => simp; omega
  | trans _ _ h1 h2 => exact h1.trans h2
theorem sm_sum : ∀ ss : List sdT, sm_of ss = (ss.map (fun d => d.2.2.2.2)).sum := by
  intro ss
  induction ss with
  | nil => rfl
  | cons d l ih => show d.2.2.2.2 + sm_of l = _; rw [ih]; simp
section MD
variable {E : wo_E} {mc ms m c s : Nat} {G0 G G1 G2 : wo_W} {ow : Nat → Nat} {A : Nat → Nat} {F K : Nat → Prop} {u : List Nat} {P Q : Nat → Nat → Prop}
theorem bt_at.mf {k l : Nat} {o : Option (List Nat × Nat)} (hb : bt_at A G k l o) (h : mf E ow m A P G G1) (hf : ∀ f ∈ [950, 951, 952], ¬ P f (3 * k + l)) : bt_at A G1 k l o := by
  have e1 := h.el (f := 950) (k := 73) (n := 18) (by decide) (hf 950 (by decide))
  have e2 := h.ei (f := 951) (k := 66) (n := 18) (by decide) (hf 951 (by decide))
  have e3 := h.ei (f := 952) (k := 66) (n := 18) (by decide) (hf 952 (by decide))
  cases o with
  | none => show wo_ei G1 (A 952) _ = 0; rw [e3]; exact hb
  | some q =>
    obtain ⟨b1, b2, b3⟩ := hb
    exact ⟨by rw [e1, e2]; exact b1, by rw [e3]; exact b2, b3⟩
theorem mro.mf {k : Nat} {r : roT} (hb : mro A G k r) (h : mf E ow m A P G G1) (hf : ∀ f ∈ [946, 947, 948, 949], ¬ P f k) (hf2 : ∀ l, l < 3 → ∀ f ∈ [950, 951, 952], ¬ P f (3 * k + l)) : mro A G1 k r := by
  obtain ⟨b1, b2, b3⟩ := hb
  refine ⟨?_, ?_, fun l hl => (b3 l hl).mf h (hf2 l hl)⟩
  · rw [h.el (f := 946) (k := 73) (n := 6) (by decide) (hf 946 (by decide)), h.ei (f := 947) (k := 66) (n := 6) (by decide) (hf 947 (by decide))]; exact b1
  · rw [h.el (f := 948) (k := 73) (n := 6) (by decide) (hf 948 (by decide)), h.ei (f := 949) (k := 66) (n := 6) (by decide) (hf 949 (by decide))]; exact b2
theorem mrs.mf {L : rlT} (hb : mrs A G L) (h : mf E ow m A P G G1) (hf : ∀ f i, PR f → ¬ P f i) : mrs A G1 L := by
  obtain ⟨b1, b2, b3⟩ := hb
  have nR : ∀ f, f ∈ [945, 946, 947, 948, 949, 950, 951, 952] → PR f := by
    intro f hf
    unfold PR
    simp only [List.mem_cons, List.mem_nil_iff, or_false] at hf
    omega
  refine ⟨b1, fun x hx => ⟨(b2 x hx).1, (b2 x hx).2.mf h (fun f hx => hf f _ (nR f ?_)) (fun l _ f hx => hf f _ (nR f ?_))⟩, fun k hk => ?_⟩
  · revert hx; simp only [List.mem_cons, List.mem_nil_iff, or_false]; omega
  · revert hx; simp only [List.mem_cons, List.mem_nil_iff, or_false]; omega
  · rw [h.ei (f := 945) (k := 72) (n := 6) (by decide) (hf 945 k (by unfold PR; omega))]; exact b3 k hk
theorem msd.mf {s : Nat} {d : sdT} (hb : msd A G s d) (h : mf E ow m A P G G1) (hf : ∀ f ∈ [929, 930, 931, 932, 933, 934, 935], ¬ P f s) (hf2 : ∀ f ∈ [937, 938, 939, 940, 941, 942], ¬ P f s) : msd A G1 s d := by
  obtain ⟨b1, b2, b3, b4, b5⟩ := hb
  refine ⟨b1.mf h hf, ?_, ?_, ?_, ?_⟩
  · rw [h.el (f := 937) (k := 73) (n := 20) (by decide) (hf2 937 (by decide)), h.ei (f := 938) (k := 66) (n := 20) (by decide) (hf2 938 (by decide))]; exact b2
  · rw [h.el (f := 939) (k := 73) (n := 20) (by decide) (hf2 939 (by decide)), h.ei (f := 940) (k := 66) (n := 20) (by decide) (hf2 940 (by decide))]; exact b3
  · rw [h.ei (f := 941) (k := 66) (n := 20) (by decide) (hf2 941 (by decide))]; exact b4
  · rw [h.ei (f := 942) (k := 66) (n := 20) (by decide) (hf2 942 (by decide))]; exact b5
theorem mss.mf {L : slT} {n : Nat} (hb : mss m A G L n) (h : mf E ow m A P G G1) (hf : ∀ f i, PS f i → ¬ P f i) : mss m A G1 L n := by
  obtain ⟨b1, b2, b3, b4, b5, b6⟩ := hb
  refine ⟨b1, fun x hx => ⟨(b2 x hx).1, (b2 x hx).2.1.mf h (fun f hx2 => hf f _ ?_) (fun f hx2 => hf f _ ?_), ?_, (b2 x hx).2.2.2⟩, fun k hk => ?_, b4, ?_, b6⟩
  · have := (b2 x hx).1
    revert hx2; simp only [List.mem_cons, List.mem_nil_iff, or_false]; unfold PS; omega
  · revert hx2; simp only [List.mem_cons, List.mem_nil_iff, or_false]; unfold PS; omega
  · rw [h.ei (f := 943) (k := 66) (n := 20) (by decide) (hf 943 _ (by unfold PS; omega))]; exact (b2 x hx).2.2.1
  · rw [h.ei (f := 936) (k := 72) (n := 20) (by decide) (hf 936 _ (by unfold PS; omega))]; exact b3 k hk
  · rw [h.gi (fun i => hf 944 i (by unfold PS; omega))]; exact b5
theorem sp_mpending {Post : Int32 → wo_W → Prop} {i : Int32} {cn : Nat → cnT} (h : md_k E ow m A G) (hk : ∀ c, c < 3 → mcn A G c (cn c)) (hn : ci_of i 3 = none → Post (-1) G) (hp : ∀ c, ci_of i 3 = some c → Post (nI (c_out (cn c)).length) G) : pq_Md_pending E mc ms Post G m i := by
  unfold pq_Md_pending pq_Md_pending_0 pq_Md_pending_9 pq_Md_pending_19
  refine ci_sw3 hn (fun c e => ?_)
  obtain ⟨e1, hc3⟩ := ci_some e
  have hp2 := hp c e
  subst e1
  refine ⟨h.1, h.rd (f := 900) (k := 66) (n := 3) (by decide) (vp_in_nI hc3 (by decide)) ?_⟩
  rw [nI_clamp (by omega), (hk c hc3).2.2.1.1]
  exact hp2
theorem sp_mwaiting {Post : Int32 → wo_W → Prop} {i : Int32} {cn : Nat → cnT} (h : md_k E ow m A G) (hk : ∀ c, c < 3 → mcn A G c (cn c)) (hn : ci_of i 3 = none → Post (-1) G) (hp : ∀ c, ci_of i 3 = some c → Post (nI (c_nh (cn c) - c_na (cn c))) G) : pq_Md_waiting E mc ms Post G m i := by
  unfold pq_Md_waiting pq_Md_waiting_0 pq_Md_waiting_9 pq_Md_waiting_19
  refine ci_sw3 hn (fun c e => ?_)
  obtain ⟨e1, hc3⟩ := ci_some e
  have hp2 := hp c e
  subst e1
  refine ⟨h.1, h.rd (f := 904) (k := 66) (n := 3) (by decide) (vp_in_nI hc3 (by decide)) ?_⟩
  rw [nI_clamp (by omega), (hk c hc3).2.2.2.1.2.1]
  exact hp2
theorem sp_mopen {Post : Int32 → wo_W → Prop} {i : Int32} {cn : Nat → cnT} (h : md_k E ow m A G) (hk : ∀ c, c < 3 → mcn A G c (cn c)) (hn : ci_of i 3 = none → Post 0 G) (hp : ∀ c, ci_of i 3 = some c → Post (bo_I (!c_sh (cn c))) G) : pq_Md_open E mc ms Post G m i := by
  unfold pq_Md_open pq_Md_open_0 pq_Md_open_22 pq_Md_open_23
  have sw := ci_sw3 (i := i) (X := wo_okI .boolean 0 ∧ Post 0 G) (Y := wo_ty G m = 15 ∧ ∀ r2 : Option Nat, r2 = wo_gr G 898 m → ∃ a4 : Nat, r2 = some a4 ∧ wo_ty G a4 = 72 ∧ vp_in i (wo_len G a4) ∧ ((¬ (wo_ei G a4 i.toNatClampNeg) = 0 → wo_okI .boolean 0 ∧ Post 0 G) ∧ ((wo_ei G a4 i.toNatClampNeg) = 0 → wo_okI .boolean 1 ∧ Post 1 G))) (fun e => ⟨tx_ok0, hn e⟩) (fun c e => ?_)
  · exact ⟨sw.1, fun w => ⟨fun w2 => (sw.2 w).2 (Int32.not_le.mpr w2), fun w2 => (sw.2 w).1 (Int32.not_lt.mp w2)⟩⟩
  · obtain ⟨e1, hc3⟩ := ci_some e
    have hp2 := hp c e
    subst e1
    refine ⟨h.1, h.rd (f := 898) (k := 72) (n := 3) (by decide) (vp_in_nI hc3 (by decide)) ?_⟩
    rw [nI_clamp (by omega), (hk c hc3).2.1]
    cases z : c_sh (cn c) with
    | true => rw [z] at hp2; exact ⟨fun _ => ⟨tx_ok0, hp2⟩, fun w => absurd w (by decide)⟩
    | false => rw [z] at hp2; exact ⟨fun w => absurd rfl w, fun _ => ⟨tx_ok1, hp2⟩⟩
theorem sp_mtag {Post : Int32 → wo_W → Prop} {v : Int32} (h : md_k E ow m A G) (hk : wo_gi G 957 m = v) (hp : Post v G) : pq_Md_tag E mc ms Post G m := by
  unfold pq_Md_tag pq_Md_tag_0
  rw [hk]
  exact ⟨h.1, hp⟩
theorem sp_mclock {Post : Int32 → wo_W → Prop} {v : Int32} (h : md_k E ow m A G) (hk : wo_gi G 956 m = v) (hp : Post v G) : pq_Md_clock E mc ms Post G m := by
  unfold pq_Md_clock pq_Md_clock_0
  rw [hk]
  exact ⟨h.1, hp⟩
theorem rg_filter {l : List Nat} {n : Nat} (h : l.Nodup) (h2 : ∀ x ∈ l, x < n) : ((List.range n).filter (fun x => decide (x ∈ l))).Perm l := by
  refine (List.perm_ext_iff_of_nodup (List.Nodup.sublist List.filter_sublist List.nodup_range) h).mpr (fun a => ?_)
  rw [List.mem_filter, List.mem_range]
  exact ⟨fun z => of_decide_eq_true z.2, fun z => ⟨h2 a z, decide_eq_true z⟩⟩
theorem rg_succ {p : Nat → Bool} {i : Nat} : ((List.range (i + 1)).filter p) = (List.range i).filter p ++ (if p i = true then [i] else []) := by
  rw [List.range_succ, List.filter_append]
  congr 1
  by_cases z : p i = true
  · rw [if_pos z, List.filter_cons_of_pos z]; rfl
  · rw [if_neg z, List.filter_cons_of_neg z]; rfl
theorem sp_mstored {Post : Int32 → wo_W → Prop} {L : slT} {n : Nat} (h : md_k E ow m A G) (hk : mss m A G L n) (hp : Post (nI L.length) G) : pq_Md_stored E mc ms Post G m := by
  obtain ⟨b1, b2, b3, b4, b5, b6⟩ := hk
  have key : ∀ (k i : Nat), i + k = 20 → pq_Md_stored_4 E mc ms Post (k + 1) G 0 0 m (nI ((List.range i).filter (fun x => decide (x ∈ L.map (fun x => x.1)))).length) (nI i) := by
    intro k
    induction k with
    | zero =>
      intro i hi
      unfold pq_Md_stored_4
      have e : i = 20 := by omega
      subst e
      refine ⟨fun _ => ?_, fun w => absurd (by decide) w⟩
      rw [(rg_filter b1 (fun x hx => ?_)).length_eq, List.length_map]
      · exact hp
      · obtain ⟨y, hy, e⟩ := List.mem_map.mp hx
        rw [← e]
        exact (b2 y hy).1
    | succ k ih =>
      intro i hi
      unfold pq_Md_stored_4 pq_Md_stored_26
      refine ⟨fun w => absurd w (nI_ge (b := 20) (by omega) (by decide)), fun _ => ⟨h.1, h.rd (f := 936) (k := 72) (n := 20) (by decide) (vp_in_nI (by omega) (by decide)) ?_⟩⟩
      rw [nI_clamp (by omega), b3 i (by omega), nI_1]
      have ih := ih (i + 1) (by omega)
      rw [rg_succ] at ih
      cases z : decide (i ∈ L.map (fun x => x.1)) with
      | false =>
        rw [z, if_neg (by simp), List.append_nil] at ih
        exact ⟨fun _ => ih, fun w => absurd rfl w⟩
      | true =>
        rw [z, if_pos rfl, List.length_append] at ih
        rw [nI_1]
        exact ⟨fun w => absurd w (by decide), fun _ => ih⟩
  unfold pq_Md_stored pq_Md_stored_0
  exact ⟨21, key 20 0 rfl⟩
theorem sp_mbytes {Post : Int32 → wo_W → Prop} {L : slT} {n : Nat} (h : md_k E ow m A G) (hk : mss m A G L n) (hp : Post (nI (sm_of (L.map (fun x => x.2.2)))) G) : pq_Md_bytes E mc ms Post G m := by
  obtain ⟨b1, b2, b3, b4, b5, b6⟩ := hk
  -- the size at a slot
  have hsz : ∃ z : Nat → Nat, (∀ x ∈ L, z x.1 = x.2.2.2.2.2.2) := by
    have key : ∀ L : slT, (L.map (fun x => x.1)).Nodup → ∃ z : Nat → Nat, (∀ x ∈ L, z x.1 = x.2.2.2.2.2.2) := by
      intro L
      induction L with
      | nil => intro _; exact ⟨fun _ => 0, fun x hx => (by cases hx)⟩
      | cons y L ih =>
        intro hn
        rw [List.map_cons, List.nodup_cons] at hn
        obtain ⟨z, hz⟩ := ih hn.2
        refine ⟨fun s => if s = y.1 then y.2.2.2.2.2.2 else z s, fun x hx => ?_⟩
        rcases List.mem_cons.mp hx with e | e
        · rw [e]; exact if_pos rfl
        · show (if x.1 = y.1 then _ else z x.1) = _
          rw [if_neg (fun q => hn.1 (List.mem_map.mpr ⟨x, e, q⟩))]
          exact hz x e
    exact key L b1
  obtain ⟨z, hz⟩ := hsz
  have hze : ∀ k, k ∈ L.map (fun x => x.1) → wo_ei G (A 942) k = nI (z k) := by
    intro k hk
    obtain ⟨y, hy, e⟩ := List.mem_map.mp hk
    rw [← e, hz y hy]
    exact (b2 y hy).2.1.2.2.2.2
  have key : ∀ (k i : Nat), i + k = 20 → pq_Md_bytes_4 E mc ms Post (k + 1) G 0 0 m (nI (((List.range i).filter (fun x => decide (x ∈ L.map (fun x => x.1)))).map z).sum) (nI i) := by
    intro k
    induction k with
    | zero =>
      intro i hi
      unfold pq_Md_bytes_4
      have e : i = 20 := by omega
      subst e
      refine ⟨fun _ => ?_, fun w => absurd (by decide) w⟩
      rw [su_perm ((rg_filter b1 (fun x hx => ?_)).map z), List.map_map]
      · rw [sm_sum, List.map_map] at hp
        have e : L.map (z ∘ fun x => x.1) = L.map ((fun d : sdT => d.2.2.2.2) ∘ fun x => x.2.2) := List.map_congr_left (fun x hx => hz x hx)
        rw [e]
        exact hp
      · obtain ⟨y, hy, e⟩ := List.mem_map.mp hx
        rw [← e]
        exact (b2 y hy).1
    | succ k ih =>
      intro i hi
      unfold pq_Md_bytes_4 pq_Md_bytes_31
      have vi : vp_in (nI i) 20 := vp_in_nI (by omega) (by decide)
      refine ⟨fun w => absurd w (nI_ge (b := 20) (by omega) (by decide)), fun _ => ⟨h.1, h.rd (f := 936) (k := 72) (n := 20) (by decide) vi ?_⟩⟩
      rw [nI_clamp (by omega), b3 i (by omega), nI_1]
      have ih := ih (i + 1) (by omega)
      rw [rg_succ] at ih
      cases y : decide (i ∈ L.map (fun x => x.1)) with
      | false =>
        rw [y, if_neg (by simp), List.append_nil] at ih
        exact ⟨fun _ => ih, fun w => absurd rfl w⟩
      | true =>
        rw [y, if_pos rfl, List.map_append, List.sum_append] at ih
        refine ⟨fun w => absurd w (by decide), fun _ => h.rd (f := 942) (k := 66) (n := 20) (by decide) vi ?_⟩
        rw [hze i (of_decide_eq_true y), nI_add]
        simpa using ih
  unfold pq_Md_bytes pq_Md_bytes_0
  exact ⟨21, key 20 0 rfl⟩
end MD
