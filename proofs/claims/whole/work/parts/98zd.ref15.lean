theorem io_L {pa : List Nat} : ∀ {L : rlT} {x : Nat × roT}, (L.map (fun x => x.2.1)).Nodup → x ∈ L → x.2.1 = pa → ∃ i, io_of pa (L.map (fun x => x.2)) = some i ∧ i < L.length ∧ L[i]? = some x := by
  intro L
  induction L with
  | nil => intro x _ hx; cases hx
  | cons a L ih =>
    intro x hn hx ex
    rw [List.map_cons, List.nodup_cons] at hn
    rw [List.map_cons]
    unfold io_of
    by_cases z : a.2.1 = pa
    · rw [if_pos z]
      have e : x = a := by
        rcases List.mem_cons.mp hx with q | q
        · exact q
        · exact absurd (List.mem_map.mpr ⟨x, q, by rw [ex, z]⟩) hn.1
      exact ⟨0, rfl, by simp, by rw [e]; rfl⟩
    · rw [if_neg z]
      rcases List.mem_cons.mp hx with q | q
      · rw [q] at ex; exact absurd ex z
      · obtain ⟨i, h1, h2, h3⟩ := ih hn.2 q ex
        exact ⟨i + 1, by rw [h1]; rfl, by simp; exact h2, by simpa using h3⟩
theorem io_0 {pa : List Nat} : ∀ {L : rlT}, (∀ x ∈ L, x.2.1 ≠ pa) → io_of pa (L.map (fun x => x.2)) = none := by
  intro L
  induction L with
  | nil => intro _; rfl
  | cons a L ih =>
    intro h
    rw [List.map_cons]
    unfold io_of
    rw [if_neg (h a List.mem_cons_self), ih (fun x hx => h x (List.mem_cons_of_mem _ hx))]
    rfl
theorem gt_L {α : Type} {L : List (Nat × α)} {i : Nat} {x : Nat × α} {d : α} (h : L[i]? = some x) : (L.map (fun x => x.2)).getD i d = x.2 := by
  rw [List.getD_eq_getElem?_getD, List.getElem?_map, h]
  rfl
theorem nd_ers {α : Type} : ∀ {L : List (Nat × α)} {i : Nat} {x : Nat × α}, (L.map (fun x => x.1)).Nodup → L[i]? = some x → ∀ y, y ∈ L.eraseIdx i ↔ y ∈ L ∧ y.1 ≠ x.1 := by
  intro L
  induction L with
  | nil => intro i x _ h; simp at h
  | cons a L ih =>
    intro i x hn h y
    rw [List.map_cons, List.nodup_cons] at hn
    cases i with
    | zero =>
      have e : a = x := by simpa using h
      subst e
      show y ∈ L ↔ _
      refine ⟨fun z => ⟨List.mem_cons_of_mem _ z, fun q => hn.1 (List.mem_map.mpr ⟨y, z, q⟩)⟩, fun z => ?_⟩
      rcases List.mem_cons.mp z.1 with q | q
      · rw [q] at z; exact absurd rfl z.2
      · exact q
    | succ i =>
      have h2 : L[i]? = some x := by simpa using h
      show y ∈ a :: L.eraseIdx i ↔ _
      rw [List.mem_cons, ih hn.2 h2 y, List.mem_cons]
      have hx : x ∈ L := List.mem_of_getElem? h2
      constructor
      · rintro (q | q)
        · rw [q]; exact ⟨Or.inl rfl, fun e => hn.1 (List.mem_map.mpr ⟨x, hx, e.symm⟩)⟩
        · exact ⟨Or.inr q.1, q.2⟩
      · rintro ⟨q | q, w⟩
        · exact Or.inl q
        · exact Or.inr ⟨q, w⟩
theorem mp_er {α β : Type} (f : α → β) : ∀ (L : List α) (i : Nat), (L.eraseIdx i).map f = (L.map f).eraseIdx i := by
  intro L
  induction L with
  | nil => intro i; rfl
  | cons a L ih =>
    intro i
    cases i with
    | zero => rfl
    | succ i => show f a :: (L.eraseIdx i).map f = f a :: (L.map f).eraseIdx i; rw [ih]
theorem nd_set {α : Type} : ∀ {L : List (Nat × α)} {i : Nat} {x : Nat × α} {v : α}, (L.map (fun x => x.1)).Nodup → L[i]? = some x → (∀ y, y ∈ L.set i (x.1, v) ↔ y = (x.1, v) ∨ y ∈ L ∧ y.1 ≠ x.1) ∧ (L.set i (x.1, v)).map (fun x => x.1) = L.map (fun x => x.1) := by
  intro L
  induction L with
  | nil => intro i x v _ h; simp at h
  | cons a L ih =>
    intro i x v hn h
    rw [List.map_cons, List.nodup_cons] at hn
    cases i with
    | zero =>
      have e : a = x := by simpa using h
      subst e
      refine ⟨fun y => ?_, rfl⟩
      show y ∈ (a.1, v) :: L ↔ _
      rw [List.mem_cons]
      constructor
      · rintro (q | q)
        · exact Or.inl q
        · exact Or.inr ⟨List.mem_cons_of_mem _ q, fun z => hn.1 (List.mem_map.mpr ⟨y, q, z⟩)⟩
      · rintro (q | ⟨q, w⟩)
        · exact Or.inl q
        · rcases List.mem_cons.mp q with q | q
          · rw [q] at w; exact absurd rfl w
          · exact Or.inr q
    | succ i =>
      have h2 : L[i]? = some x := by simpa using h
      obtain ⟨h3, h4⟩ := ih (v := v) hn.2 h2
      have hx : x ∈ L := List.mem_of_getElem? h2
      refine ⟨fun y => ?_, by show a.1 :: (L.set i (x.1, v)).map _ = _; rw [h4]; rfl⟩
      show y ∈ a :: L.set i (x.1, v) ↔ _
      rw [List.mem_cons, h3 y, List.mem_cons]
      constructor
      · rintro (q | q | q)
        · rw [q]; exact Or.inr ⟨Or.inl rfl, fun e => hn.1 (List.mem_map.mpr ⟨x, hx, e.symm⟩)⟩
        · exact Or.inl q
        · exact Or.inr ⟨Or.inr q.1, q.2⟩
      · rintro (q | ⟨q | q, w⟩)
        · exact Or.inr (Or.inl q)
        · exact Or.inl q
        · exact Or.inr (Or.inr ⟨q, w⟩)
section MD
variable {E : wo_E} {mc ms m c s : Nat} {G0 G G1 G2 : wo_W} {ow : Nat → Nat} {A : Nat → Nat} {F K : Nat → Prop} {u : List Nat} {P Q : Nat → Nat → Prop}
theorem sp_ch194 {Post : Int32 → wo_W → Prop} {k j n tg : Nat} {q : rqT} {pa : List Nat} {bt : btT} (hc : c ≤ mc) (hs : s ≤ ms) (h : md_k E ow m A G) (hb : ow_b E ow G) (hk : k < 6) (hn : n < 3) (hj : j < 9) (hq : vq_at A G j q) (hpa : pt_ok (wo_el G (A 946) k) (wo_ei G (A 947) k) pa) (hbt : ∀ l, l < 3 → bt_at A G k l (bt l)) (htg : wo_gi G 957 m = nI tg) (ht9 : tg + 1 < 10 ^ 9) (hp : ∀ G', mf E ow m A (Pset k j) G G' → mro A G' k (pa, (q.2.2.2 7).getD [], bu_of bt n (q.2.2.1, (nt_b q.2.2.1 tg (bt n)).1)) → wo_ei G' (A 927) j = nI (nt_b q.2.2.1 tg (bt n)).1 → wo_gi G' 957 m = nI (nt_b q.2.2.1 tg (bt n)).2 → Post (nI (st_b (bt n))) G') : pq_Md_change_194 E mc ms Post G c s m (nI j) (nI k) (nI n) (tg_I ((bt n).map (fun x => x.2))) := by
  obtain ⟨i1, i2, i3⟩ := ix3 hk hn
  have vj : vp_in (nI j) 9 := vp_in_nI hj (by decide)
  have cj : (nI j).toNatClampNeg = j := nI_clamp (by omega)
  have hbd := hq.2.2.1
  have h6 : tg_I ((bt n).map (fun x => x.2)) = 0 ↔ bt n = none := by
    have hb := hbt n hn
    cases e : bt n with
    | none => simp [tg_I]
    | some x =>
      rw [e] at hb
      exact ⟨fun w => absurd w (nI_ne0 (n := x.2) hb.2.2.1 (by have := hb.2.2.2; omega)), fun w => (by cases w)⟩
  have h248 : nt_b q.2.2.1 tg (bt n) = (tg + 1, tg + 1) → pq_Md_change_248 E mc ms Post G c s m (nI j) (nI k) (tg_I ((bt n).map (fun x => x.2))) (nI (3 * k + n)) := by
    intro hnt
    rw [hnt] at hp
    unfold pq_Md_change_248
    refine ⟨h.1, h.2.1, fun G1 e1 => ?_⟩
    rw [htg, nI_1] at e1
    have m1 : mf E ow m A (fun f x => f = 957) G G1 := by rw [e1]; exact mf_si h hb (f := 957) rfl
    have v1 : wo_gi G1 957 m = nI (tg + 1) := by rw [e1, si_at]
    refine m1.k.wr (f := 952) (k := 66) (n := 18) (by decide) i3 (fun G2 e2 => ?_)
    rw [i2, v1] at e2
    have m2 : mf E ow m A (fun f x => f = 952 ∧ x = 3 * k + n) G1 G2 := by rw [e2]; exact mf_sei m1.k m1.b (f := 952) (k := 66) (n := 18) (by decide) ⟨rfl, rfl⟩
    have v2 : wo_ei G2 (A 952) (3 * k + n) = nI (tg + 1) := by rw [e2, sei_at, if_pos rfl]
    have n2 : mf E ow m A (fun f x => f = 957 ∨ f = 952 ∧ x = 3 * k + n) G G2 := (m1.mn (fun f i z => by omega)).tr (m2.mn (fun f i z => by omega))
    refine sp_ch269 (bt := bt) (pa := pa) hc hs m2.k m2.b hk hn hj (vq_r hq n2 (fun f i z => by omega)) ?_ (fun l hl hln => ?_) v2 (by omega) (by omega) h6 (fun G' m' r' g' t' => ?_)
    · rw [n2.el (f := 946) (k := 73) (n := 6) (by decide) (by omega), n2.ei (f := 947) (k := 66) (n := 6) (by decide) (by omega)]; exact hpa
    · exact (hbt l hl).mf n2 (fun f hf => by simp only [List.mem_cons, List.mem_nil_iff, or_false] at hf; omega)
    · refine hp G' ((n2.mn (fun f i z => by unfold Pset; omega)).tr m') r' g' ?_
      rw [t', m2.gi (fun i => by omega)]
      exact v1
  unfold pq_Md_change_194
  rw [i1]
  refine ⟨fun _ => ⟨fun w => h248 ?_, fun w => ⟨h.1, h.rd (f := 950) (k := 73) (n := 18) (by decide) i3 (h.rd (f := 912) (k := 73) (n := 9) (by decide) vj ?_)⟩⟩, fun w => absurd (nI_pos' (by omega)) w⟩
  · rw [h6.mp w]; rfl
  · rw [i2, cj]
    have hb2 := hbt n hn
    cases e : bt n with
    | none => exact absurd (h6.mpr e) w
    | some x =>
      rw [e] at hb2
      have pe := pt_eq hb2.1 hbd
      have nte : nt_b q.2.2.1 tg (bt n) = if x.1 = q.2.2.1 then (x.2, tg) else (tg + 1, tg + 1) := by rw [e]; rfl
      rw [e] at h248
      have h248 := h248
      refine ⟨fun w2 => h248 ?_, fun w2 => h.rd (f := 951) (k := 66) (n := 18) (by decide) i3 (h.rd (f := 913) (k := 66) (n := 9) (by decide) vj ?_)⟩
      · show (if x.1 = q.2.2.1 then (x.2, tg) else (tg + 1, tg + 1)) = _
        rw [if_neg (fun z => w2 ((lg_cmp_eq _ _).mpr (pe.mp z).1))]
      · refine ⟨fun w3 => ?_, fun w3 => h248 ?_⟩
        · have ex := pe.mpr ⟨(lg_cmp_eq _ _).mp w2, w3⟩
          rw [e] at hp h6
          have nt2 : nt_b q.2.2.1 tg (some x) = (x.2, tg) := if_pos ex
          rw [nt2] at hp
          exact sp_ch269 hc hs h hb hk hn hj hq hpa (fun l hl _ => hbt l hl) hb2.2.1 hb2.2.2.1 hb2.2.2.2 h6 (fun G' m' r' g' t' => hp G' m' r' g' (t'.trans htg))
        · show (if x.1 = q.2.2.1 then (x.2, tg) else (tg + 1, tg + 1)) = _
          rw [if_neg (fun z => w3 (pe.mp z).2)]
end MD
