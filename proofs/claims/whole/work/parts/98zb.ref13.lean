theorem mh_some {o : Option (List Nat)} {bt : btT} {l : Nat} (hne : ∃ l, l < 3 ∧ bt l ≠ none) (h : mh_of o bt = some l) : ∃ q, bt l = some q := by
  have hli : ∃ q, bt (li_of bt) = some q := by
    obtain ⟨x, hx, hb⟩ := hne
    have e : x = 0 ∨ x = 1 ∨ x = 2 := by omega
    unfold li_of
    cases h0 : bt 0 with
    | some q => exact ⟨q, h0⟩
    | none =>
      rw [if_neg (by simp)]
      cases h1 : bt 1 with
      | some q => exact ⟨q, h1⟩
      | none =>
        rw [if_neg (by simp)]
        cases h2 : bt 2 with
        | some q => exact ⟨q, rfl⟩
        | none =>
          rcases e with e | e | e <;> (rw [e] at hb; first | exact absurd h0 hb | exact absurd h1 hb | exact absurd h2 hb)
  have hs : ∀ t b l, (∀ x, b.1 = some x → ∃ q, bt x = some q) → ∀ x, (mh_s t bt b l).1 = some x → ∃ q, bt x = some q := by
    intro t b l hb x hx
    unfold mh_s at hx
    split at hx
    · exact hb x hx
    · rename_i q e
      split at hx
      · cases hx; exact ⟨_, e⟩
      · exact hb x hx
  unfold mh_of at h
  split at h
  · cases h; exact hli
  · split at h
    · cases h; exact hli
    · exact hs _ _ 2 (hs _ _ 1 (hs _ _ 0 (fun x e => (by cases e)))) l h
def Prr (r : Nat) : Nat → Nat → Prop := fun f i => 929 ≤ f ∧ f ≤ 935 ∧ i = r
def tg_I : Option Nat → Int32
  | none => 0
  | some g => nI g
section MD
variable {E : wo_E} {mc ms m c s : Nat} {G0 G G1 G2 : wo_W} {ow : Nat → Nat} {A : Nat → Nat} {F K : Nat → Prop} {u : List Nat} {P Q : Nat → Nat → Prop}
theorem vp_b {b : Bool} : vp_nar .boolean (bo_I b) = bo_I b := by cases b <;> decide
theorem sp_mask {Post : Int32 → wo_W → Prop} {L : rlT} {j r : Nat} {q : rqT} (h : md_k E ow m A G) (hb : ow_b E ow G) (hk : mrs A G L) (hq : vq_at A G j q) (hj : j < 9) (hr : r < 40) (hne : ∀ x ∈ L, ∃ l, l < 3 ∧ x.2.2.2 l ≠ none) (hp0 : (∀ x ∈ L, x.2.1 ≠ q.2.1) → Post 404 G) (hp1 : ∀ x ∈ L, x.2.1 = q.2.1 → ch_of (q.2.2.2 5) (ex_of x.2.2.1 x.2.2.2) = none → Post 406 G) (hp2 : ∀ x ∈ L, x.2.1 = q.2.1 → ∀ p, ch_of (q.2.2.2 5) (ex_of x.2.2.1 x.2.2.2) = some p → ∀ G', mf E ow m A (Prr r) G G' → rr_at A G' r p → Post 200 G') : pq_Md_ask E mc ms Post G m (nI j) (nI r) := by
  have vr : vp_in (nI r) 40 := vp_in_nI hr (by decide)
  have cr : (nI r).toNatClampNeg = r := nI_clamp (by omega)
  unfold pq_Md_ask pq_Md_ask_0
  refine ⟨h.1, 0, 0, Nat.zero_le _, Nat.zero_le _, sp_resource h hk hj hq.2.1 (fun o ho => ?_)⟩
  cases o with
  | none => exact ⟨fun w => absurd w (by decide), fun _ => hp0 ho⟩
  | some x =>
    obtain ⟨hx, ex⟩ := ho
    have hx6 := (hk.2.1 x hx).1
    have hm := (hk.2.1 x hx).2
    have hp1 := hp1 x hx ex
    have hp2 := hp2 x hx ex
    have vk : vp_in (nI x.1) 6 := vp_in_nI hx6 (by decide)
    have ck : (nI x.1).toNatClampNeg = x.1 := nI_clamp (by omega)
    refine ⟨fun _ => ⟨h.1, 0, 0, Nat.zero_le _, Nat.zero_le _, sp_mchoose h hq hj hx6 hm ?_⟩, fun w => absurd (nI_pos' (by omega)) w⟩
    rw [mh_ch] at hp1 hp2
    cases e : mh_of (q.2.2.2 5) x.2.2.2 with
    | none =>
      rw [e] at hp1
      exact ⟨fun w => absurd w (by decide), fun _ => hp1 rfl⟩
    | some l =>
      have hl := mh_lt e
      obtain ⟨bq, eb⟩ := mh_some (hne x hx) e
      obtain ⟨i1, i2, i3⟩ := ix3 hx6 hl
      have hbt := hm.2.2 l hl
      rw [eb] at hbt
      obtain ⟨t1, t2, t3, t4⟩ := hbt
      rw [e] at hp2
      have hp2 := hp2 (97 + l, bq.1, bq.2, x.2.2.1, decide (1 < cb_of x.2.2.2)) (by simp [xo_of, ex_of, eb])
      refine ⟨fun _ => ⟨h.1, h.wr (f := 929) (k := 66) (n := 40) (by decide) vr (fun G1 e1 => ?_)⟩, fun w => absurd (nI_pos' (by omega)) w⟩
      rw [cr] at e1
      have m1 : mf E ow m A (fun f i => f = 929 ∧ i = r) G G1 := by rw [e1]; exact mf_sei h hb (f := 929) (k := 66) (n := 40) (by decide) ⟨rfl, rfl⟩
      have v929 : wo_ei G1 (A 929) r = nI (97 + l) := by
        rw [e1, sei_at, if_pos rfl]
        exact nI_add 97 l
      show ∀ r20 : Option Nat, _
      rw [show (rf_I (some x)) = nI x.1 from rfl, show wh_I (some l) = nI l from rfl, i1]
      refine fun r20 hr20 => m1.k.rd (f := 950) (k := 73) (n := 18) (by decide) i3 (m1.k.wr (f := 930) (k := 73) (n := 40) (by decide) vr (fun G2 e2 => ?_) r20 hr20)
      rw [cr, i2, m1.el (f := 950) (k := 73) (n := 18) (by decide) (by simp), t1.1] at e2
      have m2 : mf E ow m A (fun f i => f = 930 ∧ i = r) G1 G2 := by rw [e2]; exact mf_sel m1.k m1.b (f := 930) (k := 73) (n := 40) (by decide) ⟨rfl, rfl⟩
      have v930 : wo_el G2 (A 930) r = pk_of bq.1 := by rw [e2, sel_at, if_pos rfl]
      have n2 : mf E ow m A (fun f i => 929 ≤ f ∧ f ≤ 930 ∧ i = r) G G2 := (m1.mn (fun f i z => by omega)).tr (m2.mn (fun f i z => by omega))
      refine fun r33 hr33 => m2.k.rd (f := 951) (k := 66) (n := 18) (by decide) i3 (m2.k.wr (f := 931) (k := 66) (n := 40) (by decide) vr (fun G3 e3 => ?_) r33 hr33)
      rw [cr, i2, n2.ei (f := 951) (k := 66) (n := 18) (by decide) (by simp), t1.2.1] at e3
      have m3 : mf E ow m A (fun f i => f = 931 ∧ i = r) G2 G3 := by rw [e3]; exact mf_sei m2.k m2.b (f := 931) (k := 66) (n := 40) (by decide) ⟨rfl, rfl⟩
      have v931 : wo_ei G3 (A 931) r = nI bq.1.length := by rw [e3, sei_at, if_pos rfl]
      have n3 : mf E ow m A (fun f i => 929 ≤ f ∧ f ≤ 931 ∧ i = r) G G3 := (n2.mn (fun f i z => by omega)).tr (m3.mn (fun f i z => by omega))
      refine fun r46 hr46 => m3.k.rd (f := 952) (k := 66) (n := 18) (by decide) i3 (m3.k.wr (f := 932) (k := 66) (n := 40) (by decide) vr (fun G4 e4 => ?_) r46 hr46)
      rw [cr, i2, n3.ei (f := 952) (k := 66) (n := 18) (by decide) (by simp), t2] at e4
      have m4 : mf E ow m A (fun f i => f = 932 ∧ i = r) G3 G4 := by rw [e4]; exact mf_sei m3.k m3.b (f := 932) (k := 66) (n := 40) (by decide) ⟨rfl, rfl⟩
      have v932 : wo_ei G4 (A 932) r = nI bq.2 := by rw [e4, sei_at, if_pos rfl]
      have n4 : mf E ow m A (fun f i => 929 ≤ f ∧ f ≤ 932 ∧ i = r) G G4 := (n3.mn (fun f i z => by omega)).tr (m4.mn (fun f i z => by omega))
      unfold pq_Md_ask_93
      refine ⟨m4.k.1, fun r2 hr2 => m4.k.rd (f := 948) (k := 73) (n := 6) (by decide) vk (m4.k.wr (f := 933) (k := 73) (n := 40) (by decide) vr (fun G5 e5 => ?_) r2 hr2)⟩
      rw [cr, ck, n4.el (f := 948) (k := 73) (n := 6) (by decide) (by simp), hm.2.1.1] at e5
      have m5 : mf E ow m A (fun f i => f = 933 ∧ i = r) G4 G5 := by rw [e5]; exact mf_sel m4.k m4.b (f := 933) (k := 73) (n := 40) (by decide) ⟨rfl, rfl⟩
      have v933 : wo_el G5 (A 933) r = pk_of x.2.2.1 := by rw [e5, sel_at, if_pos rfl]
      have n5 : mf E ow m A (fun f i => 929 ≤ f ∧ f ≤ 933 ∧ i = r) G G5 := (n4.mn (fun f i z => by omega)).tr (m5.mn (fun f i z => by omega))
      refine fun r15 hr15 => m5.k.rd (f := 949) (k := 66) (n := 6) (by decide) vk (m5.k.wr (f := 934) (k := 66) (n := 40) (by decide) vr (fun G6 e6 => ?_) r15 hr15)
      rw [cr, ck, n5.ei (f := 949) (k := 66) (n := 6) (by decide) (by simp), hm.2.1.2.1] at e6
      have m6 : mf E ow m A (fun f i => f = 934 ∧ i = r) G5 G6 := by rw [e6]; exact mf_sei m5.k m5.b (f := 934) (k := 66) (n := 40) (by decide) ⟨rfl, rfl⟩
      have v934 : wo_ei G6 (A 934) r = nI x.2.2.1.length := by rw [e6, sei_at, if_pos rfl]
      have n6 : mf E ow m A (fun f i => 929 ≤ f ∧ f ≤ 934 ∧ i = r) G G6 := (n5.mn (fun f i z => by omega)).tr (m6.mn (fun f i z => by omega))
      have hm6 : mro A G6 x.1 x.2 := hm.mf n6 (fun f hf => by simp only [List.mem_cons, List.mem_nil_iff, or_false] at hf; omega) (fun l _ f hf => by simp only [List.mem_cons, List.mem_nil_iff, or_false] at hf; omega)
      have cb3 : cb_of x.2.2.2 ≤ 3 := by unfold cb_of; split <;> split <;> split <;> omega
      have fin : ∀ b : Bool, decide (1 < cb_of x.2.2.2) = b → ∀ c s (r28 : Option Nat), r28 = wo_gr G6 935 m → pq_Md_ask_136 E mc ms Post G6 c s r28 (nI r) (bo_I b) := by
        intro b hbb c s r28 hr28
        unfold pq_Md_ask_136
        refine m6.k.wr (f := 935) (k := 72) (n := 40) (by decide) vr (fun G7 e7 => ?_) r28 hr28
        rw [cr, vp_b] at e7
        have m7 : mf E ow m A (fun f i => f = 935 ∧ i = r) G6 G7 := by rw [e7]; exact mf_sei m6.k m6.b (f := 935) (k := 72) (n := 40) (by decide) ⟨rfl, rfl⟩
        have v935 : wo_ei G7 (A 935) r = bo_I b := by rw [e7, sei_at, if_pos rfl]
        have b6 : mf E ow m A (fun f i => 934 < f) G6 G7 := m7.mn (fun f i z => by omega)
        have b5 : mf E ow m A (fun f i => 933 < f) G5 G7 := (m6.mn (fun f i z => by omega)).tr (b6.mn (fun f i z => by omega))
        have b4 : mf E ow m A (fun f i => 932 < f) G4 G7 := (m5.mn (fun f i z => by omega)).tr (b5.mn (fun f i z => by omega))
        have b3 : mf E ow m A (fun f i => 931 < f) G3 G7 := (m4.mn (fun f i z => by omega)).tr (b4.mn (fun f i z => by omega))
        have b2 : mf E ow m A (fun f i => 930 < f) G2 G7 := (m3.mn (fun f i z => by omega)).tr (b3.mn (fun f i z => by omega))
        have b1 : mf E ow m A (fun f i => 929 < f) G1 G7 := (m2.mn (fun f i z => by omega)).tr (b2.mn (fun f i z => by omega))
        refine hp2 G7 ((n6.mn (fun f i z => by unfold Prr; omega)).tr (m7.mn (fun f i z => by unfold Prr; omega))) ⟨?_, by show 97 + l < 256; omega, ⟨?_, ?_, t1.2.2⟩, ?_, t4, ⟨?_, ?_, hm.2.1.2.2⟩, ?_⟩
        · rw [b1.ei (f := 929) (k := 66) (n := 40) (by decide) (by simp)]; exact v929
        · rw [b2.el (f := 930) (k := 73) (n := 40) (by decide) (by simp)]; exact v930
        · rw [b3.ei (f := 931) (k := 66) (n := 40) (by decide) (by simp)]; exact v931
        · rw [b4.ei (f := 932) (k := 66) (n := 40) (by decide) (by simp)]; exact v932
        · rw [b5.el (f := 933) (k := 73) (n := 40) (by decide) (by simp)]; exact v933
        · rw [b6.ei (f := 934) (k := 66) (n := 40) (by decide) (by simp)]; exact v934
        · rw [v935, ← hbb]
      refine fun r28 hr28 => ⟨0, 0, Nat.zero_le _, Nat.zero_le _, sp_letters m6.k hx6 hm6 ⟨fun w => ?_, fun w => ?_⟩⟩
      · have := (nI_leI (b := 1) (by omega) (by decide)).mp w
        exact fin false (decide_eq_false (by omega)) _ _ r28 hr28
      · have : ¬ cb_of x.2.2.2 ≤ 1 := fun z => w (nI_le (b := 1) z (by decide))
        exact fin true (decide_eq_true (by omega)) _ _ r28 hr28
theorem sp_holds {Post : Int32 → wo_W → Prop} {j : Nat} {q : rqT} {o : Option Nat} (h : md_k E ow m A G) (hq : vq_at A G j q) (hj : j < 9) (ho : ∀ g, o = some g → 0 < g ∧ g < 2 ^ 31) (hp : Post (bo_I (!fb_of q.2.2.2 o)) G) : pq_Md_holds E mc ms Post G m (nI j) (tg_I o) := by
  have h51 : ∀ b : Bool, fb_of q.2.2.2 o = !b → ∀ c s, pq_Md_holds_51 E mc ms Post G c s (bo_I b) := by
    intro b hb c s
    rw [hb, Bool.not_not] at hp
    unfold pq_Md_holds_51
    refine ⟨?_, hp⟩
    cases b
    · exact tx_ok0
    · exact tx_ok1
  have h23 : fb_of q.2.2.2 o = fb_2 q.2.2.2 o → ∀ c s, c ≤ mc → s ≤ ms → pq_Md_holds_23 E mc ms Post G c s m (nI j) (tg_I o) := by
    intro hfb c s hc hs
    unfold pq_Md_holds_23 pq_Md_holds_46 pq_Md_holds_50
    refine ⟨h.1, 0, 0, hc, hs, sp_has (h := 1) h hq hj (by decide) ?_⟩
    cases e : q.2.2.2 1 with
    | none =>
      have ef : fb_of q.2.2.2 o = false := by rw [hfb]; unfold fb_2; rw [e]
      exact ⟨fun _ => h51 true ef _ _, fun w => absurd rfl w⟩
    | some t =>
      refine ⟨fun w => absurd w bo_s, fun _ => ?_⟩
      cases o with
      | none =>
        have ef : fb_of q.2.2.2 none = false := by rw [hfb]; unfold fb_2; rw [e]
        exact ⟨fun _ => h51 true ef _ _, fun w => absurd (by decide) w⟩
      | some g =>
        obtain ⟨g1, g2⟩ := ho g rfl
        have ef : fb_of q.2.2.2 (some g) = mt_of t g := by rw [hfb]; unfold fb_2; rw [e]
        refine ⟨fun w => absurd w (nI_nle g1 g2), fun _ => ⟨h.1, 0, 0, hc, hs, sp_mmatches (h := 1) h hq hj (by decide) e g2 ?_⟩⟩
        cases z : mt_of t g with
        | true => exact ⟨fun _ => h51 false (by rw [ef, z]; rfl) _ _, fun w => absurd w (by decide)⟩
        | false => exact ⟨fun w => absurd rfl w, fun _ => h51 true (by rw [ef, z]; rfl) _ _⟩
  unfold pq_Md_holds pq_Md_holds_0
  refine ⟨h.1, 0, 0, Nat.zero_le _, Nat.zero_le _, sp_has (h := 0) h hq hj (by decide) ?_⟩
  cases e : q.2.2.2 0 with
  | none =>
    have ef : fb_of q.2.2.2 o = fb_2 q.2.2.2 o := by unfold fb_of; rw [e]
    exact ⟨fun _ => h23 ef _ _ (Nat.zero_le _) (Nat.zero_le _), fun w => absurd rfl w⟩
  | some t =>
    refine ⟨fun w => absurd w bo_s, fun _ => ?_⟩
    unfold pq_Md_holds_50
    cases o with
    | none =>
      have ef : fb_of q.2.2.2 none = true := by unfold fb_of; rw [e]
      exact ⟨fun _ => h51 false ef _ _, fun w => absurd (by decide) w⟩
    | some g =>
      obtain ⟨g1, g2⟩ := ho g rfl
      have ef : fb_of q.2.2.2 (some g) = if mt_of t g = true then fb_2 q.2.2.2 (some g) else true := by unfold fb_of; rw [e]
      refine ⟨fun w => absurd w (nI_nle g1 g2), fun _ => ⟨h.1, 0, 0, Nat.zero_le _, Nat.zero_le _, sp_mmatches (h := 0) h hq hj (by decide) e g2 ?_⟩⟩
      cases z : mt_of t g with
      | false => exact ⟨fun _ => h51 false (by rw [ef, if_neg (by rw [z]; decide)]; rfl) _ _, fun w => absurd rfl w⟩
      | true => exact ⟨fun w => absurd w (by decide), fun _ => h23 (by rw [ef, if_pos z]) _ _ (Nat.zero_le _) (Nat.zero_le _)⟩
end MD
