def rx_ex (rs : List roT) (i : Nat) : Nat → Option rpT := ex_of (rs.getD i ro_0).2.1 (rs.getD i ro_0).2.2
def re_of (pa : List Nat) (vs : Nat → Option (List Nat)) (cp : Nat) (rs : List roT) : Nat × Option rpT := match io_of pa rs with
  | none => (404, none)
  | some i => match ch_of (vs 5) (rx_ex rs i) with
    | none => (406, none)
    | some r => (if r.2.2.1 = cp then 304 else 200, some r)
def dl_of (pa : List Nat) (vs : Nat → Option (List Nat)) (rs : List roT) : Nat × List roT := match io_of pa rs with
  | none => (404, rs)
  | some i => if fb_of vs (rt_of (le_of (rx_ex rs i))) = true then (412, rs) else (204, rs.eraseIdx i)
section SP
variable {E : wo_E} {mc ms : Nat} {G : wo_W} {o p g j J cp sa st gt : Nat} {pa bd : List Nat} {ow : Nat → Nat} {rs : List roT} {vs : Nat → Option (List Nat)} {m : Option Nat} {rp : Option rpT} {sp : Bool}
theorem jb_643 {n : Nat} (h : jb_at E (im ow) G j p cp sa st rp gt sp) (hb : ow_b E ow G) (hj : ow j = J) (hJ : J ≠ 0) : xt E (fun r => r = J) ow G ow (wo_si G 643 j (nI n)) ∧ jb_at E (im ow) (wo_si G 643 j (nI n)) j p cp sa n rp gt sp := by
  have x : xt E (fun r => r = J) ow G ow (wo_si G 643 j (nI n)) := xt.of hb (fr_si hj)
  obtain ⟨h1, h2, h3, h4, h5, h6, h7, h8, h9⟩ := h
  exact ⟨x, h1, h2, h3, by simpa [wo_gi, wo_si, wo_u2] using h4, by simpa [wo_gi, wo_si, wo_u2] using h5, by simp [wo_gi, wo_si, wo_u2], h7.xt x (fun e => hJ e.symm), by simpa [wo_gi, wo_si, wo_u2] using h8, by simpa [wo_gi, wo_si, wo_u2] using h9⟩
theorem jb_645 {n : Nat} (h : jb_at E (im ow) G j p cp sa st rp gt sp) (hb : ow_b E ow G) (hj : ow j = J) (hJ : J ≠ 0) : xt E (fun r => r = J) ow G ow (wo_si G 645 j (nI n)) ∧ jb_at E (im ow) (wo_si G 645 j (nI n)) j p cp sa st rp n sp := by
  have x : xt E (fun r => r = J) ow G ow (wo_si G 645 j (nI n)) := xt.of hb (fr_si hj)
  obtain ⟨h1, h2, h3, h4, h5, h6, h7, h8, h9⟩ := h
  exact ⟨x, h1, h2, h3, by simpa [wo_gi, wo_si, wo_u2] using h4, by simpa [wo_gi, wo_si, wo_u2] using h5, by simpa [wo_gi, wo_si, wo_u2] using h6, h7.xt x (fun e => hJ e.symm), by simp [wo_gi, wo_si, wo_u2], by simpa [wo_gi, wo_si, wo_u2] using h9⟩
theorem jb_642 {n : Nat} (h : jb_at E (im ow) G j p cp sa st rp gt sp) (hb : ow_b E ow G) (hj : ow j = J) (hJ : J ≠ 0) : xt E (fun r => r = J) ow G ow (wo_si G 642 j (nI n)) ∧ jb_at E (im ow) (wo_si G 642 j (nI n)) j p cp n st rp gt sp := by
  have x : xt E (fun r => r = J) ow G ow (wo_si G 642 j (nI n)) := xt.of hb (fr_si hj)
  obtain ⟨h1, h2, h3, h4, h5, h6, h7, h8, h9⟩ := h
  exact ⟨x, h1, h2, h3, by simpa [wo_gi, wo_si, wo_u2] using h4, by simp [wo_gi, wo_si, wo_u2], by simpa [wo_gi, wo_si, wo_u2] using h6, h7.xt x (fun e => hJ e.symm), by simpa [wo_gi, wo_si, wo_u2] using h8, by simpa [wo_gi, wo_si, wo_u2] using h9⟩
theorem jb_646 {b : Bool} (h : jb_at E (im ow) G j p cp sa st rp gt sp) (hb : ow_b E ow G) (hj : ow j = J) (hJ : J ≠ 0) : xt E (fun r => r = J) ow G ow (wo_si G 646 j (bo_I b)) ∧ jb_at E (im ow) (wo_si G 646 j (bo_I b)) j p cp sa st rp gt b := by
  have x : xt E (fun r => r = J) ow G ow (wo_si G 646 j (bo_I b)) := xt.of hb (fr_si hj)
  obtain ⟨h1, h2, h3, h4, h5, h6, h7, h8, h9⟩ := h
  exact ⟨x, h1, h2, h3, by simpa [wo_gi, wo_si, wo_u2] using h4, by simpa [wo_gi, wo_si, wo_u2] using h5, by simpa [wo_gi, wo_si, wo_u2] using h6, h7.xt x (fun e => hJ e.symm), by simpa [wo_gi, wo_si, wo_u2] using h8, by simp [wo_gi, wo_si, wo_u2]⟩
theorem jb_644 {q : Nat} {r : rpT} (h : jb_at E (im ow) G j p cp sa st rp gt sp) (hb : ow_b E ow G) (hj : ow j = J) (hJ : J ≠ 0) (hr : rp_A (im ow) G q r) : xt E (fun r => r = J) ow G ow (wo_sr G 644 j (some q)) ∧ jb_at E (im ow) (wo_sr G 644 j (some q)) j p cp sa st (some r) gt sp := by
  have x : xt E (fun r => r = J) ow G ow (wo_sr G 644 j (some q)) := xt.of hb (fr_sr hj)
  obtain ⟨h1, h2, h3, h4, h5, h6, h7, h8, h9⟩ := h
  have e : wo_gr (wo_sr G 644 j (some q)) 644 j = some q := by simp [wo_gr, wo_sr, wo_u2]
  refine ⟨x, h1, h2, by simpa [wo_gr, wo_sr, wo_u2] using h3, h4, h5, h6, ?_, h8, h9⟩
  rw [e]
  exact rp_at.xt hr x (fun e => hJ e.symm)
theorem sp_ogRead {Post : wo_W → Prop} (c : cx E ow G) (h : og_at E ow G o rs g) (hl : rs.length ≤ 100) (hb : jb_at E (im ow) G j p cp sa st none gt sp) (hcp : cp < 2 ^ 31) (hj : ow j = J) (hJ : J ≠ 0) (hJ4 : J ≠ 4) (hJ40 : J ≠ 40) (hq : rq_at (im ow) G p m pa bd vs)
    (hp : ∀ G', xt E (fun r => r = J) ow G ow G' → og_at E ow G' o rs g → jb_at E (im ow) G' j p cp sa (re_of pa vs cp rs).1 (re_of pa vs cp rs).2 gt sp → Post G') : pq_Og_read E mc ms Post G o (some j) := by
  have hb' := hb
  obtain ⟨b1, b2, b3, b4, b5, b6, b7, b8, b9⟩ := hb'
  have h' := h
  obtain ⟨k1, k2, k3, k4, li, lv, os, As, k5, k6, k7, k8, k9, k10⟩ := h'
  have hq' := hq
  obtain ⟨y1, y2, y3, ⟨y4, y5, y6⟩, y7, y8⟩ := hq'
  have hW : ∀ r, (fun r => r = J) r → r ≠ 0 ∧ r ≠ 4 := fun r e => by rw [show r = J from e]; exact ⟨hJ, hJ4⟩
  have n0 : ¬ (fun r => r = J) 0 := fun e => hJ e.symm
  have n4 : ¬ (fun r => r = J) 4 := fun e => hJ4 e.symm
  have n40 : ¬ (fun r => r = J) 40 := fun e => hJ40 e.symm
  unfold pq_Og_read pq_Og_read_0
  refine ⟨j, rfl, b1, fun r hr => ⟨p, hr.trans b3, y1, fun r2 hr2 => ⟨k1, 0, 0, Nat.zero_le _, Nat.zero_le _, ?_⟩⟩⟩
  rw [hr2, y5]
  refine sp_ogIndex h y6.1 hl ?_
  cases e : io_of pa rs with
  | none =>
    refine ⟨fun w => absurd rfl w, fun _ => ⟨b1, b2, fun G2 e2 => ?_⟩⟩
    obtain ⟨x1, x2⟩ := jb_643 (n := 404) hb c.2 hj hJ
    rw [show (404 : Int32) = nI 404 from rfl] at e2
    rw [← e2] at x1 x2
    refine hp G2 x1 (h.xt c x1 n0 n4 n40) ?_
    unfold re_of
    rw [e]
    exact x2
  | some i =>
    have hi := io_lt e
    obtain ⟨m1, m2⟩ := k10 i hi
    refine ⟨fun _ => ⟨k1, fun r hr => ⟨li, hr.trans k5, k6.1.1, 0, 0, Nat.zero_le _, Nat.zero_le _, sp_alGet k6.1 (by omega) ⟨fun a ha => (by cases ha; exact m1.1), b1, fun r hr => ⟨p, hr.trans b3, y1, fun r2 hr2 => ⟨os.getD i 0, rfl, m1.1, 0, 0, Nat.zero_le _, Nat.zero_le _, ?_⟩⟩⟩⟩⟩, fun w => absurd w (nI_nm1 (by omega))⟩
    have q5 := (y8 5 (by decide)).O
    rw [show (515 + 5) = 520 from rfl, ← hr2] at q5
    refine sp_choose m1 q5 (fun x hx => ⟨fun z => ?_, fun w hw => ?_⟩)
    · have en := hx.none z
      refine ⟨b1, b2, fun G2 e2 => ?_⟩
      obtain ⟨x1, x2⟩ := jb_643 (n := 406) hb c.2 hj hJ
      rw [show (406 : Int32) = nI 406 from rfl] at e2
      rw [← e2] at x1 x2
      refine hp G2 x1 (h.xt c x1 n0 n4 n40) ?_
      unfold re_of rx_ex
      rw [e]
      simp only []
      rw [en]
      exact x2
    · obtain ⟨v, ev, hv⟩ := hx.some hw
      refine ⟨b1, b2, fun G2 e2 => ?_⟩
      obtain ⟨x1, x2⟩ := jb_644 hb c.2 hj hJ hv
      rw [← e2] at x1 x2
      have hv2 := rp_at.xt hv x1 n0
      obtain ⟨v1, v2, v3, v4, v5, v6, v7, v8⟩ := hv2
      have fin : ∀ n, n = (if v.2.2.1 = cp then 304 else 200) → pq_Og_read_85 E mc ms Post G2 (0 + 0 + 0 + 0) (0 + 0 + 0 + 0) (some j) (nI n) := by
        intro n hn
        unfold pq_Og_read_85
        refine ⟨j, rfl, x2.1, b2, fun G3 e3 => ?_⟩
        obtain ⟨z1, z2⟩ := jb_643 (n := n) x2 x1.2.2 hj hJ
        rw [← e3] at z1 z2
        have x13 := x1.tr z1
        refine hp G3 x13 (h.xt c x13 n0 n4 n40) ?_
        unfold re_of rx_ex
        rw [e]
        simp only []
        rw [ev]
        simp only []
        rw [← hn]
        exact z2
      refine ⟨v1, fun w => ?_, fun w => ?_⟩
      · rw [v6, x2.2.2.2.1] at w
        exact fin 200 (by rw [if_neg (fun q => w (by rw [q]))])
      · rw [v6, x2.2.2.2.1] at w
        exact fin 304 (by rw [if_pos ((nI_eq v7 hcp).mp w)])
theorem li_rem {r i a v : Nat} {os : List Nat} (c : cx E ow G) (h : li_at E ow r G a v os) (hr : r ≠ 0) (hi : i < os.length) {Post : Option Nat → wo_W → Prop} (hp : ∀ G', xt E (fun q => q = r) ow G ow G' → fr_W (fun x => x = a ∨ x = v) G G' → li_at E ow r G' a v (os.eraseIdx i) → Post (some (os.getD i 0)) G') : pq_Al_remove E mc ms Post G a (nI i) := by
  obtain ⟨k, k2, k3⟩ := h
  have hv : ow v = r := by
    rcases k3 with q | q
    · have := k.2.2.2.2.2.1
      have h9 := k.2.2.2.2.2.2.2.2.1
      have := c.1.2.2.1
      rcases h9 with z | z
      · omega
      · omega
    · exact q
  refine sp_alRemove k hi (fun G' l1 f1 _ => hp G' (xt.of c.2 (fr_mn (fun x _ q => ?_) f1)) f1 ⟨l1, k2, k3⟩)
  rcases q with q | q <;> rw [q] <;> assumption
theorem er_get {α : Type} {l : List α} {d : α} {i k : Nat} : (l.eraseIdx i).getD k d = if k < i then l.getD k d else l.getD (k + 1) d := by
  rw [List.getD_eq_getElem?_getD, List.getElem?_eraseIdx]
  by_cases z : k < i
  · rw [if_pos z, if_pos z, List.getD_eq_getElem?_getD]
  · rw [if_neg z, if_neg z, List.getD_eq_getElem?_getD]
theorem og_del {G1 : wo_W} {i li lv : Nat} {os As : List Nat} (c : cx E ow G) (k : wo_ty G o = 2 ∧ en_bs E ≤ o ∧ ow o = 4 ∧ wo_gi G 65 o = nI g) (hi : i < rs.length) (k5 : wo_gr G 64 o = some li) (k6 : li_at E ow 40 G li lv os) (k7 : os.length = rs.length) (k8 : As.length = rs.length) (k9 : As.Nodup) (k10 : ∀ i, i < rs.length → rs_v E ow G (os.getD i 0) (As.getD i 0) (rs.getD i ro_0) ∧ ow (As.getD i 0) = 4) (f : fr_W (fun x => x = li ∨ x = lv) G G1) (x : xt E (fun r => r = 40) ow G ow G1) (l1 : li_at E ow 40 G1 li lv (os.eraseIdx i)) : og_at E ow G1 o (rs.eraseIdx i) g := by
  obtain ⟨k1, k2, k3, k4⟩ := k
  have tl := k6.1.1
  have tv := k6.1.2.2.2.2.1
  have no : ¬ (o = li ∨ o = lv) := fun q => by rcases q with q | q <;> rw [q] at k1 <;> omega
  have e := f.2 o (by rw [k1]; decide) no
  have hn : ∀ (l : List Nat), l.length = rs.length → (l.eraseIdx i).length = (rs.eraseIdx i).length := fun l hl => by rw [List.length_eraseIdx_of_lt (by omega), List.length_eraseIdx_of_lt hi, hl]
  refine ⟨e.1.trans k1, k2, k3, (e.2.2.1 _).trans k4, li, lv, os.eraseIdx i, As.eraseIdx i, (e.2.2.2.2.1 _).trans k5, l1, hn os k7, hn As k8, k9.sublist (List.eraseIdx_sublist _ _), fun n hn2 => ?_⟩
  rw [List.length_eraseIdx_of_lt hi] at hn2
  have key : ∀ n, n < rs.length → rs_v E ow G1 (os.getD n 0) (As.getD n 0) (rs.getD n ro_0) ∧ ow (As.getD n 0) = 4 := by
    intro n hn
    obtain ⟨m1, m2⟩ := k10 n hn
    have tA := m1.2.2.2.2.1
    have nA : ¬ (As.getD n 0 = li ∨ As.getD n 0 = lv) := fun q => by rcases q with q | q <;> rw [q] at tA <;> omega
    have eA := f.2 _ (by rw [tA]; decide) nA
    obtain ⟨n1, n2, ⟨s, n3, n4⟩, n5, n6, n7, n8, n9⟩ := m1
    have nz : wo_ty G (os.getD n 0) ≠ 0 := by rw [n1]; decide
    have ep := x.eq nz (fun z => by rw [show ow (os.getD n 0) = 0 from n2] at z; cases z)
    exact ⟨⟨ep.1.trans n1, n2, ⟨s, (ep.2.2.2.2.1 _).trans n3, n4.xt x (by decide)⟩, (ep.2.2.2.2.1 _).trans n5, eA.1.trans n6, eA.2.1.trans n7, n8, fun q hq => by rw [eA.2.2.2.2.2.2.2]; exact (n9 q hq).xt x (by decide)⟩, m2⟩
  rw [er_get, er_get, er_get]
  by_cases z : n < i
  · rw [if_pos z, if_pos z, if_pos z]; exact key n (by omega)
  · rw [if_neg z, if_neg z, if_neg z]; exact key (n + 1) (by omega)
theorem sp_ogDelete {Post : wo_W → Prop} (c : cx E ow G) (h : og_at E ow G o rs g) (hl : rs.length ≤ 100) (hb : jb_at E (im ow) G j p cp sa st rp gt sp) (hj : ow j = J) (hJ : J ≠ 0) (hJ4 : J ≠ 4) (hJ40 : J ≠ 40) (hq : rq_at (im ow) G p m pa bd vs)
    (hp : ∀ G', xt E (fun r => r = 4 ∨ r = 40 ∨ r = J) ow G ow G' → og_at E ow G' o (dl_of pa vs rs).2 g → jb_at E (im ow) G' j p cp sa (dl_of pa vs rs).1 rp gt sp → Post G') : pq_Og_delete E mc ms Post G o (some j) := by
  have hb' := hb
  obtain ⟨b1, b2, b3, b4, b5, b6, b7, b8, b9⟩ := hb'
  have h' := h
  obtain ⟨k1, k2, k3, k4, li, lv, os, As, k5, k6, k7, k8, k9, k10⟩ := h'
  have hq' := hq
  obtain ⟨y1, y2, y3, ⟨y4, y5, y6⟩, y7, y8⟩ := hq'
  have n0 : ¬ (fun r => r = J) 0 := fun e => hJ e.symm
  have n4 : ¬ (fun r => r = J) 4 := fun e => hJ4 e.symm
  have n40 : ¬ (fun r => r = J) 40 := fun e => hJ40 e.symm
  have fin : ∀ n, n = (dl_of pa vs rs).1 → rs = (dl_of pa vs rs).2 → ∀ G2, G2 = wo_si G 643 j (nI n) → Post G2 := by
    intro n hn hrs G2 e2
    obtain ⟨x1, x2⟩ := jb_643 (n := n) hb c.2 hj hJ
    rw [← e2] at x1 x2
    refine hp G2 (x1.mn (fun a q => Or.inr (Or.inr q))) ?_ (by rw [← hn]; exact x2)
    rw [← hrs]
    exact h.xt c x1 n0 n4 n40
  unfold pq_Og_delete pq_Og_delete_0 pq_Og_delete_77
  refine ⟨j, rfl, b1, fun r hr => ⟨p, hr.trans b3, y1, fun r2 hr2 => ⟨k1, 0, 0, Nat.zero_le _, Nat.zero_le _, ?_⟩⟩⟩
  rw [hr2, y5]
  refine sp_ogIndex h y6.1 hl ?_
  cases e : io_of pa rs with
  | none => exact ⟨fun w => absurd rfl w, fun _ => ⟨b1, b2, fin 404 (by unfold dl_of; rw [e]) (by unfold dl_of; rw [e])⟩⟩
  | some i =>
    have hi := io_lt e
    obtain ⟨m1, m2⟩ := k10 i hi
    refine ⟨fun _ => ⟨b1, fun r3 hr3 => ⟨k1, fun r hr => ⟨li, hr.trans k5, k6.1.1, 0, 0, Nat.zero_le _, Nat.zero_le _, sp_alGet k6.1 (by omega) ⟨fun a ha => (by cases ha; exact m1.1), os.getD i 0, rfl, m1.1, 0, 0, Nat.zero_le _, Nat.zero_le _, sp_least m1 (fun x hx => ⟨0, 0, Nat.zero_le _, Nat.zero_le _, ?_⟩)⟩⟩⟩⟩, fun w => absurd w (nI_nm1 (by omega))⟩
    rw [hr3, b3]
    refine sp_forbidden c.1 hq hx ?_
    cases hf : fb_of vs (rt_of (le_of (ex_of (rs.getD i ro_0).2.1 (rs.getD i ro_0).2.2))) with
    | true =>
      have hf2 : fb_of vs (rt_of (le_of (rx_ex rs i))) = true := hf
      refine ⟨fun w => absurd w (by decide), fun _ => ⟨b1, b2, fin 412 ?_ ?_⟩⟩
      · unfold dl_of; rw [e]; simp only [hf2, if_true]
      · unfold dl_of; rw [e]; simp only [hf2, if_true]
    | false =>
      have hf2 : fb_of vs (rt_of (le_of (rx_ex rs i))) = false := hf
      have hd : dl_of pa vs rs = (204, rs.eraseIdx i) := by
        unfold dl_of
        rw [e]
        simp only [hf2]
        rfl
      rw [hd] at hp
      refine ⟨fun _ => ⟨k1, fun r hr => ⟨li, hr.trans k5, k6.1.1, 0, 0, Nat.zero_le _, Nat.zero_le _, li_rem c k6 (by decide) (by omega) (fun G2 x1 f1 l1 => ?_)⟩⟩, fun w => absurd rfl w⟩
      have c1 := c.xt x1 (by decide)
      have hb1 := hb.xt x1 (by decide) (by rw [hj]; exact hJ40)
      refine ⟨hb1.1, b2, fun G3 e3 => ?_⟩
      obtain ⟨z1, z2⟩ := jb_643 (n := 204) hb1 x1.2.2 hj hJ
      rw [show (204 : Int32) = nI 204 from rfl] at e3
      rw [← e3] at z1 z2
      refine hp G3 ((x1.mn (fun a q => Or.inr (Or.inl q))).tr (z1.mn (fun a q => Or.inr (Or.inr q)))) ?_ z2
      exact (og_del c ⟨k1, k2, k3, k4⟩ hi k5 k6 k7 k8 k9 k10 f1 x1 l1).xt c1 z1 n0 n4 n40
end SP
