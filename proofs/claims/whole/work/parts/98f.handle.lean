def ec_k (E : wo_E) (ow : Nat → Nat) (G : wo_W) (x ca : Nat) (cad : Nat → Nat) (raf : Nat → Nat → Nat) (og so sh sj wl : Nat) (cn : Nat → cnT) (rs : List roT) (tg : Nat) (ss : List sdT) (cap : Nat) (wt : List jobT) (sn : Nat → Option jobT) (now : Nat) : Prop :=
  ec_o E ow G x ca og so sh sj wl now ∧ ca_at G ow ca cad ∧ (∀ e, e < 3 → cn_a E ow G e (cad e) (raf e) (cn e)) ∧ og_at E ow G og rs tg ∧ so_at E ow G so ss cap ∧ sh_st E ow G sh ∧ sj_at E ow G sj raf sn ∧ wl_at E ow G wl raf wt
def Rec : Nat → Prop := fun r => r ≠ 0 ∧ r ≠ 9
def js_b (wt : List jobT) (sn : Nat → Option jobT) : Prop := (∀ j ∈ wt, 200 ≤ rid j ∧ rid j < 300) ∧ ∀ u j, u < 2 → sn u = some j → 200 ≤ rid j ∧ rid j < 300
theorem js_ok.b {wt : List jobT} {sn : Nat → Option jobT} (h : js_ok wt sn) : js_b wt sn := ⟨fun j hj => rid_b (h.2.2.2.1 j hj), fun u j hu hj => rid_b (h.2.2.2.2 u j hu hj)⟩
section SP
variable {E : wo_E} {mc ms : Nat} {G G1 : wo_W} {x ca og so sh sj wl now c o cap tg t : Nat} {ow ow1 : Nat → Nat} {R : Nat → Prop} {raf : Nat → Nat → Nat} {cad : Nat → Nat} {cn : Nat → cnT} {rs : List roT} {ss : List sdT} {wt : List jobT} {sn : Nat → Option jobT}
theorem cn_lo {v : cnT} {ra : Nat → Nat} (h : cn_a E ow G c o ra v) (hc : c < 3) (y : xt E R ow G ow1 G1) (hR : ∀ r, R r → r ≠ 0 ∧ (r < 100 ∨ 200 ≤ r ∧ r < 1000)) : cn_a E ow1 G1 c o ra v :=
  h.xt y (fun z => (hR 0 z).1 rfl) (fun k hk z => by have := hR _ z; unfold Bc at this; omega) (fun t ht z => by have := hR _ z; unfold Qc at this; omega)
theorem sj_lo (h : sj_at E ow G sj raf sn) (hb : js_b wt sn) (y : xt E R ow G ow1 G1) (hR : ∀ r, R r → r ≠ 0 ∧ r ≠ 70 ∧ r ≠ 71 ∧ (r < 200 ∨ 300 ≤ r)) : sj_at E ow1 G1 sj raf sn :=
  h.xt y (fun z => (hR 0 z).1 rfl) (fun z => (hR _ z).2.2.1 rfl) (fun u j hu hj z => by have := hR _ z; have := hb.2 u j hu hj; omega)
theorem wl_lo (h : wl_at E ow G wl raf wt) (cc : cx E ow G) (hb : js_b wt sn) (y : xt E R ow G ow1 G1) (hR : ∀ r, R r → r ≠ 0 ∧ r ≠ 70 ∧ r ≠ 71 ∧ (r < 200 ∨ 300 ≤ r)) : wl_at E ow1 G1 wl raf wt :=
  h.xt cc y (fun z => (hR 0 z).1 rfl) (fun z => (hR _ z).2.1 rfl) (fun j hj z => by have := hR _ z; have := hb.1 j hj; omega)
theorem ec_sh (h : ec_k E ow G x ca cad raf og so sh sj wl cn rs tg ss cap wt sn now) (cc : cx E ow G) (hb : js_b wt sn) (y : xt E R6 ow G ow1 G1) (hs : sh_st E ow1 G1 sh) : ec_k E ow1 G1 x ca cad raf og so sh sj wl cn rs tg ss cap wt sn now := by
  obtain ⟨k1, k2, k3, k4, k5, k6, k7, k8⟩ := h
  have hR : ∀ r, R6 r → r ≠ 0 ∧ (r < 100 ∨ 200 ≤ r ∧ r < 1000) := fun r z => by rw [show r = 6 from z]; omega
  have hR2 : ∀ r, R6 r → r ≠ 0 ∧ r ≠ 70 ∧ r ≠ 71 ∧ (r < 200 ∨ 300 ≤ r) := fun r z => by rw [show r = 6 from z]; omega
  exact ⟨k1.xt y (by decide), k2.xt y (by decide), fun e he => cn_lo (k3 e he) he y hR, k4.xt cc y (by decide) (by decide) (by decide), k5.xt cc y (by decide) (by decide) (by decide), hs, sj_lo k7 hb y hR2, wl_lo k8 cc hb y hR2⟩
theorem ec_so {ss' : List sdT} (h : ec_k E ow G x ca cad raf og so sh sj wl cn rs tg ss cap wt sn now) (cc : cx E ow G) (hb : js_b wt sn) (y : xt E R5 ow G ow1 G1) (hs : so_at E ow1 G1 so ss' cap) : ec_k E ow1 G1 x ca cad raf og so sh sj wl cn rs tg ss' cap wt sn now := by
  obtain ⟨k1, k2, k3, k4, k5, k6, k7, k8⟩ := h
  have hR : ∀ r, R5 r → r ≠ 0 ∧ (r < 100 ∨ 200 ≤ r ∧ r < 1000) := fun r z => by rcases z with z | z <;> omega
  have hR2 : ∀ r, R5 r → r ≠ 0 ∧ r ≠ 70 ∧ r ≠ 71 ∧ (r < 200 ∨ 300 ≤ r) := fun r z => by rcases z with z | z <;> omega
  exact ⟨k1.xt y (by decide), k2.xt y (by decide), fun e he => cn_lo (k3 e he) he y hR, k4.xt cc y (by decide) (by decide) (by decide), hs, k6.xt cc y (by decide) (by decide), sj_lo k7 hb y hR2, wl_lo k8 cc hb y hR2⟩
theorem ec_tr {ss' : List sdT} (h : ec_k E ow G x ca cad raf og so sh sj wl cn rs tg ss cap wt sn now) (cc : cx E ow G) (hb : js_b wt sn) (y : xt E (fun r => r = 5 ∨ r = 50 ∨ r = 6) ow G ow1 G1) (h6 : sh_st E ow1 G1 sh) (hs : so_at E ow1 G1 so ss' cap) : ec_k E ow1 G1 x ca cad raf og so sh sj wl cn rs tg ss' cap wt sn now := by
  obtain ⟨k1, k2, k3, k4, k5, k6, k7, k8⟩ := h
  have hR : ∀ r, (fun r => r = 5 ∨ r = 50 ∨ r = 6) r → r ≠ 0 ∧ (r < 100 ∨ 200 ≤ r ∧ r < 1000) := fun r z => by rcases z with z | z | z <;> omega
  have hR2 : ∀ r, (fun r => r = 5 ∨ r = 50 ∨ r = 6) r → r ≠ 0 ∧ r ≠ 70 ∧ r ≠ 71 ∧ (r < 200 ∨ 300 ≤ r) := fun r z => by rcases z with z | z | z <;> omega
  exact ⟨k1.xt y (by decide), k2.xt y (by decide), fun e he => cn_lo (k3 e he) he y hR, k4.xt cc y (by decide) (by decide) (by decide), hs, h6, sj_lo k7 hb y hR2, wl_lo k8 cc hb y hR2⟩
theorem ec_an {q : Nat} {u : List Nat} (h : ec_k E ow G x ca cad raf og so sh sj wl cn rs tg ss cap wt sn now) (cc : cx E ow G) (hb : js_b wt sn) (hc : c < 3) (ht : t < c_nh (cn c)) (hS : tx_i (im ow) G q u) : wo_ty G (raf c t) = 9 ∧ en_bs E ≤ raf c t ∧ xt E Rec ow G ow (wo_sr G 523 (raf c t) (some q)) ∧ cx E ow (wo_sr G 523 (raf c t) (some q)) ∧ ec_k E ow (wo_sr G 523 (raf c t) (some q)) x ca cad raf og so sh sj wl (fun e => if e = c then anc (cn e) t u else cn e) rs tg ss cap wt sn now := by
  obtain ⟨k1, k2, k3, k4, k5, k6, k7, k8⟩ := h
  have hn := (k3 c hc).nh.1
  obtain ⟨a1, a2, y, a3, _⟩ := cn_set cc hc (k3 c hc) ht hS
  have n0 : ¬ (fun r => r = Qc c + t) 0 := by unfold Qc; omega
  have hR2 : ∀ r, (fun r => r = Qc c + t) r → r ≠ 0 ∧ r ≠ 70 ∧ r ≠ 71 ∧ (r < 200 ∨ 300 ≤ r) := fun r z => by have z2 : r = Qc c + t := z; unfold Qc at z2; omega
  refine ⟨a1, a2, y.mn (fun r z => by have z2 : r = Qc c + t := z; unfold Qc at z2; constructor <;> omega), cc.xt y n0, k1.xt y (by unfold Qc; omega), k2.xt y (by unfold Qc; omega), fun e he => ?_, k4.xt cc y n0 (by unfold Qc; omega) (by unfold Qc; omega), k5.xt cc y n0 (by unfold Qc; omega) (by unfold Qc; omega), k6.xt cc y n0 (by unfold Qc; omega), sj_lo k7 hb y hR2, wl_lo k8 cc hb y hR2⟩
  by_cases z : e = c
  · rw [z]; simp only [if_pos]; exact a3
  · simp only [if_neg z]
    exact (k3 e he).xt y n0 (fun k hk => by unfold Bc Qc; omega) (fun s hs => by unfold Qc; omega)
theorem ec_sw (h : ec_k E ow G x ca cad raf og so sh sj wl cn rs tg ss cap wt sn now) (cc : cx E ow G) {wt' : List jobT} {sn' : Nat → Option jobT} (y : xt E Rsw ow G ow1 G1) (h1 : sj_at E ow1 G1 sj raf sn') (h2 : wl_at E ow1 G1 wl raf wt') : ec_k E ow1 G1 x ca cad raf og so sh sj wl cn rs tg ss cap wt' sn' now := by
  obtain ⟨k1, k2, k3, k4, k5, k6, k7, k8⟩ := h
  have hR : ∀ r, Rsw r → r ≠ 0 ∧ (r < 100 ∨ 200 ≤ r ∧ r < 1000) := fun r z => by rcases z with z | z | z <;> omega
  have n : ∀ r, r < 70 → ¬ Rsw r := fun r hr z => by rcases z with z | z | z <;> omega
  exact ⟨k1.xt y (n 7 (by decide)), k2.xt y (n 7 (by decide)), fun e he => cn_lo (k3 e he) he y hR, k4.xt cc y (n 0 (by decide)) (n 4 (by decide)) (n 40 (by decide)), k5.xt cc y (n 0 (by decide)) (n 5 (by decide)) (n 50 (by decide)), k6.xt cc y (n 0 (by decide)) (n 6 (by decide)), h1, h2⟩
theorem Rsw_e : ∀ r, Rsw r → Rec r := fun r z => by rcases z with z | z | z <;> constructor <;> omega
theorem R6_e : ∀ r, R6 r → Rec r := fun r z => by rw [show r = 6 from z]; exact ⟨by decide, by decide⟩
theorem R5_e : ∀ r, R5 r → Rec r := fun r z => by rcases z with z | z <;> constructor <;> omega
theorem ec_dv (h : ec_k E ow G x ca cad raf og so sh sj wl cn rs tg ss cap wt sn now) (cc : cx E ow G) (hb : js_b wt sn) {cn' : Nat → cnT} (y : xt E (fun r => 1000 ≤ r) ow G ow1 G1) (h1 : ∀ e, e < 3 → cn_a E ow1 G1 e (cad e) (raf e) (cn' e)) : ec_k E ow1 G1 x ca cad raf og so sh sj wl cn' rs tg ss cap wt sn now := by
  obtain ⟨k1, k2, k3, k4, k5, k6, k7, k8⟩ := h
  have hR2 : ∀ r, (fun r => 1000 ≤ r) r → r ≠ 0 ∧ r ≠ 70 ∧ r ≠ 71 ∧ (r < 200 ∨ 300 ≤ r) := fun r z => by have : 1000 ≤ r := z; omega
  exact ⟨k1.xt y (by decide), k2.xt y (by decide), h1, k4.xt cc y (by decide) (by decide) (by decide), k5.xt cc y (by decide) (by decide) (by decide), k6.xt cc y (by decide) (by decide), sj_lo k7 hb y hR2, wl_lo k8 cc hb y hR2⟩
theorem sp_jbInit {Post : wo_W → Prop} {q p cp J : Nat} (cc : cx E ow G) (hq : wo_ty G q = 0) (hqb : en_bs E ≤ q) (hp : ∀ ow' G', xt E (fun _ => False) ow G ow' G' → jb_at E (im ow') G' q p cp 0 0 none 0 false → ow' q = J → Post G') : pq_Jb_init E mc ms Post (wo_new G q 11) q (some p) (nI cp) := by
  unfold pq_Jb_init pq_Jb_init_0
  refine ⟨by simp [wo_ty, wo_new, wo_u1], hqb, fun G1 e1 => ⟨hqb, fun G2 e2 => ?_⟩⟩
  have f : fr_W (fun x => x = q) G G2 := by
    rw [e2, e1]
    exact fr_tr (fr_tr (fr_new hq) (fr_sr rfl)) (fr_si rfl)
  have f0 : fr_W fr_0 G G2 := fr_mn (fun a ha e => ha (by rw [e]; exact hq)) f
  have ty : wo_ty G2 q = 11 := by rw [e2, e1]; simp [wo_ty, wo_new, wo_si, wo_sr, wo_u1]
  have y : xt E (fun _ => False) ow G (ow_ex ow G J [q]) G2 := xt.ex cc.2 (fun z hz _ => by rw [List.mem_singleton.mp hz]; exact ⟨hqb, by rw [ty]; decide⟩) f0
  refine hp _ G2 y ⟨ty, hqb, ?_, ?_, ?_, ?_, ?_, ?_, ?_⟩ (ow_new hq (List.mem_singleton.mpr rfl))
  · rw [e2, e1]; simp [wo_gr, wo_sr, wo_si, wo_u2]
  · rw [e2]; simp [wo_gi, wo_si, wo_u2]
  · rw [e2, e1]; simp [wo_gi, wo_sr, wo_si, wo_u2, wo_new, wo_uc]; rfl
  · rw [e2, e1]; simp [wo_gi, wo_sr, wo_si, wo_u2, wo_new, wo_uc]; rfl
  · have : wo_gr G2 644 q = none := by rw [e2, e1]; simp [wo_gr, wo_sr, wo_si, wo_u2, wo_new, wo_uc]
    rw [this]
    trivial
  · rw [e2, e1]; simp [wo_gi, wo_sr, wo_si, wo_u2, wo_new, wo_uc]; rfl
  · rw [e2, e1]; simp [wo_gi, wo_sr, wo_si, wo_u2, wo_new, wo_uc]; rfl
theorem ec_f (h : ec_k E ow G x ca cad raf og so sh sj wl cn rs tg ss cap wt sn now) (cc : cx E ow G) (hb : js_b wt sn) (y : xt E (fun _ => False) ow G ow1 G1) : ec_k E ow1 G1 x ca cad raf og so sh sj wl cn rs tg ss cap wt sn now := by
  obtain ⟨k1, k2, k3, k4, k5, k6, k7, k8⟩ := h
  exact ⟨k1.xt y (fun z => z), k2.xt y (fun z => z), fun e he => cn_lo (k3 e he) he y (fun r z => False.elim z), k4.xt cc y (fun z => z) (fun z => z) (fun z => z), k5.xt cc y (fun z => z) (fun z => z) (fun z => z), k6.xt cc y (fun z => z) (fun z => z), sj_lo k7 hb y (fun r z => False.elim z), wl_lo k8 cc hb y (fun r z => False.elim z)⟩
end SP
def hf_of (q : rqT) (ss : List sdT) : Option Nat := if q.1 = some 0 ∨ q.1 = some 1 then fi_of q.2.1 (q.2.2.2 5) ss else none
def hu_of (q : rqT) (ss : List sdT) (now : Nat) : Option Nat := match hf_of q ss with
  | none => none
  | some i => if ma_of (ss.getD i sd_0) q.2.2.2 now = true then some i else none
def hp_of (q : rqT) (ss : List sdT) : Nat := match hf_of q ss with
  | none => 0
  | some i => (ss.getD i sd_0).1.2.2.1
def ha_of (q : rqT) (d : sdT) (now : Nat) : List Nat := sl_of q.1 q.2.2.2 d.1.1 d.1.2.2.1 d.1.2.1 d.1.2.2.2.1 d.1.2.2.2.2 (some (now - d.2.2.2.1))
section SP
variable {E : wo_E} {mc ms : Nat} {G G1 : wo_W} {x ca og so sh sj wl now c o cap tg t : Nat} {ow ow1 : Nat → Nat} {R : Nat → Prop} {raf : Nat → Nat → Nat} {cad : Nat → Nat} {cn : Nat → cnT} {rs : List roT} {ss : List sdT} {wt : List jobT} {sn : Nat → Option jobT}
theorem sp_handleAtCache {Post : wo_W → Prop} (cc : cx E ow G) (h : ec_k E ow G x ca cad raf og so sh sj wl cn rs tg ss cap wt sn now) (hok : js_ok wt sn) (hc : c < 2) (ht : t < c_nh (cn c)) (ht2 : t < 20) (han : c_an (cn c) t = none)
    (hnew : js_ok (wt ++ [(c, t, hp_of (c_rv (cn c) t) ss, 0, 0, none, 0, false)]) sn) (hlen : wt.length ≤ 8) (hsl : ss.length ≤ 20) (hnow : now < 2 ^ 30) (htm : ∀ i, i < ss.length → (ss.getD i sd_0).2.2.2.1 ≤ now) (h1 : 70 ≤ mc) (h2 : 10100 ≤ ms)
    (hp1 : ∀ i, hu_of (c_rv (cn c) t) ss now = some i → ∀ ow' G', xt E Rec ow G ow' G' → cx E ow' G' → ec_k E ow' G' x ca cad raf og so sh sj wl (fun e => if e = c then anc (cn e) t (ha_of (c_rv (cn c) t) (ss.getD i sd_0) now) else cn e) rs tg (us_of i ss) cap wt sn now → Post G')
    (hp2 : hu_of (c_rv (cn c) t) ss now = none → ∀ ow' G', xt E Rec ow G ow' G' → cx E ow' G' → ec_k E ow' G' x ca cad raf og so sh sj wl cn rs tg ss cap (sw_of now (wt ++ [(c, t, hp_of (c_rv (cn c) t) ss, 0, 0, none, 0, false)], sn)).1 (sw_of now (wt ++ [(c, t, hp_of (c_rv (cn c) t) ss, 0, 0, none, 0, false)], sn)).2 now → Post G') : pq_EC_handleAtCache E mc ms Post G x (some (raf c t)) := by
  have hb := hok.b
  have h' := h
  obtain ⟨k1, k2, k3, k4, k5, k6, k7, k8⟩ := h'
  have k1' := k1
  obtain ⟨o1, o2, o3, o4, o5, o6, o7, o8, o9, o10⟩ := k1'
  obtain ⟨xr, ar, au, n1, n2, n3⟩ := k3 c (by omega)
  obtain ⟨q0, q2, q3, q4, q5⟩ := n2 t ht
  have q1 := q5 han
  have Qn : Qc c + t ≠ 5 ∧ Qc c + t ≠ 50 ∧ Qc c + t ≠ 6 ∧ Qc c + t ≠ 70 ∧ Qc c + t ≠ 7 := by unfold Qc; omega
  obtain ⟨li, lv, os, so1⟩ := k5
  -- queueing
  have h67 : ∀ c2 s (y : Option Nat), c2 + 3 ≤ mc → s + 60 ≤ ms → hu_of (c_rv (cn c) t) ss now = none → (y = none → hf_of (c_rv (cn c) t) ss = none) → (∀ a, y = some a → ∃ i, hf_of (c_rv (cn c) t) ss = some i ∧ i < ss.length ∧ a = os.getD i 0) → pq_EC_handleAtCache_67 E mc ms Post G c2 s x (some (raf c t)) y := by
    intro c2 s y hc2 hs2 hu hy0 hy1
    unfold pq_EC_handleAtCache_67
    refine ⟨o1, fun r hr => ⟨by omega, by omega, fun q hq hqb G1 e1 => ?_⟩⟩
    have h91 : ∀ cp, cp = hp_of (c_rv (cn c) t) ss → pq_EC_handleAtCache_91 E mc ms Post G1 (c2 + 1) (s + 7) x r q q (some (raf c t)) (nI cp) := by
      intro cp hcp
      unfold pq_EC_handleAtCache_91
      refine ⟨by rw [e1]; simp [wo_ty, wo_new, wo_u1], 0, 0, by omega, by omega, ?_⟩
      rw [e1]
      refine sp_jbInit (J := 200 + 32 * c + t) cc hq hqb (fun ow2 G2 y2 jb2 w2 => ?_)
      have c2' := cc.xt y2 (fun z => z)
      have e2 := ec_f h cc hb y2
      obtain ⟨wv, wos, l1, l2, l3⟩ := e2.2.2.2.2.2.2.2
      refine ⟨wl, hr.trans o9, l1.1.1, 1, 20, by omega, by omega, ?_⟩
      have qwl : q ≠ wl := fun z => by have := jb2.1; rw [z, l1.1.1] at this; cases this
      have qwv : q ≠ wv := fun z => by have := jb2.1; rw [z, l1.1.2.2.2.2.1] at this; cases this
      refine li_add c2' l1 (by decide) ⟨10, jb2.1, by decide⟩ qwl qwv (by omega) (by omega) (by omega) (fun w ow3 G3 y3 l4 => ?_)
      have c3 := c2'.xt y3 (by decide)
      have hb1 := hnew.b
      have jv : jb_v E ow2 G2 raf q (c, t, cp, 0, 0, none, 0, false) := ⟨jb2, w2⟩
      have rb : ∀ j, j ∈ wt ++ [((c, t, hp_of (c_rv (cn c) t) ss, 0, 0, none, 0, false) : jobT)] → ¬ rid j = 70 := fun j hj => by have := hb1.1 j hj; omega
      have e3 : ec_k E ow3 G3 x ca cad raf og so sh sj wl cn rs tg ss cap (wt ++ [(c, t, hp_of (c_rv (cn c) t) ss, 0, 0, none, 0, false)]) sn now := by
        obtain ⟨m1, m2, m3, m4, m5, m6, m7, m8⟩ := e2
        refine ⟨m1.xt y3 (by decide), m2.xt y3 (by decide), fun e he => cn_lo (m3 e he) he y3 (fun r z => by have : r = 70 := z; omega), m4.xt c2' y3 (by decide) (by decide) (by decide), m5.xt c2' y3 (by decide) (by decide) (by decide), m6.xt c2' y3 (by decide) (by decide), m7.xt y3 (by decide) (by decide) (fun u j hu hj => by have := hb.2 u j hu hj; show ¬ rid j = 70; omega), ⟨w, wos ++ [q], l4, by simp [l2], fun i hi => ?_⟩⟩
        rw [List.length_append] at hi
        have hi2 : i < wt.length + 1 := hi
        rw [app_get, app_get, l2]
        by_cases z : i < wt.length
        · rw [if_pos z, if_pos z]
          have im : wt.getD i jb_0 ∈ wt := by rw [List.getD_eq_getElem?_getD, List.getElem?_eq_getElem z]; exact List.getElem_mem z
          exact (l3 i z).xt y3 (by decide) (rb _ (List.mem_append_left _ im))
        · have z2 : i = wt.length := by omega
          rw [if_neg z, if_neg z, if_pos z2, if_pos z2]
          rw [hcp] at jv
          exact jv.xt y3 (by decide) (rb _ (by simp))
      have y13 : xt E Rec ow G ow3 G3 := (y2.mn (fun _ z => False.elim z)).tr (y3.mn (fun r z => by rw [show r = 70 from z]; exact ⟨by decide, by decide⟩))
      refine ⟨e3.1.1, 0, 0, by omega, by omega, sp_sendWaiting c3 e3.1 e3.2.2.2.2.2.2.1 e3.2.2.2.2.2.2.2 hnew (by simp; omega) (fun G4 y4 s4 w4 => ?_)⟩
      have y4' := y4.mn (RswL_e hnew)
      exact hp2 hu ow3 G4 (y13.tr (y4'.mn Rsw_e)) (c3.xt y4' (by rintro (z | z | z) <;> omega)) (ec_sw e3 c3 y4' s4 w4)
    refine ⟨fun e => h91 0 (by unfold hp_of; rw [hy0 e]), fun a e => ?_⟩
    obtain ⟨i, f1, f2, f3⟩ := hy1 a e
    have sd := so1.2.2.2.2.2.2.2.2.2 i f2
    rw [← f3] at sd
    obtain ⟨d1, d2, ⟨rp, d3, d4⟩, _⟩ := sd
    have aq : a ≠ q := fun z => by rw [z, hq] at d1; cases d1
    have rq : rp ≠ q := fun z => by have := d4.1; rw [z, hq] at this; cases this
    have ea : wo_eq G G1 a := by rw [e1]; exact wo_eq_new aq
    have er : wo_eq G G1 rp := by rw [e1]; exact wo_eq_new rq
    refine ⟨ea.1.trans d1, fun r13 hr13 => ⟨rp, hr13.trans ((ea.2.2.2.2.1 _).trans d3), er.1.trans d4.1, ?_⟩⟩
    rw [er.2.2.1, d4.2.2.2.2.2.1]
    exact h91 _ (by unfold hp_of; rw [f1])
  have h19 : ∀ c2 s (y : Option Nat), c2 + 65 ≤ mc → s + 10090 ≤ ms → (y = match hf_of (c_rv (cn c) t) ss with | none => none | some n => some (os.getD n 0)) → pq_EC_handleAtCache_19 E mc ms Post G c2 s x (some (raf c t)) y := by
    intro c2 s y hc2 hs2 hy
    unfold pq_EC_handleAtCache_19
    refine ⟨fun e => ?_, fun a e => ?_⟩
    · have fn : hf_of (c_rv (cn c) t) ss = none := by
        cases f : hf_of (c_rv (cn c) t) ss with
        | none => rfl
        | some n => rw [f, e] at hy; cases hy
      exact h67 c2 s none (by omega) (by omega) (by unfold hu_of; rw [fn]) (fun _ => fn) (fun a e => (by cases e))
    · cases f : hf_of (c_rv (cn c) t) ss with
      | none => rw [f, e] at hy; cases hy
      | some i =>
        have hi : i < ss.length := by
          unfold hf_of at f
          by_cases z : (c_rv (cn c) t).1 = some 0 ∨ (c_rv (cn c) t).1 = some 1
          · rw [if_pos z] at f; exact fi_lt f
          · rw [if_neg z] at f; cases f
        rw [f, e] at hy
        have ea : a = os.getD i 0 := Option.some.inj hy
        have sd := so1.2.2.2.2.2.2.2.2.2 i hi
        rw [← ea] at sd
        refine ⟨o1, 0, 0, by omega, by omega, sp_mayAnswer o1 o10 hnow sd (htm i hi) q1 ?_⟩
        cases ma : ma_of (ss.getD i sd_0) (c_rv (cn c) t).2.2.2 now with
        | false => exact ⟨fun _ => h67 _ _ (some a) (by omega) (by omega) (by unfold hu_of; rw [f]; simp only [ma]; rfl) (fun e => (by cases e)) (fun b e => ⟨i, f, hi, by cases e; exact ea⟩), fun w => absurd rfl w⟩
        | true =>
          have hu : hu_of (c_rv (cn c) t) ss now = some i := by unfold hu_of; rw [f]; simp only [ma, if_true]
          refine ⟨fun w => absurd w (by decide), fun _ => ⟨o1, fun r8 hr8 => ⟨so, hr8.trans o6, so1.1, 1, 42, by omega, by omega, ?_⟩⟩⟩
          rw [ea]
          refine sp_use cc so1 hsl hi (by omega) (by omega) (fun ow2 G2 so2 y2 => ?_)
          have c2' := cc.xt y2 (by decide)
          have e2 := ec_so h cc hb y2 so2
          have sd2 := sd.xt y2 (by decide)
          have q12 : rq_v (im ow2) G2 (raf c t) (c_rv (cn c) t) := rq_at.xt q1 y2 (by decide) (by rw [q3]; exact fun z => z.elim Qn.1 Qn.2.1)
          have zq : wo_ty G (raf c t) ≠ 0 := by rw [q1.1]; decide
          have wq2 : ow2 (raf c t) = Qc c + t := (y2.w zq).trans q3
          obtain ⟨d1, d2, ⟨rp, d3, d4⟩, d5, d6, d7, d8⟩ := sd2
          have tz2 : wo_ty G2 sh = 4 := by obtain ⟨_, _, _, _, _, hb, _⟩ := e2.2.2.2.2.2.1; exact hb.2.1
          rw [← ea]
          refine ⟨e2.1.1, fun r16 hr16 => ⟨d1, fun r19 hr19 => ⟨sh, hr16.trans e2.1.2.2.2.2.2.2.1, tz2, 60, 10000, by omega, by omega, ?_⟩⟩⟩
          rw [hr19, d3, e2.1.2.2.2.2.2.2.2.2.2, d7, pk_sub (htm i hi)]
          refine xs_select (ag := some (now - (ss.getD i sd_0).2.2.2.1)) c2' e2.2.2.2.2.2.1 d4 q12 (by rw [wq2]; exact Qn.2.2.1) (fun n e => by cases e; omega) (by omega) (by omega) (fun yq ow3 G3 y3 s3 S3 => ?_)
          have c3 := c2'.xt y3 (by decide)
          have e3 := ec_sh e2 c2' hb y3 s3
          obtain ⟨a1, a2, a3, a4, a5⟩ := ec_an (t := t) e3 c3 hb (show c < 3 by omega) ht S3
          refine ⟨raf c t, rfl, a1, a2, fun G4 e4 => ?_⟩
          rw [← e4] at a3 a4 a5
          exact hp1 i hu ow3 G4 (((y2.mn R5_e).tr (y3.mn R6_e)).tr a3) a4 a5
  unfold pq_EC_handleAtCache pq_EC_handleAtCache_0
  refine ⟨raf c t, rfl, q1.1, 0, 0, by omega, by omega, sp_isRead q1 ?_⟩
  by_cases z : (c_rv (cn c) t).1 = some 0 ∨ (c_rv (cn c) t).1 = some 1
  · rw [decide_eq_true z]
    refine ⟨fun w => absurd w (by decide), fun _ => ⟨o1, fun r8 hr8 => ⟨so, hr8.trans o6, so1.1, 0, 0, by omega, by omega, sp_fitting so1 (by omega) q1 (h19 _ _ _ (by omega) (by omega) ?_)⟩⟩⟩
    unfold hf_of
    rw [if_pos z]
    cases fi_of (c_rv (cn c) t).2.1 ((c_rv (cn c) t).2.2.2 5) ss <;> rfl
  · rw [decide_eq_false z]
    refine ⟨fun _ => h19 _ _ _ (by omega) (by omega) ?_, fun w => absurd rfl w⟩
    unfold hf_of
    rw [if_neg z]
end SP
