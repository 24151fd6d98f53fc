section MD
variable {E : wo_E} {mc ms m c s b k cap now tg o : Nat} {G0 G G1 G2 : wo_W} {ow : Nat → Nat} {A : Nat → Nat} {P Q : Nat → Nat → Prop} {raw raw' out : List Nat} {sh sh' : Bool} {nh na : Nat} {an an' : Nat → Option (List Nat)} {rv rv' : Nat → Nat → rqT} {rs : List roT} {ss : List sdT} {wt : List jobT} {sn : Nat → Option jobT} {cn : Nat → cnT} {v w : cnT} {S : hdT}
theorem rvf_c {w' : cnT} (h : ∀ s, c_rv w s = c_rv w' s) : rvf (cup cn c w) = rvf (cup cn c w') := by
  funext e t
  unfold rvf
  by_cases z : e = c
  · subst z; rw [cup_c, cup_c]; exact h t
  · rw [cup_n z, cup_n z]
theorem mo_new (hmo : mo m A G (rvf cn) rs tg ss wt sn cap now k) (ha : aj wt sn (jb_ok k now cn)) (hrv : ∀ s, s < c_nh (cn c) → c_rv w s = c_rv (cn c) s) : mo m A G (rvf (cup cn c w)) rs tg ss wt sn cap now k := by
  refine mo_rv hmo (aj_mn ha (fun j hj => ?_))
  unfold rvf
  by_cases z : j.1 = c
  · have hp1 := hj.1
    unfold jp_ok at hp1
    rw [z] at hp1
    rw [z, cup_c]
    exact hrv _ hp1.2.1
  · rw [cup_n z]
theorem Pdi_f {f i : Nat} (h : Pdi f i) : 945 ≤ f ∧ f ≤ 952 ∨ f = 957 ∨ f = 927 ∧ i = 8 ∨ 929 ≤ f ∧ f ≤ 935 ∧ i = 38 ∨ f = 905 ∨ f = 906 ∨ f = 953 ∨ f = 954 := by
  rcases h with h | h | h
  · rcases h with h | h | h
    · exact Or.inl h
    · exact Or.inr (Or.inl h)
    · exact Or.inr (Or.inr (Or.inl h))
  · exact Or.inr (Or.inr (Or.inr (Or.inl h)))
  · have := FS4 h
    omega
theorem Pdi_C {e f i : Nat} (h : PC e f i) : ¬ Pdi f i := fun z => by
  have h1 := Pdi_f z
  have h2 : 896 ≤ f ∧ f ≤ 904 := by unfold PC at h; omega
  omega
theorem Pdi_S {f i : Nat} (h : PS f i) : ¬ Pdi f i := fun z => by
  have h1 := Pdi_f z
  rcases h with h | h <;> omega
theorem Pdi_J {f i : Nat} (h : PJ f i) : ¬ Pdi f i := fun z => by
  have h1 := Pdi_f z
  rcases h with h | h | h | h | h | h <;> omega
theorem sp_cmDirect {Post : wo_W → Prop} (hc2 : c = 2) (m3 : mf E ow m A PT G0 G) (hcn : ∀ e, e < 3 → e ≠ c → mcn A G e (cn e)) (k3 : mcn A G c (enl (rdc (cn c) b))) (hmo : mo m A G (rvf cn) rs tg ss wt sn cap now k) (hs : sok (cn, rs, tg, ss, wt, sn) cap now k) (hk1 : k + 1 < 4200) (hm : my_of (cn c) = true) (ho1 : (rd_step (c_rd (cn c)) b).1 = 1) (hq : vq_at A G 8 (rq_d (rd_step (c_rd (cn c)) b).2)) (hp : ∀ G', mf E ow m A PT G0 G' → mr E ow m A G' (hd_of c 1 (cup cn c (rdc (cn c) b)) rs tg ss wt sn now) cap now (k + 1) → Post G') : pq_Md_direct E 0 0 (fun G42 => wo_ty G42 m = 15 ∧ ∃ mc44 ms45 : Nat, ((0 + 0) + mc44) ≤ mc ∧ ((0 + 0) + ms45) ≤ ms ∧ pq_Md_finish E mc44 ms45 (fun G46 => Post G46) G42 m (nI c) (nI (c_nh (cn c)))) G m := by
  have hall := hs
  obtain ⟨h1, h2, h3, h4, h5, h6, h7, h8⟩ := hs
  simp only [] at h1 h2 h3 h4 h5 h6
  have hc : c < 3 := by omega
  have hv := (h1 c hc).1
  have hw := nwc_enl (b := b) hv ho1
  obtain ⟨w1, w2, w3, w4⟩ := cok_nwc hv hw hm
  have hdv := w1.2.2.2.2.2.2.1
  have hr := rk_step (b := b) hv.2.1
  have hvk := vk_step (b := b) hv.2.2.1
  have eq := cm_hq (cn := cn) (c := c) (b := b) rfl
  have hmo1 : mo m A G (rvf (cup cn c (enl (rdc (cn c) b)))) rs tg ss wt sn cap now k := mo_new hmo h3 rv_enl
  obtain ⟨⟨L, l1, l2⟩, g957, ⟨K, n, k1, k2, k3'⟩, ⟨W, us, o', q1, q2, q3⟩, g956, g955⟩ := hmo1
  have hmap : L.map (fun x => x.2.1) = (rl L).map (fun r => r.1) := by unfold rl; rw [List.map_map]; rfl
  have wk := wk_ok (cp := 0) (q := hd_q (cup cn c (rdc (cn c) b)) c) (w := hd_w (cup cn c (rdc (cn c) b)) c rs tg) rfl h4 h5 (by rw [eq]; exact hr.2.2.1 (by omega)) (by rw [eq]; exact fun t e => hvk 7 t e)
  obtain ⟨y1, y2, y3, y4, y5, y6, y7, y8⟩ := wk
  refine sp_direct (L := L) (tg := tg) (q := rq_d (rd_step (c_rd (cn c)) b).2) (w := hd_w (cup cn c (rdc (cn c) b)) c rs tg) (by unfold hd_w; rw [eq, l1]) m3.k m3.b l2 (by rw [hmap, l1]; exact h4.2.1) (fun x hx => ?_) hq g957 (by omega) (fun L' G' l1' l2' g' m' tb => ⟨m'.k.1, 0, 0, Nat.zero_le _, Nat.zero_le _, ?_⟩)
  · have : x.2 ∈ rs := by rw [← l1]; exact List.mem_map.mpr ⟨x, hx, rfl⟩
    exact (h4.2.2 _ this).2.1
  · have k3g : mcn A G' c (enl (rdc (cn c) b)) := mk.mf k3 m' (fun f i z => Pdi_C z)
    have hau : (hd_a (cup cn c (rdc (cn c) b)) c rs tg).length ≤ 80 := by
      unfold hd_a
      exact at_80 (T := k) (by omega) y6 y7 y4
    have tb : tb_at m A G' (hd_a (cup cn c (rdc (cn c) b)) c rs tg) := by
      unfold hd_a
      rw [eq]
      exact tb
    refine sp_mfinish hc m'.k m'.b tb k3g hau w4 w3 w2 hdv.2 hdv.1 (fun G'' m'' c'' => ?_)
    have mm := (m'.mn (Q := PT) (fun _ _ _ => trivial)).tr (m''.mn (fun _ _ _ => trivial))
    refine hp G'' (m3.tr mm) ?_
    unfold hd_of
    rw [if_pos rfl, if_pos hc2]
    simp only [cup_c, cup_cup]
    refine mr_of m'' (fun e he => ?_) ⟨⟨L', l1', l2'.mf m'' (fun f i z y => by have := PF_f y; unfold PR at z; omega)⟩, ?_, ⟨K, n, k1, (k2.mf m' (fun f i z => Pdi_S z)).mf m'' (fun f i z y => (mo_f (i := i) (by have := PF_f y; omega)).2.1 z), by omega⟩, ⟨W, us, o', q1, ?_, by omega⟩, ?_, ?_⟩
    · by_cases z : e = c
      · subst z; rw [cup_c]; exact c''
      · rw [cup_n z]
        exact mk.mf (mk.mf (hcn e he z) m' (fun f i y => Pdi_C y)) m'' (fun f i y q => PC_ne z y (PF_C q))
    · rw [m''.gi (fun i z => absurd (PF_f z).2 (by decide))]; exact g'
    · have er : rvf (cup cn c (dvc (anc (enl (rdc (cn c) b)) (c_nh (rdc (cn c) b)) (hd_a (cup cn c (rdc (cn c) b)) c rs tg)))) = rvf (cup cn c (enl (rdc (cn c) b))) := rvf_c (fun s => rfl)
      rw [er]
      exact mjs_f (mjs_f q2 m' (fun f i z => Pdi_J z)) m'' (fun f i z y => (mo_f (i := i) (by have := PF_f y; omega)).2.2.1 z)
    · rw [m''.gi (fun i z => absurd (PF_f z).2 (by decide)), m'.gi (fun i z => by have := Pdi_f z; omega)]; exact g956
    · rw [m''.gi (fun i z => absurd (PF_f z).2 (by decide)), m'.gi (fun i z => by have := Pdi_f z; omega)]; exact g955
theorem sp_cmPlain {Post : wo_W → Prop} (hc : c < 3) (m3 : mf E ow m A PT G0 G) (hcn : ∀ e, e < 3 → e ≠ c → mcn A G e (cn e)) (k3 : mcn A G c (enl (rdc (cn c) b))) (hmo : mo m A G (rvf cn) rs tg ss wt sn cap now k) (hs : sok (cn, rs, tg, ss, wt, sn) cap now k) (hm : my_of (cn c) = true) (ho : o = (rd_step (c_rd (cn c)) b).1) (ho1 : o ≠ 1) (hp : ∀ G', mf E ow m A PT G0 G' → mr E ow m A G' (hd_of c o (cup cn c (rdc (cn c) b)) rs tg ss wt sn now) cap now (k + 1) → Post G') : pq_Md_plain E 0 0 (fun v50 G49 => wo_ty G49 m = 15 ∧ ∃ mc52 ms53 : Nat, ((0 + 0) + mc52) ≤ mc ∧ ((0 + 0) + ms53) ≤ ms ∧ pq_Md_finish E mc52 ms53 (fun G54 => wo_ty G54 m = 15 ∧ ∀ r56 : Option Nat, r56 = wo_gr G54 898 m → ∃ a58 : Nat, r56 = some a58 ∧ wo_ty G54 a58 = 72 ∧ vp_in (nI c) (wo_len G54 a58) ∧ en_bs E ≤ a58 ∧ ∀ G62 : wo_W, G62 = wo_sei G54 a58 c (vp_nar .boolean (1 : Int32)) → Post G62) G49 m (nI c) (nI (c_nh (cn c)))) G m (nI o) := by
  obtain ⟨h1, h2, h3, h4, h5, h6, h7, h8⟩ := hs
  simp only [] at h1 h2 h3 h4 h5 h6
  have hv := (h1 c hc).1
  have hw : nwc (cn c) (enr (rdc (cn c) b)) := nwc_enr
  obtain ⟨w1, w2, w3, w4⟩ := cok_nwc hv hw hm
  have hdv := w1.2.2.2.2.2.2.1
  have hr := (rk_step (b := b) hv.2.1).1
  have vc : vp_in (nI c) 3 := vp_in_nI hc (by decide)
  have cl : (nI c).toNatClampNeg = c := nI_clamp (by omega)
  have hau : (ba_of o 0).length ≤ 80 := ba_80 (by omega) (by decide)
  refine sp_plain (by omega) m3.k m3.b (fun G1 e1 t1 => ?_)
  have m1 : mf E ow m A (fun f _ => FT f) G G1 := e1.mf (fun f i z => z)
  refine ⟨m1.k.1, 0, 0, Nat.zero_le _, Nat.zero_le _, ?_⟩
  have k3g : mcn A G1 c (enl (rdc (cn c) b)) := mk.mf k3 m1 (fun f i z y => by have y : FT f := y; have h2 : 896 ≤ f ∧ f ≤ 904 := (by unfold PC at z; omega); unfold FT at y; omega)
  refine sp_mfinish hc m1.k m1.b t1 k3g hau w4 w3 w2 hdv.2 hdv.1 (fun G2 m2 c2 => ⟨m2.k.1, m2.k.wr (f := 898) (k := 72) (n := 3) (by decide) vc (fun G3 e3 => ?_)⟩)
  have m3' : mf E ow m A (fun f i => f = 898 ∧ i = c) G2 G3 := by rw [e3]; exact mf_sei m2.k m2.b (f := 898) (k := 72) (n := 3) (by decide) ⟨rfl, rfl⟩
  have c3 : mcn A G3 c (dvc (anc (enr (rdc (cn c) b)) (c_nh (cn c)) (ba_of o 0))) := mk_s c2 m3' (fun f i z => z.1) (by rw [e3, sei_at, if_pos rfl]; exact (by decide : vp_nar .boolean 1 = bo_I true))
  have mm := ((m1.mn (Q := PT) (fun _ _ _ => trivial)).tr (m2.mn (fun _ _ _ => trivial))).tr (m3'.mn (fun _ _ _ => trivial))
  refine hp G3 (m3.tr mm) ?_
  unfold hd_of
  rw [if_neg ho1]
  simp only [cup_c, cup_cup]
  refine mr_of m3' (fun e he => ?_) (mo_up (mo_mf (mo_mf (mo_mf ?_ m1 (fun f i z => ?_)) m2 (fun f i z => mo_f (by have := PF_f z; omega))) m3' (fun f i z => mo_f (by omega))) (Nat.le_succ k))
  · by_cases z : e = c
    · subst z; rw [cup_c]; exact c3
    · rw [cup_n z]
      refine mk.mf (mk.mf (mk.mf (hcn e he z) m1 (fun f i y q => ?_)) m2 (fun f i y q => PC_ne z y (PF_C q))) m3' (fun f i y q => ?_)
      · have q : FT f := q
        have h2 : 896 ≤ f ∧ f ≤ 904 := by unfold PC at y; omega
        unfold FT at q; omega
      · unfold PC at y; omega
  · exact mo_new hmo h3 (fun s _ => rfl)
  · have z : FT f := z
    exact mo_f (by unfold FT at z; omega)
end MD
