section MD
variable {E : wo_E} {mc ms m c s b k cap now tg o : Nat} {G0 G G1 G2 : wo_W} {ow : Nat → Nat} {A : Nat → Nat} {P Q : Nat → Nat → Prop} {raw raw' out : List Nat} {sh sh' : Bool} {nh na : Nat} {an an' : Nat → Option (List Nat)} {rv rv' : Nat → Nat → rqT} {rs : List roT} {ss : List sdT} {wt : List jobT} {sn : Nat → Option jobT} {cn : Nat → cnT} {v w : cnT} {S : hdT}
theorem f95 {f : Nat} (h : f = 905 ∨ f = 906 ∨ f = 953 ∨ f = 954) {i : Nat} : ¬ PR f ∧ ¬ PS f i ∧ ¬ PJ f i ∧ f ≠ 955 ∧ f ≠ 956 ∧ f ≠ 957 := by
  refine ⟨?_, ?_, ?_, by omega, by omega, by omega⟩
  · unfold PR; omega
  · intro z
    rcases z with z | z <;> omega
  · intro z
    rcases z with z | z | z | z | z | z <;> omega
theorem FS4 {f : Nat} (h : FS f) : f = 905 ∨ f = 906 ∨ f = 953 ∨ f = 954 := by
  unfold FS FT FP at h
  omega
theorem PF_f {f i : Nat} (h : PF c f i) : 899 ≤ f ∧ f ≤ 904 := by
  unfold PF at h
  omega
theorem mo_f {f i : Nat} (h : 896 ≤ f ∧ f ≤ 906) : ¬ PR f ∧ ¬ PS f i ∧ ¬ PJ f i ∧ f ≠ 955 ∧ f ≠ 956 ∧ f ≠ 957 := by
  refine ⟨?_, ?_, ?_, by omega, by omega, by omega⟩
  · unfold PR; omega
  · intro z
    rcases z with z | z <;> omega
  · intro z
    rcases z with z | z | z | z | z | z <;> omega
theorem cm_hq (hb : b = b) : hd_q (cup cn c (rdc (cn c) b)) c = rq_d (rd_step (c_rd (cn c)) b).2 := by
  unfold hd_q
  rw [cup_c]; rfl
theorem sp_cmHandle {Post : wo_W → Prop} (hc2 : c < 2) (m3 : mf E ow m A PT G0 G) (hcn : ∀ e, e < 3 → e ≠ c → mcn A G e (cn e)) (k3 : mcn A G c (enl (rdc (cn c) b))) (hmo : mo m A G (rvf cn) rs tg ss wt sn cap now k) (hs : sok (cn, rs, tg, ss, wt, sn) cap now k) (hk1 : k + 1 < 4200) (hm : my_of (cn c) = true) (ho1 : (rd_step (c_rd (cn c)) b).1 = 1) (hq : vq_at A G 8 (rq_d (rd_step (c_rd (cn c)) b).2)) (hp : ∀ G', mf E ow m A PT G0 G' → mr E ow m A G' (hd_of c 1 (cup cn c (rdc (cn c) b)) rs tg ss wt sn now) cap now (k + 1) → Post G') : pq_Md_handle E mc ms Post G m (nI c) (nI (c_nh (cn c))) := by
  have hall := hs
  obtain ⟨h1, h2, h3, h4, h5, h6, h7, h8⟩ := hs
  simp only [] at h1 h2 h3 h4 h5 h6
  have hv := (h1 c (by omega)).1
  have hw := nwc_enl (b := b) hv ho1
  obtain ⟨w1, w2, w3, w4⟩ := cok_nwc hv hw hm
  have hmb := my_b hm
  have hdv := w1.2.2.2.2.2.2.1
  -- the new request's place among the jobs' requests
  have hmo1 : mo m A G (rvf (cup cn c (enl (rdc (cn c) b)))) rs tg ss wt sn cap now k := by
    refine mo_rv hmo (aj_mn h3 (fun j hj => ?_))
    unfold rvf
    by_cases z : j.1 = c
    · have hp1 := hj.1
      unfold jp_ok at hp1
      rw [z] at hp1
      rw [z, cup_c]
      exact rv_enl _ hp1.2.1
    · rw [cup_n z]
  obtain ⟨⟨L, l1, l2⟩, g957, ⟨K, n, k1, k2, k3'⟩, ⟨W, us, o', q1, q2, q3⟩, g956, g955⟩ := hmo1
  have so2 : so_ok k cap now (K.map (fun x => x.2.2)) := by rw [k1]; exact h6
  have mem : ∀ x ∈ K, x.2.2 ∈ ss := fun x hx => by rw [← k1]; exact List.mem_map.mpr ⟨x, hx, rfl⟩
  have al7 : (al wt sn).length < 8 := al_7 h2 (aj_mn h3 (fun j hj => hj.1)) (sok_4 hall) hc2 hmb.2.2.1 hv.2.2.2.2.2.1.1
  have hd_e : hd_of c 1 (cup cn c (rdc (cn c) b)) rs tg ss wt sn now = hd_m c (cup cn c (rdc (cn c) b)) rs tg ss wt sn now (hu_of (rq_d (rd_step (c_rd (cn c)) b).2) ss now) := by
    unfold hd_of
    rw [if_pos rfl, if_neg (by omega), cm_hq rfl]
  refine sp_mhandle (v := enl (rdc (cn c) b)) (q := rq_d (rd_step (c_rd (cn c)) b).2) hc2 m3.k m3.b k3 hmb.2.1 w4 w3 w2 hdv.2 hdv.1 hq k2 q2 ?_ g956 (by omega) (fun x hx => (h6.2.1 _ (mem x hx)).2.1) (so_un so2) (fun x hx => (h6.2.1 _ (mem x hx)).1.2.1) (by omega) (by omega) (mjs_free q2 q1 al7) ?_ ?_ ?_
  · unfold rvf
    rw [cup_c]
    show (if c_nh (cn c) = c_nh (cn c) then rq_d (rd_step (c_rd (cn c)) b).2 else _) = _
    rw [if_pos rfl]
  · intro i eu
    rw [k1] at eu ⊢
    exact ha_80 (T := k) (by omega) h8 (h6.2.1 _ (hu_m eu).2).1
  · intro i eu G' K' m' c' s' ek
    rw [k1] at eu c' ek
    refine hp G' (m3.tr (m'.mn (fun _ _ _ => trivial))) ?_
    rw [hd_e, eu]
    unfold hd_m
    simp only [cup_c, cup_cup, cm_hq rfl]
    refine mr_of m' (fun e he => ?_) ⟨⟨L, l1, l2.mf m' (fun f i z => Pha_R z)⟩, ?_, ⟨K', n + 1, ek, s', by omega⟩, ⟨W, us, o', q1, ?_, by omega⟩, ?_, ?_⟩
    · by_cases z : e = c
      · subst z; rw [cup_c]; exact c'
      · rw [cup_n z]; exact mk.mf (hcn e he z) m' (fun f i y => Pha_C z y)
    · rw [m'.gi (fun i z => by have z : PF c 957 i ∨ FS 957 ∨ 957 = 943 ∨ 957 = 944 := z; rcases z with z | z | z; exact absurd (PF_f z).2 (by decide); exact absurd (FS4 z) (by decide); exact absurd z (by decide))]; exact g957
    · have e : rvf (cup cn c (dvc (anc (enl (rdc (cn c) b)) (c_nh (rdc (cn c) b)) (ha_of (rq_d (rd_step (c_rd (cn c)) b).2) (ss.getD i sd_0) now)))) = rvf (cup cn c (enl (rdc (cn c) b))) := by
        funext e t
        unfold rvf
        by_cases z : e = c
        · subst z; rw [cup_c, cup_c]; rfl
        · rw [cup_n z, cup_n z]
      rw [e]
      exact mjs_f q2 m' (fun f i z => Pha_J z)
    · rw [m'.gi (fun i z => by have z : PF c 956 i ∨ FS 956 ∨ 956 = 943 ∨ 956 = 944 := z; rcases z with z | z | z; exact absurd (PF_f z).2 (by decide); exact absurd (FS4 z) (by decide); exact absurd z (by decide))]; exact g956
    · rw [m'.gi (fun i z => by have z : PF c 955 i ∨ FS 955 ∨ 955 = 943 ∨ 955 = 944 := z; rcases z with z | z | z; exact absurd (PF_f z).2 (by decide); exact absurd (FS4 z) (by decide); exact absurd z (by decide))]; exact g955
  · intro eu G' W' us' m' j' ew
    rw [k1] at eu ew
    refine hp G' (m3.tr (m'.mn (fun _ _ _ => trivial))) ?_
    rw [hd_e, eu]
    unfold hd_m
    simp only [cup_c, cup_cup]
    rw [dvc_rest w1.2.2.2.2.2.2.2]
    have hj0 : hd_j (cup cn c (rdc (cn c) b)) c ss = (c, c_nh (cn c), hp_of (rq_d (rd_step (c_rd (cn c)) b).2) ss, 0, 0, none, 0, false) := by
      unfold hd_j
      rw [cm_hq rfl, cup_c]; rfl
    rw [hj0]
    have e1 : (wq (W, us)).1 = wt := congrArg Prod.fst q1
    have e2 : (wq (W, us)).2 = sn := congrArg Prod.snd q1
    rw [e1, e2] at ew
    have PJf : ∀ f i, PJ f i → 907 ≤ f ∧ f ≤ 935 := fun f i z => by
      rcases z with z | z | z | z | z | z <;> omega
    refine mr_of m' (fun e he => ?_) ⟨⟨L, l1, l2.mf m' (fun f i z y => by have := PJf f i y; unfold PR at z; omega)⟩, ?_, ⟨K, n, k1, k2.mf m' (fun f i z y => ?_), by omega⟩, ⟨W', us', o' + 1, ?_, j', by omega⟩, ?_, ?_⟩
    · have PCf : ∀ f i, PC e f i → ¬ PJ f i := fun f i z y => by
        have h1 := PJf f i y
        have h2 : f ≤ 904 := by unfold PC at z; omega
        omega
      by_cases z : e = c
      · subst z; rw [cup_c]; exact mk.mf k3 m' PCf
      · rw [cup_n z]; exact mk.mf (hcn e he z) m' PCf
    · rw [m'.gi (fun i z => by have := PJf _ i z; omega)]; exact g957
    · rcases z with z | z
      · have := PJf f i y; omega
      · rcases y with y | y | y | y | y | y <;> omega
    · exact ew
    · rw [m'.gi (fun i z => by have := PJf _ i z; omega)]; exact g956
    · rw [m'.gi (fun i z => by have := PJf _ i z; omega)]; exact g955
end MD
