section MD
variable {E : wo_E} {mc ms m c s b k cap now tg o : Nat} {G0 G G1 G2 : wo_W} {ow : Nat → Nat} {A : Nat → Nat} {P Q : Nat → Nat → Prop} {rs : List roT} {ss : List sdT} {wt : List jobT} {sn : Nat → Option jobT} {cn : Nat → cnT} {S : hdT}
theorem sp_Rout {Post : Int64 → wo_W → Prop} {i : Int32} (hbb : ow_b E ow G) (h : mr E ow m A G (cn, rs, tg, ss, wt, sn) cap now k) (hn : ci_of i 3 = none → Post 0 G) (hp : ∀ c, ci_of i 3 = some c → ∀ G', mf E ow m A PT G G' → mr E ow m A G' (cup cn c (ouc (cn c)), rs, tg, ss, wt, sn) cap now k → Post (te_go ((c_out (cn c)).take 8) 0) G') : pq_Md_out E mc ms Post G m i := by
  obtain ⟨hk, hcn, hmo⟩ := h
  simp only [] at hcn hmo
  refine sp_mout hk hbb hcn hn (fun c ec G' m' c' => hp c ec G' (m'.mn (fun _ _ _ => trivial)) (mr_of m' (mcn_oth hcn m' (fun e _ z f i y q => PC_ne z y (PF_C q)) c') ?_))
  rw [rv_cup (cn := cn) (c := c) (w := ouc (cn c)) (fun s => rfl)]
  exact mo_mf hmo m' (fun f i z => mo_f (by have := PF_f z; omega))
theorem wq_uup {W : jlT} {us : jsT} {u : Nat} {y : Option (Nat × jobT)} (e : wq (W, us) = (wt, sn)) : wq (W, uup us u y) = (wt, sup sn u (y.map (fun x => x.2))) := by
  have e1 : W.map (fun x => x.2.2) = wt := congrArg Prod.fst e
  have e0 := wq_u e
  unfold wq
  simp only []
  rw [e1]
  congr 1
  funext v
  unfold uup sup
  by_cases z : v = u
  · rw [if_pos z, if_pos z]
  · rw [if_neg z, if_neg z, e0 v]
theorem us_of_sn {W : jlT} {us : jsT} {u : Nat} {j : jobT} (e : wq (W, us) = (wt, sn)) (h : sn u = some j) : ∃ x, us u = some x ∧ x.2 = j := by
  rw [wq_u e u] at h
  cases eu : us u with
  | none => rw [eu] at h; cases h
  | some x => rw [eu] at h; exact ⟨x, rfl, Option.some.inj h⟩
theorem Por_f {j f i : Nat} (h : Por j f i) : f = 918 ∨ f = 926 ∨ 929 ≤ f ∧ f ≤ 935 ∧ i = 30 + j ∨ 945 ≤ f ∧ f ≤ 952 ∨ f = 957 ∨ f = 927 := by
  rcases h with h | h | h
  · omega
  · have h : 929 ≤ f ∧ f ≤ 935 ∧ i = 30 + j := h
    omega
  · rcases h with h | h | h <;> omega
theorem sp_Rorigin {Post : Int32 → wo_W → Prop} {i : Int32} (hbb : ow_b E ow G) (hk1 : k + 1 < 10 ^ 4) (hs : sok (cn, rs, tg, ss, wt, sn) cap now k) (h : mr E ow m A G (cn, rs, tg, ss, wt, sn) cap now k) (hn : (∀ u j, ci_of i 2 = some u → sn u = some j → j.2.2.2.2.1 ≠ 0) → Post (-1) G) (hp : ∀ u j, ci_of i 2 = some u → sn u = some j → j.2.2.2.2.1 = 0 → ∀ G', mf E ow m A PT G G' → mr E ow m A G' (cn, (or_j cn j rs tg).2.2.2.1, (or_j cn j rs tg).2.2.2.2, ss, wt, sup sn u (some (or_s j (or_j cn j rs tg)))) cap now (k + 1) → Post (nI (or_j cn j rs tg).1) G') : pq_Md_origin E mc ms Post G m i := by
  obtain ⟨hk, hcn, hmo⟩ := h
  obtain ⟨h1, h2, h3, h4, h5, h6, h7, h8⟩ := hs
  simp only [] at hcn hmo h1 h2 h3 h4 h5 h6
  obtain ⟨⟨L, l1, l2⟩, g957, ⟨K, n, k1, k2, k3⟩, ⟨W, us, o', q1, q2, q3⟩, g956, g955⟩ := hmo
  have hmap : L.map (fun x => x.2.1) = (rl L).map (fun r => r.1) := by unfold rl; rw [List.map_map]; rfl
  refine sp_morigin hk hbb l2 (by rw [hmap, l1]; exact h4.2.1) (fun x hx => ?_) g957 (by omega) q2 (fun hz => hn (fun u j eu ej => ?_)) (fun u x w eu ex ez ew L' G' l1' l2' g' j' m' => ?_)
  · have : x.2 ∈ rs := by rw [← l1]; exact List.mem_map.mpr ⟨x, hx, rfl⟩
    exact (h4.2.2 _ this).2.1
  · obtain ⟨x, ex, e2⟩ := us_of_sn q1 ej
    rw [← e2]; exact hz u x eu ex
  · have ej : sn u = some x.2 := by rw [wq_u q1 u, ex]; rfl
    have ew2 : w = or_j cn x.2 rs tg := by rw [ew, l1]; rfl
    have := hp u x.2 eu ej ez G' (m'.mn (fun _ _ _ => trivial))
    rw [← ew2] at this
    refine this (mr_of m' (fun e he => mk.mf (hcn e he) m' (fun f i z y => ?_)) ⟨⟨L', l1', l2'⟩, g', ⟨K, n, k1, k2.mf m' (fun f i z y => ?_), by omega⟩, ⟨W, _, o', wq_uup q1, j', by omega⟩, ?_, ?_⟩)
    · have a1 := Por_f y
      have a2 : 896 ≤ f ∧ f ≤ 904 := by unfold PC at z; omega
      omega
    · have a1 := Por_f y
      rcases z with z | z <;> omega
    · rw [m'.gi (fun i z => by have := Por_f z; omega)]; exact g956
    · rw [m'.gi (fun i z => by have := Por_f z; omega)]; exact g955
theorem rvf_cg {cn' : Nat → cnT} (h : ∀ e t, c_rv (cn' e) t = c_rv (cn e) t) : rvf cn' = rvf cn := by
  funext e t
  exact h e t
theorem Par_f {f i : Nat} (h : Par c f i) : PF c f i ∨ f = 918 ∨ f = 922 ∨ f = 923 ∨ f = 905 ∨ f = 906 ∨ f = 953 ∨ f = 954 ∨ 936 ≤ f ∧ f ≤ 944 ∨ 929 ≤ f ∧ f ≤ 935 ∧ i < 20 ∨ f = 925 := by
  rcases h with h | h | h | h | h
  · rcases h with h | h | h | h
    · exact Or.inr (Or.inl h)
    · exact Or.inr (Or.inr (Or.inl h))
    · exact Or.inr (Or.inr (Or.inr (Or.inl h)))
    · exact Or.inl h
  · have := FS4 h
    right; omega
  · right; omega
  · right; omega
  · right; omega
theorem Par_x {f i : Nat} (h : Par c f i) : 899 ≤ f ∧ f ≤ 904 ∨ f = 918 ∨ f = 922 ∨ f = 923 ∨ f = 905 ∨ f = 906 ∨ f = 953 ∨ f = 954 ∨ 936 ≤ f ∧ f ≤ 944 ∨ 929 ≤ f ∧ f ≤ 935 ∧ i < 20 ∨ f = 925 := by
  rcases Par_f h with h | h
  · have := PF_f h
    omega
  · right; exact h
theorem Par_C {e f i : Nat} (hec : e ≠ c) (h : PC e f i) : ¬ Par c f i := fun z => by
  have a2 : 896 ≤ f ∧ f ≤ 904 := by unfold PC at h; omega
  rcases Par_f z with z | z
  · exact PC_ne hec h (PF_C z)
  · omega
theorem sp_Rarrive {Post : Int32 → wo_W → Prop} {i : Int32} (hbb : ow_b E ow G) (hk1 : k + 1 < 10 ^ 4) (hs : sok (cn, rs, tg, ss, wt, sn) cap now k) (h : mr E ow m A G (cn, rs, tg, ss, wt, sn) cap now k) (hn : (∀ u j, ci_of i 2 = some u → sn u = some j → j.2.2.2.2.1 = 0) → Post (-1) G) (hp : ∀ u j, ci_of i 2 = some u → sn u = some j → j.2.2.2.2.1 ≠ 0 → ∀ G', mf E ow m A PT G G' → mr E ow m A G' ((fun e => dvc (ar_c cn j e)), rs, tg, ar_s cn j cap ss, (sw_of now (wt, sup (ar_n cn u j sn) u none)).1, (sw_of now (wt, sup (ar_n cn u j sn) u none)).2) cap now (k + 1) → Post (nI j.2.2.2.2.1) G') : pq_Md_arrive E mc ms Post G m i := by
  have hall := hs
  obtain ⟨hk, hcn, hmo⟩ := h
  obtain ⟨h1, h2, h3, h4, h5, h6, h7, h8⟩ := hs
  simp only [] at hcn hmo h1 h2 h3 h4 h5 h6
  obtain ⟨⟨L, l1, l2⟩, g957, ⟨K, n, k1, k2, k3⟩, ⟨W, us, o', q1, q2, q3⟩, g956, g955⟩ := hmo
  have mem : ∀ x ∈ K, x.2.2 ∈ ss := fun x hx => by rw [← k1]; exact List.mem_map.mpr ⟨x, hx, rfl⟩
  have e1 : (wq (W, us)).1 = wt := congrArg Prod.fst q1
  have e2 : (wq (W, us)).2 = sn := congrArg Prod.snd q1
  have usn : ∀ u x, us u = some x → sn u = some x.2 := fun u x ex => by rw [wq_u q1 u, ex]; rfl
  refine sp_marrive (cap := cap) hk hbb hcn rfl q2 k2 g956 g955 h7 (by omega) (fun x hx => ?_) (by rw [k1]; have := h6.1; omega) (fun u x hu ex => ?_) (fun c hc => ⟨(h1 c hc).1.2.2.2.2.2.2.1.2, (h1 c hc).1.2.2.2.2.2.2.1.1⟩) (fun hz => hn (fun u j eu ej => ?_)) (fun u x eu ex ez G' K' n' W' us' m' c' s' hn' ek j' ew => ?_)
  · rw [(h6.2.1 _ (mem x hx)).2.2]; exact sz_17
  · have hj := h3.2 u x.2 hu (usn u x ex)
    exact ⟨hj.2.2.2.2.2.2.2.1, (sok_arr hall hk1 hu (usn u x ex)).2.1, hj.1.1, hj.1.2.1, hj.1.2.2⟩
  · obtain ⟨x, ex, e3⟩ := us_of_sn q1 ej
    rw [← e3]; exact hz u x eu ex
  · have ej := usn u x ex
    have hu : u < 2 := (ci_some eu).2
    obtain ⟨_, _, hcs⟩ := sok_arr hall hk1 hu ej
    rw [k1] at ek
    rw [e1, e2] at ew
    refine hp u x.2 eu ej ez G' (m'.mn (fun _ _ _ => trivial)) (mr_of m' (fun e he => ?_) ⟨⟨L, l1, l2.mf m' (fun f i z y => by have := Par_x y; unfold PR at z; omega)⟩, ?_, ⟨K', n', ek, s', by omega⟩, ⟨W', us', o', ew, ?_, by omega⟩, ?_, ?_⟩)
    · show mcn A G' e (dvc (ar_c cn x.2 e))
      rw [hcs e he]
      by_cases z : e = x.2.1
      · rw [z, cup_c]; exact c'
      · rw [cup_n z]; exact mk.mf (hcn e he) m' (fun f i y => Par_C z y)
    · rw [m'.gi (fun i z => by have := Par_x z; omega)]; exact g957
    · have er : rvf (fun e => dvc (ar_c cn x.2 e)) = rvf cn := by
        refine rvf_cg (fun e t => ?_)
        show c_rv (cup cn x.2.1 (anc (cn x.2.1) x.2.2.1 (ar_a cn x.2)) e) t = c_rv (cn e) t
        by_cases z : e = x.2.1
        · rw [z, cup_c]; rfl
        · rw [cup_n z]
      rw [er]
      exact j'
    · rw [m'.gi (fun i z => by have := Par_x z; omega)]; exact g956
    · rw [m'.gi (fun i z => by have := Par_x z; omega)]; exact g955
theorem mp_qs {n u : Nat} {q : mpT} {p : psT} (h1 : q.1 = p.1) (h2 : (fun v => (q.2.1 v).map (fun x => x.2)) = p.2.1) (h3 : q.2.2 = p.2.2) : (mp_1 n u q).1 = (qs_1 n u p).1 ∧ (fun v => ((mp_1 n u q).2.1 v).map (fun x => x.2)) = (qs_1 n u p).2.1 ∧ (mp_1 n u q).2.2 = (qs_1 n u p).2.2 := by
  have e : p.2.1 u = (q.2.1 u).map (fun x => x.2) := by rw [← h2]
  unfold mp_1 qs_1
  cases eu : q.2.1 u with
  | none =>
    rw [eu] at e
    have e : p.2.1 u = none := e
    simp only [e]
    exact ⟨h1, h2, h3⟩
  | some x =>
    rw [eu] at e
    have e : p.2.1 u = some x.2 := e
    simp only [e]
    by_cases z : 10 ≤ n - x.2.2.2.2.1
    · rw [if_pos z, if_pos z]
      refine ⟨by rw [h1], ?_, by show q.2.2 + 1 = p.2.2 + 1; rw [h3]⟩
      funext v
      show (uup q.2.1 u none v).map (fun x => x.2) = sup p.2.1 u none v
      unfold uup sup
      by_cases y : v = u
      · rw [if_pos y, if_pos y]; rfl
      · rw [if_neg y, if_neg y, ← h2]
    · rw [if_neg z, if_neg z]; exact ⟨h1, h2, h3⟩
theorem qs_rv {n u : Nat} {p : psT} : rvf (qs_1 n u p).1 = rvf p.1 := by
  unfold qs_1
  cases e : p.2.1 u with
  | none => rfl
  | some j =>
    simp only [e]
    by_cases z : 10 ≤ n - j.2.2.2.1
    · rw [if_pos z]; exact rv_cup (fun s => rfl)
    · rw [if_neg z]
theorem ps_rv {n u : Nat} {p : psT} : ∀ e t, c_rv ((ps_1 n u p).1 e) t = c_rv (p.1 e) t := by
  intro e t
  unfold ps_1
  cases eu : p.2.1 u with
  | none => rfl
  | some j =>
    simp only [eu]
    by_cases z : 10 ≤ n - j.2.2.2.1
    · rw [if_pos z]
      show c_rv (cup p.1 j.1 (anc (p.1 j.1) j.2.1 (ba_of 504 0)) e) t = c_rv (p.1 e) t
      by_cases y : e = j.1
      · subst y; rw [cup_c]; rfl
      · rw [cup_n y]
    · rw [if_neg z]
theorem Ppa_f {f i : Nat} (h : Ppa f i) : f = 918 ∨ f = 922 ∨ f = 923 ∨ 899 ≤ f ∧ f ≤ 906 ∨ f = 956 := h
theorem sp_Rpass {Post : Int32 → wo_W → Prop} {i : Int32} (hbb : ow_b E ow G) (hn6 : now + 1000 < 10 ^ 6) (hs : sok (cn, rs, tg, ss, wt, sn) cap now k) (h : mr E ow m A G (cn, rs, tg, ss, wt, sn) cap now k) (hn : ci_of i 1001 = none → Post (-1) G) (hp : ∀ n, ci_of i 1001 = some n → ∀ G', mf E ow m A PT G G' → mr E ow m A G' ((fun e => dvc ((ps_of (now + n) cn sn).1 e)), rs, tg, ss, (sw_of (now + n) (wt, (ps_of (now + n) cn sn).2.1)).1, (sw_of (now + n) (wt, (ps_of (now + n) cn sn).2.1)).2) cap (now + n) k → Post (nI (ps_of (now + n) cn sn).2.2) G') : pq_Md_pass E mc ms Post G m i := by
  have hall := hs
  obtain ⟨hk, hcn, hmo⟩ := h
  obtain ⟨h1, h2, h3, h4, h5, h6, h7, h8⟩ := hs
  simp only [] at hcn hmo h1 h2 h3 h4 h5 h6
  obtain ⟨⟨L, l1, l2⟩, g957, ⟨K, n0, k1, k2, k3⟩, ⟨W, us, o', q1, q2, q3⟩, g956, g955⟩ := hmo
  have usn : ∀ u x, us u = some x → sn u = some x.2 := fun u x ex => by rw [wq_u q1 u, ex]; rfl
  have e1 : W.map (fun x => x.2.2) = wt := congrArg Prod.fst q1
  have e2 : (fun u => (us u).map (fun x => x.2)) = sn := congrArg Prod.snd q1
  refine sp_mpass hk hbb hcn q2 g956 (by omega) (fun u x hu ex => (h3.2 u x.2 hu (usn u x ex)).2.2.1) (fun u x hu ex => (h3.2 u x.2 hu (usn u x ex)).1) (fun x y ex ey z => ?_) (fun c hc => (h1 c hc).1.2.2.2.2.2.2.1) hn (fun n en G' W' us' m' c' g' j' ew => ?_)
  · have := (oth h2 (u := 0) (by decide) (usn 0 x ex)).2 1 y.2 (by decide) (by show (if 1 = 0 then none else sn 1) = some y.2; rw [if_neg (by decide)]; exact usn 1 y ey)
    exact this ⟨z.1.symm, z.2.symm⟩
  · obtain ⟨r1, r2⟩ := ps_all (n := now + n) hall
    have s0 := mp_qs (n := now + n) (u := 0) (q := (cn, us, 0)) (p := (cn, sn, 0)) rfl e2 rfl
    obtain ⟨s1, s2, s3⟩ := mp_qs (n := now + n) (u := 1) s0.1 s0.2.1 s0.2.2
    have := hp n en G' (m'.mn (fun _ _ _ => trivial))
    have er3 : (mp_1 (now + n) 1 (mp_1 (now + n) 0 (cn, us, 0))).2.2 = (ps_of (now + n) cn sn).2.2 := by rw [s3, r1]
    rw [er3]
    have ew2 : wq (W, (mp_1 (now + n) 1 (mp_1 (now + n) 0 (cn, us, 0))).2.1) = (wt, (ps_of (now + n) cn sn).2.1) := by
      unfold wq
      simp only []
      rw [e1, s2, r1]
    rw [ew2] at ew
    refine this (mr_of m' (fun e he => ?_) ⟨⟨L, l1, l2.mf m' (fun f i z y => by have := Ppa_f y; unfold PR at z; omega)⟩, ?_, ⟨K, n0, k1, k2.mf m' (fun f i z y => ?_), k3⟩, ⟨W', us', o', ew, ?_, q3⟩, g', ?_⟩)
    · show mcn A G' e (dvc ((ps_of (now + n) cn sn).1 e))
      rw [(r2 e he).1, ← s1]
      exact c' e he
    · rw [m'.gi (fun i z => by have := Ppa_f z; omega)]; exact g957
    · have := Ppa_f y
      rcases z with z | z <;> omega
    · have er : rvf (fun e => dvc ((ps_of (now + n) cn sn).1 e)) = rvf cn := by
        refine rvf_cg (fun e t => ?_)
        show c_rv ((ps_1 (now + n) 1 (ps_1 (now + n) 0 (cn, sn, 0))).1 e) t = c_rv (cn e) t
        rw [ps_rv, ps_rv]
      rw [er]
      exact j'
    · rw [m'.gi (fun i z => by have := Ppa_f z; omega)]; exact g955
end MD
