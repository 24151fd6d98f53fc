theorem fr_new0 {W : Nat → Prop} {G G1 : wo_W} (f : fr_W W G G1) {q : Nat} (h : wo_ty G1 q = 0) : wo_ty G q = 0 := by
  apply Classical.byContradiction
  intro z
  exact z ((f.1 q z).symm.trans h)
def tx_new (E : wo_E) (G0 : wo_W) (a : Nat) (G : wo_W) (q : Nat) (t : List Nat) : Prop := wo_ty G0 q = 0 ∧ en_bs E ≤ q ∧ tx_S G q t ∧ ∀ b, wo_gr G 576 q = some b → wo_ty G0 b = 0 ∧ en_bs E ≤ b ∧ ∀ w, wo_gr G 256 a = some w → b ≠ w
theorem ev_new {E : wo_E} {G0 G G' : wo_W} {v0 a q : Nat} {r t : List Nat} (e : sg_ev E G0 v0 a G r) (q1 : wo_ty G q = 0) (q2 : en_bs E ≤ q) (q3 : fr_W fr_0 G G') (q4 : tx_S G' q t) (q5 : ∀ b', wo_gr G' 576 q = some b' → wo_ty G b' = 0 ∧ en_bs E ≤ b') : tx_new E G0 a G' q t := by
  refine ⟨fr_new0 e.frm q1, q2, q4, fun x hx => ⟨fr_new0 e.frm (q5 x hx).1, (q5 x hx).2, fun w hw y => ?_⟩⟩
  obtain ⟨w2, k1, k2, k3⟩ := e
  have e1 := (q3.2 a (by rw [k1.1]; decide) (fun z => z)).2.2.2.2.1 256
  rw [e1, k1.2.2.2.2.1] at hw
  cases hw
  have := k1.2.2.2.2.2.1.1
  rw [← y, (q5 x hx).1] at this
  cases this
section SP
variable {E : wo_E} {mc ms : Nat} {G G0 : wo_W} {a b v0 : Nat} {t t0 u : List Nat}
theorem sp_deLoop {Post : Option Nat → wo_W → Prop} (h0 : sg_at E G0 a v0 t0) (hk : kx_ok E G0) (hS : tx_S G0 b t) (hb : ∀ x, wo_gr G0 576 b = some x → x ≠ v0) (ht : t.length ≤ 20) :
    ∀ (k i : Nat) (r : List Nat) (G : wo_W) (c s : Nat), t.length - i < k → i ≤ t.length → r.length ≤ i → sg_ev E G0 v0 a G r → c + (t.length - i) + 2 ≤ mc → s + (t.length - i) * 46 + 24 ≤ ms →
    (de_go t k i r = none → ∀ G' r', sg_ev E G0 v0 a G' r' → r'.length ≤ 4096 → Post none G') → (∀ u q G', de_go t k i r = some u → tx_new E G0 a G' q u → sg_ev E G0 v0 a G' u → u.length ≤ 20 → Post (some q) G') →
    pq_Tx_decoded_26 E mc ms Post k G c s (some b) (some a) (nI i) := by
  have ha5 := h0.1
  have hab := h0.2.1
  have hvb := h0.2.2.2.2.2.2.1
  have hv65 := h0.2.2.2.2.2.1.1
  intro k
  induction k with
  | zero => intro i r G c s hk0; omega
  | succ k ih =>
    intro i r G c s hki hi hr hev hc hs hpn hps
    have hSG := hev.S hS hb ha5 hv65
    rw [de_go] at hpn
    have hps' : ∀ u q G', (if t.length ≤ i then some r else if t.getD i 0 < 33 ∨ 126 < t.getD i 0 then none else if t.getD i 0 = 37 then (if i + 2 < t.length then (match hx_of (t.getD (i + 1) 0), hx_of (t.getD (i + 2) 0) with
      | some h, some l => de_go t k (i + 3) (r ++ pr_of h l)
      | _, _ => none) else none) else de_go t k (i + 1) (r ++ [t.getD i 0])) = some u → tx_new E G0 a G' q u → sg_ev E G0 v0 a G' u → u.length ≤ 20 → Post (some q) G' := fun u q G' e => hps u q G' (by rw [de_go]; exact e)
    clear hps
    by_cases z : t.length ≤ i
    · rw [if_pos z] at hpn
      simp only [if_pos z] at hps'
      refine ⟨b, rfl, hSG.1, 0, 0, by omega, by omega, sp_length hSG ⟨fun _ => ⟨a, rfl, hev.ty, 2, 24, by omega, by omega, ?_⟩, fun q => absurd (nI_le (by omega) (by omega)) q⟩⟩
      exact ev_T hev (by omega) (by omega) (by omega) (fun q G' q1 q2 q3 q4 q5 q6 => hps' r q G' rfl (ev_new hev q1 q2 q3 q4 q5) q6 (by omega))
    · rw [if_neg z] at hpn
      simp only [if_neg z] at hps'
      have hd := hSG.2.2.2.1 _ (tx_mem (t := t) (i := i) (by omega))
      have hd1 : i + 1 < t.length → t.getD (i + 1) 0 < 256 := fun y => hSG.2.2.2.1 _ (tx_mem y)
      have hd2 : i + 2 < t.length → t.getD (i + 2) 0 < 256 := fun y => hSG.2.2.2.1 _ (tx_mem y)
      generalize hdd : t.getD i 0 = d at hpn hps' hd
      have pre : (d < 33 ∨ 126 < d → Post none G) → (¬ (d < 33 ∨ 126 < d) → d = 37 → ((i + 2 < t.length → ∃ h l, pq_Tx_decoded_119 E mc ms Post (pq_Tx_decoded_26 E mc ms Post k) G c s (some b) (some a) (nI i) h l ∧ h = wh_I (hx_of (t.getD (i + 1) 0)) ∧ l = wh_I (hx_of (t.getD (i + 2) 0))) ∧ (¬ i + 2 < t.length → Post none G))) → (¬ (d < 33 ∨ 126 < d) → ¬ d = 37 → ∃ mc1 ms1, c + mc1 ≤ mc ∧ s + ms1 ≤ ms ∧ pq_SB_append_C E mc1 ms1 (fun _ G' => pq_Tx_decoded_26 E mc ms Post k G' (c + mc1) (s + ms1) (some b) (some a) (nI (i + 1))) G a (nI d)) → pq_Tx_decoded_26 E mc ms Post (k + 1) G c s (some b) (some a) (nI i) := by
        intro n1 n2 n3
        refine ⟨b, rfl, hSG.1, 0, 0, by omega, by omega, sp_length hSG ⟨fun q => absurd ((nI_leI (by omega) (by omega)).mp q) (by omega), fun _ => ⟨hSG.1, 0, 0, by omega, by omega, sp_charAt hSG (by omega) ?_⟩⟩⟩
        rw [hdd]
        refine ⟨fun q => n1 (Or.inl ((nI_ltI (b := 33) (by omega) (by decide)).mp q)), fun q => ⟨fun q2 => ?_, fun q2 => n1 (Or.inr ?_)⟩⟩
        · have y : ¬ (d < 33 ∨ 126 < d) := by
            intro y
            rcases y with y | y
            · exact q (nI_lt (b := 33) y (by decide))
            · exact absurd ((nI_leI (b := 126) (by omega) (by decide)).mp q2) (by omega)
          refine ⟨fun q3 => ⟨hSG.1, 0, 0, by omega, by omega, sp_length hSG ?_⟩, fun q3 => ?_⟩
          · have y37 : d = 37 := (nI_eq (b := 37) (by omega) (by decide)).mp q3
            obtain ⟨m1, m2⟩ := n2 y y37
            rw [nI_c2, nI_1]
            refine ⟨fun q4 => ?_, fun q4 => ?_⟩
            · have w := (nI_leI (by omega) (by omega)).mp q4
              refine ⟨b, rfl, hSG.1, 0, 0, by omega, by omega, sp_length hSG ?_⟩
              rw [nI_c2]
              refine ⟨fun _ => ⟨fun _ => m2 (by omega), fun q5 => absurd rfl q5⟩, fun q5 => absurd q4 q5⟩
            · have w : i + 2 < t.length := by
                rcases Nat.lt_or_ge (i + 2) t.length with w | w
                · exact w
                · exact absurd (nI_le w (by omega)) q4
              refine ⟨hSG.1, 0, 0, by omega, by omega, sp_charAt hSG (by omega) ⟨0, 0, by omega, by omega, sp_hex (by have := hd1 (by omega); omega) ?_⟩⟩
              refine ⟨b, rfl, hSG.1, 0, 0, by omega, by omega, sp_length hSG ?_⟩
              rw [nI_c2]
              refine ⟨fun q5 => absurd q5 q4, fun _ => ⟨hSG.1, 0, 0, by omega, by omega, sp_charAt hSG (by omega) ⟨0, 0, by omega, by omega, sp_hex (by have := hd2 (by omega); omega) ?_⟩⟩⟩
              obtain ⟨h, l, m3, m4, m5⟩ := m1 w
              rw [m4, m5] at m3
              exact m3
          · have y37 : ¬ d = 37 := fun w => q3 (by rw [w]; rfl)
            obtain ⟨mc1, ms1, m1, m2, m3⟩ := n3 y y37
            refine ⟨a, rfl, hev.ty, mc1, ms1, m1, m2, ?_⟩
            have e : (fun (_ : Option Nat) (G' : wo_W) => pq_Tx_decoded_26 E mc ms Post k G' (c + mc1) (s + ms1) (some b) (some a) (nI (i + 1))) = (fun v37 G36 => pq_Tx_decoded_146 E mc ms Post (pq_Tx_decoded_26 E mc ms Post k) G36 (c + mc1) (s + ms1) (some b) (some a) (nI i)) := by
              funext v G'
              show _ = pq_Tx_decoded_26 E mc ms Post k G' (c + mc1) (s + ms1) (some b) (some a) (nI i + 1)
              rw [nI_1]
            rw [e] at m3
            exact m3
        · rcases Nat.lt_or_ge 126 d with w | w
          · exact w
          · exact absurd (nI_le (b := 126) w (by decide)) q2
      by_cases y : d < 33 ∨ 126 < d
      · rw [if_pos y] at hpn
        exact pre (fun _ => hpn rfl G r hev (by omega)) (fun q => absurd y q) (fun q => absurd y q)
      · rw [if_neg y] at hpn
        simp only [if_neg y] at hps'
        by_cases x : d = 37
        · rw [if_pos x] at hpn
          simp only [if_pos x] at hps'
          by_cases w : i + 2 < t.length
          · rw [if_pos w] at hpn
            simp only [if_pos w] at hps'
            cases hh : hx_of (t.getD (i + 1) 0) with
            | none =>
              rw [hh] at hpn
              exact pre (fun q => absurd q y) (fun _ _ => ⟨fun _ => ⟨_, _, ⟨fun _ => hpn rfl G r hev (by omega), fun q => absurd (by rw [hh]; rfl) q⟩, rfl, rfl⟩, fun q => absurd w q⟩) (fun _ q => absurd x q)
            | some h =>
              cases hl : hx_of (t.getD (i + 2) 0) with
              | none =>
                rw [hh, hl] at hpn
                have hlt := hx_lt hh
                exact pre (fun q => absurd q y) (fun _ _ => ⟨fun _ => ⟨_, _, ⟨fun _ => hpn rfl G r hev (by omega), fun q => ⟨fun q2 => absurd (by rw [hl]; rfl) q2, fun _ => hpn rfl G r hev (by omega)⟩⟩, rfl, rfl⟩, fun q => absurd w q⟩) (fun _ q => absurd x q)
              | some l =>
                have hh16 := hx_lt hh
                have hl16 := hx_lt hl
                simp only [hh, hl] at hpn hps'
                have hne : ∀ m, m < 16 → ¬ nI m = (-1 : Int32) := fun m hm z => nI_pos (n := m) (by omega) (by rw [z]; decide)
                have hlen : (r ++ pr_of h l).length ≤ i + 3 := by rw [List.length_append]; have := pr_len (h := h) (l := l); omega
                refine pre (fun q => absurd q y) (fun _ _ => ⟨fun _ => ⟨nI h, nI l, ⟨fun q => absurd q (hne h hh16), fun _ => ⟨fun _ => ⟨3, 138, by omega, by omega, ?_⟩, fun q => absurd q (hne l hl16)⟩⟩, by rw [hh]; rfl, by rw [hl]; rfl⟩, fun q => absurd w q⟩) (fun _ q => absurd x q)
                refine sp_appendPair hev hk hab hvb hh16 hl16 (by omega) (by omega) (by omega) (fun G' e => ?_)
                show pq_Tx_decoded_26 E mc ms Post k G' (c + 3) (s + 138) (some b) (some a) (nI i + 2 + 1)
                rw [nI_c2, nI_1]
                exact ih (i + 3) _ G' (c + 3) (s + 138) (by omega) (by omega) hlen e (by omega) (by omega) hpn hps'
          · rw [if_neg w] at hpn
            exact pre (fun q => absurd q y) (fun _ _ => ⟨fun q => absurd q w, fun _ => hpn rfl G r hev (by omega)⟩) (fun _ q => absurd x q)
        · rw [if_neg x] at hpn
          simp only [if_neg x] at hps'
          refine pre (fun q => absurd q y) (fun _ q => absurd q x) (fun _ _ => ⟨1, 46, by omega, by omega, ev_C hev hd (by omega) (by omega) (by omega) (fun G' e => ?_)⟩)
          exact ih (i + 1) _ G' (c + 1) (s + 46) (by omega) (by omega) (by rw [List.length_append]; show r.length + 1 ≤ i + 1; omega) e (by omega) (by omega) hpn hps'
theorem sp_decoded {Post : Option Nat → wo_W → Prop} (h0 : sg_at E G0 a v0 t0) (ht0 : t0.length ≤ 4096) (hk : kx_ok E G0) (hS : tx_S G0 b t) (hb : ∀ x, wo_gr G0 576 b = some x → x ≠ v0) (ht : t.length ≤ 20) (h1 : 23 ≤ mc) (h2 : 944 ≤ ms)
    (hpn : de_of t = none → ∀ G' r', sg_ev E G0 v0 a G' r' → r'.length ≤ 4096 → Post none G') (hps : ∀ u q G', de_of t = some u → tx_new E G0 a G' q u → sg_ev E G0 v0 a G' u → u.length ≤ 20 → Post (some q) G') : pq_Tx_decoded E mc ms Post G0 (some b) (some a) := by
  unfold pq_Tx_decoded pq_Tx_decoded_0 pq_Tx_decoded_17
  have hev := sg_ev.in h0
  refine ⟨b, rfl, hS.1, 0, 0, by omega, by omega, sp_isEmpty hS ⟨fun q => ?_, fun q => ?_⟩⟩
  · have z : t = [] := by
      apply Classical.byContradiction
      intro z
      exact q (if_neg z)
    exact hpn (by unfold de_of; rw [if_pos z]) G0 t0 hev ht0
  · have z : ¬ t = [] := fun z => by rw [if_pos z] at q; exact absurd q (by decide)
    have hl : 0 < t.length := List.length_pos_iff.mpr z
    have hd := hS.2.2.2.1 _ (tx_mem (t := t) (i := 0) hl)
    refine ⟨hS.1, 0, 0, by omega, by omega, sp_charAt (i := 0) hS hl ⟨fun q2 => ?_, fun q2 => ?_⟩⟩
    · have y : t.getD 0 0 = 47 := (nI_eq (b := 47) (by omega) (by decide)).mp q2
      refine ⟨a, rfl, h0.1, 1, 0, by omega, by omega, ev_L (n := 0) hev (Nat.zero_le _) ht0 (by omega) (by omega) (fun G' e => ?_)⟩
      have e2 : sg_ev E G0 v0 a G' [] := e
      exact ⟨t.length + 1, sp_deLoop h0 hk hS hb ht (t.length + 1) 0 [] G' _ _ (by omega) (by omega) (by simp) e2 (by omega) (by omega) (fun w => hpn (by unfold de_of; rw [if_neg z, if_pos y]; exact w)) (fun u q G' w => hps u q G' (by unfold de_of; rw [if_neg z, if_pos y]; exact w))⟩
    · have y : ¬ t.getD 0 0 = 47 := fun y => q2 (by rw [y]; rfl)
      exact hpn (by unfold de_of; rw [if_neg z, if_neg y]) G0 t0 hev ht0
end SP
