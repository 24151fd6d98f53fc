def fr_W (W : Nat → Prop) (G G1 : wo_W) : Prop := (∀ a, wo_ty G a ≠ 0 → wo_ty G1 a = wo_ty G a) ∧ ∀ a, wo_ty G a ≠ 0 → ¬ W a → wo_eq G G1 a
theorem ky_tr {G G1 G2 : wo_W} (h : ∀ a, wo_ty G a ≠ 0 → wo_ty G1 a = wo_ty G a) (h2 : ∀ a, wo_ty G1 a ≠ 0 → wo_ty G2 a = wo_ty G1 a) : ∀ a, wo_ty G a ≠ 0 → wo_ty G2 a = wo_ty G a := fun a ha => (h2 a (by rw [h a ha]; exact ha)).trans (h a ha)
theorem fr_rf (W : Nat → Prop) (G : wo_W) : fr_W W G G := ⟨fun _ _ => rfl, fun a _ _ => wo_eq.rf G a⟩
theorem wo_eq.tr {G G1 G2 : wo_W} {a : Nat} (h : wo_eq G G1 a) (h2 : wo_eq G1 G2 a) : wo_eq G G2 a := by
  obtain ⟨a1, a2, a3, a4, a5, a6, a7, a8⟩ := h
  obtain ⟨b1, b2, b3, b4, b5, b6, b7, b8⟩ := h2
  exact ⟨b1.trans a1, b2.trans a2, fun f => (b3 f).trans (a3 f), fun f => (b4 f).trans (a4 f), fun f => (b5 f).trans (a5 f), fun i => (b6 i).trans (a6 i), fun i => (b7 i).trans (a7 i), fun i => (b8 i).trans (a8 i)⟩
theorem fr_tr {W : Nat → Prop} {G G1 G2 : wo_W} (h : fr_W W G G1) (h2 : fr_W W G1 G2) : fr_W W G G2 := ⟨ky_tr h.1 h2.1, fun a ha hw => (h.2 a ha hw).tr (h2.2 a (by rw [h.1 a ha]; exact ha) hw)⟩
theorem fr_mn {W V : Nat → Prop} {G G1 : wo_W} (hv : ∀ a, wo_ty G a ≠ 0 → W a → V a) (h : fr_W W G G1) : fr_W V G G1 := ⟨h.1, fun a ha hw => h.2 a ha (fun q => hw (hv a ha q))⟩
theorem fr_trV {W V : Nat → Prop} {G G1 G2 : wo_W} (h : fr_W W G G1) (hv : ∀ a, wo_ty G a ≠ 0 → V a → W a) (h2 : fr_W V G1 G2) : fr_W W G G2 := ⟨ky_tr h.1 h2.1, fun a ha hw => (h.2 a ha hw).tr (h2.2 a (by rw [h.1 a ha]; exact ha) (fun q => hw (hv a ha q)))⟩
theorem fr_si {W : Nat → Prop} {G : wo_W} {f a : Nat} {x : Int32} (h : W a) : fr_W W G (wo_si G f a x) := ⟨fun _ _ => rfl, fun b _ hb => (wo_put_i (ty := .int) rfl).1 b (fun e => hb (e ▸ h))⟩
theorem fr_sl {W : Nat → Prop} {G : wo_W} {f a : Nat} {x : Int64} (h : W a) : fr_W W G (wo_sl G f a x) := ⟨fun _ _ => rfl, fun b _ hb => wo_put_l.1 b (fun e => hb (e ▸ h))⟩
theorem fr_sr {W : Nat → Prop} {G : wo_W} {f a : Nat} {x : Option Nat} (h : W a) : fr_W W G (wo_sr G f a x) := ⟨fun _ _ => rfl, fun b _ hb => (wo_put_r (ty := .array .int) rfl).1 b (fun e => hb (e ▸ h))⟩
theorem fr_sei {W : Nat → Prop} {G : wo_W} {a i : Nat} {x : Int32} (h : W a) : fr_W W G (wo_sei G a i x) := ⟨fun _ _ => rfl, fun b _ hb => (wo_set_i (ty := .int) rfl).1 b (fun e => hb (e ▸ h))⟩
theorem fr_sel {W : Nat → Prop} {G : wo_W} {a i : Nat} {x : Int64} (h : W a) : fr_W W G (wo_sel G a i x) := ⟨fun _ _ => rfl, fun b _ hb => wo_set_l.1 b (fun e => hb (e ▸ h))⟩
theorem fr_ser {W : Nat → Prop} {G : wo_W} {a i : Nat} {x : Option Nat} (h : W a) : fr_W W G (wo_ser G a i x) := ⟨fun _ _ => rfl, fun b _ hb => (wo_set_r (ty := .array .int) rfl).1 b (fun e => hb (e ▸ h))⟩
theorem fr_new {W : Nat → Prop} {G : wo_W} {q k : Nat} (h : wo_ty G q = 0) : fr_W W G (wo_new G q k) := by
  have key : ∀ b, wo_ty G b ≠ 0 → wo_eq G (wo_new G q k) b := fun b hb => wo_eq_new (fun e => hb (e ▸ h))
  exact ⟨fun b hb => (key b hb).1, fun b hb _ => key b hb⟩
theorem fr_na {W : Nat → Prop} {G : wo_W} {q k n : Nat} (h : wo_ty G q = 0) : fr_W W G (wo_na G q k n) := by
  have key : ∀ b, wo_ty G b ≠ 0 → wo_eq G (wo_na G q k n) b := fun b hb => wo_eq_na (fun e => hb (e ▸ h))
  exact ⟨fun b hb => (key b hb).1, fun b hb _ => key b hb⟩
theorem fr_cln {W : Nat → Prop} {G : wo_W} {a q : Nat} (h : wo_ty G q = 0) : fr_W W G (wo_cln G a q) := by
  have key : ∀ b, wo_ty G b ≠ 0 → wo_eq G (wo_cln G a q) b := fun b hb => wo_eq_cln (fun e => hb (e ▸ h))
  exact ⟨fun b hb => (key b hb).1, fun b hb _ => key b hb⟩
theorem fr_cpI {W : Nat → Prop} {G : wo_W} {a b sp dp n : Nat} (h : W b) : fr_W W G (wo_cpI G a b sp dp n) := ⟨fun _ _ => rfl, fun q _ hq => wo_eq_cpI (fun e => hq (e ▸ h))⟩
theorem fr_cpR {W : Nat → Prop} {G : wo_W} {a b sp dp n : Nat} (h : W b) : fr_W W G (wo_cpR G a b sp dp n) := ⟨fun _ _ => rfl, fun q _ hq => wo_eq_cpR (fun e => hq (e ▸ h))⟩
def tx_B (G : wo_W) (b : Nat) (t : List Nat) : Prop := wo_ty G b = 65 ∧ wo_len G b = t.length ∧ ∀ i, i < t.length → wo_ei G b i = sb_b (t.getD i 0)
def tx_S (G : wo_W) (a : Nat) (t : List Nat) : Prop := wo_ty G a = 10 ∧ wo_gi G 577 a = 0 ∧ t.length ≤ 65536 ∧ (∀ c ∈ t, c < 256) ∧ ∃ b, wo_gr G 576 a = some b ∧ tx_B G b t
theorem tx_B.eq {G G1 : wo_W} {b : Nat} {t : List Nat} (h : tx_B G b t) (e : wo_eq G G1 b) : tx_B G1 b t := ⟨e.1.trans h.1, e.2.1.trans h.2.1, fun i hi => (e.2.2.2.2.2.1 i).trans (h.2.2 i hi)⟩
theorem tx_S.eq {G G1 : wo_W} {a : Nat} {t : List Nat} (h : tx_S G a t) (e : wo_eq G G1 a) (eb : ∀ b, wo_gr G 576 a = some b → wo_eq G G1 b) : tx_S G1 a t := by
  obtain ⟨h1, h2, h3, h4, b, h5, h6⟩ := h
  exact ⟨e.1.trans h1, (e.2.2.1 _).trans h2, h3, h4, b, (e.2.2.2.2.1 _).trans h5, h6.eq (eb b h5)⟩
theorem tx_S.fr {W : Nat → Prop} {G G1 : wo_W} {a : Nat} {t : List Nat} (h : tx_S G a t) (f : fr_W W G G1) (ha : ¬ W a) (hb : ∀ b, wo_gr G 576 a = some b → ¬ W b) : tx_S G1 a t := by
  have h' := h
  obtain ⟨h1, h2, h3, h4, b, h5, h6⟩ := h'
  refine h.eq (f.2 a (by omega) ha) (fun c hc => ?_)
  cases h5.symm.trans hc
  exact f.2 b (by have := h6.1; omega) (hb b h5)
theorem tx_at {G : wo_W} {b : Nat} {t : List Nat} (h : tx_B G b t) {i : Nat} (hi : i < t.length) : wo_ei G b i = sb_b (t.getD i 0) := h.2.2 i hi
theorem tx_ok1 : wo_okI .boolean 1 := ⟨rfl, rfl⟩
theorem tx_ok0 : wo_okI .boolean 0 := ⟨rfl, rfl⟩
theorem tx_okb : wo_okI .byte 0 := ⟨rfl, rfl⟩
theorem tx_okc {c : Nat} (h : c < 65536) : wo_okI .char (nI c) := pk_charN h
theorem tx_mem {t : List Nat} {i : Nat} (hi : i < t.length) : t.getD i 0 ∈ t := by
  rw [List.getD_eq_getElem?_getD, List.getElem?_eq_getElem hi]
  exact List.getElem_mem hi
section SP
variable {E : wo_E} {mc ms : Nat} {G : wo_W} {a : Nat} {t : List Nat}
theorem sp_isLatin1 {Post : Int32 → wo_W → Prop} (h : wo_ty G a = 10) (h0 : wo_gi G 577 a = 0) (hp : Post 1 G) : pq_St_isLatin1 E mc ms Post G a := by
  unfold pq_St_isLatin1 pq_St_isLatin1_0 pq_St_isLatin1_18
  exact ⟨h, fun n => absurd h0 n, fun _ => ⟨tx_ok1, hp⟩⟩
theorem sp_coder {Post : Int32 → wo_W → Prop} (h : wo_ty G a = 10) (h0 : wo_gi G 577 a = 0) (hp : Post 0 G) : pq_St_coder E mc ms Post G a := by
  unfold pq_St_coder pq_St_coder_0 pq_St_coder_14
  rw [h0]
  exact ⟨h, tx_okb, hp⟩
theorem sp_checkIndex {Post : wo_W → Prop} {i n : Nat} (hi : i < n) (hn : n < 2 ^ 31) (hp : Post G) : pq_St_checkIndex E mc ms Post G (nI i) (nI n) := by
  unfold pq_St_checkIndex pq_St_checkIndex_0
  intro r
  refine ⟨0, 0, Nat.zero_le _, Nat.zero_le _, ?_⟩
  unfold pq_Pc_checkIndex pq_Pc_checkIndex_0
  exact ⟨fun h => absurd h (nI_pos (by omega)), fun _ => ⟨fun _ => hp, fun h => absurd (nI_lt hi hn) h⟩⟩
theorem sp_charAt {Post : Int32 → wo_W → Prop} {i : Nat} (h : tx_S G a t) (hi : i < t.length) (hp : Post (nI (t.getD i 0)) G) : pq_St_charAt E mc ms Post G a (nI i) := by
  obtain ⟨h1, h2, h3, h4, b, h5, h6⟩ := h
  have hc := h4 _ (tx_mem hi)
  unfold pq_St_charAt pq_St_charAt_0
  refine ⟨h1, 0, 0, Nat.zero_le _, Nat.zero_le _, sp_isLatin1 h1 h2 ⟨fun q => absurd q (by decide), fun _ => ⟨h1, fun r hr => ⟨0, 0, Nat.zero_le _, Nat.zero_le _, ?_⟩⟩⟩⟩
  rw [hr, h5]
  unfold pq_La_charAt pq_La_charAt_0
  have e : wo_i2c (wo_ei G b (nI i).toNatClampNeg &&& 255) = nI (t.getD i 0) := by
    rw [nI_clamp (by omega), tx_at h6 hi, (sb_byte _ hc).1]
    exact (sb_byte _ hc).2.1
  refine ⟨b, rfl, h6.1, 0, 0, Nat.zero_le _, Nat.zero_le _, ?_⟩
  rw [h6.2.1]
  refine sp_checkIndex hi (by omega) ⟨h6.1, ?_, ?_⟩
  · rw [h6.2.1]; exact vp_in_nI hi (by omega)
  · rw [e]
    exact ⟨tx_okc (by omega), tx_okc (by omega), hp⟩
theorem sp_length {Post : Int32 → wo_W → Prop} (h : tx_S G a t) (hp : Post (nI t.length) G) : pq_St_length E mc ms Post G a := by
  obtain ⟨h1, h2, h3, h4, b, h5, h6⟩ := h
  unfold pq_St_length pq_St_length_0
  refine ⟨h1, fun r hr => ⟨b, hr.trans h5, h6.1, 0, 0, Nat.zero_le _, Nat.zero_le _, sp_coder h1 h2 ?_⟩⟩
  rw [h6.2.1, sb_shr0]
  exact hp
theorem sp_isEmpty {Post : Int32 → wo_W → Prop} (h : tx_S G a t) (hp : Post (if t = [] then 1 else 0) G) : pq_St_isEmpty E mc ms Post G a := by
  obtain ⟨h1, h2, h3, h4, b, h5, h6⟩ := h
  unfold pq_St_isEmpty pq_St_isEmpty_0 pq_St_isEmpty_13
  refine ⟨h1, fun r hr => ⟨b, hr.trans h5, h6.1, ?_, ?_⟩⟩
  · rw [h6.2.1]
    intro q
    rw [if_neg (fun e => q (by rw [e]; rfl))] at hp
    exact ⟨tx_ok0, hp⟩
  · rw [h6.2.1]
    intro q
    have : t = [] := by
      cases t with
      | nil => rfl
      | cons x l => exact absurd q (nI_ne0 (by simp) (by omega))
    rw [if_pos this] at hp
    exact ⟨tx_ok1, hp⟩
end SP
