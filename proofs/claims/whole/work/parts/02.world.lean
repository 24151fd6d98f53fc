abbrev wo_W : Type := (Nat → Nat) × (Nat → Nat) × (Nat → Nat → Int32) × (Nat → Nat → Int64) × (Nat → Nat → Option Nat) × (Nat → Nat → Int32) × (Nat → Nat → Int64) × (Nat → Nat → Option Nat)
def wo_ty (G : wo_W) (a : Nat) : Nat := G.1 a
def wo_len (G : wo_W) (a : Nat) : Nat := G.2.1 a
def wo_gi (G : wo_W) (f a : Nat) : Int32 := G.2.2.1 f a
def wo_gl (G : wo_W) (f a : Nat) : Int64 := G.2.2.2.1 f a
def wo_gr (G : wo_W) (f a : Nat) : Option Nat := G.2.2.2.2.1 f a
def wo_ei (G : wo_W) (a i : Nat) : Int32 := G.2.2.2.2.2.1 a i
def wo_el (G : wo_W) (a i : Nat) : Int64 := G.2.2.2.2.2.2.1 a i
def wo_er (G : wo_W) (a i : Nat) : Option Nat := G.2.2.2.2.2.2.2 a i
def wo_u2 {α : Type} (F : Nat → Nat → α) (f a : Nat) (x : α) : Nat → Nat → α := fun g b => if g = f ∧ b = a then x else F g b
def wo_u1 {α : Type} (F : Nat → α) (a : Nat) (x : α) : Nat → α := fun b => if b = a then x else F b
def wo_uc {α : Type} (F : Nat → Nat → α) (a : Nat) (x : α) : Nat → Nat → α := fun g b => if b = a then x else F g b
def wo_ur {α : Type} (F : Nat → Nat → α) (a : Nat) (r : Nat → α) : Nat → Nat → α := fun b i => if b = a then r i else F b i
def wo_si (G : wo_W) (f a : Nat) (x : Int32) : wo_W := (G.1, G.2.1, wo_u2 G.2.2.1 f a x, G.2.2.2)
def wo_sl (G : wo_W) (f a : Nat) (x : Int64) : wo_W := (G.1, G.2.1, G.2.2.1, wo_u2 G.2.2.2.1 f a x, G.2.2.2.2)
def wo_sr (G : wo_W) (f a : Nat) (x : Option Nat) : wo_W := (G.1, G.2.1, G.2.2.1, G.2.2.2.1, wo_u2 G.2.2.2.2.1 f a x, G.2.2.2.2.2)
def wo_sei (G : wo_W) (a i : Nat) (x : Int32) : wo_W := (G.1, G.2.1, G.2.2.1, G.2.2.2.1, G.2.2.2.2.1, wo_u2 G.2.2.2.2.2.1 a i x, G.2.2.2.2.2.2)
def wo_sel (G : wo_W) (a i : Nat) (x : Int64) : wo_W := (G.1, G.2.1, G.2.2.1, G.2.2.2.1, G.2.2.2.2.1, G.2.2.2.2.2.1, wo_u2 G.2.2.2.2.2.2.1 a i x, G.2.2.2.2.2.2.2)
def wo_ser (G : wo_W) (a i : Nat) (x : Option Nat) : wo_W := (G.1, G.2.1, G.2.2.1, G.2.2.2.1, G.2.2.2.2.1, G.2.2.2.2.2.1, G.2.2.2.2.2.2.1, wo_u2 G.2.2.2.2.2.2.2 a i x)
def wo_new (G : wo_W) (q k : Nat) : wo_W := (wo_u1 G.1 q k, G.2.1, wo_uc G.2.2.1 q 0, wo_uc G.2.2.2.1 q 0, wo_uc G.2.2.2.2.1 q none, G.2.2.2.2.2)
def wo_na (G : wo_W) (q k n : Nat) : wo_W := (wo_u1 G.1 q k, wo_u1 G.2.1 q n, G.2.2.1, G.2.2.2.1, G.2.2.2.2.1, wo_ur G.2.2.2.2.2.1 q (fun _ => 0), wo_ur G.2.2.2.2.2.2.1 q (fun _ => 0), wo_ur G.2.2.2.2.2.2.2 q (fun _ => none))
def wo_cpI (G : wo_W) (a b sp dp n : Nat) : wo_W := (G.1, G.2.1, G.2.2.1, G.2.2.2.1, G.2.2.2.2.1, wo_ur G.2.2.2.2.2.1 b (va_cpy (wo_ei G a) (wo_ei G b) sp dp n), G.2.2.2.2.2.2)
def wo_cpL (G : wo_W) (a b sp dp n : Nat) : wo_W := (G.1, G.2.1, G.2.2.1, G.2.2.2.1, G.2.2.2.2.1, G.2.2.2.2.2.1, wo_ur G.2.2.2.2.2.2.1 b (va_cpy (wo_el G a) (wo_el G b) sp dp n), G.2.2.2.2.2.2.2)
def wo_cpR (G : wo_W) (a b sp dp n : Nat) : wo_W := (G.1, G.2.1, G.2.2.1, G.2.2.2.1, G.2.2.2.2.1, G.2.2.2.2.2.1, G.2.2.2.2.2.2.1, wo_ur G.2.2.2.2.2.2.2 b (va_cpy (wo_er G a) (wo_er G b) sp dp n))
def wo_cln (G : wo_W) (a q : Nat) : wo_W := (wo_u1 G.1 q (wo_ty G a), wo_u1 G.2.1 q (wo_len G a), G.2.2.1, G.2.2.2.1, G.2.2.2.2.1, wo_ur G.2.2.2.2.2.1 q (wo_ei G a), wo_ur G.2.2.2.2.2.2.1 q (wo_el G a), wo_ur G.2.2.2.2.2.2.2 q (wo_er G a))
def wo_isI : FieldType → Bool
  | .int => true
  | .boolean => true
  | .byte => true
  | .char => true
  | .short => true
  | _ => false
def wo_isR : FieldType → Bool
  | .object _ => true
  | .array _ => true
  | _ => false
def wo_fv (ty : FieldType) (G : wo_W) (f a : Nat) : Value := match ty with
  | .long => .long (wo_gl G f a)
  | .object _ => va_rf (wo_gr G f a)
  | .array _ => va_rf (wo_gr G f a)
  | _ => .int (wo_gi G f a)
def wo_ev (ty : FieldType) (G : wo_W) (a i : Nat) : Value := match ty with
  | .long => .long (wo_el G a i)
  | .object _ => va_rf (wo_er G a i)
  | .array _ => va_rf (wo_er G a i)
  | _ => .int (wo_ei G a i)
theorem wo_fv_I {ty : FieldType} (h : wo_isI ty = true) (G : wo_W) (f a : Nat) : wo_fv ty G f a = .int (wo_gi G f a) := by cases ty <;> first | rfl | cases h
theorem wo_fv_R {ty : FieldType} (h : wo_isR ty = true) (G : wo_W) (f a : Nat) : wo_fv ty G f a = va_rf (wo_gr G f a) := by cases ty <;> first | rfl | cases h
theorem wo_ev_I {ty : FieldType} (h : wo_isI ty = true) (G : wo_W) (a i : Nat) : wo_ev ty G a i = .int (wo_ei G a i) := by cases ty <;> first | rfl | cases h
theorem wo_ev_R {ty : FieldType} (h : wo_isR ty = true) (G : wo_W) (a i : Nat) : wo_ev ty G a i = va_rf (wo_er G a i) := by cases ty <;> first | rfl | cases h
def wo_eq (G G1 : wo_W) (a : Nat) : Prop := wo_ty G1 a = wo_ty G a ∧ wo_len G1 a = wo_len G a ∧ (∀ f, wo_gi G1 f a = wo_gi G f a) ∧ (∀ f, wo_gl G1 f a = wo_gl G f a) ∧ (∀ f, wo_gr G1 f a = wo_gr G f a) ∧ (∀ i, wo_ei G1 a i = wo_ei G a i) ∧ (∀ i, wo_el G1 a i = wo_el G a i) ∧ ∀ i, wo_er G1 a i = wo_er G a i
theorem wo_eq.fv {G G1 : wo_W} {a : Nat} (h : wo_eq G G1 a) (ty : FieldType) (f : Nat) : wo_fv ty G1 f a = wo_fv ty G f a := by
  obtain ⟨-, -, h1, h2, h3, -⟩ := h
  cases ty <;> simp [wo_fv, h1, h2, h3]
theorem wo_eq.ev {G G1 : wo_W} {a : Nat} (h : wo_eq G G1 a) (ty : FieldType) : wo_ev ty G1 a = wo_ev ty G a := by
  obtain ⟨-, -, -, -, -, h1, h2, h3⟩ := h
  funext i
  cases ty <;> simp [wo_ev, h1, h2, h3]
theorem wo_eq.rf (G : wo_W) (a : Nat) : wo_eq G G a := ⟨rfl, rfl, fun _ => rfl, fun _ => rfl, fun _ => rfl, fun _ => rfl, fun _ => rfl, fun _ => rfl⟩
abbrev wo_E : Type := (Nat → ClassId) × (Nat → Nat → Nat) × (Nat → ClassId) × Nat × (Nat → Nat) × (Nat → ClassId) × (Nat → Nat) × (Nat → Nat) × Nat
def en_dC (E : wo_E) : Nat → ClassId := E.1
def en_dI (E : wo_E) : Nat → Nat → Nat := E.2.1
def en_dA (E : wo_E) : Nat → ClassId := E.2.2.1
def en_bs (E : wo_E) : Nat := E.2.2.2.1
def en_ca (E : wo_E) : Nat → Nat := E.2.2.2.2.1
def en_cc (E : wo_E) : Nat → ClassId := E.2.2.2.2.2.1
def en_str (E : wo_E) : Nat → Nat := E.2.2.2.2.2.2.1
def en_sta (E : wo_E) : Nat → Nat := E.2.2.2.2.2.2.2.1
def en_cls (E : wo_E) : Nat := E.2.2.2.2.2.2.2.2
def en_A (E : wo_E) : Nat → Prop := fun q => en_bs E ≤ q
def en_tys (E : wo_E) : List (ClassId × FieldType) := vw_Ar.zipIdx.map (fun q => (en_dA E q.2, q.1))
theorem en_tys_at (E : wo_E) {j : Nat} {ty : FieldType} (h : vw_Ar[j]? = some ty) : (en_tys E)[j]? = some (en_dA E j, ty) := by
  simp [en_tys, List.getElem?_map, List.getElem?_zipIdx, h]
def wo_OB (E : wo_E) (G : wo_W) (H : Heap) (a c : Nat) (r : vw_C) : Prop :=
  (en_bs E ≤ a → t_OB a (en_dC E c) r.2.2 (en_dI E c) H (fun k => wo_fv (vw_Ty c k) G (64 * c + k) a)) ∧
  (a < en_bs E → ∃ cell : Cell, H[a]? = some cell ∧ cell.cls = en_dC E c ∧ cell.vm.isStatics = false ∧ cell.vm ≠ .unknown ∧ ∀ k, k < r.2.2 → vw_Kf c k = true → cell.slots[en_dI E c k]? = some (wo_fv (vw_Ty c k) G (64 * c + k) a))
def wo_AB (E : wo_E) (G : wo_W) (H : Heap) (a j : Nat) (ty : FieldType) : Prop :=
  (en_bs E ≤ a → H[a]? = some (arrV (en_dA E j) (wo_len G a) (wo_ev ty G a))) ∧
  (a < en_bs E → en_ca E a = j ∧ ∃ cell : Cell, H[a]? = some cell ∧ cell.cls = en_cc E a ∧ (∀ k, cell.vm ≠ .statics k) ∧ cell.vm ≠ .unknown ∧ wo_len G a ≤ cell.slots.size ∧ cell.slots.size.toInt32 = Int32.ofNat (wo_len G a) ∧ ∀ i, i < wo_len G a → cell.slots[i]? = some (wo_ev ty G a i))
def wo_Sa (E : wo_E) (G : wo_W) (H : Heap) (a : Nat) : Prop :=
  (wo_ty G a ≠ 0 → a < H.size) ∧ (∀ (c : Nat) (r : vw_C), wo_ty G a = c + 1 → vw_Cl[c]? = some r → wo_OB E G H a c r) ∧ ∀ (j : Nat) (ty : FieldType), wo_ty G a = 64 + j → vw_Ar[j]? = some ty → wo_AB E G H a j ty
def wo_Se (E : wo_E) (G : wo_W) (H : Heap) : Prop := en_bs E ≤ H.size ∧ ∀ a, wo_Sa E G H a
theorem wo_Sa.kept {E : wo_E} {G G1 : wo_W} {H H1 : Heap} {a : Nat} (h : wo_Sa E G H a) (hq : H1[a]? = H[a]?) (hz : H.size ≤ H1.size) (hs : wo_eq G G1 a) : wo_Sa E G1 H1 a := by
  obtain ⟨h1, h2, h3⟩ := h
  refine ⟨fun h => Nat.lt_of_lt_of_le (h1 (by rw [← hs.1]; exact h)) hz, fun c r hc hr => ?_, fun j ty hj ht => ?_⟩
  · obtain ⟨g1, g2⟩ := h2 c r (by rw [← hs.1]; exact hc) hr
    refine ⟨fun hb => ((g1 hb).kept hq).to (fun k _ => (hs.fv _ _).symm), fun hb => ?_⟩
    obtain ⟨cell, q1, q2, q3, q4, q5⟩ := g2 hb
    exact ⟨cell, hq.trans q1, q2, q3, q4, fun k hk hf => by rw [hs.fv]; exact q5 k hk hf⟩
  · obtain ⟨g1, g2⟩ := h3 j ty (by rw [← hs.1]; exact hj) ht
    refine ⟨fun hb => by rw [hq, g1 hb, hs.2.1, hs.ev], fun hb => ?_⟩
    obtain ⟨q0, cell, q1, q2, q3, q4, q5, q6, q7⟩ := g2 hb
    exact ⟨q0, cell, hq.trans q1, q2, q3, q4, by rw [hs.2.1]; exact q5, by rw [hs.2.1]; exact q6, fun i hi => by rw [hs.ev]; exact q7 i (by rw [← hs.2.1]; exact hi)⟩
theorem wo_Se.wr {E : wo_E} {G G1 : wo_W} {H H1 : Heap} {a : Nat} (h : wo_Se E G H) (z : H1.size = H.size) (oq : ∀ q, q ≠ a → H1[q]? = H[q]?) (hs : ∀ b, b ≠ a → wo_eq G G1 b) (ha : wo_Sa E G1 H1 a) : wo_Se E G1 H1 := by
  refine ⟨by rw [z]; exact h.1, fun b => ?_⟩
  by_cases hb : b = a
  · subst hb; exact ha
  · exact (h.2 b).kept (oq b hb) (Nat.le_of_eq z.symm) (hs b hb)
theorem wo_Se.push {E : wo_E} {G G1 : wo_W} {H H1 : Heap} (h : wo_Se E G H) (z : H1.size = H.size + 1) (oq : ∀ q, q < H.size → H1[q]? = H[q]?) (hs : ∀ b, b ≠ H.size → wo_eq G G1 b) (ha : wo_Sa E G1 H1 H.size) : wo_Se E G1 H1 := by
  refine ⟨by rw [z]; exact Nat.le_succ_of_le h.1, fun b => ?_⟩
  by_cases hb : b = H.size
  · subst hb; exact ha
  · by_cases hl : b < H.size
    · exact (h.2 b).kept (oq b hl) (by omega) (hs b hb)
    · have h0 : wo_ty G1 b = 0 := by
        rw [(hs b hb).1]
        exact Classical.byContradiction fun q => hl ((h.2 b).1 q)
      exact ⟨fun q => absurd h0 q, fun c r hc => by omega, fun j ty hj => by omega⟩
theorem wo_Se.free {E : wo_E} {G : wo_W} {H : Heap} (h : wo_Se E G H) : wo_ty G H.size = 0 := Classical.byContradiction fun q => absurd ((h.2 H.size).1 q) (Nat.lt_irrefl _)
