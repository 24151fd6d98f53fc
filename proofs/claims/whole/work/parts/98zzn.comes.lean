section MD
variable {E : wo_E} {mc ms m c s b k cap now tg o : Nat} {G0 G G1 G2 : wo_W} {ow : Nat → Nat} {A : Nat → Nat} {P Q : Nat → Nat → Prop} {raw raw' out : List Nat} {sh sh' : Bool} {nh na : Nat} {an an' : Nat → Option (List Nat)} {rv rv' : Nat → Nat → rqT} {rs : List roT} {ss : List sdT} {wt : List jobT} {sn : Nat → Option jobT} {cn : Nat → cnT} {v w : cnT} {S : hdT}
theorem mjs_free {W : jlT} {us : jsT} {n : Nat} (hb : mjs m A G rv W us n) (e : wq (W, us) = (wt, sn)) (hl : (al wt sn).length < 8) : ∃ j, j < 8 ∧ j ∉ W.map (fun x => x.1) ∧ ∀ u x, u < 2 → us u = some x → x.1 ≠ j := by
  have e1 : W.map (fun x => x.2.2) = wt := congrArg Prod.fst e
  have e0 := wq_u e
  obtain ⟨⟨b1, b2, b3⟩, ⟨b4, b5⟩, b6⟩ := hb
  have hlen : (W.map (fun x => x.1) ++ (((us 0).map (fun x => x.1)).toList ++ ((us 1).map (fun x => x.1)).toList)).length = (al wt sn).length := by
    unfold al
    rw [← e1, e0 0, e0 1]
    simp only [List.length_append, List.length_map]
    cases us 0 with
    | none => cases us 1 with
      | none => rfl
      | some y => rfl
    | some x => cases us 1 with
      | none => rfl
      | some y => rfl
  have hnd : (W.map (fun x => x.1) ++ (((us 0).map (fun x => x.1)).toList ++ ((us 1).map (fun x => x.1)).toList)).Nodup := by
    refine List.nodup_append.mpr ⟨b1, ?_, fun a ha d hd ed => ?_⟩
    · cases u0 : us 0 with
      | none => cases u1 : us 1 with
        | none => simp
        | some y => simp
      | some x => cases u1 : us 1 with
        | none => simp
        | some y => simpa using b5 x y u0 u1
    · rcases List.mem_append.mp hd with q | q
      · cases u0 : us 0 with
        | none => rw [u0] at q; cases q
        | some x =>
          rw [u0] at q
          have q : d = x.1 := by simpa using q
          exact (b4 0 x (by decide) u0).2.1 (by rw [← q, ← ed]; exact ha)
      · cases u0 : us 1 with
        | none => rw [u0] at q; cases q
        | some x =>
          rw [u0] at q
          have q : d = x.1 := by simpa using q
          exact (b4 1 x (by decide) u0).2.1 (by rw [← q, ← ed]; exact ha)
  have hlt : ∀ x ∈ (W.map (fun x => x.1) ++ (((us 0).map (fun x => x.1)).toList ++ ((us 1).map (fun x => x.1)).toList)), x < 8 := by
    intro x hx
    rcases List.mem_append.mp hx with q | q
    · obtain ⟨y, hy, ey⟩ := List.mem_map.mp q
      rw [← ey]; exact (b2 y hy).1
    · rcases List.mem_append.mp q with q | q
      · cases u0 : us 0 with
        | none => rw [u0] at q; cases q
        | some y =>
          rw [u0] at q
          have q : x = y.1 := by simpa using q
          rw [q]; exact (b4 0 y (by decide) u0).1
      · cases u0 : us 1 with
        | none => rw [u0] at q; cases q
        | some y =>
          rw [u0] at q
          have q : x = y.1 := by simpa using q
          rw [q]; exact (b4 1 y (by decide) u0).1
  have hex : ∃ j, j < 8 ∧ j ∉ (W.map (fun x => x.1) ++ (((us 0).map (fun x => x.1)).toList ++ ((us 1).map (fun x => x.1)).toList)) := by
    apply Decidable.byContradiction
    intro z
    have := nd_full hnd hlt (fun j hj => by
      apply Decidable.byContradiction
      intro y
      exact z ⟨j, hj, y⟩)
    omega
  obtain ⟨j, hj, hjn⟩ := hex
  refine ⟨j, hj, fun z => hjn (List.mem_append_left _ z), fun u x hu ex ej => hjn (List.mem_append_right _ ?_)⟩
  rcases (by omega : u = 0 ∨ u = 1) with q | q
  · subst q
    refine List.mem_append_left _ ?_
    rw [ex]; simp [ej]
  · subst q
    refine List.mem_append_right _ ?_
    rw [ex]; simp [ej]
theorem mr_of (hm : mf E ow m A P G G1) (hcn : ∀ e, e < 3 → mcn A G1 e (cn e)) (hmo : mo m A G1 (rvf cn) rs tg ss wt sn cap now k) : mr E ow m A G1 (cn, rs, tg, ss, wt, sn) cap now k := ⟨hm.k, hcn, hmo⟩
theorem Pha_C {e f i : Nat} (hec : e ≠ c) (h : PC e f i) : ¬ Pha c f i := by
  intro z
  have z : PF c f i ∨ FS f ∨ f = 943 ∨ f = 944 := z
  have hf : 896 ≤ f ∧ f ≤ 904 := by unfold PC at h; omega
  rcases z with z | z | z
  · exact PC_ne hec h (PF_C z)
  · unfold FS FT FP at z; omega
  · omega
theorem Pha_J {f i : Nat} (h : PJ f i) : ¬ Pha c f i := by
  intro z
  have z : PF c f i ∨ FS f ∨ f = 943 ∨ f = 944 := z
  have hf : 907 ≤ f ∧ f ≤ 935 := by unfold PJ at h; omega
  rcases z with z | z | z
  · unfold PF at z; omega
  · unfold FS FT FP at z; omega
  · omega
theorem Pha_R {f i : Nat} (h : PR f) : ¬ Pha c f i := by
  intro z
  have z : PF c f i ∨ FS f ∨ f = 943 ∨ f = 944 := z
  unfold PR at h
  rcases z with z | z | z
  · unfold PF at z; omega
  · unfold FS FT FP at z; omega
  · omega
def Pnw (c n : Nat) : Nat → Nat → Prop := fun f i => f = 902 ∧ i = 4 * c + n % 4 ∨ f = 904 ∧ i = c
theorem Pnw_C {f i : Nat} (h : Pnw c nh f i) : PC c f i := by
  rcases h with ⟨h1, h2⟩ | ⟨h1, h2⟩
  · exact Or.inr (Or.inr (Or.inr (Or.inr (Or.inr (Or.inr (Or.inl ⟨h1, by omega⟩))))))
  · exact Or.inr (Or.inr (Or.inr (Or.inr (Or.inr (Or.inr (Or.inr (Or.inr ⟨h1, h2⟩)))))))
end MD
