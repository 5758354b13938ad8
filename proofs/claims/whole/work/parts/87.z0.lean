/-! A NEW OBJECT: both sides hold the empty plan, no past, no text, no fault -/
section S
theorem I_W : ReW iX8 (pNo 5 1) := ⟨fun _ _ => ⟨rfl, fun g => absurd g Bool.false_ne_true⟩, rfl, rfl⟩
theorem I_M : ReM iX10 (pNo 5 1) := ⟨fun _ _ => ⟨rfl, fun g => absurd g Bool.false_ne_true⟩, rfl, rfl⟩
theorem I_V : VP (pNo 5 1) := pNo_vp (by decide) (by decide)
theorem I_H (hs : Nat → Pln) : Hi iX2 iX8 iX8 iX8 iX8 iX8 iX8 iX8 iX8 iX10 hs 0 := ⟨⟨by decide, 0, by decide, rfl, rfl, fun d hd => absurd hd (by omega)⟩, ⟨by decide, rfl, fun d hd => absurd hd (by omega)⟩, fun d hd => absurd hd (by omega)⟩
theorem I_T (tx : Nat → Int) : TX iX7 iX10 tx 0 := ⟨by decide, rfl, rfl, fun j hj => absurd hj (by omega)⟩
theorem I_F : TF iX7 iX10 := ⟨rfl, rfl, rfl⟩
end S
