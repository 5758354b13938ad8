/-! A NEW OBJECT: both sides hold the empty plan, no past, no text, no fault -/
section S
theorem I_W : ReW iX8 (pNo 5 1) := ⟨fun _ _ => ⟨rfl, fun g => absurd g Bool.false_ne_true⟩, rfl, rfl⟩
theorem I_M : ReM iX10 (pNo 5 1) := ⟨fun _ _ => ⟨rfl, fun g => absurd g Bool.false_ne_true⟩, rfl, rfl⟩
theorem I_V : VP (pNo 5 1) := pNo_vp (by decide) (by decide)
theorem I_H (hs : Nat → Pln) : Hi iX2 iX8 iX8 iX8 iX8 iX8 iX8 iX8 iX8 iX10 hs 0 := ⟨⟨by decide, 0, by decide, rfl, rfl, fun d hd => absurd hd (by omega)⟩, ⟨by decide, rfl, fun d hd => absurd hd (by omega)⟩, fun d hd => absurd hd (by omega)⟩
theorem I_T (tx : Nat → Int) : TX iX7 iX10 tx 0 := ⟨by decide, rfl, rfl, fun j hj => absurd hj (by omega)⟩
theorem I_F : TF iX7 iX10 := ⟨rfl, rfl, rfl⟩
theorem I_L (π : List Bool) : Ls (tT (pNo 5 1)) π = [] := by
  induction π with
  | nil => rfl
  | cons s π ih =>
    show prts _ _ s (Ls (tT (pNo 5 1)) π) = []
    rw [ih]
    rfl
theorem I_C : CTree (tT (pNo 5 1)) iX6 iX4_144 := by
  refine ⟨?_, ⟨?_, ?_, ?_, ?_, trivial⟩, fun π h => absurd (I_L π) h, ?_⟩
  · rw [cc_leaf (I_L [])]; rfl
  · rw [nN_leaf (I_L [])]; rfl
  · rw [nL_leaf (I_L [])]; rfl
  · rw [lD_leaf (I_L [])]; rfl
  · rw [dD_leaf (I_L [])]; rfl
  · rw [pcl_leaf (I_L [])]
    exact ⟨by decide, by decide, rfl, rfl, fun i q h => by cases h⟩
theorem I_B : ReB iX10 (pNo 5 1) := ⟨fun _ _ => ⟨rfl, fun g => absurd g Bool.false_ne_true⟩, rfl, rfl⟩
theorem I_P3 : PLx iX4_300 300 := ⟨[], by decide, by decide, rfl, rfl, fun i q h => by cases h⟩
theorem I_P1 : PLx iX4_144 144 := ⟨[], by decide, by decide, rfl, rfl, fun i q h => by cases h⟩
theorem I_P5 : PLx iX4_55 55 := ⟨[], by decide, by decide, rfl, rfl, fun i q h => by cases h⟩
theorem I_I : TInv iX9 iX8 iX6 iX4_300 iX4_144 iX10 (pNo 5 1) (pNo 5 1) := ⟨I_W, I_V, I_P3, I_P1, Or.inr ⟨rfl, smP_self, I_C⟩, rfl, I_B⟩
theorem I_R : R65 iX10 := by
  intro j hj
  have : j = 0 ∨ j = 1 ∨ j = 2 ∨ j = 3 ∨ j = 4 ∨ j = 5 := by omega
  rcases this with h | h | h | h | h | h <;> subst h <;> rfl
theorem I_all : InvL iX9 iX8 iX8 iX8 iX2 iX8 iX8 iX8 iX8 iX8 iX8 iX8 iX8 iX7 iX6 iX4_300 iX4_144 iX4_300 iX4_144 iX4_55 iX10 := ⟨pNo 5 1, pNo 5 1, fun _ => pNo 5 1, 0, fun _ => 0, 0, I_W, I_M, I_V, I_H _, I_T _, I_F, ⟨rfl, rfl⟩, I_I, I_P3, I_P1, I_P5, I_R⟩
end S
