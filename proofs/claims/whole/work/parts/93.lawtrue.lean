/-! on every script the law's function answers 1 -/
theorem law_true (L : Nat) (xs : Nat → Int32) (hL : L ≤ 3584) : fL_b18 L xs FU iX9 iX8 iX8 iX8 iX2 iX8 iX8 iX8 iX8 iX8 iX8 iX8 iX8 iX7 iX6 iX4_300 iX4_144 iX6 iX4_300 iX4_144 iX0 iX1 iX4_55 iX5 iX3 iX10 0 = some 1 := l_loop hL 512 0 FU _ _ _ _ _ _ _ _ _ _ _ _ _ _ _ _ _ _ _ _ _ _ _ _ _ _ (by omega) (by omega) (by decide) I_all
