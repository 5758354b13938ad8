/-! ROOTS: the digits behind the point -/
section S
def X52 (c : Nat) (q : Int) : UInt64 := dE (.fin false c q)
theorem qnn_X {β : Type} {c : Nat} {q : Int} (h1 : 4503599627370496 ≤ c) (h2 : c < 9007199254740992) (h3 : -1074 ≤ q) (h4 : q ≤ 90) (k : Option β) : qnn (X52 c q) k = k := dF_nn (dF_X h1 h2 h3 h4) k
theorem X_half {c : Nat} {q : Int} (h1 : 4503599627370496 ≤ c) (h2 : c < 9007199254740992) (h3 : -1000 ≤ q) (h4 : q ≤ 90) : FP.ddiv (X52 c q) 4611686018427387904 = X52 c (q - 1) := by
  rw [d_two]
  refine (d_half h1 h2 (by omega) (by omega) (by omega) (by omega) (by omega) (by omega)).trans ?_
  exact congrArg (fun z => dE (.fin false c z)) (show q - -51 - 52 = q - 1 from by omega)
theorem M_halves (k : Nat) (hk : k ≤ 60) {c : Nat} {q0 : Int} (h1 : 4503599627370496 ≤ c) (h2 : c < 9007199254740992) (h3 : 0 ≤ q0) (h4 : q0 ≤ 1) : ∀ (n g j : Nat), j + n = k → n < g → fX10_root_b113 g (zI (k : Int)) (X52 c (q0 - (j : Int))) (zI (j : Int)) = some (X52 c (q0 - (k : Int))) := by
  intro n
  induction n with
  | zero =>
    intro g j hj hg
    obtain ⟨g, rfl⟩ := Nat.exists_eq_add_of_lt hg
    have : j = k := hj
    subst this
    show fX10_root_b113_s _ _ _ _ = _
    unfold fX10_root_b113_s
    rw [if_pos (Int32.le_refl _)]
  | succ n ih =>
    intro g j hj hg
    obtain ⟨g, rfl⟩ := Nat.exists_eq_add_of_lt hg
    show fX10_root_b113_s (fX10_root_b113 (n + 1 + g)) _ _ _ = _
    unfold fX10_root_b113_s
    rw [if_neg (ix_a (by omega) (by omega)), X_half h1 h2 (by omega) (by omega), qnn_X h1 h2 (by omega) (by omega), qn_s, qn_s, show zI (j : Int) + 1 = zI ((j + 1 : Nat) : Int) from by rw [show (1 : Int32) = zI 1 from rfl, zI_add]; rfl, show q0 - (j : Int) - 1 = q0 - ((j + 1 : Nat) : Int) from by omega]
    exact ih (n + 1 + g) (j + 1) (by omega) (by omega)
/-- one more digit -/
theorem C_digit {g R r k : Nat} (h2 : r ≤ 2 * R) (h3 : R < 9007199254740992) (hk : k ≤ 52) : fX9_squareRoot_b54 (g + 1) (zL (R : Int)) (zL (r : Int)) (X52 4503599627370496 ((k : Int) - 52)) (zI (k : Int)) = if r ≤ R then fX9_squareRoot_b54 g (zL ((2 * R : Nat) : Int)) (zL ((4 * r : Nat) : Int)) (X52 4503599627370496 (((k + 1 : Nat) : Int) - 52)) (zI ((k + 1 : Nat) : Int)) else fX9_squareRoot_b54 g (zL ((2 * R + 1 : Nat) : Int)) (zL ((4 * r - (4 * R + 1) : Nat) : Int)) (X52 4503599627370496 (((k + 1 : Nat) : Int) - 52)) (zI ((k + 1 : Nat) : Int)) := by
  show fX9_squareRoot_b54_s (fX9_squareRoot_b54 g) _ _ _ _ = _
  unfold fX9_squareRoot_b54_s
  have c0 : ¬ (54 : Int32) ≤ zI (k : Int) := ix_a (n := 54) (by omega) (by decide)
  have c1 : ¬ 0 ≤ lg_cmp (zL (R : Int)) 9007199254740992 := by
    rw [cmp_ge, show (9007199254740992 : Int64) = zL 9007199254740992 from rfl, zL_le ⟨by decide, by decide⟩ ⟨by omega, by omega⟩]
    omega
  have sc : FP.dmul (X52 4503599627370496 ((k : Int) - 52)) 4611686018427387904 = X52 4503599627370496 (((k + 1 : Nat) : Int) - 52) := by
    rw [d_two]
    refine (d_twice (by omega) (by omega)).trans ?_
    exact congrArg (fun z => dE (.fin false 4503599627370496 z)) (show (k : Int) - 52 + 1 = ((k + 1 : Nat) : Int) - 52 from by omega)
  have lc : lg_cmp (zL (4 * (r : Int))) (zL (4 * (R : Int) + 1)) < 0 ↔ r ≤ R := by
    rw [cmp_lt, zL_lt ⟨by omega, by omega⟩ ⟨by omega, by omega⟩]
    omega
  rw [if_neg c0, if_neg c1, qn_s, qn_s, qn_s, show (4 : Int64) = zL 4 from rfl, show (2 : Int64) = zL 2 from rfl, show (1 : Int64) = zL 1 from rfl, zL_mul, zL_mul, zL_add, zL_mul]
  have b : ∀ y1 y3 : Int64, fX9_squareRoot_b106 (fX9_squareRoot_b54 g) y1 y3 (X52 4503599627370496 ((k : Int) - 52)) (zI (k : Int)) = fX9_squareRoot_b54 g y1 y3 (X52 4503599627370496 (((k + 1 : Nat) : Int) - 52)) (zI ((k + 1 : Nat) : Int)) := by
    intro y1 y3
    unfold fX9_squareRoot_b106
    rw [sc, qnn_X (by decide) (by decide) (by omega) (by omega), qn_s, qn_s, show zI (k : Int) + 1 = zI ((k + 1 : Nat) : Int) from by rw [show (1 : Int32) = zI 1 from rfl, zI_add]; rfl]
  by_cases c : r ≤ R
  · rw [if_pos (lc.mpr c), if_pos c, b]
    rfl
  · rw [if_neg (fun h => c (lc.mp h)), if_neg c, qn_s, qn_s, b, zL_sub, zL_add, show 4 * (r : Int) - (4 * (R : Int) + 1) = ((4 * r - (4 * R + 1) : Nat) : Int) from by omega]
    rfl
theorem M_digit {g R r k : Nat} {s : Int32} (h2 : r ≤ 2 * R) (h3 : R < 4503599627370496) (hk : k ≤ 52) : fX10_root_b11 (g + 1) s (zL (R : Int)) (zL (r : Int)) (zI (k : Int)) (zI (-2 - 2 * (k : Int))) = if r ≤ R then fX10_root_b11 g s (zL ((2 * R : Nat) : Int)) (zL ((4 * r : Nat) : Int)) (zI ((k + 1 : Nat) : Int)) (zI (-2 - 2 * ((k + 1 : Nat) : Int))) else fX10_root_b11 g s (zL ((2 * R + 1 : Nat) : Int)) (zL ((4 * r - (4 * R + 1) : Nat) : Int)) (zI ((k + 1 : Nat) : Int)) (zI (-2 - 2 * ((k + 1 : Nat) : Int))) := by
  show fX10_root_b11_s (fX10_root_b11 g) _ _ _ _ _ = _
  unfold fX10_root_b11_s
  have c1 : ¬ 0 ≤ lg_cmp (zL (R : Int)) 4503599627370496 := by
    rw [cmp_ge, show (4503599627370496 : Int64) = zL 4503599627370496 from rfl, zL_le ⟨by decide, by decide⟩ ⟨by omega, by omega⟩]
    omega
  have ng : zI (-2 - 2 * (k : Int)) < 0 := by rw [show (0 : Int32) = zI 0 from rfl, zI_lt (rI_s (by omega) (by omega)) r0]; omega
  have ng2 : ¬ 0 ≤ zI (-2 - 2 * (k : Int)) := by rw [show (0 : Int32) = zI 0 from rfl, zI_le r0 (rI_s (by omega) (by omega))]; omega
  have lc : lg_cmp (zL (4 * (r : Int))) (zL (4 * (R : Int) + 1)) < 0 ↔ r ≤ R := by
    rw [cmp_lt, zL_lt ⟨by omega, by omega⟩ ⟨by omega, by omega⟩]
    omega
  rw [if_neg c1, if_pos ng]
  unfold fX10_root_b39
  have z0' : Int32.toInt64 0 = zL 0 := by decide
  rw [z0', qn_s, qn_s, qn_s, show (4 : Int64) = zL 4 from rfl, show (2 : Int64) = zL 2 from rfl, show (1 : Int64) = zL 1 from rfl, zL_mul, zL_add, zL_mul, zL_mul, zL_add, show 4 * (r : Int) + 0 = 4 * (r : Int) from by omega]
  have b : ∀ y1 y3 : Int64, fX10_root_b73 (fX10_root_b11 g) s y1 y3 (zI (k : Int)) (zI (-2 - 2 * (k : Int))) = fX10_root_b11 g s y1 y3 (zI ((k + 1 : Nat) : Int)) (zI (-2 - 2 * ((k + 1 : Nat) : Int))) := by
    intro y1 y3
    unfold fX10_root_b73 fX10_root_b85
    rw [if_neg ng2, qn_s, qn_s, show (-2 : Int32) = zI (-2) from rfl, zI_add, show (1 : Int32) = zI 1 from rfl, zI_add, show -2 - 2 * (k : Int) + -2 = -2 - 2 * ((k + 1 : Nat) : Int) from by omega]
    rfl
  by_cases c : r ≤ R
  · rw [if_pos (lc.mpr c), if_pos c, b]
    rfl
  · rw [if_neg (fun h => c (lc.mp h)), if_neg c, qn_s, qn_s, b, zL_sub, zL_add, show 4 * (r : Int) - (4 * (R : Int) + 1) = ((4 * r - (4 * R + 1) : Nat) : Int) from by omega]
    rfl
/-- where the class ends: one digit more than asked -/
theorem C_root_end {g R k : Nat} {v : Nat} (hR : R = 2 * v ∨ R + 1 = 2 * v) (h1 : 9007199254740992 ≤ R) (h2 : R < 18014398509481984) (hk : k ≤ 52) (y3 : Int64) : ∃ (c : Nat) (q : Int), 4503599627370496 ≤ c ∧ c < 9007199254740992 ∧ 0 ≤ q ∧ q ≤ 1 ∧ FP.l2d (zL (v : Int)) = X52 c q ∧ fX9_squareRoot_b54 (g + 1) (zL (R : Int)) y3 (X52 4503599627370496 (((k + 1 : Nat) : Int) - 52)) (zI ((k + 1 : Nat) : Int)) = some (X52 c (q - (k : Int))) := by
  obtain ⟨c, q, g1, g2, g3, g4, g5⟩ := d_l2d (v := (v : Int)) (by omega) (by omega)
  refine ⟨c, q, g1, g2, g3, g4, g5, ?_⟩
  show fX9_squareRoot_b54_s (fX9_squareRoot_b54 g) _ _ _ _ = _
  unfold fX9_squareRoot_b54_s
  have c0 : ¬ (54 : Int32) ≤ zI ((k + 1 : Nat) : Int) := ix_a (n := 54) (by omega) (by decide)
  have c1 : 0 ≤ lg_cmp (zL (R : Int)) 9007199254740992 := by
    rw [cmp_ge, show (9007199254740992 : Int64) = zL 9007199254740992 from rfl, zL_le ⟨by decide, by decide⟩ ⟨by omega, by omega⟩]
    omega
  have hv : (R + 1) / 2 = v := by omega
  rw [if_neg c0, if_pos c1]
  unfold fX9_squareRoot_b120
  rw [qnzl_s (show ¬ (2 : Int64) = 0 from by decide), X_half (by decide) (by decide) (by omega) (by omega), qnn_X (by decide) (by decide) (by omega) (by omega), show zL (R : Int) + 1 = zL ((R + 1 : Nat) : Int) from by rw [show (1 : Int64) = zL 1 from rfl, zL_add]; rfl, zL_half (by omega), hv, g5]
  have dd : FP.ddiv (X52 c q) (X52 4503599627370496 (((k + 1 : Nat) : Int) - 52 - 1)) = X52 c (q - (k : Int)) := by
    refine (d_half g1 g2 (by omega) (by omega) (by omega) (by omega) (by omega) (by omega)).trans ?_
    exact congrArg (fun z => dE (.fin false c z)) (show q - (((k + 1 : Nat) : Int) - 52 - 1) - 52 = q - (k : Int) from by omega)
  show qnn (FP.ddiv (X52 c q) _) (some (FP.ddiv (X52 c q) _)) = _
  rw [dd, qnn_X g1 g2 (by omega) (by omega)]
theorem S_root_tail (s : Int32) : ∀ (n k R r g g' : Nat), 1 ≤ R → r ≤ 2 * R → R < 9007199254740992 → 4503599627370496 ≤ R * 2 ^ n → k + n ≤ 52 → n + 2 ≤ g → n + 1 ≤ g' → ∃ (c : Nat) (q : Int), 4503599627370496 ≤ c ∧ c < 9007199254740992 ∧ -60 ≤ q ∧ q ≤ 1 ∧ fX9_squareRoot_b54 g (zL (R : Int)) (zL (r : Int)) (X52 4503599627370496 ((k : Int) - 52)) (zI (k : Int)) = some (X52 c q) ∧ fX10_root_b11 g' s (zL (R : Int)) (zL (r : Int)) (zI (k : Int)) (zI (-2 - 2 * (k : Int))) = some (X52 c q) := by
  have base : ∀ (k R r g g' : Nat), r ≤ 2 * R → R < 9007199254740992 → 4503599627370496 ≤ R → k ≤ 52 → ∃ (c : Nat) (q : Int), 4503599627370496 ≤ c ∧ c < 9007199254740992 ∧ -60 ≤ q ∧ q ≤ 1 ∧ fX9_squareRoot_b54 (g + 2) (zL (R : Int)) (zL (r : Int)) (X52 4503599627370496 ((k : Int) - 52)) (zI (k : Int)) = some (X52 c q) ∧ fX10_root_b11 (g' + 1) s (zL (R : Int)) (zL (r : Int)) (zI (k : Int)) (zI (-2 - 2 * (k : Int))) = some (X52 c q) := by
    intro k R r g g' h2 h3 h4 hk
    have c1 : 0 ≤ lg_cmp (zL (R : Int)) 4503599627370496 := by
      rw [cmp_ge, show (4503599627370496 : Int64) = zL 4503599627370496 from rfl, zL_le ⟨by decide, by decide⟩ ⟨by omega, by omega⟩]
      omega
    have lc : lg_cmp (zL (r : Int)) (zL (R : Int)) ≤ 0 ↔ r ≤ R := by
      rw [cmp_le, zL_le ⟨by omega, by omega⟩ ⟨by omega, by omega⟩]
      omega
    have fin : ∀ v : Nat, (∃ (c : Nat) (q : Int), 4503599627370496 ≤ c ∧ c < 9007199254740992 ∧ 0 ≤ q ∧ q ≤ 1 ∧ FP.l2d (zL (v : Int)) = X52 c q ∧ fX9_squareRoot_b54 (g + 2) (zL (R : Int)) (zL (r : Int)) (X52 4503599627370496 ((k : Int) - 52)) (zI (k : Int)) = some (X52 c (q - (k : Int)))) → fX10_root_b11 (g' + 1) s (zL (R : Int)) (zL (r : Int)) (zI (k : Int)) (zI (-2 - 2 * (k : Int))) = fX10_root_b107 (zI (k : Int)) (zL (v : Int)) → ∃ (c : Nat) (q : Int), 4503599627370496 ≤ c ∧ c < 9007199254740992 ∧ -60 ≤ q ∧ q ≤ 1 ∧ fX9_squareRoot_b54 (g + 2) (zL (R : Int)) (zL (r : Int)) (X52 4503599627370496 ((k : Int) - 52)) (zI (k : Int)) = some (X52 c q) ∧ fX10_root_b11 (g' + 1) s (zL (R : Int)) (zL (r : Int)) (zI (k : Int)) (zI (-2 - 2 * (k : Int))) = some (X52 c q) := by
      intro v hc hm
      obtain ⟨c, q, a1, a2, a3, a4, a5, a6⟩ := hc
      refine ⟨c, q - (k : Int), a1, a2, by omega, by omega, a6, ?_⟩
      rw [hm]
      unfold fX10_root_b107
      rw [qn_s, a5, show (0 : Int32) = zI ((0 : Nat) : Int) from rfl]
      have := M_halves k (by omega) a1 a2 a3 a4 k FU 0 (Nat.zero_add k) (Nat.lt_of_le_of_lt hk (by decide))
      rwa [show q - ((0 : Nat) : Int) = q from by omega] at this
    have mb : fX10_root_b11 (g' + 1) s (zL (R : Int)) (zL (r : Int)) (zI (k : Int)) (zI (-2 - 2 * (k : Int))) = if lg_cmp (zL (r : Int)) (zL (R : Int)) ≤ 0 then fX10_root_b107 (zI (k : Int)) (zL (R : Int)) else fX10_root_b107 (zI (k : Int)) (zL (R : Int) + 1) := by
      show fX10_root_b11_s (fX10_root_b11 g') _ _ _ _ _ = _
      unfold fX10_root_b11_s
      rw [if_pos c1]
    have cd := C_digit (g := g + 1) h2 h3 hk
    by_cases c : r ≤ R
    · refine fin R ?_ (by rw [mb, if_pos (lc.mpr c)])
      obtain ⟨cc, q, a1, a2, a3, a4, a5, a6⟩ := C_root_end (g := g) (R := 2 * R) (v := R) (k := k) (Or.inl rfl) (by omega) (by omega) hk (zL ((4 * r : Nat) : Int))
      refine ⟨cc, q, a1, a2, a3, a4, a5, ?_⟩
      rw [show g + 2 = g + 1 + 1 from rfl, cd, if_pos c, a6]
    · refine fin (R + 1) ?_ (by rw [mb, if_neg (fun h => c (lc.mp h)), show (1 : Int64) = zL 1 from rfl, zL_add]; rfl)
      obtain ⟨cc, q, a1, a2, a3, a4, a5, a6⟩ := C_root_end (g := g) (R := 2 * R + 1) (v := R + 1) (k := k) (Or.inr (by omega)) (by omega) (by omega) hk (zL ((4 * r - (4 * R + 1) : Nat) : Int))
      refine ⟨cc, q, a1, a2, a3, a4, a5, ?_⟩
      rw [show g + 2 = g + 1 + 1 from rfl, cd, if_neg c, a6]
  intro n
  induction n with
  | zero =>
    intro k R r g g' h1 h2 h3 h4 hk hg hg'
    obtain ⟨g, rfl⟩ := Nat.exists_eq_add_of_le hg
    obtain ⟨g', rfl⟩ := Nat.exists_eq_add_of_le hg'
    rw [show 0 + 2 + g = g + 2 from by omega, show 0 + 1 + g' = g' + 1 from by omega]
    exact base k R r g g' h2 h3 (by rw [Nat.pow_zero] at h4; omega) (by omega)
  | succ n ih =>
    intro k R r g g' h1 h2 h3 h4 hk hg hg'
    by_cases hR : 4503599627370496 ≤ R
    · obtain ⟨g, rfl⟩ := Nat.exists_eq_add_of_le (show 2 ≤ g from by omega)
      obtain ⟨g', rfl⟩ := Nat.exists_eq_add_of_le (show 1 ≤ g' from by omega)
      rw [Nat.add_comm 2 g, Nat.add_comm 1 g']
      exact base k R r g g' h2 h3 hR (by omega)
    · obtain ⟨g, rfl⟩ := Nat.exists_eq_add_of_le (show 1 ≤ g from by omega)
      obtain ⟨g', rfl⟩ := Nat.exists_eq_add_of_le (show 1 ≤ g' from by omega)
      rw [Nat.add_comm 1 g, Nat.add_comm 1 g']
      have h4' : 4503599627370496 ≤ 2 * R * 2 ^ n := by rw [Nat.pow_succ] at h4; rw [Nat.mul_comm 2 R, Nat.mul_assoc, Nat.mul_comm 2]; exact h4
      rw [C_digit h2 h3 (by omega), M_digit h2 (by omega) (by omega)]
      by_cases c : r ≤ R
      · rw [if_pos c, if_pos c]
        exact ih (k + 1) (2 * R) (4 * r) g g' (by omega) (by omega) (by omega) h4' (by omega) (by omega) (by omega)
      · rw [if_neg c, if_neg c]
        exact ih (k + 1) (2 * R + 1) (4 * r - (4 * R + 1)) g g' (by omega) (by omega) (by omega) (Nat.le_trans h4' (Nat.mul_le_mul_right _ (by omega))) (by omega) (by omega) (by omega)
theorem S_root {s : Nat} (h1 : 1 ≤ s) (hs : s < 10000) : ∃ v, fX9_squareRoot (zI (s : Int)) = some v ∧ fX10_root (zI (s : Int)) = some v ∧ dF 90 v := by
  obtain ⟨R, r, a1, a2, a3⟩ := C_root_int hs 100 FU 0 (by omega) (by decide) (by omega)
  obtain ⟨R', r', b1, b2', b3⟩ := M_root_int (show s < 16384 from by omega) 7 (4095 - 6) 0 0 (Nat.le_refl _) (by rw [Nat.div_eq_of_lt (show s < 4 ^ 7 from by
    show s < 16384
    omega)]) (Nat.le_refl _)
  obtain ⟨rfl, rfl⟩ := root_one a1 a2 b1 b2'
  have hR : 1 ≤ R := by
    refine Nat.pos_of_ne_zero (fun h => ?_)
    subst h
    omega
  have hRs : R ≤ R * R := Nat.le_mul_self R
  obtain ⟨c, q, g1, g2, g3, g4, g5, g6⟩ := S_root_tail (zI (s : Int)) 52 0 R r FU (4095 - 6) hR a2 (by omega) (by
    have := Nat.mul_le_mul_right (2 ^ 52) hR
    omega) (by omega) (by decide) (by decide)
  refine ⟨X52 c q, ?_, ?_, dF_X g1 g2 (by omega) (by omega)⟩
  · unfold fX9_squareRoot
    refine a3.trans ?_
    unfold fX9_squareRoot_b33
    have nz : ¬ lg_cmp (zL (R : Int)) 0 = 0 := fun h => by
      rw [cmp_eq, zL0, zL_eq ⟨by omega, by omega⟩ rL0] at h
      omega
    rw [if_neg nz, qn_s, zI_long (rI_n (by omega)), zL_mul, zL_sub, d_one, show (s : Int) - (R : Int) * (R : Int) = (r : Int) from by
      have : ((R * R : Nat) : Int) = (R : Int) * (R : Int) := Int.natCast_mul R R
      omega]
    exact g5
  · unfold fX10_root
    refine b3.trans ?_
    exact g6
end S
