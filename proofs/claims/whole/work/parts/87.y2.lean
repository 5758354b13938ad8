/-! THE LAW'S LOOP: all calls, all steps -/
section S
variable {N a : Nat} {xs : Nat → Int32} {t w b l H k0 k1 k2 k3 k4 k5 k6 k7 x T Lo P C M Q d F G r n m : Pk}
variable {rec18 : Pk → Pk → Pk → Pk → Pk → Pk → Pk → Pk → Pk → Pk → Pk → Pk → Pk → Pk → Pk → Pk → Pk → Pk → Pk → Pk → Pk → Pk → Pk → Pk → Pk → Pk → Int32 → Option Int32}
theorem ite_1 {a b : Int32} {s u : Option Int32} (h1 : s = some 1) (h2 : u = some 1) : (if a = b then s else u) = some 1 := by
  by_cases c : a = b
  · rw [if_pos c]; exact h1
  · rw [if_neg c]; exact h2
theorem N_z (N : Nat) : Int32.ofNat N - 7 = zI ((N : Int) - 7) := by
  rw [show Int32.ofNat N = zI (N : Int) from (Int32.ofInt_eq_ofNat (n := N)).symm, show (7 : Int32) = zI 7 from rfl, zI_sub]
theorem l_all (hN : N ≤ 3584) (ha : a + 7 ≤ N) (g : GoL N xs rec18 (zI (a : Int))) (I : InvL t w b l H k0 k1 k2 k3 k4 k5 k6 k7 x T Lo P M Q G m) : fL_b18_s N xs rec18 t w b l H k0 k1 k2 k3 k4 k5 k6 k7 x T Lo P C M Q d F G r n m (zI (a : Int)) = some 1 := by
  unfold fL_b18_s
  have c : ¬ Int32.ofNat N - 7 < zI (a : Int) := by rw [N_z, zI_lt (rI_s (by omega) (by omega)) (rI_n (by omega))]; omega
  rw [if_neg c, qld_at (by omega) (by omega), qn_s]
  exact ite_1 (l_b240 hN ha g I) (ite_1 (l_b315 hN ha g I) (ite_1 (l_b338 hN ha g I) (ite_1 (l_b381 hN ha g I) (ite_1 (l_b404 hN ha g I) (ite_1 (l_b437 hN ha g I) (ite_1 (l_b470 hN ha g I) (ite_1 (l_b483 hN ha g I) (ite_1 (l_b496 hN ha g I) (ite_1 (l_b529 hN ha g I) (ite_1 (l_b552 hN ha g I) (ite_1 (l_b565 hN ha g I) (ite_1 (l_b588 hN ha g I) (ite_1 (l_b601 hN ha g I) (ite_1 (l_b614 hN ha g I) (ite_1 (l_b627 hN ha g I) (ite_1 (l_b640 hN ha g I) (ite_1 (l_b653 hN ha g I) (ite_1 (l_b666 hN ha g I) (ite_1 (l_b689 hN ha g I) (ite_1 (l_b722 hN ha g I) (ite_1 (l_b745 hN ha g I) (ite_1 (l_b758 hN ha g I) (ite_1 (l_b781 hN ha g I) (ite_1 (l_b804 hN ha g I) (ite_1 (l_b837 hN ha g I) (ite_1 (l_b888 hN ha g I) (ite_1 (l_b921 hN ha g I) (ite_1 (l_b962 hN ha g I) (ite_1 (l_b975 hN ha g I) (ite_1 (l_b1008 hN ha g I) (ite_1 (l_b1051 hN ha g I) (ite_1 (l_b1104 hN ha g I) (ite_1 (l_b1167 hN ha g I) (ite_1 (l_b1220 hN ha g I) (ite_1 (l_b1283 hN ha g I) (ite_1 (l_b1358 hN ha g I) (ite_1 (l_b1421 hN ha g I) (ite_1 (l_b1484 hN ha g I) (ite_1 (l_b1517 hN ha g I) (ite_1 (l_b1540 hN ha g I) (ite_1 (l_b1593 hN ha g I) (ite_1 (l_b1646 hN ha g I) (ite_1 (l_b1679 hN ha g I) (ite_1 (l_b1723 hN ha g I) (ite_1 (l_b1756 hN ha g I) (ite_1 (l_b1769 hN ha g I) (ite_1 (l_b1782 hN ha g I) (g _ _ _ _ _ _ _ _ _ _ _ _ _ _ _ _ _ _ _ _ _ _ _ _ _ _ I))))))))))))))))))))))))))))))))))))))))))))))))
theorem l_loop (hN : N ≤ 3584) : ∀ (k a g : Nat) (t w b l H k0 k1 k2 k3 k4 k5 k6 k7 x T Lo P C M Q d F G r n m : Pk), N ≤ a + 7 * k → a ≤ 4000 → k < g → InvL t w b l H k0 k1 k2 k3 k4 k5 k6 k7 x T Lo P M Q G m → fL_b18 N xs g t w b l H k0 k1 k2 k3 k4 k5 k6 k7 x T Lo P C M Q d F G r n m (zI (a : Int)) = some 1 := by
  intro k
  induction k with
  | zero =>
    intro a g t w b l H k0 k1 k2 k3 k4 k5 k6 k7 x T Lo P C M Q d F G r n m h1 h2 hg I
    obtain ⟨g, rfl⟩ := Nat.exists_eq_add_of_lt hg
    show fL_b18_s N xs _ t w b l H k0 k1 k2 k3 k4 k5 k6 k7 x T Lo P C M Q d F G r n m (zI (a : Int)) = some 1
    unfold fL_b18_s
    have c : Int32.ofNat N - 7 < zI (a : Int) := by rw [N_z, zI_lt (rI_s (by omega) (by omega)) (rI_n (by omega))]; omega
    rw [if_pos c]
  | succ k ih =>
    intro a g t w b l H k0 k1 k2 k3 k4 k5 k6 k7 x T Lo P C M Q d F G r n m h1 h2 hg I
    obtain ⟨g, rfl⟩ := Nat.exists_eq_add_of_lt hg
    show fL_b18_s N xs (fL_b18 N xs (k + 1 + g)) t w b l H k0 k1 k2 k3 k4 k5 k6 k7 x T Lo P C M Q d F G r n m (zI (a : Int)) = some 1
    by_cases c : a + 7 ≤ N
    · refine l_all hN c ?_ I
      intro t w b l H k0 k1 k2 k3 k4 k5 k6 k7 x T Lo P C M Q d F G r n m I
      unfold fL_b1795
      rw [qn_s, show zI (a : Int) + 7 = zI ((a + 7 : Nat) : Int) from by rw [show (7 : Int32) = zI 7 from rfl, zI_add]; rfl]
      exact ih (a + 7) (k + 1 + g) _ _ _ _ _ _ _ _ _ _ _ _ _ _ _ _ _ _ _ _ _ _ _ _ _ _ (by omega) (by omega) (by omega) I
    · unfold fL_b18_s
      have c : Int32.ofNat N - 7 < zI (a : Int) := by rw [N_z, zI_lt (rI_s (by omega) (by omega)) (rI_n (by omega))]; omega
      rw [if_pos c]
end S
