/-! DOUBLES: the operations -/
section S
theorem dRX {s : Bool} {c num den : Nat} {e q : Int} (hn : num ≠ 0) (h1 : 4503599627370496 ≤ c) (h2 : c < 9007199254740992) (h3 : -1074 ≤ q) (h4 : q ≤ 971) (hl : FP.Core.leading num den + e - 52 = q) (hu : FP.Core.unitsNum num e q = c * FP.Core.unitsDen den e q) (hd : 0 < FP.Core.unitsDen den e q) : FP.Core.roundRatio FP.Core.b64 s num den e = .fin s c q := by
  unfold FP.Core.roundRatio
  rw [if_neg hn]
  have hq : FP.Core.quantum FP.Core.b64 num den e = q := by
    unfold FP.Core.quantum
    rw [b64_n, b64_p]
    omega
  unfold FP.Core.roundAt
  rw [hq, hu]
  have nr : FP.Core.nearest (c * FP.Core.unitsDen den e q) (FP.Core.unitsDen den e q) = c := by
    unfold FP.Core.nearest
    rw [Nat.mul_mod_left, if_pos (by omega), Nat.mul_div_cancel _ hd]
  rw [nr]
  unfold FP.Core.settle FP.Core.bound
  rw [b64_x, if_pos (show c < 2 ^ FP.Core.b64.p from h2), if_pos h4]
theorem log52 {c : Nat} (h1 : 4503599627370496 ≤ c) (h2 : c < 9007199254740992) : c.log2 = 52 := by
  have z : c ≠ 0 := by omega
  have a := (Nat.le_log2 (k := 52) z).mpr h1
  have b := (Nat.log2_lt (k := 53) z).mpr h2
  omega
theorem lead_pow {N : Nat} (z : N ≠ 0) : FP.Core.leading N 1 = (N.log2 : Int) := by
  unfold FP.Core.leading
  have l1 : (1 : Nat).log2 = 0 := by decide
  have h := Nat.log2_self_le z
  rw [l1]
  simp only []
  rw [show ((N.log2 : Nat) : Int) - ((0 : Nat) : Int) = (N.log2 : Int) from by omega, if_pos]
  rw [Int.toNat_natCast, show (-(N.log2 : Int)).toNat = 0 from by omega]
  omega
theorem lead_52 {c : Nat} (h1 : 4503599627370496 ≤ c) (h2 : c < 9007199254740992) : FP.Core.leading c 4503599627370496 = 0 := by
  unfold FP.Core.leading
  rw [log52 h1 h2, show (4503599627370496 : Nat).log2 = 52 from log52 (by decide) (by decide)]
  simp only []
  rw [if_pos]
  · rfl
  · show 4503599627370496 * 2 ^ 0 ≤ c * 2 ^ 0
    omega
/-- a whole number as a double -/
theorem d_int {s : Bool} {N : Nat} (h0 : N ≠ 0) (h : N < 9007199254740992) : ∃ c, 4503599627370496 ≤ c ∧ c < 9007199254740992 ∧ FP.Core.roundRatio FP.Core.b64 s N 1 0 = .fin s c ((N.log2 : Int) - 52) ∧ c = N * 2 ^ (52 - N.log2) := by
  have l1 := (Nat.log2_lt (k := 53) h0).mpr h
  have lo := Nat.log2_self_le h0
  have hi : N < 2 ^ (N.log2 + 1) := Nat.lt_log2_self
  have e1 : 2 ^ N.log2 * 2 ^ (52 - N.log2) = 4503599627370496 := by rw [← Nat.pow_add, show N.log2 + (52 - N.log2) = 52 from by omega]
  have e2 : 2 ^ (N.log2 + 1) * 2 ^ (52 - N.log2) = 9007199254740992 := by rw [← Nat.pow_add, show N.log2 + 1 + (52 - N.log2) = 53 from by omega]
  have c1 := Nat.mul_le_mul_right (2 ^ (52 - N.log2)) lo
  have c2 := Nat.mul_lt_mul_of_pos_right hi (Nat.two_pow_pos (52 - N.log2))
  rw [e1] at c1
  rw [e2] at c2
  refine ⟨N * 2 ^ (52 - N.log2), c1, c2, ?_, rfl⟩
  refine dRX h0 c1 c2 (by omega) (by omega) (by rw [lead_pow h0]; omega) ?_ ?_
  · unfold FP.Core.unitsNum FP.Core.unitsDen
    rw [show ((0 : Int) - ((N.log2 : Int) - 52)).toNat = 52 - N.log2 from by omega, show ((N.log2 : Int) - 52 - 0).toNat = 0 from by omega]
    rw [Nat.pow_zero, Nat.mul_one]
  · unfold FP.Core.unitsDen
    exact Nat.mul_pos (by decide) (Nat.two_pow_pos _)
theorem d_i2d (a : Int32) : dF (-19) (FP.i2d a) := by
  have h1 := a.toInt_lt
  have h2 := a.le_toInt
  obtain ⟨c, q, e, g1, g2, g3⟩ := dRR (s := decide (a.toInt < 0)) (num := a.toInt.natAbs) (den := 1) (e := 0) (n := 32) (by
    show _ < 4294967296
    omega) (by decide)
  show dF (-19) (dE (FP.Core.roundRatio FP.Core.b64 (decide (a.toInt < 0)) a.toInt.natAbs 1 0))
  rw [e]
  exact dF_of g1 g2 (by omega) (by decide)
theorem d_i2d_ne {a : Int32} (h : a ≠ 0) : ∃ s c q, dV (FP.i2d a) = .fin s c q ∧ c ≠ 0 ∧ -52 ≤ q := by
  have h1 := a.toInt_lt
  have h2 := a.le_toInt
  have z : a.toInt ≠ 0 := fun g => h (Int32.toInt.inj (by rw [g]; rfl))
  obtain ⟨c, g1, g2, g3, -⟩ := d_int (s := decide (a.toInt < 0)) (N := a.toInt.natAbs) (by omega) (by omega)
  have l1 := (Nat.log2_lt (k := 53) (n := a.toInt.natAbs) (by omega)).mpr (by
    show _ < 9007199254740992
    omega)
  refine ⟨decide (a.toInt < 0), c, (a.toInt.natAbs.log2 : Int) - 52, ?_, by omega, by omega⟩
  show dV (dE (FP.Core.roundRatio FP.Core.b64 (decide (a.toInt < 0)) a.toInt.natAbs 1 0)) = _
  rw [g3]
  exact dE_big g1 g2 (by omega) (by omega)
theorem d_ddiv {a b : UInt64} (ha : dF (-19) a) {s : Bool} {c : Nat} {q : Int} (hb : dV b = .fin s c q) (hc : c ≠ 0) (hq : -52 ≤ q) : dF 35 (FP.ddiv a b) := by
  obtain ⟨s', c', q', e, g1, g2, g3⟩ := ha
  show dF 35 (dE (FP.Core.quotient FP.Core.b64 (dV a) (dV b)))
  rw [e, hb]
  show dF 35 (dE (if c = 0 then _ else FP.Core.roundRatio FP.Core.b64 (s' != s) c' c (q' - q)))
  rw [if_neg hc]
  obtain ⟨c2, q2, e2, k1, k2, k3⟩ := dRR (s := s' != s) (num := c') (den := c) (e := q' - q) (n := 53) g1 (by omega)
  rw [e2]
  exact dF_of k1 k2 (by omega) (by decide)
theorem d_dsub {a b : UInt64} (ha : dF 35 a) (hb : dF 35 b) : dF 90 (FP.dsub a b) := by
  obtain ⟨s, c, q, e, g1, g2, g3⟩ := ha
  obtain ⟨t, d, r, e', k1, k2, k3⟩ := hb
  show dF 90 (dE (FP.Core.round FP.Core.b64 (FP.Core.exactSum (dV a) (FP.Core.negate (dV b)))))
  rw [e, e']
  show dF 90 (dE (FP.Core.roundRatio FP.Core.b64 (FP.Core.sumSign s (!t) (FP.Core.sumUnits s c q (!t) d r (min q r))) (FP.Core.sumUnits s c q (!t) d r (min q r)).natAbs 1 (min q r)))
  have key : ∀ (x : Nat) (z : Int), x < 9007199254740992 → min q r ≤ z → z ≤ 35 → x * 2 ^ (z - min q r).toNat < 2 ^ (88 - min q r).toNat := by
    intro x z hx h1 h2
    have p1 : 2 ^ 53 * 2 ^ (z - min q r).toNat ≤ 2 ^ (88 - min q r).toNat := by
      rw [← Nat.pow_add]
      exact Nat.pow_le_pow_right (by decide) (by omega)
    exact Nat.lt_of_lt_of_le (Nat.mul_lt_mul_of_pos_right hx (Nat.two_pow_pos _)) p1
  have u1 := key c q g1 (by omega) g3
  have u2 := key d r k1 (by omega) k3
  have p2 : 2 ^ (88 - min q r).toNat + 2 ^ (88 - min q r).toNat = 2 ^ ((88 - min q r).toNat + 1) := by rw [Nat.pow_succ]; omega
  have sg : ∀ (s : Bool) (c : Nat), (FP.Core.signed s c).natAbs = c := by
    intro s c
    unfold FP.Core.signed
    split <;> omega
  have n1 : (FP.Core.sumUnits s c q (!t) d r (min q r)).natAbs < 2 ^ ((88 - min q r).toNat + 1) := by
    unfold FP.Core.sumUnits
    have t1 := sg s (FP.Core.inUnits c q (min q r))
    have t2 := sg (!t) (FP.Core.inUnits d r (min q r))
    have t3 := Int.natAbs_add_le (FP.Core.signed s (FP.Core.inUnits c q (min q r))) (FP.Core.signed (!t) (FP.Core.inUnits d r (min q r)))
    unfold FP.Core.inUnits at t1 t2 t3 ⊢
    omega
  obtain ⟨c2, q2, e2, m1, m2, m3⟩ := dRR (s := FP.Core.sumSign s (!t) (FP.Core.sumUnits s c q (!t) d r (min q r))) (den := 1) (e := min q r) n1 (by omega)
  rw [e2]
  exact dF_of m1 m2 (by omega) (by decide)
theorem d_dmul {a b : UInt64} (ha : dF 90 a) (hb : dF 90 b) : dF 300 (FP.dmul a b) := by
  obtain ⟨s, c, q, e, g1, g2, g3⟩ := ha
  obtain ⟨t, d, r, e', k1, k2, k3⟩ := hb
  show dF 300 (dE (FP.Core.round FP.Core.b64 (FP.Core.exactProduct (dV a) (dV b))))
  rw [e, e']
  show dF 300 (dE (FP.Core.roundRatio FP.Core.b64 (s != t) (c * d) 1 (q + r)))
  have n1 : c * d < 2 ^ 106 := by
    have := Nat.mul_le_mul (Nat.le_of_lt_succ g1 : c ≤ 9007199254740991) (Nat.le_of_lt_succ k1 : d ≤ 9007199254740991)
    omega
  obtain ⟨c2, q2, e2, m1, m2, m3⟩ := dRR (s := s != t) (den := 1) (e := q + r) n1 (by omega)
  rw [e2]
  exact dF_of m1 m2 (by omega) (by decide)
/-- exact steps -/
theorem d_half {c : Nat} {q r : Int} (h1 : 4503599627370496 ≤ c) (h2 : c < 9007199254740992) (a1 : -1074 ≤ q) (a2 : q ≤ 971) (b1 : -1074 ≤ r) (b2 : r ≤ 971) (c1 : -1074 ≤ q - r - 52) (c2 : q - r - 52 ≤ 971) : FP.ddiv (dE (.fin false c q)) (dE (.fin false 4503599627370496 r)) = dE (.fin false c (q - r - 52)) := by
  show dE (FP.Core.quotient FP.Core.b64 (dV (dE (.fin false c q))) (dV (dE (.fin false 4503599627370496 r)))) = _
  rw [dE_big h1 h2 a1 a2, dE_big (by decide) (by decide) b1 b2]
  show dE (if 4503599627370496 = 0 then (if c = 0 then .nan else .inf (false != false)) else FP.Core.roundRatio FP.Core.b64 (false != false) c 4503599627370496 (q - r)) = _
  rw [if_neg (by decide), show (false != false) = false from rfl]
  refine congrArg dE (dRX (by omega) h1 h2 c1 c2 (by rw [lead_52 h1 h2]; omega) ?_ ?_)
  · unfold FP.Core.unitsNum FP.Core.unitsDen
    rw [show (q - r - (q - r - 52)).toNat = 52 from by omega, show (q - r - 52 - (q - r)).toNat = 0 from by omega]
  · unfold FP.Core.unitsDen
    exact Nat.mul_pos (by decide) (Nat.two_pow_pos _)
theorem d_twice {q : Int} (a1 : -1074 ≤ q) (a2 : q ≤ 970) : FP.dmul (dE (.fin false 4503599627370496 q)) (dE (.fin false 4503599627370496 (-51))) = dE (.fin false 4503599627370496 (q + 1)) := by
  show dE (FP.Core.round FP.Core.b64 (FP.Core.exactProduct (dV (dE (.fin false 4503599627370496 q))) (dV (dE (.fin false 4503599627370496 (-51)))))) = _
  rw [dE_big (by decide) (by decide) a1 (by omega), dE_big (by decide) (by decide) (by decide) (by decide)]
  show dE (FP.Core.roundRatio FP.Core.b64 false (4503599627370496 * 4503599627370496) 1 (q + -51)) = _
  have L : (4503599627370496 * 4503599627370496 : Nat).log2 = 104 := by
    rw [show (4503599627370496 * 4503599627370496 : Nat) = 2 ^ 104 from by decide, Nat.log2_two_pow]
  refine congrArg dE (dRX (by decide) (by decide) (by decide) (by omega) (by omega) (by rw [lead_pow (by decide), L]; omega) ?_ ?_)
  · unfold FP.Core.unitsNum FP.Core.unitsDen
    rw [show (q + -51 - (q + 1)).toNat = 0 from by omega, show (q + 1 - (q + -51)).toNat = 52 from by omega]
  · unfold FP.Core.unitsDen
    exact Nat.mul_pos (by decide) (Nat.two_pow_pos _)
theorem d_one : (4607182418800017408 : UInt64) = dE (.fin false 4503599627370496 (-52)) := by decide +kernel
theorem d_two : (4611686018427387904 : UInt64) = dE (.fin false 4503599627370496 (-51)) := by decide +kernel
theorem d_l2d {v : Int} (h1 : 4503599627370496 ≤ v) (h2 : v ≤ 9007199254740992) : ∃ (c : Nat) (q : Int), 4503599627370496 ≤ c ∧ c < 9007199254740992 ∧ 0 ≤ q ∧ q ≤ 1 ∧ FP.l2d (zL v) = dE (.fin false c q) := by
  have e : (zL v).toInt = v := by
    unfold zL
    rw [Int64.toInt_ofInt_of_le (by
      show -9223372036854775808 ≤ v
      omega) (by
      show v < 9223372036854775808
      omega)]
  have g : FP.l2d (zL v) = dE (FP.Core.roundRatio FP.Core.b64 false v.natAbs 1 0) := by
    show dE (FP.Core.roundRatio FP.Core.b64 (decide ((zL v).toInt < 0)) (zL v).toInt.natAbs 1 0) = _
    rw [e, decide_eq_false (by omega)]
  rw [g]
  by_cases h : v = 9007199254740992
  · subst h
    exact ⟨4503599627370496, 1, by decide, by decide, by decide, by decide, by decide +kernel⟩
  · obtain ⟨c, g1, g2, g3, g4⟩ := d_int (s := false) (N := v.natAbs) (by omega) (by omega)
    have := log52 (c := v.natAbs) (by omega) (by omega)
    rw [g3, this]
    exact ⟨c, _, g1, g2, by decide, by decide, rfl⟩
end S
