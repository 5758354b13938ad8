/-! RAYS: the greatest common divisor, columnDistance, paneCount -/
theorem nI_div {a b : Nat} (ha : a < 2147483648) (hb : b < 2147483648) (h0 : ¬ b = 0) : zI (a : Int) / zI (b : Int) = zI ((a / b : Nat) : Int) := by
  rw [← zI_nI, ← zI_nI, pk_div ha (by omega) hb]; rfl
theorem nI_rem {a b : Nat} (ha : a < 2147483648) (hb : b < 2147483648) (h0 : ¬ b = 0) : zI (a : Int) - zI (a : Int) / zI (b : Int) * zI (b : Int) = zI ((a % b : Nat) : Int) := by
  rw [nI_div ha hb h0, zI_mul, zI_sub]
  congr 1
  have := Nat.div_add_mod a b
  have e : ((a / b : Nat) : Int) * (b : Int) = ((b * (a / b) : Nat) : Int) := by rw [Nat.mul_comm]; exact (Int.natCast_mul _ _).symm
  rw [e]
  omega
theorem nL_div {a b : Nat} (ha : a < 2147483648) (hb : b < 2147483648) : zL (a : Int) / zL (b : Int) = zL ((a / b : Nat) : Int) := by
  have h := Int64.ofInt_tdiv (a := (a : Int)) (b := (b : Int)) (by have : Int64.minValue.toInt = -9223372036854775808 := by decide
                                                                   omega) (by have : Int64.maxValue.toInt = 9223372036854775807 := by decide
                                                                              omega) (by have : Int64.minValue.toInt = -9223372036854775808 := by decide
                                                                                         omega) (by have : Int64.maxValue.toInt = 9223372036854775807 := by decide
                                                                                                    omega)
  show Int64.ofInt (a : Int) / Int64.ofInt (b : Int) = Int64.ofInt ((a / b : Nat) : Int)
  rw [← h]
  congr 1
theorem nL_rem {a b : Nat} (ha : a < 2147483648) (hb : b < 2147483648) : zL (a : Int) - zL (a : Int) / zL (b : Int) * zL (b : Int) = zL ((a % b : Nat) : Int) := by
  rw [nL_div ha hb, zL_mul, zL_sub]
  congr 1
  have := Nat.div_add_mod a b
  have e : ((a / b : Nat) : Int) * (b : Int) = ((b * (a / b) : Nat) : Int) := by rw [Nat.mul_comm]; exact (Int.natCast_mul _ _).symm
  rw [e]
  omega
theorem gcd_st (a b : Nat) : Nat.gcd b (a % b) = Nat.gcd a b := ((Nat.gcd_comm a b).trans ((Nat.gcd_rec b a).trans (Nat.gcd_comm _ _))).symm
theorem mod_half {b r : Nat} (h : r < b) (h0 : 0 < r) : 2 * (b % r) < b := by
  have h1 := Nat.mod_lt b h0
  by_cases c : 2 * r ≤ b
  · omega
  · have : b % r = b - r := by
      rw [Nat.mod_eq_sub_mod (by omega), Nat.mod_eq_of_lt (by omega)]
    omega
theorem zL0 : (0 : Int64) = zL 0 := rfl
theorem rL_n {a : Nat} (h : a < 2147483648) : rL (a : Int) := ⟨by omega, by omega⟩
theorem rI_n {a : Nat} (h : a < 2147483648) : rI (a : Int) := ⟨by omega, by omega⟩
theorem C_gcd_end {a : Nat} (h : a < 2147483648) : fX9_greatestDivisor_b44 (zL (a : Int)) = some (zL (a : Int)) := by
  unfold fX9_greatestDivisor_b44
  rw [if_pos]
  rw [zL0, cmp_ge, zL_le rL0 (rL_n h)]
  omega
theorem C_gcd_1 {n a b k : Nat} (ha : a < 2147483648) (hb : b < 2147483648) (hk : k < 100) : fX9_greatestDivisor_b9 (n + 1) (zL (a : Int)) (zL (b : Int)) (zI (k : Int)) = if b = 0 then some (zL (a : Int)) else fX9_greatestDivisor_b9 n (zL (b : Int)) (zL ((a % b : Nat) : Int)) (zI ((k + 1 : Nat) : Int)) := by
  show fX9_greatestDivisor_b9_s (fX9_greatestDivisor_b9 n) _ _ _ = _
  unfold fX9_greatestDivisor_b9_s
  have hn1 : ¬ (100 : Int32) ≤ zI (k : Int) := ix_a (n := 100) hk (by decide)
  rw [if_neg hn1]
  have e : zL (b : Int) = 0 ↔ b = 0 := by
    rw [zL0, zL_eq (rL_n hb) rL0]
    omega
  by_cases h0 : b = 0
  · rw [if_pos (cmp_eq.mpr (e.mpr h0)), if_pos h0]
    exact C_gcd_end ha
  · rw [if_neg (fun h => h0 (e.mp (cmp_eq.mp h))), if_neg h0, qnzl_s (fun h => h0 (e.mp h)), nL_rem ha hb, ix_s]
    rfl
theorem C_gcd_loop : ∀ (s n a b k : Nat), a < 2147483648 → b < 2147483648 → b < 2 ^ s → k + 2 * s < 100 → 2 * s < n → fX9_greatestDivisor_b9 n (zL (a : Int)) (zL (b : Int)) (zI (k : Int)) = some (zL ((Nat.gcd a b : Nat) : Int)) := by
  intro s
  induction s with
  | zero =>
    intro n a b k ha hb h1 h2 h3
    have e : b = 0 := by omega
    obtain ⟨n', rfl⟩ : ∃ n', n = n' + 1 := ⟨n - 1, by omega⟩
    rw [C_gcd_1 ha hb (by omega), if_pos e, e, Nat.gcd_zero_right]
  | succ s ih =>
    intro n a b k ha hb h1 h2 h3
    obtain ⟨n', rfl⟩ : ∃ n', n = n' + 1 + 1 := ⟨n - 2, by omega⟩
    rw [C_gcd_1 ha hb (by omega)]
    by_cases c : b = 0
    · rw [if_pos c, c, Nat.gcd_zero_right]
    · have l1 := Nat.mod_lt a (Nat.pos_of_ne_zero c)
      rw [if_neg c, C_gcd_1 hb (by omega) (by omega), ← gcd_st a b]
      by_cases d : a % b = 0
      · rw [if_pos d, d, Nat.gcd_zero_right]
      · have l2 := mod_half l1 (Nat.pos_of_ne_zero d)
        have l3 := Nat.mod_lt b (Nat.pos_of_ne_zero d)
        rw [if_neg d, ← gcd_st b (a % b)]
        refine ih n' (a % b) (b % (a % b)) (k + 1 + 1) (by omega) (by omega) ?_ (by omega) (by omega)
        rw [Nat.pow_succ] at h1
        omega
theorem C_gcd {a b : Nat} (ha : a < 1073741824) (hb : b < 131072) : fX9_greatestDivisor (zL (a : Int)) (zL (b : Int)) = some (zL ((Nat.gcd a b : Nat) : Int)) := by
  unfold fX9_greatestDivisor
  exact C_gcd_loop 17 FU a b 0 (by omega) (by omega) hb (by decide) (by decide)
theorem M_gcd_log : ∀ (s n a b : Nat), a < 2147483648 → b < 2147483648 → b < 2 ^ s → 2 * s < n → fX10_divisor_b22 n (zI (a : Int)) (zI (b : Int)) = some (zI ((Nat.gcd a b : Nat) : Int)) := by
  have st : ∀ (n a b : Nat), a < 2147483648 → b < 2147483648 → fX10_divisor_b22 (n + 1) (zI (a : Int)) (zI (b : Int)) = if b = 0 then some (zI (a : Int)) else fX10_divisor_b22 n (zI (b : Int)) (zI ((a % b : Nat) : Int)) := by
    intro n a b ha hb
    show fX10_divisor_b22_s (fX10_divisor_b22 n) _ _ = _
    unfold fX10_divisor_b22_s
    have e : zI (b : Int) = 0 ↔ b = 0 := by
      rw [z0, zI_eq (rI_n hb) r0]
      omega
    by_cases c : b = 0
    · rw [if_pos (e.mpr c), if_pos c]
    · rw [if_neg (fun h => c (e.mp h)), if_neg c, qnzi_s (fun h => c (e.mp h)), nI_rem ha hb c]
      rfl
  intro s
  induction s with
  | zero =>
    intro n a b ha hb h1 h3
    have e : b = 0 := by omega
    obtain ⟨n', rfl⟩ : ∃ n', n = n' + 1 := ⟨n - 1, by omega⟩
    rw [st n' a b ha hb, if_pos e, e, Nat.gcd_zero_right]
  | succ s ih =>
    intro n a b ha hb h1 h3
    obtain ⟨n', rfl⟩ : ∃ n', n = n' + 1 + 1 := ⟨n - 2, by omega⟩
    rw [st (n' + 1) a b ha hb]
    by_cases c : b = 0
    · rw [if_pos c, c, Nat.gcd_zero_right]
    · have l1 := Nat.mod_lt a (Nat.pos_of_ne_zero c)
      rw [if_neg c, st n' b (a % b) hb (by omega), ← gcd_st a b]
      by_cases d : a % b = 0
      · rw [if_pos d, d, Nat.gcd_zero_right]
      · have l2 := mod_half l1 (Nat.pos_of_ne_zero d)
        have l3 := Nat.mod_lt b (Nat.pos_of_ne_zero d)
        rw [if_neg d, ← gcd_st b (a % b)]
        refine ih n' (a % b) (b % (a % b)) (by omega) (by omega) ?_ (by omega)
        rw [Nat.pow_succ] at h1
        omega
/-- the reference's divisor of any two numbers within an int -/
theorem M_gcd {a b : Int} (ha : -1073741824 ≤ a ∧ a ≤ 1073741824) (hb : -1048576 ≤ b ∧ b ≤ 1048576) : fX10_divisor (zI a) (zI b) = some (zI ((Nat.gcd a.natAbs b.natAbs : Nat) : Int)) := by
  have ab : ∀ {x : Int}, -1073741824 ≤ x ∧ x ≤ 1073741824 → (if 0 ≤ zI x then zI x else -zI x) = zI ((x.natAbs : Nat) : Int) := by
    intro x hx
    simp only [z0, zI_le r0 (show rI x from ⟨by omega, by omega⟩), zI_neg]
    by_cases c : 0 ≤ x
    · rw [if_pos c]; congr 1; omega
    · rw [if_neg c]; congr 1; omega
  have key : fX10_divisor (zI a) (zI b) = fX10_divisor_b22 FU (if 0 ≤ zI a then zI a else -zI a) (if 0 ≤ zI b then zI b else -zI b) := by
    unfold fX10_divisor fX10_divisor_b10 fX10_divisor_b21
    by_cases c : 0 ≤ zI a
    · by_cases d : 0 ≤ zI b
      · simp only [if_pos c, if_pos d]
      · simp only [if_pos c, if_neg d]
    · by_cases d : 0 ≤ zI b
      · simp only [if_neg c, if_pos d]
      · simp only [if_neg c, if_neg d]
  rw [key, ab ha, ab (x := b) (by omega)]
  exact M_gcd_log 21 FU _ _ (by omega) (by omega) (by have : (2 : Nat) ^ 21 = 2097152 := by decide
                                                      omega) (by decide)
section S
variable {p : Pln} {t w r m : Pk} {x y dx dy : Int}
theorem hit_pos {i : Nat} (h : hit p i x y dx dy = true) : 0 < hD p i x y dx dy ∧ 0 < hB p i dx dy := by
  unfold hit at h
  simp only [Bool.and_eq_true, decide_eq_true_eq] at h
  exact ⟨h.2.2.1, hB_pos h.2.1⟩
theorem nat_of {a : Int} (h : 0 < a) : ∃ n : Nat, a = (n : Int) ∧ 0 < n := ⟨a.toNat, by omega, by omega⟩
theorem no1 {a : Int32} : (decide (0 ≤ a) && decide (a ≤ 1)) = false → a < 0 ∨ 1 < a := by simp only [Bool.and_eq_false_iff, decide_eq_false_iff_not]; grind
theorem C_lowest {d b : Nat} (b0 : 0 < b) (hd : d < 1073741824) (hb : b < 131072) (a : Int32) : fX9_lowestPart (zL (d : Int)) (zL (b : Int)) a = some (zL (((if a = 0 then d else b) / Nat.gcd d b : Nat) : Int)) := by
  have gp : 0 < Nat.gcd d b := Nat.gcd_pos_of_pos_right d b0
  have gl : Nat.gcd d b ≤ b := Nat.le_of_dvd b0 (Nat.gcd_dvd_right d b)
  have n2 : ¬ zL ((Nat.gcd d b : Nat) : Int) = 0 := by
    rw [zL0, zL_eq (rL_n (by omega)) rL0]; omega
  unfold fX9_lowestPart
  rw [C_gcd hd hb, qb1_s, if_neg (fun h => n2 (cmp_eq.mp h)), qnzl_s n2, qnzl_s n2, nL_div (by omega) (by omega), nL_div (by omega) (by omega)]
  by_cases c : a = 0
  · rw [if_pos c, if_pos c]
  · rw [if_neg c, if_neg c]
theorem lowest_le (d b : Nat) (a : Int32) (hd : d < 1073741824) (hb : b < 131072) : (if a = 0 then d else b) / Nat.gcd d b < 1073741824 := by
  refine Nat.lt_of_le_of_lt (Nat.div_le_self _ _) ?_
  by_cases c : a = 0
  · rw [if_pos c]; exact hd
  · rw [if_neg c]; omega
theorem M_lowest {d b : Nat} (b0 : 0 < b) (hd : d < 1073741824) (hb : b < 131072) (a : Int32) (m : Pk) : (qb1 (fX10_divisor (zI (d : Int)) (zI (b : Int))) (fun x68 => if a = 0 then qnzi x68 (some (zI (d : Int) / x68, m)) else qnzi x68 (some (zI (b : Int) / x68, m)))) = some (zI (((if a = 0 then d else b) / Nat.gcd d b : Nat) : Int), m) := by
  have gp : 0 < Nat.gcd d b := Nat.gcd_pos_of_pos_right d b0
  have gl : Nat.gcd d b ≤ b := Nat.le_of_dvd b0 (Nat.gcd_dvd_right d b)
  have n1 : ¬ zI ((Nat.gcd d b : Nat) : Int) = 0 := by
    rw [z0, zI_eq (rI_n (by omega)) r0]; omega
  rw [M_gcd (a := (d : Int)) (b := (b : Int)) (by omega) (by omega), qb1_s, Int.natAbs_natCast, Int.natAbs_natCast, qnzi_s n1, qnzi_s n1, nI_div (by omega) (by omega) (by omega), nI_div (by omega) (by omega) (by omega)]
  by_cases c : a = 0
  · rw [if_pos c, if_pos c]
  · rw [if_neg c, if_neg c]
theorem c31 {a : Int32} (h : 31 < a) : 0 ≤ a := by
  simp only [Int32.lt_iff_toInt_lt, Int32.le_iff_toInt_le] at *
  have : (31 : Int32).toInt = 31 := by decide
  have : (0 : Int32).toInt = 0 := by decide
  omega
theorem c1p {a : Int32} (h : 1 < a) : 0 ≤ a := by
  simp only [Int32.lt_iff_toInt_lt, Int32.le_iff_toInt_le] at *
  have : (1 : Int32).toInt = 1 := by decide
  have : (0 : Int32).toInt = 0 := by decide
  omega
theorem S_columnDistance (R : ReW w p) (Q : ReM m p) (V : VP p) (a1 a2 a3 a4 a5 a6 : Int32) : Ray2 (fX9_columnDistance t w r a1 a2 a3 a4 a5 a6) (fX10_columnDistance m a1 a2 a3 a4 a5 a6) m := by
  unfold fX9_columnDistance fX10_columnDistance
  rw [C_isBadPicture, M_isPicture, qb1_s, qb1_s, C_isBadColumn]
  cases h1 : okpic a1 a2 a3 a4 with
  | false => exact ⟨_, _, _, rfl, rfl, mSame.rf m⟩
  | true =>
    rw [if_pos (by decide), if_neg (by decide), qb1_s]
    obtain ⟨x, y, dx, dy, rfl, rfl, rfl, rfl, g1, g2, g3, g4⟩ := okpic_z h1
    cases h2 : okk a5 with
    | false =>
      rw [if_neg (by decide)]
      refine ⟨_, _, _, rfl, ?_, mSame.rf m⟩
      rcases nok h2 with c | c
      · rw [if_pos c]
      · rw [if_neg (nlt.mpr (c31 c)), if_pos c]
    | true =>
      rw [if_pos (by decide), C_isOutside, qb1_s]
      have hk : 0 ≤ a5 ∧ a5 ≤ 31 := by unfold okk at h2; simpa using h2
      rw [if_neg (nlt.mpr hk.1), if_neg (nlt.mpr hk.2)]
      cases h3 : (decide (0 ≤ a6) && decide (a6 ≤ 1)) with
      | false =>
        rw [ifNF]
        refine ⟨_, _, _, rfl, ?_, mSame.rf m⟩
        rcases no1 h3 with c | c
        · rw [if_pos c]
        · rw [if_neg (nlt.mpr (c1p c)), if_neg (nle.mpr c)]
      | true =>
        simp only [Bool.and_eq_true, decide_eq_true_eq] at h3
        rw [ifNT, if_neg (nlt.mpr h3.1), if_pos h3.2]
        obtain ⟨c, rfl, g5⟩ := okk_z h2
        have Y := col_RY (c := c) g1 g2 g3 g4 g5
        obtain ⟨r1, e1, e2, e3, e4⟩ := R_standAt (r := r) R V g1 g2
        obtain ⟨r2, f1, f2, f3⟩ := R_aimCol e2 e3 e4 dx dy c
        obtain ⟨r3, k1, k2, k3⟩ := R_findFirstHit R V Y f2 f3
        obtain ⟨m1, l1, l2, l3⟩ := M_traceColumn Q V Y
        unfold fX5_firstHitWall fX5_firstHitTop fX5_firstHitBottom
        rw [e1, qb1_s, f1, qb1_s, k1, qb1_s, qb1_s, qb1_s, qb1_s, l1, qb1_s]
        cases hf : fh p x y (colX dx dy c) (colY dx dy c) 12 with
        | none =>
          rw [hf] at k3 l3
          rw [show r3.2.1 9 = zI (-8) from k3, show m1.2.1 54 = zI (-1) from l3, if_pos zmone8.symm, if_neg (by decide)]
          exact ⟨_, _, _, rfl, rfl, l2⟩
        | some j =>
          rw [hf] at k3 l3
          have hj := (fh_p hf).1
          have hp := (fh_p hf).2
          have hh := hit_pos (fh_lt hf).2.2
          have b1 := hD_bd V hj hp Y
          have b2' := hB_bd V hj hp Y
          obtain ⟨d, ed, d0⟩ := nat_of hh.1
          obtain ⟨b, eb, b0⟩ := nat_of hh.2
          obtain ⟨k3, k4, k5⟩ := k3
          obtain ⟨l3, l4, l5⟩ := l3
          rw [ed] at b1 k4 l4
          rw [eb] at b2' k5 l5
          rw [k3, k4, k5, l3, l4, l5]
          rw [if_neg (by rw [zmone8, zI_eq (rI_s (by omega) (by omega)) (rI_s (by omega) (by omega))]; omega), if_pos (by rw [z0, zI_le r0 (rI_s (by omega) (by omega))]; omega)]
          have hd : d < 1073741824 := by omega
          have hb : b < 131072 := by omega
          rw [zI_long (r7938 b1), zI_long (r63504 b2'), zL_int (r7938 b1), zL_int (r63504 b2'), M_lowest b0 hd hb, C_lowest b0 hd hb, qb1_s, zL_int (rI_n (by have := lowest_le d b a6 hd hb; omega))]
          exact ⟨_, _, _, rfl, rfl, l2⟩
end S
