/-! ROOTS: the two ways to a root's digits -/
section S
theorem dF_X {c : Nat} {q : Int} (h1 : 4503599627370496 ≤ c) (h2 : c < 9007199254740992) (h3 : -1074 ≤ q) (h4 : q ≤ 90) : dF 90 (dE (.fin false c q)) := dF_of h2 h3 h4 (by decide)
theorem zL_half {a : Nat} (ha : a < 36028797018963968) : zL (a : Int) / 2 = zL ((a / 2 : Nat) : Int) := by
  have h := Int64.ofInt_tdiv (a := (a : Int)) (b := 2) (by have : Int64.minValue.toInt = -9223372036854775808 := by decide
                                                           omega) (by have : Int64.maxValue.toInt = 9223372036854775807 := by decide
                                                                      omega) (by decide) (by decide)
  show Int64.ofInt (a : Int) / Int64.ofInt 2 = Int64.ofInt ((a / 2 : Nat) : Int)
  rw [← h]
  congr 1
theorem and3 {m : Nat} (h : m < 2147483648) : zI (m : Int) &&& 3 = zI ((m % 4 : Nat) : Int) := by
  apply Int32.toBitVec_inj.mp
  rw [Int32.toBitVec_and]
  apply BitVec.eq_of_toNat_eq
  rw [BitVec.toNat_and]
  have e1 : ∀ k : Nat, k < 2147483648 → (zI (k : Int)).toBitVec.toNat = k := by
    intro k hk
    show (BitVec.ofInt 32 (k : Int)).toNat = k
    rw [BitVec.toNat_ofInt]
    omega
  rw [e1 m h, e1 (m % 4) (by omega), show (3 : Int32).toBitVec.toNat = 2 ^ 2 - 1 from by decide, Nat.and_two_pow_sub_one_eq_mod]
theorem shr_z {s n : Nat} (hs : s < 2147483648) (hn : n ≤ 6) : zI (s : Int) >>> (zI ((2 * n : Nat) : Int) &&& 31) = zI ((s / 4 ^ n : Nat) : Int) := by
  have sh : ((zI ((2 * n : Nat) : Int) &&& 31).toBitVec.smod 32).toNat = 2 * n := by
    have : n = 0 ∨ n = 1 ∨ n = 2 ∨ n = 3 ∨ n = 4 ∨ n = 5 ∨ n = 6 := by omega
    rcases this with h | h | h | h | h | h | h <;> subst h <;> decide
  apply Int32.toInt_inj.mp
  show ((zI (s : Int)).toBitVec.sshiftRight' ((zI ((2 * n : Nat) : Int) &&& 31).toBitVec.smod 32)).toInt = _
  rw [BitVec.toInt_sshiftRight', sh]
  have e0 : (zI (s : Int)).toBitVec.toInt = (s : Int) := zI_toInt (by omega) (by omega)
  have hq : s / 4 ^ n ≤ s := Nat.div_le_self _ _
  have rr : rI ((s / 4 ^ n : Nat) : Int) := rI_n (Nat.lt_of_le_of_lt hq hs)
  rw [e0, zI_toInt rr.1 rr.2, Int.shiftRight_eq_div_pow, Nat.pow_mul]
  rfl
theorem M_root_int {s : Nat} (hs : s < 16384) : ∀ (n g R r : Nat), n ≤ 7 → R * R + r = s / 4 ^ n → r ≤ 2 * R → ∃ R0 r0, R0 * R0 + r0 = s ∧ r0 ≤ 2 * R0 ∧ fX10_root_b11 (n + g) (zI (s : Int)) (zL (R : Int)) (zL (r : Int)) 0 (zI (2 * (n : Int) - 2)) = fX10_root_b11 g (zI (s : Int)) (zL (R0 : Int)) (zL (r0 : Int)) 0 (zI (-2)) := by
  intro n
  induction n with
  | zero =>
    intro g R r hn h1 h2
    refine ⟨R, r, by rw [h1]; exact Nat.div_one s, h2, ?_⟩
    rw [Nat.zero_add]
    rfl
  | succ n ih =>
    intro g R r hn h1 h2
    have hP : s / 4 ^ (n + 1) ≤ s := Nat.div_le_self _ _
    have hR : R ≤ R * R + r := Nat.le_trans (Nat.le_mul_self R) (Nat.le_add_right _ _)
    have hR' : R < 16384 := by omega
    have e4 : s / 4 ^ n = 4 * (s / 4 ^ (n + 1)) + s / 4 ^ n % 4 := by
      rw [Nat.pow_succ, ← Nat.div_div_eq_div_mul]
      omega
    have hd : s / 4 ^ n % 4 < 4 := Nat.mod_lt _ (by decide)
    generalize hdd : s / 4 ^ n % 4 = d at *
    have k1 : zI (2 * ((n + 1 : Nat) : Int) - 2) = zI ((2 * n : Nat) : Int) := congrArg zI (by omega)
    have k2 : ¬ zI ((2 * n : Nat) : Int) < 0 := ix_nn (by omega)
    have k3 : zI ((2 * n : Nat) : Int) + (-2) = zI (2 * (n : Int) - 2) := by rw [show (-2 : Int32) = zI (-2) from rfl, zI_add]; exact congrArg zI (by omega)
    have st : ∀ (R' r' : Nat), R' * R' + r' = s / 4 ^ n → r' ≤ 2 * R' → fX10_root_b11 (n + 1 + g) (zI (s : Int)) (zL (R : Int)) (zL (r : Int)) 0 (zI (2 * ((n + 1 : Nat) : Int) - 2)) = fX10_root_b11 (n + g) (zI (s : Int)) (zL (R' : Int)) (zL (r' : Int)) 0 (zI (2 * (n : Int) - 2)) → ∃ R0 r0, R0 * R0 + r0 = s ∧ r0 ≤ 2 * R0 ∧ fX10_root_b11 (n + 1 + g) (zI (s : Int)) (zL (R : Int)) (zL (r : Int)) 0 (zI (2 * ((n + 1 : Nat) : Int) - 2)) = fX10_root_b11 g (zI (s : Int)) (zL (R0 : Int)) (zL (r0 : Int)) 0 (zI (-2)) := by
      intro R' r' a1 a2 a3
      obtain ⟨R0, r0, b1, b2', b3⟩ := ih g R' r' (by omega) a1 a2
      exact ⟨R0, r0, b1, b2', a3.trans b3⟩
    have body : fX10_root_b11 (n + 1 + g) (zI (s : Int)) (zL (R : Int)) (zL (r : Int)) 0 (zI (2 * ((n + 1 : Nat) : Int) - 2)) = (if lg_cmp (zL ((4 * r + d : Nat) : Int)) (zL ((4 * R + 1 : Nat) : Int)) < 0 then fX10_root_b11 (n + g) (zI (s : Int)) (zL ((2 * R : Nat) : Int)) (zL ((4 * r + d : Nat) : Int)) 0 (zI (2 * (n : Int) - 2)) else fX10_root_b11 (n + g) (zI (s : Int)) (zL ((2 * R + 1 : Nat) : Int)) (zL (((4 * r + d : Nat) : Int) - ((4 * R + 1 : Nat) : Int))) 0 (zI (2 * (n : Int) - 2))) := by
      rw [show n + 1 + g = n + g + 1 from by omega]
      show fX10_root_b11_s (fX10_root_b11 (n + g)) _ _ _ _ _ = _
      rw [k1]
      unfold fX10_root_b11_s
      have c1 : ¬ 0 ≤ lg_cmp (zL (R : Int)) 4503599627370496 := by
        rw [cmp_ge, show (4503599627370496 : Int64) = zL 4503599627370496 from rfl, zL_le ⟨by decide, by decide⟩ ⟨by omega, by omega⟩]
        omega
      rw [if_neg c1, if_neg k2, shr_z (by omega) (by omega), and3 (by have := Nat.div_le_self s (4 ^ n); omega), hdd]
      unfold fX10_root_b39 fX10_root_b73
      simp only [qn_s]
      rw [zI_long (rI_n (by omega)), show (4 : Int64) = zL 4 from rfl, show (2 : Int64) = zL 2 from rfl, show (1 : Int64) = zL 1 from rfl, zL_mul, zL_add, zL_mul, zL_mul, zL_add, zL_add, zL_sub]
      have k4 : 0 ≤ zI ((2 * n : Nat) : Int) := by rw [show (0 : Int32) = zI 0 from rfl, zI_le r0 (rI_n (by omega))]; omega
      rw [if_pos k4, if_pos k4]
      unfold fX10_root_b85
      simp only [qn_s]
      rw [k3]
      rfl
    have lc : lg_cmp (zL ((4 * r + d : Nat) : Int)) (zL ((4 * R + 1 : Nat) : Int)) < 0 ↔ 4 * r + d < 4 * R + 1 := by
      rw [cmp_lt, zL_lt ⟨by omega, by omega⟩ ⟨by omega, by omega⟩]
      omega
    by_cases c : 4 * r + d < 4 * R + 1
    · rw [if_pos (lc.mpr c)] at body
      refine st (2 * R) (4 * r + d) ?_ (by omega) body
      rw [e4, ← h1, show 2 * R * (2 * R) = 4 * (R * R) from by rw [Nat.mul_mul_mul_comm]]
      omega
    · rw [if_neg (fun h => c (lc.mp h)), show ((4 * r + d : Nat) : Int) - ((4 * R + 1 : Nat) : Int) = ((4 * r + d - (4 * R + 1) : Nat) : Int) from by omega] at body
      refine st (2 * R + 1) (4 * r + d - (4 * R + 1)) ?_ (by omega) body
      rw [e4, ← h1, show (2 * R + 1) * (2 * R + 1) = 4 * (R * R) + 4 * R + 1 from by rw [Nat.add_mul, Nat.mul_add, Nat.mul_mul_mul_comm]; omega]
      omega
theorem C_root_int {s : Nat} (hs : s < 10000) : ∀ (n g R : Nat), R + n = 100 → n < g → R * R ≤ s → ∃ R0 r0, R0 * R0 + r0 = s ∧ r0 ≤ 2 * R0 ∧ fX9_squareRoot_b4 g (zI (s : Int)) (zL (R : Int)) (zI (R : Int)) = fX9_squareRoot_b33 (zI (s : Int)) (zL (R0 : Int)) := by
  intro n
  induction n with
  | zero =>
    intro g R h1 hg h2
    have : R = 100 := by omega
    subst this
    omega
  | succ n ih =>
    intro g R h1 hg h2
    obtain ⟨g, rfl⟩ := Nat.exists_eq_add_of_lt hg
    have b : (R + 1) * (R + 1) ≤ 100 * 100 := Nat.mul_le_mul (by omega) (by omega)
    have e : (R + 1) * (R + 1) = R * R + 2 * R + 1 := by rw [Nat.add_mul, Nat.mul_add]; omega
    have body : fX9_squareRoot_b4 (n + 1 + g + 1) (zI (s : Int)) (zL (R : Int)) (zI (R : Int)) = (if 0 < lg_cmp (zL (((R + 1) * (R + 1) : Nat) : Int)) (zL (s : Int)) then fX9_squareRoot_b33 (zI (s : Int)) (zL (R : Int)) else fX9_squareRoot_b4 (n + 1 + g) (zI (s : Int)) (zL ((R + 1 : Nat) : Int)) (zI ((R + 1 : Nat) : Int))) := by
      show fX9_squareRoot_b4_s (fX9_squareRoot_b4 (n + 1 + g)) _ _ _ = _
      unfold fX9_squareRoot_b4_s
      have c1 : ¬ (100 : Int32) ≤ zI (R : Int) := ix_a (n := 100) (by omega) (by decide)
      rw [if_neg c1, zI_long (rI_n (by omega)), show (1 : Int64) = zL 1 from rfl, zL_add, zL_mul]
      simp only [qn_s]
      rw [show zI (R : Int) + 1 = zI ((R + 1 : Nat) : Int) from by rw [show (1 : Int32) = zI 1 from rfl, zI_add]; rfl]
      rfl
    have lc : 0 < lg_cmp (zL (((R + 1) * (R + 1) : Nat) : Int)) (zL (s : Int)) ↔ s < (R + 1) * (R + 1) := by
      rw [cmp_gt, zL_lt ⟨by omega, by omega⟩ ⟨by omega, by omega⟩]
      omega
    by_cases c : s < (R + 1) * (R + 1)
    · rw [if_pos (lc.mpr c)] at body
      exact ⟨R, s - R * R, by omega, by omega, body⟩
    · rw [if_neg (fun h => c (lc.mp h))] at body
      obtain ⟨R0, r0, a1, a2, a3⟩ := ih (n + 1 + g) (R + 1) (by omega) (by omega) (by omega)
      exact ⟨R0, r0, a1, a2, body.trans a3⟩
theorem root_one {s R r R' r' : Nat} (h1 : R * R + r = s) (h2 : r ≤ 2 * R) (h3 : R' * R' + r' = s) (h4 : r' ≤ 2 * R') : R = R' ∧ r = r' := by
  have key : ∀ {a x b y : Nat}, a * a + x = s → x ≤ 2 * a → b * b + y = s → ¬ a < b := by
    intro a x b y g1 g2 g3 h
    have : (a + 1) * (a + 1) ≤ b * b := Nat.mul_le_mul h h
    have e : (a + 1) * (a + 1) = a * a + 2 * a + 1 := by rw [Nat.add_mul, Nat.mul_add]; omega
    omega
  have : R = R' := by
    have a := key h1 h2 h3
    have b := key h3 h4 h1
    omega
  subst this
  exact ⟨rfl, by omega⟩
end S
