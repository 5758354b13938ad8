/-! DOUBLES: what the two sides need of them -/
section S
theorem b64_t : FP.Core.b64.tails = 4503599627370496 := by decide
theorem b64_e : FP.Core.b64.exps = 2048 := by decide
theorem b64_n : FP.Core.b64.qmin = -1074 := by decide
theorem b64_x : FP.Core.b64.qmax = 971 := by decide
theorem b64_p : FP.Core.b64.p = 53 := rfl
def dV (a : UInt64) : FP.Core.Datum := FP.Core.decode FP.Core.b64 a.toNat
def dE (d : FP.Core.Datum) : UInt64 := UInt64.ofNat (FP.Core.encode FP.Core.b64 d)
theorem dq1 (s g : Nat) (h : g < 2048) : (s * 2048 + g) % 2048 = g ∧ (s * 2048 + g) / 2048 = s := by omega
theorem dq2 (a t : Nat) (h : t < 4503599627370496) : (a * 4503599627370496 + t) / 4503599627370496 = a ∧ (a * 4503599627370496 + t) % 4503599627370496 = t := by omega
theorem dq3 (s : Bool) : (s.toNat % 2 == 1) = s := by cases s <;> rfl
theorem dE_big {s : Bool} {c : Nat} {q : Int} (h1 : 4503599627370496 ≤ c) (h2 : c < 9007199254740992) (h3 : -1074 ≤ q) (h4 : q ≤ 971) : dV (dE (.fin s c q)) = .fin s c q := by
  have e : FP.Core.encode FP.Core.b64 (.fin s c q) = (s.toNat * 2048 + ((q - -1074).toNat + 1)) * 4503599627370496 + (c - 4503599627370496) := by
    simp only [FP.Core.encode, FP.Core.assemble]
    rw [b64_t, b64_e, b64_n, if_neg (by omega)]
  have st : s.toNat ≤ 1 := by cases s <;> decide
  unfold dV dE
  rw [e]
  generalize hg : (q - -1074).toNat + 1 = g
  have g1 : 1 ≤ g ∧ g ≤ 2046 := by omega
  have g2 : q = -1074 + ((g : Int) - 1) := by omega
  rw [UInt64.toNat_ofNat_of_lt' (by
    show _ < 18446744073709551616
    omega)]
  unfold FP.Core.decode FP.Core.fieldE FP.Core.fieldT FP.Core.fieldS
  rw [b64_t, b64_e, b64_n]
  have q1 := dq1 s.toNat g (by omega)
  have q2 := dq2 (s.toNat * 2048 + g) (c - 4503599627370496) (by omega)
  rw [q2.1, q2.2, q1.1, q1.2, dq3, if_neg (show ¬ g = 2048 - 1 from by omega), if_neg (show ¬ g = 0 from by omega), ← g2, Nat.add_sub_cancel' h1]
theorem dE_small {s : Bool} {c : Nat} {q : Int} (h1 : c < 4503599627370496) : dV (dE (.fin s c q)) = .fin s c (-1074) := by
  have e : FP.Core.encode FP.Core.b64 (.fin s c q) = (s.toNat * 2048 + 0) * 4503599627370496 + c := by
    simp only [FP.Core.encode, FP.Core.assemble]
    rw [b64_t, b64_e, if_pos h1]
  have st : s.toNat ≤ 1 := by cases s <;> decide
  unfold dV dE
  rw [e, UInt64.toNat_ofNat_of_lt' (by
    show _ < 18446744073709551616
    omega)]
  unfold FP.Core.decode FP.Core.fieldE FP.Core.fieldT FP.Core.fieldS
  rw [b64_t, b64_e, b64_n]
  have q1 := dq1 s.toNat 0 (by decide)
  have q2 := dq2 (s.toNat * 2048 + 0) c h1
  rw [q2.1, q2.2, q1.1, q1.2, dq3, if_neg (show ¬ (0 : Nat) = 2048 - 1 from by decide), if_pos rfl]
/-- a finite double whose last digit has an exponent of at most K -/
def dF (K : Int) (a : UInt64) : Prop := ∃ s c q, dV a = .fin s c q ∧ c < 9007199254740992 ∧ -1074 ≤ q ∧ q ≤ K
theorem dF_of {s : Bool} {c : Nat} {q K : Int} (h2 : c < 9007199254740992) (h3 : -1074 ≤ q) (h4 : q ≤ K) (hK : K ≤ 971) : dF K (dE (.fin s c q)) := by
  by_cases h : c < 4503599627370496
  · exact ⟨s, c, -1074, dE_small h, h2, by omega, by omega⟩
  · exact ⟨s, c, q, dE_big (by omega) h2 h3 (by omega), h2, h3, h4⟩
theorem dF_nn {β : Type} {K : Int} {a : UInt64} (h : dF K a) (k : Option β) : qnn a k = k := by
  obtain ⟨s, c, q, e, -⟩ := h
  unfold qnn
  refine if_pos ?_
  rw [UInt64.le_iff_toNat_le, UInt64.toNat_and, show (0x7fffffffffffffff : UInt64).toNat = 2 ^ 63 - 1 from rfl, Nat.and_two_pow_sub_one_eq_mod, show (0x7ff0000000000000 : UInt64).toNat = 9218868437227405312 from rfl]
  unfold dV FP.Core.decode FP.Core.fieldE FP.Core.fieldT at e
  rw [b64_t, b64_e] at e
  by_cases h1 : a.toNat / 4503599627370496 % 2048 = 2048 - 1
  · rw [if_pos h1] at e
    split at e <;> cases e
  · omega
/-- a number rounded is finite where it is small -/
theorem dRR {s : Bool} {num den : Nat} {e : Int} {n : Nat} (h : num < 2 ^ n) (hK : (n : Int) + e - 52 ≤ 970) : ∃ c q, FP.Core.roundRatio FP.Core.b64 s num den e = .fin s c q ∧ c < 9007199254740992 ∧ -1074 ≤ q ∧ (q ≤ -1073 ∨ q ≤ (n : Int) + e - 52) := by
  unfold FP.Core.roundRatio
  by_cases z : num = 0
  · rw [if_pos z, b64_n]
    exact ⟨0, -1074, rfl, by decide, by omega, by omega⟩
  · rw [if_neg z]
    unfold FP.Core.roundAt
    have l1 : num.log2 < n := (Nat.log2_lt z).mpr h
    have l2 : FP.Core.leading num den ≤ (num.log2 : Int) := by
      unfold FP.Core.leading
      have : (0 : Int) ≤ (den.log2 : Int) := Int.natCast_nonneg _
      simp only []
      split <;> omega
    have hq : FP.Core.quantum FP.Core.b64 num den e = -1074 ∨ FP.Core.quantum FP.Core.b64 num den e ≤ (n : Int) + e - 53 := by
      unfold FP.Core.quantum
      rw [b64_n, b64_p]
      omega
    have hq2 : -1074 ≤ FP.Core.quantum FP.Core.b64 num den e := by
      unfold FP.Core.quantum
      rw [b64_n, b64_p]
      omega
    generalize FP.Core.quantum FP.Core.b64 num den e = q at *
    generalize FP.Core.nearest _ _ = c
    unfold FP.Core.settle FP.Core.bound
    rw [b64_t, b64_x, show FP.Core.b64.p = 53 from rfl]
    by_cases hc : c < 2 ^ 53
    · rw [if_pos hc, if_pos (by omega)]
      exact ⟨c, q, rfl, hc, hq2, by omega⟩
    · rw [if_neg hc, if_pos (by omega)]
      exact ⟨_, _, rfl, by decide, by omega, by omega⟩
end S
