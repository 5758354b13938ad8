/-! THE TREE WITHOUT THE MACHINE: pieces, how they lie to a wall's line, how they are cut -/
section S
variable {p : Pln} {u v w : Nat}
/-- a piece: its wall, its start (numerator, denominator), its end -/
abbrev Pc : Type := Nat × Int × Int × Int × Int
def eA (p : Pln) (v w : Nat) : Int := sv p v (pX p w) (pY p w)
def eB (p : Pln) (v w : Nat) : Int := sv p v (pU p w) (pV p w)
/-- the side value at a position, times its denominator -/
def ev (p : Pln) (v w : Nat) (n d : Int) : Int := eA p v w * d + (eB p v w - eA p v w) * n
def relI (a b : Int) : Nat := if a = 0 ∧ b = 0 then 0 else if 0 ≤ a ∧ 0 ≤ b then 1 else if a ≤ 0 ∧ b ≤ 0 then 2 else 3
def rel (p : Pln) (v : Nat) (q : Pc) : Nat := relI (ev p v q.1 q.2.1 q.2.2.1) (ev p v q.1 q.2.2.2.1 q.2.2.2.2)
def cg (p : Pln) (v w : Nat) : Nat := Nat.gcd (eA p v w).natAbs (eA p v w - eB p v w).natAbs
def cN (p : Pln) (v w : Nat) : Int := ((eA p v w).natAbs / cg p v w : Nat)
def cD (p : Pln) (v w : Nat) : Int := ((eA p v w - eB p v w).natAbs / cg p v w : Nat)
/-- the part of a piece that crosses, on one side (true: in front) -/
def cutp (p : Pln) (v : Nat) (s : Bool) (q : Pc) : Pc := if decide (0 < eA p v q.1) = s then (q.1, q.2.1, q.2.2.1, cN p v q.1, cD p v q.1) else (q.1, cN p v q.1, cD p v q.1, q.2.2.2.1, q.2.2.2.2)
def prt (p : Pln) (v : Nat) (s : Bool) (q : Pc) : List Pc := if rel p v q = 3 then [cutp p v s q] else if rel p v q = (if s then 1 else 2) then [q] else []
/-- a piece as there are: 0 ≤ a < b ≤ 1, small denominators -/
def vpc (p : Pln) (q : Pc) : Prop := (q.1 < 12 ∧ pP p q.1 = true) ∧ 0 ≤ q.2.1 ∧ (1 ≤ q.2.2.1 ∧ q.2.2.1 ≤ 7938) ∧ (1 ≤ q.2.2.2.2 ∧ q.2.2.2.2 ≤ 7938) ∧ q.2.1 * q.2.2.2.2 < q.2.2.2.1 * q.2.2.1 ∧ q.2.2.2.1 ≤ q.2.2.2.2
theorem relI_le (a b : Int) : relI a b ≤ 3 := by
  unfold relI
  by_cases h1 : a = 0 ∧ b = 0
  · rw [if_pos h1]; omega
  · rw [if_neg h1]
    by_cases h2 : 0 ≤ a ∧ 0 ≤ b
    · rw [if_pos h2]; omega
    · rw [if_neg h2]
      by_cases h3 : a ≤ 0 ∧ b ≤ 0
      · rw [if_pos h3]; omega
      · rw [if_neg h3]; omega
theorem relI_0 {a b : Int} : relI a b = 0 ↔ a = 0 ∧ b = 0 := by
  unfold relI
  by_cases h1 : a = 0 ∧ b = 0
  · rw [if_pos h1]; exact ⟨fun _ => h1, fun _ => rfl⟩
  · rw [if_neg h1]
    refine ⟨fun h => ?_, fun h => absurd h h1⟩
    by_cases h2 : 0 ≤ a ∧ 0 ≤ b
    · rw [if_pos h2] at h; omega
    · rw [if_neg h2] at h
      by_cases h3 : a ≤ 0 ∧ b ≤ 0
      · rw [if_pos h3] at h; omega
      · rw [if_neg h3] at h; omega
theorem relI_3 {a b : Int} : relI a b = 3 ↔ (0 < a ∧ b < 0) ∨ (a < 0 ∧ 0 < b) := by
  unfold relI
  by_cases h1 : a = 0 ∧ b = 0
  · rw [if_pos h1]; omega
  · rw [if_neg h1]
    by_cases h2 : 0 ≤ a ∧ 0 ≤ b
    · rw [if_pos h2]; omega
    · rw [if_neg h2]
      by_cases h3 : a ≤ 0 ∧ b ≤ 0
      · rw [if_pos h3]; omega
      · rw [if_neg h3]; omega
theorem eA_self (w : Nat) : eA p w w = 0 := by unfold eA sv; grind
theorem eB_self (w : Nat) : eB p w w = 0 := by unfold eB sv; grind
theorem ev_self (w : Nat) (n d : Int) : ev p w w n d = 0 := by unfold ev; rw [eA_self, eB_self]; simp
theorem rel_self (q : Pc) : rel p q.1 q = 0 := by unfold rel; rw [ev_self, ev_self]; rfl
theorem eAB_bd (V : VP p) (hv : v < 12) (pv : pP p v = true) (hw : w < 12) (pw : pP p w = true) : (-7938 ≤ eA p v w ∧ eA p v w ≤ 7938) ∧ (-7938 ≤ eB p v w ∧ eB p v w ≤ 7938) ∧ (-7938 ≤ eA p v w - eB p v w ∧ eA p v w - eB p v w ≤ 7938) := by
  obtain ⟨w1, w2, w3, w4, -⟩ := V.1 w hw pw
  obtain ⟨v1, v2, v3, v4, -⟩ := V.1 v hv pv
  refine ⟨sv_small V hv pv w1 w2, sv_small V hv pv w3 w4, ?_⟩
  have a1 := mul_63 (a := pU p v - pX p v) (b := pY p w - pV p w) (by omega) (by omega) (by omega) (by omega)
  have a2 := mul_63 (a := pV p v - pY p v) (b := pX p w - pU p w) (by omega) (by omega) (by omega) (by omega)
  have e : eA p v w - eB p v w = (pU p v - pX p v) * (pY p w - pV p w) - (pV p v - pY p v) * (pX p w - pU p w) := by unfold eA eB sv; grind
  omega
theorem nonneg_of {a b : Int} (ha : 0 < a) (h : 0 < a * b) : 0 < b := by
  by_cases c : 0 < b
  · exact c
  · have : a * b ≤ 0 := Int.mul_nonpos_of_nonneg_of_nonpos (by omega) (by omega)
    omega
theorem lt_of_mul {a b g : Int} (hg : 0 < g) (h : a * g < b * g) : a < b := by
  by_cases c : a < b
  · exact c
  · have := Int.mul_le_mul_of_nonneg_right (a := b) (b := a) (c := g) (by omega) (by omega)
    omega
theorem le_of_mul {a b g : Int} (hg : 0 < g) (h : a * g ≤ b * g) : a ≤ b := by
  by_cases c : a ≤ b
  · exact c
  · have := Int.mul_lt_mul_of_pos_right (a := b) (b := a) (c := g) (by omega) hg
    omega
/-- all about a cut: the signs, and that it lies at A / (A - B) -/
def CutS (p : Pln) (v : Nat) (q : Pc) (σ g : Int) : Prop := (σ = 1 ∨ σ = -1) ∧ 0 < g ∧ cN p v q.1 * g = σ * eA p v q.1 ∧ cD p v q.1 * g = σ * (eA p v q.1 - eB p v q.1) ∧ 0 < σ * eA p v q.1 ∧ 0 < σ * (eA p v q.1 - eB p v q.1) ∧ 0 < σ * ev p v q.1 q.2.1 q.2.2.1 ∧ σ * ev p v q.1 q.2.2.2.1 q.2.2.2.2 < 0 ∧ g = (cg p v q.1 : Int)
theorem cut_signs {A B an ad bn bd : Int} (h1 : 0 ≤ an) (h2 : 1 ≤ ad) (h3 : 1 ≤ bd) (h4 : an * bd < bn * ad) (ha : 0 < A * ad + (B - A) * an) (hb : A * bd + (B - A) * bn < 0) : 0 < A ∧ 0 < A - B := by
  have k1 : 0 < bd * (A * ad + (B - A) * an) := Int.mul_pos (by omega) ha
  have k2 : 0 < ad * (-(A * bd + (B - A) * bn)) := Int.mul_pos (by omega) (by omega)
  have e : bd * (A * ad + (B - A) * an) + ad * (-(A * bd + (B - A) * bn)) = (bn * ad - an * bd) * (A - B) := by grind
  have k3 : 0 < A - B := nonneg_of (a := bn * ad - an * bd) (by omega) (by omega)
  refine ⟨?_, k3⟩
  have k4 : 0 ≤ (A - B) * an := Int.mul_nonneg (by omega) h1
  have e2 : A * ad + (B - A) * an = ad * A - (A - B) * an := by grind
  exact nonneg_of (a := ad) (by omega) (by omega)
theorem natAbs_σ {x σ : Int} (h : σ = 1 ∨ σ = -1) (hx : 0 < σ * x) : ((x.natAbs : Nat) : Int) = σ * x := by
  rcases h with rfl | rfl <;> omega
theorem cut_spec {q : Pc} (Q : vpc p q) (h : rel p v q = 3) : ∃ σ g : Int, CutS p v q σ g := by
  obtain ⟨-, q1, q2, q3, q4, q5⟩ := Q
  have h := relI_3.mp h
  have key : ∃ σ : Int, (σ = 1 ∨ σ = -1) ∧ 0 < σ * eA p v q.1 ∧ 0 < σ * (eA p v q.1 - eB p v q.1) ∧ 0 < σ * ev p v q.1 q.2.1 q.2.2.1 ∧ σ * ev p v q.1 q.2.2.2.1 q.2.2.2.2 < 0 := by
    rcases h with ⟨a, b⟩ | ⟨a, b⟩
    · have := cut_signs (A := eA p v q.1) (B := eB p v q.1) q1 q2.1 q3.1 q4 a b
      exact ⟨1, Or.inl rfl, by omega, by omega, by omega, by omega⟩
    · have e1 : -eA p v q.1 * q.2.2.1 + (-eB p v q.1 - -eA p v q.1) * q.2.1 = - ev p v q.1 q.2.1 q.2.2.1 := by unfold ev; grind
      have e2 : -eA p v q.1 * q.2.2.2.2 + (-eB p v q.1 - -eA p v q.1) * q.2.2.2.1 = - ev p v q.1 q.2.2.2.1 q.2.2.2.2 := by unfold ev; grind
      have := cut_signs (A := -eA p v q.1) (B := -eB p v q.1) q1 q2.1 q3.1 q4 (by omega) (by omega)
      exact ⟨-1, Or.inr rfl, by omega, by omega, by omega, by omega⟩
  obtain ⟨σ, s1, s2, s3, s4, s5⟩ := key
  have g1 : 0 < (eA p v q.1).natAbs := by rcases s1 with rfl | rfl <;> omega
  have g0 : 0 < cg p v q.1 := Nat.gcd_pos_of_pos_left _ g1
  refine ⟨σ, (cg p v q.1 : Int), s1, by omega, ?_, ?_, s2, s3, s4, s5, rfl⟩
  · rw [← natAbs_σ s1 s2]
    have := Nat.div_mul_cancel (Nat.gcd_dvd_left (eA p v q.1).natAbs (eA p v q.1 - eB p v q.1).natAbs)
    unfold cN
    exact_mod_cast this
  · rw [← natAbs_σ s1 s3]
    have := Nat.div_mul_cancel (Nat.gcd_dvd_right (eA p v q.1).natAbs (eA p v q.1 - eB p v q.1).natAbs)
    unfold cD
    exact_mod_cast this
/-- where the cut lies -/
theorem cut_at {q : Pc} (Q : vpc p q) {σ g : Int} (C : CutS p v q σ g) (bd : eA p v q.1 - eB p v q.1 ≤ 7938 ∧ -7938 ≤ eA p v q.1 - eB p v q.1) : 0 ≤ cN p v q.1 ∧ (1 ≤ cD p v q.1 ∧ cD p v q.1 ≤ 7938) ∧ q.2.1 * cD p v q.1 < cN p v q.1 * q.2.2.1 ∧ cN p v q.1 * q.2.2.2.2 < q.2.2.2.1 * cD p v q.1 ∧ cN p v q.1 ≤ cD p v q.1 ∧ ev p v q.1 (cN p v q.1) (cD p v q.1) = 0 := by
  obtain ⟨-, q1, q2, q3, q4, q5⟩ := Q
  obtain ⟨s1, g0, n1, d1, s2, s3, s4, s5, -⟩ := C
  have pN : 0 < cN p v q.1 := nonneg_of (a := g) g0 (by rw [Int.mul_comm]; omega)
  have pD : 0 < cD p v q.1 := nonneg_of (a := g) g0 (by rw [Int.mul_comm]; omega)
  have dle : cD p v q.1 ≤ 7938 := by
    have h : cD p v q.1 * g ≤ 7938 * 1 := by rw [d1]; rcases s1 with rfl | rfl <;> omega
    have h2 : cD p v q.1 * 1 ≤ cD p v q.1 * g := Int.mul_le_mul_of_nonneg_left (by omega) (by omega)
    omega
  have lt1 : q.2.1 * cD p v q.1 < cN p v q.1 * q.2.2.1 := by
    refine lt_of_mul g0 ?_
    have e1 : q.2.1 * cD p v q.1 * g = q.2.1 * (cD p v q.1 * g) := Int.mul_assoc _ _ _
    have e2 : cN p v q.1 * q.2.2.1 * g = q.2.2.1 * (cN p v q.1 * g) := by grind
    have e3 : σ * ev p v q.1 q.2.1 q.2.2.1 = q.2.2.1 * (σ * eA p v q.1) - q.2.1 * (σ * (eA p v q.1 - eB p v q.1)) := by unfold ev; grind
    rw [e1, e2, n1, d1]; omega
  have lt2 : cN p v q.1 * q.2.2.2.2 < q.2.2.2.1 * cD p v q.1 := by
    refine lt_of_mul g0 ?_
    have e1 : q.2.2.2.1 * cD p v q.1 * g = q.2.2.2.1 * (cD p v q.1 * g) := Int.mul_assoc _ _ _
    have e2 : cN p v q.1 * q.2.2.2.2 * g = q.2.2.2.2 * (cN p v q.1 * g) := by grind
    have e3 : σ * ev p v q.1 q.2.2.2.1 q.2.2.2.2 = q.2.2.2.2 * (σ * eA p v q.1) - q.2.2.2.1 * (σ * (eA p v q.1 - eB p v q.1)) := by unfold ev; grind
    rw [e1, e2, n1, d1]; omega
  refine ⟨by omega, ⟨by omega, dle⟩, lt1, lt2, ?_, ?_⟩
  · have h : q.2.2.2.1 * cD p v q.1 ≤ q.2.2.2.2 * cD p v q.1 := Int.mul_le_mul_of_nonneg_right q5 (by omega)
    refine le_of_mul (g := q.2.2.2.2) (by omega) ?_
    have : cD p v q.1 * q.2.2.2.2 = q.2.2.2.2 * cD p v q.1 := Int.mul_comm _ _
    omega
  · have e : ev p v q.1 (cN p v q.1) (cD p v q.1) * g = 0 := by
      have : ev p v q.1 (cN p v q.1) (cD p v q.1) * g = eA p v q.1 * (cD p v q.1 * g) - (eA p v q.1 - eB p v q.1) * (cN p v q.1 * g) := by unfold ev; grind
      rw [this, n1, d1]; grind
    rcases Int.mul_eq_zero.mp e with h | h
    · exact h
    · omega
theorem prt_mem {q r : Pc} {s : Bool} (h : r ∈ prt p v s q) : r.1 = q.1 ∧ rel p v q ≠ 0 := by
  unfold prt at h
  by_cases c : rel p v q = 3
  · rw [if_pos c, List.mem_singleton] at h
    refine ⟨?_, by omega⟩
    rw [h]
    unfold cutp
    split <;> rfl
  · rw [if_neg c] at h
    by_cases d : rel p v q = (if s then 1 else 2)
    · rw [if_pos d, List.mem_singleton] at h
      exact ⟨by rw [h], by rw [d]; cases s <;> decide⟩
    · rw [if_neg d] at h; cases h
theorem prt_vp (V : VP p) (hv : v < 12) (pv : pP p v = true) {q r : Pc} {s : Bool} (Q : vpc p q) (h : r ∈ prt p v s q) : vpc p r := by
  unfold prt at h
  by_cases c : rel p v q = 3
  · rw [if_pos c, List.mem_singleton] at h
    obtain ⟨σ, g, C⟩ := cut_spec Q c
    have bd := eAB_bd V hv pv Q.1.1 Q.1.2
    obtain ⟨c1, c2, c3, c4, c5, c6⟩ := cut_at Q C ⟨bd.2.2.2, bd.2.2.1⟩
    obtain ⟨q0, q1, q2, q3, q4, q5⟩ := Q
    rw [h]
    unfold cutp
    by_cases d : decide (0 < eA p v q.1) = s
    · rw [if_pos d]
      exact ⟨q0, q1, q2, c2, c3, c5⟩
    · rw [if_neg d]
      exact ⟨q0, c1, c2, q3, c4, q5⟩
  · rw [if_neg c] at h
    by_cases d : rel p v q = (if s then 1 else 2)
    · rw [if_pos d, List.mem_singleton] at h
      rw [h]; exact Q
    · rw [if_neg d] at h; cases h
end S
