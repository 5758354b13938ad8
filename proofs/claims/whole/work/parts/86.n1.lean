/-! WALLS: wallCount, coordinate, kind, weights -/
section S
variable {p : Pln} {t w m : Pk} {i : Nat}
def wc (p : Pln) : Nat → Nat
  | 0 => 0
  | k + 1 => wc p k + if pP p k then 1 else 0
theorem wc_le : ∀ k : Nat, wc p k ≤ k
  | 0 => Nat.le_refl 0
  | k + 1 => by
    have := wc_le k
    unfold wc
    split <;> omega
theorem wc_s (k : Nat) : wc p (k + 1) = wc p k + if pP p k then 1 else 0 := rfl
theorem C_total_loop (R : ReW w p) : ∀ (n i : Nat), i ≤ 12 → 12 - i < n → fX8_total_b4 w n (zI (wc p i : Nat)) (zI (i : Int)) = some (zI (wc p 12 : Nat)) := by
  intro n
  induction n with
  | zero => intro i _ h; omega
  | succ n ih =>
    intro i hi hn
    show fX8_total_b4_s (fX8_total_b4 w n) w _ _ = _
    unfold fX8_total_b4_s fX8_total_b22
    by_cases h : i < 12
    · have e := wc_s (p := p) i
      rw [if_neg (i12a h), qld_at h (by decide), R.pr h]
      cases hp : pP p i with
      | false =>
        rw [ifF, qn_s, ix_s, ← ih (i + 1) (by omega) (by omega), e, hp]
        rfl
      | true =>
        rw [ifT, qn_s, qn_s, ix_s, ix_s, ← ih (i + 1) (by omega) (by omega), e, hp]
        rfl
    · have e : i = 12 := by omega
      subst e
      rw [if_pos i12e]
theorem C_total (R : ReW w p) : fX8_total w = some (zI (wc p 12 : Nat)) := C_total_loop R FU 0 (by omega) (FU_12 0)
theorem M_count_loop (Q : ReM m p) : ∀ (n i : Nat), i ≤ 12 → 12 - i < n → fX10_wallCount_b4 m n (zI (wc p i : Nat)) (zI (i : Int)) = some (zI (wc p 12 : Nat)) := by
  intro n
  induction n with
  | zero => intro i _ h; omega
  | succ n ih =>
    intro i hi hn
    show fX10_wallCount_b4_s (fX10_wallCount_b4 m n) m _ _ = _
    unfold fX10_wallCount_b4_s
    by_cases h : i < 12
    · have e := wc_s (p := p) i
      rw [if_neg (i12a h), M_at0 Q h, qb1_s, qn_s, qn_s, ix_s, ← ih (i + 1) (by omega) (by omega), e]
      cases hp : pP p i with
      | false => rw [show b2 false = (0 : Int32) from rfl, Int32.add_zero]; rfl
      | true => rw [show b2 true = (1 : Int32) from rfl, ix_s]; rfl
    · have e : i = 12 := by omega
      subst e
      rw [if_pos i12e]
theorem M_wallCount (Q : ReM m p) : fX10_wallCount m = some (zI (wc p 12 : Nat)) := M_count_loop Q FU 0 (by omega) (FU_12 0)
def Two (c d : Option Int32) : Prop := ∃ v : Int32, c = some v ∧ d = some v
theorem S_wallCount (R : ReW w p) (Q : ReM m p) : Two (fX9_wallCount t w) (fX10_wallCount m) := by
  unfold fX9_wallCount
  rw [C_total R, qb1_s, M_wallCount Q]
  exact ⟨_, rfl, rfl⟩
theorem S_weights (R : ReW w p) (Q : ReM m p) : Two (fX9_weights t w) (fX10_weights m) := by
  unfold fX9_weights fX10_weights fX8_weightCode
  rw [qb1_s, R.2.1, R.2.2, Q.2.1, Q.2.2]
  exact ⟨_, rfl, rfl⟩
theorem a03 {a : Int32} : (a < 0 ∨ 3 < a) ∨ a = 0 ∨ a = 1 ∨ a = 2 ∨ a = 3 := by
  simp only [Int32.lt_iff_toInt_lt, ← Int32.toInt_inj]
  have h0 : (0 : Int32).toInt = 0 := by decide
  have h1 : (1 : Int32).toInt = 1 := by decide
  have h2 : (2 : Int32).toInt = 2 := by decide
  have h3 : (3 : Int32).toInt = 3 := by decide
  omega
theorem c3p {a : Int32} (h : 3 < a) : 0 ≤ a := by
  simp only [Int32.lt_iff_toInt_lt, Int32.le_iff_toInt_le] at *
  have : (3 : Int32).toInt = 3 := by decide
  have : (0 : Int32).toInt = 0 := by decide
  omega
theorem S_coordinate (R : ReW w p) (Q : ReM m p) (a1 a2 : Int32) : Two (fX9_coordinate t w a1 a2) (fX10_coordinate m a1 a2) := by
  unfold fX9_coordinate fX10_coordinate
  rw [C_exists R, M_isWall Q, qb1_s, qb1_s]
  cases h : isP p a1 with
  | false => exact ⟨_, rfl, rfl⟩
  | true =>
    obtain ⟨i, hi, rfl, hp⟩ := isP_z h
    rw [ifT, ifT]
    rcases a03 (a := a2) with (c | c) | rfl | rfl | rfl | rfl
    · rw [if_neg (by grind), if_neg (by grind), if_neg (by grind), if_neg (by grind), if_pos c]
      exact ⟨_, rfl, rfl⟩
    · rw [if_neg (by grind), if_neg (by grind), if_neg (by grind), if_neg (by grind), if_neg (nlt.mpr (c3p c)), if_neg (nle.mpr c)]
      exact ⟨_, rfl, rfl⟩
    · rw [if_pos rfl, if_neg (by decide), if_pos (by decide), W_startX R hi hp, show (1 : Int32) + 0 = 1 from rfl, M_at1 Q hi hp]
      exact ⟨_, rfl, rfl⟩
    · rw [if_neg (by decide), if_pos rfl, if_neg (by decide), if_pos (by decide), W_startY R hi hp, show (1 : Int32) + 1 = 2 from rfl, M_at2 Q hi hp]
      exact ⟨_, rfl, rfl⟩
    · rw [if_neg (by decide), if_neg (by decide), if_pos rfl, if_neg (by decide), if_pos (by decide), W_endX R hi hp, show (1 : Int32) + 2 = 3 from rfl, M_at3 Q hi hp]
      exact ⟨_, rfl, rfl⟩
    · rw [if_neg (by decide), if_neg (by decide), if_neg (by decide), if_pos rfl, if_neg (by decide), if_pos (by decide), W_endY R hi hp, show (1 : Int32) + 3 = 4 from rfl, M_at4 Q hi hp]
      exact ⟨_, rfl, rfl⟩
theorem S_kind (R : ReW w p) (Q : ReM m p) (a1 : Int32) : Two (fX9_kind t w a1) (fX10_kind m a1) := by
  unfold fX9_kind fX10_kind
  rw [C_exists R, M_isWall Q, qb1_s, qb1_s]
  cases h : isP p a1 with
  | false => exact ⟨_, rfl, rfl⟩
  | true =>
    obtain ⟨i, hi, rfl, hp⟩ := isP_z h
    rw [ifT, ifT, W_kindOf R hi hp, qb1_s, W_isMovable R hi, qb1_s, M_at5 Q hi hp, qb1_s, M_at6 Q hi hp, qb1_s, hp]
    cases hm : pM p i with
    | false => exact ⟨_, rfl, rfl⟩
    | true => exact ⟨_, rfl, rfl⟩
end S
