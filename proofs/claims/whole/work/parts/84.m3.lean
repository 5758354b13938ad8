/-! RAYS, on: the reference's hit; the first hit; both loops -/
theorem zl0 : (0 : Int64) = zL 0 := rfl
theorem zlm1 : (-1 : Int64) = zL (-1) := by decide
theorem zl1 : (1 : Int64) = zL 1 := rfl
theorem rLs {a : Int} (h : -63504 ≤ a ∧ a ≤ 63504) : rL a := ⟨by omega, by omega⟩
theorem rLs2 {a : Int} (h : -7938 ≤ a ∧ a ≤ 7938) : rL a := ⟨by omega, by omega⟩
theorem rLs3 {a b : Int} (h : -7938 ≤ a ∧ a ≤ 7938) (g : -63504 ≤ b ∧ b ≤ 63504) : rL (a * b) := by
  have := mul_bd (a := a) (b := b) (A := 7938) (B := 63504) (by omega) (by omega) (by omega) (by omega)
  exact ⟨by omega, by omega⟩
theorem rL0 : rL 0 := ⟨by decide, by decide⟩
theorem pA1 {u : Pk} {k i j : Nat} {x : Int32} (h : i < 2147483648) : (pkA u k (zI (i : Int)) x).1 j = if j = k then upd (u.1 k) i x else u.1 j := by rw [pkA_at h]; rfl
theorem pA2 {u : Pk} {k : Nat} {i : Int32} {x : Int32} : (pkA u k i x).2 = u.2 := rfl
/-- the reference: what a call leaves as it was -/
def mSame (m m' : Pk) : Prop := m'.1 = m.1 ∧ ∀ k, k ≠ 54 → k ≠ 59 → m'.2.1 k = m.2.1 k
theorem mSame.rf (m : Pk) : mSame m m := ⟨rfl, fun _ _ _ => rfl⟩
theorem mSame.tr {a b c : Pk} (h : mSame a b) (g : mSame b c) : mSame a c := ⟨g.1.trans h.1, fun k h1 h2 => (g.2 k h1 h2).trans (h.2 k h1 h2)⟩
theorem ReM.same {m m' : Pk} {p : Pln} (R : ReM m p) (s : mSame m m') : ReM m' p := ⟨by rw [s.1]; exact R.1, (s.2 1 (by decide) (by decide)).trans R.2.1, (s.2 2 (by decide) (by decide)).trans R.2.2⟩
def mHit (m : Pk) (p : Pln) (i : Nat) (x y dx dy : Int) : Prop := m.2.2 52 = zL (hD p i x y dx dy) ∧ m.2.2 53 = zL (hQ p i x y dx dy) ∧ m.2.2 51 = zL (hB p i dx dy)
section H
variable {p : Pln} {i : Nat} {x y dx dy : Int}
theorem M_isHit {m : Pk} (R : ReM m p) (V : VP p) (h : i < 12) (hp : pP p i = true) (Y : RY x y dx dy) : ∃ m', fX10_isHit m (zI i) (zI x) (zI y) (zI dx) (zI dy) = some (b2 (hit p i x y dx dy), m') ∧ m'.1 = m.1 ∧ m'.2.1 = m.2.1 ∧ m'.2.2 55 = m.2.2 55 ∧ m'.2.2 56 = m.2.2 56 ∧ (hit p i x y dx dy = true → mHit m' p i x y dx dy) := by
  obtain ⟨v1, v2, v3, v4, -⟩ := V.1 i h hp
  obtain ⟨y1, y2, y3, y4⟩ := id Y
  have bl := hLow_bd V h hp Y
  have c1 : Int32.toInt64 (zI (pU p i - pX p i)) = zL (pU p i - pX p i) := zI_long ⟨by omega, by omega⟩
  have c2 : Int32.toInt64 (zI (pV p i - pY p i)) = zL (pV p i - pY p i) := zI_long ⟨by omega, by omega⟩
  have c3 : Int32.toInt64 (zI (pX p i - x)) = zL (pX p i - x) := zI_long ⟨by omega, by omega⟩
  have c4 : Int32.toInt64 (zI (pY p i - y)) = zL (pY p i - y) := zI_long ⟨by omega, by omega⟩
  have c5 : Int32.toInt64 (zI dx) = zL dx := zI_long ⟨by omega, by omega⟩
  have c6 : Int32.toInt64 (zI dy) = zL dy := zI_long ⟨by omega, by omega⟩
  unfold fX10_isHit
  simp only [M_at1 R h hp, M_at2 R h hp, M_at3 R h hp, M_at4 R h hp, qb1_s, qn_s, zI_sub, c1, c2, c3, c4, c5, c6, zL_mul, zL_sub]
  have eL : dx * (pV p i - pY p i) - dy * (pU p i - pX p i) = hLow p i dx dy := rfl
  rw [eL]
  simp only [cmp_eq, cmp_le, zl0, zL_eq (rLs bl) rL0, zL_le (rLs bl) rL0]
  by_cases hl : hLow p i dx dy = 0
  · have e : hit p i x y dx dy = false := by unfold hit; rw [hp]; simp [hl]
    rw [if_pos hl, e]
    exact ⟨m, rfl, rfl, rfl, rfl, rfl, fun h => by cases h⟩
  · rw [if_neg hl]
    have key : ∀ s : Int, s = hS p i dx dy → ∃ m', fX10_isHit_b92 m (zI dx) (zI dy) (zL (pU p i - pX p i)) (zL (pV p i - pY p i)) (zL (pX p i - x)) (zL (pY p i - y)) (zL (hLow p i dx dy)) (zL s) = some (b2 (hit p i x y dx dy), m') ∧ m'.1 = m.1 ∧ m'.2.1 = m.2.1 ∧ m'.2.2 55 = m.2.2 55 ∧ m'.2.2 56 = m.2.2 56 ∧ (hit p i x y dx dy = true → mHit m' p i x y dx dy) := by
      intro s hs
      subst hs
      unfold fX10_isHit_b92
      have e1 : zL (hS p i dx dy) * zL (hLow p i dx dy) = zL (hB p i dx dy) := by rw [zL_mul]; rfl
      have e2 : zL (hS p i dx dy) * (zL (pX p i - x) * zL (pV p i - pY p i) - zL (pY p i - y) * zL (pU p i - pX p i)) = zL (hD p i x y dx dy) := by rw [zL_mul, zL_mul, zL_sub, zL_mul]; rfl
      have e3 : zL (hS p i dx dy) * (zL (pX p i - x) * zL dy - zL (pY p i - y) * zL dx) = zL (hQ p i x y dx dy) := by rw [zL_mul, zL_mul, zL_sub, zL_mul]; rfl
      have bB := hB_bd V h hp Y
      have bD := hD_bd V h hp Y
      have bQ := hQ_bd V h hp Y
      simp only [qn_s, c5, c6, e1, e2, e3, pL, show (52 : Nat) = 53 ↔ False by decide, show (51 : Nat) = 53 ↔ False by decide, show (51 : Nat) = 52 ↔ False by decide, if_false, if_true, cmp_le, cmp_lt, cmp_gt, zl0, zL_le (rLs2 bD) rL0, zL_lt (rLs bQ) rL0, zL_lt (rLs bB) (rLs bQ)]
      have eh : hit p i x y dx dy = decide (¬ hD p i x y dx dy ≤ 0 ∧ ¬ hQ p i x y dx dy < 0 ∧ ¬ hB p i dx dy < hQ p i x y dx dy) := by
        unfold hit
        rw [hp]
        simp only [hl, Bool.true_and, ne_eq, not_false_eq_true, decide_true, Int.not_le, Int.not_lt, Bool.decide_and]
      have hh : mHit (pkL (pkL (pkL m 51 (zL (hB p i dx dy))) 52 (zL (hD p i x y dx dy))) 53 (zL (hQ p i x y dx dy))) p i x y dx dy := ⟨rfl, rfl, rfl⟩
      refine ⟨pkL (pkL (pkL m 51 (zL (hB p i dx dy))) 52 (zL (hD p i x y dx dy))) 53 (zL (hQ p i x y dx dy)), ?_, rfl, rfl, rfl, rfl, fun _ => hh⟩
      rw [eh]
      by_cases d1 : hD p i x y dx dy ≤ 0
      · rw [if_pos d1]; simp [d1, b2]
      · rw [if_neg d1]
        by_cases d2 : hQ p i x y dx dy < 0
        · rw [if_pos d2]; simp [d2, b2]
        · rw [if_neg d2]
          by_cases d3 : hB p i dx dy < hQ p i x y dx dy
          · rw [if_pos d3]; simp [d3, b2]
          · rw [if_neg d3]; simp [d1, d2, d3, b2]
    by_cases hg : hLow p i dx dy ≤ 0
    · rw [if_pos hg, zlm1]
      exact key (-1) (by unfold hS; rw [if_neg (by omega)])
    · rw [if_neg hg, zl1]
      exact key 1 (by unfold hS; rw [if_pos (by omega)])
/-- the first hit among the walls below n -/
def fh (p : Pln) (x y dx dy : Int) : Nat → Option Nat
  | 0 => none
  | n + 1 => match fh p x y dx dy n with
    | none => if opq p n x y && hit p n x y dx dy then some n else none
    | some j => if opq p n x y && (hit p n x y dx dy && decide (hD p n x y dx dy * hB p j dx dy < hD p j x y dx dy * hB p n dx dy)) then some n else some j
theorem fh_lt : ∀ {n j : Nat}, fh p x y dx dy n = some j → j < n ∧ opq p j x y = true ∧ hit p j x y dx dy = true
  | 0, j, h => by cases h
  | n + 1, j, h => by
    unfold fh at h
    cases hf : fh p x y dx dy n with
    | none =>
      rw [hf] at h
      dsimp only at h
      by_cases c : (opq p n x y && hit p n x y dx dy) = true
      · rw [if_pos c] at h; cases h
        simp only [Bool.and_eq_true] at c
        exact ⟨by omega, c.1, c.2⟩
      · rw [if_neg c] at h; cases h
    | some k =>
      rw [hf] at h
      dsimp only at h
      by_cases c : (opq p n x y && (hit p n x y dx dy && decide (hD p n x y dx dy * hB p k dx dy < hD p k x y dx dy * hB p n dx dy))) = true
      · rw [if_pos c] at h; cases h
        simp only [Bool.and_eq_true] at c
        exact ⟨by omega, c.1, c.2.1⟩
      · rw [if_neg c] at h; cases h
        have := fh_lt hf
        exact ⟨by omega, this.2⟩
theorem opq_p (h : opq p i x y = true) : pP p i = true := by
  unfold opq at h; simp only [Bool.and_eq_true] at h; exact h.1
theorem hit_low (h : hit p i x y dx dy = true) : hLow p i dx dy ≠ 0 := by
  unfold hit at h; simp only [Bool.and_eq_true, decide_eq_true_eq] at h; exact h.2.1
/-- blocked within 1 by some wall, or by the first hit: the same -/
def blkN (p : Pln) (x y dx dy : Int) : Nat → Bool
  | 0 => false
  | n + 1 => blkN p x y dx dy n || (opq p n x y && (hit p n x y dx dy && decide (hD p n x y dx dy ≤ hB p n dx dy)))
theorem blk_fh : ∀ n : Nat, blkN p x y dx dy n = (match fh p x y dx dy n with | none => false | some j => decide (hD p j x y dx dy ≤ hB p j dx dy))
  | 0 => rfl
  | n + 1 => by
    have ih := blk_fh n
    unfold blkN fh
    cases hf : fh p x y dx dy n with
    | none =>
      rw [hf] at ih
      dsimp only at ih ⊢
      rw [ih]
      cases h1 : opq p n x y <;> cases h2 : hit p n x y dx dy <;> simp
    | some k =>
      rw [hf] at ih
      dsimp only at ih ⊢
      rw [ih]
      have hk := fh_lt hf
      have bk := hB_pos (hit_low hk.2.2)
      cases h1 : opq p n x y with
      | false => simp
      | true =>
        cases h2 : hit p n x y dx dy with
        | false => simp
        | true =>
          have bn := hB_pos (hit_low h2)
          simp only [Bool.true_and]
          by_cases c : hD p n x y dx dy * hB p k dx dy < hD p k x y dx dy * hB p n dx dy
          · simp only [c, decide_true, if_true]
            by_cases c1 : hD p k x y dx dy ≤ hB p k dx dy
            · have : hD p n x y dx dy ≤ hB p n dx dy := by
                have e1 : hD p k x y dx dy * hB p n dx dy ≤ hB p k dx dy * hB p n dx dy := Int.mul_le_mul_of_nonneg_right c1 (by omega)
                have e2 : hD p n x y dx dy * hB p k dx dy < hB p n dx dy * hB p k dx dy := by rw [Int.mul_comm (hB p n dx dy)]; omega
                have := Int.lt_of_mul_lt_mul_right e2 (by omega)
                omega
              simp [c1, this]
            · simp [c1]
          · simp only [c, decide_false, if_false, Bool.false_eq_true]
            by_cases c1 : hD p n x y dx dy ≤ hB p n dx dy
            · have : hD p k x y dx dy ≤ hB p k dx dy := by
                have e1 : hD p n x y dx dy * hB p k dx dy ≤ hB p n dx dy * hB p k dx dy := Int.mul_le_mul_of_nonneg_right c1 (by omega)
                have e2 : hD p k x y dx dy * hB p n dx dy ≤ hB p k dx dy * hB p n dx dy := by rw [Int.mul_comm (hB p k dx dy)]; omega
                exact Int.le_of_mul_le_mul_right e2 bn
              simp [c1, this]
            · simp [c1]
end H
