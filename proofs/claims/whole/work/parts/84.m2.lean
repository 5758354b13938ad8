/-! RAYS: a hit, the first hit, told by numbers; the object Ray and the reference say the same -/
theorem qn_s {α β : Type} (a : α) (k : α → Option β) : qn a k = k a := rfl
theorem pI (u : Pk) (k : Nat) (x : Int32) (j : Nat) : (pkI u k x).2.1 j = if j = k then x else u.2.1 j := rfl
theorem pI1 (u : Pk) (k : Nat) (x : Int32) : (pkI u k x).1 = u.1 := rfl
theorem pI2 (u : Pk) (k : Nat) (x : Int32) : (pkI u k x).2.2 = u.2.2 := rfl
theorem pL (u : Pk) (k : Nat) (x : Int64) (j : Nat) : (pkL u k x).2.2 j = if j = k then x else u.2.2 j := rfl
theorem pL1 (u : Pk) (k : Nat) (x : Int64) : (pkL u k x).1 = u.1 := rfl
theorem pL2 (u : Pk) (k : Nat) (x : Int64) : (pkL u k x).2.1 = u.2.1 := rfl
theorem mul_bd {a b A B : Int} (h1 : -A ≤ a) (h2 : a ≤ A) (h3 : -B ≤ b) (h4 : b ≤ B) : -(A * B) ≤ a * b ∧ a * b ≤ A * B := by
  constructor
  · have h : 0 ≤ (a + A) * (b + B) + (A - a) * (B - b) := Int.add_nonneg (Int.mul_nonneg (by omega) (by omega)) (Int.mul_nonneg (by omega) (by omega))
    have e : (a + A) * (b + B) + (A - a) * (B - b) = 2 * (a * b) + 2 * (A * B) := by grind
    omega
  · have h : 0 ≤ (a + A) * (B - b) + (A - a) * (b + B) := Int.add_nonneg (Int.mul_nonneg (by omega) (by omega)) (Int.mul_nonneg (by omega) (by omega))
    have e : (a + A) * (B - b) + (A - a) * (b + B) = 2 * (A * B) - 2 * (a * b) := by grind
    omega
def hLow (p : Pln) (i : Nat) (dx dy : Int) : Int := dx * (pV p i - pY p i) - dy * (pU p i - pX p i)
def hS (p : Pln) (i : Nat) (dx dy : Int) : Int := if 0 < hLow p i dx dy then 1 else -1
def hB (p : Pln) (i : Nat) (dx dy : Int) : Int := hS p i dx dy * hLow p i dx dy
def hD (p : Pln) (i : Nat) (x y dx dy : Int) : Int := hS p i dx dy * ((pX p i - x) * (pV p i - pY p i) - (pY p i - y) * (pU p i - pX p i))
def hQ (p : Pln) (i : Nat) (x y dx dy : Int) : Int := hS p i dx dy * ((pX p i - x) * dy - (pY p i - y) * dx)
def hit (p : Pln) (i : Nat) (x y dx dy : Int) : Bool := pP p i && (decide (hLow p i dx dy ≠ 0) && (decide (0 < hD p i x y dx dy) && (decide (0 ≤ hQ p i x y dx dy) && decide (hQ p i x y dx dy ≤ hB p i dx dy))))
/-- an eye in the square, a direction that is no longer than a column's -/
def RY (x y dx dy : Int) : Prop := (0 ≤ x ∧ x ≤ 63) ∧ (0 ≤ y ∧ y ≤ 63) ∧ (-504 ≤ dx ∧ dx ≤ 504) ∧ (-504 ≤ dy ∧ dy ≤ 504)
section H
variable {p : Pln} {i : Nat} {x y dx dy : Int}
theorem hLow_bd (V : VP p) (h : i < 12) (hp : pP p i = true) (Y : RY x y dx dy) : -63504 ≤ hLow p i dx dy ∧ hLow p i dx dy ≤ 63504 := by
  obtain ⟨v1, v2, v3, v4, -⟩ := V.1 i h hp
  obtain ⟨-, -, y3, y4⟩ := Y
  have a1 := mul_bd (a := dx) (b := pV p i - pY p i) (A := 504) (B := 63) (by omega) (by omega) (by omega) (by omega)
  have a2 := mul_bd (a := dy) (b := pU p i - pX p i) (A := 504) (B := 63) (by omega) (by omega) (by omega) (by omega)
  unfold hLow
  omega
theorem hB_bd (V : VP p) (h : i < 12) (hp : pP p i = true) (Y : RY x y dx dy) : -63504 ≤ hB p i dx dy ∧ hB p i dx dy ≤ 63504 := by
  have := hLow_bd V h hp Y
  unfold hB hS
  by_cases c : 0 < hLow p i dx dy
  · rw [if_pos c]; omega
  · rw [if_neg c]; omega
theorem hB_pos (hl : hLow p i dx dy ≠ 0) : 0 < hB p i dx dy := by
  unfold hB hS
  by_cases c : 0 < hLow p i dx dy
  · rw [if_pos c]; omega
  · rw [if_neg c]; omega
theorem hD_bd (V : VP p) (h : i < 12) (hp : pP p i = true) (Y : RY x y dx dy) : -7938 ≤ hD p i x y dx dy ∧ hD p i x y dx dy ≤ 7938 := by
  obtain ⟨v1, v2, v3, v4, -⟩ := V.1 i h hp
  obtain ⟨y1, y2, y3, y4⟩ := Y
  have a1 := mul_bd (a := pX p i - x) (b := pV p i - pY p i) (A := 63) (B := 63) (by omega) (by omega) (by omega) (by omega)
  have a2 := mul_bd (a := pY p i - y) (b := pU p i - pX p i) (A := 63) (B := 63) (by omega) (by omega) (by omega) (by omega)
  unfold hD hS
  by_cases c : 0 < hLow p i dx dy
  · rw [if_pos c]; omega
  · rw [if_neg c]; omega
theorem hQ_bd (V : VP p) (h : i < 12) (hp : pP p i = true) (Y : RY x y dx dy) : -63504 ≤ hQ p i x y dx dy ∧ hQ p i x y dx dy ≤ 63504 := by
  obtain ⟨v1, v2, v3, v4, -⟩ := V.1 i h hp
  obtain ⟨y1, y2, y3, y4⟩ := Y
  have a1 := mul_bd (a := pX p i - x) (b := dy) (A := 63) (B := 504) (by omega) (by omega) (by omega) (by omega)
  have a2 := mul_bd (a := pY p i - y) (b := dx) (A := 63) (B := 504) (by omega) (by omega) (by omega) (by omega)
  unfold hQ hS
  by_cases c : 0 < hLow p i dx dy
  · rw [if_pos c]; omega
  · rw [if_neg c]; omega
/-- what a ray's object holds besides its latest hit -/
def rSame (r r' : Pk) : Prop := r'.1 = r.1 ∧ r'.2.2 = r.2.2 ∧ ∀ k, k ≠ 6 → k ≠ 7 → k ≠ 8 → r'.2.1 k = r.2.1 k
theorem rSame.rf (r : Pk) : rSame r r := ⟨rfl, rfl, fun _ _ _ _ => rfl⟩
theorem rSame.tr {a b c : Pk} (h : rSame a b) (g : rSame b c) : rSame a c := ⟨g.1.trans h.1, g.2.1.trans h.2.1, fun k h1 h2 h3 => (g.2.2 k h1 h2 h3).trans (h.2.2 k h1 h2 h3)⟩
def rAim (r : Pk) (x y dx dy : Int) : Prop := r.2.1 2 = zI x ∧ r.2.1 3 = zI y ∧ r.2.1 4 = zI dx ∧ r.2.1 5 = zI dy
theorem rAim.same {r r' : Pk} (h : rAim r x y dx dy) (s : rSame r r') : rAim r' x y dx dy := ⟨(s.2.2 2 (by decide) (by decide) (by decide)).trans h.1, (s.2.2 3 (by decide) (by decide) (by decide)).trans h.2.1, (s.2.2 4 (by decide) (by decide) (by decide)).trans h.2.2.1, (s.2.2 5 (by decide) (by decide) (by decide)).trans h.2.2.2⟩
def rHit (r : Pk) (p : Pln) (i : Nat) (x y dx dy : Int) : Prop := r.2.1 6 = zI (hD p i x y dx dy) ∧ r.2.1 7 = zI (hQ p i x y dx dy) ∧ r.2.1 8 = zI (hB p i dx dy)
theorem r63504 {a : Int} (h : -63504 ≤ a ∧ a ≤ 63504) : rI a := ⟨by omega, by omega⟩
theorem r7938 {a : Int} (h : -7938 ≤ a ∧ a ≤ 7938) : rI a := ⟨by omega, by omega⟩
theorem r0 : rI 0 := ⟨by decide, by decide⟩
theorem z0r : zI 0 = (0 : Int32) := rfl
theorem zm1 : (-1 : Int32) = zI (-1) := by decide
theorem z1 : (1 : Int32) = zI 1 := rfl
theorem z0 : (0 : Int32) = zI 0 := rfl
theorem R_hits {w r : Pk} (R : ReW w p) (V : VP p) (h : i < 12) (A : rAim r x y dx dy) (Y : RY x y dx dy) : ∃ r', fX5_hits w r (zI i) = some (b2 (hit p i x y dx dy), r') ∧ rSame r r' ∧ (hit p i x y dx dy = true → rHit r' p i x y dx dy) := by
  unfold fX5_hits
  rw [W_exists R h, qb1_s]
  cases hp : pP p i with
  | false =>
    have e : hit p i x y dx dy = false := by unfold hit; rw [hp]; rfl
    rw [e]
    exact ⟨r, rfl, rSame.rf r, fun h => by cases h⟩
  | true =>
    rw [if_neg (by decide), W_wayX R h hp, qb1_s, W_wayY R h hp, qb1_s]
    have bl := hLow_bd V h hp Y
    have eL : r.2.1 4 * zI (pV p i - pY p i) - r.2.1 5 * zI (pU p i - pX p i) = zI (hLow p i dx dy) := by
      rw [A.2.2.1, A.2.2.2, zI_mul, zI_mul, zI_sub]; rfl
    simp only [qn_s, eL, z0, zI_eq (r63504 bl) r0, zI_le (r63504 bl) r0]
    by_cases hl : hLow p i dx dy = 0
    · have e : hit p i x y dx dy = false := by unfold hit; rw [hp]; simp [hl]
      rw [if_pos hl, e]
      exact ⟨r, rfl, rSame.rf r, fun h => by cases h⟩
    · rw [if_neg hl, W_startX R h hp, qb1_s, W_startY R h hp, qb1_s, A.1, A.2.1, zI_sub, zI_sub]
      -- one row for both signs
      have key : ∀ s : Int, s = hS p i dx dy → ∃ r', fX5_hits_b93 w r (zI (pU p i - pX p i)) (zI (pV p i - pY p i)) (zI (hLow p i dx dy)) (zI (pX p i - x)) (zI (pY p i - y)) (zI s) = some (b2 (hit p i x y dx dy), r') ∧ rSame r r' ∧ (hit p i x y dx dy = true → rHit r' p i x y dx dy) := by
        intro s hs
        subst hs
        unfold fX5_hits_b93
        simp only [qn_s]
        have e1 : zI (hS p i dx dy) * zI (hLow p i dx dy) = zI (hB p i dx dy) := by rw [zI_mul]; rfl
        have e2 : zI (hS p i dx dy) * (zI (pX p i - x) * zI (pV p i - pY p i) - zI (pY p i - y) * zI (pU p i - pX p i)) = zI (hD p i x y dx dy) := by rw [zI_mul, zI_mul, zI_sub, zI_mul]; rfl
        rw [e1, e2]
        simp only [pI]
        simp only [show (5 : Nat) = 6 ↔ False by decide, show (5 : Nat) = 8 ↔ False by decide, show (4 : Nat) = 6 ↔ False by decide, show (4 : Nat) = 8 ↔ False by decide, if_false, A.2.2.1, A.2.2.2]
        have e3 : zI (hS p i dx dy) * (zI (pX p i - x) * zI dy - zI (pY p i - y) * zI dx) = zI (hQ p i x y dx dy) := by rw [zI_mul, zI_mul, zI_sub, zI_mul]; rfl
        rw [e3]
        have bB := hB_bd V h hp Y
        have bD := hD_bd V h hp Y
        have bQ := hQ_bd V h hp Y
        simp only [show (6 : Nat) = 7 ↔ False by decide, show (8 : Nat) = 7 ↔ False by decide, show (8 : Nat) = 6 ↔ False by decide, if_false, if_true, z0, zI_le (r7938 bD) r0, zI_lt (r63504 bQ) r0, zI_lt (r63504 bB) (r63504 bQ)]
        have same : rSame r (pkI (pkI (pkI r 8 (zI (hB p i dx dy))) 6 (zI (hD p i x y dx dy))) 7 (zI (hQ p i x y dx dy))) := ⟨rfl, rfl, fun k h1 h2 h3 => by rw [pI, pI, pI, if_neg h2, if_neg h1, if_neg h3]⟩
        have hh : rHit (pkI (pkI (pkI r 8 (zI (hB p i dx dy))) 6 (zI (hD p i x y dx dy))) 7 (zI (hQ p i x y dx dy))) p i x y dx dy := ⟨rfl, rfl, rfl⟩
        have eh : hit p i x y dx dy = decide (¬ hD p i x y dx dy ≤ 0 ∧ ¬ hQ p i x y dx dy < 0 ∧ ¬ hB p i dx dy < hQ p i x y dx dy) := by
          unfold hit
          rw [hp]
          simp only [hl, Bool.true_and, ne_eq, not_false_eq_true, decide_true, Int.not_le, Int.not_lt, Bool.decide_and]
        refine ⟨_, ?_, same, fun _ => hh⟩
        rw [eh]
        by_cases c1 : hD p i x y dx dy ≤ 0
        · rw [if_pos c1]; simp [c1, b2, z0r]
        · rw [if_neg c1]
          by_cases c2 : hQ p i x y dx dy < 0
          · rw [if_pos c2]; simp [c2, b2, z0r]
          · rw [if_neg c2]
            by_cases c3 : hB p i dx dy < hQ p i x y dx dy
            · rw [if_pos c3]; simp [c3, b2, z0r]
            · rw [if_neg c3]; simp [c1, c2, c3, b2]
      by_cases hg : hLow p i dx dy ≤ 0
      · rw [if_pos hg]
        rw [zm1]
        exact key (-1) (by unfold hS; rw [if_neg (by omega)])
      · rw [if_neg hg]
        rw [z1]
        exact key 1 (by unfold hS; rw [if_pos (by omega)])
end H
