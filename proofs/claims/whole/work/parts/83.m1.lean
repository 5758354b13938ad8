/-! PLANS: what the walls are, told once for both sides. A plan: which walls there are, which are movable, kinds, points, weights. ReW: an object Walls holds it; ReA: the reference's row holds it from a place on -/
abbrev Pln : Type := (Nat → Bool) × (Nat → Bool) × (Nat → Int) × (Nat → Int) × (Nat → Int) × (Nat → Int) × (Nat → Int) × Int × Int
def pP (p : Pln) : Nat → Bool := p.1
def pM (p : Pln) : Nat → Bool := p.2.1
def pK (p : Pln) : Nat → Int := p.2.2.1
def pX (p : Pln) : Nat → Int := p.2.2.2.1
def pY (p : Pln) : Nat → Int := p.2.2.2.2.1
def pU (p : Pln) : Nat → Int := p.2.2.2.2.2.1
def pV (p : Pln) : Nat → Int := p.2.2.2.2.2.2.1
def pS (p : Pln) : Int := p.2.2.2.2.2.2.2.1
def pB (p : Pln) : Int := p.2.2.2.2.2.2.2.2
def b2 (b : Bool) : Int32 := if b then 1 else 0
def ReW (u : Pk) (p : Pln) : Prop := (∀ i, i < 12 → u.1 0 i = b2 (pP p i) ∧ (pP p i = true → u.1 1 i = b2 (pM p i) ∧ u.1 2 i = zI (pX p i) ∧ u.1 3 i = zI (pY p i) ∧ u.1 4 i = zI (pU p i) ∧ u.1 5 i = zI (pV p i) ∧ u.1 6 i = zI (pK p i))) ∧ u.2.1 7 = zI (pS p) ∧ u.2.1 8 = zI (pB p)
def ReA (f : Nat → Int32) (o : Nat) (p : Pln) : Prop := ∀ i, i < 12 → f (o + 7 * i) = b2 (pP p i) ∧ (pP p i = true → f (o + 7 * i + 1) = zI (pX p i) ∧ f (o + 7 * i + 2) = zI (pY p i) ∧ f (o + 7 * i + 3) = zI (pU p i) ∧ f (o + 7 * i + 4) = zI (pV p i) ∧ f (o + 7 * i + 5) = zI (pK p i) ∧ f (o + 7 * i + 6) = b2 (pM p i))
def ReM (m : Pk) (p : Pln) : Prop := ReA (m.1 0) 0 p ∧ m.2.1 1 = zI (pS p) ∧ m.2.1 2 = zI (pB p)
def VP (p : Pln) : Prop := (∀ i, i < 12 → pP p i = true → (0 ≤ pX p i ∧ pX p i ≤ 63) ∧ (0 ≤ pY p i ∧ pY p i ≤ 63) ∧ (0 ≤ pU p i ∧ pU p i ≤ 63) ∧ (0 ≤ pV p i ∧ pV p i ≤ 63) ∧ ¬ (pX p i = pU p i ∧ pY p i = pV p i) ∧ (0 ≤ pK p i ∧ pK p i ≤ 2)) ∧ (0 ≤ pS p ∧ pS p ≤ 9) ∧ (0 ≤ pB p ∧ pB p ≤ 9)
/-- the side value -/
def sv (p : Pln) (i : Nat) (x y : Int) : Int := (pU p i - pX p i) * (y - pY p i) - (pV p i - pY p i) * (x - pX p i)
def opq (p : Pln) (i : Nat) (x y : Int) : Bool := pP p i && (decide (pK p i = 0) || (decide (pK p i = 2) && decide (0 < sv p i x y)))
def drw (p : Pln) (i : Nat) (x y : Int) : Bool := pP p i && (decide (0 < sv p i x y) || (decide (sv p i x y < 0) && decide (pK p i ≠ 2)))
theorem ix_nn {i : Nat} (h : i < 2147483648) : ¬ zI (i : Int) < 0 := by
  rw [show (0 : Int32) = zI 0 from rfl, zI_lt ⟨by omega, by omega⟩ ⟨by decide, by decide⟩]; omega
theorem ix_a {i n : Nat} (h : i < n) (hn : n < 2147483648) : ¬ zI (n : Int) ≤ zI (i : Int) := by
  rw [zI_le ⟨by omega, by omega⟩ ⟨by omega, by omega⟩]; omega
theorem ix_b {i n : Nat} (h : i < n) (hn : n < 2147483648) : zI (i : Int) < zI (n : Int) := by
  rw [zI_lt ⟨by omega, by omega⟩ ⟨by omega, by omega⟩]; omega
theorem ix_c {i n : Nat} (h : n ≤ i) (hn : i < 2147483648) : zI (n : Int) ≤ zI (i : Int) := by
  rw [zI_le ⟨by omega, by omega⟩ ⟨by omega, by omega⟩]; omega
theorem ix_s (i : Nat) : zI (i : Int) + 1 = zI ((i + 1 : Nat) : Int) := by
  rw [show (1 : Int32) = zI 1 from rfl, zI_add]; rfl
theorem i12a {i : Nat} (h : i < 12) : ¬ (12 : Int32) ≤ zI (i : Int) := ix_a (n := 12) h (by decide)
theorem i12b {i : Nat} (h : i < 12) : zI (i : Int) < (12 : Int32) := ix_b (n := 12) h (by decide)
theorem i12n {i : Nat} (h : i < 12) : ¬ zI (i : Int) < 0 := ix_nn (by omega)
theorem i12e : (12 : Int32) ≤ zI ((12 : Nat) : Int) := by decide
theorem b2_0 {b : Bool} : b2 b = 0 ↔ b = false := by cases b <;> decide
theorem b2_1 {b : Bool} : b2 b = 1 ↔ b = true := by cases b <;> decide
theorem b2_ite (b : Bool) : (if b2 b = 0 then some (0 : Int32) else some 1) = some (b2 b) := by cases b <;> rfl
theorem b2_if {α : Type} (b : Bool) (x y : α) : (if b2 b = 0 then x else y) = if b then y else x := by cases b <;> rfl
theorem qb1_s {α β : Type} (x : α) (k : α → Option β) : qb1 (some x) k = k x := rfl
theorem qb2_s {α γ β : Type} (x : α) (y : γ) (k : α → γ → Option β) : qb2 (some (x, y)) k = k x y := rfl
section W
variable {u m : Pk} {p : Pln} {i : Nat}
theorem ReW.pr (R : ReW u p) (h : i < 12) : u.1 0 i = b2 (pP p i) := (R.1 i h).1
theorem ReW.at (R : ReW u p) (h : i < 12) (hp : pP p i = true) : u.1 1 i = b2 (pM p i) ∧ u.1 2 i = zI (pX p i) ∧ u.1 3 i = zI (pY p i) ∧ u.1 4 i = zI (pU p i) ∧ u.1 5 i = zI (pV p i) ∧ u.1 6 i = zI (pK p i) := (R.1 i h).2 hp
theorem W_exists (R : ReW u p) (h : i < 12) : fX8_exists u (zI i) = some (b2 (pP p i)) := by
  unfold fX8_exists
  rw [if_neg (i12n h), if_neg (i12a h), qld_at h (by decide), R.pr h, b2_ite]
theorem W_startX (R : ReW u p) (h : i < 12) (hp : pP p i = true) : fX8_startX u (zI i) = some (zI (pX p i)) := by
  unfold fX8_startX
  rw [if_neg (i12n h), if_neg (i12a h), qld_at h (by decide), (R.at h hp).2.1]
theorem W_startY (R : ReW u p) (h : i < 12) (hp : pP p i = true) : fX8_startY u (zI i) = some (zI (pY p i)) := by
  unfold fX8_startY
  rw [if_neg (i12n h), if_neg (i12a h), qld_at h (by decide), (R.at h hp).2.2.1]
theorem W_endX (R : ReW u p) (h : i < 12) (hp : pP p i = true) : fX8_endX u (zI i) = some (zI (pU p i)) := by
  unfold fX8_endX
  rw [if_neg (i12n h), if_neg (i12a h), qld_at h (by decide), (R.at h hp).2.2.2.1]
theorem W_endY (R : ReW u p) (h : i < 12) (hp : pP p i = true) : fX8_endY u (zI i) = some (zI (pV p i)) := by
  unfold fX8_endY
  rw [if_neg (i12n h), if_neg (i12a h), qld_at h (by decide), (R.at h hp).2.2.2.2.1]
theorem W_kindOf (R : ReW u p) (h : i < 12) (hp : pP p i = true) : fX8_kindOf u (zI i) = some (zI (pK p i)) := by
  unfold fX8_kindOf
  rw [if_neg (i12n h), if_neg (i12a h), qld_at h (by decide), (R.at h hp).2.2.2.2.2]
theorem W_isFixed (R : ReW u p) (h : i < 12) : fX8_isFixed u (zI i) = some (b2 (pP p i && !pM p i)) := by
  unfold fX8_isFixed
  rw [if_neg (i12n h), if_neg (i12a h), qld_at h (by decide), R.pr h]
  cases hp : pP p i with
  | false => rfl
  | true =>
    rw [if_neg (by decide), qld_at h (by decide), (R.at h hp).1]
    cases pM p i <;> rfl
theorem W_isMovable (R : ReW u p) (h : i < 12) : fX8_isMovable u (zI i) = some (b2 (pP p i && pM p i)) := by
  unfold fX8_isMovable
  rw [if_neg (i12n h), if_neg (i12a h), qld_at h (by decide), R.pr h]
  cases hp : pP p i with
  | false => rfl
  | true =>
    rw [if_neg (by decide), qld_at h (by decide), (R.at h hp).1]
    cases pM p i <;> rfl
theorem W_wayX (R : ReW u p) (h : i < 12) (hp : pP p i = true) : fX8_wayX u (zI i) = some (zI (pU p i - pX p i)) := by
  unfold fX8_wayX
  rw [if_neg (i12n h), if_neg (i12a h), qld_at h (by decide), qld_at h (by decide), (R.at h hp).2.2.2.1, (R.at h hp).2.1, zI_sub]
theorem W_wayY (R : ReW u p) (h : i < 12) (hp : pP p i = true) : fX8_wayY u (zI i) = some (zI (pV p i - pY p i)) := by
  unfold fX8_wayY
  rw [if_neg (i12n h), if_neg (i12a h), qld_at h (by decide), qld_at h (by decide), (R.at h hp).2.2.2.2.1, (R.at h hp).2.2.1, zI_sub]
def sq (p : Pln) (i : Nat) : Int := (pU p i - pX p i) * (pU p i - pX p i) + (pV p i - pY p i) * (pV p i - pY p i)
theorem W_squaredLength (R : ReW u p) (h : i < 12) (hp : pP p i = true) : fX8_squaredLength u (zI i) = some (zI (sq p i)) := by
  unfold fX8_squaredLength sq
  rw [W_wayX R h hp, W_wayY R h hp]
  simp only [qb1_s, zI_mul, zI_add]
theorem W_sideValue (R : ReW u p) (h : i < 12) (hp : pP p i = true) (x y : Int) : fX8_sideValue u (zI i) (zI x) (zI y) = some (zI (sv p i x y)) := by
  unfold fX8_sideValue sv
  rw [if_neg (i12n h), if_pos (i12b h)]
  simp only [qld_at h (show 12 ≤ 2147483648 by decide), (R.at h hp).2.1, (R.at h hp).2.2.1, (R.at h hp).2.2.2.1, (R.at h hp).2.2.2.2.1, zI_sub, zI_mul]
theorem M_at {k : Nat} (h : 7 * i + k < 84) : fX10_at m (zI i) (zI k) = some (m.1 0 (7 * i + k)) := by
  unfold fX10_at
  rw [show (7 : Int32) = zI 7 from rfl, zI_mul, zI_add, show (7 * (i : Int) + (k : Int)) = ((7 * i + k : Nat) : Int) by omega, qld_at h (by decide)]
theorem ReM.pr (R : ReM m p) (h : i < 12) : m.1 0 (7 * i) = b2 (pP p i) := by have := (R.1 i h).1; rwa [Nat.zero_add] at this
theorem ReM.at (R : ReM m p) (h : i < 12) (hp : pP p i = true) : m.1 0 (7 * i + 1) = zI (pX p i) ∧ m.1 0 (7 * i + 2) = zI (pY p i) ∧ m.1 0 (7 * i + 3) = zI (pU p i) ∧ m.1 0 (7 * i + 4) = zI (pV p i) ∧ m.1 0 (7 * i + 5) = zI (pK p i) ∧ m.1 0 (7 * i + 6) = b2 (pM p i) := by
  have := (R.1 i h).2 hp
  simpa only [Nat.zero_add] using this
theorem M_at0 (R : ReM m p) (h : i < 12) : fX10_at m (zI i) 0 = some (b2 (pP p i)) := by
  have := M_at (m := m) (i := i) (k := 0) (by omega)
  rw [← R.pr h]; exact this
theorem M_at1 (R : ReM m p) (h : i < 12) (hp : pP p i = true) : fX10_at m (zI i) 1 = some (zI (pX p i)) := by
  rw [← (R.at h hp).1]; exact M_at (m := m) (i := i) (k := 1) (by omega)
theorem M_at2 (R : ReM m p) (h : i < 12) (hp : pP p i = true) : fX10_at m (zI i) 2 = some (zI (pY p i)) := by
  rw [← (R.at h hp).2.1]; exact M_at (m := m) (i := i) (k := 2) (by omega)
theorem M_at3 (R : ReM m p) (h : i < 12) (hp : pP p i = true) : fX10_at m (zI i) 3 = some (zI (pU p i)) := by
  rw [← (R.at h hp).2.2.1]; exact M_at (m := m) (i := i) (k := 3) (by omega)
theorem M_at4 (R : ReM m p) (h : i < 12) (hp : pP p i = true) : fX10_at m (zI i) 4 = some (zI (pV p i)) := by
  rw [← (R.at h hp).2.2.2.1]; exact M_at (m := m) (i := i) (k := 4) (by omega)
theorem M_at5 (R : ReM m p) (h : i < 12) (hp : pP p i = true) : fX10_at m (zI i) 5 = some (zI (pK p i)) := by
  rw [← (R.at h hp).2.2.2.2.1]; exact M_at (m := m) (i := i) (k := 5) (by omega)
theorem M_at6 (R : ReM m p) (h : i < 12) (hp : pP p i = true) : fX10_at m (zI i) 6 = some (b2 (pM p i)) := by
  rw [← (R.at h hp).2.2.2.2.2]; exact M_at (m := m) (i := i) (k := 6) (by omega)
theorem M_side (R : ReM m p) (h : i < 12) (hp : pP p i = true) (x y : Int) : fX10_side m (zI i) (zI x) (zI y) = some (zI (sv p i x y)) := by
  unfold fX10_side sv
  simp only [M_at1 R h hp, M_at2 R h hp, M_at3 R h hp, M_at4 R h hp, qb1_s, zI_sub, zI_mul]
theorem M_startSide {j : Nat} (R : ReM m p) (h : i < 12) (hp : pP p i = true) (hj : j < 12) (hq : pP p j = true) : fX10_startSide m (zI i) (zI j) = some (zI (sv p i (pX p j) (pY p j))) := by
  unfold fX10_startSide
  simp only [M_at1 R hj hq, M_at2 R hj hq, qb1_s, M_side R h hp]
theorem M_endSide {j : Nat} (R : ReM m p) (h : i < 12) (hp : pP p i = true) (hj : j < 12) (hq : pP p j = true) : fX10_endSide m (zI i) (zI j) = some (zI (sv p i (pU p j) (pV p j))) := by
  unfold fX10_endSide
  simp only [M_at3 R hj hq, M_at4 R hj hq, qb1_s, M_side R h hp]
end W
/-- side values of points of the square are small -/
theorem mul_63 {a b : Int} (h1 : -63 ≤ a) (h2 : a ≤ 63) (h3 : -63 ≤ b) (h4 : b ≤ 63) : -3969 ≤ a * b ∧ a * b ≤ 3969 := by
  constructor
  · have h : 0 ≤ (a + 63) * (b + 63) + (63 - a) * (63 - b) := Int.add_nonneg (Int.mul_nonneg (by omega) (by omega)) (Int.mul_nonneg (by omega) (by omega))
    have e : (a + 63) * (b + 63) + (63 - a) * (63 - b) = 2 * (a * b) + 7938 := by grind
    omega
  · have h : 0 ≤ (a + 63) * (63 - b) + (63 - a) * (b + 63) := Int.add_nonneg (Int.mul_nonneg (by omega) (by omega)) (Int.mul_nonneg (by omega) (by omega))
    have e : (a + 63) * (63 - b) + (63 - a) * (b + 63) = 7938 - 2 * (a * b) := by grind
    omega
theorem sv_small {p : Pln} (V : VP p) {i : Nat} (h : i < 12) (hp : pP p i = true) {x y : Int} (hx : 0 ≤ x ∧ x ≤ 63) (hy : 0 ≤ y ∧ y ≤ 63) : -7938 ≤ sv p i x y ∧ sv p i x y ≤ 7938 := by
  obtain ⟨v1, v2, v3, v4, -⟩ := V.1 i h hp
  unfold sv
  have a1 := mul_63 (a := pU p i - pX p i) (b := y - pY p i) (by omega) (by omega) (by omega) (by omega)
  have a2 := mul_63 (a := pV p i - pY p i) (b := x - pX p i) (by omega) (by omega) (by omega) (by omega)
  omega
