/-! CLIPPING: in either order -/
section S
variable {p : Pln} {u v w : Nat} {q : Pc}
/-- what a side leaves of a piece, out of the values at both ends; the cut at n / d -/
def clip (g : Int → Int → Int) (n d : Int) (q : Pc) : List Pc := if 0 ≤ g q.2.1 q.2.2.1 ∧ 0 ≤ g q.2.2.2.1 q.2.2.2.2 ∧ ¬ (g q.2.1 q.2.2.1 = 0 ∧ g q.2.2.2.1 q.2.2.2.2 = 0) then [q] else if 0 < g q.2.1 q.2.2.1 ∧ g q.2.2.2.1 q.2.2.2.2 < 0 then [(q.1, q.2.1, q.2.2.1, n, d)] else if g q.2.1 q.2.2.1 < 0 ∧ 0 < g q.2.2.2.1 q.2.2.2.2 then [(q.1, n, d, q.2.2.2.1, q.2.2.2.2)] else []
theorem clip_K {g : Int → Int → Int} {n d : Int} {k : Nat} {a1 a2 b1 b2 : Int} (h1 : 0 ≤ g a1 a2) (h2 : 0 ≤ g b1 b2) (h3 : ¬ (g a1 a2 = 0 ∧ g b1 b2 = 0)) : clip g n d (k, a1, a2, b1, b2) = [(k, a1, a2, b1, b2)] := if_pos ⟨h1, h2, h3⟩
theorem clip_L {g : Int → Int → Int} {n d : Int} {k : Nat} {a1 a2 b1 b2 : Int} (h1 : 0 < g a1 a2) (h2 : g b1 b2 < 0) : clip g n d (k, a1, a2, b1, b2) = [(k, a1, a2, n, d)] := by
  unfold clip
  rw [if_neg (fun h => by have := h.2.1; exact absurd h2 (Int.not_lt.mpr this)), if_pos ⟨h1, h2⟩]
theorem clip_R {g : Int → Int → Int} {n d : Int} {k : Nat} {a1 a2 b1 b2 : Int} (h1 : g a1 a2 < 0) (h2 : 0 < g b1 b2) : clip g n d (k, a1, a2, b1, b2) = [(k, n, d, b1, b2)] := by
  unfold clip
  rw [if_neg (fun h => absurd h1 (Int.not_lt.mpr h.1)), if_neg (fun h => absurd h1 (Int.not_lt.mpr (Int.le_of_lt h.1))), if_pos ⟨h1, h2⟩]
theorem clip_D {g : Int → Int → Int} {n d : Int} {k : Nat} {a1 a2 b1 b2 : Int} (h1 : g a1 a2 ≤ 0) (h2 : g b1 b2 ≤ 0) : clip g n d (k, a1, a2, b1, b2) = [] := by
  unfold clip
  rw [if_neg (fun h => h.2.2 ⟨Int.le_antisymm h1 h.1, Int.le_antisymm h2 h.2.1⟩), if_neg (fun h => absurd h.1 (Int.not_lt.mpr h1)), if_neg (fun h => absurd h.2 (Int.not_lt.mpr h2))]
theorem clip_4 (a b : Int) : (0 ≤ a ∧ 0 ≤ b ∧ ¬ (a = 0 ∧ b = 0)) ∨ (0 < a ∧ b < 0) ∨ (a < 0 ∧ 0 < b) ∨ (a ≤ 0 ∧ b ≤ 0) := by omega
theorem mid_sg {a b x α β Δ : Int} (hΔ : 0 < Δ) (hα : 0 < α) (hβ : 0 < β) (e : Δ * x = α * a + β * b) : (0 ≤ a → 0 ≤ b → ¬ (a = 0 ∧ b = 0) → 0 < x) ∧ (a ≤ 0 → b ≤ 0 → x ≤ 0) := by
  refine ⟨fun h1 h2 h3 => nonneg_of hΔ ?_, fun h1 h2 => ?_⟩
  · rw [e]
    have p1 := Int.mul_nonneg (Int.le_of_lt hα) h1
    have p2 := Int.mul_nonneg (Int.le_of_lt hβ) h2
    by_cases c : 0 < a
    · have := Int.mul_pos hα c
      omega
    · have := Int.mul_pos hβ (show 0 < b from by omega)
      omega
  · refine Int.not_lt.mp (fun c => ?_)
    have := Int.mul_pos hΔ c
    have p1 : α * a ≤ 0 := Int.mul_nonpos_of_nonneg_of_nonpos (by omega) h1
    have p2 : β * b ≤ 0 := Int.mul_nonpos_of_nonneg_of_nonpos (by omega) h2
    omega
/-- a place between both ends -/
def btw (a1 a2 b1 b2 n d : Int) : Prop := 0 < d ∧ a1 * d < n * a2 ∧ n * b2 < b1 * d
def lin (A D : Int) : Int → Int → Int := fun n d => A * d - D * n
theorem lin_mid {A D a1 a2 b1 b2 n d : Int} (h : a1 * b2 < b1 * a2) (t : btw a1 a2 b1 b2 n d) : (0 ≤ lin A D a1 a2 → 0 ≤ lin A D b1 b2 → ¬ (lin A D a1 a2 = 0 ∧ lin A D b1 b2 = 0) → 0 < lin A D n d) ∧ (lin A D a1 a2 ≤ 0 → lin A D b1 b2 ≤ 0 → lin A D n d ≤ 0) := by
  obtain ⟨t1, t2, t3⟩ := t
  exact mid_sg (Δ := b1 * a2 - a1 * b2) (α := b1 * d - n * b2) (β := n * a2 - a1 * d) (by omega) (by omega) (by omega) (by unfold lin; grind)
/-- the value of one side at the other's cut -/
theorem lin_at {A1 D1 A2 D2 n1 d1 n2 d2 : Int} (z2 : D2 * n2 = A2 * d2) : d2 * lin A2 D2 n1 d1 = D2 * (n2 * d1 - n1 * d2) := by unfold lin; grind
theorem sg_of {d D x E : Int} (hd : 0 < d) (e : d * x = D * E) : (0 < D → ((0 < x ↔ 0 < E) ∧ (x < 0 ↔ E < 0))) ∧ (D < 0 → ((0 < x ↔ E < 0) ∧ (x < 0 ↔ 0 < E))) := by
  have key : ∀ {d D x E : Int}, 0 < d → 0 < D → d * x = D * E → ((0 < x ↔ 0 < E) ∧ (x < 0 ↔ E < 0)) := by
    intro d D x E hd hD e
    refine ⟨⟨fun h => nonneg_of hD (by rw [← e]; exact Int.mul_pos hd h), fun h => nonneg_of hd (by rw [e]; exact Int.mul_pos hD h)⟩, ⟨fun h => ?_, fun h => ?_⟩⟩
    · have : 0 < -E := nonneg_of hD (by rw [Int.mul_neg, ← e, ← Int.mul_neg]; exact Int.mul_pos hd (by omega))
      omega
    · have : 0 < -x := nonneg_of hd (by rw [Int.mul_neg, e, ← Int.mul_neg]; exact Int.mul_pos hD (by omega))
      omega
  refine ⟨fun h => key hd h e, fun h => ?_⟩
  have := key (E := -E) hd (show 0 < -D from by omega) (by rw [Int.neg_mul_neg]; exact e)
  omega
theorem fmo (x : Pc) (f : Pc → List Pc) : [x].flatMap f = f x := by
  rw [List.flatMap_cons, List.flatMap_nil, List.append_nil]
theorem fmn (f : Pc → List Pc) : ([] : List Pc).flatMap f = [] := rfl
/-- what is known of a cut -/
def cutK (A D n d a1 a2 b1 b2 : Int) : Prop := (0 < lin A D a1 a2 ∧ lin A D b1 b2 < 0) ∨ (lin A D a1 a2 < 0 ∧ 0 < lin A D b1 b2) → btw a1 a2 b1 b2 n d ∧ D * n = A * d
theorem slope {A D a1 a2 b1 b2 : Int} (ha : 0 < a2) (hb : 0 < b2) (h : a1 * b2 < b1 * a2) : (0 < lin A D a1 a2 → lin A D b1 b2 < 0 → 0 < D) ∧ (lin A D a1 a2 < 0 → 0 < lin A D b1 b2 → D < 0) := by
  have e : b2 * lin A D a1 a2 - a2 * lin A D b1 b2 = (b1 * a2 - a1 * b2) * D := by unfold lin; grind
  refine ⟨fun h1 h2 => ?_, fun h1 h2 => ?_⟩
  · have p1 := Int.mul_pos hb h1
    have p2 := Int.mul_pos ha (show 0 < -lin A D b1 b2 from by omega)
    rw [Int.mul_neg] at p2
    exact nonneg_of (a := b1 * a2 - a1 * b2) (by omega) (by omega)
  · have p1 := Int.mul_pos hb (show 0 < -lin A D a1 a2 from by omega)
    have p2 := Int.mul_pos ha h2
    rw [Int.mul_neg] at p1
    have : 0 < -D := nonneg_of (a := b1 * a2 - a1 * b2) (by omega) (by rw [Int.mul_neg]; omega)
    omega
theorem clip_comm {A1 D1 n1 d1 A2 D2 n2 d2 a1 a2 b1 b2 : Int} (k : Nat) (ha : 0 < a2) (hb : 0 < b2) (h : a1 * b2 < b1 * a2) (c1 : cutK A1 D1 n1 d1 a1 a2 b1 b2) (c2 : cutK A2 D2 n2 d2 a1 a2 b1 b2) (un : n2 * d1 - n1 * d2 = 0 → 0 < d1 → 0 < d2 → n1 = n2 ∧ d1 = d2) : (clip (lin A1 D1) n1 d1 (k, a1, a2, b1, b2)).flatMap (clip (lin A2 D2) n2 d2) = (clip (lin A2 D2) n2 d2 (k, a1, a2, b1, b2)).flatMap (clip (lin A1 D1) n1 d1) := by
  have s1 := slope (A := A1) (D := D1) ha hb h
  have s2 := slope (A := A2) (D := D2) ha hb h
  have e : ∀ {A D n d n' d' : Int}, D * n = A * d → d * lin A D n' d' = D * (n * d' - n' * d) := fun z => lin_at (A1 := 0) (D1 := 0) z
  rcases clip_4 (lin A1 D1 a1 a2) (lin A1 D1 b1 b2) with ⟨x1, x2, x3⟩ | ⟨x1, x2⟩ | ⟨x1, x2⟩ | ⟨x1, x2⟩ <;> rcases clip_4 (lin A2 D2 a1 a2) (lin A2 D2 b1 b2) with ⟨y1, y2, y3⟩ | ⟨y1, y2⟩ | ⟨y1, y2⟩ | ⟨y1, y2⟩
  · rw [clip_K x1 x2 x3, clip_K y1 y2 y3, fmo, fmo, clip_K x1 x2 x3, clip_K y1 y2 y3]
  · obtain ⟨t, -⟩ := c2 (Or.inl ⟨y1, y2⟩)
    have m := (lin_mid (A := A1) (D := D1) h t).1 x1 x2 x3
    rw [clip_K x1 x2 x3, fmo, clip_L y1 y2, fmo, clip_K x1 (Int.le_of_lt m) (by omega)]
  · obtain ⟨t, -⟩ := c2 (Or.inr ⟨y1, y2⟩)
    have m := (lin_mid (A := A1) (D := D1) h t).1 x1 x2 x3
    rw [clip_K x1 x2 x3, fmo, clip_R y1 y2, fmo, clip_K (Int.le_of_lt m) x2 (by omega)]
  · rw [clip_K x1 x2 x3, fmo, clip_D y1 y2, fmn]
  · obtain ⟨t, -⟩ := c1 (Or.inl ⟨x1, x2⟩)
    have m := (lin_mid (A := A2) (D := D2) h t).1 y1 y2 y3
    rw [clip_K y1 y2 y3, fmo, clip_L x1 x2, fmo, clip_K y1 (Int.le_of_lt m) (by omega)]
  · obtain ⟨t1, z1⟩ := c1 (Or.inl ⟨x1, x2⟩)
    obtain ⟨t2, z2⟩ := c2 (Or.inl ⟨y1, y2⟩)
    have q1 := sg_of t2.1 (e (n' := n1) (d' := d1) z2)
    have q2 := sg_of t1.1 (e (n' := n2) (d' := d2) z1)
    have r1 := q1.1 (s2.1 y1 y2)
    have r2 := q2.1 (s1.1 x1 x2)
    rw [clip_L x1 x2, clip_L y1 y2, fmo, fmo]
    by_cases E : n2 * d1 - n1 * d2 < 0
    · rw [clip_L y1 (r1.2.mpr E), clip_K (Int.le_of_lt x1) (Int.le_of_lt (r2.1.mpr (by omega))) (by omega)]
    · by_cases E2 : n2 * d1 - n1 * d2 = 0
      · obtain ⟨rfl, rfl⟩ := un E2 t1.1 t2.1
        rw [clip_K (Int.le_of_lt y1) (by omega) (by omega), clip_K (Int.le_of_lt x1) (by omega) (by omega)]
      · rw [clip_K (Int.le_of_lt y1) (Int.le_of_lt (r1.1.mpr (by omega))) (by omega), clip_L x1 (r2.2.mpr (by omega))]
  · obtain ⟨t1, z1⟩ := c1 (Or.inl ⟨x1, x2⟩)
    obtain ⟨t2, z2⟩ := c2 (Or.inr ⟨y1, y2⟩)
    have q1 := sg_of t2.1 (e (n' := n1) (d' := d1) z2)
    have q2 := sg_of t1.1 (e (n' := n2) (d' := d2) z1)
    have r1 := q1.2 (s2.2 y1 y2)
    have r2 := q2.1 (s1.1 x1 x2)
    rw [clip_L x1 x2, clip_R y1 y2, fmo, fmo]
    by_cases E : n2 * d1 - n1 * d2 < 0
    · rw [clip_R y1 (r1.1.mpr E), clip_L (r2.1.mpr (by omega)) x2]
    · rw [clip_D (Int.le_of_lt y1) (by omega), clip_D (by omega) (Int.le_of_lt x2)]
  · obtain ⟨t, -⟩ := c1 (Or.inl ⟨x1, x2⟩)
    have m := (lin_mid (A := A2) (D := D2) h t).2 y1 y2
    rw [clip_D y1 y2, clip_L x1 x2, fmo, fmn, clip_D y1 m]
  · obtain ⟨t, -⟩ := c1 (Or.inr ⟨x1, x2⟩)
    have m := (lin_mid (A := A2) (D := D2) h t).1 y1 y2 y3
    rw [clip_K y1 y2 y3, fmo, clip_R x1 x2, fmo, clip_K (Int.le_of_lt m) y2 (by omega)]
  · obtain ⟨t1, z1⟩ := c1 (Or.inr ⟨x1, x2⟩)
    obtain ⟨t2, z2⟩ := c2 (Or.inl ⟨y1, y2⟩)
    have q1 := sg_of t2.1 (e (n' := n1) (d' := d1) z2)
    have q2 := sg_of t1.1 (e (n' := n2) (d' := d2) z1)
    have r1 := q1.1 (s2.1 y1 y2)
    have r2 := q2.2 (s1.2 x1 x2)
    rw [clip_R x1 x2, clip_L y1 y2, fmo, fmo]
    by_cases E : 0 < n2 * d1 - n1 * d2
    · rw [clip_L (r1.1.mpr E) y2, clip_R x1 (r2.1.mpr (by omega))]
    · rw [clip_D (by omega) (Int.le_of_lt y2), clip_D (Int.le_of_lt x1) (by omega)]
  · obtain ⟨t1, z1⟩ := c1 (Or.inr ⟨x1, x2⟩)
    obtain ⟨t2, z2⟩ := c2 (Or.inr ⟨y1, y2⟩)
    have q1 := sg_of t2.1 (e (n' := n1) (d' := d1) z2)
    have q2 := sg_of t1.1 (e (n' := n2) (d' := d2) z1)
    have r1 := q1.2 (s2.2 y1 y2)
    have r2 := q2.2 (s1.2 x1 x2)
    rw [clip_R x1 x2, clip_R y1 y2, fmo, fmo]
    by_cases E : 0 < n2 * d1 - n1 * d2
    · rw [clip_R (r1.2.mpr E) y2, clip_K (Int.le_of_lt (r2.1.mpr (by omega))) (Int.le_of_lt x2) (by omega)]
    · by_cases E2 : n2 * d1 - n1 * d2 = 0
      · obtain ⟨rfl, rfl⟩ := un E2 t1.1 t2.1
        rw [clip_K (by omega) (Int.le_of_lt y2) (by omega), clip_K (by omega) (Int.le_of_lt x2) (by omega)]
      · rw [clip_K (Int.le_of_lt (r1.1.mpr (by omega))) (Int.le_of_lt y2) (by omega), clip_R (r2.2.mpr (by omega)) x2]
  · obtain ⟨t, -⟩ := c1 (Or.inr ⟨x1, x2⟩)
    have m := (lin_mid (A := A2) (D := D2) h t).2 y1 y2
    rw [clip_D y1 y2, clip_R x1 x2, fmo, fmn, clip_D m y2]
  · rw [clip_K y1 y2 y3, fmo, clip_D x1 x2, fmn]
  · obtain ⟨t, -⟩ := c2 (Or.inl ⟨y1, y2⟩)
    have m := (lin_mid (A := A1) (D := D1) h t).2 x1 x2
    rw [clip_D x1 x2, clip_L y1 y2, fmo, fmn, clip_D x1 m]
  · obtain ⟨t, -⟩ := c2 (Or.inr ⟨y1, y2⟩)
    have m := (lin_mid (A := A1) (D := D1) h t).2 x1 x2
    rw [clip_D x1 x2, clip_R y1 y2, fmo, fmn, clip_D m x2]
  · rw [clip_D x1 x2, clip_D y1 y2]
    rfl
end S
