/-! RAYS: the reference's search, panes, columns -/
section H
variable {p : Pln} {i : Nat} {x y dx dy : Int}
theorem i12f {i : Nat} (h : i < 12) : ¬ zI (i : Int) < 0 := ix_nn (by omega)
/-- what the reference says of the first hit -/
def mF (m : Pk) (p : Pln) (x y dx dy : Int) (f : Option Nat) : Prop := match f with
  | none => m.2.1 54 = zI (-1)
  | some j => m.2.1 54 = zI (j : Int) ∧ m.2.2 55 = zL (hD p j x y dx dy) ∧ m.2.2 56 = zL (hB p j dx dy)
theorem mF.same {m m' : Pk} {f : Option Nat} (h : mF m p x y dx dy f) (e1 : m'.2.1 54 = m.2.1 54) (e2 : m'.2.2 55 = m.2.2 55) (e3 : m'.2.2 56 = m.2.2 56) : mF m' p x y dx dy f := by
  cases f with
  | none => exact e1.trans h
  | some j => exact ⟨e1.trans h.1, e2.trans h.2.1, e3.trans h.2.2⟩
theorem one_b2 {α : Type} (b : Bool) (s t : α) : (if b2 b = 1 then s else t) = if b then s else t := by cases b <;> rfl
theorem M_trace_loop (V : VP p) (Y : RY x y dx dy) : ∀ (n i : Nat) (m : Pk), i ≤ 12 → 12 - i < n → ReM m p → mF m p x y dx dy (fh p x y dx dy i) → ∃ m', fX10_trace_b18 n m (zI x) (zI y) (zI dx) (zI dy) (zI i) = some m' ∧ mSame m m' ∧ mF m' p x y dx dy (fh p x y dx dy 12) := by
  intro n
  induction n with
  | zero => intro i m _ h; omega
  | succ n ih =>
    intro i m hi hn R F
    show ∃ m', fX10_trace_b18_s (fX10_trace_b18 n) m (zI x) (zI y) (zI dx) (zI dy) (zI i) = some m' ∧ _
    unfold fX10_trace_b18_s
    by_cases h : i < 12
    · have fs := fh_s (p := p) (x := x) (y := y) (dx := dx) (dy := dy) i
      have nxt : ∀ m1 : Pk, mSame m m1 → mF m1 p x y dx dy (fh p x y dx dy (i + 1)) → ∃ m', fX10_trace_b112 (fX10_trace_b18 n) m1 (zI x) (zI y) (zI dx) (zI dy) (zI i) = some m' ∧ mSame m m' ∧ mF m' p x y dx dy (fh p x y dx dy 12) := by
        intro m1 k1 f1
        unfold fX10_trace_b112
        simp only [qn_s, ix_s]
        obtain ⟨m', e1, e2, e3⟩ := ih (i + 1) m1 (by omega) (by omega) (R.same k1) f1
        exact ⟨m', e1, k1.tr e2, e3⟩
      rw [if_neg (i12a h), M_at0 R h, qb1_s, one_b2]
      cases hp : pP p i with
      | false =>
        rw [if_neg (by decide)]
        have ho : opq p i x y = false := by unfold opq; rw [hp]; rfl
        rw [ho] at fs
        exact nxt m (mSame.rf m) (by rw [fs]; exact F)
      | true =>
        rw [if_pos rfl, M_isOpaque R V h hp Y.1 Y.2.1, qb1_s]
        cases ho : opq p i x y with
        | false =>
          rw [if_pos (by decide)]
          rw [ho] at fs
          exact nxt m (mSame.rf m) (by rw [fs]; exact F)
        | true =>
          rw [if_neg (by decide)]
          rw [ho] at fs
          obtain ⟨m1, g1, g2, g3, g4, g5, g6⟩ := M_isHit R V h hp Y
          rw [g1, qb2_s]
          have sm : mSame m m1 := ⟨g2, fun k _ _ => by rw [g3]⟩
          have F1 : mF m1 p x y dx dy (fh p x y dx dy i) := F.same (by rw [g3]) g4 g5
          cases hh : hit p i x y dx dy with
          | false =>
            rw [if_pos (by decide)]
            rw [hh] at fs
            exact nxt m1 sm (by rw [fs]; exact F1)
          | true =>
            rw [if_neg (by decide)]
            rw [hh] at fs
            obtain ⟨h52, h53, h51⟩ := g6 hh
            have take : bef p x y dx dy i (fh p x y dx dy i) = true → ∃ m', fX10_trace_b90 (fX10_trace_b18 n) m1 (zI x) (zI y) (zI dx) (zI dy) (zI i) = some m' ∧ mSame m m' ∧ mF m' p x y dx dy (fh p x y dx dy 12) := by
              intro hb
              rw [hb] at fs
              unfold fX10_trace_b90
              simp only [qn_s]
              refine nxt _ (sm.tr ⟨rfl, fun k k1 _ => ?_⟩) ?_
              · simp only [pI, pL2]
                rw [if_neg k1]
              · rw [fs]
                exact ⟨rfl, h52, h51⟩
            cases hf : fh p x y dx dy i with
            | none =>
              rw [hf] at F1 take
              rw [show m1.2.1 54 = zI (-1) from F1, if_pos (by decide)]
              exact take rfl
            | some j =>
              rw [hf] at F1 take fs
              obtain ⟨f1, f2, f3⟩ := F1
              obtain ⟨j1, j2⟩ := fh_p hf
              have b1 := hD_bd V h hp Y
              have b2' := hB_bd V (by omega : j < 12) j2 Y
              have b3 := hD_bd V (by omega : j < 12) j2 Y
              have b4 := hB_bd V h hp Y
              rw [f1, f2, f3, h52, h51, if_neg (ix_nn (by omega))]
              simp only [zL_mul, cmp_ge, zL_le (rLs3 b3 b4) (rLs3 b1 b2')]
              by_cases c : hD p j x y dx dy * hB p i dx dy ≤ hD p i x y dx dy * hB p j dx dy
              · rw [if_pos c]
                have hb : bef p x y dx dy i (some j) = false := by
                  unfold bef
                  simp only [decide_eq_false_iff_not]
                  omega
                rw [hb] at fs
                exact nxt m1 sm (by rw [fs]; exact ⟨f1, f2, f3⟩)
              · rw [if_neg c]
                exact take (by unfold bef; simp only [decide_eq_true_eq]; omega)
    · have e : i = 12 := by omega
      subst e
      rw [if_pos i12e]
      exact ⟨m, rfl, mSame.rf m, F⟩
theorem M_trace {m : Pk} (R : ReM m p) (V : VP p) (Y : RY x y dx dy) : ∃ m', fX10_trace m (zI x) (zI y) (zI dx) (zI dy) = some m' ∧ mSame m m' ∧ mF m' p x y dx dy (fh p x y dx dy 12) := by
  unfold fX10_trace
  simp only [qn_s]
  have s0 : mSame m (pkL (pkL (pkI m 54 (-1)) 55 0) 56 1) := ⟨rfl, fun k h1 _ => by simp only [pI, pL2]; rw [if_neg h1]⟩
  obtain ⟨m', e1, e2, e3⟩ := M_trace_loop V Y FU 0 _ (by omega) (FU_12 0) (R.same s0) (show (-1 : Int32) = zI (-1) from zm1)
  exact ⟨m', e1, s0.tr e2, e3⟩
/-- blocked, for the reference too -/
theorem M_isBlocked {m : Pk} {x2 y2 : Int} (R : ReM m p) (V : VP p) (Y : RY x y (x2 - x) (y2 - y)) : ∃ m', fX10_isBlocked m (zI x) (zI y) (zI x2) (zI y2) = some (b2 (blkN p x y (x2 - x) (y2 - y) 12), m') ∧ mSame m m' ∧ mF m' p x y (x2 - x) (y2 - y) (fh p x y (x2 - x) (y2 - y) 12) := by
  unfold fX10_isBlocked
  simp only [zI_sub]
  obtain ⟨m1, e1, e2, e3⟩ := M_trace R V Y
  rw [e1, qb1_s, blk_fh 12]
  cases hf : fh p x y (x2 - x) (y2 - y) 12 with
  | none =>
    rw [hf] at e3
    rw [show m1.2.1 54 = zI (-1) from e3, if_pos (by decide)]
    exact ⟨m1, rfl, e2, e3⟩
  | some j =>
    rw [hf] at e3
    obtain ⟨f1, f2, f3⟩ := id e3
    obtain ⟨j1, j2⟩ := fh_p hf
    rw [f1, f2, f3, if_neg (ix_nn (by omega))]
    simp only [cmp_gt, zL_lt (rLs (hB_bd V j1 j2 Y)) (rLs2 (hD_bd V j1 j2 Y))]
    by_cases c : hB p j (x2 - x) (y2 - y) < hD p j x y (x2 - x) (y2 - y)
    · rw [if_pos c]
      have : ¬ hD p j x y (x2 - x) (y2 - y) ≤ hB p j (x2 - x) (y2 - y) := by omega
      exact ⟨m1, by simp [this, b2], e2, e3⟩
    · rw [if_neg c]
      have : hD p j x y (x2 - x) (y2 - y) ≤ hB p j (x2 - x) (y2 - y) := by omega
      exact ⟨m1, by simp [this, b2], e2, e3⟩
theorem R_within {r : Pk} {n : Nat} (V : VP p) (Y : RY x y dx dy) (F : rF r p x y dx dy (fh p x y dx dy 12)) : fX5_firstHitIsWithinOne r = some (b2 (blkN p x y dx dy 12)) := by
  unfold fX5_firstHitIsWithinOne
  rw [blk_fh 12]
  cases hf : fh p x y dx dy 12 with
  | none =>
    rw [hf] at F
    rw [if_pos (by rw [show r.2.1 9 = zI (-8) from F]; decide)]
    rfl
  | some j =>
    rw [hf] at F
    obtain ⟨f1, f2, f3⟩ := id F
    obtain ⟨j1, j2⟩ := fh_p hf
    rw [f1, f2, f3, zmone8]
    simp only [zI_eq (rI_s (a := (j : Int)) (by omega) (by omega)) (rI_s (a := -8) (by omega) (by omega)), zI_lt (r63504 (hB_bd V j1 j2 Y)) (r7938 (hD_bd V j1 j2 Y))]
    rw [if_neg (by omega)]
    by_cases c : hB p j dx dy < hD p j x y dx dy
    · rw [if_pos c]
      have : ¬ hD p j x y dx dy ≤ hB p j dx dy := by omega
      simp [this, b2]
    · rw [if_neg c]
      have : hD p j x y dx dy ≤ hB p j dx dy := by omega
      simp [this, b2]
/-- the direction of a column -/
def colX (dx dy c : Int) : Int := 32 * dx - (31 - 2 * c) * dy
def colY (dx dy c : Int) : Int := 32 * dy + (31 - 2 * c) * dx
theorem col_RY {c : Int} (hx : 0 ≤ x ∧ x ≤ 63) (hy : 0 ≤ y ∧ y ≤ 63) (h1 : -8 ≤ dx ∧ dx ≤ 8) (h2 : -8 ≤ dy ∧ dy ≤ 8) (hc : 0 ≤ c ∧ c ≤ 31) : RY x y (colX dx dy c) (colY dx dy c) := by
  have a1 := mul_bd (a := 31 - 2 * c) (b := dy) (A := 31) (B := 8) (by omega) (by omega) (by omega) (by omega)
  have a2 := mul_bd (a := 31 - 2 * c) (b := dx) (A := 31) (B := 8) (by omega) (by omega) (by omega) (by omega)
  unfold colX colY
  exact ⟨hx, hy, by omega, by omega⟩
theorem R_aimCol {r : Pk} {x2 y2 : Int} (h2 : r.2.1 2 = zI x) (h3 : r.2.1 3 = zI y) (O : rOp r p x2 y2) (dx dy c : Int) : ∃ r', fX5_aimAtColumn r (zI dx) (zI dy) (zI c) = some r' ∧ rAim r' x y (colX dx dy c) (colY dx dy c) ∧ rOp r' p x2 y2 := by
  unfold fX5_aimAtColumn
  simp only [qn_s]
  have e1 : (31 : Int32) - 2 * zI c = zI (31 - 2 * c) := by rw [show (31 : Int32) = zI 31 from rfl, z2, zI_mul, zI_sub]
  rw [e1]
  have e2 : (32 : Int32) * zI dx - zI (31 - 2 * c) * zI dy = zI (colX dx dy c) := by rw [show (32 : Int32) = zI 32 from rfl, zI_mul, zI_mul, zI_sub]; rfl
  have e3 : (32 : Int32) * zI dy + zI (31 - 2 * c) * zI dx = zI (colY dx dy c) := by rw [show (32 : Int32) = zI 32 from rfl, zI_mul, zI_mul, zI_add]; rfl
  rw [e2, e3]
  obtain ⟨r', g1, g2, g3⟩ := R_aim h2 h3 O (colX dx dy c) (colY dx dy c)
  rw [g1, qb1_s]
  exact ⟨r', rfl, g2, g3⟩
theorem M_ray {c : Int} : fX10_rayX (zI dx) (zI dy) (zI c) = some (zI (colX dx dy c)) ∧ fX10_rayY (zI dx) (zI dy) (zI c) = some (zI (colY dx dy c)) := by
  constructor
  · unfold fX10_rayX
    rw [show (31 : Int32) = zI 31 from rfl, z2, show (32 : Int32) = zI 32 from rfl, zI_mul, zI_mul, zI_sub, zI_mul, zI_sub]; rfl
  · unfold fX10_rayY
    rw [show (31 : Int32) = zI 31 from rfl, z2, show (32 : Int32) = zI 32 from rfl, zI_mul, zI_mul, zI_sub, zI_mul, zI_add]; rfl
theorem M_traceColumn {m : Pk} {c : Int} (R : ReM m p) (V : VP p) (Y : RY x y (colX dx dy c) (colY dx dy c)) : ∃ m', fX10_traceColumn m (zI x) (zI y) (zI dx) (zI dy) (zI c) = some m' ∧ mSame m m' ∧ mF m' p x y (colX dx dy c) (colY dx dy c) (fh p x y (colX dx dy c) (colY dx dy c) 12) := by
  unfold fX10_traceColumn
  rw [M_ray.1, qb1_s, M_ray.2, qb1_s]
  obtain ⟨m', e1, e2, e3⟩ := M_trace R V Y
  rw [e1, qb1_s]
  exact ⟨m', rfl, e2, e3⟩
end H
