/-! RAYS: seenColumns, walk -/
def isP (p : Pln) (a : Int32) : Bool := (decide (0 ≤ a) && decide (a < 12)) && pP p a.toInt.toNat
theorem isP_z {p : Pln} {a : Int32} (h : isP p a = true) : ∃ i : Nat, i < 12 ∧ a = zI (i : Int) ∧ pP p i = true := by
  unfold isP at h
  simp only [Bool.and_eq_true, decide_eq_true_eq] at h
  obtain ⟨⟨h1, h2⟩, h3⟩ := h
  rw [Int32.le_iff_toInt_le] at h1
  rw [Int32.lt_iff_toInt_lt] at h2
  have e0 : (0 : Int32).toInt = 0 := rfl
  have e12 : (12 : Int32).toInt = 12 := rfl
  rw [e0] at h1
  rw [e12] at h2
  refine ⟨a.toInt.toNat, by omega, ?_, h3⟩
  rw [Int.toNat_of_nonneg h1, zI_self]
theorem isP_at {p : Pln} {i : Nat} (h : i < 12) : isP p (zI (i : Int)) = pP p i := by
  unfold isP
  have e1 : (0 : Int32) ≤ zI (i : Int) := by rw [z0, zI_le r0 (rI_s (by omega) (by omega))]; omega
  have e2 : zI (i : Int) < (12 : Int32) := i12b h
  rw [zI_toInt (by omega) (by omega)]
  simp [e1, e2]
theorem isP_out {p : Pln} {a : Int32} (h : a < 0 ∨ 12 ≤ a) : isP p a = false := by
  unfold isP
  rcases h with h | h
  · have : ¬ 0 ≤ a := by grind
    simp [this]
  · have : ¬ a < 12 := by grind
    simp [this]
theorem C_exists {p : Pln} {w : Pk} (R : ReW w p) (a : Int32) : fX8_exists w a = some (b2 (isP p a)) := by
  rcases idx_split 12 (by decide) a with h | h | ⟨j, hj, rfl⟩
  · rw [isP_out (Or.inl h)]; unfold fX8_exists; rw [if_pos h]; rfl
  · have h' : (12 : Int32) ≤ a := h
    rw [isP_out (Or.inr h')]; unfold fX8_exists; rw [if_neg (by grind), if_pos h']; rfl
  · rw [isP_at hj]; exact W_exists R hj
theorem M_isWall {p : Pln} {m : Pk} (R : ReM m p) (a : Int32) : fX10_isWall m a = some (b2 (isP p a)) := by
  rcases idx_split 12 (by decide) a with h | h | ⟨j, hj, rfl⟩
  · rw [isP_out (Or.inl h)]; unfold fX10_isWall; rw [if_pos h]; rfl
  · have h' : (12 : Int32) ≤ a := h
    rw [isP_out (Or.inr h')]; unfold fX10_isWall; rw [if_neg (by grind), if_pos h']; rfl
  · rw [isP_at hj]
    unfold fX10_isWall
    rw [if_neg (i12n hj), if_neg (i12a hj), show (7 : Int32) = zI 7 from rfl, zI_mul, show (7 * (j : Int)) = ((7 * j : Nat) : Int) by omega, qld_at (by omega) (by decide), R.pr hj]
    cases pP p j <;> rfl
section S
variable {p : Pln} {t w r m : Pk} {x y dx dy : Int}
theorem S_seenCols_loop (R : ReW w p) (V : VP p) (g1 : 0 ≤ x ∧ x ≤ 63) (g2 : 0 ≤ y ∧ y ≤ 63) (g3 : -8 ≤ dx ∧ dx ≤ 8) (g4 : -8 ≤ dy ∧ dy ≤ 8) {k : Nat} (hk : k < 12) : ∀ (n c : Nat) (r m : Pk) (v : Int32), c ≤ 32 → 32 - c < n → r.2.1 2 = zI x → r.2.1 3 = zI y → rOp r p x y → ReM m p → Ray2 (fX9_seenColumns_b43 t w n r (zI dx) (zI dy) (zI k) v (zI c)) (fX10_seenColumns_b31 n m (zI x) (zI y) (zI dx) (zI dy) (zI k) v (zI c)) m := by
  intro n
  induction n with
  | zero => intro c r m v _ h; omega
  | succ n ih =>
    intro c r m v hc hn h2 h3 O Q
    show Ray2 (fX9_seenColumns_b43_s (fX9_seenColumns_b43 t w n) t w r (zI dx) (zI dy) (zI k) v (zI c)) (fX10_seenColumns_b31_s (fX10_seenColumns_b31 n) m (zI x) (zI y) (zI dx) (zI dy) (zI k) v (zI c)) m
    unfold fX9_seenColumns_b43_s fX10_seenColumns_b31_s
    by_cases h : c < 32
    · have hn1 : ¬ (32 : Int32) ≤ zI (c : Int) := ix_a (n := 32) h (by decide)
      rw [if_neg hn1, if_neg hn1]
      have Y := col_RY (c := (c : Int)) g1 g2 g3 g4 (by omega)
      obtain ⟨r2, f1, f2, f3⟩ := R_aimCol h2 h3 O dx dy (c : Int)
      obtain ⟨r3, k1, k2, k3⟩ := R_findFirstHit R V Y f2 f3
      obtain ⟨m1, l1, l2, l3⟩ := M_traceColumn Q V Y
      have e2 : r3.2.1 2 = zI x := (k2.2.2 2 (by decide)).trans f2.1
      have e3 : r3.2.1 3 = zI y := (k2.2.2 3 (by decide)).trans f2.2.1
      have O3 := f3.keep k2
      have Q1 := Q.same l2
      have step : ∀ v2 : Int32, Ray2 (fX9_seenColumns_b43 t w n r3 (zI dx) (zI dy) (zI k) v2 (zI ((c + 1 : Nat) : Int))) (fX10_seenColumns_b31 n m1 (zI x) (zI y) (zI dx) (zI dy) (zI k) v2 (zI ((c + 1 : Nat) : Int))) m := by
        intro v2
        obtain ⟨a, b1, b2', a1, a2, a3⟩ := ih (c + 1) r3 m1 v2 (by omega) (by omega) e2 e3 O3 Q1
        exact ⟨a, b1, b2', a1, a2, l2.tr a3⟩
      unfold fX5_firstHitWall
      rw [f1, qb1_s, k1, qb1_s, qb1_s, l1, qb1_s]
      have same : r3.2.1 9 = zI (k : Int) ↔ m1.2.1 54 = zI (k : Int) := by
        cases hf : fh p x y (colX dx dy c) (colY dx dy c) 12 with
        | none =>
          rw [hf] at k3 l3
          rw [show r3.2.1 9 = zI (-8) from k3, show m1.2.1 54 = zI (-1) from l3, zI_eq (rI_s (by omega) (by omega)) (rI_s (by omega) (by omega)), zI_eq (rI_s (by omega) (by omega)) (rI_s (by omega) (by omega))]
          omega
        | some j =>
          rw [hf] at k3 l3
          rw [k3.1, l3.1]
      unfold fX9_seenColumns_b84 fX10_seenColumns_b65
      simp only [qn_s, ix_s]
      by_cases hs : r3.2.1 9 = zI (k : Int)
      · rw [if_pos hs, if_pos (same.mp hs)]
        exact step (v + 1)
      · rw [if_neg hs, if_neg (fun g => hs (same.mpr g)), Int32.add_zero]
        exact step v
    · have e : c = 32 := by omega
      subst e
      have hn1 : (32 : Int32) ≤ zI ((32 : Nat) : Int) := by decide
      rw [if_pos hn1, if_pos hn1]
      exact ⟨_, _, _, rfl, rfl, mSame.rf m⟩
theorem S_seenColumns (R : ReW w p) (Q : ReM m p) (V : VP p) (a1 a2 a3 a4 a5 : Int32) : Ray2 (fX9_seenColumns t w r a1 a2 a3 a4 a5) (fX10_seenColumns m a1 a2 a3 a4 a5) m := by
  unfold fX9_seenColumns fX10_seenColumns
  rw [C_isBadPicture, M_isPicture, qb1_s, qb1_s, C_exists R, M_isWall Q]
  cases h1 : okpic a1 a2 a3 a4 with
  | false => exact ⟨_, _, _, rfl, rfl, mSame.rf m⟩
  | true =>
    rw [ifNT, ifT, qb1_s, qb1_s]
    obtain ⟨x, y, dx, dy, rfl, rfl, rfl, rfl, g1, g2, g3, g4⟩ := okpic_z h1
    cases h2 : isP p a5 with
    | false => exact ⟨_, _, _, rfl, rfl, mSame.rf m⟩
    | true =>
      rw [ifT, ifT]
      obtain ⟨k, hk, rfl, hp⟩ := isP_z h2
      obtain ⟨r1, e1, e2, e3, e4⟩ := R_standAt (r := r) R V g1 g2
      rw [e1, qb1_s]
      exact S_seenCols_loop R V g1 g2 g3 g4 hk FU 0 r1 m 0 (by omega) (Nat.lt_of_le_of_lt (Nat.sub_le _ _) (by decide)) e2 e3 e4 Q
/-- the way (dx, dy) from the eye is free -/
def seen (p : Pln) (x y dx dy : Int) : Bool := !(decide (dx = 0) && decide (dy = 0)) && !blkN p x y dx dy 12
theorem C_sees (R : ReW w p) (V : VP p) (Y : RY x y dx dy) (h2 : r.2.1 2 = zI x) (h3 : r.2.1 3 = zI y) (O : rOp r p x y) : ∃ r', fX9_sees t w r (zI dx) (zI dy) = some (b2 (seen p x y dx dy), r') ∧ r'.2.1 2 = zI x ∧ r'.2.1 3 = zI y ∧ rOp r' p x y := by
  obtain ⟨-, -, y3, y4⟩ := id Y
  have key : ∃ r', fX9_sees_b10 t w r (zI dx) (zI dy) = some (b2 (!blkN p x y dx dy 12), r') ∧ r'.2.1 2 = zI x ∧ r'.2.1 3 = zI y ∧ rOp r' p x y := by
    unfold fX9_sees_b10
    obtain ⟨r2, f1, f2, f3⟩ := R_aim h2 h3 O dx dy
    obtain ⟨r3, k1, k2⟩ := R_isBlocked R V Y f2 f3
    rw [f1, qb1_s, k1, qb2_s]
    have e2 : r3.2.1 2 = zI x := (k2.2.2 2 (by decide)).trans f2.1
    have e3 : r3.2.1 3 = zI y := (k2.2.2 3 (by decide)).trans f2.2.1
    cases blkN p x y dx dy 12 with
    | false => exact ⟨r3, rfl, e2, e3, f3.keep k2⟩
    | true => exact ⟨r3, rfl, e2, e3, f3.keep k2⟩
  unfold fX9_sees seen
  simp only [z0, zI_eq (rI_s (a := dx) (by omega) (by omega)) r0, zI_eq (rI_s (a := dy) (by omega) (by omega)) r0]
  by_cases c1 : dx = 0
  · rw [if_pos c1]
    by_cases c2 : dy = 0
    · rw [if_pos c2]
      refine ⟨r, ?_, h2, h3, O⟩
      simp [c1, c2, b2, z0r]
    · rw [if_neg c2]
      simp only [c2, decide_false, Bool.and_false, Bool.not_false, Bool.true_and]
      exact key
  · rw [if_neg c1]
    simp only [c1, decide_false, Bool.false_and, Bool.not_false, Bool.true_and]
    exact key
/-- a move that can be made -/
def go (p : Pln) (x y dx dy : Int) : Bool := (okc (zI (x + dx)) && okc (zI (y + dy))) && seen p x y dx dy
theorem C_canMove (R : ReW w p) (V : VP p) (Y : RY x y dx dy) (h2 : r.2.1 2 = zI x) (h3 : r.2.1 3 = zI y) (O : rOp r p x y) : ∃ r', fX9_canMove t w r (zI x) (zI y) (zI dx) (zI dy) = some (b2 (go p x y dx dy), r') ∧ r'.2.1 2 = zI x ∧ r'.2.1 3 = zI y ∧ rOp r' p x y := by
  unfold fX9_canMove go
  rw [zI_add, zI_add, C_isBadPoint, qb1_s]
  cases h1 : (okc (zI (x + dx)) && okc (zI (y + dy))) with
  | false => exact ⟨r, rfl, h2, h3, O⟩
  | true =>
    rw [ifNT]
    obtain ⟨r1, e1, e2, e3, e4⟩ := C_sees (t := t) R V Y h2 h3 O
    rw [e1, qb2_s]
    cases hs : seen p x y dx dy with
    | false => exact ⟨r1, rfl, e2, e3, e4⟩
    | true => exact ⟨r1, rfl, e2, e3, e4⟩
theorem M_mayGo (Q : ReM m p) (V : VP p) (Y : RY x y dx dy) : ∃ m', fX10_mayGo m (zI x) (zI y) (zI dx) (zI dy) = some (b2 (go p x y dx dy), m') ∧ mSame m m' := by
  obtain ⟨-, -, y3, y4⟩ := id Y
  have key : ∃ m', fX10_mayGo_b9 m (zI x) (zI y) (zI dx) (zI dy) = some (b2 ((okc (zI (x + dx)) && okc (zI (y + dy))) && !blkN p x y dx dy 12), m') ∧ mSame m m' := by
    unfold fX10_mayGo_b9
    rw [zI_add, zI_add, M_isPoint, qb1_s]
    cases h1 : (okc (zI (x + dx)) && okc (zI (y + dy))) with
    | false => exact ⟨m, rfl, mSame.rf m⟩
    | true =>
      rw [ifT]
      obtain ⟨m1, e1, e2, -⟩ := M_isBlocked (x2 := x + dx) (y2 := y + dy) Q V (by rw [show x + dx - x = dx by omega, show y + dy - y = dy by omega]; exact Y)
      rw [show x + dx - x = dx by omega, show y + dy - y = dy by omega] at e1
      rw [e1, qb2_s]
      cases blkN p x y dx dy 12 with
      | false => exact ⟨m1, rfl, e2⟩
      | true => exact ⟨m1, rfl, e2⟩
  unfold fX10_mayGo go seen
  simp only [z0, zI_eq (rI_s (a := dx) (by omega) (by omega)) r0, zI_eq (rI_s (a := dy) (by omega) (by omega)) r0]
  by_cases c1 : dx = 0
  · rw [if_pos c1]
    by_cases c2 : dy = 0
    · rw [if_pos c2]
      refine ⟨m, ?_, mSame.rf m⟩
      simp [c1, c2, b2, z0r]
    · rw [if_neg c2]
      simp only [c2, decide_false, Bool.and_false, Bool.not_false, Bool.true_and]
      exact key
  · rw [if_neg c1]
    simp only [c1, decide_false, Bool.false_and, Bool.not_false, Bool.true_and]
    exact key
/-- where a walker gets -/
def wlk (p : Pln) (x y dx dy : Int) : Int := if go p x y dx dy then 64 * (x + dx) + (y + dy) else if go p x y dx 0 then 64 * (x + dx) + y else if go p x y 0 dy then 64 * x + (y + dy) else 64 * x + y
theorem C_pointCode (a b : Int) : fX9_pointCode (zI a) (zI b) = some (zI (64 * a + b)) := by
  unfold fX9_pointCode
  rw [show (64 : Int32) = zI 64 from rfl, zI_mul, zI_add]
theorem C_place (R : ReW w p) (V : VP p) (g1 : 0 ≤ x ∧ x ≤ 63) (g2 : 0 ≤ y ∧ y ≤ 63) (g3 : -8 ≤ dx ∧ dx ≤ 8) (g4 : -8 ≤ dy ∧ dy ≤ 8) : ∃ r', fX9_placeAfterMove t w r (zI x) (zI y) (zI dx) (zI dy) = some (zI (wlk p x y dx dy), r') := by
  unfold fX9_placeAfterMove wlk
  obtain ⟨r1, e1, e2, e3, e4⟩ := R_standAt (r := r) R V g1 g2
  obtain ⟨r2, f1, f2, f3, f4⟩ := C_canMove (t := t) (dx := dx) (dy := dy) R V ⟨g1, g2, by omega, by omega⟩ e2 e3 e4
  rw [e1, qb1_s, f1, qb2_s]
  cases h1 : go p x y dx dy with
  | true => rw [ifT, zI_add, zI_add, C_pointCode, qb1_s, if_pos rfl]; exact ⟨_, rfl⟩
  | false =>
    obtain ⟨r3, k1, k2, k3, k4⟩ := C_canMove (t := t) (dx := dx) (dy := 0) R V ⟨g1, g2, by omega, by omega⟩ f2 f3 f4
    rw [ifF, z0, k1, qb2_s]
    cases h2 : go p x y dx 0 with
    | true => rw [← z0, ifT, zI_add, C_pointCode, qb1_s, if_neg (by decide), if_pos rfl]; exact ⟨_, rfl⟩
    | false =>
      obtain ⟨r4, l1, l2, l3, l4⟩ := C_canMove (t := t) (dx := 0) (dy := dy) R V ⟨g1, g2, by omega, by omega⟩ k2 k3 k4
      rw [l1, qb2_s, ← z0, ifF]
      cases h3 : go p x y 0 dy with
      | true => rw [ifT, zI_add, C_pointCode, qb1_s, if_neg (by decide), if_neg (by decide), if_pos rfl]; exact ⟨_, rfl⟩
      | false => rw [ifF, C_pointCode, qb1_s, if_neg (by decide), if_neg (by decide), if_neg (by decide)]; exact ⟨_, rfl⟩
theorem M_walked (Q : ReM m p) (V : VP p) (g1 : 0 ≤ x ∧ x ≤ 63) (g2 : 0 ≤ y ∧ y ≤ 63) (g3 : -8 ≤ dx ∧ dx ≤ 8) (g4 : -8 ≤ dy ∧ dy ≤ 8) : ∃ m', fX10_walked m (zI x) (zI y) (zI dx) (zI dy) = some (zI (wlk p x y dx dy), m') ∧ mSame m m' := by
  unfold fX10_walked wlk
  obtain ⟨m1, e1, s1⟩ := M_mayGo (dx := dx) (dy := dy) Q V ⟨g1, g2, by omega, by omega⟩
  rw [e1, qb2_s]
  cases h1 : go p x y dx dy with
  | true =>
    rw [ifT, show (64 : Int32) = zI 64 from rfl, zI_add, zI_mul, zI_add, zI_add, if_pos rfl]
    exact ⟨m1, by rw [show 64 * (x + dx) + y + dy = 64 * (x + dx) + (y + dy) by omega], s1⟩
  | false =>
    obtain ⟨m2, f1, s2⟩ := M_mayGo (dx := dx) (dy := 0) (Q.same s1) V ⟨g1, g2, by omega, by omega⟩
    rw [ifF, z0, f1, qb2_s]
    cases h2 : go p x y dx 0 with
    | true =>
      rw [← z0, ifT, show (64 : Int32) = zI 64 from rfl, zI_add, zI_mul, zI_add, if_neg (by decide), if_pos rfl]
      exact ⟨m2, rfl, s1.tr s2⟩
    | false =>
      obtain ⟨m3, k1, s3⟩ := M_mayGo (dx := 0) (dy := dy) ((Q.same s1).same s2) V ⟨g1, g2, by omega, by omega⟩
      rw [k1, qb2_s, ← z0, ifF]
      cases h3 : go p x y 0 dy with
      | true =>
        rw [ifT, show (64 : Int32) = zI 64 from rfl, zI_mul, zI_add, zI_add, if_neg (by decide), if_neg (by decide), if_pos rfl]
        exact ⟨m3, by rw [show 64 * x + y + dy = 64 * x + (y + dy) by omega], (s1.tr s2).tr s3⟩
      | false =>
        rw [ifF, show (64 : Int32) = zI 64 from rfl, zI_mul, zI_add, if_neg (by decide), if_neg (by decide), if_neg (by decide)]
        exact ⟨m3, rfl, (s1.tr s2).tr s3⟩
theorem S_walk (R : ReW w p) (Q : ReM m p) (V : VP p) (a1 a2 a3 a4 : Int32) : Ray2 (fX9_walk t w r a1 a2 a3 a4) (fX10_walk m a1 a2 a3 a4) m := by
  unfold fX9_walk fX10_walk
  rw [C_isBadPoint, M_isPoint, qb1_s, qb1_s, C_isBadDirection]
  cases h1 : (okc a1 && okc a2) with
  | false => exact ⟨_, _, _, rfl, rfl, mSame.rf m⟩
  | true =>
    rw [ifNT, ifT, qb1_s]
    simp only [Bool.and_eq_true] at h1
    obtain ⟨x, rfl, g1⟩ := okc_z h1.1
    obtain ⟨y, rfl, g2⟩ := okc_z h1.2
    cases h2 : (okd a3 && okd a4) with
    | false =>
      rw [ifNF]
      refine ⟨_, _, _, rfl, ?_, mSame.rf m⟩
      unfold okd at h2
      simp only [Bool.and_eq_false_iff, decide_eq_false_iff_not] at h2
      by_cases c1 : a3 < -8
      · rw [if_pos c1]
      · rw [if_neg c1]
        by_cases c2 : 8 < a3
        · rw [if_pos c2]
        · rw [if_neg c2]
          by_cases c3 : a4 < -8
          · rw [if_pos c3]
          · rw [if_neg c3, if_neg (by grind)]
    | true =>
      rw [ifNT]
      simp only [Bool.and_eq_true] at h2
      have q3 : -8 ≤ a3 ∧ a3 ≤ 8 := by have := h2.1; unfold okd at this; simpa using this
      have q4 : -8 ≤ a4 ∧ a4 ≤ 8 := by have := h2.2; unfold okd at this; simpa using this
      rw [if_neg (by grind), if_neg (by grind), if_neg (by grind), if_pos q4.2]
      obtain ⟨dx, rfl, g3⟩ := okd_z h2.1
      obtain ⟨dy, rfl, g4⟩ := okd_z h2.2
      obtain ⟨r1, e1⟩ := C_place (t := t) (r := r) R V g1 g2 g3 g4
      obtain ⟨m1, f1, s1⟩ := M_walked Q V g1 g2 g3 g4
      rw [e1, qb2_s, f1, qb2_s]
      exact ⟨_, _, _, rfl, rfl, s1⟩
end S
