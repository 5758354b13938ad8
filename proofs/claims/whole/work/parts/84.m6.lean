/-! RAYS: the calls blocker, columnWall, seenColumns, seenPoints: both sides answer the same -/
def okc (a : Int32) : Bool := decide (0 ≤ a) && decide (a ≤ 63)
def okd (a : Int32) : Bool := decide (-8 ≤ a) && decide (a ≤ 8)
def okpic (a1 a2 a3 a4 : Int32) : Bool := (okc a1 && okc a2) && ((okd a3 && okd a4) && !(decide (a3 = 0) && decide (a4 = 0)))
def okk (a : Int32) : Bool := decide (0 ≤ a) && decide (a ≤ 31)
theorem nlt {a b : Int32} : ¬ a < b ↔ b ≤ a := by grind
theorem nle {a b : Int32} : ¬ a ≤ b ↔ b < a := by grind
theorem C_isOutside (a lo hi : Int32) : fX9_isOutside a lo hi = some (b2 (!(decide (lo ≤ a) && decide (a ≤ hi)))) := by
  unfold fX9_isOutside
  by_cases h1 : a < lo
  · rw [if_pos h1]
    have : ¬ lo ≤ a := by grind
    simp [this, b2]
  · rw [if_neg h1]
    have g : lo ≤ a := by grind
    by_cases h2 : a ≤ hi
    · rw [if_pos h2]; simp [g, h2, b2]
    · rw [if_neg h2]; simp [h2, b2]
theorem C_isBadPoint (a b : Int32) : fX9_isBadPoint a b = some (b2 (!(okc a && okc b))) := by
  unfold fX9_isBadPoint okc
  rw [C_isOutside, C_isOutside]
  cases h1 : (decide (0 ≤ a) && decide (a ≤ 63)) <;> cases h2 : (decide (0 ≤ b) && decide (b ≤ 63)) <;> rfl
theorem C_isBadDirection (a b : Int32) : fX9_isBadDirection a b = some (b2 (!(okd a && okd b))) := by
  unfold fX9_isBadDirection okd
  rw [C_isOutside, C_isOutside]
  cases h1 : (decide (-8 ≤ a) && decide (a ≤ 8)) <;> cases h2 : (decide (-8 ≤ b) && decide (b ≤ 8)) <;> rfl
theorem C_isBadPicture (a1 a2 a3 a4 : Int32) : fX9_isBadPicture a1 a2 a3 a4 = some (b2 (!okpic a1 a2 a3 a4)) := by
  unfold fX9_isBadPicture okpic
  rw [C_isBadPoint, qb1_s, C_isBadDirection]
  cases h1 : (okc a1 && okc a2) with
  | false => rfl
  | true =>
    rw [if_pos (by decide), qb1_s]
    cases h2 : (okd a3 && okd a4) with
    | false => rfl
    | true =>
      rw [if_pos (by decide)]
      by_cases c3 : a3 = 0
      · by_cases c4 : a4 = 0
        · simp [c3, c4, b2]
        · simp [c3, c4, b2]
      · simp [c3, b2]
theorem C_isBadColumn (a : Int32) : fX9_isBadColumn a = some (b2 (!okk a)) := by
  unfold fX9_isBadColumn
  rw [C_isOutside]
  rfl
theorem M_isCoordinate (a : Int32) : fX10_isCoordinate a = some (b2 (okc a)) := by
  unfold fX10_isCoordinate okc
  by_cases h1 : a < 0
  · rw [if_pos h1]
    have : ¬ 0 ≤ a := by grind
    simp [this, b2]
  · rw [if_neg h1]
    have g : 0 ≤ a := by grind
    by_cases h2 : 63 < a
    · rw [if_pos h2]
      have : ¬ a ≤ 63 := by grind
      simp [this, b2]
    · rw [if_neg h2]
      have : a ≤ 63 := by grind
      simp [g, this, b2]
theorem M_isPoint (a b : Int32) : fX10_isPoint a b = some (b2 (okc a && okc b)) := by
  unfold fX10_isPoint
  rw [M_isCoordinate, qb1_s, M_isCoordinate]
  cases okc a <;> cases okc b <;> rfl
theorem M_isPicture (a1 a2 a3 a4 : Int32) : fX10_isPicture a1 a2 a3 a4 = some (b2 (okpic a1 a2 a3 a4)) := by
  unfold fX10_isPicture okpic
  rw [M_isPoint, qb1_s]
  cases h1 : (okc a1 && okc a2) with
  | false => rfl
  | true =>
    rw [if_neg (by decide)]
    unfold okd
    by_cases c1 : a3 < -8
    · have : ¬ -8 ≤ a3 := by grind
      rw [if_pos c1]; simp [this, b2]
    · have d1 : -8 ≤ a3 := by grind
      rw [if_neg c1]
      by_cases c2 : 8 < a3
      · have : ¬ a3 ≤ 8 := by grind
        rw [if_pos c2]; simp [this, b2]
      · have d2 : a3 ≤ 8 := by grind
        rw [if_neg c2]
        by_cases c3 : a4 < -8
        · have : ¬ -8 ≤ a4 := by grind
          rw [if_pos c3]; simp [this, b2]
        · have d3 : -8 ≤ a4 := by grind
          rw [if_neg c3]
          by_cases c4 : 8 < a4
          · have : ¬ a4 ≤ 8 := by grind
            rw [if_pos c4]; simp [this, b2]
          · have d4 : a4 ≤ 8 := by grind
            rw [if_neg c4]
            by_cases e3 : a3 = 0
            · by_cases e4 : a4 = 0
              · simp [e3, e4, b2]
              · simp [e3, d3, d4, e4, b2]
            · simp [d1, d2, d3, d4, e3, b2]
theorem okc_z {a : Int32} (h : okc a = true) : ∃ x : Int, a = zI x ∧ 0 ≤ x ∧ x ≤ 63 := by
  unfold okc at h
  simp only [Bool.and_eq_true, decide_eq_true_eq, Int32.le_iff_toInt_le] at h
  exact ⟨a.toInt, (zI_self a).symm, h.1, h.2⟩
theorem okd_z {a : Int32} (h : okd a = true) : ∃ x : Int, a = zI x ∧ -8 ≤ x ∧ x ≤ 8 := by
  unfold okd at h
  simp only [Bool.and_eq_true, decide_eq_true_eq, Int32.le_iff_toInt_le] at h
  exact ⟨a.toInt, (zI_self a).symm, h.1, h.2⟩
theorem okk_z {a : Int32} (h : okk a = true) : ∃ x : Int, a = zI x ∧ 0 ≤ x ∧ x ≤ 31 := by
  unfold okk at h
  simp only [Bool.and_eq_true, decide_eq_true_eq, Int32.le_iff_toInt_le] at h
  exact ⟨a.toInt, (zI_self a).symm, h.1, h.2⟩
theorem okpic_z {a1 a2 a3 a4 : Int32} (h : okpic a1 a2 a3 a4 = true) : ∃ x y dx dy : Int, a1 = zI x ∧ a2 = zI y ∧ a3 = zI dx ∧ a4 = zI dy ∧ (0 ≤ x ∧ x ≤ 63) ∧ (0 ≤ y ∧ y ≤ 63) ∧ (-8 ≤ dx ∧ dx ≤ 8) ∧ (-8 ≤ dy ∧ dy ≤ 8) := by
  unfold okpic at h
  simp only [Bool.and_eq_true] at h
  obtain ⟨x, e1, g1⟩ := okc_z h.1.1
  obtain ⟨y, e2, g2⟩ := okc_z h.1.2
  obtain ⟨dx, e3, g3⟩ := okd_z h.2.1.1
  obtain ⟨dy, e4, g4⟩ := okd_z h.2.1.2
  exact ⟨x, y, dx, dy, e1, e2, e3, e4, g1, g2, g3, g4⟩
theorem ifT {α : Type} (s t : α) : (if b2 true = 0 then s else t) = t := rfl
theorem ifF {α : Type} (s t : α) : (if b2 false = 0 then s else t) = s := rfl
theorem ifNT {α : Type} (s t : α) : (if b2 (!true) = 0 then s else t) = s := rfl
theorem ifNF {α : Type} (s t : α) : (if b2 (!false) = 0 then s else t) = t := rfl
section S
variable {p : Pln} {t w r m : Pk}
/-- what a call of both sides is owed here: the same answer, nothing that lasts is touched -/
def Ray2 (c : Option (Int32 × Pk)) (d : Option (Int32 × Pk)) (m : Pk) : Prop := ∃ (v : Int32) (r' m' : Pk), c = some (v, r') ∧ d = some (v, m') ∧ mSame m m'
theorem S_blocker (R : ReW w p) (Q : ReM m p) (V : VP p) (a1 a2 a3 a4 : Int32) : Ray2 (fX9_blocker t w r a1 a2 a3 a4) (fX10_blocker m a1 a2 a3 a4) m := by
  unfold fX9_blocker fX10_blocker
  rw [C_isBadPoint, M_isPoint, qb1_s, qb1_s, C_isBadPoint, M_isPoint, qb1_s, qb1_s]
  cases h1 : (okc a1 && okc a2) with
  | false => exact ⟨_, _, _, rfl, rfl, mSame.rf m⟩
  | true =>
    cases h2 : (okc a3 && okc a4) with
    | false => exact ⟨_, _, _, rfl, rfl, mSame.rf m⟩
    | true =>
      rw [ifNT, ifNT, ifT, ifT]
      simp only [Bool.and_eq_true] at h1 h2
      obtain ⟨x, rfl, g1⟩ := okc_z h1.1
      obtain ⟨y, rfl, g2⟩ := okc_z h1.2
      obtain ⟨x2, rfl, g3⟩ := okc_z h2.1
      obtain ⟨y2, rfl, g4⟩ := okc_z h2.2
      have key : Ray2 (fX9_blocker_b31 t w r (zI x) (zI y) (zI x2) (zI y2)) (fX10_blocker_b31 m (zI x) (zI y) (zI x2) (zI y2)) m := by
        have Y : RY x y (x2 - x) (y2 - y) := ⟨g1, g2, by omega, by omega⟩
        unfold fX9_blocker_b31 fX10_blocker_b31
        obtain ⟨r1, e1, e2, e3, e4⟩ := R_standAt (r := r) R V g1 g2
        obtain ⟨r2, f1, f2, f3⟩ := R_aim e2 e3 e4 (x2 - x) (y2 - y)
        obtain ⟨r3, k1, k2, k3⟩ := R_findFirstHit R V Y f2 f3
        obtain ⟨m1, l1, l2, l3⟩ := M_isBlocked Q V Y
        rw [e1, qb1_s, zI_sub, zI_sub, f1, qb1_s, k1, qb1_s, R_within (n := 0) V Y k3, qb1_s, l1, qb2_s]
        cases hb : blkN p x y (x2 - x) (y2 - y) 12 with
        | false => exact ⟨_, _, _, rfl, rfl, l2⟩
        | true =>
          rw [if_neg (by decide), if_neg (by decide)]
          unfold fX5_firstHitWall
          rw [qb1_s]
          rw [blk_fh 12] at hb
          cases hf : fh p x y (x2 - x) (y2 - y) 12 with
          | none => rw [hf] at hb; cases hb
          | some j =>
            rw [hf] at k3 l3
            rw [k3.1, l3.1]
            exact ⟨_, _, _, rfl, rfl, l2⟩
      by_cases c1 : zI x = zI x2
      · rw [if_pos c1, if_pos c1]
        by_cases c2 : zI y = zI y2
        · rw [if_pos c2, if_pos c2]
          exact ⟨_, _, _, rfl, rfl, mSame.rf m⟩
        · rw [if_neg c2, if_neg c2]
          exact key
      · rw [if_neg c1, if_neg c1]
        exact key
theorem nok {a : Int32} : okk a = false → a < 0 ∨ 31 < a := by unfold okk; simp only [Bool.and_eq_false_iff, decide_eq_false_iff_not]; grind
theorem S_columnWall (R : ReW w p) (Q : ReM m p) (V : VP p) (a1 a2 a3 a4 a5 : Int32) : Ray2 (fX9_columnWall t w r a1 a2 a3 a4 a5) (fX10_columnWall m a1 a2 a3 a4 a5) m := by
  unfold fX9_columnWall fX10_columnWall
  rw [C_isBadPicture, M_isPicture, qb1_s, qb1_s, C_isBadColumn]
  cases h1 : okpic a1 a2 a3 a4 with
  | false => exact ⟨_, _, _, rfl, rfl, mSame.rf m⟩
  | true =>
    rw [if_pos (by decide), if_neg (by decide), qb1_s]
    obtain ⟨x, y, dx, dy, rfl, rfl, rfl, rfl, g1, g2, g3, g4⟩ := okpic_z h1
    cases h2 : okk a5 with
    | false =>
      rw [if_neg (by decide)]
      refine ⟨_, _, _, rfl, ?_, mSame.rf m⟩
      rcases nok h2 with c | c
      · rw [if_pos c]
      · rw [if_neg (by grind), if_neg (by grind)]
    | true =>
      rw [if_pos (by decide)]
      have hk : 0 ≤ a5 ∧ a5 ≤ 31 := by unfold okk at h2; simpa using h2
      rw [if_neg (by grind), if_pos hk.2]
      obtain ⟨c, rfl, g5⟩ := okk_z h2
      have Y := col_RY (c := c) g1 g2 g3 g4 g5
      obtain ⟨r1, e1, e2, e3, e4⟩ := R_standAt (r := r) R V g1 g2
      obtain ⟨r2, f1, f2, f3⟩ := R_aimCol e2 e3 e4 dx dy c
      obtain ⟨r3, k1, k2, k3⟩ := R_findFirstHit R V Y f2 f3
      obtain ⟨m1, l1, l2, l3⟩ := M_traceColumn Q V Y
      unfold fX5_firstHitWall
      rw [e1, qb1_s, f1, qb1_s, k1, qb1_s, qb1_s, l1, qb1_s]
      cases hf : fh p x y (colX dx dy c) (colY dx dy c) 12 with
      | none =>
        rw [hf] at k3 l3
        rw [show r3.2.1 9 = zI (-8) from k3, show m1.2.1 54 = zI (-1) from l3, if_neg (by decide), zmone8]
        exact ⟨_, _, _, rfl, rfl, l2⟩
      | some j =>
        rw [hf] at k3 l3
        have hj := (fh_p hf).1
        rw [k3.1, l3.1, if_pos (by rw [z0, zI_le r0 (rI_s (by omega) (by omega))]; omega)]
        exact ⟨_, _, _, rfl, rfl, l2⟩
end S
