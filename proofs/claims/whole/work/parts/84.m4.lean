/-! RAYS, the loops -/
theorem zmone8 : (-8 : Int32) = zI (-8) := by decide
theorem z2 : (2 : Int32) = zI 2 := rfl
theorem rI_s {a : Int} (h : -100000 ≤ a) (g : a ≤ 100000) : rI a := ⟨by omega, by omega⟩
theorem FU_12 (i : Nat) : 12 - i < FU := Nat.lt_of_le_of_lt (Nat.sub_le _ _) (by decide)
section H
variable {p : Pln} {i : Nat} {x y dx dy : Int}
theorem W_isOpaqueFor {w : Pk} (R : ReW w p) (V : VP p) (h : i < 12) (hx : 0 ≤ x ∧ x ≤ 63) (hy : 0 ≤ y ∧ y ≤ 63) : fX8_isOpaqueFor w (zI i) (zI x) (zI y) = some (b2 (opq p i x y)) := by
  unfold fX8_isOpaqueFor opq
  rw [W_exists R h, qb1_s]
  cases hp : pP p i with
  | false => rfl
  | true =>
    have vk := (V.1 i h hp).2.2.2.2.2
    have bs := sv_small V h hp hx hy
    rw [if_neg (by decide), W_kindOf R h hp, W_sideValue R h hp]
    simp only [qb1_s, z0, z1, zI_eq (rI_s (a := pK p i) (by omega) (by omega)) (rI_s (a := 1) (by omega) (by omega)), zI_eq (rI_s (a := pK p i) (by omega) (by omega)) (rI_s (a := 0) (by omega) (by omega)), zI_le (r7938 bs) r0]
    by_cases c1 : pK p i = 1
    · rw [if_pos c1]; simp [c1, b2, z0r]
    · rw [if_neg c1]
      by_cases c0 : pK p i = 0
      · rw [if_pos c0]; simp [c0, b2, ← z1]
      · rw [if_neg c0]
        have c2 : pK p i = 2 := by omega
        by_cases cs : sv p i x y ≤ 0
        · rw [if_pos cs]
          have : ¬ 0 < sv p i x y := by omega
          simp [c2, this, b2, z0r]
        · rw [if_neg cs]
          have : 0 < sv p i x y := by omega
          simp [c2, this, b2, ← z1]
theorem W_isDrawnFor {w : Pk} (R : ReW w p) (V : VP p) (h : i < 12) (hx : 0 ≤ x ∧ x ≤ 63) (hy : 0 ≤ y ∧ y ≤ 63) : fX8_isDrawnFor w (zI i) (zI x) (zI y) = some (b2 (drw p i x y)) := by
  unfold fX8_isDrawnFor drw
  rw [W_exists R h, qb1_s]
  cases hp : pP p i with
  | false => rfl
  | true =>
    have vk := (V.1 i h hp).2.2.2.2.2
    have bs := sv_small V h hp hx hy
    rw [if_neg (by decide), W_kindOf R h hp, W_sideValue R h hp]
    simp only [qb1_s, z0, z2, zI_eq (rI_s (a := pK p i) (by omega) (by omega)) (rI_s (a := 2) (by omega) (by omega)), zI_le r0 (r7938 bs), zI_lt r0 (r7938 bs)]
    by_cases c1 : 0 < sv p i x y
    · rw [if_pos c1]; simp [c1, b2]
    · rw [if_neg c1]
      by_cases c0 : 0 ≤ sv p i x y
      · have e : sv p i x y = 0 := by omega
        rw [if_pos c0]; simp [e, b2, z0r]
      · rw [if_neg c0]
        have c3 : sv p i x y < 0 := by omega
        by_cases c2 : pK p i = 2
        · rw [if_pos c2]; simp [c1, c2, b2, z0r]
        · rw [if_neg c2]; simp [c3, c2, b2]
theorem M_isOpaque {m : Pk} (R : ReM m p) (V : VP p) (h : i < 12) (hp : pP p i = true) (hx : 0 ≤ x ∧ x ≤ 63) (hy : 0 ≤ y ∧ y ≤ 63) : fX10_isOpaque m (zI i) (zI x) (zI y) = some (b2 (opq p i x y)) := by
  unfold fX10_isOpaque opq
  have vk := (V.1 i h hp).2.2.2.2.2
  have bs := sv_small V h hp hx hy
  rw [M_at5 R h hp, M_side R h hp, hp]
  simp only [qb1_s, z0, z2, zI_eq (rI_s (a := pK p i) (by omega) (by omega)) (rI_s (a := 2) (by omega) (by omega)), zI_eq (rI_s (a := pK p i) (by omega) (by omega)) (rI_s (a := 0) (by omega) (by omega)), zI_le (r7938 bs) r0]
  by_cases c0 : pK p i = 0
  · rw [if_pos c0]; simp [c0, b2]
  · rw [if_neg c0]
    by_cases c2 : pK p i = 2
    · rw [if_pos c2]
      by_cases cs : sv p i x y ≤ 0
      · rw [if_pos cs]
        have : ¬ 0 < sv p i x y := by omega
        simp [c2, this, b2, z0r]
      · rw [if_neg cs]
        have : 0 < sv p i x y := by omega
        simp [c2, this, b2]
    · rw [if_neg c2]; simp [c0, c2, b2, z0r]
theorem M_isDrawn {m : Pk} (R : ReM m p) (V : VP p) (h : i < 12) (hp : pP p i = true) (hx : 0 ≤ x ∧ x ≤ 63) (hy : 0 ≤ y ∧ y ≤ 63) : fX10_isDrawn m (zI i) (zI x) (zI y) = some (b2 (drw p i x y)) := by
  unfold fX10_isDrawn drw
  have vk := (V.1 i h hp).2.2.2.2.2
  have bs := sv_small V h hp hx hy
  rw [M_at5 R h hp, M_side R h hp, hp]
  simp only [qb1_s, z0, z2, zI_eq (rI_s (a := pK p i) (by omega) (by omega)) (rI_s (a := 2) (by omega) (by omega)), zI_eq (r7938 bs) r0, zI_le (r7938 bs) r0]
  by_cases c2 : pK p i = 2
  · rw [if_pos c2]
    by_cases cs : sv p i x y ≤ 0
    · rw [if_pos cs]
      have : ¬ 0 < sv p i x y := by omega
      simp [c2, this, b2, z0r]
    · rw [if_neg cs]
      have : 0 < sv p i x y := by omega
      simp [this, b2]
  · rw [if_neg c2]
    by_cases c1 : sv p i x y = 0
    · rw [if_pos c1]; simp [c1, b2, z0r]
    · rw [if_neg c1]
      by_cases c3 : 0 < sv p i x y
      · simp [c3, b2]
      · have : sv p i x y < 0 := by omega
        simp [this, c2, b2]
def rOp (r : Pk) (p : Pln) (x y : Int) : Prop := ∀ i, i < 12 → r.1 1 i = b2 (opq p i x y)
theorem upd_if (f : Nat → Int32) (k j : Nat) (v : Int32) : upd f k v j = if j = k then v else f j := rfl
theorem nar_b2 (b : Bool) : vp_nar .boolean (b2 b) = b2 b := by cases b <;> rfl
theorem R_stand_loop {w : Pk} (R : ReW w p) (V : VP p) (hx : 0 ≤ x ∧ x ≤ 63) (hy : 0 ≤ y ∧ y ≤ 63) : ∀ (n i : Nat) (r : Pk), i ≤ 12 → 12 - i < n → (∀ j, j < i → r.1 1 j = b2 (opq p j x y)) → ∃ r', fX5_standAt_b12 w n r (zI x) (zI y) (zI i) = some r' ∧ r'.2 = r.2 ∧ rOp r' p x y := by
  intro n
  induction n with
  | zero => intro i r _ h _; omega
  | succ n ih =>
    intro i r hi hn ho
    show ∃ r', fX5_standAt_b12_s (fX5_standAt_b12 w n) w r (zI x) (zI y) (zI i) = some r' ∧ _
    unfold fX5_standAt_b12_s
    by_cases h : i < 12
    · rw [if_neg (i12a h), W_isOpaqueFor R V h hx hy, qb1_s, qst_at h (by decide)]
      simp only [qn_s, ix_s, nar_b2]
      obtain ⟨r', e1, e2, e3⟩ := ih (i + 1) (pkA r 1 (zI i) (b2 (opq p i x y))) (by omega) (by omega) (fun j hj => by
        rw [pA1 (by omega), if_pos rfl, upd_if]
        by_cases hji : j = i
        · subst hji; rw [if_pos rfl]
        · rw [if_neg hji]; exact ho j (by omega))
      exact ⟨r', e1, e2, e3⟩
    · have e : i = 12 := by omega
      subst e
      rw [if_pos i12e]
      exact ⟨r, rfl, rfl, ho⟩
theorem R_standAt {w r : Pk} (R : ReW w p) (V : VP p) (hx : 0 ≤ x ∧ x ≤ 63) (hy : 0 ≤ y ∧ y ≤ 63) : ∃ r', fX5_standAt w r (zI x) (zI y) = some r' ∧ r'.2.1 2 = zI x ∧ r'.2.1 3 = zI y ∧ rOp r' p x y := by
  unfold fX5_standAt
  simp only [qn_s]
  obtain ⟨r', e1, e2, e3⟩ := R_stand_loop R V hx hy FU 0 (pkI (pkI r 2 (zI x)) 3 (zI y)) (by omega) (FU_12 0) (fun j hj => by omega)
  exact ⟨r', e1, by rw [e2]; rfl, by rw [e2]; rfl, e3⟩
theorem R_aim {r : Pk} {x2 y2 : Int} (h2 : r.2.1 2 = zI x) (h3 : r.2.1 3 = zI y) (O : rOp r p x2 y2) (dx dy : Int) : ∃ r', fX5_aim r (zI dx) (zI dy) = some r' ∧ rAim r' x y dx dy ∧ rOp r' p x2 y2 := by
  unfold fX5_aim
  simp only [qn_s]
  exact ⟨_, rfl, ⟨h2, h3, rfl, rfl⟩, O⟩
/-- what a ray's object says of its first hit -/
def rF (r : Pk) (p : Pln) (x y dx dy : Int) (f : Option Nat) : Prop := match f with
  | none => r.2.1 9 = zI (-8)
  | some j => r.2.1 9 = zI (j : Int) ∧ r.2.1 10 = zI (hD p j x y dx dy) ∧ r.2.1 11 = zI (hB p j dx dy)
theorem rF.same {r r' : Pk} {f : Option Nat} (h : rF r p x y dx dy f) (s : rSame r r') : rF r' p x y dx dy f := by
  cases f with
  | none => exact (s.2.2 9 (by decide) (by decide) (by decide)).trans h
  | some j => exact ⟨(s.2.2 9 (by decide) (by decide) (by decide)).trans h.1, (s.2.2 10 (by decide) (by decide) (by decide)).trans h.2.1, (s.2.2 11 (by decide) (by decide) (by decide)).trans h.2.2⟩
/-- before the first hit f -/
def bef (p : Pln) (x y dx dy : Int) (i : Nat) (f : Option Nat) : Bool := match f with
  | none => true
  | some j => decide (hD p i x y dx dy * hB p j dx dy < hD p j x y dx dy * hB p i dx dy)
theorem R_before {r : Pk} (V : VP p) (h : i < 12) (hp : pP p i = true) (Y : RY x y dx dy) (hh : rHit r p i x y dx dy) {f : Option Nat} (F : rF r p x y dx dy f) (hf : ∀ j, f = some j → j < 12 ∧ pP p j = true) : fX5_hitIsBeforeFirst r = some (b2 (bef p x y dx dy i f)) := by
  unfold fX5_hitIsBeforeFirst
  cases f with
  | none =>
    rw [if_pos (by rw [show r.2.1 9 = zI (-8) from F]; decide)]
    rfl
  | some j =>
    obtain ⟨f1, f2, f3⟩ := F
    obtain ⟨j1, j2⟩ := hf j rfl
    have b1 := hD_bd V h hp Y
    have b2' := hB_bd V j1 j2 Y
    have b3 := hD_bd V j1 j2 Y
    have b4 := hB_bd V h hp Y
    rw [f1, f2, f3, hh.1, hh.2.2, zmone8]
    simp only [zI_eq (rI_s (a := (j : Int)) (by omega) (by omega)) (rI_s (a := -8) (by omega) (by omega)), zI_long (r7938 b1), zI_long (r63504 b2'), zI_long (r7938 b3), zI_long (r63504 b4), zL_mul, cmp_ge, zL_le (rLs3 b3 b4) (rLs3 b1 b2')]
    rw [if_neg (by omega)]
    unfold bef
    dsimp only
    by_cases c : hD p j x y dx dy * hB p i dx dy ≤ hD p i x y dx dy * hB p j dx dy
    · rw [if_pos c]
      have : ¬ hD p i x y dx dy * hB p j dx dy < hD p j x y dx dy * hB p i dx dy := by omega
      simp [this, b2]
    · rw [if_neg c]
      have : hD p i x y dx dy * hB p j dx dy < hD p j x y dx dy * hB p i dx dy := by omega
      simp [this, b2]
theorem fh_p {n j : Nat} (h : fh p x y dx dy n = some j) : j < n ∧ pP p j = true := ⟨(fh_lt h).1, opq_p (fh_lt h).2.1⟩
theorem fh_s (n : Nat) : fh p x y dx dy (n + 1) = if opq p n x y && (hit p n x y dx dy && bef p x y dx dy n (fh p x y dx dy n)) then some n else fh p x y dx dy n := by
  show (match fh p x y dx dy n with | none => _ | some j => _) = _
  cases hf : fh p x y dx dy n with
  | none => simp [bef]
  | some j => rfl
/-- a ray's object between two searches: what stays -/
def rKeep (r r' : Pk) : Prop := r'.1 = r.1 ∧ r'.2.2 = r.2.2 ∧ ∀ k, k < 6 → r'.2.1 k = r.2.1 k
theorem rKeep.rf (r : Pk) : rKeep r r := ⟨rfl, rfl, fun _ _ => rfl⟩
theorem rKeep.tr {a b c : Pk} (h : rKeep a b) (g : rKeep b c) : rKeep a c := ⟨g.1.trans h.1, g.2.1.trans h.2.1, fun k hk => (g.2.2 k hk).trans (h.2.2 k hk)⟩
theorem rSame.keep {a b : Pk} (h : rSame a b) : rKeep a b := ⟨h.1, h.2.1, fun k hk => h.2.2 k (by omega) (by omega) (by omega)⟩
theorem rAim.keep {r r' : Pk} (h : rAim r x y dx dy) (s : rKeep r r') : rAim r' x y dx dy := ⟨(s.2.2 2 (by decide)).trans h.1, (s.2.2 3 (by decide)).trans h.2.1, (s.2.2 4 (by decide)).trans h.2.2.1, (s.2.2 5 (by decide)).trans h.2.2.2⟩
theorem rOp.keep {r r' : Pk} {x2 y2 : Int} (h : rOp r p x2 y2) (s : rKeep r r') : rOp r' p x2 y2 := fun i hi => by rw [s.1]; exact h i hi
theorem R_find_loop {w : Pk} (R : ReW w p) (V : VP p) (Y : RY x y dx dy) : ∀ (n i : Nat) (r : Pk), i ≤ 12 → 12 - i < n → rAim r x y dx dy → rOp r p x y → rF r p x y dx dy (fh p x y dx dy i) → ∃ r', fX5_findFirstHit_b8 w n r (zI i) = some r' ∧ rKeep r r' ∧ rF r' p x y dx dy (fh p x y dx dy 12) := by
  intro n
  induction n with
  | zero => intro i r _ h; omega
  | succ n ih =>
    intro i r hi hn A O F
    show ∃ r', fX5_findFirstHit_b8_s (fX5_findFirstHit_b8 w n) w r (zI i) = some r' ∧ _
    unfold fX5_findFirstHit_b8_s
    by_cases h : i < 12
    · -- the next wall, whatever became of the first hit
      have nxt : ∀ r1 : Pk, rKeep r r1 → rF r1 p x y dx dy (fh p x y dx dy (i + 1)) → ∃ r', fX5_findFirstHit_b59 (fX5_findFirstHit_b8 w n) w r1 (zI i) = some r' ∧ rKeep r r' ∧ rF r' p x y dx dy (fh p x y dx dy 12) := by
        intro r1 k1 f1
        unfold fX5_findFirstHit_b59
        simp only [qn_s, ix_s]
        obtain ⟨r', e1, e2, e3⟩ := ih (i + 1) r1 (by omega) (by omega) (A.keep k1) (O.keep k1) f1
        exact ⟨r', e1, k1.tr e2, e3⟩
      rw [if_neg (i12a h), qld_at h (by decide), O i h]
      have fs := fh_s (p := p) (x := x) (y := y) (dx := dx) (dy := dy) i
      cases ho : opq p i x y with
      | false =>
        rw [if_pos (by decide)]
        rw [ho] at fs
        exact nxt r (rKeep.rf r) (by rw [fs]; exact F)
      | true =>
        have hp := opq_p ho
        rw [if_neg (by decide)]
        obtain ⟨r1, g1, g2, g3⟩ := R_hits R V h A Y
        rw [g1, qb2_s]
        rw [ho] at fs
        cases hh : hit p i x y dx dy with
        | false =>
          rw [if_pos (by decide)]
          rw [hh] at fs
          exact nxt r1 g2.keep (by rw [fs]; exact F.same g2)
        | true =>
          rw [if_neg (by decide), R_before V h hp Y (g3 hh) (F.same g2) (fun j hj => ⟨by have := (fh_p hj).1; omega, (fh_p hj).2⟩), qb1_s]
          rw [hh] at fs
          cases hb : bef p x y dx dy i (fh p x y dx dy i) with
          | false =>
            rw [if_pos (by decide)]
            rw [hb] at fs
            exact nxt r1 g2.keep (by rw [fs]; exact F.same g2)
          | true =>
            rw [if_neg (by decide)]
            rw [hb] at fs
            simp only [qn_s]
            refine nxt _ (g2.keep.tr ⟨rfl, rfl, fun k hk => ?_⟩) ?_
            · simp only [pI]
              rw [if_neg (by omega), if_neg (by omega), if_neg (by omega)]
            · rw [fs]
              obtain ⟨h6, h7, h8⟩ := g3 hh
              exact ⟨rfl, h6, h8⟩
    · have e : i = 12 := by omega
      subst e
      rw [if_pos i12e]
      exact ⟨r, rfl, rKeep.rf r, F⟩
theorem R_findFirstHit {w r : Pk} (R : ReW w p) (V : VP p) (Y : RY x y dx dy) (A : rAim r x y dx dy) (O : rOp r p x y) : ∃ r', fX5_findFirstHit w r = some r' ∧ rKeep r r' ∧ rF r' p x y dx dy (fh p x y dx dy 12) := by
  unfold fX5_findFirstHit
  simp only [qn_s]
  obtain ⟨r', e1, e2, e3⟩ := R_find_loop R V Y FU 0 (pkI r 9 (-8)) (by omega) (FU_12 0) A O (show (-8 : Int32) = zI (-8) from zmone8)
  exact ⟨r', e1, ⟨e2.1, e2.2.1, fun k hk => by rw [e2.2.2 k hk, pI, if_neg (by omega)]⟩, e3⟩
theorem R_block_loop {w : Pk} (R : ReW w p) (V : VP p) (Y : RY x y dx dy) : ∀ (n i : Nat) (r : Pk), i ≤ 12 → 12 - i < n → rAim r x y dx dy → rOp r p x y → blkN p x y dx dy i = false → ∃ r', fX5_isBlocked_b2 w n r (zI i) = some (b2 (blkN p x y dx dy 12), r') ∧ rKeep r r' := by
  intro n
  induction n with
  | zero => intro i r _ h; omega
  | succ n ih =>
    intro i r hi hn A O F
    show ∃ r', fX5_isBlocked_b2_s (fX5_isBlocked_b2 w n) w r (zI i) = some (_, r') ∧ _
    unfold fX5_isBlocked_b2_s
    by_cases h : i < 12
    · have bs : blkN p x y dx dy (i + 1) = (blkN p x y dx dy i || (opq p i x y && (hit p i x y dx dy && decide (hD p i x y dx dy ≤ hB p i dx dy)))) := rfl
      rw [F, Bool.false_or] at bs
      have nxt : ∀ r1 : Pk, rKeep r r1 → blkN p x y dx dy (i + 1) = false → ∃ r', fX5_isBlocked_b38 (fX5_isBlocked_b2 w n) w r1 (zI i) = some (b2 (blkN p x y dx dy 12), r') ∧ rKeep r r' := by
        intro r1 k1 f1
        unfold fX5_isBlocked_b38
        simp only [qn_s, ix_s]
        obtain ⟨r', e1, e2⟩ := ih (i + 1) r1 (by omega) (by omega) (A.keep k1) (O.keep k1) f1
        exact ⟨r', e1, k1.tr e2⟩
      rw [if_neg (i12a h), qld_at h (by decide), O i h]
      cases ho : opq p i x y with
      | false =>
        rw [if_pos (by decide)]
        rw [ho] at bs
        exact nxt r (rKeep.rf r) bs
      | true =>
        have hp := opq_p ho
        rw [if_neg (by decide)]
        obtain ⟨r1, g1, g2, g3⟩ := R_hits R V h A Y
        rw [g1, qb2_s]
        rw [ho] at bs
        cases hh : hit p i x y dx dy with
        | false =>
          rw [if_pos (by decide)]
          rw [hh] at bs
          exact nxt r1 g2.keep bs
        | true =>
          rw [if_neg (by decide)]
          obtain ⟨h6, h7, h8⟩ := g3 hh
          rw [h6, h8]
          rw [hh, Bool.true_and, Bool.true_and] at bs
          simp only [zI_lt (r63504 (hB_bd V h hp Y)) (r7938 (hD_bd V h hp Y))]
          by_cases c : hB p i dx dy < hD p i x y dx dy
          · rw [if_pos c]
            have : ¬ hD p i x y dx dy ≤ hB p i dx dy := by omega
            exact nxt r1 g2.keep (by rw [bs]; simp [this])
          · rw [if_neg c]
            have hle : hD p i x y dx dy ≤ hB p i dx dy := by omega
            have b1 : blkN p x y dx dy (i + 1) = true := by rw [bs]; simp [hle]
            have mono : ∀ k, blkN p x y dx dy (i + 1 + k) = true := by
              intro k
              induction k with
              | zero => exact b1
              | succ k ihk => show (blkN p x y dx dy (i + 1 + k) || _) = true; rw [ihk]; rfl
            have := mono (12 - (i + 1))
            rw [show i + 1 + (12 - (i + 1)) = 12 by omega] at this
            rw [this]
            exact ⟨r1, rfl, g2.keep⟩
    · have e : i = 12 := by omega
      subst e
      rw [if_pos i12e, F]
      exact ⟨r, rfl, rKeep.rf r⟩
theorem R_isBlocked {w r : Pk} (R : ReW w p) (V : VP p) (Y : RY x y dx dy) (A : rAim r x y dx dy) (O : rOp r p x y) : ∃ r', fX5_isBlocked w r = some (b2 (blkN p x y dx dy 12), r') ∧ rKeep r r' := by
  unfold fX5_isBlocked
  exact R_block_loop R V Y FU 0 r (by omega) (FU_12 0) A O rfl
end H
