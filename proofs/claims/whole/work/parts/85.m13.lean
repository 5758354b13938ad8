/-! NEAR: the searches of both sides -/
section S
variable {p : Pln} {t w r m n : Pk} {x y : Int} {i : Nat}
theorem nr_s (k : Nat) : nr p x y (k + 1) = if pP p k && clo p x y k (nr p x y k) then some k else nr p x y k := rfl
theorem nr_ok {k : Nat} (hk : k ≤ 12) : ∀ j, nr p x y k = some j → j < 12 ∧ pP p j = true := fun j h => ⟨by have := (nr_p h).1; omega, (nr_p h).2⟩
theorem N_loop (R : ReW w p) (V : VP p) (Y : Sq x y) : ∀ (k i : Nat) (n : Pk), i ≤ 12 → 12 - i < k → nF n p x y (nr p x y i) → ∃ n', fX3_find_b8 w k n (zI x) (zI y) (zI i) = some n' ∧ nF n' p x y (nr p x y 12) := by
  intro k
  induction k with
  | zero => intro i n _ h; omega
  | succ k ih =>
    intro i n hi hn F
    show ∃ n', fX3_find_b8_s (fX3_find_b8 w k) w n (zI x) (zI y) (zI i) = _ ∧ _
    unfold fX3_find_b8_s fX3_find_b32
    by_cases h : i < 12
    · have es := nr_s (p := p) (x := x) (y := y) i
      rw [if_neg (i12a h), W_exists R h, qb1_s]
      cases hp : pP p i with
      | false =>
        rw [ifF, qn_s, ix_s]
        rw [hp] at es
        exact ih (i + 1) n (by omega) (by omega) (by rw [es]; exact F)
      | true =>
        rw [ifT]
        obtain ⟨n1, a1, a2⟩ := N_compare R V h hp Y F (nr_ok hi)
        rw [a1, qb1_s, qn_s, ix_s]
        rw [hp, Bool.true_and] at es
        rw [← es] at a2
        exact ih (i + 1) n1 (by omega) (by omega) a2
    · have e : i = 12 := by omega
      subst e
      rw [if_pos i12e]
      exact ⟨n, rfl, F⟩
theorem N_find (R : ReW w p) (V : VP p) (Y : Sq x y) : ∃ n', fX3_find w n (zI x) (zI y) = some n' ∧ nF n' p x y (nr p x y 12) := by
  unfold fX3_find
  rw [qn_s]
  exact N_loop R V Y FU 0 _ (by omega) (FU_12 0) (show (-8 : Int32) = zI (-8) from zmone8)
theorem M_away (Q : ReM m p) (V : VP p) (h : i < 12) (hp : pP p i = true) (Y : Sq x y) : ∃ m', fX10_away m (zI i) (zI x) (zI y) = some m' ∧ m'.1 = m.1 ∧ m'.2.1 = m.2.1 ∧ m'.2.2 60 = m.2.2 60 ∧ m'.2.2 61 = m.2.2 61 ∧ m'.2.2 57 = zL (nT p i x y) ∧ m'.2.2 58 = zL (nB p i x y) := by
  obtain ⟨v1, v2, v3, v4, -⟩ := V.1 i h hp
  have s := sv_small V h hp Y.1 Y.2
  have sb := sq_bd V h hp
  have ab := nA_bd V h hp Y
  have l1 := zI_long (rI_s (a := pU p i - pX p i) (by omega) (by omega))
  have l2 := zI_long (rI_s (a := pV p i - pY p i) (by omega) (by omega))
  have l3 := zI_long (rI_s (a := x - pX p i) (by have := Y.1; omega) (by have := Y.1; omega))
  have l4 := zI_long (rI_s (a := y - pY p i) (by have := Y.2; omega) (by have := Y.2; omega))
  have l5 := zI_long (rI_s (a := x - pU p i) (by have := Y.1; omega) (by have := Y.1; omega))
  have l6 := zI_long (rI_s (a := y - pV p i) (by have := Y.2; omega) (by have := Y.2; omega))
  have ea : zL (x - pX p i) * zL (pU p i - pX p i) + zL (y - pY p i) * zL (pV p i - pY p i) = zL (nA p i x y) := by
    rw [zL_mul, zL_mul, zL_add]
    unfold nA
    rw [Int.mul_comm (x - pX p i), Int.mul_comm (y - pY p i)]
  have eq : zL (pU p i - pX p i) * zL (pU p i - pX p i) + zL (pV p i - pY p i) * zL (pV p i - pY p i) = zL (sq p i) := by
    rw [zL_mul, zL_mul, zL_add]; rfl
  have q2 : ReM (pkL m 58 1) p := Q
  unfold fX10_away
  rw [M_at3 Q h hp, qb1_s, M_at1 Q h hp, qb1_s, qn_s, M_at4 Q h hp, qb1_s, M_at2 Q h hp, qb1_s, qn_s, qb1_s, qn_s, qb1_s, qn_s, qn_s, qn_s, qn_s]
  rw [zI_sub, zI_sub, zI_sub, zI_sub, l1, l2, l3, l4, ea, eq]
  rw [M_at3 q2 h hp, M_at4 q2 h hp, M_side q2 h hp]
  simp only [zL0, cmp_gt, cmp_lt, zL_lt rL0 (rLs2 ab), zL_lt (rLs2 ab) (rLs2 (a := sq p i) (by omega))]
  by_cases c : 0 < nA p i x y
  · rw [if_pos c]
    by_cases d : nA p i x y < sq p i
    · rw [if_pos d, qb1_s, qn_s, zI_long (r7938 s), qn_s, qn_s]
      refine ⟨_, rfl, rfl, rfl, rfl, rfl, ?_, ?_⟩
      · rw [pL, if_neg (by decide), pL, if_pos rfl, zL_mul]
        unfold nT; rw [if_pos c, if_pos d]
      · rw [pL, if_pos rfl]
        unfold nB; rw [if_pos c, if_pos d]
    · rw [if_neg d, qb1_s, qn_s, qb1_s, qn_s, qn_s, zI_sub, zI_sub, l5, l6]
      refine ⟨_, rfl, rfl, rfl, rfl, rfl, ?_, ?_⟩
      · rw [pL, if_pos rfl, zL_mul, zL_mul, zL_add]
        unfold nT; rw [if_pos c, if_neg d]
      · rw [pL, if_neg (by decide), pL, if_pos rfl]
        unfold nB; rw [if_pos c, if_neg d]; rfl
  · rw [if_neg c, qn_s]
    refine ⟨_, rfl, rfl, rfl, rfl, rfl, ?_, ?_⟩
    · rw [pL, if_pos rfl, zL_mul, zL_mul, zL_add]
      unfold nT; rw [if_neg c]
    · rw [pL, if_neg (by decide), pL, if_pos rfl]
      unfold nB; rw [if_neg c]; rfl
theorem M_app_loop (V : VP p) (Y : Sq x y) : ∀ (k i : Nat) (m : Pk), i ≤ 12 → 12 - i < k → ReM m p → mN m p x y (nr p x y i) → ∃ m', fX10_approach_b17 k m (zI x) (zI y) (zI i) = some m' ∧ mSame m m' ∧ mN m' p x y (nr p x y 12) := by
  intro k
  induction k with
  | zero => intro i n _ h; omega
  | succ k ih =>
    intro i m hi hn Q F
    show ∃ m', fX10_approach_b17_s (fX10_approach_b17 k) m (zI x) (zI y) (zI i) = _ ∧ _
    unfold fX10_approach_b17_s
    by_cases h : i < 12
    · have es := nr_s (p := p) (x := x) (y := y) i
      have nxt : ∀ m1 : Pk, mSame m m1 → mN m1 p x y (nr p x y (i + 1)) → ∃ m', fX10_approach_b90 (fX10_approach_b17 k) m1 (zI x) (zI y) (zI i) = some m' ∧ mSame m m' ∧ mN m' p x y (nr p x y 12) := by
        intro m1 s1 f1
        unfold fX10_approach_b90
        rw [qn_s, ix_s]
        obtain ⟨m', e1, e2, e3⟩ := ih (i + 1) m1 (by omega) (by omega) (Q.same s1) f1
        exact ⟨m', e1, s1.tr e2, e3⟩
      rw [if_neg (i12a h), M_at0 Q h, qb1_s, one_b2]
      cases hp : pP p i with
      | false =>
        rw [if_neg (by decide)]
        rw [hp] at es
        exact nxt m (mSame.rf m) (by rw [es]; exact F)
      | true =>
        rw [if_pos rfl]
        rw [hp, Bool.true_and] at es
        obtain ⟨m1, a1, a2, a3, a4, a5, a6, a7⟩ := M_away Q V h hp Y
        rw [a1, qb1_s]
        have sm : mSame m m1 := ⟨a2, fun k _ _ => by rw [a3]⟩
        have take : nr p x y (i + 1) = some i → ∃ m', fX10_approach_b69 (fX10_approach_b17 k) m1 (zI x) (zI y) (zI i) = some m' ∧ mSame m m' ∧ mN m' p x y (nr p x y 12) := by
          intro hb
          unfold fX10_approach_b69
          rw [qn_s, qn_s, qn_s]
          refine nxt _ (sm.tr ⟨rfl, fun k _ k2 => ?_⟩) ?_
          · simp only [pI, pL2]
            rw [if_neg k2]
          · rw [hb]
            exact ⟨rfl, a6, a7⟩
        cases hf : nr p x y i with
        | none =>
          rw [hf] at F es
          rw [a3, show m.2.1 59 = zI (-1) from F, if_pos (by decide)]
          exact take es
        | some j =>
          rw [hf] at F es
          obtain ⟨f1, f2, f3⟩ := F
          obtain ⟨j1, j2⟩ := nr_ok hi j hf
          have b1 := nT_bd V h hp Y
          have b2 := nB_bd (x := x) (y := y) V h hp
          have b3 := nT_bd V j1 j2 Y
          have b4 := nB_bd (x := x) (y := y) V j1 j2
          rw [a3, f1, a4, a5, f2, f3, a6, a7, if_neg (ix_nn (by omega))]
          simp only [zL_mul, cmp_ge, zL_le (rLm b3 b2) (rLm b1 b4)]
          rw [clo_some] at es
          by_cases c : nT p j x y * nB p i x y ≤ nT p i x y * nB p j x y
          · rw [if_pos c]
            rw [decide_eq_false (by omega)] at es
            refine nxt m1 sm ?_
            rw [es]
            exact ⟨by rw [a3]; exact f1, by rw [a4]; exact f2, by rw [a5]; exact f3⟩
          · rw [if_neg c]
            rw [decide_eq_true (by omega)] at es
            exact take es
    · have e : i = 12 := by omega
      subst e
      rw [if_pos i12e]
      exact ⟨m, rfl, mSame.rf m, F⟩
theorem M_approach (Q : ReM m p) (V : VP p) (Y : Sq x y) : ∃ m', fX10_approach m (zI x) (zI y) = some m' ∧ mSame m m' ∧ mN m' p x y (nr p x y 12) := by
  unfold fX10_approach
  rw [qn_s, qn_s, qn_s]
  have s0 : mSame m (pkL (pkL (pkI m 59 (-1)) 60 0) 61 1) := ⟨rfl, fun k _ k2 => by simp only [pL2, pI]; rw [if_neg k2]⟩
  obtain ⟨m', e1, e2, e3⟩ := M_app_loop V Y FU 0 _ (by omega) (FU_12 0) (Q.same s0) (show (-1 : Int32) = zI (-1) from zm1)
  exact ⟨m', e1, s0.tr e2, e3⟩
theorem S_nearestWall (R : ReW w p) (Q : ReM m p) (V : VP p) (a1 a2 : Int32) : Ray2 (fX9_nearestWall t w n a1 a2) (fX10_nearestWall m a1 a2) m := by
  unfold fX9_nearestWall fX10_nearestWall
  rw [C_isBadPoint, M_isPoint, qb1_s, qb1_s]
  cases h1 : (okc a1 && okc a2) with
  | false => exact ⟨_, _, _, rfl, rfl, mSame.rf m⟩
  | true =>
    rw [ifNT, ifT]
    simp only [Bool.and_eq_true] at h1
    obtain ⟨x, rfl, g1⟩ := okc_z h1.1
    obtain ⟨y, rfl, g2⟩ := okc_z h1.2
    obtain ⟨n1, e1, e2⟩ := N_find (n := n) R V ⟨g1, g2⟩
    obtain ⟨m1, f1, f2, f3⟩ := M_approach Q V ⟨g1, g2⟩
    unfold fX3_wall
    rw [e1, qb1_s, qb1_s, f1, qb1_s]
    cases hf : nr p x y 12 with
    | none =>
      rw [hf] at e2 f3
      rw [show n1.2.1 1 = zI (-8) from e2, show m1.2.1 59 = zI (-1) from f3, if_neg (by decide), zmone8]
      exact ⟨_, _, _, rfl, rfl, f2⟩
    | some j =>
      rw [hf] at e2 f3
      have hj := (nr_p hf).1
      rw [e2.1, f3.1, if_pos (by rw [z0, zI_le r0 (rI_s (by omega) (by omega))]; omega)]
      exact ⟨_, _, _, rfl, rfl, f2⟩
def Ray2L (c : Option (Int64 × Pk)) (d : Option (Int64 × Pk)) (m : Pk) : Prop := ∃ (v : Int64) (r' m' : Pk), c = some (v, r') ∧ d = some (v, m') ∧ mSame m m'
theorem M_lowestL {d b : Nat} (b0 : 0 < b) (hd : d < 1073741824) (hb : b < 131072) (a : Int32) (m : Pk) : (qb1 (fX10_divisor (zI (d : Int)) (zI (b : Int))) (fun x48 => if a = 0 then qnzl (Int32.toInt64 x48) (some (zL (d : Int) / Int32.toInt64 x48, m)) else qnzl (Int32.toInt64 x48) (some (zL (b : Int) / Int32.toInt64 x48, m)))) = some (zL (((if a = 0 then d else b) / Nat.gcd d b : Nat) : Int), m) := by
  have gp : 0 < Nat.gcd d b := Nat.gcd_pos_of_pos_right d b0
  have gl : Nat.gcd d b ≤ b := Nat.le_of_dvd b0 (Nat.gcd_dvd_right d b)
  have n2 : ¬ zL ((Nat.gcd d b : Nat) : Int) = 0 := by
    rw [zL0, zL_eq (rL_n (by omega)) rL0]; omega
  rw [M_gcd (a := (d : Int)) (b := (b : Int)) (by omega) (by omega), qb1_s, Int.natAbs_natCast, Int.natAbs_natCast, zI_long (rI_n (by omega)), qnzl_s n2, qnzl_s n2, nL_div (by omega) (by omega), nL_div (by omega) (by omega)]
  by_cases c : a = 0
  · rw [if_pos c, if_pos c]
  · rw [if_neg c, if_neg c]
theorem S_clearance (R : ReW w p) (Q : ReM m p) (V : VP p) (a1 a2 a3 : Int32) : Ray2L (fX9_clearance t w n a1 a2 a3) (fX10_clearance m a1 a2 a3) m := by
  unfold fX9_clearance fX10_clearance
  rw [C_isBadPoint, M_isPoint, qb1_s, qb1_s]
  cases h1 : (okc a1 && okc a2) with
  | false => exact ⟨_, _, _, rfl, rfl, mSame.rf m⟩
  | true =>
    rw [ifNT, ifT, C_isOutside, qb1_s]
    cases h3 : (decide (0 ≤ a3) && decide (a3 ≤ 1)) with
    | false =>
      rw [ifNF]
      refine ⟨_, _, _, rfl, ?_, mSame.rf m⟩
      rcases no1 h3 with c | c
      · rw [if_pos c]
      · rw [if_neg (nlt.mpr (c1p c)), if_neg (nle.mpr c)]
    | true =>
      simp only [Bool.and_eq_true, decide_eq_true_eq] at h3
      rw [ifNT, if_neg (nlt.mpr h3.1), if_pos h3.2]
      simp only [Bool.and_eq_true] at h1
      obtain ⟨x, rfl, g1⟩ := okc_z h1.1
      obtain ⟨y, rfl, g2⟩ := okc_z h1.2
      have Y : Sq x y := ⟨g1, g2⟩
      obtain ⟨n1, e1, e2⟩ := N_find (n := n) R V Y
      obtain ⟨m1, f1, f2, f3⟩ := M_approach Q V Y
      unfold fX3_wall fX3_top fX3_bottom
      rw [e1, qb1_s, qb1_s, qb1_s, qb1_s, f1, qb1_s]
      cases hf : nr p x y 12 with
      | none =>
        rw [hf] at e2 f3
        rw [show n1.2.1 1 = zI (-8) from e2, show m1.2.1 59 = zI (-1) from f3, if_pos zmone8.symm, if_neg (by decide)]
        exact ⟨_, _, _, rfl, rfl, f2⟩
      | some j =>
        rw [hf] at e2 f3
        obtain ⟨j1, hp⟩ := nr_p hf
        obtain ⟨k3, k4, k5⟩ := e2
        obtain ⟨l3, l4, l5⟩ := f3
        have b1 := nT_bd V j1 hp Y
        have b2 := nB_bd (x := x) (y := y) V j1 hp
        obtain ⟨d, ed⟩ : ∃ d : Nat, nT p j x y = (d : Int) := ⟨(nT p j x y).toNat, by omega⟩
        obtain ⟨b, eb⟩ : ∃ b : Nat, nB p j x y = (b : Int) := ⟨(nB p j x y).toNat, by omega⟩
        rw [ed] at b1 k4 l4
        rw [eb] at b2 k5 l5
        have hd : d < 1073741824 := by omega
        have hb : b < 131072 := by omega
        have b0 : 0 < b := by omega
        rw [k3, k4, k5, l3, l4, l5]
        rw [if_neg (by rw [zmone8, zI_eq (rI_s (by omega) (by omega)) (rI_s (by omega) (by omega))]; omega), if_pos (by rw [z0, zI_le r0 (rI_s (by omega) (by omega))]; omega)]
        rw [zL_int (a := (d : Int)) (rI_n (by omega)), zL_int (a := (b : Int)) (rI_n (by omega)), M_lowestL b0 hd hb, C_lowest b0 hd hb, qb1_s]
        exact ⟨_, _, _, rfl, rfl, f2⟩
end S
