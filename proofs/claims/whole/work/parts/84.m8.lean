/-! RAYS: wander, seenPoints, lookout -/
theorem lN_z (n : Nat) : lN n = zL n := rfl
theorem qnzl_s {β : Type} {y : Int64} {k : Option β} (h : ¬ y = 0) : qnzl y k = k := by unfold qnzl; rw [if_neg h]
theorem qnzi_s {β : Type} {y : Int32} {k : Option β} (h : ¬ y = 0) : qnzi y k = k := by unfold qnzi; rw [if_neg h]
def nx (s : Nat) : Nat := (1103515245 * s + 12345) % 2147483648
def rmv (s : Nat) : Int := (s / 65536 % 7 : Nat) - 3
theorem nx_lt (s : Nat) : nx s < 2147483648 := Nat.mod_lt _ (by decide)
theorem rmv_bd (s : Nat) : -3 ≤ rmv s ∧ rmv s ≤ 3 := by
  unfold rmv
  have := Nat.mod_lt (s / 65536) (show 0 < 7 by decide)
  omega
theorem nx_e {s : Nat} (h : s < 2147483648) : (1103515245 * lN s + 12345) - (1103515245 * lN s + 12345) / 2147483648 * 2147483648 = lN (nx s) := by
  rw [show (1103515245 : Int64) = lN 1103515245 from rfl, show (12345 : Int64) = lN 12345 from rfl, show (2147483648 : Int64) = lN 2147483648 from rfl, lN_mul, lN_add, pk_lRem (by omega) (by decide) (by decide)]
  rfl
theorem rmv_e {s : Nat} (h : s < 2147483648) : Int64.toInt32 ((lN s / 65536) - (lN s / 65536) / 7 * 7) - 3 = zI (rmv s) := by
  rw [show (65536 : Int64) = lN 65536 from rfl, show (7 : Int64) = lN 7 from rfl, pk_lDiv (by omega) (by decide) (by decide), pk_lRem (by omega) (by decide) (by decide), lN_i, show (3 : Int32) = zI 3 from rfl, zI_nI, zI_sub]
  rfl
theorem C_next {s : Nat} (h : s < 2147483648) : fX9_nextState (lN s) = some (lN (nx s)) := by
  unfold fX9_nextState
  rw [qnzl_s (by decide), nx_e h]
theorem C_move {s : Nat} (h : s < 2147483648) : fX9_randomMove (lN s) = some (zI (rmv s)) := by
  unfold fX9_randomMove
  rw [qnzl_s (by decide), qnzl_s (by decide), rmv_e h]
theorem okc_bd {a : Int} (h : -1000 ≤ a ∧ a ≤ 1000) (g : okc (zI a) = true) : 0 ≤ a ∧ a ≤ 63 := by
  unfold okc at g
  simp only [Bool.and_eq_true, decide_eq_true_eq, z0, zI_le r0 (rI_s (a := a) (by omega) (by omega)), show (63 : Int32) = zI 63 from rfl, zI_le (rI_s (a := a) (by omega) (by omega)) (rI_s (a := 63) (by omega) (by omega))] at g
  exact g
section S
variable {p : Pln} {t w r m : Pk} {x y dx dy : Int}
theorem wlk_pt (g1 : 0 ≤ x ∧ x ≤ 63) (g2 : 0 ≤ y ∧ y ≤ 63) (g3 : -8 ≤ dx ∧ dx ≤ 8) (g4 : -8 ≤ dy ∧ dy ≤ 8) : ∃ a b : Nat, a ≤ 63 ∧ b ≤ 63 ∧ wlk p x y dx dy = 64 * (a : Int) + (b : Int) := by
  unfold wlk
  have ok : ∀ ex ey : Int, (-8 ≤ ex ∧ ex ≤ 8) → (-8 ≤ ey ∧ ey ≤ 8) → go p x y ex ey = true → (0 ≤ x + ex ∧ x + ex ≤ 63) ∧ (0 ≤ y + ey ∧ y + ey ≤ 63) := by
    intro ex ey h1 h2 h
    unfold go at h
    simp only [Bool.and_eq_true] at h
    exact ⟨okc_bd (by omega) h.1.1, okc_bd (by omega) h.1.2⟩
  cases h1 : go p x y dx dy with
  | true =>
    have := ok dx dy g3 g4 h1
    refine ⟨(x + dx).toNat, (y + dy).toNat, by omega, by omega, ?_⟩
    rw [if_pos rfl, Int.toNat_of_nonneg (by omega), Int.toNat_of_nonneg (by omega)]
  | false =>
    rw [if_neg (by decide)]
    cases h2 : go p x y dx 0 with
    | true =>
      have := ok dx 0 g3 (by omega) h2
      refine ⟨(x + dx).toNat, y.toNat, by omega, by omega, ?_⟩
      rw [if_pos rfl, Int.toNat_of_nonneg (by omega), Int.toNat_of_nonneg (by omega)]
    | false =>
      rw [if_neg (by decide)]
      cases h3 : go p x y 0 dy with
      | true =>
        have := ok 0 dy (by omega) g4 h3
        refine ⟨x.toNat, (y + dy).toNat, by omega, by omega, ?_⟩
        rw [if_pos rfl, Int.toNat_of_nonneg (by omega), Int.toNat_of_nonneg (by omega)]
      | false =>
        refine ⟨x.toNat, y.toNat, by omega, by omega, ?_⟩
        rw [if_neg (by decide), Int.toNat_of_nonneg (by omega), Int.toNat_of_nonneg (by omega)]
theorem S_wander_loop (R : ReW w p) (V : VP p) {N : Nat} (hN : N ≤ 60) : ∀ (n c a b s : Nat) (r m : Pk), c ≤ N → N - c < n → a ≤ 63 → b ≤ 63 → s < 2147483648 → ReM m p → Ray2 (fX9_wander_b40 t w n r (zI N) (lN s) (zI (64 * (a : Int) + b)) (zI c)) (fX10_wander_b43 n m (zI N) (zI (64 * (a : Int) + b)) (lN s) (zI c)) m := by
  intro n
  induction n with
  | zero => intro c a b s r m _ h; omega
  | succ n ih =>
    intro c a b s r m hc hn ha hb hs Q
    show Ray2 (fX9_wander_b40_s (fX9_wander_b40 t w n) t w r (zI N) (lN s) (zI (64 * (a : Int) + b)) (zI c)) (fX10_wander_b43_s (fX10_wander_b43 n) m (zI N) (zI (64 * (a : Int) + b)) (lN s) (zI c)) m
    unfold fX9_wander_b40_s fX10_wander_b43_s
    by_cases h : c < N
    · rw [if_neg (ix_a h (by omega)), if_neg (ix_a h (by omega))]
      have n1 := nx_lt s
      have n2 := nx_lt (nx s)
      have d1 := rmv_bd (nx s)
      have d2 := rmv_bd (nx (nx s))
      have eP : zI (64 * (a : Int) + b) = nI (64 * a + b) := by rw [zI_nI]; rfl
      have e1 : zI (64 * (a : Int) + b) / 64 = zI a := by
        rw [eP, show (64 : Int32) = nI 64 from rfl, pk_div (by omega) (by decide) (by decide), show (64 * a + b) / 64 = a by omega]; rfl
      have e2 : zI (64 * (a : Int) + b) - zI (a : Int) * 64 = zI b := by
        rw [show (64 : Int32) = zI 64 from rfl, zI_mul, zI_sub, show 64 * (a : Int) + b - a * 64 = b by omega]
      rw [C_next hs, qb1_s, C_move n1, qb1_s, C_next n1, qb1_s, C_move n2, qb1_s]
      simp only [qnzl_s (show ¬ (2147483648 : Int64) = 0 by decide), qnzl_s (show ¬ (65536 : Int64) = 0 by decide), qnzl_s (show ¬ (7 : Int64) = 0 by decide), qnzi_s (show ¬ (64 : Int32) = 0 by decide), qn_s, nx_e hs, nx_e n1, rmv_e n1, rmv_e n2, e1, e2]
      obtain ⟨r1, f1⟩ := C_place (t := t) (r := r) (x := a) (y := b) (dx := rmv (nx s)) (dy := rmv (nx (nx s))) R V (by omega) (by omega) (by omega) (by omega)
      obtain ⟨m1, k1, s1⟩ := M_walked (x := a) (y := b) (dx := rmv (nx s)) (dy := rmv (nx (nx s))) Q V (by omega) (by omega) (by omega) (by omega)
      obtain ⟨a2, b2', l1, l2, l3⟩ := wlk_pt (p := p) (x := a) (y := b) (dx := rmv (nx s)) (dy := rmv (nx (nx s))) (by omega) (by omega) (by omega) (by omega)
      rw [f1, qb2_s, k1, qb2_s, ix_s, l3]
      obtain ⟨v, r', m', g1, g2, g3⟩ := ih (c + 1) a2 b2' (nx (nx s)) r1 m1 (by omega) (by omega) l1 l2 n2 (Q.same s1)
      exact ⟨v, r', m', g1, g2, s1.tr g3⟩
    · have e : c = N := by omega
      subst e
      rw [if_pos (Int32.le_refl _), if_pos (Int32.le_refl _)]
      exact ⟨_, _, _, rfl, rfl, mSame.rf m⟩
theorem S_wander (R : ReW w p) (Q : ReM m p) (V : VP p) (a1 a2 a3 a4 : Int32) : Ray2 (fX9_wander t w r a1 a2 a3 a4) (fX10_wander m a1 a2 a3 a4) m := by
  unfold fX9_wander fX10_wander
  rw [C_isBadPoint, M_isPoint, qb1_s, qb1_s, C_isOutside]
  cases h1 : (okc a1 && okc a2) with
  | false => exact ⟨_, _, _, rfl, rfl, mSame.rf m⟩
  | true =>
    rw [ifNT, ifT]
    by_cases c3 : a3 < 0
    · rw [if_pos c3, if_pos c3]
      exact ⟨_, _, _, rfl, rfl, mSame.rf m⟩
    · rw [if_neg c3, if_neg c3, qb1_s]
      cases h4 : (decide (1 ≤ a4) && decide (a4 ≤ 60)) with
      | false =>
        rw [ifNF]
        refine ⟨_, _, _, rfl, ?_, mSame.rf m⟩
        simp only [Bool.and_eq_false_iff, decide_eq_false_iff_not] at h4
        by_cases c1 : a4 < 1
        · rw [if_pos c1]
        · rw [if_neg c1, if_neg (by grind)]
      | true =>
        simp only [Bool.and_eq_true, decide_eq_true_eq] at h4
        rw [ifNT, if_neg (by grind), if_pos h4.2]
        simp only [Bool.and_eq_true] at h1
        obtain ⟨x, rfl, g1⟩ := okc_z h1.1
        obtain ⟨y, rfl, g2⟩ := okc_z h1.2
        obtain ⟨sN, hs, rfl⟩ := nI_of c3
        have h41 : (1 : Int) ≤ a4.toInt := Int32.le_iff_toInt_le.mp h4.1
        have h42 : a4.toInt ≤ (60 : Int) := Int32.le_iff_toInt_le.mp h4.2
        have e4 : a4 = zI ((a4.toInt.toNat : Nat) : Int) := by rw [Int.toNat_of_nonneg (by omega), zI_self]
        rw [e4]
        have ex : x = ((x.toNat : Nat) : Int) := (Int.toNat_of_nonneg g1.1).symm
        have ey : y = ((y.toNat : Nat) : Int) := (Int.toNat_of_nonneg g2.1).symm
        have ep : (64 : Int32) * zI x + zI y = zI (64 * x + y) := by rw [show (64 : Int32) = zI 64 from rfl, zI_mul, zI_add]
        simp only [qn_s, C_pointCode, qb1_s, ep, nI_l hs]
        rw [ex, ey]
        exact S_wander_loop R V (by omega) FU 0 x.toNat y.toNat sN r m (by omega) (Nat.lt_of_le_of_lt (Nat.sub_le _ _) (Nat.lt_of_le_of_lt (show _ ≤ 60 by omega) (by decide))) (by omega) (by omega) hs Q
end S
