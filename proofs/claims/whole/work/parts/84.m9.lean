/-! RAYS: seenPoints, lookout -/
section S
variable {p : Pln} {t w r m : Pk} {x y : Int}
/-- the point k of the 64 is seen; how many of the first k are -/
def sn (p : Pln) (x y : Int) (k : Nat) : Bool := seen p x y (8 * ((k / 8 : Nat) : Int) - x) (8 * ((k % 8 : Nat) : Int) - y)
def cn (p : Pln) (x y : Int) : Nat → Nat
  | 0 => 0
  | k + 1 => cn p x y k + if sn p x y k then 1 else 0
theorem cn_le : ∀ k : Nat, cn p x y k ≤ k
  | 0 => Nat.le_refl 0
  | k + 1 => by
    have := cn_le k
    unfold cn
    split <;> omega
def eyeAt (r : Pk) (p : Pln) (x y : Int) : Prop := r.2.1 2 = zI x ∧ r.2.1 3 = zI y ∧ rOp r p x y
theorem C_cnt_in (R : ReW w p) (V : VP p) (g1 : 0 ≤ x ∧ x ≤ 63) (g2 : 0 ≤ y ∧ y ≤ 63) {i : Nat} (hi : i < 8) (rec14 : Pk → Int32 → Int32 → Int32 → Int32 → Option (Int32 × Pk)) : ∀ (n j : Nat) (r : Pk), j ≤ 8 → 8 - j < n → eyeAt r p x y → ∃ r', fX9_countSeenFrom_b24 rec14 t w n r (zI x) (zI y) (zI (cn p x y (8 * i + j) : Nat)) (zI i) (zI j) = rec14 r' (zI x) (zI y) (zI (cn p x y (8 * (i + 1)) : Nat)) (zI ((i + 1 : Nat) : Int)) ∧ eyeAt r' p x y := by
  intro n
  induction n with
  | zero => intro j r _ h; omega
  | succ n ih =>
    intro j r hj hn A
    show ∃ r', fX9_countSeenFrom_b24_s rec14 (fX9_countSeenFrom_b24 rec14 t w n) t w r (zI x) (zI y) (zI (cn p x y (8 * i + j) : Nat)) (zI i) (zI j) = _ ∧ _
    unfold fX9_countSeenFrom_b24_s
    by_cases h : j < 8
    · have hn1 : ¬ (8 : Int32) ≤ zI (j : Int) := ix_a (n := 8) h (by decide)
      rw [if_neg hn1]
      have e1 : zI (i : Int) * 8 - zI x = zI (8 * (i : Int) - x) := by rw [show (8 : Int32) = zI 8 from rfl, zI_mul, zI_sub, Int.mul_comm]
      have e2 : zI (j : Int) * 8 - zI y = zI (8 * (j : Int) - y) := by rw [show (8 : Int32) = zI 8 from rfl, zI_mul, zI_sub, Int.mul_comm]
      rw [e1, e2]
      obtain ⟨r1, f1, f2, f3, f4⟩ := C_sees (t := t) (dx := 8 * (i : Int) - x) (dy := 8 * (j : Int) - y) R V ⟨g1, g2, by omega, by omega⟩ A.1 A.2.1 A.2.2
      have es : sn p x y (8 * i + j) = seen p x y (8 * (i : Int) - x) (8 * (j : Int) - y) := by
        unfold sn
        rw [show (8 * i + j) / 8 = i by omega, show (8 * i + j) % 8 = j by omega]
      rw [f1, qb2_s]
      unfold fX9_countSeenFrom_b55
      simp only [qn_s, ix_s]
      obtain ⟨r', a1, a2⟩ := ih (j + 1) r1 (by omega) (by omega) ⟨f2, f3, f4⟩
      have ec : cn p x y (8 * i + (j + 1)) = cn p x y (8 * i + j) + if sn p x y (8 * i + j) then 1 else 0 := rfl
      rw [ec, es] at a1
      cases hs : seen p x y (8 * (i : Int) - x) (8 * (j : Int) - y) with
      | false =>
        rw [hs, if_neg (by decide), Nat.add_zero] at a1
        rw [ifF]
        exact ⟨r', a1, a2⟩
      | true =>
        rw [hs, if_pos rfl] at a1
        rw [ifT]
        exact ⟨r', a1, a2⟩
    · have e : j = 8 := by omega
      subst e
      have hn1 : (8 : Int32) ≤ zI ((8 : Nat) : Int) := by decide
      rw [if_pos hn1]
      simp only [qn_s, ix_s]
      exact ⟨r, by rw [show 8 * i + 8 = 8 * (i + 1) by omega], A⟩
theorem C_cnt_out (R : ReW w p) (V : VP p) (g1 : 0 ≤ x ∧ x ≤ 63) (g2 : 0 ≤ y ∧ y ≤ 63) : ∀ (n i : Nat) (r : Pk), i ≤ 8 → 8 - i < n → eyeAt r p x y → ∃ r', fX9_countSeenFrom_b14 t w n r (zI x) (zI y) (zI (cn p x y (8 * i) : Nat)) (zI i) = some (zI (cn p x y 64 : Nat), r') := by
  intro n
  induction n with
  | zero => intro i r _ h; omega
  | succ n ih =>
    intro i r hi hn A
    show ∃ r', fX9_countSeenFrom_b14_s (fX9_countSeenFrom_b14 t w n) t w r (zI x) (zI y) (zI (cn p x y (8 * i) : Nat)) (zI i) = _
    unfold fX9_countSeenFrom_b14_s
    by_cases h : i < 8
    · have hn1 : ¬ (8 : Int32) ≤ zI (i : Int) := ix_a (n := 8) h (by decide)
      rw [if_neg hn1]
      obtain ⟨r1, a1, a2⟩ := C_cnt_in (t := t) R V g1 g2 h (fX9_countSeenFrom_b14 t w n) FU 0 r (by omega) (by decide) A
      obtain ⟨r', b1⟩ := ih (i + 1) r1 (by omega) (by omega) a2
      exact ⟨r', a1.trans b1⟩
    · have e : i = 8 := by omega
      subst e
      have hn1 : (8 : Int32) ≤ zI ((8 : Nat) : Int) := by decide
      rw [if_pos hn1]
      exact ⟨r, rfl⟩
theorem C_countSeen (R : ReW w p) (V : VP p) (g1 : 0 ≤ x ∧ x ≤ 63) (g2 : 0 ≤ y ∧ y ≤ 63) : ∃ r', fX9_countSeenFrom t w r (zI x) (zI y) = some (zI (cn p x y 64 : Nat), r') := by
  unfold fX9_countSeenFrom
  obtain ⟨r1, e1, e2, e3, e4⟩ := R_standAt (r := r) R V g1 g2
  rw [e1, qb1_s]
  exact C_cnt_out R V g1 g2 FU 0 r1 (by omega) (by decide) ⟨e2, e3, e4⟩
theorem k8 (k : Nat) (h : k < 2000000) : zI (k : Int) / 8 = zI ((k / 8 : Nat) : Int) ∧ zI (k : Int) - zI ((k / 8 : Nat) : Int) * 8 = zI ((k % 8 : Nat) : Int) := by
  constructor
  · rw [← zI_nI, show (8 : Int32) = nI 8 from rfl, pk_div (by omega) (by decide) (by decide)]; rfl
  · rw [show (8 : Int32) = zI 8 from rfl, zI_mul, zI_sub, show (k : Int) - ((k / 8 : Nat) : Int) * 8 = ((k % 8 : Nat) : Int) by omega]
theorem M_seen_loop (V : VP p) (g1 : 0 ≤ x ∧ x ≤ 63) (g2 : 0 ≤ y ∧ y ≤ 63) : ∀ (n k : Nat) (m : Pk), k ≤ 64 → 64 - k < n → ReM m p → ∃ m', fX10_seen_b5 n m (zI x) (zI y) (zI (cn p x y k : Nat)) (zI k) = some (zI (cn p x y 64 : Nat), m') ∧ mSame m m' := by
  intro n
  induction n with
  | zero => intro k m _ h; omega
  | succ n ih =>
    intro k m hk hn Q
    show ∃ m', fX10_seen_b5_s (fX10_seen_b5 n) m (zI x) (zI y) (zI (cn p x y k : Nat)) (zI k) = _ ∧ _
    unfold fX10_seen_b5_s
    by_cases h : k < 64
    · have hn1 : ¬ (64 : Int32) ≤ zI (k : Int) := ix_a (n := 64) h (by decide)
      rw [if_neg hn1]
      have nxt : ∀ (m1 : Pk) (b : Bool), mSame m m1 → b = sn p x y k → ∃ m', fX10_seen_b5 n m1 (zI x) (zI y) (zI (cn p x y k : Nat) + b2 b) (zI ((k + 1 : Nat) : Int)) = some (zI (cn p x y 64 : Nat), m') ∧ mSame m m' := by
        intro m1 b s1 hb
        obtain ⟨m', a1, a2⟩ := ih (k + 1) m1 (by omega) (by omega) (Q.same s1)
        refine ⟨m', ?_, s1.tr a2⟩
        rw [← a1]
        congr 1
        have ec : cn p x y (k + 1) = cn p x y k + if sn p x y k then 1 else 0 := rfl
        rw [ec, hb]
        cases sn p x y k with
        | false => exact Int32.add_zero _
        | true => exact ix_s _
      simp only [qnzi_s (show ¬ (8 : Int32) = 0 by decide), qn_s, (k8 k (by omega)).1, (k8 k (by omega)).2]
      have e1 : (8 : Int32) * zI ((k / 8 : Nat) : Int) = zI (8 * ((k / 8 : Nat) : Int)) := by rw [show (8 : Int32) = zI 8 from rfl, zI_mul]
      have e2 : (8 : Int32) * zI ((k % 8 : Nat) : Int) = zI (8 * ((k % 8 : Nat) : Int)) := by rw [show (8 : Int32) = zI 8 from rfl, zI_mul]
      rw [e1, e2]
      simp only [zI_eq (rI_s (a := 8 * ((k / 8 : Nat) : Int)) (by omega) (by omega)) (rI_s (a := x) (by omega) (by omega)), zI_eq (rI_s (a := 8 * ((k % 8 : Nat) : Int)) (by omega) (by omega)) (rI_s (a := y) (by omega) (by omega))]
      have other : ¬ (8 * ((k / 8 : Nat) : Int) = x ∧ 8 * ((k % 8 : Nat) : Int) = y) → ∃ m', fX10_seen_b44 (fX10_seen_b5 n) m (zI x) (zI y) (zI (cn p x y k : Nat)) (zI k) (zI (8 * ((k / 8 : Nat) : Int))) (zI (8 * ((k % 8 : Nat) : Int))) = some (zI (cn p x y 64 : Nat), m') ∧ mSame m m' := by
        intro hne
        unfold fX10_seen_b44
        obtain ⟨m1, f1, f2, -⟩ := M_isBlocked (x2 := 8 * ((k / 8 : Nat) : Int)) (y2 := 8 * ((k % 8 : Nat) : Int)) Q V ⟨g1, g2, by omega, by omega⟩
        have es : sn p x y k = !blkN p x y (8 * ((k / 8 : Nat) : Int) - x) (8 * ((k % 8 : Nat) : Int) - y) 12 := by
          unfold sn seen
          have : (decide (8 * ((k / 8 : Nat) : Int) - x = 0) && decide (8 * ((k % 8 : Nat) : Int) - y = 0)) = false := by
            simp only [Bool.and_eq_false_iff, decide_eq_false_iff_not]
            omega
          rw [this]
          rfl
        rw [f1, qb2_s]
        unfold fX10_seen_b63 fX10_seen_b65
        simp only [qn_s, ix_s]
        cases hb : blkN p x y (8 * ((k / 8 : Nat) : Int) - x) (8 * ((k % 8 : Nat) : Int) - y) 12 with
        | false =>
          rw [ifF]
          have g := nxt m1 true f2 (by rw [es, hb]; rfl)
          rwa [show b2 true = (1 : Int32) from rfl, ix_s] at g
        | true =>
          rw [ifT]
          exact nxt m1 false f2 (by rw [es, hb]; rfl)
      by_cases c1 : 8 * ((k / 8 : Nat) : Int) = x
      · rw [if_pos c1]
        by_cases c2 : 8 * ((k % 8 : Nat) : Int) = y
        · rw [if_pos c2]
          unfold fX10_seen_b65
          simp only [qn_s, ix_s]
          have es : sn p x y k = false := by
            unfold sn seen
            have : (decide (8 * ((k / 8 : Nat) : Int) - x = 0) && decide (8 * ((k % 8 : Nat) : Int) - y = 0)) = true := by
              simp only [Bool.and_eq_true, decide_eq_true_eq]
              omega
            rw [this]
            rfl
          have := nxt m false (mSame.rf m) es.symm
          rwa [show b2 false = 0 from rfl, Int32.add_zero] at this
        · rw [if_neg c2]
          exact other (fun h => c2 h.2)
      · rw [if_neg c1]
        exact other (fun h => c1 h.1)
    · have e : k = 64 := by omega
      subst e
      have hn1 : (64 : Int32) ≤ zI ((64 : Nat) : Int) := by decide
      rw [if_pos hn1]
      exact ⟨m, rfl, mSame.rf m⟩
theorem M_seen (Q : ReM m p) (V : VP p) (g1 : 0 ≤ x ∧ x ≤ 63) (g2 : 0 ≤ y ∧ y ≤ 63) : ∃ m', fX10_seen m (zI x) (zI y) = some (zI (cn p x y 64 : Nat), m') ∧ mSame m m' := by
  unfold fX10_seen
  exact M_seen_loop V g1 g2 FU 0 m (by omega) (by decide) Q
theorem S_seenPoints (R : ReW w p) (Q : ReM m p) (V : VP p) (a1 a2 : Int32) : Ray2 (fX9_seenPoints t w r a1 a2) (fX10_seenPoints m a1 a2) m := by
  unfold fX9_seenPoints fX10_seenPoints
  rw [C_isBadPoint, M_isPoint, qb1_s, qb1_s]
  cases h1 : (okc a1 && okc a2) with
  | false => exact ⟨_, _, _, rfl, rfl, mSame.rf m⟩
  | true =>
    rw [ifNT, ifT]
    simp only [Bool.and_eq_true] at h1
    obtain ⟨x, rfl, g1⟩ := okc_z h1.1
    obtain ⟨y, rfl, g2⟩ := okc_z h1.2
    obtain ⟨r1, e1⟩ := C_countSeen (t := t) (r := r) R V g1 g2
    obtain ⟨m1, f1, s1⟩ := M_seen Q V g1 g2
    rw [e1, qb2_s, f1, qb2_s]
    exact ⟨_, _, _, rfl, rfl, s1⟩
/-- the best of the first k points, and what it sees -/
def lb (p : Pln) : Nat → Int × Int
  | 0 => (0, -1)
  | k + 1 => if (cn p (8 * ((k / 8 : Nat) : Int)) (8 * ((k % 8 : Nat) : Int)) 64 : Int) ≤ (lb p k).2 then lb p k else (64 * (8 * ((k / 8 : Nat) : Int)) + 8 * ((k % 8 : Nat) : Int), (cn p (8 * ((k / 8 : Nat) : Int)) (8 * ((k % 8 : Nat) : Int)) 64 : Int))
theorem lb_bd (p : Pln) : ∀ k : Nat, -1 ≤ (lb p k).2 ∧ (lb p k).2 ≤ 64
  | 0 => by unfold lb; exact ⟨Int.le_refl _, by decide⟩
  | k + 1 => by
    have := lb_bd p k
    have c := cn_le (p := p) (x := 8 * ((k / 8 : Nat) : Int)) (y := 8 * ((k % 8 : Nat) : Int)) 64
    unfold lb
    split
    · exact this
    · dsimp only; omega
theorem C_lk_in (R : ReW w p) (V : VP p) {i : Nat} (hi : i < 8) (a : Int32) (rec19 : Pk → Int32 → Int32 → Int32 → Int32 → Option (Int32 × Pk)) : ∀ (n j : Nat) (r : Pk), j ≤ 8 → 8 - j < n → ∃ r', fX9_lookout_b29 rec19 t w n r a (zI (lb p (8 * i + j)).1) (zI (lb p (8 * i + j)).2) (zI i) (zI j) = rec19 r' a (zI (lb p (8 * (i + 1))).1) (zI (lb p (8 * (i + 1))).2) (zI ((i + 1 : Nat) : Int)) := by
  intro n
  induction n with
  | zero => intro j r _ h; omega
  | succ n ih =>
    intro j r hj hn
    show ∃ r', fX9_lookout_b29_s rec19 (fX9_lookout_b29 rec19 t w n) t w r a (zI (lb p (8 * i + j)).1) (zI (lb p (8 * i + j)).2) (zI i) (zI j) = _
    unfold fX9_lookout_b29_s
    by_cases h : j < 8
    · have hn1 : ¬ (8 : Int32) ≤ zI (j : Int) := ix_a (n := 8) h (by decide)
      rw [if_neg hn1]
      have e1 : zI (i : Int) * 8 = zI (8 * (i : Int)) := by rw [show (8 : Int32) = zI 8 from rfl, zI_mul, Int.mul_comm]
      have e2 : zI (j : Int) * 8 = zI (8 * (j : Int)) := by rw [show (8 : Int32) = zI 8 from rfl, zI_mul, Int.mul_comm]
      rw [e1, e2]
      obtain ⟨r1, f1⟩ := C_countSeen (t := t) (r := r) (x := 8 * (i : Int)) (y := 8 * (j : Int)) R V (by omega) (by omega)
      have c := cn_le (p := p) (x := 8 * (i : Int)) (y := 8 * (j : Int)) 64
      have lbd := lb_bd p (8 * i + j)
      have el : lb p (8 * i + (j + 1)) = if (cn p (8 * (i : Int)) (8 * (j : Int)) 64 : Int) ≤ (lb p (8 * i + j)).2 then lb p (8 * i + j) else (64 * (8 * (i : Int)) + 8 * (j : Int), (cn p (8 * (i : Int)) (8 * (j : Int)) 64 : Int)) := by
        show lb p (8 * i + j + 1) = _
        unfold lb
        rw [show (8 * i + j) / 8 = i by omega, show (8 * i + j) % 8 = j by omega]
        cases hq : 8 * i + j <;> rfl
      rw [f1, qb2_s]
      unfold fX9_lookout_b75
      simp only [C_pointCode, qb1_s, qn_s, ix_s, zI_le (rI_s (a := (cn p (8 * (i : Int)) (8 * (j : Int)) 64 : Int)) (by omega) (by omega)) (rI_s (a := (lb p (8 * i + j)).2) (by omega) (by omega))]
      obtain ⟨r', a1⟩ := ih (j + 1) r1 (by omega) (by omega)
      rw [el] at a1
      by_cases hc : (cn p (8 * (i : Int)) (8 * (j : Int)) 64 : Int) ≤ (lb p (8 * i + j)).2
      · rw [if_pos hc] at a1 ⊢
        exact ⟨r', a1⟩
      · rw [if_neg hc] at a1 ⊢
        exact ⟨r', a1⟩
    · have e : j = 8 := by omega
      subst e
      have hn1 : (8 : Int32) ≤ zI ((8 : Nat) : Int) := by decide
      rw [if_pos hn1]
      simp only [qn_s, ix_s]
      exact ⟨r, by rw [show 8 * i + 8 = 8 * (i + 1) by omega]⟩
theorem C_lk_out (R : ReW w p) (V : VP p) (a : Int32) : ∀ (n i : Nat) (r : Pk), i ≤ 8 → 8 - i < n → ∃ r', fX9_lookout_b19 t w n r a (zI (lb p (8 * i)).1) (zI (lb p (8 * i)).2) (zI i) = some (if a = 0 then zI (lb p 64).1 else zI (lb p 64).2, r') := by
  intro n
  induction n with
  | zero => intro i r _ h; omega
  | succ n ih =>
    intro i r hi hn
    show ∃ r', fX9_lookout_b19_s (fX9_lookout_b19 t w n) t w r a (zI (lb p (8 * i)).1) (zI (lb p (8 * i)).2) (zI i) = _
    unfold fX9_lookout_b19_s
    by_cases h : i < 8
    · have hn1 : ¬ (8 : Int32) ≤ zI (i : Int) := ix_a (n := 8) h (by decide)
      rw [if_neg hn1]
      obtain ⟨r1, a1⟩ := C_lk_in (t := t) R V h a (fX9_lookout_b19 t w n) FU 0 r (by omega) (by decide)
      obtain ⟨r', b1⟩ := ih (i + 1) r1 (by omega) (by omega)
      exact ⟨r', a1.trans b1⟩
    · have e : i = 8 := by omega
      subst e
      have hn1 : (8 : Int32) ≤ zI ((8 : Nat) : Int) := by decide
      rw [if_pos hn1]
      by_cases ha : a = 0
      · rw [if_pos ha, if_pos ha]; exact ⟨r, rfl⟩
      · rw [if_neg ha, if_neg ha]; exact ⟨r, rfl⟩
theorem M_lk (V : VP p) (a : Int32) : ∀ (n k : Nat) (m : Pk), k ≤ 64 → 64 - k < n → ReM m p → ∃ m', fX10_lookout_b19 n m a (zI (lb p k).1) (zI (lb p k).2) (zI k) = some (if a = 0 then zI (lb p 64).1 else zI (lb p 64).2, m') ∧ mSame m m' := by
  intro n
  induction n with
  | zero => intro k m _ h; omega
  | succ n ih =>
    intro k m hk hn Q
    show ∃ m', fX10_lookout_b19_s (fX10_lookout_b19 n) m a (zI (lb p k).1) (zI (lb p k).2) (zI k) = _ ∧ _
    unfold fX10_lookout_b19_s
    by_cases h : k < 64
    · have hn1 : ¬ (64 : Int32) ≤ zI (k : Int) := ix_a (n := 64) h (by decide)
      rw [if_neg hn1]
      simp only [qnzi_s (show ¬ (8 : Int32) = 0 by decide), qn_s, (k8 k (by omega)).1, (k8 k (by omega)).2]
      have e1 : (8 : Int32) * zI ((k / 8 : Nat) : Int) = zI (8 * ((k / 8 : Nat) : Int)) := by rw [show (8 : Int32) = zI 8 from rfl, zI_mul]
      have e2 : (8 : Int32) * zI ((k % 8 : Nat) : Int) = zI (8 * ((k % 8 : Nat) : Int)) := by rw [show (8 : Int32) = zI 8 from rfl, zI_mul]
      have e3 : (64 : Int32) * zI (8 * ((k / 8 : Nat) : Int)) + zI (8 * ((k % 8 : Nat) : Int)) = zI (64 * (8 * ((k / 8 : Nat) : Int)) + 8 * ((k % 8 : Nat) : Int)) := by rw [show (64 : Int32) = zI 64 from rfl, zI_mul, zI_add]
      rw [e1, e2, e3]
      obtain ⟨m1, f1, s1⟩ := M_seen (x := 8 * ((k / 8 : Nat) : Int)) (y := 8 * ((k % 8 : Nat) : Int)) Q V (by omega) (by omega)
      have c := cn_le (p := p) (x := 8 * ((k / 8 : Nat) : Int)) (y := 8 * ((k % 8 : Nat) : Int)) 64
      have lbd := lb_bd p k
      rw [f1, qb2_s]
      unfold fX10_lookout_b78
      simp only [qn_s, ix_s, zI_le (rI_s (a := (cn p (8 * ((k / 8 : Nat) : Int)) (8 * ((k % 8 : Nat) : Int)) 64 : Int)) (by omega) (by omega)) (rI_s (a := (lb p k).2) (by omega) (by omega))]
      obtain ⟨m', a1, a2⟩ := ih (k + 1) m1 (by omega) (by omega) (Q.same s1)
      have el : lb p (k + 1) = if (cn p (8 * ((k / 8 : Nat) : Int)) (8 * ((k % 8 : Nat) : Int)) 64 : Int) ≤ (lb p k).2 then lb p k else (64 * (8 * ((k / 8 : Nat) : Int)) + 8 * ((k % 8 : Nat) : Int), (cn p (8 * ((k / 8 : Nat) : Int)) (8 * ((k % 8 : Nat) : Int)) 64 : Int)) := rfl
      rw [el] at a1
      by_cases hc : (cn p (8 * ((k / 8 : Nat) : Int)) (8 * ((k % 8 : Nat) : Int)) 64 : Int) ≤ (lb p k).2
      · rw [if_pos hc] at a1 ⊢
        exact ⟨m', a1, s1.tr a2⟩
      · rw [if_neg hc] at a1 ⊢
        exact ⟨m', a1, s1.tr a2⟩
    · have e : k = 64 := by omega
      subst e
      have hn1 : (64 : Int32) ≤ zI ((64 : Nat) : Int) := by decide
      rw [if_pos hn1]
      by_cases ha : a = 0
      · rw [if_pos ha, if_pos ha]; exact ⟨m, rfl, mSame.rf m⟩
      · rw [if_neg ha, if_neg ha]; exact ⟨m, rfl, mSame.rf m⟩
theorem S_lookout (R : ReW w p) (Q : ReM m p) (V : VP p) (a1 : Int32) : Ray2 (fX9_lookout t w r a1) (fX10_lookout m a1) m := by
  unfold fX9_lookout fX10_lookout
  rw [C_isOutside, qb1_s]
  cases h : (decide (0 ≤ a1) && decide (a1 ≤ 1)) with
  | false =>
    rw [ifNF]
    refine ⟨_, _, _, rfl, ?_, mSame.rf m⟩
    simp only [Bool.and_eq_false_iff, decide_eq_false_iff_not] at h
    by_cases c1 : a1 < 0
    · rw [if_pos c1]
    · rw [if_neg c1, if_neg (by grind)]
  | true =>
    simp only [Bool.and_eq_true, decide_eq_true_eq] at h
    rw [ifNT, if_neg (by grind), if_pos h.2]
    obtain ⟨r', e1⟩ := C_lk_out (t := t) R V a1 FU 0 r (by omega) (by decide)
    obtain ⟨m', f1, s1⟩ := M_lk V a1 FU 0 m (by omega) (by decide) Q
    rw [show (-1 : Int32) = zI (-1) from zm1]
    exact ⟨_, _, _, e1, f1, s1⟩
end S
