/-! BUILDS: is the fixed part as it was at the latest build -/
section S
variable {p pb : Pln} {w b m : Pk} {i : Nat}
def fxd (p : Pln) (i : Nat) : Bool := pP p i && !pM p i
def smw (p pb : Pln) (i : Nat) : Bool := decide (fxd pb i = fxd p i) && (!fxd p i || (decide (pX pb i = pX p i) && (decide (pY pb i = pY p i) && (decide (pU pb i = pU p i) && decide (pV pb i = pV p i)))))
def smn (p pb : Pln) : Nat → Bool
  | 0 => true
  | k + 1 => smn p pb k && smw p pb k
def smP (p pb : Pln) : Bool := (decide (pS pb = pS p) && decide (pB pb = pB p)) && smn p pb 12
theorem smn_s (k : Nat) : smn p pb (k + 1) = (smn p pb k && smw p pb k) := rfl
theorem smn_f (h : smn p pb i = false) : ∀ k : Nat, i ≤ k → smn p pb k = false
  | 0, hk => by rw [show i = 0 by omega] at h; exact h
  | k + 1, hk => by
    by_cases c : i = k + 1
    · rw [← c]; exact h
    · rw [smn_s, smn_f h k (by omega)]; rfl
theorem fxd_p {p : Pln} (h : fxd p i = true) : pP p i = true := by
  unfold fxd at h
  simp only [Bool.and_eq_true] at h
  exact h.1
theorem b2_inj {x y : Bool} : b2 x = b2 y ↔ x = y := by cases x <;> cases y <;> decide
theorem C_points (R : ReW b pb) (RW : ReW w p) (Vb : VP pb) (V : VP p) (hi : i < 12) (h1 : pP pb i = true) (h2 : pP p i = true) : fX8_hasSamePoints b w (zI (i : Int)) = some (b2 (decide (pX pb i = pX p i) && (decide (pY pb i = pY p i) && (decide (pU pb i = pU p i) && decide (pV pb i = pV p i))))) := by
  obtain ⟨v1, v2, v3, v4, -⟩ := V.1 i hi h2
  obtain ⟨u1, u2, u3, u4, -⟩ := Vb.1 i hi h1
  have e1 : zI (pX pb i) = zI (pX p i) ↔ pX pb i = pX p i := zI_inj u1 v1
  have e2 : zI (pY pb i) = zI (pY p i) ↔ pY pb i = pY p i := zI_inj u2 v2
  have e3 : zI (pU pb i) = zI (pU p i) ↔ pU pb i = pU p i := zI_inj u3 v3
  have e4 : zI (pV pb i) = zI (pV p i) ↔ pV pb i = pV p i := zI_inj u4 v4
  unfold fX8_hasSamePoints
  rw [W_startX R hi h1, W_startX RW hi h2, W_startY R hi h1, W_startY RW hi h2, W_endX R hi h1, W_endX RW hi h2, W_endY R hi h1, W_endY RW hi h2]
  simp only [qb1_s, e1, e2, e3, e4]
  by_cases c1 : pX pb i = pX p i
  · rw [if_pos c1, decide_eq_true c1]
    by_cases c2 : pY pb i = pY p i
    · rw [if_pos c2, decide_eq_true c2]
      by_cases c3 : pU pb i = pU p i
      · rw [if_pos c3, decide_eq_true c3]
        by_cases c4 : pV pb i = pV p i
        · rw [if_pos c4, decide_eq_true c4]; rfl
        · rw [if_neg c4, decide_eq_false c4]; rfl
      · rw [if_neg c3, decide_eq_false c3]; rfl
    · rw [if_neg c2, decide_eq_false c2]; rfl
  · rw [if_neg c1, decide_eq_false c1]; rfl
theorem C_same_loop (R : ReW b pb) (RW : ReW w p) (Vb : VP pb) (V : VP p) : ∀ (n i g : Nat), i + n = 12 → n < g → smn p pb i = true → fX8_hasSameFixedPart_b26 b w g (zI (i : Int)) = some (b2 (smn p pb 12)) := by
  intro n
  induction n with
  | zero =>
    intro i g hi hg hs
    obtain ⟨g, rfl⟩ : ∃ k, g = k + 1 := ⟨g - 1, by omega⟩
    have e : i = 12 := by omega
    subst e
    show fX8_hasSameFixedPart_b26_s (fX8_hasSameFixedPart_b26 b w g) b w _ = _
    unfold fX8_hasSameFixedPart_b26_s
    rw [if_pos (by decide), hs]; rfl
  | succ n ih =>
    intro i g hi hg hs
    obtain ⟨g, rfl⟩ : ∃ k, g = k + 1 := ⟨g - 1, by omega⟩
    have h12 : i < 12 := by omega
    have eb : fX8_isFixed b (zI (i : Int)) = some (b2 (fxd pb i)) := W_isFixed R h12
    have ew : fX8_isFixed w (zI (i : Int)) = some (b2 (fxd p i)) := W_isFixed RW h12
    show fX8_hasSameFixedPart_b26_s (fX8_hasSameFixedPart_b26 b w g) b w _ = _
    unfold fX8_hasSameFixedPart_b26_s fX8_hasSameFixedPart_b66
    rw [if_neg (i12a h12), eb, ew]
    simp only [qb1_s, qn_s, ix_s]
    by_cases c : fxd pb i = fxd p i
    · rw [if_pos (b2_inj.mpr c)]
      cases hf : fxd p i with
      | false =>
        rw [c, hf, ifF]
        refine ih (i + 1) g (by omega) (by omega) ?_
        rw [smn_s, hs, Bool.true_and]
        unfold smw
        rw [c, hf, decide_eq_true rfl]; rfl
      | true =>
        have hb : fxd pb i = true := by rw [c, hf]
        rw [hb, ifT, C_points R RW Vb V h12 (fxd_p hb) (fxd_p hf), qb1_s]
        have es : smw p pb i = (decide (pX pb i = pX p i) && (decide (pY pb i = pY p i) && (decide (pU pb i = pU p i) && decide (pV pb i = pV p i)))) := by
          unfold smw
          rw [hb, hf, decide_eq_true rfl]; rfl
        rw [← es]
        cases h : smw p pb i with
        | true =>
          rw [ifT]
          exact ih (i + 1) g (by omega) (by omega) (by rw [smn_s, hs, h]; rfl)
        | false =>
          rw [ifF, smn_f (i := i + 1) (by rw [smn_s, h, Bool.and_false]) 12 (by omega)]; rfl
    · rw [if_neg (fun h => c (b2_inj.mp h))]
      have h : smw p pb i = false := by unfold smw; rw [decide_eq_false c]; rfl
      rw [smn_f (i := i + 1) (by rw [smn_s, h, Bool.and_false]) 12 (by omega)]; rfl
theorem w_inj {x y : Int} (hx : 0 ≤ x ∧ x ≤ 9) (hy : 0 ≤ y ∧ y ≤ 9) : zI x = zI y ↔ x = y := zI_eq (rI_s (by omega) (by omega)) (rI_s (by omega) (by omega))
theorem C_same (R : ReW b pb) (RW : ReW w p) (Vb : VP pb) (V : VP p) : fX8_hasSameFixedPart b w = some (b2 (smP p pb)) := by
  unfold fX8_hasSameFixedPart smP
  rw [R.2.1, R.2.2, RW.2.1, RW.2.2]
  have e1 := w_inj Vb.2.1 V.2.1
  have e2 := w_inj Vb.2.2 V.2.2
  by_cases c1 : pS pb = pS p
  · rw [if_pos (e1.mpr c1), decide_eq_true c1]
    by_cases c2 : pB pb = pB p
    · rw [if_pos (e2.mpr c2), decide_eq_true c2]
      exact C_same_loop R RW Vb V 12 0 FU rfl (by decide) rfl
    · rw [if_neg (fun h => c2 (e2.mp h)), decide_eq_false c2]; rfl
  · rw [if_neg (fun h => c1 (e1.mp h)), decide_eq_false c1]; rfl
/-- the reference's row of the latest build -/
def ReB (m : Pk) (pb : Pln) : Prop := (∀ i, i < 12 → m.1 10 (5 * i) = b2 (fxd pb i) ∧ (fxd pb i = true → m.1 10 (5 * i + 1) = zI (pX pb i) ∧ m.1 10 (5 * i + 2) = zI (pY pb i) ∧ m.1 10 (5 * i + 3) = zI (pU pb i) ∧ m.1 10 (5 * i + 4) = zI (pV pb i))) ∧ m.2.1 11 = zI (pS pb) ∧ m.2.1 12 = zI (pB pb)
theorem and_b2 (x y : Bool) : b2 x &&& b2 y = b2 (x && y) := by cases x <;> cases y <;> rfl
theorem M_b93 {rec : Pk → Int32 → Int32 → Option Pk} (h12 : i < 12) {k g : Nat} (hk : k ≤ 4) (acc : Bool) : fX10_countBuild_b93 rec (g + 1) m (b2 acc) (zI (i : Int)) 1 (zI (k : Int)) = fX10_countBuild_b93 rec g m (b2 (acc && decide (m.1 10 (5 * i + k) = m.1 0 (7 * i + k)))) (zI (i : Int)) 1 (zI ((k + 1 : Nat) : Int)) := by
  show fX10_countBuild_b93_s rec (fX10_countBuild_b93 rec g) m _ _ _ _ = _
  unfold fX10_countBuild_b93_s fX10_countBuild_b130
  have n4 : ¬ (4 : Int32) < zI (k : Int) := by rw [show (4 : Int32) = zI 4 from rfl, zI_lt (rI_s (by decide) (by decide)) (rI_n (by omega))]; omega
  have k5 : (5 : Int32) * zI (i : Int) + zI (k : Int) = zI ((5 * i + k : Nat) : Int) := by rw [show (5 : Int32) = zI 5 from rfl, zI_mul, zI_add]; congr 1
  rw [if_neg n4, if_neg (by decide), k5, qld_at (by omega) (by decide), M_at (by omega), qb1_s]
  simp only [qn_s, ix_s]
  by_cases c : m.1 10 (5 * i + k) = m.1 0 (7 * i + k)
  · rw [if_pos c, decide_eq_true c, show (1 : Int32) = b2 true from rfl, and_b2]
  · rw [if_neg c, decide_eq_false c, show (0 : Int32) = b2 false from rfl, and_b2]
theorem M_b93_end {rec : Pk → Int32 → Int32 → Option Pk} {g : Nat} {acc : Int32} {y3 : Int32} : fX10_countBuild_b93 rec (g + 1) m acc (zI (i : Int)) y3 (zI ((5 : Nat) : Int)) = rec m acc (zI ((i + 1 : Nat) : Int)) := by
  show fX10_countBuild_b93_s rec (fX10_countBuild_b93 rec g) m _ _ _ _ = _
  unfold fX10_countBuild_b93_s fX10_countBuild_b138
  rw [if_pos (by decide), qn_s, ix_s]
theorem M_b93_no {rec : Pk → Int32 → Int32 → Option Pk} {g : Nat} {acc : Int32} : fX10_countBuild_b93 rec (g + 1) m acc (zI (i : Int)) 0 1 = rec m acc (zI ((i + 1 : Nat) : Int)) := by
  show fX10_countBuild_b93_s rec (fX10_countBuild_b93 rec g) m _ _ _ _ = _
  unfold fX10_countBuild_b93_s fX10_countBuild_b138
  rw [if_neg (by decide), if_pos rfl, qn_s, ix_s]
theorem M_b61 {rec : Pk → Int32 → Int32 → Option Pk} (h12 : i < 12) (acc f : Bool) : fX10_countBuild_b61 rec m (b2 acc) (zI (i : Int)) (b2 f) = rec m (b2 (acc && (decide (m.1 10 (5 * i) = b2 f) && (!f || (decide (m.1 10 (5 * i + 1) = m.1 0 (7 * i + 1)) && (decide (m.1 10 (5 * i + 2) = m.1 0 (7 * i + 2)) && (decide (m.1 10 (5 * i + 3) = m.1 0 (7 * i + 3)) && decide (m.1 10 (5 * i + 4) = m.1 0 (7 * i + 4))))))))) (zI ((i + 1 : Nat) : Int)) := by
  have k0 : (5 : Int32) * zI (i : Int) = zI ((5 * i : Nat) : Int) := by rw [show (5 : Int32) = zI 5 from rfl, zI_mul]; congr 1
  unfold fX10_countBuild_b61 fX10_countBuild_b80 fX10_countBuild_b88
  rw [k0, qld_at (by omega) (by decide)]
  have fu : FU = 4090 + 1 + 1 + 1 + 1 + 1 + 1 := rfl
  have go : ∀ a : Bool, fX10_countBuild_b93 rec FU m (b2 a) (zI (i : Int)) 1 1 = rec m (b2 ((((a && decide (m.1 10 (5 * i + 1) = m.1 0 (7 * i + 1))) && decide (m.1 10 (5 * i + 2) = m.1 0 (7 * i + 2))) && decide (m.1 10 (5 * i + 3) = m.1 0 (7 * i + 3))) && decide (m.1 10 (5 * i + 4) = m.1 0 (7 * i + 4)))) (zI ((i + 1 : Nat) : Int)) := by
    intro a
    rw [fu]
    rw [show fX10_countBuild_b93 rec (4090 + 1 + 1 + 1 + 1 + 1 + 1) m (b2 a) (zI (i : Int)) 1 1 = _ from M_b93 (k := 1) h12 (by decide) a, M_b93 (k := 2) h12 (by decide), M_b93 (k := 3) h12 (by decide), M_b93 (k := 4) h12 (by decide), M_b93_end]
  have no : ∀ a : Int32, fX10_countBuild_b93 rec FU m a (zI (i : Int)) 0 1 = rec m a (zI ((i + 1 : Nat) : Int)) := fun a => by rw [fu]; exact M_b93_no
  cases f with
  | true =>
    rw [if_neg (by decide)]
    simp only [qn_s]
    rw [show (1 : Int32) = b2 true from rfl, show (0 : Int32) = b2 false from rfl, and_b2, and_b2]
    rw [show b2 true = (1 : Int32) from rfl, go, go]
    by_cases c : m.1 10 (5 * i) = (1 : Int32)
    · rw [if_pos c, decide_eq_true c]
      congr 2
      simp only [Bool.and_true, Bool.true_and, Bool.not_true, Bool.false_or, Bool.and_assoc]
    · rw [if_neg c, decide_eq_false c]
      congr 2
      simp only [Bool.and_false, Bool.false_and]
  | false =>
    rw [ifF]
    simp only [qn_s]
    rw [show b2 false = (0 : Int32) from rfl, no, no]
    rw [show (1 : Int32) = b2 true from rfl, show (0 : Int32) = b2 false from rfl, and_b2, and_b2]
    by_cases c : m.1 10 (5 * i) = b2 false
    · rw [if_pos c, decide_eq_true c]
      congr 2
    · rw [if_neg c, decide_eq_false c]
      congr 2
theorem M_same_w (Q : ReM m p) (V : VP p) (Vb : VP pb) (R : ReB m pb) (h12 : i < 12) : (decide (m.1 10 (5 * i) = b2 (fxd p i)) && (!fxd p i || (decide (m.1 10 (5 * i + 1) = m.1 0 (7 * i + 1)) && (decide (m.1 10 (5 * i + 2) = m.1 0 (7 * i + 2)) && (decide (m.1 10 (5 * i + 3) = m.1 0 (7 * i + 3)) && decide (m.1 10 (5 * i + 4) = m.1 0 (7 * i + 4))))))) = smw p pb i := by
  obtain ⟨r1, r2⟩ := R.1 i h12
  unfold smw
  rw [r1]
  have e0 : (b2 (fxd pb i) = b2 (fxd p i)) ↔ (fxd pb i = fxd p i) := b2_inj
  by_cases c : fxd pb i = fxd p i
  · rw [decide_eq_true (e0.mpr c), decide_eq_true c]
    cases hf : fxd p i with
    | false => rfl
    | true =>
      have hb : fxd pb i = true := by rw [c, hf]
      have hp := fxd_p hf
      obtain ⟨a1, a2, a3, a4⟩ := r2 hb
      obtain ⟨q1, q2, q3, q4, -, -⟩ := Q.at h12 hp
      obtain ⟨v1, v2, v3, v4, -⟩ := V.1 i h12 hp
      obtain ⟨u1, u2, u3, u4, -⟩ := Vb.1 i h12 (fxd_p hb)
      rw [a1, a2, a3, a4, q1, q2, q3, q4]
      rw [show decide (zI (pX pb i) = zI (pX p i)) = decide (pX pb i = pX p i) from decide_eq_decide.mpr (zI_inj u1 v1), show decide (zI (pY pb i) = zI (pY p i)) = decide (pY pb i = pY p i) from decide_eq_decide.mpr (zI_inj u2 v2), show decide (zI (pU pb i) = zI (pU p i)) = decide (pU pb i = pU p i) from decide_eq_decide.mpr (zI_inj u3 v3), show decide (zI (pV pb i) = zI (pV p i)) = decide (pV pb i = pV p i) from decide_eq_decide.mpr (zI_inj u4 v4)]
  · rw [decide_eq_false (fun h => c (e0.mp h)), decide_eq_false c]; rfl
theorem M_cp4 {rec : Pk → Int32 → Option Pk} (h12 : i < 12) : ∀ (n k g : Nat) (m : Pk), k + n = 5 → 1 ≤ k → n < g → ∃ m', fX10_countBuild_b217 rec g m (zI (i : Int)) (zI (k : Int)) = rec m' (zI ((i + 1 : Nat) : Int)) ∧ m'.2 = m.2 ∧ (∀ r, ¬ r = 10 → m'.1 r = m.1 r) ∧ (∀ j, k ≤ j → j ≤ 4 → m'.1 10 (5 * i + j) = m.1 0 (7 * i + j)) ∧ ∀ x, ¬ (5 * i + k ≤ x ∧ x ≤ 5 * i + 4) → m'.1 10 x = m.1 10 x := by
  intro n
  induction n with
  | zero =>
    intro k g m hk h1 hg
    obtain ⟨g, rfl⟩ : ∃ k, g = k + 1 := ⟨g - 1, by omega⟩
    have e : k = 5 := by omega
    subst e
    show ∃ m', fX10_countBuild_b217_s rec (fX10_countBuild_b217 rec g) m _ _ = _ ∧ _
    unfold fX10_countBuild_b217_s
    rw [if_pos (by decide), qn_s, ix_s]
    exact ⟨m, rfl, rfl, fun _ _ => rfl, fun j j1 j2 => absurd j1 (by omega), fun _ _ => rfl⟩
  | succ n ih =>
    intro k g m hk h1 hg
    obtain ⟨g, rfl⟩ : ∃ k, g = k + 1 := ⟨g - 1, by omega⟩
    have n4 : ¬ (4 : Int32) < zI (k : Int) := by rw [show (4 : Int32) = zI 4 from rfl, zI_lt (rI_s (by decide) (by decide)) (rI_n (by omega))]; omega
    have k5 : (5 : Int32) * zI (i : Int) + zI (k : Int) = zI ((5 * i + k : Nat) : Int) := by rw [show (5 : Int32) = zI 5 from rfl, zI_mul, zI_add]; congr 1
    have hb : 5 * i + k < 2147483648 := by omega
    show ∃ m', fX10_countBuild_b217_s rec (fX10_countBuild_b217 rec g) m _ _ = _ ∧ _
    unfold fX10_countBuild_b217_s
    rw [if_neg n4, M_at (by omega), qb1_s, k5, qst_at (by omega) (by decide), qn_s, qn_s, ix_s]
    obtain ⟨m', a1, a2, a3, a4, a5⟩ := ih (k + 1) g (pkA m 10 (zI ((5 * i + k : Nat) : Int)) (m.1 0 (7 * i + k))) (by omega) (by omega) (by omega)
    have e0 : (pkA m 10 (zI ((5 * i + k : Nat) : Int)) (m.1 0 (7 * i + k))).1 0 = m.1 0 := by rw [pA1 hb, if_neg (by decide)]
    rw [e0] at a4
    refine ⟨m', a1, a2, fun r hr => by rw [a3 r hr, pA1 hb, if_neg hr], fun j j1 j2 => ?_, fun x hx => ?_⟩
    · by_cases c : j = k
      · rw [c, a5 _ (by omega), pAt hb, if_pos ⟨rfl, rfl⟩]
      · exact a4 j (by omega) j2
    · rw [a5 x (by omega), pAt hb, if_neg (by omega)]
theorem M_cp_loop : ∀ (n i g : Nat) (m : Pk), i + n = 12 → n < g → ReM m p → (∀ w, w < i → m.1 10 (5 * w) = b2 (fxd p w) ∧ ∀ j, 1 ≤ j → j ≤ 4 → m.1 10 (5 * w + j) = m.1 0 (7 * w + j)) → ∃ m', fX10_countBuild_b176 g m (zI (i : Int)) = some m' ∧ m'.2 = m.2 ∧ (∀ r, ¬ r = 10 → m'.1 r = m.1 r) ∧ ∀ w, w < 12 → m'.1 10 (5 * w) = b2 (fxd p w) ∧ ∀ j, 1 ≤ j → j ≤ 4 → m'.1 10 (5 * w + j) = m.1 0 (7 * w + j) := by
  intro n
  induction n with
  | zero =>
    intro i g m hi hg Q H
    obtain ⟨g, rfl⟩ : ∃ k, g = k + 1 := ⟨g - 1, by omega⟩
    have e : i = 12 := by omega
    subst e
    show ∃ m', fX10_countBuild_b176_s (fX10_countBuild_b176 g) m _ = _ ∧ _
    unfold fX10_countBuild_b176_s
    rw [if_pos (by decide)]
    exact ⟨m, rfl, rfl, fun _ _ => rfl, H⟩
  | succ n ih =>
    intro i g m hi hg Q H
    obtain ⟨g, rfl⟩ : ∃ k, g = k + 1 := ⟨g - 1, by omega⟩
    have h12 : i < 12 := by omega
    have hb : 5 * i < 2147483648 := by omega
    have k0 : (5 : Int32) * zI (i : Int) = zI ((5 * i : Nat) : Int) := by rw [show (5 : Int32) = zI 5 from rfl, zI_mul]; congr 1
    have key : fX10_countBuild_b176 (g + 1) m (zI (i : Int)) = fX10_countBuild_b217 (fX10_countBuild_b176 g) FU (pkA m 10 (zI ((5 * i : Nat) : Int)) (b2 (fxd p i))) (zI (i : Int)) 1 := by
      show fX10_countBuild_b176_s (fX10_countBuild_b176 g) m _ = _
      unfold fX10_countBuild_b176_s fX10_countBuild_b213 fX10_countBuild_b214
      rw [if_neg (i12a h12), M_at0 Q h12, qb1_s, one_b2, k0, qst_at (by omega) (by decide), qst_at (by omega) (by decide), qn_s, qn_s]
      unfold fxd
      cases hp : pP p i with
      | false => rw [if_neg Bool.false_ne_true, Bool.false_and]; rfl
      | true =>
        rw [if_pos rfl, M_at6 Q h12 hp, qb1_s, Bool.true_and]
        cases pM p i with
        | false => rw [ifF]; rfl
        | true => rw [ifT]; rfl
    obtain ⟨m1, a1, a2, a3, a4, a5⟩ := M_cp4 (rec := fX10_countBuild_b176 g) h12 4 1 FU (pkA m 10 (zI ((5 * i : Nat) : Int)) (b2 (fxd p i))) rfl (by decide) (by decide)
    have e0 : (pkA m 10 (zI ((5 * i : Nat) : Int)) (b2 (fxd p i))).1 0 = m.1 0 := by rw [pA1 hb, if_neg (by decide)]
    rw [e0] at a4
    have f0 : m1.1 0 = m.1 0 := by rw [a3 0 (by decide), e0]
    obtain ⟨m2, b1, b2', b3, b4⟩ := ih (i + 1) g m1 (by omega) (by omega) ⟨by rw [f0]; exact Q.1, by rw [a2]; exact Q.2.1, by rw [a2]; exact Q.2.2⟩ (fun w hw => by
      rw [f0]
      by_cases c : w = i
      · subst c
        exact ⟨by rw [a5 _ (by omega), pAt hb, if_pos ⟨rfl, rfl⟩], a4⟩
      · obtain ⟨x, y⟩ := H w (by omega)
        exact ⟨by rw [a5 _ (by omega), pAt hb, if_neg (by omega)]; exact x, fun j j1 j2 => by rw [a5 _ (by omega), pAt hb, if_neg (by omega)]; exact y j j1 j2⟩)
    rw [f0] at b4
    exact ⟨m2, key.trans (a1.trans b1), by rw [b2', a2, pA2], fun r hr => by rw [b3 r hr, a3 r hr, pA1 hb, if_neg hr], b4⟩
/-- what counting a build leaves -/
def cbF (m m' : Pk) : Prop := (∀ r, ¬ r = 10 → m'.1 r = m.1 r) ∧ (∀ k, ¬ k = 11 → ¬ k = 12 → ¬ k = 13 → m'.2.1 k = m.2.1 k) ∧ m'.2.2 = m.2.2
theorem M_cb_loop (Q : ReM m p) (V : VP p) (Vb : VP pb) (R : ReB m pb) : ∀ (n i g : Nat) (a : Bool), i + n = 12 → n < g → ∃ m', fX10_countBuild_b30 g m (b2 (a && smn p pb i)) (zI (i : Int)) = some m' ∧ cbF m m' ∧ (if a && smn p pb 12 then m' = m else ReB m' p ∧ m'.2.1 13 = m.2.1 13 + 1) := by
  intro n
  induction n with
  | zero =>
    intro i g a hi hg
    obtain ⟨g, rfl⟩ : ∃ k, g = k + 1 := ⟨g - 1, by omega⟩
    have e : i = 12 := by omega
    subst e
    show ∃ m', fX10_countBuild_b30_s (fX10_countBuild_b30 g) m _ _ = _ ∧ _
    unfold fX10_countBuild_b30_s
    rw [if_pos (by decide)]
    cases h : a && smn p pb 12 with
    | true =>
      rw [ifT]
      exact ⟨m, rfl, ⟨fun _ _ => rfl, fun _ _ _ _ => rfl, rfl⟩, by rw [if_pos rfl]⟩
    | false =>
      rw [ifF]
      simp only [qn_s]
      have e1 : (pkI m 13 (m.2.1 13 + 1)).2.1 1 = m.2.1 1 := rfl
      have e2 : ∀ x, (pkI (pkI m 13 (m.2.1 13 + 1)) 11 x).2.1 2 = m.2.1 2 := fun _ => rfl
      rw [e1, e2]
      obtain ⟨m', a1, a2, a3, a4⟩ := M_cp_loop (p := p) 12 0 FU (pkI (pkI (pkI m 13 (m.2.1 13 + 1)) 11 (m.2.1 1)) 12 (m.2.1 2)) rfl (by decide) ⟨Q.1, Q.2.1, Q.2.2⟩ (fun w hw => absurd hw (by omega))
      refine ⟨m', a1, ⟨fun r hr => a3 r hr, fun k h1 h2 h3 => by rw [a2, pI, if_neg h2, pI, if_neg h1, pI, if_neg h3], by rw [a2]; rfl⟩, ?_⟩
      rw [if_neg (by decide)]
      refine ⟨⟨fun j hj => ⟨(a4 j hj).1, fun hf => ?_⟩, ?_, ?_⟩, ?_⟩
      · obtain ⟨q1, q2, q3, q4, -, -⟩ := Q.at hj (fxd_p hf)
        have h := (a4 j hj).2
        exact ⟨(h 1 (by decide) (by decide)).trans q1, (h 2 (by decide) (by decide)).trans q2, (h 3 (by decide) (by decide)).trans q3, (h 4 (by decide) (by decide)).trans q4⟩
      · rw [a2, pI, if_neg (by decide), pI, if_pos rfl]; exact Q.2.1
      · rw [a2, pI, if_pos rfl]; exact Q.2.2
      · rw [a2, pI, if_neg (by decide), pI, if_neg (by decide), pI, if_pos rfl]
  | succ n ih =>
    intro i g a hi hg
    obtain ⟨g, rfl⟩ : ∃ k, g = k + 1 := ⟨g - 1, by omega⟩
    have h12 : i < 12 := by omega
    have key : fX10_countBuild_b30 (g + 1) m (b2 (a && smn p pb i)) (zI (i : Int)) = fX10_countBuild_b61 (fX10_countBuild_b30 g) m (b2 (a && smn p pb i)) (zI (i : Int)) (b2 (fxd p i)) := by
      show fX10_countBuild_b30_s (fX10_countBuild_b30 g) m _ _ = _
      unfold fX10_countBuild_b30_s fX10_countBuild_b60
      rw [if_neg (i12a h12), M_at0 Q h12, qb1_s, one_b2]
      unfold fxd
      cases hp : pP p i with
      | false => rfl
      | true =>
        rw [if_pos rfl, M_at6 Q h12 hp, qb1_s]
        cases pM p i <;> rfl
    rw [key, M_b61 h12, M_same_w Q V Vb R h12, Bool.and_assoc, ← smn_s]
    exact ih (i + 1) g a (by omega) (by omega)
theorem M_countBuild (Q : ReM m p) (V : VP p) (Vb : VP pb) (R : ReB m pb) : ∃ m', fX10_countBuild m = some m' ∧ cbF m m' ∧ (if smP p pb then m' = m else ReB m' p ∧ m'.2.1 13 = m.2.1 13 + 1) := by
  have e1 := w_inj V.2.1 Vb.2.1
  have e2 := w_inj V.2.2 Vb.2.2
  have key : fX10_countBuild m = fX10_countBuild_b30 FU m (b2 ((decide (pS pb = pS p) && decide (pB pb = pB p)) && smn p pb 0)) (zI ((0 : Nat) : Int)) := by
    unfold fX10_countBuild fX10_countBuild_b26 fX10_countBuild_b27
    rw [Q.2.1, Q.2.2, R.2.1, R.2.2]
    by_cases c1 : pS pb = pS p
    · rw [if_pos (e1.mpr c1.symm), decide_eq_true c1]
      by_cases c2 : pB pb = pB p
      · rw [if_pos (e2.mpr c2.symm), decide_eq_true c2]; rfl
      · rw [if_neg (fun h => c2 (e2.mp h).symm), decide_eq_false c2]; rfl
    · rw [if_neg (fun h => c1 (e1.mp h).symm), decide_eq_false c1]; rfl
  rw [key]
  exact M_cb_loop Q V Vb R 12 0 FU (decide (pS pb = pS p) && decide (pB pb = pB p)) rfl (by decide)
/-- the movable walls are put in, one after the other -/
theorem M_ins_loop (V : VP p) : ∀ (n i g : Nat) (m : Pk) (l : List Pc) (nd : Nat → Nd) (pth : Nat → List Bool) (rt0 : Int), i + n = 12 → n < g → ReM m p → GT (p, pS p, pB p, l) → GT (p, pS p, pB p, l ++ rowL (rt p true) n) → MTree (p, pS p, pB p, l) m nd pth rt0 → ∃ m' nd' pth' rt', fX10_tree_b18 g m (zI (i : Int)) = fX10_number_ m' ∧ MTree (p, pS p, pB p, l ++ rowL (rt p true) n) m' nd' pth' rt' ∧ bF m m' := by
  intro n
  induction n with
  | zero =>
    intro i g m l nd pth rt0 hi hg Q G G' M
    obtain ⟨g, rfl⟩ : ∃ k, g = k + 1 := ⟨g - 1, by omega⟩
    have e : i = 12 := by omega
    subst e
    show ∃ m' nd' pth' rt', fX10_tree_b18_s (fX10_tree_b18 g) m _ = _ ∧ _
    unfold fX10_tree_b18_s
    rw [if_pos (by decide)]
    refine ⟨m, nd, pth, rt0, ?_, ?_, bF.rf m⟩
    · cases fX10_number_ m <;> rfl
    · show MTree (p, pS p, pB p, l ++ []) m nd pth rt0
      rw [List.append_nil]; exact M
  | succ n ih =>
    intro i g m l nd pth rt0 hi hg Q G G' M
    obtain ⟨g, rfl⟩ : ∃ k, g = k + 1 := ⟨g - 1, by omega⟩
    have h12 : i < 12 := by omega
    have ei : 11 - n = i := by omega
    have key : fX10_tree_b18 (g + 1) m (zI (i : Int)) = if rt p true i = none then fX10_tree_b18 g m (zI ((i + 1 : Nat) : Int)) else qb1 (fX10_insert m (zI (i : Int))) (fun x => fX10_tree_b18 g x (zI ((i + 1 : Nat) : Int))) := by
      show fX10_tree_b18_s (fX10_tree_b18 g) m _ = _
      unfold fX10_tree_b18_s fX10_tree_b50
      rw [if_neg (i12a h12), M_at0 Q h12, qb1_s, one_b2]
      simp only [qn_s, ix_s]
      unfold rt
      cases hp : pP p i with
      | false => rfl
      | true =>
        rw [if_pos rfl, M_at6 Q h12 hp, qb1_s, one_b2]
        cases pM p i <;> rfl
    rw [key]
    cases e : rt p true i with
    | none =>
      rw [rowL_none (n := n) (by rw [ei]; exact e)] at G' ⊢
      rw [if_pos rfl]
      exact ih (i + 1) g m l nd pth rt0 (by omega) (by omega) Q G G' M
    | some d =>
      obtain ⟨hp, hm, ed⟩ := rt_some e
      rw [rowL_some (n := n) (by rw [ei]; exact e), ei] at G' ⊢
      rw [show l ++ (i, d) :: rowL (rt p true) n = (l ++ [(i, d)]) ++ rowL (rt p true) n by rw [List.append_assoc]; rfl] at G' ⊢
      have G1 : GT (p, pS p, pB p, l ++ [(i, d)]) := by
        obtain ⟨g1, g2, g3, g4, g5⟩ := G'
        refine ⟨g1, g2, g3, fun q hq => g4 q (List.mem_append.mpr (Or.inl hq)), ?_⟩
        have g5 : (l ++ [(i, d)] ++ rowL (rt p true) n).length ≤ 12 := g5
        show (l ++ [(i, d)]).length ≤ 12
        rw [List.length_append] at g5; omega
      have I : INS (p, pS p, pB p, l) (p, pS p, pB p, l ++ [(i, d)]) (i, d) := ⟨rfl, hm⟩
      obtain ⟨m1, nd1, pth1, rt1, a1, a2, a3⟩ := M_insert I G G1 ed M Q
      have a1 : fX10_insert m (zI (i : Int)) = some m1 := a1
      obtain ⟨m2, nd2, pth2, rt2, b1, b2', b3⟩ := ih (i + 1) g m1 (l ++ [(i, d)]) nd1 pth1 rt1 (by omega) (by omega) (Q.bF a3) G1 G' a2
      rw [if_neg (by intro h; cases h), a1, qb1_s]
      exact ⟨m2, nd2, pth2, rt2, b1, b2', a3.tr b3⟩
end S
