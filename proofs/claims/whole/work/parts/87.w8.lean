/-! WEIGHTS: piecesWith, bestWeights -/
section S
variable {T : Tr} {p pb : Pln} {m m' w t b TT L P D r C M Q : Pk} {nd : Nat → Nd} {pth : Nat → List Bool} {i k : Nat} {π : List Bool} {x y dx dy : Int} {q : Pc}
/-- what a considered tree leaves of the reference -/
def cnF (m m' : Pk) : Prop := (∀ r, ¬ (18 ≤ r ∧ r ≤ 44) → m'.1 r = m.1 r) ∧ (∀ k, ¬ (18 ≤ k ∧ k ≤ 37) → ¬ (45 ≤ k ∧ k ≤ 48) → m'.2.1 k = m.2.1 k) ∧ m'.2.2 = m.2.2
theorem cnF.rf (m : Pk) : cnF m m := ⟨fun _ _ => rfl, fun _ _ _ => rfl, rfl⟩
theorem cnF.tr {a b c : Pk} (h : cnF a b) (g : cnF b c) : cnF a c := ⟨fun r h1 => (g.1 r h1).trans (h.1 r h1), fun k h1 h2 => (g.2.1 k h1 h2).trans (h.2.1 k h1 h2), g.2.2.trans h.2.2⟩
theorem bF.cn (h : bF m m') : cnF m m' := ⟨fun r h1 => h.1 r (by omega), fun k h1 _ => h.2.1 k h1, h.2.2⟩
theorem nbF.cn (h : nbF m m') : cnF m m' := ⟨fun r h1 => h.1 r (by omega), fun k _ h1 => h.2.1 k h1, h.2.2⟩
theorem cnF.trf (h : cnF m m') : trF m m' := ⟨fun r _ h1 => h.1 r h1, fun k _ h1 h2 => h.2.1 k h1 h2, h.2.2⟩
theorem TInv.cn (I : TInv t b TT L P m p pb) (h : cnF m m') : TInv t b TT L P m' p pb := I.keep (h.1 10 (by decide)) (fun k h1 h2 => h.2.1 k (by omega) (by omega))
def TC (c : Option (Int32 × Pk × Pk × Pk)) (d : Option (Int32 × Pk)) (m : Pk) (p : Pln) : Prop := ∃ v C' M' Q' m', c = some (v, C', M', Q') ∧ d = some (v, m') ∧ PLx M' 300 ∧ PLx Q' 144 ∧ ReM m' p ∧ cnF m m'
theorem S_piecesWith (RW : ReW w p) (R : ReM m p) (V : VP p) (hM : PLx M 300) (hQ : PLx Q 144) (a1 a2 : Int32) : TC (fX9_piecesWith t w C M Q a1 a2) (fX10_piecesWith m a1 a2) m p := by
  unfold fX9_piecesWith fX10_piecesWith
  rw [C_badWeights, qb1_s]
  have no : ∀ {c : Option (Int32 × Pk × Pk × Pk)} {d : Option (Int32 × Pk)}, c = some (-2, C, M, Q) → d = some (-2, m) → TC c d m p := fun h1 h2 => ⟨_, C, M, Q, m, h1, h2, hM, hQ, R, cnF.rf m⟩
  cases h1 : ok9 a1 with
  | false =>
    rw [Bool.false_and, ifNF]
    refine no rfl ?_
    rcases n9 h1 with c | ⟨c, d⟩
    · rw [if_pos c]
    · rw [if_neg (nlt.mpr c), if_pos d]
  | true =>
    obtain ⟨x, rfl, gx⟩ := ok9_z h1
    have g1 : zI 0 ≤ zI x := (zI_le r0 (rI_s (by omega) (by omega))).mpr gx.1
    have g2 : zI x ≤ zI 9 := (zI_le (rI_s (by omega) (by omega)) (rI_s (by decide) (by decide))).mpr gx.2
    rw [Bool.true_and, if_neg (show ¬ zI x < 0 from nlt.mpr g1), if_neg (show ¬ 9 < zI x from nlt.mpr g2)]
    cases h2 : ok9 a2 with
    | false =>
      rw [ifNF]
      refine no rfl ?_
      rcases n9 h2 with c | ⟨c, d⟩
      · rw [if_pos c]
      · rw [if_neg (nlt.mpr c), if_neg (nle.mpr d)]
    | true =>
      obtain ⟨y, rfl, gy⟩ := ok9_z h2
      have k1 : zI 0 ≤ zI y := (zI_le r0 (rI_s (by omega) (by omega))).mpr gy.1
      have k2 : zI y ≤ zI 9 := (zI_le (rI_s (by omega) (by omega)) (rI_s (by decide) (by decide))).mpr gy.2
      obtain ⟨C', M', Q', c1, c2, c3⟩ := C_make (t := C) RW V gx gy false hM hQ
      obtain ⟨m', nd, d1, d2, d3, d4, d5⟩ := M_fixed (S := x) (B := y) R V gx gy
      have G := rtL_GT (p := p) V gx gy false
      rw [ifNT, if_neg (show ¬ zI y < 0 from nlt.mpr k1), if_pos (show zI y ≤ 9 from k2), show (0 : Int32) = b2 false from rfl, c1, d1, qb1_s]
      unfold fX6_pieceTotal
      rw [qb3_s, PL_size c2.2.2.2, qb1_s, qb1_s, pcl_len G, d2.2.1]
      exact ⟨_, C', M', Q', m', rfl, rfl, c3, ⟨_, c2.2.2.2⟩, R.bF d4, d4.cn⟩
theorem k4_div : ∀ k : Nat, k < 16 → zI (k : Int) / 4 = zI ((k / 4 : Nat) : Int) ∧ zI (k : Int) - zI ((k / 4 : Nat) : Int) * 4 = zI ((k % 4 : Nat) : Int) ∧ (zI (k : Int) = 0 ↔ k = 0) := by decide
/-- the class and the reference over the sixteen weights -/
theorem S_best_loop (RW : ReW w p) (V : VP p) : ∀ (n i j g g' gi : Nat) (C M Q m : Pk) (y1 y2 y3 z1 z2 z3 : Int32), i ≤ 3 → j ≤ 4 → 5 * (4 - i) = n + j → 4 - i < g → 4 - j < gi → 16 < g' + 4 * i + j → PLx M 300 → PLx Q 144 → ReM m p → ((4 * i + j = 0 ∧ y2 = -1) ∨ (0 < 4 * i + j ∧ y1 = z1 ∧ y2 = z2 ∧ y3 = z3 ∧ ¬ z2 < 0)) → ∃ v C' M' Q' m', fX9_bestWeights_b18 (fX9_bestWeights_b9 t w g) t w gi C M Q y1 y2 y3 (zI (i : Int)) (zI (j : Int)) = some (v, C', M', Q') ∧ fX10_bestWeights_b9 g' m z1 z2 z3 (zI ((4 * i + j : Nat) : Int)) = some (v, m') ∧ PLx M' 300 ∧ PLx Q' 144 ∧ ReM m' p ∧ cnF m m' := by
  intro n
  induction n with
  | zero =>
    intro i j g g' gi C M Q m y1 y2 y3 z1 z2 z3 hi hj hn
    omega
  | succ n ih =>
    intro i j g g' gi C M Q m y1 y2 y3 z1 z2 z3 hi hj hn hg hgi hg' hM hQ R hst
    obtain ⟨gi, rfl⟩ := Nat.exists_eq_add_of_lt hgi
    have sc : ∀ a : Nat, zI (a : Int) + 1 = zI ((a + 1 : Nat) : Int) := fun a => by rw [show (1 : Int32) = zI 1 from rfl, zI_add]; rfl
    rw [show fX9_bestWeights_b18 (fX9_bestWeights_b9 t w g) t w (4 - j + gi + 1) = fX9_bestWeights_b18_s (fX9_bestWeights_b9 t w g) (fX9_bestWeights_b18 (fX9_bestWeights_b9 t w g) t w (4 - j + gi)) t w from rfl]
    by_cases hj4 : j = 4
    · subst hj4
      obtain ⟨g, rfl⟩ := Nat.exists_eq_add_of_lt hg
      unfold fX9_bestWeights_b18_s
      rw [if_pos (show (3 : Int32) < zI ((4 : Nat) : Int) from by decide), qn_s, sc]
      rw [show fX9_bestWeights_b9 t w (4 - i + g + 1) = fX9_bestWeights_b9_s (fX9_bestWeights_b9 t w (4 - i + g)) t w from rfl]
      unfold fX9_bestWeights_b9_s
      by_cases hi3 : i = 3
      · subst hi3
        obtain ⟨g', rfl⟩ := Nat.exists_eq_add_of_lt (show 0 < g' from by omega)
        rw [if_pos (show (3 : Int32) < zI ((3 + 1 : Nat) : Int) from by decide)]
        rcases hst with ⟨h, -⟩ | ⟨-, e1, -, -, -⟩
        · omega
        · refine ⟨y1, C, M, Q, m, rfl, ?_, hM, hQ, R, cnF.rf m⟩
          rw [show fX10_bestWeights_b9 (0 + g' + 1) = fX10_bestWeights_b9_s (fX10_bestWeights_b9 (0 + g')) from rfl]
          unfold fX10_bestWeights_b9_s
          rw [if_pos (show (16 : Int32) ≤ zI ((4 * 3 + 4 : Nat) : Int) from by decide), e1]
      · have n3 : ¬ (3 : Int32) < zI ((i + 1 : Nat) : Int) := by rw [show (3 : Int32) = zI 3 from rfl, zI_lt (rI_s (by decide) (by decide)) (rI_n (by omega))]; omega
        rw [if_neg n3, show 4 * i + 4 = 4 * (i + 1) + 0 from by omega]
        exact ih (i + 1) 0 (4 - i + g) g' FU C M Q m y1 y2 y3 z1 z2 z3 (by omega) (by omega) (by omega) (by omega) (by decide) (by omega) hM hQ R (by
          rcases hst with h | h
          · omega
          · exact Or.inr ⟨by omega, h.2⟩)
    · obtain ⟨g', rfl⟩ := Nat.exists_eq_add_of_lt (show 0 < g' from by omega)
      have hI : 0 ≤ (i : Int) ∧ (i : Int) ≤ 9 := by omega
      have hJ : 0 ≤ (j : Int) ∧ (j : Int) ≤ 9 := by omega
      obtain ⟨C1, M1, Q1, c1, c2, c3⟩ := C_make (t := C) RW V hI hJ false hM hQ
      obtain ⟨m1, nd, d1, d2, d3, d4, d5⟩ := M_fixed (S := (i : Int)) (B := (j : Int)) R V hI hJ
      have G := rtL_GT (p := p) V hI hJ false
      have P144 := nP_144 G
      obtain ⟨m2, u1, u2, u3⟩ := M_number (m := m1) (nd := nd) G ⟨d2, Fx_TI G d5, d3⟩
      have R2 : ReM m2 p := (R.bF d4).tr u3.cn.trf
      have F2 : cnF m m2 := d4.cn.tr u3.cn
      have n3 : ¬ (3 : Int32) < zI (j : Int) := by rw [show (3 : Int32) = zI 3 from rfl, zI_lt (rI_s (by decide) (by decide)) (rI_n (by omega))]; omega
      have n16 : ¬ (16 : Int32) ≤ zI ((4 * i + j : Nat) : Int) := ix_a (n := 16) (by omega) (by decide)
      obtain ⟨q1, q2, q3⟩ := k4_div (4 * i + j) (by omega)
      have e1 : (4 * i + j) / 4 = i := by omega
      have e2 : (4 * i + j) % 4 = j := by omega
      rw [e1] at q1 q2
      rw [e2] at q2
      have pz : ¬ zI (nP (p, (i : Int), (j : Int), rtL p false) [] : Int) < 0 := ix_nn (by omega)
      unfold fX9_bestWeights_b18_s fX6_pieceTotal fX6_greatestLeafDepth
      have c1 : fX6_make w C M Q (zI (i : Int)) (zI (j : Int)) 0 = some (C1, M1, Q1) := c1
      rw [if_neg n3, c1, qb3_s, PL_size c2.2.2.2, qb1_s, qb1_s, pcl_len G, qb1_s, c2.2.1.2.2.2.1]
      rw [show fX10_bestWeights_b9 (0 + g' + 1) = fX10_bestWeights_b9_s (fX10_bestWeights_b9 (0 + g')) from rfl]
      unfold fX10_bestWeights_b9_s
      rw [if_neg n16, qnzi_s (by decide), qnzi_s (by decide), q1, q2, d1, qb1_s, u1, qb1_s, u2.1.2.1, u2.2.2.2.2.2.1]
      -- taken
      have take : ∃ v C' M' Q' m', fX9_bestWeights_b76 (fX9_bestWeights_b9 t w g) (fX9_bestWeights_b18 (fX9_bestWeights_b9 t w g) t w (4 - j + gi)) t w C1 M1 Q1 (zI (i : Int)) (zI (j : Int)) (zI (nP (p, (i : Int), (j : Int), rtL p false) [] : Int)) (zI (dD (p, (i : Int), (j : Int), rtL p false) [] : Int)) = some (v, C', M', Q') ∧ fX10_bestWeights_b61 (fX10_bestWeights_b9 (0 + g')) m2 (zI ((4 * i + j : Nat) : Int)) = some (v, m') ∧ PLx M' 300 ∧ PLx Q' 144 ∧ ReM m' p ∧ cnF m m' := by
        unfold fX9_bestWeights_b76 fX10_bestWeights_b61 fX9_bestWeights_b91 fX10_bestWeights_b84
        rw [qnzi_s (by decide), qnzi_s (by decide), q1, q2, u2.1.2.1, u2.2.2.2.2.2.1]
        simp only [qn_s]
        rw [sc, sc]
        obtain ⟨v, C', M', Q', m', f1, f2, f3, f4, f5, f6⟩ := ih i (j + 1) g (0 + g') (4 - j + gi) C1 M1 Q1 m2 (10 * zI (i : Int) + zI (j : Int)) (zI (nP (p, (i : Int), (j : Int), rtL p false) [] : Int)) (zI (dD (p, (i : Int), (j : Int), rtL p false) [] : Int)) (10 * zI (i : Int) + zI (j : Int)) (zI (nP (p, (i : Int), (j : Int), rtL p false) [] : Int)) (zI (dD (p, (i : Int), (j : Int), rtL p false) [] : Int)) hi (by omega) (by omega) hg (by omega) (by omega) c3 ⟨_, c2.2.2.2⟩ R2 (Or.inr ⟨by omega, rfl, rfl, rfl, pz⟩)
        exact ⟨v, C', M', Q', m', f1, f2, f3, f4, f5, F2.tr f6⟩
      have skip : (0 < 4 * i + j ∧ y1 = z1 ∧ y2 = z2 ∧ y3 = z3 ∧ ¬ z2 < 0) → ∃ v C' M' Q' m', fX9_bestWeights_b91 (fX9_bestWeights_b9 t w g) (fX9_bestWeights_b18 (fX9_bestWeights_b9 t w g) t w (4 - j + gi)) t w C1 M1 Q1 y1 y2 y3 (zI (i : Int)) (zI (j : Int)) = some (v, C', M', Q') ∧ fX10_bestWeights_b84 (fX10_bestWeights_b9 (0 + g')) m2 z1 z2 z3 (zI ((4 * i + j : Nat) : Int)) = some (v, m') ∧ PLx M' 300 ∧ PLx Q' 144 ∧ ReM m' p ∧ cnF m m' := by
        intro hs
        unfold fX9_bestWeights_b91 fX10_bestWeights_b84
        simp only [qn_s]
        rw [sc, sc]
        obtain ⟨v, C', M', Q', m', f1, f2, f3, f4, f5, f6⟩ := ih i (j + 1) g (0 + g') (4 - j + gi) C1 M1 Q1 m2 y1 y2 y3 z1 z2 z3 hi (by omega) (by omega) hg (by omega) (by omega) c3 ⟨_, c2.2.2.2⟩ R2 (Or.inr ⟨by omega, hs.2⟩)
        exact ⟨v, C', M', Q', m', f1, f2, f3, f4, f5, F2.tr f6⟩
      rcases hst with ⟨h0, h2⟩ | hs
      · rw [if_pos (show y2 < 0 from by rw [h2]; decide), if_pos (q3.mpr h0)]
        exact take
      · obtain ⟨h0, s1, s2, s3, s4⟩ := id hs
        rw [if_neg (show ¬ y2 < 0 from by rw [s2]; exact s4), if_neg (show ¬ zI ((4 * i + j : Nat) : Int) = 0 from fun h => by have := q3.mp h; omega), s2, s3]
        rw [s2, s3] at skip
        by_cases c1' : zI (nP (p, (i : Int), (j : Int), rtL p false) [] : Int) < z2
        · rw [if_pos c1', if_pos c1']
          exact take
        · rw [if_neg c1', if_neg c1']
          by_cases c2' : zI (nP (p, (i : Int), (j : Int), rtL p false) [] : Int) = z2
          · rw [if_pos c2', if_pos c2']
            by_cases c3' : z3 ≤ zI (dD (p, (i : Int), (j : Int), rtL p false) [] : Int)
            · rw [if_pos c3', if_pos c3']
              exact skip ⟨h0, s1, rfl, rfl, s4⟩
            · rw [if_neg c3', if_neg c3']
              exact take
          · rw [if_neg c2', if_neg c2']
            exact skip ⟨h0, s1, rfl, rfl, s4⟩
theorem S_bestWeights (RW : ReW w p) (R : ReM m p) (V : VP p) (hM : PLx M 300) (hQ : PLx Q 144) : TC (fX9_bestWeights t w C M Q) (fX10_bestWeights m) m p := by
  obtain ⟨v, C', M', Q', m', f1, f2, f3, f4, f5, f6⟩ := S_best_loop (t := t) RW V 20 0 0 4095 FU FU C M Q m 0 (-1) 0 0 0 0 (by decide) (by decide) (by decide) (by decide) (by decide) (by decide) hM hQ R (Or.inl ⟨rfl, rfl⟩)
  refine ⟨v, C', M', Q', m', ?_, f2, f3, f4, f5, f6⟩
  unfold fX9_bestWeights
  rw [show fX9_bestWeights_b9 t w FU = fX9_bestWeights_b9_s (fX9_bestWeights_b9 t w 4095) t w from rfl]
  unfold fX9_bestWeights_b9_s
  rw [if_neg (by decide)]
  exact f1
end S
