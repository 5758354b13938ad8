/-! TEXT: appendText, clearText -/
section S
variable {t x m : Pk} {tx : Nat → Int} {n : Nat}
def TX (x m : Pk) (tx : Nat → Int) (n : Nat) : Prop := n ≤ 300 ∧ x.2.1 2 = zI (n : Int) ∧ m.2.1 6 = zI (n : Int) ∧ ∀ j, j < n → x.1 0 j = zI (tx j) ∧ m.1 5 j = zI (tx j) ∧ 32 ≤ tx j ∧ tx j ≤ 126
/-- what an edit of the text leaves -/
def xSame (x x' : Pk) : Prop := (∀ k, ¬ k = 0 → x'.1 k = x.1 k) ∧ (∀ k, ¬ k = 2 → x'.2.1 k = x.2.1 k) ∧ x'.2.2 = x.2.2
def tmSame (m m' : Pk) : Prop := (∀ k, ¬ k = 5 → m'.1 k = m.1 k) ∧ (∀ k, ¬ k = 6 → m'.2.1 k = m.2.1 k) ∧ m'.2.2 = m.2.2
theorem xSame.rf (m : Pk) : xSame m m := ⟨fun _ _ => rfl, fun _ _ => rfl, rfl⟩
theorem tmSame.rf (m : Pk) : tmSame m m := ⟨fun _ _ => rfl, fun _ _ => rfl, rfl⟩
def Te (c d : Option (Int32 × Pk)) (x m : Pk) : Prop := ∃ v x' m' tx' n', c = some (v, x') ∧ d = some (v, m') ∧ TX x' m' tx' n' ∧ xSame x x' ∧ tmSame m m'
theorem S_clearText (T : TX x m tx n) : Te (fX9_clearText t x) (fX10_clearText m) x m := by
  obtain ⟨h1, h2, h3, h4⟩ := T
  unfold fX9_clearText fX7_length fX7_clear fX10_clearText
  rw [qb1_s, qn_s, qb1_s, qn_s, qn_s, h2, h3]
  refine ⟨_, pkI x 2 0, pkI m 6 0, tx, 0, rfl, rfl, ⟨by decide, rfl, rfl, fun j hj => absurd hj (by omega)⟩, ⟨fun _ _ => rfl, fun k hk => ?_, rfl⟩, ⟨fun _ _ => rfl, fun k hk => ?_, rfl⟩⟩
  · rw [pI, if_neg hk]
  · rw [pI, if_neg hk]
def okt (a : Int32) : Bool := decide (32 ≤ a) && decide (a ≤ 126)
theorem okt_z {a : Int32} (h : okt a = true) : (∃ x : Int, a = zI x ∧ 32 ≤ x ∧ x ≤ 126) ∧ ¬ a < 32 ∧ a ≤ 126 := by
  unfold okt at h
  simp only [Bool.and_eq_true, decide_eq_true_eq] at h
  refine ⟨?_, nlt.mpr h.1, h.2⟩
  simp only [Int32.le_iff_toInt_le] at h
  have h0 : (32 : Int32).toInt = 32 := by decide
  have h9 : (126 : Int32).toInt = 126 := by decide
  exact ⟨a.toInt, (zI_self a).symm, by omega, by omega⟩
theorem nt {a : Int32} (h : okt a = false) : a < 32 ∨ (¬ a < 32 ∧ ¬ a ≤ 126) := by
  unfold okt at h
  simp only [Bool.and_eq_false_iff, decide_eq_false_iff_not] at h
  by_cases c : a < 32
  · exact Or.inl c
  · refine Or.inr ⟨c, ?_⟩
    rcases h with h | h
    · exact absurd (nlt.mp c) h
    · exact h
theorem S_appendText (T : TX x m tx n) (a : Int32) : Te (fX9_appendText t x a) (fX10_appendText m a) x m := by
  obtain ⟨h1, h2, h3, h4⟩ := id T
  unfold fX9_appendText fX10_appendText
  rw [C_isOutside, qb1_s]
  show Te (if b2 (!okt a) = 0 then _ else _) _ _ _
  cases h : okt a with
  | false =>
    rw [ifNF]
    rcases nt h with q | ⟨q, r⟩
    · rw [if_pos q]; exact ⟨_, x, m, tx, n, rfl, rfl, T, xSame.rf x, tmSame.rf m⟩
    · rw [if_neg q, if_neg r]; exact ⟨_, x, m, tx, n, rfl, rfl, T, xSame.rf x, tmSame.rf m⟩
  | true =>
    obtain ⟨⟨z, rfl, gz⟩, l1, l2⟩ := okt_z h
    unfold fX7_isFull fX7_append fX7_length
    rw [ifNT, if_neg l1, if_pos l2, h2, h3]
    by_cases c : n < 300
    · have c1 : zI (n : Int) < (300 : Int32) := ix_b (n := 300) c (by decide)
      have c2 : ¬ (300 : Int32) ≤ zI (n : Int) := ix_a (n := 300) c (by decide)
      have c3 : ¬ zI (n : Int) = 300 := by
        rw [show (300 : Int32) = zI 300 from rfl, zI_eq (rI_n (by omega)) (rI_s (by decide) (by decide))]
        omega
      have hb : n < 2147483648 := by omega
      have e1 : (pkA x 0 (zI (n : Int)) (zI z)).2.1 2 = zI (n : Int) := by rw [pkA_at hb]; exact h2
      have e2 : (pkA m 5 (zI (n : Int)) (zI z)).2.1 6 = zI (n : Int) := by rw [pkA_at hb]; exact h3
      rw [if_pos c1, qb1_s, if_pos rfl, if_neg (ix_nn hb), if_neg c2, if_neg c3, qst_at c (by decide), qn_s, e1, qn_s, qb1_s, qb1_s, qst_at c (by decide), qn_s, e2, qn_s, ix_s]
      refine ⟨zI ((n + 1 : Nat) : Int), pkI (pkA x 0 (zI (n : Int)) (zI z)) 2 (zI ((n + 1 : Nat) : Int)), pkI (pkA m 5 (zI (n : Int)) (zI z)) 6 (zI ((n + 1 : Nat) : Int)), ug tx n z, n + 1, rfl, rfl, ⟨by omega, rfl, rfl, fun j hj => ?_⟩, ⟨fun k hk => ?_, fun k hk => ?_, ?_⟩, ⟨fun k hk => ?_, fun k hk => ?_, ?_⟩⟩
      · rw [pI1, pI1, pAt hb, pAt hb]
        by_cases e : j = n
        · rw [if_pos ⟨rfl, e⟩, if_pos ⟨rfl, e⟩, e, ug_s]
          exact ⟨rfl, rfl, gz⟩
        · rw [if_neg (fun g => e g.2), if_neg (fun g => e g.2), ug_n _ _ e]
          exact h4 j (by omega)
      · rw [pI1, pA1 hb, if_neg hk]
      · rw [pI, if_neg hk, pkA_at hb]
      · rw [pI2, pkA_at hb]
      · rw [pI1, pA1 hb, if_neg hk]
      · rw [pI, if_neg hk, pkA_at hb]
      · rw [pI2, pkA_at hb]
    · have e : n = 300 := by omega
      subst e
      rw [if_neg (by decide), qb1_s, if_neg (by decide), if_pos (by decide)]
      exact ⟨_, x, m, tx, 300, rfl, rfl, T, xSame.rf x, tmSame.rf m⟩
end S
