/-! HISTORY: the reference's past -/
section S
variable {p : Pln} {m : Pk} {i : Nat}
def eSame (m m' : Pk) : Prop := (∀ k, ¬ k = 3 → m'.1 k = m.1 k) ∧ (∀ k, ¬ k = 4 → m'.2.1 k = m.2.1 k) ∧ m'.2.2 = m.2.2
theorem eSame.rf (m : Pk) : eSame m m := ⟨fun _ _ => rfl, fun _ _ => rfl, rfl⟩
theorem eSame.tr {a b c : Pk} (h : eSame a b) (g : eSame b c) : eSame a c := ⟨fun k hk => (g.1 k hk).trans (h.1 k hk), fun k hk => (g.2.1 k hk).trans (h.2.1 k hk), g.2.2.trans h.2.2⟩
theorem eSame.A (m : Pk) {i : Nat} (h : i < 2147483648) (v : Int32) : eSame m (pkA m 3 (zI (i : Int)) v) := by
  refine ⟨fun k hk => ?_, fun k _ => ?_, ?_⟩
  · rw [pA1 h, if_neg hk]
  · rw [pkA_at h]
  · rw [pkA_at h]
theorem eSame.I (m : Pk) (v : Int32) : eSame m (pkI m 4 v) := ⟨fun _ _ => rfl, fun k hk => by rw [pI, if_neg hk], rfl⟩
theorem ix86 (n y : Nat) : (86 : Int32) * zI (n : Int) + zI (y : Int) = zI ((86 * n + y : Nat) : Int) := by
  rw [show (86 : Int32) = zI 86 from rfl, zI_mul, zI_add]
  congr 1
theorem M_keep_loop {n : Nat} (hn : n < 8) : ∀ (k i : Nat) (m : Pk), i ≤ 84 → 84 - i < k → m.2.1 4 = zI (n : Int) → (∀ j, j < i → m.1 3 (86 * n + j) = m.1 0 j) → ∃ m', fX10_keep_b51 k m (zI (i : Int)) = some m' ∧ eSame m m' ∧ m'.2.1 4 = zI ((n + 1 : Nat) : Int) ∧ (∀ j, j < 86 * n → m'.1 3 j = m.1 3 j) ∧ (∀ j, j < 84 → m'.1 3 (86 * n + j) = m.1 0 j) ∧ m'.1 3 (86 * n + 84) = m.2.1 1 ∧ m'.1 3 (86 * n + 85) = m.2.1 2 := by
  intro k
  induction k with
  | zero => intro i m _ h; omega
  | succ k ih =>
    intro i m hi hk h4 H
    show ∃ m', fX10_keep_b51_s (fX10_keep_b51 k) m (zI (i : Int)) = some m' ∧ _
    unfold fX10_keep_b51_s
    by_cases h : i < 84
    · have hn1 : ¬ (84 : Int32) ≤ zI (i : Int) := ix_a (n := 84) h (by decide)
      have hb : 86 * n + i < 2147483648 := by omega
      rw [if_neg hn1, qld_at h (by decide), h4, ix86, qst_at (by omega) (by decide), qn_s, qn_s, ix_s]
      have s1 := eSame.A m hb (m.1 0 i)
      have r0' : (pkA m 3 (zI ((86 * n + i : Nat) : Int)) (m.1 0 i)).1 0 = m.1 0 := s1.1 0 (by decide)
      obtain ⟨m', a1, a2, a3, a4, a5, a6, a7⟩ := ih (i + 1) (pkA m 3 (zI ((86 * n + i : Nat) : Int)) (m.1 0 i)) (by omega) (by omega) (by rw [pkA_at hb]; exact h4) (by
        intro j hj
        rw [r0', pAt hb]
        by_cases c : j = i
        · rw [if_pos ⟨rfl, by omega⟩, c]
        · rw [if_neg (fun g => c (by omega))]
          exact H j (by omega))
      refine ⟨m', a1, s1.tr a2, a3, fun j hj => ?_, fun j hj => ?_, ?_, ?_⟩
      · rw [a4 j hj, pAt hb, if_neg (fun g => by omega)]
      · rw [a5 j hj, r0']
      · rw [a6]; exact s1.2.1 1 (by decide)
      · rw [a7]; exact s1.2.1 2 (by decide)
    · have e : i = 84 := by omega
      subst e
      have hn1 : (84 : Int32) ≤ zI ((84 : Nat) : Int) := by decide
      have hb4 : 86 * n + 84 < 2147483648 := by omega
      have hb5 : 86 * n + 85 < 2147483648 := by omega
      have i4 : (86 : Int32) * zI (n : Int) + 84 = zI ((86 * n + 84 : Nat) : Int) := ix86 n 84
      have i5 : (86 : Int32) * zI (n : Int) + 85 = zI ((86 * n + 85 : Nat) : Int) := ix86 n 85
      have s1 := eSame.A m hb4 (m.2.1 1)
      have s2 := eSame.A (pkA m 3 (zI ((86 * n + 84 : Nat) : Int)) (m.2.1 1)) hb5 (m.2.1 2)
      have g4 : (pkA m 3 (zI ((86 * n + 84 : Nat) : Int)) (m.2.1 1)).2.1 = m.2.1 := by rw [pkA_at hb4]
      have g5 : (pkA (pkA m 3 (zI ((86 * n + 84 : Nat) : Int)) (m.2.1 1)) 3 (zI ((86 * n + 85 : Nat) : Int)) (m.2.1 2)).2.1 = m.2.1 := by rw [pkA_at hb5, g4]
      rw [if_pos hn1, h4, i4, qst_at (by omega) (by decide), qn_s, g4, h4, i5, qst_at (by omega) (by decide), qn_s, g5, h4, qn_s, ix_s]
      refine ⟨_, rfl, (s1.tr s2).tr (eSame.I _ _), ?_, fun j hj => ?_, fun j hj => ?_, ?_, ?_⟩
      · rw [pI, if_pos rfl]
      · rw [pI1, pAt hb5, if_neg (fun g => by omega), pAt hb4, if_neg (fun g => by omega)]
      · rw [pI1, pAt hb5, if_neg (fun g => by omega), pAt hb4, if_neg (fun g => by omega)]
        exact H j hj
      · rw [pI1, pAt hb5, if_neg (fun g => by omega), pAt hb4, if_pos ⟨rfl, rfl⟩]
      · rw [pI1, pAt hb5, if_pos ⟨rfl, rfl⟩]
end S
