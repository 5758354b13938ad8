/-! HISTORY: the reference's past, kept and undone -/
section S
variable {p : Pln} {m : Pk} {i : Nat}
def PA (m : Pk) (o : Nat) (p : Pln) : Prop := ReA (m.1 3) o p ∧ m.1 3 (o + 84) = zI (pS p) ∧ m.1 3 (o + 85) = zI (pB p)
def MH (m : Pk) (hs : Nat → Pln) (n : Nat) : Prop := n ≤ 8 ∧ m.2.1 4 = zI (n : Int) ∧ ∀ d, d < n → PA m (86 * (n - 1 - d)) (hs d)
theorem ReA.of {f g : Nat → Int32} {o o' : Nat} (h : ReA f o p) (e : ∀ j, j < 84 → g (o' + j) = f (o + j)) : ReA g o' p := by
  intro i hi
  obtain ⟨a, b⟩ := h i hi
  refine ⟨by rw [e (7 * i) (by omega)]; exact a, fun hp => ?_⟩
  obtain ⟨b1, b2, b3, b4, b5, b6⟩ := b hp
  refine ⟨?_, ?_, ?_, ?_, ?_, ?_⟩
  · rw [← b1, Nat.add_assoc, Nat.add_assoc]; exact e (7 * i + 1) (by omega)
  · rw [← b2, Nat.add_assoc, Nat.add_assoc]; exact e (7 * i + 2) (by omega)
  · rw [← b3, Nat.add_assoc, Nat.add_assoc]; exact e (7 * i + 3) (by omega)
  · rw [← b4, Nat.add_assoc, Nat.add_assoc]; exact e (7 * i + 4) (by omega)
  · rw [← b5, Nat.add_assoc, Nat.add_assoc]; exact e (7 * i + 5) (by omega)
  · rw [← b6, Nat.add_assoc, Nat.add_assoc]; exact e (7 * i + 6) (by omega)
theorem PA.of {m m' : Pk} {o o' : Nat} (h : PA m o p) (e : ∀ j, j < 86 → m'.1 3 (o' + j) = m.1 3 (o + j)) : PA m' o' p :=
  ⟨h.1.of (fun j hj => e j (by omega)), (e 84 (by decide)).trans h.2.1, (e 85 (by decide)).trans h.2.2⟩
theorem M_shift_loop (f : Nat → Int32) : ∀ (k i : Nat) (m : Pk), i ≤ 602 → 602 - i < k → (∀ j, j < i → m.1 3 j = f (j + 86)) → (∀ j, i ≤ j → j < 688 → m.1 3 j = f j) → ∃ m', fX10_keep_b11 k m (zI (i : Int)) = fX10_keep_b49 (pkI m' 4 (m'.2.1 4 - 1)) ∧ eSame m m' ∧ m'.2.1 4 = m.2.1 4 ∧ (∀ j, j < 602 → m'.1 3 j = f (j + 86)) := by
  intro k
  induction k with
  | zero => intro i m _ h; omega
  | succ k ih =>
    intro i m hi hk H1 H2
    show ∃ m', fX10_keep_b11_s (fX10_keep_b11 k) m (zI (i : Int)) = _ ∧ _
    unfold fX10_keep_b11_s
    by_cases h : i < 602
    · have hn1 : ¬ (602 : Int32) ≤ zI (i : Int) := ix_a (n := 602) h (by decide)
      have hb : i < 2147483648 := by omega
      have i8 : zI (i : Int) + 86 = zI ((i + 86 : Nat) : Int) := by
        rw [show (86 : Int32) = zI 86 from rfl, zI_add]
        congr 1
      rw [if_neg hn1, i8, qld_at (by omega) (by decide), qst_at (by omega) (by decide), qn_s, qn_s, ix_s]
      have s1 := eSame.A m hb (m.1 3 (i + 86))
      obtain ⟨m', a1, a2, a3, a4⟩ := ih (i + 1) (pkA m 3 (zI (i : Int)) (m.1 3 (i + 86))) (by omega) (by omega) (by
        intro j hj
        rw [pAt hb]
        by_cases c : j = i
        · rw [if_pos ⟨rfl, c⟩, c]
          exact H2 (i + 86) (by omega) (by omega)
        · rw [if_neg (fun g => c g.2)]
          exact H1 j (by omega)) (by
        intro j h1 h2
        rw [pAt hb, if_neg (fun g => by omega)]
        exact H2 j (by omega) h2)
      exact ⟨m', a1, s1.tr a2, a3.trans (by rw [pkA_at hb]), a4⟩
    · have e : i = 602 := by omega
      subst e
      have hn1 : (602 : Int32) ≤ zI ((602 : Nat) : Int) := by decide
      rw [if_pos hn1, qn_s]
      exact ⟨m, rfl, eSame.rf m, rfl, H1⟩
theorem ReM.eS {m m' : Pk} (Q : ReM m p) (s : eSame m m') : ReM m' p := ⟨by rw [s.1 0 (by decide)]; exact Q.1, (s.2.1 1 (by decide)).trans Q.2.1, (s.2.1 2 (by decide)).trans Q.2.2⟩
theorem M_keep_b49 {n : Nat} {hs : Nat → Pln} (Q : ReM m p) (hn : n < 8) (h4 : m.2.1 4 = zI (n : Int)) (H : ∀ d, d < n → PA m (86 * (n - 1 - d)) (hs d)) : ∃ m', fX10_keep_b49 m = some m' ∧ eSame m m' ∧ MH m' (psh p hs) (n + 1) := by
  unfold fX10_keep_b49
  obtain ⟨m', a1, a2, a3, a4, a5, a6, a7⟩ := M_keep_loop hn FU 0 m (by omega) (by decide) h4 (fun j hj => absurd hj (by omega))
  refine ⟨m', a1, a2, by omega, a3, fun d hd => ?_⟩
  unfold psh
  by_cases c : d = 0
  · rw [if_pos c, c, show n + 1 - 1 - 0 = n by omega]
    refine ⟨Q.1.of (fun j hj => ?_), a6.trans Q.2.1, a7.trans Q.2.2⟩
    rw [a5 j hj, Nat.zero_add]
  · rw [if_neg c, show n + 1 - 1 - d = n - 1 - (d - 1) by omega]
    exact (H (d - 1) (by omega)).of (fun j hj => a4 _ (by omega))
theorem z87 : zI ((8 : Nat) : Int) - 1 = zI ((7 : Nat) : Int) := by decide
theorem M_keep8 {hs : Nat → Pln} {n : Nat} (e7 : n = 7) (Q : ReM m p) (h4 : m.2.1 4 = zI ((n + 1 : Nat) : Int)) (hd : ∀ d, d < n + 1 → PA m (86 * (n - d)) (hs d)) : ∃ m', fX10_keep_b11 FU m (zI ((0 : Nat) : Int)) = some m' ∧ eSame m m' ∧ MH m' (psh p hs) (n + 1) := by
  obtain ⟨m1, a1, a2, a3, a4⟩ := M_shift_loop (m.1 3) FU 0 m (by omega) (by decide) (fun j hj => absurd hj (by omega)) (fun _ _ _ => rfl)
  have s1 := eSame.I m1 (m1.2.1 4 - 1)
  have Q1 := (Q.eS a2).eS s1
  have h41 : (pkI m1 4 (m1.2.1 4 - 1)).2.1 4 = zI (n : Int) := by
    rw [pI, if_pos rfl, a3, h4, e7]
    exact z87
  have hd1 : ∀ d, d < n → PA (pkI m1 4 (m1.2.1 4 - 1)) (86 * (n - 1 - d)) (hs d) := by
    intro d hd'
    refine (hd d (by omega)).of (fun j hj => ?_)
    have e := a4 (86 * (n - 1 - d) + j) (by omega)
    rw [show 86 * (n - 1 - d) + j + 86 = 86 * (n - d) + j by omega] at e
    rw [pI1]
    exact e
  obtain ⟨m2, b1, b2, b3⟩ := M_keep_b49 (n := n) (hs := hs) Q1 (by omega) h41 hd1
  exact ⟨m2, a1.trans b1, (a2.tr s1).tr b2, b3⟩
theorem M_keep {n : Nat} {hs : Nat → Pln} (Q : ReM m p) (H : MH m hs n) : ∃ m', fX10_keep m = some m' ∧ eSame m m' ∧ MH m' (psh p hs) (nk n) := by
  obtain ⟨hn, h4, hd⟩ := H
  unfold fX10_keep
  by_cases c : n = 8
  · obtain ⟨k, hk⟩ : ∃ k, k = 7 := ⟨7, rfl⟩
    have e : n = k + 1 := by omega
    have ek : nk n = k + 1 := by
      unfold nk
      rw [if_pos c]
      omega
    have n8 : zI (n : Int) = 8 := by
      rw [c]
      decide
    rw [h4, if_pos n8, ek]
    refine M_keep8 hk Q (by rw [h4, e]) (fun d hd' => ?_)
    have := hd d (by omega)
    rwa [show n - 1 - d = k - d by omega] at this
  · have hn1 : ¬ zI (n : Int) = 8 := by
      rw [show (8 : Int32) = zI 8 from rfl, zI_eq (rI_n (by omega)) (rI_s (by decide) (by decide))]
      omega
    have ek : nk n = n + 1 := by
      unfold nk
      rw [if_neg c]
    rw [h4, if_neg hn1, ek]
    exact M_keep_b49 Q (by omega) h4 hd
/-- what undo changes -/
def uSame (m m' : Pk) : Prop := (∀ k, ¬ k = 0 → m'.1 k = m.1 k) ∧ (∀ k, ¬ k = 1 → ¬ k = 2 → ¬ k = 4 → m'.2.1 k = m.2.1 k) ∧ m'.2.2 = m.2.2
theorem M_undo_loop {n : Nat} (hn : n < 8) : ∀ (k i : Nat) (m : Pk), i ≤ 84 → 84 - i < k → m.2.1 4 = zI (n : Int) → (∀ j, j < i → m.1 0 j = m.1 3 (86 * n + j)) → ∃ m', fX10_undo_b22 k m (zI (i : Int)) = some (zI (n : Int), m') ∧ uSame m m' ∧ m'.2.1 4 = zI (n : Int) ∧ (∀ j, j < 84 → m'.1 0 j = m.1 3 (86 * n + j)) ∧ m'.2.1 1 = m.1 3 (86 * n + 84) ∧ m'.2.1 2 = m.1 3 (86 * n + 85) := by
  intro k
  induction k with
  | zero => intro i m _ h; omega
  | succ k ih =>
    intro i m hi hk h4 H
    show ∃ m', fX10_undo_b22_s (fX10_undo_b22 k) m (zI (i : Int)) = _ ∧ _
    unfold fX10_undo_b22_s
    by_cases h : i < 84
    · have hn1 : ¬ (84 : Int32) ≤ zI (i : Int) := ix_a (n := 84) h (by decide)
      have hb : i < 2147483648 := by omega
      rw [if_neg hn1, h4, ix86, qld_at (by omega) (by decide), qst_at h (by decide), qn_s, qn_s, ix_s]
      have r3 : (pkA m 0 (zI (i : Int)) (m.1 3 (86 * n + i))).1 3 = m.1 3 := by rw [pA1 hb, if_neg (by decide)]
      obtain ⟨m', a1, a2, a3, a4, a5, a6⟩ := ih (i + 1) (pkA m 0 (zI (i : Int)) (m.1 3 (86 * n + i))) (by omega) (by omega) (by rw [pkA_at hb]; exact h4) (by
        intro j hj
        rw [r3, pAt hb]
        by_cases c : j = i
        · rw [if_pos ⟨rfl, c⟩, c]
        · rw [if_neg (fun g => c g.2)]
          exact H j (by omega))
      rw [r3] at a4 a5 a6
      refine ⟨m', a1, ⟨fun k hk => ?_, fun k k1 k2 k4 => ?_, ?_⟩, a3, a4, a5, a6⟩
      · rw [a2.1 k hk, pA1 hb, if_neg hk]
      · rw [a2.2.1 k k1 k2 k4, pkA_at hb]
      · rw [a2.2.2, pkA_at hb]
    · have e : i = 84 := by omega
      subst e
      have hn1 : (84 : Int32) ≤ zI ((84 : Nat) : Int) := by decide
      have i4 : (86 : Int32) * zI (n : Int) + 84 = zI ((86 * n + 84 : Nat) : Int) := ix86 n 84
      have i5 : (86 : Int32) * zI (n : Int) + 85 = zI ((86 * n + 85 : Nat) : Int) := ix86 n 85
      have g4 : (pkI m 1 (m.1 3 (86 * n + 84))).2.1 4 = zI (n : Int) := h4
      have g5 : (pkI (pkI m 1 (m.1 3 (86 * n + 84))) 2 (m.1 3 (86 * n + 85))).2.1 4 = zI (n : Int) := h4
      rw [if_pos hn1, h4, i4, qld_at (by omega) (by decide), qn_s, g4, i5, qld_at (by omega) (by decide), qn_s]
      refine ⟨pkI (pkI m 1 (m.1 3 (86 * n + 84))) 2 (m.1 3 (86 * n + 85)), by rw [pI1, g5], ⟨fun k hk => rfl, fun k k1 k2 k4 => ?_, rfl⟩, g5, H, ?_, ?_⟩
      · rw [pI, if_neg k2, pI, if_neg k1]
      · rw [pI, if_neg (by decide), pI, if_pos rfl]
      · rw [pI, if_pos rfl]
theorem M_undo_0 {hs : Nat → Pln} (H : MH m hs 0) : fX10_undo m = some (-5, m) := by
  unfold fX10_undo
  rw [H.2.1, if_pos (by decide)]
theorem M_undo {n : Nat} {hs : Nat → Pln} (h0 : 0 < n) (H : MH m hs n) : ∃ m', fX10_undo m = some (zI ((n - 1 : Nat) : Int), m') ∧ uSame m m' ∧ ReM m' (hs 0) ∧ MH m' (fun d => hs (d + 1)) (n - 1) := by
  obtain ⟨hn, h4, hd⟩ := H
  have n0 : ¬ zI (n : Int) = 0 := by rw [z0, zI_eq (rI_n (by omega)) r0]; omega
  have n1 : zI (n : Int) - 1 = zI ((n - 1 : Nat) : Int) := by rw [show (1 : Int32) = zI 1 from rfl, zI_sub]; congr 1; omega
  unfold fX10_undo
  rw [h4, if_neg n0, n1, qn_s]
  obtain ⟨m', a1, a2, a3, a4, a5, a6⟩ := M_undo_loop (n := n - 1) (by omega) FU 0 (pkI m 4 (zI ((n - 1 : Nat) : Int))) (by omega) (by decide) (by rw [pI, if_pos rfl]) (fun j hj => absurd hj (by omega))
  have hp := hd 0 h0
  rw [show n - 1 - 0 = n - 1 by omega] at hp
  refine ⟨m', a1, ⟨a2.1, fun k k1 k2 k4 => ?_, a2.2.2⟩, ⟨hp.1.of (fun j hj => ?_), a5.trans hp.2.1, a6.trans hp.2.2⟩, by omega, a3, fun d hd' => ?_⟩
  · rw [a2.2.1 k k1 k2 k4, pI, if_neg k4]
  · rw [Nat.zero_add, a4 j hj]; rfl
  · have := hd (d + 1) (by omega)
    rw [show n - 1 - (d + 1) = n - 1 - 1 - d by omega] at this
    exact this.of (fun j hj => by rw [a2.1 3 (by decide)]; rfl)
end S
