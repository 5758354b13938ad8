/-! LOAD: both sides -/
section S
variable {x m l t w H k0 k1 k2 k3 k4 k5 k6 k7 : Pk} {tx : Nat → Int} {n nh : Nat} {p pl : Pln} {hs : Nat → Pln}
theorem qb10_s {α1 α2 α3 α4 α5 α6 α7 α8 α9 α10 β : Type} (x1 : α1) (x2 : α2) (x3 : α3) (x4 : α4) (x5 : α5) (x6 : α6) (x7 : α7) (x8 : α8) (x9 : α9) (x10 : α10) (k : α1 → α2 → α3 → α4 → α5 → α6 → α7 → α8 → α9 → α10 → Option β) : qb10 (some (x1, x2, x3, x4, x5, x6, x7, x8, x9, x10)) k = k x1 x2 x3 x4 x5 x6 x7 x8 x9 x10 := rfl
theorem M_ld_loop {c : Nat} (hc : c ≤ 12) : ∀ (k i f : Nat) (m : Pk), i + k = 84 → k < f → (∀ j, j < i → m.1 0 j = if j < 7 * c then m.1 17 j else 0) → ∃ m', fX10_load_b42 f m (zI (c : Int)) (zI (i : Int)) = some (zI (c : Int), m') ∧ (∀ j, j < 84 → m'.1 0 j = if j < 7 * c then m.1 17 j else 0) ∧ (∀ r, ¬ r = 0 → m'.1 r = m.1 r) ∧ m'.2 = m.2 := by
  intro k
  induction k with
  | zero =>
    intro i f m hi hf H
    obtain ⟨g, rfl⟩ : ∃ g, f = g + 1 := ⟨f - 1, by omega⟩
    have e : i = 84 := by omega
    subst e
    show ∃ m', fX10_load_b42_s (fX10_load_b42 g) m (zI (c : Int)) (zI ((84 : Nat) : Int)) = some (zI (c : Int), m') ∧ _
    unfold fX10_load_b42_s
    rw [if_pos (by decide)]
    exact ⟨m, rfl, H, fun _ _ => rfl, rfl⟩
  | succ k ih =>
    intro i f m hi hf H
    obtain ⟨g, rfl⟩ : ∃ g, f = g + 1 := ⟨f - 1, by omega⟩
    have hb : i < 2147483648 := by omega
    have n84 : ¬ (84 : Int32) ≤ zI (i : Int) := ix_a (n := 84) (by omega) (by decide)
    have key : fX10_load_b42 (g + 1) m (zI (c : Int)) (zI (i : Int)) = fX10_load_b42 g (pkA m 0 (zI (i : Int)) (if i < 7 * c then m.1 17 i else 0)) (zI (c : Int)) (zI ((i + 1 : Nat) : Int)) := by
      show fX10_load_b42_s (fX10_load_b42 g) m (zI (c : Int)) (zI (i : Int)) = _
      unfold fX10_load_b42_s fX10_load_b71
      rw [if_neg n84, ix7_0]
      by_cases h : i < 7 * c
      · have c1 : ¬ zI ((7 * c : Nat) : Int) ≤ zI (i : Int) := ix_a h (by omega)
        rw [if_neg c1, if_pos h, qld_at (by omega) (by decide), qst_at (by omega) (by decide), qn_s, qn_s, ix_s]
      · have c1 : zI ((7 * c : Nat) : Int) ≤ zI (i : Int) := ix_c (by omega) (by omega)
        rw [if_pos c1, if_neg h, qst_at (by omega) (by decide), qn_s, qn_s, ix_s]
    obtain ⟨m', a1, a2, a3, a4⟩ := ih (i + 1) g (pkA m 0 (zI (i : Int)) (if i < 7 * c then m.1 17 i else 0)) (by omega) (by omega) (by
      intro j hj
      have e17 : (pkA m 0 (zI (i : Int)) (if i < 7 * c then m.1 17 i else 0)).1 17 = m.1 17 := by rw [pA1 hb, if_neg (by decide)]
      rw [e17, pAt hb]
      by_cases e : j = i
      · rw [if_pos ⟨rfl, e⟩, e]
      · rw [if_neg (fun g => e g.2)]
        exact H j (by omega))
    have e17 : (pkA m 0 (zI (i : Int)) (if i < 7 * c then m.1 17 i else 0)).1 17 = m.1 17 := by rw [pA1 hb, if_neg (by decide)]
    rw [e17] at a2
    refine ⟨m', key.trans a1, a2, fun r hr => ?_, ?_⟩
    · rw [a3 r hr, pA1 hb, if_neg hr]
    · rw [a4, pkA_at hb]
theorem ReM.mo {m' : Pk} (Q : ReM m p) (h : mo m m') : ReM m' p := ⟨by rw [h.1 0 (by decide)]; exact Q.1, by rw [h.2.1 1 (by decide) (by decide) (by decide)]; exact Q.2.1, by rw [h.2.1 2 (by decide) (by decide) (by decide)]; exact Q.2.2⟩
def pLd (p pl : Pln) : Pln := (pP pl, pM pl, pK pl, pX pl, pY pl, pU pl, pV pl, pS p, pB p)
theorem wc_lt {c : Nat} (P : ∀ i, i < 12 → pP pl i = decide (i < c)) : ∀ k : Nat, k ≤ 12 → wc pl k = if k ≤ c then k else c
  | 0, _ => by rw [if_pos (by omega)]; rfl
  | k + 1, h => by
    rw [wc_s, wc_lt P k (by omega), P k (by omega)]
    by_cases e : k < c
    · rw [if_pos (by omega), if_pos (decide_eq_true e), if_pos (by omega)]
    · rw [if_neg (show ¬ decide (k < c) = true by rw [decide_eq_false e]; decide)]
      by_cases e2 : k ≤ c
      · rw [if_pos e2, if_neg (by omega)]; omega
      · rw [if_neg e2, if_neg (by omega)]; omega
/-- what load leaves of the reference -/
def ldM (m m' : Pk) : Prop := (∀ k, ¬ k = 0 → ¬ k = 3 → ¬ k = 17 → m'.1 k = m.1 k) ∧ (∀ k, ¬ k = 1 → ¬ k = 2 → ¬ k = 4 → ¬ k = 7 → ¬ k = 8 → ¬ k = 9 → ¬ k = 14 → ¬ k = 15 → ¬ k = 16 → m'.2.1 k = m.2.1 k) ∧ m'.2.2 = m.2.2
def LdR (c : Option (Int32 × Pk × Pk × Pk × Pk × Pk × Pk × Pk × Pk × Pk × Pk × Pk × Pk × Pk)) (d : Option (Int32 × Pk)) (t m : Pk) (p : Pln) (tx : Nat → Int) (n : Nat) : Prop := ∃ v t' w' l' H' a0 a1 a2 a3 a4 a5 a6 a7 x' m' p' hs' n', c = some (v, t', w', l', H', a0, a1, a2, a3, a4, a5, a6, a7, x') ∧ d = some (v, m') ∧ ReW w' p' ∧ ReM m' p' ∧ VP p' ∧ Hi H' a0 a1 a2 a3 a4 a5 a6 a7 m' hs' n' ∧ TX x' m' tx n ∧ TF x' m' ∧ (l'.2.1 7 = zI 5 ∧ l'.2.1 8 = zI 1) ∧ ldM m m' ∧ ((t' = t ∧ p' = p) ∨ t' = pkI t 12 0)
theorem S_load (R : ReW w p) (Q : ReM m p) (V : VP p) (h : Hi H k0 k1 k2 k3 k4 k5 k6 k7 m hs nh) (T : TX x m tx n) (F : TF x m) (hl : l.2.1 7 = zI 5 ∧ l.2.1 8 = zI 1) : LdR (fX9_load t w l H k0 k1 k2 k3 k4 k5 k6 k7 x) (fX10_load m) t m p tx n := by
  unfold fX9_load fX10_load
  rcases J_readAll (s := 5) (b := 1) hl.1 hl.2 (by decide) (by decide) T with ⟨c, x', m', l', pl', a1, a2, a3, a4, a5, a6, a7, a8, a9, a10, a11, a12, a13⟩ | ⟨it, x', m', l', pl', a1, a2, a3, a4, a5, a6, a7, a8⟩
  · rw [a1, a2, qb2_s, qb3_s]
    have Q1 : ReM m' p := Q.mo a13
    have h1 : Hi H k0 k1 k2 k3 k4 k5 k6 k7 m' hs nh := h.of (a13.1 3 (by decide)) (a13.2.1 4 (by decide) (by decide) (by decide))
    obtain ⟨H', b0, b1, b2', b3, b4, b5, b6, b7, m1, c1, c2, c3, c4⟩ := E_begin (t := t) R Q1 V h1
    rw [if_neg (by decide), a10, if_pos (by decide), c1, c2, qb10_s, qb1_s]
    obtain ⟨w', d1, d2, d3⟩ := C_copy_loop a4 FU 0 w (by omega) (FU_12 0) (fun j hj => absurd hj (by omega))
    obtain ⟨m3, g1, g2, g3, g4⟩ := M_ld_loop (c := c) a3 84 0 FU m1 rfl (by decide) (fun j hj => absurd hj (by omega))
    have R' : ReW w' (pLd p pl') := ⟨d2, by rw [d3]; exact R.2.1, by rw [d3]; exact R.2.2⟩
    have e17 : m1.1 17 = m'.1 17 := c3.1 17 (by decide)
    have Q' : ReM m3 (pLd p pl') := by
      refine ⟨fun i hi => ?_, ?_, ?_⟩
      · rw [Nat.zero_add]
        show m3.1 0 (7 * i) = b2 (pP pl' i) ∧ (pP pl' i = true → m3.1 0 (7 * i + 1) = zI (pX pl' i) ∧ m3.1 0 (7 * i + 2) = zI (pY pl' i) ∧ m3.1 0 (7 * i + 3) = zI (pU pl' i) ∧ m3.1 0 (7 * i + 4) = zI (pV pl' i) ∧ m3.1 0 (7 * i + 5) = zI (pK pl' i) ∧ m3.1 0 (7 * i + 6) = b2 (pM pl' i))
        have P := a8 i hi
        by_cases e : i < c
        · rw [decide_eq_true e] at P
          obtain ⟨t0, t1, t2, t3, t4, t5, t6⟩ := a9 i e
          rw [P, g2 _ (by omega), g2 _ (by omega), g2 _ (by omega), g2 _ (by omega), g2 _ (by omega), g2 _ (by omega), g2 _ (by omega), if_pos (by omega), if_pos (by omega), if_pos (by omega), if_pos (by omega), if_pos (by omega), if_pos (by omega), if_pos (by omega), e17]
          exact ⟨t0, fun _ => ⟨t1, t2, t3, t4, t5, t6⟩⟩
        · rw [decide_eq_false e] at P
          rw [P, g2 _ (by omega), if_neg (by omega)]
          exact ⟨rfl, fun g => absurd g Bool.false_ne_true⟩
      · rw [g4]; exact (Q1.eS c3).2.1
      · rw [g4]; exact (Q1.eS c3).2.2
    have T1 : TX x' m1 tx n := by
      obtain ⟨e1, e2, e3, e4⟩ := a11
      exact ⟨e1, e2, by rw [c3.2.1 6 (by decide)]; exact e3, fun j hj => by rw [c3.1 5 (by decide)]; exact e4 j hj⟩
    have T3 : TX x' m3 tx n := by
      obtain ⟨e1, e2, e3, e4⟩ := T1
      exact ⟨e1, e2, by rw [g4]; exact e3, fun j hj => by rw [g3 5 (by decide)]; exact e4 j hj⟩
    refine ⟨zI (c : Int), pkI t 12 0, w', l', H', b0, b1, b2', b3, b4, b5, b6, b7, x', m3, pLd p pl', psh p hs, nk nh, ?_, g1, R', Q', ⟨a5.1, V.2⟩, c4.of (by rw [g3 3 (by decide)]) (by rw [g4]), T3, ⟨?_, ?_, ?_⟩, ⟨by rw [a4.2.1, a6]; rfl, by rw [a4.2.2, a7]; rfl⟩, ⟨fun k h0 h3 h17 => ?_, fun k h1 h2 h4 h7 h8 h9 h14 h15 h16 => ?_, ?_⟩, Or.inr rfl⟩
    · have e0 : fX8_copyWalls l' w = some w' := by unfold fX8_copyWalls; exact d1
      rw [e0, qb1_s, C_total R', qb1_s]
      have : wc (pLd p pl') 12 = c := by
        have := wc_lt (pl := pLd p pl') (c := c) a8 12 (by omega)
        rw [this]
        by_cases e : 12 ≤ c
        · rw [if_pos e]; omega
        · rw [if_neg e]
      rw [this]
    · rw [a12.2.1 4 (by decide), g4, c3.2.1 7 (by decide), a13.2.1 7 (by decide) (by decide) (by decide)]; exact F.1
    · rw [a12.2.1 5 (by decide), g4, c3.2.1 8 (by decide), a13.2.1 8 (by decide) (by decide) (by decide)]; exact F.2.1
    · rw [a12.2.1 6 (by decide), g4, c3.2.1 9 (by decide), a13.2.1 9 (by decide) (by decide) (by decide)]; exact F.2.2
    · rw [g3 k h0, c3.1 k h3, a13.1 k h17]
    · rw [g4, c3.2.1 k h4, a13.2.1 k h14 h15 h16]
    · rw [g4, c3.2.2, a13.2.2]
  · obtain ⟨w1, w2, w3, kk, w5, w6⟩ := id a6
    have n15 : ¬ m'.2.1 15 ≤ 0 := by
      rw [w5, z0, zI_le (rI_n (by omega)) r0]; omega
    rw [a1, a2, qb2_s, qb3_s]
    rw [if_pos rfl, if_neg n15, qn_s, qn_s, qn_s]
    have fm : ldM m (pkI (pkI (pkI m' 7 (m'.2.1 16)) 8 ((pkI m' 7 (m'.2.1 16)).2.1 15)) 9 it) := by
      refine ⟨fun k h0 h3 h17 => a8.1 k h17, fun k h1 h2 h4 h7 h8 h9 h14 h15 h16 => ?_, a8.2.2⟩
      rw [pI, if_neg h9, pI, if_neg h8, pI, if_neg h7, a8.2.1 k h14 h15 h16]
    have Q1 : ReM m' p := Q.mo a8
    have h1 : Hi H k0 k1 k2 k3 k4 k5 k6 k7 m' hs nh := h.of (a8.1 3 (by decide)) (a8.2.1 4 (by decide) (by decide) (by decide))
    have T1 := T.xm a7 a8
    exact ⟨-9, t, w, l', H, k0, k1, k2, k3, k4, k5, k6, k7, x', _, p, hs, nh, rfl, rfl, R, Q1, V, h1.of rfl rfl, T1, ⟨w1, w2, w3⟩, ⟨by rw [a3.2.1, a4]; rfl, by rw [a3.2.2, a5]; rfl⟩, fm, Or.inl ⟨rfl, rfl⟩⟩
end S
