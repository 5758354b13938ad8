/-! HISTORY: the class's ring of eight -/
section S
variable {p : Pln} {o H k0 k1 k2 k3 k4 k5 k6 k7 : Pk}
def sel (k0 k1 k2 k3 k4 k5 k6 k7 : Pk) (j : Nat) : Pk := if j = 0 then k0 else if j = 1 then k1 else if j = 2 then k2 else if j = 3 then k3 else if j = 4 then k4 else if j = 5 then k5 else if j = 6 then k6 else k7
/-- the plan before n edits, the newest first; the newest is p -/
def psh (p : Pln) (hs : Nat → Pln) (d : Nat) : Pln := if d = 0 then p else hs (d - 1)
def nk (n : Nat) : Nat := if n = 8 then 8 else n + 1
def CH (H k0 k1 k2 k3 k4 k5 k6 k7 : Pk) (hs : Nat → Pln) (n : Nat) : Prop := n ≤ 8 ∧ ∃ q : Nat, q < 8 ∧ H.2.1 1 = zI (q : Int) ∧ H.2.1 2 = zI (n : Int) ∧ ∀ d, d < n → ReW (sel k0 k1 k2 k3 k4 k5 k6 k7 ((q + 7 - d) % 8)) (hs d)
theorem ring_push {f g : Nat → Pk} {q q' n : Nat} {hs : Nat → Pln} (hq : q < 8) (hn : n ≤ 8) (hq' : q' = (q + 1) % 8) (h1 : ∀ j, j < 8 → ¬ j = q → g j = f j) (h2 : ReW (g q) p) (h3 : ∀ d, d < n → ReW (f ((q + 7 - d) % 8)) (hs d)) : ∀ d, d < nk n → ReW (g ((q' + 7 - d) % 8)) (psh p hs d) := by
  intro d hd
  have hd8 : d < 8 ∧ d ≤ n := by
    unfold nk at hd
    split at hd <;> omega
  unfold psh
  by_cases c : d = 0
  · rw [if_pos c, show (q' + 7 - d) % 8 = q by omega]
    exact h2
  · rw [if_neg c, show (q' + 7 - d) % 8 = (q + 7 - (d - 1)) % 8 by omega, h1 _ (by omega) (by omega)]
    exact h3 (d - 1) (by omega)
theorem keep_tail {n : Nat} (hn : n ≤ 8) (h2 : H.2.1 2 = zI (n : Int)) (z : Int32) : fX2_keep_b41 o H k0 k1 k2 k3 k4 k5 k6 k7 z = some (pkI (pkI H 1 z) 2 (zI (nk n : Nat)), k0, k1, k2, k3, k4, k5, k6, k7) := by
  unfold fX2_keep_b41 fX2_keep_b65 nk
  have e : (pkI H 1 z).2.1 2 = zI (n : Int) := h2
  rw [qn_s, e]
  by_cases c : n = 8
  · subst c
    rw [if_pos (by decide), if_pos rfl, qn_s]
    rfl
  · have hn1 : ¬ (8 : Int32) ≤ zI (n : Int) := ix_a (n := 8) (by omega) (by decide)
    rw [if_neg hn1, if_neg c, qn_s, ix_s]
theorem C_keep {hs : Nat → Pln} {n : Nat} (R : ReW o p) (C : CH H k0 k1 k2 k3 k4 k5 k6 k7 hs n) : ∃ H' a0 a1 a2 a3 a4 a5 a6 a7, fX2_keep o H k0 k1 k2 k3 k4 k5 k6 k7 = some (H', a0, a1, a2, a3, a4, a5, a6, a7) ∧ CH H' a0 a1 a2 a3 a4 a5 a6 a7 (psh p hs) (nk n) := by
  obtain ⟨hn, q, hq, h1, h2, h3⟩ := C
  have nk8 : nk n ≤ 8 := by unfold nk; split <;> omega
  have cs : q = 0 ∨ q = 1 ∨ q = 2 ∨ q = 3 ∨ q = 4 ∨ q = 5 ∨ q = 6 ∨ q = 7 := by omega
  unfold fX2_keep
  rcases cs with rfl | rfl | rfl | rfl | rfl | rfl | rfl | rfl
  · obtain ⟨u, e1, e2⟩ := C_copyFrom R k0
    rw [h1, if_pos (by decide), e1, qb1_s, if_neg (by decide), keep_tail hn h2]
    refine ⟨_, _, _, _, _, _, _, _, _, rfl, nk8, 1, by decide, ?_, ?_, ?_⟩
    · rw [pI, if_neg (by decide), pI, if_pos rfl]; rfl
    · rw [pI, if_pos rfl]
    · refine ring_push (f := sel k0 k1 k2 k3 k4 k5 k6 k7) (g := sel u k1 k2 k3 k4 k5 k6 k7) (q := 0) (q' := 1) (by decide) hn (by decide) ?_ e2 h3
      intro j hj hne
      unfold sel
      have cj : j = 0 ∨ j = 1 ∨ j = 2 ∨ j = 3 ∨ j = 4 ∨ j = 5 ∨ j = 6 ∨ j = 7 := by omega
      rcases cj with rfl | rfl | rfl | rfl | rfl | rfl | rfl | rfl <;> first | rfl | exact absurd rfl hne
  · obtain ⟨u, e1, e2⟩ := C_copyFrom R k1
    rw [h1, if_neg (by decide), if_pos (by decide), e1, qb1_s, if_neg (by decide), keep_tail hn h2]
    refine ⟨_, _, _, _, _, _, _, _, _, rfl, nk8, 2, by decide, ?_, ?_, ?_⟩
    · rw [pI, if_neg (by decide), pI, if_pos rfl]; rfl
    · rw [pI, if_pos rfl]
    · refine ring_push (f := sel k0 k1 k2 k3 k4 k5 k6 k7) (g := sel k0 u k2 k3 k4 k5 k6 k7) (q := 1) (q' := 2) (by decide) hn (by decide) ?_ e2 h3
      intro j hj hne
      unfold sel
      have cj : j = 0 ∨ j = 1 ∨ j = 2 ∨ j = 3 ∨ j = 4 ∨ j = 5 ∨ j = 6 ∨ j = 7 := by omega
      rcases cj with rfl | rfl | rfl | rfl | rfl | rfl | rfl | rfl <;> first | rfl | exact absurd rfl hne
  · obtain ⟨u, e1, e2⟩ := C_copyFrom R k2
    rw [h1, if_neg (by decide), if_neg (by decide), if_pos (by decide), e1, qb1_s, if_neg (by decide), keep_tail hn h2]
    refine ⟨_, _, _, _, _, _, _, _, _, rfl, nk8, 3, by decide, ?_, ?_, ?_⟩
    · rw [pI, if_neg (by decide), pI, if_pos rfl]; rfl
    · rw [pI, if_pos rfl]
    · refine ring_push (f := sel k0 k1 k2 k3 k4 k5 k6 k7) (g := sel k0 k1 u k3 k4 k5 k6 k7) (q := 2) (q' := 3) (by decide) hn (by decide) ?_ e2 h3
      intro j hj hne
      unfold sel
      have cj : j = 0 ∨ j = 1 ∨ j = 2 ∨ j = 3 ∨ j = 4 ∨ j = 5 ∨ j = 6 ∨ j = 7 := by omega
      rcases cj with rfl | rfl | rfl | rfl | rfl | rfl | rfl | rfl <;> first | rfl | exact absurd rfl hne
  · obtain ⟨u, e1, e2⟩ := C_copyFrom R k3
    rw [h1, if_neg (by decide), if_neg (by decide), if_neg (by decide), if_pos (by decide), e1, qb1_s, if_neg (by decide), keep_tail hn h2]
    refine ⟨_, _, _, _, _, _, _, _, _, rfl, nk8, 4, by decide, ?_, ?_, ?_⟩
    · rw [pI, if_neg (by decide), pI, if_pos rfl]; rfl
    · rw [pI, if_pos rfl]
    · refine ring_push (f := sel k0 k1 k2 k3 k4 k5 k6 k7) (g := sel k0 k1 k2 u k4 k5 k6 k7) (q := 3) (q' := 4) (by decide) hn (by decide) ?_ e2 h3
      intro j hj hne
      unfold sel
      have cj : j = 0 ∨ j = 1 ∨ j = 2 ∨ j = 3 ∨ j = 4 ∨ j = 5 ∨ j = 6 ∨ j = 7 := by omega
      rcases cj with rfl | rfl | rfl | rfl | rfl | rfl | rfl | rfl <;> first | rfl | exact absurd rfl hne
  · obtain ⟨u, e1, e2⟩ := C_copyFrom R k4
    rw [h1, if_neg (by decide), if_neg (by decide), if_neg (by decide), if_neg (by decide), if_pos (by decide), e1, qb1_s, if_neg (by decide), keep_tail hn h2]
    refine ⟨_, _, _, _, _, _, _, _, _, rfl, nk8, 5, by decide, ?_, ?_, ?_⟩
    · rw [pI, if_neg (by decide), pI, if_pos rfl]; rfl
    · rw [pI, if_pos rfl]
    · refine ring_push (f := sel k0 k1 k2 k3 k4 k5 k6 k7) (g := sel k0 k1 k2 k3 u k5 k6 k7) (q := 4) (q' := 5) (by decide) hn (by decide) ?_ e2 h3
      intro j hj hne
      unfold sel
      have cj : j = 0 ∨ j = 1 ∨ j = 2 ∨ j = 3 ∨ j = 4 ∨ j = 5 ∨ j = 6 ∨ j = 7 := by omega
      rcases cj with rfl | rfl | rfl | rfl | rfl | rfl | rfl | rfl <;> first | rfl | exact absurd rfl hne
  · obtain ⟨u, e1, e2⟩ := C_copyFrom R k5
    rw [h1, if_neg (by decide), if_neg (by decide), if_neg (by decide), if_neg (by decide), if_neg (by decide), if_pos (by decide), e1, qb1_s, if_neg (by decide), keep_tail hn h2]
    refine ⟨_, _, _, _, _, _, _, _, _, rfl, nk8, 6, by decide, ?_, ?_, ?_⟩
    · rw [pI, if_neg (by decide), pI, if_pos rfl]; rfl
    · rw [pI, if_pos rfl]
    · refine ring_push (f := sel k0 k1 k2 k3 k4 k5 k6 k7) (g := sel k0 k1 k2 k3 k4 u k6 k7) (q := 5) (q' := 6) (by decide) hn (by decide) ?_ e2 h3
      intro j hj hne
      unfold sel
      have cj : j = 0 ∨ j = 1 ∨ j = 2 ∨ j = 3 ∨ j = 4 ∨ j = 5 ∨ j = 6 ∨ j = 7 := by omega
      rcases cj with rfl | rfl | rfl | rfl | rfl | rfl | rfl | rfl <;> first | rfl | exact absurd rfl hne
  · obtain ⟨u, e1, e2⟩ := C_copyFrom R k6
    rw [h1, if_neg (by decide), if_neg (by decide), if_neg (by decide), if_neg (by decide), if_neg (by decide), if_neg (by decide), if_pos (by decide), e1, qb1_s, if_neg (by decide), keep_tail hn h2]
    refine ⟨_, _, _, _, _, _, _, _, _, rfl, nk8, 7, by decide, ?_, ?_, ?_⟩
    · rw [pI, if_neg (by decide), pI, if_pos rfl]; rfl
    · rw [pI, if_pos rfl]
    · refine ring_push (f := sel k0 k1 k2 k3 k4 k5 k6 k7) (g := sel k0 k1 k2 k3 k4 k5 u k7) (q := 6) (q' := 7) (by decide) hn (by decide) ?_ e2 h3
      intro j hj hne
      unfold sel
      have cj : j = 0 ∨ j = 1 ∨ j = 2 ∨ j = 3 ∨ j = 4 ∨ j = 5 ∨ j = 6 ∨ j = 7 := by omega
      rcases cj with rfl | rfl | rfl | rfl | rfl | rfl | rfl | rfl <;> first | rfl | exact absurd rfl hne
  · obtain ⟨u, e1, e2⟩ := C_copyFrom R k7
    rw [h1, if_neg (by decide), if_neg (by decide), if_neg (by decide), if_neg (by decide), if_neg (by decide), if_neg (by decide), if_neg (by decide), if_pos (by decide), e1, qb1_s, if_pos (by decide), keep_tail hn h2]
    refine ⟨_, _, _, _, _, _, _, _, _, rfl, nk8, 0, by decide, ?_, ?_, ?_⟩
    · rw [pI, if_neg (by decide), pI, if_pos rfl]; rfl
    · rw [pI, if_pos rfl]
    · refine ring_push (f := sel k0 k1 k2 k3 k4 k5 k6 k7) (g := sel k0 k1 k2 k3 k4 k5 k6 u) (q := 7) (q' := 0) (by decide) hn (by decide) ?_ e2 h3
      intro j hj hne
      unfold sel
      have cj : j = 0 ∨ j = 1 ∨ j = 2 ∨ j = 3 ∨ j = 4 ∨ j = 5 ∨ j = 6 ∨ j = 7 := by omega
      rcases cj with rfl | rfl | rfl | rfl | rfl | rfl | rfl | rfl <;> first | rfl | exact absurd rfl hne
theorem C_restore {w : Pk} {hs : Nat → Pln} {n : Nat} (h0 : 0 < n) (C : CH H k0 k1 k2 k3 k4 k5 k6 k7 hs n) : ∃ H' w', fX2_restore k0 k1 k2 k3 k4 k5 k6 k7 H w = some (H', w') ∧ ReW w' (hs 0) ∧ CH H' k0 k1 k2 k3 k4 k5 k6 k7 (fun d => hs (d + 1)) (n - 1) ∧ H'.2.1 2 = zI ((n - 1 : Nat) : Int) := by
  obtain ⟨hn, q, hq, h1, h2, h3⟩ := C
  have cs : q = 0 ∨ q = 1 ∨ q = 2 ∨ q = 3 ∨ q = 4 ∨ q = 5 ∨ q = 6 ∨ q = 7 := by omega
  have n0 : ¬ zI (n : Int) = 0 := by rw [z0, zI_eq (rI_n (by omega)) r0]; omega
  have n1 : zI (n : Int) - 1 = zI ((n - 1 : Nat) : Int) := by rw [show (1 : Int32) = zI 1 from rfl, zI_sub]; congr 1; omega
  unfold fX2_restore
  rcases cs with rfl | rfl | rfl | rfl | rfl | rfl | rfl | rfl
  · obtain ⟨u, e1, e2⟩ := C_copyFrom (show ReW k7 (hs 0) from h3 0 h0) w
    rw [h1, if_pos (by decide)]
    unfold fX2_restore_b18
    rw [if_neg (by decide), if_neg (by decide), if_neg (by decide), if_neg (by decide), if_neg (by decide), if_neg (by decide), if_neg (by decide), if_pos (by decide), h2, if_neg n0, e1, qb1_s, qn_s, qn_s, pI, if_neg (by decide), h2, n1]
    refine ⟨_, _, rfl, e2, ⟨by omega, 7, by decide, ?_, ?_, ?_⟩, ?_⟩
    · rw [pI, if_neg (by decide), pI, if_pos rfl]; rfl
    · rw [pI, if_pos rfl]
    · intro d hd
      have := h3 (d + 1) (by omega)
      rwa [show (0 + 7 - (d + 1)) % 8 = (7 + 7 - d) % 8 by omega] at this
    · rw [pI, if_pos rfl]
  · obtain ⟨u, e1, e2⟩ := C_copyFrom (show ReW k0 (hs 0) from h3 0 h0) w
    rw [h1, if_neg (by decide)]
    unfold fX2_restore_b18
    rw [if_pos (by decide), h2, if_neg n0, e1, qb1_s, qn_s, qn_s, pI, if_neg (by decide), h2, n1]
    refine ⟨_, _, rfl, e2, ⟨by omega, 0, by decide, ?_, ?_, ?_⟩, ?_⟩
    · rw [pI, if_neg (by decide), pI, if_pos rfl]; rfl
    · rw [pI, if_pos rfl]
    · intro d hd
      have := h3 (d + 1) (by omega)
      rwa [show (1 + 7 - (d + 1)) % 8 = (0 + 7 - d) % 8 by omega] at this
    · rw [pI, if_pos rfl]
  · obtain ⟨u, e1, e2⟩ := C_copyFrom (show ReW k1 (hs 0) from h3 0 h0) w
    rw [h1, if_neg (by decide)]
    unfold fX2_restore_b18
    rw [if_neg (by decide), if_pos (by decide), h2, if_neg n0, e1, qb1_s, qn_s, qn_s, pI, if_neg (by decide), h2, n1]
    refine ⟨_, _, rfl, e2, ⟨by omega, 1, by decide, ?_, ?_, ?_⟩, ?_⟩
    · rw [pI, if_neg (by decide), pI, if_pos rfl]; rfl
    · rw [pI, if_pos rfl]
    · intro d hd
      have := h3 (d + 1) (by omega)
      rwa [show (2 + 7 - (d + 1)) % 8 = (1 + 7 - d) % 8 by omega] at this
    · rw [pI, if_pos rfl]
  · obtain ⟨u, e1, e2⟩ := C_copyFrom (show ReW k2 (hs 0) from h3 0 h0) w
    rw [h1, if_neg (by decide)]
    unfold fX2_restore_b18
    rw [if_neg (by decide), if_neg (by decide), if_pos (by decide), h2, if_neg n0, e1, qb1_s, qn_s, qn_s, pI, if_neg (by decide), h2, n1]
    refine ⟨_, _, rfl, e2, ⟨by omega, 2, by decide, ?_, ?_, ?_⟩, ?_⟩
    · rw [pI, if_neg (by decide), pI, if_pos rfl]; rfl
    · rw [pI, if_pos rfl]
    · intro d hd
      have := h3 (d + 1) (by omega)
      rwa [show (3 + 7 - (d + 1)) % 8 = (2 + 7 - d) % 8 by omega] at this
    · rw [pI, if_pos rfl]
  · obtain ⟨u, e1, e2⟩ := C_copyFrom (show ReW k3 (hs 0) from h3 0 h0) w
    rw [h1, if_neg (by decide)]
    unfold fX2_restore_b18
    rw [if_neg (by decide), if_neg (by decide), if_neg (by decide), if_pos (by decide), h2, if_neg n0, e1, qb1_s, qn_s, qn_s, pI, if_neg (by decide), h2, n1]
    refine ⟨_, _, rfl, e2, ⟨by omega, 3, by decide, ?_, ?_, ?_⟩, ?_⟩
    · rw [pI, if_neg (by decide), pI, if_pos rfl]; rfl
    · rw [pI, if_pos rfl]
    · intro d hd
      have := h3 (d + 1) (by omega)
      rwa [show (4 + 7 - (d + 1)) % 8 = (3 + 7 - d) % 8 by omega] at this
    · rw [pI, if_pos rfl]
  · obtain ⟨u, e1, e2⟩ := C_copyFrom (show ReW k4 (hs 0) from h3 0 h0) w
    rw [h1, if_neg (by decide)]
    unfold fX2_restore_b18
    rw [if_neg (by decide), if_neg (by decide), if_neg (by decide), if_neg (by decide), if_pos (by decide), h2, if_neg n0, e1, qb1_s, qn_s, qn_s, pI, if_neg (by decide), h2, n1]
    refine ⟨_, _, rfl, e2, ⟨by omega, 4, by decide, ?_, ?_, ?_⟩, ?_⟩
    · rw [pI, if_neg (by decide), pI, if_pos rfl]; rfl
    · rw [pI, if_pos rfl]
    · intro d hd
      have := h3 (d + 1) (by omega)
      rwa [show (5 + 7 - (d + 1)) % 8 = (4 + 7 - d) % 8 by omega] at this
    · rw [pI, if_pos rfl]
  · obtain ⟨u, e1, e2⟩ := C_copyFrom (show ReW k5 (hs 0) from h3 0 h0) w
    rw [h1, if_neg (by decide)]
    unfold fX2_restore_b18
    rw [if_neg (by decide), if_neg (by decide), if_neg (by decide), if_neg (by decide), if_neg (by decide), if_pos (by decide), h2, if_neg n0, e1, qb1_s, qn_s, qn_s, pI, if_neg (by decide), h2, n1]
    refine ⟨_, _, rfl, e2, ⟨by omega, 5, by decide, ?_, ?_, ?_⟩, ?_⟩
    · rw [pI, if_neg (by decide), pI, if_pos rfl]; rfl
    · rw [pI, if_pos rfl]
    · intro d hd
      have := h3 (d + 1) (by omega)
      rwa [show (6 + 7 - (d + 1)) % 8 = (5 + 7 - d) % 8 by omega] at this
    · rw [pI, if_pos rfl]
  · obtain ⟨u, e1, e2⟩ := C_copyFrom (show ReW k6 (hs 0) from h3 0 h0) w
    rw [h1, if_neg (by decide)]
    unfold fX2_restore_b18
    rw [if_neg (by decide), if_neg (by decide), if_neg (by decide), if_neg (by decide), if_neg (by decide), if_neg (by decide), if_pos (by decide), h2, if_neg n0, e1, qb1_s, qn_s, qn_s, pI, if_neg (by decide), h2, n1]
    refine ⟨_, _, rfl, e2, ⟨by omega, 6, by decide, ?_, ?_, ?_⟩, ?_⟩
    · rw [pI, if_neg (by decide), pI, if_pos rfl]; rfl
    · rw [pI, if_pos rfl]
    · intro d hd
      have := h3 (d + 1) (by omega)
      rwa [show (7 + 7 - (d + 1)) % 8 = (6 + 7 - d) % 8 by omega] at this
    · rw [pI, if_pos rfl]
end S
