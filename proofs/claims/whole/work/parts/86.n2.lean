/-! HISTORY: a copy of the walls -/
section S
variable {p : Pln} {o u : Pk} {i : Nat}
def cW (u : Pk) (p : Pln) (i : Nat) : Prop := u.1 0 i = b2 (pP p i) ∧ (pP p i = true → u.1 1 i = b2 (pM p i) ∧ u.1 2 i = zI (pX p i) ∧ u.1 3 i = zI (pY p i) ∧ u.1 4 i = zI (pU p i) ∧ u.1 5 i = zI (pV p i) ∧ u.1 6 i = zI (pK p i))
theorem upd_at (f : Nat → Int32) (k : Nat) (v : Int32) : upd f k v k = v := if_pos rfl
theorem upd_ne (f : Nat → Int32) {k j : Nat} (v : Int32) (h : ¬ j = k) : upd f k v j = f j := if_neg h
theorem pAt {u : Pk} {k i : Nat} {x : Int32} (h : i < 2147483648) (j l : Nat) : (pkA u k (zI (i : Int)) x).1 j l = if j = k ∧ l = i then x else u.1 j l := by
  rw [pA1 h]
  by_cases c : j = k
  · subst c
    rw [if_pos rfl, upd_if]
    by_cases d : l = i
    · rw [if_pos d, if_pos ⟨rfl, d⟩]
    · rw [if_neg d, if_neg (fun g => d g.2)]
  · rw [if_neg c, if_neg (fun g => c g.1)]
theorem C_copy_loop (R : ReW o p) : ∀ (n i : Nat) (u : Pk), i ≤ 12 → 12 - i < n → (∀ j, j < i → cW u p j) → ∃ u', fX8_copyWalls_b2 o n u (zI (i : Int)) = some u' ∧ (∀ j, j < 12 → cW u' p j) ∧ u'.2 = u.2 := by
  intro n
  induction n with
  | zero => intro i u _ h; omega
  | succ n ih =>
    intro i u hi hn H
    show ∃ u', fX8_copyWalls_b2_s (fX8_copyWalls_b2 o n) o u (zI (i : Int)) = some u' ∧ _
    unfold fX8_copyWalls_b2_s
    by_cases h : i < 12
    · have hb : i < 2147483648 := by omega
      rw [if_neg (i12a h)]
      rw [qld_at h (by decide), qst_at h (by decide), qn_s, qld_at h (by decide), qst_at h (by decide), qn_s, qld_at h (by decide), qst_at h (by decide), qn_s, qld_at h (by decide), qst_at h (by decide), qn_s, qld_at h (by decide), qst_at h (by decide), qn_s, qld_at h (by decide), qst_at h (by decide), qn_s, qld_at h (by decide), qst_at h (by decide), qn_s, qn_s, ix_s]
      refine (fun ⟨u', a1, a2, a3⟩ => ⟨u', a1, a2, a3.trans ?_⟩) (ih (i + 1) _ (by omega) (by omega) ?_)
      · intro j hj
        by_cases e : j = i
        · subst e
          have c := R.1 j h
          unfold cW
          simp (decide := true) only [pAt hb, if_true, if_false, and_true, ite_true, ite_false]
          refine ⟨by rw [c.1]; exact nar_b2 _, fun hp => ?_⟩
          obtain ⟨c1, c2, c3, c4, c5, c6⟩ := c.2 hp
          exact ⟨by rw [c1]; exact nar_b2 _, c2, c3, c4, c5, c6⟩
        · have c := H j (by omega)
          unfold cW at c ⊢
          simp only [pAt hb, e, and_false, if_false, ite_false]
          exact c
      · simp only [pkA_at hb]
    · have e : i = 12 := by omega
      subst e
      rw [if_pos i12e]
      exact ⟨u, rfl, H, rfl⟩
theorem C_copyFrom (R : ReW o p) (u : Pk) : ∃ u', fX8_copyFrom o u = some u' ∧ ReW u' p := by
  unfold fX8_copyFrom fX8_copyWalls fX8_changeWeights
  obtain ⟨u1, a1, a2, a3⟩ := C_copy_loop R FU 0 u (by omega) (FU_12 0) (fun j hj => absurd hj (by omega))
  rw [show fX8_copyWalls_b2 o FU u 0 = some u1 from a1, qb1_s, qn_s, qn_s, qb1_s]
  refine ⟨_, rfl, a2, ?_, ?_⟩
  · rw [pI, if_neg (by decide), pI, if_pos rfl]; exact R.2.1
  · rw [pI, if_pos rfl]; exact R.2.2
end S
