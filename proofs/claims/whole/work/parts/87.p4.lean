/-! LOAD: the loader's walls emptied -/
section S
variable {u m : Pk}
def pNo (s b : Int) : Pln := (fun _ => false, fun _ => false, fun _ => 0, fun _ => 0, fun _ => 0, fun _ => 0, fun _ => 0, s, b)
theorem pNo_vp {s b : Int} (hs : 0 ≤ s ∧ s ≤ 9) (hb : 0 ≤ b ∧ b ≤ 9) : VP (pNo s b) := ⟨fun _ _ h => absurd h Bool.false_ne_true, hs, hb⟩
theorem C_dropAll_loop : ∀ (n i : Nat) (u : Pk), i ≤ 12 → 12 - i < n → (∀ j, j < i → u.1 0 j = 0) → ∃ u', fX8_dropAll_b2 n u (zI (i : Int)) = some u' ∧ (∀ j, j < 12 → u'.1 0 j = 0) ∧ u'.2 = u.2 := by
  intro n
  induction n with
  | zero => intro i u _ h; omega
  | succ n ih =>
    intro i u hi hn H
    show ∃ u', fX8_dropAll_b2_s (fX8_dropAll_b2 n) u (zI (i : Int)) = some u' ∧ _
    unfold fX8_dropAll_b2_s
    by_cases h : i < 12
    · have hb : i < 2147483648 := by omega
      rw [if_neg (i12a h), qst_at h (by decide), qn_s, qn_s, ix_s]
      obtain ⟨u', a1, a2, a3⟩ := ih (i + 1) (pkA u 0 (zI (i : Int)) (vp_nar .boolean 0)) (by omega) (by omega) (by
        intro j hj
        rw [pAt hb]
        by_cases c : j = i
        · rw [if_pos ⟨rfl, c⟩]; exact nar_b2 false
        · rw [if_neg (fun g => c g.2)]
          exact H j (by omega))
      exact ⟨u', a1, a2, a3.trans (pk2 hb)⟩
    · have e : i = 12 := by omega
      subst e
      rw [if_pos i12e]
      exact ⟨u, rfl, H, rfl⟩
theorem C_dropAll {s b : Int} (h7 : u.2.1 7 = zI s) (h8 : u.2.1 8 = zI b) : ∃ u', fX8_dropAll u = some u' ∧ ReW u' (pNo s b) := by
  obtain ⟨u', a1, a2, a3⟩ := C_dropAll_loop FU 0 u (by omega) (FU_12 0) (fun j hj => absurd hj (by omega))
  exact ⟨u', a1, fun i hi => ⟨a2 i hi, fun g => absurd g Bool.false_ne_true⟩, by rw [a3]; exact h7, by rw [a3]; exact h8⟩
end S
