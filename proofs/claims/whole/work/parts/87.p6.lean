/-! LOAD: the code at a place -/
section S
variable {x m : Pk} {tx : Nat → Int} {n q : Nat}
def ch (tx : Nat → Int) (n q : Nat) : Int := if q < n then tx q else 0
theorem M_here (T : TX x m tx n) (h : m.2.1 14 = zI (q : Int)) (hq : q < 2147483648) : fX10_here m = some (zI (ch tx n q)) := by
  obtain ⟨h1, h2, h3, h4⟩ := T
  unfold fX10_here ch
  rw [h, h3]
  by_cases c : q < n
  · have c1 : ¬ zI (n : Int) ≤ zI (q : Int) := ix_a c (by omega)
    rw [if_neg c1, if_pos c, qld_at (by omega) (by decide), (h4 q c).2.1]
  · have c1 : zI (n : Int) ≤ zI (q : Int) := ix_c (by omega) hq
    rw [if_pos c1, if_neg c]
    rfl
/-- the class's code past the end is -1, the reference's 0 -/
def chC (tx : Nat → Int) (n q : Nat) : Int := if q < n then tx q else -1
theorem C_codeAt (T : TX x m tx n) (hq : q < 2147483648) : fX7_codeAt x (zI (q : Int)) = some (zI (chC tx n q)) := by
  obtain ⟨h1, h2, h3, h4⟩ := T
  unfold fX7_codeAt chC
  rw [if_neg (ix_nn hq), h2]
  by_cases c : q < n
  · have c1 : ¬ zI (n : Int) ≤ zI (q : Int) := ix_a c (by omega)
    have c2 : ¬ (300 : Int32) ≤ zI (q : Int) := ix_a (n := 300) (by omega) (by decide)
    rw [if_neg c1, if_neg c2, if_pos c, qld_at (by omega) (by decide), (h4 q c).1]
  · have c1 : zI (n : Int) ≤ zI (q : Int) := ix_c (by omega) hq
    rw [if_pos c1, if_neg c, zm1]
theorem C_isDigit {a : Int} (h : -1 ≤ a ∧ a ≤ 126) : fX7_isDigit (zI a) = some (b2 (decide (48 ≤ a) && decide (a ≤ 57))) := by
  unfold fX7_isDigit
  rw [show (48 : Int32) = zI 48 from rfl, show (57 : Int32) = zI 57 from rfl]
  by_cases c : a < 48
  · rw [if_pos ((zI_lt (rI_s (by omega) (by omega)) (rI_s (by decide) (by decide))).mpr c), decide_eq_false (by omega)]; rfl
  · rw [if_neg (fun g => c ((zI_lt (rI_s (by omega) (by omega)) (rI_s (by decide) (by decide))).mp g)), decide_eq_true (by omega)]
    by_cases d : 57 < a
    · rw [if_pos ((zI_lt (rI_s (by decide) (by decide)) (rI_s (by omega) (by omega))).mpr d), decide_eq_false (by omega)]; rfl
    · rw [if_neg (fun g => d ((zI_lt (rI_s (by decide) (by decide)) (rI_s (by omega) (by omega))).mp g)), decide_eq_true (by omega)]; rfl
end S
