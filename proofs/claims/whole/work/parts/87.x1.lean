/-! CLIPPING: pieces and lists, in either order -/
section S
variable {p : Pln} {u v w : Nat} {q : Pc}
def sgn1 (s : Bool) : Int := if s then 1 else -1
theorem lin_ev (s : Bool) (v w : Nat) (n d : Int) : lin (sgn1 s * eA p v w) (sgn1 s * (eA p v w - eB p v w)) n d = sgn1 s * ev p v w n d := by unfold lin ev; grind
theorem prt_clip (Q : vpc p q) (s : Bool) : prt p v s q = clip (lin (sgn1 s * eA p v q.1) (sgn1 s * (eA p v q.1 - eB p v q.1))) (cN p v q.1) (cD p v q.1) q := by
  unfold clip
  simp only [lin_ev]
  have cs := fun h => cut_spec (v := v) Q h
  unfold prt
  unfold CutS at cs
  generalize hr : rel p v q = k at *
  unfold rel at hr
  generalize ha : ev p v q.1 q.2.1 q.2.2.1 = a at *
  generalize hb : ev p v q.1 q.2.2.2.1 q.2.2.2.2 = b at *
  have dir : k = 3 → (0 < a ↔ 0 < eA p v q.1) ∧ (a < 0 ↔ ¬ 0 < eA p v q.1) := by
    intro h
    obtain ⟨σ, g, c1, c2, c3, c4, c5, c6, c7, -⟩ := cs h
    rcases c1 with rfl | rfl <;> omega
  have k3 : k = 3 ↔ (0 < a ∧ b < 0) ∨ (a < 0 ∧ 0 < b) := by rw [← hr]; exact relI_3
  have k1 : k = 1 ↔ 0 ≤ a ∧ 0 ≤ b ∧ ¬ (a = 0 ∧ b = 0) := by
    rw [← hr]
    unfold relI
    split
    · omega
    · split
      · omega
      · split <;> omega
  have k2 : k = 2 ↔ a ≤ 0 ∧ b ≤ 0 ∧ ¬ (a = 0 ∧ b = 0) := by
    rw [← hr]
    unfold relI
    split
    · omega
    · split
      · omega
      · split <;> omega
  cases s with
  | true =>
    show _ = if 0 ≤ (1 : Int) * a ∧ 0 ≤ (1 : Int) * b ∧ ¬ ((1 : Int) * a = 0 ∧ (1 : Int) * b = 0) then [q] else if 0 < (1 : Int) * a ∧ (1 : Int) * b < 0 then _ else if (1 : Int) * a < 0 ∧ 0 < (1 : Int) * b then _ else []
    rw [Int.one_mul, Int.one_mul]
    by_cases h3 : k = 3
    · rw [if_pos h3, if_neg (by omega)]
      have dd := dir h3
      unfold cutp
      by_cases c : 0 < a
      · rw [if_pos (show decide (0 < eA p v q.1) = true from decide_eq_true (dd.1.mp c)), if_pos (show 0 < a ∧ b < 0 from by omega)]
      · rw [if_neg (show ¬ decide (0 < eA p v q.1) = true from by rw [decide_eq_true_eq]; exact dd.2.mp (by omega)), if_neg (show ¬ (0 < a ∧ b < 0) from by omega), if_pos (show a < 0 ∧ 0 < b from by omega)]
    · rw [if_neg h3]
      show (if k = 1 then [q] else []) = _
      by_cases h1 : k = 1
      · rw [if_pos h1, if_pos (k1.mp h1)]
      · rw [if_neg h1, if_neg (fun h => h1 (k1.mpr h)), if_neg (by omega), if_neg (by omega)]
  | false =>
    show _ = if 0 ≤ (-1 : Int) * a ∧ 0 ≤ (-1 : Int) * b ∧ ¬ ((-1 : Int) * a = 0 ∧ (-1 : Int) * b = 0) then [q] else if 0 < (-1 : Int) * a ∧ (-1 : Int) * b < 0 then _ else if (-1 : Int) * a < 0 ∧ 0 < (-1 : Int) * b then _ else []
    by_cases h3 : k = 3
    · rw [if_pos h3, if_neg (by omega)]
      have dd := dir h3
      unfold cutp
      by_cases c : a < 0
      · rw [if_pos (show decide (0 < eA p v q.1) = false from decide_eq_false (dd.2.mp c)), if_pos (show 0 < (-1 : Int) * a ∧ (-1 : Int) * b < 0 from by omega)]
      · rw [if_neg (show ¬ decide (0 < eA p v q.1) = false from by
          rw [decide_eq_false_iff_not]
          exact fun h => h (dd.1.mp (by omega))), if_neg (show ¬ (0 < (-1 : Int) * a ∧ (-1 : Int) * b < 0) from by omega), if_pos (show (-1 : Int) * a < 0 ∧ 0 < (-1 : Int) * b from by omega)]
    · rw [if_neg h3]
      show (if k = 2 then [q] else []) = _
      by_cases h1 : k = 2
      · rw [if_pos h1, if_pos (by omega)]
      · rw [if_neg h1, if_neg (by omega), if_neg (by omega), if_neg (by omega)]
theorem red_eq {a b c d : Nat} (h1 : Nat.Coprime a b) (h2 : Nat.Coprime c d) (e : c * b = a * d) (hb : 0 < b) (hd : 0 < d) : a = c ∧ b = d := by
  have x1 : b ∣ d := h1.symm.dvd_of_dvd_mul_left (by rw [← e]; exact Nat.dvd_mul_left b c)
  have x2 : d ∣ b := h2.symm.dvd_of_dvd_mul_left (by rw [e]; exact Nat.dvd_mul_left d a)
  have bd := Nat.dvd_antisymm x1 x2
  subst bd
  exact ⟨(Nat.eq_of_mul_eq_mul_right hb e).symm, rfl⟩
theorem cut_red {v w : Nat} (h : 0 < cD p v w) : Nat.Coprime ((eA p v w).natAbs / cg p v w) ((eA p v w - eB p v w).natAbs / cg p v w) := by
  unfold cD at h
  have z : 0 < cg p v w := by
    refine Nat.pos_of_ne_zero (fun z => ?_)
    rw [z, Nat.div_zero] at h
    omega
  exact Nat.coprime_div_gcd_div_gcd z
theorem cut_same {v1 v2 w : Nat} (e : cN p v2 w * cD p v1 w - cN p v1 w * cD p v2 w = 0) (h1 : 0 < cD p v1 w) (h2 : 0 < cD p v2 w) : cN p v1 w = cN p v2 w ∧ cD p v1 w = cD p v2 w := by
  have r1 := cut_red h1
  have r2 := cut_red h2
  unfold cN cD at *
  obtain ⟨a, b⟩ := red_eq r1 r2 (by
    have : ((((eA p v2 w).natAbs / cg p v2 w) * ((eA p v1 w - eB p v1 w).natAbs / cg p v1 w) : Nat) : Int) = ((((eA p v1 w).natAbs / cg p v1 w) * ((eA p v2 w - eB p v2 w).natAbs / cg p v2 w) : Nat) : Int) := by
      rw [Int.natCast_mul, Int.natCast_mul]
      omega
    exact_mod_cast this) (by omega) (by omega)
  exact ⟨by rw [a], by rw [b]⟩
theorem cut_K (V : VP p) (hv : v < 12) (pv : pP p v = true) (Q : vpc p q) (s : Bool) : cutK (sgn1 s * eA p v q.1) (sgn1 s * (eA p v q.1 - eB p v q.1)) (cN p v q.1) (cD p v q.1) q.2.1 q.2.2.1 q.2.2.2.1 q.2.2.2.2 := by
  intro h
  rw [lin_ev, lin_ev] at h
  have r3 : rel p v q = 3 := by
    refine relI_3.mpr ?_
    cases s with
    | true =>
      unfold sgn1 at h
      rw [if_pos rfl, Int.one_mul, Int.one_mul] at h
      exact h
    | false =>
      unfold sgn1 at h
      rw [if_neg (by decide)] at h
      omega
  obtain ⟨σ, g, C⟩ := cut_spec Q r3
  have bd := eAB_bd V hv pv Q.1.1 Q.1.2
  obtain ⟨c1, c2, c3, c4, c5, c6⟩ := cut_at Q C ⟨bd.2.2.2, bd.2.2.1⟩
  refine ⟨⟨by omega, c3, c4⟩, ?_⟩
  unfold ev at c6
  have : (eA p v q.1 - eB p v q.1) * cN p v q.1 = eA p v q.1 * cD p v q.1 := by grind
  rw [Int.mul_assoc, this, Int.mul_assoc]
theorem prt_comm (V : VP p) {v1 v2 : Nat} (h1 : v1 < 12 ∧ pP p v1 = true) (h2 : v2 < 12 ∧ pP p v2 = true) (s1 s2 : Bool) (Q : vpc p q) : (prt p v1 s1 q).flatMap (prt p v2 s2) = (prt p v2 s2 q).flatMap (prt p v1 s1) := by
  have go : ∀ {v1 v2 : Nat} {s1 s2 : Bool}, v1 < 12 ∧ pP p v1 = true → (prt p v1 s1 q).flatMap (prt p v2 s2) = (clip (lin (sgn1 s1 * eA p v1 q.1) (sgn1 s1 * (eA p v1 q.1 - eB p v1 q.1))) (cN p v1 q.1) (cD p v1 q.1) q).flatMap (clip (lin (sgn1 s2 * eA p v2 q.1) (sgn1 s2 * (eA p v2 q.1 - eB p v2 q.1))) (cN p v2 q.1) (cD p v2 q.1)) := by
    intro v1 v2 s1 s2 h
    rw [← prt_clip Q s1]
    rcases prt_cases (p := p) (v := v1) s1 q with e | ⟨r, e, e1⟩
    · rw [e]; rfl
    · rw [e, fmo, fmo]
      have R := prt_vp V h.1 h.2 Q (r := r) (s := s1) (by rw [e]; exact List.mem_singleton.mpr rfl)
      rw [prt_clip R s2, e1]
  rw [go h1, go h2]
  obtain ⟨-, -, q2, q3, q4, -⟩ := id Q
  exact clip_comm q.1 (show 0 < q.2.2.1 from by omega) (show 0 < q.2.2.2.2 from by omega) q4 (cut_K V h1.1 h1.2 Q s1) (cut_K V h2.1 h2.2 Q s2) (fun e k1 k2 => cut_same e k1 k2)
theorem prts_comm (V : VP p) {v1 v2 : Nat} (h1 : v1 < 12 ∧ pP p v1 = true) (h2 : v2 < 12 ∧ pP p v2 = true) (s1 s2 : Bool) : ∀ l : List Pc, (∀ q, q ∈ l → vpc p q) → prts p v2 s2 (prts p v1 s1 l) = prts p v1 s1 (prts p v2 s2 l)
  | [], _ => rfl
  | q :: l, Q => by
    have a := prt_comm V h1 h2 s1 s2 (Q q List.mem_cons_self)
    have b := prts_comm V h1 h2 s1 s2 l (fun r hr => Q r (List.mem_cons_of_mem _ hr))
    rw [prts_cons, prts_cons, prts_app, prts_app, b]
    congr 1
end S
