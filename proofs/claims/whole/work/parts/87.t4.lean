/-! THE CLASS'S LISTS OF PIECES -/
section S
theorem nL_div_neg {a b : Nat} (ha : a < 2147483648) (hb : b < 2147483648) : zL (-(a : Int)) / zL (-(b : Int)) = zL ((a / b : Nat) : Int) := by
  have h := Int64.ofInt_tdiv (a := -(a : Int)) (b := -(b : Int)) (by have : Int64.minValue.toInt = -9223372036854775808 := by decide
                                                                     omega) (by have : Int64.maxValue.toInt = 9223372036854775807 := by decide
                                                                                omega) (by have : Int64.minValue.toInt = -9223372036854775808 := by decide
                                                                                           omega) (by have : Int64.maxValue.toInt = 9223372036854775807 := by decide
                                                                                                      omega)
  show Int64.ofInt (-(a : Int)) / Int64.ofInt (-(b : Int)) = Int64.ofInt ((a / b : Nat) : Int)
  rw [← h, Int.neg_tdiv, Int.tdiv_neg, Int.neg_neg]
  rfl
theorem nL_rem_neg {a b : Nat} (ha : a < 2147483648) (hb : b < 2147483648) : zL (-(a : Int)) - zL (-(a : Int)) / zL (-(b : Int)) * zL (-(b : Int)) = zL (-((a % b : Nat) : Int)) := by
  rw [nL_div_neg ha hb, zL_mul, zL_sub]
  congr 1
  have := Nat.div_add_mod a b
  have e : ((a / b : Nat) : Int) * -(b : Int) = -((b * (a / b) : Nat) : Int) := by rw [Int.mul_neg, Nat.mul_comm]; congr 1
  rw [e]
  omega
theorem gcd_end_neg {a : Nat} (h : a < 2147483648) : fX9_greatestDivisor_b44 (zL (-(a : Int))) = fX9_greatestDivisor_b44 (zL (a : Int)) := by
  rw [C_gcd_end h]
  unfold fX9_greatestDivisor_b44
  have e : 0 ≤ lg_cmp (zL (-(a : Int))) 0 ↔ a = 0 := by
    rw [cmp_ge, zL0, zL_le rL0 ⟨by omega, by omega⟩]; omega
  by_cases c : a = 0
  · rw [if_pos (e.mpr c), c]; rfl
  · rw [if_neg (fun g => c (e.mp g)), zL_neg, Int.neg_neg]
theorem gcd_neg : ∀ (n a b : Nat) (k : Int32), a < 2147483648 → b < 2147483648 → fX9_greatestDivisor_b9 n (zL (-(a : Int))) (zL (-(b : Int))) k = fX9_greatestDivisor_b9 n (zL (a : Int)) (zL (b : Int)) k := by
  intro n
  induction n with
  | zero => intro a b k _ _; rfl
  | succ n ih =>
    intro a b k ha hb
    show fX9_greatestDivisor_b9_s (fX9_greatestDivisor_b9 n) _ _ _ = fX9_greatestDivisor_b9_s (fX9_greatestDivisor_b9 n) _ _ _
    unfold fX9_greatestDivisor_b9_s
    have e1 : zL (b : Int) = 0 ↔ b = 0 := by rw [zL0, zL_eq (rL_n hb) rL0]; omega
    have e2 : zL (-(b : Int)) = 0 ↔ b = 0 := by rw [zL0, zL_eq ⟨by omega, by omega⟩ rL0]; omega
    by_cases hk : 100 ≤ k
    · rw [if_pos hk, if_pos hk, gcd_end_neg ha]
    · rw [if_neg hk, if_neg hk]
      by_cases h0 : b = 0
      · rw [if_pos (cmp_eq.mpr (e2.mpr h0)), if_pos (cmp_eq.mpr (e1.mpr h0)), gcd_end_neg ha]
      · rw [if_neg (fun h => h0 (e2.mp (cmp_eq.mp h))), if_neg (fun h => h0 (e1.mp (cmp_eq.mp h))), qnzl_s (fun h => h0 (e2.mp h)), qnzl_s (fun h => h0 (e1.mp h)), nL_rem_neg ha hb, nL_rem ha hb, qn_s, qn_s, qn_s, qn_s]
        exact ih b (a % b) (k + 1) hb (Nat.lt_of_le_of_lt (Nat.mod_le _ _) ha)
end S
section S
variable {p : Pln} {w L L' P : Pk} {R R2 i v : Nat} {l ps : List Pc} {q : Pc}
theorem gcdS {x y σ : Int} (s1 : σ = 1 ∨ σ = -1) (hx : 0 < σ * x) (hy : 0 < σ * y) (b1 : -7938 ≤ x ∧ x ≤ 7938) (b2 : -7938 ≤ y ∧ y ≤ 7938) : fX9_greatestDivisor (zL x) (zL y) = some (zL ((Nat.gcd x.natAbs y.natAbs : Nat) : Int)) := by
  rcases s1 with rfl | rfl
  · obtain ⟨a, rfl⟩ : ∃ a : Nat, x = (a : Int) := ⟨x.toNat, by omega⟩
    obtain ⟨b, rfl⟩ : ∃ b : Nat, y = (b : Int) := ⟨y.toNat, by omega⟩
    rw [Int.natAbs_natCast, Int.natAbs_natCast]
    exact C_gcd (by omega) (by omega)
  · obtain ⟨a, rfl⟩ : ∃ a : Nat, x = -(a : Int) := ⟨(-x).toNat, by omega⟩
    obtain ⟨b, rfl⟩ : ∃ b : Nat, y = -(b : Int) := ⟨(-y).toNat, by omega⟩
    rw [Int.natAbs_neg, Int.natAbs_neg, Int.natAbs_natCast, Int.natAbs_natCast]
    have h := C_gcd (a := a) (b := b) (by omega) (by omega)
    unfold fX9_greatestDivisor at h ⊢
    rw [gcd_neg _ _ _ _ (by omega) (by omega)]
    exact h
theorem C_gcdS {σ g : Int} (C : CutS p v q σ g) (b1 : -7938 ≤ eA p v q.1 ∧ eA p v q.1 ≤ 7938) (b2 : -7938 ≤ eA p v q.1 - eB p v q.1 ∧ eA p v q.1 - eB p v q.1 ≤ 7938) : fX9_greatestDivisor (zL (eA p v q.1)) (zL (eA p v q.1 - eB p v q.1)) = some (zL (cg p v q.1 : Int)) := gcdS C.1 C.2.2.2.2.1 C.2.2.2.2.2.1 b1 b2
/-- an object Pieces holds a list; R: its room -/
def PL (L : Pk) (R : Nat) (l : List Pc) : Prop := R ≤ 300 ∧ l.length ≤ R ∧ L.2.1 1 = zI (R : Int) ∧ L.2.1 7 = zI (l.length : Int) ∧ ∀ i q, l[i]? = some q → L.1 2 i = zI (q.1 : Int) ∧ L.1 3 i = zI q.2.1 ∧ L.1 4 i = zI q.2.2.1 ∧ L.1 5 i = zI q.2.2.2.1 ∧ L.1 6 i = zI q.2.2.2.2
theorem get_lt {α : Type} {l : List α} {i : Nat} {q : α} (h : l[i]? = some q) : i < l.length := (List.getElem?_eq_some_iff.mp h).1
theorem PL_has (P : PL L R l) (h : i < l.length) : fX4_has L (zI (i : Int)) = some 1 := by
  obtain ⟨h1, h2, h3, h4, h5⟩ := P
  unfold fX4_has
  rw [if_neg (ix_nn (by omega)), h4, if_neg (ix_a h (by omega)), h3, if_neg (ix_a (by omega) (by omega))]
theorem PL_hasnt (P : PL L R l) {a : Int32} (h : a < 0 ∨ zI (l.length : Int) ≤ a) : fX4_has L a = some 0 := by
  obtain ⟨h1, h2, h3, h4, h5⟩ := P
  unfold fX4_has
  by_cases c : a < 0
  · rw [if_pos c]
  · rcases h with h | h
    · exact absurd h c
    · rw [if_neg c, h4, if_pos h]
theorem PL_wallOf (P : PL L R l) (h : l[i]? = some q) : fX4_wallOf L (zI (i : Int)) = some (zI (q.1 : Int)) := by
  have hi := get_lt h
  obtain ⟨h1, h2, h3, h4, h5⟩ := id P
  unfold fX4_wallOf
  rw [PL_has P hi, qb1_s, if_neg (by decide), h3, zI_clamp (by omega), qld_at (by omega) (by omega), (h5 i q h).1]
theorem PL_add (P : PL L R l) (h : l.length < R) (q : Pc) : ∃ L', fX4_add L (zI (q.1 : Int)) (zI q.2.1) (zI q.2.2.1) (zI q.2.2.2.1) (zI q.2.2.2.2) = some L' ∧ PL L' R (l ++ [q]) := by
  obtain ⟨h1, h2, h3, h4, h5⟩ := P
  have hb : l.length < 2147483648 := by omega
  unfold fX4_add
  rw [h4, h3, if_neg (ix_nn hb), if_pos (ix_b h (by omega)), zI_clamp (by omega)]
  simp only [qn_s, pA2, h4, h3, zI_clamp (show R < 2147483648 by omega)]
  rw [qst_at h (by omega), qst_at h (by omega), qst_at h (by omega), qst_at h (by omega), qst_at h (by omega), ix_s]
  refine ⟨_, rfl, h1, by rw [List.length_append, List.length_singleton]; omega, ?_, ?_, fun i r hr => ?_⟩
  · rw [pI, if_neg (by decide)]; exact h3
  · rw [pI, if_pos rfl, List.length_append, List.length_singleton]
  · rw [List.getElem?_append] at hr
    simp only [pI1, pAt hb]
    by_cases c : i < l.length
    · rw [if_pos c] at hr
      have e : ¬ i = l.length := by omega
      simp only [e, and_false, if_false]
      exact h5 i r hr
    · rw [if_neg c] at hr
      have e : i = l.length := by
        have := get_lt hr
        rw [List.length_singleton] at this; omega
      subst e
      rw [Nat.sub_self] at hr
      have e2 : q = r := by injection hr
      subst e2
      simp (decide := true) only [true_and, and_self, and_true, if_true, if_false, false_and]
theorem vpc_bd (Q : vpc p q) : (0 ≤ q.2.1 ∧ q.2.1 ≤ 7938) ∧ (0 ≤ q.2.2.2.1 ∧ q.2.2.2.1 ≤ 7938) := by
  obtain ⟨-, q1, q2, q3, q4, q5⟩ := Q
  have a : 0 ≤ q.2.1 * q.2.2.2.2 := Int.mul_nonneg q1 (by omega)
  have b : 0 < q.2.2.2.1 := pos_of (a := q.2.2.1) (by omega) (by rw [Int.mul_comm]; omega)
  have c : q.2.2.2.1 * q.2.2.1 ≤ q.2.2.2.2 * q.2.2.1 := Int.mul_le_mul_of_nonneg_right q5 (by omega)
  have d : q.2.1 < q.2.2.1 := lt_of_mul (g := q.2.2.2.2) (by omega) (by rw [Int.mul_comm q.2.2.1]; omega)
  omega
theorem ev_bd (V : VP p) (hv : v < 12) (pv : pP p v = true) (Q : vpc p q) : rI (ev p v q.1 q.2.1 q.2.2.1) ∧ rI (ev p v q.1 q.2.2.2.1 q.2.2.2.2) := by
  obtain ⟨b1, b2, b3⟩ := eAB_bd V hv pv Q.1.1 Q.1.2
  obtain ⟨c1, c2⟩ := vpc_bd Q
  obtain ⟨-, q1, q2, q3, q4, q5⟩ := Q
  have m1 := mul_bd (a := eA p v q.1) (b := q.2.2.1) (A := 7938) (B := 7938) (by omega) (by omega) (by omega) (by omega)
  have m2 := mul_bd (a := eB p v q.1 - eA p v q.1) (b := q.2.1) (A := 7938) (B := 7938) (by omega) (by omega) (by omega) (by omega)
  have m3 := mul_bd (a := eA p v q.1) (b := q.2.2.2.2) (A := 7938) (B := 7938) (by omega) (by omega) (by omega) (by omega)
  have m4 := mul_bd (a := eB p v q.1 - eA p v q.1) (b := q.2.2.2.1) (A := 7938) (B := 7938) (by omega) (by omega) (by omega) (by omega)
  unfold ev rI
  omega
theorem plc {a b : Int} (ha : rI a) (hb : rI b) (u w : Pk) : (if zI a = 0 then (if zI b = 0 then (some (0 : Int32)) else fX4_placeOf_b129 u w (zI a) (zI b)) else fX4_placeOf_b129 u w (zI a) (zI b)) = some (zI ((relI a b : Nat) : Int)) := by
  unfold fX4_placeOf_b129 fX4_placeOf_b141 relI
  simp only [z0, zI_eq ha r0, zI_eq hb r0, zI_lt ha r0, zI_lt hb r0, zI_lt r0 ha, zI_lt r0 hb]
  repeat' split
  all_goals first | rfl | (exfalso; omega)
theorem C_placeOf (P : PL L R l) (RW : ReW w p) (V : VP p) (hv : v < 12) (pv : pP p v = true) (Q : vpc p q) (h : l[i]? = some q) : fX4_placeOf L w (zI (i : Int)) (zI (v : Int)) = some (zI ((rel p v q : Nat) : Int)) := by
  have hi := get_lt h
  obtain ⟨h1, h2, h3, h4, h5⟩ := id P
  obtain ⟨c1, c2, c3, c4, c5⟩ := h5 i q h
  have hR : R ≤ 2147483648 := by omega
  have hiR : i < R := by omega
  obtain ⟨r1, r2⟩ := ev_bd V hv pv Q
  unfold fX4_placeOf
  rw [PL_has P hi, qb1_s, if_neg (by decide), h3, zI_clamp (by omega), qld_at hiR hR, c1, W_startX RW Q.1.1 Q.1.2, qb1_s, W_startY RW Q.1.1 Q.1.2, qb1_s, W_sideValue RW hv pv, qb1_s, W_endX RW Q.1.1 Q.1.2, qb1_s, W_endY RW Q.1.1 Q.1.2, qb1_s, W_sideValue RW hv pv, qb1_s, qld_at hiR hR, qld_at hiR hR, qn_s, qld_at hiR hR, qld_at hiR hR, qn_s, c2, c3, c4, c5]
  have e1 : zI (sv p v (pX p q.1) (pY p q.1)) * zI q.2.2.1 + (zI (sv p v (pU p q.1) (pV p q.1)) - zI (sv p v (pX p q.1) (pY p q.1))) * zI q.2.1 = zI (ev p v q.1 q.2.1 q.2.2.1) := by rw [zI_mul, zI_sub, zI_mul, zI_add]; rfl
  have e2 : zI (sv p v (pX p q.1) (pY p q.1)) * zI q.2.2.2.2 + (zI (sv p v (pU p q.1) (pV p q.1)) - zI (sv p v (pX p q.1) (pY p q.1))) * zI q.2.2.2.1 = zI (ev p v q.1 q.2.2.2.1 q.2.2.2.2) := by rw [zI_mul, zI_sub, zI_mul, zI_add]; rfl
  rw [e1, e2]
  exact plc r1 r2 L w
theorem C_addCopy_a (P : PL L R l) (h : l[i]? = some q) (hr : l.length < R) : ∃ L', fX4_addCopy_a L (zI (i : Int)) = some L' ∧ PL L' R (l ++ [q]) := by
  have hi := get_lt h
  obtain ⟨h1, h2, h3, h4, h5⟩ := id P
  obtain ⟨c1, c2, c3, c4, c5⟩ := h5 i q h
  have hR : R ≤ 2147483648 := by omega
  have hiR : i < R := by omega
  obtain ⟨L', a1, a2⟩ := PL_add P hr q
  unfold fX4_addCopy_a
  rw [PL_has P hi, qb1_s, if_neg (by decide), h3, zI_clamp (by omega), qld_at hiR hR, qld_at hiR hR, qld_at hiR hR, qld_at hiR hR, qld_at hiR hR, c1, c2, c3, c4, c5, a1, qb1_s]
  exact ⟨L', rfl, a2⟩
theorem C_addCopy (P : PL L R l) (h : l[i]? = some q) {O : Pk} (PO : PL O R2 ps) (hr : ps.length < R2) : ∃ O', fX4_addCopy L O (zI (i : Int)) = some O' ∧ PL O' R2 (ps ++ [q]) := by
  have hi := get_lt h
  obtain ⟨h1, h2, h3, h4, h5⟩ := id P
  obtain ⟨c1, c2, c3, c4, c5⟩ := h5 i q h
  have hR : R ≤ 2147483648 := by omega
  have hiR : i < R := by omega
  obtain ⟨L', a1, a2⟩ := PL_add PO hr q
  unfold fX4_addCopy
  rw [PL_has P hi, qb1_s, if_neg (by decide), h3, zI_clamp (by omega), qld_at hiR hR, qld_at hiR hR, qld_at hiR hR, qld_at hiR hR, qld_at hiR hR, c1, c2, c3, c4, c5, a1, qb1_s]
  exact ⟨L', rfl, a2⟩
theorem abs_z {a : Int} (h : -100000 ≤ a ∧ a ≤ 100000) : (if 0 ≤ zI a then zI a else 0 - zI a : Int32) = zI ((a.natAbs : Nat) : Int) := by
  have e : 0 ≤ zI a ↔ 0 ≤ a := by rw [z0, zI_le r0 (rI_s h.1 h.2)]
  by_cases c : 0 ≤ a
  · rw [if_pos (e.mpr c)]; congr 1; omega
  · rw [if_neg (fun g => c (e.mp g)), z0, zI_sub]; congr 1; omega
def sd (s : Bool) : Int32 := if s then 1 else 2
theorem C_addPart_a (P : PL L R l) (RW : ReW w p) (V : VP p) (hv : v < 12) (pv : pP p v = true) (Q : vpc p q) (h : l[i]? = some q) (c : rel p v q = 3) (hr : l.length < R) (s : Bool) : ∃ L', fX4_addPart_a w L (zI (i : Int)) (zI (v : Int)) (sd s) = some L' ∧ PL L' R (l ++ [cutp p v s q]) := by
  have hi := get_lt h
  obtain ⟨h1, h2, h3, h4, h5⟩ := id P
  obtain ⟨c1, c2, c3, c4, c5⟩ := h5 i q h
  have hR : R ≤ 2147483648 := by omega
  have hiR : i < R := by omega
  obtain ⟨b1, b2', b3⟩ := eAB_bd V hv pv Q.1.1 Q.1.2
  obtain ⟨σ, g, C⟩ := cut_spec Q c
  have g0 : 0 < cg p v q.1 := by
    obtain ⟨-, g0, -, -, -, -, -, -, ge⟩ := id C
    omega
  have gle : cg p v q.1 ≤ 7938 := by
    obtain ⟨s1, -, -, -, s2, -⟩ := id C
    have : cg p v q.1 ≤ (eA p v q.1).natAbs := Nat.gcd_le_left _ (by rcases s1 with rfl | rfl <;> omega)
    omega
  have gn : ¬ zI ((cg p v q.1 : Nat) : Int) = 0 := by rw [z0, zI_eq (rI_n (by omega)) r0]; omega
  unfold fX4_addPart_a
  rw [PL_has P hi, qb1_s, if_neg (by decide), h3, zI_clamp (by omega), qld_at hiR hR, c1, W_startX RW Q.1.1 Q.1.2, qb1_s, W_startY RW Q.1.1 Q.1.2, qb1_s, W_sideValue RW hv pv, qb1_s, W_endX RW Q.1.1 Q.1.2, qb1_s, W_endY RW Q.1.1 Q.1.2, qb1_s, W_sideValue RW hv pv, qb1_s]
  rw [show sv p v (pX p q.1) (pY p q.1) = eA p v q.1 from rfl, show sv p v (pU p q.1) (pV p q.1) = eB p v q.1 from rfl, zI_sub, zI_long (rI_s (by omega) (by omega)), zI_long (rI_s (by omega) (by omega)), C_gcdS C b1 b3, qb1_s, qn_s, zL_int (rI_n (by omega)), if_neg gn, abs_z (by omega), abs_z (by omega), qn_s, qnzi_s gn, qn_s, qn_s, qnzi_s gn, qn_s, nI_div (by omega) (by omega) (by omega), nI_div (by omega) (by omega) (by omega)]
  have le0 : zI (eA p v q.1) ≤ 0 ↔ ¬ 0 < eA p v q.1 := by rw [z0, zI_le (rI_s (by omega) (by omega)) r0]; omega
  obtain ⟨L', a1, a2⟩ := PL_add P hr (cutp p v s q)
  refine ⟨L', ?_, a2⟩
  rw [← a1]
  unfold fX4_addPart_a_b127 fX4_addPart_a_b142 cutp
  simp only [h3, zI_clamp (show R < 2147483648 by omega), qld_at hiR hR, c2, c3, c4, c5]
  by_cases k : 0 < eA p v q.1
  · rw [if_neg (fun g => le0.mp g k), decide_eq_true k]
    cases s with
    | true =>
      rw [if_pos rfl, if_pos (show sd true = 1 from rfl), if_pos trivial]
      show qb1 (fX4_add L (zI (q.1 : Int)) (zI q.2.1) (zI q.2.2.1) (zI (cN p v q.1)) (zI (cD p v q.1))) _ = _
      cases fX4_add L (zI (q.1 : Int)) (zI q.2.1) (zI q.2.2.1) (zI (cN p v q.1)) (zI (cD p v q.1)) <;> rfl
    | false =>
      rw [if_neg (show ¬ true = false by decide), if_neg (show ¬ sd false = 1 by decide), if_neg (show ¬ (1 : Int32) = 0 by decide)]
      show qb1 (fX4_add L (zI (q.1 : Int)) (zI (cN p v q.1)) (zI (cD p v q.1)) (zI q.2.2.2.1) (zI q.2.2.2.2)) _ = _
      cases fX4_add L (zI (q.1 : Int)) (zI (cN p v q.1)) (zI (cD p v q.1)) (zI q.2.2.2.1) (zI q.2.2.2.2) <;> rfl
  · rw [if_pos (le0.mpr k), decide_eq_false k]
    cases s with
    | true =>
      rw [if_neg (show ¬ false = true by decide), if_pos (show sd true = 1 from rfl), if_neg (show ¬ (0 : Int32) = 1 by decide)]
      show qb1 (fX4_add L (zI (q.1 : Int)) (zI (cN p v q.1)) (zI (cD p v q.1)) (zI q.2.2.2.1) (zI q.2.2.2.2)) _ = _
      cases fX4_add L (zI (q.1 : Int)) (zI (cN p v q.1)) (zI (cD p v q.1)) (zI q.2.2.2.1) (zI q.2.2.2.2) <;> rfl
    | false =>
      rw [if_pos rfl, if_neg (show ¬ sd false = 1 by decide), if_pos trivial]
      show qb1 (fX4_add L (zI (q.1 : Int)) (zI q.2.1) (zI q.2.2.1) (zI (cN p v q.1)) (zI (cD p v q.1))) _ = _
      cases fX4_add L (zI (q.1 : Int)) (zI q.2.1) (zI q.2.2.1) (zI (cN p v q.1)) (zI (cD p v q.1)) <;> rfl
/-- a stretch of a list -/
def Seg (l : List Pc) (i : Nat) (r : List Pc) : Prop := ∀ j q, r[j]? = some q → l[i + j]? = some q
theorem Seg.app {r : List Pc} (h : Seg l i r) (x : List Pc) : Seg (l ++ x) i r := fun j q hj => by
  have := h j q hj
  rw [List.getElem?_append, if_pos (get_lt this)]; exact this
theorem Seg.hd {r : List Pc} (h : Seg l i (q :: r)) : l[i]? = some q := h 0 q rfl
theorem Seg.tl {r : List Pc} (h : Seg l i (q :: r)) : Seg l (i + 1) r := fun j x hj => by
  have := h (j + 1) x hj
  rwa [show i + (j + 1) = i + 1 + j by omega] at this
theorem Seg_end (l r : List Pc) : Seg (l ++ r) l.length r := fun j q hj => by
  rw [List.getElem?_append, if_neg (by omega), show l.length + j - l.length = j by omega]; exact hj
theorem Seg_all (l : List Pc) : Seg l 0 l := fun j q hj => by rw [Nat.zero_add]; exact hj
theorem sd_rel {k : Nat} (hk : k ≤ 3) (s : Bool) : (zI (k : Int) = sd s ↔ k = (if s then 1 else 2)) ∧ (zI (k : Int) = 3 ↔ k = 3) ∧ (zI (k : Int) = 0 ↔ k = 0) ∧ ¬ sd s = 0 := by
  have h : k = 0 ∨ k = 1 ∨ k = 2 ∨ k = 3 := by omega
  rcases h with rfl | rfl | rfl | rfl <;> cases s <;> decide
theorem C_side_loop (RW : ReW w p) (V : VP p) (hv : v < 12) (pv : pP p v = true) (s : Bool) : ∀ (r : List Pc) (l : List Pc) (L : Pk) (i n : Nat), PL L R l → r.length < n → l.length + (prts p v s r).length ≤ R → Seg l i r → (∀ q, q ∈ r → vpc p q) → i + r.length < 2147483648 → ∃ L', fX4_addSide_a_b3 w n L (zI ((i + r.length : Nat) : Int)) (zI (v : Int)) (sd s) (zI (i : Int)) = some L' ∧ PL L' R (l ++ prts p v s r) := by
  intro r
  induction r with
  | nil =>
    intro l L i n P hn hr G Q hb
    obtain ⟨g, rfl⟩ : ∃ g, n = g + 1 := ⟨n - 1, by omega⟩
    show ∃ L', fX4_addSide_a_b3_s (fX4_addSide_a_b3 w g) w L _ _ _ _ = some L' ∧ _
    unfold fX4_addSide_a_b3_s
    rw [if_pos (ix_c (by rw [List.length_nil]; omega) (by omega)), prts_nil, List.append_nil]
    exact ⟨L, rfl, P⟩
  | cons q r ih =>
    intro l L i n P hn hr G Q hb
    obtain ⟨g, rfl⟩ : ∃ g, n = g + 1 := ⟨n - 1, by omega⟩
    rw [List.length_cons] at hn hb ⊢
    rw [prts_cons, List.length_append] at hr
    have Qq := Q q List.mem_cons_self
    have Qr : ∀ x, x ∈ r → vpc p x := fun x hx => Q x (List.mem_cons_of_mem _ hx)
    obtain ⟨t1, t2, t3, t4⟩ := sd_rel (k := rel p v q) (relI_le _ _) s
    show ∃ L', fX4_addSide_a_b3_s (fX4_addSide_a_b3 w g) w L _ _ _ _ = some L' ∧ _
    unfold fX4_addSide_a_b3_s fX4_addSide_a_b58
    rw [if_neg (ix_a (by omega) hb), C_placeOf P RW V hv pv Qq G.hd, qb1_s, prts_cons, ← List.append_assoc, show i + (r.length + 1) = i + 1 + r.length by omega]
    have eprt : prt p v s q = if rel p v q = 3 then [cutp p v s q] else if rel p v q = (if s then 1 else 2) then [q] else [] := rfl
    by_cases c1 : rel p v q = (if s then 1 else 2)
    · have n3 : ¬ rel p v q = 3 := by rw [c1]; cases s <;> decide
      have e : prt p v s q = [q] := by rw [eprt, if_neg n3, if_pos c1]
      rw [e] at hr ⊢
      rw [List.length_singleton] at hr
      obtain ⟨L1, a1, a2⟩ := C_addCopy_a P G.hd (by omega)
      rw [if_pos (t1.mpr c1), a1, qb1_s, qn_s, ix_s]
      exact ih (l ++ [q]) L1 (i + 1) g a2 (by omega) (by rw [List.length_append, List.length_singleton]; omega) (G.tl.app _) Qr (by omega)
    · rw [if_neg (fun h => c1 (t1.mp h))]
      by_cases c3 : rel p v q = 3
      · have e : prt p v s q = [cutp p v s q] := by rw [eprt, if_pos c3]
        rw [e] at hr ⊢
        rw [List.length_singleton] at hr
        obtain ⟨L1, a1, a2⟩ := C_addPart_a P RW V hv pv Qq G.hd c3 (by omega) s
        rw [if_pos (t2.mpr c3), if_neg t4, a1, qb1_s, qn_s, ix_s]
        exact ih (l ++ [cutp p v s q]) L1 (i + 1) g a2 (by omega) (by rw [List.length_append, List.length_singleton]; omega) (G.tl.app _) Qr (by omega)
      · have e : prt p v s q = [] := by rw [eprt, if_neg c3, if_neg c1]
        rw [e] at hr ⊢
        rw [List.length_nil] at hr
        rw [if_neg (fun h => c3 (t2.mp h)), qn_s, ix_s, List.append_nil]
        exact ih l L (i + 1) g P (by omega) (by omega) G.tl Qr (by omega)
theorem C_addSide (RW : ReW w p) (V : VP p) (hv : v < 12) (pv : pP p v = true) (s : Bool) {r : List Pc} (P : PL L R l) (hn : r.length ≤ 12) (hr : l.length + (prts p v s r).length ≤ R) (G : Seg l i r) (Q : ∀ q, q ∈ r → vpc p q) (hb : i + r.length < 2147483648) : ∃ L', fX4_addSide_a w L (zI (i : Int)) (zI ((i + r.length : Nat) : Int)) (zI (v : Int)) (sd s) = some L' ∧ PL L' R (l ++ prts p v s r) := by
  unfold fX4_addSide_a
  exact C_side_loop RW V hv pv s r l L i FU P (Nat.lt_of_le_of_lt hn (by decide)) hr G Q hb
theorem C_on_loop (RW : ReW w p) (V : VP p) (hv : v < 12) (pv : pP p v = true) (P : PL L R l) : ∀ (r : List Pc) (ps : List Pc) (O : Pk) (i n : Nat), PL O R2 ps → r.length < n → ps.length + (ons p v r).length ≤ R2 → Seg l i r → (∀ q, q ∈ r → vpc p q) → i + r.length < 2147483648 → ∃ O', fX4_addSide_b3 w L n O (zI ((i + r.length : Nat) : Int)) (zI (v : Int)) 0 (zI (i : Int)) = some O' ∧ PL O' R2 (ps ++ ons p v r) := by
  intro r
  induction r with
  | nil =>
    intro ps O i n PO hn hr G Q hb
    obtain ⟨g, rfl⟩ : ∃ g, n = g + 1 := ⟨n - 1, by omega⟩
    show ∃ L', fX4_addSide_b3_s (fX4_addSide_b3 w L g) w L O _ _ _ _ = some L' ∧ _
    unfold fX4_addSide_b3_s
    rw [if_pos (ix_c (by rw [List.length_nil]; omega) (by omega))]
    refine ⟨O, rfl, ?_⟩
    show PL O R2 (ps ++ [])
    rw [List.append_nil]; exact PO
  | cons q r ih =>
    intro ps O i n PO hn hr G Q hb
    obtain ⟨g, rfl⟩ : ∃ g, n = g + 1 := ⟨n - 1, by omega⟩
    rw [List.length_cons] at hn hb ⊢
    have Qq := Q q List.mem_cons_self
    have Qr : ∀ x, x ∈ r → vpc p x := fun x hx => Q x (List.mem_cons_of_mem _ hx)
    obtain ⟨t1, t2, t3, t4⟩ := sd_rel (k := rel p v q) (relI_le _ _) true
    show ∃ L', fX4_addSide_b3_s (fX4_addSide_b3 w L g) w L O _ _ _ _ = some L' ∧ _
    unfold fX4_addSide_b3_s fX4_addSide_b58
    rw [if_neg (ix_a (by omega) hb), C_placeOf P RW V hv pv Qq G.hd, qb1_s, show i + (r.length + 1) = i + 1 + r.length by omega]
    by_cases c0 : rel p v q = 0
    · have e : ons p v (q :: r) = q :: ons p v r := by unfold ons; rw [List.filter_cons, if_pos (decide_eq_true c0)]
      rw [e, List.length_cons] at hr
      obtain ⟨L1, a1, a2⟩ := C_addCopy P G.hd PO (by omega)
      rw [if_pos (t3.mpr c0), a1, qb1_s, qn_s, ix_s, e, show ps ++ q :: ons p v r = ps ++ [q] ++ ons p v r by rw [List.append_assoc]; rfl]
      exact ih (ps ++ [q]) L1 (i + 1) g a2 (by omega) (by rw [List.length_append, List.length_singleton]; omega) G.tl Qr (by omega)
    · have e : ons p v (q :: r) = ons p v r := by unfold ons; rw [List.filter_cons, if_neg (by rw [decide_eq_true_eq]; exact c0)]
      rw [e] at hr
      rw [if_neg (fun h => c0 (t3.mp h)), e]
      by_cases c3 : rel p v q = 3
      · rw [if_pos (t2.mpr c3), if_pos rfl, qn_s, ix_s]
        exact ih ps O (i + 1) g PO (by omega) (by omega) G.tl Qr (by omega)
      · rw [if_neg (fun h => c3 (t2.mp h)), qn_s, ix_s]
        exact ih ps O (i + 1) g PO (by omega) (by omega) G.tl Qr (by omega)
theorem PL_shorten {a b : List Pc} (P : PL L R (a ++ b)) : ∃ L', fX4_shorten L (zI (a.length : Int)) = some L' ∧ PL L' R a := by
  obtain ⟨h1, h2, h3, h4, h5⟩ := P
  rw [List.length_append] at h2
  unfold fX4_shorten
  rw [if_neg (ix_nn (by omega)), h4, List.length_append]
  have h6 : ∀ i q, a[i]? = some q → (a ++ b)[i]? = some q := fun i q h => by rw [List.getElem?_append, if_pos (get_lt h)]; exact h
  by_cases c : b.length = 0
  · rw [if_pos (ix_c (by omega) (by omega))]
    refine ⟨L, rfl, h1, by omega, h3, ?_, fun i q h => h5 i q (h6 i q h)⟩
    rw [h4, List.length_append, c, Nat.add_zero]
  · rw [if_neg (ix_a (by omega) (by omega)), qn_s]
    refine ⟨_, rfl, h1, by omega, ?_, ?_, fun i q h => h5 i q (h6 i q h)⟩
    · rw [pI, if_neg (by decide)]; exact h3
    · rw [pI, if_pos rfl]
end S
