/-! THE TREE WITHOUT THE MACHINE: at most 144 pieces -/
section S
variable {p : Pln} {v : Nat} {f g h : Nat → Bool} {j : Nat}
def cnt (f : Nat → Bool) : Nat → Nat
  | 0 => 0
  | k + 1 => cnt f k + if f k then 1 else 0
theorem cnt_s (k : Nat) : cnt f (k + 1) = cnt f k + if f k then 1 else 0 := rfl
theorem cnt_le (f : Nat → Bool) : ∀ k : Nat, cnt f k ≤ k
  | 0 => Nat.le_refl 0
  | k + 1 => by
    have := cnt_le f k
    rw [cnt_s]; split <;> omega
theorem cnt_lt (hf : f j = false) : ∀ k : Nat, j < k → cnt f k + 1 ≤ k
  | 0, h => absurd h (by omega)
  | k + 1, h => by
    rw [cnt_s]
    by_cases c : j = k
    · subst c
      have := cnt_le f j
      rw [hf, if_neg (by decide)]; omega
    · have := cnt_lt hf k (by omega)
      split <;> omega
theorem cnt_two (h1 : ∀ i, f i = true → h i = true) (h2 : ∀ i, g i = true → h i = true) (h3 : ∀ i, ¬ (f i = true ∧ g i = true)) (hj : h j = true) (fj : f j = false) (gj : g j = false) : ∀ k : Nat, cnt f k + cnt g k + (if j < k then 1 else 0) ≤ cnt h k
  | 0 => by rw [if_neg (by omega)]; exact Nat.le_refl 0
  | k + 1 => by
    have ih := cnt_two h1 h2 h3 hj fj gj k
    have a1 := h1 k
    have a2 := h2 k
    have a3 := h3 k
    rw [cnt_s, cnt_s, cnt_s]
    by_cases c : j = k
    · subst c
      rw [fj, gj, hj, if_neg (show ¬ false = true by decide), if_pos (show true = true from rfl), if_pos (show j < j + 1 by omega)]
      rw [if_neg (show ¬ j < j by omega)] at ih
      omega
    · have e : (if j < k + 1 then 1 else 0) = (if j < k then 1 else 0) := by
        by_cases d : j < k
        · rw [if_pos d, if_pos (by omega)]
        · rw [if_neg d, if_neg (by omega)]
      rw [e]
      cases e1 : f k with
      | true =>
        have : g k = false := by
          cases e2 : g k with
          | true => exact absurd ⟨e1, e2⟩ a3
          | false => rfl
        rw [this, a1 e1, if_pos rfl, if_neg (by decide)]; omega
      | false =>
        cases e2 : g k with
        | true => rw [a2 e2, if_neg (by decide), if_pos rfl]; omega
        | false => rw [if_neg (by decide)]; omega
def xsg (a b : Int) : Prop := (0 < a ∧ b < 0) ∨ (a < 0 ∧ 0 < b)
theorem pos_of {a b : Int} (ha : 0 < a) (hm : 0 < a * b) : 0 < b := nonneg_of ha hm
theorem neg_of {a b : Int} (ha : 0 < a) (hm : a * b < 0) : b < 0 := by
  by_cases c : b < 0
  · exact c
  · have := Int.mul_nonneg (a := a) (b := b) (by omega) (by omega)
    omega
theorem three {E1 E2 E3 d12 d23 d13 : Int} (e : d13 * E2 = d23 * E1 + d12 * E3) (h1 : 0 < d12) (h2 : 0 < d23) (h3 : 0 < d13) : (xsg E1 E2 → xsg E1 E3 ∧ ¬ xsg E2 E3) ∧ (xsg E2 E3 → xsg E1 E3) := by
  refine ⟨fun h => ?_, fun h => ?_⟩
  · rcases h with ⟨a, b⟩ | ⟨a, b⟩
    · have k1 : 0 < d13 * (-E2) := Int.mul_pos h3 (by omega)
      have k2 : 0 < d23 * E1 := Int.mul_pos h2 a
      rw [Int.mul_neg] at k1
      have k3 : E3 < 0 := neg_of h1 (by omega)
      exact ⟨Or.inl ⟨a, k3⟩, fun g => by rcases g with g | g <;> omega⟩
    · have k1 : 0 < d13 * E2 := Int.mul_pos h3 b
      have k2 : 0 < d23 * (-E1) := Int.mul_pos h2 (by omega)
      rw [Int.mul_neg] at k2
      have k3 : 0 < E3 := pos_of h1 (by omega)
      exact ⟨Or.inr ⟨a, k3⟩, fun g => by rcases g with g | g <;> omega⟩
  · rcases h with ⟨a, b⟩ | ⟨a, b⟩
    · have k1 : 0 < d13 * E2 := Int.mul_pos h3 a
      have k2 : 0 < d12 * (-E3) := Int.mul_pos h1 (by omega)
      rw [Int.mul_neg] at k2
      exact Or.inl ⟨pos_of h2 (by omega), b⟩
    · have k1 : 0 < d13 * (-E2) := Int.mul_pos h3 (by omega)
      have k2 : 0 < d12 * E3 := Int.mul_pos h1 b
      rw [Int.mul_neg] at k1
      exact Or.inr ⟨neg_of h2 (by omega), b⟩
def Kc (p : Pln) (q : Pc) : Nat := cnt (fun u => pP p u && decide (rel p u q = 3)) 12
def sK (p : Pln) : List Pc → Nat
  | [] => 0
  | q :: l => 1 + Kc p q + sK p l
theorem sK_app : ∀ a b : List Pc, sK p (a ++ b) = sK p a + sK p b
  | [], b => by show sK p b = 0 + sK p b; omega
  | q :: a, b => by
    show 1 + Kc p q + sK p (a ++ b) = 1 + Kc p q + sK p a + sK p b
    rw [sK_app a b]; omega
theorem ev_three (u w : Nat) (n1 d1 n2 d2 n3 d3 : Int) : (n3 * d1 - n1 * d3) * ev p u w n2 d2 = (n3 * d2 - n2 * d3) * ev p u w n1 d1 + (n2 * d1 - n1 * d2) * ev p u w n3 d3 := by unfold ev; grind
theorem Kc_cut (V : VP p) (hv : v < 12) (pv : pP p v = true) {q : Pc} (Q : vpc p q) (c : rel p v q = 3) : Kc p (cutp p v true q) + Kc p (cutp p v false q) + 1 ≤ Kc p q := by
  obtain ⟨σ, g, C⟩ := cut_spec Q c
  have bd := eAB_bd V hv pv Q.1.1 Q.1.2
  obtain ⟨c1, c2, c3, c4, c5, c6⟩ := cut_at Q C ⟨bd.2.2.2, bd.2.2.1⟩
  obtain ⟨q0, q1, q2, q3, q4, q5⟩ := Q
  have th : ∀ u : Nat, (rel p u (q.1, q.2.1, q.2.2.1, cN p v q.1, cD p v q.1) = 3 → rel p u q = 3 ∧ ¬ rel p u (q.1, cN p v q.1, cD p v q.1, q.2.2.2.1, q.2.2.2.2) = 3) ∧ (rel p u (q.1, cN p v q.1, cD p v q.1, q.2.2.2.1, q.2.2.2.2) = 3 → rel p u q = 3) := by
    intro u
    have := three (ev_three (p := p) u q.1 q.2.1 q.2.2.1 (cN p v q.1) (cD p v q.1) q.2.2.2.1 q.2.2.2.2) (by omega) (by omega) (by omega)
    simp only [rel, relI_3]
    exact this
  have key : Kc p (q.1, q.2.1, q.2.2.1, cN p v q.1, cD p v q.1) + Kc p (q.1, cN p v q.1, cD p v q.1, q.2.2.2.1, q.2.2.2.2) + 1 ≤ Kc p q := by
    have r1 : ¬ rel p v (q.1, q.2.1, q.2.2.1, cN p v q.1, cD p v q.1) = 3 := by
      intro k; have k := relI_3.mp k; simp only [c6] at k; omega
    have r2 : ¬ rel p v (q.1, cN p v q.1, cD p v q.1, q.2.2.2.1, q.2.2.2.2) = 3 := by
      intro k; have k := relI_3.mp k; simp only [c6] at k; omega
    have := cnt_two (f := fun u => pP p u && decide (rel p u (q.1, q.2.1, q.2.2.1, cN p v q.1, cD p v q.1) = 3)) (g := fun u => pP p u && decide (rel p u (q.1, cN p v q.1, cD p v q.1, q.2.2.2.1, q.2.2.2.2) = 3)) (h := fun u => pP p u && decide (rel p u q = 3)) (j := v) (fun i hi => ?_) (fun i hi => ?_) (fun i hi => ?_) ?_ ?_ ?_ 12
    · rw [if_pos hv] at this; exact this
    · simp only [Bool.and_eq_true, decide_eq_true_eq] at hi ⊢
      exact ⟨hi.1, ((th i).1 hi.2).1⟩
    · simp only [Bool.and_eq_true, decide_eq_true_eq] at hi ⊢
      exact ⟨hi.1, (th i).2 hi.2⟩
    · simp only [Bool.and_eq_true, decide_eq_true_eq] at hi
      exact ((th i).1 hi.1.2).2 hi.2.2
    · simp only [Bool.and_eq_true, decide_eq_true_eq]
      exact ⟨pv, c⟩
    · rw [decide_eq_false r1, Bool.and_false]
    · rw [decide_eq_false r2, Bool.and_false]
  unfold cutp
  by_cases d : 0 < eA p v q.1
  · rw [decide_eq_true d, if_pos rfl, if_neg (by decide)]; exact key
  · rw [decide_eq_false d, if_neg (by decide), if_pos rfl]; omega
theorem sK_prt (V : VP p) (hv : v < 12) (pv : pP p v = true) {q : Pc} (Q : vpc p q) : (if rel p v q = 0 then 1 else 0) + sK p (prt p v true q) + sK p (prt p v false q) ≤ 1 + Kc p q := by
  unfold prt
  by_cases c : rel p v q = 3
  · have := Kc_cut V hv pv Q c
    rw [if_pos c, if_pos c, if_neg (by omega)]
    show 0 + (1 + Kc p (cutp p v true q) + 0) + (1 + Kc p (cutp p v false q) + 0) ≤ _
    omega
  · rw [if_neg c, if_neg c, if_pos rfl, if_neg (show ¬ false = true by decide)]
    have s1 : sK p [q] = 1 + Kc p q := rfl
    have s0 : sK p [] = 0 := rfl
    by_cases d1 : rel p v q = 1
    · rw [if_neg (by omega), if_pos d1, if_neg (by omega)]; omega
    · rw [if_neg d1]
      by_cases d2 : rel p v q = 2
      · rw [if_neg (by omega), if_pos d2]; omega
      · rw [if_neg d2]
        split <;> omega
theorem sK_step (V : VP p) (hv : v < 12) (pv : pP p v = true) : ∀ l : List Pc, (∀ q, q ∈ l → vpc p q) → (ons p v l).length + sK p (prts p v true l) + sK p (prts p v false l) ≤ sK p l
  | [], _ => Nat.le_refl 0
  | q :: l, H => by
    have ih := sK_step V hv pv l (fun r hr => H r (List.mem_cons_of_mem _ hr))
    have h1 := sK_prt V hv pv (H q List.mem_cons_self)
    rw [prts_cons, prts_cons, sK_app, sK_app]
    have e : (ons p v (q :: l)).length = (if rel p v q = 0 then 1 else 0) + (ons p v l).length := by
      unfold ons
      rw [List.filter_cons]
      by_cases c : rel p v q = 0
      · rw [decide_eq_true c, if_pos rfl, if_pos c, List.length_cons]; omega
      · rw [decide_eq_false c, if_neg (by decide), if_neg c]; omega
    have e2 : sK p (q :: l) = 1 + Kc p q + sK p l := rfl
    omega
theorem Kc_le {q : Pc} (h : q.1 < 12) : Kc p q ≤ 11 := by
  have := cnt_lt (f := fun u => pP p u && decide (rel p u q = 3)) (j := q.1) (by rw [rel_self]; simp) 12 h
  unfold Kc
  omega
theorem sK_le : ∀ l : List Pc, (∀ q, q ∈ l → q.1 < 12) → sK p l ≤ 12 * l.length
  | [], _ => Nat.le_refl 0
  | q :: l, H => by
    have ih := sK_le l (fun r hr => H r (List.mem_cons_of_mem _ hr))
    have := Kc_le (p := p) (H q List.mem_cons_self)
    rw [List.length_cons]
    show 1 + Kc p q + sK p l ≤ _
    omega
theorem nP_sK {T : Tr} (G : GT T) (π : List Bool) : nP T π ≤ sK T.1 (Ls T π) := by
  refine tr_ind (P := fun π => nP T π ≤ sK T.1 (Ls T π)) G ?_ ?_ π
  · intro π h; rw [nP_leaf h]; omega
  · intro π h i1 i2
    have ok := sw_ok G h
    have := sK_step G.1 ok.1 ok.2 (Ls T π) (Ls_vp G π)
    rw [nP_node G h]
    rw [Ls_s] at i1 i2
    show (ons T.1 (sw T π) (Ls T π)).length + _ + _ ≤ _
    omega
theorem nP_144 {T : Tr} (G : GT T) : nP T [] ≤ 144 := by
  have h1 := nP_sK G []
  have h2 := sK_le (p := T.1) T.2.2.2 (fun q hq => (G.2.2.2.1 q hq).1.1)
  have h3 := G.2.2.2.2
  have h4 : 12 * T.2.2.2.length ≤ 12 * 12 := Nat.mul_le_mul_left 12 h3
  show nP T [] ≤ 144
  have h5 : Ls T [] = T.2.2.2 := rfl
  rw [h5] at h1
  omega
end S
