/-! NEAR: nearestWall, clearance -/
section S
variable {p : Pln} {t w r m n : Pk} {x y : Int} {i : Nat}
def nA (p : Pln) (i : Nat) (x y : Int) : Int := (pU p i - pX p i) * (x - pX p i) + (pV p i - pY p i) * (y - pY p i)
def nT (p : Pln) (i : Nat) (x y : Int) : Int := if 0 < nA p i x y then (if nA p i x y < sq p i then sv p i x y * sv p i x y else (x - pU p i) * (x - pU p i) + (y - pV p i) * (y - pV p i)) else (x - pX p i) * (x - pX p i) + (y - pY p i) * (y - pY p i)
def nB (p : Pln) (i : Nat) (x y : Int) : Int := if 0 < nA p i x y then (if nA p i x y < sq p i then sq p i else 1) else 1
def Sq (x y : Int) : Prop := (0 ≤ x ∧ x ≤ 63) ∧ (0 ≤ y ∧ y ≤ 63)
theorem sqr_nn (a : Int) : 0 ≤ a * a := by
  rcases Int.le_total 0 a with h | h
  · exact Int.mul_nonneg h h
  · exact Int.mul_nonneg_of_nonpos_of_nonpos h h
theorem ss_bd {a b : Int} (ha : -63 ≤ a ∧ a ≤ 63) (hb : -63 ≤ b ∧ b ≤ 63) : 0 ≤ a * a + b * b ∧ a * a + b * b ≤ 7938 := by
  have h1 := mul_63 ha.1 ha.2 ha.1 ha.2
  have h2 := mul_63 hb.1 hb.2 hb.1 hb.2
  have h3 := sqr_nn a
  have h4 := sqr_nn b
  omega
theorem sq_bd (V : VP p) (h : i < 12) (hp : pP p i = true) : 0 ≤ sq p i ∧ sq p i ≤ 7938 := by
  obtain ⟨v1, v2, v3, v4, -⟩ := V.1 i h hp
  exact ss_bd (by omega) (by omega)
theorem nA_bd (V : VP p) (h : i < 12) (hp : pP p i = true) (Y : Sq x y) : -7938 ≤ nA p i x y ∧ nA p i x y ≤ 7938 := by
  obtain ⟨v1, v2, v3, v4, -⟩ := V.1 i h hp
  obtain ⟨y1, y2⟩ := Y
  have a1 := mul_63 (a := pU p i - pX p i) (b := x - pX p i) (by omega) (by omega) (by omega) (by omega)
  have a2 := mul_63 (a := pV p i - pY p i) (b := y - pY p i) (by omega) (by omega) (by omega) (by omega)
  unfold nA
  omega
theorem nB_bd (V : VP p) (h : i < 12) (hp : pP p i = true) : 1 ≤ nB p i x y ∧ nB p i x y ≤ 7938 := by
  have := sq_bd V h hp
  unfold nB
  split
  · split <;> omega
  · omega
theorem nT_bd (V : VP p) (h : i < 12) (hp : pP p i = true) (Y : Sq x y) : 0 ≤ nT p i x y ∧ nT p i x y ≤ 63011844 := by
  obtain ⟨v1, v2, v3, v4, -⟩ := V.1 i h hp
  have s := sv_small V h hp Y.1 Y.2
  obtain ⟨y1, y2⟩ := Y
  have q := mul_bd (a := sv p i x y) (b := sv p i x y) (A := 7938) (B := 7938) s.1 s.2 s.1 s.2
  have q0 := sqr_nn (sv p i x y)
  have b1 := ss_bd (a := x - pU p i) (b := y - pV p i) (by omega) (by omega)
  have b2 := ss_bd (a := x - pX p i) (b := y - pY p i) (by omega) (by omega)
  unfold nT
  split
  · split <;> omega
  · omega
def clo (p : Pln) (x y : Int) (i : Nat) (f : Option Nat) : Bool := match f with
  | none => true
  | some j => decide (nT p i x y * nB p j x y < nT p j x y * nB p i x y)
def nr (p : Pln) (x y : Int) : Nat → Option Nat
  | 0 => none
  | k + 1 => if pP p k && clo p x y k (nr p x y k) then some k else nr p x y k
theorem nr_p : ∀ {k j : Nat}, nr p x y k = some j → j < k ∧ pP p j = true
  | 0, j, h => by unfold nr at h; exact absurd h (by simp)
  | k + 1, j, h => by
    unfold nr at h
    split at h
    · rename_i c
      simp only [Bool.and_eq_true] at c
      obtain rfl : k = j := Option.some.inj h
      exact ⟨by omega, c.1⟩
    · have := nr_p h
      exact ⟨by omega, this.2⟩
def nF (n : Pk) (p : Pln) (x y : Int) (f : Option Nat) : Prop := match f with
  | none => n.2.1 1 = zI (-8)
  | some j => n.2.1 1 = zI (j : Int) ∧ n.2.2 2 = zL (nT p j x y) ∧ n.2.2 3 = zL (nB p j x y)
def mN (m : Pk) (p : Pln) (x y : Int) (f : Option Nat) : Prop := match f with
  | none => m.2.1 59 = zI (-1)
  | some j => m.2.1 59 = zI (j : Int) ∧ m.2.2 60 = zL (nT p j x y) ∧ m.2.2 61 = zL (nB p j x y)
theorem rLm {a b : Int} (h : 0 ≤ a ∧ a ≤ 63011844) (g : 1 ≤ b ∧ b ≤ 7938) : rL (a * b) := by
  have := mul_bd (a := a) (b := b) (A := 63011844) (B := 7938) (by omega) (by omega) (by omega) (by omega)
  exact ⟨by omega, by omega⟩
theorem clo_none : clo p x y i none = true := rfl
theorem clo_some (j : Nat) : clo p x y i (some j) = decide (nT p i x y * nB p j x y < nT p j x y * nB p i x y) := rfl
theorem N_offer (V : VP p) (h : i < 12) (hp : pP p i = true) (Y : Sq x y) {f : Option Nat} (F : nF n p x y f) (hf : ∀ j, f = some j → j < 12 ∧ pP p j = true) : ∃ n', fX3_offer n (zI i) (zL (nT p i x y)) (zL (nB p i x y)) = some n' ∧ nF n' p x y (if clo p x y i f then some i else f) := by
  unfold fX3_offer fX3_offer_b26
  simp only [qn_s]
  cases f with
  | none =>
    rw [if_pos (by rw [show n.2.1 1 = zI (-8) from F]; decide), clo_none]
    exact ⟨_, rfl, rfl, rfl, rfl⟩
  | some j =>
    obtain ⟨f1, f2, f3⟩ := F
    obtain ⟨j1, j2⟩ := hf j rfl
    rw [f1, f2, f3, clo_some, if_neg (by rw [zmone8, zI_eq (rI_s (by omega) (by omega)) (rI_s (by omega) (by omega))]; omega)]
    have b1 := nT_bd V h hp Y
    have b2 := nB_bd (x := x) (y := y) V h hp
    have b3 := nT_bd V j1 j2 Y
    have b4 := nB_bd (x := x) (y := y) V j1 j2
    simp only [zL_mul, cmp_ge, zL_le (rLm b3 b2) (rLm b1 b4)]
    by_cases c : nT p j x y * nB p i x y ≤ nT p i x y * nB p j x y
    · rw [if_pos c, decide_eq_false (by omega)]
      exact ⟨n, rfl, f1, f2, f3⟩
    · rw [if_neg c, decide_eq_true (by omega)]
      exact ⟨_, rfl, rfl, rfl, rfl⟩
theorem N_compare (R : ReW w p) (V : VP p) (h : i < 12) (hp : pP p i = true) (Y : Sq x y) {f : Option Nat} (F : nF n p x y f) (hf : ∀ j, f = some j → j < 12 ∧ pP p j = true) : ∃ n', fX3_compare w n (zI i) (zI x) (zI y) = some n' ∧ nF n' p x y (if clo p x y i f then some i else f) := by
  obtain ⟨v1, v2, v3, v4, -⟩ := V.1 i h hp
  have s := sv_small V h hp Y.1 Y.2
  have sb := sq_bd V h hp
  have ab := nA_bd V h hp Y
  obtain ⟨n', o1, o2⟩ := N_offer V h hp Y F hf
  refine ⟨n', ?_, o2⟩
  rw [← o1]
  unfold fX3_compare fX3_along fX3_squaredWay
  have ea : (zI (pU p i - pX p i) * (zI x - zI (pX p i))) + (zI (pV p i - pY p i) * (zI y - zI (pY p i))) = zI (nA p i x y) := by
    simp only [zI_sub, zI_mul, zI_add]; rfl
  rw [W_squaredLength R h hp, W_wayX R h hp, W_startX R h hp, W_wayY R h hp, W_startY R h hp, W_endX R h hp, W_endY R h hp, W_sideValue R h hp]
  rw [qb1_s, qn_s, qb1_s, qb1_s, qb1_s, qb1_s, qb1_s, ea, zI_long (r7938 (a := sq p i) (by omega)), zI_long (r7938 ab)]
  simp only [zL0, cmp_gt, cmp_lt, zL_lt rL0 (rLs2 ab), zL_lt (rLs2 ab) (rLs2 (a := sq p i) (by omega))]
  have tr : ∀ a b : Int32 × Int64 × Int64, ∀ k : Option Pk, qb1 k (fun q => some q) = k := by
    intro _ _ k; cases k <;> rfl
  have tq : ∀ k : Option Pk, qb1 k (fun q => some q) = k := by
    intro k; cases k <;> rfl
  by_cases c : 0 < nA p i x y
  · rw [if_pos c]
    by_cases d : nA p i x y < sq p i
    · rw [if_pos d, qb1_s, qn_s, zI_long (r7938 s), zL_mul, tq]
      rw [show nT p i x y = sv p i x y * sv p i x y by unfold nT; rw [if_pos c, if_pos d], show nB p i x y = sq p i by unfold nB; rw [if_pos c, if_pos d]]
    · rw [if_neg d, qb1_s, qb1_s, qb1_s, zI_sub, zI_sub, zI_long (rI_s (a := x - pU p i) (by have := Y.1; omega) (by have := Y.1; omega)), zI_long (rI_s (a := y - pV p i) (by have := Y.2; omega) (by have := Y.2; omega)), zL_mul, zL_mul, zL_add, tq]
      rw [show nT p i x y = (x - pU p i) * (x - pU p i) + (y - pV p i) * (y - pV p i) by unfold nT; rw [if_pos c, if_neg d], show nB p i x y = 1 by unfold nB; rw [if_pos c, if_neg d]]
      rfl
  · rw [if_neg c, qb1_s, qb1_s, qb1_s, zI_sub, zI_sub, zI_long (rI_s (a := x - pX p i) (by have := Y.1; omega) (by have := Y.1; omega)), zI_long (rI_s (a := y - pY p i) (by have := Y.2; omega) (by have := Y.2; omega)), zL_mul, zL_mul, zL_add, tq]
    rw [show nT p i x y = (x - pX p i) * (x - pX p i) + (y - pY p i) * (y - pY p i) by unfold nT; rw [if_neg c], show nB p i x y = 1 by unfold nB; rw [if_neg c]]
    rfl
end S
