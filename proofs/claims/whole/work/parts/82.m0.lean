/-! WHAT THE FUNCTIONS SAY: numbers (zI, zL: an int, a long out of a whole number), guarded reads and writes at known places -/
def zI (x : Int) : Int32 := Int32.ofInt x
def zL (x : Int) : Int64 := Int64.ofInt x
theorem zI_nI (n : Nat) : nI n = zI n := rfl
theorem zI_self (a : Int32) : zI a.toInt = a := Int32.ofInt_toInt a
theorem zL_self (a : Int64) : zL a.toInt = a := Int64.ofInt_toInt a
theorem zI_toInt {x : Int} (h0 : -2147483648 ≤ x) (h1 : x < 2147483648) : (zI x).toInt = x := Int32.toInt_ofInt_of_le (by omega) (by omega)
theorem zL_toInt {x : Int} (h0 : -9223372036854775808 ≤ x) (h1 : x < 9223372036854775808) : (zL x).toInt = x := Int64.toInt_ofInt_of_le (by omega) (by omega)
theorem zI_add (a b : Int) : zI a + zI b = zI (a + b) := (Int32.ofInt_add a b).symm
theorem zI_sub (a b : Int) : zI a - zI b = zI (a - b) := (Int32.ofInt_sub a b).symm
theorem zI_mul (a b : Int) : zI a * zI b = zI (a * b) := (Int32.ofInt_mul a b).symm
theorem zI_neg (a : Int) : -zI a = zI (-a) := (Int32.ofInt_neg a).symm
theorem zL_add (a b : Int) : zL a + zL b = zL (a + b) := (Int64.ofInt_add a b).symm
theorem zL_sub (a b : Int) : zL a - zL b = zL (a - b) := (Int64.ofInt_sub a b).symm
theorem zL_mul (a b : Int) : zL a * zL b = zL (a * b) := (Int64.ofInt_mul a b).symm
theorem zL_neg (a : Int) : -zL a = zL (-a) := (Int64.ofInt_neg a).symm
/-- in the range of an int -/
def rI (x : Int) : Prop := -2147483648 ≤ x ∧ x < 2147483648
def rL (x : Int) : Prop := -9223372036854775808 ≤ x ∧ x < 9223372036854775808
theorem zI_lt {a b : Int} (ha : rI a) (hb : rI b) : zI a < zI b ↔ a < b := by
  rw [Int32.lt_iff_toInt_lt, zI_toInt ha.1 ha.2, zI_toInt hb.1 hb.2]
theorem zI_le {a b : Int} (ha : rI a) (hb : rI b) : zI a ≤ zI b ↔ a ≤ b := by
  rw [Int32.le_iff_toInt_le, zI_toInt ha.1 ha.2, zI_toInt hb.1 hb.2]
theorem zI_eq {a b : Int} (ha : rI a) (hb : rI b) : zI a = zI b ↔ a = b := by
  rw [← Int32.toInt_inj, zI_toInt ha.1 ha.2, zI_toInt hb.1 hb.2]
theorem zL_lt {a b : Int} (ha : rL a) (hb : rL b) : zL a < zL b ↔ a < b := by
  rw [Int64.lt_iff_toInt_lt, zL_toInt ha.1 ha.2, zL_toInt hb.1 hb.2]
theorem zL_le {a b : Int} (ha : rL a) (hb : rL b) : zL a ≤ zL b ↔ a ≤ b := by
  rw [Int64.le_iff_toInt_le, zL_toInt ha.1 ha.2, zL_toInt hb.1 hb.2]
theorem zL_eq {a b : Int} (ha : rL a) (hb : rL b) : zL a = zL b ↔ a = b := by
  rw [← Int64.toInt_inj, zL_toInt ha.1 ha.2, zL_toInt hb.1 hb.2]
theorem zI_long {a : Int} (ha : rI a) : Int32.toInt64 (zI a) = zL a := by
  apply Int64.toInt_inj.mp
  rw [Jvm.Kit.i64_of_i32, zI_toInt ha.1 ha.2, zL_toInt (by have := ha.1; omega) (by have := ha.2; omega)]
theorem zL_int {a : Int} (ha : rI a) : Int64.toInt32 (zL a) = zI a := by
  apply Int32.toInt_inj.mp
  have h := zL_toInt (x := a) (by have := ha.1; omega) (by have := ha.2; omega)
  rw [Jvm.Kit.i32_of_i64 (by rw [h]; have := ha.1; omega) (by rw [h]; have := ha.2; omega), h, zI_toInt ha.1 ha.2]
theorem zI_clamp {n : Nat} (h : n < 2147483648) : (zI (n : Int)).toNatClampNeg = n := nI_clamp h
theorem zI_clampI {x : Int} (h0 : 0 ≤ x) (h : x < 2147483648) : (zI x).toNatClampNeg = x.toNat := by
  show (zI x).toInt.toNat = _
  rw [zI_toInt (by omega) h]
theorem cmp_lt {x y : Int64} : lg_cmp x y < 0 ↔ x < y := by
  unfold lg_cmp
  by_cases h : y < x
  · rw [if_pos h]; exact ⟨fun h => absurd h (by decide), fun g => absurd h (by simp only [Int64.lt_iff_toInt_lt] at *; omega)⟩
  · rw [if_neg h]
    by_cases e : x = y
    · subst e; rw [if_pos rfl]; exact ⟨fun h => absurd h (by decide), fun g => absurd g h⟩
    · rw [if_neg e]
      refine ⟨fun _ => ?_, fun _ => by decide⟩
      simp only [Int64.lt_iff_toInt_lt, ← Int64.toInt_inj] at *
      omega
theorem cmp_le {x y : Int64} : lg_cmp x y ≤ 0 ↔ x ≤ y := by
  unfold lg_cmp
  by_cases h : y < x
  · rw [if_pos h]; exact ⟨fun h => absurd h (by decide), fun g => absurd h (by simp only [Int64.lt_iff_toInt_lt, Int64.le_iff_toInt_le] at *; omega)⟩
  · rw [if_neg h]
    refine ⟨fun _ => by simp only [Int64.lt_iff_toInt_lt, Int64.le_iff_toInt_le] at *; omega, fun _ => ?_⟩
    by_cases e : x = y
    · rw [if_pos e]; decide
    · rw [if_neg e]; decide
theorem cmp_ge {x y : Int64} : 0 ≤ lg_cmp x y ↔ y ≤ x := by
  have h := @cmp_lt x y
  constructor
  · intro g
    have : ¬ lg_cmp x y < 0 := by simp only [Int32.lt_iff_toInt_lt, Int32.le_iff_toInt_le] at *; omega
    rw [h] at this
    simp only [Int64.lt_iff_toInt_lt, Int64.le_iff_toInt_le] at *; omega
  · intro g
    have : ¬ x < y := by simp only [Int64.lt_iff_toInt_lt, Int64.le_iff_toInt_le] at *; omega
    rw [← h] at this
    simp only [Int32.lt_iff_toInt_lt, Int32.le_iff_toInt_le] at *; omega
theorem cmp_gt {x y : Int64} : 0 < lg_cmp x y ↔ y < x := by
  have h := @cmp_le x y
  constructor
  · intro g
    have : ¬ lg_cmp x y ≤ 0 := by simp only [Int32.lt_iff_toInt_lt, Int32.le_iff_toInt_le] at *; omega
    rw [h] at this
    simp only [Int64.lt_iff_toInt_lt, Int64.le_iff_toInt_le] at *; omega
  · intro g
    have : ¬ x ≤ y := by simp only [Int64.lt_iff_toInt_lt, Int64.le_iff_toInt_le] at *; omega
    rw [← h] at this
    simp only [Int32.lt_iff_toInt_lt, Int32.le_iff_toInt_le] at *; omega
theorem cmp_eq {x y : Int64} : lg_cmp x y = 0 ↔ x = y := by
  unfold lg_cmp
  by_cases h : y < x
  · rw [if_pos h]; exact ⟨fun h => absurd h (by decide), fun g => by subst g; simp only [Int64.lt_iff_toInt_lt] at h; omega⟩
  · rw [if_neg h]
    by_cases e : x = y
    · rw [if_pos e]; exact ⟨fun _ => e, fun _ => rfl⟩
    · rw [if_neg e]; exact ⟨fun g => absurd g (by decide), fun g => absurd g e⟩
/-- a place given as a number -/
theorem qld_at {β : Type} {n : Nat} {f : Nat → Int32} {k : Int32 → Option β} {i : Nat} (h : i < n) (hn : n ≤ 2147483648) : qld n f (zI (i : Int)) k = k (f i) := by
  unfold qld
  have h0 : ¬ (zI (i : Int) < 0 ∨ n ≤ (zI (i : Int)).toNatClampNeg) := by
    rw [zI_clamp (by omega)]
    rintro (g | g)
    · rw [show (0 : Int32) = zI 0 from rfl, zI_lt ⟨by omega, by omega⟩ ⟨by decide, by decide⟩] at g; omega
    · omega
  rw [if_neg h0, zI_clamp (by omega)]
theorem qst_at {β : Type} {n : Nat} {k : Option β} {i : Nat} (h : i < n) (hn : n ≤ 2147483648) : qst n (zI (i : Int)) k = k := by
  unfold qst
  have h0 : ¬ (zI (i : Int) < 0 ∨ n ≤ (zI (i : Int)).toNatClampNeg) := by
    rw [zI_clamp (by omega)]
    rintro (g | g)
    · rw [show (0 : Int32) = zI 0 from rfl, zI_lt ⟨by omega, by omega⟩ ⟨by decide, by decide⟩] at g; omega
    · omega
  rw [if_neg h0]
theorem pkA_at {u : Pk} {k i : Nat} {x : Int32} (h : i < 2147483648) : pkA u k (zI (i : Int)) x = (va_up u.1 k (upd (u.1 k) i x), u.2) := by
  unfold pkA; rw [zI_clamp h]
theorem idx_split (n : Nat) (hn : n < 2147483648) (a : Int32) : a < 0 ∨ zI n ≤ a ∨ ∃ j : Nat, j < n ∧ a = zI j := by
  have := pk_ix a (n := n) hn
  exact this
theorem bnar (b : Int32) (h : b = 0 ∨ b = 1) : vp_nar .boolean b = b := by
  rcases h with rfl | rfl <;> rfl
