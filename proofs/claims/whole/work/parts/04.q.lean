/-! PURE RUNS: how the functions that say what each method does are put together; Pk: what an object holds (rows of ints, ints, longs, by the field's place) -/
abbrev Pk : Type := (Nat → Nat → Int32) × (Nat → Int32) × (Nat → Int64)
def pkA (u : Pk) (k : Nat) (i x : Int32) : Pk := (va_up u.1 k (upd (u.1 k) i.toNatClampNeg x), u.2)
def pkI (u : Pk) (k : Nat) (x : Int32) : Pk := (u.1, va_up u.2.1 k x, u.2.2)
def pkL (u : Pk) (k : Nat) (x : Int64) : Pk := (u.1, u.2.1, va_up u.2.2 k x)
def FU : Nat := 4096
def qn {α β : Type} (a : α) (k : α → Option β) : Option β := k a
def qld {β : Type} (n : Nat) (f : Nat → Int32) (i : Int32) (k : Int32 → Option β) : Option β := if i < 0 ∨ n ≤ i.toNatClampNeg then none else k (f i.toNatClampNeg)
def qst {β : Type} (n : Nat) (i : Int32) (k : Option β) : Option β := if i < 0 ∨ n ≤ i.toNatClampNeg then none else k
def qnzi {β : Type} (y : Int32) (k : Option β) : Option β := if y = 0 then none else k
def qnzl {β : Type} (y : Int64) (k : Option β) : Option β := if y = 0 then none else k
def qnn {β : Type} (y : UInt64) (k : Option β) : Option β := if y &&& 0x7fffffffffffffff ≤ 0x7ff0000000000000 then k else none
def qb1 {α β : Type} (a : Option α) (k : α → Option β) : Option β := match a with
  | none => none
  | some x => k x
theorem qno {α : Type} {r : α} {P : Prop} (h : (none : Option α) = some r) : P := by cases h
theorem qn_some {α β : Type} {a : α} {k : α → Option β} {r : β} (h : qn a k = some r) : ∃ x, x = a ∧ k x = some r := ⟨a, rfl, h⟩
theorem qld_some {β : Type} {n : Nat} {f : Nat → Int32} {i : Int32} {k : Int32 → Option β} {r : β} (h : qld n f i k = some r) : ∃ x, x = f i.toNatClampNeg ∧ vp_in i n ∧ k x = some r := by
  unfold qld at h
  by_cases hc : i < 0 ∨ n ≤ i.toNatClampNeg
  · rw [if_pos hc] at h; cases h
  · rw [if_neg hc] at h; exact ⟨_, rfl, hc, h⟩
theorem qst_some {β : Type} {n : Nat} {i : Int32} {k : Option β} {r : β} (h : qst n i k = some r) : vp_in i n ∧ k = some r := by
  unfold qst at h
  by_cases hc : i < 0 ∨ n ≤ i.toNatClampNeg
  · rw [if_pos hc] at h; cases h
  · rw [if_neg hc] at h; exact ⟨hc, h⟩
theorem qnzi_some {β : Type} {y : Int32} {k : Option β} {r : β} (h : qnzi y k = some r) : ¬ y = 0 ∧ k = some r := by
  unfold qnzi at h
  by_cases hc : y = 0
  · rw [if_pos hc] at h; cases h
  · rw [if_neg hc] at h; exact ⟨hc, h⟩
theorem qnzl_some {β : Type} {y : Int64} {k : Option β} {r : β} (h : qnzl y k = some r) : ¬ y = 0 ∧ k = some r := by
  unfold qnzl at h
  by_cases hc : y = 0
  · rw [if_pos hc] at h; cases h
  · rw [if_neg hc] at h; exact ⟨hc, h⟩
theorem qnn_some {β : Type} {y : UInt64} {k : Option β} {r : β} (h : qnn y k = some r) : vf_n64 y ∧ k = some r := by
  unfold qnn at h
  by_cases hc : y &&& 0x7fffffffffffffff ≤ 0x7ff0000000000000
  · rw [if_pos hc] at h; exact ⟨hc, h⟩
  · rw [if_neg hc] at h; cases h
theorem qb1_some {α β : Type} {a : Option α} {k : α → Option β} {r : β} (h : qb1 a k = some r) : ∃ x, a = some x ∧ k x = some r := by
  cases a with
  | none => cases h
  | some x => exact ⟨x, rfl, h⟩
def qb2 {α1 α2 β : Type} (a : Option (α1 × α2)) (k : α1 → α2 → Option β) : Option β := match a with
  | none => none
  | some (x1, x2) => k x1 x2
theorem qb2_some {α1 α2 β : Type} {a : Option (α1 × α2)} {k : α1 → α2 → Option β} {r : β} (h : qb2 a k = some r) : ∃ x1 x2, a = some (x1, x2) ∧ k x1 x2 = some r := by
  match a, h with
  | none, h => cases h
  | some (x1, x2), h => exact ⟨x1, x2, rfl, h⟩
def qb3 {α1 α2 α3 β : Type} (a : Option (α1 × α2 × α3)) (k : α1 → α2 → α3 → Option β) : Option β := match a with
  | none => none
  | some (x1, x2, x3) => k x1 x2 x3
theorem qb3_some {α1 α2 α3 β : Type} {a : Option (α1 × α2 × α3)} {k : α1 → α2 → α3 → Option β} {r : β} (h : qb3 a k = some r) : ∃ x1 x2 x3, a = some (x1, x2, x3) ∧ k x1 x2 x3 = some r := by
  match a, h with
  | none, h => cases h
  | some (x1, x2, x3), h => exact ⟨x1, x2, x3, rfl, h⟩
def qb4 {α1 α2 α3 α4 β : Type} (a : Option (α1 × α2 × α3 × α4)) (k : α1 → α2 → α3 → α4 → Option β) : Option β := match a with
  | none => none
  | some (x1, x2, x3, x4) => k x1 x2 x3 x4
theorem qb4_some {α1 α2 α3 α4 β : Type} {a : Option (α1 × α2 × α3 × α4)} {k : α1 → α2 → α3 → α4 → Option β} {r : β} (h : qb4 a k = some r) : ∃ x1 x2 x3 x4, a = some (x1, x2, x3, x4) ∧ k x1 x2 x3 x4 = some r := by
  match a, h with
  | none, h => cases h
  | some (x1, x2, x3, x4), h => exact ⟨x1, x2, x3, x4, rfl, h⟩
def qb5 {α1 α2 α3 α4 α5 β : Type} (a : Option (α1 × α2 × α3 × α4 × α5)) (k : α1 → α2 → α3 → α4 → α5 → Option β) : Option β := match a with
  | none => none
  | some (x1, x2, x3, x4, x5) => k x1 x2 x3 x4 x5
theorem qb5_some {α1 α2 α3 α4 α5 β : Type} {a : Option (α1 × α2 × α3 × α4 × α5)} {k : α1 → α2 → α3 → α4 → α5 → Option β} {r : β} (h : qb5 a k = some r) : ∃ x1 x2 x3 x4 x5, a = some (x1, x2, x3, x4, x5) ∧ k x1 x2 x3 x4 x5 = some r := by
  match a, h with
  | none, h => cases h
  | some (x1, x2, x3, x4, x5), h => exact ⟨x1, x2, x3, x4, x5, rfl, h⟩
def qb6 {α1 α2 α3 α4 α5 α6 β : Type} (a : Option (α1 × α2 × α3 × α4 × α5 × α6)) (k : α1 → α2 → α3 → α4 → α5 → α6 → Option β) : Option β := match a with
  | none => none
  | some (x1, x2, x3, x4, x5, x6) => k x1 x2 x3 x4 x5 x6
theorem qb6_some {α1 α2 α3 α4 α5 α6 β : Type} {a : Option (α1 × α2 × α3 × α4 × α5 × α6)} {k : α1 → α2 → α3 → α4 → α5 → α6 → Option β} {r : β} (h : qb6 a k = some r) : ∃ x1 x2 x3 x4 x5 x6, a = some (x1, x2, x3, x4, x5, x6) ∧ k x1 x2 x3 x4 x5 x6 = some r := by
  match a, h with
  | none, h => cases h
  | some (x1, x2, x3, x4, x5, x6), h => exact ⟨x1, x2, x3, x4, x5, x6, rfl, h⟩
def qb7 {α1 α2 α3 α4 α5 α6 α7 β : Type} (a : Option (α1 × α2 × α3 × α4 × α5 × α6 × α7)) (k : α1 → α2 → α3 → α4 → α5 → α6 → α7 → Option β) : Option β := match a with
  | none => none
  | some (x1, x2, x3, x4, x5, x6, x7) => k x1 x2 x3 x4 x5 x6 x7
theorem qb7_some {α1 α2 α3 α4 α5 α6 α7 β : Type} {a : Option (α1 × α2 × α3 × α4 × α5 × α6 × α7)} {k : α1 → α2 → α3 → α4 → α5 → α6 → α7 → Option β} {r : β} (h : qb7 a k = some r) : ∃ x1 x2 x3 x4 x5 x6 x7, a = some (x1, x2, x3, x4, x5, x6, x7) ∧ k x1 x2 x3 x4 x5 x6 x7 = some r := by
  match a, h with
  | none, h => cases h
  | some (x1, x2, x3, x4, x5, x6, x7), h => exact ⟨x1, x2, x3, x4, x5, x6, x7, rfl, h⟩
def qb8 {α1 α2 α3 α4 α5 α6 α7 α8 β : Type} (a : Option (α1 × α2 × α3 × α4 × α5 × α6 × α7 × α8)) (k : α1 → α2 → α3 → α4 → α5 → α6 → α7 → α8 → Option β) : Option β := match a with
  | none => none
  | some (x1, x2, x3, x4, x5, x6, x7, x8) => k x1 x2 x3 x4 x5 x6 x7 x8
theorem qb8_some {α1 α2 α3 α4 α5 α6 α7 α8 β : Type} {a : Option (α1 × α2 × α3 × α4 × α5 × α6 × α7 × α8)} {k : α1 → α2 → α3 → α4 → α5 → α6 → α7 → α8 → Option β} {r : β} (h : qb8 a k = some r) : ∃ x1 x2 x3 x4 x5 x6 x7 x8, a = some (x1, x2, x3, x4, x5, x6, x7, x8) ∧ k x1 x2 x3 x4 x5 x6 x7 x8 = some r := by
  match a, h with
  | none, h => cases h
  | some (x1, x2, x3, x4, x5, x6, x7, x8), h => exact ⟨x1, x2, x3, x4, x5, x6, x7, x8, rfl, h⟩
def qb9 {α1 α2 α3 α4 α5 α6 α7 α8 α9 β : Type} (a : Option (α1 × α2 × α3 × α4 × α5 × α6 × α7 × α8 × α9)) (k : α1 → α2 → α3 → α4 → α5 → α6 → α7 → α8 → α9 → Option β) : Option β := match a with
  | none => none
  | some (x1, x2, x3, x4, x5, x6, x7, x8, x9) => k x1 x2 x3 x4 x5 x6 x7 x8 x9
theorem qb9_some {α1 α2 α3 α4 α5 α6 α7 α8 α9 β : Type} {a : Option (α1 × α2 × α3 × α4 × α5 × α6 × α7 × α8 × α9)} {k : α1 → α2 → α3 → α4 → α5 → α6 → α7 → α8 → α9 → Option β} {r : β} (h : qb9 a k = some r) : ∃ x1 x2 x3 x4 x5 x6 x7 x8 x9, a = some (x1, x2, x3, x4, x5, x6, x7, x8, x9) ∧ k x1 x2 x3 x4 x5 x6 x7 x8 x9 = some r := by
  match a, h with
  | none, h => cases h
  | some (x1, x2, x3, x4, x5, x6, x7, x8, x9), h => exact ⟨x1, x2, x3, x4, x5, x6, x7, x8, x9, rfl, h⟩
def qb10 {α1 α2 α3 α4 α5 α6 α7 α8 α9 α10 β : Type} (a : Option (α1 × α2 × α3 × α4 × α5 × α6 × α7 × α8 × α9 × α10)) (k : α1 → α2 → α3 → α4 → α5 → α6 → α7 → α8 → α9 → α10 → Option β) : Option β := match a with
  | none => none
  | some (x1, x2, x3, x4, x5, x6, x7, x8, x9, x10) => k x1 x2 x3 x4 x5 x6 x7 x8 x9 x10
theorem qb10_some {α1 α2 α3 α4 α5 α6 α7 α8 α9 α10 β : Type} {a : Option (α1 × α2 × α3 × α4 × α5 × α6 × α7 × α8 × α9 × α10)} {k : α1 → α2 → α3 → α4 → α5 → α6 → α7 → α8 → α9 → α10 → Option β} {r : β} (h : qb10 a k = some r) : ∃ x1 x2 x3 x4 x5 x6 x7 x8 x9 x10, a = some (x1, x2, x3, x4, x5, x6, x7, x8, x9, x10) ∧ k x1 x2 x3 x4 x5 x6 x7 x8 x9 x10 = some r := by
  match a, h with
  | none, h => cases h
  | some (x1, x2, x3, x4, x5, x6, x7, x8, x9, x10), h => exact ⟨x1, x2, x3, x4, x5, x6, x7, x8, x9, x10, rfl, h⟩
def qb11 {α1 α2 α3 α4 α5 α6 α7 α8 α9 α10 α11 β : Type} (a : Option (α1 × α2 × α3 × α4 × α5 × α6 × α7 × α8 × α9 × α10 × α11)) (k : α1 → α2 → α3 → α4 → α5 → α6 → α7 → α8 → α9 → α10 → α11 → Option β) : Option β := match a with
  | none => none
  | some (x1, x2, x3, x4, x5, x6, x7, x8, x9, x10, x11) => k x1 x2 x3 x4 x5 x6 x7 x8 x9 x10 x11
theorem qb11_some {α1 α2 α3 α4 α5 α6 α7 α8 α9 α10 α11 β : Type} {a : Option (α1 × α2 × α3 × α4 × α5 × α6 × α7 × α8 × α9 × α10 × α11)} {k : α1 → α2 → α3 → α4 → α5 → α6 → α7 → α8 → α9 → α10 → α11 → Option β} {r : β} (h : qb11 a k = some r) : ∃ x1 x2 x3 x4 x5 x6 x7 x8 x9 x10 x11, a = some (x1, x2, x3, x4, x5, x6, x7, x8, x9, x10, x11) ∧ k x1 x2 x3 x4 x5 x6 x7 x8 x9 x10 x11 = some r := by
  match a, h with
  | none, h => cases h
  | some (x1, x2, x3, x4, x5, x6, x7, x8, x9, x10, x11), h => exact ⟨x1, x2, x3, x4, x5, x6, x7, x8, x9, x10, x11, rfl, h⟩
def qb12 {α1 α2 α3 α4 α5 α6 α7 α8 α9 α10 α11 α12 β : Type} (a : Option (α1 × α2 × α3 × α4 × α5 × α6 × α7 × α8 × α9 × α10 × α11 × α12)) (k : α1 → α2 → α3 → α4 → α5 → α6 → α7 → α8 → α9 → α10 → α11 → α12 → Option β) : Option β := match a with
  | none => none
  | some (x1, x2, x3, x4, x5, x6, x7, x8, x9, x10, x11, x12) => k x1 x2 x3 x4 x5 x6 x7 x8 x9 x10 x11 x12
theorem qb12_some {α1 α2 α3 α4 α5 α6 α7 α8 α9 α10 α11 α12 β : Type} {a : Option (α1 × α2 × α3 × α4 × α5 × α6 × α7 × α8 × α9 × α10 × α11 × α12)} {k : α1 → α2 → α3 → α4 → α5 → α6 → α7 → α8 → α9 → α10 → α11 → α12 → Option β} {r : β} (h : qb12 a k = some r) : ∃ x1 x2 x3 x4 x5 x6 x7 x8 x9 x10 x11 x12, a = some (x1, x2, x3, x4, x5, x6, x7, x8, x9, x10, x11, x12) ∧ k x1 x2 x3 x4 x5 x6 x7 x8 x9 x10 x11 x12 = some r := by
  match a, h with
  | none, h => cases h
  | some (x1, x2, x3, x4, x5, x6, x7, x8, x9, x10, x11, x12), h => exact ⟨x1, x2, x3, x4, x5, x6, x7, x8, x9, x10, x11, x12, rfl, h⟩
def qb13 {α1 α2 α3 α4 α5 α6 α7 α8 α9 α10 α11 α12 α13 β : Type} (a : Option (α1 × α2 × α3 × α4 × α5 × α6 × α7 × α8 × α9 × α10 × α11 × α12 × α13)) (k : α1 → α2 → α3 → α4 → α5 → α6 → α7 → α8 → α9 → α10 → α11 → α12 → α13 → Option β) : Option β := match a with
  | none => none
  | some (x1, x2, x3, x4, x5, x6, x7, x8, x9, x10, x11, x12, x13) => k x1 x2 x3 x4 x5 x6 x7 x8 x9 x10 x11 x12 x13
theorem qb13_some {α1 α2 α3 α4 α5 α6 α7 α8 α9 α10 α11 α12 α13 β : Type} {a : Option (α1 × α2 × α3 × α4 × α5 × α6 × α7 × α8 × α9 × α10 × α11 × α12 × α13)} {k : α1 → α2 → α3 → α4 → α5 → α6 → α7 → α8 → α9 → α10 → α11 → α12 → α13 → Option β} {r : β} (h : qb13 a k = some r) : ∃ x1 x2 x3 x4 x5 x6 x7 x8 x9 x10 x11 x12 x13, a = some (x1, x2, x3, x4, x5, x6, x7, x8, x9, x10, x11, x12, x13) ∧ k x1 x2 x3 x4 x5 x6 x7 x8 x9 x10 x11 x12 x13 = some r := by
  match a, h with
  | none, h => cases h
  | some (x1, x2, x3, x4, x5, x6, x7, x8, x9, x10, x11, x12, x13), h => exact ⟨x1, x2, x3, x4, x5, x6, x7, x8, x9, x10, x11, x12, x13, rfl, h⟩
def qb14 {α1 α2 α3 α4 α5 α6 α7 α8 α9 α10 α11 α12 α13 α14 β : Type} (a : Option (α1 × α2 × α3 × α4 × α5 × α6 × α7 × α8 × α9 × α10 × α11 × α12 × α13 × α14)) (k : α1 → α2 → α3 → α4 → α5 → α6 → α7 → α8 → α9 → α10 → α11 → α12 → α13 → α14 → Option β) : Option β := match a with
  | none => none
  | some (x1, x2, x3, x4, x5, x6, x7, x8, x9, x10, x11, x12, x13, x14) => k x1 x2 x3 x4 x5 x6 x7 x8 x9 x10 x11 x12 x13 x14
theorem qb14_some {α1 α2 α3 α4 α5 α6 α7 α8 α9 α10 α11 α12 α13 α14 β : Type} {a : Option (α1 × α2 × α3 × α4 × α5 × α6 × α7 × α8 × α9 × α10 × α11 × α12 × α13 × α14)} {k : α1 → α2 → α3 → α4 → α5 → α6 → α7 → α8 → α9 → α10 → α11 → α12 → α13 → α14 → Option β} {r : β} (h : qb14 a k = some r) : ∃ x1 x2 x3 x4 x5 x6 x7 x8 x9 x10 x11 x12 x13 x14, a = some (x1, x2, x3, x4, x5, x6, x7, x8, x9, x10, x11, x12, x13, x14) ∧ k x1 x2 x3 x4 x5 x6 x7 x8 x9 x10 x11 x12 x13 x14 = some r := by
  match a, h with
  | none, h => cases h
  | some (x1, x2, x3, x4, x5, x6, x7, x8, x9, x10, x11, x12, x13, x14), h => exact ⟨x1, x2, x3, x4, x5, x6, x7, x8, x9, x10, x11, x12, x13, x14, rfl, h⟩
def qb15 {α1 α2 α3 α4 α5 α6 α7 α8 α9 α10 α11 α12 α13 α14 α15 β : Type} (a : Option (α1 × α2 × α3 × α4 × α5 × α6 × α7 × α8 × α9 × α10 × α11 × α12 × α13 × α14 × α15)) (k : α1 → α2 → α3 → α4 → α5 → α6 → α7 → α8 → α9 → α10 → α11 → α12 → α13 → α14 → α15 → Option β) : Option β := match a with
  | none => none
  | some (x1, x2, x3, x4, x5, x6, x7, x8, x9, x10, x11, x12, x13, x14, x15) => k x1 x2 x3 x4 x5 x6 x7 x8 x9 x10 x11 x12 x13 x14 x15
theorem qb15_some {α1 α2 α3 α4 α5 α6 α7 α8 α9 α10 α11 α12 α13 α14 α15 β : Type} {a : Option (α1 × α2 × α3 × α4 × α5 × α6 × α7 × α8 × α9 × α10 × α11 × α12 × α13 × α14 × α15)} {k : α1 → α2 → α3 → α4 → α5 → α6 → α7 → α8 → α9 → α10 → α11 → α12 → α13 → α14 → α15 → Option β} {r : β} (h : qb15 a k = some r) : ∃ x1 x2 x3 x4 x5 x6 x7 x8 x9 x10 x11 x12 x13 x14 x15, a = some (x1, x2, x3, x4, x5, x6, x7, x8, x9, x10, x11, x12, x13, x14, x15) ∧ k x1 x2 x3 x4 x5 x6 x7 x8 x9 x10 x11 x12 x13 x14 x15 = some r := by
  match a, h with
  | none, h => cases h
  | some (x1, x2, x3, x4, x5, x6, x7, x8, x9, x10, x11, x12, x13, x14, x15), h => exact ⟨x1, x2, x3, x4, x5, x6, x7, x8, x9, x10, x11, x12, x13, x14, x15, rfl, h⟩
def qb16 {α1 α2 α3 α4 α5 α6 α7 α8 α9 α10 α11 α12 α13 α14 α15 α16 β : Type} (a : Option (α1 × α2 × α3 × α4 × α5 × α6 × α7 × α8 × α9 × α10 × α11 × α12 × α13 × α14 × α15 × α16)) (k : α1 → α2 → α3 → α4 → α5 → α6 → α7 → α8 → α9 → α10 → α11 → α12 → α13 → α14 → α15 → α16 → Option β) : Option β := match a with
  | none => none
  | some (x1, x2, x3, x4, x5, x6, x7, x8, x9, x10, x11, x12, x13, x14, x15, x16) => k x1 x2 x3 x4 x5 x6 x7 x8 x9 x10 x11 x12 x13 x14 x15 x16
theorem qb16_some {α1 α2 α3 α4 α5 α6 α7 α8 α9 α10 α11 α12 α13 α14 α15 α16 β : Type} {a : Option (α1 × α2 × α3 × α4 × α5 × α6 × α7 × α8 × α9 × α10 × α11 × α12 × α13 × α14 × α15 × α16)} {k : α1 → α2 → α3 → α4 → α5 → α6 → α7 → α8 → α9 → α10 → α11 → α12 → α13 → α14 → α15 → α16 → Option β} {r : β} (h : qb16 a k = some r) : ∃ x1 x2 x3 x4 x5 x6 x7 x8 x9 x10 x11 x12 x13 x14 x15 x16, a = some (x1, x2, x3, x4, x5, x6, x7, x8, x9, x10, x11, x12, x13, x14, x15, x16) ∧ k x1 x2 x3 x4 x5 x6 x7 x8 x9 x10 x11 x12 x13 x14 x15 x16 = some r := by
  match a, h with
  | none, h => cases h
  | some (x1, x2, x3, x4, x5, x6, x7, x8, x9, x10, x11, x12, x13, x14, x15, x16), h => exact ⟨x1, x2, x3, x4, x5, x6, x7, x8, x9, x10, x11, x12, x13, x14, x15, x16, rfl, h⟩
theorem qe1 {α : Type} {a c : α} (h : some a = some c) : a = c := Option.some.inj h
theorem qe2 {α1 α2 : Type} {x1 y1 : α1} {x2 y2 : α2} (h : some (x1, x2) = some (y1, y2)) : x1 = y1 ∧ x2 = y2 := by
  cases h
  exact ⟨rfl, rfl⟩
theorem qe3 {α1 α2 α3 : Type} {x1 y1 : α1} {x2 y2 : α2} {x3 y3 : α3} (h : some (x1, x2, x3) = some (y1, y2, y3)) : x1 = y1 ∧ x2 = y2 ∧ x3 = y3 := by
  cases h
  exact ⟨rfl, rfl, rfl⟩
theorem qe4 {α1 α2 α3 α4 : Type} {x1 y1 : α1} {x2 y2 : α2} {x3 y3 : α3} {x4 y4 : α4} (h : some (x1, x2, x3, x4) = some (y1, y2, y3, y4)) : x1 = y1 ∧ x2 = y2 ∧ x3 = y3 ∧ x4 = y4 := by
  cases h
  exact ⟨rfl, rfl, rfl, rfl⟩
theorem qe5 {α1 α2 α3 α4 α5 : Type} {x1 y1 : α1} {x2 y2 : α2} {x3 y3 : α3} {x4 y4 : α4} {x5 y5 : α5} (h : some (x1, x2, x3, x4, x5) = some (y1, y2, y3, y4, y5)) : x1 = y1 ∧ x2 = y2 ∧ x3 = y3 ∧ x4 = y4 ∧ x5 = y5 := by
  cases h
  exact ⟨rfl, rfl, rfl, rfl, rfl⟩
theorem qe6 {α1 α2 α3 α4 α5 α6 : Type} {x1 y1 : α1} {x2 y2 : α2} {x3 y3 : α3} {x4 y4 : α4} {x5 y5 : α5} {x6 y6 : α6} (h : some (x1, x2, x3, x4, x5, x6) = some (y1, y2, y3, y4, y5, y6)) : x1 = y1 ∧ x2 = y2 ∧ x3 = y3 ∧ x4 = y4 ∧ x5 = y5 ∧ x6 = y6 := by
  cases h
  exact ⟨rfl, rfl, rfl, rfl, rfl, rfl⟩
theorem qe7 {α1 α2 α3 α4 α5 α6 α7 : Type} {x1 y1 : α1} {x2 y2 : α2} {x3 y3 : α3} {x4 y4 : α4} {x5 y5 : α5} {x6 y6 : α6} {x7 y7 : α7} (h : some (x1, x2, x3, x4, x5, x6, x7) = some (y1, y2, y3, y4, y5, y6, y7)) : x1 = y1 ∧ x2 = y2 ∧ x3 = y3 ∧ x4 = y4 ∧ x5 = y5 ∧ x6 = y6 ∧ x7 = y7 := by
  cases h
  exact ⟨rfl, rfl, rfl, rfl, rfl, rfl, rfl⟩
theorem qe8 {α1 α2 α3 α4 α5 α6 α7 α8 : Type} {x1 y1 : α1} {x2 y2 : α2} {x3 y3 : α3} {x4 y4 : α4} {x5 y5 : α5} {x6 y6 : α6} {x7 y7 : α7} {x8 y8 : α8} (h : some (x1, x2, x3, x4, x5, x6, x7, x8) = some (y1, y2, y3, y4, y5, y6, y7, y8)) : x1 = y1 ∧ x2 = y2 ∧ x3 = y3 ∧ x4 = y4 ∧ x5 = y5 ∧ x6 = y6 ∧ x7 = y7 ∧ x8 = y8 := by
  cases h
  exact ⟨rfl, rfl, rfl, rfl, rfl, rfl, rfl, rfl⟩
theorem qe9 {α1 α2 α3 α4 α5 α6 α7 α8 α9 : Type} {x1 y1 : α1} {x2 y2 : α2} {x3 y3 : α3} {x4 y4 : α4} {x5 y5 : α5} {x6 y6 : α6} {x7 y7 : α7} {x8 y8 : α8} {x9 y9 : α9} (h : some (x1, x2, x3, x4, x5, x6, x7, x8, x9) = some (y1, y2, y3, y4, y5, y6, y7, y8, y9)) : x1 = y1 ∧ x2 = y2 ∧ x3 = y3 ∧ x4 = y4 ∧ x5 = y5 ∧ x6 = y6 ∧ x7 = y7 ∧ x8 = y8 ∧ x9 = y9 := by
  cases h
  exact ⟨rfl, rfl, rfl, rfl, rfl, rfl, rfl, rfl, rfl⟩
theorem qe10 {α1 α2 α3 α4 α5 α6 α7 α8 α9 α10 : Type} {x1 y1 : α1} {x2 y2 : α2} {x3 y3 : α3} {x4 y4 : α4} {x5 y5 : α5} {x6 y6 : α6} {x7 y7 : α7} {x8 y8 : α8} {x9 y9 : α9} {x10 y10 : α10} (h : some (x1, x2, x3, x4, x5, x6, x7, x8, x9, x10) = some (y1, y2, y3, y4, y5, y6, y7, y8, y9, y10)) : x1 = y1 ∧ x2 = y2 ∧ x3 = y3 ∧ x4 = y4 ∧ x5 = y5 ∧ x6 = y6 ∧ x7 = y7 ∧ x8 = y8 ∧ x9 = y9 ∧ x10 = y10 := by
  cases h
  exact ⟨rfl, rfl, rfl, rfl, rfl, rfl, rfl, rfl, rfl, rfl⟩
theorem qe11 {α1 α2 α3 α4 α5 α6 α7 α8 α9 α10 α11 : Type} {x1 y1 : α1} {x2 y2 : α2} {x3 y3 : α3} {x4 y4 : α4} {x5 y5 : α5} {x6 y6 : α6} {x7 y7 : α7} {x8 y8 : α8} {x9 y9 : α9} {x10 y10 : α10} {x11 y11 : α11} (h : some (x1, x2, x3, x4, x5, x6, x7, x8, x9, x10, x11) = some (y1, y2, y3, y4, y5, y6, y7, y8, y9, y10, y11)) : x1 = y1 ∧ x2 = y2 ∧ x3 = y3 ∧ x4 = y4 ∧ x5 = y5 ∧ x6 = y6 ∧ x7 = y7 ∧ x8 = y8 ∧ x9 = y9 ∧ x10 = y10 ∧ x11 = y11 := by
  cases h
  exact ⟨rfl, rfl, rfl, rfl, rfl, rfl, rfl, rfl, rfl, rfl, rfl⟩
theorem qe12 {α1 α2 α3 α4 α5 α6 α7 α8 α9 α10 α11 α12 : Type} {x1 y1 : α1} {x2 y2 : α2} {x3 y3 : α3} {x4 y4 : α4} {x5 y5 : α5} {x6 y6 : α6} {x7 y7 : α7} {x8 y8 : α8} {x9 y9 : α9} {x10 y10 : α10} {x11 y11 : α11} {x12 y12 : α12} (h : some (x1, x2, x3, x4, x5, x6, x7, x8, x9, x10, x11, x12) = some (y1, y2, y3, y4, y5, y6, y7, y8, y9, y10, y11, y12)) : x1 = y1 ∧ x2 = y2 ∧ x3 = y3 ∧ x4 = y4 ∧ x5 = y5 ∧ x6 = y6 ∧ x7 = y7 ∧ x8 = y8 ∧ x9 = y9 ∧ x10 = y10 ∧ x11 = y11 ∧ x12 = y12 := by
  cases h
  exact ⟨rfl, rfl, rfl, rfl, rfl, rfl, rfl, rfl, rfl, rfl, rfl, rfl⟩
theorem qe13 {α1 α2 α3 α4 α5 α6 α7 α8 α9 α10 α11 α12 α13 : Type} {x1 y1 : α1} {x2 y2 : α2} {x3 y3 : α3} {x4 y4 : α4} {x5 y5 : α5} {x6 y6 : α6} {x7 y7 : α7} {x8 y8 : α8} {x9 y9 : α9} {x10 y10 : α10} {x11 y11 : α11} {x12 y12 : α12} {x13 y13 : α13} (h : some (x1, x2, x3, x4, x5, x6, x7, x8, x9, x10, x11, x12, x13) = some (y1, y2, y3, y4, y5, y6, y7, y8, y9, y10, y11, y12, y13)) : x1 = y1 ∧ x2 = y2 ∧ x3 = y3 ∧ x4 = y4 ∧ x5 = y5 ∧ x6 = y6 ∧ x7 = y7 ∧ x8 = y8 ∧ x9 = y9 ∧ x10 = y10 ∧ x11 = y11 ∧ x12 = y12 ∧ x13 = y13 := by
  cases h
  exact ⟨rfl, rfl, rfl, rfl, rfl, rfl, rfl, rfl, rfl, rfl, rfl, rfl, rfl⟩
theorem qe14 {α1 α2 α3 α4 α5 α6 α7 α8 α9 α10 α11 α12 α13 α14 : Type} {x1 y1 : α1} {x2 y2 : α2} {x3 y3 : α3} {x4 y4 : α4} {x5 y5 : α5} {x6 y6 : α6} {x7 y7 : α7} {x8 y8 : α8} {x9 y9 : α9} {x10 y10 : α10} {x11 y11 : α11} {x12 y12 : α12} {x13 y13 : α13} {x14 y14 : α14} (h : some (x1, x2, x3, x4, x5, x6, x7, x8, x9, x10, x11, x12, x13, x14) = some (y1, y2, y3, y4, y5, y6, y7, y8, y9, y10, y11, y12, y13, y14)) : x1 = y1 ∧ x2 = y2 ∧ x3 = y3 ∧ x4 = y4 ∧ x5 = y5 ∧ x6 = y6 ∧ x7 = y7 ∧ x8 = y8 ∧ x9 = y9 ∧ x10 = y10 ∧ x11 = y11 ∧ x12 = y12 ∧ x13 = y13 ∧ x14 = y14 := by
  cases h
  exact ⟨rfl, rfl, rfl, rfl, rfl, rfl, rfl, rfl, rfl, rfl, rfl, rfl, rfl, rfl⟩
theorem qe15 {α1 α2 α3 α4 α5 α6 α7 α8 α9 α10 α11 α12 α13 α14 α15 : Type} {x1 y1 : α1} {x2 y2 : α2} {x3 y3 : α3} {x4 y4 : α4} {x5 y5 : α5} {x6 y6 : α6} {x7 y7 : α7} {x8 y8 : α8} {x9 y9 : α9} {x10 y10 : α10} {x11 y11 : α11} {x12 y12 : α12} {x13 y13 : α13} {x14 y14 : α14} {x15 y15 : α15} (h : some (x1, x2, x3, x4, x5, x6, x7, x8, x9, x10, x11, x12, x13, x14, x15) = some (y1, y2, y3, y4, y5, y6, y7, y8, y9, y10, y11, y12, y13, y14, y15)) : x1 = y1 ∧ x2 = y2 ∧ x3 = y3 ∧ x4 = y4 ∧ x5 = y5 ∧ x6 = y6 ∧ x7 = y7 ∧ x8 = y8 ∧ x9 = y9 ∧ x10 = y10 ∧ x11 = y11 ∧ x12 = y12 ∧ x13 = y13 ∧ x14 = y14 ∧ x15 = y15 := by
  cases h
  exact ⟨rfl, rfl, rfl, rfl, rfl, rfl, rfl, rfl, rfl, rfl, rfl, rfl, rfl, rfl, rfl⟩
theorem qe16 {α1 α2 α3 α4 α5 α6 α7 α8 α9 α10 α11 α12 α13 α14 α15 α16 : Type} {x1 y1 : α1} {x2 y2 : α2} {x3 y3 : α3} {x4 y4 : α4} {x5 y5 : α5} {x6 y6 : α6} {x7 y7 : α7} {x8 y8 : α8} {x9 y9 : α9} {x10 y10 : α10} {x11 y11 : α11} {x12 y12 : α12} {x13 y13 : α13} {x14 y14 : α14} {x15 y15 : α15} {x16 y16 : α16} (h : some (x1, x2, x3, x4, x5, x6, x7, x8, x9, x10, x11, x12, x13, x14, x15, x16) = some (y1, y2, y3, y4, y5, y6, y7, y8, y9, y10, y11, y12, y13, y14, y15, y16)) : x1 = y1 ∧ x2 = y2 ∧ x3 = y3 ∧ x4 = y4 ∧ x5 = y5 ∧ x6 = y6 ∧ x7 = y7 ∧ x8 = y8 ∧ x9 = y9 ∧ x10 = y10 ∧ x11 = y11 ∧ x12 = y12 ∧ x13 = y13 ∧ x14 = y14 ∧ x15 = y15 ∧ x16 = y16 := by
  cases h
  exact ⟨rfl, rfl, rfl, rfl, rfl, rfl, rfl, rfl, rfl, rfl, rfl, rfl, rfl, rfl, rfl, rfl⟩
section ENDS
variable {X : Cx} {cc : ByteArray} {nL pc : Nat} {own : String} {Ts : List Cond} {R : Room} {cI cZ cQ : ClassId} {ws w0 w1 : List va_W} {lv : List (Nat × Value)}
theorem r_iret2 (O : OK X cc nL own Ts R cI cZ cQ) {v r0 : Int32} (E : EI X cI cZ cQ w0 r0 w1) (hv : v = r0) (hw : ws = w1) (d : decode cc pc = .ok (.ireturn, 1)) : BK X nL 0 0 pc ws lv [.int v] := by
  subst hv; subst hw; exact r_iret O E d
theorem r_lret2 (O : OK X cc nL own Ts R cI cZ cQ) {v r0 : Int64} (E : EL X cI cZ cQ w0 r0 w1) (hv : v = r0) (hw : ws = w1) (d : decode cc pc = .ok (.lreturn, 1)) : BK X nL 0 0 pc ws lv [.long v] := by
  subst hv; subst hw; exact r_lret O E d
theorem r_dret2 (O : OK X cc nL own Ts R cI cZ cQ) {v r0 : UInt64} (E : ED X cI cZ cQ w0 r0 w1) (hv : v = r0) (hw : ws = w1) (d : decode cc pc = .ok (.dreturn, 1)) : BK X nL 0 0 pc ws lv [.double v] := by
  subst hv; subst hw; exact r_dret O E d
theorem r_zret2 (O : OK X cc nL own Ts R cI cZ cQ) {v r0 : Int32} (E : EZ X cI cZ cQ w0 r0 w1) (hv : v = r0) (hw : ws = w1) (hz : narrow .boolean (.int v) = .int v) (d : decode cc pc = .ok (.ireturn, 1)) : BK X nL 0 0 pc ws lv [.int v] := by
  subst hv; subst hw; exact r_zret O E hz d
theorem r_vret2 (O : OK X cc nL own Ts R cI cZ cQ) (E : EV X cI cZ cQ w0 w1) (hw : ws = w1) (d : decode cc pc = .ok (.return_, 1)) : BK X nL 0 0 pc ws lv [] := by
  subst hw; exact r_vret O E d
theorem xO_n87 (O : OK X cc nL own Ts R cI cZ cQ) : va_Nw (.methodLinkNest RX4 87 yX9_greatestDivisor "WallPartition") (xs X) := O.hN.2.2.2.1
theorem r_yret2 (O : OK X cc nL own Ts R cI cZ cQ) {v r0 : Option Nat} (E : EY X cI cZ cQ w0 r0 w1) (hv : v = r0) (hw : ws = w1) (d : decode cc pc = .ok (.areturn, 1)) : BK X nL 0 0 pc ws lv [va_rf v] := by
  subst hv; subst hw; exact r_yret O E d
end ENDS
def hkf (a b c d e f g h : Nat → Nat) : Nat → Nat := fun j => match j with
  | 0 => a 0
  | 1 => b 0
  | 2 => c 0
  | 3 => d 0
  | 4 => e 0
  | 5 => f 0
  | 6 => g 0
  | _ => h 0
def fX2_placeAt (hk : Nat → Nat) (a : Int32) : Option Nat := if a < 0 then none else if 8 ≤ a then none else some (hk a.toNatClampNeg)
theorem plc_none {hk : Nat → Nat} {a : Int32} (h0 : ¬ a = 0) (h1 : ¬ a = 1) (h2 : ¬ a = 2) (h3 : ¬ a = 3) (h4 : ¬ a = 4) (h5 : ¬ a = 5) (h6 : ¬ a = 6) (h7 : ¬ a = 7) : fX2_placeAt hk a = none := by
  unfold fX2_placeAt
  by_cases c0 : a < 0
  · rw [if_pos c0]
  · rw [if_neg c0]
    by_cases c8 : (8 : Int32) ≤ a
    · rw [if_pos c8]
    · exfalso
      have e0 : a.toInt ≠ 0 := fun e => h0 (Int32.toInt_inj.mp e)
      have e1 : a.toInt ≠ 1 := fun e => h1 (Int32.toInt_inj.mp e)
      have e2 : a.toInt ≠ 2 := fun e => h2 (Int32.toInt_inj.mp e)
      have e3 : a.toInt ≠ 3 := fun e => h3 (Int32.toInt_inj.mp e)
      have e4 : a.toInt ≠ 4 := fun e => h4 (Int32.toInt_inj.mp e)
      have e5 : a.toInt ≠ 5 := fun e => h5 (Int32.toInt_inj.mp e)
      have e6 : a.toInt ≠ 6 := fun e => h6 (Int32.toInt_inj.mp e)
      have e7 : a.toInt ≠ 7 := fun e => h7 (Int32.toInt_inj.mp e)
      have g0 : ¬ a.toInt < 0 := fun h => c0 (Int32.lt_iff_toInt_lt.mpr h)
      have g8 : ¬ 8 ≤ a.toInt := fun h => c8 (Int32.le_iff_toInt_le.mpr h)
      omega
def nX0 (cI cZ cQ : ClassId) (h : Nat → Nat) (r0 : Nat) (r1 : Nat) (u : Pk) : va_W := [(h 0, .inr (0, [.ref r0, .ref r1, .ref (h 3), .int (u.2.1 3), .int (u.2.1 4), .int (u.2.1 5)])), (h 3, .inl (cI, 144, .inl (u.1 2)))]
def nX1 (cI cZ cQ : ClassId) (h : Nat → Nat) (r0 : Nat) (u : Pk) : va_W := [(h 0, .inr (1, [.ref r0, .int (u.2.1 1), .int (u.2.1 2)]))]
def nX2 (cI cZ cQ : ClassId) (h : Nat → Nat) (ad : Nat → Nat) (u : Pk) : va_W := [(h 0, .inr (2, [.ref (h 1), .int (u.2.1 1), .int (u.2.1 2)])), (h 1, .inl (cQ, 8, .inr (.inr (.inr (.inr (fun j => some (ad j)))))))]
def nX3 (cI cZ cQ : ClassId) (h : Nat → Nat) (r0 : Nat) (u : Pk) : va_W := [(h 0, .inr (3, [.ref r0, .int (u.2.1 1), .long (u.2.2 2), .long (u.2.2 3)]))]
def nX4 (cI cZ cQ : ClassId) (h : Nat → Nat) (r0 : Nat) (u : Pk) : va_W := [(h 0, .inr (4, [.ref r0, .int (u.2.1 1), .ref (h 3), .ref (h 4), .ref (h 5), .ref (h 6), .ref (h 7), .int (u.2.1 7)])), (h 3, .inl (cI, (u.2.1 1).toNatClampNeg, .inl (u.1 2))), (h 4, .inl (cI, (u.2.1 1).toNatClampNeg, .inl (u.1 3))), (h 5, .inl (cI, (u.2.1 1).toNatClampNeg, .inl (u.1 4))), (h 6, .inl (cI, (u.2.1 1).toNatClampNeg, .inl (u.1 5))), (h 7, .inl (cI, (u.2.1 1).toNatClampNeg, .inl (u.1 6)))]
def nX5 (cI cZ cQ : ClassId) (h : Nat → Nat) (r0 : Nat) (u : Pk) : va_W := [(h 0, .inr (5, [.ref r0, .ref (h 2), .int (u.2.1 2), .int (u.2.1 3), .int (u.2.1 4), .int (u.2.1 5), .int (u.2.1 6), .int (u.2.1 7), .int (u.2.1 8), .int (u.2.1 9), .int (u.2.1 10), .int (u.2.1 11)])), (h 2, .inl (cZ, 12, .inl (u.1 1)))]
def nX6 (cI cZ cQ : ClassId) (h : Nat → Nat) (r0 : Nat) (r1 : Nat) (r2 : Nat) (u : Pk) : va_W := [(h 0, .inr (6, [.ref r0, .ref r1, .ref r2, .ref (h 4), .ref (h 5), .ref (h 6), .ref (h 7), .ref (h 8), .ref (h 9), .ref (h 10), .int (u.2.1 10), .int (u.2.1 11), .int (u.2.1 12), .int (u.2.1 13), .int (u.2.1 14), .int (u.2.1 15), .int (u.2.1 16)])), (h 4, .inl (cI, 144, .inl (u.1 3))), (h 5, .inl (cI, 144, .inl (u.1 4))), (h 6, .inl (cI, 144, .inl (u.1 5))), (h 7, .inl (cI, 144, .inl (u.1 6))), (h 8, .inl (cI, 144, .inl (u.1 7))), (h 9, .inl (cI, 144, .inl (u.1 8))), (h 10, .inl (cI, 144, .inl (u.1 9)))]
def nX7 (cI cZ cQ : ClassId) (h : Nat → Nat) (u : Pk) : va_W := [(h 0, .inr (7, [.ref (h 1), .ref (h 2), .int (u.2.1 2), .int (u.2.1 3), .int (u.2.1 4), .int (u.2.1 5), .int (u.2.1 6)])), (h 1, .inl (cI, 300, .inl (u.1 0))), (h 2, .inl (cI, 4, .inl (u.1 1)))]
def nX8 (cI cZ cQ : ClassId) (h : Nat → Nat) (u : Pk) : va_W := [(h 0, .inr (8, [.ref (h 1), .ref (h 2), .ref (h 3), .ref (h 4), .ref (h 5), .ref (h 6), .ref (h 7), .int (u.2.1 7), .int (u.2.1 8)])), (h 1, .inl (cZ, 12, .inl (u.1 0))), (h 2, .inl (cZ, 12, .inl (u.1 1))), (h 3, .inl (cI, 12, .inl (u.1 2))), (h 4, .inl (cI, 12, .inl (u.1 3))), (h 5, .inl (cI, 12, .inl (u.1 4))), (h 6, .inl (cI, 12, .inl (u.1 5))), (h 7, .inl (cI, 12, .inl (u.1 6)))]
def nX9 (cI cZ cQ : ClassId) (h : Nat → Nat) (r0 : Nat) (r1 : Nat) (r2 : Nat) (r3 : Nat) (r4 : Nat) (r5 : Nat) (r6 : Nat) (r7 : Nat) (r8 : Nat) (r9 : Nat) (r10 : Nat) (u : Pk) : va_W := [(h 0, .inr (9, [.ref r0, .ref r1, .ref r2, .ref r3, .ref r4, .ref r5, .ref r6, .ref r7, .ref r8, .ref r9, .ref r10, .int (u.2.1 11), .int (u.2.1 12)]))]
def nX10 (cI cZ cQ : ClassId) (h : Nat → Nat) (u : Pk) : va_W := [(h 0, .inr (10, [.ref (h 1), .int (u.2.1 1), .int (u.2.1 2), .ref (h 4), .int (u.2.1 4), .ref (h 6), .int (u.2.1 6), .int (u.2.1 7), .int (u.2.1 8), .int (u.2.1 9), .ref (h 11), .int (u.2.1 11), .int (u.2.1 12), .int (u.2.1 13), .int (u.2.1 14), .int (u.2.1 15), .int (u.2.1 16), .ref (h 18), .int (u.2.1 18), .int (u.2.1 19), .ref (h 21), .ref (h 22), .ref (h 23), .ref (h 24), .ref (h 25), .int (u.2.1 25), .int (u.2.1 26), .ref (h 28), .ref (h 29), .ref (h 30), .ref (h 31), .int (u.2.1 31), .ref (h 33), .ref (h 34), .ref (h 35), .int (u.2.1 35), .ref (h 37), .ref (h 38), .ref (h 39), .ref (h 40), .ref (h 41), .ref (h 42), .ref (h 43), .ref (h 44), .ref (h 45), .int (u.2.1 45), .int (u.2.1 46), .int (u.2.1 47), .int (u.2.1 48), .ref (h 50), .int (u.2.1 50), .long (u.2.2 51), .long (u.2.2 52), .long (u.2.2 53), .int (u.2.1 54), .long (u.2.2 55), .long (u.2.2 56), .long (u.2.2 57), .long (u.2.2 58), .int (u.2.1 59), .long (u.2.2 60), .long (u.2.2 61), .ref (h 63), .int (u.2.1 63), .ref (h 65), .ref (h 66), .int (u.2.1 66), .int (u.2.1 67), .int (u.2.1 68), .int (u.2.1 69)])), (h 1, .inl (cI, 84, .inl (u.1 0))), (h 4, .inl (cI, 688, .inl (u.1 3))), (h 6, .inl (cI, 300, .inl (u.1 5))), (h 11, .inl (cI, 60, .inl (u.1 10))), (h 18, .inl (cI, 84, .inl (u.1 17))), (h 21, .inl (cI, 160, .inl (u.1 20))), (h 22, .inl (cI, 160, .inl (u.1 21))), (h 23, .inl (cI, 160, .inl (u.1 22))), (h 24, .inl (cI, 160, .inl (u.1 23))), (h 25, .inl (cI, 160, .inl (u.1 24))), (h 28, .inl (cI, 160, .inl (u.1 27))), (h 29, .inl (cI, 160, .inl (u.1 28))), (h 30, .inl (cI, 640, .inl (u.1 29))), (h 31, .inl (cI, 160, .inl (u.1 30))), (h 33, .inl (cI, 1800, .inl (u.1 32))), (h 34, .inl (cI, 30, .inl (u.1 33))), (h 35, .inl (cI, 30, .inl (u.1 34))), (h 37, .inl (cI, 60, .inl (u.1 36))), (h 38, .inl (cI, 420, .inl (u.1 37))), (h 39, .inl (cI, 160, .inl (u.1 38))), (h 40, .inl (cI, 160, .inl (u.1 39))), (h 41, .inl (cI, 160, .inl (u.1 40))), (h 42, .inl (cI, 160, .inl (u.1 41))), (h 43, .inl (cI, 160, .inl (u.1 42))), (h 44, .inl (cI, 400, .inl (u.1 43))), (h 45, .inl (cI, 320, .inl (u.1 44))), (h 50, .inl (cI, 160, .inl (u.1 49))), (h 63, .inl (cI, 12, .inl (u.1 62))), (h 65, .inl (cI, 243, .inl (u.1 64))), (h 66, .inl (cI, 6, .inl (u.1 65)))]
