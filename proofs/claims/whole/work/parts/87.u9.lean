/-! THE REFERENCE'S TREE: nodes, leaves and pieces are numbered -/
section S
variable {T : Tr} {pth : Nat → List Bool} {nd : Nat → Nd} {N M k : Nat} {m m' : Pk} {π : List Bool} {rt : Int}
def bit (s : Bool) : Nat := if s then 0 else 1
/-- what numbering leaves -/
def nbF (m m' : Pk) : Prop := (∀ r, ¬ (38 ≤ r ∧ r ≤ 44) → m'.1 r = m.1 r) ∧ (∀ k, ¬ (45 ≤ k ∧ k ≤ 48) → m'.2.1 k = m.2.1 k) ∧ m'.2.2 = m.2.2
theorem nbF.rf (m : Pk) : nbF m m := ⟨fun _ _ => rfl, fun _ _ => rfl, rfl⟩
theorem nbF.tr {a b c : Pk} (h : nbF a b) (g : nbF b c) : nbF a c := ⟨fun r hr => (g.1 r hr).trans (h.1 r hr), fun k hk => (g.2.1 k hk).trans (h.2.1 k hk), g.2.2.trans h.2.2⟩
theorem nbF_A (m : Pk) {r j : Nat} (hr : 38 ≤ r ∧ r ≤ 44) (hj : j < 2147483648) (x : Int32) : nbF m (pkA m r (zI (j : Int)) x) := ⟨fun k hk => by rw [pA1 hj, if_neg (by omega)], fun k _ => by rw [pA2], rfl⟩
theorem nbF_I (m : Pk) {r : Nat} (hr : 45 ≤ r ∧ r ≤ 48) (x : Int32) : nbF m (pkI m r x) := ⟨fun _ _ => rfl, fun k hk => by rw [pI, if_neg (by omega)], rfl⟩
theorem PH.nb (H : PH m N M nd) (h : nbF m m') : PH m' N M nd := H.of (fun r hr => h.1 r (by omega)) (h.2.1 25 (by decide)) (h.2.1 31 (by decide))
/-- numbers that are told already stay, or are told again -/
def nFr (T : Tr) (pth : Nat → List Bool) (nd : Nat → Nd) (N : Nat) (m m' : Pk) (a b : Nat) : Prop := (∀ i, i < a → m'.1 38 i = m.1 38 i) ∧ (∀ i, i < b → m'.1 41 i = m.1 41 i) ∧ (∀ k, k < N → m'.1 39 k = m.1 39 k ∨ m'.1 39 k = zI (num T (pth k) : Int)) ∧ (∀ k, k < N → m'.1 40 k = m.1 40 k ∨ m'.1 40 k = zI ((pth k).length : Int)) ∧ (∀ k, k < N → ∀ (j c : Nat) (q : Pc), (nd k).2.2.2[j]? = some (c, q) → m'.1 42 c = m.1 42 c ∨ m'.1 42 c = zI ((pnum T (pth k) + j : Nat) : Int)) ∧ ∀ k, k < N → ∀ s, Ls T (s :: pth k) = [] → m'.1 44 (2 * k + bit s) = m.1 44 (2 * k + bit s) ∨ m'.1 44 (2 * k + bit s) = zI (lnum T (s :: pth k) : Int)
theorem or_tr {α : Type} {a b c x : α} (h : b = a ∨ b = x) (g : c = b ∨ c = x) : c = a ∨ c = x := by
  rcases g with g | g
  · rcases h with h | h
    · exact Or.inl (g.trans h)
    · exact Or.inr (g.trans h)
  · exact Or.inr g
theorem nFr.tr {m1 m2 m3 : Pk} {a b a' b' : Nat} (h : nFr T pth nd N m1 m2 a b) (g : nFr T pth nd N m2 m3 a' b') (ha : a ≤ a') (hb : b ≤ b') : nFr T pth nd N m1 m3 a b :=
  ⟨fun i hi => (g.1 i (by omega)).trans (h.1 i hi), fun i hi => (g.2.1 i (by omega)).trans (h.2.1 i hi), fun k hk => or_tr (h.2.2.1 k hk) (g.2.2.1 k hk), fun k hk => or_tr (h.2.2.2.1 k hk) (g.2.2.2.1 k hk), fun k hk j c q hj => or_tr (h.2.2.2.2.1 k hk j c q hj) (g.2.2.2.2.1 k hk j c q hj), fun k hk s hs => or_tr (h.2.2.2.2.2 k hk s hs) (g.2.2.2.2.2 k hk s hs)⟩
/-- nothing of it changes -/
theorem nFr.rf {a b : Nat} (e : ∀ r, r = 38 ∨ r = 39 ∨ r = 40 ∨ r = 41 ∨ r = 42 ∨ r = 44 → m'.1 r = m.1 r) : nFr T pth nd N m m' a b :=
  ⟨fun i _ => by rw [e 38 (by decide)], fun i _ => by rw [e 41 (by decide)], fun k _ => Or.inl (by rw [e 39 (by decide)]), fun k _ => Or.inl (by rw [e 40 (by decide)]), fun k _ j c q _ => Or.inl (by rw [e 42 (by decide)]), fun k _ s _ => Or.inl (by rw [e 44 (by decide)])⟩
/-- a node's numbers are told -/
def NK (T : Tr) (pth : Nat → List Bool) (nd : Nat → Nd) (m : Pk) (k : Nat) : Prop := m.1 38 (num T (pth k)) = zI (k : Int) ∧ m.1 39 k = zI (num T (pth k) : Int) ∧ m.1 40 k = zI ((pth k).length : Int) ∧ (∀ (j c : Nat) (q : Pc), (nd k).2.2.2[j]? = some (c, q) → m.1 41 (pnum T (pth k) + j) = zI (c : Int) ∧ m.1 42 c = zI ((pnum T (pth k) + j : Nat) : Int)) ∧ ∀ s, Ls T (s :: pth k) = [] → m.1 44 (2 * k + bit s) = zI (lnum T (s :: pth k) : Int)
theorem or_eq {α : Type} {a b x : α} (h : a = x) (g : b = a ∨ b = x) : b = x := by
  rcases g with g | g
  · exact g.trans h
  · exact g
theorem NK.F {a b : Nat} (h : NK T pth nd m k) (hk : k < N) (g : nFr T pth nd N m m' a b) (ha : num T (pth k) < a) (hb : pnum T (pth k) + (nd k).2.2.2.length ≤ b) : NK T pth nd m' k := by
  obtain ⟨h1, h2, h3, h4, h5⟩ := h
  refine ⟨by rw [g.1 _ ha]; exact h1, or_eq h2 (g.2.2.1 k hk), or_eq h3 (g.2.2.2.1 k hk), fun j c q hj => ⟨?_, or_eq (h4 j c q hj).2 (g.2.2.2.2.1 k hk j c q hj)⟩, fun s hs => or_eq (h5 s hs) (g.2.2.2.2.2 k hk s hs)⟩
  rw [g.2.1 _ (by have := get_lt hj; omega)]
  exact (h4 j c q hj).1
def plZ (par : Option (Nat × Bool)) : Int32 := match par with
  | none => zI (-1)
  | some (k, s) => zI ((2 * k + bit s : Nat) : Int)
/-- the leaf's fact -/
def LF (T : Tr) (m : Pk) (par : Option (Nat × Bool)) (π : List Bool) : Prop := match par with
  | none => m.2.1 45 = zI (lnum T π : Int)
  | some (k, s) => m.1 44 (2 * k + bit s) = zI (lnum T π : Int)
theorem bit_lt (s : Bool) : bit s < 2 := by cases s <;> decide
theorem M_leafstep {par : Option (Nat × Bool)} {lf d e : Nat} {sum : Int} (hp : parAt par pth N π) (hN : N ≤ 160) (hd : d ≤ 12) (he : e ≤ 12) (h46 : m.2.1 46 = zI (lf : Int)) (h47 : m.2.1 47 = zI sum) (h48 : m.2.1 48 = zI (d : Int)) (inj : ∀ j k, j < N → k < N → pth j = pth k → j = k) (hl : lf = lnum T π) : ∃ m', fX10_leaf m (plZ par) (zI (e : Int)) = some m' ∧ m'.2.1 46 = zI ((lf + 1 : Nat) : Int) ∧ m'.2.1 47 = zI (sum + (e : Int)) ∧ m'.2.1 48 = zI ((max d e : Nat) : Int) ∧ nbF m m' ∧ (∀ r, ¬ r = 44 → m'.1 r = m.1 r) ∧ LF T m' par π ∧ (par ≠ none → m'.2.1 45 = m.2.1 45) ∧ ∀ k, k < N → ∀ s, m'.1 44 (2 * k + bit s) = m.1 44 (2 * k + bit s) ∨ m'.1 44 (2 * k + bit s) = zI (lnum T (s :: pth k) : Int) := by
  -- the counting behind
  have cnt : ∀ u : Pk, u.2.1 46 = zI (lf : Int) → u.2.1 47 = zI sum → u.2.1 48 = zI (d : Int) → ∃ m', fX10_leaf_b25 u (zI (e : Int)) = some m' ∧ m'.1 = u.1 ∧ m'.2.1 45 = u.2.1 45 ∧ m'.2.1 46 = zI ((lf + 1 : Nat) : Int) ∧ m'.2.1 47 = zI (sum + (e : Int)) ∧ m'.2.1 48 = zI ((max d e : Nat) : Int) ∧ nbF u m' := by
    intro u u6 u7 u8
    unfold fX10_leaf_b25 fX10_leaf_b62
    simp only [qn_s]
    have f47 : ∀ x, (pkI u 46 x).2.1 47 = zI sum := fun x => by rw [pI, if_neg (by decide)]; exact u7
    have f48 : ∀ x y, (pkI (pkI u 46 x) 47 y).2.1 48 = zI (d : Int) := fun x y => by rw [pI, if_neg (by decide), pI, if_neg (by decide)]; exact u8
    rw [u6, f47, f48, ix_s, zI_add]
    have le : zI (e : Int) ≤ zI (d : Int) ↔ e ≤ d := by rw [zI_le (rI_n (by omega)) (rI_n (by omega))]; omega
    have fin : ∀ z : Nat, z = max d e → ∃ m', some (pkI (pkI (pkI u 46 (zI ((lf + 1 : Nat) : Int))) 47 (zI (sum + (e : Int)))) 48 (zI (z : Int))) = some m' ∧ m'.1 = u.1 ∧ m'.2.1 45 = u.2.1 45 ∧ m'.2.1 46 = zI ((lf + 1 : Nat) : Int) ∧ m'.2.1 47 = zI (sum + (e : Int)) ∧ m'.2.1 48 = zI ((max d e : Nat) : Int) ∧ nbF u m' := fun z hz => by
      refine ⟨_, rfl, rfl, ?_, ?_, ?_, ?_, ((nbF_I u (by decide) _).tr (nbF_I _ (by decide) _)).tr (nbF_I _ (by decide) _)⟩
      · rw [pI, if_neg (by decide), pI, if_neg (by decide), pI, if_neg (by decide)]
      · rw [pI, if_neg (by decide), pI, if_neg (by decide), pI, if_pos rfl]
      · rw [pI, if_neg (by decide), pI, if_pos rfl]
      · rw [pI, if_pos rfl, hz]
    by_cases c : e ≤ d
    · rw [if_pos (le.mpr c)]
      exact fin d (Nat.max_eq_left c).symm
    · rw [if_neg (fun g => c (le.mp g))]
      exact fin e (Nat.max_eq_right (by omega)).symm
  unfold fX10_leaf
  rcases hp with ⟨a, b⟩ | ⟨k, s, a, b, c⟩
  · subst a
    rw [show plZ none = zI (-1) from rfl, if_neg (by decide), qn_s, h46]
    obtain ⟨m', c1, c2, c3, c4, c5, c6, c7⟩ := cnt (pkI m 45 (zI (lf : Int))) (by rw [pI, if_neg (by decide)]; exact h46) (by rw [pI, if_neg (by decide)]; exact h47) (by rw [pI, if_neg (by decide)]; exact h48)
    refine ⟨m', c1, c4, c5, c6, (nbF_I m (by decide) _).tr c7, fun r _ => by rw [c2]; rfl, ?_, fun h => absurd rfl h, fun k _ s => Or.inl (by rw [c2]; rfl)⟩
    show m'.2.1 45 = _
    rw [c3, pI, if_pos rfl, hl]
  · subst a
    have bl := bit_lt s
    have hz : 2 * k + bit s < 2147483648 := by omega
    have p0 : 0 ≤ zI ((2 * k + bit s : Nat) : Int) := by rw [z0, zI_le r0 (rI_n (by omega))]; omega
    rw [show plZ (some (k, s)) = zI ((2 * k + bit s : Nat) : Int) from rfl, if_pos p0, qst_at (by omega) (by decide), qn_s, h46]
    obtain ⟨m', c1, c2, c3, c4, c5, c6, c7⟩ := cnt (pkA m 44 (zI ((2 * k + bit s : Nat) : Int)) (zI (lf : Int))) (by rw [pA2]; exact h46) (by rw [pA2]; exact h47) (by rw [pA2]; exact h48)
    refine ⟨m', c1, c4, c5, c6, (nbF_A m (by decide) hz _).tr c7, fun r hr => by rw [c2, pA1 hz, if_neg hr], ?_, fun _ => by rw [c3, pA2], fun j hj t => ?_⟩
    · show m'.1 44 (2 * k + bit s) = _
      rw [c2, pAt hz, if_pos ⟨rfl, rfl⟩, hl]
    · rw [c2, pAt hz]
      by_cases e : 2 * j + bit t = 2 * k + bit s
      · rw [if_pos ⟨rfl, e⟩]
        refine Or.inr ?_
        have bt := bit_lt t
        have ej : j = k := by omega
        have et : t = s := by
          have : bit t = bit s := by omega
          cases t <;> cases s <;> first | rfl | exact absurd this (by decide)
        rw [ej, et, ← c, hl]
      · rw [if_neg (fun h => e h.2)]; exact Or.inl rfl
end S
