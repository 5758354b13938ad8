/-! THE REFERENCE'S TREE: how a piece lies, its cut; nodes and pieces in a store -/
section S
variable {p : Pln} {m : Pk} {v u : Nat} {q : Pc}
def sg (x : Int) : Int := if 0 < x then 1 else if x = 0 then 0 else -1
theorem M_signAt (Q : ReM m p) (V : VP p) (hv : v < 12) (pv : pP p v = true) (hu : u < 12) (pu : pP p u = true) {n d : Int} (hn : -7938 ≤ n ∧ n ≤ 7938) (hd : -7938 ≤ d ∧ d ≤ 7938) : fX10_signAt m (zI (v : Int)) (zI (u : Int)) (zI n) (zI d) = some (zI (sg (ev p v u n d))) := by
  obtain ⟨b1, b2, b3⟩ := eAB_bd V hv pv hu pu
  have m1 := mul_bd (a := eA p v u) (b := d) (A := 7938) (B := 7938) (by omega) (by omega) (by omega) (by omega)
  have m2 := mul_bd (a := n) (b := eB p v u - eA p v u) (A := 7938) (B := 7938) (by omega) (by omega) (by omega) (by omega)
  unfold fX10_signAt
  rw [M_startSide Q hv pv hu pu, M_endSide Q hv pv hu pu]
  simp only [qn_s, qb1_s]
  rw [show sv p v (pX p u) (pY p u) = eA p v u from rfl, show sv p v (pU p u) (pV p u) = eB p v u from rfl, zI_long (rI_s (by omega) (by omega)), zI_long (rI_s (by omega) (by omega)), zI_long (rI_s (by omega) (by omega)), zI_long (rI_s (by omega) (by omega)), zL_mul, zL_sub, zL_mul, zL_add]
  have e : eA p v u * d + n * (eB p v u - eA p v u) = ev p v u n d := by unfold ev; rw [Int.mul_comm n]
  rw [e] 
  have hr : rL (ev p v u n d) := by unfold rL; omega
  have c1 : lg_cmp (zL (ev p v u n d)) 0 ≤ 0 ↔ ev p v u n d ≤ 0 := by rw [cmp_le, zL0, zL_le hr rL0]
  have c2 : 0 ≤ lg_cmp (zL (ev p v u n d)) 0 ↔ 0 ≤ ev p v u n d := by rw [cmp_ge, zL0, zL_le rL0 hr]
  unfold sg
  by_cases h1 : 0 < ev p v u n d
  · rw [if_neg (fun g => by have := c1.mp g; omega), if_pos h1]; rfl
  · rw [if_pos (c1.mpr (by omega)), if_neg h1]
    by_cases h2 : ev p v u n d = 0
    · rw [if_pos (c2.mpr (by omega)), if_pos h2]; rfl
    · rw [if_neg (fun g => by have := c2.mp g; omega), if_neg h2]; rfl
/-- the reference's word for how a piece lies -/
def rm (k : Nat) : Int := if k = 0 then 0 else if k = 1 then 1 else if k = 2 then -1 else 2
theorem sg_z (x : Int) : (zI (sg x) = 0 ↔ x = 0) ∧ (zI (sg x) < 0 ↔ x < 0) ∧ (0 < zI (sg x) ↔ 0 < x) := by
  unfold sg
  by_cases h1 : 0 < x
  · rw [if_pos h1]
    exact ⟨⟨fun g => absurd g (by decide), fun g => by omega⟩, ⟨fun g => absurd g (by decide), fun g => by omega⟩, ⟨fun _ => h1, fun _ => by decide⟩⟩
  · rw [if_neg h1]
    by_cases h2 : x = 0
    · rw [if_pos h2]
      exact ⟨⟨fun _ => h2, fun _ => by decide⟩, ⟨fun g => absurd g (by decide), fun g => by omega⟩, ⟨fun g => absurd g (by decide), fun g => by omega⟩⟩
    · rw [if_neg h2]
      exact ⟨⟨fun g => absurd g (by decide), fun g => by omega⟩, ⟨fun _ => by omega, fun _ => by decide⟩, ⟨fun g => absurd g (by decide), fun g => by omega⟩⟩
theorem M_rel_if (a b : Int) : (if zI (sg a) = 0 then (if zI (sg b) = 0 then (some (0 : Int32)) else fX10_relation_b35 m (zI (sg a)) (zI (sg b))) else fX10_relation_b35 m (zI (sg a)) (zI (sg b))) = some (zI (rm (relI a b))) := by
  obtain ⟨a1, a2, a3⟩ := sg_z a
  obtain ⟨b1, b2, b3⟩ := sg_z b
  unfold fX10_relation_b35 fX10_relation_b47 relI
  simp only [a1, a2, a3, b1, b2, b3]
  repeat' split
  all_goals first | rfl | (exfalso; omega)
theorem M_relation (Q : ReM m p) (V : VP p) (hv : v < 12) (pv : pP p v = true) (W : vpc p q) : fX10_relation m (zI (v : Int)) (zI (q.1 : Int)) (zI q.2.1) (zI q.2.2.1) (zI q.2.2.2.1) (zI q.2.2.2.2) = some (zI (rm (rel p v q))) := by
  obtain ⟨c1, c2⟩ := vpc_bd W
  unfold fX10_relation
  rw [M_signAt Q V hv pv W.1.1 W.1.2 (by omega) (by have := W.2.2.1; omega), qb1_s, M_signAt Q V hv pv W.1.1 W.1.2 (by omega) (by have := W.2.2.2.1; omega), qb1_s]
  exact M_rel_if _ _
theorem M_cut (Q : ReM m p) (V : VP p) (hv : v < 12) (pv : pP p v = true) (W : vpc p q) (c : rel p v q = 3) : fX10_cut m (zI (v : Int)) (zI (q.1 : Int)) = some (pkI (pkI m 18 (zI (cN p v q.1))) 19 (zI (cD p v q.1))) := by
  obtain ⟨b1, b2, b3⟩ := eAB_bd V hv pv W.1.1 W.1.2
  obtain ⟨σ, g, C⟩ := cut_spec W c
  have g0 : 0 < cg p v q.1 := by
    obtain ⟨-, g0, -, -, -, -, -, -, ge⟩ := id C
    omega
  obtain ⟨s1, -, -, -, s2, s3, -⟩ := id C
  have gle : cg p v q.1 ≤ 7938 := by
    have : cg p v q.1 ≤ (eA p v q.1).natAbs := Nat.gcd_le_left _ (by rcases s1 with rfl | rfl <;> omega)
    omega
  have gn : ¬ zI ((cg p v q.1 : Nat) : Int) = 0 := by rw [z0, zI_eq (rI_n (by omega)) r0]; omega
  unfold fX10_cut
  rw [M_startSide Q hv pv W.1.1 W.1.2, qb1_s, M_endSide Q hv pv W.1.1 W.1.2, qb1_s, qn_s]
  rw [show sv p v (pX p q.1) (pY p q.1) = eA p v q.1 from rfl, show sv p v (pU p q.1) (pV p q.1) = eB p v q.1 from rfl, zI_sub, M_gcd (by omega) (by omega), qb1_s]
  rw [show (Nat.gcd (eA p v q.1).natAbs (eA p v q.1 - eB p v q.1).natAbs) = cg p v q.1 from rfl]
  have le0 : 0 ≤ zI (eA p v q.1 - eB p v q.1) ↔ 0 ≤ eA p v q.1 - eB p v q.1 := by rw [z0, zI_le r0 (rI_s (by omega) (by omega))]
  have key : fX10_cut_b37 m (zI (eA p v q.1 - eB p v q.1)) (zI ((cg p v q.1 : Nat) : Int)) (zI (((eA p v q.1).natAbs : Nat) : Int)) = some (pkI (pkI m 18 (zI (cN p v q.1))) 19 (zI (cD p v q.1))) := by
    unfold fX10_cut_b37 fX10_cut_b57
    rw [qnzi_s gn, nI_div (by omega) (by omega) (by omega), qn_s]
    have fin : qnzi (zI ((cg p v q.1 : Nat) : Int)) (qn (pkI (pkI m 18 (zI (((eA p v q.1).natAbs / cg p v q.1 : Nat) : Int))) 19 (zI (((eA p v q.1 - eB p v q.1).natAbs : Nat) : Int) / zI ((cg p v q.1 : Nat) : Int))) (fun p60_t => some p60_t)) = some (pkI (pkI m 18 (zI (cN p v q.1))) 19 (zI (cD p v q.1))) := by
      rw [qnzi_s gn, qn_s, nI_div (by omega) (by omega) (by omega)]
      rfl
    by_cases k : 0 ≤ eA p v q.1 - eB p v q.1
    · rw [if_pos (le0.mpr k)]
      rw [show (((eA p v q.1 - eB p v q.1).natAbs : Nat) : Int) = eA p v q.1 - eB p v q.1 by omega] at fin
      exact fin
    · rw [if_neg (fun g => k (le0.mp g)), zI_neg]
      rw [show (((eA p v q.1 - eB p v q.1).natAbs : Nat) : Int) = -(eA p v q.1 - eB p v q.1) by omega] at fin
      exact fin
  by_cases k : 0 ≤ eA p v q.1 - eB p v q.1
  · rw [if_pos (le0.mpr k)]
    rw [show (((eA p v q.1).natAbs : Nat) : Int) = eA p v q.1 by rcases s1 with rfl | rfl <;> omega] at key
    exact key
  · rw [if_neg (fun g => k (le0.mp g)), zI_neg]
    rw [show (((eA p v q.1).natAbs : Nat) : Int) = -eA p v q.1 by rcases s1 with rfl | rfl <;> omega] at key
    exact key
end S
section S
variable {m m' : Pk} {N M k : Nat}
/-- a node: its wall, its front and back subtrees' nodes (-1: a leaf), its pieces with their numbers of birth -/
abbrev Nd : Type := Nat × Int × Int × List (Nat × Pc)
def nxp (c : List (Nat × Pc)) (j : Nat) : Int32 := match c[j]? with
  | none => zI (-1)
  | some (a, _) => zI (a : Int)
def Chn (m : Pk) (M k : Nat) (c : List (Nat × Pc)) : Prop := m.1 23 k = nxp c 0 ∧ (∀ a q, c[c.length - 1]? = some (a, q) → m.1 24 k = zI (a : Int)) ∧ ∀ j a q, c[j]? = some (a, q) → a < M ∧ m.1 27 a = zI (q.1 : Int) ∧ m.1 28 a = zI (k : Int) ∧ m.1 29 (4 * a) = zI q.2.1 ∧ m.1 29 (4 * a + 1) = zI q.2.2.1 ∧ m.1 29 (4 * a + 2) = zI q.2.2.2.1 ∧ m.1 29 (4 * a + 3) = zI q.2.2.2.2 ∧ m.1 30 a = nxp c (j + 1) ∧ ∀ i q', c[i]? = some (a, q') → i = j
def PHn (m : Pk) (M k : Nat) (d : Nd) : Prop := m.1 20 k = zI (d.1 : Int) ∧ m.1 21 k = zI d.2.1 ∧ m.1 22 k = zI d.2.2.1 ∧ Chn m M k d.2.2.2
def PH (m : Pk) (N M : Nat) (nd : Nat → Nd) : Prop := m.2.1 25 = zI (N : Int) ∧ m.2.1 31 = zI (M : Int) ∧ N ≤ 160 ∧ M ≤ 160 ∧ ∀ k, k < N → PHn m M k (nd k)
/-- rows and ints of the store -/
def stS (m m' : Pk) : Prop := (∀ r, ¬ (20 ≤ r ∧ r ≤ 24) → ¬ (27 ≤ r ∧ r ≤ 30) → m'.1 r = m.1 r) ∧ (∀ k, ¬ k = 25 → ¬ k = 26 → ¬ k = 31 → m'.2.1 k = m.2.1 k) ∧ m'.2.2 = m.2.2
theorem stS.rf (m : Pk) : stS m m := ⟨fun _ _ _ => rfl, fun _ _ _ _ => rfl, rfl⟩
theorem stS.tr {a b c : Pk} (h : stS a b) (g : stS b c) : stS a c := ⟨fun r h1 h2 => (g.1 r h1 h2).trans (h.1 r h1 h2), fun k h1 h2 h3 => (g.2.1 k h1 h2 h3).trans (h.2.1 k h1 h2 h3), g.2.2.trans h.2.2⟩
/-- the store is untouched -/
theorem PH.of {nd : Nat → Nd} (H : PH m N M nd) (e : ∀ r, (20 ≤ r ∧ r ≤ 24) ∨ (27 ≤ r ∧ r ≤ 30) → m'.1 r = m.1 r) (e1 : m'.2.1 25 = m.2.1 25) (e2 : m'.2.1 31 = m.2.1 31) : PH m' N M nd := by
  obtain ⟨h1, h2, h3, h4, h5⟩ := H
  refine ⟨e1.trans h1, e2.trans h2, h3, h4, fun k hk => ?_⟩
  obtain ⟨a1, a2, a3, a4, a5, a6⟩ := h5 k hk
  refine ⟨by rw [e 20 (by decide)]; exact a1, by rw [e 21 (by decide)]; exact a2, by rw [e 22 (by decide)]; exact a3, by rw [e 23 (by decide)]; exact a4, fun a q h => by rw [e 24 (by decide)]; exact a5 a q h, fun j a q h => ?_⟩
  rw [e 27 (by decide), e 28 (by decide), e 29 (by decide), e 30 (by decide)]
  exact a6 j a q h
theorem nxp_lt {c : List (Nat × Pc)} {x : Nat × Pc} {j : Nat} (h : j < c.length) : nxp (c ++ [x]) j = nxp c j := by
  unfold nxp; rw [List.getElem?_append, if_pos h]
theorem nxp_at {c : List (Nat × Pc)} {x : Nat × Pc} : nxp (c ++ [x]) c.length = zI (x.1 : Int) := by
  unfold nxp; rw [List.getElem?_append, if_neg (by omega), Nat.sub_self]; rfl
theorem nxp_end {c : List (Nat × Pc)} {j : Nat} (h : c.length ≤ j) : nxp c j = zI (-1) := by
  unfold nxp; rw [List.getElem?_eq_none_iff.mpr h]
/-- what a new piece leaves of a chain that it doesn't join -/
theorem Chn.keep {c : List (Nat × Pc)} (h : Chn m M k c) (e23 : m'.1 23 k = m.1 23 k) (e24 : m'.1 24 k = m.1 24 k) (e : ∀ a, a < M → m.1 28 a = zI (k : Int) → m'.1 27 a = m.1 27 a ∧ m'.1 28 a = m.1 28 a ∧ m'.1 29 (4 * a) = m.1 29 (4 * a) ∧ m'.1 29 (4 * a + 1) = m.1 29 (4 * a + 1) ∧ m'.1 29 (4 * a + 2) = m.1 29 (4 * a + 2) ∧ m'.1 29 (4 * a + 3) = m.1 29 (4 * a + 3) ∧ m'.1 30 a = m.1 30 a) : Chn m' (M + 1) k c := by
  obtain ⟨h1, h2, h3⟩ := h
  refine ⟨e23.trans h1, fun a q h => e24.trans (h2 a q h), fun j a q h => ?_⟩
  obtain ⟨c1, c2, c3, c4, c5, c6, c7, c8, c9⟩ := h3 j a q h
  obtain ⟨e1, e2, e3, e4, e5, e6, e7⟩ := e a c1 c3
  exact ⟨by omega, e1.trans c2, e2.trans c3, e3.trans c4, e4.trans c5, e5.trans c6, e6.trans c7, e7.trans c8, c9⟩
def addP (nd : Nat → Nd) (k M : Nat) (q : Pc) : Nat → Nd := ug nd k ((nd k).1, (nd k).2.1, (nd k).2.2.1, (nd k).2.2.2 ++ [(M, q)])
/-- a new piece's own cells -/
def st7 (m : Pk) (M k : Nat) (q : Pc) : Pk := pkA (pkA (pkA (pkA (pkA (pkA (pkA m 27 (zI (M : Int)) (zI (q.1 : Int))) 28 (zI (M : Int)) (zI (k : Int))) 29 (zI ((4 * M : Nat) : Int)) (zI q.2.1)) 29 (zI ((4 * M + 1 : Nat) : Int)) (zI q.2.2.1)) 29 (zI ((4 * M + 2 : Nat) : Int)) (zI q.2.2.2.1)) 29 (zI ((4 * M + 3 : Nat) : Int)) (zI q.2.2.2.2)) 30 (zI (M : Int)) (-1)
theorem st7_o {q : Pc} (hM : M < 160) {r j : Nat} (h : (¬ r = 27 ∧ ¬ r = 28 ∧ ¬ r = 29 ∧ ¬ r = 30) ∨ (¬ r = 29 ∧ ¬ j = M) ∨ (r = 29 ∧ ¬ (4 * M ≤ j ∧ j < 4 * M + 4))) : (st7 m M k q).1 r j = m.1 r j := by
  unfold st7
  rw [pAt (by omega), if_neg (by omega), pAt (by omega), if_neg (by omega), pAt (by omega), if_neg (by omega), pAt (by omega), if_neg (by omega), pAt (by omega), if_neg (by omega), pAt (by omega), if_neg (by omega), pAt (by omega), if_neg (by omega)]
theorem st7_n {q : Pc} (hM : M < 160) : (st7 m M k q).1 27 M = zI (q.1 : Int) ∧ (st7 m M k q).1 28 M = zI (k : Int) ∧ (st7 m M k q).1 29 (4 * M) = zI q.2.1 ∧ (st7 m M k q).1 29 (4 * M + 1) = zI q.2.2.1 ∧ (st7 m M k q).1 29 (4 * M + 2) = zI q.2.2.2.1 ∧ (st7 m M k q).1 29 (4 * M + 3) = zI q.2.2.2.2 ∧ (st7 m M k q).1 30 M = zI (-1) := by
  unfold st7
  refine ⟨?_, ?_, ?_, ?_, ?_, ?_, ?_⟩
  · rw [pAt (by omega), if_neg (by omega), pAt (by omega), if_neg (by omega), pAt (by omega), if_neg (by omega), pAt (by omega), if_neg (by omega), pAt (by omega), if_neg (by omega), pAt (by omega), if_neg (by omega), pAt (by omega), if_pos ⟨rfl, rfl⟩]
  · rw [pAt (by omega), if_neg (by omega), pAt (by omega), if_neg (by omega), pAt (by omega), if_neg (by omega), pAt (by omega), if_neg (by omega), pAt (by omega), if_neg (by omega), pAt (by omega), if_pos ⟨rfl, rfl⟩]
  · rw [pAt (by omega), if_neg (by omega), pAt (by omega), if_neg (by omega), pAt (by omega), if_neg (by omega), pAt (by omega), if_neg (by omega), pAt (by omega), if_pos ⟨rfl, rfl⟩]
  · rw [pAt (by omega), if_neg (by omega), pAt (by omega), if_neg (by omega), pAt (by omega), if_neg (by omega), pAt (by omega), if_pos ⟨rfl, rfl⟩]
  · rw [pAt (by omega), if_neg (by omega), pAt (by omega), if_neg (by omega), pAt (by omega), if_pos ⟨rfl, rfl⟩]
  · rw [pAt (by omega), if_neg (by omega), pAt (by omega), if_pos ⟨rfl, rfl⟩]
  · rw [pAt (by omega), if_pos ⟨rfl, rfl⟩]; rfl
theorem M_addPiece {nd : Nat → Nd} (H : PH m N M nd) (hk : k < N) (hM : M < 160) (q : Pc) : ∃ m', fX10_addPiece m (zI (k : Int)) (zI (q.1 : Int)) (zI q.2.1) (zI q.2.2.1) (zI q.2.2.2.1) (zI q.2.2.2.2) = some m' ∧ PH m' N (M + 1) (addP nd k M q) ∧ stS m m' ∧ m'.2.1 26 = m.2.1 26 := by
  obtain ⟨h1, h2, h3, h4, h5⟩ := id H
  obtain ⟨a1, a2, a3, a4, a5, a6⟩ := h5 k hk
  have hb : M < 2147483648 := by omega
  have kb : k < 2147483648 := by omega
  have f4 : (4 : Int32) * zI (M : Int) = zI ((4 * M : Nat) : Int) := by rw [show (4 : Int32) = zI 4 from rfl, zI_mul]; congr 1
  have g1 : zI ((4 * M : Nat) : Int) + 1 = zI ((4 * M + 1 : Nat) : Int) := ix_s _
  have g2 : zI ((4 * M : Nat) : Int) + 2 = zI ((4 * M + 2 : Nat) : Int) := by rw [z2, zI_add]; rfl
  have g3 : zI ((4 * M : Nat) : Int) + 3 = zI ((4 * M + 3 : Nat) : Int) := by rw [show (3 : Int32) = zI 3 from rfl, zI_add]; rfl
  unfold fX10_addPiece fX10_addPiece_b124
  simp only [qn_s, pA2, h2, f4, g1, g2, g3]
  rw [qst_at hM (by decide), qst_at hM (by decide), qst_at (by omega) (by decide), qst_at (by omega) (by decide), qst_at (by omega) (by decide), qst_at (by omega) (by decide), qst_at hM (by decide), qld_at (by omega) (by decide)]
  rw [show (pkA (pkA (pkA (pkA (pkA (pkA (pkA m 27 (zI (M : Int)) (zI (q.1 : Int))) 28 (zI (M : Int)) (zI (k : Int))) 29 (zI ((4 * M : Nat) : Int)) (zI q.2.1)) 29 (zI ((4 * M + 1 : Nat) : Int)) (zI q.2.2.1)) 29 (zI ((4 * M + 2 : Nat) : Int)) (zI q.2.2.2.1)) 29 (zI ((4 * M + 3 : Nat) : Int)) (zI q.2.2.2.2)) 30 (zI (M : Int)) (-1)) = st7 m M k q from rfl]
  have s2 : (st7 m M k q).2 = m.2 := rfl
  obtain ⟨n1, n2, n3, n4, n5, n6, n7⟩ := st7_n (m := m) (k := k) (q := q) hM
  rw [st7_o hM (Or.inl (by decide)), a4]
  -- the other chains stay
  have others : ∀ m9 : Pk, (∀ r j, r = 20 ∨ r = 21 ∨ r = 22 → m9.1 r j = m.1 r j) → (∀ j, ¬ j = k → m9.1 23 j = m.1 23 j ∧ m9.1 24 j = m.1 24 j) → (∀ a, ¬ a = M → m9.1 27 a = m.1 27 a ∧ m9.1 28 a = m.1 28 a ∧ m9.1 29 (4 * a) = m.1 29 (4 * a) ∧ m9.1 29 (4 * a + 1) = m.1 29 (4 * a + 1) ∧ m9.1 29 (4 * a + 2) = m.1 29 (4 * a + 2) ∧ m9.1 29 (4 * a + 3) = m.1 29 (4 * a + 3)) → (∀ a, ¬ a = M → ¬ m.1 28 a = zI (k : Int) → m9.1 30 a = m.1 30 a) → m9.2.1 25 = m.2.1 25 → m9.2.1 31 = zI ((M + 1 : Nat) : Int) → Chn m9 (M + 1) k ((nd k).2.2.2 ++ [(M, q)]) → PH m9 N (M + 1) (addP nd k M q) := by
    intro m9 e1 e2 e3 e4 e5 e6 e7
    refine ⟨e5.trans h1, e6, h3, by omega, fun j hj => ?_⟩
    obtain ⟨x1, x2, x3, x4⟩ := h5 j hj
    unfold addP PHn
    by_cases c : j = k
    · subst c
      rw [ug_s]
      exact ⟨(e1 20 j (by decide)).trans x1, (e1 21 j (by decide)).trans x2, (e1 22 j (by decide)).trans x3, e7⟩
    · rw [ug_n _ _ c]
      refine ⟨(e1 20 j (by decide)).trans x1, (e1 21 j (by decide)).trans x2, (e1 22 j (by decide)).trans x3, x4.keep (e2 j c).1 (e2 j c).2 (fun a ha h28 => ?_)⟩
      obtain ⟨y1, y2, y3, y4, y5, y6⟩ := e3 a (by omega)
      refine ⟨y1, y2, y3, y4, y5, y6, e4 a (by omega) (fun g => c ?_)⟩
      rw [h28, zI_eq (rI_n (by omega)) (rI_n (by omega))] at g
      omega
  have mine : ∀ m9 : Pk, (∀ r j, r = 27 ∨ r = 28 ∨ r = 29 → m9.1 r j = (st7 m M k q).1 r j) → m9.1 23 k = nxp ((nd k).2.2.2 ++ [(M, q)]) 0 → m9.1 24 k = zI (M : Int) → m9.1 30 M = zI (-1) → (∀ a q', (nd k).2.2.2[(nd k).2.2.2.length - 1]? = some (a, q') → m9.1 30 a = zI (M : Int)) → (∀ j a q', j + 1 < (nd k).2.2.2.length → (nd k).2.2.2[j]? = some (a, q') → m9.1 30 a = m.1 30 a) → Chn m9 (M + 1) k ((nd k).2.2.2 ++ [(M, q)]) := by
    intro m9 e1 e2 e3 e4 e5 e6
    have len : ((nd k).2.2.2 ++ [(M, q)]).length = (nd k).2.2.2.length + 1 := by rw [List.length_append]; rfl
    refine ⟨e2, fun a r h => ?_, fun j a r h => ?_⟩
    · rw [len, Nat.add_sub_cancel, List.getElem?_append, if_neg (by omega), Nat.sub_self] at h
      have e : (M, q) = (a, r) := by injection h
      rw [e3]; cases e; rfl
    · rw [List.getElem?_append] at h
      by_cases c : j < (nd k).2.2.2.length
      · rw [if_pos c] at h
        obtain ⟨c1, c2, c3, c4, c5, c6, c7, c8, c9⟩ := a6 j a r h
        refine ⟨by omega, ?_, ?_, ?_, ?_, ?_, ?_, ?_, fun i q' hi => ?_⟩
        · rw [e1 27 _ (by decide), st7_o hM (Or.inr (Or.inl ⟨by decide, by omega⟩))]; exact c2
        · rw [e1 28 _ (by decide), st7_o hM (Or.inr (Or.inl ⟨by decide, by omega⟩))]; exact c3
        · rw [e1 29 _ (by decide), st7_o hM (Or.inr (Or.inr ⟨rfl, by omega⟩))]; exact c4
        · rw [e1 29 _ (by decide), st7_o hM (Or.inr (Or.inr ⟨rfl, by omega⟩))]; exact c5
        · rw [e1 29 _ (by decide), st7_o hM (Or.inr (Or.inr ⟨rfl, by omega⟩))]; exact c6
        · rw [e1 29 _ (by decide), st7_o hM (Or.inr (Or.inr ⟨rfl, by omega⟩))]; exact c7
        · by_cases d : j + 1 < (nd k).2.2.2.length
          · rw [e6 j a r d h, nxp_lt d]; exact c8
          · have ej : j = (nd k).2.2.2.length - 1 := by omega
            rw [ej] at h
            rw [e5 a r h, show j + 1 = (nd k).2.2.2.length by omega, nxp_at]
        · rw [List.getElem?_append] at hi
          by_cases d : i < (nd k).2.2.2.length
          · rw [if_pos d] at hi; exact c9 i q' hi
          · rw [if_neg d] at hi
            have := get_lt hi
            rw [List.length_singleton] at this
            rw [show i - (nd k).2.2.2.length = 0 by omega] at hi
            have e : (M, q) = (a, q') := by injection hi
            cases e; omega
      · rw [if_neg c] at h
        have := get_lt h
        rw [List.length_singleton] at this
        have ej : j = (nd k).2.2.2.length := by omega
        rw [ej, Nat.sub_self] at h
        have e : (M, q) = (a, r) := by injection h
        cases e
        refine ⟨by omega, ?_, ?_, ?_, ?_, ?_, ?_, ?_, fun i q' hi => ?_⟩
        · rw [e1 27 _ (by decide)]; exact n1
        · rw [e1 28 _ (by decide)]; exact n2
        · rw [e1 29 _ (by decide)]; exact n3
        · rw [e1 29 _ (by decide)]; exact n4
        · rw [e1 29 _ (by decide)]; exact n5
        · rw [e1 29 _ (by decide)]; exact n6
        · rw [e4, nxp_end (by rw [len]; omega)]
        · rw [List.getElem?_append] at hi
          by_cases d : i < (nd k).2.2.2.length
          · rw [if_pos d] at hi
            have := (a6 i M q' hi).1
            omega
          · rw [if_neg d] at hi
            have := get_lt hi
            rw [List.length_singleton] at this
            omega
  cases hc : (nd k).2.2.2 with
  | nil =>
    rw [hc] at mine
    have e23 : nxp ([] : List (Nat × Pc)) 0 = zI (-1) := rfl
    rw [e23, if_neg (by decide), qst_at (by omega) (by decide), qst_at (by omega) (by decide), ix_s]
    refine ⟨_, rfl, others _ (fun r j hr => ?_) (fun j hj => ?_) (fun a ha => ?_) (fun a ha h28 => ?_) ?_ ?_ ?_, ⟨fun r r1 r2 => ?_, fun j j1 j2 j3 => ?_, rfl⟩, ?_⟩
    · rw [pI1, pAt kb, if_neg (by omega), pAt kb, if_neg (by omega), st7_o hM (Or.inl (by omega))]
    · rw [pI1, pAt kb, if_neg (by omega), pAt kb, if_neg (by omega), st7_o hM (Or.inl (by omega)), pAt kb, if_neg (by omega), pAt kb, if_neg (by omega), st7_o hM (Or.inl (by omega))]
      exact ⟨rfl, rfl⟩
    · simp only [pI1, pAt kb]
      simp (decide := true) only [false_and, if_false]
      exact ⟨st7_o hM (Or.inr (Or.inl ⟨by decide, ha⟩)), st7_o hM (Or.inr (Or.inl ⟨by decide, ha⟩)), st7_o hM (Or.inr (Or.inr ⟨rfl, by omega⟩)), st7_o hM (Or.inr (Or.inr ⟨rfl, by omega⟩)), st7_o hM (Or.inr (Or.inr ⟨rfl, by omega⟩)), st7_o hM (Or.inr (Or.inr ⟨rfl, by omega⟩))⟩
    · rw [pI1, pAt kb, if_neg (by omega), pAt kb, if_neg (by omega), st7_o hM (Or.inr (Or.inl ⟨by decide, ha⟩))]
    · rw [pI, if_neg (by decide)]; rfl
    · rw [pI, if_pos rfl]
    · rw [hc]
      refine mine _ (fun r j hr => ?_) ?_ ?_ ?_ (fun a q' h => absurd h (by intro h; cases h)) (fun j a q' h => absurd h (by show ¬ j + 1 < 0; omega))
      · rw [pI1, pAt kb, if_neg (by omega), pAt kb, if_neg (by omega)]
      · rw [pI1, pAt kb, if_neg (by omega), pAt kb, if_pos ⟨rfl, rfl⟩]; rfl
      · rw [pI1, pAt kb, if_pos ⟨rfl, rfl⟩]
      · rw [pI1, pAt kb, if_neg (by omega), pAt kb, if_neg (by omega)]; exact n7
    · rw [pI1, pA1 kb, if_neg (by omega), pA1 kb, if_neg (by omega)]
      funext j
      exact st7_o hM (Or.inl (by omega))
    · rw [pI, if_neg j3]; rfl
    · rw [pI, if_neg (by decide)]; rfl
  | cons x c =>
    obtain ⟨x0, q0⟩ := x
    have e23 : nxp ((x0, q0) :: c) 0 = zI (x0 : Int) := rfl
    have x0M := (a6 0 x0 q0 (by rw [hc]; rfl)).1
    have p0 : 0 ≤ zI (x0 : Int) := by rw [z0, zI_le r0 (rI_n (by omega))]; omega
    obtain ⟨⟨la, lq⟩, hl⟩ : ∃ y, (nd k).2.2.2[(nd k).2.2.2.length - 1]? = some y := by
      have : (nd k).2.2.2.length - 1 < (nd k).2.2.2.length := by rw [hc, List.length_cons]; omega
      exact ⟨_, List.getElem?_eq_getElem this⟩
    have l24 := a5 la lq hl
    obtain ⟨lM, -, l28, -, -, -, -, -, l9⟩ := a6 _ la lq hl
    have lb : la < 2147483648 := by omega
    rw [e23, if_pos p0, qld_at (by omega) (by decide), st7_o hM (Or.inl (by decide)), l24, qst_at (by omega) (by decide), qst_at (by omega) (by decide), ix_s]
    refine ⟨_, rfl, others _ (fun r j hr => ?_) (fun j hj => ?_) (fun a ha => ?_) (fun a ha h28 => ?_) ?_ ?_ ?_, ⟨fun r r1 r2 => ?_, fun j j1 j2 j3 => ?_, rfl⟩, ?_⟩
    · rw [pI1, pAt kb, if_neg (by omega), pAt lb, if_neg (by omega), st7_o hM (Or.inl (by omega))]
    · rw [pI1, pAt kb, if_neg (by omega), pAt lb, if_neg (by omega), st7_o hM (Or.inl (by omega)), pAt kb, if_neg (by omega), pAt lb, if_neg (by omega), st7_o hM (Or.inl (by omega))]
      exact ⟨rfl, rfl⟩
    · simp only [pI1, pAt kb, pAt lb]
      simp (decide := true) only [false_and, if_false]
      exact ⟨st7_o hM (Or.inr (Or.inl ⟨by decide, ha⟩)), st7_o hM (Or.inr (Or.inl ⟨by decide, ha⟩)), st7_o hM (Or.inr (Or.inr ⟨rfl, by omega⟩)), st7_o hM (Or.inr (Or.inr ⟨rfl, by omega⟩)), st7_o hM (Or.inr (Or.inr ⟨rfl, by omega⟩)), st7_o hM (Or.inr (Or.inr ⟨rfl, by omega⟩))⟩
    · rw [pI1, pAt kb, if_neg (by omega), pAt lb, if_neg (fun g => h28 (by rw [g.2]; exact l28)), st7_o hM (Or.inr (Or.inl ⟨by decide, ha⟩))]
    · rw [pI, if_neg (by decide)]; rfl
    · rw [pI, if_pos rfl]
    · refine mine _ (fun r j hr => ?_) ?_ ?_ ?_ (fun a q' h => ?_) (fun j a q' hj h => ?_)
      · rw [pI1, pAt kb, if_neg (by omega), pAt lb, if_neg (by omega)]
      · rw [pI1, pAt kb, if_neg (by omega), pAt lb, if_neg (by omega), st7_o hM (Or.inl (by decide)), a4, nxp_lt (by rw [hc, List.length_cons]; omega)]
      · rw [pI1, pAt kb, if_pos ⟨rfl, rfl⟩]
      · rw [pI1, pAt kb, if_neg (by omega), pAt lb, if_neg (by omega)]; exact n7
      · rw [hl] at h
        cases h
        rw [pI1, pAt kb, if_neg (by omega), pAt lb, if_pos ⟨rfl, rfl⟩]
      · have ha := (a6 j a q' h).1
        have : ¬ a = la := by
          intro e
          subst e
          have := l9 j q' h
          omega
        rw [pI1, pAt kb, if_neg (by omega), pAt lb, if_neg (by omega), st7_o hM (Or.inr (Or.inl ⟨by decide, by omega⟩))]
    · rw [pI1, pA1 kb, if_neg (by omega), pA1 lb, if_neg (by omega)]
      funext j
      exact st7_o hM (Or.inl (by omega))
    · rw [pI, if_neg j3]; rfl
    · rw [pI, if_neg (by decide)]; rfl
end S
