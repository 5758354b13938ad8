/-! DRAWING: the reference's order -/
section S
variable {T : Tr} {p pb : Pln} {m m' w t P D : Pk} {nd : Nat → Nd} {pth : Nat → List Bool} {i k J : Nat} {π : List Bool} {x y : Int}
/-- a piece of the reference, with its number -/
def PcA (p : Pln) (m : Pk) (c n : Nat) (q : Pc) : Prop := c < 160 ∧ vpc p q ∧ m.1 42 c = zI (n : Int) ∧ m.1 27 c = zI (q.1 : Int) ∧ m.1 29 (4 * c) = zI q.2.1 ∧ m.1 29 (4 * c + 1) = zI q.2.2.1 ∧ m.1 29 (4 * c + 2) = zI q.2.2.2.1 ∧ m.1 29 (4 * c + 3) = zI q.2.2.2.2
def OR (p : Pln) (m : Pk) (l : List (Nat × Pc)) : Prop := m.2.1 50 = zI (l.length : Int) ∧ ∀ (i n : Nat) (q : Pc), l[i]? = some (n, q) → ∃ c : Nat, m.1 49 i = zI (c : Int) ∧ PcA p m c n q
def drF (m m' : Pk) : Prop := (∀ r, ¬ r = 43 → ¬ r = 49 → m'.1 r = m.1 r) ∧ (∀ k, ¬ k = 50 → m'.2.1 k = m.2.1 k) ∧ m'.2.2 = m.2.2
theorem drF.rf (m : Pk) : drF m m := ⟨fun _ _ _ => rfl, fun _ _ => rfl, rfl⟩
theorem drF.tr {a b c : Pk} (h : drF a b) (g : drF b c) : drF a c := ⟨fun r h1 h2 => (g.1 r h1 h2).trans (h.1 r h1 h2), fun k h1 => (g.2.1 k h1).trans (h.2.1 k h1), g.2.2.trans h.2.2⟩
theorem PcA.dr {c n : Nat} {q : Pc} (h : PcA p m c n q) (g : drF m m') : PcA p m' c n q := by
  obtain ⟨h1, h2, h3, h4, h5, h6, h7, h8⟩ := h
  exact ⟨h1, h2, by rw [g.1 42 (by decide) (by decide)]; exact h3, by rw [g.1 27 (by decide) (by decide)]; exact h4, by rw [g.1 29 (by decide) (by decide)]; exact h5, by rw [g.1 29 (by decide) (by decide)]; exact h6, by rw [g.1 29 (by decide) (by decide)]; exact h7, by rw [g.1 29 (by decide) (by decide)]; exact h8⟩
theorem MT.dr (h : MT T m nd pth) (g : drF m m') : MT T m' nd pth := by
  obtain ⟨H, ⟨rt0, hT, h26⟩, hN, h46, h47, h48, h45⟩ := h
  refine ⟨H.of (fun r hr => g.1 r (by omega) (by omega)) (g.2.1 25 (by decide)) (g.2.1 31 (by decide)), ⟨rt0, hT, by rw [g.2.1 26 (by decide)]; exact h26⟩, fun k hk => ?_, by rw [g.2.1 46 (by decide)]; exact h46, by rw [g.2.1 47 (by decide)]; exact h47, by rw [g.2.1 48 (by decide)]; exact h48, fun e => by rw [g.2.1 45 (by decide)]; exact h45 e⟩
  obtain ⟨n1, n2, n3, n4, n5⟩ := hN k hk
  refine ⟨by rw [g.1 38 (by decide) (by decide)]; exact n1, by rw [g.1 39 (by decide) (by decide)]; exact n2, by rw [g.1 40 (by decide) (by decide)]; exact n3, fun j c q hj => ?_, fun s hs => by rw [g.1 44 (by decide) (by decide)]; exact n5 s hs⟩
  rw [g.1 41 (by decide) (by decide), g.1 42 (by decide) (by decide)]
  exact n4 j c q hj
theorem ReM.dr (Q : ReM m p) (g : drF m m') : ReM m' p := ⟨by rw [g.1 0 (by decide) (by decide)]; exact Q.1, by rw [g.2.1 1 (by decide)]; exact Q.2.1, by rw [g.2.1 2 (by decide)]; exact Q.2.2⟩
theorem M_draw_chain (V : VP p) (hx : 0 ≤ x ∧ x ≤ 63) (hy : 0 ≤ y ∧ y ≤ 63) {c : List (Nat × Pc)} {P0 : Nat} (hc : ∀ (j a : Nat) (q : Pc), c[j]? = some (a, q) → a < 160 ∧ vpc p q) : ∀ (c1 c0 : List (Nat × Pc)) (g : Nat) (m : Pk) (l : List (Nat × Pc)), c = c0 ++ c1 → c1.length < g → ReM m p → (∀ (j a : Nat) (q : Pc), c[j]? = some (a, q) → PcA p m a (P0 + j) q ∧ m.1 30 a = nxp c (j + 1)) → OR p m l → l.length + c1.length ≤ 144 → ∃ m', (∀ rec : Pk → Int32 → Int32 → Int32 → Option Pk, fX10_draw_b66 rec g m (zI x) (zI y) (zI (J : Int)) (nxp c c0.length) = rec m' (zI x) (zI y) (zI (J : Int))) ∧ OR p m' (l ++ dfl p x y (idl (P0 + c0.length) (c1.map (fun a => a.2)))) ∧ drF m m' ∧ m'.1 43 = m.1 43 := by
  intro c1
  induction c1 with
  | nil =>
    intro c0 g m l e hg Q A O hl
    obtain ⟨g, rfl⟩ : ∃ k, g = k + 1 := ⟨g - 1, by omega⟩
    rw [List.append_nil] at e
    refine ⟨m, fun rec => ?_, by rw [show idl (P0 + c0.length) (List.map (fun a : Nat × Pc => a.2) []) = [] from rfl, show dfl p x y [] = [] from rfl, List.append_nil]; exact O, drF.rf m, rfl⟩
    rw [nxp_end (by rw [e]; exact Nat.le_refl _)]
    show fX10_draw_b66_s rec (fX10_draw_b66 rec g) m _ _ _ _ = _
    unfold fX10_draw_b66_s fX10_draw_b230
    rw [if_pos (by decide)]
  | cons aq c1 ih =>
    intro c0 g m l e hg Q A O hl
    obtain ⟨a, q⟩ := aq
    obtain ⟨g, rfl⟩ : ∃ k, g = k + 1 := ⟨g - 1, by omega⟩
    rw [List.length_cons] at hg hl
    have hat : c[c0.length]? = some (a, q) := by rw [e, List.getElem?_append, if_neg (by omega), Nat.sub_self]; rfl
    obtain ⟨⟨A1, A2, A3, A4, A5⟩, A6⟩ := A c0.length a q hat
    obtain ⟨o1, o2⟩ := O
    have e' : c = (c0 ++ [(a, q)]) ++ c1 := by rw [e, List.append_assoc]; rfl
    have len' : (c0 ++ [(a, q)]).length = c0.length + 1 := by rw [List.length_append]; rfl
    have en : nxp c c0.length = zI (a : Int) := by unfold nxp; rw [hat]
    have ei : idl (P0 + c0.length) (List.map (fun a : Nat × Pc => a.2) ((a, q) :: c1)) = (P0 + c0.length, q) :: idl (P0 + (c0 ++ [(a, q)]).length) (List.map (fun a : Nat × Pc => a.2) c1) := by rw [len']; rfl
    have lb : l.length < 2147483648 := by omega
    have dr := M_isDrawn (i := q.1) Q V A2.1.1 A2.1.2 hx hy
    rw [en, ei]
    cases hd : drw p q.1 x y with
    | false =>
      have ef : ∀ z, dfl p x y ((P0 + c0.length, q) :: z) = dfl p x y z := fun z => by
        unfold dfl; rw [List.filter_cons, if_neg (by show ¬ drw p q.1 x y = true; rw [hd]; decide)]
      rw [hd] at dr
      obtain ⟨m', b1, b2', b3, b4⟩ := ih (c0 ++ [(a, q)]) g m l e' (by omega) Q A ⟨o1, o2⟩ (by omega)
      rw [len'] at b1
      refine ⟨m', fun rec => ?_, by rw [ef]; exact b2', b3, b4⟩
      show fX10_draw_b66_s rec (fX10_draw_b66 rec g) m _ _ _ _ = _
      unfold fX10_draw_b66_s fX10_draw_b108
      rw [if_neg (ix_nn (by omega)), qld_at (by omega) (by decide), A4, dr, qb1_s, ifF, qld_at (by omega) (by decide), A6]
      exact b1 rec
    | true =>
      have ef : ∀ z, dfl p x y ((P0 + c0.length, q) :: z) = (P0 + c0.length, q) :: dfl p x y z := fun z => by
        unfold dfl; rw [List.filter_cons, if_pos (show drw p q.1 x y = true from hd)]
      rw [hd] at dr
      have F1 : drF m (pkI (pkA m 49 (zI (l.length : Int)) (zI (a : Int))) 50 (zI ((l.length + 1 : Nat) : Int))) := ⟨fun r h1 h2 => by rw [pI1, pA1 lb, if_neg h2], fun k hk => by rw [pI, if_neg hk, pA2], rfl⟩
      obtain ⟨m', b1, b2', b3, b4⟩ := ih (c0 ++ [(a, q)]) g (pkI (pkA m 49 (zI (l.length : Int)) (zI (a : Int))) 50 (zI ((l.length + 1 : Nat) : Int))) (l ++ [(P0 + c0.length, q)]) e' (by omega) (Q.dr F1) (fun j a' q' hj => ⟨(A j a' q' hj).1.dr F1, by rw [F1.1 30 (by decide) (by decide)]; exact (A j a' q' hj).2⟩) (by
        refine ⟨by rw [pI, if_pos rfl, List.length_append, List.length_singleton], fun i n q' hi => ?_⟩
        rw [List.getElem?_append] at hi
        by_cases d : i < l.length
        · rw [if_pos d] at hi
          obtain ⟨c', u1, u2⟩ := o2 i n q' hi
          exact ⟨c', by rw [pI1, pAt lb, if_neg (by omega)]; exact u1, u2.dr F1⟩
        · rw [if_neg d] at hi
          have := get_lt hi
          rw [List.length_singleton] at this
          rw [show i - l.length = 0 by omega] at hi
          cases hi
          exact ⟨a, by rw [pI1, pAt lb, if_pos ⟨rfl, by omega⟩], PcA.dr ⟨A1, A2, A3, A4, A5⟩ F1⟩) (by rw [List.length_append, List.length_singleton]; omega)
      rw [len'] at b1
      refine ⟨m', fun rec => ?_, by rw [ef, show l ++ (P0 + c0.length, q) :: dfl p x y (idl (P0 + (c0 ++ [(a, q)]).length) (List.map (fun a : Nat × Pc => a.2) c1)) = (l ++ [(P0 + c0.length, q)]) ++ dfl p x y (idl (P0 + (c0 ++ [(a, q)]).length) (List.map (fun a : Nat × Pc => a.2) c1)) by rw [List.append_assoc]; rfl]; exact b2', F1.tr b3, ?_⟩
      · show fX10_draw_b66_s rec (fX10_draw_b66 rec g) m _ _ _ _ = _
        unfold fX10_draw_b66_s fX10_draw_b108
        simp only [qn_s, pA2]
        rw [if_neg (ix_nn (by omega)), qld_at (by omega) (by decide), A4, dr, qb1_s, ifT, o1, qst_at (by omega) (by decide), ix_s, qld_at (by omega) (by decide), F1.1 30 (by decide) (by decide), A6]
        exact b1 rec
      · rw [b4, pI1, pA1 lb, if_neg (by decide)]
theorem sh_z : ∀ k : Nat, k < 160 → (zI ((2 * k : Nat) : Int) >>> (1 &&& 31 : Int32) = zI (k : Int) ∧ zI ((2 * k + 1 : Nat) : Int) >>> (1 &&& 31 : Int32) = zI (k : Int)) ∧ (¬ zI ((2 * k : Nat) : Int) &&& 1 = 1 ∧ zI ((2 * k + 1 : Nat) : Int) &&& 1 = 1) := by decide +kernel
theorem M_draw_leaf {g : Nat} (h : m.1 43 J = zI (-2)) (hJ : J < 400) : fX10_draw_b23 (g + 1) m (zI x) (zI y) (zI ((J + 1 : Nat) : Int)) = fX10_draw_b23 g m (zI x) (zI y) (zI (J : Int)) := by
  show fX10_draw_b23_s (fX10_draw_b23 g) m _ _ _ = _
  unfold fX10_draw_b23_s fX10_draw_b123 fX10_draw_b230
  have n0 : ¬ zI ((J + 1 : Nat) : Int) ≤ 0 := by rw [z0, zI_le (rI_n (by omega)) r0]; omega
  have eJ : zI ((J + 1 : Nat) : Int) + (-1) = zI (J : Int) := by rw [zm1, zI_add]; congr 1; omega
  rw [if_neg n0]
  simp only [qn_s, eJ]
  rw [qld_at hJ (by decide), h, if_pos (by decide), if_pos (by decide)]
end S
