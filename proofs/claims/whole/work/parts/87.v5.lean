/-! DRAWING: the order from back to front, on both sides -/
section S
variable {T : Tr} {p pb : Pln} {m m' w t P D : Pk} {nd : Nat → Nd} {pth : Nat → List Bool} {i : Nat} {π : List Bool} {x y : Int}
/-- the drawn ones of a stretch of pieces, with their numbers -/
def dfl (p : Pln) (x y : Int) (l : List (Nat × Pc)) : List (Nat × Pc) := l.filter (fun e => drw p e.2.1 x y)
/-- the order -/
def dl (T : Tr) (x y : Int) : List Bool → List (Nat × Pc) := FO T (fun _ => []) (fun π a b => if zI (sv T.1 (sw T π) x y) < 0 then a ++ (dfl T.1 x y (idl (pnum T π) (onl T π)) ++ b) else b ++ (dfl T.1 x y (idl (pnum T π) (onl T π)) ++ a))
theorem dl_leaf (h : Ls T π = []) : dl T x y π = [] := FO_leaf h
theorem dl_node (G : GT T) (h : Ls T π ≠ []) : dl T x y π = if zI (sv T.1 (sw T π) x y) < 0 then dl T x y (true :: π) ++ (dfl T.1 x y (idl (pnum T π) (onl T π)) ++ dl T x y (false :: π)) else dl T x y (false :: π) ++ (dfl T.1 x y (idl (pnum T π) (onl T π)) ++ dl T x y (true :: π)) := FO_node G h
theorem idl_len : ∀ (l : List Pc) (M : Nat), (idl M l).length = l.length
  | [], _ => rfl
  | q :: l, M => by show (idl (M + 1) l).length + 1 = _; rw [idl_len l]; rfl
theorem dfl_len (l : List (Nat × Pc)) : (dfl p x y l).length ≤ l.length := List.length_filter_le _ _
theorem dl_len (G : GT T) (π : List Bool) : (dl T x y π).length ≤ nP T π := by
  refine tr_ind (P := fun π => (dl T x y π).length ≤ nP T π) G ?_ ?_ π
  · intro π h; rw [dl_leaf h]; exact Nat.zero_le _
  · intro π h i1 i2
    have a := dfl_len (p := T.1) (x := x) (y := y) (idl (pnum T π) (onl T π))
    rw [idl_len] at a
    rw [dl_node G h, nP_node G h]
    split <;> (rw [List.length_append, List.length_append]; omega)
/-- the class's order, so far -/
def DO (D : Pk) (l : List (Nat × Pc)) (x y : Int) : Prop := l.length ≤ 144 ∧ D.2.1 3 = zI (l.length : Int) ∧ D.2.1 4 = zI x ∧ D.2.1 5 = zI y ∧ ∀ (i n : Nat) (q : Pc), l[i]? = some (n, q) → D.1 2 i = zI (n : Int)
theorem C_addP_loop (RW : ReW w p) (V : VP p) (C : CTree (tT p) t P) (hx : 0 ≤ x ∧ x ≤ 63) (hy : 0 ≤ y ∧ y ≤ 63) : ∀ (r : List Pc) (n g : Nat) (l : List (Nat × Pc)) (D : Pk), r.length < g → Seg (pcl (tT p) []) n r → DO D l x y → l.length + r.length ≤ 144 → n + r.length < 2147483648 → (∀ q, q ∈ r → vpc p q) → ∃ D', fX0_addPiecesOf_b23 w t P g D (zI ((n + r.length : Nat) : Int)) (zI (n : Int)) = some D' ∧ DO D' (l ++ dfl p x y (idl n r)) x y := by
  intro r
  induction r with
  | nil =>
    intro n g l D hg S O hl hb Q
    obtain ⟨g, rfl⟩ : ∃ k, g = k + 1 := ⟨g - 1, by omega⟩
    show ∃ D', fX0_addPiecesOf_b23_s (fX0_addPiecesOf_b23 w t P g) w t P D _ _ = some D' ∧ _
    unfold fX0_addPiecesOf_b23_s
    rw [if_pos (ix_c (by rw [List.length_nil]; omega) (by omega))]
    refine ⟨D, rfl, ?_⟩
    show DO D (l ++ []) x y
    rw [List.append_nil]; exact O
  | cons q r ih =>
    intro n g l D hg S O hl hb Q
    obtain ⟨g, rfl⟩ : ∃ k, g = k + 1 := ⟨g - 1, by omega⟩
    rw [List.length_cons] at hg hl hb ⊢
    obtain ⟨o1, o2, o3, o4, o5⟩ := id O
    have Qq := Q q List.mem_cons_self
    have Qr : ∀ x, x ∈ r → vpc p x := fun x hx => Q x (List.mem_cons_of_mem _ hx)
    have lb : l.length < 2147483648 := by omega
    have n144 : ¬ (144 : Int32) ≤ zI (l.length : Int) := ix_a (n := 144) (by omega) (by decide)
    show ∃ D', fX0_addPiecesOf_b23_s (fX0_addPiecesOf_b23 w t P g) w t P D _ _ = some D' ∧ _
    unfold fX0_addPiecesOf_b23_s fX0_addPiecesOf_b87 fX6_wallOfPiece
    rw [if_neg (ix_a (by omega) hb), o2, if_neg n144, PL_wallOf C.2.2.2 S.hd, qb1_s, qb1_s, o3, o4, W_isDrawnFor RW V Qq.1.1 hx hy, qb1_s]
    simp only [qn_s, ix_s]
    rw [show n + (r.length + 1) = n + 1 + r.length by omega]
    have ei : idl n (q :: r) = (n, q) :: idl (n + 1) r := rfl
    cases hd : drw p q.1 x y with
    | false =>
      have ef : dfl p x y (idl n (q :: r)) = dfl p x y (idl (n + 1) r) := by
        rw [ei]; unfold dfl; rw [List.filter_cons, if_neg (by show ¬ drw p q.1 x y = true; rw [hd]; decide)]
      rw [ifF, ef]
      exact ih (n + 1) g l D (by omega) S.tl O (by omega) (by omega) Qr
    | true =>
      have ef : dfl p x y (idl n (q :: r)) = (n, q) :: dfl p x y (idl (n + 1) r) := by
        rw [ei]; unfold dfl; rw [List.filter_cons, if_pos (show drw p q.1 x y = true from hd)]
      rw [ifT, ef, qst_at (by omega) (by decide), pA2, o2, ix_s, show l ++ (n, q) :: dfl p x y (idl (n + 1) r) = (l ++ [(n, q)]) ++ dfl p x y (idl (n + 1) r) by rw [List.append_assoc]; rfl]
      refine ih (n + 1) g (l ++ [(n, q)]) _ (by omega) S.tl ⟨by rw [List.length_append, List.length_singleton]; omega, ?_, ?_, ?_, fun i n' q' hi => ?_⟩ (by rw [List.length_append, List.length_singleton]; omega) (by omega) Qr
      · rw [pI, if_pos rfl, List.length_append, List.length_singleton]
      · rw [pI, if_neg (by decide)]; exact o3
      · rw [pI, if_neg (by decide)]; exact o4
      · rw [pI1, pAt lb]
        rw [List.getElem?_append] at hi
        by_cases c : i < l.length
        · rw [if_pos c] at hi
          rw [if_neg (by omega)]
          exact o5 i n' q' hi
        · rw [if_neg c] at hi
          have := get_lt hi
          rw [List.length_singleton] at this
          rw [show i - l.length = 0 by omega] at hi
          cases hi
          rw [if_pos ⟨rfl, by omega⟩]
theorem pcl_seg (G : GT T) (h : Ls T π ≠ []) : Seg (pcl T []) (pnum T π) (onl T π) := fun j q hj => by
  have := pcl_at G [] π j q (by rw [List.append_nil]; exact h) (by rw [List.append_nil]; exact hj)
  rw [List.append_nil] at this
  have z0 : pnum T [] = 0 := rfl
  rw [z0, Nat.sub_zero] at this
  exact this
theorem C_arr (RW : ReW w p) (V : VP p) (C : CTree (tT p) t P) (hx : 0 ≤ x ∧ x ≤ 63) (hy : 0 ≤ y ∧ y ≤ 63) (π : List Bool) : lnum (tT p) π ≤ 145 → π.length ≤ 12 → ∀ (n : Nat) (l : List (Nat × Pc)) (D : Pk), 12 < n + π.length → DO D l x y → l.length + nP (tT p) π ≤ 144 → ∃ D', fX0_arrangeSubtree n w t P D (zI (cc (tT p) π)) (zI (π.length : Int)) = some D' ∧ DO D' (l ++ dl (tT p) x y π) x y := by
  have n144 := nN_160 V
  have G := tG V
  refine tr_ind (P := fun π => lnum (tT p) π ≤ 145 → π.length ≤ 12 → ∀ (n : Nat) (l : List (Nat × Pc)) (D : Pk), 12 < n + π.length → DO D l x y → l.length + nP (tT p) π ≤ 144 → ∃ D', fX0_arrangeSubtree n w t P D (zI (cc (tT p) π)) (zI (π.length : Int)) = some D' ∧ DO D' (l ++ dl (tT p) x y π) x y) G ?_ ?_ π
  · intro π h hl h12 n l D hn O hL
    obtain ⟨n, rfl⟩ : ∃ k, n = k + 1 := ⟨n - 1, by omega⟩
    show ∃ D', fX0_arrangeSubtree_s (fX0_arrangeSubtree n) w t P D _ _ = some D' ∧ _
    unfold fX0_arrangeSubtree_s
    rw [has_out C (Or.inl (cc_neg h (by omega))), qb1_s, if_pos rfl, dl_leaf h, List.append_nil]
    exact ⟨D, rfl, O⟩
  · intro π h i1 i2 hl h12 n l D hn O hL
    obtain ⟨n, rfl⟩ : ∃ k, n = k + 1 := ⟨n - 1, by omega⟩
    have dp := Ls_depth G h
    have nl := num_lt G h
    have nLN := nL_nN G []
    have lk1 := lnum_le G h
    have eP := nP_node G h
    obtain ⟨k1, k2⟩ := kid_z V C h
    obtain ⟨o1, o2, o3, o4, o5⟩ := id O
    obtain ⟨-, -, -, -, c5, c6, -⟩ := C.2.2.1 π h
    have pb := num_bd G (π := []) π (by rw [List.append_nil]; exact h)
    rw [List.append_nil] at pb
    have z0' : pnum (tT p) [] = 0 := rfl
    show ∃ D', fX0_arrangeSubtree_s (fX0_arrangeSubtree n) w t P D _ _ = some D' ∧ _
    unfold fX0_arrangeSubtree_s fX0_arrangeNode
    have l12 : zI (π.length : Int) < (12 : Int32) := ix_b (n := 12) dp (by decide)
    rw [cc_node h, has_in V C nl, qb1_s, if_neg (by decide), if_pos l12, o3, o4, side_z RW V C h, qb1_s, k1, k2]
    have pieces : ∀ (l : List (Nat × Pc)) (D : Pk), DO D l x y → l.length + (onl (tT p) π).length ≤ 144 → ∃ D', fX0_addPiecesOf w t P D (zI (num (tT p) π : Int)) = some D' ∧ DO D' (l ++ dfl p x y (idl (pnum (tT p) π) (onl (tT p) π))) x y := by
      intro l D O hL
      unfold fX0_addPiecesOf fX6_firstPieceOf fX6_pieceTotalOf
      rw [has_in V C nl, qb1_s, qb1_s, if_neg (by decide), if_neg (by decide), qld_at (by omega) (by decide), qld_at (by omega) (by decide), c5, c6, qb1_s, qb1_s, qn_s, ix_c1]
      exact C_addP_loop RW V C hx hy (onl (tT p) π) (pnum (tT p) π) FU l D (Nat.lt_of_le_of_lt (Nat.le_trans onl_le (Ls_le G π)) (by decide)) (pcl_seg G h) O hL (by omega) (fun q hq => Ls_vp G π q (onl_mem hq))
    have sub : ∀ (s : Bool) (l : List (Nat × Pc)) (D : Pk), DO D l x y → l.length + nP (tT p) (s :: π) ≤ 144 → ∃ D', fX0_arrangeSubtree n w t P D (zI (cc (tT p) (s :: π))) (zI (π.length : Int) + 1) = some D' ∧ DO D' (l ++ dl (tT p) x y (s :: π)) x y := by
      intro s l D O hL
      rw [ix_s]
      cases s with
      | true => exact i1 (by have := lk1 true; omega) (by rw [List.length_cons]; omega) n l D (by rw [List.length_cons]; omega) O hL
      | false => exact i2 (by have := lk1 false; omega) (by rw [List.length_cons]; omega) n l D (by rw [List.length_cons]; omega) O hL
    have fl := dfl_len (p := p) (x := x) (y := y) (idl (pnum (tT p) π) (onl (tT p) π))
    rw [idl_len] at fl
    have dt := dl_len (x := x) (y := y) G (true :: π)
    have df := dl_len (x := x) (y := y) G (false :: π)
    rw [dl_node G h]
    by_cases e : zI (sv p (sw (tT p) π) x y) < 0
    · obtain ⟨D1, a1, a2⟩ := sub true l D O (by omega)
      obtain ⟨D2, b1, b2'⟩ := pieces _ D1 a2 (by rw [List.length_append]; omega)
      obtain ⟨D3, d1, d2⟩ := sub false _ D2 b2' (by rw [List.length_append, List.length_append]; omega)
      rw [if_pos (show zI (sv (tT p).1 (sw (tT p) π) x y) < 0 from e), if_pos e, if_pos rfl, qb1_s, qb1_s, a1, qb1_s, b1, qb1_s, d1, qb1_s, qb1_s]
      refine ⟨D3, rfl, ?_⟩
      rw [List.append_assoc, List.append_assoc] at d2
      exact d2
    · obtain ⟨D1, a1, a2⟩ := sub false l D O (by omega)
      obtain ⟨D2, b1, b2'⟩ := pieces _ D1 a2 (by rw [List.length_append]; omega)
      obtain ⟨D3, d1, d2⟩ := sub true _ D2 b2' (by rw [List.length_append, List.length_append]; omega)
      rw [if_neg (show ¬ zI (sv (tT p).1 (sw (tT p) π) x y) < 0 from e), if_neg e, if_neg (by decide), qb1_s, qb1_s, a1, qb1_s, b1, qb1_s, d1, qb1_s, qb1_s]
      refine ⟨D3, rfl, ?_⟩
      rw [List.append_assoc, List.append_assoc] at d2
      exact d2
theorem C_arrange (RW : ReW w p) (V : VP p) (C : CTree (tT p) t P) (hx : 0 ≤ x ∧ x ≤ 63) (hy : 0 ≤ y ∧ y ≤ 63) (D : Pk) : ∃ D', fX0_arrange w t P D (zI x) (zI y) = some D' ∧ DO D' (dl (tT p) x y []) x y := by
  have n144 := nN_160 V
  unfold fX0_arrange fX6_rootSubtree
  simp only [qn_s, qb1_s]
  obtain ⟨D', a1, a2⟩ := C_arr RW V C hx hy [] (show 0 ≤ 145 by decide) (by decide) 16 [] (pkI (pkI (pkI D 4 (zI x)) 5 (zI y)) 3 0) (by decide) ⟨by show 0 ≤ 144; decide, rfl, rfl, rfl, fun i n q h => by rw [List.getElem?_nil] at h; cases h⟩ (by show 0 + _ ≤ _; omega)
  rw [C.1, show fX0_arrangeSubtree 16 w t P (pkI (pkI (pkI D 4 (zI x)) 5 (zI y)) 3 0) (zI (cc (tT p) [])) 0 = some D' from a1]
  exact ⟨D', rfl, a2⟩
end S
