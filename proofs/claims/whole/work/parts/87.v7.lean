/-! DRAWING: the reference's order, subtree by subtree; drawCount, drawPiece -/
section S
variable {T : Tr} {p pb : Pln} {m m' w t b TT L P D : Pk} {nd : Nat → Nd} {pth : Nat → List Bool} {i k J : Nat} {π : List Bool} {x y : Int}
def DrH (p : Pln) (nd : Nat → Nd) (pth : Nat → List Bool) (x y : Int) (π : List Bool) : Prop := ∀ (m : Pk) (J : Nat) (c : Int) (l : List (Nat × Pc)), cdx (Xo (tT p)) pth (nN (tT p) []) π c → MT (tT p) m nd pth → ReM m p → J ≤ 2 * π.length → π.length ≤ 12 → m.1 43 J = zI (2 * c) → OR p m l → l.length + nP (tT p) π ≤ 144 → ∃ (cst : Nat) (m' : Pk), cst ≤ 2 * nN (tT p) π + nL (tT p) π ∧ (∀ g, fX10_draw_b23 (g + cst) m (zI x) (zI y) (zI ((J + 1 : Nat) : Int)) = fX10_draw_b23 g m' (zI x) (zI y) (zI (J : Int))) ∧ OR p m' (l ++ dl (tT p) x y π) ∧ drF m m' ∧ ∀ i, i < J → m'.1 43 i = m.1 43 i
theorem Dr_sub (V : VP p) (hx : 0 ≤ x ∧ x ≤ 63) (hy : 0 ≤ y ∧ y ≤ 63) (π : List Bool) : DrH p nd pth x y π := by
  have G := tG V
  have n144 := nN_160 V
  refine tr_ind (P := fun π => DrH p nd pth x y π) G ?_ ?_ π
  · intro π h m J c l hc D Q hJ h12 e0 O hl
    obtain ⟨H, ⟨rt0, hT, h26⟩, hN, -⟩ := id D
    have c1 := (hT.code hc).1 (Xo_leaf h)
    refine ⟨1, m, by rw [nL_leaf h]; omega, fun g => M_draw_leaf (by rw [e0, c1]; rfl) (by omega), by rw [dl_leaf h, List.append_nil]; exact O, drF.rf m, fun _ _ => rfl⟩
  · intro π h i1 i2 m J c l hc D Q hJ h12 e0 O hl
    have dp := Ls_depth G h
    have ok := sw_ok G h
    have nl := num_lt G h
    have eN := nN_node G h
    have eL := nL_node G h
    have eP := nP_node G h
    obtain ⟨H, ⟨rt0, hT, h26⟩, hN, -⟩ := id D
    obtain ⟨k, hk, pk, ck⟩ := (hT.code hc).2 (by rw [Xo_node h]; intro e; cases e)
    obtain ⟨x1, x2, x3⟩ := hT.2.1 k hk
    obtain ⟨y1, y2, y3, y4⟩ := H.2.2.2.2 k hk
    rw [pk, Xo_node h] at x1
    rw [pk] at x2 x3
    have w1 : (nd k).1 = sw (tT p) π := by injection x1 with x1; injection x1 with u v; exact u.symm
    have o1 : (nd k).2.2.2.map (fun a => a.2) = onl (tT p) π := by injection x1 with x1; injection x1 with u v; exact v.symm
    have ol : (nd k).2.2.2.length = (onl (tT p) π).length := by rw [← o1, List.length_map]
    rw [w1] at y1
    obtain ⟨⟨s1, s2⟩, s3, s4⟩ := sh_z k (by omega)
    have n0 : ∀ J : Nat, J < 1000 → ¬ zI ((J + 1 : Nat) : Int) ≤ 0 := fun J hJ => by rw [z0, zI_le (rI_n (by omega)) r0]; omega
    have eJ : ∀ J : Nat, zI ((J + 1 : Nat) : Int) + (-1) = zI (J : Int) := fun J => by rw [zm1, zI_add]; congr 1; omega
    have e2k : (2 : Int) * c = ((2 * k : Nat) : Int) := by rw [ck]; omega
    -- the node's own pieces
    have mine : ∀ (m1 : Pk) (J : Nat) (l : List (Nat × Pc)), J < 390 → MT (tT p) m1 nd pth → ReM m1 p → m1.1 43 J = zI ((2 * k + 1 : Nat) : Int) → OR p m1 l → l.length + (onl (tT p) π).length ≤ 144 → ∃ m2, (∀ g, fX10_draw_b23 (g + 1) m1 (zI x) (zI y) (zI ((J + 1 : Nat) : Int)) = fX10_draw_b23 g m2 (zI x) (zI y) (zI (J : Int))) ∧ OR p m2 (l ++ dfl p x y (idl (pnum (tT p) π) (onl (tT p) π))) ∧ drF m1 m2 ∧ m2.1 43 = m1.1 43 := by
      intro m1 J l hJ D1 Q1 e1 O1 hl1
      obtain ⟨H1, -, hN1, -⟩ := id D1
      obtain ⟨-, -, -, a23, -, a30⟩ := H1.2.2.2.2 k hk
      have nk := hN1 k hk
      have vq : ∀ (j a : Nat) (q : Pc), (nd k).2.2.2[j]? = some (a, q) → vpc p q := fun j a q hj => by
        refine Ls_vp G π q (onl_mem (List.mem_of_getElem? (i := j) ?_))
        rw [← o1, List.getElem?_map, hj]; rfl
      have c160 := H1.2.2.2.1
      obtain ⟨m2, b1, b2', b3, b4⟩ := M_draw_chain (J := J) V hx hy (c := (nd k).2.2.2) (P0 := pnum (tT p) π) (fun j a q hj => ⟨by have := (a30 j a q hj).1; omega, vq j a q hj⟩) (nd k).2.2.2 [] FU m1 l rfl (by rw [ol]; exact Nat.lt_of_le_of_lt (Nat.le_trans onl_le (Ls_le G π)) (by decide)) Q1 (fun j a q hj => by
        obtain ⟨z1, z2, z3, z4, z5, z6, z7, z8, -⟩ := a30 j a q hj
        have n4 := (nk.2.2.2.1 j a q hj).2
        rw [pk] at n4
        exact ⟨⟨by omega, vq j a q hj, n4, z2, z4, z5, z6, z7⟩, z8⟩) O1 (by omega)
      rw [o1] at b2'
      refine ⟨m2, fun g => ?_, b2', b3, b4⟩
      show fX10_draw_b23_s (fX10_draw_b23 g) m1 _ _ _ = _
      unfold fX10_draw_b23_s
      rw [if_neg (n0 J (by omega))]
      simp only [qn_s, eJ]
      rw [qld_at (by omega) (by decide), e1, s2, if_neg (ix_nn (by omega)), if_pos s4, qld_at (by omega) (by decide), a23]
      exact b1 (fX10_draw_b23 g)
    -- both orders
    have both : ∀ (s : Bool), (∀ g, fX10_draw_b23 (g + 1) m (zI x) (zI y) (zI ((J + 1 : Nat) : Int)) = fX10_draw_b23 g (pkA (pkA (pkA m 43 (zI (J : Int)) (2 * (if s then m.1 22 k else m.1 21 k))) 43 (zI ((J + 1 : Nat) : Int)) (zI ((2 * k + 1 : Nat) : Int))) 43 (zI ((J + 2 : Nat) : Int)) (2 * (if s then m.1 21 k else m.1 22 k))) (zI x) (zI y) (zI ((J + 3 : Nat) : Int))) → dl (tT p) x y π = dl (tT p) x y (s :: π) ++ (dfl p x y (idl (pnum (tT p) π) (onl (tT p) π)) ++ dl (tT p) x y ((!s) :: π)) → ∃ (cst : Nat) (m' : Pk), cst ≤ 2 * nN (tT p) π + nL (tT p) π ∧ (∀ g, fX10_draw_b23 (g + cst) m (zI x) (zI y) (zI ((J + 1 : Nat) : Int)) = fX10_draw_b23 g m' (zI x) (zI y) (zI (J : Int))) ∧ OR p m' (l ++ dl (tT p) x y π) ∧ drF m m' ∧ ∀ i, i < J → m'.1 43 i = m.1 43 i := by
      intro s hstep hdl
      have j0 : J < 2147483648 := by omega
      have j1 : J + 1 < 2147483648 := by omega
      have j2 : J + 2 < 2147483648 := by omega
      have F1 : drF m (pkA (pkA (pkA m 43 (zI (J : Int)) (2 * (if s then m.1 22 k else m.1 21 k))) 43 (zI ((J + 1 : Nat) : Int)) (zI ((2 * k + 1 : Nat) : Int))) 43 (zI ((J + 2 : Nat) : Int)) (2 * (if s then m.1 21 k else m.1 22 k))) := ⟨fun r h1 h2 => by rw [pA1 j2, if_neg h1, pA1 j1, if_neg h1, pA1 j0, if_neg h1], fun _ _ => rfl, rfl⟩
      have O1 : OR p (pkA (pkA (pkA m 43 (zI (J : Int)) (2 * (if s then m.1 22 k else m.1 21 k))) 43 (zI ((J + 1 : Nat) : Int)) (zI ((2 * k + 1 : Nat) : Int))) 43 (zI ((J + 2 : Nat) : Int)) (2 * (if s then m.1 21 k else m.1 22 k))) l := ⟨O.1, fun i n q hi => by
        obtain ⟨c', u1, u2⟩ := O.2 i n q hi
        exact ⟨c', by rw [pA1 j2, if_neg (by decide), pA1 j1, if_neg (by decide), pA1 j0, if_neg (by decide)]; exact u1, u2.dr F1⟩⟩
      have kid : ∀ s : Bool, cdx (Xo (tT p)) pth (nN (tT p) []) (s :: π) (if s then (nd k).2.1 else (nd k).2.2.1) := fun s => by cases s; exact x3; exact x2
      have kz : ∀ s : Bool, (2 : Int32) * (if s then m.1 21 k else m.1 22 k) = zI (2 * (if s then (nd k).2.1 else (nd k).2.2.1)) := fun s => by
        cases s with
        | true => rw [if_pos rfl, if_pos rfl, y2, z2, zI_mul]
        | false => rw [if_neg (by decide), if_neg (by decide), y3, z2, zI_mul]
      have ih : ∀ s : Bool, DrH p nd pth x y (s :: π) := fun s => by cases s; exact i2; exact i1
      have d1 := dl_len (x := x) (y := y) G (s :: π)
      have d2 := dl_len (x := x) (y := y) G ((!s) :: π)
      have fl := dfl_len (p := p) (x := x) (y := y) (idl (pnum (tT p) π) (onl (tT p) π))
      rw [idl_len] at fl
      have sP : nP (tT p) π = (onl (tT p) π).length + nP (tT p) (s :: π) + nP (tT p) ((!s) :: π) := by cases s <;> (first | rw [show (!true) = false from rfl] | rw [show (!false) = true from rfl]) <;> omega
      have sN : 2 * nN (tT p) π + nL (tT p) π = 2 + (2 * nN (tT p) (s :: π) + nL (tT p) (s :: π)) + (2 * nN (tT p) ((!s) :: π) + nL (tT p) ((!s) :: π)) := by cases s <;> (first | rw [show (!true) = false from rfl] | rw [show (!false) = true from rfl]) <;> omega
      obtain ⟨cst1, m2, a1, a2, a3, a4, a5⟩ := ih s _ (J + 2) _ l (kid s) (D.dr F1) (Q.dr F1) (by rw [List.length_cons]; omega) (by rw [List.length_cons]; omega) (by rw [pAt j2, if_pos ⟨rfl, rfl⟩]; exact kz s) O1 (by omega)
      have F2 := F1.tr a4
      obtain ⟨m3, b1, b2', b3, b4⟩ := mine m2 (J + 1) _ (by omega) (D.dr F2) (Q.dr F2) (by rw [a5 _ (by omega), pAt j2, if_neg (by omega), pAt j1, if_pos ⟨rfl, rfl⟩]) a3 (by rw [List.length_append]; omega)
      have F3 := F2.tr b3
      obtain ⟨cst2, m4, g1, g2, g3, g4, g5⟩ := ih (!s) m3 J _ _ (kid (!s)) (D.dr F3) (Q.dr F3) (by rw [List.length_cons]; omega) (by rw [List.length_cons]; omega) (by
        rw [b4, a5 _ (by omega), pAt j2, if_neg (by omega), pAt j1, if_neg (by omega), pAt j0, if_pos ⟨rfl, rfl⟩, ← kz (!s)]
        cases s <;> rfl) b2' (by rw [List.length_append, List.length_append]; omega)
      refine ⟨cst2 + 1 + cst1 + 1, m4, by omega, fun g => ?_, ?_, F3.tr g4, fun i hi => ?_⟩
      · rw [show g + (cst2 + 1 + cst1 + 1) = g + cst2 + 1 + cst1 + 1 by omega, hstep, show ((J + 3 : Nat) : Int) = ((J + 2 + 1 : Nat) : Int) from rfl, a2, b1, g2]
      · rw [hdl]
        rw [List.append_assoc, List.append_assoc] at g3
        exact g3
      · rw [g5 i hi, b4, a5 i (by omega), pAt j2, if_neg (by omega), pAt j1, if_neg (by omega), pAt j0, if_neg (by omega)]
    have t1 : (2 : Int32) * zI (k : Int) + 1 = zI ((2 * k + 1 : Nat) : Int) := by rw [z2, zI_mul, z1, zI_add]; congr 1
    have u1 : zI (J : Int) + 1 = zI ((J + 1 : Nat) : Int) := ix_s _
    have u2 : zI (J : Int) + 2 = zI ((J + 2 : Nat) : Int) := ix_c1 J 2
    have u3 : zI (J : Int) + 3 = zI ((J + 3 : Nat) : Int) := ix_c1 J 3
    have j0 : J < 2147483648 := by omega
    have j1 : J + 1 < 2147483648 := by omega
    have head : ∀ g, fX10_draw_b23 (g + 1) m (zI x) (zI y) (zI ((J + 1 : Nat) : Int)) = (if zI (sv p (sw (tT p) π) x y) < 0 then fX10_draw_b149 (fX10_draw_b23 g) m (zI x) (zI y) (zI (J : Int)) (zI (k : Int)) 0 else fX10_draw_b149 (fX10_draw_b23 g) m (zI x) (zI y) (zI (J : Int)) (zI (k : Int)) 1) := by
      intro g
      show fX10_draw_b23_s (fX10_draw_b23 g) m _ _ _ = _
      unfold fX10_draw_b23_s fX10_draw_b123
      rw [if_neg (n0 J (by omega))]
      simp only [qn_s, eJ]
      rw [qld_at (by omega) (by decide), e0, e2k, s1, if_neg (ix_nn (by omega)), if_neg s3, if_neg (ix_nn (by omega)), qld_at (by omega) (by decide), y1, M_side Q ok.1 ok.2, qb1_s]
    by_cases e : zI (sv p (sw (tT p) π) x y) < 0
    · refine both true (fun g => ?_) (by rw [dl_node G h, if_pos (show zI (sv (tT p).1 (sw (tT p) π) x y) < 0 from e)]; rfl)
      rw [head g, if_pos e]
      unfold fX10_draw_b149 fX10_draw_b179 fX10_draw_b225 fX10_draw_b230
      rw [if_pos rfl, qld_at (by omega) (by decide), qst_at (by omega) (by decide), qn_s, u1, t1, qst_at (by omega) (by decide), qn_s, if_pos rfl, qld_at (by omega) (by decide), u2, qst_at (by omega) (by decide), qn_s, u3, qn_s, pAt j1, if_neg (by omega), pAt j0, if_neg (by omega)]
      rfl
    · refine both false (fun g => ?_) (by rw [dl_node G h, if_neg (show ¬ zI (sv (tT p).1 (sw (tT p) π) x y) < 0 from e)]; rfl)
      rw [head g, if_neg e]
      unfold fX10_draw_b149 fX10_draw_b179 fX10_draw_b225 fX10_draw_b230
      rw [if_neg (by decide), qld_at (by omega) (by decide), qst_at (by omega) (by decide), qn_s, u1, t1, qst_at (by omega) (by decide), qn_s, if_neg (by decide), qld_at (by omega) (by decide), u2, qst_at (by omega) (by decide), qn_s, u3, qn_s, pAt j1, if_neg (by omega), pAt j0, if_neg (by omega)]
      rfl
/-- the reference's tree drawn -/
theorem M_drawn (V : VP p) (hx : 0 ≤ x ∧ x ≤ 63) (hy : 0 ≤ y ∧ y ≤ 63) (D : MT (tT p) m nd pth) (Q : ReM m p) : ∃ m', qn (pkI m 50 0) (fun p6_t => qst 400 0 (qn (pkA p6_t 43 0 (2 * (p6_t.2.1 26))) (fun p22_t => fX10_draw_b23 FU p22_t (zI x) (zI y) 1))) = some m' ∧ MT (tT p) m' nd pth ∧ ReM m' p ∧ OR p m' (dl (tT p) x y []) ∧ drF m m' := by
  have G := tG V
  have n144 := nN_160 V
  have cL := nL_nN G []
  obtain ⟨H, ⟨rt0, hT, h26⟩, hN, -⟩ := id D
  have h26' : (pkI m 50 0).2.1 26 = zI rt0 := h26
  have F1 : drF m (pkA (pkI m 50 0) 43 (zI ((0 : Nat) : Int)) (2 * zI rt0)) := ⟨fun r h1 h2 => by rw [pA1 (by decide), if_neg h1]; rfl, fun k hk => by rw [pA2, pI, if_neg hk], rfl⟩
  obtain ⟨cst, m', a1, a2, a3, a4, a5⟩ := Dr_sub V hx hy [] _ 0 rt0 [] hT.2.2.2 (D.dr F1) (Q.dr F1) (by decide) (by decide) (by rw [pAt (by decide), if_pos ⟨rfl, rfl⟩, z2, zI_mul]) ⟨rfl, fun i n q h => by rw [List.getElem?_nil] at h; cases h⟩ (by show 0 + _ ≤ _; omega)
  refine ⟨m', ?_, D.dr (F1.tr a4), Q.dr (F1.tr a4), a3, F1.tr a4⟩
  rw [qn_s, h26', show ∀ k : Option Pk, qst 400 0 k = k from fun k => qst_at (i := 0) (by decide) (by decide), qn_s]
  have := a2 (4095 - cst + 1)
  rw [show 4095 - cst + 1 + cst = FU by show _ = 4096; omega] at this
  rw [show fX10_draw_b23 FU (pkA (pkI m 50 0) 43 0 (2 * zI rt0)) (zI x) (zI y) 1 = _ from this]
  show fX10_draw_b23_s (fX10_draw_b23 _) m' _ _ _ = some m'
  unfold fX10_draw_b23_s
  rw [if_pos (by decide)]
end S
