/-! QUERIES OF THE TREE: children, depths, pieces, leaves -/
section S
variable {T : Tr} {p pb : Pln} {m m' w t b TT L P : Pk} {nd : Nat → Nd} {pth : Nat → List Bool} {i : Nat} {π : List Bool} {q : Pc}
theorem TQ_of2 {F : Pk → Pk → Pk → Pk → Pk → Option (Int32 × Pk × Pk × Pk × Pk × Pk)} {g : Pk → Option (Int32 × Pk)} (RW : ReW w p) (Q : ReM m p) (V : VP p) (I : TInv t b TT L P m p pb) (h : ∀ (TT' P' m' : Pk) (nd : Nat → Nd) (pth : Nat → List Bool), CTree (tT p) TT' P' → MT (tT p) m' nd pth → ReM m' p → ∃ v, (∀ t' b' L', F t' b' TT' L' P' = some (v, t', b', TT', L', P')) ∧ g m' = some (v, m')) : TQ (qb5 (fX9_needTree w t b TT L P) F) (qb1 (fX10_tree m) g) t m p := by
  obtain ⟨t', b', TT', L', P', m', nd, pth, pb', a1, a2, a3, a4, a5, a6, a7, a8⟩ := S_needTree RW Q V I
  obtain ⟨v, h1, h2⟩ := h TT' P' m' nd pth a4 a5 a6
  rw [a1, qb5_s, a2, qb1_s, h1, h2]
  exact ⟨v, t', b', TT', L', P', m', pb', rfl, rfl, a3, a6, a7, a8⟩
theorem S_nodeDepth (RW : ReW w p) (Q : ReM m p) (V : VP p) (I : TInv t b TT L P m p pb) (a : Int32) : TQ (fX9_nodeDepth w t b TT L P a) (fX10_nodeDepth m a) t m p := by
  unfold fX9_nodeDepth fX10_nodeDepth
  refine TQ_of2 RW Q V I (fun TT' P' m' nd pth C D _ => ?_)
  have n1 := nN_160 V
  rcases idx_split (nN (tT p) []) (by omega) a with h | h | ⟨j, hj, e⟩
  · exact ⟨-7, fun _ _ _ => by rw [has_out C (Or.inl h), qb1_s, if_pos rfl], by rw [if_pos h]⟩
  · refine ⟨-7, fun _ _ _ => by rw [has_out C (Or.inr h), qb1_s, if_pos rfl], ?_⟩
    by_cases c : a < 0
    · rw [if_pos c]
    · rw [if_neg c, D.1.1, if_neg (nlt.mpr h)]
  · subst e
    obtain ⟨π, k, a1, a2, a3, a4, a5, a6, a7, a8, -⟩ := node_at (tG V) C D hj
    refine ⟨zI (π.length : Int), fun _ _ _ => ?_, ?_⟩
    · unfold fX6_depthOf
      rw [has_in V C hj, qb1_s, if_neg (by decide), qb1_s, if_neg (by decide), qld_at (by omega) (by decide), ← a2, a5.2.2.2.1, qb1_s]
    · have := a6.2.2.1
      rw [a4] at this
      rw [if_neg (ix_nn (by omega)), D.1.1, if_pos (ix_b hj (by omega)), qld_at (by omega) (by decide), a7, qld_at (by omega) (by decide), this]
theorem lnum_bd (G : GT T) : ∀ σ : List Bool, Ls T (σ ++ π) ≠ [] → lnum T (σ ++ π) + nL T (σ ++ π) ≤ lnum T π + nL T π
  | [], _ => Nat.le_refl _
  | s :: σ, h => by
    have h1 : Ls T (σ ++ π) ≠ [] := Ls_up (s := s) h
    have ih := lnum_bd G σ h1
    have e1 := nL_node G h1
    rw [List.cons_append]
    cases s with
    | true =>
      have f1 : lnum T (true :: (σ ++ π)) = lnum T (σ ++ π) := rfl
      omega
    | false =>
      have f1 : lnum T (false :: (σ ++ π)) = lnum T (σ ++ π) + nL T (true :: (σ ++ π)) := rfl
      omega
theorem lnum_le (G : GT T) (h : Ls T π ≠ []) (s : Bool) : lnum T (s :: π) ≤ nL T [] := by
  have h1 := lnum_bd G (π := []) π (by rw [List.append_nil]; exact h)
  rw [List.append_nil] at h1
  have z : lnum T [] = 0 := rfl
  have e1 := nL_node G h
  cases s with
  | true =>
    have f1 : lnum T (true :: π) = lnum T π := rfl
    omega
  | false =>
    have f1 : lnum T (false :: π) = lnum T π + nL T (true :: π) := rfl
    omega
/-- a child's number, on both sides -/
theorem child_z (V : VP p) (C : CTree (tT p) t P) (D : MT (tT p) m nd pth) (hi : i < nN (tT p) []) : ∃ k, k < nN (tT p) [] ∧ m.1 38 i = zI (k : Int) ∧ ∀ s : Bool, ∃ x c v : Int32, (if s then t.1 5 i else t.1 6 i) = x ∧ (if s then m.1 21 k else m.1 22 k) = c ∧ (if x < 0 then (-8 : Int32) else x) = v ∧ (fX10_nodeChild_b60 m c = some (v, m)) := by
  have n1 := nN_160 V
  obtain ⟨π, k, a1, a2, a3, a4, a5, a6, a7, a8, a9, a10, a11, a12⟩ := node_at (tG V) C D hi
  refine ⟨k, a3, a7, fun s => ?_⟩
  have nl := nL_nN (tG V) []
  have kid : ∀ (ρ : List Bool) (c : Int), lnum (tT p) ρ ≤ nL (tT p) [] → cdx (Xo (tT p)) pth (nN (tT p) []) ρ c → (if zI (cc (tT p) ρ) < 0 then (-8 : Int32) else zI (cc (tT p) ρ)) = (if Ls (tT p) ρ = [] then -8 else zI (num (tT p) ρ : Int)) ∧ fX10_nodeChild_b60 m (zI c) = some (if Ls (tT p) ρ = [] then -8 else zI (num (tT p) ρ : Int), m) := by
    intro ρ c hl hc
    obtain ⟨H, ⟨rt0, hT, h26⟩, hN, -⟩ := D
    by_cases e : Ls (tT p) ρ = []
    · rw [cc_leaf e, if_pos e]
      have hc1 := (hT.code hc).1 (Xo_leaf e)
      refine ⟨?_, by rw [hc1]; unfold fX10_nodeChild_b60; rw [if_neg (by decide)]⟩
      rw [if_pos]
      rw [z0, zI_lt ⟨by omega, by omega⟩ r0]; omega
    · obtain ⟨j, hj, pj, ej⟩ := (hT.code hc).2 (by rw [Xo_node e]; intro h; cases h)
      have nl := num_lt (tG V) e
      rw [cc_node e, if_neg e, if_neg (ix_nn (by omega))]
      refine ⟨rfl, ?_⟩
      unfold fX10_nodeChild_b60
      have p0 : 0 ≤ zI (j : Int) := by rw [z0, zI_le r0 (rI_n (by omega))]; omega
      have := (hN j hj).2.1
      rw [pj] at this
      rw [ej, if_pos p0, qld_at (by omega) (by decide), this]
  cases s with
  | true =>
    obtain ⟨u1, u2⟩ := kid _ _ (lnum_le (tG V) a1 true) a9
    exact ⟨_, _, _, by rw [if_pos rfl, ← a2, a5.2.1], by rw [if_pos rfl]; exact a11, u1, u2⟩
  | false =>
    obtain ⟨u1, u2⟩ := kid _ _ (lnum_le (tG V) a1 false) a10
    exact ⟨_, _, _, by rw [if_neg (by decide), ← a2, a5.2.2.1], by rw [if_neg (by decide)]; exact a12, u1, u2⟩
theorem S_pieceWall (RW : ReW w p) (Q : ReM m p) (V : VP p) (I : TInv t b TT L P m p pb) (a : Int32) : TQ (fX9_pieceWall w t b TT L P a) (fX10_pieceWall m a) t m p := by
  unfold fX9_pieceWall fX10_pieceWall fX6_hasPiece fX6_wallOfPiece
  refine TQ_of2 RW Q V I (fun TT' P' m' nd pth C D _ => ?_)
  have n1 := nN_160 V
  have lp := pcl_len (tG V) []
  rcases idx_split (nP (tT p) []) (by omega) a with h | h | ⟨j, hj, e⟩
  · exact ⟨-6, fun _ _ _ => by rw [PL_hasnt C.2.2.2 (Or.inl h), qb1_s, qb1_s, if_pos rfl], by rw [if_pos h]⟩
  · refine ⟨-6, fun _ _ _ => by rw [PL_hasnt C.2.2.2 (Or.inr (by rw [lp]; exact h)), qb1_s, qb1_s, if_pos rfl], ?_⟩
    by_cases c : a < 0
    · rw [if_pos c]
    · rw [if_neg c, D.1.2.1, if_neg (nlt.mpr h)]
  · subst e
    obtain ⟨π, k, i, c, q, a1, a2, a3, a4, a5, a6, a7, a8, a9, a10, a11, a12, a13, a14, a15, a16, a17, a18⟩ := piece_at (tG V) C D hj
    refine ⟨zI (q.1 : Int), fun _ _ _ => ?_, ?_⟩
    · rw [PL_has C.2.2.2 (by omega), qb1_s, qb1_s, if_neg (by decide), PL_wallOf C.2.2.2 a8, qb1_s, qb1_s]
    · rw [if_neg (ix_nn (by omega)), D.1.2.1, if_pos (ix_b hj (by omega)), qld_at (by omega) (by decide), a11, qld_at a10 (by decide), a13]
theorem S_pieceNode (RW : ReW w p) (Q : ReM m p) (V : VP p) (I : TInv t b TT L P m p pb) (a : Int32) : TQ (fX9_pieceNode w t b TT L P a) (fX10_pieceNode m a) t m p := by
  unfold fX9_pieceNode fX10_pieceNode fX6_hasPiece fX6_nodeOfPiece
  refine TQ_of2 RW Q V I (fun TT' P' m' nd pth C D _ => ?_)
  have n1 := nN_160 V
  have lp := pcl_len (tG V) []
  rcases idx_split (nP (tT p) []) (by omega) a with h | h | ⟨j, hj, e⟩
  · exact ⟨-6, fun _ _ _ => by rw [PL_hasnt C.2.2.2 (Or.inl h), qb1_s, qb1_s, if_pos rfl], by rw [if_pos h]⟩
  · refine ⟨-6, fun _ _ _ => by rw [PL_hasnt C.2.2.2 (Or.inr (by rw [lp]; exact h)), qb1_s, qb1_s, if_pos rfl], ?_⟩
    by_cases c : a < 0
    · rw [if_pos c]
    · rw [if_neg c, D.1.2.1, if_neg (nlt.mpr h)]
  · subst e
    obtain ⟨π, k, i, c, q, a1, a2, a3, a4, a5, a6, a7, a8, a9, a10, a11, a12, a13, a14, a15, a16, a17, a18⟩ := piece_at (tG V) C D hj
    refine ⟨zI (num (tT p) π : Int), fun _ _ _ => ?_, ?_⟩
    · have := a6.2.2.2.2.2.2 i a3
      rw [a2] at this
      rw [PL_has C.2.2.2 (by omega), qb1_s, qb1_s, if_neg (by decide), if_neg (ix_nn (by omega)), if_neg (show ¬ (144 : Int32) ≤ zI (j : Int) from ix_a (n := 144) (by omega) (by decide)), qld_at (by omega) (by decide), this, qb1_s]
    · have := a7.2.1
      rw [a5] at this
      rw [if_neg (ix_nn (by omega)), D.1.2.1, if_pos (ix_b hj (by omega)), qld_at (by omega) (by decide), a11, qld_at a10 (by decide), a14, qld_at (by omega) (by decide), this]
theorem bound_z {R : Nat} {l : List Pc} (PP : PL P R l) (h : l[i]? = some q) : fX4_bound P (zI (i : Int)) 0 = some (zI q.2.1) ∧ fX4_bound P (zI (i : Int)) 1 = some (zI q.2.2.1) ∧ fX4_bound P (zI (i : Int)) 2 = some (zI q.2.2.2.1) ∧ fX4_bound P (zI (i : Int)) 3 = some (zI q.2.2.2.2) := by
  have hi := get_lt h
  obtain ⟨h1, h2, h3, h4, h5⟩ := id PP
  obtain ⟨c1, c2, c3, c4, c5⟩ := h5 i q h
  have hR : R ≤ 2147483648 := by omega
  have hiR : i < R := by omega
  unfold fX4_bound
  rw [PL_has PP hi]
  refine ⟨?_, ?_, ?_, ?_⟩
  · rw [qb1_s, if_neg (by decide), if_pos rfl, h3, zI_clamp (by omega), qld_at hiR hR, c2]
  · rw [qb1_s, if_neg (by decide), if_neg (by decide), if_pos rfl, h3, zI_clamp (by omega), qld_at hiR hR, c3]
  · rw [qb1_s, if_neg (by decide), if_neg (by decide), if_neg (by decide), if_pos rfl, h3, zI_clamp (by omega), qld_at hiR hR, c4]
  · rw [qb1_s, if_neg (by decide), if_neg (by decide), if_neg (by decide), if_neg (by decide), h3, zI_clamp (by omega), qld_at hiR hR, c5]
theorem ix4 (c k : Nat) : (4 : Int32) * zI (c : Int) + zI (k : Int) = zI ((4 * c + k : Nat) : Int) := by rw [show (4 : Int32) = zI 4 from rfl, zI_mul, zI_add]; congr 1
theorem S_pieceBound (RW : ReW w p) (Q : ReM m p) (V : VP p) (I : TInv t b TT L P m p pb) (a a2 : Int32) : TQ (fX9_pieceBound w t b TT L P a a2) (fX10_pieceBound m a a2) t m p := by
  unfold fX9_pieceBound fX10_pieceBound fX6_hasPiece fX6_boundOfPiece
  rw [C_isOutside, qb1_s]
  have no : (a2 < 0 ∨ 3 < a2) → TQ (if b2 (!(decide (0 ≤ a2) && decide (a2 ≤ 3))) = 0 then (qb5 (fX9_needTree w t b TT L P) (fun p13_t p13_b p13_T p13_L p13_P => qb1 (qb1 (fX4_has p13_P a) (fun x5 => some x5)) (fun x21 => if x21 = 0 then (some ((-6), p13_t, p13_b, p13_T, p13_L, p13_P)) else (qb1 (qb1 (fX4_bound p13_P a a2) (fun x6 => some x6)) (fun x33 => some (x33, p13_t, p13_b, p13_T, p13_L, p13_P)))))) else (some ((-2), t, b, TT, L, P))) (if a2 < 0 then (some ((-2), m)) else (if a2 ≤ 3 then (qb1 (fX10_tree m) (fun p13_t => if a < 0 then (some ((-6), p13_t)) else (if a < (p13_t.2.1 31) then (qld 160 (p13_t.1 41) a (fun x43 => qld 640 (p13_t.1 29) ((4 * x43) + a2) (fun x47 => some (x47, p13_t)))) else (some ((-6), p13_t))))) else (some ((-2), m)))) t m p := by
    intro h
    by_cases c : a2 < 0
    · rw [if_pos c, decide_eq_false (nle.mpr c), Bool.false_and, ifNF]
      exact TQ_no Q I
    · rcases h with h | h
      · exact absurd h c
      · rw [if_neg c, if_neg (nle.mpr h), decide_eq_false (nle.mpr h), Bool.and_false, ifNF]
        exact TQ_no Q I
  rcases a03 (a := a2) with h | h
  · exact no h
  · have g : 0 ≤ a2 ∧ a2 ≤ 3 := by rcases h with h | h | h | h <;> (rw [h]; decide)
    rw [decide_eq_true g.1, decide_eq_true g.2, Bool.and_true, ifNT, if_neg (nlt.mpr g.1), if_pos g.2]
    refine TQ_of2 RW Q V I (fun TT' P' m' nd pth C D _ => ?_)
    have n1 := nN_160 V
    have lp := pcl_len (tG V) []
    rcases idx_split (nP (tT p) []) (by omega) a with h' | h' | ⟨j, hj, e⟩
    · exact ⟨-6, fun _ _ _ => by rw [PL_hasnt C.2.2.2 (Or.inl h'), qb1_s, qb1_s, if_pos rfl], by rw [if_pos h']⟩
    · refine ⟨-6, fun _ _ _ => by rw [PL_hasnt C.2.2.2 (Or.inr (by rw [lp]; exact h')), qb1_s, qb1_s, if_pos rfl], ?_⟩
      by_cases c : a < 0
      · rw [if_pos c]
      · rw [if_neg c, D.1.2.1, if_neg (nlt.mpr h')]
    · subst e
      obtain ⟨π, k, i, c, q, d1, d2, d3, d4, d5, d6, d7, d8, d9, d10, d11, d12, d13, d14, d15, d16, d17, d18⟩ := piece_at (tG V) C D hj
      obtain ⟨e0, e1, e2, e3⟩ := bound_z C.2.2.2 d8
      rw [if_neg (ix_nn (by omega)), D.1.2.1, if_pos (ix_b hj (by omega)), qld_at (by omega) (by decide), d11]
      have f0 : (4 : Int32) * zI (c : Int) + 0 = zI ((4 * c : Nat) : Int) := ix4 c 0
      have f1 : (4 : Int32) * zI (c : Int) + 1 = zI ((4 * c + 1 : Nat) : Int) := ix4 c 1
      have f2 : (4 : Int32) * zI (c : Int) + 2 = zI ((4 * c + 2 : Nat) : Int) := ix4 c 2
      have f3 : (4 : Int32) * zI (c : Int) + 3 = zI ((4 * c + 3 : Nat) : Int) := ix4 c 3
      rcases h with h | h | h | h
      · subst h
        exact ⟨zI q.2.1, fun _ _ _ => by rw [PL_has C.2.2.2 (by omega), qb1_s, qb1_s, if_neg (by decide), e0, qb1_s, qb1_s], by rw [f0, qld_at (by omega) (by decide), d15]⟩
      · subst h
        exact ⟨zI q.2.2.1, fun _ _ _ => by rw [PL_has C.2.2.2 (by omega), qb1_s, qb1_s, if_neg (by decide), e1, qb1_s, qb1_s], by rw [f1, qld_at (by omega) (by decide), d16]⟩
      · subst h
        exact ⟨zI q.2.2.2.1, fun _ _ _ => by rw [PL_has C.2.2.2 (by omega), qb1_s, qb1_s, if_neg (by decide), e2, qb1_s, qb1_s], by rw [f2, qld_at (by omega) (by decide), d17]⟩
      · subst h
        exact ⟨zI q.2.2.2.2, fun _ _ _ => by rw [PL_has C.2.2.2 (by omega), qb1_s, qb1_s, if_neg (by decide), e3, qb1_s, qb1_s], by rw [f3, qld_at (by omega) (by decide), d18]⟩
theorem S_nodeChild (RW : ReW w p) (Q : ReM m p) (V : VP p) (I : TInv t b TT L P m p pb) (a a2 : Int32) : TQ (fX9_nodeChild w t b TT L P a a2) (fX10_nodeChild m a a2) t m p := by
  unfold fX9_nodeChild fX10_nodeChild
  rw [C_isOutside, qb1_s]
  cases h2 : (decide (0 ≤ a2) && decide (a2 ≤ 1)) with
  | false =>
    rw [ifNF]
    rcases no1 h2 with q | q
    · rw [if_pos q]; exact TQ_no Q I
    · rw [if_neg (nlt.mpr (c1p q)), if_neg (nle.mpr q)]; exact TQ_no Q I
  | true =>
    obtain ⟨s, e⟩ := ok1_z h2
    simp only [Bool.and_eq_true, decide_eq_true_eq] at h2
    rw [ifNT, if_neg (nlt.mpr h2.1), if_pos h2.2]
    refine TQ_of2 RW Q V I (fun TT' P' m' nd pth C D _ => ?_)
    have n1 := nN_160 V
    rcases idx_split (nN (tT p) []) (by omega) a with h | h | ⟨j, hj, e'⟩
    · exact ⟨-7, fun _ _ _ => by rw [has_out C (Or.inl h), qb1_s, if_pos rfl], by rw [if_pos h]⟩
    · refine ⟨-7, fun _ _ _ => by rw [has_out C (Or.inr h), qb1_s, if_pos rfl], ?_⟩
      by_cases c : a < 0
      · rw [if_pos c]
      · rw [if_neg c, D.1.1, if_neg (nlt.mpr h)]
    · subst e'
      obtain ⟨k, k1, k2, k3⟩ := child_z V C D hj
      rw [if_neg (ix_nn (by omega)), D.1.1, if_pos (ix_b hj (by omega)), e]
      cases s with
      | false =>
        obtain ⟨x, c, v, u1, u2, u3, u4⟩ := k3 true
        rw [if_pos rfl] at u1 u2
        refine ⟨v, fun _ _ _ => ?_, ?_⟩
        · unfold fX9_nodeChild_b53 fX6_frontOf
          rw [has_in V C hj, qb1_s, if_neg (by decide), if_pos (by decide), qb1_s, if_neg (by decide), qld_at (by omega) (by decide), u1, qb1_s, ← u3]
          split <;> rfl
        · rw [if_pos (by decide), qld_at (by omega) (by decide), k2, qld_at (by omega) (by decide), u2, u4]
      | true =>
        obtain ⟨x, c, v, u1, u2, u3, u4⟩ := k3 false
        rw [if_neg (by decide)] at u1 u2
        refine ⟨v, fun _ _ _ => ?_, ?_⟩
        · unfold fX9_nodeChild_b53 fX6_backOf
          rw [has_in V C hj, qb1_s, if_neg (by decide), if_neg (by decide), qb1_s, if_neg (by decide), qld_at (by omega) (by decide), u1, qb1_s, ← u3]
          split <;> rfl
        · rw [if_neg (by decide), qld_at (by omega) (by decide), k2, qld_at (by omega) (by decide), u2, u4]
/-- which side a point is on, at a node -/
theorem side_z (RW : ReW w p) (V : VP p) (C : CTree (tT p) t P) (h : Ls (tT p) π ≠ []) (x y : Int) : fX6_isInFrontOrOnLine t w (zI (num (tT p) π : Int)) (zI x) (zI y) = some (if zI (sv p (sw (tT p) π) x y) < 0 then 0 else 1) := by
  have n1 := nN_160 V
  have nl := num_lt (tG V) h
  have ok := sw_ok (tG V) h
  unfold fX6_isInFrontOrOnLine fX6_wallOfNode
  rw [has_in V C nl, qb1_s, if_neg (by decide), qld_at (by omega) (by decide), (C.2.2.1 π h).1, qb1_s, W_sideValue RW ok.1 ok.2, qb1_s]
  split <;> rfl
theorem kid_z (V : VP p) (C : CTree (tT p) t P) (h : Ls (tT p) π ≠ []) : fX6_frontOf t (zI (num (tT p) π : Int)) = some (zI (cc (tT p) (true :: π))) ∧ fX6_backOf t (zI (num (tT p) π : Int)) = some (zI (cc (tT p) (false :: π))) := by
  have n1 := nN_160 V
  have nl := num_lt (tG V) h
  obtain ⟨-, c1, c2, -⟩ := C.2.2.1 π h
  unfold fX6_frontOf fX6_backOf
  rw [has_in V C nl, qb1_s, qb1_s, if_neg (by decide), if_neg (by decide), qld_at (by omega) (by decide), qld_at (by omega) (by decide), c1, c2]
  exact ⟨rfl, rfl⟩
theorem cc_neg (h : Ls T π = []) (hl : lnum T π < 2147483647) : zI (cc T π) < 0 := by
  rw [cc_leaf h, z0, zI_lt ⟨by omega, by omega⟩ r0]; omega
theorem loc_z (RW : ReW w p) (Q : ReM m p) (V : VP p) (C : CTree (tT p) t P) (D : MT (tT p) m nd pth) (x y : Int) (π : List Bool) : lnum (tT p) π ≤ 145 → π.length ≤ 12 → ∀ (n1 n2 : Nat) (par : Option (Nat × Bool)) (c : Int), 12 < n1 + π.length → 12 < n2 + π.length → parAt par pth (nN (tT p) []) π → cdx (Xo (tT p)) pth (nN (tT p) []) π c → ∃ v, fX6_leafAt_b8 t w n1 (zI x) (zI y) (zI (cc (tT p) π)) (zI (π.length : Int)) = some v ∧ fX10_locate_b23 n2 m (zI x) (zI y) (plZ par) (zI c) = some (v, m) := by
  have n144 := nN_160 V
  refine tr_ind (P := fun π => lnum (tT p) π ≤ 145 → π.length ≤ 12 → ∀ (n1 n2 : Nat) (par : Option (Nat × Bool)) (c : Int), 12 < n1 + π.length → 12 < n2 + π.length → parAt par pth (nN (tT p) []) π → cdx (Xo (tT p)) pth (nN (tT p) []) π c → ∃ v, fX6_leafAt_b8 t w n1 (zI x) (zI y) (zI (cc (tT p) π)) (zI (π.length : Int)) = some v ∧ fX10_locate_b23 n2 m (zI x) (zI y) (plZ par) (zI c) = some (v, m)) (tG V) ?_ ?_ π
  · intro π h hl h12 n1 n2 par c g1 g2 hp hc
    obtain ⟨n1, rfl⟩ : ∃ k, n1 = k + 1 := ⟨n1 - 1, by omega⟩
    obtain ⟨n2, rfl⟩ : ∃ k, n2 = k + 1 := ⟨n2 - 1, by omega⟩
    obtain ⟨H, ⟨rt0, hT, h26⟩, hN, -, -, -, h45⟩ := D
    have hc1 := (hT.code hc).1 (Xo_leaf h)
    refine ⟨zI (lnum (tT p) π : Int), ?_, ?_⟩
    · show fX6_leafAt_b8_s (fX6_leafAt_b8 t w n1) t w _ _ _ _ = _
      unfold fX6_leafAt_b8_s
      have ev : (-1 : Int32) - zI (cc (tT p) π) = zI (lnum (tT p) π : Int) := by
        rw [cc_leaf h, zm1, zI_sub]; congr 1; omega
      rw [ev, if_pos (cc_neg h (by omega))]
      split <;> rfl
    · show fX10_locate_b23_s (fX10_locate_b23 n2) m _ _ _ _ = _
      unfold fX10_locate_b23_s
      rw [hc1, if_pos (by decide)]
      rcases hp with ⟨a, b'⟩ | ⟨k, s, a, b', e⟩
      · rw [a, show plZ none = zI (-1) from rfl, if_neg (by decide)]
        subst b'
        rw [h45 h]; rfl
      · have bl := bit_lt s
        have p0 : 0 ≤ zI ((2 * k + bit s : Nat) : Int) := by rw [z0, zI_le r0 (rI_n (by omega))]; omega
        rw [a, show plZ (some (k, s)) = zI ((2 * k + bit s : Nat) : Int) from rfl, if_pos p0, qld_at (by omega) (by decide)]
        have := (hN k b').2.2.2.2 s (by rw [← e]; exact h)
        rw [this, ← e]
  · intro π h i1 i2 hl h12 n1 n2 par c g1 g2 hp hc
    obtain ⟨n1, rfl⟩ : ∃ k, n1 = k + 1 := ⟨n1 - 1, by omega⟩
    obtain ⟨n2, rfl⟩ : ∃ k, n2 = k + 1 := ⟨n2 - 1, by omega⟩
    have dp := Ls_depth (tG V) h
    have ok := sw_ok (tG V) h
    have nl := num_lt (tG V) h
    have nLN := nL_nN (tG V) []
    have lk1 := lnum_le (tG V) h
    obtain ⟨H, ⟨rt0, hT, h26⟩, hN, -⟩ := id D
    obtain ⟨k, hk, pk, ck⟩ := (hT.code hc).2 (by rw [Xo_node h]; intro e; cases e)
    obtain ⟨x1, x2, x3⟩ := hT.2.1 k hk
    obtain ⟨y1, y2, y3, -⟩ := H.2.2.2.2 k hk
    rw [pk, Xo_node h] at x1
    rw [pk] at x2 x3
    have w1 : (nd k).1 = sw (tT p) π := by injection x1 with x1; injection x1 with u v; exact u.symm
    rw [w1] at y1
    obtain ⟨k1, k2⟩ := kid_z V C h
    have c1 : fX6_leafAt_b8 t w (n1 + 1) (zI x) (zI y) (zI (cc (tT p) π)) (zI (π.length : Int)) = (if zI (sv p (sw (tT p) π) x y) < 0 then fX6_leafAt_b8 t w n1 (zI x) (zI y) (zI (cc (tT p) (false :: π))) (zI ((π.length + 1 : Nat) : Int)) else fX6_leafAt_b8 t w n1 (zI x) (zI y) (zI (cc (tT p) (true :: π))) (zI ((π.length + 1 : Nat) : Int))) := by
      show fX6_leafAt_b8_s (fX6_leafAt_b8 t w n1) t w _ _ _ _ = _
      unfold fX6_leafAt_b8_s fX6_leafAt_b42
      rw [cc_node h, if_neg (show ¬ (12 : Int32) ≤ zI (π.length : Int) from ix_a (n := 12) dp (by decide)), if_neg (ix_nn (by omega)), side_z RW V C h, qb1_s, k1, k2, qb1_s, qb1_s]
      simp only [qn_s, ix_s]
      by_cases e : zI (sv p (sw (tT p) π) x y) < 0
      · rw [if_pos e, if_pos e, if_pos rfl]
      · rw [if_neg e, if_neg e, if_neg (by decide)]
    have c2 : fX10_locate_b23 (n2 + 1) m (zI x) (zI y) (plZ par) (zI c) = (if zI (sv p (sw (tT p) π) x y) < 0 then fX10_locate_b23 n2 m (zI x) (zI y) (plZ (some (k, false))) (zI (nd k).2.2.1) else fX10_locate_b23 n2 m (zI x) (zI y) (plZ (some (k, true))) (zI (nd k).2.1)) := by
      show fX10_locate_b23_s (fX10_locate_b23 n2) m _ _ _ _ = _
      unfold fX10_locate_b23_s fX10_locate_b49 fX10_locate_b69 fX10_locate_b92
      have t0 : (2 : Int32) * zI (k : Int) = zI ((2 * k : Nat) : Int) := by rw [z2, zI_mul]; congr 1
      have t1 : zI ((2 * k : Nat) : Int) + 1 = zI ((2 * k + 1 : Nat) : Int) := ix_s _
      have Q' : ReM m p := Q
      rw [ck, if_neg (ix_nn (by omega)), qld_at (by omega) (by decide), y1, M_side Q' ok.1 ok.2, qb1_s, t0, t1, if_pos rfl, if_pos rfl, if_neg (show ¬ (1 : Int32) = 0 by decide), if_neg (show ¬ (1 : Int32) = 0 by decide), qld_at (by omega) (by decide), qld_at (by omega) (by decide), y2, y3]
      rfl
    rw [c1, c2]
    by_cases e : zI (sv p (sw (tT p) π) x y) < 0
    · rw [if_pos e, if_pos e]
      exact i2 (by have := lk1 false; omega) (by rw [List.length_cons]; omega) n1 n2 (some (k, false)) _ (by rw [List.length_cons]; omega) (by rw [List.length_cons]; omega) (parAt_kid false hk pk) x3
    · rw [if_neg e, if_neg e]
      exact i1 (by have := lk1 true; omega) (by rw [List.length_cons]; omega) n1 n2 (some (k, true)) _ (by rw [List.length_cons]; omega) (by rw [List.length_cons]; omega) (parAt_kid true hk pk) x2
theorem S_locate (RW : ReW w p) (Q : ReM m p) (V : VP p) (I : TInv t b TT L P m p pb) (a a2 : Int32) : TQ (fX9_locate w t b TT L P a a2) (fX10_locate m a a2) t m p := by
  unfold fX9_locate fX10_locate
  rw [C_isBadPoint, M_isPoint, qb1_s, qb1_s]
  cases h : (okc a && okc a2) with
  | false => exact TQ_no Q I
  | true =>
    rw [ifNT, ifT]
    simp only [Bool.and_eq_true] at h
    obtain ⟨x, rfl, -⟩ := okc_z h.1
    obtain ⟨y, rfl, -⟩ := okc_z h.2
    refine TQ_of2 RW Q V I (fun TT' P' m' nd pth C D Q' => ?_)
    obtain ⟨rt0, hT, h26⟩ := D.2.1
    obtain ⟨v, e1, e2⟩ := loc_z RW Q' V C D x y [] (show 0 ≤ 145 by decide) (by decide) FU FU none rt0 (by decide) (by decide) (Or.inl ⟨rfl, rfl⟩) hT.2.2.2
    refine ⟨v, fun _ _ _ => ?_, ?_⟩
    · unfold fX6_leafAt
      rw [qn_s, C.1, show fX6_leafAt_b8 TT' w FU (zI x) (zI y) (zI (cc (tT p) [])) 0 = some v from e1, qb1_s]
    · rw [qn_s, h26]
      exact e2
end S
