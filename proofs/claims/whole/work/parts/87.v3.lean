/-! QUERIES OF THE TREE: nodes and pieces by their numbers -/
section S
variable {T : Tr} {p pb : Pln} {m m' w t b TT L P : Pk} {nd : Nat → Nd} {pth : Nat → List Bool} {i : Nat} {π : List Bool} {q : Pc}
theorem pcl_at (G : GT T) (π : List Bool) : ∀ (σ : List Bool) (j : Nat) (q : Pc), Ls T (σ ++ π) ≠ [] → (onl T (σ ++ π))[j]? = some q → (pcl T π)[pnum T (σ ++ π) - pnum T π + j]? = some q := by
  refine tr_ind (P := fun π => ∀ (σ : List Bool) (j : Nat) (q : Pc), Ls T (σ ++ π) ≠ [] → (onl T (σ ++ π))[j]? = some q → (pcl T π)[pnum T (σ ++ π) - pnum T π + j]? = some q) G ?_ ?_ π
  · intro π h σ j q hσ
    exact absurd (Ls_below h σ) hσ
  · intro π h i1 i2 σ j q hσ hj
    have pt : pnum T (true :: π) = pnum T π + (onl T π).length := rfl
    have pf : pnum T (false :: π) = pnum T π + (onl T π).length + nP T (true :: π) := rfl
    rw [pcl_node G h]
    rcases snoc σ with e | ⟨τ, x, e⟩
    · subst e
      have hj : (onl T π)[j]? = some q := hj
      rw [List.nil_append, Nat.sub_self, Nat.zero_add, List.getElem?_append, if_pos (get_lt hj)]
      exact hj
    · subst e
      rw [List.append_assoc] at hσ hj ⊢
      cases x with
      | true =>
        have hσ : Ls T (τ ++ true :: π) ≠ [] := hσ
        have hj : (onl T (τ ++ true :: π))[j]? = some q := hj
        show (onl T π ++ (pcl T (true :: π) ++ pcl T (false :: π)))[pnum T (τ ++ true :: π) - pnum T π + j]? = some q
        obtain ⟨-, -, q3, q4⟩ := num_bd G (π := true :: π) τ hσ
        have := i1 τ j q hσ hj
        have gl := get_lt this
        rw [List.getElem?_append, if_neg (by omega), List.getElem?_append, if_pos (by omega)]
        rw [show pnum T (τ ++ true :: π) - pnum T π + j - (onl T π).length = pnum T (τ ++ true :: π) - pnum T (true :: π) + j by omega]
        exact this
      | false =>
        have hσ : Ls T (τ ++ false :: π) ≠ [] := hσ
        have hj : (onl T (τ ++ false :: π))[j]? = some q := hj
        show (onl T π ++ (pcl T (true :: π) ++ pcl T (false :: π)))[pnum T (τ ++ false :: π) - pnum T π + j]? = some q
        obtain ⟨-, -, q3, q4⟩ := num_bd G (π := false :: π) τ hσ
        have := i2 τ j q hσ hj
        have l1 := pcl_len G (true :: π)
        rw [List.getElem?_append, if_neg (by omega), List.getElem?_append, if_neg (by omega)]
        rw [show pnum T (τ ++ false :: π) - pnum T π + j - (onl T π).length - (pcl T (true :: π)).length = pnum T (τ ++ false :: π) - pnum T (false :: π) + j by omega]
        exact this
/-- a node by its number, on both sides -/
theorem node_at (G : GT T) (C : CTree T t P) (D : MT T m nd pth) (hi : i < nN T []) : ∃ π k, Ls T π ≠ [] ∧ num T π = i ∧ k < nN T [] ∧ pth k = π ∧ CN T t π ∧ NK T pth nd m k ∧ m.1 38 i = zI (k : Int) ∧ m.1 20 k = zI (sw T π : Int) ∧ cdx (Xo T) pth (nN T []) (true :: π) (nd k).2.1 ∧ cdx (Xo T) pth (nN T []) (false :: π) (nd k).2.2.1 ∧ m.1 21 k = zI (nd k).2.1 ∧ m.1 22 k = zI (nd k).2.2.1 := by
  obtain ⟨a, e⟩ := pa_ex G hi
  obtain ⟨H, ⟨rt0, hT, h26⟩, hN, -⟩ := D
  obtain ⟨k, hk, pk⟩ := hT.2.2.1 (pa T 12 [] i) (by rw [Xo_node a]; intro h; cases h)
  obtain ⟨x1, x2, x3⟩ := hT.2.1 k hk
  obtain ⟨y1, y2, y3, -⟩ := H.2.2.2.2 k hk
  have nk := hN k hk
  rw [pk, Xo_node a] at x1
  rw [pk] at x2 x3
  have w1 : (nd k).1 = sw T (pa T 12 [] i) := by injection x1 with x1; injection x1 with u v; exact u.symm
  refine ⟨_, k, a, e, hk, pk, C.2.2.1 _ a, nk, ?_, by rw [y1, w1], x2, x3, y2, y3⟩
  have := nk.1
  rw [pk, e] at this
  exact this
/-- a piece by its number, on both sides -/
theorem piece_at (G : GT T) (C : CTree T t P) (D : MT T m nd pth) (hi : i < nP T []) : ∃ (π : List Bool) (k j c : Nat) (q : Pc), Ls T π ≠ [] ∧ pnum T π + j = i ∧ j < (onl T π).length ∧ k < nN T [] ∧ pth k = π ∧ CN T t π ∧ NK T pth nd m k ∧ (pcl T [])[i]? = some q ∧ vpc T.1 q ∧ c < 160 ∧ m.1 41 i = zI (c : Int) ∧ m.1 42 c = zI (i : Int) ∧ m.1 27 c = zI (q.1 : Int) ∧ m.1 28 c = zI (k : Int) ∧ m.1 29 (4 * c) = zI q.2.1 ∧ m.1 29 (4 * c + 1) = zI q.2.2.1 ∧ m.1 29 (4 * c + 2) = zI q.2.2.2.1 ∧ m.1 29 (4 * c + 3) = zI q.2.2.2.2 := by
  obtain ⟨σ, j, a, hj, e⟩ := pnum_ex G [] i hi
  rw [List.append_nil] at a hj e
  have e : pnum T σ + j = i := by rw [e]; exact Nat.zero_add _
  obtain ⟨H, ⟨rt0, hT, h26⟩, hN, -⟩ := D
  obtain ⟨k, hk, pk⟩ := hT.2.2.1 σ (by rw [Xo_node a]; intro h; cases h)
  obtain ⟨x1, -, -⟩ := hT.2.1 k hk
  obtain ⟨-, -, -, -, -, y6⟩ := H.2.2.2.2 k hk
  rw [pk, Xo_node a] at x1
  have o1 : (nd k).2.2.2.map (fun a => a.2) = onl T σ := by injection x1 with x1; injection x1 with u v; exact v.symm
  have hl : j < (nd k).2.2.2.length := by rw [← List.length_map (f := fun a : Nat × Pc => a.2), o1]; exact hj
  obtain ⟨⟨c, q⟩, hc⟩ : ∃ y, (nd k).2.2.2[j]? = some y := ⟨_, List.getElem?_eq_getElem hl⟩
  have hq : (onl T σ)[j]? = some q := by rw [← o1, List.getElem?_map, hc]; rfl
  obtain ⟨z1, z2, z3, z4, z5, z6, z7, -⟩ := y6 j c q hc
  have nk := hN k hk
  have h4 := nk.2.2.2.1 j c q hc
  rw [pk, e] at h4
  have pq := pcl_at G [] σ j q (by rw [List.append_nil]; exact a) (by rw [List.append_nil]; exact hq)
  rw [List.append_nil] at pq
  have z0 : pnum T [] = 0 := rfl
  rw [z0, Nat.sub_zero, e] at pq
  have c160 := H.2.2.2.1
  exact ⟨σ, k, j, c, q, a, e, hj, hk, pk, C.2.2.1 _ a, nk, pq, Ls_vp G σ q (onl_mem (List.mem_of_getElem? hq)), by omega, h4.1, h4.2, z2, z3, z4, z5, z6, z7⟩
def TQ (c : Option (Int32 × Pk × Pk × Pk × Pk × Pk)) (d : Option (Int32 × Pk)) (t m : Pk) (p : Pln) : Prop := ∃ v t' b' TT' L' P' m' pb', c = some (v, t', b', TT', L', P') ∧ d = some (v, m') ∧ TInv t' b' TT' L' P' m' p pb' ∧ ReM m' p ∧ trF m m' ∧ ttF t t'
theorem ttF.rf (t : Pk) : ttF t t := ⟨rfl, fun _ _ _ => rfl, rfl⟩
theorem TQ_no {v : Int32} (Q : ReM m p) (I : TInv t b TT L P m p pb) : TQ (some (v, t, b, TT, L, P)) (some (v, m)) t m p := ⟨v, t, b, TT, L, P, m, pb, rfl, rfl, I, Q, trF.rf m, ttF.rf t⟩
/-- a query of both trees, from what the trees answer -/
theorem TQ_of {f : Pk → Pk → Pk → Option Int32} {g : Pk → Option (Int32 × Pk)} (RW : ReW w p) (Q : ReM m p) (V : VP p) (I : TInv t b TT L P m p pb) (h : ∀ (TT' P' m' : Pk) (nd : Nat → Nd) (pth : Nat → List Bool), CTree (tT p) TT' P' → MT (tT p) m' nd pth → ReM m' p → ∃ v, (∀ t', f t' TT' P' = some v) ∧ g m' = some (v, m')) : TQ (qb5 (fX9_needTree w t b TT L P) (fun t' b' TT' L' P' => qb1 (f t' TT' P') (fun x => some (x, t', b', TT', L', P')))) (qb1 (fX10_tree m) g) t m p := by
  obtain ⟨t', b', TT', L', P', m', nd, pth, pb', a1, a2, a3, a4, a5, a6, a7, a8⟩ := S_needTree RW Q V I
  obtain ⟨v, h1, h2⟩ := h TT' P' m' nd pth a4 a5 a6
  rw [a1, qb5_s, a2, qb1_s, h1, qb1_s, h2]
  exact ⟨v, t', b', TT', L', P', m', pb', rfl, rfl, a3, a6, a7, a8⟩
theorem tG (V : VP p) : GT (tT p) := rtL_GT V V.2.1 V.2.2 true
theorem nN_160 (V : VP p) : nN (tT p) [] ≤ 144 ∧ nP (tT p) [] ≤ 144 := ⟨Nat.le_trans (nN_nP (tG V) []) (nP_144 (tG V)), nP_144 (tG V)⟩
theorem S_nodeCount (RW : ReW w p) (Q : ReM m p) (V : VP p) (I : TInv t b TT L P m p pb) : TQ (fX9_nodeCount w t b TT L P) (fX10_nodeCount m) t m p :=
  TQ_of (f := fun _ TT _ => fX6_nodeTotal TT) (g := fun m => some (m.2.1 25, m)) RW Q V I (fun TT' P' m' nd pth C D _ => ⟨zI (nN (tT p) [] : Int), fun _ => by unfold fX6_nodeTotal; rw [C.2.1.1], by rw [D.1.1]⟩)
theorem S_pieceCount (RW : ReW w p) (Q : ReM m p) (V : VP p) (I : TInv t b TT L P m p pb) : TQ (fX9_pieceCount w t b TT L P) (fX10_pieceCount m) t m p :=
  TQ_of (f := fun _ TT P => fX6_pieceTotal TT P) (g := fun m => some (m.2.1 31, m)) RW Q V I (fun TT' P' m' nd pth C D _ => ⟨zI (nP (tT p) [] : Int), fun _ => by unfold fX6_pieceTotal; rw [PL_size C.2.2.2, qb1_s, pcl_len (tG V)], by rw [D.1.2.1]⟩)
theorem S_buildCount (I : TInv t b TT L P m p pb) : Two (fX9_buildCount t) (fX10_buildCount m) := ⟨_, rfl, by unfold fX10_buildCount; rw [I.2.2.2.2.2.1]⟩
theorem has_in (V : VP p) (C : CTree (tT p) t P) (hi : i < nN (tT p) []) : fX6_hasNode t (zI (i : Int)) = some 1 := by
  have := nN_160 V
  unfold fX6_hasNode
  rw [if_neg (ix_nn (by omega)), C.2.1.1, if_neg (ix_a hi (by omega)), if_neg (show ¬ (144 : Int32) ≤ zI (i : Int) from ix_a (n := 144) (by omega) (by decide))]
theorem has_out (C : CTree (tT p) t P) {a : Int32} (h : a < 0 ∨ zI (nN (tT p) [] : Int) ≤ a) : fX6_hasNode t a = some 0 := by
  unfold fX6_hasNode
  by_cases c : a < 0
  · rw [if_pos c]
  · rcases h with h | h
    · exact absurd h c
    · rw [if_neg c, C.2.1.1, if_pos h]
theorem S_nodeWall (RW : ReW w p) (Q : ReM m p) (V : VP p) (I : TInv t b TT L P m p pb) (a : Int32) : TQ (fX9_nodeWall w t b TT L P a) (fX10_nodeWall m a) t m p := by
  have key := TQ_of (f := fun _ TT _ => qb1 (fX6_hasNode TT a) (fun x9 => if x9 = 0 then some (-7) else fX6_wallOfNode TT a)) (g := fun p1_t => if a < 0 then (some ((-7), p1_t)) else (if a < (p1_t.2.1 25) then (qld 160 (p1_t.1 38) a (fun x30 => qld 160 (p1_t.1 20) x30 (fun x31 => some (x31, p1_t)))) else (some ((-7), p1_t)))) RW Q V I (fun TT' P' m' nd pth C D _ => by
    have n1 := nN_160 V
    rcases idx_split (nN (tT p) []) (by omega) a with h | h | ⟨j, hj, e⟩
    · exact ⟨-7, fun _ => by rw [has_out C (Or.inl h), qb1_s, if_pos rfl], by rw [if_pos h]⟩
    · refine ⟨-7, fun _ => by rw [has_out C (Or.inr h), qb1_s, if_pos rfl], ?_⟩
      by_cases c : a < 0
      · rw [if_pos c]
      · rw [if_neg c, D.1.1, if_neg (nlt.mpr h)]
    · subst e
      obtain ⟨π, k, a1, a2, a3, a4, a5, a6, a7, a8, -⟩ := node_at (tG V) C D hj
      refine ⟨zI (sw (tT p) π : Int), fun _ => ?_, ?_⟩
      · unfold fX6_wallOfNode
        rw [has_in V C hj, qb1_s, qb1_s, if_neg (by decide), if_neg (by decide), qld_at (by omega) (by decide), ← a2, a5.1]
      · rw [if_neg (ix_nn (by omega)), D.1.1, if_pos (ix_b hj (by omega)), qld_at (by omega) (by decide), a7, qld_at (by omega) (by decide), a8])
  unfold fX9_nodeWall fX10_nodeWall
  refine (congrArg (fun z => TQ z _ t m p) ?_).mp key
  congr 1
  funext p1_t p1_b p1_T p1_L p1_P
  cases fX6_hasNode p1_T a with
  | none => rfl
  | some x =>
    rw [qb1_s, qb1_s]
    by_cases c : x = 0
    · rw [if_pos c, if_pos c]; rfl
    · rw [if_neg c, if_neg c]
end S
