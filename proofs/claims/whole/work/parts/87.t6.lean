/-! THE CLASS'S TREE: a subtree made -/
section S
variable {T : Tr} {π : List Bool} {w L P t : Pk} {ps l : List Pc}
def pcl (T : Tr) : List Bool → List Pc := FO T (fun _ => []) (fun π a b => onl T π ++ (a ++ b))
theorem pcl_leaf (h : Ls T π = []) : pcl T π = [] := FO_leaf h
theorem pcl_node (G : GT T) (h : Ls T π ≠ []) : pcl T π = onl T π ++ (pcl T (true :: π) ++ pcl T (false :: π)) := FO_node G h
theorem pcl_len (G : GT T) (π : List Bool) : (pcl T π).length = nP T π := by
  refine tr_ind (P := fun π => (pcl T π).length = nP T π) G ?_ ?_ π
  · intro π h; rw [pcl_leaf h, nP_leaf h]; rfl
  · intro π h i1 i2
    rw [pcl_node G h, nP_node G h, List.length_append, List.length_append, i1, i2]
    omega
/-- the class's code of a subtree -/
def cc (T : Tr) (π : List Bool) : Int := if (Ls T π).isEmpty then -((lnum T π : Nat) : Int) - 1 else (num T π : Int)
theorem cc_leaf (h : Ls T π = []) : cc T π = -((lnum T π : Nat) : Int) - 1 := by unfold cc; rw [h]; rfl
theorem cc_node (h : Ls T π ≠ []) : cc T π = (num T π : Int) := by unfold cc; rw [if_neg (by rw [List.isEmpty_iff]; exact h)]
def CN (T : Tr) (t : Pk) (π : List Bool) : Prop := t.1 4 (num T π) = zI (sw T π : Int) ∧ t.1 5 (num T π) = zI (cc T (true :: π)) ∧ t.1 6 (num T π) = zI (cc T (false :: π)) ∧ t.1 7 (num T π) = zI (π.length : Int) ∧ t.1 8 (num T π) = zI (pnum T π : Int) ∧ t.1 9 (num T π) = zI ((onl T π).length : Int) ∧ ∀ j, j < (onl T π).length → t.1 3 (pnum T π + j) = zI (num T π : Int)
def TS (T : Tr) (t : Pk) (a b : Nat) (s : Int) (d : Nat) : Prop := t.2.1 11 = zI (a : Int) ∧ t.2.1 12 = zI (b : Int) ∧ t.2.1 13 = zI s ∧ t.2.1 14 = zI (d : Int) ∧ t.2.1 15 = zI T.2.1 ∧ t.2.1 16 = zI T.2.2.1
/-- what making a subtree leaves: what is numbered lower -/
def tF (t t' : Pk) (a b : Nat) : Prop := (∀ k j, 4 ≤ k → k ≤ 9 → j < a → t'.1 k j = t.1 k j) ∧ (∀ j, j < b → t'.1 3 j = t.1 3 j)
theorem tF.tr {t1 t2 t3 : Pk} {a b a' b' : Nat} (h : tF t1 t2 a b) (g : tF t2 t3 a' b') (ha : a ≤ a') (hb : b ≤ b') : tF t1 t3 a b := ⟨fun k j h4 h9 hj => (g.1 k j h4 h9 (by omega)).trans (h.1 k j h4 h9 hj), fun j hj => (g.2 j (by omega)).trans (h.2 j hj)⟩
theorem CN.F {t t' : Pk} {a b : Nat} (h : CN T t π) (g : tF t t' a b) (ha : num T π < a) (hb : pnum T π + (onl T π).length ≤ b) : CN T t' π := by
  obtain ⟨h1, h2, h3, h4, h5, h6, h7⟩ := h
  refine ⟨by rw [g.1 4 _ (by decide) (by decide) ha]; exact h1, by rw [g.1 5 _ (by decide) (by decide) ha]; exact h2, by rw [g.1 6 _ (by decide) (by decide) ha]; exact h3, by rw [g.1 7 _ (by decide) (by decide) ha]; exact h4, by rw [g.1 8 _ (by decide) (by decide) ha]; exact h5, by rw [g.1 9 _ (by decide) (by decide) ha]; exact h6, fun j hj => ?_⟩
  rw [g.2 _ (by omega)]; exact h7 j hj
theorem CN.cg {t t' : Pk} (h : CN T t π) (g : ∀ k, 4 ≤ k → k ≤ 9 → t'.1 k (num T π) = t.1 k (num T π)) (g3 : ∀ j, j < (onl T π).length → t'.1 3 (pnum T π + j) = t.1 3 (pnum T π + j)) : CN T t' π := by
  obtain ⟨h1, h2, h3, h4, h5, h6, h7⟩ := h
  exact ⟨by rw [g 4 (by decide) (by decide)]; exact h1, by rw [g 5 (by decide) (by decide)]; exact h2, by rw [g 6 (by decide) (by decide)]; exact h3, by rw [g 7 (by decide) (by decide)]; exact h4, by rw [g 8 (by decide) (by decide)]; exact h5, by rw [g 9 (by decide) (by decide)]; exact h6, fun j hj => by rw [g3 j hj]; exact h7 j hj⟩
theorem snoc : ∀ σ : List Bool, σ = [] ∨ ∃ (τ : List Bool) (s : Bool), σ = τ ++ [s]
  | [] => Or.inl rfl
  | x :: σ => by
    rcases snoc σ with h | ⟨τ, s, h⟩
    · exact Or.inr ⟨[], x, by rw [h]; rfl⟩
    · exact Or.inr ⟨x :: τ, s, by rw [h]; rfl⟩
theorem onl_nP (G : GT T) (h : Ls T π ≠ []) : (onl T π).length ≤ nP T π := by rw [nP_node G h]; omega
theorem C_leaf {a b d : Nat} {s : Int} (h : TS T t a b s d) {e : Nat} (he : e ≤ 12) (hd : d ≤ 12) : ∃ t', fX6_makeLeaf t (zI (e : Int)) = some (zI (-(b : Int) - 1), t') ∧ TS T t' a (b + 1) (s + (e : Int)) (max d e) ∧ t'.1 = t.1 ∧ t'.2.1 10 = t.2.1 10 := by
  obtain ⟨h1, h2, h3, h4, h5, h6⟩ := h
  unfold fX6_makeLeaf
  simp only [qn_s]
  have e14 : ∀ x : Int32, (pkI t 13 x).2.1 14 = zI (d : Int) := fun x => by rw [pI, if_neg (by decide)]; exact h4
  have e12 : ∀ x y : Int32, (pkI (pkI t 13 x) 14 y).2.1 12 = zI (b : Int) := fun x y => by rw [pI, if_neg (by decide), pI, if_neg (by decide)]; exact h2
  rw [h3, e14, e12, ix_s, zI_add]
  have em : (if zI (d : Int) < zI (e : Int) then zI (e : Int) else zI (d : Int)) = zI ((max d e : Nat) : Int) := by
    have lt : zI (d : Int) < zI (e : Int) ↔ d < e := by rw [zI_lt (rI_n (by omega)) (rI_n (by omega))]; omega
    by_cases c : d < e
    · rw [if_pos (lt.mpr c), Nat.max_eq_right (by omega)]
    · rw [if_neg (fun g => c (lt.mp g)), Nat.max_eq_left (by omega)]
  rw [em]
  refine ⟨pkI (pkI (pkI t 13 (zI (s + (e : Int)))) 14 (zI ((max d e : Nat) : Int))) 12 (zI ((b + 1 : Nat) : Int)), ?_, ⟨?_, ?_, ?_, ?_, ?_, ?_⟩, rfl, ?_⟩
  · have e1 : (pkI (pkI (pkI t 13 (zI (s + (e : Int)))) 14 (zI ((max d e : Nat) : Int))) 12 (zI ((b + 1 : Nat) : Int))).2.1 12 = zI ((b + 1 : Nat) : Int) := by rw [pI, if_pos rfl]
    rw [e1, zI_neg, show -((b + 1 : Nat) : Int) = -(b : Int) - 1 by omega]
  · rw [pI, if_neg (by decide), pI, if_neg (by decide), pI, if_neg (by decide)]; exact h1
  · rw [pI, if_pos rfl]
  · rw [pI, if_neg (by decide), pI, if_neg (by decide), pI, if_pos rfl]
  · rw [pI, if_neg (by decide), pI, if_pos rfl]
  · rw [pI, if_neg (by decide), pI, if_neg (by decide), pI, if_neg (by decide)]; exact h5
  · rw [pI, if_neg (by decide), pI, if_neg (by decide), pI, if_neg (by decide)]; exact h6
  · rw [pI, if_neg (by decide), pI, if_neg (by decide), pI, if_neg (by decide)]
theorem PL_size {R : Nat} (h : PL L R l) : fX4_size L = some (zI (l.length : Int)) := by unfold fX4_size; rw [h.2.2.2.1]
theorem C_node_loop {R : Nat} (PP : PL P R ps) (hR : R ≤ 144) {N : Nat} {y1 y4 y6 : Int32} : ∀ (k j n : Nat) (t : Pk), j + k = ps.length → k < n → ∃ t', fX6_makeNode_b59 w L n t P y1 y4 (zI (N : Int)) y6 (zI (j : Int)) = fX6_makeNode_b94 w L t' P y1 y4 (zI (N : Int)) y6 ∧ (∀ x, t'.1 3 x = if j ≤ x ∧ x < ps.length then zI (N : Int) else t.1 3 x) ∧ (∀ r, ¬ r = 3 → t'.1 r = t.1 r) ∧ t'.2 = t.2 := by
  have hps := PP.2.1
  intro k
  induction k with
  | zero =>
    intro j n t hj hn
    obtain ⟨g, rfl⟩ : ∃ g, n = g + 1 := ⟨n - 1, by omega⟩
    show ∃ t', fX6_makeNode_b59_s (fX6_makeNode_b59 w L g) w L t P y1 y4 (zI (N : Int)) y6 (zI (j : Int)) = _ ∧ _
    unfold fX6_makeNode_b59_s
    rw [PL_size PP, qb1_s, if_pos (ix_c (by omega) (by omega))]
    exact ⟨t, rfl, fun x => by rw [if_neg (by omega)], fun _ _ => rfl, rfl⟩
  | succ k ih =>
    intro j n t hj hn
    obtain ⟨g, rfl⟩ : ∃ g, n = g + 1 := ⟨n - 1, by omega⟩
    have hb : j < 2147483648 := by omega
    show ∃ t', fX6_makeNode_b59_s (fX6_makeNode_b59 w L g) w L t P y1 y4 (zI (N : Int)) y6 (zI (j : Int)) = _ ∧ _
    unfold fX6_makeNode_b59_s
    have n144 : ¬ (144 : Int32) ≤ zI (j : Int) := ix_a (n := 144) (by omega) (by decide)
    rw [PL_size PP, qb1_s, if_neg (ix_a (by omega) (by omega)), if_neg n144, qst_at (by omega) (by decide), qn_s, qn_s, ix_s]
    obtain ⟨t', a1, a2, a3, a4⟩ := ih (j + 1) g (pkA t 3 (zI (j : Int)) (zI (N : Int))) (by omega) (by omega)
    refine ⟨t', a1, fun x => ?_, fun r hr => ?_, ?_⟩
    · rw [a2, pAt hb]
      by_cases c : j + 1 ≤ x ∧ x < ps.length
      · rw [if_pos c, if_pos (by omega)]
      · rw [if_neg c]
        by_cases d : x = j
        · rw [if_pos ⟨rfl, d⟩, if_pos (by omega)]
        · rw [if_neg (fun h => d h.2), if_neg (by omega)]
    · rw [a3 r hr, pA1 hb, if_neg hr]
    · rw [a4, pkA_at hb]
theorem C_node (G : GT T) (RW : ReW w T.1) {a b d i : Nat} {s : Int} (ht : TS T t a b s d) (ha : a < 144) (PL0 : PL L 300 l) (PP : PL P 144 ps) (hp : ps.length + (onl T π).length ≤ 144) (ne : Ls T π ≠ []) (S : Seg l i (Ls T π)) (hi : i + (Ls T π).length ≤ 300) : ∃ t' P', fX6_makeNode w L t P (zI (sw T π : Int)) (zI (i : Int)) (zI ((i + (Ls T π).length : Nat) : Int)) (zI (π.length : Int)) = some (zI (a : Int), t', P') ∧ PL P' 144 (ps ++ onl T π) ∧ TS T t' (a + 1) b s d ∧ tF t t' a ps.length ∧ t'.2.1 10 = t.2.1 10 ∧ t'.1 4 a = zI (sw T π : Int) ∧ t'.1 7 a = zI (π.length : Int) ∧ t'.1 8 a = zI (ps.length : Int) ∧ t'.1 9 a = zI ((onl T π).length : Int) ∧ ∀ j, j < (onl T π).length → t'.1 3 (ps.length + j) = zI (a : Int) := by
  obtain ⟨h1, h2, h3, h4, h5, h6⟩ := ht
  have ok := sw_ok G ne
  have hb : a < 2147483648 := by omega
  have n0 : ¬ zI (a : Int) < 0 := ix_nn hb
  have l144 : zI (a : Int) < (144 : Int32) := ix_b (n := 144) ha (by decide)
  unfold fX6_makeNode fX4_addSide
  obtain ⟨P', p1, p2⟩ := C_on_loop RW G.1 ok.1 ok.2 PL0 (Ls T π) ps P i FU PP (Nat.lt_of_le_of_lt (Ls_le G π) (by decide)) hp S (Ls_vp G π) (by omega)
  have p2 : PL P' 144 (ps ++ onl T π) := p2
  rw [h1, qn_s, if_neg n0, if_pos l144, qn_s, PL_size PP, qb1_s, p1, qb1_s, ix_s]
  obtain ⟨t1, c1, c2, c3, c4⟩ := C_node_loop (w := w) (L := L) (N := a) (y1 := zI (sw T π : Int)) (y4 := zI (π.length : Int)) (y6 := zI (ps.length : Int)) p2 (by decide) (onl T π).length ps.length FU (pkI t 11 (zI ((a + 1 : Nat) : Int))) (by rw [List.length_append]) (Nat.lt_of_le_of_lt (Nat.le_trans onl_le (Ls_le G π)) (by decide))
  rw [c1]
  unfold fX6_makeNode_b94
  rw [qst_at ha (by decide), qn_s, qst_at ha (by decide), qn_s, qst_at ha (by decide), qn_s, PL_size p2, qb1_s, qst_at ha (by decide), qn_s]
  have es : zI ((ps ++ onl T π).length : Int) - zI (ps.length : Int) = zI ((onl T π).length : Int) := by
    rw [zI_sub, List.length_append]; congr 1; omega
  rw [es]
  have i2 : ∀ k, ¬ k = 11 → (pkA (pkA (pkA (pkA t1 4 (zI (a : Int)) (zI (sw T π : Int))) 7 (zI (a : Int)) (zI (π.length : Int))) 8 (zI (a : Int)) (zI (ps.length : Int))) 9 (zI (a : Int)) (zI ((onl T π).length : Int))).2.1 k = t.2.1 k := fun k hk => by
    rw [pA2, pA2, pA2, pA2, c4, pI, if_neg hk]
  have len : (ps ++ onl T π).length = ps.length + (onl T π).length := List.length_append
  refine ⟨_, P', rfl, p2, ⟨?_, ?_, ?_, ?_, ?_, ?_⟩, ⟨fun k j g4 g9 hj => ?_, fun j hj => ?_⟩, ?_, ?_, ?_, ?_, ?_, fun j hj => ?_⟩
  · rw [pA2, pA2, pA2, pA2, c4, pI, if_pos rfl]
  · rw [i2 12 (by decide)]; exact h2
  · rw [i2 13 (by decide)]; exact h3
  · rw [i2 14 (by decide)]; exact h4
  · rw [i2 15 (by decide)]; exact h5
  · rw [i2 16 (by decide)]; exact h6
  · rw [pAt hb, if_neg (by omega), pAt hb, if_neg (by omega), pAt hb, if_neg (by omega), pAt hb, if_neg (by omega), c3 k (by omega)]; rfl
  · rw [pAt hb, if_neg (by omega), pAt hb, if_neg (by omega), pAt hb, if_neg (by omega), pAt hb, if_neg (by omega), c2, if_neg (by omega)]; rfl
  · exact i2 10 (by decide)
  · rw [pAt hb, if_neg (by omega), pAt hb, if_neg (by omega), pAt hb, if_neg (by omega), pAt hb, if_pos ⟨rfl, rfl⟩]
  · rw [pAt hb, if_neg (by omega), pAt hb, if_neg (by omega), pAt hb, if_pos ⟨rfl, rfl⟩]
  · rw [pAt hb, if_neg (by omega), pAt hb, if_pos ⟨rfl, rfl⟩]
  · rw [pAt hb, if_pos ⟨rfl, rfl⟩]
  · rw [pAt hb, if_neg (by omega), pAt hb, if_neg (by omega), pAt hb, if_neg (by omega), pAt hb, if_neg (by omega), c2, if_pos (by omega)]
theorem qb4_s {α γ δ ε β : Type} (x : α) (y : γ) (z : δ) (u : ε) (k : α → γ → δ → ε → Option β) : qb4 (some (x, y, z, u)) k = k x y z u := rfl
theorem lD_leaf (h : Ls T π = []) : lD T π = π.length := FO_leaf h
theorem lD_node (G : GT T) (h : Ls T π ≠ []) : lD T π = lD T (true :: π) + lD T (false :: π) := FO_node G h
theorem dD_leaf (h : Ls T π = []) : dD T π = π.length := FO_leaf h
theorem dD_node (G : GT T) (h : Ls T π ≠ []) : dD T π = max (dD T (true :: π)) (dD T (false :: π)) := FO_node G h
theorem Ls_depth (G : GT T) (h : Ls T π ≠ []) : π.length < 12 := by
  have := Ls_len G π h
  have : 0 < (Ls T π).length := List.length_pos_iff.mpr h
  omega
theorem dD_le (G : GT T) (π : List Bool) : π.length ≤ 12 → dD T π ≤ 12 := by
  refine tr_ind (P := fun π => π.length ≤ 12 → dD T π ≤ 12) G ?_ ?_ π
  · intro π h hl; rw [dD_leaf h]; exact hl
  · intro π h i1 i2 hl
    have := Ls_depth G h
    rw [dD_node G h]
    exact Nat.max_le.mpr ⟨i1 (by rw [List.length_cons]; omega), i2 (by rw [List.length_cons]; omega)⟩
def SubR (T : Tr) (π : List Bool) (c : Option (Int32 × Pk × Pk × Pk)) (t : Pk) (l ps : List Pc) (s : Int) (d : Nat) : Prop := ∃ t' L' P', c = some (zI (cc T π), t', L', P') ∧ PL L' 300 l ∧ PL P' 144 (ps ++ pcl T π) ∧ TS T t' (num T π + nN T π) (lnum T π + nL T π) (s + (lD T π : Int)) (max d (dD T π)) ∧ tF t t' (num T π) (pnum T π) ∧ t'.2.1 10 = t.2.1 10 ∧ ∀ σ, Ls T (σ ++ π) ≠ [] → CN T t' (σ ++ π)
theorem C_sub (G : GT T) (RW : ReW w T.1) (π : List Bool) : ∀ (n i d : Nat) (s : Int) (l ps : List Pc) (L P t : Pk), 12 < n + π.length → π.length ≤ 12 → d ≤ 12 → PL L 300 l → l.length ≤ 12 + 24 * π.length → Seg l i (Ls T π) → i + (Ls T π).length ≤ 300 → PL P 144 ps → ps.length = pnum T π → pnum T π + nP T π ≤ 144 → num T π + nN T π ≤ 144 → TS T t (num T π) (lnum T π) s d → SubR T π (fX6_makeSubtree n w t L P (zI (i : Int)) (zI ((i + (Ls T π).length : Nat) : Int)) (zI (π.length : Int))) t l ps s d := by
  refine tr_ind (P := fun π => ∀ (n i d : Nat) (s : Int) (l ps : List Pc) (L P t : Pk), 12 < n + π.length → π.length ≤ 12 → d ≤ 12 → PL L 300 l → l.length ≤ 12 + 24 * π.length → Seg l i (Ls T π) → i + (Ls T π).length ≤ 300 → PL P 144 ps → ps.length = pnum T π → pnum T π + nP T π ≤ 144 → num T π + nN T π ≤ 144 → TS T t (num T π) (lnum T π) s d → SubR T π (fX6_makeSubtree n w t L P (zI (i : Int)) (zI ((i + (Ls T π).length : Nat) : Int)) (zI (π.length : Int))) t l ps s d) G ?_ ?_ π
  · intro π h n i d s l ps L P t hn h12 hd PL0 hl S hi PP hps hp hN ht
    obtain ⟨g, rfl⟩ : ∃ g, n = g + 1 := ⟨n - 1, by omega⟩
    show SubR T π (fX6_makeSubtree_s (fX6_makeSubtree g) w t L P _ _ _) t l ps s d
    unfold fX6_makeSubtree_s fX6_makeSubtree_b21
    obtain ⟨t', a1, a2, a3, a4⟩ := C_leaf ht h12 hd
    rw [if_pos (ix_c (by rw [h, List.length_nil]; omega) (by omega)), a1, qb2_s]
    refine ⟨t', L, P, by rw [cc_leaf h], PL0, by rw [pcl_leaf h, List.append_nil]; exact PP, ?_, ⟨fun _ _ _ _ _ => by rw [a3], fun _ _ => by rw [a3]⟩, a4, fun σ hσ => ?_⟩
    · rw [nN_leaf h, nL_leaf h, lD_leaf h, dD_leaf h]; exact a2
    · exfalso
      apply hσ
      clear hσ
      induction σ with
      | nil => exact h
      | cons x σ ih => rw [List.cons_append, Ls_s, ih]; rfl
  · intro π h ih1 ih2 n i d s l ps L P t hn h12 hd PL0 hl S hi PP hps hp hN ht
    obtain ⟨g, rfl⟩ : ∃ g, n = g + 1 := ⟨n - 1, by omega⟩
    have dp := Ls_depth G h
    have lp : 0 < (Ls T π).length := List.length_pos_iff.mpr h
    have npos := nN_pos G h
    have eN := nN_node G h
    have eP := nP_node G h
    have eL := nL_node G h
    have ok := sw_ok G h
    show SubR T π (fX6_makeSubtree_s (fX6_makeSubtree g) w t L P _ _ _) t l ps s d
    unfold fX6_makeSubtree_s fX6_makeBranches
    have n12 : ¬ (12 : Int32) ≤ zI (π.length : Int) := ix_a (n := 12) dp (by decide)
    have l144 : zI (num T π : Int) < (144 : Int32) := ix_b (n := 144) (by omega) (by decide)
    obtain ⟨t1, P1, b1, b2', b3, b4, b5, b6, b7, b8, b9, b10⟩ := C_node G RW ht (by omega) PL0 PP (by omega) h S hi
    rw [if_neg (ix_a (by omega) (by omega)), if_neg n12, ht.1, if_pos l144, C_splitting RW G.1 PL0 ht.2.2.2.2.1 ht.2.2.2.2.2 G.2.1 G.2.2.1 h (Ls_le G π) S (Ls_vp G π) (by omega), qb1_s]
    rw [show spl T.1 T.2.1 T.2.2.1 (Ls T π) = sw T π from rfl, b1, qb3_s]
    have hn1 : fX6_hasNode t1 (zI (num T π : Int)) = some 1 := by
      unfold fX6_hasNode
      rw [if_neg (ix_nn (by omega)), b3.1, if_neg (ix_a (by omega) (by omega)), if_neg (show ¬ (144 : Int32) ≤ zI (num T π : Int) from ix_a (n := 144) (by omega) (by decide))]
    have F1 := Ls_lt h true
    have F2 := Ls_lt h false
    have L12 := Ls_le G π
    obtain ⟨L1, c1, c2⟩ := C_addSide RW G.1 ok.1 ok.2 true PL0 (Ls_le G π) (by rw [← Ls_s]; omega) S (Ls_vp G π) (by omega)
    rw [← Ls_s] at c2
    obtain ⟨L2, c3, c4⟩ := C_addSide RW G.1 ok.1 ok.2 false c2 (Ls_le G π) (by rw [← Ls_s, List.length_append]; omega) (S.app _) (Ls_vp G π) (by omega)
    rw [← Ls_s] at c4
    have e1 : (1 : Int32) = sd true := rfl
    have e2 : (2 : Int32) = sd false := rfl
    have ed : zI (π.length : Int) + 1 = zI (((true :: π).length : Nat) : Int) := by rw [ix_s]; rfl
    have ed2 : zI (((true :: π).length : Nat) : Int) = zI (((false :: π).length : Nat) : Int) := rfl
    have hz : num T π < 2147483648 := by omega
    rw [hn1, qb1_s, if_neg (by decide), qld_at (by omega) (by decide), b6, PL_size PL0, qb1_s]
    rw [show fX4_addSide_a w L (zI (i : Int)) (zI ((i + (Ls T π).length : Nat) : Int)) (zI (sw T π : Int)) 1 = some L1 from c1, qb1_s, PL_size c2, qb1_s]
    rw [show fX4_addSide_a w L1 (zI (i : Int)) (zI ((i + (Ls T π).length : Nat) : Int)) (zI (sw T π : Int)) 2 = some L2 from c3, qb1_s, PL_size c4, qb1_s, ed]
    simp only [List.length_append]
    have s1 : Seg (l ++ Ls T (true :: π) ++ Ls T (false :: π)) l.length (Ls T (true :: π)) := (Seg_end l _).app _
    have s2 : Seg (l ++ Ls T (true :: π) ++ Ls T (false :: π)) (l.length + (Ls T (true :: π)).length) (Ls T (false :: π)) := by
      have := Seg_end (l ++ Ls T (true :: π)) (Ls T (false :: π))
      rwa [List.length_append] at this
    have len1 : (l ++ Ls T (true :: π) ++ Ls T (false :: π)).length = l.length + (Ls T (true :: π)).length + (Ls T (false :: π)).length := by rw [List.length_append, List.length_append]
    obtain ⟨t2, L3, P3, r1, r2, r3, r4, r5, r6, r7⟩ := ih1 g l.length d s _ (ps ++ onl T π) L2 P1 t1 (by rw [List.length_cons]; omega) (by rw [List.length_cons]; omega) hd c4 (by rw [len1, List.length_cons]; omega) s1 (by omega) b2' (by rw [List.length_append, hps]; rfl) (by show pnum T π + (onl T π).length + _ ≤ _; omega) (by show num T π + 1 + _ ≤ _; omega) b3
    rw [r1, qb4_s, qst_at (by omega) (by decide), qn_s]
    have nt : num T (true :: π) = num T π + 1 := rfl
    have nf : num T (false :: π) = num T π + 1 + nN T (true :: π) := rfl
    have lt : lnum T (true :: π) = lnum T π := rfl
    have lf : lnum T (false :: π) = lnum T π + nL T (true :: π) := rfl
    have pt : pnum T (true :: π) = pnum T π + (onl T π).length := rfl
    have pf : pnum T (false :: π) = pnum T π + (onl T π).length + nP T (true :: π) := rfl
    have TS3 : TS T (pkA t2 5 (zI (num T π : Int)) (zI (cc T (true :: π)))) (num T (false :: π)) (lnum T (false :: π)) (s + (lD T (true :: π) : Int)) (max d (dD T (true :: π))) := r4
    have dd := dD_le G (true :: π) (by rw [List.length_cons]; omega)
    obtain ⟨t4, L4, P4, q1, q2, q3, q4, q5, q6, q7⟩ := ih2 g (l.length + (Ls T (true :: π)).length) (max d (dD T (true :: π))) (s + (lD T (true :: π) : Int)) _ (ps ++ onl T π ++ pcl T (true :: π)) L3 P3 (pkA t2 5 (zI (num T π : Int)) (zI (cc T (true :: π)))) (by rw [List.length_cons]; omega) (by rw [List.length_cons]; omega) (Nat.max_le.mpr ⟨hd, dd⟩) r2 (by rw [len1, List.length_cons]; omega) s2 (by omega) r3 (by rw [List.length_append, List.length_append, pcl_len G, hps, pf]) (by rw [pf]; omega) (by rw [nf]; omega) TS3
    rw [ed2, q1, qb4_s, qst_at (by omega) (by decide), qn_s]
    rw [List.append_assoc] at q2
    obtain ⟨L5, f1, f2⟩ := PL_shorten q2
    rw [f1, qb1_s, qb3_s]
    have f14 : tF t (pkA t2 5 (zI (num T π : Int)) (zI (cc T (true :: π)))) (num T π) (pnum T π) := by
      rw [hps] at b4
      refine tF.tr (a' := num T π) (b' := pnum T π) (b4.tr r5 (by omega) (by omega)) ⟨fun k j g4 g9 hj => ?_, fun j hj => ?_⟩ (Nat.le_refl _) (Nat.le_refl _)
      · rw [pAt hz, if_neg (by omega)]
      · rw [pAt hz, if_neg (by omega)]
    have f2' : tF (pkA t2 5 (zI (num T π : Int)) (zI (cc T (true :: π)))) (pkA t4 6 (zI (num T π : Int)) (zI (cc T (false :: π)))) (num T π) (pnum T π) := by
      refine tF.tr (b' := pnum T π) (a' := num T π) ⟨fun k j g4 g9 hj => q5.1 k j g4 g9 (by omega), fun j hj => q5.2 j (by omega)⟩ ⟨fun k j g4 g9 hj => ?_, fun j hj => ?_⟩ (Nat.le_refl _) (Nat.le_refl _)
      · rw [pAt hz, if_neg (by omega)]
      · rw [pAt hz, if_neg (by omega)]
    refine ⟨_, L5, P4, by rw [cc_node h], f2, ?_, ?_, f14.tr f2' (Nat.le_refl _) (Nat.le_refl _), ?_, ?_⟩
    · rw [pcl_node G h]
      rw [List.append_assoc, List.append_assoc] at q3
      exact q3
    · rw [eN, eL, lD_node G h, dD_node G h]
      have e1 : num T π + (1 + nN T (true :: π) + nN T (false :: π)) = num T (false :: π) + nN T (false :: π) := by rw [nf]; omega
      have e2 : lnum T π + (nL T (true :: π) + nL T (false :: π)) = lnum T (false :: π) + nL T (false :: π) := by rw [lf]; omega
      have e3 : s + ((lD T (true :: π) + lD T (false :: π) : Nat) : Int) = s + (lD T (true :: π) : Int) + (lD T (false :: π) : Int) := by omega
      rw [e1, e2, e3, ← Nat.max_assoc]
      exact q4
    · rw [pA2, q6, pA2, r6]; exact b5
    · intro σ hσ
      rcases snoc σ with e | ⟨τ, x, e⟩
      · subst e
        show CN T _ π
        have old : ∀ k, 4 ≤ k → k ≤ 9 → ¬ k = 5 → ¬ k = 6 → (pkA t4 6 (zI (num T π : Int)) (zI (cc T (false :: π)))).1 k (num T π) = t1.1 k (num T π) := by
          intro k g4 g9 n5 n6
          rw [pAt hz, if_neg (by omega), q5.1 k _ g4 g9 (by omega), pAt hz, if_neg (by omega), r5.1 k _ g4 g9 (by omega)]
        refine ⟨?_, ?_, ?_, ?_, ?_, ?_, fun j hj => ?_⟩
        · rw [old 4 (by decide) (by decide) (by decide) (by decide)]; exact b6
        · rw [pAt hz, if_neg (by omega), q5.1 5 _ (by decide) (by decide) (by omega), pAt hz, if_pos ⟨rfl, rfl⟩]
        · rw [pAt hz, if_pos ⟨rfl, rfl⟩]
        · rw [old 7 (by decide) (by decide) (by decide) (by decide)]; exact b7
        · rw [old 8 (by decide) (by decide) (by decide) (by decide), b8, hps]
        · rw [old 9 (by decide) (by decide) (by decide) (by decide)]; exact b9
        · rw [pAt hz, if_neg (by omega), q5.2 _ (by omega), pAt hz, if_neg (by omega), r5.2 _ (by omega), ← hps]
          exact b10 j hj
      · subst e
        rw [List.append_assoc] at hσ ⊢
        cases x with
        | true =>
          have hσ : Ls T (τ ++ true :: π) ≠ [] := hσ
          show CN T _ (τ ++ true :: π)
          obtain ⟨m1, m2, m3, m4⟩ := num_bd G (π := true :: π) τ hσ
          have m5 := nN_pos G hσ
          have m6 := onl_nP G hσ
          refine (r7 τ hσ).cg (fun k g4 g9 => ?_) (fun j hj => ?_)
          · rw [pAt hz, if_neg (by omega), q5.1 k _ g4 g9 (by omega), pAt hz, if_neg (by omega)]
          · rw [pAt hz, if_neg (by omega), q5.2 _ (by omega), pAt hz, if_neg (by omega)]
        | false =>
          have hσ : Ls T (τ ++ false :: π) ≠ [] := hσ
          show CN T _ (τ ++ false :: π)
          obtain ⟨m1, m2, m3, m4⟩ := num_bd G (π := false :: π) τ hσ
          refine (q7 τ hσ).cg (fun k g4 g9 => ?_) (fun j hj => ?_)
          · rw [pAt hz, if_neg (by omega)]
          · rw [pAt hz, if_neg (by omega)]
/-- the class's tree stands: what its objects hold -/
def TS4 (t : Pk) (a b : Nat) (s : Int) (d : Nat) : Prop := t.2.1 11 = zI (a : Int) ∧ t.2.1 12 = zI (b : Int) ∧ t.2.1 13 = zI s ∧ t.2.1 14 = zI (d : Int) ∧ True
def CTree (T : Tr) (t P : Pk) : Prop := t.2.1 10 = zI (cc T []) ∧ TS4 t (nN T []) (nL T []) (lD T [] : Int) (dD T []) ∧ (∀ π, Ls T π ≠ [] → CN T t π) ∧ PL P 144 (pcl T [])
/-- the list at the root: the fixed walls, perhaps the movable ones behind them -/
def rtL (p : Pln) (mv : Bool) : List Pc := if mv then rootL p false ++ rootL p true else rootL p false
theorem rtL_GT {p : Pln} {S B : Int} (V : VP p) (hS : 0 ≤ S ∧ S ≤ 9) (hB : 0 ≤ B ∧ B ≤ 9) (mv : Bool) : GT (p, S, B, rtL p mv) := by
  have h2 := root_two (p := p)
  refine ⟨V, hS, hB, fun q hq => ?_, ?_⟩
  · cases mv with
    | true =>
      rcases List.mem_append.mp hq with h | h
      · exact (rootL_mem h).1
      · exact (rootL_mem h).1
    | false => exact (rootL_mem hq).1
  · cases mv with
    | true => show (rootL p false ++ rootL p true).length ≤ 12; rw [List.length_append]; exact h2
    | false => show (rootL p false).length ≤ 12; omega
/-- an object Tree, its lists and its pieces, ready to be made anew -/
def PLx (L : Pk) (R : Nat) : Prop := ∃ l, PL L R l
theorem C_make {p : Pln} {S B : Int} (RW : ReW w p) (V : VP p) (hS : 0 ≤ S ∧ S ≤ 9) (hB : 0 ≤ B ∧ B ≤ 9) (mv : Bool) (hL : PLx L 300) (hP : PLx P 144) : ∃ t' L' P', fX6_make w t L P (zI S) (zI B) (b2 mv) = some (t', L', P') ∧ CTree (p, S, B, rtL p mv) t' P' ∧ PLx L' 300 := by
  obtain ⟨l, hl⟩ := hL
  obtain ⟨ps, hp⟩ := hP
  have G := rtL_GT (p := p) V hS hB mv
  unfold fX6_make fX6_make_b66
  simp only [qn_s]
  obtain ⟨P1, p1, p2⟩ := PL_shorten (a := []) (b := ps) hp
  obtain ⟨L1, l1, l2⟩ := PL_shorten (a := []) (b := l) hl
  have h2 := root_two (p := p)
  obtain ⟨L2, l3, l4⟩ := C_addWalls RW false l2 (by show 0 + _ ≤ 300; omega)
  rw [show fX4_shorten P 0 = some P1 from p1, qb1_s, show fX4_shorten L 0 = some L1 from l1, qb1_s, show fX4_addWalls w L1 0 = some L2 from l3, qb1_s]
  have fin : ∀ L3 : Pk, PL L3 300 (rtL p mv) → ∃ t' L' P', qb1 (fX4_size L3) (fun x73 => qb4 (fX6_makeSubtree 16 w (pkI (pkI (pkI (pkI (pkI (pkI t 15 (zI S)) 16 (zI B)) 11 0) 12 0) 13 0) 14 0) L3 P1 0 x73 0) (fun x77 p77_t p77_L p77_P => some (pkI p77_t 10 x77, p77_L, p77_P))) = some (t', L', P') ∧ CTree (p, S, B, rtL p mv) t' P' ∧ PLx L' 300 := by
    intro L3 h3
    have hT : TS (p, S, B, rtL p mv) (pkI (pkI (pkI (pkI (pkI (pkI t 15 (zI S)) 16 (zI B)) 11 0) 12 0) 13 0) 14 0) 0 0 0 0 := ⟨rfl, rfl, rfl, rfl, rfl, rfl⟩
    have len := G.2.2.2.2
    have b144 := nP_144 G
    have bN := nN_nP G []
    obtain ⟨t', L', P', a1, a2, a3, a4, a5, a6, a7⟩ := C_sub G RW [] 16 0 0 0 (rtL p mv) [] L3 P1 _ (by decide) (by decide) (by decide) h3 (by show (rtL p mv).length ≤ 12 + 24 * 0; exact len) (Seg_all _) (by show 0 + (rtL p mv).length ≤ 300; have : (rtL p mv).length ≤ 12 := len; omega) p2 rfl (by show 0 + _ ≤ _; omega) (by show 0 + _ ≤ _; omega) hT
    have a1 : fX6_makeSubtree 16 w (pkI (pkI (pkI (pkI (pkI (pkI t 15 (zI S)) 16 (zI B)) 11 0) 12 0) 13 0) 14 0) L3 P1 0 (zI ((rtL p mv).length : Int)) 0 = some (zI (cc (p, S, B, rtL p mv) []), t', L', P') := by
      rw [← a1]
      show _ = fX6_makeSubtree 16 w _ L3 P1 0 (zI ((0 + (rtL p mv).length : Nat) : Int)) 0
      rw [Nat.zero_add]
    rw [PL_size h3, qb1_s, a1, qb4_s]
    have z1 : 0 + nN (p, S, B, rtL p mv) [] = nN (p, S, B, rtL p mv) [] := Nat.zero_add _
    have z2 : 0 + nL (p, S, B, rtL p mv) [] = nL (p, S, B, rtL p mv) [] := Nat.zero_add _
    have z3 : (0 : Int) + (lD (p, S, B, rtL p mv) [] : Int) = (lD (p, S, B, rtL p mv) [] : Int) := Int.zero_add _
    have z4 : max 0 (dD (p, S, B, rtL p mv) []) = dD (p, S, B, rtL p mv) [] := Nat.zero_max _
    obtain ⟨c1, c2, c3, c4, c5, c6⟩ := a4
    refine ⟨_, L', P', rfl, ⟨?_, ⟨?_, ?_, ?_, ?_, trivial⟩, fun π hπ => ?_, ?_⟩, ⟨_, a2⟩⟩
    · rw [pI, if_pos rfl]
    · rw [pI, if_neg (by decide), ← z1]; exact c1
    · rw [pI, if_neg (by decide), ← z2]; exact c2
    · rw [pI, if_neg (by decide), ← z3]; exact c3
    · rw [pI, if_neg (by decide), ← z4]; exact c4
    · have := a7 π (by rw [List.append_nil]; exact hπ)
      rw [List.append_nil] at this
      exact this
    · rw [List.nil_append] at a3; exact a3
  cases mv with
  | false =>
    rw [if_pos (by decide)]
    exact fin L2 l4
  | true =>
    obtain ⟨L3, l5, l6⟩ := C_addWalls RW true l4 (by show (rootL p false).length + _ ≤ 300; omega)
    rw [if_neg (by decide), show fX4_addWalls w L2 1 = some L3 from l5, qb1_s]
    exact fin L3 l6
end S
