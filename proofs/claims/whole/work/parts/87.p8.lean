/-! LOAD: one item, read by both sides -/
section S
variable {x m l : Pk} {tx : Nat → Int} {n q it : Nat} {pl : Pln}
def ItemR (c : Option (Int32 × Pk × Pk)) (d : Option Pk) (x m : Pk) (tx : Nat → Int) (n it : Nat) (pl : Pln) (K : Int) (mv : Bool) : Prop :=
  (∃ (V : Nat → Int) (q' : Nat) (x' m' l' : Pk), c = some (1, x', l') ∧ d = some m' ∧ (∀ j, j < 4 → 0 ≤ V j ∧ V j ≤ 63) ∧ ¬ (V 0 = V 2 ∧ V 1 = V 3) ∧ LD x' m' tx n q' ∧ ReW l' (pSet pl it true mv K (V 0) (V 1) (V 2) (V 3)) ∧ (∀ j, j < 4 → m'.1 17 (7 * it + 1 + j) = zI (V j)) ∧ (∀ j, ¬ (7 * it + 1 ≤ j ∧ j < 7 * it + 5) → m'.1 17 j = m.1 17 j) ∧ xo x x' ∧ mo m m') ∨
  (∃ (x' m' : Pk) (l' : Pk) (pl' : Pln), c = some (0, x', l') ∧ d = some m' ∧ ReW l' pl' ∧ pS pl' = pS pl ∧ pB pl' = pB pl ∧ FA x' m' (zI (it : Int)) ∧ xf x x' ∧ mo m m')
theorem mo_A (m : Pk) {j : Nat} (h : j < 2147483648) (v : Int32) : mo m (pkA m 17 (zI (j : Int)) v) := ⟨fun k hk => by rw [pA1 h, if_neg hk], fun k _ _ _ => by rw [pkA_at h], by rw [pkA_at h]⟩
theorem LD.mA (D : LD x m tx n q) {j : Nat} (h : j < 2147483648) (v : Int32) : LD x (pkA m 17 (zI (j : Int)) v) tx n q := ⟨D.1.xm (xo.rf x).f (mo_A m h v), D.2.1, by rw [pkA_at h]; exact D.2.2.1, by rw [pkA_at h]; exact D.2.2.2.1, D.2.2.2.2⟩
theorem LD.xm {x' m' : Pk} (D : LD x m tx n q) (h : xf x x') (g : mo m m') (h3 : x'.2.1 3 = zI (q : Int)) (h14 : m'.2.1 14 = zI (q : Int)) (h15 : m'.2.1 15 = 0) : LD x' m' tx n q := ⟨D.1.xm h g, h3, h14, h15, D.2.2.2.2⟩
theorem zI_inj {a b : Int} (ha : 0 ≤ a ∧ a ≤ 63) (hb : 0 ≤ b ∧ b ≤ 63) : zI a = zI b ↔ a = b := zI_eq (rI_s (by omega) (by omega)) (rI_s (by omega) (by omega))
theorem J_four (R : ReW l pl) (hit : it < 12) (K : Int) (mv : Bool) {x0 m0 : Pk} : ∀ (k i f1 f2 : Nat) (x m : Pk) (q : Nat) (V : Nat → Int), i + k = 4 → k < f1 → k < f2 → LD x m tx n q → (∀ j, j < i → x.1 1 j = zI (V j) ∧ m.1 17 (7 * it + 1 + j) = zI (V j) ∧ 0 ≤ V j ∧ V j ≤ 63) → (∀ j, ¬ (7 * it + 1 ≤ j ∧ j < 7 * it + 5) → m.1 17 j = m0.1 17 j) → xo x0 x → mo m0 m → ItemR (fX7_readItem_b86 f1 x l (zI (it : Int)) (zI K) (b2 mv) (zI (i : Int))) (fX10_readItem_b73 f2 m (zI (it : Int)) (zI ((i + 1 : Nat) : Int))) x0 m0 tx n it pl K mv := by
  intro k
  induction k with
  | zero =>
    intro i f1 f2 x m q V hi h1 h2 D H H17 hx hm
    obtain ⟨g1, rfl⟩ : ∃ g, f1 = g + 1 := ⟨f1 - 1, by omega⟩
    obtain ⟨g2, rfl⟩ : ∃ g, f2 = g + 1 := ⟨f2 - 1, by omega⟩
    have e : i = 4 := by omega
    subst e
    obtain ⟨T, d1, d2, d3, d4⟩ := id D
    obtain ⟨a0, b0, c0⟩ := H 0 (by decide)
    obtain ⟨a1, b1, c1⟩ := H 1 (by decide)
    obtain ⟨a2, b2', c2⟩ := H 2 (by decide)
    obtain ⟨a3, b3, c3⟩ := H 3 (by decide)
    show ItemR (fX7_readItem_b86_s (fX7_readItem_b86 g1) x l (zI (it : Int)) (zI K) (b2 mv) (zI ((4 : Nat) : Int))) (fX10_readItem_b73_s (fX10_readItem_b73 g2) m (zI (it : Int)) (zI ((4 + 1 : Nat) : Int))) x0 m0 tx n it pl K mv
    unfold fX7_readItem_b86_s fX10_readItem_b73_s fX10_readItem_b121 fX7_readItem_b153
    rw [if_pos (show (4 : Int32) ≤ zI ((4 : Nat) : Int) by decide), if_pos (show (4 : Int32) < zI ((4 + 1 : Nat) : Int) by decide), if_pos d3, show (7 : Int32) * zI (it : Int) + 1 = zI ((7 * it + 1 : Nat) : Int) from ix7 it 1, show (7 : Int32) * zI (it : Int) + 2 = zI ((7 * it + 2 : Nat) : Int) from ix7 it 2, show (7 : Int32) * zI (it : Int) + 3 = zI ((7 * it + 3 : Nat) : Int) from ix7 it 3, show (7 : Int32) * zI (it : Int) + 4 = zI ((7 * it + 4 : Nat) : Int) from ix7 it 4]
    rw [qld_at (by omega) (by decide), qld_at (by omega) (by decide), show m.1 17 (7 * it + 1) = zI (V 0) from b0, show m.1 17 (7 * it + 3) = zI (V 2) from b2']
    have t0 : ∀ {β : Type} (k : Int32 → Option β), qld 4 (x.1 1) 0 k = k (x.1 1 0) := fun k => qld_at (i := 0) (by decide) (by decide)
    have t1 : ∀ {β : Type} (k : Int32 → Option β), qld 4 (x.1 1) 1 k = k (x.1 1 1) := fun k => qld_at (i := 1) (by decide) (by decide)
    have t2 : ∀ {β : Type} (k : Int32 → Option β), qld 4 (x.1 1) 2 k = k (x.1 1 2) := fun k => qld_at (i := 2) (by decide) (by decide)
    have t3 : ∀ {β : Type} (k : Int32 → Option β), qld 4 (x.1 1) 3 k = k (x.1 1 3) := fun k => qld_at (i := 3) (by decide) (by decide)
    simp only [t0, t1, t2, t3, a0, a1, a2, a3]
    rw [qld_at (by omega) (by decide), qld_at (by omega) (by decide), show m.1 17 (7 * it + 2) = zI (V 1) from b1, show m.1 17 (7 * it + 4) = zI (V 3) from b3]
    simp only [zI_inj c0 c2, zI_inj c1 c3]
    have good : ¬ (V 0 = V 2 ∧ V 1 = V 3) → ItemR (qb1 (fX8_put l (zI (it : Int)) (zI (V 0)) (zI (V 1)) (zI (V 2)) (zI (V 3)) (zI K) (b2 mv)) (fun p182_o => some (1, x, p182_o))) (some m) x0 m0 tx n it pl K mv := by
      intro ne
      obtain ⟨l', p1, p2⟩ := C_put (k := K) (x := V 0) (y := V 1) (u := V 2) (v := V 3) (mv := mv) R hit
      rw [p1, qb1_s]
      refine Or.inl ⟨V, q, x, m, l', rfl, rfl, fun j hj => (H j hj).2.2, ne, D, p2, fun j hj => (H j hj).2.1, H17, hx, hm⟩
    by_cases e1 : V 0 = V 2
    · rw [if_pos e1, if_pos e1]
      by_cases e2 : V 1 = V 3
      · rw [if_pos e2, if_pos e2, d1, d2]
        obtain ⟨x', m', f1, f2, f3, f4, f5, f6, f7⟩ := J_fault (x := x) (m := m) (k := 3) (by decide) d3 (zI (q : Int) - 1) (zI (it : Int))
        rw [show (3 : Int32) = zI ((3 : Nat) : Int) from rfl, f1, f2, qb2_s, qb1_s]
        exact Or.inr ⟨x', m', l, pl, rfl, rfl, R, rfl, rfl, f3, hx.f.tr f4, hm.tr f5⟩
      · rw [if_neg e2, if_neg e2]
        exact good (fun g => e2 g.2)
    · rw [if_neg e1, if_neg e1]
      exact good (fun g => e1 g.1)
  | succ k ih =>
    intro i f1 f2 x m q V hi h1 h2 D H H17 hx hm
    obtain ⟨g1, rfl⟩ : ∃ g, f1 = g + 1 := ⟨f1 - 1, by omega⟩
    obtain ⟨g2, rfl⟩ : ∃ g, f2 = g + 1 := ⟨f2 - 1, by omega⟩
    obtain ⟨T, d1, d2, d3, d4⟩ := id D
    have h4 : i < 4 := by omega
    show ItemR (fX7_readItem_b86_s (fX7_readItem_b86 g1) x l (zI (it : Int)) (zI K) (b2 mv) (zI (i : Int))) (fX10_readItem_b73_s (fX10_readItem_b73 g2) m (zI (it : Int)) (zI ((i + 1 : Nat) : Int))) x0 m0 tx n it pl K mv
    have hc : ¬ (4 : Int32) ≤ zI (i : Int) := ix_a (n := 4) h4 (by decide)
    have hd : ¬ (4 : Int32) < zI ((i + 1 : Nat) : Int) := by
      rw [show (4 : Int32) = zI 4 from rfl, zI_lt (rI_s (by decide) (by decide)) (rI_n (by omega))]; omega
    have key : fX10_readItem_b73_s (fX10_readItem_b73 g2) m (zI (it : Int)) (zI ((i + 1 : Nat) : Int)) = qb2 (fX10_number m (if i = 3 then 59 else 44)) (fun x111 p111_t => qst 84 (zI ((7 * it + 1 + i : Nat) : Int)) (qn (pkA p111_t 17 (zI ((7 * it + 1 + i : Nat) : Int)) x111) (fun p114_t => qn (zI ((i + 1 : Nat) : Int) + 1) (fun x115 => fX10_readItem_b73 g2 p114_t (zI (it : Int)) x115)))) := by
      unfold fX10_readItem_b73_s fX10_readItem_b111
      rw [if_neg hd, if_pos d3, ix7 it (i + 1), show (7 * it + (i + 1) : Nat) = 7 * it + 1 + i by omega]
      by_cases c : i = 3
      · rw [if_pos c, if_pos (by rw [c]; decide)]
      · rw [if_neg c, if_neg (by rw [show (4 : Int32) = zI 4 from rfl, zI_eq (rI_n (by omega)) (rI_s (by decide) (by decide))]; omega)]
    rw [key]
    unfold fX7_readItem_b86_s
    rw [if_neg hc]
    have hb : 7 * it + 1 + i < 2147483648 := by omega
    rcases J_num h4 (it := zI (it : Int)) D with ⟨v, q', x', m', a1, a2, a3, a4, a5, a6, a7, a8, a9⟩ | ⟨v, x', m', a1, a2, a3, a4, a5, a6⟩
    · rw [a1, a2, qb2_s, qb2_s, if_neg (by decide), qn_s, ix_s, qst_at (by omega) (by decide), qn_s, qn_s, ix_s]
      refine ih (i + 1) g1 g2 x' (pkA m' 17 (zI ((7 * it + 1 + i : Nat) : Int)) (zI v)) q' (ug V i v) (by omega) (by omega) (by omega) (a4.mA hb _) (fun j hj => ?_) (fun j hj => ?_) (hx.tr a7) ((hm.tr a8).tr (mo_A _ hb _))
      · by_cases c : j = i
        · subst c
          rw [ug_s, pAt hb, if_pos ⟨rfl, rfl⟩]
          exact ⟨a5, rfl, a3⟩
        · rw [ug_n _ _ c, pAt hb, if_neg (fun g => c (by omega)), a6 j c, a9]
          exact H j (by omega)
      · rw [pAt hb, if_neg (fun g => by omega), a9]
        exact H17 j hj
    · obtain ⟨w1, w2, w3, w4, w5, w6⟩ := id a3
      have n15 : ¬ m'.2.1 15 = 0 := by
        rw [w5, z0, zI_eq (rI_n (by omega)) r0]; omega
      rw [a1, a2, qb2_s, qb2_s, if_pos rfl, qst_at (by omega) (by decide), qn_s, qn_s, ix_s]
      obtain ⟨g3, rfl⟩ : ∃ g, g2 = g + 1 := ⟨g2 - 1, by omega⟩
      have fin : fX10_readItem_b73 (g3 + 1) (pkA m' 17 (zI ((7 * it + 1 + i : Nat) : Int)) v) (zI (it : Int)) (zI ((i + 1 + 1 : Nat) : Int)) = some (pkA m' 17 (zI ((7 * it + 1 + i : Nat) : Int)) v) := by
        show fX10_readItem_b73_s (fX10_readItem_b73 g3) _ _ _ = _
        unfold fX10_readItem_b73_s fX10_readItem_b121
        have e15 : (pkA m' 17 (zI ((7 * it + 1 + i : Nat) : Int)) v).2.1 15 = m'.2.1 15 := by rw [pkA_at hb]
        rw [e15, if_neg n15]
        by_cases c : (4 : Int32) < zI ((i + 1 + 1 : Nat) : Int)
        · rw [if_pos c]
        · rw [if_neg c, if_neg n15]
      rw [fin]
      refine Or.inr ⟨x', _, l, pl, rfl, rfl, R, rfl, rfl, ?_, hx.f.tr a4, (hm.tr a5).tr (mo_A _ hb _)⟩
      unfold FA
      rw [pkA_at hb]
      exact a3
end S
