/-! PAINTING: paintCount, paintedPiece, both sides -/
section S
variable {T : Tr} {p pb : Pln} {m m' w t b TT L P D r : Pk} {nd : Nat → Nd} {pth : Nat → List Bool} {i k : Nat} {π : List Bool} {x y dx dy : Int} {q : Pc}
theorem C_paint_loop (RW : ReW w p) (V : VP p) (C : CTree (tT p) TT P) {l : List (Nat × Pc)} (O : DO D l x y) (hl : ∀ e, e ∈ l → (pcl (tT p) [])[e.1]? = some e.2 ∧ vpc p e.2) (hx : 0 ≤ x ∧ x ≤ 63) (hy : 0 ≤ y ∧ y ≤ 63) (h1 : -8 ≤ dx ∧ dx ≤ 8) (h2 : -8 ≤ dy ∧ dy ≤ 8) : ∀ (k g : Nat) (c a : Int) (r : Pk), 0 ≤ c → c + k = 32 → k < g → r.2.1 2 = zI x → r.2.1 3 = zI y → rOp r p x y → ∃ r', fX9_paintCount_b42 w g t b TT L P D r (zI dx) (zI dy) (zI a) (zI c) = some (zI (a + tcl p x y dx dy l c k), t, b, TT, L, P, D, r') := by
  intro k
  induction k with
  | zero =>
    intro g c a r h0 hc hg e2 e3 e4
    obtain ⟨g, rfl⟩ := Nat.exists_eq_add_of_lt hg
    have e : c = 32 := by omega
    subst e
    refine ⟨r, ?_⟩
    show fX9_paintCount_b42_s _ w t b TT L P D r (zI dx) (zI dy) (zI a) (zI 32) = _
    unfold fX9_paintCount_b42_s
    rw [if_pos (by decide)]
    exact congrArg (fun v => some (zI v, t, b, TT, L, P, D, r)) (Int.add_zero a).symm
  | succ k ih =>
    intro g c a r h0 hc hg e2 e3 e4
    obtain ⟨g, rfl⟩ := Nat.exists_eq_add_of_lt hg
    have Y := col_RY (c := c) hx hy h1 h2 ⟨h0, by omega⟩
    obtain ⟨r1, f1, f2, f3⟩ := R_aimCol e2 e3 e4 dx dy c
    obtain ⟨r2, d1, d2⟩ := C_countCov (t := t) RW V C O hl Y l FU 0 0 r1 (fun j e hj => by rw [Nat.zero_add]; exact hj) (Nat.zero_add _) (Nat.lt_of_le_of_lt O.1 (by decide)) f2
    have f2' := f2.same d2
    have f3' : rOp r2 p x y := fun i hi => by rw [d2.1]; exact f3 i hi
    obtain ⟨r3, u1⟩ := ih (k + 1 + g) (c + 1) (a + (0 + cvl p x y dx dy c l)) r2 (by omega) (by omega) (by omega) f2'.1 f2'.2.1 f3'
    refine ⟨r3, ?_⟩
    show fX9_paintCount_b42_s (fX9_paintCount_b42 w (k + 1 + g)) w t b TT L P D r (zI dx) (zI dy) (zI a) (zI c) = _
    unfold fX9_paintCount_b42_s
    have hlt : ¬ (32 : Int32) ≤ zI c := by rw [show (32 : Int32) = zI 32 from rfl, zI_le (rI_s (by omega) (by omega)) (rI_s (by omega) (by omega))]; omega
    have d1 : fX9_countCovering t w TT P D r1 = some (zI (0 + cvl p x y dx dy c l), r2) := d1
    have k1 : zI c + 1 = zI (c + 1) := by rw [show (1 : Int32) = zI 1 from rfl, zI_add]
    rw [if_neg hlt, f1, qb1_s, d1, qb2_s, qn_s, qn_s, zI_add, k1, u1]
    show some (zI (a + (0 + cvl p x y dx dy c l) + tcl p x y dx dy l (c + 1) k), _) = some (zI (a + (cvl p x y dx dy c l + tcl p x y dx dy l (c + 1) k)), _)
    rw [show a + (0 + cvl p x y dx dy c l) + tcl p x y dx dy l (c + 1) k = a + (cvl p x y dx dy c l + tcl p x y dx dy l (c + 1) k) from by omega]
/-- the reference: the columns of one piece -/
theorem M_paint_col (Q0 : ReM m p) (V : VP p) {c n : Nat} (A : PcA p m c n q) {j : Nat} (hj : j < 144) (e49 : m.1 49 j = zI (c : Int)) (hx : 0 ≤ x ∧ x ≤ 63) (hy : 0 ≤ y ∧ y ≤ 63) (h1 : -8 ≤ dx ∧ dx ≤ 8) (h2 : -8 ≤ dy ∧ dy ≤ 8) (rec26 : Pk → Int32 → Int32 → Int32 → Int32 → Int32 → Int32 → Option (Int32 × Pk)) : ∀ (k g : Nat) (cl a : Int) (m1 : Pk), 0 ≤ cl → cl + k = 32 → k < g → m1.1 = m.1 → m1.2.1 = m.2.1 → ∃ m', m'.1 = m.1 ∧ m'.2.1 = m.2.1 ∧ fX10_paintCount_b38 rec26 g m1 (zI x) (zI y) (zI dx) (zI dy) (zI a) (zI (j : Int)) (zI cl) = rec26 m' (zI x) (zI y) (zI dx) (zI dy) (zI (a + cvq p x y dx dy q cl k)) (zI ((j + 1 : Nat) : Int)) := by
  intro k
  induction k with
  | zero =>
    intro g cl a m1 h0 hc hg e1 e2
    obtain ⟨g, rfl⟩ := Nat.exists_eq_add_of_lt hg
    have e : cl = 32 := by omega
    subst e
    refine ⟨m1, e1, e2, ?_⟩
    show fX10_paintCount_b38_s rec26 _ m1 _ _ _ _ (zI a) (zI (j : Int)) (zI 32) = _
    unfold fX10_paintCount_b38_s
    rw [if_pos (by decide), qn_s, show zI (j : Int) + 1 = zI ((j + 1 : Nat) : Int) from by rw [show (1 : Int32) = zI 1 from rfl, zI_add]; rfl]
    show rec26 m1 _ _ _ _ (zI a) _ = rec26 m1 _ _ _ _ (zI (a + 0)) _
    rw [Int.add_zero]
  | succ k ih =>
    intro g cl a m1 h0 hc hg e1 e2
    obtain ⟨g, rfl⟩ := Nat.exists_eq_add_of_lt hg
    have Y := col_RY (c := cl) hx hy h1 h2 ⟨h0, by omega⟩
    have Q1 : ReM m1 p := by unfold ReM; rw [e1, e2]; exact Q0
    have A1 : PcA p m1 c n q := by unfold PcA; rw [e1]; exact A
    obtain ⟨m2, c1, c2, c3⟩ := M_covers Q1 V A1 Y
    obtain ⟨m3, v1, v2, v3⟩ := ih (k + 1 + g) (cl + 1) (a + b1n (cov p q x y (colX dx dy cl) (colY dx dy cl))) m2 (by omega) (by omega) (by omega) (c2.trans e1) (c3.trans e2)
    refine ⟨m3, v1, v2, ?_⟩
    show fX10_paintCount_b38_s rec26 (fX10_paintCount_b38 rec26 (k + 1 + g)) m1 _ _ _ _ (zI a) (zI (j : Int)) (zI cl) = _
    unfold fX10_paintCount_b38_s
    have hlt : ¬ (32 : Int32) ≤ zI cl := by rw [show (32 : Int32) = zI 32 from rfl, zI_le (rI_s (by omega) (by omega)) (rI_s (by omega) (by omega))]; omega
    have k1 : zI cl + 1 = zI (cl + 1) := by rw [show (1 : Int32) = zI 1 from rfl, zI_add]
    rw [if_neg hlt, qld_at (by omega) (by decide), e1, e49, c1, qb2_s]
    unfold fX10_paintCount_b73
    simp only [qn_s]
    rw [k1]
    have e5 : a + cvq p x y dx dy q cl (k + 1) = a + b1n (cov p q x y (colX dx dy cl) (colY dx dy cl)) + cvq p x y dx dy q (cl + 1) k := by
      show a + (b1n _ + cvq p x y dx dy q (cl + 1) k) = _
      omega
    rw [e5, ← v3]
    cases hc : cov p q x y (colX dx dy cl) (colY dx dy cl) with
    | false => rw [ifF, show (0 : Int32) = zI 0 from rfl, zI_add]; rfl
    | true => rw [ifT, show (1 : Int32) = zI 1 from rfl, zI_add]; rfl
theorem M_paint_loop (Q0 : ReM m p) (V : VP p) {l : List (Nat × Pc)} (ln : l.length ≤ 144) (O : OR p m l) (hx : 0 ≤ x ∧ x ≤ 63) (hy : 0 ≤ y ∧ y ≤ 63) (h1 : -8 ≤ dx ∧ dx ≤ 8) (h2 : -8 ≤ dy ∧ dy ≤ 8) : ∀ (s : List (Nat × Pc)) (g j : Nat) (a : Int) (m1 : Pk), (∀ i e, s[i]? = some e → l[j + i]? = some e) → j + s.length = l.length → s.length < g → m1.1 = m.1 → m1.2.1 = m.2.1 → ∃ m', m'.1 = m.1 ∧ m'.2.1 = m.2.1 ∧ fX10_paintCount_b26 g m1 (zI x) (zI y) (zI dx) (zI dy) (zI a) (zI (j : Int)) = some (zI (a + tcq p x y dx dy s), m') := by
  intro s
  induction s with
  | nil =>
    intro g j a m1 hs hj hg e1 e2
    obtain ⟨g, rfl⟩ := Nat.exists_eq_add_of_lt hg
    have e : j = l.length := hj
    refine ⟨m1, e1, e2, ?_⟩
    show fX10_paintCount_b26_s _ m1 _ _ _ _ (zI a) (zI (j : Int)) = _
    unfold fX10_paintCount_b26_s
    rw [e2, O.1, e, if_pos (Int32.le_refl _)]
    exact congrArg (fun v => some (zI v, m1)) (Int.add_zero a).symm
  | cons e s ih =>
    intro g j a m1 hs hj hg e1 e2
    obtain ⟨g, rfl⟩ := Nat.exists_eq_add_of_lt hg
    have hj' : j < l.length := by rw [← hj]; exact Nat.lt_add_of_pos_right (Nat.succ_pos _)
    have he : l[j]? = some e := hs 0 e rfl
    obtain ⟨c, u1, u2⟩ := O.2 j e.1 e.2 he
    obtain ⟨m2, v1, v2, v3⟩ := M_paint_col Q0 V u2 (by omega) u1 hx hy h1 h2 (fX10_paintCount_b26 ((e :: s).length + g)) 32 FU 0 a m1 (by omega) (by omega) (by decide) e1 e2
    have g1 : (e :: s).length + g = s.length + g + 1 := by rw [List.length_cons]; omega
    obtain ⟨m3, w1, w2, w3⟩ := ih ((e :: s).length + g) (j + 1) (a + cvq p x y dx dy e.2 0 32) m2 (fun i e' hi => by
      have := hs (i + 1) e' hi
      rwa [show j + 1 + i = j + (i + 1) from by omega]) (by rw [← hj, List.length_cons]; omega) (by omega) v1 v2
    refine ⟨m3, w1, w2, ?_⟩
    show fX10_paintCount_b26_s (fX10_paintCount_b26 ((e :: s).length + g)) m1 _ _ _ _ (zI a) (zI (j : Int)) = _
    unfold fX10_paintCount_b26_s
    rw [e2, O.1, if_neg (ix_a hj' (by omega)), show (0 : Int32) = zI 0 from rfl, v3, w3]
    show some (zI (a + cvq p x y dx dy e.2 0 32 + tcq p x y dx dy s), m3) = some (zI (a + (cvq p x y dx dy e.2 0 32 + tcq p x y dx dy s)), m3)
    rw [Int.add_assoc]
theorem S_paintCount (RW : ReW w p) (Q : ReM m p) (V : VP p) (I : TInv t b TT L P m p pb) (a1 a2 a3 a4 : Int32) : TW (fX9_paintCount w t b TT L P D r a1 a2 a3 a4) (fX10_paintCount m a1 a2 a3 a4) t m p := by
  unfold fX9_paintCount fX10_paintCount
  rw [C_isBadPicture, M_isPicture, qb1_s, qb1_s]
  cases h : okpic a1 a2 a3 a4 with
  | false => exact ⟨_, t, b, TT, L, P, D, r, m, pb, rfl, rfl, I, Q, qF.rf m, ttF.rf t⟩
  | true =>
    rw [ifNT, ifT]
    obtain ⟨x, y, dx, dy, rfl, rfl, rfl, rfl, g1, g2, g3, g4⟩ := okpic_z h
    obtain ⟨t', b', TT', L', P', D', m1, nd, pth, pb', b1, b2', b3, b4, b5, b6, b7, b8, b9, b10, b11⟩ := S_drawn RW Q V I g1 g2 D
    obtain ⟨r1, e1, e2, e3, e4⟩ := R_standAt (r := r) RW V g1 g2
    obtain ⟨r2, c1⟩ := C_paint_loop (t := t') (b := b') (L := L') RW V b5 b10 (dl_pcl (tG V) []) g1 g2 g3 g4 32 FU 0 0 r1 (by omega) (by omega) (by decide) e2 e3 e4
    obtain ⟨m2, d1, d2, d3⟩ := M_paint_loop b7 V b10.1 b11 g1 g2 g3 g4 (dl (tT p) x y []) FU 0 0 m1 (fun i e hi => by rw [Nat.zero_add]; exact hi) (Nat.zero_add _) (Nat.lt_of_le_of_lt b10.1 (by decide)) rfl rfl
    rw [b1, qb5_s, b2', qb1_s, e1, qb1_s, b3, qb1_s]
    rw [tcl_tcq] at c1
    refine ⟨_, t', b', TT', L', P', D', r2, m2, pb', c1, d3, b4.keep (by rw [d1]) (fun k _ _ => by rw [d2]), ?_, b8.tr ⟨fun r _ => by rw [d1], fun k _ => by rw [d2]⟩, b9⟩
    unfold ReM; rw [d1, d2]; exact b7
end S
