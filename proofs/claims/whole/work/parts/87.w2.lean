/-! PAINTING: paintedPiece -/
section S
variable {T : Tr} {p pb : Pln} {m m' w t b TT L P D r : Pk} {nd : Nat → Nd} {pth : Nat → List Bool} {i k : Nat} {π : List Bool} {x y dx dy : Int} {q : Pc}
theorem S_painted_loop (RW : ReW w p) (Q0 : ReM m p) (V : VP p) (C : CTree (tT p) TT P) {l : List (Nat × Pc)} (O : DO D l x y) (hl : ∀ e, e ∈ l → (pcl (tT p) [])[e.1]? = some e.2 ∧ vpc p e.2) (OM : OR p m l) {c : Int} (Y : RY x y (colX dx dy c) (colY dx dy c)) : ∀ (k g g' : Nat) (r m1 : Pk), k ≤ l.length → k < g → k < g' → rAim r x y (colX dx dy c) (colY dx dy c) → m1.1 = m.1 → m1.2.1 = m.2.1 → ∃ v r' m', fX9_paintedPiece_b67 w g t b TT L P D r (zI ((k : Int) - 1)) = some (v, t, b, TT, L, P, D, r') ∧ fX10_paintedPiece_b40 g' m1 (zI x) (zI y) (zI dx) (zI dy) (zI c) (zI ((k : Int) - 1)) = some (v, m') ∧ m'.1 = m.1 ∧ m'.2.1 = m.2.1 := by
  intro k
  induction k with
  | zero =>
    intro g g' r m1 hk hg hg' A e1 e2
    obtain ⟨g, rfl⟩ := Nat.exists_eq_add_of_lt hg
    obtain ⟨g', rfl⟩ := Nat.exists_eq_add_of_lt hg'
    refine ⟨-8, r, m1, ?_, ?_, e1, e2⟩
    · show fX9_paintedPiece_b67_s _ w t b TT L P D r (zI (((0 : Nat) : Int) - 1)) = _
      unfold fX9_paintedPiece_b67_s
      rw [if_pos (by decide)]
    · show fX10_paintedPiece_b40_s _ m1 _ _ _ _ _ (zI (((0 : Nat) : Int) - 1)) = _
      unfold fX10_paintedPiece_b40_s
      rw [if_pos (by decide)]
  | succ k ih =>
    intro g g' r m1 hk hg hg' A e1 e2
    obtain ⟨g, rfl⟩ := Nat.exists_eq_add_of_lt hg
    obtain ⟨g', rfl⟩ := Nat.exists_eq_add_of_lt hg'
    have ln := O.1
    obtain ⟨⟨n, q⟩, he⟩ : ∃ e, l[k]? = some e := ⟨_, List.getElem?_eq_getElem hk⟩
    obtain ⟨h1, h2⟩ := hl (n, q) (List.mem_of_getElem? he)
    obtain ⟨cc, u1, u2⟩ := OM.2 k n q he
    have Q1 : ReM m1 p := by unfold ReM; rw [e1, e2]; exact Q0
    have A1 : PcA p m1 cc n q := by unfold PcA; rw [e1]; exact u2
    obtain ⟨r1, c1, c2⟩ := C_covers (t := t) RW V C A Y h1 h2
    obtain ⟨m2, d1, d2, d3⟩ := M_covers Q1 V A1 Y
    have kk : ((k + 1 : Nat) : Int) - 1 = (k : Int) := by omega
    have km : zI (k : Int) + (-1) = zI ((k : Int) - 1) := by rw [zm1, zI_add]; rfl
    have K1 := W_kindOf RW h2.1.1 h2.1.2
    have K2 := M_at5 Q1 h2.1.1 h2.1.2
    have wo : fX6_wallOfPiece TT P (zI (n : Int)) = some (zI (q.1 : Int)) := by
      unfold fX6_wallOfPiece
      rw [PL_wallOf C.2.2.2 h1, qb1_s]
    have kr := (V.1 q.1 h2.1.1 h2.1.2).2.2.2.2.2
    rw [kk]
    have nk : ¬ zI (k : Int) < 0 := ix_nn (by omega)
    have skC : ∀ r', fX9_paintedPiece_b115 (fX9_paintedPiece_b67 w (k + 1 + g)) w t b TT L P D r' (zI (k : Int)) = fX9_paintedPiece_b67 w (k + 1 + g) t b TT L P D r' (zI ((k : Int) - 1)) := fun r' => by
      unfold fX9_paintedPiece_b115
      rw [qn_s, km]
    have skM : ∀ m', fX10_paintedPiece_b94 (fX10_paintedPiece_b40 (k + 1 + g')) m' (zI x) (zI y) (zI dx) (zI dy) (zI c) (zI (k : Int)) = fX10_paintedPiece_b40 (k + 1 + g') m' (zI x) (zI y) (zI dx) (zI dy) (zI c) (zI ((k : Int) - 1)) := fun m' => by
      unfold fX10_paintedPiece_b94
      rw [qn_s, km]
    show ∃ v r' m', fX9_paintedPiece_b67_s (fX9_paintedPiece_b67 w (k + 1 + g)) w t b TT L P D r (zI (k : Int)) = some (v, t, b, TT, L, P, D, r') ∧ fX10_paintedPiece_b40_s (fX10_paintedPiece_b40 (k + 1 + g')) m1 (zI x) (zI y) (zI dx) (zI dy) (zI c) (zI (k : Int)) = some (v, m') ∧ m'.1 = m.1 ∧ m'.2.1 = m.2.1
    unfold fX9_paintedPiece_b67_s fX10_paintedPiece_b40_s
    rw [if_neg nk, if_neg nk, pieceAt_z O he, qb1_s, wo, qb1_s, K1, qb1_s, qld_at (by omega) (by decide), e1, u1, qld_at u2.1 (by decide), u2.2.2.2.1, K2, qb1_s]
    by_cases kg : pK p q.1 = 1
    · have kz : zI (pK p q.1) = 1 := by rw [kg]; rfl
      rw [if_pos kz, if_pos kz, skC, skM]
      exact ih (k + 1 + g) (k + 1 + g') r m1 (by omega) (by omega) (by omega) A e1 e2
    · have kz : ¬ zI (pK p q.1) = 1 := by
        rw [show (1 : Int32) = zI 1 from rfl, zI_eq (rI_s (by omega) (by omega)) (rI_s (by omega) (by omega))]
        exact kg
      rw [if_neg kz, if_neg kz, c1, qb2_s, d1, qb2_s]
      cases hc : cov p q x y (colX dx dy c) (colY dx dy c) with
      | false =>
        rw [ifF, ifF, skC, skM]
        exact ih (k + 1 + g) (k + 1 + g') r1 m2 (by omega) (by omega) (by omega) (A.same c2) (d2.trans e1) (d3.trans e2)
      | true =>
        rw [ifT, ifT, qld_at u2.1 (by decide), d2, e1, u2.2.2.1]
        exact ⟨_, r1, m2, rfl, rfl, d2.trans e1, d3.trans e2⟩
theorem S_paintedPiece (RW : ReW w p) (Q : ReM m p) (V : VP p) (I : TInv t b TT L P m p pb) (a1 a2 a3 a4 a5 : Int32) : TW (fX9_paintedPiece w t b TT L P D r a1 a2 a3 a4 a5) (fX10_paintedPiece m a1 a2 a3 a4 a5) t m p := by
  unfold fX9_paintedPiece fX10_paintedPiece
  rw [C_isBadPicture, M_isPicture, qb1_s, qb1_s]
  cases h : okpic a1 a2 a3 a4 with
  | false => exact ⟨_, t, b, TT, L, P, D, r, m, pb, rfl, rfl, I, Q, qF.rf m, ttF.rf t⟩
  | true =>
    rw [ifNT, ifT, C_isBadColumn, qb1_s]
    obtain ⟨x, y, dx, dy, rfl, rfl, rfl, rfl, g1, g2, g3, g4⟩ := okpic_z h
    cases h2 : okk a5 with
    | false =>
      rw [if_neg (by decide)]
      refine ⟨_, t, b, TT, L, P, D, r, m, pb, rfl, ?_, I, Q, qF.rf m, ttF.rf t⟩
      rcases nok h2 with c | c
      · rw [if_pos c]
      · rw [if_neg (by grind), if_neg (by grind)]
    | true =>
      rw [ifNT]
      have hk : 0 ≤ a5 ∧ a5 ≤ 31 := by unfold okk at h2; simpa using h2
      rw [if_neg (by grind), if_pos hk.2]
      obtain ⟨c, rfl, g5⟩ := okk_z h2
      have Y := col_RY (c := c) g1 g2 g3 g4 g5
      obtain ⟨t', b', TT', L', P', D', m1, nd, pth, pb', b1, b2', b3, b4, b5, b6, b7, b8, b9, b10, b11⟩ := S_drawn RW Q V I g1 g2 D
      obtain ⟨r1, e1, e2, e3, e4⟩ := R_standAt (r := r) RW V g1 g2
      obtain ⟨r2, f1, f2, f3⟩ := R_aimCol e2 e3 e4 dx dy c
      obtain ⟨v, r3, m2, k1, k2, k3, k4⟩ := S_painted_loop (t := t') (b := b') (L := L') RW b7 V b5 b10 (dl_pcl (tG V) []) b11 Y (dl (tT p) x y []).length FU FU r2 m1 (Nat.le_refl _) (Nat.lt_of_le_of_lt b10.1 (by decide)) (Nat.lt_of_le_of_lt b10.1 (by decide)) f2 rfl rfl
      have sz : zI ((dl (tT p) x y []).length : Int) - 1 = zI (((dl (tT p) x y []).length : Int) - 1) := by rw [show (1 : Int32) = zI 1 from rfl, zI_sub]
      unfold fX0_size
      rw [b1, qb5_s, b2', qb1_s, e1, qb1_s, f1, qb1_s, qb1_s, b10.2.1, qn_s, b3, qb1_s, b11.1, qn_s, sz]
      refine ⟨v, t', b', TT', L', P', D', r3, m2, pb', k1, k2, b4.keep (by rw [k3]) (fun k _ _ => by rw [k4]), ?_, b8.tr ⟨fun r _ => by rw [k3], fun k _ => by rw [k4]⟩, b9⟩
      unfold ReM; rw [k3, k4]; exact b7
end S
