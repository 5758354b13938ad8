/-! DRAWING: drawCount, drawPiece; what a piece covers -/
section S
variable {T : Tr} {p pb : Pln} {m m' w t b TT L P D r : Pk} {nd : Nat → Nd} {pth : Nat → List Bool} {i k : Nat} {π : List Bool} {x y dx dy : Int} {q : Pc}
/-- what a query leaves of the reference -/
def qF (m m' : Pk) : Prop := (∀ r, r = 0 ∨ r = 3 ∨ r = 5 ∨ r = 65 → m'.1 r = m.1 r) ∧ ∀ k, k = 1 ∨ k = 2 ∨ k = 4 ∨ k = 6 ∨ k = 7 ∨ k = 8 ∨ k = 9 → m'.2.1 k = m.2.1 k
theorem qF.rf (m : Pk) : qF m m := ⟨fun _ _ => rfl, fun _ _ => rfl⟩
theorem qF.tr {a b c : Pk} (h : qF a b) (g : qF b c) : qF a c := ⟨fun r hr => (g.1 r hr).trans (h.1 r hr), fun k hk => (g.2 k hk).trans (h.2 k hk)⟩
theorem trF.qf (h : trF m m') : qF m m' := ⟨fun r hr => h.1 r (by omega) (by omega), fun k hk => h.2.1 k (by omega) (by omega) (by omega)⟩
theorem drF.qf (h : drF m m') : qF m m' := ⟨fun r hr => h.1 r (by omega) (by omega), fun k hk => h.2.1 k (by omega)⟩
theorem mSame.qf (h : mSame m m') : qF m m' := ⟨fun r _ => by rw [h.1], fun k hk => h.2 k (by omega) (by omega)⟩
theorem TInv.keep (I : TInv t b TT L P m p pb) (e10 : m'.1 10 = m.1 10) (e : ∀ k, 11 ≤ k → k ≤ 13 → m'.2.1 k = m.2.1 k) : TInv t b TT L P m' p pb := ⟨I.1, I.2.1, I.2.2.1, I.2.2.2.1, I.2.2.2.2.1, I.2.2.2.2.2.1.trans (e 13 (by decide) (by decide)).symm, I.2.2.2.2.2.2.keep e10 (e 11 (by decide) (by decide)) (e 12 (by decide) (by decide))⟩
theorem idl_get : ∀ (l : List Pc) (M i : Nat) (e : Nat × Pc), (idl M l)[i]? = some e → e.1 = M + i ∧ l[i]? = some e.2
  | [], M, i, e, h => by cases h
  | q :: l, M, 0, e, h => by
    have h : some (M, q) = some e := h
    cases h; exact ⟨rfl, rfl⟩
  | q :: l, M, i + 1, e, h => by
    obtain ⟨a, b⟩ := idl_get l (M + 1) i e h
    exact ⟨by omega, b⟩
theorem dl_pcl (G : GT T) (π : List Bool) : ∀ e, e ∈ dl T x y π → (pcl T [])[e.1]? = some e.2 ∧ vpc T.1 e.2 := by
  refine tr_ind (P := fun π => ∀ e, e ∈ dl T x y π → (pcl T [])[e.1]? = some e.2 ∧ vpc T.1 e.2) G ?_ ?_ π
  · intro π h e he
    rw [dl_leaf h] at he
    cases he
  · intro π h i1 i2 e he
    have own : e ∈ dfl T.1 x y (idl (pnum T π) (onl T π)) → (pcl T [])[e.1]? = some e.2 ∧ vpc T.1 e.2 := by
      intro h2
      obtain ⟨i, hi⟩ := List.getElem?_of_mem (List.mem_filter.mp h2).1
      obtain ⟨a, b⟩ := idl_get _ _ _ _ hi
      rw [a]
      exact ⟨pcl_seg G h i e.2 b, Ls_vp G π _ (onl_mem (List.mem_of_getElem? b))⟩
    rw [dl_node G h] at he
    split at he
    · rcases List.mem_append.mp he with h1 | h1
      · exact i1 e h1
      · rcases List.mem_append.mp h1 with h2 | h2
        · exact own h2
        · exact i2 e h2
    · rcases List.mem_append.mp he with h1 | h1
      · exact i2 e h1
      · rcases List.mem_append.mp h1 with h2 | h2
        · exact own h2
        · exact i1 e h2
def TD (c : Option (Int32 × Pk × Pk × Pk × Pk × Pk × Pk)) (d : Option (Int32 × Pk)) (t m : Pk) (p : Pln) : Prop := ∃ v t' b' TT' L' P' D' m' pb', c = some (v, t', b', TT', L', P', D') ∧ d = some (v, m') ∧ TInv t' b' TT' L' P' m' p pb' ∧ ReM m' p ∧ qF m m' ∧ ttF t t'
/-- both sides have their trees and the order -/
theorem S_drawn (RW : ReW w p) (Q : ReM m p) (V : VP p) (I : TInv t b TT L P m p pb) (hx : 0 ≤ x ∧ x ≤ 63) (hy : 0 ≤ y ∧ y ≤ 63) (D : Pk) : ∃ t' b' TT' L' P' D' m' nd pth pb', fX9_needTree w t b TT L P = some (t', b', TT', L', P') ∧ fX0_arrange w TT' P' D (zI x) (zI y) = some D' ∧ fX10_draw m (zI x) (zI y) = some m' ∧ TInv t' b' TT' L' P' m' p pb' ∧ CTree (tT p) TT' P' ∧ MT (tT p) m' nd pth ∧ ReM m' p ∧ qF m m' ∧ ttF t t' ∧ DO D' (dl (tT p) x y []) x y ∧ OR p m' (dl (tT p) x y []) := by
  obtain ⟨t', b', TT', L', P', m1, nd, pth, pb', a1, a2, a3, a4, a5, a6, a7, a8⟩ := S_needTree RW Q V I
  obtain ⟨D', c1, c2⟩ := C_arrange RW V a4 hx hy D
  obtain ⟨m2, d1, d2, d3, d4, d5⟩ := M_drawn V hx hy a5 a6
  refine ⟨t', b', TT', L', P', D', m2, nd, pth, pb', a1, c1, ?_, a3.keep (d5.1 10 (by decide) (by decide)) (fun k h1 h2 => d5.2.1 k (by omega)), a4, d2, d3, a7.qf.tr d5.qf, a8, c2, d4⟩
  unfold fX10_draw
  rw [a2, qb1_s]
  exact d1
theorem S_drawCount (RW : ReW w p) (Q : ReM m p) (V : VP p) (I : TInv t b TT L P m p pb) (a a2 : Int32) : TD (fX9_drawCount w t b TT L P D a a2) (fX10_drawCount m a a2) t m p := by
  unfold fX9_drawCount fX10_drawCount
  rw [C_isBadPoint, M_isPoint, qb1_s, qb1_s]
  cases h : (okc a && okc a2) with
  | false => exact ⟨_, t, b, TT, L, P, D, m, pb, rfl, rfl, I, Q, qF.rf m, ttF.rf t⟩
  | true =>
    rw [ifNT, ifT]
    simp only [Bool.and_eq_true] at h
    obtain ⟨x, rfl, hx⟩ := okc_z h.1
    obtain ⟨y, rfl, hy⟩ := okc_z h.2
    obtain ⟨t', b', TT', L', P', D', m', nd, pth, pb', a1, a2, a3, a4, a5, a6, a7, a8, a9, a10, a11⟩ := S_drawn RW Q V I hx hy D
    unfold fX0_size
    rw [a1, qb5_s, a2, qb1_s, qb1_s, a3, qb1_s, a10.2.1, a11.1]
    exact ⟨_, t', b', TT', L', P', D', m', pb', rfl, rfl, a4, a7, a8, a9⟩
theorem pieceAt_z {l : List (Nat × Pc)} {n : Nat} (O : DO D l x y) (h : l[i]? = some (n, q)) : fX0_pieceAt D (zI (i : Int)) = some (zI (n : Int)) := by
  have hi := get_lt h
  obtain ⟨o1, o2, o3, o4, o5⟩ := O
  unfold fX0_pieceAt
  rw [if_neg (ix_nn (by omega)), o2, if_neg (ix_a hi (by omega)), if_neg (show ¬ (144 : Int32) ≤ zI (i : Int) from ix_a (n := 144) (by omega) (by decide)), qld_at (by omega) (by decide), o5 i n q h]
theorem S_drawPiece (RW : ReW w p) (Q : ReM m p) (V : VP p) (I : TInv t b TT L P m p pb) (a a2 a3 : Int32) : TD (fX9_drawPiece w t b TT L P D a a2 a3) (fX10_drawPiece m a a2 a3) t m p := by
  unfold fX9_drawPiece fX10_drawPiece
  rw [C_isBadPoint, M_isPoint, qb1_s, qb1_s]
  cases h : (okc a && okc a2) with
  | false => exact ⟨_, t, b, TT, L, P, D, m, pb, rfl, rfl, I, Q, qF.rf m, ttF.rf t⟩
  | true =>
    rw [ifNT, ifT]
    simp only [Bool.and_eq_true] at h
    obtain ⟨x, rfl, hx⟩ := okc_z h.1
    obtain ⟨y, rfl, hy⟩ := okc_z h.2
    by_cases c : 0 ≤ a3
    · rw [if_pos c, if_pos c]
      obtain ⟨t', b', TT', L', P', D', m', nd, pth, pb', b1, b2', b3, b4, b5, b6, b7, b8, b9, b10, b11⟩ := S_drawn RW Q V I hx hy D
      unfold fX0_size
      rw [b1, qb5_s, b2', qb1_s, qb1_s, b3, qb1_s, b10.2.1, b11.1]
      have l144 := b10.1
      rcases idx_split (dl (tT p) x y []).length (by omega) a3 with h' | h' | ⟨j, hj, e⟩
      · exact absurd c (nle.mpr h')
      · rw [if_pos h', if_pos h']
        exact ⟨_, t', b', TT', L', P', D', m', pb', rfl, rfl, b4, b7, b8, b9⟩
      · subst e
        obtain ⟨⟨n, q⟩, hn⟩ : ∃ e, (dl (tT p) x y [])[j]? = some e := ⟨_, List.getElem?_eq_getElem hj⟩
        obtain ⟨c', u1, u2⟩ := b11.2 j n q hn
        rw [if_neg (ix_a hj (by omega)), if_neg (ix_a hj (by omega)), pieceAt_z b10 hn, qb1_s, qld_at (by omega) (by decide), u1, qld_at u2.1 (by decide), u2.2.2.1]
        exact ⟨_, t', b', TT', L', P', D', m', pb', rfl, rfl, b4, b7, b8, b9⟩
    · rw [if_neg c, if_neg c]
      exact ⟨_, t, b, TT, L, P, D, m, pb, rfl, rfl, I, Q, qF.rf m, ttF.rf t⟩
/-- a piece covers a column -/
def cov (p : Pln) (q : Pc) (x y dx dy : Int) : Bool := hit p q.1 x y dx dy && (decide (q.2.1 * hB p q.1 dx dy ≤ hQ p q.1 x y dx dy * q.2.2.1) && decide (hQ p q.1 x y dx dy * q.2.2.2.2 ≤ q.2.2.2.1 * hB p q.1 dx dy))
theorem cov_bd (V : VP p) (Q : vpc p q) (Y : RY x y dx dy) : rL (q.2.1 * hB p q.1 dx dy) ∧ rL (hQ p q.1 x y dx dy * q.2.2.1) ∧ rL (hQ p q.1 x y dx dy * q.2.2.2.2) ∧ rL (q.2.2.2.1 * hB p q.1 dx dy) := by
  have b1 := hB_bd V Q.1.1 Q.1.2 Y
  have b2' := hQ_bd V Q.1.1 Q.1.2 Y
  obtain ⟨c1, c2⟩ := vpc_bd Q
  have c3 := Q.2.2.1
  have c4 := Q.2.2.2.1
  have m1 := mul_bd (a := q.2.1) (b := hB p q.1 dx dy) (A := 7938) (B := 63504) (by omega) (by omega) (by omega) (by omega)
  have m2 := mul_bd (a := hQ p q.1 x y dx dy) (b := q.2.2.1) (A := 63504) (B := 7938) (by omega) (by omega) (by omega) (by omega)
  have m3 := mul_bd (a := hQ p q.1 x y dx dy) (b := q.2.2.2.2) (A := 63504) (B := 7938) (by omega) (by omega) (by omega) (by omega)
  have m4 := mul_bd (a := q.2.2.2.1) (b := hB p q.1 dx dy) (A := 7938) (B := 63504) (by omega) (by omega) (by omega) (by omega)
  unfold rL
  omega
theorem C_covers (RW : ReW w p) (V : VP p) (C : CTree (tT p) TT P) (A : rAim r x y dx dy) (Y : RY x y dx dy) {n : Nat} (h : (pcl (tT p) [])[n]? = some q) (Q : vpc p q) : ∃ r', fX9_covers t w TT P r (zI (n : Int)) = some (b2 (cov p q x y dx dy), r') ∧ rSame r r' := by
  obtain ⟨e0, e1, e2, e3⟩ := bound_z C.2.2.2 h
  obtain ⟨r', a1, a2, a3⟩ := R_hits RW V Q.1.1 A Y
  have bB := hB_bd V Q.1.1 Q.1.2 Y
  have bQ := hQ_bd V Q.1.1 Q.1.2 Y
  obtain ⟨c1, c2⟩ := vpc_bd Q
  have c3 := Q.2.2.1
  have c4 := Q.2.2.2.1
  obtain ⟨r1, r2, r3, r4⟩ := cov_bd V Q Y
  unfold fX9_covers fX6_wallOfPiece fX6_boundOfPiece
  rw [PL_wallOf C.2.2.2 h, qb1_s, qb1_s, a1, qb2_s, e0, e1, e2, e3]
  unfold cov
  cases hh : hit p q.1 x y dx dy with
  | false => exact ⟨r', rfl, a2⟩
  | true =>
    obtain ⟨u1, u2, u3⟩ := a3 hh
    rw [ifT, Bool.true_and]
    simp only [qb1_s]
    unfold fX5_hitIsAtOrAfter fX5_hitIsAtOrBefore
    rw [u2, u3, zI_long (rI_s (by omega) (by omega)), zI_long (rI_s (by omega) (by omega)), zI_long (rI_s (by omega) (by omega)), zI_long (rI_s (by omega) (by omega)), zI_long (rI_s (by omega) (by omega)), zI_long (rI_s (by omega) (by omega)), zL_mul, zL_mul, zL_mul, zL_mul]
    have g1 : lg_cmp (zL (hQ p q.1 x y dx dy * q.2.2.1)) (zL (q.2.1 * hB p q.1 dx dy)) < 0 ↔ ¬ q.2.1 * hB p q.1 dx dy ≤ hQ p q.1 x y dx dy * q.2.2.1 := by rw [cmp_lt, zL_lt r2 r1]; omega
    have g2 : 0 < lg_cmp (zL (hQ p q.1 x y dx dy * q.2.2.2.2)) (zL (q.2.2.2.1 * hB p q.1 dx dy)) ↔ ¬ hQ p q.1 x y dx dy * q.2.2.2.2 ≤ q.2.2.2.1 * hB p q.1 dx dy := by rw [cmp_gt, zL_lt r4 r3]; omega
    by_cases d1 : q.2.1 * hB p q.1 dx dy ≤ hQ p q.1 x y dx dy * q.2.2.1
    · rw [if_neg (fun g => g1.mp g d1), qb1_s, if_neg (by decide), decide_eq_true d1, Bool.true_and]
      by_cases d2 : hQ p q.1 x y dx dy * q.2.2.2.2 ≤ q.2.2.2.1 * hB p q.1 dx dy
      · rw [if_neg (fun g => g2.mp g d2), qb1_s, if_neg (by decide), decide_eq_true d2]
        exact ⟨r', rfl, a2⟩
      · rw [if_pos (g2.mpr d2), qb1_s, if_pos rfl, decide_eq_false d2]
        exact ⟨r', rfl, a2⟩
    · rw [if_pos (g1.mpr d1), qb1_s, if_pos rfl, decide_eq_false d1]
      exact ⟨r', rfl, a2⟩
theorem M_covers (Q0 : ReM m p) (V : VP p) {c n : Nat} (A : PcA p m c n q) {col : Int} (Y : RY x y (colX dx dy col) (colY dx dy col)) : ∃ m', fX10_covers m (zI (c : Int)) (zI x) (zI y) (zI dx) (zI dy) (zI col) = some (b2 (cov p q x y (colX dx dy col) (colY dx dy col)), m') ∧ m'.1 = m.1 ∧ m'.2.1 = m.2.1 := by
  obtain ⟨A1, Q, A3, A4, A5, A6, A7, A8⟩ := A
  obtain ⟨m', a1, a2, a3, -, -, a4⟩ := M_isHit Q0 V Q.1.1 Q.1.2 Y
  have bB := hB_bd V Q.1.1 Q.1.2 Y
  have bQ := hQ_bd V Q.1.1 Q.1.2 Y
  obtain ⟨c1, c2⟩ := vpc_bd Q
  have c3 := Q.2.2.1
  have c4 := Q.2.2.2.1
  obtain ⟨r1, r2, r3, r4⟩ := cov_bd V Q Y
  obtain ⟨k1, k2⟩ := M_ray (dx := dx) (dy := dy) (c := col)
  have f0 : (4 : Int32) * zI (c : Int) = zI ((4 * c : Nat) : Int) := by rw [show (4 : Int32) = zI 4 from rfl, zI_mul]; congr 1
  have f1 : (4 : Int32) * zI (c : Int) + 1 = zI ((4 * c + 1 : Nat) : Int) := ix4 c 1
  have f2 : (4 : Int32) * zI (c : Int) + 2 = zI ((4 * c + 2 : Nat) : Int) := ix4 c 2
  have f3 : (4 : Int32) * zI (c : Int) + 3 = zI ((4 * c + 3 : Nat) : Int) := ix4 c 3
  unfold fX10_covers
  rw [qld_at A1 (by decide), A4, k1, qb1_s, k2, qb1_s, a1, qb2_s]
  unfold cov
  cases hh : hit p q.1 x y (colX dx dy col) (colY dx dy col) with
  | false => exact ⟨m', rfl, a2, a3⟩
  | true =>
    obtain ⟨u1, u2, u3⟩ := a4 hh
    rw [ifT, f1, f2, f3, f0, qld_at (by omega) (by decide), qld_at (by omega) (by decide), qld_at (by omega) (by decide), qld_at (by omega) (by decide), a2, A5, A6, A7, A8, u2, u3, zI_long (rI_s (by omega) (by omega)), zI_long (rI_s (by omega) (by omega)), zI_long (rI_s (by omega) (by omega)), zI_long (rI_s (by omega) (by omega)), zL_mul, zL_mul, zL_mul, zL_mul, Bool.true_and, Int.mul_comm (hB p q.1 (colX dx dy col) (colY dx dy col)), Int.mul_comm (hB p q.1 (colX dx dy col) (colY dx dy col))]
    have g1 : lg_cmp (zL (hQ p q.1 x y (colX dx dy col) (colY dx dy col) * q.2.2.1)) (zL (q.2.1 * hB p q.1 (colX dx dy col) (colY dx dy col))) < 0 ↔ ¬ q.2.1 * hB p q.1 (colX dx dy col) (colY dx dy col) ≤ hQ p q.1 x y (colX dx dy col) (colY dx dy col) * q.2.2.1 := by rw [cmp_lt, zL_lt r2 r1]; omega
    have g2 : 0 < lg_cmp (zL (hQ p q.1 x y (colX dx dy col) (colY dx dy col) * q.2.2.2.2)) (zL (q.2.2.2.1 * hB p q.1 (colX dx dy col) (colY dx dy col))) ↔ ¬ hQ p q.1 x y (colX dx dy col) (colY dx dy col) * q.2.2.2.2 ≤ q.2.2.2.1 * hB p q.1 (colX dx dy col) (colY dx dy col) := by rw [cmp_gt, zL_lt r4 r3]; omega
    by_cases d1 : q.2.1 * hB p q.1 (colX dx dy col) (colY dx dy col) ≤ hQ p q.1 x y (colX dx dy col) (colY dx dy col) * q.2.2.1
    · rw [if_neg (fun g => g1.mp g d1), decide_eq_true d1, Bool.true_and]
      by_cases d2 : hQ p q.1 x y (colX dx dy col) (colY dx dy col) * q.2.2.2.2 ≤ q.2.2.2.1 * hB p q.1 (colX dx dy col) (colY dx dy col)
      · rw [if_neg (fun g => g2.mp g d2), decide_eq_true d2]
        exact ⟨m', rfl, a2, a3⟩
      · rw [if_pos (g2.mpr d2), decide_eq_false d2]
        exact ⟨m', rfl, a2, a3⟩
    · rw [if_pos (g1.mpr d1), decide_eq_false d1]
      exact ⟨m', rfl, a2, a3⟩
end S
