/-! DOUBLES: pieceLength, meanLeafDepth -/
section S
variable {T : Tr} {p pb : Pln} {m m' w t b TT L P D r : Pk} {nd : Nat → Nd} {pth : Nat → List Bool} {i k : Nat} {π : List Bool} {x y dx dy : Int} {q : Pc}
def TQ8 (c : Option (UInt64 × Pk × Pk × Pk × Pk × Pk)) (d : Option (UInt64 × Pk)) (t m : Pk) (p : Pln) : Prop := ∃ v t' b' TT' L' P' m' pb', c = some (v, t', b', TT', L', P') ∧ d = some (v, m') ∧ TInv t' b' TT' L' P' m' p pb' ∧ ReM m' p ∧ trF m m' ∧ ttF t t'
theorem TQ8_of {F : Pk → Pk → Pk → Pk → Pk → Option (UInt64 × Pk × Pk × Pk × Pk × Pk)} {g : Pk → Option (UInt64 × Pk)} (RW : ReW w p) (Q : ReM m p) (V : VP p) (I : TInv t b TT L P m p pb) (h : ∀ (TT' P' m' : Pk) (nd : Nat → Nd) (pth : Nat → List Bool), CTree (tT p) TT' P' → MT (tT p) m' nd pth → ReM m' p → ∃ v, (∀ t' b' L', F t' b' TT' L' P' = some (v, t', b', TT', L', P')) ∧ g m' = some (v, m')) : TQ8 (qb5 (fX9_needTree w t b TT L P) F) (qb1 (fX10_tree m) g) t m p := by
  obtain ⟨t', b', TT', L', P', m', nd, pth, pb', a1, a2, a3, a4, a5, a6, a7, a8⟩ := S_needTree RW Q V I
  obtain ⟨v, h1, h2⟩ := h TT' P' m' nd pth a4 a5 a6
  rw [a1, qb5_s, a2, qb1_s, h1, h2]
  exact ⟨v, t', b', TT', L', P', m', pb', rfl, rfl, a3, a6, a7, a8⟩
def qot (a b : Int32) : UInt64 := FP.ddiv (FP.i2d a) (FP.i2d b)
theorem qot_e (a b : Int32) : FP.ddiv (FP.i2d a) (FP.i2d b) = qot a b := rfl
theorem qot_F {a b : Int32} (h : ¬ b = 0) : dF 35 (qot a b) := by
  obtain ⟨s, c, q, e, h1, h2⟩ := d_i2d_ne h
  unfold qot
  exact d_ddiv (d_i2d a) e h1 h2
theorem C_quotient {a b : Int32} (h : ¬ b = 0) : fX9_quotient a b = some (qot a b) := by
  unfold fX9_quotient
  rw [if_neg h, qot_e, dF_nn (qot_F h)]
theorem S_meanLeafDepth (RW : ReW w p) (Q : ReM m p) (V : VP p) (I : TInv t b TT L P m p pb) : TQ8 (fX9_meanLeafDepth w t b TT L P) (fX10_meanLeafDepth m) t m p := by
  unfold fX9_meanLeafDepth fX10_meanLeafDepth
  refine TQ8_of RW Q V I (fun TT' P' m' nd pth C D _ => ?_)
  have n1 := nN_160 V
  have n2 := nL_nN (tG V) []
  have nz : ¬ zI (nL (tT p) [] : Int) = 0 := by rw [show (0 : Int32) = zI 0 from rfl, zI_eq (rI_n (by omega)) r0]; omega
  refine ⟨qot (zI (lD (tT p) [] : Int)) (zI (nL (tT p) [] : Int)), fun _ _ _ => ?_, ?_⟩
  · unfold fX6_leafDepthSum fX6_leafTotal
    rw [qb1_s, qb1_s, C.2.1.2.2.1, C.2.1.2.1, C_quotient nz, qb1_s]
  · rw [D.2.2.2.1, D.2.2.2.2.1, qot_e, dF_nn (qot_F nz)]
theorem M_squaredLength (Q : ReM m p) (h : i < 12) (hp : pP p i = true) : fX10_squaredLength m (zI i) = some (zI (sq p i)) := by
  unfold fX10_squaredLength
  rw [M_at3 Q h hp, qb1_s, M_at1 Q h hp, qb1_s, qn_s, M_at4 Q h hp, qb1_s, M_at2 Q h hp, qb1_s, qn_s, zI_sub, zI_sub, zI_mul, zI_mul, zI_add]
  rfl
theorem sq_pos (V : VP p) (h : i < 12) (hp : pP p i = true) : 1 ≤ sq p i := by
  obtain ⟨g1, g2, g3, g4, g5, -⟩ := V.1 i h hp
  have b := sq_bd V h hp
  refine Int.not_lt.mp (fun c => ?_)
  have z : sq p i = 0 := by omega
  unfold sq at z
  have n1 : ∀ a : Int, 0 ≤ a * a := fun a => by
    rcases Int.le_total 0 a with k | k
    · exact Int.mul_nonneg k k
    · have := Int.mul_nonneg (Int.neg_nonneg_of_nonpos k) (Int.neg_nonneg_of_nonpos k)
      rwa [Int.neg_mul_neg] at this
  have k1 := n1 (pU p i - pX p i)
  have k2 := n1 (pV p i - pY p i)
  have z1 : (pU p i - pX p i) * (pU p i - pX p i) = 0 := by omega
  have z2 : (pV p i - pY p i) * (pV p i - pY p i) = 0 := by omega
  have y1 : pU p i - pX p i = 0 := by rcases Int.mul_eq_zero.mp z1 with h | h <;> exact h
  have y2 : pV p i - pY p i = 0 := by rcases Int.mul_eq_zero.mp z2 with h | h <;> exact h
  exact g5 ⟨by omega, by omega⟩
theorem S_pieceLength (RW : ReW w p) (Q : ReM m p) (V : VP p) (I : TInv t b TT L P m p pb) (a : Int32) : TQ8 (fX9_pieceLength w t b TT L P a) (fX10_pieceLength m a) t m p := by
  unfold fX9_pieceLength fX10_pieceLength fX6_hasPiece
  refine TQ8_of RW Q V I (fun TT' P' m' nd pth C D Q' => ?_)
  have n1 := nN_160 V
  have lp := pcl_len (tG V) []
  rcases idx_split (nP (tT p) []) (by omega) a with h' | h' | ⟨j, hj, e⟩
  · exact ⟨13841813454723219456, fun _ _ _ => by rw [PL_hasnt C.2.2.2 (Or.inl h'), qb1_s, qb1_s, if_pos rfl], by rw [if_pos h']⟩
  · refine ⟨13841813454723219456, fun _ _ _ => by rw [PL_hasnt C.2.2.2 (Or.inr (by rw [lp]; exact h')), qb1_s, qb1_s, if_pos rfl], ?_⟩
    by_cases c : a < 0
    · rw [if_pos c]
    · rw [if_neg c, D.1.2.1, if_neg (nlt.mpr h')]
  · subst e
    obtain ⟨π, k, i, c, q, d1, d2, d3, d4, d5, d6, d7, d8, d9, d10, d11, d12, d13, d14, d15, d16, d17, d18⟩ := piece_at (tG V) C D hj
    obtain ⟨e0, e1, e2, e3⟩ := bound_z C.2.2.2 d8
    have vq : vpc p q := d9
    have sb := sq_bd V vq.1.1 vq.1.2
    have sp := sq_pos V vq.1.1 vq.1.2
    have c3 := vq.2.2.1
    have c4 := vq.2.2.2.1
    obtain ⟨rt, r1, r2, r3⟩ := S_root (s := (sq p q.1).toNat) (by omega) (by omega)
    rw [Int.toNat_of_nonneg sb.1] at r1 r2
    have z1 : ¬ zI q.2.2.1 = 0 := by rw [show (0 : Int32) = zI 0 from rfl, zI_eq (rI_s (by omega) (by omega)) r0]; omega
    have z2' : ¬ zI q.2.2.2.2 = 0 := by rw [show (0 : Int32) = zI 0 from rfl, zI_eq (rI_s (by omega) (by omega)) r0]; omega
    have f1 := qot_F (a := zI q.2.1) z1
    have f2 := qot_F (a := zI q.2.2.2.1) z2'
    have f3 := d_dsub f2 f1
    have f4 := d_dmul f3 r3
    have g0 : (4 : Int32) * zI (c : Int) = zI ((4 * c : Nat) : Int) := by rw [show (4 : Int32) = zI 4 from rfl, zI_mul]; congr 1
    have g1 : (4 : Int32) * zI (c : Int) + 1 = zI ((4 * c + 1 : Nat) : Int) := ix4 c 1
    have g2 : (4 : Int32) * zI (c : Int) + 2 = zI ((4 * c + 2 : Nat) : Int) := ix4 c 2
    have g3 : (4 : Int32) * zI (c : Int) + 3 = zI ((4 * c + 3 : Nat) : Int) := ix4 c 3
    refine ⟨FP.dmul (FP.dsub (qot (zI q.2.2.2.1) (zI q.2.2.2.2)) (qot (zI q.2.1) (zI q.2.2.1))) rt, fun t' b' L' => ?_, ?_⟩
    · unfold fX6_boundOfPiece fX6_wallOfPiece
      rw [PL_has C.2.2.2 (by omega), qb1_s, qb1_s, if_neg (by decide), e0, qb1_s, qb1_s, e1, qb1_s, qb1_s, C_quotient z1, qb1_s, e2, qb1_s, qb1_s, e3, qb1_s, qb1_s, C_quotient z2', qb1_s, dF_nn f3, PL_wallOf C.2.2.2 d8, qb1_s, qb1_s, W_squaredLength RW vq.1.1 vq.1.2, qb1_s, r1, qb1_s, dF_nn f4]
    · rw [if_neg (ix_nn (by omega)), D.1.2.1, if_pos (ix_b hj (by omega)), qld_at (by omega) (by decide), d11, g1, g2, g3, g0, qld_at (by omega) (by decide), qld_at (by omega) (by decide), d15, d16, qot_e, dF_nn f1, qn_s, qld_at (by omega) (by decide), qld_at (by omega) (by decide), d17, d18, qot_e, dF_nn f2, qn_s, dF_nn f3, qld_at (by omega) (by decide), d13, M_squaredLength Q' vq.1.1 vq.1.2, qb1_s, r2, qb1_s, dF_nn f4]
end S
