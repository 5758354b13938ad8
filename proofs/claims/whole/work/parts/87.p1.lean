/-! EDITS: moveWall -/
section S
variable {p : Pln} {t w H k0 k1 k2 k3 k4 k5 k6 k7 m : Pk} {hs : Nat → Pln} {n i : Nat}
theorem C_shift (R : ReW w p) (hi : i < 12) (hp : pP p i = true) (dx dy : Int) : ∃ w', fX8_shift w (zI (i : Int)) (zI dx) (zI dy) = some w' ∧ ReW w' (pSet p i true (pM p i) (pK p i) (pX p i + dx) (pY p i + dy) (pU p i + dx) (pV p i + dy)) := by
  have hb : i < 2147483648 := by omega
  obtain ⟨w1, w2, w3, w4, w5, w6⟩ := R.at hi hp
  unfold fX8_shift
  rw [if_neg (i12n hi), if_pos (i12b hi), qld_at hi (by decide), qst_at hi (by decide), qn_s, qld_at hi (by decide), qst_at hi (by decide), qn_s, qld_at hi (by decide), qst_at hi (by decide), qn_s, qld_at hi (by decide), qst_at hi (by decide), qn_s]
  refine ⟨_, rfl, ReW_set R (fun r j _ hj => ?_) ?_ ?_ (fun _ => ⟨?_, ?_, ?_, ?_, ?_, ?_⟩)⟩
  · simp only [pAt hb, hj, and_false, if_false]
  · rw [pk2 hb, pk2 hb, pk2 hb, pk2 hb]
  · simp (decide := true) only [pAt hb, false_and, if_false, R.pr hi, hp]
  · simp (decide := true) only [pAt hb, false_and, if_false, w1]
  · simp (decide := true) only [pAt hb, true_and, and_self, false_and, if_false, if_true, w2, zI_add]
  · simp (decide := true) only [pAt hb, true_and, and_self, false_and, if_false, if_true, w3, zI_add]
  · simp (decide := true) only [pAt hb, true_and, and_self, false_and, if_false, if_true, w4, zI_add]
  · simp (decide := true) only [pAt hb, true_and, and_self, false_and, if_false, if_true, w5, zI_add]
  · simp (decide := true) only [pAt hb, false_and, if_false, w6]
def ok63 (a : Int32) : Bool := decide (-63 ≤ a) && decide (a ≤ 63)
theorem ok63_z {a : Int32} (h : ok63 a = true) : (∃ x : Int, a = zI x ∧ -63 ≤ x ∧ x ≤ 63) ∧ ¬ a < -63 ∧ ¬ 63 < a := by
  unfold ok63 at h
  simp only [Bool.and_eq_true, decide_eq_true_eq] at h
  refine ⟨?_, nlt.mpr h.1, nlt.mpr h.2⟩
  simp only [Int32.le_iff_toInt_le] at h
  have h0 : (-63 : Int32).toInt = -63 := by decide
  have h9 : (63 : Int32).toInt = 63 := by decide
  exact ⟨a.toInt, (zI_self a).symm, by omega, by omega⟩
theorem n63 {a : Int32} (h : ok63 a = false) : a < -63 ∨ (¬ a < -63 ∧ 63 < a) := by
  unfold ok63 at h
  simp only [Bool.and_eq_false_iff, decide_eq_false_iff_not] at h
  by_cases c : a < -63
  · exact Or.inl c
  · refine Or.inr ⟨c, ?_⟩
    rcases h with h | h
    · exact absurd (nlt.mp c) h
    · exact nle.mp h
theorem okc_i {a : Int} (h : -100000 ≤ a ∧ a ≤ 100000) : okc (zI a) = true ↔ 0 ≤ a ∧ a ≤ 63 := by
  unfold okc
  simp only [Bool.and_eq_true, decide_eq_true_eq]
  rw [z0, show (63 : Int32) = zI 63 from rfl, zI_le r0 (rI_s h.1 h.2), zI_le (rI_s h.1 h.2) (rI_s (by decide) (by decide))]
theorem S_moveWall (R : ReW w p) (Q : ReM m p) (V : VP p) (h : Hi H k0 k1 k2 k3 k4 k5 k6 k7 m hs n) (a b c : Int32) : Ed (fX9_moveWall t w H k0 k1 k2 k3 k4 k5 k6 k7 a b c) (fX10_moveWall m a b c) t m p := by
  unfold fX9_moveWall fX10_moveWall
  rw [C_exists R, M_isWall Q, qb1_s, qb1_s]
  cases hw : isP p a with
  | false => exact Ed_no R Q V h
  | true =>
    obtain ⟨i, hi, rfl, hp⟩ := isP_z hw
    rw [ifT, ifT, C_isOutside, qb1_s]
    show Ed (if b2 (!ok63 b) = 0 then _ else _) _ _ _ _
    cases h1 : ok63 b with
    | false =>
      rw [ifNF]
      rcases n63 h1 with q | ⟨q, r⟩
      · rw [if_pos q]; exact Ed_no R Q V h
      · rw [if_neg q, if_pos r]; exact Ed_no R Q V h
    | true =>
      obtain ⟨⟨dx, rfl, gx⟩, l1, l2⟩ := ok63_z h1
      rw [ifNT, if_neg l1, if_neg l2, C_isOutside, qb1_s]
      show Ed (if b2 (!ok63 c) = 0 then _ else _) _ _ _ _
      cases h2 : ok63 c with
      | false =>
        rw [ifNF]
        rcases n63 h2 with q | ⟨q, r⟩
        · rw [if_pos q]; exact Ed_no R Q V h
        · rw [if_neg q, if_neg (nle.mpr r)]; exact Ed_no R Q V h
      | true =>
        obtain ⟨⟨dy, rfl, gy⟩, l3, l4⟩ := ok63_z h2
        obtain ⟨v1, v2, v3, v4, v5, v6⟩ := V.1 i hi hp
        rw [ifNT, if_neg l3, if_pos (nlt.mp l4), W_startX R hi hp, W_startY R hi hp, W_endX R hi hp, W_endY R hi hp, M_at1 Q hi hp, M_at2 Q hi hp, M_at3 Q hi hp, M_at4 Q hi hp]
        iterate 10 rw [qb1_s]
        rw [zI_add, zI_add, zI_add, zI_add, C_isBadPoint, C_isBadPoint, C_pointCode, M_isCoordinate, M_isCoordinate, M_isCoordinate, M_isCoordinate]
        iterate 7 rw [qb1_s]
        cases o1 : okc (zI (pX p i + dx)) with
        | false => exact Ed_no R Q V h
        | true =>
          cases o2 : okc (zI (pY p i + dy)) with
          | false => cases o3 : okc (zI (pU p i + dx)) <;> exact Ed_no R Q V h
          | true =>
            cases o3 : okc (zI (pU p i + dx)) with
            | false => exact Ed_no R Q V h
            | true =>
              cases o4 : okc (zI (pV p i + dy)) with
              | false => exact Ed_no R Q V h
              | true =>
                have j1 := (okc_i (a := pX p i + dx) (by omega)).mp o1
                have j2 := (okc_i (a := pY p i + dy) (by omega)).mp o2
                have j3 := (okc_i (a := pU p i + dx) (by omega)).mp o3
                have j4 := (okc_i (a := pV p i + dy) (by omega)).mp o4
                obtain ⟨H', a0, a1, a2, a3, a4, a5, a6, a7, m1, b1, b2', b3, b4⟩ := E_begin (t := t) R Q V h
                have Q1 := Q.eS b3
                obtain ⟨w', c1, c2⟩ := C_shift R hi hp dx dy
                obtain ⟨m2, g1, g2, g3, g4, g5⟩ := M_lay (k := pK p i) (x := pX p i + dx) (y := pY p i + dy) (u := pU p i + dx) (v := pV p i + dy) (mv := pM p i) Q1 hi
                rw [Bool.and_self, ifNT, ifNT, ifT, ifT, ifT, ifT, b1, b2', qb1_s, M_at5 Q1 hi hp, qb1_s, M_at6 Q1 hi hp, qb1_s, g1, qb1_s]
                refine ⟨_, pkI t 12 0, w', H', a0, a1, a2, a3, a4, a5, a6, a7, m2, pSet p i true (pM p i) (pK p i) (pX p i + dx) (pY p i + dy) (pU p i + dx) (pV p i + dy), psh p hs, nk n, ?_, rfl, c2, g2, VP_set V (fun _ => ⟨j1, j2, j3, j4, fun g => v5 ⟨by omega, by omega⟩, v6⟩), b4.of g4 (by rw [g5]), b3.ed.tr g3, Or.inr rfl⟩
                show qb1 (fX8_shift w (zI (i : Int)) (zI dx) (zI dy)) _ = _
                rw [c1, qb1_s]
                simp only [show (64 : Int32) = zI 64 from rfl, zI_mul, zI_add]
end S
