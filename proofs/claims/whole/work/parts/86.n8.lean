/-! EDITS: turnWall -/
section S
variable {p : Pln} {t w H k0 k1 k2 k3 k4 k5 k6 k7 m : Pk} {hs : Nat → Pln} {n i : Nat}
theorem C_turn (R : ReW w p) (hi : i < 12) (hp : pP p i = true) : ∃ w', fX8_turn w (zI (i : Int)) = some w' ∧ ReW w' (pSet p i true (pM p i) (pK p i) (pU p i) (pV p i) (pX p i) (pY p i)) := by
  have hb : i < 2147483648 := by omega
  obtain ⟨w1, w2, w3, w4, w5, w6⟩ := R.at hi hp
  unfold fX8_turn
  rw [if_neg (i12n hi), if_pos (i12b hi), qld_at hi (by decide), qld_at hi (by decide), qld_at hi (by decide), qst_at hi (by decide), qn_s, qld_at hi (by decide), qst_at hi (by decide), qn_s, qst_at hi (by decide), qn_s, qst_at hi (by decide), qn_s]
  refine ⟨_, rfl, ReW_set R (fun r j _ hj => ?_) ?_ ?_ (fun _ => ⟨?_, ?_, ?_, ?_, ?_, ?_⟩)⟩
  · simp only [pAt hb, hj, and_false, if_false]
  · rw [pk2 hb, pk2 hb, pk2 hb, pk2 hb]
  · simp (decide := true) only [pAt hb, false_and, if_false, R.pr hi, hp]
  · simp (decide := true) only [pAt hb, false_and, if_false, w1]
  · simp (decide := true) only [pAt hb, true_and, and_self, false_and, if_false, if_true, w4]
  · simp (decide := true) only [pAt hb, true_and, and_self, false_and, if_false, if_true, w5]
  · simp (decide := true) only [pAt hb, true_and, and_self, false_and, if_false, if_true, w2]
  · simp (decide := true) only [pAt hb, true_and, and_self, false_and, if_false, if_true, w3]
  · simp (decide := true) only [pAt hb, false_and, if_false, w6]
theorem pSet_K {pr mv : Bool} {k x y u v : Int} : pK (pSet p i pr mv k x y u v) i = k := ug_s _ _ _
theorem pSet_P {pr mv : Bool} {k x y u v : Int} : pP (pSet p i pr mv k x y u v) i = pr := ug_s _ _ _
theorem S_turnWall (R : ReW w p) (Q : ReM m p) (V : VP p) (h : Hi H k0 k1 k2 k3 k4 k5 k6 k7 m hs n) (a1 : Int32) : Ed (fX9_turnWall t w H k0 k1 k2 k3 k4 k5 k6 k7 a1) (fX10_turnWall m a1) t m p := by
  unfold fX9_turnWall fX10_turnWall
  rw [C_exists R, M_isWall Q, qb1_s, qb1_s]
  cases hw : isP p a1 with
  | false => exact Ed_no R Q V h
  | true =>
    obtain ⟨i, hi, rfl, hp⟩ := isP_z hw
    obtain ⟨H', a0, a1, a2, a3, a4, a5, a6, a7, m1, b1, b2, b3, b4⟩ := E_begin (t := t) R Q V h
    have Q1 := Q.eS b3
    obtain ⟨w', c1, c2⟩ := C_turn R hi hp
    obtain ⟨m2, d1, d2, d3, d4, d5⟩ := M_lay (k := pK p i) (x := pU p i) (y := pV p i) (u := pX p i) (v := pY p i) (mv := pM p i) Q1 hi
    obtain ⟨v1, v2, v3, v4, v5, v6⟩ := V.1 i hi hp
    rw [ifT, ifT, b1, b2, qb1_s, M_at3 Q1 hi hp, qb1_s, M_at4 Q1 hi hp, qb1_s, M_at1 Q1 hi hp, qb1_s, M_at2 Q1 hi hp, qb1_s, M_at5 Q1 hi hp, qb1_s, M_at6 Q1 hi hp, qb1_s, d1, qb1_s, M_at5 d2 hi pSet_P, qb1_s, pSet_K]
    refine ⟨zI (pK p i), pkI t 12 0, w', H', a0, a1, a2, a3, a4, a5, a6, a7, m2, pSet p i true (pM p i) (pK p i) (pU p i) (pV p i) (pX p i) (pY p i), psh p hs, nk n, ?_, rfl, c2, d2, VP_set V (fun _ => ⟨v3, v4, v1, v2, fun g => v5 ⟨g.1.symm, g.2.symm⟩, v6⟩), b4.of d4 (by rw [d5]), b3.ed.tr d3, Or.inr rfl⟩
    show qb1 (fX8_turn w (zI (i : Int))) _ = _
    rw [c1, qb1_s, W_kindOf c2 hi pSet_P, qb1_s, pSet_K]
end S
