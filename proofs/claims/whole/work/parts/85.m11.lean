/-! RAYS: paneCount -/
section S
variable {p : Pln} {t w r m : Pk} {x y dx dy : Int}
/-- wall i is a pane that the ray hits, and no first hit lies before it -/
def pne (p : Pln) (x y dx dy : Int) (i : Nat) : Bool := pP p i && (decide (pK p i = 1) && (hit p i x y dx dy && bef p x y dx dy i (fh p x y dx dy 12)))
def pc (p : Pln) (x y dx dy : Int) : Nat → Nat
  | 0 => 0
  | k + 1 => pc p x y dx dy k + if pne p x y dx dy k then 1 else 0
theorem pc_s (k : Nat) : pc p x y dx dy (k + 1) = pc p x y dx dy k + if pne p x y dx dy k then 1 else 0 := rfl
theorem W_kindAt {i : Nat} (h : i < 12) : fX8_kindOf w (zI (i : Int)) = some (w.1 6 i) := by
  unfold fX8_kindOf
  rw [if_neg (i12n h), if_neg (i12a h), qld_at h (by decide)]
theorem hit_p {i : Nat} (h : hit p i x y dx dy = true) : pP p i = true := by
  unfold hit at h
  simp only [Bool.and_eq_true] at h
  exact h.1
theorem fh_ok : ∀ j, fh p x y dx dy 12 = some j → j < 12 ∧ pP p j = true := fun _ hj => fh_p hj
theorem C_pane_loop (R : ReW w p) (V : VP p) (Y : RY x y dx dy) : ∀ (n i : Nat) (r : Pk), i ≤ 12 → 12 - i < n → rAim r x y dx dy → rF r p x y dx dy (fh p x y dx dy 12) → ∃ r', fX5_countPanes_b4 w n r (zI (pc p x y dx dy i : Nat)) (zI i) = some (zI (pc p x y dx dy 12 : Nat), r') := by
  intro n
  induction n with
  | zero => intro i r _ h; omega
  | succ n ih =>
    intro i r hi hn A F
    show ∃ r', fX5_countPanes_b4_s (fX5_countPanes_b4 w n) w r (zI (pc p x y dx dy i : Nat)) (zI i) = _
    unfold fX5_countPanes_b4_s
    by_cases h : i < 12
    · have same : ∀ r1 : Pk, rSame r r1 → pne p x y dx dy i = false → ∃ r', fX5_countPanes_b40 (fX5_countPanes_b4 w n) w r1 (zI (pc p x y dx dy i : Nat)) (zI i) = some (zI (pc p x y dx dy 12 : Nat), r') := by
        intro r1 s1 hb
        unfold fX5_countPanes_b40
        rw [qn_s, ix_s]
        have e : pc p x y dx dy (i + 1) = pc p x y dx dy i := by rw [pc_s, hb]; rfl
        rw [← e]
        exact ih (i + 1) r1 (by omega) (by omega) (A.same s1) (F.same s1)
      rw [if_neg (i12a h), W_kindAt h, qb1_s]
      obtain ⟨r1, g1, g2, g3⟩ := R_hits R V h A Y
      have kz : pP p i = true → (w.1 6 i = 1 ↔ pK p i = 1) := by
        intro hp
        rw [(R.at h hp).2.2.2.2.2, show (1 : Int32) = zI 1 from rfl]
        have := (V.1 i h hp).2.2.2.2
        exact zI_eq (rI_s (by omega) (by omega)) (rI_s (by omega) (by omega))
      by_cases hk : w.1 6 i = 1
      · rw [if_pos hk, g1, qb2_s]
        cases hh : hit p i x y dx dy with
        | false =>
          rw [ifF]
          exact same r1 g2 (by unfold pne; rw [hh]; simp)
        | true =>
          have hp := hit_p hh
          rw [ifT, R_before V h hp Y (g3 hh) (F.same g2) fh_ok, qb1_s]
          cases hb : bef p x y dx dy i (fh p x y dx dy 12) with
          | false =>
            rw [ifF]
            exact same r1 g2 (by unfold pne; rw [hb]; simp)
          | true =>
            rw [ifT, qn_s, ix_s]
            unfold fX5_countPanes_b40
            rw [qn_s, ix_s]
            have e := pc_s (p := p) (x := x) (y := y) (dx := dx) (dy := dy) i
            rw [show pne p x y dx dy i = true by unfold pne; rw [hp, hh, hb]; simp [(kz hp).mp hk], if_pos rfl] at e
            rw [← e]
            exact ih (i + 1) r1 (by omega) (by omega) (A.same g2) (F.same g2)
      · rw [if_neg hk]
        refine same r (rSame.rf r) ?_
        unfold pne
        cases hp : pP p i with
        | false => rfl
        | true => rw [show decide (pK p i = 1) = false from decide_eq_false (fun g => hk ((kz hp).mpr g))]; rfl
    · have e : i = 12 := by omega
      subst e
      rw [if_pos i12e]
      exact ⟨r, rfl⟩
theorem M_pane_loop {d e c : Int} (V : VP p) (Y : RY x y (colX d e c) (colY d e c)) : ∀ (n i : Nat) (m : Pk), i ≤ 12 → 12 - i < n → ReM m p → mF m p x y (colX d e c) (colY d e c) (fh p x y (colX d e c) (colY d e c) 12) → ∃ m', fX10_paneCount_b43 n m (zI x) (zI y) (zI d) (zI e) (zI c) (zI (pc p x y (colX d e c) (colY d e c) i : Nat)) (zI i) = some (zI (pc p x y (colX d e c) (colY d e c) 12 : Nat), m') ∧ mSame m m' := by
  intro n
  induction n with
  | zero => intro i m _ h; omega
  | succ n ih =>
    intro i m hi hn Q F
    show ∃ m', fX10_paneCount_b43_s (fX10_paneCount_b43 n) m (zI x) (zI y) (zI d) (zI e) (zI c) (zI (pc p x y (colX d e c) (colY d e c) i : Nat)) (zI i) = _ ∧ _
    unfold fX10_paneCount_b43_s
    by_cases h : i < 12
    · have es := pc_s (p := p) (x := x) (y := y) (dx := colX d e c) (dy := colY d e c) i
      have same : ∀ m1 : Pk, mSame m m1 → mF m1 p x y (colX d e c) (colY d e c) (fh p x y (colX d e c) (colY d e c) 12) → pne p x y (colX d e c) (colY d e c) i = false → ∃ m', fX10_paneCount_b138 (fX10_paneCount_b43 n) m1 (zI x) (zI y) (zI d) (zI e) (zI c) (zI (pc p x y (colX d e c) (colY d e c) i : Nat)) (zI i) = some (zI (pc p x y (colX d e c) (colY d e c) 12 : Nat), m') ∧ mSame m m' := by
        intro m1 s1 F1 hb
        unfold fX10_paneCount_b138
        rw [qn_s, ix_s]
        have e2 : pc p x y (colX d e c) (colY d e c) (i + 1) = pc p x y (colX d e c) (colY d e c) i := by rw [pc_s, hb]; rfl
        rw [← e2]
        obtain ⟨m', a1, a2⟩ := ih (i + 1) m1 (by omega) (by omega) (Q.same s1) F1
        exact ⟨m', a1, s1.tr a2⟩
      have more : ∀ m1 : Pk, mSame m m1 → mF m1 p x y (colX d e c) (colY d e c) (fh p x y (colX d e c) (colY d e c) 12) → pne p x y (colX d e c) (colY d e c) i = true → ∃ m', fX10_paneCount_b130 (fX10_paneCount_b43 n) m1 (zI x) (zI y) (zI d) (zI e) (zI c) (zI i) (zI (pc p x y (colX d e c) (colY d e c) i : Nat)) = some (zI (pc p x y (colX d e c) (colY d e c) 12 : Nat), m') ∧ mSame m m' := by
        intro m1 s1 F1 hb
        unfold fX10_paneCount_b130 fX10_paneCount_b135 fX10_paneCount_b138
        rw [qn_s, ix_s, qn_s, ix_s]
        rw [hb, if_pos rfl] at es
        rw [← es]
        obtain ⟨m', a1, a2⟩ := ih (i + 1) m1 (by omega) (by omega) (Q.same s1) F1
        exact ⟨m', a1, s1.tr a2⟩
      rw [if_neg (i12a h), M_at0 Q h, qb1_s, one_b2]
      cases hp : pP p i with
      | false =>
        rw [if_neg (by decide)]
        exact same m (mSame.rf m) F (by unfold pne; rw [hp]; rfl)
      | true =>
        rw [if_pos rfl, M_at5 Q h hp, qb1_s]
        have kz : zI (pK p i) = 1 ↔ pK p i = 1 := by
          rw [show (1 : Int32) = zI 1 from rfl]
          have := (V.1 i h hp).2.2.2.2
          exact zI_eq (rI_s (by omega) (by omega)) (rI_s (by omega) (by omega))
        by_cases hk : pK p i = 1
        · rw [if_pos (kz.mpr hk), M_ray.1, qb1_s, M_ray.2, qb1_s]
          obtain ⟨m1, g1, g2, g3, g4, g5, g6⟩ := M_isHit Q V h hp Y
          rw [g1, qb2_s]
          have sm : mSame m m1 := ⟨g2, fun k _ _ => by rw [g3]⟩
          have F1 : mF m1 p x y (colX d e c) (colY d e c) (fh p x y (colX d e c) (colY d e c) 12) := F.same (by rw [g3]) g4 g5
          cases hh : hit p i x y (colX d e c) (colY d e c) with
          | false =>
            rw [ifF]
            exact same m1 sm F1 (by unfold pne; rw [hh]; simp)
          | true =>
            rw [ifT]
            obtain ⟨h52, h53, h51⟩ := g6 hh
            have pe : pne p x y (colX d e c) (colY d e c) i = bef p x y (colX d e c) (colY d e c) i (fh p x y (colX d e c) (colY d e c) 12) := by
              unfold pne
              rw [hp, hh]
              simp [hk]
            cases hf : fh p x y (colX d e c) (colY d e c) 12 with
            | none =>
              have F2 := F1
              rw [hf] at F2 pe
              rw [show m1.2.1 54 = zI (-1) from F2, if_pos (by decide)]
              exact more m1 sm F1 pe
            | some j =>
              have F2 := F1
              rw [hf] at F2 pe
              obtain ⟨f1, f2, f3⟩ := F2
              obtain ⟨j1, j2⟩ := fh_p hf
              have b1 := hD_bd V h hp Y
              have b2' := hB_bd V (by omega : j < 12) j2 Y
              have b3 := hD_bd V (by omega : j < 12) j2 Y
              have b4 := hB_bd V h hp Y
              rw [f1, f2, f3, h52, h51, if_neg (ix_nn (by omega))]
              simp only [zL_mul, cmp_ge, zL_le (rLs3 b3 b4) (rLs3 b1 b2')]
              by_cases cc : hD p j x y (colX d e c) (colY d e c) * hB p i (colX d e c) (colY d e c) ≤ hD p i x y (colX d e c) (colY d e c) * hB p j (colX d e c) (colY d e c)
              · rw [if_pos cc]
                have hb : bef p x y (colX d e c) (colY d e c) i (some j) = false := by
                  unfold bef
                  simp only [decide_eq_false_iff_not]
                  omega
                unfold fX10_paneCount_b135
                rw [qn_s, Int32.add_zero]
                exact same m1 sm F1 (pe.trans hb)
              · rw [if_neg cc]
                have hb : bef p x y (colX d e c) (colY d e c) i (some j) = true := by
                  unfold bef
                  simp only [decide_eq_true_eq]
                  omega
                exact more m1 sm F1 (pe.trans hb)
        · rw [if_neg (fun g => hk (kz.mp g))]
          exact same m (mSame.rf m) F (by unfold pne; rw [hp]; simp [hk])
    · have e : i = 12 := by omega
      subst e
      rw [if_pos i12e]
      exact ⟨m, rfl, mSame.rf m⟩
theorem S_paneCount (R : ReW w p) (Q : ReM m p) (V : VP p) (a1 a2 a3 a4 a5 : Int32) : Ray2 (fX9_paneCount t w r a1 a2 a3 a4 a5) (fX10_paneCount m a1 a2 a3 a4 a5) m := by
  unfold fX9_paneCount fX10_paneCount
  rw [C_isBadPicture, M_isPicture, qb1_s, qb1_s, C_isBadColumn]
  cases h1 : okpic a1 a2 a3 a4 with
  | false => exact ⟨_, _, _, rfl, rfl, mSame.rf m⟩
  | true =>
    rw [if_pos (by decide), if_neg (by decide), qb1_s]
    obtain ⟨x, y, dx, dy, rfl, rfl, rfl, rfl, g1, g2, g3, g4⟩ := okpic_z h1
    cases h2 : okk a5 with
    | false =>
      rw [if_neg (by decide)]
      refine ⟨_, _, _, rfl, ?_, mSame.rf m⟩
      rcases nok h2 with c | c
      · rw [if_pos c]
      · rw [if_neg (by grind), if_neg (by grind)]
    | true =>
      rw [if_pos (by decide)]
      have hk : 0 ≤ a5 ∧ a5 ≤ 31 := by unfold okk at h2; simpa using h2
      rw [if_neg (by grind), if_pos hk.2]
      obtain ⟨c, rfl, g5⟩ := okk_z h2
      have Y := col_RY (c := c) g1 g2 g3 g4 g5
      obtain ⟨r1, e1, e2, e3, e4⟩ := R_standAt (r := r) R V g1 g2
      obtain ⟨r2, f1, f2, f3⟩ := R_aimCol e2 e3 e4 dx dy c
      obtain ⟨r3, k1, k2, k3⟩ := R_findFirstHit R V Y f2 f3
      obtain ⟨m1, l1, l2, l3⟩ := M_traceColumn Q V Y
      obtain ⟨r4, n1⟩ := C_pane_loop R V Y FU 0 r3 (by omega) (FU_12 0) (f2.keep k2) k3
      obtain ⟨m2, o1, o2⟩ := M_pane_loop V Y FU 0 m1 (by omega) (FU_12 0) (Q.same l2) l3
      unfold fX5_countPanes
      rw [e1, qb1_s, f1, qb1_s, k1, qb1_s, l1, qb1_s]
      refine ⟨zI (pc p x y (colX dx dy c) (colY dx dy c) 12 : Nat), r4, m2, ?_, o1, l2.tr o2⟩
      have n2 : fX5_countPanes_b4 w FU r3 0 0 = some (zI (pc p x y (colX dx dy c) (colY dx dy c) 12 : Nat), r4) := n1
      rw [n2, qb2_s]
end S
