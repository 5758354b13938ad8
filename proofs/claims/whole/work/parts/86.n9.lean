/-! EDITS: addWall -/
section S
variable {p : Pln} {t w H k0 k1 k2 k3 k4 k5 k6 k7 m : Pk} {hs : Nat → Pln} {n i : Nat}
theorem C_put {k x y u v : Int} {mv : Bool} (R : ReW w p) (hi : i < 12) : ∃ w', fX8_put w (zI (i : Int)) (zI x) (zI y) (zI u) (zI v) (zI k) (b2 mv) = some w' ∧ ReW w' (pSet p i true mv k x y u v) := by
  have hb : i < 2147483648 := by omega
  have key : fX8_put w (zI (i : Int)) (zI x) (zI y) (zI u) (zI v) (zI k) (b2 mv) = fX8_put_b34 (pkA w 0 (zI (i : Int)) (vp_nar .boolean 1)) (zI (i : Int)) (zI x) (zI y) (zI u) (zI v) (zI k) (zI (i : Int)) (b2 mv) := by
    unfold fX8_put
    rw [if_neg (i12n hi), if_pos (i12b hi), qst_at hi (by decide), qn_s]
    cases mv <;> rfl
  rw [key]
  unfold fX8_put_b34
  rw [qst_at hi (by decide), qn_s, qst_at hi (by decide), qn_s, qst_at hi (by decide), qn_s, qst_at hi (by decide), qn_s, qst_at hi (by decide), qn_s, qst_at hi (by decide), qn_s, nar_b2]
  refine ⟨_, rfl, ReW_set R (fun r j _ hj => ?_) ?_ ?_ (fun _ => ⟨?_, ?_, ?_, ?_, ?_, ?_⟩)⟩
  · simp only [pAt hb, hj, and_false, if_false]
  · rw [pk2 hb, pk2 hb, pk2 hb, pk2 hb, pk2 hb, pk2 hb, pk2 hb]
  · simp (decide := true) only [pAt hb, true_and, and_self, false_and, if_false, if_true]
  · simp (decide := true) only [pAt hb, true_and, and_self, false_and, if_false, if_true]
  · simp (decide := true) only [pAt hb, true_and, and_self, false_and, if_false, if_true]
  · simp (decide := true) only [pAt hb, true_and, and_self, false_and, if_false, if_true]
  · simp (decide := true) only [pAt hb, true_and, and_self, false_and, if_false, if_true]
  · simp (decide := true) only [pAt hb, true_and, and_self, false_and, if_false, if_true]
  · simp (decide := true) only [pAt hb, true_and, and_self, false_and, if_false, if_true]
def Fr (p : Pln) (f : Nat) : Prop := f ≤ 12 ∧ (∀ j, j < f → pP p j = true) ∧ (f < 12 → pP p f = false)
theorem Fr_up (p : Pln) : ∀ k i : Nat, i + k = 12 → (∀ j, j < i → pP p j = true) → ∃ f, Fr p f
  | 0, i, e, h => ⟨12, by omega, fun j hj => h j (by omega), fun g => absurd g (by decide)⟩
  | k + 1, i, e, h => by
    cases hp : pP p i with
    | false => exact ⟨i, by omega, h, fun _ => hp⟩
    | true =>
      refine Fr_up p k (i + 1) (by omega) (fun j hj => ?_)
      by_cases c : j = i
      · rw [c]; exact hp
      · exact h j (by omega)
theorem Fr_ex (p : Pln) : ∃ f, Fr p f := Fr_up p 12 0 rfl (fun j hj => absurd hj (by omega))
theorem C_free {f : Nat} (R : ReW w p) (F : Fr p f) : ∀ (k i : Nat), i ≤ f → 12 - i < k → fX8_lowestFree_b2 w k (zI (i : Int)) = some (if f < 12 then zI (f : Int) else -1) := by
  obtain ⟨f1, f2, f3⟩ := F
  intro k
  induction k with
  | zero => intro i _ h; omega
  | succ k ih =>
    intro i hi hk
    show fX8_lowestFree_b2_s (fX8_lowestFree_b2 w k) w (zI (i : Int)) = _
    unfold fX8_lowestFree_b2_s
    by_cases h : i < 12
    · rw [if_neg (i12a h), qld_at h (by decide), R.pr h]
      by_cases c : i = f
      · subst c
        rw [f3 h, ifF, if_pos h]
      · rw [f2 i (by omega), ifT, qn_s, ix_s]
        exact ih (i + 1) (by omega) (by omega)
    · have e : i = 12 := by omega
      subst e
      rw [if_pos i12e, if_neg (by omega)]
theorem M_free {f : Nat} {x y u v k mv : Int32} (Q : ReM m p) (F : Fr p f) : ∀ (n i : Nat), i ≤ f → 12 - i < n → fX10_addWall_b71 n m x y u v k mv (zI (i : Int)) = fX10_addWall_b95 m x y u v k mv (zI (f : Int)) := by
  obtain ⟨f1, f2, f3⟩ := F
  intro n
  induction n with
  | zero => intro i _ h; omega
  | succ n ih =>
    intro i hi hk
    show fX10_addWall_b71_s (fX10_addWall_b71 n) m x y u v k mv (zI (i : Int)) = _
    unfold fX10_addWall_b71_s
    by_cases h : i < 12
    · rw [if_neg (i12a h), M_at0 Q h, qb1_s, one_b2]
      by_cases c : i = f
      · subst c
        rw [f3 h, if_neg (by decide)]
      · rw [f2 i (by omega), if_pos rfl, qn_s, ix_s]
        exact ih (i + 1) (by omega) (by omega)
    · have e : i = 12 := by omega
      have e2 : f = 12 := by omega
      subst e
      rw [if_pos i12e, e2]
theorem E_add {k x y u v : Int} {mv : Bool} (R : ReW w p) (Q : ReM m p) (V : VP p) (h : Hi H k0 k1 k2 k3 k4 k5 k6 k7 m hs n) (hv : (0 ≤ x ∧ x ≤ 63) ∧ (0 ≤ y ∧ y ≤ 63) ∧ (0 ≤ u ∧ u ≤ 63) ∧ (0 ≤ v ∧ v ≤ 63) ∧ ¬ (x = u ∧ y = v) ∧ (0 ≤ k ∧ k ≤ 2)) : Ed (fX9_addWall_b57 t w H k0 k1 k2 k3 k4 k5 k6 k7 (zI x) (zI y) (zI u) (zI v) (zI k) (b2 mv)) (fX10_addWall_b68 m (zI x) (zI y) (zI u) (zI v) (zI k) (b2 mv)) t m p := by
  obtain ⟨f, F⟩ := Fr_ex p
  unfold fX9_addWall_b57 fX10_addWall_b68 fX8_lowestFree
  have c1 : fX8_lowestFree_b2 w FU 0 = some (if f < 12 then zI (f : Int) else -1) := C_free R F FU 0 (by omega) (FU_12 0)
  have c2 : fX10_addWall_b71 FU m (zI x) (zI y) (zI u) (zI v) (zI k) (b2 mv) 0 = fX10_addWall_b95 m (zI x) (zI y) (zI u) (zI v) (zI k) (b2 mv) (zI (f : Int)) := M_free Q F FU 0 (by omega) (FU_12 0)
  rw [c1, qb1_s, c2]
  unfold fX10_addWall_b95
  by_cases hf : f < 12
  · have n12 : ¬ zI (f : Int) = 12 := by
      rw [show (12 : Int32) = zI 12 from rfl, zI_eq (rI_n (by omega)) (rI_s (by decide) (by decide))]
      omega
    have p0 : (0 : Int32) ≤ zI (f : Int) := by
      rw [z0, zI_le r0 (rI_n (by omega))]
      omega
    obtain ⟨H', a0, a1, a2, a3, a4, a5, a6, a7, m1, b1, b2', b3, b4⟩ := E_begin (t := t) R Q V h
    obtain ⟨w', d1, d2⟩ := C_put (k := k) (x := x) (y := y) (u := u) (v := v) (mv := mv) R hf
    obtain ⟨m2, g1, g2, g3, g4, g5⟩ := M_lay (k := k) (x := x) (y := y) (u := u) (v := v) (mv := mv) (Q.eS b3) hf
    rw [if_pos hf, if_pos p0, if_neg n12, b1, b2', qb1_s, g1, qb1_s]
    refine ⟨zI (f : Int), pkI t 12 0, w', H', a0, a1, a2, a3, a4, a5, a6, a7, m2, pSet p f true mv k x y u v, psh p hs, nk n, ?_, rfl, d2, g2, VP_set V (fun _ => hv), b4.of g4 (by rw [g5]), b3.ed.tr g3, Or.inr rfl⟩
    show qb1 (fX8_put w (zI (f : Int)) (zI x) (zI y) (zI u) (zI v) (zI k) (b2 mv)) _ = _
    rw [d1, qb1_s]
  · have e : f = 12 := by have := F.1; omega
    rw [if_neg hf, if_neg (by decide), if_pos (by rw [e]; decide)]
    exact Ed_no R Q V h
theorem ok1_z {a : Int32} (h : (decide (0 ≤ a) && decide (a ≤ 1)) = true) : ∃ b : Bool, a = b2 b := by
  simp only [Bool.and_eq_true, decide_eq_true_eq, Int32.le_iff_toInt_le] at h
  have h0 : (0 : Int32).toInt = 0 := by decide
  have h1 : (1 : Int32).toInt = 1 := by decide
  by_cases c : a.toInt = 0
  · exact ⟨false, Int32.toInt_inj.mp (by rw [c]; decide)⟩
  · exact ⟨true, Int32.toInt_inj.mp (by rw [show a.toInt = 1 by omega]; decide)⟩
theorem S_addWall (R : ReW w p) (Q : ReM m p) (V : VP p) (h : Hi H k0 k1 k2 k3 k4 k5 k6 k7 m hs n) (a b c d e g : Int32) : Ed (fX9_addWall t w H k0 k1 k2 k3 k4 k5 k6 k7 a b c d e g) (fX10_addWall m a b c d e g) t m p := by
  unfold fX9_addWall fX10_addWall
  rw [C_isBadPoint, C_isBadPoint, M_isCoordinate, M_isCoordinate, M_isCoordinate, M_isCoordinate, qb1_s, qb1_s, qb1_s]
  cases h1 : okc a with
  | false => exact Ed_no R Q V h
  | true =>
    rw [Bool.true_and, ifT, qb1_s]
    cases h2 : okc b with
    | false => exact Ed_no R Q V h
    | true =>
      rw [ifNT, ifT, qb1_s]
      cases h3 : okc c with
      | false => exact Ed_no R Q V h
      | true =>
        rw [Bool.true_and, ifT, qb1_s]
        cases h4 : okc d with
        | false => exact Ed_no R Q V h
        | true =>
          rw [ifNT, ifT, C_isOutside, qb1_s]
          show Ed (if b2 (!ok2 e) = 0 then _ else _) _ _ _ _
          cases h5 : ok2 e with
          | false =>
            rw [ifNF]
            rcases n2 h5 with q | ⟨q, r⟩
            · rw [if_pos q]; exact Ed_no R Q V h
            · rw [if_neg (nlt.mpr q), if_pos r]; exact Ed_no R Q V h
          | true =>
            obtain ⟨k, rfl, gk⟩ := ok2_z h5
            have g3 : zI 0 ≤ zI k := (zI_le r0 (rI_s (by omega) (by omega))).mpr gk.1
            have g4 : zI k ≤ zI 2 := (zI_le (rI_s (by omega) (by omega)) (rI_s (by decide) (by decide))).mpr gk.2
            rw [ifNT, C_isOutside, qb1_s, if_neg (show ¬ zI k < 0 from nlt.mpr g3), if_neg (show ¬ 2 < zI k from nlt.mpr g4)]
            cases h6 : (decide (0 ≤ g) && decide (g ≤ 1)) with
            | false =>
              rw [ifNF]
              rcases no1 h6 with q | q
              · rw [if_pos q]; exact Ed_no R Q V h
              · rw [if_neg (nlt.mpr (c1p q)), if_neg (nle.mpr q)]; exact Ed_no R Q V h
            | true =>
              have hg := h6
              simp only [Bool.and_eq_true, decide_eq_true_eq] at hg
              rw [ifNT, if_neg (nlt.mpr hg.1), if_pos hg.2]
              obtain ⟨mv, rfl⟩ := ok1_z h6
              obtain ⟨x, rfl, gx⟩ := okc_z h1
              obtain ⟨y, rfl, gy⟩ := okc_z h2
              obtain ⟨u, rfl, gu⟩ := okc_z h3
              obtain ⟨v, rfl, gv⟩ := okc_z h4
              by_cases cx : x = u
              · subst cx
                rw [if_pos rfl, if_pos rfl]
                by_cases cy : y = v
                · subst cy
                  rw [if_pos rfl, if_pos rfl]
                  exact Ed_no R Q V h
                · have ny : ¬ zI y = zI v := fun q => cy ((zI_eq (rI_s (by omega) (by omega)) (rI_s (by omega) (by omega))).mp q)
                  rw [if_neg ny, if_neg ny]
                  exact E_add R Q V h ⟨gx, gy, gu, gv, fun q => cy q.2, gk⟩
              · have nx' : ¬ zI x = zI u := fun q => cx ((zI_eq (rI_s (by omega) (by omega)) (rI_s (by omega) (by omega))).mp q)
                rw [if_neg nx', if_neg nx']
                exact E_add R Q V h ⟨gx, gy, gu, gv, fun q => cx q.1, gk⟩
end S
