/-! EDITS: one wall laid anew; setKind, removeWall, turnWall -/
section S
variable {p : Pln} {t w H k0 k1 k2 k3 k4 k5 k6 k7 m : Pk} {hs : Nat → Pln} {n i : Nat}
def ug {α : Type} (f : Nat → α) (i : Nat) (v : α) (j : Nat) : α := if j = i then v else f j
theorem ug_s {α : Type} (f : Nat → α) (i : Nat) (v : α) : ug f i v i = v := if_pos rfl
theorem ug_n {α : Type} (f : Nat → α) {i j : Nat} (v : α) (h : ¬ j = i) : ug f i v j = f j := if_neg h
def pSet (p : Pln) (i : Nat) (pr mv : Bool) (k x y u v : Int) : Pln := (ug (pP p) i pr, ug (pM p) i mv, ug (pK p) i k, ug (pX p) i x, ug (pY p) i y, ug (pU p) i u, ug (pV p) i v, pS p, pB p)
theorem ReW_set {w' : Pk} {pr mv : Bool} {k x y u v : Int} (R : ReW w p) (e : ∀ r j, r < 7 → ¬ j = i → w'.1 r j = w.1 r j) (e2 : w'.2 = w.2) (c0 : w'.1 0 i = b2 pr) (c : pr = true → w'.1 1 i = b2 mv ∧ w'.1 2 i = zI x ∧ w'.1 3 i = zI y ∧ w'.1 4 i = zI u ∧ w'.1 5 i = zI v ∧ w'.1 6 i = zI k) : ReW w' (pSet p i pr mv k x y u v) := by
  refine ⟨fun j hj => ?_, by rw [e2]; exact R.2.1, by rw [e2]; exact R.2.2⟩
  show w'.1 0 j = b2 (ug (pP p) i pr j) ∧ (ug (pP p) i pr j = true → w'.1 1 j = b2 (ug (pM p) i mv j) ∧ w'.1 2 j = zI (ug (pX p) i x j) ∧ w'.1 3 j = zI (ug (pY p) i y j) ∧ w'.1 4 j = zI (ug (pU p) i u j) ∧ w'.1 5 j = zI (ug (pV p) i v j) ∧ w'.1 6 j = zI (ug (pK p) i k j))
  by_cases h : j = i
  · subst h
    simp only [ug_s]
    exact ⟨c0, c⟩
  · simp only [ug_n _ _ h]
    rw [e 0 j (by decide) h, e 1 j (by decide) h, e 2 j (by decide) h, e 3 j (by decide) h, e 4 j (by decide) h, e 5 j (by decide) h, e 6 j (by decide) h]
    exact R.1 j hj
theorem ReM_set {m' : Pk} {pr mv : Bool} {k x y u v : Int} (Q : ReM m p) (e : ∀ j, ¬ (7 * i ≤ j ∧ j < 7 * i + 7) → m'.1 0 j = m.1 0 j) (e2 : m'.2 = m.2) (c0 : m'.1 0 (7 * i) = b2 pr) (c : pr = true → m'.1 0 (7 * i + 1) = zI x ∧ m'.1 0 (7 * i + 2) = zI y ∧ m'.1 0 (7 * i + 3) = zI u ∧ m'.1 0 (7 * i + 4) = zI v ∧ m'.1 0 (7 * i + 5) = zI k ∧ m'.1 0 (7 * i + 6) = b2 mv) : ReM m' (pSet p i pr mv k x y u v) := by
  refine ⟨fun j hj => ?_, by rw [e2]; exact Q.2.1, by rw [e2]; exact Q.2.2⟩
  show m'.1 0 (0 + 7 * j) = b2 (ug (pP p) i pr j) ∧ (ug (pP p) i pr j = true → m'.1 0 (0 + 7 * j + 1) = zI (ug (pX p) i x j) ∧ m'.1 0 (0 + 7 * j + 2) = zI (ug (pY p) i y j) ∧ m'.1 0 (0 + 7 * j + 3) = zI (ug (pU p) i u j) ∧ m'.1 0 (0 + 7 * j + 4) = zI (ug (pV p) i v j) ∧ m'.1 0 (0 + 7 * j + 5) = zI (ug (pK p) i k j) ∧ m'.1 0 (0 + 7 * j + 6) = b2 (ug (pM p) i mv j))
  by_cases h : j = i
  · subst h
    simp only [ug_s, Nat.zero_add]
    exact ⟨c0, c⟩
  · simp only [ug_n _ _ h]
    rw [e (0 + 7 * j) (by omega), e (0 + 7 * j + 1) (by omega), e (0 + 7 * j + 2) (by omega), e (0 + 7 * j + 3) (by omega), e (0 + 7 * j + 4) (by omega), e (0 + 7 * j + 5) (by omega), e (0 + 7 * j + 6) (by omega)]
    exact Q.1 j hj
theorem VP_set {pr mv : Bool} {k x y u v : Int} (V : VP p) (c : pr = true → (0 ≤ x ∧ x ≤ 63) ∧ (0 ≤ y ∧ y ≤ 63) ∧ (0 ≤ u ∧ u ≤ 63) ∧ (0 ≤ v ∧ v ≤ 63) ∧ ¬ (x = u ∧ y = v) ∧ (0 ≤ k ∧ k ≤ 2)) : VP (pSet p i pr mv k x y u v) := by
  refine ⟨fun j hj => ?_, V.2⟩
  show ug (pP p) i pr j = true → (0 ≤ ug (pX p) i x j ∧ ug (pX p) i x j ≤ 63) ∧ (0 ≤ ug (pY p) i y j ∧ ug (pY p) i y j ≤ 63) ∧ (0 ≤ ug (pU p) i u j ∧ ug (pU p) i u j ≤ 63) ∧ (0 ≤ ug (pV p) i v j ∧ ug (pV p) i v j ≤ 63) ∧ ¬ (ug (pX p) i x j = ug (pU p) i u j ∧ ug (pY p) i y j = ug (pV p) i v j) ∧ (0 ≤ ug (pK p) i k j ∧ ug (pK p) i k j ≤ 2)
  by_cases h : j = i
  · subst h
    simp only [ug_s]
    exact c
  · simp only [ug_n _ _ h]
    exact V.1 j hj
theorem edA0 (m : Pk) {j : Nat} (h : j < 2147483648) (v : Int32) : edM m (pkA m 0 (zI (j : Int)) v) := by
  refine ⟨fun k hk _ => ?_, fun k _ _ _ => ?_, ?_⟩
  · rw [pA1 h, if_neg hk]
  · rw [pkA_at h]
  · rw [pkA_at h]
theorem ix7 (i c : Nat) : (7 : Int32) * zI (i : Int) + zI (c : Int) = zI ((7 * i + c : Nat) : Int) := by
  rw [show (7 : Int32) = zI 7 from rfl, zI_mul, zI_add]
  congr 1
theorem ix7_0 (i : Nat) : (7 : Int32) * zI (i : Int) = zI ((7 * i : Nat) : Int) := by
  rw [show (7 : Int32) = zI 7 from rfl, zI_mul]
  congr 1
theorem pk2 {u : Pk} {k j : Nat} {v : Int32} (h : j < 2147483648) : (pkA u k (zI (j : Int)) v).2 = u.2 := by rw [pkA_at h]
theorem M_lay {k x y u v : Int} {mv : Bool} (Q : ReM m p) (h : i < 12) : ∃ m', fX10_lay m (zI (i : Int)) (zI x) (zI y) (zI u) (zI v) (zI k) (b2 mv) = some m' ∧ ReM m' (pSet p i true mv k x y u v) ∧ edM m m' ∧ m'.1 3 = m.1 3 ∧ m'.2 = m.2 := by
  unfold fX10_lay
  have h0 : 7 * i + 0 < 2147483648 := by omega
  have h1 : 7 * i + 1 < 2147483648 := by omega
  have h2 : 7 * i + 2 < 2147483648 := by omega
  have h3 : 7 * i + 3 < 2147483648 := by omega
  have h4 : 7 * i + 4 < 2147483648 := by omega
  have h5 : 7 * i + 5 < 2147483648 := by omega
  have h6 : 7 * i + 6 < 2147483648 := by omega
  have e1 : (7 : Int32) * zI (i : Int) + 1 = zI ((7 * i + 1 : Nat) : Int) := ix7 i 1
  have e2 : (7 : Int32) * zI (i : Int) + 2 = zI ((7 * i + 2 : Nat) : Int) := ix7 i 2
  have e3 : (7 : Int32) * zI (i : Int) + 3 = zI ((7 * i + 3 : Nat) : Int) := ix7 i 3
  have e4 : (7 : Int32) * zI (i : Int) + 4 = zI ((7 * i + 4 : Nat) : Int) := ix7 i 4
  have e5 : (7 : Int32) * zI (i : Int) + 5 = zI ((7 * i + 5 : Nat) : Int) := ix7 i 5
  have e6 : (7 : Int32) * zI (i : Int) + 6 = zI ((7 * i + 6 : Nat) : Int) := ix7 i 6
  have e0 : (7 : Int32) * zI (i : Int) = zI ((7 * i + 0 : Nat) : Int) := ix7_0 i
  rw [e6, e5, e4, e3, e2, e1, e0, qst_at (by omega) (by decide), qn_s, qst_at (by omega) (by decide), qn_s, qst_at (by omega) (by decide), qn_s, qst_at (by omega) (by decide), qn_s, qst_at (by omega) (by decide), qn_s, qst_at (by omega) (by decide), qn_s, qst_at (by omega) (by decide), qn_s]
  refine ⟨_, rfl, ReM_set Q (fun j hj => ?_) ?_ ?_ (fun _ => ⟨?_, ?_, ?_, ?_, ?_, ?_⟩), ?_, ?_, ?_⟩
  · rw [pAt h6, if_neg (fun g => by omega), pAt h5, if_neg (fun g => by omega), pAt h4, if_neg (fun g => by omega), pAt h3, if_neg (fun g => by omega), pAt h2, if_neg (fun g => by omega), pAt h1, if_neg (fun g => by omega), pAt h0, if_neg (fun g => by omega)]
  · rw [pk2 h6, pk2 h5, pk2 h4, pk2 h3, pk2 h2, pk2 h1, pk2 h0]
  · rw [pAt h6, if_neg (fun g => by omega), pAt h5, if_neg (fun g => by omega), pAt h4, if_neg (fun g => by omega), pAt h3, if_neg (fun g => by omega), pAt h2, if_neg (fun g => by omega), pAt h1, if_neg (fun g => by omega), pAt h0, if_pos ⟨rfl, by omega⟩]; rfl
  · rw [pAt h6, if_neg (fun g => by omega), pAt h5, if_neg (fun g => by omega), pAt h4, if_neg (fun g => by omega), pAt h3, if_neg (fun g => by omega), pAt h2, if_neg (fun g => by omega), pAt h1, if_pos ⟨rfl, by omega⟩]
  · rw [pAt h6, if_neg (fun g => by omega), pAt h5, if_neg (fun g => by omega), pAt h4, if_neg (fun g => by omega), pAt h3, if_neg (fun g => by omega), pAt h2, if_pos ⟨rfl, by omega⟩]
  · rw [pAt h6, if_neg (fun g => by omega), pAt h5, if_neg (fun g => by omega), pAt h4, if_neg (fun g => by omega), pAt h3, if_pos ⟨rfl, by omega⟩]
  · rw [pAt h6, if_neg (fun g => by omega), pAt h5, if_neg (fun g => by omega), pAt h4, if_pos ⟨rfl, by omega⟩]
  · rw [pAt h6, if_neg (fun g => by omega), pAt h5, if_pos ⟨rfl, by omega⟩]
  · rw [pAt h6, if_pos ⟨rfl, by omega⟩]
  · exact ((((((edA0 _ h0 _).tr (edA0 _ h1 _)).tr (edA0 _ h2 _)).tr (edA0 _ h3 _)).tr (edA0 _ h4 _)).tr (edA0 _ h5 _)).tr (edA0 _ h6 _)
  · rw [pA1 h6, if_neg (by decide), pA1 h5, if_neg (by decide), pA1 h4, if_neg (by decide), pA1 h3, if_neg (by decide), pA1 h2, if_neg (by decide), pA1 h1, if_neg (by decide), pA1 h0, if_neg (by decide)]
  · rw [pk2 h6, pk2 h5, pk2 h4, pk2 h3, pk2 h2, pk2 h1, pk2 h0]
theorem Hi.of {m' : Pk} (h : Hi H k0 k1 k2 k3 k4 k5 k6 k7 m hs n) (e3 : m'.1 3 = m.1 3) (e4 : m'.2.1 4 = m.2.1 4) : Hi H k0 k1 k2 k3 k4 k5 k6 k7 m' hs n := ⟨h.1, h.2.1.of e3 e4, h.2.2⟩
def ok2 (a : Int32) : Bool := decide (0 ≤ a) && decide (a ≤ 2)
theorem ok2_z {a : Int32} (h : ok2 a = true) : ∃ x : Int, a = zI x ∧ 0 ≤ x ∧ x ≤ 2 := by
  unfold ok2 at h
  simp only [Bool.and_eq_true, decide_eq_true_eq, Int32.le_iff_toInt_le] at h
  have h0 : (0 : Int32).toInt = 0 := by decide
  have h9 : (2 : Int32).toInt = 2 := by decide
  exact ⟨a.toInt, (zI_self a).symm, by omega, by omega⟩
theorem n2 {a : Int32} (h : ok2 a = false) : a < 0 ∨ (0 ≤ a ∧ 2 < a) := by
  unfold ok2 at h
  simp only [Bool.and_eq_false_iff, decide_eq_false_iff_not] at h
  by_cases c : a < 0
  · exact Or.inl c
  · refine Or.inr ⟨nlt.mp c, ?_⟩
    rcases h with h | h
    · exact absurd (nlt.mp c) h
    · exact nle.mp h
theorem S_setKind (R : ReW w p) (Q : ReM m p) (V : VP p) (h : Hi H k0 k1 k2 k3 k4 k5 k6 k7 m hs n) (a1 a2 : Int32) : Ed (fX9_setKind t w H k0 k1 k2 k3 k4 k5 k6 k7 a1 a2) (fX10_setKind m a1 a2) t m p := by
  unfold fX9_setKind fX10_setKind
  rw [C_exists R, M_isWall Q, qb1_s, qb1_s]
  cases hw : isP p a1 with
  | false => exact Ed_no R Q V h
  | true =>
    obtain ⟨i, hi, rfl, hp⟩ := isP_z hw
    rw [ifT, ifT, C_isOutside, qb1_s]
    show Ed (if b2 (!ok2 a2) = 0 then _ else _) _ _ _ _
    cases h2 : ok2 a2 with
    | false =>
      rw [ifNF]
      rcases n2 h2 with c | ⟨c, d⟩
      · rw [if_pos c]; exact Ed_no R Q V h
      · rw [if_neg (nlt.mpr c), if_neg (nle.mpr d)]; exact Ed_no R Q V h
    | true =>
      obtain ⟨y, rfl, gy⟩ := ok2_z h2
      have g3 : zI 0 ≤ zI y := (zI_le r0 (rI_s (by omega) (by omega))).mpr gy.1
      have g4 : zI y ≤ zI 2 := (zI_le (rI_s (by omega) (by omega)) (rI_s (by decide) (by decide))).mpr gy.2
      rw [ifNT, if_neg (show ¬ zI y < 0 from nlt.mpr g3), if_pos (show zI y ≤ 2 from g4)]
      obtain ⟨H', a0, a1, a2, a3, a4, a5, a6, a7, m1, b1, b2, b3, b4⟩ := E_begin (t := t) R Q V h
      have hb : i < 2147483648 := by omega
      have h5 : 7 * i + 5 < 2147483648 := by omega
      have e5 : (7 : Int32) * zI (i : Int) + 5 = zI ((7 * i + 5 : Nat) : Int) := ix7 i 5
      have Q1 := Q.eS b3
      obtain ⟨v1, v2, v3, v4, v5, v6⟩ := V.1 i hi hp
      obtain ⟨w1, w2, w3, w4, w5, w6⟩ := R.at hi hp
      obtain ⟨q1, q2, q3, q4, q5, q6⟩ := Q1.at hi hp
      unfold fX8_changeKind
      rw [W_kindOf R hi hp, qb1_s, b1, M_at5 Q hi hp, qb1_s, b2, qb1_s, e5, if_neg (i12n hi), if_neg (i12a hi), qst_at hi (by decide), qn_s, qst_at (i := 7 * i + 5) (by omega) (by decide), qn_s]
      refine ⟨_, pkI t 12 0, pkA w 6 (zI (i : Int)) (zI y), H', a0, a1, a2, a3, a4, a5, a6, a7, pkA m1 0 (zI ((7 * i + 5 : Nat) : Int)) (zI y), pSet p i true (pM p i) y (pX p i) (pY p i) (pU p i) (pV p i), psh p hs, nk n, rfl, rfl, ReW_set R (fun r j _ hj => ?_) (pk2 hb) ?_ (fun _ => ⟨?_, ?_, ?_, ?_, ?_, ?_⟩), ReM_set Q1 (fun j hj => ?_) (pk2 h5) ?_ (fun _ => ⟨?_, ?_, ?_, ?_, ?_, ?_⟩), VP_set V (fun _ => ⟨v1, v2, v3, v4, v5, gy⟩), b4.of (by rw [pA1 h5, if_neg (by decide)]) (by rw [pk2 h5]), b3.ed.tr (edA0 _ h5 _), Or.inr rfl⟩
      · rw [pAt hb, if_neg (fun g => hj g.2)]
      · rw [pAt hb, if_neg (fun g => by omega), R.pr hi, hp]
      · rw [pAt hb, if_neg (fun g => by omega), w1]
      · rw [pAt hb, if_neg (fun g => by omega), w2]
      · rw [pAt hb, if_neg (fun g => by omega), w3]
      · rw [pAt hb, if_neg (fun g => by omega), w4]
      · rw [pAt hb, if_neg (fun g => by omega), w5]
      · rw [pAt hb, if_pos ⟨rfl, rfl⟩]
      · rw [pAt h5, if_neg (fun g => by omega)]
      · rw [pAt h5, if_neg (fun g => by omega), Q1.pr hi, hp]
      · rw [pAt h5, if_neg (fun g => by omega), q1]
      · rw [pAt h5, if_neg (fun g => by omega), q2]
      · rw [pAt h5, if_neg (fun g => by omega), q3]
      · rw [pAt h5, if_neg (fun g => by omega), q4]
      · rw [pAt h5, if_pos ⟨rfl, rfl⟩]
      · rw [pAt h5, if_neg (fun g => by omega), q6]
theorem S_removeWall (R : ReW w p) (Q : ReM m p) (V : VP p) (h : Hi H k0 k1 k2 k3 k4 k5 k6 k7 m hs n) (a1 : Int32) : Ed (fX9_removeWall t w H k0 k1 k2 k3 k4 k5 k6 k7 a1) (fX10_removeWall m a1) t m p := by
  unfold fX9_removeWall fX10_removeWall
  rw [C_exists R, M_isWall Q, qb1_s, qb1_s]
  cases hw : isP p a1 with
  | false => exact Ed_no R Q V h
  | true =>
    obtain ⟨i, hi, rfl, hp⟩ := isP_z hw
    obtain ⟨H', a0, a1, a2, a3, a4, a5, a6, a7, m1, b1, b2, b3, b4⟩ := E_begin (t := t) R Q V h
    have hb : i < 2147483648 := by omega
    have h0 : 7 * i < 2147483648 := by omega
    have Q1 := Q.eS b3
    have R' : ReW (pkA w 0 (zI (i : Int)) (vp_nar .boolean 0)) (pSet p i false false 0 0 0 0 0) := by
      refine ReW_set R (fun r j _ hj => ?_) (pk2 hb) ?_ (fun g => absurd g (by decide))
      · rw [pAt hb, if_neg (fun g => hj g.2)]
      · rw [pAt hb, if_pos ⟨rfl, rfl⟩]; exact nar_b2 false
    have Q' : ReM (pkA m1 0 (zI ((7 * i : Nat) : Int)) 0) (pSet p i false false 0 0 0 0 0) := by
      refine ReM_set Q1 (fun j hj => ?_) (pk2 h0) ?_ (fun g => absurd g (by decide))
      · rw [pAt h0, if_neg (fun g => by omega)]
      · rw [pAt h0, if_pos ⟨rfl, rfl⟩]; rfl
    rw [ifT, ifT, b1, b2, qb1_s, ix7_0, qst_at (by omega) (by decide), qn_s, M_wallCount Q', qb1_s]
    unfold fX8_drop
    rw [if_neg (i12n hi), if_neg (i12a hi), qst_at hi (by decide), qn_s]
    refine ⟨zI (wc (pSet p i false false 0 0 0 0 0) 12 : Nat), pkI t 12 0, pkA w 0 (zI (i : Int)) (vp_nar .boolean 0), H', a0, a1, a2, a3, a4, a5, a6, a7, pkA m1 0 (zI ((7 * i : Nat) : Int)) 0, pSet p i false false 0 0 0 0 0, psh p hs, nk n, ?_, rfl, R', Q', VP_set V (fun g => absurd g (by decide)), b4.of (by rw [pA1 h0, if_neg (by decide)]) (by rw [pk2 h0]), b3.ed.tr (edA0 _ h0 _), Or.inr rfl⟩
    show qb1 (fX8_total (pkA w 0 (zI (i : Int)) (vp_nar .boolean 0))) _ = _
    rw [C_total R', qb1_s]
end S
