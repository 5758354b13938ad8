/-! REGIONS: what the reference's hasPart says -/
section S
variable {p : Pln} {m m' : Pk} {q : Pc} {R : Nat}
theorem nI_quo {a b : Nat} (ha : a < 2147483648) (hb : b < 2147483648) : zI (a : Int) / zI (b : Int) = zI ((a / b : Nat) : Int) := by
  have h := Int32.ofInt_tdiv (a := (a : Int)) (b := (b : Int)) (by have : Int32.minValue.toInt = -2147483648 := by decide
                                                                   omega) (by have : Int32.maxValue.toInt = 2147483647 := by decide
                                                                              omega) (by have : Int32.minValue.toInt = -2147483648 := by decide
                                                                                         omega) (by have : Int32.maxValue.toInt = 2147483647 := by decide
                                                                                                    omega)
  show Int32.ofInt (a : Int) / Int32.ofInt (b : Int) = Int32.ofInt ((a / b : Nat) : Int)
  rw [← h]
  congr 1
def dig (R k : Nat) : Nat := R / 3 ^ k % 3
theorem dig_z (hR : R < 243) {k : Nat} (hk : k < 6) : zI (R : Int) / zI ((3 ^ k : Nat) : Int) - zI (R : Int) / zI ((3 ^ k : Nat) : Int) / 3 * 3 = zI ((dig R k : Nat) : Int) := by
  have p3 : 3 ^ k ≤ 3 ^ 5 := Nat.pow_le_pow_right (by decide) (by omega)
  have q1 : R / 3 ^ k ≤ R := Nat.div_le_self _ _
  rw [nI_quo (by omega) (by omega), show (3 : Int32) = zI ((3 : Nat) : Int) from rfl, nI_quo (by omega) (by decide), zI_mul, zI_sub]
  unfold dig
  exact congrArg zI (by omega)
/-- one digit's side taken of a piece; all digits', lowest first -/
def dst (p : Pln) (R k : Nat) (e q : Pc) : List Pc := if dig R k = 0 then [q] else prt p e.1 (decide (dig R k = 1)) q
def rcl (p : Pln) (R : Nat) : List Pc → Nat → Pc → List Pc
  | [], _, q => [q]
  | e :: s, k, q => (dst p R k e q).flatMap (rcl p R s (k + 1))
theorem dst_one (V : VP p) {k : Nat} {e : Pc} (E : e.1 < 12 ∧ pP p e.1 = true) (Q : vpc p q) : dst p R k e q = [] ∨ ∃ r, dst p R k e q = [r] ∧ r.1 = q.1 ∧ vpc p r := by
  unfold dst
  by_cases c : dig R k = 0
  · rw [if_pos c]; exact Or.inr ⟨q, rfl, rfl, Q⟩
  · rw [if_neg c]
    rcases prt_cases (p := p) (v := e.1) (decide (dig R k = 1)) q with h | ⟨r, h, h1⟩
    · exact Or.inl h
    · exact Or.inr ⟨r, h, h1, prt_vp V E.1 E.2 Q (by rw [h]; exact List.mem_singleton.mpr rfl)⟩
theorem rcl_one (V : VP p) : ∀ (s : List Pc) (k : Nat) (q : Pc), (∀ e, e ∈ s → e.1 < 12 ∧ pP p e.1 = true) → vpc p q → rcl p R s k q = [] ∨ ∃ r, rcl p R s k q = [r] ∧ r.1 = q.1 ∧ vpc p r
  | [], k, q, _, Q => Or.inr ⟨q, rfl, rfl, Q⟩
  | e :: s, k, q, E, Q => by
    rcases dst_one (R := R) (k := k) V (E e List.mem_cons_self) Q with h | ⟨r, h, h1, h2⟩
    · exact Or.inl (by
        show (dst p R k e q).flatMap _ = []
        rw [h]; rfl)
    · have := rcl_one V s (k + 1) r (fun e he => E e (List.mem_cons_of_mem _ he)) h2
      show (dst p R k e q).flatMap _ = [] ∨ ∃ r, (dst p R k e q).flatMap _ = [r] ∧ _
      rw [h, fmo, ← h1]
      exact this
/-- the reference knows the fixed walls and the powers of three -/
def Fx (m : Pk) (p : Pln) : Prop := ReM m p ∧ m.2.1 63 = zI ((rootL p false).length : Int) ∧ (∀ (j : Nat) (e : Pc), (rootL p false)[j]? = some e → m.1 62 j = zI (e.1 : Int)) ∧ ∀ j, j < 6 → m.1 65 j = zI ((3 ^ j : Nat) : Int)
def I4 (m : Pk) (q : Pc) : Prop := m.2.1 66 = zI q.2.1 ∧ m.2.1 67 = zI q.2.2.1 ∧ m.2.1 68 = zI q.2.2.2.1 ∧ m.2.1 69 = zI q.2.2.2.2
def hpF (m m' : Pk) : Prop := m'.1 = m.1 ∧ (∀ k, ¬ (18 ≤ k ∧ k ≤ 19) → ¬ (66 ≤ k ∧ k ≤ 69) → m'.2.1 k = m.2.1 k) ∧ m'.2.2 = m.2.2
theorem hpF.rf (m : Pk) : hpF m m := ⟨rfl, fun _ _ _ => rfl, rfl⟩
theorem hpF.tr {a b c : Pk} (h : hpF a b) (g : hpF b c) : hpF a c := ⟨g.1.trans h.1, fun k h1 h2 => (g.2.1 k h1 h2).trans (h.2.1 k h1 h2), g.2.2.trans h.2.2⟩
theorem hpF_I (m : Pk) {k : Nat} (hk : (18 ≤ k ∧ k ≤ 19) ∨ (66 ≤ k ∧ k ≤ 69)) (x : Int32) : hpF m (pkI m k x) := ⟨rfl, fun j h1 h2 => by rw [pI, if_neg (by omega)], rfl⟩
theorem Fx.hp (F : Fx m p) (h : hpF m m') : Fx m' p := by
  obtain ⟨Q, f1, f2, f3⟩ := F
  refine ⟨⟨by rw [h.1]; exact Q.1, by rw [h.2.1 1 (by decide) (by decide)]; exact Q.2.1, by rw [h.2.1 2 (by decide) (by decide)]; exact Q.2.2⟩, by rw [h.2.1 63 (by decide) (by decide)]; exact f1, fun j e he => by rw [h.1]; exact f2 j e he, fun j hj => by rw [h.1]; exact f3 j hj⟩
theorem FxE : ∀ e, e ∈ rootL p false → e.1 < 12 ∧ pP p e.1 = true := fun _ he => (rootL_mem he).1.1
theorem rel_lt (v : Nat) (q : Pc) : rel p v q = 0 ∨ rel p v q = 1 ∨ rel p v q = 2 ∨ rel p v q = 3 := by
  have := relI_le (ev p v q.1 q.2.1 q.2.2.1) (ev p v q.1 q.2.2.2.1 q.2.2.2.2)
  unfold rel
  omega
theorem M_hasP_loop (V : VP p) (hR : R < 243) (n5 : (rootL p false).length ≤ 5) : ∀ (s : List Pc) (k g : Nat) (m : Pk) (q : Pc), (∀ j e, s[j]? = some e → (rootL p false)[k + j]? = some e) → k + s.length = (rootL p false).length → s.length < g → Fx m p → vpc p q → I4 m q → ∃ m', fX10_hasPart_b22 g m (zI (R : Int)) (zI (q.1 : Int)) (zI (k : Int)) = some (b2 (!(rcl p R s k q).isEmpty), m') ∧ hpF m m' ∧ ∀ q', rcl p R s k q = [q'] → I4 m' q' := by
  intro s
  induction s with
  | nil =>
    intro k g m q hs hk hg F Q I
    obtain ⟨g, rfl⟩ := Nat.exists_eq_add_of_lt hg
    have e : k = (rootL p false).length := hk
    refine ⟨m, ?_, hpF.rf m, fun q' h => ?_⟩
    · show fX10_hasPart_b22_s _ m _ _ _ = _
      unfold fX10_hasPart_b22_s
      rw [F.2.1, e, if_pos (Int32.le_refl _)]
      rfl
    · have h : [q] = [q'] := h
      injection h with h
      rw [← h]; exact I
  | cons e s ih =>
    intro k g m q hs hk hg F Q I
    obtain ⟨g, rfl⟩ := Nat.exists_eq_add_of_lt hg
    have g1 : (e :: s).length + g = s.length + g + 1 := by rw [List.length_cons]; omega
    have hk' : k < (rootL p false).length := by rw [← hk]; exact Nat.lt_add_of_pos_right (Nat.succ_pos _)
    have he : (rootL p false)[k]? = some e := hs 0 e rfl
    have E := FxE e (List.mem_of_getElem? he)
    have hd3 : dig R k < 3 := Nat.mod_lt _ (by decide)
    have nx' : ∀ (m1 : Pk) (r : Pc), Fx m1 p → vpc p r → I4 m1 r → r.1 = q.1 → ∃ m', fX10_hasPart_b208 (fX10_hasPart_b22 ((e :: s).length + g)) m1 (zI (R : Int)) (zI (q.1 : Int)) (zI (k : Int)) = some (b2 (!(rcl p R s (k + 1) r).isEmpty), m') ∧ hpF m1 m' ∧ ∀ q', rcl p R s (k + 1) r = [q'] → I4 m' q' := by
      intro m1 r F1 Q1 I1 e1
      unfold fX10_hasPart_b208
      rw [qn_s, show zI (k : Int) + 1 = zI ((k + 1 : Nat) : Int) from by rw [show (1 : Int32) = zI 1 from rfl, zI_add]; rfl, ← e1]
      exact ih (k + 1) ((e :: s).length + g) m1 r (fun j e' hj => by
        have := hs (j + 1) e' hj
        rwa [show k + 1 + j = k + (j + 1) from by omega]) (by rw [← hk, List.length_cons]; omega) (by omega) F1 Q1 I1
    have pz : ¬ zI ((3 ^ k : Nat) : Int) = 0 := by
      have p3 : 3 ^ k ≤ 3 ^ 5 := Nat.pow_le_pow_right (by decide) (by omega)
      have p1 := Nat.pow_pos (n := k) (show 0 < 3 from by decide)
      rw [show (0 : Int32) = zI ((0 : Nat) : Int) from rfl, zI_eq (rI_n (by omega)) (rI_n (by decide))]
      omega
    show ∃ m', fX10_hasPart_b22_s (fX10_hasPart_b22 ((e :: s).length + g)) m (zI (R : Int)) (zI (q.1 : Int)) (zI (k : Int)) = some (b2 (!((dst p R k e q).flatMap (rcl p R s (k + 1))).isEmpty), m') ∧ hpF m m' ∧ ∀ q', (dst p R k e q).flatMap (rcl p R s (k + 1)) = [q'] → I4 m' q'
    unfold fX10_hasPart_b22_s
    rw [F.2.1, if_neg (ix_a hk' (by omega)), qld_at (by omega) (by decide), F.2.2.2 k (by omega), qnzi_s pz, qnzi_s (by decide), dig_z hR (by omega), qn_s]
    by_cases c0 : dig R k = 0
    · rw [if_pos (show zI ((dig R k : Nat) : Int) ≤ 0 from by rw [c0]; decide)]
      have ed : dst p R k e q = [q] := by unfold dst; rw [if_pos c0]
      rw [ed, fmo]
      exact nx' m q F Q I rfl
    · have ed : dst p R k e q = prt p e.1 (decide (dig R k = 1)) q := by unfold dst; rw [if_neg c0]
      have c0' : ¬ zI ((dig R k : Nat) : Int) ≤ 0 := by rw [show (0 : Int32) = zI 0 from rfl, zI_le (rI_n (by omega)) r0]; omega
      rw [if_neg c0', qld_at (by omega) (by decide), F.2.2.1 k e he, I.1, I.2.1, I.2.2.1, I.2.2.2, M_relation F.1 V E.1 E.2 Q, qb1_s, ed]
      have dead : prt p e.1 (decide (dig R k = 1)) q = [] → ∃ m', some ((0 : Int32), m) = some (b2 (!((prt p e.1 (decide (dig R k = 1)) q).flatMap (rcl p R s (k + 1))).isEmpty), m') ∧ hpF m m' ∧ ∀ q', (prt p e.1 (decide (dig R k = 1)) q).flatMap (rcl p R s (k + 1)) = [q'] → I4 m' q' := by
        intro h
        rw [h]
        exact ⟨m, rfl, hpF.rf m, fun q' h => by cases h⟩
      have stay : prt p e.1 (decide (dig R k = 1)) q = [q] → ∃ m', fX10_hasPart_b208 (fX10_hasPart_b22 ((e :: s).length + g)) m (zI (R : Int)) (zI (q.1 : Int)) (zI (k : Int)) = some (b2 (!((prt p e.1 (decide (dig R k = 1)) q).flatMap (rcl p R s (k + 1))).isEmpty), m') ∧ hpF m m' ∧ ∀ q', (prt p e.1 (decide (dig R k = 1)) q).flatMap (rcl p R s (k + 1)) = [q'] → I4 m' q' := by
        intro h
        rw [h, fmo]
        exact nx' m q F Q I rfl
      have how : dig R k = 1 ∨ dig R k = 2 := by omega
      rcases rel_lt (p := p) e.1 q with hr | hr | hr | hr
      · rw [hr, if_pos (show zI (rm 0) = 0 from by decide)]
        refine dead ?_
        unfold prt
        rw [hr, if_neg (by decide), if_neg (by split <;> decide)]
      · rw [hr, if_neg (show ¬ zI (rm 1) = 0 from by decide), if_pos (show zI (rm 1) = 1 from by decide)]
        rcases how with h | h
        · rw [h, if_neg (show ¬ zI ((1 : Nat) : Int) = 2 from by decide)]
          unfold fX10_hasPart_b97 fX10_hasPart_b111
          rw [if_neg (show ¬ zI (rm 1) = -1 from by decide), if_neg (show ¬ zI (rm 1) = 2 from by decide)]
          rw [h] at stay
          refine stay ?_
          unfold prt
          rw [hr, if_neg (by decide), if_pos (by decide)]
        · rw [h, if_pos (show zI ((2 : Nat) : Int) = 2 from by decide)]
          rw [h] at dead
          refine dead ?_
          unfold prt
          rw [hr, if_neg (by decide), if_neg (by decide)]
      · rw [hr, if_neg (show ¬ zI (rm 2) = 0 from by decide), if_neg (show ¬ zI (rm 2) = 1 from by decide)]
        unfold fX10_hasPart_b97
        rw [if_pos (show zI (rm 2) = -1 from by decide)]
        rcases how with h | h
        · rw [h, if_pos (show zI ((1 : Nat) : Int) = 1 from by decide)]
          rw [h] at dead
          refine dead ?_
          unfold prt
          rw [hr, if_neg (by decide), if_neg (by decide)]
        · rw [h, if_neg (show ¬ zI ((2 : Nat) : Int) = 1 from by decide)]
          unfold fX10_hasPart_b111
          rw [if_neg (show ¬ zI (rm 2) = 2 from by decide)]
          rw [h] at stay
          refine stay ?_
          unfold prt
          rw [hr, if_neg (by decide), if_pos (by decide)]
      · rw [hr, if_neg (show ¬ zI (rm 3) = 0 from by decide), if_neg (show ¬ zI (rm 3) = 1 from by decide)]
        obtain ⟨v1, v2⟩ := vpc_bd Q
        have v3 := Q.2.2.1
        unfold fX10_hasPart_b97 fX10_hasPart_b111
        rw [if_neg (show ¬ zI (rm 3) = -1 from by decide), if_pos (show zI (rm 3) = 2 from by decide), I.1, I.2.1, M_signAt F.1 V E.1 E.2 Q.1.1 Q.1.2 (by omega) (by omega), qb1_s]
        have sA : (0 < ev p e.1 q.1 q.2.1 q.2.2.1 ↔ 0 < eA p e.1 q.1) := by
          obtain ⟨σ, gg, k1, k2, k3, k4, k5, k6, k7, -⟩ := cut_spec Q hr
          rcases k1 with rfl | rfl <;> omega
        have ep : prt p e.1 (decide (dig R k = 1)) q = [cutp p e.1 (decide (dig R k = 1)) q] := by unfold prt; rw [if_pos hr]
        have Qc : vpc p (cutp p e.1 (decide (dig R k = 1)) q) := prt_vp V E.1 E.2 Q (by rw [ep]; exact List.mem_singleton.mpr rfl)
        rw [ep, fmo]
        have first : decide (0 < eA p e.1 q.1) = decide (dig R k = 1) → ∃ m', fX10_hasPart_b159 (fX10_hasPart_b22 ((e :: s).length + g)) m (zI (R : Int)) (zI (q.1 : Int)) (zI (k : Int)) (zI (e.1 : Int)) 1 = some (b2 (!(rcl p R s (k + 1) (cutp p e.1 (decide (dig R k = 1)) q)).isEmpty), m') ∧ hpF m m' ∧ ∀ q', rcl p R s (k + 1) (cutp p e.1 (decide (dig R k = 1)) q) = [q'] → I4 m' q' := by
          intro h
          have ec : cutp p e.1 (decide (dig R k = 1)) q = (q.1, q.2.1, q.2.2.1, cN p e.1 q.1, cD p e.1 q.1) := by unfold cutp; rw [if_pos h]
          rw [ec] at Qc ⊢
          unfold fX10_hasPart_b159
          rw [M_cut F.1 V E.1 E.2 Q hr, qb1_s, if_neg (by decide), qn_s, qn_s]
          have fr := ((hpF_I m (k := 18) (by decide) (zI (cN p e.1 q.1))).tr (hpF_I _ (k := 19) (by decide) (zI (cD p e.1 q.1)))).tr ((hpF_I _ (k := 68) (by decide) (zI (cN p e.1 q.1))).tr (hpF_I _ (k := 69) (by decide) (zI (cD p e.1 q.1))))
          obtain ⟨m', a1, a2, a3⟩ := nx' (pkI (pkI (pkI (pkI m 18 (zI (cN p e.1 q.1))) 19 (zI (cD p e.1 q.1))) 68 (zI (cN p e.1 q.1))) 69 (zI (cD p e.1 q.1))) (q.1, q.2.1, q.2.2.1, cN p e.1 q.1, cD p e.1 q.1) (F.hp fr) Qc ⟨I.1, I.2.1, rfl, rfl⟩ rfl
          exact ⟨m', a1, fr.tr a2, a3⟩
        have last : ¬ decide (0 < eA p e.1 q.1) = decide (dig R k = 1) → ∃ m', fX10_hasPart_b159 (fX10_hasPart_b22 ((e :: s).length + g)) m (zI (R : Int)) (zI (q.1 : Int)) (zI (k : Int)) (zI (e.1 : Int)) 0 = some (b2 (!(rcl p R s (k + 1) (cutp p e.1 (decide (dig R k = 1)) q)).isEmpty), m') ∧ hpF m m' ∧ ∀ q', rcl p R s (k + 1) (cutp p e.1 (decide (dig R k = 1)) q) = [q'] → I4 m' q' := by
          intro h
          have ec : cutp p e.1 (decide (dig R k = 1)) q = (q.1, cN p e.1 q.1, cD p e.1 q.1, q.2.2.2.1, q.2.2.2.2) := by unfold cutp; rw [if_neg h]
          rw [ec] at Qc ⊢
          unfold fX10_hasPart_b159
          rw [M_cut F.1 V E.1 E.2 Q hr, qb1_s, if_pos rfl, qn_s, qn_s]
          have fr := ((hpF_I m (k := 18) (by decide) (zI (cN p e.1 q.1))).tr (hpF_I _ (k := 19) (by decide) (zI (cD p e.1 q.1)))).tr ((hpF_I _ (k := 66) (by decide) (zI (cN p e.1 q.1))).tr (hpF_I _ (k := 67) (by decide) (zI (cD p e.1 q.1))))
          obtain ⟨m', a1, a2, a3⟩ := nx' (pkI (pkI (pkI (pkI m 18 (zI (cN p e.1 q.1))) 19 (zI (cD p e.1 q.1))) 66 (zI (cN p e.1 q.1))) 67 (zI (cD p e.1 q.1))) (q.1, cN p e.1 q.1, cD p e.1 q.1, q.2.2.2.1, q.2.2.2.2) (F.hp fr) Qc ⟨rfl, rfl, I.2.2.1, I.2.2.2⟩ rfl
          exact ⟨m', a1, fr.tr a2, a3⟩
        unfold fX10_hasPart_b140 fX10_hasPart_b151
        obtain ⟨z1, z2', z3⟩ := sg_z (ev p e.1 q.1 q.2.1 q.2.2.1)
        by_cases cA : 0 < ev p e.1 q.1 q.2.1 q.2.2.1
        · have ng : ¬ zI (sg (ev p e.1 q.1 q.2.1 q.2.2.1)) ≤ 0 := fun g => absurd (z3.mpr cA) (nlt.mpr g)
          rw [if_neg ng]
          rcases how with h | h
          · rw [h, if_pos (show zI ((1 : Nat) : Int) = 1 from by decide), if_pos rfl]
            rw [h] at first
            exact first (by rw [decide_eq_true (sA.mp cA)]; rfl)
          · rw [h, if_neg (show ¬ zI ((2 : Nat) : Int) = 1 from by decide), if_neg (by decide)]
            rw [h] at last
            exact last (by rw [decide_eq_true (sA.mp cA)]; decide)
        · have ng : zI (sg (ev p e.1 q.1 q.2.1 q.2.2.1)) ≤ 0 := nlt.mp (fun g => cA (z3.mp g))
          rw [if_pos ng]
          rcases how with h | h
          · rw [h, if_pos (show zI ((1 : Nat) : Int) = 1 from by decide), if_neg (by decide)]
            rw [h] at last
            exact last (by rw [decide_eq_false (fun g => cA (sA.mpr g))]; decide)
          · rw [h, if_neg (show ¬ zI ((2 : Nat) : Int) = 1 from by decide), if_pos rfl]
            rw [h] at first
            exact first (by rw [decide_eq_false (fun g => cA (sA.mpr g))]; decide)
end S
