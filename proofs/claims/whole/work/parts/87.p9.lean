/-! LOAD: the whole text, read by both sides -/
section S
variable {x m l : Pk} {tx : Nat → Int} {n q : Nat} {pl : Pln}
/-- the reference's told walls, up to c, and the loader's walls, agree -/
theorem qb3_s {α γ δ β : Type} (x : α) (y : γ) (z : δ) (k : α → γ → δ → Option β) : qb3 (some (x, y, z)) k = k x y z := rfl
def Tld (m : Pk) (pl : Pln) (c : Nat) : Prop := ∀ i, i < c → m.1 17 (7 * i) = 1 ∧ m.1 17 (7 * i + 1) = zI (pX pl i) ∧ m.1 17 (7 * i + 2) = zI (pY pl i) ∧ m.1 17 (7 * i + 3) = zI (pU pl i) ∧ m.1 17 (7 * i + 4) = zI (pV pl i) ∧ m.1 17 (7 * i + 5) = zI (pK pl i) ∧ m.1 17 (7 * i + 6) = b2 (pM pl i)
def ReadR (c : Option (Int32 × Pk × Pk)) (d : Option (Int32 × Pk)) (x m : Pk) (tx : Nat → Int) (n : Nat) (pl : Pln) : Prop :=
  (∃ (k : Nat) (x' m' l' : Pk) (pl' : Pln), c = some (1, x', l') ∧ d = some (zI (k : Int), m') ∧ k ≤ 12 ∧ ReW l' pl' ∧ VP pl' ∧ pS pl' = pS pl ∧ pB pl' = pB pl ∧ (∀ i, i < 12 → pP pl' i = decide (i < k)) ∧ Tld m' pl' k ∧ m'.2.1 15 = 0 ∧ TX x' m' tx n ∧ xo x x' ∧ mo m m') ∨
  (∃ (it : Int32) (x' m' l' : Pk) (pl' : Pln), c = some (0, x', l') ∧ d = some (it, m') ∧ ReW l' pl' ∧ pS pl' = pS pl ∧ pB pl' = pB pl ∧ FA x' m' it ∧ xf x x' ∧ mo m m')
theorem J_head (R : ReW l pl) {c : Nat} (hc : c < 12) {K : Int} (D : LD x m tx n q) (hq : q < n) : ItemR (qn (pkI x 3 ((x.2.1 3) + 1)) (fun p51_t => qb1 (fX7_codeAt p51_t (p51_t.2.1 3)) (fun x62 => if x62 = 109 then (qn (pkI p51_t 3 ((p51_t.2.1 3) + 1)) (fun p80_t => fX7_readItem_b83 p80_t l (zI (c : Int)) (zI K) 1)) else (fX7_readItem_b83 p51_t l (zI (c : Int)) (zI K) 0)))) (fX10_readItem m (zI (c : Int)) (zI K)) x (pkA (pkA (pkA m 17 (zI ((7 * c : Nat) : Int)) 1) 17 (zI ((7 * c + 5 : Nat) : Int)) (zI K)) 17 (zI ((7 * c + 6 : Nat) : Int)) (b2 (decide (ch tx n (q + 1) = 109)))) tx n c pl K (decide (ch tx n (q + 1) = 109)) := by
  obtain ⟨T, d1, d2, d3, d4⟩ := id D
  have h300 := T.1
  have D1 := D.st (r := q + 1) (s := q + 1) (by omega) rfl
  obtain ⟨T1, b1, b2', b3, b4⟩ := id D1
  have r := ch_r T (q + 1)
  obtain ⟨e1, e2⟩ := ch_sep (tx := tx) (n := n) (q := q + 1) 109 (by decide)
  have h0 : 7 * c < 2147483648 := by omega
  have h5 : 7 * c + 5 < 2147483648 := by omega
  have h6 : 7 * c + 6 < 2147483648 := by omega
  have five : (7 : Int32) * zI (c : Int) + 5 = zI ((7 * c + 5 : Nat) : Int) := ix7 c 5
  have six : (7 : Int32) * zI (c : Int) + 6 = zI ((7 * c + 6 : Nat) : Int) := ix7 c 6
  unfold fX10_readItem
  have i1 : zI (chC tx n (q + 1)) = 109 ↔ chC tx n (q + 1) = 109 := zI_eq (b := 109) (rI_s (by omega) (by omega)) (rI_s (by decide) (by decide))
  have i2 : zI (ch tx n (q + 1)) = 109 ↔ ch tx n (q + 1) = 109 := zI_eq (b := 109) (rI_s (by omega) (by omega)) (rI_s (by decide) (by decide))
  simp only [qn_s]
  rw [d1, d2, ix_s, b1, C_codeAt T1 (by omega), qb1_s, M_here T1 b2' (by omega), qb1_s]
  have go : ∀ (mv : Bool) (q2 : Nat) (x1 m1 : Pk), LD x1 m1 tx n q2 → xo x x1 → mo m m1 → m1.1 = m.1 → ItemR (fX7_readItem_b83 x1 l (zI (c : Int)) (zI K) (b2 mv)) (qst 84 (7 * zI (c : Int)) (qn (pkA m1 17 (7 * zI (c : Int)) 1) (fun p44_t => qst 84 ((7 * zI (c : Int)) + 5) (qn (pkA p44_t 17 ((7 * zI (c : Int)) + 5) (zI K)) (fun p56_t => qst 84 ((7 * zI (c : Int)) + 6) (qn (pkA p56_t 17 ((7 * zI (c : Int)) + 6) (b2 mv)) (fun p69_t => fX10_readItem_b73 FU p69_t (zI (c : Int)) 1))))))) x (pkA (pkA (pkA m 17 (zI ((7 * c : Nat) : Int)) 1) 17 (zI ((7 * c + 5 : Nat) : Int)) (zI K)) 17 (zI ((7 * c + 6 : Nat) : Int)) (b2 mv)) tx n c pl K mv := by
    intro mv q2 x1 m1 D2 hx hm em
    rw [five, six, ix7_0, qst_at (by omega) (by decide), qn_s, qst_at (by omega) (by decide), qn_s, qst_at (by omega) (by decide), qn_s]
    unfold fX7_readItem_b83
    refine J_four R hc K mv 4 0 FU FU x1 _ q2 (fun _ => 0) rfl (by decide) (by decide) (((D2.mA h0 _).mA h5 _).mA h6 _) (fun j hj => absurd hj (by omega)) (fun j hj => ?_) hx ?_
    · rw [pAt h6, pAt h6, pAt h5, pAt h5, pAt h0, pAt h0, em]
    · refine ⟨fun k hk => ?_, fun k k1 k2 k3 => ?_, ?_⟩
      · rw [pA1 h6, if_neg hk, pA1 h5, if_neg hk, pA1 h0, if_neg hk, pA1 h6, if_neg hk, pA1 h5, if_neg hk, pA1 h0, if_neg hk, em]
      · rw [pkA_at h6, pkA_at h5, pkA_at h0, pkA_at h6, pkA_at h5, pkA_at h0]; exact hm.2.1 k k1 k2 k3
      · rw [pkA_at h6, pkA_at h5, pkA_at h0, pkA_at h6, pkA_at h5, pkA_at h0]; exact hm.2.2
  by_cases e : ch tx n (q + 1) = 109
  · have hq2 := e2 e
    have D2 := D1.st (r := q + 2) (s := q + 2) (by omega) rfl
    rw [if_pos (i1.mpr (e1.mpr e)), if_pos (i2.mpr e), decide_eq_true e]
    unfold fX10_readItem_b24
    rw [b2', ix_s, qn_s]
    exact go true (q + 2) _ _ D2 ((xo_I _ _).tr (xo_I _ _)) ((mo_I _ _).tr (mo_I _ _)) rfl
  · rw [if_neg (fun g => e (e1.mp (i1.mp g))), if_neg (fun g => e (i2.mp g)), decide_eq_false e]
    unfold fX10_readItem_b24
    rw [b2', Int32.add_zero, qn_s]
    have e14 : pkI (pkI m 14 (zI ((q + 1 : Nat) : Int))) 14 (zI ((q + 1 : Nat) : Int)) = pkI m 14 (zI ((q + 1 : Nat) : Int)) := by
      show (_, _, _) = (_, _, _)
      congr 1
      congr 1
      funext j
      show va_up (va_up m.2.1 14 _) 14 _ j = va_up m.2.1 14 _ j
      unfold va_up
      by_cases c : j = 14
      · rw [if_pos c, if_pos c]
      · rw [if_neg c, if_neg c]
    rw [e14]
    exact go false (q + 1) _ _ D1 (xo_I _ _) (mo_I _ _) rfl
theorem pSet_wt {i : Nat} {pr mv : Bool} {k x y u v : Int} (p : Pln) : pS (pSet p i pr mv k x y u v) = pS p ∧ pB (pSet p i pr mv k x y u v) = pB p := ⟨rfl, rfl⟩
theorem ReadR.mono {c : Option (Int32 × Pk × Pk)} {d : Option (Int32 × Pk)} {x0 m0 : Pk} {pl0 : Pln} (h : ReadR c d x m tx n pl) (hx : xo x0 x) (hm : mo m0 m) (w1 : pS pl = pS pl0) (w2 : pB pl = pB pl0) : ReadR c d x0 m0 tx n pl0 := by
  rcases h with ⟨k, x', m', l', pl', a1, a2, a3, a4, a5, a6, a7, a8, a9, a10, a11, a12, a13⟩ | ⟨it, x', m', l', pl', a1, a2, a3, a4, a5, a6, a7, a8⟩
  · exact Or.inl ⟨k, x', m', l', pl', a1, a2, a3, a4, a5, a6.trans w1, a7.trans w2, a8, a9, a10, a11, hx.tr a12, hm.tr a13⟩
  · exact Or.inr ⟨it, x', m', l', pl', a1, a2, a3, a4.trans w1, a5.trans w2, a6, hx.f.tr a7, hm.tr a8⟩
/-- with a fault told, the reference's reading ends -/
theorem M_read_end {g : Nat} {k : Nat} (h : m.2.1 15 = zI (k : Int)) (hk : 1 ≤ k ∧ k ≤ 4) (y : Int32) : fX10_read_b107 (fX10_read_b12 (g + 1)) m y = some (y, m) := by
  have n15 : ¬ m.2.1 15 = 0 := by rw [h, z0, zI_eq (rI_n (by omega)) r0]; omega
  unfold fX10_read_b107 fX10_read_b120
  rw [if_neg n15, qn_s, Int32.add_zero]
  show fX10_read_b12_s _ m y = _
  unfold fX10_read_b12_s
  rw [if_neg n15]
  by_cases c : m.2.1 6 ≤ m.2.1 14
  · rw [if_pos c]
  · rw [if_neg c]
theorem J_kind {c : Nat} (hc : c ≤ 12) {K : Int} (hK : 0 ≤ K ∧ K ≤ 2) {g1 g2 : Nat} (D : LD x m tx n q) (hq : q < n) (R : ReW l pl) (V : VP pl) (P : ∀ i, i < 12 → pP pl i = decide (i < c)) (TL : Tld m pl c) (next : c < 12 → ∀ (q : Nat) (x m l : Pk) (pl : Pln), LD x m tx n q → ReW l pl → VP pl → (∀ i, i < 12 → pP pl i = decide (i < c + 1)) → Tld m pl (c + 1) → ReadR (fX7_readInto_b11 g1 x l (zI ((c + 1 : Nat) : Int))) (fX10_read_b12 (g2 + 1) m (zI ((c + 1 : Nat) : Int))) x m tx n pl) :
    ReadR (qb3 (if 0 ≤ zI K then (if zI (c : Int) < 12 then (qn (pkI x 3 ((x.2.1 3) + 1)) (fun p51_t => qb1 (fX7_codeAt p51_t (p51_t.2.1 3)) (fun x62 => if x62 = 109 then (qn (pkI p51_t 3 ((p51_t.2.1 3) + 1)) (fun p80_t => fX7_readItem_b83 p80_t l (zI (c : Int)) (zI K) 1)) else (fX7_readItem_b83 p51_t l (zI (c : Int)) (zI K) 0)))) else (qb2 (fX7_fault x 4 (x.2.1 3) (zI (c : Int))) (fun x40 p40_t => some (x40, p40_t, l)))) else (qb2 (fX7_fault x 1 (x.2.1 3) (zI (c : Int))) (fun x23 p23_t => some (x23, p23_t, l)))) (fun x31 p31_t p31_o => if x31 = 0 then (some (0, p31_t, p31_o)) else (qn (zI (c : Int) + 1) (fun x39 => fX7_readInto_b11 g1 p31_t p31_o x39)))) (fX10_read_b66 (fX10_read_b12 (g2 + 1)) m (zI (c : Int)) (zI K)) x m tx n pl := by
  have k0 : (0 : Int32) ≤ zI K := (zI_le r0 (rI_s (by omega) (by omega))).mpr hK.1
  obtain ⟨T, d1, d2, d3, d4⟩ := id D
  unfold fX10_read_b66
  rw [if_pos k0, if_pos k0]
  by_cases h12 : c < 12
  · have ne12 : ¬ zI (c : Int) = 12 := by rw [show (12 : Int32) = zI 12 from rfl, zI_eq (rI_n (by omega)) (rI_s (by decide) (by decide))]; omega
    rw [if_pos (i12b h12), if_neg ne12]
    have h0 : 7 * c < 2147483648 := by omega
    have h5 : 7 * c + 5 < 2147483648 := by omega
    have h6 : 7 * c + 6 < 2147483648 := by omega
    have key := J_head R h12 (K := K) D hq
    generalize decide (ch tx n (q + 1) = 109) = mv at key
    rcases key with ⟨W, q', x', m', l', a1, a2, a3, a4, a5, a6, a7, a8, a9, a10⟩ | ⟨x', m', l', pl', a1, a2, a3, a4, a5, a6, a7, a8⟩
    · rw [a1, a2, qb1_s, qb3_s]
      have e15 : m'.2.1 15 = 0 := a5.2.2.2.1
      unfold fX10_read_b107 fX10_read_b120
      rw [if_neg (by decide), qn_s, ix_s, if_pos e15, qn_s]
      have fm : mo m m' := by
        refine mo.tr ?_ a10
        exact ((mo_A m h0 _).tr (mo_A _ h5 _)).tr (mo_A _ h6 _)
      refine (next h12 q' x' m' l' (pSet pl c true mv K (W 0) (W 1) (W 2) (W 3)) a5 a6 (VP_set V (fun _ => ⟨a3 0 (by decide), a3 1 (by decide), a3 2 (by decide), a3 3 (by decide), a4, hK⟩)) (fun i hi => ?_) (fun i hi => ?_)).mono a9 fm rfl rfl
      · show ug (pP pl) c true i = _
        by_cases e : i = c
        · rw [e, ug_s, decide_eq_true (by omega)]
        · rw [ug_n _ _ e, P i hi]
          by_cases e2 : i < c
          · rw [decide_eq_true e2, decide_eq_true (by omega)]
          · rw [decide_eq_false e2, decide_eq_false (by omega)]
      · show m'.1 17 (7 * i) = 1 ∧ m'.1 17 (7 * i + 1) = zI (ug (pX pl) c (W 0) i) ∧ m'.1 17 (7 * i + 2) = zI (ug (pY pl) c (W 1) i) ∧ m'.1 17 (7 * i + 3) = zI (ug (pU pl) c (W 2) i) ∧ m'.1 17 (7 * i + 4) = zI (ug (pV pl) c (W 3) i) ∧ m'.1 17 (7 * i + 5) = zI (ug (pK pl) c K i) ∧ m'.1 17 (7 * i + 6) = b2 (ug (pM pl) c mv i)
        by_cases e : i = c
        · subst e
          simp only [ug_s]
          refine ⟨?_, a7 0 (by decide), a7 1 (by decide), a7 2 (by decide), a7 3 (by decide), ?_, ?_⟩
          · rw [a8 _ (by omega), pAt h6, if_neg (fun g => by omega), pAt h5, if_neg (fun g => by omega), pAt h0, if_pos ⟨rfl, rfl⟩]
          · rw [a8 _ (by omega), pAt h6, if_neg (fun g => by omega), pAt h5, if_pos ⟨rfl, rfl⟩]
          · rw [a8 _ (by omega), pAt h6, if_pos ⟨rfl, rfl⟩]
        · simp only [ug_n _ _ e]
          have old : ∀ j, j < 7 → m'.1 17 (7 * i + j) = m.1 17 (7 * i + j) := by
            intro j hj
            rw [a8 _ (by omega), pAt h6, if_neg (fun g => by omega), pAt h5, if_neg (fun g => by omega), pAt h0, if_neg (fun g => by omega)]
          have o0 := old 0 (by decide)
          rw [Nat.add_zero] at o0
          rw [o0, old 1 (by decide), old 2 (by decide), old 3 (by decide), old 4 (by decide), old 5 (by decide), old 6 (by decide)]
          exact TL i (by omega)
    · obtain ⟨w1, w2, w3, kk, w5, w6⟩ := id a6
      rw [a1, a2, qb1_s, M_read_end w5 w6, qb3_s, if_pos rfl]
      refine Or.inr ⟨_, x', m', l', pl', rfl, rfl, a3, a4, a5, a6, a7, ?_⟩
      exact (((mo_A m h0 _).tr (mo_A _ h5 _)).tr (mo_A _ h6 _)).tr a8
  · have e : c = 12 := by omega
    subst e
    obtain ⟨x', m', f1, f2, f3, f4, f5, f6, f7⟩ := J_fault (x := x) (m := m) (k := 4) (by decide) d3 (zI (q : Int)) (zI ((12 : Nat) : Int))
    obtain ⟨w1, w2, w3, kk, w5, w6⟩ := id f3
    rw [if_neg (by decide), if_pos (by decide), d1, d2, show (4 : Int32) = zI ((4 : Nat) : Int) from rfl, f1, f2, qb2_s, qb1_s, M_read_end w5 w6, qb3_s, if_pos rfl]
    exact Or.inr ⟨_, x', m', l, pl, rfl, rfl, R, rfl, rfl, f3, f4, f5⟩
theorem J_step {c : Nat} (hc : c ≤ 12) {g1 g2 : Nat} (D : LD x m tx n q) (R : ReW l pl) (V : VP pl) (P : ∀ i, i < 12 → pP pl i = decide (i < c)) (TL : Tld m pl c) (next : c < 12 → ∀ (q : Nat) (x m l : Pk) (pl : Pln), LD x m tx n q → ReW l pl → VP pl → (∀ i, i < 12 → pP pl i = decide (i < c + 1)) → Tld m pl (c + 1) → ReadR (fX7_readInto_b11 g1 x l (zI ((c + 1 : Nat) : Int))) (fX10_read_b12 (g2 + 1) m (zI ((c + 1 : Nat) : Int))) x m tx n pl) :
    ReadR (fX7_readInto_b11 (g1 + 1) x l (zI (c : Int))) (fX10_read_b12 (g2 + 1 + 1) m (zI (c : Int))) x m tx n pl := by
  obtain ⟨T, d1, d2, d3, d4⟩ := id D
  have h300 := T.1
  show ReadR (fX7_readInto_b11_s (fX7_readInto_b11 g1) x l (zI (c : Int))) (fX10_read_b12_s (fX10_read_b12 (g2 + 1)) m (zI (c : Int))) x m tx n pl
  unfold fX7_readInto_b11_s fX10_read_b12_s
  have nc : ¬ (12 : Int32) < zI (c : Int) := by rw [show (12 : Int32) = zI 12 from rfl, zI_lt (rI_s (by decide) (by decide)) (rI_n (by omega))]; omega
  rw [if_neg nc, T.2.1, d1, T.2.2.1, d2]
  by_cases hq : q < n
  · have c1 : ¬ zI (n : Int) ≤ zI (q : Int) := ix_a hq (by omega)
    have rr := T.2.2.2 q hq
    have e1 : chC tx n q = tx q := by unfold chC; rw [if_pos hq]
    have e2 : ch tx n q = tx q := by unfold ch; rw [if_pos hq]
    rw [if_neg c1, if_neg c1, if_pos d3, M_here T d2 (by omega), qb1_s, e2]
    unfold fX7_readItem fX7_kindOfLetter
    rw [d1, C_codeAt T (by omega), qb1_s, e1]
    have kd := fun K hK => J_kind hc (K := K) hK D hq R V P TL next
    rw [d1] at kd
    have eq : ∀ z : Int, -100000 ≤ z ∧ z ≤ 100000 → (zI (tx q) = zI z ↔ tx q = z) := fun z hz => zI_eq (rI_s (by omega) (by omega)) (rI_s hz.1 hz.2)
    have q3 : zI (tx q) = 103 ↔ tx q = 103 := eq 103 (by decide)
    have q1 : zI (tx q) = 111 ↔ tx q = 111 := eq 111 (by decide)
    have q5 : zI (tx q) = 115 ↔ tx q = 115 := eq 115 (by decide)
    have n3 : ¬ tx q = 103 → ¬ zI (tx q) = 103 := fun g h => g (q3.mp h)
    have n1 : ¬ tx q = 111 → ¬ zI (tx q) = 111 := fun g h => g (q1.mp h)
    have n5 : ¬ tx q = 115 → ¬ zI (tx q) = 115 := fun g h => g (q5.mp h)
    by_cases k1 : tx q = 115
    · rw [if_neg (n3 (by omega)), if_neg (n1 (by omega)), if_pos (q5.mpr k1), if_pos (q5.mpr k1), qb1_s]
      exact kd 0 (by decide)
    · by_cases k2 : tx q = 103
      · rw [if_pos (q3.mpr k2), if_neg (n5 k1), if_pos (q3.mpr k2), qb1_s]
        exact kd 1 (by decide)
      · by_cases k3 : tx q = 111
        · rw [if_neg (n3 k2), if_pos (q1.mpr k3), if_neg (n5 k1), if_neg (n3 k2), if_pos (q1.mpr k3), qb1_s]
          exact kd 2 (by decide)
        · rw [if_neg (n3 k2), if_neg (n1 k3), if_neg (n5 k1), if_neg (n5 k1), if_neg (n3 k2), if_neg (n1 k3), qb1_s]
          unfold fX10_read_b66
          obtain ⟨x', m', f1, f2, f3, f4, f5, f6, f7⟩ := J_fault (x := x) (m := m) (k := 1) (by decide) d3 (zI (q : Int)) (zI (c : Int))
          obtain ⟨w1, w2, w3, kk, w5, w6⟩ := id f3
          rw [if_neg (by decide), if_neg (by decide), d2, show (1 : Int32) = zI ((1 : Nat) : Int) from rfl, f1, f2, qb2_s, qb1_s, M_read_end w5 w6, qb3_s, if_pos rfl]
          exact Or.inr ⟨_, x', m', l, pl, rfl, rfl, R, rfl, rfl, f3, f4, f5⟩
  · have c1 : zI (n : Int) ≤ zI (q : Int) := ix_c (by omega) (by omega)
    rw [if_pos c1, if_pos c1]
    exact Or.inl ⟨c, x, m, l, pl, rfl, rfl, hc, R, V, rfl, rfl, P, TL, d3, T, xo.rf x, mo.rf m⟩
theorem J_read : ∀ (k c f1 f2 q : Nat) (x m l : Pk) (pl : Pln), c + k = 12 → k < f1 → k + 1 < f2 → LD x m tx n q → ReW l pl → VP pl → (∀ i, i < 12 → pP pl i = decide (i < c)) → Tld m pl c → ReadR (fX7_readInto_b11 f1 x l (zI (c : Int))) (fX10_read_b12 f2 m (zI (c : Int))) x m tx n pl := by
  intro k
  induction k with
  | zero =>
    intro c f1 f2 q x m l pl hk h1 h2 D R V P TL
    obtain ⟨g1, rfl⟩ : ∃ g, f1 = g + 1 := ⟨f1 - 1, by omega⟩
    obtain ⟨g2, rfl⟩ : ∃ g, f2 = g + 1 + 1 := ⟨f2 - 2, by omega⟩
    exact J_step (by omega) D R V P TL (fun h => absurd h (by omega))
  | succ k ih =>
    intro c f1 f2 q x m l pl hk h1 h2 D R V P TL
    obtain ⟨g1, rfl⟩ : ∃ g, f1 = g + 1 := ⟨f1 - 1, by omega⟩
    obtain ⟨g2, rfl⟩ : ∃ g, f2 = g + 1 + 1 := ⟨f2 - 2, by omega⟩
    exact J_step (by omega) D R V P TL (fun h q x m l pl D R V P TL => ih (c + 1) g1 (g2 + 1) q x m l pl (by omega) (by omega) (by omega) D R V P TL)
theorem J_readAll {s b : Int} (h7 : l.2.1 7 = zI s) (h8 : l.2.1 8 = zI b) (hs : 0 ≤ s ∧ s ≤ 9) (hb : 0 ≤ b ∧ b ≤ 9) (T : TX x m tx n) : ReadR (fX7_readInto x l) (fX10_read m) x m tx n (pNo s b) := by
  unfold fX7_readInto fX10_read
  obtain ⟨l1, a1, a2⟩ := C_dropAll h7 h8
  rw [a1, qb1_s, qn_s, qn_s, qn_s]
  have fx : xo x (pkI x 3 (zI ((0 : Nat) : Int))) := xo_I _ _
  have fm : mo m (pkI (pkI m 14 (zI ((0 : Nat) : Int))) 15 0) := ⟨fun _ _ => rfl, fun k h1 h2 _ => by rw [pI, if_neg h2, pI, if_neg h1], rfl⟩
  have D : LD (pkI x 3 (zI ((0 : Nat) : Int))) (pkI (pkI m 14 (zI ((0 : Nat) : Int))) 15 0) tx n 0 := ⟨T.xm fx.f fm, rfl, rfl, rfl, by omega⟩
  exact (J_read 12 0 FU FU 0 _ _ l1 (pNo s b) rfl (by decide) (by decide) D a2 (pNo_vp hs hb) (fun i _ => by rw [decide_eq_false (by omega)]; rfl) (fun i hi => absurd hi (by omega))).mono fx fm rfl rfl
end S
