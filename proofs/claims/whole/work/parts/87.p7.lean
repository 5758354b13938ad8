/-! LOAD: one number, read by both sides -/
section S
variable {x m : Pk} {tx : Nat → Int} {n q : Nat}
def LD (x m : Pk) (tx : Nat → Int) (n q : Nat) : Prop := TX x m tx n ∧ x.2.1 3 = zI (q : Int) ∧ m.2.1 14 = zI (q : Int) ∧ m.2.1 15 = 0 ∧ q ≤ n
/-- what reading leaves as it was -/
def xo (x x' : Pk) : Prop := (∀ k, ¬ k = 1 → x'.1 k = x.1 k) ∧ (∀ k, ¬ k = 3 → x'.2.1 k = x.2.1 k) ∧ x'.2.2 = x.2.2
def xf (x x' : Pk) : Prop := (∀ k, ¬ k = 1 → x'.1 k = x.1 k) ∧ (∀ k, ¬ k = 3 → ¬ k = 4 → ¬ k = 5 → ¬ k = 6 → x'.2.1 k = x.2.1 k) ∧ x'.2.2 = x.2.2
def mo (m m' : Pk) : Prop := (∀ k, ¬ k = 17 → m'.1 k = m.1 k) ∧ (∀ k, ¬ k = 14 → ¬ k = 15 → ¬ k = 16 → m'.2.1 k = m.2.1 k) ∧ m'.2.2 = m.2.2
theorem xo.rf (x : Pk) : xo x x := ⟨fun _ _ => rfl, fun _ _ => rfl, rfl⟩
theorem mo.rf (x : Pk) : mo x x := ⟨fun _ _ => rfl, fun _ _ _ _ => rfl, rfl⟩
theorem xo.tr {a b c : Pk} (h : xo a b) (g : xo b c) : xo a c := ⟨fun k hk => (g.1 k hk).trans (h.1 k hk), fun k hk => (g.2.1 k hk).trans (h.2.1 k hk), g.2.2.trans h.2.2⟩
theorem xo.f {a b : Pk} (h : xo a b) : xf a b := ⟨h.1, fun k h3 _ _ _ => h.2.1 k h3, h.2.2⟩
theorem xf.tr {a b c : Pk} (h : xf a b) (g : xf b c) : xf a c := ⟨fun k hk => (g.1 k hk).trans (h.1 k hk), fun k h3 h4 h5 h6 => (g.2.1 k h3 h4 h5 h6).trans (h.2.1 k h3 h4 h5 h6), g.2.2.trans h.2.2⟩
theorem mo.tr {a b c : Pk} (h : mo a b) (g : mo b c) : mo a c := ⟨fun k hk => (g.1 k hk).trans (h.1 k hk), fun k h3 h4 h5 => (g.2.1 k h3 h4 h5).trans (h.2.1 k h3 h4 h5), g.2.2.trans h.2.2⟩
theorem TX.xm {x' m' : Pk} (T : TX x m tx n) (h : xf x x') (g : mo m m') : TX x' m' tx n := by
  obtain ⟨h1, h2, h3, h4⟩ := T
  exact ⟨h1, by rw [h.2.1 2 (by decide) (by decide) (by decide) (by decide)]; exact h2, by rw [g.2.1 6 (by decide) (by decide) (by decide)]; exact h3, fun j hj => by rw [h.1 0 (by decide), g.1 5 (by decide)]; exact h4 j hj⟩
theorem xo_I (x : Pk) (v : Int32) : xo x (pkI x 3 v) := ⟨fun _ _ => rfl, fun k hk => by rw [pI, if_neg hk], rfl⟩
theorem mo_I (m : Pk) (v : Int32) : mo m (pkI m 14 v) := ⟨fun _ _ => rfl, fun k hk _ _ => by rw [pI, if_neg hk], rfl⟩
theorem LD.st {r s : Nat} (D : LD x m tx n q) (h : r ≤ n) (e : s = r) : LD (pkI x 3 (zI (r : Int))) (pkI m 14 (zI (s : Int))) tx n r := by
  obtain ⟨T, d1, d2, d3, d4⟩ := D
  exact ⟨T.xm (xo_I _ _).f (mo_I _ _), by rw [pI, if_pos rfl], by rw [pI, if_pos rfl, e], by rw [pI, if_neg (by decide)]; exact d3, h⟩
/-- both sides hold a fault of this kind, at this place, in this item -/
def FA (x m : Pk) (it : Int32) : Prop := x.2.1 4 = m.2.1 16 ∧ x.2.1 5 = m.2.1 15 ∧ x.2.1 6 = it ∧ ∃ k : Nat, m.2.1 15 = zI (k : Int) ∧ 1 ≤ k ∧ k ≤ 4
def dg (tx : Nat → Int) (n q : Nat) : Bool := decide (q < n) && (decide (48 ≤ tx q) && decide (tx q ≤ 57))
theorem dg_t (h : dg tx n q = true) : q < n ∧ 48 ≤ tx q ∧ tx q ≤ 57 := by
  unfold dg at h
  simp only [Bool.and_eq_true, decide_eq_true_eq] at h
  exact h
theorem ch_r (T : TX x m tx n) (q : Nat) : -1 ≤ chC tx n q ∧ chC tx n q ≤ 126 ∧ 0 ≤ ch tx n q ∧ ch tx n q ≤ 126 := by
  unfold chC ch
  by_cases c : q < n
  · have := T.2.2.2 q c
    rw [if_pos c, if_pos c]
    omega
  · rw [if_neg c, if_neg c]; decide
theorem C_dig (T : TX x m tx n) : fX7_isDigit (zI (chC tx n q)) = some (b2 (dg tx n q)) := by
  rw [C_isDigit ⟨(ch_r T q).1, (ch_r T q).2.1⟩]
  unfold chC dg
  by_cases c : q < n
  · rw [if_pos c, decide_eq_true c, Bool.true_and]
  · rw [if_neg c, decide_eq_false c]; rfl
theorem M_dig (T : TX x m tx n) (h : m.2.1 14 = zI (q : Int)) (hq : q < 2147483648) : fX10_isDigit m = some (b2 (dg tx n q)) := by
  unfold fX10_isDigit
  have r := (ch_r T q).2.2
  rw [M_here T h hq, qb1_s, qb1_s, show (48 : Int32) = zI 48 from rfl, show (57 : Int32) = zI 57 from rfl]
  have e : dg tx n q = (decide (48 ≤ ch tx n q) && decide (ch tx n q ≤ 57)) := by
    unfold dg ch
    by_cases c : q < n
    · rw [if_pos c, decide_eq_true c, Bool.true_and]
    · rw [if_neg c, decide_eq_false c]; rfl
  rw [e]
  by_cases c : ch tx n q < 48
  · rw [if_pos ((zI_lt (rI_s (by omega) (by omega)) (rI_s (by decide) (by decide))).mpr c), decide_eq_false (by omega)]; rfl
  · rw [if_neg (fun g => c ((zI_lt (rI_s (by omega) (by omega)) (rI_s (by decide) (by decide))).mp g)), decide_eq_true (by omega)]
    by_cases d : 57 < ch tx n q
    · rw [if_pos ((zI_lt (rI_s (by decide) (by decide)) (rI_s (by omega) (by omega))).mpr d), decide_eq_false (by omega)]; rfl
    · rw [if_neg (fun g => d ((zI_lt (rI_s (by decide) (by decide)) (rI_s (by omega) (by omega))).mp g)), decide_eq_true (by omega)]; rfl
def NumR (c d : Option (Int32 × Pk)) (x m : Pk) (tx : Nat → Int) (n i : Nat) (it : Int32) : Prop :=
  (∃ (v : Int) (q' : Nat) (x' m' : Pk), c = some (1, x') ∧ d = some (zI v, m') ∧ (0 ≤ v ∧ v ≤ 63) ∧ LD x' m' tx n q' ∧ x'.1 1 i = zI v ∧ (∀ j, ¬ j = i → x'.1 1 j = x.1 1 j) ∧ xo x x' ∧ mo m m' ∧ m'.1 = m.1) ∨
  (∃ (v : Int32) (x' m' : Pk), c = some (0, x') ∧ d = some (v, m') ∧ FA x' m' it ∧ xf x x' ∧ mo m m' ∧ m'.1 = m.1)
theorem NumR.mono {c d : Option (Int32 × Pk)} {x0 m0 : Pk} {i : Nat} {it : Int32} (h : NumR c d x m tx n i it) (hx : xo x0 x) (h1 : x.1 1 = x0.1 1) (hm : mo m0 m) (h2 : m.1 = m0.1) : NumR c d x0 m0 tx n i it := by
  rcases h with ⟨v, q', x', m', a1, a2, a3, a4, a5, a6, a7, a8, a9⟩ | ⟨v, x', m', a1, a2, a3, a4, a5, a6⟩
  · exact Or.inl ⟨v, q', x', m', a1, a2, a3, a4, a5, fun j hj => by rw [a6 j hj, h1], hx.tr a7, hm.tr a8, a9.trans h2⟩
  · exact Or.inr ⟨v, x', m', a1, a2, a3, hx.f.tr a4, hm.tr a5, a6.trans h2⟩
/-- a fault told by both sides -/
theorem J_fault {k : Nat} (hk : 1 ≤ k ∧ k ≤ 4) (h15 : m.2.1 15 = 0) (pl it : Int32) : ∃ x' m', fX7_fault x (zI (k : Int)) pl it = some (0, x') ∧ fX10_fails m (zI (k : Int)) pl = some m' ∧ FA x' m' it ∧ xf x x' ∧ mo m m' ∧ m'.1 = m.1 ∧ x'.1 = x.1 := by
  unfold fX7_fault fX10_fails
  rw [if_pos h15]
  refine ⟨_, _, rfl, rfl, ⟨rfl, rfl, rfl, k, rfl, hk⟩, ⟨fun _ _ => rfl, fun j h3 h4 h5 h6 => ?_, rfl⟩, ⟨fun _ _ => rfl, fun j h4 h5 h6 => ?_, rfl⟩, rfl, rfl⟩
  · rw [pI, if_neg h6, pI, if_neg h4, pI, if_neg h5]
  · rw [pI, if_neg h6, pI, if_neg h5]
theorem ch_sep (s : Int) (hs : 1 ≤ s) : (chC tx n q = s ↔ ch tx n q = s) ∧ (ch tx n q = s → q < n) := by
  unfold chC ch
  by_cases c : q < n
  · rw [if_pos c, if_pos c]; exact ⟨Iff.rfl, fun _ => c⟩
  · rw [if_neg c, if_neg c]
    exact ⟨⟨fun g => by omega, fun g => by omega⟩, fun g => by omega⟩
theorem J_sep {i : Nat} (hi : i < 4) {v : Int} (hv : 0 ≤ v ∧ v ≤ 63) {it : Int32} (s : Nat) (hs : 1 ≤ s ∧ s ≤ 126) (D : LD x m tx n q) : NumR (fX7_readNumber_b131 x (zI (i : Int)) it (zI v) (zI (chC tx n q)) (zI (s : Int))) (if zI (ch tx n q) = zI (s : Int) then (qn (pkI m 14 ((m.2.1 14) + 1)) (fun p113_t => some (zI v, p113_t))) else (qb1 (fX10_fails m 1 (m.2.1 14)) (fun p100_t => some (zI v, p100_t)))) x m tx n i it := by
  obtain ⟨T, d1, d2, d3, d4⟩ := id D
  have r := ch_r T q
  have hb : i < 2147483648 := by omega
  unfold fX7_readNumber_b131
  have i1 : zI (chC tx n q) = zI (s : Int) ↔ chC tx n q = (s : Int) := zI_eq (rI_s (by omega) (by omega)) (rI_s (by omega) (by omega))
  have i2 : zI (ch tx n q) = zI (s : Int) ↔ ch tx n q = (s : Int) := zI_eq (rI_s (by omega) (by omega)) (rI_s (by omega) (by omega))
  obtain ⟨e1, e2⟩ := ch_sep (tx := tx) (n := n) (q := q) (s : Int) (by omega)
  by_cases c : ch tx n q = (s : Int)
  · have hq := e2 c
    rw [if_pos (i1.mpr (e1.mpr c)), if_pos (i2.mpr c), d1, d2, qn_s, qn_s, ix_s, if_neg (ix_nn hb), if_neg (show ¬ (4 : Int32) ≤ zI (i : Int) from ix_a (n := 4) hi (by decide)), qst_at hi (by decide), qn_s]
    have D' := D.st (r := q + 1) (s := q + 1) (by omega) rfl
    refine Or.inl ⟨v, q + 1, _, _, rfl, rfl, hv, ?_, ?_, fun j hj => ?_, ⟨fun k hk => ?_, fun k hk => ?_, ?_⟩, mo_I _ _, rfl⟩
    · have f1 : xf (pkI x 3 (zI ((q + 1 : Nat) : Int))) (pkA (pkI x 3 (zI ((q + 1 : Nat) : Int))) 1 (zI (i : Int)) (zI v)) := ⟨fun k hk => by rw [pA1 hb, if_neg hk], fun k _ _ _ _ => by rw [pkA_at hb], by rw [pkA_at hb]⟩
      exact ⟨D'.1.xm f1 (mo.rf _), by rw [pkA_at hb]; exact D'.2.1, D'.2.2⟩
    · rw [pAt hb, if_pos ⟨rfl, rfl⟩]
    · rw [pAt hb, if_neg (fun g => hj g.2)]; rfl
    · rw [pA1 hb, if_neg hk]; rfl
    · rw [pkA_at hb, pI, if_neg hk]
    · rw [pkA_at hb]; rfl
  · rw [if_neg (fun g => c (e1.mp (i1.mp g))), if_neg (fun g => c (i2.mp g)), d1, d2]
    obtain ⟨x', m', a1, a2, a3, a4, a5, a6, a7⟩ := J_fault (x := x) (m := m) (k := 1) (by decide) d3 (zI (q : Int)) it
    rw [show (1 : Int32) = zI ((1 : Nat) : Int) from rfl, a1, a2, qb2_s, qb1_s]
    exact Or.inr ⟨_, x', m', rfl, rfl, a3, a4, a5, a6⟩
theorem J_tail {i : Nat} (hi : i < 4) {v : Int} (hv : 0 ≤ v ∧ v ≤ 99) {f it : Int32} (D : LD x m tx n q) : NumR (fX7_readNumber_b96 x (zI (i : Int)) it f (zI v)) (fX10_number_b71 m (if i = 3 then 59 else 44) f (zI v)) x m tx n i it := by
  obtain ⟨T, d1, d2, d3, d4⟩ := id D
  unfold fX7_readNumber_b96 fX10_number_b71
  have e63 : (zI v ≤ 63) ↔ v ≤ 63 := by rw [show (63 : Int32) = zI 63 from rfl, zI_le (rI_s (by omega) (by omega)) (rI_s (by decide) (by decide))]
  by_cases c : v ≤ 63
  · have h300 := T.1
    rw [if_pos (e63.mpr c), if_pos (e63.mpr c), d1, C_codeAt T (by omega), qb1_s, M_here T d2 (by omega), qb1_s]
    by_cases g : i = 3
    · have g3 : (3 : Int32) ≤ zI (i : Int) := by rw [g]; decide
      rw [if_pos g3, if_pos g]
      exact J_sep hi ⟨hv.1, c⟩ 59 (by decide) D
    · have g3 : ¬ (3 : Int32) ≤ zI (i : Int) := ix_a (n := 3) (by omega) (by decide)
      rw [if_neg g3, if_neg g]
      exact J_sep hi ⟨hv.1, c⟩ 44 (by decide) D
  · rw [if_neg (fun g => c (e63.mp g)), if_neg (fun g => c (e63.mp g))]
    obtain ⟨x', m', a1, a2, a3, a4, a5, a6, a7⟩ := J_fault (x := x) (m := m) (k := 2) (by decide) d3 f it
    rw [show (2 : Int32) = zI ((2 : Nat) : Int) from rfl, a1, a2, qb2_s, qb1_s]
    exact Or.inr ⟨_, x', m', rfl, rfl, a3, a4, a5, a6⟩
theorem J_num {i : Nat} (hi : i < 4) {it : Int32} (D : LD x m tx n q) : NumR (fX7_readNumber x (zI (i : Int)) it) (fX10_number m (if i = 3 then 59 else 44)) x m tx n i it := by
  obtain ⟨T, d1, d2, d3, d4⟩ := id D
  have h300 := T.1
  unfold fX7_readNumber fX10_number
  rw [qn_s, d1, C_codeAt T (by omega), qb1_s, C_dig T, qb1_s, qn_s, M_dig T d2 (by omega), qb1_s]
  cases g : dg tx n q with
  | false =>
    rw [ifF, qb1_s, ifF, d2]
    obtain ⟨x', m', a1, a2, a3, a4, a5, a6, a7⟩ := J_fault (x := x) (m := m) (k := 1) (by decide) d3 (zI (q : Int)) it
    rw [show (1 : Int32) = zI ((1 : Nat) : Int) from rfl, a1, a2, qb2_s, qb1_s]
    exact Or.inr ⟨_, x', m', rfl, rfl, a3, a4, a5, a6⟩
  | true =>
    obtain ⟨g1, g2, g3⟩ := dg_t g
    have D1 := D.st (r := q + 1) (s := q + 1) (by omega) rfl
    obtain ⟨T1, b1, b2', b3, b4⟩ := id D1
    rw [ifT, qb1_s, ifT, M_here T d2 (by omega), d2, ix_s]
    simp only [qb1_s, qn_s]
    rw [b1, C_codeAt T1 (by omega), qb1_s, C_dig T1, qb1_s, M_dig T1 b2' (by omega), qb1_s, show (48 : Int32) = zI 48 from rfl, zI_sub, zI_sub]
    have e1 : chC tx n q = tx q := by unfold chC; rw [if_pos g1]
    have e2 : ch tx n q = tx q := by unfold ch; rw [if_pos g1]
    rw [e1, e2]
    have fx : xo x (pkI x 3 (zI ((q + 1 : Nat) : Int))) := xo_I _ _
    have fm : mo m (pkI m 14 (zI ((q + 1 : Nat) : Int))) := mo_I _ _
    cases k : dg tx n (q + 1) with
    | false =>
      rw [ifF, qb1_s, ifF]
      exact (J_tail hi (by omega) D1).mono fx rfl fm rfl
    | true =>
      obtain ⟨k1, k2, k3⟩ := dg_t k
      have D2 := D1.st (r := q + 2) (s := q + 2) (by omega) rfl
      rw [ifT, qb1_s, ifT, M_here T1 b2' (by omega), qb1_s, b2', ix_s]
      have e3 : chC tx n (q + 1) = tx (q + 1) := by unfold chC; rw [if_pos k1]
      have e4 : ch tx n (q + 1) = tx (q + 1) := by unfold ch; rw [if_pos k1]
      rw [e3, e4, show (10 : Int32) = zI 10 from rfl, zI_mul, zI_add, zI_sub]
      exact (J_tail hi (by omega) D2).mono (fx.tr (xo_I _ _)) rfl (fm.tr (mo_I _ _)) rfl
end S
