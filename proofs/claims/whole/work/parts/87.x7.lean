/-! FREE TREES: the class's search -/
section S
variable {p : Pln} {w t F0 : Pk} {q : Pc} {R v : Nat}
def RecOK (p : Pln) (w : Pk) (recM : Pk → Pk → Pk → Int32 → Int32 → Int32 → Option (Int32 × Pk)) (d : Nat) : Prop := ∀ (t L : Pk) (l : List Pc) (i : Nat) (r : List Pc), PL L 55 l → Seg l i r → r.length ≤ 5 → i + r.length ≤ l.length → (∀ q, q ∈ r → vpc p q) → l.length + 10 * d ≤ 55 → ∃ L', recM t w L (zI (i : Int)) (zI ((i + r.length : Nat) : Int)) (zI (5 - (d : Int))) = some (zI ((fpc p d r : Nat) : Int), L') ∧ PL L' 55 l
theorem C_on_count (RW : ReW w p) (V : VP p) (hv : v < 12) (pv : pP p v = true) {recM : Pk → Pk → Pk → Int32 → Int32 → Int32 → Option (Int32 × Pk)} {L : Pk} {l : List Pc} (P : PL L 55 l) : ∀ (s : List Pc) (i g a : Nat), Seg l i s → s.length < g → (∀ q, q ∈ s → vpc p q) → i + s.length ≤ 55 → fX1_fewestWith_b96 recM t w g L (zI (v : Int)) (zI ((i + s.length : Nat) : Int)) (zI (a : Int)) (zI (i : Int)) = some (zI ((a + (ons p v s).length : Nat) : Int), L) := by
  intro s
  induction s with
  | nil =>
    intro i g a G hg Q hi
    obtain ⟨g, rfl⟩ := Nat.exists_eq_add_of_lt hg
    show fX1_fewestWith_b96_s recM _ t w L _ (zI (i : Int)) _ (zI (i : Int)) = _
    unfold fX1_fewestWith_b96_s
    rw [if_pos (Int32.le_refl _)]
    rfl
  | cons q s ih =>
    intro i g a G hg Q hi
    obtain ⟨g, rfl⟩ := Nat.exists_eq_add_of_lt hg
    rw [List.length_cons] at hi
    have Qq := Q q List.mem_cons_self
    have e0 : i + (q :: s).length = i + 1 + s.length := by rw [List.length_cons]; omega
    show fX1_fewestWith_b96_s recM (fX1_fewestWith_b96 recM t w ((q :: s).length + g)) t w L (zI (v : Int)) (zI ((i + (q :: s).length : Nat) : Int)) (zI (a : Int)) (zI (i : Int)) = _
    have rz : zI ((rel p v q : Nat) : Int) = 0 ↔ rel p v q = 0 := by
      rcases rel_lt (p := p) v q with c | c | c | c <;> rw [c] <;> decide
    have o1 : (ons p v (q :: s)).length = (if rel p v q = 0 then 1 else 0) + (ons p v s).length := by
      unfold ons
      rw [List.filter_cons]
      by_cases c : rel p v q = 0
      · rw [if_pos c, if_pos (decide_eq_true c), List.length_cons]; omega
      · rw [if_neg c, if_neg (by rw [decide_eq_true_eq]; exact c)]; omega
    have nxt : ∀ a' : Nat, fX1_fewestWith_b118 recM (fX1_fewestWith_b96 recM t w ((q :: s).length + g)) t w L (zI (v : Int)) (zI ((i + 1 + s.length : Nat) : Int)) (zI (a' : Int)) (zI (i : Int)) = some (zI ((a' + (ons p v s).length : Nat) : Int), L) := by
      intro a'
      unfold fX1_fewestWith_b118
      rw [qn_s, show zI (i : Int) + 1 = zI ((i + 1 : Nat) : Int) from by rw [show (1 : Int32) = zI 1 from rfl, zI_add]; rfl]
      exact ih (i + 1) ((q :: s).length + g) a' G.tl (by rw [List.length_cons]; omega) (fun q' h => Q q' (List.mem_cons_of_mem _ h)) (by omega)
    unfold fX1_fewestWith_b96_s
    rw [e0, if_neg (ix_a (by omega) (by omega)), C_placeOf P RW V hv pv Qq G.hd, qb1_s]
    by_cases c : rel p v q = 0
    · rw [if_pos (rz.mpr c), qn_s, show zI (a : Int) + 1 = zI ((a + 1 : Nat) : Int) from by rw [show (1 : Int32) = zI 1 from rfl, zI_add]; rfl, nxt (a + 1), o1, if_pos c]
      exact congrArg (fun z : Nat => some (zI (z : Int), L)) (by omega)
    · rw [if_neg (fun h => c (rz.mp h)), nxt a, o1, if_neg c]
      exact congrArg (fun z : Nat => some (zI (z : Int), L)) (by omega)
theorem C_with (RW : ReW w p) (V : VP p) (hv : v < 12) (pv : pP p v = true) {recM : Pk → Pk → Pk → Int32 → Int32 → Int32 → Option (Int32 × Pk)} {d : Nat} (hd : d ≤ 4) (H : RecOK p w recM d) {L : Pk} {l : List Pc} (P : PL L 55 l) {i : Nat} {r : List Pc} (G : Seg l i r) (r5 : r.length ≤ 5) (hi : i + r.length ≤ l.length) (Q : ∀ q, q ∈ r → vpc p q) (hl : l.length + 10 * (d + 1) ≤ 55) : ∃ L', fX1_fewestWith recM t w L (zI (v : Int)) (zI (i : Int)) (zI ((i + r.length : Nat) : Int)) (zI (5 - ((d + 1 : Nat) : Int))) = some (zI ((fpc p d (prts p v true r) + fpc p d (prts p v false r) + (ons p v r).length : Nat) : Int), L') ∧ PL L' 55 l := by
  have l1 := prts_len (p := p) (v := v) true r
  have l2 := prts_len (p := p) (v := v) false r
  obtain ⟨L1, a1, a2⟩ := C_addSide RW V hv pv true P (by omega) (by omega) G Q (by omega)
  obtain ⟨L2, b1, b2'⟩ := C_addSide RW V hv pv false a2 (by omega) (by rw [List.length_append]; omega) (G.app _) Q (by omega)
  have Q1 : ∀ q, q ∈ prts p v true r → vpc p q := fun q hq => by
    obtain ⟨q', h1, h2⟩ := prts_mem hq
    exact prt_vp V hv pv (Q q' h1) h2
  have Q2 : ∀ q, q ∈ prts p v false r → vpc p q := fun q hq => by
    obtain ⟨q', h1, h2⟩ := prts_mem hq
    exact prt_vp V hv pv (Q q' h1) h2
  have s1 : Seg (l ++ prts p v true r ++ prts p v false r) l.length (prts p v true r) := (Seg_end l (prts p v true r)).app _
  have s2 : Seg (l ++ prts p v true r ++ prts p v false r) (l ++ prts p v true r).length (prts p v false r) := Seg_end (l ++ prts p v true r) (prts p v false r)
  have len3 : (l ++ prts p v true r ++ prts p v false r).length = l.length + (prts p v true r).length + (prts p v false r).length := by rw [List.length_append, List.length_append]
  obtain ⟨L3, c1, c2⟩ := H t L2 _ _ _ b2' s1 (by omega) (by rw [len3]; omega) Q1 (by rw [len3]; omega)
  obtain ⟨L4, d1, d2⟩ := H t L3 _ _ _ c2 s2 (by omega) (by rw [len3, List.length_append]; omega) Q2 (by rw [len3]; omega)
  rw [List.append_assoc] at d2
  obtain ⟨L5, e1, e2⟩ := PL_shorten (a := l) d2
  have ct := C_on_count (t := t) (recM := recM) RW V hv pv e2 r i FU (fpc p d (prts p v true r) + fpc p d (prts p v false r)) G (Nat.lt_of_le_of_lt r5 (by decide)) Q (by have := P.2.1; omega)
  have dp : zI (5 - ((d + 1 : Nat) : Int)) + 1 = zI (5 - (d : Int)) := by rw [show (1 : Int32) = zI 1 from rfl, zI_add]; exact congrArg zI (by omega)
  refine ⟨L5, ?_, e2⟩
  unfold fX1_fewestWith
  rw [PL_size P, qb1_s, show (1 : Int32) = sd true from rfl, a1, qb1_s, PL_size a2, qb1_s, show (2 : Int32) = sd false from rfl, b1, qb1_s, PL_size b2', qb1_s, show sd true = 1 from rfl, dp, List.length_append, c1, qb2_s]
  rw [show ((l ++ prts p v true r ++ prts p v false r).length : Int) = (((l ++ prts p v true r).length + (prts p v false r).length : Nat) : Int) from by rw [List.length_append]]
  rw [List.length_append] at d1 ⊢
  rw [d1, qb2_s, zI_add, qn_s, e1, qb1_s]
  exact ct
theorem C_few_loop (RW : ReW w p) (V : VP p) {recM : Pk → Pk → Pk → Int32 → Int32 → Int32 → Option (Int32 × Pk)} {d : Nat} (hd : d ≤ 4) (H : RecOK p w recM d) {l : List Pc} {i : Nat} {r : List Pc} (G : Seg l i r) (r5 : r.length ≤ 5) (hi : i + r.length ≤ l.length) (Q : ∀ q, q ∈ r → vpc p q) (hl : l.length + 10 * (d + 1) ≤ 55) : ∀ (s : List Pc) (j g : Nat) (L : Pk) (A : List Nat), (∀ k q, s[k]? = some q → r[j + k]? = some q) → j + s.length = r.length → s.length < g → PL L 55 l → mnl A ≤ 2000 → ∃ L', fX1_fewestOf_b18 recM t w g L (zI (i : Int)) (zI ((i + r.length : Nat) : Int)) (zI (5 - ((d + 1 : Nat) : Int))) (if A = [] then -1 else zI ((mnl A : Nat) : Int)) (zI ((i + j : Nat) : Int)) = some (if A ++ s.map (fun q => fpc p d (prts p q.1 true r) + fpc p d (prts p q.1 false r) + (ons p q.1 r).length) = [] then -1 else zI ((mnl (A ++ s.map (fun q => fpc p d (prts p q.1 true r) + fpc p d (prts p q.1 false r) + (ons p q.1 r).length)) : Nat) : Int), L') ∧ PL L' 55 l := by
  intro s
  induction s with
  | nil =>
    intro j g L A hs hj hg P hA
    obtain ⟨g, rfl⟩ := Nat.exists_eq_add_of_lt hg
    have e : j = r.length := hj
    refine ⟨L, ?_, P⟩
    show fX1_fewestOf_b18_s recM _ t w L _ _ _ _ _ = _
    unfold fX1_fewestOf_b18_s
    rw [e, if_pos (Int32.le_refl _), List.map_nil, List.append_nil]
  | cons q s ih =>
    intro j g L A hs hj hg P hA
    obtain ⟨g, rfl⟩ := Nat.exists_eq_add_of_lt hg
    have l55 := P.2.1
    have hj' : j < r.length := by rw [← hj]; exact Nat.lt_add_of_pos_right (Nat.succ_pos _)
    have hq : r[j]? = some q := hs 0 q rfl
    have Qq := Q q (List.mem_of_getElem? hq)
    have hl' : l[i + j]? = some q := G j q hq
    obtain ⟨L1, a1, a2⟩ := C_with (t := t) (v := q.1) RW V Qq.1.1 Qq.1.2 hd H P G r5 hi Q hl
    generalize hx : fpc p d (prts p q.1 true r) + fpc p d (prts p q.1 false r) + (ons p q.1 r).length = x at a1
    have xb : x ≤ 2000 := by
      have l1 := prts_len (p := p) (v := q.1) true r
      have l2 := prts_len (p := p) (v := q.1) false r
      have l3 := ons_len (p := p) q.1 r
      have b1 := fpc_bd (p := p) d (prts p q.1 true r) (by omega)
      have b2 := fpc_bd (p := p) d (prts p q.1 false r) (by omega)
      have : 2 ^ d ≤ 2 ^ 4 := Nat.pow_le_pow_right (by decide) hd
      omega
    have nxt : ∀ (A' : List Nat) (y4 : Int32), y4 = zI ((mnl A' : Nat) : Int) → A' ≠ [] → mnl A' ≤ 2000 → mnl (A' ++ s.map (fun q => fpc p d (prts p q.1 true r) + fpc p d (prts p q.1 false r) + (ons p q.1 r).length)) = mnl (A ++ (q :: s).map (fun q => fpc p d (prts p q.1 true r) + fpc p d (prts p q.1 false r) + (ons p q.1 r).length)) → ∃ L', fX1_fewestOf_b58 recM (fX1_fewestOf_b18 recM t w ((q :: s).length + g)) t w L1 (zI (i : Int)) (zI ((i + r.length : Nat) : Int)) (zI (5 - ((d + 1 : Nat) : Int))) y4 (zI ((i + j : Nat) : Int)) = some (if A ++ (q :: s).map (fun q => fpc p d (prts p q.1 true r) + fpc p d (prts p q.1 false r) + (ons p q.1 r).length) = [] then -1 else zI ((mnl (A ++ (q :: s).map (fun q => fpc p d (prts p q.1 true r) + fpc p d (prts p q.1 false r) + (ons p q.1 r).length)) : Nat) : Int), L') ∧ PL L' 55 l := by
      intro A' y4 hy ne hb e
      unfold fX1_fewestOf_b58
      rw [qn_s, show zI ((i + j : Nat) : Int) + 1 = zI ((i + (j + 1) : Nat) : Int) from by rw [show (1 : Int32) = zI 1 from rfl, zI_add]; rfl, hy]
      obtain ⟨L', c1, c2⟩ := ih (j + 1) ((q :: s).length + g) L1 A' (fun k q' hk => by
        have := hs (k + 1) q' hk
        rwa [show j + 1 + k = j + (k + 1) from by omega]) (by rw [← hj, List.length_cons]; omega) (by rw [List.length_cons]; omega) a2 hb
      rw [if_neg ne, if_neg (by intro h; exact ne (List.append_eq_nil_iff.mp h).1), e] at c1
      rw [if_neg (by intro h; have := (List.append_eq_nil_iff.mp h).2; cases this)]
      exact ⟨L', c1, c2⟩
    have sn : (A ++ [x]) ++ s.map (fun q => fpc p d (prts p q.1 true r) + fpc p d (prts p q.1 false r) + (ons p q.1 r).length) = A ++ (q :: s).map (fun q => fpc p d (prts p q.1 true r) + fpc p d (prts p q.1 false r) + (ons p q.1 r).length) := by
      rw [List.append_assoc, List.map_cons, hx]
      rfl
    have nes : A ++ [x] ≠ [] := by intro h; have := (List.append_eq_nil_iff.mp h).2; cases this
    show ∃ L', fX1_fewestOf_b18_s recM (fX1_fewestOf_b18 recM t w ((q :: s).length + g)) t w L _ _ _ _ _ = _ ∧ _
    unfold fX1_fewestOf_b18_s fX1_fewestOf_b54
    rw [if_neg (ix_a (by omega) (by omega)), PL_wallOf P hl', qb1_s, a1, qb2_s]
    by_cases cA : A = []
    · rw [if_pos cA, if_pos (by decide)]
      exact nxt (A ++ [x]) _ (by rw [mnl_snoc, if_pos cA]) nes (by rw [mnl_snoc, if_pos cA]; exact xb) (by rw [sn])
    · rw [if_neg cA, if_neg (ix_nn (by omega))]
      by_cases c : mnl A ≤ x
      · have c' : zI ((mnl A : Nat) : Int) ≤ zI (x : Int) := by rw [zI_le (rI_n (by omega)) (rI_n (by omega))]; omega
        rw [if_pos c']
        exact nxt (A ++ [x]) _ (by rw [mnl_snoc, if_neg cA, Nat.min_eq_left c]) nes (by rw [mnl_snoc, if_neg cA, Nat.min_eq_left c]; exact hA) (by rw [sn])
      · have c' : ¬ zI ((mnl A : Nat) : Int) ≤ zI (x : Int) := by rw [zI_le (rI_n (by omega)) (rI_n (by omega))]; omega
        rw [if_neg c']
        exact nxt (A ++ [x]) _ (by rw [mnl_snoc, if_neg cA, Nat.min_eq_right (by omega)]) nes (by rw [mnl_snoc, if_neg cA, Nat.min_eq_right (by omega)]; exact xb) (by rw [sn])
theorem C_fewestOf (RW : ReW w p) (V : VP p) : ∀ (d n : Nat), d ≤ 5 → d < n → RecOK p w (fX1_fewestOf n) d := by
  intro d
  induction d with
  | zero =>
    intro n hd hn t L l i r P G r5 hi Q hl
    obtain ⟨n, rfl⟩ := Nat.exists_eq_add_of_lt hn
    refine ⟨L, ?_, P⟩
    show fX1_fewestOf_s (fX1_fewestOf (0 + n)) t w L _ _ _ = _
    unfold fX1_fewestOf_s
    have n5 : ¬ zI (5 - ((0 : Nat) : Int)) < 5 := by decide
    rw [if_neg n5]
    split <;> rfl
  | succ d ih =>
    intro n hd hn t L l i r P G r5 hi Q hl
    obtain ⟨n, rfl⟩ := Nat.exists_eq_add_of_lt hn
    have l55 := P.2.1
    show ∃ L', fX1_fewestOf_s (fX1_fewestOf (d + 1 + n)) t w L _ _ _ = _ ∧ _
    unfold fX1_fewestOf_s
    by_cases cr : r = []
    · subst cr
      rw [show i + ([] : List Pc).length = i from rfl, if_pos (Int32.le_refl _)]
      exact ⟨L, rfl, P⟩
    · have rl : 0 < r.length := List.length_pos_iff.mpr cr
      have lt5 : zI (5 - ((d + 1 : Nat) : Int)) < 5 := by rw [show (5 : Int32) = zI 5 from rfl, zI_lt (rI_s (by omega) (by omega)) (rI_s (by decide) (by decide))]; omega
      rw [if_neg (ix_a (by omega) (by omega)), if_pos lt5]
      obtain ⟨L', a1, a2⟩ := C_few_loop (t := t) RW V (show d ≤ 4 from by omega) (ih (d + 1 + n) (by omega) (by omega)) G r5 hi Q hl r 0 FU L [] (fun k q hk => by rw [Nat.zero_add]; exact hk) (Nat.zero_add _) (Nat.lt_of_le_of_lt r5 (by decide)) P (Nat.zero_le _)
      rw [if_pos rfl, List.nil_append, if_neg (by intro h; exact cr (List.map_eq_nil_iff.mp h))] at a1
      exact ⟨L', a1, a2⟩
end S
