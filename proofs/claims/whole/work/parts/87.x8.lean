/-! FREE TREES: search, leastPieces, bestRoot, both sides -/
section S
variable {p : Pln} {w t F0 G0 m m' : Pk} {q : Pc} {R v : Nat}
/-- what the search says so far: the values A of the first walls -/
def SrS (p : Pln) (F : Pk) (A : List Nat) : Prop := (A = [] ∧ F.2.1 1 = 0 ∧ F.2.1 2 = -8) ∨ (A ≠ [] ∧ F.2.1 1 = zI ((mnl A : Nat) : Int) ∧ ∃ (i : Nat) (e : Pc), i < A.length ∧ (rootL p false)[i]? = some e ∧ A[i]? = some (mnl A) ∧ F.2.1 2 = zI (e.1 : Int) ∧ ∀ (j x : Nat), j < i → A[j]? = some x → ¬ x = mnl A)
theorem wall_ne8 {k : Nat} (h : k < 12) : ¬ zI (k : Int) = -8 := by
  rw [zmone8, zI_eq (rI_n (by omega)) (rI_s (by decide) (by decide))]
  omega
theorem C_search_loop (RW : ReW w p) (V : VP p) (n5 : (rootL p false).length ≤ 5) : ∀ (s : List Pc) (j g : Nat) (F L : Pk) (A : List Nat), (∀ k q, s[k]? = some q → (rootL p false)[j + k]? = some q) → j + s.length = (rootL p false).length → s.length < g → PL L 55 (rootL p false) → A.length = j → mnl A ≤ 2000 → SrS p F A → ∃ F' L', fX1_search_b37 w g F L (zI ((rootL p false).length : Int)) (zI (j : Int)) = some (F', L') ∧ PL L' 55 (rootL p false) ∧ SrS p F' (A ++ s.map (fun q => fwv p (rootL p false) q.1)) := by
  intro s
  induction s with
  | nil =>
    intro j g F L A hs hj hg P lA hA S
    obtain ⟨g, rfl⟩ := Nat.exists_eq_add_of_lt hg
    have e : j = (rootL p false).length := hj
    refine ⟨F, L, ?_, P, by rw [List.map_nil, List.append_nil]; exact S⟩
    show fX1_search_b37_s _ w F L _ _ = _
    unfold fX1_search_b37_s
    rw [e, if_pos (Int32.le_refl _)]
  | cons q s ih =>
    intro j g F L A hs hj hg P lA hA S
    obtain ⟨g, rfl⟩ := Nat.exists_eq_add_of_lt hg
    have hj' : j < (rootL p false).length := by rw [← hj]; exact Nat.lt_add_of_pos_right (Nat.succ_pos _)
    have hq : (rootL p false)[j]? = some q := hs 0 q rfl
    have hm := List.mem_of_getElem? hq
    have Qq := (rootL_mem hm).1
    obtain ⟨L1, a1, a2⟩ := C_with (t := F) (v := q.1) RW V Qq.1.1 Qq.1.2 (Nat.le_refl 4) (C_fewestOf RW V 4 16 (by decide) (by decide)) P (i := 0) (r := rootL p false) (fun k e hk => by rw [Nat.zero_add]; exact hk) n5 (by omega) (fun q hq => (rootL_mem hq).1) (by omega)
    have s1 := prts_lt (p := p) (v := q.1) (s := true) ⟨q, hm, rfl⟩
    have s2 := prts_lt (p := p) (v := q.1) (s := false) ⟨q, hm, rfl⟩
    rw [fpc_5 1 4 _ (by omega) rfl, fpc_5 1 4 _ (by omega) rfl] at a1
    have a1 : fX1_fewestWith (fX1_fewestOf 16) F w L (zI (q.1 : Int)) 0 (zI ((rootL p false).length : Int)) 0 = some (zI ((fwv p (rootL p false) q.1 : Nat) : Int), L1) := by
      rw [Nat.zero_add] at a1
      exact a1
    have fb := fwv_bd (p := p) (L := rootL p false) (by omega) q.1
    generalize hx : fwv p (rootL p false) q.1 = x at a1 fb
    have sn : (A ++ [x]) ++ s.map (fun q => fwv p (rootL p false) q.1) = A ++ (q :: s).map (fun q => fwv p (rootL p false) q.1) := by
      rw [List.append_assoc, List.map_cons, hx]
      rfl
    have nes : A ++ [x] ≠ [] := by intro h; have := (List.append_eq_nil_iff.mp h).2; cases this
    have l1 : (A ++ [x]).length = j + 1 := by rw [List.length_append, List.length_singleton, lA]
    have lastx : (A ++ [x])[j]? = some x := by rw [← lA, List.getElem?_append_right (Nat.le_refl _), Nat.sub_self]; rfl
    have nxt : ∀ F1 : Pk, SrS p F1 (A ++ [x]) → mnl (A ++ [x]) ≤ 2000 → ∃ F' L', fX1_search_b90 (fX1_search_b37 w ((q :: s).length + g)) w F1 L1 (zI ((rootL p false).length : Int)) (zI (j : Int)) = some (F', L') ∧ PL L' 55 (rootL p false) ∧ SrS p F' (A ++ (q :: s).map (fun q => fwv p (rootL p false) q.1)) := by
      intro F1 S1 hb
      unfold fX1_search_b90
      rw [qn_s, show zI (j : Int) + 1 = zI ((j + 1 : Nat) : Int) from by rw [show (1 : Int32) = zI 1 from rfl, zI_add]; rfl]
      obtain ⟨F', L', c1, c2, c3⟩ := ih (j + 1) ((q :: s).length + g) F1 L1 (A ++ [x]) (fun k q' hk => by
        have := hs (k + 1) q' hk
        rwa [show j + 1 + k = j + (k + 1) from by omega]) (by rw [← hj, List.length_cons]; omega) (by rw [List.length_cons]; omega) a2 l1 hb S1
      rw [sn] at c3
      exact ⟨F', L', c1, c2, c3⟩
    have take : mnl (A ++ [x]) = x → (∀ (j' y : Nat), j' < j → A[j']? = some y → ¬ y = x) → ∃ F' L', fX1_search_b79 (fX1_search_b37 w ((q :: s).length + g)) w F L1 (zI ((rootL p false).length : Int)) (zI (j : Int)) (zI (q.1 : Int)) (zI (x : Int)) = some (F', L') ∧ PL L' 55 (rootL p false) ∧ SrS p F' (A ++ (q :: s).map (fun q => fwv p (rootL p false) q.1)) := by
      intro hmn hne
      unfold fX1_search_b79
      rw [qn_s, qn_s]
      refine nxt _ (Or.inr ⟨nes, ?_, j, q, by rw [l1]; omega, hq, by rw [hmn]; exact lastx, rfl, fun j' y h1 h2 => ?_⟩) (by rw [hmn]; omega)
      · rw [hmn]; rfl
      · rw [hmn]
        rw [List.getElem?_append_left (by omega)] at h2
        exact hne j' y h1 h2
    show ∃ F' L', fX1_search_b37_s (fX1_search_b37 w ((q :: s).length + g)) w F L _ _ = _ ∧ _
    unfold fX1_search_b37_s
    rw [if_neg (ix_a (by omega) (by omega)), PL_wallOf P hq, qb1_s, a1, qb2_s]
    rcases S with ⟨cA, f1, f2⟩ | ⟨cA, f1, i, e, hi, he, h1, f2, h2⟩
    · rw [if_pos f2]
      exact take (by rw [mnl_snoc, if_pos cA]) (fun j' y h1 h2 => by rw [cA] at h2; cases h2)
    · have ew := (rootL_mem (List.mem_of_getElem? he)).1.1.1
      rw [f2, if_neg (wall_ne8 ew), f1]
      by_cases c : mnl A ≤ x
      · have c' : zI ((mnl A : Nat) : Int) ≤ zI (x : Int) := by rw [zI_le (rI_n (by omega)) (rI_n (by omega))]; omega
        have mm : mnl (A ++ [x]) = mnl A := by rw [mnl_snoc, if_neg cA, Nat.min_eq_left c]
        rw [if_pos c']
        refine nxt F (Or.inr ⟨nes, by rw [mm]; exact f1, i, e, by rw [l1]; omega, he, ?_, f2, fun j' y g1 g2 => ?_⟩) (by rw [mm]; exact hA)
        · rw [mm, List.getElem?_append_left hi]; exact h1
        · rw [mm]
          rw [List.getElem?_append_left (by omega)] at g2
          exact h2 j' y g1 g2
      · have c' : ¬ zI ((mnl A : Nat) : Int) ≤ zI (x : Int) := by rw [zI_le (rI_n (by omega)) (rI_n (by omega))]; omega
        rw [if_neg c']
        refine take (by rw [mnl_snoc, if_neg cA, Nat.min_eq_right (by omega)]) (fun j' y g1 g2 g3 => ?_)
        subst g3
        have : ∀ (B : List Nat) (z : Nat), z ∈ B → mnl B ≤ z := by
          have key : ∀ (l : List Nat) (a z : Nat), z ∈ l → l.foldl min a ≤ z := by
            intro l
            induction l with
            | nil => intro a z h; cases h
            | cons b l ih =>
              intro a z h
              rcases List.mem_cons.mp h with h | h
              · subst h
                exact Nat.le_trans (foldl_min_le l (min a z)) (Nat.min_le_right a z)
              · exact ih (min a b) z h
          intro B z hz
          cases B with
          | nil => cases hz
          | cons b B =>
            rcases List.mem_cons.mp hz with h | h
            · subst h; exact foldl_min_le B z
            · exact key B b z h
        exact c (this A y (List.mem_of_getElem? g2))
theorem C_search (RW : ReW w p) (V : VP p) (n5 : (rootL p false).length ≤ 5) (hG : PLx G0 55) : ∃ F' L', fX1_search w F0 G0 = some (F', L') ∧ PLx L' 55 ∧ SrS p F' ((rootL p false).map (fun q => fwv p (rootL p false) q.1)) := by
  obtain ⟨l, hl⟩ := hG
  obtain ⟨L1, a1, a2⟩ := PL_shorten (a := []) (b := l) hl
  obtain ⟨L2, b1, b2'⟩ := C_addWalls RW false a2 (by show 0 + _ ≤ 55; omega)
  rw [List.nil_append] at b2'
  obtain ⟨F', L', c1, c2, c3⟩ := C_search_loop RW V n5 (rootL p false) 0 FU (pkI (pkI F0 1 0) 2 (-8)) L2 [] (fun k q hk => by rw [Nat.zero_add]; exact hk) (Nat.zero_add _) (Nat.lt_of_le_of_lt n5 (by decide)) b2' rfl (Nat.zero_le _) (Or.inl ⟨rfl, rfl, rfl⟩)
  refine ⟨F', L', ?_, ⟨_, c2⟩, c3⟩
  unfold fX1_search
  rw [qn_s, qn_s, show fX4_shorten G0 0 = some L1 from a1, qb1_s, show fX4_addWalls w L1 0 = some L2 from b1, qb1_s, PL_size b2', qb1_s]
  exact c1
theorem C_fixed_loop (RW : ReW w p) : ∀ (n i g a : Nat), i + n = 12 → n < g → fX8_fixedTotal_b4 w g (zI (a : Int)) (zI (i : Int)) = some (zI ((a + (rowL (rt p false) n).length : Nat) : Int)) := by
  intro n
  induction n with
  | zero =>
    intro i g a hi hg
    obtain ⟨g, rfl⟩ := Nat.exists_eq_add_of_lt hg
    have e : i = 12 := hi
    subst e
    show fX8_fixedTotal_b4_s _ w _ _ = _
    unfold fX8_fixedTotal_b4_s
    rw [if_pos (by decide)]
    rfl
  | succ n ih =>
    intro i g a hi hg
    obtain ⟨g, rfl⟩ := Nat.exists_eq_add_of_lt hg
    have h12 : i < 12 := by omega
    have ei : 11 - n = i := by omega
    have ru : (rowL (rt p false) (n + 1)).length = (if pP p i && !pM p i then 1 else 0) + (rowL (rt p false) n).length := by
      show ((match rt p false (11 - n) with
        | some d => [((11 - n, d) : Pc)]
        | none => []) ++ rowL (rt p false) n).length = _
      rw [ei, List.length_append]
      unfold rt
      cases pP p i <;> cases pM p i <;> rfl
    have b : ∀ a : Nat, fX8_fixedTotal_b21 (fX8_fixedTotal_b4 w (n + 1 + g)) w (zI (a : Int)) (zI (i : Int)) = some (zI ((a + (rowL (rt p false) n).length : Nat) : Int)) := by
      intro a
      unfold fX8_fixedTotal_b21
      rw [qn_s, show zI (i : Int) + 1 = zI ((i + 1 : Nat) : Int) from by rw [show (1 : Int32) = zI 1 from rfl, zI_add]; rfl]
      exact ih (i + 1) (n + 1 + g) a (by omega) (by omega)
    show fX8_fixedTotal_b4_s (fX8_fixedTotal_b4 w (n + 1 + g)) w _ _ = _
    unfold fX8_fixedTotal_b4_s
    rw [if_neg (i12a h12), W_isFixed RW h12, qb1_s, ru]
    cases h : (pP p i && !pM p i) with
    | false =>
      rw [ifF, b a, if_neg (by decide)]
      exact congrArg (fun z : Nat => some (zI (z : Int))) (by omega)
    | true =>
      rw [ifT, qn_s, show zI (a : Int) + 1 = zI ((a + 1 : Nat) : Int) from by rw [show (1 : Int32) = zI 1 from rfl, zI_add]; rfl, b (a + 1), if_pos rfl]
      exact congrArg (fun z : Nat => some (zI (z : Int))) (by omega)
theorem C_fixedTotal (RW : ReW w p) : fX8_fixedTotal w = some (zI ((rootL p false).length : Int)) := by
  have := C_fixed_loop RW 12 0 FU 0 rfl (by decide)
  rw [Nat.zero_add] at this
  exact this
def FT (c : Option (Int32 × Pk × Pk)) (d : Option (Int32 × Pk)) (m : Pk) (p : Pln) : Prop := ∃ v F' G' m', c = some (v, F', G') ∧ d = some (v, m') ∧ PLx G' 55 ∧ ReM m' p ∧ lsF m m'
theorem c5_iff : zI ((rootL p false).length : Int) ≤ 5 ↔ (rootL p false).length ≤ 5 := by
  have ln : (rootL p false).length ≤ 12 := rowL_len (rt p false) 12
  rw [show (5 : Int32) = zI 5 from rfl, zI_le (rI_n (by omega)) (rI_s (by decide) (by decide))]
  omega
theorem S_leastPieces (RW : ReW w p) (Q : ReM m p) (V : VP p) (hG : PLx G0 55) (h65 : ∀ j, j < 6 → m.1 65 j = zI ((3 ^ j : Nat) : Int)) : FT (fX9_leastPieces t w F0 G0) (fX10_leastPieces m) m p := by
  obtain ⟨m', a1, a2, a3⟩ := M_leastPieces V Q h65
  unfold fX9_leastPieces
  rw [C_fixedTotal RW, qb1_s]
  by_cases n5 : (rootL p false).length ≤ 5
  · obtain ⟨F', L', b1, b2', b3⟩ := C_search (F0 := F0) RW V n5 hG
    rw [if_pos (c5_iff.mpr n5), b1, qb2_s]
    rw [if_pos n5] at a1
    unfold fX1_fewestPieces
    rw [qb1_s]
    refine ⟨_, F', L', m', rfl, ?_, b2', a2, a3⟩
    rw [a1, fpc_eq n5]
    rcases b3 with ⟨h, h1, -⟩ | ⟨-, h1, -⟩
    · rw [h1, h]; rfl
    · rw [h1]
  · rw [if_neg (fun h => n5 (c5_iff.mp h))]
    rw [if_neg n5] at a1
    exact ⟨_, F0, G0, m', rfl, a1, hG, a2, a3⟩
theorem S_bestRoot (RW : ReW w p) (Q : ReM m p) (V : VP p) (hG : PLx G0 55) (h65 : ∀ j, j < 6 → m.1 65 j = zI ((3 ^ j : Nat) : Int)) : FT (fX9_bestRoot t w F0 G0) (fX10_bestRoot m) m p := by
  obtain ⟨v, m', a1, a2, a3, a4, a5, a6⟩ := M_bestRoot V Q h65
  unfold fX9_bestRoot
  rw [C_fixedTotal RW, qb1_s]
  by_cases n5 : (rootL p false).length ≤ 5
  · obtain ⟨F', L', b1, b2', b3⟩ := C_search (F0 := F0) RW V n5 hG
    rw [if_pos (c5_iff.mpr n5), b1, qb2_s]
    unfold fX1_rootWall
    rw [qb1_s]
    refine ⟨v, F', L', m', ?_, a1, b2', a2, a3⟩
    rcases b3 with ⟨h, -, h2⟩ | ⟨-, -, i, e, -, he, h1, h2, h3⟩
    · rw [h2, a5 (List.map_eq_nil_iff.mp h)]
    · have hv := a6 i e n5 he (by
        rw [fpc_eq n5]
        rw [List.getElem?_map, he] at h1
        injection h1) (fun j e' hj he' h => by
        refine h3 j (fwv p (rootL p false) e'.1) hj ?_ (by rw [h, fpc_eq n5])
        rw [List.getElem?_map, he']
        rfl)
      rw [h2, hv]
  · rw [if_neg (fun h => n5 (c5_iff.mp h))]
    exact ⟨-5, F0, G0, m', rfl, by rw [a1, a4 n5], hG, a2, a3⟩
end S
