/-! REGIONS: leastPieces, bestRoot of the reference -/
section S
variable {p : Pln} {m m' : Pk} {q : Pc} {R v : Nat}
/-- what the reference's search leaves -/
def lsF (m m' : Pk) : Prop := (∀ r, ¬ r = 62 → ¬ r = 64 → m'.1 r = m.1 r) ∧ (∀ k, ¬ (18 ≤ k ∧ k ≤ 19) → ¬ k = 63 → ¬ (66 ≤ k ∧ k ≤ 69) → m'.2.1 k = m.2.1 k) ∧ m'.2.2 = m.2.2
theorem lsF.rf (m : Pk) : lsF m m := ⟨fun _ _ _ => rfl, fun _ _ _ _ => rfl, rfl⟩
theorem lsF.tr {a b c : Pk} (h : lsF a b) (g : lsF b c) : lsF a c := ⟨fun r h1 h2 => (g.1 r h1 h2).trans (h.1 r h1 h2), fun k h1 h2 h3 => (g.2.1 k h1 h2 h3).trans (h.2.1 k h1 h2 h3), g.2.2.trans h.2.2⟩
theorem ffF.ls (h : ffF m m') : lsF m m' := ⟨fun r h1 _ => h.1 r h1, fun k _ h2 _ => h.2.1 k h2, h.2.2⟩
theorem flF.ls (h : flF m m') : lsF m m' := ⟨fun r _ h1 => h.1 r h1, fun k h1 _ h3 => h.2.1 k h1 h3, h.2.2⟩
theorem lsF.qf (h : lsF m m') : qF m m' := ⟨fun r hr => h.1 r (by omega) (by omega), fun k hk => h.2.1 k (by omega) (by omega) (by omega)⟩
theorem foldl_min_mem : ∀ (l : List Nat) (a : Nat), l.foldl min a = a ∨ l.foldl min a ∈ l
  | [], a => Or.inl rfl
  | x :: l, a => by
    show l.foldl min (min a x) = a ∨ l.foldl min (min a x) ∈ x :: l
    rcases foldl_min_mem l (min a x) with h | h
    · rw [h]
      by_cases c : a ≤ x
      · exact Or.inl (Nat.min_eq_left c)
      · rw [Nat.min_eq_right (by omega)]
        exact Or.inr List.mem_cons_self
    · exact Or.inr (List.mem_cons_of_mem _ h)
theorem mnl_mem {l : List Nat} (h : l ≠ []) : mnl l ∈ l := by
  cases l with
  | nil => exact absurd rfl h
  | cons x l =>
    show l.foldl min x ∈ x :: l
    rcases foldl_min_mem l x with h | h
    · rw [h]; exact List.mem_cons_self
    · exact List.mem_cons_of_mem _ h
theorem M_leastPieces (V : VP p) (Q : ReM m p) (h65 : ∀ j, j < 6 → m.1 65 j = zI ((3 ^ j : Nat) : Int)) : ∃ m', fX10_leastPieces m = some (if (rootL p false).length ≤ 5 then zI ((fpc p 5 (rootL p false) : Nat) : Int) else -5, m') ∧ ReM m' p ∧ lsF m m' := by
  obtain ⟨m1, a1, a2, a3⟩ := M_findFixed Q h65
  have ln := rowL_len (rt p false) 12
  unfold fX10_leastPieces
  rw [a1, qb1_s, a2.2.1]
  by_cases n5 : (rootL p false).length ≤ 5
  · have c5 : zI ((rootL p false).length : Int) ≤ 5 := by rw [show (5 : Int32) = zI 5 from rfl, zI_le (rI_n (by omega)) (rI_s (by decide) (by decide))]; omega
    obtain ⟨m2, b1, b2', b3, b4⟩ := M_findLeast V n5 a2
    have l0 := b3 0 (Nat.zero_le _) (Nat.pow_pos (by decide))
    rw [LR_0] at l0
    rw [if_pos c5, if_pos n5, b1, qb1_s, show (0 : Int32) = zI ((0 : Nat) : Int) from rfl, qld_at (by decide) (by decide), l0]
    exact ⟨m2, rfl, b2'.1, a3.ls.tr b4.ls⟩
  · have ln' : (rootL p false).length ≤ 12 := ln
    have c5 : ¬ zI ((rootL p false).length : Int) ≤ 5 := by rw [show (5 : Int32) = zI 5 from rfl, zI_le (rI_n (by omega)) (rI_s (by decide) (by decide))]; omega
    rw [if_neg c5, if_neg n5]
    exact ⟨m1, rfl, a2.1, a3.ls⟩
theorem M_bestR_loop (V : VP p) (n5 : (rootL p false).length ≤ 5) {i : Nat} {w : Pc} (hw : (rootL p false)[i]? = some w) (e0 : fwv p (rootL p false) w.1 = fpc p 5 (rootL p false)) (hb : ∀ (j : Nat) (e : Pc), j < i → (rootL p false)[j]? = some e → ¬ fwv p (rootL p false) e.1 = fpc p 5 (rootL p false)) : ∀ (n k g : Nat) (m : Pk), k + n = i → n < g → Fx m p → UpA m p 0 → ∃ m', fX10_bestRoot_b31 g m (zI (k : Int)) = some (zI (w.1 : Int), m') ∧ hpF m m' := by
  have h243 : 3 ^ (rootL p false).length ≤ 3 ^ 5 := Nat.pow_le_pow_right (by decide) n5
  have hil := get_lt hw
  have step : ∀ (k g : Nat) (m : Pk) (e : Pc), (rootL p false)[k]? = some e → Fx m p → UpA m p 0 → ∃ m1, hpF m m1 ∧ fX10_bestRoot_b31 (g + 1) m (zI (k : Int)) = if fwv p (rootL p false) e.1 = fpc p 5 (rootL p false) then some (zI (e.1 : Int), m1) else fX10_bestRoot_b31 g m1 (zI ((k + 1 : Nat) : Int)) := by
    intro k g m e he F U
    have hk := get_lt he
    have hu := dig_lt (rootL p false).length (by omega) k hk 0 (by decide) (Nat.pow_pos (by decide)) (dig_0 k)
    obtain ⟨m1, a1, a2⟩ := M_with (R := 0) V (by decide) n5 he (dig_0 k) (by omega) F (fun b => by
      cases b with
      | true => exact U _ (Nat.zero_le _) (by show 0 + 3 ^ k < _; omega)
      | false => exact U _ (Nat.zero_le _) hu)
    have F1 := F.hp a2
    have l0 := U 0 (Nat.zero_le _) (Nat.pow_pos (by decide))
    rw [LR_0] at a1 l0
    refine ⟨m1, a2, ?_⟩
    show fX10_bestRoot_b31_s (fX10_bestRoot_b31 g) m (zI (k : Int)) = _
    unfold fX10_bestRoot_b31_s
    have f1 := fwv_bd (p := p) (L := rootL p false) (by omega) e.1
    have f2 := fpc_bd (p := p) 5 (rootL p false) (by omega)
    have eqz : zI ((fwv p (rootL p false) e.1 : Nat) : Int) = zI ((fpc p 5 (rootL p false) : Nat) : Int) ↔ fwv p (rootL p false) e.1 = fpc p 5 (rootL p false) := by
      rw [zI_eq (rI_n (by omega)) (rI_n (by omega))]
      omega
    have a1 : fX10_with m 0 (zI (k : Int)) = some (zI ((fwv p (rootL p false) e.1 : Nat) : Int), m1) := a1
    rw [a1, qb2_s, show (0 : Int32) = zI ((0 : Nat) : Int) from rfl, qld_at (by decide) (by decide), a2.1, l0]
    by_cases c : fwv p (rootL p false) e.1 = fpc p 5 (rootL p false)
    · rw [if_pos (eqz.mpr c), if_pos c, qld_at (by omega) (by decide), F.2.2.1 k e he]
    · rw [if_neg (fun h => c (eqz.mp h)), if_neg c, qn_s, show zI (k : Int) + 1 = zI ((k + 1 : Nat) : Int) from by rw [show (1 : Int32) = zI 1 from rfl, zI_add]; rfl]
  intro n
  induction n with
  | zero =>
    intro k g m hk hg F U
    obtain ⟨g, rfl⟩ := Nat.exists_eq_add_of_lt hg
    have e : k = i := hk
    subst e
    obtain ⟨m1, a1, a2⟩ := step k (0 + g) m w hw F U
    rw [if_pos e0] at a2
    exact ⟨m1, a2, a1⟩
  | succ n ih =>
    intro k g m hk hg F U
    obtain ⟨g, rfl⟩ := Nat.exists_eq_add_of_lt hg
    obtain ⟨e, he⟩ : ∃ e, (rootL p false)[k]? = some e := ⟨_, List.getElem?_eq_getElem (by omega)⟩
    obtain ⟨m1, a1, a2⟩ := step k (n + 1 + g) m e he F U
    rw [if_neg (hb k e (by omega) he)] at a2
    obtain ⟨m', b1, b2'⟩ := ih (k + 1) (n + 1 + g) m1 (by omega) (by omega) (F.hp a1) (fun R' g1 g2 => by rw [a1.1]; exact U R' g1 g2)
    exact ⟨m', a2.trans b1, a1.tr b2'⟩
theorem M_bestRoot (V : VP p) (Q : ReM m p) (h65 : ∀ j, j < 6 → m.1 65 j = zI ((3 ^ j : Nat) : Int)) : ∃ v m', fX10_bestRoot m = some (v, m') ∧ ReM m' p ∧ lsF m m' ∧ (¬ (rootL p false).length ≤ 5 → v = -5) ∧ (rootL p false = [] → v = -8) ∧ ∀ (i : Nat) (w : Pc), (rootL p false).length ≤ 5 → (rootL p false)[i]? = some w → fwv p (rootL p false) w.1 = fpc p 5 (rootL p false) → (∀ (j : Nat) (e : Pc), j < i → (rootL p false)[j]? = some e → ¬ fwv p (rootL p false) e.1 = fpc p 5 (rootL p false)) → v = zI (w.1 : Int) := by
  obtain ⟨m1, a1, a2, a3⟩ := M_findFixed Q h65
  have ln : (rootL p false).length ≤ 12 := rowL_len (rt p false) 12
  unfold fX10_bestRoot
  rw [a1, qb1_s, a2.2.1]
  by_cases n5 : (rootL p false).length ≤ 5
  · have c5 : zI ((rootL p false).length : Int) ≤ 5 := by rw [show (5 : Int32) = zI 5 from rfl, zI_le (rI_n (by omega)) (rI_s (by decide) (by decide))]; omega
    rw [if_pos c5]
    by_cases cn : rootL p false = []
    · rw [if_pos (show zI ((rootL p false).length : Int) = 0 from by rw [cn]; rfl)]
      exact ⟨-8, m1, rfl, a2.1, a3.ls, fun h => absurd n5 h, fun _ => rfl, fun i w _ h => by rw [cn] at h; cases h⟩
    · have l1 : 0 < (rootL p false).length := List.length_pos_iff.mpr cn
      have cz : ¬ zI ((rootL p false).length : Int) = 0 := by rw [show (0 : Int32) = zI 0 from rfl, zI_eq (rI_n (by omega)) r0]; omega
      obtain ⟨m2, b1, b2', b3, b4⟩ := M_findLeast V n5 a2
      -- the first of the least
      have ex : ∃ (i : Nat) (w : Pc), (rootL p false)[i]? = some w ∧ fwv p (rootL p false) w.1 = fpc p 5 (rootL p false) ∧ ∀ (j : Nat) (e : Pc), j < i → (rootL p false)[j]? = some e → ¬ fwv p (rootL p false) e.1 = fpc p 5 (rootL p false) := by
        rw [fpc_eq n5]
        have key : ∀ (f : Pc → Nat) (l : List Pc), l ≠ [] → ∃ (i : Nat) (w : Pc), l[i]? = some w ∧ f w = mnl (l.map f) := by
          intro f l hl
          have hm : mnl (l.map f) ∈ l.map f := mnl_mem (by intro h; exact hl (List.map_eq_nil_iff.mp h))
          obtain ⟨w, hw, e⟩ := List.mem_map.mp hm
          obtain ⟨i, hi⟩ := List.getElem?_of_mem hw
          exact ⟨i, w, hi, e⟩
        obtain ⟨i, w, h1, h2⟩ := key (fun q => fwv p (rootL p false) q.1) (rootL p false) cn
        have fd : ∀ n i : Nat, i ≤ n → (∃ w, (rootL p false)[i]? = some w ∧ fwv p (rootL p false) w.1 = mnl ((rootL p false).map (fun q => fwv p (rootL p false) q.1))) → ∃ (i : Nat) (w : Pc), (rootL p false)[i]? = some w ∧ fwv p (rootL p false) w.1 = mnl ((rootL p false).map (fun q => fwv p (rootL p false) q.1)) ∧ ∀ (j : Nat) (e : Pc), j < i → (rootL p false)[j]? = some e → ¬ fwv p (rootL p false) e.1 = mnl ((rootL p false).map (fun q => fwv p (rootL p false) q.1)) := by
          intro n
          induction n with
          | zero =>
            intro i hi ⟨w, h1, h2⟩
            exact ⟨i, w, h1, h2, fun j e hj => by omega⟩
          | succ n ih =>
            intro i hi ⟨w, h1, h2⟩
            by_cases c : ∃ j, j < i ∧ ∃ e, (rootL p false)[j]? = some e ∧ fwv p (rootL p false) e.1 = mnl ((rootL p false).map (fun q => fwv p (rootL p false) q.1))
            · obtain ⟨j, hj, e, g1, g2⟩ := c
              exact ih j (by omega) ⟨e, g1, g2⟩
            · exact ⟨i, w, h1, h2, fun j e hj g1 g2 => c ⟨j, hj, e, g1, g2⟩⟩
        exact fd i i (Nat.le_refl _) ⟨w, h1, h2⟩
      obtain ⟨i, w, h1, h2, h3⟩ := ex
      have hi := get_lt h1
      obtain ⟨m3, c1, c2⟩ := M_bestR_loop V n5 h1 h2 h3 i 0 FU m2 (Nat.zero_add _) (Nat.lt_of_lt_of_le hi (Nat.le_trans n5 (by decide))) b2' b3
      rw [if_neg cz, b1, qb1_s]
      refine ⟨zI (w.1 : Int), m3, c1, (b2'.hp c2).1, a3.ls.tr (b4.ls.tr c2.fl.ls), fun h => absurd n5 h, fun h => absurd h cn, fun i' w' _ g1 g2 g3 => ?_⟩
      have : i = i' := by
        by_cases q1 : i < i'
        · exact absurd h2 (g3 i w q1 h1)
        · by_cases q2 : i' < i
          · exact absurd g2 (h3 i' w' q2 g1)
          · omega
      subst this
      rw [h1] at g1
      injection g1 with g1
      rw [g1]
  · have c5 : ¬ zI ((rootL p false).length : Int) ≤ 5 := by rw [show (5 : Int32) = zI 5 from rfl, zI_le (rI_n (by omega)) (rI_s (by decide) (by decide))]; omega
    rw [if_neg c5]
    exact ⟨-5, m1, rfl, a2.1, a3.ls, fun _ => rfl, fun h => by rw [h] at n5; exact absurd (Nat.zero_le 5) n5, fun i w h => absurd h n5⟩
end S
