/-! REGIONS: the reference's fixed walls, hasPart, with -/
section S
variable {p : Pln} {m m' : Pk} {q : Pc} {R v : Nat}
def ffF (m m' : Pk) : Prop := (∀ r, ¬ r = 62 → m'.1 r = m.1 r) ∧ (∀ k, ¬ k = 63 → m'.2.1 k = m.2.1 k) ∧ m'.2.2 = m.2.2
theorem ffF.rf (m : Pk) : ffF m m := ⟨fun _ _ => rfl, fun _ _ => rfl, rfl⟩
theorem ffF.tr {a b c : Pk} (h : ffF a b) (g : ffF b c) : ffF a c := ⟨fun r hr => (g.1 r hr).trans (h.1 r hr), fun k hk => (g.2.1 k hk).trans (h.2.1 k hk), g.2.2.trans h.2.2⟩
theorem ReM.ff (Q : ReM m p) (h : ffF m m') : ReM m' p := ⟨by rw [h.1 0 (by decide)]; exact Q.1, by rw [h.2.1 1 (by decide)]; exact Q.2.1, by rw [h.2.1 2 (by decide)]; exact Q.2.2⟩
theorem M_ff_loop : ∀ (n i g : Nat) (m : Pk) (A : List Pc), i + n = 12 → n < g → ReM m p → m.2.1 63 = zI (A.length : Int) → (∀ (j : Nat) (e : Pc), A[j]? = some e → m.1 62 j = zI (e.1 : Int)) → A.length + (rowL (rt p false) n).length ≤ 12 → ∃ m', fX10_findFixed_b7 g m (zI (i : Int)) = some m' ∧ m'.2.1 63 = zI ((A ++ rowL (rt p false) n).length : Int) ∧ (∀ (j : Nat) (e : Pc), (A ++ rowL (rt p false) n)[j]? = some e → m'.1 62 j = zI (e.1 : Int)) ∧ ffF m m' := by
  intro n
  induction n with
  | zero =>
    intro i g m A hi hg Q h1 h2 h3
    obtain ⟨g, rfl⟩ := Nat.exists_eq_add_of_lt hg
    have e : i = 12 := hi
    subst e
    refine ⟨m, ?_, ?_, ?_, ffF.rf m⟩
    · show fX10_findFixed_b7_s _ m _ = _
      unfold fX10_findFixed_b7_s
      rw [if_pos (by decide)]
    · rw [show rowL (rt p false) 0 = [] from rfl, List.append_nil]; exact h1
    · rw [show rowL (rt p false) 0 = [] from rfl, List.append_nil]; exact h2
  | succ n ih =>
    intro i g m A hi hg Q h1 h2 h3
    obtain ⟨g, rfl⟩ := Nat.exists_eq_add_of_lt hg
    have h12 : i < 12 := by omega
    have ei : 11 - n = i := by omega
    have b : ∀ m, fX10_findFixed_b53 (fX10_findFixed_b7 (n + 1 + g)) m (zI (i : Int)) = fX10_findFixed_b7 (n + 1 + g) m (zI ((i + 1 : Nat) : Int)) := by
      intro m
      unfold fX10_findFixed_b53
      rw [qn_s, show zI (i : Int) + 1 = zI ((i + 1 : Nat) : Int) from by rw [show (1 : Int32) = zI 1 from rfl, zI_add]; rfl]
    have ru : rowL (rt p false) (n + 1) = (match rt p false i with
      | some d => [((i, d) : Pc)]
      | none => []) ++ rowL (rt p false) n := by
      rw [← ei]
      rfl
    have skip : rt p false i = none → ∃ m', fX10_findFixed_b7 (n + 1 + g) m (zI ((i + 1 : Nat) : Int)) = some m' ∧ m'.2.1 63 = zI ((A ++ rowL (rt p false) (n + 1)).length : Int) ∧ (∀ (j : Nat) (e : Pc), (A ++ rowL (rt p false) (n + 1))[j]? = some e → m'.1 62 j = zI (e.1 : Int)) ∧ ffF m m' := by
      intro hn
      rw [ru, hn] at h3 ⊢
      rw [List.nil_append] at h3 ⊢
      exact ih (i + 1) (n + 1 + g) m A (by omega) (by omega) Q h1 h2 h3
    show ∃ m', fX10_findFixed_b7_s (fX10_findFixed_b7 (n + 1 + g)) m (zI (i : Int)) = some m' ∧ _
    unfold fX10_findFixed_b7_s
    rw [if_neg (i12a h12), M_at0 Q h12, qb1_s]
    cases hp : pP p i with
    | false =>
      rw [if_neg (by decide), b]
      exact skip (by unfold rt; rw [hp]; rfl)
    | true =>
      rw [if_pos (by decide), M_at6 Q h12 hp, qb1_s]
      cases hm : pM p i with
      | true =>
        rw [if_neg (by decide), b]
        exact skip (by unfold rt; rw [hp, hm]; rfl)
      | false =>
        have hs : rt p false i = some (0, 1, 1, 1) := by unfold rt; rw [hp, hm]; rfl
        rw [ru, hs] at h3 ⊢
        have h3 : A.length + ([((i, 0, 1, 1, 1) : Pc)] ++ rowL (rt p false) n).length ≤ 12 := h3
        rw [List.length_append, List.length_singleton] at h3
        rw [if_pos (by decide), h1, qst_at (by omega) (by decide), qn_s, qn_s, b]
        have e63 : (pkI (pkA m 62 (zI (A.length : Int)) (zI (i : Int))) 63 ((pkA m 62 (zI (A.length : Int)) (zI (i : Int))).2.1 63 + 1)).2.1 63 = zI ((A ++ [((i, 0, 1, 1, 1) : Pc)]).length : Int) := by
          rw [pI, if_pos rfl, pA2, h1, List.length_append, List.length_singleton, show (1 : Int32) = zI 1 from rfl, zI_add]
          rfl
        have fr : ffF m (pkI (pkA m 62 (zI (A.length : Int)) (zI (i : Int))) 63 ((pkA m 62 (zI (A.length : Int)) (zI (i : Int))).2.1 63 + 1)) := ⟨fun r hr => by
          show (pkA m 62 (zI (A.length : Int)) (zI (i : Int))).1 r = _
          rw [pA1 (by omega), if_neg hr], fun k hk => by rw [pI, if_neg hk, pA2], rfl⟩
        obtain ⟨m', a1, a2, a3, a4⟩ := ih (i + 1) (n + 1 + g) (pkI (pkA m 62 (zI (A.length : Int)) (zI (i : Int))) 63 ((pkA m 62 (zI (A.length : Int)) (zI (i : Int))).2.1 63 + 1)) (A ++ [((i, 0, 1, 1, 1) : Pc)]) (by omega) (by omega) (Q.ff fr) e63 (fun j e he => by
          show (pkA m 62 (zI (A.length : Int)) (zI (i : Int))).1 62 j = _
          rw [pA1 (by omega), if_pos rfl]
          by_cases c : j = A.length
          · subst c
            rw [List.getElem?_append_right (Nat.le_refl _), Nat.sub_self] at he
            have he : some ((i, 0, 1, 1, 1) : Pc) = some e := he
            injection he with he
            rw [← he]
            exact if_pos rfl
          · have hj := get_lt he
            rw [List.length_append, List.length_singleton] at hj
            rw [List.getElem?_append_left (by omega)] at he
            rw [← h2 j e he]
            exact if_neg c) (by rw [List.length_append, List.length_singleton]; omega)
        rw [List.append_assoc] at a2 a3
        exact ⟨m', a1, a2, a3, fr.tr a4⟩
theorem M_findFixed (Q : ReM m p) (h65 : ∀ j, j < 6 → m.1 65 j = zI ((3 ^ j : Nat) : Int)) : ∃ m', fX10_findFixed m = some m' ∧ Fx m' p ∧ ffF m m' := by
  have fr : ffF m (pkI m 63 0) := ⟨fun _ _ => rfl, fun k hk => by rw [pI, if_neg hk], rfl⟩
  obtain ⟨m', a1, a2, a3, a4⟩ := M_ff_loop (p := p) 12 0 FU (pkI m 63 0) [] rfl (by decide) (Q.ff fr) rfl (fun j e h => by cases h) (by rw [List.length_nil, Nat.zero_add]; exact rowL_len _ 12)
  have F := fr.tr a4
  exact ⟨m', a1, ⟨Q.ff F, a2, a3, fun j hj => by rw [F.1 65 (by decide)]; exact h65 j hj⟩, F⟩
theorem root_full {e : Pc} (h : e ∈ rootL p false) : e.2 = (0, 1, 1, 1) := by
  obtain ⟨-, h2⟩ := rowL_mem 12 (by omega) h
  exact (rt_some h2).2.2
theorem M_hasPart (V : VP p) (hR : R < 243) (n5 : (rootL p false).length ≤ 5) (F : Fx m p) {e : Pc} (he : e ∈ rootL p false) : ∃ m', fX10_hasPart m (zI (R : Int)) (zI (e.1 : Int)) = some (b2 (!(rcl p R (rootL p false) 0 e).isEmpty), m') ∧ hpF m m' ∧ ∀ q', rcl p R (rootL p false) 0 e = [q'] → I4 m' q' := by
  unfold fX10_hasPart
  rw [qn_s, qn_s, qn_s, qn_s]
  have fr := ((hpF_I m (k := 66) (by decide) 0).tr (hpF_I _ (k := 67) (by decide) 1)).tr ((hpF_I _ (k := 68) (by decide) 1).tr (hpF_I _ (k := 69) (by decide) 1))
  have ef := root_full he
  obtain ⟨m', a1, a2, a3⟩ := M_hasP_loop V hR n5 (rootL p false) 0 FU (pkI (pkI (pkI (pkI m 66 0) 67 1) 68 1) 69 1) e (fun j e h => by rw [Nat.zero_add]; exact h) (Nat.zero_add _) (Nat.lt_of_le_of_lt n5 (by decide)) (F.hp fr) (rootL_mem he).1 (by
    unfold I4
    rw [ef]
    exact ⟨rfl, rfl, rfl, rfl⟩)
  exact ⟨m', a1, fr.tr a2, a3⟩
/-- what is known of the regions above -/
def Up (m : Pk) (p : Pln) (R k : Nat) : Prop := ∀ b, m.1 64 (up R k b) = zI ((fpc p 5 (LR p (up R k b)) : Nat) : Int)
theorem M_with_loop (V : VP p) (hR : R < 243) (n5 : (rootL p false).length ≤ 5) {k : Nat} {w : Pc} (hw : (rootL p false)[k]? = some w) (hu : R + 2 * 3 ^ k < 243) : ∀ (s : List Pc) (j g a : Nat) (m : Pk), (∀ i e, s[i]? = some e → (rootL p false)[j + i]? = some e) → j + s.length = (rootL p false).length → s.length < g → Fx m p → Up m p R k → ∃ m', fX10_with_b5 g m (zI (R : Int)) (zI (k : Int)) (zI (a : Int)) (zI (j : Int)) = some (zI ((a + (ons p w.1 (s.flatMap (rcl p R (rootL p false) 0))).length + fpc p 5 (LR p (up R k true)) + fpc p 5 (LR p (up R k false)) : Nat) : Int), m') ∧ hpF m m' := by
  have hk := get_lt hw
  have W := FxE w (List.mem_of_getElem? hw)
  intro s
  induction s with
  | nil =>
    intro j g a m hs hj hg F U
    obtain ⟨g, rfl⟩ := Nat.exists_eq_add_of_lt hg
    have e : j = (rootL p false).length := hj
    refine ⟨m, ?_, hpF.rf m⟩
    show fX10_with_b5_s _ m _ _ _ _ = _
    unfold fX10_with_b5_s
    have u1 : zI (R : Int) + zI ((3 ^ k : Nat) : Int) = zI ((up R k true : Nat) : Int) := by rw [zI_add]; rfl
    have u2 : zI (R : Int) + 2 * zI ((3 ^ k : Nat) : Int) = zI ((up R k false : Nat) : Int) := by rw [show (2 : Int32) = zI 2 from rfl, zI_mul, zI_add]; rfl
    have l1 : up R k true < 243 := by show R + 3 ^ k < 243; omega
    have l2 : up R k false < 243 := hu
    rw [F.2.1, e, if_pos (Int32.le_refl _), qld_at (by omega) (by decide), F.2.2.2 k (by omega), u1, qld_at l1 (by decide), qld_at (by omega) (by decide), F.2.2.2 k (by omega), u2, qld_at l2 (by decide), U true, U false, zI_add, zI_add]
    rfl
  | cons e s ih =>
    intro j g a m hs hj hg F U
    obtain ⟨g, rfl⟩ := Nat.exists_eq_add_of_lt hg
    have hj' : j < (rootL p false).length := by rw [← hj]; exact Nat.lt_add_of_pos_right (Nat.succ_pos _)
    have he : (rootL p false)[j]? = some e := hs 0 e rfl
    have hm := List.mem_of_getElem? he
    obtain ⟨m1, a1, a2, a3⟩ := M_hasPart V hR n5 F hm
    have F1 := F.hp a2
    have U1 : Up m1 p R k := fun b => by rw [a2.1]; exact U b
    have nxt : ∀ a' : Nat, ∃ m', fX10_with_b68 (fX10_with_b5 ((e :: s).length + g)) m1 (zI (R : Int)) (zI (k : Int)) (zI (a' : Int)) (zI (j : Int)) = some (zI ((a' + (ons p w.1 (s.flatMap (rcl p R (rootL p false) 0))).length + fpc p 5 (LR p (up R k true)) + fpc p 5 (LR p (up R k false)) : Nat) : Int), m') ∧ hpF m m' := by
      intro a'
      unfold fX10_with_b68
      rw [qn_s, show zI (j : Int) + 1 = zI ((j + 1 : Nat) : Int) from by rw [show (1 : Int32) = zI 1 from rfl, zI_add]; rfl]
      obtain ⟨m', c1, c2⟩ := ih (j + 1) ((e :: s).length + g) a' m1 (fun i e' hi => by
        have := hs (i + 1) e' hi
        rwa [show j + 1 + i = j + (i + 1) from by omega]) (by rw [← hj, List.length_cons]; omega) (by rw [List.length_cons]; omega) F1 U1
      exact ⟨m', c1, a2.tr c2⟩
    show ∃ m', fX10_with_b5_s (fX10_with_b5 ((e :: s).length + g)) m (zI (R : Int)) (zI (k : Int)) (zI (a : Int)) (zI (j : Int)) = _ ∧ _
    unfold fX10_with_b5_s
    rw [F.2.1, if_neg (ix_a hj' (by omega)), qld_at (by omega) (by decide), F.2.2.1 j e he, a1, qb2_s, List.flatMap_cons, ons_app, List.length_append]
    rcases rcl_one (R := R) V (rootL p false) 0 e FxE (rootL_mem hm).1 with h | ⟨r, h, h1, h2⟩
    · rw [h] at *
      rw [if_pos (by decide)]
      obtain ⟨m', c1, c2⟩ := nxt a
      refine ⟨m', ?_, c2⟩
      rw [c1]
      exact congrArg (fun z : Nat => some (zI (z : Int), m')) (by rw [show (ons p w.1 []).length = 0 from rfl]; omega)
    · have I := a3 r h
      rw [h, show (!([r] : List Pc).isEmpty) = true from rfl, ifT, qld_at (by omega) (by decide), F1.2.2.1 k w hw, qld_at (by omega) (by decide), F1.2.2.1 j e he, I.1, I.2.1, I.2.2.1, I.2.2.2, ← h1, M_relation F1.1 V W.1 W.2 h2, qb1_s]
      have o1 : (ons p w.1 [r]).length = if rel p w.1 r = 0 then 1 else 0 := by
        unfold ons
        rw [List.filter_cons]
        by_cases c : rel p w.1 r = 0
        · rw [if_pos c, if_pos (decide_eq_true c)]; rfl
        · rw [if_neg c, if_neg (by rw [decide_eq_true_eq]; exact c)]; rfl
      have rz : zI (rm (rel p w.1 r)) = 0 ↔ rel p w.1 r = 0 := by
        rcases rel_lt (p := p) w.1 r with c | c | c | c <;> rw [c] <;> decide
      by_cases c : rel p w.1 r = 0
      · rw [if_pos (rz.mpr c), qn_s, show zI (a : Int) + 1 = zI ((a + 1 : Nat) : Int) from by rw [show (1 : Int32) = zI 1 from rfl, zI_add]; rfl]
        obtain ⟨m', c1, c2⟩ := nxt (a + 1)
        refine ⟨m', ?_, c2⟩
        rw [c1, o1, if_pos c]
        exact congrArg (fun z : Nat => some (zI (z : Int), m')) (by omega)
      · rw [if_neg (fun h => c (rz.mp h))]
        obtain ⟨m', c1, c2⟩ := nxt a
        refine ⟨m', ?_, c2⟩
        rw [c1, o1, if_neg c]
        exact congrArg (fun z : Nat => some (zI (z : Int), m')) (by omega)
theorem M_with (V : VP p) (hR : R < 243) (n5 : (rootL p false).length ≤ 5) {k : Nat} {w : Pc} (hw : (rootL p false)[k]? = some w) (h0 : dig R k = 0) (hu : R + 2 * 3 ^ k < 243) (F : Fx m p) (U : Up m p R k) : ∃ m', fX10_with m (zI (R : Int)) (zI (k : Int)) = some (zI ((fwv p (LR p R) w.1 : Nat) : Int), m') ∧ hpF m m' := by
  obtain ⟨m', a1, a2⟩ := M_with_loop V hR n5 hw hu (rootL p false) 0 FU 0 m (fun i e h => by rw [Nat.zero_add]; exact h) (Nat.zero_add _) (Nat.lt_of_le_of_lt n5 (by decide)) F U
  refine ⟨m', ?_, a2⟩
  unfold fX10_with
  refine a1.trans ?_
  rw [LR_up V n5 hR hw h0 true, LR_up V n5 hR hw h0 false]
  unfold fwv
  exact congrArg (fun z : Nat => some (zI (z : Int), m')) (by
    show 0 + (ons p w.1 (LR p R)).length + _ + _ = _
    omega)
end S
