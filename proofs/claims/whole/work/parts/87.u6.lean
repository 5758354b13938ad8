/-! THE REFERENCE'S TREE: a movable piece put in, by the machine -/
section S
variable {m : Pk} {J k : Nat} {q : Pc}
theorem ix7c (J c : Nat) : zI ((7 * J : Nat) : Int) + zI (c : Int) = zI ((7 * J + c : Nat) : Int) := ix_c1 _ _
theorem M_push (hJ : J < 60) (hk : k < 160) (s : Bool) (a b c d : Int) : ∃ m', fX10_push m (zI (J : Int)) (zI (k : Int)) (if s then 0 else 1) (zI a) (zI b) (zI c) (zI d) = some m' ∧ m'.2 = m.2 ∧ (∀ r, ¬ r = 37 → m'.1 r = m.1 r) ∧ (∀ x, ¬ (7 * J ≤ x ∧ x < 7 * J + 7) → m'.1 37 x = m.1 37 x) ∧ m'.1 37 (7 * J) = (if s then m.1 21 k else m.1 22 k) ∧ m'.1 37 (7 * J + 1) = zI (k : Int) ∧ m'.1 37 (7 * J + 2) = (if s then 0 else 1) ∧ m'.1 37 (7 * J + 3) = zI a ∧ m'.1 37 (7 * J + 4) = zI b ∧ m'.1 37 (7 * J + 5) = zI c ∧ m'.1 37 (7 * J + 6) = zI d := by
  have k1 : zI ((7 * J : Nat) : Int) + 1 = zI ((7 * J + 1 : Nat) : Int) := ix7c J 1
  have k2 : zI ((7 * J : Nat) : Int) + 2 = zI ((7 * J + 2 : Nat) : Int) := ix7c J 2
  have k3 : zI ((7 * J : Nat) : Int) + 3 = zI ((7 * J + 3 : Nat) : Int) := ix7c J 3
  have k4 : zI ((7 * J : Nat) : Int) + 4 = zI ((7 * J + 4 : Nat) : Int) := ix7c J 4
  have k5 : zI ((7 * J : Nat) : Int) + 5 = zI ((7 * J + 5 : Nat) : Int) := ix7c J 5
  have k6 : zI ((7 * J : Nat) : Int) + 6 = zI ((7 * J + 6 : Nat) : Int) := ix7c J 6
  have b0 : 7 * J < 2147483648 := by omega
  have b1 : 7 * J + 1 < 2147483648 := by omega
  have b2' : 7 * J + 2 < 2147483648 := by omega
  have b3 : 7 * J + 3 < 2147483648 := by omega
  have b4 : 7 * J + 4 < 2147483648 := by omega
  have b5 : 7 * J + 5 < 2147483648 := by omega
  have b6 : 7 * J + 6 < 2147483648 := by omega
  have key : ∀ (z x : Int32), ∃ m', fX10_push_b31 m (zI (k : Int)) z (zI a) (zI b) (zI c) (zI d) (zI ((7 * J : Nat) : Int)) (zI ((7 * J : Nat) : Int)) x = some m' ∧ m'.2 = m.2 ∧ (∀ r, ¬ r = 37 → m'.1 r = m.1 r) ∧ (∀ x, ¬ (7 * J ≤ x ∧ x < 7 * J + 7) → m'.1 37 x = m.1 37 x) ∧ m'.1 37 (7 * J) = x ∧ m'.1 37 (7 * J + 1) = zI (k : Int) ∧ m'.1 37 (7 * J + 2) = z ∧ m'.1 37 (7 * J + 3) = zI a ∧ m'.1 37 (7 * J + 4) = zI b ∧ m'.1 37 (7 * J + 5) = zI c ∧ m'.1 37 (7 * J + 6) = zI d := by
    intro z x
    unfold fX10_push_b31
    simp only [qn_s, k1, k2, k3, k4, k5, k6]
    rw [qst_at (by omega) (by decide), qst_at (by omega) (by decide), qst_at (by omega) (by decide), qst_at (by omega) (by decide), qst_at (by omega) (by decide), qst_at (by omega) (by decide), qst_at (by omega) (by decide)]
    refine ⟨_, rfl, rfl, fun r hr => ?_, fun x hx => ?_, ?_, ?_, ?_, ?_, ?_, ?_, ?_⟩
    · rw [pA1 b6, if_neg hr, pA1 b5, if_neg hr, pA1 b4, if_neg hr, pA1 b3, if_neg hr, pA1 b2', if_neg hr, pA1 b1, if_neg hr, pA1 b0, if_neg hr]
    · rw [pAt b6, if_neg (by omega), pAt b5, if_neg (by omega), pAt b4, if_neg (by omega), pAt b3, if_neg (by omega), pAt b2', if_neg (by omega), pAt b1, if_neg (by omega), pAt b0, if_neg (by omega)]
    · rw [pAt b6, if_neg (by omega), pAt b5, if_neg (by omega), pAt b4, if_neg (by omega), pAt b3, if_neg (by omega), pAt b2', if_neg (by omega), pAt b1, if_neg (by omega), pAt b0, if_pos ⟨rfl, rfl⟩]
    · rw [pAt b6, if_neg (by omega), pAt b5, if_neg (by omega), pAt b4, if_neg (by omega), pAt b3, if_neg (by omega), pAt b2', if_neg (by omega), pAt b1, if_pos ⟨rfl, rfl⟩]
    · rw [pAt b6, if_neg (by omega), pAt b5, if_neg (by omega), pAt b4, if_neg (by omega), pAt b3, if_neg (by omega), pAt b2', if_pos ⟨rfl, rfl⟩]
    · rw [pAt b6, if_neg (by omega), pAt b5, if_neg (by omega), pAt b4, if_neg (by omega), pAt b3, if_pos ⟨rfl, rfl⟩]
    · rw [pAt b6, if_neg (by omega), pAt b5, if_neg (by omega), pAt b4, if_pos ⟨rfl, rfl⟩]
    · rw [pAt b6, if_neg (by omega), pAt b5, if_pos ⟨rfl, rfl⟩]
    · rw [pAt b6, if_pos ⟨rfl, rfl⟩]
  unfold fX10_push
  rw [qn_s, ix7_0]
  cases s with
  | true =>
    rw [if_pos (show (if true = true then (0 : Int32) else 1) = 0 from rfl), qld_at hk (by decide)]
    exact key _ _
  | false =>
    rw [if_neg (show ¬ (if false = true then (0 : Int32) else 1) = 0 by decide), qld_at hk (by decide)]
    exact key _ _
/-- what waits on the stack -/
def ES (m : Pk) (J : Nat) (c : Int) (par : Option (Nat × Bool)) (q : Pc) : Prop := m.1 37 (7 * J) = zI c ∧ m.1 37 (7 * J + 1) = parZ par ∧ sdOk par (m.1 37 (7 * J + 2)) ∧ m.1 37 (7 * J + 3) = zI q.2.1 ∧ m.1 37 (7 * J + 4) = zI q.2.2.1 ∧ m.1 37 (7 * J + 5) = zI q.2.2.2.1 ∧ m.1 37 (7 * J + 6) = zI q.2.2.2.2
theorem ES.of {m' : Pk} {c : Int} {par : Option (Nat × Bool)} (h : ES m J c par q) (e : ∀ x, x < 7 * J + 7 → m'.1 37 x = m.1 37 x) : ES m' J c par q := by
  unfold ES at *
  rw [e _ (by omega), e _ (by omega), e _ (by omega), e _ (by omega), e _ (by omega), e _ (by omega), e _ (by omega)]
  exact h
/-- T' is T with one more movable piece at the end of its list -/
def INS (T T' : Tr) (q0 : Pc) : Prop := T' = (T.1, T.2.1, T.2.2.1, T.2.2.2 ++ [q0]) ∧ pM T.1 q0.1 = true
end S
section S
variable {X Y Z : List Bool → Option (Nat × List Pc)} {π : List Bool}
theorem not_below {x s : Bool} (h : ¬ x = s) (σ : List Bool) : ¬ ∃ σ', σ ++ x :: π = σ' ++ s :: π := by
  rintro ⟨σ', e⟩
  have hl := congrArg List.length e
  rw [List.length_append, List.length_append, List.length_cons, List.length_cons] at hl
  have := List.append_inj_right e (by omega)
  injection this with a _
  exact h a
theorem not_self (s : Bool) : ¬ ∃ σ', π = σ' ++ s :: π := by
  rintro ⟨σ', e⟩
  have hl := congrArg List.length e
  rw [List.length_append, List.length_cons] at hl
  omega
theorem up_below {s : Bool} {ρ : List Bool} (h : ¬ ∃ σ, ρ = σ ++ π) : ¬ ∃ σ, ρ = σ ++ s :: π := by
  rintro ⟨σ, e⟩
  exact h ⟨σ ++ [s], by rw [e, List.append_assoc]; rfl⟩
/-- a subtree's update from its parts -/
theorem Xu_eq (a : ∀ ρ, (¬ ∃ σ, ρ = σ ++ π) → Z ρ = X ρ) (b : Z π = Y π) (c : ∀ x σ, Z (σ ++ x :: π) = Y (σ ++ x :: π)) (ρ : List Bool) : Xu X π Y ρ = Z ρ := by
  by_cases h : ∃ σ, ρ = σ ++ π
  · obtain ⟨σ, e⟩ := h
    subst e
    rw [Xu_in]
    rcases snoc σ with e | ⟨τ, x, e⟩
    · subst e; exact b.symm
    · subst e
      rw [List.append_assoc]
      exact (c x τ).symm
  · rw [Xu_out h, a ρ h]
end S
section S
variable {T T' : Tr} {q0 : Pc} {π : List Bool}
theorem INS.eq1 (I : INS T T' q0) : T'.1 = T.1 := by rw [I.1]
theorem INS.lins (I : INS T T' q0) (π : List Bool) : Ls T' π = Ls T π ++ dn T' q0 π := by
  obtain ⟨p, S, B, l⟩ := T
  obtain ⟨h1, h2⟩ := I
  subst h1
  exact Lins h2 π
theorem INS.same (I : INS T T' q0) (h : dn T' q0 π = []) : (∀ σ, Xo T' (σ ++ π) = Xo T (σ ++ π)) ∧ nN T' π = nN T π ∧ nP T' π = nP T π := by
  obtain ⟨p, S, B, l⟩ := T
  obtain ⟨h1, h2⟩ := I
  subst h1
  exact (same_below h2 h).2
theorem INS.leaf (I : INS T T' q0) (G' : GT T') (c : Ls T π = []) {q : Pc} (h : dn T' q0 π = [q]) : Xo T' π = some (q0.1, [q]) ∧ (∀ s, dn T' q0 (s :: π) = []) ∧ nN T' π = 1 ∧ nP T' π = 1 := by
  obtain ⟨p, S, B, l⟩ := T
  obtain ⟨h1, h2⟩ := I
  subst h1
  exact leaf_ins G' h2 c h
theorem INS.node (I : INS T T' q0) (ne : Ls T π ≠ []) {q : Pc} (h : dn T' q0 π = [q]) : Ls T' π ≠ [] ∧ sw T' π = sw T π ∧ onl T' π = onl T π ++ ons T.1 (sw T π) [q] ∧ ∀ s, dn T' q0 (s :: π) = prt T.1 (sw T π) s q := by
  obtain ⟨p, S, B, l⟩ := T
  obtain ⟨h1, h2⟩ := I
  subst h1
  exact node_ins h2 ne h
theorem INS.wall (I : INS T T' q0) {q : Pc} (h : dn T' q0 π = [q]) : q.1 = q0.1 := by
  rcases dn_one T' (q0 := q0) π with e | ⟨r, e, e2⟩
  · rw [h] at e; cases e
  · rw [h] at e; cases e; exact e2
/-- a piece put into a subtree -/
def InsR (T T' : Tr) (q0 : Pc) (π : List Bool) (m : Pk) (X : List Bool → Option (Nat × List Pc)) (pth : Nat → List Bool) (N M J : Nat) : Prop := ∃ (cst : Nat) (m' : Pk) (nd' : Nat → Nd) (pth' : Nat → List Bool) (N' M' : Nat) (rt' : Int), cst ≤ nN T' π ∧ (∀ g, fX10_insert_b55 (g + cst) m (zI (q0.1 : Int)) (zI ((J + 1 : Nat) : Int)) = fX10_insert_b55 g m' (zI (q0.1 : Int)) (zI (J : Int))) ∧ PH m' N' M' nd' ∧ TIx (Xu X π (Xo T')) pth' N' rt' nd' ∧ m'.2.1 26 = zI rt' ∧ N ≤ N' ∧ (∀ k, k < N → pth' k = pth k) ∧ N' + nN T π = N + nN T' π ∧ M' + nP T π = M + nP T' π ∧ bF m m' ∧ ∀ x, x < 7 * J → m'.1 37 x = m.1 37 x
def InsH (T T' : Tr) (q0 : Pc) (π : List Bool) : Prop := ∀ (m : Pk) (nd : Nat → Nd) (pth : Nat → List Bool) (N M J : Nat) (X : List Bool → Option (Nat × List Pc)) (q : Pc) (c rt0 : Int) (par : Option (Nat × Bool)), dn T' q0 π = [q] → (∀ σ, X (σ ++ π) = Xo T (σ ++ π)) → TIx X pth N rt0 nd → cdx X pth N π c → PH m N M nd → m.2.1 26 = zI rt0 → ReM m T.1 → J ≤ π.length → π.length ≤ 12 → ES m J c par q → parAt par pth N π → N + nN T' π ≤ 144 + nN T π → M + nP T' π ≤ 144 + nP T π → InsR T T' q0 π m X pth N M J
theorem I_leaf (I : INS T T' q0) (G' : GT T') (c0 : Ls T π = []) : InsH T T' q0 π := by
  intro m nd pth N M J X q c rt0 par hd hX hT hc H h26 Q hJ h12 E hp hN hM
  obtain ⟨e0, e1, e2, e3, e4, e5, e6⟩ := E
  obtain ⟨l1, l2, l3, l4⟩ := I.leaf G' c0 hd
  have hX0 : X π = none := by rw [← Xo_leaf c0]; exact hX []
  have hc1 := (hT.code hc).1 hX0
  have kids : ∀ s, X (s :: π) = none := fun s => (hX [s]).trans (Xo_leaf (Ls_below c0 [s]))
  have wq := I.wall hd
  have k3 : zI ((7 * J : Nat) : Int) + 3 = zI ((7 * J + 3 : Nat) : Int) := ix7c J 3
  have k4 : zI ((7 * J : Nat) : Int) + 4 = zI ((7 * J + 4 : Nat) : Int) := ix7c J 4
  have k5 : zI ((7 * J : Nat) : Int) + 5 = zI ((7 * J + 5 : Nat) : Int) := ix7c J 5
  have k6 : zI ((7 * J : Nat) : Int) + 6 = zI ((7 * J + 6 : Nat) : Int) := ix7c J 6
  have k1 : zI ((7 * J : Nat) : Int) + 1 = zI ((7 * J + 1 : Nat) : Int) := ix7c J 1
  have k2 : zI ((7 * J : Nat) : Int) + 2 = zI ((7 * J + 2 : Nat) : Int) := ix7c J 2
  rw [nN_leaf c0, l3] at hN
  rw [nP_leaf c0, l4] at hM
  obtain ⟨m1, a1, a2, a3, a4⟩ := M_hang (u := q0.1) H (by omega) hp.ok e2
  obtain ⟨m2, b1, b2', b3, b4⟩ := M_addPiece a2 (k := N) (by omega) (by omega) q
  rw [wq] at b1
  have step : ∀ g, fX10_insert_b55 (g + 1) m (zI (q0.1 : Int)) (zI ((J + 1 : Nat) : Int)) = fX10_insert_b55 g m2 (zI (q0.1 : Int)) (zI (J : Int)) := by
    intro g
    show fX10_insert_b55_s (fX10_insert_b55 g) m _ _ = _
    unfold fX10_insert_b55_s fX10_insert_b336
    have n0 : ¬ zI ((J + 1 : Nat) : Int) ≤ 0 := by rw [z0, zI_le (rI_n (by omega)) r0]; omega
    have eJ : zI ((J + 1 : Nat) : Int) + (-1) = zI (J : Int) := by rw [zm1, zI_add]; congr 1; omega
    rw [if_neg n0]
    simp only [qn_s, eJ, ix7_0, k1, k2, k3, k4, k5, k6]
    rw [qld_at (by omega) (by decide), qld_at (by omega) (by decide), qld_at (by omega) (by decide), qld_at (by omega) (by decide), qld_at (by omega) (by decide), e0, e3, e4, e5, e6, hc1, if_neg (by decide), qld_at (by omega) (by decide), qld_at (by omega) (by decide), e1, a1, qb2_s, b1, qb1_s]
  have tix : TIx (Xu X π (Xo T')) (ug pth N π) (N + 1) (rootI par N rt0) (addP (hang nd N q0.1 par) N M q) := by
    refine TIx_new hT hX0 kids hp ?_ (fun ρ hρ => ?_)
    · have := Xu_in (X := X) (π := π) (Y := Xo T') []
      rw [List.nil_append] at this
      rw [this, l1]
    · by_cases b : ∃ σ, ρ = σ ++ π
      · obtain ⟨σ, e⟩ := b
        subst e
        rw [Xu_in]
        rcases snoc σ with e | ⟨τ, x, e⟩
        · subst e; exact absurd rfl hρ
        · subst e
          rw [hX, List.append_assoc]
          exact (I.same (l2 x)).1 τ
      · exact Xu_out b
  refine ⟨1, m2, _, ug pth N π, N + 1, M + 1, rootI par N rt0, by rw [l3]; exact Nat.le_refl 1, step, b2', tix, ?_, by omega, fun k hk => ug_n _ _ (by omega), by rw [l3, nN_leaf c0], by rw [l4, nP_leaf c0], a3.b.tr b3.b, fun x _ => ?_⟩
  · rw [b4, a4, h26, rootZ_I]
  · rw [b3.1 37 (by decide) (by decide), a3.1 37 (by decide) (by decide)]
end S
