/-! THE REFERENCE'S TREE: the fixed part, numbered as it is told -/
section S
variable {T : Tr} {π : List Bool} {m : Pk} {nd : Nat → Nd} {par : Option (Nat × Bool)} {N u k : Nat}
def Rr (T : Tr) : List Bool → Nat → Option (Int × Int × Int × Int)
  | [] => rt T.1 false
  | s :: π => rowp T.1 (Rr T π) (sw T π) s
def FxT (T : Tr) : Prop := T.2.2.2 = rootL T.1 false
theorem Rr_L (h : FxT T) : ∀ π : List Bool, rowL (Rr T π) 12 = Ls T π
  | [] => h.symm
  | s :: π => by
    show rowL (rowp T.1 (Rr T π) (sw T π) s) 12 = _
    rw [rowp_L, Rr_L h π, Ls_s]
theorem Fx_all (h : FxT T) : ∀ (π : List Bool) (q : Pc), q ∈ Ls T π → pM T.1 q.1 = false
  | [], q, hq => by
    have hq : q ∈ T.2.2.2 := hq
    rw [h] at hq
    exact (rootL_mem hq).2
  | s :: π, q, hq => by
    rw [Ls_s] at hq
    obtain ⟨a, ha, hb⟩ := prts_mem hq
    rw [(prt_mem hb).1]
    exact Fx_all h π a ha
theorem Rr_v (G : GT T) (h : FxT T) (π : List Bool) : ∀ w d, w < 12 → Rr T π w = some d → vpc T.1 (w, d) := fun w d hw hd => Ls_vp G π _ (by rw [← Rr_L h π]; exact rowL_in hw hd 12 (by omega) (by omega))
def cd (T : Tr) (π : List Bool) : Int := if (Ls T π).isEmpty then -1 else (num T π : Int)
theorem cd_leaf (h : Ls T π = []) : cd T π = -1 := by unfold cd; rw [h]; rfl
theorem cd_node (h : Ls T π ≠ []) : cd T π = (num T π : Int) := by unfold cd; rw [if_neg (by rw [List.isEmpty_iff]; exact h)]
/-- a node as it is in the end -/
def Rn (T : Tr) (π : List Bool) : Nd := (sw T π, cd T (true :: π), cd T (false :: π), idl (pnum T π) (onl T π))
def hook (nd : Nat → Nd) (par : Option (Nat × Bool)) (x : Int) : Nat → Nd := match par with
  | none => nd
  | some (k, s) => ug nd k (lk (nd k) s x)
theorem hang_lt (hp : parOk par N) (hk : k < N) : hang nd N u par k = hook nd par (N : Int) k := by
  cases par with
  | none => exact ug_n _ _ (by omega)
  | some ks =>
    obtain ⟨k0, s⟩ := ks
    show ug (newN nd N u) k0 _ k = ug nd k0 _ k
    by_cases c : k = k0
    · subst c; rw [ug_s, ug_s]
    · rw [ug_n _ _ c, ug_n _ _ c]
      exact ug_n _ _ (by omega)
theorem hang_at (hp : parOk par N) : hang nd N u par N = (u, -1, -1, []) := by
  cases par with
  | none => exact ug_s _ _ _
  | some ks =>
    obtain ⟨k0, s⟩ := ks
    have hp : k0 < N := hp
    show ug (newN nd N u) k0 _ N = _
    rw [ug_n _ _ (by omega)]
    exact ug_s _ _ _
theorem F_sub (G : GT T) (h : FxT T) (π : List Bool) : ∀ (m : Pk) (nd : Nat → Nd) (J : Nat) (par : Option (Nat × Bool)), J ≤ π.length → π.length ≤ 12 → num T π + nN T π ≤ 144 → pnum T π + nP T π ≤ 144 → ReM m T.1 → PH m (num T π) (pnum T π) nd → m.2.1 35 = zI ((J + 1 : Nat) : Int) → WR (m.1 32) (60 * J) (Rr T π) → m.1 33 J = parZ par → sdOk par (m.1 34 J) → parOk par (num T π) → ∃ m' nd', (∀ g, fX10_makeFixed_b84 (g + (nN T π + nL T π)) m (zI T.2.1) (zI T.2.2.1) = fX10_makeFixed_b84 g m' (zI T.2.1) (zI T.2.2.1)) ∧ PH m' (num T π + nN T π) (pnum T π + nP T π) nd' ∧ m'.2.1 35 = zI (J : Int) ∧ m'.2.1 26 = (if (Ls T π).isEmpty then m.2.1 26 else rootZ par (num T π) (m.2.1 26)) ∧ bF m m' ∧ (∀ k, k < num T π → nd' k = if (Ls T π).isEmpty then nd k else hook nd par (num T π : Int) k) ∧ (∀ σ, Ls T (σ ++ π) ≠ [] → nd' (num T (σ ++ π)) = Rn T (σ ++ π)) ∧ (∀ x, x < 60 * J → m'.1 32 x = m.1 32 x) ∧ ∀ x, x < J → m'.1 33 x = m.1 33 x ∧ m'.1 34 x = m.1 34 x := by
  refine tr_ind (P := fun π => ∀ (m : Pk) (nd : Nat → Nd) (J : Nat) (par : Option (Nat × Bool)), J ≤ π.length → π.length ≤ 12 → num T π + nN T π ≤ 144 → pnum T π + nP T π ≤ 144 → ReM m T.1 → PH m (num T π) (pnum T π) nd → m.2.1 35 = zI ((J + 1 : Nat) : Int) → WR (m.1 32) (60 * J) (Rr T π) → m.1 33 J = parZ par → sdOk par (m.1 34 J) → parOk par (num T π) → ∃ m' nd', (∀ g, fX10_makeFixed_b84 (g + (nN T π + nL T π)) m (zI T.2.1) (zI T.2.2.1) = fX10_makeFixed_b84 g m' (zI T.2.1) (zI T.2.2.1)) ∧ PH m' (num T π + nN T π) (pnum T π + nP T π) nd' ∧ m'.2.1 35 = zI (J : Int) ∧ m'.2.1 26 = (if (Ls T π).isEmpty then m.2.1 26 else rootZ par (num T π) (m.2.1 26)) ∧ bF m m' ∧ (∀ k, k < num T π → nd' k = if (Ls T π).isEmpty then nd k else hook nd par (num T π : Int) k) ∧ (∀ σ, Ls T (σ ++ π) ≠ [] → nd' (num T (σ ++ π)) = Rn T (σ ++ π)) ∧ (∀ x, x < 60 * J → m'.1 32 x = m.1 32 x) ∧ ∀ x, x < J → m'.1 33 x = m.1 33 x ∧ m'.1 34 x = m.1 34 x) G ?_ ?_ π
  · intro π e m nd J par hJ h12 hN hP Q H h35 W h33 h34 hp
    have n0 : ¬ zI ((J + 1 : Nat) : Int) ≤ 0 := by rw [z0, zI_le (rI_n (by omega)) r0]; omega
    have eJ : zI ((J + 1 : Nat) : Int) - 1 = zI (J : Int) := by rw [z1, zI_sub]; congr 1; omega
    refine ⟨pkI m 35 (zI (J : Int)), nd, fun g => ?_, ?_, ?_, ?_, bF_I m (by decide) _, fun k hk => by rw [e]; rfl, fun σ hσ => ?_, fun _ _ => rfl, fun _ _ => ⟨rfl, rfl⟩⟩
    · rw [nN_leaf e, nL_leaf e]
      show fX10_makeFixed_b84_s (fX10_makeFixed_b84 g) m _ _ = _
      unfold fX10_makeFixed_b84_s
      rw [h35, if_neg n0, eJ, qn_s, M_makeNode0 (m := pkI m 35 (zI (J : Int))) (Q.bF (bF_I m (by decide) _)) G.1 G.2.1 G.2.2.1 (by omega) (by rw [pI, if_pos rfl]) W (Rr_v G h π) (by rw [Rr_L h, e]), qb1_s]
    · rw [nN_leaf e, nP_leaf e]
      exact H.of (fun _ _ => rfl) rfl rfl
    · rw [pI, if_pos rfl]
    · rw [e]; rfl
    · exfalso
      apply hσ
      clear hσ
      induction σ with
      | nil => exact e
      | cons x σ ih => rw [List.cons_append, Ls_s, ih]; rfl
  · intro π e ih1 ih2 m nd J par hJ h12 hN hP Q H h35 W h33 h34 hp
    have dp := Ls_depth G e
    have eN := nN_node G e
    have eL := nL_node G e
    have eP := nP_node G e
    have nt : num T (true :: π) = num T π + 1 := rfl
    have nf : num T (false :: π) = num T π + 1 + nN T (true :: π) := rfl
    have pt : pnum T (true :: π) = pnum T π + (onl T π).length := rfl
    have pf : pnum T (false :: π) = pnum T π + (onl T π).length + nP T (true :: π) := rfl
    have n0 : ¬ zI ((J + 1 : Nat) : Int) ≤ 0 := by rw [z0, zI_le (rI_n (by omega)) r0]; omega
    have eJ : zI ((J + 1 : Nat) : Int) - 1 = zI (J : Int) := by rw [z1, zI_sub]; congr 1; omega
    have eI : (Ls T π).isEmpty = false := by rw [← Bool.not_eq_true, List.isEmpty_iff]; exact e
    have b1 := bF_I m (r := 35) (by decide) (zI (J : Int))
    obtain ⟨m2, a1, a2, a3, a4, a5, a6, a7, a8, a9⟩ := M_makeNode (m := pkI m 35 (zI (J : Int))) (p := T.1) (S := T.2.1) (B := T.2.2.1) (N := num T π) (M := pnum T π) (J := J) (nd := nd) (r := Rr T π) (par := par) (Q.bF b1) G.1 G.2.1 G.2.2.1 (by omega) (by rw [pI, if_pos rfl]) W (Rr_v G h π) (by rw [Rr_L h]; exact Fx_all h π) (H.of (fun _ _ => rfl) rfl rfl) (by omega) (by rw [Rr_L h]; show pnum T π + (onl T π).length ≤ 150; omega) hp h33 h34 (by rw [Rr_L h]; exact e)
    rw [Rr_L h] at a2 a6
    have esw : spl T.1 T.2.1 T.2.2.1 (Ls T π) = sw T π := rfl
    have eon : ons T.1 (spl T.1 T.2.1 T.2.2.1 (Ls T π)) (Ls T π) = onl T π := rfl
    rw [eon, esw] at a2
    have Q2 : ReM m2 T.1 := Q.bF (b1.tr a5)
    obtain ⟨m3, nd3, c1, c2, c3, c4, c5, c6, c7, c8, c9⟩ := ih1 m2 (addPs (num T π) (hang nd (num T π) (sw T π) par) (pnum T π) (onl T π)) (J + 1) (some (num T π, true)) (by rw [List.length_cons]; omega) (by rw [List.length_cons]; omega) (by rw [nt]; omega) (by rw [pt]; omega) Q2 a2 a3 (a6 true) (a7 true).1 (a7 true).2 (show num T π < num T π + 1 by omega)
    obtain ⟨m4, nd4, d1, d2, d3, d4, d5, d6, d7, d8, d9⟩ := ih2 m3 nd3 J (some (num T π, false)) (by rw [List.length_cons]; omega) (by rw [List.length_cons]; omega) (by rw [nf]; omega) (by rw [pf]; omega) (Q2.bF c5) c2 c3 (by
      intro w hw
      obtain ⟨x, y⟩ := a6 false w hw
      have g : ∀ t, t < 5 → m3.1 32 (60 * J + 5 * w + t) = m2.1 32 (60 * J + 5 * w + t) := fun t ht => c8 _ (by omega)
      have g0 := g 0 (by decide)
      rw [Nat.add_zero] at g0
      rw [g0, g 1 (by decide), g 2 (by decide), g 3 (by decide), g 4 (by decide)]
      exact ⟨x, y⟩) ((c9 J (by omega)).1.trans (a7 false).1) ((c9 J (by omega)).2.trans (a7 false).2) (show num T π < num T π + 1 + nN T (true :: π) by omega)
    have v2 : ∀ x, addPs (num T π) (hang nd (num T π) (sw T π) par) (pnum T π) (onl T π) x = if x = num T π then (sw T π, -1, -1, idl (pnum T π) (onl T π)) else hang nd (num T π) (sw T π) par x := by
      intro x
      rw [addPs_val, hang_at hp]
      rfl
    have hk : ∀ (nd : Nat → Nd) (s : Bool) (x : Int) (k : Nat), ¬ k = num T π → hook nd (some (num T π, s)) x k = nd k := fun nd s x k hk => ug_n _ _ hk
    refine ⟨m4, nd4, fun g => ?_, ?_, d3, ?_, ((b1.tr a5).tr c5).tr d5, fun k hkk => ?_, fun σ hσ => ?_, fun x hx => ?_, fun x hx => ?_⟩
    · rw [show g + (nN T π + nL T π) = (g + (nN T (false :: π) + nL T (false :: π)) + (nN T (true :: π) + nL T (true :: π))) + 1 by omega]
      show fX10_makeFixed_b84_s (fX10_makeFixed_b84 _) m _ _ = _
      unfold fX10_makeFixed_b84_s
      rw [h35, if_neg n0, eJ, qn_s, a1, qb1_s, c1, d1]
    · rw [show num T π + nN T π = num T (false :: π) + nN T (false :: π) by omega, show pnum T π + nP T π = pnum T (false :: π) + nP T (false :: π) by omega]
      exact d2
    · rw [eI, if_neg (by decide), d4, c4, a4]
      have e26 : (pkI m 35 (zI (J : Int))).2.1 26 = m.2.1 26 := rfl
      rw [e26]
      show (if _ then (if _ then _ else _) else (if _ then _ else _)) = _
      split <;> split <;> rfl
    · rw [eI, if_neg (by decide), d6 k (by omega)]
      have e3 : nd3 k = hook nd par (num T π : Int) k := by
        rw [c6 k (by omega)]
        have e2 : addPs (num T π) (hang nd (num T π) (sw T π) par) (pnum T π) (onl T π) k = hook nd par (num T π : Int) k := by
          rw [v2, if_neg (by omega), hang_lt hp hkk]
        split
        · exact e2
        · rw [hk _ _ _ _ (by omega)]; exact e2
      split
      · exact e3
      · rw [hk _ _ _ _ (by omega)]; exact e3
    · rcases snoc σ with e0 | ⟨τ, x, e0⟩
      · subst e0
        show nd4 (num T π) = Rn T π
        rw [d6 _ (by omega)]
        have e3 : nd3 (num T π) = (sw T π, cd T (true :: π), -1, idl (pnum T π) (onl T π)) := by
          rw [c6 _ (by omega)]
          cases c : (Ls T (true :: π)).isEmpty with
          | true => rw [if_pos rfl, v2, if_pos rfl, cd_leaf (List.isEmpty_iff.mp c)]
          | false =>
            have ce : Ls T (true :: π) ≠ [] := by rw [← Bool.not_eq_true, List.isEmpty_iff] at c; exact c
            rw [if_neg (by decide), cd_node ce]
            show ug _ (num T π) (lk _ true _) (num T π) = _
            rw [ug_s, v2, if_pos rfl]; rfl
        unfold Rn
        cases c : (Ls T (false :: π)).isEmpty with
        | true => rw [if_pos rfl, e3, cd_leaf (List.isEmpty_iff.mp c)]
        | false =>
          have ce : Ls T (false :: π) ≠ [] := by rw [← Bool.not_eq_true, List.isEmpty_iff] at c; exact c
          rw [if_neg (by decide), cd_node ce]
          show ug _ (num T π) (lk _ false _) (num T π) = _
          rw [ug_s, e3]; rfl
      · subst e0
        rw [List.append_assoc] at hσ ⊢
        cases x with
        | true =>
          have hσ : Ls T (τ ++ true :: π) ≠ [] := hσ
          show nd4 (num T (τ ++ true :: π)) = Rn T (τ ++ true :: π)
          obtain ⟨q1, q2, -, -⟩ := num_bd G (π := true :: π) τ hσ
          have q3 := nN_pos G hσ
          rw [d6 _ (by omega)]
          split
          · exact c7 τ hσ
          · rw [hk _ _ _ _ (by omega)]; exact c7 τ hσ
        | false => exact d7 τ hσ
    · rw [d8 x hx, c8 x (by omega), a8 x hx]; rfl
    · rw [(d9 x hx).1, (d9 x hx).2, (c9 x (by omega)).1, (c9 x (by omega)).2, (a9 x hx).1, (a9 x hx).2]
      exact ⟨rfl, rfl⟩
end S
