/-! THE REFERENCE'S TREE: numbering, subtree by subtree -/
section S
variable {T : Tr} {pth : Nat → List Bool} {nd : Nat → Nd} {N M k J P0 : Nat} {m m' : Pk} {π : List Bool} {rt : Int}
theorem M_chain {y1 y2 y6 : Int32} (hk : k < N) (hP : P0 + (nd k).2.2.2.length ≤ 160) : ∀ (n j g : Nat) (m : Pk), j + n = (nd k).2.2.2.length → n < g → PH m N M nd → ∃ m', (∀ rec : Pk → Int32 → Int32 → Int32 → Option Pk, ∃ rec', fX10_number__b139 rec g m y1 y2 (zI ((P0 + j : Nat) : Int)) (zI (k : Int)) y6 (nxp (nd k).2.2.2 j) = fX10_number__b139_s rec rec' m' y1 y2 (zI ((P0 + (nd k).2.2.2.length : Nat) : Int)) (zI (k : Int)) y6 (zI (-1))) ∧ m'.2 = m.2 ∧ (∀ r, ¬ r = 41 → ¬ r = 42 → m'.1 r = m.1 r) ∧ (∀ (i a : Nat) (q : Pc), j ≤ i → (nd k).2.2.2[i]? = some (a, q) → m'.1 41 (P0 + i) = zI (a : Int) ∧ m'.1 42 a = zI ((P0 + i : Nat) : Int)) ∧ (∀ x, ¬ (P0 + j ≤ x ∧ x < P0 + (nd k).2.2.2.length) → m'.1 41 x = m.1 41 x) ∧ ∀ x, (∀ (i a : Nat) (q : Pc), j ≤ i → (nd k).2.2.2[i]? = some (a, q) → ¬ x = a) → m'.1 42 x = m.1 42 x := by
  intro n
  induction n with
  | zero =>
    intro j g m hj hg H
    obtain ⟨g, rfl⟩ : ∃ k, g = k + 1 := ⟨g - 1, by omega⟩
    rw [nxp_end (by omega), show j = (nd k).2.2.2.length by omega]
    exact ⟨m, fun rec => ⟨_, rfl⟩, rfl, fun _ _ _ => rfl, fun i a q h1 h2 => by have := get_lt h2; omega, fun _ _ => rfl, fun _ _ => rfl⟩
  | succ n ih =>
    intro j g m hj hg H
    obtain ⟨g, rfl⟩ : ∃ k, g = k + 1 := ⟨g - 1, by omega⟩
    obtain ⟨⟨a, q⟩, ha⟩ : ∃ y, (nd k).2.2.2[j]? = some y := ⟨_, List.getElem?_eq_getElem (by omega)⟩
    obtain ⟨-, -, -, -, -, c3⟩ := H.2.2.2.2 k hk
    obtain ⟨aM, -, -, -, -, -, -, a30, ainj⟩ := c3 j a q ha
    have hM := H.2.2.2.1
    have ab : a < 2147483648 := by omega
    have pb : P0 + j < 2147483648 := by omega
    have ea : nxp (nd k).2.2.2 j = zI (a : Int) := by unfold nxp; rw [ha]
    have n0 : ¬ zI (a : Int) < 0 := ix_nn ab
    have key : ∀ rec : Pk → Int32 → Int32 → Int32 → Option Pk, fX10_number__b139 rec (g + 1) m y1 y2 (zI ((P0 + j : Nat) : Int)) (zI (k : Int)) y6 (nxp (nd k).2.2.2 j) = fX10_number__b139 rec g (pkA (pkA m 41 (zI ((P0 + j : Nat) : Int)) (zI (a : Int))) 42 (zI (a : Int)) (zI ((P0 + j : Nat) : Int))) y1 y2 (zI ((P0 + (j + 1) : Nat) : Int)) (zI (k : Int)) y6 (nxp (nd k).2.2.2 (j + 1)) := by
      intro rec
      show fX10_number__b139_s rec (fX10_number__b139 rec g) m _ _ _ _ _ _ = _
      unfold fX10_number__b139_s
      rw [ea, if_neg n0, qst_at (by omega) (by decide), qn_s, qst_at (by omega) (by decide), qn_s, qn_s, ix_s, qld_at (by omega) (by decide), pAt ab, if_neg (by omega), pAt pb, if_neg (by omega), a30]
      rfl
    have F1 : nbF m (pkA (pkA m 41 (zI ((P0 + j : Nat) : Int)) (zI (a : Int))) 42 (zI (a : Int)) (zI ((P0 + j : Nat) : Int))) := (nbF_A m (by decide) pb _).tr (nbF_A _ (by decide) ab _)
    obtain ⟨m', b1, b2', b3, b4, b5, b6⟩ := ih (j + 1) g _ (by omega) (by omega) (H.nb F1)
    refine ⟨m', fun rec => (b1 rec).elim (fun rec' e => ⟨rec', (key rec).trans e⟩), b2'.trans rfl, fun r h1 h2 => by rw [b3 r h1 h2, pA1 ab, if_neg h2, pA1 pb, if_neg h1], fun i a' q' h1 h2 => ?_, fun x hx => ?_, fun x hx => ?_⟩
    · by_cases c : i = j
      · subst c
        rw [ha] at h2
        cases h2
        refine ⟨?_, ?_⟩
        · rw [b5 _ (by omega), pAt ab, if_neg (by omega), pAt pb, if_pos ⟨rfl, rfl⟩]
        · rw [b6 a (fun i' a' q'' g1 g2 e => by
            subst e
            have := ainj i' q'' g2
            omega), pAt ab, if_pos ⟨rfl, rfl⟩]
      · exact b4 i a' q' (by omega) h2
    · rw [b5 x (by omega), pAt ab, if_neg (by omega), pAt pb, if_neg (by omega)]
    · rw [b6 x (fun i a' q' g1 g2 => hx i a' q' (by omega) g2), pAt ab, if_neg (fun h => hx j a q (Nat.le_refl _) ha h.2), pAt pb, if_neg (by omega)]
theorem M_numpush {d : Nat} (hJ : J < 100) (hk : k < 160) : ∃ m', (∀ (rec : Pk → Int32 → Int32 → Int32 → Option Pk) (rec' : Pk → Int32 → Int32 → Int32 → Int32 → Int32 → Int32 → Option Pk) (y1 y3 : Int32), fX10_number__b139_s rec rec' m y1 (zI (J : Int)) y3 (zI (k : Int)) (zI (d : Int)) (zI (-1)) = rec m' y1 (zI ((J + 2 : Nat) : Int)) y3) ∧ m'.2 = m.2 ∧ (∀ r, ¬ r = 43 → m'.1 r = m.1 r) ∧ (∀ x, x < 3 * J → m'.1 43 x = m.1 43 x) ∧ m'.1 43 (3 * J) = m.1 22 k ∧ m'.1 43 (3 * J + 1) = zI ((2 * k + 1 : Nat) : Int) ∧ m'.1 43 (3 * J + 2) = zI ((d + 1 : Nat) : Int) ∧ m'.1 43 (3 * J + 3) = m.1 21 k ∧ m'.1 43 (3 * J + 4) = zI ((2 * k : Nat) : Int) ∧ m'.1 43 (3 * J + 5) = zI ((d + 1 : Nat) : Int) := by
  have k0 : (3 : Int32) * zI (J : Int) = zI ((3 * J : Nat) : Int) := by rw [show (3 : Int32) = zI 3 from rfl, zI_mul]; congr 1
  have k1 : zI ((3 * J : Nat) : Int) + 1 = zI ((3 * J + 1 : Nat) : Int) := ix_s _
  have k2 : zI ((3 * J : Nat) : Int) + 2 = zI ((3 * J + 2 : Nat) : Int) := ix_c1 _ 2
  have k3 : zI ((3 * J : Nat) : Int) + 3 = zI ((3 * J + 3 : Nat) : Int) := ix_c1 _ 3
  have k4 : zI ((3 * J : Nat) : Int) + 4 = zI ((3 * J + 4 : Nat) : Int) := ix_c1 _ 4
  have k5 : zI ((3 * J : Nat) : Int) + 5 = zI ((3 * J + 5 : Nat) : Int) := ix_c1 _ 5
  have t0 : (2 : Int32) * zI (k : Int) = zI ((2 * k : Nat) : Int) := by rw [z2, zI_mul]; congr 1
  have t1 : zI ((2 * k : Nat) : Int) + 1 = zI ((2 * k + 1 : Nat) : Int) := ix_s _
  have t2 : zI (d : Int) + 1 = zI ((d + 1 : Nat) : Int) := ix_s _
  have t3 : zI (J : Int) + 2 = zI ((J + 2 : Nat) : Int) := ix_c1 _ 2
  have b0 : 3 * J < 2147483648 := by omega
  have b1 : 3 * J + 1 < 2147483648 := by omega
  have b2' : 3 * J + 2 < 2147483648 := by omega
  have b3 : 3 * J + 3 < 2147483648 := by omega
  have b4 : 3 * J + 4 < 2147483648 := by omega
  have b5 : 3 * J + 5 < 2147483648 := by omega
  refine ⟨pkA (pkA (pkA (pkA (pkA (pkA m 43 (zI ((3 * J : Nat) : Int)) (m.1 22 k)) 43 (zI ((3 * J + 1 : Nat) : Int)) (zI ((2 * k + 1 : Nat) : Int))) 43 (zI ((3 * J + 2 : Nat) : Int)) (zI ((d + 1 : Nat) : Int))) 43 (zI ((3 * J + 3 : Nat) : Int)) (m.1 21 k)) 43 (zI ((3 * J + 4 : Nat) : Int)) (zI ((2 * k : Nat) : Int))) 43 (zI ((3 * J + 5 : Nat) : Int)) (zI ((d + 1 : Nat) : Int)), fun rec rec' y1 y3 => ?_, rfl, fun r hr => ?_, fun x hx => ?_, ?_, ?_, ?_, ?_, ?_, ?_⟩
  · unfold fX10_number__b139_s fX10_number__b268
    rw [if_pos (by decide)]
    simp only [qn_s, k0, k1, k2, k3, k4, k5, t0, t1, t2, t3]
    rw [qld_at hk (by decide), qst_at (by omega) (by decide), qst_at (by omega) (by decide), qst_at (by omega) (by decide), qld_at hk (by decide), qst_at (by omega) (by decide), qst_at (by omega) (by decide), qst_at (by omega) (by decide)]
    rw [pAt b2', if_neg (by omega), pAt b1, if_neg (by omega), pAt b0, if_neg (by omega)]
  · rw [pA1 b5, if_neg hr, pA1 b4, if_neg hr, pA1 b3, if_neg hr, pA1 b2', if_neg hr, pA1 b1, if_neg hr, pA1 b0, if_neg hr]
  · rw [pAt b5, if_neg (by omega), pAt b4, if_neg (by omega), pAt b3, if_neg (by omega), pAt b2', if_neg (by omega), pAt b1, if_neg (by omega), pAt b0, if_neg (by omega)]
  · rw [pAt b5, if_neg (by omega), pAt b4, if_neg (by omega), pAt b3, if_neg (by omega), pAt b2', if_neg (by omega), pAt b1, if_neg (by omega), pAt b0, if_pos ⟨rfl, rfl⟩]
  · rw [pAt b5, if_neg (by omega), pAt b4, if_neg (by omega), pAt b3, if_neg (by omega), pAt b2', if_neg (by omega), pAt b1, if_pos ⟨rfl, rfl⟩]
  · rw [pAt b5, if_neg (by omega), pAt b4, if_neg (by omega), pAt b3, if_neg (by omega), pAt b2', if_pos ⟨rfl, rfl⟩]
  · rw [pAt b5, if_neg (by omega), pAt b4, if_neg (by omega), pAt b3, if_pos ⟨rfl, rfl⟩]
  · rw [pAt b5, if_neg (by omega), pAt b4, if_pos ⟨rfl, rfl⟩]
  · rw [pAt b5, if_pos ⟨rfl, rfl⟩]
def NumH (T : Tr) (pth : Nat → List Bool) (nd : Nat → Nd) (N M : Nat) (π : List Bool) : Prop := ∀ (m : Pk) (J : Nat) (par : Option (Nat × Bool)) (c s : Int) (d : Nat), parAt par pth N π → cdx (Xo T) pth N π c → PH m N M nd → J ≤ π.length → π.length ≤ 12 → d ≤ 12 → m.1 43 (3 * J) = zI c → m.1 43 (3 * J + 1) = plZ par → m.1 43 (3 * J + 2) = zI (π.length : Int) → m.2.1 46 = zI (lnum T π : Int) → m.2.1 47 = zI s → m.2.1 48 = zI (d : Int) → num T π + nN T π ≤ 144 → pnum T π + nP T π ≤ 144 → ∃ (cst : Nat) (m' : Pk), cst ≤ nN T π + nL T π ∧ (∀ g, fX10_number__b45 (g + cst) m (zI (num T π : Int)) (zI ((J + 1 : Nat) : Int)) (zI (pnum T π : Int)) = fX10_number__b45 g m' (zI ((num T π + nN T π : Nat) : Int)) (zI (J : Int)) (zI ((pnum T π + nP T π : Nat) : Int))) ∧ m'.2.1 46 = zI ((lnum T π + nL T π : Nat) : Int) ∧ m'.2.1 47 = zI (s + (lD T π : Int)) ∧ m'.2.1 48 = zI ((max d (dD T π) : Nat) : Int) ∧ nbF m m' ∧ nFr T pth nd N m m' (num T π) (pnum T π) ∧ (∀ x, x < 3 * J → m'.1 43 x = m.1 43 x) ∧ (∀ k, k < N → (∃ σ, pth k = σ ++ π) → NK T pth nd m' k) ∧ (Ls T π = [] → LF T m' par π)
theorem Num_sub (G : GT T) (hT : TIx (Xo T) pth N rt nd) (hN160 : N ≤ 160) (π : List Bool) : NumH T pth nd N M π := by
  obtain ⟨tinj, tnd, tex, trt⟩ := id hT
  have noB : ∀ ρ, Ls T ρ = [] → ∀ k, k < N → ¬ ∃ σ, pth k = σ ++ ρ := by
    rintro ρ hρ k hk ⟨σ, e⟩
    have := (tnd k hk).1
    rw [e, Xo_leaf (Ls_below hρ σ)] at this
    cases this
  refine tr_ind (P := fun π => NumH T pth nd N M π) G ?_ ?_ π
  · intro π h m J par c s d hp hc H hJ h12 hd e0 e1 e2 h46 h47 h48 hN hP
    have c1 := (hT.code hc).1 (Xo_leaf h)
    obtain ⟨m', a1, a2, a3, a4, a5, a6, a7, a8, a9⟩ := M_leafstep (T := T) (m := m) (e := π.length) hp hN160 hd h12 h46 h47 h48 tinj rfl
    refine ⟨1, m', by rw [nL_leaf h]; omega, fun g => ?_, by rw [nL_leaf h]; exact a2, by rw [lD_leaf h]; exact a3, by rw [dD_leaf h]; exact a4, a5, ⟨fun i _ => by rw [a6 38 (by decide)], fun i _ => by rw [a6 41 (by decide)], fun k _ => Or.inl (by rw [a6 39 (by decide)]), fun k _ => Or.inl (by rw [a6 40 (by decide)]), fun k _ j c q _ => Or.inl (by rw [a6 42 (by decide)]), fun k hk s _ => a9 k hk s⟩, fun x _ => by rw [a6 43 (by decide)], fun k hk hb => absurd hb (noB π h k hk), fun _ => a7⟩
    rw [nN_leaf h, nP_leaf h]
    show fX10_number__b45_s (fX10_number__b45 g) m _ _ _ = _
    unfold fX10_number__b45_s fX10_number__b268
    have n0 : ¬ zI ((J + 1 : Nat) : Int) ≤ 0 := by rw [z0, zI_le (rI_n (by omega)) r0]; omega
    have eJ : zI ((J + 1 : Nat) : Int) + (-1) = zI (J : Int) := by rw [zm1, zI_add]; congr 1; omega
    have k0 : (3 : Int32) * zI (J : Int) = zI ((3 * J : Nat) : Int) := by rw [show (3 : Int32) = zI 3 from rfl, zI_mul]; congr 1
    have k1 : zI ((3 * J : Nat) : Int) + 1 = zI ((3 * J + 1 : Nat) : Int) := ix_s _
    have k2 : zI ((3 * J : Nat) : Int) + 2 = zI ((3 * J + 2 : Nat) : Int) := ix_c1 _ 2
    rw [if_neg n0]
    simp only [qn_s, eJ, k0, k1, k2]
    rw [qld_at (by omega) (by decide), qld_at (by omega) (by decide), qld_at (by omega) (by decide), e0, e1, e2, c1, if_neg (by decide), a1, qb1_s]
    rfl
  · intro π h ih1 ih2 m J par c s d hp hc H hJ h12 hd e0 e1 e2 h46 h47 h48 hN hP
    have dp := Ls_depth G h
    have eN := nN_node G h
    have eL := nL_node G h
    have eP := nP_node G h
    have nt : num T (true :: π) = num T π + 1 := rfl
    have nf : num T (false :: π) = num T π + 1 + nN T (true :: π) := rfl
    have lt : lnum T (true :: π) = lnum T π := rfl
    have lf : lnum T (false :: π) = lnum T π + nL T (true :: π) := rfl
    have pt : pnum T (true :: π) = pnum T π + (onl T π).length := rfl
    have pf : pnum T (false :: π) = pnum T π + (onl T π).length + nP T (true :: π) := rfl
    obtain ⟨k, hk, pk, ck⟩ := (hT.code hc).2 (by rw [Xo_node h]; intro e; cases e)
    obtain ⟨x1, x2, x3⟩ := tnd k hk
    rw [pk, Xo_node h] at x1
    rw [pk] at x2 x3
    have o1 : (nd k).2.2.2.map (fun a => a.2) = onl T π := by injection x1 with x1; injection x1 with a b; exact b.symm
    have ol : (nd k).2.2.2.length = (onl T π).length := by rw [← o1, List.length_map]
    obtain ⟨y1, y2, y3, y4⟩ := H.2.2.2.2 k hk
    have kb : k < 2147483648 := by omega
    have nb : num T π < 2147483648 := by omega
    have n0 : ¬ zI ((J + 1 : Nat) : Int) ≤ 0 := by rw [z0, zI_le (rI_n (by omega)) r0]; omega
    have eJ : zI ((J + 1 : Nat) : Int) + (-1) = zI (J : Int) := by rw [zm1, zI_add]; congr 1; omega
    have k0 : (3 : Int32) * zI (J : Int) = zI ((3 * J : Nat) : Int) := by rw [show (3 : Int32) = zI 3 from rfl, zI_mul]; congr 1
    have k1 : zI ((3 * J : Nat) : Int) + 1 = zI ((3 * J + 1 : Nat) : Int) := ix_s _
    have k2 : zI ((3 * J : Nat) : Int) + 2 = zI ((3 * J + 2 : Nat) : Int) := ix_c1 _ 2
    have p0 : 0 ≤ zI (k : Int) := by rw [z0, zI_le r0 (rI_n (by omega))]; omega
    -- the node's own numbers
    have F1 : nbF m (pkA (pkA (pkA m 38 (zI (num T π : Int)) (zI (k : Int))) 39 (zI (k : Int)) (zI (num T π : Int))) 40 (zI (k : Int)) (zI (π.length : Int))) := ((nbF_A m (by decide) nb _).tr (nbF_A _ (by decide) kb _)).tr (nbF_A _ (by decide) kb _)
    have H1 := H.nb F1
    obtain ⟨m2, c1, c2, c3, c4, c5, c6⟩ := M_chain (y1 := zI ((num T π + 1 : Nat) : Int)) (y2 := zI (J : Int)) (y6 := zI (π.length : Int)) (P0 := pnum T π) hk (by omega) (nd k).2.2.2.length 0 FU (pkA (pkA (pkA m 38 (zI (num T π : Int)) (zI (k : Int))) 39 (zI (k : Int)) (zI (num T π : Int))) 40 (zI (k : Int)) (zI (π.length : Int))) (by omega) (by have := onl_le (T := T) (π := π); have := Ls_le G π; show _ < 4096; omega) H1
    obtain ⟨m3, d1, d2, d3, d4, d5, d6, d7, d8, d9, d10⟩ := M_numpush (m := m2) (J := J) (k := k) (d := π.length) (by omega) (by omega)
    have F2 : nbF m m2 := F1.tr ⟨fun r hr => c3 r (by omega) (by omega), fun _ _ => by rw [c2], by rw [c2]⟩
    have F3 : nbF m m3 := F2.tr ⟨fun r hr => d3 r (by omega), fun _ _ => by rw [d2], by rw [d2]⟩
    have H3 := H.nb F3
    have e3 : m3.2 = m.2 := by rw [d2, c2, pA2, pA2, pA2]
    -- what m3 holds in the rows of numbers
    have r38 : ∀ x, m3.1 38 x = if x = num T π then zI (k : Int) else m.1 38 x := fun x => by
      rw [d3 38 (by decide), c3 38 (by decide) (by decide), pAt kb, if_neg (by omega), pAt kb, if_neg (by omega), pAt nb]
      by_cases e : x = num T π
      · rw [if_pos ⟨rfl, e⟩, if_pos e]
      · rw [if_neg (fun g => e g.2), if_neg e]
    have r39 : ∀ x, m3.1 39 x = if x = k then zI (num T π : Int) else m.1 39 x := fun x => by
      rw [d3 39 (by decide), c3 39 (by decide) (by decide), pAt kb, if_neg (by omega), pAt kb]
      by_cases e : x = k
      · rw [if_pos ⟨rfl, e⟩, if_pos e]
      · rw [if_neg (fun g => e g.2), if_neg e, pAt nb, if_neg (by omega)]
    have r40 : ∀ x, m3.1 40 x = if x = k then zI (π.length : Int) else m.1 40 x := fun x => by
      rw [d3 40 (by decide), c3 40 (by decide) (by decide), pAt kb]
      by_cases e : x = k
      · rw [if_pos ⟨rfl, e⟩, if_pos e]
      · rw [if_neg (fun g => e g.2), if_neg e, pAt kb, if_neg (by omega), pAt nb, if_neg (by omega)]
    have rows : ∀ r, 41 ≤ r → ∀ x, (pkA (pkA (pkA m 38 (zI (num T π : Int)) (zI (k : Int))) 39 (zI (k : Int)) (zI (num T π : Int))) 40 (zI (k : Int)) (zI (π.length : Int))).1 r x = m.1 r x := fun r hr x => by
      rw [pAt kb, if_neg (by omega), pAt kb, if_neg (by omega), pAt nb, if_neg (by omega)]
    have fr3 : nFr T pth nd N m m3 (num T π) (pnum T π) := by
      refine ⟨fun i hi => by rw [r38, if_neg (by omega)], fun i hi => ?_, fun j hj => ?_, fun j hj => ?_, fun j hj i a q ha => ?_, fun j hj t _ => Or.inl ?_⟩
      · rw [d3 41 (by decide), c5 _ (by omega), rows 41 (by decide)]
      · rw [r39]
        by_cases e : j = k
        · subst e; rw [if_pos rfl, pk]; exact Or.inr rfl
        · rw [if_neg e]; exact Or.inl rfl
      · rw [r40]
        by_cases e : j = k
        · subst e; rw [if_pos rfl, pk]; exact Or.inr rfl
        · rw [if_neg e]; exact Or.inl rfl
      · rw [d3 42 (by decide)]
        by_cases e : j = k
        · subst e
          rw [pk]
          exact Or.inr (c4 i a q (Nat.zero_le _) ha).2
        · refine Or.inl ?_
          rw [c6 a (fun i' a' q' _ h' e' => ?_), rows 42 (by decide)]
          subst e'
          have u1 := ((H.2.2.2.2 j hj).2.2.2.2.2 i a q ha).2.2.1
          have u2 := (y4.2.2 i' a q' h').2.2.1
          rw [u1, zI_eq (rI_n (by omega)) (rI_n (by omega))] at u2
          exact e (by omega)
      · rw [d3 44 (by decide), c3 44 (by decide) (by decide), rows 44 (by decide)]
    obtain ⟨cst1, m4, g1, g2, g3, g4, g5, g6, g7, g8, g9, g10⟩ := ih1 m3 (J + 1) (some (k, true)) (nd k).2.1 s d (parAt_kid true hk pk) x2 H3 (by rw [List.length_cons]; omega) (by rw [List.length_cons]; omega) hd (by
        rw [show 3 * (J + 1) = 3 * J + 3 by omega, d8, c3 21 (by decide) (by decide), pAt kb, if_neg (by omega), pAt kb, if_neg (by omega), pAt nb, if_neg (by omega)]; exact y2) (by rw [show 3 * (J + 1) + 1 = 3 * J + 4 by omega]; exact d9) (by rw [show 3 * (J + 1) + 2 = 3 * J + 5 by omega]; exact d10) (by rw [e3]; exact h46) (by rw [e3]; exact h47) (by rw [e3]; exact h48) (by omega) (by omega)
    have dl := dD_le G (true :: π) (by rw [List.length_cons]; omega)
    obtain ⟨cst2, m5, i1, i2, i3, i4, i5, i6, i7, i8, i9, i10⟩ := ih2 m4 J (some (k, false)) (nd k).2.2.1 (s + (lD T (true :: π) : Int)) (max d (dD T (true :: π))) (parAt_kid false hk pk) x3 (H3.nb g6) (by rw [List.length_cons]; omega) (by rw [List.length_cons]; omega) (Nat.max_le.mpr ⟨hd, dl⟩) (by
        rw [g8 _ (by omega), d5, c3 22 (by decide) (by decide), pAt kb, if_neg (by omega), pAt kb, if_neg (by omega), pAt nb, if_neg (by omega)]; exact y3) (by rw [g8 _ (by omega)]; exact d6) (by rw [g8 _ (by omega)]; exact d7) g3 g4 g5 (by omega) (by omega)
    have fr4 := fr3.tr g7 (by omega) (by omega)
    have fr5 := fr4.tr i7 (by omega) (by omega)
    refine ⟨cst2 + cst1 + 1, m5, by omega, fun g => ?_, ?_, ?_, ?_, (F3.tr g6).tr i6, fr5, fun x hx => ?_, fun j hj hb => ?_, fun e => absurd e h⟩
    · rw [show g + (cst2 + cst1 + 1) = g + cst2 + cst1 + 1 by omega]
      show fX10_number__b45_s (fX10_number__b45 (g + cst2 + cst1)) m _ _ _ = _
      unfold fX10_number__b45_s
      rw [if_neg n0]
      simp only [qn_s, eJ, k0, k1, k2]
      rw [qld_at (by omega) (by decide), qld_at (by omega) (by decide), qld_at (by omega) (by decide), e0, e1, e2, ck, if_pos p0, qst_at (by omega) (by decide), qst_at (by omega) (by decide), qst_at (by omega) (by decide), ix_s, qld_at (by omega) (by decide), pAt kb, if_neg (by omega), pAt kb, if_neg (by omega), pAt nb, if_neg (by omega), y4.1]
      obtain ⟨rec', c1'⟩ := c1 (fX10_number__b45 (g + cst2 + cst1))
      rw [show fX10_number__b139 (fX10_number__b45 (g + cst2 + cst1)) FU (pkA (pkA (pkA m 38 (zI (num T π : Int)) (zI (k : Int))) 39 (zI (k : Int)) (zI (num T π : Int))) 40 (zI (k : Int)) (zI (π.length : Int))) (zI ((num T π + 1 : Nat) : Int)) (zI (J : Int)) (zI (pnum T π : Int)) (zI (k : Int)) (zI (π.length : Int)) (nxp (nd k).2.2.2 0) = _ from c1', d1, ol]
      rw [show num T π + nN T π = num T (false :: π) + nN T (false :: π) by omega, show pnum T π + nP T π = pnum T (false :: π) + nP T (false :: π) by omega, ← i2 g]
      exact g2 (g + cst2)
    · rw [i3, show lnum T π + nL T π = lnum T (false :: π) + nL T (false :: π) by omega]
    · rw [i4, lD_node G h]
      congr 1
      omega
    · rw [i5, dD_node G h, Nat.max_assoc]
    · rw [i8 x hx, g8 x (by omega), d4 x hx, c3 43 (by decide) (by decide), rows 43 (by decide)]
    · obtain ⟨σ, e⟩ := hb
      rcases snoc σ with e' | ⟨τ, x, e'⟩
      · subst e'
        have ej : j = k := tinj j k hj hk (by rw [e, pk]; rfl)
        subst ej
        have leafs : ∀ t, Ls T (t :: π) = [] → m5.1 44 (2 * j + bit t) = zI (lnum T (t :: π) : Int) := by
          intro t ht
          cases t with
          | true =>
            have u1 : m4.1 44 (2 * j + bit true) = zI (lnum T (true :: π) : Int) := g10 ht
            have u2 := i7.2.2.2.2.2 j hj true (by rw [pk]; exact ht)
            rw [pk] at u2
            exact or_eq u1 u2
          | false => exact i10 ht
        refine ⟨?_, ?_, ?_, fun i a q ha => ⟨?_, ?_⟩, fun t ht => ?_⟩
        · rw [pk, i7.1 _ (by omega), g7.1 _ (by omega), r38, if_pos rfl]
        · have u1 : m3.1 39 j = zI (num T (pth j) : Int) := by rw [r39, if_pos rfl, pk]
          exact or_eq (or_eq u1 (g7.2.2.1 j hj)) (i7.2.2.1 j hj)
        · have u1 : m3.1 40 j = zI ((pth j).length : Int) := by rw [r40, if_pos rfl, pk]
          exact or_eq (or_eq u1 (g7.2.2.2.1 j hj)) (i7.2.2.2.1 j hj)
        · have il := get_lt ha
          rw [pk, i7.2.1 _ (by omega), g7.2.1 _ (by omega), d3 41 (by decide)]
          exact (c4 i a q (Nat.zero_le _) ha).1
        · have u1 : m3.1 42 a = zI ((pnum T (pth j) + i : Nat) : Int) := by rw [d3 42 (by decide), pk]; exact (c4 i a q (Nat.zero_le _) ha).2
          exact or_eq (or_eq u1 (g7.2.2.2.2.1 j hj i a q ha)) (i7.2.2.2.2.1 j hj i a q ha)
        · rw [pk] at ht ⊢
          exact leafs t ht
      · subst e'
        rw [List.append_assoc] at e
        cases x with
        | true =>
          have e : pth j = τ ++ true :: π := e
          have hne : Ls T (τ ++ true :: π) ≠ [] := fun hE => by
            have := (tnd j hj).1
            rw [e, Xo_leaf hE] at this
            cases this
          obtain ⟨q1, q2, q3, q4⟩ := num_bd G (π := true :: π) τ hne
          have q5 := nN_pos G hne
          have q6 := onl_nP G hne
          have jl : (nd j).2.2.2.length = (onl T (pth j)).length := by
            have u := (tnd j hj).1
            rw [e, Xo_node hne] at u
            injection u with u; injection u with _ u
            rw [e, u, List.length_map]
          rw [← e] at q1 q2 q3 q4 q5 q6
          exact (g9 j hj ⟨τ, e⟩).F hj i7 (by omega) (by omega)
        | false => exact i9 j hj ⟨τ, e⟩
end S
