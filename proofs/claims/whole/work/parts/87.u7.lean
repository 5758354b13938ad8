/-! THE REFERENCE'S TREE: a movable piece at a node -/
section S
variable {T T' : Tr} {q0 : Pc} {π : List Bool}
theorem parAt_kid {pth : Nat → List Bool} {N k : Nat} (s : Bool) (hk : k < N) (e : pth k = π) : parAt (some (k, s)) pth N (s :: π) := Or.inr ⟨k, s, rfl, hk, by rw [e]⟩
theorem INS.mono (I : INS T T' q0) (G : GT T) (G' : GT T') (π : List Bool) : nN T π ≤ nN T' π ∧ nP T π ≤ nP T' π := by
  refine tr_ind (P := fun π => nN T π ≤ nN T' π ∧ nP T π ≤ nP T' π) G ?_ ?_ π
  · intro π h
    rw [nN_leaf h, nP_leaf h]
    exact ⟨Nat.zero_le _, Nat.zero_le _⟩
  · intro π h i1 i2
    rcases dn_one T' (q0 := q0) π with e | ⟨q, e, -⟩
    · have := I.same e
      rw [this.2.1, this.2.2]
      exact ⟨Nat.le_refl _, Nat.le_refl _⟩
    · obtain ⟨n1, n2, n3, n4⟩ := I.node h e
      rw [nN_node G h, nN_node G' n1, nP_node G h, nP_node G' n1, n3, List.length_append]
      omega
theorem I_node (I : INS T T' q0) (G : GT T) (G' : GT T') (ne : Ls T π ≠ []) (ih : ∀ s, InsH T T' q0 (s :: π)) : InsH T T' q0 π := by
  intro m nd pth N M J X q c rt0 par hd hX hT hc H h26 Q hJ h12 E hp hN hM
  obtain ⟨e0, e1, e2, e3, e4, e5, e6⟩ := E
  obtain ⟨n1, n2, n3, n4⟩ := I.node ne hd
  have dp := Ls_depth G ne
  have ok := sw_ok G ne
  have wq := I.wall hd
  have Wq : vpc T.1 q := by
    rw [← I.eq1]
    refine Ls_vp G' π q ?_
    rw [I.lins, hd]
    exact List.mem_append.mpr (Or.inr (List.mem_singleton.mpr rfl))
  have hX0 : X π = some (sw T π, onl T π) := by rw [← Xo_node ne]; exact hX []
  obtain ⟨k, hk, pk, ck⟩ := (hT.code hc).2 (by rw [hX0]; intro h; cases h)
  obtain ⟨x1, x2, x3⟩ := hT.2.1 k hk
  rw [pk, hX0] at x1
  rw [pk] at x2 x3
  have w1 : (nd k).1 = sw T π := by injection x1 with x1; injection x1 with a b; exact a.symm
  have o1 : (nd k).2.2.2.map (fun a => a.2) = onl T π := by injection x1 with x1; injection x1 with a b; exact b.symm
  obtain ⟨y1, y2, y3, y4⟩ := H.2.2.2.2 k hk
  rw [w1] at y1
  have hN160 := H.2.2.1
  have eN := nN_node G ne
  have eN' := nN_node G' n1
  have eP := nP_node G ne
  have eP' := nP_node G' n1
  have oneP := onl_pos ne
  rw [n3, List.length_append] at eP'
  have k3 : zI ((7 * J : Nat) : Int) + 3 = zI ((7 * J + 3 : Nat) : Int) := ix7c J 3
  have k4 : zI ((7 * J : Nat) : Int) + 4 = zI ((7 * J + 4 : Nat) : Int) := ix7c J 4
  have k5 : zI ((7 * J : Nat) : Int) + 5 = zI ((7 * J + 5 : Nat) : Int) := ix7c J 5
  have k6 : zI ((7 * J : Nat) : Int) + 6 = zI ((7 * J + 6 : Nat) : Int) := ix7c J 6
  have n0 : ¬ zI ((J + 1 : Nat) : Int) ≤ 0 := by rw [z0, zI_le (rI_n (by omega)) r0]; omega
  have eJ : zI ((J + 1 : Nat) : Int) + (-1) = zI (J : Int) := by rw [zm1, zI_add]; congr 1; omega
  have p0 : 0 ≤ zI (k : Int) := by rw [z0, zI_le r0 (rI_n (by omega))]; omega
  have hm := M_relation (q := q) Q G.1 ok.1 ok.2 Wq
  rw [wq] at hm
  -- the step as far as the relation
  have head : ∀ g, fX10_insert_b55 (g + 1) m (zI (q0.1 : Int)) (zI ((J + 1 : Nat) : Int)) = (if zI (rm (rel T.1 (sw T π) q)) = 0 then (qb1 (fX10_addPiece m (zI (k : Int)) (zI (q0.1 : Int)) (zI q.2.1) (zI q.2.2.1) (zI q.2.2.2.1) (zI q.2.2.2.2)) (fun p201_t => fX10_insert_b336 (fX10_insert_b55 g) p201_t (zI (q0.1 : Int)) (zI (J : Int)))) else (if zI (rm (rel T.1 (sw T π) q)) = 2 then (qb1 (fX10_cut m (zI (sw T π : Int)) (zI (q0.1 : Int))) (fun p217_t => qb1 (fX10_signAt p217_t (zI (sw T π : Int)) (zI (q0.1 : Int)) (zI q.2.1) (zI q.2.2.1)) (fun x228 => if x228 ≤ 0 then (fX10_insert_b239 (fX10_insert_b55 g) p217_t (zI (q0.1 : Int)) (zI (J : Int)) (zI (k : Int)) (zI q.2.1) (zI q.2.2.1) (zI q.2.2.2.1) (zI q.2.2.2.2) 0) else (fX10_insert_b239 (fX10_insert_b55 g) p217_t (zI (q0.1 : Int)) (zI (J : Int)) (zI (k : Int)) (zI q.2.1) (zI q.2.2.1) (zI q.2.2.2.1) (zI q.2.2.2.2) 1)))) else (if zI (rm (rel T.1 (sw T π) q)) = 1 then (fX10_insert_b322 (fX10_insert_b55 g) m (zI (q0.1 : Int)) (zI (J : Int)) (zI q.2.1) (zI q.2.2.1) (zI q.2.2.2.1) (zI q.2.2.2.2) (zI (J : Int)) (zI (k : Int)) 0) else (fX10_insert_b322 (fX10_insert_b55 g) m (zI (q0.1 : Int)) (zI (J : Int)) (zI q.2.1) (zI q.2.2.1) (zI q.2.2.2.1) (zI q.2.2.2.2) (zI (J : Int)) (zI (k : Int)) 1)))) := by
    intro g
    show fX10_insert_b55_s (fX10_insert_b55 g) m _ _ = _
    unfold fX10_insert_b55_s
    rw [if_neg n0]
    simp only [qn_s, eJ, ix7_0, k3, k4, k5, k6]
    rw [qld_at (by omega) (by decide), qld_at (by omega) (by decide), qld_at (by omega) (by decide), qld_at (by omega) (by decide), qld_at (by omega) (by decide), e0, e3, e4, e5, e6, ck, if_pos p0, qld_at (by omega) (by decide), y1, hm, qb1_s]
  have kidc : ∀ s : Bool, cdx X pth N (s :: π) (if s then (nd k).2.1 else (nd k).2.2.1) := fun s => by
    cases s with
    | true => exact x2
    | false => exact x3
  have kidz : ∀ s : Bool, (if s then m.1 21 k else m.1 22 k) = zI (if s then (nd k).2.1 else (nd k).2.2.1) := fun s => by
    cases s with
    | true => exact y2
    | false => exact y3
  have hXk : ∀ (s : Bool) σ, X (σ ++ s :: π) = Xo T (σ ++ s :: π) := fun s σ => by
    have := hX (σ ++ [s])
    rw [List.append_assoc] at this
    exact this
  have hr : rel T.1 (sw T π) q = 0 ∨ rel T.1 (sw T π) q = 1 ∨ rel T.1 (sw T π) q = 2 ∨ rel T.1 (sw T π) q = 3 := by
    have : rel T.1 (sw T π) q ≤ 3 := relI_le _ _
    omega
  -- one side
  have side : ∀ s : Bool, rel T.1 (sw T π) q = (if s then 1 else 2) → (∀ g, fX10_insert_b55 (g + 1) m (zI (q0.1 : Int)) (zI ((J + 1 : Nat) : Int)) = fX10_insert_b322 (fX10_insert_b55 g) m (zI (q0.1 : Int)) (zI (J : Int)) (zI q.2.1) (zI q.2.2.1) (zI q.2.2.2.1) (zI q.2.2.2.2) (zI (J : Int)) (zI (k : Int)) (if s then 0 else 1)) → InsR T T' q0 π m X pth N M J := by
    intro s hs hstep
    have n3' : ¬ rel T.1 (sw T π) q = 3 := by rw [hs]; cases s <;> decide
    have nz : ¬ rel T.1 (sw T π) q = 0 := by rw [hs]; cases s <;> decide
    have ds : dn T' q0 (s :: π) = [q] := by rw [n4]; unfold prt; rw [if_neg n3', if_pos hs]
    have dns : dn T' q0 ((!s) :: π) = [] := by rw [n4]; unfold prt; rw [if_neg n3', if_neg (by rw [hs]; cases s <;> decide)]
    obtain ⟨z1, z2, z3⟩ := I.same dns
    have eo : ons T.1 (sw T π) [q] = [] := by rw [ons_cons_f nz]; rfl
    rw [eo, List.length_nil, Nat.add_zero] at eP'
    obtain ⟨m1, a1, a2, a3, a4, a5⟩ := M_push (m := m) (J := J) (k := k) (by omega) (by omega) s q.2.1 q.2.2.1 q.2.2.2.1 q.2.2.2.2
    have b1 : bF m m1 := ⟨fun r hr => a3 r (by omega), fun _ _ => by rw [a2], by rw [a2]⟩
    have sumN : nN T' (s :: π) + nN T π = nN T (s :: π) + nN T' π := by cases s <;> (first | rw [show (!true) = false from rfl] at z2 | rw [show (!false) = true from rfl] at z2) <;> omega
    have sumP : nP T' (s :: π) + nP T π = nP T (s :: π) + nP T' π := by cases s <;> (first | rw [show (!true) = false from rfl] at z3 | rw [show (!false) = true from rfl] at z3) <;> omega
    have leN : nN T' (s :: π) + 1 ≤ nN T' π := by cases s <;> omega
    obtain ⟨cst, m2, nd2, pth2, N2, M2, rt2, d1, d2, d3, d4, d5, d6, d7, d8, d9, d10, d11⟩ := ih s m1 nd pth N M J X q (if s then (nd k).2.1 else (nd k).2.2.1) rt0 (some (k, s)) ds (hXk s) hT (kidc s) (H.of (fun r hr => a3 r (by omega)) (by rw [a2]) (by rw [a2])) (by rw [a2]; exact h26) (Q.bF b1) (by rw [List.length_cons]; omega) (by rw [List.length_cons]; omega) ⟨by rw [a5.1]; exact kidz s, a5.2.1, a5.2.2.1, a5.2.2.2⟩ (parAt_kid s hk pk) (by omega) (by omega)
    refine ⟨cst + 1, m2, nd2, pth2, N2, M2, rt2, by omega, fun g => ?_, d3, d4.cg (Xu_eq (fun ρ hρ => Xu_out (up_below hρ)) ?_ (fun x σ => ?_)), d5, d6, d7, by omega, by omega, b1.tr d10, fun x hx => ?_⟩
    · rw [show g + (cst + 1) = g + cst + 1 by omega, hstep]
      unfold fX10_insert_b322 fX10_insert_b336
      rw [a1, qb1_s, ix_s, qn_s, d2]
    · rw [Xu_out (not_self s), hX0, Xo_node n1, n2, n3, eo, List.append_nil]
    · by_cases h : x = s
      · subst h; exact Xu_in σ
      · have hx : x = !s := by cases x <;> cases s <;> first | rfl | exact absurd rfl h
        rw [Xu_out (not_below h σ), hXk x σ, hx]
        exact (z1 σ).symm
    · rw [d11 x hx, a4 x (by omega)]
  rcases hr with hr | hr | hr | hr
  · obtain ⟨m1, a1, a2, a3, a4⟩ := M_addPiece H hk (by rw [ons_cons_t hr] at eP'; have : (ons T.1 (sw T π) []).length = 0 := rfl; rw [List.length_cons, this] at eP'; have z2 := (I.same (q0 := q0) (π := true :: π) (by rw [n4]; unfold prt; rw [if_neg (by omega), if_neg (by rw [hr]; decide)])).2.2; have z3 := (I.same (q0 := q0) (π := false :: π) (by rw [n4]; unfold prt; rw [if_neg (by omega), if_neg (by rw [hr]; decide)])).2.2; omega) q
    have ds : ∀ s, dn T' q0 (s :: π) = [] := fun s => by
      rw [n4]; unfold prt; rw [if_neg (by omega), if_neg (by rw [hr]; cases s <;> decide)]
    have zt := I.same (ds true)
    have zf := I.same (ds false)
    have eo : ons T.1 (sw T π) [q] = [q] := by rw [ons_cons_t hr]; rfl
    rw [eo, List.length_singleton] at eP'
    rw [wq] at a1
    refine ⟨1, m1, addP nd k M q, pth, N, M + 1, rt0, by rw [eN']; omega, fun g => ?_, a2, TIx_add hT hk ?_ (fun ρ hρ => ?_), a4.trans h26, Nat.le_refl _, fun _ _ => rfl, by omega, by omega, a3.b, fun x _ => by rw [a3.1 37 (by decide) (by decide)]⟩
    · rw [head g, hr, if_pos (by decide), a1, qb1_s]
      rfl
    · have := Xu_in (X := X) (π := π) (Y := Xo T') []
      rw [List.nil_append] at this
      rw [pk, this, Xo_node n1, n2, n3, eo, w1, o1]
    · rw [pk] at hρ
      by_cases b : ∃ σ, ρ = σ ++ π
      · obtain ⟨σ, e⟩ := b
        subst e
        rw [Xu_in]
        rcases snoc σ with e | ⟨τ, x, e⟩
        · subst e; exact absurd rfl hρ
        · subst e
          rw [hX, List.append_assoc]
          exact (I.same (ds x)).1 τ
      · exact Xu_out b
  · refine side true hr (fun g => ?_)
    rw [head g, hr, if_neg (by decide), if_neg (by decide), if_pos (by decide), if_pos rfl]
  · refine side false hr (fun g => ?_)
    rw [head g, hr, if_neg (by decide), if_neg (by decide), if_neg (by decide), if_neg (by decide)]
  · -- it crosses
    have hcut := M_cut (q := q) Q G.1 ok.1 ok.2 Wq hr
    rw [wq] at hcut
    obtain ⟨σ0, g0, C⟩ := cut_spec Wq hr
    obtain ⟨s1, -, -, -, s2, -, s4, -, -⟩ := C
    have bc : bF m (pkI (pkI m 18 (zI (cN T.1 (sw T π) q0.1))) 19 (zI (cD T.1 (sw T π) q0.1))) := (bF_I m (by decide) _).tr (bF_I _ (by decide) _)
    obtain ⟨vb, -⟩ := vpc_bd Wq
    have vb2 := Wq.2.2.1
    have hs := M_signAt (Q.bF bc) G.1 ok.1 ok.2 Wq.1.1 Wq.1.2 (n := q.2.1) (d := q.2.2.1) (by omega) (by omega)
    rw [wq] at hs s2 s4
    have eo : ons T.1 (sw T π) [q] = [] := by rw [ons_cons_f (by omega)]; rfl
    rw [eo, List.length_nil, Nat.add_zero] at eP'
    have dsx : ∀ s, dn T' q0 (s :: π) = [cutp T.1 (sw T π) s q] := fun s => by rw [n4]; unfold prt; rw [if_pos hr]
    -- both sides, the first part's side first
    have both : ∀ s : Bool, decide (0 < eA T.1 (sw T π) q.1) = s → (∀ g, fX10_insert_b55 (g + 1) m (zI (q0.1 : Int)) (zI ((J + 1 : Nat) : Int)) = fX10_insert_b255 (fX10_insert_b55 g) (pkI (pkI m 18 (zI (cN T.1 (sw T π) q0.1))) 19 (zI (cD T.1 (sw T π) q0.1))) (zI (q0.1 : Int)) (zI (J : Int)) (zI (k : Int)) (zI q.2.1) (zI q.2.2.1) (zI q.2.2.2.1) (zI q.2.2.2.2) (if s then 1 else 0) (zI (J : Int)) (zI (k : Int)) (if (!s) then 0 else 1)) → InsR T T' q0 π m X pth N M J := by
      intro s hs1 hstep
      have f1 : cutp T.1 (sw T π) s q = (q.1, q.2.1, q.2.2.1, cN T.1 (sw T π) q0.1, cD T.1 (sw T π) q0.1) := by unfold cutp; rw [if_pos hs1, wq]
      have f2 : cutp T.1 (sw T π) (!s) q = (q.1, cN T.1 (sw T π) q0.1, cD T.1 (sw T π) q0.1, q.2.2.2.1, q.2.2.2.2) := by
        unfold cutp
        rw [if_neg (by rw [hs1]; cases s <;> decide), wq]
      obtain ⟨m1, a1, a2, a3, a4, a5⟩ := M_push (m := pkI (pkI m 18 (zI (cN T.1 (sw T π) q0.1))) 19 (zI (cD T.1 (sw T π) q0.1))) (J := J) (k := k) (by omega) (by omega) (!s) (cN T.1 (sw T π) q0.1) (cD T.1 (sw T π) q0.1) q.2.2.2.1 q.2.2.2.2
      obtain ⟨m2, b1, b2', b3, b4, b5⟩ := M_push (m := m1) (J := J + 1) (k := k) (by omega) (by omega) s q.2.1 q.2.2.1 (cN T.1 (sw T π) q0.1) (cD T.1 (sw T π) q0.1)
      have B2 : bF m m2 := bc.tr ⟨fun r hr => (b3 r (by omega)).trans (a3 r (by omega)), fun _ _ => by rw [b2', a2], by rw [b2', a2]⟩
      have H2 : PH m2 N M nd := H.of (fun r hr => (b3 r (by omega)).trans (a3 r (by omega))) (by rw [b2', a2]; rfl) (by rw [b2', a2]; rfl)
      have sN : nN T' π = 1 + nN T' (s :: π) + nN T' ((!s) :: π) := by cases s <;> (first | rw [show (!true) = false from rfl] | rw [show (!false) = true from rfl]) <;> omega
      have sN0 : nN T π = 1 + nN T (s :: π) + nN T ((!s) :: π) := by cases s <;> (first | rw [show (!true) = false from rfl] | rw [show (!false) = true from rfl]) <;> omega
      have sP : nP T' π = (onl T π).length + nP T' (s :: π) + nP T' ((!s) :: π) := by cases s <;> (first | rw [show (!true) = false from rfl] | rw [show (!false) = true from rfl]) <;> omega
      have sP0 : nP T π = (onl T π).length + nP T (s :: π) + nP T ((!s) :: π) := by cases s <;> (first | rw [show (!true) = false from rfl] | rw [show (!false) = true from rfl]) <;> omega
      have monN : ∀ x, nN T (x :: π) ≤ nN T' (x :: π) := fun x => (I.mono G G' (x :: π)).1
      have monP : ∀ x, nP T (x :: π) ≤ nP T' (x :: π) := fun x => (I.mono G G' (x :: π)).2
      have mN := monN (!s)
      have mP := monP (!s)
      have e21 : ∀ r j, r = 21 ∨ r = 22 → m1.1 r j = m.1 r j := fun r j hr => by rw [a3 r (by omega)]; rfl
      obtain ⟨cst, m3, nd3, pth3, N3, M3, rt3, d1, d2, d3, d4, d5, d6, d7, d8, d9, d10, d11⟩ := ih s m2 nd pth N M (J + 1) X (cutp T.1 (sw T π) s q) (if s then (nd k).2.1 else (nd k).2.2.1) rt0 (some (k, s)) (dsx s) (hXk s) hT (kidc s) H2 (by rw [b2', a2]; exact h26) (Q.bF B2) (by rw [List.length_cons]; omega) (by rw [List.length_cons]; omega) ⟨by rw [b5.1, e21 21 k (by decide), e21 22 k (by decide)]; exact kidz s, b5.2.1, b5.2.2.1, by rw [f1]; exact b5.2.2.2⟩ (parAt_kid s hk pk) (by omega) (by omega)
      have E3 : ES m3 J (if (!s) then (nd k).2.1 else (nd k).2.2.1) (some (k, !s)) (cutp T.1 (sw T π) (!s) q) := by
        have E1 : ES m1 J (if (!s) then (nd k).2.1 else (nd k).2.2.1) (some (k, !s)) (cutp T.1 (sw T π) (!s) q) := ⟨by rw [a5.1]; exact kidz (!s), a5.2.1, a5.2.2.1, by rw [f2]; exact a5.2.2.2⟩
        exact E1.of (fun x hx => by rw [d11 x (by omega), b4 x (by omega)])
      have hXu : ∀ σ, Xu X (s :: π) (Xo T') (σ ++ (!s) :: π) = Xo T (σ ++ (!s) :: π) := fun σ => by
        rw [Xu_out (not_below (by cases s <;> decide) σ)]; exact hXk (!s) σ
      have cdx3 : cdx (Xu X (s :: π) (Xo T')) pth3 N3 ((!s) :: π) (if (!s) then (nd k).2.1 else (nd k).2.2.1) := by
        rcases kidc (!s) with ⟨u1, u2⟩ | ⟨j, u1, u2, u3⟩
        · refine Or.inl ⟨?_, u2⟩
          have := hXu []
          rw [List.nil_append] at this
          rw [this, ← u1]
          exact (hXk (!s) []).symm
        · exact Or.inr ⟨j, by omega, by rw [d7 j u1]; exact u2, u3⟩
      obtain ⟨cst2, m4, nd4, pth4, N4, M4, rt4, h1, h2, h3, h4, h5, h6, h7, h8, h9, h10, h11⟩ := ih (!s) m3 nd3 pth3 N3 M3 J (Xu X (s :: π) (Xo T')) (cutp T.1 (sw T π) (!s) q) (if (!s) then (nd k).2.1 else (nd k).2.2.1) rt3 (some (k, !s)) (dsx (!s)) hXu d4 cdx3 d3 d5 (Q.bF (B2.tr d10)) (by rw [List.length_cons]; omega) (by rw [List.length_cons]; omega) E3 (parAt_kid (!s) (by omega) (by rw [d7 k hk]; exact pk)) (by omega) (by omega)
      refine ⟨cst2 + cst + 1, m4, nd4, pth4, N4, M4, rt4, by omega, fun g => ?_, h3, h4.cg (Xu_eq (fun ρ hρ => ?_) ?_ (fun x σ => ?_)), h5, by omega, fun j hj => by rw [h7 j (by omega), d7 j hj], by omega, by omega, (B2.tr d10).tr h10, fun x hx => ?_⟩
      · rw [show g + (cst2 + cst + 1) = g + cst2 + cst + 1 by omega, hstep]
        unfold fX10_insert_b255 fX10_insert_b286 fX10_insert_b336
        have u18 : (pkI (pkI m 18 (zI (cN T.1 (sw T π) q0.1))) 19 (zI (cD T.1 (sw T π) q0.1))).2.1 18 = zI (cN T.1 (sw T π) q0.1) := rfl
        have u19 : (pkI (pkI m 18 (zI (cN T.1 (sw T π) q0.1))) 19 (zI (cD T.1 (sw T π) q0.1))).2.1 19 = zI (cD T.1 (sw T π) q0.1) := rfl
        rw [u18, u19, a1, qb1_s]
        have v18 : m1.2.1 18 = zI (cN T.1 (sw T π) q0.1) := by rw [a2]; rfl
        have v19 : m1.2.1 19 = zI (cD T.1 (sw T π) q0.1) := by rw [a2]; rfl
        have e2 : zI (J : Int) + 2 = zI ((J + 1 + 1 : Nat) : Int) := ix_c1 J 2
        cases s with
        | true =>
          rw [if_neg (show ¬ (if true = true then (1 : Int32) else 0) = 0 by decide), v18, v19, ix_s]
          rw [show fX10_push m1 (zI ((J + 1 : Nat) : Int)) (zI (k : Int)) 0 (zI q.2.1) (zI q.2.2.1) (zI (cN T.1 (sw T π) q0.1)) (zI (cD T.1 (sw T π) q0.1)) = some m2 from b1, qb1_s, qn_s, e2, d2, h2]
        | false =>
          rw [if_pos (show (if false = true then (1 : Int32) else 0) = 0 by decide), v18, v19, ix_s]
          rw [show fX10_push m1 (zI ((J + 1 : Nat) : Int)) (zI (k : Int)) 1 (zI q.2.1) (zI q.2.2.1) (zI (cN T.1 (sw T π) q0.1)) (zI (cD T.1 (sw T π) q0.1)) = some m2 from b1, qb1_s, qn_s, e2, d2, h2]
      · rw [Xu_out (up_below hρ), Xu_out (up_below hρ)]
      · rw [Xu_out (not_self _), Xu_out (not_self _), hX0, Xo_node n1, n2, n3, eo, List.append_nil]
      · by_cases hx : x = s
        · subst hx
          rw [Xu_out (not_below (by cases x <;> decide) σ), Xu_in]
        · have hx : x = !s := by cases x <;> cases s <;> first | rfl | exact absurd rfl hx
          rw [hx, Xu_in]
      · rw [h11 x hx, d11 x (by omega), b4 x (by omega), a4 x (by omega)]; rfl
    have le0 : zI (sg (ev T.1 (sw T π) q0.1 q.2.1 q.2.2.1)) ≤ 0 ↔ ev T.1 (sw T π) q0.1 q.2.1 q.2.2.1 ≤ 0 := by
      have := (sg_z (ev T.1 (sw T π) q0.1 q.2.1 q.2.2.1)).2.2
      rw [← nlt, this]; omega
    by_cases kk : 0 < eA T.1 (sw T π) q0.1
    · have pe : 0 < ev T.1 (sw T π) q0.1 q.2.1 q.2.2.1 := by rcases s1 with rfl | rfl <;> omega
      refine both true (by rw [wq]; exact decide_eq_true kk) (fun g => ?_)
      rw [head g, hr, if_neg (by decide), if_pos (by decide), hcut, qb1_s, hs, qb1_s, if_neg (fun g => by have := le0.mp g; omega)]
      unfold fX10_insert_b239
      rw [if_neg (by decide)]
      rfl
    · have pe : ¬ 0 < ev T.1 (sw T π) q0.1 q.2.1 q.2.2.1 := by rcases s1 with rfl | rfl <;> omega
      refine both false (by rw [wq]; exact decide_eq_false kk) (fun g => ?_)
      rw [head g, hr, if_neg (by decide), if_pos (by decide), hcut, qb1_s, hs, qb1_s, if_pos (le0.mpr (by omega))]
      unfold fX10_insert_b239
      rw [if_pos rfl]
      rfl
theorem I_sub (I : INS T T' q0) (G : GT T) (G' : GT T') (π : List Bool) : InsH T T' q0 π := by
  refine tr_ind (P := fun π => InsH T T' q0 π) G' ?_ ?_ π
  · intro π h m nd pth N M J X q c rt0 par hd
    exfalso
    rw [I.lins, hd] at h
    have := (List.append_eq_nil_iff.mp h).2
    cases this
  · intro π h i1 i2
    by_cases c : Ls T π = []
    · exact I_leaf I G' c
    · exact I_node I G G' c (fun s => by cases s with
        | true => exact i1
        | false => exact i2)
/-- what the reference holds once a tree is built, before it is numbered -/
def MTree (T : Tr) (m : Pk) (nd : Nat → Nd) (pth : Nat → List Bool) (rt : Int) : Prop := PH m (nN T []) (nP T []) nd ∧ TIx (Xo T) pth (nN T []) rt nd ∧ m.2.1 26 = zI rt
theorem M_insert (I : INS T T' q0) (G : GT T) (G' : GT T') (hq : q0.2 = (0, 1, 1, 1)) {m : Pk} {nd : Nat → Nd} {pth : Nat → List Bool} {rt : Int} (h : MTree T m nd pth rt) (Q : ReM m T.1) : ∃ m' nd' pth' rt', fX10_insert m (zI (q0.1 : Int)) = some m' ∧ MTree T' m' nd' pth' rt' ∧ bF m m' := by
  obtain ⟨H, hT, h26⟩ := h
  have c1 := nP_144 G
  have c2 := nP_144 G'
  have c3 := nN_nP G []
  have c4 := nN_nP G' []
  -- the first entry
  have p0 : ∀ {β : Type} (n : Nat) (hn : n < 7) (k : Option β), qst 420 (zI (n : Int)) k = k := fun n hn k => qst_at (by omega) (by decide)
  have lt : ∀ n : Nat, n < 7 → n < 2147483648 := fun n hn => by omega
  have start : ∃ m1, fX10_insert m (zI (q0.1 : Int)) = fX10_insert_b55 FU m1 (zI (q0.1 : Int)) (zI ((0 + 1 : Nat) : Int)) ∧ m1.2 = m.2 ∧ (∀ r, ¬ r = 37 → m1.1 r = m.1 r) ∧ ES m1 0 rt none q0 := by
    unfold fX10_insert
    have q0' : ∀ k : Option Pk, qst 420 0 k = k := fun k => p0 0 (by decide) k
    have q1' : ∀ k : Option Pk, qst 420 1 k = k := fun k => p0 1 (by decide) k
    have q2' : ∀ k : Option Pk, qst 420 2 k = k := fun k => p0 2 (by decide) k
    have q3' : ∀ k : Option Pk, qst 420 3 k = k := fun k => p0 3 (by decide) k
    have q4' : ∀ k : Option Pk, qst 420 4 k = k := fun k => p0 4 (by decide) k
    have q5' : ∀ k : Option Pk, qst 420 5 k = k := fun k => p0 5 (by decide) k
    have q6' : ∀ k : Option Pk, qst 420 6 k = k := fun k => p0 6 (by decide) k
    simp only [qn_s]
    rw [q0', q1', q2', q3', q4', q5', q6', h26]
    have g : ∀ (n : Nat) (x : Int32) (u : Pk) (j : Nat), n < 7 → (pkA u 37 (zI (n : Int)) x).1 37 j = if j = n then x else u.1 37 j := fun n x u j hn => by
      rw [pAt (lt n hn)]
      by_cases c : j = n
      · rw [if_pos ⟨rfl, c⟩, if_pos c]
      · rw [if_neg (fun h => c h.2), if_neg c]
    refine ⟨pkA (pkA (pkA (pkA (pkA (pkA (pkA m 37 (zI ((0 : Nat) : Int)) (zI rt)) 37 (zI ((1 : Nat) : Int)) (-1)) 37 (zI ((2 : Nat) : Int)) 0) 37 (zI ((3 : Nat) : Int)) 0) 37 (zI ((4 : Nat) : Int)) 1) 37 (zI ((5 : Nat) : Int)) 1) 37 (zI ((6 : Nat) : Int)) 1, rfl, rfl, fun r hr => ?_, ?_, ?_, ?_, ?_, ?_, ?_, ?_⟩
    · rw [pA1 (lt 6 (by decide)), if_neg hr, pA1 (lt 5 (by decide)), if_neg hr, pA1 (lt 4 (by decide)), if_neg hr, pA1 (lt 3 (by decide)), if_neg hr, pA1 (lt 2 (by decide)), if_neg hr, pA1 (lt 1 (by decide)), if_neg hr, pA1 (lt 0 (by decide)), if_neg hr]
    · rw [g 6 _ _ _ (by decide), g 5 _ _ _ (by decide), g 4 _ _ _ (by decide), g 3 _ _ _ (by decide), g 2 _ _ _ (by decide), g 1 _ _ _ (by decide), g 0 _ _ _ (by decide)]; rfl
    · rw [g 6 _ _ _ (by decide), g 5 _ _ _ (by decide), g 4 _ _ _ (by decide), g 3 _ _ _ (by decide), g 2 _ _ _ (by decide), g 1 _ _ _ (by decide)]; rfl
    · trivial
    · rw [g 6 _ _ _ (by decide), g 5 _ _ _ (by decide), g 4 _ _ _ (by decide), g 3 _ _ _ (by decide), hq]; rfl
    · rw [g 6 _ _ _ (by decide), g 5 _ _ _ (by decide), g 4 _ _ _ (by decide), hq]; rfl
    · rw [g 6 _ _ _ (by decide), g 5 _ _ _ (by decide), hq]; rfl
    · rw [g 6 _ _ _ (by decide), hq]; rfl
  obtain ⟨m1, s1, s2, s3, s4⟩ := start
  have b1 : bF m m1 := ⟨fun r hr => s3 r (by omega), fun _ _ => by rw [s2], by rw [s2]⟩
  obtain ⟨cst, m2, nd2, pth2, N2, M2, rt2, d1, d2, d3, d4, d5, d6, d7, d8, d9, d10, d11⟩ := I_sub I G G' [] m1 nd pth (nN T []) (nP T []) 0 (Xo T) q0 rt rt none rfl (fun σ => rfl) hT hT.2.2.2 (H.of (fun r hr => s3 r (by omega)) (by rw [s2]) (by rw [s2])) (by rw [s2]; exact h26) (Q.bF b1) (by decide) (by decide) s4 (Or.inl ⟨rfl, rfl⟩) (by omega) (by omega)
  refine ⟨m2, nd2, pth2, rt2, ?_, ⟨?_, ?_, d5⟩, b1.tr d10⟩
  · have := d2 (4095 - cst + 1)
    rw [show 4095 - cst + 1 + cst = FU by show _ = 4096; omega] at this
    rw [s1, this]
    show fX10_insert_b55_s (fX10_insert_b55 _) m2 _ _ = some m2
    unfold fX10_insert_b55_s
    rw [if_pos (by decide)]
  · rw [show nN T' [] = N2 by omega, show nP T' [] = M2 by omega]; exact d3
  · rw [show nN T' [] = N2 by omega]
    refine d4.cg (fun ρ => ?_)
    have := Xu_in (X := Xo T) (π := []) (Y := Xo T') ρ
    rw [List.append_nil] at this
    exact this.symm
end S
