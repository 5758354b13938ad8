/-! BOTH TREES STAND: the reference's is numbered, the class's is made when it is needed -/
section S
variable {T : Tr} {p pb : Pln} {m m' w t b TT L P : Pk} {nd : Nat → Nd} {pth : Nat → List Bool} {rt0 : Int}
def MT (T : Tr) (m : Pk) (nd : Nat → Nd) (pth : Nat → List Bool) : Prop := PH m (nN T []) (nP T []) nd ∧ (∃ rt0, TIx (Xo T) pth (nN T []) rt0 nd ∧ m.2.1 26 = zI rt0) ∧ (∀ k, k < nN T [] → NK T pth nd m k) ∧ m.2.1 46 = zI (nL T [] : Int) ∧ m.2.1 47 = zI (lD T [] : Int) ∧ m.2.1 48 = zI (dD T [] : Int) ∧ (Ls T [] = [] → m.2.1 45 = 0)
theorem M_number (G : GT T) (h : MTree T m nd pth rt0) : ∃ m', fX10_number_ m = some m' ∧ MT T m' nd pth ∧ nbF m m' := by
  obtain ⟨H, hT, h26⟩ := h
  have c144 := nP_144 G
  have cN := nN_nP G []
  have cL := nL_nN G []
  have p0 : ∀ {β : Type} (n : Nat) (hn : n < 3) (k : Option β), qst 400 (zI (n : Int)) k = k := fun n hn k => qst_at (by omega) (by decide)
  have q0 : ∀ k : Option Pk, qst 400 0 k = k := fun k => p0 0 (by decide) k
  have q1 : ∀ k : Option Pk, qst 400 1 k = k := fun k => p0 1 (by decide) k
  have q2 : ∀ k : Option Pk, qst 400 2 k = k := fun k => p0 2 (by decide) k
  have run : fX10_number_ m = fX10_number__b45 FU (pkA (pkA (pkA (pkI (pkI (pkI m 46 0) 47 0) 48 0) 43 (zI ((0 : Nat) : Int)) (zI rt0)) 43 (zI ((1 : Nat) : Int)) (-1)) 43 (zI ((2 : Nat) : Int)) 0) (zI ((num T [] : Nat) : Int)) (zI ((0 + 1 : Nat) : Int)) (zI ((pnum T [] : Nat) : Int)) := by
    unfold fX10_number_
    simp only [qn_s]
    rw [q0, q1, q2]
    have e : (pkI (pkI (pkI m 46 0) 47 0) 48 0).2.1 26 = zI rt0 := h26
    rw [e]
    rfl
  have F0 : nbF m (pkA (pkA (pkA (pkI (pkI (pkI m 46 0) 47 0) 48 0) 43 (zI ((0 : Nat) : Int)) (zI rt0)) 43 (zI ((1 : Nat) : Int)) (-1)) 43 (zI ((2 : Nat) : Int)) 0) := (((((nbF_I m (r := 46) (by decide) _).tr (nbF_I _ (r := 47) (by decide) _)).tr (nbF_I _ (r := 48) (by decide) _)).tr (nbF_A _ (by decide) (by decide) _)).tr (nbF_A _ (by decide) (by decide) _)).tr (nbF_A _ (by decide) (by decide) _)
  obtain ⟨cst, m1, a1, a2, a3, a4, a5, a6, a7, a8, a9, a10⟩ := Num_sub G hT (by omega) [] (pkA (pkA (pkA (pkI (pkI (pkI m 46 0) 47 0) 48 0) 43 (zI ((0 : Nat) : Int)) (zI rt0)) 43 (zI ((1 : Nat) : Int)) (-1)) 43 (zI ((2 : Nat) : Int)) 0) 0 none rt0 0 0 (Or.inl ⟨rfl, rfl⟩) hT.2.2.2 (H.nb F0) (by decide) (by decide) (by decide) (by
      rw [pAt (by decide), if_neg (by decide), pAt (by decide), if_neg (by decide), pAt (by decide), if_pos ⟨rfl, rfl⟩]) (by
      rw [pAt (by decide), if_neg (by decide), pAt (by decide), if_pos ⟨rfl, rfl⟩]; rfl) (by
      rw [pAt (by decide), if_pos ⟨rfl, rfl⟩]; rfl) rfl rfl rfl (by show 0 + _ ≤ _; omega) (by show 0 + _ ≤ _; omega)
  have z1 : lnum T [] + nL T [] = nL T [] := Nat.zero_add _
  have z2 : (0 : Int) + (lD T [] : Int) = (lD T [] : Int) := Int.zero_add _
  have z3 : max 0 (dD T []) = dD T [] := Nat.zero_max _
  refine ⟨m1, ?_, ⟨(H.nb F0).nb a6, ⟨rt0, hT, ?_⟩, fun k hk => a9 k hk ⟨pth k, by rw [List.append_nil]⟩, by rw [a3, z1], by rw [a4, z2], by rw [a5, z3], fun e => a10 e⟩, F0.tr a6⟩
  · rw [run]
    have := a2 (4095 - cst + 1)
    rw [show 4095 - cst + 1 + cst = FU by show _ = 4096; omega] at this
    rw [this]
    show fX10_number__b45_s (fX10_number__b45 _) m1 _ _ _ = some m1
    unfold fX10_number__b45_s
    rw [if_pos (by decide)]
  · rw [(F0.tr a6).2.1 26 (by decide)]; exact h26
/-- what asking the reference for its tree leaves -/
def trF (m m' : Pk) : Prop := (∀ r, ¬ r = 10 → ¬ (18 ≤ r ∧ r ≤ 44) → m'.1 r = m.1 r) ∧ (∀ k, ¬ (11 ≤ k ∧ k ≤ 13) → ¬ (18 ≤ k ∧ k ≤ 37) → ¬ (45 ≤ k ∧ k ≤ 48) → m'.2.1 k = m.2.1 k) ∧ m'.2.2 = m.2.2
theorem trF.rf (m : Pk) : trF m m := ⟨fun _ _ _ => rfl, fun _ _ _ _ => rfl, rfl⟩
theorem trF.tr {a b c : Pk} (h : trF a b) (g : trF b c) : trF a c := ⟨fun r h1 h2 => (g.1 r h1 h2).trans (h.1 r h1 h2), fun k h1 h2 h3 => (g.2.1 k h1 h2 h3).trans (h.2.1 k h1 h2 h3), g.2.2.trans h.2.2⟩
theorem cbF.trf (h : cbF m m') : trF m m' := ⟨fun r h1 _ => h.1 r h1, fun k h1 _ _ => h.2.1 k (by omega) (by omega) (by omega), h.2.2⟩
theorem bF.trf (h : bF m m') : trF m m' := ⟨fun r _ h2 => h.1 r (by omega), fun k _ h2 _ => h.2.1 k h2, h.2.2⟩
theorem nbF.trf (h : nbF m m') : trF m m' := ⟨fun r _ h2 => h.1 r (by omega), fun k _ _ h3 => h.2.1 k h3, h.2.2⟩
theorem ReM.tr (Q : ReM m p) (h : trF m m') : ReM m' p := ⟨by rw [h.1 0 (by decide) (by decide)]; exact Q.1, by rw [h.2.1 1 (by decide) (by decide) (by decide)]; exact Q.2.1, by rw [h.2.1 2 (by decide) (by decide) (by decide)]; exact Q.2.2⟩
theorem ReB.keep (R : ReB m pb) (h10 : m'.1 10 = m.1 10) (h11 : m'.2.1 11 = m.2.1 11) (h12 : m'.2.1 12 = m.2.1 12) : ReB m' pb := ⟨by rw [h10]; exact R.1, by rw [h11]; exact R.2.1, by rw [h12]; exact R.2.2⟩
abbrev tT (p : Pln) : Tr := (p, pS p, pB p, rtL p true)
theorem M_tree (Q : ReM m p) (V : VP p) (Vb : VP pb) (R : ReB m pb) : ∃ m' nd pth, fX10_tree m = some m' ∧ MT (tT p) m' nd pth ∧ trF m m' ∧ ReB m' (if smP p pb then pb else p) ∧ m'.2.1 13 = (if smP p pb then m.2.1 13 else m.2.1 13 + 1) := by
  obtain ⟨m1, a1, a2, a3⟩ := M_countBuild Q V Vb R
  have Q1 := Q.tr a2.trf
  obtain ⟨m2, nd2, b1, b2', b3, b4, b5⟩ := M_fixed (S := pS p) (B := pB p) Q1 V V.2.1 V.2.2
  have G0 := rtL_GT (p := p) V V.2.1 V.2.2 false
  have G := rtL_GT (p := p) V V.2.1 V.2.2 true
  have tix := Fx_TI G0 b5
  have eR : rtL p false ++ rowL (rt p true) 12 = rtL p true := rfl
  obtain ⟨m3, nd3, pth3, rt3, c1, c2, c3⟩ := M_ins_loop (p := p) V 12 0 FU m2 (rtL p false) nd2 _ _ rfl (by decide) (Q1.bF b4) G0 (by rw [eR]; exact G) ⟨b2', tix, b3⟩
  rw [eR] at c2
  obtain ⟨m4, d1, d2, d3⟩ := M_number G c2
  have F : trF m1 m4 := (b4.trf.tr c3.trf).tr d3.trf
  have f10 : m4.1 10 = m1.1 10 := by rw [d3.1 10 (by decide), c3.1 10 (by decide), b4.1 10 (by decide)]
  have fk : ∀ k, 11 ≤ k → k ≤ 13 → m4.2.1 k = m1.2.1 k := fun k h1 h2 => by rw [d3.2.1 k (by omega), c3.2.1 k (by omega), b4.2.1 k (by omega)]
  refine ⟨m4, nd3, pth3, ?_, d2, a2.trf.tr F, ?_, ?_⟩
  · unfold fX10_tree
    rw [a1, qb1_s, Q1.2.1, Q1.2.2, b1, qb1_s]
    rw [show fX10_tree_b18 FU m2 0 = fX10_number_ m3 from c1, d1]
  · cases h : smP p pb with
    | true =>
      rw [h, if_pos rfl] at a3
      rw [if_pos rfl]
      rw [a3] at f10 fk
      exact R.keep f10 (fk 11 (by decide) (by decide)) (fk 12 (by decide) (by decide))
    | false =>
      rw [h, if_neg (by decide)] at a3
      rw [if_neg (by decide)]
      exact a3.1.keep f10 (fk 11 (by decide) (by decide)) (fk 12 (by decide) (by decide))
  · rw [fk 13 (by decide) (by decide)]
    cases h : smP p pb with
    | true =>
      rw [h, if_pos rfl] at a3
      rw [if_pos rfl, a3]
    | false =>
      rw [h, if_neg (by decide)] at a3
      rw [if_neg (by decide)]
      exact a3.2
theorem smn_self : ∀ k : Nat, smn p p k = true
  | 0 => rfl
  | k + 1 => by
    rw [smn_s, smn_self k]
    unfold smw
    simp
theorem smP_self : smP p p = true := by
  unfold smP
  rw [smn_self]
  simp
/-- the class's cache and the reference's row of the latest build -/
def TInv (t b TT L P m : Pk) (p pb : Pln) : Prop := ReW b pb ∧ VP pb ∧ PLx L 300 ∧ PLx P 144 ∧ (t.2.1 12 = 0 ∨ (t.2.1 12 = 1 ∧ smP p pb = true ∧ CTree (tT p) TT P)) ∧ t.2.1 11 = m.2.1 13 ∧ ReB m pb
def ttF (t t' : Pk) : Prop := t'.1 = t.1 ∧ (∀ k, ¬ k = 11 → ¬ k = 12 → t'.2.1 k = t.2.1 k) ∧ t'.2.2 = t.2.2
theorem qb5_s {α1 α2 α3 α4 α5 β : Type} (x1 : α1) (x2 : α2) (x3 : α3) (x4 : α4) (x5 : α5) (k : α1 → α2 → α3 → α4 → α5 → Option β) : qb5 (some (x1, x2, x3, x4, x5)) k = k x1 x2 x3 x4 x5 := rfl
/-- both sides get their trees -/
theorem S_needTree (RW : ReW w p) (Q : ReM m p) (V : VP p) (I : TInv t b TT L P m p pb) : ∃ t' b' TT' L' P' m' nd pth pb', fX9_needTree w t b TT L P = some (t', b', TT', L', P') ∧ fX10_tree m = some m' ∧ TInv t' b' TT' L' P' m' p pb' ∧ CTree (tT p) TT' P' ∧ MT (tT p) m' nd pth ∧ ReM m' p ∧ trF m m' ∧ ttF t t' := by
  obtain ⟨R, Vb, hL, hP, hc, h11, hB⟩ := I
  obtain ⟨m1, nd, pth, a1, a2, a3, a4, a5⟩ := M_tree Q V Vb hB
  unfold fX9_needTree
  -- the tree made anew
  have make : ∀ (t0 b0 : Pk), ReW b0 (if smP p pb then pb else p) → t0.2.1 11 = m1.2.1 13 → ttF t t0 → ∃ t' b' TT' L' P' m' nd pth pb', fX9_needTree_b43 w t0 b0 TT L P = some (t', b', TT', L', P') ∧ fX10_tree m = some m' ∧ TInv t' b' TT' L' P' m' p pb' ∧ CTree (tT p) TT' P' ∧ MT (tT p) m' nd pth ∧ ReM m' p ∧ trF m m' ∧ ttF t t' := by
    intro t0 b0 R0 e11 ft
    obtain ⟨T1, L1, P1, c1, c2, c3⟩ := C_make (t := TT) RW V V.2.1 V.2.2 true hL hP
    refine ⟨pkI t0 12 1, b0, T1, L1, P1, m1, nd, pth, if smP p pb then pb else p, ?_, a1, ⟨R0, ?_, c3, ⟨_, c2.2.2.2⟩, Or.inr ⟨rfl, ?_, c2⟩, ?_, a4⟩, c2, a2, Q.tr a3, a3, ⟨ft.1, fun k h1 h2 => by rw [pI, if_neg h2]; exact ft.2.1 k h1 h2, ft.2.2⟩⟩
    · unfold fX9_needTree_b43 fX8_splitWeight fX8_balanceWeight
      rw [qb1_s, qb1_s, RW.2.1, RW.2.2]
      rw [show fX6_make w TT L P (zI (pS p)) (zI (pB p)) 1 = some (T1, L1, P1) from c1, qb3_s, qn_s]
    · cases smP p pb <;> first | exact V | exact Vb
    · cases h : smP p pb with
      | true => exact h
      | false => exact smP_self
    · rw [pI, if_neg (by decide)]; exact e11
  rcases hc with h12 | ⟨h12, hs, hC⟩
  · rw [if_pos h12, C_same R RW Vb V, qb1_s]
    cases h : smP p pb with
    | true =>
      rw [ifT]
      rw [h, if_pos rfl] at make a5
      exact make t b R (h11.trans a5.symm) ⟨rfl, fun _ _ _ => rfl, rfl⟩
    | false =>
      rw [ifF]
      rw [h, if_neg (by decide)] at make a5
      obtain ⟨b1, e1, e2⟩ := C_copyFrom RW b
      rw [e1, qb1_s, qn_s]
      exact make _ b1 e2 (by rw [pI, if_pos rfl, h11]; exact a5.symm) ⟨rfl, fun k h1 _ => by rw [pI, if_neg h1], rfl⟩
  · rw [if_neg (by rw [h12]; decide)]
    rw [hs, if_pos rfl] at a4 a5
    exact ⟨t, b, TT, L, P, m1, nd, pth, pb, rfl, a1, ⟨R, Vb, hL, hP, Or.inr ⟨h12, hs, hC⟩, h11.trans a5.symm, a4⟩, hC, a2, Q.tr a3, a3, ⟨rfl, fun _ _ _ => rfl, rfl⟩⟩
end S
