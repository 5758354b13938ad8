/-! THE LAW'S LOOP: what stays true, one call of each method -/
section S
variable {p pb : Pln} {m m' t b TT L P : Pk} {hs : Nat → Pln} {nh : Nat}
theorem lq6 {a1 a2 a3 a4 a5 a6 β : Type} (x1 : a1) (x2 : a2) (x3 : a3) (x4 : a4) (x5 : a5) (x6 : a6) (k : a1 → a2 → a3 → a4 → a5 → a6 → Option β) : qb6 (some (x1, x2, x3, x4, x5, x6)) k = k x1 x2 x3 x4 x5 x6 := rfl
theorem lq7 {a1 a2 a3 a4 a5 a6 a7 β : Type} (x1 : a1) (x2 : a2) (x3 : a3) (x4 : a4) (x5 : a5) (x6 : a6) (x7 : a7) (k : a1 → a2 → a3 → a4 → a5 → a6 → a7 → Option β) : qb7 (some (x1, x2, x3, x4, x5, x6, x7)) k = k x1 x2 x3 x4 x5 x6 x7 := rfl
theorem lq8 {a1 a2 a3 a4 a5 a6 a7 a8 β : Type} (x1 : a1) (x2 : a2) (x3 : a3) (x4 : a4) (x5 : a5) (x6 : a6) (x7 : a7) (x8 : a8) (k : a1 → a2 → a3 → a4 → a5 → a6 → a7 → a8 → Option β) : qb8 (some (x1, x2, x3, x4, x5, x6, x7, x8)) k = k x1 x2 x3 x4 x5 x6 x7 x8 := rfl
theorem lq12 {a1 a2 a3 a4 a5 a6 a7 a8 a9 a10 a11 a12 β : Type} (x1 : a1) (x2 : a2) (x3 : a3) (x4 : a4) (x5 : a5) (x6 : a6) (x7 : a7) (x8 : a8) (x9 : a9) (x10 : a10) (x11 : a11) (x12 : a12) (k : a1 → a2 → a3 → a4 → a5 → a6 → a7 → a8 → a9 → a10 → a11 → a12 → Option β) : qb12 (some (x1, x2, x3, x4, x5, x6, x7, x8, x9, x10, x11, x12)) k = k x1 x2 x3 x4 x5 x6 x7 x8 x9 x10 x11 x12 := rfl
theorem lq14 {a1 a2 a3 a4 a5 a6 a7 a8 a9 a10 a11 a12 a13 a14 β : Type} (x1 : a1) (x2 : a2) (x3 : a3) (x4 : a4) (x5 : a5) (x6 : a6) (x7 : a7) (x8 : a8) (x9 : a9) (x10 : a10) (x11 : a11) (x12 : a12) (x13 : a13) (x14 : a14) (k : a1 → a2 → a3 → a4 → a5 → a6 → a7 → a8 → a9 → a10 → a11 → a12 → a13 → a14 → Option β) : qb14 (some (x1, x2, x3, x4, x5, x6, x7, x8, x9, x10, x11, x12, x13, x14)) k = k x1 x2 x3 x4 x5 x6 x7 x8 x9 x10 x11 x12 x13 x14 := rfl
def R65 (m : Pk) : Prop := ∀ j, j < 6 → m.1 65 j = zI ((3 ^ j : Nat) : Int)
def InvL (t w b l H k0 k1 k2 k3 k4 k5 k6 k7 x T Lo P M Q G m : Pk) : Prop := ∃ (p pb : Pln) (hs : Nat → Pln) (nh : Nat) (tx : Nat → Int) (nt : Nat), ReW w p ∧ ReM m p ∧ VP p ∧ Hi H k0 k1 k2 k3 k4 k5 k6 k7 m hs nh ∧ TX x m tx nt ∧ TF x m ∧ (l.2.1 7 = zI 5 ∧ l.2.1 8 = zI 1) ∧ TInv t b T Lo P m p pb ∧ PLx M 300 ∧ PLx Q 144 ∧ PLx G 55 ∧ R65 m
theorem Hi.qf {H k0 k1 k2 k3 k4 k5 k6 k7 : Pk} (h : Hi H k0 k1 k2 k3 k4 k5 k6 k7 m hs nh) (e3 : m'.1 3 = m.1 3) (e4 : m'.2.1 4 = m.2.1 4) : Hi H k0 k1 k2 k3 k4 k5 k6 k7 m' hs nh := ⟨h.1, h.2.1.of e3 e4, h.2.2⟩
theorem TX.qf {x : Pk} {tx : Nat → Int} {n : Nat} (h : TX x m tx n) (e5 : m'.1 5 = m.1 5) (e6 : m'.2.1 6 = m.2.1 6) : TX x m' tx n := ⟨h.1, h.2.1, e6.trans h.2.2.1, fun j hj => by rw [e5]; exact h.2.2.2 j hj⟩
theorem TF.qf {x : Pk} (h : TF x m) (e7 : m'.2.1 7 = m.2.1 7) (e8 : m'.2.1 8 = m.2.1 8) (e9 : m'.2.1 9 = m.2.1 9) : TF x m' := ⟨h.1.trans e7.symm, h.2.1.trans e8.symm, h.2.2.trans e9.symm⟩
theorem R65.qf (h : R65 m) (e : m'.1 65 = m.1 65) : R65 m' := fun j hj => by rw [e]; exact h j hj
theorem TInv.ed {t' : Pk} {p' : Pln} (I : TInv t b TT L P m p pb) (alt : (t' = t ∧ p' = p) ∨ t' = pkI t 12 0) (e10 : m'.1 10 = m.1 10) (e : ∀ k, 11 ≤ k → k ≤ 13 → m'.2.1 k = m.2.1 k) : TInv t' b TT L P m' p' pb := by
  rcases alt with ⟨rfl, rfl⟩ | rfl
  · exact I.keep e10 e
  · have K := I.keep e10 e
    exact ⟨K.1, K.2.1, K.2.2.1, K.2.2.2.1, Or.inl rfl, K.2.2.2.2.2.1, K.2.2.2.2.2.2⟩
theorem lrd {β : Type} {N : Nat} {xs : Nat → Int32} {a c : Nat} {k : Int32 → Option β} {z : Int32} (hz : z = zI (c : Int)) (h : a + c < N) (hN : N ≤ 3584) : qld N xs (zI (a : Int) + z) k = k (xs (a + c)) := by
  rw [hz, zI_add]
  exact qld_at (i := a + c) h (by omega)
theorem dbl_go {v : UInt64} {s u : Option Int32} (h : s = u) : (if (Op.cmpValue (FP.dcmp v v) .l) = 0 then s else (if (Op.cmpValue (FP.dcmp v v) .l) = 0 then (some 0) else (if (Op.cmpValue (FP.dcmp v v) .l) = 0 then (some 0) else s))) = u := by
  by_cases c : Op.cmpValue (FP.dcmp v v) .l = 0
  · rw [if_pos c]; exact h
  · rw [if_neg c, if_neg c, if_neg c]; exact h
end S
section S
variable {N a : Nat} {xs : Nat → Int32} {t w b l H k0 k1 k2 k3 k4 k5 k6 k7 x T Lo P C M Q d F G r n m : Pk}
variable {rec18 : Pk → Pk → Pk → Pk → Pk → Pk → Pk → Pk → Pk → Pk → Pk → Pk → Pk → Pk → Pk → Pk → Pk → Pk → Pk → Pk → Pk → Pk → Pk → Pk → Pk → Pk → Int32 → Option Int32}
def GoL (N : Nat) (xs : Nat → Int32) (rec18 : Pk → Pk → Pk → Pk → Pk → Pk → Pk → Pk → Pk → Pk → Pk → Pk → Pk → Pk → Pk → Pk → Pk → Pk → Pk → Pk → Pk → Pk → Pk → Pk → Pk → Pk → Int32 → Option Int32) (y3 : Int32) : Prop := ∀ t w b l H k0 k1 k2 k3 k4 k5 k6 k7 x T Lo P C M Q d F G r n m : Pk, InvL t w b l H k0 k1 k2 k3 k4 k5 k6 k7 x T Lo P M Q G m → fL_b1795 N xs rec18 t w b l H k0 k1 k2 k3 k4 k5 k6 k7 x T Lo P C M Q d F G r n m y3 = some 1
theorem l_b240 (hN : N ≤ 3584) (ha : a + 7 ≤ N) (g : GoL N xs rec18 (zI (a : Int))) (I : InvL t w b l H k0 k1 k2 k3 k4 k5 k6 k7 x T Lo P M Q G m) : fL_b240 N xs rec18 t w b l H k0 k1 k2 k3 k4 k5 k6 k7 x T Lo P C M Q d F G r n m (zI (a : Int)) = some 1 := by
  obtain ⟨p, pb, hs, nh, tx, nt, RW, RM, V, Hh, X, Ft, hl, I, hM, hQ, hG, R65m⟩ := I
  obtain ⟨v, t2, w2, H2, j0, j1, j2, j3, j4, j5, j6, j7, m2, p2, hs2, n2, e1, e2, a1, a2, a3, a4, fr, alt⟩ := S_addWall (t := t) RW RM V Hh (xs (a + 1)) (xs (a + 2)) (xs (a + 3)) (xs (a + 4)) (xs (a + 5)) (xs (a + 6))
  unfold fL_b240
  rw [lrd (c := 1) (z := 1) rfl (by omega) hN, lrd (c := 2) (z := 2) rfl (by omega) hN, lrd (c := 3) (z := 3) rfl (by omega) hN, lrd (c := 4) (z := 4) rfl (by omega) hN, lrd (c := 5) (z := 5) rfl (by omega) hN, lrd (c := 6) (z := 6) rfl (by omega) hN, e1, lq12, lrd (c := 1) (z := 1) rfl (by omega) hN, lrd (c := 2) (z := 2) rfl (by omega) hN, lrd (c := 3) (z := 3) rfl (by omega) hN, lrd (c := 4) (z := 4) rfl (by omega) hN, lrd (c := 5) (z := 5) rfl (by omega) hN, lrd (c := 6) (z := 6) rfl (by omega) hN, e2, qb2_s, if_pos rfl]
  exact g _ _ _ _ _ _ _ _ _ _ _ _ _ _ _ _ _ _ _ _ _ _ _ _ _ _ ⟨p2, pb, hs2, n2, tx, nt, a1, a2, a3, a4, X.qf (fr.1 5 (by decide) (by decide)) (fr.2.1 6 (by decide) (by decide) (by decide)), Ft.qf (fr.2.1 7 (by decide) (by decide) (by decide)) (fr.2.1 8 (by decide) (by decide) (by decide)) (fr.2.1 9 (by decide) (by decide) (by decide)), hl, I.ed alt (fr.1 10 (by decide) (by decide)) (fun k h1 h2 => fr.2.1 k (by omega) (by omega) (by omega)), hM, hQ, hG, R65m.qf (fr.1 65 (by decide) (by decide))⟩
theorem l_b315 (hN : N ≤ 3584) (ha : a + 7 ≤ N) (g : GoL N xs rec18 (zI (a : Int))) (I : InvL t w b l H k0 k1 k2 k3 k4 k5 k6 k7 x T Lo P M Q G m) : fL_b315 N xs rec18 t w b l H k0 k1 k2 k3 k4 k5 k6 k7 x T Lo P C M Q d F G r n m (zI (a : Int)) = some 1 := by
  obtain ⟨p, pb, hs, nh, tx, nt, RW, RM, V, Hh, X, Ft, hl, I, hM, hQ, hG, R65m⟩ := I
  obtain ⟨v, t2, w2, H2, j0, j1, j2, j3, j4, j5, j6, j7, m2, p2, hs2, n2, e1, e2, a1, a2, a3, a4, fr, alt⟩ := S_removeWall (t := t) RW RM V Hh (xs (a + 1))
  unfold fL_b315
  rw [lrd (c := 1) (z := 1) rfl (by omega) hN, e1, lq12, lrd (c := 1) (z := 1) rfl (by omega) hN, e2, qb2_s, if_pos rfl]
  exact g _ _ _ _ _ _ _ _ _ _ _ _ _ _ _ _ _ _ _ _ _ _ _ _ _ _ ⟨p2, pb, hs2, n2, tx, nt, a1, a2, a3, a4, X.qf (fr.1 5 (by decide) (by decide)) (fr.2.1 6 (by decide) (by decide) (by decide)), Ft.qf (fr.2.1 7 (by decide) (by decide) (by decide)) (fr.2.1 8 (by decide) (by decide) (by decide)) (fr.2.1 9 (by decide) (by decide) (by decide)), hl, I.ed alt (fr.1 10 (by decide) (by decide)) (fun k h1 h2 => fr.2.1 k (by omega) (by omega) (by omega)), hM, hQ, hG, R65m.qf (fr.1 65 (by decide) (by decide))⟩
theorem l_b338 (hN : N ≤ 3584) (ha : a + 7 ≤ N) (g : GoL N xs rec18 (zI (a : Int))) (I : InvL t w b l H k0 k1 k2 k3 k4 k5 k6 k7 x T Lo P M Q G m) : fL_b338 N xs rec18 t w b l H k0 k1 k2 k3 k4 k5 k6 k7 x T Lo P C M Q d F G r n m (zI (a : Int)) = some 1 := by
  obtain ⟨p, pb, hs, nh, tx, nt, RW, RM, V, Hh, X, Ft, hl, I, hM, hQ, hG, R65m⟩ := I
  obtain ⟨v, t2, w2, H2, j0, j1, j2, j3, j4, j5, j6, j7, m2, p2, hs2, n2, e1, e2, a1, a2, a3, a4, fr, alt⟩ := S_moveWall (t := t) RW RM V Hh (xs (a + 1)) (xs (a + 2)) (xs (a + 3))
  unfold fL_b338
  rw [lrd (c := 1) (z := 1) rfl (by omega) hN, lrd (c := 2) (z := 2) rfl (by omega) hN, lrd (c := 3) (z := 3) rfl (by omega) hN, e1, lq12, lrd (c := 1) (z := 1) rfl (by omega) hN, lrd (c := 2) (z := 2) rfl (by omega) hN, lrd (c := 3) (z := 3) rfl (by omega) hN, e2, qb2_s, if_pos rfl]
  exact g _ _ _ _ _ _ _ _ _ _ _ _ _ _ _ _ _ _ _ _ _ _ _ _ _ _ ⟨p2, pb, hs2, n2, tx, nt, a1, a2, a3, a4, X.qf (fr.1 5 (by decide) (by decide)) (fr.2.1 6 (by decide) (by decide) (by decide)), Ft.qf (fr.2.1 7 (by decide) (by decide) (by decide)) (fr.2.1 8 (by decide) (by decide) (by decide)) (fr.2.1 9 (by decide) (by decide) (by decide)), hl, I.ed alt (fr.1 10 (by decide) (by decide)) (fun k h1 h2 => fr.2.1 k (by omega) (by omega) (by omega)), hM, hQ, hG, R65m.qf (fr.1 65 (by decide) (by decide))⟩
theorem l_b381 (hN : N ≤ 3584) (ha : a + 7 ≤ N) (g : GoL N xs rec18 (zI (a : Int))) (I : InvL t w b l H k0 k1 k2 k3 k4 k5 k6 k7 x T Lo P M Q G m) : fL_b381 N xs rec18 t w b l H k0 k1 k2 k3 k4 k5 k6 k7 x T Lo P C M Q d F G r n m (zI (a : Int)) = some 1 := by
  obtain ⟨p, pb, hs, nh, tx, nt, RW, RM, V, Hh, X, Ft, hl, I, hM, hQ, hG, R65m⟩ := I
  obtain ⟨v, t2, w2, H2, j0, j1, j2, j3, j4, j5, j6, j7, m2, p2, hs2, n2, e1, e2, a1, a2, a3, a4, fr, alt⟩ := S_turnWall (t := t) RW RM V Hh (xs (a + 1))
  unfold fL_b381
  rw [lrd (c := 1) (z := 1) rfl (by omega) hN, e1, lq12, lrd (c := 1) (z := 1) rfl (by omega) hN, e2, qb2_s, if_pos rfl]
  exact g _ _ _ _ _ _ _ _ _ _ _ _ _ _ _ _ _ _ _ _ _ _ _ _ _ _ ⟨p2, pb, hs2, n2, tx, nt, a1, a2, a3, a4, X.qf (fr.1 5 (by decide) (by decide)) (fr.2.1 6 (by decide) (by decide) (by decide)), Ft.qf (fr.2.1 7 (by decide) (by decide) (by decide)) (fr.2.1 8 (by decide) (by decide) (by decide)) (fr.2.1 9 (by decide) (by decide) (by decide)), hl, I.ed alt (fr.1 10 (by decide) (by decide)) (fun k h1 h2 => fr.2.1 k (by omega) (by omega) (by omega)), hM, hQ, hG, R65m.qf (fr.1 65 (by decide) (by decide))⟩
theorem l_b404 (hN : N ≤ 3584) (ha : a + 7 ≤ N) (g : GoL N xs rec18 (zI (a : Int))) (I : InvL t w b l H k0 k1 k2 k3 k4 k5 k6 k7 x T Lo P M Q G m) : fL_b404 N xs rec18 t w b l H k0 k1 k2 k3 k4 k5 k6 k7 x T Lo P C M Q d F G r n m (zI (a : Int)) = some 1 := by
  obtain ⟨p, pb, hs, nh, tx, nt, RW, RM, V, Hh, X, Ft, hl, I, hM, hQ, hG, R65m⟩ := I
  obtain ⟨v, t2, w2, H2, j0, j1, j2, j3, j4, j5, j6, j7, m2, p2, hs2, n2, e1, e2, a1, a2, a3, a4, fr, alt⟩ := S_setKind (t := t) RW RM V Hh (xs (a + 1)) (xs (a + 2))
  unfold fL_b404
  rw [lrd (c := 1) (z := 1) rfl (by omega) hN, lrd (c := 2) (z := 2) rfl (by omega) hN, e1, lq12, lrd (c := 1) (z := 1) rfl (by omega) hN, lrd (c := 2) (z := 2) rfl (by omega) hN, e2, qb2_s, if_pos rfl]
  exact g _ _ _ _ _ _ _ _ _ _ _ _ _ _ _ _ _ _ _ _ _ _ _ _ _ _ ⟨p2, pb, hs2, n2, tx, nt, a1, a2, a3, a4, X.qf (fr.1 5 (by decide) (by decide)) (fr.2.1 6 (by decide) (by decide) (by decide)), Ft.qf (fr.2.1 7 (by decide) (by decide) (by decide)) (fr.2.1 8 (by decide) (by decide) (by decide)) (fr.2.1 9 (by decide) (by decide) (by decide)), hl, I.ed alt (fr.1 10 (by decide) (by decide)) (fun k h1 h2 => fr.2.1 k (by omega) (by omega) (by omega)), hM, hQ, hG, R65m.qf (fr.1 65 (by decide) (by decide))⟩
theorem l_b437 (hN : N ≤ 3584) (ha : a + 7 ≤ N) (g : GoL N xs rec18 (zI (a : Int))) (I : InvL t w b l H k0 k1 k2 k3 k4 k5 k6 k7 x T Lo P M Q G m) : fL_b437 N xs rec18 t w b l H k0 k1 k2 k3 k4 k5 k6 k7 x T Lo P C M Q d F G r n m (zI (a : Int)) = some 1 := by
  obtain ⟨p, pb, hs, nh, tx, nt, RW, RM, V, Hh, X, Ft, hl, I, hM, hQ, hG, R65m⟩ := I
  obtain ⟨v, t2, w2, H2, j0, j1, j2, j3, j4, j5, j6, j7, m2, p2, hs2, n2, e1, e2, a1, a2, a3, a4, fr, alt⟩ := S_setWeights (t := t) RW RM V Hh (xs (a + 1)) (xs (a + 2))
  unfold fL_b437
  rw [lrd (c := 1) (z := 1) rfl (by omega) hN, lrd (c := 2) (z := 2) rfl (by omega) hN, e1, lq12, lrd (c := 1) (z := 1) rfl (by omega) hN, lrd (c := 2) (z := 2) rfl (by omega) hN, e2, qb2_s, if_pos rfl]
  exact g _ _ _ _ _ _ _ _ _ _ _ _ _ _ _ _ _ _ _ _ _ _ _ _ _ _ ⟨p2, pb, hs2, n2, tx, nt, a1, a2, a3, a4, X.qf (fr.1 5 (by decide) (by decide)) (fr.2.1 6 (by decide) (by decide) (by decide)), Ft.qf (fr.2.1 7 (by decide) (by decide) (by decide)) (fr.2.1 8 (by decide) (by decide) (by decide)) (fr.2.1 9 (by decide) (by decide) (by decide)), hl, I.ed alt (fr.1 10 (by decide) (by decide)) (fun k h1 h2 => fr.2.1 k (by omega) (by omega) (by omega)), hM, hQ, hG, R65m.qf (fr.1 65 (by decide) (by decide))⟩
theorem l_b470 (hN : N ≤ 3584) (ha : a + 7 ≤ N) (g : GoL N xs rec18 (zI (a : Int))) (I : InvL t w b l H k0 k1 k2 k3 k4 k5 k6 k7 x T Lo P M Q G m) : fL_b470 N xs rec18 t w b l H k0 k1 k2 k3 k4 k5 k6 k7 x T Lo P C M Q d F G r n m (zI (a : Int)) = some 1 := by
  obtain ⟨p, pb, hs, nh, tx, nt, RW, RM, V, Hh, X, Ft, hl, I, hM, hQ, hG, R65m⟩ := I
  obtain ⟨v, t2, w2, H2, m2, p2, hs2, n2, e1, e2, a1, a2, a3, a4, fr, alt⟩ := S_undo (t := t) RW RM V Hh
  unfold fL_b470
  rw [e1, qb4_s, e2, qb2_s, if_pos rfl]
  exact g _ _ _ _ _ _ _ _ _ _ _ _ _ _ _ _ _ _ _ _ _ _ _ _ _ _ ⟨p2, pb, hs2, n2, tx, nt, a1, a2, a3, a4, X.qf (fr.1 5 (by decide) (by decide)) (fr.2.1 6 (by decide) (by decide) (by decide)), Ft.qf (fr.2.1 7 (by decide) (by decide) (by decide)) (fr.2.1 8 (by decide) (by decide) (by decide)) (fr.2.1 9 (by decide) (by decide) (by decide)), hl, I.ed alt (fr.1 10 (by decide) (by decide)) (fun k h1 h2 => fr.2.1 k (by omega) (by omega) (by omega)), hM, hQ, hG, R65m.qf (fr.1 65 (by decide) (by decide))⟩
theorem l_b483 (hN : N ≤ 3584) (ha : a + 7 ≤ N) (g : GoL N xs rec18 (zI (a : Int))) (I : InvL t w b l H k0 k1 k2 k3 k4 k5 k6 k7 x T Lo P M Q G m) : fL_b483 N xs rec18 t w b l H k0 k1 k2 k3 k4 k5 k6 k7 x T Lo P C M Q d F G r n m (zI (a : Int)) = some 1 := by
  obtain ⟨p, pb, hs, nh, tx, nt, RW, RM, V, Hh, X, Ft, hl, I, hM, hQ, hG, R65m⟩ := I
  obtain ⟨v, e1, e2⟩ := S_wallCount (t := t) RW RM
  unfold fL_b483
  rw [e1, qb1_s, e2, qb1_s, if_pos rfl]
  exact g _ _ _ _ _ _ _ _ _ _ _ _ _ _ _ _ _ _ _ _ _ _ _ _ _ _ ⟨p, pb, hs, nh, tx, nt, RW, RM, V, Hh, X, Ft, hl, I, hM, hQ, hG, R65m⟩
theorem l_b496 (hN : N ≤ 3584) (ha : a + 7 ≤ N) (g : GoL N xs rec18 (zI (a : Int))) (I : InvL t w b l H k0 k1 k2 k3 k4 k5 k6 k7 x T Lo P M Q G m) : fL_b496 N xs rec18 t w b l H k0 k1 k2 k3 k4 k5 k6 k7 x T Lo P C M Q d F G r n m (zI (a : Int)) = some 1 := by
  obtain ⟨p, pb, hs, nh, tx, nt, RW, RM, V, Hh, X, Ft, hl, I, hM, hQ, hG, R65m⟩ := I
  obtain ⟨v, e1, e2⟩ := S_coordinate (t := t) RW RM (xs (a + 1)) (xs (a + 2))
  unfold fL_b496
  rw [lrd (c := 1) (z := 1) rfl (by omega) hN, lrd (c := 2) (z := 2) rfl (by omega) hN, e1, qb1_s, lrd (c := 1) (z := 1) rfl (by omega) hN, lrd (c := 2) (z := 2) rfl (by omega) hN, e2, qb1_s, if_pos rfl]
  exact g _ _ _ _ _ _ _ _ _ _ _ _ _ _ _ _ _ _ _ _ _ _ _ _ _ _ ⟨p, pb, hs, nh, tx, nt, RW, RM, V, Hh, X, Ft, hl, I, hM, hQ, hG, R65m⟩
theorem l_b529 (hN : N ≤ 3584) (ha : a + 7 ≤ N) (g : GoL N xs rec18 (zI (a : Int))) (I : InvL t w b l H k0 k1 k2 k3 k4 k5 k6 k7 x T Lo P M Q G m) : fL_b529 N xs rec18 t w b l H k0 k1 k2 k3 k4 k5 k6 k7 x T Lo P C M Q d F G r n m (zI (a : Int)) = some 1 := by
  obtain ⟨p, pb, hs, nh, tx, nt, RW, RM, V, Hh, X, Ft, hl, I, hM, hQ, hG, R65m⟩ := I
  obtain ⟨v, e1, e2⟩ := S_kind (t := t) RW RM (xs (a + 1))
  unfold fL_b529
  rw [lrd (c := 1) (z := 1) rfl (by omega) hN, e1, qb1_s, lrd (c := 1) (z := 1) rfl (by omega) hN, e2, qb1_s, if_pos rfl]
  exact g _ _ _ _ _ _ _ _ _ _ _ _ _ _ _ _ _ _ _ _ _ _ _ _ _ _ ⟨p, pb, hs, nh, tx, nt, RW, RM, V, Hh, X, Ft, hl, I, hM, hQ, hG, R65m⟩
theorem l_b552 (hN : N ≤ 3584) (ha : a + 7 ≤ N) (g : GoL N xs rec18 (zI (a : Int))) (I : InvL t w b l H k0 k1 k2 k3 k4 k5 k6 k7 x T Lo P M Q G m) : fL_b552 N xs rec18 t w b l H k0 k1 k2 k3 k4 k5 k6 k7 x T Lo P C M Q d F G r n m (zI (a : Int)) = some 1 := by
  obtain ⟨p, pb, hs, nh, tx, nt, RW, RM, V, Hh, X, Ft, hl, I, hM, hQ, hG, R65m⟩ := I
  obtain ⟨v, e1, e2⟩ := S_weights (t := t) RW RM
  unfold fL_b552
  rw [e1, qb1_s, e2, qb1_s, if_pos rfl]
  exact g _ _ _ _ _ _ _ _ _ _ _ _ _ _ _ _ _ _ _ _ _ _ _ _ _ _ ⟨p, pb, hs, nh, tx, nt, RW, RM, V, Hh, X, Ft, hl, I, hM, hQ, hG, R65m⟩
theorem l_b565 (hN : N ≤ 3584) (ha : a + 7 ≤ N) (g : GoL N xs rec18 (zI (a : Int))) (I : InvL t w b l H k0 k1 k2 k3 k4 k5 k6 k7 x T Lo P M Q G m) : fL_b565 N xs rec18 t w b l H k0 k1 k2 k3 k4 k5 k6 k7 x T Lo P C M Q d F G r n m (zI (a : Int)) = some 1 := by
  obtain ⟨p, pb, hs, nh, tx, nt, RW, RM, V, Hh, X, Ft, hl, I, hM, hQ, hG, R65m⟩ := I
  obtain ⟨v, x2, m2, tx2, n2, e1, e2, X2, xf, fr⟩ := S_appendText (t := t) X (xs (a + 1))
  unfold fL_b565
  rw [lrd (c := 1) (z := 1) rfl (by omega) hN, e1, qb2_s, lrd (c := 1) (z := 1) rfl (by omega) hN, e2, qb2_s, if_pos rfl]
  exact g _ _ _ _ _ _ _ _ _ _ _ _ _ _ _ _ _ _ _ _ _ _ _ _ _ _ ⟨p, pb, hs, nh, tx2, n2, RW, ⟨by rw [fr.1 0 (by decide)]; exact RM.1, by rw [fr.2.1 1 (by decide)]; exact RM.2.1, by rw [fr.2.1 2 (by decide)]; exact RM.2.2⟩, V, Hh.qf (fr.1 3 (by decide)) (fr.2.1 4 (by decide)), X2, ⟨by rw [xf.2.1 4 (by decide), fr.2.1 7 (by decide)]; exact Ft.1, by rw [xf.2.1 5 (by decide), fr.2.1 8 (by decide)]; exact Ft.2.1, by rw [xf.2.1 6 (by decide), fr.2.1 9 (by decide)]; exact Ft.2.2⟩, hl, I.keep (fr.1 10 (by decide)) (fun k h1 h2 => fr.2.1 k (by omega)), hM, hQ, hG, R65m.qf (fr.1 65 (by decide))⟩
theorem l_b588 (hN : N ≤ 3584) (ha : a + 7 ≤ N) (g : GoL N xs rec18 (zI (a : Int))) (I : InvL t w b l H k0 k1 k2 k3 k4 k5 k6 k7 x T Lo P M Q G m) : fL_b588 N xs rec18 t w b l H k0 k1 k2 k3 k4 k5 k6 k7 x T Lo P C M Q d F G r n m (zI (a : Int)) = some 1 := by
  obtain ⟨p, pb, hs, nh, tx, nt, RW, RM, V, Hh, X, Ft, hl, I, hM, hQ, hG, R65m⟩ := I
  obtain ⟨v, x2, m2, tx2, n2, e1, e2, X2, xf, fr⟩ := S_clearText (t := t) X 
  unfold fL_b588
  rw [e1, qb2_s, e2, qb2_s, if_pos rfl]
  exact g _ _ _ _ _ _ _ _ _ _ _ _ _ _ _ _ _ _ _ _ _ _ _ _ _ _ ⟨p, pb, hs, nh, tx2, n2, RW, ⟨by rw [fr.1 0 (by decide)]; exact RM.1, by rw [fr.2.1 1 (by decide)]; exact RM.2.1, by rw [fr.2.1 2 (by decide)]; exact RM.2.2⟩, V, Hh.qf (fr.1 3 (by decide)) (fr.2.1 4 (by decide)), X2, ⟨by rw [xf.2.1 4 (by decide), fr.2.1 7 (by decide)]; exact Ft.1, by rw [xf.2.1 5 (by decide), fr.2.1 8 (by decide)]; exact Ft.2.1, by rw [xf.2.1 6 (by decide), fr.2.1 9 (by decide)]; exact Ft.2.2⟩, hl, I.keep (fr.1 10 (by decide)) (fun k h1 h2 => fr.2.1 k (by omega)), hM, hQ, hG, R65m.qf (fr.1 65 (by decide))⟩
theorem l_b601 (hN : N ≤ 3584) (ha : a + 7 ≤ N) (g : GoL N xs rec18 (zI (a : Int))) (I : InvL t w b l H k0 k1 k2 k3 k4 k5 k6 k7 x T Lo P M Q G m) : fL_b601 N xs rec18 t w b l H k0 k1 k2 k3 k4 k5 k6 k7 x T Lo P C M Q d F G r n m (zI (a : Int)) = some 1 := by
  obtain ⟨p, pb, hs, nh, tx, nt, RW, RM, V, Hh, X, Ft, hl, I, hM, hQ, hG, R65m⟩ := I
  obtain ⟨v, t2, w2, l2, H2, j0, j1, j2, j3, j4, j5, j6, j7, x2, m2, p2, hs2, n2, e1, e2, a1, a2, a3, a4, a5, a6, a7, fr, alt⟩ := S_load (t := t) RW RM V Hh X Ft hl
  unfold fL_b601
  rw [e1, lq14, e2, qb2_s, if_pos rfl]
  exact g _ _ _ _ _ _ _ _ _ _ _ _ _ _ _ _ _ _ _ _ _ _ _ _ _ _ ⟨p2, pb, hs2, n2, tx, nt, a1, a2, a3, a4, a5, a6, a7, I.ed alt (fr.1 10 (by decide) (by decide) (by decide)) (fun k h1 h2 => fr.2.1 k (by omega) (by omega) (by omega) (by omega) (by omega) (by omega) (by omega) (by omega) (by omega)), hM, hQ, hG, R65m.qf (fr.1 65 (by decide) (by decide) (by decide))⟩
theorem l_b614 (hN : N ≤ 3584) (ha : a + 7 ≤ N) (g : GoL N xs rec18 (zI (a : Int))) (I : InvL t w b l H k0 k1 k2 k3 k4 k5 k6 k7 x T Lo P M Q G m) : fL_b614 N xs rec18 t w b l H k0 k1 k2 k3 k4 k5 k6 k7 x T Lo P C M Q d F G r n m (zI (a : Int)) = some 1 := by
  obtain ⟨p, pb, hs, nh, tx, nt, RW, RM, V, Hh, X, Ft, hl, I, hM, hQ, hG, R65m⟩ := I
  obtain ⟨v, e1, e2⟩ := S_faultPlace (t := t) Ft
  unfold fL_b614
  rw [e1, qb1_s, e2, qb1_s, if_pos rfl]
  exact g _ _ _ _ _ _ _ _ _ _ _ _ _ _ _ _ _ _ _ _ _ _ _ _ _ _ ⟨p, pb, hs, nh, tx, nt, RW, RM, V, Hh, X, Ft, hl, I, hM, hQ, hG, R65m⟩
theorem l_b627 (hN : N ≤ 3584) (ha : a + 7 ≤ N) (g : GoL N xs rec18 (zI (a : Int))) (I : InvL t w b l H k0 k1 k2 k3 k4 k5 k6 k7 x T Lo P M Q G m) : fL_b627 N xs rec18 t w b l H k0 k1 k2 k3 k4 k5 k6 k7 x T Lo P C M Q d F G r n m (zI (a : Int)) = some 1 := by
  obtain ⟨p, pb, hs, nh, tx, nt, RW, RM, V, Hh, X, Ft, hl, I, hM, hQ, hG, R65m⟩ := I
  obtain ⟨v, e1, e2⟩ := S_faultKind (t := t) Ft
  unfold fL_b627
  rw [e1, qb1_s, e2, qb1_s, if_pos rfl]
  exact g _ _ _ _ _ _ _ _ _ _ _ _ _ _ _ _ _ _ _ _ _ _ _ _ _ _ ⟨p, pb, hs, nh, tx, nt, RW, RM, V, Hh, X, Ft, hl, I, hM, hQ, hG, R65m⟩
theorem l_b640 (hN : N ≤ 3584) (ha : a + 7 ≤ N) (g : GoL N xs rec18 (zI (a : Int))) (I : InvL t w b l H k0 k1 k2 k3 k4 k5 k6 k7 x T Lo P M Q G m) : fL_b640 N xs rec18 t w b l H k0 k1 k2 k3 k4 k5 k6 k7 x T Lo P C M Q d F G r n m (zI (a : Int)) = some 1 := by
  obtain ⟨p, pb, hs, nh, tx, nt, RW, RM, V, Hh, X, Ft, hl, I, hM, hQ, hG, R65m⟩ := I
  obtain ⟨v, e1, e2⟩ := S_faultItem (t := t) Ft
  unfold fL_b640
  rw [e1, qb1_s, e2, qb1_s, if_pos rfl]
  exact g _ _ _ _ _ _ _ _ _ _ _ _ _ _ _ _ _ _ _ _ _ _ _ _ _ _ ⟨p, pb, hs, nh, tx, nt, RW, RM, V, Hh, X, Ft, hl, I, hM, hQ, hG, R65m⟩
theorem l_b653 (hN : N ≤ 3584) (ha : a + 7 ≤ N) (g : GoL N xs rec18 (zI (a : Int))) (I : InvL t w b l H k0 k1 k2 k3 k4 k5 k6 k7 x T Lo P M Q G m) : fL_b653 N xs rec18 t w b l H k0 k1 k2 k3 k4 k5 k6 k7 x T Lo P C M Q d F G r n m (zI (a : Int)) = some 1 := by
  obtain ⟨p, pb, hs, nh, tx, nt, RW, RM, V, Hh, X, Ft, hl, I, hM, hQ, hG, R65m⟩ := I
  obtain ⟨v, t2, b2, T2, L2, P2, m2, pb2, e1, e2, I2, RM2, fr0, tf⟩ := S_nodeCount RW RM V I 
  have fr := fr0.qf
  unfold fL_b653
  rw [e1, lq6, e2, qb2_s, if_pos rfl]
  exact g _ _ _ _ _ _ _ _ _ _ _ _ _ _ _ _ _ _ _ _ _ _ _ _ _ _ ⟨p, _, hs, nh, tx, nt, RW, RM2, V, Hh.qf (fr.1 3 (by decide)) (fr.2 4 (by decide)), X.qf (fr.1 5 (by decide)) (fr.2 6 (by decide)), Ft.qf (fr.2 7 (by decide)) (fr.2 8 (by decide)) (fr.2 9 (by decide)), hl, I2, hM, hQ, hG, R65m.qf (fr.1 65 (by decide))⟩
theorem l_b666 (hN : N ≤ 3584) (ha : a + 7 ≤ N) (g : GoL N xs rec18 (zI (a : Int))) (I : InvL t w b l H k0 k1 k2 k3 k4 k5 k6 k7 x T Lo P M Q G m) : fL_b666 N xs rec18 t w b l H k0 k1 k2 k3 k4 k5 k6 k7 x T Lo P C M Q d F G r n m (zI (a : Int)) = some 1 := by
  obtain ⟨p, pb, hs, nh, tx, nt, RW, RM, V, Hh, X, Ft, hl, I, hM, hQ, hG, R65m⟩ := I
  obtain ⟨v, t2, b2, T2, L2, P2, m2, pb2, e1, e2, I2, RM2, fr0, tf⟩ := S_nodeWall RW RM V I (xs (a + 1))
  have fr := fr0.qf
  unfold fL_b666
  rw [lrd (c := 1) (z := 1) rfl (by omega) hN, e1, lq6, lrd (c := 1) (z := 1) rfl (by omega) hN, e2, qb2_s, if_pos rfl]
  exact g _ _ _ _ _ _ _ _ _ _ _ _ _ _ _ _ _ _ _ _ _ _ _ _ _ _ ⟨p, _, hs, nh, tx, nt, RW, RM2, V, Hh.qf (fr.1 3 (by decide)) (fr.2 4 (by decide)), X.qf (fr.1 5 (by decide)) (fr.2 6 (by decide)), Ft.qf (fr.2 7 (by decide)) (fr.2 8 (by decide)) (fr.2 9 (by decide)), hl, I2, hM, hQ, hG, R65m.qf (fr.1 65 (by decide))⟩
theorem l_b689 (hN : N ≤ 3584) (ha : a + 7 ≤ N) (g : GoL N xs rec18 (zI (a : Int))) (I : InvL t w b l H k0 k1 k2 k3 k4 k5 k6 k7 x T Lo P M Q G m) : fL_b689 N xs rec18 t w b l H k0 k1 k2 k3 k4 k5 k6 k7 x T Lo P C M Q d F G r n m (zI (a : Int)) = some 1 := by
  obtain ⟨p, pb, hs, nh, tx, nt, RW, RM, V, Hh, X, Ft, hl, I, hM, hQ, hG, R65m⟩ := I
  obtain ⟨v, t2, b2, T2, L2, P2, m2, pb2, e1, e2, I2, RM2, fr0, tf⟩ := S_nodeChild RW RM V I (xs (a + 1)) (xs (a + 2))
  have fr := fr0.qf
  unfold fL_b689
  rw [lrd (c := 1) (z := 1) rfl (by omega) hN, lrd (c := 2) (z := 2) rfl (by omega) hN, e1, lq6, lrd (c := 1) (z := 1) rfl (by omega) hN, lrd (c := 2) (z := 2) rfl (by omega) hN, e2, qb2_s, if_pos rfl]
  exact g _ _ _ _ _ _ _ _ _ _ _ _ _ _ _ _ _ _ _ _ _ _ _ _ _ _ ⟨p, _, hs, nh, tx, nt, RW, RM2, V, Hh.qf (fr.1 3 (by decide)) (fr.2 4 (by decide)), X.qf (fr.1 5 (by decide)) (fr.2 6 (by decide)), Ft.qf (fr.2 7 (by decide)) (fr.2 8 (by decide)) (fr.2 9 (by decide)), hl, I2, hM, hQ, hG, R65m.qf (fr.1 65 (by decide))⟩
theorem l_b722 (hN : N ≤ 3584) (ha : a + 7 ≤ N) (g : GoL N xs rec18 (zI (a : Int))) (I : InvL t w b l H k0 k1 k2 k3 k4 k5 k6 k7 x T Lo P M Q G m) : fL_b722 N xs rec18 t w b l H k0 k1 k2 k3 k4 k5 k6 k7 x T Lo P C M Q d F G r n m (zI (a : Int)) = some 1 := by
  obtain ⟨p, pb, hs, nh, tx, nt, RW, RM, V, Hh, X, Ft, hl, I, hM, hQ, hG, R65m⟩ := I
  obtain ⟨v, t2, b2, T2, L2, P2, m2, pb2, e1, e2, I2, RM2, fr0, tf⟩ := S_nodeDepth RW RM V I (xs (a + 1))
  have fr := fr0.qf
  unfold fL_b722
  rw [lrd (c := 1) (z := 1) rfl (by omega) hN, e1, lq6, lrd (c := 1) (z := 1) rfl (by omega) hN, e2, qb2_s, if_pos rfl]
  exact g _ _ _ _ _ _ _ _ _ _ _ _ _ _ _ _ _ _ _ _ _ _ _ _ _ _ ⟨p, _, hs, nh, tx, nt, RW, RM2, V, Hh.qf (fr.1 3 (by decide)) (fr.2 4 (by decide)), X.qf (fr.1 5 (by decide)) (fr.2 6 (by decide)), Ft.qf (fr.2 7 (by decide)) (fr.2 8 (by decide)) (fr.2 9 (by decide)), hl, I2, hM, hQ, hG, R65m.qf (fr.1 65 (by decide))⟩
theorem l_b745 (hN : N ≤ 3584) (ha : a + 7 ≤ N) (g : GoL N xs rec18 (zI (a : Int))) (I : InvL t w b l H k0 k1 k2 k3 k4 k5 k6 k7 x T Lo P M Q G m) : fL_b745 N xs rec18 t w b l H k0 k1 k2 k3 k4 k5 k6 k7 x T Lo P C M Q d F G r n m (zI (a : Int)) = some 1 := by
  obtain ⟨p, pb, hs, nh, tx, nt, RW, RM, V, Hh, X, Ft, hl, I, hM, hQ, hG, R65m⟩ := I
  obtain ⟨v, t2, b2, T2, L2, P2, m2, pb2, e1, e2, I2, RM2, fr0, tf⟩ := S_pieceCount RW RM V I 
  have fr := fr0.qf
  unfold fL_b745
  rw [e1, lq6, e2, qb2_s, if_pos rfl]
  exact g _ _ _ _ _ _ _ _ _ _ _ _ _ _ _ _ _ _ _ _ _ _ _ _ _ _ ⟨p, _, hs, nh, tx, nt, RW, RM2, V, Hh.qf (fr.1 3 (by decide)) (fr.2 4 (by decide)), X.qf (fr.1 5 (by decide)) (fr.2 6 (by decide)), Ft.qf (fr.2 7 (by decide)) (fr.2 8 (by decide)) (fr.2 9 (by decide)), hl, I2, hM, hQ, hG, R65m.qf (fr.1 65 (by decide))⟩
theorem l_b758 (hN : N ≤ 3584) (ha : a + 7 ≤ N) (g : GoL N xs rec18 (zI (a : Int))) (I : InvL t w b l H k0 k1 k2 k3 k4 k5 k6 k7 x T Lo P M Q G m) : fL_b758 N xs rec18 t w b l H k0 k1 k2 k3 k4 k5 k6 k7 x T Lo P C M Q d F G r n m (zI (a : Int)) = some 1 := by
  obtain ⟨p, pb, hs, nh, tx, nt, RW, RM, V, Hh, X, Ft, hl, I, hM, hQ, hG, R65m⟩ := I
  obtain ⟨v, t2, b2, T2, L2, P2, m2, pb2, e1, e2, I2, RM2, fr0, tf⟩ := S_pieceWall RW RM V I (xs (a + 1))
  have fr := fr0.qf
  unfold fL_b758
  rw [lrd (c := 1) (z := 1) rfl (by omega) hN, e1, lq6, lrd (c := 1) (z := 1) rfl (by omega) hN, e2, qb2_s, if_pos rfl]
  exact g _ _ _ _ _ _ _ _ _ _ _ _ _ _ _ _ _ _ _ _ _ _ _ _ _ _ ⟨p, _, hs, nh, tx, nt, RW, RM2, V, Hh.qf (fr.1 3 (by decide)) (fr.2 4 (by decide)), X.qf (fr.1 5 (by decide)) (fr.2 6 (by decide)), Ft.qf (fr.2 7 (by decide)) (fr.2 8 (by decide)) (fr.2 9 (by decide)), hl, I2, hM, hQ, hG, R65m.qf (fr.1 65 (by decide))⟩
theorem l_b781 (hN : N ≤ 3584) (ha : a + 7 ≤ N) (g : GoL N xs rec18 (zI (a : Int))) (I : InvL t w b l H k0 k1 k2 k3 k4 k5 k6 k7 x T Lo P M Q G m) : fL_b781 N xs rec18 t w b l H k0 k1 k2 k3 k4 k5 k6 k7 x T Lo P C M Q d F G r n m (zI (a : Int)) = some 1 := by
  obtain ⟨p, pb, hs, nh, tx, nt, RW, RM, V, Hh, X, Ft, hl, I, hM, hQ, hG, R65m⟩ := I
  obtain ⟨v, t2, b2, T2, L2, P2, m2, pb2, e1, e2, I2, RM2, fr0, tf⟩ := S_pieceNode RW RM V I (xs (a + 1))
  have fr := fr0.qf
  unfold fL_b781
  rw [lrd (c := 1) (z := 1) rfl (by omega) hN, e1, lq6, lrd (c := 1) (z := 1) rfl (by omega) hN, e2, qb2_s, if_pos rfl]
  exact g _ _ _ _ _ _ _ _ _ _ _ _ _ _ _ _ _ _ _ _ _ _ _ _ _ _ ⟨p, _, hs, nh, tx, nt, RW, RM2, V, Hh.qf (fr.1 3 (by decide)) (fr.2 4 (by decide)), X.qf (fr.1 5 (by decide)) (fr.2 6 (by decide)), Ft.qf (fr.2 7 (by decide)) (fr.2 8 (by decide)) (fr.2 9 (by decide)), hl, I2, hM, hQ, hG, R65m.qf (fr.1 65 (by decide))⟩
theorem l_b804 (hN : N ≤ 3584) (ha : a + 7 ≤ N) (g : GoL N xs rec18 (zI (a : Int))) (I : InvL t w b l H k0 k1 k2 k3 k4 k5 k6 k7 x T Lo P M Q G m) : fL_b804 N xs rec18 t w b l H k0 k1 k2 k3 k4 k5 k6 k7 x T Lo P C M Q d F G r n m (zI (a : Int)) = some 1 := by
  obtain ⟨p, pb, hs, nh, tx, nt, RW, RM, V, Hh, X, Ft, hl, I, hM, hQ, hG, R65m⟩ := I
  obtain ⟨v, t2, b2, T2, L2, P2, m2, pb2, e1, e2, I2, RM2, fr0, tf⟩ := S_pieceBound RW RM V I (xs (a + 1)) (xs (a + 2))
  have fr := fr0.qf
  unfold fL_b804
  rw [lrd (c := 1) (z := 1) rfl (by omega) hN, lrd (c := 2) (z := 2) rfl (by omega) hN, e1, lq6, lrd (c := 1) (z := 1) rfl (by omega) hN, lrd (c := 2) (z := 2) rfl (by omega) hN, e2, qb2_s, if_pos rfl]
  exact g _ _ _ _ _ _ _ _ _ _ _ _ _ _ _ _ _ _ _ _ _ _ _ _ _ _ ⟨p, _, hs, nh, tx, nt, RW, RM2, V, Hh.qf (fr.1 3 (by decide)) (fr.2 4 (by decide)), X.qf (fr.1 5 (by decide)) (fr.2 6 (by decide)), Ft.qf (fr.2 7 (by decide)) (fr.2 8 (by decide)) (fr.2 9 (by decide)), hl, I2, hM, hQ, hG, R65m.qf (fr.1 65 (by decide))⟩
theorem l_b837 (hN : N ≤ 3584) (ha : a + 7 ≤ N) (g : GoL N xs rec18 (zI (a : Int))) (I : InvL t w b l H k0 k1 k2 k3 k4 k5 k6 k7 x T Lo P M Q G m) : fL_b837 N xs rec18 t w b l H k0 k1 k2 k3 k4 k5 k6 k7 x T Lo P C M Q d F G r n m (zI (a : Int)) = some 1 := by
  obtain ⟨p, pb, hs, nh, tx, nt, RW, RM, V, Hh, X, Ft, hl, I, hM, hQ, hG, R65m⟩ := I
  obtain ⟨v, t2, b2, T2, L2, P2, m2, pb2, e1, e2, I2, RM2, fr0, tf⟩ := S_pieceLength RW RM V I (xs (a + 1))
  have fr := fr0.qf
  unfold fL_b837 fL_b885
  rw [lrd (c := 1) (z := 1) rfl (by omega) hN, e1, lq6, lrd (c := 1) (z := 1) rfl (by omega) hN, e2, qb2_s]
  exact dbl_go (g _ _ _ _ _ _ _ _ _ _ _ _ _ _ _ _ _ _ _ _ _ _ _ _ _ _ ⟨p, _, hs, nh, tx, nt, RW, RM2, V, Hh.qf (fr.1 3 (by decide)) (fr.2 4 (by decide)), X.qf (fr.1 5 (by decide)) (fr.2 6 (by decide)), Ft.qf (fr.2 7 (by decide)) (fr.2 8 (by decide)) (fr.2 9 (by decide)), hl, I2, hM, hQ, hG, R65m.qf (fr.1 65 (by decide))⟩)
theorem l_b888 (hN : N ≤ 3584) (ha : a + 7 ≤ N) (g : GoL N xs rec18 (zI (a : Int))) (I : InvL t w b l H k0 k1 k2 k3 k4 k5 k6 k7 x T Lo P M Q G m) : fL_b888 N xs rec18 t w b l H k0 k1 k2 k3 k4 k5 k6 k7 x T Lo P C M Q d F G r n m (zI (a : Int)) = some 1 := by
  obtain ⟨p, pb, hs, nh, tx, nt, RW, RM, V, Hh, X, Ft, hl, I, hM, hQ, hG, R65m⟩ := I
  obtain ⟨v, t2, b2, T2, L2, P2, m2, pb2, e1, e2, I2, RM2, fr0, tf⟩ := S_locate RW RM V I (xs (a + 1)) (xs (a + 2))
  have fr := fr0.qf
  unfold fL_b888
  rw [lrd (c := 1) (z := 1) rfl (by omega) hN, lrd (c := 2) (z := 2) rfl (by omega) hN, e1, lq6, lrd (c := 1) (z := 1) rfl (by omega) hN, lrd (c := 2) (z := 2) rfl (by omega) hN, e2, qb2_s, if_pos rfl]
  exact g _ _ _ _ _ _ _ _ _ _ _ _ _ _ _ _ _ _ _ _ _ _ _ _ _ _ ⟨p, _, hs, nh, tx, nt, RW, RM2, V, Hh.qf (fr.1 3 (by decide)) (fr.2 4 (by decide)), X.qf (fr.1 5 (by decide)) (fr.2 6 (by decide)), Ft.qf (fr.2 7 (by decide)) (fr.2 8 (by decide)) (fr.2 9 (by decide)), hl, I2, hM, hQ, hG, R65m.qf (fr.1 65 (by decide))⟩
theorem l_b921 (hN : N ≤ 3584) (ha : a + 7 ≤ N) (g : GoL N xs rec18 (zI (a : Int))) (I : InvL t w b l H k0 k1 k2 k3 k4 k5 k6 k7 x T Lo P M Q G m) : fL_b921 N xs rec18 t w b l H k0 k1 k2 k3 k4 k5 k6 k7 x T Lo P C M Q d F G r n m (zI (a : Int)) = some 1 := by
  obtain ⟨p, pb, hs, nh, tx, nt, RW, RM, V, Hh, X, Ft, hl, I, hM, hQ, hG, R65m⟩ := I
  obtain ⟨v, t2, b2, T2, L2, P2, m2, pb2, e1, e2, I2, RM2, fr0, tf⟩ := S_meanLeafDepth RW RM V I 
  have fr := fr0.qf
  unfold fL_b921 fL_b959
  rw [e1, lq6, e2, qb2_s]
  exact dbl_go (g _ _ _ _ _ _ _ _ _ _ _ _ _ _ _ _ _ _ _ _ _ _ _ _ _ _ ⟨p, _, hs, nh, tx, nt, RW, RM2, V, Hh.qf (fr.1 3 (by decide)) (fr.2 4 (by decide)), X.qf (fr.1 5 (by decide)) (fr.2 6 (by decide)), Ft.qf (fr.2 7 (by decide)) (fr.2 8 (by decide)) (fr.2 9 (by decide)), hl, I2, hM, hQ, hG, R65m.qf (fr.1 65 (by decide))⟩)
theorem l_b962 (hN : N ≤ 3584) (ha : a + 7 ≤ N) (g : GoL N xs rec18 (zI (a : Int))) (I : InvL t w b l H k0 k1 k2 k3 k4 k5 k6 k7 x T Lo P M Q G m) : fL_b962 N xs rec18 t w b l H k0 k1 k2 k3 k4 k5 k6 k7 x T Lo P C M Q d F G r n m (zI (a : Int)) = some 1 := by
  obtain ⟨p, pb, hs, nh, tx, nt, RW, RM, V, Hh, X, Ft, hl, I, hM, hQ, hG, R65m⟩ := I
  obtain ⟨v, e1, e2⟩ := S_buildCount I
  unfold fL_b962
  rw [e1, qb1_s, e2, qb1_s, if_pos rfl]
  exact g _ _ _ _ _ _ _ _ _ _ _ _ _ _ _ _ _ _ _ _ _ _ _ _ _ _ ⟨p, pb, hs, nh, tx, nt, RW, RM, V, Hh, X, Ft, hl, I, hM, hQ, hG, R65m⟩
theorem l_b975 (hN : N ≤ 3584) (ha : a + 7 ≤ N) (g : GoL N xs rec18 (zI (a : Int))) (I : InvL t w b l H k0 k1 k2 k3 k4 k5 k6 k7 x T Lo P M Q G m) : fL_b975 N xs rec18 t w b l H k0 k1 k2 k3 k4 k5 k6 k7 x T Lo P C M Q d F G r n m (zI (a : Int)) = some 1 := by
  obtain ⟨p, pb, hs, nh, tx, nt, RW, RM, V, Hh, X, Ft, hl, I, hM, hQ, hG, R65m⟩ := I
  obtain ⟨v, t2, b2, T2, L2, P2, D2, m2, pb2, e1, e2, I2, RM2, fr, tf⟩ := S_drawCount (D := d) RW RM V I (xs (a + 1)) (xs (a + 2))
  unfold fL_b975
  rw [lrd (c := 1) (z := 1) rfl (by omega) hN, lrd (c := 2) (z := 2) rfl (by omega) hN, e1, lq7, lrd (c := 1) (z := 1) rfl (by omega) hN, lrd (c := 2) (z := 2) rfl (by omega) hN, e2, qb2_s, if_pos rfl]
  exact g _ _ _ _ _ _ _ _ _ _ _ _ _ _ _ _ _ _ _ _ _ _ _ _ _ _ ⟨p, _, hs, nh, tx, nt, RW, RM2, V, Hh.qf (fr.1 3 (by decide)) (fr.2 4 (by decide)), X.qf (fr.1 5 (by decide)) (fr.2 6 (by decide)), Ft.qf (fr.2 7 (by decide)) (fr.2 8 (by decide)) (fr.2 9 (by decide)), hl, I2, hM, hQ, hG, R65m.qf (fr.1 65 (by decide))⟩
theorem l_b1008 (hN : N ≤ 3584) (ha : a + 7 ≤ N) (g : GoL N xs rec18 (zI (a : Int))) (I : InvL t w b l H k0 k1 k2 k3 k4 k5 k6 k7 x T Lo P M Q G m) : fL_b1008 N xs rec18 t w b l H k0 k1 k2 k3 k4 k5 k6 k7 x T Lo P C M Q d F G r n m (zI (a : Int)) = some 1 := by
  obtain ⟨p, pb, hs, nh, tx, nt, RW, RM, V, Hh, X, Ft, hl, I, hM, hQ, hG, R65m⟩ := I
  obtain ⟨v, t2, b2, T2, L2, P2, D2, m2, pb2, e1, e2, I2, RM2, fr, tf⟩ := S_drawPiece (D := d) RW RM V I (xs (a + 1)) (xs (a + 2)) (xs (a + 3))
  unfold fL_b1008
  rw [lrd (c := 1) (z := 1) rfl (by omega) hN, lrd (c := 2) (z := 2) rfl (by omega) hN, lrd (c := 3) (z := 3) rfl (by omega) hN, e1, lq7, lrd (c := 1) (z := 1) rfl (by omega) hN, lrd (c := 2) (z := 2) rfl (by omega) hN, lrd (c := 3) (z := 3) rfl (by omega) hN, e2, qb2_s, if_pos rfl]
  exact g _ _ _ _ _ _ _ _ _ _ _ _ _ _ _ _ _ _ _ _ _ _ _ _ _ _ ⟨p, _, hs, nh, tx, nt, RW, RM2, V, Hh.qf (fr.1 3 (by decide)) (fr.2 4 (by decide)), X.qf (fr.1 5 (by decide)) (fr.2 6 (by decide)), Ft.qf (fr.2 7 (by decide)) (fr.2 8 (by decide)) (fr.2 9 (by decide)), hl, I2, hM, hQ, hG, R65m.qf (fr.1 65 (by decide))⟩
theorem l_b1051 (hN : N ≤ 3584) (ha : a + 7 ≤ N) (g : GoL N xs rec18 (zI (a : Int))) (I : InvL t w b l H k0 k1 k2 k3 k4 k5 k6 k7 x T Lo P M Q G m) : fL_b1051 N xs rec18 t w b l H k0 k1 k2 k3 k4 k5 k6 k7 x T Lo P C M Q d F G r n m (zI (a : Int)) = some 1 := by
  obtain ⟨p, pb, hs, nh, tx, nt, RW, RM, V, Hh, X, Ft, hl, I, hM, hQ, hG, R65m⟩ := I
  obtain ⟨v, t2, b2, T2, L2, P2, D2, r2, m2, pb2, e1, e2, I2, RM2, fr, tf⟩ := S_paintCount (D := d) (r := r) RW RM V I (xs (a + 1)) (xs (a + 2)) (xs (a + 3)) (xs (a + 4))
  unfold fL_b1051
  rw [lrd (c := 1) (z := 1) rfl (by omega) hN, lrd (c := 2) (z := 2) rfl (by omega) hN, lrd (c := 3) (z := 3) rfl (by omega) hN, lrd (c := 4) (z := 4) rfl (by omega) hN, e1, lq8, lrd (c := 1) (z := 1) rfl (by omega) hN, lrd (c := 2) (z := 2) rfl (by omega) hN, lrd (c := 3) (z := 3) rfl (by omega) hN, lrd (c := 4) (z := 4) rfl (by omega) hN, e2, qb2_s, if_pos rfl]
  exact g _ _ _ _ _ _ _ _ _ _ _ _ _ _ _ _ _ _ _ _ _ _ _ _ _ _ ⟨p, _, hs, nh, tx, nt, RW, RM2, V, Hh.qf (fr.1 3 (by decide)) (fr.2 4 (by decide)), X.qf (fr.1 5 (by decide)) (fr.2 6 (by decide)), Ft.qf (fr.2 7 (by decide)) (fr.2 8 (by decide)) (fr.2 9 (by decide)), hl, I2, hM, hQ, hG, R65m.qf (fr.1 65 (by decide))⟩
theorem l_b1104 (hN : N ≤ 3584) (ha : a + 7 ≤ N) (g : GoL N xs rec18 (zI (a : Int))) (I : InvL t w b l H k0 k1 k2 k3 k4 k5 k6 k7 x T Lo P M Q G m) : fL_b1104 N xs rec18 t w b l H k0 k1 k2 k3 k4 k5 k6 k7 x T Lo P C M Q d F G r n m (zI (a : Int)) = some 1 := by
  obtain ⟨p, pb, hs, nh, tx, nt, RW, RM, V, Hh, X, Ft, hl, I, hM, hQ, hG, R65m⟩ := I
  obtain ⟨v, t2, b2, T2, L2, P2, D2, r2, m2, pb2, e1, e2, I2, RM2, fr, tf⟩ := S_paintedPiece (D := d) (r := r) RW RM V I (xs (a + 1)) (xs (a + 2)) (xs (a + 3)) (xs (a + 4)) (xs (a + 5))
  unfold fL_b1104
  rw [lrd (c := 1) (z := 1) rfl (by omega) hN, lrd (c := 2) (z := 2) rfl (by omega) hN, lrd (c := 3) (z := 3) rfl (by omega) hN, lrd (c := 4) (z := 4) rfl (by omega) hN, lrd (c := 5) (z := 5) rfl (by omega) hN, e1, lq8, lrd (c := 1) (z := 1) rfl (by omega) hN, lrd (c := 2) (z := 2) rfl (by omega) hN, lrd (c := 3) (z := 3) rfl (by omega) hN, lrd (c := 4) (z := 4) rfl (by omega) hN, lrd (c := 5) (z := 5) rfl (by omega) hN, e2, qb2_s, if_pos rfl]
  exact g _ _ _ _ _ _ _ _ _ _ _ _ _ _ _ _ _ _ _ _ _ _ _ _ _ _ ⟨p, _, hs, nh, tx, nt, RW, RM2, V, Hh.qf (fr.1 3 (by decide)) (fr.2 4 (by decide)), X.qf (fr.1 5 (by decide)) (fr.2 6 (by decide)), Ft.qf (fr.2 7 (by decide)) (fr.2 8 (by decide)) (fr.2 9 (by decide)), hl, I2, hM, hQ, hG, R65m.qf (fr.1 65 (by decide))⟩
theorem l_b1167 (hN : N ≤ 3584) (ha : a + 7 ≤ N) (g : GoL N xs rec18 (zI (a : Int))) (I : InvL t w b l H k0 k1 k2 k3 k4 k5 k6 k7 x T Lo P M Q G m) : fL_b1167 N xs rec18 t w b l H k0 k1 k2 k3 k4 k5 k6 k7 x T Lo P C M Q d F G r n m (zI (a : Int)) = some 1 := by
  obtain ⟨p, pb, hs, nh, tx, nt, RW, RM, V, Hh, X, Ft, hl, I, hM, hQ, hG, R65m⟩ := I
  obtain ⟨v, r2, m2, e1, e2, ms⟩ := S_blocker (t := t) RW RM V (xs (a + 1)) (xs (a + 2)) (xs (a + 3)) (xs (a + 4))
  have fr := ms.qf
  have RM2 := RM.same ms
  unfold fL_b1167
  rw [lrd (c := 1) (z := 1) rfl (by omega) hN, lrd (c := 2) (z := 2) rfl (by omega) hN, lrd (c := 3) (z := 3) rfl (by omega) hN, lrd (c := 4) (z := 4) rfl (by omega) hN, e1, qb2_s, lrd (c := 1) (z := 1) rfl (by omega) hN, lrd (c := 2) (z := 2) rfl (by omega) hN, lrd (c := 3) (z := 3) rfl (by omega) hN, lrd (c := 4) (z := 4) rfl (by omega) hN, e2, qb2_s, if_pos rfl]
  exact g _ _ _ _ _ _ _ _ _ _ _ _ _ _ _ _ _ _ _ _ _ _ _ _ _ _ ⟨p, _, hs, nh, tx, nt, RW, RM2, V, Hh.qf (fr.1 3 (by decide)) (fr.2 4 (by decide)), X.qf (fr.1 5 (by decide)) (fr.2 6 (by decide)), Ft.qf (fr.2 7 (by decide)) (fr.2 8 (by decide)) (fr.2 9 (by decide)), hl, I.keep (by rw [ms.1]) (fun k h1 h2 => ms.2 k (by omega) (by omega)), hM, hQ, hG, R65m.qf (fr.1 65 (by decide))⟩
theorem l_b1220 (hN : N ≤ 3584) (ha : a + 7 ≤ N) (g : GoL N xs rec18 (zI (a : Int))) (I : InvL t w b l H k0 k1 k2 k3 k4 k5 k6 k7 x T Lo P M Q G m) : fL_b1220 N xs rec18 t w b l H k0 k1 k2 k3 k4 k5 k6 k7 x T Lo P C M Q d F G r n m (zI (a : Int)) = some 1 := by
  obtain ⟨p, pb, hs, nh, tx, nt, RW, RM, V, Hh, X, Ft, hl, I, hM, hQ, hG, R65m⟩ := I
  obtain ⟨v, r2, m2, e1, e2, ms⟩ := S_columnWall (t := t) RW RM V (xs (a + 1)) (xs (a + 2)) (xs (a + 3)) (xs (a + 4)) (xs (a + 5))
  have fr := ms.qf
  have RM2 := RM.same ms
  unfold fL_b1220
  rw [lrd (c := 1) (z := 1) rfl (by omega) hN, lrd (c := 2) (z := 2) rfl (by omega) hN, lrd (c := 3) (z := 3) rfl (by omega) hN, lrd (c := 4) (z := 4) rfl (by omega) hN, lrd (c := 5) (z := 5) rfl (by omega) hN, e1, qb2_s, lrd (c := 1) (z := 1) rfl (by omega) hN, lrd (c := 2) (z := 2) rfl (by omega) hN, lrd (c := 3) (z := 3) rfl (by omega) hN, lrd (c := 4) (z := 4) rfl (by omega) hN, lrd (c := 5) (z := 5) rfl (by omega) hN, e2, qb2_s, if_pos rfl]
  exact g _ _ _ _ _ _ _ _ _ _ _ _ _ _ _ _ _ _ _ _ _ _ _ _ _ _ ⟨p, _, hs, nh, tx, nt, RW, RM2, V, Hh.qf (fr.1 3 (by decide)) (fr.2 4 (by decide)), X.qf (fr.1 5 (by decide)) (fr.2 6 (by decide)), Ft.qf (fr.2 7 (by decide)) (fr.2 8 (by decide)) (fr.2 9 (by decide)), hl, I.keep (by rw [ms.1]) (fun k h1 h2 => ms.2 k (by omega) (by omega)), hM, hQ, hG, R65m.qf (fr.1 65 (by decide))⟩
theorem l_b1283 (hN : N ≤ 3584) (ha : a + 7 ≤ N) (g : GoL N xs rec18 (zI (a : Int))) (I : InvL t w b l H k0 k1 k2 k3 k4 k5 k6 k7 x T Lo P M Q G m) : fL_b1283 N xs rec18 t w b l H k0 k1 k2 k3 k4 k5 k6 k7 x T Lo P C M Q d F G r n m (zI (a : Int)) = some 1 := by
  obtain ⟨p, pb, hs, nh, tx, nt, RW, RM, V, Hh, X, Ft, hl, I, hM, hQ, hG, R65m⟩ := I
  obtain ⟨v, r2, m2, e1, e2, ms⟩ := S_columnDistance (t := t) RW RM V (xs (a + 1)) (xs (a + 2)) (xs (a + 3)) (xs (a + 4)) (xs (a + 5)) (xs (a + 6))
  have fr := ms.qf
  have RM2 := RM.same ms
  unfold fL_b1283
  rw [lrd (c := 1) (z := 1) rfl (by omega) hN, lrd (c := 2) (z := 2) rfl (by omega) hN, lrd (c := 3) (z := 3) rfl (by omega) hN, lrd (c := 4) (z := 4) rfl (by omega) hN, lrd (c := 5) (z := 5) rfl (by omega) hN, lrd (c := 6) (z := 6) rfl (by omega) hN, e1, qb2_s, lrd (c := 1) (z := 1) rfl (by omega) hN, lrd (c := 2) (z := 2) rfl (by omega) hN, lrd (c := 3) (z := 3) rfl (by omega) hN, lrd (c := 4) (z := 4) rfl (by omega) hN, lrd (c := 5) (z := 5) rfl (by omega) hN, lrd (c := 6) (z := 6) rfl (by omega) hN, e2, qb2_s, if_pos rfl]
  exact g _ _ _ _ _ _ _ _ _ _ _ _ _ _ _ _ _ _ _ _ _ _ _ _ _ _ ⟨p, _, hs, nh, tx, nt, RW, RM2, V, Hh.qf (fr.1 3 (by decide)) (fr.2 4 (by decide)), X.qf (fr.1 5 (by decide)) (fr.2 6 (by decide)), Ft.qf (fr.2 7 (by decide)) (fr.2 8 (by decide)) (fr.2 9 (by decide)), hl, I.keep (by rw [ms.1]) (fun k h1 h2 => ms.2 k (by omega) (by omega)), hM, hQ, hG, R65m.qf (fr.1 65 (by decide))⟩
theorem l_b1358 (hN : N ≤ 3584) (ha : a + 7 ≤ N) (g : GoL N xs rec18 (zI (a : Int))) (I : InvL t w b l H k0 k1 k2 k3 k4 k5 k6 k7 x T Lo P M Q G m) : fL_b1358 N xs rec18 t w b l H k0 k1 k2 k3 k4 k5 k6 k7 x T Lo P C M Q d F G r n m (zI (a : Int)) = some 1 := by
  obtain ⟨p, pb, hs, nh, tx, nt, RW, RM, V, Hh, X, Ft, hl, I, hM, hQ, hG, R65m⟩ := I
  obtain ⟨v, r2, m2, e1, e2, ms⟩ := S_paneCount (t := t) RW RM V (xs (a + 1)) (xs (a + 2)) (xs (a + 3)) (xs (a + 4)) (xs (a + 5))
  have fr := ms.qf
  have RM2 := RM.same ms
  unfold fL_b1358
  rw [lrd (c := 1) (z := 1) rfl (by omega) hN, lrd (c := 2) (z := 2) rfl (by omega) hN, lrd (c := 3) (z := 3) rfl (by omega) hN, lrd (c := 4) (z := 4) rfl (by omega) hN, lrd (c := 5) (z := 5) rfl (by omega) hN, e1, qb2_s, lrd (c := 1) (z := 1) rfl (by omega) hN, lrd (c := 2) (z := 2) rfl (by omega) hN, lrd (c := 3) (z := 3) rfl (by omega) hN, lrd (c := 4) (z := 4) rfl (by omega) hN, lrd (c := 5) (z := 5) rfl (by omega) hN, e2, qb2_s, if_pos rfl]
  exact g _ _ _ _ _ _ _ _ _ _ _ _ _ _ _ _ _ _ _ _ _ _ _ _ _ _ ⟨p, _, hs, nh, tx, nt, RW, RM2, V, Hh.qf (fr.1 3 (by decide)) (fr.2 4 (by decide)), X.qf (fr.1 5 (by decide)) (fr.2 6 (by decide)), Ft.qf (fr.2 7 (by decide)) (fr.2 8 (by decide)) (fr.2 9 (by decide)), hl, I.keep (by rw [ms.1]) (fun k h1 h2 => ms.2 k (by omega) (by omega)), hM, hQ, hG, R65m.qf (fr.1 65 (by decide))⟩
theorem l_b1421 (hN : N ≤ 3584) (ha : a + 7 ≤ N) (g : GoL N xs rec18 (zI (a : Int))) (I : InvL t w b l H k0 k1 k2 k3 k4 k5 k6 k7 x T Lo P M Q G m) : fL_b1421 N xs rec18 t w b l H k0 k1 k2 k3 k4 k5 k6 k7 x T Lo P C M Q d F G r n m (zI (a : Int)) = some 1 := by
  obtain ⟨p, pb, hs, nh, tx, nt, RW, RM, V, Hh, X, Ft, hl, I, hM, hQ, hG, R65m⟩ := I
  obtain ⟨v, r2, m2, e1, e2, ms⟩ := S_seenColumns (t := t) RW RM V (xs (a + 1)) (xs (a + 2)) (xs (a + 3)) (xs (a + 4)) (xs (a + 5))
  have fr := ms.qf
  have RM2 := RM.same ms
  unfold fL_b1421
  rw [lrd (c := 1) (z := 1) rfl (by omega) hN, lrd (c := 2) (z := 2) rfl (by omega) hN, lrd (c := 3) (z := 3) rfl (by omega) hN, lrd (c := 4) (z := 4) rfl (by omega) hN, lrd (c := 5) (z := 5) rfl (by omega) hN, e1, qb2_s, lrd (c := 1) (z := 1) rfl (by omega) hN, lrd (c := 2) (z := 2) rfl (by omega) hN, lrd (c := 3) (z := 3) rfl (by omega) hN, lrd (c := 4) (z := 4) rfl (by omega) hN, lrd (c := 5) (z := 5) rfl (by omega) hN, e2, qb2_s, if_pos rfl]
  exact g _ _ _ _ _ _ _ _ _ _ _ _ _ _ _ _ _ _ _ _ _ _ _ _ _ _ ⟨p, _, hs, nh, tx, nt, RW, RM2, V, Hh.qf (fr.1 3 (by decide)) (fr.2 4 (by decide)), X.qf (fr.1 5 (by decide)) (fr.2 6 (by decide)), Ft.qf (fr.2 7 (by decide)) (fr.2 8 (by decide)) (fr.2 9 (by decide)), hl, I.keep (by rw [ms.1]) (fun k h1 h2 => ms.2 k (by omega) (by omega)), hM, hQ, hG, R65m.qf (fr.1 65 (by decide))⟩
theorem l_b1484 (hN : N ≤ 3584) (ha : a + 7 ≤ N) (g : GoL N xs rec18 (zI (a : Int))) (I : InvL t w b l H k0 k1 k2 k3 k4 k5 k6 k7 x T Lo P M Q G m) : fL_b1484 N xs rec18 t w b l H k0 k1 k2 k3 k4 k5 k6 k7 x T Lo P C M Q d F G r n m (zI (a : Int)) = some 1 := by
  obtain ⟨p, pb, hs, nh, tx, nt, RW, RM, V, Hh, X, Ft, hl, I, hM, hQ, hG, R65m⟩ := I
  obtain ⟨v, r2, m2, e1, e2, ms⟩ := S_seenPoints (t := t) RW RM V (xs (a + 1)) (xs (a + 2))
  have fr := ms.qf
  have RM2 := RM.same ms
  unfold fL_b1484
  rw [lrd (c := 1) (z := 1) rfl (by omega) hN, lrd (c := 2) (z := 2) rfl (by omega) hN, e1, qb2_s, lrd (c := 1) (z := 1) rfl (by omega) hN, lrd (c := 2) (z := 2) rfl (by omega) hN, e2, qb2_s, if_pos rfl]
  exact g _ _ _ _ _ _ _ _ _ _ _ _ _ _ _ _ _ _ _ _ _ _ _ _ _ _ ⟨p, _, hs, nh, tx, nt, RW, RM2, V, Hh.qf (fr.1 3 (by decide)) (fr.2 4 (by decide)), X.qf (fr.1 5 (by decide)) (fr.2 6 (by decide)), Ft.qf (fr.2 7 (by decide)) (fr.2 8 (by decide)) (fr.2 9 (by decide)), hl, I.keep (by rw [ms.1]) (fun k h1 h2 => ms.2 k (by omega) (by omega)), hM, hQ, hG, R65m.qf (fr.1 65 (by decide))⟩
theorem l_b1517 (hN : N ≤ 3584) (ha : a + 7 ≤ N) (g : GoL N xs rec18 (zI (a : Int))) (I : InvL t w b l H k0 k1 k2 k3 k4 k5 k6 k7 x T Lo P M Q G m) : fL_b1517 N xs rec18 t w b l H k0 k1 k2 k3 k4 k5 k6 k7 x T Lo P C M Q d F G r n m (zI (a : Int)) = some 1 := by
  obtain ⟨p, pb, hs, nh, tx, nt, RW, RM, V, Hh, X, Ft, hl, I, hM, hQ, hG, R65m⟩ := I
  obtain ⟨v, r2, m2, e1, e2, ms⟩ := S_lookout (t := t) RW RM V (xs (a + 1))
  have fr := ms.qf
  have RM2 := RM.same ms
  unfold fL_b1517
  rw [lrd (c := 1) (z := 1) rfl (by omega) hN, e1, qb2_s, lrd (c := 1) (z := 1) rfl (by omega) hN, e2, qb2_s, if_pos rfl]
  exact g _ _ _ _ _ _ _ _ _ _ _ _ _ _ _ _ _ _ _ _ _ _ _ _ _ _ ⟨p, _, hs, nh, tx, nt, RW, RM2, V, Hh.qf (fr.1 3 (by decide)) (fr.2 4 (by decide)), X.qf (fr.1 5 (by decide)) (fr.2 6 (by decide)), Ft.qf (fr.2 7 (by decide)) (fr.2 8 (by decide)) (fr.2 9 (by decide)), hl, I.keep (by rw [ms.1]) (fun k h1 h2 => ms.2 k (by omega) (by omega)), hM, hQ, hG, R65m.qf (fr.1 65 (by decide))⟩
theorem l_b1540 (hN : N ≤ 3584) (ha : a + 7 ≤ N) (g : GoL N xs rec18 (zI (a : Int))) (I : InvL t w b l H k0 k1 k2 k3 k4 k5 k6 k7 x T Lo P M Q G m) : fL_b1540 N xs rec18 t w b l H k0 k1 k2 k3 k4 k5 k6 k7 x T Lo P C M Q d F G r n m (zI (a : Int)) = some 1 := by
  obtain ⟨p, pb, hs, nh, tx, nt, RW, RM, V, Hh, X, Ft, hl, I, hM, hQ, hG, R65m⟩ := I
  obtain ⟨v, r2, m2, e1, e2, ms⟩ := S_walk (t := t) RW RM V (xs (a + 1)) (xs (a + 2)) (xs (a + 3)) (xs (a + 4))
  have fr := ms.qf
  have RM2 := RM.same ms
  unfold fL_b1540
  rw [lrd (c := 1) (z := 1) rfl (by omega) hN, lrd (c := 2) (z := 2) rfl (by omega) hN, lrd (c := 3) (z := 3) rfl (by omega) hN, lrd (c := 4) (z := 4) rfl (by omega) hN, e1, qb2_s, lrd (c := 1) (z := 1) rfl (by omega) hN, lrd (c := 2) (z := 2) rfl (by omega) hN, lrd (c := 3) (z := 3) rfl (by omega) hN, lrd (c := 4) (z := 4) rfl (by omega) hN, e2, qb2_s, if_pos rfl]
  exact g _ _ _ _ _ _ _ _ _ _ _ _ _ _ _ _ _ _ _ _ _ _ _ _ _ _ ⟨p, _, hs, nh, tx, nt, RW, RM2, V, Hh.qf (fr.1 3 (by decide)) (fr.2 4 (by decide)), X.qf (fr.1 5 (by decide)) (fr.2 6 (by decide)), Ft.qf (fr.2 7 (by decide)) (fr.2 8 (by decide)) (fr.2 9 (by decide)), hl, I.keep (by rw [ms.1]) (fun k h1 h2 => ms.2 k (by omega) (by omega)), hM, hQ, hG, R65m.qf (fr.1 65 (by decide))⟩
theorem l_b1593 (hN : N ≤ 3584) (ha : a + 7 ≤ N) (g : GoL N xs rec18 (zI (a : Int))) (I : InvL t w b l H k0 k1 k2 k3 k4 k5 k6 k7 x T Lo P M Q G m) : fL_b1593 N xs rec18 t w b l H k0 k1 k2 k3 k4 k5 k6 k7 x T Lo P C M Q d F G r n m (zI (a : Int)) = some 1 := by
  obtain ⟨p, pb, hs, nh, tx, nt, RW, RM, V, Hh, X, Ft, hl, I, hM, hQ, hG, R65m⟩ := I
  obtain ⟨v, r2, m2, e1, e2, ms⟩ := S_wander (t := t) RW RM V (xs (a + 1)) (xs (a + 2)) (xs (a + 3)) (xs (a + 4))
  have fr := ms.qf
  have RM2 := RM.same ms
  unfold fL_b1593
  rw [lrd (c := 1) (z := 1) rfl (by omega) hN, lrd (c := 2) (z := 2) rfl (by omega) hN, lrd (c := 3) (z := 3) rfl (by omega) hN, lrd (c := 4) (z := 4) rfl (by omega) hN, e1, qb2_s, lrd (c := 1) (z := 1) rfl (by omega) hN, lrd (c := 2) (z := 2) rfl (by omega) hN, lrd (c := 3) (z := 3) rfl (by omega) hN, lrd (c := 4) (z := 4) rfl (by omega) hN, e2, qb2_s, if_pos rfl]
  exact g _ _ _ _ _ _ _ _ _ _ _ _ _ _ _ _ _ _ _ _ _ _ _ _ _ _ ⟨p, _, hs, nh, tx, nt, RW, RM2, V, Hh.qf (fr.1 3 (by decide)) (fr.2 4 (by decide)), X.qf (fr.1 5 (by decide)) (fr.2 6 (by decide)), Ft.qf (fr.2 7 (by decide)) (fr.2 8 (by decide)) (fr.2 9 (by decide)), hl, I.keep (by rw [ms.1]) (fun k h1 h2 => ms.2 k (by omega) (by omega)), hM, hQ, hG, R65m.qf (fr.1 65 (by decide))⟩
theorem l_b1646 (hN : N ≤ 3584) (ha : a + 7 ≤ N) (g : GoL N xs rec18 (zI (a : Int))) (I : InvL t w b l H k0 k1 k2 k3 k4 k5 k6 k7 x T Lo P M Q G m) : fL_b1646 N xs rec18 t w b l H k0 k1 k2 k3 k4 k5 k6 k7 x T Lo P C M Q d F G r n m (zI (a : Int)) = some 1 := by
  obtain ⟨p, pb, hs, nh, tx, nt, RW, RM, V, Hh, X, Ft, hl, I, hM, hQ, hG, R65m⟩ := I
  obtain ⟨v, r2, m2, e1, e2, ms⟩ := S_nearestWall (t := t) RW RM V (xs (a + 1)) (xs (a + 2))
  have fr := ms.qf
  have RM2 := RM.same ms
  unfold fL_b1646
  rw [lrd (c := 1) (z := 1) rfl (by omega) hN, lrd (c := 2) (z := 2) rfl (by omega) hN, e1, qb2_s, lrd (c := 1) (z := 1) rfl (by omega) hN, lrd (c := 2) (z := 2) rfl (by omega) hN, e2, qb2_s, if_pos rfl]
  exact g _ _ _ _ _ _ _ _ _ _ _ _ _ _ _ _ _ _ _ _ _ _ _ _ _ _ ⟨p, _, hs, nh, tx, nt, RW, RM2, V, Hh.qf (fr.1 3 (by decide)) (fr.2 4 (by decide)), X.qf (fr.1 5 (by decide)) (fr.2 6 (by decide)), Ft.qf (fr.2 7 (by decide)) (fr.2 8 (by decide)) (fr.2 9 (by decide)), hl, I.keep (by rw [ms.1]) (fun k h1 h2 => ms.2 k (by omega) (by omega)), hM, hQ, hG, R65m.qf (fr.1 65 (by decide))⟩
theorem l_b1679 (hN : N ≤ 3584) (ha : a + 7 ≤ N) (g : GoL N xs rec18 (zI (a : Int))) (I : InvL t w b l H k0 k1 k2 k3 k4 k5 k6 k7 x T Lo P M Q G m) : fL_b1679 N xs rec18 t w b l H k0 k1 k2 k3 k4 k5 k6 k7 x T Lo P C M Q d F G r n m (zI (a : Int)) = some 1 := by
  obtain ⟨p, pb, hs, nh, tx, nt, RW, RM, V, Hh, X, Ft, hl, I, hM, hQ, hG, R65m⟩ := I
  obtain ⟨v, r2, m2, e1, e2, ms⟩ := S_clearance (t := t) RW RM V (xs (a + 1)) (xs (a + 2)) (xs (a + 3))
  have fr := ms.qf
  have RM2 := RM.same ms
  unfold fL_b1679
  rw [lrd (c := 1) (z := 1) rfl (by omega) hN, lrd (c := 2) (z := 2) rfl (by omega) hN, lrd (c := 3) (z := 3) rfl (by omega) hN, e1, qb2_s, lrd (c := 1) (z := 1) rfl (by omega) hN, lrd (c := 2) (z := 2) rfl (by omega) hN, lrd (c := 3) (z := 3) rfl (by omega) hN, e2, qb2_s, if_pos (cmp_eq.mpr rfl)]
  exact g _ _ _ _ _ _ _ _ _ _ _ _ _ _ _ _ _ _ _ _ _ _ _ _ _ _ ⟨p, _, hs, nh, tx, nt, RW, RM2, V, Hh.qf (fr.1 3 (by decide)) (fr.2 4 (by decide)), X.qf (fr.1 5 (by decide)) (fr.2 6 (by decide)), Ft.qf (fr.2 7 (by decide)) (fr.2 8 (by decide)) (fr.2 9 (by decide)), hl, I.keep (by rw [ms.1]) (fun k h1 h2 => ms.2 k (by omega) (by omega)), hM, hQ, hG, R65m.qf (fr.1 65 (by decide))⟩
theorem l_b1723 (hN : N ≤ 3584) (ha : a + 7 ≤ N) (g : GoL N xs rec18 (zI (a : Int))) (I : InvL t w b l H k0 k1 k2 k3 k4 k5 k6 k7 x T Lo P M Q G m) : fL_b1723 N xs rec18 t w b l H k0 k1 k2 k3 k4 k5 k6 k7 x T Lo P C M Q d F G r n m (zI (a : Int)) = some 1 := by
  obtain ⟨p, pb, hs, nh, tx, nt, RW, RM, V, Hh, X, Ft, hl, I, hM, hQ, hG, R65m⟩ := I
  obtain ⟨v, C2, M2, Q2, m2, e1, e2, hM2, hQ2, RM2, cf⟩ := S_piecesWith (t := t) (C := C) RW RM V hM hQ (xs (a + 1)) (xs (a + 2))
  have fr := cf.trf.qf
  unfold fL_b1723
  rw [lrd (c := 1) (z := 1) rfl (by omega) hN, lrd (c := 2) (z := 2) rfl (by omega) hN, e1, qb4_s, lrd (c := 1) (z := 1) rfl (by omega) hN, lrd (c := 2) (z := 2) rfl (by omega) hN, e2, qb2_s, if_pos rfl]
  exact g _ _ _ _ _ _ _ _ _ _ _ _ _ _ _ _ _ _ _ _ _ _ _ _ _ _ ⟨p, _, hs, nh, tx, nt, RW, RM2, V, Hh.qf (fr.1 3 (by decide)) (fr.2 4 (by decide)), X.qf (fr.1 5 (by decide)) (fr.2 6 (by decide)), Ft.qf (fr.2 7 (by decide)) (fr.2 8 (by decide)) (fr.2 9 (by decide)), hl, I.cn cf, hM2, hQ2, hG, R65m.qf (fr.1 65 (by decide))⟩
theorem l_b1756 (hN : N ≤ 3584) (ha : a + 7 ≤ N) (g : GoL N xs rec18 (zI (a : Int))) (I : InvL t w b l H k0 k1 k2 k3 k4 k5 k6 k7 x T Lo P M Q G m) : fL_b1756 N xs rec18 t w b l H k0 k1 k2 k3 k4 k5 k6 k7 x T Lo P C M Q d F G r n m (zI (a : Int)) = some 1 := by
  obtain ⟨p, pb, hs, nh, tx, nt, RW, RM, V, Hh, X, Ft, hl, I, hM, hQ, hG, R65m⟩ := I
  obtain ⟨v, C2, M2, Q2, m2, e1, e2, hM2, hQ2, RM2, cf⟩ := S_bestWeights (t := t) (C := C) RW RM V hM hQ 
  have fr := cf.trf.qf
  unfold fL_b1756
  rw [e1, qb4_s, e2, qb2_s, if_pos rfl]
  exact g _ _ _ _ _ _ _ _ _ _ _ _ _ _ _ _ _ _ _ _ _ _ _ _ _ _ ⟨p, _, hs, nh, tx, nt, RW, RM2, V, Hh.qf (fr.1 3 (by decide)) (fr.2 4 (by decide)), X.qf (fr.1 5 (by decide)) (fr.2 6 (by decide)), Ft.qf (fr.2 7 (by decide)) (fr.2 8 (by decide)) (fr.2 9 (by decide)), hl, I.cn cf, hM2, hQ2, hG, R65m.qf (fr.1 65 (by decide))⟩
theorem l_b1769 (hN : N ≤ 3584) (ha : a + 7 ≤ N) (g : GoL N xs rec18 (zI (a : Int))) (I : InvL t w b l H k0 k1 k2 k3 k4 k5 k6 k7 x T Lo P M Q G m) : fL_b1769 N xs rec18 t w b l H k0 k1 k2 k3 k4 k5 k6 k7 x T Lo P C M Q d F G r n m (zI (a : Int)) = some 1 := by
  obtain ⟨p, pb, hs, nh, tx, nt, RW, RM, V, Hh, X, Ft, hl, I, hM, hQ, hG, R65m⟩ := I
  obtain ⟨v, F2, G2, m2, e1, e2, hG2, RM2, lf⟩ := S_leastPieces (t := t) (F0 := F) RW RM V hG R65m
  have fr := lf.qf
  unfold fL_b1769
  rw [e1, qb3_s, e2, qb2_s, if_pos rfl]
  exact g _ _ _ _ _ _ _ _ _ _ _ _ _ _ _ _ _ _ _ _ _ _ _ _ _ _ ⟨p, _, hs, nh, tx, nt, RW, RM2, V, Hh.qf (fr.1 3 (by decide)) (fr.2 4 (by decide)), X.qf (fr.1 5 (by decide)) (fr.2 6 (by decide)), Ft.qf (fr.2 7 (by decide)) (fr.2 8 (by decide)) (fr.2 9 (by decide)), hl, I.keep (lf.1 10 (by decide) (by decide)) (fun k h1 h2 => lf.2.1 k (by omega) (by omega) (by omega)), hM, hQ, hG2, R65m.qf (fr.1 65 (by decide))⟩
theorem l_b1782 (hN : N ≤ 3584) (ha : a + 7 ≤ N) (g : GoL N xs rec18 (zI (a : Int))) (I : InvL t w b l H k0 k1 k2 k3 k4 k5 k6 k7 x T Lo P M Q G m) : fL_b1782 N xs rec18 t w b l H k0 k1 k2 k3 k4 k5 k6 k7 x T Lo P C M Q d F G r n m (zI (a : Int)) = some 1 := by
  obtain ⟨p, pb, hs, nh, tx, nt, RW, RM, V, Hh, X, Ft, hl, I, hM, hQ, hG, R65m⟩ := I
  obtain ⟨v, F2, G2, m2, e1, e2, hG2, RM2, lf⟩ := S_bestRoot (t := t) (F0 := F) RW RM V hG R65m
  have fr := lf.qf
  unfold fL_b1782
  rw [e1, qb3_s, e2, qb2_s, if_pos rfl]
  exact g _ _ _ _ _ _ _ _ _ _ _ _ _ _ _ _ _ _ _ _ _ _ _ _ _ _ ⟨p, _, hs, nh, tx, nt, RW, RM2, V, Hh.qf (fr.1 3 (by decide)) (fr.2 4 (by decide)), X.qf (fr.1 5 (by decide)) (fr.2 6 (by decide)), Ft.qf (fr.2 7 (by decide)) (fr.2 8 (by decide)) (fr.2 9 (by decide)), hl, I.keep (lf.1 10 (by decide) (by decide)) (fun k h1 h2 => lf.2.1 k (by omega) (by omega) (by omega)), hM, hQ, hG2, R65m.qf (fr.1 65 (by decide))⟩
end S
