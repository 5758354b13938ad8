/-! EDITS: the beginning of an edit, setWeights, undo, setKind, removeWall -/
section S
variable {p : Pln} {t w H k0 k1 k2 k3 k4 k5 k6 k7 m : Pk} {hs : Nat → Pln} {n : Nat}
def Hi (H k0 k1 k2 k3 k4 k5 k6 k7 m : Pk) (hs : Nat → Pln) (n : Nat) : Prop := CH H k0 k1 k2 k3 k4 k5 k6 k7 hs n ∧ MH m hs n ∧ ∀ d, d < n → VP (hs d)
theorem MH.of {m m' : Pk} (h : MH m hs n) (e3 : m'.1 3 = m.1 3) (e4 : m'.2.1 4 = m.2.1 4) : MH m' hs n := ⟨h.1, e4.trans h.2.1, fun d hd => (h.2.2 d hd).of (fun j _ => by rw [e3])⟩
/-- what an edit leaves of the reference -/
def edM (m m' : Pk) : Prop := (∀ k, ¬ k = 0 → ¬ k = 3 → m'.1 k = m.1 k) ∧ (∀ k, ¬ k = 1 → ¬ k = 2 → ¬ k = 4 → m'.2.1 k = m.2.1 k) ∧ m'.2.2 = m.2.2
theorem edM.rf (m : Pk) : edM m m := ⟨fun _ _ _ => rfl, fun _ _ _ _ => rfl, rfl⟩
theorem edM.tr {a b c : Pk} (h : edM a b) (g : edM b c) : edM a c := ⟨fun k h0 h3 => (g.1 k h0 h3).trans (h.1 k h0 h3), fun k h1 h2 h4 => (g.2.1 k h1 h2 h4).trans (h.2.1 k h1 h2 h4), g.2.2.trans h.2.2⟩
theorem eSame.ed {m m' : Pk} (h : eSame m m') : edM m m' := ⟨fun k _ h3 => h.1 k h3, fun k _ _ h4 => h.2.1 k h4, h.2.2⟩
theorem uSame.ed {m m' : Pk} (h : uSame m m') : edM m m' := ⟨fun k h0 _ => h.1 k h0, h.2.1, h.2.2⟩
theorem psh_vp (V : VP p) (h : ∀ d, d < n → VP (hs d)) : ∀ d, d < nk n → VP (psh p hs d) := by
  intro d hd
  unfold psh
  by_cases c : d = 0
  · rw [if_pos c]; exact V
  · rw [if_neg c]
    refine h (d - 1) ?_
    unfold nk at hd
    split at hd <;> omega
theorem E_begin (R : ReW w p) (Q : ReM m p) (V : VP p) (h : Hi H k0 k1 k2 k3 k4 k5 k6 k7 m hs n) : ∃ H' a0 a1 a2 a3 a4 a5 a6 a7 m1, fX9_beginEdit w t H k0 k1 k2 k3 k4 k5 k6 k7 = some (pkI t 12 0, H', a0, a1, a2, a3, a4, a5, a6, a7) ∧ fX10_keep m = some m1 ∧ eSame m m1 ∧ Hi H' a0 a1 a2 a3 a4 a5 a6 a7 m1 (psh p hs) (nk n) := by
  obtain ⟨h1, h2, h3⟩ := h
  obtain ⟨H', a0, a1, a2, a3, a4, a5, a6, a7, c1, c2⟩ := C_keep R h1
  obtain ⟨m1, b1, b2, b3⟩ := M_keep Q h2
  refine ⟨H', a0, a1, a2, a3, a4, a5, a6, a7, m1, ?_, b1, b2, c2, b3, psh_vp V h3⟩
  unfold fX9_beginEdit
  rw [c1]
  rfl
/-- both sides edit alike -/
def Ed (c : Option (Int32 × Pk × Pk × Pk × Pk × Pk × Pk × Pk × Pk × Pk × Pk × Pk)) (d : Option (Int32 × Pk)) (t m : Pk) (p : Pln) : Prop := ∃ v t' w' H' a0 a1 a2 a3 a4 a5 a6 a7 m' p' hs' n', c = some (v, t', w', H', a0, a1, a2, a3, a4, a5, a6, a7) ∧ d = some (v, m') ∧ ReW w' p' ∧ ReM m' p' ∧ VP p' ∧ Hi H' a0 a1 a2 a3 a4 a5 a6 a7 m' hs' n' ∧ edM m m' ∧ ((t' = t ∧ p' = p) ∨ t' = pkI t 12 0)
theorem Ed_no {v : Int32} (R : ReW w p) (Q : ReM m p) (V : VP p) (h : Hi H k0 k1 k2 k3 k4 k5 k6 k7 m hs n) : Ed (some (v, t, w, H, k0, k1, k2, k3, k4, k5, k6, k7)) (some (v, m)) t m p := ⟨v, t, w, H, k0, k1, k2, k3, k4, k5, k6, k7, m, p, hs, n, rfl, rfl, R, Q, V, h, edM.rf m, Or.inl ⟨rfl, rfl⟩⟩
def pW (p : Pln) (s b : Int) : Pln := (pP p, pM p, pK p, pX p, pY p, pU p, pV p, s, b)
theorem pW_vp {s b : Int} (V : VP p) (hs : 0 ≤ s ∧ s ≤ 9) (hb : 0 ≤ b ∧ b ≤ 9) : VP (pW p s b) := ⟨V.1, hs, hb⟩
def ok9 (a : Int32) : Bool := decide (0 ≤ a) && decide (a ≤ 9)
theorem ok9_z {a : Int32} (h : ok9 a = true) : ∃ x : Int, a = zI x ∧ 0 ≤ x ∧ x ≤ 9 := by
  unfold ok9 at h
  simp only [Bool.and_eq_true, decide_eq_true_eq, Int32.le_iff_toInt_le] at h
  have h0 : (0 : Int32).toInt = 0 := by decide
  have h9 : (9 : Int32).toInt = 9 := by decide
  exact ⟨a.toInt, (zI_self a).symm, by omega, by omega⟩
theorem C_badWeights (a b : Int32) : fX9_areBadWeights a b = some (b2 (!(ok9 a && ok9 b))) := by
  unfold fX9_areBadWeights
  rw [C_isOutside, qb1_s]
  show _ = some (b2 (!((decide (0 ≤ a) && decide (a ≤ 9)) && (decide (0 ≤ b) && decide (b ≤ 9)))))
  cases h : (decide (0 ≤ a) && decide (a ≤ 9)) with
  | false => rfl
  | true =>
    rw [ifNT, C_isOutside, qb1_s]
    cases h : (decide (0 ≤ b) && decide (b ≤ 9)) <;> rfl
theorem n9 {a : Int32} (h : ok9 a = false) : a < 0 ∨ (0 ≤ a ∧ 9 < a) := by
  unfold ok9 at h
  simp only [Bool.and_eq_false_iff, decide_eq_false_iff_not] at h
  by_cases c : a < 0
  · exact Or.inl c
  · refine Or.inr ⟨nlt.mp c, ?_⟩
    rcases h with h | h
    · exact absurd (nlt.mp c) h
    · exact nle.mp h
theorem S_setWeights (R : ReW w p) (Q : ReM m p) (V : VP p) (h : Hi H k0 k1 k2 k3 k4 k5 k6 k7 m hs n) (a1 a2 : Int32) : Ed (fX9_setWeights t w H k0 k1 k2 k3 k4 k5 k6 k7 a1 a2) (fX10_setWeights m a1 a2) t m p := by
  unfold fX9_setWeights fX10_setWeights
  rw [C_badWeights, qb1_s]
  cases h1 : ok9 a1 with
  | false =>
    rw [Bool.false_and, ifNF]
    rcases n9 h1 with c | ⟨c, d⟩
    · rw [if_pos c]; exact Ed_no R Q V h
    · rw [if_neg (nlt.mpr c), if_pos d]; exact Ed_no R Q V h
  | true =>
    obtain ⟨x, rfl, gx⟩ := ok9_z h1
    have g1 : zI 0 ≤ zI x := (zI_le r0 (rI_s (by omega) (by omega))).mpr gx.1
    have g2 : zI x ≤ zI 9 := (zI_le (rI_s (by omega) (by omega)) (rI_s (by decide) (by decide))).mpr gx.2
    rw [Bool.true_and, if_neg (show ¬ zI x < 0 from nlt.mpr g1), if_neg (show ¬ 9 < zI x from nlt.mpr g2)]
    cases h2 : ok9 a2 with
    | false =>
      rw [ifNF]
      rcases n9 h2 with c | ⟨c, d⟩
      · rw [if_pos c]; exact Ed_no R Q V h
      · rw [if_neg (nlt.mpr c), if_neg (nle.mpr d)]; exact Ed_no R Q V h
    | true =>
      obtain ⟨y, rfl, gy⟩ := ok9_z h2
      have g3 : zI 0 ≤ zI y := (zI_le r0 (rI_s (by omega) (by omega))).mpr gy.1
      have g4 : zI y ≤ zI 9 := (zI_le (rI_s (by omega) (by omega)) (rI_s (by decide) (by decide))).mpr gy.2
      rw [ifNT, if_neg (show ¬ zI y < 0 from nlt.mpr g3), if_pos (show zI y ≤ 9 from g4)]
      obtain ⟨H', a0, a1, a2, a3, a4, a5, a6, a7, m1, b1, b2, b3, b4⟩ := E_begin (t := t) R Q V h
      unfold fX8_weightCode fX10_weights fX8_changeWeights
      rw [qb1_s, b1, qb1_s, b2, qb1_s, qn_s, qn_s, R.2.1, R.2.2, Q.2.1, Q.2.2]
      refine ⟨_, pkI t 12 0, pkI (pkI w 7 (zI x)) 8 (zI y), H', a0, a1, a2, a3, a4, a5, a6, a7, pkI (pkI m1 1 (zI x)) 2 (zI y), pW p x y, psh p hs, nk n, rfl, rfl, ⟨R.1, rfl, rfl⟩, ⟨(Q.eS b3).1, rfl, rfl⟩, pW_vp V gx gy, ⟨b4.1, b4.2.1.of rfl rfl, b4.2.2⟩, b3.ed.tr ⟨fun _ _ _ => rfl, fun k k1 k2 _ => ?_, rfl⟩, Or.inr rfl⟩
      rw [pI, if_neg k2, pI, if_neg k1]
theorem S_undo (R : ReW w p) (Q : ReM m p) (V : VP p) (h : Hi H k0 k1 k2 k3 k4 k5 k6 k7 m hs n) : ∃ v t' w' H' m' p' hs' n', fX9_undo k0 k1 k2 k3 k4 k5 k6 k7 t w H = some (v, t', w', H') ∧ fX10_undo m = some (v, m') ∧ ReW w' p' ∧ ReM m' p' ∧ VP p' ∧ Hi H' k0 k1 k2 k3 k4 k5 k6 k7 m' hs' n' ∧ edM m m' ∧ ((t' = t ∧ p' = p) ∨ t' = pkI t 12 0) := by
  obtain ⟨h1, h2, h3⟩ := id h
  obtain ⟨hn, q, hq, c1, c2, c3⟩ := id h1
  unfold fX9_undo fX2_isEmpty fX2_size
  by_cases c : n = 0
  · subst c
    rw [M_undo_0 h2, c2, if_pos (show zI ((0 : Nat) : Int) = 0 from rfl), qb1_s, if_neg (by decide)]
    exact ⟨_, t, w, H, m, p, hs, 0, rfl, rfl, R, Q, V, h, edM.rf m, Or.inl ⟨rfl, rfl⟩⟩
  · have n0 : ¬ zI (n : Int) = 0 := by rw [z0, zI_eq (rI_n (by omega)) r0]; omega
    obtain ⟨H', w', d1, d2, d3, d4⟩ := C_restore (w := w) (by omega) h1
    obtain ⟨m', e1, e2, e3, e4⟩ := M_undo (by omega) h2
    rw [c2, if_neg n0, qb1_s, if_pos rfl, d1, qb2_s, qn_s, qb1_s, e1, d4]
    exact ⟨_, pkI t 12 0, w', H', m', hs 0, fun d => hs (d + 1), n - 1, rfl, rfl, d2, e3, h3 0 (by omega), ⟨d3, e4, fun d hd => h3 (d + 1) (by omega)⟩, e2.ed, Or.inr rfl⟩
end S
