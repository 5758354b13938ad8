/-! THE REFERENCE'S TREE: one node made; the fixed part -/
section S
variable {m m' : Pk} {p : Pln} {S B : Int} {N M J : Nat} {nd : Nat → Nd} {r : Nat → Option (Int × Int × Int × Int)} {par : Option (Nat × Bool)}
theorem M_b145_step {s g : Nat} (hJ : J + 1 < 30) (hs : s < 2) {y3 y5 : Int32} (h35 : m.2.1 35 = zI (J : Int)) : ∃ m', fX10_makeNode_b145 (g + 1) m y3 y5 (zI (s : Int)) = fX10_makeNode_b145 g m' y3 y5 (zI ((s + 1 : Nat) : Int)) ∧ m'.2 = m.2 ∧ (∀ r, ¬ r = 32 → ¬ r = 33 → ¬ r = 34 → m'.1 r = m.1 r) ∧ m'.1 33 (J + s) = y5 ∧ m'.1 34 (J + s) = 1 - zI (s : Int) ∧ (∀ x, ¬ x = J + s → m'.1 33 x = m.1 33 x ∧ m'.1 34 x = m.1 34 x) ∧ (∀ w, w < 12 → m'.1 32 (60 * (J + s) + 5 * w) = 0) ∧ ∀ x, (∀ w, w < 12 → ¬ x = 60 * (J + s) + 5 * w) → m'.1 32 x = m.1 32 x := by
  have hb : J + s < 2147483648 := by omega
  have n2 : ¬ (2 : Int32) ≤ zI (s : Int) := ix_a (n := 2) hs (by decide)
  have key : fX10_makeNode_b145 (g + 1) m y3 y5 (zI (s : Int)) = fX10_makeNode_b184 (fX10_makeNode_b145 g) FU (pkA (pkA m 33 (zI ((J + s : Nat) : Int)) y5) 34 (zI ((J + s : Nat) : Int)) (1 - zI (s : Int))) y3 y5 (zI (s : Int)) 0 := by
    show fX10_makeNode_b145_s (fX10_makeNode_b145 g) m _ _ _ = _
    unfold fX10_makeNode_b145_s
    rw [if_neg n2, h35, ix_c1 J s, qst_at (by omega) (by decide), qn_s, pA2, h35, ix_c1 J s, qst_at (by omega) (by decide), qn_s]
  obtain ⟨m', a1, a2, a3, a4, a5⟩ := M_clear (rec := fX10_makeNode_b145 g) (y3 := y3) (y5 := y5) hJ hs 12 0 FU (pkA (pkA m 33 (zI ((J + s : Nat) : Int)) y5) 34 (zI ((J + s : Nat) : Int)) (1 - zI (s : Int))) rfl (by decide) h35
  refine ⟨m', key.trans a1, a2, fun r h1 h2 h3 => ?_, ?_, ?_, fun x hx => ⟨?_, ?_⟩, fun w hw => a4 w (by omega) hw, fun x hx => ?_⟩
  · rw [a3 r h1, pA1 hb, if_neg h3, pA1 hb, if_neg h2]
  · rw [a3 33 (by decide), pAt hb, if_neg (by omega), pAt hb, if_pos ⟨rfl, rfl⟩]
  · rw [a3 34 (by decide), pAt hb, if_pos ⟨rfl, rfl⟩]
  · rw [a3 33 (by decide), pAt hb, if_neg (by omega), pAt hb, if_neg (fun g => hx g.2)]
  · rw [a3 34 (by decide), pAt hb, if_neg (fun g => hx g.2), pAt hb, if_neg (by omega)]
  · rw [a5 x (fun w _ hw => hx w hw), pAt hb, if_neg (by omega), pAt hb, if_neg (by omega)]
theorem pick_is (fx : List Pc) : ∀ (l : List Pc) (o : Nat × Int), ∃ b c, pick p S B fx l (some o) = some (b, c)
  | [], (b, c) => ⟨b, c, rfl⟩
  | q :: l, (b, c) => by
    rw [pick_c]
    by_cases h : price p S B q.1 fx < c
    · rw [if_pos h]; exact pick_is fx l _
    · rw [if_neg h]; exact pick_is fx l _
theorem pick_ne (fx : List Pc) {l : List Pc} (h : l ≠ []) : ∃ b c, pick p S B fx l none = some (b, c) := by
  cases l with
  | nil => exact absurd rfl h
  | cons q l => rw [pick_n]; exact pick_is fx l _
theorem fxp_all : ∀ {l : List Pc}, (∀ q, q ∈ l → pM p q.1 = false) → fxp p l = l
  | [], _ => rfl
  | q :: l, h => by
    unfold fxp
    rw [List.takeWhile_cons, h q List.mem_cons_self, if_pos (show (!false) = true from rfl)]
    congr 1
    exact fxp_all (fun x hx => h x (List.mem_cons_of_mem _ hx))
theorem rowL_in {w : Nat} {d : Int × Int × Int × Int} (hw : w < 12) (h : r w = some d) : ∀ n : Nat, 12 ≤ w + n → n ≤ 12 → (w, d) ∈ rowL r n
  | 0, h1, _ => absurd h1 (by omega)
  | n + 1, h1, h2 => by
    by_cases c : 11 - n = w
    · rw [rowL_some (n := n) (d := d) (by rw [c]; exact h), c]; exact List.mem_cons_self
    · rw [rowL_s]
      exact List.mem_append.mpr (Or.inr (rowL_in hw h n (by omega) (by omega)))
theorem M_makeNode (Q : ReM m p) (V : VP p) (hS : 0 ≤ S ∧ S ≤ 9) (hB : 0 ≤ B ∧ B ≤ 9) (hJ : J + 1 < 30) (h35 : m.2.1 35 = zI (J : Int)) (W : WR (m.1 32) (60 * J) r) (vr : ∀ w d, w < 12 → r w = some d → vpc p (w, d)) (fx : ∀ q, q ∈ rowL r 12 → pM p q.1 = false) (H : PH m N M nd) (hN : N < 160) (hM : M + (ons p (spl p S B (rowL r 12)) (rowL r 12)).length ≤ 150) (hp : parOk par N) (h33 : m.1 33 J = parZ par) (h34 : sdOk par (m.1 34 J)) (ne : rowL r 12 ≠ []) : ∃ m', fX10_makeNode m (zI S) (zI B) = some m' ∧ PH m' (N + 1) (M + (ons p (spl p S B (rowL r 12)) (rowL r 12)).length) (addPs N (hang nd N (spl p S B (rowL r 12)) par) M (ons p (spl p S B (rowL r 12)) (rowL r 12))) ∧ m'.2.1 35 = zI ((J + 2 : Nat) : Int) ∧ m'.2.1 26 = rootZ par N (m.2.1 26) ∧ bF m m' ∧ (∀ s : Bool, WR (m'.1 32) (60 * (if s then J + 1 else J)) (rowp p r (spl p S B (rowL r 12)) s)) ∧ (∀ s : Bool, m'.1 33 (if s then J + 1 else J) = zI (N : Int) ∧ m'.1 34 (if s then J + 1 else J) = if s then 0 else 1) ∧ (∀ x, x < 60 * J → m'.1 32 x = m.1 32 x) ∧ ∀ x, x < J → m'.1 33 x = m.1 33 x ∧ m'.1 34 x = m.1 34 x := by
  obtain ⟨y3, y4, c1, c2⟩ := M_pick_loop Q V hS hB (by omega) h35 W vr 12 0 FU none (zI (-1)) 0 rfl (by decide) rfl
  obtain ⟨b, c, hbc⟩ := pick_ne (p := p) (S := S) (B := B) (rowL r 12) ne
  have hv : spl p S B (rowL r 12) = b := by
    unfold spl
    rw [fxp_all fx, hbc]
  rw [hbc] at c1
  obtain ⟨d1, d2, -⟩ := c1
  have ok : pP p b = true := by
    obtain ⟨q, hq, e⟩ := spl_mem (p := p) (S := S) (B := B) ne
    obtain ⟨e1, e2⟩ := rowL_mem 12 (by omega) hq
    rw [← hv, ← e]
    exact (vr q.1 q.2 e1.2 e2).1.2
  rw [hv] at hM ⊢
  have lenb : (ons p b (rowL r 12)).length ≤ 12 := Nat.le_trans (List.length_filter_le _ _) (rowL_len r 12)
  obtain ⟨m1, e1, e2, e3, e4⟩ := M_hang (u := b) H hN hp h34
  have f35 : m1.2.1 35 = zI (J : Int) := (e3.2.1 35 (by decide) (by decide) (by decide)).trans h35
  have f32 : m1.1 32 = m.1 32 := e3.1 32 (by decide) (by decide)
  have f33 : m1.1 33 = m.1 33 := e3.1 33 (by decide) (by decide)
  have f34 : m1.1 34 = m.1 34 := e3.1 34 (by decide) (by decide)
  obtain ⟨m2, g1, g2, g3, g4⟩ := M_take (J := J) (y3 := zI (b : Int)) (y5 := zI (N : Int)) (by omega) 60 0 FU m1 rfl (by decide) f35 (fun x hx => absurd hx (by omega))
  obtain ⟨m3, i1, i2, i3, i4, i5, i6, i7, i8⟩ := M_b145_step (m := m2) (J := J) (s := 0) (g := 4095) (y3 := zI (b : Int)) (y5 := zI (N : Int)) hJ (by decide) (by rw [g2]; exact f35)
  obtain ⟨m4, j1, j2, j3, j4, j5, j6, j7, j8⟩ := M_b145_step (m := m3) (J := J) (s := 1) (g := 4094) (y3 := zI (b : Int)) (y5 := zI (N : Int)) hJ (by decide) (by rw [i2, g2]; exact f35)
  have H4 : PH m4 (N + 1) M (hang nd N b par) := e2.of (fun r hr => by rw [j3 r (by omega) (by omega) (by omega), i3 r (by omega) (by omega) (by omega), g3 r (by omega)]) (by rw [j2, i2, g2]) (by rw [j2, i2, g2])
  have B4 : bF m m4 := e3.b.tr ⟨fun r hr => by rw [j3 r (by omega) (by omega) (by omega), i3 r (by omega) (by omega) (by omega), g3 r (by omega)], fun k _ => by rw [j2, i2, g2], by rw [j2, i2, g2]⟩
  have W4 : WR (m4.1 36) 0 r := by
    intro w hw
    have e : m4.1 36 = m2.1 36 := by rw [j3 36 (by decide) (by decide) (by decide), i3 36 (by decide) (by decide) (by decide)]
    obtain ⟨a, b⟩ := W w hw
    rw [e, g4 _ (by omega), g4 _ (by omega), g4 _ (by omega), g4 _ (by omega), g4 _ (by omega), f32]
    rw [show 60 * J + (0 + 5 * w) = 60 * J + 5 * w by omega, show 60 * J + (0 + 5 * w + 1) = 60 * J + 5 * w + 1 by omega, show 60 * J + (0 + 5 * w + 2) = 60 * J + 5 * w + 2 by omega, show 60 * J + (0 + 5 * w + 3) = 60 * J + 5 * w + 3 by omega, show 60 * J + (0 + 5 * w + 4) = 60 * J + 5 * w + 4 by omega]
    exact ⟨a, b⟩
  have C4 : ∀ s : Bool, WR (m4.1 32) (60 * (if s then J + 1 else J)) (cutr p r b s 0) := by
    intro s w hw
    have e0 : cutr p r b s 0 w = none := by unfold cutr; rw [if_neg (by omega)]
    refine ⟨fun _ => ?_, fun d hd => by rw [e0] at hd; cases hd⟩
    cases s with
    | true => exact j7 w hw
    | false =>
      rw [if_neg (by decide), j8 _ (fun w' _ => by omega)]
      exact i7 w hw
  obtain ⟨m5, k1, k2, k3, k4, k5, k6, k7, k8, k9⟩ := M_part_loop (p := p) (v := b) (k := N) (N := N + 1) (J := J) V d2 ok hJ (by omega) vr 12 0 FU m4 M (hang nd N b par) rfl (by decide) (Q.bF B4) H4 (by rw [j2, i2, g2]; exact f35) W4 C4 (by omega)
  have run : fX10_makeNode m (zI S) (zI B) = some m5 := by
    unfold fX10_makeNode
    rw [show fX10_makeNode_b8 FU m (zI S) (zI B) (-1) 0 0 = afterPick m y3 from c2]
    unfold afterPick
    have p0 : 0 ≤ y3 := by rw [d1, z0, zI_le r0 (rI_n (by omega))]; omega
    rw [if_pos p0, h35, qld_at (by omega) (by decide), qld_at (by omega) (by decide), h33, d1, e1, qb2_s]
    rw [show fX10_makeNode_b107 FU m1 (zI (b : Int)) (zI (N : Int)) 0 = fX10_makeNode_b145 FU m2 (zI (b : Int)) (zI (N : Int)) 0 from g1]
    rw [show fX10_makeNode_b145 FU m2 (zI (b : Int)) (zI (N : Int)) 0 = fX10_makeNode_b145 4095 m3 (zI (b : Int)) (zI (N : Int)) (zI ((0 + 1 : Nat) : Int)) from i1]
    rw [show fX10_makeNode_b145 4095 m3 (zI (b : Int)) (zI (N : Int)) (zI ((0 + 1 : Nat) : Int)) = fX10_makeNode_b145 4094 m4 (zI (b : Int)) (zI (N : Int)) (zI ((1 + 1 : Nat) : Int)) from j1]
    have last : fX10_makeNode_b145 (4093 + 1) m4 (zI (b : Int)) (zI (N : Int)) (zI ((1 + 1 : Nat) : Int)) = fX10_makeNode_b227 FU m4 (zI (b : Int)) (zI (N : Int)) 0 := by
      show fX10_makeNode_b145_s (fX10_makeNode_b145 4093) m4 _ _ _ = _
      unfold fX10_makeNode_b145_s
      rw [if_pos (by decide)]
    exact last.trans k1
  refine ⟨m5, run, k2, k3, ?_, B4.tr k5, k8, fun s => ?_, fun x hx => ?_, fun x hx => ?_⟩
  · rw [k4, j2, i2, g2, e4]
  · rw [k6, k7]
    cases s with
    | true => exact ⟨j4, by rw [show m4.1 34 (if true = true then J + 1 else J) = m4.1 34 (J + 1) from rfl, j5]; decide⟩
    | false =>
      have := j6 J (by omega)
      refine ⟨?_, ?_⟩
      · rw [show m4.1 33 (if false = true then J + 1 else J) = m4.1 33 J from rfl, this.1]; exact i4
      · rw [show m4.1 34 (if false = true then J + 1 else J) = m4.1 34 J from rfl, this.2]
        exact i5.trans (by decide)
  · rw [k9 x hx, j8 x (fun w _ => by omega), i8 x (fun w _ => by omega), g3 32 (by decide), f32]
  · rw [k6, k7, (j6 x (by omega)).1, (j6 x (by omega)).2, (i6 x (by omega)).1, (i6 x (by omega)).2, g3 33 (by decide), g3 34 (by decide), f33, f34]
    exact ⟨rfl, rfl⟩
/-- an empty list makes nothing -/
theorem M_makeNode0 (Q : ReM m p) (V : VP p) (hS : 0 ≤ S ∧ S ≤ 9) (hB : 0 ≤ B ∧ B ≤ 9) (hJ : J < 30) (h35 : m.2.1 35 = zI (J : Int)) (W : WR (m.1 32) (60 * J) r) (vr : ∀ w d, w < 12 → r w = some d → vpc p (w, d)) (e : rowL r 12 = []) : fX10_makeNode m (zI S) (zI B) = some m := by
  obtain ⟨y3, y4, c1, c2⟩ := M_pick_loop Q V hS hB hJ h35 W vr 12 0 FU none (zI (-1)) 0 rfl (by decide) rfl
  rw [e] at c1
  have c1 : y3 = zI (-1) := c1
  unfold fX10_makeNode
  rw [show fX10_makeNode_b8 FU m (zI S) (zI B) (-1) 0 0 = afterPick m y3 from c2]
  unfold afterPick
  rw [c1, if_neg (by decide)]
end S
