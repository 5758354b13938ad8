/-! THE REFERENCE'S TREE: new nodes; lists as rows of twelve -/
section S
variable {m m' : Pk} {N M k : Nat} {nd : Nat → Nd}
theorem Chn.same {c : List (Nat × Pc)} (h : Chn m M k c) (e23 : m'.1 23 k = m.1 23 k) (e : ∀ r, r = 24 ∨ (27 ≤ r ∧ r ≤ 30) → m'.1 r = m.1 r) : Chn m' M k c := by
  obtain ⟨h1, h2, h3⟩ := h
  refine ⟨e23.trans h1, fun a q h => by rw [e 24 (by decide)]; exact h2 a q h, fun j a q h => ?_⟩
  rw [e 27 (by decide), e 28 (by decide), e 29 (by decide), e 30 (by decide)]
  exact h3 j a q h
theorem Chn_nil (h : m.1 23 k = zI (-1)) : Chn m M k [] := ⟨h, fun a q h => (by rw [List.getElem?_nil] at h; cases h), fun j a q h => (by rw [List.getElem?_nil] at h; cases h)⟩
def newN (nd : Nat → Nd) (N u : Nat) : Nat → Nd := ug nd N (u, -1, -1, [])
/-- a subtree hung on a node -/
def lk (d : Nd) (s : Bool) (n : Int) : Nd := if s then (d.1, n, d.2.2.1, d.2.2.2) else (d.1, d.2.1, n, d.2.2.2)
def st4 (m : Pk) (N u : Nat) : Pk := pkA (pkA (pkA (pkA m 20 (zI (N : Int)) (zI (u : Int))) 21 (zI (N : Int)) (-1)) 22 (zI (N : Int)) (-1)) 23 (zI (N : Int)) (-1)
theorem st4_o {u : Nat} (hN : N < 160) {r j : Nat} (h : ¬ (20 ≤ r ∧ r ≤ 23) ∨ ¬ j = N) : (st4 m N u).1 r j = m.1 r j := by
  unfold st4
  rw [pAt (by omega), if_neg (by omega), pAt (by omega), if_neg (by omega), pAt (by omega), if_neg (by omega), pAt (by omega), if_neg (by omega)]
theorem st4_n {u : Nat} (hN : N < 160) : (st4 m N u).1 20 N = zI (u : Int) ∧ (st4 m N u).1 21 N = zI (-1) ∧ (st4 m N u).1 22 N = zI (-1) ∧ (st4 m N u).1 23 N = zI (-1) := by
  unfold st4
  refine ⟨?_, ?_, ?_, ?_⟩
  · rw [pAt (by omega), if_neg (by omega), pAt (by omega), if_neg (by omega), pAt (by omega), if_neg (by omega), pAt (by omega), if_pos ⟨rfl, rfl⟩]
  · rw [pAt (by omega), if_neg (by omega), pAt (by omega), if_neg (by omega), pAt (by omega), if_pos ⟨rfl, rfl⟩]; rfl
  · rw [pAt (by omega), if_neg (by omega), pAt (by omega), if_pos ⟨rfl, rfl⟩]; rfl
  · rw [pAt (by omega), if_pos ⟨rfl, rfl⟩]; rfl
theorem M_addNode0 (H : PH m N M nd) {u : Nat} {s : Int32} (hN : N < 160) : ∃ m', fX10_addNode m (zI (u : Int)) (zI (-1)) s = some (zI (N : Int), m') ∧ PH m' (N + 1) M (newN nd N u) ∧ stS m m' ∧ m'.2.1 26 = zI (N : Int) := by
  obtain ⟨h1, h2, h3, h4, h5⟩ := id H
  unfold fX10_addNode fX10_addNode_b82
  simp only [qn_s, pA2, h1]
  rw [qst_at hN (by decide), qst_at hN (by decide), qst_at hN (by decide), qst_at hN (by decide), if_neg (by decide)]
  rw [show pkA (pkA (pkA (pkA m 20 (zI (N : Int)) (zI (u : Int))) 21 (zI (N : Int)) (-1)) 22 (zI (N : Int)) (-1)) 23 (zI (N : Int)) (-1) = st4 m N u from rfl]
  have s2 : (st4 m N u).2 = m.2 := rfl
  obtain ⟨n1, n2, n3, n4⟩ := st4_n (m := m) (u := u) hN
  have e25 : (pkI (st4 m N u) 26 (zI (N : Int))).2.1 25 = zI (N : Int) := by rw [pI, if_neg (by decide), s2]; exact h1
  rw [e25, ix_s]
  have e25' : (pkI (pkI (st4 m N u) 26 (zI (N : Int))) 25 (zI ((N + 1 : Nat) : Int))).2.1 25 - 1 = zI (N : Int) := by
    rw [pI, if_pos rfl, z1, zI_sub]; congr 1; omega
  rw [e25']
  refine ⟨_, rfl, ⟨?_, ?_, by omega, h4, fun j hj => ?_⟩, ⟨fun r r1 r2 => ?_, fun j j1 j2 j3 => ?_, rfl⟩, ?_⟩
  · rw [pI, if_pos rfl]
  · rw [pI, if_neg (by decide), pI, if_neg (by decide), s2]; exact h2
  · unfold PHn newN
    rw [pI1, pI1]
    by_cases c : j = N
    · subst c
      rw [ug_s]
      exact ⟨n1, n2, n3, Chn_nil n4⟩
    · rw [ug_n _ _ c, st4_o hN (Or.inr c), st4_o hN (Or.inr c), st4_o hN (Or.inr c)]
      obtain ⟨x1, x2, x3, x4⟩ := h5 j (by omega)
      refine ⟨x1, x2, x3, x4.same (by rw [pI1, pI1]; exact st4_o hN (Or.inr c)) (fun r hr => ?_)⟩
      rw [pI1, pI1]
      funext i
      exact st4_o hN (Or.inl (by omega))
  · rw [pI1, pI1]; funext i; exact st4_o hN (Or.inl (by omega))
  · rw [pI, if_neg j1, pI, if_neg j2]; rfl
  · rw [pI, if_neg (by decide), pI, if_pos rfl]
theorem M_addNode (H : PH m N M nd) {u : Nat} (s : Bool) (hN : N < 160) (hk : k < N) : ∃ m', fX10_addNode m (zI (u : Int)) (zI (k : Int)) (if s then 0 else 1) = some (zI (N : Int), m') ∧ PH m' (N + 1) M (ug (newN nd N u) k (lk (nd k) s (N : Int))) ∧ stS m m' ∧ m'.2.1 26 = m.2.1 26 := by
  obtain ⟨h1, h2, h3, h4, h5⟩ := id H
  have kb : k < 2147483648 := by omega
  have p0 : 0 ≤ zI (k : Int) := by rw [z0, zI_le r0 (rI_n (by omega))]; omega
  have s2 : (st4 m N u).2 = m.2 := rfl
  obtain ⟨n1, n2, n3, n4⟩ := st4_n (m := m) (u := u) hN
  have key : fX10_addNode m (zI (u : Int)) (zI (k : Int)) (if s then 0 else 1) = some (zI (N : Int), pkI (pkA (st4 m N u) (if s then 21 else 22) (zI (k : Int)) (zI (N : Int))) 25 (zI ((N + 1 : Nat) : Int))) := by
    unfold fX10_addNode fX10_addNode_b82
    simp only [qn_s, pA2, h1]
    rw [qst_at hN (by decide), qst_at hN (by decide), qst_at hN (by decide), qst_at hN (by decide), if_pos p0, qst_at (by omega) (by decide), qst_at (by omega) (by decide), ix_s]
    have e25 : ∀ x : Pk, (pkI x 25 (zI ((N + 1 : Nat) : Int))).2.1 25 - 1 = zI (N : Int) := fun x => by
      rw [pI, if_pos rfl, z1, zI_sub]; congr 1; omega
    rw [e25, e25]
    cases s with
    | true => rw [if_pos (by decide)]; rfl
    | false => rw [if_neg (by decide)]; rfl
  rw [key]
  refine ⟨_, rfl, ⟨?_, ?_, by omega, h4, fun j hj => ?_⟩, ⟨fun r r1 r2 => ?_, fun j j1 j2 j3 => ?_, rfl⟩, ?_⟩
  · rw [pI, if_pos rfl]
  · rw [pI, if_neg (by decide), pA2, s2]; exact h2
  · unfold PHn
    rw [pI1]
    by_cases c : j = k
    · subst c
      rw [ug_s]
      obtain ⟨x1, x2, x3, x4⟩ := h5 j hk
      have nj : ¬ j = N := by omega
      have ch : Chn (pkI (pkA (st4 m N u) (if s then 21 else 22) (zI (j : Int)) (zI (N : Int))) 25 (zI ((N + 1 : Nat) : Int))) M j (nd j).2.2.2 := by
        refine x4.same ?_ (fun r hr => ?_)
        · rw [pI1]
          cases s <;> (rw [pAt kb, if_neg (by intro g; exact absurd g.1 (by decide))]; exact st4_o hN (Or.inr nj))
        · rw [pI1]
          funext i
          cases s with
          | true => rw [if_pos rfl, pAt kb, if_neg (by omega)]; exact st4_o hN (Or.inl (by omega))
          | false => rw [if_neg (by decide), pAt kb, if_neg (by omega)]; exact st4_o hN (Or.inl (by omega))
      cases s with
      | true =>
        rw [if_pos rfl] at ch ⊢
        refine ⟨?_, ?_, ?_, ch⟩
        · rw [pAt kb, if_neg (by omega), st4_o hN (Or.inr nj)]; exact x1
        · rw [pAt kb, if_pos ⟨rfl, rfl⟩]; rfl
        · rw [pAt kb, if_neg (by omega), st4_o hN (Or.inr nj)]; exact x3
      | false =>
        rw [if_neg (by decide)] at ch ⊢
        refine ⟨?_, ?_, ?_, ch⟩
        · rw [pAt kb, if_neg (by omega), st4_o hN (Or.inr nj)]; exact x1
        · rw [pAt kb, if_neg (by omega), st4_o hN (Or.inr nj)]; exact x2
        · rw [pAt kb, if_pos ⟨rfl, rfl⟩]; rfl
    · rw [ug_n _ _ c]
      unfold newN
      have e : ∀ r, (pkA (st4 m N u) (if s then 21 else 22) (zI (k : Int)) (zI (N : Int))).1 r j = (st4 m N u).1 r j := fun r => by rw [pAt kb, if_neg (fun g => c g.2)]
      rw [e, e, e]
      by_cases d : j = N
      · subst d
        rw [ug_s]
        exact ⟨n1, n2, n3, Chn_nil (by rw [pI1, e]; exact n4)⟩
      · rw [ug_n _ _ d, st4_o hN (Or.inr d), st4_o hN (Or.inr d), st4_o hN (Or.inr d)]
        obtain ⟨x1, x2, x3, x4⟩ := h5 j (by omega)
        refine ⟨x1, x2, x3, x4.same (by rw [pI1, e]; exact st4_o hN (Or.inr d)) (fun r hr => ?_)⟩
        rw [pI1]
        funext i
        cases s with
        | true => rw [if_pos rfl, pAt kb, if_neg (by omega)]; exact st4_o hN (Or.inl (by omega))
        | false => rw [if_neg (by decide), pAt kb, if_neg (by omega)]; exact st4_o hN (Or.inl (by omega))
  · rw [pI1]
    funext i
    cases s with
    | true => rw [if_pos rfl, pAt kb, if_neg (by omega)]; exact st4_o hN (Or.inl (by omega))
    | false => rw [if_neg (by decide), pAt kb, if_neg (by omega)]; exact st4_o hN (Or.inl (by omega))
  · rw [pI, if_neg j1]; rfl
  · rw [pI, if_neg (by decide)]; rfl
end S
section S
variable {m m' : Pk} {p : Pln} {S B : Int} {r : Nat → Option (Int × Int × Int × Int)} {f : Nat → Int32} {o v j : Nat}
/-- a row of twelve stands in cells from o on -/
def WR (f : Nat → Int32) (o : Nat) (r : Nat → Option (Int × Int × Int × Int)) : Prop := ∀ w, w < 12 → (r w = none → f (o + 5 * w) = 0) ∧ ∀ d, r w = some d → f (o + 5 * w) = 1 ∧ f (o + 5 * w + 1) = zI d.1 ∧ f (o + 5 * w + 2) = zI d.2.1 ∧ f (o + 5 * w + 3) = zI d.2.2.1 ∧ f (o + 5 * w + 4) = zI d.2.2.2
theorem ix65 (j w c : Nat) : (60 : Int32) * zI (j : Int) + (5 : Int32) * zI (w : Int) = zI ((60 * j + 5 * w : Nat) : Int) := by
  rw [show (60 : Int32) = zI 60 from rfl, show (5 : Int32) = zI 5 from rfl, zI_mul, zI_mul, zI_add]; congr 1
theorem ix_c1 (n c : Nat) : zI (n : Int) + zI (c : Int) = zI ((n + c : Nat) : Int) := by rw [zI_add]; congr 1
theorem rowL_s (n : Nat) : rowL r (n + 1) = (match r (11 - n) with
    | some d => [(11 - n, d)]
    | none => []) ++ rowL r n := rfl
theorem rowL_some {n : Nat} {d : Int × Int × Int × Int} (h : r (11 - n) = some d) : rowL r (n + 1) = (11 - n, d) :: rowL r n := by rw [rowL_s, h]; rfl
theorem rowL_none {n : Nat} (h : r (11 - n) = none) : rowL r (n + 1) = rowL r n := by rw [rowL_s, h]; rfl
theorem M_price_loop (Q : ReM m p) (V : VP p) (hj : j < 30) (W : WR (m.1 32) (60 * j) r) (vr : ∀ w d, w < 12 → r w = some d → vpc p (w, d)) (hv : v < 12) (pv : pP p v = true) : ∀ (n i g : Nat) (c f : Int), i + n = 12 → n < g → -1000 + n ≤ f ∧ f + n ≤ 1000 → fX10_price_b9 m g (zI (j : Int)) (zI (v : Int)) (zI S) (zI B) (zI c) (zI f) (zI (i : Int)) = some (zI (S * (prc p v (rowL r n) c f).1 + B * (if 0 ≤ (prc p v (rowL r n) c f).2 then (prc p v (rowL r n) c f).2 else -(prc p v (rowL r n) c f).2))) := by
  intro n
  induction n with
  | zero =>
    intro i g c f hi hg hf
    obtain ⟨g, rfl⟩ : ∃ k, g = k + 1 := ⟨g - 1, by omega⟩
    have e : i = 12 := by omega
    subst e
    show fX10_price_b9_s (fX10_price_b9 m g) m _ _ _ _ _ _ _ = _
    unfold fX10_price_b9_s
    have le : 0 ≤ zI f ↔ 0 ≤ f := by rw [z0, zI_le r0 (rI_s (by omega) (by omega))]
    show _ = some (zI (S * c + B * (if 0 ≤ f then f else -f)))
    rw [if_pos (by decide)]
    by_cases k : 0 ≤ f
    · rw [if_pos (le.mpr k), if_pos k, zI_mul, zI_mul, zI_add]
    · rw [if_neg (fun g => k (le.mp g)), if_neg k, zI_neg, zI_mul, zI_mul, zI_add]
  | succ n ih =>
    intro i g c f hi hg hf
    obtain ⟨g, rfl⟩ : ∃ k, g = k + 1 := ⟨g - 1, by omega⟩
    have h12 : i < 12 := by omega
    have ei : 11 - n = i := by omega
    obtain ⟨w0, w1⟩ := W i h12
    show fX10_price_b9_s (fX10_price_b9 m g) m _ _ _ _ _ _ _ = _
    unfold fX10_price_b9_s fX10_price_b125
    rw [if_neg (i12a h12), qn_s, ix65 j i 0, qld_at (by omega) (by decide)]
    cases e : r i with
    | none =>
      rw [w0 e, if_neg (by decide), qn_s, ix_s, rowL_none (by rw [ei]; exact e)]
      exact ih (i + 1) g c f (by omega) (by omega) (by omega)
    | some d =>
      obtain ⟨f0, f1, f2, f3, f4⟩ := w1 d e
      have k1 : zI ((60 * j + 5 * i : Nat) : Int) + 1 = zI ((60 * j + 5 * i + 1 : Nat) : Int) := ix_s _
      have k2 : zI ((60 * j + 5 * i : Nat) : Int) + 2 = zI ((60 * j + 5 * i + 2 : Nat) : Int) := ix_c1 _ 2
      have k3 : zI ((60 * j + 5 * i : Nat) : Int) + 3 = zI ((60 * j + 5 * i + 3 : Nat) : Int) := ix_c1 _ 3
      have k4 : zI ((60 * j + 5 * i : Nat) : Int) + 4 = zI ((60 * j + 5 * i + 4 : Nat) : Int) := ix_c1 _ 4
      have Wq := vr i d h12 e
      have hm : fX10_relation m (zI (v : Int)) (zI (i : Int)) (zI d.1) (zI d.2.1) (zI d.2.2.1) (zI d.2.2.2) = some (zI (rm (rel p v (i, d)))) := M_relation (q := (i, d)) Q V hv pv Wq
      rw [f0, if_pos rfl, k1, k2, k3, k4, qld_at (by omega) (by decide), qld_at (by omega) (by decide), qld_at (by omega) (by decide), qld_at (by omega) (by decide), f1, f2, f3, f4, hm, qb1_s, rowL_some (by rw [ei]; exact e), ei]
      unfold fX10_price_b96 fX10_price_b122 fX10_price_b125
      simp only [qn_s, ix_s]
      unfold prc
      have go := fun (c f : Int) (hf : -1000 + n ≤ f ∧ f + n ≤ 1000) => ih (i + 1) g c f (by omega) (by omega) hf
      have hk : rel p v (i, d) = 0 ∨ rel p v (i, d) = 1 ∨ rel p v (i, d) = 2 ∨ rel p v (i, d) = 3 := by
        have : rel p v (i, d) ≤ 3 := relI_le _ _
        omega
      have e1 : ∀ c : Int, zI c + 1 = zI (c + 1) := fun c => by rw [z1, zI_add]
      have e0 : ∀ c : Int, zI c + 0 = zI c := fun c => Int32.add_zero _
      have em : zI f + (-1) = zI (f - 1) := by rw [zm1, zI_add]; rfl
      rcases hk with e | e | e | e
      · rw [e, if_neg (by decide), if_neg (by decide), if_neg (by decide), if_neg (by decide), if_neg (by decide), if_neg (by decide), e0, e0]
        exact go c f (by omega)
      · rw [e, if_neg (by decide), if_pos (by decide), if_neg (by decide), if_pos rfl, e0, e1]
        exact go c (f + 1) (by omega)
      · rw [e, if_neg (by decide), if_neg (by decide), if_pos (by decide), if_neg (by decide), if_neg (by decide), if_pos rfl, e0, em]
        exact go c (f - 1) (by omega)
      · rw [e, if_pos (by decide), if_neg (by decide), if_neg (by decide), if_pos rfl, if_neg (by decide), if_neg (by decide), e0, e1]
        exact go (c + 1) f (by omega)
theorem M_price (Q : ReM m p) (V : VP p) (hj : j < 30) (W : WR (m.1 32) (60 * j) r) (vr : ∀ w d, w < 12 → r w = some d → vpc p (w, d)) (hv : v < 12) (pv : pP p v = true) : fX10_price m (zI (j : Int)) (zI (v : Int)) (zI S) (zI B) = some (zI (price p S B v (rowL r 12))) := by
  unfold fX10_price price
  exact M_price_loop Q V hj W vr hv pv 12 0 FU 0 0 rfl (by decide) (by omega)
end S
