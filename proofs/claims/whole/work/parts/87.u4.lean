/-! THE REFERENCE'S TREE: the whole fixed part; what a built tree is -/
section S
variable {m : Pk} {p : Pln} {S B : Int}
theorem M_root_loop : ∀ (n i g : Nat) (m : Pk), i + n = 12 → n < g → ReM m p → (∀ w, w < i → (rt p false w = none → m.1 32 (5 * w) = 0) ∧ ∀ d, rt p false w = some d → cell5 (m.1 32) (5 * w) d) → ∃ m', fX10_makeFixed_b29 g m (zI S) (zI B) (zI (i : Int)) = fX10_makeFixed_b84 FU m' (zI S) (zI B) ∧ m'.2 = m.2 ∧ (∀ r, ¬ r = 32 → m'.1 r = m.1 r) ∧ WR (m'.1 32) 0 (rt p false) := by
  intro n
  induction n with
  | zero =>
    intro i g m hi hg Q H
    obtain ⟨g, rfl⟩ : ∃ k, g = k + 1 := ⟨g - 1, by omega⟩
    have e : i = 12 := by omega
    subst e
    show ∃ m', fX10_makeFixed_b29_s (fX10_makeFixed_b29 g) m _ _ _ = _ ∧ _
    unfold fX10_makeFixed_b29_s
    rw [if_pos (by decide)]
    exact ⟨m, rfl, rfl, fun _ _ => rfl, fun w hw => by rw [Nat.zero_add]; exact H w hw⟩
  | succ n ih =>
    intro i g m hi hg Q H
    obtain ⟨g, rfl⟩ : ∃ k, g = k + 1 := ⟨g - 1, by omega⟩
    have h12 : i < 12 := by omega
    have hb : 5 * i < 2147483648 := by omega
    have k0 : (5 : Int32) * zI (i : Int) = zI ((5 * i : Nat) : Int) := by rw [show (5 : Int32) = zI 5 from rfl, zI_mul]; congr 1
    obtain ⟨m1, a1, a2, a3, a4, a5⟩ := M_put (m := m) (J := 0) (by decide) h12 (0, 1, 1, 1)
    have a1 : fX10_put m 0 (zI (i : Int)) 0 1 1 1 = some m1 := a1
    have Q1 : ReM m1 p := ⟨by rw [a3 0 (by decide)]; exact Q.1, by rw [a2]; exact Q.2.1, by rw [a2]; exact Q.2.2⟩
    have key : fX10_makeFixed_b29 (g + 1) m (zI S) (zI B) (zI (i : Int)) = fX10_makeFixed_b29 g (pkA m1 32 (zI ((5 * i : Nat) : Int)) (if rt p false i = none then 0 else 1)) (zI S) (zI B) (zI ((i + 1 : Nat) : Int)) := by
      show fX10_makeFixed_b29_s (fX10_makeFixed_b29 g) m _ _ _ = _
      unfold fX10_makeFixed_b29_s fX10_makeFixed_b76 fX10_makeFixed_b77
      rw [if_neg (i12a h12), a1, qb1_s, k0, M_at0 Q1 h12, qb1_s, one_b2]
      have fin : ∀ x : Int32, qst 1800 (zI ((5 * i : Nat) : Int)) (qn (pkA m1 32 (zI ((5 * i : Nat) : Int)) x) (fun p77_t => qn (zI (i : Int) + 1) (fun x78 => fX10_makeFixed_b29 g p77_t (zI S) (zI B) x78))) = fX10_makeFixed_b29 g (pkA m1 32 (zI ((5 * i : Nat) : Int)) x) (zI S) (zI B) (zI ((i + 1 : Nat) : Int)) := fun x => by
        rw [qst_at (by omega) (by decide), qn_s, qn_s, ix_s]
      rw [fin, fin]
      unfold rt
      cases hp : pP p i with
      | false => rfl
      | true =>
        rw [if_pos rfl, M_at6 Q1 h12 hp, qb1_s]
        cases pM p i <;> rfl
    have cells : ∀ w, ¬ w = i → ∀ t, t < 5 → (pkA m1 32 (zI ((5 * i : Nat) : Int)) (if rt p false i = none then 0 else 1)).1 32 (5 * w + t) = m.1 32 (5 * w + t) := by
      intro w hw t ht
      rw [pAt hb, if_neg (by omega), a4 _ (by unfold inr; omega)]
    obtain ⟨m', b1, b2', b3, b4⟩ := ih (i + 1) g (pkA m1 32 (zI ((5 * i : Nat) : Int)) (if rt p false i = none then 0 else 1)) (by omega) (by omega) (Q1.bF (bF_A m1 (by decide) hb _)) (fun w hw => by
      by_cases c : w = i
      · subst c
        cases e : rt p false w with
        | none =>
          refine ⟨fun _ => ?_, fun d hd => by cases hd⟩
          rw [if_pos rfl, pAt hb, if_pos ⟨rfl, rfl⟩]
        | some d =>
          obtain ⟨-, -, ed⟩ := rt_some e
          refine ⟨fun h => (by cases h), fun d' hd' => ?_⟩
          cases hd'
          rw [ed]
          rw [Nat.mul_zero, Nat.zero_add] at a5
          obtain ⟨c0, c1, c2, c3, c4⟩ := a5
          refine ⟨?_, ?_, ?_, ?_, ?_⟩
          · rw [pAt hb, if_pos ⟨rfl, rfl⟩]; rfl
          · rw [pAt hb, if_neg (by omega)]; exact c1
          · rw [pAt hb, if_neg (by omega)]; exact c2
          · rw [pAt hb, if_neg (by omega)]; exact c3
          · rw [pAt hb, if_neg (by omega)]; exact c4
      · have g0 := cells w c 0 (by decide)
        rw [Nat.add_zero] at g0
        obtain ⟨x, y⟩ := H w (by omega)
        refine ⟨fun h => g0.trans (x h), fun d hd => ?_⟩
        unfold cell5
        rw [g0, cells w c 1 (by decide), cells w c 2 (by decide), cells w c 3 (by decide), cells w c 4 (by decide)]
        exact y d hd)
    exact ⟨m', key.trans b1, by rw [b2', pA2, a2], fun r hr => by rw [b3 r hr, pA1 hb, if_neg hr, a3 r hr], b4⟩
theorem M_fixed (Q : ReM m p) (V : VP p) (hS : 0 ≤ S ∧ S ≤ 9) (hB : 0 ≤ B ∧ B ≤ 9) : ∃ m' nd, fX10_makeFixed m (zI S) (zI B) = some m' ∧ PH m' (nN (p, S, B, rtL p false) []) (nP (p, S, B, rtL p false) []) nd ∧ m'.2.1 26 = zI (cd (p, S, B, rtL p false) []) ∧ bF m m' ∧ ∀ π, Ls (p, S, B, rtL p false) π ≠ [] → nd (num (p, S, B, rtL p false) π) = Rn (p, S, B, rtL p false) π := by
  have G := rtL_GT (p := p) V hS hB false
  have hF : FxT (p, S, B, rtL p false) := rfl
  have e0 : (pkI (pkI (pkI (pkI m 25 0) 31 0) 26 (-1)) 35 1).2.1 35 = 1 := rfl
  unfold fX10_makeFixed
  simp only [qn_s]
  rw [show qst 30 0 (fX10_makeFixed_b29 FU (pkA (pkI (pkI (pkI (pkI m 25 0) 31 0) 26 (-1)) 35 1) 33 0 (-1)) (zI S) (zI B) 0) = fX10_makeFixed_b29 FU (pkA (pkI (pkI (pkI (pkI m 25 0) 31 0) 26 (-1)) 35 1) 33 0 (-1)) (zI S) (zI B) 0 from qst_at (i := 0) (by decide) (by decide)]
  have b0 : bF m (pkA (pkI (pkI (pkI (pkI m 25 0) 31 0) 26 (-1)) 35 1) 33 (zI ((0 : Nat) : Int)) (-1)) := ((((bF_I m (r := 25) (by decide) _).tr (bF_I _ (r := 31) (by decide) _)).tr (bF_I _ (r := 26) (by decide) _)).tr (bF_I _ (r := 35) (by decide) _)).tr (bF_A _ (r := 33) (by decide) (by decide) _)
  obtain ⟨m1, a1, a2, a3, a4⟩ := M_root_loop (S := S) (B := B) 12 0 FU _ rfl (by decide) (Q.bF b0) (fun w hw => absurd hw (by omega))
  have c144 := nP_144 G
  have cN := nN_nP G []
  have cL := nL_nN G []
  have b1 : bF m m1 := b0.tr ⟨fun r hr => a3 r (by omega), fun _ _ => by rw [a2], by rw [a2]⟩
  obtain ⟨m2, nd, d1, d2, d3, d4, d5, d6, d7, d8, d9⟩ := F_sub G hF [] m1 (fun _ => (0, 0, 0, [])) 0 none (by decide) (by decide) (by show 0 + _ ≤ _; omega) (by show 0 + _ ≤ _; omega) (Q.bF b1) ⟨by rw [a2]; rfl, by rw [a2]; rfl, by show 0 ≤ 160; decide, by show 0 ≤ 160; decide, fun k hk => absurd hk (by show ¬ k < 0; omega)⟩ (by rw [a2]; rfl) a4 (by rw [a3 33 (by decide), pAt (by decide), if_pos ⟨rfl, rfl⟩]; rfl) trivial trivial
  refine ⟨m2, nd, ?_, ?_, ?_, b1.tr d5, fun π hπ => ?_⟩
  · rw [show fX10_makeFixed_b29 FU (pkA (pkI (pkI (pkI (pkI m 25 0) 31 0) 26 (-1)) 35 1) 33 0 (-1)) (zI S) (zI B) 0 = fX10_makeFixed_b84 FU m1 (zI S) (zI B) from a1]
    have := d1 (4095 - (nN (p, S, B, rtL p false) [] + nL (p, S, B, rtL p false) []) + 1)
    rw [show 4095 - (nN (p, S, B, rtL p false) [] + nL (p, S, B, rtL p false) []) + 1 + (nN (p, S, B, rtL p false) [] + nL (p, S, B, rtL p false) []) = FU by show _ = 4096; omega] at this
    rw [show fX10_makeFixed_b84 FU m1 (zI S) (zI B) = _ from this]
    show fX10_makeFixed_b84_s (fX10_makeFixed_b84 _) m2 _ _ = some m2
    unfold fX10_makeFixed_b84_s
    rw [d3, if_pos (by decide)]
  · have z1 : num (p, S, B, rtL p false) [] + nN (p, S, B, rtL p false) [] = nN (p, S, B, rtL p false) [] := Nat.zero_add _
    have z2 : pnum (p, S, B, rtL p false) [] + nP (p, S, B, rtL p false) [] = nP (p, S, B, rtL p false) [] := Nat.zero_add _
    rw [z1, z2] at d2
    exact d2
  · rw [d4]
    have e26 : m1.2.1 26 = zI (-1) := by rw [a2]; rfl
    unfold cd
    rw [e26]
    split <;> rfl
  · have := d7 π (by rw [List.append_nil]; exact hπ)
    rw [List.append_nil] at this
    exact this
end S
section S
variable {T : Tr} {X Y : List Bool → Option (Nat × List Pc)} {pth : Nat → List Bool} {N k : Nat} {nd : Nat → Nd} {rt : Int} {π : List Bool}
/-- a tree's code in the reference: no node, or its number -/
def cdx (X : List Bool → Option (Nat × List Pc)) (pth : Nat → List Bool) (N : Nat) (π : List Bool) (c : Int) : Prop := (X π = none ∧ c = -1) ∨ ∃ j : Nat, j < N ∧ pth j = π ∧ c = (j : Int)
def ndx (X : List Bool → Option (Nat × List Pc)) (pth : Nat → List Bool) (N : Nat) (π : List Bool) (d : Nd) : Prop := X π = some (d.1, d.2.2.2.map (fun a => a.2)) ∧ cdx X pth N (true :: π) d.2.1 ∧ cdx X pth N (false :: π) d.2.2.1
/-- a built tree: what stands at each path; where each number's path is -/
def TIx (X : List Bool → Option (Nat × List Pc)) (pth : Nat → List Bool) (N : Nat) (rt : Int) (nd : Nat → Nd) : Prop := (∀ j k, j < N → k < N → pth j = pth k → j = k) ∧ (∀ k, k < N → ndx X pth N (pth k) (nd k)) ∧ (∀ π, X π ≠ none → ∃ k, k < N ∧ pth k = π) ∧ cdx X pth N [] rt
def Xo (T : Tr) (π : List Bool) : Option (Nat × List Pc) := if (Ls T π).isEmpty then none else some (sw T π, onl T π)
theorem Xo_leaf (h : Ls T π = []) : Xo T π = none := by unfold Xo; rw [h]; rfl
theorem Xo_node (h : Ls T π ≠ []) : Xo T π = some (sw T π, onl T π) := by unfold Xo; rw [if_neg (by rw [List.isEmpty_iff]; exact h)]
theorem idl_map : ∀ (l : List Pc) (M : Nat), (idl M l).map (fun a => a.2) = l
  | [], _ => rfl
  | q :: l, M => by show q :: _ = _; rw [idl_map l]
/-- a number's path -/
def pa (T : Tr) : Nat → List Bool → Nat → List Bool
  | 0, π, _ => π
  | n + 1, π, i => if i = 0 then π else if i - 1 < nN T (true :: π) then pa T n (true :: π) (i - 1) else pa T n (false :: π) (i - 1 - nN T (true :: π))
theorem pa_num (G : GT T) : ∀ (n : Nat) (π σ : List Bool), σ.length ≤ n → Ls T (σ ++ π) ≠ [] → pa T n π (num T (σ ++ π) - num T π) = σ ++ π
  | 0, π, σ, h, _ => by
    have e : σ = [] := List.length_eq_zero_iff.mp (by omega)
    rw [e]; rfl
  | n + 1, π, σ, h, hσ => by
    rcases snoc σ with e | ⟨τ, x, e⟩
    · rw [e, List.nil_append, Nat.sub_self]; rfl
    · subst e
      rw [List.length_append, List.length_singleton] at h
      rw [List.append_assoc] at hσ ⊢
      have nt : num T (true :: π) = num T π + 1 := rfl
      have nf : num T (false :: π) = num T π + 1 + nN T (true :: π) := rfl
      have q3 := nN_pos G hσ
      cases x with
      | true =>
        have hσ : Ls T (τ ++ true :: π) ≠ [] := hσ
        have q3 := nN_pos G hσ
        obtain ⟨q1, q2, -, -⟩ := num_bd G (π := true :: π) τ hσ
        show (if num T (τ ++ true :: π) - num T π = 0 then _ else if num T (τ ++ true :: π) - num T π - 1 < nN T (true :: π) then pa T n (true :: π) (num T (τ ++ true :: π) - num T π - 1) else _) = τ ++ true :: π
        rw [if_neg (by omega), if_pos (by omega), show num T (τ ++ true :: π) - num T π - 1 = num T (τ ++ true :: π) - num T (true :: π) by omega]
        exact pa_num G n (true :: π) τ (by omega) hσ
      | false =>
        have hσ : Ls T (τ ++ false :: π) ≠ [] := hσ
        obtain ⟨q1, q2, -, -⟩ := num_bd G (π := false :: π) τ hσ
        show (if num T (τ ++ false :: π) - num T π = 0 then _ else if num T (τ ++ false :: π) - num T π - 1 < nN T (true :: π) then _ else pa T n (false :: π) (num T (τ ++ false :: π) - num T π - 1 - nN T (true :: π))) = τ ++ false :: π
        rw [if_neg (by omega), if_neg (by omega), show num T (τ ++ false :: π) - num T π - 1 - nN T (true :: π) = num T (τ ++ false :: π) - num T (false :: π) by omega]
        exact pa_num G n (false :: π) τ (by omega) hσ
theorem pa_root (G : GT T) (h : Ls T π ≠ []) : pa T 12 [] (num T π) = π := by
  have := pa_num G 12 [] π (by have := Ls_depth G h; omega) (by rw [List.append_nil]; exact h)
  rw [List.append_nil] at this
  exact this
theorem num_inj (G : GT T) {π' : List Bool} (h : Ls T π ≠ []) (h' : Ls T π' ≠ []) (e : num T π = num T π') : π = π' := by
  rw [← pa_root G h, e, pa_root G h']
theorem num_lt (G : GT T) (h : Ls T π ≠ []) : num T π < nN T [] := by
  have := num_bd G (π := []) π (by rw [List.append_nil]; exact h)
  rw [List.append_nil] at this
  have hp := nN_pos G h
  have z : num T [] = 0 := rfl
  omega
theorem pa_ex (G : GT T) (hk : k < nN T []) : Ls T (pa T 12 [] k) ≠ [] ∧ num T (pa T 12 [] k) = k := by
  obtain ⟨σ, a, b⟩ := num_ex G [] k hk
  rw [List.append_nil] at a b
  have e : num T σ = k := by rw [b]; exact Nat.zero_add _
  rw [← e, pa_root G a]
  exact ⟨a, rfl⟩
theorem cdx_cd (G : GT T) : cdx (Xo T) (pa T 12 []) (nN T []) π (cd T π) := by
  by_cases c : Ls T π = []
  · exact Or.inl ⟨Xo_leaf c, cd_leaf c⟩
  · exact Or.inr ⟨num T π, num_lt G c, pa_root G c, cd_node c⟩
/-- the fixed part is a built tree -/
theorem Fx_TI (G : GT T) (h : ∀ π, Ls T π ≠ [] → nd (num T π) = Rn T π) : TIx (Xo T) (pa T 12 []) (nN T []) (cd T []) nd := by
  refine ⟨fun j k hj hk e => ?_, fun k hk => ?_, fun π hπ => ?_, cdx_cd G⟩
  · rw [← (pa_ex G hj).2, ← (pa_ex G hk).2, e]
  · obtain ⟨a, b⟩ := pa_ex G hk
    have e := h _ a
    rw [b] at e
    refine ⟨?_, ?_, ?_⟩
    · rw [Xo_node a, e]
      show _ = some (sw T _, (idl _ _).map _)
      rw [idl_map]
    · rw [e]; exact cdx_cd G
    · rw [e]; exact cdx_cd G
  · have hn : Ls T π ≠ [] := fun e => hπ (Xo_leaf e)
    exact ⟨num T π, num_lt G hn, pa_root G hn⟩
end S
