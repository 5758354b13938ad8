/-! THE REFERENCE'S TREE: a movable piece put in: what changes -/
section S
variable {p : Pln} {S B : Int} {l : List Pc} {q0 : Pc} {π : List Bool}
/-- what of a piece gets to a path -/
def dn (T' : Tr) (q0 : Pc) : List Bool → List Pc
  | [] => [q0]
  | s :: π => prts T'.1 (sw T' π) s (dn T' q0 π)
theorem dn_one (T' : Tr) : ∀ π : List Bool, dn T' q0 π = [] ∨ ∃ q, dn T' q0 π = [q] ∧ q.1 = q0.1
  | [] => Or.inr ⟨q0, rfl, rfl⟩
  | s :: π => by
    show prts T'.1 (sw T' π) s (dn T' q0 π) = [] ∨ ∃ q, prts T'.1 (sw T' π) s (dn T' q0 π) = [q] ∧ q.1 = q0.1
    rcases dn_one T' π with h | ⟨q, h, e⟩
    · rw [h]; exact Or.inl rfl
    · rw [h]
      have : prts T'.1 (sw T' π) s [q] = prt T'.1 (sw T' π) s q := by rw [prts_cons, prts_nil, List.append_nil]
      rw [this]
      rcases prt_cases (p := T'.1) (v := sw T' π) s q with h2 | ⟨r, h2, e2⟩
      · exact Or.inl h2
      · exact Or.inr ⟨r, h2, e2.trans e⟩
theorem dn_nil (T' : Tr) (h : dn T' q0 π = []) : ∀ σ : List Bool, dn T' q0 (σ ++ π) = []
  | [] => h
  | s :: σ => by
    show prts T'.1 (sw T' (σ ++ π)) s (dn T' q0 (σ ++ π)) = []
    rw [dn_nil T' h σ]; rfl
theorem sw_ins (hq : pM p q0.1 = true) (h : Ls (p, S, B, l ++ [q0]) π = Ls (p, S, B, l) π ++ dn (p, S, B, l ++ [q0]) q0 π) (ne : Ls (p, S, B, l) π ≠ []) : sw (p, S, B, l ++ [q0]) π = sw (p, S, B, l) π := by
  unfold sw
  rw [h]
  rcases dn_one (p, S, B, l ++ [q0]) (q0 := q0) π with e | ⟨q, e, e2⟩
  · rw [e, List.append_nil]
  · rw [e]; exact spl_app ne (by show pM p q.1 = true; rw [e2]; exact hq)
theorem Lins (hq : pM p q0.1 = true) : ∀ π : List Bool, Ls (p, S, B, l ++ [q0]) π = Ls (p, S, B, l) π ++ dn (p, S, B, l ++ [q0]) q0 π
  | [] => rfl
  | s :: π => by
    have ih := Lins hq π
    rw [Ls_s, Ls_s, ih]
    show prts p _ s _ = prts p _ s _ ++ prts p (sw (p, S, B, l ++ [q0]) π) s _
    rw [prts_app]
    congr 1
    by_cases c : Ls (p, S, B, l) π = []
    · rw [c]; rfl
    · rw [sw_ins hq ih c]
theorem Ls_below {T : Tr} (h : Ls T π = []) : ∀ σ : List Bool, Ls T (σ ++ π) = []
  | [] => h
  | s :: σ => by rw [List.cons_append, Ls_s, Ls_below h σ]; rfl
theorem FO_same {α : Type} {T T' : Tr} {lf : List Bool → α} {nd nd' : List Bool → α → α → α} : ∀ (n : Nat) (π : List Bool), (∀ σ, Ls T' (σ ++ π) = Ls T (σ ++ π)) → (∀ σ, nd' (σ ++ π) = nd (σ ++ π)) → fo T' lf nd' n π = fo T lf nd n π
  | 0, π, _, _ => rfl
  | n + 1, π, h, g => by
    show (if (Ls T' π).isEmpty then _ else _) = (if (Ls T π).isEmpty then _ else _)
    rw [show Ls T' π = Ls T π from h [], show nd' π = nd π from g []]
    have a1 : ∀ (x : Bool) σ, Ls T' (σ ++ x :: π) = Ls T (σ ++ x :: π) := fun x σ => by
      have := h (σ ++ [x])
      rw [List.append_assoc] at this
      exact this
    have b1 : ∀ (x : Bool) σ, nd' (σ ++ x :: π) = nd (σ ++ x :: π) := fun x σ => by
      have := g (σ ++ [x])
      rw [List.append_assoc] at this
      exact this
    rw [FO_same (lf := lf) n (true :: π) (a1 true) (b1 true), FO_same (lf := lf) n (false :: π) (a1 false) (b1 false)]
/-- where nothing of the piece gets, nothing changes -/
theorem same_below (hq : pM p q0.1 = true) (h : dn (p, S, B, l ++ [q0]) q0 π = []) : (∀ σ, Ls (p, S, B, l ++ [q0]) (σ ++ π) = Ls (p, S, B, l) (σ ++ π)) ∧ (∀ σ, Xo (p, S, B, l ++ [q0]) (σ ++ π) = Xo (p, S, B, l) (σ ++ π)) ∧ nN (p, S, B, l ++ [q0]) π = nN (p, S, B, l) π ∧ nP (p, S, B, l ++ [q0]) π = nP (p, S, B, l) π := by
  have h1 : ∀ σ, Ls (p, S, B, l ++ [q0]) (σ ++ π) = Ls (p, S, B, l) (σ ++ π) := fun σ => by rw [Lins hq, dn_nil _ h, List.append_nil]
  have h2 : ∀ σ, sw (p, S, B, l ++ [q0]) (σ ++ π) = sw (p, S, B, l) (σ ++ π) := fun σ => by unfold sw; rw [h1]
  have h3 : ∀ σ, onl (p, S, B, l ++ [q0]) (σ ++ π) = onl (p, S, B, l) (σ ++ π) := fun σ => by unfold onl; rw [h1, h2]
  refine ⟨h1, fun σ => ?_, FO_same _ π h1 (fun _ => rfl), FO_same _ π h1 (fun σ => ?_)⟩
  · unfold Xo; rw [h1, h2, h3]
  · funext a b; rw [h3]
/-- at a leaf the piece becomes a node of its own -/
theorem leaf_ins (G' : GT (p, S, B, l ++ [q0])) (hq : pM p q0.1 = true) (c : Ls (p, S, B, l) π = []) {q : Pc} (h : dn (p, S, B, l ++ [q0]) q0 π = [q]) : Xo (p, S, B, l ++ [q0]) π = some (q0.1, [q]) ∧ (∀ s, dn (p, S, B, l ++ [q0]) q0 (s :: π) = []) ∧ nN (p, S, B, l ++ [q0]) π = 1 ∧ nP (p, S, B, l ++ [q0]) π = 1 := by
  have eq1 : q.1 = q0.1 := by
    rcases dn_one (p, S, B, l ++ [q0]) (q0 := q0) π with e | ⟨r, e, e2⟩
    · rw [h] at e; cases e
    · rw [h] at e; cases e; exact e2
  have e : Ls (p, S, B, l ++ [q0]) π = [q] := by rw [Lins hq, c, h]; rfl
  have es : sw (p, S, B, l ++ [q0]) π = q.1 := by unfold sw; rw [e]; exact spl_one (by show pM p q.1 = true; rw [eq1]; exact hq)
  have rs : rel p q.1 q = 0 := rel_self q
  have eo : onl (p, S, B, l ++ [q0]) π = [q] := by
    unfold onl
    rw [es, e]
    show ons p q.1 [q] = [q]
    rw [ons_cons_t rs]; rfl
  have ed : ∀ s, dn (p, S, B, l ++ [q0]) q0 (s :: π) = [] := by
    intro s
    show prts p (sw (p, S, B, l ++ [q0]) π) s (dn (p, S, B, l ++ [q0]) q0 π) = []
    rw [h, es, prts_cons, prts_nil, List.append_nil]
    unfold prt
    rw [if_neg (by rw [rs]; decide), if_neg (by rw [rs]; cases s <;> decide)]
  have ne : Ls (p, S, B, l ++ [q0]) π ≠ [] := by rw [e]; intro h; cases h
  have lf : ∀ s, Ls (p, S, B, l ++ [q0]) (s :: π) = [] := fun s => by
    have h1 := Ls_below c [s]
    rw [Lins hq, ed s, List.append_nil]; exact h1
  refine ⟨by rw [Xo_node ne, es, eo, eq1], ed, ?_, ?_⟩
  · rw [nN_node G' ne, nN_leaf (lf true), nN_leaf (lf false)]
  · rw [nP_node G' ne, nP_leaf (lf true), nP_leaf (lf false), eo]; rfl
/-- at a node -/
theorem node_ins (hq : pM p q0.1 = true) (ne : Ls (p, S, B, l) π ≠ []) {q : Pc} (h : dn (p, S, B, l ++ [q0]) q0 π = [q]) : Ls (p, S, B, l ++ [q0]) π ≠ [] ∧ sw (p, S, B, l ++ [q0]) π = sw (p, S, B, l) π ∧ onl (p, S, B, l ++ [q0]) π = onl (p, S, B, l) π ++ ons p (sw (p, S, B, l) π) [q] ∧ ∀ s, dn (p, S, B, l ++ [q0]) q0 (s :: π) = prt p (sw (p, S, B, l) π) s q := by
  have es := sw_ins (S := S) (B := B) hq (Lins hq π) ne
  refine ⟨?_, es, ?_, fun s => ?_⟩
  · rw [Lins hq]; intro e; exact ne (List.append_eq_nil_iff.mp e).1
  · unfold onl
    rw [es, Lins hq, h]
    exact ons_app _ _
  · show prts p (sw (p, S, B, l ++ [q0]) π) s (dn (p, S, B, l ++ [q0]) q0 π) = _
    rw [h, es, prts_cons, prts_nil, List.append_nil]
end S
section S
variable {X Y X' : List Bool → Option (Nat × List Pc)} {pth : Nat → List Bool} {N k M : Nat} {nd : Nat → Nd} {rt : Int} {π π' : List Bool}
/-- below a path -/
def sx (π π' : List Bool) : Bool := decide (π'.drop (π'.length - π.length) = π)
theorem sx_app (σ : List Bool) : sx π (σ ++ π) = true := by
  unfold sx
  rw [List.length_append, Nat.add_sub_cancel, List.drop_left]
  exact decide_eq_true rfl
theorem sx_ex (h : sx π π' = true) : ∃ σ, π' = σ ++ π := by
  unfold sx at h
  have h := of_decide_eq_true h
  exact ⟨π'.take (π'.length - π.length), by
    have := List.take_append_drop (π'.length - π.length) π'
    rw [h] at this
    exact this.symm⟩
def Xu (X : List Bool → Option (Nat × List Pc)) (π : List Bool) (Y : List Bool → Option (Nat × List Pc)) (π' : List Bool) : Option (Nat × List Pc) := if sx π π' then Y π' else X π'
theorem Xu_in (σ : List Bool) : Xu X π Y (σ ++ π) = Y (σ ++ π) := by unfold Xu; rw [sx_app, if_pos rfl]
theorem Xu_out (h : ¬ ∃ σ, π' = σ ++ π) : Xu X π Y π' = X π' := by
  unfold Xu
  rw [if_neg (fun g => h (sx_ex g))]
theorem TIx.cg (h : TIx X pth N rt nd) (e : ∀ π, X' π = X π) : TIx X' pth N rt nd := by
  have : X' = X := funext e
  rw [this]; exact h
/-- a number that stands for a path -/
theorem TIx.code (h : TIx X pth N rt nd) {c : Int} (hc : cdx X pth N π c) : (X π = none → c = -1) ∧ (X π ≠ none → ∃ j, j < N ∧ pth j = π ∧ c = ((j : Nat) : Int)) := by
  rcases hc with ⟨a, b⟩ | ⟨j, a, b, e⟩
  · exact ⟨fun _ => b, fun g => absurd a g⟩
  · refine ⟨fun g => ?_, fun _ => ⟨j, a, b, e⟩⟩
    have := (h.2.1 j a).1
    rw [b, g] at this
    cases this
/-- a parent: none at the root -/
def parAt (par : Option (Nat × Bool)) (pth : Nat → List Bool) (N : Nat) (π : List Bool) : Prop := (par = none ∧ π = []) ∨ ∃ k s, par = some (k, s) ∧ k < N ∧ π = s :: pth k
theorem parAt.ok {par : Option (Nat × Bool)} (h : parAt par pth N π) : parOk par N := by
  rcases h with ⟨a, -⟩ | ⟨k, s, a, b, -⟩
  · rw [a]; trivial
  · rw [a]; exact b
def rootI (par : Option (Nat × Bool)) (N : Nat) (x : Int) : Int := match par with
  | none => (N : Int)
  | some _ => x
theorem rootZ_I (par : Option (Nat × Bool)) (N : Nat) (x : Int) : rootZ par N (zI x) = zI (rootI par N x) := by cases par <;> rfl
/-- a new node with one piece -/
theorem TIx_new {par : Option (Nat × Bool)} {u : Nat} {q : Pc} (h : TIx X pth N rt nd) (hX : X π = none) (hc : ∀ s, X (s :: π) = none) (hp : parAt par pth N π) (e1 : X' π = some (u, [q])) (e2 : ∀ π', ¬ π' = π → X' π' = X π') : TIx X' (ug pth N π) (N + 1) (rootI par N rt) (addP (hang nd N u par) N M q) := by
  obtain ⟨h1, h2, h3, h4⟩ := id h
  have np : ∀ k, k < N → ¬ pth k = π := fun k hk e => by
    have := (h2 k hk).1
    rw [e, hX] at this
    cases this
  have pl : ∀ k, k < N → ug pth N π k = pth k := fun k hk => ug_n _ _ (by omega)
  have pN : ug pth N π N = π := ug_s _ _ _
  -- codes stay, but at the new node
  have cst : ∀ (ρ : List Bool) (c : Int), ¬ ρ = π → cdx X pth N ρ c → cdx X' (ug pth N π) (N + 1) ρ c := by
    intro ρ c hρ hc
    rcases hc with ⟨a, b⟩ | ⟨j, a, b, e⟩
    · exact Or.inl ⟨by rw [e2 ρ hρ]; exact a, b⟩
    · exact Or.inr ⟨j, by omega, by rw [pl j a]; exact b, e⟩
  have cnew : cdx X' (ug pth N π) (N + 1) π (N : Int) := Or.inr ⟨N, by omega, pN, rfl⟩
  refine ⟨fun j k hj hk e => ?_, fun k hk => ?_, fun ρ hρ => ?_, ?_⟩
  · by_cases a : j = N
    · by_cases b : k = N
      · rw [a, b]
      · subst a
        rw [pN, pl k (by omega)] at e
        exact absurd e.symm (np k (by omega))
    · by_cases b : k = N
      · subst b
        rw [pN, pl j (by omega)] at e
        exact absurd e (np j (by omega))
      · rw [pl j (by omega), pl k (by omega)] at e
        exact h1 j k (by omega) (by omega) e
  · unfold addP
    by_cases a : k = N
    · subst a
      rw [pN, ug_s, hang_at hp.ok]
      refine ⟨e1, Or.inl ⟨?_, rfl⟩, Or.inl ⟨?_, rfl⟩⟩
      · rw [e2 _ (by intro e; have := congrArg List.length e; rw [List.length_cons] at this; omega)]; exact hc true
      · rw [e2 _ (by intro e; have := congrArg List.length e; rw [List.length_cons] at this; omega)]; exact hc false
    · have hk' : k < N := by omega
      rw [pl k hk', ug_n _ _ a, hang_lt hp.ok hk']
      obtain ⟨x1, x2, x3⟩ := h2 k hk'
      rcases hp with ⟨a1, a2⟩ | ⟨k0, s, a1, a2, a3⟩
      · rw [a1]
        exact ⟨by rw [e2 _ (np k hk')]; exact x1, cst _ _ (by rw [a2]; intro h; cases h) x2, cst _ _ (by rw [a2]; intro h; cases h) x3⟩
      · rw [a1]
        show ndx X' (ug pth N π) (N + 1) (pth k) (ug nd k0 (lk (nd k0) s (N : Int)) k)
        by_cases b : k = k0
        · subst b
          rw [ug_s]
          cases s with
          | true =>
            exact ⟨by rw [e2 _ (np k hk')]; exact x1, by rw [← a3]; exact cnew, cst _ _ (by rw [a3]; intro h; cases h) x3⟩
          | false =>
            exact ⟨by rw [e2 _ (np k hk')]; exact x1, cst _ _ (by rw [a3]; intro h; cases h) x2, by rw [← a3]; exact cnew⟩
        · rw [ug_n _ _ b]
          have ns : ∀ t : Bool, ¬ t :: pth k = π := by
            intro t e
            rw [a3] at e
            have : pth k = pth k0 := by injection e
            exact b (h1 k k0 hk' a2 this)
          exact ⟨by rw [e2 _ (np k hk')]; exact x1, cst _ _ (ns true) x2, cst _ _ (ns false) x3⟩
  · by_cases a : ρ = π
    · exact ⟨N, by omega, by rw [pN, a]⟩
    · rw [e2 ρ a] at hρ
      obtain ⟨k, b1, b2⟩ := h3 ρ hρ
      exact ⟨k, by omega, by rw [pl k b1]; exact b2⟩
  · rcases hp with ⟨a1, a2⟩ | ⟨k0, s, a1, a2, a3⟩
    · rw [a1]
      subst a2
      exact cnew
    · rw [a1]
      exact cst _ _ (by rw [a3]; intro h; cases h) h4
/-- one more piece at a node -/
theorem TIx_add {q : Pc} (h : TIx X pth N rt nd) (hk : k < N) (e1 : X' (pth k) = some ((nd k).1, (nd k).2.2.2.map (fun a => a.2) ++ [q])) (e2 : ∀ π', ¬ π' = pth k → X' π' = X π') : TIx X' pth N rt (addP nd k M q) := by
  obtain ⟨h1, h2, h3, h4⟩ := id h
  have cst : ∀ (ρ : List Bool) (c : Int), cdx X pth N ρ c → cdx X' pth N ρ c := by
    intro ρ c hc
    rcases hc with ⟨a, b⟩ | ⟨j, a, b, e⟩
    · by_cases d : ρ = pth k
      · exfalso
        have := (h2 k hk).1
        rw [← d, a] at this
        cases this
      · exact Or.inl ⟨by rw [e2 ρ d]; exact a, b⟩
    · exact Or.inr ⟨j, a, b, e⟩
  refine ⟨h1, fun j hj => ?_, fun ρ hρ => ?_, cst _ _ h4⟩
  · obtain ⟨x1, x2, x3⟩ := h2 j hj
    unfold addP
    by_cases a : j = k
    · subst a
      rw [ug_s]
      refine ⟨?_, cst _ _ x2, cst _ _ x3⟩
      rw [e1]
      show _ = some ((nd j).1, ((nd j).2.2.2 ++ [(M, q)]).map (fun a => a.2))
      rw [List.map_append]; rfl
    · rw [ug_n _ _ a]
      have : ¬ pth j = pth k := fun e => a (h1 j k hj hk e)
      exact ⟨by rw [e2 _ this]; exact x1, cst _ _ x2, cst _ _ x3⟩
  · by_cases d : ρ = pth k
    · exact ⟨k, hk, d.symm⟩
    · rw [e2 ρ d] at hρ
      exact h3 ρ hρ
end S
