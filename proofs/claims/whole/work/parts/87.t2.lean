/-! THE TREE WITHOUT THE MACHINE: lists, the splitting wall, paths (newest turn first) -/
section S
variable {p : Pln} {S B : Int} {v : Nat}
def prts (p : Pln) (v : Nat) (s : Bool) (l : List Pc) : List Pc := l.flatMap (prt p v s)
def ons (p : Pln) (v : Nat) (l : List Pc) : List Pc := l.filter (fun q => decide (rel p v q = 0))
/-- how many cross, how many more lie in front than behind -/
def prc (p : Pln) (v : Nat) : List Pc → Int → Int → Int × Int
  | [], c, f => (c, f)
  | q :: l, c, f => prc p v l (if rel p v q = 3 then c + 1 else c) (if rel p v q = 1 then f + 1 else if rel p v q = 2 then f - 1 else f)
def price (p : Pln) (S B : Int) (v : Nat) (l : List Pc) : Int := S * (prc p v l 0 0).1 + B * (if 0 ≤ (prc p v l 0 0).2 then (prc p v l 0 0).2 else -(prc p v l 0 0).2)
def pick (p : Pln) (S B : Int) (fx : List Pc) : List Pc → Option (Nat × Int) → Option (Nat × Int)
  | [], o => o
  | q :: l, none => pick p S B fx l (some (q.1, price p S B q.1 fx))
  | q :: l, some (b, c) => pick p S B fx l (if price p S B q.1 fx < c then some (q.1, price p S B q.1 fx) else some (b, c))
def fxp (p : Pln) (l : List Pc) : List Pc := l.takeWhile (fun q => !pM p q.1)
def hdw (l : List Pc) : Nat := match l with
  | [] => 0
  | q :: _ => q.1
def spl (p : Pln) (S B : Int) (l : List Pc) : Nat := match pick p S B (fxp p l) (fxp p l) none with
  | some (b, _) => b
  | none => hdw l
theorem prts_nil (s : Bool) : prts p v s [] = [] := rfl
theorem prts_cons (s : Bool) (q : Pc) (l : List Pc) : prts p v s (q :: l) = prt p v s q ++ prts p v s l := rfl
theorem prts_app (s : Bool) (a b : List Pc) : prts p v s (a ++ b) = prts p v s a ++ prts p v s b := List.flatMap_append
theorem ons_app (a b : List Pc) : ons p v (a ++ b) = ons p v a ++ ons p v b := List.filter_append _ _
theorem prt_cases (s : Bool) (q : Pc) : prt p v s q = [] ∨ ∃ r, prt p v s q = [r] ∧ r.1 = q.1 := by
  unfold prt
  by_cases c : rel p v q = 3
  · rw [if_pos c]
    refine Or.inr ⟨_, rfl, ?_⟩
    unfold cutp
    split <;> rfl
  · rw [if_neg c]
    by_cases d : rel p v q = (if s then 1 else 2)
    · rw [if_pos d]; exact Or.inr ⟨q, rfl, rfl⟩
    · rw [if_neg d]; exact Or.inl rfl
theorem prts_sub (s : Bool) : ∀ l : List Pc, ((prts p v s l).map (fun q => q.1)).Sublist (l.map (fun q => q.1))
  | [] => List.Sublist.slnil
  | q :: l => by
    rw [prts_cons, List.map_append, List.map_cons]
    rcases prt_cases (p := p) (v := v) s q with h | ⟨r, h, e⟩
    · rw [h]; exact List.Sublist.cons _ (prts_sub s l)
    · rw [h]
      show List.Sublist (r.1 :: _) _
      rw [e]
      exact List.Sublist.cons₂ _ (prts_sub s l)
theorem prts_mem {s : Bool} {l : List Pc} {r : Pc} (h : r ∈ prts p v s l) : ∃ q, q ∈ l ∧ r ∈ prt p v s q := by
  unfold prts at h
  exact List.mem_flatMap.mp h
theorem prts_len (s : Bool) (l : List Pc) : (prts p v s l).length ≤ l.length := by
  have := (prts_sub (p := p) (v := v) s l).length_le
  rwa [List.length_map, List.length_map] at this
/-- a list that holds a piece of the wall becomes shorter -/
theorem prts_lt {s : Bool} {l : List Pc} (h : ∃ q, q ∈ l ∧ q.1 = v) : (prts p v s l).length < l.length := by
  have hs := prts_sub (p := p) (v := v) s l
  have hl := prts_len (p := p) (v := v) s l
  by_cases c : (prts p v s l).length < l.length
  · exact c
  · exfalso
    have e := hs.eq_of_length (by rw [List.length_map, List.length_map]; omega)
    obtain ⟨q, hq, ev⟩ := h
    have : q.1 ∈ (prts p v s l).map (fun q => q.1) := by rw [e]; exact List.mem_map.mpr ⟨q, hq, rfl⟩
    obtain ⟨r, hr, er⟩ := List.mem_map.mp this
    obtain ⟨q', hq', hr'⟩ := prts_mem hr
    have m := prt_mem hr'
    apply m.2
    have : q'.1 = v := by rw [← m.1, er, ev]
    rw [← this]; exact rel_self q'
theorem pick_mem (fx : List Pc) : ∀ (l : List Pc) (o : Option (Nat × Int)) (b : Nat) (c : Int), pick p S B fx l o = some (b, c) → (∃ q, q ∈ l ∧ q.1 = b) ∨ o = some (b, c)
  | [], o, b, c, h => Or.inr h
  | q :: l, none, b, c, h => by
    rcases pick_mem fx l _ b c h with ⟨r, hr, e⟩ | e
    · exact Or.inl ⟨r, List.mem_cons_of_mem _ hr, e⟩
    · injection e with e; injection e with e1 e2
      exact Or.inl ⟨q, List.mem_cons_self, e1⟩
  | q :: l, some (b', c'), b, c, h => by
    rcases pick_mem fx l _ b c h with ⟨r, hr, e⟩ | e
    · exact Or.inl ⟨r, List.mem_cons_of_mem _ hr, e⟩
    · by_cases k : price p S B q.1 fx < c'
      · rw [if_pos k] at e
        injection e with e; injection e with e1 e2
        exact Or.inl ⟨q, List.mem_cons_self, e1⟩
      · rw [if_neg k] at e; exact Or.inr e
theorem fxp_mem : ∀ {l : List Pc} {q : Pc}, q ∈ fxp p l → q ∈ l
  | [], _, h => by cases h
  | a :: l, q, h => by
    unfold fxp at h
    rw [List.takeWhile_cons] at h
    split at h
    · rcases List.mem_cons.mp h with e | e
      · rw [e]; exact List.mem_cons_self
      · exact List.mem_cons_of_mem _ (fxp_mem (l := l) e)
    · cases h
theorem spl_mem {l : List Pc} (h : l ≠ []) : ∃ q, q ∈ l ∧ q.1 = spl p S B l := by
  unfold spl
  cases e : pick p S B (fxp p l) (fxp p l) none with
  | none =>
    cases l with
    | nil => exact absurd rfl h
    | cons q l => exact ⟨q, List.mem_cons_self, rfl⟩
  | some o =>
    obtain ⟨b, c⟩ := o
    rcases pick_mem (p := p) (S := S) (B := B) _ _ _ b c e with ⟨q, hq, e1⟩ | e1
    · exact ⟨q, fxp_mem hq, e1⟩
    · cases e1
theorem fxp_app {q : Pc} (hq : pM p q.1 = true) : ∀ l : List Pc, fxp p (l ++ [q]) = fxp p l
  | [] => by
    show List.takeWhile _ [q] = []
    rw [List.takeWhile_cons, hq]; rfl
  | a :: l => by
    show List.takeWhile _ (a :: (l ++ [q])) = List.takeWhile _ (a :: l)
    rw [List.takeWhile_cons, List.takeWhile_cons]
    have := fxp_app hq l
    unfold fxp at this
    rw [this]
theorem spl_app {l : List Pc} {q : Pc} (hl : l ≠ []) (hq : pM p q.1 = true) : spl p S B (l ++ [q]) = spl p S B l := by
  unfold spl
  rw [fxp_app hq]
  cases e : pick p S B (fxp p l) (fxp p l) none with
  | none =>
    cases l with
    | nil => exact absurd rfl hl
    | cons a l => rfl
  | some o => rfl
theorem spl_one {q : Pc} (hq : pM p q.1 = true) : spl p S B [q] = q.1 := by
  unfold spl
  have := fxp_app (p := p) hq []
  rw [List.nil_append] at this
  rw [this]; rfl
/-- a tree: the plan, both weights, the list at the root -/
abbrev Tr : Type := Pln × Int × Int × List Pc
def Ls (T : Tr) : List Bool → List Pc
  | [] => T.2.2.2
  | s :: π => prts T.1 (spl T.1 T.2.1 T.2.2.1 (Ls T π)) s (Ls T π)
def sw (T : Tr) (π : List Bool) : Nat := spl T.1 T.2.1 T.2.2.1 (Ls T π)
def onl (T : Tr) (π : List Bool) : List Pc := ons T.1 (sw T π) (Ls T π)
def GT (T : Tr) : Prop := VP T.1 ∧ (0 ≤ T.2.1 ∧ T.2.1 ≤ 9) ∧ (0 ≤ T.2.2.1 ∧ T.2.2.1 ≤ 9) ∧ (∀ q, q ∈ T.2.2.2 → vpc T.1 q) ∧ T.2.2.2.length ≤ 12
end S
section S
variable {T : Tr} {π : List Bool}
theorem Ls_s (s : Bool) : Ls T (s :: π) = prts T.1 (sw T π) s (Ls T π) := rfl
theorem Ls_up {s : Bool} (h : Ls T (s :: π) ≠ []) : Ls T π ≠ [] := by
  intro e
  apply h
  rw [Ls_s, e]; rfl
theorem Ls_vp (G : GT T) : ∀ (π : List Bool) (q : Pc), q ∈ Ls T π → vpc T.1 q
  | [], q, h => G.2.2.2.1 q h
  | s :: π, q, h => by
    rw [Ls_s] at h
    obtain ⟨r, hr, hq⟩ := prts_mem h
    have ne : Ls T π ≠ [] := fun e => by rw [e] at hr; cases hr
    obtain ⟨a, ha, e⟩ := spl_mem (p := T.1) (S := T.2.1) (B := T.2.2.1) ne
    have va := Ls_vp G π a ha
    refine prt_vp G.1 ?_ ?_ (Ls_vp G π r hr) hq
    · show spl T.1 T.2.1 T.2.2.1 (Ls T π) < 12
      rw [← e]; exact va.1.1
    · show pP T.1 (spl T.1 T.2.1 T.2.2.1 (Ls T π)) = true
      rw [← e]; exact va.1.2
theorem sw_ok (G : GT T) (h : Ls T π ≠ []) : sw T π < 12 ∧ pP T.1 (sw T π) = true := by
  obtain ⟨a, ha, e⟩ := spl_mem (p := T.1) (S := T.2.1) (B := T.2.2.1) h
  have va := Ls_vp G π a ha
  unfold sw
  rw [← e]; exact va.1
theorem Ls_lt (h : Ls T π ≠ []) (s : Bool) : (Ls T (s :: π)).length < (Ls T π).length := by
  rw [Ls_s]
  exact prts_lt (spl_mem h)
theorem Ls_len (G : GT T) : ∀ π : List Bool, Ls T π ≠ [] → (Ls T π).length + π.length ≤ 12
  | [], _ => G.2.2.2.2
  | s :: π, h => by
    have h1 := Ls_up h
    have := Ls_len G π h1
    have := Ls_lt h1 s
    rw [List.length_cons]; omega
theorem Ls_deep (G : GT T) (h : 12 ≤ π.length) : Ls T π = [] := by
  by_cases c : Ls T π = []
  · exact c
  · have := Ls_len G π c
    have : 0 < (Ls T π).length := List.length_pos_iff.mpr c
    omega
theorem Ls_le (G : GT T) (π : List Bool) : (Ls T π).length ≤ 12 := by
  by_cases c : Ls T π = []
  · rw [c]; decide
  · have := Ls_len G π c; omega
theorem onl_pos (h : Ls T π ≠ []) : 0 < (onl T π).length := by
  obtain ⟨a, ha, e⟩ := spl_mem (p := T.1) (S := T.2.1) (B := T.2.2.1) h
  refine List.length_pos_of_mem (a := a) (List.mem_filter.mpr ⟨ha, decide_eq_true ?_⟩)
  show rel T.1 (spl T.1 T.2.1 T.2.2.1 (Ls T π)) a = 0
  rw [← e]; exact rel_self a
theorem onl_le : (onl T π).length ≤ (Ls T π).length := List.length_filter_le _ _
theorem onl_mem {q : Pc} (h : q ∈ onl T π) : q ∈ Ls T π := (List.mem_filter.mp h).1
/-- what is told of subtrees -/
def fo {α : Type} (T : Tr) (lf : List Bool → α) (nd : List Bool → α → α → α) : Nat → List Bool → α
  | 0, π => lf π
  | n + 1, π => if (Ls T π).isEmpty then lf π else nd π (fo T lf nd n (true :: π)) (fo T lf nd n (false :: π))
def FO {α : Type} (T : Tr) (lf : List Bool → α) (nd : List Bool → α → α → α) (π : List Bool) : α := fo T lf nd (12 - π.length) π
theorem FO_leaf {α : Type} {lf : List Bool → α} {nd : List Bool → α → α → α} (h : Ls T π = []) : FO T lf nd π = lf π := by
  unfold FO
  cases 12 - π.length with
  | zero => rfl
  | succ n => show (if (Ls T π).isEmpty then _ else _) = _; rw [h]; rfl
theorem FO_node {α : Type} {lf : List Bool → α} {nd : List Bool → α → α → α} (G : GT T) (h : Ls T π ≠ []) : FO T lf nd π = nd π (FO T lf nd (true :: π)) (FO T lf nd (false :: π)) := by
  have h1 := Ls_len G π h
  have h2 : 0 < (Ls T π).length := List.length_pos_iff.mpr h
  unfold FO
  rw [List.length_cons, List.length_cons, show 12 - π.length = (12 - (π.length + 1)) + 1 by omega]
  show (if (Ls T π).isEmpty then _ else _) = _
  rw [if_neg (by rw [List.isEmpty_iff]; exact h)]
theorem tr_ind {P : List Bool → Prop} (G : GT T) (h1 : ∀ π, Ls T π = [] → P π) (h2 : ∀ π, Ls T π ≠ [] → P (true :: π) → P (false :: π) → P π) (π : List Bool) : P π := by
  have key : ∀ (n : Nat) (π : List Bool), 12 ≤ n + π.length → P π := by
    intro n
    induction n with
    | zero => intro π h; exact h1 π (Ls_deep G (by omega))
    | succ n ih =>
      intro π h
      by_cases c : Ls T π = []
      · exact h1 π c
      · exact h2 π c (ih _ (by rw [List.length_cons]; omega)) (ih _ (by rw [List.length_cons]; omega))
  exact key 12 π (by omega)
def nN (T : Tr) : List Bool → Nat := FO T (fun _ => 0) (fun _ a b => 1 + a + b)
def nL (T : Tr) : List Bool → Nat := FO T (fun _ => 1) (fun _ a b => a + b)
def nP (T : Tr) : List Bool → Nat := FO T (fun _ => 0) (fun π a b => (onl T π).length + a + b)
def lD (T : Tr) : List Bool → Nat := FO T (fun π => π.length) (fun _ a b => a + b)
def dD (T : Tr) : List Bool → Nat := FO T (fun π => π.length) (fun _ a b => max a b)
def num (T : Tr) : List Bool → Nat
  | [] => 0
  | true :: π => num T π + 1
  | false :: π => num T π + 1 + nN T (true :: π)
def lnum (T : Tr) : List Bool → Nat
  | [] => 0
  | true :: π => lnum T π
  | false :: π => lnum T π + nL T (true :: π)
def pnum (T : Tr) : List Bool → Nat
  | [] => 0
  | true :: π => pnum T π + (onl T π).length
  | false :: π => pnum T π + (onl T π).length + nP T (true :: π)
theorem nN_leaf (h : Ls T π = []) : nN T π = 0 := FO_leaf h
theorem nL_leaf (h : Ls T π = []) : nL T π = 1 := FO_leaf h
theorem nP_leaf (h : Ls T π = []) : nP T π = 0 := FO_leaf h
theorem nN_node (G : GT T) (h : Ls T π ≠ []) : nN T π = 1 + nN T (true :: π) + nN T (false :: π) := FO_node G h
theorem nL_node (G : GT T) (h : Ls T π ≠ []) : nL T π = nL T (true :: π) + nL T (false :: π) := FO_node G h
theorem nP_node (G : GT T) (h : Ls T π ≠ []) : nP T π = (onl T π).length + nP T (true :: π) + nP T (false :: π) := FO_node G h
theorem num_bd (G : GT T) : ∀ σ : List Bool, Ls T (σ ++ π) ≠ [] → num T π ≤ num T (σ ++ π) ∧ num T (σ ++ π) + nN T (σ ++ π) ≤ num T π + nN T π ∧ pnum T π ≤ pnum T (σ ++ π) ∧ pnum T (σ ++ π) + nP T (σ ++ π) ≤ pnum T π + nP T π
  | [], _ => ⟨Nat.le_refl _, Nat.le_refl _, Nat.le_refl _, Nat.le_refl _⟩
  | s :: σ, h => by
    have h1 : Ls T (σ ++ π) ≠ [] := Ls_up (s := s) h
    obtain ⟨a1, a2, a3, a4⟩ := num_bd G σ h1
    have e1 := nN_node G h1
    have e2 := nP_node G h1
    rw [List.cons_append]
    cases s with
    | true =>
      have f1 : num T (true :: (σ ++ π)) = num T (σ ++ π) + 1 := rfl
      have f2 : pnum T (true :: (σ ++ π)) = pnum T (σ ++ π) + (onl T (σ ++ π)).length := rfl
      omega
    | false =>
      have f1 : num T (false :: (σ ++ π)) = num T (σ ++ π) + 1 + nN T (true :: (σ ++ π)) := rfl
      have f2 : pnum T (false :: (σ ++ π)) = pnum T (σ ++ π) + (onl T (σ ++ π)).length + nP T (true :: (σ ++ π)) := rfl
      omega
theorem nN_pos (G : GT T) (h : Ls T π ≠ []) : 0 < nN T π := by rw [nN_node G h]; omega
theorem num_ex (G : GT T) : ∀ (π : List Bool) (i : Nat), i < nN T π → ∃ σ, Ls T (σ ++ π) ≠ [] ∧ num T (σ ++ π) = num T π + i := by
  refine tr_ind (P := fun π => ∀ i : Nat, i < nN T π → ∃ σ, Ls T (σ ++ π) ≠ [] ∧ num T (σ ++ π) = num T π + i) G ?_ ?_
  · intro π h i hi
    rw [nN_leaf h] at hi; omega
  · intro π h ih1 ih2 i hi
    rw [nN_node G h] at hi
    by_cases c : i = 0
    · exact ⟨[], h, by rw [c]; rfl⟩
    · by_cases d : i - 1 < nN T (true :: π)
      · obtain ⟨σ, a1, a2⟩ := ih1 (i - 1) d
        refine ⟨σ ++ [true], by rwa [List.append_assoc], ?_⟩
        rw [List.append_assoc]
        show num T (σ ++ true :: π) = _
        rw [a2]
        show num T π + 1 + (i - 1) = _
        omega
      · obtain ⟨σ, a1, a2⟩ := ih2 (i - 1 - nN T (true :: π)) (by omega)
        refine ⟨σ ++ [false], by rwa [List.append_assoc], ?_⟩
        rw [List.append_assoc]
        show num T (σ ++ false :: π) = _
        rw [a2]
        show num T π + 1 + nN T (true :: π) + _ = _
        omega
theorem pnum_ex (G : GT T) : ∀ (π : List Bool) (i : Nat), i < nP T π → ∃ σ j, Ls T (σ ++ π) ≠ [] ∧ j < (onl T (σ ++ π)).length ∧ pnum T (σ ++ π) + j = pnum T π + i := by
  refine tr_ind (P := fun π => ∀ i : Nat, i < nP T π → ∃ σ j, Ls T (σ ++ π) ≠ [] ∧ j < (onl T (σ ++ π)).length ∧ pnum T (σ ++ π) + j = pnum T π + i) G ?_ ?_
  · intro π h i hi
    rw [nP_leaf h] at hi; omega
  · intro π h ih1 ih2 i hi
    rw [nP_node G h] at hi
    by_cases c : i < (onl T π).length
    · exact ⟨[], i, h, c, rfl⟩
    · by_cases d : i - (onl T π).length < nP T (true :: π)
      · obtain ⟨σ, j, a1, a2, a3⟩ := ih1 _ d
        refine ⟨σ ++ [true], j, by rwa [List.append_assoc], by rwa [List.append_assoc], ?_⟩
        rw [List.append_assoc]
        show pnum T (σ ++ true :: π) + j = _
        rw [a3]
        show pnum T π + (onl T π).length + _ = _
        omega
      · obtain ⟨σ, j, a1, a2, a3⟩ := ih2 (i - (onl T π).length - nP T (true :: π)) (by omega)
        refine ⟨σ ++ [false], j, by rwa [List.append_assoc], by rwa [List.append_assoc], ?_⟩
        rw [List.append_assoc]
        show pnum T (σ ++ false :: π) + j = _
        rw [a3]
        show pnum T π + (onl T π).length + nP T (true :: π) + _ = _
        omega
theorem nN_nP (G : GT T) (π : List Bool) : nN T π ≤ nP T π := by
  refine tr_ind (P := fun π => nN T π ≤ nP T π) G ?_ ?_ π
  · intro π h; rw [nN_leaf h]; omega
  · intro π h i1 i2
    rw [nN_node G h, nP_node G h]
    have := onl_pos h
    omega
theorem nL_nN (G : GT T) (π : List Bool) : nL T π = nN T π + 1 := by
  refine tr_ind (P := fun π => nL T π = nN T π + 1) G ?_ ?_ π
  · intro π h; rw [nN_leaf h, nL_leaf h]
  · intro π h i1 i2
    rw [nN_node G h, nL_node G h]
    omega
end S
