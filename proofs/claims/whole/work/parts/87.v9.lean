/-! PAINTING: paintCount, paintedPiece -/
section S
variable {T : Tr} {p pb : Pln} {m m' w t b TT L P D r : Pk} {nd : Nat → Nd} {pth : Nat → List Bool} {i k : Nat} {π : List Bool} {x y dx dy : Int} {q : Pc}
def TW (c : Option (Int32 × Pk × Pk × Pk × Pk × Pk × Pk × Pk)) (d : Option (Int32 × Pk)) (t m : Pk) (p : Pln) : Prop := ∃ v t' b' TT' L' P' D' r' m' pb', c = some (v, t', b', TT', L', P', D', r') ∧ d = some (v, m') ∧ TInv t' b' TT' L' P' m' p pb' ∧ ReM m' p ∧ qF m m' ∧ ttF t t'
def b1n (b : Bool) : Int := if b = true then 1 else 0
/-- the pieces of a list that cover column c; the columns from c on that a piece covers; both summed -/
def cvl (p : Pln) (x y dx dy c : Int) : List (Nat × Pc) → Int
  | [] => 0
  | e :: l => b1n (cov p e.2 x y (colX dx dy c) (colY dx dy c)) + cvl p x y dx dy c l
def cvq (p : Pln) (x y dx dy : Int) (q : Pc) : Int → Nat → Int
  | _, 0 => 0
  | c, k + 1 => b1n (cov p q x y (colX dx dy c) (colY dx dy c)) + cvq p x y dx dy q (c + 1) k
def tcl (p : Pln) (x y dx dy : Int) (l : List (Nat × Pc)) : Int → Nat → Int
  | _, 0 => 0
  | c, k + 1 => cvl p x y dx dy c l + tcl p x y dx dy l (c + 1) k
def tcq (p : Pln) (x y dx dy : Int) : List (Nat × Pc) → Int
  | [] => 0
  | e :: l => cvq p x y dx dy e.2 0 32 + tcq p x y dx dy l
theorem tcl_nil : ∀ (k : Nat) (c : Int), tcl p x y dx dy [] c k = 0
  | 0, _ => rfl
  | k + 1, c => by
    show (0 : Int) + tcl p x y dx dy [] (c + 1) k = 0
    rw [tcl_nil k (c + 1)]; rfl
theorem tcl_cons (e : Nat × Pc) (l : List (Nat × Pc)) : ∀ (k : Nat) (c : Int), tcl p x y dx dy (e :: l) c k = cvq p x y dx dy e.2 c k + tcl p x y dx dy l c k
  | 0, _ => rfl
  | k + 1, c => by
    show (b1n _ + cvl p x y dx dy c l) + tcl p x y dx dy (e :: l) (c + 1) k = (b1n _ + cvq p x y dx dy e.2 (c + 1) k) + (cvl p x y dx dy c l + tcl p x y dx dy l (c + 1) k)
    rw [tcl_cons e l k (c + 1)]; omega
theorem tcl_tcq : ∀ l : List (Nat × Pc), tcl p x y dx dy l 0 32 = tcq p x y dx dy l
  | [] => tcl_nil 32 0
  | e :: l => by rw [tcl_cons, tcl_tcq l]; rfl
theorem b1n_add (b : Bool) (a : Int) : (if b2 b = 0 then zI a else zI a + 1) = zI (a + b1n b) := by
  cases b with
  | false => rw [ifF]; exact congrArg zI (Int.add_zero a).symm
  | true => rw [ifT, show (1 : Int32) = zI 1 from rfl, zI_add]; rfl
theorem C_countCov (RW : ReW w p) (V : VP p) (C : CTree (tT p) TT P) {l : List (Nat × Pc)} (O : DO D l x y) (hl : ∀ e, e ∈ l → (pcl (tT p) [])[e.1]? = some e.2 ∧ vpc p e.2) {c : Int} (Y : RY x y (colX dx dy c) (colY dx dy c)) : ∀ (s : List (Nat × Pc)) (g i : Nat) (a : Int) (r : Pk), (∀ j e, s[j]? = some e → l[i + j]? = some e) → i + s.length = l.length → s.length < g → rAim r x y (colX dx dy c) (colY dx dy c) → ∃ r', fX9_countCovering_b4 t w TT P D g r (zI a) (zI (i : Int)) = some (zI (a + cvl p x y dx dy c s), r') ∧ rSame r r' := by
  intro s
  induction s with
  | nil =>
    intro g i a r hs hi hg A
    obtain ⟨g, rfl⟩ := Nat.exists_eq_add_of_lt hg
    have e : i = l.length := hi
    refine ⟨r, ?_, rSame.rf r⟩
    show fX9_countCovering_b4_s _ t w TT P D r (zI a) (zI (i : Int)) = _
    unfold fX9_countCovering_b4_s fX0_size
    rw [qb1_s, O.2.1, e, if_pos (Int32.le_refl _)]
    exact congrArg (fun v => some (zI v, r)) (Int.add_zero a).symm
  | cons e s ih =>
    intro g i a r hs hi hg A
    obtain ⟨g, rfl⟩ := Nat.exists_eq_add_of_lt hg
    have hi' : i < l.length := by rw [← hi]; exact Nat.lt_add_of_pos_right (Nat.succ_pos _)
    have he : l[i]? = some e := hs 0 e rfl
    have ln := O.1
    obtain ⟨h1, h2⟩ := hl e (List.mem_of_getElem? he)
    obtain ⟨r1, c1, c2⟩ := C_covers (t := t) RW V C A Y h1 h2
    have g1 : (e :: s).length + g = s.length + g + 1 := by rw [List.length_cons]; omega
    obtain ⟨r2, d1, d2⟩ := ih (s.length + g + 1 - 1 + 1 - 0 + 0) (i + 1) (a + b1n (cov p e.2 x y (colX dx dy c) (colY dx dy c))) r1 (fun j e' hj => by
      have := hs (j + 1) e' hj
      rwa [show i + 1 + j = i + (j + 1) from by omega]) (by rw [← hi, List.length_cons]; omega) (by omega) (A.same c2)
    refine ⟨r2, ?_, c2.tr d2⟩
    show fX9_countCovering_b4_s (fX9_countCovering_b4 t w TT P D ((e :: s).length + g)) t w TT P D r (zI a) (zI (i : Int)) = _
    unfold fX9_countCovering_b4_s fX0_size
    rw [qb1_s, O.2.1, if_neg (ix_a hi' (by omega)), pieceAt_z O (q := e.2) (n := e.1) he, qb1_s, c1, qb2_s]
    unfold fX9_countCovering_b33
    have k1 : zI (i : Int) + 1 = zI ((i + 1 : Nat) : Int) := by rw [show (1 : Int32) = zI 1 from rfl, zI_add]; rfl
    have fin : fX9_countCovering_b4 t w TT P D ((e :: s).length + g) r1 (zI (a + b1n (cov p e.2 x y (colX dx dy c) (colY dx dy c)))) (zI ((i + 1 : Nat) : Int)) = some (zI (a + cvl p x y dx dy c (e :: s)), r2) := by
      rw [g1, show a + cvl p x y dx dy c (e :: s) = a + b1n (cov p e.2 x y (colX dx dy c) (colY dx dy c)) + cvl p x y dx dy c s from by
        show a + (b1n _ + cvl p x y dx dy c s) = _
        omega]
      exact d1
    rw [← b1n_add] at fin
    simp only [qn_s]
    rw [k1]
    cases hc : cov p e.2 x y (colX dx dy c) (colY dx dy c) with
    | false => rw [ifF]; rw [hc, ifF] at fin; exact fin
    | true => rw [ifT]; rw [hc, ifT] at fin; exact fin
end S
