/-! THE CLASS'S LISTS: the walls at the root, prices, the splitting wall -/
section S
variable {p : Pln} {w L L' t : Pk} {R i v : Nat} {l : List Pc} {q : Pc} {S B : Int}
/-- the list that a row of twelve spells, from the wall 12 - n on -/
def rowL (r : Nat → Option (Int × Int × Int × Int)) : Nat → List Pc
  | 0 => []
  | n + 1 => (match r (11 - n) with
    | some d => [(11 - n, d)]
    | none => []) ++ rowL r n
def rt (p : Pln) (mv : Bool) (w : Nat) : Option (Int × Int × Int × Int) := if pP p w && (if mv then pM p w else !pM p w) then some (0, 1, 1, 1) else none
theorem rowL_len (r : Nat → Option (Int × Int × Int × Int)) : ∀ n : Nat, (rowL r n).length ≤ n
  | 0 => Nat.le_refl 0
  | n + 1 => by
    have := rowL_len r n
    unfold rowL
    rw [List.length_append]
    cases r (11 - n) with
    | none => show 0 + _ ≤ _; omega
    | some d => show 1 + _ ≤ _; omega
theorem rowL_mem {r : Nat → Option (Int × Int × Int × Int)} {q : Pc} : ∀ n : Nat, n ≤ 12 → q ∈ rowL r n → (12 - n ≤ q.1 ∧ q.1 < 12) ∧ r q.1 = some q.2
  | 0, _, h => by cases h
  | n + 1, hn, h => by
    unfold rowL at h
    rcases List.mem_append.mp h with h | h
    · cases e : r (11 - n) with
      | none => rw [e] at h; cases h
      | some d =>
        rw [e] at h
        have h := List.mem_singleton.mp h
        rw [h]
        exact ⟨⟨by show 12 - (n + 1) ≤ 11 - n; omega, by show 11 - n < 12; omega⟩, e⟩
    · have := rowL_mem n (by omega) h
      exact ⟨⟨by omega, this.1.2⟩, this.2⟩
theorem rt_some {mv : Bool} {k : Nat} {d : Int × Int × Int × Int} (h : rt p mv k = some d) : pP p k = true ∧ pM p k = mv ∧ d = (0, 1, 1, 1) := by
  unfold rt at h
  cases h1 : pP p k with
  | false => rw [h1] at h; cases h
  | true =>
    rw [h1, Bool.true_and] at h
    cases mv with
    | true =>
      cases h2 : pM p k with
      | true => rw [h2] at h; cases h; exact ⟨rfl, rfl, rfl⟩
      | false => rw [h2] at h; cases h
    | false =>
      cases h2 : pM p k with
      | false => rw [h2] at h; cases h; exact ⟨rfl, rfl, rfl⟩
      | true => rw [h2] at h; cases h
def rootL (p : Pln) (mv : Bool) : List Pc := rowL (rt p mv) 12
theorem rootL_mem {mv : Bool} (h : q ∈ rootL p mv) : vpc p q ∧ pM p q.1 = mv := by
  obtain ⟨h1, h2⟩ := rowL_mem 12 (by omega) h
  obtain ⟨h3, h4, h5⟩ := rt_some h2
  refine ⟨?_, h4⟩
  obtain ⟨a, b⟩ := q
  cases h5
  refine ⟨⟨h1.2, h3⟩, ?_⟩
  show (0 : Int) ≤ 0 ∧ ((1 : Int) ≤ 1 ∧ (1 : Int) ≤ 7938) ∧ ((1 : Int) ≤ 1 ∧ (1 : Int) ≤ 7938) ∧ (0 : Int) * 1 < 1 * 1 ∧ (1 : Int) ≤ 1
  decide
theorem rowL_two {r1 r2 : Nat → Option (Int × Int × Int × Int)} (h : ∀ k, k < 12 → r1 k = none ∨ r2 k = none) : ∀ n : Nat, n ≤ 12 → (rowL r1 n).length + (rowL r2 n).length ≤ n
  | 0, _ => Nat.le_refl 0
  | n + 1, hn => by
    have := rowL_two h n (by omega)
    unfold rowL
    rw [List.length_append, List.length_append]
    rcases h (11 - n) (by omega) with e | e
    · rw [e]
      cases r2 (11 - n) with
      | none => show (0 + _) + (0 + _) ≤ _; omega
      | some d => show (0 + _) + (1 + _) ≤ _; omega
    · rw [e]
      cases r1 (11 - n) with
      | none => show (0 + _) + (0 + _) ≤ _; omega
      | some d => show (1 + _) + (0 + _) ≤ _; omega
theorem root_two : (rootL p false).length + (rootL p true).length ≤ 12 := by
  refine rowL_two (fun k _ => ?_) 12 (by omega)
  unfold rt
  cases pP p k with
  | false => exact Or.inl rfl
  | true => cases pM p k with
    | true => exact Or.inl rfl
    | false => exact Or.inr rfl
theorem C_walls_loop (RW : ReW w p) (mv : Bool) : ∀ (n i g : Nat) (L : Pk) (l : List Pc), i + n = 12 → n < g → PL L R l → l.length + (rowL (rt p mv) n).length ≤ R → ∃ L', fX4_addWalls_b2 w g L (b2 mv) (zI (i : Int)) = some L' ∧ PL L' R (l ++ rowL (rt p mv) n) := by
  intro n
  induction n with
  | zero =>
    intro i g L l hi hg P hr
    obtain ⟨g, rfl⟩ : ∃ k, g = k + 1 := ⟨g - 1, by omega⟩
    have e : i = 12 := by omega
    subst e
    show ∃ L', fX4_addWalls_b2_s (fX4_addWalls_b2 w g) w L _ _ = some L' ∧ _
    unfold fX4_addWalls_b2_s
    rw [if_pos (by decide)]
    refine ⟨L, rfl, ?_⟩
    show PL L R (l ++ [])
    rw [List.append_nil]; exact P
  | succ n ih =>
    intro i g L l hi hg P hr
    obtain ⟨g, rfl⟩ : ∃ k, g = k + 1 := ⟨g - 1, by omega⟩
    have h12 : i < 12 := by omega
    have ei : 11 - n = i := by omega
    have key : fX4_addWalls_b2 w (g + 1) L (b2 mv) (zI (i : Int)) = if rt p mv i = none then fX4_addWalls_b2 w g L (b2 mv) (zI ((i + 1 : Nat) : Int)) else qb1 (fX4_add L (zI (i : Int)) 0 1 1 1) (fun x => fX4_addWalls_b2 w g x (b2 mv) (zI ((i + 1 : Nat) : Int))) := by
      show fX4_addWalls_b2_s (fX4_addWalls_b2 w g) w L _ _ = _
      unfold fX4_addWalls_b2_s fX4_addWalls_b37 fX4_addWalls_b42 fX4_addWhole
      rw [if_neg (i12a h12), W_isFixed RW h12, W_isMovable RW h12, qb1_s, qb1_s]
      simp only [qn_s, ix_s]
      unfold rt
      cases pP p i with
      | false => cases mv <;> rfl
      | true =>
        cases pM p i with
        | false => cases mv <;> first | rfl | (cases fX4_add L (zI (i : Int)) 0 1 1 1 <;> rfl)
        | true => cases mv <;> first | rfl | (cases fX4_add L (zI (i : Int)) 0 1 1 1 <;> rfl)
    rw [key]
    unfold rowL at hr ⊢
    rw [ei] at hr ⊢
    cases e : rt p mv i with
    | none =>
      rw [e] at hr
      rw [if_pos rfl]
      exact ih (i + 1) g L l (by omega) (by omega) P hr
    | some d =>
      rw [e] at hr
      obtain ⟨-, -, ed⟩ := rt_some e
      subst ed
      rw [List.length_append, List.length_singleton] at hr
      obtain ⟨L1, a1, a2⟩ := PL_add P (by omega) ((i, 0, 1, 1, 1) : Pc)
      have a1 : fX4_add L (zI (i : Int)) 0 1 1 1 = some L1 := a1
      rw [if_neg (by intro h; cases h), a1, qb1_s, ← List.append_assoc]
      exact ih (i + 1) g L1 _ (by omega) (by omega) a2 (by rw [List.length_append, List.length_singleton]; omega)
theorem C_addWalls (RW : ReW w p) (mv : Bool) (P : PL L R l) (hr : l.length + (rootL p mv).length ≤ R) : ∃ L', fX4_addWalls w L (b2 mv) = some L' ∧ PL L' R (l ++ rootL p mv) := C_walls_loop RW mv 12 0 FU L l rfl (by decide) P hr
/-! the fixed ones come first -/
theorem C_endFixed (RW : ReW w p) (P : PL L R l) : ∀ (r : List Pc) (i n : Nat), r.length < n → Seg l i r → (∀ q, q ∈ r → vpc p q) → i + r.length < 2147483648 → fX6_endOfFixed_b2 t w L n (zI ((i + r.length : Nat) : Int)) (zI (i : Int)) = some (zI ((i + (fxp p r).length : Nat) : Int)) := by
  intro r
  induction r with
  | nil =>
    intro i n hn G Q hb
    obtain ⟨g, rfl⟩ : ∃ g, n = g + 1 := ⟨n - 1, by omega⟩
    show fX6_endOfFixed_b2_s (fX6_endOfFixed_b2 t w L g) t w L _ _ = _
    unfold fX6_endOfFixed_b2_s
    rw [if_pos (ix_c (by rw [List.length_nil]; omega) (by omega))]
    rfl
  | cons q r ih =>
    intro i n hn G Q hb
    obtain ⟨g, rfl⟩ : ∃ g, n = g + 1 := ⟨n - 1, by omega⟩
    rw [List.length_cons] at hn hb ⊢
    have Qq := Q q List.mem_cons_self
    show fX6_endOfFixed_b2_s (fX6_endOfFixed_b2 t w L g) t w L _ _ = _
    unfold fX6_endOfFixed_b2_s
    rw [if_neg (ix_a (by omega) hb), PL_wallOf P G.hd, qb1_s, W_isFixed RW Qq.1.1, qb1_s, Qq.1.2, Bool.true_and]
    unfold fxp
    rw [List.takeWhile_cons]
    cases hm : pM p q.1 with
    | true => rfl
    | false =>
      rw [ifNF, if_pos (show (!false) = true from rfl), qn_s, ix_s, List.length_cons, show i + (r.length + 1) = i + 1 + r.length by omega, show i + ((List.takeWhile (fun q => !pM p q.1) r).length + 1) = i + 1 + (fxp p r).length by unfold fxp; omega]
      exact ih (i + 1) g (by omega) G.tl (fun x hx => Q x (List.mem_cons_of_mem _ hx)) (by omega)
theorem prc_bd : ∀ (r : List Pc) (c f : Int), (c ≤ (prc p v r c f).1 ∧ (prc p v r c f).1 ≤ c + r.length) ∧ (f - r.length ≤ (prc p v r c f).2 ∧ (prc p v r c f).2 ≤ f + r.length)
  | [], c, f => by
    show (c ≤ c ∧ c ≤ c + ((0 : Nat) : Int)) ∧ (f - ((0 : Nat) : Int) ≤ f ∧ f ≤ f + ((0 : Nat) : Int))
    omega
  | q :: r, c, f => by
    have := prc_bd r (if rel p v q = 3 then c + 1 else c) (if rel p v q = 1 then f + 1 else if rel p v q = 2 then f - 1 else f)
    unfold prc
    rw [List.length_cons]
    generalize prc p v r (if rel p v q = 3 then c + 1 else c) (if rel p v q = 1 then f + 1 else if rel p v q = 2 then f - 1 else f) = z at this ⊢
    split at this <;> split at this <;> (try split at this) <;> omega
theorem price_bd (hS : 0 ≤ S ∧ S ≤ 9) (hB : 0 ≤ B ∧ B ≤ 9) {r : List Pc} (hr : r.length ≤ 12) : 0 ≤ price p S B v r ∧ price p S B v r ≤ 216 := by
  have := prc_bd (p := p) (v := v) r 0 0
  unfold price
  generalize prc p v r 0 0 = z at this
  have h1 := mul_bd (a := S) (b := z.1) (A := 9) (B := 12) (by omega) (by omega) (by omega) (by omega)
  have h2 : 0 ≤ S * z.1 := Int.mul_nonneg hS.1 (by omega)
  have h3 := mul_bd (a := B) (b := if 0 ≤ z.2 then z.2 else -z.2) (A := 9) (B := 12) (by omega) (by omega) (by split <;> omega) (by split <;> omega)
  have h4 : 0 ≤ B * (if 0 ≤ z.2 then z.2 else -z.2) := Int.mul_nonneg hB.1 (by split <;> omega)
  omega
theorem C_price_loop (RW : ReW w p) (V : VP p) (P : PL L R l) (hv : v < 12) (pv : pP p v = true) (tS : t.2.1 15 = zI S) (tB : t.2.1 16 = zI B) : ∀ (r : List Pc) (i n : Nat) (c f : Int), r.length < n → r.length ≤ 12 → Seg l i r → (∀ q, q ∈ r → vpc p q) → i + r.length < 2147483648 → -1000 + r.length ≤ f ∧ f + r.length ≤ 1000 → fX6_priceOf_b9 t w L n (zI (v : Int)) (zI ((i + r.length : Nat) : Int)) (zI c) (zI f) (zI (i : Int)) = some (zI (S * (prc p v r c f).1 + B * (if 0 ≤ (prc p v r c f).2 then (prc p v r c f).2 else -(prc p v r c f).2))) := by
  intro r
  induction r with
  | nil =>
    intro i n c f hn hl G Q hb hf
    obtain ⟨g, rfl⟩ : ∃ g, n = g + 1 := ⟨n - 1, by omega⟩
    show fX6_priceOf_b9_s (fX6_priceOf_b9 t w L g) t w L _ _ _ _ _ = _
    unfold fX6_priceOf_b9_s
    rw [if_pos (ix_c (by rw [List.length_nil]; omega) (by omega)), qn_s, tS, tB]
    have e : (if 0 ≤ zI f then zI f else 0 - zI f : Int32) = zI (if 0 ≤ f then f else -f) := by
      rw [abs_z (by omega)]
      congr 1
      split <;> omega
    rw [e, zI_mul, zI_mul, zI_add]
    rfl
  | cons q r ih =>
    intro i n c f hn hl G Q hb hf
    obtain ⟨g, rfl⟩ : ∃ g, n = g + 1 := ⟨n - 1, by omega⟩
    rw [List.length_cons] at hn hb hl hf ⊢
    have Qq := Q q List.mem_cons_self
    have Qr : ∀ x, x ∈ r → vpc p x := fun x hx => Q x (List.mem_cons_of_mem _ hx)
    show fX6_priceOf_b9_s (fX6_priceOf_b9 t w L g) t w L _ _ _ _ _ = _
    unfold fX6_priceOf_b9_s fX6_priceOf_b60
    rw [if_neg (ix_a (by omega) hb), C_placeOf P RW V hv pv Qq G.hd, qb1_s, show i + (r.length + 1) = i + 1 + r.length by omega]
    simp only [qn_s, ix_s]
    have go := fun (c f : Int) (hf : -1000 + r.length ≤ f ∧ f + r.length ≤ 1000) => ih (i + 1) g c f (by omega) (by omega) G.tl Qr (by omega) hf
    unfold prc
    have hk : rel p v q = 0 ∨ rel p v q = 1 ∨ rel p v q = 2 ∨ rel p v q = 3 := by
      have : rel p v q ≤ 3 := relI_le _ _
      omega
    have e1 : ∀ c : Int, zI c + 1 = zI (c + 1) := fun c => by rw [z1, zI_add]
    have e2 : zI f + (-1) = zI (f - 1) := by rw [zm1, zI_add]; rfl
    rcases hk with e | e | e | e
    · rw [e, if_neg (by decide), if_neg (by decide), if_neg (by decide), if_neg (by decide), if_neg (by decide), if_neg (by decide)]
      exact go c f (by omega)
    · rw [e, if_neg (by decide), if_pos (by decide), if_neg (by decide), if_pos rfl, e1]
      exact go c (f + 1) (by omega)
    · rw [e, if_neg (by decide), if_neg (by decide), if_pos (by decide), if_neg (by decide), if_neg (by decide), if_pos rfl, e2]
      exact go c (f - 1) (by omega)
    · rw [e, if_pos (by decide), if_pos rfl, if_neg (by decide), if_neg (by decide), e1]
      exact go (c + 1) f (by omega)
theorem C_price (RW : ReW w p) (V : VP p) (P : PL L R l) (hv : v < 12) (pv : pP p v = true) (tS : t.2.1 15 = zI S) (tB : t.2.1 16 = zI B) {r : List Pc} (hl : r.length ≤ 12) (G : Seg l i r) (Q : ∀ q, q ∈ r → vpc p q) (hb : i + r.length < 2147483648) : fX6_priceOf t w L (zI (v : Int)) (zI (i : Int)) (zI ((i + r.length : Nat) : Int)) = some (zI (price p S B v r)) := by
  unfold fX6_priceOf price
  exact C_price_loop RW V P hv pv tS tB r i FU 0 0 (Nat.lt_of_le_of_lt hl (by decide)) hl G Q hb (by omega)
/-- the search for the least price, as it stands -/
def pkO (o : Option (Nat × Int)) (y3 y4 : Int32) : Prop := match o with
  | none => y4 = zI (-1)
  | some (b, c) => y3 = zI (b : Int) ∧ y4 = zI c ∧ 0 ≤ c ∧ c ≤ 216
def pkR (o : Option (Nat × Int)) (y3 : Int32) : Int32 := match o with
  | none => y3
  | some (b, _) => zI (b : Int)
theorem pkR_ch {o : Option (Nat × Int)} {y3 y4 : Int32} (h : pkO o y3 y4) : pkR o y3 = y3 := by
  cases o with
  | none => rfl
  | some o => obtain ⟨b, c⟩ := o; exact h.1.symm
theorem pick_some (fx : List Pc) : ∀ (r : List Pc) (o : Nat × Int) (y y' : Int32), pkR (pick p S B fx r (some o)) y = pkR (pick p S B fx r (some o)) y'
  | [], o, y, y' => rfl
  | q :: r, (b, c), y, y' => by
    unfold pick
    split <;> exact pick_some fx r _ y y'
theorem pick_n (fx r : List Pc) (q : Pc) : pick p S B fx (q :: r) none = pick p S B fx r (some (q.1, price p S B q.1 fx)) := rfl
theorem pick_c (fx r : List Pc) (q : Pc) (b : Nat) (c : Int) : pick p S B fx (q :: r) (some (b, c)) = pick p S B fx r (if price p S B q.1 fx < c then some (q.1, price p S B q.1 fx) else some (b, c)) := rfl
theorem C_split_loop (RW : ReW w p) (V : VP p) (P : PL L R l) (tS : t.2.1 15 = zI S) (tB : t.2.1 16 = zI B) (hS : 0 ≤ S ∧ S ≤ 9) (hB : 0 ≤ B ∧ B ≤ 9) {fx : List Pc} {k : Nat} (hl : fx.length ≤ 12) (Gf : Seg l k fx) (Qf : ∀ q, q ∈ fx → vpc p q) (hb : k + fx.length < 2147483648) : ∀ (r : List Pc) (i n : Nat) (o : Option (Nat × Int)) (y3 y4 : Int32), r.length < n → i + r.length = k + fx.length → Seg l i r → (∀ q, q ∈ r → vpc p q) → pkO o y3 y4 → fX6_splittingWall_b23 t w L n (zI (k : Int)) y3 y4 (zI ((k + fx.length : Nat) : Int)) (zI (i : Int)) = some (pkR (pick p S B fx r o) y3) := by
  intro r
  induction r with
  | nil =>
    intro i n o y3 y4 hn hi G Q ho
    obtain ⟨g, rfl⟩ : ∃ g, n = g + 1 := ⟨n - 1, by omega⟩
    show fX6_splittingWall_b23_s (fX6_splittingWall_b23 t w L g) t w L _ _ _ _ _ = _
    unfold fX6_splittingWall_b23_s
    rw [List.length_nil] at hi
    rw [if_pos (ix_c (by omega) (by omega))]
    show some y3 = some (pkR o y3)
    rw [pkR_ch ho]
  | cons q r ih =>
    intro i n o y3 y4 hn hi G Q ho
    obtain ⟨g, rfl⟩ : ∃ g, n = g + 1 := ⟨n - 1, by omega⟩
    rw [List.length_cons] at hn hi
    have Qq := Q q List.mem_cons_self
    have Qr : ∀ x, x ∈ r → vpc p x := fun x hx => Q x (List.mem_cons_of_mem _ hx)
    have pb := price_bd (p := p) (v := q.1) hS hB hl
    show fX6_splittingWall_b23_s (fX6_splittingWall_b23 t w L g) t w L _ _ _ _ _ = _
    unfold fX6_splittingWall_b23_s fX6_splittingWall_b64 fX6_splittingWall_b71
    rw [if_neg (ix_a (by omega) (by omega)), PL_wallOf P G.hd, qb1_s, C_price RW V P Qq.1.1 Qq.1.2 tS tB hl Gf Qf hb, qb1_s]
    simp only [qn_s, ix_s]
    have go := fun (o : Option (Nat × Int)) (y3 y4 : Int32) (ho : pkO o y3 y4) => ih (i + 1) g o y3 y4 (by omega) (by omega) G.tl Qr ho
    cases o with
    | none =>
      have e4 : y4 = zI (-1) := ho
      rw [e4, if_pos (by decide), go (some (q.1, price p S B q.1 fx)) _ _ ⟨rfl, rfl, pb.1, pb.2⟩, pick_n]
      exact congrArg some (pick_some fx r _ _ _)
    | some o =>
      obtain ⟨b, c⟩ := o
      obtain ⟨h3, h4, h5, h6⟩ := ho
      have n0 : ¬ y4 < 0 := by rw [h4, z0, zI_lt (rI_s (by omega) (by omega)) r0]; omega
      have le : y4 ≤ zI (price p S B q.1 fx) ↔ c ≤ price p S B q.1 fx := by rw [h4, zI_le (rI_s (by omega) (by omega)) (rI_s (by omega) (by omega))]
      rw [if_neg n0]
      by_cases lt : price p S B q.1 fx < c
      · rw [if_neg (fun h => by have := le.mp h; omega), go (some (q.1, price p S B q.1 fx)) _ _ ⟨rfl, rfl, pb.1, pb.2⟩, pick_c, if_pos lt]
        exact congrArg some (pick_some fx r _ _ _)
      · rw [if_pos (le.mpr (by omega)), go (some (b, c)) _ _ ⟨h3, h4, h5, h6⟩, pick_c, if_neg lt]
theorem fxp_pre : ∀ l : List Pc, ∃ b, l = fxp p l ++ b
  | [] => ⟨[], rfl⟩
  | q :: l => by
    obtain ⟨b, e⟩ := fxp_pre l
    unfold fxp at e ⊢
    rw [List.takeWhile_cons]
    split
    · exact ⟨b, by rw [List.cons_append, ← e]⟩
    · exact ⟨q :: l, rfl⟩
theorem Seg.pre {a b : List Pc} (h : Seg l i (a ++ b)) : Seg l i a := fun j q hj => h j q (by rw [List.getElem?_append, if_pos (get_lt hj)]; exact hj)
theorem C_splitting (RW : ReW w p) (V : VP p) (P : PL L R l) (tS : t.2.1 15 = zI S) (tB : t.2.1 16 = zI B) (hS : 0 ≤ S ∧ S ≤ 9) (hB : 0 ≤ B ∧ B ≤ 9) {r : List Pc} (ne : r ≠ []) (hl : r.length ≤ 12) (G : Seg l i r) (Q : ∀ q, q ∈ r → vpc p q) (hb : i + r.length < 2147483648) : fX6_splittingWall t w L (zI (i : Int)) (zI ((i + r.length : Nat) : Int)) = some (zI ((spl p S B r : Nat) : Int)) := by
  obtain ⟨b, e⟩ := fxp_pre (p := p) r
  have hle : (fxp p r).length ≤ r.length := by
    have := congrArg List.length e
    rw [List.length_append] at this; omega
  have Gf : Seg l i (fxp p r) := by rw [e] at G; exact G.pre
  have Qf : ∀ q, q ∈ fxp p r → vpc p q := fun q hq => Q q (fxp_mem hq)
  unfold fX6_splittingWall fX6_endOfFixed
  have hw : fX4_wallOf L (zI (i : Int)) = some (zI ((hdw r : Nat) : Int)) := by
    cases r with
    | nil => exact absurd rfl ne
    | cons q r => exact PL_wallOf P G.hd
  rw [hw, qb1_s, C_endFixed RW P r i FU (Nat.lt_of_le_of_lt hl (by decide)) G Q hb, qb1_s]
  rw [show (-1 : Int32) = zI (-1) from zm1, C_split_loop RW V P tS tB hS hB (by omega) Gf Qf (by omega) (fxp p r) i FU none _ _ (Nat.lt_of_le_of_lt (Nat.le_trans hle hl) (by decide)) rfl Gf Qf rfl]
  unfold spl
  cases pick p S B (fxp p r) (fxp p r) none with
  | none => rfl
  | some o => rfl
end S
