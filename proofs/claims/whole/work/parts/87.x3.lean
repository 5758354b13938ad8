/-! REGIONS: their lists; the fewest pieces of a list -/
section S
variable {p : Pln} {m m' : Pk} {q : Pc} {R v : Nat}
def mnl : List Nat → Nat
  | [] => 0
  | x :: l => l.foldl min x
theorem mnl_snoc (A : List Nat) (x : Nat) : mnl (A ++ [x]) = if A = [] then x else min (mnl A) x := by
  cases A with
  | nil => rfl
  | cons a A =>
    rw [if_neg (by intro h; cases h)]
    show (A ++ [x]).foldl min a = min (A.foldl min a) x
    rw [List.foldl_append]
    rfl
def fpc (p : Pln) : Nat → List Pc → Nat
  | 0, _ => 0
  | d + 1, L => mnl (L.map (fun q => fpc p d (prts p q.1 true L) + fpc p d (prts p q.1 false L) + (ons p q.1 L).length))
theorem fpc_up : ∀ (d : Nat) (L : List Pc), L.length ≤ d → fpc p d L = fpc p (d + 1) L
  | 0, L, h => by
    have : L = [] := List.length_eq_zero_iff.mp (Nat.le_zero.mp h)
    subst this
    rfl
  | d + 1, L, h => by
    show mnl (L.map _) = mnl (L.map _)
    refine congrArg mnl (List.map_congr_left (fun q hq => ?_))
    have s1 := prts_lt (p := p) (v := q.1) (s := true) ⟨q, hq, rfl⟩
    have s2 := prts_lt (p := p) (v := q.1) (s := false) ⟨q, hq, rfl⟩
    rw [fpc_up d _ (by omega), fpc_up d _ (by omega)]
theorem fpc_5 (n : Nat) : ∀ (d : Nat) (L : List Pc), L.length ≤ d → d + n = 5 → fpc p d L = fpc p 5 L := by
  induction n with
  | zero =>
    intro d L h e
    have : d = 5 := e
    subst this
    rfl
  | succ n ih =>
    intro d L h e
    rw [fpc_up d L h]
    exact ih (d + 1) L (by omega) (by omega)
/-- with a wall at the root -/
def fwv (p : Pln) (L : List Pc) (v : Nat) : Nat := fpc p 5 (prts p v true L) + fpc p 5 (prts p v false L) + (ons p v L).length
theorem fpc_eq {L : List Pc} (h : L.length ≤ 5) : fpc p 5 L = mnl (L.map (fun q => fwv p L q.1)) := by
  show mnl (L.map _) = mnl (L.map _)
  refine congrArg mnl (List.map_congr_left (fun q hq => ?_))
  have s1 := prts_lt (p := p) (v := q.1) (s := true) ⟨q, hq, rfl⟩
  have s2 := prts_lt (p := p) (v := q.1) (s := false) ⟨q, hq, rfl⟩
  unfold fwv
  rw [fpc_5 1 4 _ (by omega) rfl, fpc_5 1 4 _ (by omega) rfl]
/-- the list of a region -/
def LR (p : Pln) (R : Nat) : List Pc := (rootL p false).flatMap (rcl p R (rootL p false) 0)
theorem dig_up : ∀ k, k < 5 → ∀ j, j < 5 → ∀ R, R < 243 → dig R k = 0 → dig (R + 3 ^ k) j = (if j = k then 1 else dig R j) ∧ dig (R + 2 * 3 ^ k) j = (if j = k then 2 else dig R j) := by decide +kernel
theorem dig_lt : ∀ n, n < 6 → ∀ k, k < n → ∀ R, R < 243 → R < 3 ^ n → dig R k = 0 → R + 2 * 3 ^ k < 3 ^ n := by decide +kernel
def up (R k : Nat) (s : Bool) : Nat := if s then R + 3 ^ k else R + 2 * 3 ^ k
theorem up_dig {R k j : Nat} (hk : k < 5) (hj : j < 5) (hR : R < 243) (h : dig R k = 0) (s : Bool) : dig (up R k s) j = if j = k then (if s then 1 else 2) else dig R j := by
  obtain ⟨a, b⟩ := dig_up k hk j hj R hR h
  cases s with
  | true => exact a
  | false => exact b
theorem rcl_same {R R' : Nat} : ∀ (s : List Pc) (i : Nat) (q : Pc), (∀ j, i ≤ j → j < i + s.length → dig R' j = dig R j) → rcl p R' s i q = rcl p R s i q
  | [], _, _, _ => rfl
  | e :: s, i, q, h => by
    have e1 : dst p R' i e q = dst p R i e q := by
      unfold dst
      rw [h i (Nat.le_refl _) (by rw [List.length_cons]; omega)]
    have e2 : rcl p R' s (i + 1) = rcl p R s (i + 1) := funext (fun q => rcl_same s (i + 1) q (fun j h1 h2 => h j (by omega) (by rw [List.length_cons]; omega)))
    show (dst p R' i e q).flatMap _ = (dst p R i e q).flatMap _
    rw [e1, e2]
theorem rcl_comm (V : VP p) {v : Nat} (hv : v < 12 ∧ pP p v = true) (b : Bool) : ∀ (s : List Pc) (i : Nat) (q : Pc), (∀ e, e ∈ s → e.1 < 12 ∧ pP p e.1 = true) → vpc p q → (prt p v b q).flatMap (rcl p R s i) = (rcl p R s i q).flatMap (prt p v b)
  | [], i, q, _, _ => by
    show (prt p v b q).flatMap (fun q => [q]) = [q].flatMap (prt p v b)
    rw [fmo]
    exact List.flatMap_singleton' _
  | e :: s, i, q, E, Q => by
    have E' : ∀ e, e ∈ s → e.1 < 12 ∧ pP p e.1 = true := fun e' he => E e' (List.mem_cons_of_mem _ he)
    have c1 : (prt p v b q).flatMap (dst p R i e) = (dst p R i e q).flatMap (prt p v b) := by
      unfold dst
      by_cases c : dig R i = 0
      · simp only [if_pos c]
        rw [fmo]
        exact List.flatMap_singleton' _
      · simp only [if_neg c]
        exact prt_comm V hv (E e List.mem_cons_self) b _ Q
    have c2 : (dst p R i e q).flatMap (fun r => (prt p v b r).flatMap (rcl p R s (i + 1))) = (dst p R i e q).flatMap (fun r => (rcl p R s (i + 1) r).flatMap (prt p v b)) := by
      rcases dst_one (R := R) (k := i) V (E e List.mem_cons_self) Q with h | ⟨r, h, h1, h2⟩
      · rw [h]; rfl
      · rw [h, fmo, fmo]
        exact rcl_comm V hv b s (i + 1) r E' h2
    show (prt p v b q).flatMap (fun r => (dst p R i e r).flatMap (rcl p R s (i + 1))) = ((dst p R i e q).flatMap (rcl p R s (i + 1))).flatMap (prt p v b)
    rw [← List.flatMap_assoc, c1, List.flatMap_assoc, List.flatMap_assoc, c2]
theorem rcl_up (V : VP p) (hR : R < 243) {k : Nat} (hk : k < 5) (h0 : dig R k = 0) (b : Bool) {w : Pc} : ∀ (s : List Pc) (i : Nat) (q : Pc), i ≤ k → i + s.length ≤ 5 → s[k - i]? = some w → (∀ e, e ∈ s → e.1 < 12 ∧ pP p e.1 = true) → vpc p q → rcl p (up R k b) s i q = (rcl p R s i q).flatMap (prt p w.1 b)
  | [], i, q, _, _, h, _, _ => by cases h
  | e :: s, i, q, hi, hl, h, E, Q => by
    have E' : ∀ e, e ∈ s → e.1 < 12 ∧ pP p e.1 = true := fun e' he => E e' (List.mem_cons_of_mem _ he)
    rw [List.length_cons] at hl
    show (dst p (up R k b) i e q).flatMap (rcl p (up R k b) s (i + 1)) = ((dst p R i e q).flatMap (rcl p R s (i + 1))).flatMap (prt p w.1 b)
    by_cases c : i = k
    · subst c
      rw [Nat.sub_self] at h
      have h : some e = some w := h
      injection h with h
      subst h
      have d1 : dst p R i e q = [q] := by unfold dst; rw [if_pos h0]
      have d2 : dst p (up R i b) i e q = prt p e.1 b q := by
        unfold dst
        rw [up_dig hk hk hR h0 b, if_pos rfl]
        cases b <;> rfl
      have d3 : rcl p (up R i b) s (i + 1) = rcl p R s (i + 1) := funext (fun q => rcl_same s (i + 1) q (fun j h1 h2 => by rw [up_dig hk (by omega) hR h0 b, if_neg (by omega)]))
      rw [d1, d2, d3, fmo]
      exact rcl_comm V (E e List.mem_cons_self) b s (i + 1) q E' Q
    · have d2 : dst p (up R k b) i e q = dst p R i e q := by
        unfold dst
        rw [up_dig hk (by omega) hR h0 b, if_neg c]
      have hs : s[k - (i + 1)]? = some w := by
        rw [show k - i = (k - (i + 1)) + 1 from by omega] at h
        exact h
      rw [d2]
      rcases dst_one (R := R) (k := i) V (E e List.mem_cons_self) Q with h' | ⟨r, h', h1, h2⟩
      · rw [h']; rfl
      · rw [h', fmo, fmo]
        exact rcl_up V hR hk h0 b s (i + 1) r (by omega) (by omega) hs E' h2
theorem rcl_dead (V : VP p) {k : Nat} (h0 : ¬ dig R k = 0) {w : Pc} : ∀ (s : List Pc) (i : Nat) (q : Pc), i ≤ k → s[k - i]? = some w → q.1 = w.1 → (∀ e, e ∈ s → e.1 < 12 ∧ pP p e.1 = true) → vpc p q → rcl p R s i q = []
  | [], i, q, _, h, _, _, _ => by cases h
  | e :: s, i, q, hi, h, hq, E, Q => by
    have E' : ∀ e, e ∈ s → e.1 < 12 ∧ pP p e.1 = true := fun e' he => E e' (List.mem_cons_of_mem _ he)
    show (dst p R i e q).flatMap (rcl p R s (i + 1)) = []
    by_cases c : i = k
    · subst c
      rw [Nat.sub_self] at h
      have h : some e = some w := h
      injection h with h
      subst h
      have : dst p R i e q = [] := by
        unfold dst
        rw [if_neg h0]
        unfold prt
        rw [← hq, rel_self, if_neg (by decide), if_neg (by split <;> decide)]
      rw [this]
      rfl
    · have hs : s[k - (i + 1)]? = some w := by
        rw [show k - i = (k - (i + 1)) + 1 from by omega] at h
        exact h
      rcases dst_one (R := R) (k := i) V (E e List.mem_cons_self) Q with h' | ⟨r, h', h1, h2⟩
      · rw [h']; rfl
      · rw [h', fmo]
        exact rcl_dead V h0 s (i + 1) r (by omega) hs (h1.trans hq) E' h2
theorem LR_up (V : VP p) (n5 : (rootL p false).length ≤ 5) (hR : R < 243) {k : Nat} {w : Pc} (hw : (rootL p false)[k]? = some w) (h0 : dig R k = 0) (b : Bool) : LR p (up R k b) = prts p w.1 b (LR p R) := by
  unfold LR prts
  rw [List.flatMap_assoc]
  have hk := get_lt hw
  have : ∀ l : List Pc, (∀ q, q ∈ l → vpc p q) → l.flatMap (rcl p (up R k b) (rootL p false) 0) = l.flatMap (fun q => (rcl p R (rootL p false) 0 q).flatMap (prt p w.1 b)) := by
    intro l
    induction l with
    | nil => intro _; rfl
    | cons q l ih =>
      intro Q
      rw [List.flatMap_cons, List.flatMap_cons, ih (fun r hr => Q r (List.mem_cons_of_mem _ hr)), rcl_up V hR (by omega) h0 b (rootL p false) 0 q (by omega) (by omega) (by rw [Nat.sub_zero]; exact hw) FxE (Q q List.mem_cons_self)]
  exact this _ (fun q hq => (rootL_mem hq).1)
theorem LR_len_vp (V : VP p) : (LR p R).length ≤ (rootL p false).length ∧ ∀ q, q ∈ LR p R → vpc p q := by
  unfold LR
  have key : ∀ l : List Pc, (∀ q, q ∈ l → vpc p q) → (l.flatMap (rcl p R (rootL p false) 0)).length ≤ l.length ∧ ∀ q, q ∈ l.flatMap (rcl p R (rootL p false) 0) → vpc p q := by
    intro l
    induction l with
    | nil => intro _; exact ⟨Nat.le_refl _, fun q h => by cases h⟩
    | cons q l ih =>
      intro Q
      obtain ⟨a, b⟩ := ih (fun r hr => Q r (List.mem_cons_of_mem _ hr))
      rw [List.flatMap_cons]
      rcases rcl_one (R := R) V (rootL p false) 0 q FxE (Q q List.mem_cons_self) with h | ⟨r, h, h1, h2⟩
      · rw [h, List.nil_append, List.length_cons]
        exact ⟨by omega, b⟩
      · rw [h, List.length_append, List.length_singleton, List.length_cons]
        refine ⟨by omega, fun x hx => ?_⟩
        rcases List.mem_append.mp hx with hx | hx
        · rw [List.mem_singleton.mp hx]; exact h2
        · exact b x hx
  exact key _ (fun q hq => (rootL_mem hq).1)
theorem dig_0 (k : Nat) : dig 0 k = 0 := by unfold dig; rw [Nat.zero_div]
theorem LR_0 : LR p 0 = rootL p false := by
  have : ∀ (s : List Pc) (i : Nat) (q : Pc), rcl p 0 s i q = [q] := by
    intro s
    induction s with
    | nil => intro i q; rfl
    | cons e s ih =>
      intro i q
      show (dst p 0 i e q).flatMap _ = [q]
      unfold dst
      rw [if_pos (dig_0 i), fmo, ih]
  unfold LR
  rw [show rcl p 0 (rootL p false) 0 = fun q => [q] from funext (fun q => this _ _ q)]
  exact List.flatMap_singleton' _
end S
