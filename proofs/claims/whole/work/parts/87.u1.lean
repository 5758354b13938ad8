/-! THE REFERENCE'S TREE: a list becomes a node and two lists -/
section S
variable {m m' : Pk} {p : Pln} {S B : Int} {N M k v i J : Nat} {nd : Nat → Nd} {r : Nat → Option (Int × Int × Int × Int)}
def addPs (k : Nat) : (Nat → Nd) → Nat → List Pc → Nat → Nd
  | nd, _, [] => nd
  | nd, M, q :: l => addPs k (addP nd k M q) (M + 1) l
def idl : Nat → List Pc → List (Nat × Pc)
  | _, [] => []
  | M, q :: l => (M, q) :: idl (M + 1) l
theorem addPs_val : ∀ (l : List Pc) (nd : Nat → Nd) (M x : Nat), addPs k nd M l x = if x = k then ((nd k).1, (nd k).2.1, (nd k).2.2.1, (nd k).2.2.2 ++ idl M l) else nd x
  | [], nd, M, x => by
    show nd x = _
    by_cases c : x = k
    · rw [if_pos c, c]
      show nd k = ((nd k).1, (nd k).2.1, (nd k).2.2.1, (nd k).2.2.2 ++ [])
      rw [List.append_nil]
    · rw [if_neg c]
  | q :: l, nd, M, x => by
    show addPs k (addP nd k M q) (M + 1) l x = _
    rw [addPs_val l]
    unfold addP
    by_cases c : x = k
    · rw [if_pos c, if_pos c, ug_s, List.append_assoc]; rfl
    · rw [if_neg c, if_neg c, ug_n _ _ c]
theorem PH.cg {nd' : Nat → Nd} (H : PH m N M nd) (h : ∀ k, k < N → nd' k = nd k) : PH m N M nd' := ⟨H.1, H.2.1, H.2.2.1, H.2.2.2.1, fun k hk => by rw [h k hk]; exact H.2.2.2.2 k hk⟩
theorem WR_none {f : Nat → Int32} {o : Nat} {s : Bool} (h : WR f o (cutr p r v s i)) (hi : i < 12) : f (o + 5 * i) = 0 := (h i hi).1 (by unfold cutr; rw [if_neg (by omega)])
theorem ons_cons_t {q : Pc} {l : List Pc} (c : rel p v q = 0) : ons p v (q :: l) = q :: ons p v l := by unfold ons; rw [List.filter_cons, if_pos (decide_eq_true c)]
theorem ons_cons_f {q : Pc} {l : List Pc} (c : ¬ rel p v q = 0) : ons p v (q :: l) = ons p v l := by unfold ons; rw [List.filter_cons, if_neg (by rw [decide_eq_true_eq]; exact c)]
theorem M_part_loop (V : VP p) (hv : v < 12) (pv : pP p v = true) (hJ : J + 1 < 30) (hk : k < N) (vr : ∀ w d, w < 12 → r w = some d → vpc p (w, d)) : ∀ (n i g : Nat) (m : Pk) (M : Nat) (nd : Nat → Nd), i + n = 12 → n < g → ReM m p → PH m N M nd → m.2.1 35 = zI (J : Int) → WR (m.1 36) 0 r → (∀ s : Bool, WR (m.1 32) (60 * (if s then J + 1 else J)) (cutr p r v s i)) → M + (ons p v (rowL r n)).length ≤ 150 → ∃ m', fX10_makeNode_b227 g m (zI (v : Int)) (zI (k : Int)) (zI (i : Int)) = some m' ∧ PH m' N (M + (ons p v (rowL r n)).length) (addPs k nd M (ons p v (rowL r n))) ∧ m'.2.1 35 = zI ((J + 2 : Nat) : Int) ∧ m'.2.1 26 = m.2.1 26 ∧ bF m m' ∧ m'.1 33 = m.1 33 ∧ m'.1 34 = m.1 34 ∧ (∀ s : Bool, WR (m'.1 32) (60 * (if s then J + 1 else J)) (rowp p r v s)) ∧ ∀ x, x < 60 * J → m'.1 32 x = m.1 32 x := by
  intro n
  induction n with
  | zero =>
    intro i g m M nd hi hg Q H h35 W C hM
    obtain ⟨g, rfl⟩ : ∃ k, g = k + 1 := ⟨g - 1, by omega⟩
    have e : i = 12 := by omega
    subst e
    show ∃ m', fX10_makeNode_b227_s (fX10_makeNode_b227 g) m _ _ _ = some m' ∧ _
    unfold fX10_makeNode_b227_s
    have e35 : zI (J : Int) + 2 = zI ((J + 2 : Nat) : Int) := ix_c1 _ 2
    rw [if_pos (by decide), h35, qn_s, e35]
    refine ⟨_, rfl, H.of (fun _ _ => rfl) rfl rfl, rfl, rfl, bF_I m (by decide) _, rfl, rfl, fun s w hw => ?_, fun _ _ => rfl⟩
    have := C s w hw
    have e2 : cutr p r v s 12 w = rowp p r v s w := if_pos hw
    rw [e2] at this
    exact this
  | succ n ih =>
    intro i g m M nd hi hg Q H h35 W C hM
    obtain ⟨g, rfl⟩ : ∃ k, g = k + 1 := ⟨g - 1, by omega⟩
    have h12 : i < 12 := by omega
    have ei : 11 - n = i := by omega
    have k0 : (5 : Int32) * zI (i : Int) = zI ((5 * i : Nat) : Int) := by rw [show (5 : Int32) = zI 5 from rfl, zI_mul]; congr 1
    obtain ⟨w0, w1⟩ := W i h12
    rw [Nat.zero_add] at w0
    show ∃ m', fX10_makeNode_b227_s (fX10_makeNode_b227 g) m _ _ _ = some m' ∧ _
    unfold fX10_makeNode_b227_s fX10_makeNode_b256
    rw [if_neg (i12a h12), k0, qld_at (by omega) (by decide)]
    cases e : r i with
    | none =>
      rw [w0 e, if_neg (by decide), qn_s, ix_s, rowL_none (by rw [ei]; exact e)]
      rw [rowL_none (by rw [ei]; exact e)] at hM
      refine ih (i + 1) g m M nd (by omega) (by omega) Q H h35 W (fun s => ?_) hM
      exact WR_step (C s) (fun _ _ _ _ => rfl) (fun _ => WR_none (C s) h12) (fun d hd => by rw [rowp_none e] at hd; cases hd)
    | some d =>
      have f0 := (w1 d e).1
      rw [Nat.zero_add] at f0
      have Wq := vr i d h12 e
      rw [rowL_some (by rw [ei]; exact e), ei] at hM ⊢
      have part := M_partition Q V hv pv H hk (by omega) hJ h35 W h12 e Wq
      obtain ⟨m1, a1, a2, a3, a4, a5, a6, a7, a8, a9, a10⟩ := part
      rw [f0, if_pos rfl, a1, qb1_s, qn_s, ix_s]
      have C1 : ∀ s : Bool, WR (m1.1 32) (60 * (if s then J + 1 else J)) (cutr p r v s (i + 1)) := by
        intro s
        refine WR_step (C s) (fun x hx1 hx2 hx3 => a9 x ?_ ?_) (fun h0 => ?_) (fun d' hd' => (a10 s).2 d' hd')
        · intro hx; unfold inr at *; cases s with
          | true => rw [if_pos rfl] at hx1 hx2 hx3; omega
          | false => rw [if_neg (by decide)] at hx1 hx2 hx3; omega
        · intro hx; unfold inr at *; cases s with
          | true => rw [if_pos rfl] at hx1 hx2 hx3; omega
          | false => rw [if_neg (by decide)] at hx1 hx2 hx3; omega
        · rw [(a10 s).1 h0 _ (by unfold inr; omega)]
          exact WR_none (C s) h12
      have W1 : WR (m1.1 36) 0 r := by rw [a8]; exact W
      by_cases c : rel p v (i, d) = 0
      · rw [if_pos c, if_pos c] at a2
        rw [ons_cons_t c, List.length_cons] at hM ⊢
        obtain ⟨m2, b1, b2', b3, b4, b5, b6, b7, b8, b9⟩ := ih (i + 1) g m1 (M + 1) _ (by omega) (by omega) (Q.bF a5) a2 (a3.trans h35) W1 C1 (by omega)
        rw [show M + ((ons p v (rowL r n)).length + 1) = M + 1 + (ons p v (rowL r n)).length by omega]
        exact ⟨m2, b1, b2', b3, b4.trans a4, a5.tr b5, b6.trans a6, b7.trans a7, b8, fun x hx => (b9 x hx).trans (a9 x (by unfold inr; omega) (by unfold inr; omega))⟩
      · rw [if_neg c, if_neg c] at a2
        rw [ons_cons_f c] at hM ⊢
        obtain ⟨m2, b1, b2', b3, b4, b5, b6, b7, b8, b9⟩ := ih (i + 1) g m1 M _ (by omega) (by omega) (Q.bF a5) a2 (a3.trans h35) W1 C1 (by omega)
        exact ⟨m2, b1, b2', b3, b4.trans a4, a5.tr b5, b6.trans a6, b7.trans a7, b8, fun x hx => (b9 x hx).trans (a9 x (by unfold inr; omega) (by unfold inr; omega))⟩
/-- a new list's flags are cleared -/
theorem M_clear {s : Nat} (hJ : J + 1 < 30) (hs : s < 2) {rec : Pk → Int32 → Int32 → Int32 → Option Pk} {y3 y5 : Int32} : ∀ (n i g : Nat) (m : Pk), i + n = 12 → n < g → m.2.1 35 = zI (J : Int) → ∃ m', fX10_makeNode_b184 rec g m y3 y5 (zI (s : Int)) (zI (i : Int)) = rec m' y3 y5 (zI ((s + 1 : Nat) : Int)) ∧ m'.2 = m.2 ∧ (∀ r, ¬ r = 32 → m'.1 r = m.1 r) ∧ (∀ w, i ≤ w → w < 12 → m'.1 32 (60 * (J + s) + 5 * w) = 0) ∧ ∀ x, (∀ w, i ≤ w → w < 12 → ¬ x = 60 * (J + s) + 5 * w) → m'.1 32 x = m.1 32 x := by
  intro n
  induction n with
  | zero =>
    intro i g m hi hg h35
    obtain ⟨g, rfl⟩ : ∃ k, g = k + 1 := ⟨g - 1, by omega⟩
    have e : i = 12 := by omega
    subst e
    show ∃ m', fX10_makeNode_b184_s rec (fX10_makeNode_b184 rec g) m _ _ _ _ = _ ∧ _
    unfold fX10_makeNode_b184_s
    rw [if_pos (by decide), qn_s, ix_s]
    exact ⟨m, rfl, rfl, fun _ _ => rfl, fun w h1 h2 => absurd h1 (by omega), fun _ _ => rfl⟩
  | succ n ih =>
    intro i g m hi hg h35
    obtain ⟨g, rfl⟩ : ∃ k, g = k + 1 := ⟨g - 1, by omega⟩
    have h12 : i < 12 := by omega
    have hb : 60 * (J + s) + 5 * i < 2147483648 := by omega
    show ∃ m', fX10_makeNode_b184_s rec (fX10_makeNode_b184 rec g) m _ _ _ _ = _ ∧ _
    unfold fX10_makeNode_b184_s
    rw [if_neg (i12a h12), h35, ix_c1 J s, ix65 (J + s) i 0, qst_at (by omega) (by decide), qn_s, qn_s, ix_s]
    obtain ⟨m', a1, a2, a3, a4, a5⟩ := ih (i + 1) g (pkA m 32 (zI ((60 * (J + s) + 5 * i : Nat) : Int)) 0) (by omega) (by omega) (by rw [pA2]; exact h35)
    refine ⟨m', a1, a2.trans rfl, fun r hr => by rw [a3 r hr, pA1 hb, if_neg hr], fun w h1 h2 => ?_, fun x hx => ?_⟩
    · by_cases e : w = i
      · rw [a5 _ (fun w' g1 g2 => by omega), pAt hb, if_pos ⟨rfl, by rw [e]⟩]
      · exact a4 w (by omega) h2
    · rw [a5 x (fun w' g1 g2 => hx w' (by omega) g2), pAt hb, if_neg (fun g => hx i (by omega) h12 g.2)]
/-- a list is taken -/
theorem M_take (hJ : J < 30) {y3 y5 : Int32} : ∀ (n i g : Nat) (m : Pk), i + n = 60 → n < g → m.2.1 35 = zI (J : Int) → (∀ x, x < i → m.1 36 x = m.1 32 (60 * J + x)) → ∃ m', fX10_makeNode_b107 g m y3 y5 (zI (i : Int)) = fX10_makeNode_b145 FU m' y3 y5 0 ∧ m'.2 = m.2 ∧ (∀ r, ¬ r = 36 → m'.1 r = m.1 r) ∧ ∀ x, x < 60 → m'.1 36 x = m.1 32 (60 * J + x) := by
  intro n
  induction n with
  | zero =>
    intro i g m hi hg h35 H
    obtain ⟨g, rfl⟩ : ∃ k, g = k + 1 := ⟨g - 1, by omega⟩
    have e : i = 60 := by omega
    subst e
    show ∃ m', fX10_makeNode_b107_s (fX10_makeNode_b107 g) m _ _ _ = _ ∧ _
    unfold fX10_makeNode_b107_s
    rw [if_pos (by decide)]
    exact ⟨m, rfl, rfl, fun _ _ => rfl, H⟩
  | succ n ih =>
    intro i g m hi hg h35 H
    obtain ⟨g, rfl⟩ : ∃ k, g = k + 1 := ⟨g - 1, by omega⟩
    have hb : i < 2147483648 := by omega
    have n60 : ¬ (60 : Int32) ≤ zI (i : Int) := ix_a (n := 60) (by omega) (by decide)
    have k0 : (60 : Int32) * zI (J : Int) + zI (i : Int) = zI ((60 * J + i : Nat) : Int) := by rw [show (60 : Int32) = zI 60 from rfl, zI_mul, zI_add]; congr 1
    show ∃ m', fX10_makeNode_b107_s (fX10_makeNode_b107 g) m _ _ _ = _ ∧ _
    unfold fX10_makeNode_b107_s
    rw [if_neg n60, h35, k0, qld_at (by omega) (by decide), qst_at (by omega) (by decide), qn_s, qn_s, ix_s]
    have e32 : (pkA m 36 (zI (i : Int)) (m.1 32 (60 * J + i))).1 32 = m.1 32 := by rw [pA1 hb, if_neg (by decide)]
    obtain ⟨m', a1, a2, a3, a4⟩ := ih (i + 1) g (pkA m 36 (zI (i : Int)) (m.1 32 (60 * J + i))) (by omega) (by omega) (by rw [pA2]; exact h35) (fun x hx => by
      rw [e32, pAt hb]
      by_cases c : x = i
      · rw [if_pos ⟨rfl, c⟩, c]
      · rw [if_neg (fun g => c g.2)]; exact H x (by omega))
    rw [e32] at a4
    exact ⟨m', a1, a2.trans rfl, fun r hr => by rw [a3 r hr, pA1 hb, if_neg hr], a4⟩
/-- from where a list came -/
def parZ (par : Option (Nat × Bool)) : Int32 := match par with
  | none => zI (-1)
  | some (k, _) => zI (k : Int)
def sdOk (par : Option (Nat × Bool)) (x : Int32) : Prop := match par with
  | none => True
  | some (_, s) => x = if s then 0 else 1
def hang (nd : Nat → Nd) (N u : Nat) (par : Option (Nat × Bool)) : Nat → Nd := match par with
  | none => newN nd N u
  | some (k, s) => ug (newN nd N u) k (lk (nd k) s (N : Int))
def parOk (par : Option (Nat × Bool)) (N : Nat) : Prop := match par with
  | none => True
  | some (k, _) => k < N
def rootZ (par : Option (Nat × Bool)) (N : Nat) (x : Int32) : Int32 := match par with
  | none => zI (N : Int)
  | some _ => x
theorem M_hang (H : PH m N M nd) {u : Nat} {par : Option (Nat × Bool)} {x : Int32} (hN : N < 160) (hp : parOk par N) (hx : sdOk par x) : ∃ m', fX10_addNode m (zI (u : Int)) (parZ par) x = some (zI (N : Int), m') ∧ PH m' (N + 1) M (hang nd N u par) ∧ stS m m' ∧ m'.2.1 26 = rootZ par N (m.2.1 26) := by
  cases par with
  | none => exact M_addNode0 H hN
  | some ks =>
    obtain ⟨k, s⟩ := ks
    have hx : x = if s then 0 else 1 := hx
    rw [hx]
    exact M_addNode H s hN hp
/-- the best wall, as the reference's search stands -/
def pkM (o : Option (Nat × Int)) (y3 y4 : Int32) : Prop := match o with
  | none => y3 = zI (-1)
  | some (b, c) => y3 = zI (b : Int) ∧ b < 12 ∧ y4 = zI c ∧ 0 ≤ c ∧ c ≤ 216
noncomputable def afterPick (m : Pk) (y3 : Int32) : Option Pk := if 0 ≤ y3 then (qld 30 (m.1 33) (m.2.1 35) (fun x89 => qld 30 (m.1 34) (m.2.1 35) (fun x98 => qb2 (fX10_addNode m y3 x89 x98) (fun x99 p99_t => fX10_makeNode_b107 FU p99_t y3 x99 0)))) else (some m)
theorem M_pick_loop (Q : ReM m p) (V : VP p) (hS : 0 ≤ S ∧ S ≤ 9) (hB : 0 ≤ B ∧ B ≤ 9) (hJ : J < 30) (h35 : m.2.1 35 = zI (J : Int)) (W : WR (m.1 32) (60 * J) r) (vr : ∀ w d, w < 12 → r w = some d → vpc p (w, d)) : ∀ (n i g : Nat) (o : Option (Nat × Int)) (y3 y4 : Int32), i + n = 12 → n < g → pkM o y3 y4 → ∃ y3' y4', pkM (pick p S B (rowL r 12) (rowL r n) o) y3' y4' ∧ fX10_makeNode_b8 g m (zI S) (zI B) y3 y4 (zI (i : Int)) = afterPick m y3' := by
  intro n
  induction n with
  | zero =>
    intro i g o y3 y4 hi hg ho
    obtain ⟨g, rfl⟩ : ∃ k, g = k + 1 := ⟨g - 1, by omega⟩
    have e : i = 12 := by omega
    subst e
    refine ⟨y3, y4, ho, ?_⟩
    show fX10_makeNode_b8_s (fX10_makeNode_b8 g) m _ _ _ _ _ = _
    unfold fX10_makeNode_b8_s afterPick
    rw [if_pos (by decide)]
  | succ n ih =>
    intro i g o y3 y4 hi hg ho
    obtain ⟨g, rfl⟩ : ∃ k, g = k + 1 := ⟨g - 1, by omega⟩
    have h12 : i < 12 := by omega
    have ei : 11 - n = i := by omega
    obtain ⟨w0, w1⟩ := W i h12
    show ∃ y3' y4', _ ∧ fX10_makeNode_b8_s (fX10_makeNode_b8 g) m _ _ _ _ _ = _
    unfold fX10_makeNode_b8_s fX10_makeNode_b61 fX10_makeNode_b68
    rw [if_neg (i12a h12), h35, ix65 J i 0, qld_at (by omega) (by decide)]
    simp only [qn_s, ix_s]
    cases e : r i with
    | none =>
      rw [w0 e, if_neg (by decide), rowL_none (n := n) (by rw [ei]; exact e)]
      exact ih (i + 1) g o y3 y4 (by omega) (by omega) ho
    | some d =>
      have Wq := vr i d h12 e
      have pb := price_bd (p := p) (v := i) hS hB (rowL_len r 12)
      rw [(w1 d e).1, if_pos rfl, M_price Q V hJ W vr h12 Wq.1.2, qb1_s, rowL_some (n := n) (by rw [ei]; exact e), ei]
      cases o with
      | none =>
        have e3 : y3 = zI (-1) := ho
        rw [e3, if_pos (by decide), pick_n]
        exact ih (i + 1) g (some (i, price p S B i (rowL r 12))) _ _ (by omega) (by omega) ⟨rfl, h12, rfl, pb.1, pb.2⟩
      | some o =>
        obtain ⟨b, c⟩ := o
        obtain ⟨h3, hb, h4, h5, h6⟩ := ho
        have n0 : ¬ y3 < 0 := by rw [h3]; exact ix_nn (by omega)
        have le : y4 ≤ zI (price p S B i (rowL r 12)) ↔ c ≤ price p S B i (rowL r 12) := by rw [h4, zI_le (rI_s (by omega) (by omega)) (rI_s (by omega) (by omega))]
        rw [if_neg n0, pick_c]
        by_cases lt : price p S B i (rowL r 12) < c
        · rw [if_pos (show price p S B (i, d).1 (rowL r 12) < c from lt), if_neg (show ¬ y4 ≤ zI (price p S B i (rowL r 12)) from fun h => by have := le.mp h; omega)]
          exact ih (i + 1) g (some (i, price p S B i (rowL r 12))) _ _ (by omega) (by omega) ⟨rfl, h12, rfl, pb.1, pb.2⟩
        · rw [if_neg (show ¬ price p S B (i, d).1 (rowL r 12) < c from lt), if_pos (show y4 ≤ zI (price p S B i (rowL r 12)) from le.mpr (by omega))]
          exact ih (i + 1) g (some (b, c)) y3 y4 (by omega) (by omega) ⟨h3, hb, h4, h5, h6⟩
end S
