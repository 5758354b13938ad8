/-! REGIONS: findLeast -/
section S
variable {p : Pln} {m m' : Pk} {q : Pc} {R v : Nat}
theorem foldl_min_le : ∀ (l : List Nat) (a : Nat), l.foldl min a ≤ a
  | [], a => Nat.le_refl a
  | x :: l, a => Nat.le_trans (foldl_min_le l (min a x)) (Nat.min_le_left a x)
theorem mnl_le {l : List Nat} {B : Nat} (h : ∀ x, x ∈ l → x ≤ B) : mnl l ≤ B := by
  cases l with
  | nil => exact Nat.zero_le B
  | cons x l => exact Nat.le_trans (foldl_min_le l x) (h x List.mem_cons_self)
theorem ons_len (v : Nat) (L : List Pc) : (ons p v L).length ≤ L.length := List.length_filter_le _ _
theorem fpc_bd : ∀ (d : Nat) (L : List Pc), L.length ≤ 12 → fpc p d L + 12 ≤ 12 * 2 ^ d
  | 0, L, _ => by show 0 + 12 ≤ 12 * 2 ^ 0; decide
  | d + 1, L, h => by
    have b := fpc_bd d
    have : fpc p (d + 1) L ≤ 12 * 2 ^ (d + 1) - 12 := by
      refine mnl_le (fun x hx => ?_)
      obtain ⟨q, hq, rfl⟩ := List.mem_map.mp hx
      have l1 := prts_len (p := p) (v := q.1) true L
      have l2 := prts_len (p := p) (v := q.1) false L
      have l3 := ons_len (p := p) q.1 L
      have b1 := b (prts p q.1 true L) (by omega)
      have b2 := b (prts p q.1 false L) (by omega)
      rw [Nat.pow_succ]
      omega
    have : 12 * 2 ^ 0 ≤ 12 * 2 ^ (d + 1) := Nat.mul_le_mul_left 12 (Nat.pow_le_pow_right (by decide) (Nat.zero_le _))
    omega
theorem fwv_bd {L : List Pc} (h : L.length ≤ 12) (v : Nat) : fwv p L v ≤ 1000 := by
  have l1 := prts_len (p := p) (v := v) true L
  have l2 := prts_len (p := p) (v := v) false L
  have l3 := ons_len (p := p) v L
  have b1 := fpc_bd (p := p) 5 (prts p v true L) (by omega)
  have b2 := fpc_bd (p := p) 5 (prts p v false L) (by omega)
  unfold fwv
  omega
def flF (m m' : Pk) : Prop := (∀ r, ¬ r = 64 → m'.1 r = m.1 r) ∧ (∀ k, ¬ (18 ≤ k ∧ k ≤ 19) → ¬ (66 ≤ k ∧ k ≤ 69) → m'.2.1 k = m.2.1 k) ∧ m'.2.2 = m.2.2
theorem flF.rf (m : Pk) : flF m m := ⟨fun _ _ => rfl, fun _ _ _ => rfl, rfl⟩
theorem flF.tr {a b c : Pk} (h : flF a b) (g : flF b c) : flF a c := ⟨fun r hr => (g.1 r hr).trans (h.1 r hr), fun k h1 h2 => (g.2.1 k h1 h2).trans (h.2.1 k h1 h2), g.2.2.trans h.2.2⟩
theorem hpF.fl (h : hpF m m') : flF m m' := ⟨fun r _ => by rw [h.1], h.2.1, h.2.2⟩
theorem Fx.fl (F : Fx m p) (h : flF m m') : Fx m' p := by
  obtain ⟨Q, f1, f2, f3⟩ := F
  refine ⟨⟨by rw [h.1 0 (by decide)]; exact Q.1, by rw [h.2.1 1 (by decide) (by decide)]; exact Q.2.1, by rw [h.2.1 2 (by decide) (by decide)]; exact Q.2.2⟩, by rw [h.2.1 63 (by decide) (by decide)]; exact f1, fun j e he => by rw [h.1 62 (by decide)]; exact f2 j e he, fun j hj => by rw [h.1 65 (by decide)]; exact f3 j hj⟩
/-- the values of a region's roots, over some of the fixed walls -/
def vls (p : Pln) (R : Nat) (s : List Pc) : List Nat := (s.flatMap (rcl p R (rootL p false) 0)).map (fun q => fwv p (LR p R) q.1)
theorem vls_cons (e : Pc) (s : List Pc) : vls p R (e :: s) = (rcl p R (rootL p false) 0 e).map (fun q => fwv p (LR p R) q.1) ++ vls p R s := by
  unfold vls
  rw [List.flatMap_cons, List.map_append]
def UpA (m : Pk) (p : Pln) (c : Nat) : Prop := ∀ R', c ≤ R' → R' < 3 ^ (rootL p false).length → m.1 64 R' = zI ((fpc p 5 (LR p R') : Nat) : Int)
theorem M_least_in (V : VP p) (hR : R < 3 ^ (rootL p false).length) (n5 : (rootL p false).length ≤ 5) (rec12 : Pk → Int32 → Option Pk) : ∀ (s : List Pc) (k g : Nat) (m : Pk) (A : List Nat), (∀ i e, s[i]? = some e → (rootL p false)[k + i]? = some e) → k + s.length = (rootL p false).length → s.length < g → Fx m p → UpA m p (R + 1) → m.1 64 R = zI ((mnl A : Nat) : Int) → mnl A ≤ 1000 → ∃ m', fX10_findLeast_b27 rec12 g m (zI (R : Int)) (if A = [] then 0 else 1) (zI (k : Int)) = rec12 m' (zI ((R : Int) - 1)) ∧ Fx m' p ∧ UpA m' p (R + 1) ∧ m'.1 64 R = zI ((mnl (A ++ vls p R s) : Nat) : Int) ∧ flF m m' := by
  have h243 : 3 ^ (rootL p false).length ≤ 3 ^ 5 := Nat.pow_le_pow_right (by decide) n5
  have hR' : R < 243 := by omega
  have lrl := (LR_len_vp (R := R) V).1
  intro s
  induction s with
  | nil =>
    intro k g m A hs hk hg F U h64 hA
    obtain ⟨g, rfl⟩ := Nat.exists_eq_add_of_lt hg
    have e : k = (rootL p false).length := hk
    refine ⟨m, ?_, F, U, ?_, flF.rf m⟩
    · show fX10_findLeast_b27_s rec12 _ m _ _ _ = _
      unfold fX10_findLeast_b27_s
      rw [F.2.1, e, if_pos (Int32.le_refl _), qn_s, show (-1 : Int32) = zI (-1) from rfl, zI_add]
      rfl
    · rw [show vls p R [] = [] from rfl, List.append_nil]
      exact h64
  | cons e s ih =>
    intro k g m A hs hk hg F U h64 hA
    obtain ⟨g, rfl⟩ := Nat.exists_eq_add_of_lt hg
    have hk' : k < (rootL p false).length := by rw [← hk]; exact Nat.lt_add_of_pos_right (Nat.succ_pos _)
    have he : (rootL p false)[k]? = some e := hs 0 e rfl
    have hm := List.mem_of_getElem? he
    have hs' : ∀ i e', s[i]? = some e' → (rootL p false)[k + 1 + i]? = some e' := fun i e' hi => by
      have := hs (i + 1) e' hi
      rwa [show k + 1 + i = k + (i + 1) from by omega]
    have hd3 : dig R k < 3 := Nat.mod_lt _ (by decide)
    have pz : ¬ zI ((3 ^ k : Nat) : Int) = 0 := by
      have p3 : 3 ^ k ≤ 3 ^ 5 := Nat.pow_le_pow_right (by decide) (by omega)
      have p1 := Nat.pow_pos (n := k) (show 0 < 3 from by decide)
      rw [show (0 : Int32) = zI ((0 : Nat) : Int) from rfl, zI_eq (rI_n (by omega)) (rI_n (by decide))]
      omega
    have nxt : ∀ (m1 : Pk) (A' : List Nat) (y2 : Int32), y2 = (if A' = [] then 0 else 1) → Fx m1 p → UpA m1 p (R + 1) → m1.1 64 R = zI ((mnl A' : Nat) : Int) → mnl A' ≤ 1000 → flF m m1 → A' ++ vls p R s = A ++ vls p R (e :: s) → ∃ m', fX10_findLeast_b104 rec12 (fX10_findLeast_b27 rec12 ((e :: s).length + g)) m1 (zI (R : Int)) y2 (zI (k : Int)) = rec12 m' (zI ((R : Int) - 1)) ∧ Fx m' p ∧ UpA m' p (R + 1) ∧ m'.1 64 R = zI ((mnl (A ++ vls p R (e :: s)) : Nat) : Int) ∧ flF m m' := by
      intro m1 A' y2 hy F1 U1 h1 hA1 fr ev
      unfold fX10_findLeast_b104
      rw [qn_s, show zI (k : Int) + 1 = zI ((k + 1 : Nat) : Int) from by rw [show (1 : Int32) = zI 1 from rfl, zI_add]; rfl, hy]
      obtain ⟨m', c1, c2, c3, c4, c5⟩ := ih (k + 1) ((e :: s).length + g) m1 A' hs' (by rw [← hk, List.length_cons]; omega) (by rw [List.length_cons]; omega) F1 U1 h1 hA1
      rw [ev] at c4
      exact ⟨m', c1, c2, c3, c4, fr.tr c5⟩
    show ∃ m', fX10_findLeast_b27_s rec12 (fX10_findLeast_b27 rec12 ((e :: s).length + g)) m (zI (R : Int)) (if A = [] then 0 else 1) (zI (k : Int)) = _ ∧ _
    unfold fX10_findLeast_b27_s
    rw [F.2.1, if_neg (ix_a hk' (by omega)), qld_at (by omega) (by decide), F.2.2.2 k (by omega), qnzi_s pz, qnzi_s (by decide), dig_z hR' (by omega)]
    by_cases c0 : dig R k = 0
    · rw [if_pos (show zI ((dig R k : Nat) : Int) = 0 from by rw [c0]; rfl), qld_at (by omega) (by decide), F.2.2.1 k e he]
      obtain ⟨m1, a1, a2, a3⟩ := M_hasPart V hR' n5 F hm
      have F1 := F.hp a2
      have U1 : UpA m1 p (R + 1) := fun R' h1 h2 => by rw [a2.1]; exact U R' h1 h2
      rw [a1, qb2_s]
      rcases rcl_one (R := R) V (rootL p false) 0 e FxE (rootL_mem hm).1 with h | ⟨r, h, h1, h2⟩
      · rw [h, show (!([] : List Pc).isEmpty) = false from rfl, ifF]
        exact nxt m1 A _ rfl F1 U1 (by rw [a2.1]; exact h64) hA a2.fl (by rw [vls_cons, h]; rfl)
      · have hu := dig_lt (rootL p false).length (by omega) k hk' R hR' hR c0
        have p1 := Nat.pow_pos (n := k) (show 0 < 3 from by decide)
        have Uk : Up m1 p R k := fun b => by
          cases b with
          | true => exact U1 _ (by show R + 1 ≤ R + 3 ^ k; omega) (by show R + 3 ^ k < _; omega)
          | false => exact U1 _ (by show R + 1 ≤ R + 2 * 3 ^ k; omega) hu
        obtain ⟨m2, b1, b2'⟩ := M_with V hR' n5 he c0 (by omega) F1 Uk
        have F2 := F1.hp b2'
        have U2 : UpA m2 p (R + 1) := fun R' h1 h2 => by rw [b2'.1]; exact U1 R' h1 h2
        have r64 : m2.1 64 R = zI ((mnl A : Nat) : Int) := by rw [b2'.1, a2.1]; exact h64
        have fb := fwv_bd (p := p) (L := LR p R) (by omega) e.1
        have evs : (A ++ [fwv p (LR p R) e.1]) ++ vls p R s = A ++ vls p R (e :: s) := by rw [vls_cons, h, List.append_assoc, ← h1]; rfl
        rw [h, show (!([r] : List Pc).isEmpty) = true from rfl, ifT, b1, qb2_s]
        have wr : ∀ x : Nat, x = mnl (A ++ [fwv p (LR p R) e.1]) → x ≤ 1000 → ∃ m', fX10_findLeast_b101 rec12 (fX10_findLeast_b27 rec12 ((e :: s).length + g)) m2 (zI (R : Int)) (zI (k : Int)) (zI (R : Int)) (zI (x : Int)) = rec12 m' (zI ((R : Int) - 1)) ∧ Fx m' p ∧ UpA m' p (R + 1) ∧ m'.1 64 R = zI ((mnl (A ++ vls p R (e :: s)) : Nat) : Int) ∧ flF m m' := by
          intro x hx hb
          unfold fX10_findLeast_b101
          rw [qst_at hR' (by decide), qn_s]
          have fr : flF m2 (pkA m2 64 (zI (R : Int)) (zI (x : Int))) := ⟨fun r hr => by rw [pA1 (by omega), if_neg hr], fun k _ _ => by rw [pA2], rfl⟩
          refine nxt (pkA m2 64 (zI (R : Int)) (zI (x : Int))) (A ++ [fwv p (LR p R) e.1]) 1 ?_ (F2.fl fr) ?_ ?_ ?_ ((a2.fl.tr b2'.fl).tr fr) evs
          · rw [if_neg (by intro h; cases A <;> cases h)]
          · intro R' g1 g2
            rw [pA1 (by omega), if_pos rfl]
            rw [← U2 R' g1 g2]
            exact if_neg (by omega)
          · rw [pA1 (by omega), if_pos rfl, ← hx]
            exact if_pos rfl
          · rw [← hx]; exact hb
        unfold fX10_findLeast_b99
        by_cases cA : A = []
        · rw [if_pos cA, if_pos rfl]
          exact wr _ (by rw [mnl_snoc, if_pos cA]) fb
        · rw [if_neg cA, if_neg (by decide), qld_at hR' (by decide), r64]
          by_cases cl : fwv p (LR p R) e.1 ≤ mnl A
          · have cl' : zI ((fwv p (LR p R) e.1 : Nat) : Int) ≤ zI ((mnl A : Nat) : Int) := by rw [zI_le (rI_n (by omega)) (rI_n (by omega))]; omega
            rw [if_pos cl']
            exact wr _ (by rw [mnl_snoc, if_neg cA, Nat.min_eq_right cl]) fb
          · have cl' : ¬ zI ((fwv p (LR p R) e.1 : Nat) : Int) ≤ zI ((mnl A : Nat) : Int) := by rw [zI_le (rI_n (by omega)) (rI_n (by omega))]; omega
            rw [if_neg cl', qld_at hR' (by decide), r64]
            exact wr _ (by rw [mnl_snoc, if_neg cA, Nat.min_eq_left (by omega)]) hA
    · have hn : ¬ zI ((dig R k : Nat) : Int) = 0 := by rw [show (0 : Int32) = zI 0 from rfl, zI_eq (rI_n (by omega)) r0]; omega
      rw [if_neg hn]
      have dd := rcl_dead (R := R) V c0 (rootL p false) 0 e (Nat.zero_le k) (by rw [Nat.sub_zero]; exact he) rfl FxE (rootL_mem hm).1
      exact nxt m A _ rfl F U h64 hA (flF.rf m) (by rw [vls_cons, dd]; rfl)
theorem fpc_LR (V : VP p) (n5 : (rootL p false).length ≤ 5) : fpc p 5 (LR p R) = mnl (vls p R (rootL p false)) := by
  have := (LR_len_vp (R := R) V).1
  exact fpc_eq (by omega)
theorem M_least_out (V : VP p) (n5 : (rootL p false).length ≤ 5) : ∀ (c g : Nat) (m : Pk), c ≤ 3 ^ (rootL p false).length → c < g → Fx m p → UpA m p c → ∃ m', fX10_findLeast_b12 g m (zI ((c : Int) - 1)) = some m' ∧ Fx m' p ∧ UpA m' p 0 ∧ flF m m' := by
  have h243 : 3 ^ (rootL p false).length ≤ 3 ^ 5 := Nat.pow_le_pow_right (by decide) n5
  intro c
  induction c with
  | zero =>
    intro g m hc hg F U
    obtain ⟨g, rfl⟩ := Nat.exists_eq_add_of_lt hg
    refine ⟨m, ?_, F, U, flF.rf m⟩
    show fX10_findLeast_b12_s _ m _ = _
    unfold fX10_findLeast_b12_s
    rw [if_pos (by decide)]
  | succ c ih =>
    intro g m hc hg F U
    obtain ⟨g, rfl⟩ := Nat.exists_eq_add_of_lt hg
    have ec : ((c + 1 : Nat) : Int) - 1 = (c : Int) := by omega
    show ∃ m', fX10_findLeast_b12_s (fX10_findLeast_b12 (c + 1 + g)) m (zI (((c + 1 : Nat) : Int) - 1)) = some m' ∧ _
    unfold fX10_findLeast_b12_s
    rw [ec, if_neg (ix_nn (by omega)), qst_at (by omega) (by decide), qn_s]
    have fr : flF m (pkA m 64 (zI (c : Int)) 0) := ⟨fun r hr => by rw [pA1 (by omega), if_neg hr], fun k _ _ => by rw [pA2], rfl⟩
    obtain ⟨m1, a1, a2, a3, a4, a5⟩ := M_least_in (R := c) V (by omega) n5 (fX10_findLeast_b12 (c + 1 + g)) (rootL p false) 0 FU (pkA m 64 (zI (c : Int)) 0) [] (fun i e h => by rw [Nat.zero_add]; exact h) (Nat.zero_add _) (Nat.lt_of_le_of_lt n5 (by decide)) (F.fl fr) (fun R' g1 g2 => by
      rw [pA1 (by omega), if_pos rfl, ← U R' g1 g2]
      exact if_neg (by omega)) (by
      rw [pA1 (by omega), if_pos rfl]
      exact if_pos rfl) (Nat.zero_le _)
    rw [if_pos rfl, show zI ((0 : Nat) : Int) = 0 from rfl] at a1
    rw [a1]
    rw [List.nil_append] at a4
    obtain ⟨m2, b1, b2', b3, b4⟩ := ih (c + 1 + g) m1 (by omega) (by omega) a2 (fun R' g1 g2 => by
      by_cases h : R' = c
      · rw [h, a4, fpc_LR V n5]
      · exact a3 R' (by omega) g2)
    exact ⟨m2, b1, b2', b3, (fr.tr a5).tr b4⟩
theorem M_findLeast (V : VP p) (n5 : (rootL p false).length ≤ 5) (F : Fx m p) : ∃ m', fX10_findLeast m = some m' ∧ Fx m' p ∧ UpA m' p 0 ∧ flF m m' := by
  have h243 : 3 ^ (rootL p false).length ≤ 3 ^ 5 := Nat.pow_le_pow_right (by decide) n5
  obtain ⟨m', a1, a2, a3, a4⟩ := M_least_out V n5 (3 ^ (rootL p false).length) FU m (Nat.le_refl _) (Nat.lt_of_le_of_lt h243 (by decide)) F (fun R' h1 h2 => by omega)
  refine ⟨m', ?_, a2, a3, a4⟩
  unfold fX10_findLeast
  rw [F.2.1, qld_at (by omega) (by decide), F.2.2.2 _ (by omega), qn_s, show (1 : Int32) = zI 1 from rfl, zI_sub]
  exact a1
end S
