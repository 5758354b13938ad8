/-! THE REFERENCE'S TREE: a list parted by a wall -/
section S
variable {m m' : Pk} {p : Pln} {N M k v i J : Nat} {nd : Nat → Nd} {r : Nat → Option (Int × Int × Int × Int)} {f f' : Nat → Int32} {o : Nat} {s : Bool} {d : Int × Int × Int × Int}
/-- what building the tree leaves of the reference -/
def bF (m m' : Pk) : Prop := (∀ r, ¬ (18 ≤ r ∧ r ≤ 37) → m'.1 r = m.1 r) ∧ (∀ k, ¬ (18 ≤ k ∧ k ≤ 37) → m'.2.1 k = m.2.1 k) ∧ m'.2.2 = m.2.2
theorem bF.rf (m : Pk) : bF m m := ⟨fun _ _ => rfl, fun _ _ => rfl, rfl⟩
theorem bF.tr {a b c : Pk} (h : bF a b) (g : bF b c) : bF a c := ⟨fun r hr => (g.1 r hr).trans (h.1 r hr), fun k hk => (g.2.1 k hk).trans (h.2.1 k hk), g.2.2.trans h.2.2⟩
theorem stS.b (h : stS m m') : bF m m' := ⟨fun r hr => h.1 r (by omega) (by omega), fun k hk => h.2.1 k (by omega) (by omega) (by omega), h.2.2⟩
theorem bF_A (m : Pk) {r j : Nat} (hr : 18 ≤ r ∧ r ≤ 37) (hj : j < 2147483648) (x : Int32) : bF m (pkA m r (zI (j : Int)) x) := ⟨fun k hk => by rw [pA1 hj, if_neg (by omega)], fun k _ => by rw [pA2], rfl⟩
theorem bF_I (m : Pk) {r : Nat} (hr : 18 ≤ r ∧ r ≤ 37) (x : Int32) : bF m (pkI m r x) := ⟨fun _ _ => rfl, fun k hk => by rw [pI, if_neg (by omega)], rfl⟩
theorem ReM.bF (Q : ReM m p) (h : bF m m') : ReM m' p := ⟨by rw [h.1 0 (by decide)]; exact Q.1, by rw [h.2.1 1 (by decide)]; exact Q.2.1, by rw [h.2.1 2 (by decide)]; exact Q.2.2⟩
/-- where a row's cells lie -/
def inr (o i x : Nat) : Prop := o + 5 * i ≤ x ∧ x < o + 5 * i + 5
theorem M_put (hj : J < 30) (hi : i < 12) (d : Int × Int × Int × Int) : ∃ m', fX10_put m (zI (J : Int)) (zI (i : Int)) (zI d.1) (zI d.2.1) (zI d.2.2.1) (zI d.2.2.2) = some m' ∧ m'.2 = m.2 ∧ (∀ r, ¬ r = 32 → m'.1 r = m.1 r) ∧ (∀ x, ¬ inr (60 * J) i x → m'.1 32 x = m.1 32 x) ∧ m'.1 32 (60 * J + 5 * i) = 1 ∧ m'.1 32 (60 * J + 5 * i + 1) = zI d.1 ∧ m'.1 32 (60 * J + 5 * i + 2) = zI d.2.1 ∧ m'.1 32 (60 * J + 5 * i + 3) = zI d.2.2.1 ∧ m'.1 32 (60 * J + 5 * i + 4) = zI d.2.2.2 := by
  have k1 : zI ((60 * J + 5 * i : Nat) : Int) + 1 = zI ((60 * J + 5 * i + 1 : Nat) : Int) := ix_s _
  have k2 : zI ((60 * J + 5 * i : Nat) : Int) + 2 = zI ((60 * J + 5 * i + 2 : Nat) : Int) := ix_c1 _ 2
  have k3 : zI ((60 * J + 5 * i : Nat) : Int) + 3 = zI ((60 * J + 5 * i + 3 : Nat) : Int) := ix_c1 _ 3
  have k4 : zI ((60 * J + 5 * i : Nat) : Int) + 4 = zI ((60 * J + 5 * i + 4 : Nat) : Int) := ix_c1 _ 4
  have b0 : 60 * J + 5 * i < 2147483648 := by omega
  have b1 : 60 * J + 5 * i + 1 < 2147483648 := by omega
  have b2' : 60 * J + 5 * i + 2 < 2147483648 := by omega
  have b3 : 60 * J + 5 * i + 3 < 2147483648 := by omega
  have b4 : 60 * J + 5 * i + 4 < 2147483648 := by omega
  unfold fX10_put
  simp only [qn_s, ix65 J i 0, k1, k2, k3, k4]
  rw [qst_at (by omega) (by decide), qst_at (by omega) (by decide), qst_at (by omega) (by decide), qst_at (by omega) (by decide), qst_at (by omega) (by decide)]
  refine ⟨_, rfl, rfl, fun r hr => ?_, fun x hx => ?_, ?_, ?_, ?_, ?_, ?_⟩
  · rw [pA1 b4, if_neg hr, pA1 b3, if_neg hr, pA1 b2', if_neg hr, pA1 b1, if_neg hr, pA1 b0, if_neg hr]
  · unfold inr at hx
    rw [pAt b4, if_neg (by omega), pAt b3, if_neg (by omega), pAt b2', if_neg (by omega), pAt b1, if_neg (by omega), pAt b0, if_neg (by omega)]
  · rw [pAt b4, if_neg (by omega), pAt b3, if_neg (by omega), pAt b2', if_neg (by omega), pAt b1, if_neg (by omega), pAt b0, if_pos ⟨rfl, rfl⟩]
  · rw [pAt b4, if_neg (by omega), pAt b3, if_neg (by omega), pAt b2', if_neg (by omega), pAt b1, if_pos ⟨rfl, rfl⟩]
  · rw [pAt b4, if_neg (by omega), pAt b3, if_neg (by omega), pAt b2', if_pos ⟨rfl, rfl⟩]
  · rw [pAt b4, if_neg (by omega), pAt b3, if_pos ⟨rfl, rfl⟩]
  · rw [pAt b4, if_pos ⟨rfl, rfl⟩]
/-- a row parted: what lies on one side -/
def rowp (p : Pln) (r : Nat → Option (Int × Int × Int × Int)) (v : Nat) (s : Bool) (w : Nat) : Option (Int × Int × Int × Int) := match r w with
  | none => none
  | some d => match prt p v s (w, d) with
    | [] => none
    | x :: _ => some x.2
theorem rowp_L : ∀ n : Nat, rowL (rowp p r v s) n = prts p v s (rowL r n)
  | 0 => rfl
  | n + 1 => by
    cases e : r (11 - n) with
    | none =>
      rw [rowL_none e, rowL_none (by unfold rowp; rw [e])]
      exact rowp_L n
    | some d =>
      rw [rowL_some e, prts_cons, ← rowp_L n]
      rcases prt_cases (p := p) (v := v) s (11 - n, d) with h | ⟨x, h, hx⟩
      · rw [h, rowL_none (by unfold rowp; rw [e]; show (match prt p v s (11 - n, d) with | [] => none | x :: _ => some x.2) = none; rw [h])]; rfl
      · rw [h, rowL_some (d := x.2) (by unfold rowp; rw [e]; show (match prt p v s (11 - n, d) with | [] => none | x :: _ => some x.2) = some x.2; rw [h])]
        show (11 - n, x.2) :: _ = x :: _
        rw [← (show x.1 = 11 - n from hx)]
        rfl
theorem rowp_none (h : r i = none) : rowp p r v s i = none := by unfold rowp; rw [h]
theorem rowp_prt (h : r i = some d) : rowp p r v s i = (match prt p v s (i, d) with
    | [] => none
    | x :: _ => some x.2) := by unfold rowp; rw [h]
theorem rowp_v (h : r i = some d) : rowp p r v s i = if rel p v (i, d) = 3 then some (cutp p v s (i, d)).2 else if rel p v (i, d) = (if s then 1 else 2) then some d else none := by
  rw [rowp_prt h]
  unfold prt
  by_cases c : rel p v (i, d) = 3
  · rw [if_pos c, if_pos c]
  · rw [if_neg c, if_neg c]
    by_cases e : rel p v (i, d) = (if s then 1 else 2)
    · rw [if_pos e, if_pos e]
    · rw [if_neg e, if_neg e]
def cutr (p : Pln) (r : Nat → Option (Int × Int × Int × Int)) (v : Nat) (s : Bool) (i w : Nat) : Option (Int × Int × Int × Int) := if w < i then rowp p r v s w else none
def cell5 (f : Nat → Int32) (x : Nat) (d : Int × Int × Int × Int) : Prop := f x = 1 ∧ f (x + 1) = zI d.1 ∧ f (x + 2) = zI d.2.1 ∧ f (x + 3) = zI d.2.2.1 ∧ f (x + 4) = zI d.2.2.2
theorem WR_step (h : WR f o (cutr p r v s i)) (hs : ∀ x, o ≤ x → x < o + 60 → ¬ inr o i x → f' x = f x) (h0 : rowp p r v s i = none → f' (o + 5 * i) = 0) (h1 : ∀ d, rowp p r v s i = some d → cell5 f' (o + 5 * i) d) : WR f' o (cutr p r v s (i + 1)) := by
  intro w hw
  by_cases e : w = i
  · subst e
    have c : cutr p r v s (w + 1) w = rowp p r v s w := if_pos (by omega)
    rw [c]
    exact ⟨h0, h1⟩
  · have c : cutr p r v s (i + 1) w = cutr p r v s i w := by
      unfold cutr
      by_cases d : w < i
      · rw [if_pos d, if_pos (by omega)]
      · rw [if_neg d, if_neg (by omega)]
    rw [c]
    have g : ∀ t, t < 5 → f' (o + 5 * w + t) = f (o + 5 * w + t) := fun t ht => hs _ (by omega) (by omega) (by unfold inr; omega)
    have g0 := g 0 (by decide)
    rw [Nat.add_zero] at g0
    obtain ⟨a, b⟩ := h w hw
    exact ⟨fun hn => g0.trans (a hn), fun d hd => by rw [g0, g 1 (by decide), g 2 (by decide), g 3 (by decide), g 4 (by decide)]; exact b d hd⟩
/-- one wall's piece is parted -/
def PartR (m m1 : Pk) (p : Pln) (r : Nat → Option (Int × Int × Int × Int)) (v J i : Nat) : Prop := m1.2.1 35 = m.2.1 35 ∧ m1.2.1 26 = m.2.1 26 ∧ bF m m1 ∧ m1.1 33 = m.1 33 ∧ m1.1 34 = m.1 34 ∧ m1.1 36 = m.1 36 ∧ (∀ x, ¬ inr (60 * J) i x → ¬ inr (60 * (J + 1)) i x → m1.1 32 x = m.1 32 x) ∧ ∀ s : Bool, (rowp p r v s i = none → ∀ x, inr (60 * (if s then J + 1 else J)) i x → m1.1 32 x = m.1 32 x) ∧ ∀ d, rowp p r v s i = some d → cell5 (m1.1 32) (60 * (if s then J + 1 else J) + 5 * i) d
theorem M_partition (Q : ReM m p) (V : VP p) (hv : v < 12) (pv : pP p v = true) (H : PH m N M nd) (hk : k < N) (hM : M < 160) (hJ : J + 1 < 30) (h35 : m.2.1 35 = zI (J : Int)) (W : WR (m.1 36) 0 r) (hi : i < 12) (e : r i = some d) (Wq : vpc p (i, d)) : ∃ m1, fX10_partition m (zI (v : Int)) (zI (k : Int)) (zI (i : Int)) = some m1 ∧ PH m1 N (if rel p v (i, d) = 0 then M + 1 else M) (if rel p v (i, d) = 0 then addP nd k M (i, d) else nd) ∧ PartR m m1 p r v J i := by
  obtain ⟨f0, f1, f2, f3, f4⟩ := (W i hi).2 d e
  rw [Nat.zero_add] at f0 f1 f2 f3 f4
  have k1 : (5 : Int32) * zI (i : Int) + 1 = zI ((5 * i + 1 : Nat) : Int) := by rw [show (5 : Int32) = zI 5 from rfl, zI_mul, z1, zI_add]; congr 1
  have k2 : (5 : Int32) * zI (i : Int) + 2 = zI ((5 * i + 2 : Nat) : Int) := by rw [show (5 : Int32) = zI 5 from rfl, zI_mul, z2, zI_add]; congr 1
  have k3 : (5 : Int32) * zI (i : Int) + 3 = zI ((5 * i + 3 : Nat) : Int) := by rw [show (5 : Int32) = zI 5 from rfl, zI_mul, show (3 : Int32) = zI 3 from rfl, zI_add]; congr 1
  have k4 : (5 : Int32) * zI (i : Int) + 4 = zI ((5 * i + 4 : Nat) : Int) := by rw [show (5 : Int32) = zI 5 from rfl, zI_mul, show (4 : Int32) = zI 4 from rfl, zI_add]; congr 1
  have hm : fX10_relation m (zI (v : Int)) (zI (i : Int)) (zI d.1) (zI d.2.1) (zI d.2.2.1) (zI d.2.2.2) = some (zI (rm (rel p v (i, d)))) := M_relation (q := (i, d)) Q V hv pv Wq
  unfold fX10_partition
  rw [k1, k2, k3, k4, qld_at (by omega) (by decide), qld_at (by omega) (by decide), qld_at (by omega) (by decide), qld_at (by omega) (by decide), f1, f2, f3, f4, hm, qb1_s]
  have hk3 : rel p v (i, d) = 0 ∨ rel p v (i, d) = 1 ∨ rel p v (i, d) = 2 ∨ rel p v (i, d) = 3 := by
    have : rel p v (i, d) ≤ 3 := relI_le _ _
    omega
  have rv : ∀ s, rowp p r v s i = if rel p v (i, d) = 3 then some (cutp p v s (i, d)).2 else if rel p v (i, d) = (if s then 1 else 2) then some d else none := fun s => rowp_v e
  have one : ∀ (J' : Nat), J' < 30 → ∃ m1, fX10_put m (zI (J' : Int)) (zI (i : Int)) (zI d.1) (zI d.2.1) (zI d.2.2.1) (zI d.2.2.2) = some m1 ∧ bF m m1 ∧ PH m1 N M nd ∧ m1.2 = m.2 ∧ (∀ r, ¬ r = 32 → m1.1 r = m.1 r) ∧ (∀ x, ¬ inr (60 * J') i x → m1.1 32 x = m.1 32 x) ∧ cell5 (m1.1 32) (60 * J' + 5 * i) d := by
    intro J' hJ'
    obtain ⟨m1, a1, a2, a3, a4, a5⟩ := M_put (m := m) hJ' hi d
    exact ⟨m1, a1, ⟨fun r hr => a3 r (by omega), fun _ _ => by rw [a2], by rw [a2]⟩, H.of (fun r hr => a3 r (by omega)) (by rw [a2]) (by rw [a2]), a2, a3, a4, a5⟩
  rcases hk3 with c | c | c | c
  · have rn : ∀ s, rowp p r v s i = none := fun s => by rw [rv s, if_neg (by omega), if_neg (by cases s <;> (rw [c]; decide))]
    obtain ⟨m1, a1, a2, a3, a4⟩ := M_addPiece H hk hM ((i, d) : Pc)
    have a1 : fX10_addPiece m (zI (k : Int)) (zI (i : Int)) (zI d.1) (zI d.2.1) (zI d.2.2.1) (zI d.2.2.2) = some m1 := a1
    rw [c, if_pos (by decide), a1, qb1_s, if_pos rfl, if_pos rfl]
    exact ⟨m1, rfl, a2, a3.2.1 35 (by decide) (by decide) (by decide), a4, a3.b, a3.1 33 (by decide) (by decide), a3.1 34 (by decide) (by decide), a3.1 36 (by decide) (by decide), fun x _ _ => by rw [a3.1 32 (by decide) (by decide)], fun s => ⟨fun _ x _ => by rw [a3.1 32 (by decide) (by decide)], fun d' hd' => by rw [rn s] at hd'; cases hd'⟩⟩
  · obtain ⟨m1, a1, a2, a3, a4, a5, a6, a7⟩ := one (J + 1) hJ
    unfold fX10_partition_b211
    rw [c, if_neg (by decide), if_neg (by decide), if_pos (by decide), h35, ix_s, a1, qb1_s, if_neg (by decide), if_neg (by decide)]
    refine ⟨m1, rfl, a3, by rw [a4], by rw [a4], a2, a5 33 (by decide), a5 34 (by decide), a5 36 (by decide), fun x _ hx => a6 x hx, fun s => ?_⟩
    cases s with
    | true =>
      have rt : rowp p r v true i = some d := by rw [rv true, if_neg (by omega), if_pos (by rw [c]; rfl)]
      exact ⟨fun h => (by rw [rt] at h; cases h), fun d' hd' => by rw [rt] at hd'; cases hd'; exact a7⟩
    | false =>
      have rf' : rowp p r v false i = none := by rw [rv false, if_neg (by omega), if_neg (by rw [c]; decide)]
      exact ⟨fun _ x hx => a6 x (by unfold inr at *; rw [if_neg (by decide)] at hx; omega), fun d' hd' => by rw [rf'] at hd'; cases hd'⟩
  · obtain ⟨m1, a1, a2, a3, a4, a5, a6, a7⟩ := one J (by omega)
    unfold fX10_partition_b211
    rw [c, if_neg (by decide), if_neg (by decide), if_neg (by decide), h35, a1, qb1_s, if_neg (by decide), if_neg (by decide)]
    refine ⟨m1, rfl, a3, by rw [a4], by rw [a4], a2, a5 33 (by decide), a5 34 (by decide), a5 36 (by decide), fun x hx _ => a6 x hx, fun s => ?_⟩
    cases s with
    | false =>
      have rt : rowp p r v false i = some d := by rw [rv false, if_neg (by omega), if_pos (by rw [c]; rfl)]
      exact ⟨fun h => (by rw [rt] at h; cases h), fun d' hd' => by rw [rt] at hd'; cases hd'; exact a7⟩
    | true =>
      have rf' : rowp p r v true i = none := by rw [rv true, if_neg (by omega), if_neg (by rw [c]; decide)]
      exact ⟨fun _ x hx => a6 x (by unfold inr at *; rw [if_pos rfl] at hx; omega), fun d' hd' => by rw [rf'] at hd'; cases hd'⟩
  · have hc := M_cut (q := (i, d)) Q V hv pv Wq c
    have hc : fX10_cut m (zI (v : Int)) (zI (i : Int)) = some (pkI (pkI m 18 (zI (cN p v i))) 19 (zI (cD p v i))) := hc
    obtain ⟨σ, g, C⟩ := cut_spec Wq c
    obtain ⟨s1, -, -, -, s2, -, s4, -, -⟩ := C
    have bc : bF m (pkI (pkI m 18 (zI (cN p v i))) 19 (zI (cD p v i))) := (bF_I m (by decide) _).tr (bF_I _ (by decide) _)
    have Qc := Q.bF bc
    obtain ⟨vb, -⟩ := vpc_bd Wq
    have vb2 := Wq.2.2.1
    have hs := M_signAt Qc V hv pv hi Wq.1.2 (n := d.1) (d := d.2.1) (by show -7938 ≤ d.1 ∧ _; have : 0 ≤ d.1 ∧ d.1 ≤ 7938 := vb; omega) (by show -7938 ≤ d.2.1 ∧ _; have : 1 ≤ d.2.1 ∧ d.2.1 ≤ 7938 := vb2; omega)
    rw [c, if_neg (by decide), if_pos (by decide), hc, qb1_s, hs, qb1_s]
    have Hc : PH (pkI (pkI m 18 (zI (cN p v i))) 19 (zI (cD p v i))) N M nd := H.of (fun _ _ => rfl) rfl rfl
    rw [if_neg (show ¬ (3 : Nat) = 0 by decide), if_neg (show ¬ (3 : Nat) = 0 by decide)]
    -- two puts
    have two : ∀ (J1 J2 : Nat) (d1 d2 : Int × Int × Int × Int), J1 < 30 → J2 < 30 → ¬ J1 = J2 → ∃ m1 m2, fX10_put (pkI (pkI m 18 (zI (cN p v i))) 19 (zI (cD p v i))) (zI (J1 : Int)) (zI (i : Int)) (zI d1.1) (zI d1.2.1) (zI d1.2.2.1) (zI d1.2.2.2) = some m1 ∧ fX10_put m1 (zI (J2 : Int)) (zI (i : Int)) (zI d2.1) (zI d2.2.1) (zI d2.2.2.1) (zI d2.2.2.2) = some m2 ∧ m1.2.1 = (pkI (pkI m 18 (zI (cN p v i))) 19 (zI (cD p v i))).2.1 ∧ bF m m2 ∧ PH m2 N M nd ∧ m2.2.1 = (pkI (pkI m 18 (zI (cN p v i))) 19 (zI (cD p v i))).2.1 ∧ (∀ r, ¬ r = 32 → m2.1 r = m.1 r) ∧ (∀ x, ¬ inr (60 * J1) i x → ¬ inr (60 * J2) i x → m2.1 32 x = m.1 32 x) ∧ cell5 (m2.1 32) (60 * J1 + 5 * i) d1 ∧ cell5 (m2.1 32) (60 * J2 + 5 * i) d2 := by
      intro J1 J2 d1 d2 h1 h2 hn
      obtain ⟨m1, a1, a2, a3, a4, a5⟩ := M_put (m := pkI (pkI m 18 (zI (cN p v i))) 19 (zI (cD p v i))) h1 hi d1
      obtain ⟨m2, b1, b2, b3, b4, b5⟩ := M_put (m := m1) h2 hi d2
      refine ⟨m1, m2, a1, b1, by rw [a2], bc.tr ⟨fun r hr => (b3 r (by omega)).trans (a3 r (by omega)), fun _ _ => by rw [b2, a2], by rw [b2, a2]⟩, Hc.of (fun r hr => (b3 r (by omega)).trans (a3 r (by omega))) (by rw [b2, a2]) (by rw [b2, a2]), by rw [b2, a2], fun r hr => (b3 r hr).trans (a3 r hr), fun x x1 x2 => (b4 x x2).trans (a4 x x1), ?_, b5⟩
      obtain ⟨c0, c1, c2, c3, c4⟩ := a5
      exact ⟨(b4 _ (by unfold inr; omega)).trans c0, (b4 _ (by unfold inr; omega)).trans c1, (b4 _ (by unfold inr; omega)).trans c2, (b4 _ (by unfold inr; omega)).trans c3, (b4 _ (by unfold inr; omega)).trans c4⟩
    have e35 : (pkI (pkI m 18 (zI (cN p v i))) 19 (zI (cD p v i))).2.1 35 = zI (J : Int) := h35
    have e18 : (pkI (pkI m 18 (zI (cN p v i))) 19 (zI (cD p v i))).2.1 18 = zI (cN p v i) := rfl
    have e19 : (pkI (pkI m 18 (zI (cN p v i))) 19 (zI (cD p v i))).2.1 19 = zI (cD p v i) := rfl
    have rs : ∀ s, rowp p r v s i = some (cutp p v s (i, d)).2 := fun s => by rw [rv s, if_pos c]
    unfold fX10_partition_b116 fX10_partition_b137 fX10_partition_b172
    have le0 : zI (sg (ev p v i d.1 d.2.1)) ≤ 0 ↔ ev p v i d.1 d.2.1 ≤ 0 := by
      have := (sg_z (ev p v i d.1 d.2.1)).2.2
      rw [← nlt, this]; omega
    have s4 : 0 < σ * ev p v i d.1 d.2.1 := s4
    have s2 : 0 < σ * eA p v i := s2
    by_cases kk : 0 < eA p v i
    · have pe : 0 < ev p v i d.1 d.2.1 := by rcases s1 with rfl | rfl <;> omega
      obtain ⟨m1, m2, a1, a2, a3, a4, a5, a6, a7, a8, a9, a10⟩ := two (J + 1) J (d.1, d.2.1, cN p v i, cD p v i) (cN p v i, cD p v i, d.2.2.1, d.2.2.2) hJ (by omega) (by omega)
      have u1 : m1.2.1 35 = zI (J : Int) := by rw [a3]; exact e35
      have u2 : m1.2.1 18 = zI (cN p v i) := by rw [a3]; exact e18
      have u3 : m1.2.1 19 = zI (cD p v i) := by rw [a3]; exact e19
      rw [if_neg (fun g => by have := le0.mp g; omega), if_neg (show ¬ (1 : Int32) = 0 by decide), e35, ix_s, e18, e19]
      rw [show fX10_put (pkI (pkI m 18 (zI (cN p v i))) 19 (zI (cD p v i))) (zI ((J + 1 : Nat) : Int)) (zI (i : Int)) (zI d.1) (zI d.2.1) (zI (cN p v i)) (zI (cD p v i)) = some m1 from a1, qb1_s, if_neg (show ¬ (1 : Int32) = 0 by decide), u1, u2, u3]
      rw [show fX10_put m1 (zI (J : Int)) (zI (i : Int)) (zI (cN p v i)) (zI (cD p v i)) (zI d.2.2.1) (zI d.2.2.2) = some m2 from a2, qb1_s]
      refine ⟨m2, rfl, a5, by rw [a6]; rfl, by rw [a6]; rfl, a4, a7 33 (by decide), a7 34 (by decide), a7 36 (by decide), fun x x1 x2 => a8 x x2 x1, fun s => ⟨fun h => (by rw [rs s] at h; cases h), fun d' hd' => ?_⟩⟩
      rw [rs s] at hd'
      have hd' : (cutp p v s (i, d)).2 = d' := by injection hd'
      rw [← hd']
      unfold cutp
      cases s with
      | true => rw [if_pos (decide_eq_true (show 0 < eA p v (i, d).1 from kk)), if_pos rfl]; exact a9
      | false => rw [if_neg (show ¬ false = true by decide), if_neg (show ¬ decide (0 < eA p v (i, d).1) = false by rw [decide_eq_true (show 0 < eA p v (i, d).1 from kk)]; decide)]; exact a10
    · have pe : ¬ 0 < ev p v i d.1 d.2.1 := by rcases s1 with rfl | rfl <;> omega
      obtain ⟨m1, m2, a1, a2, a3, a4, a5, a6, a7, a8, a9, a10⟩ := two J (J + 1) (d.1, d.2.1, cN p v i, cD p v i) (cN p v i, cD p v i, d.2.2.1, d.2.2.2) (by omega) hJ (by omega)
      have u1 : m1.2.1 35 = zI (J : Int) := by rw [a3]; exact e35
      have u2 : m1.2.1 18 = zI (cN p v i) := by rw [a3]; exact e18
      have u3 : m1.2.1 19 = zI (cD p v i) := by rw [a3]; exact e19
      rw [if_pos (le0.mpr (by omega)), if_pos rfl, e35, e18, e19]
      rw [show fX10_put (pkI (pkI m 18 (zI (cN p v i))) 19 (zI (cD p v i))) (zI (J : Int)) (zI (i : Int)) (zI d.1) (zI d.2.1) (zI (cN p v i)) (zI (cD p v i)) = some m1 from a1, qb1_s, if_pos rfl, u1, u2, u3, ix_s]
      rw [show fX10_put m1 (zI ((J + 1 : Nat) : Int)) (zI (i : Int)) (zI (cN p v i)) (zI (cD p v i)) (zI d.2.2.1) (zI d.2.2.2) = some m2 from a2, qb1_s]
      refine ⟨m2, rfl, a5, by rw [a6]; rfl, by rw [a6]; rfl, a4, a7 33 (by decide), a7 34 (by decide), a7 36 (by decide), fun x x1 x2 => a8 x x1 x2, fun s => ⟨fun h => (by rw [rs s] at h; cases h), fun d' hd' => ?_⟩⟩
      rw [rs s] at hd'
      have hd' : (cutp p v s (i, d)).2 = d' := by injection hd'
      rw [← hd']
      unfold cutp
      cases s with
      | true => rw [if_pos (show true = true from rfl), if_neg (show ¬ decide (0 < eA p v (i, d).1) = true by rw [decide_eq_false (show ¬ 0 < eA p v (i, d).1 from kk)]; decide)]; exact a10
      | false => rw [if_pos (decide_eq_false (show ¬ 0 < eA p v (i, d).1 from kk)), if_neg (by decide)]; exact a9
end S
