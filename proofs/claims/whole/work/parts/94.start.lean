/-! THE CLAIM OUT OF ONE WALK OF THE LAW'S BODY. Your part is whole_start (and what it stands on); all else here is the same for every law, but numbers. -/
def R_law : String := "WallPartitionLaw"
def lw_P (b : Addr) (xs : List Int32) (args : Array Value) (s : State) : Prop := args = #[.ref b] ∧ s.IntsAt b xs ∧ xs.length ≤ 3584 ∧ (Jvm.Cond.and given_1 narrow_1).before args s = true
/-- what a walk over the start with the record d0 says of its end, said of the start itself -/
theorem lw_closed {s t : State} {o : Outcome} {d0 : Drawn} {L : List Loc} {k n : Nat} (hd0 : s.drawn.sameBut d0 lw_cs) (hv : ∃ v, o = .returned v) (hW : (s.setDrawn d0).WarmedH t.vm) (hs : (s.setDrawn d0).sameButNew ({ t with vm := s.vm } : State) L k n) : State.butDraws s t lw_cs (fun t1 => Framed s o t1 L k n) := by
  have h2 : t.drawn = d0 := congrArg State.drawn hs.1
  refine ⟨⟨hv, hW, State.sameButNew.setDrawn hs s.drawn⟩, ?_, by decide⟩
  rw [h2]
  exact hd0
def lw_Q (_ : Array Value) (s : State) (o : Outcome) (t : State) : Prop := o = .returned (some (.int 1)) ∧ State.butDraws s t lw_cs (fun t1 => Framed s o t1 [] 600000 7302250)
def lw_Z (below : List Frame) (a : Array Value) (s : State) : State → Prop := fun t => ∃ o, t.status = .running ∧ Ended t below o ∧ lw_Q a s o t
/-- the law's own end, with 1 on the stack, nothing written that was there before, its room as the claim has it; d0: the record of draws at this point (at the entry s.drawn: begin with 'refine W.base ?_' and 'have hd0 := Drawn.sameBut.refl s.drawn lw_cs') -/
theorem lw_ret {p : Program} {l : Launch} {e : Env} {s : State} {m : MethodId} {below : List Frame} {meth : Method} {c : Code} {b : Nat} {d0 : Drawn} (hd0 : s.drawn.sameBut d0 lw_cs) (hx : p.tables.exec = Jvm.exec) (hb : c.code = code) (hr : meth.sig.returnType = ret) (hlocks : meth.locks = false) {pc : Nat} {H : Heap} {ls : Array Slot} (hdg : decode code pc = .ok (.ireturn, 1)) : W p l e room_1 (s.setDrawn d0) m #[Value.ref b] below meth c H [] 600000 7302250 (lw_Z below #[Value.ref b] s) (F0 m pc ls [.int 1]) := by
  intro T hT X
  obtain ⟨fs, hret, hrun, hended, hW, hframe⟩ := X.leave (v := some (.int 1)) (hlocks := hlocks) (fun h => by rw [hr] at h; cases h)
  have hmeth' : T.vm.method? m = some meth := X.method'
  refine ⟨T.setFrames fs, ?_, .returned (some (.int 1)), hrun, hended, rfl, lw_closed hd0 ⟨_, rfl⟩ hW hframe⟩
  jvm_step X.here [X.here.top, hx, hb, hdg, hmeth', hr, ret, narrow_b1]
  (try refine ⟨rfl, ?_⟩); (try refine ⟨rfl, ?_⟩)
  first | (intro acts; rw [hret _ acts rfl rfl rfl]) | rw [hret _ _ rfl rfl rfl]
  exact Steps.refl _
/-- what holds at the law's entry: the machine, the code, the tables' words (any of lw_tbl by 'hts w (by decide +kernel)'), the script of L ints xs at the cell b, what the Statement gives of the start (any of its parts by flat_of_before) -/
def lw_At (p : Program) (s : State) (m : MethodId) (meth : Method) (c : Code) (b L : Nat) (xs : Nat → Int32) : Prop :=
  p.tables.exec = Jvm.exec ∧ c.code = code ∧ meth.sig.returnType = ret ∧ c.maxLocals = 8 ∧ s.vm.findClass R_law = some m.cls ∧ (∀ w ∈ lw_tbl, w.before #[Value.ref b] s = true) ∧ va_X b L xs s s.heap ∧ b < s.heap.size ∧ meth.locks = false ∧ (Jvm.Cond.and given_1 narrow_1).before #[Value.ref b] s = true
set_option maxHeartbeats 40000000 in
set_option maxRecDepth 100000 in
theorem whole_start {p : Program} {e : Env} {s : State} {m : MethodId} {below : List Frame} {meth : Method} {c : Code} (l : Launch) (hflags : l.flags = flags0) {b L : Nat} {xs : Nat → Int32} (hL : L ≤ 3584) (C0 : lw_At p s m meth c b L xs) : W p l e room_1 s m #[Value.ref b] below meth c s.heap [] 0 0 (lw_Z below #[Value.ref b] s) (entryFrame m ([Value.ref b] : List Value).toArray 8) := by
  obtain ⟨hx, hb, hr, hml, hown, hts, hX, hbl, hlocks, hgv⟩ := id C0
  have hwB : ∀ w ∈ wB, w.before #[Value.ref b] s = true := fun w h => hts w (List.mem_filter.mp h).1
  obtain ⟨c0, i0, n0⟩ := u_known (C := RX0) (T := TX0) (N := 6) (n := 6) hwB inBX0 (hwB (.instantiable RX0 6) (wB_at 274 (by decide +kernel) (by decide +kernel)))
  obtain ⟨c1, i1, n1⟩ := u_known (C := RX1) (T := TX1) (N := 3) (n := 3) hwB inBX1 (hwB (.instantiable RX1 3) (wB_at 299 (by decide +kernel) (by decide +kernel)))
  obtain ⟨c2, i2, n2⟩ := u_known (C := RX2) (T := TX2) (N := 3) (n := 3) hwB inBX2 (hwB (.instantiable RX2 3) (wB_at 138 (by decide +kernel) (by decide +kernel)))
  obtain ⟨c3, i3, n3⟩ := u_known (C := RX3) (T := TX3) (N := 4) (n := 4) hwB inBX3 (hwB (.instantiable RX3 4) (wB_at 360 (by decide +kernel) (by decide +kernel)))
  obtain ⟨c4, i4, n4⟩ := u_known (C := RX4) (T := TX4) (N := 8) (n := 8) hwB inBX4 (hwB (.instantiable RX4 8) (wB_at 191 (by decide +kernel) (by decide +kernel)))
  obtain ⟨c5, i5, n5⟩ := u_known (C := RX5) (T := TX5) (N := 12) (n := 12) hwB inBX5 (hwB (.instantiable RX5 12) (wB_at 317 (by decide +kernel) (by decide +kernel)))
  obtain ⟨c6, i6, n6⟩ := u_known (C := RX6) (T := TX6) (N := 17) (n := 17) hwB inBX6 (hwB (.instantiable RX6 17) (wB_at 185 (by decide +kernel) (by decide +kernel)))
  obtain ⟨c7, i7, n7⟩ := u_known (C := RX7) (T := TX7) (N := 7) (n := 7) hwB inBX7 (hwB (.instantiable RX7 7) (wB_at 157 (by decide +kernel) (by decide +kernel)))
  obtain ⟨c8, i8, n8⟩ := u_known (C := RX8) (T := TX8) (N := 9) (n := 9) hwB inBX8 (hwB (.instantiable RX8 9) (wB_at 102 (by decide +kernel) (by decide +kernel)))
  obtain ⟨c9, i9, n9⟩ := u_known (C := RX9) (T := TX9) (N := 13) (n := 13) hwB inBX9 (hwB (.instantiable RX9 13) (wB_at 94 (by decide +kernel) (by decide +kernel)))
  obtain ⟨c10, i10, n10⟩ := u_known (C := RX10) (T := TX10) (N := 70) (n := 70) hwB inBX10 (hwB (.instantiable RX10 70) (wB_at 1240 (by decide +kernel) (by decide +kernel)))
  obtain ⟨dC, dI, hKc⟩ : ∃ (dC : Nat → ClassId) (dI : Nat → Nat → Nat), ∀ (k : Nat) (q : vw_C), vwCl[k]? = some q → u_Kn s q.1 q.2.1 q.2.2 (dC k) (dI k) := by
    refine ⟨fun k => [c0, c1, c2, c3, c4, c5, c6, c7, c8, c9, c10].getD k c0, fun k => [i0, i1, i2, i3, i4, i5, i6, i7, i8, i9, i10].getD k i0, ?_⟩
    intro k q hq
    match k, hq with
    | 0, hq => cases hq; exact n0
    | 1, hq => cases hq; exact n1
    | 2, hq => cases hq; exact n2
    | 3, hq => cases hq; exact n3
    | 4, hq => cases hq; exact n4
    | 5, hq => cases hq; exact n5
    | 6, hq => cases hq; exact n6
    | 7, hq => cases hq; exact n7
    | 8, hq => cases hq; exact n8
    | 9, hq => cases hq; exact n9
    | 10, hq => cases hq; exact n10
    | k + 11, hq => simp [vwCl] at hq
  obtain ⟨cI, kI, pI, aI1, aI2, aI3⟩ := Cond.arrayClass_spec (hwB (.arrayClass .int) (wB_at 136 (by decide +kernel) (by decide +kernel)))
  obtain ⟨cZ, kZ, pZ, aZ1, aZ2, aZ3⟩ := Cond.arrayClass_spec (hwB (.arrayClass .boolean) (wB_at 135 (by decide +kernel) (by decide +kernel)))
  have hAO : va_AO "WallPartition$Walls" s := va_AO.of (hts (.arrayOver (.object "WallPartition$Walls")) (List.mem_of_getElem? (i := 144) (by decide +kernel)))
  obtain ⟨pQ, cQ, kQ, aQ0, aQi, aQ2, aQ3, aQ1⟩ := Cond.arrayOver_spec (va_AO.use (A := #[]) hAO)
  have hK : va_K (dC, dI) vwCl (TY cI cZ cQ) s := by
    refine ⟨hKc, fun k q hq => ?_⟩
    match k, hq with
    | 0, hq => cases hq; exact ⟨fun N z => ⟨fun k h => (by cases h), kI, aI2, pI, aI3⟩, aI1⟩
    | 1, hq => cases hq; exact ⟨fun N z => ⟨fun k h => (by cases h), kZ, aZ2, pZ, aZ3⟩, aZ1⟩
    | 2, hq => cases hq; exact ⟨fun N z => ⟨fun k h => (by cases h), kQ, aQ2, pQ, aQ3⟩, kQ, pQ, aQ2, aQ3, aQ0, aQ1⟩
    | k + 3, hq => simp [TY] at hq
  have hNW : NW s := ⟨va_Nw.of rfl (hts (.methodLinkNest RX9 11 yX8_init "WallPartition") (List.mem_of_getElem? (i := 103) (by decide +kernel))), va_Nw.of rfl (hts (.methodLinkNest RX9 31 yX7_init "WallPartition") (List.mem_of_getElem? (i := 158) (by decide +kernel))), va_Nw.of rfl (hts (.methodLinkNest RX2 15 yX8_init "WallPartition") (List.mem_of_getElem? (i := 145) (by decide +kernel))), va_Nw.of rfl (hts (.methodLinkNest RX4 87 yX9_greatestDivisor "WallPartition") (List.mem_of_getElem? (i := 778) (by decide +kernel))), hAO⟩
  have hd0 := Drawn.sameBut.refl s.drawn lw_cs
  refine W.base ?_
  obtain ⟨X, hXe⟩ : ∃ X : Cx, X = (p, l, e, room_1, s.setDrawn s.drawn, m, #[Value.ref b], below, meth, c, (dC, dI), (fun q : Nat => s.heap.size ≤ q), lw_Z below #[Value.ref b] s) := ⟨_, rfl⟩
  have O : OK X cL_law 8 RL wB room_1 cI cZ cQ := by
    subst hXe
    exact ⟨hx, hb, hml, hown, dr_words hwB _, hK, fun q h => h, rfl, hlocks, hNW⟩
  have S : SX X b L xs := by
    subst hXe
    exact ⟨hX, hbl, Nat.not_le.mpr hbl⟩
  have E : ∀ {pc : Nat} {ws : List va_W} {lv : List (Nat × Value)}, decode cL_law pc = .ok (.ireturn, 1) → BK X 8 177 15831 pc ws lv [.int 1] := by
    intro pc ws lv hdg
    subst hXe
    intro H lo ls hP hD hS hl
    refine va_forget hS.2.2 ?_
    refine W.widen (k := 600000) (n := 7302250) (Nat.le_of_ble_eq_true rfl) (Nat.le_of_ble_eq_true rfl) ?_
    exact lw_ret hd0 hx hb hr hlocks hdg
  have K : BK X 8 0 0 0 [] [(0, .ref b)] [] := by
    refine r_new (C := RX9) (T := TX9) (N := 13) (ci := 9) (fs := [.null, .null, .null, .null, .null, .null, .null, .null, .null, .null, .null, .int 0, .int 0]) O 3 rfl inBX9 tyX9 tyX9_ok (wB_at 93 (by decide +kernel) (by decide +kernel)) (wB_at 94 (by decide +kernel) (by decide +kernel)) izX9 rfl dfX9 (Nat.le_of_ble_eq_true rfl) (Nat.le_of_ble_eq_true rfl) dL_law_0 (fun q0 => ?_)
    refine r_dup O 4 rfl dL_law_3 rfl ?_
    refine k_NI O 7 rfl (zX9_init (l := xl X) (D := xD X) (cI := cI) (cZ := cZ) (cQ := cQ) (b := q0)) (gC mvX9_init.2) rfl rfl rfl izX9 (wB_at 95 (by decide +kernel) (by decide +kernel)) mvX9_init.1 rfl hdX9_init ⟨Nat.le_of_ble_eq_true rfl, Nat.le_of_ble_eq_true rfl⟩ rfl rfl (Nat.le_of_ble_eq_true rfl) ⟨Nat.le_of_ble_eq_true rfl, Nat.le_of_ble_eq_true rfl⟩ 0 rfl (fun G h => by rw [← h]; rfl) dL_law_4 (fun G hG => ?_)
    subst hG
    refine r_ws [nX9 cI cZ cQ (G 0) ((G 1) 0) ((G 2) 0) ((G 3) 0) ((G 4) 0) ((G 13) 0) ((G 14) 0) ((G 17) 0) ((G 20) 0) ((G 21) 0) ((G 23) 0) ((G 24) 0) iX9, nX8 cI cZ cQ (G 1) iX8, nX8 cI cZ cQ (G 2) iX8, nX8 cI cZ cQ (G 3) iX8, nX2 cI cZ cQ (G 4) (hkf (G 5) (G 6) (G 7) (G 8) (G 9) (G 10) (G 11) (G 12)) iX2, nX8 cI cZ cQ (G 5) iX8, nX8 cI cZ cQ (G 6) iX8, nX8 cI cZ cQ (G 7) iX8, nX8 cI cZ cQ (G 8) iX8, nX8 cI cZ cQ (G 9) iX8, nX8 cI cZ cQ (G 10) iX8, nX8 cI cZ cQ (G 11) iX8, nX8 cI cZ cQ (G 12) iX8, nX7 cI cZ cQ (G 13) iX7, nX6 cI cZ cQ (G 14) ((G 1) 0) ((G 15) 0) ((G 16) 0) iX6, nX4 cI cZ cQ (G 15) ((G 1) 0) iX4_300, nX4 cI cZ cQ (G 16) ((G 1) 0) iX4_144, nX6 cI cZ cQ (G 17) ((G 1) 0) ((G 18) 0) ((G 19) 0) iX6, nX4 cI cZ cQ (G 18) ((G 1) 0) iX4_300, nX4 cI cZ cQ (G 19) ((G 1) 0) iX4_144, nX0 cI cZ cQ (G 20) ((G 1) 0) ((G 14) 0) iX0, nX1 cI cZ cQ (G 21) ((G 22) 0) iX1, nX4 cI cZ cQ (G 22) ((G 1) 0) iX4_55, nX5 cI cZ cQ (G 23) ((G 1) 0) iX5, nX3 cI cZ cQ (G 24) ((G 1) 0) iX3] (List.append_nil _) ?_
    refine r_ast_n O 8 rfl rfl [(1, .ref (G 0 0)), (0, .ref b)] dL_law_7 (by decide) rfl ?_
    refine r_new (C := RX10) (T := TX10) (N := 70) (ci := 10) (fs := [.null, .int 0, .int 0, .null, .int 0, .null, .int 0, .int 0, .int 0, .int 0, .null, .int 0, .int 0, .int 0, .int 0, .int 0, .int 0, .null, .int 0, .int 0, .null, .null, .null, .null, .null, .int 0, .int 0, .null, .null, .null, .null, .int 0, .null, .null, .null, .int 0, .null, .null, .null, .null, .null, .null, .null, .null, .null, .int 0, .int 0, .int 0, .int 0, .null, .int 0, .long 0, .long 0, .long 0, .int 0, .long 0, .long 0, .long 0, .long 0, .int 0, .long 0, .long 0, .null, .int 0, .null, .null, .int 0, .int 0, .int 0, .int 0]) O 11 rfl inBX10 tyX10 tyX10_ok (wB_at 1239 (by decide +kernel) (by decide +kernel)) (wB_at 1240 (by decide +kernel) (by decide +kernel)) izX10 rfl dfX10 (Nat.le_of_ble_eq_true rfl) (Nat.le_of_ble_eq_true rfl) dL_law_8 (fun q1 => ?_)
    refine r_dup O 12 rfl dL_law_11 rfl ?_
    refine k_NI O 15 rfl (zX10_init (l := xl X) (D := xD X) (cI := cI) (cZ := cZ) (cQ := cQ) (b := q1)) (gC mvX10_init.2) rfl rfl rfl izX10 (wB_at 1241 (by decide +kernel) (by decide +kernel)) mvX10_init.1 rfl hdX10_init ⟨Nat.le_of_ble_eq_true rfl, Nat.le_of_ble_eq_true rfl⟩ rfl rfl (Nat.le_of_ble_eq_true rfl) ⟨Nat.le_of_ble_eq_true rfl, Nat.le_of_ble_eq_true rfl⟩ 25 rfl (fun G h => by rw [← h]; rfl) dL_law_12 (fun G1 hG1 => ?_)
    subst hG1
    refine r_ws [nX9 cI cZ cQ (G 0) ((G 1) 0) ((G 2) 0) ((G 3) 0) ((G 4) 0) ((G 13) 0) ((G 14) 0) ((G 17) 0) ((G 20) 0) ((G 21) 0) ((G 23) 0) ((G 24) 0) iX9, nX8 cI cZ cQ (G 1) iX8, nX8 cI cZ cQ (G 2) iX8, nX8 cI cZ cQ (G 3) iX8, nX2 cI cZ cQ (G 4) (hkf (G 5) (G 6) (G 7) (G 8) (G 9) (G 10) (G 11) (G 12)) iX2, nX8 cI cZ cQ (G 5) iX8, nX8 cI cZ cQ (G 6) iX8, nX8 cI cZ cQ (G 7) iX8, nX8 cI cZ cQ (G 8) iX8, nX8 cI cZ cQ (G 9) iX8, nX8 cI cZ cQ (G 10) iX8, nX8 cI cZ cQ (G 11) iX8, nX8 cI cZ cQ (G 12) iX8, nX7 cI cZ cQ (G 13) iX7, nX6 cI cZ cQ (G 14) ((G 1) 0) ((G 15) 0) ((G 16) 0) iX6, nX4 cI cZ cQ (G 15) ((G 1) 0) iX4_300, nX4 cI cZ cQ (G 16) ((G 1) 0) iX4_144, nX6 cI cZ cQ (G 17) ((G 1) 0) ((G 18) 0) ((G 19) 0) iX6, nX4 cI cZ cQ (G 18) ((G 1) 0) iX4_300, nX4 cI cZ cQ (G 19) ((G 1) 0) iX4_144, nX0 cI cZ cQ (G 20) ((G 1) 0) ((G 14) 0) iX0, nX1 cI cZ cQ (G 21) ((G 22) 0) iX1, nX4 cI cZ cQ (G 22) ((G 1) 0) iX4_55, nX5 cI cZ cQ (G 23) ((G 1) 0) iX5, nX3 cI cZ cQ (G 24) ((G 1) 0) iX3, nX10 cI cZ cQ (G1 0) iX10] (congrArg (fun z => List.flatten [nX9 cI cZ cQ (G 0) ((G 1) 0) ((G 2) 0) ((G 3) 0) ((G 4) 0) ((G 13) 0) ((G 14) 0) ((G 17) 0) ((G 20) 0) ((G 21) 0) ((G 23) 0) ((G 24) 0) iX9, nX8 cI cZ cQ (G 1) iX8, nX8 cI cZ cQ (G 2) iX8, nX8 cI cZ cQ (G 3) iX8, nX2 cI cZ cQ (G 4) (hkf (G 5) (G 6) (G 7) (G 8) (G 9) (G 10) (G 11) (G 12)) iX2, nX8 cI cZ cQ (G 5) iX8, nX8 cI cZ cQ (G 6) iX8, nX8 cI cZ cQ (G 7) iX8, nX8 cI cZ cQ (G 8) iX8, nX8 cI cZ cQ (G 9) iX8, nX8 cI cZ cQ (G 10) iX8, nX8 cI cZ cQ (G 11) iX8, nX8 cI cZ cQ (G 12) iX8, nX7 cI cZ cQ (G 13) iX7, nX6 cI cZ cQ (G 14) ((G 1) 0) ((G 15) 0) ((G 16) 0) iX6, nX4 cI cZ cQ (G 15) ((G 1) 0) iX4_300, nX4 cI cZ cQ (G 16) ((G 1) 0) iX4_144, nX6 cI cZ cQ (G 17) ((G 1) 0) ((G 18) 0) ((G 19) 0) iX6, nX4 cI cZ cQ (G 18) ((G 1) 0) iX4_300, nX4 cI cZ cQ (G 19) ((G 1) 0) iX4_144, nX0 cI cZ cQ (G 20) ((G 1) 0) ((G 14) 0) iX0, nX1 cI cZ cQ (G 21) ((G 22) 0) iX1, nX4 cI cZ cQ (G 22) ((G 1) 0) iX4_55, nX5 cI cZ cQ (G 23) ((G 1) 0) iX5, nX3 cI cZ cQ (G 24) ((G 1) 0) iX3, z]) (List.append_nil (nX10 cI cZ cQ (G1 0) iX10))) ?_
    refine r_ast_n O 16 rfl rfl [(2, .ref (G1 0 0)), (1, .ref (G 0 0)), (0, .ref b)] dL_law_15 (by decide) rfl ?_
    refine r_ic O 17 rfl 0 (by decide) dL_law_16 ?_
    refine r_ist_n O 18 rfl rfl [(3, .int 0), (2, .ref (G1 0 0)), (1, .ref (G 0 0)), (0, .ref b)] dL_law_17 (by decide) rfl ?_
    refine r_lv [3, 2, 1, 0] rfl ?_
    exact lwB18 O S E (h_t := G 0) (h_w := G 1) (h_b := G 2) (h_l := G 3) (h_H := G 4) (h_k0 := G 5) (h_k1 := G 6) (h_k2 := G 7) (h_k3 := G 8) (h_k4 := G 9) (h_k5 := G 10) (h_k6 := G 11) (h_k7 := G 12) (h_x := G 13) (h_T := G 14) (h_L := G 15) (h_P := G 16) (h_C := G 17) (h_M := G 18) (h_Q := G 19) (h_d := G 20) (h_F := G 21) (h_G := G 22) (h_r := G 23) (h_n := G 24) (h_m := G1 0) FU iX9 iX8 iX8 iX8 iX2 iX8 iX8 iX8 iX8 iX8 iX8 iX8 iX8 iX7 iX6 iX4_300 iX4_144 iX6 iX4_300 iX4_144 iX0 iX1 iX4_55 iX5 iX3 iX10 0 (law_true L xs hL)
  subst hXe
  have hl := lv_entry ([.ref b]) (n := 8) (Nat.le_of_ble_eq_true rfl)
  rw [lg_entry_eq]
  exact K s.heap [] _ (fun k q h => by simp at h) ⟨fun i j p q h => by simp at h, fun k q h => by simp at h⟩ va_S.rf hl
set_option maxHeartbeats 4000000 in
theorem lw_walk (l : Launch) (hflags : l.flags = flags0) (b : Addr) (xs : List Int32) : MetFree l x (headSpec (Jvm.Cond.code x code maxLocals ret :: tables_1) room_1) (lw_P b xs) (fun _ _ _ _ _ => True) lw_Q := by
  refine MetFree.of_bodyS (code := code) (maxLocals := maxLocals) (ret := ret) (by decide) ?_ ?_
  · intro args s m h hn
    obtain ⟨meth, c, h1, h2, h3, h4, h5, h6, -, -⟩ := Cond.code_spec hn (atoms_spec (ws := Jvm.Cond.code x code maxLocals ret :: tables_1) h _ List.mem_cons_self)
    exact ⟨meth, c, h1, h2, h3, h4, h5, h6⟩
  · intro p e s m args below meth c s₁ B hml0 hP _
    obtain ⟨rfl, hx, hbd, hgv⟩ := hP
    obtain ⟨scr, harrAt, hlist, hof, hsmall⟩ := hx
    obtain ⟨hcb, hkn, -, -⟩ := State.arrayAt?_spec harrAt
    have hown : s.vm.findClass R_law = some m.cls := findClass_of_methodNamed B.named
    have hts0 : ∀ c ∈ (Jvm.Cond.code x code maxLocals ret :: tables_1), c.before #[Value.ref b] s = true := atoms_spec (ws := Jvm.Cond.code x code maxLocals ret :: tables_1) B.pre
    have hts : ∀ w ∈ lw_tbl, w.before #[Value.ref b] s = true := k2_hts_sels lw_privs (fun w hw => hts0 w (List.mem_cons_of_mem _ hw)) lw_privs_ok
    have hml : c.maxLocals = 8 := B.maxLocals_eq (hts0 _ List.mem_cons_self)
    have X₀ : Stand p l e room_1 s m #[Value.ref b] below meth c s₁ [] 0 0 := Stand.of_body B
    have hh0 : s₁.heap = s.heap := by rw [B.state]; rfl
    have hsz : scr.slots.size = xs.length := by rw [← Array.length_toList, hlist, List.length_map]
    have hval : ∀ j : Nat, j < xs.length → scr.slots[j]? = some (.int (xs.getD j 0)) := fun j hj => by
      rw [← Array.getElem?_toList, hlist]
      simp [hj]
    have hbl : b < s.heap.size := (Array.getElem?_eq_some_iff.mp hcb).1
    have hX : va_X b xs.length (fun j => xs.getD j 0) s s.heap := ⟨scr, hcb, hof, hkn, hsz, hval⟩
    have K : W p l e room_1 s m #[Value.ref b] below meth c s₁.heap [] 0 0 (lw_Z below #[Value.ref b] s) (entryFrame m ([Value.ref b] : List Value).toArray 8) := by
      rw [hh0]
      exact whole_start l hflags hbd ⟨B.exec, B.bytes, B.returns, hml, hown, hts, hX, hbl, B.notSynchronized, hgv⟩
    obtain ⟨t, a1, o, b1, b2, b3⟩ := K s₁ rfl X₀
    exact ⟨t, o, a1, b1, b2, b3⟩
theorem lw_pre_spec {args : Array Value} {s : State} (h : (Jvm.Cond.and given_1 narrow_1).before args s = true) (hr : rest_1_c.before args s = true) : ∃ (b : Addr) (xs : List Int32), lw_P b xs args s := by
  have hs := flat_of_before _ h
  have hq := flat_of_before _ hr
  have hc : (Cond.count 1).before args s = true := hs _ (by decide +kernel)
  have harr : (Cond.arrayOf (.arg 0) .int).before args s = true := hs _ (by decide +kernel)
  have hle : (Cond.le (.length (.arg 0)) (.int 3584)).before args s = true := hs _ (by decide +kernel)
  have hlen : (Cond.isInt (.length (.arg 0))).before args s = true := hq _ (by decide +kernel)
  have hall : (Cond.all (.arg 0) (.isInt (.elem (.arg 0) (.index 0)))).before args s = true := hq _ (by decide +kernel)
  obtain ⟨b, xs, hb, hx⟩ := State.ints_of_pre rfl harr hlen hall
  have hsm : xs.length < 2 ^ 31 := hx.choose_spec.2.2.2
  have hev : (Term.length (.arg 0)).eval args s none [] s = some (.int xs.length.toInt32) := hx.length_eval hb
  have hv := Cond.le_ints hev (show (Term.int 3584).eval args s none [] s = some (.int 3584) from rfl)
  have hd : xs.length.toInt32 ≤ 3584 := by
    simpa [Cond.before, Cond.holds, hv] using hle
  have hN : xs.length ≤ 3584 := (Int32.ofNat_le_ofNat hsm (by decide)).mp (show Int32.ofNat xs.length ≤ Int32.ofNat 3584 from hd)
  exact ⟨b, xs, Cond.one_arg hc (show args[0]? = some (.ref b) from hb), hx, hN, h⟩
theorem lw_comes (l : Launch) (hflags : l.flags = flags0) : Comes l x (Jvm.Cond.code x code maxLocals ret :: tables_1) room_1 (fun tb e args s => Calls_1 tb e args s ∧ rest_1 tb e args s ∧ Pre_1 tb e args s)
    (fun _ _ args s o t => lw_Q args s o t) := by
  intro p e ha hc hk s m args below hf hfit hheap happ hpre
  obtain ⟨b, xs, hP⟩ := lw_pre_spec hpre.2.2 hpre.2.1
  obtain ⟨k, o, h1, h2, h3, hQ⟩ := lw_walk l hflags b xs p e ha hc hk s m args below hf ((Spec.applies_iff_loose hf).mp happ).1 hP trivial
  exact ⟨k, o, h1, h2, h3, hQ⟩
theorem lw_frame {s t : State} {o : Outcome} {args : Array Value} (h : State.butDraws s t lw_cs (fun t1 => Framed s o t1 [] 600000 7302250)) :
    State.butDraws s t [Jvm.Choice.named "NaN.bits"] (fun t1 => Framed s o t1 (fieldLocs frame_1_writes args s ++ arrayLocs frame_1_arrays args s ++ staticLocs frame_1_statics s) 600000 7302250) := h
theorem lw_limb (L : Cond) (hL : ∀ (args : Array Value) (s t : State), L.after args s (.returned (some (.int 1))) t = true) :
    ArmFor flags0 classFile x code maxLocals ret World_1 tables_1 room_1 Calls_1 rest_1 Pre_1
      (fun tb e a s o t => postC L tb e a s o t ∧ State.butDraws s t [Jvm.Choice.named "NaN.bits"] (fun t1 => Framed s o t1 (fieldLocs frame_1_writes a s ++ arrayLocs frame_1_arrays a s ++ staticLocs frame_1_statics s) 600000 7302250)) := by
  intro l hflags _ _ p e ha hc hk s m args below hf hfit hheap happ hpre
  obtain ⟨k, o, h1, h2, h3, rfl, hF⟩ := lw_comes l hflags p e ha hc hk s m args below hf hfit hheap happ hpre
  exact ⟨k, _, h1, h2, h3, hL args s _, lw_frame hF⟩
theorem i_vc : Claimed_1_1 ∧ Claimed_1_2 := ⟨lw_limb limb_1_1 (fun args s t => by simp [limb_1_1, Cond.after, Cond.holds, Cond.value]), lw_limb limb_1_2 (fun args s t => Cond.after_iff.mpr (by
  first | (rw [show limb_1_2 = Cond.eq .result (.int 1) from rfl, Cond.eq_ints (x := 1) (y := 1) rfl rfl]; simp; done) | (simp [limb_1_2, Cond.value, Term.eval]; done)))⟩

