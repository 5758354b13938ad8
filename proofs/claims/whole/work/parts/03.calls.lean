/-! CALLS AND ENDS over BK: the frame rule by one update of the list of cells -/
def fr_put {α : Type} : List α → List Nat → List α → List α
  | ws, i :: is, q :: qs => fr_put (ws.set i q) is qs
  | ws, [], _ => ws
  | ws, _ :: _, [] => ws
theorem fr_put_get {α : Type} : ∀ (is : List Nat) (w ws : List α), is.length = w.length → ∀ (k : Nat) (q : α), (fr_put ws is w)[k]? = some q → q ∈ w ∨ (ws[k]? = some q ∧ k ∉ is)
  | [], [], ws, _, k, q, h => Or.inr ⟨h, List.not_mem_nil⟩
  | i :: is, q0 :: w, ws, hl, k, q, h => by
    rcases fr_put_get is w (ws.set i q0) (Nat.succ.inj hl) k q h with h1 | ⟨h1, h2⟩
    · exact Or.inl (List.mem_cons_of_mem _ h1)
    · by_cases hk : i = k
      · subst hk
        rw [List.getElem?_set_self'] at h1
        cases hx : ws[i]? with
        | none => rw [hx] at h1; cases h1
        | some z => rw [hx] at h1; cases h1; exact Or.inl List.mem_cons_self
      · rw [List.getElem?_set_ne hk] at h1
        exact Or.inr ⟨h1, fun hm => (List.mem_cons.mp hm).elim (fun e => hk e.symm) h2⟩
theorem fr_put_fst {α β : Type} (f : α → β) : ∀ (is : List Nat) (w ws : List α), is.map (fun i => (ws[i]?).map f) = w.map (fun q => some (f q)) → (fr_put ws is w).map f = ws.map f
  | [], _, ws, _ => by simp [fr_put]
  | _ :: _, [], ws, _ => by simp [fr_put]
  | i :: is, q :: w, ws, h => by
    rw [List.map_cons, List.map_cons, List.cons.injEq] at h
    have hset : (ws.set i q).map f = ws.map f := by
      rw [List.map_set]
      apply List.ext_getElem?
      intro k
      by_cases hk : i = k
      · subst hk
        rw [List.getElem?_set_self', List.getElem?_map, h.1]
        rfl
      · rw [List.getElem?_set_ne hk]
    show (fr_put (ws.set i q) is w).map f = ws.map f
    rw [fr_put_fst f is w (ws.set i q) ?_, hset]
    rw [← h.2]
    apply List.map_congr_left
    intro j _
    have e1 := congrArg (fun l : List β => l[j]?) hset
    simpa only [List.getElem?_map] using e1
theorem bl_of {ws wc : List va_W} {is : List Nat} (h : is.map (fun i => ws[i]?) = wc.map some) {a : Nat} {w : va_W} (ha : wc[a]? = some w) : ∃ i, is[a]? = some i ∧ ws[i]? = some w := by
  have h1 : (is.map (fun i => ws[i]?))[a]? = some (some w) := by rw [h, List.getElem?_map, ha]; rfl
  rw [List.getElem?_map] at h1
  cases hi : is[a]? with
  | none => rw [hi] at h1; cases h1
  | some i => rw [hi] at h1; exact ⟨i, rfl, Option.some.inj h1⟩
theorem bl_P {D : va_G} {ws wc : List va_W} {is : List Nat} {H : Heap} (h : is.map (fun i => ws[i]?) = wc.map some) (hP : va_P D vwCl ws.flatten H) : va_P D vwCl wc.flatten H := by
  intro k q hq
  obtain ⟨a, x, w, e1, e2, -⟩ := flat_of hq
  obtain ⟨i, -, hi⟩ := bl_of h e1
  exact hP _ q (flat_at hi e2)
theorem bl_D {A : Nat → Prop} {ws wc : List va_W} {is : List Nat} (hn : va_nd is = true) (h : is.map (fun i => ws[i]?) = wc.map some) (hD : va_D A ws.flatten) : va_D A wc.flatten := by
  refine ⟨fun i j p q hi hj e => ?_, fun k q hq => ?_⟩
  · obtain ⟨a, x, w, e1, e2, e3⟩ := flat_of hi
    obtain ⟨b, y, v, g1, g2, g3⟩ := flat_of hj
    obtain ⟨i', i1, i2⟩ := bl_of h e1
    obtain ⟨j', j1, j2⟩ := bl_of h g1
    have hij := hD.1 _ _ p q (flat_at i2 e2) (flat_at j2 g2) e
    obtain ⟨r1, r2⟩ := flat_inj i2 (List.getElem?_eq_some_iff.mp e2).1 j2 (List.getElem?_eq_some_iff.mp g2).1 hij
    subst r1
    have hab := va_nd_inj is hn a b i' i1 j1
    subst hab
    omega
  · obtain ⟨a, x, w, e1, e2, -⟩ := flat_of hq
    obtain ⟨i', i1, i2⟩ := bl_of h e1
    exact hD.2 _ q (flat_at i2 e2)
theorem bl_free {A0 : Nat → Prop} {ws wc : List va_W} {is : List Nat} {H0 H : Heap} {lo : List Loc} (hD : va_D A0 ws.flatten) (hS : va_S A0 H0 H lo) (hA : ∀ q, H0.size ≤ q → A0 q) (h : is.map (fun i => ws[i]?) = wc.map some) : ∀ q, va_A wc.flatten H.size q → A0 q := by
  intro q hq
  rcases hq with ⟨k, e, hk⟩ | hq
  · obtain ⟨a, x, w, e1, e2, -⟩ := flat_of hk
    obtain ⟨i', i1, i2⟩ := bl_of h e1
    exact hD.2 _ (q, e) (flat_at i2 e2)
  · exact hA q (Nat.le_trans hS.1 hq)
theorem fr_D {A : Nat → Prop} {ws ws2 : va_W} (h : ws2.map Prod.fst = ws.map Prod.fst) (hD : va_D A ws) : va_D A ws2 := by
  have key : ∀ (k : Nat) (q : Nat × va_E), ws2[k]? = some q → ∃ q', ws[k]? = some q' ∧ q'.1 = q.1 := by
    intro k q hk
    have e1 := congrArg (fun l : List Nat => l[k]?) h
    simp only [List.getElem?_map, hk] at e1
    cases hx : ws[k]? with
    | none => rw [hx] at e1; cases e1
    | some z => rw [hx] at e1; exact ⟨z, rfl, (Option.some.inj e1).symm⟩
  refine ⟨fun i j p q hi hj e => ?_, fun k q hk => ?_⟩
  · obtain ⟨p', h1, h2⟩ := key i p hi
    obtain ⟨q', h3, h4⟩ := key j q hj
    exact hD.1 i j p' q' h1 h3 (by rw [h2, h4]; exact e)
  · obtain ⟨q', h1, h2⟩ := key k q hk
    rw [← h2]
    exact hD.2 k q' h1
theorem fr_after {A0 : Nat → Prop} {D : va_G} {ws wc w1 : List va_W} {H H1 : Heap} (hP : va_P D vwCl ws.flatten H) (hD : va_D A0 ws.flatten) (isC : List Nat) (hC : isC.map (fun i => ws[i]?) = wc.map some) (ha : w1.map (List.map Prod.fst) = wc.map (List.map Prod.fst)) (hk : ∀ q : Nat, q < H.size → ¬ va_A wc.flatten H.size q → H1[q]? = H[q]?) (hP1 : va_P D vwCl w1.flatten H1) : va_P D vwCl (fr_put ws isC w1).flatten H1 ∧ va_D A0 (fr_put ws isC w1).flatten := by
  have hlen : isC.length = w1.length := by
    have e1 := congrArg List.length hC
    have e2 := congrArg List.length ha
    simp only [List.length_map] at e1 e2
    omega
  have hfst : isC.map (fun i => (ws[i]?).map (List.map Prod.fst)) = w1.map (fun q => some (List.map Prod.fst q)) := by
    have e1 := congrArg (List.map (Option.map (List.map Prod.fst))) hC
    have e2 := congrArg (List.map some) ha
    simp only [List.map_map] at e1 e2
    have e3 : (wc.map fun q => some (List.map Prod.fst q)) = w1.map fun q => some (List.map Prod.fst q) := by simpa [Function.comp_def] using e2.symm
    rw [← e3]
    simpa [Function.comp_def] using e1
  have hF : (fr_put ws isC w1).flatten.map Prod.fst = ws.flatten.map Prod.fst := by
    rw [List.map_flatten, List.map_flatten, fr_put_fst (List.map Prod.fst) isC w1 ws hfst]
  refine ⟨fun k q hq => ?_, fr_D hF hD⟩
  obtain ⟨a, x, w, e1, e2, -⟩ := flat_of hq
  rcases fr_put_get isC w1 ws hlen a w e1 with h | ⟨h, hn⟩
  · obtain ⟨j, hj⟩ := List.getElem?_of_mem h
    exact hP1 _ q (flat_at hj e2)
  · have hq0 := flat_at h e2
    have hlt := (hP _ q hq0).lt
    refine (hP _ q hq0).kept (hk q.1 hlt (fun hm => ?_))
    rcases hm with ⟨j, e, hj⟩ | hm
    · obtain ⟨b, y, v, g1, g2, -⟩ := flat_of hj
      obtain ⟨i', i1, i2⟩ := bl_of hC g1
      have hij := hD.1 _ _ q (q.1, e) hq0 (flat_at i2 g2) rfl
      obtain ⟨r1, -⟩ := flat_inj h (List.getElem?_eq_some_iff.mp e2).1 i2 (List.getElem?_eq_some_iff.mp g2).1 hij
      subst r1
      exact hn (List.mem_of_getElem? i1)
    · omega
def MY (l : Launch) (y : MethodName) (wsy : List Cond) (rm : Room) (D : va_G) (tys : List (ClassId × FieldType)) (av : List Value) (w0 : List va_W) (r0 : Option Nat) (w1 : List va_W) : Prop := ∀ sz : Nat, Met l y wsy rm (va_Pc av (CP D tys w0 sz)) (va_Qq (fun (r : Option Nat) (u : List va_W) => r = r0 ∧ u = w1) (CE D tys w0 sz) (va_A w0.flatten sz)) 0 0 (va_A w0.flatten sz)
section CALLS
variable {X : Cx} {cc : ByteArray} {nL ce sl pc : Nat} {own : String} {Ts : List Cond} {R : Room} {cI cZ cQ : ClassId} {ws : List va_W} {lv : List (Nat × Value)} {st : List Value}

def EY (X : Cx) (cI cZ cQ : ClassId) (w0 : List va_W) (r0 : Option Nat) (w1 : List va_W) : Prop := (xh X).sig.returnType = some (.object "WallPartition$Walls") ∧ xA X = va_A w0.flatten (xs X).heap.size ∧ xQ X = MQ (xb X) (va_Qq (fun (r : Option Nat) (u : List va_W) => r = r0 ∧ u = w1) (CE (xD X) (TY cI cZ cQ) w0 (xs X).heap.size) (va_A w0.flatten (xs X).heap.size)) (xa X) (xs X) 0 0 (va_A w0.flatten (xs X).heap.size)
theorem r_yret (O : OK X cc nL own Ts R cI cZ cQ) {w0 : List va_W} {v : Option Nat} (E : EY X cI cZ cQ w0 v ws) (d : decode cc pc = .ok (.areturn, 1)) : BK X nL 0 0 pc ws lv [va_rf v] := by
  intro H lo ls hP hD hS hl
  obtain ⟨hr, hA, hQ⟩ := E
  rw [hA] at hD hS
  rw [hQ]
  exact W.aret (v := va_rf v) O.hx O.hb hr (Or.inl ⟨_, rfl⟩) (by cases v with
    | none => exact Or.inl rfl
    | some a => exact Or.inr ⟨a, rfl⟩) (fun t ht hW => ⟨⟨v, ws, rfl, ⟨rfl, rfl⟩, by rw [ht]; exact hP, va_K.moved hW.alike O.hK, hD⟩, hS.F ht⟩) hS.2.2 d O.hL
theorem MY.of {l : Launch} {y : MethodName} {wsy : List Cond} {rm : Room} {D : va_G} {cI cZ cQ : ClassId} {av : List Value} {w0 w1 : List va_W} {r0 : Option Nat} {cc : ByteArray} {nL : Nat} {own : String} {lv0 : List (Nat × Value)} (hy : plainName y.cls = true) (ho : y.cls = own) (hw : wsy = Cond.code y cc nL (some (.object "WallPartition$Walls")) :: wB) (hn : (lg_sl av).length ≤ nL) (hlv : lv_args 0 av = lv0) (body : ∀ X : Cx, OK X cc nL own wB rm cI cZ cQ → EY X cI cZ cQ w0 r0 w1 → BK X nL 0 0 0 w0 lv0 []) : MY l y wsy rm D (TY cI cZ cQ) av w0 r0 w1 := by
  subst ho
  intro sz
  refine Met.ofW (cc := cc) (maxL := nL) (ret := some (.object "WallPartition$Walls")) hy hw ?_
  intro p e s m args below meth c s₁ B hml hv
  obtain ⟨rfl, hsz, hP, hK, hD0, hNw⟩ := hv
  subst hsz
  have hD := hD0.self (sz := s.heap.size)
  have hl := lv_entry av (n := nL) hn
  rw [hlv] at hl
  rw [lg_entry_eq]
  exact body (p, l, e, (headSpec wsy rm).room, s, m, av.toArray, below, meth, c, D, va_A w0.flatten s.heap.size, _) ⟨B.exec, B.bytes, hml, findClass_of_methodNamed B.named, fun w h => atoms_spec (ws := wsy) B.pre w (by rw [hw]; exact List.mem_cons_of_mem _ h), hK, fun q h => Or.inr h, rfl, B.notSynchronized, hNw⟩ ⟨B.returns, rfl, rfl⟩ s.heap [] _ hP hD va_S.rf hl
theorem k_VY (O : OK X cc nL own Ts R cI cZ cQ) (n : Nat) (hn : pc + 3 = n) {y : MethodName} {wsy wsy' : List Cond} {rm : Room} {bytes : ByteArray} {mL index na : Nat} {ret : Option FieldType} {C : String} {T : u_T} {N ci b : Nat} {fs : List Value} {As : List Value} {wc w1 : List va_W} {r : Option Nat} {st0 : List Value} (hM : MY (xl X) y wsy rm (xD X) (TY cI cZ cQ) (.ref b :: As) wc r w1) (G : GoodIn Ts (wsV own index C y wsy)) (hw : wsy = Cond.code y bytes mL ret :: wsy') (hrc : rm.cells = 0) (hrs : rm.slots = 0) (hd : y.cls = C ∧ y.cls ≠ "java/lang/invoke/MethodHandle" ∧ y.cls ≠ "java/lang/invoke/VarHandle" ∧ (parseMethodDescriptor y.desc).map (fun d => d.parameters.length) = some na) (hR : rm.frames + 1 ≤ R.frames ∧ 8 + (mL + 11) + rm.locals ≤ R.locals) (hna : As.length = na) (qr : Nat) {w9 : va_W} (hj0 : ws[qr]? = some w9) (he : w9[0]? = some (b, .inr (ci, fs))) (hc : vwCl[ci]? = some (C, T, N)) (hst : st0 = As.reverse ++ .ref b :: st) (hcat : (st.map fun v => v.category).sum ≤ 8) (hcs : ce ≤ R.cells ∧ sl ≤ R.slots) (isC : List Nat) (hN : va_nd isC = true) (hC : isC.map (fun i => ws[i]?) = wc.map some) (ha : w1.map (List.map Prod.fst) = wc.map (List.map Prod.fst)) (ws2 : List va_W) (hws : fr_put ws isC w1 = ws2) (d : decode cc pc = .ok (.invokevirtual index, 3)) (kk : BK X nL ce sl n ws2 lv (va_rf r :: st)) : BK X nL ce sl pc ws lv st0 := by
  subst hn
  subst hws
  subst hst
  intro H lo ls hP hD hS hl
  have hPc := bl_P hC hP
  have hDc : va_D (fun _ => True) wc.flatten := (bl_D hN hC hD).weaken (fun _ _ _ _ => trivial)
  have hFc := bl_free (wc := wc) hD hS O.hA hC
  have hRe := O.hR
  refine va_callq (va_runV (As := As) (rest := st) ⟨O.hx, O.hb, O.hml, O.hown, O.hts⟩ (hM H.size) (cwV na O.hts G hw hrc hrs hd (by rw [hRe]; exact hR)) ⟨CP.blind, va_recv O.hK hP hc (flat_at hj0 he), fun U hU hW => ⟨rfl, by rw [hU], by rw [hU]; exact hPc, va_K.moved hW.alike O.hK, hDc, NW.warm hW O.hN⟩⟩ rfl hna hl.1 rfl (lv_room hcat) d (by rw [hRe]; exact hcs)) hS (fun q _ h => hFc q h) hFc (fun r9 u t H1 lo1 ht hvm hw9 hB hz1 hk1 hS1 => ?_)
  obtain ⟨rfl, rfl⟩ := hw9
  obtain ⟨hP1, hK1, hD1⟩ := hB
  rw [ht] at hP1
  have h9 := fr_after hP hD isC hC ha hk1 hP1
  exact kk H1 lo1 ls h9.1 h9.2 hS1 hl
theorem k_SY (O : OK X cc nL own Ts R cI cZ cQ) (n : Nat) (hn : pc + 3 = n) {y : MethodName} {wsy wsy' : List Cond} {rm : Room} {bytes : ByteArray} {mL index na : Nat} {ret : Option FieldType} {As : List Value} {wc w1 : List va_W} {r : Option Nat} {st0 : List Value} (hM : MY (xl X) y wsy rm (xD X) (TY cI cZ cQ) As wc r w1) (G : GoodIn Ts (va_wsS own index y wsy)) (hw : wsy = Cond.code y bytes mL ret :: wsy') (hrc : rm.cells = 0) (hrs : rm.slots = 0) (hd : y.cls ≠ "java/lang/invoke/MethodHandle" ∧ y.cls ≠ "java/lang/invoke/VarHandle" ∧ (parseMethodDescriptor y.desc).map (fun d => d.parameters.length) = some na) (hR : rm.frames + 1 ≤ R.frames ∧ 8 + (mL + 11) + rm.locals ≤ R.locals) (hna : As.length = na) (hst : st0 = As.reverse ++ st) (hcat : (st.map fun v => v.category).sum ≤ 8) (hcs : ce ≤ R.cells ∧ sl ≤ R.slots) (isC : List Nat) (hN : va_nd isC = true) (hC : isC.map (fun i => ws[i]?) = wc.map some) (ha : w1.map (List.map Prod.fst) = wc.map (List.map Prod.fst)) (ws2 : List va_W) (hws : fr_put ws isC w1 = ws2) (d : decode cc pc = .ok (.invokestatic index, 3)) (kk : BK X nL ce sl n ws2 lv (va_rf r :: st)) : BK X nL ce sl pc ws lv st0 := by
  subst hn
  subst hws
  subst hst
  intro H lo ls hP hD hS hl
  have hPc := bl_P hC hP
  have hDc : va_D (fun _ => True) wc.flatten := (bl_D hN hC hD).weaken (fun _ _ _ _ => trivial)
  have hFc := bl_free (wc := wc) hD hS O.hA hC
  have hRe := O.hR
  refine va_callq (va_runS (As := As) (rest := st) ⟨O.hx, O.hb, O.hml, O.hown, O.hts⟩ (hM H.size) (va_cwS na O.hts G hw hrc hrs hd (by rw [hRe]; exact hR)) ⟨CP.blind, fun U hU hW => ⟨rfl, by rw [hU], by rw [hU]; exact hPc, va_K.moved hW.alike O.hK, hDc, NW.warm hW O.hN⟩⟩ rfl hna hl.1 rfl (lv_room hcat) d (by rw [hRe]; exact hcs)) hS (fun q _ h => hFc q h) hFc (fun r9 u t H1 lo1 ht hvm hw9 hB hz1 hk1 hS1 => ?_)
  obtain ⟨rfl, rfl⟩ := hw9
  obtain ⟨hP1, hK1, hD1⟩ := hB
  rw [ht] at hP1
  have h9 := fr_after hP hD isC hC ha hk1 hP1
  exact kk H1 lo1 ls h9.1 h9.2 hS1 hl
def EI (X : Cx) (cI cZ cQ : ClassId) (w0 : List va_W) (r0 : Int32) (w1 : List va_W) : Prop := (xh X).sig.returnType = some .int ∧ xA X = va_A w0.flatten (xs X).heap.size ∧ xQ X = MQ (xb X) (va_Qi (fun (r : Int32) (u : List va_W) => r = r0 ∧ u = w1) (CE (xD X) (TY cI cZ cQ) w0 (xs X).heap.size) (va_A w0.flatten (xs X).heap.size)) (xa X) (xs X) 0 0 (va_A w0.flatten (xs X).heap.size)
theorem r_iret (O : OK X cc nL own Ts R cI cZ cQ) {w0 : List va_W} {v : Int32} (E : EI X cI cZ cQ w0 v ws) (d : decode cc pc = .ok (.ireturn, 1)) : BK X nL 0 0 pc ws lv [.int v] := by
  intro H lo ls hP hD hS hl
  obtain ⟨hr, hA, hQ⟩ := E
  rw [hA] at hD hS
  rw [hQ]
  exact W.iret O.hx O.hb hr (fun t ht hW => ⟨⟨v, ws, rfl, ⟨rfl, rfl⟩, by rw [ht]; exact hP, va_K.moved hW.alike O.hK, hD⟩, hS.F ht⟩) hS.2.2 d O.hL
theorem MI.of {l : Launch} {y : MethodName} {wsy : List Cond} {rm : Room} {D : va_G} {cI cZ cQ : ClassId} {av : List Value} {w0 w1 : List va_W} {r0 : Int32} {cc : ByteArray} {nL : Nat} {own : String} {lv0 : List (Nat × Value)} (hy : plainName y.cls = true) (ho : y.cls = own) (hw : wsy = Cond.code y cc nL (some .int) :: wB) (hn : (lg_sl av).length ≤ nL) (hlv : lv_args 0 av = lv0) (body : ∀ X : Cx, OK X cc nL own wB rm cI cZ cQ → EI X cI cZ cQ w0 r0 w1 → BK X nL 0 0 0 w0 lv0 []) : MI l y wsy rm D (TY cI cZ cQ) av w0 r0 w1 := by
  subst ho
  intro sz
  refine Met.ofW (cc := cc) (maxL := nL) (ret := some .int) hy hw ?_
  intro p e s m args below meth c s₁ B hml hv
  obtain ⟨rfl, hsz, hP, hK, hD0, hNw⟩ := hv
  subst hsz
  have hD := hD0.self (sz := s.heap.size)
  have hl := lv_entry av (n := nL) hn
  rw [hlv] at hl
  rw [lg_entry_eq]
  exact body (p, l, e, (headSpec wsy rm).room, s, m, av.toArray, below, meth, c, D, va_A w0.flatten s.heap.size, _) ⟨B.exec, B.bytes, hml, findClass_of_methodNamed B.named, fun w h => atoms_spec (ws := wsy) B.pre w (by rw [hw]; exact List.mem_cons_of_mem _ h), hK, fun q h => Or.inr h, rfl, B.notSynchronized, hNw⟩ ⟨B.returns, rfl, rfl⟩ s.heap [] _ hP hD va_S.rf hl
theorem k_VI (O : OK X cc nL own Ts R cI cZ cQ) (n : Nat) (hn : pc + 3 = n) {y : MethodName} {wsy wsy' : List Cond} {rm : Room} {bytes : ByteArray} {mL index na : Nat} {ret : Option FieldType} {C : String} {T : u_T} {N ci b : Nat} {fs : List Value} {As : List Value} {wc w1 : List va_W} {r : Int32} {st0 : List Value} (hM : MI (xl X) y wsy rm (xD X) (TY cI cZ cQ) (.ref b :: As) wc r w1) (G : GoodIn Ts (wsV own index C y wsy)) (hw : wsy = Cond.code y bytes mL ret :: wsy') (hrc : rm.cells = 0) (hrs : rm.slots = 0) (hd : y.cls = C ∧ y.cls ≠ "java/lang/invoke/MethodHandle" ∧ y.cls ≠ "java/lang/invoke/VarHandle" ∧ (parseMethodDescriptor y.desc).map (fun d => d.parameters.length) = some na) (hR : rm.frames + 1 ≤ R.frames ∧ 8 + (mL + 11) + rm.locals ≤ R.locals) (hna : As.length = na) (qr : Nat) {w9 : va_W} (hj0 : ws[qr]? = some w9) (he : w9[0]? = some (b, .inr (ci, fs))) (hc : vwCl[ci]? = some (C, T, N)) (hst : st0 = As.reverse ++ .ref b :: st) (hcat : (st.map fun v => v.category).sum ≤ 8) (hcs : ce ≤ R.cells ∧ sl ≤ R.slots) (isC : List Nat) (hN : va_nd isC = true) (hC : isC.map (fun i => ws[i]?) = wc.map some) (ha : w1.map (List.map Prod.fst) = wc.map (List.map Prod.fst)) (ws2 : List va_W) (hws : fr_put ws isC w1 = ws2) (d : decode cc pc = .ok (.invokevirtual index, 3)) (kk : BK X nL ce sl n ws2 lv (.int r :: st)) : BK X nL ce sl pc ws lv st0 := by
  subst hn
  subst hws
  subst hst
  intro H lo ls hP hD hS hl
  have hPc := bl_P hC hP
  have hDc : va_D (fun _ => True) wc.flatten := (bl_D hN hC hD).weaken (fun _ _ _ _ => trivial)
  have hFc := bl_free (wc := wc) hD hS O.hA hC
  have hRe := O.hR
  refine va_calli (va_runV (As := As) (rest := st) ⟨O.hx, O.hb, O.hml, O.hown, O.hts⟩ (hM H.size) (cwV na O.hts G hw hrc hrs hd (by rw [hRe]; exact hR)) ⟨CP.blind, va_recv O.hK hP hc (flat_at hj0 he), fun U hU hW => ⟨rfl, by rw [hU], by rw [hU]; exact hPc, va_K.moved hW.alike O.hK, hDc, NW.warm hW O.hN⟩⟩ rfl hna hl.1 rfl (lv_room hcat) d (by rw [hRe]; exact hcs)) hS (fun q _ h => hFc q h) hFc (fun r9 u t H1 lo1 ht hvm hw9 hB hz1 hk1 hS1 => ?_)
  obtain ⟨rfl, rfl⟩ := hw9
  obtain ⟨hP1, hK1, hD1⟩ := hB
  rw [ht] at hP1
  have h9 := fr_after hP hD isC hC ha hk1 hP1
  exact kk H1 lo1 ls h9.1 h9.2 hS1 hl
theorem k_SI (O : OK X cc nL own Ts R cI cZ cQ) (n : Nat) (hn : pc + 3 = n) {y : MethodName} {wsy wsy' : List Cond} {rm : Room} {bytes : ByteArray} {mL index na : Nat} {ret : Option FieldType} {As : List Value} {wc w1 : List va_W} {r : Int32} {st0 : List Value} (hM : MI (xl X) y wsy rm (xD X) (TY cI cZ cQ) As wc r w1) (G : GoodIn Ts (va_wsS own index y wsy)) (hw : wsy = Cond.code y bytes mL ret :: wsy') (hrc : rm.cells = 0) (hrs : rm.slots = 0) (hd : y.cls ≠ "java/lang/invoke/MethodHandle" ∧ y.cls ≠ "java/lang/invoke/VarHandle" ∧ (parseMethodDescriptor y.desc).map (fun d => d.parameters.length) = some na) (hR : rm.frames + 1 ≤ R.frames ∧ 8 + (mL + 11) + rm.locals ≤ R.locals) (hna : As.length = na) (hst : st0 = As.reverse ++ st) (hcat : (st.map fun v => v.category).sum ≤ 8) (hcs : ce ≤ R.cells ∧ sl ≤ R.slots) (isC : List Nat) (hN : va_nd isC = true) (hC : isC.map (fun i => ws[i]?) = wc.map some) (ha : w1.map (List.map Prod.fst) = wc.map (List.map Prod.fst)) (ws2 : List va_W) (hws : fr_put ws isC w1 = ws2) (d : decode cc pc = .ok (.invokestatic index, 3)) (kk : BK X nL ce sl n ws2 lv (.int r :: st)) : BK X nL ce sl pc ws lv st0 := by
  subst hn
  subst hws
  subst hst
  intro H lo ls hP hD hS hl
  have hPc := bl_P hC hP
  have hDc : va_D (fun _ => True) wc.flatten := (bl_D hN hC hD).weaken (fun _ _ _ _ => trivial)
  have hFc := bl_free (wc := wc) hD hS O.hA hC
  have hRe := O.hR
  refine va_calli (va_runS (As := As) (rest := st) ⟨O.hx, O.hb, O.hml, O.hown, O.hts⟩ (hM H.size) (va_cwS na O.hts G hw hrc hrs hd (by rw [hRe]; exact hR)) ⟨CP.blind, fun U hU hW => ⟨rfl, by rw [hU], by rw [hU]; exact hPc, va_K.moved hW.alike O.hK, hDc, NW.warm hW O.hN⟩⟩ rfl hna hl.1 rfl (lv_room hcat) d (by rw [hRe]; exact hcs)) hS (fun q _ h => hFc q h) hFc (fun r9 u t H1 lo1 ht hvm hw9 hB hz1 hk1 hS1 => ?_)
  obtain ⟨rfl, rfl⟩ := hw9
  obtain ⟨hP1, hK1, hD1⟩ := hB
  rw [ht] at hP1
  have h9 := fr_after hP hD isC hC ha hk1 hP1
  exact kk H1 lo1 ls h9.1 h9.2 hS1 hl
def EZ (X : Cx) (cI cZ cQ : ClassId) (w0 : List va_W) (r0 : Int32) (w1 : List va_W) : Prop := (xh X).sig.returnType = some .boolean ∧ xA X = va_A w0.flatten (xs X).heap.size ∧ xQ X = MQ (xb X) (va_Qi (fun (r : Int32) (u : List va_W) => (r = r0 ∧ narrow .boolean (.int r) = .int r) ∧ u = w1) (CE (xD X) (TY cI cZ cQ) w0 (xs X).heap.size) (va_A w0.flatten (xs X).heap.size)) (xa X) (xs X) 0 0 (va_A w0.flatten (xs X).heap.size)
theorem r_zret (O : OK X cc nL own Ts R cI cZ cQ) {w0 : List va_W} {v : Int32} (E : EZ X cI cZ cQ w0 v ws) (hn : narrow .boolean (.int v) = .int v) (d : decode cc pc = .ok (.ireturn, 1)) : BK X nL 0 0 pc ws lv [.int v] := by
  intro H lo ls hP hD hS hl
  obtain ⟨hr, hA, hQ⟩ := E
  rw [hA] at hD hS
  rw [hQ]
  exact W.zret O.hx O.hb hr hn (fun t ht hW => ⟨⟨v, ws, rfl, ⟨⟨rfl, hn⟩, rfl⟩, by rw [ht]; exact hP, va_K.moved hW.alike O.hK, hD⟩, hS.F ht⟩) hS.2.2 d O.hL
theorem MZ.of {l : Launch} {y : MethodName} {wsy : List Cond} {rm : Room} {D : va_G} {cI cZ cQ : ClassId} {av : List Value} {w0 w1 : List va_W} {r0 : Int32} {cc : ByteArray} {nL : Nat} {own : String} {lv0 : List (Nat × Value)} (hy : plainName y.cls = true) (ho : y.cls = own) (hw : wsy = Cond.code y cc nL (some .boolean) :: wB) (hn : (lg_sl av).length ≤ nL) (hlv : lv_args 0 av = lv0) (body : ∀ X : Cx, OK X cc nL own wB rm cI cZ cQ → EZ X cI cZ cQ w0 r0 w1 → BK X nL 0 0 0 w0 lv0 []) : MZ l y wsy rm D (TY cI cZ cQ) av w0 r0 w1 := by
  subst ho
  intro sz
  refine Met.ofW (cc := cc) (maxL := nL) (ret := some .boolean) hy hw ?_
  intro p e s m args below meth c s₁ B hml hv
  obtain ⟨rfl, hsz, hP, hK, hD0, hNw⟩ := hv
  subst hsz
  have hD := hD0.self (sz := s.heap.size)
  have hl := lv_entry av (n := nL) hn
  rw [hlv] at hl
  rw [lg_entry_eq]
  exact body (p, l, e, (headSpec wsy rm).room, s, m, av.toArray, below, meth, c, D, va_A w0.flatten s.heap.size, _) ⟨B.exec, B.bytes, hml, findClass_of_methodNamed B.named, fun w h => atoms_spec (ws := wsy) B.pre w (by rw [hw]; exact List.mem_cons_of_mem _ h), hK, fun q h => Or.inr h, rfl, B.notSynchronized, hNw⟩ ⟨B.returns, rfl, rfl⟩ s.heap [] _ hP hD va_S.rf hl
theorem k_VZ (O : OK X cc nL own Ts R cI cZ cQ) (n : Nat) (hn : pc + 3 = n) {y : MethodName} {wsy wsy' : List Cond} {rm : Room} {bytes : ByteArray} {mL index na : Nat} {ret : Option FieldType} {C : String} {T : u_T} {N ci b : Nat} {fs : List Value} {As : List Value} {wc w1 : List va_W} {r : Int32} {st0 : List Value} (hM : MZ (xl X) y wsy rm (xD X) (TY cI cZ cQ) (.ref b :: As) wc r w1) (G : GoodIn Ts (wsV own index C y wsy)) (hw : wsy = Cond.code y bytes mL ret :: wsy') (hrc : rm.cells = 0) (hrs : rm.slots = 0) (hd : y.cls = C ∧ y.cls ≠ "java/lang/invoke/MethodHandle" ∧ y.cls ≠ "java/lang/invoke/VarHandle" ∧ (parseMethodDescriptor y.desc).map (fun d => d.parameters.length) = some na) (hR : rm.frames + 1 ≤ R.frames ∧ 8 + (mL + 11) + rm.locals ≤ R.locals) (hna : As.length = na) (qr : Nat) {w9 : va_W} (hj0 : ws[qr]? = some w9) (he : w9[0]? = some (b, .inr (ci, fs))) (hc : vwCl[ci]? = some (C, T, N)) (hst : st0 = As.reverse ++ .ref b :: st) (hcat : (st.map fun v => v.category).sum ≤ 8) (hcs : ce ≤ R.cells ∧ sl ≤ R.slots) (isC : List Nat) (hN : va_nd isC = true) (hC : isC.map (fun i => ws[i]?) = wc.map some) (ha : w1.map (List.map Prod.fst) = wc.map (List.map Prod.fst)) (ws2 : List va_W) (hws : fr_put ws isC w1 = ws2) (d : decode cc pc = .ok (.invokevirtual index, 3)) (kk : narrow .boolean (.int r) = .int r → BK X nL ce sl n ws2 lv (.int r :: st)) : BK X nL ce sl pc ws lv st0 := by
  subst hn
  subst hws
  subst hst
  intro H lo ls hP hD hS hl
  have hPc := bl_P hC hP
  have hDc : va_D (fun _ => True) wc.flatten := (bl_D hN hC hD).weaken (fun _ _ _ _ => trivial)
  have hFc := bl_free (wc := wc) hD hS O.hA hC
  have hRe := O.hR
  refine va_calli (va_runV (As := As) (rest := st) ⟨O.hx, O.hb, O.hml, O.hown, O.hts⟩ (hM H.size) (cwV na O.hts G hw hrc hrs hd (by rw [hRe]; exact hR)) ⟨CP.blind, va_recv O.hK hP hc (flat_at hj0 he), fun U hU hW => ⟨rfl, by rw [hU], by rw [hU]; exact hPc, va_K.moved hW.alike O.hK, hDc, NW.warm hW O.hN⟩⟩ rfl hna hl.1 rfl (lv_room hcat) d (by rw [hRe]; exact hcs)) hS (fun q _ h => hFc q h) hFc (fun r9 u t H1 lo1 ht hvm hw9 hB hz1 hk1 hS1 => ?_)
  obtain ⟨⟨rfl, hnz⟩, rfl⟩ := hw9
  obtain ⟨hP1, hK1, hD1⟩ := hB
  rw [ht] at hP1
  have h9 := fr_after hP hD isC hC ha hk1 hP1
  exact kk hnz H1 lo1 ls h9.1 h9.2 hS1 hl
theorem k_SZ (O : OK X cc nL own Ts R cI cZ cQ) (n : Nat) (hn : pc + 3 = n) {y : MethodName} {wsy wsy' : List Cond} {rm : Room} {bytes : ByteArray} {mL index na : Nat} {ret : Option FieldType} {As : List Value} {wc w1 : List va_W} {r : Int32} {st0 : List Value} (hM : MZ (xl X) y wsy rm (xD X) (TY cI cZ cQ) As wc r w1) (G : GoodIn Ts (va_wsS own index y wsy)) (hw : wsy = Cond.code y bytes mL ret :: wsy') (hrc : rm.cells = 0) (hrs : rm.slots = 0) (hd : y.cls ≠ "java/lang/invoke/MethodHandle" ∧ y.cls ≠ "java/lang/invoke/VarHandle" ∧ (parseMethodDescriptor y.desc).map (fun d => d.parameters.length) = some na) (hR : rm.frames + 1 ≤ R.frames ∧ 8 + (mL + 11) + rm.locals ≤ R.locals) (hna : As.length = na) (hst : st0 = As.reverse ++ st) (hcat : (st.map fun v => v.category).sum ≤ 8) (hcs : ce ≤ R.cells ∧ sl ≤ R.slots) (isC : List Nat) (hN : va_nd isC = true) (hC : isC.map (fun i => ws[i]?) = wc.map some) (ha : w1.map (List.map Prod.fst) = wc.map (List.map Prod.fst)) (ws2 : List va_W) (hws : fr_put ws isC w1 = ws2) (d : decode cc pc = .ok (.invokestatic index, 3)) (kk : narrow .boolean (.int r) = .int r → BK X nL ce sl n ws2 lv (.int r :: st)) : BK X nL ce sl pc ws lv st0 := by
  subst hn
  subst hws
  subst hst
  intro H lo ls hP hD hS hl
  have hPc := bl_P hC hP
  have hDc : va_D (fun _ => True) wc.flatten := (bl_D hN hC hD).weaken (fun _ _ _ _ => trivial)
  have hFc := bl_free (wc := wc) hD hS O.hA hC
  have hRe := O.hR
  refine va_calli (va_runS (As := As) (rest := st) ⟨O.hx, O.hb, O.hml, O.hown, O.hts⟩ (hM H.size) (va_cwS na O.hts G hw hrc hrs hd (by rw [hRe]; exact hR)) ⟨CP.blind, fun U hU hW => ⟨rfl, by rw [hU], by rw [hU]; exact hPc, va_K.moved hW.alike O.hK, hDc, NW.warm hW O.hN⟩⟩ rfl hna hl.1 rfl (lv_room hcat) d (by rw [hRe]; exact hcs)) hS (fun q _ h => hFc q h) hFc (fun r9 u t H1 lo1 ht hvm hw9 hB hz1 hk1 hS1 => ?_)
  obtain ⟨⟨rfl, hnz⟩, rfl⟩ := hw9
  obtain ⟨hP1, hK1, hD1⟩ := hB
  rw [ht] at hP1
  have h9 := fr_after hP hD isC hC ha hk1 hP1
  exact kk hnz H1 lo1 ls h9.1 h9.2 hS1 hl
def EL (X : Cx) (cI cZ cQ : ClassId) (w0 : List va_W) (r0 : Int64) (w1 : List va_W) : Prop := (xh X).sig.returnType = some .long ∧ xA X = va_A w0.flatten (xs X).heap.size ∧ xQ X = MQ (xb X) (va_Ql (fun (r : Int64) (u : List va_W) => r = r0 ∧ u = w1) (CE (xD X) (TY cI cZ cQ) w0 (xs X).heap.size) (va_A w0.flatten (xs X).heap.size)) (xa X) (xs X) 0 0 (va_A w0.flatten (xs X).heap.size)
theorem r_lret (O : OK X cc nL own Ts R cI cZ cQ) {w0 : List va_W} {v : Int64} (E : EL X cI cZ cQ w0 v ws) (d : decode cc pc = .ok (.lreturn, 1)) : BK X nL 0 0 pc ws lv [.long v] := by
  intro H lo ls hP hD hS hl
  obtain ⟨hr, hA, hQ⟩ := E
  rw [hA] at hD hS
  rw [hQ]
  exact W.lret O.hx O.hb hr (fun t ht hW => ⟨⟨v, ws, rfl, ⟨rfl, rfl⟩, by rw [ht]; exact hP, va_K.moved hW.alike O.hK, hD⟩, hS.F ht⟩) hS.2.2 d O.hL
theorem ML.of {l : Launch} {y : MethodName} {wsy : List Cond} {rm : Room} {D : va_G} {cI cZ cQ : ClassId} {av : List Value} {w0 w1 : List va_W} {r0 : Int64} {cc : ByteArray} {nL : Nat} {own : String} {lv0 : List (Nat × Value)} (hy : plainName y.cls = true) (ho : y.cls = own) (hw : wsy = Cond.code y cc nL (some .long) :: wB) (hn : (lg_sl av).length ≤ nL) (hlv : lv_args 0 av = lv0) (body : ∀ X : Cx, OK X cc nL own wB rm cI cZ cQ → EL X cI cZ cQ w0 r0 w1 → BK X nL 0 0 0 w0 lv0 []) : ML l y wsy rm D (TY cI cZ cQ) av w0 r0 w1 := by
  subst ho
  intro sz
  refine Met.ofW (cc := cc) (maxL := nL) (ret := some .long) hy hw ?_
  intro p e s m args below meth c s₁ B hml hv
  obtain ⟨rfl, hsz, hP, hK, hD0, hNw⟩ := hv
  subst hsz
  have hD := hD0.self (sz := s.heap.size)
  have hl := lv_entry av (n := nL) hn
  rw [hlv] at hl
  rw [lg_entry_eq]
  exact body (p, l, e, (headSpec wsy rm).room, s, m, av.toArray, below, meth, c, D, va_A w0.flatten s.heap.size, _) ⟨B.exec, B.bytes, hml, findClass_of_methodNamed B.named, fun w h => atoms_spec (ws := wsy) B.pre w (by rw [hw]; exact List.mem_cons_of_mem _ h), hK, fun q h => Or.inr h, rfl, B.notSynchronized, hNw⟩ ⟨B.returns, rfl, rfl⟩ s.heap [] _ hP hD va_S.rf hl
theorem k_VL (O : OK X cc nL own Ts R cI cZ cQ) (n : Nat) (hn : pc + 3 = n) {y : MethodName} {wsy wsy' : List Cond} {rm : Room} {bytes : ByteArray} {mL index na : Nat} {ret : Option FieldType} {C : String} {T : u_T} {N ci b : Nat} {fs : List Value} {As : List Value} {wc w1 : List va_W} {r : Int64} {st0 : List Value} (hM : ML (xl X) y wsy rm (xD X) (TY cI cZ cQ) (.ref b :: As) wc r w1) (G : GoodIn Ts (wsV own index C y wsy)) (hw : wsy = Cond.code y bytes mL ret :: wsy') (hrc : rm.cells = 0) (hrs : rm.slots = 0) (hd : y.cls = C ∧ y.cls ≠ "java/lang/invoke/MethodHandle" ∧ y.cls ≠ "java/lang/invoke/VarHandle" ∧ (parseMethodDescriptor y.desc).map (fun d => d.parameters.length) = some na) (hR : rm.frames + 1 ≤ R.frames ∧ 8 + (mL + 11) + rm.locals ≤ R.locals) (hna : As.length = na) (qr : Nat) {w9 : va_W} (hj0 : ws[qr]? = some w9) (he : w9[0]? = some (b, .inr (ci, fs))) (hc : vwCl[ci]? = some (C, T, N)) (hst : st0 = As.reverse ++ .ref b :: st) (hcat : (st.map fun v => v.category).sum ≤ 8) (hcs : ce ≤ R.cells ∧ sl ≤ R.slots) (isC : List Nat) (hN : va_nd isC = true) (hC : isC.map (fun i => ws[i]?) = wc.map some) (ha : w1.map (List.map Prod.fst) = wc.map (List.map Prod.fst)) (ws2 : List va_W) (hws : fr_put ws isC w1 = ws2) (d : decode cc pc = .ok (.invokevirtual index, 3)) (kk : BK X nL ce sl n ws2 lv (.long r :: st)) : BK X nL ce sl pc ws lv st0 := by
  subst hn
  subst hws
  subst hst
  intro H lo ls hP hD hS hl
  have hPc := bl_P hC hP
  have hDc : va_D (fun _ => True) wc.flatten := (bl_D hN hC hD).weaken (fun _ _ _ _ => trivial)
  have hFc := bl_free (wc := wc) hD hS O.hA hC
  have hRe := O.hR
  refine va_calll (va_runV (As := As) (rest := st) ⟨O.hx, O.hb, O.hml, O.hown, O.hts⟩ (hM H.size) (cwV na O.hts G hw hrc hrs hd (by rw [hRe]; exact hR)) ⟨CP.blind, va_recv O.hK hP hc (flat_at hj0 he), fun U hU hW => ⟨rfl, by rw [hU], by rw [hU]; exact hPc, va_K.moved hW.alike O.hK, hDc, NW.warm hW O.hN⟩⟩ rfl hna hl.1 rfl (lv_room hcat) d (by rw [hRe]; exact hcs)) hS (fun q _ h => hFc q h) hFc (fun r9 u t H1 lo1 ht hvm hw9 hB hz1 hk1 hS1 => ?_)
  obtain ⟨rfl, rfl⟩ := hw9
  obtain ⟨hP1, hK1, hD1⟩ := hB
  rw [ht] at hP1
  have h9 := fr_after hP hD isC hC ha hk1 hP1
  exact kk H1 lo1 ls h9.1 h9.2 hS1 hl
theorem k_SL (O : OK X cc nL own Ts R cI cZ cQ) (n : Nat) (hn : pc + 3 = n) {y : MethodName} {wsy wsy' : List Cond} {rm : Room} {bytes : ByteArray} {mL index na : Nat} {ret : Option FieldType} {As : List Value} {wc w1 : List va_W} {r : Int64} {st0 : List Value} (hM : ML (xl X) y wsy rm (xD X) (TY cI cZ cQ) As wc r w1) (G : GoodIn Ts (va_wsS own index y wsy)) (hw : wsy = Cond.code y bytes mL ret :: wsy') (hrc : rm.cells = 0) (hrs : rm.slots = 0) (hd : y.cls ≠ "java/lang/invoke/MethodHandle" ∧ y.cls ≠ "java/lang/invoke/VarHandle" ∧ (parseMethodDescriptor y.desc).map (fun d => d.parameters.length) = some na) (hR : rm.frames + 1 ≤ R.frames ∧ 8 + (mL + 11) + rm.locals ≤ R.locals) (hna : As.length = na) (hst : st0 = As.reverse ++ st) (hcat : (st.map fun v => v.category).sum ≤ 8) (hcs : ce ≤ R.cells ∧ sl ≤ R.slots) (isC : List Nat) (hN : va_nd isC = true) (hC : isC.map (fun i => ws[i]?) = wc.map some) (ha : w1.map (List.map Prod.fst) = wc.map (List.map Prod.fst)) (ws2 : List va_W) (hws : fr_put ws isC w1 = ws2) (d : decode cc pc = .ok (.invokestatic index, 3)) (kk : BK X nL ce sl n ws2 lv (.long r :: st)) : BK X nL ce sl pc ws lv st0 := by
  subst hn
  subst hws
  subst hst
  intro H lo ls hP hD hS hl
  have hPc := bl_P hC hP
  have hDc : va_D (fun _ => True) wc.flatten := (bl_D hN hC hD).weaken (fun _ _ _ _ => trivial)
  have hFc := bl_free (wc := wc) hD hS O.hA hC
  have hRe := O.hR
  refine va_calll (va_runS (As := As) (rest := st) ⟨O.hx, O.hb, O.hml, O.hown, O.hts⟩ (hM H.size) (va_cwS na O.hts G hw hrc hrs hd (by rw [hRe]; exact hR)) ⟨CP.blind, fun U hU hW => ⟨rfl, by rw [hU], by rw [hU]; exact hPc, va_K.moved hW.alike O.hK, hDc, NW.warm hW O.hN⟩⟩ rfl hna hl.1 rfl (lv_room hcat) d (by rw [hRe]; exact hcs)) hS (fun q _ h => hFc q h) hFc (fun r9 u t H1 lo1 ht hvm hw9 hB hz1 hk1 hS1 => ?_)
  obtain ⟨rfl, rfl⟩ := hw9
  obtain ⟨hP1, hK1, hD1⟩ := hB
  rw [ht] at hP1
  have h9 := fr_after hP hD isC hC ha hk1 hP1
  exact kk H1 lo1 ls h9.1 h9.2 hS1 hl
def ED (X : Cx) (cI cZ cQ : ClassId) (w0 : List va_W) (r0 : UInt64) (w1 : List va_W) : Prop := (xh X).sig.returnType = some .double ∧ xA X = va_A w0.flatten (xs X).heap.size ∧ xQ X = MQ (xb X) (va_Qd (fun (r : UInt64) (u : List va_W) => r = r0 ∧ u = w1) (CE (xD X) (TY cI cZ cQ) w0 (xs X).heap.size) (va_A w0.flatten (xs X).heap.size)) (xa X) (xs X) 0 0 (va_A w0.flatten (xs X).heap.size)
theorem r_dret (O : OK X cc nL own Ts R cI cZ cQ) {w0 : List va_W} {v : UInt64} (E : ED X cI cZ cQ w0 v ws) (d : decode cc pc = .ok (.dreturn, 1)) : BK X nL 0 0 pc ws lv [.double v] := by
  intro H lo ls hP hD hS hl
  obtain ⟨hr, hA, hQ⟩ := E
  rw [hA] at hD hS
  rw [hQ]
  exact W.dret O.hx O.hb hr (fun t ht hW => ⟨⟨v, ws, rfl, ⟨rfl, rfl⟩, by rw [ht]; exact hP, va_K.moved hW.alike O.hK, hD⟩, hS.F ht⟩) hS.2.2 d O.hL
theorem MD.of {l : Launch} {y : MethodName} {wsy : List Cond} {rm : Room} {D : va_G} {cI cZ cQ : ClassId} {av : List Value} {w0 w1 : List va_W} {r0 : UInt64} {cc : ByteArray} {nL : Nat} {own : String} {lv0 : List (Nat × Value)} (hy : plainName y.cls = true) (ho : y.cls = own) (hw : wsy = Cond.code y cc nL (some .double) :: wB) (hn : (lg_sl av).length ≤ nL) (hlv : lv_args 0 av = lv0) (body : ∀ X : Cx, OK X cc nL own wB rm cI cZ cQ → ED X cI cZ cQ w0 r0 w1 → BK X nL 0 0 0 w0 lv0 []) : MD l y wsy rm D (TY cI cZ cQ) av w0 r0 w1 := by
  subst ho
  intro sz
  refine Met.ofW (cc := cc) (maxL := nL) (ret := some .double) hy hw ?_
  intro p e s m args below meth c s₁ B hml hv
  obtain ⟨rfl, hsz, hP, hK, hD0, hNw⟩ := hv
  subst hsz
  have hD := hD0.self (sz := s.heap.size)
  have hl := lv_entry av (n := nL) hn
  rw [hlv] at hl
  rw [lg_entry_eq]
  exact body (p, l, e, (headSpec wsy rm).room, s, m, av.toArray, below, meth, c, D, va_A w0.flatten s.heap.size, _) ⟨B.exec, B.bytes, hml, findClass_of_methodNamed B.named, fun w h => atoms_spec (ws := wsy) B.pre w (by rw [hw]; exact List.mem_cons_of_mem _ h), hK, fun q h => Or.inr h, rfl, B.notSynchronized, hNw⟩ ⟨B.returns, rfl, rfl⟩ s.heap [] _ hP hD va_S.rf hl
theorem k_VD (O : OK X cc nL own Ts R cI cZ cQ) (n : Nat) (hn : pc + 3 = n) {y : MethodName} {wsy wsy' : List Cond} {rm : Room} {bytes : ByteArray} {mL index na : Nat} {ret : Option FieldType} {C : String} {T : u_T} {N ci b : Nat} {fs : List Value} {As : List Value} {wc w1 : List va_W} {r : UInt64} {st0 : List Value} (hM : MD (xl X) y wsy rm (xD X) (TY cI cZ cQ) (.ref b :: As) wc r w1) (G : GoodIn Ts (wsV own index C y wsy)) (hw : wsy = Cond.code y bytes mL ret :: wsy') (hrc : rm.cells = 0) (hrs : rm.slots = 0) (hd : y.cls = C ∧ y.cls ≠ "java/lang/invoke/MethodHandle" ∧ y.cls ≠ "java/lang/invoke/VarHandle" ∧ (parseMethodDescriptor y.desc).map (fun d => d.parameters.length) = some na) (hR : rm.frames + 1 ≤ R.frames ∧ 8 + (mL + 11) + rm.locals ≤ R.locals) (hna : As.length = na) (qr : Nat) {w9 : va_W} (hj0 : ws[qr]? = some w9) (he : w9[0]? = some (b, .inr (ci, fs))) (hc : vwCl[ci]? = some (C, T, N)) (hst : st0 = As.reverse ++ .ref b :: st) (hcat : (st.map fun v => v.category).sum ≤ 8) (hcs : ce ≤ R.cells ∧ sl ≤ R.slots) (isC : List Nat) (hN : va_nd isC = true) (hC : isC.map (fun i => ws[i]?) = wc.map some) (ha : w1.map (List.map Prod.fst) = wc.map (List.map Prod.fst)) (ws2 : List va_W) (hws : fr_put ws isC w1 = ws2) (d : decode cc pc = .ok (.invokevirtual index, 3)) (kk : BK X nL ce sl n ws2 lv (.double r :: st)) : BK X nL ce sl pc ws lv st0 := by
  subst hn
  subst hws
  subst hst
  intro H lo ls hP hD hS hl
  have hPc := bl_P hC hP
  have hDc : va_D (fun _ => True) wc.flatten := (bl_D hN hC hD).weaken (fun _ _ _ _ => trivial)
  have hFc := bl_free (wc := wc) hD hS O.hA hC
  have hRe := O.hR
  refine va_calld (va_runV (As := As) (rest := st) ⟨O.hx, O.hb, O.hml, O.hown, O.hts⟩ (hM H.size) (cwV na O.hts G hw hrc hrs hd (by rw [hRe]; exact hR)) ⟨CP.blind, va_recv O.hK hP hc (flat_at hj0 he), fun U hU hW => ⟨rfl, by rw [hU], by rw [hU]; exact hPc, va_K.moved hW.alike O.hK, hDc, NW.warm hW O.hN⟩⟩ rfl hna hl.1 rfl (lv_room hcat) d (by rw [hRe]; exact hcs)) hS (fun q _ h => hFc q h) hFc (fun r9 u t H1 lo1 ht hvm hw9 hB hz1 hk1 hS1 => ?_)
  obtain ⟨rfl, rfl⟩ := hw9
  obtain ⟨hP1, hK1, hD1⟩ := hB
  rw [ht] at hP1
  have h9 := fr_after hP hD isC hC ha hk1 hP1
  exact kk H1 lo1 ls h9.1 h9.2 hS1 hl
theorem k_SD (O : OK X cc nL own Ts R cI cZ cQ) (n : Nat) (hn : pc + 3 = n) {y : MethodName} {wsy wsy' : List Cond} {rm : Room} {bytes : ByteArray} {mL index na : Nat} {ret : Option FieldType} {As : List Value} {wc w1 : List va_W} {r : UInt64} {st0 : List Value} (hM : MD (xl X) y wsy rm (xD X) (TY cI cZ cQ) As wc r w1) (G : GoodIn Ts (va_wsS own index y wsy)) (hw : wsy = Cond.code y bytes mL ret :: wsy') (hrc : rm.cells = 0) (hrs : rm.slots = 0) (hd : y.cls ≠ "java/lang/invoke/MethodHandle" ∧ y.cls ≠ "java/lang/invoke/VarHandle" ∧ (parseMethodDescriptor y.desc).map (fun d => d.parameters.length) = some na) (hR : rm.frames + 1 ≤ R.frames ∧ 8 + (mL + 11) + rm.locals ≤ R.locals) (hna : As.length = na) (hst : st0 = As.reverse ++ st) (hcat : (st.map fun v => v.category).sum ≤ 8) (hcs : ce ≤ R.cells ∧ sl ≤ R.slots) (isC : List Nat) (hN : va_nd isC = true) (hC : isC.map (fun i => ws[i]?) = wc.map some) (ha : w1.map (List.map Prod.fst) = wc.map (List.map Prod.fst)) (ws2 : List va_W) (hws : fr_put ws isC w1 = ws2) (d : decode cc pc = .ok (.invokestatic index, 3)) (kk : BK X nL ce sl n ws2 lv (.double r :: st)) : BK X nL ce sl pc ws lv st0 := by
  subst hn
  subst hws
  subst hst
  intro H lo ls hP hD hS hl
  have hPc := bl_P hC hP
  have hDc : va_D (fun _ => True) wc.flatten := (bl_D hN hC hD).weaken (fun _ _ _ _ => trivial)
  have hFc := bl_free (wc := wc) hD hS O.hA hC
  have hRe := O.hR
  refine va_calld (va_runS (As := As) (rest := st) ⟨O.hx, O.hb, O.hml, O.hown, O.hts⟩ (hM H.size) (va_cwS na O.hts G hw hrc hrs hd (by rw [hRe]; exact hR)) ⟨CP.blind, fun U hU hW => ⟨rfl, by rw [hU], by rw [hU]; exact hPc, va_K.moved hW.alike O.hK, hDc, NW.warm hW O.hN⟩⟩ rfl hna hl.1 rfl (lv_room hcat) d (by rw [hRe]; exact hcs)) hS (fun q _ h => hFc q h) hFc (fun r9 u t H1 lo1 ht hvm hw9 hB hz1 hk1 hS1 => ?_)
  obtain ⟨rfl, rfl⟩ := hw9
  obtain ⟨hP1, hK1, hD1⟩ := hB
  rw [ht] at hP1
  have h9 := fr_after hP hD isC hC ha hk1 hP1
  exact kk H1 lo1 ls h9.1 h9.2 hS1 hl
def EV (X : Cx) (cI cZ cQ : ClassId) (w0 : List va_W) (w1 : List va_W) : Prop := (xh X).sig.returnType = none ∧ xA X = va_A w0.flatten (xs X).heap.size ∧ xQ X = MQ (xb X) (va_Qv (fun (u : List va_W) => u = w1) (CE (xD X) (TY cI cZ cQ) w0 (xs X).heap.size) (va_A w0.flatten (xs X).heap.size)) (xa X) (xs X) 0 0 (va_A w0.flatten (xs X).heap.size)
theorem r_vret (O : OK X cc nL own Ts R cI cZ cQ) {w0 : List va_W} (E : EV X cI cZ cQ w0 ws) (d : decode cc pc = .ok (.return_, 1)) : BK X nL 0 0 pc ws lv [] := by
  intro H lo ls hP hD hS hl
  obtain ⟨hr, hA, hQ⟩ := E
  rw [hA] at hD hS
  rw [hQ]
  exact W.vret O.hx O.hb hr (fun t ht hW => ⟨⟨ws, rfl, rfl, by rw [ht]; exact hP, va_K.moved hW.alike O.hK, hD⟩, hS.F ht⟩) hS.2.2 d O.hL
theorem MV.of {l : Launch} {y : MethodName} {wsy : List Cond} {rm : Room} {D : va_G} {cI cZ cQ : ClassId} {av : List Value} {w0 w1 : List va_W} {cc : ByteArray} {nL : Nat} {own : String} {lv0 : List (Nat × Value)} (hy : plainName y.cls = true) (ho : y.cls = own) (hw : wsy = Cond.code y cc nL (none) :: wB) (hn : (lg_sl av).length ≤ nL) (hlv : lv_args 0 av = lv0) (body : ∀ X : Cx, OK X cc nL own wB rm cI cZ cQ → EV X cI cZ cQ w0 w1 → BK X nL 0 0 0 w0 lv0 []) : MV l y wsy rm D (TY cI cZ cQ) av w0 w1 := by
  subst ho
  intro sz
  refine Met.ofW (cc := cc) (maxL := nL) (ret := none) hy hw ?_
  intro p e s m args below meth c s₁ B hml hv
  obtain ⟨rfl, hsz, hP, hK, hD0, hNw⟩ := hv
  subst hsz
  have hD := hD0.self (sz := s.heap.size)
  have hl := lv_entry av (n := nL) hn
  rw [hlv] at hl
  rw [lg_entry_eq]
  exact body (p, l, e, (headSpec wsy rm).room, s, m, av.toArray, below, meth, c, D, va_A w0.flatten s.heap.size, _) ⟨B.exec, B.bytes, hml, findClass_of_methodNamed B.named, fun w h => atoms_spec (ws := wsy) B.pre w (by rw [hw]; exact List.mem_cons_of_mem _ h), hK, fun q h => Or.inr h, rfl, B.notSynchronized, hNw⟩ ⟨B.returns, rfl, rfl⟩ s.heap [] _ hP hD va_S.rf hl
theorem k_VV (O : OK X cc nL own Ts R cI cZ cQ) (n : Nat) (hn : pc + 3 = n) {y : MethodName} {wsy wsy' : List Cond} {rm : Room} {bytes : ByteArray} {mL index na : Nat} {ret : Option FieldType} {C : String} {T : u_T} {N ci b : Nat} {fs : List Value} {As : List Value} {wc w1 : List va_W} {st0 : List Value} (hM : MV (xl X) y wsy rm (xD X) (TY cI cZ cQ) (.ref b :: As) wc w1) (G : GoodIn Ts (wsV own index C y wsy)) (hw : wsy = Cond.code y bytes mL ret :: wsy') (hrc : rm.cells = 0) (hrs : rm.slots = 0) (hd : y.cls = C ∧ y.cls ≠ "java/lang/invoke/MethodHandle" ∧ y.cls ≠ "java/lang/invoke/VarHandle" ∧ (parseMethodDescriptor y.desc).map (fun d => d.parameters.length) = some na) (hR : rm.frames + 1 ≤ R.frames ∧ 8 + (mL + 11) + rm.locals ≤ R.locals) (hna : As.length = na) (qr : Nat) {w9 : va_W} (hj0 : ws[qr]? = some w9) (he : w9[0]? = some (b, .inr (ci, fs))) (hc : vwCl[ci]? = some (C, T, N)) (hst : st0 = As.reverse ++ .ref b :: st) (hcat : (st.map fun v => v.category).sum ≤ 8) (hcs : ce ≤ R.cells ∧ sl ≤ R.slots) (isC : List Nat) (hN : va_nd isC = true) (hC : isC.map (fun i => ws[i]?) = wc.map some) (ha : w1.map (List.map Prod.fst) = wc.map (List.map Prod.fst)) (ws2 : List va_W) (hws : fr_put ws isC w1 = ws2) (d : decode cc pc = .ok (.invokevirtual index, 3)) (kk : BK X nL ce sl n ws2 lv (st)) : BK X nL ce sl pc ws lv st0 := by
  subst hn
  subst hws
  subst hst
  intro H lo ls hP hD hS hl
  have hPc := bl_P hC hP
  have hDc : va_D (fun _ => True) wc.flatten := (bl_D hN hC hD).weaken (fun _ _ _ _ => trivial)
  have hFc := bl_free (wc := wc) hD hS O.hA hC
  have hRe := O.hR
  refine va_callv (va_runV (As := As) (rest := st) ⟨O.hx, O.hb, O.hml, O.hown, O.hts⟩ (hM H.size) (cwV na O.hts G hw hrc hrs hd (by rw [hRe]; exact hR)) ⟨CP.blind, va_recv O.hK hP hc (flat_at hj0 he), fun U hU hW => ⟨rfl, by rw [hU], by rw [hU]; exact hPc, va_K.moved hW.alike O.hK, hDc, NW.warm hW O.hN⟩⟩ rfl hna hl.1 rfl (lv_room hcat) d (by rw [hRe]; exact hcs)) hS (fun q _ h => hFc q h) hFc (fun u t H1 lo1 ht hvm hw9 hB hz1 hk1 hS1 => ?_)
  subst hw9
  obtain ⟨hP1, hK1, hD1⟩ := hB
  rw [ht] at hP1
  have h9 := fr_after hP hD isC hC ha hk1 hP1
  exact kk H1 lo1 ls h9.1 h9.2 hS1 hl
theorem k_SV (O : OK X cc nL own Ts R cI cZ cQ) (n : Nat) (hn : pc + 3 = n) {y : MethodName} {wsy wsy' : List Cond} {rm : Room} {bytes : ByteArray} {mL index na : Nat} {ret : Option FieldType} {As : List Value} {wc w1 : List va_W} {st0 : List Value} (hM : MV (xl X) y wsy rm (xD X) (TY cI cZ cQ) As wc w1) (G : GoodIn Ts (va_wsS own index y wsy)) (hw : wsy = Cond.code y bytes mL ret :: wsy') (hrc : rm.cells = 0) (hrs : rm.slots = 0) (hd : y.cls ≠ "java/lang/invoke/MethodHandle" ∧ y.cls ≠ "java/lang/invoke/VarHandle" ∧ (parseMethodDescriptor y.desc).map (fun d => d.parameters.length) = some na) (hR : rm.frames + 1 ≤ R.frames ∧ 8 + (mL + 11) + rm.locals ≤ R.locals) (hna : As.length = na) (hst : st0 = As.reverse ++ st) (hcat : (st.map fun v => v.category).sum ≤ 8) (hcs : ce ≤ R.cells ∧ sl ≤ R.slots) (isC : List Nat) (hN : va_nd isC = true) (hC : isC.map (fun i => ws[i]?) = wc.map some) (ha : w1.map (List.map Prod.fst) = wc.map (List.map Prod.fst)) (ws2 : List va_W) (hws : fr_put ws isC w1 = ws2) (d : decode cc pc = .ok (.invokestatic index, 3)) (kk : BK X nL ce sl n ws2 lv (st)) : BK X nL ce sl pc ws lv st0 := by
  subst hn
  subst hws
  subst hst
  intro H lo ls hP hD hS hl
  have hPc := bl_P hC hP
  have hDc : va_D (fun _ => True) wc.flatten := (bl_D hN hC hD).weaken (fun _ _ _ _ => trivial)
  have hFc := bl_free (wc := wc) hD hS O.hA hC
  have hRe := O.hR
  refine va_callv (va_runS (As := As) (rest := st) ⟨O.hx, O.hb, O.hml, O.hown, O.hts⟩ (hM H.size) (va_cwS na O.hts G hw hrc hrs hd (by rw [hRe]; exact hR)) ⟨CP.blind, fun U hU hW => ⟨rfl, by rw [hU], by rw [hU]; exact hPc, va_K.moved hW.alike O.hK, hDc, NW.warm hW O.hN⟩⟩ rfl hna hl.1 rfl (lv_room hcat) d (by rw [hRe]; exact hcs)) hS (fun q _ h => hFc q h) hFc (fun u t H1 lo1 ht hvm hw9 hB hz1 hk1 hS1 => ?_)
  subst hw9
  obtain ⟨hP1, hK1, hD1⟩ := hB
  rw [ht] at hP1
  have h9 := fr_after hP hD isC hC ha hk1 hP1
  exact kk H1 lo1 ls h9.1 h9.2 hS1 hl
theorem k_SNL (O : OK X cc nL own Ts R cI cZ cQ) (n : Nat) (hn : pc + 3 = n) {y : MethodName} {wsy wsy' : List Cond} {rm : Room} {bytes : ByteArray} {mL index na : Nat} {ret : Option FieldType} {As : List Value} {wc w1 : List va_W} {r : Int64} {st0 : List Value} (hM : ML (xl X) y wsy rm (xD X) (TY cI cZ cQ) As wc r w1) (G : GoodIn Ts wsy) (hini : Cond.initialized y.cls ∈ Ts) (hsta : Cond.static y ∈ Ts) {host : String} (hnl : va_Nw (.methodLinkNest own index y host) (xs X)) (hw : wsy = Cond.code y bytes mL ret :: wsy') (hrc : rm.cells = 0) (hrs : rm.slots = 0) (hd : y.cls ≠ "java/lang/invoke/MethodHandle" ∧ y.cls ≠ "java/lang/invoke/VarHandle" ∧ (parseMethodDescriptor y.desc).map (fun d => d.parameters.length) = some na) (hR : rm.frames + 1 ≤ R.frames ∧ 8 + (mL + 11) + rm.locals ≤ R.locals) (hna : As.length = na) (hst : st0 = As.reverse ++ st) (hcat : (st.map fun v => v.category).sum ≤ 8) (hcs : ce ≤ R.cells ∧ sl ≤ R.slots) (isC : List Nat) (hN : va_nd isC = true) (hC : isC.map (fun i => ws[i]?) = wc.map some) (ha : w1.map (List.map Prod.fst) = wc.map (List.map Prod.fst)) (ws2 : List va_W) (hws : fr_put ws isC w1 = ws2) (d : decode cc pc = .ok (.invokestatic index, 3)) (kk : BK X nL ce sl n ws2 lv (.long r :: st)) : BK X nL ce sl pc ws lv st0 := by
  subst hn
  subst hws
  subst hst
  intro H lo ls hP hD hS hl
  have hPc := bl_P hC hP
  have hDc : va_D (fun _ => True) wc.flatten := (bl_D hN hC hD).weaken (fun _ _ _ _ => trivial)
  have hFc := bl_free (wc := wc) hD hS O.hA hC
  have hRe := O.hR
  refine va_calll (va_runSN (As := As) (rest := st) ⟨O.hx, O.hb, O.hml, O.hown, O.hts⟩ (hM H.size) ⟨va_cnB na O.hts G hw hrc hrs hnl (O.hts _ hini) hd (by rw [hRe]; exact hR), O.hts _ hsta, trivial⟩ ⟨CP.blind, fun U hU hW => ⟨rfl, by rw [hU], by rw [hU]; exact hPc, va_K.moved hW.alike O.hK, hDc, NW.warm hW O.hN⟩⟩ rfl hna hl.1 rfl (lv_room hcat) d (by rw [hRe]; exact hcs)) hS (fun q _ h => hFc q h) hFc (fun r9 u t H1 lo1 ht hvm hw9 hB hz1 hk1 hS1 => ?_)
  obtain ⟨rfl, rfl⟩ := hw9
  obtain ⟨hP1, hK1, hD1⟩ := hB
  rw [ht] at hP1
  have h9 := fr_after hP hD isC hC ha hk1 hP1
  exact kk H1 lo1 ls h9.1 h9.2 hS1 hl
end CALLS

