/-! MAKING: rows and contracts of constructors -/
def MN (l : Launch) (y : MethodName) (wsy : List Cond) (rm : Room) (D : va_G) (tys : List (ClassId × FieldType)) (av : List Value) (w0 : va_W) (b : Nat) (W1 : (Nat → Nat → Nat) → va_W) (mc ms : Nat) : Prop := ∀ sz : Nat, Met l y wsy rm (va_Pc av (CP D tys w0 sz)) (va_Qv (fun (u : va_W) => ∃ G : Nat → Nat → Nat, G 0 0 = b ∧ u = W1 G) (CE D tys w0 sz) (va_A w0 sz)) mc ms (va_A w0 sz)
def EN (X : Cx) (cI cZ cQ : ClassId) (w0 : va_W) (b : Nat) (W1 : (Nat → Nat → Nat) → va_W) (mc ms : Nat) : Prop := (xh X).sig.returnType = none ∧ xA X = va_A w0 (xs X).heap.size ∧ xQ X = MQ (xb X) (va_Qv (fun (u : va_W) => ∃ G : Nat → Nat → Nat, G 0 0 = b ∧ u = W1 G) (CE (xD X) (TY cI cZ cQ) w0 (xs X).heap.size) (va_A w0 (xs X).heap.size)) (xa X) (xs X) mc ms (va_A w0 (xs X).heap.size)
theorem fr_afterN {A0 : Nat → Prop} {D : va_G} {ws wc w1a w1b : va_W} {H H1 : Heap} (hP : va_P D vwCl ws H) (hD : va_D A0 ws) (isC : List Nat) (hC : isC.map (fun i => ws[i]?) = wc.map some) (ha : w1a.map Prod.fst = wc.map Prod.fst) (hk : ∀ q : Nat, q < H.size → ¬ va_A wc H.size q → H1[q]? = H[q]?) (hF : ∀ q, va_A wc H.size q → A0 q) (hP1 : va_P D vwCl (w1a ++ w1b) H1) (hD1 : va_D (va_A wc H.size) (w1a ++ w1b)) : va_P D vwCl (fr_put ws isC w1a ++ w1b) H1 ∧ va_D A0 (fr_put ws isC w1a ++ w1b) := by
  have h1 := fr_after hP hD isC hC ha hk (fun k q hq => hP1 k q (by rw [List.getElem?_append_left (List.getElem?_eq_some_iff.mp hq).1]; exact hq))
  have hPb : va_P D vwCl w1b H1 := fun k q hq => hP1 (w1a.length + k) q (by rw [List.getElem?_append_right (by omega)]; rw [show w1a.length + k - w1a.length = k by omega]; exact hq)
  have hDb : va_D A0 w1b := by
    refine ⟨fun i j p q hi hj e => ?_, fun k q hq => ?_⟩
    · have a1 : (w1a ++ w1b)[w1a.length + i]? = some p := by rw [List.getElem?_append_right (by omega)]; rw [show w1a.length + i - w1a.length = i by omega]; exact hi
      have a2 : (w1a ++ w1b)[w1a.length + j]? = some q := by rw [List.getElem?_append_right (by omega)]; rw [show w1a.length + j - w1a.length = j by omega]; exact hj
      have := hD1.1 _ _ _ _ a1 a2 e
      omega
    · have a1 : (w1a ++ w1b)[w1a.length + k]? = some q := by rw [List.getElem?_append_right (by omega)]; rw [show w1a.length + k - w1a.length = k by omega]; exact hq
      exact hF _ (hD1.2 _ _ a1)
  refine ⟨va_P.app h1.1 hPb, va_D.app h1.2 hDb (fun i j x y hx hy hxy => ?_)⟩
  -- an old address is below H.size; a new one isn't one of the callee's old ones, so it is not below
  have hfst : (fr_put ws isC w1a).map Prod.fst = ws.map Prod.fst := by
    refine fr_put_fst isC w1a ws ?_
    have e1 := congrArg (List.map (Option.map Prod.fst)) hC
    have e2 := congrArg (List.map some) ha
    simp only [List.map_map] at e1 e2
    have e3 : (wc.map fun q => some q.1) = w1a.map fun q => some q.1 := by simpa [Function.comp_def] using e2.symm
    rw [← e3]
    simpa [Function.comp_def] using e1
  have hxl : x.1 < H.size := by
    have e1 := congrArg (fun l : List Nat => l[i]?) hfst
    simp only [List.getElem?_map, hx] at e1
    cases hz : ws[i]? with
    | none => rw [hz] at e1; cases e1
    | some z => rw [hz] at e1; rw [Option.some.inj e1]; exact (hP i z hz).lt
  have a1 : (w1a ++ w1b)[w1a.length + j]? = some y := by rw [List.getElem?_append_right (by omega)]; rw [show w1a.length + j - w1a.length = j by omega]; exact hy
  rcases hD1.2 _ _ a1 with ⟨k, e, hk2⟩ | h
  · have e1 := congrArg (fun l : List Nat => l[k]?) ha
    simp only [List.getElem?_map, hk2] at e1
    cases hz : w1a[k]? with
    | none => rw [hz] at e1; cases e1
    | some z =>
      rw [hz] at e1
      have hl := (List.getElem?_eq_some_iff.mp hz).1
      have a2 : (w1a ++ w1b)[k]? = some z := by rw [List.getElem?_append_left hl]; exact hz
      have := hD1.1 _ _ _ _ a2 a1 (Option.some.inj e1)
      omega
  · omega
section MAKE
variable {X : Cx} {cc : ByteArray} {nL ce sl pc : Nat} {own : String} {Ts : List Cond} {R : Room} {cI cZ cQ : ClassId} {ws : va_W} {lv : List (Nat × Value)} {st : List Value}
theorem r_perm (pm : List Nat) (ws2 : va_W) (hn : va_nd pm = true) (hp : pm.map (fun i => ws[i]?) = ws2.map some) (kk : BK X nL ce sl pc ws2 lv st) : BK X nL ce sl pc ws lv st := fun H lo ls hP hD hS hl => kk H lo ls (hP.sub pm (fm_of hp)) (hD.sub pm hn hp) hS hl
theorem r_nret (O : OK X cc nL own Ts R cI cZ cQ) {w0 : va_W} {b : Nat} {W1 : (Nat → Nat → Nat) → va_W} {mc ms : Nat} (E : EN X cI cZ cQ w0 b W1 mc ms) (G : Nat → Nat → Nat) (hG : G 0 0 = b) (hw : ws = W1 G) (h1 : ce ≤ mc) (h2 : sl ≤ ms) (d : decode cc pc = .ok (.return_, 1)) : BK X nL ce sl pc ws lv [] := by
  intro H lo ls hP hD hS hl
  obtain ⟨hr, hA, hQ⟩ := E
  rw [hA] at hD hS
  rw [hQ]
  refine W.widen h1 h2 ?_
  exact W.vret O.hx O.hb hr (fun t ht hW => ⟨⟨ws, rfl, ⟨G, hG, hw⟩, by rw [ht]; exact hP, va_K.moved hW.alike O.hK, hD⟩, hS.F ht⟩) hS.2.2 d O.hL
theorem MN.of {l : Launch} {y : MethodName} {wsy : List Cond} {rm : Room} {D : va_G} {av : List Value} {w0 : va_W} {b : Nat} {W1 : (Nat → Nat → Nat) → va_W} {mc ms : Nat} {lv0 : List (Nat × Value)} (hy : plainName y.cls = true) (ho : y.cls = own) (hin : y.name = "<init>") (hw : wsy = Cond.code y cc nL none :: wB) (hn : (lg_sl av).length ≤ nL) (hlv : lv_args 0 av = lv0) (body : ∀ X : Cx, OK X cc nL own wB rm cI cZ cQ → (xh X).name = "<init>" → EN X cI cZ cQ w0 b W1 mc ms → BK X nL 0 0 0 w0 lv0 []) : MN l y wsy rm D (TY cI cZ cQ) av w0 b W1 mc ms := by
  subst ho
  intro sz
  refine Met.ofW (cc := cc) (maxL := nL) (ret := none) hy hw ?_
  intro p e s m args below meth c s₁ B hml hv
  obtain ⟨rfl, hsz, hP, hK, hD0, hNw⟩ := hv
  subst hsz
  have hD := hD0.self (sz := s.heap.size)
  have hl := lv_entry av (n := nL) hn
  rw [hlv] at hl
  rw [lg_entry_eq]
  exact body (p, l, e, (headSpec wsy rm).room, s, m, av.toArray, below, meth, c, D, va_A w0 s.heap.size, _) ⟨B.exec, B.bytes, hml, findClass_of_methodNamed B.named, fun w h => atoms_spec (ws := wsy) B.pre w (by rw [hw]; exact List.mem_cons_of_mem _ h), hK, fun q h => Or.inr h, rfl, B.notSynchronized, hNw⟩ ((name_of_methodNamed B.named B.method).1.trans hin) ⟨B.returns, rfl, rfl⟩ s.heap [] _ hP hD va_S.rf hl
theorem r_oinit (O : OK X cc nL own Ts R cI cZ cQ) (n : Nat) (hn : pc + 3 = n) {idx a : Nat} (h1 : Cond.methodLink own idx Lib.objectInit ∈ Ts) (h2 : Cond.instanceMethod Lib.objectInit ∈ Ts) (h3 : Cond.code Lib.objectInit ⟨#[0xb1]⟩ 1 none ∈ Ts) (hst : (st.map fun v => v.category).sum ≤ 8) (hf : 1 ≤ R.frames) (ho : 20 ≤ R.locals) (d : decode cc pc = .ok (.invokespecial idx, 3)) (kk : BK X nL ce sl n ws lv st) : BK X nL ce sl pc ws lv (.ref a :: st) := by
  subst hn
  intro H lo ls hP hD hS hl
  have hRe := O.hR
  refine W.objInit O.hx O.hb O.hown (O.hts _ h1) (O.hts _ h2) (O.hts _ h3) rfl (by rw [O.hml]; exact hl.1) rfl d (by rw [hRe]; exact hf) (by rw [hRe]; exact Nat.le_trans (Nat.add_le_add_right (lv_room hst) 12) ho) ?_
  exact W.eq (g2 := F0 (xm X) (pc + 3) ls st) rfl (kk H lo ls hP hD hS hl)
theorem r_new (O : OK X cc nL own Ts R cI cZ cQ) (n : Nat) (hn : pc + 3 = n) {C : String} {T : u_T} {N ci index : Nat} {fs : List Value} (hin : ∀ w ∈ u_ws C T N, w ∈ Ts) (ty : Nat → FieldType) (hty : ∀ k, k < N → parseFieldDescriptor (T k).2.2.1 = some (ty k)) (h1 : Cond.classLink own index C ∈ Ts) (h2 : Cond.instantiable C N ∈ Ts) (h3 : Cond.initialized C ∈ Ts) (hc : vwCl[ci]? = some (C, T, N)) (hfs : ∀ j, j < N → defaultValue (ty j) = vp_V fs j) (hcells : ce + 1 ≤ R.cells) (hslots : sl + N ≤ R.slots) (d : decode cc pc = .ok (.new index, 3)) (kk : ∀ q : Nat, BK X nL (ce + 1) (sl + N) n (ws ++ [(q, .inr (ci, fs))]) lv (.ref q :: st)) : BK X nL ce sl pc ws lv st := by
  subst hn
  intro H lo ls hP hD hS hl
  have hRe := O.hR
  exact va_new O.hx O.hb O.hts hin ty hty O.hown (O.hts _ h1) (O.hts _ h2) (O.hts _ h3) O.hK hP hD hS O.hA hc hfs (by rw [hRe]; exact hcells) (by rw [hRe]; exact hslots) d (fun q H1 hP1 hD1 hS1 => kk q H1 lo ls hP1 hD1 hS1 hl)
theorem r_newI (O : OK X cc nL own Ts R cI cZ cQ) (n : Nat) (hn : pc + 2 = n) {k : Int32} (N' : Nat) (hw : Cond.arrayClass .int ∈ Ts) (hk : ¬ k < 0) (hN : k.toNatClampNeg = N') (hb4 : N' * 4 ≤ 536870912) (hcells : ce + 1 ≤ R.cells) (hslots : sl + N' ≤ R.slots) (d : decode cc pc = .ok (.newarray .int, 2)) (kk : ∀ q : Nat, BK X nL (ce + 1) (sl + N') n (ws ++ [(q, .inl (cI, N', .inl (fun _ => 0)))]) lv (.ref q :: st)) : BK X nL ce sl pc ws lv (.int k :: st) := by
  subst hn
  intro H lo ls hP hD hS hl
  have hRe := O.hR
  refine va_newa (atype := .int) (ty := .int) (a0 := (N', .inl (fun _ => 0))) O.hx O.hb (O.hts _ hw) rfl O.hK hP hD hS O.hA (fun cA => rfl) hk hN hb4 (by rw [hRe]; exact hcells) (by rw [hRe]; exact hslots) d (fun q cA H1 hK1 hP1 hD1 hS1 => ?_)
  have e1 : (xs X).vm.findClass ("[" ++ FieldType.int.toString) = some cA := (hK1.2 3 (cA, .int) rfl).2
  have e2 : (xs X).vm.findClass ("[" ++ FieldType.int.toString) = some cI := (O.hK.2 0 (cI, .int) rfl).2
  have e3 : cA = cI := Option.some.inj (e1.symm.trans e2)
  subst e3
  exact kk q H1 lo ls hP1 hD1 hS1 hl
theorem r_newZ (O : OK X cc nL own Ts R cI cZ cQ) (n : Nat) (hn : pc + 2 = n) {k : Int32} (N' : Nat) (hw : Cond.arrayClass .boolean ∈ Ts) (hk : ¬ k < 0) (hN : k.toNatClampNeg = N') (hb4 : N' * 1 ≤ 536870912) (hcells : ce + 1 ≤ R.cells) (hslots : sl + N' ≤ R.slots) (d : decode cc pc = .ok (.newarray .boolean, 2)) (kk : ∀ q : Nat, BK X nL (ce + 1) (sl + N') n (ws ++ [(q, .inl (cZ, N', .inl (fun _ => 0)))]) lv (.ref q :: st)) : BK X nL ce sl pc ws lv (.int k :: st) := by
  subst hn
  intro H lo ls hP hD hS hl
  have hRe := O.hR
  refine va_newa (atype := .boolean) (ty := .boolean) (a0 := (N', .inl (fun _ => 0))) O.hx O.hb (O.hts _ hw) rfl O.hK hP hD hS O.hA (fun cA => rfl) hk hN hb4 (by rw [hRe]; exact hcells) (by rw [hRe]; exact hslots) d (fun q cA H1 hK1 hP1 hD1 hS1 => ?_)
  have e1 : (xs X).vm.findClass ("[" ++ FieldType.boolean.toString) = some cA := (hK1.2 3 (cA, .boolean) rfl).2
  have e2 : (xs X).vm.findClass ("[" ++ FieldType.boolean.toString) = some cZ := (O.hK.2 1 (cZ, .boolean) rfl).2
  have e3 : cA = cZ := Option.some.inj (e1.symm.trans e2)
  subst e3
  exact kk q H1 lo ls hP1 hD1 hS1 hl
theorem r_newQ (O : OK X cc nL own Ts R cI cZ cQ) (n : Nat) (hn : pc + 3 = n) {k : Int32} {index : Nat} (N' : Nat) (hw : Cond.classLink own index "WallPartition$Walls" ∈ Ts) (hk : ¬ k < 0) (hN : k.toNatClampNeg = N') (hb4 : N' * 4 ≤ 536870912) (hcells : ce + 1 ≤ R.cells) (hslots : sl + N' ≤ R.slots) (d : decode cc pc = .ok (.anewarray index, 3)) (kk : ∀ q : Nat, BK X nL (ce + 1) (sl + N') n (ws ++ [(q, .inl (cQ, N', .inr (.inr (.inr (.inr (fun _ => none))))))]) lv (.ref q :: st)) : BK X nL ce sl pc ws lv (.int k :: st) := by
  subst hn
  intro H lo ls hP hD hS hl
  have hRe := O.hR
  refine va_newq O.hx O.hb O.hown (O.hts _ hw) O.hN.2.2.2.2 O.hK hP hD hS O.hA hk hN hb4 (by rw [hRe]; exact hcells) (by rw [hRe]; exact hslots) d (fun q cA H1 hK1 hP1 hD1 hS1 => ?_)
  have e1 := (hK1.2 3 (cA, .object "WallPartition$Walls") rfl).2
  have e2 := (O.hK.2 2 (cQ, .object "WallPartition$Walls") rfl).2
  obtain ⟨_, _, _, _, _, f1⟩ := e1
  obtain ⟨_, _, _, _, _, f2⟩ := e2
  have e3 : cA = cQ := Option.some.inj (f1.symm.trans f2)
  subst e3
  exact kk q H1 lo ls hP1 hD1 hS1 hl
theorem r_aast (O : OK X cc nL own Ts R cI cZ cQ) (n : Nat) (hn : pc + 1 = n) {a N v : Nat} {T : u_T} {M : Nat} {vs : List Value} {ci : Nat} {f : Nat → Option Nat} {i : Int32} (q0 qk : Nat) (ha : ws[q0]? = some (a, .inl (cQ, N, .inr (.inr (.inr (.inr f)))))) (hv : ws[qk]? = some (v, .inr (ci, vs))) (hc : vwCl[ci]? = some ("WallPartition$Walls", T, M)) (hin : vp_in i N) (ws2 : va_W) (hws : ws.set q0 (a, .inl (cQ, N, .inr (.inr (.inr (.inr (va_up f i.toNatClampNeg (some v))))))) = ws2) (d : decode cc pc = .ok (.aastore, 1)) (kk : BK X nL ce sl n ws2 lv st) : BK X nL ce sl pc ws lv (.ref v :: .int i :: .ref a :: st) := by
  subst hn
  subst hws
  intro H lo ls hP hD hS hl
  exact va_astq (r := ("WallPartition$Walls", T, M)) O.hx O.hb O.hK hP hD hS q0 2 qk ci ha rfl hv hc hin d (fun H1 lo1 hP1 hD1 hS1 => kk H1 lo1 ls hP1 hD1 hS1 hl)

theorem k_NI (O : OK X cc nL own Ts R cI cZ cQ) (n : Nat) (hn : pc + 3 = n) {y : MethodName} {wsy wsy' : List Cond} {rm : Room} {bytes : ByteArray} {mL index na b mc ms : Nat} {As : List Value} {wc : va_W} {W1 : (Nat → Nat → Nat) → va_W} {st0 : List Value} (hM : MN (xl X) y wsy rm (xD X) (TY cI cZ cQ) (.ref b :: As) wc b W1 mc ms) (G : GoodIn Ts wsy) (hw : wsy = Cond.code y bytes mL none :: wsy') (hrc : rm.cells = mc) (hrs : rm.slots = ms) (hini : Cond.initialized y.cls ∈ Ts) (hl9 : Cond.methodLink own index y ∈ Ts) (hinm : Cond.instanceMethod y ∈ Ts) (hy1 : y.name = "<init>") (hd : y.cls ≠ "java/lang/invoke/MethodHandle" ∧ y.cls ≠ "java/lang/invoke/VarHandle" ∧ (parseMethodDescriptor y.desc).map (fun d => d.parameters.length) = some na) (hR : rm.frames + 1 ≤ R.frames ∧ 8 + (mL + 11) + rm.locals ≤ R.locals) (hna : As.length = na) (hst : st0 = As.reverse ++ .ref b :: st) (hcat : (st.map fun v => v.category).sum ≤ 8) (hcs : ce + mc ≤ R.cells ∧ sl + ms ≤ R.slots) (isC : List Nat) (hN : va_nd isC = true) (hC : isC.map (fun i => ws[i]?) = wc.map some) (ha : ∀ G : Nat → Nat → Nat, G 0 0 = b → ((W1 G).take 1).map Prod.fst = wc.map Prod.fst) (d : decode cc pc = .ok (.invokespecial index, 3)) (kk : ∀ G : Nat → Nat → Nat, G 0 0 = b → BK X nL (ce + mc) (sl + ms) n (fr_put ws isC ((W1 G).take 1) ++ (W1 G).drop 1) lv st) : BK X nL ce sl pc ws lv st0 := by
  subst hn
  subst hst
  intro H lo ls hP hD hS hl
  have hPc := hP.sub (ws' := wc) isC (fm_of hC)
  have hDc : va_D (fun _ => True) wc := (hD.sub isC hN hC).weaken (fun _ _ _ _ => trivial)
  have hFc := va_free (wc := wc) hD hS O.hA isC hC
  have hRe := O.hR
  refine va_callv (va_runI (As := As) (rest := st) ⟨O.hx, O.hb, O.hml, O.hown, O.hts⟩ (hM H.size) (cwI na O.hts G hw hrc hrs (O.hts _ hini) (O.hts _ hl9) (O.hts _ hinm) hy1 hd (by rw [hRe]; exact hR)) ⟨CP.blind, fun U hU hW => ⟨rfl, by rw [hU], by rw [hU]; exact hPc, va_K.moved hW.alike O.hK, hDc, NW.warm hW O.hN⟩⟩ rfl hna hl.1 rfl (lv_room hcat) d (by rw [hRe]; exact hcs)) hS (fun q _ h => hFc q h) hFc (fun u t H1 lo1 ht hvm hw9 hB hz1 hk1 hS1 => ?_)
  obtain ⟨Gx, hG0, rfl⟩ := hw9
  obtain ⟨hP1, hK1, hD1⟩ := hB
  rw [ht] at hP1
  rw [← List.take_append_drop 1 (W1 Gx)] at hP1 hD1
  have h9 := fr_afterN hP hD isC hC (ha Gx hG0) hk1 hFc hP1 hD1
  exact kk Gx hG0 H1 lo1 ls h9.1 h9.2 hS1 hl
theorem k_NNI (O : OK X cc nL own Ts R cI cZ cQ) (n : Nat) (hn : pc + 3 = n) {y : MethodName} {wsy wsy' : List Cond} {rm : Room} {bytes : ByteArray} {mL index na b mc ms : Nat} {As : List Value} {wc : va_W} {W1 : (Nat → Nat → Nat) → va_W} {st0 : List Value} (hM : MN (xl X) y wsy rm (xD X) (TY cI cZ cQ) (.ref b :: As) wc b W1 mc ms) (G : GoodIn Ts wsy) (hw : wsy = Cond.code y bytes mL none :: wsy') (hrc : rm.cells = mc) (hrs : rm.slots = ms) (hini : Cond.initialized y.cls ∈ Ts) {host : String} (hl9 : va_Nw (.methodLinkNest own index y host) (xs X)) (hinm : Cond.instanceMethod y ∈ Ts) (hy1 : y.name = "<init>") (hd : y.cls ≠ "java/lang/invoke/MethodHandle" ∧ y.cls ≠ "java/lang/invoke/VarHandle" ∧ (parseMethodDescriptor y.desc).map (fun d => d.parameters.length) = some na) (hR : rm.frames + 1 ≤ R.frames ∧ 8 + (mL + 11) + rm.locals ≤ R.locals) (hna : As.length = na) (hst : st0 = As.reverse ++ .ref b :: st) (hcat : (st.map fun v => v.category).sum ≤ 8) (hcs : ce + mc ≤ R.cells ∧ sl + ms ≤ R.slots) (isC : List Nat) (hN : va_nd isC = true) (hC : isC.map (fun i => ws[i]?) = wc.map some) (ha : ∀ G : Nat → Nat → Nat, G 0 0 = b → ((W1 G).take 1).map Prod.fst = wc.map Prod.fst) (d : decode cc pc = .ok (.invokespecial index, 3)) (kk : ∀ G : Nat → Nat → Nat, G 0 0 = b → BK X nL (ce + mc) (sl + ms) n (fr_put ws isC ((W1 G).take 1) ++ (W1 G).drop 1) lv st) : BK X nL ce sl pc ws lv st0 := by
  subst hn
  subst hst
  intro H lo ls hP hD hS hl
  have hPc := hP.sub (ws' := wc) isC (fm_of hC)
  have hDc : va_D (fun _ => True) wc := (hD.sub isC hN hC).weaken (fun _ _ _ _ => trivial)
  have hFc := va_free (wc := wc) hD hS O.hA isC hC
  have hRe := O.hR
  refine va_callv (va_runIN (As := As) (rest := st) ⟨O.hx, O.hb, O.hml, O.hown, O.hts⟩ (hM H.size) ⟨va_cnB na O.hts G hw hrc hrs hl9 (O.hts _ hini) hd (by rw [hRe]; exact hR), hy1, O.hts _ hinm⟩ ⟨CP.blind, fun U hU hW => ⟨rfl, by rw [hU], by rw [hU]; exact hPc, va_K.moved hW.alike O.hK, hDc, NW.warm hW O.hN⟩⟩ rfl hna hl.1 rfl (lv_room hcat) d (by rw [hRe]; exact hcs)) hS (fun q _ h => hFc q h) hFc (fun u t H1 lo1 ht hvm hw9 hB hz1 hk1 hS1 => ?_)
  obtain ⟨Gx, hG0, rfl⟩ := hw9
  obtain ⟨hP1, hK1, hD1⟩ := hB
  rw [ht] at hP1
  rw [← List.take_append_drop 1 (W1 Gx)] at hP1 hD1
  have h9 := fr_afterN hP hD isC hC (ha Gx hG0) hk1 hFc hP1 hD1
  exact kk Gx hG0 H1 lo1 ls h9.1 h9.2 hS1 hl
theorem r_ws (ws2 : va_W) (h : ws = ws2) (kk : BK X nL ce sl pc ws2 lv st) : BK X nL ce sl pc ws lv st := h ▸ kk
theorem r_cong {a N : Nat} {f g : Nat → Option Nat} (q0 : Nat) (ha : ws[q0]? = some (a, .inl (cQ, N, .inr (.inr (.inr (.inr f)))))) (hfg : ∀ j, j < N → f j = g j) (ws2 : va_W) (hws : ws.set q0 (a, .inl (cQ, N, .inr (.inr (.inr (.inr g))))) = ws2) (kk : BK X nL ce sl pc ws2 lv st) : BK X nL ce sl pc ws lv st := by
  subst hws
  intro H lo ls hP hD hS hl
  refine kk H lo ls (fun k q hq => ?_) (hD.set ha) hS hl
  by_cases hk : q0 = k
  · subst hk
    rw [List.getElem?_set_self', ha] at hq
    cases hq
    have h1 := hP q0 _ ha
    show H[a]? = some (vp_cell _ _)
    rw [show H[a]? = some (vp_cell cQ (N, .inr (.inr (.inr (.inr f))))) from h1]
    simp only [vp_cell, arrV]
    congr 2
    apply Array.ext
    · simp
    · intro i h1 h2
      simp only [Array.getElem_ofFn]
      rw [hfg i (by simpa using h1)]
  · rw [List.getElem?_set_ne hk] at hq
    exact hP k q hq
end MAKE
