/-! MAKING: rows and contracts of constructors -/
def MN (l : Launch) (y : MethodName) (wsy : List Cond) (rm : Room) (D : va_G) (tys : List (ClassId × FieldType)) (av : List Value) (w0 : List va_W) (b : Nat) (W1 : (Nat → Nat → Nat) → List va_W) (mc ms : Nat) : Prop := ∀ sz : Nat, Met l y wsy rm (va_Pc av (CP D tys w0 sz)) (va_Qv (fun (u : List va_W) => ∃ G : Nat → Nat → Nat, G 0 0 = b ∧ u = W1 G) (CE D tys w0 sz) (va_A w0.flatten sz)) mc ms (va_A w0.flatten sz)
def EN (X : Cx) (cI cZ cQ : ClassId) (w0 : List va_W) (b : Nat) (W1 : (Nat → Nat → Nat) → List va_W) (mc ms : Nat) : Prop := (xh X).sig.returnType = none ∧ xA X = va_A w0.flatten (xs X).heap.size ∧ xQ X = MQ (xb X) (va_Qv (fun (u : List va_W) => ∃ G : Nat → Nat → Nat, G 0 0 = b ∧ u = W1 G) (CE (xD X) (TY cI cZ cQ) w0 (xs X).heap.size) (va_A w0.flatten (xs X).heap.size)) (xa X) (xs X) mc ms (va_A w0.flatten (xs X).heap.size)
theorem fr_afterN {A0 : Nat → Prop} {D : va_G} {ws : List va_W} {wc w1 : va_W} {i : Nat} {H H1 : Heap} (hP : va_P D vwCl ws.flatten H) (hD : va_D A0 ws.flatten) (hi : ws[i]? = some wc) (hlen : 0 < wc.length) (ha : (w1.take wc.length).map Prod.fst = wc.map Prod.fst) (hk : ∀ q : Nat, q < H.size → ¬ va_A wc H.size q → H1[q]? = H[q]?) (hF : ∀ q, va_A wc H.size q → A0 q) (hP1 : va_P D vwCl w1 H1) (hD1 : va_D (va_A wc H.size) w1) : va_P D vwCl (ws.set i w1).flatten H1 ∧ va_D A0 (ws.set i w1).flatten := by
  have key : ∀ (k : Nat) (q : Nat × va_E), (ws.set i w1).flatten[k]? = some q → ∃ (a x : Nat) (w : va_W), (ws.set i w1)[a]? = some w ∧ w[x]? = some q ∧ k = off (ws.set i w1) a + x ∧ ((a = i ∧ w = w1) ∨ (a ≠ i ∧ ws[a]? = some w)) := by
    intro k q hq
    obtain ⟨a, x, w, e1, e2, e3⟩ := flat_of hq
    refine ⟨a, x, w, e1, e2, e3, ?_⟩
    by_cases h : i = a
    · subst h
      rw [List.getElem?_set_self', hi] at e1
      exact Or.inl ⟨rfl, (Option.some.inj e1).symm⟩
    · rw [List.getElem?_set_ne h] at e1
      exact Or.inr ⟨fun e => h e.symm, e1⟩
  have apart : ∀ (a x : Nat) (w : va_W) (q : Nat × va_E), a ≠ i → ws[a]? = some w → w[x]? = some q → q.1 < H.size ∧ ¬ va_A wc H.size q.1 := by
    intro a x w q hne h1 h2
    have hl := (hP _ q (flat_at h1 h2)).lt
    refine ⟨hl, fun hm => ?_⟩
    rcases hm with ⟨k, e, hk2⟩ | hm
    · have := hD.1 _ _ q (q.1, e) (flat_at h1 h2) (flat_at hi hk2) rfl
      exact hne (flat_inj h1 (List.getElem?_eq_some_iff.mp h2).1 hi (List.getElem?_eq_some_iff.mp hk2).1 this).1
    · omega
  refine ⟨fun k q hq => ?_, fun k1 k2 p q hp hq e => ?_, fun k q hq => ?_⟩
  · obtain ⟨a, x, w, -, e2, -, h⟩ := key k q hq
    rcases h with ⟨-, rfl⟩ | ⟨hne, h⟩
    · exact hP1 x q e2
    · obtain ⟨g1, g2⟩ := apart a x w q hne h e2
      exact (hP _ q (flat_at h e2)).kept (hk q.1 g1 g2)
  · obtain ⟨a, x, w, a1, e2, e3, h⟩ := key k1 p hp
    obtain ⟨b, y, v, b1, f2, f3, g⟩ := key k2 q hq
    rcases h with ⟨rfl, rfl⟩ | ⟨hne, h⟩
    · rcases g with ⟨rfl, rfl⟩ | ⟨gne, g⟩
      · have := hD1.1 x y p q e2 f2 e
        omega
      · exact absurd (e ▸ hD1.2 x p e2) (apart b y v q gne g f2).2
    · rcases g with ⟨rfl, rfl⟩ | ⟨gne, g⟩
      · exact absurd (e ▸ hD1.2 y q f2 : va_A wc H.size p.1) (apart a x w p hne h e2).2
      · have := hD.1 _ _ p q (flat_at h e2) (flat_at g f2) e
        obtain ⟨r1, r2⟩ := flat_inj h (List.getElem?_eq_some_iff.mp e2).1 g (List.getElem?_eq_some_iff.mp f2).1 this
        subst r1
        omega
  · obtain ⟨a, x, w, -, e2, -, h⟩ := key k q hq
    rcases h with ⟨-, rfl⟩ | ⟨hne, h⟩
    · exact hF _ (hD1.2 x q e2)
    · exact hD.2 _ q (flat_at h e2)
section MAKE
variable {X : Cx} {cc : ByteArray} {nL ce sl pc : Nat} {own : String} {Ts : List Cond} {R : Room} {cI cZ cQ : ClassId} {ws : List va_W} {lv : List (Nat × Value)} {st : List Value}
theorem r_nret (O : OK X cc nL own Ts R cI cZ cQ) {w0 : List va_W} {b : Nat} {W1 : (Nat → Nat → Nat) → List va_W} {mc ms : Nat} (E : EN X cI cZ cQ w0 b W1 mc ms) (G : Nat → Nat → Nat) (hG : G 0 0 = b) (hw : ws = W1 G) (h1 : ce ≤ mc) (h2 : sl ≤ ms) (d : decode cc pc = .ok (.return_, 1)) : BK X nL ce sl pc ws lv [] := by
  intro H lo ls hP hD hS hl
  obtain ⟨hr, hA, hQ⟩ := E
  rw [hA] at hD hS
  rw [hQ]
  refine W.widen h1 h2 ?_
  exact W.vret O.hx O.hb hr (fun t ht hW => ⟨⟨ws, rfl, ⟨G, hG, hw⟩, by rw [ht]; exact hP, va_K.moved hW.alike O.hK, hD⟩, hS.F ht⟩) hS.2.2 d O.hL
theorem MN.of {l : Launch} {y : MethodName} {wsy : List Cond} {rm : Room} {D : va_G} {av : List Value} {w0 : List va_W} {b : Nat} {W1 : (Nat → Nat → Nat) → List va_W} {mc ms : Nat} {lv0 : List (Nat × Value)} (hy : plainName y.cls = true) (ho : y.cls = own) (hin : y.name = "<init>") (hw : wsy = Cond.code y cc nL none :: wB) (hn : (lg_sl av).length ≤ nL) (hlv : lv_args 0 av = lv0) (body : ∀ X : Cx, OK X cc nL own wB rm cI cZ cQ → (xh X).name = "<init>" → EN X cI cZ cQ w0 b W1 mc ms → BK X nL 0 0 0 w0 lv0 []) : MN l y wsy rm D (TY cI cZ cQ) av w0 b W1 mc ms := by
  subst ho
  intro sz
  refine Met.ofW (cc := cc) (maxL := nL) (ret := none) hy hw ?_
  intro p e s m args below meth c s₁ B hml hv
  obtain ⟨rfl, hsz, hP, hK, hD0, hNw⟩ := hv
  subst hsz
  have hD := hD0.self (sz := s.heap.size)
  have hl := lv_entry av (n := nL) hn
  rw [hlv] at hl
  rw [lg_entry_eq]
  exact body (p, l, e, (headSpec wsy rm).room, s, m, av.toArray, below, meth, c, D, va_A w0.flatten s.heap.size, _) ⟨B.exec, B.bytes, hml, findClass_of_methodNamed B.named, fun w h => atoms_spec (ws := wsy) B.pre w (by rw [hw]; exact List.mem_cons_of_mem _ h), hK, fun q h => Or.inr h, rfl, B.notSynchronized, hNw⟩ ((name_of_methodNamed B.named B.method).1.trans hin) ⟨B.returns, rfl, rfl⟩ s.heap [] _ hP hD va_S.rf hl
theorem r_oinit (O : OK X cc nL own Ts R cI cZ cQ) (n : Nat) (hn : pc + 3 = n) {idx a : Nat} (h1 : Cond.methodLink own idx Lib.objectInit ∈ Ts) (h2 : Cond.instanceMethod Lib.objectInit ∈ Ts) (h3 : Cond.code Lib.objectInit ⟨#[0xb1]⟩ 1 none ∈ Ts) (hst : (st.map fun v => v.category).sum ≤ 8) (hf : 1 ≤ R.frames) (ho : 20 ≤ R.locals) (d : decode cc pc = .ok (.invokespecial idx, 3)) (kk : BK X nL ce sl n ws lv st) : BK X nL ce sl pc ws lv (.ref a :: st) := by
  subst hn
  intro H lo ls hP hD hS hl
  have hRe := O.hR
  refine W.objInit O.hx O.hb O.hown (O.hts _ h1) (O.hts _ h2) (O.hts _ h3) rfl (by rw [O.hml]; exact hl.1) rfl d (by rw [hRe]; exact hf) (by rw [hRe]; exact Nat.le_trans (Nat.add_le_add_right (lv_room hst) 12) ho) ?_
  exact W.eq (g2 := F0 (xm X) (pc + 3) ls st) rfl (kk H lo ls hP hD hS hl)
theorem r_new (O : OK X cc nL own Ts R cI cZ cQ) (n : Nat) (hn : pc + 3 = n) {C : String} {T : u_T} {N ci index : Nat} {fs : List Value} (hin : ∀ w ∈ u_ws C T N, w ∈ Ts) (ty : Nat → FieldType) (hty : ∀ k, k < N → parseFieldDescriptor (T k).2.2.1 = some (ty k)) (h1 : Cond.classLink own index C ∈ Ts) (h2 : Cond.instantiable C N ∈ Ts) (h3 : Cond.initialized C ∈ Ts) (hc : vwCl[ci]? = some (C, T, N)) (hfs : ∀ j, j < N → defaultValue (ty j) = vp_V fs j) (hcells : ce + 1 ≤ R.cells) (hslots : sl + N ≤ R.slots) (d : decode cc pc = .ok (.new index, 3)) (kk : ∀ q : Nat, BK X nL (ce + 1) (sl + N) n (ws ++ [[(q, .inr (ci, fs))]]) lv (.ref q :: st)) : BK X nL ce sl pc ws lv st := by
  subst hn
  intro H lo ls hP hD hS hl
  have hRe := O.hR
  exact va_new O.hx O.hb O.hts hin ty hty O.hown (O.hts _ h1) (O.hts _ h2) (O.hts _ h3) O.hK hP hD hS O.hA hc hfs (by rw [hRe]; exact hcells) (by rw [hRe]; exact hslots) d (fun q H1 hP1 hD1 hS1 => kk q H1 lo ls (by rw [List.flatten_append]; exact hP1) (by rw [List.flatten_append]; exact hD1) hS1 hl)
theorem r_newI (O : OK X cc nL own Ts R cI cZ cQ) (n : Nat) (hn : pc + 2 = n) {k : Int32} (N' : Nat) (hw : Cond.arrayClass .int ∈ Ts) (hk : ¬ k < 0) (hN : k.toNatClampNeg = N') (hb4 : N' * 4 ≤ 536870912) (hcells : ce + 1 ≤ R.cells) (hslots : sl + N' ≤ R.slots) (d : decode cc pc = .ok (.newarray .int, 2)) (kk : ∀ q : Nat, BK X nL (ce + 1) (sl + N') n (ws ++ [[(q, .inl (cI, N', .inl (fun _ => 0)))]]) lv (.ref q :: st)) : BK X nL ce sl pc ws lv (.int k :: st) := by
  subst hn
  intro H lo ls hP hD hS hl
  have hRe := O.hR
  refine va_newa (atype := .int) (ty := .int) (a0 := (N', .inl (fun _ => 0))) O.hx O.hb (O.hts _ hw) rfl O.hK hP hD hS O.hA (fun cA => rfl) hk hN hb4 (by rw [hRe]; exact hcells) (by rw [hRe]; exact hslots) d (fun q cA H1 hK1 hP1 hD1 hS1 => ?_)
  have e1 : (xs X).vm.findClass ("[" ++ FieldType.int.toString) = some cA := (hK1.2 3 (cA, .int) rfl).2
  have e2 : (xs X).vm.findClass ("[" ++ FieldType.int.toString) = some cI := (O.hK.2 0 (cI, .int) rfl).2
  have e3 : cA = cI := Option.some.inj (e1.symm.trans e2)
  subst e3
  exact kk q H1 lo ls (by rw [List.flatten_append]; exact hP1) (by rw [List.flatten_append]; exact hD1) hS1 hl
theorem r_newZ (O : OK X cc nL own Ts R cI cZ cQ) (n : Nat) (hn : pc + 2 = n) {k : Int32} (N' : Nat) (hw : Cond.arrayClass .boolean ∈ Ts) (hk : ¬ k < 0) (hN : k.toNatClampNeg = N') (hb4 : N' * 1 ≤ 536870912) (hcells : ce + 1 ≤ R.cells) (hslots : sl + N' ≤ R.slots) (d : decode cc pc = .ok (.newarray .boolean, 2)) (kk : ∀ q : Nat, BK X nL (ce + 1) (sl + N') n (ws ++ [[(q, .inl (cZ, N', .inl (fun _ => 0)))]]) lv (.ref q :: st)) : BK X nL ce sl pc ws lv (.int k :: st) := by
  subst hn
  intro H lo ls hP hD hS hl
  have hRe := O.hR
  refine va_newa (atype := .boolean) (ty := .boolean) (a0 := (N', .inl (fun _ => 0))) O.hx O.hb (O.hts _ hw) rfl O.hK hP hD hS O.hA (fun cA => rfl) hk hN hb4 (by rw [hRe]; exact hcells) (by rw [hRe]; exact hslots) d (fun q cA H1 hK1 hP1 hD1 hS1 => ?_)
  have e1 : (xs X).vm.findClass ("[" ++ FieldType.boolean.toString) = some cA := (hK1.2 3 (cA, .boolean) rfl).2
  have e2 : (xs X).vm.findClass ("[" ++ FieldType.boolean.toString) = some cZ := (O.hK.2 1 (cZ, .boolean) rfl).2
  have e3 : cA = cZ := Option.some.inj (e1.symm.trans e2)
  subst e3
  exact kk q H1 lo ls (by rw [List.flatten_append]; exact hP1) (by rw [List.flatten_append]; exact hD1) hS1 hl
theorem r_newQ (O : OK X cc nL own Ts R cI cZ cQ) (n : Nat) (hn : pc + 3 = n) {k : Int32} {index : Nat} (N' : Nat) (hw : Cond.classLink own index "WallPartition$Walls" ∈ Ts) (hk : ¬ k < 0) (hN : k.toNatClampNeg = N') (hb4 : N' * 4 ≤ 536870912) (hcells : ce + 1 ≤ R.cells) (hslots : sl + N' ≤ R.slots) (d : decode cc pc = .ok (.anewarray index, 3)) (kk : ∀ q : Nat, BK X nL (ce + 1) (sl + N') n (ws ++ [[(q, .inl (cQ, N', .inr (.inr (.inr (.inr (fun _ => none))))))]]) lv (.ref q :: st)) : BK X nL ce sl pc ws lv (.int k :: st) := by
  subst hn
  intro H lo ls hP hD hS hl
  have hRe := O.hR
  refine va_newq O.hx O.hb O.hown (O.hts _ hw) O.hN.2.2.2.2 O.hK hP hD hS O.hA hk hN hb4 (by rw [hRe]; exact hcells) (by rw [hRe]; exact hslots) d (fun q cA H1 hK1 hP1 hD1 hS1 => ?_)
  have e1 := (hK1.2 3 (cA, .object "WallPartition$Walls") rfl).2
  have e2 := (O.hK.2 2 (cQ, .object "WallPartition$Walls") rfl).2
  obtain ⟨_, _, _, _, _, f1⟩ := e1
  obtain ⟨_, _, _, _, _, f2⟩ := e2
  have e3 : cA = cQ := Option.some.inj (f1.symm.trans f2)
  subst e3
  exact kk q H1 lo ls (by rw [List.flatten_append]; exact hP1) (by rw [List.flatten_append]; exact hD1) hS1 hl
theorem r_aast (O : OK X cc nL own Ts R cI cZ cQ) (n : Nat) (hn : pc + 1 = n) {a N v : Nat} {T : u_T} {M : Nat} {vs : List Value} {ci : Nat} {f : Nat → Option Nat} {i : Int32} (j0 k0 : Nat) {w9 : va_W} (hj0 : ws[j0]? = some w9) (ha : w9[k0]? = some (a, .inl (cQ, N, .inr (.inr (.inr (.inr f)))))) (jv : Nat) {w8 : va_W} (hjv : ws[jv]? = some w8) (hv : w8[0]? = some (v, .inr (ci, vs))) (hc : vwCl[ci]? = some ("WallPartition$Walls", T, M)) (hin : vp_in i N) (ws2 : List va_W) (hws : ws.set j0 (w9.set k0 (a, .inl (cQ, N, .inr (.inr (.inr (.inr (va_up f i.toNatClampNeg (some v)))))))) = ws2) (d : decode cc pc = .ok (.aastore, 1)) (kk : BK X nL ce sl n ws2 lv st) : BK X nL ce sl pc ws lv (.ref v :: .int i :: .ref a :: st) := by
  subst hn
  subst hws
  intro H lo ls hP hD hS hl
  exact va_astq (r := ("WallPartition$Walls", T, M)) O.hx O.hb O.hK hP hD hS _ 2 _ ci (flat_at hj0 ha) rfl (flat_at hjv hv) hc hin d (fun H1 lo1 hP1 hD1 hS1 => kk H1 lo1 ls (flat_set hj0 (List.getElem?_eq_some_iff.mp ha).1 ▸ hP1) (flat_set hj0 (List.getElem?_eq_some_iff.mp ha).1 ▸ hD1) hS1 hl)

theorem k_NI (O : OK X cc nL own Ts R cI cZ cQ) (n : Nat) (hn : pc + 3 = n) {y : MethodName} {wsy wsy' : List Cond} {rm : Room} {bytes : ByteArray} {mL index na b mc ms : Nat} {As : List Value} {e0 : va_E} {W1 : (Nat → Nat → Nat) → List va_W} {st0 : List Value} (hM : MN (xl X) y wsy rm (xD X) (TY cI cZ cQ) (.ref b :: As) [[(b, e0)]] b W1 mc ms) (G : GoodIn Ts wsy) (hw : wsy = Cond.code y bytes mL none :: wsy') (hrc : rm.cells = mc) (hrs : rm.slots = ms) (hini : Cond.initialized y.cls ∈ Ts) (hl9 : Cond.methodLink own index y ∈ Ts) (hinm : Cond.instanceMethod y ∈ Ts) (hy1 : y.name = "<init>") (hd : y.cls ≠ "java/lang/invoke/MethodHandle" ∧ y.cls ≠ "java/lang/invoke/VarHandle" ∧ (parseMethodDescriptor y.desc).map (fun d => d.parameters.length) = some na) (hR : rm.frames + 1 ≤ R.frames ∧ 8 + (mL + 11) + rm.locals ≤ R.locals) (hna : As.length = na) (hst : st0 = As.reverse ++ .ref b :: st) (hcat : (st.map fun v => v.category).sum ≤ 8) (hcs : ce + mc ≤ R.cells ∧ sl + ms ≤ R.slots) (i : Nat) (hi : ws[i]? = some [(b, e0)]) (ha : ∀ G : Nat → Nat → Nat, G 0 0 = b → ((W1 G).flatten.take 1).map Prod.fst = [b]) (d : decode cc pc = .ok (.invokespecial index, 3)) (kk : ∀ G : Nat → Nat → Nat, G 0 0 = b → BK X nL (ce + mc) (sl + ms) n (ws.set i (W1 G).flatten) lv st) : BK X nL ce sl pc ws lv st0 := by
  subst hn
  subst hst
  intro H lo ls hP hD hS hl
  have hPc : va_P (xD X) vwCl [[(b, e0)]].flatten H := fun k q hq => hP _ q (flat_at hi hq)
  have hDc : va_D (fun _ => True) [[(b, e0)]].flatten := ⟨fun i j p q hp hq _ => by
    have h1 := (List.getElem?_eq_some_iff.mp hp).1
    have h2 := (List.getElem?_eq_some_iff.mp hq).1
    simp at h1 h2
    omega, fun _ _ _ => trivial⟩
  have hFc : ∀ q, va_A [[(b, e0)]].flatten H.size q → xA X q := fun q hq => by
    rcases hq with ⟨k, e, hk⟩ | hq
    · exact hD.2 _ (q, e) (flat_at hi hk)
    · exact O.hA q (Nat.le_trans hS.1 hq)
  have hRe := O.hR
  refine va_callv (va_runI (As := As) (rest := st) ⟨O.hx, O.hb, O.hml, O.hown, O.hts⟩ (hM H.size) (cwI na O.hts G hw hrc hrs (O.hts _ hini) (O.hts _ hl9) (O.hts _ hinm) hy1 hd (by rw [hRe]; exact hR)) ⟨CP.blind, fun U hU hW => ⟨rfl, by rw [hU], by rw [hU]; exact hPc, va_K.moved hW.alike O.hK, hDc, NW.warm hW O.hN⟩⟩ rfl hna hl.1 rfl (lv_room hcat) d (by rw [hRe]; exact hcs)) hS (fun q _ h => hFc q h) hFc (fun u t H1 lo1 ht hvm hw9 hB hz1 hk1 hS1 => ?_)
  obtain ⟨Gx, hG0, rfl⟩ := hw9
  obtain ⟨hP1, hK1, hD1⟩ := hB
  rw [ht] at hP1
  have h9 := fr_afterN (wc := [(b, e0)]) hP hD hi (by simp) (ha Gx hG0) hk1 hFc hP1 hD1
  exact kk Gx hG0 H1 lo1 ls h9.1 h9.2 hS1 hl
theorem k_NNI (O : OK X cc nL own Ts R cI cZ cQ) (n : Nat) (hn : pc + 3 = n) {y : MethodName} {wsy wsy' : List Cond} {rm : Room} {bytes : ByteArray} {mL index na b mc ms : Nat} {As : List Value} {e0 : va_E} {W1 : (Nat → Nat → Nat) → List va_W} {st0 : List Value} (hM : MN (xl X) y wsy rm (xD X) (TY cI cZ cQ) (.ref b :: As) [[(b, e0)]] b W1 mc ms) (G : GoodIn Ts wsy) (hw : wsy = Cond.code y bytes mL none :: wsy') (hrc : rm.cells = mc) (hrs : rm.slots = ms) (hini : Cond.initialized y.cls ∈ Ts) {host : String} (hl9 : va_Nw (.methodLinkNest own index y host) (xs X)) (hinm : Cond.instanceMethod y ∈ Ts) (hy1 : y.name = "<init>") (hd : y.cls ≠ "java/lang/invoke/MethodHandle" ∧ y.cls ≠ "java/lang/invoke/VarHandle" ∧ (parseMethodDescriptor y.desc).map (fun d => d.parameters.length) = some na) (hR : rm.frames + 1 ≤ R.frames ∧ 8 + (mL + 11) + rm.locals ≤ R.locals) (hna : As.length = na) (hst : st0 = As.reverse ++ .ref b :: st) (hcat : (st.map fun v => v.category).sum ≤ 8) (hcs : ce + mc ≤ R.cells ∧ sl + ms ≤ R.slots) (i : Nat) (hi : ws[i]? = some [(b, e0)]) (ha : ∀ G : Nat → Nat → Nat, G 0 0 = b → ((W1 G).flatten.take 1).map Prod.fst = [b]) (d : decode cc pc = .ok (.invokespecial index, 3)) (kk : ∀ G : Nat → Nat → Nat, G 0 0 = b → BK X nL (ce + mc) (sl + ms) n (ws.set i (W1 G).flatten) lv st) : BK X nL ce sl pc ws lv st0 := by
  subst hn
  subst hst
  intro H lo ls hP hD hS hl
  have hPc : va_P (xD X) vwCl [[(b, e0)]].flatten H := fun k q hq => hP _ q (flat_at hi hq)
  have hDc : va_D (fun _ => True) [[(b, e0)]].flatten := ⟨fun i j p q hp hq _ => by
    have h1 := (List.getElem?_eq_some_iff.mp hp).1
    have h2 := (List.getElem?_eq_some_iff.mp hq).1
    simp at h1 h2
    omega, fun _ _ _ => trivial⟩
  have hFc : ∀ q, va_A [[(b, e0)]].flatten H.size q → xA X q := fun q hq => by
    rcases hq with ⟨k, e, hk⟩ | hq
    · exact hD.2 _ (q, e) (flat_at hi hk)
    · exact O.hA q (Nat.le_trans hS.1 hq)
  have hRe := O.hR
  refine va_callv (va_runIN (As := As) (rest := st) ⟨O.hx, O.hb, O.hml, O.hown, O.hts⟩ (hM H.size) ⟨va_cnB na O.hts G hw hrc hrs hl9 (O.hts _ hini) hd (by rw [hRe]; exact hR), hy1, O.hts _ hinm⟩ ⟨CP.blind, fun U hU hW => ⟨rfl, by rw [hU], by rw [hU]; exact hPc, va_K.moved hW.alike O.hK, hDc, NW.warm hW O.hN⟩⟩ rfl hna hl.1 rfl (lv_room hcat) d (by rw [hRe]; exact hcs)) hS (fun q _ h => hFc q h) hFc (fun u t H1 lo1 ht hvm hw9 hB hz1 hk1 hS1 => ?_)
  obtain ⟨Gx, hG0, rfl⟩ := hw9
  obtain ⟨hP1, hK1, hD1⟩ := hB
  rw [ht] at hP1
  have h9 := fr_afterN (wc := [(b, e0)]) hP hD hi (by simp) (ha Gx hG0) hk1 hFc hP1 hD1
  exact kk Gx hG0 H1 lo1 ls h9.1 h9.2 hS1 hl
theorem r_ws (ws2 : List va_W) (h : ws.flatten = ws2.flatten) (kk : BK X nL ce sl pc ws2 lv st) : BK X nL ce sl pc ws lv st := fun H lo ls hP hD hS hl => kk H lo ls (h ▸ hP) (h ▸ hD) hS hl
theorem r_cong {a N : Nat} {f g : Nat → Option Nat} (j0 k0 : Nat) {w9 : va_W} (hj0 : ws[j0]? = some w9) (ha : w9[k0]? = some (a, .inl (cQ, N, .inr (.inr (.inr (.inr f)))))) (hfg : ∀ j, j < N → f j = g j) (ws2 : List va_W) (hws : ws.set j0 (w9.set k0 (a, .inl (cQ, N, .inr (.inr (.inr (.inr g)))))) = ws2) (kk : BK X nL ce sl pc ws2 lv st) : BK X nL ce sl pc ws lv st := by
  subst hws
  intro H lo ls hP hD hS hl
  have hk0 := (List.getElem?_eq_some_iff.mp ha).1
  have ha2 := flat_at hj0 ha
  refine kk H lo ls (flat_set hj0 hk0 ▸ fun k q hq => ?_) (flat_set hj0 hk0 ▸ hD.set ha2) hS hl
  by_cases hk : off ws j0 + k0 = k
  · subst hk
    rw [List.getElem?_set_self', ha2] at hq
    cases hq
    have h1 := hP _ _ ha2
    show H[a]? = some (vp_cell _ _)
    rw [show H[a]? = some (vp_cell cQ (N, .inr (.inr (.inr (.inr f))))) from h1]
    simp only [vp_cell, arrV]
    congr 2
    apply Array.ext
    · simp
    · intro i h1 h2
      simp only [Array.getElem_ofFn]
      rw [hfg i (by simpa using h1)]
  · rw [List.getElem?_set_ne hk] at hq
    exact hP k q hq
end MAKE
