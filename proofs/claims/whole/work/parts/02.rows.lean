/-! ROWS: the kit's rows over ONE bundled judgement. X: all that stays the same in a run of a method; BK: from this pc, world, list of values and stack the method goes on as it must. -/
abbrev Cx : Type := Program × Launch × Env × Room × State × MethodId × Array Value × List Frame × Method × Code × va_G × (Nat → Prop) × (State → Prop)
abbrev xp (X : Cx) : Program := X.1
abbrev xl (X : Cx) : Launch := X.2.1
abbrev xe (X : Cx) : Env := X.2.2.1
abbrev xR (X : Cx) : Room := X.2.2.2.1
abbrev xs (X : Cx) : State := X.2.2.2.2.1
abbrev xm (X : Cx) : MethodId := X.2.2.2.2.2.1
abbrev xa (X : Cx) : Array Value := X.2.2.2.2.2.2.1
abbrev xb (X : Cx) : List Frame := X.2.2.2.2.2.2.2.1
abbrev xh (X : Cx) : Method := X.2.2.2.2.2.2.2.2.1
abbrev xc (X : Cx) : Code := X.2.2.2.2.2.2.2.2.2.1
abbrev xD (X : Cx) : va_G := X.2.2.2.2.2.2.2.2.2.2.1
abbrev xA (X : Cx) : Nat → Prop := X.2.2.2.2.2.2.2.2.2.2.2.1
abbrev xQ (X : Cx) : State → Prop := X.2.2.2.2.2.2.2.2.2.2.2.2
def TY (cI cZ cQ : ClassId) : List (ClassId × FieldType) := [(cI, .int), (cZ, .boolean), (cQ, .object "WallPartition$Walls")]
def off : List va_W → Nat → Nat
  | [], _ => 0
  | _ :: _, 0 => 0
  | w :: t, j + 1 => w.length + off t j
theorem flat_at : ∀ {L : List va_W} {j k : Nat} {w : va_W} {q : Nat × va_E}, L[j]? = some w → w[k]? = some q → L.flatten[off L j + k]? = some q
  | [], j, k, w, q, h, _ => by simp at h
  | v :: t, 0, k, w, q, h, hk => by
    have e : v = w := by simpa using h
    subst e
    have hl := (List.getElem?_eq_some_iff.mp hk).1
    show (v ++ t.flatten)[0 + k]? = some q
    rw [Nat.zero_add, List.getElem?_append_left hl]
    exact hk
  | v :: t, j + 1, k, w, q, h, hk => by
    have h' : t[j]? = some w := by simpa using h
    have ih := flat_at h' hk
    show (v ++ t.flatten)[v.length + off t j + k]? = some q
    rw [List.getElem?_append_right (by omega), show v.length + off t j + k - v.length = off t j + k by omega]
    exact ih
theorem flat_set : ∀ {L : List va_W} {j k : Nat} {w : va_W} {q : Nat × va_E}, L[j]? = some w → k < w.length → L.flatten.set (off L j + k) q = (L.set j (w.set k q)).flatten
  | [], j, k, w, q, h, _ => by simp at h
  | v :: t, 0, k, w, q, h, hk => by
    have e : v = w := by simpa using h
    subst e
    show (v ++ t.flatten).set (0 + k) q = v.set k q ++ t.flatten
    rw [Nat.zero_add, List.set_append_left _ _ hk]
  | v :: t, j + 1, k, w, q, h, hk => by
    have h' : t[j]? = some w := by simpa using h
    have ih := flat_set (q := q) h' hk
    show (v ++ t.flatten).set (v.length + off t j + k) q = v ++ (t.set j (w.set k q)).flatten
    rw [List.set_append_right _ _ (by omega), show v.length + off t j + k - v.length = off t j + k by omega, ih]
theorem flat_of : ∀ {L : List va_W} {i : Nat} {q : Nat × va_E}, L.flatten[i]? = some q → ∃ (a x : Nat) (w : va_W), L[a]? = some w ∧ w[x]? = some q ∧ i = off L a + x
  | [], i, q, h => by simp at h
  | v :: t, i, q, h => by
    have h1 : (v ++ t.flatten)[i]? = some q := h
    by_cases hi : i < v.length
    · rw [List.getElem?_append_left hi] at h1
      exact ⟨0, i, v, rfl, h1, by show i = 0 + i; omega⟩
    · rw [List.getElem?_append_right (by omega)] at h1
      obtain ⟨a, x, w, e1, e2, e3⟩ := flat_of h1
      exact ⟨a + 1, x, w, by simpa using e1, e2, by show i = v.length + off t a + x; omega⟩
theorem flat_inj : ∀ {L : List va_W} {a b x y : Nat} {w v : va_W}, L[a]? = some w → x < w.length → L[b]? = some v → y < v.length → off L a + x = off L b + y → a = b ∧ x = y
  | [], a, b, x, y, w, v, h, _, _, _, _ => by simp at h
  | u :: t, 0, 0, x, y, w, v, h, hx, h2, hy, e => ⟨rfl, by simpa [off] using e⟩
  | u :: t, 0, b + 1, x, y, w, v, h, hx, h2, hy, e => by
    have e1 : u = w := by simpa using h
    subst e1
    have e2 : 0 + x = u.length + off t b + y := e
    omega
  | u :: t, a + 1, 0, x, y, w, v, h, hx, h2, hy, e => by
    have e1 : u = v := by simpa using h2
    subst e1
    have e2 : u.length + off t a + x = 0 + y := e
    omega
  | u :: t, a + 1, b + 1, x, y, w, v, h, hx, h2, hy, e => by
    have e2 : u.length + off t a + x = u.length + off t b + y := e
    obtain ⟨r1, r2⟩ := flat_inj (L := t) (by simpa using h) hx (by simpa using h2) hy (by omega)
    exact ⟨by omega, r2⟩
def BK (X : Cx) (nL ce sl pc : Nat) (ws : List va_W) (lv : List (Nat × Value)) (st : List Value) : Prop := ∀ (H : Heap) (lo : List Loc) (ls : Array Slot), va_P (xD X) vwCl ws.flatten H → va_D (xA X) ws.flatten → va_S (xA X) (xs X).heap H lo → lv_has ls nL lv → W (xp X) (xl X) (xe X) (xR X) (xs X) (xm X) (xa X) (xb X) (xh X) (xc X) H lo ce sl (xQ X) (F0 (xm X) pc ls st)
def NW (U : State) : Prop := va_Nw (.methodLinkNest RX9 11 yX8_init "WallPartition") U ∧ va_Nw (.methodLinkNest RX9 31 yX7_init "WallPartition") U ∧ va_Nw (.methodLinkNest RX2 15 yX8_init "WallPartition") U ∧ va_Nw (.methodLinkNest RX4 87 yX9_greatestDivisor "WallPartition") U ∧ va_AO "WallPartition$Walls" U
theorem NW.warm {s U : State} (hW : s.WarmedH U.vm) (h : NW s) : NW U := ⟨va_Nw.warmM hW h.1, va_Nw.warmM hW h.2.1, va_Nw.warmM hW h.2.2.1, va_Nw.warmM hW h.2.2.2.1, h.2.2.2.2.moved hW.alike⟩
theorem NW.same {u U : State} (e : u.vm = U.vm) (h : NW u) : NW U := ⟨va_Nw.same rfl e h.1, va_Nw.same rfl e h.2.1, va_Nw.same rfl e h.2.2.1, va_Nw.same rfl e h.2.2.2.1, h.2.2.2.2.moved (e ▸ Vm.Alike.refl u.vm)⟩
def OK (X : Cx) (cc : ByteArray) (nL : Nat) (own : String) (Ts : List Cond) (R : Room) (cI cZ cQ : ClassId) : Prop := (xp X).tables.exec = Jvm.exec ∧ (xc X).code = cc ∧ (xc X).maxLocals = nL ∧ (xs X).vm.findClass own = some (xm X).cls ∧ (∀ w ∈ Ts, w.before (xa X) (xs X) = true) ∧ va_K (xD X) vwCl (TY cI cZ cQ) (xs X) ∧ (∀ q : Nat, (xs X).heap.size ≤ q → xA X q) ∧ xR X = R ∧ (xh X).locks = false ∧ NW (xs X)
section ROWS
variable {X : Cx} {cc : ByteArray} {nL ce sl pc : Nat} {own : String} {Ts : List Cond} {R : Room} {cI cZ cQ : ClassId} {ws : List va_W} {lv : List (Nat × Value)} {st : List Value}
theorem OK.hx (O : OK X cc nL own Ts R cI cZ cQ) : (xp X).tables.exec = Jvm.exec := O.1
theorem OK.hb (O : OK X cc nL own Ts R cI cZ cQ) : (xc X).code = cc := O.2.1
theorem OK.hml (O : OK X cc nL own Ts R cI cZ cQ) : (xc X).maxLocals = nL := O.2.2.1
theorem OK.hown (O : OK X cc nL own Ts R cI cZ cQ) : (xs X).vm.findClass own = some (xm X).cls := O.2.2.2.1
theorem OK.hts (O : OK X cc nL own Ts R cI cZ cQ) : ∀ w ∈ Ts, w.before (xa X) (xs X) = true := O.2.2.2.2.1
theorem OK.hK (O : OK X cc nL own Ts R cI cZ cQ) : va_K (xD X) vwCl (TY cI cZ cQ) (xs X) := O.2.2.2.2.2.1
theorem OK.hA (O : OK X cc nL own Ts R cI cZ cQ) : ∀ q : Nat, (xs X).heap.size ≤ q → xA X q := O.2.2.2.2.2.2.1
theorem OK.hR (O : OK X cc nL own Ts R cI cZ cQ) : xR X = R := O.2.2.2.2.2.2.2.1
theorem OK.hL (O : OK X cc nL own Ts R cI cZ cQ) : (xh X).locks = false := O.2.2.2.2.2.2.2.2.1
theorem OK.hN (O : OK X cc nL own Ts R cI cZ cQ) : NW (xs X) := O.2.2.2.2.2.2.2.2.2

theorem r_ild_n (O : OK X cc nL own Ts R cI cZ cQ) (n : Nat) (hn : pc + 1 = n) {k : Fin 4} {x : Int32} (j : Nat) (hj : lv[j]? = some ((k : Nat), .int x)) (d : decode cc pc = .ok (.iload_n k, 1)) (kk : BK X nL ce sl n ws lv (.int x :: st)) : BK X nL ce sl pc ws lv (st) := by
  subst hn
  intro H lo ls hP hD hS hl
  exact lv_iload_n O.hx O.hb d rfl (lv_at hl j hj) (kk H lo ls hP hD hS hl)
theorem r_ild (O : OK X cc nL own Ts R cI cZ cQ) (n : Nat) (hn : pc + 2 = n) {k : Nat} {x : Int32} (j : Nat) (hj : lv[j]? = some (k, .int x)) (d : decode cc pc = .ok (.iload k, 2)) (kk : BK X nL ce sl n ws lv (.int x :: st)) : BK X nL ce sl pc ws lv (st) := by
  subst hn
  intro H lo ls hP hD hS hl
  exact lv_iload O.hx O.hb d (lv_at hl j hj) (kk H lo ls hP hD hS hl)
theorem r_lld_n (O : OK X cc nL own Ts R cI cZ cQ) (n : Nat) (hn : pc + 1 = n) {k : Fin 4} {x : Int64} (j : Nat) (hj : lv[j]? = some ((k : Nat), .long x)) (d : decode cc pc = .ok (.lload_n k, 1)) (kk : BK X nL ce sl n ws lv (.long x :: st)) : BK X nL ce sl pc ws lv (st) := by
  subst hn
  intro H lo ls hP hD hS hl
  exact lv_lload_n O.hx O.hb d rfl (lv_at hl j hj) (kk H lo ls hP hD hS hl)
theorem r_lld (O : OK X cc nL own Ts R cI cZ cQ) (n : Nat) (hn : pc + 2 = n) {k : Nat} {x : Int64} (j : Nat) (hj : lv[j]? = some (k, .long x)) (d : decode cc pc = .ok (.lload k, 2)) (kk : BK X nL ce sl n ws lv (.long x :: st)) : BK X nL ce sl pc ws lv (st) := by
  subst hn
  intro H lo ls hP hD hS hl
  exact lv_lload O.hx O.hb d (lv_at hl j hj) (kk H lo ls hP hD hS hl)
theorem r_dld_n (O : OK X cc nL own Ts R cI cZ cQ) (n : Nat) (hn : pc + 1 = n) {k : Fin 4} {x : UInt64} (j : Nat) (hj : lv[j]? = some ((k : Nat), .double x)) (d : decode cc pc = .ok (.dload_n k, 1)) (kk : BK X nL ce sl n ws lv (.double x :: st)) : BK X nL ce sl pc ws lv (st) := by
  subst hn
  intro H lo ls hP hD hS hl
  exact lv_dload_n O.hx O.hb d rfl (lv_at hl j hj) (kk H lo ls hP hD hS hl)
theorem r_dld (O : OK X cc nL own Ts R cI cZ cQ) (n : Nat) (hn : pc + 2 = n) {k : Nat} {x : UInt64} (j : Nat) (hj : lv[j]? = some (k, .double x)) (d : decode cc pc = .ok (.dload k, 2)) (kk : BK X nL ce sl n ws lv (.double x :: st)) : BK X nL ce sl pc ws lv (st) := by
  subst hn
  intro H lo ls hP hD hS hl
  exact lv_dload O.hx O.hb d (lv_at hl j hj) (kk H lo ls hP hD hS hl)
theorem r_ald_n (O : OK X cc nL own Ts R cI cZ cQ) (n : Nat) (hn : pc + 1 = n) {k : Fin 4} {x : Nat} (j : Nat) (hj : lv[j]? = some ((k : Nat), .ref x)) (d : decode cc pc = .ok (.aload_n k, 1)) (kk : BK X nL ce sl n ws lv (.ref x :: st)) : BK X nL ce sl pc ws lv (st) := by
  subst hn
  intro H lo ls hP hD hS hl
  exact lv_aload_n O.hx O.hb d rfl (lv_at hl j hj) (kk H lo ls hP hD hS hl)
theorem r_ald (O : OK X cc nL own Ts R cI cZ cQ) (n : Nat) (hn : pc + 2 = n) {k : Nat} {x : Nat} (j : Nat) (hj : lv[j]? = some (k, .ref x)) (d : decode cc pc = .ok (.aload k, 2)) (kk : BK X nL ce sl n ws lv (.ref x :: st)) : BK X nL ce sl pc ws lv (st) := by
  subst hn
  intro H lo ls hP hD hS hl
  exact lv_aload O.hx O.hb d (lv_at hl j hj) (kk H lo ls hP hD hS hl)
theorem r_ic (O : OK X cc nL own Ts R cI cZ cQ) (n : Nat) (hn : pc + 1 = n) {k : Int} (v : Int32) (hv : Int32.ofInt k = v) (d : decode cc pc = .ok (.iconst k, 1)) (kk : BK X nL ce sl n ws lv (.int v :: st)) : BK X nL ce sl pc ws lv (st) := by
  subst hn
  intro H lo ls hP hD hS hl
  exact lv_iconst O.hx O.hb d hv (kk H lo ls hP hD hS hl)
theorem r_bi (O : OK X cc nL own Ts R cI cZ cQ) (n : Nat) (hn : pc + 2 = n) {k : Int} (v : Int32) (hv : (Int8.ofInt k).toInt32 = v) (d : decode cc pc = .ok (.bipush k, 2)) (kk : BK X nL ce sl n ws lv (.int v :: st)) : BK X nL ce sl pc ws lv (st) := by
  subst hn
  intro H lo ls hP hD hS hl
  exact lv_bipush O.hx O.hb d hv (kk H lo ls hP hD hS hl)
theorem r_si (O : OK X cc nL own Ts R cI cZ cQ) (n : Nat) (hn : pc + 3 = n) {k : Int} (v : Int32) (hv : (Int16.ofInt k).toInt32 = v) (d : decode cc pc = .ok (.sipush k, 3)) (kk : BK X nL ce sl n ws lv (.int v :: st)) : BK X nL ce sl pc ws lv (st) := by
  subst hn
  intro H lo ls hP hD hS hl
  exact lv_sipush O.hx O.hb d hv (kk H lo ls hP hD hS hl)
theorem r_lc (O : OK X cc nL own Ts R cI cZ cQ) (n : Nat) (hn : pc + 1 = n) {k : Fin 2} (v : Int64) (hv : Int64.ofNat (k : Nat) = v) (d : decode cc pc = .ok (.lconst k, 1)) (kk : BK X nL ce sl n ws lv (.long v :: st)) : BK X nL ce sl pc ws lv (st) := by
  subst hn
  intro H lo ls hP hD hS hl
  exact lv_lconst O.hx O.hb d hv (kk H lo ls hP hD hS hl)
theorem r_dc0 (O : OK X cc nL own Ts R cI cZ cQ) (n : Nat) (hn : pc + 1 = n)  (d : decode cc pc = .ok (.dconst 0, 1)) (kk : BK X nL ce sl n ws lv (.double 0 :: st)) : BK X nL ce sl pc ws lv (st) := by
  subst hn
  intro H lo ls hP hD hS hl
  exact lv_dconst0 O.hx O.hb d (kk H lo ls hP hD hS hl)
theorem r_dc1 (O : OK X cc nL own Ts R cI cZ cQ) (n : Nat) (hn : pc + 1 = n)  (d : decode cc pc = .ok (.dconst 1, 1)) (kk : BK X nL ce sl n ws lv (.double 4607182418800017408 :: st)) : BK X nL ce sl pc ws lv (st) := by
  subst hn
  intro H lo ls hP hD hS hl
  exact lv_dconst1 O.hx O.hb d (kk H lo ls hP hD hS hl)
theorem r_ldcl (O : OK X cc nL own Ts R cI cZ cQ) (n : Nat) (hn : pc + 3 = n) {k : Nat} {v : Int64} (hw : Cond.constantLong own k v ∈ Ts) (d : decode cc pc = .ok (.ldc2_w k, 3)) (kk : BK X nL ce sl n ws lv (.long v :: st)) : BK X nL ce sl pc ws lv (st) := by
  subst hn
  intro H lo ls hP hD hS hl
  exact lv_ldc2 O.hx O.hb O.hown (O.hts _ hw) d (kk H lo ls hP hD hS hl)
theorem r_ldcd (O : OK X cc nL own Ts R cI cZ cQ) (n : Nat) (hn : pc + 3 = n) {k : Nat} {v : UInt64} (hw : Cond.constantDouble own k v ∈ Ts) (d : decode cc pc = .ok (.ldc2_w k, 3)) (kk : BK X nL ce sl n ws lv (.double v :: st)) : BK X nL ce sl pc ws lv (st) := by
  subst hn
  intro H lo ls hP hD hS hl
  exact lv_ldc2d O.hx O.hb O.hown (O.hts _ hw) d (kk H lo ls hP hD hS hl)
theorem r_null (O : OK X cc nL own Ts R cI cZ cQ) (n : Nat) (hn : pc + 1 = n)  (d : decode cc pc = .ok (.aconst_null, 1)) (kk : BK X nL ce sl n ws lv (.null :: st)) : BK X nL ce sl pc ws lv (st) := by
  subst hn
  intro H lo ls hP hD hS hl
  exact lv_null O.hx O.hb d (kk H lo ls hP hD hS hl)
theorem r_iadd (O : OK X cc nL own Ts R cI cZ cQ) (n : Nat) (hn : pc + 1 = n) {x y : Int32} (d : decode cc pc = .ok (.iadd, 1)) (kk : BK X nL ce sl n ws lv (.int (x + y) :: st)) : BK X nL ce sl pc ws lv (.int y :: .int x :: st) := by
  subst hn
  intro H lo ls hP hD hS hl
  exact lv_iadd O.hx O.hb d (kk H lo ls hP hD hS hl)
theorem r_isub (O : OK X cc nL own Ts R cI cZ cQ) (n : Nat) (hn : pc + 1 = n) {x y : Int32} (d : decode cc pc = .ok (.isub, 1)) (kk : BK X nL ce sl n ws lv (.int (x - y) :: st)) : BK X nL ce sl pc ws lv (.int y :: .int x :: st) := by
  subst hn
  intro H lo ls hP hD hS hl
  exact lv_isub O.hx O.hb d (kk H lo ls hP hD hS hl)
theorem r_imul (O : OK X cc nL own Ts R cI cZ cQ) (n : Nat) (hn : pc + 1 = n) {x y : Int32} (d : decode cc pc = .ok (.imul, 1)) (kk : BK X nL ce sl n ws lv (.int (x * y) :: st)) : BK X nL ce sl pc ws lv (.int y :: .int x :: st) := by
  subst hn
  intro H lo ls hP hD hS hl
  exact lv_imul O.hx O.hb d (kk H lo ls hP hD hS hl)
theorem r_iand (O : OK X cc nL own Ts R cI cZ cQ) (n : Nat) (hn : pc + 1 = n) {x y : Int32} (d : decode cc pc = .ok (.iand, 1)) (kk : BK X nL ce sl n ws lv (.int (x &&& y) :: st)) : BK X nL ce sl pc ws lv (.int y :: .int x :: st) := by
  subst hn
  intro H lo ls hP hD hS hl
  exact lv_iand O.hx O.hb d (kk H lo ls hP hD hS hl)
theorem r_ishr (O : OK X cc nL own Ts R cI cZ cQ) (n : Nat) (hn : pc + 1 = n) {x y : Int32} (d : decode cc pc = .ok (.ishr, 1)) (kk : BK X nL ce sl n ws lv (.int (x >>> (y &&& 31)) :: st)) : BK X nL ce sl pc ws lv (.int y :: .int x :: st) := by
  subst hn
  intro H lo ls hP hD hS hl
  exact lv_ishr O.hx O.hb d (kk H lo ls hP hD hS hl)
theorem r_ladd (O : OK X cc nL own Ts R cI cZ cQ) (n : Nat) (hn : pc + 1 = n) {x y : Int64} (d : decode cc pc = .ok (.ladd, 1)) (kk : BK X nL ce sl n ws lv (.long (x + y) :: st)) : BK X nL ce sl pc ws lv (.long y :: .long x :: st) := by
  subst hn
  intro H lo ls hP hD hS hl
  exact lv_ladd O.hx O.hb d (kk H lo ls hP hD hS hl)
theorem r_lsub (O : OK X cc nL own Ts R cI cZ cQ) (n : Nat) (hn : pc + 1 = n) {x y : Int64} (d : decode cc pc = .ok (.lsub, 1)) (kk : BK X nL ce sl n ws lv (.long (x - y) :: st)) : BK X nL ce sl pc ws lv (.long y :: .long x :: st) := by
  subst hn
  intro H lo ls hP hD hS hl
  exact lv_lsub O.hx O.hb d (kk H lo ls hP hD hS hl)
theorem r_lmul (O : OK X cc nL own Ts R cI cZ cQ) (n : Nat) (hn : pc + 1 = n) {x y : Int64} (d : decode cc pc = .ok (.lmul, 1)) (kk : BK X nL ce sl n ws lv (.long (x * y) :: st)) : BK X nL ce sl pc ws lv (.long y :: .long x :: st) := by
  subst hn
  intro H lo ls hP hD hS hl
  exact lv_lmul O.hx O.hb d (kk H lo ls hP hD hS hl)
theorem r_idiv (O : OK X cc nL own Ts R cI cZ cQ) (n : Nat) (hn : pc + 1 = n) {x y : Int32} (d : decode cc pc = .ok (.idiv, 1)) (hne : ¬ y = 0) (kk : BK X nL ce sl n ws lv (.int (x / y) :: st)) : BK X nL ce sl pc ws lv (.int y :: .int x :: st) := by
  subst hn
  intro H lo ls hP hD hS hl
  exact lv_idiv O.hx O.hb d hne (kk H lo ls hP hD hS hl)
theorem r_irem (O : OK X cc nL own Ts R cI cZ cQ) (n : Nat) (hn : pc + 1 = n) {x y : Int32} (d : decode cc pc = .ok (.irem, 1)) (hne : ¬ y = 0) (kk : BK X nL ce sl n ws lv (.int (x - x / y * y) :: st)) : BK X nL ce sl pc ws lv (.int y :: .int x :: st) := by
  subst hn
  intro H lo ls hP hD hS hl
  exact lv_irem O.hx O.hb d hne (kk H lo ls hP hD hS hl)
theorem r_ldiv (O : OK X cc nL own Ts R cI cZ cQ) (n : Nat) (hn : pc + 1 = n) {x y : Int64} (d : decode cc pc = .ok (.ldiv, 1)) (hne : ¬ y = 0) (kk : BK X nL ce sl n ws lv (.long (x / y) :: st)) : BK X nL ce sl pc ws lv (.long y :: .long x :: st) := by
  subst hn
  intro H lo ls hP hD hS hl
  exact lv_ldiv O.hx O.hb d hne (kk H lo ls hP hD hS hl)
theorem r_lrem (O : OK X cc nL own Ts R cI cZ cQ) (n : Nat) (hn : pc + 1 = n) {x y : Int64} (d : decode cc pc = .ok (.lrem, 1)) (hne : ¬ y = 0) (kk : BK X nL ce sl n ws lv (.long (x - x / y * y) :: st)) : BK X nL ce sl pc ws lv (.long y :: .long x :: st) := by
  subst hn
  intro H lo ls hP hD hS hl
  exact lv_lrem O.hx O.hb d hne (kk H lo ls hP hD hS hl)
theorem r_ineg (O : OK X cc nL own Ts R cI cZ cQ) (n : Nat) (hn : pc + 1 = n) {x : Int32} (d : decode cc pc = .ok (.ineg, 1)) (kk : BK X nL ce sl n ws lv (.int (-x) :: st)) : BK X nL ce sl pc ws lv (.int x :: st) := by
  subst hn
  intro H lo ls hP hD hS hl
  exact lv_ineg O.hx O.hb d (kk H lo ls hP hD hS hl)
theorem r_lneg (O : OK X cc nL own Ts R cI cZ cQ) (n : Nat) (hn : pc + 1 = n) {x : Int64} (d : decode cc pc = .ok (.lneg, 1)) (kk : BK X nL ce sl n ws lv (.long (-x) :: st)) : BK X nL ce sl pc ws lv (.long x :: st) := by
  subst hn
  intro H lo ls hP hD hS hl
  exact lv_lneg O.hx O.hb d (kk H lo ls hP hD hS hl)
theorem r_i2l (O : OK X cc nL own Ts R cI cZ cQ) (n : Nat) (hn : pc + 1 = n) {x : Int32} (d : decode cc pc = .ok (.i2l, 1)) (kk : BK X nL ce sl n ws lv (.long x.toInt64 :: st)) : BK X nL ce sl pc ws lv (.int x :: st) := by
  subst hn
  intro H lo ls hP hD hS hl
  exact lv_i2l O.hx O.hb d rfl (kk H lo ls hP hD hS hl)
theorem r_l2i (O : OK X cc nL own Ts R cI cZ cQ) (n : Nat) (hn : pc + 1 = n) {x : Int64} (d : decode cc pc = .ok (.l2i, 1)) (kk : BK X nL ce sl n ws lv (.int x.toInt32 :: st)) : BK X nL ce sl pc ws lv (.long x :: st) := by
  subst hn
  intro H lo ls hP hD hS hl
  exact lv_l2i O.hx O.hb d rfl (kk H lo ls hP hD hS hl)
theorem r_i2d (O : OK X cc nL own Ts R cI cZ cQ) (n : Nat) (hn : pc + 1 = n) {x : Int32} (d : decode cc pc = .ok (.i2d, 1)) (kk : BK X nL ce sl n ws lv (.double (FP.i2d x) :: st)) : BK X nL ce sl pc ws lv (.int x :: st) := by
  subst hn
  intro H lo ls hP hD hS hl
  exact lv_i2d O.hx O.hb d (kk H lo ls hP hD hS hl)
theorem r_l2d (O : OK X cc nL own Ts R cI cZ cQ) (n : Nat) (hn : pc + 1 = n) {x : Int64} (d : decode cc pc = .ok (.l2d, 1)) (kk : BK X nL ce sl n ws lv (.double (FP.l2d x) :: st)) : BK X nL ce sl pc ws lv (.long x :: st) := by
  subst hn
  intro H lo ls hP hD hS hl
  exact lv_l2d O.hx O.hb d (kk H lo ls hP hD hS hl)
theorem r_ddiv (O : OK X cc nL own Ts R cI cZ cQ) (n : Nat) (hn : pc + 1 = n) {x y : UInt64} (d : decode cc pc = .ok (.ddiv, 1)) (hne : vf_n64 (FP.ddiv x y)) (kk : BK X nL ce sl n ws lv (.double (FP.ddiv x y) :: st)) : BK X nL ce sl pc ws lv (.double y :: .double x :: st) := by
  subst hn
  intro H lo ls hP hD hS hl
  exact lv_ddiv O.hx O.hb d hne (kk H lo ls hP hD hS hl)
theorem r_dmul (O : OK X cc nL own Ts R cI cZ cQ) (n : Nat) (hn : pc + 1 = n) {x y : UInt64} (d : decode cc pc = .ok (.dmul, 1)) (hne : vf_n64 (FP.dmul x y)) (kk : BK X nL ce sl n ws lv (.double (FP.dmul x y) :: st)) : BK X nL ce sl pc ws lv (.double y :: .double x :: st) := by
  subst hn
  intro H lo ls hP hD hS hl
  exact lv_dmul O.hx O.hb d hne (kk H lo ls hP hD hS hl)
theorem r_dsub (O : OK X cc nL own Ts R cI cZ cQ) (n : Nat) (hn : pc + 1 = n) {x y : UInt64} (d : decode cc pc = .ok (.dsub, 1)) (hne : vf_n64 (FP.dsub x y)) (kk : BK X nL ce sl n ws lv (.double (FP.dsub x y) :: st)) : BK X nL ce sl pc ws lv (.double y :: .double x :: st) := by
  subst hn
  intro H lo ls hP hD hS hl
  exact lv_dsub O.hx O.hb d hne (kk H lo ls hP hD hS hl)
theorem r_dcmp (O : OK X cc nL own Ts R cI cZ cQ) (n : Nat) (hn : pc + 1 = n) {x y : UInt64} {op : CmpOp} (d : decode cc pc = .ok (.dcmp op, 1)) (kk : BK X nL ce sl n ws lv (.int (Op.cmpValue (FP.dcmp x y) op) :: st)) : BK X nL ce sl pc ws lv (.double y :: .double x :: st) := by
  subst hn
  intro H lo ls hP hD hS hl
  exact lv_dcmp O.hx O.hb d (kk H lo ls hP hD hS hl)
theorem r_lcmp (O : OK X cc nL own Ts R cI cZ cQ) (n : Nat) (hn : pc + 1 = n) {x y : Int64} (d : decode cc pc = .ok (.lcmp, 1)) (kk : BK X nL ce sl n ws lv (.int (lg_cmp x y) :: st)) : BK X nL ce sl pc ws lv (.long y :: .long x :: st) := by
  subst hn
  intro H lo ls hP hD hS hl
  exact W.lcmp O.hx O.hb d (kk H lo ls hP hD hS hl)
theorem r_dup (O : OK X cc nL own Ts R cI cZ cQ) (n : Nat) (hn : pc + 1 = n) {v : Value} (d : decode cc pc = .ok (.dup, 1)) (hv : v.category = 1) (kk : BK X nL ce sl n ws lv (v :: v :: st)) : BK X nL ce sl pc ws lv (v :: st) := by
  subst hn
  intro H lo ls hP hD hS hl
  exact lv_dup O.hx O.hb d hv (kk H lo ls hP hD hS hl)
theorem r_dup2 (O : OK X cc nL own Ts R cI cZ cQ) (n : Nat) (hn : pc + 1 = n) {v w : Value} (d : decode cc pc = .ok (.dup2, 1)) (hv : v.category = 1) (hw : w.category = 1) (kk : BK X nL ce sl n ws lv (v :: w :: v :: w :: st)) : BK X nL ce sl pc ws lv (v :: w :: st) := by
  subst hn
  intro H lo ls hP hD hS hl
  exact lv_dup2_11 O.hx O.hb d hv hw (kk H lo ls hP hD hS hl)
theorem r_goto (O : OK X cc nL own Ts R cI cZ cQ) (n : Nat) {off : Int} (d : decode cc pc = .ok (.goto off, 3)) (ht : (pc : Int) + off = (n : Int)) (kk : BK X nL ce sl n ws lv st) : BK X nL ce sl pc ws lv st := by
  intro H lo ls hP hD hS hl
  exact lv_goto O.hx O.hb d ht (kk H lo ls hP hD hS hl)
theorem r_ist_n (O : OK X cc nL own Ts R cI cZ cQ) (n : Nat) (hn : pc + 1 = n) {k0 : Fin 4} {k : Nat} (hk : (k0 : Nat) = k) {x : Int32} (lv2 : List (Nat × Value)) (d : decode cc pc = .ok (.istore_n k0, 1)) (hb2 : k < nL) (hl2 : (k, Value.int x) :: lv.filter (fun q => !(q.1 == k) && !(q.1 + 1 == k && q.2.category == 2)) = lv2) (kk : BK X nL ce sl n ws lv2 st) : BK X nL ce sl pc ws lv (.int x :: st) := by
  subst hn
  intro H lo ls hP hD hS hl
  exact lv_istore_n O.hx O.hb d hk hl hb2 hl2 (fun ls2 h2 => kk H lo ls2 hP hD hS h2)
theorem r_ist (O : OK X cc nL own Ts R cI cZ cQ) (n : Nat) (hn : pc + 2 = n) {k : Nat} {x : Int32} (lv2 : List (Nat × Value)) (d : decode cc pc = .ok (.istore k, 2)) (hb2 : k < nL) (hl2 : (k, Value.int x) :: lv.filter (fun q => !(q.1 == k) && !(q.1 + 1 == k && q.2.category == 2)) = lv2) (kk : BK X nL ce sl n ws lv2 st) : BK X nL ce sl pc ws lv (.int x :: st) := by
  subst hn
  intro H lo ls hP hD hS hl
  exact lv_istore O.hx O.hb d hl hb2 hl2 (fun ls2 h2 => kk H lo ls2 hP hD hS h2)
theorem r_lst_n (O : OK X cc nL own Ts R cI cZ cQ) (n : Nat) (hn : pc + 1 = n) {k0 : Fin 4} {k : Nat} (hk : (k0 : Nat) = k) {x : Int64} (lv2 : List (Nat × Value)) (d : decode cc pc = .ok (.lstore_n k0, 1)) (hb2 : k + 1 < nL) (hl2 : (k, Value.long x) :: lv.filter (fun q => !(q.1 == k) && (!(q.1 == k + 1) && !(q.1 + 1 == k && q.2.category == 2))) = lv2) (kk : BK X nL ce sl n ws lv2 st) : BK X nL ce sl pc ws lv (.long x :: st) := by
  subst hn
  intro H lo ls hP hD hS hl
  exact lv_lstore_n O.hx O.hb d hk hl hb2 hl2 (fun ls2 h2 => kk H lo ls2 hP hD hS h2)
theorem r_lst (O : OK X cc nL own Ts R cI cZ cQ) (n : Nat) (hn : pc + 2 = n) {k : Nat} {x : Int64} (lv2 : List (Nat × Value)) (d : decode cc pc = .ok (.lstore k, 2)) (hb2 : k + 1 < nL) (hl2 : (k, Value.long x) :: lv.filter (fun q => !(q.1 == k) && (!(q.1 == k + 1) && !(q.1 + 1 == k && q.2.category == 2))) = lv2) (kk : BK X nL ce sl n ws lv2 st) : BK X nL ce sl pc ws lv (.long x :: st) := by
  subst hn
  intro H lo ls hP hD hS hl
  exact lv_lstore O.hx O.hb d hl hb2 hl2 (fun ls2 h2 => kk H lo ls2 hP hD hS h2)
theorem r_dst_n (O : OK X cc nL own Ts R cI cZ cQ) (n : Nat) (hn : pc + 1 = n) {k0 : Fin 4} {k : Nat} (hk : (k0 : Nat) = k) {x : UInt64} (lv2 : List (Nat × Value)) (d : decode cc pc = .ok (.dstore_n k0, 1)) (hb2 : k + 1 < nL) (hl2 : (k, Value.double x) :: lv.filter (fun q => !(q.1 == k) && (!(q.1 == k + 1) && !(q.1 + 1 == k && q.2.category == 2))) = lv2) (kk : BK X nL ce sl n ws lv2 st) : BK X nL ce sl pc ws lv (.double x :: st) := by
  subst hn
  intro H lo ls hP hD hS hl
  exact lv_dstore_n O.hx O.hb d hk hl hb2 hl2 (fun ls2 h2 => kk H lo ls2 hP hD hS h2)
theorem r_dst (O : OK X cc nL own Ts R cI cZ cQ) (n : Nat) (hn : pc + 2 = n) {k : Nat} {x : UInt64} (lv2 : List (Nat × Value)) (d : decode cc pc = .ok (.dstore k, 2)) (hb2 : k + 1 < nL) (hl2 : (k, Value.double x) :: lv.filter (fun q => !(q.1 == k) && (!(q.1 == k + 1) && !(q.1 + 1 == k && q.2.category == 2))) = lv2) (kk : BK X nL ce sl n ws lv2 st) : BK X nL ce sl pc ws lv (.double x :: st) := by
  subst hn
  intro H lo ls hP hD hS hl
  exact lv_dstore O.hx O.hb d hl hb2 hl2 (fun ls2 h2 => kk H lo ls2 hP hD hS h2)
theorem r_ast_n (O : OK X cc nL own Ts R cI cZ cQ) (n : Nat) (hn : pc + 1 = n) {k0 : Fin 4} {k : Nat} (hk : (k0 : Nat) = k) {x : Nat} (lv2 : List (Nat × Value)) (d : decode cc pc = .ok (.astore_n k0, 1)) (hb2 : k < nL) (hl2 : (k, Value.ref x) :: lv.filter (fun q => !(q.1 == k) && !(q.1 + 1 == k && q.2.category == 2)) = lv2) (kk : BK X nL ce sl n ws lv2 st) : BK X nL ce sl pc ws lv (.ref x :: st) := by
  subst hn
  intro H lo ls hP hD hS hl
  exact lv_astore_n O.hx O.hb d hk hl hb2 hl2 (fun ls2 h2 => kk H lo ls2 hP hD hS h2)
theorem r_ast (O : OK X cc nL own Ts R cI cZ cQ) (n : Nat) (hn : pc + 2 = n) {k : Nat} {x : Nat} (lv2 : List (Nat × Value)) (d : decode cc pc = .ok (.astore k, 2)) (hb2 : k < nL) (hl2 : (k, Value.ref x) :: lv.filter (fun q => !(q.1 == k) && !(q.1 + 1 == k && q.2.category == 2)) = lv2) (kk : BK X nL ce sl n ws lv2 st) : BK X nL ce sl pc ws lv (.ref x :: st) := by
  subst hn
  intro H lo ls hP hD hS hl
  exact lv_astore O.hx O.hb d hl hb2 hl2 (fun ls2 h2 => kk H lo ls2 hP hD hS h2)
theorem r_iinc (O : OK X cc nL own Ts R cI cZ cQ) (n : Nat) (hn : pc + 3 = n) {k : Nat} {a : Int} {x : Int32} (v : Int32) (j : Nat) (hj : lv[j]? = some (k, .int x)) (hv : x + Int32.ofInt a = v) (lv2 : List (Nat × Value)) (d : decode cc pc = .ok (.iinc k a, 3)) (hb2 : k < nL) (hl2 : (k, Value.int v) :: lv.filter (fun q => !(q.1 == k) && !(q.1 + 1 == k && q.2.category == 2)) = lv2) (kk : BK X nL ce sl n ws lv2 st) : BK X nL ce sl pc ws lv st := by
  subst hn
  intro H lo ls hP hD hS hl
  exact lv_iinc O.hx O.hb d hl hj hv hb2 hl2 (fun ls2 h2 => kk H lo ls2 hP hD hS h2)
theorem r_lv (ks : List Nat) {lv2 : List (Nat × Value)} (h : lv_pick lv ks = lv2) (kk : BK X nL ce sl pc ws lv2 st) : BK X nL ce sl pc ws lv st := fun H lo ls hP hD hS hl => kk H lo ls hP hD hS (lv_sub hl ks h)
theorem r_aldN_n (O : OK X cc nL own Ts R cI cZ cQ) (n : Nat) (hn : pc + 1 = n) {k : Fin 4} (j : Nat) (hj : lv[j]? = some ((k : Nat), .null)) (d : decode cc pc = .ok (.aload_n k, 1)) (kk : BK X nL ce sl n ws lv (.null :: st)) : BK X nL ce sl pc ws lv st := by
  subst hn
  intro H lo ls hP hD hS hl
  exact lv_aload_nN O.hx O.hb d rfl (lv_at hl j hj) (kk H lo ls hP hD hS hl)
theorem r_astN_n (O : OK X cc nL own Ts R cI cZ cQ) (n : Nat) (hn : pc + 1 = n) {k0 : Fin 4} {k : Nat} (hk : (k0 : Nat) = k) (lv2 : List (Nat × Value)) (d : decode cc pc = .ok (.astore_n k0, 1)) (hb2 : k < nL) (hl2 : (k, Value.null) :: lv.filter (fun q => !(q.1 == k) && !(q.1 + 1 == k && q.2.category == 2)) = lv2) (kk : BK X nL ce sl n ws lv2 st) : BK X nL ce sl pc ws lv (.null :: st) := by
  subst hn
  intro H lo ls hP hD hS hl
  exact lv_astore_nN O.hx O.hb d hk hl hb2 hl2 (fun ls2 h2 => kk H lo ls2 hP hD hS h2)
theorem r_ifnullN (O : OK X cc nL own Ts R cI cZ cQ) (n : Nat) {off : Int} (d : decode cc pc = .ok (.ifnull off, 3)) (ht : (pc : Int) + off = (n : Int)) (kk : BK X nL ce sl n ws lv st) : BK X nL ce sl pc ws lv (.null :: st) := by
  intro H lo ls hP hD hS hl
  exact lv_ifnullN O.hx O.hb d ht (kk H lo ls hP hD hS hl)
theorem r_ifnonnullN (O : OK X cc nL own Ts R cI cZ cQ) (n : Nat) (hn : pc + 3 = n) {off : Int} (d : decode cc pc = .ok (.ifnonnull off, 3)) (kk : BK X nL ce sl n ws lv st) : BK X nL ce sl pc ws lv (.null :: st) := by
  subst hn
  intro H lo ls hP hD hS hl
  exact lv_ifnonnullN O.hx O.hb d (kk H lo ls hP hD hS hl)
theorem r_icmp_eq (O : OK X cc nL own Ts R cI cZ cQ) (n : Nat) (hn : pc + 3 = n) (tgt : Nat) {x y : Int32} {off : Int} (d : decode cc pc = .ok (.if_icmp .eq off, 3)) (ht : (pc : Int) + off = (tgt : Int)) (kt : x = y → BK X nL ce sl tgt ws lv st) (kf : ¬ x = y → BK X nL ce sl n ws lv st) : BK X nL ce sl pc ws lv (.int y :: .int x :: st) := by
  subst hn
  intro H lo ls hP hD hS hl
  exact lv_icmp_eq O.hx O.hb d ht (fun h => kt h H lo ls hP hD hS hl) (fun h => kf h H lo ls hP hD hS hl)
theorem r_if_eq (O : OK X cc nL own Ts R cI cZ cQ) (n : Nat) (hn : pc + 3 = n) (tgt : Nat) {x : Int32} {off : Int} (d : decode cc pc = .ok (.ifCond .eq off, 3)) (ht : (pc : Int) + off = (tgt : Int)) (kt : x = 0 → BK X nL ce sl tgt ws lv st) (kf : ¬ x = 0 → BK X nL ce sl n ws lv st) : BK X nL ce sl pc ws lv (.int x :: st) := by
  subst hn
  intro H lo ls hP hD hS hl
  exact lv_if_eq O.hx O.hb d ht (fun h => kt h H lo ls hP hD hS hl) (fun h => kf h H lo ls hP hD hS hl)
theorem r_icmp_ne (O : OK X cc nL own Ts R cI cZ cQ) (n : Nat) (hn : pc + 3 = n) (tgt : Nat) {x y : Int32} {off : Int} (d : decode cc pc = .ok (.if_icmp .ne off, 3)) (ht : (pc : Int) + off = (tgt : Int)) (kt : ¬ x = y → BK X nL ce sl tgt ws lv st) (kf : x = y → BK X nL ce sl n ws lv st) : BK X nL ce sl pc ws lv (.int y :: .int x :: st) := by
  subst hn
  intro H lo ls hP hD hS hl
  exact lv_icmp_ne O.hx O.hb d ht (fun h => kt h H lo ls hP hD hS hl) (fun h => kf h H lo ls hP hD hS hl)
theorem r_if_ne (O : OK X cc nL own Ts R cI cZ cQ) (n : Nat) (hn : pc + 3 = n) (tgt : Nat) {x : Int32} {off : Int} (d : decode cc pc = .ok (.ifCond .ne off, 3)) (ht : (pc : Int) + off = (tgt : Int)) (kt : ¬ x = 0 → BK X nL ce sl tgt ws lv st) (kf : x = 0 → BK X nL ce sl n ws lv st) : BK X nL ce sl pc ws lv (.int x :: st) := by
  subst hn
  intro H lo ls hP hD hS hl
  exact lv_if_ne O.hx O.hb d ht (fun h => kt h H lo ls hP hD hS hl) (fun h => kf h H lo ls hP hD hS hl)
theorem r_icmp_lt (O : OK X cc nL own Ts R cI cZ cQ) (n : Nat) (hn : pc + 3 = n) (tgt : Nat) {x y : Int32} {off : Int} (d : decode cc pc = .ok (.if_icmp .lt off, 3)) (ht : (pc : Int) + off = (tgt : Int)) (kt : x < y → BK X nL ce sl tgt ws lv st) (kf : ¬ x < y → BK X nL ce sl n ws lv st) : BK X nL ce sl pc ws lv (.int y :: .int x :: st) := by
  subst hn
  intro H lo ls hP hD hS hl
  exact lv_icmp_lt O.hx O.hb d ht (fun h => kt h H lo ls hP hD hS hl) (fun h => kf h H lo ls hP hD hS hl)
theorem r_if_lt (O : OK X cc nL own Ts R cI cZ cQ) (n : Nat) (hn : pc + 3 = n) (tgt : Nat) {x : Int32} {off : Int} (d : decode cc pc = .ok (.ifCond .lt off, 3)) (ht : (pc : Int) + off = (tgt : Int)) (kt : x < 0 → BK X nL ce sl tgt ws lv st) (kf : ¬ x < 0 → BK X nL ce sl n ws lv st) : BK X nL ce sl pc ws lv (.int x :: st) := by
  subst hn
  intro H lo ls hP hD hS hl
  exact lv_if_lt O.hx O.hb d ht (fun h => kt h H lo ls hP hD hS hl) (fun h => kf h H lo ls hP hD hS hl)
theorem r_icmp_ge (O : OK X cc nL own Ts R cI cZ cQ) (n : Nat) (hn : pc + 3 = n) (tgt : Nat) {x y : Int32} {off : Int} (d : decode cc pc = .ok (.if_icmp .ge off, 3)) (ht : (pc : Int) + off = (tgt : Int)) (kt : y ≤ x → BK X nL ce sl tgt ws lv st) (kf : ¬ y ≤ x → BK X nL ce sl n ws lv st) : BK X nL ce sl pc ws lv (.int y :: .int x :: st) := by
  subst hn
  intro H lo ls hP hD hS hl
  exact lv_icmp_ge O.hx O.hb d ht (fun h => kt h H lo ls hP hD hS hl) (fun h => kf h H lo ls hP hD hS hl)
theorem r_if_ge (O : OK X cc nL own Ts R cI cZ cQ) (n : Nat) (hn : pc + 3 = n) (tgt : Nat) {x : Int32} {off : Int} (d : decode cc pc = .ok (.ifCond .ge off, 3)) (ht : (pc : Int) + off = (tgt : Int)) (kt : 0 ≤ x → BK X nL ce sl tgt ws lv st) (kf : ¬ 0 ≤ x → BK X nL ce sl n ws lv st) : BK X nL ce sl pc ws lv (.int x :: st) := by
  subst hn
  intro H lo ls hP hD hS hl
  exact lv_if_ge O.hx O.hb d ht (fun h => kt h H lo ls hP hD hS hl) (fun h => kf h H lo ls hP hD hS hl)
theorem r_icmp_gt (O : OK X cc nL own Ts R cI cZ cQ) (n : Nat) (hn : pc + 3 = n) (tgt : Nat) {x y : Int32} {off : Int} (d : decode cc pc = .ok (.if_icmp .gt off, 3)) (ht : (pc : Int) + off = (tgt : Int)) (kt : y < x → BK X nL ce sl tgt ws lv st) (kf : ¬ y < x → BK X nL ce sl n ws lv st) : BK X nL ce sl pc ws lv (.int y :: .int x :: st) := by
  subst hn
  intro H lo ls hP hD hS hl
  exact lv_icmp_gt O.hx O.hb d ht (fun h => kt h H lo ls hP hD hS hl) (fun h => kf h H lo ls hP hD hS hl)
theorem r_if_gt (O : OK X cc nL own Ts R cI cZ cQ) (n : Nat) (hn : pc + 3 = n) (tgt : Nat) {x : Int32} {off : Int} (d : decode cc pc = .ok (.ifCond .gt off, 3)) (ht : (pc : Int) + off = (tgt : Int)) (kt : 0 < x → BK X nL ce sl tgt ws lv st) (kf : ¬ 0 < x → BK X nL ce sl n ws lv st) : BK X nL ce sl pc ws lv (.int x :: st) := by
  subst hn
  intro H lo ls hP hD hS hl
  exact lv_if_gt O.hx O.hb d ht (fun h => kt h H lo ls hP hD hS hl) (fun h => kf h H lo ls hP hD hS hl)
theorem r_icmp_le (O : OK X cc nL own Ts R cI cZ cQ) (n : Nat) (hn : pc + 3 = n) (tgt : Nat) {x y : Int32} {off : Int} (d : decode cc pc = .ok (.if_icmp .le off, 3)) (ht : (pc : Int) + off = (tgt : Int)) (kt : x ≤ y → BK X nL ce sl tgt ws lv st) (kf : ¬ x ≤ y → BK X nL ce sl n ws lv st) : BK X nL ce sl pc ws lv (.int y :: .int x :: st) := by
  subst hn
  intro H lo ls hP hD hS hl
  exact lv_icmp_le O.hx O.hb d ht (fun h => kt h H lo ls hP hD hS hl) (fun h => kf h H lo ls hP hD hS hl)
theorem r_if_le (O : OK X cc nL own Ts R cI cZ cQ) (n : Nat) (hn : pc + 3 = n) (tgt : Nat) {x : Int32} {off : Int} (d : decode cc pc = .ok (.ifCond .le off, 3)) (ht : (pc : Int) + off = (tgt : Int)) (kt : x ≤ 0 → BK X nL ce sl tgt ws lv st) (kf : ¬ x ≤ 0 → BK X nL ce sl n ws lv st) : BK X nL ce sl pc ws lv (.int x :: st) := by
  subst hn
  intro H lo ls hP hD hS hl
  exact lv_if_le O.hx O.hb d ht (fun h => kt h H lo ls hP hD hS hl) (fun h => kf h H lo ls hP hD hS hl)
theorem r_ifnull (O : OK X cc nL own Ts R cI cZ cQ) (n : Nat) (hn : pc + 3 = n) {x : Nat} {off : Int} (d : decode cc pc = .ok (.ifnull off, 3)) (kk : BK X nL ce sl n ws lv st) : BK X nL ce sl pc ws lv (.ref x :: st) := by
  subst hn
  intro H lo ls hP hD hS hl
  exact lv_ifnull O.hx O.hb d (kk H lo ls hP hD hS hl)
theorem r_ifnonnull (O : OK X cc nL own Ts R cI cZ cQ) (n : Nat) {x : Nat} {off : Int} (d : decode cc pc = .ok (.ifnonnull off, 3)) (ht : (pc : Int) + off = (n : Int)) (kk : BK X nL ce sl n ws lv st) : BK X nL ce sl pc ws lv (.ref x :: st) := by
  intro H lo ls hP hD hS hl
  exact lv_ifnonnull O.hx O.hb d ht (kk H lo ls hP hD hS hl)
theorem r_tabIn (O : OK X cc nL own Ts R cI cZ cQ) (n : Nat) {dflt lo hi : Int} {offs : Array Int} {len : Nat} {x : Int32} {off : Int} (d : decode cc pc = .ok (.tableswitch dflt lo hi offs, len)) (h1 : ¬ x.toInt < lo) (h2 : ¬ hi < x.toInt) (ho : offs[(x.toInt - lo).toNat]? = some off) (ht : (pc : Int) + off = (n : Int)) (kk : BK X nL ce sl n ws lv st) : BK X nL ce sl pc ws lv (.int x :: st) := by
  intro H lo ls hP hD hS hl
  exact lv_tableIn O.hx O.hb d h1 h2 ho ht (kk H lo ls hP hD hS hl)
theorem r_tabOut (O : OK X cc nL own Ts R cI cZ cQ) (n : Nat) {dflt lo hi : Int} {offs : Array Int} {len : Nat} {x : Int32} (d : decode cc pc = .ok (.tableswitch dflt lo hi offs, len)) (h : x.toInt < lo ∨ hi < x.toInt) (ht : (pc : Int) + dflt = (n : Int)) (kk : BK X nL ce sl n ws lv st) : BK X nL ce sl pc ws lv (.int x :: st) := by
  intro H lo ls hP hD hS hl
  exact lv_tableOut O.hx O.hb d h ht (kk H lo ls hP hD hS hl)
theorem r_look (O : OK X cc nL own Ts R cI cZ cQ) (n : Nat) {dflt : Int} {ps : Array (Int × Int)} {len : Nat} {x : Int32} {off : Int} (d : decode cc pc = .ok (.lookupswitch dflt ps, len)) (hp : (ps.toList.zip (ps.toList.drop 1)).all (fun (a, next) => a.1 < next.1) = true) (ho : Op.lookupswitch.offset ps.toList dflt x.toInt = off) (ht : (pc : Int) + off = (n : Int)) (kk : BK X nL ce sl n ws lv st) : BK X nL ce sl pc ws lv (.int x :: st) := by
  intro H lo ls hP hD hS hl
  exact lv_lookup O.hx O.hb d hp ho ht (kk H lo ls hP hD hS hl)
theorem r_topi {x : Int32} (kk : ∀ y : Int32, y = x → BK X nL ce sl pc ws lv (.int y :: st)) : BK X nL ce sl pc ws lv (.int x :: st) := kk x rfl
theorem r_topl {x : Int64} (kk : ∀ y : Int64, y = x → BK X nL ce sl pc ws lv (.long y :: st)) : BK X nL ce sl pc ws lv (.long x :: st) := kk x rfl
theorem r_topd {x : UInt64} (kk : ∀ y : UInt64, y = x → BK X nL ce sl pc ws lv (.double y :: st)) : BK X nL ce sl pc ws lv (.double x :: st) := kk x rfl

theorem r_get (O : OK X cc nL own Ts R cI cZ cQ) (n : Nat) (hn : pc + 3 = n) {C ref : String} {T : u_T} {N ci index a : Nat} {fs : List Value} {v : Value} (hin : ∀ w ∈ u_ws C T N, w ∈ Ts) (j0 k : Nat) {w9 : va_W} (hj0 : ws[j0]? = some w9) (he : w9[0]? = some (a, .inr (ci, fs))) (hc : vwCl[ci]? = some (C, T, N)) (hk : k < N) (hw : Cond.fieldLink own index ref (T k).2.1 (T k).2.2.1 ∈ Ts) (hr : (T k).1 = ref) (hv : fs[k]? = some v) (d : decode cc pc = .ok (.getfield index, 3)) (kk : BK X nL ce sl n ws lv (v :: st)) : BK X nL ce sl pc ws lv (.ref a :: st) := by
  subst hn
  subst hr
  intro H lo ls hP hD hS hl
  exact va_get O.hx O.hb O.hts hin O.hown O.hK hP _ (flat_at hj0 he) hc k hk (O.hts _ hw) (fun _ h => h) hv d (kk H lo ls hP hD hS hl)
theorem r_put (O : OK X cc nL own Ts R cI cZ cQ) (n : Nat) (hn : pc + 3 = n) {C ref : String} {T : u_T} {N ci index a : Nat} {fs : List Value} {v : Value} (hin : ∀ w ∈ u_ws C T N, w ∈ Ts) (ty0 : Nat → FieldType) (hty : ∀ k, k < N → parseFieldDescriptor (T k).2.2.1 = some (ty0 k)) (hnm : ∀ a, a < N → ∀ b, b < N → a ≠ b → (T a).2.1 ≠ (T b).2.1) (j0 k : Nat) {w9 : va_W} (hj0 : ws[j0]? = some w9) (he : w9[0]? = some (a, .inr (ci, fs))) (hc : vwCl[ci]? = some (C, T, N)) (hk : k < N) (hw : Cond.fieldLink own index ref (T k).2.1 (T k).2.2.1 ∈ Ts) (hr : (T k).1 = ref) (hfin : (T k).2.2.2 = false) (hn2 : narrow (ty0 k) v = v) (hfit : fits (ty0 k) v = true) (hl2 : k < fs.length) (ws2 : List va_W) (hws : ws.set j0 (w9.set 0 (a, .inr (ci, fs.set k v))) = ws2) (d : decode cc pc = .ok (.putfield index, 3)) (kk : BK X nL ce sl n ws2 lv st) : BK X nL ce sl pc ws lv (v :: .ref a :: st) := by
  subst hn
  subst hr
  subst hws
  intro H lo ls hP hD hS hl
  exact va_put O.hx O.hb O.hts hin ty0 hty hnm O.hown O.hK hP hD hS _ (flat_at hj0 he) hc k hk (O.hts _ hw) (fun _ h => h) hfin (hty k hk) hn2 hfit hl2 d (fun H1 lo1 hP1 hD1 hS1 => kk H1 lo1 ls (flat_set hj0 (List.getElem?_eq_some_iff.mp he).1 ▸ hP1) (flat_set hj0 (List.getElem?_eq_some_iff.mp he).1 ▸ hD1) hS1 hl)
theorem r_putF (O : OK X cc nL own Ts R cI cZ cQ) (n : Nat) (hn : pc + 3 = n) {C ref : String} {T : u_T} {N ci index a : Nat} {fs : List Value} {v : Value} (hin : ∀ w ∈ u_ws C T N, w ∈ Ts) (ty0 : Nat → FieldType) (hty : ∀ k, k < N → parseFieldDescriptor (T k).2.2.1 = some (ty0 k)) (hnm : ∀ a, a < N → ∀ b, b < N → a ≠ b → (T a).2.1 ≠ (T b).2.1) (hinit : (xh X).name = "<init>") (j0 k : Nat) {w9 : va_W} (hj0 : ws[j0]? = some w9) (he : w9[0]? = some (a, .inr (ci, fs))) (hc : vwCl[ci]? = some (C, T, N)) (hk : k < N) (hw : Cond.fieldLink own index ref (T k).2.1 (T k).2.2.1 ∈ Ts) (hr : (T k).1 = ref) (hro : (T k).1 = own) (hfin : (T k).2.2.2 = true) (hn2 : narrow (ty0 k) v = v) (hfit : fits (ty0 k) v = true) (hl2 : k < fs.length) (ws2 : List va_W) (hws : ws.set j0 (w9.set 0 (a, .inr (ci, fs.set k v))) = ws2) (d : decode cc pc = .ok (.putfield index, 3)) (kk : BK X nL ce sl n ws2 lv st) : BK X nL ce sl pc ws lv (v :: .ref a :: st) := by
  subst hn
  subst hr
  subst hws
  intro H lo ls hP hD hS hl
  exact va_putF O.hx O.hb O.hts hin ty0 hty hnm O.hown O.hK hP hD hS _ (flat_at hj0 he) hc k hk (O.hts _ hw) (fun _ h => h) hfin hinit hro (hty k hk) hn2 hfit hl2 d (fun H1 lo1 hP1 hD1 hS1 => kk H1 lo1 ls (flat_set hj0 (List.getElem?_eq_some_iff.mp he).1 ▸ hP1) (flat_set hj0 (List.getElem?_eq_some_iff.mp he).1 ▸ hD1) hS1 hl)
theorem r_iald (O : OK X cc nL own Ts R cI cZ cQ) (n : Nat) (hn : pc + 1 = n) {a N : Nat} {f : Nat → Int32} {i : Int32} (j0 k0 : Nat) {w9 : va_W} (hj0 : ws[j0]? = some w9) (ha : w9[k0]? = some (a, .inl (cI, N, .inl f))) (hin : vp_in i N) (d : decode cc pc = .ok (.iaload, 1)) (kk : BK X nL ce sl n ws lv (.int (f i.toNatClampNeg) :: st)) : BK X nL ce sl pc ws lv (.int i :: .ref a :: st) := by
  subst hn
  intro H lo ls hP hD hS hl
  exact va_iald O.hx O.hb O.hK hP _ 0 (flat_at hj0 ha) rfl hin d (kk H lo ls hP hD hS hl)
theorem r_zald (O : OK X cc nL own Ts R cI cZ cQ) (n : Nat) (hn : pc + 1 = n) {a N : Nat} {f : Nat → Int32} {i : Int32} (j0 k0 : Nat) {w9 : va_W} (hj0 : ws[j0]? = some w9) (ha : w9[k0]? = some (a, .inl (cZ, N, .inl f))) (hin : vp_in i N) (d : decode cc pc = .ok (.baload, 1)) (kk : BK X nL ce sl n ws lv (.int (f i.toNatClampNeg) :: st)) : BK X nL ce sl pc ws lv (.int i :: .ref a :: st) := by
  subst hn
  intro H lo ls hP hD hS hl
  exact va_zald O.hx O.hb O.hK hP _ 1 (flat_at hj0 ha) rfl hin d (kk H lo ls hP hD hS hl)
theorem r_aald (O : OK X cc nL own Ts R cI cZ cQ) (n : Nat) (hn : pc + 1 = n) {a N : Nat} {f : Nat → Option Nat} {i : Int32} (j0 k0 : Nat) {w9 : va_W} (hj0 : ws[j0]? = some w9) (ha : w9[k0]? = some (a, .inl (cQ, N, .inr (.inr (.inr (.inr f)))))) (hin : vp_in i N) (d : decode cc pc = .ok (.aaload, 1)) (kk : BK X nL ce sl n ws lv (va_rf (f i.toNatClampNeg) :: st)) : BK X nL ce sl pc ws lv (.int i :: .ref a :: st) := by
  subst hn
  intro H lo ls hP hD hS hl
  exact va_aldq O.hx O.hb O.hK hP _ 2 (flat_at hj0 ha) rfl hin d (kk H lo ls hP hD hS hl)
theorem r_iast (O : OK X cc nL own Ts R cI cZ cQ) (n : Nat) (hn : pc + 1 = n) {a N : Nat} {f : Nat → Int32} {i x : Int32} (j0 k0 : Nat) {w9 : va_W} (hj0 : ws[j0]? = some w9) (ha : w9[k0]? = some (a, .inl (cI, N, .inl f))) (hin : vp_in i N) (ws2 : List va_W) (hws : ws.set j0 (w9.set k0 (a, .inl (cI, N, .inl (upd f i.toNatClampNeg x)))) = ws2) (d : decode cc pc = .ok (.iastore, 1)) (kk : BK X nL ce sl n ws2 lv st) : BK X nL ce sl pc ws lv (.int x :: .int i :: .ref a :: st) := by
  subst hn
  subst hws
  intro H lo ls hP hD hS hl
  exact va_iast O.hx O.hb O.hK hP hD hS _ 0 (flat_at hj0 ha) rfl hin d (fun H1 lo1 hP1 hD1 hS1 => kk H1 lo1 ls (flat_set hj0 (List.getElem?_eq_some_iff.mp ha).1 ▸ hP1) (flat_set hj0 (List.getElem?_eq_some_iff.mp ha).1 ▸ hD1) hS1 hl)
theorem r_zast (O : OK X cc nL own Ts R cI cZ cQ) (n : Nat) (hn : pc + 1 = n) {a N : Nat} {f : Nat → Int32} {i x : Int32} (j0 k0 : Nat) {w9 : va_W} (hj0 : ws[j0]? = some w9) (ha : w9[k0]? = some (a, .inl (cZ, N, .inl f))) (hin : vp_in i N) (ws2 : List va_W) (hws : ws.set j0 (w9.set k0 (a, .inl (cZ, N, .inl (upd f i.toNatClampNeg (vp_nar .boolean x))))) = ws2) (d : decode cc pc = .ok (.bastore, 1)) (kk : BK X nL ce sl n ws2 lv st) : BK X nL ce sl pc ws lv (.int x :: .int i :: .ref a :: st) := by
  subst hn
  subst hws
  intro H lo ls hP hD hS hl
  exact va_zast O.hx O.hb O.hK hP hD hS _ 1 (flat_at hj0 ha) rfl hin d (fun H1 lo1 hP1 hD1 hS1 => kk H1 lo1 ls (flat_set hj0 (List.getElem?_eq_some_iff.mp ha).1 ▸ hP1) (flat_set hj0 (List.getElem?_eq_some_iff.mp ha).1 ▸ hD1) hS1 hl)
theorem r_abs (O : OK X cc nL own Ts R cI cZ cQ) (n : Nat) (hn : pc + 3 = n) {index : Nat} {x : Int32} (hw1 : Cond.methodLink own index Lib.Math.abs.name ∈ Ts) (hw2 : Cond.static Lib.Math.abs.name ∈ Ts) (hw3 : Cond.initialized "java/lang/Math" ∈ Ts) (hw4 : Cond.code Lib.Math.abs.name Lib.Math.abs.code 1 (some .int) ∈ Ts) (hf : 1 ≤ R.frames) (ho : (st.map fun v => v.category).sum + 13 ≤ R.locals) (hc1 : ce ≤ R.cells) (hs1 : sl ≤ R.slots) (d : decode cc pc = .ok (.invokestatic index, 3)) (kk : BK X nL ce sl n ws lv (.int (if 0 ≤ x then x else 0 - x) :: st)) : BK X nL ce sl pc ws lv (.int x :: st) := by
  subst hn
  intro H lo ls hP hD hS hl
  have hR := O.hR
  exact va_mabs O.hx O.hb (O.hml.trans hl.1.symm) O.hown (O.hts _ hw1) (O.hts _ hw2) (O.hts _ hw3) (O.hts _ hw4) (by rw [hR]; exact hf) (by rw [hR]; exact ho) (by rw [hR]; exact hc1) (by rw [hR]; exact hs1) d (kk H lo ls hP hD hS hl)
theorem r_max (O : OK X cc nL own Ts R cI cZ cQ) (n : Nat) (hn : pc + 3 = n) {index : Nat} {x y : Int32} (hw1 : Cond.methodLink own index Lib.Math.max.name ∈ Ts) (hw2 : Cond.static Lib.Math.max.name ∈ Ts) (hw3 : Cond.initialized "java/lang/Math" ∈ Ts) (hw4 : Cond.code Lib.Math.max.name Lib.Math.max.code 2 (some .int) ∈ Ts) (hf : 1 ≤ R.frames) (ho : (st.map fun v => v.category).sum + 13 ≤ R.locals) (hc1 : ce ≤ R.cells) (hs1 : sl ≤ R.slots) (d : decode cc pc = .ok (.invokestatic index, 3)) (kk : BK X nL ce sl n ws lv (.int (if x < y then y else x) :: st)) : BK X nL ce sl pc ws lv (.int y :: .int x :: st) := by
  subst hn
  intro H lo ls hP hD hS hl
  have hR := O.hR
  exact va_mmax O.hx O.hb (O.hml.trans hl.1.symm) O.hown (O.hts _ hw1) (O.hts _ hw2) (O.hts _ hw3) (O.hts _ hw4) (by rw [hR]; exact hf) (by rw [hR]; exact ho) (by rw [hR]; exact hc1) (by rw [hR]; exact hs1) d (kk H lo ls hP hD hS hl)
/-- contracts: a start at a world, an end at a world -/
def CP (D : va_G) (tys : List (ClassId × FieldType)) (w0 : List va_W) (sz : Nat) (U : State) : Prop := U.heap.size = sz ∧ va_P D vwCl w0.flatten U.heap ∧ va_K D vwCl tys U ∧ va_D (fun _ => True) w0.flatten ∧ NW U
def CE (D : va_G) (tys : List (ClassId × FieldType)) (w0 : List va_W) (sz : Nat) (u : List va_W) (t : State) : Prop := va_P D vwCl u.flatten t.heap ∧ va_K D vwCl tys t ∧ va_D (va_A w0.flatten sz) u.flatten
def MI (l : Launch) (y : MethodName) (wsy : List Cond) (rm : Room) (D : va_G) (tys : List (ClassId × FieldType)) (av : List Value) (w0 : List va_W) (r0 : Int32) (w1 : List va_W) : Prop := ∀ sz : Nat, Met l y wsy rm (va_Pc av (CP D tys w0 sz)) (va_Qi (fun (r : Int32) (u : List va_W) => r = r0 ∧ u = w1) (CE D tys w0 sz) (va_A w0.flatten sz)) 0 0 (va_A w0.flatten sz)
def ML (l : Launch) (y : MethodName) (wsy : List Cond) (rm : Room) (D : va_G) (tys : List (ClassId × FieldType)) (av : List Value) (w0 : List va_W) (r0 : Int64) (w1 : List va_W) : Prop := ∀ sz : Nat, Met l y wsy rm (va_Pc av (CP D tys w0 sz)) (va_Ql (fun (r : Int64) (u : List va_W) => r = r0 ∧ u = w1) (CE D tys w0 sz) (va_A w0.flatten sz)) 0 0 (va_A w0.flatten sz)
def MD (l : Launch) (y : MethodName) (wsy : List Cond) (rm : Room) (D : va_G) (tys : List (ClassId × FieldType)) (av : List Value) (w0 : List va_W) (r0 : UInt64) (w1 : List va_W) : Prop := ∀ sz : Nat, Met l y wsy rm (va_Pc av (CP D tys w0 sz)) (va_Qd (fun (r : UInt64) (u : List va_W) => r = r0 ∧ u = w1) (CE D tys w0 sz) (va_A w0.flatten sz)) 0 0 (va_A w0.flatten sz)
def MV (l : Launch) (y : MethodName) (wsy : List Cond) (rm : Room) (D : va_G) (tys : List (ClassId × FieldType)) (av : List Value) (w0 : List va_W) (w1 : List va_W) : Prop := ∀ sz : Nat, Met l y wsy rm (va_Pc av (CP D tys w0 sz)) (va_Qv (fun (u : List va_W) => u = w1) (CE D tys w0 sz) (va_A w0.flatten sz)) 0 0 (va_A w0.flatten sz)
def MZ (l : Launch) (y : MethodName) (wsy : List Cond) (rm : Room) (D : va_G) (tys : List (ClassId × FieldType)) (av : List Value) (w0 : List va_W) (r0 : Int32) (w1 : List va_W) : Prop := ∀ sz : Nat, Met l y wsy rm (va_Pc av (CP D tys w0 sz)) (va_Qi (fun (r : Int32) (u : List va_W) => (r = r0 ∧ narrow .boolean (.int r) = .int r) ∧ u = w1) (CE D tys w0 sz) (va_A w0.flatten sz)) 0 0 (va_A w0.flatten sz)
theorem CP.blind {av : List Value} {D : va_G} {tys : List (ClassId × FieldType)} {w0 : List va_W} {sz : Nat} : FrameBlind (va_Pc av (CP D tys w0 sz)) := fun a U g mk q => by
  obtain ⟨q0, q1, qP, qK, qD, qN⟩ := q
  exact ⟨q0, q1, qP, va_K.moved (u := U) (U := U.calling g mk a) (Vm.Alike.refl U.vm) qK, qD, NW.same (u := U) (U := U.calling g mk a) rfl qN⟩
end ROWS

