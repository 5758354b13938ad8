/-! the law's script: rows over BK -/
def SX (X : Cx) (b L : Nat) (sc : Nat → Int32) : Prop := va_X b L sc (xs X) (xs X).heap ∧ b < (xs X).heap.size ∧ ¬ xA X b
section SCRIPT
variable {X : Cx} {cc : ByteArray} {nL ce sl pc : Nat} {own : String} {Ts : List Cond} {R : Room} {cI cZ cQ : ClassId} {ws : List va_W} {lv : List (Nat × Value)} {st : List Value} {b L : Nat} {sc : Nat → Int32}
theorem r_sld (O : OK X cc nL own Ts R cI cZ cQ) (S : SX X b L sc) (n : Nat) (hn : pc + 1 = n) {i : Int32} (hin : vp_in i L) (d : decode cc pc = .ok (.iaload, 1)) (kk : BK X nL ce sl n ws lv (.int (sc i.toNatClampNeg) :: st)) : BK X nL ce sl pc ws lv (.int i :: .ref b :: st) := by
  subst hn
  intro H lo ls hP hD hS hl
  exact va_sld O.hx O.hb S.1 S.2.1 S.2.2 hS hin d (kk H lo ls hP hD hS hl)
theorem r_slen (O : OK X cc nL own Ts R cI cZ cQ) (S : SX X b L sc) (n : Nat) (hn : pc + 1 = n) (d : decode cc pc = .ok (.arraylength, 1)) (kk : BK X nL ce sl n ws lv (.int (Int32.ofNat L) :: st)) : BK X nL ce sl pc ws lv (.ref b :: st) := by
  subst hn
  intro H lo ls hP hD hS hl
  exact va_slen O.hx O.hb S.1 S.2.1 S.2.2 hS d (kk H lo ls hP hD hS hl)
end SCRIPT
