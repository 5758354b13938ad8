-- X2_placeAt, by hand: the cell at a place, or null
def rmX2_placeAt : Room := { frames := 0, cells := 0, slots := 0, locals := 0 }
set_option maxHeartbeats 4000000 in
set_option maxRecDepth 100000 in
theorem zX2_placeAt {l : Launch} {D : va_G} {cI cZ cQ : ClassId} {h_t hk : Nat → Nat} {u_t : Pk} {a1 : Int32} : MY l yX2_placeAt wsX2_placeAt rmX2_placeAt D (TY cI cZ cQ) [.ref (h_t 0), .int a1] [nX2 cI cZ cQ h_t hk u_t] (fX2_placeAt hk a1) [nX2 cI cZ cQ h_t hk u_t] := by
  refine MY.of (own := RX2) (by decide +kernel) rfl rfl (Nat.le_of_ble_eq_true rfl) (lv0 := [(0, .ref (h_t 0)), (1, .int a1)]) rfl ?_
  intro X O E
  refine r_ild_n O 1 rfl 1 rfl dX2_placeAt_0 ?_
  refine r_if_lt O 4 rfl 19 dX2_placeAt_1 (by decide) (fun hc1 => ?_) (fun hc1 => ?_)
  · refine r_null O 20 rfl dX2_placeAt_19 ?_
    exact r_yret2 (v := none) O E (by unfold fX2_placeAt; rw [if_pos hc1]) rfl dX2_placeAt_20
  · refine r_ild_n O 5 rfl 1 rfl dX2_placeAt_4 ?_
    refine r_bi O 7 rfl 8 (by decide) dX2_placeAt_5 ?_
    refine r_icmp_ge O 10 rfl 19 dX2_placeAt_7 (by decide) (fun hc7 => ?_) (fun hc7 => ?_)
    · refine r_null O 20 rfl dX2_placeAt_19 ?_
      exact r_yret2 (v := none) O E (by unfold fX2_placeAt; rw [if_neg hc1, if_pos hc7]) rfl dX2_placeAt_20
    · have hin : vp_in a1 8 := by
        intro h
        rcases h with h | h
        · exact hc1 h
        · apply hc7
          have e1 : ¬ a1.toInt < 0 := fun h => hc1 (Int32.lt_iff_toInt_lt.mpr h)
          rw [Int32.le_iff_toInt_le]
          have e2 : a1.toNatClampNeg = a1.toInt.toNat := rfl
          rw [e2] at h
          show (8 : Int) ≤ _
          omega
      refine r_ald_n O 11 rfl 0 rfl dX2_placeAt_10 ?_
      refine r_get (ref := RX2) (C := RX2) (T := TX2) (N := 3) O 14 rfl inBX2 0 0 rfl rfl rfl (by decide) flX2_11 rfl rfl dX2_placeAt_11 ?_
      refine r_ild_n O 15 rfl 1 rfl dX2_placeAt_14 ?_
      refine r_aald O 16 rfl 0 1 rfl rfl hin dX2_placeAt_15 ?_
      refine r_goto O 20 dX2_placeAt_16 (by decide) ?_
      exact r_yret2 (v := some (hk a1.toNatClampNeg)) O E (by unfold fX2_placeAt; rw [if_neg hc1, if_neg hc7]) rfl dX2_placeAt_20
