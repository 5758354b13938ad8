-- X8_sideValue
def rmX8_sideValue : Room := { frames := 0, cells := 0, slots := 0, locals := 0 }
set_option maxHeartbeats 4000000 in
set_option maxRecDepth 100000 in
theorem zX8_sideValue {l : Launch} {D : va_G} {cI cZ cQ : ClassId} {h_t : Nat → Nat} {u_t : Pk} {a1 : Int32} {a2 : Int32} {a3 : Int32} {r0 : Int32} (hf : fX8_sideValue u_t a1 a2 a3 = some r0) : MI l yX8_sideValue wsX8_sideValue rmX8_sideValue D (TY cI cZ cQ) [.ref (h_t 0), .int a1, .int a2, .int a3] [nX8 cI cZ cQ h_t u_t] r0 [nX8 cI cZ cQ h_t u_t] := by
  refine MI.of (own := RX8) (by decide +kernel) rfl rfl (Nat.le_of_ble_eq_true rfl) (lv0 := [(0, .ref (h_t 0)), (1, .int a1), (2, .int a2), (3, .int a3)]) rfl ?_
  intro X O E
  unfold fX8_sideValue at hf
  refine r_ild_n O 1 rfl 1 rfl dX8_sideValue_0 ?_
  refine r_if_lt O 4 rfl 10 dX8_sideValue_1 (by decide) (fun hc1 => ?_) (fun hc1 => ?_)
  · rw [if_pos hc1] at hf
    refine r_ic O 11 rfl 0 (by decide) dX8_sideValue_10 ?_
    obtain g0 := qe1 hf
    exact r_iret2 O E g0 rfl dX8_sideValue_11
  · rw [if_neg hc1] at hf
    refine r_ild_n O 5 rfl 1 rfl dX8_sideValue_4 ?_
    refine r_bi O 7 rfl 12 (by decide) dX8_sideValue_5 ?_
    refine r_icmp_lt O 10 rfl 12 dX8_sideValue_7 (by decide) (fun hc7 => ?_) (fun hc7 => ?_)
    · rw [if_pos hc7] at hf
      refine r_ald_n O 13 rfl 0 rfl dX8_sideValue_12 ?_
      refine r_get (ref := RX8) (C := RX8) (T := TX8) (N := 9) O 16 rfl inBX8 0 4 rfl rfl rfl (by decide) flX8_25 rfl rfl dX8_sideValue_13 ?_
      refine r_ild_n O 17 rfl 1 rfl dX8_sideValue_16 ?_
      obtain ⟨x17, ex17, hin17, hf⟩ := qld_some hf
      refine r_iald O 18 rfl 0 5 rfl rfl hin17 dX8_sideValue_17 ?_
      rw [← ex17]
      refine r_ald_n O 19 rfl 0 rfl dX8_sideValue_18 ?_
      refine r_get (ref := RX8) (C := RX8) (T := TX8) (N := 9) O 22 rfl inBX8 0 2 rfl rfl rfl (by decide) flX8_18 rfl rfl dX8_sideValue_19 ?_
      refine r_ild_n O 23 rfl 1 rfl dX8_sideValue_22 ?_
      obtain ⟨x23, ex23, hin23, hf⟩ := qld_some hf
      refine r_iald O 24 rfl 0 3 rfl rfl hin23 dX8_sideValue_23 ?_
      rw [← ex23]
      refine r_isub O 25 rfl dX8_sideValue_24 ?_
      refine r_ild_n O 26 rfl 3 rfl dX8_sideValue_25 ?_
      refine r_ald_n O 27 rfl 0 rfl dX8_sideValue_26 ?_
      refine r_get (ref := RX8) (C := RX8) (T := TX8) (N := 9) O 30 rfl inBX8 0 3 rfl rfl rfl (by decide) flX8_22 rfl rfl dX8_sideValue_27 ?_
      refine r_ild_n O 31 rfl 1 rfl dX8_sideValue_30 ?_
      obtain ⟨x31, ex31, hin31, hf⟩ := qld_some hf
      refine r_iald O 32 rfl 0 4 rfl rfl hin31 dX8_sideValue_31 ?_
      rw [← ex31]
      refine r_isub O 33 rfl dX8_sideValue_32 ?_
      refine r_imul O 34 rfl dX8_sideValue_33 ?_
      refine r_ald_n O 35 rfl 0 rfl dX8_sideValue_34 ?_
      refine r_get (ref := RX8) (C := RX8) (T := TX8) (N := 9) O 38 rfl inBX8 0 5 rfl rfl rfl (by decide) flX8_28 rfl rfl dX8_sideValue_35 ?_
      refine r_ild_n O 39 rfl 1 rfl dX8_sideValue_38 ?_
      obtain ⟨x39, ex39, hin39, hf⟩ := qld_some hf
      refine r_iald O 40 rfl 0 6 rfl rfl hin39 dX8_sideValue_39 ?_
      rw [← ex39]
      refine r_ald_n O 41 rfl 0 rfl dX8_sideValue_40 ?_
      refine r_get (ref := RX8) (C := RX8) (T := TX8) (N := 9) O 44 rfl inBX8 0 3 rfl rfl rfl (by decide) flX8_22 rfl rfl dX8_sideValue_41 ?_
      refine r_ild_n O 45 rfl 1 rfl dX8_sideValue_44 ?_
      obtain ⟨x45, ex45, hin45, hf⟩ := qld_some hf
      refine r_iald O 46 rfl 0 4 rfl rfl hin45 dX8_sideValue_45 ?_
      rw [← ex45]
      refine r_isub O 47 rfl dX8_sideValue_46 ?_
      refine r_ild_n O 48 rfl 2 rfl dX8_sideValue_47 ?_
      refine r_ald_n O 49 rfl 0 rfl dX8_sideValue_48 ?_
      refine r_get (ref := RX8) (C := RX8) (T := TX8) (N := 9) O 52 rfl inBX8 0 2 rfl rfl rfl (by decide) flX8_18 rfl rfl dX8_sideValue_49 ?_
      refine r_ild_n O 53 rfl 1 rfl dX8_sideValue_52 ?_
      obtain ⟨x53, ex53, hin53, hf⟩ := qld_some hf
      refine r_iald O 54 rfl 0 3 rfl rfl hin53 dX8_sideValue_53 ?_
      rw [← ex53]
      refine r_isub O 55 rfl dX8_sideValue_54 ?_
      refine r_imul O 56 rfl dX8_sideValue_55 ?_
      refine r_isub O 57 rfl dX8_sideValue_56 ?_
      obtain g0 := qe1 hf
      exact r_iret2 O E g0 rfl dX8_sideValue_57
    · rw [if_neg hc7] at hf
      refine r_ic O 11 rfl 0 (by decide) dX8_sideValue_10 ?_
      obtain g0 := qe1 hf
      exact r_iret2 O E g0 rfl dX8_sideValue_11
-- X8_exists
def rmX8_exists : Room := { frames := 0, cells := 0, slots := 0, locals := 0 }
set_option maxHeartbeats 4000000 in
set_option maxRecDepth 100000 in
theorem zX8_exists {l : Launch} {D : va_G} {cI cZ cQ : ClassId} {h_t : Nat → Nat} {u_t : Pk} {a1 : Int32} {r0 : Int32} (hf : fX8_exists u_t a1 = some r0) : MZ l yX8_exists wsX8_exists rmX8_exists D (TY cI cZ cQ) [.ref (h_t 0), .int a1] [nX8 cI cZ cQ h_t u_t] r0 [nX8 cI cZ cQ h_t u_t] := by
  refine MZ.of (own := RX8) (by decide +kernel) rfl rfl (Nat.le_of_ble_eq_true rfl) (lv0 := [(0, .ref (h_t 0)), (1, .int a1)]) rfl ?_
  intro X O E
  unfold fX8_exists at hf
  refine r_ild_n O 1 rfl 1 rfl dX8_exists_0 ?_
  refine r_if_lt O 4 rfl 23 dX8_exists_1 (by decide) (fun hc1 => ?_) (fun hc1 => ?_)
  · rw [if_pos hc1] at hf
    refine r_ic O 24 rfl 0 (by decide) dX8_exists_23 ?_
    obtain g0 := qe1 hf
    exact r_zret2 O E g0 rfl rfl dX8_exists_24
  · rw [if_neg hc1] at hf
    refine r_ild_n O 5 rfl 1 rfl dX8_exists_4 ?_
    refine r_bi O 7 rfl 12 (by decide) dX8_exists_5 ?_
    refine r_icmp_ge O 10 rfl 23 dX8_exists_7 (by decide) (fun hc7 => ?_) (fun hc7 => ?_)
    · rw [if_pos hc7] at hf
      refine r_ic O 24 rfl 0 (by decide) dX8_exists_23 ?_
      obtain g0 := qe1 hf
      exact r_zret2 O E g0 rfl rfl dX8_exists_24
    · rw [if_neg hc7] at hf
      refine r_ald_n O 11 rfl 0 rfl dX8_exists_10 ?_
      refine r_get (ref := RX8) (C := RX8) (T := TX8) (N := 9) O 14 rfl inBX8 0 0 rfl rfl rfl (by decide) flX8_9 rfl rfl dX8_exists_11 ?_
      refine r_ild_n O 15 rfl 1 rfl dX8_exists_14 ?_
      obtain ⟨x15, ex15, hin15, hf⟩ := qld_some hf
      refine r_zald O 16 rfl 0 1 rfl rfl hin15 dX8_exists_15 ?_
      rw [← ex15]
      refine r_if_eq O 19 rfl 23 dX8_exists_16 (by decide) (fun hc16 => ?_) (fun hc16 => ?_)
      · rw [if_pos hc16] at hf
        refine r_ic O 24 rfl 0 (by decide) dX8_exists_23 ?_
        obtain g0 := qe1 hf
        exact r_zret2 O E g0 rfl rfl dX8_exists_24
      · rw [if_neg hc16] at hf
        refine r_ic O 20 rfl 1 (by decide) dX8_exists_19 ?_
        refine r_goto O 24 dX8_exists_20 (by decide) ?_
        obtain g0 := qe1 hf
        exact r_zret2 O E g0 rfl rfl dX8_exists_24
-- X8_kindOf
def rmX8_kindOf : Room := { frames := 0, cells := 0, slots := 0, locals := 0 }
set_option maxHeartbeats 4000000 in
set_option maxRecDepth 100000 in
theorem zX8_kindOf {l : Launch} {D : va_G} {cI cZ cQ : ClassId} {h_t : Nat → Nat} {u_t : Pk} {a1 : Int32} {r0 : Int32} (hf : fX8_kindOf u_t a1 = some r0) : MI l yX8_kindOf wsX8_kindOf rmX8_kindOf D (TY cI cZ cQ) [.ref (h_t 0), .int a1] [nX8 cI cZ cQ h_t u_t] r0 [nX8 cI cZ cQ h_t u_t] := by
  refine MI.of (own := RX8) (by decide +kernel) rfl rfl (Nat.le_of_ble_eq_true rfl) (lv0 := [(0, .ref (h_t 0)), (1, .int a1)]) rfl ?_
  intro X O E
  unfold fX8_kindOf at hf
  refine r_ild_n O 1 rfl 1 rfl dX8_kindOf_0 ?_
  refine r_if_lt O 4 rfl 19 dX8_kindOf_1 (by decide) (fun hc1 => ?_) (fun hc1 => ?_)
  · rw [if_pos hc1] at hf
    refine r_ic O 20 rfl 0 (by decide) dX8_kindOf_19 ?_
    obtain g0 := qe1 hf
    exact r_iret2 O E g0 rfl dX8_kindOf_20
  · rw [if_neg hc1] at hf
    refine r_ild_n O 5 rfl 1 rfl dX8_kindOf_4 ?_
    refine r_bi O 7 rfl 12 (by decide) dX8_kindOf_5 ?_
    refine r_icmp_ge O 10 rfl 19 dX8_kindOf_7 (by decide) (fun hc7 => ?_) (fun hc7 => ?_)
    · rw [if_pos hc7] at hf
      refine r_ic O 20 rfl 0 (by decide) dX8_kindOf_19 ?_
      obtain g0 := qe1 hf
      exact r_iret2 O E g0 rfl dX8_kindOf_20
    · rw [if_neg hc7] at hf
      refine r_ald_n O 11 rfl 0 rfl dX8_kindOf_10 ?_
      refine r_get (ref := RX8) (C := RX8) (T := TX8) (N := 9) O 14 rfl inBX8 0 6 rfl rfl rfl (by decide) flX8_31 rfl rfl dX8_kindOf_11 ?_
      refine r_ild_n O 15 rfl 1 rfl dX8_kindOf_14 ?_
      obtain ⟨x15, ex15, hin15, hf⟩ := qld_some hf
      refine r_iald O 16 rfl 0 7 rfl rfl hin15 dX8_kindOf_15 ?_
      rw [← ex15]
      refine r_goto O 20 dX8_kindOf_16 (by decide) ?_
      obtain g0 := qe1 hf
      exact r_iret2 O E g0 rfl dX8_kindOf_20
-- X8_isDrawnFor
def rmX8_isDrawnFor : Room := { frames := 1, cells := 0, slots := 0, locals := 23 }
set_option maxHeartbeats 4000000 in
set_option maxRecDepth 100000 in
theorem zX8_isDrawnFor {l : Launch} {D : va_G} {cI cZ cQ : ClassId} {h_t : Nat → Nat} {u_t : Pk} {a1 : Int32} {a2 : Int32} {a3 : Int32} {r0 : Int32} (hf : fX8_isDrawnFor u_t a1 a2 a3 = some r0) : MZ l yX8_isDrawnFor wsX8_isDrawnFor rmX8_isDrawnFor D (TY cI cZ cQ) [.ref (h_t 0), .int a1, .int a2, .int a3] [nX8 cI cZ cQ h_t u_t] r0 [nX8 cI cZ cQ h_t u_t] := by
  refine MZ.of (own := RX8) (by decide +kernel) rfl rfl (Nat.le_of_ble_eq_true rfl) (lv0 := [(0, .ref (h_t 0)), (1, .int a1), (2, .int a2), (3, .int a3)]) rfl ?_
  intro X O E
  unfold fX8_isDrawnFor at hf
  refine r_ald_n O 1 rfl 0 rfl dX8_isDrawnFor_0 ?_
  refine r_ild_n O 2 rfl 1 rfl dX8_isDrawnFor_1 ?_
  obtain ⟨x2, hq2, hf⟩ := qb1_some hf
  refine k_VZ O 5 rfl (zX8_exists (l := xl X) (D := xD X) (cI := cI) (cZ := cZ) (cQ := cQ) (h_t := h_t) hq2) (gV mlX8_52 mvX8_exists izX8) rfl rfl rfl hdX8_exists ⟨Nat.le_of_ble_eq_true rfl, Nat.le_of_ble_eq_true rfl⟩ rfl 0 rfl rfl rfl rfl (Nat.le_of_ble_eq_true rfl) ⟨Nat.zero_le _, Nat.zero_le _⟩ [0] rfl rfl rfl ([nX8 cI cZ cQ h_t u_t]) rfl dX8_isDrawnFor_2 (fun hz2 => ?_)
  refine r_if_ne O 8 rfl 10 dX8_isDrawnFor_5 (by decide) (fun hc5 => ?_) (fun hc5 => ?_)
  · rw [if_neg hc5] at hf
    refine r_ald_n O 11 rfl 0 rfl dX8_isDrawnFor_10 ?_
    refine r_ild_n O 12 rfl 1 rfl dX8_isDrawnFor_11 ?_
    refine r_ild_n O 13 rfl 2 rfl dX8_isDrawnFor_12 ?_
    refine r_ild_n O 14 rfl 3 rfl dX8_isDrawnFor_13 ?_
    obtain ⟨x14, hq14, hf⟩ := qb1_some hf
    refine k_VI O 17 rfl (zX8_sideValue (l := xl X) (D := xD X) (cI := cI) (cZ := cZ) (cQ := cQ) (h_t := h_t) hq14) (gV mlX8_58 mvX8_sideValue izX8) rfl rfl rfl hdX8_sideValue ⟨Nat.le_of_ble_eq_true rfl, Nat.le_of_ble_eq_true rfl⟩ rfl 0 rfl rfl rfl rfl (Nat.le_of_ble_eq_true rfl) ⟨Nat.zero_le _, Nat.zero_le _⟩ [0] rfl rfl rfl ([nX8 cI cZ cQ h_t u_t]) rfl dX8_isDrawnFor_14 ?_
    refine r_ist O 19 rfl [(4, .int x14), (0, .ref (h_t 0)), (1, .int a1), (2, .int a2), (3, .int a3)] dX8_isDrawnFor_17 (by decide) rfl ?_
    refine r_ild O 21 rfl 0 rfl dX8_isDrawnFor_19 ?_
    refine r_if_gt O 24 rfl 38 dX8_isDrawnFor_21 (by decide) (fun hc21 => ?_) (fun hc21 => ?_)
    · rw [if_pos hc21] at hf
      refine r_ic O 39 rfl 1 (by decide) dX8_isDrawnFor_38 ?_
      refine r_goto O 43 dX8_isDrawnFor_39 (by decide) ?_
      obtain g0 := qe1 hf
      exact r_zret2 O E g0 rfl rfl dX8_isDrawnFor_43
    · rw [if_neg hc21] at hf
      refine r_ild O 26 rfl 0 rfl dX8_isDrawnFor_24 ?_
      refine r_if_ge O 29 rfl 42 dX8_isDrawnFor_26 (by decide) (fun hc26 => ?_) (fun hc26 => ?_)
      · rw [if_pos hc26] at hf
        refine r_ic O 43 rfl 0 (by decide) dX8_isDrawnFor_42 ?_
        obtain g0 := qe1 hf
        exact r_zret2 O E g0 rfl rfl dX8_isDrawnFor_43
      · rw [if_neg hc26] at hf
        refine r_ald_n O 30 rfl 1 rfl dX8_isDrawnFor_29 ?_
        refine r_ild_n O 31 rfl 2 rfl dX8_isDrawnFor_30 ?_
        obtain ⟨x31, hq31, hf⟩ := qb1_some hf
        refine k_VI O 34 rfl (zX8_kindOf (l := xl X) (D := xD X) (cI := cI) (cZ := cZ) (cQ := cQ) (h_t := h_t) hq31) (gV mlX8_55 mvX8_kindOf izX8) rfl rfl rfl hdX8_kindOf ⟨Nat.le_of_ble_eq_true rfl, Nat.le_of_ble_eq_true rfl⟩ rfl 0 rfl rfl rfl rfl (Nat.le_of_ble_eq_true rfl) ⟨Nat.zero_le _, Nat.zero_le _⟩ [0] rfl rfl rfl ([nX8 cI cZ cQ h_t u_t]) rfl dX8_isDrawnFor_31 ?_
        refine r_ic O 35 rfl 2 (by decide) dX8_isDrawnFor_34 ?_
        refine r_icmp_eq O 38 rfl 42 dX8_isDrawnFor_35 (by decide) (fun hc35 => ?_) (fun hc35 => ?_)
        · rw [if_pos hc35] at hf
          refine r_ic O 43 rfl 0 (by decide) dX8_isDrawnFor_42 ?_
          obtain g0 := qe1 hf
          exact r_zret2 O E g0 rfl rfl dX8_isDrawnFor_43
        · rw [if_neg hc35] at hf
          refine r_ic O 39 rfl 1 (by decide) dX8_isDrawnFor_38 ?_
          refine r_goto O 43 dX8_isDrawnFor_39 (by decide) ?_
          obtain g0 := qe1 hf
          exact r_zret2 O E g0 rfl rfl dX8_isDrawnFor_43
  · rw [if_pos hc5] at hf
    refine r_ic O 9 rfl 0 (by decide) dX8_isDrawnFor_8 ?_
    obtain g0 := qe1 hf
    exact r_zret2 O E g0 rfl rfl dX8_isDrawnFor_9
-- X8_isFixed
def rmX8_isFixed : Room := { frames := 0, cells := 0, slots := 0, locals := 0 }
set_option maxHeartbeats 4000000 in
set_option maxRecDepth 100000 in
theorem zX8_isFixed {l : Launch} {D : va_G} {cI cZ cQ : ClassId} {h_t : Nat → Nat} {u_t : Pk} {a1 : Int32} {r0 : Int32} (hf : fX8_isFixed u_t a1 = some r0) : MZ l yX8_isFixed wsX8_isFixed rmX8_isFixed D (TY cI cZ cQ) [.ref (h_t 0), .int a1] [nX8 cI cZ cQ h_t u_t] r0 [nX8 cI cZ cQ h_t u_t] := by
  refine MZ.of (own := RX8) (by decide +kernel) rfl rfl (Nat.le_of_ble_eq_true rfl) (lv0 := [(0, .ref (h_t 0)), (1, .int a1)]) rfl ?_
  intro X O E
  unfold fX8_isFixed at hf
  refine r_ild_n O 1 rfl 1 rfl dX8_isFixed_0 ?_
  refine r_if_lt O 4 rfl 32 dX8_isFixed_1 (by decide) (fun hc1 => ?_) (fun hc1 => ?_)
  · rw [if_pos hc1] at hf
    refine r_ic O 33 rfl 0 (by decide) dX8_isFixed_32 ?_
    obtain g0 := qe1 hf
    exact r_zret2 O E g0 rfl rfl dX8_isFixed_33
  · rw [if_neg hc1] at hf
    refine r_ild_n O 5 rfl 1 rfl dX8_isFixed_4 ?_
    refine r_bi O 7 rfl 12 (by decide) dX8_isFixed_5 ?_
    refine r_icmp_ge O 10 rfl 32 dX8_isFixed_7 (by decide) (fun hc7 => ?_) (fun hc7 => ?_)
    · rw [if_pos hc7] at hf
      refine r_ic O 33 rfl 0 (by decide) dX8_isFixed_32 ?_
      obtain g0 := qe1 hf
      exact r_zret2 O E g0 rfl rfl dX8_isFixed_33
    · rw [if_neg hc7] at hf
      refine r_ald_n O 11 rfl 0 rfl dX8_isFixed_10 ?_
      refine r_get (ref := RX8) (C := RX8) (T := TX8) (N := 9) O 14 rfl inBX8 0 0 rfl rfl rfl (by decide) flX8_9 rfl rfl dX8_isFixed_11 ?_
      refine r_ild_n O 15 rfl 1 rfl dX8_isFixed_14 ?_
      obtain ⟨x15, ex15, hin15, hf⟩ := qld_some hf
      refine r_zald O 16 rfl 0 1 rfl rfl hin15 dX8_isFixed_15 ?_
      rw [← ex15]
      refine r_if_eq O 19 rfl 32 dX8_isFixed_16 (by decide) (fun hc16 => ?_) (fun hc16 => ?_)
      · rw [if_pos hc16] at hf
        refine r_ic O 33 rfl 0 (by decide) dX8_isFixed_32 ?_
        obtain g0 := qe1 hf
        exact r_zret2 O E g0 rfl rfl dX8_isFixed_33
      · rw [if_neg hc16] at hf
        refine r_ald_n O 20 rfl 0 rfl dX8_isFixed_19 ?_
        refine r_get (ref := RX8) (C := RX8) (T := TX8) (N := 9) O 23 rfl inBX8 0 1 rfl rfl rfl (by decide) flX8_15 rfl rfl dX8_isFixed_20 ?_
        refine r_ild_n O 24 rfl 1 rfl dX8_isFixed_23 ?_
        obtain ⟨x24, ex24, hin24, hf⟩ := qld_some hf
        refine r_zald O 25 rfl 0 2 rfl rfl hin24 dX8_isFixed_24 ?_
        rw [← ex24]
        refine r_if_ne O 28 rfl 32 dX8_isFixed_25 (by decide) (fun hc25 => ?_) (fun hc25 => ?_)
        · rw [if_neg hc25] at hf
          refine r_ic O 33 rfl 0 (by decide) dX8_isFixed_32 ?_
          obtain g0 := qe1 hf
          exact r_zret2 O E g0 rfl rfl dX8_isFixed_33
        · rw [if_pos hc25] at hf
          refine r_ic O 29 rfl 1 (by decide) dX8_isFixed_28 ?_
          refine r_goto O 33 dX8_isFixed_29 (by decide) ?_
          obtain g0 := qe1 hf
          exact r_zret2 O E g0 rfl rfl dX8_isFixed_33
-- X8_isMovable
def rmX8_isMovable : Room := { frames := 0, cells := 0, slots := 0, locals := 0 }
set_option maxHeartbeats 4000000 in
set_option maxRecDepth 100000 in
theorem zX8_isMovable {l : Launch} {D : va_G} {cI cZ cQ : ClassId} {h_t : Nat → Nat} {u_t : Pk} {a1 : Int32} {r0 : Int32} (hf : fX8_isMovable u_t a1 = some r0) : MZ l yX8_isMovable wsX8_isMovable rmX8_isMovable D (TY cI cZ cQ) [.ref (h_t 0), .int a1] [nX8 cI cZ cQ h_t u_t] r0 [nX8 cI cZ cQ h_t u_t] := by
  refine MZ.of (own := RX8) (by decide +kernel) rfl rfl (Nat.le_of_ble_eq_true rfl) (lv0 := [(0, .ref (h_t 0)), (1, .int a1)]) rfl ?_
  intro X O E
  unfold fX8_isMovable at hf
  refine r_ild_n O 1 rfl 1 rfl dX8_isMovable_0 ?_
  refine r_if_lt O 4 rfl 32 dX8_isMovable_1 (by decide) (fun hc1 => ?_) (fun hc1 => ?_)
  · rw [if_pos hc1] at hf
    refine r_ic O 33 rfl 0 (by decide) dX8_isMovable_32 ?_
    obtain g0 := qe1 hf
    exact r_zret2 O E g0 rfl rfl dX8_isMovable_33
  · rw [if_neg hc1] at hf
    refine r_ild_n O 5 rfl 1 rfl dX8_isMovable_4 ?_
    refine r_bi O 7 rfl 12 (by decide) dX8_isMovable_5 ?_
    refine r_icmp_ge O 10 rfl 32 dX8_isMovable_7 (by decide) (fun hc7 => ?_) (fun hc7 => ?_)
    · rw [if_pos hc7] at hf
      refine r_ic O 33 rfl 0 (by decide) dX8_isMovable_32 ?_
      obtain g0 := qe1 hf
      exact r_zret2 O E g0 rfl rfl dX8_isMovable_33
    · rw [if_neg hc7] at hf
      refine r_ald_n O 11 rfl 0 rfl dX8_isMovable_10 ?_
      refine r_get (ref := RX8) (C := RX8) (T := TX8) (N := 9) O 14 rfl inBX8 0 0 rfl rfl rfl (by decide) flX8_9 rfl rfl dX8_isMovable_11 ?_
      refine r_ild_n O 15 rfl 1 rfl dX8_isMovable_14 ?_
      obtain ⟨x15, ex15, hin15, hf⟩ := qld_some hf
      refine r_zald O 16 rfl 0 1 rfl rfl hin15 dX8_isMovable_15 ?_
      rw [← ex15]
      refine r_if_eq O 19 rfl 32 dX8_isMovable_16 (by decide) (fun hc16 => ?_) (fun hc16 => ?_)
      · rw [if_pos hc16] at hf
        refine r_ic O 33 rfl 0 (by decide) dX8_isMovable_32 ?_
        obtain g0 := qe1 hf
        exact r_zret2 O E g0 rfl rfl dX8_isMovable_33
      · rw [if_neg hc16] at hf
        refine r_ald_n O 20 rfl 0 rfl dX8_isMovable_19 ?_
        refine r_get (ref := RX8) (C := RX8) (T := TX8) (N := 9) O 23 rfl inBX8 0 1 rfl rfl rfl (by decide) flX8_15 rfl rfl dX8_isMovable_20 ?_
        refine r_ild_n O 24 rfl 1 rfl dX8_isMovable_23 ?_
        obtain ⟨x24, ex24, hin24, hf⟩ := qld_some hf
        refine r_zald O 25 rfl 0 2 rfl rfl hin24 dX8_isMovable_24 ?_
        rw [← ex24]
        refine r_if_eq O 28 rfl 32 dX8_isMovable_25 (by decide) (fun hc25 => ?_) (fun hc25 => ?_)
        · rw [if_pos hc25] at hf
          refine r_ic O 33 rfl 0 (by decide) dX8_isMovable_32 ?_
          obtain g0 := qe1 hf
          exact r_zret2 O E g0 rfl rfl dX8_isMovable_33
        · rw [if_neg hc25] at hf
          refine r_ic O 29 rfl 1 (by decide) dX8_isMovable_28 ?_
          refine r_goto O 33 dX8_isMovable_29 (by decide) ?_
          obtain g0 := qe1 hf
          exact r_zret2 O E g0 rfl rfl dX8_isMovable_33
-- X8_startX
def rmX8_startX : Room := { frames := 0, cells := 0, slots := 0, locals := 0 }
set_option maxHeartbeats 4000000 in
set_option maxRecDepth 100000 in
theorem zX8_startX {l : Launch} {D : va_G} {cI cZ cQ : ClassId} {h_t : Nat → Nat} {u_t : Pk} {a1 : Int32} {r0 : Int32} (hf : fX8_startX u_t a1 = some r0) : MI l yX8_startX wsX8_startX rmX8_startX D (TY cI cZ cQ) [.ref (h_t 0), .int a1] [nX8 cI cZ cQ h_t u_t] r0 [nX8 cI cZ cQ h_t u_t] := by
  refine MI.of (own := RX8) (by decide +kernel) rfl rfl (Nat.le_of_ble_eq_true rfl) (lv0 := [(0, .ref (h_t 0)), (1, .int a1)]) rfl ?_
  intro X O E
  unfold fX8_startX at hf
  refine r_ild_n O 1 rfl 1 rfl dX8_startX_0 ?_
  refine r_if_lt O 4 rfl 19 dX8_startX_1 (by decide) (fun hc1 => ?_) (fun hc1 => ?_)
  · rw [if_pos hc1] at hf
    refine r_ic O 20 rfl 0 (by decide) dX8_startX_19 ?_
    obtain g0 := qe1 hf
    exact r_iret2 O E g0 rfl dX8_startX_20
  · rw [if_neg hc1] at hf
    refine r_ild_n O 5 rfl 1 rfl dX8_startX_4 ?_
    refine r_bi O 7 rfl 12 (by decide) dX8_startX_5 ?_
    refine r_icmp_ge O 10 rfl 19 dX8_startX_7 (by decide) (fun hc7 => ?_) (fun hc7 => ?_)
    · rw [if_pos hc7] at hf
      refine r_ic O 20 rfl 0 (by decide) dX8_startX_19 ?_
      obtain g0 := qe1 hf
      exact r_iret2 O E g0 rfl dX8_startX_20
    · rw [if_neg hc7] at hf
      refine r_ald_n O 11 rfl 0 rfl dX8_startX_10 ?_
      refine r_get (ref := RX8) (C := RX8) (T := TX8) (N := 9) O 14 rfl inBX8 0 2 rfl rfl rfl (by decide) flX8_18 rfl rfl dX8_startX_11 ?_
      refine r_ild_n O 15 rfl 1 rfl dX8_startX_14 ?_
      obtain ⟨x15, ex15, hin15, hf⟩ := qld_some hf
      refine r_iald O 16 rfl 0 3 rfl rfl hin15 dX8_startX_15 ?_
      rw [← ex15]
      refine r_goto O 20 dX8_startX_16 (by decide) ?_
      obtain g0 := qe1 hf
      exact r_iret2 O E g0 rfl dX8_startX_20
-- X8_startY
def rmX8_startY : Room := { frames := 0, cells := 0, slots := 0, locals := 0 }
set_option maxHeartbeats 4000000 in
set_option maxRecDepth 100000 in
theorem zX8_startY {l : Launch} {D : va_G} {cI cZ cQ : ClassId} {h_t : Nat → Nat} {u_t : Pk} {a1 : Int32} {r0 : Int32} (hf : fX8_startY u_t a1 = some r0) : MI l yX8_startY wsX8_startY rmX8_startY D (TY cI cZ cQ) [.ref (h_t 0), .int a1] [nX8 cI cZ cQ h_t u_t] r0 [nX8 cI cZ cQ h_t u_t] := by
  refine MI.of (own := RX8) (by decide +kernel) rfl rfl (Nat.le_of_ble_eq_true rfl) (lv0 := [(0, .ref (h_t 0)), (1, .int a1)]) rfl ?_
  intro X O E
  unfold fX8_startY at hf
  refine r_ild_n O 1 rfl 1 rfl dX8_startY_0 ?_
  refine r_if_lt O 4 rfl 19 dX8_startY_1 (by decide) (fun hc1 => ?_) (fun hc1 => ?_)
  · rw [if_pos hc1] at hf
    refine r_ic O 20 rfl 0 (by decide) dX8_startY_19 ?_
    obtain g0 := qe1 hf
    exact r_iret2 O E g0 rfl dX8_startY_20
  · rw [if_neg hc1] at hf
    refine r_ild_n O 5 rfl 1 rfl dX8_startY_4 ?_
    refine r_bi O 7 rfl 12 (by decide) dX8_startY_5 ?_
    refine r_icmp_ge O 10 rfl 19 dX8_startY_7 (by decide) (fun hc7 => ?_) (fun hc7 => ?_)
    · rw [if_pos hc7] at hf
      refine r_ic O 20 rfl 0 (by decide) dX8_startY_19 ?_
      obtain g0 := qe1 hf
      exact r_iret2 O E g0 rfl dX8_startY_20
    · rw [if_neg hc7] at hf
      refine r_ald_n O 11 rfl 0 rfl dX8_startY_10 ?_
      refine r_get (ref := RX8) (C := RX8) (T := TX8) (N := 9) O 14 rfl inBX8 0 3 rfl rfl rfl (by decide) flX8_22 rfl rfl dX8_startY_11 ?_
      refine r_ild_n O 15 rfl 1 rfl dX8_startY_14 ?_
      obtain ⟨x15, ex15, hin15, hf⟩ := qld_some hf
      refine r_iald O 16 rfl 0 4 rfl rfl hin15 dX8_startY_15 ?_
      rw [← ex15]
      refine r_goto O 20 dX8_startY_16 (by decide) ?_
      obtain g0 := qe1 hf
      exact r_iret2 O E g0 rfl dX8_startY_20
-- X8_endX
def rmX8_endX : Room := { frames := 0, cells := 0, slots := 0, locals := 0 }
set_option maxHeartbeats 4000000 in
set_option maxRecDepth 100000 in
theorem zX8_endX {l : Launch} {D : va_G} {cI cZ cQ : ClassId} {h_t : Nat → Nat} {u_t : Pk} {a1 : Int32} {r0 : Int32} (hf : fX8_endX u_t a1 = some r0) : MI l yX8_endX wsX8_endX rmX8_endX D (TY cI cZ cQ) [.ref (h_t 0), .int a1] [nX8 cI cZ cQ h_t u_t] r0 [nX8 cI cZ cQ h_t u_t] := by
  refine MI.of (own := RX8) (by decide +kernel) rfl rfl (Nat.le_of_ble_eq_true rfl) (lv0 := [(0, .ref (h_t 0)), (1, .int a1)]) rfl ?_
  intro X O E
  unfold fX8_endX at hf
  refine r_ild_n O 1 rfl 1 rfl dX8_endX_0 ?_
  refine r_if_lt O 4 rfl 19 dX8_endX_1 (by decide) (fun hc1 => ?_) (fun hc1 => ?_)
  · rw [if_pos hc1] at hf
    refine r_ic O 20 rfl 0 (by decide) dX8_endX_19 ?_
    obtain g0 := qe1 hf
    exact r_iret2 O E g0 rfl dX8_endX_20
  · rw [if_neg hc1] at hf
    refine r_ild_n O 5 rfl 1 rfl dX8_endX_4 ?_
    refine r_bi O 7 rfl 12 (by decide) dX8_endX_5 ?_
    refine r_icmp_ge O 10 rfl 19 dX8_endX_7 (by decide) (fun hc7 => ?_) (fun hc7 => ?_)
    · rw [if_pos hc7] at hf
      refine r_ic O 20 rfl 0 (by decide) dX8_endX_19 ?_
      obtain g0 := qe1 hf
      exact r_iret2 O E g0 rfl dX8_endX_20
    · rw [if_neg hc7] at hf
      refine r_ald_n O 11 rfl 0 rfl dX8_endX_10 ?_
      refine r_get (ref := RX8) (C := RX8) (T := TX8) (N := 9) O 14 rfl inBX8 0 4 rfl rfl rfl (by decide) flX8_25 rfl rfl dX8_endX_11 ?_
      refine r_ild_n O 15 rfl 1 rfl dX8_endX_14 ?_
      obtain ⟨x15, ex15, hin15, hf⟩ := qld_some hf
      refine r_iald O 16 rfl 0 5 rfl rfl hin15 dX8_endX_15 ?_
      rw [← ex15]
      refine r_goto O 20 dX8_endX_16 (by decide) ?_
      obtain g0 := qe1 hf
      exact r_iret2 O E g0 rfl dX8_endX_20
-- X8_endY
def rmX8_endY : Room := { frames := 0, cells := 0, slots := 0, locals := 0 }
set_option maxHeartbeats 4000000 in
set_option maxRecDepth 100000 in
theorem zX8_endY {l : Launch} {D : va_G} {cI cZ cQ : ClassId} {h_t : Nat → Nat} {u_t : Pk} {a1 : Int32} {r0 : Int32} (hf : fX8_endY u_t a1 = some r0) : MI l yX8_endY wsX8_endY rmX8_endY D (TY cI cZ cQ) [.ref (h_t 0), .int a1] [nX8 cI cZ cQ h_t u_t] r0 [nX8 cI cZ cQ h_t u_t] := by
  refine MI.of (own := RX8) (by decide +kernel) rfl rfl (Nat.le_of_ble_eq_true rfl) (lv0 := [(0, .ref (h_t 0)), (1, .int a1)]) rfl ?_
  intro X O E
  unfold fX8_endY at hf
  refine r_ild_n O 1 rfl 1 rfl dX8_endY_0 ?_
  refine r_if_lt O 4 rfl 19 dX8_endY_1 (by decide) (fun hc1 => ?_) (fun hc1 => ?_)
  · rw [if_pos hc1] at hf
    refine r_ic O 20 rfl 0 (by decide) dX8_endY_19 ?_
    obtain g0 := qe1 hf
    exact r_iret2 O E g0 rfl dX8_endY_20
  · rw [if_neg hc1] at hf
    refine r_ild_n O 5 rfl 1 rfl dX8_endY_4 ?_
    refine r_bi O 7 rfl 12 (by decide) dX8_endY_5 ?_
    refine r_icmp_ge O 10 rfl 19 dX8_endY_7 (by decide) (fun hc7 => ?_) (fun hc7 => ?_)
    · rw [if_pos hc7] at hf
      refine r_ic O 20 rfl 0 (by decide) dX8_endY_19 ?_
      obtain g0 := qe1 hf
      exact r_iret2 O E g0 rfl dX8_endY_20
    · rw [if_neg hc7] at hf
      refine r_ald_n O 11 rfl 0 rfl dX8_endY_10 ?_
      refine r_get (ref := RX8) (C := RX8) (T := TX8) (N := 9) O 14 rfl inBX8 0 5 rfl rfl rfl (by decide) flX8_28 rfl rfl dX8_endY_11 ?_
      refine r_ild_n O 15 rfl 1 rfl dX8_endY_14 ?_
      obtain ⟨x15, ex15, hin15, hf⟩ := qld_some hf
      refine r_iald O 16 rfl 0 6 rfl rfl hin15 dX8_endY_15 ?_
      rw [← ex15]
      refine r_goto O 20 dX8_endY_16 (by decide) ?_
      obtain g0 := qe1 hf
      exact r_iret2 O E g0 rfl dX8_endY_20
-- X9_greatestDivisor
def rmX9_greatestDivisor : Room := { frames := 0, cells := 0, slots := 0, locals := 0 }
set_option maxHeartbeats 4000000 in
set_option maxRecDepth 100000 in
theorem zX9_greatestDivisor {l : Launch} {D : va_G} {cI cZ cQ : ClassId} {a1 : Int64} {a2 : Int64} {r0 : Int64} (hf : fX9_greatestDivisor a1 a2 = some r0) : ML l yX9_greatestDivisor wsX9_greatestDivisor rmX9_greatestDivisor D (TY cI cZ cQ) [.long a1, .long a2] [] r0 [] := by
  refine ML.of (own := RX9) (by decide +kernel) rfl rfl (Nat.le_of_ble_eq_true rfl) (lv0 := [(0, .long a1), (2, .long a2)]) rfl ?_
  intro X O E
  have B44 : ∀ (y4 : Int64), fX9_greatestDivisor_b44 y4 = some r0 → BK X 11 0 0 44 ([]) [(4, .long y4)] [] := by
    intro y4 hf
    unfold fX9_greatestDivisor_b44 at hf
    refine r_lld O 46 rfl 0 rfl dX9_greatestDivisor_44 ?_
    refine r_lc O 47 rfl 0 (by decide) dX9_greatestDivisor_46 ?_
    refine r_lcmp O 48 rfl dX9_greatestDivisor_47 ?_
    refine r_if_ge O 51 rfl 57 dX9_greatestDivisor_48 (by decide) (fun hc48 => ?_) (fun hc48 => ?_)
    · rw [if_pos hc48] at hf
      refine r_lld O 59 rfl 0 rfl dX9_greatestDivisor_57 ?_
      obtain g0 := qe1 hf
      exact r_lret2 O E g0 rfl dX9_greatestDivisor_59
    · rw [if_neg hc48] at hf
      refine r_lld O 53 rfl 0 rfl dX9_greatestDivisor_51 ?_
      refine r_lneg O 54 rfl dX9_greatestDivisor_53 ?_
      refine r_goto O 59 dX9_greatestDivisor_54 (by decide) ?_
      obtain g0 := qe1 hf
      exact r_lret2 O E g0 rfl dX9_greatestDivisor_59
  have B9 : ∀ n : Nat, ∀ (y4 : Int64) (y6 : Int64) (y8 : Int32), fX9_greatestDivisor_b9 n y4 y6 y8 = some r0 → BK X 11 0 0 9 ([]) [(4, .long y4), (6, .long y6), (8, .int y8)] [] := by
    intro n
    induction n with
    | zero => exact fun _ _ _ hf => qno hf
    | succ n hrec9 =>
      intro y4 y6 y8 hf
      have hf : fX9_greatestDivisor_b9_s (fX9_greatestDivisor_b9 n) y4 y6 y8 = some r0 := hf
      generalize fX9_greatestDivisor_b9 n = rec9 at hf hrec9
      unfold fX9_greatestDivisor_b9_s at hf
      refine r_ild O 11 rfl 2 rfl dX9_greatestDivisor_9 ?_
      refine r_bi O 13 rfl 100 (by decide) dX9_greatestDivisor_11 ?_
      refine r_icmp_ge O 16 rfl 44 dX9_greatestDivisor_13 (by decide) (fun hc13 => ?_) (fun hc13 => ?_)
      · rw [if_pos hc13] at hf
        refine r_lv [0] rfl ?_
        exact B44 _ hf
      · rw [if_neg hc13] at hf
        refine r_lld O 18 rfl 1 rfl dX9_greatestDivisor_16 ?_
        refine r_lc O 19 rfl 0 (by decide) dX9_greatestDivisor_18 ?_
        refine r_lcmp O 20 rfl dX9_greatestDivisor_19 ?_
        refine r_if_eq O 23 rfl 44 dX9_greatestDivisor_20 (by decide) (fun hc20 => ?_) (fun hc20 => ?_)
        · rw [if_pos hc20] at hf
          refine r_lv [0] rfl ?_
          exact B44 _ hf
        · rw [if_neg hc20] at hf
          refine r_lld O 25 rfl 0 rfl dX9_greatestDivisor_23 ?_
          refine r_lld O 27 rfl 1 rfl dX9_greatestDivisor_25 ?_
          obtain ⟨hne27, hf⟩ := qnzl_some hf
          refine r_lrem O 28 rfl dX9_greatestDivisor_27 hne27 ?_
          obtain ⟨x28, ex28, hf⟩ := qn_some hf
          rw [← ex28]
          refine r_lst O 30 rfl [(9, .long x28), (4, .long y4), (6, .long y6), (8, .int y8)] dX9_greatestDivisor_28 (by decide) rfl ?_
          refine r_lld O 32 rfl 2 rfl dX9_greatestDivisor_30 ?_
          refine r_lst O 34 rfl [(4, .long y6), (9, .long x28), (6, .long y6), (8, .int y8)] dX9_greatestDivisor_32 (by decide) rfl ?_
          refine r_lld O 36 rfl 1 rfl dX9_greatestDivisor_34 ?_
          refine r_lst O 38 rfl [(6, .long x28), (4, .long y6), (9, .long x28), (8, .int y8)] dX9_greatestDivisor_36 (by decide) rfl ?_
          obtain ⟨x38, ex38, hf⟩ := qn_some hf
          refine r_iinc O 41 rfl x38 3 rfl (by rw [ex38]; rfl) [(8, .int x38), (6, .long x28), (4, .long y6), (9, .long x28)] dX9_greatestDivisor_38 (by decide) rfl ?_
          refine r_goto O 9 dX9_greatestDivisor_41 (by decide) ?_
          refine r_lv [2, 1, 0] rfl ?_
          exact hrec9 _ _ _ hf
  unfold fX9_greatestDivisor at hf
  refine r_lld_n O 1 rfl 0 rfl dX9_greatestDivisor_0 ?_
  refine r_lst O 3 rfl [(4, .long a1), (0, .long a1), (2, .long a2)] dX9_greatestDivisor_1 (by decide) rfl ?_
  refine r_lld_n O 4 rfl 2 rfl dX9_greatestDivisor_3 ?_
  refine r_lst O 6 rfl [(6, .long a2), (4, .long a1), (0, .long a1), (2, .long a2)] dX9_greatestDivisor_4 (by decide) rfl ?_
  refine r_ic O 7 rfl 0 (by decide) dX9_greatestDivisor_6 ?_
  refine r_ist O 9 rfl [(8, .int 0), (6, .long a2), (4, .long a1), (0, .long a1), (2, .long a2)] dX9_greatestDivisor_7 (by decide) rfl ?_
  refine r_lv [2, 1, 0] rfl ?_
  exact B9 FU _ _ _ hf
-- X8_copyWalls
def rmX8_copyWalls : Room := { frames := 0, cells := 0, slots := 0, locals := 0 }
set_option maxHeartbeats 4000000 in
set_option maxRecDepth 100000 in
theorem zX8_copyWalls {l : Launch} {D : va_G} {cI cZ cQ : ClassId} {h_t h_o : Nat → Nat} {u_o u_t : Pk} {v_t : Pk} (hf : fX8_copyWalls u_o u_t = some v_t) : MV l yX8_copyWalls wsX8_copyWalls rmX8_copyWalls D (TY cI cZ cQ) [.ref (h_t 0), .ref (h_o 0)] [nX8 cI cZ cQ h_t u_t, nX8 cI cZ cQ h_o u_o] [nX8 cI cZ cQ h_t v_t, nX8 cI cZ cQ h_o u_o] := by
  refine MV.of (own := RX8) (by decide +kernel) rfl rfl (Nat.le_of_ble_eq_true rfl) (lv0 := [(0, .ref (h_t 0)), (1, .ref (h_o 0))]) rfl ?_
  intro X O E
  have B2 : ∀ n : Nat, ∀ (w_t : Pk) (y2 : Int32), fX8_copyWalls_b2 u_o n w_t y2 = some v_t → BK X 3 0 0 2 ([nX8 cI cZ cQ h_t w_t, nX8 cI cZ cQ h_o u_o]) [(0, .ref (h_t 0)), (1, .ref (h_o 0)), (2, .int y2)] [] := by
    intro n
    induction n with
    | zero => exact fun _ _ hf => qno hf
    | succ n hrec2 =>
      intro w_t y2 hf
      have hf : fX8_copyWalls_b2_s (fX8_copyWalls_b2 u_o n) u_o w_t y2 = some v_t := hf
      generalize fX8_copyWalls_b2 u_o n = rec2 at hf hrec2
      unfold fX8_copyWalls_b2_s at hf
      refine r_ild_n O 3 rfl 2 rfl dX8_copyWalls_2 ?_
      refine r_bi O 5 rfl 12 (by decide) dX8_copyWalls_3 ?_
      refine r_icmp_ge O 8 rfl 98 dX8_copyWalls_5 (by decide) (fun hc5 => ?_) (fun hc5 => ?_)
      · rw [if_pos hc5] at hf
        obtain g0 := qe1 hf
        exact r_vret2 O E (by rw [g0]) dX8_copyWalls_98
      · rw [if_neg hc5] at hf
        refine r_ald_n O 9 rfl 0 rfl dX8_copyWalls_8 ?_
        refine r_get (ref := RX8) (C := RX8) (T := TX8) (N := 9) O 12 rfl inBX8 0 0 rfl rfl rfl (by decide) flX8_9 rfl rfl dX8_copyWalls_9 ?_
        refine r_ild_n O 13 rfl 2 rfl dX8_copyWalls_12 ?_
        refine r_ald_n O 14 rfl 1 rfl dX8_copyWalls_13 ?_
        refine r_get (ref := RX8) (C := RX8) (T := TX8) (N := 9) O 17 rfl inBX8 1 0 rfl rfl rfl (by decide) flX8_9 rfl rfl dX8_copyWalls_14 ?_
        refine r_ild_n O 18 rfl 2 rfl dX8_copyWalls_17 ?_
        obtain ⟨x18, ex18, hin18, hf⟩ := qld_some hf
        refine r_zald O 19 rfl 1 1 rfl rfl hin18 dX8_copyWalls_18 ?_
        rw [← ex18]
        obtain ⟨hin19, hf⟩ := qst_some hf
        obtain ⟨p19_t, ep19_t, hf⟩ := qn_some hf
        refine r_zast O 20 rfl 0 1 rfl rfl hin19 ([nX8 cI cZ cQ h_t p19_t, nX8 cI cZ cQ h_o u_o]) (by rw [ep19_t]; rfl) dX8_copyWalls_19 ?_
        refine r_ald_n O 21 rfl 0 rfl dX8_copyWalls_20 ?_
        refine r_get (ref := RX8) (C := RX8) (T := TX8) (N := 9) O 24 rfl inBX8 0 1 rfl rfl rfl (by decide) flX8_15 rfl rfl dX8_copyWalls_21 ?_
        refine r_ild_n O 25 rfl 2 rfl dX8_copyWalls_24 ?_
        refine r_ald_n O 26 rfl 1 rfl dX8_copyWalls_25 ?_
        refine r_get (ref := RX8) (C := RX8) (T := TX8) (N := 9) O 29 rfl inBX8 1 1 rfl rfl rfl (by decide) flX8_15 rfl rfl dX8_copyWalls_26 ?_
        refine r_ild_n O 30 rfl 2 rfl dX8_copyWalls_29 ?_
        obtain ⟨x30, ex30, hin30, hf⟩ := qld_some hf
        refine r_zald O 31 rfl 1 2 rfl rfl hin30 dX8_copyWalls_30 ?_
        rw [← ex30]
        obtain ⟨hin31, hf⟩ := qst_some hf
        obtain ⟨p31_t, ep31_t, hf⟩ := qn_some hf
        refine r_zast O 32 rfl 0 2 rfl rfl hin31 ([nX8 cI cZ cQ h_t p31_t, nX8 cI cZ cQ h_o u_o]) (by rw [ep31_t]; rfl) dX8_copyWalls_31 ?_
        refine r_ald_n O 33 rfl 0 rfl dX8_copyWalls_32 ?_
        refine r_get (ref := RX8) (C := RX8) (T := TX8) (N := 9) O 36 rfl inBX8 0 2 rfl rfl rfl (by decide) flX8_18 rfl rfl dX8_copyWalls_33 ?_
        refine r_ild_n O 37 rfl 2 rfl dX8_copyWalls_36 ?_
        refine r_ald_n O 38 rfl 1 rfl dX8_copyWalls_37 ?_
        refine r_get (ref := RX8) (C := RX8) (T := TX8) (N := 9) O 41 rfl inBX8 1 2 rfl rfl rfl (by decide) flX8_18 rfl rfl dX8_copyWalls_38 ?_
        refine r_ild_n O 42 rfl 2 rfl dX8_copyWalls_41 ?_
        obtain ⟨x42, ex42, hin42, hf⟩ := qld_some hf
        refine r_iald O 43 rfl 1 3 rfl rfl hin42 dX8_copyWalls_42 ?_
        rw [← ex42]
        obtain ⟨hin43, hf⟩ := qst_some hf
        obtain ⟨p43_t, ep43_t, hf⟩ := qn_some hf
        refine r_iast O 44 rfl 0 3 rfl rfl hin43 ([nX8 cI cZ cQ h_t p43_t, nX8 cI cZ cQ h_o u_o]) (by rw [ep43_t]; rfl) dX8_copyWalls_43 ?_
        refine r_ald_n O 45 rfl 0 rfl dX8_copyWalls_44 ?_
        refine r_get (ref := RX8) (C := RX8) (T := TX8) (N := 9) O 48 rfl inBX8 0 3 rfl rfl rfl (by decide) flX8_22 rfl rfl dX8_copyWalls_45 ?_
        refine r_ild_n O 49 rfl 2 rfl dX8_copyWalls_48 ?_
        refine r_ald_n O 50 rfl 1 rfl dX8_copyWalls_49 ?_
        refine r_get (ref := RX8) (C := RX8) (T := TX8) (N := 9) O 53 rfl inBX8 1 3 rfl rfl rfl (by decide) flX8_22 rfl rfl dX8_copyWalls_50 ?_
        refine r_ild_n O 54 rfl 2 rfl dX8_copyWalls_53 ?_
        obtain ⟨x54, ex54, hin54, hf⟩ := qld_some hf
        refine r_iald O 55 rfl 1 4 rfl rfl hin54 dX8_copyWalls_54 ?_
        rw [← ex54]
        obtain ⟨hin55, hf⟩ := qst_some hf
        obtain ⟨p55_t, ep55_t, hf⟩ := qn_some hf
        refine r_iast O 56 rfl 0 4 rfl rfl hin55 ([nX8 cI cZ cQ h_t p55_t, nX8 cI cZ cQ h_o u_o]) (by rw [ep55_t]; rfl) dX8_copyWalls_55 ?_
        refine r_ald_n O 57 rfl 0 rfl dX8_copyWalls_56 ?_
        refine r_get (ref := RX8) (C := RX8) (T := TX8) (N := 9) O 60 rfl inBX8 0 4 rfl rfl rfl (by decide) flX8_25 rfl rfl dX8_copyWalls_57 ?_
        refine r_ild_n O 61 rfl 2 rfl dX8_copyWalls_60 ?_
        refine r_ald_n O 62 rfl 1 rfl dX8_copyWalls_61 ?_
        refine r_get (ref := RX8) (C := RX8) (T := TX8) (N := 9) O 65 rfl inBX8 1 4 rfl rfl rfl (by decide) flX8_25 rfl rfl dX8_copyWalls_62 ?_
        refine r_ild_n O 66 rfl 2 rfl dX8_copyWalls_65 ?_
        obtain ⟨x66, ex66, hin66, hf⟩ := qld_some hf
        refine r_iald O 67 rfl 1 5 rfl rfl hin66 dX8_copyWalls_66 ?_
        rw [← ex66]
        obtain ⟨hin67, hf⟩ := qst_some hf
        obtain ⟨p67_t, ep67_t, hf⟩ := qn_some hf
        refine r_iast O 68 rfl 0 5 rfl rfl hin67 ([nX8 cI cZ cQ h_t p67_t, nX8 cI cZ cQ h_o u_o]) (by rw [ep67_t]; rfl) dX8_copyWalls_67 ?_
        refine r_ald_n O 69 rfl 0 rfl dX8_copyWalls_68 ?_
        refine r_get (ref := RX8) (C := RX8) (T := TX8) (N := 9) O 72 rfl inBX8 0 5 rfl rfl rfl (by decide) flX8_28 rfl rfl dX8_copyWalls_69 ?_
        refine r_ild_n O 73 rfl 2 rfl dX8_copyWalls_72 ?_
        refine r_ald_n O 74 rfl 1 rfl dX8_copyWalls_73 ?_
        refine r_get (ref := RX8) (C := RX8) (T := TX8) (N := 9) O 77 rfl inBX8 1 5 rfl rfl rfl (by decide) flX8_28 rfl rfl dX8_copyWalls_74 ?_
        refine r_ild_n O 78 rfl 2 rfl dX8_copyWalls_77 ?_
        obtain ⟨x78, ex78, hin78, hf⟩ := qld_some hf
        refine r_iald O 79 rfl 1 6 rfl rfl hin78 dX8_copyWalls_78 ?_
        rw [← ex78]
        obtain ⟨hin79, hf⟩ := qst_some hf
        obtain ⟨p79_t, ep79_t, hf⟩ := qn_some hf
        refine r_iast O 80 rfl 0 6 rfl rfl hin79 ([nX8 cI cZ cQ h_t p79_t, nX8 cI cZ cQ h_o u_o]) (by rw [ep79_t]; rfl) dX8_copyWalls_79 ?_
        refine r_ald_n O 81 rfl 0 rfl dX8_copyWalls_80 ?_
        refine r_get (ref := RX8) (C := RX8) (T := TX8) (N := 9) O 84 rfl inBX8 0 6 rfl rfl rfl (by decide) flX8_31 rfl rfl dX8_copyWalls_81 ?_
        refine r_ild_n O 85 rfl 2 rfl dX8_copyWalls_84 ?_
        refine r_ald_n O 86 rfl 1 rfl dX8_copyWalls_85 ?_
        refine r_get (ref := RX8) (C := RX8) (T := TX8) (N := 9) O 89 rfl inBX8 1 6 rfl rfl rfl (by decide) flX8_31 rfl rfl dX8_copyWalls_86 ?_
        refine r_ild_n O 90 rfl 2 rfl dX8_copyWalls_89 ?_
        obtain ⟨x90, ex90, hin90, hf⟩ := qld_some hf
        refine r_iald O 91 rfl 1 7 rfl rfl hin90 dX8_copyWalls_90 ?_
        rw [← ex90]
        obtain ⟨hin91, hf⟩ := qst_some hf
        obtain ⟨p91_t, ep91_t, hf⟩ := qn_some hf
        refine r_iast O 92 rfl 0 7 rfl rfl hin91 ([nX8 cI cZ cQ h_t p91_t, nX8 cI cZ cQ h_o u_o]) (by rw [ep91_t]; rfl) dX8_copyWalls_91 ?_
        obtain ⟨x92, ex92, hf⟩ := qn_some hf
        refine r_iinc O 95 rfl x92 2 rfl (by rw [ex92]; rfl) [(2, .int x92), (0, .ref (h_t 0)), (1, .ref (h_o 0))] dX8_copyWalls_92 (by decide) rfl ?_
        refine r_goto O 2 dX8_copyWalls_95 (by decide) ?_
        refine r_lv [1, 2, 0] rfl ?_
        exact hrec2 _ _ hf
  unfold fX8_copyWalls at hf
  refine r_ic O 1 rfl 0 (by decide) dX8_copyWalls_0 ?_
  refine r_ist_n O 2 rfl rfl [(2, .int 0), (0, .ref (h_t 0)), (1, .ref (h_o 0))] dX8_copyWalls_1 (by decide) rfl ?_
  refine r_lv [1, 2, 0] rfl ?_
  exact B2 FU _ _ hf
-- X8_changeWeights
def rmX8_changeWeights : Room := { frames := 0, cells := 0, slots := 0, locals := 0 }
set_option maxHeartbeats 4000000 in
set_option maxRecDepth 100000 in
theorem zX8_changeWeights {l : Launch} {D : va_G} {cI cZ cQ : ClassId} {h_t : Nat → Nat} {u_t : Pk} {a1 : Int32} {a2 : Int32} {v_t : Pk} (hf : fX8_changeWeights u_t a1 a2 = some v_t) : MV l yX8_changeWeights wsX8_changeWeights rmX8_changeWeights D (TY cI cZ cQ) [.ref (h_t 0), .int a1, .int a2] [nX8 cI cZ cQ h_t u_t] [nX8 cI cZ cQ h_t v_t] := by
  refine MV.of (own := RX8) (by decide +kernel) rfl rfl (Nat.le_of_ble_eq_true rfl) (lv0 := [(0, .ref (h_t 0)), (1, .int a1), (2, .int a2)]) rfl ?_
  intro X O E
  unfold fX8_changeWeights at hf
  refine r_ald_n O 1 rfl 0 rfl dX8_changeWeights_0 ?_
  refine r_ild_n O 2 rfl 1 rfl dX8_changeWeights_1 ?_
  obtain ⟨p2_t, ep2_t, hf⟩ := qn_some hf
  refine r_put (ref := RX8) (C := RX8) (T := TX8) (N := 9) O 5 rfl inBX8 tyX8 tyX8_ok nmX8 0 7 rfl rfl rfl (by decide) flX8_34 rfl rfl rfl rfl (Nat.le_of_ble_eq_true rfl) ([nX8 cI cZ cQ h_t p2_t]) (by rw [ep2_t]; rfl) dX8_changeWeights_2 ?_
  refine r_ald_n O 6 rfl 0 rfl dX8_changeWeights_5 ?_
  refine r_ild_n O 7 rfl 2 rfl dX8_changeWeights_6 ?_
  obtain ⟨p7_t, ep7_t, hf⟩ := qn_some hf
  refine r_put (ref := RX8) (C := RX8) (T := TX8) (N := 9) O 10 rfl inBX8 tyX8 tyX8_ok nmX8 0 8 rfl rfl rfl (by decide) flX8_38 rfl rfl rfl rfl (Nat.le_of_ble_eq_true rfl) ([nX8 cI cZ cQ h_t p7_t]) (by rw [ep7_t]; rfl) dX8_changeWeights_7 ?_
  obtain g0 := qe1 hf
  exact r_vret2 O E (by rw [g0]) dX8_changeWeights_10
-- X8_copyFrom
def rmX8_copyFrom : Room := { frames := 1, cells := 0, slots := 0, locals := 22 }
set_option maxHeartbeats 4000000 in
set_option maxRecDepth 100000 in
theorem zX8_copyFrom {l : Launch} {D : va_G} {cI cZ cQ : ClassId} {h_t h_o : Nat → Nat} {u_o u_t : Pk} {v_t : Pk} (hf : fX8_copyFrom u_o u_t = some v_t) : MV l yX8_copyFrom wsX8_copyFrom rmX8_copyFrom D (TY cI cZ cQ) [.ref (h_t 0), .ref (h_o 0)] [nX8 cI cZ cQ h_t u_t, nX8 cI cZ cQ h_o u_o] [nX8 cI cZ cQ h_t v_t, nX8 cI cZ cQ h_o u_o] := by
  refine MV.of (own := RX8) (by decide +kernel) rfl rfl (Nat.le_of_ble_eq_true rfl) (lv0 := [(0, .ref (h_t 0)), (1, .ref (h_o 0))]) rfl ?_
  intro X O E
  unfold fX8_copyFrom at hf
  refine r_ald_n O 1 rfl 0 rfl dX8_copyFrom_0 ?_
  refine r_ald_n O 2 rfl 1 rfl dX8_copyFrom_1 ?_
  obtain ⟨p2_t, hq2, hf⟩ := qb1_some hf
  refine k_VV O 5 rfl (zX8_copyWalls (l := xl X) (D := xD X) (cI := cI) (cZ := cZ) (cQ := cQ) (h_t := h_t) (h_o := h_o) hq2) (gV mlX8_62 mvX8_copyWalls izX8) rfl rfl rfl hdX8_copyWalls ⟨Nat.le_of_ble_eq_true rfl, Nat.le_of_ble_eq_true rfl⟩ rfl 0 rfl rfl rfl rfl (Nat.le_of_ble_eq_true rfl) ⟨Nat.zero_le _, Nat.zero_le _⟩ [0, 1] rfl rfl rfl ([nX8 cI cZ cQ h_t p2_t, nX8 cI cZ cQ h_o u_o]) rfl dX8_copyFrom_2 ?_
  refine r_ald_n O 6 rfl 0 rfl dX8_copyFrom_5 ?_
  refine r_ald_n O 7 rfl 1 rfl dX8_copyFrom_6 ?_
  refine r_get (ref := RX8) (C := RX8) (T := TX8) (N := 9) O 10 rfl inBX8 1 7 rfl rfl rfl (by decide) flX8_34 rfl rfl dX8_copyFrom_7 ?_
  refine r_ald_n O 11 rfl 1 rfl dX8_copyFrom_10 ?_
  refine r_get (ref := RX8) (C := RX8) (T := TX8) (N := 9) O 14 rfl inBX8 1 8 rfl rfl rfl (by decide) flX8_38 rfl rfl dX8_copyFrom_11 ?_
  obtain ⟨p14_t, hq14, hf⟩ := qb1_some hf
  refine k_VV O 17 rfl (zX8_changeWeights (l := xl X) (D := xD X) (cI := cI) (cZ := cZ) (cQ := cQ) (h_t := h_t) hq14) (gV mlX8_66 mvX8_changeWeights izX8) rfl rfl rfl hdX8_changeWeights ⟨Nat.le_of_ble_eq_true rfl, Nat.le_of_ble_eq_true rfl⟩ rfl 0 rfl rfl rfl rfl (Nat.le_of_ble_eq_true rfl) ⟨Nat.zero_le _, Nat.zero_le _⟩ [0] rfl rfl rfl ([nX8 cI cZ cQ h_t p14_t, nX8 cI cZ cQ h_o u_o]) rfl dX8_copyFrom_14 ?_
  obtain g0 := qe1 hf
  exact r_vret2 O E (by rw [g0]) dX8_copyFrom_17
-- X8_wayX
def rmX8_wayX : Room := { frames := 0, cells := 0, slots := 0, locals := 0 }
set_option maxHeartbeats 4000000 in
set_option maxRecDepth 100000 in
theorem zX8_wayX {l : Launch} {D : va_G} {cI cZ cQ : ClassId} {h_t : Nat → Nat} {u_t : Pk} {a1 : Int32} {r0 : Int32} (hf : fX8_wayX u_t a1 = some r0) : MI l yX8_wayX wsX8_wayX rmX8_wayX D (TY cI cZ cQ) [.ref (h_t 0), .int a1] [nX8 cI cZ cQ h_t u_t] r0 [nX8 cI cZ cQ h_t u_t] := by
  refine MI.of (own := RX8) (by decide +kernel) rfl rfl (Nat.le_of_ble_eq_true rfl) (lv0 := [(0, .ref (h_t 0)), (1, .int a1)]) rfl ?_
  intro X O E
  unfold fX8_wayX at hf
  refine r_ild_n O 1 rfl 1 rfl dX8_wayX_0 ?_
  refine r_if_lt O 4 rfl 26 dX8_wayX_1 (by decide) (fun hc1 => ?_) (fun hc1 => ?_)
  · rw [if_pos hc1] at hf
    refine r_ic O 27 rfl 0 (by decide) dX8_wayX_26 ?_
    obtain g0 := qe1 hf
    exact r_iret2 O E g0 rfl dX8_wayX_27
  · rw [if_neg hc1] at hf
    refine r_ild_n O 5 rfl 1 rfl dX8_wayX_4 ?_
    refine r_bi O 7 rfl 12 (by decide) dX8_wayX_5 ?_
    refine r_icmp_ge O 10 rfl 26 dX8_wayX_7 (by decide) (fun hc7 => ?_) (fun hc7 => ?_)
    · rw [if_pos hc7] at hf
      refine r_ic O 27 rfl 0 (by decide) dX8_wayX_26 ?_
      obtain g0 := qe1 hf
      exact r_iret2 O E g0 rfl dX8_wayX_27
    · rw [if_neg hc7] at hf
      refine r_ald_n O 11 rfl 0 rfl dX8_wayX_10 ?_
      refine r_get (ref := RX8) (C := RX8) (T := TX8) (N := 9) O 14 rfl inBX8 0 4 rfl rfl rfl (by decide) flX8_25 rfl rfl dX8_wayX_11 ?_
      refine r_ild_n O 15 rfl 1 rfl dX8_wayX_14 ?_
      obtain ⟨x15, ex15, hin15, hf⟩ := qld_some hf
      refine r_iald O 16 rfl 0 5 rfl rfl hin15 dX8_wayX_15 ?_
      rw [← ex15]
      refine r_ald_n O 17 rfl 0 rfl dX8_wayX_16 ?_
      refine r_get (ref := RX8) (C := RX8) (T := TX8) (N := 9) O 20 rfl inBX8 0 2 rfl rfl rfl (by decide) flX8_18 rfl rfl dX8_wayX_17 ?_
      refine r_ild_n O 21 rfl 1 rfl dX8_wayX_20 ?_
      obtain ⟨x21, ex21, hin21, hf⟩ := qld_some hf
      refine r_iald O 22 rfl 0 3 rfl rfl hin21 dX8_wayX_21 ?_
      rw [← ex21]
      refine r_isub O 23 rfl dX8_wayX_22 ?_
      refine r_goto O 27 dX8_wayX_23 (by decide) ?_
      obtain g0 := qe1 hf
      exact r_iret2 O E g0 rfl dX8_wayX_27
-- X8_wayY
def rmX8_wayY : Room := { frames := 0, cells := 0, slots := 0, locals := 0 }
set_option maxHeartbeats 4000000 in
set_option maxRecDepth 100000 in
theorem zX8_wayY {l : Launch} {D : va_G} {cI cZ cQ : ClassId} {h_t : Nat → Nat} {u_t : Pk} {a1 : Int32} {r0 : Int32} (hf : fX8_wayY u_t a1 = some r0) : MI l yX8_wayY wsX8_wayY rmX8_wayY D (TY cI cZ cQ) [.ref (h_t 0), .int a1] [nX8 cI cZ cQ h_t u_t] r0 [nX8 cI cZ cQ h_t u_t] := by
  refine MI.of (own := RX8) (by decide +kernel) rfl rfl (Nat.le_of_ble_eq_true rfl) (lv0 := [(0, .ref (h_t 0)), (1, .int a1)]) rfl ?_
  intro X O E
  unfold fX8_wayY at hf
  refine r_ild_n O 1 rfl 1 rfl dX8_wayY_0 ?_
  refine r_if_lt O 4 rfl 26 dX8_wayY_1 (by decide) (fun hc1 => ?_) (fun hc1 => ?_)
  · rw [if_pos hc1] at hf
    refine r_ic O 27 rfl 0 (by decide) dX8_wayY_26 ?_
    obtain g0 := qe1 hf
    exact r_iret2 O E g0 rfl dX8_wayY_27
  · rw [if_neg hc1] at hf
    refine r_ild_n O 5 rfl 1 rfl dX8_wayY_4 ?_
    refine r_bi O 7 rfl 12 (by decide) dX8_wayY_5 ?_
    refine r_icmp_ge O 10 rfl 26 dX8_wayY_7 (by decide) (fun hc7 => ?_) (fun hc7 => ?_)
    · rw [if_pos hc7] at hf
      refine r_ic O 27 rfl 0 (by decide) dX8_wayY_26 ?_
      obtain g0 := qe1 hf
      exact r_iret2 O E g0 rfl dX8_wayY_27
    · rw [if_neg hc7] at hf
      refine r_ald_n O 11 rfl 0 rfl dX8_wayY_10 ?_
      refine r_get (ref := RX8) (C := RX8) (T := TX8) (N := 9) O 14 rfl inBX8 0 5 rfl rfl rfl (by decide) flX8_28 rfl rfl dX8_wayY_11 ?_
      refine r_ild_n O 15 rfl 1 rfl dX8_wayY_14 ?_
      obtain ⟨x15, ex15, hin15, hf⟩ := qld_some hf
      refine r_iald O 16 rfl 0 6 rfl rfl hin15 dX8_wayY_15 ?_
      rw [← ex15]
      refine r_ald_n O 17 rfl 0 rfl dX8_wayY_16 ?_
      refine r_get (ref := RX8) (C := RX8) (T := TX8) (N := 9) O 20 rfl inBX8 0 3 rfl rfl rfl (by decide) flX8_22 rfl rfl dX8_wayY_17 ?_
      refine r_ild_n O 21 rfl 1 rfl dX8_wayY_20 ?_
      obtain ⟨x21, ex21, hin21, hf⟩ := qld_some hf
      refine r_iald O 22 rfl 0 4 rfl rfl hin21 dX8_wayY_21 ?_
      rw [← ex21]
      refine r_isub O 23 rfl dX8_wayY_22 ?_
      refine r_goto O 27 dX8_wayY_23 (by decide) ?_
      obtain g0 := qe1 hf
      exact r_iret2 O E g0 rfl dX8_wayY_27
-- X8_squaredLength
def rmX8_squaredLength : Room := { frames := 1, cells := 0, slots := 0, locals := 21 }
set_option maxHeartbeats 4000000 in
set_option maxRecDepth 100000 in
theorem zX8_squaredLength {l : Launch} {D : va_G} {cI cZ cQ : ClassId} {h_t : Nat → Nat} {u_t : Pk} {a1 : Int32} {r0 : Int32} (hf : fX8_squaredLength u_t a1 = some r0) : MI l yX8_squaredLength wsX8_squaredLength rmX8_squaredLength D (TY cI cZ cQ) [.ref (h_t 0), .int a1] [nX8 cI cZ cQ h_t u_t] r0 [nX8 cI cZ cQ h_t u_t] := by
  refine MI.of (own := RX8) (by decide +kernel) rfl rfl (Nat.le_of_ble_eq_true rfl) (lv0 := [(0, .ref (h_t 0)), (1, .int a1)]) rfl ?_
  intro X O E
  unfold fX8_squaredLength at hf
  refine r_ald_n O 1 rfl 0 rfl dX8_squaredLength_0 ?_
  refine r_ild_n O 2 rfl 1 rfl dX8_squaredLength_1 ?_
  obtain ⟨x2, hq2, hf⟩ := qb1_some hf
  refine k_VI O 5 rfl (zX8_wayX (l := xl X) (D := xD X) (cI := cI) (cZ := cZ) (cQ := cQ) (h_t := h_t) hq2) (gV mlX8_45 mvX8_wayX izX8) rfl rfl rfl hdX8_wayX ⟨Nat.le_of_ble_eq_true rfl, Nat.le_of_ble_eq_true rfl⟩ rfl 0 rfl rfl rfl rfl (Nat.le_of_ble_eq_true rfl) ⟨Nat.zero_le _, Nat.zero_le _⟩ [0] rfl rfl rfl ([nX8 cI cZ cQ h_t u_t]) rfl dX8_squaredLength_2 ?_
  refine r_ald_n O 6 rfl 0 rfl dX8_squaredLength_5 ?_
  refine r_ild_n O 7 rfl 1 rfl dX8_squaredLength_6 ?_
  obtain ⟨x7, hq7, hf⟩ := qb1_some hf
  refine k_VI O 10 rfl (zX8_wayX (l := xl X) (D := xD X) (cI := cI) (cZ := cZ) (cQ := cQ) (h_t := h_t) hq7) (gV mlX8_45 mvX8_wayX izX8) rfl rfl rfl hdX8_wayX ⟨Nat.le_of_ble_eq_true rfl, Nat.le_of_ble_eq_true rfl⟩ rfl 0 rfl rfl rfl rfl (Nat.le_of_ble_eq_true rfl) ⟨Nat.zero_le _, Nat.zero_le _⟩ [0] rfl rfl rfl ([nX8 cI cZ cQ h_t u_t]) rfl dX8_squaredLength_7 ?_
  refine r_imul O 11 rfl dX8_squaredLength_10 ?_
  refine r_ald_n O 12 rfl 0 rfl dX8_squaredLength_11 ?_
  refine r_ild_n O 13 rfl 1 rfl dX8_squaredLength_12 ?_
  obtain ⟨x13, hq13, hf⟩ := qb1_some hf
  refine k_VI O 16 rfl (zX8_wayY (l := xl X) (D := xD X) (cI := cI) (cZ := cZ) (cQ := cQ) (h_t := h_t) hq13) (gV mlX8_49 mvX8_wayY izX8) rfl rfl rfl hdX8_wayY ⟨Nat.le_of_ble_eq_true rfl, Nat.le_of_ble_eq_true rfl⟩ rfl 0 rfl rfl rfl rfl (Nat.le_of_ble_eq_true rfl) ⟨Nat.zero_le _, Nat.zero_le _⟩ [0] rfl rfl rfl ([nX8 cI cZ cQ h_t u_t]) rfl dX8_squaredLength_13 ?_
  refine r_ald_n O 17 rfl 0 rfl dX8_squaredLength_16 ?_
  refine r_ild_n O 18 rfl 1 rfl dX8_squaredLength_17 ?_
  obtain ⟨x18, hq18, hf⟩ := qb1_some hf
  refine k_VI O 21 rfl (zX8_wayY (l := xl X) (D := xD X) (cI := cI) (cZ := cZ) (cQ := cQ) (h_t := h_t) hq18) (gV mlX8_49 mvX8_wayY izX8) rfl rfl rfl hdX8_wayY ⟨Nat.le_of_ble_eq_true rfl, Nat.le_of_ble_eq_true rfl⟩ rfl 0 rfl rfl rfl rfl (Nat.le_of_ble_eq_true rfl) ⟨Nat.zero_le _, Nat.zero_le _⟩ [0] rfl rfl rfl ([nX8 cI cZ cQ h_t u_t]) rfl dX8_squaredLength_18 ?_
  refine r_imul O 22 rfl dX8_squaredLength_21 ?_
  refine r_iadd O 23 rfl dX8_squaredLength_22 ?_
  obtain g0 := qe1 hf
  exact r_iret2 O E g0 rfl dX8_squaredLength_23
-- X8_isOpaqueFor
def rmX8_isOpaqueFor : Room := { frames := 1, cells := 0, slots := 0, locals := 23 }
set_option maxHeartbeats 4000000 in
set_option maxRecDepth 100000 in
theorem zX8_isOpaqueFor {l : Launch} {D : va_G} {cI cZ cQ : ClassId} {h_t : Nat → Nat} {u_t : Pk} {a1 : Int32} {a2 : Int32} {a3 : Int32} {r0 : Int32} (hf : fX8_isOpaqueFor u_t a1 a2 a3 = some r0) : MZ l yX8_isOpaqueFor wsX8_isOpaqueFor rmX8_isOpaqueFor D (TY cI cZ cQ) [.ref (h_t 0), .int a1, .int a2, .int a3] [nX8 cI cZ cQ h_t u_t] r0 [nX8 cI cZ cQ h_t u_t] := by
  refine MZ.of (own := RX8) (by decide +kernel) rfl rfl (Nat.le_of_ble_eq_true rfl) (lv0 := [(0, .ref (h_t 0)), (1, .int a1), (2, .int a2), (3, .int a3)]) rfl ?_
  intro X O E
  unfold fX8_isOpaqueFor at hf
  refine r_ald_n O 1 rfl 0 rfl dX8_isOpaqueFor_0 ?_
  refine r_ild_n O 2 rfl 1 rfl dX8_isOpaqueFor_1 ?_
  obtain ⟨x2, hq2, hf⟩ := qb1_some hf
  refine k_VZ O 5 rfl (zX8_exists (l := xl X) (D := xD X) (cI := cI) (cZ := cZ) (cQ := cQ) (h_t := h_t) hq2) (gV mlX8_52 mvX8_exists izX8) rfl rfl rfl hdX8_exists ⟨Nat.le_of_ble_eq_true rfl, Nat.le_of_ble_eq_true rfl⟩ rfl 0 rfl rfl rfl rfl (Nat.le_of_ble_eq_true rfl) ⟨Nat.zero_le _, Nat.zero_le _⟩ [0] rfl rfl rfl ([nX8 cI cZ cQ h_t u_t]) rfl dX8_isOpaqueFor_2 (fun hz2 => ?_)
  refine r_if_eq O 8 rfl 17 dX8_isOpaqueFor_5 (by decide) (fun hc5 => ?_) (fun hc5 => ?_)
  · rw [if_pos hc5] at hf
    refine r_ic O 18 rfl 0 (by decide) dX8_isOpaqueFor_17 ?_
    obtain g0 := qe1 hf
    exact r_zret2 O E g0 rfl rfl dX8_isOpaqueFor_18
  · rw [if_neg hc5] at hf
    refine r_ald_n O 9 rfl 0 rfl dX8_isOpaqueFor_8 ?_
    refine r_ild_n O 10 rfl 1 rfl dX8_isOpaqueFor_9 ?_
    obtain ⟨x10, hq10, hf⟩ := qb1_some hf
    refine k_VI O 13 rfl (zX8_kindOf (l := xl X) (D := xD X) (cI := cI) (cZ := cZ) (cQ := cQ) (h_t := h_t) hq10) (gV mlX8_55 mvX8_kindOf izX8) rfl rfl rfl hdX8_kindOf ⟨Nat.le_of_ble_eq_true rfl, Nat.le_of_ble_eq_true rfl⟩ rfl 0 rfl rfl rfl rfl (Nat.le_of_ble_eq_true rfl) ⟨Nat.zero_le _, Nat.zero_le _⟩ [0] rfl rfl rfl ([nX8 cI cZ cQ h_t u_t]) rfl dX8_isOpaqueFor_10 ?_
    refine r_ic O 14 rfl 1 (by decide) dX8_isOpaqueFor_13 ?_
    refine r_icmp_ne O 17 rfl 19 dX8_isOpaqueFor_14 (by decide) (fun hc14 => ?_) (fun hc14 => ?_)
    · rw [if_neg hc14] at hf
      refine r_ald_n O 20 rfl 0 rfl dX8_isOpaqueFor_19 ?_
      refine r_ild_n O 21 rfl 1 rfl dX8_isOpaqueFor_20 ?_
      obtain ⟨x21, hq21, hf⟩ := qb1_some hf
      refine k_VI O 24 rfl (zX8_kindOf (l := xl X) (D := xD X) (cI := cI) (cZ := cZ) (cQ := cQ) (h_t := h_t) hq21) (gV mlX8_55 mvX8_kindOf izX8) rfl rfl rfl hdX8_kindOf ⟨Nat.le_of_ble_eq_true rfl, Nat.le_of_ble_eq_true rfl⟩ rfl 0 rfl rfl rfl rfl (Nat.le_of_ble_eq_true rfl) ⟨Nat.zero_le _, Nat.zero_le _⟩ [0] rfl rfl rfl ([nX8 cI cZ cQ h_t u_t]) rfl dX8_isOpaqueFor_21 ?_
      refine r_if_eq O 27 rfl 37 dX8_isOpaqueFor_24 (by decide) (fun hc24 => ?_) (fun hc24 => ?_)
      · rw [if_pos hc24] at hf
        refine r_ic O 38 rfl 1 (by decide) dX8_isOpaqueFor_37 ?_
        refine r_goto O 42 dX8_isOpaqueFor_38 (by decide) ?_
        obtain g0 := qe1 hf
        exact r_zret2 O E g0 rfl rfl dX8_isOpaqueFor_42
      · rw [if_neg hc24] at hf
        refine r_ald_n O 28 rfl 0 rfl dX8_isOpaqueFor_27 ?_
        refine r_ild_n O 29 rfl 1 rfl dX8_isOpaqueFor_28 ?_
        refine r_ild_n O 30 rfl 2 rfl dX8_isOpaqueFor_29 ?_
        refine r_ild_n O 31 rfl 3 rfl dX8_isOpaqueFor_30 ?_
        obtain ⟨x31, hq31, hf⟩ := qb1_some hf
        refine k_VI O 34 rfl (zX8_sideValue (l := xl X) (D := xD X) (cI := cI) (cZ := cZ) (cQ := cQ) (h_t := h_t) hq31) (gV mlX8_58 mvX8_sideValue izX8) rfl rfl rfl hdX8_sideValue ⟨Nat.le_of_ble_eq_true rfl, Nat.le_of_ble_eq_true rfl⟩ rfl 0 rfl rfl rfl rfl (Nat.le_of_ble_eq_true rfl) ⟨Nat.zero_le _, Nat.zero_le _⟩ [0] rfl rfl rfl ([nX8 cI cZ cQ h_t u_t]) rfl dX8_isOpaqueFor_31 ?_
        refine r_if_le O 37 rfl 41 dX8_isOpaqueFor_34 (by decide) (fun hc34 => ?_) (fun hc34 => ?_)
        · rw [if_pos hc34] at hf
          refine r_ic O 42 rfl 0 (by decide) dX8_isOpaqueFor_41 ?_
          obtain g0 := qe1 hf
          exact r_zret2 O E g0 rfl rfl dX8_isOpaqueFor_42
        · rw [if_neg hc34] at hf
          refine r_ic O 38 rfl 1 (by decide) dX8_isOpaqueFor_37 ?_
          refine r_goto O 42 dX8_isOpaqueFor_38 (by decide) ?_
          obtain g0 := qe1 hf
          exact r_zret2 O E g0 rfl rfl dX8_isOpaqueFor_42
    · rw [if_pos hc14] at hf
      refine r_ic O 18 rfl 0 (by decide) dX8_isOpaqueFor_17 ?_
      obtain g0 := qe1 hf
      exact r_zret2 O E g0 rfl rfl dX8_isOpaqueFor_18
-- X8_dropAll
def rmX8_dropAll : Room := { frames := 0, cells := 0, slots := 0, locals := 0 }
set_option maxHeartbeats 4000000 in
set_option maxRecDepth 100000 in
theorem zX8_dropAll {l : Launch} {D : va_G} {cI cZ cQ : ClassId} {h_t : Nat → Nat} {u_t : Pk} {v_t : Pk} (hf : fX8_dropAll u_t = some v_t) : MV l yX8_dropAll wsX8_dropAll rmX8_dropAll D (TY cI cZ cQ) [.ref (h_t 0)] [nX8 cI cZ cQ h_t u_t] [nX8 cI cZ cQ h_t v_t] := by
  refine MV.of (own := RX8) (by decide +kernel) rfl rfl (Nat.le_of_ble_eq_true rfl) (lv0 := [(0, .ref (h_t 0))]) rfl ?_
  intro X O E
  have B2 : ∀ n : Nat, ∀ (w_t : Pk) (y1 : Int32), fX8_dropAll_b2 n w_t y1 = some v_t → BK X 2 0 0 2 ([nX8 cI cZ cQ h_t w_t]) [(0, .ref (h_t 0)), (1, .int y1)] [] := by
    intro n
    induction n with
    | zero => exact fun _ _ hf => qno hf
    | succ n hrec2 =>
      intro w_t y1 hf
      have hf : fX8_dropAll_b2_s (fX8_dropAll_b2 n) w_t y1 = some v_t := hf
      generalize fX8_dropAll_b2 n = rec2 at hf hrec2
      unfold fX8_dropAll_b2_s at hf
      refine r_ild_n O 3 rfl 1 rfl dX8_dropAll_2 ?_
      refine r_bi O 5 rfl 12 (by decide) dX8_dropAll_3 ?_
      refine r_icmp_ge O 8 rfl 21 dX8_dropAll_5 (by decide) (fun hc5 => ?_) (fun hc5 => ?_)
      · rw [if_pos hc5] at hf
        obtain g0 := qe1 hf
        exact r_vret2 O E (by rw [g0]) dX8_dropAll_21
      · rw [if_neg hc5] at hf
        refine r_ald_n O 9 rfl 0 rfl dX8_dropAll_8 ?_
        refine r_get (ref := RX8) (C := RX8) (T := TX8) (N := 9) O 12 rfl inBX8 0 0 rfl rfl rfl (by decide) flX8_9 rfl rfl dX8_dropAll_9 ?_
        refine r_ild_n O 13 rfl 1 rfl dX8_dropAll_12 ?_
        refine r_ic O 14 rfl 0 (by decide) dX8_dropAll_13 ?_
        obtain ⟨hin14, hf⟩ := qst_some hf
        obtain ⟨p14_t, ep14_t, hf⟩ := qn_some hf
        refine r_zast O 15 rfl 0 1 rfl rfl hin14 ([nX8 cI cZ cQ h_t p14_t]) (by rw [ep14_t]; rfl) dX8_dropAll_14 ?_
        obtain ⟨x15, ex15, hf⟩ := qn_some hf
        refine r_iinc O 18 rfl x15 1 rfl (by rw [ex15]; rfl) [(1, .int x15), (0, .ref (h_t 0))] dX8_dropAll_15 (by decide) rfl ?_
        refine r_goto O 2 dX8_dropAll_18 (by decide) ?_
        refine r_lv [1, 0] rfl ?_
        exact hrec2 _ _ hf
  unfold fX8_dropAll at hf
  refine r_ic O 1 rfl 0 (by decide) dX8_dropAll_0 ?_
  refine r_ist_n O 2 rfl rfl [(1, .int 0), (0, .ref (h_t 0))] dX8_dropAll_1 (by decide) rfl ?_
  refine r_lv [1, 0] rfl ?_
  exact B2 FU _ _ hf
-- X8_put
def rmX8_put : Room := { frames := 0, cells := 0, slots := 0, locals := 0 }
set_option maxHeartbeats 4000000 in
set_option maxRecDepth 100000 in
theorem zX8_put {l : Launch} {D : va_G} {cI cZ cQ : ClassId} {h_t : Nat → Nat} {u_t : Pk} {a1 : Int32} {a2 : Int32} {a3 : Int32} {a4 : Int32} {a5 : Int32} {a6 : Int32} {a7 : Int32} {v_t : Pk} (hf : fX8_put u_t a1 a2 a3 a4 a5 a6 a7 = some v_t) : MV l yX8_put wsX8_put rmX8_put D (TY cI cZ cQ) [.ref (h_t 0), .int a1, .int a2, .int a3, .int a4, .int a5, .int a6, .int a7] [nX8 cI cZ cQ h_t u_t] [nX8 cI cZ cQ h_t v_t] := by
  refine MV.of (own := RX8) (by decide +kernel) rfl rfl (Nat.le_of_ble_eq_true rfl) (lv0 := [(0, .ref (h_t 0)), (1, .int a1), (2, .int a2), (3, .int a3), (4, .int a4), (5, .int a5), (6, .int a6), (7, .int a7)]) rfl ?_
  intro X O E
  have B34 : ∀ (w_t : Pk) (y1 : Int32) (y2 : Int32) (y3 : Int32) (y4 : Int32) (y5 : Int32) (y6 : Int32) (z1 : Int32) (z2 : Int32), fX8_put_b34 w_t y1 y2 y3 y4 y5 y6 z1 z2 = some v_t → BK X 8 0 0 34 ([nX8 cI cZ cQ h_t w_t]) [(0, .ref (h_t 0)), (1, .int y1), (2, .int y2), (3, .int y3), (4, .int y4), (5, .int y5), (6, .int y6)] [.int z2, .int z1, .ref (h_t 2)] := by
    intro w_t y1 y2 y3 y4 y5 y6 z1 z2 hf
    unfold fX8_put_b34 at hf
    obtain ⟨hin34, hf⟩ := qst_some hf
    obtain ⟨p34_t, ep34_t, hf⟩ := qn_some hf
    refine r_zast O 35 rfl 0 2 rfl rfl hin34 ([nX8 cI cZ cQ h_t p34_t]) (by rw [ep34_t]; rfl) dX8_put_34 ?_
    refine r_ald_n O 36 rfl 0 rfl dX8_put_35 ?_
    refine r_get (ref := RX8) (C := RX8) (T := TX8) (N := 9) O 39 rfl inBX8 0 2 rfl rfl rfl (by decide) flX8_18 rfl rfl dX8_put_36 ?_
    refine r_ild_n O 40 rfl 1 rfl dX8_put_39 ?_
    refine r_ild_n O 41 rfl 2 rfl dX8_put_40 ?_
    obtain ⟨hin41, hf⟩ := qst_some hf
    obtain ⟨p41_t, ep41_t, hf⟩ := qn_some hf
    refine r_iast O 42 rfl 0 3 rfl rfl hin41 ([nX8 cI cZ cQ h_t p41_t]) (by rw [ep41_t]; rfl) dX8_put_41 ?_
    refine r_ald_n O 43 rfl 0 rfl dX8_put_42 ?_
    refine r_get (ref := RX8) (C := RX8) (T := TX8) (N := 9) O 46 rfl inBX8 0 3 rfl rfl rfl (by decide) flX8_22 rfl rfl dX8_put_43 ?_
    refine r_ild_n O 47 rfl 1 rfl dX8_put_46 ?_
    refine r_ild_n O 48 rfl 3 rfl dX8_put_47 ?_
    obtain ⟨hin48, hf⟩ := qst_some hf
    obtain ⟨p48_t, ep48_t, hf⟩ := qn_some hf
    refine r_iast O 49 rfl 0 4 rfl rfl hin48 ([nX8 cI cZ cQ h_t p48_t]) (by rw [ep48_t]; rfl) dX8_put_48 ?_
    refine r_ald_n O 50 rfl 0 rfl dX8_put_49 ?_
    refine r_get (ref := RX8) (C := RX8) (T := TX8) (N := 9) O 53 rfl inBX8 0 4 rfl rfl rfl (by decide) flX8_25 rfl rfl dX8_put_50 ?_
    refine r_ild_n O 54 rfl 1 rfl dX8_put_53 ?_
    refine r_ild O 56 rfl 4 rfl dX8_put_54 ?_
    obtain ⟨hin56, hf⟩ := qst_some hf
    obtain ⟨p56_t, ep56_t, hf⟩ := qn_some hf
    refine r_iast O 57 rfl 0 5 rfl rfl hin56 ([nX8 cI cZ cQ h_t p56_t]) (by rw [ep56_t]; rfl) dX8_put_56 ?_
    refine r_ald_n O 58 rfl 0 rfl dX8_put_57 ?_
    refine r_get (ref := RX8) (C := RX8) (T := TX8) (N := 9) O 61 rfl inBX8 0 5 rfl rfl rfl (by decide) flX8_28 rfl rfl dX8_put_58 ?_
    refine r_ild_n O 62 rfl 1 rfl dX8_put_61 ?_
    refine r_ild O 64 rfl 5 rfl dX8_put_62 ?_
    obtain ⟨hin64, hf⟩ := qst_some hf
    obtain ⟨p64_t, ep64_t, hf⟩ := qn_some hf
    refine r_iast O 65 rfl 0 6 rfl rfl hin64 ([nX8 cI cZ cQ h_t p64_t]) (by rw [ep64_t]; rfl) dX8_put_64 ?_
    refine r_ald_n O 66 rfl 0 rfl dX8_put_65 ?_
    refine r_get (ref := RX8) (C := RX8) (T := TX8) (N := 9) O 69 rfl inBX8 0 6 rfl rfl rfl (by decide) flX8_31 rfl rfl dX8_put_66 ?_
    refine r_ild_n O 70 rfl 1 rfl dX8_put_69 ?_
    refine r_ild O 72 rfl 6 rfl dX8_put_70 ?_
    obtain ⟨hin72, hf⟩ := qst_some hf
    obtain ⟨p72_t, ep72_t, hf⟩ := qn_some hf
    refine r_iast O 73 rfl 0 7 rfl rfl hin72 ([nX8 cI cZ cQ h_t p72_t]) (by rw [ep72_t]; rfl) dX8_put_72 ?_
    obtain g0 := qe1 hf
    exact r_vret2 O E (by rw [g0]) dX8_put_73
  unfold fX8_put at hf
  refine r_ild_n O 1 rfl 1 rfl dX8_put_0 ?_
  refine r_if_lt O 4 rfl 10 dX8_put_1 (by decide) (fun hc1 => ?_) (fun hc1 => ?_)
  · rw [if_pos hc1] at hf
    obtain g0 := qe1 hf
    exact r_vret2 O E (by rw [g0]) dX8_put_10
  · rw [if_neg hc1] at hf
    refine r_ild_n O 5 rfl 1 rfl dX8_put_4 ?_
    refine r_bi O 7 rfl 12 (by decide) dX8_put_5 ?_
    refine r_icmp_lt O 10 rfl 11 dX8_put_7 (by decide) (fun hc7 => ?_) (fun hc7 => ?_)
    · rw [if_pos hc7] at hf
      refine r_ald_n O 12 rfl 0 rfl dX8_put_11 ?_
      refine r_get (ref := RX8) (C := RX8) (T := TX8) (N := 9) O 15 rfl inBX8 0 0 rfl rfl rfl (by decide) flX8_9 rfl rfl dX8_put_12 ?_
      refine r_ild_n O 16 rfl 1 rfl dX8_put_15 ?_
      refine r_ic O 17 rfl 1 (by decide) dX8_put_16 ?_
      obtain ⟨hin17, hf⟩ := qst_some hf
      obtain ⟨p17_t, ep17_t, hf⟩ := qn_some hf
      refine r_zast O 18 rfl 0 1 rfl rfl hin17 ([nX8 cI cZ cQ h_t p17_t]) (by rw [ep17_t]; rfl) dX8_put_17 ?_
      refine r_ald_n O 19 rfl 0 rfl dX8_put_18 ?_
      refine r_get (ref := RX8) (C := RX8) (T := TX8) (N := 9) O 22 rfl inBX8 0 1 rfl rfl rfl (by decide) flX8_15 rfl rfl dX8_put_19 ?_
      refine r_ild_n O 23 rfl 1 rfl dX8_put_22 ?_
      refine r_ild O 25 rfl 7 rfl dX8_put_23 ?_
      refine r_ic O 26 rfl 1 (by decide) dX8_put_25 ?_
      refine r_icmp_ne O 29 rfl 33 dX8_put_26 (by decide) (fun hc26 => ?_) (fun hc26 => ?_)
      · rw [if_neg hc26] at hf
        refine r_ic O 34 rfl 0 (by decide) dX8_put_33 ?_
        refine r_lv [0, 1, 2, 3, 4, 5, 6] rfl ?_
        exact B34 _ _ _ _ _ _ _ _ _ hf
      · rw [if_pos hc26] at hf
        refine r_ic O 30 rfl 1 (by decide) dX8_put_29 ?_
        refine r_goto O 34 dX8_put_30 (by decide) ?_
        refine r_lv [0, 1, 2, 3, 4, 5, 6] rfl ?_
        exact B34 _ _ _ _ _ _ _ _ _ hf
    · rw [if_neg hc7] at hf
      obtain g0 := qe1 hf
      exact r_vret2 O E (by rw [g0]) dX8_put_10
-- X8_lowestFree
def rmX8_lowestFree : Room := { frames := 0, cells := 0, slots := 0, locals := 0 }
set_option maxHeartbeats 4000000 in
set_option maxRecDepth 100000 in
theorem zX8_lowestFree {l : Launch} {D : va_G} {cI cZ cQ : ClassId} {h_t : Nat → Nat} {u_t : Pk} {r0 : Int32} (hf : fX8_lowestFree u_t = some r0) : MI l yX8_lowestFree wsX8_lowestFree rmX8_lowestFree D (TY cI cZ cQ) [.ref (h_t 0)] [nX8 cI cZ cQ h_t u_t] r0 [nX8 cI cZ cQ h_t u_t] := by
  refine MI.of (own := RX8) (by decide +kernel) rfl rfl (Nat.le_of_ble_eq_true rfl) (lv0 := [(0, .ref (h_t 0))]) rfl ?_
  intro X O E
  have B2 : ∀ n : Nat, ∀ (y1 : Int32), fX8_lowestFree_b2 u_t n y1 = some r0 → BK X 2 0 0 2 ([nX8 cI cZ cQ h_t u_t]) [(0, .ref (h_t 0)), (1, .int y1)] [] := by
    intro n
    induction n with
    | zero => exact fun _ hf => qno hf
    | succ n hrec2 =>
      intro y1 hf
      have hf : fX8_lowestFree_b2_s (fX8_lowestFree_b2 u_t n) u_t y1 = some r0 := hf
      generalize fX8_lowestFree_b2 u_t n = rec2 at hf hrec2
      unfold fX8_lowestFree_b2_s at hf
      refine r_ild_n O 3 rfl 1 rfl dX8_lowestFree_2 ?_
      refine r_bi O 5 rfl 12 (by decide) dX8_lowestFree_3 ?_
      refine r_icmp_ge O 8 rfl 25 dX8_lowestFree_5 (by decide) (fun hc5 => ?_) (fun hc5 => ?_)
      · rw [if_pos hc5] at hf
        refine r_ic O 26 rfl (-1) (by decide) dX8_lowestFree_25 ?_
        obtain g0 := qe1 hf
        exact r_iret2 O E g0 rfl dX8_lowestFree_26
      · rw [if_neg hc5] at hf
        refine r_ald_n O 9 rfl 0 rfl dX8_lowestFree_8 ?_
        refine r_get (ref := RX8) (C := RX8) (T := TX8) (N := 9) O 12 rfl inBX8 0 0 rfl rfl rfl (by decide) flX8_9 rfl rfl dX8_lowestFree_9 ?_
        refine r_ild_n O 13 rfl 1 rfl dX8_lowestFree_12 ?_
        obtain ⟨x13, ex13, hin13, hf⟩ := qld_some hf
        refine r_zald O 14 rfl 0 1 rfl rfl hin13 dX8_lowestFree_13 ?_
        rw [← ex13]
        refine r_if_ne O 17 rfl 19 dX8_lowestFree_14 (by decide) (fun hc14 => ?_) (fun hc14 => ?_)
        · rw [if_neg hc14] at hf
          obtain ⟨x19, ex19, hf⟩ := qn_some hf
          refine r_iinc O 22 rfl x19 1 rfl (by rw [ex19]; rfl) [(1, .int x19), (0, .ref (h_t 0))] dX8_lowestFree_19 (by decide) rfl ?_
          refine r_goto O 2 dX8_lowestFree_22 (by decide) ?_
          refine r_lv [1, 0] rfl ?_
          exact hrec2 _ hf
        · rw [if_pos hc14] at hf
          refine r_ild_n O 18 rfl 1 rfl dX8_lowestFree_17 ?_
          obtain g0 := qe1 hf
          exact r_iret2 O E g0 rfl dX8_lowestFree_18
  unfold fX8_lowestFree at hf
  refine r_ic O 1 rfl 0 (by decide) dX8_lowestFree_0 ?_
  refine r_ist_n O 2 rfl rfl [(1, .int 0), (0, .ref (h_t 0))] dX8_lowestFree_1 (by decide) rfl ?_
  refine r_lv [1, 0] rfl ?_
  exact B2 FU _ hf
-- X8_total
def rmX8_total : Room := { frames := 0, cells := 0, slots := 0, locals := 0 }
set_option maxHeartbeats 4000000 in
set_option maxRecDepth 100000 in
theorem zX8_total {l : Launch} {D : va_G} {cI cZ cQ : ClassId} {h_t : Nat → Nat} {u_t : Pk} {r0 : Int32} (hf : fX8_total u_t = some r0) : MI l yX8_total wsX8_total rmX8_total D (TY cI cZ cQ) [.ref (h_t 0)] [nX8 cI cZ cQ h_t u_t] r0 [nX8 cI cZ cQ h_t u_t] := by
  refine MI.of (own := RX8) (by decide +kernel) rfl rfl (Nat.le_of_ble_eq_true rfl) (lv0 := [(0, .ref (h_t 0))]) rfl ?_
  intro X O E
  have B22 : ∀ (rec4 : Int32 → Int32 → Option (Int32)), (∀ (y1 : Int32) (y2 : Int32), rec4 y1 y2 = some r0 → BK X 3 0 0 4 ([nX8 cI cZ cQ h_t u_t]) [(0, .ref (h_t 0)), (1, .int y1), (2, .int y2)] []) → ∀ (y1 : Int32) (y2 : Int32), fX8_total_b22 rec4 u_t y1 y2 = some r0 → BK X 3 0 0 22 ([nX8 cI cZ cQ h_t u_t]) [(0, .ref (h_t 0)), (1, .int y1), (2, .int y2)] [] := by
    intro rec4 hrec4 y1 y2 hf
    unfold fX8_total_b22 at hf
    obtain ⟨x22, ex22, hf⟩ := qn_some hf
    refine r_iinc O 25 rfl x22 2 rfl (by rw [ex22]; rfl) [(2, .int x22), (0, .ref (h_t 0)), (1, .int y1)] dX8_total_22 (by decide) rfl ?_
    refine r_goto O 4 dX8_total_25 (by decide) ?_
    refine r_lv [1, 2, 0] rfl ?_
    exact hrec4 _ _ hf
  have B4 : ∀ n : Nat, ∀ (y1 : Int32) (y2 : Int32), fX8_total_b4 u_t n y1 y2 = some r0 → BK X 3 0 0 4 ([nX8 cI cZ cQ h_t u_t]) [(0, .ref (h_t 0)), (1, .int y1), (2, .int y2)] [] := by
    intro n
    induction n with
    | zero => exact fun _ _ hf => qno hf
    | succ n hrec4 =>
      intro y1 y2 hf
      have hf : fX8_total_b4_s (fX8_total_b4 u_t n) u_t y1 y2 = some r0 := hf
      generalize fX8_total_b4 u_t n = rec4 at hf hrec4
      unfold fX8_total_b4_s at hf
      refine r_ild_n O 5 rfl 2 rfl dX8_total_4 ?_
      refine r_bi O 7 rfl 12 (by decide) dX8_total_5 ?_
      refine r_icmp_ge O 10 rfl 28 dX8_total_7 (by decide) (fun hc7 => ?_) (fun hc7 => ?_)
      · rw [if_pos hc7] at hf
        refine r_ild_n O 29 rfl 1 rfl dX8_total_28 ?_
        obtain g0 := qe1 hf
        exact r_iret2 O E g0 rfl dX8_total_29
      · rw [if_neg hc7] at hf
        refine r_ald_n O 11 rfl 0 rfl dX8_total_10 ?_
        refine r_get (ref := RX8) (C := RX8) (T := TX8) (N := 9) O 14 rfl inBX8 0 0 rfl rfl rfl (by decide) flX8_9 rfl rfl dX8_total_11 ?_
        refine r_ild_n O 15 rfl 2 rfl dX8_total_14 ?_
        obtain ⟨x15, ex15, hin15, hf⟩ := qld_some hf
        refine r_zald O 16 rfl 0 1 rfl rfl hin15 dX8_total_15 ?_
        rw [← ex15]
        refine r_if_eq O 19 rfl 22 dX8_total_16 (by decide) (fun hc16 => ?_) (fun hc16 => ?_)
        · rw [if_pos hc16] at hf
          exact B22 rec4 hrec4 _ _ hf
        · rw [if_neg hc16] at hf
          obtain ⟨x19, ex19, hf⟩ := qn_some hf
          refine r_iinc O 22 rfl x19 1 rfl (by rw [ex19]; rfl) [(1, .int x19), (0, .ref (h_t 0)), (2, .int y2)] dX8_total_19 (by decide) rfl ?_
          refine r_lv [1, 0, 2] rfl ?_
          exact B22 rec4 hrec4 _ _ hf
  unfold fX8_total at hf
  refine r_ic O 1 rfl 0 (by decide) dX8_total_0 ?_
  refine r_ist_n O 2 rfl rfl [(1, .int 0), (0, .ref (h_t 0))] dX8_total_1 (by decide) rfl ?_
  refine r_ic O 3 rfl 0 (by decide) dX8_total_2 ?_
  refine r_ist_n O 4 rfl rfl [(2, .int 0), (1, .int 0), (0, .ref (h_t 0))] dX8_total_3 (by decide) rfl ?_
  refine r_lv [2, 1, 0] rfl ?_
  exact B4 FU _ _ hf
-- X8_fixedTotal
def rmX8_fixedTotal : Room := { frames := 1, cells := 0, slots := 0, locals := 21 }
set_option maxHeartbeats 4000000 in
set_option maxRecDepth 100000 in
theorem zX8_fixedTotal {l : Launch} {D : va_G} {cI cZ cQ : ClassId} {h_t : Nat → Nat} {u_t : Pk} {r0 : Int32} (hf : fX8_fixedTotal u_t = some r0) : MI l yX8_fixedTotal wsX8_fixedTotal rmX8_fixedTotal D (TY cI cZ cQ) [.ref (h_t 0)] [nX8 cI cZ cQ h_t u_t] r0 [nX8 cI cZ cQ h_t u_t] := by
  refine MI.of (own := RX8) (by decide +kernel) rfl rfl (Nat.le_of_ble_eq_true rfl) (lv0 := [(0, .ref (h_t 0))]) rfl ?_
  intro X O E
  have B21 : ∀ (rec4 : Int32 → Int32 → Option (Int32)), (∀ (y1 : Int32) (y2 : Int32), rec4 y1 y2 = some r0 → BK X 3 0 0 4 ([nX8 cI cZ cQ h_t u_t]) [(0, .ref (h_t 0)), (1, .int y1), (2, .int y2)] []) → ∀ (y1 : Int32) (y2 : Int32), fX8_fixedTotal_b21 rec4 u_t y1 y2 = some r0 → BK X 3 0 0 21 ([nX8 cI cZ cQ h_t u_t]) [(0, .ref (h_t 0)), (1, .int y1), (2, .int y2)] [] := by
    intro rec4 hrec4 y1 y2 hf
    unfold fX8_fixedTotal_b21 at hf
    obtain ⟨x21, ex21, hf⟩ := qn_some hf
    refine r_iinc O 24 rfl x21 2 rfl (by rw [ex21]; rfl) [(2, .int x21), (0, .ref (h_t 0)), (1, .int y1)] dX8_fixedTotal_21 (by decide) rfl ?_
    refine r_goto O 4 dX8_fixedTotal_24 (by decide) ?_
    refine r_lv [1, 2, 0] rfl ?_
    exact hrec4 _ _ hf
  have B4 : ∀ n : Nat, ∀ (y1 : Int32) (y2 : Int32), fX8_fixedTotal_b4 u_t n y1 y2 = some r0 → BK X 3 0 0 4 ([nX8 cI cZ cQ h_t u_t]) [(0, .ref (h_t 0)), (1, .int y1), (2, .int y2)] [] := by
    intro n
    induction n with
    | zero => exact fun _ _ hf => qno hf
    | succ n hrec4 =>
      intro y1 y2 hf
      have hf : fX8_fixedTotal_b4_s (fX8_fixedTotal_b4 u_t n) u_t y1 y2 = some r0 := hf
      generalize fX8_fixedTotal_b4 u_t n = rec4 at hf hrec4
      unfold fX8_fixedTotal_b4_s at hf
      refine r_ild_n O 5 rfl 2 rfl dX8_fixedTotal_4 ?_
      refine r_bi O 7 rfl 12 (by decide) dX8_fixedTotal_5 ?_
      refine r_icmp_ge O 10 rfl 27 dX8_fixedTotal_7 (by decide) (fun hc7 => ?_) (fun hc7 => ?_)
      · rw [if_pos hc7] at hf
        refine r_ild_n O 28 rfl 1 rfl dX8_fixedTotal_27 ?_
        obtain g0 := qe1 hf
        exact r_iret2 O E g0 rfl dX8_fixedTotal_28
      · rw [if_neg hc7] at hf
        refine r_ald_n O 11 rfl 0 rfl dX8_fixedTotal_10 ?_
        refine r_ild_n O 12 rfl 2 rfl dX8_fixedTotal_11 ?_
        obtain ⟨x12, hq12, hf⟩ := qb1_some hf
        refine k_VZ O 15 rfl (zX8_isFixed (l := xl X) (D := xD X) (cI := cI) (cZ := cZ) (cQ := cQ) (h_t := h_t) hq12) (gV mlX8_41 mvX8_isFixed izX8) rfl rfl rfl hdX8_isFixed ⟨Nat.le_of_ble_eq_true rfl, Nat.le_of_ble_eq_true rfl⟩ rfl 0 rfl rfl rfl rfl (Nat.le_of_ble_eq_true rfl) ⟨Nat.zero_le _, Nat.zero_le _⟩ [0] rfl rfl rfl ([nX8 cI cZ cQ h_t u_t]) rfl dX8_fixedTotal_12 (fun hz12 => ?_)
        refine r_if_eq O 18 rfl 21 dX8_fixedTotal_15 (by decide) (fun hc15 => ?_) (fun hc15 => ?_)
        · rw [if_pos hc15] at hf
          exact B21 rec4 hrec4 _ _ hf
        · rw [if_neg hc15] at hf
          obtain ⟨x18, ex18, hf⟩ := qn_some hf
          refine r_iinc O 21 rfl x18 1 rfl (by rw [ex18]; rfl) [(1, .int x18), (0, .ref (h_t 0)), (2, .int y2)] dX8_fixedTotal_18 (by decide) rfl ?_
          refine r_lv [1, 0, 2] rfl ?_
          exact B21 rec4 hrec4 _ _ hf
  unfold fX8_fixedTotal at hf
  refine r_ic O 1 rfl 0 (by decide) dX8_fixedTotal_0 ?_
  refine r_ist_n O 2 rfl rfl [(1, .int 0), (0, .ref (h_t 0))] dX8_fixedTotal_1 (by decide) rfl ?_
  refine r_ic O 3 rfl 0 (by decide) dX8_fixedTotal_2 ?_
  refine r_ist_n O 4 rfl rfl [(2, .int 0), (1, .int 0), (0, .ref (h_t 0))] dX8_fixedTotal_3 (by decide) rfl ?_
  refine r_lv [2, 1, 0] rfl ?_
  exact B4 FU _ _ hf
-- X8_splitWeight
def rmX8_splitWeight : Room := { frames := 0, cells := 0, slots := 0, locals := 0 }
set_option maxHeartbeats 4000000 in
set_option maxRecDepth 100000 in
theorem zX8_splitWeight {l : Launch} {D : va_G} {cI cZ cQ : ClassId} {h_t : Nat → Nat} {u_t : Pk} {r0 : Int32} (hf : fX8_splitWeight u_t = some r0) : MI l yX8_splitWeight wsX8_splitWeight rmX8_splitWeight D (TY cI cZ cQ) [.ref (h_t 0)] [nX8 cI cZ cQ h_t u_t] r0 [nX8 cI cZ cQ h_t u_t] := by
  refine MI.of (own := RX8) (by decide +kernel) rfl rfl (Nat.le_of_ble_eq_true rfl) (lv0 := [(0, .ref (h_t 0))]) rfl ?_
  intro X O E
  unfold fX8_splitWeight at hf
  refine r_ald_n O 1 rfl 0 rfl dX8_splitWeight_0 ?_
  refine r_get (ref := RX8) (C := RX8) (T := TX8) (N := 9) O 4 rfl inBX8 0 7 rfl rfl rfl (by decide) flX8_34 rfl rfl dX8_splitWeight_1 ?_
  obtain g0 := qe1 hf
  exact r_iret2 O E g0 rfl dX8_splitWeight_4
-- X8_balanceWeight
def rmX8_balanceWeight : Room := { frames := 0, cells := 0, slots := 0, locals := 0 }
set_option maxHeartbeats 4000000 in
set_option maxRecDepth 100000 in
theorem zX8_balanceWeight {l : Launch} {D : va_G} {cI cZ cQ : ClassId} {h_t : Nat → Nat} {u_t : Pk} {r0 : Int32} (hf : fX8_balanceWeight u_t = some r0) : MI l yX8_balanceWeight wsX8_balanceWeight rmX8_balanceWeight D (TY cI cZ cQ) [.ref (h_t 0)] [nX8 cI cZ cQ h_t u_t] r0 [nX8 cI cZ cQ h_t u_t] := by
  refine MI.of (own := RX8) (by decide +kernel) rfl rfl (Nat.le_of_ble_eq_true rfl) (lv0 := [(0, .ref (h_t 0))]) rfl ?_
  intro X O E
  unfold fX8_balanceWeight at hf
  refine r_ald_n O 1 rfl 0 rfl dX8_balanceWeight_0 ?_
  refine r_get (ref := RX8) (C := RX8) (T := TX8) (N := 9) O 4 rfl inBX8 0 8 rfl rfl rfl (by decide) flX8_38 rfl rfl dX8_balanceWeight_1 ?_
  obtain g0 := qe1 hf
  exact r_iret2 O E g0 rfl dX8_balanceWeight_4
-- X8_weightCode
def rmX8_weightCode : Room := { frames := 0, cells := 0, slots := 0, locals := 0 }
set_option maxHeartbeats 4000000 in
set_option maxRecDepth 100000 in
theorem zX8_weightCode {l : Launch} {D : va_G} {cI cZ cQ : ClassId} {h_t : Nat → Nat} {u_t : Pk} {r0 : Int32} (hf : fX8_weightCode u_t = some r0) : MI l yX8_weightCode wsX8_weightCode rmX8_weightCode D (TY cI cZ cQ) [.ref (h_t 0)] [nX8 cI cZ cQ h_t u_t] r0 [nX8 cI cZ cQ h_t u_t] := by
  refine MI.of (own := RX8) (by decide +kernel) rfl rfl (Nat.le_of_ble_eq_true rfl) (lv0 := [(0, .ref (h_t 0))]) rfl ?_
  intro X O E
  unfold fX8_weightCode at hf
  refine r_bi O 2 rfl 10 (by decide) dX8_weightCode_0 ?_
  refine r_ald_n O 3 rfl 0 rfl dX8_weightCode_2 ?_
  refine r_get (ref := RX8) (C := RX8) (T := TX8) (N := 9) O 6 rfl inBX8 0 7 rfl rfl rfl (by decide) flX8_34 rfl rfl dX8_weightCode_3 ?_
  refine r_imul O 7 rfl dX8_weightCode_6 ?_
  refine r_ald_n O 8 rfl 0 rfl dX8_weightCode_7 ?_
  refine r_get (ref := RX8) (C := RX8) (T := TX8) (N := 9) O 11 rfl inBX8 0 8 rfl rfl rfl (by decide) flX8_38 rfl rfl dX8_weightCode_8 ?_
  refine r_iadd O 12 rfl dX8_weightCode_11 ?_
  obtain g0 := qe1 hf
  exact r_iret2 O E g0 rfl dX8_weightCode_12
-- X8_drop
def rmX8_drop : Room := { frames := 0, cells := 0, slots := 0, locals := 0 }
set_option maxHeartbeats 4000000 in
set_option maxRecDepth 100000 in
theorem zX8_drop {l : Launch} {D : va_G} {cI cZ cQ : ClassId} {h_t : Nat → Nat} {u_t : Pk} {a1 : Int32} {v_t : Pk} (hf : fX8_drop u_t a1 = some v_t) : MV l yX8_drop wsX8_drop rmX8_drop D (TY cI cZ cQ) [.ref (h_t 0), .int a1] [nX8 cI cZ cQ h_t u_t] [nX8 cI cZ cQ h_t v_t] := by
  refine MV.of (own := RX8) (by decide +kernel) rfl rfl (Nat.le_of_ble_eq_true rfl) (lv0 := [(0, .ref (h_t 0)), (1, .int a1)]) rfl ?_
  intro X O E
  unfold fX8_drop at hf
  refine r_ild_n O 1 rfl 1 rfl dX8_drop_0 ?_
  refine r_if_lt O 4 rfl 17 dX8_drop_1 (by decide) (fun hc1 => ?_) (fun hc1 => ?_)
  · rw [if_pos hc1] at hf
    obtain g0 := qe1 hf
    exact r_vret2 O E (by rw [g0]) dX8_drop_17
  · rw [if_neg hc1] at hf
    refine r_ild_n O 5 rfl 1 rfl dX8_drop_4 ?_
    refine r_bi O 7 rfl 12 (by decide) dX8_drop_5 ?_
    refine r_icmp_ge O 10 rfl 17 dX8_drop_7 (by decide) (fun hc7 => ?_) (fun hc7 => ?_)
    · rw [if_pos hc7] at hf
      obtain g0 := qe1 hf
      exact r_vret2 O E (by rw [g0]) dX8_drop_17
    · rw [if_neg hc7] at hf
      refine r_ald_n O 11 rfl 0 rfl dX8_drop_10 ?_
      refine r_get (ref := RX8) (C := RX8) (T := TX8) (N := 9) O 14 rfl inBX8 0 0 rfl rfl rfl (by decide) flX8_9 rfl rfl dX8_drop_11 ?_
      refine r_ild_n O 15 rfl 1 rfl dX8_drop_14 ?_
      refine r_ic O 16 rfl 0 (by decide) dX8_drop_15 ?_
      obtain ⟨hin16, hf⟩ := qst_some hf
      obtain ⟨p16_t, ep16_t, hf⟩ := qn_some hf
      refine r_zast O 17 rfl 0 1 rfl rfl hin16 ([nX8 cI cZ cQ h_t p16_t]) (by rw [ep16_t]; rfl) dX8_drop_16 ?_
      obtain g0 := qe1 hf
      exact r_vret2 O E (by rw [g0]) dX8_drop_17
-- X8_shift
def rmX8_shift : Room := { frames := 0, cells := 0, slots := 0, locals := 0 }
set_option maxHeartbeats 4000000 in
set_option maxRecDepth 100000 in
theorem zX8_shift {l : Launch} {D : va_G} {cI cZ cQ : ClassId} {h_t : Nat → Nat} {u_t : Pk} {a1 : Int32} {a2 : Int32} {a3 : Int32} {v_t : Pk} (hf : fX8_shift u_t a1 a2 a3 = some v_t) : MV l yX8_shift wsX8_shift rmX8_shift D (TY cI cZ cQ) [.ref (h_t 0), .int a1, .int a2, .int a3] [nX8 cI cZ cQ h_t u_t] [nX8 cI cZ cQ h_t v_t] := by
  refine MV.of (own := RX8) (by decide +kernel) rfl rfl (Nat.le_of_ble_eq_true rfl) (lv0 := [(0, .ref (h_t 0)), (1, .int a1), (2, .int a2), (3, .int a3)]) rfl ?_
  intro X O E
  unfold fX8_shift at hf
  refine r_ild_n O 1 rfl 1 rfl dX8_shift_0 ?_
  refine r_if_lt O 4 rfl 10 dX8_shift_1 (by decide) (fun hc1 => ?_) (fun hc1 => ?_)
  · rw [if_pos hc1] at hf
    obtain g0 := qe1 hf
    exact r_vret2 O E (by rw [g0]) dX8_shift_10
  · rw [if_neg hc1] at hf
    refine r_ild_n O 5 rfl 1 rfl dX8_shift_4 ?_
    refine r_bi O 7 rfl 12 (by decide) dX8_shift_5 ?_
    refine r_icmp_lt O 10 rfl 11 dX8_shift_7 (by decide) (fun hc7 => ?_) (fun hc7 => ?_)
    · rw [if_pos hc7] at hf
      refine r_ald_n O 12 rfl 0 rfl dX8_shift_11 ?_
      refine r_get (ref := RX8) (C := RX8) (T := TX8) (N := 9) O 15 rfl inBX8 0 2 rfl rfl rfl (by decide) flX8_18 rfl rfl dX8_shift_12 ?_
      refine r_ild_n O 16 rfl 1 rfl dX8_shift_15 ?_
      refine r_dup2 O 17 rfl dX8_shift_16 rfl rfl ?_
      obtain ⟨x17, ex17, hin17, hf⟩ := qld_some hf
      refine r_iald O 18 rfl 0 3 rfl rfl hin17 dX8_shift_17 ?_
      rw [← ex17]
      refine r_ild_n O 19 rfl 2 rfl dX8_shift_18 ?_
      refine r_iadd O 20 rfl dX8_shift_19 ?_
      obtain ⟨hin20, hf⟩ := qst_some hf
      obtain ⟨p20_t, ep20_t, hf⟩ := qn_some hf
      refine r_iast O 21 rfl 0 3 rfl rfl hin20 ([nX8 cI cZ cQ h_t p20_t]) (by rw [ep20_t]; rfl) dX8_shift_20 ?_
      refine r_ald_n O 22 rfl 0 rfl dX8_shift_21 ?_
      refine r_get (ref := RX8) (C := RX8) (T := TX8) (N := 9) O 25 rfl inBX8 0 3 rfl rfl rfl (by decide) flX8_22 rfl rfl dX8_shift_22 ?_
      refine r_ild_n O 26 rfl 1 rfl dX8_shift_25 ?_
      refine r_dup2 O 27 rfl dX8_shift_26 rfl rfl ?_
      obtain ⟨x27, ex27, hin27, hf⟩ := qld_some hf
      refine r_iald O 28 rfl 0 4 rfl rfl hin27 dX8_shift_27 ?_
      rw [← ex27]
      refine r_ild_n O 29 rfl 3 rfl dX8_shift_28 ?_
      refine r_iadd O 30 rfl dX8_shift_29 ?_
      obtain ⟨hin30, hf⟩ := qst_some hf
      obtain ⟨p30_t, ep30_t, hf⟩ := qn_some hf
      refine r_iast O 31 rfl 0 4 rfl rfl hin30 ([nX8 cI cZ cQ h_t p30_t]) (by rw [ep30_t]; rfl) dX8_shift_30 ?_
      refine r_ald_n O 32 rfl 0 rfl dX8_shift_31 ?_
      refine r_get (ref := RX8) (C := RX8) (T := TX8) (N := 9) O 35 rfl inBX8 0 4 rfl rfl rfl (by decide) flX8_25 rfl rfl dX8_shift_32 ?_
      refine r_ild_n O 36 rfl 1 rfl dX8_shift_35 ?_
      refine r_dup2 O 37 rfl dX8_shift_36 rfl rfl ?_
      obtain ⟨x37, ex37, hin37, hf⟩ := qld_some hf
      refine r_iald O 38 rfl 0 5 rfl rfl hin37 dX8_shift_37 ?_
      rw [← ex37]
      refine r_ild_n O 39 rfl 2 rfl dX8_shift_38 ?_
      refine r_iadd O 40 rfl dX8_shift_39 ?_
      obtain ⟨hin40, hf⟩ := qst_some hf
      obtain ⟨p40_t, ep40_t, hf⟩ := qn_some hf
      refine r_iast O 41 rfl 0 5 rfl rfl hin40 ([nX8 cI cZ cQ h_t p40_t]) (by rw [ep40_t]; rfl) dX8_shift_40 ?_
      refine r_ald_n O 42 rfl 0 rfl dX8_shift_41 ?_
      refine r_get (ref := RX8) (C := RX8) (T := TX8) (N := 9) O 45 rfl inBX8 0 5 rfl rfl rfl (by decide) flX8_28 rfl rfl dX8_shift_42 ?_
      refine r_ild_n O 46 rfl 1 rfl dX8_shift_45 ?_
      refine r_dup2 O 47 rfl dX8_shift_46 rfl rfl ?_
      obtain ⟨x47, ex47, hin47, hf⟩ := qld_some hf
      refine r_iald O 48 rfl 0 6 rfl rfl hin47 dX8_shift_47 ?_
      rw [← ex47]
      refine r_ild_n O 49 rfl 3 rfl dX8_shift_48 ?_
      refine r_iadd O 50 rfl dX8_shift_49 ?_
      obtain ⟨hin50, hf⟩ := qst_some hf
      obtain ⟨p50_t, ep50_t, hf⟩ := qn_some hf
      refine r_iast O 51 rfl 0 6 rfl rfl hin50 ([nX8 cI cZ cQ h_t p50_t]) (by rw [ep50_t]; rfl) dX8_shift_50 ?_
      obtain g0 := qe1 hf
      exact r_vret2 O E (by rw [g0]) dX8_shift_51
    · rw [if_neg hc7] at hf
      obtain g0 := qe1 hf
      exact r_vret2 O E (by rw [g0]) dX8_shift_10
-- X8_turn
def rmX8_turn : Room := { frames := 0, cells := 0, slots := 0, locals := 0 }
set_option maxHeartbeats 4000000 in
set_option maxRecDepth 100000 in
theorem zX8_turn {l : Launch} {D : va_G} {cI cZ cQ : ClassId} {h_t : Nat → Nat} {u_t : Pk} {a1 : Int32} {v_t : Pk} (hf : fX8_turn u_t a1 = some v_t) : MV l yX8_turn wsX8_turn rmX8_turn D (TY cI cZ cQ) [.ref (h_t 0), .int a1] [nX8 cI cZ cQ h_t u_t] [nX8 cI cZ cQ h_t v_t] := by
  refine MV.of (own := RX8) (by decide +kernel) rfl rfl (Nat.le_of_ble_eq_true rfl) (lv0 := [(0, .ref (h_t 0)), (1, .int a1)]) rfl ?_
  intro X O E
  unfold fX8_turn at hf
  refine r_ild_n O 1 rfl 1 rfl dX8_turn_0 ?_
  refine r_if_lt O 4 rfl 10 dX8_turn_1 (by decide) (fun hc1 => ?_) (fun hc1 => ?_)
  · rw [if_pos hc1] at hf
    obtain g0 := qe1 hf
    exact r_vret2 O E (by rw [g0]) dX8_turn_10
  · rw [if_neg hc1] at hf
    refine r_ild_n O 5 rfl 1 rfl dX8_turn_4 ?_
    refine r_bi O 7 rfl 12 (by decide) dX8_turn_5 ?_
    refine r_icmp_lt O 10 rfl 11 dX8_turn_7 (by decide) (fun hc7 => ?_) (fun hc7 => ?_)
    · rw [if_pos hc7] at hf
      refine r_ald_n O 12 rfl 0 rfl dX8_turn_11 ?_
      refine r_get (ref := RX8) (C := RX8) (T := TX8) (N := 9) O 15 rfl inBX8 0 2 rfl rfl rfl (by decide) flX8_18 rfl rfl dX8_turn_12 ?_
      refine r_ild_n O 16 rfl 1 rfl dX8_turn_15 ?_
      obtain ⟨x16, ex16, hin16, hf⟩ := qld_some hf
      refine r_iald O 17 rfl 0 3 rfl rfl hin16 dX8_turn_16 ?_
      rw [← ex16]
      refine r_ist_n O 18 rfl rfl [(2, .int x16), (0, .ref (h_t 0)), (1, .int a1)] dX8_turn_17 (by decide) rfl ?_
      refine r_ald_n O 19 rfl 1 rfl dX8_turn_18 ?_
      refine r_get (ref := RX8) (C := RX8) (T := TX8) (N := 9) O 22 rfl inBX8 0 3 rfl rfl rfl (by decide) flX8_22 rfl rfl dX8_turn_19 ?_
      refine r_ild_n O 23 rfl 2 rfl dX8_turn_22 ?_
      obtain ⟨x23, ex23, hin23, hf⟩ := qld_some hf
      refine r_iald O 24 rfl 0 4 rfl rfl hin23 dX8_turn_23 ?_
      rw [← ex23]
      refine r_ist_n O 25 rfl rfl [(3, .int x23), (2, .int x16), (0, .ref (h_t 0)), (1, .int a1)] dX8_turn_24 (by decide) rfl ?_
      refine r_ald_n O 26 rfl 2 rfl dX8_turn_25 ?_
      refine r_get (ref := RX8) (C := RX8) (T := TX8) (N := 9) O 29 rfl inBX8 0 2 rfl rfl rfl (by decide) flX8_18 rfl rfl dX8_turn_26 ?_
      refine r_ild_n O 30 rfl 3 rfl dX8_turn_29 ?_
      refine r_ald_n O 31 rfl 2 rfl dX8_turn_30 ?_
      refine r_get (ref := RX8) (C := RX8) (T := TX8) (N := 9) O 34 rfl inBX8 0 4 rfl rfl rfl (by decide) flX8_25 rfl rfl dX8_turn_31 ?_
      refine r_ild_n O 35 rfl 3 rfl dX8_turn_34 ?_
      obtain ⟨x35, ex35, hin35, hf⟩ := qld_some hf
      refine r_iald O 36 rfl 0 5 rfl rfl hin35 dX8_turn_35 ?_
      rw [← ex35]
      obtain ⟨hin36, hf⟩ := qst_some hf
      obtain ⟨p36_t, ep36_t, hf⟩ := qn_some hf
      refine r_iast O 37 rfl 0 3 rfl rfl hin36 ([nX8 cI cZ cQ h_t p36_t]) (by rw [ep36_t]; rfl) dX8_turn_36 ?_
      refine r_ald_n O 38 rfl 2 rfl dX8_turn_37 ?_
      refine r_get (ref := RX8) (C := RX8) (T := TX8) (N := 9) O 41 rfl inBX8 0 3 rfl rfl rfl (by decide) flX8_22 rfl rfl dX8_turn_38 ?_
      refine r_ild_n O 42 rfl 3 rfl dX8_turn_41 ?_
      refine r_ald_n O 43 rfl 2 rfl dX8_turn_42 ?_
      refine r_get (ref := RX8) (C := RX8) (T := TX8) (N := 9) O 46 rfl inBX8 0 5 rfl rfl rfl (by decide) flX8_28 rfl rfl dX8_turn_43 ?_
      refine r_ild_n O 47 rfl 3 rfl dX8_turn_46 ?_
      obtain ⟨x47, ex47, hin47, hf⟩ := qld_some hf
      refine r_iald O 48 rfl 0 6 rfl rfl hin47 dX8_turn_47 ?_
      rw [← ex47]
      obtain ⟨hin48, hf⟩ := qst_some hf
      obtain ⟨p48_t, ep48_t, hf⟩ := qn_some hf
      refine r_iast O 49 rfl 0 4 rfl rfl hin48 ([nX8 cI cZ cQ h_t p48_t]) (by rw [ep48_t]; rfl) dX8_turn_48 ?_
      refine r_ald_n O 50 rfl 2 rfl dX8_turn_49 ?_
      refine r_get (ref := RX8) (C := RX8) (T := TX8) (N := 9) O 53 rfl inBX8 0 4 rfl rfl rfl (by decide) flX8_25 rfl rfl dX8_turn_50 ?_
      refine r_ild_n O 54 rfl 3 rfl dX8_turn_53 ?_
      refine r_ild_n O 55 rfl 1 rfl dX8_turn_54 ?_
      obtain ⟨hin55, hf⟩ := qst_some hf
      obtain ⟨p55_t, ep55_t, hf⟩ := qn_some hf
      refine r_iast O 56 rfl 0 5 rfl rfl hin55 ([nX8 cI cZ cQ h_t p55_t]) (by rw [ep55_t]; rfl) dX8_turn_55 ?_
      refine r_ald_n O 57 rfl 2 rfl dX8_turn_56 ?_
      refine r_get (ref := RX8) (C := RX8) (T := TX8) (N := 9) O 60 rfl inBX8 0 5 rfl rfl rfl (by decide) flX8_28 rfl rfl dX8_turn_57 ?_
      refine r_ild_n O 61 rfl 3 rfl dX8_turn_60 ?_
      refine r_ild_n O 62 rfl 0 rfl dX8_turn_61 ?_
      obtain ⟨hin62, hf⟩ := qst_some hf
      obtain ⟨p62_t, ep62_t, hf⟩ := qn_some hf
      refine r_iast O 63 rfl 0 6 rfl rfl hin62 ([nX8 cI cZ cQ h_t p62_t]) (by rw [ep62_t]; rfl) dX8_turn_62 ?_
      obtain g0 := qe1 hf
      exact r_vret2 O E (by rw [g0]) dX8_turn_63
    · rw [if_neg hc7] at hf
      obtain g0 := qe1 hf
      exact r_vret2 O E (by rw [g0]) dX8_turn_10
-- X8_changeKind
def rmX8_changeKind : Room := { frames := 0, cells := 0, slots := 0, locals := 0 }
set_option maxHeartbeats 4000000 in
set_option maxRecDepth 100000 in
theorem zX8_changeKind {l : Launch} {D : va_G} {cI cZ cQ : ClassId} {h_t : Nat → Nat} {u_t : Pk} {a1 : Int32} {a2 : Int32} {v_t : Pk} (hf : fX8_changeKind u_t a1 a2 = some v_t) : MV l yX8_changeKind wsX8_changeKind rmX8_changeKind D (TY cI cZ cQ) [.ref (h_t 0), .int a1, .int a2] [nX8 cI cZ cQ h_t u_t] [nX8 cI cZ cQ h_t v_t] := by
  refine MV.of (own := RX8) (by decide +kernel) rfl rfl (Nat.le_of_ble_eq_true rfl) (lv0 := [(0, .ref (h_t 0)), (1, .int a1), (2, .int a2)]) rfl ?_
  intro X O E
  unfold fX8_changeKind at hf
  refine r_ild_n O 1 rfl 1 rfl dX8_changeKind_0 ?_
  refine r_if_lt O 4 rfl 17 dX8_changeKind_1 (by decide) (fun hc1 => ?_) (fun hc1 => ?_)
  · rw [if_pos hc1] at hf
    obtain g0 := qe1 hf
    exact r_vret2 O E (by rw [g0]) dX8_changeKind_17
  · rw [if_neg hc1] at hf
    refine r_ild_n O 5 rfl 1 rfl dX8_changeKind_4 ?_
    refine r_bi O 7 rfl 12 (by decide) dX8_changeKind_5 ?_
    refine r_icmp_ge O 10 rfl 17 dX8_changeKind_7 (by decide) (fun hc7 => ?_) (fun hc7 => ?_)
    · rw [if_pos hc7] at hf
      obtain g0 := qe1 hf
      exact r_vret2 O E (by rw [g0]) dX8_changeKind_17
    · rw [if_neg hc7] at hf
      refine r_ald_n O 11 rfl 0 rfl dX8_changeKind_10 ?_
      refine r_get (ref := RX8) (C := RX8) (T := TX8) (N := 9) O 14 rfl inBX8 0 6 rfl rfl rfl (by decide) flX8_31 rfl rfl dX8_changeKind_11 ?_
      refine r_ild_n O 15 rfl 1 rfl dX8_changeKind_14 ?_
      refine r_ild_n O 16 rfl 2 rfl dX8_changeKind_15 ?_
      obtain ⟨hin16, hf⟩ := qst_some hf
      obtain ⟨p16_t, ep16_t, hf⟩ := qn_some hf
      refine r_iast O 17 rfl 0 7 rfl rfl hin16 ([nX8 cI cZ cQ h_t p16_t]) (by rw [ep16_t]; rfl) dX8_changeKind_16 ?_
      obtain g0 := qe1 hf
      exact r_vret2 O E (by rw [g0]) dX8_changeKind_17
-- X8_hasSamePoints
def rmX8_hasSamePoints : Room := { frames := 1, cells := 0, slots := 0, locals := 21 }
set_option maxHeartbeats 4000000 in
set_option maxRecDepth 100000 in
theorem zX8_hasSamePoints {l : Launch} {D : va_G} {cI cZ cQ : ClassId} {h_t h_o : Nat → Nat} {u_t u_o : Pk} {a1 : Int32} {r0 : Int32} (hf : fX8_hasSamePoints u_t u_o a1 = some r0) : MZ l yX8_hasSamePoints wsX8_hasSamePoints rmX8_hasSamePoints D (TY cI cZ cQ) [.ref (h_t 0), .int a1, .ref (h_o 0)] [nX8 cI cZ cQ h_t u_t, nX8 cI cZ cQ h_o u_o] r0 [nX8 cI cZ cQ h_t u_t, nX8 cI cZ cQ h_o u_o] := by
  refine MZ.of (own := RX8) (by decide +kernel) rfl rfl (Nat.le_of_ble_eq_true rfl) (lv0 := [(0, .ref (h_t 0)), (1, .int a1), (2, .ref (h_o 0))]) rfl ?_
  intro X O E
  unfold fX8_hasSamePoints at hf
  refine r_ald_n O 1 rfl 0 rfl dX8_hasSamePoints_0 ?_
  refine r_ild_n O 2 rfl 1 rfl dX8_hasSamePoints_1 ?_
  obtain ⟨x2, hq2, hf⟩ := qb1_some hf
  refine k_VI O 5 rfl (zX8_startX (l := xl X) (D := xD X) (cI := cI) (cZ := cZ) (cQ := cQ) (h_t := h_t) hq2) (gV mlX8_74 mvX8_startX izX8) rfl rfl rfl hdX8_startX ⟨Nat.le_of_ble_eq_true rfl, Nat.le_of_ble_eq_true rfl⟩ rfl 0 rfl rfl rfl rfl (Nat.le_of_ble_eq_true rfl) ⟨Nat.zero_le _, Nat.zero_le _⟩ [0] rfl rfl rfl ([nX8 cI cZ cQ h_t u_t, nX8 cI cZ cQ h_o u_o]) rfl dX8_hasSamePoints_2 ?_
  refine r_ald_n O 6 rfl 2 rfl dX8_hasSamePoints_5 ?_
  refine r_ild_n O 7 rfl 1 rfl dX8_hasSamePoints_6 ?_
  obtain ⟨x7, hq7, hf⟩ := qb1_some hf
  refine k_VI O 10 rfl (zX8_startX (l := xl X) (D := xD X) (cI := cI) (cZ := cZ) (cQ := cQ) (h_t := h_o) hq7) (gV mlX8_74 mvX8_startX izX8) rfl rfl rfl hdX8_startX ⟨Nat.le_of_ble_eq_true rfl, Nat.le_of_ble_eq_true rfl⟩ rfl 1 rfl rfl rfl rfl (Nat.le_of_ble_eq_true rfl) ⟨Nat.zero_le _, Nat.zero_le _⟩ [1] rfl rfl rfl ([nX8 cI cZ cQ h_t u_t, nX8 cI cZ cQ h_o u_o]) rfl dX8_hasSamePoints_7 ?_
  refine r_icmp_ne O 13 rfl 56 dX8_hasSamePoints_10 (by decide) (fun hc10 => ?_) (fun hc10 => ?_)
  · rw [if_neg hc10] at hf
    refine r_ic O 57 rfl 0 (by decide) dX8_hasSamePoints_56 ?_
    obtain g0 := qe1 hf
    exact r_zret2 O E g0 rfl rfl dX8_hasSamePoints_57
  · rw [if_pos hc10] at hf
    refine r_ald_n O 14 rfl 0 rfl dX8_hasSamePoints_13 ?_
    refine r_ild_n O 15 rfl 1 rfl dX8_hasSamePoints_14 ?_
    obtain ⟨x15, hq15, hf⟩ := qb1_some hf
    refine k_VI O 18 rfl (zX8_startY (l := xl X) (D := xD X) (cI := cI) (cZ := cZ) (cQ := cQ) (h_t := h_t) hq15) (gV mlX8_76 mvX8_startY izX8) rfl rfl rfl hdX8_startY ⟨Nat.le_of_ble_eq_true rfl, Nat.le_of_ble_eq_true rfl⟩ rfl 0 rfl rfl rfl rfl (Nat.le_of_ble_eq_true rfl) ⟨Nat.zero_le _, Nat.zero_le _⟩ [0] rfl rfl rfl ([nX8 cI cZ cQ h_t u_t, nX8 cI cZ cQ h_o u_o]) rfl dX8_hasSamePoints_15 ?_
    refine r_ald_n O 19 rfl 2 rfl dX8_hasSamePoints_18 ?_
    refine r_ild_n O 20 rfl 1 rfl dX8_hasSamePoints_19 ?_
    obtain ⟨x20, hq20, hf⟩ := qb1_some hf
    refine k_VI O 23 rfl (zX8_startY (l := xl X) (D := xD X) (cI := cI) (cZ := cZ) (cQ := cQ) (h_t := h_o) hq20) (gV mlX8_76 mvX8_startY izX8) rfl rfl rfl hdX8_startY ⟨Nat.le_of_ble_eq_true rfl, Nat.le_of_ble_eq_true rfl⟩ rfl 1 rfl rfl rfl rfl (Nat.le_of_ble_eq_true rfl) ⟨Nat.zero_le _, Nat.zero_le _⟩ [1] rfl rfl rfl ([nX8 cI cZ cQ h_t u_t, nX8 cI cZ cQ h_o u_o]) rfl dX8_hasSamePoints_20 ?_
    refine r_icmp_ne O 26 rfl 56 dX8_hasSamePoints_23 (by decide) (fun hc23 => ?_) (fun hc23 => ?_)
    · rw [if_neg hc23] at hf
      refine r_ic O 57 rfl 0 (by decide) dX8_hasSamePoints_56 ?_
      obtain g0 := qe1 hf
      exact r_zret2 O E g0 rfl rfl dX8_hasSamePoints_57
    · rw [if_pos hc23] at hf
      refine r_ald_n O 27 rfl 0 rfl dX8_hasSamePoints_26 ?_
      refine r_ild_n O 28 rfl 1 rfl dX8_hasSamePoints_27 ?_
      obtain ⟨x28, hq28, hf⟩ := qb1_some hf
      refine k_VI O 31 rfl (zX8_endX (l := xl X) (D := xD X) (cI := cI) (cZ := cZ) (cQ := cQ) (h_t := h_t) hq28) (gV mlX8_78 mvX8_endX izX8) rfl rfl rfl hdX8_endX ⟨Nat.le_of_ble_eq_true rfl, Nat.le_of_ble_eq_true rfl⟩ rfl 0 rfl rfl rfl rfl (Nat.le_of_ble_eq_true rfl) ⟨Nat.zero_le _, Nat.zero_le _⟩ [0] rfl rfl rfl ([nX8 cI cZ cQ h_t u_t, nX8 cI cZ cQ h_o u_o]) rfl dX8_hasSamePoints_28 ?_
      refine r_ald_n O 32 rfl 2 rfl dX8_hasSamePoints_31 ?_
      refine r_ild_n O 33 rfl 1 rfl dX8_hasSamePoints_32 ?_
      obtain ⟨x33, hq33, hf⟩ := qb1_some hf
      refine k_VI O 36 rfl (zX8_endX (l := xl X) (D := xD X) (cI := cI) (cZ := cZ) (cQ := cQ) (h_t := h_o) hq33) (gV mlX8_78 mvX8_endX izX8) rfl rfl rfl hdX8_endX ⟨Nat.le_of_ble_eq_true rfl, Nat.le_of_ble_eq_true rfl⟩ rfl 1 rfl rfl rfl rfl (Nat.le_of_ble_eq_true rfl) ⟨Nat.zero_le _, Nat.zero_le _⟩ [1] rfl rfl rfl ([nX8 cI cZ cQ h_t u_t, nX8 cI cZ cQ h_o u_o]) rfl dX8_hasSamePoints_33 ?_
      refine r_icmp_ne O 39 rfl 56 dX8_hasSamePoints_36 (by decide) (fun hc36 => ?_) (fun hc36 => ?_)
      · rw [if_neg hc36] at hf
        refine r_ic O 57 rfl 0 (by decide) dX8_hasSamePoints_56 ?_
        obtain g0 := qe1 hf
        exact r_zret2 O E g0 rfl rfl dX8_hasSamePoints_57
      · rw [if_pos hc36] at hf
        refine r_ald_n O 40 rfl 0 rfl dX8_hasSamePoints_39 ?_
        refine r_ild_n O 41 rfl 1 rfl dX8_hasSamePoints_40 ?_
        obtain ⟨x41, hq41, hf⟩ := qb1_some hf
        refine k_VI O 44 rfl (zX8_endY (l := xl X) (D := xD X) (cI := cI) (cZ := cZ) (cQ := cQ) (h_t := h_t) hq41) (gV mlX8_80 mvX8_endY izX8) rfl rfl rfl hdX8_endY ⟨Nat.le_of_ble_eq_true rfl, Nat.le_of_ble_eq_true rfl⟩ rfl 0 rfl rfl rfl rfl (Nat.le_of_ble_eq_true rfl) ⟨Nat.zero_le _, Nat.zero_le _⟩ [0] rfl rfl rfl ([nX8 cI cZ cQ h_t u_t, nX8 cI cZ cQ h_o u_o]) rfl dX8_hasSamePoints_41 ?_
        refine r_ald_n O 45 rfl 2 rfl dX8_hasSamePoints_44 ?_
        refine r_ild_n O 46 rfl 1 rfl dX8_hasSamePoints_45 ?_
        obtain ⟨x46, hq46, hf⟩ := qb1_some hf
        refine k_VI O 49 rfl (zX8_endY (l := xl X) (D := xD X) (cI := cI) (cZ := cZ) (cQ := cQ) (h_t := h_o) hq46) (gV mlX8_80 mvX8_endY izX8) rfl rfl rfl hdX8_endY ⟨Nat.le_of_ble_eq_true rfl, Nat.le_of_ble_eq_true rfl⟩ rfl 1 rfl rfl rfl rfl (Nat.le_of_ble_eq_true rfl) ⟨Nat.zero_le _, Nat.zero_le _⟩ [1] rfl rfl rfl ([nX8 cI cZ cQ h_t u_t, nX8 cI cZ cQ h_o u_o]) rfl dX8_hasSamePoints_46 ?_
        refine r_icmp_ne O 52 rfl 56 dX8_hasSamePoints_49 (by decide) (fun hc49 => ?_) (fun hc49 => ?_)
        · rw [if_neg hc49] at hf
          refine r_ic O 57 rfl 0 (by decide) dX8_hasSamePoints_56 ?_
          obtain g0 := qe1 hf
          exact r_zret2 O E g0 rfl rfl dX8_hasSamePoints_57
        · rw [if_pos hc49] at hf
          refine r_ic O 53 rfl 1 (by decide) dX8_hasSamePoints_52 ?_
          refine r_goto O 57 dX8_hasSamePoints_53 (by decide) ?_
          obtain g0 := qe1 hf
          exact r_zret2 O E g0 rfl rfl dX8_hasSamePoints_57
-- X8_hasSameFixedPart
def rmX8_hasSameFixedPart : Room := { frames := 2, cells := 0, slots := 0, locals := 43 }
set_option maxHeartbeats 4000000 in
set_option maxRecDepth 100000 in
theorem zX8_hasSameFixedPart {l : Launch} {D : va_G} {cI cZ cQ : ClassId} {h_t h_o : Nat → Nat} {u_t u_o : Pk} {r0 : Int32} (hf : fX8_hasSameFixedPart u_t u_o = some r0) : MZ l yX8_hasSameFixedPart wsX8_hasSameFixedPart rmX8_hasSameFixedPart D (TY cI cZ cQ) [.ref (h_t 0), .ref (h_o 0)] [nX8 cI cZ cQ h_t u_t, nX8 cI cZ cQ h_o u_o] r0 [nX8 cI cZ cQ h_t u_t, nX8 cI cZ cQ h_o u_o] := by
  refine MZ.of (own := RX8) (by decide +kernel) rfl rfl (Nat.le_of_ble_eq_true rfl) (lv0 := [(0, .ref (h_t 0)), (1, .ref (h_o 0))]) rfl ?_
  intro X O E
  have B66 : ∀ (rec26 : Int32 → Option (Int32)), (∀ (y2 : Int32), rec26 y2 = some r0 → BK X 3 0 0 26 ([nX8 cI cZ cQ h_t u_t, nX8 cI cZ cQ h_o u_o]) [(0, .ref (h_t 0)), (1, .ref (h_o 0)), (2, .int y2)] []) → ∀ (y2 : Int32), fX8_hasSameFixedPart_b66 rec26 u_t u_o y2 = some r0 → BK X 3 0 0 66 ([nX8 cI cZ cQ h_t u_t, nX8 cI cZ cQ h_o u_o]) [(0, .ref (h_t 0)), (1, .ref (h_o 0)), (2, .int y2)] [] := by
    intro rec26 hrec26 y2 hf
    unfold fX8_hasSameFixedPart_b66 at hf
    obtain ⟨x66, ex66, hf⟩ := qn_some hf
    refine r_iinc O 69 rfl x66 2 rfl (by rw [ex66]; rfl) [(2, .int x66), (0, .ref (h_t 0)), (1, .ref (h_o 0))] dX8_hasSameFixedPart_66 (by decide) rfl ?_
    refine r_goto O 26 dX8_hasSameFixedPart_69 (by decide) ?_
    refine r_lv [1, 2, 0] rfl ?_
    exact hrec26 _ hf
  have B26 : ∀ n : Nat, ∀ (y2 : Int32), fX8_hasSameFixedPart_b26 u_t u_o n y2 = some r0 → BK X 3 0 0 26 ([nX8 cI cZ cQ h_t u_t, nX8 cI cZ cQ h_o u_o]) [(0, .ref (h_t 0)), (1, .ref (h_o 0)), (2, .int y2)] [] := by
    intro n
    induction n with
    | zero => exact fun _ hf => qno hf
    | succ n hrec26 =>
      intro y2 hf
      have hf : fX8_hasSameFixedPart_b26_s (fX8_hasSameFixedPart_b26 u_t u_o n) u_t u_o y2 = some r0 := hf
      generalize fX8_hasSameFixedPart_b26 u_t u_o n = rec26 at hf hrec26
      unfold fX8_hasSameFixedPart_b26_s at hf
      refine r_ild_n O 27 rfl 2 rfl dX8_hasSameFixedPart_26 ?_
      refine r_bi O 29 rfl 12 (by decide) dX8_hasSameFixedPart_27 ?_
      refine r_icmp_ge O 32 rfl 72 dX8_hasSameFixedPart_29 (by decide) (fun hc29 => ?_) (fun hc29 => ?_)
      · rw [if_pos hc29] at hf
        refine r_ic O 73 rfl 1 (by decide) dX8_hasSameFixedPart_72 ?_
        obtain g0 := qe1 hf
        exact r_zret2 O E g0 rfl rfl dX8_hasSameFixedPart_73
      · rw [if_neg hc29] at hf
        refine r_ald_n O 33 rfl 0 rfl dX8_hasSameFixedPart_32 ?_
        refine r_ild_n O 34 rfl 2 rfl dX8_hasSameFixedPart_33 ?_
        obtain ⟨x34, hq34, hf⟩ := qb1_some hf
        refine k_VZ O 37 rfl (zX8_isFixed (l := xl X) (D := xD X) (cI := cI) (cZ := cZ) (cQ := cQ) (h_t := h_t) hq34) (gV mlX8_41 mvX8_isFixed izX8) rfl rfl rfl hdX8_isFixed ⟨Nat.le_of_ble_eq_true rfl, Nat.le_of_ble_eq_true rfl⟩ rfl 0 rfl rfl rfl rfl (Nat.le_of_ble_eq_true rfl) ⟨Nat.zero_le _, Nat.zero_le _⟩ [0] rfl rfl rfl ([nX8 cI cZ cQ h_t u_t, nX8 cI cZ cQ h_o u_o]) rfl dX8_hasSameFixedPart_34 (fun hz34 => ?_)
        refine r_ald_n O 38 rfl 1 rfl dX8_hasSameFixedPart_37 ?_
        refine r_ild_n O 39 rfl 2 rfl dX8_hasSameFixedPart_38 ?_
        obtain ⟨x39, hq39, hf⟩ := qb1_some hf
        refine k_VZ O 42 rfl (zX8_isFixed (l := xl X) (D := xD X) (cI := cI) (cZ := cZ) (cQ := cQ) (h_t := h_o) hq39) (gV mlX8_41 mvX8_isFixed izX8) rfl rfl rfl hdX8_isFixed ⟨Nat.le_of_ble_eq_true rfl, Nat.le_of_ble_eq_true rfl⟩ rfl 1 rfl rfl rfl rfl (Nat.le_of_ble_eq_true rfl) ⟨Nat.zero_le _, Nat.zero_le _⟩ [1] rfl rfl rfl ([nX8 cI cZ cQ h_t u_t, nX8 cI cZ cQ h_o u_o]) rfl dX8_hasSameFixedPart_39 (fun hz39 => ?_)
        refine r_icmp_eq O 45 rfl 47 dX8_hasSameFixedPart_42 (by decide) (fun hc42 => ?_) (fun hc42 => ?_)
        · rw [if_pos hc42] at hf
          refine r_ald_n O 48 rfl 0 rfl dX8_hasSameFixedPart_47 ?_
          refine r_ild_n O 49 rfl 2 rfl dX8_hasSameFixedPart_48 ?_
          obtain ⟨x49, hq49, hf⟩ := qb1_some hf
          refine k_VZ O 52 rfl (zX8_isFixed (l := xl X) (D := xD X) (cI := cI) (cZ := cZ) (cQ := cQ) (h_t := h_t) hq49) (gV mlX8_41 mvX8_isFixed izX8) rfl rfl rfl hdX8_isFixed ⟨Nat.le_of_ble_eq_true rfl, Nat.le_of_ble_eq_true rfl⟩ rfl 0 rfl rfl rfl rfl (Nat.le_of_ble_eq_true rfl) ⟨Nat.zero_le _, Nat.zero_le _⟩ [0] rfl rfl rfl ([nX8 cI cZ cQ h_t u_t, nX8 cI cZ cQ h_o u_o]) rfl dX8_hasSameFixedPart_49 (fun hz49 => ?_)
          refine r_if_eq O 55 rfl 66 dX8_hasSameFixedPart_52 (by decide) (fun hc52 => ?_) (fun hc52 => ?_)
          · rw [if_pos hc52] at hf
            exact B66 rec26 hrec26 _ hf
          · rw [if_neg hc52] at hf
            refine r_ald_n O 56 rfl 0 rfl dX8_hasSameFixedPart_55 ?_
            refine r_ild_n O 57 rfl 2 rfl dX8_hasSameFixedPart_56 ?_
            refine r_ald_n O 58 rfl 1 rfl dX8_hasSameFixedPart_57 ?_
            obtain ⟨x58, hq58, hf⟩ := qb1_some hf
            refine k_VZ O 61 rfl (zX8_hasSamePoints (l := xl X) (D := xD X) (cI := cI) (cZ := cZ) (cQ := cQ) (h_t := h_t) (h_o := h_o) hq58) (gV mlX8_70 mvX8_hasSamePoints izX8) rfl rfl rfl hdX8_hasSamePoints ⟨Nat.le_of_ble_eq_true rfl, Nat.le_of_ble_eq_true rfl⟩ rfl 0 rfl rfl rfl rfl (Nat.le_of_ble_eq_true rfl) ⟨Nat.zero_le _, Nat.zero_le _⟩ [0, 1] rfl rfl rfl ([nX8 cI cZ cQ h_t u_t, nX8 cI cZ cQ h_o u_o]) rfl dX8_hasSameFixedPart_58 (fun hz58 => ?_)
            refine r_if_ne O 64 rfl 66 dX8_hasSameFixedPart_61 (by decide) (fun hc61 => ?_) (fun hc61 => ?_)
            · rw [if_neg hc61] at hf
              exact B66 rec26 hrec26 _ hf
            · rw [if_pos hc61] at hf
              refine r_ic O 65 rfl 0 (by decide) dX8_hasSameFixedPart_64 ?_
              obtain g0 := qe1 hf
              exact r_zret2 O E g0 rfl rfl dX8_hasSameFixedPart_65
        · rw [if_neg hc42] at hf
          refine r_ic O 46 rfl 0 (by decide) dX8_hasSameFixedPart_45 ?_
          obtain g0 := qe1 hf
          exact r_zret2 O E g0 rfl rfl dX8_hasSameFixedPart_46
  unfold fX8_hasSameFixedPart at hf
  refine r_ald_n O 1 rfl 0 rfl dX8_hasSameFixedPart_0 ?_
  refine r_get (ref := RX8) (C := RX8) (T := TX8) (N := 9) O 4 rfl inBX8 0 7 rfl rfl rfl (by decide) flX8_34 rfl rfl dX8_hasSameFixedPart_1 ?_
  refine r_ald_n O 5 rfl 1 rfl dX8_hasSameFixedPart_4 ?_
  refine r_get (ref := RX8) (C := RX8) (T := TX8) (N := 9) O 8 rfl inBX8 1 7 rfl rfl rfl (by decide) flX8_34 rfl rfl dX8_hasSameFixedPart_5 ?_
  refine r_icmp_ne O 11 rfl 22 dX8_hasSameFixedPart_8 (by decide) (fun hc8 => ?_) (fun hc8 => ?_)
  · rw [if_neg hc8] at hf
    refine r_ic O 23 rfl 0 (by decide) dX8_hasSameFixedPart_22 ?_
    obtain g0 := qe1 hf
    exact r_zret2 O E g0 rfl rfl dX8_hasSameFixedPart_23
  · rw [if_pos hc8] at hf
    refine r_ald_n O 12 rfl 0 rfl dX8_hasSameFixedPart_11 ?_
    refine r_get (ref := RX8) (C := RX8) (T := TX8) (N := 9) O 15 rfl inBX8 0 8 rfl rfl rfl (by decide) flX8_38 rfl rfl dX8_hasSameFixedPart_12 ?_
    refine r_ald_n O 16 rfl 1 rfl dX8_hasSameFixedPart_15 ?_
    refine r_get (ref := RX8) (C := RX8) (T := TX8) (N := 9) O 19 rfl inBX8 1 8 rfl rfl rfl (by decide) flX8_38 rfl rfl dX8_hasSameFixedPart_16 ?_
    refine r_icmp_eq O 22 rfl 24 dX8_hasSameFixedPart_19 (by decide) (fun hc19 => ?_) (fun hc19 => ?_)
    · rw [if_pos hc19] at hf
      refine r_ic O 25 rfl 0 (by decide) dX8_hasSameFixedPart_24 ?_
      refine r_ist_n O 26 rfl rfl [(2, .int 0), (0, .ref (h_t 0)), (1, .ref (h_o 0))] dX8_hasSameFixedPart_25 (by decide) rfl ?_
      refine r_lv [1, 2, 0] rfl ?_
      exact B26 FU _ hf
    · rw [if_neg hc19] at hf
      refine r_ic O 23 rfl 0 (by decide) dX8_hasSameFixedPart_22 ?_
      obtain g0 := qe1 hf
      exact r_zret2 O E g0 rfl rfl dX8_hasSameFixedPart_23
-- X9_isOutside
def rmX9_isOutside : Room := { frames := 0, cells := 0, slots := 0, locals := 0 }
set_option maxHeartbeats 4000000 in
set_option maxRecDepth 100000 in
theorem zX9_isOutside {l : Launch} {D : va_G} {cI cZ cQ : ClassId} {a1 : Int32} {a2 : Int32} {a3 : Int32} {r0 : Int32} (hf : fX9_isOutside a1 a2 a3 = some r0) : MZ l yX9_isOutside wsX9_isOutside rmX9_isOutside D (TY cI cZ cQ) [.int a1, .int a2, .int a3] [] r0 [] := by
  refine MZ.of (own := RX9) (by decide +kernel) rfl rfl (Nat.le_of_ble_eq_true rfl) (lv0 := [(0, .int a1), (1, .int a2), (2, .int a3)]) rfl ?_
  intro X O E
  unfold fX9_isOutside at hf
  refine r_ild_n O 1 rfl 0 rfl dX9_isOutside_0 ?_
  refine r_ild_n O 2 rfl 1 rfl dX9_isOutside_1 ?_
  refine r_icmp_lt O 5 rfl 10 dX9_isOutside_2 (by decide) (fun hc2 => ?_) (fun hc2 => ?_)
  · rw [if_pos hc2] at hf
    refine r_ic O 11 rfl 1 (by decide) dX9_isOutside_10 ?_
    refine r_goto O 15 dX9_isOutside_11 (by decide) ?_
    obtain g0 := qe1 hf
    exact r_zret2 O E g0 rfl rfl dX9_isOutside_15
  · rw [if_neg hc2] at hf
    refine r_ild_n O 6 rfl 0 rfl dX9_isOutside_5 ?_
    refine r_ild_n O 7 rfl 2 rfl dX9_isOutside_6 ?_
    refine r_icmp_le O 10 rfl 14 dX9_isOutside_7 (by decide) (fun hc7 => ?_) (fun hc7 => ?_)
    · rw [if_pos hc7] at hf
      refine r_ic O 15 rfl 0 (by decide) dX9_isOutside_14 ?_
      obtain g0 := qe1 hf
      exact r_zret2 O E g0 rfl rfl dX9_isOutside_15
    · rw [if_neg hc7] at hf
      refine r_ic O 11 rfl 1 (by decide) dX9_isOutside_10 ?_
      refine r_goto O 15 dX9_isOutside_11 (by decide) ?_
      obtain g0 := qe1 hf
      exact r_zret2 O E g0 rfl rfl dX9_isOutside_15
-- X9_isBadPoint
def rmX9_isBadPoint : Room := { frames := 1, cells := 0, slots := 0, locals := 22 }
set_option maxHeartbeats 4000000 in
set_option maxRecDepth 100000 in
theorem zX9_isBadPoint {l : Launch} {D : va_G} {cI cZ cQ : ClassId} {a1 : Int32} {a2 : Int32} {r0 : Int32} (hf : fX9_isBadPoint a1 a2 = some r0) : MZ l yX9_isBadPoint wsX9_isBadPoint rmX9_isBadPoint D (TY cI cZ cQ) [.int a1, .int a2] [] r0 [] := by
  refine MZ.of (own := RX9) (by decide +kernel) rfl rfl (Nat.le_of_ble_eq_true rfl) (lv0 := [(0, .int a1), (1, .int a2)]) rfl ?_
  intro X O E
  unfold fX9_isBadPoint at hf
  refine r_ild_n O 1 rfl 0 rfl dX9_isBadPoint_0 ?_
  refine r_ic O 2 rfl 0 (by decide) dX9_isBadPoint_1 ?_
  refine r_bi O 4 rfl 63 (by decide) dX9_isBadPoint_2 ?_
  obtain ⟨x4, hq4, hf⟩ := qb1_some hf
  refine k_SZ O 7 rfl (zX9_isOutside (l := xl X) (D := xD X) (cI := cI) (cZ := cZ) (cQ := cQ) hq4) (gS mlX9_90 mvX9_isOutside izX9) rfl rfl rfl hdX9_isOutside ⟨Nat.le_of_ble_eq_true rfl, Nat.le_of_ble_eq_true rfl⟩ rfl rfl (Nat.le_of_ble_eq_true rfl) ⟨Nat.zero_le _, Nat.zero_le _⟩ [] rfl rfl rfl ([]) rfl dX9_isBadPoint_4 (fun hz4 => ?_)
  refine r_if_ne O 10 rfl 20 dX9_isBadPoint_7 (by decide) (fun hc7 => ?_) (fun hc7 => ?_)
  · rw [if_neg hc7] at hf
    refine r_ic O 21 rfl 1 (by decide) dX9_isBadPoint_20 ?_
    refine r_goto O 25 dX9_isBadPoint_21 (by decide) ?_
    obtain g0 := qe1 hf
    exact r_zret2 O E g0 rfl rfl dX9_isBadPoint_25
  · rw [if_pos hc7] at hf
    refine r_ild_n O 11 rfl 1 rfl dX9_isBadPoint_10 ?_
    refine r_ic O 12 rfl 0 (by decide) dX9_isBadPoint_11 ?_
    refine r_bi O 14 rfl 63 (by decide) dX9_isBadPoint_12 ?_
    obtain ⟨x14, hq14, hf⟩ := qb1_some hf
    refine k_SZ O 17 rfl (zX9_isOutside (l := xl X) (D := xD X) (cI := cI) (cZ := cZ) (cQ := cQ) hq14) (gS mlX9_90 mvX9_isOutside izX9) rfl rfl rfl hdX9_isOutside ⟨Nat.le_of_ble_eq_true rfl, Nat.le_of_ble_eq_true rfl⟩ rfl rfl (Nat.le_of_ble_eq_true rfl) ⟨Nat.zero_le _, Nat.zero_le _⟩ [] rfl rfl rfl ([]) rfl dX9_isBadPoint_14 (fun hz14 => ?_)
    refine r_if_eq O 20 rfl 24 dX9_isBadPoint_17 (by decide) (fun hc17 => ?_) (fun hc17 => ?_)
    · rw [if_pos hc17] at hf
      refine r_ic O 25 rfl 0 (by decide) dX9_isBadPoint_24 ?_
      obtain g0 := qe1 hf
      exact r_zret2 O E g0 rfl rfl dX9_isBadPoint_25
    · rw [if_neg hc17] at hf
      refine r_ic O 21 rfl 1 (by decide) dX9_isBadPoint_20 ?_
      refine r_goto O 25 dX9_isBadPoint_21 (by decide) ?_
      obtain g0 := qe1 hf
      exact r_zret2 O E g0 rfl rfl dX9_isBadPoint_25
-- X9_pointCode
def rmX9_pointCode : Room := { frames := 0, cells := 0, slots := 0, locals := 0 }
set_option maxHeartbeats 4000000 in
set_option maxRecDepth 100000 in
theorem zX9_pointCode {l : Launch} {D : va_G} {cI cZ cQ : ClassId} {a1 : Int32} {a2 : Int32} {r0 : Int32} (hf : fX9_pointCode a1 a2 = some r0) : MI l yX9_pointCode wsX9_pointCode rmX9_pointCode D (TY cI cZ cQ) [.int a1, .int a2] [] r0 [] := by
  refine MI.of (own := RX9) (by decide +kernel) rfl rfl (Nat.le_of_ble_eq_true rfl) (lv0 := [(0, .int a1), (1, .int a2)]) rfl ?_
  intro X O E
  unfold fX9_pointCode at hf
  refine r_bi O 2 rfl 64 (by decide) dX9_pointCode_0 ?_
  refine r_ild_n O 3 rfl 0 rfl dX9_pointCode_2 ?_
  refine r_imul O 4 rfl dX9_pointCode_3 ?_
  refine r_ild_n O 5 rfl 1 rfl dX9_pointCode_4 ?_
  refine r_iadd O 6 rfl dX9_pointCode_5 ?_
  obtain g0 := qe1 hf
  exact r_iret2 O E g0 rfl dX9_pointCode_6
-- X9_areBadWeights
def rmX9_areBadWeights : Room := { frames := 1, cells := 0, slots := 0, locals := 22 }
set_option maxHeartbeats 4000000 in
set_option maxRecDepth 100000 in
theorem zX9_areBadWeights {l : Launch} {D : va_G} {cI cZ cQ : ClassId} {a1 : Int32} {a2 : Int32} {r0 : Int32} (hf : fX9_areBadWeights a1 a2 = some r0) : MZ l yX9_areBadWeights wsX9_areBadWeights rmX9_areBadWeights D (TY cI cZ cQ) [.int a1, .int a2] [] r0 [] := by
  refine MZ.of (own := RX9) (by decide +kernel) rfl rfl (Nat.le_of_ble_eq_true rfl) (lv0 := [(0, .int a1), (1, .int a2)]) rfl ?_
  intro X O E
  unfold fX9_areBadWeights at hf
  refine r_ild_n O 1 rfl 0 rfl dX9_areBadWeights_0 ?_
  refine r_ic O 2 rfl 0 (by decide) dX9_areBadWeights_1 ?_
  refine r_bi O 4 rfl 9 (by decide) dX9_areBadWeights_2 ?_
  obtain ⟨x4, hq4, hf⟩ := qb1_some hf
  refine k_SZ O 7 rfl (zX9_isOutside (l := xl X) (D := xD X) (cI := cI) (cZ := cZ) (cQ := cQ) hq4) (gS mlX9_90 mvX9_isOutside izX9) rfl rfl rfl hdX9_isOutside ⟨Nat.le_of_ble_eq_true rfl, Nat.le_of_ble_eq_true rfl⟩ rfl rfl (Nat.le_of_ble_eq_true rfl) ⟨Nat.zero_le _, Nat.zero_le _⟩ [] rfl rfl rfl ([]) rfl dX9_areBadWeights_4 (fun hz4 => ?_)
  refine r_if_ne O 10 rfl 20 dX9_areBadWeights_7 (by decide) (fun hc7 => ?_) (fun hc7 => ?_)
  · rw [if_neg hc7] at hf
    refine r_ic O 21 rfl 1 (by decide) dX9_areBadWeights_20 ?_
    refine r_goto O 25 dX9_areBadWeights_21 (by decide) ?_
    obtain g0 := qe1 hf
    exact r_zret2 O E g0 rfl rfl dX9_areBadWeights_25
  · rw [if_pos hc7] at hf
    refine r_ild_n O 11 rfl 1 rfl dX9_areBadWeights_10 ?_
    refine r_ic O 12 rfl 0 (by decide) dX9_areBadWeights_11 ?_
    refine r_bi O 14 rfl 9 (by decide) dX9_areBadWeights_12 ?_
    obtain ⟨x14, hq14, hf⟩ := qb1_some hf
    refine k_SZ O 17 rfl (zX9_isOutside (l := xl X) (D := xD X) (cI := cI) (cZ := cZ) (cQ := cQ) hq14) (gS mlX9_90 mvX9_isOutside izX9) rfl rfl rfl hdX9_isOutside ⟨Nat.le_of_ble_eq_true rfl, Nat.le_of_ble_eq_true rfl⟩ rfl rfl (Nat.le_of_ble_eq_true rfl) ⟨Nat.zero_le _, Nat.zero_le _⟩ [] rfl rfl rfl ([]) rfl dX9_areBadWeights_14 (fun hz14 => ?_)
    refine r_if_eq O 20 rfl 24 dX9_areBadWeights_17 (by decide) (fun hc17 => ?_) (fun hc17 => ?_)
    · rw [if_pos hc17] at hf
      refine r_ic O 25 rfl 0 (by decide) dX9_areBadWeights_24 ?_
      obtain g0 := qe1 hf
      exact r_zret2 O E g0 rfl rfl dX9_areBadWeights_25
    · rw [if_neg hc17] at hf
      refine r_ic O 21 rfl 1 (by decide) dX9_areBadWeights_20 ?_
      refine r_goto O 25 dX9_areBadWeights_21 (by decide) ?_
      obtain g0 := qe1 hf
      exact r_zret2 O E g0 rfl rfl dX9_areBadWeights_25
-- X9_quotient
def rmX9_quotient : Room := { frames := 0, cells := 0, slots := 0, locals := 0 }
set_option maxHeartbeats 4000000 in
set_option maxRecDepth 100000 in
theorem zX9_quotient {l : Launch} {D : va_G} {cI cZ cQ : ClassId} {a1 : Int32} {a2 : Int32} {r0 : UInt64} (hf : fX9_quotient a1 a2 = some r0) : MD l yX9_quotient wsX9_quotient rmX9_quotient D (TY cI cZ cQ) [.int a1, .int a2] [] r0 [] := by
  refine MD.of (own := RX9) (by decide +kernel) rfl rfl (Nat.le_of_ble_eq_true rfl) (lv0 := [(0, .int a1), (1, .int a2)]) rfl ?_
  intro X O E
  unfold fX9_quotient at hf
  refine r_ild_n O 1 rfl 1 rfl dX9_quotient_0 ?_
  refine r_if_ne O 4 rfl 8 dX9_quotient_1 (by decide) (fun hc1 => ?_) (fun hc1 => ?_)
  · rw [if_neg hc1] at hf
    refine r_ild_n O 9 rfl 0 rfl dX9_quotient_8 ?_
    refine r_i2d O 10 rfl dX9_quotient_9 ?_
    refine r_ild_n O 11 rfl 1 rfl dX9_quotient_10 ?_
    refine r_i2d O 12 rfl dX9_quotient_11 ?_
    obtain ⟨hnn12, hf⟩ := qnn_some hf
    refine r_ddiv O 13 rfl dX9_quotient_12 hnn12 ?_
    obtain g0 := qe1 hf
    exact r_dret2 O E g0 rfl dX9_quotient_13
  · rw [if_pos hc1] at hf
    refine r_dc0 O 5 rfl dX9_quotient_4 ?_
    refine r_goto O 13 dX9_quotient_5 (by decide) ?_
    obtain g0 := qe1 hf
    exact r_dret2 O E g0 rfl dX9_quotient_13
-- X9_squareRoot
def rmX9_squareRoot : Room := { frames := 0, cells := 0, slots := 0, locals := 0 }
set_option maxHeartbeats 4000000 in
set_option maxRecDepth 100000 in
theorem zX9_squareRoot {l : Launch} {D : va_G} {cI cZ cQ : ClassId} {a1 : Int32} {r0 : UInt64} (hf : fX9_squareRoot a1 = some r0) : MD l yX9_squareRoot wsX9_squareRoot rmX9_squareRoot D (TY cI cZ cQ) [.int a1] [] r0 [] := by
  refine MD.of (own := RX9) (by decide +kernel) rfl rfl (Nat.le_of_ble_eq_true rfl) (lv0 := [(0, .int a1)]) rfl ?_
  intro X O E
  have B120 : ∀ (y1 : Int64) (y5 : UInt64), fX9_squareRoot_b120 y1 y5 = some r0 → BK X 10 0 0 120 ([]) [(1, .long y1), (5, .double y5)] [] := by
    intro y1 y5 hf
    unfold fX9_squareRoot_b120 at hf
    refine r_lld_n O 121 rfl 0 rfl dX9_squareRoot_120 ?_
    refine r_lc O 122 rfl 1 (by decide) dX9_squareRoot_121 ?_
    refine r_ladd O 123 rfl dX9_squareRoot_122 ?_
    refine r_ldcl O 126 rfl (v := 2) clX9_411 dX9_squareRoot_123 ?_
    obtain ⟨hne126, hf⟩ := qnzl_some hf
    refine r_ldiv O 127 rfl dX9_squareRoot_126 hne126 ?_
    refine r_l2d O 128 rfl dX9_squareRoot_127 ?_
    refine r_dld O 130 rfl 1 rfl dX9_squareRoot_128 ?_
    refine r_ldcd O 133 rfl (v := 4611686018427387904) clX9_413 dX9_squareRoot_130 ?_
    obtain ⟨hnn133, hf⟩ := qnn_some hf
    refine r_ddiv O 134 rfl dX9_squareRoot_133 hnn133 ?_
    obtain ⟨hnn134, hf⟩ := qnn_some hf
    refine r_ddiv O 135 rfl dX9_squareRoot_134 hnn134 ?_
    obtain g0 := qe1 hf
    exact r_dret2 O E g0 rfl dX9_squareRoot_135
  have B106 : ∀ (rec54 : Int64 → Int64 → UInt64 → Int32 → Option (UInt64)), (∀ (y1 : Int64) (y3 : Int64) (y5 : UInt64) (y7 : Int32), rec54 y1 y3 y5 y7 = some r0 → BK X 10 0 0 54 ([]) [(1, .long y1), (3, .long y3), (5, .double y5), (7, .int y7)] []) → ∀ (y1 : Int64) (y3 : Int64) (y5 : UInt64) (y7 : Int32), fX9_squareRoot_b106 rec54 y1 y3 y5 y7 = some r0 → BK X 10 0 0 106 ([]) [(1, .long y1), (3, .long y3), (5, .double y5), (7, .int y7)] [] := by
    intro rec54 hrec54 y1 y3 y5 y7 hf
    unfold fX9_squareRoot_b106 at hf
    refine r_dld O 108 rfl 2 rfl dX9_squareRoot_106 ?_
    refine r_ldcd O 111 rfl (v := 4611686018427387904) clX9_413 dX9_squareRoot_108 ?_
    obtain ⟨hnn111, hf⟩ := qnn_some hf
    refine r_dmul O 112 rfl dX9_squareRoot_111 hnn111 ?_
    obtain ⟨x112, ex112, hf⟩ := qn_some hf
    rw [← ex112]
    refine r_dst O 114 rfl [(5, .double x112), (1, .long y1), (3, .long y3), (7, .int y7)] dX9_squareRoot_112 (by decide) rfl ?_
    obtain ⟨x114, ex114, hf⟩ := qn_some hf
    refine r_iinc O 117 rfl x114 3 rfl (by rw [ex114]; rfl) [(7, .int x114), (5, .double x112), (1, .long y1), (3, .long y3)] dX9_squareRoot_114 (by decide) rfl ?_
    refine r_goto O 54 dX9_squareRoot_117 (by decide) ?_
    refine r_lv [2, 3, 1, 0] rfl ?_
    exact hrec54 _ _ _ _ hf
  have B54 : ∀ n : Nat, ∀ (y1 : Int64) (y3 : Int64) (y5 : UInt64) (y7 : Int32), fX9_squareRoot_b54 n y1 y3 y5 y7 = some r0 → BK X 10 0 0 54 ([]) [(1, .long y1), (3, .long y3), (5, .double y5), (7, .int y7)] [] := by
    intro n
    induction n with
    | zero => exact fun _ _ _ _ hf => qno hf
    | succ n hrec54 =>
      intro y1 y3 y5 y7 hf
      have hf : fX9_squareRoot_b54_s (fX9_squareRoot_b54 n) y1 y3 y5 y7 = some r0 := hf
      generalize fX9_squareRoot_b54 n = rec54 at hf hrec54
      unfold fX9_squareRoot_b54_s at hf
      refine r_ild O 56 rfl 3 rfl dX9_squareRoot_54 ?_
      refine r_bi O 58 rfl 54 (by decide) dX9_squareRoot_56 ?_
      refine r_icmp_ge O 61 rfl 120 dX9_squareRoot_58 (by decide) (fun hc58 => ?_) (fun hc58 => ?_)
      · rw [if_pos hc58] at hf
        refine r_lv [0, 2] rfl ?_
        exact B120 _ _ hf
      · rw [if_neg hc58] at hf
        refine r_lld_n O 62 rfl 0 rfl dX9_squareRoot_61 ?_
        refine r_ldcl O 65 rfl (v := 9007199254740992) clX9_407 dX9_squareRoot_62 ?_
        refine r_lcmp O 66 rfl dX9_squareRoot_65 ?_
        refine r_if_ge O 69 rfl 120 dX9_squareRoot_66 (by decide) (fun hc66 => ?_) (fun hc66 => ?_)
        · rw [if_pos hc66] at hf
          refine r_lv [0, 2] rfl ?_
          exact B120 _ _ hf
        · rw [if_neg hc66] at hf
          refine r_ldcl O 72 rfl (v := 4) clX9_409 dX9_squareRoot_69 ?_
          refine r_lld_n O 73 rfl 1 rfl dX9_squareRoot_72 ?_
          refine r_lmul O 74 rfl dX9_squareRoot_73 ?_
          obtain ⟨x74, ex74, hf⟩ := qn_some hf
          rw [← ex74]
          refine r_lst_n O 75 rfl rfl [(3, .long x74), (1, .long y1), (5, .double y5), (7, .int y7)] dX9_squareRoot_74 (by decide) rfl ?_
          refine r_ldcl O 78 rfl (v := 4) clX9_409 dX9_squareRoot_75 ?_
          refine r_lld_n O 79 rfl 1 rfl dX9_squareRoot_78 ?_
          refine r_lmul O 80 rfl dX9_squareRoot_79 ?_
          refine r_lc O 81 rfl 1 (by decide) dX9_squareRoot_80 ?_
          refine r_ladd O 82 rfl dX9_squareRoot_81 ?_
          obtain ⟨x82, ex82, hf⟩ := qn_some hf
          rw [← ex82]
          refine r_lst O 84 rfl [(8, .long x82), (3, .long x74), (1, .long y1), (5, .double y5), (7, .int y7)] dX9_squareRoot_82 (by decide) rfl ?_
          refine r_ldcl O 87 rfl (v := 2) clX9_411 dX9_squareRoot_84 ?_
          refine r_lld_n O 88 rfl 2 rfl dX9_squareRoot_87 ?_
          refine r_lmul O 89 rfl dX9_squareRoot_88 ?_
          obtain ⟨x89, ex89, hf⟩ := qn_some hf
          rw [← ex89]
          refine r_lst_n O 90 rfl rfl [(1, .long x89), (8, .long x82), (3, .long x74), (5, .double y5), (7, .int y7)] dX9_squareRoot_89 (by decide) rfl ?_
          refine r_lld_n O 91 rfl 2 rfl dX9_squareRoot_90 ?_
          refine r_lld O 93 rfl 1 rfl dX9_squareRoot_91 ?_
          refine r_lcmp O 94 rfl dX9_squareRoot_93 ?_
          refine r_if_lt O 97 rfl 106 dX9_squareRoot_94 (by decide) (fun hc94 => ?_) (fun hc94 => ?_)
          · rw [if_pos hc94] at hf
            refine r_lv [0, 2, 3, 4] rfl ?_
            exact B106 rec54 hrec54 _ _ _ _ hf
          · rw [if_neg hc94] at hf
            refine r_lld_n O 98 rfl 2 rfl dX9_squareRoot_97 ?_
            refine r_lld O 100 rfl 1 rfl dX9_squareRoot_98 ?_
            refine r_lsub O 101 rfl dX9_squareRoot_100 ?_
            obtain ⟨x101, ex101, hf⟩ := qn_some hf
            rw [← ex101]
            refine r_lst_n O 102 rfl rfl [(3, .long x101), (1, .long x89), (8, .long x82), (5, .double y5), (7, .int y7)] dX9_squareRoot_101 (by decide) rfl ?_
            refine r_lld_n O 103 rfl 1 rfl dX9_squareRoot_102 ?_
            refine r_lc O 104 rfl 1 (by decide) dX9_squareRoot_103 ?_
            refine r_ladd O 105 rfl dX9_squareRoot_104 ?_
            obtain ⟨x105, ex105, hf⟩ := qn_some hf
            rw [← ex105]
            refine r_lst_n O 106 rfl rfl [(1, .long x105), (3, .long x101), (8, .long x82), (5, .double y5), (7, .int y7)] dX9_squareRoot_105 (by decide) rfl ?_
            refine r_lv [0, 1, 3, 4] rfl ?_
            exact B106 rec54 hrec54 _ _ _ _ hf
  have B33 : ∀ (y0 : Int32) (y1 : Int64), fX9_squareRoot_b33 y0 y1 = some r0 → BK X 10 0 0 33 ([]) [(0, .int y0), (1, .long y1)] [] := by
    intro y0 y1 hf
    unfold fX9_squareRoot_b33 at hf
    refine r_lld_n O 34 rfl 1 rfl dX9_squareRoot_33 ?_
    refine r_lc O 35 rfl 0 (by decide) dX9_squareRoot_34 ?_
    refine r_lcmp O 36 rfl dX9_squareRoot_35 ?_
    refine r_if_ne O 39 rfl 41 dX9_squareRoot_36 (by decide) (fun hc36 => ?_) (fun hc36 => ?_)
    · rw [if_neg hc36] at hf
      refine r_ild_n O 42 rfl 0 rfl dX9_squareRoot_41 ?_
      refine r_i2l O 43 rfl dX9_squareRoot_42 ?_
      refine r_lld_n O 44 rfl 1 rfl dX9_squareRoot_43 ?_
      refine r_lld_n O 45 rfl 1 rfl dX9_squareRoot_44 ?_
      refine r_lmul O 46 rfl dX9_squareRoot_45 ?_
      refine r_lsub O 47 rfl dX9_squareRoot_46 ?_
      obtain ⟨x47, ex47, hf⟩ := qn_some hf
      rw [← ex47]
      refine r_lst_n O 48 rfl rfl [(3, .long x47), (0, .int y0), (1, .long y1)] dX9_squareRoot_47 (by decide) rfl ?_
      refine r_dc1 O 49 rfl dX9_squareRoot_48 ?_
      refine r_dst O 51 rfl [(5, .double 4607182418800017408), (3, .long x47), (0, .int y0), (1, .long y1)] dX9_squareRoot_49 (by decide) rfl ?_
      refine r_ic O 52 rfl 0 (by decide) dX9_squareRoot_51 ?_
      refine r_ist O 54 rfl [(7, .int 0), (5, .double 4607182418800017408), (3, .long x47), (0, .int y0), (1, .long y1)] dX9_squareRoot_52 (by decide) rfl ?_
      refine r_lv [4, 2, 1, 0] rfl ?_
      exact B54 FU _ _ _ _ hf
    · rw [if_pos hc36] at hf
      refine r_dc0 O 40 rfl dX9_squareRoot_39 ?_
      obtain g0 := qe1 hf
      exact r_dret2 O E g0 rfl dX9_squareRoot_40
  have B4 : ∀ n : Nat, ∀ (y0 : Int32) (y1 : Int64) (y3 : Int32), fX9_squareRoot_b4 n y0 y1 y3 = some r0 → BK X 10 0 0 4 ([]) [(0, .int y0), (1, .long y1), (3, .int y3)] [] := by
    intro n
    induction n with
    | zero => exact fun _ _ _ hf => qno hf
    | succ n hrec4 =>
      intro y0 y1 y3 hf
      have hf : fX9_squareRoot_b4_s (fX9_squareRoot_b4 n) y0 y1 y3 = some r0 := hf
      generalize fX9_squareRoot_b4 n = rec4 at hf hrec4
      unfold fX9_squareRoot_b4_s at hf
      refine r_ild_n O 5 rfl 2 rfl dX9_squareRoot_4 ?_
      refine r_bi O 7 rfl 100 (by decide) dX9_squareRoot_5 ?_
      refine r_icmp_ge O 10 rfl 33 dX9_squareRoot_7 (by decide) (fun hc7 => ?_) (fun hc7 => ?_)
      · rw [if_pos hc7] at hf
        refine r_lv [0, 1] rfl ?_
        exact B33 _ _ hf
      · rw [if_neg hc7] at hf
        refine r_lld_n O 11 rfl 1 rfl dX9_squareRoot_10 ?_
        refine r_lc O 12 rfl 1 (by decide) dX9_squareRoot_11 ?_
        refine r_ladd O 13 rfl dX9_squareRoot_12 ?_
        refine r_lld_n O 14 rfl 1 rfl dX9_squareRoot_13 ?_
        refine r_lc O 15 rfl 1 (by decide) dX9_squareRoot_14 ?_
        refine r_ladd O 16 rfl dX9_squareRoot_15 ?_
        refine r_lmul O 17 rfl dX9_squareRoot_16 ?_
        refine r_ild_n O 18 rfl 0 rfl dX9_squareRoot_17 ?_
        refine r_i2l O 19 rfl dX9_squareRoot_18 ?_
        refine r_lcmp O 20 rfl dX9_squareRoot_19 ?_
        refine r_if_gt O 23 rfl 33 dX9_squareRoot_20 (by decide) (fun hc20 => ?_) (fun hc20 => ?_)
        · rw [if_pos hc20] at hf
          refine r_lv [0, 1] rfl ?_
          exact B33 _ _ hf
        · rw [if_neg hc20] at hf
          refine r_lld_n O 24 rfl 1 rfl dX9_squareRoot_23 ?_
          refine r_lc O 25 rfl 1 (by decide) dX9_squareRoot_24 ?_
          refine r_ladd O 26 rfl dX9_squareRoot_25 ?_
          obtain ⟨x26, ex26, hf⟩ := qn_some hf
          rw [← ex26]
          refine r_lst_n O 27 rfl rfl [(1, .long x26), (0, .int y0), (3, .int y3)] dX9_squareRoot_26 (by decide) rfl ?_
          obtain ⟨x27, ex27, hf⟩ := qn_some hf
          refine r_iinc O 30 rfl x27 2 rfl (by rw [ex27]; rfl) [(3, .int x27), (1, .long x26), (0, .int y0)] dX9_squareRoot_27 (by decide) rfl ?_
          refine r_goto O 4 dX9_squareRoot_30 (by decide) ?_
          refine r_lv [2, 1, 0] rfl ?_
          exact hrec4 _ _ _ hf
  unfold fX9_squareRoot at hf
  refine r_lc O 1 rfl 0 (by decide) dX9_squareRoot_0 ?_
  refine r_lst_n O 2 rfl rfl [(1, .long 0), (0, .int a1)] dX9_squareRoot_1 (by decide) rfl ?_
  refine r_ic O 3 rfl 0 (by decide) dX9_squareRoot_2 ?_
  refine r_ist_n O 4 rfl rfl [(3, .int 0), (1, .long 0), (0, .int a1)] dX9_squareRoot_3 (by decide) rfl ?_
  refine r_lv [2, 1, 0] rfl ?_
  exact B4 FU _ _ _ hf
-- X9_isBadDirection
def rmX9_isBadDirection : Room := { frames := 1, cells := 0, slots := 0, locals := 22 }
set_option maxHeartbeats 4000000 in
set_option maxRecDepth 100000 in
theorem zX9_isBadDirection {l : Launch} {D : va_G} {cI cZ cQ : ClassId} {a1 : Int32} {a2 : Int32} {r0 : Int32} (hf : fX9_isBadDirection a1 a2 = some r0) : MZ l yX9_isBadDirection wsX9_isBadDirection rmX9_isBadDirection D (TY cI cZ cQ) [.int a1, .int a2] [] r0 [] := by
  refine MZ.of (own := RX9) (by decide +kernel) rfl rfl (Nat.le_of_ble_eq_true rfl) (lv0 := [(0, .int a1), (1, .int a2)]) rfl ?_
  intro X O E
  unfold fX9_isBadDirection at hf
  refine r_ild_n O 1 rfl 0 rfl dX9_isBadDirection_0 ?_
  refine r_bi O 3 rfl (-8) (by decide) dX9_isBadDirection_1 ?_
  refine r_bi O 5 rfl 8 (by decide) dX9_isBadDirection_3 ?_
  obtain ⟨x5, hq5, hf⟩ := qb1_some hf
  refine k_SZ O 8 rfl (zX9_isOutside (l := xl X) (D := xD X) (cI := cI) (cZ := cZ) (cQ := cQ) hq5) (gS mlX9_90 mvX9_isOutside izX9) rfl rfl rfl hdX9_isOutside ⟨Nat.le_of_ble_eq_true rfl, Nat.le_of_ble_eq_true rfl⟩ rfl rfl (Nat.le_of_ble_eq_true rfl) ⟨Nat.zero_le _, Nat.zero_le _⟩ [] rfl rfl rfl ([]) rfl dX9_isBadDirection_5 (fun hz5 => ?_)
  refine r_if_ne O 11 rfl 22 dX9_isBadDirection_8 (by decide) (fun hc8 => ?_) (fun hc8 => ?_)
  · rw [if_neg hc8] at hf
    refine r_ic O 23 rfl 1 (by decide) dX9_isBadDirection_22 ?_
    refine r_goto O 27 dX9_isBadDirection_23 (by decide) ?_
    obtain g0 := qe1 hf
    exact r_zret2 O E g0 rfl rfl dX9_isBadDirection_27
  · rw [if_pos hc8] at hf
    refine r_ild_n O 12 rfl 1 rfl dX9_isBadDirection_11 ?_
    refine r_bi O 14 rfl (-8) (by decide) dX9_isBadDirection_12 ?_
    refine r_bi O 16 rfl 8 (by decide) dX9_isBadDirection_14 ?_
    obtain ⟨x16, hq16, hf⟩ := qb1_some hf
    refine k_SZ O 19 rfl (zX9_isOutside (l := xl X) (D := xD X) (cI := cI) (cZ := cZ) (cQ := cQ) hq16) (gS mlX9_90 mvX9_isOutside izX9) rfl rfl rfl hdX9_isOutside ⟨Nat.le_of_ble_eq_true rfl, Nat.le_of_ble_eq_true rfl⟩ rfl rfl (Nat.le_of_ble_eq_true rfl) ⟨Nat.zero_le _, Nat.zero_le _⟩ [] rfl rfl rfl ([]) rfl dX9_isBadDirection_16 (fun hz16 => ?_)
    refine r_if_eq O 22 rfl 26 dX9_isBadDirection_19 (by decide) (fun hc19 => ?_) (fun hc19 => ?_)
    · rw [if_pos hc19] at hf
      refine r_ic O 27 rfl 0 (by decide) dX9_isBadDirection_26 ?_
      obtain g0 := qe1 hf
      exact r_zret2 O E g0 rfl rfl dX9_isBadDirection_27
    · rw [if_neg hc19] at hf
      refine r_ic O 23 rfl 1 (by decide) dX9_isBadDirection_22 ?_
      refine r_goto O 27 dX9_isBadDirection_23 (by decide) ?_
      obtain g0 := qe1 hf
      exact r_zret2 O E g0 rfl rfl dX9_isBadDirection_27
-- X9_isBadPicture
def rmX9_isBadPicture : Room := { frames := 2, cells := 0, slots := 0, locals := 43 }
set_option maxHeartbeats 4000000 in
set_option maxRecDepth 100000 in
theorem zX9_isBadPicture {l : Launch} {D : va_G} {cI cZ cQ : ClassId} {a1 : Int32} {a2 : Int32} {a3 : Int32} {a4 : Int32} {r0 : Int32} (hf : fX9_isBadPicture a1 a2 a3 a4 = some r0) : MZ l yX9_isBadPicture wsX9_isBadPicture rmX9_isBadPicture D (TY cI cZ cQ) [.int a1, .int a2, .int a3, .int a4] [] r0 [] := by
  refine MZ.of (own := RX9) (by decide +kernel) rfl rfl (Nat.le_of_ble_eq_true rfl) (lv0 := [(0, .int a1), (1, .int a2), (2, .int a3), (3, .int a4)]) rfl ?_
  intro X O E
  unfold fX9_isBadPicture at hf
  refine r_ild_n O 1 rfl 0 rfl dX9_isBadPicture_0 ?_
  refine r_ild_n O 2 rfl 1 rfl dX9_isBadPicture_1 ?_
  obtain ⟨x2, hq2, hf⟩ := qb1_some hf
  refine k_SZ O 5 rfl (zX9_isBadPoint (l := xl X) (D := xD X) (cI := cI) (cZ := cZ) (cQ := cQ) hq2) (gS mlX9_86 mvX9_isBadPoint izX9) rfl rfl rfl hdX9_isBadPoint ⟨Nat.le_of_ble_eq_true rfl, Nat.le_of_ble_eq_true rfl⟩ rfl rfl (Nat.le_of_ble_eq_true rfl) ⟨Nat.zero_le _, Nat.zero_le _⟩ [] rfl rfl rfl ([]) rfl dX9_isBadPicture_2 (fun hz2 => ?_)
  refine r_if_ne O 8 rfl 24 dX9_isBadPicture_5 (by decide) (fun hc5 => ?_) (fun hc5 => ?_)
  · rw [if_neg hc5] at hf
    refine r_ic O 25 rfl 1 (by decide) dX9_isBadPicture_24 ?_
    refine r_goto O 29 dX9_isBadPicture_25 (by decide) ?_
    obtain g0 := qe1 hf
    exact r_zret2 O E g0 rfl rfl dX9_isBadPicture_29
  · rw [if_pos hc5] at hf
    refine r_ild_n O 9 rfl 2 rfl dX9_isBadPicture_8 ?_
    refine r_ild_n O 10 rfl 3 rfl dX9_isBadPicture_9 ?_
    obtain ⟨x10, hq10, hf⟩ := qb1_some hf
    refine k_SZ O 13 rfl (zX9_isBadDirection (l := xl X) (D := xD X) (cI := cI) (cZ := cZ) (cQ := cQ) hq10) (gS mlX9_309 mvX9_isBadDirection izX9) rfl rfl rfl hdX9_isBadDirection ⟨Nat.le_of_ble_eq_true rfl, Nat.le_of_ble_eq_true rfl⟩ rfl rfl (Nat.le_of_ble_eq_true rfl) ⟨Nat.zero_le _, Nat.zero_le _⟩ [] rfl rfl rfl ([]) rfl dX9_isBadPicture_10 (fun hz10 => ?_)
    refine r_if_ne O 16 rfl 24 dX9_isBadPicture_13 (by decide) (fun hc13 => ?_) (fun hc13 => ?_)
    · rw [if_neg hc13] at hf
      refine r_ic O 25 rfl 1 (by decide) dX9_isBadPicture_24 ?_
      refine r_goto O 29 dX9_isBadPicture_25 (by decide) ?_
      obtain g0 := qe1 hf
      exact r_zret2 O E g0 rfl rfl dX9_isBadPicture_29
    · rw [if_pos hc13] at hf
      refine r_ild_n O 17 rfl 2 rfl dX9_isBadPicture_16 ?_
      refine r_if_ne O 20 rfl 28 dX9_isBadPicture_17 (by decide) (fun hc17 => ?_) (fun hc17 => ?_)
      · rw [if_neg hc17] at hf
        refine r_ic O 29 rfl 0 (by decide) dX9_isBadPicture_28 ?_
        obtain g0 := qe1 hf
        exact r_zret2 O E g0 rfl rfl dX9_isBadPicture_29
      · rw [if_pos hc17] at hf
        refine r_ild_n O 21 rfl 3 rfl dX9_isBadPicture_20 ?_
        refine r_if_ne O 24 rfl 28 dX9_isBadPicture_21 (by decide) (fun hc21 => ?_) (fun hc21 => ?_)
        · rw [if_neg hc21] at hf
          refine r_ic O 29 rfl 0 (by decide) dX9_isBadPicture_28 ?_
          obtain g0 := qe1 hf
          exact r_zret2 O E g0 rfl rfl dX9_isBadPicture_29
        · rw [if_pos hc21] at hf
          refine r_ic O 25 rfl 1 (by decide) dX9_isBadPicture_24 ?_
          refine r_goto O 29 dX9_isBadPicture_25 (by decide) ?_
          obtain g0 := qe1 hf
          exact r_zret2 O E g0 rfl rfl dX9_isBadPicture_29
-- X9_isBadColumn
def rmX9_isBadColumn : Room := { frames := 1, cells := 0, slots := 0, locals := 22 }
set_option maxHeartbeats 4000000 in
set_option maxRecDepth 100000 in
theorem zX9_isBadColumn {l : Launch} {D : va_G} {cI cZ cQ : ClassId} {a1 : Int32} {r0 : Int32} (hf : fX9_isBadColumn a1 = some r0) : MZ l yX9_isBadColumn wsX9_isBadColumn rmX9_isBadColumn D (TY cI cZ cQ) [.int a1] [] r0 [] := by
  refine MZ.of (own := RX9) (by decide +kernel) rfl rfl (Nat.le_of_ble_eq_true rfl) (lv0 := [(0, .int a1)]) rfl ?_
  intro X O E
  unfold fX9_isBadColumn at hf
  refine r_ild_n O 1 rfl 0 rfl dX9_isBadColumn_0 ?_
  refine r_ic O 2 rfl 0 (by decide) dX9_isBadColumn_1 ?_
  refine r_bi O 4 rfl 31 (by decide) dX9_isBadColumn_2 ?_
  obtain ⟨x4, hq4, hf⟩ := qb1_some hf
  refine k_SZ O 7 rfl (zX9_isOutside (l := xl X) (D := xD X) (cI := cI) (cZ := cZ) (cQ := cQ) hq4) (gS mlX9_90 mvX9_isOutside izX9) rfl rfl rfl hdX9_isOutside ⟨Nat.le_of_ble_eq_true rfl, Nat.le_of_ble_eq_true rfl⟩ rfl rfl (Nat.le_of_ble_eq_true rfl) ⟨Nat.zero_le _, Nat.zero_le _⟩ [] rfl rfl rfl ([]) rfl dX9_isBadColumn_4 (fun hz4 => ?_)
  obtain g0 := qe1 hf
  exact r_zret2 O E g0 rfl hz4 dX9_isBadColumn_7
-- X9_lowestPart
def rmX9_lowestPart : Room := { frames := 1, cells := 0, slots := 0, locals := 30 }
set_option maxHeartbeats 4000000 in
set_option maxRecDepth 100000 in
theorem zX9_lowestPart {l : Launch} {D : va_G} {cI cZ cQ : ClassId} {a1 : Int64} {a2 : Int64} {a3 : Int32} {r0 : Int64} (hf : fX9_lowestPart a1 a2 a3 = some r0) : ML l yX9_lowestPart wsX9_lowestPart rmX9_lowestPart D (TY cI cZ cQ) [.long a1, .long a2, .int a3] [] r0 [] := by
  refine ML.of (own := RX9) (by decide +kernel) rfl rfl (Nat.le_of_ble_eq_true rfl) (lv0 := [(0, .long a1), (2, .long a2), (4, .int a3)]) rfl ?_
  intro X O E
  unfold fX9_lowestPart at hf
  refine r_lld_n O 1 rfl 0 rfl dX9_lowestPart_0 ?_
  refine r_lld_n O 2 rfl 1 rfl dX9_lowestPart_1 ?_
  obtain ⟨x2, hq2, hf⟩ := qb1_some hf
  refine k_SL O 5 rfl (zX9_greatestDivisor (l := xl X) (D := xD X) (cI := cI) (cZ := cZ) (cQ := cQ) hq2) (gS mlX9_403 mvX9_greatestDivisor izX9) rfl rfl rfl hdX9_greatestDivisor ⟨Nat.le_of_ble_eq_true rfl, Nat.le_of_ble_eq_true rfl⟩ rfl rfl (Nat.le_of_ble_eq_true rfl) ⟨Nat.zero_le _, Nat.zero_le _⟩ [] rfl rfl rfl ([]) rfl dX9_lowestPart_2 ?_
  refine r_lst O 7 rfl [(5, .long x2), (0, .long a1), (2, .long a2), (4, .int a3)] dX9_lowestPart_5 (by decide) rfl ?_
  refine r_lld O 9 rfl 0 rfl dX9_lowestPart_7 ?_
  refine r_lc O 10 rfl 0 (by decide) dX9_lowestPart_9 ?_
  refine r_lcmp O 11 rfl dX9_lowestPart_10 ?_
  refine r_if_ne O 14 rfl 16 dX9_lowestPart_11 (by decide) (fun hc11 => ?_) (fun hc11 => ?_)
  · rw [if_neg hc11] at hf
    refine r_ild O 18 rfl 3 rfl dX9_lowestPart_16 ?_
    refine r_if_ne O 21 rfl 28 dX9_lowestPart_18 (by decide) (fun hc18 => ?_) (fun hc18 => ?_)
    · rw [if_neg hc18] at hf
      refine r_lld_n O 29 rfl 2 rfl dX9_lowestPart_28 ?_
      refine r_lld O 31 rfl 0 rfl dX9_lowestPart_29 ?_
      obtain ⟨hne31, hf⟩ := qnzl_some hf
      refine r_ldiv O 32 rfl dX9_lowestPart_31 hne31 ?_
      obtain g0 := qe1 hf
      exact r_lret2 O E g0 rfl dX9_lowestPart_32
    · rw [if_pos hc18] at hf
      refine r_lld_n O 22 rfl 1 rfl dX9_lowestPart_21 ?_
      refine r_lld O 24 rfl 0 rfl dX9_lowestPart_22 ?_
      obtain ⟨hne24, hf⟩ := qnzl_some hf
      refine r_ldiv O 25 rfl dX9_lowestPart_24 hne24 ?_
      refine r_goto O 32 dX9_lowestPart_25 (by decide) ?_
      obtain g0 := qe1 hf
      exact r_lret2 O E g0 rfl dX9_lowestPart_32
  · rw [if_pos hc11] at hf
    refine r_lc O 15 rfl 0 (by decide) dX9_lowestPart_14 ?_
    obtain g0 := qe1 hf
    exact r_lret2 O E g0 rfl dX9_lowestPart_15
-- X9_nextState
def rmX9_nextState : Room := { frames := 0, cells := 0, slots := 0, locals := 0 }
set_option maxHeartbeats 4000000 in
set_option maxRecDepth 100000 in
theorem zX9_nextState {l : Launch} {D : va_G} {cI cZ cQ : ClassId} {a1 : Int64} {r0 : Int64} (hf : fX9_nextState a1 = some r0) : ML l yX9_nextState wsX9_nextState rmX9_nextState D (TY cI cZ cQ) [.long a1] [] r0 [] := by
  refine ML.of (own := RX9) (by decide +kernel) rfl rfl (Nat.le_of_ble_eq_true rfl) (lv0 := [(0, .long a1)]) rfl ?_
  intro X O E
  unfold fX9_nextState at hf
  refine r_ldcl O 3 rfl (v := 1103515245) clX9_393 dX9_nextState_0 ?_
  refine r_lld_n O 4 rfl 0 rfl dX9_nextState_3 ?_
  refine r_lmul O 5 rfl dX9_nextState_4 ?_
  refine r_ldcl O 8 rfl (v := 12345) clX9_395 dX9_nextState_5 ?_
  refine r_ladd O 9 rfl dX9_nextState_8 ?_
  refine r_ldcl O 12 rfl (v := 2147483648) clX9_397 dX9_nextState_9 ?_
  obtain ⟨hne12, hf⟩ := qnzl_some hf
  refine r_lrem O 13 rfl dX9_nextState_12 hne12 ?_
  obtain g0 := qe1 hf
  exact r_lret2 O E g0 rfl dX9_nextState_13
-- X9_randomMove
def rmX9_randomMove : Room := { frames := 0, cells := 0, slots := 0, locals := 0 }
set_option maxHeartbeats 4000000 in
set_option maxRecDepth 100000 in
theorem zX9_randomMove {l : Launch} {D : va_G} {cI cZ cQ : ClassId} {a1 : Int64} {r0 : Int32} (hf : fX9_randomMove a1 = some r0) : MI l yX9_randomMove wsX9_randomMove rmX9_randomMove D (TY cI cZ cQ) [.long a1] [] r0 [] := by
  refine MI.of (own := RX9) (by decide +kernel) rfl rfl (Nat.le_of_ble_eq_true rfl) (lv0 := [(0, .long a1)]) rfl ?_
  intro X O E
  unfold fX9_randomMove at hf
  refine r_lld_n O 1 rfl 0 rfl dX9_randomMove_0 ?_
  refine r_ldcl O 4 rfl (v := 65536) clX9_399 dX9_randomMove_1 ?_
  obtain ⟨hne4, hf⟩ := qnzl_some hf
  refine r_ldiv O 5 rfl dX9_randomMove_4 hne4 ?_
  refine r_ldcl O 8 rfl (v := 7) clX9_401 dX9_randomMove_5 ?_
  obtain ⟨hne8, hf⟩ := qnzl_some hf
  refine r_lrem O 9 rfl dX9_randomMove_8 hne8 ?_
  refine r_l2i O 10 rfl dX9_randomMove_9 ?_
  refine r_ic O 11 rfl 3 (by decide) dX9_randomMove_10 ?_
  refine r_isub O 12 rfl dX9_randomMove_11 ?_
  obtain g0 := qe1 hf
  exact r_iret2 O E g0 rfl dX9_randomMove_12
