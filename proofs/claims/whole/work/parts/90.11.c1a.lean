-- X2_isEmpty
def rmX2_isEmpty : Room := { frames := 0, cells := 0, slots := 0, locals := 0 }
set_option maxHeartbeats 4000000 in
set_option maxRecDepth 100000 in
theorem zX2_isEmpty {l : Launch} {D : va_G} {cI cZ cQ : ClassId} {h_t : Nat → Nat} {hk : Nat → Nat} {u_t : Pk} {r0 : Int32} (hf : fX2_isEmpty u_t = some r0) : MZ l yX2_isEmpty wsX2_isEmpty rmX2_isEmpty D (TY cI cZ cQ) [.ref (h_t 0)] [nX2 cI cZ cQ h_t hk u_t] r0 [nX2 cI cZ cQ h_t hk u_t] := by
  refine MZ.of (own := RX2) (by decide +kernel) rfl rfl (Nat.le_of_ble_eq_true rfl) (lv0 := [(0, .ref (h_t 0))]) rfl ?_
  intro X O E
  unfold fX2_isEmpty at hf
  refine r_ald_n O 1 rfl 0 rfl dX2_isEmpty_0 ?_
  refine r_get (ref := RX2) (C := RX2) (T := TX2) (N := 3) O 4 rfl inBX2 0 2 rfl rfl rfl (by decide) flX2_20 rfl rfl dX2_isEmpty_1 ?_
  refine r_if_ne O 7 rfl 11 dX2_isEmpty_4 (by decide) (fun hc4 => ?_) (fun hc4 => ?_)
  · rw [if_neg hc4] at hf
    refine r_ic O 12 rfl 0 (by decide) dX2_isEmpty_11 ?_
    obtain g0 := qe1 hf
    exact r_zret2 O E g0 rfl rfl dX2_isEmpty_12
  · rw [if_pos hc4] at hf
    refine r_ic O 8 rfl 1 (by decide) dX2_isEmpty_7 ?_
    refine r_goto O 12 dX2_isEmpty_8 (by decide) ?_
    obtain g0 := qe1 hf
    exact r_zret2 O E g0 rfl rfl dX2_isEmpty_12
-- X2_size
def rmX2_size : Room := { frames := 0, cells := 0, slots := 0, locals := 0 }
set_option maxHeartbeats 4000000 in
set_option maxRecDepth 100000 in
theorem zX2_size {l : Launch} {D : va_G} {cI cZ cQ : ClassId} {h_t : Nat → Nat} {hk : Nat → Nat} {u_t : Pk} {r0 : Int32} (hf : fX2_size u_t = some r0) : MI l yX2_size wsX2_size rmX2_size D (TY cI cZ cQ) [.ref (h_t 0)] [nX2 cI cZ cQ h_t hk u_t] r0 [nX2 cI cZ cQ h_t hk u_t] := by
  refine MI.of (own := RX2) (by decide +kernel) rfl rfl (Nat.le_of_ble_eq_true rfl) (lv0 := [(0, .ref (h_t 0))]) rfl ?_
  intro X O E
  unfold fX2_size at hf
  refine r_ald_n O 1 rfl 0 rfl dX2_size_0 ?_
  refine r_get (ref := RX2) (C := RX2) (T := TX2) (N := 3) O 4 rfl inBX2 0 2 rfl rfl rfl (by decide) flX2_20 rfl rfl dX2_size_1 ?_
  obtain g0 := qe1 hf
  exact r_iret2 O E g0 rfl dX2_size_4
-- X2_keep
def rmX2_keep : Room := { frames := 2, cells := 0, slots := 0, locals := 43 }
set_option maxHeartbeats 4000000 in
set_option maxRecDepth 100000 in
theorem zX2_keep {l : Launch} {D : va_G} {cI cZ cQ : ClassId} {h_t h_k0 h_k1 h_k2 h_k3 h_k4 h_k5 h_k6 h_k7 h_o : Nat → Nat} {u_o u_t u_k0 u_k1 u_k2 u_k3 u_k4 u_k5 u_k6 u_k7 : Pk} {v_t v_k0 v_k1 v_k2 v_k3 v_k4 v_k5 v_k6 v_k7 : Pk} (hf : fX2_keep u_o u_t u_k0 u_k1 u_k2 u_k3 u_k4 u_k5 u_k6 u_k7 = some (v_t, v_k0, v_k1, v_k2, v_k3, v_k4, v_k5, v_k6, v_k7)) : MV l yX2_keep wsX2_keep rmX2_keep D (TY cI cZ cQ) [.ref (h_t 0), .ref (h_o 0)] [nX2 cI cZ cQ h_t (hkf h_k0 h_k1 h_k2 h_k3 h_k4 h_k5 h_k6 h_k7) u_t, nX8 cI cZ cQ h_k0 u_k0, nX8 cI cZ cQ h_k1 u_k1, nX8 cI cZ cQ h_k2 u_k2, nX8 cI cZ cQ h_k3 u_k3, nX8 cI cZ cQ h_k4 u_k4, nX8 cI cZ cQ h_k5 u_k5, nX8 cI cZ cQ h_k6 u_k6, nX8 cI cZ cQ h_k7 u_k7, nX8 cI cZ cQ h_o u_o] [nX2 cI cZ cQ h_t (hkf h_k0 h_k1 h_k2 h_k3 h_k4 h_k5 h_k6 h_k7) v_t, nX8 cI cZ cQ h_k0 v_k0, nX8 cI cZ cQ h_k1 v_k1, nX8 cI cZ cQ h_k2 v_k2, nX8 cI cZ cQ h_k3 v_k3, nX8 cI cZ cQ h_k4 v_k4, nX8 cI cZ cQ h_k5 v_k5, nX8 cI cZ cQ h_k6 v_k6, nX8 cI cZ cQ h_k7 v_k7, nX8 cI cZ cQ h_o u_o] := by
  refine MV.of (own := RX2) (by decide +kernel) rfl rfl (Nat.le_of_ble_eq_true rfl) (lv0 := [(0, .ref (h_t 0)), (1, .ref (h_o 0))]) rfl ?_
  intro X O E
  have B65 : ∀ (w_t : Pk) (w_k0 : Pk) (w_k1 : Pk) (w_k2 : Pk) (w_k3 : Pk) (w_k4 : Pk) (w_k5 : Pk) (w_k6 : Pk) (w_k7 : Pk) (z1 : Int32), fX2_keep_b65 u_o w_t w_k0 w_k1 w_k2 w_k3 w_k4 w_k5 w_k6 w_k7 z1 = some (v_t, v_k0, v_k1, v_k2, v_k3, v_k4, v_k5, v_k6, v_k7) → BK X 3 0 0 65 ([nX2 cI cZ cQ h_t (hkf h_k0 h_k1 h_k2 h_k3 h_k4 h_k5 h_k6 h_k7) w_t, nX8 cI cZ cQ h_k0 w_k0, nX8 cI cZ cQ h_k1 w_k1, nX8 cI cZ cQ h_k2 w_k2, nX8 cI cZ cQ h_k3 w_k3, nX8 cI cZ cQ h_k4 w_k4, nX8 cI cZ cQ h_k5 w_k5, nX8 cI cZ cQ h_k6 w_k6, nX8 cI cZ cQ h_k7 w_k7, nX8 cI cZ cQ h_o u_o]) [] [.int z1, .ref (h_t 0)] := by
    intro w_t w_k0 w_k1 w_k2 w_k3 w_k4 w_k5 w_k6 w_k7 z1 hf
    unfold fX2_keep_b65 at hf
    obtain ⟨p65_t, ep65_t, hf⟩ := qn_some hf
    refine r_put (ref := RX2) (C := RX2) (T := TX2) (N := 3) O 68 rfl inBX2 tyX2 tyX2_ok nmX2 0 2 rfl rfl rfl (by decide) flX2_20 rfl rfl rfl rfl (Nat.le_of_ble_eq_true rfl) ([nX2 cI cZ cQ h_t (hkf h_k0 h_k1 h_k2 h_k3 h_k4 h_k5 h_k6 h_k7) p65_t, nX8 cI cZ cQ h_k0 w_k0, nX8 cI cZ cQ h_k1 w_k1, nX8 cI cZ cQ h_k2 w_k2, nX8 cI cZ cQ h_k3 w_k3, nX8 cI cZ cQ h_k4 w_k4, nX8 cI cZ cQ h_k5 w_k5, nX8 cI cZ cQ h_k6 w_k6, nX8 cI cZ cQ h_k7 w_k7, nX8 cI cZ cQ h_o u_o]) (by rw [ep65_t]; rfl) dX2_keep_65 ?_
    obtain ⟨g0, g1, g2, g3, g4, g5, g6, g7, g8⟩ := qe9 hf
    exact r_vret2 O E (by rw [g0, g1, g2, g3, g4, g5, g6, g7, g8]) dX2_keep_68
  have B41 : ∀ (w_t : Pk) (w_k0 : Pk) (w_k1 : Pk) (w_k2 : Pk) (w_k3 : Pk) (w_k4 : Pk) (w_k5 : Pk) (w_k6 : Pk) (w_k7 : Pk) (z1 : Int32), fX2_keep_b41 u_o w_t w_k0 w_k1 w_k2 w_k3 w_k4 w_k5 w_k6 w_k7 z1 = some (v_t, v_k0, v_k1, v_k2, v_k3, v_k4, v_k5, v_k6, v_k7) → BK X 3 0 0 41 ([nX2 cI cZ cQ h_t (hkf h_k0 h_k1 h_k2 h_k3 h_k4 h_k5 h_k6 h_k7) w_t, nX8 cI cZ cQ h_k0 w_k0, nX8 cI cZ cQ h_k1 w_k1, nX8 cI cZ cQ h_k2 w_k2, nX8 cI cZ cQ h_k3 w_k3, nX8 cI cZ cQ h_k4 w_k4, nX8 cI cZ cQ h_k5 w_k5, nX8 cI cZ cQ h_k6 w_k6, nX8 cI cZ cQ h_k7 w_k7, nX8 cI cZ cQ h_o u_o]) [(0, .ref (h_t 0))] [.int z1, .ref (h_t 0)] := by
    intro w_t w_k0 w_k1 w_k2 w_k3 w_k4 w_k5 w_k6 w_k7 z1 hf
    unfold fX2_keep_b41 at hf
    obtain ⟨p41_t, ep41_t, hf⟩ := qn_some hf
    refine r_put (ref := RX2) (C := RX2) (T := TX2) (N := 3) O 44 rfl inBX2 tyX2 tyX2_ok nmX2 0 1 rfl rfl rfl (by decide) flX2_16 rfl rfl rfl rfl (Nat.le_of_ble_eq_true rfl) ([nX2 cI cZ cQ h_t (hkf h_k0 h_k1 h_k2 h_k3 h_k4 h_k5 h_k6 h_k7) p41_t, nX8 cI cZ cQ h_k0 w_k0, nX8 cI cZ cQ h_k1 w_k1, nX8 cI cZ cQ h_k2 w_k2, nX8 cI cZ cQ h_k3 w_k3, nX8 cI cZ cQ h_k4 w_k4, nX8 cI cZ cQ h_k5 w_k5, nX8 cI cZ cQ h_k6 w_k6, nX8 cI cZ cQ h_k7 w_k7, nX8 cI cZ cQ h_o u_o]) (by rw [ep41_t]; rfl) dX2_keep_41 ?_
    refine r_ald_n O 45 rfl 0 rfl dX2_keep_44 ?_
    refine r_ald_n O 46 rfl 0 rfl dX2_keep_45 ?_
    refine r_get (ref := RX2) (C := RX2) (T := TX2) (N := 3) O 49 rfl inBX2 0 2 rfl rfl rfl (by decide) flX2_20 rfl rfl dX2_keep_46 ?_
    refine r_bi O 51 rfl 8 (by decide) dX2_keep_49 ?_
    refine r_icmp_ge O 54 rfl 63 dX2_keep_51 (by decide) (fun hc51 => ?_) (fun hc51 => ?_)
    · rw [if_pos hc51] at hf
      refine r_bi O 65 rfl 8 (by decide) dX2_keep_63 ?_
      refine r_lv [] rfl ?_
      exact B65 _ _ _ _ _ _ _ _ _ _ hf
    · rw [if_neg hc51] at hf
      refine r_ald_n O 55 rfl 0 rfl dX2_keep_54 ?_
      refine r_get (ref := RX2) (C := RX2) (T := TX2) (N := 3) O 58 rfl inBX2 0 2 rfl rfl rfl (by decide) flX2_20 rfl rfl dX2_keep_55 ?_
      refine r_ic O 59 rfl 1 (by decide) dX2_keep_58 ?_
      refine r_iadd O 60 rfl dX2_keep_59 ?_
      refine r_goto O 65 dX2_keep_60 (by decide) ?_
      refine r_lv [] rfl ?_
      exact B65 _ _ _ _ _ _ _ _ _ _ hf
  unfold fX2_keep at hf
  refine r_ald_n O 1 rfl 0 rfl dX2_keep_0 ?_
  refine r_ald_n O 2 rfl 0 rfl dX2_keep_1 ?_
  refine r_get (ref := RX2) (C := RX2) (T := TX2) (N := 3) O 5 rfl inBX2 0 1 rfl rfl rfl (by decide) flX2_16 rfl rfl dX2_keep_2 ?_
  refine k_VY O 8 rfl (zX2_placeAt (l := xl X) (D := xD X) (cI := cI) (cZ := cZ) (cQ := cQ) (h_t := h_t) (hk := (hkf h_k0 h_k1 h_k2 h_k3 h_k4 h_k5 h_k6 h_k7)) (u_t := u_t) (a1 := u_t.2.1 1)) (gV mlX2_23 mvX2_placeAt izX2) rfl rfl rfl hdX2_placeAt ⟨Nat.le_of_ble_eq_true rfl, Nat.le_of_ble_eq_true rfl⟩ rfl 0 rfl rfl rfl rfl (Nat.le_of_ble_eq_true rfl) ⟨Nat.zero_le _, Nat.zero_le _⟩ [0] rfl rfl rfl ([nX2 cI cZ cQ h_t (hkf h_k0 h_k1 h_k2 h_k3 h_k4 h_k5 h_k6 h_k7) u_t, nX8 cI cZ cQ h_k0 u_k0, nX8 cI cZ cQ h_k1 u_k1, nX8 cI cZ cQ h_k2 u_k2, nX8 cI cZ cQ h_k3 u_k3, nX8 cI cZ cQ h_k4 u_k4, nX8 cI cZ cQ h_k5 u_k5, nX8 cI cZ cQ h_k6 u_k6, nX8 cI cZ cQ h_k7 u_k7, nX8 cI cZ cQ h_o u_o]) rfl dX2_keep_5 ?_
  by_cases hc5_0 : (u_t.2.1 1) = 0
  · rw [if_pos hc5_0] at hf
    rw [show va_rf (fX2_placeAt (hkf h_k0 h_k1 h_k2 h_k3 h_k4 h_k5 h_k6 h_k7) (u_t.2.1 1)) = Value.ref (h_k0 0) from by rw [hc5_0]; rfl]
    refine r_ast_n O 9 rfl rfl [(2, .ref (h_k0 0)), (0, .ref (h_t 0)), (1, .ref (h_o 0))] dX2_keep_8 (by decide) rfl ?_
    refine r_ald_n O 10 rfl 0 rfl dX2_keep_9 ?_
    refine r_ifnonnull O 14 dX2_keep_10 (by decide) ?_
    refine r_ald_n O 15 rfl 0 rfl dX2_keep_14 ?_
    refine r_ald_n O 16 rfl 2 rfl dX2_keep_15 ?_
    obtain ⟨p16_k0, hq16, hf⟩ := qb1_some hf
    refine k_VV O 19 rfl (zX8_copyFrom (l := xl X) (D := xD X) (cI := cI) (cZ := cZ) (cQ := cQ) (h_t := h_k0) (h_o := h_o) hq16) (gV mlX2_27 mvX8_copyFrom izX8) rfl rfl rfl hdX8_copyFrom ⟨Nat.le_of_ble_eq_true rfl, Nat.le_of_ble_eq_true rfl⟩ rfl 1 rfl rfl rfl rfl (Nat.le_of_ble_eq_true rfl) ⟨Nat.zero_le _, Nat.zero_le _⟩ [1, 9] rfl rfl rfl ([nX2 cI cZ cQ h_t (hkf h_k0 h_k1 h_k2 h_k3 h_k4 h_k5 h_k6 h_k7) u_t, nX8 cI cZ cQ h_k0 p16_k0, nX8 cI cZ cQ h_k1 u_k1, nX8 cI cZ cQ h_k2 u_k2, nX8 cI cZ cQ h_k3 u_k3, nX8 cI cZ cQ h_k4 u_k4, nX8 cI cZ cQ h_k5 u_k5, nX8 cI cZ cQ h_k6 u_k6, nX8 cI cZ cQ h_k7 u_k7, nX8 cI cZ cQ h_o u_o]) rfl dX2_keep_16 ?_
    refine r_ald_n O 20 rfl 1 rfl dX2_keep_19 ?_
    refine r_ald_n O 21 rfl 1 rfl dX2_keep_20 ?_
    refine r_get (ref := RX2) (C := RX2) (T := TX2) (N := 3) O 24 rfl inBX2 0 1 rfl rfl rfl (by decide) flX2_16 rfl rfl dX2_keep_21 ?_
    refine r_ic O 25 rfl 1 (by decide) dX2_keep_24 ?_
    refine r_iadd O 26 rfl dX2_keep_25 ?_
    refine r_bi O 28 rfl 8 (by decide) dX2_keep_26 ?_
    refine r_icmp_ge O 31 rfl 40 dX2_keep_28 (by decide) (fun hc28 => ?_) (fun hc28 => ?_)
    · rw [if_pos hc28] at hf
      refine r_ic O 41 rfl 0 (by decide) dX2_keep_40 ?_
      refine r_lv [1] rfl ?_
      exact B41 _ _ _ _ _ _ _ _ _ _ hf
    · rw [if_neg hc28] at hf
      refine r_ald_n O 32 rfl 1 rfl dX2_keep_31 ?_
      refine r_get (ref := RX2) (C := RX2) (T := TX2) (N := 3) O 35 rfl inBX2 0 1 rfl rfl rfl (by decide) flX2_16 rfl rfl dX2_keep_32 ?_
      refine r_ic O 36 rfl 1 (by decide) dX2_keep_35 ?_
      refine r_iadd O 37 rfl dX2_keep_36 ?_
      refine r_goto O 41 dX2_keep_37 (by decide) ?_
      refine r_lv [1] rfl ?_
      exact B41 _ _ _ _ _ _ _ _ _ _ hf
  rw [if_neg hc5_0] at hf
  by_cases hc5_1 : (u_t.2.1 1) = 1
  · rw [if_pos hc5_1] at hf
    rw [show va_rf (fX2_placeAt (hkf h_k0 h_k1 h_k2 h_k3 h_k4 h_k5 h_k6 h_k7) (u_t.2.1 1)) = Value.ref (h_k1 0) from by rw [hc5_1]; rfl]
    refine r_ast_n O 9 rfl rfl [(2, .ref (h_k1 0)), (0, .ref (h_t 0)), (1, .ref (h_o 0))] dX2_keep_8 (by decide) rfl ?_
    refine r_ald_n O 10 rfl 0 rfl dX2_keep_9 ?_
    refine r_ifnonnull O 14 dX2_keep_10 (by decide) ?_
    refine r_ald_n O 15 rfl 0 rfl dX2_keep_14 ?_
    refine r_ald_n O 16 rfl 2 rfl dX2_keep_15 ?_
    obtain ⟨p16_k1, hq16, hf⟩ := qb1_some hf
    refine k_VV O 19 rfl (zX8_copyFrom (l := xl X) (D := xD X) (cI := cI) (cZ := cZ) (cQ := cQ) (h_t := h_k1) (h_o := h_o) hq16) (gV mlX2_27 mvX8_copyFrom izX8) rfl rfl rfl hdX8_copyFrom ⟨Nat.le_of_ble_eq_true rfl, Nat.le_of_ble_eq_true rfl⟩ rfl 2 rfl rfl rfl rfl (Nat.le_of_ble_eq_true rfl) ⟨Nat.zero_le _, Nat.zero_le _⟩ [2, 9] rfl rfl rfl ([nX2 cI cZ cQ h_t (hkf h_k0 h_k1 h_k2 h_k3 h_k4 h_k5 h_k6 h_k7) u_t, nX8 cI cZ cQ h_k0 u_k0, nX8 cI cZ cQ h_k1 p16_k1, nX8 cI cZ cQ h_k2 u_k2, nX8 cI cZ cQ h_k3 u_k3, nX8 cI cZ cQ h_k4 u_k4, nX8 cI cZ cQ h_k5 u_k5, nX8 cI cZ cQ h_k6 u_k6, nX8 cI cZ cQ h_k7 u_k7, nX8 cI cZ cQ h_o u_o]) rfl dX2_keep_16 ?_
    refine r_ald_n O 20 rfl 1 rfl dX2_keep_19 ?_
    refine r_ald_n O 21 rfl 1 rfl dX2_keep_20 ?_
    refine r_get (ref := RX2) (C := RX2) (T := TX2) (N := 3) O 24 rfl inBX2 0 1 rfl rfl rfl (by decide) flX2_16 rfl rfl dX2_keep_21 ?_
    refine r_ic O 25 rfl 1 (by decide) dX2_keep_24 ?_
    refine r_iadd O 26 rfl dX2_keep_25 ?_
    refine r_bi O 28 rfl 8 (by decide) dX2_keep_26 ?_
    refine r_icmp_ge O 31 rfl 40 dX2_keep_28 (by decide) (fun hc28 => ?_) (fun hc28 => ?_)
    · rw [if_pos hc28] at hf
      refine r_ic O 41 rfl 0 (by decide) dX2_keep_40 ?_
      refine r_lv [1] rfl ?_
      exact B41 _ _ _ _ _ _ _ _ _ _ hf
    · rw [if_neg hc28] at hf
      refine r_ald_n O 32 rfl 1 rfl dX2_keep_31 ?_
      refine r_get (ref := RX2) (C := RX2) (T := TX2) (N := 3) O 35 rfl inBX2 0 1 rfl rfl rfl (by decide) flX2_16 rfl rfl dX2_keep_32 ?_
      refine r_ic O 36 rfl 1 (by decide) dX2_keep_35 ?_
      refine r_iadd O 37 rfl dX2_keep_36 ?_
      refine r_goto O 41 dX2_keep_37 (by decide) ?_
      refine r_lv [1] rfl ?_
      exact B41 _ _ _ _ _ _ _ _ _ _ hf
  rw [if_neg hc5_1] at hf
  by_cases hc5_2 : (u_t.2.1 1) = 2
  · rw [if_pos hc5_2] at hf
    rw [show va_rf (fX2_placeAt (hkf h_k0 h_k1 h_k2 h_k3 h_k4 h_k5 h_k6 h_k7) (u_t.2.1 1)) = Value.ref (h_k2 0) from by rw [hc5_2]; rfl]
    refine r_ast_n O 9 rfl rfl [(2, .ref (h_k2 0)), (0, .ref (h_t 0)), (1, .ref (h_o 0))] dX2_keep_8 (by decide) rfl ?_
    refine r_ald_n O 10 rfl 0 rfl dX2_keep_9 ?_
    refine r_ifnonnull O 14 dX2_keep_10 (by decide) ?_
    refine r_ald_n O 15 rfl 0 rfl dX2_keep_14 ?_
    refine r_ald_n O 16 rfl 2 rfl dX2_keep_15 ?_
    obtain ⟨p16_k2, hq16, hf⟩ := qb1_some hf
    refine k_VV O 19 rfl (zX8_copyFrom (l := xl X) (D := xD X) (cI := cI) (cZ := cZ) (cQ := cQ) (h_t := h_k2) (h_o := h_o) hq16) (gV mlX2_27 mvX8_copyFrom izX8) rfl rfl rfl hdX8_copyFrom ⟨Nat.le_of_ble_eq_true rfl, Nat.le_of_ble_eq_true rfl⟩ rfl 3 rfl rfl rfl rfl (Nat.le_of_ble_eq_true rfl) ⟨Nat.zero_le _, Nat.zero_le _⟩ [3, 9] rfl rfl rfl ([nX2 cI cZ cQ h_t (hkf h_k0 h_k1 h_k2 h_k3 h_k4 h_k5 h_k6 h_k7) u_t, nX8 cI cZ cQ h_k0 u_k0, nX8 cI cZ cQ h_k1 u_k1, nX8 cI cZ cQ h_k2 p16_k2, nX8 cI cZ cQ h_k3 u_k3, nX8 cI cZ cQ h_k4 u_k4, nX8 cI cZ cQ h_k5 u_k5, nX8 cI cZ cQ h_k6 u_k6, nX8 cI cZ cQ h_k7 u_k7, nX8 cI cZ cQ h_o u_o]) rfl dX2_keep_16 ?_
    refine r_ald_n O 20 rfl 1 rfl dX2_keep_19 ?_
    refine r_ald_n O 21 rfl 1 rfl dX2_keep_20 ?_
    refine r_get (ref := RX2) (C := RX2) (T := TX2) (N := 3) O 24 rfl inBX2 0 1 rfl rfl rfl (by decide) flX2_16 rfl rfl dX2_keep_21 ?_
    refine r_ic O 25 rfl 1 (by decide) dX2_keep_24 ?_
    refine r_iadd O 26 rfl dX2_keep_25 ?_
    refine r_bi O 28 rfl 8 (by decide) dX2_keep_26 ?_
    refine r_icmp_ge O 31 rfl 40 dX2_keep_28 (by decide) (fun hc28 => ?_) (fun hc28 => ?_)
    · rw [if_pos hc28] at hf
      refine r_ic O 41 rfl 0 (by decide) dX2_keep_40 ?_
      refine r_lv [1] rfl ?_
      exact B41 _ _ _ _ _ _ _ _ _ _ hf
    · rw [if_neg hc28] at hf
      refine r_ald_n O 32 rfl 1 rfl dX2_keep_31 ?_
      refine r_get (ref := RX2) (C := RX2) (T := TX2) (N := 3) O 35 rfl inBX2 0 1 rfl rfl rfl (by decide) flX2_16 rfl rfl dX2_keep_32 ?_
      refine r_ic O 36 rfl 1 (by decide) dX2_keep_35 ?_
      refine r_iadd O 37 rfl dX2_keep_36 ?_
      refine r_goto O 41 dX2_keep_37 (by decide) ?_
      refine r_lv [1] rfl ?_
      exact B41 _ _ _ _ _ _ _ _ _ _ hf
  rw [if_neg hc5_2] at hf
  by_cases hc5_3 : (u_t.2.1 1) = 3
  · rw [if_pos hc5_3] at hf
    rw [show va_rf (fX2_placeAt (hkf h_k0 h_k1 h_k2 h_k3 h_k4 h_k5 h_k6 h_k7) (u_t.2.1 1)) = Value.ref (h_k3 0) from by rw [hc5_3]; rfl]
    refine r_ast_n O 9 rfl rfl [(2, .ref (h_k3 0)), (0, .ref (h_t 0)), (1, .ref (h_o 0))] dX2_keep_8 (by decide) rfl ?_
    refine r_ald_n O 10 rfl 0 rfl dX2_keep_9 ?_
    refine r_ifnonnull O 14 dX2_keep_10 (by decide) ?_
    refine r_ald_n O 15 rfl 0 rfl dX2_keep_14 ?_
    refine r_ald_n O 16 rfl 2 rfl dX2_keep_15 ?_
    obtain ⟨p16_k3, hq16, hf⟩ := qb1_some hf
    refine k_VV O 19 rfl (zX8_copyFrom (l := xl X) (D := xD X) (cI := cI) (cZ := cZ) (cQ := cQ) (h_t := h_k3) (h_o := h_o) hq16) (gV mlX2_27 mvX8_copyFrom izX8) rfl rfl rfl hdX8_copyFrom ⟨Nat.le_of_ble_eq_true rfl, Nat.le_of_ble_eq_true rfl⟩ rfl 4 rfl rfl rfl rfl (Nat.le_of_ble_eq_true rfl) ⟨Nat.zero_le _, Nat.zero_le _⟩ [4, 9] rfl rfl rfl ([nX2 cI cZ cQ h_t (hkf h_k0 h_k1 h_k2 h_k3 h_k4 h_k5 h_k6 h_k7) u_t, nX8 cI cZ cQ h_k0 u_k0, nX8 cI cZ cQ h_k1 u_k1, nX8 cI cZ cQ h_k2 u_k2, nX8 cI cZ cQ h_k3 p16_k3, nX8 cI cZ cQ h_k4 u_k4, nX8 cI cZ cQ h_k5 u_k5, nX8 cI cZ cQ h_k6 u_k6, nX8 cI cZ cQ h_k7 u_k7, nX8 cI cZ cQ h_o u_o]) rfl dX2_keep_16 ?_
    refine r_ald_n O 20 rfl 1 rfl dX2_keep_19 ?_
    refine r_ald_n O 21 rfl 1 rfl dX2_keep_20 ?_
    refine r_get (ref := RX2) (C := RX2) (T := TX2) (N := 3) O 24 rfl inBX2 0 1 rfl rfl rfl (by decide) flX2_16 rfl rfl dX2_keep_21 ?_
    refine r_ic O 25 rfl 1 (by decide) dX2_keep_24 ?_
    refine r_iadd O 26 rfl dX2_keep_25 ?_
    refine r_bi O 28 rfl 8 (by decide) dX2_keep_26 ?_
    refine r_icmp_ge O 31 rfl 40 dX2_keep_28 (by decide) (fun hc28 => ?_) (fun hc28 => ?_)
    · rw [if_pos hc28] at hf
      refine r_ic O 41 rfl 0 (by decide) dX2_keep_40 ?_
      refine r_lv [1] rfl ?_
      exact B41 _ _ _ _ _ _ _ _ _ _ hf
    · rw [if_neg hc28] at hf
      refine r_ald_n O 32 rfl 1 rfl dX2_keep_31 ?_
      refine r_get (ref := RX2) (C := RX2) (T := TX2) (N := 3) O 35 rfl inBX2 0 1 rfl rfl rfl (by decide) flX2_16 rfl rfl dX2_keep_32 ?_
      refine r_ic O 36 rfl 1 (by decide) dX2_keep_35 ?_
      refine r_iadd O 37 rfl dX2_keep_36 ?_
      refine r_goto O 41 dX2_keep_37 (by decide) ?_
      refine r_lv [1] rfl ?_
      exact B41 _ _ _ _ _ _ _ _ _ _ hf
  rw [if_neg hc5_3] at hf
  by_cases hc5_4 : (u_t.2.1 1) = 4
  · rw [if_pos hc5_4] at hf
    rw [show va_rf (fX2_placeAt (hkf h_k0 h_k1 h_k2 h_k3 h_k4 h_k5 h_k6 h_k7) (u_t.2.1 1)) = Value.ref (h_k4 0) from by rw [hc5_4]; rfl]
    refine r_ast_n O 9 rfl rfl [(2, .ref (h_k4 0)), (0, .ref (h_t 0)), (1, .ref (h_o 0))] dX2_keep_8 (by decide) rfl ?_
    refine r_ald_n O 10 rfl 0 rfl dX2_keep_9 ?_
    refine r_ifnonnull O 14 dX2_keep_10 (by decide) ?_
    refine r_ald_n O 15 rfl 0 rfl dX2_keep_14 ?_
    refine r_ald_n O 16 rfl 2 rfl dX2_keep_15 ?_
    obtain ⟨p16_k4, hq16, hf⟩ := qb1_some hf
    refine k_VV O 19 rfl (zX8_copyFrom (l := xl X) (D := xD X) (cI := cI) (cZ := cZ) (cQ := cQ) (h_t := h_k4) (h_o := h_o) hq16) (gV mlX2_27 mvX8_copyFrom izX8) rfl rfl rfl hdX8_copyFrom ⟨Nat.le_of_ble_eq_true rfl, Nat.le_of_ble_eq_true rfl⟩ rfl 5 rfl rfl rfl rfl (Nat.le_of_ble_eq_true rfl) ⟨Nat.zero_le _, Nat.zero_le _⟩ [5, 9] rfl rfl rfl ([nX2 cI cZ cQ h_t (hkf h_k0 h_k1 h_k2 h_k3 h_k4 h_k5 h_k6 h_k7) u_t, nX8 cI cZ cQ h_k0 u_k0, nX8 cI cZ cQ h_k1 u_k1, nX8 cI cZ cQ h_k2 u_k2, nX8 cI cZ cQ h_k3 u_k3, nX8 cI cZ cQ h_k4 p16_k4, nX8 cI cZ cQ h_k5 u_k5, nX8 cI cZ cQ h_k6 u_k6, nX8 cI cZ cQ h_k7 u_k7, nX8 cI cZ cQ h_o u_o]) rfl dX2_keep_16 ?_
    refine r_ald_n O 20 rfl 1 rfl dX2_keep_19 ?_
    refine r_ald_n O 21 rfl 1 rfl dX2_keep_20 ?_
    refine r_get (ref := RX2) (C := RX2) (T := TX2) (N := 3) O 24 rfl inBX2 0 1 rfl rfl rfl (by decide) flX2_16 rfl rfl dX2_keep_21 ?_
    refine r_ic O 25 rfl 1 (by decide) dX2_keep_24 ?_
    refine r_iadd O 26 rfl dX2_keep_25 ?_
    refine r_bi O 28 rfl 8 (by decide) dX2_keep_26 ?_
    refine r_icmp_ge O 31 rfl 40 dX2_keep_28 (by decide) (fun hc28 => ?_) (fun hc28 => ?_)
    · rw [if_pos hc28] at hf
      refine r_ic O 41 rfl 0 (by decide) dX2_keep_40 ?_
      refine r_lv [1] rfl ?_
      exact B41 _ _ _ _ _ _ _ _ _ _ hf
    · rw [if_neg hc28] at hf
      refine r_ald_n O 32 rfl 1 rfl dX2_keep_31 ?_
      refine r_get (ref := RX2) (C := RX2) (T := TX2) (N := 3) O 35 rfl inBX2 0 1 rfl rfl rfl (by decide) flX2_16 rfl rfl dX2_keep_32 ?_
      refine r_ic O 36 rfl 1 (by decide) dX2_keep_35 ?_
      refine r_iadd O 37 rfl dX2_keep_36 ?_
      refine r_goto O 41 dX2_keep_37 (by decide) ?_
      refine r_lv [1] rfl ?_
      exact B41 _ _ _ _ _ _ _ _ _ _ hf
  rw [if_neg hc5_4] at hf
  by_cases hc5_5 : (u_t.2.1 1) = 5
  · rw [if_pos hc5_5] at hf
    rw [show va_rf (fX2_placeAt (hkf h_k0 h_k1 h_k2 h_k3 h_k4 h_k5 h_k6 h_k7) (u_t.2.1 1)) = Value.ref (h_k5 0) from by rw [hc5_5]; rfl]
    refine r_ast_n O 9 rfl rfl [(2, .ref (h_k5 0)), (0, .ref (h_t 0)), (1, .ref (h_o 0))] dX2_keep_8 (by decide) rfl ?_
    refine r_ald_n O 10 rfl 0 rfl dX2_keep_9 ?_
    refine r_ifnonnull O 14 dX2_keep_10 (by decide) ?_
    refine r_ald_n O 15 rfl 0 rfl dX2_keep_14 ?_
    refine r_ald_n O 16 rfl 2 rfl dX2_keep_15 ?_
    obtain ⟨p16_k5, hq16, hf⟩ := qb1_some hf
    refine k_VV O 19 rfl (zX8_copyFrom (l := xl X) (D := xD X) (cI := cI) (cZ := cZ) (cQ := cQ) (h_t := h_k5) (h_o := h_o) hq16) (gV mlX2_27 mvX8_copyFrom izX8) rfl rfl rfl hdX8_copyFrom ⟨Nat.le_of_ble_eq_true rfl, Nat.le_of_ble_eq_true rfl⟩ rfl 6 rfl rfl rfl rfl (Nat.le_of_ble_eq_true rfl) ⟨Nat.zero_le _, Nat.zero_le _⟩ [6, 9] rfl rfl rfl ([nX2 cI cZ cQ h_t (hkf h_k0 h_k1 h_k2 h_k3 h_k4 h_k5 h_k6 h_k7) u_t, nX8 cI cZ cQ h_k0 u_k0, nX8 cI cZ cQ h_k1 u_k1, nX8 cI cZ cQ h_k2 u_k2, nX8 cI cZ cQ h_k3 u_k3, nX8 cI cZ cQ h_k4 u_k4, nX8 cI cZ cQ h_k5 p16_k5, nX8 cI cZ cQ h_k6 u_k6, nX8 cI cZ cQ h_k7 u_k7, nX8 cI cZ cQ h_o u_o]) rfl dX2_keep_16 ?_
    refine r_ald_n O 20 rfl 1 rfl dX2_keep_19 ?_
    refine r_ald_n O 21 rfl 1 rfl dX2_keep_20 ?_
    refine r_get (ref := RX2) (C := RX2) (T := TX2) (N := 3) O 24 rfl inBX2 0 1 rfl rfl rfl (by decide) flX2_16 rfl rfl dX2_keep_21 ?_
    refine r_ic O 25 rfl 1 (by decide) dX2_keep_24 ?_
    refine r_iadd O 26 rfl dX2_keep_25 ?_
    refine r_bi O 28 rfl 8 (by decide) dX2_keep_26 ?_
    refine r_icmp_ge O 31 rfl 40 dX2_keep_28 (by decide) (fun hc28 => ?_) (fun hc28 => ?_)
    · rw [if_pos hc28] at hf
      refine r_ic O 41 rfl 0 (by decide) dX2_keep_40 ?_
      refine r_lv [1] rfl ?_
      exact B41 _ _ _ _ _ _ _ _ _ _ hf
    · rw [if_neg hc28] at hf
      refine r_ald_n O 32 rfl 1 rfl dX2_keep_31 ?_
      refine r_get (ref := RX2) (C := RX2) (T := TX2) (N := 3) O 35 rfl inBX2 0 1 rfl rfl rfl (by decide) flX2_16 rfl rfl dX2_keep_32 ?_
      refine r_ic O 36 rfl 1 (by decide) dX2_keep_35 ?_
      refine r_iadd O 37 rfl dX2_keep_36 ?_
      refine r_goto O 41 dX2_keep_37 (by decide) ?_
      refine r_lv [1] rfl ?_
      exact B41 _ _ _ _ _ _ _ _ _ _ hf
  rw [if_neg hc5_5] at hf
  by_cases hc5_6 : (u_t.2.1 1) = 6
  · rw [if_pos hc5_6] at hf
    rw [show va_rf (fX2_placeAt (hkf h_k0 h_k1 h_k2 h_k3 h_k4 h_k5 h_k6 h_k7) (u_t.2.1 1)) = Value.ref (h_k6 0) from by rw [hc5_6]; rfl]
    refine r_ast_n O 9 rfl rfl [(2, .ref (h_k6 0)), (0, .ref (h_t 0)), (1, .ref (h_o 0))] dX2_keep_8 (by decide) rfl ?_
    refine r_ald_n O 10 rfl 0 rfl dX2_keep_9 ?_
    refine r_ifnonnull O 14 dX2_keep_10 (by decide) ?_
    refine r_ald_n O 15 rfl 0 rfl dX2_keep_14 ?_
    refine r_ald_n O 16 rfl 2 rfl dX2_keep_15 ?_
    obtain ⟨p16_k6, hq16, hf⟩ := qb1_some hf
    refine k_VV O 19 rfl (zX8_copyFrom (l := xl X) (D := xD X) (cI := cI) (cZ := cZ) (cQ := cQ) (h_t := h_k6) (h_o := h_o) hq16) (gV mlX2_27 mvX8_copyFrom izX8) rfl rfl rfl hdX8_copyFrom ⟨Nat.le_of_ble_eq_true rfl, Nat.le_of_ble_eq_true rfl⟩ rfl 7 rfl rfl rfl rfl (Nat.le_of_ble_eq_true rfl) ⟨Nat.zero_le _, Nat.zero_le _⟩ [7, 9] rfl rfl rfl ([nX2 cI cZ cQ h_t (hkf h_k0 h_k1 h_k2 h_k3 h_k4 h_k5 h_k6 h_k7) u_t, nX8 cI cZ cQ h_k0 u_k0, nX8 cI cZ cQ h_k1 u_k1, nX8 cI cZ cQ h_k2 u_k2, nX8 cI cZ cQ h_k3 u_k3, nX8 cI cZ cQ h_k4 u_k4, nX8 cI cZ cQ h_k5 u_k5, nX8 cI cZ cQ h_k6 p16_k6, nX8 cI cZ cQ h_k7 u_k7, nX8 cI cZ cQ h_o u_o]) rfl dX2_keep_16 ?_
    refine r_ald_n O 20 rfl 1 rfl dX2_keep_19 ?_
    refine r_ald_n O 21 rfl 1 rfl dX2_keep_20 ?_
    refine r_get (ref := RX2) (C := RX2) (T := TX2) (N := 3) O 24 rfl inBX2 0 1 rfl rfl rfl (by decide) flX2_16 rfl rfl dX2_keep_21 ?_
    refine r_ic O 25 rfl 1 (by decide) dX2_keep_24 ?_
    refine r_iadd O 26 rfl dX2_keep_25 ?_
    refine r_bi O 28 rfl 8 (by decide) dX2_keep_26 ?_
    refine r_icmp_ge O 31 rfl 40 dX2_keep_28 (by decide) (fun hc28 => ?_) (fun hc28 => ?_)
    · rw [if_pos hc28] at hf
      refine r_ic O 41 rfl 0 (by decide) dX2_keep_40 ?_
      refine r_lv [1] rfl ?_
      exact B41 _ _ _ _ _ _ _ _ _ _ hf
    · rw [if_neg hc28] at hf
      refine r_ald_n O 32 rfl 1 rfl dX2_keep_31 ?_
      refine r_get (ref := RX2) (C := RX2) (T := TX2) (N := 3) O 35 rfl inBX2 0 1 rfl rfl rfl (by decide) flX2_16 rfl rfl dX2_keep_32 ?_
      refine r_ic O 36 rfl 1 (by decide) dX2_keep_35 ?_
      refine r_iadd O 37 rfl dX2_keep_36 ?_
      refine r_goto O 41 dX2_keep_37 (by decide) ?_
      refine r_lv [1] rfl ?_
      exact B41 _ _ _ _ _ _ _ _ _ _ hf
  rw [if_neg hc5_6] at hf
  by_cases hc5_7 : (u_t.2.1 1) = 7
  · rw [if_pos hc5_7] at hf
    rw [show va_rf (fX2_placeAt (hkf h_k0 h_k1 h_k2 h_k3 h_k4 h_k5 h_k6 h_k7) (u_t.2.1 1)) = Value.ref (h_k7 0) from by rw [hc5_7]; rfl]
    refine r_ast_n O 9 rfl rfl [(2, .ref (h_k7 0)), (0, .ref (h_t 0)), (1, .ref (h_o 0))] dX2_keep_8 (by decide) rfl ?_
    refine r_ald_n O 10 rfl 0 rfl dX2_keep_9 ?_
    refine r_ifnonnull O 14 dX2_keep_10 (by decide) ?_
    refine r_ald_n O 15 rfl 0 rfl dX2_keep_14 ?_
    refine r_ald_n O 16 rfl 2 rfl dX2_keep_15 ?_
    obtain ⟨p16_k7, hq16, hf⟩ := qb1_some hf
    refine k_VV O 19 rfl (zX8_copyFrom (l := xl X) (D := xD X) (cI := cI) (cZ := cZ) (cQ := cQ) (h_t := h_k7) (h_o := h_o) hq16) (gV mlX2_27 mvX8_copyFrom izX8) rfl rfl rfl hdX8_copyFrom ⟨Nat.le_of_ble_eq_true rfl, Nat.le_of_ble_eq_true rfl⟩ rfl 8 rfl rfl rfl rfl (Nat.le_of_ble_eq_true rfl) ⟨Nat.zero_le _, Nat.zero_le _⟩ [8, 9] rfl rfl rfl ([nX2 cI cZ cQ h_t (hkf h_k0 h_k1 h_k2 h_k3 h_k4 h_k5 h_k6 h_k7) u_t, nX8 cI cZ cQ h_k0 u_k0, nX8 cI cZ cQ h_k1 u_k1, nX8 cI cZ cQ h_k2 u_k2, nX8 cI cZ cQ h_k3 u_k3, nX8 cI cZ cQ h_k4 u_k4, nX8 cI cZ cQ h_k5 u_k5, nX8 cI cZ cQ h_k6 u_k6, nX8 cI cZ cQ h_k7 p16_k7, nX8 cI cZ cQ h_o u_o]) rfl dX2_keep_16 ?_
    refine r_ald_n O 20 rfl 1 rfl dX2_keep_19 ?_
    refine r_ald_n O 21 rfl 1 rfl dX2_keep_20 ?_
    refine r_get (ref := RX2) (C := RX2) (T := TX2) (N := 3) O 24 rfl inBX2 0 1 rfl rfl rfl (by decide) flX2_16 rfl rfl dX2_keep_21 ?_
    refine r_ic O 25 rfl 1 (by decide) dX2_keep_24 ?_
    refine r_iadd O 26 rfl dX2_keep_25 ?_
    refine r_bi O 28 rfl 8 (by decide) dX2_keep_26 ?_
    refine r_icmp_ge O 31 rfl 40 dX2_keep_28 (by decide) (fun hc28 => ?_) (fun hc28 => ?_)
    · rw [if_pos hc28] at hf
      refine r_ic O 41 rfl 0 (by decide) dX2_keep_40 ?_
      refine r_lv [1] rfl ?_
      exact B41 _ _ _ _ _ _ _ _ _ _ hf
    · rw [if_neg hc28] at hf
      refine r_ald_n O 32 rfl 1 rfl dX2_keep_31 ?_
      refine r_get (ref := RX2) (C := RX2) (T := TX2) (N := 3) O 35 rfl inBX2 0 1 rfl rfl rfl (by decide) flX2_16 rfl rfl dX2_keep_32 ?_
      refine r_ic O 36 rfl 1 (by decide) dX2_keep_35 ?_
      refine r_iadd O 37 rfl dX2_keep_36 ?_
      refine r_goto O 41 dX2_keep_37 (by decide) ?_
      refine r_lv [1] rfl ?_
      exact B41 _ _ _ _ _ _ _ _ _ _ hf
  rw [if_neg hc5_7] at hf
  rw [show va_rf (fX2_placeAt (hkf h_k0 h_k1 h_k2 h_k3 h_k4 h_k5 h_k6 h_k7) (u_t.2.1 1)) = Value.null from by rw [plc_none hc5_0 hc5_1 hc5_2 hc5_3 hc5_4 hc5_5 hc5_6 hc5_7]; rfl]
  refine r_astN_n O 9 rfl rfl [(2, .null), (0, .ref (h_t 0)), (1, .ref (h_o 0))] dX2_keep_8 (by decide) rfl ?_
  refine r_aldN_n O 10 rfl 0 rfl dX2_keep_9 ?_
  refine r_ifnonnullN O 13 rfl dX2_keep_10 ?_
  obtain ⟨g0, g1, g2, g3, g4, g5, g6, g7, g8⟩ := qe9 hf
  exact r_vret2 O E (by rw [g0, g1, g2, g3, g4, g5, g6, g7, g8]) dX2_keep_13
-- X2_restore
def rmX2_restore : Room := { frames := 2, cells := 0, slots := 0, locals := 43 }
set_option maxHeartbeats 4000000 in
set_option maxRecDepth 100000 in
theorem zX2_restore {l : Launch} {D : va_G} {cI cZ cQ : ClassId} {h_t h_k0 h_k1 h_k2 h_k3 h_k4 h_k5 h_k6 h_k7 h_o : Nat → Nat} {u_k0 u_k1 u_k2 u_k3 u_k4 u_k5 u_k6 u_k7 u_t u_o : Pk} {v_t v_o : Pk} (hf : fX2_restore u_k0 u_k1 u_k2 u_k3 u_k4 u_k5 u_k6 u_k7 u_t u_o = some (v_t, v_o)) : MV l yX2_restore wsX2_restore rmX2_restore D (TY cI cZ cQ) [.ref (h_t 0), .ref (h_o 0)] [nX2 cI cZ cQ h_t (hkf h_k0 h_k1 h_k2 h_k3 h_k4 h_k5 h_k6 h_k7) u_t, nX8 cI cZ cQ h_k0 u_k0, nX8 cI cZ cQ h_k1 u_k1, nX8 cI cZ cQ h_k2 u_k2, nX8 cI cZ cQ h_k3 u_k3, nX8 cI cZ cQ h_k4 u_k4, nX8 cI cZ cQ h_k5 u_k5, nX8 cI cZ cQ h_k6 u_k6, nX8 cI cZ cQ h_k7 u_k7, nX8 cI cZ cQ h_o u_o] [nX2 cI cZ cQ h_t (hkf h_k0 h_k1 h_k2 h_k3 h_k4 h_k5 h_k6 h_k7) v_t, nX8 cI cZ cQ h_k0 u_k0, nX8 cI cZ cQ h_k1 u_k1, nX8 cI cZ cQ h_k2 u_k2, nX8 cI cZ cQ h_k3 u_k3, nX8 cI cZ cQ h_k4 u_k4, nX8 cI cZ cQ h_k5 u_k5, nX8 cI cZ cQ h_k6 u_k6, nX8 cI cZ cQ h_k7 u_k7, nX8 cI cZ cQ h_o v_o] := by
  refine MV.of (own := RX2) (by decide +kernel) rfl rfl (Nat.le_of_ble_eq_true rfl) (lv0 := [(0, .ref (h_t 0)), (1, .ref (h_o 0))]) rfl ?_
  intro X O E
  have B18 : ∀ (w_t : Pk) (w_o : Pk) (z0 : Int32), fX2_restore_b18 u_k0 u_k1 u_k2 u_k3 u_k4 u_k5 u_k6 u_k7 w_t w_o z0 = some (v_t, v_o) → BK X 4 0 0 18 ([nX2 cI cZ cQ h_t (hkf h_k0 h_k1 h_k2 h_k3 h_k4 h_k5 h_k6 h_k7) w_t, nX8 cI cZ cQ h_k0 u_k0, nX8 cI cZ cQ h_k1 u_k1, nX8 cI cZ cQ h_k2 u_k2, nX8 cI cZ cQ h_k3 u_k3, nX8 cI cZ cQ h_k4 u_k4, nX8 cI cZ cQ h_k5 u_k5, nX8 cI cZ cQ h_k6 u_k6, nX8 cI cZ cQ h_k7 u_k7, nX8 cI cZ cQ h_o w_o]) [(0, .ref (h_t 0)), (1, .ref (h_o 0))] [.int z0] := by
    intro w_t w_o z0 hf
    unfold fX2_restore_b18 at hf
    refine r_ist_n O 19 rfl rfl [(2, .int z0), (0, .ref (h_t 0)), (1, .ref (h_o 0))] dX2_restore_18 (by decide) rfl ?_
    refine r_ald_n O 20 rfl 1 rfl dX2_restore_19 ?_
    refine r_ild_n O 21 rfl 0 rfl dX2_restore_20 ?_
    refine k_VY O 24 rfl (zX2_placeAt (l := xl X) (D := xD X) (cI := cI) (cZ := cZ) (cQ := cQ) (h_t := h_t) (hk := (hkf h_k0 h_k1 h_k2 h_k3 h_k4 h_k5 h_k6 h_k7)) (u_t := w_t) (a1 := z0)) (gV mlX2_23 mvX2_placeAt izX2) rfl rfl rfl hdX2_placeAt ⟨Nat.le_of_ble_eq_true rfl, Nat.le_of_ble_eq_true rfl⟩ rfl 0 rfl rfl rfl rfl (Nat.le_of_ble_eq_true rfl) ⟨Nat.zero_le _, Nat.zero_le _⟩ [0] rfl rfl rfl ([nX2 cI cZ cQ h_t (hkf h_k0 h_k1 h_k2 h_k3 h_k4 h_k5 h_k6 h_k7) w_t, nX8 cI cZ cQ h_k0 u_k0, nX8 cI cZ cQ h_k1 u_k1, nX8 cI cZ cQ h_k2 u_k2, nX8 cI cZ cQ h_k3 u_k3, nX8 cI cZ cQ h_k4 u_k4, nX8 cI cZ cQ h_k5 u_k5, nX8 cI cZ cQ h_k6 u_k6, nX8 cI cZ cQ h_k7 u_k7, nX8 cI cZ cQ h_o w_o]) rfl dX2_restore_21 ?_
    by_cases hc21_0 : z0 = 0
    · rw [if_pos hc21_0] at hf
      rw [show va_rf (fX2_placeAt (hkf h_k0 h_k1 h_k2 h_k3 h_k4 h_k5 h_k6 h_k7) z0) = Value.ref (h_k0 0) from by rw [hc21_0]; rfl]
      refine r_ast_n O 25 rfl rfl [(3, .ref (h_k0 0)), (2, .int z0), (0, .ref (h_t 0)), (1, .ref (h_o 0))] dX2_restore_24 (by decide) rfl ?_
      refine r_ald_n O 26 rfl 0 rfl dX2_restore_25 ?_
      refine r_ifnull O 29 rfl dX2_restore_26 ?_
      refine r_ald_n O 30 rfl 2 rfl dX2_restore_29 ?_
      refine r_get (ref := RX2) (C := RX2) (T := TX2) (N := 3) O 33 rfl inBX2 0 2 rfl rfl rfl (by decide) flX2_20 rfl rfl dX2_restore_30 ?_
      refine r_if_ne O 36 rfl 37 dX2_restore_33 (by decide) (fun hc33 => ?_) (fun hc33 => ?_)
      · rw [if_neg hc33] at hf
        refine r_ald_n O 38 rfl 3 rfl dX2_restore_37 ?_
        refine r_ald_n O 39 rfl 0 rfl dX2_restore_38 ?_
        obtain ⟨p39_o, hq39, hf⟩ := qb1_some hf
        refine k_VV O 42 rfl (zX8_copyFrom (l := xl X) (D := xD X) (cI := cI) (cZ := cZ) (cQ := cQ) (h_t := h_o) (h_o := h_k0) hq39) (gV mlX2_27 mvX8_copyFrom izX8) rfl rfl rfl hdX8_copyFrom ⟨Nat.le_of_ble_eq_true rfl, Nat.le_of_ble_eq_true rfl⟩ rfl 9 rfl rfl rfl rfl (Nat.le_of_ble_eq_true rfl) ⟨Nat.zero_le _, Nat.zero_le _⟩ [9, 1] rfl rfl rfl ([nX2 cI cZ cQ h_t (hkf h_k0 h_k1 h_k2 h_k3 h_k4 h_k5 h_k6 h_k7) w_t, nX8 cI cZ cQ h_k0 u_k0, nX8 cI cZ cQ h_k1 u_k1, nX8 cI cZ cQ h_k2 u_k2, nX8 cI cZ cQ h_k3 u_k3, nX8 cI cZ cQ h_k4 u_k4, nX8 cI cZ cQ h_k5 u_k5, nX8 cI cZ cQ h_k6 u_k6, nX8 cI cZ cQ h_k7 u_k7, nX8 cI cZ cQ h_o p39_o]) rfl dX2_restore_39 ?_
        refine r_ald_n O 43 rfl 2 rfl dX2_restore_42 ?_
        refine r_ild_n O 44 rfl 1 rfl dX2_restore_43 ?_
        obtain ⟨p44_t, ep44_t, hf⟩ := qn_some hf
        refine r_put (ref := RX2) (C := RX2) (T := TX2) (N := 3) O 47 rfl inBX2 tyX2 tyX2_ok nmX2 0 1 rfl rfl rfl (by decide) flX2_16 rfl rfl rfl rfl (Nat.le_of_ble_eq_true rfl) ([nX2 cI cZ cQ h_t (hkf h_k0 h_k1 h_k2 h_k3 h_k4 h_k5 h_k6 h_k7) p44_t, nX8 cI cZ cQ h_k0 u_k0, nX8 cI cZ cQ h_k1 u_k1, nX8 cI cZ cQ h_k2 u_k2, nX8 cI cZ cQ h_k3 u_k3, nX8 cI cZ cQ h_k4 u_k4, nX8 cI cZ cQ h_k5 u_k5, nX8 cI cZ cQ h_k6 u_k6, nX8 cI cZ cQ h_k7 u_k7, nX8 cI cZ cQ h_o p39_o]) (by rw [ep44_t]; rfl) dX2_restore_44 ?_
        refine r_ald_n O 48 rfl 2 rfl dX2_restore_47 ?_
        refine r_dup O 49 rfl dX2_restore_48 rfl ?_
        refine r_get (ref := RX2) (C := RX2) (T := TX2) (N := 3) O 52 rfl inBX2 0 2 rfl rfl rfl (by decide) flX2_20 rfl rfl dX2_restore_49 ?_
        refine r_ic O 53 rfl 1 (by decide) dX2_restore_52 ?_
        refine r_isub O 54 rfl dX2_restore_53 ?_
        obtain ⟨p54_t, ep54_t, hf⟩ := qn_some hf
        refine r_put (ref := RX2) (C := RX2) (T := TX2) (N := 3) O 57 rfl inBX2 tyX2 tyX2_ok nmX2 0 2 rfl rfl rfl (by decide) flX2_20 rfl rfl rfl rfl (Nat.le_of_ble_eq_true rfl) ([nX2 cI cZ cQ h_t (hkf h_k0 h_k1 h_k2 h_k3 h_k4 h_k5 h_k6 h_k7) p54_t, nX8 cI cZ cQ h_k0 u_k0, nX8 cI cZ cQ h_k1 u_k1, nX8 cI cZ cQ h_k2 u_k2, nX8 cI cZ cQ h_k3 u_k3, nX8 cI cZ cQ h_k4 u_k4, nX8 cI cZ cQ h_k5 u_k5, nX8 cI cZ cQ h_k6 u_k6, nX8 cI cZ cQ h_k7 u_k7, nX8 cI cZ cQ h_o p39_o]) (by rw [ep54_t]; rfl) dX2_restore_54 ?_
        obtain ⟨g0, g1⟩ := qe2 hf
        exact r_vret2 O E (by rw [g0, g1]) dX2_restore_57
      · rw [if_pos hc33] at hf
        obtain ⟨g0, g1⟩ := qe2 hf
        exact r_vret2 O E (by rw [g0, g1]) dX2_restore_36
    rw [if_neg hc21_0] at hf
    by_cases hc21_1 : z0 = 1
    · rw [if_pos hc21_1] at hf
      rw [show va_rf (fX2_placeAt (hkf h_k0 h_k1 h_k2 h_k3 h_k4 h_k5 h_k6 h_k7) z0) = Value.ref (h_k1 0) from by rw [hc21_1]; rfl]
      refine r_ast_n O 25 rfl rfl [(3, .ref (h_k1 0)), (2, .int z0), (0, .ref (h_t 0)), (1, .ref (h_o 0))] dX2_restore_24 (by decide) rfl ?_
      refine r_ald_n O 26 rfl 0 rfl dX2_restore_25 ?_
      refine r_ifnull O 29 rfl dX2_restore_26 ?_
      refine r_ald_n O 30 rfl 2 rfl dX2_restore_29 ?_
      refine r_get (ref := RX2) (C := RX2) (T := TX2) (N := 3) O 33 rfl inBX2 0 2 rfl rfl rfl (by decide) flX2_20 rfl rfl dX2_restore_30 ?_
      refine r_if_ne O 36 rfl 37 dX2_restore_33 (by decide) (fun hc33 => ?_) (fun hc33 => ?_)
      · rw [if_neg hc33] at hf
        refine r_ald_n O 38 rfl 3 rfl dX2_restore_37 ?_
        refine r_ald_n O 39 rfl 0 rfl dX2_restore_38 ?_
        obtain ⟨p39_o, hq39, hf⟩ := qb1_some hf
        refine k_VV O 42 rfl (zX8_copyFrom (l := xl X) (D := xD X) (cI := cI) (cZ := cZ) (cQ := cQ) (h_t := h_o) (h_o := h_k1) hq39) (gV mlX2_27 mvX8_copyFrom izX8) rfl rfl rfl hdX8_copyFrom ⟨Nat.le_of_ble_eq_true rfl, Nat.le_of_ble_eq_true rfl⟩ rfl 9 rfl rfl rfl rfl (Nat.le_of_ble_eq_true rfl) ⟨Nat.zero_le _, Nat.zero_le _⟩ [9, 2] rfl rfl rfl ([nX2 cI cZ cQ h_t (hkf h_k0 h_k1 h_k2 h_k3 h_k4 h_k5 h_k6 h_k7) w_t, nX8 cI cZ cQ h_k0 u_k0, nX8 cI cZ cQ h_k1 u_k1, nX8 cI cZ cQ h_k2 u_k2, nX8 cI cZ cQ h_k3 u_k3, nX8 cI cZ cQ h_k4 u_k4, nX8 cI cZ cQ h_k5 u_k5, nX8 cI cZ cQ h_k6 u_k6, nX8 cI cZ cQ h_k7 u_k7, nX8 cI cZ cQ h_o p39_o]) rfl dX2_restore_39 ?_
        refine r_ald_n O 43 rfl 2 rfl dX2_restore_42 ?_
        refine r_ild_n O 44 rfl 1 rfl dX2_restore_43 ?_
        obtain ⟨p44_t, ep44_t, hf⟩ := qn_some hf
        refine r_put (ref := RX2) (C := RX2) (T := TX2) (N := 3) O 47 rfl inBX2 tyX2 tyX2_ok nmX2 0 1 rfl rfl rfl (by decide) flX2_16 rfl rfl rfl rfl (Nat.le_of_ble_eq_true rfl) ([nX2 cI cZ cQ h_t (hkf h_k0 h_k1 h_k2 h_k3 h_k4 h_k5 h_k6 h_k7) p44_t, nX8 cI cZ cQ h_k0 u_k0, nX8 cI cZ cQ h_k1 u_k1, nX8 cI cZ cQ h_k2 u_k2, nX8 cI cZ cQ h_k3 u_k3, nX8 cI cZ cQ h_k4 u_k4, nX8 cI cZ cQ h_k5 u_k5, nX8 cI cZ cQ h_k6 u_k6, nX8 cI cZ cQ h_k7 u_k7, nX8 cI cZ cQ h_o p39_o]) (by rw [ep44_t]; rfl) dX2_restore_44 ?_
        refine r_ald_n O 48 rfl 2 rfl dX2_restore_47 ?_
        refine r_dup O 49 rfl dX2_restore_48 rfl ?_
        refine r_get (ref := RX2) (C := RX2) (T := TX2) (N := 3) O 52 rfl inBX2 0 2 rfl rfl rfl (by decide) flX2_20 rfl rfl dX2_restore_49 ?_
        refine r_ic O 53 rfl 1 (by decide) dX2_restore_52 ?_
        refine r_isub O 54 rfl dX2_restore_53 ?_
        obtain ⟨p54_t, ep54_t, hf⟩ := qn_some hf
        refine r_put (ref := RX2) (C := RX2) (T := TX2) (N := 3) O 57 rfl inBX2 tyX2 tyX2_ok nmX2 0 2 rfl rfl rfl (by decide) flX2_20 rfl rfl rfl rfl (Nat.le_of_ble_eq_true rfl) ([nX2 cI cZ cQ h_t (hkf h_k0 h_k1 h_k2 h_k3 h_k4 h_k5 h_k6 h_k7) p54_t, nX8 cI cZ cQ h_k0 u_k0, nX8 cI cZ cQ h_k1 u_k1, nX8 cI cZ cQ h_k2 u_k2, nX8 cI cZ cQ h_k3 u_k3, nX8 cI cZ cQ h_k4 u_k4, nX8 cI cZ cQ h_k5 u_k5, nX8 cI cZ cQ h_k6 u_k6, nX8 cI cZ cQ h_k7 u_k7, nX8 cI cZ cQ h_o p39_o]) (by rw [ep54_t]; rfl) dX2_restore_54 ?_
        obtain ⟨g0, g1⟩ := qe2 hf
        exact r_vret2 O E (by rw [g0, g1]) dX2_restore_57
      · rw [if_pos hc33] at hf
        obtain ⟨g0, g1⟩ := qe2 hf
        exact r_vret2 O E (by rw [g0, g1]) dX2_restore_36
    rw [if_neg hc21_1] at hf
    by_cases hc21_2 : z0 = 2
    · rw [if_pos hc21_2] at hf
      rw [show va_rf (fX2_placeAt (hkf h_k0 h_k1 h_k2 h_k3 h_k4 h_k5 h_k6 h_k7) z0) = Value.ref (h_k2 0) from by rw [hc21_2]; rfl]
      refine r_ast_n O 25 rfl rfl [(3, .ref (h_k2 0)), (2, .int z0), (0, .ref (h_t 0)), (1, .ref (h_o 0))] dX2_restore_24 (by decide) rfl ?_
      refine r_ald_n O 26 rfl 0 rfl dX2_restore_25 ?_
      refine r_ifnull O 29 rfl dX2_restore_26 ?_
      refine r_ald_n O 30 rfl 2 rfl dX2_restore_29 ?_
      refine r_get (ref := RX2) (C := RX2) (T := TX2) (N := 3) O 33 rfl inBX2 0 2 rfl rfl rfl (by decide) flX2_20 rfl rfl dX2_restore_30 ?_
      refine r_if_ne O 36 rfl 37 dX2_restore_33 (by decide) (fun hc33 => ?_) (fun hc33 => ?_)
      · rw [if_neg hc33] at hf
        refine r_ald_n O 38 rfl 3 rfl dX2_restore_37 ?_
        refine r_ald_n O 39 rfl 0 rfl dX2_restore_38 ?_
        obtain ⟨p39_o, hq39, hf⟩ := qb1_some hf
        refine k_VV O 42 rfl (zX8_copyFrom (l := xl X) (D := xD X) (cI := cI) (cZ := cZ) (cQ := cQ) (h_t := h_o) (h_o := h_k2) hq39) (gV mlX2_27 mvX8_copyFrom izX8) rfl rfl rfl hdX8_copyFrom ⟨Nat.le_of_ble_eq_true rfl, Nat.le_of_ble_eq_true rfl⟩ rfl 9 rfl rfl rfl rfl (Nat.le_of_ble_eq_true rfl) ⟨Nat.zero_le _, Nat.zero_le _⟩ [9, 3] rfl rfl rfl ([nX2 cI cZ cQ h_t (hkf h_k0 h_k1 h_k2 h_k3 h_k4 h_k5 h_k6 h_k7) w_t, nX8 cI cZ cQ h_k0 u_k0, nX8 cI cZ cQ h_k1 u_k1, nX8 cI cZ cQ h_k2 u_k2, nX8 cI cZ cQ h_k3 u_k3, nX8 cI cZ cQ h_k4 u_k4, nX8 cI cZ cQ h_k5 u_k5, nX8 cI cZ cQ h_k6 u_k6, nX8 cI cZ cQ h_k7 u_k7, nX8 cI cZ cQ h_o p39_o]) rfl dX2_restore_39 ?_
        refine r_ald_n O 43 rfl 2 rfl dX2_restore_42 ?_
        refine r_ild_n O 44 rfl 1 rfl dX2_restore_43 ?_
        obtain ⟨p44_t, ep44_t, hf⟩ := qn_some hf
        refine r_put (ref := RX2) (C := RX2) (T := TX2) (N := 3) O 47 rfl inBX2 tyX2 tyX2_ok nmX2 0 1 rfl rfl rfl (by decide) flX2_16 rfl rfl rfl rfl (Nat.le_of_ble_eq_true rfl) ([nX2 cI cZ cQ h_t (hkf h_k0 h_k1 h_k2 h_k3 h_k4 h_k5 h_k6 h_k7) p44_t, nX8 cI cZ cQ h_k0 u_k0, nX8 cI cZ cQ h_k1 u_k1, nX8 cI cZ cQ h_k2 u_k2, nX8 cI cZ cQ h_k3 u_k3, nX8 cI cZ cQ h_k4 u_k4, nX8 cI cZ cQ h_k5 u_k5, nX8 cI cZ cQ h_k6 u_k6, nX8 cI cZ cQ h_k7 u_k7, nX8 cI cZ cQ h_o p39_o]) (by rw [ep44_t]; rfl) dX2_restore_44 ?_
        refine r_ald_n O 48 rfl 2 rfl dX2_restore_47 ?_
        refine r_dup O 49 rfl dX2_restore_48 rfl ?_
        refine r_get (ref := RX2) (C := RX2) (T := TX2) (N := 3) O 52 rfl inBX2 0 2 rfl rfl rfl (by decide) flX2_20 rfl rfl dX2_restore_49 ?_
        refine r_ic O 53 rfl 1 (by decide) dX2_restore_52 ?_
        refine r_isub O 54 rfl dX2_restore_53 ?_
        obtain ⟨p54_t, ep54_t, hf⟩ := qn_some hf
        refine r_put (ref := RX2) (C := RX2) (T := TX2) (N := 3) O 57 rfl inBX2 tyX2 tyX2_ok nmX2 0 2 rfl rfl rfl (by decide) flX2_20 rfl rfl rfl rfl (Nat.le_of_ble_eq_true rfl) ([nX2 cI cZ cQ h_t (hkf h_k0 h_k1 h_k2 h_k3 h_k4 h_k5 h_k6 h_k7) p54_t, nX8 cI cZ cQ h_k0 u_k0, nX8 cI cZ cQ h_k1 u_k1, nX8 cI cZ cQ h_k2 u_k2, nX8 cI cZ cQ h_k3 u_k3, nX8 cI cZ cQ h_k4 u_k4, nX8 cI cZ cQ h_k5 u_k5, nX8 cI cZ cQ h_k6 u_k6, nX8 cI cZ cQ h_k7 u_k7, nX8 cI cZ cQ h_o p39_o]) (by rw [ep54_t]; rfl) dX2_restore_54 ?_
        obtain ⟨g0, g1⟩ := qe2 hf
        exact r_vret2 O E (by rw [g0, g1]) dX2_restore_57
      · rw [if_pos hc33] at hf
        obtain ⟨g0, g1⟩ := qe2 hf
        exact r_vret2 O E (by rw [g0, g1]) dX2_restore_36
    rw [if_neg hc21_2] at hf
    by_cases hc21_3 : z0 = 3
    · rw [if_pos hc21_3] at hf
      rw [show va_rf (fX2_placeAt (hkf h_k0 h_k1 h_k2 h_k3 h_k4 h_k5 h_k6 h_k7) z0) = Value.ref (h_k3 0) from by rw [hc21_3]; rfl]
      refine r_ast_n O 25 rfl rfl [(3, .ref (h_k3 0)), (2, .int z0), (0, .ref (h_t 0)), (1, .ref (h_o 0))] dX2_restore_24 (by decide) rfl ?_
      refine r_ald_n O 26 rfl 0 rfl dX2_restore_25 ?_
      refine r_ifnull O 29 rfl dX2_restore_26 ?_
      refine r_ald_n O 30 rfl 2 rfl dX2_restore_29 ?_
      refine r_get (ref := RX2) (C := RX2) (T := TX2) (N := 3) O 33 rfl inBX2 0 2 rfl rfl rfl (by decide) flX2_20 rfl rfl dX2_restore_30 ?_
      refine r_if_ne O 36 rfl 37 dX2_restore_33 (by decide) (fun hc33 => ?_) (fun hc33 => ?_)
      · rw [if_neg hc33] at hf
        refine r_ald_n O 38 rfl 3 rfl dX2_restore_37 ?_
        refine r_ald_n O 39 rfl 0 rfl dX2_restore_38 ?_
        obtain ⟨p39_o, hq39, hf⟩ := qb1_some hf
        refine k_VV O 42 rfl (zX8_copyFrom (l := xl X) (D := xD X) (cI := cI) (cZ := cZ) (cQ := cQ) (h_t := h_o) (h_o := h_k3) hq39) (gV mlX2_27 mvX8_copyFrom izX8) rfl rfl rfl hdX8_copyFrom ⟨Nat.le_of_ble_eq_true rfl, Nat.le_of_ble_eq_true rfl⟩ rfl 9 rfl rfl rfl rfl (Nat.le_of_ble_eq_true rfl) ⟨Nat.zero_le _, Nat.zero_le _⟩ [9, 4] rfl rfl rfl ([nX2 cI cZ cQ h_t (hkf h_k0 h_k1 h_k2 h_k3 h_k4 h_k5 h_k6 h_k7) w_t, nX8 cI cZ cQ h_k0 u_k0, nX8 cI cZ cQ h_k1 u_k1, nX8 cI cZ cQ h_k2 u_k2, nX8 cI cZ cQ h_k3 u_k3, nX8 cI cZ cQ h_k4 u_k4, nX8 cI cZ cQ h_k5 u_k5, nX8 cI cZ cQ h_k6 u_k6, nX8 cI cZ cQ h_k7 u_k7, nX8 cI cZ cQ h_o p39_o]) rfl dX2_restore_39 ?_
        refine r_ald_n O 43 rfl 2 rfl dX2_restore_42 ?_
        refine r_ild_n O 44 rfl 1 rfl dX2_restore_43 ?_
        obtain ⟨p44_t, ep44_t, hf⟩ := qn_some hf
        refine r_put (ref := RX2) (C := RX2) (T := TX2) (N := 3) O 47 rfl inBX2 tyX2 tyX2_ok nmX2 0 1 rfl rfl rfl (by decide) flX2_16 rfl rfl rfl rfl (Nat.le_of_ble_eq_true rfl) ([nX2 cI cZ cQ h_t (hkf h_k0 h_k1 h_k2 h_k3 h_k4 h_k5 h_k6 h_k7) p44_t, nX8 cI cZ cQ h_k0 u_k0, nX8 cI cZ cQ h_k1 u_k1, nX8 cI cZ cQ h_k2 u_k2, nX8 cI cZ cQ h_k3 u_k3, nX8 cI cZ cQ h_k4 u_k4, nX8 cI cZ cQ h_k5 u_k5, nX8 cI cZ cQ h_k6 u_k6, nX8 cI cZ cQ h_k7 u_k7, nX8 cI cZ cQ h_o p39_o]) (by rw [ep44_t]; rfl) dX2_restore_44 ?_
        refine r_ald_n O 48 rfl 2 rfl dX2_restore_47 ?_
        refine r_dup O 49 rfl dX2_restore_48 rfl ?_
        refine r_get (ref := RX2) (C := RX2) (T := TX2) (N := 3) O 52 rfl inBX2 0 2 rfl rfl rfl (by decide) flX2_20 rfl rfl dX2_restore_49 ?_
        refine r_ic O 53 rfl 1 (by decide) dX2_restore_52 ?_
        refine r_isub O 54 rfl dX2_restore_53 ?_
        obtain ⟨p54_t, ep54_t, hf⟩ := qn_some hf
        refine r_put (ref := RX2) (C := RX2) (T := TX2) (N := 3) O 57 rfl inBX2 tyX2 tyX2_ok nmX2 0 2 rfl rfl rfl (by decide) flX2_20 rfl rfl rfl rfl (Nat.le_of_ble_eq_true rfl) ([nX2 cI cZ cQ h_t (hkf h_k0 h_k1 h_k2 h_k3 h_k4 h_k5 h_k6 h_k7) p54_t, nX8 cI cZ cQ h_k0 u_k0, nX8 cI cZ cQ h_k1 u_k1, nX8 cI cZ cQ h_k2 u_k2, nX8 cI cZ cQ h_k3 u_k3, nX8 cI cZ cQ h_k4 u_k4, nX8 cI cZ cQ h_k5 u_k5, nX8 cI cZ cQ h_k6 u_k6, nX8 cI cZ cQ h_k7 u_k7, nX8 cI cZ cQ h_o p39_o]) (by rw [ep54_t]; rfl) dX2_restore_54 ?_
        obtain ⟨g0, g1⟩ := qe2 hf
        exact r_vret2 O E (by rw [g0, g1]) dX2_restore_57
      · rw [if_pos hc33] at hf
        obtain ⟨g0, g1⟩ := qe2 hf
        exact r_vret2 O E (by rw [g0, g1]) dX2_restore_36
    rw [if_neg hc21_3] at hf
    by_cases hc21_4 : z0 = 4
    · rw [if_pos hc21_4] at hf
      rw [show va_rf (fX2_placeAt (hkf h_k0 h_k1 h_k2 h_k3 h_k4 h_k5 h_k6 h_k7) z0) = Value.ref (h_k4 0) from by rw [hc21_4]; rfl]
      refine r_ast_n O 25 rfl rfl [(3, .ref (h_k4 0)), (2, .int z0), (0, .ref (h_t 0)), (1, .ref (h_o 0))] dX2_restore_24 (by decide) rfl ?_
      refine r_ald_n O 26 rfl 0 rfl dX2_restore_25 ?_
      refine r_ifnull O 29 rfl dX2_restore_26 ?_
      refine r_ald_n O 30 rfl 2 rfl dX2_restore_29 ?_
      refine r_get (ref := RX2) (C := RX2) (T := TX2) (N := 3) O 33 rfl inBX2 0 2 rfl rfl rfl (by decide) flX2_20 rfl rfl dX2_restore_30 ?_
      refine r_if_ne O 36 rfl 37 dX2_restore_33 (by decide) (fun hc33 => ?_) (fun hc33 => ?_)
      · rw [if_neg hc33] at hf
        refine r_ald_n O 38 rfl 3 rfl dX2_restore_37 ?_
        refine r_ald_n O 39 rfl 0 rfl dX2_restore_38 ?_
        obtain ⟨p39_o, hq39, hf⟩ := qb1_some hf
        refine k_VV O 42 rfl (zX8_copyFrom (l := xl X) (D := xD X) (cI := cI) (cZ := cZ) (cQ := cQ) (h_t := h_o) (h_o := h_k4) hq39) (gV mlX2_27 mvX8_copyFrom izX8) rfl rfl rfl hdX8_copyFrom ⟨Nat.le_of_ble_eq_true rfl, Nat.le_of_ble_eq_true rfl⟩ rfl 9 rfl rfl rfl rfl (Nat.le_of_ble_eq_true rfl) ⟨Nat.zero_le _, Nat.zero_le _⟩ [9, 5] rfl rfl rfl ([nX2 cI cZ cQ h_t (hkf h_k0 h_k1 h_k2 h_k3 h_k4 h_k5 h_k6 h_k7) w_t, nX8 cI cZ cQ h_k0 u_k0, nX8 cI cZ cQ h_k1 u_k1, nX8 cI cZ cQ h_k2 u_k2, nX8 cI cZ cQ h_k3 u_k3, nX8 cI cZ cQ h_k4 u_k4, nX8 cI cZ cQ h_k5 u_k5, nX8 cI cZ cQ h_k6 u_k6, nX8 cI cZ cQ h_k7 u_k7, nX8 cI cZ cQ h_o p39_o]) rfl dX2_restore_39 ?_
        refine r_ald_n O 43 rfl 2 rfl dX2_restore_42 ?_
        refine r_ild_n O 44 rfl 1 rfl dX2_restore_43 ?_
        obtain ⟨p44_t, ep44_t, hf⟩ := qn_some hf
        refine r_put (ref := RX2) (C := RX2) (T := TX2) (N := 3) O 47 rfl inBX2 tyX2 tyX2_ok nmX2 0 1 rfl rfl rfl (by decide) flX2_16 rfl rfl rfl rfl (Nat.le_of_ble_eq_true rfl) ([nX2 cI cZ cQ h_t (hkf h_k0 h_k1 h_k2 h_k3 h_k4 h_k5 h_k6 h_k7) p44_t, nX8 cI cZ cQ h_k0 u_k0, nX8 cI cZ cQ h_k1 u_k1, nX8 cI cZ cQ h_k2 u_k2, nX8 cI cZ cQ h_k3 u_k3, nX8 cI cZ cQ h_k4 u_k4, nX8 cI cZ cQ h_k5 u_k5, nX8 cI cZ cQ h_k6 u_k6, nX8 cI cZ cQ h_k7 u_k7, nX8 cI cZ cQ h_o p39_o]) (by rw [ep44_t]; rfl) dX2_restore_44 ?_
        refine r_ald_n O 48 rfl 2 rfl dX2_restore_47 ?_
        refine r_dup O 49 rfl dX2_restore_48 rfl ?_
        refine r_get (ref := RX2) (C := RX2) (T := TX2) (N := 3) O 52 rfl inBX2 0 2 rfl rfl rfl (by decide) flX2_20 rfl rfl dX2_restore_49 ?_
        refine r_ic O 53 rfl 1 (by decide) dX2_restore_52 ?_
        refine r_isub O 54 rfl dX2_restore_53 ?_
        obtain ⟨p54_t, ep54_t, hf⟩ := qn_some hf
        refine r_put (ref := RX2) (C := RX2) (T := TX2) (N := 3) O 57 rfl inBX2 tyX2 tyX2_ok nmX2 0 2 rfl rfl rfl (by decide) flX2_20 rfl rfl rfl rfl (Nat.le_of_ble_eq_true rfl) ([nX2 cI cZ cQ h_t (hkf h_k0 h_k1 h_k2 h_k3 h_k4 h_k5 h_k6 h_k7) p54_t, nX8 cI cZ cQ h_k0 u_k0, nX8 cI cZ cQ h_k1 u_k1, nX8 cI cZ cQ h_k2 u_k2, nX8 cI cZ cQ h_k3 u_k3, nX8 cI cZ cQ h_k4 u_k4, nX8 cI cZ cQ h_k5 u_k5, nX8 cI cZ cQ h_k6 u_k6, nX8 cI cZ cQ h_k7 u_k7, nX8 cI cZ cQ h_o p39_o]) (by rw [ep54_t]; rfl) dX2_restore_54 ?_
        obtain ⟨g0, g1⟩ := qe2 hf
        exact r_vret2 O E (by rw [g0, g1]) dX2_restore_57
      · rw [if_pos hc33] at hf
        obtain ⟨g0, g1⟩ := qe2 hf
        exact r_vret2 O E (by rw [g0, g1]) dX2_restore_36
    rw [if_neg hc21_4] at hf
    by_cases hc21_5 : z0 = 5
    · rw [if_pos hc21_5] at hf
      rw [show va_rf (fX2_placeAt (hkf h_k0 h_k1 h_k2 h_k3 h_k4 h_k5 h_k6 h_k7) z0) = Value.ref (h_k5 0) from by rw [hc21_5]; rfl]
      refine r_ast_n O 25 rfl rfl [(3, .ref (h_k5 0)), (2, .int z0), (0, .ref (h_t 0)), (1, .ref (h_o 0))] dX2_restore_24 (by decide) rfl ?_
      refine r_ald_n O 26 rfl 0 rfl dX2_restore_25 ?_
      refine r_ifnull O 29 rfl dX2_restore_26 ?_
      refine r_ald_n O 30 rfl 2 rfl dX2_restore_29 ?_
      refine r_get (ref := RX2) (C := RX2) (T := TX2) (N := 3) O 33 rfl inBX2 0 2 rfl rfl rfl (by decide) flX2_20 rfl rfl dX2_restore_30 ?_
      refine r_if_ne O 36 rfl 37 dX2_restore_33 (by decide) (fun hc33 => ?_) (fun hc33 => ?_)
      · rw [if_neg hc33] at hf
        refine r_ald_n O 38 rfl 3 rfl dX2_restore_37 ?_
        refine r_ald_n O 39 rfl 0 rfl dX2_restore_38 ?_
        obtain ⟨p39_o, hq39, hf⟩ := qb1_some hf
        refine k_VV O 42 rfl (zX8_copyFrom (l := xl X) (D := xD X) (cI := cI) (cZ := cZ) (cQ := cQ) (h_t := h_o) (h_o := h_k5) hq39) (gV mlX2_27 mvX8_copyFrom izX8) rfl rfl rfl hdX8_copyFrom ⟨Nat.le_of_ble_eq_true rfl, Nat.le_of_ble_eq_true rfl⟩ rfl 9 rfl rfl rfl rfl (Nat.le_of_ble_eq_true rfl) ⟨Nat.zero_le _, Nat.zero_le _⟩ [9, 6] rfl rfl rfl ([nX2 cI cZ cQ h_t (hkf h_k0 h_k1 h_k2 h_k3 h_k4 h_k5 h_k6 h_k7) w_t, nX8 cI cZ cQ h_k0 u_k0, nX8 cI cZ cQ h_k1 u_k1, nX8 cI cZ cQ h_k2 u_k2, nX8 cI cZ cQ h_k3 u_k3, nX8 cI cZ cQ h_k4 u_k4, nX8 cI cZ cQ h_k5 u_k5, nX8 cI cZ cQ h_k6 u_k6, nX8 cI cZ cQ h_k7 u_k7, nX8 cI cZ cQ h_o p39_o]) rfl dX2_restore_39 ?_
        refine r_ald_n O 43 rfl 2 rfl dX2_restore_42 ?_
        refine r_ild_n O 44 rfl 1 rfl dX2_restore_43 ?_
        obtain ⟨p44_t, ep44_t, hf⟩ := qn_some hf
        refine r_put (ref := RX2) (C := RX2) (T := TX2) (N := 3) O 47 rfl inBX2 tyX2 tyX2_ok nmX2 0 1 rfl rfl rfl (by decide) flX2_16 rfl rfl rfl rfl (Nat.le_of_ble_eq_true rfl) ([nX2 cI cZ cQ h_t (hkf h_k0 h_k1 h_k2 h_k3 h_k4 h_k5 h_k6 h_k7) p44_t, nX8 cI cZ cQ h_k0 u_k0, nX8 cI cZ cQ h_k1 u_k1, nX8 cI cZ cQ h_k2 u_k2, nX8 cI cZ cQ h_k3 u_k3, nX8 cI cZ cQ h_k4 u_k4, nX8 cI cZ cQ h_k5 u_k5, nX8 cI cZ cQ h_k6 u_k6, nX8 cI cZ cQ h_k7 u_k7, nX8 cI cZ cQ h_o p39_o]) (by rw [ep44_t]; rfl) dX2_restore_44 ?_
        refine r_ald_n O 48 rfl 2 rfl dX2_restore_47 ?_
        refine r_dup O 49 rfl dX2_restore_48 rfl ?_
        refine r_get (ref := RX2) (C := RX2) (T := TX2) (N := 3) O 52 rfl inBX2 0 2 rfl rfl rfl (by decide) flX2_20 rfl rfl dX2_restore_49 ?_
        refine r_ic O 53 rfl 1 (by decide) dX2_restore_52 ?_
        refine r_isub O 54 rfl dX2_restore_53 ?_
        obtain ⟨p54_t, ep54_t, hf⟩ := qn_some hf
        refine r_put (ref := RX2) (C := RX2) (T := TX2) (N := 3) O 57 rfl inBX2 tyX2 tyX2_ok nmX2 0 2 rfl rfl rfl (by decide) flX2_20 rfl rfl rfl rfl (Nat.le_of_ble_eq_true rfl) ([nX2 cI cZ cQ h_t (hkf h_k0 h_k1 h_k2 h_k3 h_k4 h_k5 h_k6 h_k7) p54_t, nX8 cI cZ cQ h_k0 u_k0, nX8 cI cZ cQ h_k1 u_k1, nX8 cI cZ cQ h_k2 u_k2, nX8 cI cZ cQ h_k3 u_k3, nX8 cI cZ cQ h_k4 u_k4, nX8 cI cZ cQ h_k5 u_k5, nX8 cI cZ cQ h_k6 u_k6, nX8 cI cZ cQ h_k7 u_k7, nX8 cI cZ cQ h_o p39_o]) (by rw [ep54_t]; rfl) dX2_restore_54 ?_
        obtain ⟨g0, g1⟩ := qe2 hf
        exact r_vret2 O E (by rw [g0, g1]) dX2_restore_57
      · rw [if_pos hc33] at hf
        obtain ⟨g0, g1⟩ := qe2 hf
        exact r_vret2 O E (by rw [g0, g1]) dX2_restore_36
    rw [if_neg hc21_5] at hf
    by_cases hc21_6 : z0 = 6
    · rw [if_pos hc21_6] at hf
      rw [show va_rf (fX2_placeAt (hkf h_k0 h_k1 h_k2 h_k3 h_k4 h_k5 h_k6 h_k7) z0) = Value.ref (h_k6 0) from by rw [hc21_6]; rfl]
      refine r_ast_n O 25 rfl rfl [(3, .ref (h_k6 0)), (2, .int z0), (0, .ref (h_t 0)), (1, .ref (h_o 0))] dX2_restore_24 (by decide) rfl ?_
      refine r_ald_n O 26 rfl 0 rfl dX2_restore_25 ?_
      refine r_ifnull O 29 rfl dX2_restore_26 ?_
      refine r_ald_n O 30 rfl 2 rfl dX2_restore_29 ?_
      refine r_get (ref := RX2) (C := RX2) (T := TX2) (N := 3) O 33 rfl inBX2 0 2 rfl rfl rfl (by decide) flX2_20 rfl rfl dX2_restore_30 ?_
      refine r_if_ne O 36 rfl 37 dX2_restore_33 (by decide) (fun hc33 => ?_) (fun hc33 => ?_)
      · rw [if_neg hc33] at hf
        refine r_ald_n O 38 rfl 3 rfl dX2_restore_37 ?_
        refine r_ald_n O 39 rfl 0 rfl dX2_restore_38 ?_
        obtain ⟨p39_o, hq39, hf⟩ := qb1_some hf
        refine k_VV O 42 rfl (zX8_copyFrom (l := xl X) (D := xD X) (cI := cI) (cZ := cZ) (cQ := cQ) (h_t := h_o) (h_o := h_k6) hq39) (gV mlX2_27 mvX8_copyFrom izX8) rfl rfl rfl hdX8_copyFrom ⟨Nat.le_of_ble_eq_true rfl, Nat.le_of_ble_eq_true rfl⟩ rfl 9 rfl rfl rfl rfl (Nat.le_of_ble_eq_true rfl) ⟨Nat.zero_le _, Nat.zero_le _⟩ [9, 7] rfl rfl rfl ([nX2 cI cZ cQ h_t (hkf h_k0 h_k1 h_k2 h_k3 h_k4 h_k5 h_k6 h_k7) w_t, nX8 cI cZ cQ h_k0 u_k0, nX8 cI cZ cQ h_k1 u_k1, nX8 cI cZ cQ h_k2 u_k2, nX8 cI cZ cQ h_k3 u_k3, nX8 cI cZ cQ h_k4 u_k4, nX8 cI cZ cQ h_k5 u_k5, nX8 cI cZ cQ h_k6 u_k6, nX8 cI cZ cQ h_k7 u_k7, nX8 cI cZ cQ h_o p39_o]) rfl dX2_restore_39 ?_
        refine r_ald_n O 43 rfl 2 rfl dX2_restore_42 ?_
        refine r_ild_n O 44 rfl 1 rfl dX2_restore_43 ?_
        obtain ⟨p44_t, ep44_t, hf⟩ := qn_some hf
        refine r_put (ref := RX2) (C := RX2) (T := TX2) (N := 3) O 47 rfl inBX2 tyX2 tyX2_ok nmX2 0 1 rfl rfl rfl (by decide) flX2_16 rfl rfl rfl rfl (Nat.le_of_ble_eq_true rfl) ([nX2 cI cZ cQ h_t (hkf h_k0 h_k1 h_k2 h_k3 h_k4 h_k5 h_k6 h_k7) p44_t, nX8 cI cZ cQ h_k0 u_k0, nX8 cI cZ cQ h_k1 u_k1, nX8 cI cZ cQ h_k2 u_k2, nX8 cI cZ cQ h_k3 u_k3, nX8 cI cZ cQ h_k4 u_k4, nX8 cI cZ cQ h_k5 u_k5, nX8 cI cZ cQ h_k6 u_k6, nX8 cI cZ cQ h_k7 u_k7, nX8 cI cZ cQ h_o p39_o]) (by rw [ep44_t]; rfl) dX2_restore_44 ?_
        refine r_ald_n O 48 rfl 2 rfl dX2_restore_47 ?_
        refine r_dup O 49 rfl dX2_restore_48 rfl ?_
        refine r_get (ref := RX2) (C := RX2) (T := TX2) (N := 3) O 52 rfl inBX2 0 2 rfl rfl rfl (by decide) flX2_20 rfl rfl dX2_restore_49 ?_
        refine r_ic O 53 rfl 1 (by decide) dX2_restore_52 ?_
        refine r_isub O 54 rfl dX2_restore_53 ?_
        obtain ⟨p54_t, ep54_t, hf⟩ := qn_some hf
        refine r_put (ref := RX2) (C := RX2) (T := TX2) (N := 3) O 57 rfl inBX2 tyX2 tyX2_ok nmX2 0 2 rfl rfl rfl (by decide) flX2_20 rfl rfl rfl rfl (Nat.le_of_ble_eq_true rfl) ([nX2 cI cZ cQ h_t (hkf h_k0 h_k1 h_k2 h_k3 h_k4 h_k5 h_k6 h_k7) p54_t, nX8 cI cZ cQ h_k0 u_k0, nX8 cI cZ cQ h_k1 u_k1, nX8 cI cZ cQ h_k2 u_k2, nX8 cI cZ cQ h_k3 u_k3, nX8 cI cZ cQ h_k4 u_k4, nX8 cI cZ cQ h_k5 u_k5, nX8 cI cZ cQ h_k6 u_k6, nX8 cI cZ cQ h_k7 u_k7, nX8 cI cZ cQ h_o p39_o]) (by rw [ep54_t]; rfl) dX2_restore_54 ?_
        obtain ⟨g0, g1⟩ := qe2 hf
        exact r_vret2 O E (by rw [g0, g1]) dX2_restore_57
      · rw [if_pos hc33] at hf
        obtain ⟨g0, g1⟩ := qe2 hf
        exact r_vret2 O E (by rw [g0, g1]) dX2_restore_36
    rw [if_neg hc21_6] at hf
    by_cases hc21_7 : z0 = 7
    · rw [if_pos hc21_7] at hf
      rw [show va_rf (fX2_placeAt (hkf h_k0 h_k1 h_k2 h_k3 h_k4 h_k5 h_k6 h_k7) z0) = Value.ref (h_k7 0) from by rw [hc21_7]; rfl]
      refine r_ast_n O 25 rfl rfl [(3, .ref (h_k7 0)), (2, .int z0), (0, .ref (h_t 0)), (1, .ref (h_o 0))] dX2_restore_24 (by decide) rfl ?_
      refine r_ald_n O 26 rfl 0 rfl dX2_restore_25 ?_
      refine r_ifnull O 29 rfl dX2_restore_26 ?_
      refine r_ald_n O 30 rfl 2 rfl dX2_restore_29 ?_
      refine r_get (ref := RX2) (C := RX2) (T := TX2) (N := 3) O 33 rfl inBX2 0 2 rfl rfl rfl (by decide) flX2_20 rfl rfl dX2_restore_30 ?_
      refine r_if_ne O 36 rfl 37 dX2_restore_33 (by decide) (fun hc33 => ?_) (fun hc33 => ?_)
      · rw [if_neg hc33] at hf
        refine r_ald_n O 38 rfl 3 rfl dX2_restore_37 ?_
        refine r_ald_n O 39 rfl 0 rfl dX2_restore_38 ?_
        obtain ⟨p39_o, hq39, hf⟩ := qb1_some hf
        refine k_VV O 42 rfl (zX8_copyFrom (l := xl X) (D := xD X) (cI := cI) (cZ := cZ) (cQ := cQ) (h_t := h_o) (h_o := h_k7) hq39) (gV mlX2_27 mvX8_copyFrom izX8) rfl rfl rfl hdX8_copyFrom ⟨Nat.le_of_ble_eq_true rfl, Nat.le_of_ble_eq_true rfl⟩ rfl 9 rfl rfl rfl rfl (Nat.le_of_ble_eq_true rfl) ⟨Nat.zero_le _, Nat.zero_le _⟩ [9, 8] rfl rfl rfl ([nX2 cI cZ cQ h_t (hkf h_k0 h_k1 h_k2 h_k3 h_k4 h_k5 h_k6 h_k7) w_t, nX8 cI cZ cQ h_k0 u_k0, nX8 cI cZ cQ h_k1 u_k1, nX8 cI cZ cQ h_k2 u_k2, nX8 cI cZ cQ h_k3 u_k3, nX8 cI cZ cQ h_k4 u_k4, nX8 cI cZ cQ h_k5 u_k5, nX8 cI cZ cQ h_k6 u_k6, nX8 cI cZ cQ h_k7 u_k7, nX8 cI cZ cQ h_o p39_o]) rfl dX2_restore_39 ?_
        refine r_ald_n O 43 rfl 2 rfl dX2_restore_42 ?_
        refine r_ild_n O 44 rfl 1 rfl dX2_restore_43 ?_
        obtain ⟨p44_t, ep44_t, hf⟩ := qn_some hf
        refine r_put (ref := RX2) (C := RX2) (T := TX2) (N := 3) O 47 rfl inBX2 tyX2 tyX2_ok nmX2 0 1 rfl rfl rfl (by decide) flX2_16 rfl rfl rfl rfl (Nat.le_of_ble_eq_true rfl) ([nX2 cI cZ cQ h_t (hkf h_k0 h_k1 h_k2 h_k3 h_k4 h_k5 h_k6 h_k7) p44_t, nX8 cI cZ cQ h_k0 u_k0, nX8 cI cZ cQ h_k1 u_k1, nX8 cI cZ cQ h_k2 u_k2, nX8 cI cZ cQ h_k3 u_k3, nX8 cI cZ cQ h_k4 u_k4, nX8 cI cZ cQ h_k5 u_k5, nX8 cI cZ cQ h_k6 u_k6, nX8 cI cZ cQ h_k7 u_k7, nX8 cI cZ cQ h_o p39_o]) (by rw [ep44_t]; rfl) dX2_restore_44 ?_
        refine r_ald_n O 48 rfl 2 rfl dX2_restore_47 ?_
        refine r_dup O 49 rfl dX2_restore_48 rfl ?_
        refine r_get (ref := RX2) (C := RX2) (T := TX2) (N := 3) O 52 rfl inBX2 0 2 rfl rfl rfl (by decide) flX2_20 rfl rfl dX2_restore_49 ?_
        refine r_ic O 53 rfl 1 (by decide) dX2_restore_52 ?_
        refine r_isub O 54 rfl dX2_restore_53 ?_
        obtain ⟨p54_t, ep54_t, hf⟩ := qn_some hf
        refine r_put (ref := RX2) (C := RX2) (T := TX2) (N := 3) O 57 rfl inBX2 tyX2 tyX2_ok nmX2 0 2 rfl rfl rfl (by decide) flX2_20 rfl rfl rfl rfl (Nat.le_of_ble_eq_true rfl) ([nX2 cI cZ cQ h_t (hkf h_k0 h_k1 h_k2 h_k3 h_k4 h_k5 h_k6 h_k7) p54_t, nX8 cI cZ cQ h_k0 u_k0, nX8 cI cZ cQ h_k1 u_k1, nX8 cI cZ cQ h_k2 u_k2, nX8 cI cZ cQ h_k3 u_k3, nX8 cI cZ cQ h_k4 u_k4, nX8 cI cZ cQ h_k5 u_k5, nX8 cI cZ cQ h_k6 u_k6, nX8 cI cZ cQ h_k7 u_k7, nX8 cI cZ cQ h_o p39_o]) (by rw [ep54_t]; rfl) dX2_restore_54 ?_
        obtain ⟨g0, g1⟩ := qe2 hf
        exact r_vret2 O E (by rw [g0, g1]) dX2_restore_57
      · rw [if_pos hc33] at hf
        obtain ⟨g0, g1⟩ := qe2 hf
        exact r_vret2 O E (by rw [g0, g1]) dX2_restore_36
    rw [if_neg hc21_7] at hf
    rw [show va_rf (fX2_placeAt (hkf h_k0 h_k1 h_k2 h_k3 h_k4 h_k5 h_k6 h_k7) z0) = Value.null from by rw [plc_none hc21_0 hc21_1 hc21_2 hc21_3 hc21_4 hc21_5 hc21_6 hc21_7]; rfl]
    refine r_astN_n O 25 rfl rfl [(3, .null), (2, .int z0), (0, .ref (h_t 0)), (1, .ref (h_o 0))] dX2_restore_24 (by decide) rfl ?_
    refine r_aldN_n O 26 rfl 0 rfl dX2_restore_25 ?_
    refine r_ifnullN O 36 dX2_restore_26 (by decide) ?_
    obtain ⟨g0, g1⟩ := qe2 hf
    exact r_vret2 O E (by rw [g0, g1]) dX2_restore_36
  unfold fX2_restore at hf
  refine r_ald_n O 1 rfl 0 rfl dX2_restore_0 ?_
  refine r_get (ref := RX2) (C := RX2) (T := TX2) (N := 3) O 4 rfl inBX2 0 1 rfl rfl rfl (by decide) flX2_16 rfl rfl dX2_restore_1 ?_
  refine r_if_le O 7 rfl 16 dX2_restore_4 (by decide) (fun hc4 => ?_) (fun hc4 => ?_)
  · rw [if_pos hc4] at hf
    refine r_bi O 18 rfl 7 (by decide) dX2_restore_16 ?_
    exact B18 _ _ _ hf
  · rw [if_neg hc4] at hf
    refine r_ald_n O 8 rfl 0 rfl dX2_restore_7 ?_
    refine r_get (ref := RX2) (C := RX2) (T := TX2) (N := 3) O 11 rfl inBX2 0 1 rfl rfl rfl (by decide) flX2_16 rfl rfl dX2_restore_8 ?_
    refine r_ic O 12 rfl 1 (by decide) dX2_restore_11 ?_
    refine r_isub O 13 rfl dX2_restore_12 ?_
    refine r_goto O 18 dX2_restore_13 (by decide) ?_
    exact B18 _ _ _ hf
-- X3_wall
def rmX3_wall : Room := { frames := 0, cells := 0, slots := 0, locals := 0 }
set_option maxHeartbeats 4000000 in
set_option maxRecDepth 100000 in
theorem zX3_wall {l : Launch} {D : va_G} {cI cZ cQ : ClassId} {h_t : Nat → Nat} {r_w : Nat} {u_t : Pk} {r0 : Int32} (hf : fX3_wall u_t = some r0) : MI l yX3_wall wsX3_wall rmX3_wall D (TY cI cZ cQ) [.ref (h_t 0)] [nX3 cI cZ cQ h_t r_w u_t] r0 [nX3 cI cZ cQ h_t r_w u_t] := by
  refine MI.of (own := RX3) (by decide +kernel) rfl rfl (Nat.le_of_ble_eq_true rfl) (lv0 := [(0, .ref (h_t 0))]) rfl ?_
  intro X O E
  unfold fX3_wall at hf
  refine r_ald_n O 1 rfl 0 rfl dX3_wall_0 ?_
  refine r_get (ref := RX3) (C := RX3) (T := TX3) (N := 4) O 4 rfl inBX3 0 1 rfl rfl rfl (by decide) flX3_9 rfl rfl dX3_wall_1 ?_
  obtain g0 := qe1 hf
  exact r_iret2 O E g0 rfl dX3_wall_4
-- X3_top
def rmX3_top : Room := { frames := 0, cells := 0, slots := 0, locals := 0 }
set_option maxHeartbeats 4000000 in
set_option maxRecDepth 100000 in
theorem zX3_top {l : Launch} {D : va_G} {cI cZ cQ : ClassId} {h_t : Nat → Nat} {r_w : Nat} {u_t : Pk} {r0 : Int64} (hf : fX3_top u_t = some r0) : ML l yX3_top wsX3_top rmX3_top D (TY cI cZ cQ) [.ref (h_t 0)] [nX3 cI cZ cQ h_t r_w u_t] r0 [nX3 cI cZ cQ h_t r_w u_t] := by
  refine ML.of (own := RX3) (by decide +kernel) rfl rfl (Nat.le_of_ble_eq_true rfl) (lv0 := [(0, .ref (h_t 0))]) rfl ?_
  intro X O E
  unfold fX3_top at hf
  refine r_ald_n O 1 rfl 0 rfl dX3_top_0 ?_
  refine r_get (ref := RX3) (C := RX3) (T := TX3) (N := 4) O 4 rfl inBX3 0 2 rfl rfl rfl (by decide) flX3_15 rfl rfl dX3_top_1 ?_
  obtain g0 := qe1 hf
  exact r_lret2 O E g0 rfl dX3_top_4
-- X3_bottom
def rmX3_bottom : Room := { frames := 0, cells := 0, slots := 0, locals := 0 }
set_option maxHeartbeats 4000000 in
set_option maxRecDepth 100000 in
theorem zX3_bottom {l : Launch} {D : va_G} {cI cZ cQ : ClassId} {h_t : Nat → Nat} {r_w : Nat} {u_t : Pk} {r0 : Int64} (hf : fX3_bottom u_t = some r0) : ML l yX3_bottom wsX3_bottom rmX3_bottom D (TY cI cZ cQ) [.ref (h_t 0)] [nX3 cI cZ cQ h_t r_w u_t] r0 [nX3 cI cZ cQ h_t r_w u_t] := by
  refine ML.of (own := RX3) (by decide +kernel) rfl rfl (Nat.le_of_ble_eq_true rfl) (lv0 := [(0, .ref (h_t 0))]) rfl ?_
  intro X O E
  unfold fX3_bottom at hf
  refine r_ald_n O 1 rfl 0 rfl dX3_bottom_0 ?_
  refine r_get (ref := RX3) (C := RX3) (T := TX3) (N := 4) O 4 rfl inBX3 0 3 rfl rfl rfl (by decide) flX3_19 rfl rfl dX3_bottom_1 ?_
  obtain g0 := qe1 hf
  exact r_lret2 O E g0 rfl dX3_bottom_4
-- X3_along
def rmX3_along : Room := { frames := 1, cells := 0, slots := 0, locals := 21 }
set_option maxHeartbeats 4000000 in
set_option maxRecDepth 100000 in
theorem zX3_along {l : Launch} {D : va_G} {cI cZ cQ : ClassId} {h_t h_w : Nat → Nat} {u_t u_w : Pk} {a1 : Int32} {a2 : Int32} {a3 : Int32} {r0 : Int64} (hf : fX3_along u_t u_w a1 a2 a3 = some r0) : ML l yX3_along wsX3_along rmX3_along D (TY cI cZ cQ) [.ref (h_t 0), .int a1, .int a2, .int a3] [nX3 cI cZ cQ h_t (h_w 0) u_t, nX8 cI cZ cQ h_w u_w] r0 [nX3 cI cZ cQ h_t (h_w 0) u_t, nX8 cI cZ cQ h_w u_w] := by
  refine ML.of (own := RX3) (by decide +kernel) rfl rfl (Nat.le_of_ble_eq_true rfl) (lv0 := [(0, .ref (h_t 0)), (1, .int a1), (2, .int a2), (3, .int a3)]) rfl ?_
  intro X O E
  unfold fX3_along at hf
  refine r_ald_n O 1 rfl 0 rfl dX3_along_0 ?_
  refine r_get (ref := RX3) (C := RX3) (T := TX3) (N := 4) O 4 rfl inBX3 0 0 rfl rfl rfl (by decide) flX3_22 rfl rfl dX3_along_1 ?_
  refine r_ild_n O 5 rfl 1 rfl dX3_along_4 ?_
  obtain ⟨x5, hq5, hf⟩ := qb1_some hf
  refine k_VI O 8 rfl (zX8_wayX (l := xl X) (D := xD X) (cI := cI) (cZ := cZ) (cQ := cQ) (h_t := h_w) hq5) (gV mlX3_68 mvX8_wayX izX8) rfl rfl rfl hdX8_wayX ⟨Nat.le_of_ble_eq_true rfl, Nat.le_of_ble_eq_true rfl⟩ rfl 1 rfl rfl rfl rfl (Nat.le_of_ble_eq_true rfl) ⟨Nat.zero_le _, Nat.zero_le _⟩ [1] rfl rfl rfl ([nX3 cI cZ cQ h_t (h_w 0) u_t, nX8 cI cZ cQ h_w u_w]) rfl dX3_along_5 ?_
  refine r_ild_n O 9 rfl 2 rfl dX3_along_8 ?_
  refine r_ald_n O 10 rfl 0 rfl dX3_along_9 ?_
  refine r_get (ref := RX3) (C := RX3) (T := TX3) (N := 4) O 13 rfl inBX3 0 0 rfl rfl rfl (by decide) flX3_22 rfl rfl dX3_along_10 ?_
  refine r_ild_n O 14 rfl 1 rfl dX3_along_13 ?_
  obtain ⟨x14, hq14, hf⟩ := qb1_some hf
  refine k_VI O 17 rfl (zX8_startX (l := xl X) (D := xD X) (cI := cI) (cZ := cZ) (cQ := cQ) (h_t := h_w) hq14) (gV mlX3_44 mvX8_startX izX8) rfl rfl rfl hdX8_startX ⟨Nat.le_of_ble_eq_true rfl, Nat.le_of_ble_eq_true rfl⟩ rfl 1 rfl rfl rfl rfl (Nat.le_of_ble_eq_true rfl) ⟨Nat.zero_le _, Nat.zero_le _⟩ [1] rfl rfl rfl ([nX3 cI cZ cQ h_t (h_w 0) u_t, nX8 cI cZ cQ h_w u_w]) rfl dX3_along_14 ?_
  refine r_isub O 18 rfl dX3_along_17 ?_
  refine r_imul O 19 rfl dX3_along_18 ?_
  refine r_ald_n O 20 rfl 0 rfl dX3_along_19 ?_
  refine r_get (ref := RX3) (C := RX3) (T := TX3) (N := 4) O 23 rfl inBX3 0 0 rfl rfl rfl (by decide) flX3_22 rfl rfl dX3_along_20 ?_
  refine r_ild_n O 24 rfl 1 rfl dX3_along_23 ?_
  obtain ⟨x24, hq24, hf⟩ := qb1_some hf
  refine k_VI O 27 rfl (zX8_wayY (l := xl X) (D := xD X) (cI := cI) (cZ := cZ) (cQ := cQ) (h_t := h_w) hq24) (gV mlX3_71 mvX8_wayY izX8) rfl rfl rfl hdX8_wayY ⟨Nat.le_of_ble_eq_true rfl, Nat.le_of_ble_eq_true rfl⟩ rfl 1 rfl rfl rfl rfl (Nat.le_of_ble_eq_true rfl) ⟨Nat.zero_le _, Nat.zero_le _⟩ [1] rfl rfl rfl ([nX3 cI cZ cQ h_t (h_w 0) u_t, nX8 cI cZ cQ h_w u_w]) rfl dX3_along_24 ?_
  refine r_ild_n O 28 rfl 3 rfl dX3_along_27 ?_
  refine r_ald_n O 29 rfl 0 rfl dX3_along_28 ?_
  refine r_get (ref := RX3) (C := RX3) (T := TX3) (N := 4) O 32 rfl inBX3 0 0 rfl rfl rfl (by decide) flX3_22 rfl rfl dX3_along_29 ?_
  refine r_ild_n O 33 rfl 1 rfl dX3_along_32 ?_
  obtain ⟨x33, hq33, hf⟩ := qb1_some hf
  refine k_VI O 36 rfl (zX8_startY (l := xl X) (D := xD X) (cI := cI) (cZ := cZ) (cQ := cQ) (h_t := h_w) hq33) (gV mlX3_47 mvX8_startY izX8) rfl rfl rfl hdX8_startY ⟨Nat.le_of_ble_eq_true rfl, Nat.le_of_ble_eq_true rfl⟩ rfl 1 rfl rfl rfl rfl (Nat.le_of_ble_eq_true rfl) ⟨Nat.zero_le _, Nat.zero_le _⟩ [1] rfl rfl rfl ([nX3 cI cZ cQ h_t (h_w 0) u_t, nX8 cI cZ cQ h_w u_w]) rfl dX3_along_33 ?_
  refine r_isub O 37 rfl dX3_along_36 ?_
  refine r_imul O 38 rfl dX3_along_37 ?_
  refine r_iadd O 39 rfl dX3_along_38 ?_
  refine r_i2l O 40 rfl dX3_along_39 ?_
  obtain g0 := qe1 hf
  exact r_lret2 O E g0 rfl dX3_along_40
-- X3_offer
def rmX3_offer : Room := { frames := 0, cells := 0, slots := 0, locals := 0 }
set_option maxHeartbeats 4000000 in
set_option maxRecDepth 100000 in
theorem zX3_offer {l : Launch} {D : va_G} {cI cZ cQ : ClassId} {h_t : Nat → Nat} {r_w : Nat} {u_t : Pk} {a1 : Int32} {a2 : Int64} {a3 : Int64} {v_t : Pk} (hf : fX3_offer u_t a1 a2 a3 = some v_t) : MV l yX3_offer wsX3_offer rmX3_offer D (TY cI cZ cQ) [.ref (h_t 0), .int a1, .long a2, .long a3] [nX3 cI cZ cQ h_t r_w u_t] [nX3 cI cZ cQ h_t r_w v_t] := by
  refine MV.of (own := RX3) (by decide +kernel) rfl rfl (Nat.le_of_ble_eq_true rfl) (lv0 := [(0, .ref (h_t 0)), (1, .int a1), (2, .long a2), (4, .long a3)]) rfl ?_
  intro X O E
  have B26 : ∀ (w_t : Pk) (y1 : Int32) (y2 : Int64) (y4 : Int64), fX3_offer_b26 w_t y1 y2 y4 = some v_t → BK X 6 0 0 26 ([nX3 cI cZ cQ h_t r_w w_t]) [(0, .ref (h_t 0)), (1, .int y1), (2, .long y2), (4, .long y4)] [] := by
    intro w_t y1 y2 y4 hf
    unfold fX3_offer_b26 at hf
    refine r_ald_n O 27 rfl 0 rfl dX3_offer_26 ?_
    refine r_ild_n O 28 rfl 1 rfl dX3_offer_27 ?_
    obtain ⟨p28_t, ep28_t, hf⟩ := qn_some hf
    refine r_put (ref := RX3) (C := RX3) (T := TX3) (N := 4) O 31 rfl inBX3 tyX3 tyX3_ok nmX3 0 1 rfl rfl rfl (by decide) flX3_9 rfl rfl rfl rfl (Nat.le_of_ble_eq_true rfl) ([nX3 cI cZ cQ h_t r_w p28_t]) (by rw [ep28_t]; rfl) dX3_offer_28 ?_
    refine r_ald_n O 32 rfl 0 rfl dX3_offer_31 ?_
    refine r_lld_n O 33 rfl 2 rfl dX3_offer_32 ?_
    obtain ⟨p33_t, ep33_t, hf⟩ := qn_some hf
    refine r_put (ref := RX3) (C := RX3) (T := TX3) (N := 4) O 36 rfl inBX3 tyX3 tyX3_ok nmX3 0 2 rfl rfl rfl (by decide) flX3_15 rfl rfl rfl rfl (Nat.le_of_ble_eq_true rfl) ([nX3 cI cZ cQ h_t r_w p33_t]) (by rw [ep33_t]; rfl) dX3_offer_33 ?_
    refine r_ald_n O 37 rfl 0 rfl dX3_offer_36 ?_
    refine r_lld O 39 rfl 3 rfl dX3_offer_37 ?_
    obtain ⟨p39_t, ep39_t, hf⟩ := qn_some hf
    refine r_put (ref := RX3) (C := RX3) (T := TX3) (N := 4) O 42 rfl inBX3 tyX3 tyX3_ok nmX3 0 3 rfl rfl rfl (by decide) flX3_19 rfl rfl rfl rfl (Nat.le_of_ble_eq_true rfl) ([nX3 cI cZ cQ h_t r_w p39_t]) (by rw [ep39_t]; rfl) dX3_offer_39 ?_
    obtain g0 := qe1 hf
    exact r_vret2 O E (by rw [g0]) dX3_offer_42
  unfold fX3_offer at hf
  refine r_ald_n O 1 rfl 0 rfl dX3_offer_0 ?_
  refine r_get (ref := RX3) (C := RX3) (T := TX3) (N := 4) O 4 rfl inBX3 0 1 rfl rfl rfl (by decide) flX3_9 rfl rfl dX3_offer_1 ?_
  refine r_bi O 6 rfl (-8) (by decide) dX3_offer_4 ?_
  refine r_icmp_eq O 9 rfl 26 dX3_offer_6 (by decide) (fun hc6 => ?_) (fun hc6 => ?_)
  · rw [if_pos hc6] at hf
    exact B26 _ _ _ _ hf
  · rw [if_neg hc6] at hf
    refine r_lld_n O 10 rfl 2 rfl dX3_offer_9 ?_
    refine r_ald_n O 11 rfl 0 rfl dX3_offer_10 ?_
    refine r_get (ref := RX3) (C := RX3) (T := TX3) (N := 4) O 14 rfl inBX3 0 3 rfl rfl rfl (by decide) flX3_19 rfl rfl dX3_offer_11 ?_
    refine r_lmul O 15 rfl dX3_offer_14 ?_
    refine r_ald_n O 16 rfl 0 rfl dX3_offer_15 ?_
    refine r_get (ref := RX3) (C := RX3) (T := TX3) (N := 4) O 19 rfl inBX3 0 2 rfl rfl rfl (by decide) flX3_15 rfl rfl dX3_offer_16 ?_
    refine r_lld O 21 rfl 3 rfl dX3_offer_19 ?_
    refine r_lmul O 22 rfl dX3_offer_21 ?_
    refine r_lcmp O 23 rfl dX3_offer_22 ?_
    refine r_if_ge O 26 rfl 42 dX3_offer_23 (by decide) (fun hc23 => ?_) (fun hc23 => ?_)
    · rw [if_pos hc23] at hf
      obtain g0 := qe1 hf
      exact r_vret2 O E (by rw [g0]) dX3_offer_42
    · rw [if_neg hc23] at hf
      exact B26 _ _ _ _ hf
-- X3_squaredWay
def rmX3_squaredWay : Room := { frames := 0, cells := 0, slots := 0, locals := 0 }
set_option maxHeartbeats 4000000 in
set_option maxRecDepth 100000 in
theorem zX3_squaredWay {l : Launch} {D : va_G} {cI cZ cQ : ClassId} {a1 : Int32} {a2 : Int32} {r0 : Int64} (hf : fX3_squaredWay a1 a2 = some r0) : ML l yX3_squaredWay wsX3_squaredWay rmX3_squaredWay D (TY cI cZ cQ) [.int a1, .int a2] [] r0 [] := by
  refine ML.of (own := RX3) (by decide +kernel) rfl rfl (Nat.le_of_ble_eq_true rfl) (lv0 := [(0, .int a1), (1, .int a2)]) rfl ?_
  intro X O E
  unfold fX3_squaredWay at hf
  refine r_ild_n O 1 rfl 0 rfl dX3_squaredWay_0 ?_
  refine r_i2l O 2 rfl dX3_squaredWay_1 ?_
  refine r_ild_n O 3 rfl 0 rfl dX3_squaredWay_2 ?_
  refine r_i2l O 4 rfl dX3_squaredWay_3 ?_
  refine r_lmul O 5 rfl dX3_squaredWay_4 ?_
  refine r_ild_n O 6 rfl 1 rfl dX3_squaredWay_5 ?_
  refine r_i2l O 7 rfl dX3_squaredWay_6 ?_
  refine r_ild_n O 8 rfl 1 rfl dX3_squaredWay_7 ?_
  refine r_i2l O 9 rfl dX3_squaredWay_8 ?_
  refine r_lmul O 10 rfl dX3_squaredWay_9 ?_
  refine r_ladd O 11 rfl dX3_squaredWay_10 ?_
  obtain g0 := qe1 hf
  exact r_lret2 O E g0 rfl dX3_squaredWay_11
-- X3_compare
def rmX3_compare : Room := { frames := 2, cells := 0, slots := 0, locals := 44 }
set_option maxHeartbeats 4000000 in
set_option maxRecDepth 100000 in
theorem zX3_compare {l : Launch} {D : va_G} {cI cZ cQ : ClassId} {h_t h_w : Nat → Nat} {u_w u_t : Pk} {a1 : Int32} {a2 : Int32} {a3 : Int32} {v_t : Pk} (hf : fX3_compare u_w u_t a1 a2 a3 = some v_t) : MV l yX3_compare wsX3_compare rmX3_compare D (TY cI cZ cQ) [.ref (h_t 0), .int a1, .int a2, .int a3] [nX3 cI cZ cQ h_t (h_w 0) u_t, nX8 cI cZ cQ h_w u_w] [nX3 cI cZ cQ h_t (h_w 0) v_t, nX8 cI cZ cQ h_w u_w] := by
  refine MV.of (own := RX3) (by decide +kernel) rfl rfl (Nat.le_of_ble_eq_true rfl) (lv0 := [(0, .ref (h_t 0)), (1, .int a1), (2, .int a2), (3, .int a3)]) rfl ?_
  intro X O E
  unfold fX3_compare at hf
  refine r_ald_n O 1 rfl 0 rfl dX3_compare_0 ?_
  refine r_get (ref := RX3) (C := RX3) (T := TX3) (N := 4) O 4 rfl inBX3 0 0 rfl rfl rfl (by decide) flX3_22 rfl rfl dX3_compare_1 ?_
  refine r_ild_n O 5 rfl 1 rfl dX3_compare_4 ?_
  obtain ⟨x5, hq5, hf⟩ := qb1_some hf
  refine k_VI O 8 rfl (zX8_squaredLength (l := xl X) (D := xD X) (cI := cI) (cZ := cZ) (cQ := cQ) (h_t := h_w) hq5) (gV mlX3_36 mvX8_squaredLength izX8) rfl rfl rfl hdX8_squaredLength ⟨Nat.le_of_ble_eq_true rfl, Nat.le_of_ble_eq_true rfl⟩ rfl 1 rfl rfl rfl rfl (Nat.le_of_ble_eq_true rfl) ⟨Nat.zero_le _, Nat.zero_le _⟩ [1] rfl rfl rfl ([nX3 cI cZ cQ h_t (h_w 0) u_t, nX8 cI cZ cQ h_w u_w]) rfl dX3_compare_5 ?_
  refine r_i2l O 9 rfl dX3_compare_8 ?_
  obtain ⟨x9, ex9, hf⟩ := qn_some hf
  rw [← ex9]
  refine r_lst O 11 rfl [(4, .long x9), (0, .ref (h_t 0)), (1, .int a1), (2, .int a2), (3, .int a3)] dX3_compare_9 (by decide) rfl ?_
  refine r_ald_n O 12 rfl 1 rfl dX3_compare_11 ?_
  refine r_ild_n O 13 rfl 2 rfl dX3_compare_12 ?_
  refine r_ild_n O 14 rfl 3 rfl dX3_compare_13 ?_
  refine r_ild_n O 15 rfl 4 rfl dX3_compare_14 ?_
  obtain ⟨x15, hq15, hf⟩ := qb1_some hf
  refine k_VL O 18 rfl (zX3_along (l := xl X) (D := xD X) (cI := cI) (cZ := cZ) (cQ := cQ) (h_t := h_t) (h_w := h_w) hq15) (gV mlX3_40 mvX3_along izX3) rfl rfl rfl hdX3_along ⟨Nat.le_of_ble_eq_true rfl, Nat.le_of_ble_eq_true rfl⟩ rfl 0 rfl rfl rfl rfl (Nat.le_of_ble_eq_true rfl) ⟨Nat.zero_le _, Nat.zero_le _⟩ [0, 1] rfl rfl rfl ([nX3 cI cZ cQ h_t (h_w 0) u_t, nX8 cI cZ cQ h_w u_w]) rfl dX3_compare_15 ?_
  refine r_lst O 20 rfl [(6, .long x15), (4, .long x9), (0, .ref (h_t 0)), (1, .int a1), (2, .int a2), (3, .int a3)] dX3_compare_18 (by decide) rfl ?_
  refine r_lld O 22 rfl 0 rfl dX3_compare_20 ?_
  refine r_lc O 23 rfl 0 (by decide) dX3_compare_22 ?_
  refine r_lcmp O 24 rfl dX3_compare_23 ?_
  refine r_if_gt O 27 rfl 59 dX3_compare_24 (by decide) (fun hc24 => ?_) (fun hc24 => ?_)
  · rw [if_pos hc24] at hf
    refine r_lld O 61 rfl 0 rfl dX3_compare_59 ?_
    refine r_lld O 63 rfl 1 rfl dX3_compare_61 ?_
    refine r_lcmp O 64 rfl dX3_compare_63 ?_
    refine r_if_lt O 67 rfl 99 dX3_compare_64 (by decide) (fun hc64 => ?_) (fun hc64 => ?_)
    · rw [if_pos hc64] at hf
      refine r_ald_n O 100 rfl 2 rfl dX3_compare_99 ?_
      refine r_get (ref := RX3) (C := RX3) (T := TX3) (N := 4) O 103 rfl inBX3 0 0 rfl rfl rfl (by decide) flX3_22 rfl rfl dX3_compare_100 ?_
      refine r_ild_n O 104 rfl 3 rfl dX3_compare_103 ?_
      refine r_ild_n O 105 rfl 4 rfl dX3_compare_104 ?_
      refine r_ild_n O 106 rfl 5 rfl dX3_compare_105 ?_
      obtain ⟨x106, hq106, hf⟩ := qb1_some hf
      refine k_VI O 109 rfl (zX8_sideValue (l := xl X) (D := xD X) (cI := cI) (cZ := cZ) (cQ := cQ) (h_t := h_w) hq106) (gV mlX3_64 mvX8_sideValue izX8) rfl rfl rfl hdX8_sideValue ⟨Nat.le_of_ble_eq_true rfl, Nat.le_of_ble_eq_true rfl⟩ rfl 1 rfl rfl rfl rfl (Nat.le_of_ble_eq_true rfl) ⟨Nat.zero_le _, Nat.zero_le _⟩ [1] rfl rfl rfl ([nX3 cI cZ cQ h_t (h_w 0) u_t, nX8 cI cZ cQ h_w u_w]) rfl dX3_compare_106 ?_
      refine r_i2l O 110 rfl dX3_compare_109 ?_
      obtain ⟨x110, ex110, hf⟩ := qn_some hf
      rw [← ex110]
      refine r_lst O 112 rfl [(8, .long x110), (6, .long x15), (4, .long x9), (0, .ref (h_t 0)), (1, .int a1), (2, .int a2), (3, .int a3)] dX3_compare_110 (by decide) rfl ?_
      refine r_ald_n O 113 rfl 3 rfl dX3_compare_112 ?_
      refine r_ild_n O 114 rfl 4 rfl dX3_compare_113 ?_
      refine r_lld O 116 rfl 0 rfl dX3_compare_114 ?_
      refine r_lld O 118 rfl 0 rfl dX3_compare_116 ?_
      refine r_lmul O 119 rfl dX3_compare_118 ?_
      refine r_lld O 121 rfl 2 rfl dX3_compare_119 ?_
      obtain ⟨p121_t, hq121, hf⟩ := qb1_some hf
      refine k_VV O 124 rfl (zX3_offer (l := xl X) (D := xD X) (cI := cI) (cZ := cZ) (cQ := cQ) (h_t := h_t) (r_w := (h_w 0)) hq121) (gV mlX3_54 mvX3_offer izX3) rfl rfl rfl hdX3_offer ⟨Nat.le_of_ble_eq_true rfl, Nat.le_of_ble_eq_true rfl⟩ rfl 0 rfl rfl rfl rfl (Nat.le_of_ble_eq_true rfl) ⟨Nat.zero_le _, Nat.zero_le _⟩ [0] rfl rfl rfl ([nX3 cI cZ cQ h_t (h_w 0) p121_t, nX8 cI cZ cQ h_w u_w]) rfl dX3_compare_121 ?_
      obtain g0 := qe1 hf
      exact r_vret2 O E (by rw [g0]) dX3_compare_124
    · rw [if_neg hc64] at hf
      refine r_ald_n O 68 rfl 2 rfl dX3_compare_67 ?_
      refine r_ild_n O 69 rfl 3 rfl dX3_compare_68 ?_
      refine r_ild_n O 70 rfl 4 rfl dX3_compare_69 ?_
      refine r_ald_n O 71 rfl 2 rfl dX3_compare_70 ?_
      refine r_get (ref := RX3) (C := RX3) (T := TX3) (N := 4) O 74 rfl inBX3 0 0 rfl rfl rfl (by decide) flX3_22 rfl rfl dX3_compare_71 ?_
      refine r_ild_n O 75 rfl 3 rfl dX3_compare_74 ?_
      obtain ⟨x75, hq75, hf⟩ := qb1_some hf
      refine k_VI O 78 rfl (zX8_endX (l := xl X) (D := xD X) (cI := cI) (cZ := cZ) (cQ := cQ) (h_t := h_w) hq75) (gV mlX3_58 mvX8_endX izX8) rfl rfl rfl hdX8_endX ⟨Nat.le_of_ble_eq_true rfl, Nat.le_of_ble_eq_true rfl⟩ rfl 1 rfl rfl rfl rfl (Nat.le_of_ble_eq_true rfl) ⟨Nat.zero_le _, Nat.zero_le _⟩ [1] rfl rfl rfl ([nX3 cI cZ cQ h_t (h_w 0) u_t, nX8 cI cZ cQ h_w u_w]) rfl dX3_compare_75 ?_
      refine r_isub O 79 rfl dX3_compare_78 ?_
      refine r_ild_n O 80 rfl 5 rfl dX3_compare_79 ?_
      refine r_ald_n O 81 rfl 2 rfl dX3_compare_80 ?_
      refine r_get (ref := RX3) (C := RX3) (T := TX3) (N := 4) O 84 rfl inBX3 0 0 rfl rfl rfl (by decide) flX3_22 rfl rfl dX3_compare_81 ?_
      refine r_ild_n O 85 rfl 3 rfl dX3_compare_84 ?_
      obtain ⟨x85, hq85, hf⟩ := qb1_some hf
      refine k_VI O 88 rfl (zX8_endY (l := xl X) (D := xD X) (cI := cI) (cZ := cZ) (cQ := cQ) (h_t := h_w) hq85) (gV mlX3_61 mvX8_endY izX8) rfl rfl rfl hdX8_endY ⟨Nat.le_of_ble_eq_true rfl, Nat.le_of_ble_eq_true rfl⟩ rfl 1 rfl rfl rfl rfl (Nat.le_of_ble_eq_true rfl) ⟨Nat.zero_le _, Nat.zero_le _⟩ [1] rfl rfl rfl ([nX3 cI cZ cQ h_t (h_w 0) u_t, nX8 cI cZ cQ h_w u_w]) rfl dX3_compare_85 ?_
      refine r_isub O 89 rfl dX3_compare_88 ?_
      obtain ⟨x89, hq89, hf⟩ := qb1_some hf
      refine k_SL O 92 rfl (zX3_squaredWay (l := xl X) (D := xD X) (cI := cI) (cZ := cZ) (cQ := cQ) hq89) (gS mlX3_50 mvX3_squaredWay izX3) rfl rfl rfl hdX3_squaredWay ⟨Nat.le_of_ble_eq_true rfl, Nat.le_of_ble_eq_true rfl⟩ rfl rfl (Nat.le_of_ble_eq_true rfl) ⟨Nat.zero_le _, Nat.zero_le _⟩ [] rfl rfl rfl ([nX3 cI cZ cQ h_t (h_w 0) u_t, nX8 cI cZ cQ h_w u_w]) rfl dX3_compare_89 ?_
      refine r_lc O 93 rfl 1 (by decide) dX3_compare_92 ?_
      obtain ⟨p93_t, hq93, hf⟩ := qb1_some hf
      refine k_VV O 96 rfl (zX3_offer (l := xl X) (D := xD X) (cI := cI) (cZ := cZ) (cQ := cQ) (h_t := h_t) (r_w := (h_w 0)) hq93) (gV mlX3_54 mvX3_offer izX3) rfl rfl rfl hdX3_offer ⟨Nat.le_of_ble_eq_true rfl, Nat.le_of_ble_eq_true rfl⟩ rfl 0 rfl rfl rfl rfl (Nat.le_of_ble_eq_true rfl) ⟨Nat.zero_le _, Nat.zero_le _⟩ [0] rfl rfl rfl ([nX3 cI cZ cQ h_t (h_w 0) p93_t, nX8 cI cZ cQ h_w u_w]) rfl dX3_compare_93 ?_
      refine r_goto O 124 dX3_compare_96 (by decide) ?_
      obtain g0 := qe1 hf
      exact r_vret2 O E (by rw [g0]) dX3_compare_124
  · rw [if_neg hc24] at hf
    refine r_ald_n O 28 rfl 2 rfl dX3_compare_27 ?_
    refine r_ild_n O 29 rfl 3 rfl dX3_compare_28 ?_
    refine r_ild_n O 30 rfl 4 rfl dX3_compare_29 ?_
    refine r_ald_n O 31 rfl 2 rfl dX3_compare_30 ?_
    refine r_get (ref := RX3) (C := RX3) (T := TX3) (N := 4) O 34 rfl inBX3 0 0 rfl rfl rfl (by decide) flX3_22 rfl rfl dX3_compare_31 ?_
    refine r_ild_n O 35 rfl 3 rfl dX3_compare_34 ?_
    obtain ⟨x35, hq35, hf⟩ := qb1_some hf
    refine k_VI O 38 rfl (zX8_startX (l := xl X) (D := xD X) (cI := cI) (cZ := cZ) (cQ := cQ) (h_t := h_w) hq35) (gV mlX3_44 mvX8_startX izX8) rfl rfl rfl hdX8_startX ⟨Nat.le_of_ble_eq_true rfl, Nat.le_of_ble_eq_true rfl⟩ rfl 1 rfl rfl rfl rfl (Nat.le_of_ble_eq_true rfl) ⟨Nat.zero_le _, Nat.zero_le _⟩ [1] rfl rfl rfl ([nX3 cI cZ cQ h_t (h_w 0) u_t, nX8 cI cZ cQ h_w u_w]) rfl dX3_compare_35 ?_
    refine r_isub O 39 rfl dX3_compare_38 ?_
    refine r_ild_n O 40 rfl 5 rfl dX3_compare_39 ?_
    refine r_ald_n O 41 rfl 2 rfl dX3_compare_40 ?_
    refine r_get (ref := RX3) (C := RX3) (T := TX3) (N := 4) O 44 rfl inBX3 0 0 rfl rfl rfl (by decide) flX3_22 rfl rfl dX3_compare_41 ?_
    refine r_ild_n O 45 rfl 3 rfl dX3_compare_44 ?_
    obtain ⟨x45, hq45, hf⟩ := qb1_some hf
    refine k_VI O 48 rfl (zX8_startY (l := xl X) (D := xD X) (cI := cI) (cZ := cZ) (cQ := cQ) (h_t := h_w) hq45) (gV mlX3_47 mvX8_startY izX8) rfl rfl rfl hdX8_startY ⟨Nat.le_of_ble_eq_true rfl, Nat.le_of_ble_eq_true rfl⟩ rfl 1 rfl rfl rfl rfl (Nat.le_of_ble_eq_true rfl) ⟨Nat.zero_le _, Nat.zero_le _⟩ [1] rfl rfl rfl ([nX3 cI cZ cQ h_t (h_w 0) u_t, nX8 cI cZ cQ h_w u_w]) rfl dX3_compare_45 ?_
    refine r_isub O 49 rfl dX3_compare_48 ?_
    obtain ⟨x49, hq49, hf⟩ := qb1_some hf
    refine k_SL O 52 rfl (zX3_squaredWay (l := xl X) (D := xD X) (cI := cI) (cZ := cZ) (cQ := cQ) hq49) (gS mlX3_50 mvX3_squaredWay izX3) rfl rfl rfl hdX3_squaredWay ⟨Nat.le_of_ble_eq_true rfl, Nat.le_of_ble_eq_true rfl⟩ rfl rfl (Nat.le_of_ble_eq_true rfl) ⟨Nat.zero_le _, Nat.zero_le _⟩ [] rfl rfl rfl ([nX3 cI cZ cQ h_t (h_w 0) u_t, nX8 cI cZ cQ h_w u_w]) rfl dX3_compare_49 ?_
    refine r_lc O 53 rfl 1 (by decide) dX3_compare_52 ?_
    obtain ⟨p53_t, hq53, hf⟩ := qb1_some hf
    refine k_VV O 56 rfl (zX3_offer (l := xl X) (D := xD X) (cI := cI) (cZ := cZ) (cQ := cQ) (h_t := h_t) (r_w := (h_w 0)) hq53) (gV mlX3_54 mvX3_offer izX3) rfl rfl rfl hdX3_offer ⟨Nat.le_of_ble_eq_true rfl, Nat.le_of_ble_eq_true rfl⟩ rfl 0 rfl rfl rfl rfl (Nat.le_of_ble_eq_true rfl) ⟨Nat.zero_le _, Nat.zero_le _⟩ [0] rfl rfl rfl ([nX3 cI cZ cQ h_t (h_w 0) p53_t, nX8 cI cZ cQ h_w u_w]) rfl dX3_compare_53 ?_
    refine r_goto O 124 dX3_compare_56 (by decide) ?_
    obtain g0 := qe1 hf
    exact r_vret2 O E (by rw [g0]) dX3_compare_124
-- X3_find
def rmX3_find : Room := { frames := 3, cells := 0, slots := 0, locals := 73 }
set_option maxHeartbeats 4000000 in
set_option maxRecDepth 100000 in
theorem zX3_find {l : Launch} {D : va_G} {cI cZ cQ : ClassId} {h_t h_w : Nat → Nat} {u_w u_t : Pk} {a1 : Int32} {a2 : Int32} {v_t : Pk} (hf : fX3_find u_w u_t a1 a2 = some v_t) : MV l yX3_find wsX3_find rmX3_find D (TY cI cZ cQ) [.ref (h_t 0), .int a1, .int a2] [nX3 cI cZ cQ h_t (h_w 0) u_t, nX8 cI cZ cQ h_w u_w] [nX3 cI cZ cQ h_t (h_w 0) v_t, nX8 cI cZ cQ h_w u_w] := by
  refine MV.of (own := RX3) (by decide +kernel) rfl rfl (Nat.le_of_ble_eq_true rfl) (lv0 := [(0, .ref (h_t 0)), (1, .int a1), (2, .int a2)]) rfl ?_
  intro X O E
  have B32 : ∀ (rec8 : Pk → Int32 → Int32 → Int32 → Option (Pk)), (∀ (w_t : Pk) (y1 : Int32) (y2 : Int32) (y3 : Int32), rec8 w_t y1 y2 y3 = some v_t → BK X 4 0 0 8 ([nX3 cI cZ cQ h_t (h_w 0) w_t, nX8 cI cZ cQ h_w u_w]) [(0, .ref (h_t 0)), (1, .int y1), (2, .int y2), (3, .int y3)] []) → ∀ (w_t : Pk) (y1 : Int32) (y2 : Int32) (y3 : Int32), fX3_find_b32 rec8 u_w w_t y1 y2 y3 = some v_t → BK X 4 0 0 32 ([nX3 cI cZ cQ h_t (h_w 0) w_t, nX8 cI cZ cQ h_w u_w]) [(0, .ref (h_t 0)), (1, .int y1), (2, .int y2), (3, .int y3)] [] := by
    intro rec8 hrec8 w_t y1 y2 y3 hf
    unfold fX3_find_b32 at hf
    obtain ⟨x32, ex32, hf⟩ := qn_some hf
    refine r_iinc O 35 rfl x32 3 rfl (by rw [ex32]; rfl) [(3, .int x32), (0, .ref (h_t 0)), (1, .int y1), (2, .int y2)] dX3_find_32 (by decide) rfl ?_
    refine r_goto O 8 dX3_find_35 (by decide) ?_
    refine r_lv [1, 2, 3, 0] rfl ?_
    exact hrec8 _ _ _ _ hf
  have B8 : ∀ n : Nat, ∀ (w_t : Pk) (y1 : Int32) (y2 : Int32) (y3 : Int32), fX3_find_b8 u_w n w_t y1 y2 y3 = some v_t → BK X 4 0 0 8 ([nX3 cI cZ cQ h_t (h_w 0) w_t, nX8 cI cZ cQ h_w u_w]) [(0, .ref (h_t 0)), (1, .int y1), (2, .int y2), (3, .int y3)] [] := by
    intro n
    induction n with
    | zero => exact fun _ _ _ _ hf => qno hf
    | succ n hrec8 =>
      intro w_t y1 y2 y3 hf
      have hf : fX3_find_b8_s (fX3_find_b8 u_w n) u_w w_t y1 y2 y3 = some v_t := hf
      generalize fX3_find_b8 u_w n = rec8 at hf hrec8
      unfold fX3_find_b8_s at hf
      refine r_ild_n O 9 rfl 3 rfl dX3_find_8 ?_
      refine r_bi O 11 rfl 12 (by decide) dX3_find_9 ?_
      refine r_icmp_ge O 14 rfl 38 dX3_find_11 (by decide) (fun hc11 => ?_) (fun hc11 => ?_)
      · rw [if_pos hc11] at hf
        obtain g0 := qe1 hf
        exact r_vret2 O E (by rw [g0]) dX3_find_38
      · rw [if_neg hc11] at hf
        refine r_ald_n O 15 rfl 0 rfl dX3_find_14 ?_
        refine r_get (ref := RX3) (C := RX3) (T := TX3) (N := 4) O 18 rfl inBX3 0 0 rfl rfl rfl (by decide) flX3_22 rfl rfl dX3_find_15 ?_
        refine r_ild_n O 19 rfl 3 rfl dX3_find_18 ?_
        obtain ⟨x19, hq19, hf⟩ := qb1_some hf
        refine k_VZ O 22 rfl (zX8_exists (l := xl X) (D := xD X) (cI := cI) (cZ := cZ) (cQ := cQ) (h_t := h_w) hq19) (gV mlX3_26 mvX8_exists izX8) rfl rfl rfl hdX8_exists ⟨Nat.le_of_ble_eq_true rfl, Nat.le_of_ble_eq_true rfl⟩ rfl 1 rfl rfl rfl rfl (Nat.le_of_ble_eq_true rfl) ⟨Nat.zero_le _, Nat.zero_le _⟩ [1] rfl rfl rfl ([nX3 cI cZ cQ h_t (h_w 0) w_t, nX8 cI cZ cQ h_w u_w]) rfl dX3_find_19 (fun hz19 => ?_)
        refine r_if_eq O 25 rfl 32 dX3_find_22 (by decide) (fun hc22 => ?_) (fun hc22 => ?_)
        · rw [if_pos hc22] at hf
          exact B32 rec8 hrec8 _ _ _ _ hf
        · rw [if_neg hc22] at hf
          refine r_ald_n O 26 rfl 0 rfl dX3_find_25 ?_
          refine r_ild_n O 27 rfl 3 rfl dX3_find_26 ?_
          refine r_ild_n O 28 rfl 1 rfl dX3_find_27 ?_
          refine r_ild_n O 29 rfl 2 rfl dX3_find_28 ?_
          obtain ⟨p29_t, hq29, hf⟩ := qb1_some hf
          refine k_VV O 32 rfl (zX3_compare (l := xl X) (D := xD X) (cI := cI) (cZ := cZ) (cQ := cQ) (h_t := h_t) (h_w := h_w) hq29) (gV mlX3_32 mvX3_compare izX3) rfl rfl rfl hdX3_compare ⟨Nat.le_of_ble_eq_true rfl, Nat.le_of_ble_eq_true rfl⟩ rfl 0 rfl rfl rfl rfl (Nat.le_of_ble_eq_true rfl) ⟨Nat.zero_le _, Nat.zero_le _⟩ [0, 1] rfl rfl rfl ([nX3 cI cZ cQ h_t (h_w 0) p29_t, nX8 cI cZ cQ h_w u_w]) rfl dX3_find_29 ?_
          exact B32 rec8 hrec8 _ _ _ _ hf
  unfold fX3_find at hf
  refine r_ald_n O 1 rfl 0 rfl dX3_find_0 ?_
  refine r_bi O 3 rfl (-8) (by decide) dX3_find_1 ?_
  obtain ⟨p3_t, ep3_t, hf⟩ := qn_some hf
  refine r_put (ref := RX3) (C := RX3) (T := TX3) (N := 4) O 6 rfl inBX3 tyX3 tyX3_ok nmX3 0 1 rfl rfl rfl (by decide) flX3_9 rfl rfl rfl rfl (Nat.le_of_ble_eq_true rfl) ([nX3 cI cZ cQ h_t (h_w 0) p3_t, nX8 cI cZ cQ h_w u_w]) (by rw [ep3_t]; rfl) dX3_find_3 ?_
  refine r_ic O 7 rfl 0 (by decide) dX3_find_6 ?_
  refine r_ist_n O 8 rfl rfl [(3, .int 0), (0, .ref (h_t 0)), (1, .int a1), (2, .int a2)] dX3_find_7 (by decide) rfl ?_
  refine r_lv [1, 2, 3, 0] rfl ?_
  exact B8 FU _ _ _ _ hf
-- X5_standAt
def rmX5_standAt : Room := { frames := 2, cells := 0, slots := 0, locals := 46 }
set_option maxHeartbeats 4000000 in
set_option maxRecDepth 100000 in
theorem zX5_standAt {l : Launch} {D : va_G} {cI cZ cQ : ClassId} {h_t h_w : Nat → Nat} {u_w u_t : Pk} {a1 : Int32} {a2 : Int32} {v_t : Pk} (hf : fX5_standAt u_w u_t a1 a2 = some v_t) : MV l yX5_standAt wsX5_standAt rmX5_standAt D (TY cI cZ cQ) [.ref (h_t 0), .int a1, .int a2] [nX5 cI cZ cQ h_t (h_w 0) u_t, nX8 cI cZ cQ h_w u_w] [nX5 cI cZ cQ h_t (h_w 0) v_t, nX8 cI cZ cQ h_w u_w] := by
  refine MV.of (own := RX5) (by decide +kernel) rfl rfl (Nat.le_of_ble_eq_true rfl) (lv0 := [(0, .ref (h_t 0)), (1, .int a1), (2, .int a2)]) rfl ?_
  intro X O E
  have B12 : ∀ n : Nat, ∀ (w_t : Pk) (y1 : Int32) (y2 : Int32) (y3 : Int32), fX5_standAt_b12 u_w n w_t y1 y2 y3 = some v_t → BK X 4 0 0 12 ([nX5 cI cZ cQ h_t (h_w 0) w_t, nX8 cI cZ cQ h_w u_w]) [(0, .ref (h_t 0)), (1, .int y1), (2, .int y2), (3, .int y3)] [] := by
    intro n
    induction n with
    | zero => exact fun _ _ _ _ hf => qno hf
    | succ n hrec12 =>
      intro w_t y1 y2 y3 hf
      have hf : fX5_standAt_b12_s (fX5_standAt_b12 u_w n) u_w w_t y1 y2 y3 = some v_t := hf
      generalize fX5_standAt_b12 u_w n = rec12 at hf hrec12
      unfold fX5_standAt_b12_s at hf
      refine r_ild_n O 13 rfl 3 rfl dX5_standAt_12 ?_
      refine r_bi O 15 rfl 12 (by decide) dX5_standAt_13 ?_
      refine r_icmp_ge O 18 rfl 40 dX5_standAt_15 (by decide) (fun hc15 => ?_) (fun hc15 => ?_)
      · rw [if_pos hc15] at hf
        obtain g0 := qe1 hf
        exact r_vret2 O E (by rw [g0]) dX5_standAt_40
      · rw [if_neg hc15] at hf
        refine r_ald_n O 19 rfl 0 rfl dX5_standAt_18 ?_
        refine r_get (ref := RX5) (C := RX5) (T := TX5) (N := 12) O 22 rfl inBX5 0 1 rfl rfl rfl (by decide) flX5_9 rfl rfl dX5_standAt_19 ?_
        refine r_ild_n O 23 rfl 3 rfl dX5_standAt_22 ?_
        refine r_ald_n O 24 rfl 0 rfl dX5_standAt_23 ?_
        refine r_get (ref := RX5) (C := RX5) (T := TX5) (N := 12) O 27 rfl inBX5 0 0 rfl rfl rfl (by decide) flX5_46 rfl rfl dX5_standAt_24 ?_
        refine r_ild_n O 28 rfl 3 rfl dX5_standAt_27 ?_
        refine r_ild_n O 29 rfl 1 rfl dX5_standAt_28 ?_
        refine r_ild_n O 30 rfl 2 rfl dX5_standAt_29 ?_
        obtain ⟨x30, hq30, hf⟩ := qb1_some hf
        refine k_VZ O 33 rfl (zX8_isOpaqueFor (l := xl X) (D := xD X) (cI := cI) (cZ := cZ) (cQ := cQ) (h_t := h_w) hq30) (gV mlX5_50 mvX8_isOpaqueFor izX8) rfl rfl rfl hdX8_isOpaqueFor ⟨Nat.le_of_ble_eq_true rfl, Nat.le_of_ble_eq_true rfl⟩ rfl 1 rfl rfl rfl rfl (Nat.le_of_ble_eq_true rfl) ⟨Nat.zero_le _, Nat.zero_le _⟩ [1] rfl rfl rfl ([nX5 cI cZ cQ h_t (h_w 0) w_t, nX8 cI cZ cQ h_w u_w]) rfl dX5_standAt_30 (fun hz30 => ?_)
        obtain ⟨hin33, hf⟩ := qst_some hf
        obtain ⟨p33_t, ep33_t, hf⟩ := qn_some hf
        refine r_zast O 34 rfl 0 1 rfl rfl hin33 ([nX5 cI cZ cQ h_t (h_w 0) p33_t, nX8 cI cZ cQ h_w u_w]) (by rw [ep33_t]; rfl) dX5_standAt_33 ?_
        obtain ⟨x34, ex34, hf⟩ := qn_some hf
        refine r_iinc O 37 rfl x34 3 rfl (by rw [ex34]; rfl) [(3, .int x34), (0, .ref (h_t 0)), (1, .int y1), (2, .int y2)] dX5_standAt_34 (by decide) rfl ?_
        refine r_goto O 12 dX5_standAt_37 (by decide) ?_
        refine r_lv [1, 2, 3, 0] rfl ?_
        exact hrec12 _ _ _ _ hf
  unfold fX5_standAt at hf
  refine r_ald_n O 1 rfl 0 rfl dX5_standAt_0 ?_
  refine r_ild_n O 2 rfl 1 rfl dX5_standAt_1 ?_
  obtain ⟨p2_t, ep2_t, hf⟩ := qn_some hf
  refine r_put (ref := RX5) (C := RX5) (T := TX5) (N := 12) O 5 rfl inBX5 tyX5 tyX5_ok nmX5 0 2 rfl rfl rfl (by decide) flX5_15 rfl rfl rfl rfl (Nat.le_of_ble_eq_true rfl) ([nX5 cI cZ cQ h_t (h_w 0) p2_t, nX8 cI cZ cQ h_w u_w]) (by rw [ep2_t]; rfl) dX5_standAt_2 ?_
  refine r_ald_n O 6 rfl 0 rfl dX5_standAt_5 ?_
  refine r_ild_n O 7 rfl 2 rfl dX5_standAt_6 ?_
  obtain ⟨p7_t, ep7_t, hf⟩ := qn_some hf
  refine r_put (ref := RX5) (C := RX5) (T := TX5) (N := 12) O 10 rfl inBX5 tyX5 tyX5_ok nmX5 0 3 rfl rfl rfl (by decide) flX5_19 rfl rfl rfl rfl (Nat.le_of_ble_eq_true rfl) ([nX5 cI cZ cQ h_t (h_w 0) p7_t, nX8 cI cZ cQ h_w u_w]) (by rw [ep7_t]; rfl) dX5_standAt_7 ?_
  refine r_ic O 11 rfl 0 (by decide) dX5_standAt_10 ?_
  refine r_ist_n O 12 rfl rfl [(3, .int 0), (0, .ref (h_t 0)), (1, .int a1), (2, .int a2)] dX5_standAt_11 (by decide) rfl ?_
  refine r_lv [1, 2, 3, 0] rfl ?_
  exact B12 FU _ _ _ _ hf
-- X5_aim
def rmX5_aim : Room := { frames := 0, cells := 0, slots := 0, locals := 0 }
set_option maxHeartbeats 4000000 in
set_option maxRecDepth 100000 in
theorem zX5_aim {l : Launch} {D : va_G} {cI cZ cQ : ClassId} {h_t : Nat → Nat} {r_w : Nat} {u_t : Pk} {a1 : Int32} {a2 : Int32} {v_t : Pk} (hf : fX5_aim u_t a1 a2 = some v_t) : MV l yX5_aim wsX5_aim rmX5_aim D (TY cI cZ cQ) [.ref (h_t 0), .int a1, .int a2] [nX5 cI cZ cQ h_t r_w u_t] [nX5 cI cZ cQ h_t r_w v_t] := by
  refine MV.of (own := RX5) (by decide +kernel) rfl rfl (Nat.le_of_ble_eq_true rfl) (lv0 := [(0, .ref (h_t 0)), (1, .int a1), (2, .int a2)]) rfl ?_
  intro X O E
  unfold fX5_aim at hf
  refine r_ald_n O 1 rfl 0 rfl dX5_aim_0 ?_
  refine r_ild_n O 2 rfl 1 rfl dX5_aim_1 ?_
  obtain ⟨p2_t, ep2_t, hf⟩ := qn_some hf
  refine r_put (ref := RX5) (C := RX5) (T := TX5) (N := 12) O 5 rfl inBX5 tyX5 tyX5_ok nmX5 0 4 rfl rfl rfl (by decide) flX5_22 rfl rfl rfl rfl (Nat.le_of_ble_eq_true rfl) ([nX5 cI cZ cQ h_t r_w p2_t]) (by rw [ep2_t]; rfl) dX5_aim_2 ?_
  refine r_ald_n O 6 rfl 0 rfl dX5_aim_5 ?_
  refine r_ild_n O 7 rfl 2 rfl dX5_aim_6 ?_
  obtain ⟨p7_t, ep7_t, hf⟩ := qn_some hf
  refine r_put (ref := RX5) (C := RX5) (T := TX5) (N := 12) O 10 rfl inBX5 tyX5 tyX5_ok nmX5 0 5 rfl rfl rfl (by decide) flX5_25 rfl rfl rfl rfl (Nat.le_of_ble_eq_true rfl) ([nX5 cI cZ cQ h_t r_w p7_t]) (by rw [ep7_t]; rfl) dX5_aim_7 ?_
  obtain g0 := qe1 hf
  exact r_vret2 O E (by rw [g0]) dX5_aim_10
-- X5_aimAtColumn
def rmX5_aimAtColumn : Room := { frames := 1, cells := 0, slots := 0, locals := 22 }
set_option maxHeartbeats 4000000 in
set_option maxRecDepth 100000 in
theorem zX5_aimAtColumn {l : Launch} {D : va_G} {cI cZ cQ : ClassId} {h_t : Nat → Nat} {r_w : Nat} {u_t : Pk} {a1 : Int32} {a2 : Int32} {a3 : Int32} {v_t : Pk} (hf : fX5_aimAtColumn u_t a1 a2 a3 = some v_t) : MV l yX5_aimAtColumn wsX5_aimAtColumn rmX5_aimAtColumn D (TY cI cZ cQ) [.ref (h_t 0), .int a1, .int a2, .int a3] [nX5 cI cZ cQ h_t r_w u_t] [nX5 cI cZ cQ h_t r_w v_t] := by
  refine MV.of (own := RX5) (by decide +kernel) rfl rfl (Nat.le_of_ble_eq_true rfl) (lv0 := [(0, .ref (h_t 0)), (1, .int a1), (2, .int a2), (3, .int a3)]) rfl ?_
  intro X O E
  unfold fX5_aimAtColumn at hf
  refine r_bi O 2 rfl 31 (by decide) dX5_aimAtColumn_0 ?_
  refine r_ic O 3 rfl 2 (by decide) dX5_aimAtColumn_2 ?_
  refine r_ild_n O 4 rfl 3 rfl dX5_aimAtColumn_3 ?_
  refine r_imul O 5 rfl dX5_aimAtColumn_4 ?_
  refine r_isub O 6 rfl dX5_aimAtColumn_5 ?_
  obtain ⟨x6, ex6, hf⟩ := qn_some hf
  rw [← ex6]
  refine r_ist O 8 rfl [(4, .int x6), (0, .ref (h_t 0)), (1, .int a1), (2, .int a2), (3, .int a3)] dX5_aimAtColumn_6 (by decide) rfl ?_
  refine r_ald_n O 9 rfl 1 rfl dX5_aimAtColumn_8 ?_
  refine r_bi O 11 rfl 32 (by decide) dX5_aimAtColumn_9 ?_
  refine r_ild_n O 12 rfl 2 rfl dX5_aimAtColumn_11 ?_
  refine r_imul O 13 rfl dX5_aimAtColumn_12 ?_
  refine r_ild O 15 rfl 0 rfl dX5_aimAtColumn_13 ?_
  refine r_ild_n O 16 rfl 3 rfl dX5_aimAtColumn_15 ?_
  refine r_imul O 17 rfl dX5_aimAtColumn_16 ?_
  refine r_isub O 18 rfl dX5_aimAtColumn_17 ?_
  refine r_bi O 20 rfl 32 (by decide) dX5_aimAtColumn_18 ?_
  refine r_ild_n O 21 rfl 3 rfl dX5_aimAtColumn_20 ?_
  refine r_imul O 22 rfl dX5_aimAtColumn_21 ?_
  refine r_ild O 24 rfl 0 rfl dX5_aimAtColumn_22 ?_
  refine r_ild_n O 25 rfl 2 rfl dX5_aimAtColumn_24 ?_
  refine r_imul O 26 rfl dX5_aimAtColumn_25 ?_
  refine r_iadd O 27 rfl dX5_aimAtColumn_26 ?_
  obtain ⟨p27_t, hq27, hf⟩ := qb1_some hf
  refine k_VV O 30 rfl (zX5_aim (l := xl X) (D := xD X) (cI := cI) (cZ := cZ) (cQ := cQ) (h_t := h_t) (r_w := r_w) hq27) (gV mlX5_56 mvX5_aim izX5) rfl rfl rfl hdX5_aim ⟨Nat.le_of_ble_eq_true rfl, Nat.le_of_ble_eq_true rfl⟩ rfl 0 rfl rfl rfl rfl (Nat.le_of_ble_eq_true rfl) ⟨Nat.zero_le _, Nat.zero_le _⟩ [0] rfl rfl rfl ([nX5 cI cZ cQ h_t r_w p27_t]) rfl dX5_aimAtColumn_27 ?_
  obtain g0 := qe1 hf
  exact r_vret2 O E (by rw [g0]) dX5_aimAtColumn_30
-- X5_hits
def rmX5_hits : Room := { frames := 1, cells := 0, slots := 0, locals := 21 }
set_option maxHeartbeats 4000000 in
set_option maxRecDepth 100000 in
theorem zX5_hits {l : Launch} {D : va_G} {cI cZ cQ : ClassId} {h_t h_w : Nat → Nat} {u_w u_t : Pk} {a1 : Int32} {r0 : Int32} {v_t : Pk} (hf : fX5_hits u_w u_t a1 = some (r0, v_t)) : MZ l yX5_hits wsX5_hits rmX5_hits D (TY cI cZ cQ) [.ref (h_t 0), .int a1] [nX5 cI cZ cQ h_t (h_w 0) u_t, nX8 cI cZ cQ h_w u_w] r0 [nX5 cI cZ cQ h_t (h_w 0) v_t, nX8 cI cZ cQ h_w u_w] := by
  refine MZ.of (own := RX5) (by decide +kernel) rfl rfl (Nat.le_of_ble_eq_true rfl) (lv0 := [(0, .ref (h_t 0)), (1, .int a1)]) rfl ?_
  intro X O E
  have B93 : ∀ (w_t : Pk) (y2 : Int32) (y3 : Int32) (y4 : Int32) (y5 : Int32) (y6 : Int32) (z0 : Int32), fX5_hits_b93 u_w w_t y2 y3 y4 y5 y6 z0 = some (r0, v_t) → BK X 8 0 0 93 ([nX5 cI cZ cQ h_t (h_w 0) w_t, nX8 cI cZ cQ h_w u_w]) [(0, .ref (h_t 0)), (2, .int y2), (3, .int y3), (4, .int y4), (5, .int y5), (6, .int y6)] [.int z0] := by
    intro w_t y2 y3 y4 y5 y6 z0 hf
    unfold fX5_hits_b93 at hf
    refine r_ist O 95 rfl [(7, .int z0), (0, .ref (h_t 0)), (2, .int y2), (3, .int y3), (4, .int y4), (5, .int y5), (6, .int y6)] dX5_hits_93 (by decide) rfl ?_
    refine r_ald_n O 96 rfl 1 rfl dX5_hits_95 ?_
    refine r_ild O 98 rfl 0 rfl dX5_hits_96 ?_
    refine r_ild O 100 rfl 4 rfl dX5_hits_98 ?_
    refine r_imul O 101 rfl dX5_hits_100 ?_
    obtain ⟨p101_t, ep101_t, hf⟩ := qn_some hf
    refine r_put (ref := RX5) (C := RX5) (T := TX5) (N := 12) O 104 rfl inBX5 tyX5 tyX5_ok nmX5 0 8 rfl rfl rfl (by decide) flX5_34 rfl rfl rfl rfl (Nat.le_of_ble_eq_true rfl) ([nX5 cI cZ cQ h_t (h_w 0) p101_t, nX8 cI cZ cQ h_w u_w]) (by rw [ep101_t]; rfl) dX5_hits_101 ?_
    refine r_ald_n O 105 rfl 1 rfl dX5_hits_104 ?_
    refine r_ild O 107 rfl 0 rfl dX5_hits_105 ?_
    refine r_ild O 109 rfl 5 rfl dX5_hits_107 ?_
    refine r_ild_n O 110 rfl 3 rfl dX5_hits_109 ?_
    refine r_imul O 111 rfl dX5_hits_110 ?_
    refine r_ild O 113 rfl 6 rfl dX5_hits_111 ?_
    refine r_ild_n O 114 rfl 2 rfl dX5_hits_113 ?_
    refine r_imul O 115 rfl dX5_hits_114 ?_
    refine r_isub O 116 rfl dX5_hits_115 ?_
    refine r_imul O 117 rfl dX5_hits_116 ?_
    obtain ⟨p117_t, ep117_t, hf⟩ := qn_some hf
    refine r_put (ref := RX5) (C := RX5) (T := TX5) (N := 12) O 120 rfl inBX5 tyX5 tyX5_ok nmX5 0 6 rfl rfl rfl (by decide) flX5_28 rfl rfl rfl rfl (Nat.le_of_ble_eq_true rfl) ([nX5 cI cZ cQ h_t (h_w 0) p117_t, nX8 cI cZ cQ h_w u_w]) (by rw [ep117_t]; rfl) dX5_hits_117 ?_
    refine r_ald_n O 121 rfl 1 rfl dX5_hits_120 ?_
    refine r_ild O 123 rfl 0 rfl dX5_hits_121 ?_
    refine r_ild O 125 rfl 5 rfl dX5_hits_123 ?_
    refine r_ald_n O 126 rfl 1 rfl dX5_hits_125 ?_
    refine r_get (ref := RX5) (C := RX5) (T := TX5) (N := 12) O 129 rfl inBX5 0 5 rfl rfl rfl (by decide) flX5_25 rfl rfl dX5_hits_126 ?_
    refine r_imul O 130 rfl dX5_hits_129 ?_
    refine r_ild O 132 rfl 6 rfl dX5_hits_130 ?_
    refine r_ald_n O 133 rfl 1 rfl dX5_hits_132 ?_
    refine r_get (ref := RX5) (C := RX5) (T := TX5) (N := 12) O 136 rfl inBX5 0 4 rfl rfl rfl (by decide) flX5_22 rfl rfl dX5_hits_133 ?_
    refine r_imul O 137 rfl dX5_hits_136 ?_
    refine r_isub O 138 rfl dX5_hits_137 ?_
    refine r_imul O 139 rfl dX5_hits_138 ?_
    obtain ⟨p139_t, ep139_t, hf⟩ := qn_some hf
    refine r_put (ref := RX5) (C := RX5) (T := TX5) (N := 12) O 142 rfl inBX5 tyX5 tyX5_ok nmX5 0 7 rfl rfl rfl (by decide) flX5_31 rfl rfl rfl rfl (Nat.le_of_ble_eq_true rfl) ([nX5 cI cZ cQ h_t (h_w 0) p139_t, nX8 cI cZ cQ h_w u_w]) (by rw [ep139_t]; rfl) dX5_hits_139 ?_
    refine r_ald_n O 143 rfl 1 rfl dX5_hits_142 ?_
    refine r_get (ref := RX5) (C := RX5) (T := TX5) (N := 12) O 146 rfl inBX5 0 6 rfl rfl rfl (by decide) flX5_28 rfl rfl dX5_hits_143 ?_
    refine r_if_le O 149 rfl 171 dX5_hits_146 (by decide) (fun hc146 => ?_) (fun hc146 => ?_)
    · rw [if_pos hc146] at hf
      refine r_ic O 172 rfl 0 (by decide) dX5_hits_171 ?_
      obtain ⟨g0, g1⟩ := qe2 hf
      exact r_zret2 O E g0 (by rw [g1]) rfl dX5_hits_172
    · rw [if_neg hc146] at hf
      refine r_ald_n O 150 rfl 1 rfl dX5_hits_149 ?_
      refine r_get (ref := RX5) (C := RX5) (T := TX5) (N := 12) O 153 rfl inBX5 0 7 rfl rfl rfl (by decide) flX5_31 rfl rfl dX5_hits_150 ?_
      refine r_if_lt O 156 rfl 171 dX5_hits_153 (by decide) (fun hc153 => ?_) (fun hc153 => ?_)
      · rw [if_pos hc153] at hf
        refine r_ic O 172 rfl 0 (by decide) dX5_hits_171 ?_
        obtain ⟨g0, g1⟩ := qe2 hf
        exact r_zret2 O E g0 (by rw [g1]) rfl dX5_hits_172
      · rw [if_neg hc153] at hf
        refine r_ald_n O 157 rfl 1 rfl dX5_hits_156 ?_
        refine r_get (ref := RX5) (C := RX5) (T := TX5) (N := 12) O 160 rfl inBX5 0 7 rfl rfl rfl (by decide) flX5_31 rfl rfl dX5_hits_157 ?_
        refine r_ald_n O 161 rfl 1 rfl dX5_hits_160 ?_
        refine r_get (ref := RX5) (C := RX5) (T := TX5) (N := 12) O 164 rfl inBX5 0 8 rfl rfl rfl (by decide) flX5_34 rfl rfl dX5_hits_161 ?_
        refine r_icmp_gt O 167 rfl 171 dX5_hits_164 (by decide) (fun hc164 => ?_) (fun hc164 => ?_)
        · rw [if_pos hc164] at hf
          refine r_ic O 172 rfl 0 (by decide) dX5_hits_171 ?_
          obtain ⟨g0, g1⟩ := qe2 hf
          exact r_zret2 O E g0 (by rw [g1]) rfl dX5_hits_172
        · rw [if_neg hc164] at hf
          refine r_ic O 168 rfl 1 (by decide) dX5_hits_167 ?_
          refine r_goto O 172 dX5_hits_168 (by decide) ?_
          obtain ⟨g0, g1⟩ := qe2 hf
          exact r_zret2 O E g0 (by rw [g1]) rfl dX5_hits_172
  unfold fX5_hits at hf
  refine r_ald_n O 1 rfl 0 rfl dX5_hits_0 ?_
  refine r_get (ref := RX5) (C := RX5) (T := TX5) (N := 12) O 4 rfl inBX5 0 0 rfl rfl rfl (by decide) flX5_46 rfl rfl dX5_hits_1 ?_
  refine r_ild_n O 5 rfl 1 rfl dX5_hits_4 ?_
  obtain ⟨x5, hq5, hf⟩ := qb1_some hf
  refine k_VZ O 8 rfl (zX8_exists (l := xl X) (D := xD X) (cI := cI) (cZ := cZ) (cQ := cQ) (h_t := h_w) hq5) (gV mlX5_60 mvX8_exists izX8) rfl rfl rfl hdX8_exists ⟨Nat.le_of_ble_eq_true rfl, Nat.le_of_ble_eq_true rfl⟩ rfl 1 rfl rfl rfl rfl (Nat.le_of_ble_eq_true rfl) ⟨Nat.zero_le _, Nat.zero_le _⟩ [1] rfl rfl rfl ([nX5 cI cZ cQ h_t (h_w 0) u_t, nX8 cI cZ cQ h_w u_w]) rfl dX5_hits_5 (fun hz5 => ?_)
  refine r_if_ne O 11 rfl 13 dX5_hits_8 (by decide) (fun hc8 => ?_) (fun hc8 => ?_)
  · rw [if_neg hc8] at hf
    refine r_ald_n O 14 rfl 0 rfl dX5_hits_13 ?_
    refine r_get (ref := RX5) (C := RX5) (T := TX5) (N := 12) O 17 rfl inBX5 0 0 rfl rfl rfl (by decide) flX5_46 rfl rfl dX5_hits_14 ?_
    refine r_ild_n O 18 rfl 1 rfl dX5_hits_17 ?_
    obtain ⟨x18, hq18, hf⟩ := qb1_some hf
    refine k_VI O 21 rfl (zX8_wayX (l := xl X) (D := xD X) (cI := cI) (cZ := cZ) (cQ := cQ) (h_t := h_w) hq18) (gV mlX5_64 mvX8_wayX izX8) rfl rfl rfl hdX8_wayX ⟨Nat.le_of_ble_eq_true rfl, Nat.le_of_ble_eq_true rfl⟩ rfl 1 rfl rfl rfl rfl (Nat.le_of_ble_eq_true rfl) ⟨Nat.zero_le _, Nat.zero_le _⟩ [1] rfl rfl rfl ([nX5 cI cZ cQ h_t (h_w 0) u_t, nX8 cI cZ cQ h_w u_w]) rfl dX5_hits_18 ?_
    refine r_ist_n O 22 rfl rfl [(2, .int x18), (0, .ref (h_t 0)), (1, .int a1)] dX5_hits_21 (by decide) rfl ?_
    refine r_ald_n O 23 rfl 1 rfl dX5_hits_22 ?_
    refine r_get (ref := RX5) (C := RX5) (T := TX5) (N := 12) O 26 rfl inBX5 0 0 rfl rfl rfl (by decide) flX5_46 rfl rfl dX5_hits_23 ?_
    refine r_ild_n O 27 rfl 2 rfl dX5_hits_26 ?_
    obtain ⟨x27, hq27, hf⟩ := qb1_some hf
    refine k_VI O 30 rfl (zX8_wayY (l := xl X) (D := xD X) (cI := cI) (cZ := cZ) (cQ := cQ) (h_t := h_w) hq27) (gV mlX5_67 mvX8_wayY izX8) rfl rfl rfl hdX8_wayY ⟨Nat.le_of_ble_eq_true rfl, Nat.le_of_ble_eq_true rfl⟩ rfl 1 rfl rfl rfl rfl (Nat.le_of_ble_eq_true rfl) ⟨Nat.zero_le _, Nat.zero_le _⟩ [1] rfl rfl rfl ([nX5 cI cZ cQ h_t (h_w 0) u_t, nX8 cI cZ cQ h_w u_w]) rfl dX5_hits_27 ?_
    refine r_ist_n O 31 rfl rfl [(3, .int x27), (2, .int x18), (0, .ref (h_t 0)), (1, .int a1)] dX5_hits_30 (by decide) rfl ?_
    refine r_ald_n O 32 rfl 2 rfl dX5_hits_31 ?_
    refine r_get (ref := RX5) (C := RX5) (T := TX5) (N := 12) O 35 rfl inBX5 0 4 rfl rfl rfl (by decide) flX5_22 rfl rfl dX5_hits_32 ?_
    refine r_ild_n O 36 rfl 0 rfl dX5_hits_35 ?_
    refine r_imul O 37 rfl dX5_hits_36 ?_
    refine r_ald_n O 38 rfl 2 rfl dX5_hits_37 ?_
    refine r_get (ref := RX5) (C := RX5) (T := TX5) (N := 12) O 41 rfl inBX5 0 5 rfl rfl rfl (by decide) flX5_25 rfl rfl dX5_hits_38 ?_
    refine r_ild_n O 42 rfl 1 rfl dX5_hits_41 ?_
    refine r_imul O 43 rfl dX5_hits_42 ?_
    refine r_isub O 44 rfl dX5_hits_43 ?_
    obtain ⟨x44, ex44, hf⟩ := qn_some hf
    rw [← ex44]
    refine r_ist O 46 rfl [(4, .int x44), (3, .int x27), (2, .int x18), (0, .ref (h_t 0)), (1, .int a1)] dX5_hits_44 (by decide) rfl ?_
    refine r_ild O 48 rfl 0 rfl dX5_hits_46 ?_
    refine r_if_ne O 51 rfl 53 dX5_hits_48 (by decide) (fun hc48 => ?_) (fun hc48 => ?_)
    · rw [if_neg hc48] at hf
      refine r_ald_n O 54 rfl 3 rfl dX5_hits_53 ?_
      refine r_get (ref := RX5) (C := RX5) (T := TX5) (N := 12) O 57 rfl inBX5 0 0 rfl rfl rfl (by decide) flX5_46 rfl rfl dX5_hits_54 ?_
      refine r_ild_n O 58 rfl 4 rfl dX5_hits_57 ?_
      obtain ⟨x58, hq58, hf⟩ := qb1_some hf
      refine k_VI O 61 rfl (zX8_startX (l := xl X) (D := xD X) (cI := cI) (cZ := cZ) (cQ := cQ) (h_t := h_w) hq58) (gV mlX5_69 mvX8_startX izX8) rfl rfl rfl hdX8_startX ⟨Nat.le_of_ble_eq_true rfl, Nat.le_of_ble_eq_true rfl⟩ rfl 1 rfl rfl rfl rfl (Nat.le_of_ble_eq_true rfl) ⟨Nat.zero_le _, Nat.zero_le _⟩ [1] rfl rfl rfl ([nX5 cI cZ cQ h_t (h_w 0) u_t, nX8 cI cZ cQ h_w u_w]) rfl dX5_hits_58 ?_
      refine r_ald_n O 62 rfl 3 rfl dX5_hits_61 ?_
      refine r_get (ref := RX5) (C := RX5) (T := TX5) (N := 12) O 65 rfl inBX5 0 2 rfl rfl rfl (by decide) flX5_15 rfl rfl dX5_hits_62 ?_
      refine r_isub O 66 rfl dX5_hits_65 ?_
      obtain ⟨x66, ex66, hf⟩ := qn_some hf
      rw [← ex66]
      refine r_ist O 68 rfl [(5, .int x66), (4, .int x44), (3, .int x27), (2, .int x18), (0, .ref (h_t 0)), (1, .int a1)] dX5_hits_66 (by decide) rfl ?_
      refine r_ald_n O 69 rfl 4 rfl dX5_hits_68 ?_
      refine r_get (ref := RX5) (C := RX5) (T := TX5) (N := 12) O 72 rfl inBX5 0 0 rfl rfl rfl (by decide) flX5_46 rfl rfl dX5_hits_69 ?_
      refine r_ild_n O 73 rfl 5 rfl dX5_hits_72 ?_
      obtain ⟨x73, hq73, hf⟩ := qb1_some hf
      refine k_VI O 76 rfl (zX8_startY (l := xl X) (D := xD X) (cI := cI) (cZ := cZ) (cQ := cQ) (h_t := h_w) hq73) (gV mlX5_72 mvX8_startY izX8) rfl rfl rfl hdX8_startY ⟨Nat.le_of_ble_eq_true rfl, Nat.le_of_ble_eq_true rfl⟩ rfl 1 rfl rfl rfl rfl (Nat.le_of_ble_eq_true rfl) ⟨Nat.zero_le _, Nat.zero_le _⟩ [1] rfl rfl rfl ([nX5 cI cZ cQ h_t (h_w 0) u_t, nX8 cI cZ cQ h_w u_w]) rfl dX5_hits_73 ?_
      refine r_ald_n O 77 rfl 4 rfl dX5_hits_76 ?_
      refine r_get (ref := RX5) (C := RX5) (T := TX5) (N := 12) O 80 rfl inBX5 0 3 rfl rfl rfl (by decide) flX5_19 rfl rfl dX5_hits_77 ?_
      refine r_isub O 81 rfl dX5_hits_80 ?_
      obtain ⟨x81, ex81, hf⟩ := qn_some hf
      rw [← ex81]
      refine r_ist O 83 rfl [(6, .int x81), (5, .int x66), (4, .int x44), (3, .int x27), (2, .int x18), (0, .ref (h_t 0)), (1, .int a1)] dX5_hits_81 (by decide) rfl ?_
      refine r_ild O 85 rfl 2 rfl dX5_hits_83 ?_
      refine r_if_le O 88 rfl 92 dX5_hits_85 (by decide) (fun hc85 => ?_) (fun hc85 => ?_)
      · rw [if_pos hc85] at hf
        refine r_ic O 93 rfl (-1) (by decide) dX5_hits_92 ?_
        refine r_lv [5, 4, 3, 2, 1, 0] rfl ?_
        exact B93 _ _ _ _ _ _ _ hf
      · rw [if_neg hc85] at hf
        refine r_ic O 89 rfl 1 (by decide) dX5_hits_88 ?_
        refine r_goto O 93 dX5_hits_89 (by decide) ?_
        refine r_lv [5, 4, 3, 2, 1, 0] rfl ?_
        exact B93 _ _ _ _ _ _ _ hf
    · rw [if_pos hc48] at hf
      refine r_ic O 52 rfl 0 (by decide) dX5_hits_51 ?_
      obtain ⟨g0, g1⟩ := qe2 hf
      exact r_zret2 O E g0 (by rw [g1]) rfl dX5_hits_52
  · rw [if_pos hc8] at hf
    refine r_ic O 12 rfl 0 (by decide) dX5_hits_11 ?_
    obtain ⟨g0, g1⟩ := qe2 hf
    exact r_zret2 O E g0 (by rw [g1]) rfl dX5_hits_12
-- X5_hitIsAtOrAfter
def rmX5_hitIsAtOrAfter : Room := { frames := 0, cells := 0, slots := 0, locals := 0 }
set_option maxHeartbeats 4000000 in
set_option maxRecDepth 100000 in
theorem zX5_hitIsAtOrAfter {l : Launch} {D : va_G} {cI cZ cQ : ClassId} {h_t : Nat → Nat} {r_w : Nat} {u_t : Pk} {a1 : Int32} {a2 : Int32} {r0 : Int32} (hf : fX5_hitIsAtOrAfter u_t a1 a2 = some r0) : MZ l yX5_hitIsAtOrAfter wsX5_hitIsAtOrAfter rmX5_hitIsAtOrAfter D (TY cI cZ cQ) [.ref (h_t 0), .int a1, .int a2] [nX5 cI cZ cQ h_t r_w u_t] r0 [nX5 cI cZ cQ h_t r_w u_t] := by
  refine MZ.of (own := RX5) (by decide +kernel) rfl rfl (Nat.le_of_ble_eq_true rfl) (lv0 := [(0, .ref (h_t 0)), (1, .int a1), (2, .int a2)]) rfl ?_
  intro X O E
  unfold fX5_hitIsAtOrAfter at hf
  refine r_ald_n O 1 rfl 0 rfl dX5_hitIsAtOrAfter_0 ?_
  refine r_get (ref := RX5) (C := RX5) (T := TX5) (N := 12) O 4 rfl inBX5 0 7 rfl rfl rfl (by decide) flX5_31 rfl rfl dX5_hitIsAtOrAfter_1 ?_
  refine r_i2l O 5 rfl dX5_hitIsAtOrAfter_4 ?_
  refine r_ild_n O 6 rfl 2 rfl dX5_hitIsAtOrAfter_5 ?_
  refine r_i2l O 7 rfl dX5_hitIsAtOrAfter_6 ?_
  refine r_lmul O 8 rfl dX5_hitIsAtOrAfter_7 ?_
  refine r_ild_n O 9 rfl 1 rfl dX5_hitIsAtOrAfter_8 ?_
  refine r_i2l O 10 rfl dX5_hitIsAtOrAfter_9 ?_
  refine r_ald_n O 11 rfl 0 rfl dX5_hitIsAtOrAfter_10 ?_
  refine r_get (ref := RX5) (C := RX5) (T := TX5) (N := 12) O 14 rfl inBX5 0 8 rfl rfl rfl (by decide) flX5_34 rfl rfl dX5_hitIsAtOrAfter_11 ?_
  refine r_i2l O 15 rfl dX5_hitIsAtOrAfter_14 ?_
  refine r_lmul O 16 rfl dX5_hitIsAtOrAfter_15 ?_
  refine r_lcmp O 17 rfl dX5_hitIsAtOrAfter_16 ?_
  refine r_if_lt O 20 rfl 24 dX5_hitIsAtOrAfter_17 (by decide) (fun hc17 => ?_) (fun hc17 => ?_)
  · rw [if_pos hc17] at hf
    refine r_ic O 25 rfl 0 (by decide) dX5_hitIsAtOrAfter_24 ?_
    obtain g0 := qe1 hf
    exact r_zret2 O E g0 rfl rfl dX5_hitIsAtOrAfter_25
  · rw [if_neg hc17] at hf
    refine r_ic O 21 rfl 1 (by decide) dX5_hitIsAtOrAfter_20 ?_
    refine r_goto O 25 dX5_hitIsAtOrAfter_21 (by decide) ?_
    obtain g0 := qe1 hf
    exact r_zret2 O E g0 rfl rfl dX5_hitIsAtOrAfter_25
-- X5_hitIsAtOrBefore
def rmX5_hitIsAtOrBefore : Room := { frames := 0, cells := 0, slots := 0, locals := 0 }
set_option maxHeartbeats 4000000 in
set_option maxRecDepth 100000 in
theorem zX5_hitIsAtOrBefore {l : Launch} {D : va_G} {cI cZ cQ : ClassId} {h_t : Nat → Nat} {r_w : Nat} {u_t : Pk} {a1 : Int32} {a2 : Int32} {r0 : Int32} (hf : fX5_hitIsAtOrBefore u_t a1 a2 = some r0) : MZ l yX5_hitIsAtOrBefore wsX5_hitIsAtOrBefore rmX5_hitIsAtOrBefore D (TY cI cZ cQ) [.ref (h_t 0), .int a1, .int a2] [nX5 cI cZ cQ h_t r_w u_t] r0 [nX5 cI cZ cQ h_t r_w u_t] := by
  refine MZ.of (own := RX5) (by decide +kernel) rfl rfl (Nat.le_of_ble_eq_true rfl) (lv0 := [(0, .ref (h_t 0)), (1, .int a1), (2, .int a2)]) rfl ?_
  intro X O E
  unfold fX5_hitIsAtOrBefore at hf
  refine r_ald_n O 1 rfl 0 rfl dX5_hitIsAtOrBefore_0 ?_
  refine r_get (ref := RX5) (C := RX5) (T := TX5) (N := 12) O 4 rfl inBX5 0 7 rfl rfl rfl (by decide) flX5_31 rfl rfl dX5_hitIsAtOrBefore_1 ?_
  refine r_i2l O 5 rfl dX5_hitIsAtOrBefore_4 ?_
  refine r_ild_n O 6 rfl 2 rfl dX5_hitIsAtOrBefore_5 ?_
  refine r_i2l O 7 rfl dX5_hitIsAtOrBefore_6 ?_
  refine r_lmul O 8 rfl dX5_hitIsAtOrBefore_7 ?_
  refine r_ild_n O 9 rfl 1 rfl dX5_hitIsAtOrBefore_8 ?_
  refine r_i2l O 10 rfl dX5_hitIsAtOrBefore_9 ?_
  refine r_ald_n O 11 rfl 0 rfl dX5_hitIsAtOrBefore_10 ?_
  refine r_get (ref := RX5) (C := RX5) (T := TX5) (N := 12) O 14 rfl inBX5 0 8 rfl rfl rfl (by decide) flX5_34 rfl rfl dX5_hitIsAtOrBefore_11 ?_
  refine r_i2l O 15 rfl dX5_hitIsAtOrBefore_14 ?_
  refine r_lmul O 16 rfl dX5_hitIsAtOrBefore_15 ?_
  refine r_lcmp O 17 rfl dX5_hitIsAtOrBefore_16 ?_
  refine r_if_gt O 20 rfl 24 dX5_hitIsAtOrBefore_17 (by decide) (fun hc17 => ?_) (fun hc17 => ?_)
  · rw [if_pos hc17] at hf
    refine r_ic O 25 rfl 0 (by decide) dX5_hitIsAtOrBefore_24 ?_
    obtain g0 := qe1 hf
    exact r_zret2 O E g0 rfl rfl dX5_hitIsAtOrBefore_25
  · rw [if_neg hc17] at hf
    refine r_ic O 21 rfl 1 (by decide) dX5_hitIsAtOrBefore_20 ?_
    refine r_goto O 25 dX5_hitIsAtOrBefore_21 (by decide) ?_
    obtain g0 := qe1 hf
    exact r_zret2 O E g0 rfl rfl dX5_hitIsAtOrBefore_25
-- X5_hitIsBeforeFirst
def rmX5_hitIsBeforeFirst : Room := { frames := 0, cells := 0, slots := 0, locals := 0 }
set_option maxHeartbeats 4000000 in
set_option maxRecDepth 100000 in
theorem zX5_hitIsBeforeFirst {l : Launch} {D : va_G} {cI cZ cQ : ClassId} {h_t : Nat → Nat} {r_w : Nat} {u_t : Pk} {r0 : Int32} (hf : fX5_hitIsBeforeFirst u_t = some r0) : MZ l yX5_hitIsBeforeFirst wsX5_hitIsBeforeFirst rmX5_hitIsBeforeFirst D (TY cI cZ cQ) [.ref (h_t 0)] [nX5 cI cZ cQ h_t r_w u_t] r0 [nX5 cI cZ cQ h_t r_w u_t] := by
  refine MZ.of (own := RX5) (by decide +kernel) rfl rfl (Nat.le_of_ble_eq_true rfl) (lv0 := [(0, .ref (h_t 0))]) rfl ?_
  intro X O E
  unfold fX5_hitIsBeforeFirst at hf
  refine r_ald_n O 1 rfl 0 rfl dX5_hitIsBeforeFirst_0 ?_
  refine r_get (ref := RX5) (C := RX5) (T := TX5) (N := 12) O 4 rfl inBX5 0 9 rfl rfl rfl (by decide) flX5_37 rfl rfl dX5_hitIsBeforeFirst_1 ?_
  refine r_bi O 6 rfl (-8) (by decide) dX5_hitIsBeforeFirst_4 ?_
  refine r_icmp_eq O 9 rfl 35 dX5_hitIsBeforeFirst_6 (by decide) (fun hc6 => ?_) (fun hc6 => ?_)
  · rw [if_pos hc6] at hf
    refine r_ic O 36 rfl 1 (by decide) dX5_hitIsBeforeFirst_35 ?_
    refine r_goto O 40 dX5_hitIsBeforeFirst_36 (by decide) ?_
    obtain g0 := qe1 hf
    exact r_zret2 O E g0 rfl rfl dX5_hitIsBeforeFirst_40
  · rw [if_neg hc6] at hf
    refine r_ald_n O 10 rfl 0 rfl dX5_hitIsBeforeFirst_9 ?_
    refine r_get (ref := RX5) (C := RX5) (T := TX5) (N := 12) O 13 rfl inBX5 0 6 rfl rfl rfl (by decide) flX5_28 rfl rfl dX5_hitIsBeforeFirst_10 ?_
    refine r_i2l O 14 rfl dX5_hitIsBeforeFirst_13 ?_
    refine r_ald_n O 15 rfl 0 rfl dX5_hitIsBeforeFirst_14 ?_
    refine r_get (ref := RX5) (C := RX5) (T := TX5) (N := 12) O 18 rfl inBX5 0 11 rfl rfl rfl (by decide) flX5_43 rfl rfl dX5_hitIsBeforeFirst_15 ?_
    refine r_i2l O 19 rfl dX5_hitIsBeforeFirst_18 ?_
    refine r_lmul O 20 rfl dX5_hitIsBeforeFirst_19 ?_
    refine r_ald_n O 21 rfl 0 rfl dX5_hitIsBeforeFirst_20 ?_
    refine r_get (ref := RX5) (C := RX5) (T := TX5) (N := 12) O 24 rfl inBX5 0 10 rfl rfl rfl (by decide) flX5_40 rfl rfl dX5_hitIsBeforeFirst_21 ?_
    refine r_i2l O 25 rfl dX5_hitIsBeforeFirst_24 ?_
    refine r_ald_n O 26 rfl 0 rfl dX5_hitIsBeforeFirst_25 ?_
    refine r_get (ref := RX5) (C := RX5) (T := TX5) (N := 12) O 29 rfl inBX5 0 8 rfl rfl rfl (by decide) flX5_34 rfl rfl dX5_hitIsBeforeFirst_26 ?_
    refine r_i2l O 30 rfl dX5_hitIsBeforeFirst_29 ?_
    refine r_lmul O 31 rfl dX5_hitIsBeforeFirst_30 ?_
    refine r_lcmp O 32 rfl dX5_hitIsBeforeFirst_31 ?_
    refine r_if_ge O 35 rfl 39 dX5_hitIsBeforeFirst_32 (by decide) (fun hc32 => ?_) (fun hc32 => ?_)
    · rw [if_pos hc32] at hf
      refine r_ic O 40 rfl 0 (by decide) dX5_hitIsBeforeFirst_39 ?_
      obtain g0 := qe1 hf
      exact r_zret2 O E g0 rfl rfl dX5_hitIsBeforeFirst_40
    · rw [if_neg hc32] at hf
      refine r_ic O 36 rfl 1 (by decide) dX5_hitIsBeforeFirst_35 ?_
      refine r_goto O 40 dX5_hitIsBeforeFirst_36 (by decide) ?_
      obtain g0 := qe1 hf
      exact r_zret2 O E g0 rfl rfl dX5_hitIsBeforeFirst_40
-- X5_findFirstHit
def rmX5_findFirstHit : Room := { frames := 2, cells := 0, slots := 0, locals := 48 }
set_option maxHeartbeats 4000000 in
set_option maxRecDepth 100000 in
theorem zX5_findFirstHit {l : Launch} {D : va_G} {cI cZ cQ : ClassId} {h_t h_w : Nat → Nat} {u_w u_t : Pk} {v_t : Pk} (hf : fX5_findFirstHit u_w u_t = some v_t) : MV l yX5_findFirstHit wsX5_findFirstHit rmX5_findFirstHit D (TY cI cZ cQ) [.ref (h_t 0)] [nX5 cI cZ cQ h_t (h_w 0) u_t, nX8 cI cZ cQ h_w u_w] [nX5 cI cZ cQ h_t (h_w 0) v_t, nX8 cI cZ cQ h_w u_w] := by
  refine MV.of (own := RX5) (by decide +kernel) rfl rfl (Nat.le_of_ble_eq_true rfl) (lv0 := [(0, .ref (h_t 0))]) rfl ?_
  intro X O E
  have B59 : ∀ (rec8 : Pk → Int32 → Option (Pk)), (∀ (w_t : Pk) (y1 : Int32), rec8 w_t y1 = some v_t → BK X 2 0 0 8 ([nX5 cI cZ cQ h_t (h_w 0) w_t, nX8 cI cZ cQ h_w u_w]) [(0, .ref (h_t 0)), (1, .int y1)] []) → ∀ (w_t : Pk) (y1 : Int32), fX5_findFirstHit_b59 rec8 u_w w_t y1 = some v_t → BK X 2 0 0 59 ([nX5 cI cZ cQ h_t (h_w 0) w_t, nX8 cI cZ cQ h_w u_w]) [(0, .ref (h_t 0)), (1, .int y1)] [] := by
    intro rec8 hrec8 w_t y1 hf
    unfold fX5_findFirstHit_b59 at hf
    obtain ⟨x59, ex59, hf⟩ := qn_some hf
    refine r_iinc O 62 rfl x59 1 rfl (by rw [ex59]; rfl) [(1, .int x59), (0, .ref (h_t 0))] dX5_findFirstHit_59 (by decide) rfl ?_
    refine r_goto O 8 dX5_findFirstHit_62 (by decide) ?_
    refine r_lv [1, 0] rfl ?_
    exact hrec8 _ _ hf
  have B8 : ∀ n : Nat, ∀ (w_t : Pk) (y1 : Int32), fX5_findFirstHit_b8 u_w n w_t y1 = some v_t → BK X 2 0 0 8 ([nX5 cI cZ cQ h_t (h_w 0) w_t, nX8 cI cZ cQ h_w u_w]) [(0, .ref (h_t 0)), (1, .int y1)] [] := by
    intro n
    induction n with
    | zero => exact fun _ _ hf => qno hf
    | succ n hrec8 =>
      intro w_t y1 hf
      have hf : fX5_findFirstHit_b8_s (fX5_findFirstHit_b8 u_w n) u_w w_t y1 = some v_t := hf
      generalize fX5_findFirstHit_b8 u_w n = rec8 at hf hrec8
      unfold fX5_findFirstHit_b8_s at hf
      refine r_ild_n O 9 rfl 1 rfl dX5_findFirstHit_8 ?_
      refine r_bi O 11 rfl 12 (by decide) dX5_findFirstHit_9 ?_
      refine r_icmp_ge O 14 rfl 65 dX5_findFirstHit_11 (by decide) (fun hc11 => ?_) (fun hc11 => ?_)
      · rw [if_pos hc11] at hf
        obtain g0 := qe1 hf
        exact r_vret2 O E (by rw [g0]) dX5_findFirstHit_65
      · rw [if_neg hc11] at hf
        refine r_ald_n O 15 rfl 0 rfl dX5_findFirstHit_14 ?_
        refine r_get (ref := RX5) (C := RX5) (T := TX5) (N := 12) O 18 rfl inBX5 0 1 rfl rfl rfl (by decide) flX5_9 rfl rfl dX5_findFirstHit_15 ?_
        refine r_ild_n O 19 rfl 1 rfl dX5_findFirstHit_18 ?_
        obtain ⟨x19, ex19, hin19, hf⟩ := qld_some hf
        refine r_zald O 20 rfl 0 1 rfl rfl hin19 dX5_findFirstHit_19 ?_
        rw [← ex19]
        refine r_if_eq O 23 rfl 59 dX5_findFirstHit_20 (by decide) (fun hc20 => ?_) (fun hc20 => ?_)
        · rw [if_pos hc20] at hf
          exact B59 rec8 hrec8 _ _ hf
        · rw [if_neg hc20] at hf
          refine r_ald_n O 24 rfl 0 rfl dX5_findFirstHit_23 ?_
          refine r_ild_n O 25 rfl 1 rfl dX5_findFirstHit_24 ?_
          obtain ⟨x25, p25_t, hq25, hf⟩ := qb2_some hf
          refine k_VZ O 28 rfl (zX5_hits (l := xl X) (D := xD X) (cI := cI) (cZ := cZ) (cQ := cQ) (h_t := h_t) (h_w := h_w) hq25) (gV mlX5_75 mvX5_hits izX5) rfl rfl rfl hdX5_hits ⟨Nat.le_of_ble_eq_true rfl, Nat.le_of_ble_eq_true rfl⟩ rfl 0 rfl rfl rfl rfl (Nat.le_of_ble_eq_true rfl) ⟨Nat.zero_le _, Nat.zero_le _⟩ [0, 1] rfl rfl rfl ([nX5 cI cZ cQ h_t (h_w 0) p25_t, nX8 cI cZ cQ h_w u_w]) rfl dX5_findFirstHit_25 (fun hz25 => ?_)
          refine r_if_eq O 31 rfl 59 dX5_findFirstHit_28 (by decide) (fun hc28 => ?_) (fun hc28 => ?_)
          · rw [if_pos hc28] at hf
            exact B59 rec8 hrec8 _ _ hf
          · rw [if_neg hc28] at hf
            refine r_ald_n O 32 rfl 0 rfl dX5_findFirstHit_31 ?_
            obtain ⟨x32, hq32, hf⟩ := qb1_some hf
            refine k_VZ O 35 rfl (zX5_hitIsBeforeFirst (l := xl X) (D := xD X) (cI := cI) (cZ := cZ) (cQ := cQ) (h_t := h_t) (r_w := (h_w 0)) hq32) (gV mlX5_78 mvX5_hitIsBeforeFirst izX5) rfl rfl rfl hdX5_hitIsBeforeFirst ⟨Nat.le_of_ble_eq_true rfl, Nat.le_of_ble_eq_true rfl⟩ rfl 0 rfl rfl rfl rfl (Nat.le_of_ble_eq_true rfl) ⟨Nat.zero_le _, Nat.zero_le _⟩ [0] rfl rfl rfl ([nX5 cI cZ cQ h_t (h_w 0) p25_t, nX8 cI cZ cQ h_w u_w]) rfl dX5_findFirstHit_32 (fun hz32 => ?_)
            refine r_if_eq O 38 rfl 59 dX5_findFirstHit_35 (by decide) (fun hc35 => ?_) (fun hc35 => ?_)
            · rw [if_pos hc35] at hf
              exact B59 rec8 hrec8 _ _ hf
            · rw [if_neg hc35] at hf
              refine r_ald_n O 39 rfl 0 rfl dX5_findFirstHit_38 ?_
              refine r_ild_n O 40 rfl 1 rfl dX5_findFirstHit_39 ?_
              obtain ⟨p40_t, ep40_t, hf⟩ := qn_some hf
              refine r_put (ref := RX5) (C := RX5) (T := TX5) (N := 12) O 43 rfl inBX5 tyX5 tyX5_ok nmX5 0 9 rfl rfl rfl (by decide) flX5_37 rfl rfl rfl rfl (Nat.le_of_ble_eq_true rfl) ([nX5 cI cZ cQ h_t (h_w 0) p40_t, nX8 cI cZ cQ h_w u_w]) (by rw [ep40_t]; rfl) dX5_findFirstHit_40 ?_
              refine r_ald_n O 44 rfl 0 rfl dX5_findFirstHit_43 ?_
              refine r_ald_n O 45 rfl 0 rfl dX5_findFirstHit_44 ?_
              refine r_get (ref := RX5) (C := RX5) (T := TX5) (N := 12) O 48 rfl inBX5 0 6 rfl rfl rfl (by decide) flX5_28 rfl rfl dX5_findFirstHit_45 ?_
              obtain ⟨p48_t, ep48_t, hf⟩ := qn_some hf
              refine r_put (ref := RX5) (C := RX5) (T := TX5) (N := 12) O 51 rfl inBX5 tyX5 tyX5_ok nmX5 0 10 rfl rfl rfl (by decide) flX5_40 rfl rfl rfl rfl (Nat.le_of_ble_eq_true rfl) ([nX5 cI cZ cQ h_t (h_w 0) p48_t, nX8 cI cZ cQ h_w u_w]) (by rw [ep48_t]; rfl) dX5_findFirstHit_48 ?_
              refine r_ald_n O 52 rfl 0 rfl dX5_findFirstHit_51 ?_
              refine r_ald_n O 53 rfl 0 rfl dX5_findFirstHit_52 ?_
              refine r_get (ref := RX5) (C := RX5) (T := TX5) (N := 12) O 56 rfl inBX5 0 8 rfl rfl rfl (by decide) flX5_34 rfl rfl dX5_findFirstHit_53 ?_
              obtain ⟨p56_t, ep56_t, hf⟩ := qn_some hf
              refine r_put (ref := RX5) (C := RX5) (T := TX5) (N := 12) O 59 rfl inBX5 tyX5 tyX5_ok nmX5 0 11 rfl rfl rfl (by decide) flX5_43 rfl rfl rfl rfl (Nat.le_of_ble_eq_true rfl) ([nX5 cI cZ cQ h_t (h_w 0) p56_t, nX8 cI cZ cQ h_w u_w]) (by rw [ep56_t]; rfl) dX5_findFirstHit_56 ?_
              exact B59 rec8 hrec8 _ _ hf
  unfold fX5_findFirstHit at hf
  refine r_ald_n O 1 rfl 0 rfl dX5_findFirstHit_0 ?_
  refine r_bi O 3 rfl (-8) (by decide) dX5_findFirstHit_1 ?_
  obtain ⟨p3_t, ep3_t, hf⟩ := qn_some hf
  refine r_put (ref := RX5) (C := RX5) (T := TX5) (N := 12) O 6 rfl inBX5 tyX5 tyX5_ok nmX5 0 9 rfl rfl rfl (by decide) flX5_37 rfl rfl rfl rfl (Nat.le_of_ble_eq_true rfl) ([nX5 cI cZ cQ h_t (h_w 0) p3_t, nX8 cI cZ cQ h_w u_w]) (by rw [ep3_t]; rfl) dX5_findFirstHit_3 ?_
  refine r_ic O 7 rfl 0 (by decide) dX5_findFirstHit_6 ?_
  refine r_ist_n O 8 rfl rfl [(1, .int 0), (0, .ref (h_t 0))] dX5_findFirstHit_7 (by decide) rfl ?_
  refine r_lv [1, 0] rfl ?_
  exact B8 FU _ _ hf
-- X5_firstHitWall
def rmX5_firstHitWall : Room := { frames := 0, cells := 0, slots := 0, locals := 0 }
set_option maxHeartbeats 4000000 in
set_option maxRecDepth 100000 in
theorem zX5_firstHitWall {l : Launch} {D : va_G} {cI cZ cQ : ClassId} {h_t : Nat → Nat} {r_w : Nat} {u_t : Pk} {r0 : Int32} (hf : fX5_firstHitWall u_t = some r0) : MI l yX5_firstHitWall wsX5_firstHitWall rmX5_firstHitWall D (TY cI cZ cQ) [.ref (h_t 0)] [nX5 cI cZ cQ h_t r_w u_t] r0 [nX5 cI cZ cQ h_t r_w u_t] := by
  refine MI.of (own := RX5) (by decide +kernel) rfl rfl (Nat.le_of_ble_eq_true rfl) (lv0 := [(0, .ref (h_t 0))]) rfl ?_
  intro X O E
  unfold fX5_firstHitWall at hf
  refine r_ald_n O 1 rfl 0 rfl dX5_firstHitWall_0 ?_
  refine r_get (ref := RX5) (C := RX5) (T := TX5) (N := 12) O 4 rfl inBX5 0 9 rfl rfl rfl (by decide) flX5_37 rfl rfl dX5_firstHitWall_1 ?_
  obtain g0 := qe1 hf
  exact r_iret2 O E g0 rfl dX5_firstHitWall_4
-- X5_firstHitTop
def rmX5_firstHitTop : Room := { frames := 0, cells := 0, slots := 0, locals := 0 }
set_option maxHeartbeats 4000000 in
set_option maxRecDepth 100000 in
theorem zX5_firstHitTop {l : Launch} {D : va_G} {cI cZ cQ : ClassId} {h_t : Nat → Nat} {r_w : Nat} {u_t : Pk} {r0 : Int32} (hf : fX5_firstHitTop u_t = some r0) : MI l yX5_firstHitTop wsX5_firstHitTop rmX5_firstHitTop D (TY cI cZ cQ) [.ref (h_t 0)] [nX5 cI cZ cQ h_t r_w u_t] r0 [nX5 cI cZ cQ h_t r_w u_t] := by
  refine MI.of (own := RX5) (by decide +kernel) rfl rfl (Nat.le_of_ble_eq_true rfl) (lv0 := [(0, .ref (h_t 0))]) rfl ?_
  intro X O E
  unfold fX5_firstHitTop at hf
  refine r_ald_n O 1 rfl 0 rfl dX5_firstHitTop_0 ?_
  refine r_get (ref := RX5) (C := RX5) (T := TX5) (N := 12) O 4 rfl inBX5 0 10 rfl rfl rfl (by decide) flX5_40 rfl rfl dX5_firstHitTop_1 ?_
  obtain g0 := qe1 hf
  exact r_iret2 O E g0 rfl dX5_firstHitTop_4
-- X5_firstHitBottom
def rmX5_firstHitBottom : Room := { frames := 0, cells := 0, slots := 0, locals := 0 }
set_option maxHeartbeats 4000000 in
set_option maxRecDepth 100000 in
theorem zX5_firstHitBottom {l : Launch} {D : va_G} {cI cZ cQ : ClassId} {h_t : Nat → Nat} {r_w : Nat} {u_t : Pk} {r0 : Int32} (hf : fX5_firstHitBottom u_t = some r0) : MI l yX5_firstHitBottom wsX5_firstHitBottom rmX5_firstHitBottom D (TY cI cZ cQ) [.ref (h_t 0)] [nX5 cI cZ cQ h_t r_w u_t] r0 [nX5 cI cZ cQ h_t r_w u_t] := by
  refine MI.of (own := RX5) (by decide +kernel) rfl rfl (Nat.le_of_ble_eq_true rfl) (lv0 := [(0, .ref (h_t 0))]) rfl ?_
  intro X O E
  unfold fX5_firstHitBottom at hf
  refine r_ald_n O 1 rfl 0 rfl dX5_firstHitBottom_0 ?_
  refine r_get (ref := RX5) (C := RX5) (T := TX5) (N := 12) O 4 rfl inBX5 0 11 rfl rfl rfl (by decide) flX5_43 rfl rfl dX5_firstHitBottom_1 ?_
  obtain g0 := qe1 hf
  exact r_iret2 O E g0 rfl dX5_firstHitBottom_4
-- X5_firstHitIsWithinOne
def rmX5_firstHitIsWithinOne : Room := { frames := 0, cells := 0, slots := 0, locals := 0 }
set_option maxHeartbeats 4000000 in
set_option maxRecDepth 100000 in
theorem zX5_firstHitIsWithinOne {l : Launch} {D : va_G} {cI cZ cQ : ClassId} {h_t : Nat → Nat} {r_w : Nat} {u_t : Pk} {r0 : Int32} (hf : fX5_firstHitIsWithinOne u_t = some r0) : MZ l yX5_firstHitIsWithinOne wsX5_firstHitIsWithinOne rmX5_firstHitIsWithinOne D (TY cI cZ cQ) [.ref (h_t 0)] [nX5 cI cZ cQ h_t r_w u_t] r0 [nX5 cI cZ cQ h_t r_w u_t] := by
  refine MZ.of (own := RX5) (by decide +kernel) rfl rfl (Nat.le_of_ble_eq_true rfl) (lv0 := [(0, .ref (h_t 0))]) rfl ?_
  intro X O E
  unfold fX5_firstHitIsWithinOne at hf
  refine r_ald_n O 1 rfl 0 rfl dX5_firstHitIsWithinOne_0 ?_
  refine r_get (ref := RX5) (C := RX5) (T := TX5) (N := 12) O 4 rfl inBX5 0 9 rfl rfl rfl (by decide) flX5_37 rfl rfl dX5_firstHitIsWithinOne_1 ?_
  refine r_bi O 6 rfl (-8) (by decide) dX5_firstHitIsWithinOne_4 ?_
  refine r_icmp_eq O 9 rfl 24 dX5_firstHitIsWithinOne_6 (by decide) (fun hc6 => ?_) (fun hc6 => ?_)
  · rw [if_pos hc6] at hf
    refine r_ic O 25 rfl 0 (by decide) dX5_firstHitIsWithinOne_24 ?_
    obtain g0 := qe1 hf
    exact r_zret2 O E g0 rfl rfl dX5_firstHitIsWithinOne_25
  · rw [if_neg hc6] at hf
    refine r_ald_n O 10 rfl 0 rfl dX5_firstHitIsWithinOne_9 ?_
    refine r_get (ref := RX5) (C := RX5) (T := TX5) (N := 12) O 13 rfl inBX5 0 10 rfl rfl rfl (by decide) flX5_40 rfl rfl dX5_firstHitIsWithinOne_10 ?_
    refine r_ald_n O 14 rfl 0 rfl dX5_firstHitIsWithinOne_13 ?_
    refine r_get (ref := RX5) (C := RX5) (T := TX5) (N := 12) O 17 rfl inBX5 0 11 rfl rfl rfl (by decide) flX5_43 rfl rfl dX5_firstHitIsWithinOne_14 ?_
    refine r_icmp_gt O 20 rfl 24 dX5_firstHitIsWithinOne_17 (by decide) (fun hc17 => ?_) (fun hc17 => ?_)
    · rw [if_pos hc17] at hf
      refine r_ic O 25 rfl 0 (by decide) dX5_firstHitIsWithinOne_24 ?_
      obtain g0 := qe1 hf
      exact r_zret2 O E g0 rfl rfl dX5_firstHitIsWithinOne_25
    · rw [if_neg hc17] at hf
      refine r_ic O 21 rfl 1 (by decide) dX5_firstHitIsWithinOne_20 ?_
      refine r_goto O 25 dX5_firstHitIsWithinOne_21 (by decide) ?_
      obtain g0 := qe1 hf
      exact r_zret2 O E g0 rfl rfl dX5_firstHitIsWithinOne_25
-- X5_isBlocked
def rmX5_isBlocked : Room := { frames := 2, cells := 0, slots := 0, locals := 48 }
set_option maxHeartbeats 4000000 in
set_option maxRecDepth 100000 in
theorem zX5_isBlocked {l : Launch} {D : va_G} {cI cZ cQ : ClassId} {h_t h_w : Nat → Nat} {u_w u_t : Pk} {r0 : Int32} {v_t : Pk} (hf : fX5_isBlocked u_w u_t = some (r0, v_t)) : MZ l yX5_isBlocked wsX5_isBlocked rmX5_isBlocked D (TY cI cZ cQ) [.ref (h_t 0)] [nX5 cI cZ cQ h_t (h_w 0) u_t, nX8 cI cZ cQ h_w u_w] r0 [nX5 cI cZ cQ h_t (h_w 0) v_t, nX8 cI cZ cQ h_w u_w] := by
  refine MZ.of (own := RX5) (by decide +kernel) rfl rfl (Nat.le_of_ble_eq_true rfl) (lv0 := [(0, .ref (h_t 0))]) rfl ?_
  intro X O E
  have B38 : ∀ (rec2 : Pk → Int32 → Option (Int32 × Pk)), (∀ (w_t : Pk) (y1 : Int32), rec2 w_t y1 = some (r0, v_t) → BK X 2 0 0 2 ([nX5 cI cZ cQ h_t (h_w 0) w_t, nX8 cI cZ cQ h_w u_w]) [(0, .ref (h_t 0)), (1, .int y1)] []) → ∀ (w_t : Pk) (y1 : Int32), fX5_isBlocked_b38 rec2 u_w w_t y1 = some (r0, v_t) → BK X 2 0 0 38 ([nX5 cI cZ cQ h_t (h_w 0) w_t, nX8 cI cZ cQ h_w u_w]) [(0, .ref (h_t 0)), (1, .int y1)] [] := by
    intro rec2 hrec2 w_t y1 hf
    unfold fX5_isBlocked_b38 at hf
    obtain ⟨x38, ex38, hf⟩ := qn_some hf
    refine r_iinc O 41 rfl x38 1 rfl (by rw [ex38]; rfl) [(1, .int x38), (0, .ref (h_t 0))] dX5_isBlocked_38 (by decide) rfl ?_
    refine r_goto O 2 dX5_isBlocked_41 (by decide) ?_
    refine r_lv [1, 0] rfl ?_
    exact hrec2 _ _ hf
  have B2 : ∀ n : Nat, ∀ (w_t : Pk) (y1 : Int32), fX5_isBlocked_b2 u_w n w_t y1 = some (r0, v_t) → BK X 2 0 0 2 ([nX5 cI cZ cQ h_t (h_w 0) w_t, nX8 cI cZ cQ h_w u_w]) [(0, .ref (h_t 0)), (1, .int y1)] [] := by
    intro n
    induction n with
    | zero => exact fun _ _ hf => qno hf
    | succ n hrec2 =>
      intro w_t y1 hf
      have hf : fX5_isBlocked_b2_s (fX5_isBlocked_b2 u_w n) u_w w_t y1 = some (r0, v_t) := hf
      generalize fX5_isBlocked_b2 u_w n = rec2 at hf hrec2
      unfold fX5_isBlocked_b2_s at hf
      refine r_ild_n O 3 rfl 1 rfl dX5_isBlocked_2 ?_
      refine r_bi O 5 rfl 12 (by decide) dX5_isBlocked_3 ?_
      refine r_icmp_ge O 8 rfl 44 dX5_isBlocked_5 (by decide) (fun hc5 => ?_) (fun hc5 => ?_)
      · rw [if_pos hc5] at hf
        refine r_ic O 45 rfl 0 (by decide) dX5_isBlocked_44 ?_
        obtain ⟨g0, g1⟩ := qe2 hf
        exact r_zret2 O E g0 (by rw [g1]) rfl dX5_isBlocked_45
      · rw [if_neg hc5] at hf
        refine r_ald_n O 9 rfl 0 rfl dX5_isBlocked_8 ?_
        refine r_get (ref := RX5) (C := RX5) (T := TX5) (N := 12) O 12 rfl inBX5 0 1 rfl rfl rfl (by decide) flX5_9 rfl rfl dX5_isBlocked_9 ?_
        refine r_ild_n O 13 rfl 1 rfl dX5_isBlocked_12 ?_
        obtain ⟨x13, ex13, hin13, hf⟩ := qld_some hf
        refine r_zald O 14 rfl 0 1 rfl rfl hin13 dX5_isBlocked_13 ?_
        rw [← ex13]
        refine r_if_eq O 17 rfl 38 dX5_isBlocked_14 (by decide) (fun hc14 => ?_) (fun hc14 => ?_)
        · rw [if_pos hc14] at hf
          exact B38 rec2 hrec2 _ _ hf
        · rw [if_neg hc14] at hf
          refine r_ald_n O 18 rfl 0 rfl dX5_isBlocked_17 ?_
          refine r_ild_n O 19 rfl 1 rfl dX5_isBlocked_18 ?_
          obtain ⟨x19, p19_t, hq19, hf⟩ := qb2_some hf
          refine k_VZ O 22 rfl (zX5_hits (l := xl X) (D := xD X) (cI := cI) (cZ := cZ) (cQ := cQ) (h_t := h_t) (h_w := h_w) hq19) (gV mlX5_75 mvX5_hits izX5) rfl rfl rfl hdX5_hits ⟨Nat.le_of_ble_eq_true rfl, Nat.le_of_ble_eq_true rfl⟩ rfl 0 rfl rfl rfl rfl (Nat.le_of_ble_eq_true rfl) ⟨Nat.zero_le _, Nat.zero_le _⟩ [0, 1] rfl rfl rfl ([nX5 cI cZ cQ h_t (h_w 0) p19_t, nX8 cI cZ cQ h_w u_w]) rfl dX5_isBlocked_19 (fun hz19 => ?_)
          refine r_if_eq O 25 rfl 38 dX5_isBlocked_22 (by decide) (fun hc22 => ?_) (fun hc22 => ?_)
          · rw [if_pos hc22] at hf
            exact B38 rec2 hrec2 _ _ hf
          · rw [if_neg hc22] at hf
            refine r_ald_n O 26 rfl 0 rfl dX5_isBlocked_25 ?_
            refine r_get (ref := RX5) (C := RX5) (T := TX5) (N := 12) O 29 rfl inBX5 0 6 rfl rfl rfl (by decide) flX5_28 rfl rfl dX5_isBlocked_26 ?_
            refine r_ald_n O 30 rfl 0 rfl dX5_isBlocked_29 ?_
            refine r_get (ref := RX5) (C := RX5) (T := TX5) (N := 12) O 33 rfl inBX5 0 8 rfl rfl rfl (by decide) flX5_34 rfl rfl dX5_isBlocked_30 ?_
            refine r_icmp_gt O 36 rfl 38 dX5_isBlocked_33 (by decide) (fun hc33 => ?_) (fun hc33 => ?_)
            · rw [if_pos hc33] at hf
              exact B38 rec2 hrec2 _ _ hf
            · rw [if_neg hc33] at hf
              refine r_ic O 37 rfl 1 (by decide) dX5_isBlocked_36 ?_
              obtain ⟨g0, g1⟩ := qe2 hf
              exact r_zret2 O E g0 (by rw [g1]) rfl dX5_isBlocked_37
  unfold fX5_isBlocked at hf
  refine r_ic O 1 rfl 0 (by decide) dX5_isBlocked_0 ?_
  refine r_ist_n O 2 rfl rfl [(1, .int 0), (0, .ref (h_t 0))] dX5_isBlocked_1 (by decide) rfl ?_
  refine r_lv [1, 0] rfl ?_
  exact B2 FU _ _ hf
-- X5_countPanes
def rmX5_countPanes : Room := { frames := 2, cells := 0, slots := 0, locals := 48 }
set_option maxHeartbeats 4000000 in
set_option maxRecDepth 100000 in
theorem zX5_countPanes {l : Launch} {D : va_G} {cI cZ cQ : ClassId} {h_t h_w : Nat → Nat} {u_w u_t : Pk} {r0 : Int32} {v_t : Pk} (hf : fX5_countPanes u_w u_t = some (r0, v_t)) : MI l yX5_countPanes wsX5_countPanes rmX5_countPanes D (TY cI cZ cQ) [.ref (h_t 0)] [nX5 cI cZ cQ h_t (h_w 0) u_t, nX8 cI cZ cQ h_w u_w] r0 [nX5 cI cZ cQ h_t (h_w 0) v_t, nX8 cI cZ cQ h_w u_w] := by
  refine MI.of (own := RX5) (by decide +kernel) rfl rfl (Nat.le_of_ble_eq_true rfl) (lv0 := [(0, .ref (h_t 0))]) rfl ?_
  intro X O E
  have B40 : ∀ (rec4 : Pk → Int32 → Int32 → Option (Int32 × Pk)), (∀ (w_t : Pk) (y1 : Int32) (y2 : Int32), rec4 w_t y1 y2 = some (r0, v_t) → BK X 3 0 0 4 ([nX5 cI cZ cQ h_t (h_w 0) w_t, nX8 cI cZ cQ h_w u_w]) [(0, .ref (h_t 0)), (1, .int y1), (2, .int y2)] []) → ∀ (w_t : Pk) (y1 : Int32) (y2 : Int32), fX5_countPanes_b40 rec4 u_w w_t y1 y2 = some (r0, v_t) → BK X 3 0 0 40 ([nX5 cI cZ cQ h_t (h_w 0) w_t, nX8 cI cZ cQ h_w u_w]) [(0, .ref (h_t 0)), (1, .int y1), (2, .int y2)] [] := by
    intro rec4 hrec4 w_t y1 y2 hf
    unfold fX5_countPanes_b40 at hf
    obtain ⟨x40, ex40, hf⟩ := qn_some hf
    refine r_iinc O 43 rfl x40 2 rfl (by rw [ex40]; rfl) [(2, .int x40), (0, .ref (h_t 0)), (1, .int y1)] dX5_countPanes_40 (by decide) rfl ?_
    refine r_goto O 4 dX5_countPanes_43 (by decide) ?_
    refine r_lv [1, 2, 0] rfl ?_
    exact hrec4 _ _ _ hf
  have B4 : ∀ n : Nat, ∀ (w_t : Pk) (y1 : Int32) (y2 : Int32), fX5_countPanes_b4 u_w n w_t y1 y2 = some (r0, v_t) → BK X 3 0 0 4 ([nX5 cI cZ cQ h_t (h_w 0) w_t, nX8 cI cZ cQ h_w u_w]) [(0, .ref (h_t 0)), (1, .int y1), (2, .int y2)] [] := by
    intro n
    induction n with
    | zero => exact fun _ _ _ hf => qno hf
    | succ n hrec4 =>
      intro w_t y1 y2 hf
      have hf : fX5_countPanes_b4_s (fX5_countPanes_b4 u_w n) u_w w_t y1 y2 = some (r0, v_t) := hf
      generalize fX5_countPanes_b4 u_w n = rec4 at hf hrec4
      unfold fX5_countPanes_b4_s at hf
      refine r_ild_n O 5 rfl 2 rfl dX5_countPanes_4 ?_
      refine r_bi O 7 rfl 12 (by decide) dX5_countPanes_5 ?_
      refine r_icmp_ge O 10 rfl 46 dX5_countPanes_7 (by decide) (fun hc7 => ?_) (fun hc7 => ?_)
      · rw [if_pos hc7] at hf
        refine r_ild_n O 47 rfl 1 rfl dX5_countPanes_46 ?_
        obtain ⟨g0, g1⟩ := qe2 hf
        exact r_iret2 O E g0 (by rw [g1]) dX5_countPanes_47
      · rw [if_neg hc7] at hf
        refine r_ald_n O 11 rfl 0 rfl dX5_countPanes_10 ?_
        refine r_get (ref := RX5) (C := RX5) (T := TX5) (N := 12) O 14 rfl inBX5 0 0 rfl rfl rfl (by decide) flX5_46 rfl rfl dX5_countPanes_11 ?_
        refine r_ild_n O 15 rfl 2 rfl dX5_countPanes_14 ?_
        obtain ⟨x15, hq15, hf⟩ := qb1_some hf
        refine k_VI O 18 rfl (zX8_kindOf (l := xl X) (D := xD X) (cI := cI) (cZ := cZ) (cQ := cQ) (h_t := h_w) hq15) (gV mlX5_82 mvX8_kindOf izX8) rfl rfl rfl hdX8_kindOf ⟨Nat.le_of_ble_eq_true rfl, Nat.le_of_ble_eq_true rfl⟩ rfl 1 rfl rfl rfl rfl (Nat.le_of_ble_eq_true rfl) ⟨Nat.zero_le _, Nat.zero_le _⟩ [1] rfl rfl rfl ([nX5 cI cZ cQ h_t (h_w 0) w_t, nX8 cI cZ cQ h_w u_w]) rfl dX5_countPanes_15 ?_
        refine r_ic O 19 rfl 1 (by decide) dX5_countPanes_18 ?_
        refine r_icmp_ne O 22 rfl 40 dX5_countPanes_19 (by decide) (fun hc19 => ?_) (fun hc19 => ?_)
        · rw [if_neg hc19] at hf
          exact B40 rec4 hrec4 _ _ _ hf
        · rw [if_pos hc19] at hf
          refine r_ald_n O 23 rfl 0 rfl dX5_countPanes_22 ?_
          refine r_ild_n O 24 rfl 2 rfl dX5_countPanes_23 ?_
          obtain ⟨x24, p24_t, hq24, hf⟩ := qb2_some hf
          refine k_VZ O 27 rfl (zX5_hits (l := xl X) (D := xD X) (cI := cI) (cZ := cZ) (cQ := cQ) (h_t := h_t) (h_w := h_w) hq24) (gV mlX5_75 mvX5_hits izX5) rfl rfl rfl hdX5_hits ⟨Nat.le_of_ble_eq_true rfl, Nat.le_of_ble_eq_true rfl⟩ rfl 0 rfl rfl rfl rfl (Nat.le_of_ble_eq_true rfl) ⟨Nat.zero_le _, Nat.zero_le _⟩ [0, 1] rfl rfl rfl ([nX5 cI cZ cQ h_t (h_w 0) p24_t, nX8 cI cZ cQ h_w u_w]) rfl dX5_countPanes_24 (fun hz24 => ?_)
          refine r_if_eq O 30 rfl 40 dX5_countPanes_27 (by decide) (fun hc27 => ?_) (fun hc27 => ?_)
          · rw [if_pos hc27] at hf
            exact B40 rec4 hrec4 _ _ _ hf
          · rw [if_neg hc27] at hf
            refine r_ald_n O 31 rfl 0 rfl dX5_countPanes_30 ?_
            obtain ⟨x31, hq31, hf⟩ := qb1_some hf
            refine k_VZ O 34 rfl (zX5_hitIsBeforeFirst (l := xl X) (D := xD X) (cI := cI) (cZ := cZ) (cQ := cQ) (h_t := h_t) (r_w := (h_w 0)) hq31) (gV mlX5_78 mvX5_hitIsBeforeFirst izX5) rfl rfl rfl hdX5_hitIsBeforeFirst ⟨Nat.le_of_ble_eq_true rfl, Nat.le_of_ble_eq_true rfl⟩ rfl 0 rfl rfl rfl rfl (Nat.le_of_ble_eq_true rfl) ⟨Nat.zero_le _, Nat.zero_le _⟩ [0] rfl rfl rfl ([nX5 cI cZ cQ h_t (h_w 0) p24_t, nX8 cI cZ cQ h_w u_w]) rfl dX5_countPanes_31 (fun hz31 => ?_)
            refine r_if_eq O 37 rfl 40 dX5_countPanes_34 (by decide) (fun hc34 => ?_) (fun hc34 => ?_)
            · rw [if_pos hc34] at hf
              exact B40 rec4 hrec4 _ _ _ hf
            · rw [if_neg hc34] at hf
              obtain ⟨x37, ex37, hf⟩ := qn_some hf
              refine r_iinc O 40 rfl x37 1 rfl (by rw [ex37]; rfl) [(1, .int x37), (0, .ref (h_t 0)), (2, .int y2)] dX5_countPanes_37 (by decide) rfl ?_
              refine r_lv [1, 0, 2] rfl ?_
              exact B40 rec4 hrec4 _ _ _ hf
  unfold fX5_countPanes at hf
  refine r_ic O 1 rfl 0 (by decide) dX5_countPanes_0 ?_
  refine r_ist_n O 2 rfl rfl [(1, .int 0), (0, .ref (h_t 0))] dX5_countPanes_1 (by decide) rfl ?_
  refine r_ic O 3 rfl 0 (by decide) dX5_countPanes_2 ?_
  refine r_ist_n O 4 rfl rfl [(2, .int 0), (1, .int 0), (0, .ref (h_t 0))] dX5_countPanes_3 (by decide) rfl ?_
  refine r_lv [2, 1, 0] rfl ?_
  exact B4 FU _ _ _ hf
-- X7_length
def rmX7_length : Room := { frames := 0, cells := 0, slots := 0, locals := 0 }
set_option maxHeartbeats 4000000 in
set_option maxRecDepth 100000 in
theorem zX7_length {l : Launch} {D : va_G} {cI cZ cQ : ClassId} {h_t : Nat → Nat} {u_t : Pk} {r0 : Int32} (hf : fX7_length u_t = some r0) : MI l yX7_length wsX7_length rmX7_length D (TY cI cZ cQ) [.ref (h_t 0)] [nX7 cI cZ cQ h_t u_t] r0 [nX7 cI cZ cQ h_t u_t] := by
  refine MI.of (own := RX7) (by decide +kernel) rfl rfl (Nat.le_of_ble_eq_true rfl) (lv0 := [(0, .ref (h_t 0))]) rfl ?_
  intro X O E
  unfold fX7_length at hf
  refine r_ald_n O 1 rfl 0 rfl dX7_length_0 ?_
  refine r_get (ref := RX7) (C := RX7) (T := TX7) (N := 7) O 4 rfl inBX7 0 2 rfl rfl rfl (by decide) flX7_18 rfl rfl dX7_length_1 ?_
  obtain g0 := qe1 hf
  exact r_iret2 O E g0 rfl dX7_length_4
-- X7_isFull
def rmX7_isFull : Room := { frames := 0, cells := 0, slots := 0, locals := 0 }
set_option maxHeartbeats 4000000 in
set_option maxRecDepth 100000 in
theorem zX7_isFull {l : Launch} {D : va_G} {cI cZ cQ : ClassId} {h_t : Nat → Nat} {u_t : Pk} {r0 : Int32} (hf : fX7_isFull u_t = some r0) : MZ l yX7_isFull wsX7_isFull rmX7_isFull D (TY cI cZ cQ) [.ref (h_t 0)] [nX7 cI cZ cQ h_t u_t] r0 [nX7 cI cZ cQ h_t u_t] := by
  refine MZ.of (own := RX7) (by decide +kernel) rfl rfl (Nat.le_of_ble_eq_true rfl) (lv0 := [(0, .ref (h_t 0))]) rfl ?_
  intro X O E
  unfold fX7_isFull at hf
  refine r_ald_n O 1 rfl 0 rfl dX7_isFull_0 ?_
  refine r_get (ref := RX7) (C := RX7) (T := TX7) (N := 7) O 4 rfl inBX7 0 2 rfl rfl rfl (by decide) flX7_18 rfl rfl dX7_isFull_1 ?_
  refine r_si O 7 rfl 300 (by decide) dX7_isFull_4 ?_
  refine r_icmp_lt O 10 rfl 14 dX7_isFull_7 (by decide) (fun hc7 => ?_) (fun hc7 => ?_)
  · rw [if_pos hc7] at hf
    refine r_ic O 15 rfl 0 (by decide) dX7_isFull_14 ?_
    obtain g0 := qe1 hf
    exact r_zret2 O E g0 rfl rfl dX7_isFull_15
  · rw [if_neg hc7] at hf
    refine r_ic O 11 rfl 1 (by decide) dX7_isFull_10 ?_
    refine r_goto O 15 dX7_isFull_11 (by decide) ?_
    obtain g0 := qe1 hf
    exact r_zret2 O E g0 rfl rfl dX7_isFull_15
-- X7_append
def rmX7_append : Room := { frames := 0, cells := 0, slots := 0, locals := 0 }
set_option maxHeartbeats 4000000 in
set_option maxRecDepth 100000 in
theorem zX7_append {l : Launch} {D : va_G} {cI cZ cQ : ClassId} {h_t : Nat → Nat} {u_t : Pk} {a1 : Int32} {v_t : Pk} (hf : fX7_append u_t a1 = some v_t) : MV l yX7_append wsX7_append rmX7_append D (TY cI cZ cQ) [.ref (h_t 0), .int a1] [nX7 cI cZ cQ h_t u_t] [nX7 cI cZ cQ h_t v_t] := by
  refine MV.of (own := RX7) (by decide +kernel) rfl rfl (Nat.le_of_ble_eq_true rfl) (lv0 := [(0, .ref (h_t 0)), (1, .int a1)]) rfl ?_
  intro X O E
  unfold fX7_append at hf
  refine r_ald_n O 1 rfl 0 rfl dX7_append_0 ?_
  refine r_get (ref := RX7) (C := RX7) (T := TX7) (N := 7) O 4 rfl inBX7 0 2 rfl rfl rfl (by decide) flX7_18 rfl rfl dX7_append_1 ?_
  refine r_if_lt O 7 rfl 37 dX7_append_4 (by decide) (fun hc4 => ?_) (fun hc4 => ?_)
  · rw [if_pos hc4] at hf
    obtain g0 := qe1 hf
    exact r_vret2 O E (by rw [g0]) dX7_append_37
  · rw [if_neg hc4] at hf
    refine r_ald_n O 8 rfl 0 rfl dX7_append_7 ?_
    refine r_get (ref := RX7) (C := RX7) (T := TX7) (N := 7) O 11 rfl inBX7 0 2 rfl rfl rfl (by decide) flX7_18 rfl rfl dX7_append_8 ?_
    refine r_si O 14 rfl 300 (by decide) dX7_append_11 ?_
    refine r_icmp_ge O 17 rfl 37 dX7_append_14 (by decide) (fun hc14 => ?_) (fun hc14 => ?_)
    · rw [if_pos hc14] at hf
      obtain g0 := qe1 hf
      exact r_vret2 O E (by rw [g0]) dX7_append_37
    · rw [if_neg hc14] at hf
      refine r_ald_n O 18 rfl 0 rfl dX7_append_17 ?_
      refine r_get (ref := RX7) (C := RX7) (T := TX7) (N := 7) O 21 rfl inBX7 0 0 rfl rfl rfl (by decide) flX7_11 rfl rfl dX7_append_18 ?_
      refine r_ald_n O 22 rfl 0 rfl dX7_append_21 ?_
      refine r_get (ref := RX7) (C := RX7) (T := TX7) (N := 7) O 25 rfl inBX7 0 2 rfl rfl rfl (by decide) flX7_18 rfl rfl dX7_append_22 ?_
      refine r_ild_n O 26 rfl 1 rfl dX7_append_25 ?_
      obtain ⟨hin26, hf⟩ := qst_some hf
      obtain ⟨p26_t, ep26_t, hf⟩ := qn_some hf
      refine r_iast O 27 rfl 0 1 rfl rfl hin26 ([nX7 cI cZ cQ h_t p26_t]) (by rw [ep26_t]; rfl) dX7_append_26 ?_
      refine r_ald_n O 28 rfl 0 rfl dX7_append_27 ?_
      refine r_dup O 29 rfl dX7_append_28 rfl ?_
      refine r_get (ref := RX7) (C := RX7) (T := TX7) (N := 7) O 32 rfl inBX7 0 2 rfl rfl rfl (by decide) flX7_18 rfl rfl dX7_append_29 ?_
      refine r_ic O 33 rfl 1 (by decide) dX7_append_32 ?_
      refine r_iadd O 34 rfl dX7_append_33 ?_
      obtain ⟨p34_t, ep34_t, hf⟩ := qn_some hf
      refine r_put (ref := RX7) (C := RX7) (T := TX7) (N := 7) O 37 rfl inBX7 tyX7 tyX7_ok nmX7 0 2 rfl rfl rfl (by decide) flX7_18 rfl rfl rfl rfl (Nat.le_of_ble_eq_true rfl) ([nX7 cI cZ cQ h_t p34_t]) (by rw [ep34_t]; rfl) dX7_append_34 ?_
      obtain g0 := qe1 hf
      exact r_vret2 O E (by rw [g0]) dX7_append_37
-- X7_clear
def rmX7_clear : Room := { frames := 0, cells := 0, slots := 0, locals := 0 }
set_option maxHeartbeats 4000000 in
set_option maxRecDepth 100000 in
theorem zX7_clear {l : Launch} {D : va_G} {cI cZ cQ : ClassId} {h_t : Nat → Nat} {u_t : Pk} {v_t : Pk} (hf : fX7_clear u_t = some v_t) : MV l yX7_clear wsX7_clear rmX7_clear D (TY cI cZ cQ) [.ref (h_t 0)] [nX7 cI cZ cQ h_t u_t] [nX7 cI cZ cQ h_t v_t] := by
  refine MV.of (own := RX7) (by decide +kernel) rfl rfl (Nat.le_of_ble_eq_true rfl) (lv0 := [(0, .ref (h_t 0))]) rfl ?_
  intro X O E
  unfold fX7_clear at hf
  refine r_ald_n O 1 rfl 0 rfl dX7_clear_0 ?_
  refine r_ic O 2 rfl 0 (by decide) dX7_clear_1 ?_
  obtain ⟨p2_t, ep2_t, hf⟩ := qn_some hf
  refine r_put (ref := RX7) (C := RX7) (T := TX7) (N := 7) O 5 rfl inBX7 tyX7 tyX7_ok nmX7 0 2 rfl rfl rfl (by decide) flX7_18 rfl rfl rfl rfl (Nat.le_of_ble_eq_true rfl) ([nX7 cI cZ cQ h_t p2_t]) (by rw [ep2_t]; rfl) dX7_clear_2 ?_
  obtain g0 := qe1 hf
  exact r_vret2 O E (by rw [g0]) dX7_clear_5
-- X7_placeOfFault
def rmX7_placeOfFault : Room := { frames := 0, cells := 0, slots := 0, locals := 0 }
set_option maxHeartbeats 4000000 in
set_option maxRecDepth 100000 in
theorem zX7_placeOfFault {l : Launch} {D : va_G} {cI cZ cQ : ClassId} {h_t : Nat → Nat} {u_t : Pk} {r0 : Int32} (hf : fX7_placeOfFault u_t = some r0) : MI l yX7_placeOfFault wsX7_placeOfFault rmX7_placeOfFault D (TY cI cZ cQ) [.ref (h_t 0)] [nX7 cI cZ cQ h_t u_t] r0 [nX7 cI cZ cQ h_t u_t] := by
  refine MI.of (own := RX7) (by decide +kernel) rfl rfl (Nat.le_of_ble_eq_true rfl) (lv0 := [(0, .ref (h_t 0))]) rfl ?_
  intro X O E
  unfold fX7_placeOfFault at hf
  refine r_ald_n O 1 rfl 0 rfl dX7_placeOfFault_0 ?_
  refine r_get (ref := RX7) (C := RX7) (T := TX7) (N := 7) O 4 rfl inBX7 0 4 rfl rfl rfl (by decide) flX7_25 rfl rfl dX7_placeOfFault_1 ?_
  obtain g0 := qe1 hf
  exact r_iret2 O E g0 rfl dX7_placeOfFault_4
-- X7_kindOfFault
def rmX7_kindOfFault : Room := { frames := 0, cells := 0, slots := 0, locals := 0 }
set_option maxHeartbeats 4000000 in
set_option maxRecDepth 100000 in
theorem zX7_kindOfFault {l : Launch} {D : va_G} {cI cZ cQ : ClassId} {h_t : Nat → Nat} {u_t : Pk} {r0 : Int32} (hf : fX7_kindOfFault u_t = some r0) : MI l yX7_kindOfFault wsX7_kindOfFault rmX7_kindOfFault D (TY cI cZ cQ) [.ref (h_t 0)] [nX7 cI cZ cQ h_t u_t] r0 [nX7 cI cZ cQ h_t u_t] := by
  refine MI.of (own := RX7) (by decide +kernel) rfl rfl (Nat.le_of_ble_eq_true rfl) (lv0 := [(0, .ref (h_t 0))]) rfl ?_
  intro X O E
  unfold fX7_kindOfFault at hf
  refine r_ald_n O 1 rfl 0 rfl dX7_kindOfFault_0 ?_
  refine r_get (ref := RX7) (C := RX7) (T := TX7) (N := 7) O 4 rfl inBX7 0 5 rfl rfl rfl (by decide) flX7_28 rfl rfl dX7_kindOfFault_1 ?_
  obtain g0 := qe1 hf
  exact r_iret2 O E g0 rfl dX7_kindOfFault_4
-- X7_itemOfFault
def rmX7_itemOfFault : Room := { frames := 0, cells := 0, slots := 0, locals := 0 }
set_option maxHeartbeats 4000000 in
set_option maxRecDepth 100000 in
theorem zX7_itemOfFault {l : Launch} {D : va_G} {cI cZ cQ : ClassId} {h_t : Nat → Nat} {u_t : Pk} {r0 : Int32} (hf : fX7_itemOfFault u_t = some r0) : MI l yX7_itemOfFault wsX7_itemOfFault rmX7_itemOfFault D (TY cI cZ cQ) [.ref (h_t 0)] [nX7 cI cZ cQ h_t u_t] r0 [nX7 cI cZ cQ h_t u_t] := by
  refine MI.of (own := RX7) (by decide +kernel) rfl rfl (Nat.le_of_ble_eq_true rfl) (lv0 := [(0, .ref (h_t 0))]) rfl ?_
  intro X O E
  unfold fX7_itemOfFault at hf
  refine r_ald_n O 1 rfl 0 rfl dX7_itemOfFault_0 ?_
  refine r_get (ref := RX7) (C := RX7) (T := TX7) (N := 7) O 4 rfl inBX7 0 6 rfl rfl rfl (by decide) flX7_31 rfl rfl dX7_itemOfFault_1 ?_
  obtain g0 := qe1 hf
  exact r_iret2 O E g0 rfl dX7_itemOfFault_4
-- X7_codeAt
def rmX7_codeAt : Room := { frames := 0, cells := 0, slots := 0, locals := 0 }
set_option maxHeartbeats 4000000 in
set_option maxRecDepth 100000 in
theorem zX7_codeAt {l : Launch} {D : va_G} {cI cZ cQ : ClassId} {h_t : Nat → Nat} {u_t : Pk} {a1 : Int32} {r0 : Int32} (hf : fX7_codeAt u_t a1 = some r0) : MI l yX7_codeAt wsX7_codeAt rmX7_codeAt D (TY cI cZ cQ) [.ref (h_t 0), .int a1] [nX7 cI cZ cQ h_t u_t] r0 [nX7 cI cZ cQ h_t u_t] := by
  refine MI.of (own := RX7) (by decide +kernel) rfl rfl (Nat.le_of_ble_eq_true rfl) (lv0 := [(0, .ref (h_t 0)), (1, .int a1)]) rfl ?_
  intro X O E
  unfold fX7_codeAt at hf
  refine r_ild_n O 1 rfl 1 rfl dX7_codeAt_0 ?_
  refine r_if_lt O 4 rfl 28 dX7_codeAt_1 (by decide) (fun hc1 => ?_) (fun hc1 => ?_)
  · rw [if_pos hc1] at hf
    refine r_ic O 29 rfl (-1) (by decide) dX7_codeAt_28 ?_
    obtain g0 := qe1 hf
    exact r_iret2 O E g0 rfl dX7_codeAt_29
  · rw [if_neg hc1] at hf
    refine r_ild_n O 5 rfl 1 rfl dX7_codeAt_4 ?_
    refine r_ald_n O 6 rfl 0 rfl dX7_codeAt_5 ?_
    refine r_get (ref := RX7) (C := RX7) (T := TX7) (N := 7) O 9 rfl inBX7 0 2 rfl rfl rfl (by decide) flX7_18 rfl rfl dX7_codeAt_6 ?_
    refine r_icmp_ge O 12 rfl 28 dX7_codeAt_9 (by decide) (fun hc9 => ?_) (fun hc9 => ?_)
    · rw [if_pos hc9] at hf
      refine r_ic O 29 rfl (-1) (by decide) dX7_codeAt_28 ?_
      obtain g0 := qe1 hf
      exact r_iret2 O E g0 rfl dX7_codeAt_29
    · rw [if_neg hc9] at hf
      refine r_ild_n O 13 rfl 1 rfl dX7_codeAt_12 ?_
      refine r_si O 16 rfl 300 (by decide) dX7_codeAt_13 ?_
      refine r_icmp_ge O 19 rfl 28 dX7_codeAt_16 (by decide) (fun hc16 => ?_) (fun hc16 => ?_)
      · rw [if_pos hc16] at hf
        refine r_ic O 29 rfl (-1) (by decide) dX7_codeAt_28 ?_
        obtain g0 := qe1 hf
        exact r_iret2 O E g0 rfl dX7_codeAt_29
      · rw [if_neg hc16] at hf
        refine r_ald_n O 20 rfl 0 rfl dX7_codeAt_19 ?_
        refine r_get (ref := RX7) (C := RX7) (T := TX7) (N := 7) O 23 rfl inBX7 0 0 rfl rfl rfl (by decide) flX7_11 rfl rfl dX7_codeAt_20 ?_
        refine r_ild_n O 24 rfl 1 rfl dX7_codeAt_23 ?_
        obtain ⟨x24, ex24, hin24, hf⟩ := qld_some hf
        refine r_iald O 25 rfl 0 1 rfl rfl hin24 dX7_codeAt_24 ?_
        rw [← ex24]
        refine r_goto O 29 dX7_codeAt_25 (by decide) ?_
        obtain g0 := qe1 hf
        exact r_iret2 O E g0 rfl dX7_codeAt_29
-- X7_kindOfLetter
def rmX7_kindOfLetter : Room := { frames := 0, cells := 0, slots := 0, locals := 0 }
set_option maxHeartbeats 4000000 in
set_option maxRecDepth 100000 in
theorem zX7_kindOfLetter {l : Launch} {D : va_G} {cI cZ cQ : ClassId} {a1 : Int32} {r0 : Int32} (hf : fX7_kindOfLetter a1 = some r0) : MI l yX7_kindOfLetter wsX7_kindOfLetter rmX7_kindOfLetter D (TY cI cZ cQ) [.int a1] [] r0 [] := by
  refine MI.of (own := RX7) (by decide +kernel) rfl rfl (Nat.le_of_ble_eq_true rfl) (lv0 := [(0, .int a1)]) rfl ?_
  intro X O E
  unfold fX7_kindOfLetter at hf
  refine r_ild_n O 1 rfl 0 rfl dX7_kindOfLetter_0 ?_
  by_cases hc1_103 : a1 = 103
  · rw [if_pos hc1_103] at hf
    refine r_look O 38 dX7_kindOfLetter_1 (by decide) (off := 37) (by rw [hc1_103]; rfl) (by decide) ?_
    refine r_ic O 39 rfl 1 (by decide) dX7_kindOfLetter_38 ?_
    obtain g0 := qe1 hf
    exact r_iret2 O E g0 rfl dX7_kindOfLetter_39
  rw [if_neg hc1_103] at hf
  by_cases hc1_111 : a1 = 111
  · rw [if_pos hc1_111] at hf
    refine r_look O 40 dX7_kindOfLetter_1 (by decide) (off := 39) (by rw [hc1_111]; rfl) (by decide) ?_
    refine r_ic O 41 rfl 2 (by decide) dX7_kindOfLetter_40 ?_
    obtain g0 := qe1 hf
    exact r_iret2 O E g0 rfl dX7_kindOfLetter_41
  rw [if_neg hc1_111] at hf
  by_cases hc1_115 : a1 = 115
  · rw [if_pos hc1_115] at hf
    refine r_look O 36 dX7_kindOfLetter_1 (by decide) (off := 35) (by rw [hc1_115]; rfl) (by decide) ?_
    refine r_ic O 37 rfl 0 (by decide) dX7_kindOfLetter_36 ?_
    obtain g0 := qe1 hf
    exact r_iret2 O E g0 rfl dX7_kindOfLetter_37
  rw [if_neg hc1_115] at hf
  have hi1_103 : a1.toInt ≠ 103 := fun e => hc1_103 (Int32.toInt_inj.mp (by rw [e]; rfl))
  have hi1_111 : a1.toInt ≠ 111 := fun e => hc1_111 (Int32.toInt_inj.mp (by rw [e]; rfl))
  have hi1_115 : a1.toInt ≠ 115 := fun e => hc1_115 (Int32.toInt_inj.mp (by rw [e]; rfl))
  refine r_look O 42 dX7_kindOfLetter_1 (by decide) (off := 41) (by simp [Op.lookupswitch.offset, hi1_103, Ne.symm hi1_103, hi1_111, Ne.symm hi1_111, hi1_115, Ne.symm hi1_115]) (by decide) ?_
  refine r_ic O 43 rfl (-1) (by decide) dX7_kindOfLetter_42 ?_
  obtain g0 := qe1 hf
  exact r_iret2 O E g0 rfl dX7_kindOfLetter_43
-- X7_fault
def rmX7_fault : Room := { frames := 0, cells := 0, slots := 0, locals := 0 }
set_option maxHeartbeats 4000000 in
set_option maxRecDepth 100000 in
theorem zX7_fault {l : Launch} {D : va_G} {cI cZ cQ : ClassId} {h_t : Nat → Nat} {u_t : Pk} {a1 : Int32} {a2 : Int32} {a3 : Int32} {r0 : Int32} {v_t : Pk} (hf : fX7_fault u_t a1 a2 a3 = some (r0, v_t)) : MZ l yX7_fault wsX7_fault rmX7_fault D (TY cI cZ cQ) [.ref (h_t 0), .int a1, .int a2, .int a3] [nX7 cI cZ cQ h_t u_t] r0 [nX7 cI cZ cQ h_t v_t] := by
  refine MZ.of (own := RX7) (by decide +kernel) rfl rfl (Nat.le_of_ble_eq_true rfl) (lv0 := [(0, .ref (h_t 0)), (1, .int a1), (2, .int a2), (3, .int a3)]) rfl ?_
  intro X O E
  unfold fX7_fault at hf
  refine r_ald_n O 1 rfl 0 rfl dX7_fault_0 ?_
  refine r_ild_n O 2 rfl 1 rfl dX7_fault_1 ?_
  obtain ⟨p2_t, ep2_t, hf⟩ := qn_some hf
  refine r_put (ref := RX7) (C := RX7) (T := TX7) (N := 7) O 5 rfl inBX7 tyX7 tyX7_ok nmX7 0 5 rfl rfl rfl (by decide) flX7_28 rfl rfl rfl rfl (Nat.le_of_ble_eq_true rfl) ([nX7 cI cZ cQ h_t p2_t]) (by rw [ep2_t]; rfl) dX7_fault_2 ?_
  refine r_ald_n O 6 rfl 0 rfl dX7_fault_5 ?_
  refine r_ild_n O 7 rfl 2 rfl dX7_fault_6 ?_
  obtain ⟨p7_t, ep7_t, hf⟩ := qn_some hf
  refine r_put (ref := RX7) (C := RX7) (T := TX7) (N := 7) O 10 rfl inBX7 tyX7 tyX7_ok nmX7 0 4 rfl rfl rfl (by decide) flX7_25 rfl rfl rfl rfl (Nat.le_of_ble_eq_true rfl) ([nX7 cI cZ cQ h_t p7_t]) (by rw [ep7_t]; rfl) dX7_fault_7 ?_
  refine r_ald_n O 11 rfl 0 rfl dX7_fault_10 ?_
  refine r_ild_n O 12 rfl 3 rfl dX7_fault_11 ?_
  obtain ⟨p12_t, ep12_t, hf⟩ := qn_some hf
  refine r_put (ref := RX7) (C := RX7) (T := TX7) (N := 7) O 15 rfl inBX7 tyX7 tyX7_ok nmX7 0 6 rfl rfl rfl (by decide) flX7_31 rfl rfl rfl rfl (Nat.le_of_ble_eq_true rfl) ([nX7 cI cZ cQ h_t p12_t]) (by rw [ep12_t]; rfl) dX7_fault_12 ?_
  refine r_ic O 16 rfl 0 (by decide) dX7_fault_15 ?_
  obtain ⟨g0, g1⟩ := qe2 hf
  exact r_zret2 O E g0 (by rw [g1]) rfl dX7_fault_16
-- X7_isDigit
def rmX7_isDigit : Room := { frames := 0, cells := 0, slots := 0, locals := 0 }
set_option maxHeartbeats 4000000 in
set_option maxRecDepth 100000 in
theorem zX7_isDigit {l : Launch} {D : va_G} {cI cZ cQ : ClassId} {a1 : Int32} {r0 : Int32} (hf : fX7_isDigit a1 = some r0) : MZ l yX7_isDigit wsX7_isDigit rmX7_isDigit D (TY cI cZ cQ) [.int a1] [] r0 [] := by
  refine MZ.of (own := RX7) (by decide +kernel) rfl rfl (Nat.le_of_ble_eq_true rfl) (lv0 := [(0, .int a1)]) rfl ?_
  intro X O E
  unfold fX7_isDigit at hf
  refine r_ild_n O 1 rfl 0 rfl dX7_isDigit_0 ?_
  refine r_bi O 3 rfl 48 (by decide) dX7_isDigit_1 ?_
  refine r_icmp_lt O 6 rfl 16 dX7_isDigit_3 (by decide) (fun hc3 => ?_) (fun hc3 => ?_)
  · rw [if_pos hc3] at hf
    refine r_ic O 17 rfl 0 (by decide) dX7_isDigit_16 ?_
    obtain g0 := qe1 hf
    exact r_zret2 O E g0 rfl rfl dX7_isDigit_17
  · rw [if_neg hc3] at hf
    refine r_ild_n O 7 rfl 0 rfl dX7_isDigit_6 ?_
    refine r_bi O 9 rfl 57 (by decide) dX7_isDigit_7 ?_
    refine r_icmp_gt O 12 rfl 16 dX7_isDigit_9 (by decide) (fun hc9 => ?_) (fun hc9 => ?_)
    · rw [if_pos hc9] at hf
      refine r_ic O 17 rfl 0 (by decide) dX7_isDigit_16 ?_
      obtain g0 := qe1 hf
      exact r_zret2 O E g0 rfl rfl dX7_isDigit_17
    · rw [if_neg hc9] at hf
      refine r_ic O 13 rfl 1 (by decide) dX7_isDigit_12 ?_
      refine r_goto O 17 dX7_isDigit_13 (by decide) ?_
      obtain g0 := qe1 hf
      exact r_zret2 O E g0 rfl rfl dX7_isDigit_17
-- X7_readNumber
def rmX7_readNumber : Room := { frames := 1, cells := 0, slots := 0, locals := 23 }
set_option maxHeartbeats 4000000 in
set_option maxRecDepth 100000 in
theorem zX7_readNumber {l : Launch} {D : va_G} {cI cZ cQ : ClassId} {h_t : Nat → Nat} {u_t : Pk} {a1 : Int32} {a2 : Int32} {r0 : Int32} {v_t : Pk} (hf : fX7_readNumber u_t a1 a2 = some (r0, v_t)) : MZ l yX7_readNumber wsX7_readNumber rmX7_readNumber D (TY cI cZ cQ) [.ref (h_t 0), .int a1, .int a2] [nX7 cI cZ cQ h_t u_t] r0 [nX7 cI cZ cQ h_t v_t] := by
  refine MZ.of (own := RX7) (by decide +kernel) rfl rfl (Nat.le_of_ble_eq_true rfl) (lv0 := [(0, .ref (h_t 0)), (1, .int a1), (2, .int a2)]) rfl ?_
  intro X O E
  have B131 : ∀ (w_t : Pk) (y1 : Int32) (y2 : Int32) (y4 : Int32) (z0 : Int32) (z1 : Int32), fX7_readNumber_b131 w_t y1 y2 y4 z0 z1 = some (r0, v_t) → BK X 5 0 0 131 ([nX7 cI cZ cQ h_t w_t]) [(0, .ref (h_t 0)), (1, .int y1), (2, .int y2), (4, .int y4)] [.int z1, .int z0] := by
    intro w_t y1 y2 y4 z0 z1 hf
    unfold fX7_readNumber_b131 at hf
    refine r_icmp_eq O 134 rfl 145 dX7_readNumber_131 (by decide) (fun hc131 => ?_) (fun hc131 => ?_)
    · rw [if_pos hc131] at hf
      refine r_ald_n O 146 rfl 0 rfl dX7_readNumber_145 ?_
      refine r_dup O 147 rfl dX7_readNumber_146 rfl ?_
      refine r_get (ref := RX7) (C := RX7) (T := TX7) (N := 7) O 150 rfl inBX7 0 3 rfl rfl rfl (by decide) flX7_22 rfl rfl dX7_readNumber_147 ?_
      refine r_ic O 151 rfl 1 (by decide) dX7_readNumber_150 ?_
      refine r_iadd O 152 rfl dX7_readNumber_151 ?_
      obtain ⟨p152_t, ep152_t, hf⟩ := qn_some hf
      refine r_put (ref := RX7) (C := RX7) (T := TX7) (N := 7) O 155 rfl inBX7 tyX7 tyX7_ok nmX7 0 3 rfl rfl rfl (by decide) flX7_22 rfl rfl rfl rfl (Nat.le_of_ble_eq_true rfl) ([nX7 cI cZ cQ h_t p152_t]) (by rw [ep152_t]; rfl) dX7_readNumber_152 ?_
      refine r_ild_n O 156 rfl 1 rfl dX7_readNumber_155 ?_
      refine r_if_lt O 159 rfl 172 dX7_readNumber_156 (by decide) (fun hc156 => ?_) (fun hc156 => ?_)
      · rw [if_pos hc156] at hf
        refine r_ic O 173 rfl 1 (by decide) dX7_readNumber_172 ?_
        obtain ⟨g0, g1⟩ := qe2 hf
        exact r_zret2 O E g0 (by rw [g1]) rfl dX7_readNumber_173
      · rw [if_neg hc156] at hf
        refine r_ild_n O 160 rfl 1 rfl dX7_readNumber_159 ?_
        refine r_ic O 161 rfl 4 (by decide) dX7_readNumber_160 ?_
        refine r_icmp_ge O 164 rfl 172 dX7_readNumber_161 (by decide) (fun hc161 => ?_) (fun hc161 => ?_)
        · rw [if_pos hc161] at hf
          refine r_ic O 173 rfl 1 (by decide) dX7_readNumber_172 ?_
          obtain ⟨g0, g1⟩ := qe2 hf
          exact r_zret2 O E g0 (by rw [g1]) rfl dX7_readNumber_173
        · rw [if_neg hc161] at hf
          refine r_ald_n O 165 rfl 0 rfl dX7_readNumber_164 ?_
          refine r_get (ref := RX7) (C := RX7) (T := TX7) (N := 7) O 168 rfl inBX7 0 1 rfl rfl rfl (by decide) flX7_15 rfl rfl dX7_readNumber_165 ?_
          refine r_ild_n O 169 rfl 1 rfl dX7_readNumber_168 ?_
          refine r_ild O 171 rfl 3 rfl dX7_readNumber_169 ?_
          obtain ⟨hin171, hf⟩ := qst_some hf
          obtain ⟨p171_t, ep171_t, hf⟩ := qn_some hf
          refine r_iast O 172 rfl 0 2 rfl rfl hin171 ([nX7 cI cZ cQ h_t p171_t]) (by rw [ep171_t]; rfl) dX7_readNumber_171 ?_
          refine r_ic O 173 rfl 1 (by decide) dX7_readNumber_172 ?_
          obtain ⟨g0, g1⟩ := qe2 hf
          exact r_zret2 O E g0 (by rw [g1]) rfl dX7_readNumber_173
    · rw [if_neg hc131] at hf
      refine r_ald_n O 135 rfl 0 rfl dX7_readNumber_134 ?_
      refine r_ic O 136 rfl 1 (by decide) dX7_readNumber_135 ?_
      refine r_ald_n O 137 rfl 0 rfl dX7_readNumber_136 ?_
      refine r_get (ref := RX7) (C := RX7) (T := TX7) (N := 7) O 140 rfl inBX7 0 3 rfl rfl rfl (by decide) flX7_22 rfl rfl dX7_readNumber_137 ?_
      refine r_ild_n O 141 rfl 2 rfl dX7_readNumber_140 ?_
      obtain ⟨x141, p141_t, hq141, hf⟩ := qb2_some hf
      refine k_VZ O 144 rfl (zX7_fault (l := xl X) (D := xD X) (cI := cI) (cZ := cZ) (cQ := cQ) (h_t := h_t) hq141) (gV mlX7_50 mvX7_fault izX7) rfl rfl rfl hdX7_fault ⟨Nat.le_of_ble_eq_true rfl, Nat.le_of_ble_eq_true rfl⟩ rfl 0 rfl rfl rfl rfl (Nat.le_of_ble_eq_true rfl) ⟨Nat.zero_le _, Nat.zero_le _⟩ [0] rfl rfl rfl ([nX7 cI cZ cQ h_t p141_t]) rfl dX7_readNumber_141 (fun hz141 => ?_)
      obtain ⟨g0, g1⟩ := qe2 hf
      exact r_zret2 O E g0 (by rw [g1]) hz141 dX7_readNumber_144
  have B96 : ∀ (w_t : Pk) (y1 : Int32) (y2 : Int32) (y3 : Int32) (y4 : Int32), fX7_readNumber_b96 w_t y1 y2 y3 y4 = some (r0, v_t) → BK X 5 0 0 96 ([nX7 cI cZ cQ h_t w_t]) [(0, .ref (h_t 0)), (1, .int y1), (2, .int y2), (3, .int y3), (4, .int y4)] [] := by
    intro w_t y1 y2 y3 y4 hf
    unfold fX7_readNumber_b96 at hf
    refine r_ild O 98 rfl 4 rfl dX7_readNumber_96 ?_
    refine r_bi O 100 rfl 63 (by decide) dX7_readNumber_98 ?_
    refine r_icmp_le O 103 rfl 111 dX7_readNumber_100 (by decide) (fun hc100 => ?_) (fun hc100 => ?_)
    · rw [if_pos hc100] at hf
      refine r_ald_n O 112 rfl 0 rfl dX7_readNumber_111 ?_
      refine r_ald_n O 113 rfl 0 rfl dX7_readNumber_112 ?_
      refine r_get (ref := RX7) (C := RX7) (T := TX7) (N := 7) O 116 rfl inBX7 0 3 rfl rfl rfl (by decide) flX7_22 rfl rfl dX7_readNumber_113 ?_
      obtain ⟨x116, hq116, hf⟩ := qb1_some hf
      refine k_VI O 119 rfl (zX7_codeAt (l := xl X) (D := xD X) (cI := cI) (cZ := cZ) (cQ := cQ) (h_t := h_t) hq116) (gV mlX7_43 mvX7_codeAt izX7) rfl rfl rfl hdX7_codeAt ⟨Nat.le_of_ble_eq_true rfl, Nat.le_of_ble_eq_true rfl⟩ rfl 0 rfl rfl rfl rfl (Nat.le_of_ble_eq_true rfl) ⟨Nat.zero_le _, Nat.zero_le _⟩ [0] rfl rfl rfl ([nX7 cI cZ cQ h_t w_t]) rfl dX7_readNumber_116 ?_
      refine r_ild_n O 120 rfl 1 rfl dX7_readNumber_119 ?_
      refine r_ic O 121 rfl 3 (by decide) dX7_readNumber_120 ?_
      refine r_icmp_ge O 124 rfl 129 dX7_readNumber_121 (by decide) (fun hc121 => ?_) (fun hc121 => ?_)
      · rw [if_pos hc121] at hf
        refine r_bi O 131 rfl 59 (by decide) dX7_readNumber_129 ?_
        refine r_lv [0, 1, 2, 4] rfl ?_
        exact B131 _ _ _ _ _ _ hf
      · rw [if_neg hc121] at hf
        refine r_bi O 126 rfl 44 (by decide) dX7_readNumber_124 ?_
        refine r_goto O 131 dX7_readNumber_126 (by decide) ?_
        refine r_lv [0, 1, 2, 4] rfl ?_
        exact B131 _ _ _ _ _ _ hf
    · rw [if_neg hc100] at hf
      refine r_ald_n O 104 rfl 0 rfl dX7_readNumber_103 ?_
      refine r_ic O 105 rfl 2 (by decide) dX7_readNumber_104 ?_
      refine r_ild_n O 106 rfl 3 rfl dX7_readNumber_105 ?_
      refine r_ild_n O 107 rfl 2 rfl dX7_readNumber_106 ?_
      obtain ⟨x107, p107_t, hq107, hf⟩ := qb2_some hf
      refine k_VZ O 110 rfl (zX7_fault (l := xl X) (D := xD X) (cI := cI) (cZ := cZ) (cQ := cQ) (h_t := h_t) hq107) (gV mlX7_50 mvX7_fault izX7) rfl rfl rfl hdX7_fault ⟨Nat.le_of_ble_eq_true rfl, Nat.le_of_ble_eq_true rfl⟩ rfl 0 rfl rfl rfl rfl (Nat.le_of_ble_eq_true rfl) ⟨Nat.zero_le _, Nat.zero_le _⟩ [0] rfl rfl rfl ([nX7 cI cZ cQ h_t p107_t]) rfl dX7_readNumber_107 (fun hz107 => ?_)
      obtain ⟨g0, g1⟩ := qe2 hf
      exact r_zret2 O E g0 (by rw [g1]) hz107 dX7_readNumber_110
  unfold fX7_readNumber at hf
  refine r_ald_n O 1 rfl 0 rfl dX7_readNumber_0 ?_
  refine r_get (ref := RX7) (C := RX7) (T := TX7) (N := 7) O 4 rfl inBX7 0 3 rfl rfl rfl (by decide) flX7_22 rfl rfl dX7_readNumber_1 ?_
  obtain ⟨x4, ex4, hf⟩ := qn_some hf
  rw [← ex4]
  refine r_ist_n O 5 rfl rfl [(3, .int x4), (0, .ref (h_t 0)), (1, .int a1), (2, .int a2)] dX7_readNumber_4 (by decide) rfl ?_
  refine r_ald_n O 6 rfl 1 rfl dX7_readNumber_5 ?_
  refine r_ald_n O 7 rfl 1 rfl dX7_readNumber_6 ?_
  refine r_get (ref := RX7) (C := RX7) (T := TX7) (N := 7) O 10 rfl inBX7 0 3 rfl rfl rfl (by decide) flX7_22 rfl rfl dX7_readNumber_7 ?_
  obtain ⟨x10, hq10, hf⟩ := qb1_some hf
  refine k_VI O 13 rfl (zX7_codeAt (l := xl X) (D := xD X) (cI := cI) (cZ := cZ) (cQ := cQ) (h_t := h_t) hq10) (gV mlX7_43 mvX7_codeAt izX7) rfl rfl rfl hdX7_codeAt ⟨Nat.le_of_ble_eq_true rfl, Nat.le_of_ble_eq_true rfl⟩ rfl 0 rfl rfl rfl rfl (Nat.le_of_ble_eq_true rfl) ⟨Nat.zero_le _, Nat.zero_le _⟩ [0] rfl rfl rfl ([nX7 cI cZ cQ h_t u_t]) rfl dX7_readNumber_10 ?_
  obtain ⟨x13, hq13, hf⟩ := qb1_some hf
  refine k_SZ O 16 rfl (zX7_isDigit (l := xl X) (D := xD X) (cI := cI) (cZ := cZ) (cQ := cQ) hq13) (gS mlX7_62 mvX7_isDigit izX7) rfl rfl rfl hdX7_isDigit ⟨Nat.le_of_ble_eq_true rfl, Nat.le_of_ble_eq_true rfl⟩ rfl rfl (Nat.le_of_ble_eq_true rfl) ⟨Nat.zero_le _, Nat.zero_le _⟩ [] rfl rfl rfl ([nX7 cI cZ cQ h_t u_t]) rfl dX7_readNumber_13 (fun hz13 => ?_)
  refine r_if_ne O 19 rfl 30 dX7_readNumber_16 (by decide) (fun hc16 => ?_) (fun hc16 => ?_)
  · rw [if_neg hc16] at hf
    refine r_ald_n O 31 rfl 1 rfl dX7_readNumber_30 ?_
    refine r_ald_n O 32 rfl 1 rfl dX7_readNumber_31 ?_
    refine r_get (ref := RX7) (C := RX7) (T := TX7) (N := 7) O 35 rfl inBX7 0 3 rfl rfl rfl (by decide) flX7_22 rfl rfl dX7_readNumber_32 ?_
    obtain ⟨x35, hq35, hf⟩ := qb1_some hf
    refine k_VI O 38 rfl (zX7_codeAt (l := xl X) (D := xD X) (cI := cI) (cZ := cZ) (cQ := cQ) (h_t := h_t) hq35) (gV mlX7_43 mvX7_codeAt izX7) rfl rfl rfl hdX7_codeAt ⟨Nat.le_of_ble_eq_true rfl, Nat.le_of_ble_eq_true rfl⟩ rfl 0 rfl rfl rfl rfl (Nat.le_of_ble_eq_true rfl) ⟨Nat.zero_le _, Nat.zero_le _⟩ [0] rfl rfl rfl ([nX7 cI cZ cQ h_t u_t]) rfl dX7_readNumber_35 ?_
    refine r_bi O 40 rfl 48 (by decide) dX7_readNumber_38 ?_
    refine r_isub O 41 rfl dX7_readNumber_40 ?_
    obtain ⟨x41, ex41, hf⟩ := qn_some hf
    rw [← ex41]
    refine r_ist O 43 rfl [(4, .int x41), (3, .int x4), (0, .ref (h_t 0)), (1, .int a1), (2, .int a2)] dX7_readNumber_41 (by decide) rfl ?_
    refine r_ald_n O 44 rfl 2 rfl dX7_readNumber_43 ?_
    refine r_dup O 45 rfl dX7_readNumber_44 rfl ?_
    refine r_get (ref := RX7) (C := RX7) (T := TX7) (N := 7) O 48 rfl inBX7 0 3 rfl rfl rfl (by decide) flX7_22 rfl rfl dX7_readNumber_45 ?_
    refine r_ic O 49 rfl 1 (by decide) dX7_readNumber_48 ?_
    refine r_iadd O 50 rfl dX7_readNumber_49 ?_
    obtain ⟨p50_t, ep50_t, hf⟩ := qn_some hf
    refine r_put (ref := RX7) (C := RX7) (T := TX7) (N := 7) O 53 rfl inBX7 tyX7 tyX7_ok nmX7 0 3 rfl rfl rfl (by decide) flX7_22 rfl rfl rfl rfl (Nat.le_of_ble_eq_true rfl) ([nX7 cI cZ cQ h_t p50_t]) (by rw [ep50_t]; rfl) dX7_readNumber_50 ?_
    refine r_ald_n O 54 rfl 2 rfl dX7_readNumber_53 ?_
    refine r_ald_n O 55 rfl 2 rfl dX7_readNumber_54 ?_
    refine r_get (ref := RX7) (C := RX7) (T := TX7) (N := 7) O 58 rfl inBX7 0 3 rfl rfl rfl (by decide) flX7_22 rfl rfl dX7_readNumber_55 ?_
    obtain ⟨x58, hq58, hf⟩ := qb1_some hf
    refine k_VI O 61 rfl (zX7_codeAt (l := xl X) (D := xD X) (cI := cI) (cZ := cZ) (cQ := cQ) (h_t := h_t) hq58) (gV mlX7_43 mvX7_codeAt izX7) rfl rfl rfl hdX7_codeAt ⟨Nat.le_of_ble_eq_true rfl, Nat.le_of_ble_eq_true rfl⟩ rfl 0 rfl rfl rfl rfl (Nat.le_of_ble_eq_true rfl) ⟨Nat.zero_le _, Nat.zero_le _⟩ [0] rfl rfl rfl ([nX7 cI cZ cQ h_t p50_t]) rfl dX7_readNumber_58 ?_
    obtain ⟨x61, hq61, hf⟩ := qb1_some hf
    refine k_SZ O 64 rfl (zX7_isDigit (l := xl X) (D := xD X) (cI := cI) (cZ := cZ) (cQ := cQ) hq61) (gS mlX7_62 mvX7_isDigit izX7) rfl rfl rfl hdX7_isDigit ⟨Nat.le_of_ble_eq_true rfl, Nat.le_of_ble_eq_true rfl⟩ rfl rfl (Nat.le_of_ble_eq_true rfl) ⟨Nat.zero_le _, Nat.zero_le _⟩ [] rfl rfl rfl ([nX7 cI cZ cQ h_t p50_t]) rfl dX7_readNumber_61 (fun hz61 => ?_)
    refine r_if_eq O 67 rfl 96 dX7_readNumber_64 (by decide) (fun hc64 => ?_) (fun hc64 => ?_)
    · rw [if_pos hc64] at hf
      refine r_lv [2, 3, 4, 1, 0] rfl ?_
      exact B96 _ _ _ _ _ hf
    · rw [if_neg hc64] at hf
      refine r_bi O 69 rfl 10 (by decide) dX7_readNumber_67 ?_
      refine r_ild O 71 rfl 0 rfl dX7_readNumber_69 ?_
      refine r_imul O 72 rfl dX7_readNumber_71 ?_
      refine r_ald_n O 73 rfl 2 rfl dX7_readNumber_72 ?_
      refine r_ald_n O 74 rfl 2 rfl dX7_readNumber_73 ?_
      refine r_get (ref := RX7) (C := RX7) (T := TX7) (N := 7) O 77 rfl inBX7 0 3 rfl rfl rfl (by decide) flX7_22 rfl rfl dX7_readNumber_74 ?_
      obtain ⟨x77, hq77, hf⟩ := qb1_some hf
      refine k_VI O 80 rfl (zX7_codeAt (l := xl X) (D := xD X) (cI := cI) (cZ := cZ) (cQ := cQ) (h_t := h_t) hq77) (gV mlX7_43 mvX7_codeAt izX7) rfl rfl rfl hdX7_codeAt ⟨Nat.le_of_ble_eq_true rfl, Nat.le_of_ble_eq_true rfl⟩ rfl 0 rfl rfl rfl rfl (Nat.le_of_ble_eq_true rfl) ⟨Nat.zero_le _, Nat.zero_le _⟩ [0] rfl rfl rfl ([nX7 cI cZ cQ h_t p50_t]) rfl dX7_readNumber_77 ?_
      refine r_iadd O 81 rfl dX7_readNumber_80 ?_
      refine r_bi O 83 rfl 48 (by decide) dX7_readNumber_81 ?_
      refine r_isub O 84 rfl dX7_readNumber_83 ?_
      obtain ⟨x84, ex84, hf⟩ := qn_some hf
      rw [← ex84]
      refine r_ist O 86 rfl [(4, .int x84), (3, .int x4), (0, .ref (h_t 0)), (1, .int a1), (2, .int a2)] dX7_readNumber_84 (by decide) rfl ?_
      refine r_ald_n O 87 rfl 2 rfl dX7_readNumber_86 ?_
      refine r_dup O 88 rfl dX7_readNumber_87 rfl ?_
      refine r_get (ref := RX7) (C := RX7) (T := TX7) (N := 7) O 91 rfl inBX7 0 3 rfl rfl rfl (by decide) flX7_22 rfl rfl dX7_readNumber_88 ?_
      refine r_ic O 92 rfl 1 (by decide) dX7_readNumber_91 ?_
      refine r_iadd O 93 rfl dX7_readNumber_92 ?_
      obtain ⟨p93_t, ep93_t, hf⟩ := qn_some hf
      refine r_put (ref := RX7) (C := RX7) (T := TX7) (N := 7) O 96 rfl inBX7 tyX7 tyX7_ok nmX7 0 3 rfl rfl rfl (by decide) flX7_22 rfl rfl rfl rfl (Nat.le_of_ble_eq_true rfl) ([nX7 cI cZ cQ h_t p93_t]) (by rw [ep93_t]; rfl) dX7_readNumber_93 ?_
      refine r_lv [2, 3, 4, 1, 0] rfl ?_
      exact B96 _ _ _ _ _ hf
  · rw [if_pos hc16] at hf
    refine r_ald_n O 20 rfl 1 rfl dX7_readNumber_19 ?_
    refine r_ic O 21 rfl 1 (by decide) dX7_readNumber_20 ?_
    refine r_ald_n O 22 rfl 1 rfl dX7_readNumber_21 ?_
    refine r_get (ref := RX7) (C := RX7) (T := TX7) (N := 7) O 25 rfl inBX7 0 3 rfl rfl rfl (by decide) flX7_22 rfl rfl dX7_readNumber_22 ?_
    refine r_ild_n O 26 rfl 3 rfl dX7_readNumber_25 ?_
    obtain ⟨x26, p26_t, hq26, hf⟩ := qb2_some hf
    refine k_VZ O 29 rfl (zX7_fault (l := xl X) (D := xD X) (cI := cI) (cZ := cZ) (cQ := cQ) (h_t := h_t) hq26) (gV mlX7_50 mvX7_fault izX7) rfl rfl rfl hdX7_fault ⟨Nat.le_of_ble_eq_true rfl, Nat.le_of_ble_eq_true rfl⟩ rfl 0 rfl rfl rfl rfl (Nat.le_of_ble_eq_true rfl) ⟨Nat.zero_le _, Nat.zero_le _⟩ [0] rfl rfl rfl ([nX7 cI cZ cQ h_t p26_t]) rfl dX7_readNumber_26 (fun hz26 => ?_)
    obtain ⟨g0, g1⟩ := qe2 hf
    exact r_zret2 O E g0 (by rw [g1]) hz26 dX7_readNumber_29
