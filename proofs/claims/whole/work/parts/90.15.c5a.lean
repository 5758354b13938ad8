-- X9_beginEdit
def rmX9_beginEdit : Room := { frames := 3, cells := 0, slots := 0, locals := 65 }
set_option maxHeartbeats 4000000 in
set_option maxRecDepth 100000 in
theorem zX9_beginEdit {l : Launch} {D : va_G} {cI cZ cQ : ClassId} {h_t h_w h_H h_k0 h_k1 h_k2 h_k3 h_k4 h_k5 h_k6 h_k7 : Nat → Nat} {r_b r_l r_x r_T r_C r_d r_F r_r r_n : Nat} {u_w u_t u_H u_k0 u_k1 u_k2 u_k3 u_k4 u_k5 u_k6 u_k7 : Pk} {v_t v_H v_k0 v_k1 v_k2 v_k3 v_k4 v_k5 v_k6 v_k7 : Pk} (hf : fX9_beginEdit u_w u_t u_H u_k0 u_k1 u_k2 u_k3 u_k4 u_k5 u_k6 u_k7 = some (v_t, v_H, v_k0, v_k1, v_k2, v_k3, v_k4, v_k5, v_k6, v_k7)) : MV l yX9_beginEdit wsX9_beginEdit rmX9_beginEdit D (TY cI cZ cQ) [.ref (h_t 0)] [nX9 cI cZ cQ h_t (h_w 0) r_b r_l (h_H 0) r_x r_T r_C r_d r_F r_r r_n u_t, nX8 cI cZ cQ h_w u_w, nX2 cI cZ cQ h_H (hkf h_k0 h_k1 h_k2 h_k3 h_k4 h_k5 h_k6 h_k7) u_H, nX8 cI cZ cQ h_k0 u_k0, nX8 cI cZ cQ h_k1 u_k1, nX8 cI cZ cQ h_k2 u_k2, nX8 cI cZ cQ h_k3 u_k3, nX8 cI cZ cQ h_k4 u_k4, nX8 cI cZ cQ h_k5 u_k5, nX8 cI cZ cQ h_k6 u_k6, nX8 cI cZ cQ h_k7 u_k7] [nX9 cI cZ cQ h_t (h_w 0) r_b r_l (h_H 0) r_x r_T r_C r_d r_F r_r r_n v_t, nX8 cI cZ cQ h_w u_w, nX2 cI cZ cQ h_H (hkf h_k0 h_k1 h_k2 h_k3 h_k4 h_k5 h_k6 h_k7) v_H, nX8 cI cZ cQ h_k0 v_k0, nX8 cI cZ cQ h_k1 v_k1, nX8 cI cZ cQ h_k2 v_k2, nX8 cI cZ cQ h_k3 v_k3, nX8 cI cZ cQ h_k4 v_k4, nX8 cI cZ cQ h_k5 v_k5, nX8 cI cZ cQ h_k6 v_k6, nX8 cI cZ cQ h_k7 v_k7] := by
  refine MV.of (own := RX9) (by decide +kernel) rfl rfl (Nat.le_of_ble_eq_true rfl) (lv0 := [(0, .ref (h_t 0))]) rfl ?_
  intro X O E
  unfold fX9_beginEdit at hf
  refine r_ald_n O 1 rfl 0 rfl dX9_beginEdit_0 ?_
  refine r_get (ref := RX9) (C := RX9) (T := TX9) (N := 13) O 4 rfl inBX9 0 3 rfl rfl rfl (by decide) flX9_25 rfl rfl dX9_beginEdit_1 ?_
  refine r_ald_n O 5 rfl 0 rfl dX9_beginEdit_4 ?_
  refine r_get (ref := RX9) (C := RX9) (T := TX9) (N := 13) O 8 rfl inBX9 0 0 rfl rfl rfl (by decide) flX9_12 rfl rfl dX9_beginEdit_5 ?_
  obtain ⟨p8_H, p8_k0, p8_k1, p8_k2, p8_k3, p8_k4, p8_k5, p8_k6, p8_k7, hq8, hf⟩ := qb9_some hf
  refine k_VV O 11 rfl (zX2_keep (l := xl X) (D := xD X) (cI := cI) (cZ := cZ) (cQ := cQ) (h_t := h_H) (h_k0 := h_k0) (h_k1 := h_k1) (h_k2 := h_k2) (h_k3 := h_k3) (h_k4 := h_k4) (h_k5 := h_k5) (h_k6 := h_k6) (h_k7 := h_k7) (h_o := h_w) hq8) (gV mlX9_360 mvX2_keep izX2) rfl rfl rfl hdX2_keep ⟨Nat.le_of_ble_eq_true rfl, Nat.le_of_ble_eq_true rfl⟩ rfl 2 rfl rfl rfl rfl (Nat.le_of_ble_eq_true rfl) ⟨Nat.zero_le _, Nat.zero_le _⟩ [2, 3, 4, 5, 6, 7, 8, 9, 10, 1] rfl rfl rfl ([nX9 cI cZ cQ h_t (h_w 0) r_b r_l (h_H 0) r_x r_T r_C r_d r_F r_r r_n u_t, nX8 cI cZ cQ h_w u_w, nX2 cI cZ cQ h_H (hkf h_k0 h_k1 h_k2 h_k3 h_k4 h_k5 h_k6 h_k7) p8_H, nX8 cI cZ cQ h_k0 p8_k0, nX8 cI cZ cQ h_k1 p8_k1, nX8 cI cZ cQ h_k2 p8_k2, nX8 cI cZ cQ h_k3 p8_k3, nX8 cI cZ cQ h_k4 p8_k4, nX8 cI cZ cQ h_k5 p8_k5, nX8 cI cZ cQ h_k6 p8_k6, nX8 cI cZ cQ h_k7 p8_k7]) rfl dX9_beginEdit_8 ?_
  refine r_ald_n O 12 rfl 0 rfl dX9_beginEdit_11 ?_
  refine r_ic O 13 rfl 0 (by decide) dX9_beginEdit_12 ?_
  obtain ⟨p13_t, ep13_t, hf⟩ := qn_some hf
  refine r_put (ref := RX9) (C := RX9) (T := TX9) (N := 13) O 16 rfl inBX9 tyX9 tyX9_ok nmX9 0 12 rfl rfl rfl (by decide) flX9_82 rfl rfl rfl rfl (Nat.le_of_ble_eq_true rfl) ([nX9 cI cZ cQ h_t (h_w 0) r_b r_l (h_H 0) r_x r_T r_C r_d r_F r_r r_n p13_t, nX8 cI cZ cQ h_w u_w, nX2 cI cZ cQ h_H (hkf h_k0 h_k1 h_k2 h_k3 h_k4 h_k5 h_k6 h_k7) p8_H, nX8 cI cZ cQ h_k0 p8_k0, nX8 cI cZ cQ h_k1 p8_k1, nX8 cI cZ cQ h_k2 p8_k2, nX8 cI cZ cQ h_k3 p8_k3, nX8 cI cZ cQ h_k4 p8_k4, nX8 cI cZ cQ h_k5 p8_k5, nX8 cI cZ cQ h_k6 p8_k6, nX8 cI cZ cQ h_k7 p8_k7]) (by rw [ep13_t]; rfl) dX9_beginEdit_13 ?_
  obtain ⟨g0, g1, g2, g3, g4, g5, g6, g7, g8, g9⟩ := qe10 hf
  exact r_vret2 O E (by rw [g0, g1, g2, g3, g4, g5, g6, g7, g8, g9]) dX9_beginEdit_16
-- X9_addWall
def rmX9_addWall : Room := { frames := 4, cells := 0, slots := 0, locals := 85 }
set_option maxHeartbeats 4000000 in
set_option maxRecDepth 100000 in
theorem zX9_addWall {l : Launch} {D : va_G} {cI cZ cQ : ClassId} {h_t h_w h_H h_k0 h_k1 h_k2 h_k3 h_k4 h_k5 h_k6 h_k7 : Nat → Nat} {r_b r_l r_x r_T r_C r_d r_F r_r r_n : Nat} {u_t u_w u_H u_k0 u_k1 u_k2 u_k3 u_k4 u_k5 u_k6 u_k7 : Pk} {a1 : Int32} {a2 : Int32} {a3 : Int32} {a4 : Int32} {a5 : Int32} {a6 : Int32} {r0 : Int32} {v_t v_w v_H v_k0 v_k1 v_k2 v_k3 v_k4 v_k5 v_k6 v_k7 : Pk} (hf : fX9_addWall u_t u_w u_H u_k0 u_k1 u_k2 u_k3 u_k4 u_k5 u_k6 u_k7 a1 a2 a3 a4 a5 a6 = some (r0, v_t, v_w, v_H, v_k0, v_k1, v_k2, v_k3, v_k4, v_k5, v_k6, v_k7)) : MI l yX9_addWall wsX9_addWall rmX9_addWall D (TY cI cZ cQ) [.ref (h_t 0), .int a1, .int a2, .int a3, .int a4, .int a5, .int a6] [nX9 cI cZ cQ h_t (h_w 0) r_b r_l (h_H 0) r_x r_T r_C r_d r_F r_r r_n u_t, nX8 cI cZ cQ h_w u_w, nX2 cI cZ cQ h_H (hkf h_k0 h_k1 h_k2 h_k3 h_k4 h_k5 h_k6 h_k7) u_H, nX8 cI cZ cQ h_k0 u_k0, nX8 cI cZ cQ h_k1 u_k1, nX8 cI cZ cQ h_k2 u_k2, nX8 cI cZ cQ h_k3 u_k3, nX8 cI cZ cQ h_k4 u_k4, nX8 cI cZ cQ h_k5 u_k5, nX8 cI cZ cQ h_k6 u_k6, nX8 cI cZ cQ h_k7 u_k7] r0 [nX9 cI cZ cQ h_t (h_w 0) r_b r_l (h_H 0) r_x r_T r_C r_d r_F r_r r_n v_t, nX8 cI cZ cQ h_w v_w, nX2 cI cZ cQ h_H (hkf h_k0 h_k1 h_k2 h_k3 h_k4 h_k5 h_k6 h_k7) v_H, nX8 cI cZ cQ h_k0 v_k0, nX8 cI cZ cQ h_k1 v_k1, nX8 cI cZ cQ h_k2 v_k2, nX8 cI cZ cQ h_k3 v_k3, nX8 cI cZ cQ h_k4 v_k4, nX8 cI cZ cQ h_k5 v_k5, nX8 cI cZ cQ h_k6 v_k6, nX8 cI cZ cQ h_k7 v_k7] := by
  refine MI.of (own := RX9) (by decide +kernel) rfl rfl (Nat.le_of_ble_eq_true rfl) (lv0 := [(0, .ref (h_t 0)), (1, .int a1), (2, .int a2), (3, .int a3), (4, .int a4), (5, .int a5), (6, .int a6)]) rfl ?_
  intro X O E
  have B57 : ∀ (w_t : Pk) (w_w : Pk) (w_H : Pk) (w_k0 : Pk) (w_k1 : Pk) (w_k2 : Pk) (w_k3 : Pk) (w_k4 : Pk) (w_k5 : Pk) (w_k6 : Pk) (w_k7 : Pk) (y1 : Int32) (y2 : Int32) (y3 : Int32) (y4 : Int32) (y5 : Int32) (y6 : Int32), fX9_addWall_b57 w_t w_w w_H w_k0 w_k1 w_k2 w_k3 w_k4 w_k5 w_k6 w_k7 y1 y2 y3 y4 y5 y6 = some (r0, v_t, v_w, v_H, v_k0, v_k1, v_k2, v_k3, v_k4, v_k5, v_k6, v_k7) → BK X 8 0 0 57 ([nX9 cI cZ cQ h_t (h_w 0) r_b r_l (h_H 0) r_x r_T r_C r_d r_F r_r r_n w_t, nX8 cI cZ cQ h_w w_w, nX2 cI cZ cQ h_H (hkf h_k0 h_k1 h_k2 h_k3 h_k4 h_k5 h_k6 h_k7) w_H, nX8 cI cZ cQ h_k0 w_k0, nX8 cI cZ cQ h_k1 w_k1, nX8 cI cZ cQ h_k2 w_k2, nX8 cI cZ cQ h_k3 w_k3, nX8 cI cZ cQ h_k4 w_k4, nX8 cI cZ cQ h_k5 w_k5, nX8 cI cZ cQ h_k6 w_k6, nX8 cI cZ cQ h_k7 w_k7]) [(0, .ref (h_t 0)), (1, .int y1), (2, .int y2), (3, .int y3), (4, .int y4), (5, .int y5), (6, .int y6)] [] := by
    intro w_t w_w w_H w_k0 w_k1 w_k2 w_k3 w_k4 w_k5 w_k6 w_k7 y1 y2 y3 y4 y5 y6 hf
    unfold fX9_addWall_b57 at hf
    refine r_ald_n O 58 rfl 0 rfl dX9_addWall_57 ?_
    refine r_get (ref := RX9) (C := RX9) (T := TX9) (N := 13) O 61 rfl inBX9 0 0 rfl rfl rfl (by decide) flX9_12 rfl rfl dX9_addWall_58 ?_
    obtain ⟨x61, hq61, hf⟩ := qb1_some hf
    refine k_VI O 64 rfl (zX8_lowestFree (l := xl X) (D := xD X) (cI := cI) (cZ := cZ) (cQ := cQ) (h_t := h_w) hq61) (gV mlX9_94 mvX8_lowestFree izX8) rfl rfl rfl hdX8_lowestFree ⟨Nat.le_of_ble_eq_true rfl, Nat.le_of_ble_eq_true rfl⟩ rfl 1 rfl rfl rfl rfl (Nat.le_of_ble_eq_true rfl) ⟨Nat.zero_le _, Nat.zero_le _⟩ [1] rfl rfl rfl ([nX9 cI cZ cQ h_t (h_w 0) r_b r_l (h_H 0) r_x r_T r_C r_d r_F r_r r_n w_t, nX8 cI cZ cQ h_w w_w, nX2 cI cZ cQ h_H (hkf h_k0 h_k1 h_k2 h_k3 h_k4 h_k5 h_k6 h_k7) w_H, nX8 cI cZ cQ h_k0 w_k0, nX8 cI cZ cQ h_k1 w_k1, nX8 cI cZ cQ h_k2 w_k2, nX8 cI cZ cQ h_k3 w_k3, nX8 cI cZ cQ h_k4 w_k4, nX8 cI cZ cQ h_k5 w_k5, nX8 cI cZ cQ h_k6 w_k6, nX8 cI cZ cQ h_k7 w_k7]) rfl dX9_addWall_61 ?_
    refine r_ist O 66 rfl [(7, .int x61), (0, .ref (h_t 0)), (1, .int y1), (2, .int y2), (3, .int y3), (4, .int y4), (5, .int y5), (6, .int y6)] dX9_addWall_64 (by decide) rfl ?_
    refine r_ild O 68 rfl 0 rfl dX9_addWall_66 ?_
    refine r_if_ge O 71 rfl 74 dX9_addWall_68 (by decide) (fun hc68 => ?_) (fun hc68 => ?_)
    · rw [if_pos hc68] at hf
      refine r_ald_n O 75 rfl 1 rfl dX9_addWall_74 ?_
      obtain ⟨p75_t, p75_H, p75_k0, p75_k1, p75_k2, p75_k3, p75_k4, p75_k5, p75_k6, p75_k7, hq75, hf⟩ := qb10_some hf
      refine k_VV O 78 rfl (zX9_beginEdit (l := xl X) (D := xD X) (cI := cI) (cZ := cZ) (cQ := cQ) (h_t := h_t) (h_w := h_w) (r_b := r_b) (r_l := r_l) (h_H := h_H) (h_k0 := h_k0) (h_k1 := h_k1) (h_k2 := h_k2) (h_k3 := h_k3) (h_k4 := h_k4) (h_k5 := h_k5) (h_k6 := h_k6) (h_k7 := h_k7) (r_x := r_x) (r_T := r_T) (r_C := r_C) (r_d := r_d) (r_F := r_F) (r_r := r_r) (r_n := r_n) hq75) (gV mlX9_98 mvX9_beginEdit izX9) rfl rfl rfl hdX9_beginEdit ⟨Nat.le_of_ble_eq_true rfl, Nat.le_of_ble_eq_true rfl⟩ rfl 0 rfl rfl rfl rfl (Nat.le_of_ble_eq_true rfl) ⟨Nat.zero_le _, Nat.zero_le _⟩ [0, 1, 2, 3, 4, 5, 6, 7, 8, 9, 10] rfl rfl rfl ([nX9 cI cZ cQ h_t (h_w 0) r_b r_l (h_H 0) r_x r_T r_C r_d r_F r_r r_n p75_t, nX8 cI cZ cQ h_w w_w, nX2 cI cZ cQ h_H (hkf h_k0 h_k1 h_k2 h_k3 h_k4 h_k5 h_k6 h_k7) p75_H, nX8 cI cZ cQ h_k0 p75_k0, nX8 cI cZ cQ h_k1 p75_k1, nX8 cI cZ cQ h_k2 p75_k2, nX8 cI cZ cQ h_k3 p75_k3, nX8 cI cZ cQ h_k4 p75_k4, nX8 cI cZ cQ h_k5 p75_k5, nX8 cI cZ cQ h_k6 p75_k6, nX8 cI cZ cQ h_k7 p75_k7]) rfl dX9_addWall_75 ?_
      refine r_ald_n O 79 rfl 1 rfl dX9_addWall_78 ?_
      refine r_get (ref := RX9) (C := RX9) (T := TX9) (N := 13) O 82 rfl inBX9 0 0 rfl rfl rfl (by decide) flX9_12 rfl rfl dX9_addWall_79 ?_
      refine r_ild O 84 rfl 0 rfl dX9_addWall_82 ?_
      refine r_ild_n O 85 rfl 2 rfl dX9_addWall_84 ?_
      refine r_ild_n O 86 rfl 3 rfl dX9_addWall_85 ?_
      refine r_ild_n O 87 rfl 4 rfl dX9_addWall_86 ?_
      refine r_ild O 89 rfl 5 rfl dX9_addWall_87 ?_
      refine r_ild O 91 rfl 6 rfl dX9_addWall_89 ?_
      refine r_ild O 93 rfl 7 rfl dX9_addWall_91 ?_
      obtain ⟨p93_w, hq93, hf⟩ := qb1_some hf
      refine k_VV O 96 rfl (zX8_put (l := xl X) (D := xD X) (cI := cI) (cZ := cZ) (cQ := cQ) (h_t := h_w) hq93) (gV mlX9_101 mvX8_put izX8) rfl rfl rfl hdX8_put ⟨Nat.le_of_ble_eq_true rfl, Nat.le_of_ble_eq_true rfl⟩ rfl 1 rfl rfl rfl rfl (Nat.le_of_ble_eq_true rfl) ⟨Nat.zero_le _, Nat.zero_le _⟩ [1] rfl rfl rfl ([nX9 cI cZ cQ h_t (h_w 0) r_b r_l (h_H 0) r_x r_T r_C r_d r_F r_r r_n p75_t, nX8 cI cZ cQ h_w p93_w, nX2 cI cZ cQ h_H (hkf h_k0 h_k1 h_k2 h_k3 h_k4 h_k5 h_k6 h_k7) p75_H, nX8 cI cZ cQ h_k0 p75_k0, nX8 cI cZ cQ h_k1 p75_k1, nX8 cI cZ cQ h_k2 p75_k2, nX8 cI cZ cQ h_k3 p75_k3, nX8 cI cZ cQ h_k4 p75_k4, nX8 cI cZ cQ h_k5 p75_k5, nX8 cI cZ cQ h_k6 p75_k6, nX8 cI cZ cQ h_k7 p75_k7]) rfl dX9_addWall_93 ?_
      refine r_ild O 98 rfl 0 rfl dX9_addWall_96 ?_
      obtain ⟨g0, g1, g2, g3, g4, g5, g6, g7, g8, g9, g10, g11⟩ := qe12 hf
      exact r_iret2 O E g0 (by rw [g1, g2, g3, g4, g5, g6, g7, g8, g9, g10, g11]) dX9_addWall_98
    · rw [if_neg hc68] at hf
      refine r_bi O 73 rfl (-3) (by decide) dX9_addWall_71 ?_
      obtain ⟨g0, g1, g2, g3, g4, g5, g6, g7, g8, g9, g10, g11⟩ := qe12 hf
      exact r_iret2 O E g0 (by rw [g1, g2, g3, g4, g5, g6, g7, g8, g9, g10, g11]) dX9_addWall_73
  unfold fX9_addWall at hf
  refine r_ild_n O 1 rfl 1 rfl dX9_addWall_0 ?_
  refine r_ild_n O 2 rfl 2 rfl dX9_addWall_1 ?_
  obtain ⟨x2, hq2, hf⟩ := qb1_some hf
  refine k_SZ O 5 rfl (zX9_isBadPoint (l := xl X) (D := xD X) (cI := cI) (cZ := cZ) (cQ := cQ) hq2) (gS mlX9_86 mvX9_isBadPoint izX9) rfl rfl rfl hdX9_isBadPoint ⟨Nat.le_of_ble_eq_true rfl, Nat.le_of_ble_eq_true rfl⟩ rfl rfl (Nat.le_of_ble_eq_true rfl) ⟨Nat.zero_le _, Nat.zero_le _⟩ [] rfl rfl rfl ([nX9 cI cZ cQ h_t (h_w 0) r_b r_l (h_H 0) r_x r_T r_C r_d r_F r_r r_n u_t, nX8 cI cZ cQ h_w u_w, nX2 cI cZ cQ h_H (hkf h_k0 h_k1 h_k2 h_k3 h_k4 h_k5 h_k6 h_k7) u_H, nX8 cI cZ cQ h_k0 u_k0, nX8 cI cZ cQ h_k1 u_k1, nX8 cI cZ cQ h_k2 u_k2, nX8 cI cZ cQ h_k3 u_k3, nX8 cI cZ cQ h_k4 u_k4, nX8 cI cZ cQ h_k5 u_k5, nX8 cI cZ cQ h_k6 u_k6, nX8 cI cZ cQ h_k7 u_k7]) rfl dX9_addWall_2 (fun hz2 => ?_)
  refine r_if_ne O 8 rfl 17 dX9_addWall_5 (by decide) (fun hc5 => ?_) (fun hc5 => ?_)
  · rw [if_neg hc5] at hf
    refine r_bi O 19 rfl (-2) (by decide) dX9_addWall_17 ?_
    obtain ⟨g0, g1, g2, g3, g4, g5, g6, g7, g8, g9, g10, g11⟩ := qe12 hf
    exact r_iret2 O E g0 (by rw [g1, g2, g3, g4, g5, g6, g7, g8, g9, g10, g11]) dX9_addWall_19
  · rw [if_pos hc5] at hf
    refine r_ild_n O 9 rfl 3 rfl dX9_addWall_8 ?_
    refine r_ild O 11 rfl 4 rfl dX9_addWall_9 ?_
    obtain ⟨x11, hq11, hf⟩ := qb1_some hf
    refine k_SZ O 14 rfl (zX9_isBadPoint (l := xl X) (D := xD X) (cI := cI) (cZ := cZ) (cQ := cQ) hq11) (gS mlX9_86 mvX9_isBadPoint izX9) rfl rfl rfl hdX9_isBadPoint ⟨Nat.le_of_ble_eq_true rfl, Nat.le_of_ble_eq_true rfl⟩ rfl rfl (Nat.le_of_ble_eq_true rfl) ⟨Nat.zero_le _, Nat.zero_le _⟩ [] rfl rfl rfl ([nX9 cI cZ cQ h_t (h_w 0) r_b r_l (h_H 0) r_x r_T r_C r_d r_F r_r r_n u_t, nX8 cI cZ cQ h_w u_w, nX2 cI cZ cQ h_H (hkf h_k0 h_k1 h_k2 h_k3 h_k4 h_k5 h_k6 h_k7) u_H, nX8 cI cZ cQ h_k0 u_k0, nX8 cI cZ cQ h_k1 u_k1, nX8 cI cZ cQ h_k2 u_k2, nX8 cI cZ cQ h_k3 u_k3, nX8 cI cZ cQ h_k4 u_k4, nX8 cI cZ cQ h_k5 u_k5, nX8 cI cZ cQ h_k6 u_k6, nX8 cI cZ cQ h_k7 u_k7]) rfl dX9_addWall_11 (fun hz11 => ?_)
    refine r_if_eq O 17 rfl 20 dX9_addWall_14 (by decide) (fun hc14 => ?_) (fun hc14 => ?_)
    · rw [if_pos hc14] at hf
      refine r_ild O 22 rfl 5 rfl dX9_addWall_20 ?_
      refine r_ic O 23 rfl 0 (by decide) dX9_addWall_22 ?_
      refine r_ic O 24 rfl 2 (by decide) dX9_addWall_23 ?_
      obtain ⟨x24, hq24, hf⟩ := qb1_some hf
      refine k_SZ O 27 rfl (zX9_isOutside (l := xl X) (D := xD X) (cI := cI) (cZ := cZ) (cQ := cQ) hq24) (gS mlX9_90 mvX9_isOutside izX9) rfl rfl rfl hdX9_isOutside ⟨Nat.le_of_ble_eq_true rfl, Nat.le_of_ble_eq_true rfl⟩ rfl rfl (Nat.le_of_ble_eq_true rfl) ⟨Nat.zero_le _, Nat.zero_le _⟩ [] rfl rfl rfl ([nX9 cI cZ cQ h_t (h_w 0) r_b r_l (h_H 0) r_x r_T r_C r_d r_F r_r r_n u_t, nX8 cI cZ cQ h_w u_w, nX2 cI cZ cQ h_H (hkf h_k0 h_k1 h_k2 h_k3 h_k4 h_k5 h_k6 h_k7) u_H, nX8 cI cZ cQ h_k0 u_k0, nX8 cI cZ cQ h_k1 u_k1, nX8 cI cZ cQ h_k2 u_k2, nX8 cI cZ cQ h_k3 u_k3, nX8 cI cZ cQ h_k4 u_k4, nX8 cI cZ cQ h_k5 u_k5, nX8 cI cZ cQ h_k6 u_k6, nX8 cI cZ cQ h_k7 u_k7]) rfl dX9_addWall_24 (fun hz24 => ?_)
      refine r_if_ne O 30 rfl 40 dX9_addWall_27 (by decide) (fun hc27 => ?_) (fun hc27 => ?_)
      · rw [if_neg hc27] at hf
        refine r_bi O 42 rfl (-2) (by decide) dX9_addWall_40 ?_
        obtain ⟨g0, g1, g2, g3, g4, g5, g6, g7, g8, g9, g10, g11⟩ := qe12 hf
        exact r_iret2 O E g0 (by rw [g1, g2, g3, g4, g5, g6, g7, g8, g9, g10, g11]) dX9_addWall_42
      · rw [if_pos hc27] at hf
        refine r_ild O 32 rfl 6 rfl dX9_addWall_30 ?_
        refine r_ic O 33 rfl 0 (by decide) dX9_addWall_32 ?_
        refine r_ic O 34 rfl 1 (by decide) dX9_addWall_33 ?_
        obtain ⟨x34, hq34, hf⟩ := qb1_some hf
        refine k_SZ O 37 rfl (zX9_isOutside (l := xl X) (D := xD X) (cI := cI) (cZ := cZ) (cQ := cQ) hq34) (gS mlX9_90 mvX9_isOutside izX9) rfl rfl rfl hdX9_isOutside ⟨Nat.le_of_ble_eq_true rfl, Nat.le_of_ble_eq_true rfl⟩ rfl rfl (Nat.le_of_ble_eq_true rfl) ⟨Nat.zero_le _, Nat.zero_le _⟩ [] rfl rfl rfl ([nX9 cI cZ cQ h_t (h_w 0) r_b r_l (h_H 0) r_x r_T r_C r_d r_F r_r r_n u_t, nX8 cI cZ cQ h_w u_w, nX2 cI cZ cQ h_H (hkf h_k0 h_k1 h_k2 h_k3 h_k4 h_k5 h_k6 h_k7) u_H, nX8 cI cZ cQ h_k0 u_k0, nX8 cI cZ cQ h_k1 u_k1, nX8 cI cZ cQ h_k2 u_k2, nX8 cI cZ cQ h_k3 u_k3, nX8 cI cZ cQ h_k4 u_k4, nX8 cI cZ cQ h_k5 u_k5, nX8 cI cZ cQ h_k6 u_k6, nX8 cI cZ cQ h_k7 u_k7]) rfl dX9_addWall_34 (fun hz34 => ?_)
        refine r_if_eq O 40 rfl 43 dX9_addWall_37 (by decide) (fun hc37 => ?_) (fun hc37 => ?_)
        · rw [if_pos hc37] at hf
          refine r_ild_n O 44 rfl 1 rfl dX9_addWall_43 ?_
          refine r_ild_n O 45 rfl 3 rfl dX9_addWall_44 ?_
          refine r_icmp_ne O 48 rfl 57 dX9_addWall_45 (by decide) (fun hc45 => ?_) (fun hc45 => ?_)
          · rw [if_neg hc45] at hf
            exact B57 _ _ _ _ _ _ _ _ _ _ _ _ _ _ _ _ _ hf
          · rw [if_pos hc45] at hf
            refine r_ild_n O 49 rfl 2 rfl dX9_addWall_48 ?_
            refine r_ild O 51 rfl 4 rfl dX9_addWall_49 ?_
            refine r_icmp_ne O 54 rfl 57 dX9_addWall_51 (by decide) (fun hc51 => ?_) (fun hc51 => ?_)
            · rw [if_neg hc51] at hf
              exact B57 _ _ _ _ _ _ _ _ _ _ _ _ _ _ _ _ _ hf
            · rw [if_pos hc51] at hf
              refine r_bi O 56 rfl (-4) (by decide) dX9_addWall_54 ?_
              obtain ⟨g0, g1, g2, g3, g4, g5, g6, g7, g8, g9, g10, g11⟩ := qe12 hf
              exact r_iret2 O E g0 (by rw [g1, g2, g3, g4, g5, g6, g7, g8, g9, g10, g11]) dX9_addWall_56
        · rw [if_neg hc37] at hf
          refine r_bi O 42 rfl (-2) (by decide) dX9_addWall_40 ?_
          obtain ⟨g0, g1, g2, g3, g4, g5, g6, g7, g8, g9, g10, g11⟩ := qe12 hf
          exact r_iret2 O E g0 (by rw [g1, g2, g3, g4, g5, g6, g7, g8, g9, g10, g11]) dX9_addWall_42
    · rw [if_neg hc14] at hf
      refine r_bi O 19 rfl (-2) (by decide) dX9_addWall_17 ?_
      obtain ⟨g0, g1, g2, g3, g4, g5, g6, g7, g8, g9, g10, g11⟩ := qe12 hf
      exact r_iret2 O E g0 (by rw [g1, g2, g3, g4, g5, g6, g7, g8, g9, g10, g11]) dX9_addWall_19
-- X9_removeWall
def rmX9_removeWall : Room := { frames := 4, cells := 0, slots := 0, locals := 85 }
set_option maxHeartbeats 4000000 in
set_option maxRecDepth 100000 in
theorem zX9_removeWall {l : Launch} {D : va_G} {cI cZ cQ : ClassId} {h_t h_w h_H h_k0 h_k1 h_k2 h_k3 h_k4 h_k5 h_k6 h_k7 : Nat → Nat} {r_b r_l r_x r_T r_C r_d r_F r_r r_n : Nat} {u_t u_w u_H u_k0 u_k1 u_k2 u_k3 u_k4 u_k5 u_k6 u_k7 : Pk} {a1 : Int32} {r0 : Int32} {v_t v_w v_H v_k0 v_k1 v_k2 v_k3 v_k4 v_k5 v_k6 v_k7 : Pk} (hf : fX9_removeWall u_t u_w u_H u_k0 u_k1 u_k2 u_k3 u_k4 u_k5 u_k6 u_k7 a1 = some (r0, v_t, v_w, v_H, v_k0, v_k1, v_k2, v_k3, v_k4, v_k5, v_k6, v_k7)) : MI l yX9_removeWall wsX9_removeWall rmX9_removeWall D (TY cI cZ cQ) [.ref (h_t 0), .int a1] [nX9 cI cZ cQ h_t (h_w 0) r_b r_l (h_H 0) r_x r_T r_C r_d r_F r_r r_n u_t, nX8 cI cZ cQ h_w u_w, nX2 cI cZ cQ h_H (hkf h_k0 h_k1 h_k2 h_k3 h_k4 h_k5 h_k6 h_k7) u_H, nX8 cI cZ cQ h_k0 u_k0, nX8 cI cZ cQ h_k1 u_k1, nX8 cI cZ cQ h_k2 u_k2, nX8 cI cZ cQ h_k3 u_k3, nX8 cI cZ cQ h_k4 u_k4, nX8 cI cZ cQ h_k5 u_k5, nX8 cI cZ cQ h_k6 u_k6, nX8 cI cZ cQ h_k7 u_k7] r0 [nX9 cI cZ cQ h_t (h_w 0) r_b r_l (h_H 0) r_x r_T r_C r_d r_F r_r r_n v_t, nX8 cI cZ cQ h_w v_w, nX2 cI cZ cQ h_H (hkf h_k0 h_k1 h_k2 h_k3 h_k4 h_k5 h_k6 h_k7) v_H, nX8 cI cZ cQ h_k0 v_k0, nX8 cI cZ cQ h_k1 v_k1, nX8 cI cZ cQ h_k2 v_k2, nX8 cI cZ cQ h_k3 v_k3, nX8 cI cZ cQ h_k4 v_k4, nX8 cI cZ cQ h_k5 v_k5, nX8 cI cZ cQ h_k6 v_k6, nX8 cI cZ cQ h_k7 v_k7] := by
  refine MI.of (own := RX9) (by decide +kernel) rfl rfl (Nat.le_of_ble_eq_true rfl) (lv0 := [(0, .ref (h_t 0)), (1, .int a1)]) rfl ?_
  intro X O E
  unfold fX9_removeWall at hf
  refine r_ald_n O 1 rfl 0 rfl dX9_removeWall_0 ?_
  refine r_get (ref := RX9) (C := RX9) (T := TX9) (N := 13) O 4 rfl inBX9 0 0 rfl rfl rfl (by decide) flX9_12 rfl rfl dX9_removeWall_1 ?_
  refine r_ild_n O 5 rfl 1 rfl dX9_removeWall_4 ?_
  obtain ⟨x5, hq5, hf⟩ := qb1_some hf
  refine k_VZ O 8 rfl (zX8_exists (l := xl X) (D := xD X) (cI := cI) (cZ := cZ) (cQ := cQ) (h_t := h_w) hq5) (gV mlX9_105 mvX8_exists izX8) rfl rfl rfl hdX8_exists ⟨Nat.le_of_ble_eq_true rfl, Nat.le_of_ble_eq_true rfl⟩ rfl 1 rfl rfl rfl rfl (Nat.le_of_ble_eq_true rfl) ⟨Nat.zero_le _, Nat.zero_le _⟩ [1] rfl rfl rfl ([nX9 cI cZ cQ h_t (h_w 0) r_b r_l (h_H 0) r_x r_T r_C r_d r_F r_r r_n u_t, nX8 cI cZ cQ h_w u_w, nX2 cI cZ cQ h_H (hkf h_k0 h_k1 h_k2 h_k3 h_k4 h_k5 h_k6 h_k7) u_H, nX8 cI cZ cQ h_k0 u_k0, nX8 cI cZ cQ h_k1 u_k1, nX8 cI cZ cQ h_k2 u_k2, nX8 cI cZ cQ h_k3 u_k3, nX8 cI cZ cQ h_k4 u_k4, nX8 cI cZ cQ h_k5 u_k5, nX8 cI cZ cQ h_k6 u_k6, nX8 cI cZ cQ h_k7 u_k7]) rfl dX9_removeWall_5 (fun hz5 => ?_)
  refine r_if_ne O 11 rfl 13 dX9_removeWall_8 (by decide) (fun hc8 => ?_) (fun hc8 => ?_)
  · rw [if_neg hc8] at hf
    refine r_ald_n O 14 rfl 0 rfl dX9_removeWall_13 ?_
    obtain ⟨p14_t, p14_H, p14_k0, p14_k1, p14_k2, p14_k3, p14_k4, p14_k5, p14_k6, p14_k7, hq14, hf⟩ := qb10_some hf
    refine k_VV O 17 rfl (zX9_beginEdit (l := xl X) (D := xD X) (cI := cI) (cZ := cZ) (cQ := cQ) (h_t := h_t) (h_w := h_w) (r_b := r_b) (r_l := r_l) (h_H := h_H) (h_k0 := h_k0) (h_k1 := h_k1) (h_k2 := h_k2) (h_k3 := h_k3) (h_k4 := h_k4) (h_k5 := h_k5) (h_k6 := h_k6) (h_k7 := h_k7) (r_x := r_x) (r_T := r_T) (r_C := r_C) (r_d := r_d) (r_F := r_F) (r_r := r_r) (r_n := r_n) hq14) (gV mlX9_98 mvX9_beginEdit izX9) rfl rfl rfl hdX9_beginEdit ⟨Nat.le_of_ble_eq_true rfl, Nat.le_of_ble_eq_true rfl⟩ rfl 0 rfl rfl rfl rfl (Nat.le_of_ble_eq_true rfl) ⟨Nat.zero_le _, Nat.zero_le _⟩ [0, 1, 2, 3, 4, 5, 6, 7, 8, 9, 10] rfl rfl rfl ([nX9 cI cZ cQ h_t (h_w 0) r_b r_l (h_H 0) r_x r_T r_C r_d r_F r_r r_n p14_t, nX8 cI cZ cQ h_w u_w, nX2 cI cZ cQ h_H (hkf h_k0 h_k1 h_k2 h_k3 h_k4 h_k5 h_k6 h_k7) p14_H, nX8 cI cZ cQ h_k0 p14_k0, nX8 cI cZ cQ h_k1 p14_k1, nX8 cI cZ cQ h_k2 p14_k2, nX8 cI cZ cQ h_k3 p14_k3, nX8 cI cZ cQ h_k4 p14_k4, nX8 cI cZ cQ h_k5 p14_k5, nX8 cI cZ cQ h_k6 p14_k6, nX8 cI cZ cQ h_k7 p14_k7]) rfl dX9_removeWall_14 ?_
    refine r_ald_n O 18 rfl 0 rfl dX9_removeWall_17 ?_
    refine r_get (ref := RX9) (C := RX9) (T := TX9) (N := 13) O 21 rfl inBX9 0 0 rfl rfl rfl (by decide) flX9_12 rfl rfl dX9_removeWall_18 ?_
    refine r_ild_n O 22 rfl 1 rfl dX9_removeWall_21 ?_
    obtain ⟨p22_w, hq22, hf⟩ := qb1_some hf
    refine k_VV O 25 rfl (zX8_drop (l := xl X) (D := xD X) (cI := cI) (cZ := cZ) (cQ := cQ) (h_t := h_w) hq22) (gV mlX9_109 mvX8_drop izX8) rfl rfl rfl hdX8_drop ⟨Nat.le_of_ble_eq_true rfl, Nat.le_of_ble_eq_true rfl⟩ rfl 1 rfl rfl rfl rfl (Nat.le_of_ble_eq_true rfl) ⟨Nat.zero_le _, Nat.zero_le _⟩ [1] rfl rfl rfl ([nX9 cI cZ cQ h_t (h_w 0) r_b r_l (h_H 0) r_x r_T r_C r_d r_F r_r r_n p14_t, nX8 cI cZ cQ h_w p22_w, nX2 cI cZ cQ h_H (hkf h_k0 h_k1 h_k2 h_k3 h_k4 h_k5 h_k6 h_k7) p14_H, nX8 cI cZ cQ h_k0 p14_k0, nX8 cI cZ cQ h_k1 p14_k1, nX8 cI cZ cQ h_k2 p14_k2, nX8 cI cZ cQ h_k3 p14_k3, nX8 cI cZ cQ h_k4 p14_k4, nX8 cI cZ cQ h_k5 p14_k5, nX8 cI cZ cQ h_k6 p14_k6, nX8 cI cZ cQ h_k7 p14_k7]) rfl dX9_removeWall_22 ?_
    refine r_ald_n O 26 rfl 0 rfl dX9_removeWall_25 ?_
    refine r_get (ref := RX9) (C := RX9) (T := TX9) (N := 13) O 29 rfl inBX9 0 0 rfl rfl rfl (by decide) flX9_12 rfl rfl dX9_removeWall_26 ?_
    obtain ⟨x29, hq29, hf⟩ := qb1_some hf
    refine k_VI O 32 rfl (zX8_total (l := xl X) (D := xD X) (cI := cI) (cZ := cZ) (cQ := cQ) (h_t := h_w) hq29) (gV mlX9_113 mvX8_total izX8) rfl rfl rfl hdX8_total ⟨Nat.le_of_ble_eq_true rfl, Nat.le_of_ble_eq_true rfl⟩ rfl 1 rfl rfl rfl rfl (Nat.le_of_ble_eq_true rfl) ⟨Nat.zero_le _, Nat.zero_le _⟩ [1] rfl rfl rfl ([nX9 cI cZ cQ h_t (h_w 0) r_b r_l (h_H 0) r_x r_T r_C r_d r_F r_r r_n p14_t, nX8 cI cZ cQ h_w p22_w, nX2 cI cZ cQ h_H (hkf h_k0 h_k1 h_k2 h_k3 h_k4 h_k5 h_k6 h_k7) p14_H, nX8 cI cZ cQ h_k0 p14_k0, nX8 cI cZ cQ h_k1 p14_k1, nX8 cI cZ cQ h_k2 p14_k2, nX8 cI cZ cQ h_k3 p14_k3, nX8 cI cZ cQ h_k4 p14_k4, nX8 cI cZ cQ h_k5 p14_k5, nX8 cI cZ cQ h_k6 p14_k6, nX8 cI cZ cQ h_k7 p14_k7]) rfl dX9_removeWall_29 ?_
    obtain ⟨g0, g1, g2, g3, g4, g5, g6, g7, g8, g9, g10, g11⟩ := qe12 hf
    exact r_iret2 O E g0 (by rw [g1, g2, g3, g4, g5, g6, g7, g8, g9, g10, g11]) dX9_removeWall_32
  · rw [if_pos hc8] at hf
    refine r_ic O 12 rfl (-1) (by decide) dX9_removeWall_11 ?_
    obtain ⟨g0, g1, g2, g3, g4, g5, g6, g7, g8, g9, g10, g11⟩ := qe12 hf
    exact r_iret2 O E g0 (by rw [g1, g2, g3, g4, g5, g6, g7, g8, g9, g10, g11]) dX9_removeWall_12
-- X9_moveWall
def rmX9_moveWall : Room := { frames := 4, cells := 0, slots := 0, locals := 85 }
set_option maxHeartbeats 4000000 in
set_option maxRecDepth 100000 in
theorem zX9_moveWall {l : Launch} {D : va_G} {cI cZ cQ : ClassId} {h_t h_w h_H h_k0 h_k1 h_k2 h_k3 h_k4 h_k5 h_k6 h_k7 : Nat → Nat} {r_b r_l r_x r_T r_C r_d r_F r_r r_n : Nat} {u_t u_w u_H u_k0 u_k1 u_k2 u_k3 u_k4 u_k5 u_k6 u_k7 : Pk} {a1 : Int32} {a2 : Int32} {a3 : Int32} {r0 : Int32} {v_t v_w v_H v_k0 v_k1 v_k2 v_k3 v_k4 v_k5 v_k6 v_k7 : Pk} (hf : fX9_moveWall u_t u_w u_H u_k0 u_k1 u_k2 u_k3 u_k4 u_k5 u_k6 u_k7 a1 a2 a3 = some (r0, v_t, v_w, v_H, v_k0, v_k1, v_k2, v_k3, v_k4, v_k5, v_k6, v_k7)) : MI l yX9_moveWall wsX9_moveWall rmX9_moveWall D (TY cI cZ cQ) [.ref (h_t 0), .int a1, .int a2, .int a3] [nX9 cI cZ cQ h_t (h_w 0) r_b r_l (h_H 0) r_x r_T r_C r_d r_F r_r r_n u_t, nX8 cI cZ cQ h_w u_w, nX2 cI cZ cQ h_H (hkf h_k0 h_k1 h_k2 h_k3 h_k4 h_k5 h_k6 h_k7) u_H, nX8 cI cZ cQ h_k0 u_k0, nX8 cI cZ cQ h_k1 u_k1, nX8 cI cZ cQ h_k2 u_k2, nX8 cI cZ cQ h_k3 u_k3, nX8 cI cZ cQ h_k4 u_k4, nX8 cI cZ cQ h_k5 u_k5, nX8 cI cZ cQ h_k6 u_k6, nX8 cI cZ cQ h_k7 u_k7] r0 [nX9 cI cZ cQ h_t (h_w 0) r_b r_l (h_H 0) r_x r_T r_C r_d r_F r_r r_n v_t, nX8 cI cZ cQ h_w v_w, nX2 cI cZ cQ h_H (hkf h_k0 h_k1 h_k2 h_k3 h_k4 h_k5 h_k6 h_k7) v_H, nX8 cI cZ cQ h_k0 v_k0, nX8 cI cZ cQ h_k1 v_k1, nX8 cI cZ cQ h_k2 v_k2, nX8 cI cZ cQ h_k3 v_k3, nX8 cI cZ cQ h_k4 v_k4, nX8 cI cZ cQ h_k5 v_k5, nX8 cI cZ cQ h_k6 v_k6, nX8 cI cZ cQ h_k7 v_k7] := by
  refine MI.of (own := RX9) (by decide +kernel) rfl rfl (Nat.le_of_ble_eq_true rfl) (lv0 := [(0, .ref (h_t 0)), (1, .int a1), (2, .int a2), (3, .int a3)]) rfl ?_
  intro X O E
  unfold fX9_moveWall at hf
  refine r_ald_n O 1 rfl 0 rfl dX9_moveWall_0 ?_
  refine r_get (ref := RX9) (C := RX9) (T := TX9) (N := 13) O 4 rfl inBX9 0 0 rfl rfl rfl (by decide) flX9_12 rfl rfl dX9_moveWall_1 ?_
  refine r_ild_n O 5 rfl 1 rfl dX9_moveWall_4 ?_
  obtain ⟨x5, hq5, hf⟩ := qb1_some hf
  refine k_VZ O 8 rfl (zX8_exists (l := xl X) (D := xD X) (cI := cI) (cZ := cZ) (cQ := cQ) (h_t := h_w) hq5) (gV mlX9_105 mvX8_exists izX8) rfl rfl rfl hdX8_exists ⟨Nat.le_of_ble_eq_true rfl, Nat.le_of_ble_eq_true rfl⟩ rfl 1 rfl rfl rfl rfl (Nat.le_of_ble_eq_true rfl) ⟨Nat.zero_le _, Nat.zero_le _⟩ [1] rfl rfl rfl ([nX9 cI cZ cQ h_t (h_w 0) r_b r_l (h_H 0) r_x r_T r_C r_d r_F r_r r_n u_t, nX8 cI cZ cQ h_w u_w, nX2 cI cZ cQ h_H (hkf h_k0 h_k1 h_k2 h_k3 h_k4 h_k5 h_k6 h_k7) u_H, nX8 cI cZ cQ h_k0 u_k0, nX8 cI cZ cQ h_k1 u_k1, nX8 cI cZ cQ h_k2 u_k2, nX8 cI cZ cQ h_k3 u_k3, nX8 cI cZ cQ h_k4 u_k4, nX8 cI cZ cQ h_k5 u_k5, nX8 cI cZ cQ h_k6 u_k6, nX8 cI cZ cQ h_k7 u_k7]) rfl dX9_moveWall_5 (fun hz5 => ?_)
  refine r_if_ne O 11 rfl 13 dX9_moveWall_8 (by decide) (fun hc8 => ?_) (fun hc8 => ?_)
  · rw [if_neg hc8] at hf
    refine r_ild_n O 14 rfl 2 rfl dX9_moveWall_13 ?_
    refine r_bi O 16 rfl (-63) (by decide) dX9_moveWall_14 ?_
    refine r_bi O 18 rfl 63 (by decide) dX9_moveWall_16 ?_
    obtain ⟨x18, hq18, hf⟩ := qb1_some hf
    refine k_SZ O 21 rfl (zX9_isOutside (l := xl X) (D := xD X) (cI := cI) (cZ := cZ) (cQ := cQ) hq18) (gS mlX9_90 mvX9_isOutside izX9) rfl rfl rfl hdX9_isOutside ⟨Nat.le_of_ble_eq_true rfl, Nat.le_of_ble_eq_true rfl⟩ rfl rfl (Nat.le_of_ble_eq_true rfl) ⟨Nat.zero_le _, Nat.zero_le _⟩ [] rfl rfl rfl ([nX9 cI cZ cQ h_t (h_w 0) r_b r_l (h_H 0) r_x r_T r_C r_d r_F r_r r_n u_t, nX8 cI cZ cQ h_w u_w, nX2 cI cZ cQ h_H (hkf h_k0 h_k1 h_k2 h_k3 h_k4 h_k5 h_k6 h_k7) u_H, nX8 cI cZ cQ h_k0 u_k0, nX8 cI cZ cQ h_k1 u_k1, nX8 cI cZ cQ h_k2 u_k2, nX8 cI cZ cQ h_k3 u_k3, nX8 cI cZ cQ h_k4 u_k4, nX8 cI cZ cQ h_k5 u_k5, nX8 cI cZ cQ h_k6 u_k6, nX8 cI cZ cQ h_k7 u_k7]) rfl dX9_moveWall_18 (fun hz18 => ?_)
    refine r_if_ne O 24 rfl 35 dX9_moveWall_21 (by decide) (fun hc21 => ?_) (fun hc21 => ?_)
    · rw [if_neg hc21] at hf
      refine r_bi O 37 rfl (-2) (by decide) dX9_moveWall_35 ?_
      obtain ⟨g0, g1, g2, g3, g4, g5, g6, g7, g8, g9, g10, g11⟩ := qe12 hf
      exact r_iret2 O E g0 (by rw [g1, g2, g3, g4, g5, g6, g7, g8, g9, g10, g11]) dX9_moveWall_37
    · rw [if_pos hc21] at hf
      refine r_ild_n O 25 rfl 3 rfl dX9_moveWall_24 ?_
      refine r_bi O 27 rfl (-63) (by decide) dX9_moveWall_25 ?_
      refine r_bi O 29 rfl 63 (by decide) dX9_moveWall_27 ?_
      obtain ⟨x29, hq29, hf⟩ := qb1_some hf
      refine k_SZ O 32 rfl (zX9_isOutside (l := xl X) (D := xD X) (cI := cI) (cZ := cZ) (cQ := cQ) hq29) (gS mlX9_90 mvX9_isOutside izX9) rfl rfl rfl hdX9_isOutside ⟨Nat.le_of_ble_eq_true rfl, Nat.le_of_ble_eq_true rfl⟩ rfl rfl (Nat.le_of_ble_eq_true rfl) ⟨Nat.zero_le _, Nat.zero_le _⟩ [] rfl rfl rfl ([nX9 cI cZ cQ h_t (h_w 0) r_b r_l (h_H 0) r_x r_T r_C r_d r_F r_r r_n u_t, nX8 cI cZ cQ h_w u_w, nX2 cI cZ cQ h_H (hkf h_k0 h_k1 h_k2 h_k3 h_k4 h_k5 h_k6 h_k7) u_H, nX8 cI cZ cQ h_k0 u_k0, nX8 cI cZ cQ h_k1 u_k1, nX8 cI cZ cQ h_k2 u_k2, nX8 cI cZ cQ h_k3 u_k3, nX8 cI cZ cQ h_k4 u_k4, nX8 cI cZ cQ h_k5 u_k5, nX8 cI cZ cQ h_k6 u_k6, nX8 cI cZ cQ h_k7 u_k7]) rfl dX9_moveWall_29 (fun hz29 => ?_)
      refine r_if_eq O 35 rfl 38 dX9_moveWall_32 (by decide) (fun hc32 => ?_) (fun hc32 => ?_)
      · rw [if_pos hc32] at hf
        refine r_ald_n O 39 rfl 0 rfl dX9_moveWall_38 ?_
        refine r_get (ref := RX9) (C := RX9) (T := TX9) (N := 13) O 42 rfl inBX9 0 0 rfl rfl rfl (by decide) flX9_12 rfl rfl dX9_moveWall_39 ?_
        refine r_ild_n O 43 rfl 1 rfl dX9_moveWall_42 ?_
        obtain ⟨x43, hq43, hf⟩ := qb1_some hf
        refine k_VI O 46 rfl (zX8_startX (l := xl X) (D := xD X) (cI := cI) (cZ := cZ) (cQ := cQ) (h_t := h_w) hq43) (gV mlX9_116 mvX8_startX izX8) rfl rfl rfl hdX8_startX ⟨Nat.le_of_ble_eq_true rfl, Nat.le_of_ble_eq_true rfl⟩ rfl 1 rfl rfl rfl rfl (Nat.le_of_ble_eq_true rfl) ⟨Nat.zero_le _, Nat.zero_le _⟩ [1] rfl rfl rfl ([nX9 cI cZ cQ h_t (h_w 0) r_b r_l (h_H 0) r_x r_T r_C r_d r_F r_r r_n u_t, nX8 cI cZ cQ h_w u_w, nX2 cI cZ cQ h_H (hkf h_k0 h_k1 h_k2 h_k3 h_k4 h_k5 h_k6 h_k7) u_H, nX8 cI cZ cQ h_k0 u_k0, nX8 cI cZ cQ h_k1 u_k1, nX8 cI cZ cQ h_k2 u_k2, nX8 cI cZ cQ h_k3 u_k3, nX8 cI cZ cQ h_k4 u_k4, nX8 cI cZ cQ h_k5 u_k5, nX8 cI cZ cQ h_k6 u_k6, nX8 cI cZ cQ h_k7 u_k7]) rfl dX9_moveWall_43 ?_
        refine r_ild_n O 47 rfl 2 rfl dX9_moveWall_46 ?_
        refine r_iadd O 48 rfl dX9_moveWall_47 ?_
        refine r_ald_n O 49 rfl 0 rfl dX9_moveWall_48 ?_
        refine r_get (ref := RX9) (C := RX9) (T := TX9) (N := 13) O 52 rfl inBX9 0 0 rfl rfl rfl (by decide) flX9_12 rfl rfl dX9_moveWall_49 ?_
        refine r_ild_n O 53 rfl 1 rfl dX9_moveWall_52 ?_
        obtain ⟨x53, hq53, hf⟩ := qb1_some hf
        refine k_VI O 56 rfl (zX8_startY (l := xl X) (D := xD X) (cI := cI) (cZ := cZ) (cQ := cQ) (h_t := h_w) hq53) (gV mlX9_120 mvX8_startY izX8) rfl rfl rfl hdX8_startY ⟨Nat.le_of_ble_eq_true rfl, Nat.le_of_ble_eq_true rfl⟩ rfl 1 rfl rfl rfl rfl (Nat.le_of_ble_eq_true rfl) ⟨Nat.zero_le _, Nat.zero_le _⟩ [1] rfl rfl rfl ([nX9 cI cZ cQ h_t (h_w 0) r_b r_l (h_H 0) r_x r_T r_C r_d r_F r_r r_n u_t, nX8 cI cZ cQ h_w u_w, nX2 cI cZ cQ h_H (hkf h_k0 h_k1 h_k2 h_k3 h_k4 h_k5 h_k6 h_k7) u_H, nX8 cI cZ cQ h_k0 u_k0, nX8 cI cZ cQ h_k1 u_k1, nX8 cI cZ cQ h_k2 u_k2, nX8 cI cZ cQ h_k3 u_k3, nX8 cI cZ cQ h_k4 u_k4, nX8 cI cZ cQ h_k5 u_k5, nX8 cI cZ cQ h_k6 u_k6, nX8 cI cZ cQ h_k7 u_k7]) rfl dX9_moveWall_53 ?_
        refine r_ild_n O 57 rfl 3 rfl dX9_moveWall_56 ?_
        refine r_iadd O 58 rfl dX9_moveWall_57 ?_
        obtain ⟨x58, hq58, hf⟩ := qb1_some hf
        refine k_SZ O 61 rfl (zX9_isBadPoint (l := xl X) (D := xD X) (cI := cI) (cZ := cZ) (cQ := cQ) hq58) (gS mlX9_86 mvX9_isBadPoint izX9) rfl rfl rfl hdX9_isBadPoint ⟨Nat.le_of_ble_eq_true rfl, Nat.le_of_ble_eq_true rfl⟩ rfl rfl (Nat.le_of_ble_eq_true rfl) ⟨Nat.zero_le _, Nat.zero_le _⟩ [] rfl rfl rfl ([nX9 cI cZ cQ h_t (h_w 0) r_b r_l (h_H 0) r_x r_T r_C r_d r_F r_r r_n u_t, nX8 cI cZ cQ h_w u_w, nX2 cI cZ cQ h_H (hkf h_k0 h_k1 h_k2 h_k3 h_k4 h_k5 h_k6 h_k7) u_H, nX8 cI cZ cQ h_k0 u_k0, nX8 cI cZ cQ h_k1 u_k1, nX8 cI cZ cQ h_k2 u_k2, nX8 cI cZ cQ h_k3 u_k3, nX8 cI cZ cQ h_k4 u_k4, nX8 cI cZ cQ h_k5 u_k5, nX8 cI cZ cQ h_k6 u_k6, nX8 cI cZ cQ h_k7 u_k7]) rfl dX9_moveWall_58 (fun hz58 => ?_)
        refine r_if_ne O 64 rfl 90 dX9_moveWall_61 (by decide) (fun hc61 => ?_) (fun hc61 => ?_)
        · rw [if_neg hc61] at hf
          refine r_bi O 92 rfl (-2) (by decide) dX9_moveWall_90 ?_
          obtain ⟨g0, g1, g2, g3, g4, g5, g6, g7, g8, g9, g10, g11⟩ := qe12 hf
          exact r_iret2 O E g0 (by rw [g1, g2, g3, g4, g5, g6, g7, g8, g9, g10, g11]) dX9_moveWall_92
        · rw [if_pos hc61] at hf
          refine r_ald_n O 65 rfl 0 rfl dX9_moveWall_64 ?_
          refine r_get (ref := RX9) (C := RX9) (T := TX9) (N := 13) O 68 rfl inBX9 0 0 rfl rfl rfl (by decide) flX9_12 rfl rfl dX9_moveWall_65 ?_
          refine r_ild_n O 69 rfl 1 rfl dX9_moveWall_68 ?_
          obtain ⟨x69, hq69, hf⟩ := qb1_some hf
          refine k_VI O 72 rfl (zX8_endX (l := xl X) (D := xD X) (cI := cI) (cZ := cZ) (cQ := cQ) (h_t := h_w) hq69) (gV mlX9_123 mvX8_endX izX8) rfl rfl rfl hdX8_endX ⟨Nat.le_of_ble_eq_true rfl, Nat.le_of_ble_eq_true rfl⟩ rfl 1 rfl rfl rfl rfl (Nat.le_of_ble_eq_true rfl) ⟨Nat.zero_le _, Nat.zero_le _⟩ [1] rfl rfl rfl ([nX9 cI cZ cQ h_t (h_w 0) r_b r_l (h_H 0) r_x r_T r_C r_d r_F r_r r_n u_t, nX8 cI cZ cQ h_w u_w, nX2 cI cZ cQ h_H (hkf h_k0 h_k1 h_k2 h_k3 h_k4 h_k5 h_k6 h_k7) u_H, nX8 cI cZ cQ h_k0 u_k0, nX8 cI cZ cQ h_k1 u_k1, nX8 cI cZ cQ h_k2 u_k2, nX8 cI cZ cQ h_k3 u_k3, nX8 cI cZ cQ h_k4 u_k4, nX8 cI cZ cQ h_k5 u_k5, nX8 cI cZ cQ h_k6 u_k6, nX8 cI cZ cQ h_k7 u_k7]) rfl dX9_moveWall_69 ?_
          refine r_ild_n O 73 rfl 2 rfl dX9_moveWall_72 ?_
          refine r_iadd O 74 rfl dX9_moveWall_73 ?_
          refine r_ald_n O 75 rfl 0 rfl dX9_moveWall_74 ?_
          refine r_get (ref := RX9) (C := RX9) (T := TX9) (N := 13) O 78 rfl inBX9 0 0 rfl rfl rfl (by decide) flX9_12 rfl rfl dX9_moveWall_75 ?_
          refine r_ild_n O 79 rfl 1 rfl dX9_moveWall_78 ?_
          obtain ⟨x79, hq79, hf⟩ := qb1_some hf
          refine k_VI O 82 rfl (zX8_endY (l := xl X) (D := xD X) (cI := cI) (cZ := cZ) (cQ := cQ) (h_t := h_w) hq79) (gV mlX9_126 mvX8_endY izX8) rfl rfl rfl hdX8_endY ⟨Nat.le_of_ble_eq_true rfl, Nat.le_of_ble_eq_true rfl⟩ rfl 1 rfl rfl rfl rfl (Nat.le_of_ble_eq_true rfl) ⟨Nat.zero_le _, Nat.zero_le _⟩ [1] rfl rfl rfl ([nX9 cI cZ cQ h_t (h_w 0) r_b r_l (h_H 0) r_x r_T r_C r_d r_F r_r r_n u_t, nX8 cI cZ cQ h_w u_w, nX2 cI cZ cQ h_H (hkf h_k0 h_k1 h_k2 h_k3 h_k4 h_k5 h_k6 h_k7) u_H, nX8 cI cZ cQ h_k0 u_k0, nX8 cI cZ cQ h_k1 u_k1, nX8 cI cZ cQ h_k2 u_k2, nX8 cI cZ cQ h_k3 u_k3, nX8 cI cZ cQ h_k4 u_k4, nX8 cI cZ cQ h_k5 u_k5, nX8 cI cZ cQ h_k6 u_k6, nX8 cI cZ cQ h_k7 u_k7]) rfl dX9_moveWall_79 ?_
          refine r_ild_n O 83 rfl 3 rfl dX9_moveWall_82 ?_
          refine r_iadd O 84 rfl dX9_moveWall_83 ?_
          obtain ⟨x84, hq84, hf⟩ := qb1_some hf
          refine k_SZ O 87 rfl (zX9_isBadPoint (l := xl X) (D := xD X) (cI := cI) (cZ := cZ) (cQ := cQ) hq84) (gS mlX9_86 mvX9_isBadPoint izX9) rfl rfl rfl hdX9_isBadPoint ⟨Nat.le_of_ble_eq_true rfl, Nat.le_of_ble_eq_true rfl⟩ rfl rfl (Nat.le_of_ble_eq_true rfl) ⟨Nat.zero_le _, Nat.zero_le _⟩ [] rfl rfl rfl ([nX9 cI cZ cQ h_t (h_w 0) r_b r_l (h_H 0) r_x r_T r_C r_d r_F r_r r_n u_t, nX8 cI cZ cQ h_w u_w, nX2 cI cZ cQ h_H (hkf h_k0 h_k1 h_k2 h_k3 h_k4 h_k5 h_k6 h_k7) u_H, nX8 cI cZ cQ h_k0 u_k0, nX8 cI cZ cQ h_k1 u_k1, nX8 cI cZ cQ h_k2 u_k2, nX8 cI cZ cQ h_k3 u_k3, nX8 cI cZ cQ h_k4 u_k4, nX8 cI cZ cQ h_k5 u_k5, nX8 cI cZ cQ h_k6 u_k6, nX8 cI cZ cQ h_k7 u_k7]) rfl dX9_moveWall_84 (fun hz84 => ?_)
          refine r_if_eq O 90 rfl 93 dX9_moveWall_87 (by decide) (fun hc87 => ?_) (fun hc87 => ?_)
          · rw [if_pos hc87] at hf
            refine r_ald_n O 94 rfl 0 rfl dX9_moveWall_93 ?_
            refine r_get (ref := RX9) (C := RX9) (T := TX9) (N := 13) O 97 rfl inBX9 0 0 rfl rfl rfl (by decide) flX9_12 rfl rfl dX9_moveWall_94 ?_
            refine r_ild_n O 98 rfl 1 rfl dX9_moveWall_97 ?_
            obtain ⟨x98, hq98, hf⟩ := qb1_some hf
            refine k_VI O 101 rfl (zX8_startX (l := xl X) (D := xD X) (cI := cI) (cZ := cZ) (cQ := cQ) (h_t := h_w) hq98) (gV mlX9_116 mvX8_startX izX8) rfl rfl rfl hdX8_startX ⟨Nat.le_of_ble_eq_true rfl, Nat.le_of_ble_eq_true rfl⟩ rfl 1 rfl rfl rfl rfl (Nat.le_of_ble_eq_true rfl) ⟨Nat.zero_le _, Nat.zero_le _⟩ [1] rfl rfl rfl ([nX9 cI cZ cQ h_t (h_w 0) r_b r_l (h_H 0) r_x r_T r_C r_d r_F r_r r_n u_t, nX8 cI cZ cQ h_w u_w, nX2 cI cZ cQ h_H (hkf h_k0 h_k1 h_k2 h_k3 h_k4 h_k5 h_k6 h_k7) u_H, nX8 cI cZ cQ h_k0 u_k0, nX8 cI cZ cQ h_k1 u_k1, nX8 cI cZ cQ h_k2 u_k2, nX8 cI cZ cQ h_k3 u_k3, nX8 cI cZ cQ h_k4 u_k4, nX8 cI cZ cQ h_k5 u_k5, nX8 cI cZ cQ h_k6 u_k6, nX8 cI cZ cQ h_k7 u_k7]) rfl dX9_moveWall_98 ?_
            refine r_ald_n O 102 rfl 0 rfl dX9_moveWall_101 ?_
            refine r_get (ref := RX9) (C := RX9) (T := TX9) (N := 13) O 105 rfl inBX9 0 0 rfl rfl rfl (by decide) flX9_12 rfl rfl dX9_moveWall_102 ?_
            refine r_ild_n O 106 rfl 1 rfl dX9_moveWall_105 ?_
            obtain ⟨x106, hq106, hf⟩ := qb1_some hf
            refine k_VI O 109 rfl (zX8_startY (l := xl X) (D := xD X) (cI := cI) (cZ := cZ) (cQ := cQ) (h_t := h_w) hq106) (gV mlX9_120 mvX8_startY izX8) rfl rfl rfl hdX8_startY ⟨Nat.le_of_ble_eq_true rfl, Nat.le_of_ble_eq_true rfl⟩ rfl 1 rfl rfl rfl rfl (Nat.le_of_ble_eq_true rfl) ⟨Nat.zero_le _, Nat.zero_le _⟩ [1] rfl rfl rfl ([nX9 cI cZ cQ h_t (h_w 0) r_b r_l (h_H 0) r_x r_T r_C r_d r_F r_r r_n u_t, nX8 cI cZ cQ h_w u_w, nX2 cI cZ cQ h_H (hkf h_k0 h_k1 h_k2 h_k3 h_k4 h_k5 h_k6 h_k7) u_H, nX8 cI cZ cQ h_k0 u_k0, nX8 cI cZ cQ h_k1 u_k1, nX8 cI cZ cQ h_k2 u_k2, nX8 cI cZ cQ h_k3 u_k3, nX8 cI cZ cQ h_k4 u_k4, nX8 cI cZ cQ h_k5 u_k5, nX8 cI cZ cQ h_k6 u_k6, nX8 cI cZ cQ h_k7 u_k7]) rfl dX9_moveWall_106 ?_
            obtain ⟨x109, hq109, hf⟩ := qb1_some hf
            refine k_SI O 112 rfl (zX9_pointCode (l := xl X) (D := xD X) (cI := cI) (cZ := cZ) (cQ := cQ) hq109) (gS mlX9_129 mvX9_pointCode izX9) rfl rfl rfl hdX9_pointCode ⟨Nat.le_of_ble_eq_true rfl, Nat.le_of_ble_eq_true rfl⟩ rfl rfl (Nat.le_of_ble_eq_true rfl) ⟨Nat.zero_le _, Nat.zero_le _⟩ [] rfl rfl rfl ([nX9 cI cZ cQ h_t (h_w 0) r_b r_l (h_H 0) r_x r_T r_C r_d r_F r_r r_n u_t, nX8 cI cZ cQ h_w u_w, nX2 cI cZ cQ h_H (hkf h_k0 h_k1 h_k2 h_k3 h_k4 h_k5 h_k6 h_k7) u_H, nX8 cI cZ cQ h_k0 u_k0, nX8 cI cZ cQ h_k1 u_k1, nX8 cI cZ cQ h_k2 u_k2, nX8 cI cZ cQ h_k3 u_k3, nX8 cI cZ cQ h_k4 u_k4, nX8 cI cZ cQ h_k5 u_k5, nX8 cI cZ cQ h_k6 u_k6, nX8 cI cZ cQ h_k7 u_k7]) rfl dX9_moveWall_109 ?_
            refine r_ist O 114 rfl [(4, .int x109), (0, .ref (h_t 0)), (1, .int a1), (2, .int a2), (3, .int a3)] dX9_moveWall_112 (by decide) rfl ?_
            refine r_ald_n O 115 rfl 1 rfl dX9_moveWall_114 ?_
            obtain ⟨p115_t, p115_H, p115_k0, p115_k1, p115_k2, p115_k3, p115_k4, p115_k5, p115_k6, p115_k7, hq115, hf⟩ := qb10_some hf
            refine k_VV O 118 rfl (zX9_beginEdit (l := xl X) (D := xD X) (cI := cI) (cZ := cZ) (cQ := cQ) (h_t := h_t) (h_w := h_w) (r_b := r_b) (r_l := r_l) (h_H := h_H) (h_k0 := h_k0) (h_k1 := h_k1) (h_k2 := h_k2) (h_k3 := h_k3) (h_k4 := h_k4) (h_k5 := h_k5) (h_k6 := h_k6) (h_k7 := h_k7) (r_x := r_x) (r_T := r_T) (r_C := r_C) (r_d := r_d) (r_F := r_F) (r_r := r_r) (r_n := r_n) hq115) (gV mlX9_98 mvX9_beginEdit izX9) rfl rfl rfl hdX9_beginEdit ⟨Nat.le_of_ble_eq_true rfl, Nat.le_of_ble_eq_true rfl⟩ rfl 0 rfl rfl rfl rfl (Nat.le_of_ble_eq_true rfl) ⟨Nat.zero_le _, Nat.zero_le _⟩ [0, 1, 2, 3, 4, 5, 6, 7, 8, 9, 10] rfl rfl rfl ([nX9 cI cZ cQ h_t (h_w 0) r_b r_l (h_H 0) r_x r_T r_C r_d r_F r_r r_n p115_t, nX8 cI cZ cQ h_w u_w, nX2 cI cZ cQ h_H (hkf h_k0 h_k1 h_k2 h_k3 h_k4 h_k5 h_k6 h_k7) p115_H, nX8 cI cZ cQ h_k0 p115_k0, nX8 cI cZ cQ h_k1 p115_k1, nX8 cI cZ cQ h_k2 p115_k2, nX8 cI cZ cQ h_k3 p115_k3, nX8 cI cZ cQ h_k4 p115_k4, nX8 cI cZ cQ h_k5 p115_k5, nX8 cI cZ cQ h_k6 p115_k6, nX8 cI cZ cQ h_k7 p115_k7]) rfl dX9_moveWall_115 ?_
            refine r_ald_n O 119 rfl 1 rfl dX9_moveWall_118 ?_
            refine r_get (ref := RX9) (C := RX9) (T := TX9) (N := 13) O 122 rfl inBX9 0 0 rfl rfl rfl (by decide) flX9_12 rfl rfl dX9_moveWall_119 ?_
            refine r_ild_n O 123 rfl 2 rfl dX9_moveWall_122 ?_
            refine r_ild_n O 124 rfl 3 rfl dX9_moveWall_123 ?_
            refine r_ild_n O 125 rfl 4 rfl dX9_moveWall_124 ?_
            obtain ⟨p125_w, hq125, hf⟩ := qb1_some hf
            refine k_VV O 128 rfl (zX8_shift (l := xl X) (D := xD X) (cI := cI) (cZ := cZ) (cQ := cQ) (h_t := h_w) hq125) (gV mlX9_133 mvX8_shift izX8) rfl rfl rfl hdX8_shift ⟨Nat.le_of_ble_eq_true rfl, Nat.le_of_ble_eq_true rfl⟩ rfl 1 rfl rfl rfl rfl (Nat.le_of_ble_eq_true rfl) ⟨Nat.zero_le _, Nat.zero_le _⟩ [1] rfl rfl rfl ([nX9 cI cZ cQ h_t (h_w 0) r_b r_l (h_H 0) r_x r_T r_C r_d r_F r_r r_n p115_t, nX8 cI cZ cQ h_w p125_w, nX2 cI cZ cQ h_H (hkf h_k0 h_k1 h_k2 h_k3 h_k4 h_k5 h_k6 h_k7) p115_H, nX8 cI cZ cQ h_k0 p115_k0, nX8 cI cZ cQ h_k1 p115_k1, nX8 cI cZ cQ h_k2 p115_k2, nX8 cI cZ cQ h_k3 p115_k3, nX8 cI cZ cQ h_k4 p115_k4, nX8 cI cZ cQ h_k5 p115_k5, nX8 cI cZ cQ h_k6 p115_k6, nX8 cI cZ cQ h_k7 p115_k7]) rfl dX9_moveWall_125 ?_
            refine r_ild O 130 rfl 0 rfl dX9_moveWall_128 ?_
            obtain ⟨g0, g1, g2, g3, g4, g5, g6, g7, g8, g9, g10, g11⟩ := qe12 hf
            exact r_iret2 O E g0 (by rw [g1, g2, g3, g4, g5, g6, g7, g8, g9, g10, g11]) dX9_moveWall_130
          · rw [if_neg hc87] at hf
            refine r_bi O 92 rfl (-2) (by decide) dX9_moveWall_90 ?_
            obtain ⟨g0, g1, g2, g3, g4, g5, g6, g7, g8, g9, g10, g11⟩ := qe12 hf
            exact r_iret2 O E g0 (by rw [g1, g2, g3, g4, g5, g6, g7, g8, g9, g10, g11]) dX9_moveWall_92
      · rw [if_neg hc32] at hf
        refine r_bi O 37 rfl (-2) (by decide) dX9_moveWall_35 ?_
        obtain ⟨g0, g1, g2, g3, g4, g5, g6, g7, g8, g9, g10, g11⟩ := qe12 hf
        exact r_iret2 O E g0 (by rw [g1, g2, g3, g4, g5, g6, g7, g8, g9, g10, g11]) dX9_moveWall_37
  · rw [if_pos hc8] at hf
    refine r_ic O 12 rfl (-1) (by decide) dX9_moveWall_11 ?_
    obtain ⟨g0, g1, g2, g3, g4, g5, g6, g7, g8, g9, g10, g11⟩ := qe12 hf
    exact r_iret2 O E g0 (by rw [g1, g2, g3, g4, g5, g6, g7, g8, g9, g10, g11]) dX9_moveWall_12
-- X9_turnWall
def rmX9_turnWall : Room := { frames := 4, cells := 0, slots := 0, locals := 85 }
set_option maxHeartbeats 4000000 in
set_option maxRecDepth 100000 in
theorem zX9_turnWall {l : Launch} {D : va_G} {cI cZ cQ : ClassId} {h_t h_w h_H h_k0 h_k1 h_k2 h_k3 h_k4 h_k5 h_k6 h_k7 : Nat → Nat} {r_b r_l r_x r_T r_C r_d r_F r_r r_n : Nat} {u_t u_w u_H u_k0 u_k1 u_k2 u_k3 u_k4 u_k5 u_k6 u_k7 : Pk} {a1 : Int32} {r0 : Int32} {v_t v_w v_H v_k0 v_k1 v_k2 v_k3 v_k4 v_k5 v_k6 v_k7 : Pk} (hf : fX9_turnWall u_t u_w u_H u_k0 u_k1 u_k2 u_k3 u_k4 u_k5 u_k6 u_k7 a1 = some (r0, v_t, v_w, v_H, v_k0, v_k1, v_k2, v_k3, v_k4, v_k5, v_k6, v_k7)) : MI l yX9_turnWall wsX9_turnWall rmX9_turnWall D (TY cI cZ cQ) [.ref (h_t 0), .int a1] [nX9 cI cZ cQ h_t (h_w 0) r_b r_l (h_H 0) r_x r_T r_C r_d r_F r_r r_n u_t, nX8 cI cZ cQ h_w u_w, nX2 cI cZ cQ h_H (hkf h_k0 h_k1 h_k2 h_k3 h_k4 h_k5 h_k6 h_k7) u_H, nX8 cI cZ cQ h_k0 u_k0, nX8 cI cZ cQ h_k1 u_k1, nX8 cI cZ cQ h_k2 u_k2, nX8 cI cZ cQ h_k3 u_k3, nX8 cI cZ cQ h_k4 u_k4, nX8 cI cZ cQ h_k5 u_k5, nX8 cI cZ cQ h_k6 u_k6, nX8 cI cZ cQ h_k7 u_k7] r0 [nX9 cI cZ cQ h_t (h_w 0) r_b r_l (h_H 0) r_x r_T r_C r_d r_F r_r r_n v_t, nX8 cI cZ cQ h_w v_w, nX2 cI cZ cQ h_H (hkf h_k0 h_k1 h_k2 h_k3 h_k4 h_k5 h_k6 h_k7) v_H, nX8 cI cZ cQ h_k0 v_k0, nX8 cI cZ cQ h_k1 v_k1, nX8 cI cZ cQ h_k2 v_k2, nX8 cI cZ cQ h_k3 v_k3, nX8 cI cZ cQ h_k4 v_k4, nX8 cI cZ cQ h_k5 v_k5, nX8 cI cZ cQ h_k6 v_k6, nX8 cI cZ cQ h_k7 v_k7] := by
  refine MI.of (own := RX9) (by decide +kernel) rfl rfl (Nat.le_of_ble_eq_true rfl) (lv0 := [(0, .ref (h_t 0)), (1, .int a1)]) rfl ?_
  intro X O E
  unfold fX9_turnWall at hf
  refine r_ald_n O 1 rfl 0 rfl dX9_turnWall_0 ?_
  refine r_get (ref := RX9) (C := RX9) (T := TX9) (N := 13) O 4 rfl inBX9 0 0 rfl rfl rfl (by decide) flX9_12 rfl rfl dX9_turnWall_1 ?_
  refine r_ild_n O 5 rfl 1 rfl dX9_turnWall_4 ?_
  obtain ⟨x5, hq5, hf⟩ := qb1_some hf
  refine k_VZ O 8 rfl (zX8_exists (l := xl X) (D := xD X) (cI := cI) (cZ := cZ) (cQ := cQ) (h_t := h_w) hq5) (gV mlX9_105 mvX8_exists izX8) rfl rfl rfl hdX8_exists ⟨Nat.le_of_ble_eq_true rfl, Nat.le_of_ble_eq_true rfl⟩ rfl 1 rfl rfl rfl rfl (Nat.le_of_ble_eq_true rfl) ⟨Nat.zero_le _, Nat.zero_le _⟩ [1] rfl rfl rfl ([nX9 cI cZ cQ h_t (h_w 0) r_b r_l (h_H 0) r_x r_T r_C r_d r_F r_r r_n u_t, nX8 cI cZ cQ h_w u_w, nX2 cI cZ cQ h_H (hkf h_k0 h_k1 h_k2 h_k3 h_k4 h_k5 h_k6 h_k7) u_H, nX8 cI cZ cQ h_k0 u_k0, nX8 cI cZ cQ h_k1 u_k1, nX8 cI cZ cQ h_k2 u_k2, nX8 cI cZ cQ h_k3 u_k3, nX8 cI cZ cQ h_k4 u_k4, nX8 cI cZ cQ h_k5 u_k5, nX8 cI cZ cQ h_k6 u_k6, nX8 cI cZ cQ h_k7 u_k7]) rfl dX9_turnWall_5 (fun hz5 => ?_)
  refine r_if_ne O 11 rfl 13 dX9_turnWall_8 (by decide) (fun hc8 => ?_) (fun hc8 => ?_)
  · rw [if_neg hc8] at hf
    refine r_ald_n O 14 rfl 0 rfl dX9_turnWall_13 ?_
    obtain ⟨p14_t, p14_H, p14_k0, p14_k1, p14_k2, p14_k3, p14_k4, p14_k5, p14_k6, p14_k7, hq14, hf⟩ := qb10_some hf
    refine k_VV O 17 rfl (zX9_beginEdit (l := xl X) (D := xD X) (cI := cI) (cZ := cZ) (cQ := cQ) (h_t := h_t) (h_w := h_w) (r_b := r_b) (r_l := r_l) (h_H := h_H) (h_k0 := h_k0) (h_k1 := h_k1) (h_k2 := h_k2) (h_k3 := h_k3) (h_k4 := h_k4) (h_k5 := h_k5) (h_k6 := h_k6) (h_k7 := h_k7) (r_x := r_x) (r_T := r_T) (r_C := r_C) (r_d := r_d) (r_F := r_F) (r_r := r_r) (r_n := r_n) hq14) (gV mlX9_98 mvX9_beginEdit izX9) rfl rfl rfl hdX9_beginEdit ⟨Nat.le_of_ble_eq_true rfl, Nat.le_of_ble_eq_true rfl⟩ rfl 0 rfl rfl rfl rfl (Nat.le_of_ble_eq_true rfl) ⟨Nat.zero_le _, Nat.zero_le _⟩ [0, 1, 2, 3, 4, 5, 6, 7, 8, 9, 10] rfl rfl rfl ([nX9 cI cZ cQ h_t (h_w 0) r_b r_l (h_H 0) r_x r_T r_C r_d r_F r_r r_n p14_t, nX8 cI cZ cQ h_w u_w, nX2 cI cZ cQ h_H (hkf h_k0 h_k1 h_k2 h_k3 h_k4 h_k5 h_k6 h_k7) p14_H, nX8 cI cZ cQ h_k0 p14_k0, nX8 cI cZ cQ h_k1 p14_k1, nX8 cI cZ cQ h_k2 p14_k2, nX8 cI cZ cQ h_k3 p14_k3, nX8 cI cZ cQ h_k4 p14_k4, nX8 cI cZ cQ h_k5 p14_k5, nX8 cI cZ cQ h_k6 p14_k6, nX8 cI cZ cQ h_k7 p14_k7]) rfl dX9_turnWall_14 ?_
    refine r_ald_n O 18 rfl 0 rfl dX9_turnWall_17 ?_
    refine r_get (ref := RX9) (C := RX9) (T := TX9) (N := 13) O 21 rfl inBX9 0 0 rfl rfl rfl (by decide) flX9_12 rfl rfl dX9_turnWall_18 ?_
    refine r_ild_n O 22 rfl 1 rfl dX9_turnWall_21 ?_
    obtain ⟨p22_w, hq22, hf⟩ := qb1_some hf
    refine k_VV O 25 rfl (zX8_turn (l := xl X) (D := xD X) (cI := cI) (cZ := cZ) (cQ := cQ) (h_t := h_w) hq22) (gV mlX9_137 mvX8_turn izX8) rfl rfl rfl hdX8_turn ⟨Nat.le_of_ble_eq_true rfl, Nat.le_of_ble_eq_true rfl⟩ rfl 1 rfl rfl rfl rfl (Nat.le_of_ble_eq_true rfl) ⟨Nat.zero_le _, Nat.zero_le _⟩ [1] rfl rfl rfl ([nX9 cI cZ cQ h_t (h_w 0) r_b r_l (h_H 0) r_x r_T r_C r_d r_F r_r r_n p14_t, nX8 cI cZ cQ h_w p22_w, nX2 cI cZ cQ h_H (hkf h_k0 h_k1 h_k2 h_k3 h_k4 h_k5 h_k6 h_k7) p14_H, nX8 cI cZ cQ h_k0 p14_k0, nX8 cI cZ cQ h_k1 p14_k1, nX8 cI cZ cQ h_k2 p14_k2, nX8 cI cZ cQ h_k3 p14_k3, nX8 cI cZ cQ h_k4 p14_k4, nX8 cI cZ cQ h_k5 p14_k5, nX8 cI cZ cQ h_k6 p14_k6, nX8 cI cZ cQ h_k7 p14_k7]) rfl dX9_turnWall_22 ?_
    refine r_ald_n O 26 rfl 0 rfl dX9_turnWall_25 ?_
    refine r_get (ref := RX9) (C := RX9) (T := TX9) (N := 13) O 29 rfl inBX9 0 0 rfl rfl rfl (by decide) flX9_12 rfl rfl dX9_turnWall_26 ?_
    refine r_ild_n O 30 rfl 1 rfl dX9_turnWall_29 ?_
    obtain ⟨x30, hq30, hf⟩ := qb1_some hf
    refine k_VI O 33 rfl (zX8_kindOf (l := xl X) (D := xD X) (cI := cI) (cZ := cZ) (cQ := cQ) (h_t := h_w) hq30) (gV mlX9_140 mvX8_kindOf izX8) rfl rfl rfl hdX8_kindOf ⟨Nat.le_of_ble_eq_true rfl, Nat.le_of_ble_eq_true rfl⟩ rfl 1 rfl rfl rfl rfl (Nat.le_of_ble_eq_true rfl) ⟨Nat.zero_le _, Nat.zero_le _⟩ [1] rfl rfl rfl ([nX9 cI cZ cQ h_t (h_w 0) r_b r_l (h_H 0) r_x r_T r_C r_d r_F r_r r_n p14_t, nX8 cI cZ cQ h_w p22_w, nX2 cI cZ cQ h_H (hkf h_k0 h_k1 h_k2 h_k3 h_k4 h_k5 h_k6 h_k7) p14_H, nX8 cI cZ cQ h_k0 p14_k0, nX8 cI cZ cQ h_k1 p14_k1, nX8 cI cZ cQ h_k2 p14_k2, nX8 cI cZ cQ h_k3 p14_k3, nX8 cI cZ cQ h_k4 p14_k4, nX8 cI cZ cQ h_k5 p14_k5, nX8 cI cZ cQ h_k6 p14_k6, nX8 cI cZ cQ h_k7 p14_k7]) rfl dX9_turnWall_30 ?_
    obtain ⟨g0, g1, g2, g3, g4, g5, g6, g7, g8, g9, g10, g11⟩ := qe12 hf
    exact r_iret2 O E g0 (by rw [g1, g2, g3, g4, g5, g6, g7, g8, g9, g10, g11]) dX9_turnWall_33
  · rw [if_pos hc8] at hf
    refine r_ic O 12 rfl (-1) (by decide) dX9_turnWall_11 ?_
    obtain ⟨g0, g1, g2, g3, g4, g5, g6, g7, g8, g9, g10, g11⟩ := qe12 hf
    exact r_iret2 O E g0 (by rw [g1, g2, g3, g4, g5, g6, g7, g8, g9, g10, g11]) dX9_turnWall_12
-- X9_setKind
def rmX9_setKind : Room := { frames := 4, cells := 0, slots := 0, locals := 85 }
set_option maxHeartbeats 4000000 in
set_option maxRecDepth 100000 in
theorem zX9_setKind {l : Launch} {D : va_G} {cI cZ cQ : ClassId} {h_t h_w h_H h_k0 h_k1 h_k2 h_k3 h_k4 h_k5 h_k6 h_k7 : Nat → Nat} {r_b r_l r_x r_T r_C r_d r_F r_r r_n : Nat} {u_t u_w u_H u_k0 u_k1 u_k2 u_k3 u_k4 u_k5 u_k6 u_k7 : Pk} {a1 : Int32} {a2 : Int32} {r0 : Int32} {v_t v_w v_H v_k0 v_k1 v_k2 v_k3 v_k4 v_k5 v_k6 v_k7 : Pk} (hf : fX9_setKind u_t u_w u_H u_k0 u_k1 u_k2 u_k3 u_k4 u_k5 u_k6 u_k7 a1 a2 = some (r0, v_t, v_w, v_H, v_k0, v_k1, v_k2, v_k3, v_k4, v_k5, v_k6, v_k7)) : MI l yX9_setKind wsX9_setKind rmX9_setKind D (TY cI cZ cQ) [.ref (h_t 0), .int a1, .int a2] [nX9 cI cZ cQ h_t (h_w 0) r_b r_l (h_H 0) r_x r_T r_C r_d r_F r_r r_n u_t, nX8 cI cZ cQ h_w u_w, nX2 cI cZ cQ h_H (hkf h_k0 h_k1 h_k2 h_k3 h_k4 h_k5 h_k6 h_k7) u_H, nX8 cI cZ cQ h_k0 u_k0, nX8 cI cZ cQ h_k1 u_k1, nX8 cI cZ cQ h_k2 u_k2, nX8 cI cZ cQ h_k3 u_k3, nX8 cI cZ cQ h_k4 u_k4, nX8 cI cZ cQ h_k5 u_k5, nX8 cI cZ cQ h_k6 u_k6, nX8 cI cZ cQ h_k7 u_k7] r0 [nX9 cI cZ cQ h_t (h_w 0) r_b r_l (h_H 0) r_x r_T r_C r_d r_F r_r r_n v_t, nX8 cI cZ cQ h_w v_w, nX2 cI cZ cQ h_H (hkf h_k0 h_k1 h_k2 h_k3 h_k4 h_k5 h_k6 h_k7) v_H, nX8 cI cZ cQ h_k0 v_k0, nX8 cI cZ cQ h_k1 v_k1, nX8 cI cZ cQ h_k2 v_k2, nX8 cI cZ cQ h_k3 v_k3, nX8 cI cZ cQ h_k4 v_k4, nX8 cI cZ cQ h_k5 v_k5, nX8 cI cZ cQ h_k6 v_k6, nX8 cI cZ cQ h_k7 v_k7] := by
  refine MI.of (own := RX9) (by decide +kernel) rfl rfl (Nat.le_of_ble_eq_true rfl) (lv0 := [(0, .ref (h_t 0)), (1, .int a1), (2, .int a2)]) rfl ?_
  intro X O E
  unfold fX9_setKind at hf
  refine r_ald_n O 1 rfl 0 rfl dX9_setKind_0 ?_
  refine r_get (ref := RX9) (C := RX9) (T := TX9) (N := 13) O 4 rfl inBX9 0 0 rfl rfl rfl (by decide) flX9_12 rfl rfl dX9_setKind_1 ?_
  refine r_ild_n O 5 rfl 1 rfl dX9_setKind_4 ?_
  obtain ⟨x5, hq5, hf⟩ := qb1_some hf
  refine k_VZ O 8 rfl (zX8_exists (l := xl X) (D := xD X) (cI := cI) (cZ := cZ) (cQ := cQ) (h_t := h_w) hq5) (gV mlX9_105 mvX8_exists izX8) rfl rfl rfl hdX8_exists ⟨Nat.le_of_ble_eq_true rfl, Nat.le_of_ble_eq_true rfl⟩ rfl 1 rfl rfl rfl rfl (Nat.le_of_ble_eq_true rfl) ⟨Nat.zero_le _, Nat.zero_le _⟩ [1] rfl rfl rfl ([nX9 cI cZ cQ h_t (h_w 0) r_b r_l (h_H 0) r_x r_T r_C r_d r_F r_r r_n u_t, nX8 cI cZ cQ h_w u_w, nX2 cI cZ cQ h_H (hkf h_k0 h_k1 h_k2 h_k3 h_k4 h_k5 h_k6 h_k7) u_H, nX8 cI cZ cQ h_k0 u_k0, nX8 cI cZ cQ h_k1 u_k1, nX8 cI cZ cQ h_k2 u_k2, nX8 cI cZ cQ h_k3 u_k3, nX8 cI cZ cQ h_k4 u_k4, nX8 cI cZ cQ h_k5 u_k5, nX8 cI cZ cQ h_k6 u_k6, nX8 cI cZ cQ h_k7 u_k7]) rfl dX9_setKind_5 (fun hz5 => ?_)
  refine r_if_ne O 11 rfl 13 dX9_setKind_8 (by decide) (fun hc8 => ?_) (fun hc8 => ?_)
  · rw [if_neg hc8] at hf
    refine r_ild_n O 14 rfl 2 rfl dX9_setKind_13 ?_
    refine r_ic O 15 rfl 0 (by decide) dX9_setKind_14 ?_
    refine r_ic O 16 rfl 2 (by decide) dX9_setKind_15 ?_
    obtain ⟨x16, hq16, hf⟩ := qb1_some hf
    refine k_SZ O 19 rfl (zX9_isOutside (l := xl X) (D := xD X) (cI := cI) (cZ := cZ) (cQ := cQ) hq16) (gS mlX9_90 mvX9_isOutside izX9) rfl rfl rfl hdX9_isOutside ⟨Nat.le_of_ble_eq_true rfl, Nat.le_of_ble_eq_true rfl⟩ rfl rfl (Nat.le_of_ble_eq_true rfl) ⟨Nat.zero_le _, Nat.zero_le _⟩ [] rfl rfl rfl ([nX9 cI cZ cQ h_t (h_w 0) r_b r_l (h_H 0) r_x r_T r_C r_d r_F r_r r_n u_t, nX8 cI cZ cQ h_w u_w, nX2 cI cZ cQ h_H (hkf h_k0 h_k1 h_k2 h_k3 h_k4 h_k5 h_k6 h_k7) u_H, nX8 cI cZ cQ h_k0 u_k0, nX8 cI cZ cQ h_k1 u_k1, nX8 cI cZ cQ h_k2 u_k2, nX8 cI cZ cQ h_k3 u_k3, nX8 cI cZ cQ h_k4 u_k4, nX8 cI cZ cQ h_k5 u_k5, nX8 cI cZ cQ h_k6 u_k6, nX8 cI cZ cQ h_k7 u_k7]) rfl dX9_setKind_16 (fun hz16 => ?_)
    refine r_if_eq O 22 rfl 25 dX9_setKind_19 (by decide) (fun hc19 => ?_) (fun hc19 => ?_)
    · rw [if_pos hc19] at hf
      refine r_ald_n O 26 rfl 0 rfl dX9_setKind_25 ?_
      refine r_get (ref := RX9) (C := RX9) (T := TX9) (N := 13) O 29 rfl inBX9 0 0 rfl rfl rfl (by decide) flX9_12 rfl rfl dX9_setKind_26 ?_
      refine r_ild_n O 30 rfl 1 rfl dX9_setKind_29 ?_
      obtain ⟨x30, hq30, hf⟩ := qb1_some hf
      refine k_VI O 33 rfl (zX8_kindOf (l := xl X) (D := xD X) (cI := cI) (cZ := cZ) (cQ := cQ) (h_t := h_w) hq30) (gV mlX9_140 mvX8_kindOf izX8) rfl rfl rfl hdX8_kindOf ⟨Nat.le_of_ble_eq_true rfl, Nat.le_of_ble_eq_true rfl⟩ rfl 1 rfl rfl rfl rfl (Nat.le_of_ble_eq_true rfl) ⟨Nat.zero_le _, Nat.zero_le _⟩ [1] rfl rfl rfl ([nX9 cI cZ cQ h_t (h_w 0) r_b r_l (h_H 0) r_x r_T r_C r_d r_F r_r r_n u_t, nX8 cI cZ cQ h_w u_w, nX2 cI cZ cQ h_H (hkf h_k0 h_k1 h_k2 h_k3 h_k4 h_k5 h_k6 h_k7) u_H, nX8 cI cZ cQ h_k0 u_k0, nX8 cI cZ cQ h_k1 u_k1, nX8 cI cZ cQ h_k2 u_k2, nX8 cI cZ cQ h_k3 u_k3, nX8 cI cZ cQ h_k4 u_k4, nX8 cI cZ cQ h_k5 u_k5, nX8 cI cZ cQ h_k6 u_k6, nX8 cI cZ cQ h_k7 u_k7]) rfl dX9_setKind_30 ?_
      refine r_ist_n O 34 rfl rfl [(3, .int x30), (0, .ref (h_t 0)), (1, .int a1), (2, .int a2)] dX9_setKind_33 (by decide) rfl ?_
      refine r_ald_n O 35 rfl 1 rfl dX9_setKind_34 ?_
      obtain ⟨p35_t, p35_H, p35_k0, p35_k1, p35_k2, p35_k3, p35_k4, p35_k5, p35_k6, p35_k7, hq35, hf⟩ := qb10_some hf
      refine k_VV O 38 rfl (zX9_beginEdit (l := xl X) (D := xD X) (cI := cI) (cZ := cZ) (cQ := cQ) (h_t := h_t) (h_w := h_w) (r_b := r_b) (r_l := r_l) (h_H := h_H) (h_k0 := h_k0) (h_k1 := h_k1) (h_k2 := h_k2) (h_k3 := h_k3) (h_k4 := h_k4) (h_k5 := h_k5) (h_k6 := h_k6) (h_k7 := h_k7) (r_x := r_x) (r_T := r_T) (r_C := r_C) (r_d := r_d) (r_F := r_F) (r_r := r_r) (r_n := r_n) hq35) (gV mlX9_98 mvX9_beginEdit izX9) rfl rfl rfl hdX9_beginEdit ⟨Nat.le_of_ble_eq_true rfl, Nat.le_of_ble_eq_true rfl⟩ rfl 0 rfl rfl rfl rfl (Nat.le_of_ble_eq_true rfl) ⟨Nat.zero_le _, Nat.zero_le _⟩ [0, 1, 2, 3, 4, 5, 6, 7, 8, 9, 10] rfl rfl rfl ([nX9 cI cZ cQ h_t (h_w 0) r_b r_l (h_H 0) r_x r_T r_C r_d r_F r_r r_n p35_t, nX8 cI cZ cQ h_w u_w, nX2 cI cZ cQ h_H (hkf h_k0 h_k1 h_k2 h_k3 h_k4 h_k5 h_k6 h_k7) p35_H, nX8 cI cZ cQ h_k0 p35_k0, nX8 cI cZ cQ h_k1 p35_k1, nX8 cI cZ cQ h_k2 p35_k2, nX8 cI cZ cQ h_k3 p35_k3, nX8 cI cZ cQ h_k4 p35_k4, nX8 cI cZ cQ h_k5 p35_k5, nX8 cI cZ cQ h_k6 p35_k6, nX8 cI cZ cQ h_k7 p35_k7]) rfl dX9_setKind_35 ?_
      refine r_ald_n O 39 rfl 1 rfl dX9_setKind_38 ?_
      refine r_get (ref := RX9) (C := RX9) (T := TX9) (N := 13) O 42 rfl inBX9 0 0 rfl rfl rfl (by decide) flX9_12 rfl rfl dX9_setKind_39 ?_
      refine r_ild_n O 43 rfl 2 rfl dX9_setKind_42 ?_
      refine r_ild_n O 44 rfl 3 rfl dX9_setKind_43 ?_
      obtain ⟨p44_w, hq44, hf⟩ := qb1_some hf
      refine k_VV O 47 rfl (zX8_changeKind (l := xl X) (D := xD X) (cI := cI) (cZ := cZ) (cQ := cQ) (h_t := h_w) hq44) (gV mlX9_143 mvX8_changeKind izX8) rfl rfl rfl hdX8_changeKind ⟨Nat.le_of_ble_eq_true rfl, Nat.le_of_ble_eq_true rfl⟩ rfl 1 rfl rfl rfl rfl (Nat.le_of_ble_eq_true rfl) ⟨Nat.zero_le _, Nat.zero_le _⟩ [1] rfl rfl rfl ([nX9 cI cZ cQ h_t (h_w 0) r_b r_l (h_H 0) r_x r_T r_C r_d r_F r_r r_n p35_t, nX8 cI cZ cQ h_w p44_w, nX2 cI cZ cQ h_H (hkf h_k0 h_k1 h_k2 h_k3 h_k4 h_k5 h_k6 h_k7) p35_H, nX8 cI cZ cQ h_k0 p35_k0, nX8 cI cZ cQ h_k1 p35_k1, nX8 cI cZ cQ h_k2 p35_k2, nX8 cI cZ cQ h_k3 p35_k3, nX8 cI cZ cQ h_k4 p35_k4, nX8 cI cZ cQ h_k5 p35_k5, nX8 cI cZ cQ h_k6 p35_k6, nX8 cI cZ cQ h_k7 p35_k7]) rfl dX9_setKind_44 ?_
      refine r_ild_n O 48 rfl 0 rfl dX9_setKind_47 ?_
      obtain ⟨g0, g1, g2, g3, g4, g5, g6, g7, g8, g9, g10, g11⟩ := qe12 hf
      exact r_iret2 O E g0 (by rw [g1, g2, g3, g4, g5, g6, g7, g8, g9, g10, g11]) dX9_setKind_48
    · rw [if_neg hc19] at hf
      refine r_bi O 24 rfl (-2) (by decide) dX9_setKind_22 ?_
      obtain ⟨g0, g1, g2, g3, g4, g5, g6, g7, g8, g9, g10, g11⟩ := qe12 hf
      exact r_iret2 O E g0 (by rw [g1, g2, g3, g4, g5, g6, g7, g8, g9, g10, g11]) dX9_setKind_24
  · rw [if_pos hc8] at hf
    refine r_ic O 12 rfl (-1) (by decide) dX9_setKind_11 ?_
    obtain ⟨g0, g1, g2, g3, g4, g5, g6, g7, g8, g9, g10, g11⟩ := qe12 hf
    exact r_iret2 O E g0 (by rw [g1, g2, g3, g4, g5, g6, g7, g8, g9, g10, g11]) dX9_setKind_12
-- X9_setWeights
def rmX9_setWeights : Room := { frames := 4, cells := 0, slots := 0, locals := 85 }
set_option maxHeartbeats 4000000 in
set_option maxRecDepth 100000 in
theorem zX9_setWeights {l : Launch} {D : va_G} {cI cZ cQ : ClassId} {h_t h_w h_H h_k0 h_k1 h_k2 h_k3 h_k4 h_k5 h_k6 h_k7 : Nat → Nat} {r_b r_l r_x r_T r_C r_d r_F r_r r_n : Nat} {u_t u_w u_H u_k0 u_k1 u_k2 u_k3 u_k4 u_k5 u_k6 u_k7 : Pk} {a1 : Int32} {a2 : Int32} {r0 : Int32} {v_t v_w v_H v_k0 v_k1 v_k2 v_k3 v_k4 v_k5 v_k6 v_k7 : Pk} (hf : fX9_setWeights u_t u_w u_H u_k0 u_k1 u_k2 u_k3 u_k4 u_k5 u_k6 u_k7 a1 a2 = some (r0, v_t, v_w, v_H, v_k0, v_k1, v_k2, v_k3, v_k4, v_k5, v_k6, v_k7)) : MI l yX9_setWeights wsX9_setWeights rmX9_setWeights D (TY cI cZ cQ) [.ref (h_t 0), .int a1, .int a2] [nX9 cI cZ cQ h_t (h_w 0) r_b r_l (h_H 0) r_x r_T r_C r_d r_F r_r r_n u_t, nX8 cI cZ cQ h_w u_w, nX2 cI cZ cQ h_H (hkf h_k0 h_k1 h_k2 h_k3 h_k4 h_k5 h_k6 h_k7) u_H, nX8 cI cZ cQ h_k0 u_k0, nX8 cI cZ cQ h_k1 u_k1, nX8 cI cZ cQ h_k2 u_k2, nX8 cI cZ cQ h_k3 u_k3, nX8 cI cZ cQ h_k4 u_k4, nX8 cI cZ cQ h_k5 u_k5, nX8 cI cZ cQ h_k6 u_k6, nX8 cI cZ cQ h_k7 u_k7] r0 [nX9 cI cZ cQ h_t (h_w 0) r_b r_l (h_H 0) r_x r_T r_C r_d r_F r_r r_n v_t, nX8 cI cZ cQ h_w v_w, nX2 cI cZ cQ h_H (hkf h_k0 h_k1 h_k2 h_k3 h_k4 h_k5 h_k6 h_k7) v_H, nX8 cI cZ cQ h_k0 v_k0, nX8 cI cZ cQ h_k1 v_k1, nX8 cI cZ cQ h_k2 v_k2, nX8 cI cZ cQ h_k3 v_k3, nX8 cI cZ cQ h_k4 v_k4, nX8 cI cZ cQ h_k5 v_k5, nX8 cI cZ cQ h_k6 v_k6, nX8 cI cZ cQ h_k7 v_k7] := by
  refine MI.of (own := RX9) (by decide +kernel) rfl rfl (Nat.le_of_ble_eq_true rfl) (lv0 := [(0, .ref (h_t 0)), (1, .int a1), (2, .int a2)]) rfl ?_
  intro X O E
  unfold fX9_setWeights at hf
  refine r_ild_n O 1 rfl 1 rfl dX9_setWeights_0 ?_
  refine r_ild_n O 2 rfl 2 rfl dX9_setWeights_1 ?_
  obtain ⟨x2, hq2, hf⟩ := qb1_some hf
  refine k_SZ O 5 rfl (zX9_areBadWeights (l := xl X) (D := xD X) (cI := cI) (cZ := cZ) (cQ := cQ) hq2) (gS mlX9_147 mvX9_areBadWeights izX9) rfl rfl rfl hdX9_areBadWeights ⟨Nat.le_of_ble_eq_true rfl, Nat.le_of_ble_eq_true rfl⟩ rfl rfl (Nat.le_of_ble_eq_true rfl) ⟨Nat.zero_le _, Nat.zero_le _⟩ [] rfl rfl rfl ([nX9 cI cZ cQ h_t (h_w 0) r_b r_l (h_H 0) r_x r_T r_C r_d r_F r_r r_n u_t, nX8 cI cZ cQ h_w u_w, nX2 cI cZ cQ h_H (hkf h_k0 h_k1 h_k2 h_k3 h_k4 h_k5 h_k6 h_k7) u_H, nX8 cI cZ cQ h_k0 u_k0, nX8 cI cZ cQ h_k1 u_k1, nX8 cI cZ cQ h_k2 u_k2, nX8 cI cZ cQ h_k3 u_k3, nX8 cI cZ cQ h_k4 u_k4, nX8 cI cZ cQ h_k5 u_k5, nX8 cI cZ cQ h_k6 u_k6, nX8 cI cZ cQ h_k7 u_k7]) rfl dX9_setWeights_2 (fun hz2 => ?_)
  refine r_if_eq O 8 rfl 11 dX9_setWeights_5 (by decide) (fun hc5 => ?_) (fun hc5 => ?_)
  · rw [if_pos hc5] at hf
    refine r_ald_n O 12 rfl 0 rfl dX9_setWeights_11 ?_
    refine r_get (ref := RX9) (C := RX9) (T := TX9) (N := 13) O 15 rfl inBX9 0 0 rfl rfl rfl (by decide) flX9_12 rfl rfl dX9_setWeights_12 ?_
    obtain ⟨x15, hq15, hf⟩ := qb1_some hf
    refine k_VI O 18 rfl (zX8_weightCode (l := xl X) (D := xD X) (cI := cI) (cZ := cZ) (cQ := cQ) (h_t := h_w) hq15) (gV mlX9_150 mvX8_weightCode izX8) rfl rfl rfl hdX8_weightCode ⟨Nat.le_of_ble_eq_true rfl, Nat.le_of_ble_eq_true rfl⟩ rfl 1 rfl rfl rfl rfl (Nat.le_of_ble_eq_true rfl) ⟨Nat.zero_le _, Nat.zero_le _⟩ [1] rfl rfl rfl ([nX9 cI cZ cQ h_t (h_w 0) r_b r_l (h_H 0) r_x r_T r_C r_d r_F r_r r_n u_t, nX8 cI cZ cQ h_w u_w, nX2 cI cZ cQ h_H (hkf h_k0 h_k1 h_k2 h_k3 h_k4 h_k5 h_k6 h_k7) u_H, nX8 cI cZ cQ h_k0 u_k0, nX8 cI cZ cQ h_k1 u_k1, nX8 cI cZ cQ h_k2 u_k2, nX8 cI cZ cQ h_k3 u_k3, nX8 cI cZ cQ h_k4 u_k4, nX8 cI cZ cQ h_k5 u_k5, nX8 cI cZ cQ h_k6 u_k6, nX8 cI cZ cQ h_k7 u_k7]) rfl dX9_setWeights_15 ?_
    refine r_ist_n O 19 rfl rfl [(3, .int x15), (0, .ref (h_t 0)), (1, .int a1), (2, .int a2)] dX9_setWeights_18 (by decide) rfl ?_
    refine r_ald_n O 20 rfl 1 rfl dX9_setWeights_19 ?_
    obtain ⟨p20_t, p20_H, p20_k0, p20_k1, p20_k2, p20_k3, p20_k4, p20_k5, p20_k6, p20_k7, hq20, hf⟩ := qb10_some hf
    refine k_VV O 23 rfl (zX9_beginEdit (l := xl X) (D := xD X) (cI := cI) (cZ := cZ) (cQ := cQ) (h_t := h_t) (h_w := h_w) (r_b := r_b) (r_l := r_l) (h_H := h_H) (h_k0 := h_k0) (h_k1 := h_k1) (h_k2 := h_k2) (h_k3 := h_k3) (h_k4 := h_k4) (h_k5 := h_k5) (h_k6 := h_k6) (h_k7 := h_k7) (r_x := r_x) (r_T := r_T) (r_C := r_C) (r_d := r_d) (r_F := r_F) (r_r := r_r) (r_n := r_n) hq20) (gV mlX9_98 mvX9_beginEdit izX9) rfl rfl rfl hdX9_beginEdit ⟨Nat.le_of_ble_eq_true rfl, Nat.le_of_ble_eq_true rfl⟩ rfl 0 rfl rfl rfl rfl (Nat.le_of_ble_eq_true rfl) ⟨Nat.zero_le _, Nat.zero_le _⟩ [0, 1, 2, 3, 4, 5, 6, 7, 8, 9, 10] rfl rfl rfl ([nX9 cI cZ cQ h_t (h_w 0) r_b r_l (h_H 0) r_x r_T r_C r_d r_F r_r r_n p20_t, nX8 cI cZ cQ h_w u_w, nX2 cI cZ cQ h_H (hkf h_k0 h_k1 h_k2 h_k3 h_k4 h_k5 h_k6 h_k7) p20_H, nX8 cI cZ cQ h_k0 p20_k0, nX8 cI cZ cQ h_k1 p20_k1, nX8 cI cZ cQ h_k2 p20_k2, nX8 cI cZ cQ h_k3 p20_k3, nX8 cI cZ cQ h_k4 p20_k4, nX8 cI cZ cQ h_k5 p20_k5, nX8 cI cZ cQ h_k6 p20_k6, nX8 cI cZ cQ h_k7 p20_k7]) rfl dX9_setWeights_20 ?_
    refine r_ald_n O 24 rfl 1 rfl dX9_setWeights_23 ?_
    refine r_get (ref := RX9) (C := RX9) (T := TX9) (N := 13) O 27 rfl inBX9 0 0 rfl rfl rfl (by decide) flX9_12 rfl rfl dX9_setWeights_24 ?_
    refine r_ild_n O 28 rfl 2 rfl dX9_setWeights_27 ?_
    refine r_ild_n O 29 rfl 3 rfl dX9_setWeights_28 ?_
    obtain ⟨p29_w, hq29, hf⟩ := qb1_some hf
    refine k_VV O 32 rfl (zX8_changeWeights (l := xl X) (D := xD X) (cI := cI) (cZ := cZ) (cQ := cQ) (h_t := h_w) hq29) (gV mlX9_153 mvX8_changeWeights izX8) rfl rfl rfl hdX8_changeWeights ⟨Nat.le_of_ble_eq_true rfl, Nat.le_of_ble_eq_true rfl⟩ rfl 1 rfl rfl rfl rfl (Nat.le_of_ble_eq_true rfl) ⟨Nat.zero_le _, Nat.zero_le _⟩ [1] rfl rfl rfl ([nX9 cI cZ cQ h_t (h_w 0) r_b r_l (h_H 0) r_x r_T r_C r_d r_F r_r r_n p20_t, nX8 cI cZ cQ h_w p29_w, nX2 cI cZ cQ h_H (hkf h_k0 h_k1 h_k2 h_k3 h_k4 h_k5 h_k6 h_k7) p20_H, nX8 cI cZ cQ h_k0 p20_k0, nX8 cI cZ cQ h_k1 p20_k1, nX8 cI cZ cQ h_k2 p20_k2, nX8 cI cZ cQ h_k3 p20_k3, nX8 cI cZ cQ h_k4 p20_k4, nX8 cI cZ cQ h_k5 p20_k5, nX8 cI cZ cQ h_k6 p20_k6, nX8 cI cZ cQ h_k7 p20_k7]) rfl dX9_setWeights_29 ?_
    refine r_ild_n O 33 rfl 0 rfl dX9_setWeights_32 ?_
    obtain ⟨g0, g1, g2, g3, g4, g5, g6, g7, g8, g9, g10, g11⟩ := qe12 hf
    exact r_iret2 O E g0 (by rw [g1, g2, g3, g4, g5, g6, g7, g8, g9, g10, g11]) dX9_setWeights_33
  · rw [if_neg hc5] at hf
    refine r_bi O 10 rfl (-2) (by decide) dX9_setWeights_8 ?_
    obtain ⟨g0, g1, g2, g3, g4, g5, g6, g7, g8, g9, g10, g11⟩ := qe12 hf
    exact r_iret2 O E g0 (by rw [g1, g2, g3, g4, g5, g6, g7, g8, g9, g10, g11]) dX9_setWeights_10
-- X9_undo
def rmX9_undo : Room := { frames := 3, cells := 0, slots := 0, locals := 66 }
set_option maxHeartbeats 4000000 in
set_option maxRecDepth 100000 in
theorem zX9_undo {l : Launch} {D : va_G} {cI cZ cQ : ClassId} {h_t h_w h_H h_k0 h_k1 h_k2 h_k3 h_k4 h_k5 h_k6 h_k7 : Nat → Nat} {r_b r_l r_x r_T r_C r_d r_F r_r r_n : Nat} {u_k0 u_k1 u_k2 u_k3 u_k4 u_k5 u_k6 u_k7 u_t u_w u_H : Pk} {r0 : Int32} {v_t v_w v_H : Pk} (hf : fX9_undo u_k0 u_k1 u_k2 u_k3 u_k4 u_k5 u_k6 u_k7 u_t u_w u_H = some (r0, v_t, v_w, v_H)) : MI l yX9_undo wsX9_undo rmX9_undo D (TY cI cZ cQ) [.ref (h_t 0)] [nX9 cI cZ cQ h_t (h_w 0) r_b r_l (h_H 0) r_x r_T r_C r_d r_F r_r r_n u_t, nX8 cI cZ cQ h_w u_w, nX2 cI cZ cQ h_H (hkf h_k0 h_k1 h_k2 h_k3 h_k4 h_k5 h_k6 h_k7) u_H, nX8 cI cZ cQ h_k0 u_k0, nX8 cI cZ cQ h_k1 u_k1, nX8 cI cZ cQ h_k2 u_k2, nX8 cI cZ cQ h_k3 u_k3, nX8 cI cZ cQ h_k4 u_k4, nX8 cI cZ cQ h_k5 u_k5, nX8 cI cZ cQ h_k6 u_k6, nX8 cI cZ cQ h_k7 u_k7] r0 [nX9 cI cZ cQ h_t (h_w 0) r_b r_l (h_H 0) r_x r_T r_C r_d r_F r_r r_n v_t, nX8 cI cZ cQ h_w v_w, nX2 cI cZ cQ h_H (hkf h_k0 h_k1 h_k2 h_k3 h_k4 h_k5 h_k6 h_k7) v_H, nX8 cI cZ cQ h_k0 u_k0, nX8 cI cZ cQ h_k1 u_k1, nX8 cI cZ cQ h_k2 u_k2, nX8 cI cZ cQ h_k3 u_k3, nX8 cI cZ cQ h_k4 u_k4, nX8 cI cZ cQ h_k5 u_k5, nX8 cI cZ cQ h_k6 u_k6, nX8 cI cZ cQ h_k7 u_k7] := by
  refine MI.of (own := RX9) (by decide +kernel) rfl rfl (Nat.le_of_ble_eq_true rfl) (lv0 := [(0, .ref (h_t 0))]) rfl ?_
  intro X O E
  unfold fX9_undo at hf
  refine r_ald_n O 1 rfl 0 rfl dX9_undo_0 ?_
  refine r_get (ref := RX9) (C := RX9) (T := TX9) (N := 13) O 4 rfl inBX9 0 3 rfl rfl rfl (by decide) flX9_25 rfl rfl dX9_undo_1 ?_
  obtain ⟨x4, hq4, hf⟩ := qb1_some hf
  refine k_VZ O 7 rfl (zX2_isEmpty (l := xl X) (D := xD X) (cI := cI) (cZ := cZ) (cQ := cQ) (h_t := h_H) (hk := (hkf h_k0 h_k1 h_k2 h_k3 h_k4 h_k5 h_k6 h_k7)) hq4) (gV mlX9_156 mvX2_isEmpty izX2) rfl rfl rfl hdX2_isEmpty ⟨Nat.le_of_ble_eq_true rfl, Nat.le_of_ble_eq_true rfl⟩ rfl 2 rfl rfl rfl rfl (Nat.le_of_ble_eq_true rfl) ⟨Nat.zero_le _, Nat.zero_le _⟩ [2] rfl rfl rfl ([nX9 cI cZ cQ h_t (h_w 0) r_b r_l (h_H 0) r_x r_T r_C r_d r_F r_r r_n u_t, nX8 cI cZ cQ h_w u_w, nX2 cI cZ cQ h_H (hkf h_k0 h_k1 h_k2 h_k3 h_k4 h_k5 h_k6 h_k7) u_H, nX8 cI cZ cQ h_k0 u_k0, nX8 cI cZ cQ h_k1 u_k1, nX8 cI cZ cQ h_k2 u_k2, nX8 cI cZ cQ h_k3 u_k3, nX8 cI cZ cQ h_k4 u_k4, nX8 cI cZ cQ h_k5 u_k5, nX8 cI cZ cQ h_k6 u_k6, nX8 cI cZ cQ h_k7 u_k7]) rfl dX9_undo_4 (fun hz4 => ?_)
  refine r_if_eq O 10 rfl 13 dX9_undo_7 (by decide) (fun hc7 => ?_) (fun hc7 => ?_)
  · rw [if_pos hc7] at hf
    refine r_ald_n O 14 rfl 0 rfl dX9_undo_13 ?_
    refine r_get (ref := RX9) (C := RX9) (T := TX9) (N := 13) O 17 rfl inBX9 0 3 rfl rfl rfl (by decide) flX9_25 rfl rfl dX9_undo_14 ?_
    refine r_ald_n O 18 rfl 0 rfl dX9_undo_17 ?_
    refine r_get (ref := RX9) (C := RX9) (T := TX9) (N := 13) O 21 rfl inBX9 0 0 rfl rfl rfl (by decide) flX9_12 rfl rfl dX9_undo_18 ?_
    obtain ⟨p21_H, p21_w, hq21, hf⟩ := qb2_some hf
    refine k_VV O 24 rfl (zX2_restore (l := xl X) (D := xD X) (cI := cI) (cZ := cZ) (cQ := cQ) (h_t := h_H) (h_k0 := h_k0) (h_k1 := h_k1) (h_k2 := h_k2) (h_k3 := h_k3) (h_k4 := h_k4) (h_k5 := h_k5) (h_k6 := h_k6) (h_k7 := h_k7) (h_o := h_w) hq21) (gV mlX9_160 mvX2_restore izX2) rfl rfl rfl hdX2_restore ⟨Nat.le_of_ble_eq_true rfl, Nat.le_of_ble_eq_true rfl⟩ rfl 2 rfl rfl rfl rfl (Nat.le_of_ble_eq_true rfl) ⟨Nat.zero_le _, Nat.zero_le _⟩ [2, 3, 4, 5, 6, 7, 8, 9, 10, 1] rfl rfl rfl ([nX9 cI cZ cQ h_t (h_w 0) r_b r_l (h_H 0) r_x r_T r_C r_d r_F r_r r_n u_t, nX8 cI cZ cQ h_w p21_w, nX2 cI cZ cQ h_H (hkf h_k0 h_k1 h_k2 h_k3 h_k4 h_k5 h_k6 h_k7) p21_H, nX8 cI cZ cQ h_k0 u_k0, nX8 cI cZ cQ h_k1 u_k1, nX8 cI cZ cQ h_k2 u_k2, nX8 cI cZ cQ h_k3 u_k3, nX8 cI cZ cQ h_k4 u_k4, nX8 cI cZ cQ h_k5 u_k5, nX8 cI cZ cQ h_k6 u_k6, nX8 cI cZ cQ h_k7 u_k7]) rfl dX9_undo_21 ?_
    refine r_ald_n O 25 rfl 0 rfl dX9_undo_24 ?_
    refine r_ic O 26 rfl 0 (by decide) dX9_undo_25 ?_
    obtain ⟨p26_t, ep26_t, hf⟩ := qn_some hf
    refine r_put (ref := RX9) (C := RX9) (T := TX9) (N := 13) O 29 rfl inBX9 tyX9 tyX9_ok nmX9 0 12 rfl rfl rfl (by decide) flX9_82 rfl rfl rfl rfl (Nat.le_of_ble_eq_true rfl) ([nX9 cI cZ cQ h_t (h_w 0) r_b r_l (h_H 0) r_x r_T r_C r_d r_F r_r r_n p26_t, nX8 cI cZ cQ h_w p21_w, nX2 cI cZ cQ h_H (hkf h_k0 h_k1 h_k2 h_k3 h_k4 h_k5 h_k6 h_k7) p21_H, nX8 cI cZ cQ h_k0 u_k0, nX8 cI cZ cQ h_k1 u_k1, nX8 cI cZ cQ h_k2 u_k2, nX8 cI cZ cQ h_k3 u_k3, nX8 cI cZ cQ h_k4 u_k4, nX8 cI cZ cQ h_k5 u_k5, nX8 cI cZ cQ h_k6 u_k6, nX8 cI cZ cQ h_k7 u_k7]) (by rw [ep26_t]; rfl) dX9_undo_26 ?_
    refine r_ald_n O 30 rfl 0 rfl dX9_undo_29 ?_
    refine r_get (ref := RX9) (C := RX9) (T := TX9) (N := 13) O 33 rfl inBX9 0 3 rfl rfl rfl (by decide) flX9_25 rfl rfl dX9_undo_30 ?_
    obtain ⟨x33, hq33, hf⟩ := qb1_some hf
    refine k_VI O 36 rfl (zX2_size (l := xl X) (D := xD X) (cI := cI) (cZ := cZ) (cQ := cQ) (h_t := h_H) (hk := (hkf h_k0 h_k1 h_k2 h_k3 h_k4 h_k5 h_k6 h_k7)) hq33) (gV mlX9_163 mvX2_size izX2) rfl rfl rfl hdX2_size ⟨Nat.le_of_ble_eq_true rfl, Nat.le_of_ble_eq_true rfl⟩ rfl 2 rfl rfl rfl rfl (Nat.le_of_ble_eq_true rfl) ⟨Nat.zero_le _, Nat.zero_le _⟩ [2] rfl rfl rfl ([nX9 cI cZ cQ h_t (h_w 0) r_b r_l (h_H 0) r_x r_T r_C r_d r_F r_r r_n p26_t, nX8 cI cZ cQ h_w p21_w, nX2 cI cZ cQ h_H (hkf h_k0 h_k1 h_k2 h_k3 h_k4 h_k5 h_k6 h_k7) p21_H, nX8 cI cZ cQ h_k0 u_k0, nX8 cI cZ cQ h_k1 u_k1, nX8 cI cZ cQ h_k2 u_k2, nX8 cI cZ cQ h_k3 u_k3, nX8 cI cZ cQ h_k4 u_k4, nX8 cI cZ cQ h_k5 u_k5, nX8 cI cZ cQ h_k6 u_k6, nX8 cI cZ cQ h_k7 u_k7]) rfl dX9_undo_33 ?_
    obtain ⟨g0, g1, g2, g3⟩ := qe4 hf
    exact r_iret2 O E g0 (by rw [g1, g2, g3]) dX9_undo_36
  · rw [if_neg hc7] at hf
    refine r_bi O 12 rfl (-5) (by decide) dX9_undo_10 ?_
    obtain ⟨g0, g1, g2, g3⟩ := qe4 hf
    exact r_iret2 O E g0 (by rw [g1, g2, g3]) dX9_undo_12
-- X9_wallCount
def rmX9_wallCount : Room := { frames := 1, cells := 0, slots := 0, locals := 22 }
set_option maxHeartbeats 4000000 in
set_option maxRecDepth 100000 in
theorem zX9_wallCount {l : Launch} {D : va_G} {cI cZ cQ : ClassId} {h_t h_w : Nat → Nat} {r_b r_l r_H r_x r_T r_C r_d r_F r_r r_n : Nat} {u_t u_w : Pk} {r0 : Int32} (hf : fX9_wallCount u_t u_w = some r0) : MI l yX9_wallCount wsX9_wallCount rmX9_wallCount D (TY cI cZ cQ) [.ref (h_t 0)] [nX9 cI cZ cQ h_t (h_w 0) r_b r_l r_H r_x r_T r_C r_d r_F r_r r_n u_t, nX8 cI cZ cQ h_w u_w] r0 [nX9 cI cZ cQ h_t (h_w 0) r_b r_l r_H r_x r_T r_C r_d r_F r_r r_n u_t, nX8 cI cZ cQ h_w u_w] := by
  refine MI.of (own := RX9) (by decide +kernel) rfl rfl (Nat.le_of_ble_eq_true rfl) (lv0 := [(0, .ref (h_t 0))]) rfl ?_
  intro X O E
  unfold fX9_wallCount at hf
  refine r_ald_n O 1 rfl 0 rfl dX9_wallCount_0 ?_
  refine r_get (ref := RX9) (C := RX9) (T := TX9) (N := 13) O 4 rfl inBX9 0 0 rfl rfl rfl (by decide) flX9_12 rfl rfl dX9_wallCount_1 ?_
  obtain ⟨x4, hq4, hf⟩ := qb1_some hf
  refine k_VI O 7 rfl (zX8_total (l := xl X) (D := xD X) (cI := cI) (cZ := cZ) (cQ := cQ) (h_t := h_w) hq4) (gV mlX9_113 mvX8_total izX8) rfl rfl rfl hdX8_total ⟨Nat.le_of_ble_eq_true rfl, Nat.le_of_ble_eq_true rfl⟩ rfl 1 rfl rfl rfl rfl (Nat.le_of_ble_eq_true rfl) ⟨Nat.zero_le _, Nat.zero_le _⟩ [1] rfl rfl rfl ([nX9 cI cZ cQ h_t (h_w 0) r_b r_l r_H r_x r_T r_C r_d r_F r_r r_n u_t, nX8 cI cZ cQ h_w u_w]) rfl dX9_wallCount_4 ?_
  obtain g0 := qe1 hf
  exact r_iret2 O E g0 rfl dX9_wallCount_7
-- X9_coordinate
def rmX9_coordinate : Room := { frames := 1, cells := 0, slots := 0, locals := 21 }
set_option maxHeartbeats 4000000 in
set_option maxRecDepth 100000 in
theorem zX9_coordinate {l : Launch} {D : va_G} {cI cZ cQ : ClassId} {h_t h_w : Nat → Nat} {r_b r_l r_H r_x r_T r_C r_d r_F r_r r_n : Nat} {u_t u_w : Pk} {a1 : Int32} {a2 : Int32} {r0 : Int32} (hf : fX9_coordinate u_t u_w a1 a2 = some r0) : MI l yX9_coordinate wsX9_coordinate rmX9_coordinate D (TY cI cZ cQ) [.ref (h_t 0), .int a1, .int a2] [nX9 cI cZ cQ h_t (h_w 0) r_b r_l r_H r_x r_T r_C r_d r_F r_r r_n u_t, nX8 cI cZ cQ h_w u_w] r0 [nX9 cI cZ cQ h_t (h_w 0) r_b r_l r_H r_x r_T r_C r_d r_F r_r r_n u_t, nX8 cI cZ cQ h_w u_w] := by
  refine MI.of (own := RX9) (by decide +kernel) rfl rfl (Nat.le_of_ble_eq_true rfl) (lv0 := [(0, .ref (h_t 0)), (1, .int a1), (2, .int a2)]) rfl ?_
  intro X O E
  unfold fX9_coordinate at hf
  refine r_ald_n O 1 rfl 0 rfl dX9_coordinate_0 ?_
  refine r_get (ref := RX9) (C := RX9) (T := TX9) (N := 13) O 4 rfl inBX9 0 0 rfl rfl rfl (by decide) flX9_12 rfl rfl dX9_coordinate_1 ?_
  refine r_ild_n O 5 rfl 1 rfl dX9_coordinate_4 ?_
  obtain ⟨x5, hq5, hf⟩ := qb1_some hf
  refine k_VZ O 8 rfl (zX8_exists (l := xl X) (D := xD X) (cI := cI) (cZ := cZ) (cQ := cQ) (h_t := h_w) hq5) (gV mlX9_105 mvX8_exists izX8) rfl rfl rfl hdX8_exists ⟨Nat.le_of_ble_eq_true rfl, Nat.le_of_ble_eq_true rfl⟩ rfl 1 rfl rfl rfl rfl (Nat.le_of_ble_eq_true rfl) ⟨Nat.zero_le _, Nat.zero_le _⟩ [1] rfl rfl rfl ([nX9 cI cZ cQ h_t (h_w 0) r_b r_l r_H r_x r_T r_C r_d r_F r_r r_n u_t, nX8 cI cZ cQ h_w u_w]) rfl dX9_coordinate_5 (fun hz5 => ?_)
  refine r_if_ne O 11 rfl 13 dX9_coordinate_8 (by decide) (fun hc8 => ?_) (fun hc8 => ?_)
  · rw [if_neg hc8] at hf
    refine r_ild_n O 14 rfl 2 rfl dX9_coordinate_13 ?_
    by_cases hc14_0 : a2 = 0
    · rw [if_pos hc14_0] at hf
      refine r_tabIn O 44 dX9_coordinate_14 (by rw [hc14_0]; decide) (by rw [hc14_0]; decide) (off := 30) (by rw [hc14_0]; rfl) (by decide) ?_
      refine r_ald_n O 45 rfl 0 rfl dX9_coordinate_44 ?_
      refine r_get (ref := RX9) (C := RX9) (T := TX9) (N := 13) O 48 rfl inBX9 0 0 rfl rfl rfl (by decide) flX9_12 rfl rfl dX9_coordinate_45 ?_
      refine r_ild_n O 49 rfl 1 rfl dX9_coordinate_48 ?_
      obtain ⟨x49, hq49, hf⟩ := qb1_some hf
      refine k_VI O 52 rfl (zX8_startX (l := xl X) (D := xD X) (cI := cI) (cZ := cZ) (cQ := cQ) (h_t := h_w) hq49) (gV mlX9_116 mvX8_startX izX8) rfl rfl rfl hdX8_startX ⟨Nat.le_of_ble_eq_true rfl, Nat.le_of_ble_eq_true rfl⟩ rfl 1 rfl rfl rfl rfl (Nat.le_of_ble_eq_true rfl) ⟨Nat.zero_le _, Nat.zero_le _⟩ [1] rfl rfl rfl ([nX9 cI cZ cQ h_t (h_w 0) r_b r_l r_H r_x r_T r_C r_d r_F r_r r_n u_t, nX8 cI cZ cQ h_w u_w]) rfl dX9_coordinate_49 ?_
      obtain g0 := qe1 hf
      exact r_iret2 O E g0 rfl dX9_coordinate_52
    rw [if_neg hc14_0] at hf
    by_cases hc14_1 : a2 = 1
    · rw [if_pos hc14_1] at hf
      refine r_tabIn O 53 dX9_coordinate_14 (by rw [hc14_1]; decide) (by rw [hc14_1]; decide) (off := 39) (by rw [hc14_1]; rfl) (by decide) ?_
      refine r_ald_n O 54 rfl 0 rfl dX9_coordinate_53 ?_
      refine r_get (ref := RX9) (C := RX9) (T := TX9) (N := 13) O 57 rfl inBX9 0 0 rfl rfl rfl (by decide) flX9_12 rfl rfl dX9_coordinate_54 ?_
      refine r_ild_n O 58 rfl 1 rfl dX9_coordinate_57 ?_
      obtain ⟨x58, hq58, hf⟩ := qb1_some hf
      refine k_VI O 61 rfl (zX8_startY (l := xl X) (D := xD X) (cI := cI) (cZ := cZ) (cQ := cQ) (h_t := h_w) hq58) (gV mlX9_120 mvX8_startY izX8) rfl rfl rfl hdX8_startY ⟨Nat.le_of_ble_eq_true rfl, Nat.le_of_ble_eq_true rfl⟩ rfl 1 rfl rfl rfl rfl (Nat.le_of_ble_eq_true rfl) ⟨Nat.zero_le _, Nat.zero_le _⟩ [1] rfl rfl rfl ([nX9 cI cZ cQ h_t (h_w 0) r_b r_l r_H r_x r_T r_C r_d r_F r_r r_n u_t, nX8 cI cZ cQ h_w u_w]) rfl dX9_coordinate_58 ?_
      obtain g0 := qe1 hf
      exact r_iret2 O E g0 rfl dX9_coordinate_61
    rw [if_neg hc14_1] at hf
    by_cases hc14_2 : a2 = 2
    · rw [if_pos hc14_2] at hf
      refine r_tabIn O 62 dX9_coordinate_14 (by rw [hc14_2]; decide) (by rw [hc14_2]; decide) (off := 48) (by rw [hc14_2]; rfl) (by decide) ?_
      refine r_ald_n O 63 rfl 0 rfl dX9_coordinate_62 ?_
      refine r_get (ref := RX9) (C := RX9) (T := TX9) (N := 13) O 66 rfl inBX9 0 0 rfl rfl rfl (by decide) flX9_12 rfl rfl dX9_coordinate_63 ?_
      refine r_ild_n O 67 rfl 1 rfl dX9_coordinate_66 ?_
      obtain ⟨x67, hq67, hf⟩ := qb1_some hf
      refine k_VI O 70 rfl (zX8_endX (l := xl X) (D := xD X) (cI := cI) (cZ := cZ) (cQ := cQ) (h_t := h_w) hq67) (gV mlX9_123 mvX8_endX izX8) rfl rfl rfl hdX8_endX ⟨Nat.le_of_ble_eq_true rfl, Nat.le_of_ble_eq_true rfl⟩ rfl 1 rfl rfl rfl rfl (Nat.le_of_ble_eq_true rfl) ⟨Nat.zero_le _, Nat.zero_le _⟩ [1] rfl rfl rfl ([nX9 cI cZ cQ h_t (h_w 0) r_b r_l r_H r_x r_T r_C r_d r_F r_r r_n u_t, nX8 cI cZ cQ h_w u_w]) rfl dX9_coordinate_67 ?_
      obtain g0 := qe1 hf
      exact r_iret2 O E g0 rfl dX9_coordinate_70
    rw [if_neg hc14_2] at hf
    by_cases hc14_3 : a2 = 3
    · rw [if_pos hc14_3] at hf
      refine r_tabIn O 71 dX9_coordinate_14 (by rw [hc14_3]; decide) (by rw [hc14_3]; decide) (off := 57) (by rw [hc14_3]; rfl) (by decide) ?_
      refine r_ald_n O 72 rfl 0 rfl dX9_coordinate_71 ?_
      refine r_get (ref := RX9) (C := RX9) (T := TX9) (N := 13) O 75 rfl inBX9 0 0 rfl rfl rfl (by decide) flX9_12 rfl rfl dX9_coordinate_72 ?_
      refine r_ild_n O 76 rfl 1 rfl dX9_coordinate_75 ?_
      obtain ⟨x76, hq76, hf⟩ := qb1_some hf
      refine k_VI O 79 rfl (zX8_endY (l := xl X) (D := xD X) (cI := cI) (cZ := cZ) (cQ := cQ) (h_t := h_w) hq76) (gV mlX9_126 mvX8_endY izX8) rfl rfl rfl hdX8_endY ⟨Nat.le_of_ble_eq_true rfl, Nat.le_of_ble_eq_true rfl⟩ rfl 1 rfl rfl rfl rfl (Nat.le_of_ble_eq_true rfl) ⟨Nat.zero_le _, Nat.zero_le _⟩ [1] rfl rfl rfl ([nX9 cI cZ cQ h_t (h_w 0) r_b r_l r_H r_x r_T r_C r_d r_F r_r r_n u_t, nX8 cI cZ cQ h_w u_w]) rfl dX9_coordinate_76 ?_
      obtain g0 := qe1 hf
      exact r_iret2 O E g0 rfl dX9_coordinate_79
    rw [if_neg hc14_3] at hf
    have hi14_0 : a2.toInt ≠ 0 := fun e => hc14_0 (Int32.toInt_inj.mp (by rw [e]; rfl))
    have hi14_1 : a2.toInt ≠ 1 := fun e => hc14_1 (Int32.toInt_inj.mp (by rw [e]; rfl))
    have hi14_2 : a2.toInt ≠ 2 := fun e => hc14_2 (Int32.toInt_inj.mp (by rw [e]; rfl))
    have hi14_3 : a2.toInt ≠ 3 := fun e => hc14_3 (Int32.toInt_inj.mp (by rw [e]; rfl))
    refine r_tabOut O 80 dX9_coordinate_14 (by omega) (by decide) ?_
    refine r_bi O 82 rfl (-2) (by decide) dX9_coordinate_80 ?_
    obtain g0 := qe1 hf
    exact r_iret2 O E g0 rfl dX9_coordinate_82
  · rw [if_pos hc8] at hf
    refine r_ic O 12 rfl (-1) (by decide) dX9_coordinate_11 ?_
    obtain g0 := qe1 hf
    exact r_iret2 O E g0 rfl dX9_coordinate_12
-- X9_kind
def rmX9_kind : Room := { frames := 1, cells := 0, slots := 0, locals := 21 }
set_option maxHeartbeats 4000000 in
set_option maxRecDepth 100000 in
theorem zX9_kind {l : Launch} {D : va_G} {cI cZ cQ : ClassId} {h_t h_w : Nat → Nat} {r_b r_l r_H r_x r_T r_C r_d r_F r_r r_n : Nat} {u_t u_w : Pk} {a1 : Int32} {r0 : Int32} (hf : fX9_kind u_t u_w a1 = some r0) : MI l yX9_kind wsX9_kind rmX9_kind D (TY cI cZ cQ) [.ref (h_t 0), .int a1] [nX9 cI cZ cQ h_t (h_w 0) r_b r_l r_H r_x r_T r_C r_d r_F r_r r_n u_t, nX8 cI cZ cQ h_w u_w] r0 [nX9 cI cZ cQ h_t (h_w 0) r_b r_l r_H r_x r_T r_C r_d r_F r_r r_n u_t, nX8 cI cZ cQ h_w u_w] := by
  refine MI.of (own := RX9) (by decide +kernel) rfl rfl (Nat.le_of_ble_eq_true rfl) (lv0 := [(0, .ref (h_t 0)), (1, .int a1)]) rfl ?_
  intro X O E
  unfold fX9_kind at hf
  refine r_ald_n O 1 rfl 0 rfl dX9_kind_0 ?_
  refine r_get (ref := RX9) (C := RX9) (T := TX9) (N := 13) O 4 rfl inBX9 0 0 rfl rfl rfl (by decide) flX9_12 rfl rfl dX9_kind_1 ?_
  refine r_ild_n O 5 rfl 1 rfl dX9_kind_4 ?_
  obtain ⟨x5, hq5, hf⟩ := qb1_some hf
  refine k_VZ O 8 rfl (zX8_exists (l := xl X) (D := xD X) (cI := cI) (cZ := cZ) (cQ := cQ) (h_t := h_w) hq5) (gV mlX9_105 mvX8_exists izX8) rfl rfl rfl hdX8_exists ⟨Nat.le_of_ble_eq_true rfl, Nat.le_of_ble_eq_true rfl⟩ rfl 1 rfl rfl rfl rfl (Nat.le_of_ble_eq_true rfl) ⟨Nat.zero_le _, Nat.zero_le _⟩ [1] rfl rfl rfl ([nX9 cI cZ cQ h_t (h_w 0) r_b r_l r_H r_x r_T r_C r_d r_F r_r r_n u_t, nX8 cI cZ cQ h_w u_w]) rfl dX9_kind_5 (fun hz5 => ?_)
  refine r_if_ne O 11 rfl 13 dX9_kind_8 (by decide) (fun hc8 => ?_) (fun hc8 => ?_)
  · rw [if_neg hc8] at hf
    refine r_ald_n O 14 rfl 0 rfl dX9_kind_13 ?_
    refine r_get (ref := RX9) (C := RX9) (T := TX9) (N := 13) O 17 rfl inBX9 0 0 rfl rfl rfl (by decide) flX9_12 rfl rfl dX9_kind_14 ?_
    refine r_ild_n O 18 rfl 1 rfl dX9_kind_17 ?_
    obtain ⟨x18, hq18, hf⟩ := qb1_some hf
    refine k_VI O 21 rfl (zX8_kindOf (l := xl X) (D := xD X) (cI := cI) (cZ := cZ) (cQ := cQ) (h_t := h_w) hq18) (gV mlX9_140 mvX8_kindOf izX8) rfl rfl rfl hdX8_kindOf ⟨Nat.le_of_ble_eq_true rfl, Nat.le_of_ble_eq_true rfl⟩ rfl 1 rfl rfl rfl rfl (Nat.le_of_ble_eq_true rfl) ⟨Nat.zero_le _, Nat.zero_le _⟩ [1] rfl rfl rfl ([nX9 cI cZ cQ h_t (h_w 0) r_b r_l r_H r_x r_T r_C r_d r_F r_r r_n u_t, nX8 cI cZ cQ h_w u_w]) rfl dX9_kind_18 ?_
    refine r_ald_n O 22 rfl 0 rfl dX9_kind_21 ?_
    refine r_get (ref := RX9) (C := RX9) (T := TX9) (N := 13) O 25 rfl inBX9 0 0 rfl rfl rfl (by decide) flX9_12 rfl rfl dX9_kind_22 ?_
    refine r_ild_n O 26 rfl 1 rfl dX9_kind_25 ?_
    obtain ⟨x26, hq26, hf⟩ := qb1_some hf
    refine k_VZ O 29 rfl (zX8_isMovable (l := xl X) (D := xD X) (cI := cI) (cZ := cZ) (cQ := cQ) (h_t := h_w) hq26) (gV mlX9_166 mvX8_isMovable izX8) rfl rfl rfl hdX8_isMovable ⟨Nat.le_of_ble_eq_true rfl, Nat.le_of_ble_eq_true rfl⟩ rfl 1 rfl rfl rfl rfl (Nat.le_of_ble_eq_true rfl) ⟨Nat.zero_le _, Nat.zero_le _⟩ [1] rfl rfl rfl ([nX9 cI cZ cQ h_t (h_w 0) r_b r_l r_H r_x r_T r_C r_d r_F r_r r_n u_t, nX8 cI cZ cQ h_w u_w]) rfl dX9_kind_26 (fun hz26 => ?_)
    refine r_if_eq O 32 rfl 37 dX9_kind_29 (by decide) (fun hc29 => ?_) (fun hc29 => ?_)
    · rw [if_pos hc29] at hf
      refine r_ic O 38 rfl 0 (by decide) dX9_kind_37 ?_
      refine r_iadd O 39 rfl dX9_kind_38 ?_
      obtain g0 := qe1 hf
      exact r_iret2 O E g0 rfl dX9_kind_39
    · rw [if_neg hc29] at hf
      refine r_bi O 34 rfl 10 (by decide) dX9_kind_32 ?_
      refine r_goto O 38 dX9_kind_34 (by decide) ?_
      refine r_iadd O 39 rfl dX9_kind_38 ?_
      obtain g0 := qe1 hf
      exact r_iret2 O E g0 rfl dX9_kind_39
  · rw [if_pos hc8] at hf
    refine r_ic O 12 rfl (-1) (by decide) dX9_kind_11 ?_
    obtain g0 := qe1 hf
    exact r_iret2 O E g0 rfl dX9_kind_12
-- X9_weights
def rmX9_weights : Room := { frames := 1, cells := 0, slots := 0, locals := 20 }
set_option maxHeartbeats 4000000 in
set_option maxRecDepth 100000 in
theorem zX9_weights {l : Launch} {D : va_G} {cI cZ cQ : ClassId} {h_t h_w : Nat → Nat} {r_b r_l r_H r_x r_T r_C r_d r_F r_r r_n : Nat} {u_t u_w : Pk} {r0 : Int32} (hf : fX9_weights u_t u_w = some r0) : MI l yX9_weights wsX9_weights rmX9_weights D (TY cI cZ cQ) [.ref (h_t 0)] [nX9 cI cZ cQ h_t (h_w 0) r_b r_l r_H r_x r_T r_C r_d r_F r_r r_n u_t, nX8 cI cZ cQ h_w u_w] r0 [nX9 cI cZ cQ h_t (h_w 0) r_b r_l r_H r_x r_T r_C r_d r_F r_r r_n u_t, nX8 cI cZ cQ h_w u_w] := by
  refine MI.of (own := RX9) (by decide +kernel) rfl rfl (Nat.le_of_ble_eq_true rfl) (lv0 := [(0, .ref (h_t 0))]) rfl ?_
  intro X O E
  unfold fX9_weights at hf
  refine r_ald_n O 1 rfl 0 rfl dX9_weights_0 ?_
  refine r_get (ref := RX9) (C := RX9) (T := TX9) (N := 13) O 4 rfl inBX9 0 0 rfl rfl rfl (by decide) flX9_12 rfl rfl dX9_weights_1 ?_
  obtain ⟨x4, hq4, hf⟩ := qb1_some hf
  refine k_VI O 7 rfl (zX8_weightCode (l := xl X) (D := xD X) (cI := cI) (cZ := cZ) (cQ := cQ) (h_t := h_w) hq4) (gV mlX9_150 mvX8_weightCode izX8) rfl rfl rfl hdX8_weightCode ⟨Nat.le_of_ble_eq_true rfl, Nat.le_of_ble_eq_true rfl⟩ rfl 1 rfl rfl rfl rfl (Nat.le_of_ble_eq_true rfl) ⟨Nat.zero_le _, Nat.zero_le _⟩ [1] rfl rfl rfl ([nX9 cI cZ cQ h_t (h_w 0) r_b r_l r_H r_x r_T r_C r_d r_F r_r r_n u_t, nX8 cI cZ cQ h_w u_w]) rfl dX9_weights_4 ?_
  obtain g0 := qe1 hf
  exact r_iret2 O E g0 rfl dX9_weights_7
-- X9_appendText
def rmX9_appendText : Room := { frames := 1, cells := 0, slots := 0, locals := 22 }
set_option maxHeartbeats 4000000 in
set_option maxRecDepth 100000 in
theorem zX9_appendText {l : Launch} {D : va_G} {cI cZ cQ : ClassId} {h_t h_x : Nat → Nat} {r_w r_b r_l r_H r_T r_C r_d r_F r_r r_n : Nat} {u_t u_x : Pk} {a1 : Int32} {r0 : Int32} {v_x : Pk} (hf : fX9_appendText u_t u_x a1 = some (r0, v_x)) : MI l yX9_appendText wsX9_appendText rmX9_appendText D (TY cI cZ cQ) [.ref (h_t 0), .int a1] [nX9 cI cZ cQ h_t r_w r_b r_l r_H (h_x 0) r_T r_C r_d r_F r_r r_n u_t, nX7 cI cZ cQ h_x u_x] r0 [nX9 cI cZ cQ h_t r_w r_b r_l r_H (h_x 0) r_T r_C r_d r_F r_r r_n u_t, nX7 cI cZ cQ h_x v_x] := by
  refine MI.of (own := RX9) (by decide +kernel) rfl rfl (Nat.le_of_ble_eq_true rfl) (lv0 := [(0, .ref (h_t 0)), (1, .int a1)]) rfl ?_
  intro X O E
  unfold fX9_appendText at hf
  refine r_ild_n O 1 rfl 1 rfl dX9_appendText_0 ?_
  refine r_bi O 3 rfl 32 (by decide) dX9_appendText_1 ?_
  refine r_bi O 5 rfl 126 (by decide) dX9_appendText_3 ?_
  obtain ⟨x5, hq5, hf⟩ := qb1_some hf
  refine k_SZ O 8 rfl (zX9_isOutside (l := xl X) (D := xD X) (cI := cI) (cZ := cZ) (cQ := cQ) hq5) (gS mlX9_90 mvX9_isOutside izX9) rfl rfl rfl hdX9_isOutside ⟨Nat.le_of_ble_eq_true rfl, Nat.le_of_ble_eq_true rfl⟩ rfl rfl (Nat.le_of_ble_eq_true rfl) ⟨Nat.zero_le _, Nat.zero_le _⟩ [] rfl rfl rfl ([nX9 cI cZ cQ h_t r_w r_b r_l r_H (h_x 0) r_T r_C r_d r_F r_r r_n u_t, nX7 cI cZ cQ h_x u_x]) rfl dX9_appendText_5 (fun hz5 => ?_)
  refine r_if_eq O 11 rfl 14 dX9_appendText_8 (by decide) (fun hc8 => ?_) (fun hc8 => ?_)
  · rw [if_pos hc8] at hf
    refine r_ald_n O 15 rfl 0 rfl dX9_appendText_14 ?_
    refine r_get (ref := RX9) (C := RX9) (T := TX9) (N := 13) O 18 rfl inBX9 0 4 rfl rfl rfl (by decide) flX9_32 rfl rfl dX9_appendText_15 ?_
    obtain ⟨x18, hq18, hf⟩ := qb1_some hf
    refine k_VZ O 21 rfl (zX7_isFull (l := xl X) (D := xD X) (cI := cI) (cZ := cZ) (cQ := cQ) (h_t := h_x) hq18) (gV mlX9_169 mvX7_isFull izX7) rfl rfl rfl hdX7_isFull ⟨Nat.le_of_ble_eq_true rfl, Nat.le_of_ble_eq_true rfl⟩ rfl 1 rfl rfl rfl rfl (Nat.le_of_ble_eq_true rfl) ⟨Nat.zero_le _, Nat.zero_le _⟩ [1] rfl rfl rfl ([nX9 cI cZ cQ h_t r_w r_b r_l r_H (h_x 0) r_T r_C r_d r_F r_r r_n u_t, nX7 cI cZ cQ h_x u_x]) rfl dX9_appendText_18 (fun hz18 => ?_)
    refine r_if_eq O 24 rfl 27 dX9_appendText_21 (by decide) (fun hc21 => ?_) (fun hc21 => ?_)
    · rw [if_pos hc21] at hf
      refine r_ald_n O 28 rfl 0 rfl dX9_appendText_27 ?_
      refine r_get (ref := RX9) (C := RX9) (T := TX9) (N := 13) O 31 rfl inBX9 0 4 rfl rfl rfl (by decide) flX9_32 rfl rfl dX9_appendText_28 ?_
      refine r_ild_n O 32 rfl 1 rfl dX9_appendText_31 ?_
      obtain ⟨p32_x, hq32, hf⟩ := qb1_some hf
      refine k_VV O 35 rfl (zX7_append (l := xl X) (D := xD X) (cI := cI) (cZ := cZ) (cQ := cQ) (h_t := h_x) hq32) (gV mlX9_172 mvX7_append izX7) rfl rfl rfl hdX7_append ⟨Nat.le_of_ble_eq_true rfl, Nat.le_of_ble_eq_true rfl⟩ rfl 1 rfl rfl rfl rfl (Nat.le_of_ble_eq_true rfl) ⟨Nat.zero_le _, Nat.zero_le _⟩ [1] rfl rfl rfl ([nX9 cI cZ cQ h_t r_w r_b r_l r_H (h_x 0) r_T r_C r_d r_F r_r r_n u_t, nX7 cI cZ cQ h_x p32_x]) rfl dX9_appendText_32 ?_
      refine r_ald_n O 36 rfl 0 rfl dX9_appendText_35 ?_
      refine r_get (ref := RX9) (C := RX9) (T := TX9) (N := 13) O 39 rfl inBX9 0 4 rfl rfl rfl (by decide) flX9_32 rfl rfl dX9_appendText_36 ?_
      obtain ⟨x39, hq39, hf⟩ := qb1_some hf
      refine k_VI O 42 rfl (zX7_length (l := xl X) (D := xD X) (cI := cI) (cZ := cZ) (cQ := cQ) (h_t := h_x) hq39) (gV mlX9_175 mvX7_length izX7) rfl rfl rfl hdX7_length ⟨Nat.le_of_ble_eq_true rfl, Nat.le_of_ble_eq_true rfl⟩ rfl 1 rfl rfl rfl rfl (Nat.le_of_ble_eq_true rfl) ⟨Nat.zero_le _, Nat.zero_le _⟩ [1] rfl rfl rfl ([nX9 cI cZ cQ h_t r_w r_b r_l r_H (h_x 0) r_T r_C r_d r_F r_r r_n u_t, nX7 cI cZ cQ h_x p32_x]) rfl dX9_appendText_39 ?_
      obtain ⟨g0, g1⟩ := qe2 hf
      exact r_iret2 O E g0 (by rw [g1]) dX9_appendText_42
    · rw [if_neg hc21] at hf
      refine r_bi O 26 rfl (-3) (by decide) dX9_appendText_24 ?_
      obtain ⟨g0, g1⟩ := qe2 hf
      exact r_iret2 O E g0 (by rw [g1]) dX9_appendText_26
  · rw [if_neg hc8] at hf
    refine r_bi O 13 rfl (-2) (by decide) dX9_appendText_11 ?_
    obtain ⟨g0, g1⟩ := qe2 hf
    exact r_iret2 O E g0 (by rw [g1]) dX9_appendText_13
-- X9_clearText
def rmX9_clearText : Room := { frames := 1, cells := 0, slots := 0, locals := 20 }
set_option maxHeartbeats 4000000 in
set_option maxRecDepth 100000 in
theorem zX9_clearText {l : Launch} {D : va_G} {cI cZ cQ : ClassId} {h_t h_x : Nat → Nat} {r_w r_b r_l r_H r_T r_C r_d r_F r_r r_n : Nat} {u_t u_x : Pk} {r0 : Int32} {v_x : Pk} (hf : fX9_clearText u_t u_x = some (r0, v_x)) : MI l yX9_clearText wsX9_clearText rmX9_clearText D (TY cI cZ cQ) [.ref (h_t 0)] [nX9 cI cZ cQ h_t r_w r_b r_l r_H (h_x 0) r_T r_C r_d r_F r_r r_n u_t, nX7 cI cZ cQ h_x u_x] r0 [nX9 cI cZ cQ h_t r_w r_b r_l r_H (h_x 0) r_T r_C r_d r_F r_r r_n u_t, nX7 cI cZ cQ h_x v_x] := by
  refine MI.of (own := RX9) (by decide +kernel) rfl rfl (Nat.le_of_ble_eq_true rfl) (lv0 := [(0, .ref (h_t 0))]) rfl ?_
  intro X O E
  unfold fX9_clearText at hf
  refine r_ald_n O 1 rfl 0 rfl dX9_clearText_0 ?_
  refine r_get (ref := RX9) (C := RX9) (T := TX9) (N := 13) O 4 rfl inBX9 0 4 rfl rfl rfl (by decide) flX9_32 rfl rfl dX9_clearText_1 ?_
  obtain ⟨x4, hq4, hf⟩ := qb1_some hf
  refine k_VI O 7 rfl (zX7_length (l := xl X) (D := xD X) (cI := cI) (cZ := cZ) (cQ := cQ) (h_t := h_x) hq4) (gV mlX9_175 mvX7_length izX7) rfl rfl rfl hdX7_length ⟨Nat.le_of_ble_eq_true rfl, Nat.le_of_ble_eq_true rfl⟩ rfl 1 rfl rfl rfl rfl (Nat.le_of_ble_eq_true rfl) ⟨Nat.zero_le _, Nat.zero_le _⟩ [1] rfl rfl rfl ([nX9 cI cZ cQ h_t r_w r_b r_l r_H (h_x 0) r_T r_C r_d r_F r_r r_n u_t, nX7 cI cZ cQ h_x u_x]) rfl dX9_clearText_4 ?_
  refine r_ist_n O 8 rfl rfl [(1, .int x4), (0, .ref (h_t 0))] dX9_clearText_7 (by decide) rfl ?_
  refine r_ald_n O 9 rfl 1 rfl dX9_clearText_8 ?_
  refine r_get (ref := RX9) (C := RX9) (T := TX9) (N := 13) O 12 rfl inBX9 0 4 rfl rfl rfl (by decide) flX9_32 rfl rfl dX9_clearText_9 ?_
  obtain ⟨p12_x, hq12, hf⟩ := qb1_some hf
  refine k_VV O 15 rfl (zX7_clear (l := xl X) (D := xD X) (cI := cI) (cZ := cZ) (cQ := cQ) (h_t := h_x) hq12) (gV mlX9_178 mvX7_clear izX7) rfl rfl rfl hdX7_clear ⟨Nat.le_of_ble_eq_true rfl, Nat.le_of_ble_eq_true rfl⟩ rfl 1 rfl rfl rfl rfl (Nat.le_of_ble_eq_true rfl) ⟨Nat.zero_le _, Nat.zero_le _⟩ [1] rfl rfl rfl ([nX9 cI cZ cQ h_t r_w r_b r_l r_H (h_x 0) r_T r_C r_d r_F r_r r_n u_t, nX7 cI cZ cQ h_x p12_x]) rfl dX9_clearText_12 ?_
  refine r_ild_n O 16 rfl 0 rfl dX9_clearText_15 ?_
  obtain ⟨g0, g1⟩ := qe2 hf
  exact r_iret2 O E g0 (by rw [g1]) dX9_clearText_16
-- X9_load
def rmX9_load : Room := { frames := 4, cells := 0, slots := 0, locals := 94 }
set_option maxHeartbeats 4000000 in
set_option maxRecDepth 100000 in
theorem zX9_load {l : Launch} {D : va_G} {cI cZ cQ : ClassId} {h_t h_w h_l h_H h_k0 h_k1 h_k2 h_k3 h_k4 h_k5 h_k6 h_k7 h_x : Nat → Nat} {r_b r_T r_C r_d r_F r_r r_n : Nat} {u_t u_w u_l u_H u_k0 u_k1 u_k2 u_k3 u_k4 u_k5 u_k6 u_k7 u_x : Pk} {r0 : Int32} {v_t v_w v_l v_H v_k0 v_k1 v_k2 v_k3 v_k4 v_k5 v_k6 v_k7 v_x : Pk} (hf : fX9_load u_t u_w u_l u_H u_k0 u_k1 u_k2 u_k3 u_k4 u_k5 u_k6 u_k7 u_x = some (r0, v_t, v_w, v_l, v_H, v_k0, v_k1, v_k2, v_k3, v_k4, v_k5, v_k6, v_k7, v_x)) : MI l yX9_load wsX9_load rmX9_load D (TY cI cZ cQ) [.ref (h_t 0)] [nX9 cI cZ cQ h_t (h_w 0) r_b (h_l 0) (h_H 0) (h_x 0) r_T r_C r_d r_F r_r r_n u_t, nX8 cI cZ cQ h_w u_w, nX8 cI cZ cQ h_l u_l, nX2 cI cZ cQ h_H (hkf h_k0 h_k1 h_k2 h_k3 h_k4 h_k5 h_k6 h_k7) u_H, nX8 cI cZ cQ h_k0 u_k0, nX8 cI cZ cQ h_k1 u_k1, nX8 cI cZ cQ h_k2 u_k2, nX8 cI cZ cQ h_k3 u_k3, nX8 cI cZ cQ h_k4 u_k4, nX8 cI cZ cQ h_k5 u_k5, nX8 cI cZ cQ h_k6 u_k6, nX8 cI cZ cQ h_k7 u_k7, nX7 cI cZ cQ h_x u_x] r0 [nX9 cI cZ cQ h_t (h_w 0) r_b (h_l 0) (h_H 0) (h_x 0) r_T r_C r_d r_F r_r r_n v_t, nX8 cI cZ cQ h_w v_w, nX8 cI cZ cQ h_l v_l, nX2 cI cZ cQ h_H (hkf h_k0 h_k1 h_k2 h_k3 h_k4 h_k5 h_k6 h_k7) v_H, nX8 cI cZ cQ h_k0 v_k0, nX8 cI cZ cQ h_k1 v_k1, nX8 cI cZ cQ h_k2 v_k2, nX8 cI cZ cQ h_k3 v_k3, nX8 cI cZ cQ h_k4 v_k4, nX8 cI cZ cQ h_k5 v_k5, nX8 cI cZ cQ h_k6 v_k6, nX8 cI cZ cQ h_k7 v_k7, nX7 cI cZ cQ h_x v_x] := by
  refine MI.of (own := RX9) (by decide +kernel) rfl rfl (Nat.le_of_ble_eq_true rfl) (lv0 := [(0, .ref (h_t 0))]) rfl ?_
  intro X O E
  unfold fX9_load at hf
  refine r_ald_n O 1 rfl 0 rfl dX9_load_0 ?_
  refine r_get (ref := RX9) (C := RX9) (T := TX9) (N := 13) O 4 rfl inBX9 0 4 rfl rfl rfl (by decide) flX9_32 rfl rfl dX9_load_1 ?_
  refine r_ald_n O 5 rfl 0 rfl dX9_load_4 ?_
  refine r_get (ref := RX9) (C := RX9) (T := TX9) (N := 13) O 8 rfl inBX9 0 2 rfl rfl rfl (by decide) flX9_19 rfl rfl dX9_load_5 ?_
  obtain ⟨x8, p8_x, p8_l, hq8, hf⟩ := qb3_some hf
  refine k_VZ O 11 rfl (zX7_readInto (l := xl X) (D := xD X) (cI := cI) (cZ := cZ) (cQ := cQ) (h_t := h_x) (h_o := h_l) hq8) (gV mlX9_181 mvX7_readInto izX7) rfl rfl rfl hdX7_readInto ⟨Nat.le_of_ble_eq_true rfl, Nat.le_of_ble_eq_true rfl⟩ rfl 12 rfl rfl rfl rfl (Nat.le_of_ble_eq_true rfl) ⟨Nat.zero_le _, Nat.zero_le _⟩ [12, 2] rfl rfl rfl ([nX9 cI cZ cQ h_t (h_w 0) r_b (h_l 0) (h_H 0) (h_x 0) r_T r_C r_d r_F r_r r_n u_t, nX8 cI cZ cQ h_w u_w, nX8 cI cZ cQ h_l p8_l, nX2 cI cZ cQ h_H (hkf h_k0 h_k1 h_k2 h_k3 h_k4 h_k5 h_k6 h_k7) u_H, nX8 cI cZ cQ h_k0 u_k0, nX8 cI cZ cQ h_k1 u_k1, nX8 cI cZ cQ h_k2 u_k2, nX8 cI cZ cQ h_k3 u_k3, nX8 cI cZ cQ h_k4 u_k4, nX8 cI cZ cQ h_k5 u_k5, nX8 cI cZ cQ h_k6 u_k6, nX8 cI cZ cQ h_k7 u_k7, nX7 cI cZ cQ h_x p8_x]) rfl dX9_load_8 (fun hz8 => ?_)
  refine r_if_ne O 14 rfl 17 dX9_load_11 (by decide) (fun hc11 => ?_) (fun hc11 => ?_)
  · rw [if_neg hc11] at hf
    refine r_ald_n O 18 rfl 0 rfl dX9_load_17 ?_
    obtain ⟨p18_t, p18_H, p18_k0, p18_k1, p18_k2, p18_k3, p18_k4, p18_k5, p18_k6, p18_k7, hq18, hf⟩ := qb10_some hf
    refine k_VV O 21 rfl (zX9_beginEdit (l := xl X) (D := xD X) (cI := cI) (cZ := cZ) (cQ := cQ) (h_t := h_t) (h_w := h_w) (r_b := r_b) (r_l := (h_l 0)) (h_H := h_H) (h_k0 := h_k0) (h_k1 := h_k1) (h_k2 := h_k2) (h_k3 := h_k3) (h_k4 := h_k4) (h_k5 := h_k5) (h_k6 := h_k6) (h_k7 := h_k7) (r_x := (h_x 0)) (r_T := r_T) (r_C := r_C) (r_d := r_d) (r_F := r_F) (r_r := r_r) (r_n := r_n) hq18) (gV mlX9_98 mvX9_beginEdit izX9) rfl rfl rfl hdX9_beginEdit ⟨Nat.le_of_ble_eq_true rfl, Nat.le_of_ble_eq_true rfl⟩ rfl 0 rfl rfl rfl rfl (Nat.le_of_ble_eq_true rfl) ⟨Nat.zero_le _, Nat.zero_le _⟩ [0, 1, 3, 4, 5, 6, 7, 8, 9, 10, 11] rfl rfl rfl ([nX9 cI cZ cQ h_t (h_w 0) r_b (h_l 0) (h_H 0) (h_x 0) r_T r_C r_d r_F r_r r_n p18_t, nX8 cI cZ cQ h_w u_w, nX8 cI cZ cQ h_l p8_l, nX2 cI cZ cQ h_H (hkf h_k0 h_k1 h_k2 h_k3 h_k4 h_k5 h_k6 h_k7) p18_H, nX8 cI cZ cQ h_k0 p18_k0, nX8 cI cZ cQ h_k1 p18_k1, nX8 cI cZ cQ h_k2 p18_k2, nX8 cI cZ cQ h_k3 p18_k3, nX8 cI cZ cQ h_k4 p18_k4, nX8 cI cZ cQ h_k5 p18_k5, nX8 cI cZ cQ h_k6 p18_k6, nX8 cI cZ cQ h_k7 p18_k7, nX7 cI cZ cQ h_x p8_x]) rfl dX9_load_18 ?_
    refine r_ald_n O 22 rfl 0 rfl dX9_load_21 ?_
    refine r_get (ref := RX9) (C := RX9) (T := TX9) (N := 13) O 25 rfl inBX9 0 0 rfl rfl rfl (by decide) flX9_12 rfl rfl dX9_load_22 ?_
    refine r_ald_n O 26 rfl 0 rfl dX9_load_25 ?_
    refine r_get (ref := RX9) (C := RX9) (T := TX9) (N := 13) O 29 rfl inBX9 0 2 rfl rfl rfl (by decide) flX9_19 rfl rfl dX9_load_26 ?_
    obtain ⟨p29_w, hq29, hf⟩ := qb1_some hf
    refine k_VV O 32 rfl (zX8_copyWalls (l := xl X) (D := xD X) (cI := cI) (cZ := cZ) (cQ := cQ) (h_t := h_w) (h_o := h_l) hq29) (gV mlX9_185 mvX8_copyWalls izX8) rfl rfl rfl hdX8_copyWalls ⟨Nat.le_of_ble_eq_true rfl, Nat.le_of_ble_eq_true rfl⟩ rfl 1 rfl rfl rfl rfl (Nat.le_of_ble_eq_true rfl) ⟨Nat.zero_le _, Nat.zero_le _⟩ [1, 2] rfl rfl rfl ([nX9 cI cZ cQ h_t (h_w 0) r_b (h_l 0) (h_H 0) (h_x 0) r_T r_C r_d r_F r_r r_n p18_t, nX8 cI cZ cQ h_w p29_w, nX8 cI cZ cQ h_l p8_l, nX2 cI cZ cQ h_H (hkf h_k0 h_k1 h_k2 h_k3 h_k4 h_k5 h_k6 h_k7) p18_H, nX8 cI cZ cQ h_k0 p18_k0, nX8 cI cZ cQ h_k1 p18_k1, nX8 cI cZ cQ h_k2 p18_k2, nX8 cI cZ cQ h_k3 p18_k3, nX8 cI cZ cQ h_k4 p18_k4, nX8 cI cZ cQ h_k5 p18_k5, nX8 cI cZ cQ h_k6 p18_k6, nX8 cI cZ cQ h_k7 p18_k7, nX7 cI cZ cQ h_x p8_x]) rfl dX9_load_29 ?_
    refine r_ald_n O 33 rfl 0 rfl dX9_load_32 ?_
    refine r_get (ref := RX9) (C := RX9) (T := TX9) (N := 13) O 36 rfl inBX9 0 0 rfl rfl rfl (by decide) flX9_12 rfl rfl dX9_load_33 ?_
    obtain ⟨x36, hq36, hf⟩ := qb1_some hf
    refine k_VI O 39 rfl (zX8_total (l := xl X) (D := xD X) (cI := cI) (cZ := cZ) (cQ := cQ) (h_t := h_w) hq36) (gV mlX9_113 mvX8_total izX8) rfl rfl rfl hdX8_total ⟨Nat.le_of_ble_eq_true rfl, Nat.le_of_ble_eq_true rfl⟩ rfl 1 rfl rfl rfl rfl (Nat.le_of_ble_eq_true rfl) ⟨Nat.zero_le _, Nat.zero_le _⟩ [1] rfl rfl rfl ([nX9 cI cZ cQ h_t (h_w 0) r_b (h_l 0) (h_H 0) (h_x 0) r_T r_C r_d r_F r_r r_n p18_t, nX8 cI cZ cQ h_w p29_w, nX8 cI cZ cQ h_l p8_l, nX2 cI cZ cQ h_H (hkf h_k0 h_k1 h_k2 h_k3 h_k4 h_k5 h_k6 h_k7) p18_H, nX8 cI cZ cQ h_k0 p18_k0, nX8 cI cZ cQ h_k1 p18_k1, nX8 cI cZ cQ h_k2 p18_k2, nX8 cI cZ cQ h_k3 p18_k3, nX8 cI cZ cQ h_k4 p18_k4, nX8 cI cZ cQ h_k5 p18_k5, nX8 cI cZ cQ h_k6 p18_k6, nX8 cI cZ cQ h_k7 p18_k7, nX7 cI cZ cQ h_x p8_x]) rfl dX9_load_36 ?_
    obtain ⟨g0, g1, g2, g3, g4, g5, g6, g7, g8, g9, g10, g11, g12, g13⟩ := qe14 hf
    exact r_iret2 O E g0 (by rw [g1, g2, g3, g4, g5, g6, g7, g8, g9, g10, g11, g12, g13]) dX9_load_39
  · rw [if_pos hc11] at hf
    refine r_bi O 16 rfl (-9) (by decide) dX9_load_14 ?_
    obtain ⟨g0, g1, g2, g3, g4, g5, g6, g7, g8, g9, g10, g11, g12, g13⟩ := qe14 hf
    exact r_iret2 O E g0 (by rw [g1, g2, g3, g4, g5, g6, g7, g8, g9, g10, g11, g12, g13]) dX9_load_16
-- X9_faultPlace
def rmX9_faultPlace : Room := { frames := 1, cells := 0, slots := 0, locals := 20 }
set_option maxHeartbeats 4000000 in
set_option maxRecDepth 100000 in
theorem zX9_faultPlace {l : Launch} {D : va_G} {cI cZ cQ : ClassId} {h_t h_x : Nat → Nat} {r_w r_b r_l r_H r_T r_C r_d r_F r_r r_n : Nat} {u_t u_x : Pk} {r0 : Int32} (hf : fX9_faultPlace u_t u_x = some r0) : MI l yX9_faultPlace wsX9_faultPlace rmX9_faultPlace D (TY cI cZ cQ) [.ref (h_t 0)] [nX9 cI cZ cQ h_t r_w r_b r_l r_H (h_x 0) r_T r_C r_d r_F r_r r_n u_t, nX7 cI cZ cQ h_x u_x] r0 [nX9 cI cZ cQ h_t r_w r_b r_l r_H (h_x 0) r_T r_C r_d r_F r_r r_n u_t, nX7 cI cZ cQ h_x u_x] := by
  refine MI.of (own := RX9) (by decide +kernel) rfl rfl (Nat.le_of_ble_eq_true rfl) (lv0 := [(0, .ref (h_t 0))]) rfl ?_
  intro X O E
  unfold fX9_faultPlace at hf
  refine r_ald_n O 1 rfl 0 rfl dX9_faultPlace_0 ?_
  refine r_get (ref := RX9) (C := RX9) (T := TX9) (N := 13) O 4 rfl inBX9 0 4 rfl rfl rfl (by decide) flX9_32 rfl rfl dX9_faultPlace_1 ?_
  obtain ⟨x4, hq4, hf⟩ := qb1_some hf
  refine k_VI O 7 rfl (zX7_placeOfFault (l := xl X) (D := xD X) (cI := cI) (cZ := cZ) (cQ := cQ) (h_t := h_x) hq4) (gV mlX9_188 mvX7_placeOfFault izX7) rfl rfl rfl hdX7_placeOfFault ⟨Nat.le_of_ble_eq_true rfl, Nat.le_of_ble_eq_true rfl⟩ rfl 1 rfl rfl rfl rfl (Nat.le_of_ble_eq_true rfl) ⟨Nat.zero_le _, Nat.zero_le _⟩ [1] rfl rfl rfl ([nX9 cI cZ cQ h_t r_w r_b r_l r_H (h_x 0) r_T r_C r_d r_F r_r r_n u_t, nX7 cI cZ cQ h_x u_x]) rfl dX9_faultPlace_4 ?_
  obtain g0 := qe1 hf
  exact r_iret2 O E g0 rfl dX9_faultPlace_7
-- X9_faultKind
def rmX9_faultKind : Room := { frames := 1, cells := 0, slots := 0, locals := 20 }
set_option maxHeartbeats 4000000 in
set_option maxRecDepth 100000 in
theorem zX9_faultKind {l : Launch} {D : va_G} {cI cZ cQ : ClassId} {h_t h_x : Nat → Nat} {r_w r_b r_l r_H r_T r_C r_d r_F r_r r_n : Nat} {u_t u_x : Pk} {r0 : Int32} (hf : fX9_faultKind u_t u_x = some r0) : MI l yX9_faultKind wsX9_faultKind rmX9_faultKind D (TY cI cZ cQ) [.ref (h_t 0)] [nX9 cI cZ cQ h_t r_w r_b r_l r_H (h_x 0) r_T r_C r_d r_F r_r r_n u_t, nX7 cI cZ cQ h_x u_x] r0 [nX9 cI cZ cQ h_t r_w r_b r_l r_H (h_x 0) r_T r_C r_d r_F r_r r_n u_t, nX7 cI cZ cQ h_x u_x] := by
  refine MI.of (own := RX9) (by decide +kernel) rfl rfl (Nat.le_of_ble_eq_true rfl) (lv0 := [(0, .ref (h_t 0))]) rfl ?_
  intro X O E
  unfold fX9_faultKind at hf
  refine r_ald_n O 1 rfl 0 rfl dX9_faultKind_0 ?_
  refine r_get (ref := RX9) (C := RX9) (T := TX9) (N := 13) O 4 rfl inBX9 0 4 rfl rfl rfl (by decide) flX9_32 rfl rfl dX9_faultKind_1 ?_
  obtain ⟨x4, hq4, hf⟩ := qb1_some hf
  refine k_VI O 7 rfl (zX7_kindOfFault (l := xl X) (D := xD X) (cI := cI) (cZ := cZ) (cQ := cQ) (h_t := h_x) hq4) (gV mlX9_191 mvX7_kindOfFault izX7) rfl rfl rfl hdX7_kindOfFault ⟨Nat.le_of_ble_eq_true rfl, Nat.le_of_ble_eq_true rfl⟩ rfl 1 rfl rfl rfl rfl (Nat.le_of_ble_eq_true rfl) ⟨Nat.zero_le _, Nat.zero_le _⟩ [1] rfl rfl rfl ([nX9 cI cZ cQ h_t r_w r_b r_l r_H (h_x 0) r_T r_C r_d r_F r_r r_n u_t, nX7 cI cZ cQ h_x u_x]) rfl dX9_faultKind_4 ?_
  obtain g0 := qe1 hf
  exact r_iret2 O E g0 rfl dX9_faultKind_7
-- X9_faultItem
def rmX9_faultItem : Room := { frames := 1, cells := 0, slots := 0, locals := 20 }
set_option maxHeartbeats 4000000 in
set_option maxRecDepth 100000 in
theorem zX9_faultItem {l : Launch} {D : va_G} {cI cZ cQ : ClassId} {h_t h_x : Nat → Nat} {r_w r_b r_l r_H r_T r_C r_d r_F r_r r_n : Nat} {u_t u_x : Pk} {r0 : Int32} (hf : fX9_faultItem u_t u_x = some r0) : MI l yX9_faultItem wsX9_faultItem rmX9_faultItem D (TY cI cZ cQ) [.ref (h_t 0)] [nX9 cI cZ cQ h_t r_w r_b r_l r_H (h_x 0) r_T r_C r_d r_F r_r r_n u_t, nX7 cI cZ cQ h_x u_x] r0 [nX9 cI cZ cQ h_t r_w r_b r_l r_H (h_x 0) r_T r_C r_d r_F r_r r_n u_t, nX7 cI cZ cQ h_x u_x] := by
  refine MI.of (own := RX9) (by decide +kernel) rfl rfl (Nat.le_of_ble_eq_true rfl) (lv0 := [(0, .ref (h_t 0))]) rfl ?_
  intro X O E
  unfold fX9_faultItem at hf
  refine r_ald_n O 1 rfl 0 rfl dX9_faultItem_0 ?_
  refine r_get (ref := RX9) (C := RX9) (T := TX9) (N := 13) O 4 rfl inBX9 0 4 rfl rfl rfl (by decide) flX9_32 rfl rfl dX9_faultItem_1 ?_
  obtain ⟨x4, hq4, hf⟩ := qb1_some hf
  refine k_VI O 7 rfl (zX7_itemOfFault (l := xl X) (D := xD X) (cI := cI) (cZ := cZ) (cQ := cQ) (h_t := h_x) hq4) (gV mlX9_194 mvX7_itemOfFault izX7) rfl rfl rfl hdX7_itemOfFault ⟨Nat.le_of_ble_eq_true rfl, Nat.le_of_ble_eq_true rfl⟩ rfl 1 rfl rfl rfl rfl (Nat.le_of_ble_eq_true rfl) ⟨Nat.zero_le _, Nat.zero_le _⟩ [1] rfl rfl rfl ([nX9 cI cZ cQ h_t r_w r_b r_l r_H (h_x 0) r_T r_C r_d r_F r_r r_n u_t, nX7 cI cZ cQ h_x u_x]) rfl dX9_faultItem_4 ?_
  obtain g0 := qe1 hf
  exact r_iret2 O E g0 rfl dX9_faultItem_7
-- X9_needTree
def rmX9_needTree : Room := { frames := 40, cells := 0, slots := 0, locals := 1051 }
set_option maxHeartbeats 4000000 in
set_option maxRecDepth 100000 in
theorem zX9_needTree {l : Launch} {D : va_G} {cI cZ cQ : ClassId} {h_t h_w h_b h_T h_L h_P : Nat → Nat} {r_l r_H r_x r_C r_d r_F r_r r_n : Nat} {u_w u_t u_b u_T u_L u_P : Pk} {v_t v_b v_T v_L v_P : Pk} (hf : fX9_needTree u_w u_t u_b u_T u_L u_P = some (v_t, v_b, v_T, v_L, v_P)) : MV l yX9_needTree wsX9_needTree rmX9_needTree D (TY cI cZ cQ) [.ref (h_t 0)] [nX9 cI cZ cQ h_t (h_w 0) (h_b 0) r_l r_H r_x (h_T 0) r_C r_d r_F r_r r_n u_t, nX8 cI cZ cQ h_w u_w, nX8 cI cZ cQ h_b u_b, nX6 cI cZ cQ h_T (h_w 0) (h_L 0) (h_P 0) u_T, nX4 cI cZ cQ h_L (h_w 0) u_L, nX4 cI cZ cQ h_P (h_w 0) u_P] [nX9 cI cZ cQ h_t (h_w 0) (h_b 0) r_l r_H r_x (h_T 0) r_C r_d r_F r_r r_n v_t, nX8 cI cZ cQ h_w u_w, nX8 cI cZ cQ h_b v_b, nX6 cI cZ cQ h_T (h_w 0) (h_L 0) (h_P 0) v_T, nX4 cI cZ cQ h_L (h_w 0) v_L, nX4 cI cZ cQ h_P (h_w 0) v_P] := by
  refine MV.of (own := RX9) (by decide +kernel) rfl rfl (Nat.le_of_ble_eq_true rfl) (lv0 := [(0, .ref (h_t 0))]) rfl ?_
  intro X O E
  have B43 : ∀ (w_t : Pk) (w_b : Pk) (w_T : Pk) (w_L : Pk) (w_P : Pk), fX9_needTree_b43 u_w w_t w_b w_T w_L w_P = some (v_t, v_b, v_T, v_L, v_P) → BK X 1 0 0 43 ([nX9 cI cZ cQ h_t (h_w 0) (h_b 0) r_l r_H r_x (h_T 0) r_C r_d r_F r_r r_n w_t, nX8 cI cZ cQ h_w u_w, nX8 cI cZ cQ h_b w_b, nX6 cI cZ cQ h_T (h_w 0) (h_L 0) (h_P 0) w_T, nX4 cI cZ cQ h_L (h_w 0) w_L, nX4 cI cZ cQ h_P (h_w 0) w_P]) [(0, .ref (h_t 0))] [] := by
    intro w_t w_b w_T w_L w_P hf
    unfold fX9_needTree_b43 at hf
    refine r_ald_n O 44 rfl 0 rfl dX9_needTree_43 ?_
    refine r_get (ref := RX9) (C := RX9) (T := TX9) (N := 13) O 47 rfl inBX9 0 5 rfl rfl rfl (by decide) flX9_41 rfl rfl dX9_needTree_44 ?_
    refine r_ald_n O 48 rfl 0 rfl dX9_needTree_47 ?_
    refine r_get (ref := RX9) (C := RX9) (T := TX9) (N := 13) O 51 rfl inBX9 0 0 rfl rfl rfl (by decide) flX9_12 rfl rfl dX9_needTree_48 ?_
    obtain ⟨x51, hq51, hf⟩ := qb1_some hf
    refine k_VI O 54 rfl (zX8_splitWeight (l := xl X) (D := xD X) (cI := cI) (cZ := cZ) (cQ := cQ) (h_t := h_w) hq51) (gV mlX9_369 mvX8_splitWeight izX8) rfl rfl rfl hdX8_splitWeight ⟨Nat.le_of_ble_eq_true rfl, Nat.le_of_ble_eq_true rfl⟩ rfl 1 rfl rfl rfl rfl (Nat.le_of_ble_eq_true rfl) ⟨Nat.zero_le _, Nat.zero_le _⟩ [1] rfl rfl rfl ([nX9 cI cZ cQ h_t (h_w 0) (h_b 0) r_l r_H r_x (h_T 0) r_C r_d r_F r_r r_n w_t, nX8 cI cZ cQ h_w u_w, nX8 cI cZ cQ h_b w_b, nX6 cI cZ cQ h_T (h_w 0) (h_L 0) (h_P 0) w_T, nX4 cI cZ cQ h_L (h_w 0) w_L, nX4 cI cZ cQ h_P (h_w 0) w_P]) rfl dX9_needTree_51 ?_
    refine r_ald_n O 55 rfl 0 rfl dX9_needTree_54 ?_
    refine r_get (ref := RX9) (C := RX9) (T := TX9) (N := 13) O 58 rfl inBX9 0 0 rfl rfl rfl (by decide) flX9_12 rfl rfl dX9_needTree_55 ?_
    obtain ⟨x58, hq58, hf⟩ := qb1_some hf
    refine k_VI O 61 rfl (zX8_balanceWeight (l := xl X) (D := xD X) (cI := cI) (cZ := cZ) (cQ := cQ) (h_t := h_w) hq58) (gV mlX9_372 mvX8_balanceWeight izX8) rfl rfl rfl hdX8_balanceWeight ⟨Nat.le_of_ble_eq_true rfl, Nat.le_of_ble_eq_true rfl⟩ rfl 1 rfl rfl rfl rfl (Nat.le_of_ble_eq_true rfl) ⟨Nat.zero_le _, Nat.zero_le _⟩ [1] rfl rfl rfl ([nX9 cI cZ cQ h_t (h_w 0) (h_b 0) r_l r_H r_x (h_T 0) r_C r_d r_F r_r r_n w_t, nX8 cI cZ cQ h_w u_w, nX8 cI cZ cQ h_b w_b, nX6 cI cZ cQ h_T (h_w 0) (h_L 0) (h_P 0) w_T, nX4 cI cZ cQ h_L (h_w 0) w_L, nX4 cI cZ cQ h_P (h_w 0) w_P]) rfl dX9_needTree_58 ?_
    refine r_ic O 62 rfl 1 (by decide) dX9_needTree_61 ?_
    obtain ⟨p62_T, p62_L, p62_P, hq62, hf⟩ := qb3_some hf
    refine k_VV O 65 rfl (zX6_make (l := xl X) (D := xD X) (cI := cI) (cZ := cZ) (cQ := cQ) (h_t := h_T) (h_w := h_w) (h_L := h_L) (h_P := h_P) hq62) (gV mlX9_341 mvX6_make izX6) rfl rfl rfl hdX6_make ⟨Nat.le_of_ble_eq_true rfl, Nat.le_of_ble_eq_true rfl⟩ rfl 3 rfl rfl rfl rfl (Nat.le_of_ble_eq_true rfl) ⟨Nat.zero_le _, Nat.zero_le _⟩ [3, 1, 4, 5] rfl rfl rfl ([nX9 cI cZ cQ h_t (h_w 0) (h_b 0) r_l r_H r_x (h_T 0) r_C r_d r_F r_r r_n w_t, nX8 cI cZ cQ h_w u_w, nX8 cI cZ cQ h_b w_b, nX6 cI cZ cQ h_T (h_w 0) (h_L 0) (h_P 0) p62_T, nX4 cI cZ cQ h_L (h_w 0) p62_L, nX4 cI cZ cQ h_P (h_w 0) p62_P]) rfl dX9_needTree_62 ?_
    refine r_ald_n O 66 rfl 0 rfl dX9_needTree_65 ?_
    refine r_ic O 67 rfl 1 (by decide) dX9_needTree_66 ?_
    obtain ⟨p67_t, ep67_t, hf⟩ := qn_some hf
    refine r_put (ref := RX9) (C := RX9) (T := TX9) (N := 13) O 70 rfl inBX9 tyX9 tyX9_ok nmX9 0 12 rfl rfl rfl (by decide) flX9_82 rfl rfl rfl rfl (Nat.le_of_ble_eq_true rfl) ([nX9 cI cZ cQ h_t (h_w 0) (h_b 0) r_l r_H r_x (h_T 0) r_C r_d r_F r_r r_n p67_t, nX8 cI cZ cQ h_w u_w, nX8 cI cZ cQ h_b w_b, nX6 cI cZ cQ h_T (h_w 0) (h_L 0) (h_P 0) p62_T, nX4 cI cZ cQ h_L (h_w 0) p62_L, nX4 cI cZ cQ h_P (h_w 0) p62_P]) (by rw [ep67_t]; rfl) dX9_needTree_67 ?_
    obtain ⟨g0, g1, g2, g3, g4⟩ := qe5 hf
    exact r_vret2 O E (by rw [g0, g1, g2, g3, g4]) dX9_needTree_70
  unfold fX9_needTree at hf
  refine r_ald_n O 1 rfl 0 rfl dX9_needTree_0 ?_
  refine r_get (ref := RX9) (C := RX9) (T := TX9) (N := 13) O 4 rfl inBX9 0 12 rfl rfl rfl (by decide) flX9_82 rfl rfl dX9_needTree_1 ?_
  refine r_if_eq O 7 rfl 8 dX9_needTree_4 (by decide) (fun hc4 => ?_) (fun hc4 => ?_)
  · rw [if_pos hc4] at hf
    refine r_ald_n O 9 rfl 0 rfl dX9_needTree_8 ?_
    refine r_get (ref := RX9) (C := RX9) (T := TX9) (N := 13) O 12 rfl inBX9 0 1 rfl rfl rfl (by decide) flX9_16 rfl rfl dX9_needTree_9 ?_
    refine r_ald_n O 13 rfl 0 rfl dX9_needTree_12 ?_
    refine r_get (ref := RX9) (C := RX9) (T := TX9) (N := 13) O 16 rfl inBX9 0 0 rfl rfl rfl (by decide) flX9_12 rfl rfl dX9_needTree_13 ?_
    obtain ⟨x16, hq16, hf⟩ := qb1_some hf
    refine k_VZ O 19 rfl (zX8_hasSameFixedPart (l := xl X) (D := xD X) (cI := cI) (cZ := cZ) (cQ := cQ) (h_t := h_b) (h_o := h_w) hq16) (gV mlX9_363 mvX8_hasSameFixedPart izX8) rfl rfl rfl hdX8_hasSameFixedPart ⟨Nat.le_of_ble_eq_true rfl, Nat.le_of_ble_eq_true rfl⟩ rfl 2 rfl rfl rfl rfl (Nat.le_of_ble_eq_true rfl) ⟨Nat.zero_le _, Nat.zero_le _⟩ [2, 1] rfl rfl rfl ([nX9 cI cZ cQ h_t (h_w 0) (h_b 0) r_l r_H r_x (h_T 0) r_C r_d r_F r_r r_n u_t, nX8 cI cZ cQ h_w u_w, nX8 cI cZ cQ h_b u_b, nX6 cI cZ cQ h_T (h_w 0) (h_L 0) (h_P 0) u_T, nX4 cI cZ cQ h_L (h_w 0) u_L, nX4 cI cZ cQ h_P (h_w 0) u_P]) rfl dX9_needTree_16 (fun hz16 => ?_)
    refine r_if_ne O 22 rfl 43 dX9_needTree_19 (by decide) (fun hc19 => ?_) (fun hc19 => ?_)
    · rw [if_neg hc19] at hf
      exact B43 _ _ _ _ _ hf
    · rw [if_pos hc19] at hf
      refine r_ald_n O 23 rfl 0 rfl dX9_needTree_22 ?_
      refine r_get (ref := RX9) (C := RX9) (T := TX9) (N := 13) O 26 rfl inBX9 0 1 rfl rfl rfl (by decide) flX9_16 rfl rfl dX9_needTree_23 ?_
      refine r_ald_n O 27 rfl 0 rfl dX9_needTree_26 ?_
      refine r_get (ref := RX9) (C := RX9) (T := TX9) (N := 13) O 30 rfl inBX9 0 0 rfl rfl rfl (by decide) flX9_12 rfl rfl dX9_needTree_27 ?_
      obtain ⟨p30_b, hq30, hf⟩ := qb1_some hf
      refine k_VV O 33 rfl (zX8_copyFrom (l := xl X) (D := xD X) (cI := cI) (cZ := cZ) (cQ := cQ) (h_t := h_b) (h_o := h_w) hq30) (gV mlX9_366 mvX8_copyFrom izX8) rfl rfl rfl hdX8_copyFrom ⟨Nat.le_of_ble_eq_true rfl, Nat.le_of_ble_eq_true rfl⟩ rfl 2 rfl rfl rfl rfl (Nat.le_of_ble_eq_true rfl) ⟨Nat.zero_le _, Nat.zero_le _⟩ [2, 1] rfl rfl rfl ([nX9 cI cZ cQ h_t (h_w 0) (h_b 0) r_l r_H r_x (h_T 0) r_C r_d r_F r_r r_n u_t, nX8 cI cZ cQ h_w u_w, nX8 cI cZ cQ h_b p30_b, nX6 cI cZ cQ h_T (h_w 0) (h_L 0) (h_P 0) u_T, nX4 cI cZ cQ h_L (h_w 0) u_L, nX4 cI cZ cQ h_P (h_w 0) u_P]) rfl dX9_needTree_30 ?_
      refine r_ald_n O 34 rfl 0 rfl dX9_needTree_33 ?_
      refine r_dup O 35 rfl dX9_needTree_34 rfl ?_
      refine r_get (ref := RX9) (C := RX9) (T := TX9) (N := 13) O 38 rfl inBX9 0 11 rfl rfl rfl (by decide) flX9_78 rfl rfl dX9_needTree_35 ?_
      refine r_ic O 39 rfl 1 (by decide) dX9_needTree_38 ?_
      refine r_iadd O 40 rfl dX9_needTree_39 ?_
      obtain ⟨p40_t, ep40_t, hf⟩ := qn_some hf
      refine r_put (ref := RX9) (C := RX9) (T := TX9) (N := 13) O 43 rfl inBX9 tyX9 tyX9_ok nmX9 0 11 rfl rfl rfl (by decide) flX9_78 rfl rfl rfl rfl (Nat.le_of_ble_eq_true rfl) ([nX9 cI cZ cQ h_t (h_w 0) (h_b 0) r_l r_H r_x (h_T 0) r_C r_d r_F r_r r_n p40_t, nX8 cI cZ cQ h_w u_w, nX8 cI cZ cQ h_b p30_b, nX6 cI cZ cQ h_T (h_w 0) (h_L 0) (h_P 0) u_T, nX4 cI cZ cQ h_L (h_w 0) u_L, nX4 cI cZ cQ h_P (h_w 0) u_P]) (by rw [ep40_t]; rfl) dX9_needTree_40 ?_
      exact B43 _ _ _ _ _ hf
  · rw [if_neg hc4] at hf
    obtain ⟨g0, g1, g2, g3, g4⟩ := qe5 hf
    exact r_vret2 O E (by rw [g0, g1, g2, g3, g4]) dX9_needTree_7
-- X9_nodeCount
def rmX9_nodeCount : Room := { frames := 41, cells := 0, slots := 0, locals := 1071 }
set_option maxHeartbeats 4000000 in
set_option maxRecDepth 100000 in
theorem zX9_nodeCount {l : Launch} {D : va_G} {cI cZ cQ : ClassId} {h_t h_w h_b h_T h_L h_P : Nat → Nat} {r_l r_H r_x r_C r_d r_F r_r r_n : Nat} {u_w u_t u_b u_T u_L u_P : Pk} {r0 : Int32} {v_t v_b v_T v_L v_P : Pk} (hf : fX9_nodeCount u_w u_t u_b u_T u_L u_P = some (r0, v_t, v_b, v_T, v_L, v_P)) : MI l yX9_nodeCount wsX9_nodeCount rmX9_nodeCount D (TY cI cZ cQ) [.ref (h_t 0)] [nX9 cI cZ cQ h_t (h_w 0) (h_b 0) r_l r_H r_x (h_T 0) r_C r_d r_F r_r r_n u_t, nX8 cI cZ cQ h_w u_w, nX8 cI cZ cQ h_b u_b, nX6 cI cZ cQ h_T (h_w 0) (h_L 0) (h_P 0) u_T, nX4 cI cZ cQ h_L (h_w 0) u_L, nX4 cI cZ cQ h_P (h_w 0) u_P] r0 [nX9 cI cZ cQ h_t (h_w 0) (h_b 0) r_l r_H r_x (h_T 0) r_C r_d r_F r_r r_n v_t, nX8 cI cZ cQ h_w u_w, nX8 cI cZ cQ h_b v_b, nX6 cI cZ cQ h_T (h_w 0) (h_L 0) (h_P 0) v_T, nX4 cI cZ cQ h_L (h_w 0) v_L, nX4 cI cZ cQ h_P (h_w 0) v_P] := by
  refine MI.of (own := RX9) (by decide +kernel) rfl rfl (Nat.le_of_ble_eq_true rfl) (lv0 := [(0, .ref (h_t 0))]) rfl ?_
  intro X O E
  unfold fX9_nodeCount at hf
  refine r_ald_n O 1 rfl 0 rfl dX9_nodeCount_0 ?_
  obtain ⟨p1_t, p1_b, p1_T, p1_L, p1_P, hq1, hf⟩ := qb5_some hf
  refine k_VV O 4 rfl (zX9_needTree (l := xl X) (D := xD X) (cI := cI) (cZ := cZ) (cQ := cQ) (h_t := h_t) (h_w := h_w) (h_b := h_b) (r_l := r_l) (r_H := r_H) (r_x := r_x) (h_T := h_T) (h_L := h_L) (h_P := h_P) (r_C := r_C) (r_d := r_d) (r_F := r_F) (r_r := r_r) (r_n := r_n) hq1) (gV mlX9_197 mvX9_needTree izX9) rfl rfl rfl hdX9_needTree ⟨Nat.le_of_ble_eq_true rfl, Nat.le_of_ble_eq_true rfl⟩ rfl 0 rfl rfl rfl rfl (Nat.le_of_ble_eq_true rfl) ⟨Nat.zero_le _, Nat.zero_le _⟩ [0, 1, 2, 3, 4, 5] rfl rfl rfl ([nX9 cI cZ cQ h_t (h_w 0) (h_b 0) r_l r_H r_x (h_T 0) r_C r_d r_F r_r r_n p1_t, nX8 cI cZ cQ h_w u_w, nX8 cI cZ cQ h_b p1_b, nX6 cI cZ cQ h_T (h_w 0) (h_L 0) (h_P 0) p1_T, nX4 cI cZ cQ h_L (h_w 0) p1_L, nX4 cI cZ cQ h_P (h_w 0) p1_P]) rfl dX9_nodeCount_1 ?_
  refine r_ald_n O 5 rfl 0 rfl dX9_nodeCount_4 ?_
  refine r_get (ref := RX9) (C := RX9) (T := TX9) (N := 13) O 8 rfl inBX9 0 5 rfl rfl rfl (by decide) flX9_41 rfl rfl dX9_nodeCount_5 ?_
  obtain ⟨x8, hq8, hf⟩ := qb1_some hf
  refine k_VI O 11 rfl (zX6_nodeTotal (l := xl X) (D := xD X) (cI := cI) (cZ := cZ) (cQ := cQ) (h_t := h_T) (r_w := (h_w 0)) (r_L := (h_L 0)) (r_P := (h_P 0)) hq8) (gV mlX9_200 mvX6_nodeTotal izX6) rfl rfl rfl hdX6_nodeTotal ⟨Nat.le_of_ble_eq_true rfl, Nat.le_of_ble_eq_true rfl⟩ rfl 3 rfl rfl rfl rfl (Nat.le_of_ble_eq_true rfl) ⟨Nat.zero_le _, Nat.zero_le _⟩ [3] rfl rfl rfl ([nX9 cI cZ cQ h_t (h_w 0) (h_b 0) r_l r_H r_x (h_T 0) r_C r_d r_F r_r r_n p1_t, nX8 cI cZ cQ h_w u_w, nX8 cI cZ cQ h_b p1_b, nX6 cI cZ cQ h_T (h_w 0) (h_L 0) (h_P 0) p1_T, nX4 cI cZ cQ h_L (h_w 0) p1_L, nX4 cI cZ cQ h_P (h_w 0) p1_P]) rfl dX9_nodeCount_8 ?_
  obtain ⟨g0, g1, g2, g3, g4, g5⟩ := qe6 hf
  exact r_iret2 O E g0 (by rw [g1, g2, g3, g4, g5]) dX9_nodeCount_11
-- X9_nodeWall
def rmX9_nodeWall : Room := { frames := 41, cells := 0, slots := 0, locals := 1071 }
set_option maxHeartbeats 4000000 in
set_option maxRecDepth 100000 in
theorem zX9_nodeWall {l : Launch} {D : va_G} {cI cZ cQ : ClassId} {h_t h_w h_b h_T h_L h_P : Nat → Nat} {r_l r_H r_x r_C r_d r_F r_r r_n : Nat} {u_w u_t u_b u_T u_L u_P : Pk} {a1 : Int32} {r0 : Int32} {v_t v_b v_T v_L v_P : Pk} (hf : fX9_nodeWall u_w u_t u_b u_T u_L u_P a1 = some (r0, v_t, v_b, v_T, v_L, v_P)) : MI l yX9_nodeWall wsX9_nodeWall rmX9_nodeWall D (TY cI cZ cQ) [.ref (h_t 0), .int a1] [nX9 cI cZ cQ h_t (h_w 0) (h_b 0) r_l r_H r_x (h_T 0) r_C r_d r_F r_r r_n u_t, nX8 cI cZ cQ h_w u_w, nX8 cI cZ cQ h_b u_b, nX6 cI cZ cQ h_T (h_w 0) (h_L 0) (h_P 0) u_T, nX4 cI cZ cQ h_L (h_w 0) u_L, nX4 cI cZ cQ h_P (h_w 0) u_P] r0 [nX9 cI cZ cQ h_t (h_w 0) (h_b 0) r_l r_H r_x (h_T 0) r_C r_d r_F r_r r_n v_t, nX8 cI cZ cQ h_w u_w, nX8 cI cZ cQ h_b v_b, nX6 cI cZ cQ h_T (h_w 0) (h_L 0) (h_P 0) v_T, nX4 cI cZ cQ h_L (h_w 0) v_L, nX4 cI cZ cQ h_P (h_w 0) v_P] := by
  refine MI.of (own := RX9) (by decide +kernel) rfl rfl (Nat.le_of_ble_eq_true rfl) (lv0 := [(0, .ref (h_t 0)), (1, .int a1)]) rfl ?_
  intro X O E
  unfold fX9_nodeWall at hf
  refine r_ald_n O 1 rfl 0 rfl dX9_nodeWall_0 ?_
  obtain ⟨p1_t, p1_b, p1_T, p1_L, p1_P, hq1, hf⟩ := qb5_some hf
  refine k_VV O 4 rfl (zX9_needTree (l := xl X) (D := xD X) (cI := cI) (cZ := cZ) (cQ := cQ) (h_t := h_t) (h_w := h_w) (h_b := h_b) (r_l := r_l) (r_H := r_H) (r_x := r_x) (h_T := h_T) (h_L := h_L) (h_P := h_P) (r_C := r_C) (r_d := r_d) (r_F := r_F) (r_r := r_r) (r_n := r_n) hq1) (gV mlX9_197 mvX9_needTree izX9) rfl rfl rfl hdX9_needTree ⟨Nat.le_of_ble_eq_true rfl, Nat.le_of_ble_eq_true rfl⟩ rfl 0 rfl rfl rfl rfl (Nat.le_of_ble_eq_true rfl) ⟨Nat.zero_le _, Nat.zero_le _⟩ [0, 1, 2, 3, 4, 5] rfl rfl rfl ([nX9 cI cZ cQ h_t (h_w 0) (h_b 0) r_l r_H r_x (h_T 0) r_C r_d r_F r_r r_n p1_t, nX8 cI cZ cQ h_w u_w, nX8 cI cZ cQ h_b p1_b, nX6 cI cZ cQ h_T (h_w 0) (h_L 0) (h_P 0) p1_T, nX4 cI cZ cQ h_L (h_w 0) p1_L, nX4 cI cZ cQ h_P (h_w 0) p1_P]) rfl dX9_nodeWall_1 ?_
  refine r_ald_n O 5 rfl 0 rfl dX9_nodeWall_4 ?_
  refine r_get (ref := RX9) (C := RX9) (T := TX9) (N := 13) O 8 rfl inBX9 0 5 rfl rfl rfl (by decide) flX9_41 rfl rfl dX9_nodeWall_5 ?_
  refine r_ild_n O 9 rfl 1 rfl dX9_nodeWall_8 ?_
  obtain ⟨x9, hq9, hf⟩ := qb1_some hf
  refine k_VZ O 12 rfl (zX6_hasNode (l := xl X) (D := xD X) (cI := cI) (cZ := cZ) (cQ := cQ) (h_t := h_T) (r_w := (h_w 0)) (r_L := (h_L 0)) (r_P := (h_P 0)) hq9) (gV mlX9_203 mvX6_hasNode izX6) rfl rfl rfl hdX6_hasNode ⟨Nat.le_of_ble_eq_true rfl, Nat.le_of_ble_eq_true rfl⟩ rfl 3 rfl rfl rfl rfl (Nat.le_of_ble_eq_true rfl) ⟨Nat.zero_le _, Nat.zero_le _⟩ [3] rfl rfl rfl ([nX9 cI cZ cQ h_t (h_w 0) (h_b 0) r_l r_H r_x (h_T 0) r_C r_d r_F r_r r_n p1_t, nX8 cI cZ cQ h_w u_w, nX8 cI cZ cQ h_b p1_b, nX6 cI cZ cQ h_T (h_w 0) (h_L 0) (h_P 0) p1_T, nX4 cI cZ cQ h_L (h_w 0) p1_L, nX4 cI cZ cQ h_P (h_w 0) p1_P]) rfl dX9_nodeWall_9 (fun hz9 => ?_)
  refine r_if_eq O 15 rfl 26 dX9_nodeWall_12 (by decide) (fun hc12 => ?_) (fun hc12 => ?_)
  · rw [if_pos hc12] at hf
    refine r_bi O 28 rfl (-7) (by decide) dX9_nodeWall_26 ?_
    obtain ⟨g0, g1, g2, g3, g4, g5⟩ := qe6 hf
    exact r_iret2 O E g0 (by rw [g1, g2, g3, g4, g5]) dX9_nodeWall_28
  · rw [if_neg hc12] at hf
    refine r_ald_n O 16 rfl 0 rfl dX9_nodeWall_15 ?_
    refine r_get (ref := RX9) (C := RX9) (T := TX9) (N := 13) O 19 rfl inBX9 0 5 rfl rfl rfl (by decide) flX9_41 rfl rfl dX9_nodeWall_16 ?_
    refine r_ild_n O 20 rfl 1 rfl dX9_nodeWall_19 ?_
    obtain ⟨x20, hq20, hf⟩ := qb1_some hf
    refine k_VI O 23 rfl (zX6_wallOfNode (l := xl X) (D := xD X) (cI := cI) (cZ := cZ) (cQ := cQ) (h_t := h_T) (r_w := (h_w 0)) (r_L := (h_L 0)) (r_P := (h_P 0)) hq20) (gV mlX9_206 mvX6_wallOfNode izX6) rfl rfl rfl hdX6_wallOfNode ⟨Nat.le_of_ble_eq_true rfl, Nat.le_of_ble_eq_true rfl⟩ rfl 3 rfl rfl rfl rfl (Nat.le_of_ble_eq_true rfl) ⟨Nat.zero_le _, Nat.zero_le _⟩ [3] rfl rfl rfl ([nX9 cI cZ cQ h_t (h_w 0) (h_b 0) r_l r_H r_x (h_T 0) r_C r_d r_F r_r r_n p1_t, nX8 cI cZ cQ h_w u_w, nX8 cI cZ cQ h_b p1_b, nX6 cI cZ cQ h_T (h_w 0) (h_L 0) (h_P 0) p1_T, nX4 cI cZ cQ h_L (h_w 0) p1_L, nX4 cI cZ cQ h_P (h_w 0) p1_P]) rfl dX9_nodeWall_20 ?_
    refine r_goto O 28 dX9_nodeWall_23 (by decide) ?_
    obtain ⟨g0, g1, g2, g3, g4, g5⟩ := qe6 hf
    exact r_iret2 O E g0 (by rw [g1, g2, g3, g4, g5]) dX9_nodeWall_28
-- X9_nodeChild
def rmX9_nodeChild : Room := { frames := 41, cells := 0, slots := 0, locals := 1071 }
set_option maxHeartbeats 4000000 in
set_option maxRecDepth 100000 in
theorem zX9_nodeChild {l : Launch} {D : va_G} {cI cZ cQ : ClassId} {h_t h_w h_b h_T h_L h_P : Nat → Nat} {r_l r_H r_x r_C r_d r_F r_r r_n : Nat} {u_w u_t u_b u_T u_L u_P : Pk} {a1 : Int32} {a2 : Int32} {r0 : Int32} {v_t v_b v_T v_L v_P : Pk} (hf : fX9_nodeChild u_w u_t u_b u_T u_L u_P a1 a2 = some (r0, v_t, v_b, v_T, v_L, v_P)) : MI l yX9_nodeChild wsX9_nodeChild rmX9_nodeChild D (TY cI cZ cQ) [.ref (h_t 0), .int a1, .int a2] [nX9 cI cZ cQ h_t (h_w 0) (h_b 0) r_l r_H r_x (h_T 0) r_C r_d r_F r_r r_n u_t, nX8 cI cZ cQ h_w u_w, nX8 cI cZ cQ h_b u_b, nX6 cI cZ cQ h_T (h_w 0) (h_L 0) (h_P 0) u_T, nX4 cI cZ cQ h_L (h_w 0) u_L, nX4 cI cZ cQ h_P (h_w 0) u_P] r0 [nX9 cI cZ cQ h_t (h_w 0) (h_b 0) r_l r_H r_x (h_T 0) r_C r_d r_F r_r r_n v_t, nX8 cI cZ cQ h_w u_w, nX8 cI cZ cQ h_b v_b, nX6 cI cZ cQ h_T (h_w 0) (h_L 0) (h_P 0) v_T, nX4 cI cZ cQ h_L (h_w 0) v_L, nX4 cI cZ cQ h_P (h_w 0) v_P] := by
  refine MI.of (own := RX9) (by decide +kernel) rfl rfl (Nat.le_of_ble_eq_true rfl) (lv0 := [(0, .ref (h_t 0)), (1, .int a1), (2, .int a2)]) rfl ?_
  intro X O E
  have B53 : ∀ (w_t : Pk) (w_b : Pk) (w_T : Pk) (w_L : Pk) (w_P : Pk) (z0 : Int32), fX9_nodeChild_b53 u_w w_t w_b w_T w_L w_P z0 = some (r0, v_t, v_b, v_T, v_L, v_P) → BK X 4 0 0 53 ([nX9 cI cZ cQ h_t (h_w 0) (h_b 0) r_l r_H r_x (h_T 0) r_C r_d r_F r_r r_n w_t, nX8 cI cZ cQ h_w u_w, nX8 cI cZ cQ h_b w_b, nX6 cI cZ cQ h_T (h_w 0) (h_L 0) (h_P 0) w_T, nX4 cI cZ cQ h_L (h_w 0) w_L, nX4 cI cZ cQ h_P (h_w 0) w_P]) [] [.int z0] := by
    intro w_t w_b w_T w_L w_P z0 hf
    unfold fX9_nodeChild_b53 at hf
    refine r_ist_n O 54 rfl rfl [(3, .int z0)] dX9_nodeChild_53 (by decide) rfl ?_
    refine r_ild_n O 55 rfl 0 rfl dX9_nodeChild_54 ?_
    refine r_if_lt O 58 rfl 62 dX9_nodeChild_55 (by decide) (fun hc55 => ?_) (fun hc55 => ?_)
    · rw [if_pos hc55] at hf
      refine r_bi O 64 rfl (-8) (by decide) dX9_nodeChild_62 ?_
      obtain ⟨g0, g1, g2, g3, g4, g5⟩ := qe6 hf
      exact r_iret2 O E g0 (by rw [g1, g2, g3, g4, g5]) dX9_nodeChild_64
    · rw [if_neg hc55] at hf
      refine r_ild_n O 59 rfl 0 rfl dX9_nodeChild_58 ?_
      refine r_goto O 64 dX9_nodeChild_59 (by decide) ?_
      obtain ⟨g0, g1, g2, g3, g4, g5⟩ := qe6 hf
      exact r_iret2 O E g0 (by rw [g1, g2, g3, g4, g5]) dX9_nodeChild_64
  unfold fX9_nodeChild at hf
  refine r_ild_n O 1 rfl 2 rfl dX9_nodeChild_0 ?_
  refine r_ic O 2 rfl 0 (by decide) dX9_nodeChild_1 ?_
  refine r_ic O 3 rfl 1 (by decide) dX9_nodeChild_2 ?_
  obtain ⟨x3, hq3, hf⟩ := qb1_some hf
  refine k_SZ O 6 rfl (zX9_isOutside (l := xl X) (D := xD X) (cI := cI) (cZ := cZ) (cQ := cQ) hq3) (gS mlX9_90 mvX9_isOutside izX9) rfl rfl rfl hdX9_isOutside ⟨Nat.le_of_ble_eq_true rfl, Nat.le_of_ble_eq_true rfl⟩ rfl rfl (Nat.le_of_ble_eq_true rfl) ⟨Nat.zero_le _, Nat.zero_le _⟩ [] rfl rfl rfl ([nX9 cI cZ cQ h_t (h_w 0) (h_b 0) r_l r_H r_x (h_T 0) r_C r_d r_F r_r r_n u_t, nX8 cI cZ cQ h_w u_w, nX8 cI cZ cQ h_b u_b, nX6 cI cZ cQ h_T (h_w 0) (h_L 0) (h_P 0) u_T, nX4 cI cZ cQ h_L (h_w 0) u_L, nX4 cI cZ cQ h_P (h_w 0) u_P]) rfl dX9_nodeChild_3 (fun hz3 => ?_)
  refine r_if_eq O 9 rfl 12 dX9_nodeChild_6 (by decide) (fun hc6 => ?_) (fun hc6 => ?_)
  · rw [if_pos hc6] at hf
    refine r_ald_n O 13 rfl 0 rfl dX9_nodeChild_12 ?_
    obtain ⟨p13_t, p13_b, p13_T, p13_L, p13_P, hq13, hf⟩ := qb5_some hf
    refine k_VV O 16 rfl (zX9_needTree (l := xl X) (D := xD X) (cI := cI) (cZ := cZ) (cQ := cQ) (h_t := h_t) (h_w := h_w) (h_b := h_b) (r_l := r_l) (r_H := r_H) (r_x := r_x) (h_T := h_T) (h_L := h_L) (h_P := h_P) (r_C := r_C) (r_d := r_d) (r_F := r_F) (r_r := r_r) (r_n := r_n) hq13) (gV mlX9_197 mvX9_needTree izX9) rfl rfl rfl hdX9_needTree ⟨Nat.le_of_ble_eq_true rfl, Nat.le_of_ble_eq_true rfl⟩ rfl 0 rfl rfl rfl rfl (Nat.le_of_ble_eq_true rfl) ⟨Nat.zero_le _, Nat.zero_le _⟩ [0, 1, 2, 3, 4, 5] rfl rfl rfl ([nX9 cI cZ cQ h_t (h_w 0) (h_b 0) r_l r_H r_x (h_T 0) r_C r_d r_F r_r r_n p13_t, nX8 cI cZ cQ h_w u_w, nX8 cI cZ cQ h_b p13_b, nX6 cI cZ cQ h_T (h_w 0) (h_L 0) (h_P 0) p13_T, nX4 cI cZ cQ h_L (h_w 0) p13_L, nX4 cI cZ cQ h_P (h_w 0) p13_P]) rfl dX9_nodeChild_13 ?_
    refine r_ald_n O 17 rfl 0 rfl dX9_nodeChild_16 ?_
    refine r_get (ref := RX9) (C := RX9) (T := TX9) (N := 13) O 20 rfl inBX9 0 5 rfl rfl rfl (by decide) flX9_41 rfl rfl dX9_nodeChild_17 ?_
    refine r_ild_n O 21 rfl 1 rfl dX9_nodeChild_20 ?_
    obtain ⟨x21, hq21, hf⟩ := qb1_some hf
    refine k_VZ O 24 rfl (zX6_hasNode (l := xl X) (D := xD X) (cI := cI) (cZ := cZ) (cQ := cQ) (h_t := h_T) (r_w := (h_w 0)) (r_L := (h_L 0)) (r_P := (h_P 0)) hq21) (gV mlX9_203 mvX6_hasNode izX6) rfl rfl rfl hdX6_hasNode ⟨Nat.le_of_ble_eq_true rfl, Nat.le_of_ble_eq_true rfl⟩ rfl 3 rfl rfl rfl rfl (Nat.le_of_ble_eq_true rfl) ⟨Nat.zero_le _, Nat.zero_le _⟩ [3] rfl rfl rfl ([nX9 cI cZ cQ h_t (h_w 0) (h_b 0) r_l r_H r_x (h_T 0) r_C r_d r_F r_r r_n p13_t, nX8 cI cZ cQ h_w u_w, nX8 cI cZ cQ h_b p13_b, nX6 cI cZ cQ h_T (h_w 0) (h_L 0) (h_P 0) p13_T, nX4 cI cZ cQ h_L (h_w 0) p13_L, nX4 cI cZ cQ h_P (h_w 0) p13_P]) rfl dX9_nodeChild_21 (fun hz21 => ?_)
    refine r_if_ne O 27 rfl 30 dX9_nodeChild_24 (by decide) (fun hc24 => ?_) (fun hc24 => ?_)
    · rw [if_neg hc24] at hf
      refine r_ild_n O 31 rfl 2 rfl dX9_nodeChild_30 ?_
      refine r_if_ne O 34 rfl 45 dX9_nodeChild_31 (by decide) (fun hc31 => ?_) (fun hc31 => ?_)
      · rw [if_neg hc31] at hf
        refine r_ald_n O 46 rfl 0 rfl dX9_nodeChild_45 ?_
        refine r_get (ref := RX9) (C := RX9) (T := TX9) (N := 13) O 49 rfl inBX9 0 5 rfl rfl rfl (by decide) flX9_41 rfl rfl dX9_nodeChild_46 ?_
        refine r_ild_n O 50 rfl 1 rfl dX9_nodeChild_49 ?_
        obtain ⟨x50, hq50, hf⟩ := qb1_some hf
        refine k_VI O 53 rfl (zX6_backOf (l := xl X) (D := xD X) (cI := cI) (cZ := cZ) (cQ := cQ) (h_t := h_T) (r_w := (h_w 0)) (r_L := (h_L 0)) (r_P := (h_P 0)) hq50) (gV mlX9_212 mvX6_backOf izX6) rfl rfl rfl hdX6_backOf ⟨Nat.le_of_ble_eq_true rfl, Nat.le_of_ble_eq_true rfl⟩ rfl 3 rfl rfl rfl rfl (Nat.le_of_ble_eq_true rfl) ⟨Nat.zero_le _, Nat.zero_le _⟩ [3] rfl rfl rfl ([nX9 cI cZ cQ h_t (h_w 0) (h_b 0) r_l r_H r_x (h_T 0) r_C r_d r_F r_r r_n p13_t, nX8 cI cZ cQ h_w u_w, nX8 cI cZ cQ h_b p13_b, nX6 cI cZ cQ h_T (h_w 0) (h_L 0) (h_P 0) p13_T, nX4 cI cZ cQ h_L (h_w 0) p13_L, nX4 cI cZ cQ h_P (h_w 0) p13_P]) rfl dX9_nodeChild_50 ?_
        refine r_lv [] rfl ?_
        exact B53 _ _ _ _ _ _ hf
      · rw [if_pos hc31] at hf
        refine r_ald_n O 35 rfl 0 rfl dX9_nodeChild_34 ?_
        refine r_get (ref := RX9) (C := RX9) (T := TX9) (N := 13) O 38 rfl inBX9 0 5 rfl rfl rfl (by decide) flX9_41 rfl rfl dX9_nodeChild_35 ?_
        refine r_ild_n O 39 rfl 1 rfl dX9_nodeChild_38 ?_
        obtain ⟨x39, hq39, hf⟩ := qb1_some hf
        refine k_VI O 42 rfl (zX6_frontOf (l := xl X) (D := xD X) (cI := cI) (cZ := cZ) (cQ := cQ) (h_t := h_T) (r_w := (h_w 0)) (r_L := (h_L 0)) (r_P := (h_P 0)) hq39) (gV mlX9_209 mvX6_frontOf izX6) rfl rfl rfl hdX6_frontOf ⟨Nat.le_of_ble_eq_true rfl, Nat.le_of_ble_eq_true rfl⟩ rfl 3 rfl rfl rfl rfl (Nat.le_of_ble_eq_true rfl) ⟨Nat.zero_le _, Nat.zero_le _⟩ [3] rfl rfl rfl ([nX9 cI cZ cQ h_t (h_w 0) (h_b 0) r_l r_H r_x (h_T 0) r_C r_d r_F r_r r_n p13_t, nX8 cI cZ cQ h_w u_w, nX8 cI cZ cQ h_b p13_b, nX6 cI cZ cQ h_T (h_w 0) (h_L 0) (h_P 0) p13_T, nX4 cI cZ cQ h_L (h_w 0) p13_L, nX4 cI cZ cQ h_P (h_w 0) p13_P]) rfl dX9_nodeChild_39 ?_
        refine r_goto O 53 dX9_nodeChild_42 (by decide) ?_
        refine r_lv [] rfl ?_
        exact B53 _ _ _ _ _ _ hf
    · rw [if_pos hc24] at hf
      refine r_bi O 29 rfl (-7) (by decide) dX9_nodeChild_27 ?_
      obtain ⟨g0, g1, g2, g3, g4, g5⟩ := qe6 hf
      exact r_iret2 O E g0 (by rw [g1, g2, g3, g4, g5]) dX9_nodeChild_29
  · rw [if_neg hc6] at hf
    refine r_bi O 11 rfl (-2) (by decide) dX9_nodeChild_9 ?_
    obtain ⟨g0, g1, g2, g3, g4, g5⟩ := qe6 hf
    exact r_iret2 O E g0 (by rw [g1, g2, g3, g4, g5]) dX9_nodeChild_11
-- X9_nodeDepth
def rmX9_nodeDepth : Room := { frames := 41, cells := 0, slots := 0, locals := 1071 }
set_option maxHeartbeats 4000000 in
set_option maxRecDepth 100000 in
theorem zX9_nodeDepth {l : Launch} {D : va_G} {cI cZ cQ : ClassId} {h_t h_w h_b h_T h_L h_P : Nat → Nat} {r_l r_H r_x r_C r_d r_F r_r r_n : Nat} {u_w u_t u_b u_T u_L u_P : Pk} {a1 : Int32} {r0 : Int32} {v_t v_b v_T v_L v_P : Pk} (hf : fX9_nodeDepth u_w u_t u_b u_T u_L u_P a1 = some (r0, v_t, v_b, v_T, v_L, v_P)) : MI l yX9_nodeDepth wsX9_nodeDepth rmX9_nodeDepth D (TY cI cZ cQ) [.ref (h_t 0), .int a1] [nX9 cI cZ cQ h_t (h_w 0) (h_b 0) r_l r_H r_x (h_T 0) r_C r_d r_F r_r r_n u_t, nX8 cI cZ cQ h_w u_w, nX8 cI cZ cQ h_b u_b, nX6 cI cZ cQ h_T (h_w 0) (h_L 0) (h_P 0) u_T, nX4 cI cZ cQ h_L (h_w 0) u_L, nX4 cI cZ cQ h_P (h_w 0) u_P] r0 [nX9 cI cZ cQ h_t (h_w 0) (h_b 0) r_l r_H r_x (h_T 0) r_C r_d r_F r_r r_n v_t, nX8 cI cZ cQ h_w u_w, nX8 cI cZ cQ h_b v_b, nX6 cI cZ cQ h_T (h_w 0) (h_L 0) (h_P 0) v_T, nX4 cI cZ cQ h_L (h_w 0) v_L, nX4 cI cZ cQ h_P (h_w 0) v_P] := by
  refine MI.of (own := RX9) (by decide +kernel) rfl rfl (Nat.le_of_ble_eq_true rfl) (lv0 := [(0, .ref (h_t 0)), (1, .int a1)]) rfl ?_
  intro X O E
  unfold fX9_nodeDepth at hf
  refine r_ald_n O 1 rfl 0 rfl dX9_nodeDepth_0 ?_
  obtain ⟨p1_t, p1_b, p1_T, p1_L, p1_P, hq1, hf⟩ := qb5_some hf
  refine k_VV O 4 rfl (zX9_needTree (l := xl X) (D := xD X) (cI := cI) (cZ := cZ) (cQ := cQ) (h_t := h_t) (h_w := h_w) (h_b := h_b) (r_l := r_l) (r_H := r_H) (r_x := r_x) (h_T := h_T) (h_L := h_L) (h_P := h_P) (r_C := r_C) (r_d := r_d) (r_F := r_F) (r_r := r_r) (r_n := r_n) hq1) (gV mlX9_197 mvX9_needTree izX9) rfl rfl rfl hdX9_needTree ⟨Nat.le_of_ble_eq_true rfl, Nat.le_of_ble_eq_true rfl⟩ rfl 0 rfl rfl rfl rfl (Nat.le_of_ble_eq_true rfl) ⟨Nat.zero_le _, Nat.zero_le _⟩ [0, 1, 2, 3, 4, 5] rfl rfl rfl ([nX9 cI cZ cQ h_t (h_w 0) (h_b 0) r_l r_H r_x (h_T 0) r_C r_d r_F r_r r_n p1_t, nX8 cI cZ cQ h_w u_w, nX8 cI cZ cQ h_b p1_b, nX6 cI cZ cQ h_T (h_w 0) (h_L 0) (h_P 0) p1_T, nX4 cI cZ cQ h_L (h_w 0) p1_L, nX4 cI cZ cQ h_P (h_w 0) p1_P]) rfl dX9_nodeDepth_1 ?_
  refine r_ald_n O 5 rfl 0 rfl dX9_nodeDepth_4 ?_
  refine r_get (ref := RX9) (C := RX9) (T := TX9) (N := 13) O 8 rfl inBX9 0 5 rfl rfl rfl (by decide) flX9_41 rfl rfl dX9_nodeDepth_5 ?_
  refine r_ild_n O 9 rfl 1 rfl dX9_nodeDepth_8 ?_
  obtain ⟨x9, hq9, hf⟩ := qb1_some hf
  refine k_VZ O 12 rfl (zX6_hasNode (l := xl X) (D := xD X) (cI := cI) (cZ := cZ) (cQ := cQ) (h_t := h_T) (r_w := (h_w 0)) (r_L := (h_L 0)) (r_P := (h_P 0)) hq9) (gV mlX9_203 mvX6_hasNode izX6) rfl rfl rfl hdX6_hasNode ⟨Nat.le_of_ble_eq_true rfl, Nat.le_of_ble_eq_true rfl⟩ rfl 3 rfl rfl rfl rfl (Nat.le_of_ble_eq_true rfl) ⟨Nat.zero_le _, Nat.zero_le _⟩ [3] rfl rfl rfl ([nX9 cI cZ cQ h_t (h_w 0) (h_b 0) r_l r_H r_x (h_T 0) r_C r_d r_F r_r r_n p1_t, nX8 cI cZ cQ h_w u_w, nX8 cI cZ cQ h_b p1_b, nX6 cI cZ cQ h_T (h_w 0) (h_L 0) (h_P 0) p1_T, nX4 cI cZ cQ h_L (h_w 0) p1_L, nX4 cI cZ cQ h_P (h_w 0) p1_P]) rfl dX9_nodeDepth_9 (fun hz9 => ?_)
  refine r_if_eq O 15 rfl 26 dX9_nodeDepth_12 (by decide) (fun hc12 => ?_) (fun hc12 => ?_)
  · rw [if_pos hc12] at hf
    refine r_bi O 28 rfl (-7) (by decide) dX9_nodeDepth_26 ?_
    obtain ⟨g0, g1, g2, g3, g4, g5⟩ := qe6 hf
    exact r_iret2 O E g0 (by rw [g1, g2, g3, g4, g5]) dX9_nodeDepth_28
  · rw [if_neg hc12] at hf
    refine r_ald_n O 16 rfl 0 rfl dX9_nodeDepth_15 ?_
    refine r_get (ref := RX9) (C := RX9) (T := TX9) (N := 13) O 19 rfl inBX9 0 5 rfl rfl rfl (by decide) flX9_41 rfl rfl dX9_nodeDepth_16 ?_
    refine r_ild_n O 20 rfl 1 rfl dX9_nodeDepth_19 ?_
    obtain ⟨x20, hq20, hf⟩ := qb1_some hf
    refine k_VI O 23 rfl (zX6_depthOf (l := xl X) (D := xD X) (cI := cI) (cZ := cZ) (cQ := cQ) (h_t := h_T) (r_w := (h_w 0)) (r_L := (h_L 0)) (r_P := (h_P 0)) hq20) (gV mlX9_215 mvX6_depthOf izX6) rfl rfl rfl hdX6_depthOf ⟨Nat.le_of_ble_eq_true rfl, Nat.le_of_ble_eq_true rfl⟩ rfl 3 rfl rfl rfl rfl (Nat.le_of_ble_eq_true rfl) ⟨Nat.zero_le _, Nat.zero_le _⟩ [3] rfl rfl rfl ([nX9 cI cZ cQ h_t (h_w 0) (h_b 0) r_l r_H r_x (h_T 0) r_C r_d r_F r_r r_n p1_t, nX8 cI cZ cQ h_w u_w, nX8 cI cZ cQ h_b p1_b, nX6 cI cZ cQ h_T (h_w 0) (h_L 0) (h_P 0) p1_T, nX4 cI cZ cQ h_L (h_w 0) p1_L, nX4 cI cZ cQ h_P (h_w 0) p1_P]) rfl dX9_nodeDepth_20 ?_
    refine r_goto O 28 dX9_nodeDepth_23 (by decide) ?_
    obtain ⟨g0, g1, g2, g3, g4, g5⟩ := qe6 hf
    exact r_iret2 O E g0 (by rw [g1, g2, g3, g4, g5]) dX9_nodeDepth_28
-- X9_pieceCount
def rmX9_pieceCount : Room := { frames := 41, cells := 0, slots := 0, locals := 1071 }
set_option maxHeartbeats 4000000 in
set_option maxRecDepth 100000 in
theorem zX9_pieceCount {l : Launch} {D : va_G} {cI cZ cQ : ClassId} {h_t h_w h_b h_T h_L h_P : Nat → Nat} {r_l r_H r_x r_C r_d r_F r_r r_n : Nat} {u_w u_t u_b u_T u_L u_P : Pk} {r0 : Int32} {v_t v_b v_T v_L v_P : Pk} (hf : fX9_pieceCount u_w u_t u_b u_T u_L u_P = some (r0, v_t, v_b, v_T, v_L, v_P)) : MI l yX9_pieceCount wsX9_pieceCount rmX9_pieceCount D (TY cI cZ cQ) [.ref (h_t 0)] [nX9 cI cZ cQ h_t (h_w 0) (h_b 0) r_l r_H r_x (h_T 0) r_C r_d r_F r_r r_n u_t, nX8 cI cZ cQ h_w u_w, nX8 cI cZ cQ h_b u_b, nX6 cI cZ cQ h_T (h_w 0) (h_L 0) (h_P 0) u_T, nX4 cI cZ cQ h_L (h_w 0) u_L, nX4 cI cZ cQ h_P (h_w 0) u_P] r0 [nX9 cI cZ cQ h_t (h_w 0) (h_b 0) r_l r_H r_x (h_T 0) r_C r_d r_F r_r r_n v_t, nX8 cI cZ cQ h_w u_w, nX8 cI cZ cQ h_b v_b, nX6 cI cZ cQ h_T (h_w 0) (h_L 0) (h_P 0) v_T, nX4 cI cZ cQ h_L (h_w 0) v_L, nX4 cI cZ cQ h_P (h_w 0) v_P] := by
  refine MI.of (own := RX9) (by decide +kernel) rfl rfl (Nat.le_of_ble_eq_true rfl) (lv0 := [(0, .ref (h_t 0))]) rfl ?_
  intro X O E
  unfold fX9_pieceCount at hf
  refine r_ald_n O 1 rfl 0 rfl dX9_pieceCount_0 ?_
  obtain ⟨p1_t, p1_b, p1_T, p1_L, p1_P, hq1, hf⟩ := qb5_some hf
  refine k_VV O 4 rfl (zX9_needTree (l := xl X) (D := xD X) (cI := cI) (cZ := cZ) (cQ := cQ) (h_t := h_t) (h_w := h_w) (h_b := h_b) (r_l := r_l) (r_H := r_H) (r_x := r_x) (h_T := h_T) (h_L := h_L) (h_P := h_P) (r_C := r_C) (r_d := r_d) (r_F := r_F) (r_r := r_r) (r_n := r_n) hq1) (gV mlX9_197 mvX9_needTree izX9) rfl rfl rfl hdX9_needTree ⟨Nat.le_of_ble_eq_true rfl, Nat.le_of_ble_eq_true rfl⟩ rfl 0 rfl rfl rfl rfl (Nat.le_of_ble_eq_true rfl) ⟨Nat.zero_le _, Nat.zero_le _⟩ [0, 1, 2, 3, 4, 5] rfl rfl rfl ([nX9 cI cZ cQ h_t (h_w 0) (h_b 0) r_l r_H r_x (h_T 0) r_C r_d r_F r_r r_n p1_t, nX8 cI cZ cQ h_w u_w, nX8 cI cZ cQ h_b p1_b, nX6 cI cZ cQ h_T (h_w 0) (h_L 0) (h_P 0) p1_T, nX4 cI cZ cQ h_L (h_w 0) p1_L, nX4 cI cZ cQ h_P (h_w 0) p1_P]) rfl dX9_pieceCount_1 ?_
  refine r_ald_n O 5 rfl 0 rfl dX9_pieceCount_4 ?_
  refine r_get (ref := RX9) (C := RX9) (T := TX9) (N := 13) O 8 rfl inBX9 0 5 rfl rfl rfl (by decide) flX9_41 rfl rfl dX9_pieceCount_5 ?_
  obtain ⟨x8, hq8, hf⟩ := qb1_some hf
  refine k_VI O 11 rfl (zX6_pieceTotal (l := xl X) (D := xD X) (cI := cI) (cZ := cZ) (cQ := cQ) (h_t := h_T) (r_w := (h_w 0)) (r_L := (h_L 0)) (h_P := h_P) hq8) (gV mlX9_218 mvX6_pieceTotal izX6) rfl rfl rfl hdX6_pieceTotal ⟨Nat.le_of_ble_eq_true rfl, Nat.le_of_ble_eq_true rfl⟩ rfl 3 rfl rfl rfl rfl (Nat.le_of_ble_eq_true rfl) ⟨Nat.zero_le _, Nat.zero_le _⟩ [3, 5] rfl rfl rfl ([nX9 cI cZ cQ h_t (h_w 0) (h_b 0) r_l r_H r_x (h_T 0) r_C r_d r_F r_r r_n p1_t, nX8 cI cZ cQ h_w u_w, nX8 cI cZ cQ h_b p1_b, nX6 cI cZ cQ h_T (h_w 0) (h_L 0) (h_P 0) p1_T, nX4 cI cZ cQ h_L (h_w 0) p1_L, nX4 cI cZ cQ h_P (h_w 0) p1_P]) rfl dX9_pieceCount_8 ?_
  obtain ⟨g0, g1, g2, g3, g4, g5⟩ := qe6 hf
  exact r_iret2 O E g0 (by rw [g1, g2, g3, g4, g5]) dX9_pieceCount_11
-- X9_pieceWall
def rmX9_pieceWall : Room := { frames := 41, cells := 0, slots := 0, locals := 1071 }
set_option maxHeartbeats 4000000 in
set_option maxRecDepth 100000 in
theorem zX9_pieceWall {l : Launch} {D : va_G} {cI cZ cQ : ClassId} {h_t h_w h_b h_T h_L h_P : Nat → Nat} {r_l r_H r_x r_C r_d r_F r_r r_n : Nat} {u_w u_t u_b u_T u_L u_P : Pk} {a1 : Int32} {r0 : Int32} {v_t v_b v_T v_L v_P : Pk} (hf : fX9_pieceWall u_w u_t u_b u_T u_L u_P a1 = some (r0, v_t, v_b, v_T, v_L, v_P)) : MI l yX9_pieceWall wsX9_pieceWall rmX9_pieceWall D (TY cI cZ cQ) [.ref (h_t 0), .int a1] [nX9 cI cZ cQ h_t (h_w 0) (h_b 0) r_l r_H r_x (h_T 0) r_C r_d r_F r_r r_n u_t, nX8 cI cZ cQ h_w u_w, nX8 cI cZ cQ h_b u_b, nX6 cI cZ cQ h_T (h_w 0) (h_L 0) (h_P 0) u_T, nX4 cI cZ cQ h_L (h_w 0) u_L, nX4 cI cZ cQ h_P (h_w 0) u_P] r0 [nX9 cI cZ cQ h_t (h_w 0) (h_b 0) r_l r_H r_x (h_T 0) r_C r_d r_F r_r r_n v_t, nX8 cI cZ cQ h_w u_w, nX8 cI cZ cQ h_b v_b, nX6 cI cZ cQ h_T (h_w 0) (h_L 0) (h_P 0) v_T, nX4 cI cZ cQ h_L (h_w 0) v_L, nX4 cI cZ cQ h_P (h_w 0) v_P] := by
  refine MI.of (own := RX9) (by decide +kernel) rfl rfl (Nat.le_of_ble_eq_true rfl) (lv0 := [(0, .ref (h_t 0)), (1, .int a1)]) rfl ?_
  intro X O E
  unfold fX9_pieceWall at hf
  refine r_ald_n O 1 rfl 0 rfl dX9_pieceWall_0 ?_
  obtain ⟨p1_t, p1_b, p1_T, p1_L, p1_P, hq1, hf⟩ := qb5_some hf
  refine k_VV O 4 rfl (zX9_needTree (l := xl X) (D := xD X) (cI := cI) (cZ := cZ) (cQ := cQ) (h_t := h_t) (h_w := h_w) (h_b := h_b) (r_l := r_l) (r_H := r_H) (r_x := r_x) (h_T := h_T) (h_L := h_L) (h_P := h_P) (r_C := r_C) (r_d := r_d) (r_F := r_F) (r_r := r_r) (r_n := r_n) hq1) (gV mlX9_197 mvX9_needTree izX9) rfl rfl rfl hdX9_needTree ⟨Nat.le_of_ble_eq_true rfl, Nat.le_of_ble_eq_true rfl⟩ rfl 0 rfl rfl rfl rfl (Nat.le_of_ble_eq_true rfl) ⟨Nat.zero_le _, Nat.zero_le _⟩ [0, 1, 2, 3, 4, 5] rfl rfl rfl ([nX9 cI cZ cQ h_t (h_w 0) (h_b 0) r_l r_H r_x (h_T 0) r_C r_d r_F r_r r_n p1_t, nX8 cI cZ cQ h_w u_w, nX8 cI cZ cQ h_b p1_b, nX6 cI cZ cQ h_T (h_w 0) (h_L 0) (h_P 0) p1_T, nX4 cI cZ cQ h_L (h_w 0) p1_L, nX4 cI cZ cQ h_P (h_w 0) p1_P]) rfl dX9_pieceWall_1 ?_
  refine r_ald_n O 5 rfl 0 rfl dX9_pieceWall_4 ?_
  refine r_get (ref := RX9) (C := RX9) (T := TX9) (N := 13) O 8 rfl inBX9 0 5 rfl rfl rfl (by decide) flX9_41 rfl rfl dX9_pieceWall_5 ?_
  refine r_ild_n O 9 rfl 1 rfl dX9_pieceWall_8 ?_
  obtain ⟨x9, hq9, hf⟩ := qb1_some hf
  refine k_VZ O 12 rfl (zX6_hasPiece (l := xl X) (D := xD X) (cI := cI) (cZ := cZ) (cQ := cQ) (h_t := h_T) (r_w := (h_w 0)) (r_L := (h_L 0)) (h_P := h_P) hq9) (gV mlX9_221 mvX6_hasPiece izX6) rfl rfl rfl hdX6_hasPiece ⟨Nat.le_of_ble_eq_true rfl, Nat.le_of_ble_eq_true rfl⟩ rfl 3 rfl rfl rfl rfl (Nat.le_of_ble_eq_true rfl) ⟨Nat.zero_le _, Nat.zero_le _⟩ [3, 5] rfl rfl rfl ([nX9 cI cZ cQ h_t (h_w 0) (h_b 0) r_l r_H r_x (h_T 0) r_C r_d r_F r_r r_n p1_t, nX8 cI cZ cQ h_w u_w, nX8 cI cZ cQ h_b p1_b, nX6 cI cZ cQ h_T (h_w 0) (h_L 0) (h_P 0) p1_T, nX4 cI cZ cQ h_L (h_w 0) p1_L, nX4 cI cZ cQ h_P (h_w 0) p1_P]) rfl dX9_pieceWall_9 (fun hz9 => ?_)
  refine r_if_eq O 15 rfl 26 dX9_pieceWall_12 (by decide) (fun hc12 => ?_) (fun hc12 => ?_)
  · rw [if_pos hc12] at hf
    refine r_bi O 28 rfl (-6) (by decide) dX9_pieceWall_26 ?_
    obtain ⟨g0, g1, g2, g3, g4, g5⟩ := qe6 hf
    exact r_iret2 O E g0 (by rw [g1, g2, g3, g4, g5]) dX9_pieceWall_28
  · rw [if_neg hc12] at hf
    refine r_ald_n O 16 rfl 0 rfl dX9_pieceWall_15 ?_
    refine r_get (ref := RX9) (C := RX9) (T := TX9) (N := 13) O 19 rfl inBX9 0 5 rfl rfl rfl (by decide) flX9_41 rfl rfl dX9_pieceWall_16 ?_
    refine r_ild_n O 20 rfl 1 rfl dX9_pieceWall_19 ?_
    obtain ⟨x20, hq20, hf⟩ := qb1_some hf
    refine k_VI O 23 rfl (zX6_wallOfPiece (l := xl X) (D := xD X) (cI := cI) (cZ := cZ) (cQ := cQ) (h_t := h_T) (r_w := (h_w 0)) (r_L := (h_L 0)) (h_P := h_P) hq20) (gV mlX9_224 mvX6_wallOfPiece izX6) rfl rfl rfl hdX6_wallOfPiece ⟨Nat.le_of_ble_eq_true rfl, Nat.le_of_ble_eq_true rfl⟩ rfl 3 rfl rfl rfl rfl (Nat.le_of_ble_eq_true rfl) ⟨Nat.zero_le _, Nat.zero_le _⟩ [3, 5] rfl rfl rfl ([nX9 cI cZ cQ h_t (h_w 0) (h_b 0) r_l r_H r_x (h_T 0) r_C r_d r_F r_r r_n p1_t, nX8 cI cZ cQ h_w u_w, nX8 cI cZ cQ h_b p1_b, nX6 cI cZ cQ h_T (h_w 0) (h_L 0) (h_P 0) p1_T, nX4 cI cZ cQ h_L (h_w 0) p1_L, nX4 cI cZ cQ h_P (h_w 0) p1_P]) rfl dX9_pieceWall_20 ?_
    refine r_goto O 28 dX9_pieceWall_23 (by decide) ?_
    obtain ⟨g0, g1, g2, g3, g4, g5⟩ := qe6 hf
    exact r_iret2 O E g0 (by rw [g1, g2, g3, g4, g5]) dX9_pieceWall_28
-- X9_pieceNode
def rmX9_pieceNode : Room := { frames := 41, cells := 0, slots := 0, locals := 1071 }
set_option maxHeartbeats 4000000 in
set_option maxRecDepth 100000 in
theorem zX9_pieceNode {l : Launch} {D : va_G} {cI cZ cQ : ClassId} {h_t h_w h_b h_T h_L h_P : Nat → Nat} {r_l r_H r_x r_C r_d r_F r_r r_n : Nat} {u_w u_t u_b u_T u_L u_P : Pk} {a1 : Int32} {r0 : Int32} {v_t v_b v_T v_L v_P : Pk} (hf : fX9_pieceNode u_w u_t u_b u_T u_L u_P a1 = some (r0, v_t, v_b, v_T, v_L, v_P)) : MI l yX9_pieceNode wsX9_pieceNode rmX9_pieceNode D (TY cI cZ cQ) [.ref (h_t 0), .int a1] [nX9 cI cZ cQ h_t (h_w 0) (h_b 0) r_l r_H r_x (h_T 0) r_C r_d r_F r_r r_n u_t, nX8 cI cZ cQ h_w u_w, nX8 cI cZ cQ h_b u_b, nX6 cI cZ cQ h_T (h_w 0) (h_L 0) (h_P 0) u_T, nX4 cI cZ cQ h_L (h_w 0) u_L, nX4 cI cZ cQ h_P (h_w 0) u_P] r0 [nX9 cI cZ cQ h_t (h_w 0) (h_b 0) r_l r_H r_x (h_T 0) r_C r_d r_F r_r r_n v_t, nX8 cI cZ cQ h_w u_w, nX8 cI cZ cQ h_b v_b, nX6 cI cZ cQ h_T (h_w 0) (h_L 0) (h_P 0) v_T, nX4 cI cZ cQ h_L (h_w 0) v_L, nX4 cI cZ cQ h_P (h_w 0) v_P] := by
  refine MI.of (own := RX9) (by decide +kernel) rfl rfl (Nat.le_of_ble_eq_true rfl) (lv0 := [(0, .ref (h_t 0)), (1, .int a1)]) rfl ?_
  intro X O E
  unfold fX9_pieceNode at hf
  refine r_ald_n O 1 rfl 0 rfl dX9_pieceNode_0 ?_
  obtain ⟨p1_t, p1_b, p1_T, p1_L, p1_P, hq1, hf⟩ := qb5_some hf
  refine k_VV O 4 rfl (zX9_needTree (l := xl X) (D := xD X) (cI := cI) (cZ := cZ) (cQ := cQ) (h_t := h_t) (h_w := h_w) (h_b := h_b) (r_l := r_l) (r_H := r_H) (r_x := r_x) (h_T := h_T) (h_L := h_L) (h_P := h_P) (r_C := r_C) (r_d := r_d) (r_F := r_F) (r_r := r_r) (r_n := r_n) hq1) (gV mlX9_197 mvX9_needTree izX9) rfl rfl rfl hdX9_needTree ⟨Nat.le_of_ble_eq_true rfl, Nat.le_of_ble_eq_true rfl⟩ rfl 0 rfl rfl rfl rfl (Nat.le_of_ble_eq_true rfl) ⟨Nat.zero_le _, Nat.zero_le _⟩ [0, 1, 2, 3, 4, 5] rfl rfl rfl ([nX9 cI cZ cQ h_t (h_w 0) (h_b 0) r_l r_H r_x (h_T 0) r_C r_d r_F r_r r_n p1_t, nX8 cI cZ cQ h_w u_w, nX8 cI cZ cQ h_b p1_b, nX6 cI cZ cQ h_T (h_w 0) (h_L 0) (h_P 0) p1_T, nX4 cI cZ cQ h_L (h_w 0) p1_L, nX4 cI cZ cQ h_P (h_w 0) p1_P]) rfl dX9_pieceNode_1 ?_
  refine r_ald_n O 5 rfl 0 rfl dX9_pieceNode_4 ?_
  refine r_get (ref := RX9) (C := RX9) (T := TX9) (N := 13) O 8 rfl inBX9 0 5 rfl rfl rfl (by decide) flX9_41 rfl rfl dX9_pieceNode_5 ?_
  refine r_ild_n O 9 rfl 1 rfl dX9_pieceNode_8 ?_
  obtain ⟨x9, hq9, hf⟩ := qb1_some hf
  refine k_VZ O 12 rfl (zX6_hasPiece (l := xl X) (D := xD X) (cI := cI) (cZ := cZ) (cQ := cQ) (h_t := h_T) (r_w := (h_w 0)) (r_L := (h_L 0)) (h_P := h_P) hq9) (gV mlX9_221 mvX6_hasPiece izX6) rfl rfl rfl hdX6_hasPiece ⟨Nat.le_of_ble_eq_true rfl, Nat.le_of_ble_eq_true rfl⟩ rfl 3 rfl rfl rfl rfl (Nat.le_of_ble_eq_true rfl) ⟨Nat.zero_le _, Nat.zero_le _⟩ [3, 5] rfl rfl rfl ([nX9 cI cZ cQ h_t (h_w 0) (h_b 0) r_l r_H r_x (h_T 0) r_C r_d r_F r_r r_n p1_t, nX8 cI cZ cQ h_w u_w, nX8 cI cZ cQ h_b p1_b, nX6 cI cZ cQ h_T (h_w 0) (h_L 0) (h_P 0) p1_T, nX4 cI cZ cQ h_L (h_w 0) p1_L, nX4 cI cZ cQ h_P (h_w 0) p1_P]) rfl dX9_pieceNode_9 (fun hz9 => ?_)
  refine r_if_eq O 15 rfl 26 dX9_pieceNode_12 (by decide) (fun hc12 => ?_) (fun hc12 => ?_)
  · rw [if_pos hc12] at hf
    refine r_bi O 28 rfl (-6) (by decide) dX9_pieceNode_26 ?_
    obtain ⟨g0, g1, g2, g3, g4, g5⟩ := qe6 hf
    exact r_iret2 O E g0 (by rw [g1, g2, g3, g4, g5]) dX9_pieceNode_28
  · rw [if_neg hc12] at hf
    refine r_ald_n O 16 rfl 0 rfl dX9_pieceNode_15 ?_
    refine r_get (ref := RX9) (C := RX9) (T := TX9) (N := 13) O 19 rfl inBX9 0 5 rfl rfl rfl (by decide) flX9_41 rfl rfl dX9_pieceNode_16 ?_
    refine r_ild_n O 20 rfl 1 rfl dX9_pieceNode_19 ?_
    obtain ⟨x20, hq20, hf⟩ := qb1_some hf
    refine k_VI O 23 rfl (zX6_nodeOfPiece (l := xl X) (D := xD X) (cI := cI) (cZ := cZ) (cQ := cQ) (h_t := h_T) (r_w := (h_w 0)) (r_L := (h_L 0)) (r_P := (h_P 0)) hq20) (gV mlX9_227 mvX6_nodeOfPiece izX6) rfl rfl rfl hdX6_nodeOfPiece ⟨Nat.le_of_ble_eq_true rfl, Nat.le_of_ble_eq_true rfl⟩ rfl 3 rfl rfl rfl rfl (Nat.le_of_ble_eq_true rfl) ⟨Nat.zero_le _, Nat.zero_le _⟩ [3] rfl rfl rfl ([nX9 cI cZ cQ h_t (h_w 0) (h_b 0) r_l r_H r_x (h_T 0) r_C r_d r_F r_r r_n p1_t, nX8 cI cZ cQ h_w u_w, nX8 cI cZ cQ h_b p1_b, nX6 cI cZ cQ h_T (h_w 0) (h_L 0) (h_P 0) p1_T, nX4 cI cZ cQ h_L (h_w 0) p1_L, nX4 cI cZ cQ h_P (h_w 0) p1_P]) rfl dX9_pieceNode_20 ?_
    refine r_goto O 28 dX9_pieceNode_23 (by decide) ?_
    obtain ⟨g0, g1, g2, g3, g4, g5⟩ := qe6 hf
    exact r_iret2 O E g0 (by rw [g1, g2, g3, g4, g5]) dX9_pieceNode_28
-- X9_pieceBound
def rmX9_pieceBound : Room := { frames := 41, cells := 0, slots := 0, locals := 1071 }
set_option maxHeartbeats 4000000 in
set_option maxRecDepth 100000 in
theorem zX9_pieceBound {l : Launch} {D : va_G} {cI cZ cQ : ClassId} {h_t h_w h_b h_T h_L h_P : Nat → Nat} {r_l r_H r_x r_C r_d r_F r_r r_n : Nat} {u_w u_t u_b u_T u_L u_P : Pk} {a1 : Int32} {a2 : Int32} {r0 : Int32} {v_t v_b v_T v_L v_P : Pk} (hf : fX9_pieceBound u_w u_t u_b u_T u_L u_P a1 a2 = some (r0, v_t, v_b, v_T, v_L, v_P)) : MI l yX9_pieceBound wsX9_pieceBound rmX9_pieceBound D (TY cI cZ cQ) [.ref (h_t 0), .int a1, .int a2] [nX9 cI cZ cQ h_t (h_w 0) (h_b 0) r_l r_H r_x (h_T 0) r_C r_d r_F r_r r_n u_t, nX8 cI cZ cQ h_w u_w, nX8 cI cZ cQ h_b u_b, nX6 cI cZ cQ h_T (h_w 0) (h_L 0) (h_P 0) u_T, nX4 cI cZ cQ h_L (h_w 0) u_L, nX4 cI cZ cQ h_P (h_w 0) u_P] r0 [nX9 cI cZ cQ h_t (h_w 0) (h_b 0) r_l r_H r_x (h_T 0) r_C r_d r_F r_r r_n v_t, nX8 cI cZ cQ h_w u_w, nX8 cI cZ cQ h_b v_b, nX6 cI cZ cQ h_T (h_w 0) (h_L 0) (h_P 0) v_T, nX4 cI cZ cQ h_L (h_w 0) v_L, nX4 cI cZ cQ h_P (h_w 0) v_P] := by
  refine MI.of (own := RX9) (by decide +kernel) rfl rfl (Nat.le_of_ble_eq_true rfl) (lv0 := [(0, .ref (h_t 0)), (1, .int a1), (2, .int a2)]) rfl ?_
  intro X O E
  unfold fX9_pieceBound at hf
  refine r_ild_n O 1 rfl 2 rfl dX9_pieceBound_0 ?_
  refine r_ic O 2 rfl 0 (by decide) dX9_pieceBound_1 ?_
  refine r_ic O 3 rfl 3 (by decide) dX9_pieceBound_2 ?_
  obtain ⟨x3, hq3, hf⟩ := qb1_some hf
  refine k_SZ O 6 rfl (zX9_isOutside (l := xl X) (D := xD X) (cI := cI) (cZ := cZ) (cQ := cQ) hq3) (gS mlX9_90 mvX9_isOutside izX9) rfl rfl rfl hdX9_isOutside ⟨Nat.le_of_ble_eq_true rfl, Nat.le_of_ble_eq_true rfl⟩ rfl rfl (Nat.le_of_ble_eq_true rfl) ⟨Nat.zero_le _, Nat.zero_le _⟩ [] rfl rfl rfl ([nX9 cI cZ cQ h_t (h_w 0) (h_b 0) r_l r_H r_x (h_T 0) r_C r_d r_F r_r r_n u_t, nX8 cI cZ cQ h_w u_w, nX8 cI cZ cQ h_b u_b, nX6 cI cZ cQ h_T (h_w 0) (h_L 0) (h_P 0) u_T, nX4 cI cZ cQ h_L (h_w 0) u_L, nX4 cI cZ cQ h_P (h_w 0) u_P]) rfl dX9_pieceBound_3 (fun hz3 => ?_)
  refine r_if_eq O 9 rfl 12 dX9_pieceBound_6 (by decide) (fun hc6 => ?_) (fun hc6 => ?_)
  · rw [if_pos hc6] at hf
    refine r_ald_n O 13 rfl 0 rfl dX9_pieceBound_12 ?_
    obtain ⟨p13_t, p13_b, p13_T, p13_L, p13_P, hq13, hf⟩ := qb5_some hf
    refine k_VV O 16 rfl (zX9_needTree (l := xl X) (D := xD X) (cI := cI) (cZ := cZ) (cQ := cQ) (h_t := h_t) (h_w := h_w) (h_b := h_b) (r_l := r_l) (r_H := r_H) (r_x := r_x) (h_T := h_T) (h_L := h_L) (h_P := h_P) (r_C := r_C) (r_d := r_d) (r_F := r_F) (r_r := r_r) (r_n := r_n) hq13) (gV mlX9_197 mvX9_needTree izX9) rfl rfl rfl hdX9_needTree ⟨Nat.le_of_ble_eq_true rfl, Nat.le_of_ble_eq_true rfl⟩ rfl 0 rfl rfl rfl rfl (Nat.le_of_ble_eq_true rfl) ⟨Nat.zero_le _, Nat.zero_le _⟩ [0, 1, 2, 3, 4, 5] rfl rfl rfl ([nX9 cI cZ cQ h_t (h_w 0) (h_b 0) r_l r_H r_x (h_T 0) r_C r_d r_F r_r r_n p13_t, nX8 cI cZ cQ h_w u_w, nX8 cI cZ cQ h_b p13_b, nX6 cI cZ cQ h_T (h_w 0) (h_L 0) (h_P 0) p13_T, nX4 cI cZ cQ h_L (h_w 0) p13_L, nX4 cI cZ cQ h_P (h_w 0) p13_P]) rfl dX9_pieceBound_13 ?_
    refine r_ald_n O 17 rfl 0 rfl dX9_pieceBound_16 ?_
    refine r_get (ref := RX9) (C := RX9) (T := TX9) (N := 13) O 20 rfl inBX9 0 5 rfl rfl rfl (by decide) flX9_41 rfl rfl dX9_pieceBound_17 ?_
    refine r_ild_n O 21 rfl 1 rfl dX9_pieceBound_20 ?_
    obtain ⟨x21, hq21, hf⟩ := qb1_some hf
    refine k_VZ O 24 rfl (zX6_hasPiece (l := xl X) (D := xD X) (cI := cI) (cZ := cZ) (cQ := cQ) (h_t := h_T) (r_w := (h_w 0)) (r_L := (h_L 0)) (h_P := h_P) hq21) (gV mlX9_221 mvX6_hasPiece izX6) rfl rfl rfl hdX6_hasPiece ⟨Nat.le_of_ble_eq_true rfl, Nat.le_of_ble_eq_true rfl⟩ rfl 3 rfl rfl rfl rfl (Nat.le_of_ble_eq_true rfl) ⟨Nat.zero_le _, Nat.zero_le _⟩ [3, 5] rfl rfl rfl ([nX9 cI cZ cQ h_t (h_w 0) (h_b 0) r_l r_H r_x (h_T 0) r_C r_d r_F r_r r_n p13_t, nX8 cI cZ cQ h_w u_w, nX8 cI cZ cQ h_b p13_b, nX6 cI cZ cQ h_T (h_w 0) (h_L 0) (h_P 0) p13_T, nX4 cI cZ cQ h_L (h_w 0) p13_L, nX4 cI cZ cQ h_P (h_w 0) p13_P]) rfl dX9_pieceBound_21 (fun hz21 => ?_)
    refine r_if_eq O 27 rfl 39 dX9_pieceBound_24 (by decide) (fun hc24 => ?_) (fun hc24 => ?_)
    · rw [if_pos hc24] at hf
      refine r_bi O 41 rfl (-6) (by decide) dX9_pieceBound_39 ?_
      obtain ⟨g0, g1, g2, g3, g4, g5⟩ := qe6 hf
      exact r_iret2 O E g0 (by rw [g1, g2, g3, g4, g5]) dX9_pieceBound_41
    · rw [if_neg hc24] at hf
      refine r_ald_n O 28 rfl 0 rfl dX9_pieceBound_27 ?_
      refine r_get (ref := RX9) (C := RX9) (T := TX9) (N := 13) O 31 rfl inBX9 0 5 rfl rfl rfl (by decide) flX9_41 rfl rfl dX9_pieceBound_28 ?_
      refine r_ild_n O 32 rfl 1 rfl dX9_pieceBound_31 ?_
      refine r_ild_n O 33 rfl 2 rfl dX9_pieceBound_32 ?_
      obtain ⟨x33, hq33, hf⟩ := qb1_some hf
      refine k_VI O 36 rfl (zX6_boundOfPiece (l := xl X) (D := xD X) (cI := cI) (cZ := cZ) (cQ := cQ) (h_t := h_T) (r_w := (h_w 0)) (r_L := (h_L 0)) (h_P := h_P) hq33) (gV mlX9_230 mvX6_boundOfPiece izX6) rfl rfl rfl hdX6_boundOfPiece ⟨Nat.le_of_ble_eq_true rfl, Nat.le_of_ble_eq_true rfl⟩ rfl 3 rfl rfl rfl rfl (Nat.le_of_ble_eq_true rfl) ⟨Nat.zero_le _, Nat.zero_le _⟩ [3, 5] rfl rfl rfl ([nX9 cI cZ cQ h_t (h_w 0) (h_b 0) r_l r_H r_x (h_T 0) r_C r_d r_F r_r r_n p13_t, nX8 cI cZ cQ h_w u_w, nX8 cI cZ cQ h_b p13_b, nX6 cI cZ cQ h_T (h_w 0) (h_L 0) (h_P 0) p13_T, nX4 cI cZ cQ h_L (h_w 0) p13_L, nX4 cI cZ cQ h_P (h_w 0) p13_P]) rfl dX9_pieceBound_33 ?_
      refine r_goto O 41 dX9_pieceBound_36 (by decide) ?_
      obtain ⟨g0, g1, g2, g3, g4, g5⟩ := qe6 hf
      exact r_iret2 O E g0 (by rw [g1, g2, g3, g4, g5]) dX9_pieceBound_41
  · rw [if_neg hc6] at hf
    refine r_bi O 11 rfl (-2) (by decide) dX9_pieceBound_9 ?_
    obtain ⟨g0, g1, g2, g3, g4, g5⟩ := qe6 hf
    exact r_iret2 O E g0 (by rw [g1, g2, g3, g4, g5]) dX9_pieceBound_11
-- X9_pieceLength
def rmX9_pieceLength : Room := { frames := 41, cells := 0, slots := 0, locals := 1071 }
set_option maxHeartbeats 4000000 in
set_option maxRecDepth 100000 in
theorem zX9_pieceLength {l : Launch} {D : va_G} {cI cZ cQ : ClassId} {h_t h_w h_b h_T h_L h_P : Nat → Nat} {r_l r_H r_x r_C r_d r_F r_r r_n : Nat} {u_w u_t u_b u_T u_L u_P : Pk} {a1 : Int32} {r0 : UInt64} {v_t v_b v_T v_L v_P : Pk} (hf : fX9_pieceLength u_w u_t u_b u_T u_L u_P a1 = some (r0, v_t, v_b, v_T, v_L, v_P)) : MD l yX9_pieceLength wsX9_pieceLength rmX9_pieceLength D (TY cI cZ cQ) [.ref (h_t 0), .int a1] [nX9 cI cZ cQ h_t (h_w 0) (h_b 0) r_l r_H r_x (h_T 0) r_C r_d r_F r_r r_n u_t, nX8 cI cZ cQ h_w u_w, nX8 cI cZ cQ h_b u_b, nX6 cI cZ cQ h_T (h_w 0) (h_L 0) (h_P 0) u_T, nX4 cI cZ cQ h_L (h_w 0) u_L, nX4 cI cZ cQ h_P (h_w 0) u_P] r0 [nX9 cI cZ cQ h_t (h_w 0) (h_b 0) r_l r_H r_x (h_T 0) r_C r_d r_F r_r r_n v_t, nX8 cI cZ cQ h_w u_w, nX8 cI cZ cQ h_b v_b, nX6 cI cZ cQ h_T (h_w 0) (h_L 0) (h_P 0) v_T, nX4 cI cZ cQ h_L (h_w 0) v_L, nX4 cI cZ cQ h_P (h_w 0) v_P] := by
  refine MD.of (own := RX9) (by decide +kernel) rfl rfl (Nat.le_of_ble_eq_true rfl) (lv0 := [(0, .ref (h_t 0)), (1, .int a1)]) rfl ?_
  intro X O E
  unfold fX9_pieceLength at hf
  refine r_ald_n O 1 rfl 0 rfl dX9_pieceLength_0 ?_
  obtain ⟨p1_t, p1_b, p1_T, p1_L, p1_P, hq1, hf⟩ := qb5_some hf
  refine k_VV O 4 rfl (zX9_needTree (l := xl X) (D := xD X) (cI := cI) (cZ := cZ) (cQ := cQ) (h_t := h_t) (h_w := h_w) (h_b := h_b) (r_l := r_l) (r_H := r_H) (r_x := r_x) (h_T := h_T) (h_L := h_L) (h_P := h_P) (r_C := r_C) (r_d := r_d) (r_F := r_F) (r_r := r_r) (r_n := r_n) hq1) (gV mlX9_197 mvX9_needTree izX9) rfl rfl rfl hdX9_needTree ⟨Nat.le_of_ble_eq_true rfl, Nat.le_of_ble_eq_true rfl⟩ rfl 0 rfl rfl rfl rfl (Nat.le_of_ble_eq_true rfl) ⟨Nat.zero_le _, Nat.zero_le _⟩ [0, 1, 2, 3, 4, 5] rfl rfl rfl ([nX9 cI cZ cQ h_t (h_w 0) (h_b 0) r_l r_H r_x (h_T 0) r_C r_d r_F r_r r_n p1_t, nX8 cI cZ cQ h_w u_w, nX8 cI cZ cQ h_b p1_b, nX6 cI cZ cQ h_T (h_w 0) (h_L 0) (h_P 0) p1_T, nX4 cI cZ cQ h_L (h_w 0) p1_L, nX4 cI cZ cQ h_P (h_w 0) p1_P]) rfl dX9_pieceLength_1 ?_
  refine r_ald_n O 5 rfl 0 rfl dX9_pieceLength_4 ?_
  refine r_get (ref := RX9) (C := RX9) (T := TX9) (N := 13) O 8 rfl inBX9 0 5 rfl rfl rfl (by decide) flX9_41 rfl rfl dX9_pieceLength_5 ?_
  refine r_ild_n O 9 rfl 1 rfl dX9_pieceLength_8 ?_
  obtain ⟨x9, hq9, hf⟩ := qb1_some hf
  refine k_VZ O 12 rfl (zX6_hasPiece (l := xl X) (D := xD X) (cI := cI) (cZ := cZ) (cQ := cQ) (h_t := h_T) (r_w := (h_w 0)) (r_L := (h_L 0)) (h_P := h_P) hq9) (gV mlX9_221 mvX6_hasPiece izX6) rfl rfl rfl hdX6_hasPiece ⟨Nat.le_of_ble_eq_true rfl, Nat.le_of_ble_eq_true rfl⟩ rfl 3 rfl rfl rfl rfl (Nat.le_of_ble_eq_true rfl) ⟨Nat.zero_le _, Nat.zero_le _⟩ [3, 5] rfl rfl rfl ([nX9 cI cZ cQ h_t (h_w 0) (h_b 0) r_l r_H r_x (h_T 0) r_C r_d r_F r_r r_n p1_t, nX8 cI cZ cQ h_w u_w, nX8 cI cZ cQ h_b p1_b, nX6 cI cZ cQ h_T (h_w 0) (h_L 0) (h_P 0) p1_T, nX4 cI cZ cQ h_L (h_w 0) p1_L, nX4 cI cZ cQ h_P (h_w 0) p1_P]) rfl dX9_pieceLength_9 (fun hz9 => ?_)
  refine r_if_ne O 15 rfl 19 dX9_pieceLength_12 (by decide) (fun hc12 => ?_) (fun hc12 => ?_)
  · rw [if_neg hc12] at hf
    refine r_ald_n O 20 rfl 0 rfl dX9_pieceLength_19 ?_
    refine r_get (ref := RX9) (C := RX9) (T := TX9) (N := 13) O 23 rfl inBX9 0 5 rfl rfl rfl (by decide) flX9_41 rfl rfl dX9_pieceLength_20 ?_
    refine r_ild_n O 24 rfl 1 rfl dX9_pieceLength_23 ?_
    refine r_ic O 25 rfl 0 (by decide) dX9_pieceLength_24 ?_
    obtain ⟨x25, hq25, hf⟩ := qb1_some hf
    refine k_VI O 28 rfl (zX6_boundOfPiece (l := xl X) (D := xD X) (cI := cI) (cZ := cZ) (cQ := cQ) (h_t := h_T) (r_w := (h_w 0)) (r_L := (h_L 0)) (h_P := h_P) hq25) (gV mlX9_230 mvX6_boundOfPiece izX6) rfl rfl rfl hdX6_boundOfPiece ⟨Nat.le_of_ble_eq_true rfl, Nat.le_of_ble_eq_true rfl⟩ rfl 3 rfl rfl rfl rfl (Nat.le_of_ble_eq_true rfl) ⟨Nat.zero_le _, Nat.zero_le _⟩ [3, 5] rfl rfl rfl ([nX9 cI cZ cQ h_t (h_w 0) (h_b 0) r_l r_H r_x (h_T 0) r_C r_d r_F r_r r_n p1_t, nX8 cI cZ cQ h_w u_w, nX8 cI cZ cQ h_b p1_b, nX6 cI cZ cQ h_T (h_w 0) (h_L 0) (h_P 0) p1_T, nX4 cI cZ cQ h_L (h_w 0) p1_L, nX4 cI cZ cQ h_P (h_w 0) p1_P]) rfl dX9_pieceLength_25 ?_
    refine r_ald_n O 29 rfl 0 rfl dX9_pieceLength_28 ?_
    refine r_get (ref := RX9) (C := RX9) (T := TX9) (N := 13) O 32 rfl inBX9 0 5 rfl rfl rfl (by decide) flX9_41 rfl rfl dX9_pieceLength_29 ?_
    refine r_ild_n O 33 rfl 1 rfl dX9_pieceLength_32 ?_
    refine r_ic O 34 rfl 1 (by decide) dX9_pieceLength_33 ?_
    obtain ⟨x34, hq34, hf⟩ := qb1_some hf
    refine k_VI O 37 rfl (zX6_boundOfPiece (l := xl X) (D := xD X) (cI := cI) (cZ := cZ) (cQ := cQ) (h_t := h_T) (r_w := (h_w 0)) (r_L := (h_L 0)) (h_P := h_P) hq34) (gV mlX9_230 mvX6_boundOfPiece izX6) rfl rfl rfl hdX6_boundOfPiece ⟨Nat.le_of_ble_eq_true rfl, Nat.le_of_ble_eq_true rfl⟩ rfl 3 rfl rfl rfl rfl (Nat.le_of_ble_eq_true rfl) ⟨Nat.zero_le _, Nat.zero_le _⟩ [3, 5] rfl rfl rfl ([nX9 cI cZ cQ h_t (h_w 0) (h_b 0) r_l r_H r_x (h_T 0) r_C r_d r_F r_r r_n p1_t, nX8 cI cZ cQ h_w u_w, nX8 cI cZ cQ h_b p1_b, nX6 cI cZ cQ h_T (h_w 0) (h_L 0) (h_P 0) p1_T, nX4 cI cZ cQ h_L (h_w 0) p1_L, nX4 cI cZ cQ h_P (h_w 0) p1_P]) rfl dX9_pieceLength_34 ?_
    obtain ⟨x37, hq37, hf⟩ := qb1_some hf
    refine k_SD O 40 rfl (zX9_quotient (l := xl X) (D := xD X) (cI := cI) (cZ := cZ) (cQ := cQ) hq37) (gS mlX9_235 mvX9_quotient izX9) rfl rfl rfl hdX9_quotient ⟨Nat.le_of_ble_eq_true rfl, Nat.le_of_ble_eq_true rfl⟩ rfl rfl (Nat.le_of_ble_eq_true rfl) ⟨Nat.zero_le _, Nat.zero_le _⟩ [] rfl rfl rfl ([nX9 cI cZ cQ h_t (h_w 0) (h_b 0) r_l r_H r_x (h_T 0) r_C r_d r_F r_r r_n p1_t, nX8 cI cZ cQ h_w u_w, nX8 cI cZ cQ h_b p1_b, nX6 cI cZ cQ h_T (h_w 0) (h_L 0) (h_P 0) p1_T, nX4 cI cZ cQ h_L (h_w 0) p1_L, nX4 cI cZ cQ h_P (h_w 0) p1_P]) rfl dX9_pieceLength_37 ?_
    refine r_dst_n O 41 rfl rfl [(2, .double x37), (0, .ref (h_t 0)), (1, .int a1)] dX9_pieceLength_40 (by decide) rfl ?_
    refine r_ald_n O 42 rfl 1 rfl dX9_pieceLength_41 ?_
    refine r_get (ref := RX9) (C := RX9) (T := TX9) (N := 13) O 45 rfl inBX9 0 5 rfl rfl rfl (by decide) flX9_41 rfl rfl dX9_pieceLength_42 ?_
    refine r_ild_n O 46 rfl 2 rfl dX9_pieceLength_45 ?_
    refine r_ic O 47 rfl 2 (by decide) dX9_pieceLength_46 ?_
    obtain ⟨x47, hq47, hf⟩ := qb1_some hf
    refine k_VI O 50 rfl (zX6_boundOfPiece (l := xl X) (D := xD X) (cI := cI) (cZ := cZ) (cQ := cQ) (h_t := h_T) (r_w := (h_w 0)) (r_L := (h_L 0)) (h_P := h_P) hq47) (gV mlX9_230 mvX6_boundOfPiece izX6) rfl rfl rfl hdX6_boundOfPiece ⟨Nat.le_of_ble_eq_true rfl, Nat.le_of_ble_eq_true rfl⟩ rfl 3 rfl rfl rfl rfl (Nat.le_of_ble_eq_true rfl) ⟨Nat.zero_le _, Nat.zero_le _⟩ [3, 5] rfl rfl rfl ([nX9 cI cZ cQ h_t (h_w 0) (h_b 0) r_l r_H r_x (h_T 0) r_C r_d r_F r_r r_n p1_t, nX8 cI cZ cQ h_w u_w, nX8 cI cZ cQ h_b p1_b, nX6 cI cZ cQ h_T (h_w 0) (h_L 0) (h_P 0) p1_T, nX4 cI cZ cQ h_L (h_w 0) p1_L, nX4 cI cZ cQ h_P (h_w 0) p1_P]) rfl dX9_pieceLength_47 ?_
    refine r_ald_n O 51 rfl 1 rfl dX9_pieceLength_50 ?_
    refine r_get (ref := RX9) (C := RX9) (T := TX9) (N := 13) O 54 rfl inBX9 0 5 rfl rfl rfl (by decide) flX9_41 rfl rfl dX9_pieceLength_51 ?_
    refine r_ild_n O 55 rfl 2 rfl dX9_pieceLength_54 ?_
    refine r_ic O 56 rfl 3 (by decide) dX9_pieceLength_55 ?_
    obtain ⟨x56, hq56, hf⟩ := qb1_some hf
    refine k_VI O 59 rfl (zX6_boundOfPiece (l := xl X) (D := xD X) (cI := cI) (cZ := cZ) (cQ := cQ) (h_t := h_T) (r_w := (h_w 0)) (r_L := (h_L 0)) (h_P := h_P) hq56) (gV mlX9_230 mvX6_boundOfPiece izX6) rfl rfl rfl hdX6_boundOfPiece ⟨Nat.le_of_ble_eq_true rfl, Nat.le_of_ble_eq_true rfl⟩ rfl 3 rfl rfl rfl rfl (Nat.le_of_ble_eq_true rfl) ⟨Nat.zero_le _, Nat.zero_le _⟩ [3, 5] rfl rfl rfl ([nX9 cI cZ cQ h_t (h_w 0) (h_b 0) r_l r_H r_x (h_T 0) r_C r_d r_F r_r r_n p1_t, nX8 cI cZ cQ h_w u_w, nX8 cI cZ cQ h_b p1_b, nX6 cI cZ cQ h_T (h_w 0) (h_L 0) (h_P 0) p1_T, nX4 cI cZ cQ h_L (h_w 0) p1_L, nX4 cI cZ cQ h_P (h_w 0) p1_P]) rfl dX9_pieceLength_56 ?_
    obtain ⟨x59, hq59, hf⟩ := qb1_some hf
    refine k_SD O 62 rfl (zX9_quotient (l := xl X) (D := xD X) (cI := cI) (cZ := cZ) (cQ := cQ) hq59) (gS mlX9_235 mvX9_quotient izX9) rfl rfl rfl hdX9_quotient ⟨Nat.le_of_ble_eq_true rfl, Nat.le_of_ble_eq_true rfl⟩ rfl rfl (Nat.le_of_ble_eq_true rfl) ⟨Nat.zero_le _, Nat.zero_le _⟩ [] rfl rfl rfl ([nX9 cI cZ cQ h_t (h_w 0) (h_b 0) r_l r_H r_x (h_T 0) r_C r_d r_F r_r r_n p1_t, nX8 cI cZ cQ h_w u_w, nX8 cI cZ cQ h_b p1_b, nX6 cI cZ cQ h_T (h_w 0) (h_L 0) (h_P 0) p1_T, nX4 cI cZ cQ h_L (h_w 0) p1_L, nX4 cI cZ cQ h_P (h_w 0) p1_P]) rfl dX9_pieceLength_59 ?_
    refine r_dst O 64 rfl [(4, .double x59), (2, .double x37), (0, .ref (h_t 0)), (1, .int a1)] dX9_pieceLength_62 (by decide) rfl ?_
    refine r_dld O 66 rfl 0 rfl dX9_pieceLength_64 ?_
    refine r_dld_n O 67 rfl 1 rfl dX9_pieceLength_66 ?_
    obtain ⟨hnn67, hf⟩ := qnn_some hf
    refine r_dsub O 68 rfl dX9_pieceLength_67 hnn67 ?_
    refine r_ald_n O 69 rfl 2 rfl dX9_pieceLength_68 ?_
    refine r_get (ref := RX9) (C := RX9) (T := TX9) (N := 13) O 72 rfl inBX9 0 0 rfl rfl rfl (by decide) flX9_12 rfl rfl dX9_pieceLength_69 ?_
    refine r_ald_n O 73 rfl 2 rfl dX9_pieceLength_72 ?_
    refine r_get (ref := RX9) (C := RX9) (T := TX9) (N := 13) O 76 rfl inBX9 0 5 rfl rfl rfl (by decide) flX9_41 rfl rfl dX9_pieceLength_73 ?_
    refine r_ild_n O 77 rfl 3 rfl dX9_pieceLength_76 ?_
    obtain ⟨x77, hq77, hf⟩ := qb1_some hf
    refine k_VI O 80 rfl (zX6_wallOfPiece (l := xl X) (D := xD X) (cI := cI) (cZ := cZ) (cQ := cQ) (h_t := h_T) (r_w := (h_w 0)) (r_L := (h_L 0)) (h_P := h_P) hq77) (gV mlX9_224 mvX6_wallOfPiece izX6) rfl rfl rfl hdX6_wallOfPiece ⟨Nat.le_of_ble_eq_true rfl, Nat.le_of_ble_eq_true rfl⟩ rfl 3 rfl rfl rfl rfl (Nat.le_of_ble_eq_true rfl) ⟨Nat.zero_le _, Nat.zero_le _⟩ [3, 5] rfl rfl rfl ([nX9 cI cZ cQ h_t (h_w 0) (h_b 0) r_l r_H r_x (h_T 0) r_C r_d r_F r_r r_n p1_t, nX8 cI cZ cQ h_w u_w, nX8 cI cZ cQ h_b p1_b, nX6 cI cZ cQ h_T (h_w 0) (h_L 0) (h_P 0) p1_T, nX4 cI cZ cQ h_L (h_w 0) p1_L, nX4 cI cZ cQ h_P (h_w 0) p1_P]) rfl dX9_pieceLength_77 ?_
    obtain ⟨x80, hq80, hf⟩ := qb1_some hf
    refine k_VI O 83 rfl (zX8_squaredLength (l := xl X) (D := xD X) (cI := cI) (cZ := cZ) (cQ := cQ) (h_t := h_w) hq80) (gV mlX9_239 mvX8_squaredLength izX8) rfl rfl rfl hdX8_squaredLength ⟨Nat.le_of_ble_eq_true rfl, Nat.le_of_ble_eq_true rfl⟩ rfl 1 rfl rfl rfl rfl (Nat.le_of_ble_eq_true rfl) ⟨Nat.zero_le _, Nat.zero_le _⟩ [1] rfl rfl rfl ([nX9 cI cZ cQ h_t (h_w 0) (h_b 0) r_l r_H r_x (h_T 0) r_C r_d r_F r_r r_n p1_t, nX8 cI cZ cQ h_w u_w, nX8 cI cZ cQ h_b p1_b, nX6 cI cZ cQ h_T (h_w 0) (h_L 0) (h_P 0) p1_T, nX4 cI cZ cQ h_L (h_w 0) p1_L, nX4 cI cZ cQ h_P (h_w 0) p1_P]) rfl dX9_pieceLength_80 ?_
    obtain ⟨x83, hq83, hf⟩ := qb1_some hf
    refine k_SD O 86 rfl (zX9_squareRoot (l := xl X) (D := xD X) (cI := cI) (cZ := cZ) (cQ := cQ) hq83) (gS mlX9_242 mvX9_squareRoot izX9) rfl rfl rfl hdX9_squareRoot ⟨Nat.le_of_ble_eq_true rfl, Nat.le_of_ble_eq_true rfl⟩ rfl rfl (Nat.le_of_ble_eq_true rfl) ⟨Nat.zero_le _, Nat.zero_le _⟩ [] rfl rfl rfl ([nX9 cI cZ cQ h_t (h_w 0) (h_b 0) r_l r_H r_x (h_T 0) r_C r_d r_F r_r r_n p1_t, nX8 cI cZ cQ h_w u_w, nX8 cI cZ cQ h_b p1_b, nX6 cI cZ cQ h_T (h_w 0) (h_L 0) (h_P 0) p1_T, nX4 cI cZ cQ h_L (h_w 0) p1_L, nX4 cI cZ cQ h_P (h_w 0) p1_P]) rfl dX9_pieceLength_83 ?_
    obtain ⟨hnn86, hf⟩ := qnn_some hf
    refine r_dmul O 87 rfl dX9_pieceLength_86 hnn86 ?_
    obtain ⟨g0, g1, g2, g3, g4, g5⟩ := qe6 hf
    exact r_dret2 O E g0 (by rw [g1, g2, g3, g4, g5]) dX9_pieceLength_87
  · rw [if_pos hc12] at hf
    refine r_ldcd O 18 rfl (v := 13841813454723219456) clX9_233 dX9_pieceLength_15 ?_
    obtain ⟨g0, g1, g2, g3, g4, g5⟩ := qe6 hf
    exact r_dret2 O E g0 (by rw [g1, g2, g3, g4, g5]) dX9_pieceLength_18
