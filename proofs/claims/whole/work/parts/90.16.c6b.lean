-- X10_divisor
def rmX10_divisor : Room := { frames := 0, cells := 0, slots := 0, locals := 0 }
set_option maxHeartbeats 4000000 in
set_option maxRecDepth 100000 in
theorem zX10_divisor {l : Launch} {D : va_G} {cI cZ cQ : ClassId} {a1 : Int32} {a2 : Int32} {r0 : Int32} (hf : fX10_divisor a1 a2 = some r0) : MI l yX10_divisor wsX10_divisor rmX10_divisor D (TY cI cZ cQ) [.int a1, .int a2] [] r0 [] := by
  refine MI.of (own := RX10) (by decide +kernel) rfl rfl (Nat.le_of_ble_eq_true rfl) (lv0 := [(0, .int a1), (1, .int a2)]) rfl ?_
  intro X O E
  have B22 : ∀ n : Nat, ∀ (y2 : Int32) (y3 : Int32), fX10_divisor_b22 n y2 y3 = some r0 → BK X 5 0 0 22 ([]) [(2, .int y2), (3, .int y3)] [] := by
    intro n
    induction n with
    | zero => exact fun _ _ hf => qno hf
    | succ n hrec22 =>
      intro y2 y3 hf
      have hf : fX10_divisor_b22_s (fX10_divisor_b22 n) y2 y3 = some r0 := hf
      generalize fX10_divisor_b22 n = rec22 at hf hrec22
      unfold fX10_divisor_b22_s at hf
      refine r_ild_n O 23 rfl 1 rfl dX10_divisor_22 ?_
      refine r_if_eq O 26 rfl 39 dX10_divisor_23 (by decide) (fun hc23 => ?_) (fun hc23 => ?_)
      · rw [if_pos hc23] at hf
        refine r_ild_n O 40 rfl 0 rfl dX10_divisor_39 ?_
        obtain g0 := qe1 hf
        exact r_iret2 O E g0 rfl dX10_divisor_40
      · rw [if_neg hc23] at hf
        refine r_ild_n O 27 rfl 0 rfl dX10_divisor_26 ?_
        refine r_ild_n O 28 rfl 1 rfl dX10_divisor_27 ?_
        obtain ⟨hne28, hf⟩ := qnzi_some hf
        refine r_irem O 29 rfl dX10_divisor_28 hne28 ?_
        obtain ⟨x29, ex29, hf⟩ := qn_some hf
        rw [← ex29]
        refine r_ist O 31 rfl [(4, .int x29), (2, .int y2), (3, .int y3)] dX10_divisor_29 (by decide) rfl ?_
        refine r_ild_n O 32 rfl 2 rfl dX10_divisor_31 ?_
        refine r_ist_n O 33 rfl rfl [(2, .int y3), (4, .int x29), (3, .int y3)] dX10_divisor_32 (by decide) rfl ?_
        refine r_ild O 35 rfl 1 rfl dX10_divisor_33 ?_
        refine r_ist_n O 36 rfl rfl [(3, .int x29), (2, .int y3), (4, .int x29)] dX10_divisor_35 (by decide) rfl ?_
        refine r_goto O 22 dX10_divisor_36 (by decide) ?_
        refine r_lv [1, 0] rfl ?_
        exact hrec22 _ _ hf
  have B21 : ∀ (y2 : Int32) (z0 : Int32), fX10_divisor_b21 y2 z0 = some r0 → BK X 5 0 0 21 ([]) [(2, .int y2)] [.int z0] := by
    intro y2 z0 hf
    unfold fX10_divisor_b21 at hf
    refine r_ist_n O 22 rfl rfl [(3, .int z0), (2, .int y2)] dX10_divisor_21 (by decide) rfl ?_
    refine r_lv [1, 0] rfl ?_
    exact B22 FU _ _ hf
  have B10 : ∀ (y1 : Int32) (z0 : Int32), fX10_divisor_b10 y1 z0 = some r0 → BK X 5 0 0 10 ([]) [(1, .int y1)] [.int z0] := by
    intro y1 z0 hf
    unfold fX10_divisor_b10 at hf
    refine r_ist_n O 11 rfl rfl [(2, .int z0), (1, .int y1)] dX10_divisor_10 (by decide) rfl ?_
    refine r_ild_n O 12 rfl 1 rfl dX10_divisor_11 ?_
    refine r_if_ge O 15 rfl 20 dX10_divisor_12 (by decide) (fun hc12 => ?_) (fun hc12 => ?_)
    · rw [if_pos hc12] at hf
      refine r_ild_n O 21 rfl 1 rfl dX10_divisor_20 ?_
      refine r_lv [0] rfl ?_
      exact B21 _ _ hf
    · rw [if_neg hc12] at hf
      refine r_ild_n O 16 rfl 1 rfl dX10_divisor_15 ?_
      refine r_ineg O 17 rfl dX10_divisor_16 ?_
      refine r_goto O 21 dX10_divisor_17 (by decide) ?_
      refine r_lv [0] rfl ?_
      exact B21 _ _ hf
  unfold fX10_divisor at hf
  refine r_ild_n O 1 rfl 0 rfl dX10_divisor_0 ?_
  refine r_if_ge O 4 rfl 9 dX10_divisor_1 (by decide) (fun hc1 => ?_) (fun hc1 => ?_)
  · rw [if_pos hc1] at hf
    refine r_ild_n O 10 rfl 0 rfl dX10_divisor_9 ?_
    refine r_lv [1] rfl ?_
    exact B10 _ _ hf
  · rw [if_neg hc1] at hf
    refine r_ild_n O 5 rfl 0 rfl dX10_divisor_4 ?_
    refine r_ineg O 6 rfl dX10_divisor_5 ?_
    refine r_goto O 10 dX10_divisor_6 (by decide) ?_
    refine r_lv [1] rfl ?_
    exact B10 _ _ hf
-- X10_cut
def rmX10_cut : Room := { frames := 3, cells := 0, slots := 0, locals := 67 }
set_option maxHeartbeats 4000000 in
set_option maxRecDepth 100000 in
theorem zX10_cut {l : Launch} {D : va_G} {cI cZ cQ : ClassId} {h_t : Nat → Nat} {u_t : Pk} {a1 : Int32} {a2 : Int32} {v_t : Pk} (hf : fX10_cut u_t a1 a2 = some v_t) : MV l yX10_cut wsX10_cut rmX10_cut D (TY cI cZ cQ) [.ref (h_t 0), .int a1, .int a2] [nX10 cI cZ cQ h_t u_t] [nX10 cI cZ cQ h_t v_t] := by
  refine MV.of (own := RX10) (by decide +kernel) rfl rfl (Nat.le_of_ble_eq_true rfl) (lv0 := [(0, .ref (h_t 0)), (1, .int a1), (2, .int a2)]) rfl ?_
  intro X O E
  have B57 : ∀ (w_t : Pk) (y5 : Int32) (z1 : Int32), fX10_cut_b57 w_t y5 z1 = some v_t → BK X 6 0 0 57 ([nX10 cI cZ cQ h_t w_t]) [(5, .int y5)] [.int z1, .ref (h_t 0)] := by
    intro w_t y5 z1 hf
    unfold fX10_cut_b57 at hf
    refine r_ild O 59 rfl 0 rfl dX10_cut_57 ?_
    obtain ⟨hne59, hf⟩ := qnzi_some hf
    refine r_idiv O 60 rfl dX10_cut_59 hne59 ?_
    obtain ⟨p60_t, ep60_t, hf⟩ := qn_some hf
    refine r_put (ref := RX10) (C := RX10) (T := TX10) (N := 70) O 63 rfl inBX10 tyX10 tyX10_ok nmX10 0 19 rfl rfl rfl (by decide) flX10_203 rfl rfl rfl rfl (Nat.le_of_ble_eq_true rfl) ([nX10 cI cZ cQ h_t p60_t]) (by rw [ep60_t]; rfl) dX10_cut_60 ?_
    obtain g0 := qe1 hf
    exact r_vret2 O E (by rw [g0]) dX10_cut_63
  have B37 : ∀ (w_t : Pk) (y4 : Int32) (y5 : Int32) (z1 : Int32), fX10_cut_b37 w_t y4 y5 z1 = some v_t → BK X 6 0 0 37 ([nX10 cI cZ cQ h_t w_t]) [(0, .ref (h_t 0)), (4, .int y4), (5, .int y5)] [.int z1, .ref (h_t 0)] := by
    intro w_t y4 y5 z1 hf
    unfold fX10_cut_b37 at hf
    refine r_ild O 39 rfl 2 rfl dX10_cut_37 ?_
    obtain ⟨hne39, hf⟩ := qnzi_some hf
    refine r_idiv O 40 rfl dX10_cut_39 hne39 ?_
    obtain ⟨p40_t, ep40_t, hf⟩ := qn_some hf
    refine r_put (ref := RX10) (C := RX10) (T := TX10) (N := 70) O 43 rfl inBX10 tyX10 tyX10_ok nmX10 0 18 rfl rfl rfl (by decide) flX10_200 rfl rfl rfl rfl (Nat.le_of_ble_eq_true rfl) ([nX10 cI cZ cQ h_t p40_t]) (by rw [ep40_t]; rfl) dX10_cut_40 ?_
    refine r_ald_n O 44 rfl 0 rfl dX10_cut_43 ?_
    refine r_ild O 46 rfl 1 rfl dX10_cut_44 ?_
    refine r_if_ge O 49 rfl 55 dX10_cut_46 (by decide) (fun hc46 => ?_) (fun hc46 => ?_)
    · rw [if_pos hc46] at hf
      refine r_ild O 57 rfl 1 rfl dX10_cut_55 ?_
      refine r_lv [2] rfl ?_
      exact B57 _ _ _ hf
    · rw [if_neg hc46] at hf
      refine r_ild O 51 rfl 1 rfl dX10_cut_49 ?_
      refine r_ineg O 52 rfl dX10_cut_51 ?_
      refine r_goto O 57 dX10_cut_52 (by decide) ?_
      refine r_lv [2] rfl ?_
      exact B57 _ _ _ hf
  unfold fX10_cut at hf
  refine r_ald_n O 1 rfl 0 rfl dX10_cut_0 ?_
  refine r_ild_n O 2 rfl 1 rfl dX10_cut_1 ?_
  refine r_ild_n O 3 rfl 2 rfl dX10_cut_2 ?_
  obtain ⟨x3, hq3, hf⟩ := qb1_some hf
  refine k_VI O 6 rfl (zX10_startSide (l := xl X) (D := xD X) (cI := cI) (cZ := cZ) (cQ := cQ) (h_t := h_t) hq3) (gV mlX10_187 mvX10_startSide izX10) rfl rfl rfl hdX10_startSide ⟨Nat.le_of_ble_eq_true rfl, Nat.le_of_ble_eq_true rfl⟩ rfl 0 rfl rfl rfl rfl (Nat.le_of_ble_eq_true rfl) ⟨Nat.zero_le _, Nat.zero_le _⟩ [0] rfl rfl rfl ([nX10 cI cZ cQ h_t u_t]) rfl dX10_cut_3 ?_
  refine r_ist_n O 7 rfl rfl [(3, .int x3), (0, .ref (h_t 0)), (1, .int a1), (2, .int a2)] dX10_cut_6 (by decide) rfl ?_
  refine r_ild_n O 8 rfl 0 rfl dX10_cut_7 ?_
  refine r_ald_n O 9 rfl 1 rfl dX10_cut_8 ?_
  refine r_ild_n O 10 rfl 2 rfl dX10_cut_9 ?_
  refine r_ild_n O 11 rfl 3 rfl dX10_cut_10 ?_
  obtain ⟨x11, hq11, hf⟩ := qb1_some hf
  refine k_VI O 14 rfl (zX10_endSide (l := xl X) (D := xD X) (cI := cI) (cZ := cZ) (cQ := cQ) (h_t := h_t) hq11) (gV mlX10_190 mvX10_endSide izX10) rfl rfl rfl hdX10_endSide ⟨Nat.le_of_ble_eq_true rfl, Nat.le_of_ble_eq_true rfl⟩ rfl 0 rfl rfl rfl rfl (Nat.le_of_ble_eq_true rfl) ⟨Nat.zero_le _, Nat.zero_le _⟩ [0] rfl rfl rfl ([nX10 cI cZ cQ h_t u_t]) rfl dX10_cut_11 ?_
  refine r_isub O 15 rfl dX10_cut_14 ?_
  obtain ⟨x15, ex15, hf⟩ := qn_some hf
  rw [← ex15]
  refine r_ist O 17 rfl [(4, .int x15), (3, .int x3), (0, .ref (h_t 0)), (1, .int a1), (2, .int a2)] dX10_cut_15 (by decide) rfl ?_
  refine r_ild_n O 18 rfl 1 rfl dX10_cut_17 ?_
  refine r_ild O 20 rfl 0 rfl dX10_cut_18 ?_
  obtain ⟨x20, hq20, hf⟩ := qb1_some hf
  refine k_SI O 23 rfl (zX10_divisor (l := xl X) (D := xD X) (cI := cI) (cZ := cZ) (cQ := cQ) hq20) (gS mlX10_197 mvX10_divisor izX10) rfl rfl rfl hdX10_divisor ⟨Nat.le_of_ble_eq_true rfl, Nat.le_of_ble_eq_true rfl⟩ rfl rfl (Nat.le_of_ble_eq_true rfl) ⟨Nat.zero_le _, Nat.zero_le _⟩ [] rfl rfl rfl ([nX10 cI cZ cQ h_t u_t]) rfl dX10_cut_20 ?_
  refine r_ist O 25 rfl [(5, .int x20), (4, .int x15), (3, .int x3), (0, .ref (h_t 0)), (1, .int a1), (2, .int a2)] dX10_cut_23 (by decide) rfl ?_
  refine r_ald_n O 26 rfl 3 rfl dX10_cut_25 ?_
  refine r_ild O 28 rfl 1 rfl dX10_cut_26 ?_
  refine r_if_ge O 31 rfl 36 dX10_cut_28 (by decide) (fun hc28 => ?_) (fun hc28 => ?_)
  · rw [if_pos hc28] at hf
    refine r_ild_n O 37 rfl 2 rfl dX10_cut_36 ?_
    refine r_lv [3, 1, 0] rfl ?_
    exact B37 _ _ _ _ hf
  · rw [if_neg hc28] at hf
    refine r_ild_n O 32 rfl 2 rfl dX10_cut_31 ?_
    refine r_ineg O 33 rfl dX10_cut_32 ?_
    refine r_goto O 37 dX10_cut_33 (by decide) ?_
    refine r_lv [3, 1, 0] rfl ?_
    exact B37 _ _ _ _ hf
-- X10_addPiece
def rmX10_addPiece : Room := { frames := 0, cells := 0, slots := 0, locals := 0 }
set_option maxHeartbeats 4000000 in
set_option maxRecDepth 100000 in
theorem zX10_addPiece {l : Launch} {D : va_G} {cI cZ cQ : ClassId} {h_t : Nat → Nat} {u_t : Pk} {a1 : Int32} {a2 : Int32} {a3 : Int32} {a4 : Int32} {a5 : Int32} {a6 : Int32} {v_t : Pk} (hf : fX10_addPiece u_t a1 a2 a3 a4 a5 a6 = some v_t) : MV l yX10_addPiece wsX10_addPiece rmX10_addPiece D (TY cI cZ cQ) [.ref (h_t 0), .int a1, .int a2, .int a3, .int a4, .int a5, .int a6] [nX10 cI cZ cQ h_t u_t] [nX10 cI cZ cQ h_t v_t] := by
  refine MV.of (own := RX10) (by decide +kernel) rfl rfl (Nat.le_of_ble_eq_true rfl) (lv0 := [(0, .ref (h_t 0)), (1, .int a1), (2, .int a2), (3, .int a3), (4, .int a4), (5, .int a5), (6, .int a6)]) rfl ?_
  intro X O E
  have B124 : ∀ (w_t : Pk) (y1 : Int32), fX10_addPiece_b124 w_t y1 = some v_t → BK X 7 0 0 124 ([nX10 cI cZ cQ h_t w_t]) [(0, .ref (h_t 0)), (1, .int y1)] [] := by
    intro w_t y1 hf
    unfold fX10_addPiece_b124 at hf
    refine r_ald_n O 125 rfl 0 rfl dX10_addPiece_124 ?_
    refine r_get (ref := RX10) (C := RX10) (T := TX10) (N := 70) O 128 rfl inBX10 0 24 rfl rfl rfl (by decide) flX10_59 rfl rfl dX10_addPiece_125 ?_
    refine r_ild_n O 129 rfl 1 rfl dX10_addPiece_128 ?_
    refine r_ald_n O 130 rfl 0 rfl dX10_addPiece_129 ?_
    refine r_get (ref := RX10) (C := RX10) (T := TX10) (N := 70) O 133 rfl inBX10 0 31 rfl rfl rfl (by decide) flX10_206 rfl rfl dX10_addPiece_130 ?_
    obtain ⟨hin133, hf⟩ := qst_some hf
    obtain ⟨p133_t, ep133_t, hf⟩ := qn_some hf
    refine r_iast O 134 rfl 0 10 rfl rfl hin133 ([nX10 cI cZ cQ h_t p133_t]) (by rw [ep133_t]; rfl) dX10_addPiece_133 ?_
    refine r_ald_n O 135 rfl 0 rfl dX10_addPiece_134 ?_
    refine r_dup O 136 rfl dX10_addPiece_135 rfl ?_
    refine r_get (ref := RX10) (C := RX10) (T := TX10) (N := 70) O 139 rfl inBX10 0 31 rfl rfl rfl (by decide) flX10_206 rfl rfl dX10_addPiece_136 ?_
    refine r_ic O 140 rfl 1 (by decide) dX10_addPiece_139 ?_
    refine r_iadd O 141 rfl dX10_addPiece_140 ?_
    obtain ⟨p141_t, ep141_t, hf⟩ := qn_some hf
    refine r_put (ref := RX10) (C := RX10) (T := TX10) (N := 70) O 144 rfl inBX10 tyX10 tyX10_ok nmX10 0 31 rfl rfl rfl (by decide) flX10_206 rfl rfl rfl rfl (Nat.le_of_ble_eq_true rfl) ([nX10 cI cZ cQ h_t p141_t]) (by rw [ep141_t]; rfl) dX10_addPiece_141 ?_
    obtain g0 := qe1 hf
    exact r_vret2 O E (by rw [g0]) dX10_addPiece_144
  unfold fX10_addPiece at hf
  refine r_ald_n O 1 rfl 0 rfl dX10_addPiece_0 ?_
  refine r_get (ref := RX10) (C := RX10) (T := TX10) (N := 70) O 4 rfl inBX10 0 27 rfl rfl rfl (by decide) flX10_62 rfl rfl dX10_addPiece_1 ?_
  refine r_ald_n O 5 rfl 0 rfl dX10_addPiece_4 ?_
  refine r_get (ref := RX10) (C := RX10) (T := TX10) (N := 70) O 8 rfl inBX10 0 31 rfl rfl rfl (by decide) flX10_206 rfl rfl dX10_addPiece_5 ?_
  refine r_ild_n O 9 rfl 2 rfl dX10_addPiece_8 ?_
  obtain ⟨hin9, hf⟩ := qst_some hf
  obtain ⟨p9_t, ep9_t, hf⟩ := qn_some hf
  refine r_iast O 10 rfl 0 11 rfl rfl hin9 ([nX10 cI cZ cQ h_t p9_t]) (by rw [ep9_t]; rfl) dX10_addPiece_9 ?_
  refine r_ald_n O 11 rfl 0 rfl dX10_addPiece_10 ?_
  refine r_get (ref := RX10) (C := RX10) (T := TX10) (N := 70) O 14 rfl inBX10 0 28 rfl rfl rfl (by decide) flX10_65 rfl rfl dX10_addPiece_11 ?_
  refine r_ald_n O 15 rfl 0 rfl dX10_addPiece_14 ?_
  refine r_get (ref := RX10) (C := RX10) (T := TX10) (N := 70) O 18 rfl inBX10 0 31 rfl rfl rfl (by decide) flX10_206 rfl rfl dX10_addPiece_15 ?_
  refine r_ild_n O 19 rfl 1 rfl dX10_addPiece_18 ?_
  obtain ⟨hin19, hf⟩ := qst_some hf
  obtain ⟨p19_t, ep19_t, hf⟩ := qn_some hf
  refine r_iast O 20 rfl 0 12 rfl rfl hin19 ([nX10 cI cZ cQ h_t p19_t]) (by rw [ep19_t]; rfl) dX10_addPiece_19 ?_
  refine r_ald_n O 21 rfl 0 rfl dX10_addPiece_20 ?_
  refine r_get (ref := RX10) (C := RX10) (T := TX10) (N := 70) O 24 rfl inBX10 0 29 rfl rfl rfl (by decide) flX10_68 rfl rfl dX10_addPiece_21 ?_
  refine r_ic O 25 rfl 4 (by decide) dX10_addPiece_24 ?_
  refine r_ald_n O 26 rfl 0 rfl dX10_addPiece_25 ?_
  refine r_get (ref := RX10) (C := RX10) (T := TX10) (N := 70) O 29 rfl inBX10 0 31 rfl rfl rfl (by decide) flX10_206 rfl rfl dX10_addPiece_26 ?_
  refine r_imul O 30 rfl dX10_addPiece_29 ?_
  refine r_ild_n O 31 rfl 3 rfl dX10_addPiece_30 ?_
  obtain ⟨hin31, hf⟩ := qst_some hf
  obtain ⟨p31_t, ep31_t, hf⟩ := qn_some hf
  refine r_iast O 32 rfl 0 13 rfl rfl hin31 ([nX10 cI cZ cQ h_t p31_t]) (by rw [ep31_t]; rfl) dX10_addPiece_31 ?_
  refine r_ald_n O 33 rfl 0 rfl dX10_addPiece_32 ?_
  refine r_get (ref := RX10) (C := RX10) (T := TX10) (N := 70) O 36 rfl inBX10 0 29 rfl rfl rfl (by decide) flX10_68 rfl rfl dX10_addPiece_33 ?_
  refine r_ic O 37 rfl 4 (by decide) dX10_addPiece_36 ?_
  refine r_ald_n O 38 rfl 0 rfl dX10_addPiece_37 ?_
  refine r_get (ref := RX10) (C := RX10) (T := TX10) (N := 70) O 41 rfl inBX10 0 31 rfl rfl rfl (by decide) flX10_206 rfl rfl dX10_addPiece_38 ?_
  refine r_imul O 42 rfl dX10_addPiece_41 ?_
  refine r_ic O 43 rfl 1 (by decide) dX10_addPiece_42 ?_
  refine r_iadd O 44 rfl dX10_addPiece_43 ?_
  refine r_ild O 46 rfl 4 rfl dX10_addPiece_44 ?_
  obtain ⟨hin46, hf⟩ := qst_some hf
  obtain ⟨p46_t, ep46_t, hf⟩ := qn_some hf
  refine r_iast O 47 rfl 0 13 rfl rfl hin46 ([nX10 cI cZ cQ h_t p46_t]) (by rw [ep46_t]; rfl) dX10_addPiece_46 ?_
  refine r_ald_n O 48 rfl 0 rfl dX10_addPiece_47 ?_
  refine r_get (ref := RX10) (C := RX10) (T := TX10) (N := 70) O 51 rfl inBX10 0 29 rfl rfl rfl (by decide) flX10_68 rfl rfl dX10_addPiece_48 ?_
  refine r_ic O 52 rfl 4 (by decide) dX10_addPiece_51 ?_
  refine r_ald_n O 53 rfl 0 rfl dX10_addPiece_52 ?_
  refine r_get (ref := RX10) (C := RX10) (T := TX10) (N := 70) O 56 rfl inBX10 0 31 rfl rfl rfl (by decide) flX10_206 rfl rfl dX10_addPiece_53 ?_
  refine r_imul O 57 rfl dX10_addPiece_56 ?_
  refine r_ic O 58 rfl 2 (by decide) dX10_addPiece_57 ?_
  refine r_iadd O 59 rfl dX10_addPiece_58 ?_
  refine r_ild O 61 rfl 5 rfl dX10_addPiece_59 ?_
  obtain ⟨hin61, hf⟩ := qst_some hf
  obtain ⟨p61_t, ep61_t, hf⟩ := qn_some hf
  refine r_iast O 62 rfl 0 13 rfl rfl hin61 ([nX10 cI cZ cQ h_t p61_t]) (by rw [ep61_t]; rfl) dX10_addPiece_61 ?_
  refine r_ald_n O 63 rfl 0 rfl dX10_addPiece_62 ?_
  refine r_get (ref := RX10) (C := RX10) (T := TX10) (N := 70) O 66 rfl inBX10 0 29 rfl rfl rfl (by decide) flX10_68 rfl rfl dX10_addPiece_63 ?_
  refine r_ic O 67 rfl 4 (by decide) dX10_addPiece_66 ?_
  refine r_ald_n O 68 rfl 0 rfl dX10_addPiece_67 ?_
  refine r_get (ref := RX10) (C := RX10) (T := TX10) (N := 70) O 71 rfl inBX10 0 31 rfl rfl rfl (by decide) flX10_206 rfl rfl dX10_addPiece_68 ?_
  refine r_imul O 72 rfl dX10_addPiece_71 ?_
  refine r_ic O 73 rfl 3 (by decide) dX10_addPiece_72 ?_
  refine r_iadd O 74 rfl dX10_addPiece_73 ?_
  refine r_ild O 76 rfl 6 rfl dX10_addPiece_74 ?_
  obtain ⟨hin76, hf⟩ := qst_some hf
  obtain ⟨p76_t, ep76_t, hf⟩ := qn_some hf
  refine r_iast O 77 rfl 0 13 rfl rfl hin76 ([nX10 cI cZ cQ h_t p76_t]) (by rw [ep76_t]; rfl) dX10_addPiece_76 ?_
  refine r_ald_n O 78 rfl 0 rfl dX10_addPiece_77 ?_
  refine r_get (ref := RX10) (C := RX10) (T := TX10) (N := 70) O 81 rfl inBX10 0 30 rfl rfl rfl (by decide) flX10_71 rfl rfl dX10_addPiece_78 ?_
  refine r_ald_n O 82 rfl 0 rfl dX10_addPiece_81 ?_
  refine r_get (ref := RX10) (C := RX10) (T := TX10) (N := 70) O 85 rfl inBX10 0 31 rfl rfl rfl (by decide) flX10_206 rfl rfl dX10_addPiece_82 ?_
  refine r_ic O 86 rfl (-1) (by decide) dX10_addPiece_85 ?_
  obtain ⟨hin86, hf⟩ := qst_some hf
  obtain ⟨p86_t, ep86_t, hf⟩ := qn_some hf
  refine r_iast O 87 rfl 0 14 rfl rfl hin86 ([nX10 cI cZ cQ h_t p86_t]) (by rw [ep86_t]; rfl) dX10_addPiece_86 ?_
  refine r_ald_n O 88 rfl 0 rfl dX10_addPiece_87 ?_
  refine r_get (ref := RX10) (C := RX10) (T := TX10) (N := 70) O 91 rfl inBX10 0 23 rfl rfl rfl (by decide) flX10_56 rfl rfl dX10_addPiece_88 ?_
  refine r_ild_n O 92 rfl 1 rfl dX10_addPiece_91 ?_
  obtain ⟨x92, ex92, hin92, hf⟩ := qld_some hf
  refine r_iald O 93 rfl 0 9 rfl rfl hin92 dX10_addPiece_92 ?_
  rw [← ex92]
  refine r_if_ge O 96 rfl 109 dX10_addPiece_93 (by decide) (fun hc93 => ?_) (fun hc93 => ?_)
  · rw [if_pos hc93] at hf
    refine r_ald_n O 110 rfl 0 rfl dX10_addPiece_109 ?_
    refine r_get (ref := RX10) (C := RX10) (T := TX10) (N := 70) O 113 rfl inBX10 0 30 rfl rfl rfl (by decide) flX10_71 rfl rfl dX10_addPiece_110 ?_
    refine r_ald_n O 114 rfl 0 rfl dX10_addPiece_113 ?_
    refine r_get (ref := RX10) (C := RX10) (T := TX10) (N := 70) O 117 rfl inBX10 0 24 rfl rfl rfl (by decide) flX10_59 rfl rfl dX10_addPiece_114 ?_
    refine r_ild_n O 118 rfl 1 rfl dX10_addPiece_117 ?_
    obtain ⟨x118, ex118, hin118, hf⟩ := qld_some hf
    refine r_iald O 119 rfl 0 10 rfl rfl hin118 dX10_addPiece_118 ?_
    rw [← ex118]
    refine r_ald_n O 120 rfl 0 rfl dX10_addPiece_119 ?_
    refine r_get (ref := RX10) (C := RX10) (T := TX10) (N := 70) O 123 rfl inBX10 0 31 rfl rfl rfl (by decide) flX10_206 rfl rfl dX10_addPiece_120 ?_
    obtain ⟨hin123, hf⟩ := qst_some hf
    obtain ⟨p123_t, ep123_t, hf⟩ := qn_some hf
    refine r_iast O 124 rfl 0 14 rfl rfl hin123 ([nX10 cI cZ cQ h_t p123_t]) (by rw [ep123_t]; rfl) dX10_addPiece_123 ?_
    refine r_lv [0, 1] rfl ?_
    exact B124 _ _ hf
  · rw [if_neg hc93] at hf
    refine r_ald_n O 97 rfl 0 rfl dX10_addPiece_96 ?_
    refine r_get (ref := RX10) (C := RX10) (T := TX10) (N := 70) O 100 rfl inBX10 0 23 rfl rfl rfl (by decide) flX10_56 rfl rfl dX10_addPiece_97 ?_
    refine r_ild_n O 101 rfl 1 rfl dX10_addPiece_100 ?_
    refine r_ald_n O 102 rfl 0 rfl dX10_addPiece_101 ?_
    refine r_get (ref := RX10) (C := RX10) (T := TX10) (N := 70) O 105 rfl inBX10 0 31 rfl rfl rfl (by decide) flX10_206 rfl rfl dX10_addPiece_102 ?_
    obtain ⟨hin105, hf⟩ := qst_some hf
    obtain ⟨p105_t, ep105_t, hf⟩ := qn_some hf
    refine r_iast O 106 rfl 0 9 rfl rfl hin105 ([nX10 cI cZ cQ h_t p105_t]) (by rw [ep105_t]; rfl) dX10_addPiece_105 ?_
    refine r_goto O 124 dX10_addPiece_106 (by decide) ?_
    refine r_lv [0, 1] rfl ?_
    exact B124 _ _ hf
-- X10_addNode
def rmX10_addNode : Room := { frames := 0, cells := 0, slots := 0, locals := 0 }
set_option maxHeartbeats 4000000 in
set_option maxRecDepth 100000 in
theorem zX10_addNode {l : Launch} {D : va_G} {cI cZ cQ : ClassId} {h_t : Nat → Nat} {u_t : Pk} {a1 : Int32} {a2 : Int32} {a3 : Int32} {r0 : Int32} {v_t : Pk} (hf : fX10_addNode u_t a1 a2 a3 = some (r0, v_t)) : MI l yX10_addNode wsX10_addNode rmX10_addNode D (TY cI cZ cQ) [.ref (h_t 0), .int a1, .int a2, .int a3] [nX10 cI cZ cQ h_t u_t] r0 [nX10 cI cZ cQ h_t v_t] := by
  refine MI.of (own := RX10) (by decide +kernel) rfl rfl (Nat.le_of_ble_eq_true rfl) (lv0 := [(0, .ref (h_t 0)), (1, .int a1), (2, .int a2), (3, .int a3)]) rfl ?_
  intro X O E
  have B82 : ∀ (w_t : Pk), fX10_addNode_b82 w_t = some (r0, v_t) → BK X 4 0 0 82 ([nX10 cI cZ cQ h_t w_t]) [(0, .ref (h_t 0))] [] := by
    intro w_t hf
    unfold fX10_addNode_b82 at hf
    refine r_ald_n O 83 rfl 0 rfl dX10_addNode_82 ?_
    refine r_dup O 84 rfl dX10_addNode_83 rfl ?_
    refine r_get (ref := RX10) (C := RX10) (T := TX10) (N := 70) O 87 rfl inBX10 0 25 rfl rfl rfl (by decide) flX10_209 rfl rfl dX10_addNode_84 ?_
    refine r_ic O 88 rfl 1 (by decide) dX10_addNode_87 ?_
    refine r_iadd O 89 rfl dX10_addNode_88 ?_
    obtain ⟨p89_t, ep89_t, hf⟩ := qn_some hf
    refine r_put (ref := RX10) (C := RX10) (T := TX10) (N := 70) O 92 rfl inBX10 tyX10 tyX10_ok nmX10 0 25 rfl rfl rfl (by decide) flX10_209 rfl rfl rfl rfl (Nat.le_of_ble_eq_true rfl) ([nX10 cI cZ cQ h_t p89_t]) (by rw [ep89_t]; rfl) dX10_addNode_89 ?_
    refine r_ald_n O 93 rfl 0 rfl dX10_addNode_92 ?_
    refine r_get (ref := RX10) (C := RX10) (T := TX10) (N := 70) O 96 rfl inBX10 0 25 rfl rfl rfl (by decide) flX10_209 rfl rfl dX10_addNode_93 ?_
    refine r_ic O 97 rfl 1 (by decide) dX10_addNode_96 ?_
    refine r_isub O 98 rfl dX10_addNode_97 ?_
    obtain ⟨g0, g1⟩ := qe2 hf
    exact r_iret2 O E g0 (by rw [g1]) dX10_addNode_98
  unfold fX10_addNode at hf
  refine r_ald_n O 1 rfl 0 rfl dX10_addNode_0 ?_
  refine r_get (ref := RX10) (C := RX10) (T := TX10) (N := 70) O 4 rfl inBX10 0 20 rfl rfl rfl (by decide) flX10_47 rfl rfl dX10_addNode_1 ?_
  refine r_ald_n O 5 rfl 0 rfl dX10_addNode_4 ?_
  refine r_get (ref := RX10) (C := RX10) (T := TX10) (N := 70) O 8 rfl inBX10 0 25 rfl rfl rfl (by decide) flX10_209 rfl rfl dX10_addNode_5 ?_
  refine r_ild_n O 9 rfl 1 rfl dX10_addNode_8 ?_
  obtain ⟨hin9, hf⟩ := qst_some hf
  obtain ⟨p9_t, ep9_t, hf⟩ := qn_some hf
  refine r_iast O 10 rfl 0 6 rfl rfl hin9 ([nX10 cI cZ cQ h_t p9_t]) (by rw [ep9_t]; rfl) dX10_addNode_9 ?_
  refine r_ald_n O 11 rfl 0 rfl dX10_addNode_10 ?_
  refine r_get (ref := RX10) (C := RX10) (T := TX10) (N := 70) O 14 rfl inBX10 0 21 rfl rfl rfl (by decide) flX10_50 rfl rfl dX10_addNode_11 ?_
  refine r_ald_n O 15 rfl 0 rfl dX10_addNode_14 ?_
  refine r_get (ref := RX10) (C := RX10) (T := TX10) (N := 70) O 18 rfl inBX10 0 25 rfl rfl rfl (by decide) flX10_209 rfl rfl dX10_addNode_15 ?_
  refine r_ic O 19 rfl (-1) (by decide) dX10_addNode_18 ?_
  obtain ⟨hin19, hf⟩ := qst_some hf
  obtain ⟨p19_t, ep19_t, hf⟩ := qn_some hf
  refine r_iast O 20 rfl 0 7 rfl rfl hin19 ([nX10 cI cZ cQ h_t p19_t]) (by rw [ep19_t]; rfl) dX10_addNode_19 ?_
  refine r_ald_n O 21 rfl 0 rfl dX10_addNode_20 ?_
  refine r_get (ref := RX10) (C := RX10) (T := TX10) (N := 70) O 24 rfl inBX10 0 22 rfl rfl rfl (by decide) flX10_53 rfl rfl dX10_addNode_21 ?_
  refine r_ald_n O 25 rfl 0 rfl dX10_addNode_24 ?_
  refine r_get (ref := RX10) (C := RX10) (T := TX10) (N := 70) O 28 rfl inBX10 0 25 rfl rfl rfl (by decide) flX10_209 rfl rfl dX10_addNode_25 ?_
  refine r_ic O 29 rfl (-1) (by decide) dX10_addNode_28 ?_
  obtain ⟨hin29, hf⟩ := qst_some hf
  obtain ⟨p29_t, ep29_t, hf⟩ := qn_some hf
  refine r_iast O 30 rfl 0 8 rfl rfl hin29 ([nX10 cI cZ cQ h_t p29_t]) (by rw [ep29_t]; rfl) dX10_addNode_29 ?_
  refine r_ald_n O 31 rfl 0 rfl dX10_addNode_30 ?_
  refine r_get (ref := RX10) (C := RX10) (T := TX10) (N := 70) O 34 rfl inBX10 0 23 rfl rfl rfl (by decide) flX10_56 rfl rfl dX10_addNode_31 ?_
  refine r_ald_n O 35 rfl 0 rfl dX10_addNode_34 ?_
  refine r_get (ref := RX10) (C := RX10) (T := TX10) (N := 70) O 38 rfl inBX10 0 25 rfl rfl rfl (by decide) flX10_209 rfl rfl dX10_addNode_35 ?_
  refine r_ic O 39 rfl (-1) (by decide) dX10_addNode_38 ?_
  obtain ⟨hin39, hf⟩ := qst_some hf
  obtain ⟨p39_t, ep39_t, hf⟩ := qn_some hf
  refine r_iast O 40 rfl 0 9 rfl rfl hin39 ([nX10 cI cZ cQ h_t p39_t]) (by rw [ep39_t]; rfl) dX10_addNode_39 ?_
  refine r_ild_n O 41 rfl 2 rfl dX10_addNode_40 ?_
  refine r_if_ge O 44 rfl 55 dX10_addNode_41 (by decide) (fun hc41 => ?_) (fun hc41 => ?_)
  · rw [if_pos hc41] at hf
    refine r_ild_n O 56 rfl 3 rfl dX10_addNode_55 ?_
    refine r_if_ne O 59 rfl 72 dX10_addNode_56 (by decide) (fun hc56 => ?_) (fun hc56 => ?_)
    · rw [if_neg hc56] at hf
      refine r_ald_n O 73 rfl 0 rfl dX10_addNode_72 ?_
      refine r_get (ref := RX10) (C := RX10) (T := TX10) (N := 70) O 76 rfl inBX10 0 22 rfl rfl rfl (by decide) flX10_53 rfl rfl dX10_addNode_73 ?_
      refine r_ild_n O 77 rfl 2 rfl dX10_addNode_76 ?_
      refine r_ald_n O 78 rfl 0 rfl dX10_addNode_77 ?_
      refine r_get (ref := RX10) (C := RX10) (T := TX10) (N := 70) O 81 rfl inBX10 0 25 rfl rfl rfl (by decide) flX10_209 rfl rfl dX10_addNode_78 ?_
      obtain ⟨hin81, hf⟩ := qst_some hf
      obtain ⟨p81_t, ep81_t, hf⟩ := qn_some hf
      refine r_iast O 82 rfl 0 8 rfl rfl hin81 ([nX10 cI cZ cQ h_t p81_t]) (by rw [ep81_t]; rfl) dX10_addNode_81 ?_
      refine r_lv [0] rfl ?_
      exact B82 _ hf
    · rw [if_pos hc56] at hf
      refine r_ald_n O 60 rfl 0 rfl dX10_addNode_59 ?_
      refine r_get (ref := RX10) (C := RX10) (T := TX10) (N := 70) O 63 rfl inBX10 0 21 rfl rfl rfl (by decide) flX10_50 rfl rfl dX10_addNode_60 ?_
      refine r_ild_n O 64 rfl 2 rfl dX10_addNode_63 ?_
      refine r_ald_n O 65 rfl 0 rfl dX10_addNode_64 ?_
      refine r_get (ref := RX10) (C := RX10) (T := TX10) (N := 70) O 68 rfl inBX10 0 25 rfl rfl rfl (by decide) flX10_209 rfl rfl dX10_addNode_65 ?_
      obtain ⟨hin68, hf⟩ := qst_some hf
      obtain ⟨p68_t, ep68_t, hf⟩ := qn_some hf
      refine r_iast O 69 rfl 0 7 rfl rfl hin68 ([nX10 cI cZ cQ h_t p68_t]) (by rw [ep68_t]; rfl) dX10_addNode_68 ?_
      refine r_goto O 82 dX10_addNode_69 (by decide) ?_
      refine r_lv [0] rfl ?_
      exact B82 _ hf
  · rw [if_neg hc41] at hf
    refine r_ald_n O 45 rfl 0 rfl dX10_addNode_44 ?_
    refine r_ald_n O 46 rfl 0 rfl dX10_addNode_45 ?_
    refine r_get (ref := RX10) (C := RX10) (T := TX10) (N := 70) O 49 rfl inBX10 0 25 rfl rfl rfl (by decide) flX10_209 rfl rfl dX10_addNode_46 ?_
    obtain ⟨p49_t, ep49_t, hf⟩ := qn_some hf
    refine r_put (ref := RX10) (C := RX10) (T := TX10) (N := 70) O 52 rfl inBX10 tyX10 tyX10_ok nmX10 0 26 rfl rfl rfl (by decide) flX10_212 rfl rfl rfl rfl (Nat.le_of_ble_eq_true rfl) ([nX10 cI cZ cQ h_t p49_t]) (by rw [ep49_t]; rfl) dX10_addNode_49 ?_
    refine r_goto O 82 dX10_addNode_52 (by decide) ?_
    refine r_lv [0] rfl ?_
    exact B82 _ hf
-- X10_price
def rmX10_price : Room := { frames := 5, cells := 0, slots := 0, locals := 125 }
set_option maxHeartbeats 4000000 in
set_option maxRecDepth 100000 in
theorem zX10_price {l : Launch} {D : va_G} {cI cZ cQ : ClassId} {h_t : Nat → Nat} {u_t : Pk} {a1 : Int32} {a2 : Int32} {a3 : Int32} {a4 : Int32} {r0 : Int32} (hf : fX10_price u_t a1 a2 a3 a4 = some r0) : MI l yX10_price wsX10_price rmX10_price D (TY cI cZ cQ) [.ref (h_t 0), .int a1, .int a2, .int a3, .int a4] [nX10 cI cZ cQ h_t u_t] r0 [nX10 cI cZ cQ h_t u_t] := by
  refine MI.of (own := RX10) (by decide +kernel) rfl rfl (Nat.le_of_ble_eq_true rfl) (lv0 := [(0, .ref (h_t 0)), (1, .int a1), (2, .int a2), (3, .int a3), (4, .int a4)]) rfl ?_
  intro X O E
  have B125 : ∀ (rec9 : Int32 → Int32 → Int32 → Int32 → Int32 → Int32 → Int32 → Option (Int32)), (∀ (y1 : Int32) (y2 : Int32) (y3 : Int32) (y4 : Int32) (y5 : Int32) (y6 : Int32) (y7 : Int32), rec9 y1 y2 y3 y4 y5 y6 y7 = some r0 → BK X 10 0 0 9 ([nX10 cI cZ cQ h_t u_t]) [(0, .ref (h_t 0)), (1, .int y1), (2, .int y2), (3, .int y3), (4, .int y4), (5, .int y5), (6, .int y6), (7, .int y7)] []) → ∀ (y1 : Int32) (y2 : Int32) (y3 : Int32) (y4 : Int32) (y5 : Int32) (y6 : Int32) (y7 : Int32), fX10_price_b125 rec9 u_t y1 y2 y3 y4 y5 y6 y7 = some r0 → BK X 10 0 0 125 ([nX10 cI cZ cQ h_t u_t]) [(0, .ref (h_t 0)), (1, .int y1), (2, .int y2), (3, .int y3), (4, .int y4), (5, .int y5), (6, .int y6), (7, .int y7)] [] := by
    intro rec9 hrec9 y1 y2 y3 y4 y5 y6 y7 hf
    unfold fX10_price_b125 at hf
    obtain ⟨x125, ex125, hf⟩ := qn_some hf
    refine r_iinc O 128 rfl x125 7 rfl (by rw [ex125]; rfl) [(7, .int x125), (0, .ref (h_t 0)), (1, .int y1), (2, .int y2), (3, .int y3), (4, .int y4), (5, .int y5), (6, .int y6)] dX10_price_125 (by decide) rfl ?_
    refine r_goto O 9 dX10_price_128 (by decide) ?_
    refine r_lv [1, 2, 3, 4, 5, 6, 7, 0] rfl ?_
    exact hrec9 _ _ _ _ _ _ _ hf
  have B122 : ∀ (rec9 : Int32 → Int32 → Int32 → Int32 → Int32 → Int32 → Int32 → Option (Int32)), (∀ (y1 : Int32) (y2 : Int32) (y3 : Int32) (y4 : Int32) (y5 : Int32) (y6 : Int32) (y7 : Int32), rec9 y1 y2 y3 y4 y5 y6 y7 = some r0 → BK X 10 0 0 9 ([nX10 cI cZ cQ h_t u_t]) [(0, .ref (h_t 0)), (1, .int y1), (2, .int y2), (3, .int y3), (4, .int y4), (5, .int y5), (6, .int y6), (7, .int y7)] []) → ∀ (y1 : Int32) (y2 : Int32) (y3 : Int32) (y4 : Int32) (y5 : Int32) (y7 : Int32) (z0 : Int32) (z1 : Int32), fX10_price_b122 rec9 u_t y1 y2 y3 y4 y5 y7 z0 z1 = some r0 → BK X 10 0 0 122 ([nX10 cI cZ cQ h_t u_t]) [(0, .ref (h_t 0)), (1, .int y1), (2, .int y2), (3, .int y3), (4, .int y4), (5, .int y5), (7, .int y7)] [.int z1, .int z0] := by
    intro rec9 hrec9 y1 y2 y3 y4 y5 y7 z0 z1 hf
    unfold fX10_price_b122 at hf
    refine r_iadd O 123 rfl dX10_price_122 ?_
    obtain ⟨x123, ex123, hf⟩ := qn_some hf
    rw [← ex123]
    refine r_ist O 125 rfl [(6, .int x123), (0, .ref (h_t 0)), (1, .int y1), (2, .int y2), (3, .int y3), (4, .int y4), (5, .int y5), (7, .int y7)] dX10_price_123 (by decide) rfl ?_
    refine r_lv [1, 2, 3, 4, 5, 6, 0, 7] rfl ?_
    exact B125 rec9 hrec9 _ _ _ _ _ _ _ hf
  have B96 : ∀ (rec9 : Int32 → Int32 → Int32 → Int32 → Int32 → Int32 → Int32 → Option (Int32)), (∀ (y1 : Int32) (y2 : Int32) (y3 : Int32) (y4 : Int32) (y5 : Int32) (y6 : Int32) (y7 : Int32), rec9 y1 y2 y3 y4 y5 y6 y7 = some r0 → BK X 10 0 0 9 ([nX10 cI cZ cQ h_t u_t]) [(0, .ref (h_t 0)), (1, .int y1), (2, .int y2), (3, .int y3), (4, .int y4), (5, .int y5), (6, .int y6), (7, .int y7)] []) → ∀ (y1 : Int32) (y2 : Int32) (y3 : Int32) (y4 : Int32) (y6 : Int32) (y7 : Int32) (y9 : Int32) (z0 : Int32) (z1 : Int32), fX10_price_b96 rec9 u_t y1 y2 y3 y4 y6 y7 y9 z0 z1 = some r0 → BK X 10 0 0 96 ([nX10 cI cZ cQ h_t u_t]) [(0, .ref (h_t 0)), (1, .int y1), (2, .int y2), (3, .int y3), (4, .int y4), (6, .int y6), (7, .int y7), (9, .int y9)] [.int z1, .int z0] := by
    intro rec9 hrec9 y1 y2 y3 y4 y6 y7 y9 z0 z1 hf
    unfold fX10_price_b96 at hf
    refine r_iadd O 97 rfl dX10_price_96 ?_
    obtain ⟨x97, ex97, hf⟩ := qn_some hf
    rw [← ex97]
    refine r_ist O 99 rfl [(5, .int x97), (0, .ref (h_t 0)), (1, .int y1), (2, .int y2), (3, .int y3), (4, .int y4), (6, .int y6), (7, .int y7), (9, .int y9)] dX10_price_97 (by decide) rfl ?_
    refine r_ild O 101 rfl 6 rfl dX10_price_99 ?_
    refine r_ild O 103 rfl 8 rfl dX10_price_101 ?_
    refine r_ic O 104 rfl 1 (by decide) dX10_price_103 ?_
    refine r_icmp_ne O 107 rfl 111 dX10_price_104 (by decide) (fun hc104 => ?_) (fun hc104 => ?_)
    · rw [if_neg hc104] at hf
      refine r_ild O 113 rfl 8 rfl dX10_price_111 ?_
      refine r_ic O 114 rfl (-1) (by decide) dX10_price_113 ?_
      refine r_icmp_ne O 117 rfl 121 dX10_price_114 (by decide) (fun hc114 => ?_) (fun hc114 => ?_)
      · rw [if_neg hc114] at hf
        refine r_ic O 122 rfl 0 (by decide) dX10_price_121 ?_
        refine r_lv [1, 2, 3, 4, 5, 0, 7] rfl ?_
        exact B122 rec9 hrec9 _ _ _ _ _ _ _ _ hf
      · rw [if_pos hc114] at hf
        refine r_ic O 118 rfl (-1) (by decide) dX10_price_117 ?_
        refine r_goto O 122 dX10_price_118 (by decide) ?_
        refine r_lv [1, 2, 3, 4, 5, 0, 7] rfl ?_
        exact B122 rec9 hrec9 _ _ _ _ _ _ _ _ hf
    · rw [if_pos hc104] at hf
      refine r_ic O 108 rfl 1 (by decide) dX10_price_107 ?_
      refine r_goto O 122 dX10_price_108 (by decide) ?_
      refine r_lv [1, 2, 3, 4, 5, 0, 7] rfl ?_
      exact B122 rec9 hrec9 _ _ _ _ _ _ _ _ hf
  have B9 : ∀ n : Nat, ∀ (y1 : Int32) (y2 : Int32) (y3 : Int32) (y4 : Int32) (y5 : Int32) (y6 : Int32) (y7 : Int32), fX10_price_b9 u_t n y1 y2 y3 y4 y5 y6 y7 = some r0 → BK X 10 0 0 9 ([nX10 cI cZ cQ h_t u_t]) [(0, .ref (h_t 0)), (1, .int y1), (2, .int y2), (3, .int y3), (4, .int y4), (5, .int y5), (6, .int y6), (7, .int y7)] [] := by
    intro n
    induction n with
    | zero => exact fun _ _ _ _ _ _ _ hf => qno hf
    | succ n hrec9 =>
      intro y1 y2 y3 y4 y5 y6 y7 hf
      have hf : fX10_price_b9_s (fX10_price_b9 u_t n) u_t y1 y2 y3 y4 y5 y6 y7 = some r0 := hf
      generalize fX10_price_b9 u_t n = rec9 at hf hrec9
      unfold fX10_price_b9_s at hf
      refine r_ild O 11 rfl 7 rfl dX10_price_9 ?_
      refine r_bi O 13 rfl 12 (by decide) dX10_price_11 ?_
      refine r_icmp_ge O 16 rfl 131 dX10_price_13 (by decide) (fun hc13 => ?_) (fun hc13 => ?_)
      · rw [if_pos hc13] at hf
        refine r_ild_n O 132 rfl 3 rfl dX10_price_131 ?_
        refine r_ild O 134 rfl 5 rfl dX10_price_132 ?_
        refine r_imul O 135 rfl dX10_price_134 ?_
        refine r_ild O 137 rfl 4 rfl dX10_price_135 ?_
        refine r_ild O 139 rfl 6 rfl dX10_price_137 ?_
        refine r_if_ge O 142 rfl 148 dX10_price_139 (by decide) (fun hc139 => ?_) (fun hc139 => ?_)
        · rw [if_pos hc139] at hf
          refine r_ild O 150 rfl 6 rfl dX10_price_148 ?_
          refine r_imul O 151 rfl dX10_price_150 ?_
          refine r_iadd O 152 rfl dX10_price_151 ?_
          obtain g0 := qe1 hf
          exact r_iret2 O E g0 rfl dX10_price_152
        · rw [if_neg hc139] at hf
          refine r_ild O 144 rfl 6 rfl dX10_price_142 ?_
          refine r_ineg O 145 rfl dX10_price_144 ?_
          refine r_goto O 150 dX10_price_145 (by decide) ?_
          refine r_imul O 151 rfl dX10_price_150 ?_
          refine r_iadd O 152 rfl dX10_price_151 ?_
          obtain g0 := qe1 hf
          exact r_iret2 O E g0 rfl dX10_price_152
      · rw [if_neg hc13] at hf
        refine r_bi O 18 rfl 60 (by decide) dX10_price_16 ?_
        refine r_ild_n O 19 rfl 1 rfl dX10_price_18 ?_
        refine r_imul O 20 rfl dX10_price_19 ?_
        refine r_ic O 21 rfl 5 (by decide) dX10_price_20 ?_
        refine r_ild O 23 rfl 7 rfl dX10_price_21 ?_
        refine r_imul O 24 rfl dX10_price_23 ?_
        refine r_iadd O 25 rfl dX10_price_24 ?_
        obtain ⟨x25, ex25, hf⟩ := qn_some hf
        rw [← ex25]
        refine r_ist O 27 rfl [(8, .int x25), (0, .ref (h_t 0)), (1, .int y1), (2, .int y2), (3, .int y3), (4, .int y4), (5, .int y5), (6, .int y6), (7, .int y7)] dX10_price_25 (by decide) rfl ?_
        refine r_ald_n O 28 rfl 1 rfl dX10_price_27 ?_
        refine r_get (ref := RX10) (C := RX10) (T := TX10) (N := 70) O 31 rfl inBX10 0 32 rfl rfl rfl (by decide) flX10_74 rfl rfl dX10_price_28 ?_
        refine r_ild O 33 rfl 0 rfl dX10_price_31 ?_
        obtain ⟨x33, ex33, hin33, hf⟩ := qld_some hf
        refine r_iald O 34 rfl 0 15 rfl rfl hin33 dX10_price_33 ?_
        rw [← ex33]
        refine r_ic O 35 rfl 1 (by decide) dX10_price_34 ?_
        refine r_icmp_ne O 38 rfl 125 dX10_price_35 (by decide) (fun hc35 => ?_) (fun hc35 => ?_)
        · rw [if_neg hc35] at hf
          refine r_lv [1, 2, 3, 4, 5, 6, 7, 8] rfl ?_
          exact B125 rec9 hrec9 _ _ _ _ _ _ _ hf
        · rw [if_pos hc35] at hf
          refine r_ald_n O 39 rfl 1 rfl dX10_price_38 ?_
          refine r_ild_n O 40 rfl 3 rfl dX10_price_39 ?_
          refine r_ild O 42 rfl 8 rfl dX10_price_40 ?_
          refine r_ald_n O 43 rfl 1 rfl dX10_price_42 ?_
          refine r_get (ref := RX10) (C := RX10) (T := TX10) (N := 70) O 46 rfl inBX10 0 32 rfl rfl rfl (by decide) flX10_74 rfl rfl dX10_price_43 ?_
          refine r_ild O 48 rfl 0 rfl dX10_price_46 ?_
          refine r_ic O 49 rfl 1 (by decide) dX10_price_48 ?_
          refine r_iadd O 50 rfl dX10_price_49 ?_
          obtain ⟨x50, ex50, hin50, hf⟩ := qld_some hf
          refine r_iald O 51 rfl 0 15 rfl rfl hin50 dX10_price_50 ?_
          rw [← ex50]
          refine r_ald_n O 52 rfl 1 rfl dX10_price_51 ?_
          refine r_get (ref := RX10) (C := RX10) (T := TX10) (N := 70) O 55 rfl inBX10 0 32 rfl rfl rfl (by decide) flX10_74 rfl rfl dX10_price_52 ?_
          refine r_ild O 57 rfl 0 rfl dX10_price_55 ?_
          refine r_ic O 58 rfl 2 (by decide) dX10_price_57 ?_
          refine r_iadd O 59 rfl dX10_price_58 ?_
          obtain ⟨x59, ex59, hin59, hf⟩ := qld_some hf
          refine r_iald O 60 rfl 0 15 rfl rfl hin59 dX10_price_59 ?_
          rw [← ex59]
          refine r_ald_n O 61 rfl 1 rfl dX10_price_60 ?_
          refine r_get (ref := RX10) (C := RX10) (T := TX10) (N := 70) O 64 rfl inBX10 0 32 rfl rfl rfl (by decide) flX10_74 rfl rfl dX10_price_61 ?_
          refine r_ild O 66 rfl 0 rfl dX10_price_64 ?_
          refine r_ic O 67 rfl 3 (by decide) dX10_price_66 ?_
          refine r_iadd O 68 rfl dX10_price_67 ?_
          obtain ⟨x68, ex68, hin68, hf⟩ := qld_some hf
          refine r_iald O 69 rfl 0 15 rfl rfl hin68 dX10_price_68 ?_
          rw [← ex68]
          refine r_ald_n O 70 rfl 1 rfl dX10_price_69 ?_
          refine r_get (ref := RX10) (C := RX10) (T := TX10) (N := 70) O 73 rfl inBX10 0 32 rfl rfl rfl (by decide) flX10_74 rfl rfl dX10_price_70 ?_
          refine r_ild O 75 rfl 0 rfl dX10_price_73 ?_
          refine r_ic O 76 rfl 4 (by decide) dX10_price_75 ?_
          refine r_iadd O 77 rfl dX10_price_76 ?_
          obtain ⟨x77, ex77, hin77, hf⟩ := qld_some hf
          refine r_iald O 78 rfl 0 15 rfl rfl hin77 dX10_price_77 ?_
          rw [← ex77]
          obtain ⟨x78, hq78, hf⟩ := qb1_some hf
          refine k_VI O 81 rfl (zX10_relation (l := xl X) (D := xD X) (cI := cI) (cZ := cZ) (cQ := cQ) (h_t := h_t) hq78) (gV mlX10_215 mvX10_relation izX10) rfl rfl rfl hdX10_relation ⟨Nat.le_of_ble_eq_true rfl, Nat.le_of_ble_eq_true rfl⟩ rfl 0 rfl rfl rfl rfl (Nat.le_of_ble_eq_true rfl) ⟨Nat.zero_le _, Nat.zero_le _⟩ [0] rfl rfl rfl ([nX10 cI cZ cQ h_t u_t]) rfl dX10_price_78 ?_
          refine r_ist O 83 rfl [(9, .int x78), (8, .int x25), (0, .ref (h_t 0)), (1, .int y1), (2, .int y2), (3, .int y3), (4, .int y4), (5, .int y5), (6, .int y6), (7, .int y7)] dX10_price_81 (by decide) rfl ?_
          refine r_ild O 85 rfl 7 rfl dX10_price_83 ?_
          refine r_ild O 87 rfl 0 rfl dX10_price_85 ?_
          refine r_ic O 88 rfl 2 (by decide) dX10_price_87 ?_
          refine r_icmp_ne O 91 rfl 95 dX10_price_88 (by decide) (fun hc88 => ?_) (fun hc88 => ?_)
          · rw [if_neg hc88] at hf
            refine r_ic O 96 rfl 0 (by decide) dX10_price_95 ?_
            refine r_lv [2, 3, 4, 5, 6, 8, 9, 0] rfl ?_
            exact B96 rec9 hrec9 _ _ _ _ _ _ _ _ _ hf
          · rw [if_pos hc88] at hf
            refine r_ic O 92 rfl 1 (by decide) dX10_price_91 ?_
            refine r_goto O 96 dX10_price_92 (by decide) ?_
            refine r_lv [2, 3, 4, 5, 6, 8, 9, 0] rfl ?_
            exact B96 rec9 hrec9 _ _ _ _ _ _ _ _ _ hf
  unfold fX10_price at hf
  refine r_ic O 1 rfl 0 (by decide) dX10_price_0 ?_
  refine r_ist O 3 rfl [(5, .int 0), (0, .ref (h_t 0)), (1, .int a1), (2, .int a2), (3, .int a3), (4, .int a4)] dX10_price_1 (by decide) rfl ?_
  refine r_ic O 4 rfl 0 (by decide) dX10_price_3 ?_
  refine r_ist O 6 rfl [(6, .int 0), (5, .int 0), (0, .ref (h_t 0)), (1, .int a1), (2, .int a2), (3, .int a3), (4, .int a4)] dX10_price_4 (by decide) rfl ?_
  refine r_ic O 7 rfl 0 (by decide) dX10_price_6 ?_
  refine r_ist O 9 rfl [(7, .int 0), (6, .int 0), (5, .int 0), (0, .ref (h_t 0)), (1, .int a1), (2, .int a2), (3, .int a3), (4, .int a4)] dX10_price_7 (by decide) rfl ?_
  refine r_lv [3, 4, 5, 6, 7, 2, 1, 0] rfl ?_
  exact B9 FU _ _ _ _ _ _ _ hf
-- X10_put
def rmX10_put : Room := { frames := 0, cells := 0, slots := 0, locals := 0 }
set_option maxHeartbeats 4000000 in
set_option maxRecDepth 100000 in
theorem zX10_put {l : Launch} {D : va_G} {cI cZ cQ : ClassId} {h_t : Nat → Nat} {u_t : Pk} {a1 : Int32} {a2 : Int32} {a3 : Int32} {a4 : Int32} {a5 : Int32} {a6 : Int32} {v_t : Pk} (hf : fX10_put u_t a1 a2 a3 a4 a5 a6 = some v_t) : MV l yX10_put wsX10_put rmX10_put D (TY cI cZ cQ) [.ref (h_t 0), .int a1, .int a2, .int a3, .int a4, .int a5, .int a6] [nX10 cI cZ cQ h_t u_t] [nX10 cI cZ cQ h_t v_t] := by
  refine MV.of (own := RX10) (by decide +kernel) rfl rfl (Nat.le_of_ble_eq_true rfl) (lv0 := [(0, .ref (h_t 0)), (1, .int a1), (2, .int a2), (3, .int a3), (4, .int a4), (5, .int a5), (6, .int a6)]) rfl ?_
  intro X O E
  unfold fX10_put at hf
  refine r_bi O 2 rfl 60 (by decide) dX10_put_0 ?_
  refine r_ild_n O 3 rfl 1 rfl dX10_put_2 ?_
  refine r_imul O 4 rfl dX10_put_3 ?_
  refine r_ic O 5 rfl 5 (by decide) dX10_put_4 ?_
  refine r_ild_n O 6 rfl 2 rfl dX10_put_5 ?_
  refine r_imul O 7 rfl dX10_put_6 ?_
  refine r_iadd O 8 rfl dX10_put_7 ?_
  obtain ⟨x8, ex8, hf⟩ := qn_some hf
  rw [← ex8]
  refine r_ist O 10 rfl [(7, .int x8), (0, .ref (h_t 0)), (1, .int a1), (2, .int a2), (3, .int a3), (4, .int a4), (5, .int a5), (6, .int a6)] dX10_put_8 (by decide) rfl ?_
  refine r_ald_n O 11 rfl 1 rfl dX10_put_10 ?_
  refine r_get (ref := RX10) (C := RX10) (T := TX10) (N := 70) O 14 rfl inBX10 0 32 rfl rfl rfl (by decide) flX10_74 rfl rfl dX10_put_11 ?_
  refine r_ild O 16 rfl 0 rfl dX10_put_14 ?_
  refine r_ic O 17 rfl 1 (by decide) dX10_put_16 ?_
  obtain ⟨hin17, hf⟩ := qst_some hf
  obtain ⟨p17_t, ep17_t, hf⟩ := qn_some hf
  refine r_iast O 18 rfl 0 15 rfl rfl hin17 ([nX10 cI cZ cQ h_t p17_t]) (by rw [ep17_t]; rfl) dX10_put_17 ?_
  refine r_ald_n O 19 rfl 1 rfl dX10_put_18 ?_
  refine r_get (ref := RX10) (C := RX10) (T := TX10) (N := 70) O 22 rfl inBX10 0 32 rfl rfl rfl (by decide) flX10_74 rfl rfl dX10_put_19 ?_
  refine r_ild O 24 rfl 0 rfl dX10_put_22 ?_
  refine r_ic O 25 rfl 1 (by decide) dX10_put_24 ?_
  refine r_iadd O 26 rfl dX10_put_25 ?_
  refine r_ild_n O 27 rfl 4 rfl dX10_put_26 ?_
  obtain ⟨hin27, hf⟩ := qst_some hf
  obtain ⟨p27_t, ep27_t, hf⟩ := qn_some hf
  refine r_iast O 28 rfl 0 15 rfl rfl hin27 ([nX10 cI cZ cQ h_t p27_t]) (by rw [ep27_t]; rfl) dX10_put_27 ?_
  refine r_ald_n O 29 rfl 1 rfl dX10_put_28 ?_
  refine r_get (ref := RX10) (C := RX10) (T := TX10) (N := 70) O 32 rfl inBX10 0 32 rfl rfl rfl (by decide) flX10_74 rfl rfl dX10_put_29 ?_
  refine r_ild O 34 rfl 0 rfl dX10_put_32 ?_
  refine r_ic O 35 rfl 2 (by decide) dX10_put_34 ?_
  refine r_iadd O 36 rfl dX10_put_35 ?_
  refine r_ild O 38 rfl 5 rfl dX10_put_36 ?_
  obtain ⟨hin38, hf⟩ := qst_some hf
  obtain ⟨p38_t, ep38_t, hf⟩ := qn_some hf
  refine r_iast O 39 rfl 0 15 rfl rfl hin38 ([nX10 cI cZ cQ h_t p38_t]) (by rw [ep38_t]; rfl) dX10_put_38 ?_
  refine r_ald_n O 40 rfl 1 rfl dX10_put_39 ?_
  refine r_get (ref := RX10) (C := RX10) (T := TX10) (N := 70) O 43 rfl inBX10 0 32 rfl rfl rfl (by decide) flX10_74 rfl rfl dX10_put_40 ?_
  refine r_ild O 45 rfl 0 rfl dX10_put_43 ?_
  refine r_ic O 46 rfl 3 (by decide) dX10_put_45 ?_
  refine r_iadd O 47 rfl dX10_put_46 ?_
  refine r_ild O 49 rfl 6 rfl dX10_put_47 ?_
  obtain ⟨hin49, hf⟩ := qst_some hf
  obtain ⟨p49_t, ep49_t, hf⟩ := qn_some hf
  refine r_iast O 50 rfl 0 15 rfl rfl hin49 ([nX10 cI cZ cQ h_t p49_t]) (by rw [ep49_t]; rfl) dX10_put_49 ?_
  refine r_ald_n O 51 rfl 1 rfl dX10_put_50 ?_
  refine r_get (ref := RX10) (C := RX10) (T := TX10) (N := 70) O 54 rfl inBX10 0 32 rfl rfl rfl (by decide) flX10_74 rfl rfl dX10_put_51 ?_
  refine r_ild O 56 rfl 0 rfl dX10_put_54 ?_
  refine r_ic O 57 rfl 4 (by decide) dX10_put_56 ?_
  refine r_iadd O 58 rfl dX10_put_57 ?_
  refine r_ild O 60 rfl 7 rfl dX10_put_58 ?_
  obtain ⟨hin60, hf⟩ := qst_some hf
  obtain ⟨p60_t, ep60_t, hf⟩ := qn_some hf
  refine r_iast O 61 rfl 0 15 rfl rfl hin60 ([nX10 cI cZ cQ h_t p60_t]) (by rw [ep60_t]; rfl) dX10_put_60 ?_
  obtain g0 := qe1 hf
  exact r_vret2 O E (by rw [g0]) dX10_put_61
-- X10_partition
def rmX10_partition : Room := { frames := 5, cells := 0, slots := 0, locals := 125 }
set_option maxHeartbeats 4000000 in
set_option maxRecDepth 100000 in
theorem zX10_partition {l : Launch} {D : va_G} {cI cZ cQ : ClassId} {h_t : Nat → Nat} {u_t : Pk} {a1 : Int32} {a2 : Int32} {a3 : Int32} {v_t : Pk} (hf : fX10_partition u_t a1 a2 a3 = some v_t) : MV l yX10_partition wsX10_partition rmX10_partition D (TY cI cZ cQ) [.ref (h_t 0), .int a1, .int a2, .int a3] [nX10 cI cZ cQ h_t u_t] [nX10 cI cZ cQ h_t v_t] := by
  refine MV.of (own := RX10) (by decide +kernel) rfl rfl (Nat.le_of_ble_eq_true rfl) (lv0 := [(0, .ref (h_t 0)), (1, .int a1), (2, .int a2), (3, .int a3)]) rfl ?_
  intro X O E
  have B211 : ∀ (w_t : Pk) (y3 : Int32) (y4 : Int32) (y5 : Int32) (y6 : Int32) (y7 : Int32) (z1 : Int32), fX10_partition_b211 w_t y3 y4 y5 y6 y7 z1 = some v_t → BK X 10 0 0 211 ([nX10 cI cZ cQ h_t w_t]) [(3, .int y3), (4, .int y4), (5, .int y5), (6, .int y6), (7, .int y7)] [.int z1, .ref (h_t 0)] := by
    intro w_t y3 y4 y5 y6 y7 z1 hf
    unfold fX10_partition_b211 at hf
    refine r_ild_n O 212 rfl 0 rfl dX10_partition_211 ?_
    refine r_ild O 214 rfl 1 rfl dX10_partition_212 ?_
    refine r_ild O 216 rfl 2 rfl dX10_partition_214 ?_
    refine r_ild O 218 rfl 3 rfl dX10_partition_216 ?_
    refine r_ild O 220 rfl 4 rfl dX10_partition_218 ?_
    obtain ⟨p220_t, hq220, hf⟩ := qb1_some hf
    refine k_VV O 223 rfl (zX10_put (l := xl X) (D := xD X) (cI := cI) (cZ := cZ) (cQ := cQ) (h_t := h_t) hq220) (gV mlX10_222 mvX10_put izX10) rfl rfl rfl hdX10_put ⟨Nat.le_of_ble_eq_true rfl, Nat.le_of_ble_eq_true rfl⟩ rfl 0 rfl rfl rfl rfl (Nat.le_of_ble_eq_true rfl) ⟨Nat.zero_le _, Nat.zero_le _⟩ [0] rfl rfl rfl ([nX10 cI cZ cQ h_t p220_t]) rfl dX10_partition_220 ?_
    obtain g0 := qe1 hf
    exact r_vret2 O E (by rw [g0]) dX10_partition_223
  have B172 : ∀ (w_t : Pk) (y3 : Int32) (y6 : Int32) (y7 : Int32) (z1 : Int32), fX10_partition_b172 w_t y3 y6 y7 z1 = some v_t → BK X 10 0 0 172 ([nX10 cI cZ cQ h_t w_t]) [(0, .ref (h_t 0)), (3, .int y3), (6, .int y6), (7, .int y7)] [.int z1, .ref (h_t 0)] := by
    intro w_t y3 y6 y7 z1 hf
    unfold fX10_partition_b172 at hf
    refine r_ild_n O 173 rfl 1 rfl dX10_partition_172 ?_
    refine r_ald_n O 174 rfl 0 rfl dX10_partition_173 ?_
    refine r_get (ref := RX10) (C := RX10) (T := TX10) (N := 70) O 177 rfl inBX10 0 18 rfl rfl rfl (by decide) flX10_200 rfl rfl dX10_partition_174 ?_
    refine r_ald_n O 178 rfl 0 rfl dX10_partition_177 ?_
    refine r_get (ref := RX10) (C := RX10) (T := TX10) (N := 70) O 181 rfl inBX10 0 19 rfl rfl rfl (by decide) flX10_203 rfl rfl dX10_partition_178 ?_
    refine r_ild O 183 rfl 2 rfl dX10_partition_181 ?_
    refine r_ild O 185 rfl 3 rfl dX10_partition_183 ?_
    obtain ⟨p185_t, hq185, hf⟩ := qb1_some hf
    refine k_VV O 188 rfl (zX10_put (l := xl X) (D := xD X) (cI := cI) (cZ := cZ) (cQ := cQ) (h_t := h_t) hq185) (gV mlX10_222 mvX10_put izX10) rfl rfl rfl hdX10_put ⟨Nat.le_of_ble_eq_true rfl, Nat.le_of_ble_eq_true rfl⟩ rfl 0 rfl rfl rfl rfl (Nat.le_of_ble_eq_true rfl) ⟨Nat.zero_le _, Nat.zero_le _⟩ [0] rfl rfl rfl ([nX10 cI cZ cQ h_t p185_t]) rfl dX10_partition_185 ?_
    refine r_goto O 223 dX10_partition_188 (by decide) ?_
    obtain g0 := qe1 hf
    exact r_vret2 O E (by rw [g0]) dX10_partition_223
  have B137 : ∀ (w_t : Pk) (y3 : Int32) (y4 : Int32) (y5 : Int32) (y6 : Int32) (y7 : Int32) (y9 : Int32) (z1 : Int32), fX10_partition_b137 w_t y3 y4 y5 y6 y7 y9 z1 = some v_t → BK X 10 0 0 137 ([nX10 cI cZ cQ h_t w_t]) [(0, .ref (h_t 0)), (3, .int y3), (4, .int y4), (5, .int y5), (6, .int y6), (7, .int y7), (9, .int y9)] [.int z1, .ref (h_t 0)] := by
    intro w_t y3 y4 y5 y6 y7 y9 z1 hf
    unfold fX10_partition_b137 at hf
    refine r_ild_n O 138 rfl 1 rfl dX10_partition_137 ?_
    refine r_ild O 140 rfl 2 rfl dX10_partition_138 ?_
    refine r_ild O 142 rfl 3 rfl dX10_partition_140 ?_
    refine r_ald_n O 143 rfl 0 rfl dX10_partition_142 ?_
    refine r_get (ref := RX10) (C := RX10) (T := TX10) (N := 70) O 146 rfl inBX10 0 18 rfl rfl rfl (by decide) flX10_200 rfl rfl dX10_partition_143 ?_
    refine r_ald_n O 147 rfl 0 rfl dX10_partition_146 ?_
    refine r_get (ref := RX10) (C := RX10) (T := TX10) (N := 70) O 150 rfl inBX10 0 19 rfl rfl rfl (by decide) flX10_203 rfl rfl dX10_partition_147 ?_
    obtain ⟨p150_t, hq150, hf⟩ := qb1_some hf
    refine k_VV O 153 rfl (zX10_put (l := xl X) (D := xD X) (cI := cI) (cZ := cZ) (cQ := cQ) (h_t := h_t) hq150) (gV mlX10_222 mvX10_put izX10) rfl rfl rfl hdX10_put ⟨Nat.le_of_ble_eq_true rfl, Nat.le_of_ble_eq_true rfl⟩ rfl 0 rfl rfl rfl rfl (Nat.le_of_ble_eq_true rfl) ⟨Nat.zero_le _, Nat.zero_le _⟩ [0] rfl rfl rfl ([nX10 cI cZ cQ h_t p150_t]) rfl dX10_partition_150 ?_
    refine r_ald_n O 154 rfl 0 rfl dX10_partition_153 ?_
    refine r_ild O 156 rfl 6 rfl dX10_partition_154 ?_
    refine r_if_eq O 159 rfl 166 dX10_partition_156 (by decide) (fun hc156 => ?_) (fun hc156 => ?_)
    · rw [if_pos hc156] at hf
      refine r_ald_n O 167 rfl 0 rfl dX10_partition_166 ?_
      refine r_get (ref := RX10) (C := RX10) (T := TX10) (N := 70) O 170 rfl inBX10 0 35 rfl rfl rfl (by decide) flX10_219 rfl rfl dX10_partition_167 ?_
      refine r_ic O 171 rfl 1 (by decide) dX10_partition_170 ?_
      refine r_iadd O 172 rfl dX10_partition_171 ?_
      refine r_lv [0, 1, 4, 5] rfl ?_
      exact B172 _ _ _ _ _ hf
    · rw [if_neg hc156] at hf
      refine r_ald_n O 160 rfl 0 rfl dX10_partition_159 ?_
      refine r_get (ref := RX10) (C := RX10) (T := TX10) (N := 70) O 163 rfl inBX10 0 35 rfl rfl rfl (by decide) flX10_219 rfl rfl dX10_partition_160 ?_
      refine r_goto O 172 dX10_partition_163 (by decide) ?_
      refine r_lv [0, 1, 4, 5] rfl ?_
      exact B172 _ _ _ _ _ hf
  have B116 : ∀ (w_t : Pk) (y3 : Int32) (y4 : Int32) (y5 : Int32) (y6 : Int32) (y7 : Int32) (z0 : Int32), fX10_partition_b116 w_t y3 y4 y5 y6 y7 z0 = some v_t → BK X 10 0 0 116 ([nX10 cI cZ cQ h_t w_t]) [(0, .ref (h_t 0)), (3, .int y3), (4, .int y4), (5, .int y5), (6, .int y6), (7, .int y7)] [.int z0] := by
    intro w_t y3 y4 y5 y6 y7 z0 hf
    unfold fX10_partition_b116 at hf
    refine r_ist O 118 rfl [(9, .int z0), (0, .ref (h_t 0)), (3, .int y3), (4, .int y4), (5, .int y5), (6, .int y6), (7, .int y7)] dX10_partition_116 (by decide) rfl ?_
    refine r_ald_n O 119 rfl 1 rfl dX10_partition_118 ?_
    refine r_ild O 121 rfl 0 rfl dX10_partition_119 ?_
    refine r_if_eq O 124 rfl 133 dX10_partition_121 (by decide) (fun hc121 => ?_) (fun hc121 => ?_)
    · rw [if_pos hc121] at hf
      refine r_ald_n O 134 rfl 1 rfl dX10_partition_133 ?_
      refine r_get (ref := RX10) (C := RX10) (T := TX10) (N := 70) O 137 rfl inBX10 0 35 rfl rfl rfl (by decide) flX10_219 rfl rfl dX10_partition_134 ?_
      refine r_lv [1, 2, 3, 4, 5, 6, 0] rfl ?_
      exact B137 _ _ _ _ _ _ _ _ hf
    · rw [if_neg hc121] at hf
      refine r_ald_n O 125 rfl 1 rfl dX10_partition_124 ?_
      refine r_get (ref := RX10) (C := RX10) (T := TX10) (N := 70) O 128 rfl inBX10 0 35 rfl rfl rfl (by decide) flX10_219 rfl rfl dX10_partition_125 ?_
      refine r_ic O 129 rfl 1 (by decide) dX10_partition_128 ?_
      refine r_iadd O 130 rfl dX10_partition_129 ?_
      refine r_goto O 137 dX10_partition_130 (by decide) ?_
      refine r_lv [1, 2, 3, 4, 5, 6, 0] rfl ?_
      exact B137 _ _ _ _ _ _ _ _ hf
  unfold fX10_partition at hf
  refine r_ald_n O 1 rfl 0 rfl dX10_partition_0 ?_
  refine r_get (ref := RX10) (C := RX10) (T := TX10) (N := 70) O 4 rfl inBX10 0 36 rfl rfl rfl (by decide) flX10_83 rfl rfl dX10_partition_1 ?_
  refine r_ic O 5 rfl 5 (by decide) dX10_partition_4 ?_
  refine r_ild_n O 6 rfl 3 rfl dX10_partition_5 ?_
  refine r_imul O 7 rfl dX10_partition_6 ?_
  refine r_ic O 8 rfl 1 (by decide) dX10_partition_7 ?_
  refine r_iadd O 9 rfl dX10_partition_8 ?_
  obtain ⟨x9, ex9, hin9, hf⟩ := qld_some hf
  refine r_iald O 10 rfl 0 18 rfl rfl hin9 dX10_partition_9 ?_
  rw [← ex9]
  refine r_ist O 12 rfl [(4, .int x9), (0, .ref (h_t 0)), (1, .int a1), (2, .int a2), (3, .int a3)] dX10_partition_10 (by decide) rfl ?_
  refine r_ald_n O 13 rfl 1 rfl dX10_partition_12 ?_
  refine r_get (ref := RX10) (C := RX10) (T := TX10) (N := 70) O 16 rfl inBX10 0 36 rfl rfl rfl (by decide) flX10_83 rfl rfl dX10_partition_13 ?_
  refine r_ic O 17 rfl 5 (by decide) dX10_partition_16 ?_
  refine r_ild_n O 18 rfl 4 rfl dX10_partition_17 ?_
  refine r_imul O 19 rfl dX10_partition_18 ?_
  refine r_ic O 20 rfl 2 (by decide) dX10_partition_19 ?_
  refine r_iadd O 21 rfl dX10_partition_20 ?_
  obtain ⟨x21, ex21, hin21, hf⟩ := qld_some hf
  refine r_iald O 22 rfl 0 18 rfl rfl hin21 dX10_partition_21 ?_
  rw [← ex21]
  refine r_ist O 24 rfl [(5, .int x21), (4, .int x9), (0, .ref (h_t 0)), (1, .int a1), (2, .int a2), (3, .int a3)] dX10_partition_22 (by decide) rfl ?_
  refine r_ald_n O 25 rfl 2 rfl dX10_partition_24 ?_
  refine r_get (ref := RX10) (C := RX10) (T := TX10) (N := 70) O 28 rfl inBX10 0 36 rfl rfl rfl (by decide) flX10_83 rfl rfl dX10_partition_25 ?_
  refine r_ic O 29 rfl 5 (by decide) dX10_partition_28 ?_
  refine r_ild_n O 30 rfl 5 rfl dX10_partition_29 ?_
  refine r_imul O 31 rfl dX10_partition_30 ?_
  refine r_ic O 32 rfl 3 (by decide) dX10_partition_31 ?_
  refine r_iadd O 33 rfl dX10_partition_32 ?_
  obtain ⟨x33, ex33, hin33, hf⟩ := qld_some hf
  refine r_iald O 34 rfl 0 18 rfl rfl hin33 dX10_partition_33 ?_
  rw [← ex33]
  refine r_ist O 36 rfl [(6, .int x33), (5, .int x21), (4, .int x9), (0, .ref (h_t 0)), (1, .int a1), (2, .int a2), (3, .int a3)] dX10_partition_34 (by decide) rfl ?_
  refine r_ald_n O 37 rfl 3 rfl dX10_partition_36 ?_
  refine r_get (ref := RX10) (C := RX10) (T := TX10) (N := 70) O 40 rfl inBX10 0 36 rfl rfl rfl (by decide) flX10_83 rfl rfl dX10_partition_37 ?_
  refine r_ic O 41 rfl 5 (by decide) dX10_partition_40 ?_
  refine r_ild_n O 42 rfl 6 rfl dX10_partition_41 ?_
  refine r_imul O 43 rfl dX10_partition_42 ?_
  refine r_ic O 44 rfl 4 (by decide) dX10_partition_43 ?_
  refine r_iadd O 45 rfl dX10_partition_44 ?_
  obtain ⟨x45, ex45, hin45, hf⟩ := qld_some hf
  refine r_iald O 46 rfl 0 18 rfl rfl hin45 dX10_partition_45 ?_
  rw [← ex45]
  refine r_ist O 48 rfl [(7, .int x45), (6, .int x33), (5, .int x21), (4, .int x9), (0, .ref (h_t 0)), (1, .int a1), (2, .int a2), (3, .int a3)] dX10_partition_46 (by decide) rfl ?_
  refine r_ald_n O 49 rfl 4 rfl dX10_partition_48 ?_
  refine r_ild_n O 50 rfl 5 rfl dX10_partition_49 ?_
  refine r_ild_n O 51 rfl 7 rfl dX10_partition_50 ?_
  refine r_ild O 53 rfl 3 rfl dX10_partition_51 ?_
  refine r_ild O 55 rfl 2 rfl dX10_partition_53 ?_
  refine r_ild O 57 rfl 1 rfl dX10_partition_55 ?_
  refine r_ild O 59 rfl 0 rfl dX10_partition_57 ?_
  obtain ⟨x59, hq59, hf⟩ := qb1_some hf
  refine k_VI O 62 rfl (zX10_relation (l := xl X) (D := xD X) (cI := cI) (cZ := cZ) (cQ := cQ) (h_t := h_t) hq59) (gV mlX10_215 mvX10_relation izX10) rfl rfl rfl hdX10_relation ⟨Nat.le_of_ble_eq_true rfl, Nat.le_of_ble_eq_true rfl⟩ rfl 0 rfl rfl rfl rfl (Nat.le_of_ble_eq_true rfl) ⟨Nat.zero_le _, Nat.zero_le _⟩ [0] rfl rfl rfl ([nX10 cI cZ cQ h_t u_t]) rfl dX10_partition_59 ?_
  refine r_ist O 64 rfl [(8, .int x59), (7, .int x45), (6, .int x33), (5, .int x21), (4, .int x9), (0, .ref (h_t 0)), (1, .int a1), (2, .int a2), (3, .int a3)] dX10_partition_62 (by decide) rfl ?_
  refine r_ild O 66 rfl 0 rfl dX10_partition_64 ?_
  refine r_if_ne O 69 rfl 86 dX10_partition_66 (by decide) (fun hc66 => ?_) (fun hc66 => ?_)
  · rw [if_neg hc66] at hf
    refine r_ild O 88 rfl 0 rfl dX10_partition_86 ?_
    refine r_ic O 89 rfl 2 (by decide) dX10_partition_88 ?_
    refine r_icmp_ne O 92 rfl 191 dX10_partition_89 (by decide) (fun hc89 => ?_) (fun hc89 => ?_)
    · rw [if_neg hc89] at hf
      refine r_ald_n O 192 rfl 5 rfl dX10_partition_191 ?_
      refine r_ild O 194 rfl 0 rfl dX10_partition_192 ?_
      refine r_ic O 195 rfl 1 (by decide) dX10_partition_194 ?_
      refine r_icmp_ne O 198 rfl 207 dX10_partition_195 (by decide) (fun hc195 => ?_) (fun hc195 => ?_)
      · rw [if_neg hc195] at hf
        refine r_ald_n O 208 rfl 5 rfl dX10_partition_207 ?_
        refine r_get (ref := RX10) (C := RX10) (T := TX10) (N := 70) O 211 rfl inBX10 0 35 rfl rfl rfl (by decide) flX10_219 rfl rfl dX10_partition_208 ?_
        refine r_lv [8, 4, 3, 2, 1] rfl ?_
        exact B211 _ _ _ _ _ _ _ hf
      · rw [if_pos hc195] at hf
        refine r_ald_n O 199 rfl 5 rfl dX10_partition_198 ?_
        refine r_get (ref := RX10) (C := RX10) (T := TX10) (N := 70) O 202 rfl inBX10 0 35 rfl rfl rfl (by decide) flX10_219 rfl rfl dX10_partition_199 ?_
        refine r_ic O 203 rfl 1 (by decide) dX10_partition_202 ?_
        refine r_iadd O 204 rfl dX10_partition_203 ?_
        refine r_goto O 211 dX10_partition_204 (by decide) ?_
        refine r_lv [8, 4, 3, 2, 1] rfl ?_
        exact B211 _ _ _ _ _ _ _ hf
    · rw [if_pos hc89] at hf
      refine r_ald_n O 93 rfl 5 rfl dX10_partition_92 ?_
      refine r_ild_n O 94 rfl 6 rfl dX10_partition_93 ?_
      refine r_ild_n O 95 rfl 8 rfl dX10_partition_94 ?_
      obtain ⟨p95_t, hq95, hf⟩ := qb1_some hf
      refine k_VV O 98 rfl (zX10_cut (l := xl X) (D := xD X) (cI := cI) (cZ := cZ) (cQ := cQ) (h_t := h_t) hq95) (gV mlX10_242 mvX10_cut izX10) rfl rfl rfl hdX10_cut ⟨Nat.le_of_ble_eq_true rfl, Nat.le_of_ble_eq_true rfl⟩ rfl 0 rfl rfl rfl rfl (Nat.le_of_ble_eq_true rfl) ⟨Nat.zero_le _, Nat.zero_le _⟩ [0] rfl rfl rfl ([nX10 cI cZ cQ h_t p95_t]) rfl dX10_partition_95 ?_
      refine r_ald_n O 99 rfl 5 rfl dX10_partition_98 ?_
      refine r_ild_n O 100 rfl 6 rfl dX10_partition_99 ?_
      refine r_ild_n O 101 rfl 8 rfl dX10_partition_100 ?_
      refine r_ild O 103 rfl 4 rfl dX10_partition_101 ?_
      refine r_ild O 105 rfl 3 rfl dX10_partition_103 ?_
      obtain ⟨x105, hq105, hf⟩ := qb1_some hf
      refine k_VI O 108 rfl (zX10_signAt (l := xl X) (D := xD X) (cI := cI) (cZ := cZ) (cQ := cQ) (h_t := h_t) hq105) (gV mlX10_193 mvX10_signAt izX10) rfl rfl rfl hdX10_signAt ⟨Nat.le_of_ble_eq_true rfl, Nat.le_of_ble_eq_true rfl⟩ rfl 0 rfl rfl rfl rfl (Nat.le_of_ble_eq_true rfl) ⟨Nat.zero_le _, Nat.zero_le _⟩ [0] rfl rfl rfl ([nX10 cI cZ cQ h_t p95_t]) rfl dX10_partition_105 ?_
      refine r_if_le O 111 rfl 115 dX10_partition_108 (by decide) (fun hc108 => ?_) (fun hc108 => ?_)
      · rw [if_pos hc108] at hf
        refine r_ic O 116 rfl 0 (by decide) dX10_partition_115 ?_
        refine r_lv [5, 8, 4, 3, 2, 1] rfl ?_
        exact B116 _ _ _ _ _ _ _ hf
      · rw [if_neg hc108] at hf
        refine r_ic O 112 rfl 1 (by decide) dX10_partition_111 ?_
        refine r_goto O 116 dX10_partition_112 (by decide) ?_
        refine r_lv [5, 8, 4, 3, 2, 1] rfl ?_
        exact B116 _ _ _ _ _ _ _ hf
  · rw [if_pos hc66] at hf
    refine r_ald_n O 70 rfl 5 rfl dX10_partition_69 ?_
    refine r_ild_n O 71 rfl 7 rfl dX10_partition_70 ?_
    refine r_ild_n O 72 rfl 8 rfl dX10_partition_71 ?_
    refine r_ild O 74 rfl 4 rfl dX10_partition_72 ?_
    refine r_ild O 76 rfl 3 rfl dX10_partition_74 ?_
    refine r_ild O 78 rfl 2 rfl dX10_partition_76 ?_
    refine r_ild O 80 rfl 1 rfl dX10_partition_78 ?_
    obtain ⟨p80_t, hq80, hf⟩ := qb1_some hf
    refine k_VV O 83 rfl (zX10_addPiece (l := xl X) (D := xD X) (cI := cI) (cZ := cZ) (cQ := cQ) (h_t := h_t) hq80) (gV mlX10_239 mvX10_addPiece izX10) rfl rfl rfl hdX10_addPiece ⟨Nat.le_of_ble_eq_true rfl, Nat.le_of_ble_eq_true rfl⟩ rfl 0 rfl rfl rfl rfl (Nat.le_of_ble_eq_true rfl) ⟨Nat.zero_le _, Nat.zero_le _⟩ [0] rfl rfl rfl ([nX10 cI cZ cQ h_t p80_t]) rfl dX10_partition_80 ?_
    refine r_goto O 223 dX10_partition_83 (by decide) ?_
    obtain g0 := qe1 hf
    exact r_vret2 O E (by rw [g0]) dX10_partition_223
-- X10_makeNode
def rmX10_makeNode : Room := { frames := 6, cells := 0, slots := 0, locals := 154 }
set_option maxHeartbeats 4000000 in
set_option maxRecDepth 100000 in
theorem zX10_makeNode {l : Launch} {D : va_G} {cI cZ cQ : ClassId} {h_t : Nat → Nat} {u_t : Pk} {a1 : Int32} {a2 : Int32} {v_t : Pk} (hf : fX10_makeNode u_t a1 a2 = some v_t) : MV l yX10_makeNode wsX10_makeNode rmX10_makeNode D (TY cI cZ cQ) [.ref (h_t 0), .int a1, .int a2] [nX10 cI cZ cQ h_t u_t] [nX10 cI cZ cQ h_t v_t] := by
  refine MV.of (own := RX10) (by decide +kernel) rfl rfl (Nat.le_of_ble_eq_true rfl) (lv0 := [(0, .ref (h_t 0)), (1, .int a1), (2, .int a2)]) rfl ?_
  intro X O E
  have B184 : ∀ (rec145 : Pk → Int32 → Int32 → Int32 → Option (Pk)), (∀ (w_t : Pk) (y3 : Int32) (y5 : Int32) (y6 : Int32), rec145 w_t y3 y5 y6 = some v_t → BK X 8 0 0 145 ([nX10 cI cZ cQ h_t w_t]) [(0, .ref (h_t 0)), (3, .int y3), (5, .int y5), (6, .int y6)] []) → ∀ n : Nat, ∀ (w_t : Pk) (y3 : Int32) (y5 : Int32) (y6 : Int32) (y7 : Int32), fX10_makeNode_b184 rec145 n w_t y3 y5 y6 y7 = some v_t → BK X 8 0 0 184 ([nX10 cI cZ cQ h_t w_t]) [(0, .ref (h_t 0)), (3, .int y3), (5, .int y5), (6, .int y6), (7, .int y7)] [] := by
    intro rec145 hrec145
    intro n
    induction n with
    | zero => exact fun _ _ _ _ _ hf => qno hf
    | succ n hrec184 =>
      intro w_t y3 y5 y6 y7 hf
      have hf : fX10_makeNode_b184_s rec145 (fX10_makeNode_b184 rec145 n) w_t y3 y5 y6 y7 = some v_t := hf
      generalize fX10_makeNode_b184 rec145 n = rec184 at hf hrec184
      unfold fX10_makeNode_b184_s at hf
      refine r_ild O 186 rfl 4 rfl dX10_makeNode_184 ?_
      refine r_bi O 188 rfl 12 (by decide) dX10_makeNode_186 ?_
      refine r_icmp_ge O 191 rfl 218 dX10_makeNode_188 (by decide) (fun hc188 => ?_) (fun hc188 => ?_)
      · rw [if_pos hc188] at hf
        obtain ⟨x218, ex218, hf⟩ := qn_some hf
        refine r_iinc O 221 rfl x218 3 rfl (by rw [ex218]; rfl) [(6, .int x218), (0, .ref (h_t 0)), (3, .int y3), (5, .int y5), (7, .int y7)] dX10_makeNode_218 (by decide) rfl ?_
        refine r_goto O 145 dX10_makeNode_221 (by decide) ?_
        refine r_lv [1, 2, 3, 0] rfl ?_
        exact hrec145 _ _ _ _ hf
      · rw [if_neg hc188] at hf
        refine r_ald_n O 192 rfl 0 rfl dX10_makeNode_191 ?_
        refine r_get (ref := RX10) (C := RX10) (T := TX10) (N := 70) O 195 rfl inBX10 0 32 rfl rfl rfl (by decide) flX10_74 rfl rfl dX10_makeNode_192 ?_
        refine r_bi O 197 rfl 60 (by decide) dX10_makeNode_195 ?_
        refine r_ald_n O 198 rfl 0 rfl dX10_makeNode_197 ?_
        refine r_get (ref := RX10) (C := RX10) (T := TX10) (N := 70) O 201 rfl inBX10 0 35 rfl rfl rfl (by decide) flX10_219 rfl rfl dX10_makeNode_198 ?_
        refine r_ild O 203 rfl 3 rfl dX10_makeNode_201 ?_
        refine r_iadd O 204 rfl dX10_makeNode_203 ?_
        refine r_imul O 205 rfl dX10_makeNode_204 ?_
        refine r_ic O 206 rfl 5 (by decide) dX10_makeNode_205 ?_
        refine r_ild O 208 rfl 4 rfl dX10_makeNode_206 ?_
        refine r_imul O 209 rfl dX10_makeNode_208 ?_
        refine r_iadd O 210 rfl dX10_makeNode_209 ?_
        refine r_ic O 211 rfl 0 (by decide) dX10_makeNode_210 ?_
        obtain ⟨hin211, hf⟩ := qst_some hf
        obtain ⟨p211_t, ep211_t, hf⟩ := qn_some hf
        refine r_iast O 212 rfl 0 15 rfl rfl hin211 ([nX10 cI cZ cQ h_t p211_t]) (by rw [ep211_t]; rfl) dX10_makeNode_211 ?_
        obtain ⟨x212, ex212, hf⟩ := qn_some hf
        refine r_iinc O 215 rfl x212 4 rfl (by rw [ex212]; rfl) [(7, .int x212), (0, .ref (h_t 0)), (3, .int y3), (5, .int y5), (6, .int y6)] dX10_makeNode_212 (by decide) rfl ?_
        refine r_goto O 184 dX10_makeNode_215 (by decide) ?_
        refine r_lv [1, 2, 3, 4, 0] rfl ?_
        exact hrec184 _ _ _ _ _ hf
  have B256 : ∀ (rec227 : Pk → Int32 → Int32 → Int32 → Option (Pk)), (∀ (w_t : Pk) (y3 : Int32) (y5 : Int32) (y6 : Int32), rec227 w_t y3 y5 y6 = some v_t → BK X 8 0 0 227 ([nX10 cI cZ cQ h_t w_t]) [(0, .ref (h_t 0)), (3, .int y3), (5, .int y5), (6, .int y6)] []) → ∀ (w_t : Pk) (y3 : Int32) (y5 : Int32) (y6 : Int32), fX10_makeNode_b256 rec227 w_t y3 y5 y6 = some v_t → BK X 8 0 0 256 ([nX10 cI cZ cQ h_t w_t]) [(0, .ref (h_t 0)), (3, .int y3), (5, .int y5), (6, .int y6)] [] := by
    intro rec227 hrec227 w_t y3 y5 y6 hf
    unfold fX10_makeNode_b256 at hf
    obtain ⟨x256, ex256, hf⟩ := qn_some hf
    refine r_iinc O 259 rfl x256 3 rfl (by rw [ex256]; rfl) [(6, .int x256), (0, .ref (h_t 0)), (3, .int y3), (5, .int y5)] dX10_makeNode_256 (by decide) rfl ?_
    refine r_goto O 227 dX10_makeNode_259 (by decide) ?_
    refine r_lv [1, 2, 3, 0] rfl ?_
    exact hrec227 _ _ _ _ hf
  have B227 : ∀ n : Nat, ∀ (w_t : Pk) (y3 : Int32) (y5 : Int32) (y6 : Int32), fX10_makeNode_b227 n w_t y3 y5 y6 = some v_t → BK X 8 0 0 227 ([nX10 cI cZ cQ h_t w_t]) [(0, .ref (h_t 0)), (3, .int y3), (5, .int y5), (6, .int y6)] [] := by
    intro n
    induction n with
    | zero => exact fun _ _ _ _ hf => qno hf
    | succ n hrec227 =>
      intro w_t y3 y5 y6 hf
      have hf : fX10_makeNode_b227_s (fX10_makeNode_b227 n) w_t y3 y5 y6 = some v_t := hf
      generalize fX10_makeNode_b227 n = rec227 at hf hrec227
      unfold fX10_makeNode_b227_s at hf
      refine r_ild O 229 rfl 3 rfl dX10_makeNode_227 ?_
      refine r_bi O 231 rfl 12 (by decide) dX10_makeNode_229 ?_
      refine r_icmp_ge O 234 rfl 262 dX10_makeNode_231 (by decide) (fun hc231 => ?_) (fun hc231 => ?_)
      · rw [if_pos hc231] at hf
        refine r_ald_n O 263 rfl 0 rfl dX10_makeNode_262 ?_
        refine r_dup O 264 rfl dX10_makeNode_263 rfl ?_
        refine r_get (ref := RX10) (C := RX10) (T := TX10) (N := 70) O 267 rfl inBX10 0 35 rfl rfl rfl (by decide) flX10_219 rfl rfl dX10_makeNode_264 ?_
        refine r_ic O 268 rfl 2 (by decide) dX10_makeNode_267 ?_
        refine r_iadd O 269 rfl dX10_makeNode_268 ?_
        obtain ⟨p269_t, ep269_t, hf⟩ := qn_some hf
        refine r_put (ref := RX10) (C := RX10) (T := TX10) (N := 70) O 272 rfl inBX10 tyX10 tyX10_ok nmX10 0 35 rfl rfl rfl (by decide) flX10_219 rfl rfl rfl rfl (Nat.le_of_ble_eq_true rfl) ([nX10 cI cZ cQ h_t p269_t]) (by rw [ep269_t]; rfl) dX10_makeNode_269 ?_
        obtain g0 := qe1 hf
        exact r_vret2 O E (by rw [g0]) dX10_makeNode_272
      · rw [if_neg hc231] at hf
        refine r_ald_n O 235 rfl 0 rfl dX10_makeNode_234 ?_
        refine r_get (ref := RX10) (C := RX10) (T := TX10) (N := 70) O 238 rfl inBX10 0 36 rfl rfl rfl (by decide) flX10_83 rfl rfl dX10_makeNode_235 ?_
        refine r_ic O 239 rfl 5 (by decide) dX10_makeNode_238 ?_
        refine r_ild O 241 rfl 3 rfl dX10_makeNode_239 ?_
        refine r_imul O 242 rfl dX10_makeNode_241 ?_
        obtain ⟨x242, ex242, hin242, hf⟩ := qld_some hf
        refine r_iald O 243 rfl 0 18 rfl rfl hin242 dX10_makeNode_242 ?_
        rw [← ex242]
        refine r_ic O 244 rfl 1 (by decide) dX10_makeNode_243 ?_
        refine r_icmp_ne O 247 rfl 256 dX10_makeNode_244 (by decide) (fun hc244 => ?_) (fun hc244 => ?_)
        · rw [if_neg hc244] at hf
          exact B256 rec227 hrec227 _ _ _ _ hf
        · rw [if_pos hc244] at hf
          refine r_ald_n O 248 rfl 0 rfl dX10_makeNode_247 ?_
          refine r_ild_n O 249 rfl 1 rfl dX10_makeNode_248 ?_
          refine r_ild O 251 rfl 2 rfl dX10_makeNode_249 ?_
          refine r_ild O 253 rfl 3 rfl dX10_makeNode_251 ?_
          obtain ⟨p253_t, hq253, hf⟩ := qb1_some hf
          refine k_VV O 256 rfl (zX10_partition (l := xl X) (D := xD X) (cI := cI) (cZ := cZ) (cQ := cQ) (h_t := h_t) hq253) (gV mlX10_235 mvX10_partition izX10) rfl rfl rfl hdX10_partition ⟨Nat.le_of_ble_eq_true rfl, Nat.le_of_ble_eq_true rfl⟩ rfl 0 rfl rfl rfl rfl (Nat.le_of_ble_eq_true rfl) ⟨Nat.zero_le _, Nat.zero_le _⟩ [0] rfl rfl rfl ([nX10 cI cZ cQ h_t p253_t]) rfl dX10_makeNode_253 ?_
          exact B256 rec227 hrec227 _ _ _ _ hf
  have B145 : ∀ n : Nat, ∀ (w_t : Pk) (y3 : Int32) (y5 : Int32) (y6 : Int32), fX10_makeNode_b145 n w_t y3 y5 y6 = some v_t → BK X 8 0 0 145 ([nX10 cI cZ cQ h_t w_t]) [(0, .ref (h_t 0)), (3, .int y3), (5, .int y5), (6, .int y6)] [] := by
    intro n
    induction n with
    | zero => exact fun _ _ _ _ hf => qno hf
    | succ n hrec145 =>
      intro w_t y3 y5 y6 hf
      have hf : fX10_makeNode_b145_s (fX10_makeNode_b145 n) w_t y3 y5 y6 = some v_t := hf
      generalize fX10_makeNode_b145 n = rec145 at hf hrec145
      unfold fX10_makeNode_b145_s at hf
      refine r_ild O 147 rfl 3 rfl dX10_makeNode_145 ?_
      refine r_ic O 148 rfl 2 (by decide) dX10_makeNode_147 ?_
      refine r_icmp_ge O 151 rfl 224 dX10_makeNode_148 (by decide) (fun hc148 => ?_) (fun hc148 => ?_)
      · rw [if_pos hc148] at hf
        refine r_ic O 225 rfl 0 (by decide) dX10_makeNode_224 ?_
        refine r_ist O 227 rfl [(6, .int 0), (0, .ref (h_t 0)), (3, .int y3), (5, .int y5)] dX10_makeNode_225 (by decide) rfl ?_
        refine r_lv [1, 2, 3, 0] rfl ?_
        exact B227 FU _ _ _ _ hf
      · rw [if_neg hc148] at hf
        refine r_ald_n O 152 rfl 0 rfl dX10_makeNode_151 ?_
        refine r_get (ref := RX10) (C := RX10) (T := TX10) (N := 70) O 155 rfl inBX10 0 33 rfl rfl rfl (by decide) flX10_77 rfl rfl dX10_makeNode_152 ?_
        refine r_ald_n O 156 rfl 0 rfl dX10_makeNode_155 ?_
        refine r_get (ref := RX10) (C := RX10) (T := TX10) (N := 70) O 159 rfl inBX10 0 35 rfl rfl rfl (by decide) flX10_219 rfl rfl dX10_makeNode_156 ?_
        refine r_ild O 161 rfl 3 rfl dX10_makeNode_159 ?_
        refine r_iadd O 162 rfl dX10_makeNode_161 ?_
        refine r_ild O 164 rfl 2 rfl dX10_makeNode_162 ?_
        obtain ⟨hin164, hf⟩ := qst_some hf
        obtain ⟨p164_t, ep164_t, hf⟩ := qn_some hf
        refine r_iast O 165 rfl 0 16 rfl rfl hin164 ([nX10 cI cZ cQ h_t p164_t]) (by rw [ep164_t]; rfl) dX10_makeNode_164 ?_
        refine r_ald_n O 166 rfl 0 rfl dX10_makeNode_165 ?_
        refine r_get (ref := RX10) (C := RX10) (T := TX10) (N := 70) O 169 rfl inBX10 0 34 rfl rfl rfl (by decide) flX10_80 rfl rfl dX10_makeNode_166 ?_
        refine r_ald_n O 170 rfl 0 rfl dX10_makeNode_169 ?_
        refine r_get (ref := RX10) (C := RX10) (T := TX10) (N := 70) O 173 rfl inBX10 0 35 rfl rfl rfl (by decide) flX10_219 rfl rfl dX10_makeNode_170 ?_
        refine r_ild O 175 rfl 3 rfl dX10_makeNode_173 ?_
        refine r_iadd O 176 rfl dX10_makeNode_175 ?_
        refine r_ic O 177 rfl 1 (by decide) dX10_makeNode_176 ?_
        refine r_ild O 179 rfl 3 rfl dX10_makeNode_177 ?_
        refine r_isub O 180 rfl dX10_makeNode_179 ?_
        obtain ⟨hin180, hf⟩ := qst_some hf
        obtain ⟨p180_t, ep180_t, hf⟩ := qn_some hf
        refine r_iast O 181 rfl 0 17 rfl rfl hin180 ([nX10 cI cZ cQ h_t p180_t]) (by rw [ep180_t]; rfl) dX10_makeNode_180 ?_
        refine r_ic O 182 rfl 0 (by decide) dX10_makeNode_181 ?_
        refine r_ist O 184 rfl [(7, .int 0), (0, .ref (h_t 0)), (3, .int y3), (5, .int y5), (6, .int y6)] dX10_makeNode_182 (by decide) rfl ?_
        refine r_lv [1, 2, 3, 4, 0] rfl ?_
        exact B184 rec145 hrec145 FU _ _ _ _ _ hf
  have B107 : ∀ n : Nat, ∀ (w_t : Pk) (y3 : Int32) (y5 : Int32) (y6 : Int32), fX10_makeNode_b107 n w_t y3 y5 y6 = some v_t → BK X 8 0 0 107 ([nX10 cI cZ cQ h_t w_t]) [(0, .ref (h_t 0)), (3, .int y3), (5, .int y5), (6, .int y6)] [] := by
    intro n
    induction n with
    | zero => exact fun _ _ _ _ hf => qno hf
    | succ n hrec107 =>
      intro w_t y3 y5 y6 hf
      have hf : fX10_makeNode_b107_s (fX10_makeNode_b107 n) w_t y3 y5 y6 = some v_t := hf
      generalize fX10_makeNode_b107 n = rec107 at hf hrec107
      unfold fX10_makeNode_b107_s at hf
      refine r_ild O 109 rfl 3 rfl dX10_makeNode_107 ?_
      refine r_bi O 111 rfl 60 (by decide) dX10_makeNode_109 ?_
      refine r_icmp_ge O 114 rfl 142 dX10_makeNode_111 (by decide) (fun hc111 => ?_) (fun hc111 => ?_)
      · rw [if_pos hc111] at hf
        refine r_ic O 143 rfl 0 (by decide) dX10_makeNode_142 ?_
        refine r_ist O 145 rfl [(6, .int 0), (0, .ref (h_t 0)), (3, .int y3), (5, .int y5)] dX10_makeNode_143 (by decide) rfl ?_
        refine r_lv [1, 2, 3, 0] rfl ?_
        exact B145 FU _ _ _ _ hf
      · rw [if_neg hc111] at hf
        refine r_ald_n O 115 rfl 0 rfl dX10_makeNode_114 ?_
        refine r_get (ref := RX10) (C := RX10) (T := TX10) (N := 70) O 118 rfl inBX10 0 36 rfl rfl rfl (by decide) flX10_83 rfl rfl dX10_makeNode_115 ?_
        refine r_ild O 120 rfl 3 rfl dX10_makeNode_118 ?_
        refine r_ald_n O 121 rfl 0 rfl dX10_makeNode_120 ?_
        refine r_get (ref := RX10) (C := RX10) (T := TX10) (N := 70) O 124 rfl inBX10 0 32 rfl rfl rfl (by decide) flX10_74 rfl rfl dX10_makeNode_121 ?_
        refine r_bi O 126 rfl 60 (by decide) dX10_makeNode_124 ?_
        refine r_ald_n O 127 rfl 0 rfl dX10_makeNode_126 ?_
        refine r_get (ref := RX10) (C := RX10) (T := TX10) (N := 70) O 130 rfl inBX10 0 35 rfl rfl rfl (by decide) flX10_219 rfl rfl dX10_makeNode_127 ?_
        refine r_imul O 131 rfl dX10_makeNode_130 ?_
        refine r_ild O 133 rfl 3 rfl dX10_makeNode_131 ?_
        refine r_iadd O 134 rfl dX10_makeNode_133 ?_
        obtain ⟨x134, ex134, hin134, hf⟩ := qld_some hf
        refine r_iald O 135 rfl 0 15 rfl rfl hin134 dX10_makeNode_134 ?_
        rw [← ex134]
        obtain ⟨hin135, hf⟩ := qst_some hf
        obtain ⟨p135_t, ep135_t, hf⟩ := qn_some hf
        refine r_iast O 136 rfl 0 18 rfl rfl hin135 ([nX10 cI cZ cQ h_t p135_t]) (by rw [ep135_t]; rfl) dX10_makeNode_135 ?_
        obtain ⟨x136, ex136, hf⟩ := qn_some hf
        refine r_iinc O 139 rfl x136 3 rfl (by rw [ex136]; rfl) [(6, .int x136), (0, .ref (h_t 0)), (3, .int y3), (5, .int y5)] dX10_makeNode_136 (by decide) rfl ?_
        refine r_goto O 107 dX10_makeNode_139 (by decide) ?_
        refine r_lv [1, 2, 3, 0] rfl ?_
        exact hrec107 _ _ _ _ hf
  have B68 : ∀ (rec8 : Pk → Int32 → Int32 → Int32 → Int32 → Int32 → Option (Pk)), (∀ (w_t : Pk) (y1 : Int32) (y2 : Int32) (y3 : Int32) (y4 : Int32) (y5 : Int32), rec8 w_t y1 y2 y3 y4 y5 = some v_t → BK X 8 0 0 8 ([nX10 cI cZ cQ h_t w_t]) [(0, .ref (h_t 0)), (1, .int y1), (2, .int y2), (3, .int y3), (4, .int y4), (5, .int y5)] []) → ∀ (w_t : Pk) (y1 : Int32) (y2 : Int32) (y3 : Int32) (y4 : Int32) (y5 : Int32), fX10_makeNode_b68 rec8 w_t y1 y2 y3 y4 y5 = some v_t → BK X 8 0 0 68 ([nX10 cI cZ cQ h_t w_t]) [(0, .ref (h_t 0)), (1, .int y1), (2, .int y2), (3, .int y3), (4, .int y4), (5, .int y5)] [] := by
    intro rec8 hrec8 w_t y1 y2 y3 y4 y5 hf
    unfold fX10_makeNode_b68 at hf
    obtain ⟨x68, ex68, hf⟩ := qn_some hf
    refine r_iinc O 71 rfl x68 5 rfl (by rw [ex68]; rfl) [(5, .int x68), (0, .ref (h_t 0)), (1, .int y1), (2, .int y2), (3, .int y3), (4, .int y4)] dX10_makeNode_68 (by decide) rfl ?_
    refine r_goto O 8 dX10_makeNode_71 (by decide) ?_
    refine r_lv [1, 2, 3, 4, 5, 0] rfl ?_
    exact hrec8 _ _ _ _ _ _ hf
  have B61 : ∀ (rec8 : Pk → Int32 → Int32 → Int32 → Int32 → Int32 → Option (Pk)), (∀ (w_t : Pk) (y1 : Int32) (y2 : Int32) (y3 : Int32) (y4 : Int32) (y5 : Int32), rec8 w_t y1 y2 y3 y4 y5 = some v_t → BK X 8 0 0 8 ([nX10 cI cZ cQ h_t w_t]) [(0, .ref (h_t 0)), (1, .int y1), (2, .int y2), (3, .int y3), (4, .int y4), (5, .int y5)] []) → ∀ (w_t : Pk) (y1 : Int32) (y2 : Int32) (y5 : Int32) (y6 : Int32), fX10_makeNode_b61 rec8 w_t y1 y2 y5 y6 = some v_t → BK X 8 0 0 61 ([nX10 cI cZ cQ h_t w_t]) [(0, .ref (h_t 0)), (1, .int y1), (2, .int y2), (5, .int y5), (6, .int y6)] [] := by
    intro rec8 hrec8 w_t y1 y2 y5 y6 hf
    unfold fX10_makeNode_b61 at hf
    refine r_ild O 63 rfl 3 rfl dX10_makeNode_61 ?_
    refine r_ist_n O 64 rfl rfl [(3, .int y5), (0, .ref (h_t 0)), (1, .int y1), (2, .int y2), (5, .int y5), (6, .int y6)] dX10_makeNode_63 (by decide) rfl ?_
    refine r_ild O 66 rfl 5 rfl dX10_makeNode_64 ?_
    refine r_ist O 68 rfl [(4, .int y6), (3, .int y5), (0, .ref (h_t 0)), (1, .int y1), (2, .int y2), (5, .int y5), (6, .int y6)] dX10_makeNode_66 (by decide) rfl ?_
    refine r_lv [2, 3, 4, 1, 0, 5] rfl ?_
    exact B68 rec8 hrec8 _ _ _ _ _ _ hf
  have B8 : ∀ n : Nat, ∀ (w_t : Pk) (y1 : Int32) (y2 : Int32) (y3 : Int32) (y4 : Int32) (y5 : Int32), fX10_makeNode_b8 n w_t y1 y2 y3 y4 y5 = some v_t → BK X 8 0 0 8 ([nX10 cI cZ cQ h_t w_t]) [(0, .ref (h_t 0)), (1, .int y1), (2, .int y2), (3, .int y3), (4, .int y4), (5, .int y5)] [] := by
    intro n
    induction n with
    | zero => exact fun _ _ _ _ _ _ hf => qno hf
    | succ n hrec8 =>
      intro w_t y1 y2 y3 y4 y5 hf
      have hf : fX10_makeNode_b8_s (fX10_makeNode_b8 n) w_t y1 y2 y3 y4 y5 = some v_t := hf
      generalize fX10_makeNode_b8 n = rec8 at hf hrec8
      unfold fX10_makeNode_b8_s at hf
      refine r_ild O 10 rfl 5 rfl dX10_makeNode_8 ?_
      refine r_bi O 12 rfl 12 (by decide) dX10_makeNode_10 ?_
      refine r_icmp_ge O 15 rfl 74 dX10_makeNode_12 (by decide) (fun hc12 => ?_) (fun hc12 => ?_)
      · rw [if_pos hc12] at hf
        refine r_ild_n O 75 rfl 3 rfl dX10_makeNode_74 ?_
        refine r_if_ge O 78 rfl 79 dX10_makeNode_75 (by decide) (fun hc75 => ?_) (fun hc75 => ?_)
        · rw [if_pos hc75] at hf
          refine r_ald_n O 80 rfl 0 rfl dX10_makeNode_79 ?_
          refine r_ild_n O 81 rfl 3 rfl dX10_makeNode_80 ?_
          refine r_ald_n O 82 rfl 0 rfl dX10_makeNode_81 ?_
          refine r_get (ref := RX10) (C := RX10) (T := TX10) (N := 70) O 85 rfl inBX10 0 33 rfl rfl rfl (by decide) flX10_77 rfl rfl dX10_makeNode_82 ?_
          refine r_ald_n O 86 rfl 0 rfl dX10_makeNode_85 ?_
          refine r_get (ref := RX10) (C := RX10) (T := TX10) (N := 70) O 89 rfl inBX10 0 35 rfl rfl rfl (by decide) flX10_219 rfl rfl dX10_makeNode_86 ?_
          obtain ⟨x89, ex89, hin89, hf⟩ := qld_some hf
          refine r_iald O 90 rfl 0 16 rfl rfl hin89 dX10_makeNode_89 ?_
          rw [← ex89]
          refine r_ald_n O 91 rfl 0 rfl dX10_makeNode_90 ?_
          refine r_get (ref := RX10) (C := RX10) (T := TX10) (N := 70) O 94 rfl inBX10 0 34 rfl rfl rfl (by decide) flX10_80 rfl rfl dX10_makeNode_91 ?_
          refine r_ald_n O 95 rfl 0 rfl dX10_makeNode_94 ?_
          refine r_get (ref := RX10) (C := RX10) (T := TX10) (N := 70) O 98 rfl inBX10 0 35 rfl rfl rfl (by decide) flX10_219 rfl rfl dX10_makeNode_95 ?_
          obtain ⟨x98, ex98, hin98, hf⟩ := qld_some hf
          refine r_iald O 99 rfl 0 17 rfl rfl hin98 dX10_makeNode_98 ?_
          rw [← ex98]
          obtain ⟨x99, p99_t, hq99, hf⟩ := qb2_some hf
          refine k_VI O 102 rfl (zX10_addNode (l := xl X) (D := xD X) (cI := cI) (cZ := cZ) (cQ := cQ) (h_t := h_t) hq99) (gV mlX10_232 mvX10_addNode izX10) rfl rfl rfl hdX10_addNode ⟨Nat.le_of_ble_eq_true rfl, Nat.le_of_ble_eq_true rfl⟩ rfl 0 rfl rfl rfl rfl (Nat.le_of_ble_eq_true rfl) ⟨Nat.zero_le _, Nat.zero_le _⟩ [0] rfl rfl rfl ([nX10 cI cZ cQ h_t p99_t]) rfl dX10_makeNode_99 ?_
          refine r_ist O 104 rfl [(5, .int x99), (0, .ref (h_t 0)), (1, .int y1), (2, .int y2), (3, .int y3), (4, .int y4)] dX10_makeNode_102 (by decide) rfl ?_
          refine r_ic O 105 rfl 0 (by decide) dX10_makeNode_104 ?_
          refine r_ist O 107 rfl [(6, .int 0), (5, .int x99), (0, .ref (h_t 0)), (1, .int y1), (2, .int y2), (3, .int y3), (4, .int y4)] dX10_makeNode_105 (by decide) rfl ?_
          refine r_lv [2, 5, 1, 0] rfl ?_
          exact B107 FU _ _ _ _ hf
        · rw [if_neg hc75] at hf
          obtain g0 := qe1 hf
          exact r_vret2 O E (by rw [g0]) dX10_makeNode_78
      · rw [if_neg hc12] at hf
        refine r_ald_n O 16 rfl 0 rfl dX10_makeNode_15 ?_
        refine r_get (ref := RX10) (C := RX10) (T := TX10) (N := 70) O 19 rfl inBX10 0 32 rfl rfl rfl (by decide) flX10_74 rfl rfl dX10_makeNode_16 ?_
        refine r_bi O 21 rfl 60 (by decide) dX10_makeNode_19 ?_
        refine r_ald_n O 22 rfl 0 rfl dX10_makeNode_21 ?_
        refine r_get (ref := RX10) (C := RX10) (T := TX10) (N := 70) O 25 rfl inBX10 0 35 rfl rfl rfl (by decide) flX10_219 rfl rfl dX10_makeNode_22 ?_
        refine r_imul O 26 rfl dX10_makeNode_25 ?_
        refine r_ic O 27 rfl 5 (by decide) dX10_makeNode_26 ?_
        refine r_ild O 29 rfl 5 rfl dX10_makeNode_27 ?_
        refine r_imul O 30 rfl dX10_makeNode_29 ?_
        refine r_iadd O 31 rfl dX10_makeNode_30 ?_
        obtain ⟨x31, ex31, hin31, hf⟩ := qld_some hf
        refine r_iald O 32 rfl 0 15 rfl rfl hin31 dX10_makeNode_31 ?_
        rw [← ex31]
        refine r_ic O 33 rfl 1 (by decide) dX10_makeNode_32 ?_
        refine r_icmp_ne O 36 rfl 68 dX10_makeNode_33 (by decide) (fun hc33 => ?_) (fun hc33 => ?_)
        · rw [if_neg hc33] at hf
          exact B68 rec8 hrec8 _ _ _ _ _ _ hf
        · rw [if_pos hc33] at hf
          refine r_ald_n O 37 rfl 0 rfl dX10_makeNode_36 ?_
          refine r_ald_n O 38 rfl 0 rfl dX10_makeNode_37 ?_
          refine r_get (ref := RX10) (C := RX10) (T := TX10) (N := 70) O 41 rfl inBX10 0 35 rfl rfl rfl (by decide) flX10_219 rfl rfl dX10_makeNode_38 ?_
          refine r_ild O 43 rfl 5 rfl dX10_makeNode_41 ?_
          refine r_ild_n O 44 rfl 1 rfl dX10_makeNode_43 ?_
          refine r_ild_n O 45 rfl 2 rfl dX10_makeNode_44 ?_
          obtain ⟨x45, hq45, hf⟩ := qb1_some hf
          refine k_VI O 48 rfl (zX10_price (l := xl X) (D := xD X) (cI := cI) (cZ := cZ) (cQ := cQ) (h_t := h_t) hq45) (gV mlX10_229 mvX10_price izX10) rfl rfl rfl hdX10_price ⟨Nat.le_of_ble_eq_true rfl, Nat.le_of_ble_eq_true rfl⟩ rfl 0 rfl rfl rfl rfl (Nat.le_of_ble_eq_true rfl) ⟨Nat.zero_le _, Nat.zero_le _⟩ [0] rfl rfl rfl ([nX10 cI cZ cQ h_t w_t]) rfl dX10_makeNode_45 ?_
          refine r_ist O 50 rfl [(6, .int x45), (0, .ref (h_t 0)), (1, .int y1), (2, .int y2), (3, .int y3), (4, .int y4), (5, .int y5)] dX10_makeNode_48 (by decide) rfl ?_
          refine r_ild_n O 51 rfl 4 rfl dX10_makeNode_50 ?_
          refine r_if_lt O 54 rfl 61 dX10_makeNode_51 (by decide) (fun hc51 => ?_) (fun hc51 => ?_)
          · rw [if_pos hc51] at hf
            refine r_lv [1, 2, 3, 6, 0] rfl ?_
            exact B61 rec8 hrec8 _ _ _ _ _ hf
          · rw [if_neg hc51] at hf
            refine r_ild O 56 rfl 0 rfl dX10_makeNode_54 ?_
            refine r_ild O 58 rfl 5 rfl dX10_makeNode_56 ?_
            refine r_icmp_ge O 61 rfl 68 dX10_makeNode_58 (by decide) (fun hc58 => ?_) (fun hc58 => ?_)
            · rw [if_pos hc58] at hf
              refine r_lv [1, 2, 3, 4, 5, 6] rfl ?_
              exact B68 rec8 hrec8 _ _ _ _ _ _ hf
            · rw [if_neg hc58] at hf
              refine r_lv [1, 2, 3, 6, 0] rfl ?_
              exact B61 rec8 hrec8 _ _ _ _ _ hf
  unfold fX10_makeNode at hf
  refine r_ic O 1 rfl (-1) (by decide) dX10_makeNode_0 ?_
  refine r_ist_n O 2 rfl rfl [(3, .int (-1)), (0, .ref (h_t 0)), (1, .int a1), (2, .int a2)] dX10_makeNode_1 (by decide) rfl ?_
  refine r_ic O 3 rfl 0 (by decide) dX10_makeNode_2 ?_
  refine r_ist O 5 rfl [(4, .int 0), (3, .int (-1)), (0, .ref (h_t 0)), (1, .int a1), (2, .int a2)] dX10_makeNode_3 (by decide) rfl ?_
  refine r_ic O 6 rfl 0 (by decide) dX10_makeNode_5 ?_
  refine r_ist O 8 rfl [(5, .int 0), (4, .int 0), (3, .int (-1)), (0, .ref (h_t 0)), (1, .int a1), (2, .int a2)] dX10_makeNode_6 (by decide) rfl ?_
  refine r_lv [3, 4, 5, 2, 1, 0] rfl ?_
  exact B8 FU _ _ _ _ _ _ hf
-- X10_makeFixed
def rmX10_makeFixed : Room := { frames := 7, cells := 0, slots := 0, locals := 181 }
set_option maxHeartbeats 4000000 in
set_option maxRecDepth 100000 in
theorem zX10_makeFixed {l : Launch} {D : va_G} {cI cZ cQ : ClassId} {h_t : Nat → Nat} {u_t : Pk} {a1 : Int32} {a2 : Int32} {v_t : Pk} (hf : fX10_makeFixed u_t a1 a2 = some v_t) : MV l yX10_makeFixed wsX10_makeFixed rmX10_makeFixed D (TY cI cZ cQ) [.ref (h_t 0), .int a1, .int a2] [nX10 cI cZ cQ h_t u_t] [nX10 cI cZ cQ h_t v_t] := by
  refine MV.of (own := RX10) (by decide +kernel) rfl rfl (Nat.le_of_ble_eq_true rfl) (lv0 := [(0, .ref (h_t 0)), (1, .int a1), (2, .int a2)]) rfl ?_
  intro X O E
  have B84 : ∀ n : Nat, ∀ (w_t : Pk) (y1 : Int32) (y2 : Int32), fX10_makeFixed_b84 n w_t y1 y2 = some v_t → BK X 4 0 0 84 ([nX10 cI cZ cQ h_t w_t]) [(0, .ref (h_t 0)), (1, .int y1), (2, .int y2)] [] := by
    intro n
    induction n with
    | zero => exact fun _ _ _ hf => qno hf
    | succ n hrec84 =>
      intro w_t y1 y2 hf
      have hf : fX10_makeFixed_b84_s (fX10_makeFixed_b84 n) w_t y1 y2 = some v_t := hf
      generalize fX10_makeFixed_b84 n = rec84 at hf hrec84
      unfold fX10_makeFixed_b84_s at hf
      refine r_ald_n O 85 rfl 0 rfl dX10_makeFixed_84 ?_
      refine r_get (ref := RX10) (C := RX10) (T := TX10) (N := 70) O 88 rfl inBX10 0 35 rfl rfl rfl (by decide) flX10_219 rfl rfl dX10_makeFixed_85 ?_
      refine r_if_le O 91 rfl 110 dX10_makeFixed_88 (by decide) (fun hc88 => ?_) (fun hc88 => ?_)
      · rw [if_pos hc88] at hf
        obtain g0 := qe1 hf
        exact r_vret2 O E (by rw [g0]) dX10_makeFixed_110
      · rw [if_neg hc88] at hf
        refine r_ald_n O 92 rfl 0 rfl dX10_makeFixed_91 ?_
        refine r_dup O 93 rfl dX10_makeFixed_92 rfl ?_
        refine r_get (ref := RX10) (C := RX10) (T := TX10) (N := 70) O 96 rfl inBX10 0 35 rfl rfl rfl (by decide) flX10_219 rfl rfl dX10_makeFixed_93 ?_
        refine r_ic O 97 rfl 1 (by decide) dX10_makeFixed_96 ?_
        refine r_isub O 98 rfl dX10_makeFixed_97 ?_
        obtain ⟨p98_t, ep98_t, hf⟩ := qn_some hf
        refine r_put (ref := RX10) (C := RX10) (T := TX10) (N := 70) O 101 rfl inBX10 tyX10 tyX10_ok nmX10 0 35 rfl rfl rfl (by decide) flX10_219 rfl rfl rfl rfl (Nat.le_of_ble_eq_true rfl) ([nX10 cI cZ cQ h_t p98_t]) (by rw [ep98_t]; rfl) dX10_makeFixed_98 ?_
        refine r_ald_n O 102 rfl 0 rfl dX10_makeFixed_101 ?_
        refine r_ild_n O 103 rfl 1 rfl dX10_makeFixed_102 ?_
        refine r_ild_n O 104 rfl 2 rfl dX10_makeFixed_103 ?_
        obtain ⟨p104_t, hq104, hf⟩ := qb1_some hf
        refine k_VV O 107 rfl (zX10_makeNode (l := xl X) (D := xD X) (cI := cI) (cZ := cZ) (cQ := cQ) (h_t := h_t) hq104) (gV mlX10_226 mvX10_makeNode izX10) rfl rfl rfl hdX10_makeNode ⟨Nat.le_of_ble_eq_true rfl, Nat.le_of_ble_eq_true rfl⟩ rfl 0 rfl rfl rfl rfl (Nat.le_of_ble_eq_true rfl) ⟨Nat.zero_le _, Nat.zero_le _⟩ [0] rfl rfl rfl ([nX10 cI cZ cQ h_t p104_t]) rfl dX10_makeFixed_104 ?_
        refine r_goto O 84 dX10_makeFixed_107 (by decide) ?_
        exact hrec84 _ _ _ hf
  have B77 : ∀ (rec29 : Pk → Int32 → Int32 → Int32 → Option (Pk)), (∀ (w_t : Pk) (y1 : Int32) (y2 : Int32) (y3 : Int32), rec29 w_t y1 y2 y3 = some v_t → BK X 4 0 0 29 ([nX10 cI cZ cQ h_t w_t]) [(0, .ref (h_t 0)), (1, .int y1), (2, .int y2), (3, .int y3)] []) → ∀ (w_t : Pk) (y1 : Int32) (y2 : Int32) (y3 : Int32) (z1 : Int32) (z2 : Int32), fX10_makeFixed_b77 rec29 w_t y1 y2 y3 z1 z2 = some v_t → BK X 4 0 0 77 ([nX10 cI cZ cQ h_t w_t]) [(0, .ref (h_t 0)), (1, .int y1), (2, .int y2), (3, .int y3)] [.int z2, .int z1, .ref (h_t 33)] := by
    intro rec29 hrec29 w_t y1 y2 y3 z1 z2 hf
    unfold fX10_makeFixed_b77 at hf
    obtain ⟨hin77, hf⟩ := qst_some hf
    obtain ⟨p77_t, ep77_t, hf⟩ := qn_some hf
    refine r_iast O 78 rfl 0 15 rfl rfl hin77 ([nX10 cI cZ cQ h_t p77_t]) (by rw [ep77_t]; rfl) dX10_makeFixed_77 ?_
    obtain ⟨x78, ex78, hf⟩ := qn_some hf
    refine r_iinc O 81 rfl x78 3 rfl (by rw [ex78]; rfl) [(3, .int x78), (0, .ref (h_t 0)), (1, .int y1), (2, .int y2)] dX10_makeFixed_78 (by decide) rfl ?_
    refine r_goto O 29 dX10_makeFixed_81 (by decide) ?_
    refine r_lv [1, 2, 3, 0] rfl ?_
    exact hrec29 _ _ _ _ hf
  have B76 : ∀ (rec29 : Pk → Int32 → Int32 → Int32 → Option (Pk)), (∀ (w_t : Pk) (y1 : Int32) (y2 : Int32) (y3 : Int32), rec29 w_t y1 y2 y3 = some v_t → BK X 4 0 0 29 ([nX10 cI cZ cQ h_t w_t]) [(0, .ref (h_t 0)), (1, .int y1), (2, .int y2), (3, .int y3)] []) → ∀ (w_t : Pk) (y1 : Int32) (y2 : Int32) (y3 : Int32) (z1 : Int32), fX10_makeFixed_b76 rec29 w_t y1 y2 y3 z1 = some v_t → BK X 4 0 0 76 ([nX10 cI cZ cQ h_t w_t]) [(0, .ref (h_t 0)), (1, .int y1), (2, .int y2), (3, .int y3)] [.int z1, .ref (h_t 33)] := by
    intro rec29 hrec29 w_t y1 y2 y3 z1 hf
    unfold fX10_makeFixed_b76 at hf
    refine r_ic O 77 rfl 0 (by decide) dX10_makeFixed_76 ?_
    exact B77 rec29 hrec29 _ _ _ _ _ _ hf
  have B29 : ∀ n : Nat, ∀ (w_t : Pk) (y1 : Int32) (y2 : Int32) (y3 : Int32), fX10_makeFixed_b29 n w_t y1 y2 y3 = some v_t → BK X 4 0 0 29 ([nX10 cI cZ cQ h_t w_t]) [(0, .ref (h_t 0)), (1, .int y1), (2, .int y2), (3, .int y3)] [] := by
    intro n
    induction n with
    | zero => exact fun _ _ _ _ hf => qno hf
    | succ n hrec29 =>
      intro w_t y1 y2 y3 hf
      have hf : fX10_makeFixed_b29_s (fX10_makeFixed_b29 n) w_t y1 y2 y3 = some v_t := hf
      generalize fX10_makeFixed_b29 n = rec29 at hf hrec29
      unfold fX10_makeFixed_b29_s at hf
      refine r_ild_n O 30 rfl 3 rfl dX10_makeFixed_29 ?_
      refine r_bi O 32 rfl 12 (by decide) dX10_makeFixed_30 ?_
      refine r_icmp_ge O 35 rfl 84 dX10_makeFixed_32 (by decide) (fun hc32 => ?_) (fun hc32 => ?_)
      · rw [if_pos hc32] at hf
        refine r_lv [0, 1, 2] rfl ?_
        exact B84 FU _ _ _ hf
      · rw [if_neg hc32] at hf
        refine r_ald_n O 36 rfl 0 rfl dX10_makeFixed_35 ?_
        refine r_ic O 37 rfl 0 (by decide) dX10_makeFixed_36 ?_
        refine r_ild_n O 38 rfl 3 rfl dX10_makeFixed_37 ?_
        refine r_ic O 39 rfl 0 (by decide) dX10_makeFixed_38 ?_
        refine r_ic O 40 rfl 1 (by decide) dX10_makeFixed_39 ?_
        refine r_ic O 41 rfl 1 (by decide) dX10_makeFixed_40 ?_
        refine r_ic O 42 rfl 1 (by decide) dX10_makeFixed_41 ?_
        obtain ⟨p42_t, hq42, hf⟩ := qb1_some hf
        refine k_VV O 45 rfl (zX10_put (l := xl X) (D := xD X) (cI := cI) (cZ := cZ) (cQ := cQ) (h_t := h_t) hq42) (gV mlX10_222 mvX10_put izX10) rfl rfl rfl hdX10_put ⟨Nat.le_of_ble_eq_true rfl, Nat.le_of_ble_eq_true rfl⟩ rfl 0 rfl rfl rfl rfl (Nat.le_of_ble_eq_true rfl) ⟨Nat.zero_le _, Nat.zero_le _⟩ [0] rfl rfl rfl ([nX10 cI cZ cQ h_t p42_t]) rfl dX10_makeFixed_42 ?_
        refine r_ald_n O 46 rfl 0 rfl dX10_makeFixed_45 ?_
        refine r_get (ref := RX10) (C := RX10) (T := TX10) (N := 70) O 49 rfl inBX10 0 32 rfl rfl rfl (by decide) flX10_74 rfl rfl dX10_makeFixed_46 ?_
        refine r_ic O 50 rfl 5 (by decide) dX10_makeFixed_49 ?_
        refine r_ild_n O 51 rfl 3 rfl dX10_makeFixed_50 ?_
        refine r_imul O 52 rfl dX10_makeFixed_51 ?_
        refine r_ald_n O 53 rfl 0 rfl dX10_makeFixed_52 ?_
        refine r_ild_n O 54 rfl 3 rfl dX10_makeFixed_53 ?_
        refine r_ic O 55 rfl 0 (by decide) dX10_makeFixed_54 ?_
        obtain ⟨x55, hq55, hf⟩ := qb1_some hf
        refine k_VI O 58 rfl (zX10_at (l := xl X) (D := xD X) (cI := cI) (cZ := cZ) (cQ := cQ) (h_t := h_t) hq55) (gV mlX10_129 mvX10_at izX10) rfl rfl rfl hdX10_at ⟨Nat.le_of_ble_eq_true rfl, Nat.le_of_ble_eq_true rfl⟩ rfl 0 rfl rfl rfl rfl (Nat.le_of_ble_eq_true rfl) ⟨Nat.zero_le _, Nat.zero_le _⟩ [0] rfl rfl rfl ([nX10 cI cZ cQ h_t p42_t]) rfl dX10_makeFixed_55 ?_
        refine r_ic O 59 rfl 1 (by decide) dX10_makeFixed_58 ?_
        refine r_icmp_ne O 62 rfl 76 dX10_makeFixed_59 (by decide) (fun hc59 => ?_) (fun hc59 => ?_)
        · rw [if_neg hc59] at hf
          exact B76 rec29 hrec29 _ _ _ _ _ hf
        · rw [if_pos hc59] at hf
          refine r_ald_n O 63 rfl 0 rfl dX10_makeFixed_62 ?_
          refine r_ild_n O 64 rfl 3 rfl dX10_makeFixed_63 ?_
          refine r_bi O 66 rfl 6 (by decide) dX10_makeFixed_64 ?_
          obtain ⟨x66, hq66, hf⟩ := qb1_some hf
          refine k_VI O 69 rfl (zX10_at (l := xl X) (D := xD X) (cI := cI) (cZ := cZ) (cQ := cQ) (h_t := h_t) hq66) (gV mlX10_129 mvX10_at izX10) rfl rfl rfl hdX10_at ⟨Nat.le_of_ble_eq_true rfl, Nat.le_of_ble_eq_true rfl⟩ rfl 0 rfl rfl rfl rfl (Nat.le_of_ble_eq_true rfl) ⟨Nat.zero_le _, Nat.zero_le _⟩ [0] rfl rfl rfl ([nX10 cI cZ cQ h_t p42_t]) rfl dX10_makeFixed_66 ?_
          refine r_if_ne O 72 rfl 76 dX10_makeFixed_69 (by decide) (fun hc69 => ?_) (fun hc69 => ?_)
          · rw [if_neg hc69] at hf
            exact B76 rec29 hrec29 _ _ _ _ _ hf
          · rw [if_pos hc69] at hf
            refine r_ic O 73 rfl 1 (by decide) dX10_makeFixed_72 ?_
            refine r_goto O 77 dX10_makeFixed_73 (by decide) ?_
            exact B77 rec29 hrec29 _ _ _ _ _ _ hf
  unfold fX10_makeFixed at hf
  refine r_ald_n O 1 rfl 0 rfl dX10_makeFixed_0 ?_
  refine r_ic O 2 rfl 0 (by decide) dX10_makeFixed_1 ?_
  obtain ⟨p2_t, ep2_t, hf⟩ := qn_some hf
  refine r_put (ref := RX10) (C := RX10) (T := TX10) (N := 70) O 5 rfl inBX10 tyX10 tyX10_ok nmX10 0 25 rfl rfl rfl (by decide) flX10_209 rfl rfl rfl rfl (Nat.le_of_ble_eq_true rfl) ([nX10 cI cZ cQ h_t p2_t]) (by rw [ep2_t]; rfl) dX10_makeFixed_2 ?_
  refine r_ald_n O 6 rfl 0 rfl dX10_makeFixed_5 ?_
  refine r_ic O 7 rfl 0 (by decide) dX10_makeFixed_6 ?_
  obtain ⟨p7_t, ep7_t, hf⟩ := qn_some hf
  refine r_put (ref := RX10) (C := RX10) (T := TX10) (N := 70) O 10 rfl inBX10 tyX10 tyX10_ok nmX10 0 31 rfl rfl rfl (by decide) flX10_206 rfl rfl rfl rfl (Nat.le_of_ble_eq_true rfl) ([nX10 cI cZ cQ h_t p7_t]) (by rw [ep7_t]; rfl) dX10_makeFixed_7 ?_
  refine r_ald_n O 11 rfl 0 rfl dX10_makeFixed_10 ?_
  refine r_ic O 12 rfl (-1) (by decide) dX10_makeFixed_11 ?_
  obtain ⟨p12_t, ep12_t, hf⟩ := qn_some hf
  refine r_put (ref := RX10) (C := RX10) (T := TX10) (N := 70) O 15 rfl inBX10 tyX10 tyX10_ok nmX10 0 26 rfl rfl rfl (by decide) flX10_212 rfl rfl rfl rfl (Nat.le_of_ble_eq_true rfl) ([nX10 cI cZ cQ h_t p12_t]) (by rw [ep12_t]; rfl) dX10_makeFixed_12 ?_
  refine r_ald_n O 16 rfl 0 rfl dX10_makeFixed_15 ?_
  refine r_ic O 17 rfl 1 (by decide) dX10_makeFixed_16 ?_
  obtain ⟨p17_t, ep17_t, hf⟩ := qn_some hf
  refine r_put (ref := RX10) (C := RX10) (T := TX10) (N := 70) O 20 rfl inBX10 tyX10 tyX10_ok nmX10 0 35 rfl rfl rfl (by decide) flX10_219 rfl rfl rfl rfl (Nat.le_of_ble_eq_true rfl) ([nX10 cI cZ cQ h_t p17_t]) (by rw [ep17_t]; rfl) dX10_makeFixed_17 ?_
  refine r_ald_n O 21 rfl 0 rfl dX10_makeFixed_20 ?_
  refine r_get (ref := RX10) (C := RX10) (T := TX10) (N := 70) O 24 rfl inBX10 0 33 rfl rfl rfl (by decide) flX10_77 rfl rfl dX10_makeFixed_21 ?_
  refine r_ic O 25 rfl 0 (by decide) dX10_makeFixed_24 ?_
  refine r_ic O 26 rfl (-1) (by decide) dX10_makeFixed_25 ?_
  obtain ⟨hin26, hf⟩ := qst_some hf
  obtain ⟨p26_t, ep26_t, hf⟩ := qn_some hf
  refine r_iast O 27 rfl 0 16 rfl rfl hin26 ([nX10 cI cZ cQ h_t p26_t]) (by rw [ep26_t]; rfl) dX10_makeFixed_26 ?_
  refine r_ic O 28 rfl 0 (by decide) dX10_makeFixed_27 ?_
  refine r_ist_n O 29 rfl rfl [(3, .int 0), (0, .ref (h_t 0)), (1, .int a1), (2, .int a2)] dX10_makeFixed_28 (by decide) rfl ?_
  refine r_lv [1, 2, 3, 0] rfl ?_
  exact B29 FU _ _ _ _ hf
-- X10_push
def rmX10_push : Room := { frames := 0, cells := 0, slots := 0, locals := 0 }
set_option maxHeartbeats 4000000 in
set_option maxRecDepth 100000 in
theorem zX10_push {l : Launch} {D : va_G} {cI cZ cQ : ClassId} {h_t : Nat → Nat} {u_t : Pk} {a1 : Int32} {a2 : Int32} {a3 : Int32} {a4 : Int32} {a5 : Int32} {a6 : Int32} {a7 : Int32} {v_t : Pk} (hf : fX10_push u_t a1 a2 a3 a4 a5 a6 a7 = some v_t) : MV l yX10_push wsX10_push rmX10_push D (TY cI cZ cQ) [.ref (h_t 0), .int a1, .int a2, .int a3, .int a4, .int a5, .int a6, .int a7] [nX10 cI cZ cQ h_t u_t] [nX10 cI cZ cQ h_t v_t] := by
  refine MV.of (own := RX10) (by decide +kernel) rfl rfl (Nat.le_of_ble_eq_true rfl) (lv0 := [(0, .ref (h_t 0)), (1, .int a1), (2, .int a2), (3, .int a3), (4, .int a4), (5, .int a5), (6, .int a6), (7, .int a7)]) rfl ?_
  intro X O E
  have B31 : ∀ (w_t : Pk) (y2 : Int32) (y3 : Int32) (y4 : Int32) (y5 : Int32) (y6 : Int32) (y7 : Int32) (y8 : Int32) (z1 : Int32) (z2 : Int32), fX10_push_b31 w_t y2 y3 y4 y5 y6 y7 y8 z1 z2 = some v_t → BK X 9 0 0 31 ([nX10 cI cZ cQ h_t w_t]) [(0, .ref (h_t 0)), (2, .int y2), (3, .int y3), (4, .int y4), (5, .int y5), (6, .int y6), (7, .int y7), (8, .int y8)] [.int z2, .int z1, .ref (h_t 38)] := by
    intro w_t y2 y3 y4 y5 y6 y7 y8 z1 z2 hf
    unfold fX10_push_b31 at hf
    obtain ⟨hin31, hf⟩ := qst_some hf
    obtain ⟨p31_t, ep31_t, hf⟩ := qn_some hf
    refine r_iast O 32 rfl 0 19 rfl rfl hin31 ([nX10 cI cZ cQ h_t p31_t]) (by rw [ep31_t]; rfl) dX10_push_31 ?_
    refine r_ald_n O 33 rfl 0 rfl dX10_push_32 ?_
    refine r_get (ref := RX10) (C := RX10) (T := TX10) (N := 70) O 36 rfl inBX10 0 37 rfl rfl rfl (by decide) flX10_86 rfl rfl dX10_push_33 ?_
    refine r_ild O 38 rfl 7 rfl dX10_push_36 ?_
    refine r_ic O 39 rfl 1 (by decide) dX10_push_38 ?_
    refine r_iadd O 40 rfl dX10_push_39 ?_
    refine r_ild_n O 41 rfl 1 rfl dX10_push_40 ?_
    obtain ⟨hin41, hf⟩ := qst_some hf
    obtain ⟨p41_t, ep41_t, hf⟩ := qn_some hf
    refine r_iast O 42 rfl 0 19 rfl rfl hin41 ([nX10 cI cZ cQ h_t p41_t]) (by rw [ep41_t]; rfl) dX10_push_41 ?_
    refine r_ald_n O 43 rfl 0 rfl dX10_push_42 ?_
    refine r_get (ref := RX10) (C := RX10) (T := TX10) (N := 70) O 46 rfl inBX10 0 37 rfl rfl rfl (by decide) flX10_86 rfl rfl dX10_push_43 ?_
    refine r_ild O 48 rfl 7 rfl dX10_push_46 ?_
    refine r_ic O 49 rfl 2 (by decide) dX10_push_48 ?_
    refine r_iadd O 50 rfl dX10_push_49 ?_
    refine r_ild_n O 51 rfl 2 rfl dX10_push_50 ?_
    obtain ⟨hin51, hf⟩ := qst_some hf
    obtain ⟨p51_t, ep51_t, hf⟩ := qn_some hf
    refine r_iast O 52 rfl 0 19 rfl rfl hin51 ([nX10 cI cZ cQ h_t p51_t]) (by rw [ep51_t]; rfl) dX10_push_51 ?_
    refine r_ald_n O 53 rfl 0 rfl dX10_push_52 ?_
    refine r_get (ref := RX10) (C := RX10) (T := TX10) (N := 70) O 56 rfl inBX10 0 37 rfl rfl rfl (by decide) flX10_86 rfl rfl dX10_push_53 ?_
    refine r_ild O 58 rfl 7 rfl dX10_push_56 ?_
    refine r_ic O 59 rfl 3 (by decide) dX10_push_58 ?_
    refine r_iadd O 60 rfl dX10_push_59 ?_
    refine r_ild O 62 rfl 3 rfl dX10_push_60 ?_
    obtain ⟨hin62, hf⟩ := qst_some hf
    obtain ⟨p62_t, ep62_t, hf⟩ := qn_some hf
    refine r_iast O 63 rfl 0 19 rfl rfl hin62 ([nX10 cI cZ cQ h_t p62_t]) (by rw [ep62_t]; rfl) dX10_push_62 ?_
    refine r_ald_n O 64 rfl 0 rfl dX10_push_63 ?_
    refine r_get (ref := RX10) (C := RX10) (T := TX10) (N := 70) O 67 rfl inBX10 0 37 rfl rfl rfl (by decide) flX10_86 rfl rfl dX10_push_64 ?_
    refine r_ild O 69 rfl 7 rfl dX10_push_67 ?_
    refine r_ic O 70 rfl 4 (by decide) dX10_push_69 ?_
    refine r_iadd O 71 rfl dX10_push_70 ?_
    refine r_ild O 73 rfl 4 rfl dX10_push_71 ?_
    obtain ⟨hin73, hf⟩ := qst_some hf
    obtain ⟨p73_t, ep73_t, hf⟩ := qn_some hf
    refine r_iast O 74 rfl 0 19 rfl rfl hin73 ([nX10 cI cZ cQ h_t p73_t]) (by rw [ep73_t]; rfl) dX10_push_73 ?_
    refine r_ald_n O 75 rfl 0 rfl dX10_push_74 ?_
    refine r_get (ref := RX10) (C := RX10) (T := TX10) (N := 70) O 78 rfl inBX10 0 37 rfl rfl rfl (by decide) flX10_86 rfl rfl dX10_push_75 ?_
    refine r_ild O 80 rfl 7 rfl dX10_push_78 ?_
    refine r_ic O 81 rfl 5 (by decide) dX10_push_80 ?_
    refine r_iadd O 82 rfl dX10_push_81 ?_
    refine r_ild O 84 rfl 5 rfl dX10_push_82 ?_
    obtain ⟨hin84, hf⟩ := qst_some hf
    obtain ⟨p84_t, ep84_t, hf⟩ := qn_some hf
    refine r_iast O 85 rfl 0 19 rfl rfl hin84 ([nX10 cI cZ cQ h_t p84_t]) (by rw [ep84_t]; rfl) dX10_push_84 ?_
    refine r_ald_n O 86 rfl 0 rfl dX10_push_85 ?_
    refine r_get (ref := RX10) (C := RX10) (T := TX10) (N := 70) O 89 rfl inBX10 0 37 rfl rfl rfl (by decide) flX10_86 rfl rfl dX10_push_86 ?_
    refine r_ild O 91 rfl 7 rfl dX10_push_89 ?_
    refine r_bi O 93 rfl 6 (by decide) dX10_push_91 ?_
    refine r_iadd O 94 rfl dX10_push_93 ?_
    refine r_ild O 96 rfl 6 rfl dX10_push_94 ?_
    obtain ⟨hin96, hf⟩ := qst_some hf
    obtain ⟨p96_t, ep96_t, hf⟩ := qn_some hf
    refine r_iast O 97 rfl 0 19 rfl rfl hin96 ([nX10 cI cZ cQ h_t p96_t]) (by rw [ep96_t]; rfl) dX10_push_96 ?_
    obtain g0 := qe1 hf
    exact r_vret2 O E (by rw [g0]) dX10_push_97
  unfold fX10_push at hf
  refine r_bi O 2 rfl 7 (by decide) dX10_push_0 ?_
  refine r_ild_n O 3 rfl 1 rfl dX10_push_2 ?_
  refine r_imul O 4 rfl dX10_push_3 ?_
  obtain ⟨x4, ex4, hf⟩ := qn_some hf
  rw [← ex4]
  refine r_ist O 6 rfl [(8, .int x4), (0, .ref (h_t 0)), (1, .int a1), (2, .int a2), (3, .int a3), (4, .int a4), (5, .int a5), (6, .int a6), (7, .int a7)] dX10_push_4 (by decide) rfl ?_
  refine r_ald_n O 7 rfl 1 rfl dX10_push_6 ?_
  refine r_get (ref := RX10) (C := RX10) (T := TX10) (N := 70) O 10 rfl inBX10 0 37 rfl rfl rfl (by decide) flX10_86 rfl rfl dX10_push_7 ?_
  refine r_ild O 12 rfl 0 rfl dX10_push_10 ?_
  refine r_ild_n O 13 rfl 4 rfl dX10_push_12 ?_
  refine r_if_ne O 16 rfl 25 dX10_push_13 (by decide) (fun hc13 => ?_) (fun hc13 => ?_)
  · rw [if_neg hc13] at hf
    refine r_ald_n O 26 rfl 1 rfl dX10_push_25 ?_
    refine r_get (ref := RX10) (C := RX10) (T := TX10) (N := 70) O 29 rfl inBX10 0 22 rfl rfl rfl (by decide) flX10_53 rfl rfl dX10_push_26 ?_
    refine r_ild_n O 30 rfl 3 rfl dX10_push_29 ?_
    obtain ⟨x30, ex30, hin30, hf⟩ := qld_some hf
    refine r_iald O 31 rfl 0 8 rfl rfl hin30 dX10_push_30 ?_
    rw [← ex30]
    refine r_lv [1, 3, 4, 5, 6, 7, 8, 0] rfl ?_
    exact B31 _ _ _ _ _ _ _ _ _ _ hf
  · rw [if_pos hc13] at hf
    refine r_ald_n O 17 rfl 1 rfl dX10_push_16 ?_
    refine r_get (ref := RX10) (C := RX10) (T := TX10) (N := 70) O 20 rfl inBX10 0 21 rfl rfl rfl (by decide) flX10_50 rfl rfl dX10_push_17 ?_
    refine r_ild_n O 21 rfl 3 rfl dX10_push_20 ?_
    obtain ⟨x21, ex21, hin21, hf⟩ := qld_some hf
    refine r_iald O 22 rfl 0 7 rfl rfl hin21 dX10_push_21 ?_
    rw [← ex21]
    refine r_goto O 31 dX10_push_22 (by decide) ?_
    refine r_lv [1, 3, 4, 5, 6, 7, 8, 0] rfl ?_
    exact B31 _ _ _ _ _ _ _ _ _ _ hf
-- X10_insert
def rmX10_insert : Room := { frames := 5, cells := 0, slots := 0, locals := 125 }
set_option maxHeartbeats 4000000 in
set_option maxRecDepth 100000 in
theorem zX10_insert {l : Launch} {D : va_G} {cI cZ cQ : ClassId} {h_t : Nat → Nat} {u_t : Pk} {a1 : Int32} {v_t : Pk} (hf : fX10_insert u_t a1 = some v_t) : MV l yX10_insert wsX10_insert rmX10_insert D (TY cI cZ cQ) [.ref (h_t 0), .int a1] [nX10 cI cZ cQ h_t u_t] [nX10 cI cZ cQ h_t v_t] := by
  refine MV.of (own := RX10) (by decide +kernel) rfl rfl (Nat.le_of_ble_eq_true rfl) (lv0 := [(0, .ref (h_t 0)), (1, .int a1)]) rfl ?_
  intro X O E
  have B336 : ∀ (rec55 : Pk → Int32 → Int32 → Option (Pk)), (∀ (w_t : Pk) (y1 : Int32) (y2 : Int32), rec55 w_t y1 y2 = some v_t → BK X 12 0 0 55 ([nX10 cI cZ cQ h_t w_t]) [(0, .ref (h_t 0)), (1, .int y1), (2, .int y2)] []) → ∀ (w_t : Pk) (y1 : Int32) (y2 : Int32), fX10_insert_b336 rec55 w_t y1 y2 = some v_t → BK X 12 0 0 336 ([nX10 cI cZ cQ h_t w_t]) [(0, .ref (h_t 0)), (1, .int y1), (2, .int y2)] [] := by
    intro rec55 hrec55 w_t y1 y2 hf
    unfold fX10_insert_b336 at hf
    refine r_goto O 55 dX10_insert_336 (by decide) ?_
    exact hrec55 _ _ _ hf
  have B322 : ∀ (rec55 : Pk → Int32 → Int32 → Option (Pk)), (∀ (w_t : Pk) (y1 : Int32) (y2 : Int32), rec55 w_t y1 y2 = some v_t → BK X 12 0 0 55 ([nX10 cI cZ cQ h_t w_t]) [(0, .ref (h_t 0)), (1, .int y1), (2, .int y2)] []) → ∀ (w_t : Pk) (y1 : Int32) (y2 : Int32) (y5 : Int32) (y6 : Int32) (y7 : Int32) (y8 : Int32) (z1 : Int32) (z2 : Int32) (z3 : Int32), fX10_insert_b322 rec55 w_t y1 y2 y5 y6 y7 y8 z1 z2 z3 = some v_t → BK X 12 0 0 322 ([nX10 cI cZ cQ h_t w_t]) [(0, .ref (h_t 0)), (1, .int y1), (2, .int y2), (5, .int y5), (6, .int y6), (7, .int y7), (8, .int y8)] [.int z3, .int z2, .int z1, .ref (h_t 0)] := by
    intro rec55 hrec55 w_t y1 y2 y5 y6 y7 y8 z1 z2 z3 hf
    unfold fX10_insert_b322 at hf
    refine r_ild O 324 rfl 3 rfl dX10_insert_322 ?_
    refine r_ild O 326 rfl 4 rfl dX10_insert_324 ?_
    refine r_ild O 328 rfl 5 rfl dX10_insert_326 ?_
    refine r_ild O 330 rfl 6 rfl dX10_insert_328 ?_
    obtain ⟨p330_t, hq330, hf⟩ := qb1_some hf
    refine k_VV O 333 rfl (zX10_push (l := xl X) (D := xD X) (cI := cI) (cZ := cZ) (cQ := cQ) (h_t := h_t) hq330) (gV mlX10_245 mvX10_push izX10) rfl rfl rfl hdX10_push ⟨Nat.le_of_ble_eq_true rfl, Nat.le_of_ble_eq_true rfl⟩ rfl 0 rfl rfl rfl rfl (Nat.le_of_ble_eq_true rfl) ⟨Nat.zero_le _, Nat.zero_le _⟩ [0] rfl rfl rfl ([nX10 cI cZ cQ h_t p330_t]) rfl dX10_insert_330 ?_
    obtain ⟨x333, ex333, hf⟩ := qn_some hf
    refine r_iinc O 336 rfl x333 2 rfl (by rw [ex333]; rfl) [(2, .int x333), (0, .ref (h_t 0)), (1, .int y1), (5, .int y5), (6, .int y6), (7, .int y7), (8, .int y8)] dX10_insert_333 (by decide) rfl ?_
    refine r_lv [1, 2, 0] rfl ?_
    exact B336 rec55 hrec55 _ _ _ hf
  have B286 : ∀ (rec55 : Pk → Int32 → Int32 → Option (Pk)), (∀ (w_t : Pk) (y1 : Int32) (y2 : Int32), rec55 w_t y1 y2 = some v_t → BK X 12 0 0 55 ([nX10 cI cZ cQ h_t w_t]) [(0, .ref (h_t 0)), (1, .int y1), (2, .int y2)] []) → ∀ (w_t : Pk) (y1 : Int32) (y2 : Int32) (y5 : Int32) (y6 : Int32) (z1 : Int32) (z2 : Int32) (z3 : Int32), fX10_insert_b286 rec55 w_t y1 y2 y5 y6 z1 z2 z3 = some v_t → BK X 12 0 0 286 ([nX10 cI cZ cQ h_t w_t]) [(0, .ref (h_t 0)), (1, .int y1), (2, .int y2), (5, .int y5), (6, .int y6)] [.int z3, .int z2, .int z1, .ref (h_t 0)] := by
    intro rec55 hrec55 w_t y1 y2 y5 y6 z1 z2 z3 hf
    unfold fX10_insert_b286 at hf
    refine r_ild O 288 rfl 3 rfl dX10_insert_286 ?_
    refine r_ild O 290 rfl 4 rfl dX10_insert_288 ?_
    refine r_ald_n O 291 rfl 0 rfl dX10_insert_290 ?_
    refine r_get (ref := RX10) (C := RX10) (T := TX10) (N := 70) O 294 rfl inBX10 0 18 rfl rfl rfl (by decide) flX10_200 rfl rfl dX10_insert_291 ?_
    refine r_ald_n O 295 rfl 0 rfl dX10_insert_294 ?_
    refine r_get (ref := RX10) (C := RX10) (T := TX10) (N := 70) O 298 rfl inBX10 0 19 rfl rfl rfl (by decide) flX10_203 rfl rfl dX10_insert_295 ?_
    obtain ⟨p298_t, hq298, hf⟩ := qb1_some hf
    refine k_VV O 301 rfl (zX10_push (l := xl X) (D := xD X) (cI := cI) (cZ := cZ) (cQ := cQ) (h_t := h_t) hq298) (gV mlX10_245 mvX10_push izX10) rfl rfl rfl hdX10_push ⟨Nat.le_of_ble_eq_true rfl, Nat.le_of_ble_eq_true rfl⟩ rfl 0 rfl rfl rfl rfl (Nat.le_of_ble_eq_true rfl) ⟨Nat.zero_le _, Nat.zero_le _⟩ [0] rfl rfl rfl ([nX10 cI cZ cQ h_t p298_t]) rfl dX10_insert_298 ?_
    obtain ⟨x301, ex301, hf⟩ := qn_some hf
    refine r_iinc O 304 rfl x301 2 rfl (by rw [ex301]; rfl) [(2, .int x301), (0, .ref (h_t 0)), (1, .int y1), (5, .int y5), (6, .int y6)] dX10_insert_301 (by decide) rfl ?_
    refine r_goto O 336 dX10_insert_304 (by decide) ?_
    refine r_lv [1, 2, 0] rfl ?_
    exact B336 rec55 hrec55 _ _ _ hf
  have B255 : ∀ (rec55 : Pk → Int32 → Int32 → Option (Pk)), (∀ (w_t : Pk) (y1 : Int32) (y2 : Int32), rec55 w_t y1 y2 = some v_t → BK X 12 0 0 55 ([nX10 cI cZ cQ h_t w_t]) [(0, .ref (h_t 0)), (1, .int y1), (2, .int y2)] []) → ∀ (w_t : Pk) (y1 : Int32) (y2 : Int32) (y4 : Int32) (y5 : Int32) (y6 : Int32) (y7 : Int32) (y8 : Int32) (y11 : Int32) (z1 : Int32) (z2 : Int32) (z3 : Int32), fX10_insert_b255 rec55 w_t y1 y2 y4 y5 y6 y7 y8 y11 z1 z2 z3 = some v_t → BK X 12 0 0 255 ([nX10 cI cZ cQ h_t w_t]) [(0, .ref (h_t 0)), (1, .int y1), (2, .int y2), (4, .int y4), (5, .int y5), (6, .int y6), (7, .int y7), (8, .int y8), (11, .int y11)] [.int z3, .int z2, .int z1, .ref (h_t 0)] := by
    intro rec55 hrec55 w_t y1 y2 y4 y5 y6 y7 y8 y11 z1 z2 z3 hf
    unfold fX10_insert_b255 at hf
    refine r_ald_n O 256 rfl 0 rfl dX10_insert_255 ?_
    refine r_get (ref := RX10) (C := RX10) (T := TX10) (N := 70) O 259 rfl inBX10 0 18 rfl rfl rfl (by decide) flX10_200 rfl rfl dX10_insert_256 ?_
    refine r_ald_n O 260 rfl 0 rfl dX10_insert_259 ?_
    refine r_get (ref := RX10) (C := RX10) (T := TX10) (N := 70) O 263 rfl inBX10 0 19 rfl rfl rfl (by decide) flX10_203 rfl rfl dX10_insert_260 ?_
    refine r_ild O 265 rfl 6 rfl dX10_insert_263 ?_
    refine r_ild O 267 rfl 7 rfl dX10_insert_265 ?_
    obtain ⟨p267_t, hq267, hf⟩ := qb1_some hf
    refine k_VV O 270 rfl (zX10_push (l := xl X) (D := xD X) (cI := cI) (cZ := cZ) (cQ := cQ) (h_t := h_t) hq267) (gV mlX10_245 mvX10_push izX10) rfl rfl rfl hdX10_push ⟨Nat.le_of_ble_eq_true rfl, Nat.le_of_ble_eq_true rfl⟩ rfl 0 rfl rfl rfl rfl (Nat.le_of_ble_eq_true rfl) ⟨Nat.zero_le _, Nat.zero_le _⟩ [0] rfl rfl rfl ([nX10 cI cZ cQ h_t p267_t]) rfl dX10_insert_267 ?_
    refine r_ald_n O 271 rfl 0 rfl dX10_insert_270 ?_
    refine r_ild_n O 272 rfl 2 rfl dX10_insert_271 ?_
    refine r_ic O 273 rfl 1 (by decide) dX10_insert_272 ?_
    refine r_iadd O 274 rfl dX10_insert_273 ?_
    refine r_ild O 276 rfl 3 rfl dX10_insert_274 ?_
    refine r_ild O 278 rfl 8 rfl dX10_insert_276 ?_
    refine r_if_eq O 281 rfl 285 dX10_insert_278 (by decide) (fun hc278 => ?_) (fun hc278 => ?_)
    · rw [if_pos hc278] at hf
      refine r_ic O 286 rfl 1 (by decide) dX10_insert_285 ?_
      refine r_lv [0, 1, 2, 4, 5] rfl ?_
      exact B286 rec55 hrec55 _ _ _ _ _ _ _ _ hf
    · rw [if_neg hc278] at hf
      refine r_ic O 282 rfl 0 (by decide) dX10_insert_281 ?_
      refine r_goto O 286 dX10_insert_282 (by decide) ?_
      refine r_lv [0, 1, 2, 4, 5] rfl ?_
      exact B286 rec55 hrec55 _ _ _ _ _ _ _ _ hf
  have B239 : ∀ (rec55 : Pk → Int32 → Int32 → Option (Pk)), (∀ (w_t : Pk) (y1 : Int32) (y2 : Int32), rec55 w_t y1 y2 = some v_t → BK X 12 0 0 55 ([nX10 cI cZ cQ h_t w_t]) [(0, .ref (h_t 0)), (1, .int y1), (2, .int y2)] []) → ∀ (w_t : Pk) (y1 : Int32) (y2 : Int32) (y4 : Int32) (y5 : Int32) (y6 : Int32) (y7 : Int32) (y8 : Int32) (z0 : Int32), fX10_insert_b239 rec55 w_t y1 y2 y4 y5 y6 y7 y8 z0 = some v_t → BK X 12 0 0 239 ([nX10 cI cZ cQ h_t w_t]) [(0, .ref (h_t 0)), (1, .int y1), (2, .int y2), (4, .int y4), (5, .int y5), (6, .int y6), (7, .int y7), (8, .int y8)] [.int z0] := by
    intro rec55 hrec55 w_t y1 y2 y4 y5 y6 y7 y8 z0 hf
    unfold fX10_insert_b239 at hf
    refine r_ist O 241 rfl [(11, .int z0), (0, .ref (h_t 0)), (1, .int y1), (2, .int y2), (4, .int y4), (5, .int y5), (6, .int y6), (7, .int y7), (8, .int y8)] dX10_insert_239 (by decide) rfl ?_
    refine r_ald_n O 242 rfl 1 rfl dX10_insert_241 ?_
    refine r_ild_n O 243 rfl 3 rfl dX10_insert_242 ?_
    refine r_ild O 245 rfl 4 rfl dX10_insert_243 ?_
    refine r_ild O 247 rfl 0 rfl dX10_insert_245 ?_
    refine r_if_eq O 250 rfl 254 dX10_insert_247 (by decide) (fun hc247 => ?_) (fun hc247 => ?_)
    · rw [if_pos hc247] at hf
      refine r_ic O 255 rfl 0 (by decide) dX10_insert_254 ?_
      refine r_lv [1, 2, 3, 4, 5, 6, 7, 8, 0] rfl ?_
      exact B255 rec55 hrec55 _ _ _ _ _ _ _ _ _ _ _ _ hf
    · rw [if_neg hc247] at hf
      refine r_ic O 251 rfl 1 (by decide) dX10_insert_250 ?_
      refine r_goto O 255 dX10_insert_251 (by decide) ?_
      refine r_lv [1, 2, 3, 4, 5, 6, 7, 8, 0] rfl ?_
      exact B255 rec55 hrec55 _ _ _ _ _ _ _ _ _ _ _ _ hf
  have B55 : ∀ n : Nat, ∀ (w_t : Pk) (y1 : Int32) (y2 : Int32), fX10_insert_b55 n w_t y1 y2 = some v_t → BK X 12 0 0 55 ([nX10 cI cZ cQ h_t w_t]) [(0, .ref (h_t 0)), (1, .int y1), (2, .int y2)] [] := by
    intro n
    induction n with
    | zero => exact fun _ _ _ hf => qno hf
    | succ n hrec55 =>
      intro w_t y1 y2 hf
      have hf : fX10_insert_b55_s (fX10_insert_b55 n) w_t y1 y2 = some v_t := hf
      generalize fX10_insert_b55 n = rec55 at hf hrec55
      unfold fX10_insert_b55_s at hf
      refine r_ild_n O 56 rfl 2 rfl dX10_insert_55 ?_
      refine r_if_le O 59 rfl 339 dX10_insert_56 (by decide) (fun hc56 => ?_) (fun hc56 => ?_)
      · rw [if_pos hc56] at hf
        obtain g0 := qe1 hf
        exact r_vret2 O E (by rw [g0]) dX10_insert_339
      · rw [if_neg hc56] at hf
        obtain ⟨x59, ex59, hf⟩ := qn_some hf
        refine r_iinc O 62 rfl x59 2 rfl (by rw [ex59]; rfl) [(2, .int x59), (0, .ref (h_t 0)), (1, .int y1)] dX10_insert_59 (by decide) rfl ?_
        refine r_bi O 64 rfl 7 (by decide) dX10_insert_62 ?_
        refine r_ild_n O 65 rfl 0 rfl dX10_insert_64 ?_
        refine r_imul O 66 rfl dX10_insert_65 ?_
        obtain ⟨x66, ex66, hf⟩ := qn_some hf
        rw [← ex66]
        refine r_ist_n O 67 rfl rfl [(3, .int x66), (2, .int x59), (0, .ref (h_t 0)), (1, .int y1)] dX10_insert_66 (by decide) rfl ?_
        refine r_ald_n O 68 rfl 2 rfl dX10_insert_67 ?_
        refine r_get (ref := RX10) (C := RX10) (T := TX10) (N := 70) O 71 rfl inBX10 0 37 rfl rfl rfl (by decide) flX10_86 rfl rfl dX10_insert_68 ?_
        refine r_ild_n O 72 rfl 0 rfl dX10_insert_71 ?_
        obtain ⟨x72, ex72, hin72, hf⟩ := qld_some hf
        refine r_iald O 73 rfl 0 19 rfl rfl hin72 dX10_insert_72 ?_
        rw [← ex72]
        refine r_ist O 75 rfl [(4, .int x72), (3, .int x66), (2, .int x59), (0, .ref (h_t 0)), (1, .int y1)] dX10_insert_73 (by decide) rfl ?_
        refine r_ald_n O 76 rfl 3 rfl dX10_insert_75 ?_
        refine r_get (ref := RX10) (C := RX10) (T := TX10) (N := 70) O 79 rfl inBX10 0 37 rfl rfl rfl (by decide) flX10_86 rfl rfl dX10_insert_76 ?_
        refine r_ild_n O 80 rfl 1 rfl dX10_insert_79 ?_
        refine r_ic O 81 rfl 3 (by decide) dX10_insert_80 ?_
        refine r_iadd O 82 rfl dX10_insert_81 ?_
        obtain ⟨x82, ex82, hin82, hf⟩ := qld_some hf
        refine r_iald O 83 rfl 0 19 rfl rfl hin82 dX10_insert_82 ?_
        rw [← ex82]
        refine r_ist O 85 rfl [(5, .int x82), (4, .int x72), (3, .int x66), (2, .int x59), (0, .ref (h_t 0)), (1, .int y1)] dX10_insert_83 (by decide) rfl ?_
        refine r_ald_n O 86 rfl 4 rfl dX10_insert_85 ?_
        refine r_get (ref := RX10) (C := RX10) (T := TX10) (N := 70) O 89 rfl inBX10 0 37 rfl rfl rfl (by decide) flX10_86 rfl rfl dX10_insert_86 ?_
        refine r_ild_n O 90 rfl 2 rfl dX10_insert_89 ?_
        refine r_ic O 91 rfl 4 (by decide) dX10_insert_90 ?_
        refine r_iadd O 92 rfl dX10_insert_91 ?_
        obtain ⟨x92, ex92, hin92, hf⟩ := qld_some hf
        refine r_iald O 93 rfl 0 19 rfl rfl hin92 dX10_insert_92 ?_
        rw [← ex92]
        refine r_ist O 95 rfl [(6, .int x92), (5, .int x82), (4, .int x72), (3, .int x66), (2, .int x59), (0, .ref (h_t 0)), (1, .int y1)] dX10_insert_93 (by decide) rfl ?_
        refine r_ald_n O 96 rfl 5 rfl dX10_insert_95 ?_
        refine r_get (ref := RX10) (C := RX10) (T := TX10) (N := 70) O 99 rfl inBX10 0 37 rfl rfl rfl (by decide) flX10_86 rfl rfl dX10_insert_96 ?_
        refine r_ild_n O 100 rfl 3 rfl dX10_insert_99 ?_
        refine r_ic O 101 rfl 5 (by decide) dX10_insert_100 ?_
        refine r_iadd O 102 rfl dX10_insert_101 ?_
        obtain ⟨x102, ex102, hin102, hf⟩ := qld_some hf
        refine r_iald O 103 rfl 0 19 rfl rfl hin102 dX10_insert_102 ?_
        rw [← ex102]
        refine r_ist O 105 rfl [(7, .int x102), (6, .int x92), (5, .int x82), (4, .int x72), (3, .int x66), (2, .int x59), (0, .ref (h_t 0)), (1, .int y1)] dX10_insert_103 (by decide) rfl ?_
        refine r_ald_n O 106 rfl 6 rfl dX10_insert_105 ?_
        refine r_get (ref := RX10) (C := RX10) (T := TX10) (N := 70) O 109 rfl inBX10 0 37 rfl rfl rfl (by decide) flX10_86 rfl rfl dX10_insert_106 ?_
        refine r_ild_n O 110 rfl 4 rfl dX10_insert_109 ?_
        refine r_bi O 112 rfl 6 (by decide) dX10_insert_110 ?_
        refine r_iadd O 113 rfl dX10_insert_112 ?_
        obtain ⟨x113, ex113, hin113, hf⟩ := qld_some hf
        refine r_iald O 114 rfl 0 19 rfl rfl hin113 dX10_insert_113 ?_
        rw [← ex113]
        refine r_ist O 116 rfl [(8, .int x113), (7, .int x102), (6, .int x92), (5, .int x82), (4, .int x72), (3, .int x66), (2, .int x59), (0, .ref (h_t 0)), (1, .int y1)] dX10_insert_114 (by decide) rfl ?_
        refine r_ild O 118 rfl 4 rfl dX10_insert_116 ?_
        refine r_if_ge O 121 rfl 158 dX10_insert_118 (by decide) (fun hc118 => ?_) (fun hc118 => ?_)
        · rw [if_pos hc118] at hf
          refine r_ald_n O 159 rfl 7 rfl dX10_insert_158 ?_
          refine r_get (ref := RX10) (C := RX10) (T := TX10) (N := 70) O 162 rfl inBX10 0 20 rfl rfl rfl (by decide) flX10_47 rfl rfl dX10_insert_159 ?_
          refine r_ild O 164 rfl 4 rfl dX10_insert_162 ?_
          obtain ⟨x164, ex164, hin164, hf⟩ := qld_some hf
          refine r_iald O 165 rfl 0 6 rfl rfl hin164 dX10_insert_164 ?_
          rw [← ex164]
          refine r_ist O 167 rfl [(9, .int x164), (8, .int x113), (7, .int x102), (6, .int x92), (5, .int x82), (4, .int x72), (3, .int x66), (2, .int x59), (0, .ref (h_t 0)), (1, .int y1)] dX10_insert_165 (by decide) rfl ?_
          refine r_ald_n O 168 rfl 8 rfl dX10_insert_167 ?_
          refine r_ild O 170 rfl 0 rfl dX10_insert_168 ?_
          refine r_ild_n O 171 rfl 9 rfl dX10_insert_170 ?_
          refine r_ild O 173 rfl 4 rfl dX10_insert_171 ?_
          refine r_ild O 175 rfl 3 rfl dX10_insert_173 ?_
          refine r_ild O 177 rfl 2 rfl dX10_insert_175 ?_
          refine r_ild O 179 rfl 1 rfl dX10_insert_177 ?_
          obtain ⟨x179, hq179, hf⟩ := qb1_some hf
          refine k_VI O 182 rfl (zX10_relation (l := xl X) (D := xD X) (cI := cI) (cZ := cZ) (cQ := cQ) (h_t := h_t) hq179) (gV mlX10_215 mvX10_relation izX10) rfl rfl rfl hdX10_relation ⟨Nat.le_of_ble_eq_true rfl, Nat.le_of_ble_eq_true rfl⟩ rfl 0 rfl rfl rfl rfl (Nat.le_of_ble_eq_true rfl) ⟨Nat.zero_le _, Nat.zero_le _⟩ [0] rfl rfl rfl ([nX10 cI cZ cQ h_t w_t]) rfl dX10_insert_179 ?_
          refine r_ist O 184 rfl [(10, .int x179), (9, .int x164), (8, .int x113), (7, .int x102), (6, .int x92), (5, .int x82), (4, .int x72), (3, .int x66), (2, .int x59), (0, .ref (h_t 0)), (1, .int y1)] dX10_insert_182 (by decide) rfl ?_
          refine r_ild O 186 rfl 0 rfl dX10_insert_184 ?_
          refine r_if_ne O 189 rfl 207 dX10_insert_186 (by decide) (fun hc186 => ?_) (fun hc186 => ?_)
          · rw [if_neg hc186] at hf
            refine r_ild O 209 rfl 0 rfl dX10_insert_207 ?_
            refine r_ic O 210 rfl 2 (by decide) dX10_insert_209 ?_
            refine r_icmp_ne O 213 rfl 307 dX10_insert_210 (by decide) (fun hc210 => ?_) (fun hc210 => ?_)
            · rw [if_neg hc210] at hf
              refine r_ald_n O 308 rfl 9 rfl dX10_insert_307 ?_
              refine r_ild_n O 309 rfl 8 rfl dX10_insert_308 ?_
              refine r_ild O 311 rfl 6 rfl dX10_insert_309 ?_
              refine r_ild O 313 rfl 0 rfl dX10_insert_311 ?_
              refine r_ic O 314 rfl 1 (by decide) dX10_insert_313 ?_
              refine r_icmp_ne O 317 rfl 321 dX10_insert_314 (by decide) (fun hc314 => ?_) (fun hc314 => ?_)
              · rw [if_neg hc314] at hf
                refine r_ic O 322 rfl 1 (by decide) dX10_insert_321 ?_
                refine r_lv [9, 10, 8, 5, 4, 3, 2] rfl ?_
                exact B322 rec55 hrec55 _ _ _ _ _ _ _ _ _ _ hf
              · rw [if_pos hc314] at hf
                refine r_ic O 318 rfl 0 (by decide) dX10_insert_317 ?_
                refine r_goto O 322 dX10_insert_318 (by decide) ?_
                refine r_lv [9, 10, 8, 5, 4, 3, 2] rfl ?_
                exact B322 rec55 hrec55 _ _ _ _ _ _ _ _ _ _ hf
            · rw [if_pos hc210] at hf
              refine r_ald_n O 214 rfl 9 rfl dX10_insert_213 ?_
              refine r_ild O 216 rfl 1 rfl dX10_insert_214 ?_
              refine r_ild_n O 217 rfl 10 rfl dX10_insert_216 ?_
              obtain ⟨p217_t, hq217, hf⟩ := qb1_some hf
              refine k_VV O 220 rfl (zX10_cut (l := xl X) (D := xD X) (cI := cI) (cZ := cZ) (cQ := cQ) (h_t := h_t) hq217) (gV mlX10_242 mvX10_cut izX10) rfl rfl rfl hdX10_cut ⟨Nat.le_of_ble_eq_true rfl, Nat.le_of_ble_eq_true rfl⟩ rfl 0 rfl rfl rfl rfl (Nat.le_of_ble_eq_true rfl) ⟨Nat.zero_le _, Nat.zero_le _⟩ [0] rfl rfl rfl ([nX10 cI cZ cQ h_t p217_t]) rfl dX10_insert_217 ?_
              refine r_ald_n O 221 rfl 9 rfl dX10_insert_220 ?_
              refine r_ild O 223 rfl 1 rfl dX10_insert_221 ?_
              refine r_ild_n O 224 rfl 10 rfl dX10_insert_223 ?_
              refine r_ild O 226 rfl 5 rfl dX10_insert_224 ?_
              refine r_ild O 228 rfl 4 rfl dX10_insert_226 ?_
              obtain ⟨x228, hq228, hf⟩ := qb1_some hf
              refine k_VI O 231 rfl (zX10_signAt (l := xl X) (D := xD X) (cI := cI) (cZ := cZ) (cQ := cQ) (h_t := h_t) hq228) (gV mlX10_193 mvX10_signAt izX10) rfl rfl rfl hdX10_signAt ⟨Nat.le_of_ble_eq_true rfl, Nat.le_of_ble_eq_true rfl⟩ rfl 0 rfl rfl rfl rfl (Nat.le_of_ble_eq_true rfl) ⟨Nat.zero_le _, Nat.zero_le _⟩ [0] rfl rfl rfl ([nX10 cI cZ cQ h_t p217_t]) rfl dX10_insert_228 ?_
              refine r_if_le O 234 rfl 238 dX10_insert_231 (by decide) (fun hc231 => ?_) (fun hc231 => ?_)
              · rw [if_pos hc231] at hf
                refine r_ic O 239 rfl 0 (by decide) dX10_insert_238 ?_
                refine r_lv [9, 10, 8, 6, 5, 4, 3, 2] rfl ?_
                exact B239 rec55 hrec55 _ _ _ _ _ _ _ _ _ hf
              · rw [if_neg hc231] at hf
                refine r_ic O 235 rfl 1 (by decide) dX10_insert_234 ?_
                refine r_goto O 239 dX10_insert_235 (by decide) ?_
                refine r_lv [9, 10, 8, 6, 5, 4, 3, 2] rfl ?_
                exact B239 rec55 hrec55 _ _ _ _ _ _ _ _ _ hf
          · rw [if_pos hc186] at hf
            refine r_ald_n O 190 rfl 9 rfl dX10_insert_189 ?_
            refine r_ild O 192 rfl 6 rfl dX10_insert_190 ?_
            refine r_ild_n O 193 rfl 10 rfl dX10_insert_192 ?_
            refine r_ild O 195 rfl 5 rfl dX10_insert_193 ?_
            refine r_ild O 197 rfl 4 rfl dX10_insert_195 ?_
            refine r_ild O 199 rfl 3 rfl dX10_insert_197 ?_
            refine r_ild O 201 rfl 2 rfl dX10_insert_199 ?_
            obtain ⟨p201_t, hq201, hf⟩ := qb1_some hf
            refine k_VV O 204 rfl (zX10_addPiece (l := xl X) (D := xD X) (cI := cI) (cZ := cZ) (cQ := cQ) (h_t := h_t) hq201) (gV mlX10_239 mvX10_addPiece izX10) rfl rfl rfl hdX10_addPiece ⟨Nat.le_of_ble_eq_true rfl, Nat.le_of_ble_eq_true rfl⟩ rfl 0 rfl rfl rfl rfl (Nat.le_of_ble_eq_true rfl) ⟨Nat.zero_le _, Nat.zero_le _⟩ [0] rfl rfl rfl ([nX10 cI cZ cQ h_t p201_t]) rfl dX10_insert_201 ?_
            refine r_goto O 336 dX10_insert_204 (by decide) ?_
            refine r_lv [9, 10, 8] rfl ?_
            exact B336 rec55 hrec55 _ _ _ hf
        · rw [if_neg hc118] at hf
          refine r_ald_n O 122 rfl 7 rfl dX10_insert_121 ?_
          refine r_ald_n O 123 rfl 7 rfl dX10_insert_122 ?_
          refine r_ild_n O 124 rfl 8 rfl dX10_insert_123 ?_
          refine r_ald_n O 125 rfl 7 rfl dX10_insert_124 ?_
          refine r_get (ref := RX10) (C := RX10) (T := TX10) (N := 70) O 128 rfl inBX10 0 37 rfl rfl rfl (by decide) flX10_86 rfl rfl dX10_insert_125 ?_
          refine r_ild_n O 129 rfl 5 rfl dX10_insert_128 ?_
          refine r_ic O 130 rfl 1 (by decide) dX10_insert_129 ?_
          refine r_iadd O 131 rfl dX10_insert_130 ?_
          obtain ⟨x131, ex131, hin131, hf⟩ := qld_some hf
          refine r_iald O 132 rfl 0 19 rfl rfl hin131 dX10_insert_131 ?_
          rw [← ex131]
          refine r_ald_n O 133 rfl 7 rfl dX10_insert_132 ?_
          refine r_get (ref := RX10) (C := RX10) (T := TX10) (N := 70) O 136 rfl inBX10 0 37 rfl rfl rfl (by decide) flX10_86 rfl rfl dX10_insert_133 ?_
          refine r_ild_n O 137 rfl 5 rfl dX10_insert_136 ?_
          refine r_ic O 138 rfl 2 (by decide) dX10_insert_137 ?_
          refine r_iadd O 139 rfl dX10_insert_138 ?_
          obtain ⟨x139, ex139, hin139, hf⟩ := qld_some hf
          refine r_iald O 140 rfl 0 19 rfl rfl hin139 dX10_insert_139 ?_
          rw [← ex139]
          obtain ⟨x140, p140_t, hq140, hf⟩ := qb2_some hf
          refine k_VI O 143 rfl (zX10_addNode (l := xl X) (D := xD X) (cI := cI) (cZ := cZ) (cQ := cQ) (h_t := h_t) hq140) (gV mlX10_232 mvX10_addNode izX10) rfl rfl rfl hdX10_addNode ⟨Nat.le_of_ble_eq_true rfl, Nat.le_of_ble_eq_true rfl⟩ rfl 0 rfl rfl rfl rfl (Nat.le_of_ble_eq_true rfl) ⟨Nat.zero_le _, Nat.zero_le _⟩ [0] rfl rfl rfl ([nX10 cI cZ cQ h_t p140_t]) rfl dX10_insert_140 ?_
          refine r_ild_n O 144 rfl 8 rfl dX10_insert_143 ?_
          refine r_ild O 146 rfl 3 rfl dX10_insert_144 ?_
          refine r_ild O 148 rfl 2 rfl dX10_insert_146 ?_
          refine r_ild O 150 rfl 1 rfl dX10_insert_148 ?_
          refine r_ild O 152 rfl 0 rfl dX10_insert_150 ?_
          obtain ⟨p152_t, hq152, hf⟩ := qb1_some hf
          refine k_VV O 155 rfl (zX10_addPiece (l := xl X) (D := xD X) (cI := cI) (cZ := cZ) (cQ := cQ) (h_t := h_t) hq152) (gV mlX10_239 mvX10_addPiece izX10) rfl rfl rfl hdX10_addPiece ⟨Nat.le_of_ble_eq_true rfl, Nat.le_of_ble_eq_true rfl⟩ rfl 0 rfl rfl rfl rfl (Nat.le_of_ble_eq_true rfl) ⟨Nat.zero_le _, Nat.zero_le _⟩ [0] rfl rfl rfl ([nX10 cI cZ cQ h_t p152_t]) rfl dX10_insert_152 ?_
          refine r_goto O 336 dX10_insert_155 (by decide) ?_
          refine r_lv [7, 8, 6] rfl ?_
          exact B336 rec55 hrec55 _ _ _ hf
  unfold fX10_insert at hf
  refine r_ic O 1 rfl 1 (by decide) dX10_insert_0 ?_
  refine r_ist_n O 2 rfl rfl [(2, .int 1), (0, .ref (h_t 0)), (1, .int a1)] dX10_insert_1 (by decide) rfl ?_
  refine r_ald_n O 3 rfl 1 rfl dX10_insert_2 ?_
  refine r_get (ref := RX10) (C := RX10) (T := TX10) (N := 70) O 6 rfl inBX10 0 37 rfl rfl rfl (by decide) flX10_86 rfl rfl dX10_insert_3 ?_
  refine r_ic O 7 rfl 0 (by decide) dX10_insert_6 ?_
  refine r_ald_n O 8 rfl 1 rfl dX10_insert_7 ?_
  refine r_get (ref := RX10) (C := RX10) (T := TX10) (N := 70) O 11 rfl inBX10 0 26 rfl rfl rfl (by decide) flX10_212 rfl rfl dX10_insert_8 ?_
  obtain ⟨hin11, hf⟩ := qst_some hf
  obtain ⟨p11_t, ep11_t, hf⟩ := qn_some hf
  refine r_iast O 12 rfl 0 19 rfl rfl hin11 ([nX10 cI cZ cQ h_t p11_t]) (by rw [ep11_t]; rfl) dX10_insert_11 ?_
  refine r_ald_n O 13 rfl 1 rfl dX10_insert_12 ?_
  refine r_get (ref := RX10) (C := RX10) (T := TX10) (N := 70) O 16 rfl inBX10 0 37 rfl rfl rfl (by decide) flX10_86 rfl rfl dX10_insert_13 ?_
  refine r_ic O 17 rfl 1 (by decide) dX10_insert_16 ?_
  refine r_ic O 18 rfl (-1) (by decide) dX10_insert_17 ?_
  obtain ⟨hin18, hf⟩ := qst_some hf
  obtain ⟨p18_t, ep18_t, hf⟩ := qn_some hf
  refine r_iast O 19 rfl 0 19 rfl rfl hin18 ([nX10 cI cZ cQ h_t p18_t]) (by rw [ep18_t]; rfl) dX10_insert_18 ?_
  refine r_ald_n O 20 rfl 1 rfl dX10_insert_19 ?_
  refine r_get (ref := RX10) (C := RX10) (T := TX10) (N := 70) O 23 rfl inBX10 0 37 rfl rfl rfl (by decide) flX10_86 rfl rfl dX10_insert_20 ?_
  refine r_ic O 24 rfl 2 (by decide) dX10_insert_23 ?_
  refine r_ic O 25 rfl 0 (by decide) dX10_insert_24 ?_
  obtain ⟨hin25, hf⟩ := qst_some hf
  obtain ⟨p25_t, ep25_t, hf⟩ := qn_some hf
  refine r_iast O 26 rfl 0 19 rfl rfl hin25 ([nX10 cI cZ cQ h_t p25_t]) (by rw [ep25_t]; rfl) dX10_insert_25 ?_
  refine r_ald_n O 27 rfl 1 rfl dX10_insert_26 ?_
  refine r_get (ref := RX10) (C := RX10) (T := TX10) (N := 70) O 30 rfl inBX10 0 37 rfl rfl rfl (by decide) flX10_86 rfl rfl dX10_insert_27 ?_
  refine r_ic O 31 rfl 3 (by decide) dX10_insert_30 ?_
  refine r_ic O 32 rfl 0 (by decide) dX10_insert_31 ?_
  obtain ⟨hin32, hf⟩ := qst_some hf
  obtain ⟨p32_t, ep32_t, hf⟩ := qn_some hf
  refine r_iast O 33 rfl 0 19 rfl rfl hin32 ([nX10 cI cZ cQ h_t p32_t]) (by rw [ep32_t]; rfl) dX10_insert_32 ?_
  refine r_ald_n O 34 rfl 1 rfl dX10_insert_33 ?_
  refine r_get (ref := RX10) (C := RX10) (T := TX10) (N := 70) O 37 rfl inBX10 0 37 rfl rfl rfl (by decide) flX10_86 rfl rfl dX10_insert_34 ?_
  refine r_ic O 38 rfl 4 (by decide) dX10_insert_37 ?_
  refine r_ic O 39 rfl 1 (by decide) dX10_insert_38 ?_
  obtain ⟨hin39, hf⟩ := qst_some hf
  obtain ⟨p39_t, ep39_t, hf⟩ := qn_some hf
  refine r_iast O 40 rfl 0 19 rfl rfl hin39 ([nX10 cI cZ cQ h_t p39_t]) (by rw [ep39_t]; rfl) dX10_insert_39 ?_
  refine r_ald_n O 41 rfl 1 rfl dX10_insert_40 ?_
  refine r_get (ref := RX10) (C := RX10) (T := TX10) (N := 70) O 44 rfl inBX10 0 37 rfl rfl rfl (by decide) flX10_86 rfl rfl dX10_insert_41 ?_
  refine r_ic O 45 rfl 5 (by decide) dX10_insert_44 ?_
  refine r_ic O 46 rfl 1 (by decide) dX10_insert_45 ?_
  obtain ⟨hin46, hf⟩ := qst_some hf
  obtain ⟨p46_t, ep46_t, hf⟩ := qn_some hf
  refine r_iast O 47 rfl 0 19 rfl rfl hin46 ([nX10 cI cZ cQ h_t p46_t]) (by rw [ep46_t]; rfl) dX10_insert_46 ?_
  refine r_ald_n O 48 rfl 1 rfl dX10_insert_47 ?_
  refine r_get (ref := RX10) (C := RX10) (T := TX10) (N := 70) O 51 rfl inBX10 0 37 rfl rfl rfl (by decide) flX10_86 rfl rfl dX10_insert_48 ?_
  refine r_bi O 53 rfl 6 (by decide) dX10_insert_51 ?_
  refine r_ic O 54 rfl 1 (by decide) dX10_insert_53 ?_
  obtain ⟨hin54, hf⟩ := qst_some hf
  obtain ⟨p54_t, ep54_t, hf⟩ := qn_some hf
  refine r_iast O 55 rfl 0 19 rfl rfl hin54 ([nX10 cI cZ cQ h_t p54_t]) (by rw [ep54_t]; rfl) dX10_insert_54 ?_
  refine r_lv [1, 2, 0] rfl ?_
  exact B55 FU _ _ _ hf
-- X10_leaf
def rmX10_leaf : Room := { frames := 0, cells := 0, slots := 0, locals := 0 }
set_option maxHeartbeats 4000000 in
set_option maxRecDepth 100000 in
theorem zX10_leaf {l : Launch} {D : va_G} {cI cZ cQ : ClassId} {h_t : Nat → Nat} {u_t : Pk} {a1 : Int32} {a2 : Int32} {v_t : Pk} (hf : fX10_leaf u_t a1 a2 = some v_t) : MV l yX10_leaf wsX10_leaf rmX10_leaf D (TY cI cZ cQ) [.ref (h_t 0), .int a1, .int a2] [nX10 cI cZ cQ h_t u_t] [nX10 cI cZ cQ h_t v_t] := by
  refine MV.of (own := RX10) (by decide +kernel) rfl rfl (Nat.le_of_ble_eq_true rfl) (lv0 := [(0, .ref (h_t 0)), (1, .int a1), (2, .int a2)]) rfl ?_
  intro X O E
  have B62 : ∀ (w_t : Pk) (z1 : Int32), fX10_leaf_b62 w_t z1 = some v_t → BK X 3 0 0 62 ([nX10 cI cZ cQ h_t w_t]) [] [.int z1, .ref (h_t 0)] := by
    intro w_t z1 hf
    unfold fX10_leaf_b62 at hf
    obtain ⟨p62_t, ep62_t, hf⟩ := qn_some hf
    refine r_put (ref := RX10) (C := RX10) (T := TX10) (N := 70) O 65 rfl inBX10 tyX10 tyX10_ok nmX10 0 48 rfl rfl rfl (by decide) flX10_257 rfl rfl rfl rfl (Nat.le_of_ble_eq_true rfl) ([nX10 cI cZ cQ h_t p62_t]) (by rw [ep62_t]; rfl) dX10_leaf_62 ?_
    obtain g0 := qe1 hf
    exact r_vret2 O E (by rw [g0]) dX10_leaf_65
  have B25 : ∀ (w_t : Pk) (y2 : Int32), fX10_leaf_b25 w_t y2 = some v_t → BK X 3 0 0 25 ([nX10 cI cZ cQ h_t w_t]) [(0, .ref (h_t 0)), (2, .int y2)] [] := by
    intro w_t y2 hf
    unfold fX10_leaf_b25 at hf
    refine r_ald_n O 26 rfl 0 rfl dX10_leaf_25 ?_
    refine r_dup O 27 rfl dX10_leaf_26 rfl ?_
    refine r_get (ref := RX10) (C := RX10) (T := TX10) (N := 70) O 30 rfl inBX10 0 46 rfl rfl rfl (by decide) flX10_248 rfl rfl dX10_leaf_27 ?_
    refine r_ic O 31 rfl 1 (by decide) dX10_leaf_30 ?_
    refine r_iadd O 32 rfl dX10_leaf_31 ?_
    obtain ⟨p32_t, ep32_t, hf⟩ := qn_some hf
    refine r_put (ref := RX10) (C := RX10) (T := TX10) (N := 70) O 35 rfl inBX10 tyX10 tyX10_ok nmX10 0 46 rfl rfl rfl (by decide) flX10_248 rfl rfl rfl rfl (Nat.le_of_ble_eq_true rfl) ([nX10 cI cZ cQ h_t p32_t]) (by rw [ep32_t]; rfl) dX10_leaf_32 ?_
    refine r_ald_n O 36 rfl 0 rfl dX10_leaf_35 ?_
    refine r_dup O 37 rfl dX10_leaf_36 rfl ?_
    refine r_get (ref := RX10) (C := RX10) (T := TX10) (N := 70) O 40 rfl inBX10 0 47 rfl rfl rfl (by decide) flX10_254 rfl rfl dX10_leaf_37 ?_
    refine r_ild_n O 41 rfl 1 rfl dX10_leaf_40 ?_
    refine r_iadd O 42 rfl dX10_leaf_41 ?_
    obtain ⟨p42_t, ep42_t, hf⟩ := qn_some hf
    refine r_put (ref := RX10) (C := RX10) (T := TX10) (N := 70) O 45 rfl inBX10 tyX10 tyX10_ok nmX10 0 47 rfl rfl rfl (by decide) flX10_254 rfl rfl rfl rfl (Nat.le_of_ble_eq_true rfl) ([nX10 cI cZ cQ h_t p42_t]) (by rw [ep42_t]; rfl) dX10_leaf_42 ?_
    refine r_ald_n O 46 rfl 0 rfl dX10_leaf_45 ?_
    refine r_ild_n O 47 rfl 1 rfl dX10_leaf_46 ?_
    refine r_ald_n O 48 rfl 0 rfl dX10_leaf_47 ?_
    refine r_get (ref := RX10) (C := RX10) (T := TX10) (N := 70) O 51 rfl inBX10 0 48 rfl rfl rfl (by decide) flX10_257 rfl rfl dX10_leaf_48 ?_
    refine r_icmp_le O 54 rfl 58 dX10_leaf_51 (by decide) (fun hc51 => ?_) (fun hc51 => ?_)
    · rw [if_pos hc51] at hf
      refine r_ald_n O 59 rfl 0 rfl dX10_leaf_58 ?_
      refine r_get (ref := RX10) (C := RX10) (T := TX10) (N := 70) O 62 rfl inBX10 0 48 rfl rfl rfl (by decide) flX10_257 rfl rfl dX10_leaf_59 ?_
      refine r_lv [] rfl ?_
      exact B62 _ _ hf
    · rw [if_neg hc51] at hf
      refine r_ild_n O 55 rfl 1 rfl dX10_leaf_54 ?_
      refine r_goto O 62 dX10_leaf_55 (by decide) ?_
      refine r_lv [] rfl ?_
      exact B62 _ _ hf
  unfold fX10_leaf at hf
  refine r_ild_n O 1 rfl 1 rfl dX10_leaf_0 ?_
  refine r_if_ge O 4 rfl 15 dX10_leaf_1 (by decide) (fun hc1 => ?_) (fun hc1 => ?_)
  · rw [if_pos hc1] at hf
    refine r_ald_n O 16 rfl 0 rfl dX10_leaf_15 ?_
    refine r_get (ref := RX10) (C := RX10) (T := TX10) (N := 70) O 19 rfl inBX10 0 44 rfl rfl rfl (by decide) flX10_107 rfl rfl dX10_leaf_16 ?_
    refine r_ild_n O 20 rfl 1 rfl dX10_leaf_19 ?_
    refine r_ald_n O 21 rfl 0 rfl dX10_leaf_20 ?_
    refine r_get (ref := RX10) (C := RX10) (T := TX10) (N := 70) O 24 rfl inBX10 0 46 rfl rfl rfl (by decide) flX10_248 rfl rfl dX10_leaf_21 ?_
    obtain ⟨hin24, hf⟩ := qst_some hf
    obtain ⟨p24_t, ep24_t, hf⟩ := qn_some hf
    refine r_iast O 25 rfl 0 26 rfl rfl hin24 ([nX10 cI cZ cQ h_t p24_t]) (by rw [ep24_t]; rfl) dX10_leaf_24 ?_
    refine r_lv [0, 2] rfl ?_
    exact B25 _ _ hf
  · rw [if_neg hc1] at hf
    refine r_ald_n O 5 rfl 0 rfl dX10_leaf_4 ?_
    refine r_ald_n O 6 rfl 0 rfl dX10_leaf_5 ?_
    refine r_get (ref := RX10) (C := RX10) (T := TX10) (N := 70) O 9 rfl inBX10 0 46 rfl rfl rfl (by decide) flX10_248 rfl rfl dX10_leaf_6 ?_
    obtain ⟨p9_t, ep9_t, hf⟩ := qn_some hf
    refine r_put (ref := RX10) (C := RX10) (T := TX10) (N := 70) O 12 rfl inBX10 tyX10 tyX10_ok nmX10 0 45 rfl rfl rfl (by decide) flX10_251 rfl rfl rfl rfl (Nat.le_of_ble_eq_true rfl) ([nX10 cI cZ cQ h_t p9_t]) (by rw [ep9_t]; rfl) dX10_leaf_9 ?_
    refine r_goto O 25 dX10_leaf_12 (by decide) ?_
    refine r_lv [0, 2] rfl ?_
    exact B25 _ _ hf
-- X10_number_
def rmX10_number_ : Room := { frames := 1, cells := 0, slots := 0, locals := 22 }
set_option maxHeartbeats 4000000 in
set_option maxRecDepth 100000 in
theorem zX10_number_ {l : Launch} {D : va_G} {cI cZ cQ : ClassId} {h_t : Nat → Nat} {u_t : Pk} {v_t : Pk} (hf : fX10_number_ u_t = some v_t) : MV l yX10_number_ wsX10_number_ rmX10_number_ D (TY cI cZ cQ) [.ref (h_t 0)] [nX10 cI cZ cQ h_t u_t] [nX10 cI cZ cQ h_t v_t] := by
  refine MV.of (own := RX10) (by decide +kernel) rfl rfl (Nat.le_of_ble_eq_true rfl) (lv0 := [(0, .ref (h_t 0))]) rfl ?_
  intro X O E
  have B268 : ∀ (rec45 : Pk → Int32 → Int32 → Int32 → Option (Pk)), (∀ (w_t : Pk) (y1 : Int32) (y2 : Int32) (y3 : Int32), rec45 w_t y1 y2 y3 = some v_t → BK X 8 0 0 45 ([nX10 cI cZ cQ h_t w_t]) [(0, .ref (h_t 0)), (1, .int y1), (2, .int y2), (3, .int y3)] []) → ∀ (w_t : Pk) (y1 : Int32) (y2 : Int32) (y3 : Int32), fX10_number__b268 rec45 w_t y1 y2 y3 = some v_t → BK X 8 0 0 268 ([nX10 cI cZ cQ h_t w_t]) [(0, .ref (h_t 0)), (1, .int y1), (2, .int y2), (3, .int y3)] [] := by
    intro rec45 hrec45 w_t y1 y2 y3 hf
    unfold fX10_number__b268 at hf
    refine r_goto O 45 dX10_number__268 (by decide) ?_
    exact hrec45 _ _ _ _ hf
  have B139 : ∀ (rec45 : Pk → Int32 → Int32 → Int32 → Option (Pk)), (∀ (w_t : Pk) (y1 : Int32) (y2 : Int32) (y3 : Int32), rec45 w_t y1 y2 y3 = some v_t → BK X 8 0 0 45 ([nX10 cI cZ cQ h_t w_t]) [(0, .ref (h_t 0)), (1, .int y1), (2, .int y2), (3, .int y3)] []) → ∀ n : Nat, ∀ (w_t : Pk) (y1 : Int32) (y2 : Int32) (y3 : Int32) (y4 : Int32) (y6 : Int32) (y7 : Int32), fX10_number__b139 rec45 n w_t y1 y2 y3 y4 y6 y7 = some v_t → BK X 8 0 0 139 ([nX10 cI cZ cQ h_t w_t]) [(0, .ref (h_t 0)), (1, .int y1), (2, .int y2), (3, .int y3), (4, .int y4), (6, .int y6), (7, .int y7)] [] := by
    intro rec45 hrec45
    intro n
    induction n with
    | zero => exact fun _ _ _ _ _ _ _ hf => qno hf
    | succ n hrec139 =>
      intro w_t y1 y2 y3 y4 y6 y7 hf
      have hf : fX10_number__b139_s rec45 (fX10_number__b139 rec45 n) w_t y1 y2 y3 y4 y6 y7 = some v_t := hf
      generalize fX10_number__b139 rec45 n = rec139 at hf hrec139
      unfold fX10_number__b139_s at hf
      refine r_ild O 141 rfl 6 rfl dX10_number__139 ?_
      refine r_if_lt O 144 rfl 175 dX10_number__141 (by decide) (fun hc141 => ?_) (fun hc141 => ?_)
      · rw [if_pos hc141] at hf
        refine r_ald_n O 176 rfl 0 rfl dX10_number__175 ?_
        refine r_get (ref := RX10) (C := RX10) (T := TX10) (N := 70) O 179 rfl inBX10 0 43 rfl rfl rfl (by decide) flX10_104 rfl rfl dX10_number__176 ?_
        refine r_ic O 180 rfl 3 (by decide) dX10_number__179 ?_
        refine r_ild_n O 181 rfl 2 rfl dX10_number__180 ?_
        refine r_imul O 182 rfl dX10_number__181 ?_
        refine r_ald_n O 183 rfl 0 rfl dX10_number__182 ?_
        refine r_get (ref := RX10) (C := RX10) (T := TX10) (N := 70) O 186 rfl inBX10 0 22 rfl rfl rfl (by decide) flX10_53 rfl rfl dX10_number__183 ?_
        refine r_ild O 188 rfl 4 rfl dX10_number__186 ?_
        obtain ⟨x188, ex188, hin188, hf⟩ := qld_some hf
        refine r_iald O 189 rfl 0 8 rfl rfl hin188 dX10_number__188 ?_
        rw [← ex188]
        obtain ⟨hin189, hf⟩ := qst_some hf
        obtain ⟨p189_t, ep189_t, hf⟩ := qn_some hf
        refine r_iast O 190 rfl 0 25 rfl rfl hin189 ([nX10 cI cZ cQ h_t p189_t]) (by rw [ep189_t]; rfl) dX10_number__189 ?_
        refine r_ald_n O 191 rfl 0 rfl dX10_number__190 ?_
        refine r_get (ref := RX10) (C := RX10) (T := TX10) (N := 70) O 194 rfl inBX10 0 43 rfl rfl rfl (by decide) flX10_104 rfl rfl dX10_number__191 ?_
        refine r_ic O 195 rfl 3 (by decide) dX10_number__194 ?_
        refine r_ild_n O 196 rfl 2 rfl dX10_number__195 ?_
        refine r_imul O 197 rfl dX10_number__196 ?_
        refine r_ic O 198 rfl 1 (by decide) dX10_number__197 ?_
        refine r_iadd O 199 rfl dX10_number__198 ?_
        refine r_ic O 200 rfl 2 (by decide) dX10_number__199 ?_
        refine r_ild O 202 rfl 4 rfl dX10_number__200 ?_
        refine r_imul O 203 rfl dX10_number__202 ?_
        refine r_ic O 204 rfl 1 (by decide) dX10_number__203 ?_
        refine r_iadd O 205 rfl dX10_number__204 ?_
        obtain ⟨hin205, hf⟩ := qst_some hf
        obtain ⟨p205_t, ep205_t, hf⟩ := qn_some hf
        refine r_iast O 206 rfl 0 25 rfl rfl hin205 ([nX10 cI cZ cQ h_t p205_t]) (by rw [ep205_t]; rfl) dX10_number__205 ?_
        refine r_ald_n O 207 rfl 0 rfl dX10_number__206 ?_
        refine r_get (ref := RX10) (C := RX10) (T := TX10) (N := 70) O 210 rfl inBX10 0 43 rfl rfl rfl (by decide) flX10_104 rfl rfl dX10_number__207 ?_
        refine r_ic O 211 rfl 3 (by decide) dX10_number__210 ?_
        refine r_ild_n O 212 rfl 2 rfl dX10_number__211 ?_
        refine r_imul O 213 rfl dX10_number__212 ?_
        refine r_ic O 214 rfl 2 (by decide) dX10_number__213 ?_
        refine r_iadd O 215 rfl dX10_number__214 ?_
        refine r_ild O 217 rfl 5 rfl dX10_number__215 ?_
        refine r_ic O 218 rfl 1 (by decide) dX10_number__217 ?_
        refine r_iadd O 219 rfl dX10_number__218 ?_
        obtain ⟨hin219, hf⟩ := qst_some hf
        obtain ⟨p219_t, ep219_t, hf⟩ := qn_some hf
        refine r_iast O 220 rfl 0 25 rfl rfl hin219 ([nX10 cI cZ cQ h_t p219_t]) (by rw [ep219_t]; rfl) dX10_number__219 ?_
        refine r_ald_n O 221 rfl 0 rfl dX10_number__220 ?_
        refine r_get (ref := RX10) (C := RX10) (T := TX10) (N := 70) O 224 rfl inBX10 0 43 rfl rfl rfl (by decide) flX10_104 rfl rfl dX10_number__221 ?_
        refine r_ic O 225 rfl 3 (by decide) dX10_number__224 ?_
        refine r_ild_n O 226 rfl 2 rfl dX10_number__225 ?_
        refine r_imul O 227 rfl dX10_number__226 ?_
        refine r_ic O 228 rfl 3 (by decide) dX10_number__227 ?_
        refine r_iadd O 229 rfl dX10_number__228 ?_
        refine r_ald_n O 230 rfl 0 rfl dX10_number__229 ?_
        refine r_get (ref := RX10) (C := RX10) (T := TX10) (N := 70) O 233 rfl inBX10 0 21 rfl rfl rfl (by decide) flX10_50 rfl rfl dX10_number__230 ?_
        refine r_ild O 235 rfl 4 rfl dX10_number__233 ?_
        obtain ⟨x235, ex235, hin235, hf⟩ := qld_some hf
        refine r_iald O 236 rfl 0 7 rfl rfl hin235 dX10_number__235 ?_
        rw [← ex235]
        obtain ⟨hin236, hf⟩ := qst_some hf
        obtain ⟨p236_t, ep236_t, hf⟩ := qn_some hf
        refine r_iast O 237 rfl 0 25 rfl rfl hin236 ([nX10 cI cZ cQ h_t p236_t]) (by rw [ep236_t]; rfl) dX10_number__236 ?_
        refine r_ald_n O 238 rfl 0 rfl dX10_number__237 ?_
        refine r_get (ref := RX10) (C := RX10) (T := TX10) (N := 70) O 241 rfl inBX10 0 43 rfl rfl rfl (by decide) flX10_104 rfl rfl dX10_number__238 ?_
        refine r_ic O 242 rfl 3 (by decide) dX10_number__241 ?_
        refine r_ild_n O 243 rfl 2 rfl dX10_number__242 ?_
        refine r_imul O 244 rfl dX10_number__243 ?_
        refine r_ic O 245 rfl 4 (by decide) dX10_number__244 ?_
        refine r_iadd O 246 rfl dX10_number__245 ?_
        refine r_ic O 247 rfl 2 (by decide) dX10_number__246 ?_
        refine r_ild O 249 rfl 4 rfl dX10_number__247 ?_
        refine r_imul O 250 rfl dX10_number__249 ?_
        obtain ⟨hin250, hf⟩ := qst_some hf
        obtain ⟨p250_t, ep250_t, hf⟩ := qn_some hf
        refine r_iast O 251 rfl 0 25 rfl rfl hin250 ([nX10 cI cZ cQ h_t p250_t]) (by rw [ep250_t]; rfl) dX10_number__250 ?_
        refine r_ald_n O 252 rfl 0 rfl dX10_number__251 ?_
        refine r_get (ref := RX10) (C := RX10) (T := TX10) (N := 70) O 255 rfl inBX10 0 43 rfl rfl rfl (by decide) flX10_104 rfl rfl dX10_number__252 ?_
        refine r_ic O 256 rfl 3 (by decide) dX10_number__255 ?_
        refine r_ild_n O 257 rfl 2 rfl dX10_number__256 ?_
        refine r_imul O 258 rfl dX10_number__257 ?_
        refine r_ic O 259 rfl 5 (by decide) dX10_number__258 ?_
        refine r_iadd O 260 rfl dX10_number__259 ?_
        refine r_ild O 262 rfl 5 rfl dX10_number__260 ?_
        refine r_ic O 263 rfl 1 (by decide) dX10_number__262 ?_
        refine r_iadd O 264 rfl dX10_number__263 ?_
        obtain ⟨hin264, hf⟩ := qst_some hf
        obtain ⟨p264_t, ep264_t, hf⟩ := qn_some hf
        refine r_iast O 265 rfl 0 25 rfl rfl hin264 ([nX10 cI cZ cQ h_t p264_t]) (by rw [ep264_t]; rfl) dX10_number__264 ?_
        obtain ⟨x265, ex265, hf⟩ := qn_some hf
        refine r_iinc O 268 rfl x265 2 rfl (by rw [ex265]; rfl) [(2, .int x265), (0, .ref (h_t 0)), (1, .int y1), (3, .int y3), (4, .int y4), (6, .int y6), (7, .int y7)] dX10_number__265 (by decide) rfl ?_
        refine r_lv [1, 2, 0, 3] rfl ?_
        exact B268 rec45 hrec45 _ _ _ _ hf
      · rw [if_neg hc141] at hf
        refine r_ald_n O 145 rfl 0 rfl dX10_number__144 ?_
        refine r_get (ref := RX10) (C := RX10) (T := TX10) (N := 70) O 148 rfl inBX10 0 41 rfl rfl rfl (by decide) flX10_98 rfl rfl dX10_number__145 ?_
        refine r_ild_n O 149 rfl 3 rfl dX10_number__148 ?_
        refine r_ild O 151 rfl 6 rfl dX10_number__149 ?_
        obtain ⟨hin151, hf⟩ := qst_some hf
        obtain ⟨p151_t, ep151_t, hf⟩ := qn_some hf
        refine r_iast O 152 rfl 0 23 rfl rfl hin151 ([nX10 cI cZ cQ h_t p151_t]) (by rw [ep151_t]; rfl) dX10_number__151 ?_
        refine r_ald_n O 153 rfl 0 rfl dX10_number__152 ?_
        refine r_get (ref := RX10) (C := RX10) (T := TX10) (N := 70) O 156 rfl inBX10 0 42 rfl rfl rfl (by decide) flX10_101 rfl rfl dX10_number__153 ?_
        refine r_ild O 158 rfl 6 rfl dX10_number__156 ?_
        refine r_ild_n O 159 rfl 3 rfl dX10_number__158 ?_
        obtain ⟨hin159, hf⟩ := qst_some hf
        obtain ⟨p159_t, ep159_t, hf⟩ := qn_some hf
        refine r_iast O 160 rfl 0 24 rfl rfl hin159 ([nX10 cI cZ cQ h_t p159_t]) (by rw [ep159_t]; rfl) dX10_number__159 ?_
        obtain ⟨x160, ex160, hf⟩ := qn_some hf
        refine r_iinc O 163 rfl x160 3 rfl (by rw [ex160]; rfl) [(3, .int x160), (0, .ref (h_t 0)), (1, .int y1), (2, .int y2), (4, .int y4), (6, .int y6), (7, .int y7)] dX10_number__160 (by decide) rfl ?_
        refine r_ald_n O 164 rfl 1 rfl dX10_number__163 ?_
        refine r_get (ref := RX10) (C := RX10) (T := TX10) (N := 70) O 167 rfl inBX10 0 30 rfl rfl rfl (by decide) flX10_71 rfl rfl dX10_number__164 ?_
        refine r_ild O 169 rfl 6 rfl dX10_number__167 ?_
        obtain ⟨x169, ex169, hin169, hf⟩ := qld_some hf
        refine r_iald O 170 rfl 0 14 rfl rfl hin169 dX10_number__169 ?_
        rw [← ex169]
        refine r_ist O 172 rfl [(7, .int x169), (3, .int x160), (0, .ref (h_t 0)), (1, .int y1), (2, .int y2), (4, .int y4), (6, .int y6)] dX10_number__170 (by decide) rfl ?_
        refine r_goto O 139 dX10_number__172 (by decide) ?_
        refine r_lv [2, 3, 4, 1, 5, 6, 0] rfl ?_
        exact hrec139 _ _ _ _ _ _ _ hf
  have B45 : ∀ n : Nat, ∀ (w_t : Pk) (y1 : Int32) (y2 : Int32) (y3 : Int32), fX10_number__b45 n w_t y1 y2 y3 = some v_t → BK X 8 0 0 45 ([nX10 cI cZ cQ h_t w_t]) [(0, .ref (h_t 0)), (1, .int y1), (2, .int y2), (3, .int y3)] [] := by
    intro n
    induction n with
    | zero => exact fun _ _ _ _ hf => qno hf
    | succ n hrec45 =>
      intro w_t y1 y2 y3 hf
      have hf : fX10_number__b45_s (fX10_number__b45 n) w_t y1 y2 y3 = some v_t := hf
      generalize fX10_number__b45 n = rec45 at hf hrec45
      unfold fX10_number__b45_s at hf
      refine r_ild_n O 46 rfl 2 rfl dX10_number__45 ?_
      refine r_if_le O 49 rfl 271 dX10_number__46 (by decide) (fun hc46 => ?_) (fun hc46 => ?_)
      · rw [if_pos hc46] at hf
        obtain g0 := qe1 hf
        exact r_vret2 O E (by rw [g0]) dX10_number__271
      · rw [if_neg hc46] at hf
        obtain ⟨x49, ex49, hf⟩ := qn_some hf
        refine r_iinc O 52 rfl x49 2 rfl (by rw [ex49]; rfl) [(2, .int x49), (0, .ref (h_t 0)), (1, .int y1), (3, .int y3)] dX10_number__49 (by decide) rfl ?_
        refine r_ald_n O 53 rfl 1 rfl dX10_number__52 ?_
        refine r_get (ref := RX10) (C := RX10) (T := TX10) (N := 70) O 56 rfl inBX10 0 43 rfl rfl rfl (by decide) flX10_104 rfl rfl dX10_number__53 ?_
        refine r_ic O 57 rfl 3 (by decide) dX10_number__56 ?_
        refine r_ild_n O 58 rfl 0 rfl dX10_number__57 ?_
        refine r_imul O 59 rfl dX10_number__58 ?_
        obtain ⟨x59, ex59, hin59, hf⟩ := qld_some hf
        refine r_iald O 60 rfl 0 25 rfl rfl hin59 dX10_number__59 ?_
        rw [← ex59]
        refine r_ist O 62 rfl [(4, .int x59), (2, .int x49), (0, .ref (h_t 0)), (1, .int y1), (3, .int y3)] dX10_number__60 (by decide) rfl ?_
        refine r_ald_n O 63 rfl 2 rfl dX10_number__62 ?_
        refine r_get (ref := RX10) (C := RX10) (T := TX10) (N := 70) O 66 rfl inBX10 0 43 rfl rfl rfl (by decide) flX10_104 rfl rfl dX10_number__63 ?_
        refine r_ic O 67 rfl 3 (by decide) dX10_number__66 ?_
        refine r_ild_n O 68 rfl 1 rfl dX10_number__67 ?_
        refine r_imul O 69 rfl dX10_number__68 ?_
        refine r_ic O 70 rfl 1 (by decide) dX10_number__69 ?_
        refine r_iadd O 71 rfl dX10_number__70 ?_
        obtain ⟨x71, ex71, hin71, hf⟩ := qld_some hf
        refine r_iald O 72 rfl 0 25 rfl rfl hin71 dX10_number__71 ?_
        rw [← ex71]
        refine r_ist O 74 rfl [(5, .int x71), (4, .int x59), (2, .int x49), (0, .ref (h_t 0)), (1, .int y1), (3, .int y3)] dX10_number__72 (by decide) rfl ?_
        refine r_ald_n O 75 rfl 3 rfl dX10_number__74 ?_
        refine r_get (ref := RX10) (C := RX10) (T := TX10) (N := 70) O 78 rfl inBX10 0 43 rfl rfl rfl (by decide) flX10_104 rfl rfl dX10_number__75 ?_
        refine r_ic O 79 rfl 3 (by decide) dX10_number__78 ?_
        refine r_ild_n O 80 rfl 2 rfl dX10_number__79 ?_
        refine r_imul O 81 rfl dX10_number__80 ?_
        refine r_ic O 82 rfl 2 (by decide) dX10_number__81 ?_
        refine r_iadd O 83 rfl dX10_number__82 ?_
        obtain ⟨x83, ex83, hin83, hf⟩ := qld_some hf
        refine r_iald O 84 rfl 0 25 rfl rfl hin83 dX10_number__83 ?_
        rw [← ex83]
        refine r_ist O 86 rfl [(6, .int x83), (5, .int x71), (4, .int x59), (2, .int x49), (0, .ref (h_t 0)), (1, .int y1), (3, .int y3)] dX10_number__84 (by decide) rfl ?_
        refine r_ild O 88 rfl 2 rfl dX10_number__86 ?_
        refine r_if_ge O 91 rfl 102 dX10_number__88 (by decide) (fun hc88 => ?_) (fun hc88 => ?_)
        · rw [if_pos hc88] at hf
          refine r_ald_n O 103 rfl 4 rfl dX10_number__102 ?_
          refine r_get (ref := RX10) (C := RX10) (T := TX10) (N := 70) O 106 rfl inBX10 0 38 rfl rfl rfl (by decide) flX10_89 rfl rfl dX10_number__103 ?_
          refine r_ild_n O 107 rfl 5 rfl dX10_number__106 ?_
          refine r_ild O 109 rfl 2 rfl dX10_number__107 ?_
          obtain ⟨hin109, hf⟩ := qst_some hf
          obtain ⟨p109_t, ep109_t, hf⟩ := qn_some hf
          refine r_iast O 110 rfl 0 20 rfl rfl hin109 ([nX10 cI cZ cQ h_t p109_t]) (by rw [ep109_t]; rfl) dX10_number__109 ?_
          refine r_ald_n O 111 rfl 4 rfl dX10_number__110 ?_
          refine r_get (ref := RX10) (C := RX10) (T := TX10) (N := 70) O 114 rfl inBX10 0 39 rfl rfl rfl (by decide) flX10_92 rfl rfl dX10_number__111 ?_
          refine r_ild O 116 rfl 2 rfl dX10_number__114 ?_
          refine r_ild_n O 117 rfl 5 rfl dX10_number__116 ?_
          obtain ⟨hin117, hf⟩ := qst_some hf
          obtain ⟨p117_t, ep117_t, hf⟩ := qn_some hf
          refine r_iast O 118 rfl 0 21 rfl rfl hin117 ([nX10 cI cZ cQ h_t p117_t]) (by rw [ep117_t]; rfl) dX10_number__117 ?_
          refine r_ald_n O 119 rfl 4 rfl dX10_number__118 ?_
          refine r_get (ref := RX10) (C := RX10) (T := TX10) (N := 70) O 122 rfl inBX10 0 40 rfl rfl rfl (by decide) flX10_95 rfl rfl dX10_number__119 ?_
          refine r_ild O 124 rfl 2 rfl dX10_number__122 ?_
          refine r_ild O 126 rfl 0 rfl dX10_number__124 ?_
          obtain ⟨hin126, hf⟩ := qst_some hf
          obtain ⟨p126_t, ep126_t, hf⟩ := qn_some hf
          refine r_iast O 127 rfl 0 22 rfl rfl hin126 ([nX10 cI cZ cQ h_t p126_t]) (by rw [ep126_t]; rfl) dX10_number__126 ?_
          obtain ⟨x127, ex127, hf⟩ := qn_some hf
          refine r_iinc O 130 rfl x127 5 rfl (by rw [ex127]; rfl) [(1, .int x127), (6, .int x83), (5, .int x71), (4, .int x59), (2, .int x49), (0, .ref (h_t 0)), (3, .int y3)] dX10_number__127 (by decide) rfl ?_
          refine r_ald_n O 131 rfl 5 rfl dX10_number__130 ?_
          refine r_get (ref := RX10) (C := RX10) (T := TX10) (N := 70) O 134 rfl inBX10 0 23 rfl rfl rfl (by decide) flX10_56 rfl rfl dX10_number__131 ?_
          refine r_ild O 136 rfl 3 rfl dX10_number__134 ?_
          obtain ⟨x136, ex136, hin136, hf⟩ := qld_some hf
          refine r_iald O 137 rfl 0 9 rfl rfl hin136 dX10_number__136 ?_
          rw [← ex136]
          refine r_ist O 139 rfl [(7, .int x136), (1, .int x127), (6, .int x83), (5, .int x71), (4, .int x59), (2, .int x49), (0, .ref (h_t 0)), (3, .int y3)] dX10_number__137 (by decide) rfl ?_
          refine r_lv [6, 1, 5, 7, 4, 2, 0] rfl ?_
          exact B139 rec45 hrec45 FU _ _ _ _ _ _ _ hf
        · rw [if_neg hc88] at hf
          refine r_ald_n O 92 rfl 4 rfl dX10_number__91 ?_
          refine r_ild O 94 rfl 1 rfl dX10_number__92 ?_
          refine r_ild O 96 rfl 0 rfl dX10_number__94 ?_
          obtain ⟨p96_t, hq96, hf⟩ := qb1_some hf
          refine k_VV O 99 rfl (zX10_leaf (l := xl X) (D := xD X) (cI := cI) (cZ := cZ) (cQ := cQ) (h_t := h_t) hq96) (gV mlX10_260 mvX10_leaf izX10) rfl rfl rfl hdX10_leaf ⟨Nat.le_of_ble_eq_true rfl, Nat.le_of_ble_eq_true rfl⟩ rfl 0 rfl rfl rfl rfl (Nat.le_of_ble_eq_true rfl) ⟨Nat.zero_le _, Nat.zero_le _⟩ [0] rfl rfl rfl ([nX10 cI cZ cQ h_t p96_t]) rfl dX10_number__96 ?_
          refine r_goto O 268 dX10_number__99 (by decide) ?_
          refine r_lv [4, 5, 3, 6] rfl ?_
          exact B268 rec45 hrec45 _ _ _ _ hf
  unfold fX10_number_ at hf
  refine r_ic O 1 rfl 0 (by decide) dX10_number__0 ?_
  refine r_ist_n O 2 rfl rfl [(1, .int 0), (0, .ref (h_t 0))] dX10_number__1 (by decide) rfl ?_
  refine r_ic O 3 rfl 1 (by decide) dX10_number__2 ?_
  refine r_ist_n O 4 rfl rfl [(2, .int 1), (1, .int 0), (0, .ref (h_t 0))] dX10_number__3 (by decide) rfl ?_
  refine r_ic O 5 rfl 0 (by decide) dX10_number__4 ?_
  refine r_ist_n O 6 rfl rfl [(3, .int 0), (2, .int 1), (1, .int 0), (0, .ref (h_t 0))] dX10_number__5 (by decide) rfl ?_
  refine r_ald_n O 7 rfl 3 rfl dX10_number__6 ?_
  refine r_ic O 8 rfl 0 (by decide) dX10_number__7 ?_
  obtain ⟨p8_t, ep8_t, hf⟩ := qn_some hf
  refine r_put (ref := RX10) (C := RX10) (T := TX10) (N := 70) O 11 rfl inBX10 tyX10 tyX10_ok nmX10 0 46 rfl rfl rfl (by decide) flX10_248 rfl rfl rfl rfl (Nat.le_of_ble_eq_true rfl) ([nX10 cI cZ cQ h_t p8_t]) (by rw [ep8_t]; rfl) dX10_number__8 ?_
  refine r_ald_n O 12 rfl 3 rfl dX10_number__11 ?_
  refine r_ic O 13 rfl 0 (by decide) dX10_number__12 ?_
  obtain ⟨p13_t, ep13_t, hf⟩ := qn_some hf
  refine r_put (ref := RX10) (C := RX10) (T := TX10) (N := 70) O 16 rfl inBX10 tyX10 tyX10_ok nmX10 0 47 rfl rfl rfl (by decide) flX10_254 rfl rfl rfl rfl (Nat.le_of_ble_eq_true rfl) ([nX10 cI cZ cQ h_t p13_t]) (by rw [ep13_t]; rfl) dX10_number__13 ?_
  refine r_ald_n O 17 rfl 3 rfl dX10_number__16 ?_
  refine r_ic O 18 rfl 0 (by decide) dX10_number__17 ?_
  obtain ⟨p18_t, ep18_t, hf⟩ := qn_some hf
  refine r_put (ref := RX10) (C := RX10) (T := TX10) (N := 70) O 21 rfl inBX10 tyX10 tyX10_ok nmX10 0 48 rfl rfl rfl (by decide) flX10_257 rfl rfl rfl rfl (Nat.le_of_ble_eq_true rfl) ([nX10 cI cZ cQ h_t p18_t]) (by rw [ep18_t]; rfl) dX10_number__18 ?_
  refine r_ald_n O 22 rfl 3 rfl dX10_number__21 ?_
  refine r_get (ref := RX10) (C := RX10) (T := TX10) (N := 70) O 25 rfl inBX10 0 43 rfl rfl rfl (by decide) flX10_104 rfl rfl dX10_number__22 ?_
  refine r_ic O 26 rfl 0 (by decide) dX10_number__25 ?_
  refine r_ald_n O 27 rfl 3 rfl dX10_number__26 ?_
  refine r_get (ref := RX10) (C := RX10) (T := TX10) (N := 70) O 30 rfl inBX10 0 26 rfl rfl rfl (by decide) flX10_212 rfl rfl dX10_number__27 ?_
  obtain ⟨hin30, hf⟩ := qst_some hf
  obtain ⟨p30_t, ep30_t, hf⟩ := qn_some hf
  refine r_iast O 31 rfl 0 25 rfl rfl hin30 ([nX10 cI cZ cQ h_t p30_t]) (by rw [ep30_t]; rfl) dX10_number__30 ?_
  refine r_ald_n O 32 rfl 3 rfl dX10_number__31 ?_
  refine r_get (ref := RX10) (C := RX10) (T := TX10) (N := 70) O 35 rfl inBX10 0 43 rfl rfl rfl (by decide) flX10_104 rfl rfl dX10_number__32 ?_
  refine r_ic O 36 rfl 1 (by decide) dX10_number__35 ?_
  refine r_ic O 37 rfl (-1) (by decide) dX10_number__36 ?_
  obtain ⟨hin37, hf⟩ := qst_some hf
  obtain ⟨p37_t, ep37_t, hf⟩ := qn_some hf
  refine r_iast O 38 rfl 0 25 rfl rfl hin37 ([nX10 cI cZ cQ h_t p37_t]) (by rw [ep37_t]; rfl) dX10_number__37 ?_
  refine r_ald_n O 39 rfl 3 rfl dX10_number__38 ?_
  refine r_get (ref := RX10) (C := RX10) (T := TX10) (N := 70) O 42 rfl inBX10 0 43 rfl rfl rfl (by decide) flX10_104 rfl rfl dX10_number__39 ?_
  refine r_ic O 43 rfl 2 (by decide) dX10_number__42 ?_
  refine r_ic O 44 rfl 0 (by decide) dX10_number__43 ?_
  obtain ⟨hin44, hf⟩ := qst_some hf
  obtain ⟨p44_t, ep44_t, hf⟩ := qn_some hf
  refine r_iast O 45 rfl 0 25 rfl rfl hin44 ([nX10 cI cZ cQ h_t p44_t]) (by rw [ep44_t]; rfl) dX10_number__44 ?_
  refine r_lv [3, 2, 1, 0] rfl ?_
  exact B45 FU _ _ _ _ hf
