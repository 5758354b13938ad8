-- X4_has
def rmX4_has : Room := { frames := 0, cells := 0, slots := 0, locals := 0 }
set_option maxHeartbeats 4000000 in
set_option maxRecDepth 100000 in
theorem zX4_has {l : Launch} {D : va_G} {cI cZ cQ : ClassId} {h_t : Nat → Nat} {r_w : Nat} {u_t : Pk} {a1 : Int32} {r0 : Int32} (hf : fX4_has u_t a1 = some r0) : MZ l yX4_has wsX4_has rmX4_has D (TY cI cZ cQ) [.ref (h_t 0), .int a1] [nX4 cI cZ cQ h_t r_w u_t] r0 [nX4 cI cZ cQ h_t r_w u_t] := by
  refine MZ.of (own := RX4) (by decide +kernel) rfl rfl (Nat.le_of_ble_eq_true rfl) (lv0 := [(0, .ref (h_t 0)), (1, .int a1)]) rfl ?_
  intro X O E
  unfold fX4_has at hf
  refine r_ild_n O 1 rfl 1 rfl dX4_has_0 ?_
  refine r_if_lt O 4 rfl 24 dX4_has_1 (by decide) (fun hc1 => ?_) (fun hc1 => ?_)
  · rw [if_pos hc1] at hf
    refine r_ic O 25 rfl 0 (by decide) dX4_has_24 ?_
    obtain g0 := qe1 hf
    exact r_zret2 O E g0 rfl rfl dX4_has_25
  · rw [if_neg hc1] at hf
    refine r_ild_n O 5 rfl 1 rfl dX4_has_4 ?_
    refine r_ald_n O 6 rfl 0 rfl dX4_has_5 ?_
    refine r_get (ref := RX4) (C := RX4) (T := TX4) (N := 8) O 9 rfl inBX4 0 7 rfl rfl rfl (by decide) flX4_35 rfl rfl dX4_has_6 ?_
    refine r_icmp_ge O 12 rfl 24 dX4_has_9 (by decide) (fun hc9 => ?_) (fun hc9 => ?_)
    · rw [if_pos hc9] at hf
      refine r_ic O 25 rfl 0 (by decide) dX4_has_24 ?_
      obtain g0 := qe1 hf
      exact r_zret2 O E g0 rfl rfl dX4_has_25
    · rw [if_neg hc9] at hf
      refine r_ild_n O 13 rfl 1 rfl dX4_has_12 ?_
      refine r_ald_n O 14 rfl 0 rfl dX4_has_13 ?_
      refine r_get (ref := RX4) (C := RX4) (T := TX4) (N := 8) O 17 rfl inBX4 0 1 rfl rfl rfl (by decide) flX4_15 rfl rfl dX4_has_14 ?_
      refine r_icmp_ge O 20 rfl 24 dX4_has_17 (by decide) (fun hc17 => ?_) (fun hc17 => ?_)
      · rw [if_pos hc17] at hf
        refine r_ic O 25 rfl 0 (by decide) dX4_has_24 ?_
        obtain g0 := qe1 hf
        exact r_zret2 O E g0 rfl rfl dX4_has_25
      · rw [if_neg hc17] at hf
        refine r_ic O 21 rfl 1 (by decide) dX4_has_20 ?_
        refine r_goto O 25 dX4_has_21 (by decide) ?_
        obtain g0 := qe1 hf
        exact r_zret2 O E g0 rfl rfl dX4_has_25
-- X4_wallOf
def rmX4_wallOf : Room := { frames := 1, cells := 0, slots := 0, locals := 21 }
set_option maxHeartbeats 4000000 in
set_option maxRecDepth 100000 in
theorem zX4_wallOf {l : Launch} {D : va_G} {cI cZ cQ : ClassId} {h_t : Nat → Nat} {r_w : Nat} {u_t : Pk} {a1 : Int32} {r0 : Int32} (hf : fX4_wallOf u_t a1 = some r0) : MI l yX4_wallOf wsX4_wallOf rmX4_wallOf D (TY cI cZ cQ) [.ref (h_t 0), .int a1] [nX4 cI cZ cQ h_t r_w u_t] r0 [nX4 cI cZ cQ h_t r_w u_t] := by
  refine MI.of (own := RX4) (by decide +kernel) rfl rfl (Nat.le_of_ble_eq_true rfl) (lv0 := [(0, .ref (h_t 0)), (1, .int a1)]) rfl ?_
  intro X O E
  unfold fX4_wallOf at hf
  refine r_ald_n O 1 rfl 0 rfl dX4_wallOf_0 ?_
  refine r_ild_n O 2 rfl 1 rfl dX4_wallOf_1 ?_
  obtain ⟨x2, hq2, hf⟩ := qb1_some hf
  refine k_VZ O 5 rfl (zX4_has (l := xl X) (D := xD X) (cI := cI) (cZ := cZ) (cQ := cQ) (h_t := h_t) (r_w := r_w) hq2) (gV mlX4_38 mvX4_has izX4) rfl rfl rfl hdX4_has ⟨Nat.le_of_ble_eq_true rfl, Nat.le_of_ble_eq_true rfl⟩ rfl 0 rfl rfl rfl rfl (Nat.le_of_ble_eq_true rfl) ⟨Nat.zero_le _, Nat.zero_le _⟩ [0] rfl rfl rfl ([nX4 cI cZ cQ h_t r_w u_t]) rfl dX4_wallOf_2 (fun hz2 => ?_)
  refine r_if_eq O 8 rfl 17 dX4_wallOf_5 (by decide) (fun hc5 => ?_) (fun hc5 => ?_)
  · rw [if_pos hc5] at hf
    refine r_bi O 19 rfl (-8) (by decide) dX4_wallOf_17 ?_
    obtain g0 := qe1 hf
    exact r_iret2 O E g0 rfl dX4_wallOf_19
  · rw [if_neg hc5] at hf
    refine r_ald_n O 9 rfl 0 rfl dX4_wallOf_8 ?_
    refine r_get (ref := RX4) (C := RX4) (T := TX4) (N := 8) O 12 rfl inBX4 0 2 rfl rfl rfl (by decide) flX4_19 rfl rfl dX4_wallOf_9 ?_
    refine r_ild_n O 13 rfl 1 rfl dX4_wallOf_12 ?_
    obtain ⟨x13, ex13, hin13, hf⟩ := qld_some hf
    refine r_iald O 14 rfl 0 1 rfl rfl hin13 dX4_wallOf_13 ?_
    rw [← ex13]
    refine r_goto O 19 dX4_wallOf_14 (by decide) ?_
    obtain g0 := qe1 hf
    exact r_iret2 O E g0 rfl dX4_wallOf_19
-- X4_shorten
def rmX4_shorten : Room := { frames := 0, cells := 0, slots := 0, locals := 0 }
set_option maxHeartbeats 4000000 in
set_option maxRecDepth 100000 in
theorem zX4_shorten {l : Launch} {D : va_G} {cI cZ cQ : ClassId} {h_t : Nat → Nat} {r_w : Nat} {u_t : Pk} {a1 : Int32} {v_t : Pk} (hf : fX4_shorten u_t a1 = some v_t) : MV l yX4_shorten wsX4_shorten rmX4_shorten D (TY cI cZ cQ) [.ref (h_t 0), .int a1] [nX4 cI cZ cQ h_t r_w u_t] [nX4 cI cZ cQ h_t r_w v_t] := by
  refine MV.of (own := RX4) (by decide +kernel) rfl rfl (Nat.le_of_ble_eq_true rfl) (lv0 := [(0, .ref (h_t 0)), (1, .int a1)]) rfl ?_
  intro X O E
  unfold fX4_shorten at hf
  refine r_ild_n O 1 rfl 1 rfl dX4_shorten_0 ?_
  refine r_if_lt O 4 rfl 17 dX4_shorten_1 (by decide) (fun hc1 => ?_) (fun hc1 => ?_)
  · rw [if_pos hc1] at hf
    obtain g0 := qe1 hf
    exact r_vret2 O E (by rw [g0]) dX4_shorten_17
  · rw [if_neg hc1] at hf
    refine r_ild_n O 5 rfl 1 rfl dX4_shorten_4 ?_
    refine r_ald_n O 6 rfl 0 rfl dX4_shorten_5 ?_
    refine r_get (ref := RX4) (C := RX4) (T := TX4) (N := 8) O 9 rfl inBX4 0 7 rfl rfl rfl (by decide) flX4_35 rfl rfl dX4_shorten_6 ?_
    refine r_icmp_ge O 12 rfl 17 dX4_shorten_9 (by decide) (fun hc9 => ?_) (fun hc9 => ?_)
    · rw [if_pos hc9] at hf
      obtain g0 := qe1 hf
      exact r_vret2 O E (by rw [g0]) dX4_shorten_17
    · rw [if_neg hc9] at hf
      refine r_ald_n O 13 rfl 0 rfl dX4_shorten_12 ?_
      refine r_ild_n O 14 rfl 1 rfl dX4_shorten_13 ?_
      obtain ⟨p14_t, ep14_t, hf⟩ := qn_some hf
      refine r_put (ref := RX4) (C := RX4) (T := TX4) (N := 8) O 17 rfl inBX4 tyX4 tyX4_ok nmX4 0 7 rfl rfl rfl (by decide) flX4_35 rfl rfl rfl rfl (Nat.le_of_ble_eq_true rfl) ([nX4 cI cZ cQ h_t r_w p14_t]) (by rw [ep14_t]; rfl) dX4_shorten_14 ?_
      obtain g0 := qe1 hf
      exact r_vret2 O E (by rw [g0]) dX4_shorten_17
-- X4_add
def rmX4_add : Room := { frames := 0, cells := 0, slots := 0, locals := 0 }
set_option maxHeartbeats 4000000 in
set_option maxRecDepth 100000 in
theorem zX4_add {l : Launch} {D : va_G} {cI cZ cQ : ClassId} {h_t : Nat → Nat} {r_w : Nat} {u_t : Pk} {a1 : Int32} {a2 : Int32} {a3 : Int32} {a4 : Int32} {a5 : Int32} {v_t : Pk} (hf : fX4_add u_t a1 a2 a3 a4 a5 = some v_t) : MV l yX4_add wsX4_add rmX4_add D (TY cI cZ cQ) [.ref (h_t 0), .int a1, .int a2, .int a3, .int a4, .int a5] [nX4 cI cZ cQ h_t r_w u_t] [nX4 cI cZ cQ h_t r_w v_t] := by
  refine MV.of (own := RX4) (by decide +kernel) rfl rfl (Nat.le_of_ble_eq_true rfl) (lv0 := [(0, .ref (h_t 0)), (1, .int a1), (2, .int a2), (3, .int a3), (4, .int a4), (5, .int a5)]) rfl ?_
  intro X O E
  unfold fX4_add at hf
  refine r_ald_n O 1 rfl 0 rfl dX4_add_0 ?_
  refine r_get (ref := RX4) (C := RX4) (T := TX4) (N := 8) O 4 rfl inBX4 0 7 rfl rfl rfl (by decide) flX4_35 rfl rfl dX4_add_1 ?_
  refine r_if_lt O 7 rfl 18 dX4_add_4 (by decide) (fun hc4 => ?_) (fun hc4 => ?_)
  · rw [if_pos hc4] at hf
    obtain g0 := qe1 hf
    exact r_vret2 O E (by rw [g0]) dX4_add_18
  · rw [if_neg hc4] at hf
    refine r_ald_n O 8 rfl 0 rfl dX4_add_7 ?_
    refine r_get (ref := RX4) (C := RX4) (T := TX4) (N := 8) O 11 rfl inBX4 0 7 rfl rfl rfl (by decide) flX4_35 rfl rfl dX4_add_8 ?_
    refine r_ald_n O 12 rfl 0 rfl dX4_add_11 ?_
    refine r_get (ref := RX4) (C := RX4) (T := TX4) (N := 8) O 15 rfl inBX4 0 1 rfl rfl rfl (by decide) flX4_15 rfl rfl dX4_add_12 ?_
    refine r_icmp_lt O 18 rfl 19 dX4_add_15 (by decide) (fun hc15 => ?_) (fun hc15 => ?_)
    · rw [if_pos hc15] at hf
      refine r_ald_n O 20 rfl 0 rfl dX4_add_19 ?_
      refine r_get (ref := RX4) (C := RX4) (T := TX4) (N := 8) O 23 rfl inBX4 0 2 rfl rfl rfl (by decide) flX4_19 rfl rfl dX4_add_20 ?_
      refine r_ald_n O 24 rfl 0 rfl dX4_add_23 ?_
      refine r_get (ref := RX4) (C := RX4) (T := TX4) (N := 8) O 27 rfl inBX4 0 7 rfl rfl rfl (by decide) flX4_35 rfl rfl dX4_add_24 ?_
      refine r_ild_n O 28 rfl 1 rfl dX4_add_27 ?_
      obtain ⟨hin28, hf⟩ := qst_some hf
      obtain ⟨p28_t, ep28_t, hf⟩ := qn_some hf
      refine r_iast O 29 rfl 0 1 rfl rfl hin28 ([nX4 cI cZ cQ h_t r_w p28_t]) (by rw [ep28_t]; rfl) dX4_add_28 ?_
      refine r_ald_n O 30 rfl 0 rfl dX4_add_29 ?_
      refine r_get (ref := RX4) (C := RX4) (T := TX4) (N := 8) O 33 rfl inBX4 0 3 rfl rfl rfl (by decide) flX4_23 rfl rfl dX4_add_30 ?_
      refine r_ald_n O 34 rfl 0 rfl dX4_add_33 ?_
      refine r_get (ref := RX4) (C := RX4) (T := TX4) (N := 8) O 37 rfl inBX4 0 7 rfl rfl rfl (by decide) flX4_35 rfl rfl dX4_add_34 ?_
      refine r_ild_n O 38 rfl 2 rfl dX4_add_37 ?_
      obtain ⟨hin38, hf⟩ := qst_some hf
      obtain ⟨p38_t, ep38_t, hf⟩ := qn_some hf
      refine r_iast O 39 rfl 0 2 rfl rfl hin38 ([nX4 cI cZ cQ h_t r_w p38_t]) (by rw [ep38_t]; rfl) dX4_add_38 ?_
      refine r_ald_n O 40 rfl 0 rfl dX4_add_39 ?_
      refine r_get (ref := RX4) (C := RX4) (T := TX4) (N := 8) O 43 rfl inBX4 0 4 rfl rfl rfl (by decide) flX4_26 rfl rfl dX4_add_40 ?_
      refine r_ald_n O 44 rfl 0 rfl dX4_add_43 ?_
      refine r_get (ref := RX4) (C := RX4) (T := TX4) (N := 8) O 47 rfl inBX4 0 7 rfl rfl rfl (by decide) flX4_35 rfl rfl dX4_add_44 ?_
      refine r_ild_n O 48 rfl 3 rfl dX4_add_47 ?_
      obtain ⟨hin48, hf⟩ := qst_some hf
      obtain ⟨p48_t, ep48_t, hf⟩ := qn_some hf
      refine r_iast O 49 rfl 0 3 rfl rfl hin48 ([nX4 cI cZ cQ h_t r_w p48_t]) (by rw [ep48_t]; rfl) dX4_add_48 ?_
      refine r_ald_n O 50 rfl 0 rfl dX4_add_49 ?_
      refine r_get (ref := RX4) (C := RX4) (T := TX4) (N := 8) O 53 rfl inBX4 0 5 rfl rfl rfl (by decide) flX4_29 rfl rfl dX4_add_50 ?_
      refine r_ald_n O 54 rfl 0 rfl dX4_add_53 ?_
      refine r_get (ref := RX4) (C := RX4) (T := TX4) (N := 8) O 57 rfl inBX4 0 7 rfl rfl rfl (by decide) flX4_35 rfl rfl dX4_add_54 ?_
      refine r_ild O 59 rfl 4 rfl dX4_add_57 ?_
      obtain ⟨hin59, hf⟩ := qst_some hf
      obtain ⟨p59_t, ep59_t, hf⟩ := qn_some hf
      refine r_iast O 60 rfl 0 4 rfl rfl hin59 ([nX4 cI cZ cQ h_t r_w p59_t]) (by rw [ep59_t]; rfl) dX4_add_59 ?_
      refine r_ald_n O 61 rfl 0 rfl dX4_add_60 ?_
      refine r_get (ref := RX4) (C := RX4) (T := TX4) (N := 8) O 64 rfl inBX4 0 6 rfl rfl rfl (by decide) flX4_32 rfl rfl dX4_add_61 ?_
      refine r_ald_n O 65 rfl 0 rfl dX4_add_64 ?_
      refine r_get (ref := RX4) (C := RX4) (T := TX4) (N := 8) O 68 rfl inBX4 0 7 rfl rfl rfl (by decide) flX4_35 rfl rfl dX4_add_65 ?_
      refine r_ild O 70 rfl 5 rfl dX4_add_68 ?_
      obtain ⟨hin70, hf⟩ := qst_some hf
      obtain ⟨p70_t, ep70_t, hf⟩ := qn_some hf
      refine r_iast O 71 rfl 0 5 rfl rfl hin70 ([nX4 cI cZ cQ h_t r_w p70_t]) (by rw [ep70_t]; rfl) dX4_add_70 ?_
      refine r_ald_n O 72 rfl 0 rfl dX4_add_71 ?_
      refine r_dup O 73 rfl dX4_add_72 rfl ?_
      refine r_get (ref := RX4) (C := RX4) (T := TX4) (N := 8) O 76 rfl inBX4 0 7 rfl rfl rfl (by decide) flX4_35 rfl rfl dX4_add_73 ?_
      refine r_ic O 77 rfl 1 (by decide) dX4_add_76 ?_
      refine r_iadd O 78 rfl dX4_add_77 ?_
      obtain ⟨p78_t, ep78_t, hf⟩ := qn_some hf
      refine r_put (ref := RX4) (C := RX4) (T := TX4) (N := 8) O 81 rfl inBX4 tyX4 tyX4_ok nmX4 0 7 rfl rfl rfl (by decide) flX4_35 rfl rfl rfl rfl (Nat.le_of_ble_eq_true rfl) ([nX4 cI cZ cQ h_t r_w p78_t]) (by rw [ep78_t]; rfl) dX4_add_78 ?_
      obtain g0 := qe1 hf
      exact r_vret2 O E (by rw [g0]) dX4_add_81
    · rw [if_neg hc15] at hf
      obtain g0 := qe1 hf
      exact r_vret2 O E (by rw [g0]) dX4_add_18
-- X4_addWhole
def rmX4_addWhole : Room := { frames := 1, cells := 0, slots := 0, locals := 25 }
set_option maxHeartbeats 4000000 in
set_option maxRecDepth 100000 in
theorem zX4_addWhole {l : Launch} {D : va_G} {cI cZ cQ : ClassId} {h_t : Nat → Nat} {r_w : Nat} {u_t : Pk} {a1 : Int32} {v_t : Pk} (hf : fX4_addWhole u_t a1 = some v_t) : MV l yX4_addWhole wsX4_addWhole rmX4_addWhole D (TY cI cZ cQ) [.ref (h_t 0), .int a1] [nX4 cI cZ cQ h_t r_w u_t] [nX4 cI cZ cQ h_t r_w v_t] := by
  refine MV.of (own := RX4) (by decide +kernel) rfl rfl (Nat.le_of_ble_eq_true rfl) (lv0 := [(0, .ref (h_t 0)), (1, .int a1)]) rfl ?_
  intro X O E
  unfold fX4_addWhole at hf
  refine r_ald_n O 1 rfl 0 rfl dX4_addWhole_0 ?_
  refine r_ild_n O 2 rfl 1 rfl dX4_addWhole_1 ?_
  refine r_ic O 3 rfl 0 (by decide) dX4_addWhole_2 ?_
  refine r_ic O 4 rfl 1 (by decide) dX4_addWhole_3 ?_
  refine r_ic O 5 rfl 1 (by decide) dX4_addWhole_4 ?_
  refine r_ic O 6 rfl 1 (by decide) dX4_addWhole_5 ?_
  obtain ⟨p6_t, hq6, hf⟩ := qb1_some hf
  refine k_VV O 9 rfl (zX4_add (l := xl X) (D := xD X) (cI := cI) (cZ := cZ) (cQ := cQ) (h_t := h_t) (r_w := r_w) hq6) (gV mlX4_42 mvX4_add izX4) rfl rfl rfl hdX4_add ⟨Nat.le_of_ble_eq_true rfl, Nat.le_of_ble_eq_true rfl⟩ rfl 0 rfl rfl rfl rfl (Nat.le_of_ble_eq_true rfl) ⟨Nat.zero_le _, Nat.zero_le _⟩ [0] rfl rfl rfl ([nX4 cI cZ cQ h_t r_w p6_t]) rfl dX4_addWhole_6 ?_
  obtain g0 := qe1 hf
  exact r_vret2 O E (by rw [g0]) dX4_addWhole_9
-- X4_addWalls
def rmX4_addWalls : Room := { frames := 2, cells := 0, slots := 0, locals := 46 }
set_option maxHeartbeats 4000000 in
set_option maxRecDepth 100000 in
theorem zX4_addWalls {l : Launch} {D : va_G} {cI cZ cQ : ClassId} {h_t h_w : Nat → Nat} {u_w u_t : Pk} {a1 : Int32} {v_t : Pk} (hf : fX4_addWalls u_w u_t a1 = some v_t) : MV l yX4_addWalls wsX4_addWalls rmX4_addWalls D (TY cI cZ cQ) [.ref (h_t 0), .int a1] [nX4 cI cZ cQ h_t (h_w 0) u_t, nX8 cI cZ cQ h_w u_w] [nX4 cI cZ cQ h_t (h_w 0) v_t, nX8 cI cZ cQ h_w u_w] := by
  refine MV.of (own := RX4) (by decide +kernel) rfl rfl (Nat.le_of_ble_eq_true rfl) (lv0 := [(0, .ref (h_t 0)), (1, .int a1)]) rfl ?_
  intro X O E
  have B42 : ∀ (rec2 : Pk → Int32 → Int32 → Option (Pk)), (∀ (w_t : Pk) (y1 : Int32) (y2 : Int32), rec2 w_t y1 y2 = some v_t → BK X 3 0 0 2 ([nX4 cI cZ cQ h_t (h_w 0) w_t, nX8 cI cZ cQ h_w u_w]) [(0, .ref (h_t 0)), (1, .int y1), (2, .int y2)] []) → ∀ (w_t : Pk) (y1 : Int32) (y2 : Int32), fX4_addWalls_b42 rec2 u_w w_t y1 y2 = some v_t → BK X 3 0 0 42 ([nX4 cI cZ cQ h_t (h_w 0) w_t, nX8 cI cZ cQ h_w u_w]) [(0, .ref (h_t 0)), (1, .int y1), (2, .int y2)] [] := by
    intro rec2 hrec2 w_t y1 y2 hf
    unfold fX4_addWalls_b42 at hf
    obtain ⟨x42, ex42, hf⟩ := qn_some hf
    refine r_iinc O 45 rfl x42 2 rfl (by rw [ex42]; rfl) [(2, .int x42), (0, .ref (h_t 0)), (1, .int y1)] dX4_addWalls_42 (by decide) rfl ?_
    refine r_goto O 2 dX4_addWalls_45 (by decide) ?_
    refine r_lv [1, 2, 0] rfl ?_
    exact hrec2 _ _ _ hf
  have B37 : ∀ (rec2 : Pk → Int32 → Int32 → Option (Pk)), (∀ (w_t : Pk) (y1 : Int32) (y2 : Int32), rec2 w_t y1 y2 = some v_t → BK X 3 0 0 2 ([nX4 cI cZ cQ h_t (h_w 0) w_t, nX8 cI cZ cQ h_w u_w]) [(0, .ref (h_t 0)), (1, .int y1), (2, .int y2)] []) → ∀ (w_t : Pk) (y1 : Int32) (y2 : Int32), fX4_addWalls_b37 rec2 u_w w_t y1 y2 = some v_t → BK X 3 0 0 37 ([nX4 cI cZ cQ h_t (h_w 0) w_t, nX8 cI cZ cQ h_w u_w]) [(0, .ref (h_t 0)), (1, .int y1), (2, .int y2)] [] := by
    intro rec2 hrec2 w_t y1 y2 hf
    unfold fX4_addWalls_b37 at hf
    refine r_ald_n O 38 rfl 0 rfl dX4_addWalls_37 ?_
    refine r_ild_n O 39 rfl 2 rfl dX4_addWalls_38 ?_
    obtain ⟨p39_t, hq39, hf⟩ := qb1_some hf
    refine k_VV O 42 rfl (zX4_addWhole (l := xl X) (D := xD X) (cI := cI) (cZ := cZ) (cQ := cQ) (h_t := h_t) (r_w := (h_w 0)) hq39) (gV mlX4_54 mvX4_addWhole izX4) rfl rfl rfl hdX4_addWhole ⟨Nat.le_of_ble_eq_true rfl, Nat.le_of_ble_eq_true rfl⟩ rfl 0 rfl rfl rfl rfl (Nat.le_of_ble_eq_true rfl) ⟨Nat.zero_le _, Nat.zero_le _⟩ [0] rfl rfl rfl ([nX4 cI cZ cQ h_t (h_w 0) p39_t, nX8 cI cZ cQ h_w u_w]) rfl dX4_addWalls_39 ?_
    exact B42 rec2 hrec2 _ _ _ hf
  have B2 : ∀ n : Nat, ∀ (w_t : Pk) (y1 : Int32) (y2 : Int32), fX4_addWalls_b2 u_w n w_t y1 y2 = some v_t → BK X 3 0 0 2 ([nX4 cI cZ cQ h_t (h_w 0) w_t, nX8 cI cZ cQ h_w u_w]) [(0, .ref (h_t 0)), (1, .int y1), (2, .int y2)] [] := by
    intro n
    induction n with
    | zero => exact fun _ _ _ hf => qno hf
    | succ n hrec2 =>
      intro w_t y1 y2 hf
      have hf : fX4_addWalls_b2_s (fX4_addWalls_b2 u_w n) u_w w_t y1 y2 = some v_t := hf
      generalize fX4_addWalls_b2 u_w n = rec2 at hf hrec2
      unfold fX4_addWalls_b2_s at hf
      refine r_ild_n O 3 rfl 2 rfl dX4_addWalls_2 ?_
      refine r_bi O 5 rfl 12 (by decide) dX4_addWalls_3 ?_
      refine r_icmp_ge O 8 rfl 48 dX4_addWalls_5 (by decide) (fun hc5 => ?_) (fun hc5 => ?_)
      · rw [if_pos hc5] at hf
        obtain g0 := qe1 hf
        exact r_vret2 O E (by rw [g0]) dX4_addWalls_48
      · rw [if_neg hc5] at hf
        refine r_ild_n O 9 rfl 1 rfl dX4_addWalls_8 ?_
        refine r_if_eq O 12 rfl 26 dX4_addWalls_9 (by decide) (fun hc9 => ?_) (fun hc9 => ?_)
        · rw [if_pos hc9] at hf
          refine r_ald_n O 27 rfl 0 rfl dX4_addWalls_26 ?_
          refine r_get (ref := RX4) (C := RX4) (T := TX4) (N := 8) O 30 rfl inBX4 0 0 rfl rfl rfl (by decide) flX4_9 rfl rfl dX4_addWalls_27 ?_
          refine r_ild_n O 31 rfl 2 rfl dX4_addWalls_30 ?_
          obtain ⟨x31, hq31, hf⟩ := qb1_some hf
          refine k_VZ O 34 rfl (zX8_isFixed (l := xl X) (D := xD X) (cI := cI) (cZ := cZ) (cQ := cQ) (h_t := h_w) hq31) (gV mlX4_51 mvX8_isFixed izX8) rfl rfl rfl hdX8_isFixed ⟨Nat.le_of_ble_eq_true rfl, Nat.le_of_ble_eq_true rfl⟩ rfl 1 rfl rfl rfl rfl (Nat.le_of_ble_eq_true rfl) ⟨Nat.zero_le _, Nat.zero_le _⟩ [1] rfl rfl rfl ([nX4 cI cZ cQ h_t (h_w 0) w_t, nX8 cI cZ cQ h_w u_w]) rfl dX4_addWalls_31 (fun hz31 => ?_)
          refine r_if_eq O 37 rfl 42 dX4_addWalls_34 (by decide) (fun hc34 => ?_) (fun hc34 => ?_)
          · rw [if_pos hc34] at hf
            exact B42 rec2 hrec2 _ _ _ hf
          · rw [if_neg hc34] at hf
            exact B37 rec2 hrec2 _ _ _ hf
        · rw [if_neg hc9] at hf
          refine r_ald_n O 13 rfl 0 rfl dX4_addWalls_12 ?_
          refine r_get (ref := RX4) (C := RX4) (T := TX4) (N := 8) O 16 rfl inBX4 0 0 rfl rfl rfl (by decide) flX4_9 rfl rfl dX4_addWalls_13 ?_
          refine r_ild_n O 17 rfl 2 rfl dX4_addWalls_16 ?_
          obtain ⟨x17, hq17, hf⟩ := qb1_some hf
          refine k_VZ O 20 rfl (zX8_isMovable (l := xl X) (D := xD X) (cI := cI) (cZ := cZ) (cQ := cQ) (h_t := h_w) hq17) (gV mlX4_46 mvX8_isMovable izX8) rfl rfl rfl hdX8_isMovable ⟨Nat.le_of_ble_eq_true rfl, Nat.le_of_ble_eq_true rfl⟩ rfl 1 rfl rfl rfl rfl (Nat.le_of_ble_eq_true rfl) ⟨Nat.zero_le _, Nat.zero_le _⟩ [1] rfl rfl rfl ([nX4 cI cZ cQ h_t (h_w 0) w_t, nX8 cI cZ cQ h_w u_w]) rfl dX4_addWalls_17 (fun hz17 => ?_)
          refine r_if_eq O 23 rfl 42 dX4_addWalls_20 (by decide) (fun hc20 => ?_) (fun hc20 => ?_)
          · rw [if_pos hc20] at hf
            exact B42 rec2 hrec2 _ _ _ hf
          · rw [if_neg hc20] at hf
            refine r_goto O 37 dX4_addWalls_23 (by decide) ?_
            exact B37 rec2 hrec2 _ _ _ hf
  unfold fX4_addWalls at hf
  refine r_ic O 1 rfl 0 (by decide) dX4_addWalls_0 ?_
  refine r_ist_n O 2 rfl rfl [(2, .int 0), (0, .ref (h_t 0)), (1, .int a1)] dX4_addWalls_1 (by decide) rfl ?_
  refine r_lv [1, 2, 0] rfl ?_
  exact B2 FU _ _ _ hf
-- X4_size
def rmX4_size : Room := { frames := 0, cells := 0, slots := 0, locals := 0 }
set_option maxHeartbeats 4000000 in
set_option maxRecDepth 100000 in
theorem zX4_size {l : Launch} {D : va_G} {cI cZ cQ : ClassId} {h_t : Nat → Nat} {r_w : Nat} {u_t : Pk} {r0 : Int32} (hf : fX4_size u_t = some r0) : MI l yX4_size wsX4_size rmX4_size D (TY cI cZ cQ) [.ref (h_t 0)] [nX4 cI cZ cQ h_t r_w u_t] r0 [nX4 cI cZ cQ h_t r_w u_t] := by
  refine MI.of (own := RX4) (by decide +kernel) rfl rfl (Nat.le_of_ble_eq_true rfl) (lv0 := [(0, .ref (h_t 0))]) rfl ?_
  intro X O E
  unfold fX4_size at hf
  refine r_ald_n O 1 rfl 0 rfl dX4_size_0 ?_
  refine r_get (ref := RX4) (C := RX4) (T := TX4) (N := 8) O 4 rfl inBX4 0 7 rfl rfl rfl (by decide) flX4_35 rfl rfl dX4_size_1 ?_
  obtain g0 := qe1 hf
  exact r_iret2 O E g0 rfl dX4_size_4
-- X4_placeOf
def rmX4_placeOf : Room := { frames := 1, cells := 0, slots := 0, locals := 23 }
set_option maxHeartbeats 4000000 in
set_option maxRecDepth 100000 in
theorem zX4_placeOf {l : Launch} {D : va_G} {cI cZ cQ : ClassId} {h_t h_w : Nat → Nat} {u_t u_w : Pk} {a1 : Int32} {a2 : Int32} {r0 : Int32} (hf : fX4_placeOf u_t u_w a1 a2 = some r0) : MI l yX4_placeOf wsX4_placeOf rmX4_placeOf D (TY cI cZ cQ) [.ref (h_t 0), .int a1, .int a2] [nX4 cI cZ cQ h_t (h_w 0) u_t, nX8 cI cZ cQ h_w u_w] r0 [nX4 cI cZ cQ h_t (h_w 0) u_t, nX8 cI cZ cQ h_w u_w] := by
  refine MI.of (own := RX4) (by decide +kernel) rfl rfl (Nat.le_of_ble_eq_true rfl) (lv0 := [(0, .ref (h_t 0)), (1, .int a1), (2, .int a2)]) rfl ?_
  intro X O E
  have B141 : ∀ (y6 : Int32) (y7 : Int32), fX4_placeOf_b141 u_t u_w y6 y7 = some r0 → BK X 8 0 0 141 ([nX4 cI cZ cQ h_t (h_w 0) u_t, nX8 cI cZ cQ h_w u_w]) [(6, .int y6), (7, .int y7)] [] := by
    intro y6 y7 hf
    unfold fX4_placeOf_b141 at hf
    refine r_ild O 143 rfl 0 rfl dX4_placeOf_141 ?_
    refine r_if_gt O 146 rfl 155 dX4_placeOf_143 (by decide) (fun hc143 => ?_) (fun hc143 => ?_)
    · rw [if_pos hc143] at hf
      refine r_ic O 156 rfl 3 (by decide) dX4_placeOf_155 ?_
      obtain g0 := qe1 hf
      exact r_iret2 O E g0 rfl dX4_placeOf_156
    · rw [if_neg hc143] at hf
      refine r_ild O 148 rfl 1 rfl dX4_placeOf_146 ?_
      refine r_if_gt O 151 rfl 155 dX4_placeOf_148 (by decide) (fun hc148 => ?_) (fun hc148 => ?_)
      · rw [if_pos hc148] at hf
        refine r_ic O 156 rfl 3 (by decide) dX4_placeOf_155 ?_
        obtain g0 := qe1 hf
        exact r_iret2 O E g0 rfl dX4_placeOf_156
      · rw [if_neg hc148] at hf
        refine r_ic O 152 rfl 2 (by decide) dX4_placeOf_151 ?_
        refine r_goto O 156 dX4_placeOf_152 (by decide) ?_
        obtain g0 := qe1 hf
        exact r_iret2 O E g0 rfl dX4_placeOf_156
  have B129 : ∀ (y6 : Int32) (y7 : Int32), fX4_placeOf_b129 u_t u_w y6 y7 = some r0 → BK X 8 0 0 129 ([nX4 cI cZ cQ h_t (h_w 0) u_t, nX8 cI cZ cQ h_w u_w]) [(6, .int y6), (7, .int y7)] [] := by
    intro y6 y7 hf
    unfold fX4_placeOf_b129 at hf
    refine r_ild O 131 rfl 0 rfl dX4_placeOf_129 ?_
    refine r_if_lt O 134 rfl 141 dX4_placeOf_131 (by decide) (fun hc131 => ?_) (fun hc131 => ?_)
    · rw [if_pos hc131] at hf
      exact B141 _ _ hf
    · rw [if_neg hc131] at hf
      refine r_ild O 136 rfl 1 rfl dX4_placeOf_134 ?_
      refine r_if_lt O 139 rfl 141 dX4_placeOf_136 (by decide) (fun hc136 => ?_) (fun hc136 => ?_)
      · rw [if_pos hc136] at hf
        exact B141 _ _ hf
      · rw [if_neg hc136] at hf
        refine r_ic O 140 rfl 1 (by decide) dX4_placeOf_139 ?_
        obtain g0 := qe1 hf
        exact r_iret2 O E g0 rfl dX4_placeOf_140
  unfold fX4_placeOf at hf
  refine r_ald_n O 1 rfl 0 rfl dX4_placeOf_0 ?_
  refine r_ild_n O 2 rfl 1 rfl dX4_placeOf_1 ?_
  obtain ⟨x2, hq2, hf⟩ := qb1_some hf
  refine k_VZ O 5 rfl (zX4_has (l := xl X) (D := xD X) (cI := cI) (cZ := cZ) (cQ := cQ) (h_t := h_t) (r_w := (h_w 0)) hq2) (gV mlX4_38 mvX4_has izX4) rfl rfl rfl hdX4_has ⟨Nat.le_of_ble_eq_true rfl, Nat.le_of_ble_eq_true rfl⟩ rfl 0 rfl rfl rfl rfl (Nat.le_of_ble_eq_true rfl) ⟨Nat.zero_le _, Nat.zero_le _⟩ [0] rfl rfl rfl ([nX4 cI cZ cQ h_t (h_w 0) u_t, nX8 cI cZ cQ h_w u_w]) rfl dX4_placeOf_2 (fun hz2 => ?_)
  refine r_if_ne O 8 rfl 10 dX4_placeOf_5 (by decide) (fun hc5 => ?_) (fun hc5 => ?_)
  · rw [if_neg hc5] at hf
    refine r_ald_n O 11 rfl 0 rfl dX4_placeOf_10 ?_
    refine r_get (ref := RX4) (C := RX4) (T := TX4) (N := 8) O 14 rfl inBX4 0 2 rfl rfl rfl (by decide) flX4_19 rfl rfl dX4_placeOf_11 ?_
    refine r_ild_n O 15 rfl 1 rfl dX4_placeOf_14 ?_
    obtain ⟨x15, ex15, hin15, hf⟩ := qld_some hf
    refine r_iald O 16 rfl 0 1 rfl rfl hin15 dX4_placeOf_15 ?_
    rw [← ex15]
    refine r_ist_n O 17 rfl rfl [(3, .int x15), (0, .ref (h_t 0)), (1, .int a1), (2, .int a2)] dX4_placeOf_16 (by decide) rfl ?_
    refine r_ald_n O 18 rfl 1 rfl dX4_placeOf_17 ?_
    refine r_get (ref := RX4) (C := RX4) (T := TX4) (N := 8) O 21 rfl inBX4 0 0 rfl rfl rfl (by decide) flX4_9 rfl rfl dX4_placeOf_18 ?_
    refine r_ild_n O 22 rfl 3 rfl dX4_placeOf_21 ?_
    refine r_ald_n O 23 rfl 1 rfl dX4_placeOf_22 ?_
    refine r_get (ref := RX4) (C := RX4) (T := TX4) (N := 8) O 26 rfl inBX4 0 0 rfl rfl rfl (by decide) flX4_9 rfl rfl dX4_placeOf_23 ?_
    refine r_ild_n O 27 rfl 0 rfl dX4_placeOf_26 ?_
    obtain ⟨x27, hq27, hf⟩ := qb1_some hf
    refine k_VI O 30 rfl (zX8_startX (l := xl X) (D := xD X) (cI := cI) (cZ := cZ) (cQ := cQ) (h_t := h_w) hq27) (gV mlX4_70 mvX8_startX izX8) rfl rfl rfl hdX8_startX ⟨Nat.le_of_ble_eq_true rfl, Nat.le_of_ble_eq_true rfl⟩ rfl 1 rfl rfl rfl rfl (Nat.le_of_ble_eq_true rfl) ⟨Nat.zero_le _, Nat.zero_le _⟩ [1] rfl rfl rfl ([nX4 cI cZ cQ h_t (h_w 0) u_t, nX8 cI cZ cQ h_w u_w]) rfl dX4_placeOf_27 ?_
    refine r_ald_n O 31 rfl 1 rfl dX4_placeOf_30 ?_
    refine r_get (ref := RX4) (C := RX4) (T := TX4) (N := 8) O 34 rfl inBX4 0 0 rfl rfl rfl (by decide) flX4_9 rfl rfl dX4_placeOf_31 ?_
    refine r_ild_n O 35 rfl 0 rfl dX4_placeOf_34 ?_
    obtain ⟨x35, hq35, hf⟩ := qb1_some hf
    refine k_VI O 38 rfl (zX8_startY (l := xl X) (D := xD X) (cI := cI) (cZ := cZ) (cQ := cQ) (h_t := h_w) hq35) (gV mlX4_74 mvX8_startY izX8) rfl rfl rfl hdX8_startY ⟨Nat.le_of_ble_eq_true rfl, Nat.le_of_ble_eq_true rfl⟩ rfl 1 rfl rfl rfl rfl (Nat.le_of_ble_eq_true rfl) ⟨Nat.zero_le _, Nat.zero_le _⟩ [1] rfl rfl rfl ([nX4 cI cZ cQ h_t (h_w 0) u_t, nX8 cI cZ cQ h_w u_w]) rfl dX4_placeOf_35 ?_
    obtain ⟨x38, hq38, hf⟩ := qb1_some hf
    refine k_VI O 41 rfl (zX8_sideValue (l := xl X) (D := xD X) (cI := cI) (cZ := cZ) (cQ := cQ) (h_t := h_w) hq38) (gV mlX4_77 mvX8_sideValue izX8) rfl rfl rfl hdX8_sideValue ⟨Nat.le_of_ble_eq_true rfl, Nat.le_of_ble_eq_true rfl⟩ rfl 1 rfl rfl rfl rfl (Nat.le_of_ble_eq_true rfl) ⟨Nat.zero_le _, Nat.zero_le _⟩ [1] rfl rfl rfl ([nX4 cI cZ cQ h_t (h_w 0) u_t, nX8 cI cZ cQ h_w u_w]) rfl dX4_placeOf_38 ?_
    refine r_ist O 43 rfl [(4, .int x38), (3, .int x15), (0, .ref (h_t 0)), (1, .int a1), (2, .int a2)] dX4_placeOf_41 (by decide) rfl ?_
    refine r_ald_n O 44 rfl 2 rfl dX4_placeOf_43 ?_
    refine r_get (ref := RX4) (C := RX4) (T := TX4) (N := 8) O 47 rfl inBX4 0 0 rfl rfl rfl (by decide) flX4_9 rfl rfl dX4_placeOf_44 ?_
    refine r_ild_n O 48 rfl 4 rfl dX4_placeOf_47 ?_
    refine r_ald_n O 49 rfl 2 rfl dX4_placeOf_48 ?_
    refine r_get (ref := RX4) (C := RX4) (T := TX4) (N := 8) O 52 rfl inBX4 0 0 rfl rfl rfl (by decide) flX4_9 rfl rfl dX4_placeOf_49 ?_
    refine r_ild_n O 53 rfl 1 rfl dX4_placeOf_52 ?_
    obtain ⟨x53, hq53, hf⟩ := qb1_some hf
    refine k_VI O 56 rfl (zX8_endX (l := xl X) (D := xD X) (cI := cI) (cZ := cZ) (cQ := cQ) (h_t := h_w) hq53) (gV mlX4_81 mvX8_endX izX8) rfl rfl rfl hdX8_endX ⟨Nat.le_of_ble_eq_true rfl, Nat.le_of_ble_eq_true rfl⟩ rfl 1 rfl rfl rfl rfl (Nat.le_of_ble_eq_true rfl) ⟨Nat.zero_le _, Nat.zero_le _⟩ [1] rfl rfl rfl ([nX4 cI cZ cQ h_t (h_w 0) u_t, nX8 cI cZ cQ h_w u_w]) rfl dX4_placeOf_53 ?_
    refine r_ald_n O 57 rfl 2 rfl dX4_placeOf_56 ?_
    refine r_get (ref := RX4) (C := RX4) (T := TX4) (N := 8) O 60 rfl inBX4 0 0 rfl rfl rfl (by decide) flX4_9 rfl rfl dX4_placeOf_57 ?_
    refine r_ild_n O 61 rfl 1 rfl dX4_placeOf_60 ?_
    obtain ⟨x61, hq61, hf⟩ := qb1_some hf
    refine k_VI O 64 rfl (zX8_endY (l := xl X) (D := xD X) (cI := cI) (cZ := cZ) (cQ := cQ) (h_t := h_w) hq61) (gV mlX4_84 mvX8_endY izX8) rfl rfl rfl hdX8_endY ⟨Nat.le_of_ble_eq_true rfl, Nat.le_of_ble_eq_true rfl⟩ rfl 1 rfl rfl rfl rfl (Nat.le_of_ble_eq_true rfl) ⟨Nat.zero_le _, Nat.zero_le _⟩ [1] rfl rfl rfl ([nX4 cI cZ cQ h_t (h_w 0) u_t, nX8 cI cZ cQ h_w u_w]) rfl dX4_placeOf_61 ?_
    obtain ⟨x64, hq64, hf⟩ := qb1_some hf
    refine k_VI O 67 rfl (zX8_sideValue (l := xl X) (D := xD X) (cI := cI) (cZ := cZ) (cQ := cQ) (h_t := h_w) hq64) (gV mlX4_77 mvX8_sideValue izX8) rfl rfl rfl hdX8_sideValue ⟨Nat.le_of_ble_eq_true rfl, Nat.le_of_ble_eq_true rfl⟩ rfl 1 rfl rfl rfl rfl (Nat.le_of_ble_eq_true rfl) ⟨Nat.zero_le _, Nat.zero_le _⟩ [1] rfl rfl rfl ([nX4 cI cZ cQ h_t (h_w 0) u_t, nX8 cI cZ cQ h_w u_w]) rfl dX4_placeOf_64 ?_
    refine r_ist O 69 rfl [(5, .int x64), (4, .int x38), (3, .int x15), (0, .ref (h_t 0)), (1, .int a1), (2, .int a2)] dX4_placeOf_67 (by decide) rfl ?_
    refine r_ild O 71 rfl 1 rfl dX4_placeOf_69 ?_
    refine r_ald_n O 72 rfl 3 rfl dX4_placeOf_71 ?_
    refine r_get (ref := RX4) (C := RX4) (T := TX4) (N := 8) O 75 rfl inBX4 0 4 rfl rfl rfl (by decide) flX4_26 rfl rfl dX4_placeOf_72 ?_
    refine r_ild_n O 76 rfl 4 rfl dX4_placeOf_75 ?_
    obtain ⟨x76, ex76, hin76, hf⟩ := qld_some hf
    refine r_iald O 77 rfl 0 3 rfl rfl hin76 dX4_placeOf_76 ?_
    rw [← ex76]
    refine r_imul O 78 rfl dX4_placeOf_77 ?_
    refine r_ild O 80 rfl 0 rfl dX4_placeOf_78 ?_
    refine r_ild O 82 rfl 1 rfl dX4_placeOf_80 ?_
    refine r_isub O 83 rfl dX4_placeOf_82 ?_
    refine r_ald_n O 84 rfl 3 rfl dX4_placeOf_83 ?_
    refine r_get (ref := RX4) (C := RX4) (T := TX4) (N := 8) O 87 rfl inBX4 0 3 rfl rfl rfl (by decide) flX4_23 rfl rfl dX4_placeOf_84 ?_
    refine r_ild_n O 88 rfl 4 rfl dX4_placeOf_87 ?_
    obtain ⟨x88, ex88, hin88, hf⟩ := qld_some hf
    refine r_iald O 89 rfl 0 2 rfl rfl hin88 dX4_placeOf_88 ?_
    rw [← ex88]
    refine r_imul O 90 rfl dX4_placeOf_89 ?_
    refine r_iadd O 91 rfl dX4_placeOf_90 ?_
    obtain ⟨x91, ex91, hf⟩ := qn_some hf
    rw [← ex91]
    refine r_ist O 93 rfl [(6, .int x91), (5, .int x64), (4, .int x38), (3, .int x15), (0, .ref (h_t 0)), (1, .int a1), (2, .int a2)] dX4_placeOf_91 (by decide) rfl ?_
    refine r_ild O 95 rfl 2 rfl dX4_placeOf_93 ?_
    refine r_ald_n O 96 rfl 4 rfl dX4_placeOf_95 ?_
    refine r_get (ref := RX4) (C := RX4) (T := TX4) (N := 8) O 99 rfl inBX4 0 6 rfl rfl rfl (by decide) flX4_32 rfl rfl dX4_placeOf_96 ?_
    refine r_ild_n O 100 rfl 5 rfl dX4_placeOf_99 ?_
    obtain ⟨x100, ex100, hin100, hf⟩ := qld_some hf
    refine r_iald O 101 rfl 0 5 rfl rfl hin100 dX4_placeOf_100 ?_
    rw [← ex100]
    refine r_imul O 102 rfl dX4_placeOf_101 ?_
    refine r_ild O 104 rfl 1 rfl dX4_placeOf_102 ?_
    refine r_ild O 106 rfl 2 rfl dX4_placeOf_104 ?_
    refine r_isub O 107 rfl dX4_placeOf_106 ?_
    refine r_ald_n O 108 rfl 4 rfl dX4_placeOf_107 ?_
    refine r_get (ref := RX4) (C := RX4) (T := TX4) (N := 8) O 111 rfl inBX4 0 5 rfl rfl rfl (by decide) flX4_29 rfl rfl dX4_placeOf_108 ?_
    refine r_ild_n O 112 rfl 5 rfl dX4_placeOf_111 ?_
    obtain ⟨x112, ex112, hin112, hf⟩ := qld_some hf
    refine r_iald O 113 rfl 0 4 rfl rfl hin112 dX4_placeOf_112 ?_
    rw [← ex112]
    refine r_imul O 114 rfl dX4_placeOf_113 ?_
    refine r_iadd O 115 rfl dX4_placeOf_114 ?_
    obtain ⟨x115, ex115, hf⟩ := qn_some hf
    rw [← ex115]
    refine r_ist O 117 rfl [(7, .int x115), (6, .int x91), (5, .int x64), (4, .int x38), (3, .int x15), (0, .ref (h_t 0)), (1, .int a1), (2, .int a2)] dX4_placeOf_115 (by decide) rfl ?_
    refine r_ild O 119 rfl 1 rfl dX4_placeOf_117 ?_
    refine r_if_ne O 122 rfl 129 dX4_placeOf_119 (by decide) (fun hc119 => ?_) (fun hc119 => ?_)
    · rw [if_neg hc119] at hf
      refine r_lv [1, 0] rfl ?_
      exact B129 _ _ hf
    · rw [if_pos hc119] at hf
      refine r_ild O 124 rfl 0 rfl dX4_placeOf_122 ?_
      refine r_if_ne O 127 rfl 129 dX4_placeOf_124 (by decide) (fun hc124 => ?_) (fun hc124 => ?_)
      · rw [if_neg hc124] at hf
        refine r_lv [1, 0] rfl ?_
        exact B129 _ _ hf
      · rw [if_pos hc124] at hf
        refine r_ic O 128 rfl 0 (by decide) dX4_placeOf_127 ?_
        obtain g0 := qe1 hf
        exact r_iret2 O E g0 rfl dX4_placeOf_128
  · rw [if_pos hc5] at hf
    refine r_ic O 9 rfl 0 (by decide) dX4_placeOf_8 ?_
    obtain g0 := qe1 hf
    exact r_iret2 O E g0 rfl dX4_placeOf_9
-- X4_addPart_a
def rmX4_addPart_a : Room := { frames := 1, cells := 0, slots := 0, locals := 30 }
set_option maxHeartbeats 4000000 in
set_option maxRecDepth 100000 in
theorem zX4_addPart_a {l : Launch} {D : va_G} {cI cZ cQ : ClassId} {h_t h_w : Nat → Nat} {u_w u_t : Pk} {a2 : Int32} {a3 : Int32} {a4 : Int32} {v_t : Pk} (hf : fX4_addPart_a u_w u_t a2 a3 a4 = some v_t) : MV l yX4_addPart wsX4_addPart rmX4_addPart_a D (TY cI cZ cQ) [.ref (h_t 0), .ref (h_t 0), .int a2, .int a3, .int a4] [nX4 cI cZ cQ h_t (h_w 0) u_t, nX8 cI cZ cQ h_w u_w] [nX4 cI cZ cQ h_t (h_w 0) v_t, nX8 cI cZ cQ h_w u_w] := by
  refine MV.of (own := RX4) (by decide +kernel) rfl rfl (Nat.le_of_ble_eq_true rfl) (lv0 := [(0, .ref (h_t 0)), (1, .ref (h_t 0)), (2, .int a2), (3, .int a3), (4, .int a4)]) rfl ?_
  intro X O E
  have B142 : ∀ (w_t : Pk) (y2 : Int32) (y5 : Int32) (y9 : Int32) (y10 : Int32) (z0 : Int32) (z1 : Int32), fX4_addPart_a_b142 u_w w_t y2 y5 y9 y10 z0 z1 = some v_t → BK X 12 0 0 142 ([nX4 cI cZ cQ h_t (h_w 0) w_t, nX8 cI cZ cQ h_w u_w]) [(0, .ref (h_t 0)), (1, .ref (h_t 0)), (2, .int y2), (5, .int y5), (9, .int y9), (10, .int y10)] [.int z1, .int z0] := by
    intro w_t y2 y5 y9 y10 z0 z1 hf
    unfold fX4_addPart_a_b142 at hf
    refine r_icmp_ne O 145 rfl 170 dX4_addPart_142 (by decide) (fun hc142 => ?_) (fun hc142 => ?_)
    · rw [if_neg hc142] at hf
      refine r_ald_n O 171 rfl 0 rfl dX4_addPart_170 ?_
      refine r_ild O 173 rfl 3 rfl dX4_addPart_171 ?_
      refine r_ild O 175 rfl 4 rfl dX4_addPart_173 ?_
      refine r_ild O 177 rfl 5 rfl dX4_addPart_175 ?_
      refine r_ald_n O 178 rfl 1 rfl dX4_addPart_177 ?_
      refine r_get (ref := RX4) (C := RX4) (T := TX4) (N := 8) O 181 rfl inBX4 0 5 rfl rfl rfl (by decide) flX4_29 rfl rfl dX4_addPart_178 ?_
      refine r_ild_n O 182 rfl 2 rfl dX4_addPart_181 ?_
      obtain ⟨x182, ex182, hin182, hf⟩ := qld_some hf
      refine r_iald O 183 rfl 0 4 rfl rfl hin182 dX4_addPart_182 ?_
      rw [← ex182]
      refine r_ald_n O 184 rfl 1 rfl dX4_addPart_183 ?_
      refine r_get (ref := RX4) (C := RX4) (T := TX4) (N := 8) O 187 rfl inBX4 0 6 rfl rfl rfl (by decide) flX4_32 rfl rfl dX4_addPart_184 ?_
      refine r_ild_n O 188 rfl 2 rfl dX4_addPart_187 ?_
      obtain ⟨x188, ex188, hin188, hf⟩ := qld_some hf
      refine r_iald O 189 rfl 0 5 rfl rfl hin188 dX4_addPart_188 ?_
      rw [← ex188]
      obtain ⟨p189_t, hq189, hf⟩ := qb1_some hf
      refine k_VV O 192 rfl (zX4_add (l := xl X) (D := xD X) (cI := cI) (cZ := cZ) (cQ := cQ) (h_t := h_t) (r_w := (h_w 0)) hq189) (gV mlX4_42 mvX4_add izX4) rfl rfl rfl hdX4_add ⟨Nat.le_of_ble_eq_true rfl, Nat.le_of_ble_eq_true rfl⟩ rfl 0 rfl rfl rfl rfl (Nat.le_of_ble_eq_true rfl) ⟨Nat.zero_le _, Nat.zero_le _⟩ [0] rfl rfl rfl ([nX4 cI cZ cQ h_t (h_w 0) p189_t, nX8 cI cZ cQ h_w u_w]) rfl dX4_addPart_189 ?_
      obtain g0 := qe1 hf
      exact r_vret2 O E (by rw [g0]) dX4_addPart_192
    · rw [if_pos hc142] at hf
      refine r_ald_n O 146 rfl 0 rfl dX4_addPart_145 ?_
      refine r_ild O 148 rfl 3 rfl dX4_addPart_146 ?_
      refine r_ald_n O 149 rfl 1 rfl dX4_addPart_148 ?_
      refine r_get (ref := RX4) (C := RX4) (T := TX4) (N := 8) O 152 rfl inBX4 0 3 rfl rfl rfl (by decide) flX4_23 rfl rfl dX4_addPart_149 ?_
      refine r_ild_n O 153 rfl 2 rfl dX4_addPart_152 ?_
      obtain ⟨x153, ex153, hin153, hf⟩ := qld_some hf
      refine r_iald O 154 rfl 0 2 rfl rfl hin153 dX4_addPart_153 ?_
      rw [← ex153]
      refine r_ald_n O 155 rfl 1 rfl dX4_addPart_154 ?_
      refine r_get (ref := RX4) (C := RX4) (T := TX4) (N := 8) O 158 rfl inBX4 0 4 rfl rfl rfl (by decide) flX4_26 rfl rfl dX4_addPart_155 ?_
      refine r_ild_n O 159 rfl 2 rfl dX4_addPart_158 ?_
      obtain ⟨x159, ex159, hin159, hf⟩ := qld_some hf
      refine r_iald O 160 rfl 0 3 rfl rfl hin159 dX4_addPart_159 ?_
      rw [← ex159]
      refine r_ild O 162 rfl 4 rfl dX4_addPart_160 ?_
      refine r_ild O 164 rfl 5 rfl dX4_addPart_162 ?_
      obtain ⟨p164_t, hq164, hf⟩ := qb1_some hf
      refine k_VV O 167 rfl (zX4_add (l := xl X) (D := xD X) (cI := cI) (cZ := cZ) (cQ := cQ) (h_t := h_t) (r_w := (h_w 0)) hq164) (gV mlX4_42 mvX4_add izX4) rfl rfl rfl hdX4_add ⟨Nat.le_of_ble_eq_true rfl, Nat.le_of_ble_eq_true rfl⟩ rfl 0 rfl rfl rfl rfl (Nat.le_of_ble_eq_true rfl) ⟨Nat.zero_le _, Nat.zero_le _⟩ [0] rfl rfl rfl ([nX4 cI cZ cQ h_t (h_w 0) p164_t, nX8 cI cZ cQ h_w u_w]) rfl dX4_addPart_164 ?_
      refine r_goto O 192 dX4_addPart_167 (by decide) ?_
      obtain g0 := qe1 hf
      exact r_vret2 O E (by rw [g0]) dX4_addPart_192
  have B127 : ∀ (w_t : Pk) (y2 : Int32) (y4 : Int32) (y5 : Int32) (y9 : Int32) (y10 : Int32) (z0 : Int32), fX4_addPart_a_b127 u_w w_t y2 y4 y5 y9 y10 z0 = some v_t → BK X 12 0 0 127 ([nX4 cI cZ cQ h_t (h_w 0) w_t, nX8 cI cZ cQ h_w u_w]) [(0, .ref (h_t 0)), (1, .ref (h_t 0)), (2, .int y2), (4, .int y4), (5, .int y5), (9, .int y9), (10, .int y10)] [.int z0] := by
    intro w_t y2 y4 y5 y9 y10 z0 hf
    unfold fX4_addPart_a_b127 at hf
    refine r_ist O 129 rfl [(11, .int z0), (0, .ref (h_t 0)), (1, .ref (h_t 0)), (2, .int y2), (4, .int y4), (5, .int y5), (9, .int y9), (10, .int y10)] dX4_addPart_127 (by decide) rfl ?_
    refine r_ild O 131 rfl 0 rfl dX4_addPart_129 ?_
    refine r_ild O 133 rfl 4 rfl dX4_addPart_131 ?_
    refine r_ic O 134 rfl 1 (by decide) dX4_addPart_133 ?_
    refine r_icmp_ne O 137 rfl 141 dX4_addPart_134 (by decide) (fun hc134 => ?_) (fun hc134 => ?_)
    · rw [if_neg hc134] at hf
      refine r_ic O 142 rfl 0 (by decide) dX4_addPart_141 ?_
      refine r_lv [1, 2, 3, 5, 6, 7] rfl ?_
      exact B142 _ _ _ _ _ _ _ hf
    · rw [if_pos hc134] at hf
      refine r_ic O 138 rfl 1 (by decide) dX4_addPart_137 ?_
      refine r_goto O 142 dX4_addPart_138 (by decide) ?_
      refine r_lv [1, 2, 3, 5, 6, 7] rfl ?_
      exact B142 _ _ _ _ _ _ _ hf
  unfold fX4_addPart_a at hf
  refine r_ald_n O 1 rfl 1 rfl dX4_addPart_0 ?_
  refine r_ild_n O 2 rfl 2 rfl dX4_addPart_1 ?_
  obtain ⟨x2, hq2, hf⟩ := qb1_some hf
  refine k_VZ O 5 rfl (zX4_has (l := xl X) (D := xD X) (cI := cI) (cZ := cZ) (cQ := cQ) (h_t := h_t) (r_w := (h_w 0)) hq2) (gV mlX4_38 mvX4_has izX4) rfl rfl rfl hdX4_has ⟨Nat.le_of_ble_eq_true rfl, Nat.le_of_ble_eq_true rfl⟩ rfl 0 rfl rfl rfl rfl (Nat.le_of_ble_eq_true rfl) ⟨Nat.zero_le _, Nat.zero_le _⟩ [0] rfl rfl rfl ([nX4 cI cZ cQ h_t (h_w 0) u_t, nX8 cI cZ cQ h_w u_w]) rfl dX4_addPart_2 (fun hz2 => ?_)
  refine r_if_ne O 8 rfl 9 dX4_addPart_5 (by decide) (fun hc5 => ?_) (fun hc5 => ?_)
  · rw [if_neg hc5] at hf
    refine r_ald_n O 10 rfl 1 rfl dX4_addPart_9 ?_
    refine r_get (ref := RX4) (C := RX4) (T := TX4) (N := 8) O 13 rfl inBX4 0 2 rfl rfl rfl (by decide) flX4_19 rfl rfl dX4_addPart_10 ?_
    refine r_ild_n O 14 rfl 2 rfl dX4_addPart_13 ?_
    obtain ⟨x14, ex14, hin14, hf⟩ := qld_some hf
    refine r_iald O 15 rfl 0 1 rfl rfl hin14 dX4_addPart_14 ?_
    rw [← ex14]
    refine r_ist O 17 rfl [(5, .int x14), (0, .ref (h_t 0)), (1, .ref (h_t 0)), (2, .int a2), (3, .int a3), (4, .int a4)] dX4_addPart_15 (by decide) rfl ?_
    refine r_ald_n O 18 rfl 1 rfl dX4_addPart_17 ?_
    refine r_get (ref := RX4) (C := RX4) (T := TX4) (N := 8) O 21 rfl inBX4 0 0 rfl rfl rfl (by decide) flX4_9 rfl rfl dX4_addPart_18 ?_
    refine r_ild_n O 22 rfl 4 rfl dX4_addPart_21 ?_
    refine r_ald_n O 23 rfl 1 rfl dX4_addPart_22 ?_
    refine r_get (ref := RX4) (C := RX4) (T := TX4) (N := 8) O 26 rfl inBX4 0 0 rfl rfl rfl (by decide) flX4_9 rfl rfl dX4_addPart_23 ?_
    refine r_ild O 28 rfl 0 rfl dX4_addPart_26 ?_
    obtain ⟨x28, hq28, hf⟩ := qb1_some hf
    refine k_VI O 31 rfl (zX8_startX (l := xl X) (D := xD X) (cI := cI) (cZ := cZ) (cQ := cQ) (h_t := h_w) hq28) (gV mlX4_70 mvX8_startX izX8) rfl rfl rfl hdX8_startX ⟨Nat.le_of_ble_eq_true rfl, Nat.le_of_ble_eq_true rfl⟩ rfl 1 rfl rfl rfl rfl (Nat.le_of_ble_eq_true rfl) ⟨Nat.zero_le _, Nat.zero_le _⟩ [1] rfl rfl rfl ([nX4 cI cZ cQ h_t (h_w 0) u_t, nX8 cI cZ cQ h_w u_w]) rfl dX4_addPart_28 ?_
    refine r_ald_n O 32 rfl 1 rfl dX4_addPart_31 ?_
    refine r_get (ref := RX4) (C := RX4) (T := TX4) (N := 8) O 35 rfl inBX4 0 0 rfl rfl rfl (by decide) flX4_9 rfl rfl dX4_addPart_32 ?_
    refine r_ild O 37 rfl 0 rfl dX4_addPart_35 ?_
    obtain ⟨x37, hq37, hf⟩ := qb1_some hf
    refine k_VI O 40 rfl (zX8_startY (l := xl X) (D := xD X) (cI := cI) (cZ := cZ) (cQ := cQ) (h_t := h_w) hq37) (gV mlX4_74 mvX8_startY izX8) rfl rfl rfl hdX8_startY ⟨Nat.le_of_ble_eq_true rfl, Nat.le_of_ble_eq_true rfl⟩ rfl 1 rfl rfl rfl rfl (Nat.le_of_ble_eq_true rfl) ⟨Nat.zero_le _, Nat.zero_le _⟩ [1] rfl rfl rfl ([nX4 cI cZ cQ h_t (h_w 0) u_t, nX8 cI cZ cQ h_w u_w]) rfl dX4_addPart_37 ?_
    obtain ⟨x40, hq40, hf⟩ := qb1_some hf
    refine k_VI O 43 rfl (zX8_sideValue (l := xl X) (D := xD X) (cI := cI) (cZ := cZ) (cQ := cQ) (h_t := h_w) hq40) (gV mlX4_77 mvX8_sideValue izX8) rfl rfl rfl hdX8_sideValue ⟨Nat.le_of_ble_eq_true rfl, Nat.le_of_ble_eq_true rfl⟩ rfl 1 rfl rfl rfl rfl (Nat.le_of_ble_eq_true rfl) ⟨Nat.zero_le _, Nat.zero_le _⟩ [1] rfl rfl rfl ([nX4 cI cZ cQ h_t (h_w 0) u_t, nX8 cI cZ cQ h_w u_w]) rfl dX4_addPart_40 ?_
    refine r_ist O 45 rfl [(6, .int x40), (5, .int x14), (0, .ref (h_t 0)), (1, .ref (h_t 0)), (2, .int a2), (3, .int a3), (4, .int a4)] dX4_addPart_43 (by decide) rfl ?_
    refine r_ald_n O 46 rfl 2 rfl dX4_addPart_45 ?_
    refine r_get (ref := RX4) (C := RX4) (T := TX4) (N := 8) O 49 rfl inBX4 0 0 rfl rfl rfl (by decide) flX4_9 rfl rfl dX4_addPart_46 ?_
    refine r_ild_n O 50 rfl 5 rfl dX4_addPart_49 ?_
    refine r_ald_n O 51 rfl 2 rfl dX4_addPart_50 ?_
    refine r_get (ref := RX4) (C := RX4) (T := TX4) (N := 8) O 54 rfl inBX4 0 0 rfl rfl rfl (by decide) flX4_9 rfl rfl dX4_addPart_51 ?_
    refine r_ild O 56 rfl 1 rfl dX4_addPart_54 ?_
    obtain ⟨x56, hq56, hf⟩ := qb1_some hf
    refine k_VI O 59 rfl (zX8_endX (l := xl X) (D := xD X) (cI := cI) (cZ := cZ) (cQ := cQ) (h_t := h_w) hq56) (gV mlX4_81 mvX8_endX izX8) rfl rfl rfl hdX8_endX ⟨Nat.le_of_ble_eq_true rfl, Nat.le_of_ble_eq_true rfl⟩ rfl 1 rfl rfl rfl rfl (Nat.le_of_ble_eq_true rfl) ⟨Nat.zero_le _, Nat.zero_le _⟩ [1] rfl rfl rfl ([nX4 cI cZ cQ h_t (h_w 0) u_t, nX8 cI cZ cQ h_w u_w]) rfl dX4_addPart_56 ?_
    refine r_ald_n O 60 rfl 2 rfl dX4_addPart_59 ?_
    refine r_get (ref := RX4) (C := RX4) (T := TX4) (N := 8) O 63 rfl inBX4 0 0 rfl rfl rfl (by decide) flX4_9 rfl rfl dX4_addPart_60 ?_
    refine r_ild O 65 rfl 1 rfl dX4_addPart_63 ?_
    obtain ⟨x65, hq65, hf⟩ := qb1_some hf
    refine k_VI O 68 rfl (zX8_endY (l := xl X) (D := xD X) (cI := cI) (cZ := cZ) (cQ := cQ) (h_t := h_w) hq65) (gV mlX4_84 mvX8_endY izX8) rfl rfl rfl hdX8_endY ⟨Nat.le_of_ble_eq_true rfl, Nat.le_of_ble_eq_true rfl⟩ rfl 1 rfl rfl rfl rfl (Nat.le_of_ble_eq_true rfl) ⟨Nat.zero_le _, Nat.zero_le _⟩ [1] rfl rfl rfl ([nX4 cI cZ cQ h_t (h_w 0) u_t, nX8 cI cZ cQ h_w u_w]) rfl dX4_addPart_65 ?_
    obtain ⟨x68, hq68, hf⟩ := qb1_some hf
    refine k_VI O 71 rfl (zX8_sideValue (l := xl X) (D := xD X) (cI := cI) (cZ := cZ) (cQ := cQ) (h_t := h_w) hq68) (gV mlX4_77 mvX8_sideValue izX8) rfl rfl rfl hdX8_sideValue ⟨Nat.le_of_ble_eq_true rfl, Nat.le_of_ble_eq_true rfl⟩ rfl 1 rfl rfl rfl rfl (Nat.le_of_ble_eq_true rfl) ⟨Nat.zero_le _, Nat.zero_le _⟩ [1] rfl rfl rfl ([nX4 cI cZ cQ h_t (h_w 0) u_t, nX8 cI cZ cQ h_w u_w]) rfl dX4_addPart_68 ?_
    refine r_ist O 73 rfl [(7, .int x68), (6, .int x40), (5, .int x14), (0, .ref (h_t 0)), (1, .ref (h_t 0)), (2, .int a2), (3, .int a3), (4, .int a4)] dX4_addPart_71 (by decide) rfl ?_
    refine r_ild O 75 rfl 1 rfl dX4_addPart_73 ?_
    refine r_i2l O 76 rfl dX4_addPart_75 ?_
    refine r_ild O 78 rfl 1 rfl dX4_addPart_76 ?_
    refine r_ild O 80 rfl 0 rfl dX4_addPart_78 ?_
    refine r_isub O 81 rfl dX4_addPart_80 ?_
    refine r_i2l O 82 rfl dX4_addPart_81 ?_
    obtain ⟨x82, hq82, hf⟩ := qb1_some hf
    refine k_SNL O 85 rfl (zX9_greatestDivisor (l := xl X) (D := xD X) (cI := cI) (cZ := cZ) (cQ := cQ) hq82) (gC mvX9_greatestDivisor.2) izX9 mvX9_greatestDivisor.1 (xO_n87 O) rfl rfl rfl hdX9_greatestDivisor ⟨Nat.le_of_ble_eq_true rfl, Nat.le_of_ble_eq_true rfl⟩ rfl rfl (Nat.le_of_ble_eq_true rfl) ⟨Nat.zero_le _, Nat.zero_le _⟩ [] rfl rfl rfl ([nX4 cI cZ cQ h_t (h_w 0) u_t, nX8 cI cZ cQ h_w u_w]) rfl dX4_addPart_82 ?_
    refine r_l2i O 86 rfl dX4_addPart_85 ?_
    obtain ⟨x86, ex86, hf⟩ := qn_some hf
    rw [← ex86]
    refine r_ist O 88 rfl [(8, .int x86), (7, .int x68), (6, .int x40), (5, .int x14), (0, .ref (h_t 0)), (1, .ref (h_t 0)), (2, .int a2), (3, .int a3), (4, .int a4)] dX4_addPart_86 (by decide) rfl ?_
    refine r_ild O 90 rfl 0 rfl dX4_addPart_88 ?_
    refine r_if_ne O 93 rfl 94 dX4_addPart_90 (by decide) (fun hc90 => ?_) (fun hc90 => ?_)
    · rw [if_neg hc90] at hf
      refine r_ild O 96 rfl 2 rfl dX4_addPart_94 ?_
      obtain ⟨x96, ex96, hf⟩ := qn_some hf
      refine r_abs O 99 rfl maX4_91.1 maX4_91.2.1 maX4_91.2.2.1 maX4_91.2.2.2 (Nat.le_of_ble_eq_true rfl) (Nat.le_of_ble_eq_true rfl) (Nat.zero_le _) (Nat.zero_le _) dX4_addPart_96 ?_
      rw [← ex96]
      refine r_ild O 101 rfl 0 rfl dX4_addPart_99 ?_
      obtain ⟨hne101, hf⟩ := qnzi_some hf
      refine r_idiv O 102 rfl dX4_addPart_101 hne101 ?_
      obtain ⟨x102, ex102, hf⟩ := qn_some hf
      rw [← ex102]
      refine r_ist O 104 rfl [(9, .int x102), (8, .int x86), (7, .int x68), (6, .int x40), (5, .int x14), (0, .ref (h_t 0)), (1, .ref (h_t 0)), (2, .int a2), (3, .int a3), (4, .int a4)] dX4_addPart_102 (by decide) rfl ?_
      refine r_ild O 106 rfl 3 rfl dX4_addPart_104 ?_
      refine r_ild O 108 rfl 2 rfl dX4_addPart_106 ?_
      refine r_isub O 109 rfl dX4_addPart_108 ?_
      obtain ⟨x109, ex109, hf⟩ := qn_some hf
      refine r_abs O 112 rfl maX4_91.1 maX4_91.2.1 maX4_91.2.2.1 maX4_91.2.2.2 (Nat.le_of_ble_eq_true rfl) (Nat.le_of_ble_eq_true rfl) (Nat.zero_le _) (Nat.zero_le _) dX4_addPart_109 ?_
      rw [← ex109]
      refine r_ild O 114 rfl 1 rfl dX4_addPart_112 ?_
      obtain ⟨hne114, hf⟩ := qnzi_some hf
      refine r_idiv O 115 rfl dX4_addPart_114 hne114 ?_
      obtain ⟨x115, ex115, hf⟩ := qn_some hf
      rw [← ex115]
      refine r_ist O 117 rfl [(10, .int x115), (9, .int x102), (8, .int x86), (7, .int x68), (6, .int x40), (5, .int x14), (0, .ref (h_t 0)), (1, .ref (h_t 0)), (2, .int a2), (3, .int a3), (4, .int a4)] dX4_addPart_115 (by decide) rfl ?_
      refine r_ild O 119 rfl 4 rfl dX4_addPart_117 ?_
      refine r_if_le O 122 rfl 126 dX4_addPart_119 (by decide) (fun hc119 => ?_) (fun hc119 => ?_)
      · rw [if_pos hc119] at hf
        refine r_ic O 127 rfl 0 (by decide) dX4_addPart_126 ?_
        refine r_lv [6, 7, 8, 10, 5, 1, 0] rfl ?_
        exact B127 _ _ _ _ _ _ _ hf
      · rw [if_neg hc119] at hf
        refine r_ic O 123 rfl 1 (by decide) dX4_addPart_122 ?_
        refine r_goto O 127 dX4_addPart_123 (by decide) ?_
        refine r_lv [6, 7, 8, 10, 5, 1, 0] rfl ?_
        exact B127 _ _ _ _ _ _ _ hf
    · rw [if_pos hc90] at hf
      obtain g0 := qe1 hf
      exact r_vret2 O E (by rw [g0]) dX4_addPart_93
  · rw [if_pos hc5] at hf
    obtain g0 := qe1 hf
    exact r_vret2 O E (by rw [g0]) dX4_addPart_8
-- X4_addCopy_a
def rmX4_addCopy_a : Room := { frames := 1, cells := 0, slots := 0, locals := 25 }
set_option maxHeartbeats 4000000 in
set_option maxRecDepth 100000 in
theorem zX4_addCopy_a {l : Launch} {D : va_G} {cI cZ cQ : ClassId} {h_t : Nat → Nat} {r_w : Nat} {u_t : Pk} {a2 : Int32} {v_t : Pk} (hf : fX4_addCopy_a u_t a2 = some v_t) : MV l yX4_addCopy wsX4_addCopy rmX4_addCopy_a D (TY cI cZ cQ) [.ref (h_t 0), .ref (h_t 0), .int a2] [nX4 cI cZ cQ h_t r_w u_t] [nX4 cI cZ cQ h_t r_w v_t] := by
  refine MV.of (own := RX4) (by decide +kernel) rfl rfl (Nat.le_of_ble_eq_true rfl) (lv0 := [(0, .ref (h_t 0)), (1, .ref (h_t 0)), (2, .int a2)]) rfl ?_
  intro X O E
  unfold fX4_addCopy_a at hf
  refine r_ald_n O 1 rfl 1 rfl dX4_addCopy_0 ?_
  refine r_ild_n O 2 rfl 2 rfl dX4_addCopy_1 ?_
  obtain ⟨x2, hq2, hf⟩ := qb1_some hf
  refine k_VZ O 5 rfl (zX4_has (l := xl X) (D := xD X) (cI := cI) (cZ := cZ) (cQ := cQ) (h_t := h_t) (r_w := r_w) hq2) (gV mlX4_38 mvX4_has izX4) rfl rfl rfl hdX4_has ⟨Nat.le_of_ble_eq_true rfl, Nat.le_of_ble_eq_true rfl⟩ rfl 0 rfl rfl rfl rfl (Nat.le_of_ble_eq_true rfl) ⟨Nat.zero_le _, Nat.zero_le _⟩ [0] rfl rfl rfl ([nX4 cI cZ cQ h_t r_w u_t]) rfl dX4_addCopy_2 (fun hz2 => ?_)
  refine r_if_eq O 8 rfl 42 dX4_addCopy_5 (by decide) (fun hc5 => ?_) (fun hc5 => ?_)
  · rw [if_pos hc5] at hf
    obtain g0 := qe1 hf
    exact r_vret2 O E (by rw [g0]) dX4_addCopy_42
  · rw [if_neg hc5] at hf
    refine r_ald_n O 9 rfl 0 rfl dX4_addCopy_8 ?_
    refine r_ald_n O 10 rfl 1 rfl dX4_addCopy_9 ?_
    refine r_get (ref := RX4) (C := RX4) (T := TX4) (N := 8) O 13 rfl inBX4 0 2 rfl rfl rfl (by decide) flX4_19 rfl rfl dX4_addCopy_10 ?_
    refine r_ild_n O 14 rfl 2 rfl dX4_addCopy_13 ?_
    obtain ⟨x14, ex14, hin14, hf⟩ := qld_some hf
    refine r_iald O 15 rfl 0 1 rfl rfl hin14 dX4_addCopy_14 ?_
    rw [← ex14]
    refine r_ald_n O 16 rfl 1 rfl dX4_addCopy_15 ?_
    refine r_get (ref := RX4) (C := RX4) (T := TX4) (N := 8) O 19 rfl inBX4 0 3 rfl rfl rfl (by decide) flX4_23 rfl rfl dX4_addCopy_16 ?_
    refine r_ild_n O 20 rfl 2 rfl dX4_addCopy_19 ?_
    obtain ⟨x20, ex20, hin20, hf⟩ := qld_some hf
    refine r_iald O 21 rfl 0 2 rfl rfl hin20 dX4_addCopy_20 ?_
    rw [← ex20]
    refine r_ald_n O 22 rfl 1 rfl dX4_addCopy_21 ?_
    refine r_get (ref := RX4) (C := RX4) (T := TX4) (N := 8) O 25 rfl inBX4 0 4 rfl rfl rfl (by decide) flX4_26 rfl rfl dX4_addCopy_22 ?_
    refine r_ild_n O 26 rfl 2 rfl dX4_addCopy_25 ?_
    obtain ⟨x26, ex26, hin26, hf⟩ := qld_some hf
    refine r_iald O 27 rfl 0 3 rfl rfl hin26 dX4_addCopy_26 ?_
    rw [← ex26]
    refine r_ald_n O 28 rfl 1 rfl dX4_addCopy_27 ?_
    refine r_get (ref := RX4) (C := RX4) (T := TX4) (N := 8) O 31 rfl inBX4 0 5 rfl rfl rfl (by decide) flX4_29 rfl rfl dX4_addCopy_28 ?_
    refine r_ild_n O 32 rfl 2 rfl dX4_addCopy_31 ?_
    obtain ⟨x32, ex32, hin32, hf⟩ := qld_some hf
    refine r_iald O 33 rfl 0 4 rfl rfl hin32 dX4_addCopy_32 ?_
    rw [← ex32]
    refine r_ald_n O 34 rfl 1 rfl dX4_addCopy_33 ?_
    refine r_get (ref := RX4) (C := RX4) (T := TX4) (N := 8) O 37 rfl inBX4 0 6 rfl rfl rfl (by decide) flX4_32 rfl rfl dX4_addCopy_34 ?_
    refine r_ild_n O 38 rfl 2 rfl dX4_addCopy_37 ?_
    obtain ⟨x38, ex38, hin38, hf⟩ := qld_some hf
    refine r_iald O 39 rfl 0 5 rfl rfl hin38 dX4_addCopy_38 ?_
    rw [← ex38]
    obtain ⟨p39_t, hq39, hf⟩ := qb1_some hf
    refine k_VV O 42 rfl (zX4_add (l := xl X) (D := xD X) (cI := cI) (cZ := cZ) (cQ := cQ) (h_t := h_t) (r_w := r_w) hq39) (gV mlX4_42 mvX4_add izX4) rfl rfl rfl hdX4_add ⟨Nat.le_of_ble_eq_true rfl, Nat.le_of_ble_eq_true rfl⟩ rfl 0 rfl rfl rfl rfl (Nat.le_of_ble_eq_true rfl) ⟨Nat.zero_le _, Nat.zero_le _⟩ [0] rfl rfl rfl ([nX4 cI cZ cQ h_t r_w p39_t]) rfl dX4_addCopy_39 ?_
    obtain g0 := qe1 hf
    exact r_vret2 O E (by rw [g0]) dX4_addCopy_42
-- X4_addSide_a
def rmX4_addSide_a : Room := { frames := 2, cells := 0, slots := 0, locals := 61 }
set_option maxHeartbeats 4000000 in
set_option maxRecDepth 100000 in
theorem zX4_addSide_a {l : Launch} {D : va_G} {cI cZ cQ : ClassId} {h_t h_w : Nat → Nat} {u_w u_t : Pk} {a2 : Int32} {a3 : Int32} {a4 : Int32} {a5 : Int32} {v_t : Pk} (hf : fX4_addSide_a u_w u_t a2 a3 a4 a5 = some v_t) : MV l yX4_addSide wsX4_addSide rmX4_addSide_a D (TY cI cZ cQ) [.ref (h_t 0), .ref (h_t 0), .int a2, .int a3, .int a4, .int a5] [nX4 cI cZ cQ h_t (h_w 0) u_t, nX8 cI cZ cQ h_w u_w] [nX4 cI cZ cQ h_t (h_w 0) v_t, nX8 cI cZ cQ h_w u_w] := by
  refine MV.of (own := RX4) (by decide +kernel) rfl rfl (Nat.le_of_ble_eq_true rfl) (lv0 := [(0, .ref (h_t 0)), (1, .ref (h_t 0)), (2, .int a2), (3, .int a3), (4, .int a4), (5, .int a5)]) rfl ?_
  intro X O E
  have B58 : ∀ (rec3 : Pk → Int32 → Int32 → Int32 → Int32 → Option (Pk)), (∀ (w_t : Pk) (y3 : Int32) (y4 : Int32) (y5 : Int32) (y6 : Int32), rec3 w_t y3 y4 y5 y6 = some v_t → BK X 8 0 0 3 ([nX4 cI cZ cQ h_t (h_w 0) w_t, nX8 cI cZ cQ h_w u_w]) [(0, .ref (h_t 0)), (1, .ref (h_t 0)), (3, .int y3), (4, .int y4), (5, .int y5), (6, .int y6)] []) → ∀ (w_t : Pk) (y3 : Int32) (y4 : Int32) (y5 : Int32) (y6 : Int32), fX4_addSide_a_b58 rec3 u_w w_t y3 y4 y5 y6 = some v_t → BK X 8 0 0 58 ([nX4 cI cZ cQ h_t (h_w 0) w_t, nX8 cI cZ cQ h_w u_w]) [(0, .ref (h_t 0)), (1, .ref (h_t 0)), (3, .int y3), (4, .int y4), (5, .int y5), (6, .int y6)] [] := by
    intro rec3 hrec3 w_t y3 y4 y5 y6 hf
    unfold fX4_addSide_a_b58 at hf
    obtain ⟨x58, ex58, hf⟩ := qn_some hf
    refine r_iinc O 61 rfl x58 5 rfl (by rw [ex58]; rfl) [(6, .int x58), (0, .ref (h_t 0)), (1, .ref (h_t 0)), (3, .int y3), (4, .int y4), (5, .int y5)] dX4_addSide_58 (by decide) rfl ?_
    refine r_goto O 3 dX4_addSide_61 (by decide) ?_
    refine r_lv [1, 2, 3, 4, 5, 0] rfl ?_
    exact hrec3 _ _ _ _ _ hf
  have B3 : ∀ n : Nat, ∀ (w_t : Pk) (y3 : Int32) (y4 : Int32) (y5 : Int32) (y6 : Int32), fX4_addSide_a_b3 u_w n w_t y3 y4 y5 y6 = some v_t → BK X 8 0 0 3 ([nX4 cI cZ cQ h_t (h_w 0) w_t, nX8 cI cZ cQ h_w u_w]) [(0, .ref (h_t 0)), (1, .ref (h_t 0)), (3, .int y3), (4, .int y4), (5, .int y5), (6, .int y6)] [] := by
    intro n
    induction n with
    | zero => exact fun _ _ _ _ _ hf => qno hf
    | succ n hrec3 =>
      intro w_t y3 y4 y5 y6 hf
      have hf : fX4_addSide_a_b3_s (fX4_addSide_a_b3 u_w n) u_w w_t y3 y4 y5 y6 = some v_t := hf
      generalize fX4_addSide_a_b3 u_w n = rec3 at hf hrec3
      unfold fX4_addSide_a_b3_s at hf
      refine r_ild O 5 rfl 5 rfl dX4_addSide_3 ?_
      refine r_ild_n O 6 rfl 2 rfl dX4_addSide_5 ?_
      refine r_icmp_ge O 9 rfl 64 dX4_addSide_6 (by decide) (fun hc6 => ?_) (fun hc6 => ?_)
      · rw [if_pos hc6] at hf
        obtain g0 := qe1 hf
        exact r_vret2 O E (by rw [g0]) dX4_addSide_64
      · rw [if_neg hc6] at hf
        refine r_ald_n O 10 rfl 1 rfl dX4_addSide_9 ?_
        refine r_ild O 12 rfl 5 rfl dX4_addSide_10 ?_
        refine r_ild O 14 rfl 3 rfl dX4_addSide_12 ?_
        obtain ⟨x14, hq14, hf⟩ := qb1_some hf
        refine k_VI O 17 rfl (zX4_placeOf (l := xl X) (D := xD X) (cI := cI) (cZ := cZ) (cQ := cQ) (h_t := h_t) (h_w := h_w) hq14) (gV mlX4_58 mvX4_placeOf izX4) rfl rfl rfl hdX4_placeOf ⟨Nat.le_of_ble_eq_true rfl, Nat.le_of_ble_eq_true rfl⟩ rfl 0 rfl rfl rfl rfl (Nat.le_of_ble_eq_true rfl) ⟨Nat.zero_le _, Nat.zero_le _⟩ [0, 1] rfl rfl rfl ([nX4 cI cZ cQ h_t (h_w 0) w_t, nX8 cI cZ cQ h_w u_w]) rfl dX4_addSide_14 ?_
        refine r_ist O 19 rfl [(7, .int x14), (0, .ref (h_t 0)), (1, .ref (h_t 0)), (3, .int y3), (4, .int y4), (5, .int y5), (6, .int y6)] dX4_addSide_17 (by decide) rfl ?_
        refine r_ild O 21 rfl 0 rfl dX4_addSide_19 ?_
        refine r_ild O 23 rfl 5 rfl dX4_addSide_21 ?_
        refine r_icmp_ne O 26 rfl 36 dX4_addSide_23 (by decide) (fun hc23 => ?_) (fun hc23 => ?_)
        · rw [if_neg hc23] at hf
          refine r_ild O 38 rfl 0 rfl dX4_addSide_36 ?_
          refine r_ic O 39 rfl 3 (by decide) dX4_addSide_38 ?_
          refine r_icmp_ne O 42 rfl 58 dX4_addSide_39 (by decide) (fun hc39 => ?_) (fun hc39 => ?_)
          · rw [if_neg hc39] at hf
            refine r_lv [1, 2, 3, 4, 5, 6] rfl ?_
            exact B58 rec3 hrec3 _ _ _ _ _ hf
          · rw [if_pos hc39] at hf
            refine r_ild O 44 rfl 5 rfl dX4_addSide_42 ?_
            refine r_if_eq O 47 rfl 58 dX4_addSide_44 (by decide) (fun hc44 => ?_) (fun hc44 => ?_)
            · rw [if_pos hc44] at hf
              refine r_lv [1, 2, 3, 4, 5, 6] rfl ?_
              exact B58 rec3 hrec3 _ _ _ _ _ hf
            · rw [if_neg hc44] at hf
              refine r_ald_n O 48 rfl 1 rfl dX4_addSide_47 ?_
              refine r_ald_n O 49 rfl 2 rfl dX4_addSide_48 ?_
              refine r_ild O 51 rfl 6 rfl dX4_addSide_49 ?_
              refine r_ild O 53 rfl 4 rfl dX4_addSide_51 ?_
              refine r_ild O 55 rfl 5 rfl dX4_addSide_53 ?_
              obtain ⟨p55_t, hq55, hf⟩ := qb1_some hf
              refine k_VV O 58 rfl (zX4_addPart_a (l := xl X) (D := xD X) (cI := cI) (cZ := cZ) (cQ := cQ) (h_t := h_t) (h_w := h_w) hq55) (gV mlX4_66 mvX4_addPart izX4) rfl rfl rfl hdX4_addPart ⟨Nat.le_of_ble_eq_true rfl, Nat.le_of_ble_eq_true rfl⟩ rfl 0 rfl rfl rfl rfl (Nat.le_of_ble_eq_true rfl) ⟨Nat.zero_le _, Nat.zero_le _⟩ [0, 1] rfl rfl rfl ([nX4 cI cZ cQ h_t (h_w 0) p55_t, nX8 cI cZ cQ h_w u_w]) rfl dX4_addSide_55 ?_
              refine r_lv [1, 2, 3, 4, 5, 6] rfl ?_
              exact B58 rec3 hrec3 _ _ _ _ _ hf
        · rw [if_pos hc23] at hf
          refine r_ald_n O 27 rfl 1 rfl dX4_addSide_26 ?_
          refine r_ald_n O 28 rfl 2 rfl dX4_addSide_27 ?_
          refine r_ild O 30 rfl 6 rfl dX4_addSide_28 ?_
          obtain ⟨p30_t, hq30, hf⟩ := qb1_some hf
          refine k_VV O 33 rfl (zX4_addCopy_a (l := xl X) (D := xD X) (cI := cI) (cZ := cZ) (cQ := cQ) (h_t := h_t) (r_w := (h_w 0)) hq30) (gV mlX4_62 mvX4_addCopy izX4) rfl rfl rfl hdX4_addCopy ⟨Nat.le_of_ble_eq_true rfl, Nat.le_of_ble_eq_true rfl⟩ rfl 0 rfl rfl rfl rfl (Nat.le_of_ble_eq_true rfl) ⟨Nat.zero_le _, Nat.zero_le _⟩ [0] rfl rfl rfl ([nX4 cI cZ cQ h_t (h_w 0) p30_t, nX8 cI cZ cQ h_w u_w]) rfl dX4_addSide_30 ?_
          refine r_goto O 58 dX4_addSide_33 (by decide) ?_
          refine r_lv [1, 2, 3, 4, 5, 6] rfl ?_
          exact B58 rec3 hrec3 _ _ _ _ _ hf
  unfold fX4_addSide_a at hf
  refine r_ild_n O 1 rfl 2 rfl dX4_addSide_0 ?_
  refine r_ist O 3 rfl [(6, .int a2), (0, .ref (h_t 0)), (1, .ref (h_t 0)), (2, .int a2), (3, .int a3), (4, .int a4), (5, .int a5)] dX4_addSide_1 (by decide) rfl ?_
  refine r_lv [1, 2, 4, 5, 6, 0] rfl ?_
  exact B3 FU _ _ _ _ _ hf
-- X4_bound
def rmX4_bound : Room := { frames := 1, cells := 0, slots := 0, locals := 21 }
set_option maxHeartbeats 4000000 in
set_option maxRecDepth 100000 in
theorem zX4_bound {l : Launch} {D : va_G} {cI cZ cQ : ClassId} {h_t : Nat → Nat} {r_w : Nat} {u_t : Pk} {a1 : Int32} {a2 : Int32} {r0 : Int32} (hf : fX4_bound u_t a1 a2 = some r0) : MI l yX4_bound wsX4_bound rmX4_bound D (TY cI cZ cQ) [.ref (h_t 0), .int a1, .int a2] [nX4 cI cZ cQ h_t r_w u_t] r0 [nX4 cI cZ cQ h_t r_w u_t] := by
  refine MI.of (own := RX4) (by decide +kernel) rfl rfl (Nat.le_of_ble_eq_true rfl) (lv0 := [(0, .ref (h_t 0)), (1, .int a1), (2, .int a2)]) rfl ?_
  intro X O E
  unfold fX4_bound at hf
  refine r_ald_n O 1 rfl 0 rfl dX4_bound_0 ?_
  refine r_ild_n O 2 rfl 1 rfl dX4_bound_1 ?_
  obtain ⟨x2, hq2, hf⟩ := qb1_some hf
  refine k_VZ O 5 rfl (zX4_has (l := xl X) (D := xD X) (cI := cI) (cZ := cZ) (cQ := cQ) (h_t := h_t) (r_w := r_w) hq2) (gV mlX4_38 mvX4_has izX4) rfl rfl rfl hdX4_has ⟨Nat.le_of_ble_eq_true rfl, Nat.le_of_ble_eq_true rfl⟩ rfl 0 rfl rfl rfl rfl (Nat.le_of_ble_eq_true rfl) ⟨Nat.zero_le _, Nat.zero_le _⟩ [0] rfl rfl rfl ([nX4 cI cZ cQ h_t r_w u_t]) rfl dX4_bound_2 (fun hz2 => ?_)
  refine r_if_ne O 8 rfl 10 dX4_bound_5 (by decide) (fun hc5 => ?_) (fun hc5 => ?_)
  · rw [if_neg hc5] at hf
    refine r_ild_n O 11 rfl 2 rfl dX4_bound_10 ?_
    by_cases hc11_0 : a2 = 0
    · rw [if_pos hc11_0] at hf
      refine r_tabIn O 36 dX4_bound_11 (by rw [hc11_0]; decide) (by rw [hc11_0]; decide) (off := 25) (by rw [hc11_0]; rfl) (by decide) ?_
      refine r_ald_n O 37 rfl 0 rfl dX4_bound_36 ?_
      refine r_get (ref := RX4) (C := RX4) (T := TX4) (N := 8) O 40 rfl inBX4 0 3 rfl rfl rfl (by decide) flX4_23 rfl rfl dX4_bound_37 ?_
      refine r_ild_n O 41 rfl 1 rfl dX4_bound_40 ?_
      obtain ⟨x41, ex41, hin41, hf⟩ := qld_some hf
      refine r_iald O 42 rfl 0 2 rfl rfl hin41 dX4_bound_41 ?_
      rw [← ex41]
      obtain g0 := qe1 hf
      exact r_iret2 O E g0 rfl dX4_bound_42
    rw [if_neg hc11_0] at hf
    by_cases hc11_1 : a2 = 1
    · rw [if_pos hc11_1] at hf
      refine r_tabIn O 43 dX4_bound_11 (by rw [hc11_1]; decide) (by rw [hc11_1]; decide) (off := 32) (by rw [hc11_1]; rfl) (by decide) ?_
      refine r_ald_n O 44 rfl 0 rfl dX4_bound_43 ?_
      refine r_get (ref := RX4) (C := RX4) (T := TX4) (N := 8) O 47 rfl inBX4 0 4 rfl rfl rfl (by decide) flX4_26 rfl rfl dX4_bound_44 ?_
      refine r_ild_n O 48 rfl 1 rfl dX4_bound_47 ?_
      obtain ⟨x48, ex48, hin48, hf⟩ := qld_some hf
      refine r_iald O 49 rfl 0 3 rfl rfl hin48 dX4_bound_48 ?_
      rw [← ex48]
      obtain g0 := qe1 hf
      exact r_iret2 O E g0 rfl dX4_bound_49
    rw [if_neg hc11_1] at hf
    by_cases hc11_2 : a2 = 2
    · rw [if_pos hc11_2] at hf
      refine r_tabIn O 50 dX4_bound_11 (by rw [hc11_2]; decide) (by rw [hc11_2]; decide) (off := 39) (by rw [hc11_2]; rfl) (by decide) ?_
      refine r_ald_n O 51 rfl 0 rfl dX4_bound_50 ?_
      refine r_get (ref := RX4) (C := RX4) (T := TX4) (N := 8) O 54 rfl inBX4 0 5 rfl rfl rfl (by decide) flX4_29 rfl rfl dX4_bound_51 ?_
      refine r_ild_n O 55 rfl 1 rfl dX4_bound_54 ?_
      obtain ⟨x55, ex55, hin55, hf⟩ := qld_some hf
      refine r_iald O 56 rfl 0 4 rfl rfl hin55 dX4_bound_55 ?_
      rw [← ex55]
      obtain g0 := qe1 hf
      exact r_iret2 O E g0 rfl dX4_bound_56
    rw [if_neg hc11_2] at hf
    have hi11_0 : a2.toInt ≠ 0 := fun e => hc11_0 (Int32.toInt_inj.mp (by rw [e]; rfl))
    have hi11_1 : a2.toInt ≠ 1 := fun e => hc11_1 (Int32.toInt_inj.mp (by rw [e]; rfl))
    have hi11_2 : a2.toInt ≠ 2 := fun e => hc11_2 (Int32.toInt_inj.mp (by rw [e]; rfl))
    refine r_tabOut O 57 dX4_bound_11 (by omega) (by decide) ?_
    refine r_ald_n O 58 rfl 0 rfl dX4_bound_57 ?_
    refine r_get (ref := RX4) (C := RX4) (T := TX4) (N := 8) O 61 rfl inBX4 0 6 rfl rfl rfl (by decide) flX4_32 rfl rfl dX4_bound_58 ?_
    refine r_ild_n O 62 rfl 1 rfl dX4_bound_61 ?_
    obtain ⟨x62, ex62, hin62, hf⟩ := qld_some hf
    refine r_iald O 63 rfl 0 5 rfl rfl hin62 dX4_bound_62 ?_
    rw [← ex62]
    obtain g0 := qe1 hf
    exact r_iret2 O E g0 rfl dX4_bound_63
  · rw [if_pos hc5] at hf
    refine r_ic O 9 rfl 0 (by decide) dX4_bound_8 ?_
    obtain g0 := qe1 hf
    exact r_iret2 O E g0 rfl dX4_bound_9
-- X4_addPart
def rmX4_addPart : Room := { frames := 1, cells := 0, slots := 0, locals := 30 }
set_option maxHeartbeats 4000000 in
set_option maxRecDepth 100000 in
theorem zX4_addPart {l : Launch} {D : va_G} {cI cZ cQ : ClassId} {h_t h_w h_s : Nat → Nat} {u_w u_s u_t : Pk} {a2 : Int32} {a3 : Int32} {a4 : Int32} {v_t : Pk} (hf : fX4_addPart u_w u_s u_t a2 a3 a4 = some v_t) : MV l yX4_addPart wsX4_addPart rmX4_addPart D (TY cI cZ cQ) [.ref (h_t 0), .ref (h_s 0), .int a2, .int a3, .int a4] [nX4 cI cZ cQ h_t (h_w 0) u_t, nX8 cI cZ cQ h_w u_w, nX4 cI cZ cQ h_s (h_w 0) u_s] [nX4 cI cZ cQ h_t (h_w 0) v_t, nX8 cI cZ cQ h_w u_w, nX4 cI cZ cQ h_s (h_w 0) u_s] := by
  refine MV.of (own := RX4) (by decide +kernel) rfl rfl (Nat.le_of_ble_eq_true rfl) (lv0 := [(0, .ref (h_t 0)), (1, .ref (h_s 0)), (2, .int a2), (3, .int a3), (4, .int a4)]) rfl ?_
  intro X O E
  have B142 : ∀ (w_t : Pk) (y2 : Int32) (y5 : Int32) (y9 : Int32) (y10 : Int32) (z0 : Int32) (z1 : Int32), fX4_addPart_b142 u_w u_s w_t y2 y5 y9 y10 z0 z1 = some v_t → BK X 12 0 0 142 ([nX4 cI cZ cQ h_t (h_w 0) w_t, nX8 cI cZ cQ h_w u_w, nX4 cI cZ cQ h_s (h_w 0) u_s]) [(0, .ref (h_t 0)), (1, .ref (h_s 0)), (2, .int y2), (5, .int y5), (9, .int y9), (10, .int y10)] [.int z1, .int z0] := by
    intro w_t y2 y5 y9 y10 z0 z1 hf
    unfold fX4_addPart_b142 at hf
    refine r_icmp_ne O 145 rfl 170 dX4_addPart_142 (by decide) (fun hc142 => ?_) (fun hc142 => ?_)
    · rw [if_neg hc142] at hf
      refine r_ald_n O 171 rfl 0 rfl dX4_addPart_170 ?_
      refine r_ild O 173 rfl 3 rfl dX4_addPart_171 ?_
      refine r_ild O 175 rfl 4 rfl dX4_addPart_173 ?_
      refine r_ild O 177 rfl 5 rfl dX4_addPart_175 ?_
      refine r_ald_n O 178 rfl 1 rfl dX4_addPart_177 ?_
      refine r_get (ref := RX4) (C := RX4) (T := TX4) (N := 8) O 181 rfl inBX4 2 5 rfl rfl rfl (by decide) flX4_29 rfl rfl dX4_addPart_178 ?_
      refine r_ild_n O 182 rfl 2 rfl dX4_addPart_181 ?_
      obtain ⟨x182, ex182, hin182, hf⟩ := qld_some hf
      refine r_iald O 183 rfl 2 4 rfl rfl hin182 dX4_addPart_182 ?_
      rw [← ex182]
      refine r_ald_n O 184 rfl 1 rfl dX4_addPart_183 ?_
      refine r_get (ref := RX4) (C := RX4) (T := TX4) (N := 8) O 187 rfl inBX4 2 6 rfl rfl rfl (by decide) flX4_32 rfl rfl dX4_addPart_184 ?_
      refine r_ild_n O 188 rfl 2 rfl dX4_addPart_187 ?_
      obtain ⟨x188, ex188, hin188, hf⟩ := qld_some hf
      refine r_iald O 189 rfl 2 5 rfl rfl hin188 dX4_addPart_188 ?_
      rw [← ex188]
      obtain ⟨p189_t, hq189, hf⟩ := qb1_some hf
      refine k_VV O 192 rfl (zX4_add (l := xl X) (D := xD X) (cI := cI) (cZ := cZ) (cQ := cQ) (h_t := h_t) (r_w := (h_w 0)) hq189) (gV mlX4_42 mvX4_add izX4) rfl rfl rfl hdX4_add ⟨Nat.le_of_ble_eq_true rfl, Nat.le_of_ble_eq_true rfl⟩ rfl 0 rfl rfl rfl rfl (Nat.le_of_ble_eq_true rfl) ⟨Nat.zero_le _, Nat.zero_le _⟩ [0] rfl rfl rfl ([nX4 cI cZ cQ h_t (h_w 0) p189_t, nX8 cI cZ cQ h_w u_w, nX4 cI cZ cQ h_s (h_w 0) u_s]) rfl dX4_addPart_189 ?_
      obtain g0 := qe1 hf
      exact r_vret2 O E (by rw [g0]) dX4_addPart_192
    · rw [if_pos hc142] at hf
      refine r_ald_n O 146 rfl 0 rfl dX4_addPart_145 ?_
      refine r_ild O 148 rfl 3 rfl dX4_addPart_146 ?_
      refine r_ald_n O 149 rfl 1 rfl dX4_addPart_148 ?_
      refine r_get (ref := RX4) (C := RX4) (T := TX4) (N := 8) O 152 rfl inBX4 2 3 rfl rfl rfl (by decide) flX4_23 rfl rfl dX4_addPart_149 ?_
      refine r_ild_n O 153 rfl 2 rfl dX4_addPart_152 ?_
      obtain ⟨x153, ex153, hin153, hf⟩ := qld_some hf
      refine r_iald O 154 rfl 2 2 rfl rfl hin153 dX4_addPart_153 ?_
      rw [← ex153]
      refine r_ald_n O 155 rfl 1 rfl dX4_addPart_154 ?_
      refine r_get (ref := RX4) (C := RX4) (T := TX4) (N := 8) O 158 rfl inBX4 2 4 rfl rfl rfl (by decide) flX4_26 rfl rfl dX4_addPart_155 ?_
      refine r_ild_n O 159 rfl 2 rfl dX4_addPart_158 ?_
      obtain ⟨x159, ex159, hin159, hf⟩ := qld_some hf
      refine r_iald O 160 rfl 2 3 rfl rfl hin159 dX4_addPart_159 ?_
      rw [← ex159]
      refine r_ild O 162 rfl 4 rfl dX4_addPart_160 ?_
      refine r_ild O 164 rfl 5 rfl dX4_addPart_162 ?_
      obtain ⟨p164_t, hq164, hf⟩ := qb1_some hf
      refine k_VV O 167 rfl (zX4_add (l := xl X) (D := xD X) (cI := cI) (cZ := cZ) (cQ := cQ) (h_t := h_t) (r_w := (h_w 0)) hq164) (gV mlX4_42 mvX4_add izX4) rfl rfl rfl hdX4_add ⟨Nat.le_of_ble_eq_true rfl, Nat.le_of_ble_eq_true rfl⟩ rfl 0 rfl rfl rfl rfl (Nat.le_of_ble_eq_true rfl) ⟨Nat.zero_le _, Nat.zero_le _⟩ [0] rfl rfl rfl ([nX4 cI cZ cQ h_t (h_w 0) p164_t, nX8 cI cZ cQ h_w u_w, nX4 cI cZ cQ h_s (h_w 0) u_s]) rfl dX4_addPart_164 ?_
      refine r_goto O 192 dX4_addPart_167 (by decide) ?_
      obtain g0 := qe1 hf
      exact r_vret2 O E (by rw [g0]) dX4_addPart_192
  have B127 : ∀ (w_t : Pk) (y2 : Int32) (y4 : Int32) (y5 : Int32) (y9 : Int32) (y10 : Int32) (z0 : Int32), fX4_addPart_b127 u_w u_s w_t y2 y4 y5 y9 y10 z0 = some v_t → BK X 12 0 0 127 ([nX4 cI cZ cQ h_t (h_w 0) w_t, nX8 cI cZ cQ h_w u_w, nX4 cI cZ cQ h_s (h_w 0) u_s]) [(0, .ref (h_t 0)), (1, .ref (h_s 0)), (2, .int y2), (4, .int y4), (5, .int y5), (9, .int y9), (10, .int y10)] [.int z0] := by
    intro w_t y2 y4 y5 y9 y10 z0 hf
    unfold fX4_addPart_b127 at hf
    refine r_ist O 129 rfl [(11, .int z0), (0, .ref (h_t 0)), (1, .ref (h_s 0)), (2, .int y2), (4, .int y4), (5, .int y5), (9, .int y9), (10, .int y10)] dX4_addPart_127 (by decide) rfl ?_
    refine r_ild O 131 rfl 0 rfl dX4_addPart_129 ?_
    refine r_ild O 133 rfl 4 rfl dX4_addPart_131 ?_
    refine r_ic O 134 rfl 1 (by decide) dX4_addPart_133 ?_
    refine r_icmp_ne O 137 rfl 141 dX4_addPart_134 (by decide) (fun hc134 => ?_) (fun hc134 => ?_)
    · rw [if_neg hc134] at hf
      refine r_ic O 142 rfl 0 (by decide) dX4_addPart_141 ?_
      refine r_lv [1, 2, 3, 5, 6, 7] rfl ?_
      exact B142 _ _ _ _ _ _ _ hf
    · rw [if_pos hc134] at hf
      refine r_ic O 138 rfl 1 (by decide) dX4_addPart_137 ?_
      refine r_goto O 142 dX4_addPart_138 (by decide) ?_
      refine r_lv [1, 2, 3, 5, 6, 7] rfl ?_
      exact B142 _ _ _ _ _ _ _ hf
  unfold fX4_addPart at hf
  refine r_ald_n O 1 rfl 1 rfl dX4_addPart_0 ?_
  refine r_ild_n O 2 rfl 2 rfl dX4_addPart_1 ?_
  obtain ⟨x2, hq2, hf⟩ := qb1_some hf
  refine k_VZ O 5 rfl (zX4_has (l := xl X) (D := xD X) (cI := cI) (cZ := cZ) (cQ := cQ) (h_t := h_s) (r_w := (h_w 0)) hq2) (gV mlX4_38 mvX4_has izX4) rfl rfl rfl hdX4_has ⟨Nat.le_of_ble_eq_true rfl, Nat.le_of_ble_eq_true rfl⟩ rfl 2 rfl rfl rfl rfl (Nat.le_of_ble_eq_true rfl) ⟨Nat.zero_le _, Nat.zero_le _⟩ [2] rfl rfl rfl ([nX4 cI cZ cQ h_t (h_w 0) u_t, nX8 cI cZ cQ h_w u_w, nX4 cI cZ cQ h_s (h_w 0) u_s]) rfl dX4_addPart_2 (fun hz2 => ?_)
  refine r_if_ne O 8 rfl 9 dX4_addPart_5 (by decide) (fun hc5 => ?_) (fun hc5 => ?_)
  · rw [if_neg hc5] at hf
    refine r_ald_n O 10 rfl 1 rfl dX4_addPart_9 ?_
    refine r_get (ref := RX4) (C := RX4) (T := TX4) (N := 8) O 13 rfl inBX4 2 2 rfl rfl rfl (by decide) flX4_19 rfl rfl dX4_addPart_10 ?_
    refine r_ild_n O 14 rfl 2 rfl dX4_addPart_13 ?_
    obtain ⟨x14, ex14, hin14, hf⟩ := qld_some hf
    refine r_iald O 15 rfl 2 1 rfl rfl hin14 dX4_addPart_14 ?_
    rw [← ex14]
    refine r_ist O 17 rfl [(5, .int x14), (0, .ref (h_t 0)), (1, .ref (h_s 0)), (2, .int a2), (3, .int a3), (4, .int a4)] dX4_addPart_15 (by decide) rfl ?_
    refine r_ald_n O 18 rfl 1 rfl dX4_addPart_17 ?_
    refine r_get (ref := RX4) (C := RX4) (T := TX4) (N := 8) O 21 rfl inBX4 0 0 rfl rfl rfl (by decide) flX4_9 rfl rfl dX4_addPart_18 ?_
    refine r_ild_n O 22 rfl 4 rfl dX4_addPart_21 ?_
    refine r_ald_n O 23 rfl 1 rfl dX4_addPart_22 ?_
    refine r_get (ref := RX4) (C := RX4) (T := TX4) (N := 8) O 26 rfl inBX4 0 0 rfl rfl rfl (by decide) flX4_9 rfl rfl dX4_addPart_23 ?_
    refine r_ild O 28 rfl 0 rfl dX4_addPart_26 ?_
    obtain ⟨x28, hq28, hf⟩ := qb1_some hf
    refine k_VI O 31 rfl (zX8_startX (l := xl X) (D := xD X) (cI := cI) (cZ := cZ) (cQ := cQ) (h_t := h_w) hq28) (gV mlX4_70 mvX8_startX izX8) rfl rfl rfl hdX8_startX ⟨Nat.le_of_ble_eq_true rfl, Nat.le_of_ble_eq_true rfl⟩ rfl 1 rfl rfl rfl rfl (Nat.le_of_ble_eq_true rfl) ⟨Nat.zero_le _, Nat.zero_le _⟩ [1] rfl rfl rfl ([nX4 cI cZ cQ h_t (h_w 0) u_t, nX8 cI cZ cQ h_w u_w, nX4 cI cZ cQ h_s (h_w 0) u_s]) rfl dX4_addPart_28 ?_
    refine r_ald_n O 32 rfl 1 rfl dX4_addPart_31 ?_
    refine r_get (ref := RX4) (C := RX4) (T := TX4) (N := 8) O 35 rfl inBX4 0 0 rfl rfl rfl (by decide) flX4_9 rfl rfl dX4_addPart_32 ?_
    refine r_ild O 37 rfl 0 rfl dX4_addPart_35 ?_
    obtain ⟨x37, hq37, hf⟩ := qb1_some hf
    refine k_VI O 40 rfl (zX8_startY (l := xl X) (D := xD X) (cI := cI) (cZ := cZ) (cQ := cQ) (h_t := h_w) hq37) (gV mlX4_74 mvX8_startY izX8) rfl rfl rfl hdX8_startY ⟨Nat.le_of_ble_eq_true rfl, Nat.le_of_ble_eq_true rfl⟩ rfl 1 rfl rfl rfl rfl (Nat.le_of_ble_eq_true rfl) ⟨Nat.zero_le _, Nat.zero_le _⟩ [1] rfl rfl rfl ([nX4 cI cZ cQ h_t (h_w 0) u_t, nX8 cI cZ cQ h_w u_w, nX4 cI cZ cQ h_s (h_w 0) u_s]) rfl dX4_addPart_37 ?_
    obtain ⟨x40, hq40, hf⟩ := qb1_some hf
    refine k_VI O 43 rfl (zX8_sideValue (l := xl X) (D := xD X) (cI := cI) (cZ := cZ) (cQ := cQ) (h_t := h_w) hq40) (gV mlX4_77 mvX8_sideValue izX8) rfl rfl rfl hdX8_sideValue ⟨Nat.le_of_ble_eq_true rfl, Nat.le_of_ble_eq_true rfl⟩ rfl 1 rfl rfl rfl rfl (Nat.le_of_ble_eq_true rfl) ⟨Nat.zero_le _, Nat.zero_le _⟩ [1] rfl rfl rfl ([nX4 cI cZ cQ h_t (h_w 0) u_t, nX8 cI cZ cQ h_w u_w, nX4 cI cZ cQ h_s (h_w 0) u_s]) rfl dX4_addPart_40 ?_
    refine r_ist O 45 rfl [(6, .int x40), (5, .int x14), (0, .ref (h_t 0)), (1, .ref (h_s 0)), (2, .int a2), (3, .int a3), (4, .int a4)] dX4_addPart_43 (by decide) rfl ?_
    refine r_ald_n O 46 rfl 2 rfl dX4_addPart_45 ?_
    refine r_get (ref := RX4) (C := RX4) (T := TX4) (N := 8) O 49 rfl inBX4 0 0 rfl rfl rfl (by decide) flX4_9 rfl rfl dX4_addPart_46 ?_
    refine r_ild_n O 50 rfl 5 rfl dX4_addPart_49 ?_
    refine r_ald_n O 51 rfl 2 rfl dX4_addPart_50 ?_
    refine r_get (ref := RX4) (C := RX4) (T := TX4) (N := 8) O 54 rfl inBX4 0 0 rfl rfl rfl (by decide) flX4_9 rfl rfl dX4_addPart_51 ?_
    refine r_ild O 56 rfl 1 rfl dX4_addPart_54 ?_
    obtain ⟨x56, hq56, hf⟩ := qb1_some hf
    refine k_VI O 59 rfl (zX8_endX (l := xl X) (D := xD X) (cI := cI) (cZ := cZ) (cQ := cQ) (h_t := h_w) hq56) (gV mlX4_81 mvX8_endX izX8) rfl rfl rfl hdX8_endX ⟨Nat.le_of_ble_eq_true rfl, Nat.le_of_ble_eq_true rfl⟩ rfl 1 rfl rfl rfl rfl (Nat.le_of_ble_eq_true rfl) ⟨Nat.zero_le _, Nat.zero_le _⟩ [1] rfl rfl rfl ([nX4 cI cZ cQ h_t (h_w 0) u_t, nX8 cI cZ cQ h_w u_w, nX4 cI cZ cQ h_s (h_w 0) u_s]) rfl dX4_addPart_56 ?_
    refine r_ald_n O 60 rfl 2 rfl dX4_addPart_59 ?_
    refine r_get (ref := RX4) (C := RX4) (T := TX4) (N := 8) O 63 rfl inBX4 0 0 rfl rfl rfl (by decide) flX4_9 rfl rfl dX4_addPart_60 ?_
    refine r_ild O 65 rfl 1 rfl dX4_addPart_63 ?_
    obtain ⟨x65, hq65, hf⟩ := qb1_some hf
    refine k_VI O 68 rfl (zX8_endY (l := xl X) (D := xD X) (cI := cI) (cZ := cZ) (cQ := cQ) (h_t := h_w) hq65) (gV mlX4_84 mvX8_endY izX8) rfl rfl rfl hdX8_endY ⟨Nat.le_of_ble_eq_true rfl, Nat.le_of_ble_eq_true rfl⟩ rfl 1 rfl rfl rfl rfl (Nat.le_of_ble_eq_true rfl) ⟨Nat.zero_le _, Nat.zero_le _⟩ [1] rfl rfl rfl ([nX4 cI cZ cQ h_t (h_w 0) u_t, nX8 cI cZ cQ h_w u_w, nX4 cI cZ cQ h_s (h_w 0) u_s]) rfl dX4_addPart_65 ?_
    obtain ⟨x68, hq68, hf⟩ := qb1_some hf
    refine k_VI O 71 rfl (zX8_sideValue (l := xl X) (D := xD X) (cI := cI) (cZ := cZ) (cQ := cQ) (h_t := h_w) hq68) (gV mlX4_77 mvX8_sideValue izX8) rfl rfl rfl hdX8_sideValue ⟨Nat.le_of_ble_eq_true rfl, Nat.le_of_ble_eq_true rfl⟩ rfl 1 rfl rfl rfl rfl (Nat.le_of_ble_eq_true rfl) ⟨Nat.zero_le _, Nat.zero_le _⟩ [1] rfl rfl rfl ([nX4 cI cZ cQ h_t (h_w 0) u_t, nX8 cI cZ cQ h_w u_w, nX4 cI cZ cQ h_s (h_w 0) u_s]) rfl dX4_addPart_68 ?_
    refine r_ist O 73 rfl [(7, .int x68), (6, .int x40), (5, .int x14), (0, .ref (h_t 0)), (1, .ref (h_s 0)), (2, .int a2), (3, .int a3), (4, .int a4)] dX4_addPart_71 (by decide) rfl ?_
    refine r_ild O 75 rfl 1 rfl dX4_addPart_73 ?_
    refine r_i2l O 76 rfl dX4_addPart_75 ?_
    refine r_ild O 78 rfl 1 rfl dX4_addPart_76 ?_
    refine r_ild O 80 rfl 0 rfl dX4_addPart_78 ?_
    refine r_isub O 81 rfl dX4_addPart_80 ?_
    refine r_i2l O 82 rfl dX4_addPart_81 ?_
    obtain ⟨x82, hq82, hf⟩ := qb1_some hf
    refine k_SNL O 85 rfl (zX9_greatestDivisor (l := xl X) (D := xD X) (cI := cI) (cZ := cZ) (cQ := cQ) hq82) (gC mvX9_greatestDivisor.2) izX9 mvX9_greatestDivisor.1 (xO_n87 O) rfl rfl rfl hdX9_greatestDivisor ⟨Nat.le_of_ble_eq_true rfl, Nat.le_of_ble_eq_true rfl⟩ rfl rfl (Nat.le_of_ble_eq_true rfl) ⟨Nat.zero_le _, Nat.zero_le _⟩ [] rfl rfl rfl ([nX4 cI cZ cQ h_t (h_w 0) u_t, nX8 cI cZ cQ h_w u_w, nX4 cI cZ cQ h_s (h_w 0) u_s]) rfl dX4_addPart_82 ?_
    refine r_l2i O 86 rfl dX4_addPart_85 ?_
    obtain ⟨x86, ex86, hf⟩ := qn_some hf
    rw [← ex86]
    refine r_ist O 88 rfl [(8, .int x86), (7, .int x68), (6, .int x40), (5, .int x14), (0, .ref (h_t 0)), (1, .ref (h_s 0)), (2, .int a2), (3, .int a3), (4, .int a4)] dX4_addPart_86 (by decide) rfl ?_
    refine r_ild O 90 rfl 0 rfl dX4_addPart_88 ?_
    refine r_if_ne O 93 rfl 94 dX4_addPart_90 (by decide) (fun hc90 => ?_) (fun hc90 => ?_)
    · rw [if_neg hc90] at hf
      refine r_ild O 96 rfl 2 rfl dX4_addPart_94 ?_
      obtain ⟨x96, ex96, hf⟩ := qn_some hf
      refine r_abs O 99 rfl maX4_91.1 maX4_91.2.1 maX4_91.2.2.1 maX4_91.2.2.2 (Nat.le_of_ble_eq_true rfl) (Nat.le_of_ble_eq_true rfl) (Nat.zero_le _) (Nat.zero_le _) dX4_addPart_96 ?_
      rw [← ex96]
      refine r_ild O 101 rfl 0 rfl dX4_addPart_99 ?_
      obtain ⟨hne101, hf⟩ := qnzi_some hf
      refine r_idiv O 102 rfl dX4_addPart_101 hne101 ?_
      obtain ⟨x102, ex102, hf⟩ := qn_some hf
      rw [← ex102]
      refine r_ist O 104 rfl [(9, .int x102), (8, .int x86), (7, .int x68), (6, .int x40), (5, .int x14), (0, .ref (h_t 0)), (1, .ref (h_s 0)), (2, .int a2), (3, .int a3), (4, .int a4)] dX4_addPart_102 (by decide) rfl ?_
      refine r_ild O 106 rfl 3 rfl dX4_addPart_104 ?_
      refine r_ild O 108 rfl 2 rfl dX4_addPart_106 ?_
      refine r_isub O 109 rfl dX4_addPart_108 ?_
      obtain ⟨x109, ex109, hf⟩ := qn_some hf
      refine r_abs O 112 rfl maX4_91.1 maX4_91.2.1 maX4_91.2.2.1 maX4_91.2.2.2 (Nat.le_of_ble_eq_true rfl) (Nat.le_of_ble_eq_true rfl) (Nat.zero_le _) (Nat.zero_le _) dX4_addPart_109 ?_
      rw [← ex109]
      refine r_ild O 114 rfl 1 rfl dX4_addPart_112 ?_
      obtain ⟨hne114, hf⟩ := qnzi_some hf
      refine r_idiv O 115 rfl dX4_addPart_114 hne114 ?_
      obtain ⟨x115, ex115, hf⟩ := qn_some hf
      rw [← ex115]
      refine r_ist O 117 rfl [(10, .int x115), (9, .int x102), (8, .int x86), (7, .int x68), (6, .int x40), (5, .int x14), (0, .ref (h_t 0)), (1, .ref (h_s 0)), (2, .int a2), (3, .int a3), (4, .int a4)] dX4_addPart_115 (by decide) rfl ?_
      refine r_ild O 119 rfl 4 rfl dX4_addPart_117 ?_
      refine r_if_le O 122 rfl 126 dX4_addPart_119 (by decide) (fun hc119 => ?_) (fun hc119 => ?_)
      · rw [if_pos hc119] at hf
        refine r_ic O 127 rfl 0 (by decide) dX4_addPart_126 ?_
        refine r_lv [6, 7, 8, 10, 5, 1, 0] rfl ?_
        exact B127 _ _ _ _ _ _ _ hf
      · rw [if_neg hc119] at hf
        refine r_ic O 123 rfl 1 (by decide) dX4_addPart_122 ?_
        refine r_goto O 127 dX4_addPart_123 (by decide) ?_
        refine r_lv [6, 7, 8, 10, 5, 1, 0] rfl ?_
        exact B127 _ _ _ _ _ _ _ hf
    · rw [if_pos hc90] at hf
      obtain g0 := qe1 hf
      exact r_vret2 O E (by rw [g0]) dX4_addPart_93
  · rw [if_pos hc5] at hf
    obtain g0 := qe1 hf
    exact r_vret2 O E (by rw [g0]) dX4_addPart_8
-- X4_addCopy
def rmX4_addCopy : Room := { frames := 1, cells := 0, slots := 0, locals := 25 }
set_option maxHeartbeats 4000000 in
set_option maxRecDepth 100000 in
theorem zX4_addCopy {l : Launch} {D : va_G} {cI cZ cQ : ClassId} {h_t h_s : Nat → Nat} {r_w : Nat} {u_s u_t : Pk} {a2 : Int32} {v_t : Pk} (hf : fX4_addCopy u_s u_t a2 = some v_t) : MV l yX4_addCopy wsX4_addCopy rmX4_addCopy D (TY cI cZ cQ) [.ref (h_t 0), .ref (h_s 0), .int a2] [nX4 cI cZ cQ h_t r_w u_t, nX4 cI cZ cQ h_s r_w u_s] [nX4 cI cZ cQ h_t r_w v_t, nX4 cI cZ cQ h_s r_w u_s] := by
  refine MV.of (own := RX4) (by decide +kernel) rfl rfl (Nat.le_of_ble_eq_true rfl) (lv0 := [(0, .ref (h_t 0)), (1, .ref (h_s 0)), (2, .int a2)]) rfl ?_
  intro X O E
  unfold fX4_addCopy at hf
  refine r_ald_n O 1 rfl 1 rfl dX4_addCopy_0 ?_
  refine r_ild_n O 2 rfl 2 rfl dX4_addCopy_1 ?_
  obtain ⟨x2, hq2, hf⟩ := qb1_some hf
  refine k_VZ O 5 rfl (zX4_has (l := xl X) (D := xD X) (cI := cI) (cZ := cZ) (cQ := cQ) (h_t := h_s) (r_w := r_w) hq2) (gV mlX4_38 mvX4_has izX4) rfl rfl rfl hdX4_has ⟨Nat.le_of_ble_eq_true rfl, Nat.le_of_ble_eq_true rfl⟩ rfl 1 rfl rfl rfl rfl (Nat.le_of_ble_eq_true rfl) ⟨Nat.zero_le _, Nat.zero_le _⟩ [1] rfl rfl rfl ([nX4 cI cZ cQ h_t r_w u_t, nX4 cI cZ cQ h_s r_w u_s]) rfl dX4_addCopy_2 (fun hz2 => ?_)
  refine r_if_eq O 8 rfl 42 dX4_addCopy_5 (by decide) (fun hc5 => ?_) (fun hc5 => ?_)
  · rw [if_pos hc5] at hf
    obtain g0 := qe1 hf
    exact r_vret2 O E (by rw [g0]) dX4_addCopy_42
  · rw [if_neg hc5] at hf
    refine r_ald_n O 9 rfl 0 rfl dX4_addCopy_8 ?_
    refine r_ald_n O 10 rfl 1 rfl dX4_addCopy_9 ?_
    refine r_get (ref := RX4) (C := RX4) (T := TX4) (N := 8) O 13 rfl inBX4 1 2 rfl rfl rfl (by decide) flX4_19 rfl rfl dX4_addCopy_10 ?_
    refine r_ild_n O 14 rfl 2 rfl dX4_addCopy_13 ?_
    obtain ⟨x14, ex14, hin14, hf⟩ := qld_some hf
    refine r_iald O 15 rfl 1 1 rfl rfl hin14 dX4_addCopy_14 ?_
    rw [← ex14]
    refine r_ald_n O 16 rfl 1 rfl dX4_addCopy_15 ?_
    refine r_get (ref := RX4) (C := RX4) (T := TX4) (N := 8) O 19 rfl inBX4 1 3 rfl rfl rfl (by decide) flX4_23 rfl rfl dX4_addCopy_16 ?_
    refine r_ild_n O 20 rfl 2 rfl dX4_addCopy_19 ?_
    obtain ⟨x20, ex20, hin20, hf⟩ := qld_some hf
    refine r_iald O 21 rfl 1 2 rfl rfl hin20 dX4_addCopy_20 ?_
    rw [← ex20]
    refine r_ald_n O 22 rfl 1 rfl dX4_addCopy_21 ?_
    refine r_get (ref := RX4) (C := RX4) (T := TX4) (N := 8) O 25 rfl inBX4 1 4 rfl rfl rfl (by decide) flX4_26 rfl rfl dX4_addCopy_22 ?_
    refine r_ild_n O 26 rfl 2 rfl dX4_addCopy_25 ?_
    obtain ⟨x26, ex26, hin26, hf⟩ := qld_some hf
    refine r_iald O 27 rfl 1 3 rfl rfl hin26 dX4_addCopy_26 ?_
    rw [← ex26]
    refine r_ald_n O 28 rfl 1 rfl dX4_addCopy_27 ?_
    refine r_get (ref := RX4) (C := RX4) (T := TX4) (N := 8) O 31 rfl inBX4 1 5 rfl rfl rfl (by decide) flX4_29 rfl rfl dX4_addCopy_28 ?_
    refine r_ild_n O 32 rfl 2 rfl dX4_addCopy_31 ?_
    obtain ⟨x32, ex32, hin32, hf⟩ := qld_some hf
    refine r_iald O 33 rfl 1 4 rfl rfl hin32 dX4_addCopy_32 ?_
    rw [← ex32]
    refine r_ald_n O 34 rfl 1 rfl dX4_addCopy_33 ?_
    refine r_get (ref := RX4) (C := RX4) (T := TX4) (N := 8) O 37 rfl inBX4 1 6 rfl rfl rfl (by decide) flX4_32 rfl rfl dX4_addCopy_34 ?_
    refine r_ild_n O 38 rfl 2 rfl dX4_addCopy_37 ?_
    obtain ⟨x38, ex38, hin38, hf⟩ := qld_some hf
    refine r_iald O 39 rfl 1 5 rfl rfl hin38 dX4_addCopy_38 ?_
    rw [← ex38]
    obtain ⟨p39_t, hq39, hf⟩ := qb1_some hf
    refine k_VV O 42 rfl (zX4_add (l := xl X) (D := xD X) (cI := cI) (cZ := cZ) (cQ := cQ) (h_t := h_t) (r_w := r_w) hq39) (gV mlX4_42 mvX4_add izX4) rfl rfl rfl hdX4_add ⟨Nat.le_of_ble_eq_true rfl, Nat.le_of_ble_eq_true rfl⟩ rfl 0 rfl rfl rfl rfl (Nat.le_of_ble_eq_true rfl) ⟨Nat.zero_le _, Nat.zero_le _⟩ [0] rfl rfl rfl ([nX4 cI cZ cQ h_t r_w p39_t, nX4 cI cZ cQ h_s r_w u_s]) rfl dX4_addCopy_39 ?_
    obtain g0 := qe1 hf
    exact r_vret2 O E (by rw [g0]) dX4_addCopy_42
-- X4_addSide
def rmX4_addSide : Room := { frames := 2, cells := 0, slots := 0, locals := 61 }
set_option maxHeartbeats 4000000 in
set_option maxRecDepth 100000 in
theorem zX4_addSide {l : Launch} {D : va_G} {cI cZ cQ : ClassId} {h_t h_w h_s : Nat → Nat} {u_w u_s u_t : Pk} {a2 : Int32} {a3 : Int32} {a4 : Int32} {a5 : Int32} {v_t : Pk} (hf : fX4_addSide u_w u_s u_t a2 a3 a4 a5 = some v_t) : MV l yX4_addSide wsX4_addSide rmX4_addSide D (TY cI cZ cQ) [.ref (h_t 0), .ref (h_s 0), .int a2, .int a3, .int a4, .int a5] [nX4 cI cZ cQ h_t (h_w 0) u_t, nX8 cI cZ cQ h_w u_w, nX4 cI cZ cQ h_s (h_w 0) u_s] [nX4 cI cZ cQ h_t (h_w 0) v_t, nX8 cI cZ cQ h_w u_w, nX4 cI cZ cQ h_s (h_w 0) u_s] := by
  refine MV.of (own := RX4) (by decide +kernel) rfl rfl (Nat.le_of_ble_eq_true rfl) (lv0 := [(0, .ref (h_t 0)), (1, .ref (h_s 0)), (2, .int a2), (3, .int a3), (4, .int a4), (5, .int a5)]) rfl ?_
  intro X O E
  have B58 : ∀ (rec3 : Pk → Int32 → Int32 → Int32 → Int32 → Option (Pk)), (∀ (w_t : Pk) (y3 : Int32) (y4 : Int32) (y5 : Int32) (y6 : Int32), rec3 w_t y3 y4 y5 y6 = some v_t → BK X 8 0 0 3 ([nX4 cI cZ cQ h_t (h_w 0) w_t, nX8 cI cZ cQ h_w u_w, nX4 cI cZ cQ h_s (h_w 0) u_s]) [(0, .ref (h_t 0)), (1, .ref (h_s 0)), (3, .int y3), (4, .int y4), (5, .int y5), (6, .int y6)] []) → ∀ (w_t : Pk) (y3 : Int32) (y4 : Int32) (y5 : Int32) (y6 : Int32), fX4_addSide_b58 rec3 u_w u_s w_t y3 y4 y5 y6 = some v_t → BK X 8 0 0 58 ([nX4 cI cZ cQ h_t (h_w 0) w_t, nX8 cI cZ cQ h_w u_w, nX4 cI cZ cQ h_s (h_w 0) u_s]) [(0, .ref (h_t 0)), (1, .ref (h_s 0)), (3, .int y3), (4, .int y4), (5, .int y5), (6, .int y6)] [] := by
    intro rec3 hrec3 w_t y3 y4 y5 y6 hf
    unfold fX4_addSide_b58 at hf
    obtain ⟨x58, ex58, hf⟩ := qn_some hf
    refine r_iinc O 61 rfl x58 5 rfl (by rw [ex58]; rfl) [(6, .int x58), (0, .ref (h_t 0)), (1, .ref (h_s 0)), (3, .int y3), (4, .int y4), (5, .int y5)] dX4_addSide_58 (by decide) rfl ?_
    refine r_goto O 3 dX4_addSide_61 (by decide) ?_
    refine r_lv [1, 2, 3, 4, 5, 0] rfl ?_
    exact hrec3 _ _ _ _ _ hf
  have B3 : ∀ n : Nat, ∀ (w_t : Pk) (y3 : Int32) (y4 : Int32) (y5 : Int32) (y6 : Int32), fX4_addSide_b3 u_w u_s n w_t y3 y4 y5 y6 = some v_t → BK X 8 0 0 3 ([nX4 cI cZ cQ h_t (h_w 0) w_t, nX8 cI cZ cQ h_w u_w, nX4 cI cZ cQ h_s (h_w 0) u_s]) [(0, .ref (h_t 0)), (1, .ref (h_s 0)), (3, .int y3), (4, .int y4), (5, .int y5), (6, .int y6)] [] := by
    intro n
    induction n with
    | zero => exact fun _ _ _ _ _ hf => qno hf
    | succ n hrec3 =>
      intro w_t y3 y4 y5 y6 hf
      have hf : fX4_addSide_b3_s (fX4_addSide_b3 u_w u_s n) u_w u_s w_t y3 y4 y5 y6 = some v_t := hf
      generalize fX4_addSide_b3 u_w u_s n = rec3 at hf hrec3
      unfold fX4_addSide_b3_s at hf
      refine r_ild O 5 rfl 5 rfl dX4_addSide_3 ?_
      refine r_ild_n O 6 rfl 2 rfl dX4_addSide_5 ?_
      refine r_icmp_ge O 9 rfl 64 dX4_addSide_6 (by decide) (fun hc6 => ?_) (fun hc6 => ?_)
      · rw [if_pos hc6] at hf
        obtain g0 := qe1 hf
        exact r_vret2 O E (by rw [g0]) dX4_addSide_64
      · rw [if_neg hc6] at hf
        refine r_ald_n O 10 rfl 1 rfl dX4_addSide_9 ?_
        refine r_ild O 12 rfl 5 rfl dX4_addSide_10 ?_
        refine r_ild O 14 rfl 3 rfl dX4_addSide_12 ?_
        obtain ⟨x14, hq14, hf⟩ := qb1_some hf
        refine k_VI O 17 rfl (zX4_placeOf (l := xl X) (D := xD X) (cI := cI) (cZ := cZ) (cQ := cQ) (h_t := h_s) (h_w := h_w) hq14) (gV mlX4_58 mvX4_placeOf izX4) rfl rfl rfl hdX4_placeOf ⟨Nat.le_of_ble_eq_true rfl, Nat.le_of_ble_eq_true rfl⟩ rfl 2 rfl rfl rfl rfl (Nat.le_of_ble_eq_true rfl) ⟨Nat.zero_le _, Nat.zero_le _⟩ [2, 1] rfl rfl rfl ([nX4 cI cZ cQ h_t (h_w 0) w_t, nX8 cI cZ cQ h_w u_w, nX4 cI cZ cQ h_s (h_w 0) u_s]) rfl dX4_addSide_14 ?_
        refine r_ist O 19 rfl [(7, .int x14), (0, .ref (h_t 0)), (1, .ref (h_s 0)), (3, .int y3), (4, .int y4), (5, .int y5), (6, .int y6)] dX4_addSide_17 (by decide) rfl ?_
        refine r_ild O 21 rfl 0 rfl dX4_addSide_19 ?_
        refine r_ild O 23 rfl 5 rfl dX4_addSide_21 ?_
        refine r_icmp_ne O 26 rfl 36 dX4_addSide_23 (by decide) (fun hc23 => ?_) (fun hc23 => ?_)
        · rw [if_neg hc23] at hf
          refine r_ild O 38 rfl 0 rfl dX4_addSide_36 ?_
          refine r_ic O 39 rfl 3 (by decide) dX4_addSide_38 ?_
          refine r_icmp_ne O 42 rfl 58 dX4_addSide_39 (by decide) (fun hc39 => ?_) (fun hc39 => ?_)
          · rw [if_neg hc39] at hf
            refine r_lv [1, 2, 3, 4, 5, 6] rfl ?_
            exact B58 rec3 hrec3 _ _ _ _ _ hf
          · rw [if_pos hc39] at hf
            refine r_ild O 44 rfl 5 rfl dX4_addSide_42 ?_
            refine r_if_eq O 47 rfl 58 dX4_addSide_44 (by decide) (fun hc44 => ?_) (fun hc44 => ?_)
            · rw [if_pos hc44] at hf
              refine r_lv [1, 2, 3, 4, 5, 6] rfl ?_
              exact B58 rec3 hrec3 _ _ _ _ _ hf
            · rw [if_neg hc44] at hf
              refine r_ald_n O 48 rfl 1 rfl dX4_addSide_47 ?_
              refine r_ald_n O 49 rfl 2 rfl dX4_addSide_48 ?_
              refine r_ild O 51 rfl 6 rfl dX4_addSide_49 ?_
              refine r_ild O 53 rfl 4 rfl dX4_addSide_51 ?_
              refine r_ild O 55 rfl 5 rfl dX4_addSide_53 ?_
              obtain ⟨p55_t, hq55, hf⟩ := qb1_some hf
              refine k_VV O 58 rfl (zX4_addPart (l := xl X) (D := xD X) (cI := cI) (cZ := cZ) (cQ := cQ) (h_t := h_t) (h_w := h_w) (h_s := h_s) hq55) (gV mlX4_66 mvX4_addPart izX4) rfl rfl rfl hdX4_addPart ⟨Nat.le_of_ble_eq_true rfl, Nat.le_of_ble_eq_true rfl⟩ rfl 0 rfl rfl rfl rfl (Nat.le_of_ble_eq_true rfl) ⟨Nat.zero_le _, Nat.zero_le _⟩ [0, 1, 2] rfl rfl rfl ([nX4 cI cZ cQ h_t (h_w 0) p55_t, nX8 cI cZ cQ h_w u_w, nX4 cI cZ cQ h_s (h_w 0) u_s]) rfl dX4_addSide_55 ?_
              refine r_lv [1, 2, 3, 4, 5, 6] rfl ?_
              exact B58 rec3 hrec3 _ _ _ _ _ hf
        · rw [if_pos hc23] at hf
          refine r_ald_n O 27 rfl 1 rfl dX4_addSide_26 ?_
          refine r_ald_n O 28 rfl 2 rfl dX4_addSide_27 ?_
          refine r_ild O 30 rfl 6 rfl dX4_addSide_28 ?_
          obtain ⟨p30_t, hq30, hf⟩ := qb1_some hf
          refine k_VV O 33 rfl (zX4_addCopy (l := xl X) (D := xD X) (cI := cI) (cZ := cZ) (cQ := cQ) (h_t := h_t) (r_w := (h_w 0)) (h_s := h_s) hq30) (gV mlX4_62 mvX4_addCopy izX4) rfl rfl rfl hdX4_addCopy ⟨Nat.le_of_ble_eq_true rfl, Nat.le_of_ble_eq_true rfl⟩ rfl 0 rfl rfl rfl rfl (Nat.le_of_ble_eq_true rfl) ⟨Nat.zero_le _, Nat.zero_le _⟩ [0, 2] rfl rfl rfl ([nX4 cI cZ cQ h_t (h_w 0) p30_t, nX8 cI cZ cQ h_w u_w, nX4 cI cZ cQ h_s (h_w 0) u_s]) rfl dX4_addSide_30 ?_
          refine r_goto O 58 dX4_addSide_33 (by decide) ?_
          refine r_lv [1, 2, 3, 4, 5, 6] rfl ?_
          exact B58 rec3 hrec3 _ _ _ _ _ hf
  unfold fX4_addSide at hf
  refine r_ild_n O 1 rfl 2 rfl dX4_addSide_0 ?_
  refine r_ist O 3 rfl [(6, .int a2), (0, .ref (h_t 0)), (1, .ref (h_s 0)), (2, .int a2), (3, .int a3), (4, .int a4), (5, .int a5)] dX4_addSide_1 (by decide) rfl ?_
  refine r_lv [1, 2, 4, 5, 6, 0] rfl ?_
  exact B3 FU _ _ _ _ _ hf
