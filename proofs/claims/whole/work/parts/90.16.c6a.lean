-- X10_isWall
def rmX10_isWall : Room := { frames := 0, cells := 0, slots := 0, locals := 0 }
set_option maxHeartbeats 4000000 in
set_option maxRecDepth 100000 in
theorem zX10_isWall {l : Launch} {D : va_G} {cI cZ cQ : ClassId} {h_t : Nat → Nat} {u_t : Pk} {a1 : Int32} {r0 : Int32} (hf : fX10_isWall u_t a1 = some r0) : MZ l yX10_isWall wsX10_isWall rmX10_isWall D (TY cI cZ cQ) [.ref (h_t 0), .int a1] [nX10 cI cZ cQ h_t u_t] r0 [nX10 cI cZ cQ h_t u_t] := by
  refine MZ.of (own := RX10) (by decide +kernel) rfl rfl (Nat.le_of_ble_eq_true rfl) (lv0 := [(0, .ref (h_t 0)), (1, .int a1)]) rfl ?_
  intro X O E
  unfold fX10_isWall at hf
  refine r_ild_n O 1 rfl 1 rfl dX10_isWall_0 ?_
  refine r_if_lt O 4 rfl 27 dX10_isWall_1 (by decide) (fun hc1 => ?_) (fun hc1 => ?_)
  · rw [if_pos hc1] at hf
    refine r_ic O 28 rfl 0 (by decide) dX10_isWall_27 ?_
    obtain g0 := qe1 hf
    exact r_zret2 O E g0 rfl rfl dX10_isWall_28
  · rw [if_neg hc1] at hf
    refine r_ild_n O 5 rfl 1 rfl dX10_isWall_4 ?_
    refine r_bi O 7 rfl 12 (by decide) dX10_isWall_5 ?_
    refine r_icmp_ge O 10 rfl 27 dX10_isWall_7 (by decide) (fun hc7 => ?_) (fun hc7 => ?_)
    · rw [if_pos hc7] at hf
      refine r_ic O 28 rfl 0 (by decide) dX10_isWall_27 ?_
      obtain g0 := qe1 hf
      exact r_zret2 O E g0 rfl rfl dX10_isWall_28
    · rw [if_neg hc7] at hf
      refine r_ald_n O 11 rfl 0 rfl dX10_isWall_10 ?_
      refine r_get (ref := RX10) (C := RX10) (T := TX10) (N := 70) O 14 rfl inBX10 0 0 rfl rfl rfl (by decide) flX10_7 rfl rfl dX10_isWall_11 ?_
      refine r_bi O 16 rfl 7 (by decide) dX10_isWall_14 ?_
      refine r_ild_n O 17 rfl 1 rfl dX10_isWall_16 ?_
      refine r_imul O 18 rfl dX10_isWall_17 ?_
      obtain ⟨x18, ex18, hin18, hf⟩ := qld_some hf
      refine r_iald O 19 rfl 0 1 rfl rfl hin18 dX10_isWall_18 ?_
      rw [← ex18]
      refine r_ic O 20 rfl 1 (by decide) dX10_isWall_19 ?_
      refine r_icmp_ne O 23 rfl 27 dX10_isWall_20 (by decide) (fun hc20 => ?_) (fun hc20 => ?_)
      · rw [if_neg hc20] at hf
        refine r_ic O 28 rfl 0 (by decide) dX10_isWall_27 ?_
        obtain g0 := qe1 hf
        exact r_zret2 O E g0 rfl rfl dX10_isWall_28
      · rw [if_pos hc20] at hf
        refine r_ic O 24 rfl 1 (by decide) dX10_isWall_23 ?_
        refine r_goto O 28 dX10_isWall_24 (by decide) ?_
        obtain g0 := qe1 hf
        exact r_zret2 O E g0 rfl rfl dX10_isWall_28
-- X10_at
def rmX10_at : Room := { frames := 0, cells := 0, slots := 0, locals := 0 }
set_option maxHeartbeats 4000000 in
set_option maxRecDepth 100000 in
theorem zX10_at {l : Launch} {D : va_G} {cI cZ cQ : ClassId} {h_t : Nat → Nat} {u_t : Pk} {a1 : Int32} {a2 : Int32} {r0 : Int32} (hf : fX10_at u_t a1 a2 = some r0) : MI l yX10_at wsX10_at rmX10_at D (TY cI cZ cQ) [.ref (h_t 0), .int a1, .int a2] [nX10 cI cZ cQ h_t u_t] r0 [nX10 cI cZ cQ h_t u_t] := by
  refine MI.of (own := RX10) (by decide +kernel) rfl rfl (Nat.le_of_ble_eq_true rfl) (lv0 := [(0, .ref (h_t 0)), (1, .int a1), (2, .int a2)]) rfl ?_
  intro X O E
  unfold fX10_at at hf
  refine r_ald_n O 1 rfl 0 rfl dX10_at_0 ?_
  refine r_get (ref := RX10) (C := RX10) (T := TX10) (N := 70) O 4 rfl inBX10 0 0 rfl rfl rfl (by decide) flX10_7 rfl rfl dX10_at_1 ?_
  refine r_bi O 6 rfl 7 (by decide) dX10_at_4 ?_
  refine r_ild_n O 7 rfl 1 rfl dX10_at_6 ?_
  refine r_imul O 8 rfl dX10_at_7 ?_
  refine r_ild_n O 9 rfl 2 rfl dX10_at_8 ?_
  refine r_iadd O 10 rfl dX10_at_9 ?_
  obtain ⟨x10, ex10, hin10, hf⟩ := qld_some hf
  refine r_iald O 11 rfl 0 1 rfl rfl hin10 dX10_at_10 ?_
  rw [← ex10]
  obtain g0 := qe1 hf
  exact r_iret2 O E g0 rfl dX10_at_11
-- X10_isCoordinate
def rmX10_isCoordinate : Room := { frames := 0, cells := 0, slots := 0, locals := 0 }
set_option maxHeartbeats 4000000 in
set_option maxRecDepth 100000 in
theorem zX10_isCoordinate {l : Launch} {D : va_G} {cI cZ cQ : ClassId} {a1 : Int32} {r0 : Int32} (hf : fX10_isCoordinate a1 = some r0) : MZ l yX10_isCoordinate wsX10_isCoordinate rmX10_isCoordinate D (TY cI cZ cQ) [.int a1] [] r0 [] := by
  refine MZ.of (own := RX10) (by decide +kernel) rfl rfl (Nat.le_of_ble_eq_true rfl) (lv0 := [(0, .int a1)]) rfl ?_
  intro X O E
  unfold fX10_isCoordinate at hf
  refine r_ild_n O 1 rfl 0 rfl dX10_isCoordinate_0 ?_
  refine r_if_lt O 4 rfl 14 dX10_isCoordinate_1 (by decide) (fun hc1 => ?_) (fun hc1 => ?_)
  · rw [if_pos hc1] at hf
    refine r_ic O 15 rfl 0 (by decide) dX10_isCoordinate_14 ?_
    obtain g0 := qe1 hf
    exact r_zret2 O E g0 rfl rfl dX10_isCoordinate_15
  · rw [if_neg hc1] at hf
    refine r_ild_n O 5 rfl 0 rfl dX10_isCoordinate_4 ?_
    refine r_bi O 7 rfl 63 (by decide) dX10_isCoordinate_5 ?_
    refine r_icmp_gt O 10 rfl 14 dX10_isCoordinate_7 (by decide) (fun hc7 => ?_) (fun hc7 => ?_)
    · rw [if_pos hc7] at hf
      refine r_ic O 15 rfl 0 (by decide) dX10_isCoordinate_14 ?_
      obtain g0 := qe1 hf
      exact r_zret2 O E g0 rfl rfl dX10_isCoordinate_15
    · rw [if_neg hc7] at hf
      refine r_ic O 11 rfl 1 (by decide) dX10_isCoordinate_10 ?_
      refine r_goto O 15 dX10_isCoordinate_11 (by decide) ?_
      obtain g0 := qe1 hf
      exact r_zret2 O E g0 rfl rfl dX10_isCoordinate_15
-- X10_keep
def rmX10_keep : Room := { frames := 0, cells := 0, slots := 0, locals := 0 }
set_option maxHeartbeats 4000000 in
set_option maxRecDepth 100000 in
theorem zX10_keep {l : Launch} {D : va_G} {cI cZ cQ : ClassId} {h_t : Nat → Nat} {u_t : Pk} {v_t : Pk} (hf : fX10_keep u_t = some v_t) : MV l yX10_keep wsX10_keep rmX10_keep D (TY cI cZ cQ) [.ref (h_t 0)] [nX10 cI cZ cQ h_t u_t] [nX10 cI cZ cQ h_t v_t] := by
  refine MV.of (own := RX10) (by decide +kernel) rfl rfl (Nat.le_of_ble_eq_true rfl) (lv0 := [(0, .ref (h_t 0))]) rfl ?_
  intro X O E
  have B51 : ∀ n : Nat, ∀ (w_t : Pk) (y1 : Int32), fX10_keep_b51 n w_t y1 = some v_t → BK X 2 0 0 51 ([nX10 cI cZ cQ h_t w_t]) [(0, .ref (h_t 0)), (1, .int y1)] [] := by
    intro n
    induction n with
    | zero => exact fun _ _ hf => qno hf
    | succ n hrec51 =>
      intro w_t y1 hf
      have hf : fX10_keep_b51_s (fX10_keep_b51 n) w_t y1 = some v_t := hf
      generalize fX10_keep_b51 n = rec51 at hf hrec51
      unfold fX10_keep_b51_s at hf
      refine r_ild_n O 52 rfl 1 rfl dX10_keep_51 ?_
      refine r_bi O 54 rfl 84 (by decide) dX10_keep_52 ?_
      refine r_icmp_ge O 57 rfl 83 dX10_keep_54 (by decide) (fun hc54 => ?_) (fun hc54 => ?_)
      · rw [if_pos hc54] at hf
        refine r_ald_n O 84 rfl 0 rfl dX10_keep_83 ?_
        refine r_get (ref := RX10) (C := RX10) (T := TX10) (N := 70) O 87 rfl inBX10 0 3 rfl rfl rfl (by decide) flX10_20 rfl rfl dX10_keep_84 ?_
        refine r_bi O 89 rfl 86 (by decide) dX10_keep_87 ?_
        refine r_ald_n O 90 rfl 0 rfl dX10_keep_89 ?_
        refine r_get (ref := RX10) (C := RX10) (T := TX10) (N := 70) O 93 rfl inBX10 0 4 rfl rfl rfl (by decide) flX10_122 rfl rfl dX10_keep_90 ?_
        refine r_imul O 94 rfl dX10_keep_93 ?_
        refine r_bi O 96 rfl 84 (by decide) dX10_keep_94 ?_
        refine r_iadd O 97 rfl dX10_keep_96 ?_
        refine r_ald_n O 98 rfl 0 rfl dX10_keep_97 ?_
        refine r_get (ref := RX10) (C := RX10) (T := TX10) (N := 70) O 101 rfl inBX10 0 1 rfl rfl rfl (by decide) flX10_13 rfl rfl dX10_keep_98 ?_
        obtain ⟨hin101, hf⟩ := qst_some hf
        obtain ⟨p101_t, ep101_t, hf⟩ := qn_some hf
        refine r_iast O 102 rfl 0 2 rfl rfl hin101 ([nX10 cI cZ cQ h_t p101_t]) (by rw [ep101_t]; rfl) dX10_keep_101 ?_
        refine r_ald_n O 103 rfl 0 rfl dX10_keep_102 ?_
        refine r_get (ref := RX10) (C := RX10) (T := TX10) (N := 70) O 106 rfl inBX10 0 3 rfl rfl rfl (by decide) flX10_20 rfl rfl dX10_keep_103 ?_
        refine r_bi O 108 rfl 86 (by decide) dX10_keep_106 ?_
        refine r_ald_n O 109 rfl 0 rfl dX10_keep_108 ?_
        refine r_get (ref := RX10) (C := RX10) (T := TX10) (N := 70) O 112 rfl inBX10 0 4 rfl rfl rfl (by decide) flX10_122 rfl rfl dX10_keep_109 ?_
        refine r_imul O 113 rfl dX10_keep_112 ?_
        refine r_bi O 115 rfl 85 (by decide) dX10_keep_113 ?_
        refine r_iadd O 116 rfl dX10_keep_115 ?_
        refine r_ald_n O 117 rfl 0 rfl dX10_keep_116 ?_
        refine r_get (ref := RX10) (C := RX10) (T := TX10) (N := 70) O 120 rfl inBX10 0 2 rfl rfl rfl (by decide) flX10_17 rfl rfl dX10_keep_117 ?_
        obtain ⟨hin120, hf⟩ := qst_some hf
        obtain ⟨p120_t, ep120_t, hf⟩ := qn_some hf
        refine r_iast O 121 rfl 0 2 rfl rfl hin120 ([nX10 cI cZ cQ h_t p120_t]) (by rw [ep120_t]; rfl) dX10_keep_120 ?_
        refine r_ald_n O 122 rfl 0 rfl dX10_keep_121 ?_
        refine r_dup O 123 rfl dX10_keep_122 rfl ?_
        refine r_get (ref := RX10) (C := RX10) (T := TX10) (N := 70) O 126 rfl inBX10 0 4 rfl rfl rfl (by decide) flX10_122 rfl rfl dX10_keep_123 ?_
        refine r_ic O 127 rfl 1 (by decide) dX10_keep_126 ?_
        refine r_iadd O 128 rfl dX10_keep_127 ?_
        obtain ⟨p128_t, ep128_t, hf⟩ := qn_some hf
        refine r_put (ref := RX10) (C := RX10) (T := TX10) (N := 70) O 131 rfl inBX10 tyX10 tyX10_ok nmX10 0 4 rfl rfl rfl (by decide) flX10_122 rfl rfl rfl rfl (Nat.le_of_ble_eq_true rfl) ([nX10 cI cZ cQ h_t p128_t]) (by rw [ep128_t]; rfl) dX10_keep_128 ?_
        obtain g0 := qe1 hf
        exact r_vret2 O E (by rw [g0]) dX10_keep_131
      · rw [if_neg hc54] at hf
        refine r_ald_n O 58 rfl 0 rfl dX10_keep_57 ?_
        refine r_get (ref := RX10) (C := RX10) (T := TX10) (N := 70) O 61 rfl inBX10 0 3 rfl rfl rfl (by decide) flX10_20 rfl rfl dX10_keep_58 ?_
        refine r_bi O 63 rfl 86 (by decide) dX10_keep_61 ?_
        refine r_ald_n O 64 rfl 0 rfl dX10_keep_63 ?_
        refine r_get (ref := RX10) (C := RX10) (T := TX10) (N := 70) O 67 rfl inBX10 0 4 rfl rfl rfl (by decide) flX10_122 rfl rfl dX10_keep_64 ?_
        refine r_imul O 68 rfl dX10_keep_67 ?_
        refine r_ild_n O 69 rfl 1 rfl dX10_keep_68 ?_
        refine r_iadd O 70 rfl dX10_keep_69 ?_
        refine r_ald_n O 71 rfl 0 rfl dX10_keep_70 ?_
        refine r_get (ref := RX10) (C := RX10) (T := TX10) (N := 70) O 74 rfl inBX10 0 0 rfl rfl rfl (by decide) flX10_7 rfl rfl dX10_keep_71 ?_
        refine r_ild_n O 75 rfl 1 rfl dX10_keep_74 ?_
        obtain ⟨x75, ex75, hin75, hf⟩ := qld_some hf
        refine r_iald O 76 rfl 0 1 rfl rfl hin75 dX10_keep_75 ?_
        rw [← ex75]
        obtain ⟨hin76, hf⟩ := qst_some hf
        obtain ⟨p76_t, ep76_t, hf⟩ := qn_some hf
        refine r_iast O 77 rfl 0 2 rfl rfl hin76 ([nX10 cI cZ cQ h_t p76_t]) (by rw [ep76_t]; rfl) dX10_keep_76 ?_
        obtain ⟨x77, ex77, hf⟩ := qn_some hf
        refine r_iinc O 80 rfl x77 1 rfl (by rw [ex77]; rfl) [(1, .int x77), (0, .ref (h_t 0))] dX10_keep_77 (by decide) rfl ?_
        refine r_goto O 51 dX10_keep_80 (by decide) ?_
        refine r_lv [1, 0] rfl ?_
        exact hrec51 _ _ hf
  have B49 : ∀ (w_t : Pk), fX10_keep_b49 w_t = some v_t → BK X 2 0 0 49 ([nX10 cI cZ cQ h_t w_t]) [(0, .ref (h_t 0))] [] := by
    intro w_t hf
    unfold fX10_keep_b49 at hf
    refine r_ic O 50 rfl 0 (by decide) dX10_keep_49 ?_
    refine r_ist_n O 51 rfl rfl [(1, .int 0), (0, .ref (h_t 0))] dX10_keep_50 (by decide) rfl ?_
    refine r_lv [1, 0] rfl ?_
    exact B51 FU _ _ hf
  have B11 : ∀ n : Nat, ∀ (w_t : Pk) (y1 : Int32), fX10_keep_b11 n w_t y1 = some v_t → BK X 2 0 0 11 ([nX10 cI cZ cQ h_t w_t]) [(0, .ref (h_t 0)), (1, .int y1)] [] := by
    intro n
    induction n with
    | zero => exact fun _ _ hf => qno hf
    | succ n hrec11 =>
      intro w_t y1 hf
      have hf : fX10_keep_b11_s (fX10_keep_b11 n) w_t y1 = some v_t := hf
      generalize fX10_keep_b11 n = rec11 at hf hrec11
      unfold fX10_keep_b11_s at hf
      refine r_ild_n O 12 rfl 1 rfl dX10_keep_11 ?_
      refine r_si O 15 rfl 602 (by decide) dX10_keep_12 ?_
      refine r_icmp_ge O 18 rfl 39 dX10_keep_15 (by decide) (fun hc15 => ?_) (fun hc15 => ?_)
      · rw [if_pos hc15] at hf
        refine r_ald_n O 40 rfl 0 rfl dX10_keep_39 ?_
        refine r_dup O 41 rfl dX10_keep_40 rfl ?_
        refine r_get (ref := RX10) (C := RX10) (T := TX10) (N := 70) O 44 rfl inBX10 0 4 rfl rfl rfl (by decide) flX10_122 rfl rfl dX10_keep_41 ?_
        refine r_ic O 45 rfl 1 (by decide) dX10_keep_44 ?_
        refine r_isub O 46 rfl dX10_keep_45 ?_
        obtain ⟨p46_t, ep46_t, hf⟩ := qn_some hf
        refine r_put (ref := RX10) (C := RX10) (T := TX10) (N := 70) O 49 rfl inBX10 tyX10 tyX10_ok nmX10 0 4 rfl rfl rfl (by decide) flX10_122 rfl rfl rfl rfl (Nat.le_of_ble_eq_true rfl) ([nX10 cI cZ cQ h_t p46_t]) (by rw [ep46_t]; rfl) dX10_keep_46 ?_
        refine r_lv [0] rfl ?_
        exact B49 _ hf
      · rw [if_neg hc15] at hf
        refine r_ald_n O 19 rfl 0 rfl dX10_keep_18 ?_
        refine r_get (ref := RX10) (C := RX10) (T := TX10) (N := 70) O 22 rfl inBX10 0 3 rfl rfl rfl (by decide) flX10_20 rfl rfl dX10_keep_19 ?_
        refine r_ild_n O 23 rfl 1 rfl dX10_keep_22 ?_
        refine r_ald_n O 24 rfl 0 rfl dX10_keep_23 ?_
        refine r_get (ref := RX10) (C := RX10) (T := TX10) (N := 70) O 27 rfl inBX10 0 3 rfl rfl rfl (by decide) flX10_20 rfl rfl dX10_keep_24 ?_
        refine r_ild_n O 28 rfl 1 rfl dX10_keep_27 ?_
        refine r_bi O 30 rfl 86 (by decide) dX10_keep_28 ?_
        refine r_iadd O 31 rfl dX10_keep_30 ?_
        obtain ⟨x31, ex31, hin31, hf⟩ := qld_some hf
        refine r_iald O 32 rfl 0 2 rfl rfl hin31 dX10_keep_31 ?_
        rw [← ex31]
        obtain ⟨hin32, hf⟩ := qst_some hf
        obtain ⟨p32_t, ep32_t, hf⟩ := qn_some hf
        refine r_iast O 33 rfl 0 2 rfl rfl hin32 ([nX10 cI cZ cQ h_t p32_t]) (by rw [ep32_t]; rfl) dX10_keep_32 ?_
        obtain ⟨x33, ex33, hf⟩ := qn_some hf
        refine r_iinc O 36 rfl x33 1 rfl (by rw [ex33]; rfl) [(1, .int x33), (0, .ref (h_t 0))] dX10_keep_33 (by decide) rfl ?_
        refine r_goto O 11 dX10_keep_36 (by decide) ?_
        refine r_lv [1, 0] rfl ?_
        exact hrec11 _ _ hf
  unfold fX10_keep at hf
  refine r_ald_n O 1 rfl 0 rfl dX10_keep_0 ?_
  refine r_get (ref := RX10) (C := RX10) (T := TX10) (N := 70) O 4 rfl inBX10 0 4 rfl rfl rfl (by decide) flX10_122 rfl rfl dX10_keep_1 ?_
  refine r_bi O 6 rfl 8 (by decide) dX10_keep_4 ?_
  refine r_icmp_ne O 9 rfl 49 dX10_keep_6 (by decide) (fun hc6 => ?_) (fun hc6 => ?_)
  · rw [if_neg hc6] at hf
    exact B49 _ hf
  · rw [if_pos hc6] at hf
    refine r_ic O 10 rfl 0 (by decide) dX10_keep_9 ?_
    refine r_ist_n O 11 rfl rfl [(1, .int 0), (0, .ref (h_t 0))] dX10_keep_10 (by decide) rfl ?_
    refine r_lv [1, 0] rfl ?_
    exact B11 FU _ _ hf
-- X10_lay
def rmX10_lay : Room := { frames := 0, cells := 0, slots := 0, locals := 0 }
set_option maxHeartbeats 4000000 in
set_option maxRecDepth 100000 in
theorem zX10_lay {l : Launch} {D : va_G} {cI cZ cQ : ClassId} {h_t : Nat → Nat} {u_t : Pk} {a1 : Int32} {a2 : Int32} {a3 : Int32} {a4 : Int32} {a5 : Int32} {a6 : Int32} {a7 : Int32} {v_t : Pk} (hf : fX10_lay u_t a1 a2 a3 a4 a5 a6 a7 = some v_t) : MV l yX10_lay wsX10_lay rmX10_lay D (TY cI cZ cQ) [.ref (h_t 0), .int a1, .int a2, .int a3, .int a4, .int a5, .int a6, .int a7] [nX10 cI cZ cQ h_t u_t] [nX10 cI cZ cQ h_t v_t] := by
  refine MV.of (own := RX10) (by decide +kernel) rfl rfl (Nat.le_of_ble_eq_true rfl) (lv0 := [(0, .ref (h_t 0)), (1, .int a1), (2, .int a2), (3, .int a3), (4, .int a4), (5, .int a5), (6, .int a6), (7, .int a7)]) rfl ?_
  intro X O E
  unfold fX10_lay at hf
  refine r_ald_n O 1 rfl 0 rfl dX10_lay_0 ?_
  refine r_get (ref := RX10) (C := RX10) (T := TX10) (N := 70) O 4 rfl inBX10 0 0 rfl rfl rfl (by decide) flX10_7 rfl rfl dX10_lay_1 ?_
  refine r_bi O 6 rfl 7 (by decide) dX10_lay_4 ?_
  refine r_ild_n O 7 rfl 1 rfl dX10_lay_6 ?_
  refine r_imul O 8 rfl dX10_lay_7 ?_
  refine r_ic O 9 rfl 1 (by decide) dX10_lay_8 ?_
  obtain ⟨hin9, hf⟩ := qst_some hf
  obtain ⟨p9_t, ep9_t, hf⟩ := qn_some hf
  refine r_iast O 10 rfl 0 1 rfl rfl hin9 ([nX10 cI cZ cQ h_t p9_t]) (by rw [ep9_t]; rfl) dX10_lay_9 ?_
  refine r_ald_n O 11 rfl 0 rfl dX10_lay_10 ?_
  refine r_get (ref := RX10) (C := RX10) (T := TX10) (N := 70) O 14 rfl inBX10 0 0 rfl rfl rfl (by decide) flX10_7 rfl rfl dX10_lay_11 ?_
  refine r_bi O 16 rfl 7 (by decide) dX10_lay_14 ?_
  refine r_ild_n O 17 rfl 1 rfl dX10_lay_16 ?_
  refine r_imul O 18 rfl dX10_lay_17 ?_
  refine r_ic O 19 rfl 1 (by decide) dX10_lay_18 ?_
  refine r_iadd O 20 rfl dX10_lay_19 ?_
  refine r_ild_n O 21 rfl 2 rfl dX10_lay_20 ?_
  obtain ⟨hin21, hf⟩ := qst_some hf
  obtain ⟨p21_t, ep21_t, hf⟩ := qn_some hf
  refine r_iast O 22 rfl 0 1 rfl rfl hin21 ([nX10 cI cZ cQ h_t p21_t]) (by rw [ep21_t]; rfl) dX10_lay_21 ?_
  refine r_ald_n O 23 rfl 0 rfl dX10_lay_22 ?_
  refine r_get (ref := RX10) (C := RX10) (T := TX10) (N := 70) O 26 rfl inBX10 0 0 rfl rfl rfl (by decide) flX10_7 rfl rfl dX10_lay_23 ?_
  refine r_bi O 28 rfl 7 (by decide) dX10_lay_26 ?_
  refine r_ild_n O 29 rfl 1 rfl dX10_lay_28 ?_
  refine r_imul O 30 rfl dX10_lay_29 ?_
  refine r_ic O 31 rfl 2 (by decide) dX10_lay_30 ?_
  refine r_iadd O 32 rfl dX10_lay_31 ?_
  refine r_ild_n O 33 rfl 3 rfl dX10_lay_32 ?_
  obtain ⟨hin33, hf⟩ := qst_some hf
  obtain ⟨p33_t, ep33_t, hf⟩ := qn_some hf
  refine r_iast O 34 rfl 0 1 rfl rfl hin33 ([nX10 cI cZ cQ h_t p33_t]) (by rw [ep33_t]; rfl) dX10_lay_33 ?_
  refine r_ald_n O 35 rfl 0 rfl dX10_lay_34 ?_
  refine r_get (ref := RX10) (C := RX10) (T := TX10) (N := 70) O 38 rfl inBX10 0 0 rfl rfl rfl (by decide) flX10_7 rfl rfl dX10_lay_35 ?_
  refine r_bi O 40 rfl 7 (by decide) dX10_lay_38 ?_
  refine r_ild_n O 41 rfl 1 rfl dX10_lay_40 ?_
  refine r_imul O 42 rfl dX10_lay_41 ?_
  refine r_ic O 43 rfl 3 (by decide) dX10_lay_42 ?_
  refine r_iadd O 44 rfl dX10_lay_43 ?_
  refine r_ild O 46 rfl 4 rfl dX10_lay_44 ?_
  obtain ⟨hin46, hf⟩ := qst_some hf
  obtain ⟨p46_t, ep46_t, hf⟩ := qn_some hf
  refine r_iast O 47 rfl 0 1 rfl rfl hin46 ([nX10 cI cZ cQ h_t p46_t]) (by rw [ep46_t]; rfl) dX10_lay_46 ?_
  refine r_ald_n O 48 rfl 0 rfl dX10_lay_47 ?_
  refine r_get (ref := RX10) (C := RX10) (T := TX10) (N := 70) O 51 rfl inBX10 0 0 rfl rfl rfl (by decide) flX10_7 rfl rfl dX10_lay_48 ?_
  refine r_bi O 53 rfl 7 (by decide) dX10_lay_51 ?_
  refine r_ild_n O 54 rfl 1 rfl dX10_lay_53 ?_
  refine r_imul O 55 rfl dX10_lay_54 ?_
  refine r_ic O 56 rfl 4 (by decide) dX10_lay_55 ?_
  refine r_iadd O 57 rfl dX10_lay_56 ?_
  refine r_ild O 59 rfl 5 rfl dX10_lay_57 ?_
  obtain ⟨hin59, hf⟩ := qst_some hf
  obtain ⟨p59_t, ep59_t, hf⟩ := qn_some hf
  refine r_iast O 60 rfl 0 1 rfl rfl hin59 ([nX10 cI cZ cQ h_t p59_t]) (by rw [ep59_t]; rfl) dX10_lay_59 ?_
  refine r_ald_n O 61 rfl 0 rfl dX10_lay_60 ?_
  refine r_get (ref := RX10) (C := RX10) (T := TX10) (N := 70) O 64 rfl inBX10 0 0 rfl rfl rfl (by decide) flX10_7 rfl rfl dX10_lay_61 ?_
  refine r_bi O 66 rfl 7 (by decide) dX10_lay_64 ?_
  refine r_ild_n O 67 rfl 1 rfl dX10_lay_66 ?_
  refine r_imul O 68 rfl dX10_lay_67 ?_
  refine r_ic O 69 rfl 5 (by decide) dX10_lay_68 ?_
  refine r_iadd O 70 rfl dX10_lay_69 ?_
  refine r_ild O 72 rfl 6 rfl dX10_lay_70 ?_
  obtain ⟨hin72, hf⟩ := qst_some hf
  obtain ⟨p72_t, ep72_t, hf⟩ := qn_some hf
  refine r_iast O 73 rfl 0 1 rfl rfl hin72 ([nX10 cI cZ cQ h_t p72_t]) (by rw [ep72_t]; rfl) dX10_lay_72 ?_
  refine r_ald_n O 74 rfl 0 rfl dX10_lay_73 ?_
  refine r_get (ref := RX10) (C := RX10) (T := TX10) (N := 70) O 77 rfl inBX10 0 0 rfl rfl rfl (by decide) flX10_7 rfl rfl dX10_lay_74 ?_
  refine r_bi O 79 rfl 7 (by decide) dX10_lay_77 ?_
  refine r_ild_n O 80 rfl 1 rfl dX10_lay_79 ?_
  refine r_imul O 81 rfl dX10_lay_80 ?_
  refine r_bi O 83 rfl 6 (by decide) dX10_lay_81 ?_
  refine r_iadd O 84 rfl dX10_lay_83 ?_
  refine r_ild O 86 rfl 7 rfl dX10_lay_84 ?_
  obtain ⟨hin86, hf⟩ := qst_some hf
  obtain ⟨p86_t, ep86_t, hf⟩ := qn_some hf
  refine r_iast O 87 rfl 0 1 rfl rfl hin86 ([nX10 cI cZ cQ h_t p86_t]) (by rw [ep86_t]; rfl) dX10_lay_86 ?_
  obtain g0 := qe1 hf
  exact r_vret2 O E (by rw [g0]) dX10_lay_87
-- X10_addWall
def rmX10_addWall : Room := { frames := 1, cells := 0, slots := 0, locals := 27 }
set_option maxHeartbeats 4000000 in
set_option maxRecDepth 100000 in
theorem zX10_addWall {l : Launch} {D : va_G} {cI cZ cQ : ClassId} {h_t : Nat → Nat} {u_t : Pk} {a1 : Int32} {a2 : Int32} {a3 : Int32} {a4 : Int32} {a5 : Int32} {a6 : Int32} {r0 : Int32} {v_t : Pk} (hf : fX10_addWall u_t a1 a2 a3 a4 a5 a6 = some (r0, v_t)) : MI l yX10_addWall wsX10_addWall rmX10_addWall D (TY cI cZ cQ) [.ref (h_t 0), .int a1, .int a2, .int a3, .int a4, .int a5, .int a6] [nX10 cI cZ cQ h_t u_t] r0 [nX10 cI cZ cQ h_t v_t] := by
  refine MI.of (own := RX10) (by decide +kernel) rfl rfl (Nat.le_of_ble_eq_true rfl) (lv0 := [(0, .ref (h_t 0)), (1, .int a1), (2, .int a2), (3, .int a3), (4, .int a4), (5, .int a5), (6, .int a6)]) rfl ?_
  intro X O E
  have B95 : ∀ (w_t : Pk) (y1 : Int32) (y2 : Int32) (y3 : Int32) (y4 : Int32) (y5 : Int32) (y6 : Int32) (y7 : Int32), fX10_addWall_b95 w_t y1 y2 y3 y4 y5 y6 y7 = some (r0, v_t) → BK X 8 0 0 95 ([nX10 cI cZ cQ h_t w_t]) [(0, .ref (h_t 0)), (1, .int y1), (2, .int y2), (3, .int y3), (4, .int y4), (5, .int y5), (6, .int y6), (7, .int y7)] [] := by
    intro w_t y1 y2 y3 y4 y5 y6 y7 hf
    unfold fX10_addWall_b95 at hf
    refine r_ild O 97 rfl 7 rfl dX10_addWall_95 ?_
    refine r_bi O 99 rfl 12 (by decide) dX10_addWall_97 ?_
    refine r_icmp_ne O 102 rfl 105 dX10_addWall_99 (by decide) (fun hc99 => ?_) (fun hc99 => ?_)
    · rw [if_neg hc99] at hf
      refine r_ald_n O 106 rfl 0 rfl dX10_addWall_105 ?_
      obtain ⟨p106_t, hq106, hf⟩ := qb1_some hf
      refine k_VV O 109 rfl (zX10_keep (l := xl X) (D := xD X) (cI := cI) (cZ := cZ) (cQ := cQ) (h_t := h_t) hq106) (gV mlX10_133 mvX10_keep izX10) rfl rfl rfl hdX10_keep ⟨Nat.le_of_ble_eq_true rfl, Nat.le_of_ble_eq_true rfl⟩ rfl 0 rfl rfl rfl rfl (Nat.le_of_ble_eq_true rfl) ⟨Nat.zero_le _, Nat.zero_le _⟩ [0] rfl rfl rfl ([nX10 cI cZ cQ h_t p106_t]) rfl dX10_addWall_106 ?_
      refine r_ald_n O 110 rfl 0 rfl dX10_addWall_109 ?_
      refine r_ild O 112 rfl 7 rfl dX10_addWall_110 ?_
      refine r_ild_n O 113 rfl 1 rfl dX10_addWall_112 ?_
      refine r_ild_n O 114 rfl 2 rfl dX10_addWall_113 ?_
      refine r_ild_n O 115 rfl 3 rfl dX10_addWall_114 ?_
      refine r_ild O 117 rfl 4 rfl dX10_addWall_115 ?_
      refine r_ild O 119 rfl 5 rfl dX10_addWall_117 ?_
      refine r_ild O 121 rfl 6 rfl dX10_addWall_119 ?_
      obtain ⟨p121_t, hq121, hf⟩ := qb1_some hf
      refine k_VV O 124 rfl (zX10_lay (l := xl X) (D := xD X) (cI := cI) (cZ := cZ) (cQ := cQ) (h_t := h_t) hq121) (gV mlX10_136 mvX10_lay izX10) rfl rfl rfl hdX10_lay ⟨Nat.le_of_ble_eq_true rfl, Nat.le_of_ble_eq_true rfl⟩ rfl 0 rfl rfl rfl rfl (Nat.le_of_ble_eq_true rfl) ⟨Nat.zero_le _, Nat.zero_le _⟩ [0] rfl rfl rfl ([nX10 cI cZ cQ h_t p121_t]) rfl dX10_addWall_121 ?_
      refine r_ild O 126 rfl 7 rfl dX10_addWall_124 ?_
      obtain ⟨g0, g1⟩ := qe2 hf
      exact r_iret2 O E g0 (by rw [g1]) dX10_addWall_126
    · rw [if_pos hc99] at hf
      refine r_bi O 104 rfl (-3) (by decide) dX10_addWall_102 ?_
      obtain ⟨g0, g1⟩ := qe2 hf
      exact r_iret2 O E g0 (by rw [g1]) dX10_addWall_104
  have B71 : ∀ n : Nat, ∀ (w_t : Pk) (y1 : Int32) (y2 : Int32) (y3 : Int32) (y4 : Int32) (y5 : Int32) (y6 : Int32) (y7 : Int32), fX10_addWall_b71 n w_t y1 y2 y3 y4 y5 y6 y7 = some (r0, v_t) → BK X 8 0 0 71 ([nX10 cI cZ cQ h_t w_t]) [(0, .ref (h_t 0)), (1, .int y1), (2, .int y2), (3, .int y3), (4, .int y4), (5, .int y5), (6, .int y6), (7, .int y7)] [] := by
    intro n
    induction n with
    | zero => exact fun _ _ _ _ _ _ _ _ hf => qno hf
    | succ n hrec71 =>
      intro w_t y1 y2 y3 y4 y5 y6 y7 hf
      have hf : fX10_addWall_b71_s (fX10_addWall_b71 n) w_t y1 y2 y3 y4 y5 y6 y7 = some (r0, v_t) := hf
      generalize fX10_addWall_b71 n = rec71 at hf hrec71
      unfold fX10_addWall_b71_s at hf
      refine r_ild O 73 rfl 7 rfl dX10_addWall_71 ?_
      refine r_bi O 75 rfl 12 (by decide) dX10_addWall_73 ?_
      refine r_icmp_ge O 78 rfl 95 dX10_addWall_75 (by decide) (fun hc75 => ?_) (fun hc75 => ?_)
      · rw [if_pos hc75] at hf
        exact B95 _ _ _ _ _ _ _ _ hf
      · rw [if_neg hc75] at hf
        refine r_ald_n O 79 rfl 0 rfl dX10_addWall_78 ?_
        refine r_ild O 81 rfl 7 rfl dX10_addWall_79 ?_
        refine r_ic O 82 rfl 0 (by decide) dX10_addWall_81 ?_
        obtain ⟨x82, hq82, hf⟩ := qb1_some hf
        refine k_VI O 85 rfl (zX10_at (l := xl X) (D := xD X) (cI := cI) (cZ := cZ) (cQ := cQ) (h_t := h_t) hq82) (gV mlX10_129 mvX10_at izX10) rfl rfl rfl hdX10_at ⟨Nat.le_of_ble_eq_true rfl, Nat.le_of_ble_eq_true rfl⟩ rfl 0 rfl rfl rfl rfl (Nat.le_of_ble_eq_true rfl) ⟨Nat.zero_le _, Nat.zero_le _⟩ [0] rfl rfl rfl ([nX10 cI cZ cQ h_t w_t]) rfl dX10_addWall_82 ?_
        refine r_ic O 86 rfl 1 (by decide) dX10_addWall_85 ?_
        refine r_icmp_ne O 89 rfl 95 dX10_addWall_86 (by decide) (fun hc86 => ?_) (fun hc86 => ?_)
        · rw [if_neg hc86] at hf
          exact B95 _ _ _ _ _ _ _ _ hf
        · rw [if_pos hc86] at hf
          obtain ⟨x89, ex89, hf⟩ := qn_some hf
          refine r_iinc O 92 rfl x89 7 rfl (by rw [ex89]; rfl) [(7, .int x89), (0, .ref (h_t 0)), (1, .int y1), (2, .int y2), (3, .int y3), (4, .int y4), (5, .int y5), (6, .int y6)] dX10_addWall_89 (by decide) rfl ?_
          refine r_goto O 71 dX10_addWall_92 (by decide) ?_
          refine r_lv [1, 2, 3, 4, 5, 6, 7, 0] rfl ?_
          exact hrec71 _ _ _ _ _ _ _ _ hf
  have B68 : ∀ (w_t : Pk) (y1 : Int32) (y2 : Int32) (y3 : Int32) (y4 : Int32) (y5 : Int32) (y6 : Int32), fX10_addWall_b68 w_t y1 y2 y3 y4 y5 y6 = some (r0, v_t) → BK X 8 0 0 68 ([nX10 cI cZ cQ h_t w_t]) [(0, .ref (h_t 0)), (1, .int y1), (2, .int y2), (3, .int y3), (4, .int y4), (5, .int y5), (6, .int y6)] [] := by
    intro w_t y1 y2 y3 y4 y5 y6 hf
    unfold fX10_addWall_b68 at hf
    refine r_ic O 69 rfl 0 (by decide) dX10_addWall_68 ?_
    refine r_ist O 71 rfl [(7, .int 0), (0, .ref (h_t 0)), (1, .int y1), (2, .int y2), (3, .int y3), (4, .int y4), (5, .int y5), (6, .int y6)] dX10_addWall_69 (by decide) rfl ?_
    refine r_lv [1, 2, 3, 4, 5, 6, 7, 0] rfl ?_
    exact B71 FU _ _ _ _ _ _ _ _ hf
  unfold fX10_addWall at hf
  refine r_ild_n O 1 rfl 1 rfl dX10_addWall_0 ?_
  obtain ⟨x1, hq1, hf⟩ := qb1_some hf
  refine k_SZ O 4 rfl (zX10_isCoordinate (l := xl X) (D := xD X) (cI := cI) (cZ := cZ) (cQ := cQ) hq1) (gS mlX10_125 mvX10_isCoordinate izX10) rfl rfl rfl hdX10_isCoordinate ⟨Nat.le_of_ble_eq_true rfl, Nat.le_of_ble_eq_true rfl⟩ rfl rfl (Nat.le_of_ble_eq_true rfl) ⟨Nat.zero_le _, Nat.zero_le _⟩ [] rfl rfl rfl ([nX10 cI cZ cQ h_t u_t]) rfl dX10_addWall_1 (fun hz1 => ?_)
  refine r_if_eq O 7 rfl 51 dX10_addWall_4 (by decide) (fun hc4 => ?_) (fun hc4 => ?_)
  · rw [if_pos hc4] at hf
    refine r_bi O 53 rfl (-2) (by decide) dX10_addWall_51 ?_
    obtain ⟨g0, g1⟩ := qe2 hf
    exact r_iret2 O E g0 (by rw [g1]) dX10_addWall_53
  · rw [if_neg hc4] at hf
    refine r_ild_n O 8 rfl 2 rfl dX10_addWall_7 ?_
    obtain ⟨x8, hq8, hf⟩ := qb1_some hf
    refine k_SZ O 11 rfl (zX10_isCoordinate (l := xl X) (D := xD X) (cI := cI) (cZ := cZ) (cQ := cQ) hq8) (gS mlX10_125 mvX10_isCoordinate izX10) rfl rfl rfl hdX10_isCoordinate ⟨Nat.le_of_ble_eq_true rfl, Nat.le_of_ble_eq_true rfl⟩ rfl rfl (Nat.le_of_ble_eq_true rfl) ⟨Nat.zero_le _, Nat.zero_le _⟩ [] rfl rfl rfl ([nX10 cI cZ cQ h_t u_t]) rfl dX10_addWall_8 (fun hz8 => ?_)
    refine r_if_eq O 14 rfl 51 dX10_addWall_11 (by decide) (fun hc11 => ?_) (fun hc11 => ?_)
    · rw [if_pos hc11] at hf
      refine r_bi O 53 rfl (-2) (by decide) dX10_addWall_51 ?_
      obtain ⟨g0, g1⟩ := qe2 hf
      exact r_iret2 O E g0 (by rw [g1]) dX10_addWall_53
    · rw [if_neg hc11] at hf
      refine r_ild_n O 15 rfl 3 rfl dX10_addWall_14 ?_
      obtain ⟨x15, hq15, hf⟩ := qb1_some hf
      refine k_SZ O 18 rfl (zX10_isCoordinate (l := xl X) (D := xD X) (cI := cI) (cZ := cZ) (cQ := cQ) hq15) (gS mlX10_125 mvX10_isCoordinate izX10) rfl rfl rfl hdX10_isCoordinate ⟨Nat.le_of_ble_eq_true rfl, Nat.le_of_ble_eq_true rfl⟩ rfl rfl (Nat.le_of_ble_eq_true rfl) ⟨Nat.zero_le _, Nat.zero_le _⟩ [] rfl rfl rfl ([nX10 cI cZ cQ h_t u_t]) rfl dX10_addWall_15 (fun hz15 => ?_)
      refine r_if_eq O 21 rfl 51 dX10_addWall_18 (by decide) (fun hc18 => ?_) (fun hc18 => ?_)
      · rw [if_pos hc18] at hf
        refine r_bi O 53 rfl (-2) (by decide) dX10_addWall_51 ?_
        obtain ⟨g0, g1⟩ := qe2 hf
        exact r_iret2 O E g0 (by rw [g1]) dX10_addWall_53
      · rw [if_neg hc18] at hf
        refine r_ild O 23 rfl 4 rfl dX10_addWall_21 ?_
        obtain ⟨x23, hq23, hf⟩ := qb1_some hf
        refine k_SZ O 26 rfl (zX10_isCoordinate (l := xl X) (D := xD X) (cI := cI) (cZ := cZ) (cQ := cQ) hq23) (gS mlX10_125 mvX10_isCoordinate izX10) rfl rfl rfl hdX10_isCoordinate ⟨Nat.le_of_ble_eq_true rfl, Nat.le_of_ble_eq_true rfl⟩ rfl rfl (Nat.le_of_ble_eq_true rfl) ⟨Nat.zero_le _, Nat.zero_le _⟩ [] rfl rfl rfl ([nX10 cI cZ cQ h_t u_t]) rfl dX10_addWall_23 (fun hz23 => ?_)
        refine r_if_eq O 29 rfl 51 dX10_addWall_26 (by decide) (fun hc26 => ?_) (fun hc26 => ?_)
        · rw [if_pos hc26] at hf
          refine r_bi O 53 rfl (-2) (by decide) dX10_addWall_51 ?_
          obtain ⟨g0, g1⟩ := qe2 hf
          exact r_iret2 O E g0 (by rw [g1]) dX10_addWall_53
        · rw [if_neg hc26] at hf
          refine r_ild O 31 rfl 5 rfl dX10_addWall_29 ?_
          refine r_if_lt O 34 rfl 51 dX10_addWall_31 (by decide) (fun hc31 => ?_) (fun hc31 => ?_)
          · rw [if_pos hc31] at hf
            refine r_bi O 53 rfl (-2) (by decide) dX10_addWall_51 ?_
            obtain ⟨g0, g1⟩ := qe2 hf
            exact r_iret2 O E g0 (by rw [g1]) dX10_addWall_53
          · rw [if_neg hc31] at hf
            refine r_ild O 36 rfl 5 rfl dX10_addWall_34 ?_
            refine r_ic O 37 rfl 2 (by decide) dX10_addWall_36 ?_
            refine r_icmp_gt O 40 rfl 51 dX10_addWall_37 (by decide) (fun hc37 => ?_) (fun hc37 => ?_)
            · rw [if_pos hc37] at hf
              refine r_bi O 53 rfl (-2) (by decide) dX10_addWall_51 ?_
              obtain ⟨g0, g1⟩ := qe2 hf
              exact r_iret2 O E g0 (by rw [g1]) dX10_addWall_53
            · rw [if_neg hc37] at hf
              refine r_ild O 42 rfl 6 rfl dX10_addWall_40 ?_
              refine r_if_lt O 45 rfl 51 dX10_addWall_42 (by decide) (fun hc42 => ?_) (fun hc42 => ?_)
              · rw [if_pos hc42] at hf
                refine r_bi O 53 rfl (-2) (by decide) dX10_addWall_51 ?_
                obtain ⟨g0, g1⟩ := qe2 hf
                exact r_iret2 O E g0 (by rw [g1]) dX10_addWall_53
              · rw [if_neg hc42] at hf
                refine r_ild O 47 rfl 6 rfl dX10_addWall_45 ?_
                refine r_ic O 48 rfl 1 (by decide) dX10_addWall_47 ?_
                refine r_icmp_le O 51 rfl 54 dX10_addWall_48 (by decide) (fun hc48 => ?_) (fun hc48 => ?_)
                · rw [if_pos hc48] at hf
                  refine r_ild_n O 55 rfl 1 rfl dX10_addWall_54 ?_
                  refine r_ild_n O 56 rfl 3 rfl dX10_addWall_55 ?_
                  refine r_icmp_ne O 59 rfl 68 dX10_addWall_56 (by decide) (fun hc56 => ?_) (fun hc56 => ?_)
                  · rw [if_neg hc56] at hf
                    exact B68 _ _ _ _ _ _ _ hf
                  · rw [if_pos hc56] at hf
                    refine r_ild_n O 60 rfl 2 rfl dX10_addWall_59 ?_
                    refine r_ild O 62 rfl 4 rfl dX10_addWall_60 ?_
                    refine r_icmp_ne O 65 rfl 68 dX10_addWall_62 (by decide) (fun hc62 => ?_) (fun hc62 => ?_)
                    · rw [if_neg hc62] at hf
                      exact B68 _ _ _ _ _ _ _ hf
                    · rw [if_pos hc62] at hf
                      refine r_bi O 67 rfl (-4) (by decide) dX10_addWall_65 ?_
                      obtain ⟨g0, g1⟩ := qe2 hf
                      exact r_iret2 O E g0 (by rw [g1]) dX10_addWall_67
                · rw [if_neg hc48] at hf
                  refine r_bi O 53 rfl (-2) (by decide) dX10_addWall_51 ?_
                  obtain ⟨g0, g1⟩ := qe2 hf
                  exact r_iret2 O E g0 (by rw [g1]) dX10_addWall_53
-- X10_wallCount
def rmX10_wallCount : Room := { frames := 1, cells := 0, slots := 0, locals := 22 }
set_option maxHeartbeats 4000000 in
set_option maxRecDepth 100000 in
theorem zX10_wallCount {l : Launch} {D : va_G} {cI cZ cQ : ClassId} {h_t : Nat → Nat} {u_t : Pk} {r0 : Int32} (hf : fX10_wallCount u_t = some r0) : MI l yX10_wallCount wsX10_wallCount rmX10_wallCount D (TY cI cZ cQ) [.ref (h_t 0)] [nX10 cI cZ cQ h_t u_t] r0 [nX10 cI cZ cQ h_t u_t] := by
  refine MI.of (own := RX10) (by decide +kernel) rfl rfl (Nat.le_of_ble_eq_true rfl) (lv0 := [(0, .ref (h_t 0))]) rfl ?_
  intro X O E
  have B4 : ∀ n : Nat, ∀ (y1 : Int32) (y2 : Int32), fX10_wallCount_b4 u_t n y1 y2 = some r0 → BK X 3 0 0 4 ([nX10 cI cZ cQ h_t u_t]) [(0, .ref (h_t 0)), (1, .int y1), (2, .int y2)] [] := by
    intro n
    induction n with
    | zero => exact fun _ _ hf => qno hf
    | succ n hrec4 =>
      intro y1 y2 hf
      have hf : fX10_wallCount_b4_s (fX10_wallCount_b4 u_t n) u_t y1 y2 = some r0 := hf
      generalize fX10_wallCount_b4 u_t n = rec4 at hf hrec4
      unfold fX10_wallCount_b4_s at hf
      refine r_ild_n O 5 rfl 2 rfl dX10_wallCount_4 ?_
      refine r_bi O 7 rfl 12 (by decide) dX10_wallCount_5 ?_
      refine r_icmp_ge O 10 rfl 25 dX10_wallCount_7 (by decide) (fun hc7 => ?_) (fun hc7 => ?_)
      · rw [if_pos hc7] at hf
        refine r_ild_n O 26 rfl 1 rfl dX10_wallCount_25 ?_
        obtain g0 := qe1 hf
        exact r_iret2 O E g0 rfl dX10_wallCount_26
      · rw [if_neg hc7] at hf
        refine r_ild_n O 11 rfl 1 rfl dX10_wallCount_10 ?_
        refine r_ald_n O 12 rfl 0 rfl dX10_wallCount_11 ?_
        refine r_ild_n O 13 rfl 2 rfl dX10_wallCount_12 ?_
        refine r_ic O 14 rfl 0 (by decide) dX10_wallCount_13 ?_
        obtain ⟨x14, hq14, hf⟩ := qb1_some hf
        refine k_VI O 17 rfl (zX10_at (l := xl X) (D := xD X) (cI := cI) (cZ := cZ) (cQ := cQ) (h_t := h_t) hq14) (gV mlX10_129 mvX10_at izX10) rfl rfl rfl hdX10_at ⟨Nat.le_of_ble_eq_true rfl, Nat.le_of_ble_eq_true rfl⟩ rfl 0 rfl rfl rfl rfl (Nat.le_of_ble_eq_true rfl) ⟨Nat.zero_le _, Nat.zero_le _⟩ [0] rfl rfl rfl ([nX10 cI cZ cQ h_t u_t]) rfl dX10_wallCount_14 ?_
        refine r_iadd O 18 rfl dX10_wallCount_17 ?_
        obtain ⟨x18, ex18, hf⟩ := qn_some hf
        rw [← ex18]
        refine r_ist_n O 19 rfl rfl [(1, .int x18), (0, .ref (h_t 0)), (2, .int y2)] dX10_wallCount_18 (by decide) rfl ?_
        obtain ⟨x19, ex19, hf⟩ := qn_some hf
        refine r_iinc O 22 rfl x19 2 rfl (by rw [ex19]; rfl) [(2, .int x19), (1, .int x18), (0, .ref (h_t 0))] dX10_wallCount_19 (by decide) rfl ?_
        refine r_goto O 4 dX10_wallCount_22 (by decide) ?_
        refine r_lv [2, 1, 0] rfl ?_
        exact hrec4 _ _ hf
  unfold fX10_wallCount at hf
  refine r_ic O 1 rfl 0 (by decide) dX10_wallCount_0 ?_
  refine r_ist_n O 2 rfl rfl [(1, .int 0), (0, .ref (h_t 0))] dX10_wallCount_1 (by decide) rfl ?_
  refine r_ic O 3 rfl 0 (by decide) dX10_wallCount_2 ?_
  refine r_ist_n O 4 rfl rfl [(2, .int 0), (1, .int 0), (0, .ref (h_t 0))] dX10_wallCount_3 (by decide) rfl ?_
  refine r_lv [2, 1, 0] rfl ?_
  exact B4 FU _ _ hf
-- X10_removeWall
def rmX10_removeWall : Room := { frames := 2, cells := 0, slots := 0, locals := 44 }
set_option maxHeartbeats 4000000 in
set_option maxRecDepth 100000 in
theorem zX10_removeWall {l : Launch} {D : va_G} {cI cZ cQ : ClassId} {h_t : Nat → Nat} {u_t : Pk} {a1 : Int32} {r0 : Int32} {v_t : Pk} (hf : fX10_removeWall u_t a1 = some (r0, v_t)) : MI l yX10_removeWall wsX10_removeWall rmX10_removeWall D (TY cI cZ cQ) [.ref (h_t 0), .int a1] [nX10 cI cZ cQ h_t u_t] r0 [nX10 cI cZ cQ h_t v_t] := by
  refine MI.of (own := RX10) (by decide +kernel) rfl rfl (Nat.le_of_ble_eq_true rfl) (lv0 := [(0, .ref (h_t 0)), (1, .int a1)]) rfl ?_
  intro X O E
  unfold fX10_removeWall at hf
  refine r_ald_n O 1 rfl 0 rfl dX10_removeWall_0 ?_
  refine r_ild_n O 2 rfl 1 rfl dX10_removeWall_1 ?_
  obtain ⟨x2, hq2, hf⟩ := qb1_some hf
  refine k_VZ O 5 rfl (zX10_isWall (l := xl X) (D := xD X) (cI := cI) (cZ := cZ) (cQ := cQ) (h_t := h_t) hq2) (gV mlX10_140 mvX10_isWall izX10) rfl rfl rfl hdX10_isWall ⟨Nat.le_of_ble_eq_true rfl, Nat.le_of_ble_eq_true rfl⟩ rfl 0 rfl rfl rfl rfl (Nat.le_of_ble_eq_true rfl) ⟨Nat.zero_le _, Nat.zero_le _⟩ [0] rfl rfl rfl ([nX10 cI cZ cQ h_t u_t]) rfl dX10_removeWall_2 (fun hz2 => ?_)
  refine r_if_ne O 8 rfl 10 dX10_removeWall_5 (by decide) (fun hc5 => ?_) (fun hc5 => ?_)
  · rw [if_neg hc5] at hf
    refine r_ald_n O 11 rfl 0 rfl dX10_removeWall_10 ?_
    obtain ⟨p11_t, hq11, hf⟩ := qb1_some hf
    refine k_VV O 14 rfl (zX10_keep (l := xl X) (D := xD X) (cI := cI) (cZ := cZ) (cQ := cQ) (h_t := h_t) hq11) (gV mlX10_133 mvX10_keep izX10) rfl rfl rfl hdX10_keep ⟨Nat.le_of_ble_eq_true rfl, Nat.le_of_ble_eq_true rfl⟩ rfl 0 rfl rfl rfl rfl (Nat.le_of_ble_eq_true rfl) ⟨Nat.zero_le _, Nat.zero_le _⟩ [0] rfl rfl rfl ([nX10 cI cZ cQ h_t p11_t]) rfl dX10_removeWall_11 ?_
    refine r_ald_n O 15 rfl 0 rfl dX10_removeWall_14 ?_
    refine r_get (ref := RX10) (C := RX10) (T := TX10) (N := 70) O 18 rfl inBX10 0 0 rfl rfl rfl (by decide) flX10_7 rfl rfl dX10_removeWall_15 ?_
    refine r_bi O 20 rfl 7 (by decide) dX10_removeWall_18 ?_
    refine r_ild_n O 21 rfl 1 rfl dX10_removeWall_20 ?_
    refine r_imul O 22 rfl dX10_removeWall_21 ?_
    refine r_ic O 23 rfl 0 (by decide) dX10_removeWall_22 ?_
    obtain ⟨hin23, hf⟩ := qst_some hf
    obtain ⟨p23_t, ep23_t, hf⟩ := qn_some hf
    refine r_iast O 24 rfl 0 1 rfl rfl hin23 ([nX10 cI cZ cQ h_t p23_t]) (by rw [ep23_t]; rfl) dX10_removeWall_23 ?_
    refine r_ald_n O 25 rfl 0 rfl dX10_removeWall_24 ?_
    obtain ⟨x25, hq25, hf⟩ := qb1_some hf
    refine k_VI O 28 rfl (zX10_wallCount (l := xl X) (D := xD X) (cI := cI) (cZ := cZ) (cQ := cQ) (h_t := h_t) hq25) (gV mlX10_143 mvX10_wallCount izX10) rfl rfl rfl hdX10_wallCount ⟨Nat.le_of_ble_eq_true rfl, Nat.le_of_ble_eq_true rfl⟩ rfl 0 rfl rfl rfl rfl (Nat.le_of_ble_eq_true rfl) ⟨Nat.zero_le _, Nat.zero_le _⟩ [0] rfl rfl rfl ([nX10 cI cZ cQ h_t p23_t]) rfl dX10_removeWall_25 ?_
    obtain ⟨g0, g1⟩ := qe2 hf
    exact r_iret2 O E g0 (by rw [g1]) dX10_removeWall_28
  · rw [if_pos hc5] at hf
    refine r_ic O 9 rfl (-1) (by decide) dX10_removeWall_8 ?_
    obtain ⟨g0, g1⟩ := qe2 hf
    exact r_iret2 O E g0 (by rw [g1]) dX10_removeWall_9
-- X10_moveWall
def rmX10_moveWall : Room := { frames := 1, cells := 0, slots := 0, locals := 27 }
set_option maxHeartbeats 4000000 in
set_option maxRecDepth 100000 in
theorem zX10_moveWall {l : Launch} {D : va_G} {cI cZ cQ : ClassId} {h_t : Nat → Nat} {u_t : Pk} {a1 : Int32} {a2 : Int32} {a3 : Int32} {r0 : Int32} {v_t : Pk} (hf : fX10_moveWall u_t a1 a2 a3 = some (r0, v_t)) : MI l yX10_moveWall wsX10_moveWall rmX10_moveWall D (TY cI cZ cQ) [.ref (h_t 0), .int a1, .int a2, .int a3] [nX10 cI cZ cQ h_t u_t] r0 [nX10 cI cZ cQ h_t v_t] := by
  refine MI.of (own := RX10) (by decide +kernel) rfl rfl (Nat.le_of_ble_eq_true rfl) (lv0 := [(0, .ref (h_t 0)), (1, .int a1), (2, .int a2), (3, .int a3)]) rfl ?_
  intro X O E
  unfold fX10_moveWall at hf
  refine r_ald_n O 1 rfl 0 rfl dX10_moveWall_0 ?_
  refine r_ild_n O 2 rfl 1 rfl dX10_moveWall_1 ?_
  obtain ⟨x2, hq2, hf⟩ := qb1_some hf
  refine k_VZ O 5 rfl (zX10_isWall (l := xl X) (D := xD X) (cI := cI) (cZ := cZ) (cQ := cQ) (h_t := h_t) hq2) (gV mlX10_140 mvX10_isWall izX10) rfl rfl rfl hdX10_isWall ⟨Nat.le_of_ble_eq_true rfl, Nat.le_of_ble_eq_true rfl⟩ rfl 0 rfl rfl rfl rfl (Nat.le_of_ble_eq_true rfl) ⟨Nat.zero_le _, Nat.zero_le _⟩ [0] rfl rfl rfl ([nX10 cI cZ cQ h_t u_t]) rfl dX10_moveWall_2 (fun hz2 => ?_)
  refine r_if_ne O 8 rfl 10 dX10_moveWall_5 (by decide) (fun hc5 => ?_) (fun hc5 => ?_)
  · rw [if_neg hc5] at hf
    refine r_ild_n O 11 rfl 2 rfl dX10_moveWall_10 ?_
    refine r_bi O 13 rfl (-63) (by decide) dX10_moveWall_11 ?_
    refine r_icmp_lt O 16 rfl 34 dX10_moveWall_13 (by decide) (fun hc13 => ?_) (fun hc13 => ?_)
    · rw [if_pos hc13] at hf
      refine r_bi O 36 rfl (-2) (by decide) dX10_moveWall_34 ?_
      obtain ⟨g0, g1⟩ := qe2 hf
      exact r_iret2 O E g0 (by rw [g1]) dX10_moveWall_36
    · rw [if_neg hc13] at hf
      refine r_ild_n O 17 rfl 2 rfl dX10_moveWall_16 ?_
      refine r_bi O 19 rfl 63 (by decide) dX10_moveWall_17 ?_
      refine r_icmp_gt O 22 rfl 34 dX10_moveWall_19 (by decide) (fun hc19 => ?_) (fun hc19 => ?_)
      · rw [if_pos hc19] at hf
        refine r_bi O 36 rfl (-2) (by decide) dX10_moveWall_34 ?_
        obtain ⟨g0, g1⟩ := qe2 hf
        exact r_iret2 O E g0 (by rw [g1]) dX10_moveWall_36
      · rw [if_neg hc19] at hf
        refine r_ild_n O 23 rfl 3 rfl dX10_moveWall_22 ?_
        refine r_bi O 25 rfl (-63) (by decide) dX10_moveWall_23 ?_
        refine r_icmp_lt O 28 rfl 34 dX10_moveWall_25 (by decide) (fun hc25 => ?_) (fun hc25 => ?_)
        · rw [if_pos hc25] at hf
          refine r_bi O 36 rfl (-2) (by decide) dX10_moveWall_34 ?_
          obtain ⟨g0, g1⟩ := qe2 hf
          exact r_iret2 O E g0 (by rw [g1]) dX10_moveWall_36
        · rw [if_neg hc25] at hf
          refine r_ild_n O 29 rfl 3 rfl dX10_moveWall_28 ?_
          refine r_bi O 31 rfl 63 (by decide) dX10_moveWall_29 ?_
          refine r_icmp_le O 34 rfl 37 dX10_moveWall_31 (by decide) (fun hc31 => ?_) (fun hc31 => ?_)
          · rw [if_pos hc31] at hf
            refine r_ald_n O 38 rfl 0 rfl dX10_moveWall_37 ?_
            refine r_ild_n O 39 rfl 1 rfl dX10_moveWall_38 ?_
            refine r_ic O 40 rfl 1 (by decide) dX10_moveWall_39 ?_
            obtain ⟨x40, hq40, hf⟩ := qb1_some hf
            refine k_VI O 43 rfl (zX10_at (l := xl X) (D := xD X) (cI := cI) (cZ := cZ) (cQ := cQ) (h_t := h_t) hq40) (gV mlX10_129 mvX10_at izX10) rfl rfl rfl hdX10_at ⟨Nat.le_of_ble_eq_true rfl, Nat.le_of_ble_eq_true rfl⟩ rfl 0 rfl rfl rfl rfl (Nat.le_of_ble_eq_true rfl) ⟨Nat.zero_le _, Nat.zero_le _⟩ [0] rfl rfl rfl ([nX10 cI cZ cQ h_t u_t]) rfl dX10_moveWall_40 ?_
            refine r_ist O 45 rfl [(4, .int x40), (0, .ref (h_t 0)), (1, .int a1), (2, .int a2), (3, .int a3)] dX10_moveWall_43 (by decide) rfl ?_
            refine r_ald_n O 46 rfl 1 rfl dX10_moveWall_45 ?_
            refine r_ild_n O 47 rfl 2 rfl dX10_moveWall_46 ?_
            refine r_ic O 48 rfl 2 (by decide) dX10_moveWall_47 ?_
            obtain ⟨x48, hq48, hf⟩ := qb1_some hf
            refine k_VI O 51 rfl (zX10_at (l := xl X) (D := xD X) (cI := cI) (cZ := cZ) (cQ := cQ) (h_t := h_t) hq48) (gV mlX10_129 mvX10_at izX10) rfl rfl rfl hdX10_at ⟨Nat.le_of_ble_eq_true rfl, Nat.le_of_ble_eq_true rfl⟩ rfl 0 rfl rfl rfl rfl (Nat.le_of_ble_eq_true rfl) ⟨Nat.zero_le _, Nat.zero_le _⟩ [0] rfl rfl rfl ([nX10 cI cZ cQ h_t u_t]) rfl dX10_moveWall_48 ?_
            refine r_ist O 53 rfl [(5, .int x48), (4, .int x40), (0, .ref (h_t 0)), (1, .int a1), (2, .int a2), (3, .int a3)] dX10_moveWall_51 (by decide) rfl ?_
            refine r_ald_n O 54 rfl 2 rfl dX10_moveWall_53 ?_
            refine r_ild_n O 55 rfl 3 rfl dX10_moveWall_54 ?_
            refine r_ic O 56 rfl 3 (by decide) dX10_moveWall_55 ?_
            obtain ⟨x56, hq56, hf⟩ := qb1_some hf
            refine k_VI O 59 rfl (zX10_at (l := xl X) (D := xD X) (cI := cI) (cZ := cZ) (cQ := cQ) (h_t := h_t) hq56) (gV mlX10_129 mvX10_at izX10) rfl rfl rfl hdX10_at ⟨Nat.le_of_ble_eq_true rfl, Nat.le_of_ble_eq_true rfl⟩ rfl 0 rfl rfl rfl rfl (Nat.le_of_ble_eq_true rfl) ⟨Nat.zero_le _, Nat.zero_le _⟩ [0] rfl rfl rfl ([nX10 cI cZ cQ h_t u_t]) rfl dX10_moveWall_56 ?_
            refine r_ist O 61 rfl [(6, .int x56), (5, .int x48), (4, .int x40), (0, .ref (h_t 0)), (1, .int a1), (2, .int a2), (3, .int a3)] dX10_moveWall_59 (by decide) rfl ?_
            refine r_ald_n O 62 rfl 3 rfl dX10_moveWall_61 ?_
            refine r_ild_n O 63 rfl 4 rfl dX10_moveWall_62 ?_
            refine r_ic O 64 rfl 4 (by decide) dX10_moveWall_63 ?_
            obtain ⟨x64, hq64, hf⟩ := qb1_some hf
            refine k_VI O 67 rfl (zX10_at (l := xl X) (D := xD X) (cI := cI) (cZ := cZ) (cQ := cQ) (h_t := h_t) hq64) (gV mlX10_129 mvX10_at izX10) rfl rfl rfl hdX10_at ⟨Nat.le_of_ble_eq_true rfl, Nat.le_of_ble_eq_true rfl⟩ rfl 0 rfl rfl rfl rfl (Nat.le_of_ble_eq_true rfl) ⟨Nat.zero_le _, Nat.zero_le _⟩ [0] rfl rfl rfl ([nX10 cI cZ cQ h_t u_t]) rfl dX10_moveWall_64 ?_
            refine r_ist O 69 rfl [(7, .int x64), (6, .int x56), (5, .int x48), (4, .int x40), (0, .ref (h_t 0)), (1, .int a1), (2, .int a2), (3, .int a3)] dX10_moveWall_67 (by decide) rfl ?_
            refine r_ild O 71 rfl 3 rfl dX10_moveWall_69 ?_
            refine r_ild_n O 72 rfl 6 rfl dX10_moveWall_71 ?_
            refine r_iadd O 73 rfl dX10_moveWall_72 ?_
            obtain ⟨x73, hq73, hf⟩ := qb1_some hf
            refine k_SZ O 76 rfl (zX10_isCoordinate (l := xl X) (D := xD X) (cI := cI) (cZ := cZ) (cQ := cQ) hq73) (gS mlX10_125 mvX10_isCoordinate izX10) rfl rfl rfl hdX10_isCoordinate ⟨Nat.le_of_ble_eq_true rfl, Nat.le_of_ble_eq_true rfl⟩ rfl rfl (Nat.le_of_ble_eq_true rfl) ⟨Nat.zero_le _, Nat.zero_le _⟩ [] rfl rfl rfl ([nX10 cI cZ cQ h_t u_t]) rfl dX10_moveWall_73 (fun hz73 => ?_)
            refine r_if_eq O 79 rfl 109 dX10_moveWall_76 (by decide) (fun hc76 => ?_) (fun hc76 => ?_)
            · rw [if_pos hc76] at hf
              refine r_bi O 111 rfl (-2) (by decide) dX10_moveWall_109 ?_
              obtain ⟨g0, g1⟩ := qe2 hf
              exact r_iret2 O E g0 (by rw [g1]) dX10_moveWall_111
            · rw [if_neg hc76] at hf
              refine r_ild O 81 rfl 1 rfl dX10_moveWall_79 ?_
              refine r_ild_n O 82 rfl 6 rfl dX10_moveWall_81 ?_
              refine r_iadd O 83 rfl dX10_moveWall_82 ?_
              obtain ⟨x83, hq83, hf⟩ := qb1_some hf
              refine k_SZ O 86 rfl (zX10_isCoordinate (l := xl X) (D := xD X) (cI := cI) (cZ := cZ) (cQ := cQ) hq83) (gS mlX10_125 mvX10_isCoordinate izX10) rfl rfl rfl hdX10_isCoordinate ⟨Nat.le_of_ble_eq_true rfl, Nat.le_of_ble_eq_true rfl⟩ rfl rfl (Nat.le_of_ble_eq_true rfl) ⟨Nat.zero_le _, Nat.zero_le _⟩ [] rfl rfl rfl ([nX10 cI cZ cQ h_t u_t]) rfl dX10_moveWall_83 (fun hz83 => ?_)
              refine r_if_eq O 89 rfl 109 dX10_moveWall_86 (by decide) (fun hc86 => ?_) (fun hc86 => ?_)
              · rw [if_pos hc86] at hf
                refine r_bi O 111 rfl (-2) (by decide) dX10_moveWall_109 ?_
                obtain ⟨g0, g1⟩ := qe2 hf
                exact r_iret2 O E g0 (by rw [g1]) dX10_moveWall_111
              · rw [if_neg hc86] at hf
                refine r_ild O 91 rfl 2 rfl dX10_moveWall_89 ?_
                refine r_ild_n O 92 rfl 7 rfl dX10_moveWall_91 ?_
                refine r_iadd O 93 rfl dX10_moveWall_92 ?_
                obtain ⟨x93, hq93, hf⟩ := qb1_some hf
                refine k_SZ O 96 rfl (zX10_isCoordinate (l := xl X) (D := xD X) (cI := cI) (cZ := cZ) (cQ := cQ) hq93) (gS mlX10_125 mvX10_isCoordinate izX10) rfl rfl rfl hdX10_isCoordinate ⟨Nat.le_of_ble_eq_true rfl, Nat.le_of_ble_eq_true rfl⟩ rfl rfl (Nat.le_of_ble_eq_true rfl) ⟨Nat.zero_le _, Nat.zero_le _⟩ [] rfl rfl rfl ([nX10 cI cZ cQ h_t u_t]) rfl dX10_moveWall_93 (fun hz93 => ?_)
                refine r_if_eq O 99 rfl 109 dX10_moveWall_96 (by decide) (fun hc96 => ?_) (fun hc96 => ?_)
                · rw [if_pos hc96] at hf
                  refine r_bi O 111 rfl (-2) (by decide) dX10_moveWall_109 ?_
                  obtain ⟨g0, g1⟩ := qe2 hf
                  exact r_iret2 O E g0 (by rw [g1]) dX10_moveWall_111
                · rw [if_neg hc96] at hf
                  refine r_ild O 101 rfl 0 rfl dX10_moveWall_99 ?_
                  refine r_ild_n O 102 rfl 7 rfl dX10_moveWall_101 ?_
                  refine r_iadd O 103 rfl dX10_moveWall_102 ?_
                  obtain ⟨x103, hq103, hf⟩ := qb1_some hf
                  refine k_SZ O 106 rfl (zX10_isCoordinate (l := xl X) (D := xD X) (cI := cI) (cZ := cZ) (cQ := cQ) hq103) (gS mlX10_125 mvX10_isCoordinate izX10) rfl rfl rfl hdX10_isCoordinate ⟨Nat.le_of_ble_eq_true rfl, Nat.le_of_ble_eq_true rfl⟩ rfl rfl (Nat.le_of_ble_eq_true rfl) ⟨Nat.zero_le _, Nat.zero_le _⟩ [] rfl rfl rfl ([nX10 cI cZ cQ h_t u_t]) rfl dX10_moveWall_103 (fun hz103 => ?_)
                  refine r_if_ne O 109 rfl 112 dX10_moveWall_106 (by decide) (fun hc106 => ?_) (fun hc106 => ?_)
                  · rw [if_neg hc106] at hf
                    refine r_ald_n O 113 rfl 4 rfl dX10_moveWall_112 ?_
                    obtain ⟨p113_t, hq113, hf⟩ := qb1_some hf
                    refine k_VV O 116 rfl (zX10_keep (l := xl X) (D := xD X) (cI := cI) (cZ := cZ) (cQ := cQ) (h_t := h_t) hq113) (gV mlX10_133 mvX10_keep izX10) rfl rfl rfl hdX10_keep ⟨Nat.le_of_ble_eq_true rfl, Nat.le_of_ble_eq_true rfl⟩ rfl 0 rfl rfl rfl rfl (Nat.le_of_ble_eq_true rfl) ⟨Nat.zero_le _, Nat.zero_le _⟩ [0] rfl rfl rfl ([nX10 cI cZ cQ h_t p113_t]) rfl dX10_moveWall_113 ?_
                    refine r_ald_n O 117 rfl 4 rfl dX10_moveWall_116 ?_
                    refine r_ild_n O 118 rfl 5 rfl dX10_moveWall_117 ?_
                    refine r_ild O 120 rfl 3 rfl dX10_moveWall_118 ?_
                    refine r_ild_n O 121 rfl 6 rfl dX10_moveWall_120 ?_
                    refine r_iadd O 122 rfl dX10_moveWall_121 ?_
                    refine r_ild O 124 rfl 2 rfl dX10_moveWall_122 ?_
                    refine r_ild_n O 125 rfl 7 rfl dX10_moveWall_124 ?_
                    refine r_iadd O 126 rfl dX10_moveWall_125 ?_
                    refine r_ild O 128 rfl 1 rfl dX10_moveWall_126 ?_
                    refine r_ild_n O 129 rfl 6 rfl dX10_moveWall_128 ?_
                    refine r_iadd O 130 rfl dX10_moveWall_129 ?_
                    refine r_ild O 132 rfl 0 rfl dX10_moveWall_130 ?_
                    refine r_ild_n O 133 rfl 7 rfl dX10_moveWall_132 ?_
                    refine r_iadd O 134 rfl dX10_moveWall_133 ?_
                    refine r_ald_n O 135 rfl 4 rfl dX10_moveWall_134 ?_
                    refine r_ild_n O 136 rfl 5 rfl dX10_moveWall_135 ?_
                    refine r_ic O 137 rfl 5 (by decide) dX10_moveWall_136 ?_
                    obtain ⟨x137, hq137, hf⟩ := qb1_some hf
                    refine k_VI O 140 rfl (zX10_at (l := xl X) (D := xD X) (cI := cI) (cZ := cZ) (cQ := cQ) (h_t := h_t) hq137) (gV mlX10_129 mvX10_at izX10) rfl rfl rfl hdX10_at ⟨Nat.le_of_ble_eq_true rfl, Nat.le_of_ble_eq_true rfl⟩ rfl 0 rfl rfl rfl rfl (Nat.le_of_ble_eq_true rfl) ⟨Nat.zero_le _, Nat.zero_le _⟩ [0] rfl rfl rfl ([nX10 cI cZ cQ h_t p113_t]) rfl dX10_moveWall_137 ?_
                    refine r_ald_n O 141 rfl 4 rfl dX10_moveWall_140 ?_
                    refine r_ild_n O 142 rfl 5 rfl dX10_moveWall_141 ?_
                    refine r_bi O 144 rfl 6 (by decide) dX10_moveWall_142 ?_
                    obtain ⟨x144, hq144, hf⟩ := qb1_some hf
                    refine k_VI O 147 rfl (zX10_at (l := xl X) (D := xD X) (cI := cI) (cZ := cZ) (cQ := cQ) (h_t := h_t) hq144) (gV mlX10_129 mvX10_at izX10) rfl rfl rfl hdX10_at ⟨Nat.le_of_ble_eq_true rfl, Nat.le_of_ble_eq_true rfl⟩ rfl 0 rfl rfl rfl rfl (Nat.le_of_ble_eq_true rfl) ⟨Nat.zero_le _, Nat.zero_le _⟩ [0] rfl rfl rfl ([nX10 cI cZ cQ h_t p113_t]) rfl dX10_moveWall_144 ?_
                    obtain ⟨p147_t, hq147, hf⟩ := qb1_some hf
                    refine k_VV O 150 rfl (zX10_lay (l := xl X) (D := xD X) (cI := cI) (cZ := cZ) (cQ := cQ) (h_t := h_t) hq147) (gV mlX10_136 mvX10_lay izX10) rfl rfl rfl hdX10_lay ⟨Nat.le_of_ble_eq_true rfl, Nat.le_of_ble_eq_true rfl⟩ rfl 0 rfl rfl rfl rfl (Nat.le_of_ble_eq_true rfl) ⟨Nat.zero_le _, Nat.zero_le _⟩ [0] rfl rfl rfl ([nX10 cI cZ cQ h_t p147_t]) rfl dX10_moveWall_147 ?_
                    refine r_bi O 152 rfl 64 (by decide) dX10_moveWall_150 ?_
                    refine r_ild O 154 rfl 3 rfl dX10_moveWall_152 ?_
                    refine r_imul O 155 rfl dX10_moveWall_154 ?_
                    refine r_ild O 157 rfl 2 rfl dX10_moveWall_155 ?_
                    refine r_iadd O 158 rfl dX10_moveWall_157 ?_
                    obtain ⟨g0, g1⟩ := qe2 hf
                    exact r_iret2 O E g0 (by rw [g1]) dX10_moveWall_158
                  · rw [if_pos hc106] at hf
                    refine r_bi O 111 rfl (-2) (by decide) dX10_moveWall_109 ?_
                    obtain ⟨g0, g1⟩ := qe2 hf
                    exact r_iret2 O E g0 (by rw [g1]) dX10_moveWall_111
          · rw [if_neg hc31] at hf
            refine r_bi O 36 rfl (-2) (by decide) dX10_moveWall_34 ?_
            obtain ⟨g0, g1⟩ := qe2 hf
            exact r_iret2 O E g0 (by rw [g1]) dX10_moveWall_36
  · rw [if_pos hc5] at hf
    refine r_ic O 9 rfl (-1) (by decide) dX10_moveWall_8 ?_
    obtain ⟨g0, g1⟩ := qe2 hf
    exact r_iret2 O E g0 (by rw [g1]) dX10_moveWall_9
-- X10_turnWall
def rmX10_turnWall : Room := { frames := 1, cells := 0, slots := 0, locals := 27 }
set_option maxHeartbeats 4000000 in
set_option maxRecDepth 100000 in
theorem zX10_turnWall {l : Launch} {D : va_G} {cI cZ cQ : ClassId} {h_t : Nat → Nat} {u_t : Pk} {a1 : Int32} {r0 : Int32} {v_t : Pk} (hf : fX10_turnWall u_t a1 = some (r0, v_t)) : MI l yX10_turnWall wsX10_turnWall rmX10_turnWall D (TY cI cZ cQ) [.ref (h_t 0), .int a1] [nX10 cI cZ cQ h_t u_t] r0 [nX10 cI cZ cQ h_t v_t] := by
  refine MI.of (own := RX10) (by decide +kernel) rfl rfl (Nat.le_of_ble_eq_true rfl) (lv0 := [(0, .ref (h_t 0)), (1, .int a1)]) rfl ?_
  intro X O E
  unfold fX10_turnWall at hf
  refine r_ald_n O 1 rfl 0 rfl dX10_turnWall_0 ?_
  refine r_ild_n O 2 rfl 1 rfl dX10_turnWall_1 ?_
  obtain ⟨x2, hq2, hf⟩ := qb1_some hf
  refine k_VZ O 5 rfl (zX10_isWall (l := xl X) (D := xD X) (cI := cI) (cZ := cZ) (cQ := cQ) (h_t := h_t) hq2) (gV mlX10_140 mvX10_isWall izX10) rfl rfl rfl hdX10_isWall ⟨Nat.le_of_ble_eq_true rfl, Nat.le_of_ble_eq_true rfl⟩ rfl 0 rfl rfl rfl rfl (Nat.le_of_ble_eq_true rfl) ⟨Nat.zero_le _, Nat.zero_le _⟩ [0] rfl rfl rfl ([nX10 cI cZ cQ h_t u_t]) rfl dX10_turnWall_2 (fun hz2 => ?_)
  refine r_if_ne O 8 rfl 10 dX10_turnWall_5 (by decide) (fun hc5 => ?_) (fun hc5 => ?_)
  · rw [if_neg hc5] at hf
    refine r_ald_n O 11 rfl 0 rfl dX10_turnWall_10 ?_
    obtain ⟨p11_t, hq11, hf⟩ := qb1_some hf
    refine k_VV O 14 rfl (zX10_keep (l := xl X) (D := xD X) (cI := cI) (cZ := cZ) (cQ := cQ) (h_t := h_t) hq11) (gV mlX10_133 mvX10_keep izX10) rfl rfl rfl hdX10_keep ⟨Nat.le_of_ble_eq_true rfl, Nat.le_of_ble_eq_true rfl⟩ rfl 0 rfl rfl rfl rfl (Nat.le_of_ble_eq_true rfl) ⟨Nat.zero_le _, Nat.zero_le _⟩ [0] rfl rfl rfl ([nX10 cI cZ cQ h_t p11_t]) rfl dX10_turnWall_11 ?_
    refine r_ald_n O 15 rfl 0 rfl dX10_turnWall_14 ?_
    refine r_ild_n O 16 rfl 1 rfl dX10_turnWall_15 ?_
    refine r_ald_n O 17 rfl 0 rfl dX10_turnWall_16 ?_
    refine r_ild_n O 18 rfl 1 rfl dX10_turnWall_17 ?_
    refine r_ic O 19 rfl 3 (by decide) dX10_turnWall_18 ?_
    obtain ⟨x19, hq19, hf⟩ := qb1_some hf
    refine k_VI O 22 rfl (zX10_at (l := xl X) (D := xD X) (cI := cI) (cZ := cZ) (cQ := cQ) (h_t := h_t) hq19) (gV mlX10_129 mvX10_at izX10) rfl rfl rfl hdX10_at ⟨Nat.le_of_ble_eq_true rfl, Nat.le_of_ble_eq_true rfl⟩ rfl 0 rfl rfl rfl rfl (Nat.le_of_ble_eq_true rfl) ⟨Nat.zero_le _, Nat.zero_le _⟩ [0] rfl rfl rfl ([nX10 cI cZ cQ h_t p11_t]) rfl dX10_turnWall_19 ?_
    refine r_ald_n O 23 rfl 0 rfl dX10_turnWall_22 ?_
    refine r_ild_n O 24 rfl 1 rfl dX10_turnWall_23 ?_
    refine r_ic O 25 rfl 4 (by decide) dX10_turnWall_24 ?_
    obtain ⟨x25, hq25, hf⟩ := qb1_some hf
    refine k_VI O 28 rfl (zX10_at (l := xl X) (D := xD X) (cI := cI) (cZ := cZ) (cQ := cQ) (h_t := h_t) hq25) (gV mlX10_129 mvX10_at izX10) rfl rfl rfl hdX10_at ⟨Nat.le_of_ble_eq_true rfl, Nat.le_of_ble_eq_true rfl⟩ rfl 0 rfl rfl rfl rfl (Nat.le_of_ble_eq_true rfl) ⟨Nat.zero_le _, Nat.zero_le _⟩ [0] rfl rfl rfl ([nX10 cI cZ cQ h_t p11_t]) rfl dX10_turnWall_25 ?_
    refine r_ald_n O 29 rfl 0 rfl dX10_turnWall_28 ?_
    refine r_ild_n O 30 rfl 1 rfl dX10_turnWall_29 ?_
    refine r_ic O 31 rfl 1 (by decide) dX10_turnWall_30 ?_
    obtain ⟨x31, hq31, hf⟩ := qb1_some hf
    refine k_VI O 34 rfl (zX10_at (l := xl X) (D := xD X) (cI := cI) (cZ := cZ) (cQ := cQ) (h_t := h_t) hq31) (gV mlX10_129 mvX10_at izX10) rfl rfl rfl hdX10_at ⟨Nat.le_of_ble_eq_true rfl, Nat.le_of_ble_eq_true rfl⟩ rfl 0 rfl rfl rfl rfl (Nat.le_of_ble_eq_true rfl) ⟨Nat.zero_le _, Nat.zero_le _⟩ [0] rfl rfl rfl ([nX10 cI cZ cQ h_t p11_t]) rfl dX10_turnWall_31 ?_
    refine r_ald_n O 35 rfl 0 rfl dX10_turnWall_34 ?_
    refine r_ild_n O 36 rfl 1 rfl dX10_turnWall_35 ?_
    refine r_ic O 37 rfl 2 (by decide) dX10_turnWall_36 ?_
    obtain ⟨x37, hq37, hf⟩ := qb1_some hf
    refine k_VI O 40 rfl (zX10_at (l := xl X) (D := xD X) (cI := cI) (cZ := cZ) (cQ := cQ) (h_t := h_t) hq37) (gV mlX10_129 mvX10_at izX10) rfl rfl rfl hdX10_at ⟨Nat.le_of_ble_eq_true rfl, Nat.le_of_ble_eq_true rfl⟩ rfl 0 rfl rfl rfl rfl (Nat.le_of_ble_eq_true rfl) ⟨Nat.zero_le _, Nat.zero_le _⟩ [0] rfl rfl rfl ([nX10 cI cZ cQ h_t p11_t]) rfl dX10_turnWall_37 ?_
    refine r_ald_n O 41 rfl 0 rfl dX10_turnWall_40 ?_
    refine r_ild_n O 42 rfl 1 rfl dX10_turnWall_41 ?_
    refine r_ic O 43 rfl 5 (by decide) dX10_turnWall_42 ?_
    obtain ⟨x43, hq43, hf⟩ := qb1_some hf
    refine k_VI O 46 rfl (zX10_at (l := xl X) (D := xD X) (cI := cI) (cZ := cZ) (cQ := cQ) (h_t := h_t) hq43) (gV mlX10_129 mvX10_at izX10) rfl rfl rfl hdX10_at ⟨Nat.le_of_ble_eq_true rfl, Nat.le_of_ble_eq_true rfl⟩ rfl 0 rfl rfl rfl rfl (Nat.le_of_ble_eq_true rfl) ⟨Nat.zero_le _, Nat.zero_le _⟩ [0] rfl rfl rfl ([nX10 cI cZ cQ h_t p11_t]) rfl dX10_turnWall_43 ?_
    refine r_ald_n O 47 rfl 0 rfl dX10_turnWall_46 ?_
    refine r_ild_n O 48 rfl 1 rfl dX10_turnWall_47 ?_
    refine r_bi O 50 rfl 6 (by decide) dX10_turnWall_48 ?_
    obtain ⟨x50, hq50, hf⟩ := qb1_some hf
    refine k_VI O 53 rfl (zX10_at (l := xl X) (D := xD X) (cI := cI) (cZ := cZ) (cQ := cQ) (h_t := h_t) hq50) (gV mlX10_129 mvX10_at izX10) rfl rfl rfl hdX10_at ⟨Nat.le_of_ble_eq_true rfl, Nat.le_of_ble_eq_true rfl⟩ rfl 0 rfl rfl rfl rfl (Nat.le_of_ble_eq_true rfl) ⟨Nat.zero_le _, Nat.zero_le _⟩ [0] rfl rfl rfl ([nX10 cI cZ cQ h_t p11_t]) rfl dX10_turnWall_50 ?_
    obtain ⟨p53_t, hq53, hf⟩ := qb1_some hf
    refine k_VV O 56 rfl (zX10_lay (l := xl X) (D := xD X) (cI := cI) (cZ := cZ) (cQ := cQ) (h_t := h_t) hq53) (gV mlX10_136 mvX10_lay izX10) rfl rfl rfl hdX10_lay ⟨Nat.le_of_ble_eq_true rfl, Nat.le_of_ble_eq_true rfl⟩ rfl 0 rfl rfl rfl rfl (Nat.le_of_ble_eq_true rfl) ⟨Nat.zero_le _, Nat.zero_le _⟩ [0] rfl rfl rfl ([nX10 cI cZ cQ h_t p53_t]) rfl dX10_turnWall_53 ?_
    refine r_ald_n O 57 rfl 0 rfl dX10_turnWall_56 ?_
    refine r_ild_n O 58 rfl 1 rfl dX10_turnWall_57 ?_
    refine r_ic O 59 rfl 5 (by decide) dX10_turnWall_58 ?_
    obtain ⟨x59, hq59, hf⟩ := qb1_some hf
    refine k_VI O 62 rfl (zX10_at (l := xl X) (D := xD X) (cI := cI) (cZ := cZ) (cQ := cQ) (h_t := h_t) hq59) (gV mlX10_129 mvX10_at izX10) rfl rfl rfl hdX10_at ⟨Nat.le_of_ble_eq_true rfl, Nat.le_of_ble_eq_true rfl⟩ rfl 0 rfl rfl rfl rfl (Nat.le_of_ble_eq_true rfl) ⟨Nat.zero_le _, Nat.zero_le _⟩ [0] rfl rfl rfl ([nX10 cI cZ cQ h_t p53_t]) rfl dX10_turnWall_59 ?_
    obtain ⟨g0, g1⟩ := qe2 hf
    exact r_iret2 O E g0 (by rw [g1]) dX10_turnWall_62
  · rw [if_pos hc5] at hf
    refine r_ic O 9 rfl (-1) (by decide) dX10_turnWall_8 ?_
    obtain ⟨g0, g1⟩ := qe2 hf
    exact r_iret2 O E g0 (by rw [g1]) dX10_turnWall_9
-- X10_setKind
def rmX10_setKind : Room := { frames := 1, cells := 0, slots := 0, locals := 22 }
set_option maxHeartbeats 4000000 in
set_option maxRecDepth 100000 in
theorem zX10_setKind {l : Launch} {D : va_G} {cI cZ cQ : ClassId} {h_t : Nat → Nat} {u_t : Pk} {a1 : Int32} {a2 : Int32} {r0 : Int32} {v_t : Pk} (hf : fX10_setKind u_t a1 a2 = some (r0, v_t)) : MI l yX10_setKind wsX10_setKind rmX10_setKind D (TY cI cZ cQ) [.ref (h_t 0), .int a1, .int a2] [nX10 cI cZ cQ h_t u_t] r0 [nX10 cI cZ cQ h_t v_t] := by
  refine MI.of (own := RX10) (by decide +kernel) rfl rfl (Nat.le_of_ble_eq_true rfl) (lv0 := [(0, .ref (h_t 0)), (1, .int a1), (2, .int a2)]) rfl ?_
  intro X O E
  unfold fX10_setKind at hf
  refine r_ald_n O 1 rfl 0 rfl dX10_setKind_0 ?_
  refine r_ild_n O 2 rfl 1 rfl dX10_setKind_1 ?_
  obtain ⟨x2, hq2, hf⟩ := qb1_some hf
  refine k_VZ O 5 rfl (zX10_isWall (l := xl X) (D := xD X) (cI := cI) (cZ := cZ) (cQ := cQ) (h_t := h_t) hq2) (gV mlX10_140 mvX10_isWall izX10) rfl rfl rfl hdX10_isWall ⟨Nat.le_of_ble_eq_true rfl, Nat.le_of_ble_eq_true rfl⟩ rfl 0 rfl rfl rfl rfl (Nat.le_of_ble_eq_true rfl) ⟨Nat.zero_le _, Nat.zero_le _⟩ [0] rfl rfl rfl ([nX10 cI cZ cQ h_t u_t]) rfl dX10_setKind_2 (fun hz2 => ?_)
  refine r_if_ne O 8 rfl 10 dX10_setKind_5 (by decide) (fun hc5 => ?_) (fun hc5 => ?_)
  · rw [if_neg hc5] at hf
    refine r_ild_n O 11 rfl 2 rfl dX10_setKind_10 ?_
    refine r_if_lt O 14 rfl 19 dX10_setKind_11 (by decide) (fun hc11 => ?_) (fun hc11 => ?_)
    · rw [if_pos hc11] at hf
      refine r_bi O 21 rfl (-2) (by decide) dX10_setKind_19 ?_
      obtain ⟨g0, g1⟩ := qe2 hf
      exact r_iret2 O E g0 (by rw [g1]) dX10_setKind_21
    · rw [if_neg hc11] at hf
      refine r_ild_n O 15 rfl 2 rfl dX10_setKind_14 ?_
      refine r_ic O 16 rfl 2 (by decide) dX10_setKind_15 ?_
      refine r_icmp_le O 19 rfl 22 dX10_setKind_16 (by decide) (fun hc16 => ?_) (fun hc16 => ?_)
      · rw [if_pos hc16] at hf
        refine r_ald_n O 23 rfl 0 rfl dX10_setKind_22 ?_
        refine r_ild_n O 24 rfl 1 rfl dX10_setKind_23 ?_
        refine r_ic O 25 rfl 5 (by decide) dX10_setKind_24 ?_
        obtain ⟨x25, hq25, hf⟩ := qb1_some hf
        refine k_VI O 28 rfl (zX10_at (l := xl X) (D := xD X) (cI := cI) (cZ := cZ) (cQ := cQ) (h_t := h_t) hq25) (gV mlX10_129 mvX10_at izX10) rfl rfl rfl hdX10_at ⟨Nat.le_of_ble_eq_true rfl, Nat.le_of_ble_eq_true rfl⟩ rfl 0 rfl rfl rfl rfl (Nat.le_of_ble_eq_true rfl) ⟨Nat.zero_le _, Nat.zero_le _⟩ [0] rfl rfl rfl ([nX10 cI cZ cQ h_t u_t]) rfl dX10_setKind_25 ?_
        refine r_ist_n O 29 rfl rfl [(3, .int x25), (0, .ref (h_t 0)), (1, .int a1), (2, .int a2)] dX10_setKind_28 (by decide) rfl ?_
        refine r_ald_n O 30 rfl 1 rfl dX10_setKind_29 ?_
        obtain ⟨p30_t, hq30, hf⟩ := qb1_some hf
        refine k_VV O 33 rfl (zX10_keep (l := xl X) (D := xD X) (cI := cI) (cZ := cZ) (cQ := cQ) (h_t := h_t) hq30) (gV mlX10_133 mvX10_keep izX10) rfl rfl rfl hdX10_keep ⟨Nat.le_of_ble_eq_true rfl, Nat.le_of_ble_eq_true rfl⟩ rfl 0 rfl rfl rfl rfl (Nat.le_of_ble_eq_true rfl) ⟨Nat.zero_le _, Nat.zero_le _⟩ [0] rfl rfl rfl ([nX10 cI cZ cQ h_t p30_t]) rfl dX10_setKind_30 ?_
        refine r_ald_n O 34 rfl 1 rfl dX10_setKind_33 ?_
        refine r_get (ref := RX10) (C := RX10) (T := TX10) (N := 70) O 37 rfl inBX10 0 0 rfl rfl rfl (by decide) flX10_7 rfl rfl dX10_setKind_34 ?_
        refine r_bi O 39 rfl 7 (by decide) dX10_setKind_37 ?_
        refine r_ild_n O 40 rfl 2 rfl dX10_setKind_39 ?_
        refine r_imul O 41 rfl dX10_setKind_40 ?_
        refine r_ic O 42 rfl 5 (by decide) dX10_setKind_41 ?_
        refine r_iadd O 43 rfl dX10_setKind_42 ?_
        refine r_ild_n O 44 rfl 3 rfl dX10_setKind_43 ?_
        obtain ⟨hin44, hf⟩ := qst_some hf
        obtain ⟨p44_t, ep44_t, hf⟩ := qn_some hf
        refine r_iast O 45 rfl 0 1 rfl rfl hin44 ([nX10 cI cZ cQ h_t p44_t]) (by rw [ep44_t]; rfl) dX10_setKind_44 ?_
        refine r_ild_n O 46 rfl 0 rfl dX10_setKind_45 ?_
        obtain ⟨g0, g1⟩ := qe2 hf
        exact r_iret2 O E g0 (by rw [g1]) dX10_setKind_46
      · rw [if_neg hc16] at hf
        refine r_bi O 21 rfl (-2) (by decide) dX10_setKind_19 ?_
        obtain ⟨g0, g1⟩ := qe2 hf
        exact r_iret2 O E g0 (by rw [g1]) dX10_setKind_21
  · rw [if_pos hc5] at hf
    refine r_ic O 9 rfl (-1) (by decide) dX10_setKind_8 ?_
    obtain ⟨g0, g1⟩ := qe2 hf
    exact r_iret2 O E g0 (by rw [g1]) dX10_setKind_9
-- X10_weights
def rmX10_weights : Room := { frames := 0, cells := 0, slots := 0, locals := 0 }
set_option maxHeartbeats 4000000 in
set_option maxRecDepth 100000 in
theorem zX10_weights {l : Launch} {D : va_G} {cI cZ cQ : ClassId} {h_t : Nat → Nat} {u_t : Pk} {r0 : Int32} (hf : fX10_weights u_t = some r0) : MI l yX10_weights wsX10_weights rmX10_weights D (TY cI cZ cQ) [.ref (h_t 0)] [nX10 cI cZ cQ h_t u_t] r0 [nX10 cI cZ cQ h_t u_t] := by
  refine MI.of (own := RX10) (by decide +kernel) rfl rfl (Nat.le_of_ble_eq_true rfl) (lv0 := [(0, .ref (h_t 0))]) rfl ?_
  intro X O E
  unfold fX10_weights at hf
  refine r_bi O 2 rfl 10 (by decide) dX10_weights_0 ?_
  refine r_ald_n O 3 rfl 0 rfl dX10_weights_2 ?_
  refine r_get (ref := RX10) (C := RX10) (T := TX10) (N := 70) O 6 rfl inBX10 0 1 rfl rfl rfl (by decide) flX10_13 rfl rfl dX10_weights_3 ?_
  refine r_imul O 7 rfl dX10_weights_6 ?_
  refine r_ald_n O 8 rfl 0 rfl dX10_weights_7 ?_
  refine r_get (ref := RX10) (C := RX10) (T := TX10) (N := 70) O 11 rfl inBX10 0 2 rfl rfl rfl (by decide) flX10_17 rfl rfl dX10_weights_8 ?_
  refine r_iadd O 12 rfl dX10_weights_11 ?_
  obtain g0 := qe1 hf
  exact r_iret2 O E g0 rfl dX10_weights_12
-- X10_setWeights
def rmX10_setWeights : Room := { frames := 1, cells := 0, slots := 0, locals := 21 }
set_option maxHeartbeats 4000000 in
set_option maxRecDepth 100000 in
theorem zX10_setWeights {l : Launch} {D : va_G} {cI cZ cQ : ClassId} {h_t : Nat → Nat} {u_t : Pk} {a1 : Int32} {a2 : Int32} {r0 : Int32} {v_t : Pk} (hf : fX10_setWeights u_t a1 a2 = some (r0, v_t)) : MI l yX10_setWeights wsX10_setWeights rmX10_setWeights D (TY cI cZ cQ) [.ref (h_t 0), .int a1, .int a2] [nX10 cI cZ cQ h_t u_t] r0 [nX10 cI cZ cQ h_t v_t] := by
  refine MI.of (own := RX10) (by decide +kernel) rfl rfl (Nat.le_of_ble_eq_true rfl) (lv0 := [(0, .ref (h_t 0)), (1, .int a1), (2, .int a2)]) rfl ?_
  intro X O E
  unfold fX10_setWeights at hf
  refine r_ild_n O 1 rfl 1 rfl dX10_setWeights_0 ?_
  refine r_if_lt O 4 rfl 20 dX10_setWeights_1 (by decide) (fun hc1 => ?_) (fun hc1 => ?_)
  · rw [if_pos hc1] at hf
    refine r_bi O 22 rfl (-2) (by decide) dX10_setWeights_20 ?_
    obtain ⟨g0, g1⟩ := qe2 hf
    exact r_iret2 O E g0 (by rw [g1]) dX10_setWeights_22
  · rw [if_neg hc1] at hf
    refine r_ild_n O 5 rfl 1 rfl dX10_setWeights_4 ?_
    refine r_bi O 7 rfl 9 (by decide) dX10_setWeights_5 ?_
    refine r_icmp_gt O 10 rfl 20 dX10_setWeights_7 (by decide) (fun hc7 => ?_) (fun hc7 => ?_)
    · rw [if_pos hc7] at hf
      refine r_bi O 22 rfl (-2) (by decide) dX10_setWeights_20 ?_
      obtain ⟨g0, g1⟩ := qe2 hf
      exact r_iret2 O E g0 (by rw [g1]) dX10_setWeights_22
    · rw [if_neg hc7] at hf
      refine r_ild_n O 11 rfl 2 rfl dX10_setWeights_10 ?_
      refine r_if_lt O 14 rfl 20 dX10_setWeights_11 (by decide) (fun hc11 => ?_) (fun hc11 => ?_)
      · rw [if_pos hc11] at hf
        refine r_bi O 22 rfl (-2) (by decide) dX10_setWeights_20 ?_
        obtain ⟨g0, g1⟩ := qe2 hf
        exact r_iret2 O E g0 (by rw [g1]) dX10_setWeights_22
      · rw [if_neg hc11] at hf
        refine r_ild_n O 15 rfl 2 rfl dX10_setWeights_14 ?_
        refine r_bi O 17 rfl 9 (by decide) dX10_setWeights_15 ?_
        refine r_icmp_le O 20 rfl 23 dX10_setWeights_17 (by decide) (fun hc17 => ?_) (fun hc17 => ?_)
        · rw [if_pos hc17] at hf
          refine r_ald_n O 24 rfl 0 rfl dX10_setWeights_23 ?_
          obtain ⟨x24, hq24, hf⟩ := qb1_some hf
          refine k_VI O 27 rfl (zX10_weights (l := xl X) (D := xD X) (cI := cI) (cZ := cZ) (cQ := cQ) (h_t := h_t) hq24) (gV mlX10_147 mvX10_weights izX10) rfl rfl rfl hdX10_weights ⟨Nat.le_of_ble_eq_true rfl, Nat.le_of_ble_eq_true rfl⟩ rfl 0 rfl rfl rfl rfl (Nat.le_of_ble_eq_true rfl) ⟨Nat.zero_le _, Nat.zero_le _⟩ [0] rfl rfl rfl ([nX10 cI cZ cQ h_t u_t]) rfl dX10_setWeights_24 ?_
          refine r_ist_n O 28 rfl rfl [(3, .int x24), (0, .ref (h_t 0)), (1, .int a1), (2, .int a2)] dX10_setWeights_27 (by decide) rfl ?_
          refine r_ald_n O 29 rfl 1 rfl dX10_setWeights_28 ?_
          obtain ⟨p29_t, hq29, hf⟩ := qb1_some hf
          refine k_VV O 32 rfl (zX10_keep (l := xl X) (D := xD X) (cI := cI) (cZ := cZ) (cQ := cQ) (h_t := h_t) hq29) (gV mlX10_133 mvX10_keep izX10) rfl rfl rfl hdX10_keep ⟨Nat.le_of_ble_eq_true rfl, Nat.le_of_ble_eq_true rfl⟩ rfl 0 rfl rfl rfl rfl (Nat.le_of_ble_eq_true rfl) ⟨Nat.zero_le _, Nat.zero_le _⟩ [0] rfl rfl rfl ([nX10 cI cZ cQ h_t p29_t]) rfl dX10_setWeights_29 ?_
          refine r_ald_n O 33 rfl 1 rfl dX10_setWeights_32 ?_
          refine r_ild_n O 34 rfl 2 rfl dX10_setWeights_33 ?_
          obtain ⟨p34_t, ep34_t, hf⟩ := qn_some hf
          refine r_put (ref := RX10) (C := RX10) (T := TX10) (N := 70) O 37 rfl inBX10 tyX10 tyX10_ok nmX10 0 1 rfl rfl rfl (by decide) flX10_13 rfl rfl rfl rfl (Nat.le_of_ble_eq_true rfl) ([nX10 cI cZ cQ h_t p34_t]) (by rw [ep34_t]; rfl) dX10_setWeights_34 ?_
          refine r_ald_n O 38 rfl 1 rfl dX10_setWeights_37 ?_
          refine r_ild_n O 39 rfl 3 rfl dX10_setWeights_38 ?_
          obtain ⟨p39_t, ep39_t, hf⟩ := qn_some hf
          refine r_put (ref := RX10) (C := RX10) (T := TX10) (N := 70) O 42 rfl inBX10 tyX10 tyX10_ok nmX10 0 2 rfl rfl rfl (by decide) flX10_17 rfl rfl rfl rfl (Nat.le_of_ble_eq_true rfl) ([nX10 cI cZ cQ h_t p39_t]) (by rw [ep39_t]; rfl) dX10_setWeights_39 ?_
          refine r_ild_n O 43 rfl 0 rfl dX10_setWeights_42 ?_
          obtain ⟨g0, g1⟩ := qe2 hf
          exact r_iret2 O E g0 (by rw [g1]) dX10_setWeights_43
        · rw [if_neg hc17] at hf
          refine r_bi O 22 rfl (-2) (by decide) dX10_setWeights_20 ?_
          obtain ⟨g0, g1⟩ := qe2 hf
          exact r_iret2 O E g0 (by rw [g1]) dX10_setWeights_22
-- X10_undo
def rmX10_undo : Room := { frames := 0, cells := 0, slots := 0, locals := 0 }
set_option maxHeartbeats 4000000 in
set_option maxRecDepth 100000 in
theorem zX10_undo {l : Launch} {D : va_G} {cI cZ cQ : ClassId} {h_t : Nat → Nat} {u_t : Pk} {r0 : Int32} {v_t : Pk} (hf : fX10_undo u_t = some (r0, v_t)) : MI l yX10_undo wsX10_undo rmX10_undo D (TY cI cZ cQ) [.ref (h_t 0)] [nX10 cI cZ cQ h_t u_t] r0 [nX10 cI cZ cQ h_t v_t] := by
  refine MI.of (own := RX10) (by decide +kernel) rfl rfl (Nat.le_of_ble_eq_true rfl) (lv0 := [(0, .ref (h_t 0))]) rfl ?_
  intro X O E
  have B22 : ∀ n : Nat, ∀ (w_t : Pk) (y1 : Int32), fX10_undo_b22 n w_t y1 = some (r0, v_t) → BK X 2 0 0 22 ([nX10 cI cZ cQ h_t w_t]) [(0, .ref (h_t 0)), (1, .int y1)] [] := by
    intro n
    induction n with
    | zero => exact fun _ _ hf => qno hf
    | succ n hrec22 =>
      intro w_t y1 hf
      have hf : fX10_undo_b22_s (fX10_undo_b22 n) w_t y1 = some (r0, v_t) := hf
      generalize fX10_undo_b22 n = rec22 at hf hrec22
      unfold fX10_undo_b22_s at hf
      refine r_ild_n O 23 rfl 1 rfl dX10_undo_22 ?_
      refine r_bi O 25 rfl 84 (by decide) dX10_undo_23 ?_
      refine r_icmp_ge O 28 rfl 54 dX10_undo_25 (by decide) (fun hc25 => ?_) (fun hc25 => ?_)
      · rw [if_pos hc25] at hf
        refine r_ald_n O 55 rfl 0 rfl dX10_undo_54 ?_
        refine r_ald_n O 56 rfl 0 rfl dX10_undo_55 ?_
        refine r_get (ref := RX10) (C := RX10) (T := TX10) (N := 70) O 59 rfl inBX10 0 3 rfl rfl rfl (by decide) flX10_20 rfl rfl dX10_undo_56 ?_
        refine r_bi O 61 rfl 86 (by decide) dX10_undo_59 ?_
        refine r_ald_n O 62 rfl 0 rfl dX10_undo_61 ?_
        refine r_get (ref := RX10) (C := RX10) (T := TX10) (N := 70) O 65 rfl inBX10 0 4 rfl rfl rfl (by decide) flX10_122 rfl rfl dX10_undo_62 ?_
        refine r_imul O 66 rfl dX10_undo_65 ?_
        refine r_bi O 68 rfl 84 (by decide) dX10_undo_66 ?_
        refine r_iadd O 69 rfl dX10_undo_68 ?_
        obtain ⟨x69, ex69, hin69, hf⟩ := qld_some hf
        refine r_iald O 70 rfl 0 2 rfl rfl hin69 dX10_undo_69 ?_
        rw [← ex69]
        obtain ⟨p70_t, ep70_t, hf⟩ := qn_some hf
        refine r_put (ref := RX10) (C := RX10) (T := TX10) (N := 70) O 73 rfl inBX10 tyX10 tyX10_ok nmX10 0 1 rfl rfl rfl (by decide) flX10_13 rfl rfl rfl rfl (Nat.le_of_ble_eq_true rfl) ([nX10 cI cZ cQ h_t p70_t]) (by rw [ep70_t]; rfl) dX10_undo_70 ?_
        refine r_ald_n O 74 rfl 0 rfl dX10_undo_73 ?_
        refine r_ald_n O 75 rfl 0 rfl dX10_undo_74 ?_
        refine r_get (ref := RX10) (C := RX10) (T := TX10) (N := 70) O 78 rfl inBX10 0 3 rfl rfl rfl (by decide) flX10_20 rfl rfl dX10_undo_75 ?_
        refine r_bi O 80 rfl 86 (by decide) dX10_undo_78 ?_
        refine r_ald_n O 81 rfl 0 rfl dX10_undo_80 ?_
        refine r_get (ref := RX10) (C := RX10) (T := TX10) (N := 70) O 84 rfl inBX10 0 4 rfl rfl rfl (by decide) flX10_122 rfl rfl dX10_undo_81 ?_
        refine r_imul O 85 rfl dX10_undo_84 ?_
        refine r_bi O 87 rfl 85 (by decide) dX10_undo_85 ?_
        refine r_iadd O 88 rfl dX10_undo_87 ?_
        obtain ⟨x88, ex88, hin88, hf⟩ := qld_some hf
        refine r_iald O 89 rfl 0 2 rfl rfl hin88 dX10_undo_88 ?_
        rw [← ex88]
        obtain ⟨p89_t, ep89_t, hf⟩ := qn_some hf
        refine r_put (ref := RX10) (C := RX10) (T := TX10) (N := 70) O 92 rfl inBX10 tyX10 tyX10_ok nmX10 0 2 rfl rfl rfl (by decide) flX10_17 rfl rfl rfl rfl (Nat.le_of_ble_eq_true rfl) ([nX10 cI cZ cQ h_t p89_t]) (by rw [ep89_t]; rfl) dX10_undo_89 ?_
        refine r_ald_n O 93 rfl 0 rfl dX10_undo_92 ?_
        refine r_get (ref := RX10) (C := RX10) (T := TX10) (N := 70) O 96 rfl inBX10 0 4 rfl rfl rfl (by decide) flX10_122 rfl rfl dX10_undo_93 ?_
        obtain ⟨g0, g1⟩ := qe2 hf
        exact r_iret2 O E g0 (by rw [g1]) dX10_undo_96
      · rw [if_neg hc25] at hf
        refine r_ald_n O 29 rfl 0 rfl dX10_undo_28 ?_
        refine r_get (ref := RX10) (C := RX10) (T := TX10) (N := 70) O 32 rfl inBX10 0 0 rfl rfl rfl (by decide) flX10_7 rfl rfl dX10_undo_29 ?_
        refine r_ild_n O 33 rfl 1 rfl dX10_undo_32 ?_
        refine r_ald_n O 34 rfl 0 rfl dX10_undo_33 ?_
        refine r_get (ref := RX10) (C := RX10) (T := TX10) (N := 70) O 37 rfl inBX10 0 3 rfl rfl rfl (by decide) flX10_20 rfl rfl dX10_undo_34 ?_
        refine r_bi O 39 rfl 86 (by decide) dX10_undo_37 ?_
        refine r_ald_n O 40 rfl 0 rfl dX10_undo_39 ?_
        refine r_get (ref := RX10) (C := RX10) (T := TX10) (N := 70) O 43 rfl inBX10 0 4 rfl rfl rfl (by decide) flX10_122 rfl rfl dX10_undo_40 ?_
        refine r_imul O 44 rfl dX10_undo_43 ?_
        refine r_ild_n O 45 rfl 1 rfl dX10_undo_44 ?_
        refine r_iadd O 46 rfl dX10_undo_45 ?_
        obtain ⟨x46, ex46, hin46, hf⟩ := qld_some hf
        refine r_iald O 47 rfl 0 2 rfl rfl hin46 dX10_undo_46 ?_
        rw [← ex46]
        obtain ⟨hin47, hf⟩ := qst_some hf
        obtain ⟨p47_t, ep47_t, hf⟩ := qn_some hf
        refine r_iast O 48 rfl 0 1 rfl rfl hin47 ([nX10 cI cZ cQ h_t p47_t]) (by rw [ep47_t]; rfl) dX10_undo_47 ?_
        obtain ⟨x48, ex48, hf⟩ := qn_some hf
        refine r_iinc O 51 rfl x48 1 rfl (by rw [ex48]; rfl) [(1, .int x48), (0, .ref (h_t 0))] dX10_undo_48 (by decide) rfl ?_
        refine r_goto O 22 dX10_undo_51 (by decide) ?_
        refine r_lv [1, 0] rfl ?_
        exact hrec22 _ _ hf
  unfold fX10_undo at hf
  refine r_ald_n O 1 rfl 0 rfl dX10_undo_0 ?_
  refine r_get (ref := RX10) (C := RX10) (T := TX10) (N := 70) O 4 rfl inBX10 0 4 rfl rfl rfl (by decide) flX10_122 rfl rfl dX10_undo_1 ?_
  refine r_if_ne O 7 rfl 10 dX10_undo_4 (by decide) (fun hc4 => ?_) (fun hc4 => ?_)
  · rw [if_neg hc4] at hf
    refine r_ald_n O 11 rfl 0 rfl dX10_undo_10 ?_
    refine r_dup O 12 rfl dX10_undo_11 rfl ?_
    refine r_get (ref := RX10) (C := RX10) (T := TX10) (N := 70) O 15 rfl inBX10 0 4 rfl rfl rfl (by decide) flX10_122 rfl rfl dX10_undo_12 ?_
    refine r_ic O 16 rfl 1 (by decide) dX10_undo_15 ?_
    refine r_isub O 17 rfl dX10_undo_16 ?_
    obtain ⟨p17_t, ep17_t, hf⟩ := qn_some hf
    refine r_put (ref := RX10) (C := RX10) (T := TX10) (N := 70) O 20 rfl inBX10 tyX10 tyX10_ok nmX10 0 4 rfl rfl rfl (by decide) flX10_122 rfl rfl rfl rfl (Nat.le_of_ble_eq_true rfl) ([nX10 cI cZ cQ h_t p17_t]) (by rw [ep17_t]; rfl) dX10_undo_17 ?_
    refine r_ic O 21 rfl 0 (by decide) dX10_undo_20 ?_
    refine r_ist_n O 22 rfl rfl [(1, .int 0), (0, .ref (h_t 0))] dX10_undo_21 (by decide) rfl ?_
    refine r_lv [1, 0] rfl ?_
    exact B22 FU _ _ hf
  · rw [if_pos hc4] at hf
    refine r_bi O 9 rfl (-5) (by decide) dX10_undo_7 ?_
    obtain ⟨g0, g1⟩ := qe2 hf
    exact r_iret2 O E g0 (by rw [g1]) dX10_undo_9
-- X10_coordinate
def rmX10_coordinate : Room := { frames := 1, cells := 0, slots := 0, locals := 22 }
set_option maxHeartbeats 4000000 in
set_option maxRecDepth 100000 in
theorem zX10_coordinate {l : Launch} {D : va_G} {cI cZ cQ : ClassId} {h_t : Nat → Nat} {u_t : Pk} {a1 : Int32} {a2 : Int32} {r0 : Int32} (hf : fX10_coordinate u_t a1 a2 = some r0) : MI l yX10_coordinate wsX10_coordinate rmX10_coordinate D (TY cI cZ cQ) [.ref (h_t 0), .int a1, .int a2] [nX10 cI cZ cQ h_t u_t] r0 [nX10 cI cZ cQ h_t u_t] := by
  refine MI.of (own := RX10) (by decide +kernel) rfl rfl (Nat.le_of_ble_eq_true rfl) (lv0 := [(0, .ref (h_t 0)), (1, .int a1), (2, .int a2)]) rfl ?_
  intro X O E
  unfold fX10_coordinate at hf
  refine r_ald_n O 1 rfl 0 rfl dX10_coordinate_0 ?_
  refine r_ild_n O 2 rfl 1 rfl dX10_coordinate_1 ?_
  obtain ⟨x2, hq2, hf⟩ := qb1_some hf
  refine k_VZ O 5 rfl (zX10_isWall (l := xl X) (D := xD X) (cI := cI) (cZ := cZ) (cQ := cQ) (h_t := h_t) hq2) (gV mlX10_140 mvX10_isWall izX10) rfl rfl rfl hdX10_isWall ⟨Nat.le_of_ble_eq_true rfl, Nat.le_of_ble_eq_true rfl⟩ rfl 0 rfl rfl rfl rfl (Nat.le_of_ble_eq_true rfl) ⟨Nat.zero_le _, Nat.zero_le _⟩ [0] rfl rfl rfl ([nX10 cI cZ cQ h_t u_t]) rfl dX10_coordinate_2 (fun hz2 => ?_)
  refine r_if_ne O 8 rfl 10 dX10_coordinate_5 (by decide) (fun hc5 => ?_) (fun hc5 => ?_)
  · rw [if_neg hc5] at hf
    refine r_ild_n O 11 rfl 2 rfl dX10_coordinate_10 ?_
    refine r_if_lt O 14 rfl 19 dX10_coordinate_11 (by decide) (fun hc11 => ?_) (fun hc11 => ?_)
    · rw [if_pos hc11] at hf
      refine r_bi O 21 rfl (-2) (by decide) dX10_coordinate_19 ?_
      refine r_goto O 32 dX10_coordinate_21 (by decide) ?_
      obtain g0 := qe1 hf
      exact r_iret2 O E g0 rfl dX10_coordinate_32
    · rw [if_neg hc11] at hf
      refine r_ild_n O 15 rfl 2 rfl dX10_coordinate_14 ?_
      refine r_ic O 16 rfl 3 (by decide) dX10_coordinate_15 ?_
      refine r_icmp_le O 19 rfl 24 dX10_coordinate_16 (by decide) (fun hc16 => ?_) (fun hc16 => ?_)
      · rw [if_pos hc16] at hf
        refine r_ald_n O 25 rfl 0 rfl dX10_coordinate_24 ?_
        refine r_ild_n O 26 rfl 1 rfl dX10_coordinate_25 ?_
        refine r_ic O 27 rfl 1 (by decide) dX10_coordinate_26 ?_
        refine r_ild_n O 28 rfl 2 rfl dX10_coordinate_27 ?_
        refine r_iadd O 29 rfl dX10_coordinate_28 ?_
        obtain ⟨x29, hq29, hf⟩ := qb1_some hf
        refine k_VI O 32 rfl (zX10_at (l := xl X) (D := xD X) (cI := cI) (cZ := cZ) (cQ := cQ) (h_t := h_t) hq29) (gV mlX10_129 mvX10_at izX10) rfl rfl rfl hdX10_at ⟨Nat.le_of_ble_eq_true rfl, Nat.le_of_ble_eq_true rfl⟩ rfl 0 rfl rfl rfl rfl (Nat.le_of_ble_eq_true rfl) ⟨Nat.zero_le _, Nat.zero_le _⟩ [0] rfl rfl rfl ([nX10 cI cZ cQ h_t u_t]) rfl dX10_coordinate_29 ?_
        obtain g0 := qe1 hf
        exact r_iret2 O E g0 rfl dX10_coordinate_32
      · rw [if_neg hc16] at hf
        refine r_bi O 21 rfl (-2) (by decide) dX10_coordinate_19 ?_
        refine r_goto O 32 dX10_coordinate_21 (by decide) ?_
        obtain g0 := qe1 hf
        exact r_iret2 O E g0 rfl dX10_coordinate_32
  · rw [if_pos hc5] at hf
    refine r_ic O 9 rfl (-1) (by decide) dX10_coordinate_8 ?_
    obtain g0 := qe1 hf
    exact r_iret2 O E g0 rfl dX10_coordinate_9
-- X10_kind
def rmX10_kind : Room := { frames := 1, cells := 0, slots := 0, locals := 22 }
set_option maxHeartbeats 4000000 in
set_option maxRecDepth 100000 in
theorem zX10_kind {l : Launch} {D : va_G} {cI cZ cQ : ClassId} {h_t : Nat → Nat} {u_t : Pk} {a1 : Int32} {r0 : Int32} (hf : fX10_kind u_t a1 = some r0) : MI l yX10_kind wsX10_kind rmX10_kind D (TY cI cZ cQ) [.ref (h_t 0), .int a1] [nX10 cI cZ cQ h_t u_t] r0 [nX10 cI cZ cQ h_t u_t] := by
  refine MI.of (own := RX10) (by decide +kernel) rfl rfl (Nat.le_of_ble_eq_true rfl) (lv0 := [(0, .ref (h_t 0)), (1, .int a1)]) rfl ?_
  intro X O E
  unfold fX10_kind at hf
  refine r_ald_n O 1 rfl 0 rfl dX10_kind_0 ?_
  refine r_ild_n O 2 rfl 1 rfl dX10_kind_1 ?_
  obtain ⟨x2, hq2, hf⟩ := qb1_some hf
  refine k_VZ O 5 rfl (zX10_isWall (l := xl X) (D := xD X) (cI := cI) (cZ := cZ) (cQ := cQ) (h_t := h_t) hq2) (gV mlX10_140 mvX10_isWall izX10) rfl rfl rfl hdX10_isWall ⟨Nat.le_of_ble_eq_true rfl, Nat.le_of_ble_eq_true rfl⟩ rfl 0 rfl rfl rfl rfl (Nat.le_of_ble_eq_true rfl) ⟨Nat.zero_le _, Nat.zero_le _⟩ [0] rfl rfl rfl ([nX10 cI cZ cQ h_t u_t]) rfl dX10_kind_2 (fun hz2 => ?_)
  refine r_if_eq O 8 rfl 28 dX10_kind_5 (by decide) (fun hc5 => ?_) (fun hc5 => ?_)
  · rw [if_pos hc5] at hf
    refine r_ic O 29 rfl (-1) (by decide) dX10_kind_28 ?_
    obtain g0 := qe1 hf
    exact r_iret2 O E g0 rfl dX10_kind_29
  · rw [if_neg hc5] at hf
    refine r_ald_n O 9 rfl 0 rfl dX10_kind_8 ?_
    refine r_ild_n O 10 rfl 1 rfl dX10_kind_9 ?_
    refine r_ic O 11 rfl 5 (by decide) dX10_kind_10 ?_
    obtain ⟨x11, hq11, hf⟩ := qb1_some hf
    refine k_VI O 14 rfl (zX10_at (l := xl X) (D := xD X) (cI := cI) (cZ := cZ) (cQ := cQ) (h_t := h_t) hq11) (gV mlX10_129 mvX10_at izX10) rfl rfl rfl hdX10_at ⟨Nat.le_of_ble_eq_true rfl, Nat.le_of_ble_eq_true rfl⟩ rfl 0 rfl rfl rfl rfl (Nat.le_of_ble_eq_true rfl) ⟨Nat.zero_le _, Nat.zero_le _⟩ [0] rfl rfl rfl ([nX10 cI cZ cQ h_t u_t]) rfl dX10_kind_11 ?_
    refine r_bi O 16 rfl 10 (by decide) dX10_kind_14 ?_
    refine r_ald_n O 17 rfl 0 rfl dX10_kind_16 ?_
    refine r_ild_n O 18 rfl 1 rfl dX10_kind_17 ?_
    refine r_bi O 20 rfl 6 (by decide) dX10_kind_18 ?_
    obtain ⟨x20, hq20, hf⟩ := qb1_some hf
    refine k_VI O 23 rfl (zX10_at (l := xl X) (D := xD X) (cI := cI) (cZ := cZ) (cQ := cQ) (h_t := h_t) hq20) (gV mlX10_129 mvX10_at izX10) rfl rfl rfl hdX10_at ⟨Nat.le_of_ble_eq_true rfl, Nat.le_of_ble_eq_true rfl⟩ rfl 0 rfl rfl rfl rfl (Nat.le_of_ble_eq_true rfl) ⟨Nat.zero_le _, Nat.zero_le _⟩ [0] rfl rfl rfl ([nX10 cI cZ cQ h_t u_t]) rfl dX10_kind_20 ?_
    refine r_imul O 24 rfl dX10_kind_23 ?_
    refine r_iadd O 25 rfl dX10_kind_24 ?_
    refine r_goto O 29 dX10_kind_25 (by decide) ?_
    obtain g0 := qe1 hf
    exact r_iret2 O E g0 rfl dX10_kind_29
-- X10_appendText
def rmX10_appendText : Room := { frames := 0, cells := 0, slots := 0, locals := 0 }
set_option maxHeartbeats 4000000 in
set_option maxRecDepth 100000 in
theorem zX10_appendText {l : Launch} {D : va_G} {cI cZ cQ : ClassId} {h_t : Nat → Nat} {u_t : Pk} {a1 : Int32} {r0 : Int32} {v_t : Pk} (hf : fX10_appendText u_t a1 = some (r0, v_t)) : MI l yX10_appendText wsX10_appendText rmX10_appendText D (TY cI cZ cQ) [.ref (h_t 0), .int a1] [nX10 cI cZ cQ h_t u_t] r0 [nX10 cI cZ cQ h_t v_t] := by
  refine MI.of (own := RX10) (by decide +kernel) rfl rfl (Nat.le_of_ble_eq_true rfl) (lv0 := [(0, .ref (h_t 0)), (1, .int a1)]) rfl ?_
  intro X O E
  unfold fX10_appendText at hf
  refine r_ild_n O 1 rfl 1 rfl dX10_appendText_0 ?_
  refine r_bi O 3 rfl 32 (by decide) dX10_appendText_1 ?_
  refine r_icmp_lt O 6 rfl 12 dX10_appendText_3 (by decide) (fun hc3 => ?_) (fun hc3 => ?_)
  · rw [if_pos hc3] at hf
    refine r_bi O 14 rfl (-2) (by decide) dX10_appendText_12 ?_
    obtain ⟨g0, g1⟩ := qe2 hf
    exact r_iret2 O E g0 (by rw [g1]) dX10_appendText_14
  · rw [if_neg hc3] at hf
    refine r_ild_n O 7 rfl 1 rfl dX10_appendText_6 ?_
    refine r_bi O 9 rfl 126 (by decide) dX10_appendText_7 ?_
    refine r_icmp_le O 12 rfl 15 dX10_appendText_9 (by decide) (fun hc9 => ?_) (fun hc9 => ?_)
    · rw [if_pos hc9] at hf
      refine r_ald_n O 16 rfl 0 rfl dX10_appendText_15 ?_
      refine r_get (ref := RX10) (C := RX10) (T := TX10) (N := 70) O 19 rfl inBX10 0 6 rfl rfl rfl (by decide) flX10_150 rfl rfl dX10_appendText_16 ?_
      refine r_si O 22 rfl 300 (by decide) dX10_appendText_19 ?_
      refine r_icmp_ne O 25 rfl 28 dX10_appendText_22 (by decide) (fun hc22 => ?_) (fun hc22 => ?_)
      · rw [if_neg hc22] at hf
        refine r_ald_n O 29 rfl 0 rfl dX10_appendText_28 ?_
        refine r_get (ref := RX10) (C := RX10) (T := TX10) (N := 70) O 32 rfl inBX10 0 5 rfl rfl rfl (by decide) flX10_23 rfl rfl dX10_appendText_29 ?_
        refine r_ald_n O 33 rfl 0 rfl dX10_appendText_32 ?_
        refine r_get (ref := RX10) (C := RX10) (T := TX10) (N := 70) O 36 rfl inBX10 0 6 rfl rfl rfl (by decide) flX10_150 rfl rfl dX10_appendText_33 ?_
        refine r_ild_n O 37 rfl 1 rfl dX10_appendText_36 ?_
        obtain ⟨hin37, hf⟩ := qst_some hf
        obtain ⟨p37_t, ep37_t, hf⟩ := qn_some hf
        refine r_iast O 38 rfl 0 3 rfl rfl hin37 ([nX10 cI cZ cQ h_t p37_t]) (by rw [ep37_t]; rfl) dX10_appendText_37 ?_
        refine r_ald_n O 39 rfl 0 rfl dX10_appendText_38 ?_
        refine r_dup O 40 rfl dX10_appendText_39 rfl ?_
        refine r_get (ref := RX10) (C := RX10) (T := TX10) (N := 70) O 43 rfl inBX10 0 6 rfl rfl rfl (by decide) flX10_150 rfl rfl dX10_appendText_40 ?_
        refine r_ic O 44 rfl 1 (by decide) dX10_appendText_43 ?_
        refine r_iadd O 45 rfl dX10_appendText_44 ?_
        obtain ⟨p45_t, ep45_t, hf⟩ := qn_some hf
        refine r_put (ref := RX10) (C := RX10) (T := TX10) (N := 70) O 48 rfl inBX10 tyX10 tyX10_ok nmX10 0 6 rfl rfl rfl (by decide) flX10_150 rfl rfl rfl rfl (Nat.le_of_ble_eq_true rfl) ([nX10 cI cZ cQ h_t p45_t]) (by rw [ep45_t]; rfl) dX10_appendText_45 ?_
        refine r_ald_n O 49 rfl 0 rfl dX10_appendText_48 ?_
        refine r_get (ref := RX10) (C := RX10) (T := TX10) (N := 70) O 52 rfl inBX10 0 6 rfl rfl rfl (by decide) flX10_150 rfl rfl dX10_appendText_49 ?_
        obtain ⟨g0, g1⟩ := qe2 hf
        exact r_iret2 O E g0 (by rw [g1]) dX10_appendText_52
      · rw [if_pos hc22] at hf
        refine r_bi O 27 rfl (-3) (by decide) dX10_appendText_25 ?_
        obtain ⟨g0, g1⟩ := qe2 hf
        exact r_iret2 O E g0 (by rw [g1]) dX10_appendText_27
    · rw [if_neg hc9] at hf
      refine r_bi O 14 rfl (-2) (by decide) dX10_appendText_12 ?_
      obtain ⟨g0, g1⟩ := qe2 hf
      exact r_iret2 O E g0 (by rw [g1]) dX10_appendText_14
-- X10_clearText
def rmX10_clearText : Room := { frames := 0, cells := 0, slots := 0, locals := 0 }
set_option maxHeartbeats 4000000 in
set_option maxRecDepth 100000 in
theorem zX10_clearText {l : Launch} {D : va_G} {cI cZ cQ : ClassId} {h_t : Nat → Nat} {u_t : Pk} {r0 : Int32} {v_t : Pk} (hf : fX10_clearText u_t = some (r0, v_t)) : MI l yX10_clearText wsX10_clearText rmX10_clearText D (TY cI cZ cQ) [.ref (h_t 0)] [nX10 cI cZ cQ h_t u_t] r0 [nX10 cI cZ cQ h_t v_t] := by
  refine MI.of (own := RX10) (by decide +kernel) rfl rfl (Nat.le_of_ble_eq_true rfl) (lv0 := [(0, .ref (h_t 0))]) rfl ?_
  intro X O E
  unfold fX10_clearText at hf
  refine r_ald_n O 1 rfl 0 rfl dX10_clearText_0 ?_
  refine r_get (ref := RX10) (C := RX10) (T := TX10) (N := 70) O 4 rfl inBX10 0 6 rfl rfl rfl (by decide) flX10_150 rfl rfl dX10_clearText_1 ?_
  obtain ⟨x4, ex4, hf⟩ := qn_some hf
  rw [← ex4]
  refine r_ist_n O 5 rfl rfl [(1, .int x4), (0, .ref (h_t 0))] dX10_clearText_4 (by decide) rfl ?_
  refine r_ald_n O 6 rfl 1 rfl dX10_clearText_5 ?_
  refine r_ic O 7 rfl 0 (by decide) dX10_clearText_6 ?_
  obtain ⟨p7_t, ep7_t, hf⟩ := qn_some hf
  refine r_put (ref := RX10) (C := RX10) (T := TX10) (N := 70) O 10 rfl inBX10 tyX10 tyX10_ok nmX10 0 6 rfl rfl rfl (by decide) flX10_150 rfl rfl rfl rfl (Nat.le_of_ble_eq_true rfl) ([nX10 cI cZ cQ h_t p7_t]) (by rw [ep7_t]; rfl) dX10_clearText_7 ?_
  refine r_ild_n O 11 rfl 0 rfl dX10_clearText_10 ?_
  obtain ⟨g0, g1⟩ := qe2 hf
  exact r_iret2 O E g0 (by rw [g1]) dX10_clearText_11
-- X10_here
def rmX10_here : Room := { frames := 0, cells := 0, slots := 0, locals := 0 }
set_option maxHeartbeats 4000000 in
set_option maxRecDepth 100000 in
theorem zX10_here {l : Launch} {D : va_G} {cI cZ cQ : ClassId} {h_t : Nat → Nat} {u_t : Pk} {r0 : Int32} (hf : fX10_here u_t = some r0) : MI l yX10_here wsX10_here rmX10_here D (TY cI cZ cQ) [.ref (h_t 0)] [nX10 cI cZ cQ h_t u_t] r0 [nX10 cI cZ cQ h_t u_t] := by
  refine MI.of (own := RX10) (by decide +kernel) rfl rfl (Nat.le_of_ble_eq_true rfl) (lv0 := [(0, .ref (h_t 0))]) rfl ?_
  intro X O E
  unfold fX10_here at hf
  refine r_ald_n O 1 rfl 0 rfl dX10_here_0 ?_
  refine r_get (ref := RX10) (C := RX10) (T := TX10) (N := 70) O 4 rfl inBX10 0 14 rfl rfl rfl (by decide) flX10_153 rfl rfl dX10_here_1 ?_
  refine r_ald_n O 5 rfl 0 rfl dX10_here_4 ?_
  refine r_get (ref := RX10) (C := RX10) (T := TX10) (N := 70) O 8 rfl inBX10 0 6 rfl rfl rfl (by decide) flX10_150 rfl rfl dX10_here_5 ?_
  refine r_icmp_ge O 11 rfl 23 dX10_here_8 (by decide) (fun hc8 => ?_) (fun hc8 => ?_)
  · rw [if_pos hc8] at hf
    refine r_ic O 24 rfl 0 (by decide) dX10_here_23 ?_
    obtain g0 := qe1 hf
    exact r_iret2 O E g0 rfl dX10_here_24
  · rw [if_neg hc8] at hf
    refine r_ald_n O 12 rfl 0 rfl dX10_here_11 ?_
    refine r_get (ref := RX10) (C := RX10) (T := TX10) (N := 70) O 15 rfl inBX10 0 5 rfl rfl rfl (by decide) flX10_23 rfl rfl dX10_here_12 ?_
    refine r_ald_n O 16 rfl 0 rfl dX10_here_15 ?_
    refine r_get (ref := RX10) (C := RX10) (T := TX10) (N := 70) O 19 rfl inBX10 0 14 rfl rfl rfl (by decide) flX10_153 rfl rfl dX10_here_16 ?_
    obtain ⟨x19, ex19, hin19, hf⟩ := qld_some hf
    refine r_iald O 20 rfl 0 3 rfl rfl hin19 dX10_here_19 ?_
    rw [← ex19]
    refine r_goto O 24 dX10_here_20 (by decide) ?_
    obtain g0 := qe1 hf
    exact r_iret2 O E g0 rfl dX10_here_24
-- X10_fails
def rmX10_fails : Room := { frames := 0, cells := 0, slots := 0, locals := 0 }
set_option maxHeartbeats 4000000 in
set_option maxRecDepth 100000 in
theorem zX10_fails {l : Launch} {D : va_G} {cI cZ cQ : ClassId} {h_t : Nat → Nat} {u_t : Pk} {a1 : Int32} {a2 : Int32} {v_t : Pk} (hf : fX10_fails u_t a1 a2 = some v_t) : MV l yX10_fails wsX10_fails rmX10_fails D (TY cI cZ cQ) [.ref (h_t 0), .int a1, .int a2] [nX10 cI cZ cQ h_t u_t] [nX10 cI cZ cQ h_t v_t] := by
  refine MV.of (own := RX10) (by decide +kernel) rfl rfl (Nat.le_of_ble_eq_true rfl) (lv0 := [(0, .ref (h_t 0)), (1, .int a1), (2, .int a2)]) rfl ?_
  intro X O E
  unfold fX10_fails at hf
  refine r_ald_n O 1 rfl 0 rfl dX10_fails_0 ?_
  refine r_get (ref := RX10) (C := RX10) (T := TX10) (N := 70) O 4 rfl inBX10 0 15 rfl rfl rfl (by decide) flX10_156 rfl rfl dX10_fails_1 ?_
  refine r_if_ne O 7 rfl 17 dX10_fails_4 (by decide) (fun hc4 => ?_) (fun hc4 => ?_)
  · rw [if_neg hc4] at hf
    obtain g0 := qe1 hf
    exact r_vret2 O E (by rw [g0]) dX10_fails_17
  · rw [if_pos hc4] at hf
    refine r_ald_n O 8 rfl 0 rfl dX10_fails_7 ?_
    refine r_ild_n O 9 rfl 1 rfl dX10_fails_8 ?_
    obtain ⟨p9_t, ep9_t, hf⟩ := qn_some hf
    refine r_put (ref := RX10) (C := RX10) (T := TX10) (N := 70) O 12 rfl inBX10 tyX10 tyX10_ok nmX10 0 15 rfl rfl rfl (by decide) flX10_156 rfl rfl rfl rfl (Nat.le_of_ble_eq_true rfl) ([nX10 cI cZ cQ h_t p9_t]) (by rw [ep9_t]; rfl) dX10_fails_9 ?_
    refine r_ald_n O 13 rfl 0 rfl dX10_fails_12 ?_
    refine r_ild_n O 14 rfl 2 rfl dX10_fails_13 ?_
    obtain ⟨p14_t, ep14_t, hf⟩ := qn_some hf
    refine r_put (ref := RX10) (C := RX10) (T := TX10) (N := 70) O 17 rfl inBX10 tyX10 tyX10_ok nmX10 0 16 rfl rfl rfl (by decide) flX10_159 rfl rfl rfl rfl (Nat.le_of_ble_eq_true rfl) ([nX10 cI cZ cQ h_t p14_t]) (by rw [ep14_t]; rfl) dX10_fails_14 ?_
    obtain g0 := qe1 hf
    exact r_vret2 O E (by rw [g0]) dX10_fails_17
-- X10_isDigit
def rmX10_isDigit : Room := { frames := 1, cells := 0, slots := 0, locals := 20 }
set_option maxHeartbeats 4000000 in
set_option maxRecDepth 100000 in
theorem zX10_isDigit {l : Launch} {D : va_G} {cI cZ cQ : ClassId} {h_t : Nat → Nat} {u_t : Pk} {r0 : Int32} (hf : fX10_isDigit u_t = some r0) : MZ l yX10_isDigit wsX10_isDigit rmX10_isDigit D (TY cI cZ cQ) [.ref (h_t 0)] [nX10 cI cZ cQ h_t u_t] r0 [nX10 cI cZ cQ h_t u_t] := by
  refine MZ.of (own := RX10) (by decide +kernel) rfl rfl (Nat.le_of_ble_eq_true rfl) (lv0 := [(0, .ref (h_t 0))]) rfl ?_
  intro X O E
  unfold fX10_isDigit at hf
  refine r_ald_n O 1 rfl 0 rfl dX10_isDigit_0 ?_
  obtain ⟨x1, hq1, hf⟩ := qb1_some hf
  refine k_VI O 4 rfl (zX10_here (l := xl X) (D := xD X) (cI := cI) (cZ := cZ) (cQ := cQ) (h_t := h_t) hq1) (gV mlX10_162 mvX10_here izX10) rfl rfl rfl hdX10_here ⟨Nat.le_of_ble_eq_true rfl, Nat.le_of_ble_eq_true rfl⟩ rfl 0 rfl rfl rfl rfl (Nat.le_of_ble_eq_true rfl) ⟨Nat.zero_le _, Nat.zero_le _⟩ [0] rfl rfl rfl ([nX10 cI cZ cQ h_t u_t]) rfl dX10_isDigit_1 ?_
  refine r_bi O 6 rfl 48 (by decide) dX10_isDigit_4 ?_
  refine r_icmp_lt O 9 rfl 22 dX10_isDigit_6 (by decide) (fun hc6 => ?_) (fun hc6 => ?_)
  · rw [if_pos hc6] at hf
    refine r_ic O 23 rfl 0 (by decide) dX10_isDigit_22 ?_
    obtain g0 := qe1 hf
    exact r_zret2 O E g0 rfl rfl dX10_isDigit_23
  · rw [if_neg hc6] at hf
    refine r_ald_n O 10 rfl 0 rfl dX10_isDigit_9 ?_
    obtain ⟨x10, hq10, hf⟩ := qb1_some hf
    refine k_VI O 13 rfl (zX10_here (l := xl X) (D := xD X) (cI := cI) (cZ := cZ) (cQ := cQ) (h_t := h_t) hq10) (gV mlX10_162 mvX10_here izX10) rfl rfl rfl hdX10_here ⟨Nat.le_of_ble_eq_true rfl, Nat.le_of_ble_eq_true rfl⟩ rfl 0 rfl rfl rfl rfl (Nat.le_of_ble_eq_true rfl) ⟨Nat.zero_le _, Nat.zero_le _⟩ [0] rfl rfl rfl ([nX10 cI cZ cQ h_t u_t]) rfl dX10_isDigit_10 ?_
    refine r_bi O 15 rfl 57 (by decide) dX10_isDigit_13 ?_
    refine r_icmp_gt O 18 rfl 22 dX10_isDigit_15 (by decide) (fun hc15 => ?_) (fun hc15 => ?_)
    · rw [if_pos hc15] at hf
      refine r_ic O 23 rfl 0 (by decide) dX10_isDigit_22 ?_
      obtain g0 := qe1 hf
      exact r_zret2 O E g0 rfl rfl dX10_isDigit_23
    · rw [if_neg hc15] at hf
      refine r_ic O 19 rfl 1 (by decide) dX10_isDigit_18 ?_
      refine r_goto O 23 dX10_isDigit_19 (by decide) ?_
      obtain g0 := qe1 hf
      exact r_zret2 O E g0 rfl rfl dX10_isDigit_23
-- X10_number
def rmX10_number : Room := { frames := 2, cells := 0, slots := 0, locals := 40 }
set_option maxHeartbeats 4000000 in
set_option maxRecDepth 100000 in
theorem zX10_number {l : Launch} {D : va_G} {cI cZ cQ : ClassId} {h_t : Nat → Nat} {u_t : Pk} {a1 : Int32} {r0 : Int32} {v_t : Pk} (hf : fX10_number u_t a1 = some (r0, v_t)) : MI l yX10_number wsX10_number rmX10_number D (TY cI cZ cQ) [.ref (h_t 0), .int a1] [nX10 cI cZ cQ h_t u_t] r0 [nX10 cI cZ cQ h_t v_t] := by
  refine MI.of (own := RX10) (by decide +kernel) rfl rfl (Nat.le_of_ble_eq_true rfl) (lv0 := [(0, .ref (h_t 0)), (1, .int a1)]) rfl ?_
  intro X O E
  have B71 : ∀ (w_t : Pk) (y1 : Int32) (y2 : Int32) (y3 : Int32), fX10_number_b71 w_t y1 y2 y3 = some (r0, v_t) → BK X 4 0 0 71 ([nX10 cI cZ cQ h_t w_t]) [(0, .ref (h_t 0)), (1, .int y1), (2, .int y2), (3, .int y3)] [] := by
    intro w_t y1 y2 y3 hf
    unfold fX10_number_b71 at hf
    refine r_ild_n O 72 rfl 3 rfl dX10_number_71 ?_
    refine r_bi O 74 rfl 63 (by decide) dX10_number_72 ?_
    refine r_icmp_le O 77 rfl 86 dX10_number_74 (by decide) (fun hc74 => ?_) (fun hc74 => ?_)
    · rw [if_pos hc74] at hf
      refine r_ald_n O 87 rfl 0 rfl dX10_number_86 ?_
      obtain ⟨x87, hq87, hf⟩ := qb1_some hf
      refine k_VI O 90 rfl (zX10_here (l := xl X) (D := xD X) (cI := cI) (cZ := cZ) (cQ := cQ) (h_t := h_t) hq87) (gV mlX10_162 mvX10_here izX10) rfl rfl rfl hdX10_here ⟨Nat.le_of_ble_eq_true rfl, Nat.le_of_ble_eq_true rfl⟩ rfl 0 rfl rfl rfl rfl (Nat.le_of_ble_eq_true rfl) ⟨Nat.zero_le _, Nat.zero_le _⟩ [0] rfl rfl rfl ([nX10 cI cZ cQ h_t w_t]) rfl dX10_number_87 ?_
      refine r_ild_n O 91 rfl 1 rfl dX10_number_90 ?_
      refine r_icmp_eq O 94 rfl 106 dX10_number_91 (by decide) (fun hc91 => ?_) (fun hc91 => ?_)
      · rw [if_pos hc91] at hf
        refine r_ald_n O 107 rfl 0 rfl dX10_number_106 ?_
        refine r_dup O 108 rfl dX10_number_107 rfl ?_
        refine r_get (ref := RX10) (C := RX10) (T := TX10) (N := 70) O 111 rfl inBX10 0 14 rfl rfl rfl (by decide) flX10_153 rfl rfl dX10_number_108 ?_
        refine r_ic O 112 rfl 1 (by decide) dX10_number_111 ?_
        refine r_iadd O 113 rfl dX10_number_112 ?_
        obtain ⟨p113_t, ep113_t, hf⟩ := qn_some hf
        refine r_put (ref := RX10) (C := RX10) (T := TX10) (N := 70) O 116 rfl inBX10 tyX10 tyX10_ok nmX10 0 14 rfl rfl rfl (by decide) flX10_153 rfl rfl rfl rfl (Nat.le_of_ble_eq_true rfl) ([nX10 cI cZ cQ h_t p113_t]) (by rw [ep113_t]; rfl) dX10_number_113 ?_
        refine r_ild_n O 117 rfl 3 rfl dX10_number_116 ?_
        obtain ⟨g0, g1⟩ := qe2 hf
        exact r_iret2 O E g0 (by rw [g1]) dX10_number_117
      · rw [if_neg hc91] at hf
        refine r_ald_n O 95 rfl 0 rfl dX10_number_94 ?_
        refine r_ic O 96 rfl 1 (by decide) dX10_number_95 ?_
        refine r_ald_n O 97 rfl 0 rfl dX10_number_96 ?_
        refine r_get (ref := RX10) (C := RX10) (T := TX10) (N := 70) O 100 rfl inBX10 0 14 rfl rfl rfl (by decide) flX10_153 rfl rfl dX10_number_97 ?_
        obtain ⟨p100_t, hq100, hf⟩ := qb1_some hf
        refine k_VV O 103 rfl (zX10_fails (l := xl X) (D := xD X) (cI := cI) (cZ := cZ) (cQ := cQ) (h_t := h_t) hq100) (gV mlX10_169 mvX10_fails izX10) rfl rfl rfl hdX10_fails ⟨Nat.le_of_ble_eq_true rfl, Nat.le_of_ble_eq_true rfl⟩ rfl 0 rfl rfl rfl rfl (Nat.le_of_ble_eq_true rfl) ⟨Nat.zero_le _, Nat.zero_le _⟩ [0] rfl rfl rfl ([nX10 cI cZ cQ h_t p100_t]) rfl dX10_number_100 ?_
        refine r_goto O 116 dX10_number_103 (by decide) ?_
        refine r_ild_n O 117 rfl 3 rfl dX10_number_116 ?_
        obtain ⟨g0, g1⟩ := qe2 hf
        exact r_iret2 O E g0 (by rw [g1]) dX10_number_117
    · rw [if_neg hc74] at hf
      refine r_ald_n O 78 rfl 0 rfl dX10_number_77 ?_
      refine r_ic O 79 rfl 2 (by decide) dX10_number_78 ?_
      refine r_ild_n O 80 rfl 2 rfl dX10_number_79 ?_
      obtain ⟨p80_t, hq80, hf⟩ := qb1_some hf
      refine k_VV O 83 rfl (zX10_fails (l := xl X) (D := xD X) (cI := cI) (cZ := cZ) (cQ := cQ) (h_t := h_t) hq80) (gV mlX10_169 mvX10_fails izX10) rfl rfl rfl hdX10_fails ⟨Nat.le_of_ble_eq_true rfl, Nat.le_of_ble_eq_true rfl⟩ rfl 0 rfl rfl rfl rfl (Nat.le_of_ble_eq_true rfl) ⟨Nat.zero_le _, Nat.zero_le _⟩ [0] rfl rfl rfl ([nX10 cI cZ cQ h_t p80_t]) rfl dX10_number_80 ?_
      refine r_goto O 116 dX10_number_83 (by decide) ?_
      refine r_ild_n O 117 rfl 3 rfl dX10_number_116 ?_
      obtain ⟨g0, g1⟩ := qe2 hf
      exact r_iret2 O E g0 (by rw [g1]) dX10_number_117
  unfold fX10_number at hf
  refine r_ald_n O 1 rfl 0 rfl dX10_number_0 ?_
  refine r_get (ref := RX10) (C := RX10) (T := TX10) (N := 70) O 4 rfl inBX10 0 14 rfl rfl rfl (by decide) flX10_153 rfl rfl dX10_number_1 ?_
  obtain ⟨x4, ex4, hf⟩ := qn_some hf
  rw [← ex4]
  refine r_ist_n O 5 rfl rfl [(2, .int x4), (0, .ref (h_t 0)), (1, .int a1)] dX10_number_4 (by decide) rfl ?_
  refine r_ald_n O 6 rfl 1 rfl dX10_number_5 ?_
  obtain ⟨x6, hq6, hf⟩ := qb1_some hf
  refine k_VZ O 9 rfl (zX10_isDigit (l := xl X) (D := xD X) (cI := cI) (cZ := cZ) (cQ := cQ) (h_t := h_t) hq6) (gV mlX10_165 mvX10_isDigit izX10) rfl rfl rfl hdX10_isDigit ⟨Nat.le_of_ble_eq_true rfl, Nat.le_of_ble_eq_true rfl⟩ rfl 0 rfl rfl rfl rfl (Nat.le_of_ble_eq_true rfl) ⟨Nat.zero_le _, Nat.zero_le _⟩ [0] rfl rfl rfl ([nX10 cI cZ cQ h_t u_t]) rfl dX10_number_6 (fun hz6 => ?_)
  refine r_if_ne O 12 rfl 23 dX10_number_9 (by decide) (fun hc9 => ?_) (fun hc9 => ?_)
  · rw [if_neg hc9] at hf
    refine r_ald_n O 24 rfl 1 rfl dX10_number_23 ?_
    obtain ⟨x24, hq24, hf⟩ := qb1_some hf
    refine k_VI O 27 rfl (zX10_here (l := xl X) (D := xD X) (cI := cI) (cZ := cZ) (cQ := cQ) (h_t := h_t) hq24) (gV mlX10_162 mvX10_here izX10) rfl rfl rfl hdX10_here ⟨Nat.le_of_ble_eq_true rfl, Nat.le_of_ble_eq_true rfl⟩ rfl 0 rfl rfl rfl rfl (Nat.le_of_ble_eq_true rfl) ⟨Nat.zero_le _, Nat.zero_le _⟩ [0] rfl rfl rfl ([nX10 cI cZ cQ h_t u_t]) rfl dX10_number_24 ?_
    refine r_bi O 29 rfl 48 (by decide) dX10_number_27 ?_
    refine r_isub O 30 rfl dX10_number_29 ?_
    obtain ⟨x30, ex30, hf⟩ := qn_some hf
    rw [← ex30]
    refine r_ist_n O 31 rfl rfl [(3, .int x30), (2, .int x4), (0, .ref (h_t 0)), (1, .int a1)] dX10_number_30 (by decide) rfl ?_
    refine r_ald_n O 32 rfl 2 rfl dX10_number_31 ?_
    refine r_dup O 33 rfl dX10_number_32 rfl ?_
    refine r_get (ref := RX10) (C := RX10) (T := TX10) (N := 70) O 36 rfl inBX10 0 14 rfl rfl rfl (by decide) flX10_153 rfl rfl dX10_number_33 ?_
    refine r_ic O 37 rfl 1 (by decide) dX10_number_36 ?_
    refine r_iadd O 38 rfl dX10_number_37 ?_
    obtain ⟨p38_t, ep38_t, hf⟩ := qn_some hf
    refine r_put (ref := RX10) (C := RX10) (T := TX10) (N := 70) O 41 rfl inBX10 tyX10 tyX10_ok nmX10 0 14 rfl rfl rfl (by decide) flX10_153 rfl rfl rfl rfl (Nat.le_of_ble_eq_true rfl) ([nX10 cI cZ cQ h_t p38_t]) (by rw [ep38_t]; rfl) dX10_number_38 ?_
    refine r_ald_n O 42 rfl 2 rfl dX10_number_41 ?_
    obtain ⟨x42, hq42, hf⟩ := qb1_some hf
    refine k_VZ O 45 rfl (zX10_isDigit (l := xl X) (D := xD X) (cI := cI) (cZ := cZ) (cQ := cQ) (h_t := h_t) hq42) (gV mlX10_165 mvX10_isDigit izX10) rfl rfl rfl hdX10_isDigit ⟨Nat.le_of_ble_eq_true rfl, Nat.le_of_ble_eq_true rfl⟩ rfl 0 rfl rfl rfl rfl (Nat.le_of_ble_eq_true rfl) ⟨Nat.zero_le _, Nat.zero_le _⟩ [0] rfl rfl rfl ([nX10 cI cZ cQ h_t p38_t]) rfl dX10_number_42 (fun hz42 => ?_)
    refine r_if_eq O 48 rfl 71 dX10_number_45 (by decide) (fun hc45 => ?_) (fun hc45 => ?_)
    · rw [if_pos hc45] at hf
      refine r_lv [2, 3, 1, 0] rfl ?_
      exact B71 _ _ _ _ hf
    · rw [if_neg hc45] at hf
      refine r_bi O 50 rfl 10 (by decide) dX10_number_48 ?_
      refine r_ild_n O 51 rfl 0 rfl dX10_number_50 ?_
      refine r_imul O 52 rfl dX10_number_51 ?_
      refine r_ald_n O 53 rfl 2 rfl dX10_number_52 ?_
      obtain ⟨x53, hq53, hf⟩ := qb1_some hf
      refine k_VI O 56 rfl (zX10_here (l := xl X) (D := xD X) (cI := cI) (cZ := cZ) (cQ := cQ) (h_t := h_t) hq53) (gV mlX10_162 mvX10_here izX10) rfl rfl rfl hdX10_here ⟨Nat.le_of_ble_eq_true rfl, Nat.le_of_ble_eq_true rfl⟩ rfl 0 rfl rfl rfl rfl (Nat.le_of_ble_eq_true rfl) ⟨Nat.zero_le _, Nat.zero_le _⟩ [0] rfl rfl rfl ([nX10 cI cZ cQ h_t p38_t]) rfl dX10_number_53 ?_
      refine r_iadd O 57 rfl dX10_number_56 ?_
      refine r_bi O 59 rfl 48 (by decide) dX10_number_57 ?_
      refine r_isub O 60 rfl dX10_number_59 ?_
      obtain ⟨x60, ex60, hf⟩ := qn_some hf
      rw [← ex60]
      refine r_ist_n O 61 rfl rfl [(3, .int x60), (2, .int x4), (0, .ref (h_t 0)), (1, .int a1)] dX10_number_60 (by decide) rfl ?_
      refine r_ald_n O 62 rfl 2 rfl dX10_number_61 ?_
      refine r_dup O 63 rfl dX10_number_62 rfl ?_
      refine r_get (ref := RX10) (C := RX10) (T := TX10) (N := 70) O 66 rfl inBX10 0 14 rfl rfl rfl (by decide) flX10_153 rfl rfl dX10_number_63 ?_
      refine r_ic O 67 rfl 1 (by decide) dX10_number_66 ?_
      refine r_iadd O 68 rfl dX10_number_67 ?_
      obtain ⟨p68_t, ep68_t, hf⟩ := qn_some hf
      refine r_put (ref := RX10) (C := RX10) (T := TX10) (N := 70) O 71 rfl inBX10 tyX10 tyX10_ok nmX10 0 14 rfl rfl rfl (by decide) flX10_153 rfl rfl rfl rfl (Nat.le_of_ble_eq_true rfl) ([nX10 cI cZ cQ h_t p68_t]) (by rw [ep68_t]; rfl) dX10_number_68 ?_
      refine r_lv [2, 3, 1, 0] rfl ?_
      exact B71 _ _ _ _ hf
  · rw [if_pos hc9] at hf
    refine r_ald_n O 13 rfl 1 rfl dX10_number_12 ?_
    refine r_ic O 14 rfl 1 (by decide) dX10_number_13 ?_
    refine r_ald_n O 15 rfl 1 rfl dX10_number_14 ?_
    refine r_get (ref := RX10) (C := RX10) (T := TX10) (N := 70) O 18 rfl inBX10 0 14 rfl rfl rfl (by decide) flX10_153 rfl rfl dX10_number_15 ?_
    obtain ⟨p18_t, hq18, hf⟩ := qb1_some hf
    refine k_VV O 21 rfl (zX10_fails (l := xl X) (D := xD X) (cI := cI) (cZ := cZ) (cQ := cQ) (h_t := h_t) hq18) (gV mlX10_169 mvX10_fails izX10) rfl rfl rfl hdX10_fails ⟨Nat.le_of_ble_eq_true rfl, Nat.le_of_ble_eq_true rfl⟩ rfl 0 rfl rfl rfl rfl (Nat.le_of_ble_eq_true rfl) ⟨Nat.zero_le _, Nat.zero_le _⟩ [0] rfl rfl rfl ([nX10 cI cZ cQ h_t p18_t]) rfl dX10_number_18 ?_
    refine r_ic O 22 rfl 0 (by decide) dX10_number_21 ?_
    obtain ⟨g0, g1⟩ := qe2 hf
    exact r_iret2 O E g0 (by rw [g1]) dX10_number_22
-- X10_readItem
def rmX10_readItem : Room := { frames := 3, cells := 0, slots := 0, locals := 63 }
set_option maxHeartbeats 4000000 in
set_option maxRecDepth 100000 in
theorem zX10_readItem {l : Launch} {D : va_G} {cI cZ cQ : ClassId} {h_t : Nat → Nat} {u_t : Pk} {a1 : Int32} {a2 : Int32} {v_t : Pk} (hf : fX10_readItem u_t a1 a2 = some v_t) : MV l yX10_readItem wsX10_readItem rmX10_readItem D (TY cI cZ cQ) [.ref (h_t 0), .int a1, .int a2] [nX10 cI cZ cQ h_t u_t] [nX10 cI cZ cQ h_t v_t] := by
  refine MV.of (own := RX10) (by decide +kernel) rfl rfl (Nat.le_of_ble_eq_true rfl) (lv0 := [(0, .ref (h_t 0)), (1, .int a1), (2, .int a2)]) rfl ?_
  intro X O E
  have B121 : ∀ (w_t : Pk) (y1 : Int32), fX10_readItem_b121 w_t y1 = some v_t → BK X 5 0 0 121 ([nX10 cI cZ cQ h_t w_t]) [(0, .ref (h_t 0)), (1, .int y1)] [] := by
    intro w_t y1 hf
    unfold fX10_readItem_b121 at hf
    refine r_ald_n O 122 rfl 0 rfl dX10_readItem_121 ?_
    refine r_get (ref := RX10) (C := RX10) (T := TX10) (N := 70) O 125 rfl inBX10 0 15 rfl rfl rfl (by decide) flX10_156 rfl rfl dX10_readItem_122 ?_
    refine r_if_ne O 128 rfl 189 dX10_readItem_125 (by decide) (fun hc125 => ?_) (fun hc125 => ?_)
    · rw [if_neg hc125] at hf
      obtain g0 := qe1 hf
      exact r_vret2 O E (by rw [g0]) dX10_readItem_189
    · rw [if_pos hc125] at hf
      refine r_ald_n O 129 rfl 0 rfl dX10_readItem_128 ?_
      refine r_get (ref := RX10) (C := RX10) (T := TX10) (N := 70) O 132 rfl inBX10 0 17 rfl rfl rfl (by decide) flX10_44 rfl rfl dX10_readItem_129 ?_
      refine r_bi O 134 rfl 7 (by decide) dX10_readItem_132 ?_
      refine r_ild_n O 135 rfl 1 rfl dX10_readItem_134 ?_
      refine r_imul O 136 rfl dX10_readItem_135 ?_
      refine r_ic O 137 rfl 1 (by decide) dX10_readItem_136 ?_
      refine r_iadd O 138 rfl dX10_readItem_137 ?_
      obtain ⟨x138, ex138, hin138, hf⟩ := qld_some hf
      refine r_iald O 139 rfl 0 5 rfl rfl hin138 dX10_readItem_138 ?_
      rw [← ex138]
      refine r_ald_n O 140 rfl 0 rfl dX10_readItem_139 ?_
      refine r_get (ref := RX10) (C := RX10) (T := TX10) (N := 70) O 143 rfl inBX10 0 17 rfl rfl rfl (by decide) flX10_44 rfl rfl dX10_readItem_140 ?_
      refine r_bi O 145 rfl 7 (by decide) dX10_readItem_143 ?_
      refine r_ild_n O 146 rfl 1 rfl dX10_readItem_145 ?_
      refine r_imul O 147 rfl dX10_readItem_146 ?_
      refine r_ic O 148 rfl 3 (by decide) dX10_readItem_147 ?_
      refine r_iadd O 149 rfl dX10_readItem_148 ?_
      obtain ⟨x149, ex149, hin149, hf⟩ := qld_some hf
      refine r_iald O 150 rfl 0 5 rfl rfl hin149 dX10_readItem_149 ?_
      rw [← ex149]
      refine r_icmp_ne O 153 rfl 189 dX10_readItem_150 (by decide) (fun hc150 => ?_) (fun hc150 => ?_)
      · rw [if_neg hc150] at hf
        obtain g0 := qe1 hf
        exact r_vret2 O E (by rw [g0]) dX10_readItem_189
      · rw [if_pos hc150] at hf
        refine r_ald_n O 154 rfl 0 rfl dX10_readItem_153 ?_
        refine r_get (ref := RX10) (C := RX10) (T := TX10) (N := 70) O 157 rfl inBX10 0 17 rfl rfl rfl (by decide) flX10_44 rfl rfl dX10_readItem_154 ?_
        refine r_bi O 159 rfl 7 (by decide) dX10_readItem_157 ?_
        refine r_ild_n O 160 rfl 1 rfl dX10_readItem_159 ?_
        refine r_imul O 161 rfl dX10_readItem_160 ?_
        refine r_ic O 162 rfl 2 (by decide) dX10_readItem_161 ?_
        refine r_iadd O 163 rfl dX10_readItem_162 ?_
        obtain ⟨x163, ex163, hin163, hf⟩ := qld_some hf
        refine r_iald O 164 rfl 0 5 rfl rfl hin163 dX10_readItem_163 ?_
        rw [← ex163]
        refine r_ald_n O 165 rfl 0 rfl dX10_readItem_164 ?_
        refine r_get (ref := RX10) (C := RX10) (T := TX10) (N := 70) O 168 rfl inBX10 0 17 rfl rfl rfl (by decide) flX10_44 rfl rfl dX10_readItem_165 ?_
        refine r_bi O 170 rfl 7 (by decide) dX10_readItem_168 ?_
        refine r_ild_n O 171 rfl 1 rfl dX10_readItem_170 ?_
        refine r_imul O 172 rfl dX10_readItem_171 ?_
        refine r_ic O 173 rfl 4 (by decide) dX10_readItem_172 ?_
        refine r_iadd O 174 rfl dX10_readItem_173 ?_
        obtain ⟨x174, ex174, hin174, hf⟩ := qld_some hf
        refine r_iald O 175 rfl 0 5 rfl rfl hin174 dX10_readItem_174 ?_
        rw [← ex174]
        refine r_icmp_ne O 178 rfl 189 dX10_readItem_175 (by decide) (fun hc175 => ?_) (fun hc175 => ?_)
        · rw [if_neg hc175] at hf
          obtain g0 := qe1 hf
          exact r_vret2 O E (by rw [g0]) dX10_readItem_189
        · rw [if_pos hc175] at hf
          refine r_ald_n O 179 rfl 0 rfl dX10_readItem_178 ?_
          refine r_ic O 180 rfl 3 (by decide) dX10_readItem_179 ?_
          refine r_ald_n O 181 rfl 0 rfl dX10_readItem_180 ?_
          refine r_get (ref := RX10) (C := RX10) (T := TX10) (N := 70) O 184 rfl inBX10 0 14 rfl rfl rfl (by decide) flX10_153 rfl rfl dX10_readItem_181 ?_
          refine r_ic O 185 rfl 1 (by decide) dX10_readItem_184 ?_
          refine r_isub O 186 rfl dX10_readItem_185 ?_
          obtain ⟨p186_t, hq186, hf⟩ := qb1_some hf
          refine k_VV O 189 rfl (zX10_fails (l := xl X) (D := xD X) (cI := cI) (cZ := cZ) (cQ := cQ) (h_t := h_t) hq186) (gV mlX10_169 mvX10_fails izX10) rfl rfl rfl hdX10_fails ⟨Nat.le_of_ble_eq_true rfl, Nat.le_of_ble_eq_true rfl⟩ rfl 0 rfl rfl rfl rfl (Nat.le_of_ble_eq_true rfl) ⟨Nat.zero_le _, Nat.zero_le _⟩ [0] rfl rfl rfl ([nX10 cI cZ cQ h_t p186_t]) rfl dX10_readItem_186 ?_
          obtain g0 := qe1 hf
          exact r_vret2 O E (by rw [g0]) dX10_readItem_189
  have B111 : ∀ (rec73 : Pk → Int32 → Int32 → Option (Pk)), (∀ (w_t : Pk) (y1 : Int32) (y4 : Int32), rec73 w_t y1 y4 = some v_t → BK X 5 0 0 73 ([nX10 cI cZ cQ h_t w_t]) [(0, .ref (h_t 0)), (1, .int y1), (4, .int y4)] []) → ∀ (w_t : Pk) (y1 : Int32) (y4 : Int32) (z1 : Int32) (z3 : Int32), fX10_readItem_b111 rec73 w_t y1 y4 z1 z3 = some v_t → BK X 5 0 0 111 ([nX10 cI cZ cQ h_t w_t]) [(0, .ref (h_t 0)), (1, .int y1), (4, .int y4)] [.int z3, .ref (h_t 0), .int z1, .ref (h_t 18)] := by
    intro rec73 hrec73 w_t y1 y4 z1 z3 hf
    unfold fX10_readItem_b111 at hf
    obtain ⟨x111, p111_t, hq111, hf⟩ := qb2_some hf
    refine k_VI O 114 rfl (zX10_number (l := xl X) (D := xD X) (cI := cI) (cZ := cZ) (cQ := cQ) (h_t := h_t) hq111) (gV mlX10_176 mvX10_number izX10) rfl rfl rfl hdX10_number ⟨Nat.le_of_ble_eq_true rfl, Nat.le_of_ble_eq_true rfl⟩ rfl 0 rfl rfl rfl rfl (Nat.le_of_ble_eq_true rfl) ⟨Nat.zero_le _, Nat.zero_le _⟩ [0] rfl rfl rfl ([nX10 cI cZ cQ h_t p111_t]) rfl dX10_readItem_111 ?_
    obtain ⟨hin114, hf⟩ := qst_some hf
    obtain ⟨p114_t, ep114_t, hf⟩ := qn_some hf
    refine r_iast O 115 rfl 0 5 rfl rfl hin114 ([nX10 cI cZ cQ h_t p114_t]) (by rw [ep114_t]; rfl) dX10_readItem_114 ?_
    obtain ⟨x115, ex115, hf⟩ := qn_some hf
    refine r_iinc O 118 rfl x115 2 rfl (by rw [ex115]; rfl) [(4, .int x115), (0, .ref (h_t 0)), (1, .int y1)] dX10_readItem_115 (by decide) rfl ?_
    refine r_goto O 73 dX10_readItem_118 (by decide) ?_
    refine r_lv [1, 2, 0] rfl ?_
    exact hrec73 _ _ _ hf
  have B73 : ∀ n : Nat, ∀ (w_t : Pk) (y1 : Int32) (y4 : Int32), fX10_readItem_b73 n w_t y1 y4 = some v_t → BK X 5 0 0 73 ([nX10 cI cZ cQ h_t w_t]) [(0, .ref (h_t 0)), (1, .int y1), (4, .int y4)] [] := by
    intro n
    induction n with
    | zero => exact fun _ _ _ hf => qno hf
    | succ n hrec73 =>
      intro w_t y1 y4 hf
      have hf : fX10_readItem_b73_s (fX10_readItem_b73 n) w_t y1 y4 = some v_t := hf
      generalize fX10_readItem_b73 n = rec73 at hf hrec73
      unfold fX10_readItem_b73_s at hf
      refine r_ild O 75 rfl 2 rfl dX10_readItem_73 ?_
      refine r_ic O 76 rfl 4 (by decide) dX10_readItem_75 ?_
      refine r_icmp_gt O 79 rfl 121 dX10_readItem_76 (by decide) (fun hc76 => ?_) (fun hc76 => ?_)
      · rw [if_pos hc76] at hf
        refine r_lv [0, 1] rfl ?_
        exact B121 _ _ hf
      · rw [if_neg hc76] at hf
        refine r_ald_n O 80 rfl 0 rfl dX10_readItem_79 ?_
        refine r_get (ref := RX10) (C := RX10) (T := TX10) (N := 70) O 83 rfl inBX10 0 15 rfl rfl rfl (by decide) flX10_156 rfl rfl dX10_readItem_80 ?_
        refine r_if_ne O 86 rfl 121 dX10_readItem_83 (by decide) (fun hc83 => ?_) (fun hc83 => ?_)
        · rw [if_neg hc83] at hf
          refine r_lv [0, 1] rfl ?_
          exact B121 _ _ hf
        · rw [if_pos hc83] at hf
          refine r_ald_n O 87 rfl 0 rfl dX10_readItem_86 ?_
          refine r_get (ref := RX10) (C := RX10) (T := TX10) (N := 70) O 90 rfl inBX10 0 17 rfl rfl rfl (by decide) flX10_44 rfl rfl dX10_readItem_87 ?_
          refine r_bi O 92 rfl 7 (by decide) dX10_readItem_90 ?_
          refine r_ild_n O 93 rfl 1 rfl dX10_readItem_92 ?_
          refine r_imul O 94 rfl dX10_readItem_93 ?_
          refine r_ild O 96 rfl 2 rfl dX10_readItem_94 ?_
          refine r_iadd O 97 rfl dX10_readItem_96 ?_
          refine r_ald_n O 98 rfl 0 rfl dX10_readItem_97 ?_
          refine r_ild O 100 rfl 2 rfl dX10_readItem_98 ?_
          refine r_ic O 101 rfl 4 (by decide) dX10_readItem_100 ?_
          refine r_icmp_ne O 104 rfl 109 dX10_readItem_101 (by decide) (fun hc101 => ?_) (fun hc101 => ?_)
          · rw [if_neg hc101] at hf
            refine r_bi O 111 rfl 44 (by decide) dX10_readItem_109 ?_
            exact B111 rec73 hrec73 _ _ _ _ _ hf
          · rw [if_pos hc101] at hf
            refine r_bi O 106 rfl 59 (by decide) dX10_readItem_104 ?_
            refine r_goto O 111 dX10_readItem_106 (by decide) ?_
            exact B111 rec73 hrec73 _ _ _ _ _ hf
  have B24 : ∀ (w_t : Pk) (y1 : Int32) (y2 : Int32) (z0 : Int32), fX10_readItem_b24 w_t y1 y2 z0 = some v_t → BK X 5 0 0 24 ([nX10 cI cZ cQ h_t w_t]) [(0, .ref (h_t 0)), (1, .int y1), (2, .int y2)] [.int z0] := by
    intro w_t y1 y2 z0 hf
    unfold fX10_readItem_b24 at hf
    refine r_ist_n O 25 rfl rfl [(3, .int z0), (0, .ref (h_t 0)), (1, .int y1), (2, .int y2)] dX10_readItem_24 (by decide) rfl ?_
    refine r_ald_n O 26 rfl 1 rfl dX10_readItem_25 ?_
    refine r_dup O 27 rfl dX10_readItem_26 rfl ?_
    refine r_get (ref := RX10) (C := RX10) (T := TX10) (N := 70) O 30 rfl inBX10 0 14 rfl rfl rfl (by decide) flX10_153 rfl rfl dX10_readItem_27 ?_
    refine r_ild_n O 31 rfl 0 rfl dX10_readItem_30 ?_
    refine r_iadd O 32 rfl dX10_readItem_31 ?_
    obtain ⟨p32_t, ep32_t, hf⟩ := qn_some hf
    refine r_put (ref := RX10) (C := RX10) (T := TX10) (N := 70) O 35 rfl inBX10 tyX10 tyX10_ok nmX10 0 14 rfl rfl rfl (by decide) flX10_153 rfl rfl rfl rfl (Nat.le_of_ble_eq_true rfl) ([nX10 cI cZ cQ h_t p32_t]) (by rw [ep32_t]; rfl) dX10_readItem_32 ?_
    refine r_ald_n O 36 rfl 1 rfl dX10_readItem_35 ?_
    refine r_get (ref := RX10) (C := RX10) (T := TX10) (N := 70) O 39 rfl inBX10 0 17 rfl rfl rfl (by decide) flX10_44 rfl rfl dX10_readItem_36 ?_
    refine r_bi O 41 rfl 7 (by decide) dX10_readItem_39 ?_
    refine r_ild_n O 42 rfl 2 rfl dX10_readItem_41 ?_
    refine r_imul O 43 rfl dX10_readItem_42 ?_
    refine r_ic O 44 rfl 1 (by decide) dX10_readItem_43 ?_
    obtain ⟨hin44, hf⟩ := qst_some hf
    obtain ⟨p44_t, ep44_t, hf⟩ := qn_some hf
    refine r_iast O 45 rfl 0 5 rfl rfl hin44 ([nX10 cI cZ cQ h_t p44_t]) (by rw [ep44_t]; rfl) dX10_readItem_44 ?_
    refine r_ald_n O 46 rfl 1 rfl dX10_readItem_45 ?_
    refine r_get (ref := RX10) (C := RX10) (T := TX10) (N := 70) O 49 rfl inBX10 0 17 rfl rfl rfl (by decide) flX10_44 rfl rfl dX10_readItem_46 ?_
    refine r_bi O 51 rfl 7 (by decide) dX10_readItem_49 ?_
    refine r_ild_n O 52 rfl 2 rfl dX10_readItem_51 ?_
    refine r_imul O 53 rfl dX10_readItem_52 ?_
    refine r_ic O 54 rfl 5 (by decide) dX10_readItem_53 ?_
    refine r_iadd O 55 rfl dX10_readItem_54 ?_
    refine r_ild_n O 56 rfl 3 rfl dX10_readItem_55 ?_
    obtain ⟨hin56, hf⟩ := qst_some hf
    obtain ⟨p56_t, ep56_t, hf⟩ := qn_some hf
    refine r_iast O 57 rfl 0 5 rfl rfl hin56 ([nX10 cI cZ cQ h_t p56_t]) (by rw [ep56_t]; rfl) dX10_readItem_56 ?_
    refine r_ald_n O 58 rfl 1 rfl dX10_readItem_57 ?_
    refine r_get (ref := RX10) (C := RX10) (T := TX10) (N := 70) O 61 rfl inBX10 0 17 rfl rfl rfl (by decide) flX10_44 rfl rfl dX10_readItem_58 ?_
    refine r_bi O 63 rfl 7 (by decide) dX10_readItem_61 ?_
    refine r_ild_n O 64 rfl 2 rfl dX10_readItem_63 ?_
    refine r_imul O 65 rfl dX10_readItem_64 ?_
    refine r_bi O 67 rfl 6 (by decide) dX10_readItem_65 ?_
    refine r_iadd O 68 rfl dX10_readItem_67 ?_
    refine r_ild_n O 69 rfl 0 rfl dX10_readItem_68 ?_
    obtain ⟨hin69, hf⟩ := qst_some hf
    obtain ⟨p69_t, ep69_t, hf⟩ := qn_some hf
    refine r_iast O 70 rfl 0 5 rfl rfl hin69 ([nX10 cI cZ cQ h_t p69_t]) (by rw [ep69_t]; rfl) dX10_readItem_69 ?_
    refine r_ic O 71 rfl 1 (by decide) dX10_readItem_70 ?_
    refine r_ist O 73 rfl [(4, .int 1), (3, .int z0), (0, .ref (h_t 0)), (1, .int y1), (2, .int y2)] dX10_readItem_71 (by decide) rfl ?_
    refine r_lv [2, 3, 0] rfl ?_
    exact B73 FU _ _ _ hf
  unfold fX10_readItem at hf
  refine r_ald_n O 1 rfl 0 rfl dX10_readItem_0 ?_
  refine r_dup O 2 rfl dX10_readItem_1 rfl ?_
  refine r_get (ref := RX10) (C := RX10) (T := TX10) (N := 70) O 5 rfl inBX10 0 14 rfl rfl rfl (by decide) flX10_153 rfl rfl dX10_readItem_2 ?_
  refine r_ic O 6 rfl 1 (by decide) dX10_readItem_5 ?_
  refine r_iadd O 7 rfl dX10_readItem_6 ?_
  obtain ⟨p7_t, ep7_t, hf⟩ := qn_some hf
  refine r_put (ref := RX10) (C := RX10) (T := TX10) (N := 70) O 10 rfl inBX10 tyX10 tyX10_ok nmX10 0 14 rfl rfl rfl (by decide) flX10_153 rfl rfl rfl rfl (Nat.le_of_ble_eq_true rfl) ([nX10 cI cZ cQ h_t p7_t]) (by rw [ep7_t]; rfl) dX10_readItem_7 ?_
  refine r_ald_n O 11 rfl 0 rfl dX10_readItem_10 ?_
  obtain ⟨x11, hq11, hf⟩ := qb1_some hf
  refine k_VI O 14 rfl (zX10_here (l := xl X) (D := xD X) (cI := cI) (cZ := cZ) (cQ := cQ) (h_t := h_t) hq11) (gV mlX10_162 mvX10_here izX10) rfl rfl rfl hdX10_here ⟨Nat.le_of_ble_eq_true rfl, Nat.le_of_ble_eq_true rfl⟩ rfl 0 rfl rfl rfl rfl (Nat.le_of_ble_eq_true rfl) ⟨Nat.zero_le _, Nat.zero_le _⟩ [0] rfl rfl rfl ([nX10 cI cZ cQ h_t p7_t]) rfl dX10_readItem_11 ?_
  refine r_bi O 16 rfl 109 (by decide) dX10_readItem_14 ?_
  refine r_icmp_ne O 19 rfl 23 dX10_readItem_16 (by decide) (fun hc16 => ?_) (fun hc16 => ?_)
  · rw [if_neg hc16] at hf
    refine r_ic O 24 rfl 0 (by decide) dX10_readItem_23 ?_
    exact B24 _ _ _ _ hf
  · rw [if_pos hc16] at hf
    refine r_ic O 20 rfl 1 (by decide) dX10_readItem_19 ?_
    refine r_goto O 24 dX10_readItem_20 (by decide) ?_
    exact B24 _ _ _ _ hf
-- X10_read
def rmX10_read : Room := { frames := 4, cells := 0, slots := 0, locals := 87 }
set_option maxHeartbeats 4000000 in
set_option maxRecDepth 100000 in
theorem zX10_read {l : Launch} {D : va_G} {cI cZ cQ : ClassId} {h_t : Nat → Nat} {u_t : Pk} {r0 : Int32} {v_t : Pk} (hf : fX10_read u_t = some (r0, v_t)) : MI l yX10_read wsX10_read rmX10_read D (TY cI cZ cQ) [.ref (h_t 0)] [nX10 cI cZ cQ h_t u_t] r0 [nX10 cI cZ cQ h_t v_t] := by
  refine MI.of (own := RX10) (by decide +kernel) rfl rfl (Nat.le_of_ble_eq_true rfl) (lv0 := [(0, .ref (h_t 0))]) rfl ?_
  intro X O E
  have B120 : ∀ (rec12 : Pk → Int32 → Option (Int32 × Pk)), (∀ (w_t : Pk) (y1 : Int32), rec12 w_t y1 = some (r0, v_t) → BK X 4 0 0 12 ([nX10 cI cZ cQ h_t w_t]) [(0, .ref (h_t 0)), (1, .int y1)] []) → ∀ (w_t : Pk) (z0 : Int32) (z1 : Int32), fX10_read_b120 rec12 w_t z0 z1 = some (r0, v_t) → BK X 4 0 0 120 ([nX10 cI cZ cQ h_t w_t]) [(0, .ref (h_t 0))] [.int z1, .int z0] := by
    intro rec12 hrec12 w_t z0 z1 hf
    unfold fX10_read_b120 at hf
    refine r_iadd O 121 rfl dX10_read_120 ?_
    obtain ⟨x121, ex121, hf⟩ := qn_some hf
    rw [← ex121]
    refine r_ist_n O 122 rfl rfl [(1, .int x121), (0, .ref (h_t 0))] dX10_read_121 (by decide) rfl ?_
    refine r_goto O 12 dX10_read_122 (by decide) ?_
    refine r_lv [1, 0] rfl ?_
    exact hrec12 _ _ hf
  have B107 : ∀ (rec12 : Pk → Int32 → Option (Int32 × Pk)), (∀ (w_t : Pk) (y1 : Int32), rec12 w_t y1 = some (r0, v_t) → BK X 4 0 0 12 ([nX10 cI cZ cQ h_t w_t]) [(0, .ref (h_t 0)), (1, .int y1)] []) → ∀ (w_t : Pk) (y1 : Int32), fX10_read_b107 rec12 w_t y1 = some (r0, v_t) → BK X 4 0 0 107 ([nX10 cI cZ cQ h_t w_t]) [(0, .ref (h_t 0)), (1, .int y1)] [] := by
    intro rec12 hrec12 w_t y1 hf
    unfold fX10_read_b107 at hf
    refine r_ild_n O 108 rfl 1 rfl dX10_read_107 ?_
    refine r_ald_n O 109 rfl 0 rfl dX10_read_108 ?_
    refine r_get (ref := RX10) (C := RX10) (T := TX10) (N := 70) O 112 rfl inBX10 0 15 rfl rfl rfl (by decide) flX10_156 rfl rfl dX10_read_109 ?_
    refine r_if_ne O 115 rfl 119 dX10_read_112 (by decide) (fun hc112 => ?_) (fun hc112 => ?_)
    · rw [if_neg hc112] at hf
      refine r_ic O 120 rfl 0 (by decide) dX10_read_119 ?_
      refine r_lv [0] rfl ?_
      exact B120 rec12 hrec12 _ _ _ hf
    · rw [if_pos hc112] at hf
      refine r_ic O 116 rfl 1 (by decide) dX10_read_115 ?_
      refine r_goto O 120 dX10_read_116 (by decide) ?_
      refine r_lv [0] rfl ?_
      exact B120 rec12 hrec12 _ _ _ hf
  have B66 : ∀ (rec12 : Pk → Int32 → Option (Int32 × Pk)), (∀ (w_t : Pk) (y1 : Int32), rec12 w_t y1 = some (r0, v_t) → BK X 4 0 0 12 ([nX10 cI cZ cQ h_t w_t]) [(0, .ref (h_t 0)), (1, .int y1)] []) → ∀ (w_t : Pk) (y1 : Int32) (z0 : Int32), fX10_read_b66 rec12 w_t y1 z0 = some (r0, v_t) → BK X 4 0 0 66 ([nX10 cI cZ cQ h_t w_t]) [(0, .ref (h_t 0)), (1, .int y1)] [.int z0] := by
    intro rec12 hrec12 w_t y1 z0 hf
    unfold fX10_read_b66 at hf
    refine r_ist_n O 67 rfl rfl [(3, .int z0), (0, .ref (h_t 0)), (1, .int y1)] dX10_read_66 (by decide) rfl ?_
    refine r_ild_n O 68 rfl 0 rfl dX10_read_67 ?_
    refine r_if_ge O 71 rfl 83 dX10_read_68 (by decide) (fun hc68 => ?_) (fun hc68 => ?_)
    · rw [if_pos hc68] at hf
      refine r_ild_n O 84 rfl 2 rfl dX10_read_83 ?_
      refine r_bi O 86 rfl 12 (by decide) dX10_read_84 ?_
      refine r_icmp_ne O 89 rfl 101 dX10_read_86 (by decide) (fun hc86 => ?_) (fun hc86 => ?_)
      · rw [if_neg hc86] at hf
        refine r_ald_n O 102 rfl 1 rfl dX10_read_101 ?_
        refine r_ild_n O 103 rfl 2 rfl dX10_read_102 ?_
        refine r_ild_n O 104 rfl 0 rfl dX10_read_103 ?_
        obtain ⟨p104_t, hq104, hf⟩ := qb1_some hf
        refine k_VV O 107 rfl (zX10_readItem (l := xl X) (D := xD X) (cI := cI) (cZ := cZ) (cQ := cQ) (h_t := h_t) hq104) (gV mlX10_173 mvX10_readItem izX10) rfl rfl rfl hdX10_readItem ⟨Nat.le_of_ble_eq_true rfl, Nat.le_of_ble_eq_true rfl⟩ rfl 0 rfl rfl rfl rfl (Nat.le_of_ble_eq_true rfl) ⟨Nat.zero_le _, Nat.zero_le _⟩ [0] rfl rfl rfl ([nX10 cI cZ cQ h_t p104_t]) rfl dX10_read_104 ?_
        refine r_lv [1, 2] rfl ?_
        exact B107 rec12 hrec12 _ _ hf
      · rw [if_pos hc86] at hf
        refine r_ald_n O 90 rfl 1 rfl dX10_read_89 ?_
        refine r_ic O 91 rfl 4 (by decide) dX10_read_90 ?_
        refine r_ald_n O 92 rfl 1 rfl dX10_read_91 ?_
        refine r_get (ref := RX10) (C := RX10) (T := TX10) (N := 70) O 95 rfl inBX10 0 14 rfl rfl rfl (by decide) flX10_153 rfl rfl dX10_read_92 ?_
        obtain ⟨p95_t, hq95, hf⟩ := qb1_some hf
        refine k_VV O 98 rfl (zX10_fails (l := xl X) (D := xD X) (cI := cI) (cZ := cZ) (cQ := cQ) (h_t := h_t) hq95) (gV mlX10_169 mvX10_fails izX10) rfl rfl rfl hdX10_fails ⟨Nat.le_of_ble_eq_true rfl, Nat.le_of_ble_eq_true rfl⟩ rfl 0 rfl rfl rfl rfl (Nat.le_of_ble_eq_true rfl) ⟨Nat.zero_le _, Nat.zero_le _⟩ [0] rfl rfl rfl ([nX10 cI cZ cQ h_t p95_t]) rfl dX10_read_95 ?_
        refine r_goto O 107 dX10_read_98 (by decide) ?_
        refine r_lv [1, 2] rfl ?_
        exact B107 rec12 hrec12 _ _ hf
    · rw [if_neg hc68] at hf
      refine r_ald_n O 72 rfl 1 rfl dX10_read_71 ?_
      refine r_ic O 73 rfl 1 (by decide) dX10_read_72 ?_
      refine r_ald_n O 74 rfl 1 rfl dX10_read_73 ?_
      refine r_get (ref := RX10) (C := RX10) (T := TX10) (N := 70) O 77 rfl inBX10 0 14 rfl rfl rfl (by decide) flX10_153 rfl rfl dX10_read_74 ?_
      obtain ⟨p77_t, hq77, hf⟩ := qb1_some hf
      refine k_VV O 80 rfl (zX10_fails (l := xl X) (D := xD X) (cI := cI) (cZ := cZ) (cQ := cQ) (h_t := h_t) hq77) (gV mlX10_169 mvX10_fails izX10) rfl rfl rfl hdX10_fails ⟨Nat.le_of_ble_eq_true rfl, Nat.le_of_ble_eq_true rfl⟩ rfl 0 rfl rfl rfl rfl (Nat.le_of_ble_eq_true rfl) ⟨Nat.zero_le _, Nat.zero_le _⟩ [0] rfl rfl rfl ([nX10 cI cZ cQ h_t p77_t]) rfl dX10_read_77 ?_
      refine r_goto O 107 dX10_read_80 (by decide) ?_
      refine r_lv [1, 2] rfl ?_
      exact B107 rec12 hrec12 _ _ hf
  have B12 : ∀ n : Nat, ∀ (w_t : Pk) (y1 : Int32), fX10_read_b12 n w_t y1 = some (r0, v_t) → BK X 4 0 0 12 ([nX10 cI cZ cQ h_t w_t]) [(0, .ref (h_t 0)), (1, .int y1)] [] := by
    intro n
    induction n with
    | zero => exact fun _ _ hf => qno hf
    | succ n hrec12 =>
      intro w_t y1 hf
      have hf : fX10_read_b12_s (fX10_read_b12 n) w_t y1 = some (r0, v_t) := hf
      generalize fX10_read_b12 n = rec12 at hf hrec12
      unfold fX10_read_b12_s at hf
      refine r_ald_n O 13 rfl 0 rfl dX10_read_12 ?_
      refine r_get (ref := RX10) (C := RX10) (T := TX10) (N := 70) O 16 rfl inBX10 0 14 rfl rfl rfl (by decide) flX10_153 rfl rfl dX10_read_13 ?_
      refine r_ald_n O 17 rfl 0 rfl dX10_read_16 ?_
      refine r_get (ref := RX10) (C := RX10) (T := TX10) (N := 70) O 20 rfl inBX10 0 6 rfl rfl rfl (by decide) flX10_150 rfl rfl dX10_read_17 ?_
      refine r_icmp_ge O 23 rfl 125 dX10_read_20 (by decide) (fun hc20 => ?_) (fun hc20 => ?_)
      · rw [if_pos hc20] at hf
        refine r_ild_n O 126 rfl 1 rfl dX10_read_125 ?_
        obtain ⟨g0, g1⟩ := qe2 hf
        exact r_iret2 O E g0 (by rw [g1]) dX10_read_126
      · rw [if_neg hc20] at hf
        refine r_ald_n O 24 rfl 0 rfl dX10_read_23 ?_
        refine r_get (ref := RX10) (C := RX10) (T := TX10) (N := 70) O 27 rfl inBX10 0 15 rfl rfl rfl (by decide) flX10_156 rfl rfl dX10_read_24 ?_
        refine r_if_ne O 30 rfl 125 dX10_read_27 (by decide) (fun hc27 => ?_) (fun hc27 => ?_)
        · rw [if_neg hc27] at hf
          refine r_ild_n O 126 rfl 1 rfl dX10_read_125 ?_
          obtain ⟨g0, g1⟩ := qe2 hf
          exact r_iret2 O E g0 (by rw [g1]) dX10_read_126
        · rw [if_pos hc27] at hf
          refine r_ald_n O 31 rfl 0 rfl dX10_read_30 ?_
          obtain ⟨x31, hq31, hf⟩ := qb1_some hf
          refine k_VI O 34 rfl (zX10_here (l := xl X) (D := xD X) (cI := cI) (cZ := cZ) (cQ := cQ) (h_t := h_t) hq31) (gV mlX10_162 mvX10_here izX10) rfl rfl rfl hdX10_here ⟨Nat.le_of_ble_eq_true rfl, Nat.le_of_ble_eq_true rfl⟩ rfl 0 rfl rfl rfl rfl (Nat.le_of_ble_eq_true rfl) ⟨Nat.zero_le _, Nat.zero_le _⟩ [0] rfl rfl rfl ([nX10 cI cZ cQ h_t w_t]) rfl dX10_read_31 ?_
          refine r_ist_n O 35 rfl rfl [(2, .int x31), (0, .ref (h_t 0)), (1, .int y1)] dX10_read_34 (by decide) rfl ?_
          refine r_ild_n O 36 rfl 0 rfl dX10_read_35 ?_
          refine r_bi O 38 rfl 115 (by decide) dX10_read_36 ?_
          refine r_icmp_ne O 41 rfl 45 dX10_read_38 (by decide) (fun hc38 => ?_) (fun hc38 => ?_)
          · rw [if_neg hc38] at hf
            refine r_ild_n O 46 rfl 0 rfl dX10_read_45 ?_
            refine r_bi O 48 rfl 103 (by decide) dX10_read_46 ?_
            refine r_icmp_ne O 51 rfl 55 dX10_read_48 (by decide) (fun hc48 => ?_) (fun hc48 => ?_)
            · rw [if_neg hc48] at hf
              refine r_ild_n O 56 rfl 0 rfl dX10_read_55 ?_
              refine r_bi O 58 rfl 111 (by decide) dX10_read_56 ?_
              refine r_icmp_ne O 61 rfl 65 dX10_read_58 (by decide) (fun hc58 => ?_) (fun hc58 => ?_)
              · rw [if_neg hc58] at hf
                refine r_ic O 66 rfl (-1) (by decide) dX10_read_65 ?_
                refine r_lv [1, 2] rfl ?_
                exact B66 rec12 hrec12 _ _ _ hf
              · rw [if_pos hc58] at hf
                refine r_ic O 62 rfl 2 (by decide) dX10_read_61 ?_
                refine r_goto O 66 dX10_read_62 (by decide) ?_
                refine r_lv [1, 2] rfl ?_
                exact B66 rec12 hrec12 _ _ _ hf
            · rw [if_pos hc48] at hf
              refine r_ic O 52 rfl 1 (by decide) dX10_read_51 ?_
              refine r_goto O 66 dX10_read_52 (by decide) ?_
              refine r_lv [1, 2] rfl ?_
              exact B66 rec12 hrec12 _ _ _ hf
          · rw [if_pos hc38] at hf
            refine r_ic O 42 rfl 0 (by decide) dX10_read_41 ?_
            refine r_goto O 66 dX10_read_42 (by decide) ?_
            refine r_lv [1, 2] rfl ?_
            exact B66 rec12 hrec12 _ _ _ hf
  unfold fX10_read at hf
  refine r_ic O 1 rfl 0 (by decide) dX10_read_0 ?_
  refine r_ist_n O 2 rfl rfl [(1, .int 0), (0, .ref (h_t 0))] dX10_read_1 (by decide) rfl ?_
  refine r_ald_n O 3 rfl 1 rfl dX10_read_2 ?_
  refine r_ic O 4 rfl 0 (by decide) dX10_read_3 ?_
  obtain ⟨p4_t, ep4_t, hf⟩ := qn_some hf
  refine r_put (ref := RX10) (C := RX10) (T := TX10) (N := 70) O 7 rfl inBX10 tyX10 tyX10_ok nmX10 0 14 rfl rfl rfl (by decide) flX10_153 rfl rfl rfl rfl (Nat.le_of_ble_eq_true rfl) ([nX10 cI cZ cQ h_t p4_t]) (by rw [ep4_t]; rfl) dX10_read_4 ?_
  refine r_ald_n O 8 rfl 1 rfl dX10_read_7 ?_
  refine r_ic O 9 rfl 0 (by decide) dX10_read_8 ?_
  obtain ⟨p9_t, ep9_t, hf⟩ := qn_some hf
  refine r_put (ref := RX10) (C := RX10) (T := TX10) (N := 70) O 12 rfl inBX10 tyX10 tyX10_ok nmX10 0 15 rfl rfl rfl (by decide) flX10_156 rfl rfl rfl rfl (Nat.le_of_ble_eq_true rfl) ([nX10 cI cZ cQ h_t p9_t]) (by rw [ep9_t]; rfl) dX10_read_9 ?_
  refine r_lv [1, 0] rfl ?_
  exact B12 FU _ _ hf
-- X10_load
def rmX10_load : Room := { frames := 5, cells := 0, slots := 0, locals := 110 }
set_option maxHeartbeats 4000000 in
set_option maxRecDepth 100000 in
theorem zX10_load {l : Launch} {D : va_G} {cI cZ cQ : ClassId} {h_t : Nat → Nat} {u_t : Pk} {r0 : Int32} {v_t : Pk} (hf : fX10_load u_t = some (r0, v_t)) : MI l yX10_load wsX10_load rmX10_load D (TY cI cZ cQ) [.ref (h_t 0)] [nX10 cI cZ cQ h_t u_t] r0 [nX10 cI cZ cQ h_t v_t] := by
  refine MI.of (own := RX10) (by decide +kernel) rfl rfl (Nat.le_of_ble_eq_true rfl) (lv0 := [(0, .ref (h_t 0))]) rfl ?_
  intro X O E
  have B71 : ∀ (rec42 : Pk → Int32 → Int32 → Option (Int32 × Pk)), (∀ (w_t : Pk) (y1 : Int32) (y2 : Int32), rec42 w_t y1 y2 = some (r0, v_t) → BK X 3 0 0 42 ([nX10 cI cZ cQ h_t w_t]) [(0, .ref (h_t 0)), (1, .int y1), (2, .int y2)] []) → ∀ (w_t : Pk) (y1 : Int32) (y2 : Int32) (z1 : Int32) (z2 : Int32), fX10_load_b71 rec42 w_t y1 y2 z1 z2 = some (r0, v_t) → BK X 3 0 0 71 ([nX10 cI cZ cQ h_t w_t]) [(0, .ref (h_t 0)), (1, .int y1), (2, .int y2)] [.int z2, .int z1, .ref (h_t 1)] := by
    intro rec42 hrec42 w_t y1 y2 z1 z2 hf
    unfold fX10_load_b71 at hf
    obtain ⟨hin71, hf⟩ := qst_some hf
    obtain ⟨p71_t, ep71_t, hf⟩ := qn_some hf
    refine r_iast O 72 rfl 0 1 rfl rfl hin71 ([nX10 cI cZ cQ h_t p71_t]) (by rw [ep71_t]; rfl) dX10_load_71 ?_
    obtain ⟨x72, ex72, hf⟩ := qn_some hf
    refine r_iinc O 75 rfl x72 2 rfl (by rw [ex72]; rfl) [(2, .int x72), (0, .ref (h_t 0)), (1, .int y1)] dX10_load_72 (by decide) rfl ?_
    refine r_goto O 42 dX10_load_75 (by decide) ?_
    refine r_lv [1, 2, 0] rfl ?_
    exact hrec42 _ _ _ hf
  have B42 : ∀ n : Nat, ∀ (w_t : Pk) (y1 : Int32) (y2 : Int32), fX10_load_b42 n w_t y1 y2 = some (r0, v_t) → BK X 3 0 0 42 ([nX10 cI cZ cQ h_t w_t]) [(0, .ref (h_t 0)), (1, .int y1), (2, .int y2)] [] := by
    intro n
    induction n with
    | zero => exact fun _ _ _ hf => qno hf
    | succ n hrec42 =>
      intro w_t y1 y2 hf
      have hf : fX10_load_b42_s (fX10_load_b42 n) w_t y1 y2 = some (r0, v_t) := hf
      generalize fX10_load_b42 n = rec42 at hf hrec42
      unfold fX10_load_b42_s at hf
      refine r_ild_n O 43 rfl 2 rfl dX10_load_42 ?_
      refine r_bi O 45 rfl 84 (by decide) dX10_load_43 ?_
      refine r_icmp_ge O 48 rfl 78 dX10_load_45 (by decide) (fun hc45 => ?_) (fun hc45 => ?_)
      · rw [if_pos hc45] at hf
        refine r_ild_n O 79 rfl 1 rfl dX10_load_78 ?_
        obtain ⟨g0, g1⟩ := qe2 hf
        exact r_iret2 O E g0 (by rw [g1]) dX10_load_79
      · rw [if_neg hc45] at hf
        refine r_ald_n O 49 rfl 0 rfl dX10_load_48 ?_
        refine r_get (ref := RX10) (C := RX10) (T := TX10) (N := 70) O 52 rfl inBX10 0 0 rfl rfl rfl (by decide) flX10_7 rfl rfl dX10_load_49 ?_
        refine r_ild_n O 53 rfl 2 rfl dX10_load_52 ?_
        refine r_ild_n O 54 rfl 2 rfl dX10_load_53 ?_
        refine r_bi O 56 rfl 7 (by decide) dX10_load_54 ?_
        refine r_ild_n O 57 rfl 1 rfl dX10_load_56 ?_
        refine r_imul O 58 rfl dX10_load_57 ?_
        refine r_icmp_ge O 61 rfl 70 dX10_load_58 (by decide) (fun hc58 => ?_) (fun hc58 => ?_)
        · rw [if_pos hc58] at hf
          refine r_ic O 71 rfl 0 (by decide) dX10_load_70 ?_
          exact B71 rec42 hrec42 _ _ _ _ _ hf
        · rw [if_neg hc58] at hf
          refine r_ald_n O 62 rfl 0 rfl dX10_load_61 ?_
          refine r_get (ref := RX10) (C := RX10) (T := TX10) (N := 70) O 65 rfl inBX10 0 17 rfl rfl rfl (by decide) flX10_44 rfl rfl dX10_load_62 ?_
          refine r_ild_n O 66 rfl 2 rfl dX10_load_65 ?_
          obtain ⟨x66, ex66, hin66, hf⟩ := qld_some hf
          refine r_iald O 67 rfl 0 5 rfl rfl hin66 dX10_load_66 ?_
          rw [← ex66]
          refine r_goto O 71 dX10_load_67 (by decide) ?_
          exact B71 rec42 hrec42 _ _ _ _ _ hf
  unfold fX10_load at hf
  refine r_ald_n O 1 rfl 0 rfl dX10_load_0 ?_
  obtain ⟨x1, p1_t, hq1, hf⟩ := qb2_some hf
  refine k_VI O 4 rfl (zX10_read (l := xl X) (D := xD X) (cI := cI) (cZ := cZ) (cQ := cQ) (h_t := h_t) hq1) (gV mlX10_180 mvX10_read izX10) rfl rfl rfl hdX10_read ⟨Nat.le_of_ble_eq_true rfl, Nat.le_of_ble_eq_true rfl⟩ rfl 0 rfl rfl rfl rfl (Nat.le_of_ble_eq_true rfl) ⟨Nat.zero_le _, Nat.zero_le _⟩ [0] rfl rfl rfl ([nX10 cI cZ cQ h_t p1_t]) rfl dX10_load_1 ?_
  refine r_ist_n O 5 rfl rfl [(1, .int x1), (0, .ref (h_t 0))] dX10_load_4 (by decide) rfl ?_
  refine r_ald_n O 6 rfl 1 rfl dX10_load_5 ?_
  refine r_get (ref := RX10) (C := RX10) (T := TX10) (N := 70) O 9 rfl inBX10 0 15 rfl rfl rfl (by decide) flX10_156 rfl rfl dX10_load_6 ?_
  refine r_if_le O 12 rfl 36 dX10_load_9 (by decide) (fun hc9 => ?_) (fun hc9 => ?_)
  · rw [if_pos hc9] at hf
    refine r_ald_n O 37 rfl 1 rfl dX10_load_36 ?_
    obtain ⟨p37_t, hq37, hf⟩ := qb1_some hf
    refine k_VV O 40 rfl (zX10_keep (l := xl X) (D := xD X) (cI := cI) (cZ := cZ) (cQ := cQ) (h_t := h_t) hq37) (gV mlX10_133 mvX10_keep izX10) rfl rfl rfl hdX10_keep ⟨Nat.le_of_ble_eq_true rfl, Nat.le_of_ble_eq_true rfl⟩ rfl 0 rfl rfl rfl rfl (Nat.le_of_ble_eq_true rfl) ⟨Nat.zero_le _, Nat.zero_le _⟩ [0] rfl rfl rfl ([nX10 cI cZ cQ h_t p37_t]) rfl dX10_load_37 ?_
    refine r_ic O 41 rfl 0 (by decide) dX10_load_40 ?_
    refine r_ist_n O 42 rfl rfl [(2, .int 0), (1, .int x1), (0, .ref (h_t 0))] dX10_load_41 (by decide) rfl ?_
    refine r_lv [2, 1, 0] rfl ?_
    exact B42 FU _ _ _ hf
  · rw [if_neg hc9] at hf
    refine r_ald_n O 13 rfl 1 rfl dX10_load_12 ?_
    refine r_ald_n O 14 rfl 1 rfl dX10_load_13 ?_
    refine r_get (ref := RX10) (C := RX10) (T := TX10) (N := 70) O 17 rfl inBX10 0 16 rfl rfl rfl (by decide) flX10_159 rfl rfl dX10_load_14 ?_
    obtain ⟨p17_t, ep17_t, hf⟩ := qn_some hf
    refine r_put (ref := RX10) (C := RX10) (T := TX10) (N := 70) O 20 rfl inBX10 tyX10 tyX10_ok nmX10 0 7 rfl rfl rfl (by decide) flX10_26 rfl rfl rfl rfl (Nat.le_of_ble_eq_true rfl) ([nX10 cI cZ cQ h_t p17_t]) (by rw [ep17_t]; rfl) dX10_load_17 ?_
    refine r_ald_n O 21 rfl 1 rfl dX10_load_20 ?_
    refine r_ald_n O 22 rfl 1 rfl dX10_load_21 ?_
    refine r_get (ref := RX10) (C := RX10) (T := TX10) (N := 70) O 25 rfl inBX10 0 15 rfl rfl rfl (by decide) flX10_156 rfl rfl dX10_load_22 ?_
    obtain ⟨p25_t, ep25_t, hf⟩ := qn_some hf
    refine r_put (ref := RX10) (C := RX10) (T := TX10) (N := 70) O 28 rfl inBX10 tyX10 tyX10_ok nmX10 0 8 rfl rfl rfl (by decide) flX10_29 rfl rfl rfl rfl (Nat.le_of_ble_eq_true rfl) ([nX10 cI cZ cQ h_t p25_t]) (by rw [ep25_t]; rfl) dX10_load_25 ?_
    refine r_ald_n O 29 rfl 1 rfl dX10_load_28 ?_
    refine r_ild_n O 30 rfl 0 rfl dX10_load_29 ?_
    obtain ⟨p30_t, ep30_t, hf⟩ := qn_some hf
    refine r_put (ref := RX10) (C := RX10) (T := TX10) (N := 70) O 33 rfl inBX10 tyX10 tyX10_ok nmX10 0 9 rfl rfl rfl (by decide) flX10_32 rfl rfl rfl rfl (Nat.le_of_ble_eq_true rfl) ([nX10 cI cZ cQ h_t p30_t]) (by rw [ep30_t]; rfl) dX10_load_30 ?_
    refine r_bi O 35 rfl (-9) (by decide) dX10_load_33 ?_
    obtain ⟨g0, g1⟩ := qe2 hf
    exact r_iret2 O E g0 (by rw [g1]) dX10_load_35
-- X10_faultPlace
def rmX10_faultPlace : Room := { frames := 0, cells := 0, slots := 0, locals := 0 }
set_option maxHeartbeats 4000000 in
set_option maxRecDepth 100000 in
theorem zX10_faultPlace {l : Launch} {D : va_G} {cI cZ cQ : ClassId} {h_t : Nat → Nat} {u_t : Pk} {r0 : Int32} (hf : fX10_faultPlace u_t = some r0) : MI l yX10_faultPlace wsX10_faultPlace rmX10_faultPlace D (TY cI cZ cQ) [.ref (h_t 0)] [nX10 cI cZ cQ h_t u_t] r0 [nX10 cI cZ cQ h_t u_t] := by
  refine MI.of (own := RX10) (by decide +kernel) rfl rfl (Nat.le_of_ble_eq_true rfl) (lv0 := [(0, .ref (h_t 0))]) rfl ?_
  intro X O E
  unfold fX10_faultPlace at hf
  refine r_ald_n O 1 rfl 0 rfl dX10_faultPlace_0 ?_
  refine r_get (ref := RX10) (C := RX10) (T := TX10) (N := 70) O 4 rfl inBX10 0 7 rfl rfl rfl (by decide) flX10_26 rfl rfl dX10_faultPlace_1 ?_
  obtain g0 := qe1 hf
  exact r_iret2 O E g0 rfl dX10_faultPlace_4
-- X10_faultKind
def rmX10_faultKind : Room := { frames := 0, cells := 0, slots := 0, locals := 0 }
set_option maxHeartbeats 4000000 in
set_option maxRecDepth 100000 in
theorem zX10_faultKind {l : Launch} {D : va_G} {cI cZ cQ : ClassId} {h_t : Nat → Nat} {u_t : Pk} {r0 : Int32} (hf : fX10_faultKind u_t = some r0) : MI l yX10_faultKind wsX10_faultKind rmX10_faultKind D (TY cI cZ cQ) [.ref (h_t 0)] [nX10 cI cZ cQ h_t u_t] r0 [nX10 cI cZ cQ h_t u_t] := by
  refine MI.of (own := RX10) (by decide +kernel) rfl rfl (Nat.le_of_ble_eq_true rfl) (lv0 := [(0, .ref (h_t 0))]) rfl ?_
  intro X O E
  unfold fX10_faultKind at hf
  refine r_ald_n O 1 rfl 0 rfl dX10_faultKind_0 ?_
  refine r_get (ref := RX10) (C := RX10) (T := TX10) (N := 70) O 4 rfl inBX10 0 8 rfl rfl rfl (by decide) flX10_29 rfl rfl dX10_faultKind_1 ?_
  obtain g0 := qe1 hf
  exact r_iret2 O E g0 rfl dX10_faultKind_4
-- X10_faultItem
def rmX10_faultItem : Room := { frames := 0, cells := 0, slots := 0, locals := 0 }
set_option maxHeartbeats 4000000 in
set_option maxRecDepth 100000 in
theorem zX10_faultItem {l : Launch} {D : va_G} {cI cZ cQ : ClassId} {h_t : Nat → Nat} {u_t : Pk} {r0 : Int32} (hf : fX10_faultItem u_t = some r0) : MI l yX10_faultItem wsX10_faultItem rmX10_faultItem D (TY cI cZ cQ) [.ref (h_t 0)] [nX10 cI cZ cQ h_t u_t] r0 [nX10 cI cZ cQ h_t u_t] := by
  refine MI.of (own := RX10) (by decide +kernel) rfl rfl (Nat.le_of_ble_eq_true rfl) (lv0 := [(0, .ref (h_t 0))]) rfl ?_
  intro X O E
  unfold fX10_faultItem at hf
  refine r_ald_n O 1 rfl 0 rfl dX10_faultItem_0 ?_
  refine r_get (ref := RX10) (C := RX10) (T := TX10) (N := 70) O 4 rfl inBX10 0 9 rfl rfl rfl (by decide) flX10_32 rfl rfl dX10_faultItem_1 ?_
  obtain g0 := qe1 hf
  exact r_iret2 O E g0 rfl dX10_faultItem_4
-- X10_side
def rmX10_side : Room := { frames := 1, cells := 0, slots := 0, locals := 22 }
set_option maxHeartbeats 4000000 in
set_option maxRecDepth 100000 in
theorem zX10_side {l : Launch} {D : va_G} {cI cZ cQ : ClassId} {h_t : Nat → Nat} {u_t : Pk} {a1 : Int32} {a2 : Int32} {a3 : Int32} {r0 : Int32} (hf : fX10_side u_t a1 a2 a3 = some r0) : MI l yX10_side wsX10_side rmX10_side D (TY cI cZ cQ) [.ref (h_t 0), .int a1, .int a2, .int a3] [nX10 cI cZ cQ h_t u_t] r0 [nX10 cI cZ cQ h_t u_t] := by
  refine MI.of (own := RX10) (by decide +kernel) rfl rfl (Nat.le_of_ble_eq_true rfl) (lv0 := [(0, .ref (h_t 0)), (1, .int a1), (2, .int a2), (3, .int a3)]) rfl ?_
  intro X O E
  unfold fX10_side at hf
  refine r_ald_n O 1 rfl 0 rfl dX10_side_0 ?_
  refine r_ild_n O 2 rfl 1 rfl dX10_side_1 ?_
  refine r_ic O 3 rfl 3 (by decide) dX10_side_2 ?_
  obtain ⟨x3, hq3, hf⟩ := qb1_some hf
  refine k_VI O 6 rfl (zX10_at (l := xl X) (D := xD X) (cI := cI) (cZ := cZ) (cQ := cQ) (h_t := h_t) hq3) (gV mlX10_129 mvX10_at izX10) rfl rfl rfl hdX10_at ⟨Nat.le_of_ble_eq_true rfl, Nat.le_of_ble_eq_true rfl⟩ rfl 0 rfl rfl rfl rfl (Nat.le_of_ble_eq_true rfl) ⟨Nat.zero_le _, Nat.zero_le _⟩ [0] rfl rfl rfl ([nX10 cI cZ cQ h_t u_t]) rfl dX10_side_3 ?_
  refine r_ald_n O 7 rfl 0 rfl dX10_side_6 ?_
  refine r_ild_n O 8 rfl 1 rfl dX10_side_7 ?_
  refine r_ic O 9 rfl 1 (by decide) dX10_side_8 ?_
  obtain ⟨x9, hq9, hf⟩ := qb1_some hf
  refine k_VI O 12 rfl (zX10_at (l := xl X) (D := xD X) (cI := cI) (cZ := cZ) (cQ := cQ) (h_t := h_t) hq9) (gV mlX10_129 mvX10_at izX10) rfl rfl rfl hdX10_at ⟨Nat.le_of_ble_eq_true rfl, Nat.le_of_ble_eq_true rfl⟩ rfl 0 rfl rfl rfl rfl (Nat.le_of_ble_eq_true rfl) ⟨Nat.zero_le _, Nat.zero_le _⟩ [0] rfl rfl rfl ([nX10 cI cZ cQ h_t u_t]) rfl dX10_side_9 ?_
  refine r_isub O 13 rfl dX10_side_12 ?_
  refine r_ild_n O 14 rfl 3 rfl dX10_side_13 ?_
  refine r_ald_n O 15 rfl 0 rfl dX10_side_14 ?_
  refine r_ild_n O 16 rfl 1 rfl dX10_side_15 ?_
  refine r_ic O 17 rfl 2 (by decide) dX10_side_16 ?_
  obtain ⟨x17, hq17, hf⟩ := qb1_some hf
  refine k_VI O 20 rfl (zX10_at (l := xl X) (D := xD X) (cI := cI) (cZ := cZ) (cQ := cQ) (h_t := h_t) hq17) (gV mlX10_129 mvX10_at izX10) rfl rfl rfl hdX10_at ⟨Nat.le_of_ble_eq_true rfl, Nat.le_of_ble_eq_true rfl⟩ rfl 0 rfl rfl rfl rfl (Nat.le_of_ble_eq_true rfl) ⟨Nat.zero_le _, Nat.zero_le _⟩ [0] rfl rfl rfl ([nX10 cI cZ cQ h_t u_t]) rfl dX10_side_17 ?_
  refine r_isub O 21 rfl dX10_side_20 ?_
  refine r_imul O 22 rfl dX10_side_21 ?_
  refine r_ald_n O 23 rfl 0 rfl dX10_side_22 ?_
  refine r_ild_n O 24 rfl 1 rfl dX10_side_23 ?_
  refine r_ic O 25 rfl 4 (by decide) dX10_side_24 ?_
  obtain ⟨x25, hq25, hf⟩ := qb1_some hf
  refine k_VI O 28 rfl (zX10_at (l := xl X) (D := xD X) (cI := cI) (cZ := cZ) (cQ := cQ) (h_t := h_t) hq25) (gV mlX10_129 mvX10_at izX10) rfl rfl rfl hdX10_at ⟨Nat.le_of_ble_eq_true rfl, Nat.le_of_ble_eq_true rfl⟩ rfl 0 rfl rfl rfl rfl (Nat.le_of_ble_eq_true rfl) ⟨Nat.zero_le _, Nat.zero_le _⟩ [0] rfl rfl rfl ([nX10 cI cZ cQ h_t u_t]) rfl dX10_side_25 ?_
  refine r_ald_n O 29 rfl 0 rfl dX10_side_28 ?_
  refine r_ild_n O 30 rfl 1 rfl dX10_side_29 ?_
  refine r_ic O 31 rfl 2 (by decide) dX10_side_30 ?_
  obtain ⟨x31, hq31, hf⟩ := qb1_some hf
  refine k_VI O 34 rfl (zX10_at (l := xl X) (D := xD X) (cI := cI) (cZ := cZ) (cQ := cQ) (h_t := h_t) hq31) (gV mlX10_129 mvX10_at izX10) rfl rfl rfl hdX10_at ⟨Nat.le_of_ble_eq_true rfl, Nat.le_of_ble_eq_true rfl⟩ rfl 0 rfl rfl rfl rfl (Nat.le_of_ble_eq_true rfl) ⟨Nat.zero_le _, Nat.zero_le _⟩ [0] rfl rfl rfl ([nX10 cI cZ cQ h_t u_t]) rfl dX10_side_31 ?_
  refine r_isub O 35 rfl dX10_side_34 ?_
  refine r_ild_n O 36 rfl 2 rfl dX10_side_35 ?_
  refine r_ald_n O 37 rfl 0 rfl dX10_side_36 ?_
  refine r_ild_n O 38 rfl 1 rfl dX10_side_37 ?_
  refine r_ic O 39 rfl 1 (by decide) dX10_side_38 ?_
  obtain ⟨x39, hq39, hf⟩ := qb1_some hf
  refine k_VI O 42 rfl (zX10_at (l := xl X) (D := xD X) (cI := cI) (cZ := cZ) (cQ := cQ) (h_t := h_t) hq39) (gV mlX10_129 mvX10_at izX10) rfl rfl rfl hdX10_at ⟨Nat.le_of_ble_eq_true rfl, Nat.le_of_ble_eq_true rfl⟩ rfl 0 rfl rfl rfl rfl (Nat.le_of_ble_eq_true rfl) ⟨Nat.zero_le _, Nat.zero_le _⟩ [0] rfl rfl rfl ([nX10 cI cZ cQ h_t u_t]) rfl dX10_side_39 ?_
  refine r_isub O 43 rfl dX10_side_42 ?_
  refine r_imul O 44 rfl dX10_side_43 ?_
  refine r_isub O 45 rfl dX10_side_44 ?_
  obtain g0 := qe1 hf
  exact r_iret2 O E g0 rfl dX10_side_45
-- X10_startSide
def rmX10_startSide : Room := { frames := 2, cells := 0, slots := 0, locals := 45 }
set_option maxHeartbeats 4000000 in
set_option maxRecDepth 100000 in
theorem zX10_startSide {l : Launch} {D : va_G} {cI cZ cQ : ClassId} {h_t : Nat → Nat} {u_t : Pk} {a1 : Int32} {a2 : Int32} {r0 : Int32} (hf : fX10_startSide u_t a1 a2 = some r0) : MI l yX10_startSide wsX10_startSide rmX10_startSide D (TY cI cZ cQ) [.ref (h_t 0), .int a1, .int a2] [nX10 cI cZ cQ h_t u_t] r0 [nX10 cI cZ cQ h_t u_t] := by
  refine MI.of (own := RX10) (by decide +kernel) rfl rfl (Nat.le_of_ble_eq_true rfl) (lv0 := [(0, .ref (h_t 0)), (1, .int a1), (2, .int a2)]) rfl ?_
  intro X O E
  unfold fX10_startSide at hf
  refine r_ald_n O 1 rfl 0 rfl dX10_startSide_0 ?_
  refine r_ild_n O 2 rfl 1 rfl dX10_startSide_1 ?_
  refine r_ald_n O 3 rfl 0 rfl dX10_startSide_2 ?_
  refine r_ild_n O 4 rfl 2 rfl dX10_startSide_3 ?_
  refine r_ic O 5 rfl 1 (by decide) dX10_startSide_4 ?_
  obtain ⟨x5, hq5, hf⟩ := qb1_some hf
  refine k_VI O 8 rfl (zX10_at (l := xl X) (D := xD X) (cI := cI) (cZ := cZ) (cQ := cQ) (h_t := h_t) hq5) (gV mlX10_129 mvX10_at izX10) rfl rfl rfl hdX10_at ⟨Nat.le_of_ble_eq_true rfl, Nat.le_of_ble_eq_true rfl⟩ rfl 0 rfl rfl rfl rfl (Nat.le_of_ble_eq_true rfl) ⟨Nat.zero_le _, Nat.zero_le _⟩ [0] rfl rfl rfl ([nX10 cI cZ cQ h_t u_t]) rfl dX10_startSide_5 ?_
  refine r_ald_n O 9 rfl 0 rfl dX10_startSide_8 ?_
  refine r_ild_n O 10 rfl 2 rfl dX10_startSide_9 ?_
  refine r_ic O 11 rfl 2 (by decide) dX10_startSide_10 ?_
  obtain ⟨x11, hq11, hf⟩ := qb1_some hf
  refine k_VI O 14 rfl (zX10_at (l := xl X) (D := xD X) (cI := cI) (cZ := cZ) (cQ := cQ) (h_t := h_t) hq11) (gV mlX10_129 mvX10_at izX10) rfl rfl rfl hdX10_at ⟨Nat.le_of_ble_eq_true rfl, Nat.le_of_ble_eq_true rfl⟩ rfl 0 rfl rfl rfl rfl (Nat.le_of_ble_eq_true rfl) ⟨Nat.zero_le _, Nat.zero_le _⟩ [0] rfl rfl rfl ([nX10 cI cZ cQ h_t u_t]) rfl dX10_startSide_11 ?_
  obtain ⟨x14, hq14, hf⟩ := qb1_some hf
  refine k_VI O 17 rfl (zX10_side (l := xl X) (D := xD X) (cI := cI) (cZ := cZ) (cQ := cQ) (h_t := h_t) hq14) (gV mlX10_183 mvX10_side izX10) rfl rfl rfl hdX10_side ⟨Nat.le_of_ble_eq_true rfl, Nat.le_of_ble_eq_true rfl⟩ rfl 0 rfl rfl rfl rfl (Nat.le_of_ble_eq_true rfl) ⟨Nat.zero_le _, Nat.zero_le _⟩ [0] rfl rfl rfl ([nX10 cI cZ cQ h_t u_t]) rfl dX10_startSide_14 ?_
  obtain g0 := qe1 hf
  exact r_iret2 O E g0 rfl dX10_startSide_17
-- X10_endSide
def rmX10_endSide : Room := { frames := 2, cells := 0, slots := 0, locals := 45 }
set_option maxHeartbeats 4000000 in
set_option maxRecDepth 100000 in
theorem zX10_endSide {l : Launch} {D : va_G} {cI cZ cQ : ClassId} {h_t : Nat → Nat} {u_t : Pk} {a1 : Int32} {a2 : Int32} {r0 : Int32} (hf : fX10_endSide u_t a1 a2 = some r0) : MI l yX10_endSide wsX10_endSide rmX10_endSide D (TY cI cZ cQ) [.ref (h_t 0), .int a1, .int a2] [nX10 cI cZ cQ h_t u_t] r0 [nX10 cI cZ cQ h_t u_t] := by
  refine MI.of (own := RX10) (by decide +kernel) rfl rfl (Nat.le_of_ble_eq_true rfl) (lv0 := [(0, .ref (h_t 0)), (1, .int a1), (2, .int a2)]) rfl ?_
  intro X O E
  unfold fX10_endSide at hf
  refine r_ald_n O 1 rfl 0 rfl dX10_endSide_0 ?_
  refine r_ild_n O 2 rfl 1 rfl dX10_endSide_1 ?_
  refine r_ald_n O 3 rfl 0 rfl dX10_endSide_2 ?_
  refine r_ild_n O 4 rfl 2 rfl dX10_endSide_3 ?_
  refine r_ic O 5 rfl 3 (by decide) dX10_endSide_4 ?_
  obtain ⟨x5, hq5, hf⟩ := qb1_some hf
  refine k_VI O 8 rfl (zX10_at (l := xl X) (D := xD X) (cI := cI) (cZ := cZ) (cQ := cQ) (h_t := h_t) hq5) (gV mlX10_129 mvX10_at izX10) rfl rfl rfl hdX10_at ⟨Nat.le_of_ble_eq_true rfl, Nat.le_of_ble_eq_true rfl⟩ rfl 0 rfl rfl rfl rfl (Nat.le_of_ble_eq_true rfl) ⟨Nat.zero_le _, Nat.zero_le _⟩ [0] rfl rfl rfl ([nX10 cI cZ cQ h_t u_t]) rfl dX10_endSide_5 ?_
  refine r_ald_n O 9 rfl 0 rfl dX10_endSide_8 ?_
  refine r_ild_n O 10 rfl 2 rfl dX10_endSide_9 ?_
  refine r_ic O 11 rfl 4 (by decide) dX10_endSide_10 ?_
  obtain ⟨x11, hq11, hf⟩ := qb1_some hf
  refine k_VI O 14 rfl (zX10_at (l := xl X) (D := xD X) (cI := cI) (cZ := cZ) (cQ := cQ) (h_t := h_t) hq11) (gV mlX10_129 mvX10_at izX10) rfl rfl rfl hdX10_at ⟨Nat.le_of_ble_eq_true rfl, Nat.le_of_ble_eq_true rfl⟩ rfl 0 rfl rfl rfl rfl (Nat.le_of_ble_eq_true rfl) ⟨Nat.zero_le _, Nat.zero_le _⟩ [0] rfl rfl rfl ([nX10 cI cZ cQ h_t u_t]) rfl dX10_endSide_11 ?_
  obtain ⟨x14, hq14, hf⟩ := qb1_some hf
  refine k_VI O 17 rfl (zX10_side (l := xl X) (D := xD X) (cI := cI) (cZ := cZ) (cQ := cQ) (h_t := h_t) hq14) (gV mlX10_183 mvX10_side izX10) rfl rfl rfl hdX10_side ⟨Nat.le_of_ble_eq_true rfl, Nat.le_of_ble_eq_true rfl⟩ rfl 0 rfl rfl rfl rfl (Nat.le_of_ble_eq_true rfl) ⟨Nat.zero_le _, Nat.zero_le _⟩ [0] rfl rfl rfl ([nX10 cI cZ cQ h_t u_t]) rfl dX10_endSide_14 ?_
  obtain g0 := qe1 hf
  exact r_iret2 O E g0 rfl dX10_endSide_17
-- X10_signAt
def rmX10_signAt : Room := { frames := 3, cells := 0, slots := 0, locals := 67 }
set_option maxHeartbeats 4000000 in
set_option maxRecDepth 100000 in
theorem zX10_signAt {l : Launch} {D : va_G} {cI cZ cQ : ClassId} {h_t : Nat → Nat} {u_t : Pk} {a1 : Int32} {a2 : Int32} {a3 : Int32} {a4 : Int32} {r0 : Int32} (hf : fX10_signAt u_t a1 a2 a3 a4 = some r0) : MI l yX10_signAt wsX10_signAt rmX10_signAt D (TY cI cZ cQ) [.ref (h_t 0), .int a1, .int a2, .int a3, .int a4] [nX10 cI cZ cQ h_t u_t] r0 [nX10 cI cZ cQ h_t u_t] := by
  refine MI.of (own := RX10) (by decide +kernel) rfl rfl (Nat.le_of_ble_eq_true rfl) (lv0 := [(0, .ref (h_t 0)), (1, .int a1), (2, .int a2), (3, .int a3), (4, .int a4)]) rfl ?_
  intro X O E
  unfold fX10_signAt at hf
  refine r_ald_n O 1 rfl 0 rfl dX10_signAt_0 ?_
  refine r_ild_n O 2 rfl 1 rfl dX10_signAt_1 ?_
  refine r_ild_n O 3 rfl 2 rfl dX10_signAt_2 ?_
  obtain ⟨x3, hq3, hf⟩ := qb1_some hf
  refine k_VI O 6 rfl (zX10_startSide (l := xl X) (D := xD X) (cI := cI) (cZ := cZ) (cQ := cQ) (h_t := h_t) hq3) (gV mlX10_187 mvX10_startSide izX10) rfl rfl rfl hdX10_startSide ⟨Nat.le_of_ble_eq_true rfl, Nat.le_of_ble_eq_true rfl⟩ rfl 0 rfl rfl rfl rfl (Nat.le_of_ble_eq_true rfl) ⟨Nat.zero_le _, Nat.zero_le _⟩ [0] rfl rfl rfl ([nX10 cI cZ cQ h_t u_t]) rfl dX10_signAt_3 ?_
  refine r_i2l O 7 rfl dX10_signAt_6 ?_
  obtain ⟨x7, ex7, hf⟩ := qn_some hf
  rw [← ex7]
  refine r_lst O 9 rfl [(5, .long x7), (0, .ref (h_t 0)), (1, .int a1), (2, .int a2), (3, .int a3), (4, .int a4)] dX10_signAt_7 (by decide) rfl ?_
  refine r_ald_n O 10 rfl 1 rfl dX10_signAt_9 ?_
  refine r_ild_n O 11 rfl 2 rfl dX10_signAt_10 ?_
  refine r_ild_n O 12 rfl 3 rfl dX10_signAt_11 ?_
  obtain ⟨x12, hq12, hf⟩ := qb1_some hf
  refine k_VI O 15 rfl (zX10_endSide (l := xl X) (D := xD X) (cI := cI) (cZ := cZ) (cQ := cQ) (h_t := h_t) hq12) (gV mlX10_190 mvX10_endSide izX10) rfl rfl rfl hdX10_endSide ⟨Nat.le_of_ble_eq_true rfl, Nat.le_of_ble_eq_true rfl⟩ rfl 0 rfl rfl rfl rfl (Nat.le_of_ble_eq_true rfl) ⟨Nat.zero_le _, Nat.zero_le _⟩ [0] rfl rfl rfl ([nX10 cI cZ cQ h_t u_t]) rfl dX10_signAt_12 ?_
  refine r_i2l O 16 rfl dX10_signAt_15 ?_
  obtain ⟨x16, ex16, hf⟩ := qn_some hf
  rw [← ex16]
  refine r_lst O 18 rfl [(7, .long x16), (5, .long x7), (0, .ref (h_t 0)), (1, .int a1), (2, .int a2), (3, .int a3), (4, .int a4)] dX10_signAt_16 (by decide) rfl ?_
  refine r_lld O 20 rfl 1 rfl dX10_signAt_18 ?_
  refine r_ild O 22 rfl 6 rfl dX10_signAt_20 ?_
  refine r_i2l O 23 rfl dX10_signAt_22 ?_
  refine r_lmul O 24 rfl dX10_signAt_23 ?_
  refine r_ild_n O 25 rfl 5 rfl dX10_signAt_24 ?_
  refine r_i2l O 26 rfl dX10_signAt_25 ?_
  refine r_lld O 28 rfl 0 rfl dX10_signAt_26 ?_
  refine r_lld O 30 rfl 1 rfl dX10_signAt_28 ?_
  refine r_lsub O 31 rfl dX10_signAt_30 ?_
  refine r_lmul O 32 rfl dX10_signAt_31 ?_
  refine r_ladd O 33 rfl dX10_signAt_32 ?_
  obtain ⟨x33, ex33, hf⟩ := qn_some hf
  rw [← ex33]
  refine r_lst O 35 rfl [(9, .long x33), (7, .long x16), (5, .long x7), (0, .ref (h_t 0)), (1, .int a1), (2, .int a2), (3, .int a3), (4, .int a4)] dX10_signAt_33 (by decide) rfl ?_
  refine r_lld O 37 rfl 0 rfl dX10_signAt_35 ?_
  refine r_lc O 38 rfl 0 (by decide) dX10_signAt_37 ?_
  refine r_lcmp O 39 rfl dX10_signAt_38 ?_
  refine r_if_le O 42 rfl 46 dX10_signAt_39 (by decide) (fun hc39 => ?_) (fun hc39 => ?_)
  · rw [if_pos hc39] at hf
    refine r_lld O 48 rfl 0 rfl dX10_signAt_46 ?_
    refine r_lc O 49 rfl 0 (by decide) dX10_signAt_48 ?_
    refine r_lcmp O 50 rfl dX10_signAt_49 ?_
    refine r_if_ge O 53 rfl 57 dX10_signAt_50 (by decide) (fun hc50 => ?_) (fun hc50 => ?_)
    · rw [if_pos hc50] at hf
      refine r_ic O 58 rfl 0 (by decide) dX10_signAt_57 ?_
      obtain g0 := qe1 hf
      exact r_iret2 O E g0 rfl dX10_signAt_58
    · rw [if_neg hc50] at hf
      refine r_ic O 54 rfl (-1) (by decide) dX10_signAt_53 ?_
      refine r_goto O 58 dX10_signAt_54 (by decide) ?_
      obtain g0 := qe1 hf
      exact r_iret2 O E g0 rfl dX10_signAt_58
  · rw [if_neg hc39] at hf
    refine r_ic O 43 rfl 1 (by decide) dX10_signAt_42 ?_
    refine r_goto O 58 dX10_signAt_43 (by decide) ?_
    obtain g0 := qe1 hf
    exact r_iret2 O E g0 rfl dX10_signAt_58
-- X10_relation
def rmX10_relation : Room := { frames := 4, cells := 0, slots := 0, locals := 97 }
set_option maxHeartbeats 4000000 in
set_option maxRecDepth 100000 in
theorem zX10_relation {l : Launch} {D : va_G} {cI cZ cQ : ClassId} {h_t : Nat → Nat} {u_t : Pk} {a1 : Int32} {a2 : Int32} {a3 : Int32} {a4 : Int32} {a5 : Int32} {a6 : Int32} {r0 : Int32} (hf : fX10_relation u_t a1 a2 a3 a4 a5 a6 = some r0) : MI l yX10_relation wsX10_relation rmX10_relation D (TY cI cZ cQ) [.ref (h_t 0), .int a1, .int a2, .int a3, .int a4, .int a5, .int a6] [nX10 cI cZ cQ h_t u_t] r0 [nX10 cI cZ cQ h_t u_t] := by
  refine MI.of (own := RX10) (by decide +kernel) rfl rfl (Nat.le_of_ble_eq_true rfl) (lv0 := [(0, .ref (h_t 0)), (1, .int a1), (2, .int a2), (3, .int a3), (4, .int a4), (5, .int a5), (6, .int a6)]) rfl ?_
  intro X O E
  have B47 : ∀ (y7 : Int32) (y8 : Int32), fX10_relation_b47 u_t y7 y8 = some r0 → BK X 9 0 0 47 ([nX10 cI cZ cQ h_t u_t]) [(7, .int y7), (8, .int y8)] [] := by
    intro y7 y8 hf
    unfold fX10_relation_b47 at hf
    refine r_ild O 49 rfl 0 rfl dX10_relation_47 ?_
    refine r_if_gt O 52 rfl 61 dX10_relation_49 (by decide) (fun hc49 => ?_) (fun hc49 => ?_)
    · rw [if_pos hc49] at hf
      refine r_ic O 62 rfl 2 (by decide) dX10_relation_61 ?_
      obtain g0 := qe1 hf
      exact r_iret2 O E g0 rfl dX10_relation_62
    · rw [if_neg hc49] at hf
      refine r_ild O 54 rfl 1 rfl dX10_relation_52 ?_
      refine r_if_gt O 57 rfl 61 dX10_relation_54 (by decide) (fun hc54 => ?_) (fun hc54 => ?_)
      · rw [if_pos hc54] at hf
        refine r_ic O 62 rfl 2 (by decide) dX10_relation_61 ?_
        obtain g0 := qe1 hf
        exact r_iret2 O E g0 rfl dX10_relation_62
      · rw [if_neg hc54] at hf
        refine r_ic O 58 rfl (-1) (by decide) dX10_relation_57 ?_
        refine r_goto O 62 dX10_relation_58 (by decide) ?_
        obtain g0 := qe1 hf
        exact r_iret2 O E g0 rfl dX10_relation_62
  have B35 : ∀ (y7 : Int32) (y8 : Int32), fX10_relation_b35 u_t y7 y8 = some r0 → BK X 9 0 0 35 ([nX10 cI cZ cQ h_t u_t]) [(7, .int y7), (8, .int y8)] [] := by
    intro y7 y8 hf
    unfold fX10_relation_b35 at hf
    refine r_ild O 37 rfl 0 rfl dX10_relation_35 ?_
    refine r_if_lt O 40 rfl 47 dX10_relation_37 (by decide) (fun hc37 => ?_) (fun hc37 => ?_)
    · rw [if_pos hc37] at hf
      exact B47 _ _ hf
    · rw [if_neg hc37] at hf
      refine r_ild O 42 rfl 1 rfl dX10_relation_40 ?_
      refine r_if_lt O 45 rfl 47 dX10_relation_42 (by decide) (fun hc42 => ?_) (fun hc42 => ?_)
      · rw [if_pos hc42] at hf
        exact B47 _ _ hf
      · rw [if_neg hc42] at hf
        refine r_ic O 46 rfl 1 (by decide) dX10_relation_45 ?_
        obtain g0 := qe1 hf
        exact r_iret2 O E g0 rfl dX10_relation_46
  unfold fX10_relation at hf
  refine r_ald_n O 1 rfl 0 rfl dX10_relation_0 ?_
  refine r_ild_n O 2 rfl 1 rfl dX10_relation_1 ?_
  refine r_ild_n O 3 rfl 2 rfl dX10_relation_2 ?_
  refine r_ild_n O 4 rfl 3 rfl dX10_relation_3 ?_
  refine r_ild O 6 rfl 4 rfl dX10_relation_4 ?_
  obtain ⟨x6, hq6, hf⟩ := qb1_some hf
  refine k_VI O 9 rfl (zX10_signAt (l := xl X) (D := xD X) (cI := cI) (cZ := cZ) (cQ := cQ) (h_t := h_t) hq6) (gV mlX10_193 mvX10_signAt izX10) rfl rfl rfl hdX10_signAt ⟨Nat.le_of_ble_eq_true rfl, Nat.le_of_ble_eq_true rfl⟩ rfl 0 rfl rfl rfl rfl (Nat.le_of_ble_eq_true rfl) ⟨Nat.zero_le _, Nat.zero_le _⟩ [0] rfl rfl rfl ([nX10 cI cZ cQ h_t u_t]) rfl dX10_relation_6 ?_
  refine r_ist O 11 rfl [(7, .int x6), (0, .ref (h_t 0)), (1, .int a1), (2, .int a2), (3, .int a3), (4, .int a4), (5, .int a5), (6, .int a6)] dX10_relation_9 (by decide) rfl ?_
  refine r_ald_n O 12 rfl 1 rfl dX10_relation_11 ?_
  refine r_ild_n O 13 rfl 2 rfl dX10_relation_12 ?_
  refine r_ild_n O 14 rfl 3 rfl dX10_relation_13 ?_
  refine r_ild O 16 rfl 6 rfl dX10_relation_14 ?_
  refine r_ild O 18 rfl 7 rfl dX10_relation_16 ?_
  obtain ⟨x18, hq18, hf⟩ := qb1_some hf
  refine k_VI O 21 rfl (zX10_signAt (l := xl X) (D := xD X) (cI := cI) (cZ := cZ) (cQ := cQ) (h_t := h_t) hq18) (gV mlX10_193 mvX10_signAt izX10) rfl rfl rfl hdX10_signAt ⟨Nat.le_of_ble_eq_true rfl, Nat.le_of_ble_eq_true rfl⟩ rfl 0 rfl rfl rfl rfl (Nat.le_of_ble_eq_true rfl) ⟨Nat.zero_le _, Nat.zero_le _⟩ [0] rfl rfl rfl ([nX10 cI cZ cQ h_t u_t]) rfl dX10_relation_18 ?_
  refine r_ist O 23 rfl [(8, .int x18), (7, .int x6), (0, .ref (h_t 0)), (1, .int a1), (2, .int a2), (3, .int a3), (4, .int a4), (5, .int a5), (6, .int a6)] dX10_relation_21 (by decide) rfl ?_
  refine r_ild O 25 rfl 1 rfl dX10_relation_23 ?_
  refine r_if_ne O 28 rfl 35 dX10_relation_25 (by decide) (fun hc25 => ?_) (fun hc25 => ?_)
  · rw [if_neg hc25] at hf
    refine r_lv [1, 0] rfl ?_
    exact B35 _ _ hf
  · rw [if_pos hc25] at hf
    refine r_ild O 30 rfl 0 rfl dX10_relation_28 ?_
    refine r_if_ne O 33 rfl 35 dX10_relation_30 (by decide) (fun hc30 => ?_) (fun hc30 => ?_)
    · rw [if_neg hc30] at hf
      refine r_lv [1, 0] rfl ?_
      exact B35 _ _ hf
    · rw [if_pos hc30] at hf
      refine r_ic O 34 rfl 0 (by decide) dX10_relation_33 ?_
      obtain g0 := qe1 hf
      exact r_iret2 O E g0 rfl dX10_relation_34
