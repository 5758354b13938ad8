-- X10_paintCount
def rmX10_paintCount : Room := { frames := 10, cells := 0, slots := 0, locals := 251 }
set_option maxHeartbeats 4000000 in
set_option maxRecDepth 100000 in
theorem zX10_paintCount {l : Launch} {D : va_G} {cI cZ cQ : ClassId} {h_t : Nat → Nat} {u_t : Pk} {a1 : Int32} {a2 : Int32} {a3 : Int32} {a4 : Int32} {r0 : Int32} {v_t : Pk} (hf : fX10_paintCount u_t a1 a2 a3 a4 = some (r0, v_t)) : MI l yX10_paintCount wsX10_paintCount rmX10_paintCount D (TY cI cZ cQ) [.ref (h_t 0), .int a1, .int a2, .int a3, .int a4] [nX10 cI cZ cQ h_t u_t] r0 [nX10 cI cZ cQ h_t v_t] := by
  refine MI.of (own := RX10) (by decide +kernel) rfl rfl (Nat.le_of_ble_eq_true rfl) (lv0 := [(0, .ref (h_t 0)), (1, .int a1), (2, .int a2), (3, .int a3), (4, .int a4)]) rfl ?_
  intro X O E
  have B73 : ∀ (rec26 : Pk → Int32 → Int32 → Int32 → Int32 → Int32 → Int32 → Option (Int32 × Pk)), (∀ (w_t : Pk) (y1 : Int32) (y2 : Int32) (y3 : Int32) (y4 : Int32) (y5 : Int32) (y6 : Int32), rec26 w_t y1 y2 y3 y4 y5 y6 = some (r0, v_t) → BK X 8 0 0 26 ([nX10 cI cZ cQ h_t w_t]) [(0, .ref (h_t 0)), (1, .int y1), (2, .int y2), (3, .int y3), (4, .int y4), (5, .int y5), (6, .int y6)] []) → ∀ (rec38 : Pk → Int32 → Int32 → Int32 → Int32 → Int32 → Int32 → Int32 → Option (Int32 × Pk)), (∀ (w_t : Pk) (y1 : Int32) (y2 : Int32) (y3 : Int32) (y4 : Int32) (y5 : Int32) (y6 : Int32) (y7 : Int32), rec38 w_t y1 y2 y3 y4 y5 y6 y7 = some (r0, v_t) → BK X 8 0 0 38 ([nX10 cI cZ cQ h_t w_t]) [(0, .ref (h_t 0)), (1, .int y1), (2, .int y2), (3, .int y3), (4, .int y4), (5, .int y5), (6, .int y6), (7, .int y7)] []) → ∀ (w_t : Pk) (y1 : Int32) (y2 : Int32) (y3 : Int32) (y4 : Int32) (y6 : Int32) (y7 : Int32) (z0 : Int32) (z1 : Int32), fX10_paintCount_b73 rec26 rec38 w_t y1 y2 y3 y4 y6 y7 z0 z1 = some (r0, v_t) → BK X 8 0 0 73 ([nX10 cI cZ cQ h_t w_t]) [(0, .ref (h_t 0)), (1, .int y1), (2, .int y2), (3, .int y3), (4, .int y4), (6, .int y6), (7, .int y7)] [.int z1, .int z0] := by
    intro rec26 hrec26 rec38 hrec38 w_t y1 y2 y3 y4 y6 y7 z0 z1 hf
    unfold fX10_paintCount_b73 at hf
    refine r_iadd O 74 rfl dX10_paintCount_73 ?_
    obtain ⟨x74, ex74, hf⟩ := qn_some hf
    rw [← ex74]
    refine r_ist O 76 rfl [(5, .int x74), (0, .ref (h_t 0)), (1, .int y1), (2, .int y2), (3, .int y3), (4, .int y4), (6, .int y6), (7, .int y7)] dX10_paintCount_74 (by decide) rfl ?_
    obtain ⟨x76, ex76, hf⟩ := qn_some hf
    refine r_iinc O 79 rfl x76 7 rfl (by rw [ex76]; rfl) [(7, .int x76), (5, .int x74), (0, .ref (h_t 0)), (1, .int y1), (2, .int y2), (3, .int y3), (4, .int y4), (6, .int y6)] dX10_paintCount_76 (by decide) rfl ?_
    refine r_goto O 38 dX10_paintCount_79 (by decide) ?_
    refine r_lv [2, 3, 4, 5, 6, 1, 7, 0] rfl ?_
    exact hrec38 _ _ _ _ _ _ _ _ hf
  have B38 : ∀ (rec26 : Pk → Int32 → Int32 → Int32 → Int32 → Int32 → Int32 → Option (Int32 × Pk)), (∀ (w_t : Pk) (y1 : Int32) (y2 : Int32) (y3 : Int32) (y4 : Int32) (y5 : Int32) (y6 : Int32), rec26 w_t y1 y2 y3 y4 y5 y6 = some (r0, v_t) → BK X 8 0 0 26 ([nX10 cI cZ cQ h_t w_t]) [(0, .ref (h_t 0)), (1, .int y1), (2, .int y2), (3, .int y3), (4, .int y4), (5, .int y5), (6, .int y6)] []) → ∀ n : Nat, ∀ (w_t : Pk) (y1 : Int32) (y2 : Int32) (y3 : Int32) (y4 : Int32) (y5 : Int32) (y6 : Int32) (y7 : Int32), fX10_paintCount_b38 rec26 n w_t y1 y2 y3 y4 y5 y6 y7 = some (r0, v_t) → BK X 8 0 0 38 ([nX10 cI cZ cQ h_t w_t]) [(0, .ref (h_t 0)), (1, .int y1), (2, .int y2), (3, .int y3), (4, .int y4), (5, .int y5), (6, .int y6), (7, .int y7)] [] := by
    intro rec26 hrec26
    intro n
    induction n with
    | zero => exact fun _ _ _ _ _ _ _ _ hf => qno hf
    | succ n hrec38 =>
      intro w_t y1 y2 y3 y4 y5 y6 y7 hf
      have hf : fX10_paintCount_b38_s rec26 (fX10_paintCount_b38 rec26 n) w_t y1 y2 y3 y4 y5 y6 y7 = some (r0, v_t) := hf
      generalize fX10_paintCount_b38 rec26 n = rec38 at hf hrec38
      unfold fX10_paintCount_b38_s at hf
      refine r_ild O 40 rfl 7 rfl dX10_paintCount_38 ?_
      refine r_bi O 42 rfl 32 (by decide) dX10_paintCount_40 ?_
      refine r_icmp_ge O 45 rfl 82 dX10_paintCount_42 (by decide) (fun hc42 => ?_) (fun hc42 => ?_)
      · rw [if_pos hc42] at hf
        obtain ⟨x82, ex82, hf⟩ := qn_some hf
        refine r_iinc O 85 rfl x82 6 rfl (by rw [ex82]; rfl) [(6, .int x82), (0, .ref (h_t 0)), (1, .int y1), (2, .int y2), (3, .int y3), (4, .int y4), (5, .int y5), (7, .int y7)] dX10_paintCount_82 (by decide) rfl ?_
        refine r_goto O 26 dX10_paintCount_85 (by decide) ?_
        refine r_lv [1, 2, 3, 4, 5, 6, 0] rfl ?_
        exact hrec26 _ _ _ _ _ _ _ hf
      · rw [if_neg hc42] at hf
        refine r_ild O 47 rfl 5 rfl dX10_paintCount_45 ?_
        refine r_ald_n O 48 rfl 0 rfl dX10_paintCount_47 ?_
        refine r_ald_n O 49 rfl 0 rfl dX10_paintCount_48 ?_
        refine r_get (ref := RX10) (C := RX10) (T := TX10) (N := 70) O 52 rfl inBX10 0 49 rfl rfl rfl (by decide) flX10_110 rfl rfl dX10_paintCount_49 ?_
        refine r_ild O 54 rfl 6 rfl dX10_paintCount_52 ?_
        obtain ⟨x54, ex54, hin54, hf⟩ := qld_some hf
        refine r_iald O 55 rfl 0 27 rfl rfl hin54 dX10_paintCount_54 ?_
        rw [← ex54]
        refine r_ild_n O 56 rfl 1 rfl dX10_paintCount_55 ?_
        refine r_ild_n O 57 rfl 2 rfl dX10_paintCount_56 ?_
        refine r_ild_n O 58 rfl 3 rfl dX10_paintCount_57 ?_
        refine r_ild O 60 rfl 4 rfl dX10_paintCount_58 ?_
        refine r_ild O 62 rfl 7 rfl dX10_paintCount_60 ?_
        obtain ⟨x62, p62_t, hq62, hf⟩ := qb2_some hf
        refine k_VZ O 65 rfl (zX10_covers (l := xl X) (D := xD X) (cI := cI) (cZ := cZ) (cQ := cQ) (h_t := h_t) hq62) (gV mlX10_337 mvX10_covers izX10) rfl rfl rfl hdX10_covers ⟨Nat.le_of_ble_eq_true rfl, Nat.le_of_ble_eq_true rfl⟩ rfl 0 rfl rfl rfl rfl (Nat.le_of_ble_eq_true rfl) ⟨Nat.zero_le _, Nat.zero_le _⟩ [0] rfl rfl rfl ([nX10 cI cZ cQ h_t p62_t]) rfl dX10_paintCount_62 (fun hz62 => ?_)
        refine r_if_eq O 68 rfl 72 dX10_paintCount_65 (by decide) (fun hc65 => ?_) (fun hc65 => ?_)
        · rw [if_pos hc65] at hf
          refine r_ic O 73 rfl 0 (by decide) dX10_paintCount_72 ?_
          refine r_lv [0, 1, 2, 3, 4, 6, 7] rfl ?_
          exact B73 rec26 hrec26 rec38 hrec38 _ _ _ _ _ _ _ _ _ hf
        · rw [if_neg hc65] at hf
          refine r_ic O 69 rfl 1 (by decide) dX10_paintCount_68 ?_
          refine r_goto O 73 dX10_paintCount_69 (by decide) ?_
          refine r_lv [0, 1, 2, 3, 4, 6, 7] rfl ?_
          exact B73 rec26 hrec26 rec38 hrec38 _ _ _ _ _ _ _ _ _ hf
  have B26 : ∀ n : Nat, ∀ (w_t : Pk) (y1 : Int32) (y2 : Int32) (y3 : Int32) (y4 : Int32) (y5 : Int32) (y6 : Int32), fX10_paintCount_b26 n w_t y1 y2 y3 y4 y5 y6 = some (r0, v_t) → BK X 8 0 0 26 ([nX10 cI cZ cQ h_t w_t]) [(0, .ref (h_t 0)), (1, .int y1), (2, .int y2), (3, .int y3), (4, .int y4), (5, .int y5), (6, .int y6)] [] := by
    intro n
    induction n with
    | zero => exact fun _ _ _ _ _ _ _ hf => qno hf
    | succ n hrec26 =>
      intro w_t y1 y2 y3 y4 y5 y6 hf
      have hf : fX10_paintCount_b26_s (fX10_paintCount_b26 n) w_t y1 y2 y3 y4 y5 y6 = some (r0, v_t) := hf
      generalize fX10_paintCount_b26 n = rec26 at hf hrec26
      unfold fX10_paintCount_b26_s at hf
      refine r_ild O 28 rfl 6 rfl dX10_paintCount_26 ?_
      refine r_ald_n O 29 rfl 0 rfl dX10_paintCount_28 ?_
      refine r_get (ref := RX10) (C := RX10) (T := TX10) (N := 70) O 32 rfl inBX10 0 50 rfl rfl rfl (by decide) flX10_301 rfl rfl dX10_paintCount_29 ?_
      refine r_icmp_ge O 35 rfl 88 dX10_paintCount_32 (by decide) (fun hc32 => ?_) (fun hc32 => ?_)
      · rw [if_pos hc32] at hf
        refine r_ild O 90 rfl 5 rfl dX10_paintCount_88 ?_
        obtain ⟨g0, g1⟩ := qe2 hf
        exact r_iret2 O E g0 (by rw [g1]) dX10_paintCount_90
      · rw [if_neg hc32] at hf
        refine r_ic O 36 rfl 0 (by decide) dX10_paintCount_35 ?_
        refine r_ist O 38 rfl [(7, .int 0), (0, .ref (h_t 0)), (1, .int y1), (2, .int y2), (3, .int y3), (4, .int y4), (5, .int y5), (6, .int y6)] dX10_paintCount_36 (by decide) rfl ?_
        refine r_lv [1, 2, 3, 4, 5, 6, 7, 0] rfl ?_
        exact B38 rec26 hrec26 FU _ _ _ _ _ _ _ _ hf
  unfold fX10_paintCount at hf
  refine r_ild_n O 1 rfl 1 rfl dX10_paintCount_0 ?_
  refine r_ild_n O 2 rfl 2 rfl dX10_paintCount_1 ?_
  refine r_ild_n O 3 rfl 3 rfl dX10_paintCount_2 ?_
  refine r_ild O 5 rfl 4 rfl dX10_paintCount_3 ?_
  obtain ⟨x5, hq5, hf⟩ := qb1_some hf
  refine k_SZ O 8 rfl (zX10_isPicture (l := xl X) (D := xD X) (cI := cI) (cZ := cZ) (cQ := cQ) hq5) (gS mlX10_333 mvX10_isPicture izX10) rfl rfl rfl hdX10_isPicture ⟨Nat.le_of_ble_eq_true rfl, Nat.le_of_ble_eq_true rfl⟩ rfl rfl (Nat.le_of_ble_eq_true rfl) ⟨Nat.zero_le _, Nat.zero_le _⟩ [] rfl rfl rfl ([nX10 cI cZ cQ h_t u_t]) rfl dX10_paintCount_5 (fun hz5 => ?_)
  refine r_if_ne O 11 rfl 14 dX10_paintCount_8 (by decide) (fun hc8 => ?_) (fun hc8 => ?_)
  · rw [if_neg hc8] at hf
    refine r_ald_n O 15 rfl 0 rfl dX10_paintCount_14 ?_
    refine r_ild_n O 16 rfl 1 rfl dX10_paintCount_15 ?_
    refine r_ild_n O 17 rfl 2 rfl dX10_paintCount_16 ?_
    obtain ⟨p17_t, hq17, hf⟩ := qb1_some hf
    refine k_VV O 20 rfl (zX10_draw (l := xl X) (D := xD X) (cI := cI) (cZ := cZ) (cQ := cQ) (h_t := h_t) hq17) (gV mlX10_308 mvX10_draw izX10) rfl rfl rfl hdX10_draw ⟨Nat.le_of_ble_eq_true rfl, Nat.le_of_ble_eq_true rfl⟩ rfl 0 rfl rfl rfl rfl (Nat.le_of_ble_eq_true rfl) ⟨Nat.zero_le _, Nat.zero_le _⟩ [0] rfl rfl rfl ([nX10 cI cZ cQ h_t p17_t]) rfl dX10_paintCount_17 ?_
    refine r_ic O 21 rfl 0 (by decide) dX10_paintCount_20 ?_
    refine r_ist O 23 rfl [(5, .int 0), (0, .ref (h_t 0)), (1, .int a1), (2, .int a2), (3, .int a3), (4, .int a4)] dX10_paintCount_21 (by decide) rfl ?_
    refine r_ic O 24 rfl 0 (by decide) dX10_paintCount_23 ?_
    refine r_ist O 26 rfl [(6, .int 0), (5, .int 0), (0, .ref (h_t 0)), (1, .int a1), (2, .int a2), (3, .int a3), (4, .int a4)] dX10_paintCount_24 (by decide) rfl ?_
    refine r_lv [2, 3, 4, 5, 6, 1, 0] rfl ?_
    exact B26 FU _ _ _ _ _ _ _ hf
  · rw [if_pos hc8] at hf
    refine r_bi O 13 rfl (-2) (by decide) dX10_paintCount_11 ?_
    obtain ⟨g0, g1⟩ := qe2 hf
    exact r_iret2 O E g0 (by rw [g1]) dX10_paintCount_13
-- X10_paintedPiece
def rmX10_paintedPiece : Room := { frames := 10, cells := 0, slots := 0, locals := 251 }
set_option maxHeartbeats 4000000 in
set_option maxRecDepth 100000 in
theorem zX10_paintedPiece {l : Launch} {D : va_G} {cI cZ cQ : ClassId} {h_t : Nat → Nat} {u_t : Pk} {a1 : Int32} {a2 : Int32} {a3 : Int32} {a4 : Int32} {a5 : Int32} {r0 : Int32} {v_t : Pk} (hf : fX10_paintedPiece u_t a1 a2 a3 a4 a5 = some (r0, v_t)) : MI l yX10_paintedPiece wsX10_paintedPiece rmX10_paintedPiece D (TY cI cZ cQ) [.ref (h_t 0), .int a1, .int a2, .int a3, .int a4, .int a5] [nX10 cI cZ cQ h_t u_t] r0 [nX10 cI cZ cQ h_t v_t] := by
  refine MI.of (own := RX10) (by decide +kernel) rfl rfl (Nat.le_of_ble_eq_true rfl) (lv0 := [(0, .ref (h_t 0)), (1, .int a1), (2, .int a2), (3, .int a3), (4, .int a4), (5, .int a5)]) rfl ?_
  intro X O E
  have B94 : ∀ (rec40 : Pk → Int32 → Int32 → Int32 → Int32 → Int32 → Int32 → Option (Int32 × Pk)), (∀ (w_t : Pk) (y1 : Int32) (y2 : Int32) (y3 : Int32) (y4 : Int32) (y5 : Int32) (y6 : Int32), rec40 w_t y1 y2 y3 y4 y5 y6 = some (r0, v_t) → BK X 8 0 0 40 ([nX10 cI cZ cQ h_t w_t]) [(0, .ref (h_t 0)), (1, .int y1), (2, .int y2), (3, .int y3), (4, .int y4), (5, .int y5), (6, .int y6)] []) → ∀ (w_t : Pk) (y1 : Int32) (y2 : Int32) (y3 : Int32) (y4 : Int32) (y5 : Int32) (y6 : Int32), fX10_paintedPiece_b94 rec40 w_t y1 y2 y3 y4 y5 y6 = some (r0, v_t) → BK X 8 0 0 94 ([nX10 cI cZ cQ h_t w_t]) [(0, .ref (h_t 0)), (1, .int y1), (2, .int y2), (3, .int y3), (4, .int y4), (5, .int y5), (6, .int y6)] [] := by
    intro rec40 hrec40 w_t y1 y2 y3 y4 y5 y6 hf
    unfold fX10_paintedPiece_b94 at hf
    obtain ⟨x94, ex94, hf⟩ := qn_some hf
    refine r_iinc O 97 rfl x94 6 rfl (by rw [ex94]; rfl) [(6, .int x94), (0, .ref (h_t 0)), (1, .int y1), (2, .int y2), (3, .int y3), (4, .int y4), (5, .int y5)] dX10_paintedPiece_94 (by decide) rfl ?_
    refine r_goto O 40 dX10_paintedPiece_97 (by decide) ?_
    refine r_lv [1, 2, 3, 4, 5, 6, 0] rfl ?_
    exact hrec40 _ _ _ _ _ _ _ hf
  have B40 : ∀ n : Nat, ∀ (w_t : Pk) (y1 : Int32) (y2 : Int32) (y3 : Int32) (y4 : Int32) (y5 : Int32) (y6 : Int32), fX10_paintedPiece_b40 n w_t y1 y2 y3 y4 y5 y6 = some (r0, v_t) → BK X 8 0 0 40 ([nX10 cI cZ cQ h_t w_t]) [(0, .ref (h_t 0)), (1, .int y1), (2, .int y2), (3, .int y3), (4, .int y4), (5, .int y5), (6, .int y6)] [] := by
    intro n
    induction n with
    | zero => exact fun _ _ _ _ _ _ _ hf => qno hf
    | succ n hrec40 =>
      intro w_t y1 y2 y3 y4 y5 y6 hf
      have hf : fX10_paintedPiece_b40_s (fX10_paintedPiece_b40 n) w_t y1 y2 y3 y4 y5 y6 = some (r0, v_t) := hf
      generalize fX10_paintedPiece_b40 n = rec40 at hf hrec40
      unfold fX10_paintedPiece_b40_s at hf
      refine r_ild O 42 rfl 6 rfl dX10_paintedPiece_40 ?_
      refine r_if_lt O 45 rfl 100 dX10_paintedPiece_42 (by decide) (fun hc42 => ?_) (fun hc42 => ?_)
      · rw [if_pos hc42] at hf
        refine r_bi O 102 rfl (-8) (by decide) dX10_paintedPiece_100 ?_
        obtain ⟨g0, g1⟩ := qe2 hf
        exact r_iret2 O E g0 (by rw [g1]) dX10_paintedPiece_102
      · rw [if_neg hc42] at hf
        refine r_ald_n O 46 rfl 0 rfl dX10_paintedPiece_45 ?_
        refine r_get (ref := RX10) (C := RX10) (T := TX10) (N := 70) O 49 rfl inBX10 0 49 rfl rfl rfl (by decide) flX10_110 rfl rfl dX10_paintedPiece_46 ?_
        refine r_ild O 51 rfl 6 rfl dX10_paintedPiece_49 ?_
        obtain ⟨x51, ex51, hin51, hf⟩ := qld_some hf
        refine r_iald O 52 rfl 0 27 rfl rfl hin51 dX10_paintedPiece_51 ?_
        rw [← ex51]
        refine r_ist O 54 rfl [(7, .int x51), (0, .ref (h_t 0)), (1, .int y1), (2, .int y2), (3, .int y3), (4, .int y4), (5, .int y5), (6, .int y6)] dX10_paintedPiece_52 (by decide) rfl ?_
        refine r_ald_n O 55 rfl 1 rfl dX10_paintedPiece_54 ?_
        refine r_ald_n O 56 rfl 1 rfl dX10_paintedPiece_55 ?_
        refine r_get (ref := RX10) (C := RX10) (T := TX10) (N := 70) O 59 rfl inBX10 0 27 rfl rfl rfl (by decide) flX10_62 rfl rfl dX10_paintedPiece_56 ?_
        refine r_ild O 61 rfl 0 rfl dX10_paintedPiece_59 ?_
        obtain ⟨x61, ex61, hin61, hf⟩ := qld_some hf
        refine r_iald O 62 rfl 0 11 rfl rfl hin61 dX10_paintedPiece_61 ?_
        rw [← ex61]
        refine r_ic O 63 rfl 5 (by decide) dX10_paintedPiece_62 ?_
        obtain ⟨x63, hq63, hf⟩ := qb1_some hf
        refine k_VI O 66 rfl (zX10_at (l := xl X) (D := xD X) (cI := cI) (cZ := cZ) (cQ := cQ) (h_t := h_t) hq63) (gV mlX10_129 mvX10_at izX10) rfl rfl rfl hdX10_at ⟨Nat.le_of_ble_eq_true rfl, Nat.le_of_ble_eq_true rfl⟩ rfl 0 rfl rfl rfl rfl (Nat.le_of_ble_eq_true rfl) ⟨Nat.zero_le _, Nat.zero_le _⟩ [0] rfl rfl rfl ([nX10 cI cZ cQ h_t w_t]) rfl dX10_paintedPiece_63 ?_
        refine r_ic O 67 rfl 1 (by decide) dX10_paintedPiece_66 ?_
        refine r_icmp_eq O 70 rfl 94 dX10_paintedPiece_67 (by decide) (fun hc67 => ?_) (fun hc67 => ?_)
        · rw [if_pos hc67] at hf
          refine r_lv [1, 2, 3, 4, 5, 6, 7] rfl ?_
          exact B94 rec40 hrec40 _ _ _ _ _ _ _ hf
        · rw [if_neg hc67] at hf
          refine r_ald_n O 71 rfl 1 rfl dX10_paintedPiece_70 ?_
          refine r_ild O 73 rfl 0 rfl dX10_paintedPiece_71 ?_
          refine r_ild_n O 74 rfl 2 rfl dX10_paintedPiece_73 ?_
          refine r_ild_n O 75 rfl 3 rfl dX10_paintedPiece_74 ?_
          refine r_ild_n O 76 rfl 4 rfl dX10_paintedPiece_75 ?_
          refine r_ild O 78 rfl 5 rfl dX10_paintedPiece_76 ?_
          refine r_ild O 80 rfl 6 rfl dX10_paintedPiece_78 ?_
          obtain ⟨x80, p80_t, hq80, hf⟩ := qb2_some hf
          refine k_VZ O 83 rfl (zX10_covers (l := xl X) (D := xD X) (cI := cI) (cZ := cZ) (cQ := cQ) (h_t := h_t) hq80) (gV mlX10_337 mvX10_covers izX10) rfl rfl rfl hdX10_covers ⟨Nat.le_of_ble_eq_true rfl, Nat.le_of_ble_eq_true rfl⟩ rfl 0 rfl rfl rfl rfl (Nat.le_of_ble_eq_true rfl) ⟨Nat.zero_le _, Nat.zero_le _⟩ [0] rfl rfl rfl ([nX10 cI cZ cQ h_t p80_t]) rfl dX10_paintedPiece_80 (fun hz80 => ?_)
          refine r_if_eq O 86 rfl 94 dX10_paintedPiece_83 (by decide) (fun hc83 => ?_) (fun hc83 => ?_)
          · rw [if_pos hc83] at hf
            refine r_lv [1, 2, 3, 4, 5, 6, 7] rfl ?_
            exact B94 rec40 hrec40 _ _ _ _ _ _ _ hf
          · rw [if_neg hc83] at hf
            refine r_ald_n O 87 rfl 1 rfl dX10_paintedPiece_86 ?_
            refine r_get (ref := RX10) (C := RX10) (T := TX10) (N := 70) O 90 rfl inBX10 0 42 rfl rfl rfl (by decide) flX10_101 rfl rfl dX10_paintedPiece_87 ?_
            refine r_ild O 92 rfl 0 rfl dX10_paintedPiece_90 ?_
            obtain ⟨x92, ex92, hin92, hf⟩ := qld_some hf
            refine r_iald O 93 rfl 0 24 rfl rfl hin92 dX10_paintedPiece_92 ?_
            rw [← ex92]
            obtain ⟨g0, g1⟩ := qe2 hf
            exact r_iret2 O E g0 (by rw [g1]) dX10_paintedPiece_93
  unfold fX10_paintedPiece at hf
  refine r_ild_n O 1 rfl 1 rfl dX10_paintedPiece_0 ?_
  refine r_ild_n O 2 rfl 2 rfl dX10_paintedPiece_1 ?_
  refine r_ild_n O 3 rfl 3 rfl dX10_paintedPiece_2 ?_
  refine r_ild O 5 rfl 4 rfl dX10_paintedPiece_3 ?_
  obtain ⟨x5, hq5, hf⟩ := qb1_some hf
  refine k_SZ O 8 rfl (zX10_isPicture (l := xl X) (D := xD X) (cI := cI) (cZ := cZ) (cQ := cQ) hq5) (gS mlX10_333 mvX10_isPicture izX10) rfl rfl rfl hdX10_isPicture ⟨Nat.le_of_ble_eq_true rfl, Nat.le_of_ble_eq_true rfl⟩ rfl rfl (Nat.le_of_ble_eq_true rfl) ⟨Nat.zero_le _, Nat.zero_le _⟩ [] rfl rfl rfl ([nX10 cI cZ cQ h_t u_t]) rfl dX10_paintedPiece_5 (fun hz5 => ?_)
  refine r_if_eq O 11 rfl 23 dX10_paintedPiece_8 (by decide) (fun hc8 => ?_) (fun hc8 => ?_)
  · rw [if_pos hc8] at hf
    refine r_bi O 25 rfl (-2) (by decide) dX10_paintedPiece_23 ?_
    obtain ⟨g0, g1⟩ := qe2 hf
    exact r_iret2 O E g0 (by rw [g1]) dX10_paintedPiece_25
  · rw [if_neg hc8] at hf
    refine r_ild O 13 rfl 5 rfl dX10_paintedPiece_11 ?_
    refine r_if_lt O 16 rfl 23 dX10_paintedPiece_13 (by decide) (fun hc13 => ?_) (fun hc13 => ?_)
    · rw [if_pos hc13] at hf
      refine r_bi O 25 rfl (-2) (by decide) dX10_paintedPiece_23 ?_
      obtain ⟨g0, g1⟩ := qe2 hf
      exact r_iret2 O E g0 (by rw [g1]) dX10_paintedPiece_25
    · rw [if_neg hc13] at hf
      refine r_ild O 18 rfl 5 rfl dX10_paintedPiece_16 ?_
      refine r_bi O 20 rfl 31 (by decide) dX10_paintedPiece_18 ?_
      refine r_icmp_le O 23 rfl 26 dX10_paintedPiece_20 (by decide) (fun hc20 => ?_) (fun hc20 => ?_)
      · rw [if_pos hc20] at hf
        refine r_ald_n O 27 rfl 0 rfl dX10_paintedPiece_26 ?_
        refine r_ild_n O 28 rfl 1 rfl dX10_paintedPiece_27 ?_
        refine r_ild_n O 29 rfl 2 rfl dX10_paintedPiece_28 ?_
        obtain ⟨p29_t, hq29, hf⟩ := qb1_some hf
        refine k_VV O 32 rfl (zX10_draw (l := xl X) (D := xD X) (cI := cI) (cZ := cZ) (cQ := cQ) (h_t := h_t) hq29) (gV mlX10_308 mvX10_draw izX10) rfl rfl rfl hdX10_draw ⟨Nat.le_of_ble_eq_true rfl, Nat.le_of_ble_eq_true rfl⟩ rfl 0 rfl rfl rfl rfl (Nat.le_of_ble_eq_true rfl) ⟨Nat.zero_le _, Nat.zero_le _⟩ [0] rfl rfl rfl ([nX10 cI cZ cQ h_t p29_t]) rfl dX10_paintedPiece_29 ?_
        refine r_ald_n O 33 rfl 0 rfl dX10_paintedPiece_32 ?_
        refine r_get (ref := RX10) (C := RX10) (T := TX10) (N := 70) O 36 rfl inBX10 0 50 rfl rfl rfl (by decide) flX10_301 rfl rfl dX10_paintedPiece_33 ?_
        refine r_ic O 37 rfl 1 (by decide) dX10_paintedPiece_36 ?_
        refine r_isub O 38 rfl dX10_paintedPiece_37 ?_
        obtain ⟨x38, ex38, hf⟩ := qn_some hf
        rw [← ex38]
        refine r_ist O 40 rfl [(6, .int x38), (0, .ref (h_t 0)), (1, .int a1), (2, .int a2), (3, .int a3), (4, .int a4), (5, .int a5)] dX10_paintedPiece_38 (by decide) rfl ?_
        refine r_lv [1, 2, 3, 4, 5, 6, 0] rfl ?_
        exact B40 FU _ _ _ _ _ _ _ hf
      · rw [if_neg hc20] at hf
        refine r_bi O 25 rfl (-2) (by decide) dX10_paintedPiece_23 ?_
        obtain ⟨g0, g1⟩ := qe2 hf
        exact r_iret2 O E g0 (by rw [g1]) dX10_paintedPiece_25
-- X10_isOpaque
def rmX10_isOpaque : Room := { frames := 2, cells := 0, slots := 0, locals := 45 }
set_option maxHeartbeats 4000000 in
set_option maxRecDepth 100000 in
theorem zX10_isOpaque {l : Launch} {D : va_G} {cI cZ cQ : ClassId} {h_t : Nat → Nat} {u_t : Pk} {a1 : Int32} {a2 : Int32} {a3 : Int32} {r0 : Int32} (hf : fX10_isOpaque u_t a1 a2 a3 = some r0) : MZ l yX10_isOpaque wsX10_isOpaque rmX10_isOpaque D (TY cI cZ cQ) [.ref (h_t 0), .int a1, .int a2, .int a3] [nX10 cI cZ cQ h_t u_t] r0 [nX10 cI cZ cQ h_t u_t] := by
  refine MZ.of (own := RX10) (by decide +kernel) rfl rfl (Nat.le_of_ble_eq_true rfl) (lv0 := [(0, .ref (h_t 0)), (1, .int a1), (2, .int a2), (3, .int a3)]) rfl ?_
  intro X O E
  unfold fX10_isOpaque at hf
  refine r_ald_n O 1 rfl 0 rfl dX10_isOpaque_0 ?_
  refine r_ild_n O 2 rfl 1 rfl dX10_isOpaque_1 ?_
  refine r_ic O 3 rfl 5 (by decide) dX10_isOpaque_2 ?_
  obtain ⟨x3, hq3, hf⟩ := qb1_some hf
  refine k_VI O 6 rfl (zX10_at (l := xl X) (D := xD X) (cI := cI) (cZ := cZ) (cQ := cQ) (h_t := h_t) hq3) (gV mlX10_129 mvX10_at izX10) rfl rfl rfl hdX10_at ⟨Nat.le_of_ble_eq_true rfl, Nat.le_of_ble_eq_true rfl⟩ rfl 0 rfl rfl rfl rfl (Nat.le_of_ble_eq_true rfl) ⟨Nat.zero_le _, Nat.zero_le _⟩ [0] rfl rfl rfl ([nX10 cI cZ cQ h_t u_t]) rfl dX10_isOpaque_3 ?_
  refine r_ist O 8 rfl [(4, .int x3), (0, .ref (h_t 0)), (1, .int a1), (2, .int a2), (3, .int a3)] dX10_isOpaque_6 (by decide) rfl ?_
  refine r_ild O 10 rfl 0 rfl dX10_isOpaque_8 ?_
  refine r_if_eq O 13 rfl 29 dX10_isOpaque_10 (by decide) (fun hc10 => ?_) (fun hc10 => ?_)
  · rw [if_pos hc10] at hf
    refine r_ic O 30 rfl 1 (by decide) dX10_isOpaque_29 ?_
    refine r_goto O 34 dX10_isOpaque_30 (by decide) ?_
    obtain g0 := qe1 hf
    exact r_zret2 O E g0 rfl rfl dX10_isOpaque_34
  · rw [if_neg hc10] at hf
    refine r_ild O 15 rfl 0 rfl dX10_isOpaque_13 ?_
    refine r_ic O 16 rfl 2 (by decide) dX10_isOpaque_15 ?_
    refine r_icmp_ne O 19 rfl 33 dX10_isOpaque_16 (by decide) (fun hc16 => ?_) (fun hc16 => ?_)
    · rw [if_neg hc16] at hf
      refine r_ic O 34 rfl 0 (by decide) dX10_isOpaque_33 ?_
      obtain g0 := qe1 hf
      exact r_zret2 O E g0 rfl rfl dX10_isOpaque_34
    · rw [if_pos hc16] at hf
      refine r_ald_n O 20 rfl 1 rfl dX10_isOpaque_19 ?_
      refine r_ild_n O 21 rfl 2 rfl dX10_isOpaque_20 ?_
      refine r_ild_n O 22 rfl 3 rfl dX10_isOpaque_21 ?_
      refine r_ild_n O 23 rfl 4 rfl dX10_isOpaque_22 ?_
      obtain ⟨x23, hq23, hf⟩ := qb1_some hf
      refine k_VI O 26 rfl (zX10_side (l := xl X) (D := xD X) (cI := cI) (cZ := cZ) (cQ := cQ) (h_t := h_t) hq23) (gV mlX10_183 mvX10_side izX10) rfl rfl rfl hdX10_side ⟨Nat.le_of_ble_eq_true rfl, Nat.le_of_ble_eq_true rfl⟩ rfl 0 rfl rfl rfl rfl (Nat.le_of_ble_eq_true rfl) ⟨Nat.zero_le _, Nat.zero_le _⟩ [0] rfl rfl rfl ([nX10 cI cZ cQ h_t u_t]) rfl dX10_isOpaque_23 ?_
      refine r_if_le O 29 rfl 33 dX10_isOpaque_26 (by decide) (fun hc26 => ?_) (fun hc26 => ?_)
      · rw [if_pos hc26] at hf
        refine r_ic O 34 rfl 0 (by decide) dX10_isOpaque_33 ?_
        obtain g0 := qe1 hf
        exact r_zret2 O E g0 rfl rfl dX10_isOpaque_34
      · rw [if_neg hc26] at hf
        refine r_ic O 30 rfl 1 (by decide) dX10_isOpaque_29 ?_
        refine r_goto O 34 dX10_isOpaque_30 (by decide) ?_
        obtain g0 := qe1 hf
        exact r_zret2 O E g0 rfl rfl dX10_isOpaque_34
-- X10_trace
def rmX10_trace : Room := { frames := 3, cells := 0, slots := 0, locals := 69 }
set_option maxHeartbeats 4000000 in
set_option maxRecDepth 100000 in
theorem zX10_trace {l : Launch} {D : va_G} {cI cZ cQ : ClassId} {h_t : Nat → Nat} {u_t : Pk} {a1 : Int32} {a2 : Int32} {a3 : Int32} {a4 : Int32} {v_t : Pk} (hf : fX10_trace u_t a1 a2 a3 a4 = some v_t) : MV l yX10_trace wsX10_trace rmX10_trace D (TY cI cZ cQ) [.ref (h_t 0), .int a1, .int a2, .int a3, .int a4] [nX10 cI cZ cQ h_t u_t] [nX10 cI cZ cQ h_t v_t] := by
  refine MV.of (own := RX10) (by decide +kernel) rfl rfl (Nat.le_of_ble_eq_true rfl) (lv0 := [(0, .ref (h_t 0)), (1, .int a1), (2, .int a2), (3, .int a3), (4, .int a4)]) rfl ?_
  intro X O E
  have B112 : ∀ (rec18 : Pk → Int32 → Int32 → Int32 → Int32 → Int32 → Option (Pk)), (∀ (w_t : Pk) (y1 : Int32) (y2 : Int32) (y3 : Int32) (y4 : Int32) (y5 : Int32), rec18 w_t y1 y2 y3 y4 y5 = some v_t → BK X 6 0 0 18 ([nX10 cI cZ cQ h_t w_t]) [(0, .ref (h_t 0)), (1, .int y1), (2, .int y2), (3, .int y3), (4, .int y4), (5, .int y5)] []) → ∀ (w_t : Pk) (y1 : Int32) (y2 : Int32) (y3 : Int32) (y4 : Int32) (y5 : Int32), fX10_trace_b112 rec18 w_t y1 y2 y3 y4 y5 = some v_t → BK X 6 0 0 112 ([nX10 cI cZ cQ h_t w_t]) [(0, .ref (h_t 0)), (1, .int y1), (2, .int y2), (3, .int y3), (4, .int y4), (5, .int y5)] [] := by
    intro rec18 hrec18 w_t y1 y2 y3 y4 y5 hf
    unfold fX10_trace_b112 at hf
    obtain ⟨x112, ex112, hf⟩ := qn_some hf
    refine r_iinc O 115 rfl x112 5 rfl (by rw [ex112]; rfl) [(5, .int x112), (0, .ref (h_t 0)), (1, .int y1), (2, .int y2), (3, .int y3), (4, .int y4)] dX10_trace_112 (by decide) rfl ?_
    refine r_goto O 18 dX10_trace_115 (by decide) ?_
    refine r_lv [1, 2, 3, 4, 5, 0] rfl ?_
    exact hrec18 _ _ _ _ _ _ hf
  have B90 : ∀ (rec18 : Pk → Int32 → Int32 → Int32 → Int32 → Int32 → Option (Pk)), (∀ (w_t : Pk) (y1 : Int32) (y2 : Int32) (y3 : Int32) (y4 : Int32) (y5 : Int32), rec18 w_t y1 y2 y3 y4 y5 = some v_t → BK X 6 0 0 18 ([nX10 cI cZ cQ h_t w_t]) [(0, .ref (h_t 0)), (1, .int y1), (2, .int y2), (3, .int y3), (4, .int y4), (5, .int y5)] []) → ∀ (w_t : Pk) (y1 : Int32) (y2 : Int32) (y3 : Int32) (y4 : Int32) (y5 : Int32), fX10_trace_b90 rec18 w_t y1 y2 y3 y4 y5 = some v_t → BK X 6 0 0 90 ([nX10 cI cZ cQ h_t w_t]) [(0, .ref (h_t 0)), (1, .int y1), (2, .int y2), (3, .int y3), (4, .int y4), (5, .int y5)] [] := by
    intro rec18 hrec18 w_t y1 y2 y3 y4 y5 hf
    unfold fX10_trace_b90 at hf
    refine r_ald_n O 91 rfl 0 rfl dX10_trace_90 ?_
    refine r_ild O 93 rfl 5 rfl dX10_trace_91 ?_
    obtain ⟨p93_t, ep93_t, hf⟩ := qn_some hf
    refine r_put (ref := RX10) (C := RX10) (T := TX10) (N := 70) O 96 rfl inBX10 tyX10 tyX10_ok nmX10 0 54 rfl rfl rfl (by decide) flX10_341 rfl rfl rfl rfl (Nat.le_of_ble_eq_true rfl) ([nX10 cI cZ cQ h_t p93_t]) (by rw [ep93_t]; rfl) dX10_trace_93 ?_
    refine r_ald_n O 97 rfl 0 rfl dX10_trace_96 ?_
    refine r_ald_n O 98 rfl 0 rfl dX10_trace_97 ?_
    refine r_get (ref := RX10) (C := RX10) (T := TX10) (N := 70) O 101 rfl inBX10 0 52 rfl rfl rfl (by decide) flX10_317 rfl rfl dX10_trace_98 ?_
    obtain ⟨p101_t, ep101_t, hf⟩ := qn_some hf
    refine r_put (ref := RX10) (C := RX10) (T := TX10) (N := 70) O 104 rfl inBX10 tyX10 tyX10_ok nmX10 0 55 rfl rfl rfl (by decide) flX10_344 rfl rfl rfl rfl (Nat.le_of_ble_eq_true rfl) ([nX10 cI cZ cQ h_t p101_t]) (by rw [ep101_t]; rfl) dX10_trace_101 ?_
    refine r_ald_n O 105 rfl 0 rfl dX10_trace_104 ?_
    refine r_ald_n O 106 rfl 0 rfl dX10_trace_105 ?_
    refine r_get (ref := RX10) (C := RX10) (T := TX10) (N := 70) O 109 rfl inBX10 0 51 rfl rfl rfl (by decide) flX10_313 rfl rfl dX10_trace_106 ?_
    obtain ⟨p109_t, ep109_t, hf⟩ := qn_some hf
    refine r_put (ref := RX10) (C := RX10) (T := TX10) (N := 70) O 112 rfl inBX10 tyX10 tyX10_ok nmX10 0 56 rfl rfl rfl (by decide) flX10_347 rfl rfl rfl rfl (Nat.le_of_ble_eq_true rfl) ([nX10 cI cZ cQ h_t p109_t]) (by rw [ep109_t]; rfl) dX10_trace_109 ?_
    exact B112 rec18 hrec18 _ _ _ _ _ _ hf
  have B18 : ∀ n : Nat, ∀ (w_t : Pk) (y1 : Int32) (y2 : Int32) (y3 : Int32) (y4 : Int32) (y5 : Int32), fX10_trace_b18 n w_t y1 y2 y3 y4 y5 = some v_t → BK X 6 0 0 18 ([nX10 cI cZ cQ h_t w_t]) [(0, .ref (h_t 0)), (1, .int y1), (2, .int y2), (3, .int y3), (4, .int y4), (5, .int y5)] [] := by
    intro n
    induction n with
    | zero => exact fun _ _ _ _ _ _ hf => qno hf
    | succ n hrec18 =>
      intro w_t y1 y2 y3 y4 y5 hf
      have hf : fX10_trace_b18_s (fX10_trace_b18 n) w_t y1 y2 y3 y4 y5 = some v_t := hf
      generalize fX10_trace_b18 n = rec18 at hf hrec18
      unfold fX10_trace_b18_s at hf
      refine r_ild O 20 rfl 5 rfl dX10_trace_18 ?_
      refine r_bi O 22 rfl 12 (by decide) dX10_trace_20 ?_
      refine r_icmp_ge O 25 rfl 118 dX10_trace_22 (by decide) (fun hc22 => ?_) (fun hc22 => ?_)
      · rw [if_pos hc22] at hf
        obtain g0 := qe1 hf
        exact r_vret2 O E (by rw [g0]) dX10_trace_118
      · rw [if_neg hc22] at hf
        refine r_ald_n O 26 rfl 0 rfl dX10_trace_25 ?_
        refine r_ild O 28 rfl 5 rfl dX10_trace_26 ?_
        refine r_ic O 29 rfl 0 (by decide) dX10_trace_28 ?_
        obtain ⟨x29, hq29, hf⟩ := qb1_some hf
        refine k_VI O 32 rfl (zX10_at (l := xl X) (D := xD X) (cI := cI) (cZ := cZ) (cQ := cQ) (h_t := h_t) hq29) (gV mlX10_129 mvX10_at izX10) rfl rfl rfl hdX10_at ⟨Nat.le_of_ble_eq_true rfl, Nat.le_of_ble_eq_true rfl⟩ rfl 0 rfl rfl rfl rfl (Nat.le_of_ble_eq_true rfl) ⟨Nat.zero_le _, Nat.zero_le _⟩ [0] rfl rfl rfl ([nX10 cI cZ cQ h_t w_t]) rfl dX10_trace_29 ?_
        refine r_ic O 33 rfl 1 (by decide) dX10_trace_32 ?_
        refine r_icmp_ne O 36 rfl 112 dX10_trace_33 (by decide) (fun hc33 => ?_) (fun hc33 => ?_)
        · rw [if_neg hc33] at hf
          exact B112 rec18 hrec18 _ _ _ _ _ _ hf
        · rw [if_pos hc33] at hf
          refine r_ald_n O 37 rfl 0 rfl dX10_trace_36 ?_
          refine r_ild O 39 rfl 5 rfl dX10_trace_37 ?_
          refine r_ild_n O 40 rfl 1 rfl dX10_trace_39 ?_
          refine r_ild_n O 41 rfl 2 rfl dX10_trace_40 ?_
          obtain ⟨x41, hq41, hf⟩ := qb1_some hf
          refine k_VZ O 44 rfl (zX10_isOpaque (l := xl X) (D := xD X) (cI := cI) (cZ := cZ) (cQ := cQ) (h_t := h_t) hq41) (gV mlX10_350 mvX10_isOpaque izX10) rfl rfl rfl hdX10_isOpaque ⟨Nat.le_of_ble_eq_true rfl, Nat.le_of_ble_eq_true rfl⟩ rfl 0 rfl rfl rfl rfl (Nat.le_of_ble_eq_true rfl) ⟨Nat.zero_le _, Nat.zero_le _⟩ [0] rfl rfl rfl ([nX10 cI cZ cQ h_t w_t]) rfl dX10_trace_41 (fun hz41 => ?_)
          refine r_if_eq O 47 rfl 112 dX10_trace_44 (by decide) (fun hc44 => ?_) (fun hc44 => ?_)
          · rw [if_pos hc44] at hf
            exact B112 rec18 hrec18 _ _ _ _ _ _ hf
          · rw [if_neg hc44] at hf
            refine r_ald_n O 48 rfl 0 rfl dX10_trace_47 ?_
            refine r_ild O 50 rfl 5 rfl dX10_trace_48 ?_
            refine r_ild_n O 51 rfl 1 rfl dX10_trace_50 ?_
            refine r_ild_n O 52 rfl 2 rfl dX10_trace_51 ?_
            refine r_ild_n O 53 rfl 3 rfl dX10_trace_52 ?_
            refine r_ild O 55 rfl 4 rfl dX10_trace_53 ?_
            obtain ⟨x55, p55_t, hq55, hf⟩ := qb2_some hf
            refine k_VZ O 58 rfl (zX10_isHit (l := xl X) (D := xD X) (cI := cI) (cZ := cZ) (cQ := cQ) (h_t := h_t) hq55) (gV mlX10_329 mvX10_isHit izX10) rfl rfl rfl hdX10_isHit ⟨Nat.le_of_ble_eq_true rfl, Nat.le_of_ble_eq_true rfl⟩ rfl 0 rfl rfl rfl rfl (Nat.le_of_ble_eq_true rfl) ⟨Nat.zero_le _, Nat.zero_le _⟩ [0] rfl rfl rfl ([nX10 cI cZ cQ h_t p55_t]) rfl dX10_trace_55 (fun hz55 => ?_)
            refine r_if_eq O 61 rfl 112 dX10_trace_58 (by decide) (fun hc58 => ?_) (fun hc58 => ?_)
            · rw [if_pos hc58] at hf
              exact B112 rec18 hrec18 _ _ _ _ _ _ hf
            · rw [if_neg hc58] at hf
              refine r_ald_n O 62 rfl 0 rfl dX10_trace_61 ?_
              refine r_get (ref := RX10) (C := RX10) (T := TX10) (N := 70) O 65 rfl inBX10 0 54 rfl rfl rfl (by decide) flX10_341 rfl rfl dX10_trace_62 ?_
              refine r_if_lt O 68 rfl 90 dX10_trace_65 (by decide) (fun hc65 => ?_) (fun hc65 => ?_)
              · rw [if_pos hc65] at hf
                exact B90 rec18 hrec18 _ _ _ _ _ _ hf
              · rw [if_neg hc65] at hf
                refine r_ald_n O 69 rfl 0 rfl dX10_trace_68 ?_
                refine r_get (ref := RX10) (C := RX10) (T := TX10) (N := 70) O 72 rfl inBX10 0 52 rfl rfl rfl (by decide) flX10_317 rfl rfl dX10_trace_69 ?_
                refine r_ald_n O 73 rfl 0 rfl dX10_trace_72 ?_
                refine r_get (ref := RX10) (C := RX10) (T := TX10) (N := 70) O 76 rfl inBX10 0 56 rfl rfl rfl (by decide) flX10_347 rfl rfl dX10_trace_73 ?_
                refine r_lmul O 77 rfl dX10_trace_76 ?_
                refine r_ald_n O 78 rfl 0 rfl dX10_trace_77 ?_
                refine r_get (ref := RX10) (C := RX10) (T := TX10) (N := 70) O 81 rfl inBX10 0 55 rfl rfl rfl (by decide) flX10_344 rfl rfl dX10_trace_78 ?_
                refine r_ald_n O 82 rfl 0 rfl dX10_trace_81 ?_
                refine r_get (ref := RX10) (C := RX10) (T := TX10) (N := 70) O 85 rfl inBX10 0 51 rfl rfl rfl (by decide) flX10_313 rfl rfl dX10_trace_82 ?_
                refine r_lmul O 86 rfl dX10_trace_85 ?_
                refine r_lcmp O 87 rfl dX10_trace_86 ?_
                refine r_if_ge O 90 rfl 112 dX10_trace_87 (by decide) (fun hc87 => ?_) (fun hc87 => ?_)
                · rw [if_pos hc87] at hf
                  exact B112 rec18 hrec18 _ _ _ _ _ _ hf
                · rw [if_neg hc87] at hf
                  exact B90 rec18 hrec18 _ _ _ _ _ _ hf
  unfold fX10_trace at hf
  refine r_ald_n O 1 rfl 0 rfl dX10_trace_0 ?_
  refine r_ic O 2 rfl (-1) (by decide) dX10_trace_1 ?_
  obtain ⟨p2_t, ep2_t, hf⟩ := qn_some hf
  refine r_put (ref := RX10) (C := RX10) (T := TX10) (N := 70) O 5 rfl inBX10 tyX10 tyX10_ok nmX10 0 54 rfl rfl rfl (by decide) flX10_341 rfl rfl rfl rfl (Nat.le_of_ble_eq_true rfl) ([nX10 cI cZ cQ h_t p2_t]) (by rw [ep2_t]; rfl) dX10_trace_2 ?_
  refine r_ald_n O 6 rfl 0 rfl dX10_trace_5 ?_
  refine r_lc O 7 rfl 0 (by decide) dX10_trace_6 ?_
  obtain ⟨p7_t, ep7_t, hf⟩ := qn_some hf
  refine r_put (ref := RX10) (C := RX10) (T := TX10) (N := 70) O 10 rfl inBX10 tyX10 tyX10_ok nmX10 0 55 rfl rfl rfl (by decide) flX10_344 rfl rfl rfl rfl (Nat.le_of_ble_eq_true rfl) ([nX10 cI cZ cQ h_t p7_t]) (by rw [ep7_t]; rfl) dX10_trace_7 ?_
  refine r_ald_n O 11 rfl 0 rfl dX10_trace_10 ?_
  refine r_lc O 12 rfl 1 (by decide) dX10_trace_11 ?_
  obtain ⟨p12_t, ep12_t, hf⟩ := qn_some hf
  refine r_put (ref := RX10) (C := RX10) (T := TX10) (N := 70) O 15 rfl inBX10 tyX10 tyX10_ok nmX10 0 56 rfl rfl rfl (by decide) flX10_347 rfl rfl rfl rfl (Nat.le_of_ble_eq_true rfl) ([nX10 cI cZ cQ h_t p12_t]) (by rw [ep12_t]; rfl) dX10_trace_12 ?_
  refine r_ic O 16 rfl 0 (by decide) dX10_trace_15 ?_
  refine r_ist O 18 rfl [(5, .int 0), (0, .ref (h_t 0)), (1, .int a1), (2, .int a2), (3, .int a3), (4, .int a4)] dX10_trace_16 (by decide) rfl ?_
  refine r_lv [1, 2, 3, 4, 5, 0] rfl ?_
  exact B18 FU _ _ _ _ _ _ hf
-- X10_isBlocked
def rmX10_isBlocked : Room := { frames := 4, cells := 0, slots := 0, locals := 94 }
set_option maxHeartbeats 4000000 in
set_option maxRecDepth 100000 in
theorem zX10_isBlocked {l : Launch} {D : va_G} {cI cZ cQ : ClassId} {h_t : Nat → Nat} {u_t : Pk} {a1 : Int32} {a2 : Int32} {a3 : Int32} {a4 : Int32} {r0 : Int32} {v_t : Pk} (hf : fX10_isBlocked u_t a1 a2 a3 a4 = some (r0, v_t)) : MZ l yX10_isBlocked wsX10_isBlocked rmX10_isBlocked D (TY cI cZ cQ) [.ref (h_t 0), .int a1, .int a2, .int a3, .int a4] [nX10 cI cZ cQ h_t u_t] r0 [nX10 cI cZ cQ h_t v_t] := by
  refine MZ.of (own := RX10) (by decide +kernel) rfl rfl (Nat.le_of_ble_eq_true rfl) (lv0 := [(0, .ref (h_t 0)), (1, .int a1), (2, .int a2), (3, .int a3), (4, .int a4)]) rfl ?_
  intro X O E
  unfold fX10_isBlocked at hf
  refine r_ald_n O 1 rfl 0 rfl dX10_isBlocked_0 ?_
  refine r_ild_n O 2 rfl 1 rfl dX10_isBlocked_1 ?_
  refine r_ild_n O 3 rfl 2 rfl dX10_isBlocked_2 ?_
  refine r_ild_n O 4 rfl 3 rfl dX10_isBlocked_3 ?_
  refine r_ild_n O 5 rfl 1 rfl dX10_isBlocked_4 ?_
  refine r_isub O 6 rfl dX10_isBlocked_5 ?_
  refine r_ild O 8 rfl 4 rfl dX10_isBlocked_6 ?_
  refine r_ild_n O 9 rfl 2 rfl dX10_isBlocked_8 ?_
  refine r_isub O 10 rfl dX10_isBlocked_9 ?_
  obtain ⟨p10_t, hq10, hf⟩ := qb1_some hf
  refine k_VV O 13 rfl (zX10_trace (l := xl X) (D := xD X) (cI := cI) (cZ := cZ) (cQ := cQ) (h_t := h_t) hq10) (gV mlX10_353 mvX10_trace izX10) rfl rfl rfl hdX10_trace ⟨Nat.le_of_ble_eq_true rfl, Nat.le_of_ble_eq_true rfl⟩ rfl 0 rfl rfl rfl rfl (Nat.le_of_ble_eq_true rfl) ⟨Nat.zero_le _, Nat.zero_le _⟩ [0] rfl rfl rfl ([nX10 cI cZ cQ h_t p10_t]) rfl dX10_isBlocked_10 ?_
  refine r_ald_n O 14 rfl 0 rfl dX10_isBlocked_13 ?_
  refine r_get (ref := RX10) (C := RX10) (T := TX10) (N := 70) O 17 rfl inBX10 0 54 rfl rfl rfl (by decide) flX10_341 rfl rfl dX10_isBlocked_14 ?_
  refine r_if_lt O 20 rfl 36 dX10_isBlocked_17 (by decide) (fun hc17 => ?_) (fun hc17 => ?_)
  · rw [if_pos hc17] at hf
    refine r_ic O 37 rfl 0 (by decide) dX10_isBlocked_36 ?_
    obtain ⟨g0, g1⟩ := qe2 hf
    exact r_zret2 O E g0 (by rw [g1]) rfl dX10_isBlocked_37
  · rw [if_neg hc17] at hf
    refine r_ald_n O 21 rfl 0 rfl dX10_isBlocked_20 ?_
    refine r_get (ref := RX10) (C := RX10) (T := TX10) (N := 70) O 24 rfl inBX10 0 55 rfl rfl rfl (by decide) flX10_344 rfl rfl dX10_isBlocked_21 ?_
    refine r_ald_n O 25 rfl 0 rfl dX10_isBlocked_24 ?_
    refine r_get (ref := RX10) (C := RX10) (T := TX10) (N := 70) O 28 rfl inBX10 0 56 rfl rfl rfl (by decide) flX10_347 rfl rfl dX10_isBlocked_25 ?_
    refine r_lcmp O 29 rfl dX10_isBlocked_28 ?_
    refine r_if_gt O 32 rfl 36 dX10_isBlocked_29 (by decide) (fun hc29 => ?_) (fun hc29 => ?_)
    · rw [if_pos hc29] at hf
      refine r_ic O 37 rfl 0 (by decide) dX10_isBlocked_36 ?_
      obtain ⟨g0, g1⟩ := qe2 hf
      exact r_zret2 O E g0 (by rw [g1]) rfl dX10_isBlocked_37
    · rw [if_neg hc29] at hf
      refine r_ic O 33 rfl 1 (by decide) dX10_isBlocked_32 ?_
      refine r_goto O 37 dX10_isBlocked_33 (by decide) ?_
      obtain ⟨g0, g1⟩ := qe2 hf
      exact r_zret2 O E g0 (by rw [g1]) rfl dX10_isBlocked_37
-- X10_blocker
def rmX10_blocker : Room := { frames := 5, cells := 0, slots := 0, locals := 118 }
set_option maxHeartbeats 4000000 in
set_option maxRecDepth 100000 in
theorem zX10_blocker {l : Launch} {D : va_G} {cI cZ cQ : ClassId} {h_t : Nat → Nat} {u_t : Pk} {a1 : Int32} {a2 : Int32} {a3 : Int32} {a4 : Int32} {r0 : Int32} {v_t : Pk} (hf : fX10_blocker u_t a1 a2 a3 a4 = some (r0, v_t)) : MI l yX10_blocker wsX10_blocker rmX10_blocker D (TY cI cZ cQ) [.ref (h_t 0), .int a1, .int a2, .int a3, .int a4] [nX10 cI cZ cQ h_t u_t] r0 [nX10 cI cZ cQ h_t v_t] := by
  refine MI.of (own := RX10) (by decide +kernel) rfl rfl (Nat.le_of_ble_eq_true rfl) (lv0 := [(0, .ref (h_t 0)), (1, .int a1), (2, .int a2), (3, .int a3), (4, .int a4)]) rfl ?_
  intro X O E
  have B31 : ∀ (w_t : Pk) (y1 : Int32) (y2 : Int32) (y3 : Int32) (y4 : Int32), fX10_blocker_b31 w_t y1 y2 y3 y4 = some (r0, v_t) → BK X 5 0 0 31 ([nX10 cI cZ cQ h_t w_t]) [(0, .ref (h_t 0)), (1, .int y1), (2, .int y2), (3, .int y3), (4, .int y4)] [] := by
    intro w_t y1 y2 y3 y4 hf
    unfold fX10_blocker_b31 at hf
    refine r_ald_n O 32 rfl 0 rfl dX10_blocker_31 ?_
    refine r_ild_n O 33 rfl 1 rfl dX10_blocker_32 ?_
    refine r_ild_n O 34 rfl 2 rfl dX10_blocker_33 ?_
    refine r_ild_n O 35 rfl 3 rfl dX10_blocker_34 ?_
    refine r_ild O 37 rfl 4 rfl dX10_blocker_35 ?_
    obtain ⟨x37, p37_t, hq37, hf⟩ := qb2_some hf
    refine k_VZ O 40 rfl (zX10_isBlocked (l := xl X) (D := xD X) (cI := cI) (cZ := cZ) (cQ := cQ) (h_t := h_t) hq37) (gV mlX10_357 mvX10_isBlocked izX10) rfl rfl rfl hdX10_isBlocked ⟨Nat.le_of_ble_eq_true rfl, Nat.le_of_ble_eq_true rfl⟩ rfl 0 rfl rfl rfl rfl (Nat.le_of_ble_eq_true rfl) ⟨Nat.zero_le _, Nat.zero_le _⟩ [0] rfl rfl rfl ([nX10 cI cZ cQ h_t p37_t]) rfl dX10_blocker_37 (fun hz37 => ?_)
    refine r_if_eq O 43 rfl 50 dX10_blocker_40 (by decide) (fun hc40 => ?_) (fun hc40 => ?_)
    · rw [if_pos hc40] at hf
      refine r_bi O 52 rfl (-8) (by decide) dX10_blocker_50 ?_
      obtain ⟨g0, g1⟩ := qe2 hf
      exact r_iret2 O E g0 (by rw [g1]) dX10_blocker_52
    · rw [if_neg hc40] at hf
      refine r_ald_n O 44 rfl 0 rfl dX10_blocker_43 ?_
      refine r_get (ref := RX10) (C := RX10) (T := TX10) (N := 70) O 47 rfl inBX10 0 54 rfl rfl rfl (by decide) flX10_341 rfl rfl dX10_blocker_44 ?_
      refine r_goto O 52 dX10_blocker_47 (by decide) ?_
      obtain ⟨g0, g1⟩ := qe2 hf
      exact r_iret2 O E g0 (by rw [g1]) dX10_blocker_52
  unfold fX10_blocker at hf
  refine r_ild_n O 1 rfl 1 rfl dX10_blocker_0 ?_
  refine r_ild_n O 2 rfl 2 rfl dX10_blocker_1 ?_
  obtain ⟨x2, hq2, hf⟩ := qb1_some hf
  refine k_SZ O 5 rfl (zX10_isPoint (l := xl X) (D := xD X) (cI := cI) (cZ := cZ) (cQ := cQ) hq2) (gS mlX10_297 mvX10_isPoint izX10) rfl rfl rfl hdX10_isPoint ⟨Nat.le_of_ble_eq_true rfl, Nat.le_of_ble_eq_true rfl⟩ rfl rfl (Nat.le_of_ble_eq_true rfl) ⟨Nat.zero_le _, Nat.zero_le _⟩ [] rfl rfl rfl ([nX10 cI cZ cQ h_t u_t]) rfl dX10_blocker_2 (fun hz2 => ?_)
  refine r_if_eq O 8 rfl 28 dX10_blocker_5 (by decide) (fun hc5 => ?_) (fun hc5 => ?_)
  · rw [if_pos hc5] at hf
    refine r_bi O 30 rfl (-2) (by decide) dX10_blocker_28 ?_
    obtain ⟨g0, g1⟩ := qe2 hf
    exact r_iret2 O E g0 (by rw [g1]) dX10_blocker_30
  · rw [if_neg hc5] at hf
    refine r_ild_n O 9 rfl 3 rfl dX10_blocker_8 ?_
    refine r_ild O 11 rfl 4 rfl dX10_blocker_9 ?_
    obtain ⟨x11, hq11, hf⟩ := qb1_some hf
    refine k_SZ O 14 rfl (zX10_isPoint (l := xl X) (D := xD X) (cI := cI) (cZ := cZ) (cQ := cQ) hq11) (gS mlX10_297 mvX10_isPoint izX10) rfl rfl rfl hdX10_isPoint ⟨Nat.le_of_ble_eq_true rfl, Nat.le_of_ble_eq_true rfl⟩ rfl rfl (Nat.le_of_ble_eq_true rfl) ⟨Nat.zero_le _, Nat.zero_le _⟩ [] rfl rfl rfl ([nX10 cI cZ cQ h_t u_t]) rfl dX10_blocker_11 (fun hz11 => ?_)
    refine r_if_eq O 17 rfl 28 dX10_blocker_14 (by decide) (fun hc14 => ?_) (fun hc14 => ?_)
    · rw [if_pos hc14] at hf
      refine r_bi O 30 rfl (-2) (by decide) dX10_blocker_28 ?_
      obtain ⟨g0, g1⟩ := qe2 hf
      exact r_iret2 O E g0 (by rw [g1]) dX10_blocker_30
    · rw [if_neg hc14] at hf
      refine r_ild_n O 18 rfl 1 rfl dX10_blocker_17 ?_
      refine r_ild_n O 19 rfl 3 rfl dX10_blocker_18 ?_
      refine r_icmp_ne O 22 rfl 31 dX10_blocker_19 (by decide) (fun hc19 => ?_) (fun hc19 => ?_)
      · rw [if_neg hc19] at hf
        exact B31 _ _ _ _ _ hf
      · rw [if_pos hc19] at hf
        refine r_ild_n O 23 rfl 2 rfl dX10_blocker_22 ?_
        refine r_ild O 25 rfl 4 rfl dX10_blocker_23 ?_
        refine r_icmp_ne O 28 rfl 31 dX10_blocker_25 (by decide) (fun hc25 => ?_) (fun hc25 => ?_)
        · rw [if_neg hc25] at hf
          exact B31 _ _ _ _ _ hf
        · rw [if_pos hc25] at hf
          refine r_bi O 30 rfl (-2) (by decide) dX10_blocker_28 ?_
          obtain ⟨g0, g1⟩ := qe2 hf
          exact r_iret2 O E g0 (by rw [g1]) dX10_blocker_30
-- X10_traceColumn
def rmX10_traceColumn : Room := { frames := 4, cells := 0, slots := 0, locals := 94 }
set_option maxHeartbeats 4000000 in
set_option maxRecDepth 100000 in
theorem zX10_traceColumn {l : Launch} {D : va_G} {cI cZ cQ : ClassId} {h_t : Nat → Nat} {u_t : Pk} {a1 : Int32} {a2 : Int32} {a3 : Int32} {a4 : Int32} {a5 : Int32} {v_t : Pk} (hf : fX10_traceColumn u_t a1 a2 a3 a4 a5 = some v_t) : MV l yX10_traceColumn wsX10_traceColumn rmX10_traceColumn D (TY cI cZ cQ) [.ref (h_t 0), .int a1, .int a2, .int a3, .int a4, .int a5] [nX10 cI cZ cQ h_t u_t] [nX10 cI cZ cQ h_t v_t] := by
  refine MV.of (own := RX10) (by decide +kernel) rfl rfl (Nat.le_of_ble_eq_true rfl) (lv0 := [(0, .ref (h_t 0)), (1, .int a1), (2, .int a2), (3, .int a3), (4, .int a4), (5, .int a5)]) rfl ?_
  intro X O E
  unfold fX10_traceColumn at hf
  refine r_ald_n O 1 rfl 0 rfl dX10_traceColumn_0 ?_
  refine r_ild_n O 2 rfl 1 rfl dX10_traceColumn_1 ?_
  refine r_ild_n O 3 rfl 2 rfl dX10_traceColumn_2 ?_
  refine r_ild_n O 4 rfl 3 rfl dX10_traceColumn_3 ?_
  refine r_ild O 6 rfl 4 rfl dX10_traceColumn_4 ?_
  refine r_ild O 8 rfl 5 rfl dX10_traceColumn_6 ?_
  obtain ⟨x8, hq8, hf⟩ := qb1_some hf
  refine k_SI O 11 rfl (zX10_rayX (l := xl X) (D := xD X) (cI := cI) (cZ := cZ) (cQ := cQ) hq8) (gS mlX10_323 mvX10_rayX izX10) rfl rfl rfl hdX10_rayX ⟨Nat.le_of_ble_eq_true rfl, Nat.le_of_ble_eq_true rfl⟩ rfl rfl (Nat.le_of_ble_eq_true rfl) ⟨Nat.zero_le _, Nat.zero_le _⟩ [] rfl rfl rfl ([nX10 cI cZ cQ h_t u_t]) rfl dX10_traceColumn_8 ?_
  refine r_ild_n O 12 rfl 3 rfl dX10_traceColumn_11 ?_
  refine r_ild O 14 rfl 4 rfl dX10_traceColumn_12 ?_
  refine r_ild O 16 rfl 5 rfl dX10_traceColumn_14 ?_
  obtain ⟨x16, hq16, hf⟩ := qb1_some hf
  refine k_SI O 19 rfl (zX10_rayY (l := xl X) (D := xD X) (cI := cI) (cZ := cZ) (cQ := cQ) hq16) (gS mlX10_326 mvX10_rayY izX10) rfl rfl rfl hdX10_rayY ⟨Nat.le_of_ble_eq_true rfl, Nat.le_of_ble_eq_true rfl⟩ rfl rfl (Nat.le_of_ble_eq_true rfl) ⟨Nat.zero_le _, Nat.zero_le _⟩ [] rfl rfl rfl ([nX10 cI cZ cQ h_t u_t]) rfl dX10_traceColumn_16 ?_
  obtain ⟨p19_t, hq19, hf⟩ := qb1_some hf
  refine k_VV O 22 rfl (zX10_trace (l := xl X) (D := xD X) (cI := cI) (cZ := cZ) (cQ := cQ) (h_t := h_t) hq19) (gV mlX10_353 mvX10_trace izX10) rfl rfl rfl hdX10_trace ⟨Nat.le_of_ble_eq_true rfl, Nat.le_of_ble_eq_true rfl⟩ rfl 0 rfl rfl rfl rfl (Nat.le_of_ble_eq_true rfl) ⟨Nat.zero_le _, Nat.zero_le _⟩ [0] rfl rfl rfl ([nX10 cI cZ cQ h_t p19_t]) rfl dX10_traceColumn_19 ?_
  obtain g0 := qe1 hf
  exact r_vret2 O E (by rw [g0]) dX10_traceColumn_22
-- X10_columnWall
def rmX10_columnWall : Room := { frames := 5, cells := 0, slots := 0, locals := 119 }
set_option maxHeartbeats 4000000 in
set_option maxRecDepth 100000 in
theorem zX10_columnWall {l : Launch} {D : va_G} {cI cZ cQ : ClassId} {h_t : Nat → Nat} {u_t : Pk} {a1 : Int32} {a2 : Int32} {a3 : Int32} {a4 : Int32} {a5 : Int32} {r0 : Int32} {v_t : Pk} (hf : fX10_columnWall u_t a1 a2 a3 a4 a5 = some (r0, v_t)) : MI l yX10_columnWall wsX10_columnWall rmX10_columnWall D (TY cI cZ cQ) [.ref (h_t 0), .int a1, .int a2, .int a3, .int a4, .int a5] [nX10 cI cZ cQ h_t u_t] r0 [nX10 cI cZ cQ h_t v_t] := by
  refine MI.of (own := RX10) (by decide +kernel) rfl rfl (Nat.le_of_ble_eq_true rfl) (lv0 := [(0, .ref (h_t 0)), (1, .int a1), (2, .int a2), (3, .int a3), (4, .int a4), (5, .int a5)]) rfl ?_
  intro X O E
  unfold fX10_columnWall at hf
  refine r_ild_n O 1 rfl 1 rfl dX10_columnWall_0 ?_
  refine r_ild_n O 2 rfl 2 rfl dX10_columnWall_1 ?_
  refine r_ild_n O 3 rfl 3 rfl dX10_columnWall_2 ?_
  refine r_ild O 5 rfl 4 rfl dX10_columnWall_3 ?_
  obtain ⟨x5, hq5, hf⟩ := qb1_some hf
  refine k_SZ O 8 rfl (zX10_isPicture (l := xl X) (D := xD X) (cI := cI) (cZ := cZ) (cQ := cQ) hq5) (gS mlX10_333 mvX10_isPicture izX10) rfl rfl rfl hdX10_isPicture ⟨Nat.le_of_ble_eq_true rfl, Nat.le_of_ble_eq_true rfl⟩ rfl rfl (Nat.le_of_ble_eq_true rfl) ⟨Nat.zero_le _, Nat.zero_le _⟩ [] rfl rfl rfl ([nX10 cI cZ cQ h_t u_t]) rfl dX10_columnWall_5 (fun hz5 => ?_)
  refine r_if_eq O 11 rfl 23 dX10_columnWall_8 (by decide) (fun hc8 => ?_) (fun hc8 => ?_)
  · rw [if_pos hc8] at hf
    refine r_bi O 25 rfl (-2) (by decide) dX10_columnWall_23 ?_
    obtain ⟨g0, g1⟩ := qe2 hf
    exact r_iret2 O E g0 (by rw [g1]) dX10_columnWall_25
  · rw [if_neg hc8] at hf
    refine r_ild O 13 rfl 5 rfl dX10_columnWall_11 ?_
    refine r_if_lt O 16 rfl 23 dX10_columnWall_13 (by decide) (fun hc13 => ?_) (fun hc13 => ?_)
    · rw [if_pos hc13] at hf
      refine r_bi O 25 rfl (-2) (by decide) dX10_columnWall_23 ?_
      obtain ⟨g0, g1⟩ := qe2 hf
      exact r_iret2 O E g0 (by rw [g1]) dX10_columnWall_25
    · rw [if_neg hc13] at hf
      refine r_ild O 18 rfl 5 rfl dX10_columnWall_16 ?_
      refine r_bi O 20 rfl 31 (by decide) dX10_columnWall_18 ?_
      refine r_icmp_le O 23 rfl 26 dX10_columnWall_20 (by decide) (fun hc20 => ?_) (fun hc20 => ?_)
      · rw [if_pos hc20] at hf
        refine r_ald_n O 27 rfl 0 rfl dX10_columnWall_26 ?_
        refine r_ild_n O 28 rfl 1 rfl dX10_columnWall_27 ?_
        refine r_ild_n O 29 rfl 2 rfl dX10_columnWall_28 ?_
        refine r_ild_n O 30 rfl 3 rfl dX10_columnWall_29 ?_
        refine r_ild O 32 rfl 4 rfl dX10_columnWall_30 ?_
        refine r_ild O 34 rfl 5 rfl dX10_columnWall_32 ?_
        obtain ⟨p34_t, hq34, hf⟩ := qb1_some hf
        refine k_VV O 37 rfl (zX10_traceColumn (l := xl X) (D := xD X) (cI := cI) (cZ := cZ) (cQ := cQ) (h_t := h_t) hq34) (gV mlX10_360 mvX10_traceColumn izX10) rfl rfl rfl hdX10_traceColumn ⟨Nat.le_of_ble_eq_true rfl, Nat.le_of_ble_eq_true rfl⟩ rfl 0 rfl rfl rfl rfl (Nat.le_of_ble_eq_true rfl) ⟨Nat.zero_le _, Nat.zero_le _⟩ [0] rfl rfl rfl ([nX10 cI cZ cQ h_t p34_t]) rfl dX10_columnWall_34 ?_
        refine r_ald_n O 38 rfl 0 rfl dX10_columnWall_37 ?_
        refine r_get (ref := RX10) (C := RX10) (T := TX10) (N := 70) O 41 rfl inBX10 0 54 rfl rfl rfl (by decide) flX10_341 rfl rfl dX10_columnWall_38 ?_
        refine r_if_ge O 44 rfl 49 dX10_columnWall_41 (by decide) (fun hc41 => ?_) (fun hc41 => ?_)
        · rw [if_pos hc41] at hf
          refine r_ald_n O 50 rfl 0 rfl dX10_columnWall_49 ?_
          refine r_get (ref := RX10) (C := RX10) (T := TX10) (N := 70) O 53 rfl inBX10 0 54 rfl rfl rfl (by decide) flX10_341 rfl rfl dX10_columnWall_50 ?_
          obtain ⟨g0, g1⟩ := qe2 hf
          exact r_iret2 O E g0 (by rw [g1]) dX10_columnWall_53
        · rw [if_neg hc41] at hf
          refine r_bi O 46 rfl (-8) (by decide) dX10_columnWall_44 ?_
          refine r_goto O 53 dX10_columnWall_46 (by decide) ?_
          obtain ⟨g0, g1⟩ := qe2 hf
          exact r_iret2 O E g0 (by rw [g1]) dX10_columnWall_53
      · rw [if_neg hc20] at hf
        refine r_bi O 25 rfl (-2) (by decide) dX10_columnWall_23 ?_
        obtain ⟨g0, g1⟩ := qe2 hf
        exact r_iret2 O E g0 (by rw [g1]) dX10_columnWall_25
-- X10_columnDistance
def rmX10_columnDistance : Room := { frames := 5, cells := 0, slots := 0, locals := 119 }
set_option maxHeartbeats 4000000 in
set_option maxRecDepth 100000 in
theorem zX10_columnDistance {l : Launch} {D : va_G} {cI cZ cQ : ClassId} {h_t : Nat → Nat} {u_t : Pk} {a1 : Int32} {a2 : Int32} {a3 : Int32} {a4 : Int32} {a5 : Int32} {a6 : Int32} {r0 : Int32} {v_t : Pk} (hf : fX10_columnDistance u_t a1 a2 a3 a4 a5 a6 = some (r0, v_t)) : MI l yX10_columnDistance wsX10_columnDistance rmX10_columnDistance D (TY cI cZ cQ) [.ref (h_t 0), .int a1, .int a2, .int a3, .int a4, .int a5, .int a6] [nX10 cI cZ cQ h_t u_t] r0 [nX10 cI cZ cQ h_t v_t] := by
  refine MI.of (own := RX10) (by decide +kernel) rfl rfl (Nat.le_of_ble_eq_true rfl) (lv0 := [(0, .ref (h_t 0)), (1, .int a1), (2, .int a2), (3, .int a3), (4, .int a4), (5, .int a5), (6, .int a6)]) rfl ?_
  intro X O E
  unfold fX10_columnDistance at hf
  refine r_ild_n O 1 rfl 1 rfl dX10_columnDistance_0 ?_
  refine r_ild_n O 2 rfl 2 rfl dX10_columnDistance_1 ?_
  refine r_ild_n O 3 rfl 3 rfl dX10_columnDistance_2 ?_
  refine r_ild O 5 rfl 4 rfl dX10_columnDistance_3 ?_
  obtain ⟨x5, hq5, hf⟩ := qb1_some hf
  refine k_SZ O 8 rfl (zX10_isPicture (l := xl X) (D := xD X) (cI := cI) (cZ := cZ) (cQ := cQ) hq5) (gS mlX10_333 mvX10_isPicture izX10) rfl rfl rfl hdX10_isPicture ⟨Nat.le_of_ble_eq_true rfl, Nat.le_of_ble_eq_true rfl⟩ rfl rfl (Nat.le_of_ble_eq_true rfl) ⟨Nat.zero_le _, Nat.zero_le _⟩ [] rfl rfl rfl ([nX10 cI cZ cQ h_t u_t]) rfl dX10_columnDistance_5 (fun hz5 => ?_)
  refine r_if_eq O 11 rfl 34 dX10_columnDistance_8 (by decide) (fun hc8 => ?_) (fun hc8 => ?_)
  · rw [if_pos hc8] at hf
    refine r_bi O 36 rfl (-2) (by decide) dX10_columnDistance_34 ?_
    obtain ⟨g0, g1⟩ := qe2 hf
    exact r_iret2 O E g0 (by rw [g1]) dX10_columnDistance_36
  · rw [if_neg hc8] at hf
    refine r_ild O 13 rfl 5 rfl dX10_columnDistance_11 ?_
    refine r_if_lt O 16 rfl 34 dX10_columnDistance_13 (by decide) (fun hc13 => ?_) (fun hc13 => ?_)
    · rw [if_pos hc13] at hf
      refine r_bi O 36 rfl (-2) (by decide) dX10_columnDistance_34 ?_
      obtain ⟨g0, g1⟩ := qe2 hf
      exact r_iret2 O E g0 (by rw [g1]) dX10_columnDistance_36
    · rw [if_neg hc13] at hf
      refine r_ild O 18 rfl 5 rfl dX10_columnDistance_16 ?_
      refine r_bi O 20 rfl 31 (by decide) dX10_columnDistance_18 ?_
      refine r_icmp_gt O 23 rfl 34 dX10_columnDistance_20 (by decide) (fun hc20 => ?_) (fun hc20 => ?_)
      · rw [if_pos hc20] at hf
        refine r_bi O 36 rfl (-2) (by decide) dX10_columnDistance_34 ?_
        obtain ⟨g0, g1⟩ := qe2 hf
        exact r_iret2 O E g0 (by rw [g1]) dX10_columnDistance_36
      · rw [if_neg hc20] at hf
        refine r_ild O 25 rfl 6 rfl dX10_columnDistance_23 ?_
        refine r_if_lt O 28 rfl 34 dX10_columnDistance_25 (by decide) (fun hc25 => ?_) (fun hc25 => ?_)
        · rw [if_pos hc25] at hf
          refine r_bi O 36 rfl (-2) (by decide) dX10_columnDistance_34 ?_
          obtain ⟨g0, g1⟩ := qe2 hf
          exact r_iret2 O E g0 (by rw [g1]) dX10_columnDistance_36
        · rw [if_neg hc25] at hf
          refine r_ild O 30 rfl 6 rfl dX10_columnDistance_28 ?_
          refine r_ic O 31 rfl 1 (by decide) dX10_columnDistance_30 ?_
          refine r_icmp_le O 34 rfl 37 dX10_columnDistance_31 (by decide) (fun hc31 => ?_) (fun hc31 => ?_)
          · rw [if_pos hc31] at hf
            refine r_ald_n O 38 rfl 0 rfl dX10_columnDistance_37 ?_
            refine r_ild_n O 39 rfl 1 rfl dX10_columnDistance_38 ?_
            refine r_ild_n O 40 rfl 2 rfl dX10_columnDistance_39 ?_
            refine r_ild_n O 41 rfl 3 rfl dX10_columnDistance_40 ?_
            refine r_ild O 43 rfl 4 rfl dX10_columnDistance_41 ?_
            refine r_ild O 45 rfl 5 rfl dX10_columnDistance_43 ?_
            obtain ⟨p45_t, hq45, hf⟩ := qb1_some hf
            refine k_VV O 48 rfl (zX10_traceColumn (l := xl X) (D := xD X) (cI := cI) (cZ := cZ) (cQ := cQ) (h_t := h_t) hq45) (gV mlX10_360 mvX10_traceColumn izX10) rfl rfl rfl hdX10_traceColumn ⟨Nat.le_of_ble_eq_true rfl, Nat.le_of_ble_eq_true rfl⟩ rfl 0 rfl rfl rfl rfl (Nat.le_of_ble_eq_true rfl) ⟨Nat.zero_le _, Nat.zero_le _⟩ [0] rfl rfl rfl ([nX10 cI cZ cQ h_t p45_t]) rfl dX10_columnDistance_45 ?_
            refine r_ald_n O 49 rfl 0 rfl dX10_columnDistance_48 ?_
            refine r_get (ref := RX10) (C := RX10) (T := TX10) (N := 70) O 52 rfl inBX10 0 54 rfl rfl rfl (by decide) flX10_341 rfl rfl dX10_columnDistance_49 ?_
            refine r_if_ge O 55 rfl 58 dX10_columnDistance_52 (by decide) (fun hc52 => ?_) (fun hc52 => ?_)
            · rw [if_pos hc52] at hf
              refine r_ald_n O 59 rfl 0 rfl dX10_columnDistance_58 ?_
              refine r_get (ref := RX10) (C := RX10) (T := TX10) (N := 70) O 62 rfl inBX10 0 55 rfl rfl rfl (by decide) flX10_344 rfl rfl dX10_columnDistance_59 ?_
              refine r_l2i O 63 rfl dX10_columnDistance_62 ?_
              refine r_ald_n O 64 rfl 0 rfl dX10_columnDistance_63 ?_
              refine r_get (ref := RX10) (C := RX10) (T := TX10) (N := 70) O 67 rfl inBX10 0 56 rfl rfl rfl (by decide) flX10_347 rfl rfl dX10_columnDistance_64 ?_
              refine r_l2i O 68 rfl dX10_columnDistance_67 ?_
              obtain ⟨x68, hq68, hf⟩ := qb1_some hf
              refine k_SI O 71 rfl (zX10_divisor (l := xl X) (D := xD X) (cI := cI) (cZ := cZ) (cQ := cQ) hq68) (gS mlX10_197 mvX10_divisor izX10) rfl rfl rfl hdX10_divisor ⟨Nat.le_of_ble_eq_true rfl, Nat.le_of_ble_eq_true rfl⟩ rfl rfl (Nat.le_of_ble_eq_true rfl) ⟨Nat.zero_le _, Nat.zero_le _⟩ [] rfl rfl rfl ([nX10 cI cZ cQ h_t p45_t]) rfl dX10_columnDistance_68 ?_
              refine r_ist O 73 rfl [(7, .int x68), (0, .ref (h_t 0)), (1, .int a1), (2, .int a2), (3, .int a3), (4, .int a4), (5, .int a5), (6, .int a6)] dX10_columnDistance_71 (by decide) rfl ?_
              refine r_ild O 75 rfl 7 rfl dX10_columnDistance_73 ?_
              refine r_if_ne O 78 rfl 89 dX10_columnDistance_75 (by decide) (fun hc75 => ?_) (fun hc75 => ?_)
              · rw [if_neg hc75] at hf
                refine r_ald_n O 90 rfl 1 rfl dX10_columnDistance_89 ?_
                refine r_get (ref := RX10) (C := RX10) (T := TX10) (N := 70) O 93 rfl inBX10 0 56 rfl rfl rfl (by decide) flX10_347 rfl rfl dX10_columnDistance_90 ?_
                refine r_l2i O 94 rfl dX10_columnDistance_93 ?_
                refine r_ild O 96 rfl 0 rfl dX10_columnDistance_94 ?_
                obtain ⟨hne96, hf⟩ := qnzi_some hf
                refine r_idiv O 97 rfl dX10_columnDistance_96 hne96 ?_
                obtain ⟨g0, g1⟩ := qe2 hf
                exact r_iret2 O E g0 (by rw [g1]) dX10_columnDistance_97
              · rw [if_pos hc75] at hf
                refine r_ald_n O 79 rfl 1 rfl dX10_columnDistance_78 ?_
                refine r_get (ref := RX10) (C := RX10) (T := TX10) (N := 70) O 82 rfl inBX10 0 55 rfl rfl rfl (by decide) flX10_344 rfl rfl dX10_columnDistance_79 ?_
                refine r_l2i O 83 rfl dX10_columnDistance_82 ?_
                refine r_ild O 85 rfl 0 rfl dX10_columnDistance_83 ?_
                obtain ⟨hne85, hf⟩ := qnzi_some hf
                refine r_idiv O 86 rfl dX10_columnDistance_85 hne85 ?_
                refine r_goto O 97 dX10_columnDistance_86 (by decide) ?_
                obtain ⟨g0, g1⟩ := qe2 hf
                exact r_iret2 O E g0 (by rw [g1]) dX10_columnDistance_97
            · rw [if_neg hc52] at hf
              refine r_bi O 57 rfl (-8) (by decide) dX10_columnDistance_55 ?_
              obtain ⟨g0, g1⟩ := qe2 hf
              exact r_iret2 O E g0 (by rw [g1]) dX10_columnDistance_57
          · rw [if_neg hc31] at hf
            refine r_bi O 36 rfl (-2) (by decide) dX10_columnDistance_34 ?_
            obtain ⟨g0, g1⟩ := qe2 hf
            exact r_iret2 O E g0 (by rw [g1]) dX10_columnDistance_36
-- X10_paneCount
def rmX10_paneCount : Room := { frames := 5, cells := 0, slots := 0, locals := 119 }
set_option maxHeartbeats 4000000 in
set_option maxRecDepth 100000 in
theorem zX10_paneCount {l : Launch} {D : va_G} {cI cZ cQ : ClassId} {h_t : Nat → Nat} {u_t : Pk} {a1 : Int32} {a2 : Int32} {a3 : Int32} {a4 : Int32} {a5 : Int32} {r0 : Int32} {v_t : Pk} (hf : fX10_paneCount u_t a1 a2 a3 a4 a5 = some (r0, v_t)) : MI l yX10_paneCount wsX10_paneCount rmX10_paneCount D (TY cI cZ cQ) [.ref (h_t 0), .int a1, .int a2, .int a3, .int a4, .int a5] [nX10 cI cZ cQ h_t u_t] r0 [nX10 cI cZ cQ h_t v_t] := by
  refine MI.of (own := RX10) (by decide +kernel) rfl rfl (Nat.le_of_ble_eq_true rfl) (lv0 := [(0, .ref (h_t 0)), (1, .int a1), (2, .int a2), (3, .int a3), (4, .int a4), (5, .int a5)]) rfl ?_
  intro X O E
  have B138 : ∀ (rec43 : Pk → Int32 → Int32 → Int32 → Int32 → Int32 → Int32 → Int32 → Option (Int32 × Pk)), (∀ (w_t : Pk) (y1 : Int32) (y2 : Int32) (y3 : Int32) (y4 : Int32) (y5 : Int32) (y6 : Int32) (y7 : Int32), rec43 w_t y1 y2 y3 y4 y5 y6 y7 = some (r0, v_t) → BK X 8 0 0 43 ([nX10 cI cZ cQ h_t w_t]) [(0, .ref (h_t 0)), (1, .int y1), (2, .int y2), (3, .int y3), (4, .int y4), (5, .int y5), (6, .int y6), (7, .int y7)] []) → ∀ (w_t : Pk) (y1 : Int32) (y2 : Int32) (y3 : Int32) (y4 : Int32) (y5 : Int32) (y6 : Int32) (y7 : Int32), fX10_paneCount_b138 rec43 w_t y1 y2 y3 y4 y5 y6 y7 = some (r0, v_t) → BK X 8 0 0 138 ([nX10 cI cZ cQ h_t w_t]) [(0, .ref (h_t 0)), (1, .int y1), (2, .int y2), (3, .int y3), (4, .int y4), (5, .int y5), (6, .int y6), (7, .int y7)] [] := by
    intro rec43 hrec43 w_t y1 y2 y3 y4 y5 y6 y7 hf
    unfold fX10_paneCount_b138 at hf
    obtain ⟨x138, ex138, hf⟩ := qn_some hf
    refine r_iinc O 141 rfl x138 7 rfl (by rw [ex138]; rfl) [(7, .int x138), (0, .ref (h_t 0)), (1, .int y1), (2, .int y2), (3, .int y3), (4, .int y4), (5, .int y5), (6, .int y6)] dX10_paneCount_138 (by decide) rfl ?_
    refine r_goto O 43 dX10_paneCount_141 (by decide) ?_
    refine r_lv [1, 2, 3, 4, 5, 6, 7, 0] rfl ?_
    exact hrec43 _ _ _ _ _ _ _ _ hf
  have B135 : ∀ (rec43 : Pk → Int32 → Int32 → Int32 → Int32 → Int32 → Int32 → Int32 → Option (Int32 × Pk)), (∀ (w_t : Pk) (y1 : Int32) (y2 : Int32) (y3 : Int32) (y4 : Int32) (y5 : Int32) (y6 : Int32) (y7 : Int32), rec43 w_t y1 y2 y3 y4 y5 y6 y7 = some (r0, v_t) → BK X 8 0 0 43 ([nX10 cI cZ cQ h_t w_t]) [(0, .ref (h_t 0)), (1, .int y1), (2, .int y2), (3, .int y3), (4, .int y4), (5, .int y5), (6, .int y6), (7, .int y7)] []) → ∀ (w_t : Pk) (y1 : Int32) (y2 : Int32) (y3 : Int32) (y4 : Int32) (y5 : Int32) (y7 : Int32) (z0 : Int32) (z1 : Int32), fX10_paneCount_b135 rec43 w_t y1 y2 y3 y4 y5 y7 z0 z1 = some (r0, v_t) → BK X 8 0 0 135 ([nX10 cI cZ cQ h_t w_t]) [(0, .ref (h_t 0)), (1, .int y1), (2, .int y2), (3, .int y3), (4, .int y4), (5, .int y5), (7, .int y7)] [.int z1, .int z0] := by
    intro rec43 hrec43 w_t y1 y2 y3 y4 y5 y7 z0 z1 hf
    unfold fX10_paneCount_b135 at hf
    refine r_iadd O 136 rfl dX10_paneCount_135 ?_
    obtain ⟨x136, ex136, hf⟩ := qn_some hf
    rw [← ex136]
    refine r_ist O 138 rfl [(6, .int x136), (0, .ref (h_t 0)), (1, .int y1), (2, .int y2), (3, .int y3), (4, .int y4), (5, .int y5), (7, .int y7)] dX10_paneCount_136 (by decide) rfl ?_
    refine r_lv [1, 2, 3, 4, 5, 6, 0, 7] rfl ?_
    exact B138 rec43 hrec43 _ _ _ _ _ _ _ _ hf
  have B130 : ∀ (rec43 : Pk → Int32 → Int32 → Int32 → Int32 → Int32 → Int32 → Int32 → Option (Int32 × Pk)), (∀ (w_t : Pk) (y1 : Int32) (y2 : Int32) (y3 : Int32) (y4 : Int32) (y5 : Int32) (y6 : Int32) (y7 : Int32), rec43 w_t y1 y2 y3 y4 y5 y6 y7 = some (r0, v_t) → BK X 8 0 0 43 ([nX10 cI cZ cQ h_t w_t]) [(0, .ref (h_t 0)), (1, .int y1), (2, .int y2), (3, .int y3), (4, .int y4), (5, .int y5), (6, .int y6), (7, .int y7)] []) → ∀ (w_t : Pk) (y1 : Int32) (y2 : Int32) (y3 : Int32) (y4 : Int32) (y5 : Int32) (y7 : Int32) (z0 : Int32), fX10_paneCount_b130 rec43 w_t y1 y2 y3 y4 y5 y7 z0 = some (r0, v_t) → BK X 8 0 0 130 ([nX10 cI cZ cQ h_t w_t]) [(0, .ref (h_t 0)), (1, .int y1), (2, .int y2), (3, .int y3), (4, .int y4), (5, .int y5), (7, .int y7)] [.int z0] := by
    intro rec43 hrec43 w_t y1 y2 y3 y4 y5 y7 z0 hf
    unfold fX10_paneCount_b130 at hf
    refine r_ic O 131 rfl 1 (by decide) dX10_paneCount_130 ?_
    refine r_goto O 135 dX10_paneCount_131 (by decide) ?_
    exact B135 rec43 hrec43 _ _ _ _ _ _ _ _ _ hf
  have B43 : ∀ n : Nat, ∀ (w_t : Pk) (y1 : Int32) (y2 : Int32) (y3 : Int32) (y4 : Int32) (y5 : Int32) (y6 : Int32) (y7 : Int32), fX10_paneCount_b43 n w_t y1 y2 y3 y4 y5 y6 y7 = some (r0, v_t) → BK X 8 0 0 43 ([nX10 cI cZ cQ h_t w_t]) [(0, .ref (h_t 0)), (1, .int y1), (2, .int y2), (3, .int y3), (4, .int y4), (5, .int y5), (6, .int y6), (7, .int y7)] [] := by
    intro n
    induction n with
    | zero => exact fun _ _ _ _ _ _ _ _ hf => qno hf
    | succ n hrec43 =>
      intro w_t y1 y2 y3 y4 y5 y6 y7 hf
      have hf : fX10_paneCount_b43_s (fX10_paneCount_b43 n) w_t y1 y2 y3 y4 y5 y6 y7 = some (r0, v_t) := hf
      generalize fX10_paneCount_b43 n = rec43 at hf hrec43
      unfold fX10_paneCount_b43_s at hf
      refine r_ild O 45 rfl 7 rfl dX10_paneCount_43 ?_
      refine r_bi O 47 rfl 12 (by decide) dX10_paneCount_45 ?_
      refine r_icmp_ge O 50 rfl 144 dX10_paneCount_47 (by decide) (fun hc47 => ?_) (fun hc47 => ?_)
      · rw [if_pos hc47] at hf
        refine r_ild O 146 rfl 6 rfl dX10_paneCount_144 ?_
        obtain ⟨g0, g1⟩ := qe2 hf
        exact r_iret2 O E g0 (by rw [g1]) dX10_paneCount_146
      · rw [if_neg hc47] at hf
        refine r_ald_n O 51 rfl 0 rfl dX10_paneCount_50 ?_
        refine r_ild O 53 rfl 7 rfl dX10_paneCount_51 ?_
        refine r_ic O 54 rfl 0 (by decide) dX10_paneCount_53 ?_
        obtain ⟨x54, hq54, hf⟩ := qb1_some hf
        refine k_VI O 57 rfl (zX10_at (l := xl X) (D := xD X) (cI := cI) (cZ := cZ) (cQ := cQ) (h_t := h_t) hq54) (gV mlX10_129 mvX10_at izX10) rfl rfl rfl hdX10_at ⟨Nat.le_of_ble_eq_true rfl, Nat.le_of_ble_eq_true rfl⟩ rfl 0 rfl rfl rfl rfl (Nat.le_of_ble_eq_true rfl) ⟨Nat.zero_le _, Nat.zero_le _⟩ [0] rfl rfl rfl ([nX10 cI cZ cQ h_t w_t]) rfl dX10_paneCount_54 ?_
        refine r_ic O 58 rfl 1 (by decide) dX10_paneCount_57 ?_
        refine r_icmp_ne O 61 rfl 138 dX10_paneCount_58 (by decide) (fun hc58 => ?_) (fun hc58 => ?_)
        · rw [if_neg hc58] at hf
          exact B138 rec43 hrec43 _ _ _ _ _ _ _ _ hf
        · rw [if_pos hc58] at hf
          refine r_ald_n O 62 rfl 0 rfl dX10_paneCount_61 ?_
          refine r_ild O 64 rfl 7 rfl dX10_paneCount_62 ?_
          refine r_ic O 65 rfl 5 (by decide) dX10_paneCount_64 ?_
          obtain ⟨x65, hq65, hf⟩ := qb1_some hf
          refine k_VI O 68 rfl (zX10_at (l := xl X) (D := xD X) (cI := cI) (cZ := cZ) (cQ := cQ) (h_t := h_t) hq65) (gV mlX10_129 mvX10_at izX10) rfl rfl rfl hdX10_at ⟨Nat.le_of_ble_eq_true rfl, Nat.le_of_ble_eq_true rfl⟩ rfl 0 rfl rfl rfl rfl (Nat.le_of_ble_eq_true rfl) ⟨Nat.zero_le _, Nat.zero_le _⟩ [0] rfl rfl rfl ([nX10 cI cZ cQ h_t w_t]) rfl dX10_paneCount_65 ?_
          refine r_ic O 69 rfl 1 (by decide) dX10_paneCount_68 ?_
          refine r_icmp_ne O 72 rfl 138 dX10_paneCount_69 (by decide) (fun hc69 => ?_) (fun hc69 => ?_)
          · rw [if_neg hc69] at hf
            exact B138 rec43 hrec43 _ _ _ _ _ _ _ _ hf
          · rw [if_pos hc69] at hf
            refine r_ald_n O 73 rfl 0 rfl dX10_paneCount_72 ?_
            refine r_ild O 75 rfl 7 rfl dX10_paneCount_73 ?_
            refine r_ild_n O 76 rfl 1 rfl dX10_paneCount_75 ?_
            refine r_ild_n O 77 rfl 2 rfl dX10_paneCount_76 ?_
            refine r_ild_n O 78 rfl 3 rfl dX10_paneCount_77 ?_
            refine r_ild O 80 rfl 4 rfl dX10_paneCount_78 ?_
            refine r_ild O 82 rfl 5 rfl dX10_paneCount_80 ?_
            obtain ⟨x82, hq82, hf⟩ := qb1_some hf
            refine k_SI O 85 rfl (zX10_rayX (l := xl X) (D := xD X) (cI := cI) (cZ := cZ) (cQ := cQ) hq82) (gS mlX10_323 mvX10_rayX izX10) rfl rfl rfl hdX10_rayX ⟨Nat.le_of_ble_eq_true rfl, Nat.le_of_ble_eq_true rfl⟩ rfl rfl (Nat.le_of_ble_eq_true rfl) ⟨Nat.zero_le _, Nat.zero_le _⟩ [] rfl rfl rfl ([nX10 cI cZ cQ h_t w_t]) rfl dX10_paneCount_82 ?_
            refine r_ild_n O 86 rfl 3 rfl dX10_paneCount_85 ?_
            refine r_ild O 88 rfl 4 rfl dX10_paneCount_86 ?_
            refine r_ild O 90 rfl 5 rfl dX10_paneCount_88 ?_
            obtain ⟨x90, hq90, hf⟩ := qb1_some hf
            refine k_SI O 93 rfl (zX10_rayY (l := xl X) (D := xD X) (cI := cI) (cZ := cZ) (cQ := cQ) hq90) (gS mlX10_326 mvX10_rayY izX10) rfl rfl rfl hdX10_rayY ⟨Nat.le_of_ble_eq_true rfl, Nat.le_of_ble_eq_true rfl⟩ rfl rfl (Nat.le_of_ble_eq_true rfl) ⟨Nat.zero_le _, Nat.zero_le _⟩ [] rfl rfl rfl ([nX10 cI cZ cQ h_t w_t]) rfl dX10_paneCount_90 ?_
            obtain ⟨x93, p93_t, hq93, hf⟩ := qb2_some hf
            refine k_VZ O 96 rfl (zX10_isHit (l := xl X) (D := xD X) (cI := cI) (cZ := cZ) (cQ := cQ) (h_t := h_t) hq93) (gV mlX10_329 mvX10_isHit izX10) rfl rfl rfl hdX10_isHit ⟨Nat.le_of_ble_eq_true rfl, Nat.le_of_ble_eq_true rfl⟩ rfl 0 rfl rfl rfl rfl (Nat.le_of_ble_eq_true rfl) ⟨Nat.zero_le _, Nat.zero_le _⟩ [0] rfl rfl rfl ([nX10 cI cZ cQ h_t p93_t]) rfl dX10_paneCount_93 (fun hz93 => ?_)
            refine r_if_eq O 99 rfl 138 dX10_paneCount_96 (by decide) (fun hc96 => ?_) (fun hc96 => ?_)
            · rw [if_pos hc96] at hf
              exact B138 rec43 hrec43 _ _ _ _ _ _ _ _ hf
            · rw [if_neg hc96] at hf
              refine r_ild O 101 rfl 6 rfl dX10_paneCount_99 ?_
              refine r_ald_n O 102 rfl 0 rfl dX10_paneCount_101 ?_
              refine r_get (ref := RX10) (C := RX10) (T := TX10) (N := 70) O 105 rfl inBX10 0 54 rfl rfl rfl (by decide) flX10_341 rfl rfl dX10_paneCount_102 ?_
              refine r_if_lt O 108 rfl 130 dX10_paneCount_105 (by decide) (fun hc105 => ?_) (fun hc105 => ?_)
              · rw [if_pos hc105] at hf
                refine r_lv [0, 1, 2, 3, 4, 5, 7] rfl ?_
                exact B130 rec43 hrec43 _ _ _ _ _ _ _ _ hf
              · rw [if_neg hc105] at hf
                refine r_ald_n O 109 rfl 0 rfl dX10_paneCount_108 ?_
                refine r_get (ref := RX10) (C := RX10) (T := TX10) (N := 70) O 112 rfl inBX10 0 52 rfl rfl rfl (by decide) flX10_317 rfl rfl dX10_paneCount_109 ?_
                refine r_ald_n O 113 rfl 0 rfl dX10_paneCount_112 ?_
                refine r_get (ref := RX10) (C := RX10) (T := TX10) (N := 70) O 116 rfl inBX10 0 56 rfl rfl rfl (by decide) flX10_347 rfl rfl dX10_paneCount_113 ?_
                refine r_lmul O 117 rfl dX10_paneCount_116 ?_
                refine r_ald_n O 118 rfl 0 rfl dX10_paneCount_117 ?_
                refine r_get (ref := RX10) (C := RX10) (T := TX10) (N := 70) O 121 rfl inBX10 0 55 rfl rfl rfl (by decide) flX10_344 rfl rfl dX10_paneCount_118 ?_
                refine r_ald_n O 122 rfl 0 rfl dX10_paneCount_121 ?_
                refine r_get (ref := RX10) (C := RX10) (T := TX10) (N := 70) O 125 rfl inBX10 0 51 rfl rfl rfl (by decide) flX10_313 rfl rfl dX10_paneCount_122 ?_
                refine r_lmul O 126 rfl dX10_paneCount_125 ?_
                refine r_lcmp O 127 rfl dX10_paneCount_126 ?_
                refine r_if_ge O 130 rfl 134 dX10_paneCount_127 (by decide) (fun hc127 => ?_) (fun hc127 => ?_)
                · rw [if_pos hc127] at hf
                  refine r_ic O 135 rfl 0 (by decide) dX10_paneCount_134 ?_
                  refine r_lv [0, 1, 2, 3, 4, 5, 7] rfl ?_
                  exact B135 rec43 hrec43 _ _ _ _ _ _ _ _ _ hf
                · rw [if_neg hc127] at hf
                  refine r_lv [0, 1, 2, 3, 4, 5, 7] rfl ?_
                  exact B130 rec43 hrec43 _ _ _ _ _ _ _ _ hf
  unfold fX10_paneCount at hf
  refine r_ild_n O 1 rfl 1 rfl dX10_paneCount_0 ?_
  refine r_ild_n O 2 rfl 2 rfl dX10_paneCount_1 ?_
  refine r_ild_n O 3 rfl 3 rfl dX10_paneCount_2 ?_
  refine r_ild O 5 rfl 4 rfl dX10_paneCount_3 ?_
  obtain ⟨x5, hq5, hf⟩ := qb1_some hf
  refine k_SZ O 8 rfl (zX10_isPicture (l := xl X) (D := xD X) (cI := cI) (cZ := cZ) (cQ := cQ) hq5) (gS mlX10_333 mvX10_isPicture izX10) rfl rfl rfl hdX10_isPicture ⟨Nat.le_of_ble_eq_true rfl, Nat.le_of_ble_eq_true rfl⟩ rfl rfl (Nat.le_of_ble_eq_true rfl) ⟨Nat.zero_le _, Nat.zero_le _⟩ [] rfl rfl rfl ([nX10 cI cZ cQ h_t u_t]) rfl dX10_paneCount_5 (fun hz5 => ?_)
  refine r_if_eq O 11 rfl 23 dX10_paneCount_8 (by decide) (fun hc8 => ?_) (fun hc8 => ?_)
  · rw [if_pos hc8] at hf
    refine r_bi O 25 rfl (-2) (by decide) dX10_paneCount_23 ?_
    obtain ⟨g0, g1⟩ := qe2 hf
    exact r_iret2 O E g0 (by rw [g1]) dX10_paneCount_25
  · rw [if_neg hc8] at hf
    refine r_ild O 13 rfl 5 rfl dX10_paneCount_11 ?_
    refine r_if_lt O 16 rfl 23 dX10_paneCount_13 (by decide) (fun hc13 => ?_) (fun hc13 => ?_)
    · rw [if_pos hc13] at hf
      refine r_bi O 25 rfl (-2) (by decide) dX10_paneCount_23 ?_
      obtain ⟨g0, g1⟩ := qe2 hf
      exact r_iret2 O E g0 (by rw [g1]) dX10_paneCount_25
    · rw [if_neg hc13] at hf
      refine r_ild O 18 rfl 5 rfl dX10_paneCount_16 ?_
      refine r_bi O 20 rfl 31 (by decide) dX10_paneCount_18 ?_
      refine r_icmp_le O 23 rfl 26 dX10_paneCount_20 (by decide) (fun hc20 => ?_) (fun hc20 => ?_)
      · rw [if_pos hc20] at hf
        refine r_ald_n O 27 rfl 0 rfl dX10_paneCount_26 ?_
        refine r_ild_n O 28 rfl 1 rfl dX10_paneCount_27 ?_
        refine r_ild_n O 29 rfl 2 rfl dX10_paneCount_28 ?_
        refine r_ild_n O 30 rfl 3 rfl dX10_paneCount_29 ?_
        refine r_ild O 32 rfl 4 rfl dX10_paneCount_30 ?_
        refine r_ild O 34 rfl 5 rfl dX10_paneCount_32 ?_
        obtain ⟨p34_t, hq34, hf⟩ := qb1_some hf
        refine k_VV O 37 rfl (zX10_traceColumn (l := xl X) (D := xD X) (cI := cI) (cZ := cZ) (cQ := cQ) (h_t := h_t) hq34) (gV mlX10_360 mvX10_traceColumn izX10) rfl rfl rfl hdX10_traceColumn ⟨Nat.le_of_ble_eq_true rfl, Nat.le_of_ble_eq_true rfl⟩ rfl 0 rfl rfl rfl rfl (Nat.le_of_ble_eq_true rfl) ⟨Nat.zero_le _, Nat.zero_le _⟩ [0] rfl rfl rfl ([nX10 cI cZ cQ h_t p34_t]) rfl dX10_paneCount_34 ?_
        refine r_ic O 38 rfl 0 (by decide) dX10_paneCount_37 ?_
        refine r_ist O 40 rfl [(6, .int 0), (0, .ref (h_t 0)), (1, .int a1), (2, .int a2), (3, .int a3), (4, .int a4), (5, .int a5)] dX10_paneCount_38 (by decide) rfl ?_
        refine r_ic O 41 rfl 0 (by decide) dX10_paneCount_40 ?_
        refine r_ist O 43 rfl [(7, .int 0), (6, .int 0), (0, .ref (h_t 0)), (1, .int a1), (2, .int a2), (3, .int a3), (4, .int a4), (5, .int a5)] dX10_paneCount_41 (by decide) rfl ?_
        refine r_lv [2, 3, 4, 5, 6, 7, 1, 0] rfl ?_
        exact B43 FU _ _ _ _ _ _ _ _ hf
      · rw [if_neg hc20] at hf
        refine r_bi O 25 rfl (-2) (by decide) dX10_paneCount_23 ?_
        obtain ⟨g0, g1⟩ := qe2 hf
        exact r_iret2 O E g0 (by rw [g1]) dX10_paneCount_25
-- X10_seenColumns
def rmX10_seenColumns : Room := { frames := 5, cells := 0, slots := 0, locals := 119 }
set_option maxHeartbeats 4000000 in
set_option maxRecDepth 100000 in
theorem zX10_seenColumns {l : Launch} {D : va_G} {cI cZ cQ : ClassId} {h_t : Nat → Nat} {u_t : Pk} {a1 : Int32} {a2 : Int32} {a3 : Int32} {a4 : Int32} {a5 : Int32} {r0 : Int32} {v_t : Pk} (hf : fX10_seenColumns u_t a1 a2 a3 a4 a5 = some (r0, v_t)) : MI l yX10_seenColumns wsX10_seenColumns rmX10_seenColumns D (TY cI cZ cQ) [.ref (h_t 0), .int a1, .int a2, .int a3, .int a4, .int a5] [nX10 cI cZ cQ h_t u_t] r0 [nX10 cI cZ cQ h_t v_t] := by
  refine MI.of (own := RX10) (by decide +kernel) rfl rfl (Nat.le_of_ble_eq_true rfl) (lv0 := [(0, .ref (h_t 0)), (1, .int a1), (2, .int a2), (3, .int a3), (4, .int a4), (5, .int a5)]) rfl ?_
  intro X O E
  have B65 : ∀ (rec31 : Pk → Int32 → Int32 → Int32 → Int32 → Int32 → Int32 → Int32 → Option (Int32 × Pk)), (∀ (w_t : Pk) (y1 : Int32) (y2 : Int32) (y3 : Int32) (y4 : Int32) (y5 : Int32) (y6 : Int32) (y7 : Int32), rec31 w_t y1 y2 y3 y4 y5 y6 y7 = some (r0, v_t) → BK X 8 0 0 31 ([nX10 cI cZ cQ h_t w_t]) [(0, .ref (h_t 0)), (1, .int y1), (2, .int y2), (3, .int y3), (4, .int y4), (5, .int y5), (6, .int y6), (7, .int y7)] []) → ∀ (w_t : Pk) (y1 : Int32) (y2 : Int32) (y3 : Int32) (y4 : Int32) (y5 : Int32) (y7 : Int32) (z0 : Int32) (z1 : Int32), fX10_seenColumns_b65 rec31 w_t y1 y2 y3 y4 y5 y7 z0 z1 = some (r0, v_t) → BK X 8 0 0 65 ([nX10 cI cZ cQ h_t w_t]) [(0, .ref (h_t 0)), (1, .int y1), (2, .int y2), (3, .int y3), (4, .int y4), (5, .int y5), (7, .int y7)] [.int z1, .int z0] := by
    intro rec31 hrec31 w_t y1 y2 y3 y4 y5 y7 z0 z1 hf
    unfold fX10_seenColumns_b65 at hf
    refine r_iadd O 66 rfl dX10_seenColumns_65 ?_
    obtain ⟨x66, ex66, hf⟩ := qn_some hf
    rw [← ex66]
    refine r_ist O 68 rfl [(6, .int x66), (0, .ref (h_t 0)), (1, .int y1), (2, .int y2), (3, .int y3), (4, .int y4), (5, .int y5), (7, .int y7)] dX10_seenColumns_66 (by decide) rfl ?_
    obtain ⟨x68, ex68, hf⟩ := qn_some hf
    refine r_iinc O 71 rfl x68 7 rfl (by rw [ex68]; rfl) [(7, .int x68), (6, .int x66), (0, .ref (h_t 0)), (1, .int y1), (2, .int y2), (3, .int y3), (4, .int y4), (5, .int y5)] dX10_seenColumns_68 (by decide) rfl ?_
    refine r_goto O 31 dX10_seenColumns_71 (by decide) ?_
    refine r_lv [2, 3, 4, 5, 6, 7, 1, 0] rfl ?_
    exact hrec31 _ _ _ _ _ _ _ _ hf
  have B31 : ∀ n : Nat, ∀ (w_t : Pk) (y1 : Int32) (y2 : Int32) (y3 : Int32) (y4 : Int32) (y5 : Int32) (y6 : Int32) (y7 : Int32), fX10_seenColumns_b31 n w_t y1 y2 y3 y4 y5 y6 y7 = some (r0, v_t) → BK X 8 0 0 31 ([nX10 cI cZ cQ h_t w_t]) [(0, .ref (h_t 0)), (1, .int y1), (2, .int y2), (3, .int y3), (4, .int y4), (5, .int y5), (6, .int y6), (7, .int y7)] [] := by
    intro n
    induction n with
    | zero => exact fun _ _ _ _ _ _ _ _ hf => qno hf
    | succ n hrec31 =>
      intro w_t y1 y2 y3 y4 y5 y6 y7 hf
      have hf : fX10_seenColumns_b31_s (fX10_seenColumns_b31 n) w_t y1 y2 y3 y4 y5 y6 y7 = some (r0, v_t) := hf
      generalize fX10_seenColumns_b31 n = rec31 at hf hrec31
      unfold fX10_seenColumns_b31_s at hf
      refine r_ild O 33 rfl 7 rfl dX10_seenColumns_31 ?_
      refine r_bi O 35 rfl 32 (by decide) dX10_seenColumns_33 ?_
      refine r_icmp_ge O 38 rfl 74 dX10_seenColumns_35 (by decide) (fun hc35 => ?_) (fun hc35 => ?_)
      · rw [if_pos hc35] at hf
        refine r_ild O 76 rfl 6 rfl dX10_seenColumns_74 ?_
        obtain ⟨g0, g1⟩ := qe2 hf
        exact r_iret2 O E g0 (by rw [g1]) dX10_seenColumns_76
      · rw [if_neg hc35] at hf
        refine r_ald_n O 39 rfl 0 rfl dX10_seenColumns_38 ?_
        refine r_ild_n O 40 rfl 1 rfl dX10_seenColumns_39 ?_
        refine r_ild_n O 41 rfl 2 rfl dX10_seenColumns_40 ?_
        refine r_ild_n O 42 rfl 3 rfl dX10_seenColumns_41 ?_
        refine r_ild O 44 rfl 4 rfl dX10_seenColumns_42 ?_
        refine r_ild O 46 rfl 7 rfl dX10_seenColumns_44 ?_
        obtain ⟨p46_t, hq46, hf⟩ := qb1_some hf
        refine k_VV O 49 rfl (zX10_traceColumn (l := xl X) (D := xD X) (cI := cI) (cZ := cZ) (cQ := cQ) (h_t := h_t) hq46) (gV mlX10_360 mvX10_traceColumn izX10) rfl rfl rfl hdX10_traceColumn ⟨Nat.le_of_ble_eq_true rfl, Nat.le_of_ble_eq_true rfl⟩ rfl 0 rfl rfl rfl rfl (Nat.le_of_ble_eq_true rfl) ⟨Nat.zero_le _, Nat.zero_le _⟩ [0] rfl rfl rfl ([nX10 cI cZ cQ h_t p46_t]) rfl dX10_seenColumns_46 ?_
        refine r_ild O 51 rfl 6 rfl dX10_seenColumns_49 ?_
        refine r_ald_n O 52 rfl 0 rfl dX10_seenColumns_51 ?_
        refine r_get (ref := RX10) (C := RX10) (T := TX10) (N := 70) O 55 rfl inBX10 0 54 rfl rfl rfl (by decide) flX10_341 rfl rfl dX10_seenColumns_52 ?_
        refine r_ild O 57 rfl 5 rfl dX10_seenColumns_55 ?_
        refine r_icmp_ne O 60 rfl 64 dX10_seenColumns_57 (by decide) (fun hc57 => ?_) (fun hc57 => ?_)
        · rw [if_neg hc57] at hf
          refine r_ic O 65 rfl 0 (by decide) dX10_seenColumns_64 ?_
          refine r_lv [0, 1, 2, 3, 4, 5, 7] rfl ?_
          exact B65 rec31 hrec31 _ _ _ _ _ _ _ _ _ hf
        · rw [if_pos hc57] at hf
          refine r_ic O 61 rfl 1 (by decide) dX10_seenColumns_60 ?_
          refine r_goto O 65 dX10_seenColumns_61 (by decide) ?_
          refine r_lv [0, 1, 2, 3, 4, 5, 7] rfl ?_
          exact B65 rec31 hrec31 _ _ _ _ _ _ _ _ _ hf
  unfold fX10_seenColumns at hf
  refine r_ild_n O 1 rfl 1 rfl dX10_seenColumns_0 ?_
  refine r_ild_n O 2 rfl 2 rfl dX10_seenColumns_1 ?_
  refine r_ild_n O 3 rfl 3 rfl dX10_seenColumns_2 ?_
  refine r_ild O 5 rfl 4 rfl dX10_seenColumns_3 ?_
  obtain ⟨x5, hq5, hf⟩ := qb1_some hf
  refine k_SZ O 8 rfl (zX10_isPicture (l := xl X) (D := xD X) (cI := cI) (cZ := cZ) (cQ := cQ) hq5) (gS mlX10_333 mvX10_isPicture izX10) rfl rfl rfl hdX10_isPicture ⟨Nat.le_of_ble_eq_true rfl, Nat.le_of_ble_eq_true rfl⟩ rfl rfl (Nat.le_of_ble_eq_true rfl) ⟨Nat.zero_le _, Nat.zero_le _⟩ [] rfl rfl rfl ([nX10 cI cZ cQ h_t u_t]) rfl dX10_seenColumns_5 (fun hz5 => ?_)
  refine r_if_ne O 11 rfl 14 dX10_seenColumns_8 (by decide) (fun hc8 => ?_) (fun hc8 => ?_)
  · rw [if_neg hc8] at hf
    refine r_ald_n O 15 rfl 0 rfl dX10_seenColumns_14 ?_
    refine r_ild O 17 rfl 5 rfl dX10_seenColumns_15 ?_
    obtain ⟨x17, hq17, hf⟩ := qb1_some hf
    refine k_VZ O 20 rfl (zX10_isWall (l := xl X) (D := xD X) (cI := cI) (cZ := cZ) (cQ := cQ) (h_t := h_t) hq17) (gV mlX10_140 mvX10_isWall izX10) rfl rfl rfl hdX10_isWall ⟨Nat.le_of_ble_eq_true rfl, Nat.le_of_ble_eq_true rfl⟩ rfl 0 rfl rfl rfl rfl (Nat.le_of_ble_eq_true rfl) ⟨Nat.zero_le _, Nat.zero_le _⟩ [0] rfl rfl rfl ([nX10 cI cZ cQ h_t u_t]) rfl dX10_seenColumns_17 (fun hz17 => ?_)
    refine r_if_ne O 23 rfl 25 dX10_seenColumns_20 (by decide) (fun hc20 => ?_) (fun hc20 => ?_)
    · rw [if_neg hc20] at hf
      refine r_ic O 26 rfl 0 (by decide) dX10_seenColumns_25 ?_
      refine r_ist O 28 rfl [(6, .int 0), (0, .ref (h_t 0)), (1, .int a1), (2, .int a2), (3, .int a3), (4, .int a4), (5, .int a5)] dX10_seenColumns_26 (by decide) rfl ?_
      refine r_ic O 29 rfl 0 (by decide) dX10_seenColumns_28 ?_
      refine r_ist O 31 rfl [(7, .int 0), (6, .int 0), (0, .ref (h_t 0)), (1, .int a1), (2, .int a2), (3, .int a3), (4, .int a4), (5, .int a5)] dX10_seenColumns_29 (by decide) rfl ?_
      refine r_lv [2, 3, 4, 5, 6, 7, 1, 0] rfl ?_
      exact B31 FU _ _ _ _ _ _ _ _ hf
    · rw [if_pos hc20] at hf
      refine r_ic O 24 rfl (-1) (by decide) dX10_seenColumns_23 ?_
      obtain ⟨g0, g1⟩ := qe2 hf
      exact r_iret2 O E g0 (by rw [g1]) dX10_seenColumns_24
  · rw [if_pos hc8] at hf
    refine r_bi O 13 rfl (-2) (by decide) dX10_seenColumns_11 ?_
    obtain ⟨g0, g1⟩ := qe2 hf
    exact r_iret2 O E g0 (by rw [g1]) dX10_seenColumns_13
-- X10_seen
def rmX10_seen : Room := { frames := 5, cells := 0, slots := 0, locals := 118 }
set_option maxHeartbeats 4000000 in
set_option maxRecDepth 100000 in
theorem zX10_seen {l : Launch} {D : va_G} {cI cZ cQ : ClassId} {h_t : Nat → Nat} {u_t : Pk} {a1 : Int32} {a2 : Int32} {r0 : Int32} {v_t : Pk} (hf : fX10_seen u_t a1 a2 = some (r0, v_t)) : MI l yX10_seen wsX10_seen rmX10_seen D (TY cI cZ cQ) [.ref (h_t 0), .int a1, .int a2] [nX10 cI cZ cQ h_t u_t] r0 [nX10 cI cZ cQ h_t v_t] := by
  refine MI.of (own := RX10) (by decide +kernel) rfl rfl (Nat.le_of_ble_eq_true rfl) (lv0 := [(0, .ref (h_t 0)), (1, .int a1), (2, .int a2)]) rfl ?_
  intro X O E
  have B65 : ∀ (rec5 : Pk → Int32 → Int32 → Int32 → Int32 → Option (Int32 × Pk)), (∀ (w_t : Pk) (y1 : Int32) (y2 : Int32) (y3 : Int32) (y4 : Int32), rec5 w_t y1 y2 y3 y4 = some (r0, v_t) → BK X 7 0 0 5 ([nX10 cI cZ cQ h_t w_t]) [(0, .ref (h_t 0)), (1, .int y1), (2, .int y2), (3, .int y3), (4, .int y4)] []) → ∀ (w_t : Pk) (y1 : Int32) (y2 : Int32) (y3 : Int32) (y4 : Int32), fX10_seen_b65 rec5 w_t y1 y2 y3 y4 = some (r0, v_t) → BK X 7 0 0 65 ([nX10 cI cZ cQ h_t w_t]) [(0, .ref (h_t 0)), (1, .int y1), (2, .int y2), (3, .int y3), (4, .int y4)] [] := by
    intro rec5 hrec5 w_t y1 y2 y3 y4 hf
    unfold fX10_seen_b65 at hf
    obtain ⟨x65, ex65, hf⟩ := qn_some hf
    refine r_iinc O 68 rfl x65 4 rfl (by rw [ex65]; rfl) [(4, .int x65), (0, .ref (h_t 0)), (1, .int y1), (2, .int y2), (3, .int y3)] dX10_seen_65 (by decide) rfl ?_
    refine r_goto O 5 dX10_seen_68 (by decide) ?_
    refine r_lv [1, 2, 3, 4, 0] rfl ?_
    exact hrec5 _ _ _ _ _ hf
  have B63 : ∀ (rec5 : Pk → Int32 → Int32 → Int32 → Int32 → Option (Int32 × Pk)), (∀ (w_t : Pk) (y1 : Int32) (y2 : Int32) (y3 : Int32) (y4 : Int32), rec5 w_t y1 y2 y3 y4 = some (r0, v_t) → BK X 7 0 0 5 ([nX10 cI cZ cQ h_t w_t]) [(0, .ref (h_t 0)), (1, .int y1), (2, .int y2), (3, .int y3), (4, .int y4)] []) → ∀ (w_t : Pk) (y1 : Int32) (y2 : Int32) (y4 : Int32) (z0 : Int32) (z1 : Int32), fX10_seen_b63 rec5 w_t y1 y2 y4 z0 z1 = some (r0, v_t) → BK X 7 0 0 63 ([nX10 cI cZ cQ h_t w_t]) [(0, .ref (h_t 0)), (1, .int y1), (2, .int y2), (4, .int y4)] [.int z1, .int z0] := by
    intro rec5 hrec5 w_t y1 y2 y4 z0 z1 hf
    unfold fX10_seen_b63 at hf
    refine r_iadd O 64 rfl dX10_seen_63 ?_
    obtain ⟨x64, ex64, hf⟩ := qn_some hf
    rw [← ex64]
    refine r_ist_n O 65 rfl rfl [(3, .int x64), (0, .ref (h_t 0)), (1, .int y1), (2, .int y2), (4, .int y4)] dX10_seen_64 (by decide) rfl ?_
    refine r_lv [1, 2, 3, 0, 4] rfl ?_
    exact B65 rec5 hrec5 _ _ _ _ _ hf
  have B44 : ∀ (rec5 : Pk → Int32 → Int32 → Int32 → Int32 → Option (Int32 × Pk)), (∀ (w_t : Pk) (y1 : Int32) (y2 : Int32) (y3 : Int32) (y4 : Int32), rec5 w_t y1 y2 y3 y4 = some (r0, v_t) → BK X 7 0 0 5 ([nX10 cI cZ cQ h_t w_t]) [(0, .ref (h_t 0)), (1, .int y1), (2, .int y2), (3, .int y3), (4, .int y4)] []) → ∀ (w_t : Pk) (y1 : Int32) (y2 : Int32) (y3 : Int32) (y4 : Int32) (y5 : Int32) (y6 : Int32), fX10_seen_b44 rec5 w_t y1 y2 y3 y4 y5 y6 = some (r0, v_t) → BK X 7 0 0 44 ([nX10 cI cZ cQ h_t w_t]) [(0, .ref (h_t 0)), (1, .int y1), (2, .int y2), (3, .int y3), (4, .int y4), (5, .int y5), (6, .int y6)] [] := by
    intro rec5 hrec5 w_t y1 y2 y3 y4 y5 y6 hf
    unfold fX10_seen_b44 at hf
    refine r_ild_n O 45 rfl 3 rfl dX10_seen_44 ?_
    refine r_ald_n O 46 rfl 0 rfl dX10_seen_45 ?_
    refine r_ild_n O 47 rfl 1 rfl dX10_seen_46 ?_
    refine r_ild_n O 48 rfl 2 rfl dX10_seen_47 ?_
    refine r_ild O 50 rfl 5 rfl dX10_seen_48 ?_
    refine r_ild O 52 rfl 6 rfl dX10_seen_50 ?_
    obtain ⟨x52, p52_t, hq52, hf⟩ := qb2_some hf
    refine k_VZ O 55 rfl (zX10_isBlocked (l := xl X) (D := xD X) (cI := cI) (cZ := cZ) (cQ := cQ) (h_t := h_t) hq52) (gV mlX10_357 mvX10_isBlocked izX10) rfl rfl rfl hdX10_isBlocked ⟨Nat.le_of_ble_eq_true rfl, Nat.le_of_ble_eq_true rfl⟩ rfl 0 rfl rfl rfl rfl (Nat.le_of_ble_eq_true rfl) ⟨Nat.zero_le _, Nat.zero_le _⟩ [0] rfl rfl rfl ([nX10 cI cZ cQ h_t p52_t]) rfl dX10_seen_52 (fun hz52 => ?_)
    refine r_if_eq O 58 rfl 62 dX10_seen_55 (by decide) (fun hc55 => ?_) (fun hc55 => ?_)
    · rw [if_pos hc55] at hf
      refine r_ic O 63 rfl 1 (by decide) dX10_seen_62 ?_
      refine r_lv [0, 1, 2, 4] rfl ?_
      exact B63 rec5 hrec5 _ _ _ _ _ _ hf
    · rw [if_neg hc55] at hf
      refine r_ic O 59 rfl 0 (by decide) dX10_seen_58 ?_
      refine r_goto O 63 dX10_seen_59 (by decide) ?_
      refine r_lv [0, 1, 2, 4] rfl ?_
      exact B63 rec5 hrec5 _ _ _ _ _ _ hf
  have B5 : ∀ n : Nat, ∀ (w_t : Pk) (y1 : Int32) (y2 : Int32) (y3 : Int32) (y4 : Int32), fX10_seen_b5 n w_t y1 y2 y3 y4 = some (r0, v_t) → BK X 7 0 0 5 ([nX10 cI cZ cQ h_t w_t]) [(0, .ref (h_t 0)), (1, .int y1), (2, .int y2), (3, .int y3), (4, .int y4)] [] := by
    intro n
    induction n with
    | zero => exact fun _ _ _ _ _ hf => qno hf
    | succ n hrec5 =>
      intro w_t y1 y2 y3 y4 hf
      have hf : fX10_seen_b5_s (fX10_seen_b5 n) w_t y1 y2 y3 y4 = some (r0, v_t) := hf
      generalize fX10_seen_b5 n = rec5 at hf hrec5
      unfold fX10_seen_b5_s at hf
      refine r_ild O 7 rfl 4 rfl dX10_seen_5 ?_
      refine r_bi O 9 rfl 64 (by decide) dX10_seen_7 ?_
      refine r_icmp_ge O 12 rfl 71 dX10_seen_9 (by decide) (fun hc9 => ?_) (fun hc9 => ?_)
      · rw [if_pos hc9] at hf
        refine r_ild_n O 72 rfl 3 rfl dX10_seen_71 ?_
        obtain ⟨g0, g1⟩ := qe2 hf
        exact r_iret2 O E g0 (by rw [g1]) dX10_seen_72
      · rw [if_neg hc9] at hf
        refine r_bi O 14 rfl 8 (by decide) dX10_seen_12 ?_
        refine r_ild O 16 rfl 4 rfl dX10_seen_14 ?_
        refine r_bi O 18 rfl 8 (by decide) dX10_seen_16 ?_
        obtain ⟨hne18, hf⟩ := qnzi_some hf
        refine r_idiv O 19 rfl dX10_seen_18 hne18 ?_
        refine r_imul O 20 rfl dX10_seen_19 ?_
        obtain ⟨x20, ex20, hf⟩ := qn_some hf
        rw [← ex20]
        refine r_ist O 22 rfl [(5, .int x20), (0, .ref (h_t 0)), (1, .int y1), (2, .int y2), (3, .int y3), (4, .int y4)] dX10_seen_20 (by decide) rfl ?_
        refine r_bi O 24 rfl 8 (by decide) dX10_seen_22 ?_
        refine r_ild O 26 rfl 5 rfl dX10_seen_24 ?_
        refine r_bi O 28 rfl 8 (by decide) dX10_seen_26 ?_
        obtain ⟨hne28, hf⟩ := qnzi_some hf
        refine r_irem O 29 rfl dX10_seen_28 hne28 ?_
        refine r_imul O 30 rfl dX10_seen_29 ?_
        obtain ⟨x30, ex30, hf⟩ := qn_some hf
        rw [← ex30]
        refine r_ist O 32 rfl [(6, .int x30), (5, .int x20), (0, .ref (h_t 0)), (1, .int y1), (2, .int y2), (3, .int y3), (4, .int y4)] dX10_seen_30 (by decide) rfl ?_
        refine r_ild O 34 rfl 1 rfl dX10_seen_32 ?_
        refine r_ild_n O 35 rfl 3 rfl dX10_seen_34 ?_
        refine r_icmp_ne O 38 rfl 44 dX10_seen_35 (by decide) (fun hc35 => ?_) (fun hc35 => ?_)
        · rw [if_neg hc35] at hf
          refine r_lv [2, 3, 4, 5, 6, 1, 0] rfl ?_
          exact B44 rec5 hrec5 _ _ _ _ _ _ _ hf
        · rw [if_pos hc35] at hf
          refine r_ild O 40 rfl 0 rfl dX10_seen_38 ?_
          refine r_ild_n O 41 rfl 4 rfl dX10_seen_40 ?_
          refine r_icmp_eq O 44 rfl 65 dX10_seen_41 (by decide) (fun hc41 => ?_) (fun hc41 => ?_)
          · rw [if_pos hc41] at hf
            refine r_lv [2, 3, 4, 5, 6] rfl ?_
            exact B65 rec5 hrec5 _ _ _ _ _ hf
          · rw [if_neg hc41] at hf
            refine r_lv [2, 3, 4, 5, 6, 1, 0] rfl ?_
            exact B44 rec5 hrec5 _ _ _ _ _ _ _ hf
  unfold fX10_seen at hf
  refine r_ic O 1 rfl 0 (by decide) dX10_seen_0 ?_
  refine r_ist_n O 2 rfl rfl [(3, .int 0), (0, .ref (h_t 0)), (1, .int a1), (2, .int a2)] dX10_seen_1 (by decide) rfl ?_
  refine r_ic O 3 rfl 0 (by decide) dX10_seen_2 ?_
  refine r_ist O 5 rfl [(4, .int 0), (3, .int 0), (0, .ref (h_t 0)), (1, .int a1), (2, .int a2)] dX10_seen_3 (by decide) rfl ?_
  refine r_lv [2, 3, 4, 1, 0] rfl ?_
  exact B5 FU _ _ _ _ _ hf
-- X10_seenPoints
def rmX10_seenPoints : Room := { frames := 6, cells := 0, slots := 0, locals := 144 }
set_option maxHeartbeats 4000000 in
set_option maxRecDepth 100000 in
theorem zX10_seenPoints {l : Launch} {D : va_G} {cI cZ cQ : ClassId} {h_t : Nat → Nat} {u_t : Pk} {a1 : Int32} {a2 : Int32} {r0 : Int32} {v_t : Pk} (hf : fX10_seenPoints u_t a1 a2 = some (r0, v_t)) : MI l yX10_seenPoints wsX10_seenPoints rmX10_seenPoints D (TY cI cZ cQ) [.ref (h_t 0), .int a1, .int a2] [nX10 cI cZ cQ h_t u_t] r0 [nX10 cI cZ cQ h_t v_t] := by
  refine MI.of (own := RX10) (by decide +kernel) rfl rfl (Nat.le_of_ble_eq_true rfl) (lv0 := [(0, .ref (h_t 0)), (1, .int a1), (2, .int a2)]) rfl ?_
  intro X O E
  unfold fX10_seenPoints at hf
  refine r_ild_n O 1 rfl 1 rfl dX10_seenPoints_0 ?_
  refine r_ild_n O 2 rfl 2 rfl dX10_seenPoints_1 ?_
  obtain ⟨x2, hq2, hf⟩ := qb1_some hf
  refine k_SZ O 5 rfl (zX10_isPoint (l := xl X) (D := xD X) (cI := cI) (cZ := cZ) (cQ := cQ) hq2) (gS mlX10_297 mvX10_isPoint izX10) rfl rfl rfl hdX10_isPoint ⟨Nat.le_of_ble_eq_true rfl, Nat.le_of_ble_eq_true rfl⟩ rfl rfl (Nat.le_of_ble_eq_true rfl) ⟨Nat.zero_le _, Nat.zero_le _⟩ [] rfl rfl rfl ([nX10 cI cZ cQ h_t u_t]) rfl dX10_seenPoints_2 (fun hz2 => ?_)
  refine r_if_eq O 8 rfl 17 dX10_seenPoints_5 (by decide) (fun hc5 => ?_) (fun hc5 => ?_)
  · rw [if_pos hc5] at hf
    refine r_bi O 19 rfl (-2) (by decide) dX10_seenPoints_17 ?_
    obtain ⟨g0, g1⟩ := qe2 hf
    exact r_iret2 O E g0 (by rw [g1]) dX10_seenPoints_19
  · rw [if_neg hc5] at hf
    refine r_ald_n O 9 rfl 0 rfl dX10_seenPoints_8 ?_
    refine r_ild_n O 10 rfl 1 rfl dX10_seenPoints_9 ?_
    refine r_ild_n O 11 rfl 2 rfl dX10_seenPoints_10 ?_
    obtain ⟨x11, p11_t, hq11, hf⟩ := qb2_some hf
    refine k_VI O 14 rfl (zX10_seen (l := xl X) (D := xD X) (cI := cI) (cZ := cZ) (cQ := cQ) (h_t := h_t) hq11) (gV mlX10_364 mvX10_seen izX10) rfl rfl rfl hdX10_seen ⟨Nat.le_of_ble_eq_true rfl, Nat.le_of_ble_eq_true rfl⟩ rfl 0 rfl rfl rfl rfl (Nat.le_of_ble_eq_true rfl) ⟨Nat.zero_le _, Nat.zero_le _⟩ [0] rfl rfl rfl ([nX10 cI cZ cQ h_t p11_t]) rfl dX10_seenPoints_11 ?_
    refine r_goto O 19 dX10_seenPoints_14 (by decide) ?_
    obtain ⟨g0, g1⟩ := qe2 hf
    exact r_iret2 O E g0 (by rw [g1]) dX10_seenPoints_19
-- X10_lookout
def rmX10_lookout : Room := { frames := 6, cells := 0, slots := 0, locals := 144 }
set_option maxHeartbeats 4000000 in
set_option maxRecDepth 100000 in
theorem zX10_lookout {l : Launch} {D : va_G} {cI cZ cQ : ClassId} {h_t : Nat → Nat} {u_t : Pk} {a1 : Int32} {r0 : Int32} {v_t : Pk} (hf : fX10_lookout u_t a1 = some (r0, v_t)) : MI l yX10_lookout wsX10_lookout rmX10_lookout D (TY cI cZ cQ) [.ref (h_t 0), .int a1] [nX10 cI cZ cQ h_t u_t] r0 [nX10 cI cZ cQ h_t v_t] := by
  refine MI.of (own := RX10) (by decide +kernel) rfl rfl (Nat.le_of_ble_eq_true rfl) (lv0 := [(0, .ref (h_t 0)), (1, .int a1)]) rfl ?_
  intro X O E
  have B78 : ∀ (rec19 : Pk → Int32 → Int32 → Int32 → Int32 → Option (Int32 × Pk)), (∀ (w_t : Pk) (y1 : Int32) (y2 : Int32) (y3 : Int32) (y4 : Int32), rec19 w_t y1 y2 y3 y4 = some (r0, v_t) → BK X 6 0 0 19 ([nX10 cI cZ cQ h_t w_t]) [(0, .ref (h_t 0)), (1, .int y1), (2, .int y2), (3, .int y3), (4, .int y4)] []) → ∀ (w_t : Pk) (y1 : Int32) (y2 : Int32) (y3 : Int32) (y4 : Int32), fX10_lookout_b78 rec19 w_t y1 y2 y3 y4 = some (r0, v_t) → BK X 6 0 0 78 ([nX10 cI cZ cQ h_t w_t]) [(0, .ref (h_t 0)), (1, .int y1), (2, .int y2), (3, .int y3), (4, .int y4)] [] := by
    intro rec19 hrec19 w_t y1 y2 y3 y4 hf
    unfold fX10_lookout_b78 at hf
    obtain ⟨x78, ex78, hf⟩ := qn_some hf
    refine r_iinc O 81 rfl x78 4 rfl (by rw [ex78]; rfl) [(4, .int x78), (0, .ref (h_t 0)), (1, .int y1), (2, .int y2), (3, .int y3)] dX10_lookout_78 (by decide) rfl ?_
    refine r_goto O 19 dX10_lookout_81 (by decide) ?_
    refine r_lv [1, 2, 3, 4, 0] rfl ?_
    exact hrec19 _ _ _ _ _ hf
  have B19 : ∀ n : Nat, ∀ (w_t : Pk) (y1 : Int32) (y2 : Int32) (y3 : Int32) (y4 : Int32), fX10_lookout_b19 n w_t y1 y2 y3 y4 = some (r0, v_t) → BK X 6 0 0 19 ([nX10 cI cZ cQ h_t w_t]) [(0, .ref (h_t 0)), (1, .int y1), (2, .int y2), (3, .int y3), (4, .int y4)] [] := by
    intro n
    induction n with
    | zero => exact fun _ _ _ _ _ hf => qno hf
    | succ n hrec19 =>
      intro w_t y1 y2 y3 y4 hf
      have hf : fX10_lookout_b19_s (fX10_lookout_b19 n) w_t y1 y2 y3 y4 = some (r0, v_t) := hf
      generalize fX10_lookout_b19 n = rec19 at hf hrec19
      unfold fX10_lookout_b19_s at hf
      refine r_ild O 21 rfl 4 rfl dX10_lookout_19 ?_
      refine r_bi O 23 rfl 64 (by decide) dX10_lookout_21 ?_
      refine r_icmp_ge O 26 rfl 84 dX10_lookout_23 (by decide) (fun hc23 => ?_) (fun hc23 => ?_)
      · rw [if_pos hc23] at hf
        refine r_ild_n O 85 rfl 1 rfl dX10_lookout_84 ?_
        refine r_if_ne O 88 rfl 92 dX10_lookout_85 (by decide) (fun hc85 => ?_) (fun hc85 => ?_)
        · rw [if_neg hc85] at hf
          refine r_ild_n O 93 rfl 3 rfl dX10_lookout_92 ?_
          obtain ⟨g0, g1⟩ := qe2 hf
          exact r_iret2 O E g0 (by rw [g1]) dX10_lookout_93
        · rw [if_pos hc85] at hf
          refine r_ild_n O 89 rfl 2 rfl dX10_lookout_88 ?_
          refine r_goto O 93 dX10_lookout_89 (by decide) ?_
          obtain ⟨g0, g1⟩ := qe2 hf
          exact r_iret2 O E g0 (by rw [g1]) dX10_lookout_93
      · rw [if_neg hc23] at hf
        refine r_ald_n O 27 rfl 0 rfl dX10_lookout_26 ?_
        refine r_bi O 29 rfl 8 (by decide) dX10_lookout_27 ?_
        refine r_ild O 31 rfl 4 rfl dX10_lookout_29 ?_
        refine r_bi O 33 rfl 8 (by decide) dX10_lookout_31 ?_
        obtain ⟨hne33, hf⟩ := qnzi_some hf
        refine r_idiv O 34 rfl dX10_lookout_33 hne33 ?_
        refine r_imul O 35 rfl dX10_lookout_34 ?_
        refine r_bi O 37 rfl 8 (by decide) dX10_lookout_35 ?_
        refine r_ild O 39 rfl 4 rfl dX10_lookout_37 ?_
        refine r_bi O 41 rfl 8 (by decide) dX10_lookout_39 ?_
        obtain ⟨hne41, hf⟩ := qnzi_some hf
        refine r_irem O 42 rfl dX10_lookout_41 hne41 ?_
        refine r_imul O 43 rfl dX10_lookout_42 ?_
        obtain ⟨x43, p43_t, hq43, hf⟩ := qb2_some hf
        refine k_VI O 46 rfl (zX10_seen (l := xl X) (D := xD X) (cI := cI) (cZ := cZ) (cQ := cQ) (h_t := h_t) hq43) (gV mlX10_364 mvX10_seen izX10) rfl rfl rfl hdX10_seen ⟨Nat.le_of_ble_eq_true rfl, Nat.le_of_ble_eq_true rfl⟩ rfl 0 rfl rfl rfl rfl (Nat.le_of_ble_eq_true rfl) ⟨Nat.zero_le _, Nat.zero_le _⟩ [0] rfl rfl rfl ([nX10 cI cZ cQ h_t p43_t]) rfl dX10_lookout_43 ?_
        refine r_ist O 48 rfl [(5, .int x43), (0, .ref (h_t 0)), (1, .int y1), (2, .int y2), (3, .int y3), (4, .int y4)] dX10_lookout_46 (by decide) rfl ?_
        refine r_ild O 50 rfl 0 rfl dX10_lookout_48 ?_
        refine r_ild_n O 51 rfl 4 rfl dX10_lookout_50 ?_
        refine r_icmp_le O 54 rfl 78 dX10_lookout_51 (by decide) (fun hc51 => ?_) (fun hc51 => ?_)
        · rw [if_pos hc51] at hf
          refine r_lv [1, 2, 3, 4, 5] rfl ?_
          exact B78 rec19 hrec19 _ _ _ _ _ hf
        · rw [if_neg hc51] at hf
          refine r_ild O 56 rfl 0 rfl dX10_lookout_54 ?_
          refine r_ist_n O 57 rfl rfl [(3, .int x43), (5, .int x43), (0, .ref (h_t 0)), (1, .int y1), (2, .int y2), (4, .int y4)] dX10_lookout_56 (by decide) rfl ?_
          refine r_bi O 59 rfl 64 (by decide) dX10_lookout_57 ?_
          refine r_bi O 61 rfl 8 (by decide) dX10_lookout_59 ?_
          refine r_ild O 63 rfl 5 rfl dX10_lookout_61 ?_
          refine r_bi O 65 rfl 8 (by decide) dX10_lookout_63 ?_
          obtain ⟨hne65, hf⟩ := qnzi_some hf
          refine r_idiv O 66 rfl dX10_lookout_65 hne65 ?_
          refine r_imul O 67 rfl dX10_lookout_66 ?_
          refine r_imul O 68 rfl dX10_lookout_67 ?_
          refine r_bi O 70 rfl 8 (by decide) dX10_lookout_68 ?_
          refine r_ild O 72 rfl 5 rfl dX10_lookout_70 ?_
          refine r_bi O 74 rfl 8 (by decide) dX10_lookout_72 ?_
          obtain ⟨hne74, hf⟩ := qnzi_some hf
          refine r_irem O 75 rfl dX10_lookout_74 hne74 ?_
          refine r_imul O 76 rfl dX10_lookout_75 ?_
          refine r_iadd O 77 rfl dX10_lookout_76 ?_
          obtain ⟨x77, ex77, hf⟩ := qn_some hf
          rw [← ex77]
          refine r_ist_n O 78 rfl rfl [(2, .int x77), (3, .int x43), (5, .int x43), (0, .ref (h_t 0)), (1, .int y1), (4, .int y4)] dX10_lookout_77 (by decide) rfl ?_
          refine r_lv [3, 4, 0, 1, 5] rfl ?_
          exact B78 rec19 hrec19 _ _ _ _ _ hf
  unfold fX10_lookout at hf
  refine r_ild_n O 1 rfl 1 rfl dX10_lookout_0 ?_
  refine r_if_lt O 4 rfl 9 dX10_lookout_1 (by decide) (fun hc1 => ?_) (fun hc1 => ?_)
  · rw [if_pos hc1] at hf
    refine r_bi O 11 rfl (-2) (by decide) dX10_lookout_9 ?_
    obtain ⟨g0, g1⟩ := qe2 hf
    exact r_iret2 O E g0 (by rw [g1]) dX10_lookout_11
  · rw [if_neg hc1] at hf
    refine r_ild_n O 5 rfl 1 rfl dX10_lookout_4 ?_
    refine r_ic O 6 rfl 1 (by decide) dX10_lookout_5 ?_
    refine r_icmp_le O 9 rfl 12 dX10_lookout_6 (by decide) (fun hc6 => ?_) (fun hc6 => ?_)
    · rw [if_pos hc6] at hf
      refine r_ic O 13 rfl 0 (by decide) dX10_lookout_12 ?_
      refine r_ist_n O 14 rfl rfl [(2, .int 0), (0, .ref (h_t 0)), (1, .int a1)] dX10_lookout_13 (by decide) rfl ?_
      refine r_ic O 15 rfl (-1) (by decide) dX10_lookout_14 ?_
      refine r_ist_n O 16 rfl rfl [(3, .int (-1)), (2, .int 0), (0, .ref (h_t 0)), (1, .int a1)] dX10_lookout_15 (by decide) rfl ?_
      refine r_ic O 17 rfl 0 (by decide) dX10_lookout_16 ?_
      refine r_ist O 19 rfl [(4, .int 0), (3, .int (-1)), (2, .int 0), (0, .ref (h_t 0)), (1, .int a1)] dX10_lookout_17 (by decide) rfl ?_
      refine r_lv [3, 4, 2, 1, 0] rfl ?_
      exact B19 FU _ _ _ _ _ hf
    · rw [if_neg hc6] at hf
      refine r_bi O 11 rfl (-2) (by decide) dX10_lookout_9 ?_
      obtain ⟨g0, g1⟩ := qe2 hf
      exact r_iret2 O E g0 (by rw [g1]) dX10_lookout_11
-- X10_mayGo
def rmX10_mayGo : Room := { frames := 5, cells := 0, slots := 0, locals := 118 }
set_option maxHeartbeats 4000000 in
set_option maxRecDepth 100000 in
theorem zX10_mayGo {l : Launch} {D : va_G} {cI cZ cQ : ClassId} {h_t : Nat → Nat} {u_t : Pk} {a1 : Int32} {a2 : Int32} {a3 : Int32} {a4 : Int32} {r0 : Int32} {v_t : Pk} (hf : fX10_mayGo u_t a1 a2 a3 a4 = some (r0, v_t)) : MZ l yX10_mayGo wsX10_mayGo rmX10_mayGo D (TY cI cZ cQ) [.ref (h_t 0), .int a1, .int a2, .int a3, .int a4] [nX10 cI cZ cQ h_t u_t] r0 [nX10 cI cZ cQ h_t v_t] := by
  refine MZ.of (own := RX10) (by decide +kernel) rfl rfl (Nat.le_of_ble_eq_true rfl) (lv0 := [(0, .ref (h_t 0)), (1, .int a1), (2, .int a2), (3, .int a3), (4, .int a4)]) rfl ?_
  intro X O E
  have B9 : ∀ (w_t : Pk) (y1 : Int32) (y2 : Int32) (y3 : Int32) (y4 : Int32), fX10_mayGo_b9 w_t y1 y2 y3 y4 = some (r0, v_t) → BK X 5 0 0 9 ([nX10 cI cZ cQ h_t w_t]) [(0, .ref (h_t 0)), (1, .int y1), (2, .int y2), (3, .int y3), (4, .int y4)] [] := by
    intro w_t y1 y2 y3 y4 hf
    unfold fX10_mayGo_b9 at hf
    refine r_ild_n O 10 rfl 1 rfl dX10_mayGo_9 ?_
    refine r_ild_n O 11 rfl 3 rfl dX10_mayGo_10 ?_
    refine r_iadd O 12 rfl dX10_mayGo_11 ?_
    refine r_ild_n O 13 rfl 2 rfl dX10_mayGo_12 ?_
    refine r_ild O 15 rfl 4 rfl dX10_mayGo_13 ?_
    refine r_iadd O 16 rfl dX10_mayGo_15 ?_
    obtain ⟨x16, hq16, hf⟩ := qb1_some hf
    refine k_SZ O 19 rfl (zX10_isPoint (l := xl X) (D := xD X) (cI := cI) (cZ := cZ) (cQ := cQ) hq16) (gS mlX10_297 mvX10_isPoint izX10) rfl rfl rfl hdX10_isPoint ⟨Nat.le_of_ble_eq_true rfl, Nat.le_of_ble_eq_true rfl⟩ rfl rfl (Nat.le_of_ble_eq_true rfl) ⟨Nat.zero_le _, Nat.zero_le _⟩ [] rfl rfl rfl ([nX10 cI cZ cQ h_t w_t]) rfl dX10_mayGo_16 (fun hz16 => ?_)
    refine r_if_eq O 22 rfl 42 dX10_mayGo_19 (by decide) (fun hc19 => ?_) (fun hc19 => ?_)
    · rw [if_pos hc19] at hf
      refine r_ic O 43 rfl 0 (by decide) dX10_mayGo_42 ?_
      obtain ⟨g0, g1⟩ := qe2 hf
      exact r_zret2 O E g0 (by rw [g1]) rfl dX10_mayGo_43
    · rw [if_neg hc19] at hf
      refine r_ald_n O 23 rfl 0 rfl dX10_mayGo_22 ?_
      refine r_ild_n O 24 rfl 1 rfl dX10_mayGo_23 ?_
      refine r_ild_n O 25 rfl 2 rfl dX10_mayGo_24 ?_
      refine r_ild_n O 26 rfl 1 rfl dX10_mayGo_25 ?_
      refine r_ild_n O 27 rfl 3 rfl dX10_mayGo_26 ?_
      refine r_iadd O 28 rfl dX10_mayGo_27 ?_
      refine r_ild_n O 29 rfl 2 rfl dX10_mayGo_28 ?_
      refine r_ild O 31 rfl 4 rfl dX10_mayGo_29 ?_
      refine r_iadd O 32 rfl dX10_mayGo_31 ?_
      obtain ⟨x32, p32_t, hq32, hf⟩ := qb2_some hf
      refine k_VZ O 35 rfl (zX10_isBlocked (l := xl X) (D := xD X) (cI := cI) (cZ := cZ) (cQ := cQ) (h_t := h_t) hq32) (gV mlX10_357 mvX10_isBlocked izX10) rfl rfl rfl hdX10_isBlocked ⟨Nat.le_of_ble_eq_true rfl, Nat.le_of_ble_eq_true rfl⟩ rfl 0 rfl rfl rfl rfl (Nat.le_of_ble_eq_true rfl) ⟨Nat.zero_le _, Nat.zero_le _⟩ [0] rfl rfl rfl ([nX10 cI cZ cQ h_t p32_t]) rfl dX10_mayGo_32 (fun hz32 => ?_)
      refine r_if_ne O 38 rfl 42 dX10_mayGo_35 (by decide) (fun hc35 => ?_) (fun hc35 => ?_)
      · rw [if_neg hc35] at hf
        refine r_ic O 43 rfl 0 (by decide) dX10_mayGo_42 ?_
        obtain ⟨g0, g1⟩ := qe2 hf
        exact r_zret2 O E g0 (by rw [g1]) rfl dX10_mayGo_43
      · rw [if_pos hc35] at hf
        refine r_ic O 39 rfl 1 (by decide) dX10_mayGo_38 ?_
        refine r_goto O 43 dX10_mayGo_39 (by decide) ?_
        obtain ⟨g0, g1⟩ := qe2 hf
        exact r_zret2 O E g0 (by rw [g1]) rfl dX10_mayGo_43
  unfold fX10_mayGo at hf
  refine r_ild_n O 1 rfl 3 rfl dX10_mayGo_0 ?_
  refine r_if_ne O 4 rfl 9 dX10_mayGo_1 (by decide) (fun hc1 => ?_) (fun hc1 => ?_)
  · rw [if_neg hc1] at hf
    exact B9 _ _ _ _ _ hf
  · rw [if_pos hc1] at hf
    refine r_ild O 6 rfl 4 rfl dX10_mayGo_4 ?_
    refine r_if_eq O 9 rfl 42 dX10_mayGo_6 (by decide) (fun hc6 => ?_) (fun hc6 => ?_)
    · rw [if_pos hc6] at hf
      refine r_ic O 43 rfl 0 (by decide) dX10_mayGo_42 ?_
      obtain ⟨g0, g1⟩ := qe2 hf
      exact r_zret2 O E g0 (by rw [g1]) rfl dX10_mayGo_43
    · rw [if_neg hc6] at hf
      exact B9 _ _ _ _ _ hf
-- X10_walked
def rmX10_walked : Room := { frames := 6, cells := 0, slots := 0, locals := 142 }
set_option maxHeartbeats 4000000 in
set_option maxRecDepth 100000 in
theorem zX10_walked {l : Launch} {D : va_G} {cI cZ cQ : ClassId} {h_t : Nat → Nat} {u_t : Pk} {a1 : Int32} {a2 : Int32} {a3 : Int32} {a4 : Int32} {r0 : Int32} {v_t : Pk} (hf : fX10_walked u_t a1 a2 a3 a4 = some (r0, v_t)) : MI l yX10_walked wsX10_walked rmX10_walked D (TY cI cZ cQ) [.ref (h_t 0), .int a1, .int a2, .int a3, .int a4] [nX10 cI cZ cQ h_t u_t] r0 [nX10 cI cZ cQ h_t v_t] := by
  refine MI.of (own := RX10) (by decide +kernel) rfl rfl (Nat.le_of_ble_eq_true rfl) (lv0 := [(0, .ref (h_t 0)), (1, .int a1), (2, .int a2), (3, .int a3), (4, .int a4)]) rfl ?_
  intro X O E
  unfold fX10_walked at hf
  refine r_ald_n O 1 rfl 0 rfl dX10_walked_0 ?_
  refine r_ild_n O 2 rfl 1 rfl dX10_walked_1 ?_
  refine r_ild_n O 3 rfl 2 rfl dX10_walked_2 ?_
  refine r_ild_n O 4 rfl 3 rfl dX10_walked_3 ?_
  refine r_ild O 6 rfl 4 rfl dX10_walked_4 ?_
  obtain ⟨x6, p6_t, hq6, hf⟩ := qb2_some hf
  refine k_VZ O 9 rfl (zX10_mayGo (l := xl X) (D := xD X) (cI := cI) (cZ := cZ) (cQ := cQ) (h_t := h_t) hq6) (gV mlX10_367 mvX10_mayGo izX10) rfl rfl rfl hdX10_mayGo ⟨Nat.le_of_ble_eq_true rfl, Nat.le_of_ble_eq_true rfl⟩ rfl 0 rfl rfl rfl rfl (Nat.le_of_ble_eq_true rfl) ⟨Nat.zero_le _, Nat.zero_le _⟩ [0] rfl rfl rfl ([nX10 cI cZ cQ h_t p6_t]) rfl dX10_walked_6 (fun hz6 => ?_)
  refine r_if_eq O 12 rfl 24 dX10_walked_9 (by decide) (fun hc9 => ?_) (fun hc9 => ?_)
  · rw [if_pos hc9] at hf
    refine r_ald_n O 25 rfl 0 rfl dX10_walked_24 ?_
    refine r_ild_n O 26 rfl 1 rfl dX10_walked_25 ?_
    refine r_ild_n O 27 rfl 2 rfl dX10_walked_26 ?_
    refine r_ild_n O 28 rfl 3 rfl dX10_walked_27 ?_
    refine r_ic O 29 rfl 0 (by decide) dX10_walked_28 ?_
    obtain ⟨x29, p29_t, hq29, hf⟩ := qb2_some hf
    refine k_VZ O 32 rfl (zX10_mayGo (l := xl X) (D := xD X) (cI := cI) (cZ := cZ) (cQ := cQ) (h_t := h_t) hq29) (gV mlX10_367 mvX10_mayGo izX10) rfl rfl rfl hdX10_mayGo ⟨Nat.le_of_ble_eq_true rfl, Nat.le_of_ble_eq_true rfl⟩ rfl 0 rfl rfl rfl rfl (Nat.le_of_ble_eq_true rfl) ⟨Nat.zero_le _, Nat.zero_le _⟩ [0] rfl rfl rfl ([nX10 cI cZ cQ h_t p29_t]) rfl dX10_walked_29 (fun hz29 => ?_)
    refine r_if_eq O 35 rfl 44 dX10_walked_32 (by decide) (fun hc32 => ?_) (fun hc32 => ?_)
    · rw [if_pos hc32] at hf
      refine r_ald_n O 45 rfl 0 rfl dX10_walked_44 ?_
      refine r_ild_n O 46 rfl 1 rfl dX10_walked_45 ?_
      refine r_ild_n O 47 rfl 2 rfl dX10_walked_46 ?_
      refine r_ic O 48 rfl 0 (by decide) dX10_walked_47 ?_
      refine r_ild O 50 rfl 4 rfl dX10_walked_48 ?_
      obtain ⟨x50, p50_t, hq50, hf⟩ := qb2_some hf
      refine k_VZ O 53 rfl (zX10_mayGo (l := xl X) (D := xD X) (cI := cI) (cZ := cZ) (cQ := cQ) (h_t := h_t) hq50) (gV mlX10_367 mvX10_mayGo izX10) rfl rfl rfl hdX10_mayGo ⟨Nat.le_of_ble_eq_true rfl, Nat.le_of_ble_eq_true rfl⟩ rfl 0 rfl rfl rfl rfl (Nat.le_of_ble_eq_true rfl) ⟨Nat.zero_le _, Nat.zero_le _⟩ [0] rfl rfl rfl ([nX10 cI cZ cQ h_t p50_t]) rfl dX10_walked_50 (fun hz50 => ?_)
      refine r_if_eq O 56 rfl 68 dX10_walked_53 (by decide) (fun hc53 => ?_) (fun hc53 => ?_)
      · rw [if_pos hc53] at hf
        refine r_bi O 70 rfl 64 (by decide) dX10_walked_68 ?_
        refine r_ild_n O 71 rfl 1 rfl dX10_walked_70 ?_
        refine r_imul O 72 rfl dX10_walked_71 ?_
        refine r_ild_n O 73 rfl 2 rfl dX10_walked_72 ?_
        refine r_iadd O 74 rfl dX10_walked_73 ?_
        obtain ⟨g0, g1⟩ := qe2 hf
        exact r_iret2 O E g0 (by rw [g1]) dX10_walked_74
      · rw [if_neg hc53] at hf
        refine r_bi O 58 rfl 64 (by decide) dX10_walked_56 ?_
        refine r_ild_n O 59 rfl 1 rfl dX10_walked_58 ?_
        refine r_imul O 60 rfl dX10_walked_59 ?_
        refine r_ild_n O 61 rfl 2 rfl dX10_walked_60 ?_
        refine r_iadd O 62 rfl dX10_walked_61 ?_
        refine r_ild O 64 rfl 4 rfl dX10_walked_62 ?_
        refine r_iadd O 65 rfl dX10_walked_64 ?_
        refine r_goto O 74 dX10_walked_65 (by decide) ?_
        obtain ⟨g0, g1⟩ := qe2 hf
        exact r_iret2 O E g0 (by rw [g1]) dX10_walked_74
    · rw [if_neg hc32] at hf
      refine r_bi O 37 rfl 64 (by decide) dX10_walked_35 ?_
      refine r_ild_n O 38 rfl 1 rfl dX10_walked_37 ?_
      refine r_ild_n O 39 rfl 3 rfl dX10_walked_38 ?_
      refine r_iadd O 40 rfl dX10_walked_39 ?_
      refine r_imul O 41 rfl dX10_walked_40 ?_
      refine r_ild_n O 42 rfl 2 rfl dX10_walked_41 ?_
      refine r_iadd O 43 rfl dX10_walked_42 ?_
      obtain ⟨g0, g1⟩ := qe2 hf
      exact r_iret2 O E g0 (by rw [g1]) dX10_walked_43
  · rw [if_neg hc9] at hf
    refine r_bi O 14 rfl 64 (by decide) dX10_walked_12 ?_
    refine r_ild_n O 15 rfl 1 rfl dX10_walked_14 ?_
    refine r_ild_n O 16 rfl 3 rfl dX10_walked_15 ?_
    refine r_iadd O 17 rfl dX10_walked_16 ?_
    refine r_imul O 18 rfl dX10_walked_17 ?_
    refine r_ild_n O 19 rfl 2 rfl dX10_walked_18 ?_
    refine r_iadd O 20 rfl dX10_walked_19 ?_
    refine r_ild O 22 rfl 4 rfl dX10_walked_20 ?_
    refine r_iadd O 23 rfl dX10_walked_22 ?_
    obtain ⟨g0, g1⟩ := qe2 hf
    exact r_iret2 O E g0 (by rw [g1]) dX10_walked_23
-- X10_walk
def rmX10_walk : Room := { frames := 7, cells := 0, slots := 0, locals := 166 }
set_option maxHeartbeats 4000000 in
set_option maxRecDepth 100000 in
theorem zX10_walk {l : Launch} {D : va_G} {cI cZ cQ : ClassId} {h_t : Nat → Nat} {u_t : Pk} {a1 : Int32} {a2 : Int32} {a3 : Int32} {a4 : Int32} {r0 : Int32} {v_t : Pk} (hf : fX10_walk u_t a1 a2 a3 a4 = some (r0, v_t)) : MI l yX10_walk wsX10_walk rmX10_walk D (TY cI cZ cQ) [.ref (h_t 0), .int a1, .int a2, .int a3, .int a4] [nX10 cI cZ cQ h_t u_t] r0 [nX10 cI cZ cQ h_t v_t] := by
  refine MI.of (own := RX10) (by decide +kernel) rfl rfl (Nat.le_of_ble_eq_true rfl) (lv0 := [(0, .ref (h_t 0)), (1, .int a1), (2, .int a2), (3, .int a3), (4, .int a4)]) rfl ?_
  intro X O E
  unfold fX10_walk at hf
  refine r_ild_n O 1 rfl 1 rfl dX10_walk_0 ?_
  refine r_ild_n O 2 rfl 2 rfl dX10_walk_1 ?_
  obtain ⟨x2, hq2, hf⟩ := qb1_some hf
  refine k_SZ O 5 rfl (zX10_isPoint (l := xl X) (D := xD X) (cI := cI) (cZ := cZ) (cQ := cQ) hq2) (gS mlX10_297 mvX10_isPoint izX10) rfl rfl rfl hdX10_isPoint ⟨Nat.le_of_ble_eq_true rfl, Nat.le_of_ble_eq_true rfl⟩ rfl rfl (Nat.le_of_ble_eq_true rfl) ⟨Nat.zero_le _, Nat.zero_le _⟩ [] rfl rfl rfl ([nX10 cI cZ cQ h_t u_t]) rfl dX10_walk_2 (fun hz2 => ?_)
  refine r_if_eq O 8 rfl 34 dX10_walk_5 (by decide) (fun hc5 => ?_) (fun hc5 => ?_)
  · rw [if_pos hc5] at hf
    refine r_bi O 36 rfl (-2) (by decide) dX10_walk_34 ?_
    obtain ⟨g0, g1⟩ := qe2 hf
    exact r_iret2 O E g0 (by rw [g1]) dX10_walk_36
  · rw [if_neg hc5] at hf
    refine r_ild_n O 9 rfl 3 rfl dX10_walk_8 ?_
    refine r_bi O 11 rfl (-8) (by decide) dX10_walk_9 ?_
    refine r_icmp_lt O 14 rfl 34 dX10_walk_11 (by decide) (fun hc11 => ?_) (fun hc11 => ?_)
    · rw [if_pos hc11] at hf
      refine r_bi O 36 rfl (-2) (by decide) dX10_walk_34 ?_
      obtain ⟨g0, g1⟩ := qe2 hf
      exact r_iret2 O E g0 (by rw [g1]) dX10_walk_36
    · rw [if_neg hc11] at hf
      refine r_ild_n O 15 rfl 3 rfl dX10_walk_14 ?_
      refine r_bi O 17 rfl 8 (by decide) dX10_walk_15 ?_
      refine r_icmp_gt O 20 rfl 34 dX10_walk_17 (by decide) (fun hc17 => ?_) (fun hc17 => ?_)
      · rw [if_pos hc17] at hf
        refine r_bi O 36 rfl (-2) (by decide) dX10_walk_34 ?_
        obtain ⟨g0, g1⟩ := qe2 hf
        exact r_iret2 O E g0 (by rw [g1]) dX10_walk_36
      · rw [if_neg hc17] at hf
        refine r_ild O 22 rfl 4 rfl dX10_walk_20 ?_
        refine r_bi O 24 rfl (-8) (by decide) dX10_walk_22 ?_
        refine r_icmp_lt O 27 rfl 34 dX10_walk_24 (by decide) (fun hc24 => ?_) (fun hc24 => ?_)
        · rw [if_pos hc24] at hf
          refine r_bi O 36 rfl (-2) (by decide) dX10_walk_34 ?_
          obtain ⟨g0, g1⟩ := qe2 hf
          exact r_iret2 O E g0 (by rw [g1]) dX10_walk_36
        · rw [if_neg hc24] at hf
          refine r_ild O 29 rfl 4 rfl dX10_walk_27 ?_
          refine r_bi O 31 rfl 8 (by decide) dX10_walk_29 ?_
          refine r_icmp_le O 34 rfl 37 dX10_walk_31 (by decide) (fun hc31 => ?_) (fun hc31 => ?_)
          · rw [if_pos hc31] at hf
            refine r_ald_n O 38 rfl 0 rfl dX10_walk_37 ?_
            refine r_ild_n O 39 rfl 1 rfl dX10_walk_38 ?_
            refine r_ild_n O 40 rfl 2 rfl dX10_walk_39 ?_
            refine r_ild_n O 41 rfl 3 rfl dX10_walk_40 ?_
            refine r_ild O 43 rfl 4 rfl dX10_walk_41 ?_
            obtain ⟨x43, p43_t, hq43, hf⟩ := qb2_some hf
            refine k_VI O 46 rfl (zX10_walked (l := xl X) (D := xD X) (cI := cI) (cZ := cZ) (cQ := cQ) (h_t := h_t) hq43) (gV mlX10_370 mvX10_walked izX10) rfl rfl rfl hdX10_walked ⟨Nat.le_of_ble_eq_true rfl, Nat.le_of_ble_eq_true rfl⟩ rfl 0 rfl rfl rfl rfl (Nat.le_of_ble_eq_true rfl) ⟨Nat.zero_le _, Nat.zero_le _⟩ [0] rfl rfl rfl ([nX10 cI cZ cQ h_t p43_t]) rfl dX10_walk_43 ?_
            obtain ⟨g0, g1⟩ := qe2 hf
            exact r_iret2 O E g0 (by rw [g1]) dX10_walk_46
          · rw [if_neg hc31] at hf
            refine r_bi O 36 rfl (-2) (by decide) dX10_walk_34 ?_
            obtain ⟨g0, g1⟩ := qe2 hf
            exact r_iret2 O E g0 (by rw [g1]) dX10_walk_36
-- X10_wander
def rmX10_wander : Room := { frames := 7, cells := 0, slots := 0, locals := 166 }
set_option maxHeartbeats 4000000 in
set_option maxRecDepth 100000 in
theorem zX10_wander {l : Launch} {D : va_G} {cI cZ cQ : ClassId} {h_t : Nat → Nat} {u_t : Pk} {a1 : Int32} {a2 : Int32} {a3 : Int32} {a4 : Int32} {r0 : Int32} {v_t : Pk} (hf : fX10_wander u_t a1 a2 a3 a4 = some (r0, v_t)) : MI l yX10_wander wsX10_wander rmX10_wander D (TY cI cZ cQ) [.ref (h_t 0), .int a1, .int a2, .int a3, .int a4] [nX10 cI cZ cQ h_t u_t] r0 [nX10 cI cZ cQ h_t v_t] := by
  refine MI.of (own := RX10) (by decide +kernel) rfl rfl (Nat.le_of_ble_eq_true rfl) (lv0 := [(0, .ref (h_t 0)), (1, .int a1), (2, .int a2), (3, .int a3), (4, .int a4)]) rfl ?_
  intro X O E
  have B43 : ∀ n : Nat, ∀ (w_t : Pk) (y4 : Int32) (y5 : Int32) (y6 : Int64) (y8 : Int32), fX10_wander_b43 n w_t y4 y5 y6 y8 = some (r0, v_t) → BK X 11 0 0 43 ([nX10 cI cZ cQ h_t w_t]) [(0, .ref (h_t 0)), (4, .int y4), (5, .int y5), (6, .long y6), (8, .int y8)] [] := by
    intro n
    induction n with
    | zero => exact fun _ _ _ _ _ hf => qno hf
    | succ n hrec43 =>
      intro w_t y4 y5 y6 y8 hf
      have hf : fX10_wander_b43_s (fX10_wander_b43 n) w_t y4 y5 y6 y8 = some (r0, v_t) := hf
      generalize fX10_wander_b43 n = rec43 at hf hrec43
      unfold fX10_wander_b43_s at hf
      refine r_ild O 45 rfl 4 rfl dX10_wander_43 ?_
      refine r_ild O 47 rfl 1 rfl dX10_wander_45 ?_
      refine r_icmp_ge O 50 rfl 138 dX10_wander_47 (by decide) (fun hc47 => ?_) (fun hc47 => ?_)
      · rw [if_pos hc47] at hf
        refine r_ild O 140 rfl 2 rfl dX10_wander_138 ?_
        obtain ⟨g0, g1⟩ := qe2 hf
        exact r_iret2 O E g0 (by rw [g1]) dX10_wander_140
      · rw [if_neg hc47] at hf
        refine r_ldcl O 53 rfl (v := 1103515245) clX10_373 dX10_wander_50 ?_
        refine r_lld O 55 rfl 3 rfl dX10_wander_53 ?_
        refine r_lmul O 56 rfl dX10_wander_55 ?_
        refine r_ldcl O 59 rfl (v := 12345) clX10_375 dX10_wander_56 ?_
        refine r_ladd O 60 rfl dX10_wander_59 ?_
        refine r_ldcl O 63 rfl (v := 2147483648) clX10_377 dX10_wander_60 ?_
        obtain ⟨hne63, hf⟩ := qnzl_some hf
        refine r_lrem O 64 rfl dX10_wander_63 hne63 ?_
        obtain ⟨x64, ex64, hf⟩ := qn_some hf
        rw [← ex64]
        refine r_lst O 66 rfl [(6, .long x64), (0, .ref (h_t 0)), (4, .int y4), (5, .int y5), (8, .int y8)] dX10_wander_64 (by decide) rfl ?_
        refine r_lld O 68 rfl 0 rfl dX10_wander_66 ?_
        refine r_ldcl O 71 rfl (v := 65536) clX10_379 dX10_wander_68 ?_
        obtain ⟨hne71, hf⟩ := qnzl_some hf
        refine r_ldiv O 72 rfl dX10_wander_71 hne71 ?_
        refine r_ldcl O 75 rfl (v := 7) clX10_381 dX10_wander_72 ?_
        obtain ⟨hne75, hf⟩ := qnzl_some hf
        refine r_lrem O 76 rfl dX10_wander_75 hne75 ?_
        refine r_l2i O 77 rfl dX10_wander_76 ?_
        refine r_ic O 78 rfl 3 (by decide) dX10_wander_77 ?_
        refine r_isub O 79 rfl dX10_wander_78 ?_
        obtain ⟨x79, ex79, hf⟩ := qn_some hf
        rw [← ex79]
        refine r_ist O 81 rfl [(9, .int x79), (6, .long x64), (0, .ref (h_t 0)), (4, .int y4), (5, .int y5), (8, .int y8)] dX10_wander_79 (by decide) rfl ?_
        refine r_ldcl O 84 rfl (v := 1103515245) clX10_373 dX10_wander_81 ?_
        refine r_lld O 86 rfl 1 rfl dX10_wander_84 ?_
        refine r_lmul O 87 rfl dX10_wander_86 ?_
        refine r_ldcl O 90 rfl (v := 12345) clX10_375 dX10_wander_87 ?_
        refine r_ladd O 91 rfl dX10_wander_90 ?_
        refine r_ldcl O 94 rfl (v := 2147483648) clX10_377 dX10_wander_91 ?_
        obtain ⟨hne94, hf⟩ := qnzl_some hf
        refine r_lrem O 95 rfl dX10_wander_94 hne94 ?_
        obtain ⟨x95, ex95, hf⟩ := qn_some hf
        rw [← ex95]
        refine r_lst O 97 rfl [(6, .long x95), (9, .int x79), (0, .ref (h_t 0)), (4, .int y4), (5, .int y5), (8, .int y8)] dX10_wander_95 (by decide) rfl ?_
        refine r_lld O 99 rfl 0 rfl dX10_wander_97 ?_
        refine r_ldcl O 102 rfl (v := 65536) clX10_379 dX10_wander_99 ?_
        obtain ⟨hne102, hf⟩ := qnzl_some hf
        refine r_ldiv O 103 rfl dX10_wander_102 hne102 ?_
        refine r_ldcl O 106 rfl (v := 7) clX10_381 dX10_wander_103 ?_
        obtain ⟨hne106, hf⟩ := qnzl_some hf
        refine r_lrem O 107 rfl dX10_wander_106 hne106 ?_
        refine r_l2i O 108 rfl dX10_wander_107 ?_
        refine r_ic O 109 rfl 3 (by decide) dX10_wander_108 ?_
        refine r_isub O 110 rfl dX10_wander_109 ?_
        obtain ⟨x110, ex110, hf⟩ := qn_some hf
        rw [← ex110]
        refine r_ist O 112 rfl [(10, .int x110), (6, .long x95), (9, .int x79), (0, .ref (h_t 0)), (4, .int y4), (5, .int y5), (8, .int y8)] dX10_wander_110 (by decide) rfl ?_
        refine r_ald_n O 113 rfl 3 rfl dX10_wander_112 ?_
        refine r_ild O 115 rfl 5 rfl dX10_wander_113 ?_
        refine r_bi O 117 rfl 64 (by decide) dX10_wander_115 ?_
        obtain ⟨hne117, hf⟩ := qnzi_some hf
        refine r_idiv O 118 rfl dX10_wander_117 hne117 ?_
        refine r_ild O 120 rfl 5 rfl dX10_wander_118 ?_
        refine r_bi O 122 rfl 64 (by decide) dX10_wander_120 ?_
        obtain ⟨hne122, hf⟩ := qnzi_some hf
        refine r_irem O 123 rfl dX10_wander_122 hne122 ?_
        refine r_ild O 125 rfl 2 rfl dX10_wander_123 ?_
        refine r_ild O 127 rfl 0 rfl dX10_wander_125 ?_
        obtain ⟨x127, p127_t, hq127, hf⟩ := qb2_some hf
        refine k_VI O 130 rfl (zX10_walked (l := xl X) (D := xD X) (cI := cI) (cZ := cZ) (cQ := cQ) (h_t := h_t) hq127) (gV mlX10_370 mvX10_walked izX10) rfl rfl rfl hdX10_walked ⟨Nat.le_of_ble_eq_true rfl, Nat.le_of_ble_eq_true rfl⟩ rfl 0 rfl rfl rfl rfl (Nat.le_of_ble_eq_true rfl) ⟨Nat.zero_le _, Nat.zero_le _⟩ [0] rfl rfl rfl ([nX10 cI cZ cQ h_t p127_t]) rfl dX10_wander_127 ?_
        refine r_ist O 132 rfl [(5, .int x127), (10, .int x110), (6, .long x95), (9, .int x79), (0, .ref (h_t 0)), (4, .int y4), (8, .int y8)] dX10_wander_130 (by decide) rfl ?_
        obtain ⟨x132, ex132, hf⟩ := qn_some hf
        refine r_iinc O 135 rfl x132 6 rfl (by rw [ex132]; rfl) [(8, .int x132), (5, .int x127), (10, .int x110), (6, .long x95), (9, .int x79), (0, .ref (h_t 0)), (4, .int y4)] dX10_wander_132 (by decide) rfl ?_
        refine r_goto O 43 dX10_wander_135 (by decide) ?_
        refine r_lv [5, 6, 1, 3, 0] rfl ?_
        exact hrec43 _ _ _ _ _ hf
  unfold fX10_wander at hf
  refine r_ild_n O 1 rfl 1 rfl dX10_wander_0 ?_
  refine r_ild_n O 2 rfl 2 rfl dX10_wander_1 ?_
  obtain ⟨x2, hq2, hf⟩ := qb1_some hf
  refine k_SZ O 5 rfl (zX10_isPoint (l := xl X) (D := xD X) (cI := cI) (cZ := cZ) (cQ := cQ) hq2) (gS mlX10_297 mvX10_isPoint izX10) rfl rfl rfl hdX10_isPoint ⟨Nat.le_of_ble_eq_true rfl, Nat.le_of_ble_eq_true rfl⟩ rfl rfl (Nat.le_of_ble_eq_true rfl) ⟨Nat.zero_le _, Nat.zero_le _⟩ [] rfl rfl rfl ([nX10 cI cZ cQ h_t u_t]) rfl dX10_wander_2 (fun hz2 => ?_)
  refine r_if_eq O 8 rfl 25 dX10_wander_5 (by decide) (fun hc5 => ?_) (fun hc5 => ?_)
  · rw [if_pos hc5] at hf
    refine r_bi O 27 rfl (-2) (by decide) dX10_wander_25 ?_
    obtain ⟨g0, g1⟩ := qe2 hf
    exact r_iret2 O E g0 (by rw [g1]) dX10_wander_27
  · rw [if_neg hc5] at hf
    refine r_ild_n O 9 rfl 3 rfl dX10_wander_8 ?_
    refine r_if_lt O 12 rfl 25 dX10_wander_9 (by decide) (fun hc9 => ?_) (fun hc9 => ?_)
    · rw [if_pos hc9] at hf
      refine r_bi O 27 rfl (-2) (by decide) dX10_wander_25 ?_
      obtain ⟨g0, g1⟩ := qe2 hf
      exact r_iret2 O E g0 (by rw [g1]) dX10_wander_27
    · rw [if_neg hc9] at hf
      refine r_ild O 14 rfl 4 rfl dX10_wander_12 ?_
      refine r_ic O 15 rfl 1 (by decide) dX10_wander_14 ?_
      refine r_icmp_lt O 18 rfl 25 dX10_wander_15 (by decide) (fun hc15 => ?_) (fun hc15 => ?_)
      · rw [if_pos hc15] at hf
        refine r_bi O 27 rfl (-2) (by decide) dX10_wander_25 ?_
        obtain ⟨g0, g1⟩ := qe2 hf
        exact r_iret2 O E g0 (by rw [g1]) dX10_wander_27
      · rw [if_neg hc15] at hf
        refine r_ild O 20 rfl 4 rfl dX10_wander_18 ?_
        refine r_bi O 22 rfl 60 (by decide) dX10_wander_20 ?_
        refine r_icmp_le O 25 rfl 28 dX10_wander_22 (by decide) (fun hc22 => ?_) (fun hc22 => ?_)
        · rw [if_pos hc22] at hf
          refine r_bi O 30 rfl 64 (by decide) dX10_wander_28 ?_
          refine r_ild_n O 31 rfl 1 rfl dX10_wander_30 ?_
          refine r_imul O 32 rfl dX10_wander_31 ?_
          refine r_ild_n O 33 rfl 2 rfl dX10_wander_32 ?_
          refine r_iadd O 34 rfl dX10_wander_33 ?_
          obtain ⟨x34, ex34, hf⟩ := qn_some hf
          rw [← ex34]
          refine r_ist O 36 rfl [(5, .int x34), (0, .ref (h_t 0)), (1, .int a1), (2, .int a2), (3, .int a3), (4, .int a4)] dX10_wander_34 (by decide) rfl ?_
          refine r_ild_n O 37 rfl 4 rfl dX10_wander_36 ?_
          refine r_i2l O 38 rfl dX10_wander_37 ?_
          obtain ⟨x38, ex38, hf⟩ := qn_some hf
          rw [← ex38]
          refine r_lst O 40 rfl [(6, .long x38), (5, .int x34), (0, .ref (h_t 0)), (1, .int a1), (2, .int a2), (3, .int a3), (4, .int a4)] dX10_wander_38 (by decide) rfl ?_
          refine r_ic O 41 rfl 0 (by decide) dX10_wander_40 ?_
          refine r_ist O 43 rfl [(8, .int 0), (6, .long x38), (5, .int x34), (0, .ref (h_t 0)), (1, .int a1), (2, .int a2), (3, .int a3), (4, .int a4)] dX10_wander_41 (by decide) rfl ?_
          refine r_lv [3, 7, 2, 1, 0] rfl ?_
          exact B43 FU _ _ _ _ _ hf
        · rw [if_neg hc22] at hf
          refine r_bi O 27 rfl (-2) (by decide) dX10_wander_25 ?_
          obtain ⟨g0, g1⟩ := qe2 hf
          exact r_iret2 O E g0 (by rw [g1]) dX10_wander_27
-- X10_away
def rmX10_away : Room := { frames := 2, cells := 0, slots := 0, locals := 45 }
set_option maxHeartbeats 4000000 in
set_option maxRecDepth 100000 in
theorem zX10_away {l : Launch} {D : va_G} {cI cZ cQ : ClassId} {h_t : Nat → Nat} {u_t : Pk} {a1 : Int32} {a2 : Int32} {a3 : Int32} {v_t : Pk} (hf : fX10_away u_t a1 a2 a3 = some v_t) : MV l yX10_away wsX10_away rmX10_away D (TY cI cZ cQ) [.ref (h_t 0), .int a1, .int a2, .int a3] [nX10 cI cZ cQ h_t u_t] [nX10 cI cZ cQ h_t v_t] := by
  refine MV.of (own := RX10) (by decide +kernel) rfl rfl (Nat.le_of_ble_eq_true rfl) (lv0 := [(0, .ref (h_t 0)), (1, .int a1), (2, .int a2), (3, .int a3)]) rfl ?_
  intro X O E
  unfold fX10_away at hf
  refine r_ald_n O 1 rfl 0 rfl dX10_away_0 ?_
  refine r_ild_n O 2 rfl 1 rfl dX10_away_1 ?_
  refine r_ic O 3 rfl 3 (by decide) dX10_away_2 ?_
  obtain ⟨x3, hq3, hf⟩ := qb1_some hf
  refine k_VI O 6 rfl (zX10_at (l := xl X) (D := xD X) (cI := cI) (cZ := cZ) (cQ := cQ) (h_t := h_t) hq3) (gV mlX10_129 mvX10_at izX10) rfl rfl rfl hdX10_at ⟨Nat.le_of_ble_eq_true rfl, Nat.le_of_ble_eq_true rfl⟩ rfl 0 rfl rfl rfl rfl (Nat.le_of_ble_eq_true rfl) ⟨Nat.zero_le _, Nat.zero_le _⟩ [0] rfl rfl rfl ([nX10 cI cZ cQ h_t u_t]) rfl dX10_away_3 ?_
  refine r_ald_n O 7 rfl 0 rfl dX10_away_6 ?_
  refine r_ild_n O 8 rfl 1 rfl dX10_away_7 ?_
  refine r_ic O 9 rfl 1 (by decide) dX10_away_8 ?_
  obtain ⟨x9, hq9, hf⟩ := qb1_some hf
  refine k_VI O 12 rfl (zX10_at (l := xl X) (D := xD X) (cI := cI) (cZ := cZ) (cQ := cQ) (h_t := h_t) hq9) (gV mlX10_129 mvX10_at izX10) rfl rfl rfl hdX10_at ⟨Nat.le_of_ble_eq_true rfl, Nat.le_of_ble_eq_true rfl⟩ rfl 0 rfl rfl rfl rfl (Nat.le_of_ble_eq_true rfl) ⟨Nat.zero_le _, Nat.zero_le _⟩ [0] rfl rfl rfl ([nX10 cI cZ cQ h_t u_t]) rfl dX10_away_9 ?_
  refine r_isub O 13 rfl dX10_away_12 ?_
  refine r_i2l O 14 rfl dX10_away_13 ?_
  obtain ⟨x14, ex14, hf⟩ := qn_some hf
  rw [← ex14]
  refine r_lst O 16 rfl [(4, .long x14), (0, .ref (h_t 0)), (1, .int a1), (2, .int a2), (3, .int a3)] dX10_away_14 (by decide) rfl ?_
  refine r_ald_n O 17 rfl 1 rfl dX10_away_16 ?_
  refine r_ild_n O 18 rfl 2 rfl dX10_away_17 ?_
  refine r_ic O 19 rfl 4 (by decide) dX10_away_18 ?_
  obtain ⟨x19, hq19, hf⟩ := qb1_some hf
  refine k_VI O 22 rfl (zX10_at (l := xl X) (D := xD X) (cI := cI) (cZ := cZ) (cQ := cQ) (h_t := h_t) hq19) (gV mlX10_129 mvX10_at izX10) rfl rfl rfl hdX10_at ⟨Nat.le_of_ble_eq_true rfl, Nat.le_of_ble_eq_true rfl⟩ rfl 0 rfl rfl rfl rfl (Nat.le_of_ble_eq_true rfl) ⟨Nat.zero_le _, Nat.zero_le _⟩ [0] rfl rfl rfl ([nX10 cI cZ cQ h_t u_t]) rfl dX10_away_19 ?_
  refine r_ald_n O 23 rfl 1 rfl dX10_away_22 ?_
  refine r_ild_n O 24 rfl 2 rfl dX10_away_23 ?_
  refine r_ic O 25 rfl 2 (by decide) dX10_away_24 ?_
  obtain ⟨x25, hq25, hf⟩ := qb1_some hf
  refine k_VI O 28 rfl (zX10_at (l := xl X) (D := xD X) (cI := cI) (cZ := cZ) (cQ := cQ) (h_t := h_t) hq25) (gV mlX10_129 mvX10_at izX10) rfl rfl rfl hdX10_at ⟨Nat.le_of_ble_eq_true rfl, Nat.le_of_ble_eq_true rfl⟩ rfl 0 rfl rfl rfl rfl (Nat.le_of_ble_eq_true rfl) ⟨Nat.zero_le _, Nat.zero_le _⟩ [0] rfl rfl rfl ([nX10 cI cZ cQ h_t u_t]) rfl dX10_away_25 ?_
  refine r_isub O 29 rfl dX10_away_28 ?_
  refine r_i2l O 30 rfl dX10_away_29 ?_
  obtain ⟨x30, ex30, hf⟩ := qn_some hf
  rw [← ex30]
  refine r_lst O 32 rfl [(6, .long x30), (4, .long x14), (0, .ref (h_t 0)), (1, .int a1), (2, .int a2), (3, .int a3)] dX10_away_30 (by decide) rfl ?_
  refine r_ild_n O 33 rfl 4 rfl dX10_away_32 ?_
  refine r_ald_n O 34 rfl 2 rfl dX10_away_33 ?_
  refine r_ild_n O 35 rfl 3 rfl dX10_away_34 ?_
  refine r_ic O 36 rfl 1 (by decide) dX10_away_35 ?_
  obtain ⟨x36, hq36, hf⟩ := qb1_some hf
  refine k_VI O 39 rfl (zX10_at (l := xl X) (D := xD X) (cI := cI) (cZ := cZ) (cQ := cQ) (h_t := h_t) hq36) (gV mlX10_129 mvX10_at izX10) rfl rfl rfl hdX10_at ⟨Nat.le_of_ble_eq_true rfl, Nat.le_of_ble_eq_true rfl⟩ rfl 0 rfl rfl rfl rfl (Nat.le_of_ble_eq_true rfl) ⟨Nat.zero_le _, Nat.zero_le _⟩ [0] rfl rfl rfl ([nX10 cI cZ cQ h_t u_t]) rfl dX10_away_36 ?_
  refine r_isub O 40 rfl dX10_away_39 ?_
  refine r_i2l O 41 rfl dX10_away_40 ?_
  obtain ⟨x41, ex41, hf⟩ := qn_some hf
  rw [← ex41]
  refine r_lst O 43 rfl [(8, .long x41), (6, .long x30), (4, .long x14), (0, .ref (h_t 0)), (1, .int a1), (2, .int a2), (3, .int a3)] dX10_away_41 (by decide) rfl ?_
  refine r_ild_n O 44 rfl 6 rfl dX10_away_43 ?_
  refine r_ald_n O 45 rfl 3 rfl dX10_away_44 ?_
  refine r_ild_n O 46 rfl 4 rfl dX10_away_45 ?_
  refine r_ic O 47 rfl 2 (by decide) dX10_away_46 ?_
  obtain ⟨x47, hq47, hf⟩ := qb1_some hf
  refine k_VI O 50 rfl (zX10_at (l := xl X) (D := xD X) (cI := cI) (cZ := cZ) (cQ := cQ) (h_t := h_t) hq47) (gV mlX10_129 mvX10_at izX10) rfl rfl rfl hdX10_at ⟨Nat.le_of_ble_eq_true rfl, Nat.le_of_ble_eq_true rfl⟩ rfl 0 rfl rfl rfl rfl (Nat.le_of_ble_eq_true rfl) ⟨Nat.zero_le _, Nat.zero_le _⟩ [0] rfl rfl rfl ([nX10 cI cZ cQ h_t u_t]) rfl dX10_away_47 ?_
  refine r_isub O 51 rfl dX10_away_50 ?_
  refine r_i2l O 52 rfl dX10_away_51 ?_
  obtain ⟨x52, ex52, hf⟩ := qn_some hf
  rw [← ex52]
  refine r_lst O 54 rfl [(10, .long x52), (8, .long x41), (6, .long x30), (4, .long x14), (0, .ref (h_t 0)), (1, .int a1), (2, .int a2), (3, .int a3)] dX10_away_52 (by decide) rfl ?_
  refine r_lld O 56 rfl 1 rfl dX10_away_54 ?_
  refine r_lld O 58 rfl 3 rfl dX10_away_56 ?_
  refine r_lmul O 59 rfl dX10_away_58 ?_
  refine r_lld O 61 rfl 0 rfl dX10_away_59 ?_
  refine r_lld O 63 rfl 2 rfl dX10_away_61 ?_
  refine r_lmul O 64 rfl dX10_away_63 ?_
  refine r_ladd O 65 rfl dX10_away_64 ?_
  obtain ⟨x65, ex65, hf⟩ := qn_some hf
  rw [← ex65]
  refine r_lst O 67 rfl [(12, .long x65), (10, .long x52), (8, .long x41), (6, .long x30), (4, .long x14), (0, .ref (h_t 0)), (1, .int a1), (2, .int a2), (3, .int a3)] dX10_away_65 (by decide) rfl ?_
  refine r_lld O 69 rfl 4 rfl dX10_away_67 ?_
  refine r_lld O 71 rfl 4 rfl dX10_away_69 ?_
  refine r_lmul O 72 rfl dX10_away_71 ?_
  refine r_lld O 74 rfl 3 rfl dX10_away_72 ?_
  refine r_lld O 76 rfl 3 rfl dX10_away_74 ?_
  refine r_lmul O 77 rfl dX10_away_76 ?_
  refine r_ladd O 78 rfl dX10_away_77 ?_
  obtain ⟨x78, ex78, hf⟩ := qn_some hf
  rw [← ex78]
  refine r_lst O 80 rfl [(14, .long x78), (12, .long x65), (10, .long x52), (8, .long x41), (6, .long x30), (4, .long x14), (0, .ref (h_t 0)), (1, .int a1), (2, .int a2), (3, .int a3)] dX10_away_78 (by decide) rfl ?_
  refine r_ald_n O 81 rfl 6 rfl dX10_away_80 ?_
  refine r_lc O 82 rfl 1 (by decide) dX10_away_81 ?_
  obtain ⟨p82_t, ep82_t, hf⟩ := qn_some hf
  refine r_put (ref := RX10) (C := RX10) (T := TX10) (N := 70) O 85 rfl inBX10 tyX10 tyX10_ok nmX10 0 58 rfl rfl rfl (by decide) flX10_383 rfl rfl rfl rfl (Nat.le_of_ble_eq_true rfl) ([nX10 cI cZ cQ h_t p82_t]) (by rw [ep82_t]; rfl) dX10_away_82 ?_
  refine r_lld O 87 rfl 1 rfl dX10_away_85 ?_
  refine r_lc O 88 rfl 0 (by decide) dX10_away_87 ?_
  refine r_lcmp O 89 rfl dX10_away_88 ?_
  refine r_if_gt O 92 rfl 110 dX10_away_89 (by decide) (fun hc89 => ?_) (fun hc89 => ?_)
  · rw [if_pos hc89] at hf
    refine r_lld O 112 rfl 1 rfl dX10_away_110 ?_
    refine r_lld O 114 rfl 0 rfl dX10_away_112 ?_
    refine r_lcmp O 115 rfl dX10_away_114 ?_
    refine r_if_lt O 118 rfl 158 dX10_away_115 (by decide) (fun hc115 => ?_) (fun hc115 => ?_)
    · rw [if_pos hc115] at hf
      refine r_ald_n O 159 rfl 6 rfl dX10_away_158 ?_
      refine r_ild_n O 160 rfl 7 rfl dX10_away_159 ?_
      refine r_ild_n O 161 rfl 8 rfl dX10_away_160 ?_
      refine r_ild_n O 162 rfl 9 rfl dX10_away_161 ?_
      obtain ⟨x162, hq162, hf⟩ := qb1_some hf
      refine k_VI O 165 rfl (zX10_side (l := xl X) (D := xD X) (cI := cI) (cZ := cZ) (cQ := cQ) (h_t := h_t) hq162) (gV mlX10_183 mvX10_side izX10) rfl rfl rfl hdX10_side ⟨Nat.le_of_ble_eq_true rfl, Nat.le_of_ble_eq_true rfl⟩ rfl 0 rfl rfl rfl rfl (Nat.le_of_ble_eq_true rfl) ⟨Nat.zero_le _, Nat.zero_le _⟩ [0] rfl rfl rfl ([nX10 cI cZ cQ h_t p82_t]) rfl dX10_away_162 ?_
      refine r_i2l O 166 rfl dX10_away_165 ?_
      obtain ⟨x166, ex166, hf⟩ := qn_some hf
      rw [← ex166]
      refine r_lst O 168 rfl [(16, .long x166), (14, .long x78), (12, .long x65), (10, .long x52), (8, .long x41), (6, .long x30), (4, .long x14), (0, .ref (h_t 0)), (1, .int a1), (2, .int a2), (3, .int a3)] dX10_away_166 (by decide) rfl ?_
      refine r_ald_n O 169 rfl 7 rfl dX10_away_168 ?_
      refine r_lld O 171 rfl 0 rfl dX10_away_169 ?_
      refine r_lld O 173 rfl 0 rfl dX10_away_171 ?_
      refine r_lmul O 174 rfl dX10_away_173 ?_
      obtain ⟨p174_t, ep174_t, hf⟩ := qn_some hf
      refine r_put (ref := RX10) (C := RX10) (T := TX10) (N := 70) O 177 rfl inBX10 tyX10 tyX10_ok nmX10 0 57 rfl rfl rfl (by decide) flX10_386 rfl rfl rfl rfl (Nat.le_of_ble_eq_true rfl) ([nX10 cI cZ cQ h_t p174_t]) (by rw [ep174_t]; rfl) dX10_away_174 ?_
      refine r_ald_n O 178 rfl 7 rfl dX10_away_177 ?_
      refine r_lld O 180 rfl 1 rfl dX10_away_178 ?_
      obtain ⟨p180_t, ep180_t, hf⟩ := qn_some hf
      refine r_put (ref := RX10) (C := RX10) (T := TX10) (N := 70) O 183 rfl inBX10 tyX10 tyX10_ok nmX10 0 58 rfl rfl rfl (by decide) flX10_383 rfl rfl rfl rfl (Nat.le_of_ble_eq_true rfl) ([nX10 cI cZ cQ h_t p180_t]) (by rw [ep180_t]; rfl) dX10_away_180 ?_
      obtain g0 := qe1 hf
      exact r_vret2 O E (by rw [g0]) dX10_away_183
    · rw [if_neg hc115] at hf
      refine r_ild_n O 119 rfl 8 rfl dX10_away_118 ?_
      refine r_ald_n O 120 rfl 6 rfl dX10_away_119 ?_
      refine r_ild_n O 121 rfl 7 rfl dX10_away_120 ?_
      refine r_ic O 122 rfl 3 (by decide) dX10_away_121 ?_
      obtain ⟨x122, hq122, hf⟩ := qb1_some hf
      refine k_VI O 125 rfl (zX10_at (l := xl X) (D := xD X) (cI := cI) (cZ := cZ) (cQ := cQ) (h_t := h_t) hq122) (gV mlX10_129 mvX10_at izX10) rfl rfl rfl hdX10_at ⟨Nat.le_of_ble_eq_true rfl, Nat.le_of_ble_eq_true rfl⟩ rfl 0 rfl rfl rfl rfl (Nat.le_of_ble_eq_true rfl) ⟨Nat.zero_le _, Nat.zero_le _⟩ [0] rfl rfl rfl ([nX10 cI cZ cQ h_t p82_t]) rfl dX10_away_122 ?_
      refine r_isub O 126 rfl dX10_away_125 ?_
      refine r_i2l O 127 rfl dX10_away_126 ?_
      obtain ⟨x127, ex127, hf⟩ := qn_some hf
      rw [← ex127]
      refine r_lst O 129 rfl [(16, .long x127), (14, .long x78), (12, .long x65), (10, .long x52), (8, .long x41), (6, .long x30), (4, .long x14), (0, .ref (h_t 0)), (1, .int a1), (2, .int a2), (3, .int a3)] dX10_away_127 (by decide) rfl ?_
      refine r_ild_n O 130 rfl 10 rfl dX10_away_129 ?_
      refine r_ald_n O 131 rfl 7 rfl dX10_away_130 ?_
      refine r_ild_n O 132 rfl 8 rfl dX10_away_131 ?_
      refine r_ic O 133 rfl 4 (by decide) dX10_away_132 ?_
      obtain ⟨x133, hq133, hf⟩ := qb1_some hf
      refine k_VI O 136 rfl (zX10_at (l := xl X) (D := xD X) (cI := cI) (cZ := cZ) (cQ := cQ) (h_t := h_t) hq133) (gV mlX10_129 mvX10_at izX10) rfl rfl rfl hdX10_at ⟨Nat.le_of_ble_eq_true rfl, Nat.le_of_ble_eq_true rfl⟩ rfl 0 rfl rfl rfl rfl (Nat.le_of_ble_eq_true rfl) ⟨Nat.zero_le _, Nat.zero_le _⟩ [0] rfl rfl rfl ([nX10 cI cZ cQ h_t p82_t]) rfl dX10_away_133 ?_
      refine r_isub O 137 rfl dX10_away_136 ?_
      refine r_i2l O 138 rfl dX10_away_137 ?_
      obtain ⟨x138, ex138, hf⟩ := qn_some hf
      rw [← ex138]
      refine r_lst O 140 rfl [(18, .long x138), (16, .long x127), (14, .long x78), (12, .long x65), (10, .long x52), (8, .long x41), (6, .long x30), (4, .long x14), (0, .ref (h_t 0)), (1, .int a1), (2, .int a2), (3, .int a3)] dX10_away_138 (by decide) rfl ?_
      refine r_ald_n O 141 rfl 8 rfl dX10_away_140 ?_
      refine r_lld O 143 rfl 1 rfl dX10_away_141 ?_
      refine r_lld O 145 rfl 1 rfl dX10_away_143 ?_
      refine r_lmul O 146 rfl dX10_away_145 ?_
      refine r_lld O 148 rfl 0 rfl dX10_away_146 ?_
      refine r_lld O 150 rfl 0 rfl dX10_away_148 ?_
      refine r_lmul O 151 rfl dX10_away_150 ?_
      refine r_ladd O 152 rfl dX10_away_151 ?_
      obtain ⟨p152_t, ep152_t, hf⟩ := qn_some hf
      refine r_put (ref := RX10) (C := RX10) (T := TX10) (N := 70) O 155 rfl inBX10 tyX10 tyX10_ok nmX10 0 57 rfl rfl rfl (by decide) flX10_386 rfl rfl rfl rfl (Nat.le_of_ble_eq_true rfl) ([nX10 cI cZ cQ h_t p152_t]) (by rw [ep152_t]; rfl) dX10_away_152 ?_
      refine r_goto O 183 dX10_away_155 (by decide) ?_
      obtain g0 := qe1 hf
      exact r_vret2 O E (by rw [g0]) dX10_away_183
  · rw [if_neg hc89] at hf
    refine r_ald_n O 93 rfl 6 rfl dX10_away_92 ?_
    refine r_lld O 95 rfl 3 rfl dX10_away_93 ?_
    refine r_lld O 97 rfl 3 rfl dX10_away_95 ?_
    refine r_lmul O 98 rfl dX10_away_97 ?_
    refine r_lld O 100 rfl 2 rfl dX10_away_98 ?_
    refine r_lld O 102 rfl 2 rfl dX10_away_100 ?_
    refine r_lmul O 103 rfl dX10_away_102 ?_
    refine r_ladd O 104 rfl dX10_away_103 ?_
    obtain ⟨p104_t, ep104_t, hf⟩ := qn_some hf
    refine r_put (ref := RX10) (C := RX10) (T := TX10) (N := 70) O 107 rfl inBX10 tyX10 tyX10_ok nmX10 0 57 rfl rfl rfl (by decide) flX10_386 rfl rfl rfl rfl (Nat.le_of_ble_eq_true rfl) ([nX10 cI cZ cQ h_t p104_t]) (by rw [ep104_t]; rfl) dX10_away_104 ?_
    refine r_goto O 183 dX10_away_107 (by decide) ?_
    obtain g0 := qe1 hf
    exact r_vret2 O E (by rw [g0]) dX10_away_183
-- X10_approach
def rmX10_approach : Room := { frames := 3, cells := 0, slots := 0, locals := 84 }
set_option maxHeartbeats 4000000 in
set_option maxRecDepth 100000 in
theorem zX10_approach {l : Launch} {D : va_G} {cI cZ cQ : ClassId} {h_t : Nat → Nat} {u_t : Pk} {a1 : Int32} {a2 : Int32} {v_t : Pk} (hf : fX10_approach u_t a1 a2 = some v_t) : MV l yX10_approach wsX10_approach rmX10_approach D (TY cI cZ cQ) [.ref (h_t 0), .int a1, .int a2] [nX10 cI cZ cQ h_t u_t] [nX10 cI cZ cQ h_t v_t] := by
  refine MV.of (own := RX10) (by decide +kernel) rfl rfl (Nat.le_of_ble_eq_true rfl) (lv0 := [(0, .ref (h_t 0)), (1, .int a1), (2, .int a2)]) rfl ?_
  intro X O E
  have B90 : ∀ (rec17 : Pk → Int32 → Int32 → Int32 → Option (Pk)), (∀ (w_t : Pk) (y1 : Int32) (y2 : Int32) (y3 : Int32), rec17 w_t y1 y2 y3 = some v_t → BK X 4 0 0 17 ([nX10 cI cZ cQ h_t w_t]) [(0, .ref (h_t 0)), (1, .int y1), (2, .int y2), (3, .int y3)] []) → ∀ (w_t : Pk) (y1 : Int32) (y2 : Int32) (y3 : Int32), fX10_approach_b90 rec17 w_t y1 y2 y3 = some v_t → BK X 4 0 0 90 ([nX10 cI cZ cQ h_t w_t]) [(0, .ref (h_t 0)), (1, .int y1), (2, .int y2), (3, .int y3)] [] := by
    intro rec17 hrec17 w_t y1 y2 y3 hf
    unfold fX10_approach_b90 at hf
    obtain ⟨x90, ex90, hf⟩ := qn_some hf
    refine r_iinc O 93 rfl x90 3 rfl (by rw [ex90]; rfl) [(3, .int x90), (0, .ref (h_t 0)), (1, .int y1), (2, .int y2)] dX10_approach_90 (by decide) rfl ?_
    refine r_goto O 17 dX10_approach_93 (by decide) ?_
    refine r_lv [1, 2, 3, 0] rfl ?_
    exact hrec17 _ _ _ _ hf
  have B69 : ∀ (rec17 : Pk → Int32 → Int32 → Int32 → Option (Pk)), (∀ (w_t : Pk) (y1 : Int32) (y2 : Int32) (y3 : Int32), rec17 w_t y1 y2 y3 = some v_t → BK X 4 0 0 17 ([nX10 cI cZ cQ h_t w_t]) [(0, .ref (h_t 0)), (1, .int y1), (2, .int y2), (3, .int y3)] []) → ∀ (w_t : Pk) (y1 : Int32) (y2 : Int32) (y3 : Int32), fX10_approach_b69 rec17 w_t y1 y2 y3 = some v_t → BK X 4 0 0 69 ([nX10 cI cZ cQ h_t w_t]) [(0, .ref (h_t 0)), (1, .int y1), (2, .int y2), (3, .int y3)] [] := by
    intro rec17 hrec17 w_t y1 y2 y3 hf
    unfold fX10_approach_b69 at hf
    refine r_ald_n O 70 rfl 0 rfl dX10_approach_69 ?_
    refine r_ild_n O 71 rfl 3 rfl dX10_approach_70 ?_
    obtain ⟨p71_t, ep71_t, hf⟩ := qn_some hf
    refine r_put (ref := RX10) (C := RX10) (T := TX10) (N := 70) O 74 rfl inBX10 tyX10 tyX10_ok nmX10 0 59 rfl rfl rfl (by decide) flX10_389 rfl rfl rfl rfl (Nat.le_of_ble_eq_true rfl) ([nX10 cI cZ cQ h_t p71_t]) (by rw [ep71_t]; rfl) dX10_approach_71 ?_
    refine r_ald_n O 75 rfl 0 rfl dX10_approach_74 ?_
    refine r_ald_n O 76 rfl 0 rfl dX10_approach_75 ?_
    refine r_get (ref := RX10) (C := RX10) (T := TX10) (N := 70) O 79 rfl inBX10 0 57 rfl rfl rfl (by decide) flX10_386 rfl rfl dX10_approach_76 ?_
    obtain ⟨p79_t, ep79_t, hf⟩ := qn_some hf
    refine r_put (ref := RX10) (C := RX10) (T := TX10) (N := 70) O 82 rfl inBX10 tyX10 tyX10_ok nmX10 0 60 rfl rfl rfl (by decide) flX10_392 rfl rfl rfl rfl (Nat.le_of_ble_eq_true rfl) ([nX10 cI cZ cQ h_t p79_t]) (by rw [ep79_t]; rfl) dX10_approach_79 ?_
    refine r_ald_n O 83 rfl 0 rfl dX10_approach_82 ?_
    refine r_ald_n O 84 rfl 0 rfl dX10_approach_83 ?_
    refine r_get (ref := RX10) (C := RX10) (T := TX10) (N := 70) O 87 rfl inBX10 0 58 rfl rfl rfl (by decide) flX10_383 rfl rfl dX10_approach_84 ?_
    obtain ⟨p87_t, ep87_t, hf⟩ := qn_some hf
    refine r_put (ref := RX10) (C := RX10) (T := TX10) (N := 70) O 90 rfl inBX10 tyX10 tyX10_ok nmX10 0 61 rfl rfl rfl (by decide) flX10_395 rfl rfl rfl rfl (Nat.le_of_ble_eq_true rfl) ([nX10 cI cZ cQ h_t p87_t]) (by rw [ep87_t]; rfl) dX10_approach_87 ?_
    exact B90 rec17 hrec17 _ _ _ _ hf
  have B17 : ∀ n : Nat, ∀ (w_t : Pk) (y1 : Int32) (y2 : Int32) (y3 : Int32), fX10_approach_b17 n w_t y1 y2 y3 = some v_t → BK X 4 0 0 17 ([nX10 cI cZ cQ h_t w_t]) [(0, .ref (h_t 0)), (1, .int y1), (2, .int y2), (3, .int y3)] [] := by
    intro n
    induction n with
    | zero => exact fun _ _ _ _ hf => qno hf
    | succ n hrec17 =>
      intro w_t y1 y2 y3 hf
      have hf : fX10_approach_b17_s (fX10_approach_b17 n) w_t y1 y2 y3 = some v_t := hf
      generalize fX10_approach_b17 n = rec17 at hf hrec17
      unfold fX10_approach_b17_s at hf
      refine r_ild_n O 18 rfl 3 rfl dX10_approach_17 ?_
      refine r_bi O 20 rfl 12 (by decide) dX10_approach_18 ?_
      refine r_icmp_ge O 23 rfl 96 dX10_approach_20 (by decide) (fun hc20 => ?_) (fun hc20 => ?_)
      · rw [if_pos hc20] at hf
        obtain g0 := qe1 hf
        exact r_vret2 O E (by rw [g0]) dX10_approach_96
      · rw [if_neg hc20] at hf
        refine r_ald_n O 24 rfl 0 rfl dX10_approach_23 ?_
        refine r_ild_n O 25 rfl 3 rfl dX10_approach_24 ?_
        refine r_ic O 26 rfl 0 (by decide) dX10_approach_25 ?_
        obtain ⟨x26, hq26, hf⟩ := qb1_some hf
        refine k_VI O 29 rfl (zX10_at (l := xl X) (D := xD X) (cI := cI) (cZ := cZ) (cQ := cQ) (h_t := h_t) hq26) (gV mlX10_129 mvX10_at izX10) rfl rfl rfl hdX10_at ⟨Nat.le_of_ble_eq_true rfl, Nat.le_of_ble_eq_true rfl⟩ rfl 0 rfl rfl rfl rfl (Nat.le_of_ble_eq_true rfl) ⟨Nat.zero_le _, Nat.zero_le _⟩ [0] rfl rfl rfl ([nX10 cI cZ cQ h_t w_t]) rfl dX10_approach_26 ?_
        refine r_ic O 30 rfl 1 (by decide) dX10_approach_29 ?_
        refine r_icmp_ne O 33 rfl 90 dX10_approach_30 (by decide) (fun hc30 => ?_) (fun hc30 => ?_)
        · rw [if_neg hc30] at hf
          exact B90 rec17 hrec17 _ _ _ _ hf
        · rw [if_pos hc30] at hf
          refine r_ald_n O 34 rfl 0 rfl dX10_approach_33 ?_
          refine r_ild_n O 35 rfl 3 rfl dX10_approach_34 ?_
          refine r_ild_n O 36 rfl 1 rfl dX10_approach_35 ?_
          refine r_ild_n O 37 rfl 2 rfl dX10_approach_36 ?_
          obtain ⟨p37_t, hq37, hf⟩ := qb1_some hf
          refine k_VV O 40 rfl (zX10_away (l := xl X) (D := xD X) (cI := cI) (cZ := cZ) (cQ := cQ) (h_t := h_t) hq37) (gV mlX10_398 mvX10_away izX10) rfl rfl rfl hdX10_away ⟨Nat.le_of_ble_eq_true rfl, Nat.le_of_ble_eq_true rfl⟩ rfl 0 rfl rfl rfl rfl (Nat.le_of_ble_eq_true rfl) ⟨Nat.zero_le _, Nat.zero_le _⟩ [0] rfl rfl rfl ([nX10 cI cZ cQ h_t p37_t]) rfl dX10_approach_37 ?_
          refine r_ald_n O 41 rfl 0 rfl dX10_approach_40 ?_
          refine r_get (ref := RX10) (C := RX10) (T := TX10) (N := 70) O 44 rfl inBX10 0 59 rfl rfl rfl (by decide) flX10_389 rfl rfl dX10_approach_41 ?_
          refine r_if_lt O 47 rfl 69 dX10_approach_44 (by decide) (fun hc44 => ?_) (fun hc44 => ?_)
          · rw [if_pos hc44] at hf
            exact B69 rec17 hrec17 _ _ _ _ hf
          · rw [if_neg hc44] at hf
            refine r_ald_n O 48 rfl 0 rfl dX10_approach_47 ?_
            refine r_get (ref := RX10) (C := RX10) (T := TX10) (N := 70) O 51 rfl inBX10 0 57 rfl rfl rfl (by decide) flX10_386 rfl rfl dX10_approach_48 ?_
            refine r_ald_n O 52 rfl 0 rfl dX10_approach_51 ?_
            refine r_get (ref := RX10) (C := RX10) (T := TX10) (N := 70) O 55 rfl inBX10 0 61 rfl rfl rfl (by decide) flX10_395 rfl rfl dX10_approach_52 ?_
            refine r_lmul O 56 rfl dX10_approach_55 ?_
            refine r_ald_n O 57 rfl 0 rfl dX10_approach_56 ?_
            refine r_get (ref := RX10) (C := RX10) (T := TX10) (N := 70) O 60 rfl inBX10 0 60 rfl rfl rfl (by decide) flX10_392 rfl rfl dX10_approach_57 ?_
            refine r_ald_n O 61 rfl 0 rfl dX10_approach_60 ?_
            refine r_get (ref := RX10) (C := RX10) (T := TX10) (N := 70) O 64 rfl inBX10 0 58 rfl rfl rfl (by decide) flX10_383 rfl rfl dX10_approach_61 ?_
            refine r_lmul O 65 rfl dX10_approach_64 ?_
            refine r_lcmp O 66 rfl dX10_approach_65 ?_
            refine r_if_ge O 69 rfl 90 dX10_approach_66 (by decide) (fun hc66 => ?_) (fun hc66 => ?_)
            · rw [if_pos hc66] at hf
              exact B90 rec17 hrec17 _ _ _ _ hf
            · rw [if_neg hc66] at hf
              exact B69 rec17 hrec17 _ _ _ _ hf
  unfold fX10_approach at hf
  refine r_ald_n O 1 rfl 0 rfl dX10_approach_0 ?_
  refine r_ic O 2 rfl (-1) (by decide) dX10_approach_1 ?_
  obtain ⟨p2_t, ep2_t, hf⟩ := qn_some hf
  refine r_put (ref := RX10) (C := RX10) (T := TX10) (N := 70) O 5 rfl inBX10 tyX10 tyX10_ok nmX10 0 59 rfl rfl rfl (by decide) flX10_389 rfl rfl rfl rfl (Nat.le_of_ble_eq_true rfl) ([nX10 cI cZ cQ h_t p2_t]) (by rw [ep2_t]; rfl) dX10_approach_2 ?_
  refine r_ald_n O 6 rfl 0 rfl dX10_approach_5 ?_
  refine r_lc O 7 rfl 0 (by decide) dX10_approach_6 ?_
  obtain ⟨p7_t, ep7_t, hf⟩ := qn_some hf
  refine r_put (ref := RX10) (C := RX10) (T := TX10) (N := 70) O 10 rfl inBX10 tyX10 tyX10_ok nmX10 0 60 rfl rfl rfl (by decide) flX10_392 rfl rfl rfl rfl (Nat.le_of_ble_eq_true rfl) ([nX10 cI cZ cQ h_t p7_t]) (by rw [ep7_t]; rfl) dX10_approach_7 ?_
  refine r_ald_n O 11 rfl 0 rfl dX10_approach_10 ?_
  refine r_lc O 12 rfl 1 (by decide) dX10_approach_11 ?_
  obtain ⟨p12_t, ep12_t, hf⟩ := qn_some hf
  refine r_put (ref := RX10) (C := RX10) (T := TX10) (N := 70) O 15 rfl inBX10 tyX10 tyX10_ok nmX10 0 61 rfl rfl rfl (by decide) flX10_395 rfl rfl rfl rfl (Nat.le_of_ble_eq_true rfl) ([nX10 cI cZ cQ h_t p12_t]) (by rw [ep12_t]; rfl) dX10_approach_12 ?_
  refine r_ic O 16 rfl 0 (by decide) dX10_approach_15 ?_
  refine r_ist_n O 17 rfl rfl [(3, .int 0), (0, .ref (h_t 0)), (1, .int a1), (2, .int a2)] dX10_approach_16 (by decide) rfl ?_
  refine r_lv [1, 2, 3, 0] rfl ?_
  exact B17 FU _ _ _ _ hf
-- X10_nearestWall
def rmX10_nearestWall : Room := { frames := 4, cells := 0, slots := 0, locals := 107 }
set_option maxHeartbeats 4000000 in
set_option maxRecDepth 100000 in
theorem zX10_nearestWall {l : Launch} {D : va_G} {cI cZ cQ : ClassId} {h_t : Nat → Nat} {u_t : Pk} {a1 : Int32} {a2 : Int32} {r0 : Int32} {v_t : Pk} (hf : fX10_nearestWall u_t a1 a2 = some (r0, v_t)) : MI l yX10_nearestWall wsX10_nearestWall rmX10_nearestWall D (TY cI cZ cQ) [.ref (h_t 0), .int a1, .int a2] [nX10 cI cZ cQ h_t u_t] r0 [nX10 cI cZ cQ h_t v_t] := by
  refine MI.of (own := RX10) (by decide +kernel) rfl rfl (Nat.le_of_ble_eq_true rfl) (lv0 := [(0, .ref (h_t 0)), (1, .int a1), (2, .int a2)]) rfl ?_
  intro X O E
  unfold fX10_nearestWall at hf
  refine r_ild_n O 1 rfl 1 rfl dX10_nearestWall_0 ?_
  refine r_ild_n O 2 rfl 2 rfl dX10_nearestWall_1 ?_
  obtain ⟨x2, hq2, hf⟩ := qb1_some hf
  refine k_SZ O 5 rfl (zX10_isPoint (l := xl X) (D := xD X) (cI := cI) (cZ := cZ) (cQ := cQ) hq2) (gS mlX10_297 mvX10_isPoint izX10) rfl rfl rfl hdX10_isPoint ⟨Nat.le_of_ble_eq_true rfl, Nat.le_of_ble_eq_true rfl⟩ rfl rfl (Nat.le_of_ble_eq_true rfl) ⟨Nat.zero_le _, Nat.zero_le _⟩ [] rfl rfl rfl ([nX10 cI cZ cQ h_t u_t]) rfl dX10_nearestWall_2 (fun hz2 => ?_)
  refine r_if_ne O 8 rfl 11 dX10_nearestWall_5 (by decide) (fun hc5 => ?_) (fun hc5 => ?_)
  · rw [if_neg hc5] at hf
    refine r_ald_n O 12 rfl 0 rfl dX10_nearestWall_11 ?_
    refine r_ild_n O 13 rfl 1 rfl dX10_nearestWall_12 ?_
    refine r_ild_n O 14 rfl 2 rfl dX10_nearestWall_13 ?_
    obtain ⟨p14_t, hq14, hf⟩ := qb1_some hf
    refine k_VV O 17 rfl (zX10_approach (l := xl X) (D := xD X) (cI := cI) (cZ := cZ) (cQ := cQ) (h_t := h_t) hq14) (gV mlX10_401 mvX10_approach izX10) rfl rfl rfl hdX10_approach ⟨Nat.le_of_ble_eq_true rfl, Nat.le_of_ble_eq_true rfl⟩ rfl 0 rfl rfl rfl rfl (Nat.le_of_ble_eq_true rfl) ⟨Nat.zero_le _, Nat.zero_le _⟩ [0] rfl rfl rfl ([nX10 cI cZ cQ h_t p14_t]) rfl dX10_nearestWall_14 ?_
    refine r_ald_n O 18 rfl 0 rfl dX10_nearestWall_17 ?_
    refine r_get (ref := RX10) (C := RX10) (T := TX10) (N := 70) O 21 rfl inBX10 0 59 rfl rfl rfl (by decide) flX10_389 rfl rfl dX10_nearestWall_18 ?_
    refine r_if_ge O 24 rfl 29 dX10_nearestWall_21 (by decide) (fun hc21 => ?_) (fun hc21 => ?_)
    · rw [if_pos hc21] at hf
      refine r_ald_n O 30 rfl 0 rfl dX10_nearestWall_29 ?_
      refine r_get (ref := RX10) (C := RX10) (T := TX10) (N := 70) O 33 rfl inBX10 0 59 rfl rfl rfl (by decide) flX10_389 rfl rfl dX10_nearestWall_30 ?_
      obtain ⟨g0, g1⟩ := qe2 hf
      exact r_iret2 O E g0 (by rw [g1]) dX10_nearestWall_33
    · rw [if_neg hc21] at hf
      refine r_bi O 26 rfl (-8) (by decide) dX10_nearestWall_24 ?_
      refine r_goto O 33 dX10_nearestWall_26 (by decide) ?_
      obtain ⟨g0, g1⟩ := qe2 hf
      exact r_iret2 O E g0 (by rw [g1]) dX10_nearestWall_33
  · rw [if_pos hc5] at hf
    refine r_bi O 10 rfl (-2) (by decide) dX10_nearestWall_8 ?_
    obtain ⟨g0, g1⟩ := qe2 hf
    exact r_iret2 O E g0 (by rw [g1]) dX10_nearestWall_10
-- X10_clearance
def rmX10_clearance : Room := { frames := 4, cells := 0, slots := 0, locals := 107 }
set_option maxHeartbeats 4000000 in
set_option maxRecDepth 100000 in
theorem zX10_clearance {l : Launch} {D : va_G} {cI cZ cQ : ClassId} {h_t : Nat → Nat} {u_t : Pk} {a1 : Int32} {a2 : Int32} {a3 : Int32} {r0 : Int64} {v_t : Pk} (hf : fX10_clearance u_t a1 a2 a3 = some (r0, v_t)) : ML l yX10_clearance wsX10_clearance rmX10_clearance D (TY cI cZ cQ) [.ref (h_t 0), .int a1, .int a2, .int a3] [nX10 cI cZ cQ h_t u_t] r0 [nX10 cI cZ cQ h_t v_t] := by
  refine ML.of (own := RX10) (by decide +kernel) rfl rfl (Nat.le_of_ble_eq_true rfl) (lv0 := [(0, .ref (h_t 0)), (1, .int a1), (2, .int a2), (3, .int a3)]) rfl ?_
  intro X O E
  unfold fX10_clearance at hf
  refine r_ild_n O 1 rfl 1 rfl dX10_clearance_0 ?_
  refine r_ild_n O 2 rfl 2 rfl dX10_clearance_1 ?_
  obtain ⟨x2, hq2, hf⟩ := qb1_some hf
  refine k_SZ O 5 rfl (zX10_isPoint (l := xl X) (D := xD X) (cI := cI) (cZ := cZ) (cQ := cQ) hq2) (gS mlX10_297 mvX10_isPoint izX10) rfl rfl rfl hdX10_isPoint ⟨Nat.le_of_ble_eq_true rfl, Nat.le_of_ble_eq_true rfl⟩ rfl rfl (Nat.le_of_ble_eq_true rfl) ⟨Nat.zero_le _, Nat.zero_le _⟩ [] rfl rfl rfl ([nX10 cI cZ cQ h_t u_t]) rfl dX10_clearance_2 (fun hz2 => ?_)
  refine r_if_eq O 8 rfl 17 dX10_clearance_5 (by decide) (fun hc5 => ?_) (fun hc5 => ?_)
  · rw [if_pos hc5] at hf
    refine r_ldcl O 20 rfl (v := (-2)) clX10_404 dX10_clearance_17 ?_
    obtain ⟨g0, g1⟩ := qe2 hf
    exact r_lret2 O E g0 (by rw [g1]) dX10_clearance_20
  · rw [if_neg hc5] at hf
    refine r_ild_n O 9 rfl 3 rfl dX10_clearance_8 ?_
    refine r_if_lt O 12 rfl 17 dX10_clearance_9 (by decide) (fun hc9 => ?_) (fun hc9 => ?_)
    · rw [if_pos hc9] at hf
      refine r_ldcl O 20 rfl (v := (-2)) clX10_404 dX10_clearance_17 ?_
      obtain ⟨g0, g1⟩ := qe2 hf
      exact r_lret2 O E g0 (by rw [g1]) dX10_clearance_20
    · rw [if_neg hc9] at hf
      refine r_ild_n O 13 rfl 3 rfl dX10_clearance_12 ?_
      refine r_ic O 14 rfl 1 (by decide) dX10_clearance_13 ?_
      refine r_icmp_le O 17 rfl 21 dX10_clearance_14 (by decide) (fun hc14 => ?_) (fun hc14 => ?_)
      · rw [if_pos hc14] at hf
        refine r_ald_n O 22 rfl 0 rfl dX10_clearance_21 ?_
        refine r_ild_n O 23 rfl 1 rfl dX10_clearance_22 ?_
        refine r_ild_n O 24 rfl 2 rfl dX10_clearance_23 ?_
        obtain ⟨p24_t, hq24, hf⟩ := qb1_some hf
        refine k_VV O 27 rfl (zX10_approach (l := xl X) (D := xD X) (cI := cI) (cZ := cZ) (cQ := cQ) (h_t := h_t) hq24) (gV mlX10_401 mvX10_approach izX10) rfl rfl rfl hdX10_approach ⟨Nat.le_of_ble_eq_true rfl, Nat.le_of_ble_eq_true rfl⟩ rfl 0 rfl rfl rfl rfl (Nat.le_of_ble_eq_true rfl) ⟨Nat.zero_le _, Nat.zero_le _⟩ [0] rfl rfl rfl ([nX10 cI cZ cQ h_t p24_t]) rfl dX10_clearance_24 ?_
        refine r_ald_n O 28 rfl 0 rfl dX10_clearance_27 ?_
        refine r_get (ref := RX10) (C := RX10) (T := TX10) (N := 70) O 31 rfl inBX10 0 59 rfl rfl rfl (by decide) flX10_389 rfl rfl dX10_clearance_28 ?_
        refine r_if_ge O 34 rfl 38 dX10_clearance_31 (by decide) (fun hc31 => ?_) (fun hc31 => ?_)
        · rw [if_pos hc31] at hf
          refine r_ald_n O 39 rfl 0 rfl dX10_clearance_38 ?_
          refine r_get (ref := RX10) (C := RX10) (T := TX10) (N := 70) O 42 rfl inBX10 0 60 rfl rfl rfl (by decide) flX10_392 rfl rfl dX10_clearance_39 ?_
          refine r_l2i O 43 rfl dX10_clearance_42 ?_
          refine r_ald_n O 44 rfl 0 rfl dX10_clearance_43 ?_
          refine r_get (ref := RX10) (C := RX10) (T := TX10) (N := 70) O 47 rfl inBX10 0 61 rfl rfl rfl (by decide) flX10_395 rfl rfl dX10_clearance_44 ?_
          refine r_l2i O 48 rfl dX10_clearance_47 ?_
          obtain ⟨x48, hq48, hf⟩ := qb1_some hf
          refine k_SI O 51 rfl (zX10_divisor (l := xl X) (D := xD X) (cI := cI) (cZ := cZ) (cQ := cQ) hq48) (gS mlX10_197 mvX10_divisor izX10) rfl rfl rfl hdX10_divisor ⟨Nat.le_of_ble_eq_true rfl, Nat.le_of_ble_eq_true rfl⟩ rfl rfl (Nat.le_of_ble_eq_true rfl) ⟨Nat.zero_le _, Nat.zero_le _⟩ [] rfl rfl rfl ([nX10 cI cZ cQ h_t p24_t]) rfl dX10_clearance_48 ?_
          refine r_ist O 53 rfl [(4, .int x48), (0, .ref (h_t 0)), (1, .int a1), (2, .int a2), (3, .int a3)] dX10_clearance_51 (by decide) rfl ?_
          refine r_ild_n O 54 rfl 4 rfl dX10_clearance_53 ?_
          refine r_if_ne O 57 rfl 68 dX10_clearance_54 (by decide) (fun hc54 => ?_) (fun hc54 => ?_)
          · rw [if_neg hc54] at hf
            refine r_ald_n O 69 rfl 1 rfl dX10_clearance_68 ?_
            refine r_get (ref := RX10) (C := RX10) (T := TX10) (N := 70) O 72 rfl inBX10 0 61 rfl rfl rfl (by decide) flX10_395 rfl rfl dX10_clearance_69 ?_
            refine r_ild O 74 rfl 0 rfl dX10_clearance_72 ?_
            refine r_i2l O 75 rfl dX10_clearance_74 ?_
            obtain ⟨hne75, hf⟩ := qnzl_some hf
            refine r_ldiv O 76 rfl dX10_clearance_75 hne75 ?_
            obtain ⟨g0, g1⟩ := qe2 hf
            exact r_lret2 O E g0 (by rw [g1]) dX10_clearance_76
          · rw [if_pos hc54] at hf
            refine r_ald_n O 58 rfl 1 rfl dX10_clearance_57 ?_
            refine r_get (ref := RX10) (C := RX10) (T := TX10) (N := 70) O 61 rfl inBX10 0 60 rfl rfl rfl (by decide) flX10_392 rfl rfl dX10_clearance_58 ?_
            refine r_ild O 63 rfl 0 rfl dX10_clearance_61 ?_
            refine r_i2l O 64 rfl dX10_clearance_63 ?_
            obtain ⟨hne64, hf⟩ := qnzl_some hf
            refine r_ldiv O 65 rfl dX10_clearance_64 hne64 ?_
            refine r_goto O 76 dX10_clearance_65 (by decide) ?_
            obtain ⟨g0, g1⟩ := qe2 hf
            exact r_lret2 O E g0 (by rw [g1]) dX10_clearance_76
        · rw [if_neg hc31] at hf
          refine r_ldcl O 37 rfl (v := (-8)) clX10_406 dX10_clearance_34 ?_
          obtain ⟨g0, g1⟩ := qe2 hf
          exact r_lret2 O E g0 (by rw [g1]) dX10_clearance_37
      · rw [if_neg hc14] at hf
        refine r_ldcl O 20 rfl (v := (-2)) clX10_404 dX10_clearance_17 ?_
        obtain ⟨g0, g1⟩ := qe2 hf
        exact r_lret2 O E g0 (by rw [g1]) dX10_clearance_20
-- X10_piecesWith
def rmX10_piecesWith : Room := { frames := 8, cells := 0, slots := 0, locals := 204 }
set_option maxHeartbeats 4000000 in
set_option maxRecDepth 100000 in
theorem zX10_piecesWith {l : Launch} {D : va_G} {cI cZ cQ : ClassId} {h_t : Nat → Nat} {u_t : Pk} {a1 : Int32} {a2 : Int32} {r0 : Int32} {v_t : Pk} (hf : fX10_piecesWith u_t a1 a2 = some (r0, v_t)) : MI l yX10_piecesWith wsX10_piecesWith rmX10_piecesWith D (TY cI cZ cQ) [.ref (h_t 0), .int a1, .int a2] [nX10 cI cZ cQ h_t u_t] r0 [nX10 cI cZ cQ h_t v_t] := by
  refine MI.of (own := RX10) (by decide +kernel) rfl rfl (Nat.le_of_ble_eq_true rfl) (lv0 := [(0, .ref (h_t 0)), (1, .int a1), (2, .int a2)]) rfl ?_
  intro X O E
  unfold fX10_piecesWith at hf
  refine r_ild_n O 1 rfl 1 rfl dX10_piecesWith_0 ?_
  refine r_if_lt O 4 rfl 20 dX10_piecesWith_1 (by decide) (fun hc1 => ?_) (fun hc1 => ?_)
  · rw [if_pos hc1] at hf
    refine r_bi O 22 rfl (-2) (by decide) dX10_piecesWith_20 ?_
    obtain ⟨g0, g1⟩ := qe2 hf
    exact r_iret2 O E g0 (by rw [g1]) dX10_piecesWith_22
  · rw [if_neg hc1] at hf
    refine r_ild_n O 5 rfl 1 rfl dX10_piecesWith_4 ?_
    refine r_bi O 7 rfl 9 (by decide) dX10_piecesWith_5 ?_
    refine r_icmp_gt O 10 rfl 20 dX10_piecesWith_7 (by decide) (fun hc7 => ?_) (fun hc7 => ?_)
    · rw [if_pos hc7] at hf
      refine r_bi O 22 rfl (-2) (by decide) dX10_piecesWith_20 ?_
      obtain ⟨g0, g1⟩ := qe2 hf
      exact r_iret2 O E g0 (by rw [g1]) dX10_piecesWith_22
    · rw [if_neg hc7] at hf
      refine r_ild_n O 11 rfl 2 rfl dX10_piecesWith_10 ?_
      refine r_if_lt O 14 rfl 20 dX10_piecesWith_11 (by decide) (fun hc11 => ?_) (fun hc11 => ?_)
      · rw [if_pos hc11] at hf
        refine r_bi O 22 rfl (-2) (by decide) dX10_piecesWith_20 ?_
        obtain ⟨g0, g1⟩ := qe2 hf
        exact r_iret2 O E g0 (by rw [g1]) dX10_piecesWith_22
      · rw [if_neg hc11] at hf
        refine r_ild_n O 15 rfl 2 rfl dX10_piecesWith_14 ?_
        refine r_bi O 17 rfl 9 (by decide) dX10_piecesWith_15 ?_
        refine r_icmp_le O 20 rfl 23 dX10_piecesWith_17 (by decide) (fun hc17 => ?_) (fun hc17 => ?_)
        · rw [if_pos hc17] at hf
          refine r_ald_n O 24 rfl 0 rfl dX10_piecesWith_23 ?_
          refine r_ild_n O 25 rfl 1 rfl dX10_piecesWith_24 ?_
          refine r_ild_n O 26 rfl 2 rfl dX10_piecesWith_25 ?_
          obtain ⟨p26_t, hq26, hf⟩ := qb1_some hf
          refine k_VV O 29 rfl (zX10_makeFixed (l := xl X) (D := xD X) (cI := cI) (cZ := cZ) (cQ := cQ) (h_t := h_t) hq26) (gV mlX10_269 mvX10_makeFixed izX10) rfl rfl rfl hdX10_makeFixed ⟨Nat.le_of_ble_eq_true rfl, Nat.le_of_ble_eq_true rfl⟩ rfl 0 rfl rfl rfl rfl (Nat.le_of_ble_eq_true rfl) ⟨Nat.zero_le _, Nat.zero_le _⟩ [0] rfl rfl rfl ([nX10 cI cZ cQ h_t p26_t]) rfl dX10_piecesWith_26 ?_
          refine r_ald_n O 30 rfl 0 rfl dX10_piecesWith_29 ?_
          refine r_get (ref := RX10) (C := RX10) (T := TX10) (N := 70) O 33 rfl inBX10 0 31 rfl rfl rfl (by decide) flX10_206 rfl rfl dX10_piecesWith_30 ?_
          obtain ⟨g0, g1⟩ := qe2 hf
          exact r_iret2 O E g0 (by rw [g1]) dX10_piecesWith_33
        · rw [if_neg hc17] at hf
          refine r_bi O 22 rfl (-2) (by decide) dX10_piecesWith_20 ?_
          obtain ⟨g0, g1⟩ := qe2 hf
          exact r_iret2 O E g0 (by rw [g1]) dX10_piecesWith_22
