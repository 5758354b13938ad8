-- X0_size
def rmX0_size : Room := { frames := 0, cells := 0, slots := 0, locals := 0 }
set_option maxHeartbeats 4000000 in
set_option maxRecDepth 100000 in
theorem zX0_size {l : Launch} {D : va_G} {cI cZ cQ : ClassId} {h_t : Nat → Nat} {r_w r_T : Nat} {u_t : Pk} {r0 : Int32} (hf : fX0_size u_t = some r0) : MI l yX0_size wsX0_size rmX0_size D (TY cI cZ cQ) [.ref (h_t 0)] [nX0 cI cZ cQ h_t r_w r_T u_t] r0 [nX0 cI cZ cQ h_t r_w r_T u_t] := by
  refine MI.of (own := RX0) (by decide +kernel) rfl rfl (Nat.le_of_ble_eq_true rfl) (lv0 := [(0, .ref (h_t 0))]) rfl ?_
  intro X O E
  unfold fX0_size at hf
  refine r_ald_n O 1 rfl 0 rfl dX0_size_0 ?_
  refine r_get (ref := RX0) (C := RX0) (T := TX0) (N := 6) O 4 rfl inBX0 0 3 rfl rfl rfl (by decide) flX0_15 rfl rfl dX0_size_1 ?_
  obtain g0 := qe1 hf
  exact r_iret2 O E g0 rfl dX0_size_4
-- X0_pieceAt
def rmX0_pieceAt : Room := { frames := 0, cells := 0, slots := 0, locals := 0 }
set_option maxHeartbeats 4000000 in
set_option maxRecDepth 100000 in
theorem zX0_pieceAt {l : Launch} {D : va_G} {cI cZ cQ : ClassId} {h_t : Nat → Nat} {r_w r_T : Nat} {u_t : Pk} {a1 : Int32} {r0 : Int32} (hf : fX0_pieceAt u_t a1 = some r0) : MI l yX0_pieceAt wsX0_pieceAt rmX0_pieceAt D (TY cI cZ cQ) [.ref (h_t 0), .int a1] [nX0 cI cZ cQ h_t r_w r_T u_t] r0 [nX0 cI cZ cQ h_t r_w r_T u_t] := by
  refine MI.of (own := RX0) (by decide +kernel) rfl rfl (Nat.le_of_ble_eq_true rfl) (lv0 := [(0, .ref (h_t 0)), (1, .int a1)]) rfl ?_
  intro X O E
  unfold fX0_pieceAt at hf
  refine r_ild_n O 1 rfl 1 rfl dX0_pieceAt_0 ?_
  refine r_if_lt O 4 rfl 28 dX0_pieceAt_1 (by decide) (fun hc1 => ?_) (fun hc1 => ?_)
  · rw [if_pos hc1] at hf
    refine r_bi O 30 rfl (-8) (by decide) dX0_pieceAt_28 ?_
    obtain g0 := qe1 hf
    exact r_iret2 O E g0 rfl dX0_pieceAt_30
  · rw [if_neg hc1] at hf
    refine r_ild_n O 5 rfl 1 rfl dX0_pieceAt_4 ?_
    refine r_ald_n O 6 rfl 0 rfl dX0_pieceAt_5 ?_
    refine r_get (ref := RX0) (C := RX0) (T := TX0) (N := 6) O 9 rfl inBX0 0 3 rfl rfl rfl (by decide) flX0_15 rfl rfl dX0_pieceAt_6 ?_
    refine r_icmp_ge O 12 rfl 28 dX0_pieceAt_9 (by decide) (fun hc9 => ?_) (fun hc9 => ?_)
    · rw [if_pos hc9] at hf
      refine r_bi O 30 rfl (-8) (by decide) dX0_pieceAt_28 ?_
      obtain g0 := qe1 hf
      exact r_iret2 O E g0 rfl dX0_pieceAt_30
    · rw [if_neg hc9] at hf
      refine r_ild_n O 13 rfl 1 rfl dX0_pieceAt_12 ?_
      refine r_si O 16 rfl 144 (by decide) dX0_pieceAt_13 ?_
      refine r_icmp_ge O 19 rfl 28 dX0_pieceAt_16 (by decide) (fun hc16 => ?_) (fun hc16 => ?_)
      · rw [if_pos hc16] at hf
        refine r_bi O 30 rfl (-8) (by decide) dX0_pieceAt_28 ?_
        obtain g0 := qe1 hf
        exact r_iret2 O E g0 rfl dX0_pieceAt_30
      · rw [if_neg hc16] at hf
        refine r_ald_n O 20 rfl 0 rfl dX0_pieceAt_19 ?_
        refine r_get (ref := RX0) (C := RX0) (T := TX0) (N := 6) O 23 rfl inBX0 0 2 rfl rfl rfl (by decide) flX0_9 rfl rfl dX0_pieceAt_20 ?_
        refine r_ild_n O 24 rfl 1 rfl dX0_pieceAt_23 ?_
        obtain ⟨x24, ex24, hin24, hf⟩ := qld_some hf
        refine r_iald O 25 rfl 0 1 rfl rfl hin24 dX0_pieceAt_24 ?_
        rw [← ex24]
        refine r_goto O 30 dX0_pieceAt_25 (by decide) ?_
        obtain g0 := qe1 hf
        exact r_iret2 O E g0 rfl dX0_pieceAt_30
-- X0_addPiecesOf
def rmX0_addPiecesOf : Room := { frames := 3, cells := 0, slots := 0, locals := 63 }
set_option maxHeartbeats 4000000 in
set_option maxRecDepth 100000 in
theorem zX0_addPiecesOf {l : Launch} {D : va_G} {cI cZ cQ : ClassId} {h_t h_w h_T h_P : Nat → Nat} {r_L : Nat} {u_w u_T u_P u_t : Pk} {a1 : Int32} {v_t : Pk} (hf : fX0_addPiecesOf u_w u_T u_P u_t a1 = some v_t) : MV l yX0_addPiecesOf wsX0_addPiecesOf rmX0_addPiecesOf D (TY cI cZ cQ) [.ref (h_t 0), .int a1] [nX0 cI cZ cQ h_t (h_w 0) (h_T 0) u_t, nX8 cI cZ cQ h_w u_w, nX6 cI cZ cQ h_T (h_w 0) r_L (h_P 0) u_T, nX4 cI cZ cQ h_P (h_w 0) u_P] [nX0 cI cZ cQ h_t (h_w 0) (h_T 0) v_t, nX8 cI cZ cQ h_w u_w, nX6 cI cZ cQ h_T (h_w 0) r_L (h_P 0) u_T, nX4 cI cZ cQ h_P (h_w 0) u_P] := by
  refine MV.of (own := RX0) (by decide +kernel) rfl rfl (Nat.le_of_ble_eq_true rfl) (lv0 := [(0, .ref (h_t 0)), (1, .int a1)]) rfl ?_
  intro X O E
  have B87 : ∀ (rec23 : Pk → Int32 → Int32 → Option (Pk)), (∀ (w_t : Pk) (y3 : Int32) (y4 : Int32), rec23 w_t y3 y4 = some v_t → BK X 5 0 0 23 ([nX0 cI cZ cQ h_t (h_w 0) (h_T 0) w_t, nX8 cI cZ cQ h_w u_w, nX6 cI cZ cQ h_T (h_w 0) r_L (h_P 0) u_T, nX4 cI cZ cQ h_P (h_w 0) u_P]) [(0, .ref (h_t 0)), (3, .int y3), (4, .int y4)] []) → ∀ (w_t : Pk) (y3 : Int32) (y4 : Int32), fX0_addPiecesOf_b87 rec23 u_w u_T u_P w_t y3 y4 = some v_t → BK X 5 0 0 87 ([nX0 cI cZ cQ h_t (h_w 0) (h_T 0) w_t, nX8 cI cZ cQ h_w u_w, nX6 cI cZ cQ h_T (h_w 0) r_L (h_P 0) u_T, nX4 cI cZ cQ h_P (h_w 0) u_P]) [(0, .ref (h_t 0)), (3, .int y3), (4, .int y4)] [] := by
    intro rec23 hrec23 w_t y3 y4 hf
    unfold fX0_addPiecesOf_b87 at hf
    obtain ⟨x87, ex87, hf⟩ := qn_some hf
    refine r_iinc O 90 rfl x87 2 rfl (by rw [ex87]; rfl) [(4, .int x87), (0, .ref (h_t 0)), (3, .int y3)] dX0_addPiecesOf_87 (by decide) rfl ?_
    refine r_goto O 23 dX0_addPiecesOf_90 (by decide) ?_
    refine r_lv [1, 2, 0] rfl ?_
    exact hrec23 _ _ _ hf
  have B23 : ∀ n : Nat, ∀ (w_t : Pk) (y3 : Int32) (y4 : Int32), fX0_addPiecesOf_b23 u_w u_T u_P n w_t y3 y4 = some v_t → BK X 5 0 0 23 ([nX0 cI cZ cQ h_t (h_w 0) (h_T 0) w_t, nX8 cI cZ cQ h_w u_w, nX6 cI cZ cQ h_T (h_w 0) r_L (h_P 0) u_T, nX4 cI cZ cQ h_P (h_w 0) u_P]) [(0, .ref (h_t 0)), (3, .int y3), (4, .int y4)] [] := by
    intro n
    induction n with
    | zero => exact fun _ _ _ hf => qno hf
    | succ n hrec23 =>
      intro w_t y3 y4 hf
      have hf : fX0_addPiecesOf_b23_s (fX0_addPiecesOf_b23 u_w u_T u_P n) u_w u_T u_P w_t y3 y4 = some v_t := hf
      generalize fX0_addPiecesOf_b23 u_w u_T u_P n = rec23 at hf hrec23
      unfold fX0_addPiecesOf_b23_s at hf
      refine r_ild O 25 rfl 2 rfl dX0_addPiecesOf_23 ?_
      refine r_ild_n O 26 rfl 1 rfl dX0_addPiecesOf_25 ?_
      refine r_icmp_ge O 29 rfl 93 dX0_addPiecesOf_26 (by decide) (fun hc26 => ?_) (fun hc26 => ?_)
      · rw [if_pos hc26] at hf
        obtain g0 := qe1 hf
        exact r_vret2 O E (by rw [g0]) dX0_addPiecesOf_93
      · rw [if_neg hc26] at hf
        refine r_ald_n O 30 rfl 0 rfl dX0_addPiecesOf_29 ?_
        refine r_get (ref := RX0) (C := RX0) (T := TX0) (N := 6) O 33 rfl inBX0 0 3 rfl rfl rfl (by decide) flX0_15 rfl rfl dX0_addPiecesOf_30 ?_
        refine r_si O 36 rfl 144 (by decide) dX0_addPiecesOf_33 ?_
        refine r_icmp_ge O 39 rfl 93 dX0_addPiecesOf_36 (by decide) (fun hc36 => ?_) (fun hc36 => ?_)
        · rw [if_pos hc36] at hf
          obtain g0 := qe1 hf
          exact r_vret2 O E (by rw [g0]) dX0_addPiecesOf_93
        · rw [if_neg hc36] at hf
          refine r_ald_n O 40 rfl 0 rfl dX0_addPiecesOf_39 ?_
          refine r_get (ref := RX0) (C := RX0) (T := TX0) (N := 6) O 43 rfl inBX0 0 0 rfl rfl rfl (by decide) flX0_25 rfl rfl dX0_addPiecesOf_40 ?_
          refine r_ald_n O 44 rfl 0 rfl dX0_addPiecesOf_43 ?_
          refine r_get (ref := RX0) (C := RX0) (T := TX0) (N := 6) O 47 rfl inBX0 0 1 rfl rfl rfl (by decide) flX0_29 rfl rfl dX0_addPiecesOf_44 ?_
          refine r_ild O 49 rfl 2 rfl dX0_addPiecesOf_47 ?_
          obtain ⟨x49, hq49, hf⟩ := qb1_some hf
          refine k_VI O 52 rfl (zX6_wallOfPiece (l := xl X) (D := xD X) (cI := cI) (cZ := cZ) (cQ := cQ) (h_t := h_T) (r_w := (h_w 0)) (r_L := r_L) (h_P := h_P) hq49) (gV mlX0_72 mvX6_wallOfPiece izX6) rfl rfl rfl hdX6_wallOfPiece ⟨Nat.le_of_ble_eq_true rfl, Nat.le_of_ble_eq_true rfl⟩ rfl 2 rfl rfl rfl rfl (Nat.le_of_ble_eq_true rfl) ⟨Nat.zero_le _, Nat.zero_le _⟩ [2, 3] rfl rfl rfl ([nX0 cI cZ cQ h_t (h_w 0) (h_T 0) w_t, nX8 cI cZ cQ h_w u_w, nX6 cI cZ cQ h_T (h_w 0) r_L (h_P 0) u_T, nX4 cI cZ cQ h_P (h_w 0) u_P]) rfl dX0_addPiecesOf_49 ?_
          refine r_ald_n O 53 rfl 0 rfl dX0_addPiecesOf_52 ?_
          refine r_get (ref := RX0) (C := RX0) (T := TX0) (N := 6) O 56 rfl inBX0 0 4 rfl rfl rfl (by decide) flX0_19 rfl rfl dX0_addPiecesOf_53 ?_
          refine r_ald_n O 57 rfl 0 rfl dX0_addPiecesOf_56 ?_
          refine r_get (ref := RX0) (C := RX0) (T := TX0) (N := 6) O 60 rfl inBX0 0 5 rfl rfl rfl (by decide) flX0_22 rfl rfl dX0_addPiecesOf_57 ?_
          obtain ⟨x60, hq60, hf⟩ := qb1_some hf
          refine k_VZ O 63 rfl (zX8_isDrawnFor (l := xl X) (D := xD X) (cI := cI) (cZ := cZ) (cQ := cQ) (h_t := h_w) hq60) (gV mlX0_75 mvX8_isDrawnFor izX8) rfl rfl rfl hdX8_isDrawnFor ⟨Nat.le_of_ble_eq_true rfl, Nat.le_of_ble_eq_true rfl⟩ rfl 1 rfl rfl rfl rfl (Nat.le_of_ble_eq_true rfl) ⟨Nat.zero_le _, Nat.zero_le _⟩ [1] rfl rfl rfl ([nX0 cI cZ cQ h_t (h_w 0) (h_T 0) w_t, nX8 cI cZ cQ h_w u_w, nX6 cI cZ cQ h_T (h_w 0) r_L (h_P 0) u_T, nX4 cI cZ cQ h_P (h_w 0) u_P]) rfl dX0_addPiecesOf_60 (fun hz60 => ?_)
          refine r_if_eq O 66 rfl 87 dX0_addPiecesOf_63 (by decide) (fun hc63 => ?_) (fun hc63 => ?_)
          · rw [if_pos hc63] at hf
            exact B87 rec23 hrec23 _ _ _ hf
          · rw [if_neg hc63] at hf
            refine r_ald_n O 67 rfl 0 rfl dX0_addPiecesOf_66 ?_
            refine r_get (ref := RX0) (C := RX0) (T := TX0) (N := 6) O 70 rfl inBX0 0 2 rfl rfl rfl (by decide) flX0_9 rfl rfl dX0_addPiecesOf_67 ?_
            refine r_ald_n O 71 rfl 0 rfl dX0_addPiecesOf_70 ?_
            refine r_get (ref := RX0) (C := RX0) (T := TX0) (N := 6) O 74 rfl inBX0 0 3 rfl rfl rfl (by decide) flX0_15 rfl rfl dX0_addPiecesOf_71 ?_
            refine r_ild O 76 rfl 2 rfl dX0_addPiecesOf_74 ?_
            obtain ⟨hin76, hf⟩ := qst_some hf
            obtain ⟨p76_t, ep76_t, hf⟩ := qn_some hf
            refine r_iast O 77 rfl 0 1 rfl rfl hin76 ([nX0 cI cZ cQ h_t (h_w 0) (h_T 0) p76_t, nX8 cI cZ cQ h_w u_w, nX6 cI cZ cQ h_T (h_w 0) r_L (h_P 0) u_T, nX4 cI cZ cQ h_P (h_w 0) u_P]) (by rw [ep76_t]; rfl) dX0_addPiecesOf_76 ?_
            refine r_ald_n O 78 rfl 0 rfl dX0_addPiecesOf_77 ?_
            refine r_dup O 79 rfl dX0_addPiecesOf_78 rfl ?_
            refine r_get (ref := RX0) (C := RX0) (T := TX0) (N := 6) O 82 rfl inBX0 0 3 rfl rfl rfl (by decide) flX0_15 rfl rfl dX0_addPiecesOf_79 ?_
            refine r_ic O 83 rfl 1 (by decide) dX0_addPiecesOf_82 ?_
            refine r_iadd O 84 rfl dX0_addPiecesOf_83 ?_
            obtain ⟨p84_t, ep84_t, hf⟩ := qn_some hf
            refine r_put (ref := RX0) (C := RX0) (T := TX0) (N := 6) O 87 rfl inBX0 tyX0 tyX0_ok nmX0 0 3 rfl rfl rfl (by decide) flX0_15 rfl rfl rfl rfl (Nat.le_of_ble_eq_true rfl) ([nX0 cI cZ cQ h_t (h_w 0) (h_T 0) p84_t, nX8 cI cZ cQ h_w u_w, nX6 cI cZ cQ h_T (h_w 0) r_L (h_P 0) u_T, nX4 cI cZ cQ h_P (h_w 0) u_P]) (by rw [ep84_t]; rfl) dX0_addPiecesOf_84 ?_
            exact B87 rec23 hrec23 _ _ _ hf
  unfold fX0_addPiecesOf at hf
  refine r_ald_n O 1 rfl 0 rfl dX0_addPiecesOf_0 ?_
  refine r_get (ref := RX0) (C := RX0) (T := TX0) (N := 6) O 4 rfl inBX0 0 1 rfl rfl rfl (by decide) flX0_29 rfl rfl dX0_addPiecesOf_1 ?_
  refine r_ild_n O 5 rfl 1 rfl dX0_addPiecesOf_4 ?_
  obtain ⟨x5, hq5, hf⟩ := qb1_some hf
  refine k_VI O 8 rfl (zX6_firstPieceOf (l := xl X) (D := xD X) (cI := cI) (cZ := cZ) (cQ := cQ) (h_t := h_T) (r_w := (h_w 0)) (r_L := r_L) (r_P := (h_P 0)) hq5) (gV mlX0_66 mvX6_firstPieceOf izX6) rfl rfl rfl hdX6_firstPieceOf ⟨Nat.le_of_ble_eq_true rfl, Nat.le_of_ble_eq_true rfl⟩ rfl 2 rfl rfl rfl rfl (Nat.le_of_ble_eq_true rfl) ⟨Nat.zero_le _, Nat.zero_le _⟩ [2] rfl rfl rfl ([nX0 cI cZ cQ h_t (h_w 0) (h_T 0) u_t, nX8 cI cZ cQ h_w u_w, nX6 cI cZ cQ h_T (h_w 0) r_L (h_P 0) u_T, nX4 cI cZ cQ h_P (h_w 0) u_P]) rfl dX0_addPiecesOf_5 ?_
  refine r_ist_n O 9 rfl rfl [(2, .int x5), (0, .ref (h_t 0)), (1, .int a1)] dX0_addPiecesOf_8 (by decide) rfl ?_
  refine r_ild_n O 10 rfl 0 rfl dX0_addPiecesOf_9 ?_
  refine r_ald_n O 11 rfl 1 rfl dX0_addPiecesOf_10 ?_
  refine r_get (ref := RX0) (C := RX0) (T := TX0) (N := 6) O 14 rfl inBX0 0 1 rfl rfl rfl (by decide) flX0_29 rfl rfl dX0_addPiecesOf_11 ?_
  refine r_ild_n O 15 rfl 2 rfl dX0_addPiecesOf_14 ?_
  obtain ⟨x15, hq15, hf⟩ := qb1_some hf
  refine k_VI O 18 rfl (zX6_pieceTotalOf (l := xl X) (D := xD X) (cI := cI) (cZ := cZ) (cQ := cQ) (h_t := h_T) (r_w := (h_w 0)) (r_L := r_L) (r_P := (h_P 0)) hq15) (gV mlX0_69 mvX6_pieceTotalOf izX6) rfl rfl rfl hdX6_pieceTotalOf ⟨Nat.le_of_ble_eq_true rfl, Nat.le_of_ble_eq_true rfl⟩ rfl 2 rfl rfl rfl rfl (Nat.le_of_ble_eq_true rfl) ⟨Nat.zero_le _, Nat.zero_le _⟩ [2] rfl rfl rfl ([nX0 cI cZ cQ h_t (h_w 0) (h_T 0) u_t, nX8 cI cZ cQ h_w u_w, nX6 cI cZ cQ h_T (h_w 0) r_L (h_P 0) u_T, nX4 cI cZ cQ h_P (h_w 0) u_P]) rfl dX0_addPiecesOf_15 ?_
  refine r_iadd O 19 rfl dX0_addPiecesOf_18 ?_
  obtain ⟨x19, ex19, hf⟩ := qn_some hf
  rw [← ex19]
  refine r_ist_n O 20 rfl rfl [(3, .int x19), (2, .int x5), (0, .ref (h_t 0)), (1, .int a1)] dX0_addPiecesOf_19 (by decide) rfl ?_
  refine r_ild_n O 21 rfl 1 rfl dX0_addPiecesOf_20 ?_
  refine r_ist O 23 rfl [(4, .int x5), (3, .int x19), (2, .int x5), (0, .ref (h_t 0)), (1, .int a1)] dX0_addPiecesOf_21 (by decide) rfl ?_
  refine r_lv [3, 1, 0] rfl ?_
  exact B23 FU _ _ _ hf
-- X0_arrangeNode
def rmX0_arrangeSubtree (n : Nat) : Room := { frames := 6 + 2 * n, cells := 0, slots := 0, locals := 127 + 46 * n }
def rmX0_arrangeNode (n : Nat) : Room := { frames := 6 + 1 + 2 * n, cells := 0, slots := 0, locals := 149 + 46 * n }
set_option maxHeartbeats 4000000 in
set_option maxRecDepth 100000 in
theorem zX0_arrangeNode {l : Launch} {D : va_G} {cI cZ cQ : ClassId} {h_t h_w h_T h_P : Nat → Nat} {r_L : Nat} {u_w u_T u_P u_t : Pk} {a1 : Int32} {a2 : Int32} {a3 : Int32} {a4 : Int32} {v_t : Pk} {n : Nat} {recM : Pk → Pk → Pk → Pk → Int32 → Int32 → Option (Pk)} (hrecM : (∀ (l : Launch) (D : va_G) (cI cZ cQ : ClassId) (h_t h_w h_T h_P : Nat → Nat) (r_L : Nat) (u_w u_T u_P u_t : Pk) (a1 : Int32) (a2 : Int32) (v_t : Pk), recM u_w u_T u_P u_t a1 a2 = some v_t → MV l yX0_arrangeSubtree wsX0_arrangeSubtree (rmX0_arrangeSubtree n) D (TY cI cZ cQ) [.ref (h_t 0), .int a1, .int a2] [nX0 cI cZ cQ h_t (h_w 0) (h_T 0) u_t, nX8 cI cZ cQ h_w u_w, nX6 cI cZ cQ h_T (h_w 0) r_L (h_P 0) u_T, nX4 cI cZ cQ h_P (h_w 0) u_P] [nX0 cI cZ cQ h_t (h_w 0) (h_T 0) v_t, nX8 cI cZ cQ h_w u_w, nX6 cI cZ cQ h_T (h_w 0) r_L (h_P 0) u_T, nX4 cI cZ cQ h_P (h_w 0) u_P])) (hf : fX0_arrangeNode recM u_w u_T u_P u_t a1 a2 a3 a4 = some v_t) : MV l yX0_arrangeNode wsX0_arrangeNode (rmX0_arrangeNode n) D (TY cI cZ cQ) [.ref (h_t 0), .int a1, .int a2, .int a3, .int a4] [nX0 cI cZ cQ h_t (h_w 0) (h_T 0) u_t, nX8 cI cZ cQ h_w u_w, nX6 cI cZ cQ h_T (h_w 0) r_L (h_P 0) u_T, nX4 cI cZ cQ h_P (h_w 0) u_P] [nX0 cI cZ cQ h_t (h_w 0) (h_T 0) v_t, nX8 cI cZ cQ h_w u_w, nX6 cI cZ cQ h_T (h_w 0) r_L (h_P 0) u_T, nX4 cI cZ cQ h_P (h_w 0) u_P] := by
  refine MV.of (own := RX0) (by decide +kernel) rfl rfl (Nat.le_of_ble_eq_true rfl) (lv0 := [(0, .ref (h_t 0)), (1, .int a1), (2, .int a2), (3, .int a3), (4, .int a4)]) rfl ?_
  intro X O E
  unfold fX0_arrangeNode at hf
  refine r_ald_n O 1 rfl 0 rfl dX0_arrangeNode_0 ?_
  refine r_ild_n O 2 rfl 1 rfl dX0_arrangeNode_1 ?_
  refine r_ild O 4 rfl 4 rfl dX0_arrangeNode_2 ?_
  refine r_ic O 5 rfl 1 (by decide) dX0_arrangeNode_4 ?_
  refine r_iadd O 6 rfl dX0_arrangeNode_5 ?_
  obtain ⟨p6_t, hq6, hf⟩ := qb1_some hf
  refine k_VV O 9 rfl (hrecM (xl X) (xD X) cI cZ cQ h_t h_w h_T h_P r_L _ _ _ _ _ _ _ hq6) (gV mlX0_39 mvX0_arrangeSubtree izX0) rfl rfl rfl hdX0_arrangeSubtree ⟨by simp [rmX0_arrangeSubtree, rmX0_arrangeNode] <;> omega, by simp [rmX0_arrangeSubtree, rmX0_arrangeNode] <;> omega⟩ rfl 0 rfl rfl rfl rfl (Nat.le_of_ble_eq_true rfl) ⟨Nat.zero_le _, Nat.zero_le _⟩ [0, 1, 2, 3] rfl rfl rfl ([nX0 cI cZ cQ h_t (h_w 0) (h_T 0) p6_t, nX8 cI cZ cQ h_w u_w, nX6 cI cZ cQ h_T (h_w 0) r_L (h_P 0) u_T, nX4 cI cZ cQ h_P (h_w 0) u_P]) rfl dX0_arrangeNode_6 ?_
  refine r_ald_n O 10 rfl 0 rfl dX0_arrangeNode_9 ?_
  refine r_ild_n O 11 rfl 2 rfl dX0_arrangeNode_10 ?_
  obtain ⟨p11_t, hq11, hf⟩ := qb1_some hf
  refine k_VV O 14 rfl (zX0_addPiecesOf (l := xl X) (D := xD X) (cI := cI) (cZ := cZ) (cQ := cQ) (h_t := h_t) (h_w := h_w) (h_T := h_T) (r_L := r_L) (h_P := h_P) hq11) (gV mlX0_62 mvX0_addPiecesOf izX0) rfl rfl rfl hdX0_addPiecesOf ⟨by simp [rmX0_addPiecesOf, rmX0_arrangeNode] <;> omega, by simp [rmX0_addPiecesOf, rmX0_arrangeNode] <;> omega⟩ rfl 0 rfl rfl rfl rfl (Nat.le_of_ble_eq_true rfl) ⟨Nat.zero_le _, Nat.zero_le _⟩ [0, 1, 2, 3] rfl rfl rfl ([nX0 cI cZ cQ h_t (h_w 0) (h_T 0) p11_t, nX8 cI cZ cQ h_w u_w, nX6 cI cZ cQ h_T (h_w 0) r_L (h_P 0) u_T, nX4 cI cZ cQ h_P (h_w 0) u_P]) rfl dX0_arrangeNode_11 ?_
  refine r_ald_n O 15 rfl 0 rfl dX0_arrangeNode_14 ?_
  refine r_ild_n O 16 rfl 3 rfl dX0_arrangeNode_15 ?_
  refine r_ild O 18 rfl 4 rfl dX0_arrangeNode_16 ?_
  refine r_ic O 19 rfl 1 (by decide) dX0_arrangeNode_18 ?_
  refine r_iadd O 20 rfl dX0_arrangeNode_19 ?_
  obtain ⟨p20_t, hq20, hf⟩ := qb1_some hf
  refine k_VV O 23 rfl (hrecM (xl X) (xD X) cI cZ cQ h_t h_w h_T h_P r_L _ _ _ _ _ _ _ hq20) (gV mlX0_39 mvX0_arrangeSubtree izX0) rfl rfl rfl hdX0_arrangeSubtree ⟨by simp [rmX0_arrangeSubtree, rmX0_arrangeNode] <;> omega, by simp [rmX0_arrangeSubtree, rmX0_arrangeNode] <;> omega⟩ rfl 0 rfl rfl rfl rfl (Nat.le_of_ble_eq_true rfl) ⟨Nat.zero_le _, Nat.zero_le _⟩ [0, 1, 2, 3] rfl rfl rfl ([nX0 cI cZ cQ h_t (h_w 0) (h_T 0) p20_t, nX8 cI cZ cQ h_w u_w, nX6 cI cZ cQ h_T (h_w 0) r_L (h_P 0) u_T, nX4 cI cZ cQ h_P (h_w 0) u_P]) rfl dX0_arrangeNode_20 ?_
  obtain g0 := qe1 hf
  exact r_vret2 O E (by rw [g0]) dX0_arrangeNode_23
-- X0_arrangeSubtree
set_option maxHeartbeats 4000000 in
set_option maxRecDepth 100000 in
theorem zX0_arrangeSubtree : ∀ (n : Nat) (l : Launch) (D : va_G) (cI cZ cQ : ClassId) (h_t h_w h_T h_P : Nat → Nat) (r_L : Nat) (u_w u_T u_P u_t : Pk) (a1 : Int32) (a2 : Int32) (v_t : Pk), fX0_arrangeSubtree n u_w u_T u_P u_t a1 a2 = some v_t → MV l yX0_arrangeSubtree wsX0_arrangeSubtree (rmX0_arrangeSubtree n) D (TY cI cZ cQ) [.ref (h_t 0), .int a1, .int a2] [nX0 cI cZ cQ h_t (h_w 0) (h_T 0) u_t, nX8 cI cZ cQ h_w u_w, nX6 cI cZ cQ h_T (h_w 0) r_L (h_P 0) u_T, nX4 cI cZ cQ h_P (h_w 0) u_P] [nX0 cI cZ cQ h_t (h_w 0) (h_T 0) v_t, nX8 cI cZ cQ h_w u_w, nX6 cI cZ cQ h_T (h_w 0) r_L (h_P 0) u_T, nX4 cI cZ cQ h_P (h_w 0) u_P] := by
  intro n
  induction n with
  | zero => exact fun _ _ _ _ _ _ _ _ _ _ _ _ _ _ _ _ _ hf => qno hf
  | succ n hrecM =>
    intro l D cI cZ cQ h_t h_w h_T h_P r_L u_w u_T u_P u_t a1 a2 v_t hf
    have hf : fX0_arrangeSubtree_s (fX0_arrangeSubtree n) u_w u_T u_P u_t a1 a2 = some v_t := hf
    generalize fX0_arrangeSubtree n = recM at hf hrecM
    refine MV.of (own := RX0) (by decide +kernel) rfl rfl (Nat.le_of_ble_eq_true rfl) (lv0 := [(0, .ref (h_t 0)), (1, .int a1), (2, .int a2)]) rfl ?_
    intro X O E
    unfold fX0_arrangeSubtree_s at hf
    refine r_ald_n O 1 rfl 0 rfl dX0_arrangeSubtree_0 ?_
    refine r_get (ref := RX0) (C := RX0) (T := TX0) (N := 6) O 4 rfl inBX0 0 1 rfl rfl rfl (by decide) flX0_29 rfl rfl dX0_arrangeSubtree_1 ?_
    refine r_ild_n O 5 rfl 1 rfl dX0_arrangeSubtree_4 ?_
    obtain ⟨x5, hq5, hf⟩ := qb1_some hf
    refine k_VZ O 8 rfl (zX6_hasNode (l := xl X) (D := xD X) (cI := cI) (cZ := cZ) (cQ := cQ) (h_t := h_T) (r_w := (h_w 0)) (r_L := r_L) (r_P := (h_P 0)) hq5) (gV mlX0_43 mvX6_hasNode izX6) rfl rfl rfl hdX6_hasNode ⟨by simp [rmX6_hasNode, rmX0_arrangeSubtree] <;> omega, by simp [rmX6_hasNode, rmX0_arrangeSubtree] <;> omega⟩ rfl 2 rfl rfl rfl rfl (Nat.le_of_ble_eq_true rfl) ⟨Nat.zero_le _, Nat.zero_le _⟩ [2] rfl rfl rfl ([nX0 cI cZ cQ h_t (h_w 0) (h_T 0) u_t, nX8 cI cZ cQ h_w u_w, nX6 cI cZ cQ h_T (h_w 0) r_L (h_P 0) u_T, nX4 cI cZ cQ h_P (h_w 0) u_P]) rfl dX0_arrangeSubtree_5 (fun hz5 => ?_)
    refine r_if_eq O 11 rfl 17 dX0_arrangeSubtree_8 (by decide) (fun hc8 => ?_) (fun hc8 => ?_)
    · rw [if_pos hc8] at hf
      obtain g0 := qe1 hf
      exact r_vret2 O E (by rw [g0]) dX0_arrangeSubtree_17
    · rw [if_neg hc8] at hf
      refine r_ild_n O 12 rfl 2 rfl dX0_arrangeSubtree_11 ?_
      refine r_bi O 14 rfl 12 (by decide) dX0_arrangeSubtree_12 ?_
      refine r_icmp_lt O 17 rfl 18 dX0_arrangeSubtree_14 (by decide) (fun hc14 => ?_) (fun hc14 => ?_)
      · rw [if_pos hc14] at hf
        refine r_ald_n O 19 rfl 0 rfl dX0_arrangeSubtree_18 ?_
        refine r_get (ref := RX0) (C := RX0) (T := TX0) (N := 6) O 22 rfl inBX0 0 1 rfl rfl rfl (by decide) flX0_29 rfl rfl dX0_arrangeSubtree_19 ?_
        refine r_ild_n O 23 rfl 1 rfl dX0_arrangeSubtree_22 ?_
        refine r_ald_n O 24 rfl 0 rfl dX0_arrangeSubtree_23 ?_
        refine r_get (ref := RX0) (C := RX0) (T := TX0) (N := 6) O 27 rfl inBX0 0 4 rfl rfl rfl (by decide) flX0_19 rfl rfl dX0_arrangeSubtree_24 ?_
        refine r_ald_n O 28 rfl 0 rfl dX0_arrangeSubtree_27 ?_
        refine r_get (ref := RX0) (C := RX0) (T := TX0) (N := 6) O 31 rfl inBX0 0 5 rfl rfl rfl (by decide) flX0_22 rfl rfl dX0_arrangeSubtree_28 ?_
        obtain ⟨x31, hq31, hf⟩ := qb1_some hf
        refine k_VZ O 34 rfl (zX6_isInFrontOrOnLine (l := xl X) (D := xD X) (cI := cI) (cZ := cZ) (cQ := cQ) (h_t := h_T) (h_w := h_w) (r_L := r_L) (r_P := (h_P 0)) hq31) (gV mlX0_47 mvX6_isInFrontOrOnLine izX6) rfl rfl rfl hdX6_isInFrontOrOnLine ⟨by simp [rmX6_isInFrontOrOnLine, rmX0_arrangeSubtree] <;> omega, by simp [rmX6_isInFrontOrOnLine, rmX0_arrangeSubtree] <;> omega⟩ rfl 2 rfl rfl rfl rfl (Nat.le_of_ble_eq_true rfl) ⟨Nat.zero_le _, Nat.zero_le _⟩ [2, 1] rfl rfl rfl ([nX0 cI cZ cQ h_t (h_w 0) (h_T 0) u_t, nX8 cI cZ cQ h_w u_w, nX6 cI cZ cQ h_T (h_w 0) r_L (h_P 0) u_T, nX4 cI cZ cQ h_P (h_w 0) u_P]) rfl dX0_arrangeSubtree_31 (fun hz31 => ?_)
        refine r_if_eq O 37 rfl 62 dX0_arrangeSubtree_34 (by decide) (fun hc34 => ?_) (fun hc34 => ?_)
        · rw [if_pos hc34] at hf
          refine r_ald_n O 63 rfl 0 rfl dX0_arrangeSubtree_62 ?_
          refine r_ald_n O 64 rfl 0 rfl dX0_arrangeSubtree_63 ?_
          refine r_get (ref := RX0) (C := RX0) (T := TX0) (N := 6) O 67 rfl inBX0 0 1 rfl rfl rfl (by decide) flX0_29 rfl rfl dX0_arrangeSubtree_64 ?_
          refine r_ild_n O 68 rfl 1 rfl dX0_arrangeSubtree_67 ?_
          obtain ⟨x68, hq68, hf⟩ := qb1_some hf
          refine k_VI O 71 rfl (zX6_frontOf (l := xl X) (D := xD X) (cI := cI) (cZ := cZ) (cQ := cQ) (h_t := h_T) (r_w := (h_w 0)) (r_L := r_L) (r_P := (h_P 0)) hq68) (gV mlX0_55 mvX6_frontOf izX6) rfl rfl rfl hdX6_frontOf ⟨by simp [rmX6_frontOf, rmX0_arrangeSubtree] <;> omega, by simp [rmX6_frontOf, rmX0_arrangeSubtree] <;> omega⟩ rfl 2 rfl rfl rfl rfl (Nat.le_of_ble_eq_true rfl) ⟨Nat.zero_le _, Nat.zero_le _⟩ [2] rfl rfl rfl ([nX0 cI cZ cQ h_t (h_w 0) (h_T 0) u_t, nX8 cI cZ cQ h_w u_w, nX6 cI cZ cQ h_T (h_w 0) r_L (h_P 0) u_T, nX4 cI cZ cQ h_P (h_w 0) u_P]) rfl dX0_arrangeSubtree_68 ?_
          refine r_ild_n O 72 rfl 1 rfl dX0_arrangeSubtree_71 ?_
          refine r_ald_n O 73 rfl 0 rfl dX0_arrangeSubtree_72 ?_
          refine r_get (ref := RX0) (C := RX0) (T := TX0) (N := 6) O 76 rfl inBX0 0 1 rfl rfl rfl (by decide) flX0_29 rfl rfl dX0_arrangeSubtree_73 ?_
          refine r_ild_n O 77 rfl 1 rfl dX0_arrangeSubtree_76 ?_
          obtain ⟨x77, hq77, hf⟩ := qb1_some hf
          refine k_VI O 80 rfl (zX6_backOf (l := xl X) (D := xD X) (cI := cI) (cZ := cZ) (cQ := cQ) (h_t := h_T) (r_w := (h_w 0)) (r_L := r_L) (r_P := (h_P 0)) hq77) (gV mlX0_51 mvX6_backOf izX6) rfl rfl rfl hdX6_backOf ⟨by simp [rmX6_backOf, rmX0_arrangeSubtree] <;> omega, by simp [rmX6_backOf, rmX0_arrangeSubtree] <;> omega⟩ rfl 2 rfl rfl rfl rfl (Nat.le_of_ble_eq_true rfl) ⟨Nat.zero_le _, Nat.zero_le _⟩ [2] rfl rfl rfl ([nX0 cI cZ cQ h_t (h_w 0) (h_T 0) u_t, nX8 cI cZ cQ h_w u_w, nX6 cI cZ cQ h_T (h_w 0) r_L (h_P 0) u_T, nX4 cI cZ cQ h_P (h_w 0) u_P]) rfl dX0_arrangeSubtree_77 ?_
          refine r_ild_n O 81 rfl 2 rfl dX0_arrangeSubtree_80 ?_
          obtain ⟨p81_t, hq81, hf⟩ := qb1_some hf
          refine k_VV O 84 rfl (zX0_arrangeNode (l := xl X) (D := xD X) (cI := cI) (cZ := cZ) (cQ := cQ) (h_t := h_t) (h_w := h_w) (h_T := h_T) (r_L := r_L) (h_P := h_P) hrecM hq81) (gV mlX0_58 mvX0_arrangeNode izX0) rfl rfl rfl hdX0_arrangeNode ⟨by simp [rmX0_arrangeNode, rmX0_arrangeSubtree] <;> omega, by simp [rmX0_arrangeNode, rmX0_arrangeSubtree] <;> omega⟩ rfl 0 rfl rfl rfl rfl (Nat.le_of_ble_eq_true rfl) ⟨Nat.zero_le _, Nat.zero_le _⟩ [0, 1, 2, 3] rfl rfl rfl ([nX0 cI cZ cQ h_t (h_w 0) (h_T 0) p81_t, nX8 cI cZ cQ h_w u_w, nX6 cI cZ cQ h_T (h_w 0) r_L (h_P 0) u_T, nX4 cI cZ cQ h_P (h_w 0) u_P]) rfl dX0_arrangeSubtree_81 ?_
          obtain g0 := qe1 hf
          exact r_vret2 O E (by rw [g0]) dX0_arrangeSubtree_84
        · rw [if_neg hc34] at hf
          refine r_ald_n O 38 rfl 0 rfl dX0_arrangeSubtree_37 ?_
          refine r_ald_n O 39 rfl 0 rfl dX0_arrangeSubtree_38 ?_
          refine r_get (ref := RX0) (C := RX0) (T := TX0) (N := 6) O 42 rfl inBX0 0 1 rfl rfl rfl (by decide) flX0_29 rfl rfl dX0_arrangeSubtree_39 ?_
          refine r_ild_n O 43 rfl 1 rfl dX0_arrangeSubtree_42 ?_
          obtain ⟨x43, hq43, hf⟩ := qb1_some hf
          refine k_VI O 46 rfl (zX6_backOf (l := xl X) (D := xD X) (cI := cI) (cZ := cZ) (cQ := cQ) (h_t := h_T) (r_w := (h_w 0)) (r_L := r_L) (r_P := (h_P 0)) hq43) (gV mlX0_51 mvX6_backOf izX6) rfl rfl rfl hdX6_backOf ⟨by simp [rmX6_backOf, rmX0_arrangeSubtree] <;> omega, by simp [rmX6_backOf, rmX0_arrangeSubtree] <;> omega⟩ rfl 2 rfl rfl rfl rfl (Nat.le_of_ble_eq_true rfl) ⟨Nat.zero_le _, Nat.zero_le _⟩ [2] rfl rfl rfl ([nX0 cI cZ cQ h_t (h_w 0) (h_T 0) u_t, nX8 cI cZ cQ h_w u_w, nX6 cI cZ cQ h_T (h_w 0) r_L (h_P 0) u_T, nX4 cI cZ cQ h_P (h_w 0) u_P]) rfl dX0_arrangeSubtree_43 ?_
          refine r_ild_n O 47 rfl 1 rfl dX0_arrangeSubtree_46 ?_
          refine r_ald_n O 48 rfl 0 rfl dX0_arrangeSubtree_47 ?_
          refine r_get (ref := RX0) (C := RX0) (T := TX0) (N := 6) O 51 rfl inBX0 0 1 rfl rfl rfl (by decide) flX0_29 rfl rfl dX0_arrangeSubtree_48 ?_
          refine r_ild_n O 52 rfl 1 rfl dX0_arrangeSubtree_51 ?_
          obtain ⟨x52, hq52, hf⟩ := qb1_some hf
          refine k_VI O 55 rfl (zX6_frontOf (l := xl X) (D := xD X) (cI := cI) (cZ := cZ) (cQ := cQ) (h_t := h_T) (r_w := (h_w 0)) (r_L := r_L) (r_P := (h_P 0)) hq52) (gV mlX0_55 mvX6_frontOf izX6) rfl rfl rfl hdX6_frontOf ⟨by simp [rmX6_frontOf, rmX0_arrangeSubtree] <;> omega, by simp [rmX6_frontOf, rmX0_arrangeSubtree] <;> omega⟩ rfl 2 rfl rfl rfl rfl (Nat.le_of_ble_eq_true rfl) ⟨Nat.zero_le _, Nat.zero_le _⟩ [2] rfl rfl rfl ([nX0 cI cZ cQ h_t (h_w 0) (h_T 0) u_t, nX8 cI cZ cQ h_w u_w, nX6 cI cZ cQ h_T (h_w 0) r_L (h_P 0) u_T, nX4 cI cZ cQ h_P (h_w 0) u_P]) rfl dX0_arrangeSubtree_52 ?_
          refine r_ild_n O 56 rfl 2 rfl dX0_arrangeSubtree_55 ?_
          obtain ⟨p56_t, hq56, hf⟩ := qb1_some hf
          refine k_VV O 59 rfl (zX0_arrangeNode (l := xl X) (D := xD X) (cI := cI) (cZ := cZ) (cQ := cQ) (h_t := h_t) (h_w := h_w) (h_T := h_T) (r_L := r_L) (h_P := h_P) hrecM hq56) (gV mlX0_58 mvX0_arrangeNode izX0) rfl rfl rfl hdX0_arrangeNode ⟨by simp [rmX0_arrangeNode, rmX0_arrangeSubtree] <;> omega, by simp [rmX0_arrangeNode, rmX0_arrangeSubtree] <;> omega⟩ rfl 0 rfl rfl rfl rfl (Nat.le_of_ble_eq_true rfl) ⟨Nat.zero_le _, Nat.zero_le _⟩ [0, 1, 2, 3] rfl rfl rfl ([nX0 cI cZ cQ h_t (h_w 0) (h_T 0) p56_t, nX8 cI cZ cQ h_w u_w, nX6 cI cZ cQ h_T (h_w 0) r_L (h_P 0) u_T, nX4 cI cZ cQ h_P (h_w 0) u_P]) rfl dX0_arrangeSubtree_56 ?_
          refine r_goto O 84 dX0_arrangeSubtree_59 (by decide) ?_
          obtain g0 := qe1 hf
          exact r_vret2 O E (by rw [g0]) dX0_arrangeSubtree_84
      · rw [if_neg hc14] at hf
        obtain g0 := qe1 hf
        exact r_vret2 O E (by rw [g0]) dX0_arrangeSubtree_17
-- X0_arrange
def rmX0_arrange : Room := { frames := 39, cells := 0, slots := 0, locals := 885 }
set_option maxHeartbeats 4000000 in
set_option maxRecDepth 100000 in
theorem zX0_arrange {l : Launch} {D : va_G} {cI cZ cQ : ClassId} {h_t h_w h_T h_P : Nat → Nat} {r_L : Nat} {u_w u_T u_P u_t : Pk} {a1 : Int32} {a2 : Int32} {v_t : Pk} (hf : fX0_arrange u_w u_T u_P u_t a1 a2 = some v_t) : MV l yX0_arrange wsX0_arrange rmX0_arrange D (TY cI cZ cQ) [.ref (h_t 0), .int a1, .int a2] [nX0 cI cZ cQ h_t (h_w 0) (h_T 0) u_t, nX8 cI cZ cQ h_w u_w, nX6 cI cZ cQ h_T (h_w 0) r_L (h_P 0) u_T, nX4 cI cZ cQ h_P (h_w 0) u_P] [nX0 cI cZ cQ h_t (h_w 0) (h_T 0) v_t, nX8 cI cZ cQ h_w u_w, nX6 cI cZ cQ h_T (h_w 0) r_L (h_P 0) u_T, nX4 cI cZ cQ h_P (h_w 0) u_P] := by
  refine MV.of (own := RX0) (by decide +kernel) rfl rfl (Nat.le_of_ble_eq_true rfl) (lv0 := [(0, .ref (h_t 0)), (1, .int a1), (2, .int a2)]) rfl ?_
  intro X O E
  unfold fX0_arrange at hf
  refine r_ald_n O 1 rfl 0 rfl dX0_arrange_0 ?_
  refine r_ild_n O 2 rfl 1 rfl dX0_arrange_1 ?_
  obtain ⟨p2_t, ep2_t, hf⟩ := qn_some hf
  refine r_put (ref := RX0) (C := RX0) (T := TX0) (N := 6) O 5 rfl inBX0 tyX0 tyX0_ok nmX0 0 4 rfl rfl rfl (by decide) flX0_19 rfl rfl rfl rfl (Nat.le_of_ble_eq_true rfl) ([nX0 cI cZ cQ h_t (h_w 0) (h_T 0) p2_t, nX8 cI cZ cQ h_w u_w, nX6 cI cZ cQ h_T (h_w 0) r_L (h_P 0) u_T, nX4 cI cZ cQ h_P (h_w 0) u_P]) (by rw [ep2_t]; rfl) dX0_arrange_2 ?_
  refine r_ald_n O 6 rfl 0 rfl dX0_arrange_5 ?_
  refine r_ild_n O 7 rfl 2 rfl dX0_arrange_6 ?_
  obtain ⟨p7_t, ep7_t, hf⟩ := qn_some hf
  refine r_put (ref := RX0) (C := RX0) (T := TX0) (N := 6) O 10 rfl inBX0 tyX0 tyX0_ok nmX0 0 5 rfl rfl rfl (by decide) flX0_22 rfl rfl rfl rfl (Nat.le_of_ble_eq_true rfl) ([nX0 cI cZ cQ h_t (h_w 0) (h_T 0) p7_t, nX8 cI cZ cQ h_w u_w, nX6 cI cZ cQ h_T (h_w 0) r_L (h_P 0) u_T, nX4 cI cZ cQ h_P (h_w 0) u_P]) (by rw [ep7_t]; rfl) dX0_arrange_7 ?_
  refine r_ald_n O 11 rfl 0 rfl dX0_arrange_10 ?_
  refine r_ic O 12 rfl 0 (by decide) dX0_arrange_11 ?_
  obtain ⟨p12_t, ep12_t, hf⟩ := qn_some hf
  refine r_put (ref := RX0) (C := RX0) (T := TX0) (N := 6) O 15 rfl inBX0 tyX0 tyX0_ok nmX0 0 3 rfl rfl rfl (by decide) flX0_15 rfl rfl rfl rfl (Nat.le_of_ble_eq_true rfl) ([nX0 cI cZ cQ h_t (h_w 0) (h_T 0) p12_t, nX8 cI cZ cQ h_w u_w, nX6 cI cZ cQ h_T (h_w 0) r_L (h_P 0) u_T, nX4 cI cZ cQ h_P (h_w 0) u_P]) (by rw [ep12_t]; rfl) dX0_arrange_12 ?_
  refine r_ald_n O 16 rfl 0 rfl dX0_arrange_15 ?_
  refine r_ald_n O 17 rfl 0 rfl dX0_arrange_16 ?_
  refine r_get (ref := RX0) (C := RX0) (T := TX0) (N := 6) O 20 rfl inBX0 0 1 rfl rfl rfl (by decide) flX0_29 rfl rfl dX0_arrange_17 ?_
  obtain ⟨x20, hq20, hf⟩ := qb1_some hf
  refine k_VI O 23 rfl (zX6_rootSubtree (l := xl X) (D := xD X) (cI := cI) (cZ := cZ) (cQ := cQ) (h_t := h_T) (r_w := (h_w 0)) (r_L := r_L) (r_P := (h_P 0)) hq20) (gV mlX0_33 mvX6_rootSubtree izX6) rfl rfl rfl hdX6_rootSubtree ⟨Nat.le_of_ble_eq_true rfl, Nat.le_of_ble_eq_true rfl⟩ rfl 2 rfl rfl rfl rfl (Nat.le_of_ble_eq_true rfl) ⟨Nat.zero_le _, Nat.zero_le _⟩ [2] rfl rfl rfl ([nX0 cI cZ cQ h_t (h_w 0) (h_T 0) p12_t, nX8 cI cZ cQ h_w u_w, nX6 cI cZ cQ h_T (h_w 0) r_L (h_P 0) u_T, nX4 cI cZ cQ h_P (h_w 0) u_P]) rfl dX0_arrange_20 ?_
  refine r_ic O 24 rfl 0 (by decide) dX0_arrange_23 ?_
  obtain ⟨p24_t, hq24, hf⟩ := qb1_some hf
  refine k_VV O 27 rfl (zX0_arrangeSubtree 16 (xl X) (xD X) cI cZ cQ h_t h_w h_T h_P r_L _ _ _ _ _ _ _ hq24) (gV mlX0_39 mvX0_arrangeSubtree izX0) rfl rfl rfl hdX0_arrangeSubtree ⟨Nat.le_of_ble_eq_true rfl, Nat.le_of_ble_eq_true rfl⟩ rfl 0 rfl rfl rfl rfl (Nat.le_of_ble_eq_true rfl) ⟨Nat.zero_le _, Nat.zero_le _⟩ [0, 1, 2, 3] rfl rfl rfl ([nX0 cI cZ cQ h_t (h_w 0) (h_T 0) p24_t, nX8 cI cZ cQ h_w u_w, nX6 cI cZ cQ h_T (h_w 0) r_L (h_P 0) u_T, nX4 cI cZ cQ h_P (h_w 0) u_P]) rfl dX0_arrange_24 ?_
  obtain g0 := qe1 hf
  exact r_vret2 O E (by rw [g0]) dX0_arrange_27
-- X1_fewestPieces
def rmX1_fewestPieces : Room := { frames := 0, cells := 0, slots := 0, locals := 0 }
set_option maxHeartbeats 4000000 in
set_option maxRecDepth 100000 in
theorem zX1_fewestPieces {l : Launch} {D : va_G} {cI cZ cQ : ClassId} {h_t : Nat → Nat} {r_L : Nat} {u_t : Pk} {r0 : Int32} (hf : fX1_fewestPieces u_t = some r0) : MI l yX1_fewestPieces wsX1_fewestPieces rmX1_fewestPieces D (TY cI cZ cQ) [.ref (h_t 0)] [nX1 cI cZ cQ h_t r_L u_t] r0 [nX1 cI cZ cQ h_t r_L u_t] := by
  refine MI.of (own := RX1) (by decide +kernel) rfl rfl (Nat.le_of_ble_eq_true rfl) (lv0 := [(0, .ref (h_t 0))]) rfl ?_
  intro X O E
  unfold fX1_fewestPieces at hf
  refine r_ald_n O 1 rfl 0 rfl dX1_fewestPieces_0 ?_
  refine r_get (ref := RX1) (C := RX1) (T := TX1) (N := 3) O 4 rfl inBX1 0 1 rfl rfl rfl (by decide) flX1_9 rfl rfl dX1_fewestPieces_1 ?_
  obtain g0 := qe1 hf
  exact r_iret2 O E g0 rfl dX1_fewestPieces_4
-- X1_rootWall
def rmX1_rootWall : Room := { frames := 0, cells := 0, slots := 0, locals := 0 }
set_option maxHeartbeats 4000000 in
set_option maxRecDepth 100000 in
theorem zX1_rootWall {l : Launch} {D : va_G} {cI cZ cQ : ClassId} {h_t : Nat → Nat} {r_L : Nat} {u_t : Pk} {r0 : Int32} (hf : fX1_rootWall u_t = some r0) : MI l yX1_rootWall wsX1_rootWall rmX1_rootWall D (TY cI cZ cQ) [.ref (h_t 0)] [nX1 cI cZ cQ h_t r_L u_t] r0 [nX1 cI cZ cQ h_t r_L u_t] := by
  refine MI.of (own := RX1) (by decide +kernel) rfl rfl (Nat.le_of_ble_eq_true rfl) (lv0 := [(0, .ref (h_t 0))]) rfl ?_
  intro X O E
  unfold fX1_rootWall at hf
  refine r_ald_n O 1 rfl 0 rfl dX1_rootWall_0 ?_
  refine r_get (ref := RX1) (C := RX1) (T := TX1) (N := 3) O 4 rfl inBX1 0 2 rfl rfl rfl (by decide) flX1_15 rfl rfl dX1_rootWall_1 ?_
  obtain g0 := qe1 hf
  exact r_iret2 O E g0 rfl dX1_rootWall_4
-- X1_fewestWith
def rmX1_fewestOf (n : Nat) : Room := { frames := 5 + 2 * n, cells := 0, slots := 0, locals := 128 + 55 * n }
def rmX1_fewestWith (n : Nat) : Room := { frames := 5 + 1 + 2 * n, cells := 0, slots := 0, locals := 154 + 55 * n }
set_option maxHeartbeats 4000000 in
set_option maxRecDepth 100000 in
theorem zX1_fewestWith {l : Launch} {D : va_G} {cI cZ cQ : ClassId} {h_t h_L h_w : Nat → Nat} {u_t u_w u_L : Pk} {a1 : Int32} {a2 : Int32} {a3 : Int32} {a4 : Int32} {r0 : Int32} {v_L : Pk} {n : Nat} {recM : Pk → Pk → Pk → Int32 → Int32 → Int32 → Option (Int32 × Pk)} (hrecM : (∀ (l : Launch) (D : va_G) (cI cZ cQ : ClassId) (h_t h_L h_w : Nat → Nat) (u_t u_w u_L : Pk) (a1 : Int32) (a2 : Int32) (a3 : Int32) (r0 : Int32) (v_L : Pk), recM u_t u_w u_L a1 a2 a3 = some (r0, v_L) → MI l yX1_fewestOf wsX1_fewestOf (rmX1_fewestOf n) D (TY cI cZ cQ) [.ref (h_t 0), .int a1, .int a2, .int a3] [nX1 cI cZ cQ h_t (h_L 0) u_t, nX4 cI cZ cQ h_L (h_w 0) u_L, nX8 cI cZ cQ h_w u_w] r0 [nX1 cI cZ cQ h_t (h_L 0) u_t, nX4 cI cZ cQ h_L (h_w 0) v_L, nX8 cI cZ cQ h_w u_w])) (hf : fX1_fewestWith recM u_t u_w u_L a1 a2 a3 a4 = some (r0, v_L)) : MI l yX1_fewestWith wsX1_fewestWith (rmX1_fewestWith n) D (TY cI cZ cQ) [.ref (h_t 0), .int a1, .int a2, .int a3, .int a4] [nX1 cI cZ cQ h_t (h_L 0) u_t, nX4 cI cZ cQ h_L (h_w 0) u_L, nX8 cI cZ cQ h_w u_w] r0 [nX1 cI cZ cQ h_t (h_L 0) u_t, nX4 cI cZ cQ h_L (h_w 0) v_L, nX8 cI cZ cQ h_w u_w] := by
  refine MI.of (own := RX1) (by decide +kernel) rfl rfl (Nat.le_of_ble_eq_true rfl) (lv0 := [(0, .ref (h_t 0)), (1, .int a1), (2, .int a2), (3, .int a3), (4, .int a4)]) rfl ?_
  intro X O E
  have B118 : ∀ (rec96 : Pk → Int32 → Int32 → Int32 → Int32 → Option (Int32 × Pk)), (∀ (w_L : Pk) (y1 : Int32) (y3 : Int32) (y8 : Int32) (y9 : Int32), rec96 w_L y1 y3 y8 y9 = some (r0, v_L) → BK X 10 0 0 96 ([nX1 cI cZ cQ h_t (h_L 0) u_t, nX4 cI cZ cQ h_L (h_w 0) w_L, nX8 cI cZ cQ h_w u_w]) [(0, .ref (h_t 0)), (1, .int y1), (3, .int y3), (8, .int y8), (9, .int y9)] []) → ∀ (w_L : Pk) (y1 : Int32) (y3 : Int32) (y8 : Int32) (y9 : Int32), fX1_fewestWith_b118 recM rec96 u_t u_w w_L y1 y3 y8 y9 = some (r0, v_L) → BK X 10 0 0 118 ([nX1 cI cZ cQ h_t (h_L 0) u_t, nX4 cI cZ cQ h_L (h_w 0) w_L, nX8 cI cZ cQ h_w u_w]) [(0, .ref (h_t 0)), (1, .int y1), (3, .int y3), (8, .int y8), (9, .int y9)] [] := by
    intro rec96 hrec96 w_L y1 y3 y8 y9 hf
    unfold fX1_fewestWith_b118 at hf
    obtain ⟨x118, ex118, hf⟩ := qn_some hf
    refine r_iinc O 121 rfl x118 4 rfl (by rw [ex118]; rfl) [(9, .int x118), (0, .ref (h_t 0)), (1, .int y1), (3, .int y3), (8, .int y8)] dX1_fewestWith_118 (by decide) rfl ?_
    refine r_goto O 96 dX1_fewestWith_121 (by decide) ?_
    refine r_lv [1, 2, 3, 4, 0] rfl ?_
    exact hrec96 _ _ _ _ _ hf
  have B96 : ∀ n : Nat, ∀ (w_L : Pk) (y1 : Int32) (y3 : Int32) (y8 : Int32) (y9 : Int32), fX1_fewestWith_b96 recM u_t u_w n w_L y1 y3 y8 y9 = some (r0, v_L) → BK X 10 0 0 96 ([nX1 cI cZ cQ h_t (h_L 0) u_t, nX4 cI cZ cQ h_L (h_w 0) w_L, nX8 cI cZ cQ h_w u_w]) [(0, .ref (h_t 0)), (1, .int y1), (3, .int y3), (8, .int y8), (9, .int y9)] [] := by
    intro n
    induction n with
    | zero => exact fun _ _ _ _ _ hf => qno hf
    | succ n hrec96 =>
      intro w_L y1 y3 y8 y9 hf
      have hf : fX1_fewestWith_b96_s recM (fX1_fewestWith_b96 recM u_t u_w n) u_t u_w w_L y1 y3 y8 y9 = some (r0, v_L) := hf
      generalize fX1_fewestWith_b96 recM u_t u_w n = rec96 at hf hrec96
      unfold fX1_fewestWith_b96_s at hf
      refine r_ild O 98 rfl 4 rfl dX1_fewestWith_96 ?_
      refine r_ild_n O 99 rfl 2 rfl dX1_fewestWith_98 ?_
      refine r_icmp_ge O 102 rfl 124 dX1_fewestWith_99 (by decide) (fun hc99 => ?_) (fun hc99 => ?_)
      · rw [if_pos hc99] at hf
        refine r_ild O 126 rfl 3 rfl dX1_fewestWith_124 ?_
        obtain ⟨g0, g1⟩ := qe2 hf
        exact r_iret2 O E g0 (by rw [g1]) dX1_fewestWith_126
      · rw [if_neg hc99] at hf
        refine r_ald_n O 103 rfl 0 rfl dX1_fewestWith_102 ?_
        refine r_get (ref := RX1) (C := RX1) (T := TX1) (N := 3) O 106 rfl inBX1 0 0 rfl rfl rfl (by decide) flX1_23 rfl rfl dX1_fewestWith_103 ?_
        refine r_ild O 108 rfl 4 rfl dX1_fewestWith_106 ?_
        refine r_ild_n O 109 rfl 1 rfl dX1_fewestWith_108 ?_
        obtain ⟨x109, hq109, hf⟩ := qb1_some hf
        refine k_VI O 112 rfl (zX4_placeOf (l := xl X) (D := xD X) (cI := cI) (cZ := cZ) (cQ := cQ) (h_t := h_L) (h_w := h_w) hq109) (gV mlX1_55 mvX4_placeOf izX4) rfl rfl rfl hdX4_placeOf ⟨by simp [rmX4_placeOf, rmX1_fewestWith] <;> omega, by simp [rmX4_placeOf, rmX1_fewestWith] <;> omega⟩ rfl 1 rfl rfl rfl rfl (Nat.le_of_ble_eq_true rfl) ⟨Nat.zero_le _, Nat.zero_le _⟩ [1, 2] rfl rfl rfl ([nX1 cI cZ cQ h_t (h_L 0) u_t, nX4 cI cZ cQ h_L (h_w 0) w_L, nX8 cI cZ cQ h_w u_w]) rfl dX1_fewestWith_109 ?_
        refine r_if_ne O 115 rfl 118 dX1_fewestWith_112 (by decide) (fun hc112 => ?_) (fun hc112 => ?_)
        · rw [if_neg hc112] at hf
          exact B118 rec96 hrec96 _ _ _ _ _ hf
        · rw [if_pos hc112] at hf
          obtain ⟨x115, ex115, hf⟩ := qn_some hf
          refine r_iinc O 118 rfl x115 3 rfl (by rw [ex115]; rfl) [(8, .int x115), (0, .ref (h_t 0)), (1, .int y1), (3, .int y3), (9, .int y9)] dX1_fewestWith_115 (by decide) rfl ?_
          refine r_lv [1, 2, 3, 0, 4] rfl ?_
          exact B118 rec96 hrec96 _ _ _ _ _ hf
  unfold fX1_fewestWith at hf
  refine r_ald_n O 1 rfl 0 rfl dX1_fewestWith_0 ?_
  refine r_get (ref := RX1) (C := RX1) (T := TX1) (N := 3) O 4 rfl inBX1 0 0 rfl rfl rfl (by decide) flX1_23 rfl rfl dX1_fewestWith_1 ?_
  obtain ⟨x4, hq4, hf⟩ := qb1_some hf
  refine k_VI O 7 rfl (zX4_size (l := xl X) (D := xD X) (cI := cI) (cZ := cZ) (cQ := cQ) (h_t := h_L) (r_w := (h_w 0)) hq4) (gV mlX1_35 mvX4_size izX4) rfl rfl rfl hdX4_size ⟨by simp [rmX4_size, rmX1_fewestWith] <;> omega, by simp [rmX4_size, rmX1_fewestWith] <;> omega⟩ rfl 1 rfl rfl rfl rfl (Nat.le_of_ble_eq_true rfl) ⟨Nat.zero_le _, Nat.zero_le _⟩ [1] rfl rfl rfl ([nX1 cI cZ cQ h_t (h_L 0) u_t, nX4 cI cZ cQ h_L (h_w 0) u_L, nX8 cI cZ cQ h_w u_w]) rfl dX1_fewestWith_4 ?_
  refine r_ist O 9 rfl [(5, .int x4), (0, .ref (h_t 0)), (1, .int a1), (2, .int a2), (3, .int a3), (4, .int a4)] dX1_fewestWith_7 (by decide) rfl ?_
  refine r_ald_n O 10 rfl 1 rfl dX1_fewestWith_9 ?_
  refine r_get (ref := RX1) (C := RX1) (T := TX1) (N := 3) O 13 rfl inBX1 0 0 rfl rfl rfl (by decide) flX1_23 rfl rfl dX1_fewestWith_10 ?_
  refine r_ald_n O 14 rfl 1 rfl dX1_fewestWith_13 ?_
  refine r_get (ref := RX1) (C := RX1) (T := TX1) (N := 3) O 17 rfl inBX1 0 0 rfl rfl rfl (by decide) flX1_23 rfl rfl dX1_fewestWith_14 ?_
  refine r_ild_n O 18 rfl 3 rfl dX1_fewestWith_17 ?_
  refine r_ild_n O 19 rfl 4 rfl dX1_fewestWith_18 ?_
  refine r_ild_n O 20 rfl 2 rfl dX1_fewestWith_19 ?_
  refine r_ic O 21 rfl 1 (by decide) dX1_fewestWith_20 ?_
  obtain ⟨p21_L, hq21, hf⟩ := qb1_some hf
  refine k_VV O 24 rfl (zX4_addSide_a (l := xl X) (D := xD X) (cI := cI) (cZ := cZ) (cQ := cQ) (h_t := h_L) (h_w := h_w) hq21) (gV mlX1_47 mvX4_addSide izX4) rfl rfl rfl hdX4_addSide ⟨by simp [rmX4_addSide_a, rmX1_fewestWith] <;> omega, by simp [rmX4_addSide_a, rmX1_fewestWith] <;> omega⟩ rfl 1 rfl rfl rfl rfl (Nat.le_of_ble_eq_true rfl) ⟨Nat.zero_le _, Nat.zero_le _⟩ [1, 2] rfl rfl rfl ([nX1 cI cZ cQ h_t (h_L 0) u_t, nX4 cI cZ cQ h_L (h_w 0) p21_L, nX8 cI cZ cQ h_w u_w]) rfl dX1_fewestWith_21 ?_
  refine r_ald_n O 25 rfl 1 rfl dX1_fewestWith_24 ?_
  refine r_get (ref := RX1) (C := RX1) (T := TX1) (N := 3) O 28 rfl inBX1 0 0 rfl rfl rfl (by decide) flX1_23 rfl rfl dX1_fewestWith_25 ?_
  obtain ⟨x28, hq28, hf⟩ := qb1_some hf
  refine k_VI O 31 rfl (zX4_size (l := xl X) (D := xD X) (cI := cI) (cZ := cZ) (cQ := cQ) (h_t := h_L) (r_w := (h_w 0)) hq28) (gV mlX1_35 mvX4_size izX4) rfl rfl rfl hdX4_size ⟨by simp [rmX4_size, rmX1_fewestWith] <;> omega, by simp [rmX4_size, rmX1_fewestWith] <;> omega⟩ rfl 1 rfl rfl rfl rfl (Nat.le_of_ble_eq_true rfl) ⟨Nat.zero_le _, Nat.zero_le _⟩ [1] rfl rfl rfl ([nX1 cI cZ cQ h_t (h_L 0) u_t, nX4 cI cZ cQ h_L (h_w 0) p21_L, nX8 cI cZ cQ h_w u_w]) rfl dX1_fewestWith_28 ?_
  refine r_ist O 33 rfl [(6, .int x28), (5, .int x4), (0, .ref (h_t 0)), (1, .int a1), (2, .int a2), (3, .int a3), (4, .int a4)] dX1_fewestWith_31 (by decide) rfl ?_
  refine r_ald_n O 34 rfl 2 rfl dX1_fewestWith_33 ?_
  refine r_get (ref := RX1) (C := RX1) (T := TX1) (N := 3) O 37 rfl inBX1 0 0 rfl rfl rfl (by decide) flX1_23 rfl rfl dX1_fewestWith_34 ?_
  refine r_ald_n O 38 rfl 2 rfl dX1_fewestWith_37 ?_
  refine r_get (ref := RX1) (C := RX1) (T := TX1) (N := 3) O 41 rfl inBX1 0 0 rfl rfl rfl (by decide) flX1_23 rfl rfl dX1_fewestWith_38 ?_
  refine r_ild_n O 42 rfl 4 rfl dX1_fewestWith_41 ?_
  refine r_ild_n O 43 rfl 5 rfl dX1_fewestWith_42 ?_
  refine r_ild_n O 44 rfl 3 rfl dX1_fewestWith_43 ?_
  refine r_ic O 45 rfl 2 (by decide) dX1_fewestWith_44 ?_
  obtain ⟨p45_L, hq45, hf⟩ := qb1_some hf
  refine k_VV O 48 rfl (zX4_addSide_a (l := xl X) (D := xD X) (cI := cI) (cZ := cZ) (cQ := cQ) (h_t := h_L) (h_w := h_w) hq45) (gV mlX1_47 mvX4_addSide izX4) rfl rfl rfl hdX4_addSide ⟨by simp [rmX4_addSide_a, rmX1_fewestWith] <;> omega, by simp [rmX4_addSide_a, rmX1_fewestWith] <;> omega⟩ rfl 1 rfl rfl rfl rfl (Nat.le_of_ble_eq_true rfl) ⟨Nat.zero_le _, Nat.zero_le _⟩ [1, 2] rfl rfl rfl ([nX1 cI cZ cQ h_t (h_L 0) u_t, nX4 cI cZ cQ h_L (h_w 0) p45_L, nX8 cI cZ cQ h_w u_w]) rfl dX1_fewestWith_45 ?_
  refine r_ald_n O 49 rfl 2 rfl dX1_fewestWith_48 ?_
  refine r_get (ref := RX1) (C := RX1) (T := TX1) (N := 3) O 52 rfl inBX1 0 0 rfl rfl rfl (by decide) flX1_23 rfl rfl dX1_fewestWith_49 ?_
  obtain ⟨x52, hq52, hf⟩ := qb1_some hf
  refine k_VI O 55 rfl (zX4_size (l := xl X) (D := xD X) (cI := cI) (cZ := cZ) (cQ := cQ) (h_t := h_L) (r_w := (h_w 0)) hq52) (gV mlX1_35 mvX4_size izX4) rfl rfl rfl hdX4_size ⟨by simp [rmX4_size, rmX1_fewestWith] <;> omega, by simp [rmX4_size, rmX1_fewestWith] <;> omega⟩ rfl 1 rfl rfl rfl rfl (Nat.le_of_ble_eq_true rfl) ⟨Nat.zero_le _, Nat.zero_le _⟩ [1] rfl rfl rfl ([nX1 cI cZ cQ h_t (h_L 0) u_t, nX4 cI cZ cQ h_L (h_w 0) p45_L, nX8 cI cZ cQ h_w u_w]) rfl dX1_fewestWith_52 ?_
  refine r_ist O 57 rfl [(7, .int x52), (6, .int x28), (5, .int x4), (0, .ref (h_t 0)), (1, .int a1), (2, .int a2), (3, .int a3), (4, .int a4)] dX1_fewestWith_55 (by decide) rfl ?_
  refine r_ald_n O 58 rfl 3 rfl dX1_fewestWith_57 ?_
  refine r_ild O 60 rfl 2 rfl dX1_fewestWith_58 ?_
  refine r_ild O 62 rfl 1 rfl dX1_fewestWith_60 ?_
  refine r_ild O 64 rfl 7 rfl dX1_fewestWith_62 ?_
  refine r_ic O 65 rfl 1 (by decide) dX1_fewestWith_64 ?_
  refine r_iadd O 66 rfl dX1_fewestWith_65 ?_
  obtain ⟨x66, p66_L, hq66, hf⟩ := qb2_some hf
  refine k_VI O 69 rfl (hrecM (xl X) (xD X) cI cZ cQ h_t h_L h_w _ _ _ _ _ _ _ _ hq66) (gV mlX1_51 mvX1_fewestOf izX1) rfl rfl rfl hdX1_fewestOf ⟨by simp [rmX1_fewestOf, rmX1_fewestWith] <;> omega, by simp [rmX1_fewestOf, rmX1_fewestWith] <;> omega⟩ rfl 0 rfl rfl rfl rfl (Nat.le_of_ble_eq_true rfl) ⟨Nat.zero_le _, Nat.zero_le _⟩ [0, 1, 2] rfl rfl rfl ([nX1 cI cZ cQ h_t (h_L 0) u_t, nX4 cI cZ cQ h_L (h_w 0) p66_L, nX8 cI cZ cQ h_w u_w]) rfl dX1_fewestWith_66 ?_
  refine r_ald_n O 70 rfl 3 rfl dX1_fewestWith_69 ?_
  refine r_ild O 72 rfl 1 rfl dX1_fewestWith_70 ?_
  refine r_ild O 74 rfl 0 rfl dX1_fewestWith_72 ?_
  refine r_ild O 76 rfl 7 rfl dX1_fewestWith_74 ?_
  refine r_ic O 77 rfl 1 (by decide) dX1_fewestWith_76 ?_
  refine r_iadd O 78 rfl dX1_fewestWith_77 ?_
  obtain ⟨x78, p78_L, hq78, hf⟩ := qb2_some hf
  refine k_VI O 81 rfl (hrecM (xl X) (xD X) cI cZ cQ h_t h_L h_w _ _ _ _ _ _ _ _ hq78) (gV mlX1_51 mvX1_fewestOf izX1) rfl rfl rfl hdX1_fewestOf ⟨by simp [rmX1_fewestOf, rmX1_fewestWith] <;> omega, by simp [rmX1_fewestOf, rmX1_fewestWith] <;> omega⟩ rfl 0 rfl rfl rfl rfl (Nat.le_of_ble_eq_true rfl) ⟨Nat.zero_le _, Nat.zero_le _⟩ [0, 1, 2] rfl rfl rfl ([nX1 cI cZ cQ h_t (h_L 0) u_t, nX4 cI cZ cQ h_L (h_w 0) p78_L, nX8 cI cZ cQ h_w u_w]) rfl dX1_fewestWith_78 ?_
  refine r_iadd O 82 rfl dX1_fewestWith_81 ?_
  obtain ⟨x82, ex82, hf⟩ := qn_some hf
  rw [← ex82]
  refine r_ist O 84 rfl [(8, .int x82), (7, .int x52), (6, .int x28), (5, .int x4), (0, .ref (h_t 0)), (1, .int a1), (2, .int a2), (3, .int a3), (4, .int a4)] dX1_fewestWith_82 (by decide) rfl ?_
  refine r_ald_n O 85 rfl 4 rfl dX1_fewestWith_84 ?_
  refine r_get (ref := RX1) (C := RX1) (T := TX1) (N := 3) O 88 rfl inBX1 0 0 rfl rfl rfl (by decide) flX1_23 rfl rfl dX1_fewestWith_85 ?_
  refine r_ild O 90 rfl 3 rfl dX1_fewestWith_88 ?_
  obtain ⟨p90_L, hq90, hf⟩ := qb1_some hf
  refine k_VV O 93 rfl (zX4_shorten (l := xl X) (D := xD X) (cI := cI) (cZ := cZ) (cQ := cQ) (h_t := h_L) (r_w := (h_w 0)) hq90) (gV mlX1_27 mvX4_shorten izX4) rfl rfl rfl hdX4_shorten ⟨by simp [rmX4_shorten, rmX1_fewestWith] <;> omega, by simp [rmX4_shorten, rmX1_fewestWith] <;> omega⟩ rfl 1 rfl rfl rfl rfl (Nat.le_of_ble_eq_true rfl) ⟨Nat.zero_le _, Nat.zero_le _⟩ [1] rfl rfl rfl ([nX1 cI cZ cQ h_t (h_L 0) u_t, nX4 cI cZ cQ h_L (h_w 0) p90_L, nX8 cI cZ cQ h_w u_w]) rfl dX1_fewestWith_90 ?_
  refine r_ild_n O 94 rfl 6 rfl dX1_fewestWith_93 ?_
  refine r_ist O 96 rfl [(9, .int a2), (8, .int x82), (7, .int x52), (6, .int x28), (5, .int x4), (0, .ref (h_t 0)), (1, .int a1), (2, .int a2), (3, .int a3), (4, .int a4)] dX1_fewestWith_94 (by decide) rfl ?_
  refine r_lv [5, 6, 8, 1, 0] rfl ?_
  exact B96 FU _ _ _ _ _ hf
-- X1_fewestOf
set_option maxHeartbeats 4000000 in
set_option maxRecDepth 100000 in
theorem zX1_fewestOf : ∀ (n : Nat) (l : Launch) (D : va_G) (cI cZ cQ : ClassId) (h_t h_L h_w : Nat → Nat) (u_t u_w u_L : Pk) (a1 : Int32) (a2 : Int32) (a3 : Int32) (r0 : Int32) (v_L : Pk), fX1_fewestOf n u_t u_w u_L a1 a2 a3 = some (r0, v_L) → MI l yX1_fewestOf wsX1_fewestOf (rmX1_fewestOf n) D (TY cI cZ cQ) [.ref (h_t 0), .int a1, .int a2, .int a3] [nX1 cI cZ cQ h_t (h_L 0) u_t, nX4 cI cZ cQ h_L (h_w 0) u_L, nX8 cI cZ cQ h_w u_w] r0 [nX1 cI cZ cQ h_t (h_L 0) u_t, nX4 cI cZ cQ h_L (h_w 0) v_L, nX8 cI cZ cQ h_w u_w] := by
  intro n
  induction n with
  | zero => exact fun _ _ _ _ _ _ _ _ _ _ _ _ _ _ _ _ hf => qno hf
  | succ n hrecM =>
    intro l D cI cZ cQ h_t h_L h_w u_t u_w u_L a1 a2 a3 r0 v_L hf
    have hf : fX1_fewestOf_s (fX1_fewestOf n) u_t u_w u_L a1 a2 a3 = some (r0, v_L) := hf
    generalize fX1_fewestOf n = recM at hf hrecM
    refine MI.of (own := RX1) (by decide +kernel) rfl rfl (Nat.le_of_ble_eq_true rfl) (lv0 := [(0, .ref (h_t 0)), (1, .int a1), (2, .int a2), (3, .int a3)]) rfl ?_
    intro X O E
    have B58 : ∀ (rec18 : Pk → Int32 → Int32 → Int32 → Int32 → Int32 → Option (Int32 × Pk)), (∀ (w_L : Pk) (y1 : Int32) (y2 : Int32) (y3 : Int32) (y4 : Int32) (y5 : Int32), rec18 w_L y1 y2 y3 y4 y5 = some (r0, v_L) → BK X 7 0 0 18 ([nX1 cI cZ cQ h_t (h_L 0) u_t, nX4 cI cZ cQ h_L (h_w 0) w_L, nX8 cI cZ cQ h_w u_w]) [(0, .ref (h_t 0)), (1, .int y1), (2, .int y2), (3, .int y3), (4, .int y4), (5, .int y5)] []) → ∀ (w_L : Pk) (y1 : Int32) (y2 : Int32) (y3 : Int32) (y4 : Int32) (y5 : Int32), fX1_fewestOf_b58 recM rec18 u_t u_w w_L y1 y2 y3 y4 y5 = some (r0, v_L) → BK X 7 0 0 58 ([nX1 cI cZ cQ h_t (h_L 0) u_t, nX4 cI cZ cQ h_L (h_w 0) w_L, nX8 cI cZ cQ h_w u_w]) [(0, .ref (h_t 0)), (1, .int y1), (2, .int y2), (3, .int y3), (4, .int y4), (5, .int y5)] [] := by
      intro rec18 hrec18 w_L y1 y2 y3 y4 y5 hf
      unfold fX1_fewestOf_b58 at hf
      obtain ⟨x58, ex58, hf⟩ := qn_some hf
      refine r_iinc O 61 rfl x58 5 rfl (by rw [ex58]; rfl) [(5, .int x58), (0, .ref (h_t 0)), (1, .int y1), (2, .int y2), (3, .int y3), (4, .int y4)] dX1_fewestOf_58 (by decide) rfl ?_
      refine r_goto O 18 dX1_fewestOf_61 (by decide) ?_
      refine r_lv [1, 2, 3, 4, 5, 0] rfl ?_
      exact hrec18 _ _ _ _ _ _ hf
    have B54 : ∀ (rec18 : Pk → Int32 → Int32 → Int32 → Int32 → Int32 → Option (Int32 × Pk)), (∀ (w_L : Pk) (y1 : Int32) (y2 : Int32) (y3 : Int32) (y4 : Int32) (y5 : Int32), rec18 w_L y1 y2 y3 y4 y5 = some (r0, v_L) → BK X 7 0 0 18 ([nX1 cI cZ cQ h_t (h_L 0) u_t, nX4 cI cZ cQ h_L (h_w 0) w_L, nX8 cI cZ cQ h_w u_w]) [(0, .ref (h_t 0)), (1, .int y1), (2, .int y2), (3, .int y3), (4, .int y4), (5, .int y5)] []) → ∀ (w_L : Pk) (y1 : Int32) (y2 : Int32) (y3 : Int32) (y5 : Int32) (y6 : Int32), fX1_fewestOf_b54 recM rec18 u_t u_w w_L y1 y2 y3 y5 y6 = some (r0, v_L) → BK X 7 0 0 54 ([nX1 cI cZ cQ h_t (h_L 0) u_t, nX4 cI cZ cQ h_L (h_w 0) w_L, nX8 cI cZ cQ h_w u_w]) [(0, .ref (h_t 0)), (1, .int y1), (2, .int y2), (3, .int y3), (5, .int y5), (6, .int y6)] [] := by
      intro rec18 hrec18 w_L y1 y2 y3 y5 y6 hf
      unfold fX1_fewestOf_b54 at hf
      refine r_ild O 56 rfl 5 rfl dX1_fewestOf_54 ?_
      refine r_ist O 58 rfl [(4, .int y6), (0, .ref (h_t 0)), (1, .int y1), (2, .int y2), (3, .int y3), (5, .int y5), (6, .int y6)] dX1_fewestOf_56 (by decide) rfl ?_
      refine r_lv [1, 2, 3, 4, 0, 5] rfl ?_
      exact B58 rec18 hrec18 _ _ _ _ _ _ hf
    have B18 : ∀ n : Nat, ∀ (w_L : Pk) (y1 : Int32) (y2 : Int32) (y3 : Int32) (y4 : Int32) (y5 : Int32), fX1_fewestOf_b18 recM u_t u_w n w_L y1 y2 y3 y4 y5 = some (r0, v_L) → BK X 7 0 0 18 ([nX1 cI cZ cQ h_t (h_L 0) u_t, nX4 cI cZ cQ h_L (h_w 0) w_L, nX8 cI cZ cQ h_w u_w]) [(0, .ref (h_t 0)), (1, .int y1), (2, .int y2), (3, .int y3), (4, .int y4), (5, .int y5)] [] := by
      intro n
      induction n with
      | zero => exact fun _ _ _ _ _ _ hf => qno hf
      | succ n hrec18 =>
        intro w_L y1 y2 y3 y4 y5 hf
        have hf : fX1_fewestOf_b18_s recM (fX1_fewestOf_b18 recM u_t u_w n) u_t u_w w_L y1 y2 y3 y4 y5 = some (r0, v_L) := hf
        generalize fX1_fewestOf_b18 recM u_t u_w n = rec18 at hf hrec18
        unfold fX1_fewestOf_b18_s at hf
        refine r_ild O 20 rfl 5 rfl dX1_fewestOf_18 ?_
        refine r_ild_n O 21 rfl 2 rfl dX1_fewestOf_20 ?_
        refine r_icmp_ge O 24 rfl 64 dX1_fewestOf_21 (by decide) (fun hc21 => ?_) (fun hc21 => ?_)
        · rw [if_pos hc21] at hf
          refine r_ild O 66 rfl 4 rfl dX1_fewestOf_64 ?_
          obtain ⟨g0, g1⟩ := qe2 hf
          exact r_iret2 O E g0 (by rw [g1]) dX1_fewestOf_66
        · rw [if_neg hc21] at hf
          refine r_ald_n O 25 rfl 0 rfl dX1_fewestOf_24 ?_
          refine r_ald_n O 26 rfl 0 rfl dX1_fewestOf_25 ?_
          refine r_get (ref := RX1) (C := RX1) (T := TX1) (N := 3) O 29 rfl inBX1 0 0 rfl rfl rfl (by decide) flX1_23 rfl rfl dX1_fewestOf_26 ?_
          refine r_ild O 31 rfl 5 rfl dX1_fewestOf_29 ?_
          obtain ⟨x31, hq31, hf⟩ := qb1_some hf
          refine k_VI O 34 rfl (zX4_wallOf (l := xl X) (D := xD X) (cI := cI) (cZ := cZ) (cQ := cQ) (h_t := h_L) (r_w := (h_w 0)) hq31) (gV mlX1_39 mvX4_wallOf izX4) rfl rfl rfl hdX4_wallOf ⟨by simp [rmX4_wallOf, rmX1_fewestOf] <;> omega, by simp [rmX4_wallOf, rmX1_fewestOf] <;> omega⟩ rfl 1 rfl rfl rfl rfl (Nat.le_of_ble_eq_true rfl) ⟨Nat.zero_le _, Nat.zero_le _⟩ [1] rfl rfl rfl ([nX1 cI cZ cQ h_t (h_L 0) u_t, nX4 cI cZ cQ h_L (h_w 0) w_L, nX8 cI cZ cQ h_w u_w]) rfl dX1_fewestOf_31 ?_
          refine r_ild_n O 35 rfl 1 rfl dX1_fewestOf_34 ?_
          refine r_ild_n O 36 rfl 2 rfl dX1_fewestOf_35 ?_
          refine r_ild_n O 37 rfl 3 rfl dX1_fewestOf_36 ?_
          obtain ⟨x37, p37_L, hq37, hf⟩ := qb2_some hf
          refine k_VI O 40 rfl (zX1_fewestWith (l := xl X) (D := xD X) (cI := cI) (cZ := cZ) (cQ := cQ) (h_t := h_t) (h_L := h_L) (h_w := h_w) hrecM hq37) (gV mlX1_43 mvX1_fewestWith izX1) rfl rfl rfl hdX1_fewestWith ⟨by simp [rmX1_fewestWith, rmX1_fewestOf] <;> omega, by simp [rmX1_fewestWith, rmX1_fewestOf] <;> omega⟩ rfl 0 rfl rfl rfl rfl (Nat.le_of_ble_eq_true rfl) ⟨Nat.zero_le _, Nat.zero_le _⟩ [0, 1, 2] rfl rfl rfl ([nX1 cI cZ cQ h_t (h_L 0) u_t, nX4 cI cZ cQ h_L (h_w 0) p37_L, nX8 cI cZ cQ h_w u_w]) rfl dX1_fewestOf_37 ?_
          refine r_ist O 42 rfl [(6, .int x37), (0, .ref (h_t 0)), (1, .int y1), (2, .int y2), (3, .int y3), (4, .int y4), (5, .int y5)] dX1_fewestOf_40 (by decide) rfl ?_
          refine r_ild O 44 rfl 5 rfl dX1_fewestOf_42 ?_
          refine r_if_lt O 47 rfl 54 dX1_fewestOf_44 (by decide) (fun hc44 => ?_) (fun hc44 => ?_)
          · rw [if_pos hc44] at hf
            refine r_lv [1, 2, 3, 4, 6, 0] rfl ?_
            exact B54 rec18 hrec18 _ _ _ _ _ _ hf
          · rw [if_neg hc44] at hf
            refine r_ild O 49 rfl 0 rfl dX1_fewestOf_47 ?_
            refine r_ild O 51 rfl 5 rfl dX1_fewestOf_49 ?_
            refine r_icmp_ge O 54 rfl 58 dX1_fewestOf_51 (by decide) (fun hc51 => ?_) (fun hc51 => ?_)
            · rw [if_pos hc51] at hf
              refine r_lv [1, 2, 3, 4, 5, 6] rfl ?_
              exact B58 rec18 hrec18 _ _ _ _ _ _ hf
            · rw [if_neg hc51] at hf
              refine r_lv [1, 2, 3, 4, 6, 0] rfl ?_
              exact B54 rec18 hrec18 _ _ _ _ _ _ hf
    unfold fX1_fewestOf_s at hf
    refine r_ild_n O 1 rfl 1 rfl dX1_fewestOf_0 ?_
    refine r_ild_n O 2 rfl 2 rfl dX1_fewestOf_1 ?_
    refine r_icmp_ge O 5 rfl 10 dX1_fewestOf_2 (by decide) (fun hc2 => ?_) (fun hc2 => ?_)
    · rw [if_pos hc2] at hf
      refine r_ic O 11 rfl 0 (by decide) dX1_fewestOf_10 ?_
      obtain ⟨g0, g1⟩ := qe2 hf
      exact r_iret2 O E g0 (by rw [g1]) dX1_fewestOf_11
    · rw [if_neg hc2] at hf
      refine r_ild_n O 6 rfl 3 rfl dX1_fewestOf_5 ?_
      refine r_ic O 7 rfl 5 (by decide) dX1_fewestOf_6 ?_
      refine r_icmp_lt O 10 rfl 12 dX1_fewestOf_7 (by decide) (fun hc7 => ?_) (fun hc7 => ?_)
      · rw [if_pos hc7] at hf
        refine r_ic O 13 rfl (-1) (by decide) dX1_fewestOf_12 ?_
        refine r_ist O 15 rfl [(4, .int (-1)), (0, .ref (h_t 0)), (1, .int a1), (2, .int a2), (3, .int a3)] dX1_fewestOf_13 (by decide) rfl ?_
        refine r_ild_n O 16 rfl 2 rfl dX1_fewestOf_15 ?_
        refine r_ist O 18 rfl [(5, .int a1), (4, .int (-1)), (0, .ref (h_t 0)), (1, .int a1), (2, .int a2), (3, .int a3)] dX1_fewestOf_16 (by decide) rfl ?_
        refine r_lv [2, 3, 4, 5, 1, 0] rfl ?_
        exact B18 FU _ _ _ _ _ _ hf
      · rw [if_neg hc7] at hf
        refine r_ic O 11 rfl 0 (by decide) dX1_fewestOf_10 ?_
        obtain ⟨g0, g1⟩ := qe2 hf
        exact r_iret2 O E g0 (by rw [g1]) dX1_fewestOf_11
-- X1_search
def rmX1_search : Room := { frames := 39, cells := 0, slots := 0, locals := 1063 }
set_option maxHeartbeats 4000000 in
set_option maxRecDepth 100000 in
theorem zX1_search {l : Launch} {D : va_G} {cI cZ cQ : ClassId} {h_t h_L h_w : Nat → Nat} {u_w u_t u_L : Pk} {v_t v_L : Pk} (hf : fX1_search u_w u_t u_L = some (v_t, v_L)) : MV l yX1_search wsX1_search rmX1_search D (TY cI cZ cQ) [.ref (h_t 0)] [nX1 cI cZ cQ h_t (h_L 0) u_t, nX4 cI cZ cQ h_L (h_w 0) u_L, nX8 cI cZ cQ h_w u_w] [nX1 cI cZ cQ h_t (h_L 0) v_t, nX4 cI cZ cQ h_L (h_w 0) v_L, nX8 cI cZ cQ h_w u_w] := by
  refine MV.of (own := RX1) (by decide +kernel) rfl rfl (Nat.le_of_ble_eq_true rfl) (lv0 := [(0, .ref (h_t 0))]) rfl ?_
  intro X O E
  have B90 : ∀ (rec37 : Pk → Pk → Int32 → Int32 → Option (Pk × Pk)), (∀ (w_t : Pk) (w_L : Pk) (y1 : Int32) (y2 : Int32), rec37 w_t w_L y1 y2 = some (v_t, v_L) → BK X 5 0 0 37 ([nX1 cI cZ cQ h_t (h_L 0) w_t, nX4 cI cZ cQ h_L (h_w 0) w_L, nX8 cI cZ cQ h_w u_w]) [(0, .ref (h_t 0)), (1, .int y1), (2, .int y2)] []) → ∀ (w_t : Pk) (w_L : Pk) (y1 : Int32) (y2 : Int32), fX1_search_b90 rec37 u_w w_t w_L y1 y2 = some (v_t, v_L) → BK X 5 0 0 90 ([nX1 cI cZ cQ h_t (h_L 0) w_t, nX4 cI cZ cQ h_L (h_w 0) w_L, nX8 cI cZ cQ h_w u_w]) [(0, .ref (h_t 0)), (1, .int y1), (2, .int y2)] [] := by
    intro rec37 hrec37 w_t w_L y1 y2 hf
    unfold fX1_search_b90 at hf
    obtain ⟨x90, ex90, hf⟩ := qn_some hf
    refine r_iinc O 93 rfl x90 2 rfl (by rw [ex90]; rfl) [(2, .int x90), (0, .ref (h_t 0)), (1, .int y1)] dX1_search_90 (by decide) rfl ?_
    refine r_goto O 37 dX1_search_93 (by decide) ?_
    refine r_lv [1, 2, 0] rfl ?_
    exact hrec37 _ _ _ _ hf
  have B79 : ∀ (rec37 : Pk → Pk → Int32 → Int32 → Option (Pk × Pk)), (∀ (w_t : Pk) (w_L : Pk) (y1 : Int32) (y2 : Int32), rec37 w_t w_L y1 y2 = some (v_t, v_L) → BK X 5 0 0 37 ([nX1 cI cZ cQ h_t (h_L 0) w_t, nX4 cI cZ cQ h_L (h_w 0) w_L, nX8 cI cZ cQ h_w u_w]) [(0, .ref (h_t 0)), (1, .int y1), (2, .int y2)] []) → ∀ (w_t : Pk) (w_L : Pk) (y1 : Int32) (y2 : Int32) (y3 : Int32) (y4 : Int32), fX1_search_b79 rec37 u_w w_t w_L y1 y2 y3 y4 = some (v_t, v_L) → BK X 5 0 0 79 ([nX1 cI cZ cQ h_t (h_L 0) w_t, nX4 cI cZ cQ h_L (h_w 0) w_L, nX8 cI cZ cQ h_w u_w]) [(0, .ref (h_t 0)), (1, .int y1), (2, .int y2), (3, .int y3), (4, .int y4)] [] := by
    intro rec37 hrec37 w_t w_L y1 y2 y3 y4 hf
    unfold fX1_search_b79 at hf
    refine r_ald_n O 80 rfl 0 rfl dX1_search_79 ?_
    refine r_ild O 82 rfl 4 rfl dX1_search_80 ?_
    obtain ⟨p82_t, ep82_t, hf⟩ := qn_some hf
    refine r_put (ref := RX1) (C := RX1) (T := TX1) (N := 3) O 85 rfl inBX1 tyX1 tyX1_ok nmX1 0 1 rfl rfl rfl (by decide) flX1_9 rfl rfl rfl rfl (Nat.le_of_ble_eq_true rfl) ([nX1 cI cZ cQ h_t (h_L 0) p82_t, nX4 cI cZ cQ h_L (h_w 0) w_L, nX8 cI cZ cQ h_w u_w]) (by rw [ep82_t]; rfl) dX1_search_82 ?_
    refine r_ald_n O 86 rfl 0 rfl dX1_search_85 ?_
    refine r_ild_n O 87 rfl 3 rfl dX1_search_86 ?_
    obtain ⟨p87_t, ep87_t, hf⟩ := qn_some hf
    refine r_put (ref := RX1) (C := RX1) (T := TX1) (N := 3) O 90 rfl inBX1 tyX1 tyX1_ok nmX1 0 2 rfl rfl rfl (by decide) flX1_15 rfl rfl rfl rfl (Nat.le_of_ble_eq_true rfl) ([nX1 cI cZ cQ h_t (h_L 0) p87_t, nX4 cI cZ cQ h_L (h_w 0) w_L, nX8 cI cZ cQ h_w u_w]) (by rw [ep87_t]; rfl) dX1_search_87 ?_
    refine r_lv [0, 1, 2] rfl ?_
    exact B90 rec37 hrec37 _ _ _ _ hf
  have B37 : ∀ n : Nat, ∀ (w_t : Pk) (w_L : Pk) (y1 : Int32) (y2 : Int32), fX1_search_b37 u_w n w_t w_L y1 y2 = some (v_t, v_L) → BK X 5 0 0 37 ([nX1 cI cZ cQ h_t (h_L 0) w_t, nX4 cI cZ cQ h_L (h_w 0) w_L, nX8 cI cZ cQ h_w u_w]) [(0, .ref (h_t 0)), (1, .int y1), (2, .int y2)] [] := by
    intro n
    induction n with
    | zero => exact fun _ _ _ _ hf => qno hf
    | succ n hrec37 =>
      intro w_t w_L y1 y2 hf
      have hf : fX1_search_b37_s (fX1_search_b37 u_w n) u_w w_t w_L y1 y2 = some (v_t, v_L) := hf
      generalize fX1_search_b37 u_w n = rec37 at hf hrec37
      unfold fX1_search_b37_s at hf
      refine r_ild_n O 38 rfl 2 rfl dX1_search_37 ?_
      refine r_ild_n O 39 rfl 1 rfl dX1_search_38 ?_
      refine r_icmp_ge O 42 rfl 96 dX1_search_39 (by decide) (fun hc39 => ?_) (fun hc39 => ?_)
      · rw [if_pos hc39] at hf
        obtain ⟨g0, g1⟩ := qe2 hf
        exact r_vret2 O E (by rw [g0, g1]) dX1_search_96
      · rw [if_neg hc39] at hf
        refine r_ald_n O 43 rfl 0 rfl dX1_search_42 ?_
        refine r_get (ref := RX1) (C := RX1) (T := TX1) (N := 3) O 46 rfl inBX1 0 0 rfl rfl rfl (by decide) flX1_23 rfl rfl dX1_search_43 ?_
        refine r_ild_n O 47 rfl 2 rfl dX1_search_46 ?_
        obtain ⟨x47, hq47, hf⟩ := qb1_some hf
        refine k_VI O 50 rfl (zX4_wallOf (l := xl X) (D := xD X) (cI := cI) (cZ := cZ) (cQ := cQ) (h_t := h_L) (r_w := (h_w 0)) hq47) (gV mlX1_39 mvX4_wallOf izX4) rfl rfl rfl hdX4_wallOf ⟨Nat.le_of_ble_eq_true rfl, Nat.le_of_ble_eq_true rfl⟩ rfl 1 rfl rfl rfl rfl (Nat.le_of_ble_eq_true rfl) ⟨Nat.zero_le _, Nat.zero_le _⟩ [1] rfl rfl rfl ([nX1 cI cZ cQ h_t (h_L 0) w_t, nX4 cI cZ cQ h_L (h_w 0) w_L, nX8 cI cZ cQ h_w u_w]) rfl dX1_search_47 ?_
        refine r_ist_n O 51 rfl rfl [(3, .int x47), (0, .ref (h_t 0)), (1, .int y1), (2, .int y2)] dX1_search_50 (by decide) rfl ?_
        refine r_ald_n O 52 rfl 1 rfl dX1_search_51 ?_
        refine r_ild_n O 53 rfl 0 rfl dX1_search_52 ?_
        refine r_ic O 54 rfl 0 (by decide) dX1_search_53 ?_
        refine r_ild_n O 55 rfl 2 rfl dX1_search_54 ?_
        refine r_ic O 56 rfl 0 (by decide) dX1_search_55 ?_
        obtain ⟨x56, p56_L, hq56, hf⟩ := qb2_some hf
        refine k_VI O 59 rfl (zX1_fewestWith (l := xl X) (D := xD X) (cI := cI) (cZ := cZ) (cQ := cQ) (h_t := h_t) (h_L := h_L) (h_w := h_w) (zX1_fewestOf 16) hq56) (gV mlX1_43 mvX1_fewestWith izX1) rfl rfl rfl hdX1_fewestWith ⟨Nat.le_of_ble_eq_true rfl, Nat.le_of_ble_eq_true rfl⟩ rfl 0 rfl rfl rfl rfl (Nat.le_of_ble_eq_true rfl) ⟨Nat.zero_le _, Nat.zero_le _⟩ [0, 1, 2] rfl rfl rfl ([nX1 cI cZ cQ h_t (h_L 0) w_t, nX4 cI cZ cQ h_L (h_w 0) p56_L, nX8 cI cZ cQ h_w u_w]) rfl dX1_search_56 ?_
        refine r_ist O 61 rfl [(4, .int x56), (3, .int x47), (0, .ref (h_t 0)), (1, .int y1), (2, .int y2)] dX1_search_59 (by decide) rfl ?_
        refine r_ald_n O 62 rfl 2 rfl dX1_search_61 ?_
        refine r_get (ref := RX1) (C := RX1) (T := TX1) (N := 3) O 65 rfl inBX1 0 2 rfl rfl rfl (by decide) flX1_15 rfl rfl dX1_search_62 ?_
        refine r_bi O 67 rfl (-8) (by decide) dX1_search_65 ?_
        refine r_icmp_eq O 70 rfl 79 dX1_search_67 (by decide) (fun hc67 => ?_) (fun hc67 => ?_)
        · rw [if_pos hc67] at hf
          refine r_lv [2, 3, 4, 1, 0] rfl ?_
          exact B79 rec37 hrec37 _ _ _ _ _ _ hf
        · rw [if_neg hc67] at hf
          refine r_ild O 72 rfl 0 rfl dX1_search_70 ?_
          refine r_ald_n O 73 rfl 2 rfl dX1_search_72 ?_
          refine r_get (ref := RX1) (C := RX1) (T := TX1) (N := 3) O 76 rfl inBX1 0 1 rfl rfl rfl (by decide) flX1_9 rfl rfl dX1_search_73 ?_
          refine r_icmp_ge O 79 rfl 90 dX1_search_76 (by decide) (fun hc76 => ?_) (fun hc76 => ?_)
          · rw [if_pos hc76] at hf
            refine r_lv [2, 3, 4] rfl ?_
            exact B90 rec37 hrec37 _ _ _ _ hf
          · rw [if_neg hc76] at hf
            refine r_lv [2, 3, 4, 1, 0] rfl ?_
            exact B79 rec37 hrec37 _ _ _ _ _ _ hf
  unfold fX1_search at hf
  refine r_ald_n O 1 rfl 0 rfl dX1_search_0 ?_
  refine r_ic O 2 rfl 0 (by decide) dX1_search_1 ?_
  obtain ⟨p2_t, ep2_t, hf⟩ := qn_some hf
  refine r_put (ref := RX1) (C := RX1) (T := TX1) (N := 3) O 5 rfl inBX1 tyX1 tyX1_ok nmX1 0 1 rfl rfl rfl (by decide) flX1_9 rfl rfl rfl rfl (Nat.le_of_ble_eq_true rfl) ([nX1 cI cZ cQ h_t (h_L 0) p2_t, nX4 cI cZ cQ h_L (h_w 0) u_L, nX8 cI cZ cQ h_w u_w]) (by rw [ep2_t]; rfl) dX1_search_2 ?_
  refine r_ald_n O 6 rfl 0 rfl dX1_search_5 ?_
  refine r_bi O 8 rfl (-8) (by decide) dX1_search_6 ?_
  obtain ⟨p8_t, ep8_t, hf⟩ := qn_some hf
  refine r_put (ref := RX1) (C := RX1) (T := TX1) (N := 3) O 11 rfl inBX1 tyX1 tyX1_ok nmX1 0 2 rfl rfl rfl (by decide) flX1_15 rfl rfl rfl rfl (Nat.le_of_ble_eq_true rfl) ([nX1 cI cZ cQ h_t (h_L 0) p8_t, nX4 cI cZ cQ h_L (h_w 0) u_L, nX8 cI cZ cQ h_w u_w]) (by rw [ep8_t]; rfl) dX1_search_8 ?_
  refine r_ald_n O 12 rfl 0 rfl dX1_search_11 ?_
  refine r_get (ref := RX1) (C := RX1) (T := TX1) (N := 3) O 15 rfl inBX1 0 0 rfl rfl rfl (by decide) flX1_23 rfl rfl dX1_search_12 ?_
  refine r_ic O 16 rfl 0 (by decide) dX1_search_15 ?_
  obtain ⟨p16_L, hq16, hf⟩ := qb1_some hf
  refine k_VV O 19 rfl (zX4_shorten (l := xl X) (D := xD X) (cI := cI) (cZ := cZ) (cQ := cQ) (h_t := h_L) (r_w := (h_w 0)) hq16) (gV mlX1_27 mvX4_shorten izX4) rfl rfl rfl hdX4_shorten ⟨Nat.le_of_ble_eq_true rfl, Nat.le_of_ble_eq_true rfl⟩ rfl 1 rfl rfl rfl rfl (Nat.le_of_ble_eq_true rfl) ⟨Nat.zero_le _, Nat.zero_le _⟩ [1] rfl rfl rfl ([nX1 cI cZ cQ h_t (h_L 0) p8_t, nX4 cI cZ cQ h_L (h_w 0) p16_L, nX8 cI cZ cQ h_w u_w]) rfl dX1_search_16 ?_
  refine r_ald_n O 20 rfl 0 rfl dX1_search_19 ?_
  refine r_get (ref := RX1) (C := RX1) (T := TX1) (N := 3) O 23 rfl inBX1 0 0 rfl rfl rfl (by decide) flX1_23 rfl rfl dX1_search_20 ?_
  refine r_ic O 24 rfl 0 (by decide) dX1_search_23 ?_
  obtain ⟨p24_L, hq24, hf⟩ := qb1_some hf
  refine k_VV O 27 rfl (zX4_addWalls (l := xl X) (D := xD X) (cI := cI) (cZ := cZ) (cQ := cQ) (h_t := h_L) (h_w := h_w) hq24) (gV mlX1_31 mvX4_addWalls izX4) rfl rfl rfl hdX4_addWalls ⟨Nat.le_of_ble_eq_true rfl, Nat.le_of_ble_eq_true rfl⟩ rfl 1 rfl rfl rfl rfl (Nat.le_of_ble_eq_true rfl) ⟨Nat.zero_le _, Nat.zero_le _⟩ [1, 2] rfl rfl rfl ([nX1 cI cZ cQ h_t (h_L 0) p8_t, nX4 cI cZ cQ h_L (h_w 0) p24_L, nX8 cI cZ cQ h_w u_w]) rfl dX1_search_24 ?_
  refine r_ald_n O 28 rfl 0 rfl dX1_search_27 ?_
  refine r_get (ref := RX1) (C := RX1) (T := TX1) (N := 3) O 31 rfl inBX1 0 0 rfl rfl rfl (by decide) flX1_23 rfl rfl dX1_search_28 ?_
  obtain ⟨x31, hq31, hf⟩ := qb1_some hf
  refine k_VI O 34 rfl (zX4_size (l := xl X) (D := xD X) (cI := cI) (cZ := cZ) (cQ := cQ) (h_t := h_L) (r_w := (h_w 0)) hq31) (gV mlX1_35 mvX4_size izX4) rfl rfl rfl hdX4_size ⟨Nat.le_of_ble_eq_true rfl, Nat.le_of_ble_eq_true rfl⟩ rfl 1 rfl rfl rfl rfl (Nat.le_of_ble_eq_true rfl) ⟨Nat.zero_le _, Nat.zero_le _⟩ [1] rfl rfl rfl ([nX1 cI cZ cQ h_t (h_L 0) p8_t, nX4 cI cZ cQ h_L (h_w 0) p24_L, nX8 cI cZ cQ h_w u_w]) rfl dX1_search_31 ?_
  refine r_ist_n O 35 rfl rfl [(1, .int x31), (0, .ref (h_t 0))] dX1_search_34 (by decide) rfl ?_
  refine r_ic O 36 rfl 0 (by decide) dX1_search_35 ?_
  refine r_ist_n O 37 rfl rfl [(2, .int 0), (1, .int x31), (0, .ref (h_t 0))] dX1_search_36 (by decide) rfl ?_
  refine r_lv [2, 1, 0] rfl ?_
  exact B37 FU _ _ _ _ hf
