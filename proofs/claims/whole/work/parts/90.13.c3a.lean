-- X6_rootSubtree
def rmX6_rootSubtree : Room := { frames := 0, cells := 0, slots := 0, locals := 0 }
set_option maxHeartbeats 4000000 in
set_option maxRecDepth 100000 in
theorem zX6_rootSubtree {l : Launch} {D : va_G} {cI cZ cQ : ClassId} {h_t : Nat → Nat} {r_w r_L r_P : Nat} {u_t : Pk} {r0 : Int32} (hf : fX6_rootSubtree u_t = some r0) : MI l yX6_rootSubtree wsX6_rootSubtree rmX6_rootSubtree D (TY cI cZ cQ) [.ref (h_t 0)] [nX6 cI cZ cQ h_t r_w r_L r_P u_t] r0 [nX6 cI cZ cQ h_t r_w r_L r_P u_t] := by
  refine MI.of (own := RX6) (by decide +kernel) rfl rfl (Nat.le_of_ble_eq_true rfl) (lv0 := [(0, .ref (h_t 0))]) rfl ?_
  intro X O E
  unfold fX6_rootSubtree at hf
  refine r_ald_n O 1 rfl 0 rfl dX6_rootSubtree_0 ?_
  refine r_get (ref := RX6) (C := RX6) (T := TX6) (N := 17) O 4 rfl inBX6 0 10 rfl rfl rfl (by decide) flX6_33 rfl rfl dX6_rootSubtree_1 ?_
  obtain g0 := qe1 hf
  exact r_iret2 O E g0 rfl dX6_rootSubtree_4
-- X6_hasNode
def rmX6_hasNode : Room := { frames := 0, cells := 0, slots := 0, locals := 0 }
set_option maxHeartbeats 4000000 in
set_option maxRecDepth 100000 in
theorem zX6_hasNode {l : Launch} {D : va_G} {cI cZ cQ : ClassId} {h_t : Nat → Nat} {r_w r_L r_P : Nat} {u_t : Pk} {a1 : Int32} {r0 : Int32} (hf : fX6_hasNode u_t a1 = some r0) : MZ l yX6_hasNode wsX6_hasNode rmX6_hasNode D (TY cI cZ cQ) [.ref (h_t 0), .int a1] [nX6 cI cZ cQ h_t r_w r_L r_P u_t] r0 [nX6 cI cZ cQ h_t r_w r_L r_P u_t] := by
  refine MZ.of (own := RX6) (by decide +kernel) rfl rfl (Nat.le_of_ble_eq_true rfl) (lv0 := [(0, .ref (h_t 0)), (1, .int a1)]) rfl ?_
  intro X O E
  unfold fX6_hasNode at hf
  refine r_ild_n O 1 rfl 1 rfl dX6_hasNode_0 ?_
  refine r_if_lt O 4 rfl 23 dX6_hasNode_1 (by decide) (fun hc1 => ?_) (fun hc1 => ?_)
  · rw [if_pos hc1] at hf
    refine r_ic O 24 rfl 0 (by decide) dX6_hasNode_23 ?_
    obtain g0 := qe1 hf
    exact r_zret2 O E g0 rfl rfl dX6_hasNode_24
  · rw [if_neg hc1] at hf
    refine r_ild_n O 5 rfl 1 rfl dX6_hasNode_4 ?_
    refine r_ald_n O 6 rfl 0 rfl dX6_hasNode_5 ?_
    refine r_get (ref := RX6) (C := RX6) (T := TX6) (N := 17) O 9 rfl inBX6 0 11 rfl rfl rfl (by decide) flX6_37 rfl rfl dX6_hasNode_6 ?_
    refine r_icmp_ge O 12 rfl 23 dX6_hasNode_9 (by decide) (fun hc9 => ?_) (fun hc9 => ?_)
    · rw [if_pos hc9] at hf
      refine r_ic O 24 rfl 0 (by decide) dX6_hasNode_23 ?_
      obtain g0 := qe1 hf
      exact r_zret2 O E g0 rfl rfl dX6_hasNode_24
    · rw [if_neg hc9] at hf
      refine r_ild_n O 13 rfl 1 rfl dX6_hasNode_12 ?_
      refine r_si O 16 rfl 144 (by decide) dX6_hasNode_13 ?_
      refine r_icmp_ge O 19 rfl 23 dX6_hasNode_16 (by decide) (fun hc16 => ?_) (fun hc16 => ?_)
      · rw [if_pos hc16] at hf
        refine r_ic O 24 rfl 0 (by decide) dX6_hasNode_23 ?_
        obtain g0 := qe1 hf
        exact r_zret2 O E g0 rfl rfl dX6_hasNode_24
      · rw [if_neg hc16] at hf
        refine r_ic O 20 rfl 1 (by decide) dX6_hasNode_19 ?_
        refine r_goto O 24 dX6_hasNode_20 (by decide) ?_
        obtain g0 := qe1 hf
        exact r_zret2 O E g0 rfl rfl dX6_hasNode_24
-- X6_wallOfNode
def rmX6_wallOfNode : Room := { frames := 1, cells := 0, slots := 0, locals := 21 }
set_option maxHeartbeats 4000000 in
set_option maxRecDepth 100000 in
theorem zX6_wallOfNode {l : Launch} {D : va_G} {cI cZ cQ : ClassId} {h_t : Nat → Nat} {r_w r_L r_P : Nat} {u_t : Pk} {a1 : Int32} {r0 : Int32} (hf : fX6_wallOfNode u_t a1 = some r0) : MI l yX6_wallOfNode wsX6_wallOfNode rmX6_wallOfNode D (TY cI cZ cQ) [.ref (h_t 0), .int a1] [nX6 cI cZ cQ h_t r_w r_L r_P u_t] r0 [nX6 cI cZ cQ h_t r_w r_L r_P u_t] := by
  refine MI.of (own := RX6) (by decide +kernel) rfl rfl (Nat.le_of_ble_eq_true rfl) (lv0 := [(0, .ref (h_t 0)), (1, .int a1)]) rfl ?_
  intro X O E
  unfold fX6_wallOfNode at hf
  refine r_ald_n O 1 rfl 0 rfl dX6_wallOfNode_0 ?_
  refine r_ild_n O 2 rfl 1 rfl dX6_wallOfNode_1 ?_
  obtain ⟨x2, hq2, hf⟩ := qb1_some hf
  refine k_VZ O 5 rfl (zX6_hasNode (l := xl X) (D := xD X) (cI := cI) (cZ := cZ) (cQ := cQ) (h_t := h_t) (r_w := r_w) (r_L := r_L) (r_P := r_P) hq2) (gV mlX6_103 mvX6_hasNode izX6) rfl rfl rfl hdX6_hasNode ⟨Nat.le_of_ble_eq_true rfl, Nat.le_of_ble_eq_true rfl⟩ rfl 0 rfl rfl rfl rfl (Nat.le_of_ble_eq_true rfl) ⟨Nat.zero_le _, Nat.zero_le _⟩ [0] rfl rfl rfl ([nX6 cI cZ cQ h_t r_w r_L r_P u_t]) rfl dX6_wallOfNode_2 (fun hz2 => ?_)
  refine r_if_eq O 8 rfl 17 dX6_wallOfNode_5 (by decide) (fun hc5 => ?_) (fun hc5 => ?_)
  · rw [if_pos hc5] at hf
    refine r_bi O 19 rfl (-8) (by decide) dX6_wallOfNode_17 ?_
    obtain g0 := qe1 hf
    exact r_iret2 O E g0 rfl dX6_wallOfNode_19
  · rw [if_neg hc5] at hf
    refine r_ald_n O 9 rfl 0 rfl dX6_wallOfNode_8 ?_
    refine r_get (ref := RX6) (C := RX6) (T := TX6) (N := 17) O 12 rfl inBX6 0 4 rfl rfl rfl (by decide) flX6_15 rfl rfl dX6_wallOfNode_9 ?_
    refine r_ild_n O 13 rfl 1 rfl dX6_wallOfNode_12 ?_
    obtain ⟨x13, ex13, hin13, hf⟩ := qld_some hf
    refine r_iald O 14 rfl 0 2 rfl rfl hin13 dX6_wallOfNode_13 ?_
    rw [← ex13]
    refine r_goto O 19 dX6_wallOfNode_14 (by decide) ?_
    obtain g0 := qe1 hf
    exact r_iret2 O E g0 rfl dX6_wallOfNode_19
-- X6_isInFrontOrOnLine
def rmX6_isInFrontOrOnLine : Room := { frames := 2, cells := 0, slots := 0, locals := 42 }
set_option maxHeartbeats 4000000 in
set_option maxRecDepth 100000 in
theorem zX6_isInFrontOrOnLine {l : Launch} {D : va_G} {cI cZ cQ : ClassId} {h_t h_w : Nat → Nat} {r_L r_P : Nat} {u_t u_w : Pk} {a1 : Int32} {a2 : Int32} {a3 : Int32} {r0 : Int32} (hf : fX6_isInFrontOrOnLine u_t u_w a1 a2 a3 = some r0) : MZ l yX6_isInFrontOrOnLine wsX6_isInFrontOrOnLine rmX6_isInFrontOrOnLine D (TY cI cZ cQ) [.ref (h_t 0), .int a1, .int a2, .int a3] [nX6 cI cZ cQ h_t (h_w 0) r_L r_P u_t, nX8 cI cZ cQ h_w u_w] r0 [nX6 cI cZ cQ h_t (h_w 0) r_L r_P u_t, nX8 cI cZ cQ h_w u_w] := by
  refine MZ.of (own := RX6) (by decide +kernel) rfl rfl (Nat.le_of_ble_eq_true rfl) (lv0 := [(0, .ref (h_t 0)), (1, .int a1), (2, .int a2), (3, .int a3)]) rfl ?_
  intro X O E
  unfold fX6_isInFrontOrOnLine at hf
  refine r_ald_n O 1 rfl 0 rfl dX6_isInFrontOrOnLine_0 ?_
  refine r_get (ref := RX6) (C := RX6) (T := TX6) (N := 17) O 4 rfl inBX6 0 0 rfl rfl rfl (by decide) flX6_55 rfl rfl dX6_isInFrontOrOnLine_1 ?_
  refine r_ald_n O 5 rfl 0 rfl dX6_isInFrontOrOnLine_4 ?_
  refine r_ild_n O 6 rfl 1 rfl dX6_isInFrontOrOnLine_5 ?_
  obtain ⟨x6, hq6, hf⟩ := qb1_some hf
  refine k_VI O 9 rfl (zX6_wallOfNode (l := xl X) (D := xD X) (cI := cI) (cZ := cZ) (cQ := cQ) (h_t := h_t) (r_w := (h_w 0)) (r_L := r_L) (r_P := r_P) hq6) (gV mlX6_142 mvX6_wallOfNode izX6) rfl rfl rfl hdX6_wallOfNode ⟨Nat.le_of_ble_eq_true rfl, Nat.le_of_ble_eq_true rfl⟩ rfl 0 rfl rfl rfl rfl (Nat.le_of_ble_eq_true rfl) ⟨Nat.zero_le _, Nat.zero_le _⟩ [0] rfl rfl rfl ([nX6 cI cZ cQ h_t (h_w 0) r_L r_P u_t, nX8 cI cZ cQ h_w u_w]) rfl dX6_isInFrontOrOnLine_6 ?_
  refine r_ild_n O 10 rfl 2 rfl dX6_isInFrontOrOnLine_9 ?_
  refine r_ild_n O 11 rfl 3 rfl dX6_isInFrontOrOnLine_10 ?_
  obtain ⟨x11, hq11, hf⟩ := qb1_some hf
  refine k_VI O 14 rfl (zX8_sideValue (l := xl X) (D := xD X) (cI := cI) (cZ := cZ) (cQ := cQ) (h_t := h_w) hq11) (gV mlX6_145 mvX8_sideValue izX8) rfl rfl rfl hdX8_sideValue ⟨Nat.le_of_ble_eq_true rfl, Nat.le_of_ble_eq_true rfl⟩ rfl 1 rfl rfl rfl rfl (Nat.le_of_ble_eq_true rfl) ⟨Nat.zero_le _, Nat.zero_le _⟩ [1] rfl rfl rfl ([nX6 cI cZ cQ h_t (h_w 0) r_L r_P u_t, nX8 cI cZ cQ h_w u_w]) rfl dX6_isInFrontOrOnLine_11 ?_
  refine r_if_lt O 17 rfl 21 dX6_isInFrontOrOnLine_14 (by decide) (fun hc14 => ?_) (fun hc14 => ?_)
  · rw [if_pos hc14] at hf
    refine r_ic O 22 rfl 0 (by decide) dX6_isInFrontOrOnLine_21 ?_
    obtain g0 := qe1 hf
    exact r_zret2 O E g0 rfl rfl dX6_isInFrontOrOnLine_22
  · rw [if_neg hc14] at hf
    refine r_ic O 18 rfl 1 (by decide) dX6_isInFrontOrOnLine_17 ?_
    refine r_goto O 22 dX6_isInFrontOrOnLine_18 (by decide) ?_
    obtain g0 := qe1 hf
    exact r_zret2 O E g0 rfl rfl dX6_isInFrontOrOnLine_22
-- X6_frontOf
def rmX6_frontOf : Room := { frames := 1, cells := 0, slots := 0, locals := 21 }
set_option maxHeartbeats 4000000 in
set_option maxRecDepth 100000 in
theorem zX6_frontOf {l : Launch} {D : va_G} {cI cZ cQ : ClassId} {h_t : Nat → Nat} {r_w r_L r_P : Nat} {u_t : Pk} {a1 : Int32} {r0 : Int32} (hf : fX6_frontOf u_t a1 = some r0) : MI l yX6_frontOf wsX6_frontOf rmX6_frontOf D (TY cI cZ cQ) [.ref (h_t 0), .int a1] [nX6 cI cZ cQ h_t r_w r_L r_P u_t] r0 [nX6 cI cZ cQ h_t r_w r_L r_P u_t] := by
  refine MI.of (own := RX6) (by decide +kernel) rfl rfl (Nat.le_of_ble_eq_true rfl) (lv0 := [(0, .ref (h_t 0)), (1, .int a1)]) rfl ?_
  intro X O E
  unfold fX6_frontOf at hf
  refine r_ald_n O 1 rfl 0 rfl dX6_frontOf_0 ?_
  refine r_ild_n O 2 rfl 1 rfl dX6_frontOf_1 ?_
  obtain ⟨x2, hq2, hf⟩ := qb1_some hf
  refine k_VZ O 5 rfl (zX6_hasNode (l := xl X) (D := xD X) (cI := cI) (cZ := cZ) (cQ := cQ) (h_t := h_t) (r_w := r_w) (r_L := r_L) (r_P := r_P) hq2) (gV mlX6_103 mvX6_hasNode izX6) rfl rfl rfl hdX6_hasNode ⟨Nat.le_of_ble_eq_true rfl, Nat.le_of_ble_eq_true rfl⟩ rfl 0 rfl rfl rfl rfl (Nat.le_of_ble_eq_true rfl) ⟨Nat.zero_le _, Nat.zero_le _⟩ [0] rfl rfl rfl ([nX6 cI cZ cQ h_t r_w r_L r_P u_t]) rfl dX6_frontOf_2 (fun hz2 => ?_)
  refine r_if_eq O 8 rfl 17 dX6_frontOf_5 (by decide) (fun hc5 => ?_) (fun hc5 => ?_)
  · rw [if_pos hc5] at hf
    refine r_ic O 18 rfl (-1) (by decide) dX6_frontOf_17 ?_
    obtain g0 := qe1 hf
    exact r_iret2 O E g0 rfl dX6_frontOf_18
  · rw [if_neg hc5] at hf
    refine r_ald_n O 9 rfl 0 rfl dX6_frontOf_8 ?_
    refine r_get (ref := RX6) (C := RX6) (T := TX6) (N := 17) O 12 rfl inBX6 0 5 rfl rfl rfl (by decide) flX6_18 rfl rfl dX6_frontOf_9 ?_
    refine r_ild_n O 13 rfl 1 rfl dX6_frontOf_12 ?_
    obtain ⟨x13, ex13, hin13, hf⟩ := qld_some hf
    refine r_iald O 14 rfl 0 3 rfl rfl hin13 dX6_frontOf_13 ?_
    rw [← ex13]
    refine r_goto O 18 dX6_frontOf_14 (by decide) ?_
    obtain g0 := qe1 hf
    exact r_iret2 O E g0 rfl dX6_frontOf_18
-- X6_backOf
def rmX6_backOf : Room := { frames := 1, cells := 0, slots := 0, locals := 21 }
set_option maxHeartbeats 4000000 in
set_option maxRecDepth 100000 in
theorem zX6_backOf {l : Launch} {D : va_G} {cI cZ cQ : ClassId} {h_t : Nat → Nat} {r_w r_L r_P : Nat} {u_t : Pk} {a1 : Int32} {r0 : Int32} (hf : fX6_backOf u_t a1 = some r0) : MI l yX6_backOf wsX6_backOf rmX6_backOf D (TY cI cZ cQ) [.ref (h_t 0), .int a1] [nX6 cI cZ cQ h_t r_w r_L r_P u_t] r0 [nX6 cI cZ cQ h_t r_w r_L r_P u_t] := by
  refine MI.of (own := RX6) (by decide +kernel) rfl rfl (Nat.le_of_ble_eq_true rfl) (lv0 := [(0, .ref (h_t 0)), (1, .int a1)]) rfl ?_
  intro X O E
  unfold fX6_backOf at hf
  refine r_ald_n O 1 rfl 0 rfl dX6_backOf_0 ?_
  refine r_ild_n O 2 rfl 1 rfl dX6_backOf_1 ?_
  obtain ⟨x2, hq2, hf⟩ := qb1_some hf
  refine k_VZ O 5 rfl (zX6_hasNode (l := xl X) (D := xD X) (cI := cI) (cZ := cZ) (cQ := cQ) (h_t := h_t) (r_w := r_w) (r_L := r_L) (r_P := r_P) hq2) (gV mlX6_103 mvX6_hasNode izX6) rfl rfl rfl hdX6_hasNode ⟨Nat.le_of_ble_eq_true rfl, Nat.le_of_ble_eq_true rfl⟩ rfl 0 rfl rfl rfl rfl (Nat.le_of_ble_eq_true rfl) ⟨Nat.zero_le _, Nat.zero_le _⟩ [0] rfl rfl rfl ([nX6 cI cZ cQ h_t r_w r_L r_P u_t]) rfl dX6_backOf_2 (fun hz2 => ?_)
  refine r_if_eq O 8 rfl 17 dX6_backOf_5 (by decide) (fun hc5 => ?_) (fun hc5 => ?_)
  · rw [if_pos hc5] at hf
    refine r_ic O 18 rfl (-1) (by decide) dX6_backOf_17 ?_
    obtain g0 := qe1 hf
    exact r_iret2 O E g0 rfl dX6_backOf_18
  · rw [if_neg hc5] at hf
    refine r_ald_n O 9 rfl 0 rfl dX6_backOf_8 ?_
    refine r_get (ref := RX6) (C := RX6) (T := TX6) (N := 17) O 12 rfl inBX6 0 6 rfl rfl rfl (by decide) flX6_21 rfl rfl dX6_backOf_9 ?_
    refine r_ild_n O 13 rfl 1 rfl dX6_backOf_12 ?_
    obtain ⟨x13, ex13, hin13, hf⟩ := qld_some hf
    refine r_iald O 14 rfl 0 4 rfl rfl hin13 dX6_backOf_13 ?_
    rw [← ex13]
    refine r_goto O 18 dX6_backOf_14 (by decide) ?_
    obtain g0 := qe1 hf
    exact r_iret2 O E g0 rfl dX6_backOf_18
-- X6_firstPieceOf
def rmX6_firstPieceOf : Room := { frames := 1, cells := 0, slots := 0, locals := 21 }
set_option maxHeartbeats 4000000 in
set_option maxRecDepth 100000 in
theorem zX6_firstPieceOf {l : Launch} {D : va_G} {cI cZ cQ : ClassId} {h_t : Nat → Nat} {r_w r_L r_P : Nat} {u_t : Pk} {a1 : Int32} {r0 : Int32} (hf : fX6_firstPieceOf u_t a1 = some r0) : MI l yX6_firstPieceOf wsX6_firstPieceOf rmX6_firstPieceOf D (TY cI cZ cQ) [.ref (h_t 0), .int a1] [nX6 cI cZ cQ h_t r_w r_L r_P u_t] r0 [nX6 cI cZ cQ h_t r_w r_L r_P u_t] := by
  refine MI.of (own := RX6) (by decide +kernel) rfl rfl (Nat.le_of_ble_eq_true rfl) (lv0 := [(0, .ref (h_t 0)), (1, .int a1)]) rfl ?_
  intro X O E
  unfold fX6_firstPieceOf at hf
  refine r_ald_n O 1 rfl 0 rfl dX6_firstPieceOf_0 ?_
  refine r_ild_n O 2 rfl 1 rfl dX6_firstPieceOf_1 ?_
  obtain ⟨x2, hq2, hf⟩ := qb1_some hf
  refine k_VZ O 5 rfl (zX6_hasNode (l := xl X) (D := xD X) (cI := cI) (cZ := cZ) (cQ := cQ) (h_t := h_t) (r_w := r_w) (r_L := r_L) (r_P := r_P) hq2) (gV mlX6_103 mvX6_hasNode izX6) rfl rfl rfl hdX6_hasNode ⟨Nat.le_of_ble_eq_true rfl, Nat.le_of_ble_eq_true rfl⟩ rfl 0 rfl rfl rfl rfl (Nat.le_of_ble_eq_true rfl) ⟨Nat.zero_le _, Nat.zero_le _⟩ [0] rfl rfl rfl ([nX6 cI cZ cQ h_t r_w r_L r_P u_t]) rfl dX6_firstPieceOf_2 (fun hz2 => ?_)
  refine r_if_eq O 8 rfl 17 dX6_firstPieceOf_5 (by decide) (fun hc5 => ?_) (fun hc5 => ?_)
  · rw [if_pos hc5] at hf
    refine r_ic O 18 rfl 0 (by decide) dX6_firstPieceOf_17 ?_
    obtain g0 := qe1 hf
    exact r_iret2 O E g0 rfl dX6_firstPieceOf_18
  · rw [if_neg hc5] at hf
    refine r_ald_n O 9 rfl 0 rfl dX6_firstPieceOf_8 ?_
    refine r_get (ref := RX6) (C := RX6) (T := TX6) (N := 17) O 12 rfl inBX6 0 8 rfl rfl rfl (by decide) flX6_27 rfl rfl dX6_firstPieceOf_9 ?_
    refine r_ild_n O 13 rfl 1 rfl dX6_firstPieceOf_12 ?_
    obtain ⟨x13, ex13, hin13, hf⟩ := qld_some hf
    refine r_iald O 14 rfl 0 6 rfl rfl hin13 dX6_firstPieceOf_13 ?_
    rw [← ex13]
    refine r_goto O 18 dX6_firstPieceOf_14 (by decide) ?_
    obtain g0 := qe1 hf
    exact r_iret2 O E g0 rfl dX6_firstPieceOf_18
-- X6_pieceTotalOf
def rmX6_pieceTotalOf : Room := { frames := 1, cells := 0, slots := 0, locals := 21 }
set_option maxHeartbeats 4000000 in
set_option maxRecDepth 100000 in
theorem zX6_pieceTotalOf {l : Launch} {D : va_G} {cI cZ cQ : ClassId} {h_t : Nat → Nat} {r_w r_L r_P : Nat} {u_t : Pk} {a1 : Int32} {r0 : Int32} (hf : fX6_pieceTotalOf u_t a1 = some r0) : MI l yX6_pieceTotalOf wsX6_pieceTotalOf rmX6_pieceTotalOf D (TY cI cZ cQ) [.ref (h_t 0), .int a1] [nX6 cI cZ cQ h_t r_w r_L r_P u_t] r0 [nX6 cI cZ cQ h_t r_w r_L r_P u_t] := by
  refine MI.of (own := RX6) (by decide +kernel) rfl rfl (Nat.le_of_ble_eq_true rfl) (lv0 := [(0, .ref (h_t 0)), (1, .int a1)]) rfl ?_
  intro X O E
  unfold fX6_pieceTotalOf at hf
  refine r_ald_n O 1 rfl 0 rfl dX6_pieceTotalOf_0 ?_
  refine r_ild_n O 2 rfl 1 rfl dX6_pieceTotalOf_1 ?_
  obtain ⟨x2, hq2, hf⟩ := qb1_some hf
  refine k_VZ O 5 rfl (zX6_hasNode (l := xl X) (D := xD X) (cI := cI) (cZ := cZ) (cQ := cQ) (h_t := h_t) (r_w := r_w) (r_L := r_L) (r_P := r_P) hq2) (gV mlX6_103 mvX6_hasNode izX6) rfl rfl rfl hdX6_hasNode ⟨Nat.le_of_ble_eq_true rfl, Nat.le_of_ble_eq_true rfl⟩ rfl 0 rfl rfl rfl rfl (Nat.le_of_ble_eq_true rfl) ⟨Nat.zero_le _, Nat.zero_le _⟩ [0] rfl rfl rfl ([nX6 cI cZ cQ h_t r_w r_L r_P u_t]) rfl dX6_pieceTotalOf_2 (fun hz2 => ?_)
  refine r_if_eq O 8 rfl 17 dX6_pieceTotalOf_5 (by decide) (fun hc5 => ?_) (fun hc5 => ?_)
  · rw [if_pos hc5] at hf
    refine r_ic O 18 rfl 0 (by decide) dX6_pieceTotalOf_17 ?_
    obtain g0 := qe1 hf
    exact r_iret2 O E g0 rfl dX6_pieceTotalOf_18
  · rw [if_neg hc5] at hf
    refine r_ald_n O 9 rfl 0 rfl dX6_pieceTotalOf_8 ?_
    refine r_get (ref := RX6) (C := RX6) (T := TX6) (N := 17) O 12 rfl inBX6 0 9 rfl rfl rfl (by decide) flX6_30 rfl rfl dX6_pieceTotalOf_9 ?_
    refine r_ild_n O 13 rfl 1 rfl dX6_pieceTotalOf_12 ?_
    obtain ⟨x13, ex13, hin13, hf⟩ := qld_some hf
    refine r_iald O 14 rfl 0 7 rfl rfl hin13 dX6_pieceTotalOf_13 ?_
    rw [← ex13]
    refine r_goto O 18 dX6_pieceTotalOf_14 (by decide) ?_
    obtain g0 := qe1 hf
    exact r_iret2 O E g0 rfl dX6_pieceTotalOf_18
-- X6_wallOfPiece
def rmX6_wallOfPiece : Room := { frames := 2, cells := 0, slots := 0, locals := 42 }
set_option maxHeartbeats 4000000 in
set_option maxRecDepth 100000 in
theorem zX6_wallOfPiece {l : Launch} {D : va_G} {cI cZ cQ : ClassId} {h_t h_P : Nat → Nat} {r_w r_L : Nat} {u_t u_P : Pk} {a1 : Int32} {r0 : Int32} (hf : fX6_wallOfPiece u_t u_P a1 = some r0) : MI l yX6_wallOfPiece wsX6_wallOfPiece rmX6_wallOfPiece D (TY cI cZ cQ) [.ref (h_t 0), .int a1] [nX6 cI cZ cQ h_t r_w r_L (h_P 0) u_t, nX4 cI cZ cQ h_P r_w u_P] r0 [nX6 cI cZ cQ h_t r_w r_L (h_P 0) u_t, nX4 cI cZ cQ h_P r_w u_P] := by
  refine MI.of (own := RX6) (by decide +kernel) rfl rfl (Nat.le_of_ble_eq_true rfl) (lv0 := [(0, .ref (h_t 0)), (1, .int a1)]) rfl ?_
  intro X O E
  unfold fX6_wallOfPiece at hf
  refine r_ald_n O 1 rfl 0 rfl dX6_wallOfPiece_0 ?_
  refine r_get (ref := RX6) (C := RX6) (T := TX6) (N := 17) O 4 rfl inBX6 0 2 rfl rfl rfl (by decide) flX6_68 rfl rfl dX6_wallOfPiece_1 ?_
  refine r_ild_n O 5 rfl 1 rfl dX6_wallOfPiece_4 ?_
  obtain ⟨x5, hq5, hf⟩ := qb1_some hf
  refine k_VI O 8 rfl (zX4_wallOf (l := xl X) (D := xD X) (cI := cI) (cZ := cZ) (cQ := cQ) (h_t := h_P) (r_w := r_w) hq5) (gV mlX6_116 mvX4_wallOf izX4) rfl rfl rfl hdX4_wallOf ⟨Nat.le_of_ble_eq_true rfl, Nat.le_of_ble_eq_true rfl⟩ rfl 1 rfl rfl rfl rfl (Nat.le_of_ble_eq_true rfl) ⟨Nat.zero_le _, Nat.zero_le _⟩ [1] rfl rfl rfl ([nX6 cI cZ cQ h_t r_w r_L (h_P 0) u_t, nX4 cI cZ cQ h_P r_w u_P]) rfl dX6_wallOfPiece_5 ?_
  obtain g0 := qe1 hf
  exact r_iret2 O E g0 rfl dX6_wallOfPiece_8
-- X6_makeLeaf
def rmX6_makeLeaf : Room := { frames := 1, cells := 0, slots := 0, locals := 21 }
set_option maxHeartbeats 4000000 in
set_option maxRecDepth 100000 in
theorem zX6_makeLeaf {l : Launch} {D : va_G} {cI cZ cQ : ClassId} {h_t : Nat → Nat} {r_w r_L r_P : Nat} {u_t : Pk} {a1 : Int32} {r0 : Int32} {v_t : Pk} (hf : fX6_makeLeaf u_t a1 = some (r0, v_t)) : MI l yX6_makeLeaf wsX6_makeLeaf rmX6_makeLeaf D (TY cI cZ cQ) [.ref (h_t 0), .int a1] [nX6 cI cZ cQ h_t r_w r_L r_P u_t] r0 [nX6 cI cZ cQ h_t r_w r_L r_P v_t] := by
  refine MI.of (own := RX6) (by decide +kernel) rfl rfl (Nat.le_of_ble_eq_true rfl) (lv0 := [(0, .ref (h_t 0)), (1, .int a1)]) rfl ?_
  intro X O E
  unfold fX6_makeLeaf at hf
  refine r_ald_n O 1 rfl 0 rfl dX6_makeLeaf_0 ?_
  refine r_dup O 2 rfl dX6_makeLeaf_1 rfl ?_
  refine r_get (ref := RX6) (C := RX6) (T := TX6) (N := 17) O 5 rfl inBX6 0 13 rfl rfl rfl (by decide) flX6_43 rfl rfl dX6_makeLeaf_2 ?_
  refine r_ild_n O 6 rfl 1 rfl dX6_makeLeaf_5 ?_
  refine r_iadd O 7 rfl dX6_makeLeaf_6 ?_
  obtain ⟨p7_t, ep7_t, hf⟩ := qn_some hf
  refine r_put (ref := RX6) (C := RX6) (T := TX6) (N := 17) O 10 rfl inBX6 tyX6 tyX6_ok nmX6 0 13 rfl rfl rfl (by decide) flX6_43 rfl rfl rfl rfl (Nat.le_of_ble_eq_true rfl) ([nX6 cI cZ cQ h_t r_w r_L r_P p7_t]) (by rw [ep7_t]; rfl) dX6_makeLeaf_7 ?_
  refine r_ald_n O 11 rfl 0 rfl dX6_makeLeaf_10 ?_
  refine r_ald_n O 12 rfl 0 rfl dX6_makeLeaf_11 ?_
  refine r_get (ref := RX6) (C := RX6) (T := TX6) (N := 17) O 15 rfl inBX6 0 14 rfl rfl rfl (by decide) flX6_46 rfl rfl dX6_makeLeaf_12 ?_
  refine r_ild_n O 16 rfl 1 rfl dX6_makeLeaf_15 ?_
  obtain ⟨x16, ex16, hf⟩ := qn_some hf
  refine r_max O 19 rfl maX6_111.1 maX6_111.2.1 maX6_111.2.2.1 maX6_111.2.2.2 (Nat.le_of_ble_eq_true rfl) (Nat.le_of_ble_eq_true rfl) (Nat.zero_le _) (Nat.zero_le _) dX6_makeLeaf_16 ?_
  rw [← ex16]
  obtain ⟨p19_t, ep19_t, hf⟩ := qn_some hf
  refine r_put (ref := RX6) (C := RX6) (T := TX6) (N := 17) O 22 rfl inBX6 tyX6 tyX6_ok nmX6 0 14 rfl rfl rfl (by decide) flX6_46 rfl rfl rfl rfl (Nat.le_of_ble_eq_true rfl) ([nX6 cI cZ cQ h_t r_w r_L r_P p19_t]) (by rw [ep19_t]; rfl) dX6_makeLeaf_19 ?_
  refine r_ald_n O 23 rfl 0 rfl dX6_makeLeaf_22 ?_
  refine r_dup O 24 rfl dX6_makeLeaf_23 rfl ?_
  refine r_get (ref := RX6) (C := RX6) (T := TX6) (N := 17) O 27 rfl inBX6 0 12 rfl rfl rfl (by decide) flX6_40 rfl rfl dX6_makeLeaf_24 ?_
  refine r_ic O 28 rfl 1 (by decide) dX6_makeLeaf_27 ?_
  refine r_iadd O 29 rfl dX6_makeLeaf_28 ?_
  obtain ⟨p29_t, ep29_t, hf⟩ := qn_some hf
  refine r_put (ref := RX6) (C := RX6) (T := TX6) (N := 17) O 32 rfl inBX6 tyX6 tyX6_ok nmX6 0 12 rfl rfl rfl (by decide) flX6_40 rfl rfl rfl rfl (Nat.le_of_ble_eq_true rfl) ([nX6 cI cZ cQ h_t r_w r_L r_P p29_t]) (by rw [ep29_t]; rfl) dX6_makeLeaf_29 ?_
  refine r_ald_n O 33 rfl 0 rfl dX6_makeLeaf_32 ?_
  refine r_get (ref := RX6) (C := RX6) (T := TX6) (N := 17) O 36 rfl inBX6 0 12 rfl rfl rfl (by decide) flX6_40 rfl rfl dX6_makeLeaf_33 ?_
  refine r_ineg O 37 rfl dX6_makeLeaf_36 ?_
  obtain ⟨g0, g1⟩ := qe2 hf
  exact r_iret2 O E g0 (by rw [g1]) dX6_makeLeaf_37
-- X6_endOfFixed
def rmX6_endOfFixed : Room := { frames := 2, cells := 0, slots := 0, locals := 42 }
set_option maxHeartbeats 4000000 in
set_option maxRecDepth 100000 in
theorem zX6_endOfFixed {l : Launch} {D : va_G} {cI cZ cQ : ClassId} {h_t h_w h_L : Nat → Nat} {r_P : Nat} {u_t u_w u_L : Pk} {a1 : Int32} {a2 : Int32} {r0 : Int32} (hf : fX6_endOfFixed u_t u_w u_L a1 a2 = some r0) : MI l yX6_endOfFixed wsX6_endOfFixed rmX6_endOfFixed D (TY cI cZ cQ) [.ref (h_t 0), .int a1, .int a2] [nX6 cI cZ cQ h_t (h_w 0) (h_L 0) r_P u_t, nX8 cI cZ cQ h_w u_w, nX4 cI cZ cQ h_L (h_w 0) u_L] r0 [nX6 cI cZ cQ h_t (h_w 0) (h_L 0) r_P u_t, nX8 cI cZ cQ h_w u_w, nX4 cI cZ cQ h_L (h_w 0) u_L] := by
  refine MI.of (own := RX6) (by decide +kernel) rfl rfl (Nat.le_of_ble_eq_true rfl) (lv0 := [(0, .ref (h_t 0)), (1, .int a1), (2, .int a2)]) rfl ?_
  intro X O E
  have B2 : ∀ n : Nat, ∀ (y2 : Int32) (y3 : Int32), fX6_endOfFixed_b2 u_t u_w u_L n y2 y3 = some r0 → BK X 4 0 0 2 ([nX6 cI cZ cQ h_t (h_w 0) (h_L 0) r_P u_t, nX8 cI cZ cQ h_w u_w, nX4 cI cZ cQ h_L (h_w 0) u_L]) [(0, .ref (h_t 0)), (2, .int y2), (3, .int y3)] [] := by
    intro n
    induction n with
    | zero => exact fun _ _ hf => qno hf
    | succ n hrec2 =>
      intro y2 y3 hf
      have hf : fX6_endOfFixed_b2_s (fX6_endOfFixed_b2 u_t u_w u_L n) u_t u_w u_L y2 y3 = some r0 := hf
      generalize fX6_endOfFixed_b2 u_t u_w u_L n = rec2 at hf hrec2
      unfold fX6_endOfFixed_b2_s at hf
      refine r_ild_n O 3 rfl 2 rfl dX6_endOfFixed_2 ?_
      refine r_ild_n O 4 rfl 1 rfl dX6_endOfFixed_3 ?_
      refine r_icmp_ge O 7 rfl 31 dX6_endOfFixed_4 (by decide) (fun hc4 => ?_) (fun hc4 => ?_)
      · rw [if_pos hc4] at hf
        refine r_ild_n O 32 rfl 2 rfl dX6_endOfFixed_31 ?_
        obtain g0 := qe1 hf
        exact r_iret2 O E g0 rfl dX6_endOfFixed_32
      · rw [if_neg hc4] at hf
        refine r_ald_n O 8 rfl 0 rfl dX6_endOfFixed_7 ?_
        refine r_get (ref := RX6) (C := RX6) (T := TX6) (N := 17) O 11 rfl inBX6 0 0 rfl rfl rfl (by decide) flX6_55 rfl rfl dX6_endOfFixed_8 ?_
        refine r_ald_n O 12 rfl 0 rfl dX6_endOfFixed_11 ?_
        refine r_get (ref := RX6) (C := RX6) (T := TX6) (N := 17) O 15 rfl inBX6 0 1 rfl rfl rfl (by decide) flX6_64 rfl rfl dX6_endOfFixed_12 ?_
        refine r_ild_n O 16 rfl 2 rfl dX6_endOfFixed_15 ?_
        obtain ⟨x16, hq16, hf⟩ := qb1_some hf
        refine k_VI O 19 rfl (zX4_wallOf (l := xl X) (D := xD X) (cI := cI) (cZ := cZ) (cQ := cQ) (h_t := h_L) (r_w := (h_w 0)) hq16) (gV mlX6_116 mvX4_wallOf izX4) rfl rfl rfl hdX4_wallOf ⟨Nat.le_of_ble_eq_true rfl, Nat.le_of_ble_eq_true rfl⟩ rfl 2 rfl rfl rfl rfl (Nat.le_of_ble_eq_true rfl) ⟨Nat.zero_le _, Nat.zero_le _⟩ [2] rfl rfl rfl ([nX6 cI cZ cQ h_t (h_w 0) (h_L 0) r_P u_t, nX8 cI cZ cQ h_w u_w, nX4 cI cZ cQ h_L (h_w 0) u_L]) rfl dX6_endOfFixed_16 ?_
        obtain ⟨x19, hq19, hf⟩ := qb1_some hf
        refine k_VZ O 22 rfl (zX8_isFixed (l := xl X) (D := xD X) (cI := cI) (cZ := cZ) (cQ := cQ) (h_t := h_w) hq19) (gV mlX6_125 mvX8_isFixed izX8) rfl rfl rfl hdX8_isFixed ⟨Nat.le_of_ble_eq_true rfl, Nat.le_of_ble_eq_true rfl⟩ rfl 1 rfl rfl rfl rfl (Nat.le_of_ble_eq_true rfl) ⟨Nat.zero_le _, Nat.zero_le _⟩ [1] rfl rfl rfl ([nX6 cI cZ cQ h_t (h_w 0) (h_L 0) r_P u_t, nX8 cI cZ cQ h_w u_w, nX4 cI cZ cQ h_L (h_w 0) u_L]) rfl dX6_endOfFixed_19 (fun hz19 => ?_)
        refine r_if_eq O 25 rfl 31 dX6_endOfFixed_22 (by decide) (fun hc22 => ?_) (fun hc22 => ?_)
        · rw [if_pos hc22] at hf
          refine r_ild_n O 32 rfl 2 rfl dX6_endOfFixed_31 ?_
          obtain g0 := qe1 hf
          exact r_iret2 O E g0 rfl dX6_endOfFixed_32
        · rw [if_neg hc22] at hf
          obtain ⟨x25, ex25, hf⟩ := qn_some hf
          refine r_iinc O 28 rfl x25 2 rfl (by rw [ex25]; rfl) [(3, .int x25), (0, .ref (h_t 0)), (2, .int y2)] dX6_endOfFixed_25 (by decide) rfl ?_
          refine r_goto O 2 dX6_endOfFixed_28 (by decide) ?_
          refine r_lv [1, 2, 0] rfl ?_
          exact hrec2 _ _ hf
  unfold fX6_endOfFixed at hf
  refine r_ild_n O 1 rfl 1 rfl dX6_endOfFixed_0 ?_
  refine r_ist_n O 2 rfl rfl [(3, .int a1), (0, .ref (h_t 0)), (1, .int a1), (2, .int a2)] dX6_endOfFixed_1 (by decide) rfl ?_
  refine r_lv [1, 3, 0] rfl ?_
  exact B2 FU _ _ hf
-- X6_priceOf
def rmX6_priceOf : Room := { frames := 2, cells := 0, slots := 0, locals := 50 }
set_option maxHeartbeats 4000000 in
set_option maxRecDepth 100000 in
theorem zX6_priceOf {l : Launch} {D : va_G} {cI cZ cQ : ClassId} {h_t h_w h_L : Nat → Nat} {r_P : Nat} {u_t u_w u_L : Pk} {a1 : Int32} {a2 : Int32} {a3 : Int32} {r0 : Int32} (hf : fX6_priceOf u_t u_w u_L a1 a2 a3 = some r0) : MI l yX6_priceOf wsX6_priceOf rmX6_priceOf D (TY cI cZ cQ) [.ref (h_t 0), .int a1, .int a2, .int a3] [nX6 cI cZ cQ h_t (h_w 0) (h_L 0) r_P u_t, nX8 cI cZ cQ h_w u_w, nX4 cI cZ cQ h_L (h_w 0) u_L] r0 [nX6 cI cZ cQ h_t (h_w 0) (h_L 0) r_P u_t, nX8 cI cZ cQ h_w u_w, nX4 cI cZ cQ h_L (h_w 0) u_L] := by
  refine MI.of (own := RX6) (by decide +kernel) rfl rfl (Nat.le_of_ble_eq_true rfl) (lv0 := [(0, .ref (h_t 0)), (1, .int a1), (2, .int a2), (3, .int a3)]) rfl ?_
  intro X O E
  have B60 : ∀ (rec9 : Int32 → Int32 → Int32 → Int32 → Int32 → Option (Int32)), (∀ (y1 : Int32) (y3 : Int32) (y4 : Int32) (y5 : Int32) (y6 : Int32), rec9 y1 y3 y4 y5 y6 = some r0 → BK X 8 0 0 9 ([nX6 cI cZ cQ h_t (h_w 0) (h_L 0) r_P u_t, nX8 cI cZ cQ h_w u_w, nX4 cI cZ cQ h_L (h_w 0) u_L]) [(0, .ref (h_t 0)), (1, .int y1), (3, .int y3), (4, .int y4), (5, .int y5), (6, .int y6)] []) → ∀ (y1 : Int32) (y3 : Int32) (y4 : Int32) (y5 : Int32) (y6 : Int32), fX6_priceOf_b60 rec9 u_t u_w u_L y1 y3 y4 y5 y6 = some r0 → BK X 8 0 0 60 ([nX6 cI cZ cQ h_t (h_w 0) (h_L 0) r_P u_t, nX8 cI cZ cQ h_w u_w, nX4 cI cZ cQ h_L (h_w 0) u_L]) [(0, .ref (h_t 0)), (1, .int y1), (3, .int y3), (4, .int y4), (5, .int y5), (6, .int y6)] [] := by
    intro rec9 hrec9 y1 y3 y4 y5 y6 hf
    unfold fX6_priceOf_b60 at hf
    obtain ⟨x60, ex60, hf⟩ := qn_some hf
    refine r_iinc O 63 rfl x60 5 rfl (by rw [ex60]; rfl) [(6, .int x60), (0, .ref (h_t 0)), (1, .int y1), (3, .int y3), (4, .int y4), (5, .int y5)] dX6_priceOf_60 (by decide) rfl ?_
    refine r_goto O 9 dX6_priceOf_63 (by decide) ?_
    refine r_lv [1, 2, 3, 4, 5, 0] rfl ?_
    exact hrec9 _ _ _ _ _ hf
  have B9 : ∀ n : Nat, ∀ (y1 : Int32) (y3 : Int32) (y4 : Int32) (y5 : Int32) (y6 : Int32), fX6_priceOf_b9 u_t u_w u_L n y1 y3 y4 y5 y6 = some r0 → BK X 8 0 0 9 ([nX6 cI cZ cQ h_t (h_w 0) (h_L 0) r_P u_t, nX8 cI cZ cQ h_w u_w, nX4 cI cZ cQ h_L (h_w 0) u_L]) [(0, .ref (h_t 0)), (1, .int y1), (3, .int y3), (4, .int y4), (5, .int y5), (6, .int y6)] [] := by
    intro n
    induction n with
    | zero => exact fun _ _ _ _ _ hf => qno hf
    | succ n hrec9 =>
      intro y1 y3 y4 y5 y6 hf
      have hf : fX6_priceOf_b9_s (fX6_priceOf_b9 u_t u_w u_L n) u_t u_w u_L y1 y3 y4 y5 y6 = some r0 := hf
      generalize fX6_priceOf_b9 u_t u_w u_L n = rec9 at hf hrec9
      unfold fX6_priceOf_b9_s at hf
      refine r_ild O 11 rfl 5 rfl dX6_priceOf_9 ?_
      refine r_ild_n O 12 rfl 2 rfl dX6_priceOf_11 ?_
      refine r_icmp_ge O 15 rfl 66 dX6_priceOf_12 (by decide) (fun hc12 => ?_) (fun hc12 => ?_)
      · rw [if_pos hc12] at hf
        refine r_ald_n O 67 rfl 0 rfl dX6_priceOf_66 ?_
        refine r_get (ref := RX6) (C := RX6) (T := TX6) (N := 17) O 70 rfl inBX6 0 15 rfl rfl rfl (by decide) flX6_49 rfl rfl dX6_priceOf_67 ?_
        refine r_ild O 72 rfl 3 rfl dX6_priceOf_70 ?_
        refine r_imul O 73 rfl dX6_priceOf_72 ?_
        refine r_ald_n O 74 rfl 0 rfl dX6_priceOf_73 ?_
        refine r_get (ref := RX6) (C := RX6) (T := TX6) (N := 17) O 77 rfl inBX6 0 16 rfl rfl rfl (by decide) flX6_52 rfl rfl dX6_priceOf_74 ?_
        refine r_ild O 79 rfl 4 rfl dX6_priceOf_77 ?_
        obtain ⟨x79, ex79, hf⟩ := qn_some hf
        refine r_abs O 82 rfl maX6_133.1 maX6_133.2.1 maX6_133.2.2.1 maX6_133.2.2.2 (Nat.le_of_ble_eq_true rfl) (Nat.le_of_ble_eq_true rfl) (Nat.zero_le _) (Nat.zero_le _) dX6_priceOf_79 ?_
        rw [← ex79]
        refine r_imul O 83 rfl dX6_priceOf_82 ?_
        refine r_iadd O 84 rfl dX6_priceOf_83 ?_
        obtain g0 := qe1 hf
        exact r_iret2 O E g0 rfl dX6_priceOf_84
      · rw [if_neg hc12] at hf
        refine r_ald_n O 16 rfl 0 rfl dX6_priceOf_15 ?_
        refine r_get (ref := RX6) (C := RX6) (T := TX6) (N := 17) O 19 rfl inBX6 0 1 rfl rfl rfl (by decide) flX6_64 rfl rfl dX6_priceOf_16 ?_
        refine r_ild O 21 rfl 5 rfl dX6_priceOf_19 ?_
        refine r_ild_n O 22 rfl 1 rfl dX6_priceOf_21 ?_
        obtain ⟨x22, hq22, hf⟩ := qb1_some hf
        refine k_VI O 25 rfl (zX4_placeOf (l := xl X) (D := xD X) (cI := cI) (cZ := cZ) (cQ := cQ) (h_t := h_L) (h_w := h_w) hq22) (gV mlX6_130 mvX4_placeOf izX4) rfl rfl rfl hdX4_placeOf ⟨Nat.le_of_ble_eq_true rfl, Nat.le_of_ble_eq_true rfl⟩ rfl 2 rfl rfl rfl rfl (Nat.le_of_ble_eq_true rfl) ⟨Nat.zero_le _, Nat.zero_le _⟩ [2, 1] rfl rfl rfl ([nX6 cI cZ cQ h_t (h_w 0) (h_L 0) r_P u_t, nX8 cI cZ cQ h_w u_w, nX4 cI cZ cQ h_L (h_w 0) u_L]) rfl dX6_priceOf_22 ?_
        refine r_ist O 27 rfl [(7, .int x22), (0, .ref (h_t 0)), (1, .int y1), (3, .int y3), (4, .int y4), (5, .int y5), (6, .int y6)] dX6_priceOf_25 (by decide) rfl ?_
        refine r_ild O 29 rfl 0 rfl dX6_priceOf_27 ?_
        refine r_ic O 30 rfl 3 (by decide) dX6_priceOf_29 ?_
        refine r_icmp_ne O 33 rfl 39 dX6_priceOf_30 (by decide) (fun hc30 => ?_) (fun hc30 => ?_)
        · rw [if_neg hc30] at hf
          refine r_ild O 41 rfl 0 rfl dX6_priceOf_39 ?_
          refine r_ic O 42 rfl 1 (by decide) dX6_priceOf_41 ?_
          refine r_icmp_ne O 45 rfl 51 dX6_priceOf_42 (by decide) (fun hc42 => ?_) (fun hc42 => ?_)
          · rw [if_neg hc42] at hf
            refine r_ild O 53 rfl 0 rfl dX6_priceOf_51 ?_
            refine r_ic O 54 rfl 2 (by decide) dX6_priceOf_53 ?_
            refine r_icmp_ne O 57 rfl 60 dX6_priceOf_54 (by decide) (fun hc54 => ?_) (fun hc54 => ?_)
            · rw [if_neg hc54] at hf
              refine r_lv [1, 2, 3, 4, 5, 6] rfl ?_
              exact B60 rec9 hrec9 _ _ _ _ _ hf
            · rw [if_pos hc54] at hf
              obtain ⟨x57, ex57, hf⟩ := qn_some hf
              refine r_iinc O 60 rfl x57 5 rfl (by rw [ex57]; rfl) [(5, .int x57), (7, .int x22), (0, .ref (h_t 0)), (1, .int y1), (3, .int y3), (4, .int y4), (6, .int y6)] dX6_priceOf_57 (by decide) rfl ?_
              refine r_lv [2, 3, 4, 5, 0, 6] rfl ?_
              exact B60 rec9 hrec9 _ _ _ _ _ hf
          · rw [if_pos hc42] at hf
            obtain ⟨x45, ex45, hf⟩ := qn_some hf
            refine r_iinc O 48 rfl x45 5 rfl (by rw [ex45]; rfl) [(5, .int x45), (7, .int x22), (0, .ref (h_t 0)), (1, .int y1), (3, .int y3), (4, .int y4), (6, .int y6)] dX6_priceOf_45 (by decide) rfl ?_
            refine r_goto O 60 dX6_priceOf_48 (by decide) ?_
            refine r_lv [2, 3, 4, 5, 0, 6] rfl ?_
            exact B60 rec9 hrec9 _ _ _ _ _ hf
        · rw [if_pos hc30] at hf
          obtain ⟨x33, ex33, hf⟩ := qn_some hf
          refine r_iinc O 36 rfl x33 4 rfl (by rw [ex33]; rfl) [(4, .int x33), (7, .int x22), (0, .ref (h_t 0)), (1, .int y1), (3, .int y3), (5, .int y5), (6, .int y6)] dX6_priceOf_33 (by decide) rfl ?_
          refine r_goto O 60 dX6_priceOf_36 (by decide) ?_
          refine r_lv [2, 3, 4, 0, 5, 6] rfl ?_
          exact B60 rec9 hrec9 _ _ _ _ _ hf
  unfold fX6_priceOf at hf
  refine r_ic O 1 rfl 0 (by decide) dX6_priceOf_0 ?_
  refine r_ist O 3 rfl [(4, .int 0), (0, .ref (h_t 0)), (1, .int a1), (2, .int a2), (3, .int a3)] dX6_priceOf_1 (by decide) rfl ?_
  refine r_ic O 4 rfl 0 (by decide) dX6_priceOf_3 ?_
  refine r_ist O 6 rfl [(5, .int 0), (4, .int 0), (0, .ref (h_t 0)), (1, .int a1), (2, .int a2), (3, .int a3)] dX6_priceOf_4 (by decide) rfl ?_
  refine r_ild_n O 7 rfl 4 rfl dX6_priceOf_6 ?_
  refine r_ist O 9 rfl [(6, .int a2), (5, .int 0), (4, .int 0), (0, .ref (h_t 0)), (1, .int a1), (2, .int a2), (3, .int a3)] dX6_priceOf_7 (by decide) rfl ?_
  refine r_lv [3, 4, 6, 2, 1, 0] rfl ?_
  exact B9 FU _ _ _ _ _ hf
-- X6_splittingWall
def rmX6_splittingWall : Room := { frames := 3, cells := 0, slots := 0, locals := 77 }
set_option maxHeartbeats 4000000 in
set_option maxRecDepth 100000 in
theorem zX6_splittingWall {l : Launch} {D : va_G} {cI cZ cQ : ClassId} {h_t h_w h_L : Nat → Nat} {r_P : Nat} {u_t u_w u_L : Pk} {a1 : Int32} {a2 : Int32} {r0 : Int32} (hf : fX6_splittingWall u_t u_w u_L a1 a2 = some r0) : MI l yX6_splittingWall wsX6_splittingWall rmX6_splittingWall D (TY cI cZ cQ) [.ref (h_t 0), .int a1, .int a2] [nX6 cI cZ cQ h_t (h_w 0) (h_L 0) r_P u_t, nX8 cI cZ cQ h_w u_w, nX4 cI cZ cQ h_L (h_w 0) u_L] r0 [nX6 cI cZ cQ h_t (h_w 0) (h_L 0) r_P u_t, nX8 cI cZ cQ h_w u_w, nX4 cI cZ cQ h_L (h_w 0) u_L] := by
  refine MI.of (own := RX6) (by decide +kernel) rfl rfl (Nat.le_of_ble_eq_true rfl) (lv0 := [(0, .ref (h_t 0)), (1, .int a1), (2, .int a2)]) rfl ?_
  intro X O E
  have B71 : ∀ (rec23 : Int32 → Int32 → Int32 → Int32 → Int32 → Option (Int32)), (∀ (y1 : Int32) (y3 : Int32) (y4 : Int32) (y5 : Int32) (y6 : Int32), rec23 y1 y3 y4 y5 y6 = some r0 → BK X 9 0 0 23 ([nX6 cI cZ cQ h_t (h_w 0) (h_L 0) r_P u_t, nX8 cI cZ cQ h_w u_w, nX4 cI cZ cQ h_L (h_w 0) u_L]) [(0, .ref (h_t 0)), (1, .int y1), (3, .int y3), (4, .int y4), (5, .int y5), (6, .int y6)] []) → ∀ (y1 : Int32) (y3 : Int32) (y4 : Int32) (y5 : Int32) (y6 : Int32), fX6_splittingWall_b71 rec23 u_t u_w u_L y1 y3 y4 y5 y6 = some r0 → BK X 9 0 0 71 ([nX6 cI cZ cQ h_t (h_w 0) (h_L 0) r_P u_t, nX8 cI cZ cQ h_w u_w, nX4 cI cZ cQ h_L (h_w 0) u_L]) [(0, .ref (h_t 0)), (1, .int y1), (3, .int y3), (4, .int y4), (5, .int y5), (6, .int y6)] [] := by
    intro rec23 hrec23 y1 y3 y4 y5 y6 hf
    unfold fX6_splittingWall_b71 at hf
    obtain ⟨x71, ex71, hf⟩ := qn_some hf
    refine r_iinc O 74 rfl x71 5 rfl (by rw [ex71]; rfl) [(6, .int x71), (0, .ref (h_t 0)), (1, .int y1), (3, .int y3), (4, .int y4), (5, .int y5)] dX6_splittingWall_71 (by decide) rfl ?_
    refine r_goto O 23 dX6_splittingWall_74 (by decide) ?_
    refine r_lv [1, 2, 3, 4, 5, 0] rfl ?_
    exact hrec23 _ _ _ _ _ hf
  have B64 : ∀ (rec23 : Int32 → Int32 → Int32 → Int32 → Int32 → Option (Int32)), (∀ (y1 : Int32) (y3 : Int32) (y4 : Int32) (y5 : Int32) (y6 : Int32), rec23 y1 y3 y4 y5 y6 = some r0 → BK X 9 0 0 23 ([nX6 cI cZ cQ h_t (h_w 0) (h_L 0) r_P u_t, nX8 cI cZ cQ h_w u_w, nX4 cI cZ cQ h_L (h_w 0) u_L]) [(0, .ref (h_t 0)), (1, .int y1), (3, .int y3), (4, .int y4), (5, .int y5), (6, .int y6)] []) → ∀ (y1 : Int32) (y5 : Int32) (y6 : Int32) (y7 : Int32) (y8 : Int32), fX6_splittingWall_b64 rec23 u_t u_w u_L y1 y5 y6 y7 y8 = some r0 → BK X 9 0 0 64 ([nX6 cI cZ cQ h_t (h_w 0) (h_L 0) r_P u_t, nX8 cI cZ cQ h_w u_w, nX4 cI cZ cQ h_L (h_w 0) u_L]) [(0, .ref (h_t 0)), (1, .int y1), (5, .int y5), (6, .int y6), (7, .int y7), (8, .int y8)] [] := by
    intro rec23 hrec23 y1 y5 y6 y7 y8 hf
    unfold fX6_splittingWall_b64 at hf
    refine r_ild O 66 rfl 4 rfl dX6_splittingWall_64 ?_
    refine r_ist_n O 67 rfl rfl [(3, .int y7), (0, .ref (h_t 0)), (1, .int y1), (5, .int y5), (6, .int y6), (7, .int y7), (8, .int y8)] dX6_splittingWall_66 (by decide) rfl ?_
    refine r_ild O 69 rfl 6 rfl dX6_splittingWall_67 ?_
    refine r_ist O 71 rfl [(4, .int y8), (3, .int y7), (0, .ref (h_t 0)), (1, .int y1), (5, .int y5), (6, .int y6), (7, .int y7), (8, .int y8)] dX6_splittingWall_69 (by decide) rfl ?_
    refine r_lv [2, 3, 1, 0, 4, 5] rfl ?_
    exact B71 rec23 hrec23 _ _ _ _ _ hf
  have B23 : ∀ n : Nat, ∀ (y1 : Int32) (y3 : Int32) (y4 : Int32) (y5 : Int32) (y6 : Int32), fX6_splittingWall_b23 u_t u_w u_L n y1 y3 y4 y5 y6 = some r0 → BK X 9 0 0 23 ([nX6 cI cZ cQ h_t (h_w 0) (h_L 0) r_P u_t, nX8 cI cZ cQ h_w u_w, nX4 cI cZ cQ h_L (h_w 0) u_L]) [(0, .ref (h_t 0)), (1, .int y1), (3, .int y3), (4, .int y4), (5, .int y5), (6, .int y6)] [] := by
    intro n
    induction n with
    | zero => exact fun _ _ _ _ _ hf => qno hf
    | succ n hrec23 =>
      intro y1 y3 y4 y5 y6 hf
      have hf : fX6_splittingWall_b23_s (fX6_splittingWall_b23 u_t u_w u_L n) u_t u_w u_L y1 y3 y4 y5 y6 = some r0 := hf
      generalize fX6_splittingWall_b23 u_t u_w u_L n = rec23 at hf hrec23
      unfold fX6_splittingWall_b23_s at hf
      refine r_ild O 25 rfl 5 rfl dX6_splittingWall_23 ?_
      refine r_ild O 27 rfl 4 rfl dX6_splittingWall_25 ?_
      refine r_icmp_ge O 30 rfl 77 dX6_splittingWall_27 (by decide) (fun hc27 => ?_) (fun hc27 => ?_)
      · rw [if_pos hc27] at hf
        refine r_ild_n O 78 rfl 2 rfl dX6_splittingWall_77 ?_
        obtain g0 := qe1 hf
        exact r_iret2 O E g0 rfl dX6_splittingWall_78
      · rw [if_neg hc27] at hf
        refine r_ald_n O 31 rfl 0 rfl dX6_splittingWall_30 ?_
        refine r_get (ref := RX6) (C := RX6) (T := TX6) (N := 17) O 34 rfl inBX6 0 1 rfl rfl rfl (by decide) flX6_64 rfl rfl dX6_splittingWall_31 ?_
        refine r_ild O 36 rfl 5 rfl dX6_splittingWall_34 ?_
        obtain ⟨x36, hq36, hf⟩ := qb1_some hf
        refine k_VI O 39 rfl (zX4_wallOf (l := xl X) (D := xD X) (cI := cI) (cZ := cZ) (cQ := cQ) (h_t := h_L) (r_w := (h_w 0)) hq36) (gV mlX6_116 mvX4_wallOf izX4) rfl rfl rfl hdX4_wallOf ⟨Nat.le_of_ble_eq_true rfl, Nat.le_of_ble_eq_true rfl⟩ rfl 2 rfl rfl rfl rfl (Nat.le_of_ble_eq_true rfl) ⟨Nat.zero_le _, Nat.zero_le _⟩ [2] rfl rfl rfl ([nX6 cI cZ cQ h_t (h_w 0) (h_L 0) r_P u_t, nX8 cI cZ cQ h_w u_w, nX4 cI cZ cQ h_L (h_w 0) u_L]) rfl dX6_splittingWall_36 ?_
        refine r_ist O 41 rfl [(7, .int x36), (0, .ref (h_t 0)), (1, .int y1), (3, .int y3), (4, .int y4), (5, .int y5), (6, .int y6)] dX6_splittingWall_39 (by decide) rfl ?_
        refine r_ald_n O 42 rfl 1 rfl dX6_splittingWall_41 ?_
        refine r_ild O 44 rfl 0 rfl dX6_splittingWall_42 ?_
        refine r_ild_n O 45 rfl 2 rfl dX6_splittingWall_44 ?_
        refine r_ild O 47 rfl 5 rfl dX6_splittingWall_45 ?_
        obtain ⟨x47, hq47, hf⟩ := qb1_some hf
        refine k_VI O 50 rfl (zX6_priceOf (l := xl X) (D := xD X) (cI := cI) (cZ := cZ) (cQ := cQ) (h_t := h_t) (h_w := h_w) (h_L := h_L) (r_P := r_P) hq47) (gV mlX6_122 mvX6_priceOf izX6) rfl rfl rfl hdX6_priceOf ⟨Nat.le_of_ble_eq_true rfl, Nat.le_of_ble_eq_true rfl⟩ rfl 0 rfl rfl rfl rfl (Nat.le_of_ble_eq_true rfl) ⟨Nat.zero_le _, Nat.zero_le _⟩ [0, 1, 2] rfl rfl rfl ([nX6 cI cZ cQ h_t (h_w 0) (h_L 0) r_P u_t, nX8 cI cZ cQ h_w u_w, nX4 cI cZ cQ h_L (h_w 0) u_L]) rfl dX6_splittingWall_47 ?_
        refine r_ist O 52 rfl [(8, .int x47), (7, .int x36), (0, .ref (h_t 0)), (1, .int y1), (3, .int y3), (4, .int y4), (5, .int y5), (6, .int y6)] dX6_splittingWall_50 (by decide) rfl ?_
        refine r_ild O 54 rfl 5 rfl dX6_splittingWall_52 ?_
        refine r_if_lt O 57 rfl 64 dX6_splittingWall_54 (by decide) (fun hc54 => ?_) (fun hc54 => ?_)
        · rw [if_pos hc54] at hf
          refine r_lv [2, 3, 6, 7, 1, 0] rfl ?_
          exact B64 rec23 hrec23 _ _ _ _ _ hf
        · rw [if_neg hc54] at hf
          refine r_ild O 59 rfl 0 rfl dX6_splittingWall_57 ?_
          refine r_ild O 61 rfl 5 rfl dX6_splittingWall_59 ?_
          refine r_icmp_ge O 64 rfl 71 dX6_splittingWall_61 (by decide) (fun hc61 => ?_) (fun hc61 => ?_)
          · rw [if_pos hc61] at hf
            refine r_lv [2, 3, 4, 5, 6, 7] rfl ?_
            exact B71 rec23 hrec23 _ _ _ _ _ hf
          · rw [if_neg hc61] at hf
            refine r_lv [2, 3, 6, 7, 1, 0] rfl ?_
            exact B64 rec23 hrec23 _ _ _ _ _ hf
  unfold fX6_splittingWall at hf
  refine r_ald_n O 1 rfl 0 rfl dX6_splittingWall_0 ?_
  refine r_get (ref := RX6) (C := RX6) (T := TX6) (N := 17) O 4 rfl inBX6 0 1 rfl rfl rfl (by decide) flX6_64 rfl rfl dX6_splittingWall_1 ?_
  refine r_ild_n O 5 rfl 1 rfl dX6_splittingWall_4 ?_
  obtain ⟨x5, hq5, hf⟩ := qb1_some hf
  refine k_VI O 8 rfl (zX4_wallOf (l := xl X) (D := xD X) (cI := cI) (cZ := cZ) (cQ := cQ) (h_t := h_L) (r_w := (h_w 0)) hq5) (gV mlX6_116 mvX4_wallOf izX4) rfl rfl rfl hdX4_wallOf ⟨Nat.le_of_ble_eq_true rfl, Nat.le_of_ble_eq_true rfl⟩ rfl 2 rfl rfl rfl rfl (Nat.le_of_ble_eq_true rfl) ⟨Nat.zero_le _, Nat.zero_le _⟩ [2] rfl rfl rfl ([nX6 cI cZ cQ h_t (h_w 0) (h_L 0) r_P u_t, nX8 cI cZ cQ h_w u_w, nX4 cI cZ cQ h_L (h_w 0) u_L]) rfl dX6_splittingWall_5 ?_
  refine r_ist_n O 9 rfl rfl [(3, .int x5), (0, .ref (h_t 0)), (1, .int a1), (2, .int a2)] dX6_splittingWall_8 (by decide) rfl ?_
  refine r_ic O 10 rfl (-1) (by decide) dX6_splittingWall_9 ?_
  refine r_ist O 12 rfl [(4, .int (-1)), (3, .int x5), (0, .ref (h_t 0)), (1, .int a1), (2, .int a2)] dX6_splittingWall_10 (by decide) rfl ?_
  refine r_ald_n O 13 rfl 2 rfl dX6_splittingWall_12 ?_
  refine r_ild_n O 14 rfl 3 rfl dX6_splittingWall_13 ?_
  refine r_ild_n O 15 rfl 4 rfl dX6_splittingWall_14 ?_
  obtain ⟨x15, hq15, hf⟩ := qb1_some hf
  refine k_VI O 18 rfl (zX6_endOfFixed (l := xl X) (D := xD X) (cI := cI) (cZ := cZ) (cQ := cQ) (h_t := h_t) (h_w := h_w) (h_L := h_L) (r_P := r_P) hq15) (gV mlX6_119 mvX6_endOfFixed izX6) rfl rfl rfl hdX6_endOfFixed ⟨Nat.le_of_ble_eq_true rfl, Nat.le_of_ble_eq_true rfl⟩ rfl 0 rfl rfl rfl rfl (Nat.le_of_ble_eq_true rfl) ⟨Nat.zero_le _, Nat.zero_le _⟩ [0, 1, 2] rfl rfl rfl ([nX6 cI cZ cQ h_t (h_w 0) (h_L 0) r_P u_t, nX8 cI cZ cQ h_w u_w, nX4 cI cZ cQ h_L (h_w 0) u_L]) rfl dX6_splittingWall_15 ?_
  refine r_ist O 20 rfl [(5, .int x15), (4, .int (-1)), (3, .int x5), (0, .ref (h_t 0)), (1, .int a1), (2, .int a2)] dX6_splittingWall_18 (by decide) rfl ?_
  refine r_ild_n O 21 rfl 4 rfl dX6_splittingWall_20 ?_
  refine r_ist O 23 rfl [(6, .int a1), (5, .int x15), (4, .int (-1)), (3, .int x5), (0, .ref (h_t 0)), (1, .int a1), (2, .int a2)] dX6_splittingWall_21 (by decide) rfl ?_
  refine r_lv [4, 5, 3, 2, 1, 0] rfl ?_
  exact B23 FU _ _ _ _ _ hf
-- X6_makeNode
def rmX6_makeNode : Room := { frames := 3, cells := 0, slots := 0, locals := 88 }
set_option maxHeartbeats 4000000 in
set_option maxRecDepth 100000 in
theorem zX6_makeNode {l : Launch} {D : va_G} {cI cZ cQ : ClassId} {h_t h_w h_L h_P : Nat → Nat} {u_w u_L u_t u_P : Pk} {a1 : Int32} {a2 : Int32} {a3 : Int32} {a4 : Int32} {r0 : Int32} {v_t v_P : Pk} (hf : fX6_makeNode u_w u_L u_t u_P a1 a2 a3 a4 = some (r0, v_t, v_P)) : MI l yX6_makeNode wsX6_makeNode rmX6_makeNode D (TY cI cZ cQ) [.ref (h_t 0), .int a1, .int a2, .int a3, .int a4] [nX6 cI cZ cQ h_t (h_w 0) (h_L 0) (h_P 0) u_t, nX8 cI cZ cQ h_w u_w, nX4 cI cZ cQ h_L (h_w 0) u_L, nX4 cI cZ cQ h_P (h_w 0) u_P] r0 [nX6 cI cZ cQ h_t (h_w 0) (h_L 0) (h_P 0) v_t, nX8 cI cZ cQ h_w u_w, nX4 cI cZ cQ h_L (h_w 0) u_L, nX4 cI cZ cQ h_P (h_w 0) v_P] := by
  refine MI.of (own := RX6) (by decide +kernel) rfl rfl (Nat.le_of_ble_eq_true rfl) (lv0 := [(0, .ref (h_t 0)), (1, .int a1), (2, .int a2), (3, .int a3), (4, .int a4)]) rfl ?_
  intro X O E
  have B94 : ∀ (w_t : Pk) (w_P : Pk) (y1 : Int32) (y4 : Int32) (y5 : Int32) (y6 : Int32), fX6_makeNode_b94 u_w u_L w_t w_P y1 y4 y5 y6 = some (r0, v_t, v_P) → BK X 8 0 0 94 ([nX6 cI cZ cQ h_t (h_w 0) (h_L 0) (h_P 0) w_t, nX8 cI cZ cQ h_w u_w, nX4 cI cZ cQ h_L (h_w 0) u_L, nX4 cI cZ cQ h_P (h_w 0) w_P]) [(0, .ref (h_t 0)), (1, .int y1), (4, .int y4), (5, .int y5), (6, .int y6)] [] := by
    intro w_t w_P y1 y4 y5 y6 hf
    unfold fX6_makeNode_b94 at hf
    refine r_ald_n O 95 rfl 0 rfl dX6_makeNode_94 ?_
    refine r_get (ref := RX6) (C := RX6) (T := TX6) (N := 17) O 98 rfl inBX6 0 4 rfl rfl rfl (by decide) flX6_15 rfl rfl dX6_makeNode_95 ?_
    refine r_ild O 100 rfl 3 rfl dX6_makeNode_98 ?_
    refine r_ild_n O 101 rfl 1 rfl dX6_makeNode_100 ?_
    obtain ⟨hin101, hf⟩ := qst_some hf
    obtain ⟨p101_t, ep101_t, hf⟩ := qn_some hf
    refine r_iast O 102 rfl 0 2 rfl rfl hin101 ([nX6 cI cZ cQ h_t (h_w 0) (h_L 0) (h_P 0) p101_t, nX8 cI cZ cQ h_w u_w, nX4 cI cZ cQ h_L (h_w 0) u_L, nX4 cI cZ cQ h_P (h_w 0) w_P]) (by rw [ep101_t]; rfl) dX6_makeNode_101 ?_
    refine r_ald_n O 103 rfl 0 rfl dX6_makeNode_102 ?_
    refine r_get (ref := RX6) (C := RX6) (T := TX6) (N := 17) O 106 rfl inBX6 0 7 rfl rfl rfl (by decide) flX6_24 rfl rfl dX6_makeNode_103 ?_
    refine r_ild O 108 rfl 3 rfl dX6_makeNode_106 ?_
    refine r_ild O 110 rfl 2 rfl dX6_makeNode_108 ?_
    obtain ⟨hin110, hf⟩ := qst_some hf
    obtain ⟨p110_t, ep110_t, hf⟩ := qn_some hf
    refine r_iast O 111 rfl 0 5 rfl rfl hin110 ([nX6 cI cZ cQ h_t (h_w 0) (h_L 0) (h_P 0) p110_t, nX8 cI cZ cQ h_w u_w, nX4 cI cZ cQ h_L (h_w 0) u_L, nX4 cI cZ cQ h_P (h_w 0) w_P]) (by rw [ep110_t]; rfl) dX6_makeNode_110 ?_
    refine r_ald_n O 112 rfl 0 rfl dX6_makeNode_111 ?_
    refine r_get (ref := RX6) (C := RX6) (T := TX6) (N := 17) O 115 rfl inBX6 0 8 rfl rfl rfl (by decide) flX6_27 rfl rfl dX6_makeNode_112 ?_
    refine r_ild O 117 rfl 3 rfl dX6_makeNode_115 ?_
    refine r_ild O 119 rfl 4 rfl dX6_makeNode_117 ?_
    obtain ⟨hin119, hf⟩ := qst_some hf
    obtain ⟨p119_t, ep119_t, hf⟩ := qn_some hf
    refine r_iast O 120 rfl 0 6 rfl rfl hin119 ([nX6 cI cZ cQ h_t (h_w 0) (h_L 0) (h_P 0) p119_t, nX8 cI cZ cQ h_w u_w, nX4 cI cZ cQ h_L (h_w 0) u_L, nX4 cI cZ cQ h_P (h_w 0) w_P]) (by rw [ep119_t]; rfl) dX6_makeNode_119 ?_
    refine r_ald_n O 121 rfl 0 rfl dX6_makeNode_120 ?_
    refine r_get (ref := RX6) (C := RX6) (T := TX6) (N := 17) O 124 rfl inBX6 0 9 rfl rfl rfl (by decide) flX6_30 rfl rfl dX6_makeNode_121 ?_
    refine r_ild O 126 rfl 3 rfl dX6_makeNode_124 ?_
    refine r_ald_n O 127 rfl 0 rfl dX6_makeNode_126 ?_
    refine r_get (ref := RX6) (C := RX6) (T := TX6) (N := 17) O 130 rfl inBX6 0 2 rfl rfl rfl (by decide) flX6_68 rfl rfl dX6_makeNode_127 ?_
    obtain ⟨x130, hq130, hf⟩ := qb1_some hf
    refine k_VI O 133 rfl (zX4_size (l := xl X) (D := xD X) (cI := cI) (cZ := cZ) (cQ := cQ) (h_t := h_P) (r_w := (h_w 0)) hq130) (gV mlX6_79 mvX4_size izX4) rfl rfl rfl hdX4_size ⟨Nat.le_of_ble_eq_true rfl, Nat.le_of_ble_eq_true rfl⟩ rfl 3 rfl rfl rfl rfl (Nat.le_of_ble_eq_true rfl) ⟨Nat.zero_le _, Nat.zero_le _⟩ [3] rfl rfl rfl ([nX6 cI cZ cQ h_t (h_w 0) (h_L 0) (h_P 0) p119_t, nX8 cI cZ cQ h_w u_w, nX4 cI cZ cQ h_L (h_w 0) u_L, nX4 cI cZ cQ h_P (h_w 0) w_P]) rfl dX6_makeNode_130 ?_
    refine r_ild O 135 rfl 4 rfl dX6_makeNode_133 ?_
    refine r_isub O 136 rfl dX6_makeNode_135 ?_
    obtain ⟨hin136, hf⟩ := qst_some hf
    obtain ⟨p136_t, ep136_t, hf⟩ := qn_some hf
    refine r_iast O 137 rfl 0 7 rfl rfl hin136 ([nX6 cI cZ cQ h_t (h_w 0) (h_L 0) (h_P 0) p136_t, nX8 cI cZ cQ h_w u_w, nX4 cI cZ cQ h_L (h_w 0) u_L, nX4 cI cZ cQ h_P (h_w 0) w_P]) (by rw [ep136_t]; rfl) dX6_makeNode_136 ?_
    refine r_ild O 139 rfl 3 rfl dX6_makeNode_137 ?_
    obtain ⟨g0, g1, g2⟩ := qe3 hf
    exact r_iret2 O E g0 (by rw [g1, g2]) dX6_makeNode_139
  have B59 : ∀ n : Nat, ∀ (w_t : Pk) (w_P : Pk) (y1 : Int32) (y4 : Int32) (y5 : Int32) (y6 : Int32) (y7 : Int32), fX6_makeNode_b59 u_w u_L n w_t w_P y1 y4 y5 y6 y7 = some (r0, v_t, v_P) → BK X 8 0 0 59 ([nX6 cI cZ cQ h_t (h_w 0) (h_L 0) (h_P 0) w_t, nX8 cI cZ cQ h_w u_w, nX4 cI cZ cQ h_L (h_w 0) u_L, nX4 cI cZ cQ h_P (h_w 0) w_P]) [(0, .ref (h_t 0)), (1, .int y1), (4, .int y4), (5, .int y5), (6, .int y6), (7, .int y7)] [] := by
    intro n
    induction n with
    | zero => exact fun _ _ _ _ _ _ _ hf => qno hf
    | succ n hrec59 =>
      intro w_t w_P y1 y4 y5 y6 y7 hf
      have hf : fX6_makeNode_b59_s (fX6_makeNode_b59 u_w u_L n) u_w u_L w_t w_P y1 y4 y5 y6 y7 = some (r0, v_t, v_P) := hf
      generalize fX6_makeNode_b59 u_w u_L n = rec59 at hf hrec59
      unfold fX6_makeNode_b59_s at hf
      refine r_ild O 61 rfl 5 rfl dX6_makeNode_59 ?_
      refine r_ald_n O 62 rfl 0 rfl dX6_makeNode_61 ?_
      refine r_get (ref := RX6) (C := RX6) (T := TX6) (N := 17) O 65 rfl inBX6 0 2 rfl rfl rfl (by decide) flX6_68 rfl rfl dX6_makeNode_62 ?_
      obtain ⟨x65, hq65, hf⟩ := qb1_some hf
      refine k_VI O 68 rfl (zX4_size (l := xl X) (D := xD X) (cI := cI) (cZ := cZ) (cQ := cQ) (h_t := h_P) (r_w := (h_w 0)) hq65) (gV mlX6_79 mvX4_size izX4) rfl rfl rfl hdX4_size ⟨Nat.le_of_ble_eq_true rfl, Nat.le_of_ble_eq_true rfl⟩ rfl 3 rfl rfl rfl rfl (Nat.le_of_ble_eq_true rfl) ⟨Nat.zero_le _, Nat.zero_le _⟩ [3] rfl rfl rfl ([nX6 cI cZ cQ h_t (h_w 0) (h_L 0) (h_P 0) w_t, nX8 cI cZ cQ h_w u_w, nX4 cI cZ cQ h_L (h_w 0) u_L, nX4 cI cZ cQ h_P (h_w 0) w_P]) rfl dX6_makeNode_65 ?_
      refine r_icmp_ge O 71 rfl 94 dX6_makeNode_68 (by decide) (fun hc68 => ?_) (fun hc68 => ?_)
      · rw [if_pos hc68] at hf
        refine r_lv [0, 1, 2, 3, 4] rfl ?_
        exact B94 _ _ _ _ _ _ hf
      · rw [if_neg hc68] at hf
        refine r_ild O 73 rfl 5 rfl dX6_makeNode_71 ?_
        refine r_si O 76 rfl 144 (by decide) dX6_makeNode_73 ?_
        refine r_icmp_ge O 79 rfl 94 dX6_makeNode_76 (by decide) (fun hc76 => ?_) (fun hc76 => ?_)
        · rw [if_pos hc76] at hf
          refine r_lv [0, 1, 2, 3, 4] rfl ?_
          exact B94 _ _ _ _ _ _ hf
        · rw [if_neg hc76] at hf
          refine r_ald_n O 80 rfl 0 rfl dX6_makeNode_79 ?_
          refine r_get (ref := RX6) (C := RX6) (T := TX6) (N := 17) O 83 rfl inBX6 0 3 rfl rfl rfl (by decide) flX6_9 rfl rfl dX6_makeNode_80 ?_
          refine r_ild O 85 rfl 5 rfl dX6_makeNode_83 ?_
          refine r_ild O 87 rfl 3 rfl dX6_makeNode_85 ?_
          obtain ⟨hin87, hf⟩ := qst_some hf
          obtain ⟨p87_t, ep87_t, hf⟩ := qn_some hf
          refine r_iast O 88 rfl 0 1 rfl rfl hin87 ([nX6 cI cZ cQ h_t (h_w 0) (h_L 0) (h_P 0) p87_t, nX8 cI cZ cQ h_w u_w, nX4 cI cZ cQ h_L (h_w 0) u_L, nX4 cI cZ cQ h_P (h_w 0) w_P]) (by rw [ep87_t]; rfl) dX6_makeNode_87 ?_
          obtain ⟨x88, ex88, hf⟩ := qn_some hf
          refine r_iinc O 91 rfl x88 5 rfl (by rw [ex88]; rfl) [(7, .int x88), (0, .ref (h_t 0)), (1, .int y1), (4, .int y4), (5, .int y5), (6, .int y6)] dX6_makeNode_88 (by decide) rfl ?_
          refine r_goto O 59 dX6_makeNode_91 (by decide) ?_
          refine r_lv [1, 2, 3, 4, 5, 0] rfl ?_
          exact hrec59 _ _ _ _ _ _ _ hf
  unfold fX6_makeNode at hf
  refine r_ald_n O 1 rfl 0 rfl dX6_makeNode_0 ?_
  refine r_get (ref := RX6) (C := RX6) (T := TX6) (N := 17) O 4 rfl inBX6 0 11 rfl rfl rfl (by decide) flX6_37 rfl rfl dX6_makeNode_1 ?_
  obtain ⟨x4, ex4, hf⟩ := qn_some hf
  rw [← ex4]
  refine r_ist O 6 rfl [(5, .int x4), (0, .ref (h_t 0)), (1, .int a1), (2, .int a2), (3, .int a3), (4, .int a4)] dX6_makeNode_4 (by decide) rfl ?_
  refine r_ild O 8 rfl 0 rfl dX6_makeNode_6 ?_
  refine r_if_lt O 11 rfl 19 dX6_makeNode_8 (by decide) (fun hc8 => ?_) (fun hc8 => ?_)
  · rw [if_pos hc8] at hf
    refine r_ic O 20 rfl (-1) (by decide) dX6_makeNode_19 ?_
    obtain ⟨g0, g1, g2⟩ := qe3 hf
    exact r_iret2 O E g0 (by rw [g1, g2]) dX6_makeNode_20
  · rw [if_neg hc8] at hf
    refine r_ild O 13 rfl 0 rfl dX6_makeNode_11 ?_
    refine r_si O 16 rfl 144 (by decide) dX6_makeNode_13 ?_
    refine r_icmp_lt O 19 rfl 21 dX6_makeNode_16 (by decide) (fun hc16 => ?_) (fun hc16 => ?_)
    · rw [if_pos hc16] at hf
      refine r_ald_n O 22 rfl 1 rfl dX6_makeNode_21 ?_
      refine r_dup O 23 rfl dX6_makeNode_22 rfl ?_
      refine r_get (ref := RX6) (C := RX6) (T := TX6) (N := 17) O 26 rfl inBX6 0 11 rfl rfl rfl (by decide) flX6_37 rfl rfl dX6_makeNode_23 ?_
      refine r_ic O 27 rfl 1 (by decide) dX6_makeNode_26 ?_
      refine r_iadd O 28 rfl dX6_makeNode_27 ?_
      obtain ⟨p28_t, ep28_t, hf⟩ := qn_some hf
      refine r_put (ref := RX6) (C := RX6) (T := TX6) (N := 17) O 31 rfl inBX6 tyX6 tyX6_ok nmX6 0 11 rfl rfl rfl (by decide) flX6_37 rfl rfl rfl rfl (Nat.le_of_ble_eq_true rfl) ([nX6 cI cZ cQ h_t (h_w 0) (h_L 0) (h_P 0) p28_t, nX8 cI cZ cQ h_w u_w, nX4 cI cZ cQ h_L (h_w 0) u_L, nX4 cI cZ cQ h_P (h_w 0) u_P]) (by rw [ep28_t]; rfl) dX6_makeNode_28 ?_
      refine r_ald_n O 32 rfl 1 rfl dX6_makeNode_31 ?_
      refine r_get (ref := RX6) (C := RX6) (T := TX6) (N := 17) O 35 rfl inBX6 0 2 rfl rfl rfl (by decide) flX6_68 rfl rfl dX6_makeNode_32 ?_
      obtain ⟨x35, hq35, hf⟩ := qb1_some hf
      refine k_VI O 38 rfl (zX4_size (l := xl X) (D := xD X) (cI := cI) (cZ := cZ) (cQ := cQ) (h_t := h_P) (r_w := (h_w 0)) hq35) (gV mlX6_79 mvX4_size izX4) rfl rfl rfl hdX4_size ⟨Nat.le_of_ble_eq_true rfl, Nat.le_of_ble_eq_true rfl⟩ rfl 3 rfl rfl rfl rfl (Nat.le_of_ble_eq_true rfl) ⟨Nat.zero_le _, Nat.zero_le _⟩ [3] rfl rfl rfl ([nX6 cI cZ cQ h_t (h_w 0) (h_L 0) (h_P 0) p28_t, nX8 cI cZ cQ h_w u_w, nX4 cI cZ cQ h_L (h_w 0) u_L, nX4 cI cZ cQ h_P (h_w 0) u_P]) rfl dX6_makeNode_35 ?_
      refine r_ist O 40 rfl [(6, .int x35), (5, .int x4), (0, .ref (h_t 0)), (1, .int a1), (2, .int a2), (3, .int a3), (4, .int a4)] dX6_makeNode_38 (by decide) rfl ?_
      refine r_ald_n O 41 rfl 2 rfl dX6_makeNode_40 ?_
      refine r_get (ref := RX6) (C := RX6) (T := TX6) (N := 17) O 44 rfl inBX6 0 2 rfl rfl rfl (by decide) flX6_68 rfl rfl dX6_makeNode_41 ?_
      refine r_ald_n O 45 rfl 2 rfl dX6_makeNode_44 ?_
      refine r_get (ref := RX6) (C := RX6) (T := TX6) (N := 17) O 48 rfl inBX6 0 1 rfl rfl rfl (by decide) flX6_64 rfl rfl dX6_makeNode_45 ?_
      refine r_ild_n O 49 rfl 4 rfl dX6_makeNode_48 ?_
      refine r_ild_n O 50 rfl 5 rfl dX6_makeNode_49 ?_
      refine r_ild_n O 51 rfl 3 rfl dX6_makeNode_50 ?_
      refine r_ic O 52 rfl 0 (by decide) dX6_makeNode_51 ?_
      obtain ⟨p52_P, hq52, hf⟩ := qb1_some hf
      refine k_VV O 55 rfl (zX4_addSide (l := xl X) (D := xD X) (cI := cI) (cZ := cZ) (cQ := cQ) (h_t := h_P) (h_w := h_w) (h_s := h_L) hq52) (gV mlX6_107 mvX4_addSide izX4) rfl rfl rfl hdX4_addSide ⟨Nat.le_of_ble_eq_true rfl, Nat.le_of_ble_eq_true rfl⟩ rfl 3 rfl rfl rfl rfl (Nat.le_of_ble_eq_true rfl) ⟨Nat.zero_le _, Nat.zero_le _⟩ [3, 1, 2] rfl rfl rfl ([nX6 cI cZ cQ h_t (h_w 0) (h_L 0) (h_P 0) p28_t, nX8 cI cZ cQ h_w u_w, nX4 cI cZ cQ h_L (h_w 0) u_L, nX4 cI cZ cQ h_P (h_w 0) p52_P]) rfl dX6_makeNode_52 ?_
      refine r_ild O 57 rfl 0 rfl dX6_makeNode_55 ?_
      refine r_ist O 59 rfl [(7, .int x35), (6, .int x35), (5, .int x4), (0, .ref (h_t 0)), (1, .int a1), (2, .int a2), (3, .int a3), (4, .int a4)] dX6_makeNode_57 (by decide) rfl ?_
      refine r_lv [3, 4, 7, 2, 1, 0] rfl ?_
      exact B59 FU _ _ _ _ _ _ _ hf
    · rw [if_neg hc16] at hf
      refine r_ic O 20 rfl (-1) (by decide) dX6_makeNode_19 ?_
      obtain ⟨g0, g1, g2⟩ := qe3 hf
      exact r_iret2 O E g0 (by rw [g1, g2]) dX6_makeNode_20
-- X6_makeBranches
def rmX6_makeSubtree (n : Nat) : Room := { frames := 6 + 2 * n, cells := 0, slots := 0, locals := 155 + 53 * n }
def rmX6_makeBranches (n : Nat) : Room := { frames := 6 + 1 + 2 * n, cells := 0, slots := 0, locals := 180 + 53 * n }
set_option maxHeartbeats 4000000 in
set_option maxRecDepth 100000 in
theorem zX6_makeBranches {l : Launch} {D : va_G} {cI cZ cQ : ClassId} {h_t h_w h_L h_P : Nat → Nat} {u_w u_t u_L u_P : Pk} {a1 : Int32} {a2 : Int32} {a3 : Int32} {a4 : Int32} {v_t v_L v_P : Pk} {n : Nat} {recM : Pk → Pk → Pk → Pk → Int32 → Int32 → Int32 → Option (Int32 × Pk × Pk × Pk)} (hrecM : (∀ (l : Launch) (D : va_G) (cI cZ cQ : ClassId) (h_t h_w h_L h_P : Nat → Nat) (u_w u_t u_L u_P : Pk) (a1 : Int32) (a2 : Int32) (a3 : Int32) (r0 : Int32) (v_t v_L v_P : Pk), recM u_w u_t u_L u_P a1 a2 a3 = some (r0, v_t, v_L, v_P) → MI l yX6_makeSubtree wsX6_makeSubtree (rmX6_makeSubtree n) D (TY cI cZ cQ) [.ref (h_t 0), .int a1, .int a2, .int a3] [nX6 cI cZ cQ h_t (h_w 0) (h_L 0) (h_P 0) u_t, nX8 cI cZ cQ h_w u_w, nX4 cI cZ cQ h_L (h_w 0) u_L, nX4 cI cZ cQ h_P (h_w 0) u_P] r0 [nX6 cI cZ cQ h_t (h_w 0) (h_L 0) (h_P 0) v_t, nX8 cI cZ cQ h_w u_w, nX4 cI cZ cQ h_L (h_w 0) v_L, nX4 cI cZ cQ h_P (h_w 0) v_P])) (hf : fX6_makeBranches recM u_w u_t u_L u_P a1 a2 a3 a4 = some (v_t, v_L, v_P)) : MV l yX6_makeBranches wsX6_makeBranches (rmX6_makeBranches n) D (TY cI cZ cQ) [.ref (h_t 0), .int a1, .int a2, .int a3, .int a4] [nX6 cI cZ cQ h_t (h_w 0) (h_L 0) (h_P 0) u_t, nX8 cI cZ cQ h_w u_w, nX4 cI cZ cQ h_L (h_w 0) u_L, nX4 cI cZ cQ h_P (h_w 0) u_P] [nX6 cI cZ cQ h_t (h_w 0) (h_L 0) (h_P 0) v_t, nX8 cI cZ cQ h_w u_w, nX4 cI cZ cQ h_L (h_w 0) v_L, nX4 cI cZ cQ h_P (h_w 0) v_P] := by
  refine MV.of (own := RX6) (by decide +kernel) rfl rfl (Nat.le_of_ble_eq_true rfl) (lv0 := [(0, .ref (h_t 0)), (1, .int a1), (2, .int a2), (3, .int a3), (4, .int a4)]) rfl ?_
  intro X O E
  unfold fX6_makeBranches at hf
  refine r_ald_n O 1 rfl 0 rfl dX6_makeBranches_0 ?_
  refine r_ild_n O 2 rfl 1 rfl dX6_makeBranches_1 ?_
  obtain ⟨x2, hq2, hf⟩ := qb1_some hf
  refine k_VZ O 5 rfl (zX6_hasNode (l := xl X) (D := xD X) (cI := cI) (cZ := cZ) (cQ := cQ) (h_t := h_t) (r_w := (h_w 0)) (r_L := (h_L 0)) (r_P := (h_P 0)) hq2) (gV mlX6_103 mvX6_hasNode izX6) rfl rfl rfl hdX6_hasNode ⟨by simp [rmX6_hasNode, rmX6_makeBranches] <;> omega, by simp [rmX6_hasNode, rmX6_makeBranches] <;> omega⟩ rfl 0 rfl rfl rfl rfl (Nat.le_of_ble_eq_true rfl) ⟨Nat.zero_le _, Nat.zero_le _⟩ [0] rfl rfl rfl ([nX6 cI cZ cQ h_t (h_w 0) (h_L 0) (h_P 0) u_t, nX8 cI cZ cQ h_w u_w, nX4 cI cZ cQ h_L (h_w 0) u_L, nX4 cI cZ cQ h_P (h_w 0) u_P]) rfl dX6_makeBranches_2 (fun hz2 => ?_)
  refine r_if_ne O 8 rfl 9 dX6_makeBranches_5 (by decide) (fun hc5 => ?_) (fun hc5 => ?_)
  · rw [if_neg hc5] at hf
    refine r_ald_n O 10 rfl 0 rfl dX6_makeBranches_9 ?_
    refine r_get (ref := RX6) (C := RX6) (T := TX6) (N := 17) O 13 rfl inBX6 0 4 rfl rfl rfl (by decide) flX6_15 rfl rfl dX6_makeBranches_10 ?_
    refine r_ild_n O 14 rfl 1 rfl dX6_makeBranches_13 ?_
    obtain ⟨x14, ex14, hin14, hf⟩ := qld_some hf
    refine r_iald O 15 rfl 0 2 rfl rfl hin14 dX6_makeBranches_14 ?_
    rw [← ex14]
    refine r_ist O 17 rfl [(5, .int x14), (0, .ref (h_t 0)), (1, .int a1), (2, .int a2), (3, .int a3), (4, .int a4)] dX6_makeBranches_15 (by decide) rfl ?_
    refine r_ald_n O 18 rfl 1 rfl dX6_makeBranches_17 ?_
    refine r_get (ref := RX6) (C := RX6) (T := TX6) (N := 17) O 21 rfl inBX6 0 1 rfl rfl rfl (by decide) flX6_64 rfl rfl dX6_makeBranches_18 ?_
    obtain ⟨x21, hq21, hf⟩ := qb1_some hf
    refine k_VI O 24 rfl (zX4_size (l := xl X) (D := xD X) (cI := cI) (cZ := cZ) (cQ := cQ) (h_t := h_L) (r_w := (h_w 0)) hq21) (gV mlX6_79 mvX4_size izX4) rfl rfl rfl hdX4_size ⟨by simp [rmX4_size, rmX6_makeBranches] <;> omega, by simp [rmX4_size, rmX6_makeBranches] <;> omega⟩ rfl 2 rfl rfl rfl rfl (Nat.le_of_ble_eq_true rfl) ⟨Nat.zero_le _, Nat.zero_le _⟩ [2] rfl rfl rfl ([nX6 cI cZ cQ h_t (h_w 0) (h_L 0) (h_P 0) u_t, nX8 cI cZ cQ h_w u_w, nX4 cI cZ cQ h_L (h_w 0) u_L, nX4 cI cZ cQ h_P (h_w 0) u_P]) rfl dX6_makeBranches_21 ?_
    refine r_ist O 26 rfl [(6, .int x21), (5, .int x14), (0, .ref (h_t 0)), (1, .int a1), (2, .int a2), (3, .int a3), (4, .int a4)] dX6_makeBranches_24 (by decide) rfl ?_
    refine r_ald_n O 27 rfl 2 rfl dX6_makeBranches_26 ?_
    refine r_get (ref := RX6) (C := RX6) (T := TX6) (N := 17) O 30 rfl inBX6 0 1 rfl rfl rfl (by decide) flX6_64 rfl rfl dX6_makeBranches_27 ?_
    refine r_ald_n O 31 rfl 2 rfl dX6_makeBranches_30 ?_
    refine r_get (ref := RX6) (C := RX6) (T := TX6) (N := 17) O 34 rfl inBX6 0 1 rfl rfl rfl (by decide) flX6_64 rfl rfl dX6_makeBranches_31 ?_
    refine r_ild_n O 35 rfl 4 rfl dX6_makeBranches_34 ?_
    refine r_ild_n O 36 rfl 5 rfl dX6_makeBranches_35 ?_
    refine r_ild O 38 rfl 1 rfl dX6_makeBranches_36 ?_
    refine r_ic O 39 rfl 1 (by decide) dX6_makeBranches_38 ?_
    obtain ⟨p39_L, hq39, hf⟩ := qb1_some hf
    refine k_VV O 42 rfl (zX4_addSide_a (l := xl X) (D := xD X) (cI := cI) (cZ := cZ) (cQ := cQ) (h_t := h_L) (h_w := h_w) hq39) (gV mlX6_107 mvX4_addSide izX4) rfl rfl rfl hdX4_addSide ⟨by simp [rmX4_addSide_a, rmX6_makeBranches] <;> omega, by simp [rmX4_addSide_a, rmX6_makeBranches] <;> omega⟩ rfl 2 rfl rfl rfl rfl (Nat.le_of_ble_eq_true rfl) ⟨Nat.zero_le _, Nat.zero_le _⟩ [2, 1] rfl rfl rfl ([nX6 cI cZ cQ h_t (h_w 0) (h_L 0) (h_P 0) u_t, nX8 cI cZ cQ h_w u_w, nX4 cI cZ cQ h_L (h_w 0) p39_L, nX4 cI cZ cQ h_P (h_w 0) u_P]) rfl dX6_makeBranches_39 ?_
    refine r_ald_n O 43 rfl 2 rfl dX6_makeBranches_42 ?_
    refine r_get (ref := RX6) (C := RX6) (T := TX6) (N := 17) O 46 rfl inBX6 0 1 rfl rfl rfl (by decide) flX6_64 rfl rfl dX6_makeBranches_43 ?_
    obtain ⟨x46, hq46, hf⟩ := qb1_some hf
    refine k_VI O 49 rfl (zX4_size (l := xl X) (D := xD X) (cI := cI) (cZ := cZ) (cQ := cQ) (h_t := h_L) (r_w := (h_w 0)) hq46) (gV mlX6_79 mvX4_size izX4) rfl rfl rfl hdX4_size ⟨by simp [rmX4_size, rmX6_makeBranches] <;> omega, by simp [rmX4_size, rmX6_makeBranches] <;> omega⟩ rfl 2 rfl rfl rfl rfl (Nat.le_of_ble_eq_true rfl) ⟨Nat.zero_le _, Nat.zero_le _⟩ [2] rfl rfl rfl ([nX6 cI cZ cQ h_t (h_w 0) (h_L 0) (h_P 0) u_t, nX8 cI cZ cQ h_w u_w, nX4 cI cZ cQ h_L (h_w 0) p39_L, nX4 cI cZ cQ h_P (h_w 0) u_P]) rfl dX6_makeBranches_46 ?_
    refine r_ist O 51 rfl [(7, .int x46), (6, .int x21), (5, .int x14), (0, .ref (h_t 0)), (1, .int a1), (2, .int a2), (3, .int a3), (4, .int a4)] dX6_makeBranches_49 (by decide) rfl ?_
    refine r_ald_n O 52 rfl 3 rfl dX6_makeBranches_51 ?_
    refine r_get (ref := RX6) (C := RX6) (T := TX6) (N := 17) O 55 rfl inBX6 0 1 rfl rfl rfl (by decide) flX6_64 rfl rfl dX6_makeBranches_52 ?_
    refine r_ald_n O 56 rfl 3 rfl dX6_makeBranches_55 ?_
    refine r_get (ref := RX6) (C := RX6) (T := TX6) (N := 17) O 59 rfl inBX6 0 1 rfl rfl rfl (by decide) flX6_64 rfl rfl dX6_makeBranches_56 ?_
    refine r_ild_n O 60 rfl 5 rfl dX6_makeBranches_59 ?_
    refine r_ild_n O 61 rfl 6 rfl dX6_makeBranches_60 ?_
    refine r_ild O 63 rfl 2 rfl dX6_makeBranches_61 ?_
    refine r_ic O 64 rfl 2 (by decide) dX6_makeBranches_63 ?_
    obtain ⟨p64_L, hq64, hf⟩ := qb1_some hf
    refine k_VV O 67 rfl (zX4_addSide_a (l := xl X) (D := xD X) (cI := cI) (cZ := cZ) (cQ := cQ) (h_t := h_L) (h_w := h_w) hq64) (gV mlX6_107 mvX4_addSide izX4) rfl rfl rfl hdX4_addSide ⟨by simp [rmX4_addSide_a, rmX6_makeBranches] <;> omega, by simp [rmX4_addSide_a, rmX6_makeBranches] <;> omega⟩ rfl 2 rfl rfl rfl rfl (Nat.le_of_ble_eq_true rfl) ⟨Nat.zero_le _, Nat.zero_le _⟩ [2, 1] rfl rfl rfl ([nX6 cI cZ cQ h_t (h_w 0) (h_L 0) (h_P 0) u_t, nX8 cI cZ cQ h_w u_w, nX4 cI cZ cQ h_L (h_w 0) p64_L, nX4 cI cZ cQ h_P (h_w 0) u_P]) rfl dX6_makeBranches_64 ?_
    refine r_ald_n O 68 rfl 3 rfl dX6_makeBranches_67 ?_
    refine r_get (ref := RX6) (C := RX6) (T := TX6) (N := 17) O 71 rfl inBX6 0 1 rfl rfl rfl (by decide) flX6_64 rfl rfl dX6_makeBranches_68 ?_
    obtain ⟨x71, hq71, hf⟩ := qb1_some hf
    refine k_VI O 74 rfl (zX4_size (l := xl X) (D := xD X) (cI := cI) (cZ := cZ) (cQ := cQ) (h_t := h_L) (r_w := (h_w 0)) hq71) (gV mlX6_79 mvX4_size izX4) rfl rfl rfl hdX4_size ⟨by simp [rmX4_size, rmX6_makeBranches] <;> omega, by simp [rmX4_size, rmX6_makeBranches] <;> omega⟩ rfl 2 rfl rfl rfl rfl (Nat.le_of_ble_eq_true rfl) ⟨Nat.zero_le _, Nat.zero_le _⟩ [2] rfl rfl rfl ([nX6 cI cZ cQ h_t (h_w 0) (h_L 0) (h_P 0) u_t, nX8 cI cZ cQ h_w u_w, nX4 cI cZ cQ h_L (h_w 0) p64_L, nX4 cI cZ cQ h_P (h_w 0) u_P]) rfl dX6_makeBranches_71 ?_
    refine r_ist O 76 rfl [(8, .int x71), (7, .int x46), (6, .int x21), (5, .int x14), (0, .ref (h_t 0)), (1, .int a1), (2, .int a2), (3, .int a3), (4, .int a4)] dX6_makeBranches_74 (by decide) rfl ?_
    refine r_ald_n O 77 rfl 4 rfl dX6_makeBranches_76 ?_
    refine r_get (ref := RX6) (C := RX6) (T := TX6) (N := 17) O 80 rfl inBX6 0 5 rfl rfl rfl (by decide) flX6_18 rfl rfl dX6_makeBranches_77 ?_
    refine r_ild_n O 81 rfl 5 rfl dX6_makeBranches_80 ?_
    refine r_ald_n O 82 rfl 4 rfl dX6_makeBranches_81 ?_
    refine r_ild O 84 rfl 2 rfl dX6_makeBranches_82 ?_
    refine r_ild O 86 rfl 1 rfl dX6_makeBranches_84 ?_
    refine r_ild O 88 rfl 8 rfl dX6_makeBranches_86 ?_
    refine r_ic O 89 rfl 1 (by decide) dX6_makeBranches_88 ?_
    refine r_iadd O 90 rfl dX6_makeBranches_89 ?_
    obtain ⟨x90, p90_t, p90_L, p90_P, hq90, hf⟩ := qb4_some hf
    refine k_VI O 93 rfl (hrecM (xl X) (xD X) cI cZ cQ h_t h_w h_L h_P _ _ _ _ _ _ _ _ _ _ _ hq90) (gV mlX6_83 mvX6_makeSubtree izX6) rfl rfl rfl hdX6_makeSubtree ⟨by simp [rmX6_makeSubtree, rmX6_makeBranches] <;> omega, by simp [rmX6_makeSubtree, rmX6_makeBranches] <;> omega⟩ rfl 0 rfl rfl rfl rfl (Nat.le_of_ble_eq_true rfl) ⟨Nat.zero_le _, Nat.zero_le _⟩ [0, 1, 2, 3] rfl rfl rfl ([nX6 cI cZ cQ h_t (h_w 0) (h_L 0) (h_P 0) p90_t, nX8 cI cZ cQ h_w u_w, nX4 cI cZ cQ h_L (h_w 0) p90_L, nX4 cI cZ cQ h_P (h_w 0) p90_P]) rfl dX6_makeBranches_90 ?_
    obtain ⟨hin93, hf⟩ := qst_some hf
    obtain ⟨p93_t, ep93_t, hf⟩ := qn_some hf
    refine r_iast O 94 rfl 0 3 rfl rfl hin93 ([nX6 cI cZ cQ h_t (h_w 0) (h_L 0) (h_P 0) p93_t, nX8 cI cZ cQ h_w u_w, nX4 cI cZ cQ h_L (h_w 0) p90_L, nX4 cI cZ cQ h_P (h_w 0) p90_P]) (by rw [ep93_t]; rfl) dX6_makeBranches_93 ?_
    refine r_ald_n O 95 rfl 4 rfl dX6_makeBranches_94 ?_
    refine r_get (ref := RX6) (C := RX6) (T := TX6) (N := 17) O 98 rfl inBX6 0 6 rfl rfl rfl (by decide) flX6_21 rfl rfl dX6_makeBranches_95 ?_
    refine r_ild_n O 99 rfl 5 rfl dX6_makeBranches_98 ?_
    refine r_ald_n O 100 rfl 4 rfl dX6_makeBranches_99 ?_
    refine r_ild O 102 rfl 1 rfl dX6_makeBranches_100 ?_
    refine r_ild O 104 rfl 0 rfl dX6_makeBranches_102 ?_
    refine r_ild O 106 rfl 8 rfl dX6_makeBranches_104 ?_
    refine r_ic O 107 rfl 1 (by decide) dX6_makeBranches_106 ?_
    refine r_iadd O 108 rfl dX6_makeBranches_107 ?_
    obtain ⟨x108, p108_t, p108_L, p108_P, hq108, hf⟩ := qb4_some hf
    refine k_VI O 111 rfl (hrecM (xl X) (xD X) cI cZ cQ h_t h_w h_L h_P _ _ _ _ _ _ _ _ _ _ _ hq108) (gV mlX6_83 mvX6_makeSubtree izX6) rfl rfl rfl hdX6_makeSubtree ⟨by simp [rmX6_makeSubtree, rmX6_makeBranches] <;> omega, by simp [rmX6_makeSubtree, rmX6_makeBranches] <;> omega⟩ rfl 0 rfl rfl rfl rfl (Nat.le_of_ble_eq_true rfl) ⟨Nat.zero_le _, Nat.zero_le _⟩ [0, 1, 2, 3] rfl rfl rfl ([nX6 cI cZ cQ h_t (h_w 0) (h_L 0) (h_P 0) p108_t, nX8 cI cZ cQ h_w u_w, nX4 cI cZ cQ h_L (h_w 0) p108_L, nX4 cI cZ cQ h_P (h_w 0) p108_P]) rfl dX6_makeBranches_108 ?_
    obtain ⟨hin111, hf⟩ := qst_some hf
    obtain ⟨p111_t, ep111_t, hf⟩ := qn_some hf
    refine r_iast O 112 rfl 0 4 rfl rfl hin111 ([nX6 cI cZ cQ h_t (h_w 0) (h_L 0) (h_P 0) p111_t, nX8 cI cZ cQ h_w u_w, nX4 cI cZ cQ h_L (h_w 0) p108_L, nX4 cI cZ cQ h_P (h_w 0) p108_P]) (by rw [ep111_t]; rfl) dX6_makeBranches_111 ?_
    refine r_ald_n O 113 rfl 4 rfl dX6_makeBranches_112 ?_
    refine r_get (ref := RX6) (C := RX6) (T := TX6) (N := 17) O 116 rfl inBX6 0 1 rfl rfl rfl (by decide) flX6_64 rfl rfl dX6_makeBranches_113 ?_
    refine r_ild O 118 rfl 2 rfl dX6_makeBranches_116 ?_
    obtain ⟨p118_L, hq118, hf⟩ := qb1_some hf
    refine k_VV O 121 rfl (zX4_shorten (l := xl X) (D := xD X) (cI := cI) (cZ := cZ) (cQ := cQ) (h_t := h_L) (r_w := (h_w 0)) hq118) (gV mlX6_71 mvX4_shorten izX4) rfl rfl rfl hdX4_shorten ⟨by simp [rmX4_shorten, rmX6_makeBranches] <;> omega, by simp [rmX4_shorten, rmX6_makeBranches] <;> omega⟩ rfl 2 rfl rfl rfl rfl (Nat.le_of_ble_eq_true rfl) ⟨Nat.zero_le _, Nat.zero_le _⟩ [2] rfl rfl rfl ([nX6 cI cZ cQ h_t (h_w 0) (h_L 0) (h_P 0) p111_t, nX8 cI cZ cQ h_w u_w, nX4 cI cZ cQ h_L (h_w 0) p118_L, nX4 cI cZ cQ h_P (h_w 0) p108_P]) rfl dX6_makeBranches_118 ?_
    obtain ⟨g0, g1, g2⟩ := qe3 hf
    exact r_vret2 O E (by rw [g0, g1, g2]) dX6_makeBranches_121
  · rw [if_pos hc5] at hf
    obtain ⟨g0, g1, g2⟩ := qe3 hf
    exact r_vret2 O E (by rw [g0, g1, g2]) dX6_makeBranches_8
-- X6_makeSubtree
set_option maxHeartbeats 4000000 in
set_option maxRecDepth 100000 in
theorem zX6_makeSubtree : ∀ (n : Nat) (l : Launch) (D : va_G) (cI cZ cQ : ClassId) (h_t h_w h_L h_P : Nat → Nat) (u_w u_t u_L u_P : Pk) (a1 : Int32) (a2 : Int32) (a3 : Int32) (r0 : Int32) (v_t v_L v_P : Pk), fX6_makeSubtree n u_w u_t u_L u_P a1 a2 a3 = some (r0, v_t, v_L, v_P) → MI l yX6_makeSubtree wsX6_makeSubtree (rmX6_makeSubtree n) D (TY cI cZ cQ) [.ref (h_t 0), .int a1, .int a2, .int a3] [nX6 cI cZ cQ h_t (h_w 0) (h_L 0) (h_P 0) u_t, nX8 cI cZ cQ h_w u_w, nX4 cI cZ cQ h_L (h_w 0) u_L, nX4 cI cZ cQ h_P (h_w 0) u_P] r0 [nX6 cI cZ cQ h_t (h_w 0) (h_L 0) (h_P 0) v_t, nX8 cI cZ cQ h_w u_w, nX4 cI cZ cQ h_L (h_w 0) v_L, nX4 cI cZ cQ h_P (h_w 0) v_P] := by
  intro n
  induction n with
  | zero => exact fun _ _ _ _ _ _ _ _ _ _ _ _ _ _ _ _ _ _ _ _ hf => qno hf
  | succ n hrecM =>
    intro l D cI cZ cQ h_t h_w h_L h_P u_w u_t u_L u_P a1 a2 a3 r0 v_t v_L v_P hf
    have hf : fX6_makeSubtree_s (fX6_makeSubtree n) u_w u_t u_L u_P a1 a2 a3 = some (r0, v_t, v_L, v_P) := hf
    generalize fX6_makeSubtree n = recM at hf hrecM
    refine MI.of (own := RX6) (by decide +kernel) rfl rfl (Nat.le_of_ble_eq_true rfl) (lv0 := [(0, .ref (h_t 0)), (1, .int a1), (2, .int a2), (3, .int a3)]) rfl ?_
    intro X O E
    have B21 : ∀ (w_t : Pk) (w_L : Pk) (w_P : Pk) (y3 : Int32), fX6_makeSubtree_b21 recM u_w w_t w_L w_P y3 = some (r0, v_t, v_L, v_P) → BK X 6 0 0 21 ([nX6 cI cZ cQ h_t (h_w 0) (h_L 0) (h_P 0) w_t, nX8 cI cZ cQ h_w u_w, nX4 cI cZ cQ h_L (h_w 0) w_L, nX4 cI cZ cQ h_P (h_w 0) w_P]) [(0, .ref (h_t 0)), (3, .int y3)] [] := by
      intro w_t w_L w_P y3 hf
      unfold fX6_makeSubtree_b21 at hf
      refine r_ald_n O 22 rfl 0 rfl dX6_makeSubtree_21 ?_
      refine r_ild_n O 23 rfl 1 rfl dX6_makeSubtree_22 ?_
      obtain ⟨x23, p23_t, hq23, hf⟩ := qb2_some hf
      refine k_VI O 26 rfl (zX6_makeLeaf (l := xl X) (D := xD X) (cI := cI) (cZ := cZ) (cQ := cQ) (h_t := h_t) (r_w := (h_w 0)) (r_L := (h_L 0)) (r_P := (h_P 0)) hq23) (gV mlX6_87 mvX6_makeLeaf izX6) rfl rfl rfl hdX6_makeLeaf ⟨by simp [rmX6_makeLeaf, rmX6_makeSubtree] <;> omega, by simp [rmX6_makeLeaf, rmX6_makeSubtree] <;> omega⟩ rfl 0 rfl rfl rfl rfl (Nat.le_of_ble_eq_true rfl) ⟨Nat.zero_le _, Nat.zero_le _⟩ [0] rfl rfl rfl ([nX6 cI cZ cQ h_t (h_w 0) (h_L 0) (h_P 0) p23_t, nX8 cI cZ cQ h_w u_w, nX4 cI cZ cQ h_L (h_w 0) w_L, nX4 cI cZ cQ h_P (h_w 0) w_P]) rfl dX6_makeSubtree_23 ?_
      obtain ⟨g0, g1, g2, g3⟩ := qe4 hf
      exact r_iret2 O E g0 (by rw [g1, g2, g3]) dX6_makeSubtree_26
    unfold fX6_makeSubtree_s at hf
    refine r_ild_n O 1 rfl 1 rfl dX6_makeSubtree_0 ?_
    refine r_ild_n O 2 rfl 2 rfl dX6_makeSubtree_1 ?_
    refine r_icmp_ge O 5 rfl 21 dX6_makeSubtree_2 (by decide) (fun hc2 => ?_) (fun hc2 => ?_)
    · rw [if_pos hc2] at hf
      refine r_lv [0, 3] rfl ?_
      exact B21 _ _ _ _ hf
    · rw [if_neg hc2] at hf
      refine r_ild_n O 6 rfl 3 rfl dX6_makeSubtree_5 ?_
      refine r_bi O 8 rfl 12 (by decide) dX6_makeSubtree_6 ?_
      refine r_icmp_ge O 11 rfl 21 dX6_makeSubtree_8 (by decide) (fun hc8 => ?_) (fun hc8 => ?_)
      · rw [if_pos hc8] at hf
        refine r_lv [0, 3] rfl ?_
        exact B21 _ _ _ _ hf
      · rw [if_neg hc8] at hf
        refine r_ald_n O 12 rfl 0 rfl dX6_makeSubtree_11 ?_
        refine r_get (ref := RX6) (C := RX6) (T := TX6) (N := 17) O 15 rfl inBX6 0 11 rfl rfl rfl (by decide) flX6_37 rfl rfl dX6_makeSubtree_12 ?_
        refine r_si O 18 rfl 144 (by decide) dX6_makeSubtree_15 ?_
        refine r_icmp_lt O 21 rfl 27 dX6_makeSubtree_18 (by decide) (fun hc18 => ?_) (fun hc18 => ?_)
        · rw [if_pos hc18] at hf
          refine r_ald_n O 28 rfl 0 rfl dX6_makeSubtree_27 ?_
          refine r_ild_n O 29 rfl 1 rfl dX6_makeSubtree_28 ?_
          refine r_ild_n O 30 rfl 2 rfl dX6_makeSubtree_29 ?_
          obtain ⟨x30, hq30, hf⟩ := qb1_some hf
          refine k_VI O 33 rfl (zX6_splittingWall (l := xl X) (D := xD X) (cI := cI) (cZ := cZ) (cQ := cQ) (h_t := h_t) (h_w := h_w) (h_L := h_L) (r_P := (h_P 0)) hq30) (gV mlX6_91 mvX6_splittingWall izX6) rfl rfl rfl hdX6_splittingWall ⟨by simp [rmX6_splittingWall, rmX6_makeSubtree] <;> omega, by simp [rmX6_splittingWall, rmX6_makeSubtree] <;> omega⟩ rfl 0 rfl rfl rfl rfl (Nat.le_of_ble_eq_true rfl) ⟨Nat.zero_le _, Nat.zero_le _⟩ [0, 1, 2] rfl rfl rfl ([nX6 cI cZ cQ h_t (h_w 0) (h_L 0) (h_P 0) u_t, nX8 cI cZ cQ h_w u_w, nX4 cI cZ cQ h_L (h_w 0) u_L, nX4 cI cZ cQ h_P (h_w 0) u_P]) rfl dX6_makeSubtree_30 ?_
          refine r_ist O 35 rfl [(4, .int x30), (0, .ref (h_t 0)), (1, .int a1), (2, .int a2), (3, .int a3)] dX6_makeSubtree_33 (by decide) rfl ?_
          refine r_ald_n O 36 rfl 1 rfl dX6_makeSubtree_35 ?_
          refine r_ild O 38 rfl 0 rfl dX6_makeSubtree_36 ?_
          refine r_ild_n O 39 rfl 2 rfl dX6_makeSubtree_38 ?_
          refine r_ild_n O 40 rfl 3 rfl dX6_makeSubtree_39 ?_
          refine r_ild_n O 41 rfl 4 rfl dX6_makeSubtree_40 ?_
          obtain ⟨x41, p41_t, p41_P, hq41, hf⟩ := qb3_some hf
          refine k_VI O 44 rfl (zX6_makeNode (l := xl X) (D := xD X) (cI := cI) (cZ := cZ) (cQ := cQ) (h_t := h_t) (h_w := h_w) (h_L := h_L) (h_P := h_P) hq41) (gV mlX6_95 mvX6_makeNode izX6) rfl rfl rfl hdX6_makeNode ⟨by simp [rmX6_makeNode, rmX6_makeSubtree] <;> omega, by simp [rmX6_makeNode, rmX6_makeSubtree] <;> omega⟩ rfl 0 rfl rfl rfl rfl (Nat.le_of_ble_eq_true rfl) ⟨Nat.zero_le _, Nat.zero_le _⟩ [0, 1, 2, 3] rfl rfl rfl ([nX6 cI cZ cQ h_t (h_w 0) (h_L 0) (h_P 0) p41_t, nX8 cI cZ cQ h_w u_w, nX4 cI cZ cQ h_L (h_w 0) u_L, nX4 cI cZ cQ h_P (h_w 0) p41_P]) rfl dX6_makeSubtree_41 ?_
          refine r_ist O 46 rfl [(5, .int x41), (4, .int x30), (0, .ref (h_t 0)), (1, .int a1), (2, .int a2), (3, .int a3)] dX6_makeSubtree_44 (by decide) rfl ?_
          refine r_ald_n O 47 rfl 2 rfl dX6_makeSubtree_46 ?_
          refine r_ild O 49 rfl 0 rfl dX6_makeSubtree_47 ?_
          refine r_ild_n O 50 rfl 3 rfl dX6_makeSubtree_49 ?_
          refine r_ild_n O 51 rfl 4 rfl dX6_makeSubtree_50 ?_
          refine r_ild_n O 52 rfl 5 rfl dX6_makeSubtree_51 ?_
          obtain ⟨p52_t, p52_L, p52_P, hq52, hf⟩ := qb3_some hf
          refine k_VV O 55 rfl (zX6_makeBranches (l := xl X) (D := xD X) (cI := cI) (cZ := cZ) (cQ := cQ) (h_t := h_t) (h_w := h_w) (h_L := h_L) (h_P := h_P) hrecM hq52) (gV mlX6_99 mvX6_makeBranches izX6) rfl rfl rfl hdX6_makeBranches ⟨by simp [rmX6_makeBranches, rmX6_makeSubtree] <;> omega, by simp [rmX6_makeBranches, rmX6_makeSubtree] <;> omega⟩ rfl 0 rfl rfl rfl rfl (Nat.le_of_ble_eq_true rfl) ⟨Nat.zero_le _, Nat.zero_le _⟩ [0, 1, 2, 3] rfl rfl rfl ([nX6 cI cZ cQ h_t (h_w 0) (h_L 0) (h_P 0) p52_t, nX8 cI cZ cQ h_w u_w, nX4 cI cZ cQ h_L (h_w 0) p52_L, nX4 cI cZ cQ h_P (h_w 0) p52_P]) rfl dX6_makeSubtree_52 ?_
          refine r_ild O 57 rfl 0 rfl dX6_makeSubtree_55 ?_
          obtain ⟨g0, g1, g2, g3⟩ := qe4 hf
          exact r_iret2 O E g0 (by rw [g1, g2, g3]) dX6_makeSubtree_57
        · rw [if_neg hc18] at hf
          refine r_lv [0, 3] rfl ?_
          exact B21 _ _ _ _ hf
-- X6_make
def rmX6_make : Room := { frames := 39, cells := 0, slots := 0, locals := 1028 }
set_option maxHeartbeats 4000000 in
set_option maxRecDepth 100000 in
theorem zX6_make {l : Launch} {D : va_G} {cI cZ cQ : ClassId} {h_t h_w h_L h_P : Nat → Nat} {u_w u_t u_L u_P : Pk} {a1 : Int32} {a2 : Int32} {a3 : Int32} {v_t v_L v_P : Pk} (hf : fX6_make u_w u_t u_L u_P a1 a2 a3 = some (v_t, v_L, v_P)) : MV l yX6_make wsX6_make rmX6_make D (TY cI cZ cQ) [.ref (h_t 0), .int a1, .int a2, .int a3] [nX6 cI cZ cQ h_t (h_w 0) (h_L 0) (h_P 0) u_t, nX8 cI cZ cQ h_w u_w, nX4 cI cZ cQ h_L (h_w 0) u_L, nX4 cI cZ cQ h_P (h_w 0) u_P] [nX6 cI cZ cQ h_t (h_w 0) (h_L 0) (h_P 0) v_t, nX8 cI cZ cQ h_w u_w, nX4 cI cZ cQ h_L (h_w 0) v_L, nX4 cI cZ cQ h_P (h_w 0) v_P] := by
  refine MV.of (own := RX6) (by decide +kernel) rfl rfl (Nat.le_of_ble_eq_true rfl) (lv0 := [(0, .ref (h_t 0)), (1, .int a1), (2, .int a2), (3, .int a3)]) rfl ?_
  intro X O E
  have B66 : ∀ (w_t : Pk) (w_L : Pk) (w_P : Pk), fX6_make_b66 u_w w_t w_L w_P = some (v_t, v_L, v_P) → BK X 4 0 0 66 ([nX6 cI cZ cQ h_t (h_w 0) (h_L 0) (h_P 0) w_t, nX8 cI cZ cQ h_w u_w, nX4 cI cZ cQ h_L (h_w 0) w_L, nX4 cI cZ cQ h_P (h_w 0) w_P]) [(0, .ref (h_t 0))] [] := by
    intro w_t w_L w_P hf
    unfold fX6_make_b66 at hf
    refine r_ald_n O 67 rfl 0 rfl dX6_make_66 ?_
    refine r_ald_n O 68 rfl 0 rfl dX6_make_67 ?_
    refine r_ic O 69 rfl 0 (by decide) dX6_make_68 ?_
    refine r_ald_n O 70 rfl 0 rfl dX6_make_69 ?_
    refine r_get (ref := RX6) (C := RX6) (T := TX6) (N := 17) O 73 rfl inBX6 0 1 rfl rfl rfl (by decide) flX6_64 rfl rfl dX6_make_70 ?_
    obtain ⟨x73, hq73, hf⟩ := qb1_some hf
    refine k_VI O 76 rfl (zX4_size (l := xl X) (D := xD X) (cI := cI) (cZ := cZ) (cQ := cQ) (h_t := h_L) (r_w := (h_w 0)) hq73) (gV mlX6_79 mvX4_size izX4) rfl rfl rfl hdX4_size ⟨Nat.le_of_ble_eq_true rfl, Nat.le_of_ble_eq_true rfl⟩ rfl 2 rfl rfl rfl rfl (Nat.le_of_ble_eq_true rfl) ⟨Nat.zero_le _, Nat.zero_le _⟩ [2] rfl rfl rfl ([nX6 cI cZ cQ h_t (h_w 0) (h_L 0) (h_P 0) w_t, nX8 cI cZ cQ h_w u_w, nX4 cI cZ cQ h_L (h_w 0) w_L, nX4 cI cZ cQ h_P (h_w 0) w_P]) rfl dX6_make_73 ?_
    refine r_ic O 77 rfl 0 (by decide) dX6_make_76 ?_
    obtain ⟨x77, p77_t, p77_L, p77_P, hq77, hf⟩ := qb4_some hf
    refine k_VI O 80 rfl (zX6_makeSubtree 16 (xl X) (xD X) cI cZ cQ h_t h_w h_L h_P _ _ _ _ _ _ _ _ _ _ _ hq77) (gV mlX6_83 mvX6_makeSubtree izX6) rfl rfl rfl hdX6_makeSubtree ⟨Nat.le_of_ble_eq_true rfl, Nat.le_of_ble_eq_true rfl⟩ rfl 0 rfl rfl rfl rfl (Nat.le_of_ble_eq_true rfl) ⟨Nat.zero_le _, Nat.zero_le _⟩ [0, 1, 2, 3] rfl rfl rfl ([nX6 cI cZ cQ h_t (h_w 0) (h_L 0) (h_P 0) p77_t, nX8 cI cZ cQ h_w u_w, nX4 cI cZ cQ h_L (h_w 0) p77_L, nX4 cI cZ cQ h_P (h_w 0) p77_P]) rfl dX6_make_77 ?_
    obtain ⟨p80_t, ep80_t, hf⟩ := qn_some hf
    refine r_put (ref := RX6) (C := RX6) (T := TX6) (N := 17) O 83 rfl inBX6 tyX6 tyX6_ok nmX6 0 10 rfl rfl rfl (by decide) flX6_33 rfl rfl rfl rfl (Nat.le_of_ble_eq_true rfl) ([nX6 cI cZ cQ h_t (h_w 0) (h_L 0) (h_P 0) p80_t, nX8 cI cZ cQ h_w u_w, nX4 cI cZ cQ h_L (h_w 0) p77_L, nX4 cI cZ cQ h_P (h_w 0) p77_P]) (by rw [ep80_t]; rfl) dX6_make_80 ?_
    obtain ⟨g0, g1, g2⟩ := qe3 hf
    exact r_vret2 O E (by rw [g0, g1, g2]) dX6_make_83
  unfold fX6_make at hf
  refine r_ald_n O 1 rfl 0 rfl dX6_make_0 ?_
  refine r_ild_n O 2 rfl 1 rfl dX6_make_1 ?_
  obtain ⟨p2_t, ep2_t, hf⟩ := qn_some hf
  refine r_put (ref := RX6) (C := RX6) (T := TX6) (N := 17) O 5 rfl inBX6 tyX6 tyX6_ok nmX6 0 15 rfl rfl rfl (by decide) flX6_49 rfl rfl rfl rfl (Nat.le_of_ble_eq_true rfl) ([nX6 cI cZ cQ h_t (h_w 0) (h_L 0) (h_P 0) p2_t, nX8 cI cZ cQ h_w u_w, nX4 cI cZ cQ h_L (h_w 0) u_L, nX4 cI cZ cQ h_P (h_w 0) u_P]) (by rw [ep2_t]; rfl) dX6_make_2 ?_
  refine r_ald_n O 6 rfl 0 rfl dX6_make_5 ?_
  refine r_ild_n O 7 rfl 2 rfl dX6_make_6 ?_
  obtain ⟨p7_t, ep7_t, hf⟩ := qn_some hf
  refine r_put (ref := RX6) (C := RX6) (T := TX6) (N := 17) O 10 rfl inBX6 tyX6 tyX6_ok nmX6 0 16 rfl rfl rfl (by decide) flX6_52 rfl rfl rfl rfl (Nat.le_of_ble_eq_true rfl) ([nX6 cI cZ cQ h_t (h_w 0) (h_L 0) (h_P 0) p7_t, nX8 cI cZ cQ h_w u_w, nX4 cI cZ cQ h_L (h_w 0) u_L, nX4 cI cZ cQ h_P (h_w 0) u_P]) (by rw [ep7_t]; rfl) dX6_make_7 ?_
  refine r_ald_n O 11 rfl 0 rfl dX6_make_10 ?_
  refine r_ic O 12 rfl 0 (by decide) dX6_make_11 ?_
  obtain ⟨p12_t, ep12_t, hf⟩ := qn_some hf
  refine r_put (ref := RX6) (C := RX6) (T := TX6) (N := 17) O 15 rfl inBX6 tyX6 tyX6_ok nmX6 0 11 rfl rfl rfl (by decide) flX6_37 rfl rfl rfl rfl (Nat.le_of_ble_eq_true rfl) ([nX6 cI cZ cQ h_t (h_w 0) (h_L 0) (h_P 0) p12_t, nX8 cI cZ cQ h_w u_w, nX4 cI cZ cQ h_L (h_w 0) u_L, nX4 cI cZ cQ h_P (h_w 0) u_P]) (by rw [ep12_t]; rfl) dX6_make_12 ?_
  refine r_ald_n O 16 rfl 0 rfl dX6_make_15 ?_
  refine r_ic O 17 rfl 0 (by decide) dX6_make_16 ?_
  obtain ⟨p17_t, ep17_t, hf⟩ := qn_some hf
  refine r_put (ref := RX6) (C := RX6) (T := TX6) (N := 17) O 20 rfl inBX6 tyX6 tyX6_ok nmX6 0 12 rfl rfl rfl (by decide) flX6_40 rfl rfl rfl rfl (Nat.le_of_ble_eq_true rfl) ([nX6 cI cZ cQ h_t (h_w 0) (h_L 0) (h_P 0) p17_t, nX8 cI cZ cQ h_w u_w, nX4 cI cZ cQ h_L (h_w 0) u_L, nX4 cI cZ cQ h_P (h_w 0) u_P]) (by rw [ep17_t]; rfl) dX6_make_17 ?_
  refine r_ald_n O 21 rfl 0 rfl dX6_make_20 ?_
  refine r_ic O 22 rfl 0 (by decide) dX6_make_21 ?_
  obtain ⟨p22_t, ep22_t, hf⟩ := qn_some hf
  refine r_put (ref := RX6) (C := RX6) (T := TX6) (N := 17) O 25 rfl inBX6 tyX6 tyX6_ok nmX6 0 13 rfl rfl rfl (by decide) flX6_43 rfl rfl rfl rfl (Nat.le_of_ble_eq_true rfl) ([nX6 cI cZ cQ h_t (h_w 0) (h_L 0) (h_P 0) p22_t, nX8 cI cZ cQ h_w u_w, nX4 cI cZ cQ h_L (h_w 0) u_L, nX4 cI cZ cQ h_P (h_w 0) u_P]) (by rw [ep22_t]; rfl) dX6_make_22 ?_
  refine r_ald_n O 26 rfl 0 rfl dX6_make_25 ?_
  refine r_ic O 27 rfl 0 (by decide) dX6_make_26 ?_
  obtain ⟨p27_t, ep27_t, hf⟩ := qn_some hf
  refine r_put (ref := RX6) (C := RX6) (T := TX6) (N := 17) O 30 rfl inBX6 tyX6 tyX6_ok nmX6 0 14 rfl rfl rfl (by decide) flX6_46 rfl rfl rfl rfl (Nat.le_of_ble_eq_true rfl) ([nX6 cI cZ cQ h_t (h_w 0) (h_L 0) (h_P 0) p27_t, nX8 cI cZ cQ h_w u_w, nX4 cI cZ cQ h_L (h_w 0) u_L, nX4 cI cZ cQ h_P (h_w 0) u_P]) (by rw [ep27_t]; rfl) dX6_make_27 ?_
  refine r_ald_n O 31 rfl 0 rfl dX6_make_30 ?_
  refine r_get (ref := RX6) (C := RX6) (T := TX6) (N := 17) O 34 rfl inBX6 0 2 rfl rfl rfl (by decide) flX6_68 rfl rfl dX6_make_31 ?_
  refine r_ic O 35 rfl 0 (by decide) dX6_make_34 ?_
  obtain ⟨p35_P, hq35, hf⟩ := qb1_some hf
  refine k_VV O 38 rfl (zX4_shorten (l := xl X) (D := xD X) (cI := cI) (cZ := cZ) (cQ := cQ) (h_t := h_P) (r_w := (h_w 0)) hq35) (gV mlX6_71 mvX4_shorten izX4) rfl rfl rfl hdX4_shorten ⟨Nat.le_of_ble_eq_true rfl, Nat.le_of_ble_eq_true rfl⟩ rfl 3 rfl rfl rfl rfl (Nat.le_of_ble_eq_true rfl) ⟨Nat.zero_le _, Nat.zero_le _⟩ [3] rfl rfl rfl ([nX6 cI cZ cQ h_t (h_w 0) (h_L 0) (h_P 0) p27_t, nX8 cI cZ cQ h_w u_w, nX4 cI cZ cQ h_L (h_w 0) u_L, nX4 cI cZ cQ h_P (h_w 0) p35_P]) rfl dX6_make_35 ?_
  refine r_ald_n O 39 rfl 0 rfl dX6_make_38 ?_
  refine r_get (ref := RX6) (C := RX6) (T := TX6) (N := 17) O 42 rfl inBX6 0 1 rfl rfl rfl (by decide) flX6_64 rfl rfl dX6_make_39 ?_
  refine r_ic O 43 rfl 0 (by decide) dX6_make_42 ?_
  obtain ⟨p43_L, hq43, hf⟩ := qb1_some hf
  refine k_VV O 46 rfl (zX4_shorten (l := xl X) (D := xD X) (cI := cI) (cZ := cZ) (cQ := cQ) (h_t := h_L) (r_w := (h_w 0)) hq43) (gV mlX6_71 mvX4_shorten izX4) rfl rfl rfl hdX4_shorten ⟨Nat.le_of_ble_eq_true rfl, Nat.le_of_ble_eq_true rfl⟩ rfl 2 rfl rfl rfl rfl (Nat.le_of_ble_eq_true rfl) ⟨Nat.zero_le _, Nat.zero_le _⟩ [2] rfl rfl rfl ([nX6 cI cZ cQ h_t (h_w 0) (h_L 0) (h_P 0) p27_t, nX8 cI cZ cQ h_w u_w, nX4 cI cZ cQ h_L (h_w 0) p43_L, nX4 cI cZ cQ h_P (h_w 0) p35_P]) rfl dX6_make_43 ?_
  refine r_ald_n O 47 rfl 0 rfl dX6_make_46 ?_
  refine r_get (ref := RX6) (C := RX6) (T := TX6) (N := 17) O 50 rfl inBX6 0 1 rfl rfl rfl (by decide) flX6_64 rfl rfl dX6_make_47 ?_
  refine r_ic O 51 rfl 0 (by decide) dX6_make_50 ?_
  obtain ⟨p51_L, hq51, hf⟩ := qb1_some hf
  refine k_VV O 54 rfl (zX4_addWalls (l := xl X) (D := xD X) (cI := cI) (cZ := cZ) (cQ := cQ) (h_t := h_L) (h_w := h_w) hq51) (gV mlX6_75 mvX4_addWalls izX4) rfl rfl rfl hdX4_addWalls ⟨Nat.le_of_ble_eq_true rfl, Nat.le_of_ble_eq_true rfl⟩ rfl 2 rfl rfl rfl rfl (Nat.le_of_ble_eq_true rfl) ⟨Nat.zero_le _, Nat.zero_le _⟩ [2, 1] rfl rfl rfl ([nX6 cI cZ cQ h_t (h_w 0) (h_L 0) (h_P 0) p27_t, nX8 cI cZ cQ h_w u_w, nX4 cI cZ cQ h_L (h_w 0) p51_L, nX4 cI cZ cQ h_P (h_w 0) p35_P]) rfl dX6_make_51 ?_
  refine r_ild_n O 55 rfl 3 rfl dX6_make_54 ?_
  refine r_if_eq O 58 rfl 66 dX6_make_55 (by decide) (fun hc55 => ?_) (fun hc55 => ?_)
  · rw [if_pos hc55] at hf
    refine r_lv [0] rfl ?_
    exact B66 _ _ _ hf
  · rw [if_neg hc55] at hf
    refine r_ald_n O 59 rfl 0 rfl dX6_make_58 ?_
    refine r_get (ref := RX6) (C := RX6) (T := TX6) (N := 17) O 62 rfl inBX6 0 1 rfl rfl rfl (by decide) flX6_64 rfl rfl dX6_make_59 ?_
    refine r_ic O 63 rfl 1 (by decide) dX6_make_62 ?_
    obtain ⟨p63_L, hq63, hf⟩ := qb1_some hf
    refine k_VV O 66 rfl (zX4_addWalls (l := xl X) (D := xD X) (cI := cI) (cZ := cZ) (cQ := cQ) (h_t := h_L) (h_w := h_w) hq63) (gV mlX6_75 mvX4_addWalls izX4) rfl rfl rfl hdX4_addWalls ⟨Nat.le_of_ble_eq_true rfl, Nat.le_of_ble_eq_true rfl⟩ rfl 2 rfl rfl rfl rfl (Nat.le_of_ble_eq_true rfl) ⟨Nat.zero_le _, Nat.zero_le _⟩ [2, 1] rfl rfl rfl ([nX6 cI cZ cQ h_t (h_w 0) (h_L 0) (h_P 0) p27_t, nX8 cI cZ cQ h_w u_w, nX4 cI cZ cQ h_L (h_w 0) p63_L, nX4 cI cZ cQ h_P (h_w 0) p35_P]) rfl dX6_make_63 ?_
    refine r_lv [0] rfl ?_
    exact B66 _ _ _ hf
-- X6_hasPiece
def rmX6_hasPiece : Room := { frames := 1, cells := 0, slots := 0, locals := 21 }
set_option maxHeartbeats 4000000 in
set_option maxRecDepth 100000 in
theorem zX6_hasPiece {l : Launch} {D : va_G} {cI cZ cQ : ClassId} {h_t h_P : Nat → Nat} {r_w r_L : Nat} {u_t u_P : Pk} {a1 : Int32} {r0 : Int32} (hf : fX6_hasPiece u_t u_P a1 = some r0) : MZ l yX6_hasPiece wsX6_hasPiece rmX6_hasPiece D (TY cI cZ cQ) [.ref (h_t 0), .int a1] [nX6 cI cZ cQ h_t r_w r_L (h_P 0) u_t, nX4 cI cZ cQ h_P r_w u_P] r0 [nX6 cI cZ cQ h_t r_w r_L (h_P 0) u_t, nX4 cI cZ cQ h_P r_w u_P] := by
  refine MZ.of (own := RX6) (by decide +kernel) rfl rfl (Nat.le_of_ble_eq_true rfl) (lv0 := [(0, .ref (h_t 0)), (1, .int a1)]) rfl ?_
  intro X O E
  unfold fX6_hasPiece at hf
  refine r_ald_n O 1 rfl 0 rfl dX6_hasPiece_0 ?_
  refine r_get (ref := RX6) (C := RX6) (T := TX6) (N := 17) O 4 rfl inBX6 0 2 rfl rfl rfl (by decide) flX6_68 rfl rfl dX6_hasPiece_1 ?_
  refine r_ild_n O 5 rfl 1 rfl dX6_hasPiece_4 ?_
  obtain ⟨x5, hq5, hf⟩ := qb1_some hf
  refine k_VZ O 8 rfl (zX4_has (l := xl X) (D := xD X) (cI := cI) (cZ := cZ) (cQ := cQ) (h_t := h_P) (r_w := r_w) hq5) (gV mlX6_136 mvX4_has izX4) rfl rfl rfl hdX4_has ⟨Nat.le_of_ble_eq_true rfl, Nat.le_of_ble_eq_true rfl⟩ rfl 1 rfl rfl rfl rfl (Nat.le_of_ble_eq_true rfl) ⟨Nat.zero_le _, Nat.zero_le _⟩ [1] rfl rfl rfl ([nX6 cI cZ cQ h_t r_w r_L (h_P 0) u_t, nX4 cI cZ cQ h_P r_w u_P]) rfl dX6_hasPiece_5 (fun hz5 => ?_)
  obtain g0 := qe1 hf
  exact r_zret2 O E g0 rfl hz5 dX6_hasPiece_8
-- X6_nodeTotal
def rmX6_nodeTotal : Room := { frames := 0, cells := 0, slots := 0, locals := 0 }
set_option maxHeartbeats 4000000 in
set_option maxRecDepth 100000 in
theorem zX6_nodeTotal {l : Launch} {D : va_G} {cI cZ cQ : ClassId} {h_t : Nat → Nat} {r_w r_L r_P : Nat} {u_t : Pk} {r0 : Int32} (hf : fX6_nodeTotal u_t = some r0) : MI l yX6_nodeTotal wsX6_nodeTotal rmX6_nodeTotal D (TY cI cZ cQ) [.ref (h_t 0)] [nX6 cI cZ cQ h_t r_w r_L r_P u_t] r0 [nX6 cI cZ cQ h_t r_w r_L r_P u_t] := by
  refine MI.of (own := RX6) (by decide +kernel) rfl rfl (Nat.le_of_ble_eq_true rfl) (lv0 := [(0, .ref (h_t 0))]) rfl ?_
  intro X O E
  unfold fX6_nodeTotal at hf
  refine r_ald_n O 1 rfl 0 rfl dX6_nodeTotal_0 ?_
  refine r_get (ref := RX6) (C := RX6) (T := TX6) (N := 17) O 4 rfl inBX6 0 11 rfl rfl rfl (by decide) flX6_37 rfl rfl dX6_nodeTotal_1 ?_
  obtain g0 := qe1 hf
  exact r_iret2 O E g0 rfl dX6_nodeTotal_4
-- X6_leafTotal
def rmX6_leafTotal : Room := { frames := 0, cells := 0, slots := 0, locals := 0 }
set_option maxHeartbeats 4000000 in
set_option maxRecDepth 100000 in
theorem zX6_leafTotal {l : Launch} {D : va_G} {cI cZ cQ : ClassId} {h_t : Nat → Nat} {r_w r_L r_P : Nat} {u_t : Pk} {r0 : Int32} (hf : fX6_leafTotal u_t = some r0) : MI l yX6_leafTotal wsX6_leafTotal rmX6_leafTotal D (TY cI cZ cQ) [.ref (h_t 0)] [nX6 cI cZ cQ h_t r_w r_L r_P u_t] r0 [nX6 cI cZ cQ h_t r_w r_L r_P u_t] := by
  refine MI.of (own := RX6) (by decide +kernel) rfl rfl (Nat.le_of_ble_eq_true rfl) (lv0 := [(0, .ref (h_t 0))]) rfl ?_
  intro X O E
  unfold fX6_leafTotal at hf
  refine r_ald_n O 1 rfl 0 rfl dX6_leafTotal_0 ?_
  refine r_get (ref := RX6) (C := RX6) (T := TX6) (N := 17) O 4 rfl inBX6 0 12 rfl rfl rfl (by decide) flX6_40 rfl rfl dX6_leafTotal_1 ?_
  obtain g0 := qe1 hf
  exact r_iret2 O E g0 rfl dX6_leafTotal_4
-- X6_pieceTotal
def rmX6_pieceTotal : Room := { frames := 1, cells := 0, slots := 0, locals := 20 }
set_option maxHeartbeats 4000000 in
set_option maxRecDepth 100000 in
theorem zX6_pieceTotal {l : Launch} {D : va_G} {cI cZ cQ : ClassId} {h_t h_P : Nat → Nat} {r_w r_L : Nat} {u_t u_P : Pk} {r0 : Int32} (hf : fX6_pieceTotal u_t u_P = some r0) : MI l yX6_pieceTotal wsX6_pieceTotal rmX6_pieceTotal D (TY cI cZ cQ) [.ref (h_t 0)] [nX6 cI cZ cQ h_t r_w r_L (h_P 0) u_t, nX4 cI cZ cQ h_P r_w u_P] r0 [nX6 cI cZ cQ h_t r_w r_L (h_P 0) u_t, nX4 cI cZ cQ h_P r_w u_P] := by
  refine MI.of (own := RX6) (by decide +kernel) rfl rfl (Nat.le_of_ble_eq_true rfl) (lv0 := [(0, .ref (h_t 0))]) rfl ?_
  intro X O E
  unfold fX6_pieceTotal at hf
  refine r_ald_n O 1 rfl 0 rfl dX6_pieceTotal_0 ?_
  refine r_get (ref := RX6) (C := RX6) (T := TX6) (N := 17) O 4 rfl inBX6 0 2 rfl rfl rfl (by decide) flX6_68 rfl rfl dX6_pieceTotal_1 ?_
  obtain ⟨x4, hq4, hf⟩ := qb1_some hf
  refine k_VI O 7 rfl (zX4_size (l := xl X) (D := xD X) (cI := cI) (cZ := cZ) (cQ := cQ) (h_t := h_P) (r_w := r_w) hq4) (gV mlX6_79 mvX4_size izX4) rfl rfl rfl hdX4_size ⟨Nat.le_of_ble_eq_true rfl, Nat.le_of_ble_eq_true rfl⟩ rfl 1 rfl rfl rfl rfl (Nat.le_of_ble_eq_true rfl) ⟨Nat.zero_le _, Nat.zero_le _⟩ [1] rfl rfl rfl ([nX6 cI cZ cQ h_t r_w r_L (h_P 0) u_t, nX4 cI cZ cQ h_P r_w u_P]) rfl dX6_pieceTotal_4 ?_
  obtain g0 := qe1 hf
  exact r_iret2 O E g0 rfl dX6_pieceTotal_7
-- X6_leafDepthSum
def rmX6_leafDepthSum : Room := { frames := 0, cells := 0, slots := 0, locals := 0 }
set_option maxHeartbeats 4000000 in
set_option maxRecDepth 100000 in
theorem zX6_leafDepthSum {l : Launch} {D : va_G} {cI cZ cQ : ClassId} {h_t : Nat → Nat} {r_w r_L r_P : Nat} {u_t : Pk} {r0 : Int32} (hf : fX6_leafDepthSum u_t = some r0) : MI l yX6_leafDepthSum wsX6_leafDepthSum rmX6_leafDepthSum D (TY cI cZ cQ) [.ref (h_t 0)] [nX6 cI cZ cQ h_t r_w r_L r_P u_t] r0 [nX6 cI cZ cQ h_t r_w r_L r_P u_t] := by
  refine MI.of (own := RX6) (by decide +kernel) rfl rfl (Nat.le_of_ble_eq_true rfl) (lv0 := [(0, .ref (h_t 0))]) rfl ?_
  intro X O E
  unfold fX6_leafDepthSum at hf
  refine r_ald_n O 1 rfl 0 rfl dX6_leafDepthSum_0 ?_
  refine r_get (ref := RX6) (C := RX6) (T := TX6) (N := 17) O 4 rfl inBX6 0 13 rfl rfl rfl (by decide) flX6_43 rfl rfl dX6_leafDepthSum_1 ?_
  obtain g0 := qe1 hf
  exact r_iret2 O E g0 rfl dX6_leafDepthSum_4
-- X6_greatestLeafDepth
def rmX6_greatestLeafDepth : Room := { frames := 0, cells := 0, slots := 0, locals := 0 }
set_option maxHeartbeats 4000000 in
set_option maxRecDepth 100000 in
theorem zX6_greatestLeafDepth {l : Launch} {D : va_G} {cI cZ cQ : ClassId} {h_t : Nat → Nat} {r_w r_L r_P : Nat} {u_t : Pk} {r0 : Int32} (hf : fX6_greatestLeafDepth u_t = some r0) : MI l yX6_greatestLeafDepth wsX6_greatestLeafDepth rmX6_greatestLeafDepth D (TY cI cZ cQ) [.ref (h_t 0)] [nX6 cI cZ cQ h_t r_w r_L r_P u_t] r0 [nX6 cI cZ cQ h_t r_w r_L r_P u_t] := by
  refine MI.of (own := RX6) (by decide +kernel) rfl rfl (Nat.le_of_ble_eq_true rfl) (lv0 := [(0, .ref (h_t 0))]) rfl ?_
  intro X O E
  unfold fX6_greatestLeafDepth at hf
  refine r_ald_n O 1 rfl 0 rfl dX6_greatestLeafDepth_0 ?_
  refine r_get (ref := RX6) (C := RX6) (T := TX6) (N := 17) O 4 rfl inBX6 0 14 rfl rfl rfl (by decide) flX6_46 rfl rfl dX6_greatestLeafDepth_1 ?_
  obtain g0 := qe1 hf
  exact r_iret2 O E g0 rfl dX6_greatestLeafDepth_4
-- X6_depthOf
def rmX6_depthOf : Room := { frames := 1, cells := 0, slots := 0, locals := 21 }
set_option maxHeartbeats 4000000 in
set_option maxRecDepth 100000 in
theorem zX6_depthOf {l : Launch} {D : va_G} {cI cZ cQ : ClassId} {h_t : Nat → Nat} {r_w r_L r_P : Nat} {u_t : Pk} {a1 : Int32} {r0 : Int32} (hf : fX6_depthOf u_t a1 = some r0) : MI l yX6_depthOf wsX6_depthOf rmX6_depthOf D (TY cI cZ cQ) [.ref (h_t 0), .int a1] [nX6 cI cZ cQ h_t r_w r_L r_P u_t] r0 [nX6 cI cZ cQ h_t r_w r_L r_P u_t] := by
  refine MI.of (own := RX6) (by decide +kernel) rfl rfl (Nat.le_of_ble_eq_true rfl) (lv0 := [(0, .ref (h_t 0)), (1, .int a1)]) rfl ?_
  intro X O E
  unfold fX6_depthOf at hf
  refine r_ald_n O 1 rfl 0 rfl dX6_depthOf_0 ?_
  refine r_ild_n O 2 rfl 1 rfl dX6_depthOf_1 ?_
  obtain ⟨x2, hq2, hf⟩ := qb1_some hf
  refine k_VZ O 5 rfl (zX6_hasNode (l := xl X) (D := xD X) (cI := cI) (cZ := cZ) (cQ := cQ) (h_t := h_t) (r_w := r_w) (r_L := r_L) (r_P := r_P) hq2) (gV mlX6_103 mvX6_hasNode izX6) rfl rfl rfl hdX6_hasNode ⟨Nat.le_of_ble_eq_true rfl, Nat.le_of_ble_eq_true rfl⟩ rfl 0 rfl rfl rfl rfl (Nat.le_of_ble_eq_true rfl) ⟨Nat.zero_le _, Nat.zero_le _⟩ [0] rfl rfl rfl ([nX6 cI cZ cQ h_t r_w r_L r_P u_t]) rfl dX6_depthOf_2 (fun hz2 => ?_)
  refine r_if_eq O 8 rfl 17 dX6_depthOf_5 (by decide) (fun hc5 => ?_) (fun hc5 => ?_)
  · rw [if_pos hc5] at hf
    refine r_ic O 18 rfl 0 (by decide) dX6_depthOf_17 ?_
    obtain g0 := qe1 hf
    exact r_iret2 O E g0 rfl dX6_depthOf_18
  · rw [if_neg hc5] at hf
    refine r_ald_n O 9 rfl 0 rfl dX6_depthOf_8 ?_
    refine r_get (ref := RX6) (C := RX6) (T := TX6) (N := 17) O 12 rfl inBX6 0 7 rfl rfl rfl (by decide) flX6_24 rfl rfl dX6_depthOf_9 ?_
    refine r_ild_n O 13 rfl 1 rfl dX6_depthOf_12 ?_
    obtain ⟨x13, ex13, hin13, hf⟩ := qld_some hf
    refine r_iald O 14 rfl 0 5 rfl rfl hin13 dX6_depthOf_13 ?_
    rw [← ex13]
    refine r_goto O 18 dX6_depthOf_14 (by decide) ?_
    obtain g0 := qe1 hf
    exact r_iret2 O E g0 rfl dX6_depthOf_18
-- X6_nodeOfPiece
def rmX6_nodeOfPiece : Room := { frames := 0, cells := 0, slots := 0, locals := 0 }
set_option maxHeartbeats 4000000 in
set_option maxRecDepth 100000 in
theorem zX6_nodeOfPiece {l : Launch} {D : va_G} {cI cZ cQ : ClassId} {h_t : Nat → Nat} {r_w r_L r_P : Nat} {u_t : Pk} {a1 : Int32} {r0 : Int32} (hf : fX6_nodeOfPiece u_t a1 = some r0) : MI l yX6_nodeOfPiece wsX6_nodeOfPiece rmX6_nodeOfPiece D (TY cI cZ cQ) [.ref (h_t 0), .int a1] [nX6 cI cZ cQ h_t r_w r_L r_P u_t] r0 [nX6 cI cZ cQ h_t r_w r_L r_P u_t] := by
  refine MI.of (own := RX6) (by decide +kernel) rfl rfl (Nat.le_of_ble_eq_true rfl) (lv0 := [(0, .ref (h_t 0)), (1, .int a1)]) rfl ?_
  intro X O E
  unfold fX6_nodeOfPiece at hf
  refine r_ild_n O 1 rfl 1 rfl dX6_nodeOfPiece_0 ?_
  refine r_if_lt O 4 rfl 20 dX6_nodeOfPiece_1 (by decide) (fun hc1 => ?_) (fun hc1 => ?_)
  · rw [if_pos hc1] at hf
    refine r_ic O 21 rfl 0 (by decide) dX6_nodeOfPiece_20 ?_
    obtain g0 := qe1 hf
    exact r_iret2 O E g0 rfl dX6_nodeOfPiece_21
  · rw [if_neg hc1] at hf
    refine r_ild_n O 5 rfl 1 rfl dX6_nodeOfPiece_4 ?_
    refine r_si O 8 rfl 144 (by decide) dX6_nodeOfPiece_5 ?_
    refine r_icmp_ge O 11 rfl 20 dX6_nodeOfPiece_8 (by decide) (fun hc8 => ?_) (fun hc8 => ?_)
    · rw [if_pos hc8] at hf
      refine r_ic O 21 rfl 0 (by decide) dX6_nodeOfPiece_20 ?_
      obtain g0 := qe1 hf
      exact r_iret2 O E g0 rfl dX6_nodeOfPiece_21
    · rw [if_neg hc8] at hf
      refine r_ald_n O 12 rfl 0 rfl dX6_nodeOfPiece_11 ?_
      refine r_get (ref := RX6) (C := RX6) (T := TX6) (N := 17) O 15 rfl inBX6 0 3 rfl rfl rfl (by decide) flX6_9 rfl rfl dX6_nodeOfPiece_12 ?_
      refine r_ild_n O 16 rfl 1 rfl dX6_nodeOfPiece_15 ?_
      obtain ⟨x16, ex16, hin16, hf⟩ := qld_some hf
      refine r_iald O 17 rfl 0 1 rfl rfl hin16 dX6_nodeOfPiece_16 ?_
      rw [← ex16]
      refine r_goto O 21 dX6_nodeOfPiece_17 (by decide) ?_
      obtain g0 := qe1 hf
      exact r_iret2 O E g0 rfl dX6_nodeOfPiece_21
-- X6_boundOfPiece
def rmX6_boundOfPiece : Room := { frames := 2, cells := 0, slots := 0, locals := 43 }
set_option maxHeartbeats 4000000 in
set_option maxRecDepth 100000 in
theorem zX6_boundOfPiece {l : Launch} {D : va_G} {cI cZ cQ : ClassId} {h_t h_P : Nat → Nat} {r_w r_L : Nat} {u_t u_P : Pk} {a1 : Int32} {a2 : Int32} {r0 : Int32} (hf : fX6_boundOfPiece u_t u_P a1 a2 = some r0) : MI l yX6_boundOfPiece wsX6_boundOfPiece rmX6_boundOfPiece D (TY cI cZ cQ) [.ref (h_t 0), .int a1, .int a2] [nX6 cI cZ cQ h_t r_w r_L (h_P 0) u_t, nX4 cI cZ cQ h_P r_w u_P] r0 [nX6 cI cZ cQ h_t r_w r_L (h_P 0) u_t, nX4 cI cZ cQ h_P r_w u_P] := by
  refine MI.of (own := RX6) (by decide +kernel) rfl rfl (Nat.le_of_ble_eq_true rfl) (lv0 := [(0, .ref (h_t 0)), (1, .int a1), (2, .int a2)]) rfl ?_
  intro X O E
  unfold fX6_boundOfPiece at hf
  refine r_ald_n O 1 rfl 0 rfl dX6_boundOfPiece_0 ?_
  refine r_get (ref := RX6) (C := RX6) (T := TX6) (N := 17) O 4 rfl inBX6 0 2 rfl rfl rfl (by decide) flX6_68 rfl rfl dX6_boundOfPiece_1 ?_
  refine r_ild_n O 5 rfl 1 rfl dX6_boundOfPiece_4 ?_
  refine r_ild_n O 6 rfl 2 rfl dX6_boundOfPiece_5 ?_
  obtain ⟨x6, hq6, hf⟩ := qb1_some hf
  refine k_VI O 9 rfl (zX4_bound (l := xl X) (D := xD X) (cI := cI) (cZ := cZ) (cQ := cQ) (h_t := h_P) (r_w := r_w) hq6) (gV mlX6_139 mvX4_bound izX4) rfl rfl rfl hdX4_bound ⟨Nat.le_of_ble_eq_true rfl, Nat.le_of_ble_eq_true rfl⟩ rfl 1 rfl rfl rfl rfl (Nat.le_of_ble_eq_true rfl) ⟨Nat.zero_le _, Nat.zero_le _⟩ [1] rfl rfl rfl ([nX6 cI cZ cQ h_t r_w r_L (h_P 0) u_t, nX4 cI cZ cQ h_P r_w u_P]) rfl dX6_boundOfPiece_6 ?_
  obtain g0 := qe1 hf
  exact r_iret2 O E g0 rfl dX6_boundOfPiece_9
-- X6_leafAt
def rmX6_leafAt : Room := { frames := 3, cells := 0, slots := 0, locals := 65 }
set_option maxHeartbeats 4000000 in
set_option maxRecDepth 100000 in
theorem zX6_leafAt {l : Launch} {D : va_G} {cI cZ cQ : ClassId} {h_t h_w : Nat → Nat} {r_L r_P : Nat} {u_t u_w : Pk} {a1 : Int32} {a2 : Int32} {r0 : Int32} (hf : fX6_leafAt u_t u_w a1 a2 = some r0) : MI l yX6_leafAt wsX6_leafAt rmX6_leafAt D (TY cI cZ cQ) [.ref (h_t 0), .int a1, .int a2] [nX6 cI cZ cQ h_t (h_w 0) r_L r_P u_t, nX8 cI cZ cQ h_w u_w] r0 [nX6 cI cZ cQ h_t (h_w 0) r_L r_P u_t, nX8 cI cZ cQ h_w u_w] := by
  refine MI.of (own := RX6) (by decide +kernel) rfl rfl (Nat.le_of_ble_eq_true rfl) (lv0 := [(0, .ref (h_t 0)), (1, .int a1), (2, .int a2)]) rfl ?_
  intro X O E
  have B42 : ∀ (rec8 : Int32 → Int32 → Int32 → Int32 → Option (Int32)), (∀ (y1 : Int32) (y2 : Int32) (y3 : Int32) (y4 : Int32), rec8 y1 y2 y3 y4 = some r0 → BK X 5 0 0 8 ([nX6 cI cZ cQ h_t (h_w 0) r_L r_P u_t, nX8 cI cZ cQ h_w u_w]) [(0, .ref (h_t 0)), (1, .int y1), (2, .int y2), (3, .int y3), (4, .int y4)] []) → ∀ (y1 : Int32) (y2 : Int32) (y4 : Int32) (z0 : Int32), fX6_leafAt_b42 rec8 u_t u_w y1 y2 y4 z0 = some r0 → BK X 5 0 0 42 ([nX6 cI cZ cQ h_t (h_w 0) r_L r_P u_t, nX8 cI cZ cQ h_w u_w]) [(0, .ref (h_t 0)), (1, .int y1), (2, .int y2), (4, .int y4)] [.int z0] := by
    intro rec8 hrec8 y1 y2 y4 z0 hf
    unfold fX6_leafAt_b42 at hf
    refine r_ist_n O 43 rfl rfl [(3, .int z0), (0, .ref (h_t 0)), (1, .int y1), (2, .int y2), (4, .int y4)] dX6_leafAt_42 (by decide) rfl ?_
    obtain ⟨x43, ex43, hf⟩ := qn_some hf
    refine r_iinc O 46 rfl x43 4 rfl (by rw [ex43]; rfl) [(4, .int x43), (3, .int z0), (0, .ref (h_t 0)), (1, .int y1), (2, .int y2)] dX6_leafAt_43 (by decide) rfl ?_
    refine r_goto O 8 dX6_leafAt_46 (by decide) ?_
    refine r_lv [2, 3, 4, 1, 0] rfl ?_
    exact hrec8 _ _ _ _ hf
  have B8 : ∀ n : Nat, ∀ (y1 : Int32) (y2 : Int32) (y3 : Int32) (y4 : Int32), fX6_leafAt_b8 u_t u_w n y1 y2 y3 y4 = some r0 → BK X 5 0 0 8 ([nX6 cI cZ cQ h_t (h_w 0) r_L r_P u_t, nX8 cI cZ cQ h_w u_w]) [(0, .ref (h_t 0)), (1, .int y1), (2, .int y2), (3, .int y3), (4, .int y4)] [] := by
    intro n
    induction n with
    | zero => exact fun _ _ _ _ hf => qno hf
    | succ n hrec8 =>
      intro y1 y2 y3 y4 hf
      have hf : fX6_leafAt_b8_s (fX6_leafAt_b8 u_t u_w n) u_t u_w y1 y2 y3 y4 = some r0 := hf
      generalize fX6_leafAt_b8 u_t u_w n = rec8 at hf hrec8
      unfold fX6_leafAt_b8_s at hf
      refine r_ild O 10 rfl 4 rfl dX6_leafAt_8 ?_
      refine r_bi O 12 rfl 12 (by decide) dX6_leafAt_10 ?_
      refine r_icmp_ge O 15 rfl 49 dX6_leafAt_12 (by decide) (fun hc12 => ?_) (fun hc12 => ?_)
      · rw [if_pos hc12] at hf
        refine r_ic O 50 rfl (-1) (by decide) dX6_leafAt_49 ?_
        refine r_ild_n O 51 rfl 3 rfl dX6_leafAt_50 ?_
        refine r_isub O 52 rfl dX6_leafAt_51 ?_
        obtain g0 := qe1 hf
        exact r_iret2 O E g0 rfl dX6_leafAt_52
      · rw [if_neg hc12] at hf
        refine r_ild_n O 16 rfl 3 rfl dX6_leafAt_15 ?_
        refine r_if_lt O 19 rfl 49 dX6_leafAt_16 (by decide) (fun hc16 => ?_) (fun hc16 => ?_)
        · rw [if_pos hc16] at hf
          refine r_ic O 50 rfl (-1) (by decide) dX6_leafAt_49 ?_
          refine r_ild_n O 51 rfl 3 rfl dX6_leafAt_50 ?_
          refine r_isub O 52 rfl dX6_leafAt_51 ?_
          obtain g0 := qe1 hf
          exact r_iret2 O E g0 rfl dX6_leafAt_52
        · rw [if_neg hc16] at hf
          refine r_ald_n O 20 rfl 0 rfl dX6_leafAt_19 ?_
          refine r_ild_n O 21 rfl 3 rfl dX6_leafAt_20 ?_
          refine r_ild_n O 22 rfl 1 rfl dX6_leafAt_21 ?_
          refine r_ild_n O 23 rfl 2 rfl dX6_leafAt_22 ?_
          obtain ⟨x23, hq23, hf⟩ := qb1_some hf
          refine k_VZ O 26 rfl (zX6_isInFrontOrOnLine (l := xl X) (D := xD X) (cI := cI) (cZ := cZ) (cQ := cQ) (h_t := h_t) (h_w := h_w) (r_L := r_L) (r_P := r_P) hq23) (gV mlX6_148 mvX6_isInFrontOrOnLine izX6) rfl rfl rfl hdX6_isInFrontOrOnLine ⟨Nat.le_of_ble_eq_true rfl, Nat.le_of_ble_eq_true rfl⟩ rfl 0 rfl rfl rfl rfl (Nat.le_of_ble_eq_true rfl) ⟨Nat.zero_le _, Nat.zero_le _⟩ [0, 1] rfl rfl rfl ([nX6 cI cZ cQ h_t (h_w 0) r_L r_P u_t, nX8 cI cZ cQ h_w u_w]) rfl dX6_leafAt_23 (fun hz23 => ?_)
          refine r_if_eq O 29 rfl 37 dX6_leafAt_26 (by decide) (fun hc26 => ?_) (fun hc26 => ?_)
          · rw [if_pos hc26] at hf
            refine r_ald_n O 38 rfl 0 rfl dX6_leafAt_37 ?_
            refine r_ild_n O 39 rfl 3 rfl dX6_leafAt_38 ?_
            obtain ⟨x39, hq39, hf⟩ := qb1_some hf
            refine k_VI O 42 rfl (zX6_backOf (l := xl X) (D := xD X) (cI := cI) (cZ := cZ) (cQ := cQ) (h_t := h_t) (r_w := (h_w 0)) (r_L := r_L) (r_P := r_P) hq39) (gV mlX6_155 mvX6_backOf izX6) rfl rfl rfl hdX6_backOf ⟨Nat.le_of_ble_eq_true rfl, Nat.le_of_ble_eq_true rfl⟩ rfl 0 rfl rfl rfl rfl (Nat.le_of_ble_eq_true rfl) ⟨Nat.zero_le _, Nat.zero_le _⟩ [0] rfl rfl rfl ([nX6 cI cZ cQ h_t (h_w 0) r_L r_P u_t, nX8 cI cZ cQ h_w u_w]) rfl dX6_leafAt_39 ?_
            refine r_lv [0, 1, 2, 4] rfl ?_
            exact B42 rec8 hrec8 _ _ _ _ hf
          · rw [if_neg hc26] at hf
            refine r_ald_n O 30 rfl 0 rfl dX6_leafAt_29 ?_
            refine r_ild_n O 31 rfl 3 rfl dX6_leafAt_30 ?_
            obtain ⟨x31, hq31, hf⟩ := qb1_some hf
            refine k_VI O 34 rfl (zX6_frontOf (l := xl X) (D := xD X) (cI := cI) (cZ := cZ) (cQ := cQ) (h_t := h_t) (r_w := (h_w 0)) (r_L := r_L) (r_P := r_P) hq31) (gV mlX6_152 mvX6_frontOf izX6) rfl rfl rfl hdX6_frontOf ⟨Nat.le_of_ble_eq_true rfl, Nat.le_of_ble_eq_true rfl⟩ rfl 0 rfl rfl rfl rfl (Nat.le_of_ble_eq_true rfl) ⟨Nat.zero_le _, Nat.zero_le _⟩ [0] rfl rfl rfl ([nX6 cI cZ cQ h_t (h_w 0) r_L r_P u_t, nX8 cI cZ cQ h_w u_w]) rfl dX6_leafAt_31 ?_
            refine r_goto O 42 dX6_leafAt_34 (by decide) ?_
            refine r_lv [0, 1, 2, 4] rfl ?_
            exact B42 rec8 hrec8 _ _ _ _ hf
  unfold fX6_leafAt at hf
  refine r_ald_n O 1 rfl 0 rfl dX6_leafAt_0 ?_
  refine r_get (ref := RX6) (C := RX6) (T := TX6) (N := 17) O 4 rfl inBX6 0 10 rfl rfl rfl (by decide) flX6_33 rfl rfl dX6_leafAt_1 ?_
  obtain ⟨x4, ex4, hf⟩ := qn_some hf
  rw [← ex4]
  refine r_ist_n O 5 rfl rfl [(3, .int x4), (0, .ref (h_t 0)), (1, .int a1), (2, .int a2)] dX6_leafAt_4 (by decide) rfl ?_
  refine r_ic O 6 rfl 0 (by decide) dX6_leafAt_5 ?_
  refine r_ist O 8 rfl [(4, .int 0), (3, .int x4), (0, .ref (h_t 0)), (1, .int a1), (2, .int a2)] dX6_leafAt_6 (by decide) rfl ?_
  refine r_lv [2, 3, 4, 1, 0] rfl ?_
  exact B8 FU _ _ _ _ hf
