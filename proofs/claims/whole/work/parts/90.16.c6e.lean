-- X10_bestWeights
def rmX10_bestWeights : Room := { frames := 8, cells := 0, slots := 0, locals := 204 }
set_option maxHeartbeats 4000000 in
set_option maxRecDepth 100000 in
theorem zX10_bestWeights {l : Launch} {D : va_G} {cI cZ cQ : ClassId} {h_t : Nat → Nat} {u_t : Pk} {r0 : Int32} {v_t : Pk} (hf : fX10_bestWeights u_t = some (r0, v_t)) : MI l yX10_bestWeights wsX10_bestWeights rmX10_bestWeights D (TY cI cZ cQ) [.ref (h_t 0)] [nX10 cI cZ cQ h_t u_t] r0 [nX10 cI cZ cQ h_t v_t] := by
  refine MI.of (own := RX10) (by decide +kernel) rfl rfl (Nat.le_of_ble_eq_true rfl) (lv0 := [(0, .ref (h_t 0))]) rfl ?_
  intro X O E
  have B84 : ∀ (rec9 : Pk → Int32 → Int32 → Int32 → Int32 → Option (Int32 × Pk)), (∀ (w_t : Pk) (y1 : Int32) (y2 : Int32) (y3 : Int32) (y4 : Int32), rec9 w_t y1 y2 y3 y4 = some (r0, v_t) → BK X 5 0 0 9 ([nX10 cI cZ cQ h_t w_t]) [(0, .ref (h_t 0)), (1, .int y1), (2, .int y2), (3, .int y3), (4, .int y4)] []) → ∀ (w_t : Pk) (y1 : Int32) (y2 : Int32) (y3 : Int32) (y4 : Int32), fX10_bestWeights_b84 rec9 w_t y1 y2 y3 y4 = some (r0, v_t) → BK X 5 0 0 84 ([nX10 cI cZ cQ h_t w_t]) [(0, .ref (h_t 0)), (1, .int y1), (2, .int y2), (3, .int y3), (4, .int y4)] [] := by
    intro rec9 hrec9 w_t y1 y2 y3 y4 hf
    unfold fX10_bestWeights_b84 at hf
    obtain ⟨x84, ex84, hf⟩ := qn_some hf
    refine r_iinc O 87 rfl x84 4 rfl (by rw [ex84]; rfl) [(4, .int x84), (0, .ref (h_t 0)), (1, .int y1), (2, .int y2), (3, .int y3)] dX10_bestWeights_84 (by decide) rfl ?_
    refine r_goto O 9 dX10_bestWeights_87 (by decide) ?_
    refine r_lv [1, 2, 3, 4, 0] rfl ?_
    exact hrec9 _ _ _ _ _ hf
  have B61 : ∀ (rec9 : Pk → Int32 → Int32 → Int32 → Int32 → Option (Int32 × Pk)), (∀ (w_t : Pk) (y1 : Int32) (y2 : Int32) (y3 : Int32) (y4 : Int32), rec9 w_t y1 y2 y3 y4 = some (r0, v_t) → BK X 5 0 0 9 ([nX10 cI cZ cQ h_t w_t]) [(0, .ref (h_t 0)), (1, .int y1), (2, .int y2), (3, .int y3), (4, .int y4)] []) → ∀ (w_t : Pk) (y4 : Int32), fX10_bestWeights_b61 rec9 w_t y4 = some (r0, v_t) → BK X 5 0 0 61 ([nX10 cI cZ cQ h_t w_t]) [(0, .ref (h_t 0)), (4, .int y4)] [] := by
    intro rec9 hrec9 w_t y4 hf
    unfold fX10_bestWeights_b61 at hf
    refine r_bi O 63 rfl 10 (by decide) dX10_bestWeights_61 ?_
    refine r_ild O 65 rfl 1 rfl dX10_bestWeights_63 ?_
    refine r_ic O 66 rfl 4 (by decide) dX10_bestWeights_65 ?_
    obtain ⟨hne66, hf⟩ := qnzi_some hf
    refine r_idiv O 67 rfl dX10_bestWeights_66 hne66 ?_
    refine r_imul O 68 rfl dX10_bestWeights_67 ?_
    refine r_ild O 70 rfl 1 rfl dX10_bestWeights_68 ?_
    refine r_ic O 71 rfl 4 (by decide) dX10_bestWeights_70 ?_
    obtain ⟨hne71, hf⟩ := qnzi_some hf
    refine r_irem O 72 rfl dX10_bestWeights_71 hne71 ?_
    refine r_iadd O 73 rfl dX10_bestWeights_72 ?_
    obtain ⟨x73, ex73, hf⟩ := qn_some hf
    rw [← ex73]
    refine r_ist_n O 74 rfl rfl [(1, .int x73), (0, .ref (h_t 0)), (4, .int y4)] dX10_bestWeights_73 (by decide) rfl ?_
    refine r_ald_n O 75 rfl 1 rfl dX10_bestWeights_74 ?_
    refine r_get (ref := RX10) (C := RX10) (T := TX10) (N := 70) O 78 rfl inBX10 0 31 rfl rfl rfl (by decide) flX10_206 rfl rfl dX10_bestWeights_75 ?_
    obtain ⟨x78, ex78, hf⟩ := qn_some hf
    rw [← ex78]
    refine r_ist_n O 79 rfl rfl [(2, .int x78), (1, .int x73), (0, .ref (h_t 0)), (4, .int y4)] dX10_bestWeights_78 (by decide) rfl ?_
    refine r_ald_n O 80 rfl 2 rfl dX10_bestWeights_79 ?_
    refine r_get (ref := RX10) (C := RX10) (T := TX10) (N := 70) O 83 rfl inBX10 0 48 rfl rfl rfl (by decide) flX10_257 rfl rfl dX10_bestWeights_80 ?_
    obtain ⟨x83, ex83, hf⟩ := qn_some hf
    rw [← ex83]
    refine r_ist_n O 84 rfl rfl [(3, .int x83), (2, .int x78), (1, .int x73), (0, .ref (h_t 0)), (4, .int y4)] dX10_bestWeights_83 (by decide) rfl ?_
    refine r_lv [3, 2, 1, 0, 4] rfl ?_
    exact B84 rec9 hrec9 _ _ _ _ _ hf
  have B9 : ∀ n : Nat, ∀ (w_t : Pk) (y1 : Int32) (y2 : Int32) (y3 : Int32) (y4 : Int32), fX10_bestWeights_b9 n w_t y1 y2 y3 y4 = some (r0, v_t) → BK X 5 0 0 9 ([nX10 cI cZ cQ h_t w_t]) [(0, .ref (h_t 0)), (1, .int y1), (2, .int y2), (3, .int y3), (4, .int y4)] [] := by
    intro n
    induction n with
    | zero => exact fun _ _ _ _ _ hf => qno hf
    | succ n hrec9 =>
      intro w_t y1 y2 y3 y4 hf
      have hf : fX10_bestWeights_b9_s (fX10_bestWeights_b9 n) w_t y1 y2 y3 y4 = some (r0, v_t) := hf
      generalize fX10_bestWeights_b9 n = rec9 at hf hrec9
      unfold fX10_bestWeights_b9_s at hf
      refine r_ild O 11 rfl 4 rfl dX10_bestWeights_9 ?_
      refine r_bi O 13 rfl 16 (by decide) dX10_bestWeights_11 ?_
      refine r_icmp_ge O 16 rfl 90 dX10_bestWeights_13 (by decide) (fun hc13 => ?_) (fun hc13 => ?_)
      · rw [if_pos hc13] at hf
        refine r_ild_n O 91 rfl 1 rfl dX10_bestWeights_90 ?_
        obtain ⟨g0, g1⟩ := qe2 hf
        exact r_iret2 O E g0 (by rw [g1]) dX10_bestWeights_91
      · rw [if_neg hc13] at hf
        refine r_ald_n O 17 rfl 0 rfl dX10_bestWeights_16 ?_
        refine r_ild O 19 rfl 4 rfl dX10_bestWeights_17 ?_
        refine r_ic O 20 rfl 4 (by decide) dX10_bestWeights_19 ?_
        obtain ⟨hne20, hf⟩ := qnzi_some hf
        refine r_idiv O 21 rfl dX10_bestWeights_20 hne20 ?_
        refine r_ild O 23 rfl 4 rfl dX10_bestWeights_21 ?_
        refine r_ic O 24 rfl 4 (by decide) dX10_bestWeights_23 ?_
        obtain ⟨hne24, hf⟩ := qnzi_some hf
        refine r_irem O 25 rfl dX10_bestWeights_24 hne24 ?_
        obtain ⟨p25_t, hq25, hf⟩ := qb1_some hf
        refine k_VV O 28 rfl (zX10_makeFixed (l := xl X) (D := xD X) (cI := cI) (cZ := cZ) (cQ := cQ) (h_t := h_t) hq25) (gV mlX10_269 mvX10_makeFixed izX10) rfl rfl rfl hdX10_makeFixed ⟨Nat.le_of_ble_eq_true rfl, Nat.le_of_ble_eq_true rfl⟩ rfl 0 rfl rfl rfl rfl (Nat.le_of_ble_eq_true rfl) ⟨Nat.zero_le _, Nat.zero_le _⟩ [0] rfl rfl rfl ([nX10 cI cZ cQ h_t p25_t]) rfl dX10_bestWeights_25 ?_
        refine r_ald_n O 29 rfl 0 rfl dX10_bestWeights_28 ?_
        obtain ⟨p29_t, hq29, hf⟩ := qb1_some hf
        refine k_VV O 32 rfl (zX10_number_ (l := xl X) (D := xD X) (cI := cI) (cZ := cZ) (cQ := cQ) (h_t := h_t) hq29) (gV mlX10_276 mvX10_number_ izX10) rfl rfl rfl hdX10_number_ ⟨Nat.le_of_ble_eq_true rfl, Nat.le_of_ble_eq_true rfl⟩ rfl 0 rfl rfl rfl rfl (Nat.le_of_ble_eq_true rfl) ⟨Nat.zero_le _, Nat.zero_le _⟩ [0] rfl rfl rfl ([nX10 cI cZ cQ h_t p29_t]) rfl dX10_bestWeights_29 ?_
        refine r_ild O 34 rfl 4 rfl dX10_bestWeights_32 ?_
        refine r_if_eq O 37 rfl 61 dX10_bestWeights_34 (by decide) (fun hc34 => ?_) (fun hc34 => ?_)
        · rw [if_pos hc34] at hf
          refine r_lv [0, 4] rfl ?_
          exact B61 rec9 hrec9 _ _ hf
        · rw [if_neg hc34] at hf
          refine r_ald_n O 38 rfl 0 rfl dX10_bestWeights_37 ?_
          refine r_get (ref := RX10) (C := RX10) (T := TX10) (N := 70) O 41 rfl inBX10 0 31 rfl rfl rfl (by decide) flX10_206 rfl rfl dX10_bestWeights_38 ?_
          refine r_ild_n O 42 rfl 2 rfl dX10_bestWeights_41 ?_
          refine r_icmp_lt O 45 rfl 61 dX10_bestWeights_42 (by decide) (fun hc42 => ?_) (fun hc42 => ?_)
          · rw [if_pos hc42] at hf
            refine r_lv [0, 4] rfl ?_
            exact B61 rec9 hrec9 _ _ hf
          · rw [if_neg hc42] at hf
            refine r_ald_n O 46 rfl 0 rfl dX10_bestWeights_45 ?_
            refine r_get (ref := RX10) (C := RX10) (T := TX10) (N := 70) O 49 rfl inBX10 0 31 rfl rfl rfl (by decide) flX10_206 rfl rfl dX10_bestWeights_46 ?_
            refine r_ild_n O 50 rfl 2 rfl dX10_bestWeights_49 ?_
            refine r_icmp_ne O 53 rfl 84 dX10_bestWeights_50 (by decide) (fun hc50 => ?_) (fun hc50 => ?_)
            · rw [if_neg hc50] at hf
              exact B84 rec9 hrec9 _ _ _ _ _ hf
            · rw [if_pos hc50] at hf
              refine r_ald_n O 54 rfl 0 rfl dX10_bestWeights_53 ?_
              refine r_get (ref := RX10) (C := RX10) (T := TX10) (N := 70) O 57 rfl inBX10 0 48 rfl rfl rfl (by decide) flX10_257 rfl rfl dX10_bestWeights_54 ?_
              refine r_ild_n O 58 rfl 3 rfl dX10_bestWeights_57 ?_
              refine r_icmp_ge O 61 rfl 84 dX10_bestWeights_58 (by decide) (fun hc58 => ?_) (fun hc58 => ?_)
              · rw [if_pos hc58] at hf
                exact B84 rec9 hrec9 _ _ _ _ _ hf
              · rw [if_neg hc58] at hf
                refine r_lv [0, 4] rfl ?_
                exact B61 rec9 hrec9 _ _ hf
  unfold fX10_bestWeights at hf
  refine r_ic O 1 rfl 0 (by decide) dX10_bestWeights_0 ?_
  refine r_ist_n O 2 rfl rfl [(1, .int 0), (0, .ref (h_t 0))] dX10_bestWeights_1 (by decide) rfl ?_
  refine r_ic O 3 rfl 0 (by decide) dX10_bestWeights_2 ?_
  refine r_ist_n O 4 rfl rfl [(2, .int 0), (1, .int 0), (0, .ref (h_t 0))] dX10_bestWeights_3 (by decide) rfl ?_
  refine r_ic O 5 rfl 0 (by decide) dX10_bestWeights_4 ?_
  refine r_ist_n O 6 rfl rfl [(3, .int 0), (2, .int 0), (1, .int 0), (0, .ref (h_t 0))] dX10_bestWeights_5 (by decide) rfl ?_
  refine r_ic O 7 rfl 0 (by decide) dX10_bestWeights_6 ?_
  refine r_ist O 9 rfl [(4, .int 0), (3, .int 0), (2, .int 0), (1, .int 0), (0, .ref (h_t 0))] dX10_bestWeights_7 (by decide) rfl ?_
  refine r_lv [4, 3, 2, 1, 0] rfl ?_
  exact B9 FU _ _ _ _ _ hf
-- X10_findFixed
def rmX10_findFixed : Room := { frames := 1, cells := 0, slots := 0, locals := 22 }
set_option maxHeartbeats 4000000 in
set_option maxRecDepth 100000 in
theorem zX10_findFixed {l : Launch} {D : va_G} {cI cZ cQ : ClassId} {h_t : Nat → Nat} {u_t : Pk} {v_t : Pk} (hf : fX10_findFixed u_t = some v_t) : MV l yX10_findFixed wsX10_findFixed rmX10_findFixed D (TY cI cZ cQ) [.ref (h_t 0)] [nX10 cI cZ cQ h_t u_t] [nX10 cI cZ cQ h_t v_t] := by
  refine MV.of (own := RX10) (by decide +kernel) rfl rfl (Nat.le_of_ble_eq_true rfl) (lv0 := [(0, .ref (h_t 0))]) rfl ?_
  intro X O E
  have B53 : ∀ (rec7 : Pk → Int32 → Option (Pk)), (∀ (w_t : Pk) (y1 : Int32), rec7 w_t y1 = some v_t → BK X 2 0 0 7 ([nX10 cI cZ cQ h_t w_t]) [(0, .ref (h_t 0)), (1, .int y1)] []) → ∀ (w_t : Pk) (y1 : Int32), fX10_findFixed_b53 rec7 w_t y1 = some v_t → BK X 2 0 0 53 ([nX10 cI cZ cQ h_t w_t]) [(0, .ref (h_t 0)), (1, .int y1)] [] := by
    intro rec7 hrec7 w_t y1 hf
    unfold fX10_findFixed_b53 at hf
    obtain ⟨x53, ex53, hf⟩ := qn_some hf
    refine r_iinc O 56 rfl x53 1 rfl (by rw [ex53]; rfl) [(1, .int x53), (0, .ref (h_t 0))] dX10_findFixed_53 (by decide) rfl ?_
    refine r_goto O 7 dX10_findFixed_56 (by decide) ?_
    refine r_lv [1, 0] rfl ?_
    exact hrec7 _ _ hf
  have B7 : ∀ n : Nat, ∀ (w_t : Pk) (y1 : Int32), fX10_findFixed_b7 n w_t y1 = some v_t → BK X 2 0 0 7 ([nX10 cI cZ cQ h_t w_t]) [(0, .ref (h_t 0)), (1, .int y1)] [] := by
    intro n
    induction n with
    | zero => exact fun _ _ hf => qno hf
    | succ n hrec7 =>
      intro w_t y1 hf
      have hf : fX10_findFixed_b7_s (fX10_findFixed_b7 n) w_t y1 = some v_t := hf
      generalize fX10_findFixed_b7 n = rec7 at hf hrec7
      unfold fX10_findFixed_b7_s at hf
      refine r_ild_n O 8 rfl 1 rfl dX10_findFixed_7 ?_
      refine r_bi O 10 rfl 12 (by decide) dX10_findFixed_8 ?_
      refine r_icmp_ge O 13 rfl 59 dX10_findFixed_10 (by decide) (fun hc10 => ?_) (fun hc10 => ?_)
      · rw [if_pos hc10] at hf
        obtain g0 := qe1 hf
        exact r_vret2 O E (by rw [g0]) dX10_findFixed_59
      · rw [if_neg hc10] at hf
        refine r_ald_n O 14 rfl 0 rfl dX10_findFixed_13 ?_
        refine r_ild_n O 15 rfl 1 rfl dX10_findFixed_14 ?_
        refine r_ic O 16 rfl 0 (by decide) dX10_findFixed_15 ?_
        obtain ⟨x16, hq16, hf⟩ := qb1_some hf
        refine k_VI O 19 rfl (zX10_at (l := xl X) (D := xD X) (cI := cI) (cZ := cZ) (cQ := cQ) (h_t := h_t) hq16) (gV mlX10_129 mvX10_at izX10) rfl rfl rfl hdX10_at ⟨Nat.le_of_ble_eq_true rfl, Nat.le_of_ble_eq_true rfl⟩ rfl 0 rfl rfl rfl rfl (Nat.le_of_ble_eq_true rfl) ⟨Nat.zero_le _, Nat.zero_le _⟩ [0] rfl rfl rfl ([nX10 cI cZ cQ h_t w_t]) rfl dX10_findFixed_16 ?_
        refine r_ic O 20 rfl 1 (by decide) dX10_findFixed_19 ?_
        refine r_icmp_ne O 23 rfl 53 dX10_findFixed_20 (by decide) (fun hc20 => ?_) (fun hc20 => ?_)
        · rw [if_neg hc20] at hf
          exact B53 rec7 hrec7 _ _ hf
        · rw [if_pos hc20] at hf
          refine r_ald_n O 24 rfl 0 rfl dX10_findFixed_23 ?_
          refine r_ild_n O 25 rfl 1 rfl dX10_findFixed_24 ?_
          refine r_bi O 27 rfl 6 (by decide) dX10_findFixed_25 ?_
          obtain ⟨x27, hq27, hf⟩ := qb1_some hf
          refine k_VI O 30 rfl (zX10_at (l := xl X) (D := xD X) (cI := cI) (cZ := cZ) (cQ := cQ) (h_t := h_t) hq27) (gV mlX10_129 mvX10_at izX10) rfl rfl rfl hdX10_at ⟨Nat.le_of_ble_eq_true rfl, Nat.le_of_ble_eq_true rfl⟩ rfl 0 rfl rfl rfl rfl (Nat.le_of_ble_eq_true rfl) ⟨Nat.zero_le _, Nat.zero_le _⟩ [0] rfl rfl rfl ([nX10 cI cZ cQ h_t w_t]) rfl dX10_findFixed_27 ?_
          refine r_if_ne O 33 rfl 53 dX10_findFixed_30 (by decide) (fun hc30 => ?_) (fun hc30 => ?_)
          · rw [if_neg hc30] at hf
            exact B53 rec7 hrec7 _ _ hf
          · rw [if_pos hc30] at hf
            refine r_ald_n O 34 rfl 0 rfl dX10_findFixed_33 ?_
            refine r_get (ref := RX10) (C := RX10) (T := TX10) (N := 70) O 37 rfl inBX10 0 62 rfl rfl rfl (by decide) flX10_113 rfl rfl dX10_findFixed_34 ?_
            refine r_ald_n O 38 rfl 0 rfl dX10_findFixed_37 ?_
            refine r_get (ref := RX10) (C := RX10) (T := TX10) (N := 70) O 41 rfl inBX10 0 63 rfl rfl rfl (by decide) flX10_408 rfl rfl dX10_findFixed_38 ?_
            refine r_ild_n O 42 rfl 1 rfl dX10_findFixed_41 ?_
            obtain ⟨hin42, hf⟩ := qst_some hf
            obtain ⟨p42_t, ep42_t, hf⟩ := qn_some hf
            refine r_iast O 43 rfl 0 28 rfl rfl hin42 ([nX10 cI cZ cQ h_t p42_t]) (by rw [ep42_t]; rfl) dX10_findFixed_42 ?_
            refine r_ald_n O 44 rfl 0 rfl dX10_findFixed_43 ?_
            refine r_dup O 45 rfl dX10_findFixed_44 rfl ?_
            refine r_get (ref := RX10) (C := RX10) (T := TX10) (N := 70) O 48 rfl inBX10 0 63 rfl rfl rfl (by decide) flX10_408 rfl rfl dX10_findFixed_45 ?_
            refine r_ic O 49 rfl 1 (by decide) dX10_findFixed_48 ?_
            refine r_iadd O 50 rfl dX10_findFixed_49 ?_
            obtain ⟨p50_t, ep50_t, hf⟩ := qn_some hf
            refine r_put (ref := RX10) (C := RX10) (T := TX10) (N := 70) O 53 rfl inBX10 tyX10 tyX10_ok nmX10 0 63 rfl rfl rfl (by decide) flX10_408 rfl rfl rfl rfl (Nat.le_of_ble_eq_true rfl) ([nX10 cI cZ cQ h_t p50_t]) (by rw [ep50_t]; rfl) dX10_findFixed_50 ?_
            exact B53 rec7 hrec7 _ _ hf
  unfold fX10_findFixed at hf
  refine r_ald_n O 1 rfl 0 rfl dX10_findFixed_0 ?_
  refine r_ic O 2 rfl 0 (by decide) dX10_findFixed_1 ?_
  obtain ⟨p2_t, ep2_t, hf⟩ := qn_some hf
  refine r_put (ref := RX10) (C := RX10) (T := TX10) (N := 70) O 5 rfl inBX10 tyX10 tyX10_ok nmX10 0 63 rfl rfl rfl (by decide) flX10_408 rfl rfl rfl rfl (Nat.le_of_ble_eq_true rfl) ([nX10 cI cZ cQ h_t p2_t]) (by rw [ep2_t]; rfl) dX10_findFixed_2 ?_
  refine r_ic O 6 rfl 0 (by decide) dX10_findFixed_5 ?_
  refine r_ist_n O 7 rfl rfl [(1, .int 0), (0, .ref (h_t 0))] dX10_findFixed_6 (by decide) rfl ?_
  refine r_lv [1, 0] rfl ?_
  exact B7 FU _ _ hf
-- X10_hasPart
def rmX10_hasPart : Room := { frames := 5, cells := 0, slots := 0, locals := 125 }
set_option maxHeartbeats 4000000 in
set_option maxRecDepth 100000 in
theorem zX10_hasPart {l : Launch} {D : va_G} {cI cZ cQ : ClassId} {h_t : Nat → Nat} {u_t : Pk} {a1 : Int32} {a2 : Int32} {r0 : Int32} {v_t : Pk} (hf : fX10_hasPart u_t a1 a2 = some (r0, v_t)) : MZ l yX10_hasPart wsX10_hasPart rmX10_hasPart D (TY cI cZ cQ) [.ref (h_t 0), .int a1, .int a2] [nX10 cI cZ cQ h_t u_t] r0 [nX10 cI cZ cQ h_t v_t] := by
  refine MZ.of (own := RX10) (by decide +kernel) rfl rfl (Nat.le_of_ble_eq_true rfl) (lv0 := [(0, .ref (h_t 0)), (1, .int a1), (2, .int a2)]) rfl ?_
  intro X O E
  have B208 : ∀ (rec22 : Pk → Int32 → Int32 → Int32 → Option (Int32 × Pk)), (∀ (w_t : Pk) (y1 : Int32) (y2 : Int32) (y3 : Int32), rec22 w_t y1 y2 y3 = some (r0, v_t) → BK X 8 0 0 22 ([nX10 cI cZ cQ h_t w_t]) [(0, .ref (h_t 0)), (1, .int y1), (2, .int y2), (3, .int y3)] []) → ∀ (w_t : Pk) (y1 : Int32) (y2 : Int32) (y3 : Int32), fX10_hasPart_b208 rec22 w_t y1 y2 y3 = some (r0, v_t) → BK X 8 0 0 208 ([nX10 cI cZ cQ h_t w_t]) [(0, .ref (h_t 0)), (1, .int y1), (2, .int y2), (3, .int y3)] [] := by
    intro rec22 hrec22 w_t y1 y2 y3 hf
    unfold fX10_hasPart_b208 at hf
    obtain ⟨x208, ex208, hf⟩ := qn_some hf
    refine r_iinc O 211 rfl x208 3 rfl (by rw [ex208]; rfl) [(3, .int x208), (0, .ref (h_t 0)), (1, .int y1), (2, .int y2)] dX10_hasPart_208 (by decide) rfl ?_
    refine r_goto O 22 dX10_hasPart_211 (by decide) ?_
    refine r_lv [1, 2, 3, 0] rfl ?_
    exact hrec22 _ _ _ _ hf
  have B159 : ∀ (rec22 : Pk → Int32 → Int32 → Int32 → Option (Int32 × Pk)), (∀ (w_t : Pk) (y1 : Int32) (y2 : Int32) (y3 : Int32), rec22 w_t y1 y2 y3 = some (r0, v_t) → BK X 8 0 0 22 ([nX10 cI cZ cQ h_t w_t]) [(0, .ref (h_t 0)), (1, .int y1), (2, .int y2), (3, .int y3)] []) → ∀ (w_t : Pk) (y1 : Int32) (y2 : Int32) (y3 : Int32) (y5 : Int32) (z0 : Int32), fX10_hasPart_b159 rec22 w_t y1 y2 y3 y5 z0 = some (r0, v_t) → BK X 8 0 0 159 ([nX10 cI cZ cQ h_t w_t]) [(0, .ref (h_t 0)), (1, .int y1), (2, .int y2), (3, .int y3), (5, .int y5)] [.int z0] := by
    intro rec22 hrec22 w_t y1 y2 y3 y5 z0 hf
    unfold fX10_hasPart_b159 at hf
    refine r_ist O 161 rfl [(7, .int z0), (0, .ref (h_t 0)), (1, .int y1), (2, .int y2), (3, .int y3), (5, .int y5)] dX10_hasPart_159 (by decide) rfl ?_
    refine r_ald_n O 162 rfl 1 rfl dX10_hasPart_161 ?_
    refine r_ild O 164 rfl 5 rfl dX10_hasPart_162 ?_
    refine r_ild_n O 165 rfl 3 rfl dX10_hasPart_164 ?_
    obtain ⟨p165_t, hq165, hf⟩ := qb1_some hf
    refine k_VV O 168 rfl (zX10_cut (l := xl X) (D := xD X) (cI := cI) (cZ := cZ) (cQ := cQ) (h_t := h_t) hq165) (gV mlX10_242 mvX10_cut izX10) rfl rfl rfl hdX10_cut ⟨Nat.le_of_ble_eq_true rfl, Nat.le_of_ble_eq_true rfl⟩ rfl 0 rfl rfl rfl rfl (Nat.le_of_ble_eq_true rfl) ⟨Nat.zero_le _, Nat.zero_le _⟩ [0] rfl rfl rfl ([nX10 cI cZ cQ h_t p165_t]) rfl dX10_hasPart_165 ?_
    refine r_ild O 170 rfl 0 rfl dX10_hasPart_168 ?_
    refine r_if_eq O 173 rfl 192 dX10_hasPart_170 (by decide) (fun hc170 => ?_) (fun hc170 => ?_)
    · rw [if_pos hc170] at hf
      refine r_ald_n O 193 rfl 1 rfl dX10_hasPart_192 ?_
      refine r_ald_n O 194 rfl 1 rfl dX10_hasPart_193 ?_
      refine r_get (ref := RX10) (C := RX10) (T := TX10) (N := 70) O 197 rfl inBX10 0 18 rfl rfl rfl (by decide) flX10_200 rfl rfl dX10_hasPart_194 ?_
      obtain ⟨p197_t, ep197_t, hf⟩ := qn_some hf
      refine r_put (ref := RX10) (C := RX10) (T := TX10) (N := 70) O 200 rfl inBX10 tyX10 tyX10_ok nmX10 0 66 rfl rfl rfl (by decide) flX10_411 rfl rfl rfl rfl (Nat.le_of_ble_eq_true rfl) ([nX10 cI cZ cQ h_t p197_t]) (by rw [ep197_t]; rfl) dX10_hasPart_197 ?_
      refine r_ald_n O 201 rfl 1 rfl dX10_hasPart_200 ?_
      refine r_ald_n O 202 rfl 1 rfl dX10_hasPart_201 ?_
      refine r_get (ref := RX10) (C := RX10) (T := TX10) (N := 70) O 205 rfl inBX10 0 19 rfl rfl rfl (by decide) flX10_203 rfl rfl dX10_hasPart_202 ?_
      obtain ⟨p205_t, ep205_t, hf⟩ := qn_some hf
      refine r_put (ref := RX10) (C := RX10) (T := TX10) (N := 70) O 208 rfl inBX10 tyX10 tyX10_ok nmX10 0 67 rfl rfl rfl (by decide) flX10_414 rfl rfl rfl rfl (Nat.le_of_ble_eq_true rfl) ([nX10 cI cZ cQ h_t p205_t]) (by rw [ep205_t]; rfl) dX10_hasPart_205 ?_
      refine r_lv [1, 2, 3, 4] rfl ?_
      exact B208 rec22 hrec22 _ _ _ _ hf
    · rw [if_neg hc170] at hf
      refine r_ald_n O 174 rfl 1 rfl dX10_hasPart_173 ?_
      refine r_ald_n O 175 rfl 1 rfl dX10_hasPart_174 ?_
      refine r_get (ref := RX10) (C := RX10) (T := TX10) (N := 70) O 178 rfl inBX10 0 18 rfl rfl rfl (by decide) flX10_200 rfl rfl dX10_hasPart_175 ?_
      obtain ⟨p178_t, ep178_t, hf⟩ := qn_some hf
      refine r_put (ref := RX10) (C := RX10) (T := TX10) (N := 70) O 181 rfl inBX10 tyX10 tyX10_ok nmX10 0 68 rfl rfl rfl (by decide) flX10_417 rfl rfl rfl rfl (Nat.le_of_ble_eq_true rfl) ([nX10 cI cZ cQ h_t p178_t]) (by rw [ep178_t]; rfl) dX10_hasPart_178 ?_
      refine r_ald_n O 182 rfl 1 rfl dX10_hasPart_181 ?_
      refine r_ald_n O 183 rfl 1 rfl dX10_hasPart_182 ?_
      refine r_get (ref := RX10) (C := RX10) (T := TX10) (N := 70) O 186 rfl inBX10 0 19 rfl rfl rfl (by decide) flX10_203 rfl rfl dX10_hasPart_183 ?_
      obtain ⟨p186_t, ep186_t, hf⟩ := qn_some hf
      refine r_put (ref := RX10) (C := RX10) (T := TX10) (N := 70) O 189 rfl inBX10 tyX10 tyX10_ok nmX10 0 69 rfl rfl rfl (by decide) flX10_420 rfl rfl rfl rfl (Nat.le_of_ble_eq_true rfl) ([nX10 cI cZ cQ h_t p186_t]) (by rw [ep186_t]; rfl) dX10_hasPart_186 ?_
      refine r_goto O 208 dX10_hasPart_189 (by decide) ?_
      refine r_lv [1, 2, 3, 4] rfl ?_
      exact B208 rec22 hrec22 _ _ _ _ hf
  have B151 : ∀ (rec22 : Pk → Int32 → Int32 → Int32 → Option (Int32 × Pk)), (∀ (w_t : Pk) (y1 : Int32) (y2 : Int32) (y3 : Int32), rec22 w_t y1 y2 y3 = some (r0, v_t) → BK X 8 0 0 22 ([nX10 cI cZ cQ h_t w_t]) [(0, .ref (h_t 0)), (1, .int y1), (2, .int y2), (3, .int y3)] []) → ∀ (w_t : Pk) (y1 : Int32) (y2 : Int32) (y3 : Int32) (y5 : Int32) (z0 : Int32) (z1 : Int32), fX10_hasPart_b151 rec22 w_t y1 y2 y3 y5 z0 z1 = some (r0, v_t) → BK X 8 0 0 151 ([nX10 cI cZ cQ h_t w_t]) [(0, .ref (h_t 0)), (1, .int y1), (2, .int y2), (3, .int y3), (5, .int y5)] [.int z1, .int z0] := by
    intro rec22 hrec22 w_t y1 y2 y3 y5 z0 z1 hf
    unfold fX10_hasPart_b151 at hf
    refine r_icmp_ne O 154 rfl 158 dX10_hasPart_151 (by decide) (fun hc151 => ?_) (fun hc151 => ?_)
    · rw [if_neg hc151] at hf
      refine r_ic O 159 rfl 0 (by decide) dX10_hasPart_158 ?_
      exact B159 rec22 hrec22 _ _ _ _ _ _ hf
    · rw [if_pos hc151] at hf
      refine r_ic O 155 rfl 1 (by decide) dX10_hasPart_154 ?_
      refine r_goto O 159 dX10_hasPart_155 (by decide) ?_
      exact B159 rec22 hrec22 _ _ _ _ _ _ hf
  have B140 : ∀ (rec22 : Pk → Int32 → Int32 → Int32 → Option (Int32 × Pk)), (∀ (w_t : Pk) (y1 : Int32) (y2 : Int32) (y3 : Int32), rec22 w_t y1 y2 y3 = some (r0, v_t) → BK X 8 0 0 22 ([nX10 cI cZ cQ h_t w_t]) [(0, .ref (h_t 0)), (1, .int y1), (2, .int y2), (3, .int y3)] []) → ∀ (w_t : Pk) (y1 : Int32) (y2 : Int32) (y3 : Int32) (y4 : Int32) (y5 : Int32) (z0 : Int32), fX10_hasPart_b140 rec22 w_t y1 y2 y3 y4 y5 z0 = some (r0, v_t) → BK X 8 0 0 140 ([nX10 cI cZ cQ h_t w_t]) [(0, .ref (h_t 0)), (1, .int y1), (2, .int y2), (3, .int y3), (4, .int y4), (5, .int y5)] [.int z0] := by
    intro rec22 hrec22 w_t y1 y2 y3 y4 y5 z0 hf
    unfold fX10_hasPart_b140 at hf
    refine r_ild O 142 rfl 4 rfl dX10_hasPart_140 ?_
    refine r_ic O 143 rfl 1 (by decide) dX10_hasPart_142 ?_
    refine r_icmp_ne O 146 rfl 150 dX10_hasPart_143 (by decide) (fun hc143 => ?_) (fun hc143 => ?_)
    · rw [if_neg hc143] at hf
      refine r_ic O 151 rfl 0 (by decide) dX10_hasPart_150 ?_
      refine r_lv [0, 1, 2, 3, 5] rfl ?_
      exact B151 rec22 hrec22 _ _ _ _ _ _ _ hf
    · rw [if_pos hc143] at hf
      refine r_ic O 147 rfl 1 (by decide) dX10_hasPart_146 ?_
      refine r_goto O 151 dX10_hasPart_147 (by decide) ?_
      refine r_lv [0, 1, 2, 3, 5] rfl ?_
      exact B151 rec22 hrec22 _ _ _ _ _ _ _ hf
  have B111 : ∀ (rec22 : Pk → Int32 → Int32 → Int32 → Option (Int32 × Pk)), (∀ (w_t : Pk) (y1 : Int32) (y2 : Int32) (y3 : Int32), rec22 w_t y1 y2 y3 = some (r0, v_t) → BK X 8 0 0 22 ([nX10 cI cZ cQ h_t w_t]) [(0, .ref (h_t 0)), (1, .int y1), (2, .int y2), (3, .int y3)] []) → ∀ (w_t : Pk) (y1 : Int32) (y2 : Int32) (y3 : Int32) (y4 : Int32) (y5 : Int32) (y6 : Int32), fX10_hasPart_b111 rec22 w_t y1 y2 y3 y4 y5 y6 = some (r0, v_t) → BK X 8 0 0 111 ([nX10 cI cZ cQ h_t w_t]) [(0, .ref (h_t 0)), (1, .int y1), (2, .int y2), (3, .int y3), (4, .int y4), (5, .int y5), (6, .int y6)] [] := by
    intro rec22 hrec22 w_t y1 y2 y3 y4 y5 y6 hf
    unfold fX10_hasPart_b111 at hf
    refine r_ild O 113 rfl 6 rfl dX10_hasPart_111 ?_
    refine r_ic O 114 rfl 2 (by decide) dX10_hasPart_113 ?_
    refine r_icmp_ne O 117 rfl 208 dX10_hasPart_114 (by decide) (fun hc114 => ?_) (fun hc114 => ?_)
    · rw [if_neg hc114] at hf
      refine r_lv [0, 1, 2, 3] rfl ?_
      exact B208 rec22 hrec22 _ _ _ _ hf
    · rw [if_pos hc114] at hf
      refine r_ald_n O 118 rfl 0 rfl dX10_hasPart_117 ?_
      refine r_ild O 120 rfl 5 rfl dX10_hasPart_118 ?_
      refine r_ild_n O 121 rfl 2 rfl dX10_hasPart_120 ?_
      refine r_ald_n O 122 rfl 0 rfl dX10_hasPart_121 ?_
      refine r_get (ref := RX10) (C := RX10) (T := TX10) (N := 70) O 125 rfl inBX10 0 66 rfl rfl rfl (by decide) flX10_411 rfl rfl dX10_hasPart_122 ?_
      refine r_ald_n O 126 rfl 0 rfl dX10_hasPart_125 ?_
      refine r_get (ref := RX10) (C := RX10) (T := TX10) (N := 70) O 129 rfl inBX10 0 67 rfl rfl rfl (by decide) flX10_414 rfl rfl dX10_hasPart_126 ?_
      obtain ⟨x129, hq129, hf⟩ := qb1_some hf
      refine k_VI O 132 rfl (zX10_signAt (l := xl X) (D := xD X) (cI := cI) (cZ := cZ) (cQ := cQ) (h_t := h_t) hq129) (gV mlX10_193 mvX10_signAt izX10) rfl rfl rfl hdX10_signAt ⟨Nat.le_of_ble_eq_true rfl, Nat.le_of_ble_eq_true rfl⟩ rfl 0 rfl rfl rfl rfl (Nat.le_of_ble_eq_true rfl) ⟨Nat.zero_le _, Nat.zero_le _⟩ [0] rfl rfl rfl ([nX10 cI cZ cQ h_t w_t]) rfl dX10_hasPart_129 ?_
      refine r_if_le O 135 rfl 139 dX10_hasPart_132 (by decide) (fun hc132 => ?_) (fun hc132 => ?_)
      · rw [if_pos hc132] at hf
        refine r_ic O 140 rfl 0 (by decide) dX10_hasPart_139 ?_
        refine r_lv [0, 1, 2, 3, 4, 5] rfl ?_
        exact B140 rec22 hrec22 _ _ _ _ _ _ _ hf
      · rw [if_neg hc132] at hf
        refine r_ic O 136 rfl 1 (by decide) dX10_hasPart_135 ?_
        refine r_goto O 140 dX10_hasPart_136 (by decide) ?_
        refine r_lv [0, 1, 2, 3, 4, 5] rfl ?_
        exact B140 rec22 hrec22 _ _ _ _ _ _ _ hf
  have B97 : ∀ (rec22 : Pk → Int32 → Int32 → Int32 → Option (Int32 × Pk)), (∀ (w_t : Pk) (y1 : Int32) (y2 : Int32) (y3 : Int32), rec22 w_t y1 y2 y3 = some (r0, v_t) → BK X 8 0 0 22 ([nX10 cI cZ cQ h_t w_t]) [(0, .ref (h_t 0)), (1, .int y1), (2, .int y2), (3, .int y3)] []) → ∀ (w_t : Pk) (y1 : Int32) (y2 : Int32) (y3 : Int32) (y4 : Int32) (y5 : Int32) (y6 : Int32), fX10_hasPart_b97 rec22 w_t y1 y2 y3 y4 y5 y6 = some (r0, v_t) → BK X 8 0 0 97 ([nX10 cI cZ cQ h_t w_t]) [(0, .ref (h_t 0)), (1, .int y1), (2, .int y2), (3, .int y3), (4, .int y4), (5, .int y5), (6, .int y6)] [] := by
    intro rec22 hrec22 w_t y1 y2 y3 y4 y5 y6 hf
    unfold fX10_hasPart_b97 at hf
    refine r_ild O 99 rfl 6 rfl dX10_hasPart_97 ?_
    refine r_ic O 100 rfl (-1) (by decide) dX10_hasPart_99 ?_
    refine r_icmp_ne O 103 rfl 111 dX10_hasPart_100 (by decide) (fun hc100 => ?_) (fun hc100 => ?_)
    · rw [if_neg hc100] at hf
      exact B111 rec22 hrec22 _ _ _ _ _ _ _ hf
    · rw [if_pos hc100] at hf
      refine r_ild O 105 rfl 4 rfl dX10_hasPart_103 ?_
      refine r_ic O 106 rfl 1 (by decide) dX10_hasPart_105 ?_
      refine r_icmp_ne O 109 rfl 111 dX10_hasPart_106 (by decide) (fun hc106 => ?_) (fun hc106 => ?_)
      · rw [if_neg hc106] at hf
        exact B111 rec22 hrec22 _ _ _ _ _ _ _ hf
      · rw [if_pos hc106] at hf
        refine r_ic O 110 rfl 0 (by decide) dX10_hasPart_109 ?_
        obtain ⟨g0, g1⟩ := qe2 hf
        exact r_zret2 O E g0 (by rw [g1]) rfl dX10_hasPart_110
  have B22 : ∀ n : Nat, ∀ (w_t : Pk) (y1 : Int32) (y2 : Int32) (y3 : Int32), fX10_hasPart_b22 n w_t y1 y2 y3 = some (r0, v_t) → BK X 8 0 0 22 ([nX10 cI cZ cQ h_t w_t]) [(0, .ref (h_t 0)), (1, .int y1), (2, .int y2), (3, .int y3)] [] := by
    intro n
    induction n with
    | zero => exact fun _ _ _ _ hf => qno hf
    | succ n hrec22 =>
      intro w_t y1 y2 y3 hf
      have hf : fX10_hasPart_b22_s (fX10_hasPart_b22 n) w_t y1 y2 y3 = some (r0, v_t) := hf
      generalize fX10_hasPart_b22 n = rec22 at hf hrec22
      unfold fX10_hasPart_b22_s at hf
      refine r_ild_n O 23 rfl 3 rfl dX10_hasPart_22 ?_
      refine r_ald_n O 24 rfl 0 rfl dX10_hasPart_23 ?_
      refine r_get (ref := RX10) (C := RX10) (T := TX10) (N := 70) O 27 rfl inBX10 0 63 rfl rfl rfl (by decide) flX10_408 rfl rfl dX10_hasPart_24 ?_
      refine r_icmp_ge O 30 rfl 214 dX10_hasPart_27 (by decide) (fun hc27 => ?_) (fun hc27 => ?_)
      · rw [if_pos hc27] at hf
        refine r_ic O 215 rfl 1 (by decide) dX10_hasPart_214 ?_
        obtain ⟨g0, g1⟩ := qe2 hf
        exact r_zret2 O E g0 (by rw [g1]) rfl dX10_hasPart_215
      · rw [if_neg hc27] at hf
        refine r_ild_n O 31 rfl 1 rfl dX10_hasPart_30 ?_
        refine r_ald_n O 32 rfl 0 rfl dX10_hasPart_31 ?_
        refine r_get (ref := RX10) (C := RX10) (T := TX10) (N := 70) O 35 rfl inBX10 0 65 rfl rfl rfl (by decide) flX10_119 rfl rfl dX10_hasPart_32 ?_
        refine r_ild_n O 36 rfl 3 rfl dX10_hasPart_35 ?_
        obtain ⟨x36, ex36, hin36, hf⟩ := qld_some hf
        refine r_iald O 37 rfl 0 30 rfl rfl hin36 dX10_hasPart_36 ?_
        rw [← ex36]
        obtain ⟨hne37, hf⟩ := qnzi_some hf
        refine r_idiv O 38 rfl dX10_hasPart_37 hne37 ?_
        refine r_ic O 39 rfl 3 (by decide) dX10_hasPart_38 ?_
        obtain ⟨hne39, hf⟩ := qnzi_some hf
        refine r_irem O 40 rfl dX10_hasPart_39 hne39 ?_
        obtain ⟨x40, ex40, hf⟩ := qn_some hf
        rw [← ex40]
        refine r_ist O 42 rfl [(4, .int x40), (0, .ref (h_t 0)), (1, .int y1), (2, .int y2), (3, .int y3)] dX10_hasPart_40 (by decide) rfl ?_
        refine r_ild O 44 rfl 0 rfl dX10_hasPart_42 ?_
        refine r_if_le O 47 rfl 208 dX10_hasPart_44 (by decide) (fun hc44 => ?_) (fun hc44 => ?_)
        · rw [if_pos hc44] at hf
          refine r_lv [1, 2, 3, 4] rfl ?_
          exact B208 rec22 hrec22 _ _ _ _ hf
        · rw [if_neg hc44] at hf
          refine r_ald_n O 48 rfl 1 rfl dX10_hasPart_47 ?_
          refine r_get (ref := RX10) (C := RX10) (T := TX10) (N := 70) O 51 rfl inBX10 0 62 rfl rfl rfl (by decide) flX10_113 rfl rfl dX10_hasPart_48 ?_
          refine r_ild_n O 52 rfl 4 rfl dX10_hasPart_51 ?_
          obtain ⟨x52, ex52, hin52, hf⟩ := qld_some hf
          refine r_iald O 53 rfl 0 28 rfl rfl hin52 dX10_hasPart_52 ?_
          rw [← ex52]
          refine r_ist O 55 rfl [(5, .int x52), (4, .int x40), (0, .ref (h_t 0)), (1, .int y1), (2, .int y2), (3, .int y3)] dX10_hasPart_53 (by decide) rfl ?_
          refine r_ald_n O 56 rfl 2 rfl dX10_hasPart_55 ?_
          refine r_ild O 58 rfl 0 rfl dX10_hasPart_56 ?_
          refine r_ild_n O 59 rfl 4 rfl dX10_hasPart_58 ?_
          refine r_ald_n O 60 rfl 2 rfl dX10_hasPart_59 ?_
          refine r_get (ref := RX10) (C := RX10) (T := TX10) (N := 70) O 63 rfl inBX10 0 66 rfl rfl rfl (by decide) flX10_411 rfl rfl dX10_hasPart_60 ?_
          refine r_ald_n O 64 rfl 2 rfl dX10_hasPart_63 ?_
          refine r_get (ref := RX10) (C := RX10) (T := TX10) (N := 70) O 67 rfl inBX10 0 67 rfl rfl rfl (by decide) flX10_414 rfl rfl dX10_hasPart_64 ?_
          refine r_ald_n O 68 rfl 2 rfl dX10_hasPart_67 ?_
          refine r_get (ref := RX10) (C := RX10) (T := TX10) (N := 70) O 71 rfl inBX10 0 68 rfl rfl rfl (by decide) flX10_417 rfl rfl dX10_hasPart_68 ?_
          refine r_ald_n O 72 rfl 2 rfl dX10_hasPart_71 ?_
          refine r_get (ref := RX10) (C := RX10) (T := TX10) (N := 70) O 75 rfl inBX10 0 69 rfl rfl rfl (by decide) flX10_420 rfl rfl dX10_hasPart_72 ?_
          obtain ⟨x75, hq75, hf⟩ := qb1_some hf
          refine k_VI O 78 rfl (zX10_relation (l := xl X) (D := xD X) (cI := cI) (cZ := cZ) (cQ := cQ) (h_t := h_t) hq75) (gV mlX10_215 mvX10_relation izX10) rfl rfl rfl hdX10_relation ⟨Nat.le_of_ble_eq_true rfl, Nat.le_of_ble_eq_true rfl⟩ rfl 0 rfl rfl rfl rfl (Nat.le_of_ble_eq_true rfl) ⟨Nat.zero_le _, Nat.zero_le _⟩ [0] rfl rfl rfl ([nX10 cI cZ cQ h_t w_t]) rfl dX10_hasPart_75 ?_
          refine r_ist O 80 rfl [(6, .int x75), (5, .int x52), (4, .int x40), (0, .ref (h_t 0)), (1, .int y1), (2, .int y2), (3, .int y3)] dX10_hasPart_78 (by decide) rfl ?_
          refine r_ild O 82 rfl 0 rfl dX10_hasPart_80 ?_
          refine r_if_eq O 85 rfl 109 dX10_hasPart_82 (by decide) (fun hc82 => ?_) (fun hc82 => ?_)
          · rw [if_pos hc82] at hf
            refine r_ic O 110 rfl 0 (by decide) dX10_hasPart_109 ?_
            obtain ⟨g0, g1⟩ := qe2 hf
            exact r_zret2 O E g0 (by rw [g1]) rfl dX10_hasPart_110
          · rw [if_neg hc82] at hf
            refine r_ild O 87 rfl 0 rfl dX10_hasPart_85 ?_
            refine r_ic O 88 rfl 1 (by decide) dX10_hasPart_87 ?_
            refine r_icmp_ne O 91 rfl 97 dX10_hasPart_88 (by decide) (fun hc88 => ?_) (fun hc88 => ?_)
            · rw [if_neg hc88] at hf
              refine r_lv [3, 4, 5, 6, 2, 1, 0] rfl ?_
              exact B97 rec22 hrec22 _ _ _ _ _ _ _ hf
            · rw [if_pos hc88] at hf
              refine r_ild O 93 rfl 2 rfl dX10_hasPart_91 ?_
              refine r_ic O 94 rfl 2 (by decide) dX10_hasPart_93 ?_
              refine r_icmp_eq O 97 rfl 109 dX10_hasPart_94 (by decide) (fun hc94 => ?_) (fun hc94 => ?_)
              · rw [if_pos hc94] at hf
                refine r_ic O 110 rfl 0 (by decide) dX10_hasPart_109 ?_
                obtain ⟨g0, g1⟩ := qe2 hf
                exact r_zret2 O E g0 (by rw [g1]) rfl dX10_hasPart_110
              · rw [if_neg hc94] at hf
                refine r_lv [3, 4, 5, 6, 2, 1, 0] rfl ?_
                exact B97 rec22 hrec22 _ _ _ _ _ _ _ hf
  unfold fX10_hasPart at hf
  refine r_ald_n O 1 rfl 0 rfl dX10_hasPart_0 ?_
  refine r_ic O 2 rfl 0 (by decide) dX10_hasPart_1 ?_
  obtain ⟨p2_t, ep2_t, hf⟩ := qn_some hf
  refine r_put (ref := RX10) (C := RX10) (T := TX10) (N := 70) O 5 rfl inBX10 tyX10 tyX10_ok nmX10 0 66 rfl rfl rfl (by decide) flX10_411 rfl rfl rfl rfl (Nat.le_of_ble_eq_true rfl) ([nX10 cI cZ cQ h_t p2_t]) (by rw [ep2_t]; rfl) dX10_hasPart_2 ?_
  refine r_ald_n O 6 rfl 0 rfl dX10_hasPart_5 ?_
  refine r_ic O 7 rfl 1 (by decide) dX10_hasPart_6 ?_
  obtain ⟨p7_t, ep7_t, hf⟩ := qn_some hf
  refine r_put (ref := RX10) (C := RX10) (T := TX10) (N := 70) O 10 rfl inBX10 tyX10 tyX10_ok nmX10 0 67 rfl rfl rfl (by decide) flX10_414 rfl rfl rfl rfl (Nat.le_of_ble_eq_true rfl) ([nX10 cI cZ cQ h_t p7_t]) (by rw [ep7_t]; rfl) dX10_hasPart_7 ?_
  refine r_ald_n O 11 rfl 0 rfl dX10_hasPart_10 ?_
  refine r_ic O 12 rfl 1 (by decide) dX10_hasPart_11 ?_
  obtain ⟨p12_t, ep12_t, hf⟩ := qn_some hf
  refine r_put (ref := RX10) (C := RX10) (T := TX10) (N := 70) O 15 rfl inBX10 tyX10 tyX10_ok nmX10 0 68 rfl rfl rfl (by decide) flX10_417 rfl rfl rfl rfl (Nat.le_of_ble_eq_true rfl) ([nX10 cI cZ cQ h_t p12_t]) (by rw [ep12_t]; rfl) dX10_hasPart_12 ?_
  refine r_ald_n O 16 rfl 0 rfl dX10_hasPart_15 ?_
  refine r_ic O 17 rfl 1 (by decide) dX10_hasPart_16 ?_
  obtain ⟨p17_t, ep17_t, hf⟩ := qn_some hf
  refine r_put (ref := RX10) (C := RX10) (T := TX10) (N := 70) O 20 rfl inBX10 tyX10 tyX10_ok nmX10 0 69 rfl rfl rfl (by decide) flX10_420 rfl rfl rfl rfl (Nat.le_of_ble_eq_true rfl) ([nX10 cI cZ cQ h_t p17_t]) (by rw [ep17_t]; rfl) dX10_hasPart_17 ?_
  refine r_ic O 21 rfl 0 (by decide) dX10_hasPart_20 ?_
  refine r_ist_n O 22 rfl rfl [(3, .int 0), (0, .ref (h_t 0)), (1, .int a1), (2, .int a2)] dX10_hasPart_21 (by decide) rfl ?_
  refine r_lv [1, 2, 3, 0] rfl ?_
  exact B22 FU _ _ _ _ hf
-- X10_with
def rmX10_with : Room := { frames := 6, cells := 0, slots := 0, locals := 152 }
set_option maxHeartbeats 4000000 in
set_option maxRecDepth 100000 in
theorem zX10_with {l : Launch} {D : va_G} {cI cZ cQ : ClassId} {h_t : Nat → Nat} {u_t : Pk} {a1 : Int32} {a2 : Int32} {r0 : Int32} {v_t : Pk} (hf : fX10_with u_t a1 a2 = some (r0, v_t)) : MI l yX10_with wsX10_with rmX10_with D (TY cI cZ cQ) [.ref (h_t 0), .int a1, .int a2] [nX10 cI cZ cQ h_t u_t] r0 [nX10 cI cZ cQ h_t v_t] := by
  refine MI.of (own := RX10) (by decide +kernel) rfl rfl (Nat.le_of_ble_eq_true rfl) (lv0 := [(0, .ref (h_t 0)), (1, .int a1), (2, .int a2)]) rfl ?_
  intro X O E
  have B68 : ∀ (rec5 : Pk → Int32 → Int32 → Int32 → Int32 → Option (Int32 × Pk)), (∀ (w_t : Pk) (y1 : Int32) (y2 : Int32) (y3 : Int32) (y4 : Int32), rec5 w_t y1 y2 y3 y4 = some (r0, v_t) → BK X 5 0 0 5 ([nX10 cI cZ cQ h_t w_t]) [(0, .ref (h_t 0)), (1, .int y1), (2, .int y2), (3, .int y3), (4, .int y4)] []) → ∀ (w_t : Pk) (y1 : Int32) (y2 : Int32) (y3 : Int32) (y4 : Int32), fX10_with_b68 rec5 w_t y1 y2 y3 y4 = some (r0, v_t) → BK X 5 0 0 68 ([nX10 cI cZ cQ h_t w_t]) [(0, .ref (h_t 0)), (1, .int y1), (2, .int y2), (3, .int y3), (4, .int y4)] [] := by
    intro rec5 hrec5 w_t y1 y2 y3 y4 hf
    unfold fX10_with_b68 at hf
    obtain ⟨x68, ex68, hf⟩ := qn_some hf
    refine r_iinc O 71 rfl x68 4 rfl (by rw [ex68]; rfl) [(4, .int x68), (0, .ref (h_t 0)), (1, .int y1), (2, .int y2), (3, .int y3)] dX10_with_68 (by decide) rfl ?_
    refine r_goto O 5 dX10_with_71 (by decide) ?_
    refine r_lv [1, 2, 3, 4, 0] rfl ?_
    exact hrec5 _ _ _ _ _ hf
  have B5 : ∀ n : Nat, ∀ (w_t : Pk) (y1 : Int32) (y2 : Int32) (y3 : Int32) (y4 : Int32), fX10_with_b5 n w_t y1 y2 y3 y4 = some (r0, v_t) → BK X 5 0 0 5 ([nX10 cI cZ cQ h_t w_t]) [(0, .ref (h_t 0)), (1, .int y1), (2, .int y2), (3, .int y3), (4, .int y4)] [] := by
    intro n
    induction n with
    | zero => exact fun _ _ _ _ _ hf => qno hf
    | succ n hrec5 =>
      intro w_t y1 y2 y3 y4 hf
      have hf : fX10_with_b5_s (fX10_with_b5 n) w_t y1 y2 y3 y4 = some (r0, v_t) := hf
      generalize fX10_with_b5 n = rec5 at hf hrec5
      unfold fX10_with_b5_s at hf
      refine r_ild O 7 rfl 4 rfl dX10_with_5 ?_
      refine r_ald_n O 8 rfl 0 rfl dX10_with_7 ?_
      refine r_get (ref := RX10) (C := RX10) (T := TX10) (N := 70) O 11 rfl inBX10 0 63 rfl rfl rfl (by decide) flX10_408 rfl rfl dX10_with_8 ?_
      refine r_icmp_ge O 14 rfl 74 dX10_with_11 (by decide) (fun hc11 => ?_) (fun hc11 => ?_)
      · rw [if_pos hc11] at hf
        refine r_ild_n O 75 rfl 3 rfl dX10_with_74 ?_
        refine r_ald_n O 76 rfl 0 rfl dX10_with_75 ?_
        refine r_get (ref := RX10) (C := RX10) (T := TX10) (N := 70) O 79 rfl inBX10 0 64 rfl rfl rfl (by decide) flX10_116 rfl rfl dX10_with_76 ?_
        refine r_ild_n O 80 rfl 1 rfl dX10_with_79 ?_
        refine r_ald_n O 81 rfl 0 rfl dX10_with_80 ?_
        refine r_get (ref := RX10) (C := RX10) (T := TX10) (N := 70) O 84 rfl inBX10 0 65 rfl rfl rfl (by decide) flX10_119 rfl rfl dX10_with_81 ?_
        refine r_ild_n O 85 rfl 2 rfl dX10_with_84 ?_
        obtain ⟨x85, ex85, hin85, hf⟩ := qld_some hf
        refine r_iald O 86 rfl 0 30 rfl rfl hin85 dX10_with_85 ?_
        rw [← ex85]
        refine r_iadd O 87 rfl dX10_with_86 ?_
        obtain ⟨x87, ex87, hin87, hf⟩ := qld_some hf
        refine r_iald O 88 rfl 0 29 rfl rfl hin87 dX10_with_87 ?_
        rw [← ex87]
        refine r_iadd O 89 rfl dX10_with_88 ?_
        refine r_ald_n O 90 rfl 0 rfl dX10_with_89 ?_
        refine r_get (ref := RX10) (C := RX10) (T := TX10) (N := 70) O 93 rfl inBX10 0 64 rfl rfl rfl (by decide) flX10_116 rfl rfl dX10_with_90 ?_
        refine r_ild_n O 94 rfl 1 rfl dX10_with_93 ?_
        refine r_ic O 95 rfl 2 (by decide) dX10_with_94 ?_
        refine r_ald_n O 96 rfl 0 rfl dX10_with_95 ?_
        refine r_get (ref := RX10) (C := RX10) (T := TX10) (N := 70) O 99 rfl inBX10 0 65 rfl rfl rfl (by decide) flX10_119 rfl rfl dX10_with_96 ?_
        refine r_ild_n O 100 rfl 2 rfl dX10_with_99 ?_
        obtain ⟨x100, ex100, hin100, hf⟩ := qld_some hf
        refine r_iald O 101 rfl 0 30 rfl rfl hin100 dX10_with_100 ?_
        rw [← ex100]
        refine r_imul O 102 rfl dX10_with_101 ?_
        refine r_iadd O 103 rfl dX10_with_102 ?_
        obtain ⟨x103, ex103, hin103, hf⟩ := qld_some hf
        refine r_iald O 104 rfl 0 29 rfl rfl hin103 dX10_with_103 ?_
        rw [← ex103]
        refine r_iadd O 105 rfl dX10_with_104 ?_
        obtain ⟨g0, g1⟩ := qe2 hf
        exact r_iret2 O E g0 (by rw [g1]) dX10_with_105
      · rw [if_neg hc11] at hf
        refine r_ald_n O 15 rfl 0 rfl dX10_with_14 ?_
        refine r_ild_n O 16 rfl 1 rfl dX10_with_15 ?_
        refine r_ald_n O 17 rfl 0 rfl dX10_with_16 ?_
        refine r_get (ref := RX10) (C := RX10) (T := TX10) (N := 70) O 20 rfl inBX10 0 62 rfl rfl rfl (by decide) flX10_113 rfl rfl dX10_with_17 ?_
        refine r_ild O 22 rfl 4 rfl dX10_with_20 ?_
        obtain ⟨x22, ex22, hin22, hf⟩ := qld_some hf
        refine r_iald O 23 rfl 0 28 rfl rfl hin22 dX10_with_22 ?_
        rw [← ex22]
        obtain ⟨x23, p23_t, hq23, hf⟩ := qb2_some hf
        refine k_VZ O 26 rfl (zX10_hasPart (l := xl X) (D := xD X) (cI := cI) (cZ := cZ) (cQ := cQ) (h_t := h_t) hq23) (gV mlX10_423 mvX10_hasPart izX10) rfl rfl rfl hdX10_hasPart ⟨Nat.le_of_ble_eq_true rfl, Nat.le_of_ble_eq_true rfl⟩ rfl 0 rfl rfl rfl rfl (Nat.le_of_ble_eq_true rfl) ⟨Nat.zero_le _, Nat.zero_le _⟩ [0] rfl rfl rfl ([nX10 cI cZ cQ h_t p23_t]) rfl dX10_with_23 (fun hz23 => ?_)
        refine r_if_eq O 29 rfl 68 dX10_with_26 (by decide) (fun hc26 => ?_) (fun hc26 => ?_)
        · rw [if_pos hc26] at hf
          exact B68 rec5 hrec5 _ _ _ _ _ hf
        · rw [if_neg hc26] at hf
          refine r_ald_n O 30 rfl 0 rfl dX10_with_29 ?_
          refine r_ald_n O 31 rfl 0 rfl dX10_with_30 ?_
          refine r_get (ref := RX10) (C := RX10) (T := TX10) (N := 70) O 34 rfl inBX10 0 62 rfl rfl rfl (by decide) flX10_113 rfl rfl dX10_with_31 ?_
          refine r_ild_n O 35 rfl 2 rfl dX10_with_34 ?_
          obtain ⟨x35, ex35, hin35, hf⟩ := qld_some hf
          refine r_iald O 36 rfl 0 28 rfl rfl hin35 dX10_with_35 ?_
          rw [← ex35]
          refine r_ald_n O 37 rfl 0 rfl dX10_with_36 ?_
          refine r_get (ref := RX10) (C := RX10) (T := TX10) (N := 70) O 40 rfl inBX10 0 62 rfl rfl rfl (by decide) flX10_113 rfl rfl dX10_with_37 ?_
          refine r_ild O 42 rfl 4 rfl dX10_with_40 ?_
          obtain ⟨x42, ex42, hin42, hf⟩ := qld_some hf
          refine r_iald O 43 rfl 0 28 rfl rfl hin42 dX10_with_42 ?_
          rw [← ex42]
          refine r_ald_n O 44 rfl 0 rfl dX10_with_43 ?_
          refine r_get (ref := RX10) (C := RX10) (T := TX10) (N := 70) O 47 rfl inBX10 0 66 rfl rfl rfl (by decide) flX10_411 rfl rfl dX10_with_44 ?_
          refine r_ald_n O 48 rfl 0 rfl dX10_with_47 ?_
          refine r_get (ref := RX10) (C := RX10) (T := TX10) (N := 70) O 51 rfl inBX10 0 67 rfl rfl rfl (by decide) flX10_414 rfl rfl dX10_with_48 ?_
          refine r_ald_n O 52 rfl 0 rfl dX10_with_51 ?_
          refine r_get (ref := RX10) (C := RX10) (T := TX10) (N := 70) O 55 rfl inBX10 0 68 rfl rfl rfl (by decide) flX10_417 rfl rfl dX10_with_52 ?_
          refine r_ald_n O 56 rfl 0 rfl dX10_with_55 ?_
          refine r_get (ref := RX10) (C := RX10) (T := TX10) (N := 70) O 59 rfl inBX10 0 69 rfl rfl rfl (by decide) flX10_420 rfl rfl dX10_with_56 ?_
          obtain ⟨x59, hq59, hf⟩ := qb1_some hf
          refine k_VI O 62 rfl (zX10_relation (l := xl X) (D := xD X) (cI := cI) (cZ := cZ) (cQ := cQ) (h_t := h_t) hq59) (gV mlX10_215 mvX10_relation izX10) rfl rfl rfl hdX10_relation ⟨Nat.le_of_ble_eq_true rfl, Nat.le_of_ble_eq_true rfl⟩ rfl 0 rfl rfl rfl rfl (Nat.le_of_ble_eq_true rfl) ⟨Nat.zero_le _, Nat.zero_le _⟩ [0] rfl rfl rfl ([nX10 cI cZ cQ h_t p23_t]) rfl dX10_with_59 ?_
          refine r_if_ne O 65 rfl 68 dX10_with_62 (by decide) (fun hc62 => ?_) (fun hc62 => ?_)
          · rw [if_neg hc62] at hf
            exact B68 rec5 hrec5 _ _ _ _ _ hf
          · rw [if_pos hc62] at hf
            obtain ⟨x65, ex65, hf⟩ := qn_some hf
            refine r_iinc O 68 rfl x65 3 rfl (by rw [ex65]; rfl) [(3, .int x65), (0, .ref (h_t 0)), (1, .int y1), (2, .int y2), (4, .int y4)] dX10_with_65 (by decide) rfl ?_
            refine r_lv [1, 2, 3, 0, 4] rfl ?_
            exact B68 rec5 hrec5 _ _ _ _ _ hf
  unfold fX10_with at hf
  refine r_ic O 1 rfl 0 (by decide) dX10_with_0 ?_
  refine r_ist_n O 2 rfl rfl [(3, .int 0), (0, .ref (h_t 0)), (1, .int a1), (2, .int a2)] dX10_with_1 (by decide) rfl ?_
  refine r_ic O 3 rfl 0 (by decide) dX10_with_2 ?_
  refine r_ist O 5 rfl [(4, .int 0), (3, .int 0), (0, .ref (h_t 0)), (1, .int a1), (2, .int a2)] dX10_with_3 (by decide) rfl ?_
  refine r_lv [2, 3, 4, 1, 0] rfl ?_
  exact B5 FU _ _ _ _ _ hf
-- X10_findLeast
def rmX10_findLeast : Room := { frames := 7, cells := 0, slots := 0, locals := 176 }
set_option maxHeartbeats 4000000 in
set_option maxRecDepth 100000 in
theorem zX10_findLeast {l : Launch} {D : va_G} {cI cZ cQ : ClassId} {h_t : Nat → Nat} {u_t : Pk} {v_t : Pk} (hf : fX10_findLeast u_t = some v_t) : MV l yX10_findLeast wsX10_findLeast rmX10_findLeast D (TY cI cZ cQ) [.ref (h_t 0)] [nX10 cI cZ cQ h_t u_t] [nX10 cI cZ cQ h_t v_t] := by
  refine MV.of (own := RX10) (by decide +kernel) rfl rfl (Nat.le_of_ble_eq_true rfl) (lv0 := [(0, .ref (h_t 0))]) rfl ?_
  intro X O E
  have B104 : ∀ (rec12 : Pk → Int32 → Option (Pk)), (∀ (w_t : Pk) (y1 : Int32), rec12 w_t y1 = some v_t → BK X 5 0 0 12 ([nX10 cI cZ cQ h_t w_t]) [(0, .ref (h_t 0)), (1, .int y1)] []) → ∀ (rec27 : Pk → Int32 → Int32 → Int32 → Option (Pk)), (∀ (w_t : Pk) (y1 : Int32) (y2 : Int32) (y3 : Int32), rec27 w_t y1 y2 y3 = some v_t → BK X 5 0 0 27 ([nX10 cI cZ cQ h_t w_t]) [(0, .ref (h_t 0)), (1, .int y1), (2, .int y2), (3, .int y3)] []) → ∀ (w_t : Pk) (y1 : Int32) (y2 : Int32) (y3 : Int32), fX10_findLeast_b104 rec12 rec27 w_t y1 y2 y3 = some v_t → BK X 5 0 0 104 ([nX10 cI cZ cQ h_t w_t]) [(0, .ref (h_t 0)), (1, .int y1), (2, .int y2), (3, .int y3)] [] := by
    intro rec12 hrec12 rec27 hrec27 w_t y1 y2 y3 hf
    unfold fX10_findLeast_b104 at hf
    obtain ⟨x104, ex104, hf⟩ := qn_some hf
    refine r_iinc O 107 rfl x104 3 rfl (by rw [ex104]; rfl) [(3, .int x104), (0, .ref (h_t 0)), (1, .int y1), (2, .int y2)] dX10_findLeast_104 (by decide) rfl ?_
    refine r_goto O 27 dX10_findLeast_107 (by decide) ?_
    refine r_lv [1, 2, 3, 0] rfl ?_
    exact hrec27 _ _ _ _ hf
  have B101 : ∀ (rec12 : Pk → Int32 → Option (Pk)), (∀ (w_t : Pk) (y1 : Int32), rec12 w_t y1 = some v_t → BK X 5 0 0 12 ([nX10 cI cZ cQ h_t w_t]) [(0, .ref (h_t 0)), (1, .int y1)] []) → ∀ (rec27 : Pk → Int32 → Int32 → Int32 → Option (Pk)), (∀ (w_t : Pk) (y1 : Int32) (y2 : Int32) (y3 : Int32), rec27 w_t y1 y2 y3 = some v_t → BK X 5 0 0 27 ([nX10 cI cZ cQ h_t w_t]) [(0, .ref (h_t 0)), (1, .int y1), (2, .int y2), (3, .int y3)] []) → ∀ (w_t : Pk) (y1 : Int32) (y3 : Int32) (z1 : Int32) (z2 : Int32), fX10_findLeast_b101 rec12 rec27 w_t y1 y3 z1 z2 = some v_t → BK X 5 0 0 101 ([nX10 cI cZ cQ h_t w_t]) [(0, .ref (h_t 0)), (1, .int y1), (3, .int y3)] [.int z2, .int z1, .ref (h_t 65)] := by
    intro rec12 hrec12 rec27 hrec27 w_t y1 y3 z1 z2 hf
    unfold fX10_findLeast_b101 at hf
    obtain ⟨hin101, hf⟩ := qst_some hf
    obtain ⟨p101_t, ep101_t, hf⟩ := qn_some hf
    refine r_iast O 102 rfl 0 29 rfl rfl hin101 ([nX10 cI cZ cQ h_t p101_t]) (by rw [ep101_t]; rfl) dX10_findLeast_101 ?_
    refine r_ic O 103 rfl 1 (by decide) dX10_findLeast_102 ?_
    refine r_ist_n O 104 rfl rfl [(2, .int 1), (0, .ref (h_t 0)), (1, .int y1), (3, .int y3)] dX10_findLeast_103 (by decide) rfl ?_
    refine r_lv [1, 2, 0, 3] rfl ?_
    exact B104 rec12 hrec12 rec27 hrec27 _ _ _ _ hf
  have B99 : ∀ (rec12 : Pk → Int32 → Option (Pk)), (∀ (w_t : Pk) (y1 : Int32), rec12 w_t y1 = some v_t → BK X 5 0 0 12 ([nX10 cI cZ cQ h_t w_t]) [(0, .ref (h_t 0)), (1, .int y1)] []) → ∀ (rec27 : Pk → Int32 → Int32 → Int32 → Option (Pk)), (∀ (w_t : Pk) (y1 : Int32) (y2 : Int32) (y3 : Int32), rec27 w_t y1 y2 y3 = some v_t → BK X 5 0 0 27 ([nX10 cI cZ cQ h_t w_t]) [(0, .ref (h_t 0)), (1, .int y1), (2, .int y2), (3, .int y3)] []) → ∀ (w_t : Pk) (y1 : Int32) (y3 : Int32) (y4 : Int32) (z1 : Int32), fX10_findLeast_b99 rec12 rec27 w_t y1 y3 y4 z1 = some v_t → BK X 5 0 0 99 ([nX10 cI cZ cQ h_t w_t]) [(0, .ref (h_t 0)), (1, .int y1), (3, .int y3), (4, .int y4)] [.int z1, .ref (h_t 65)] := by
    intro rec12 hrec12 rec27 hrec27 w_t y1 y3 y4 z1 hf
    unfold fX10_findLeast_b99 at hf
    refine r_ild O 101 rfl 3 rfl dX10_findLeast_99 ?_
    refine r_lv [0, 1, 2] rfl ?_
    exact B101 rec12 hrec12 rec27 hrec27 _ _ _ _ _ hf
  have B27 : ∀ (rec12 : Pk → Int32 → Option (Pk)), (∀ (w_t : Pk) (y1 : Int32), rec12 w_t y1 = some v_t → BK X 5 0 0 12 ([nX10 cI cZ cQ h_t w_t]) [(0, .ref (h_t 0)), (1, .int y1)] []) → ∀ n : Nat, ∀ (w_t : Pk) (y1 : Int32) (y2 : Int32) (y3 : Int32), fX10_findLeast_b27 rec12 n w_t y1 y2 y3 = some v_t → BK X 5 0 0 27 ([nX10 cI cZ cQ h_t w_t]) [(0, .ref (h_t 0)), (1, .int y1), (2, .int y2), (3, .int y3)] [] := by
    intro rec12 hrec12
    intro n
    induction n with
    | zero => exact fun _ _ _ _ hf => qno hf
    | succ n hrec27 =>
      intro w_t y1 y2 y3 hf
      have hf : fX10_findLeast_b27_s rec12 (fX10_findLeast_b27 rec12 n) w_t y1 y2 y3 = some v_t := hf
      generalize fX10_findLeast_b27 rec12 n = rec27 at hf hrec27
      unfold fX10_findLeast_b27_s at hf
      refine r_ild_n O 28 rfl 3 rfl dX10_findLeast_27 ?_
      refine r_ald_n O 29 rfl 0 rfl dX10_findLeast_28 ?_
      refine r_get (ref := RX10) (C := RX10) (T := TX10) (N := 70) O 32 rfl inBX10 0 63 rfl rfl rfl (by decide) flX10_408 rfl rfl dX10_findLeast_29 ?_
      refine r_icmp_ge O 35 rfl 110 dX10_findLeast_32 (by decide) (fun hc32 => ?_) (fun hc32 => ?_)
      · rw [if_pos hc32] at hf
        obtain ⟨x110, ex110, hf⟩ := qn_some hf
        refine r_iinc O 113 rfl x110 1 rfl (by rw [ex110]; rfl) [(1, .int x110), (0, .ref (h_t 0)), (2, .int y2), (3, .int y3)] dX10_findLeast_110 (by decide) rfl ?_
        refine r_goto O 12 dX10_findLeast_113 (by decide) ?_
        refine r_lv [1, 0] rfl ?_
        exact hrec12 _ _ hf
      · rw [if_neg hc32] at hf
        refine r_ild_n O 36 rfl 1 rfl dX10_findLeast_35 ?_
        refine r_ald_n O 37 rfl 0 rfl dX10_findLeast_36 ?_
        refine r_get (ref := RX10) (C := RX10) (T := TX10) (N := 70) O 40 rfl inBX10 0 65 rfl rfl rfl (by decide) flX10_119 rfl rfl dX10_findLeast_37 ?_
        refine r_ild_n O 41 rfl 3 rfl dX10_findLeast_40 ?_
        obtain ⟨x41, ex41, hin41, hf⟩ := qld_some hf
        refine r_iald O 42 rfl 0 30 rfl rfl hin41 dX10_findLeast_41 ?_
        rw [← ex41]
        obtain ⟨hne42, hf⟩ := qnzi_some hf
        refine r_idiv O 43 rfl dX10_findLeast_42 hne42 ?_
        refine r_ic O 44 rfl 3 (by decide) dX10_findLeast_43 ?_
        obtain ⟨hne44, hf⟩ := qnzi_some hf
        refine r_irem O 45 rfl dX10_findLeast_44 hne44 ?_
        refine r_if_ne O 48 rfl 104 dX10_findLeast_45 (by decide) (fun hc45 => ?_) (fun hc45 => ?_)
        · rw [if_neg hc45] at hf
          exact B104 rec12 hrec12 rec27 hrec27 _ _ _ _ hf
        · rw [if_pos hc45] at hf
          refine r_ald_n O 49 rfl 0 rfl dX10_findLeast_48 ?_
          refine r_ild_n O 50 rfl 1 rfl dX10_findLeast_49 ?_
          refine r_ald_n O 51 rfl 0 rfl dX10_findLeast_50 ?_
          refine r_get (ref := RX10) (C := RX10) (T := TX10) (N := 70) O 54 rfl inBX10 0 62 rfl rfl rfl (by decide) flX10_113 rfl rfl dX10_findLeast_51 ?_
          refine r_ild_n O 55 rfl 3 rfl dX10_findLeast_54 ?_
          obtain ⟨x55, ex55, hin55, hf⟩ := qld_some hf
          refine r_iald O 56 rfl 0 28 rfl rfl hin55 dX10_findLeast_55 ?_
          rw [← ex55]
          obtain ⟨x56, p56_t, hq56, hf⟩ := qb2_some hf
          refine k_VZ O 59 rfl (zX10_hasPart (l := xl X) (D := xD X) (cI := cI) (cZ := cZ) (cQ := cQ) (h_t := h_t) hq56) (gV mlX10_423 mvX10_hasPart izX10) rfl rfl rfl hdX10_hasPart ⟨Nat.le_of_ble_eq_true rfl, Nat.le_of_ble_eq_true rfl⟩ rfl 0 rfl rfl rfl rfl (Nat.le_of_ble_eq_true rfl) ⟨Nat.zero_le _, Nat.zero_le _⟩ [0] rfl rfl rfl ([nX10 cI cZ cQ h_t p56_t]) rfl dX10_findLeast_56 (fun hz56 => ?_)
          refine r_if_eq O 62 rfl 104 dX10_findLeast_59 (by decide) (fun hc59 => ?_) (fun hc59 => ?_)
          · rw [if_pos hc59] at hf
            exact B104 rec12 hrec12 rec27 hrec27 _ _ _ _ hf
          · rw [if_neg hc59] at hf
            refine r_ald_n O 63 rfl 0 rfl dX10_findLeast_62 ?_
            refine r_ild_n O 64 rfl 1 rfl dX10_findLeast_63 ?_
            refine r_ild_n O 65 rfl 3 rfl dX10_findLeast_64 ?_
            obtain ⟨x65, p65_t, hq65, hf⟩ := qb2_some hf
            refine k_VI O 68 rfl (zX10_with (l := xl X) (D := xD X) (cI := cI) (cZ := cZ) (cQ := cQ) (h_t := h_t) hq65) (gV mlX10_426 mvX10_with izX10) rfl rfl rfl hdX10_with ⟨Nat.le_of_ble_eq_true rfl, Nat.le_of_ble_eq_true rfl⟩ rfl 0 rfl rfl rfl rfl (Nat.le_of_ble_eq_true rfl) ⟨Nat.zero_le _, Nat.zero_le _⟩ [0] rfl rfl rfl ([nX10 cI cZ cQ h_t p65_t]) rfl dX10_findLeast_65 ?_
            refine r_ist O 70 rfl [(4, .int x65), (0, .ref (h_t 0)), (1, .int y1), (2, .int y2), (3, .int y3)] dX10_findLeast_68 (by decide) rfl ?_
            refine r_ald_n O 71 rfl 1 rfl dX10_findLeast_70 ?_
            refine r_get (ref := RX10) (C := RX10) (T := TX10) (N := 70) O 74 rfl inBX10 0 64 rfl rfl rfl (by decide) flX10_116 rfl rfl dX10_findLeast_71 ?_
            refine r_ild_n O 75 rfl 2 rfl dX10_findLeast_74 ?_
            refine r_ild_n O 76 rfl 3 rfl dX10_findLeast_75 ?_
            refine r_if_eq O 79 rfl 99 dX10_findLeast_76 (by decide) (fun hc76 => ?_) (fun hc76 => ?_)
            · rw [if_pos hc76] at hf
              refine r_lv [1, 2, 4, 0] rfl ?_
              exact B99 rec12 hrec12 rec27 hrec27 _ _ _ _ _ hf
            · rw [if_neg hc76] at hf
              refine r_ald_n O 80 rfl 1 rfl dX10_findLeast_79 ?_
              refine r_get (ref := RX10) (C := RX10) (T := TX10) (N := 70) O 83 rfl inBX10 0 64 rfl rfl rfl (by decide) flX10_116 rfl rfl dX10_findLeast_80 ?_
              refine r_ild_n O 84 rfl 2 rfl dX10_findLeast_83 ?_
              obtain ⟨x84, ex84, hin84, hf⟩ := qld_some hf
              refine r_iald O 85 rfl 0 29 rfl rfl hin84 dX10_findLeast_84 ?_
              rw [← ex84]
              refine r_ild O 87 rfl 0 rfl dX10_findLeast_85 ?_
              refine r_icmp_ge O 90 rfl 99 dX10_findLeast_87 (by decide) (fun hc87 => ?_) (fun hc87 => ?_)
              · rw [if_pos hc87] at hf
                refine r_lv [1, 2, 4, 0] rfl ?_
                exact B99 rec12 hrec12 rec27 hrec27 _ _ _ _ _ hf
              · rw [if_neg hc87] at hf
                refine r_ald_n O 91 rfl 1 rfl dX10_findLeast_90 ?_
                refine r_get (ref := RX10) (C := RX10) (T := TX10) (N := 70) O 94 rfl inBX10 0 64 rfl rfl rfl (by decide) flX10_116 rfl rfl dX10_findLeast_91 ?_
                refine r_ild_n O 95 rfl 2 rfl dX10_findLeast_94 ?_
                obtain ⟨x95, ex95, hin95, hf⟩ := qld_some hf
                refine r_iald O 96 rfl 0 29 rfl rfl hin95 dX10_findLeast_95 ?_
                rw [← ex95]
                refine r_goto O 101 dX10_findLeast_96 (by decide) ?_
                refine r_lv [1, 2, 4] rfl ?_
                exact B101 rec12 hrec12 rec27 hrec27 _ _ _ _ _ hf
  have B12 : ∀ n : Nat, ∀ (w_t : Pk) (y1 : Int32), fX10_findLeast_b12 n w_t y1 = some v_t → BK X 5 0 0 12 ([nX10 cI cZ cQ h_t w_t]) [(0, .ref (h_t 0)), (1, .int y1)] [] := by
    intro n
    induction n with
    | zero => exact fun _ _ hf => qno hf
    | succ n hrec12 =>
      intro w_t y1 hf
      have hf : fX10_findLeast_b12_s (fX10_findLeast_b12 n) w_t y1 = some v_t := hf
      generalize fX10_findLeast_b12 n = rec12 at hf hrec12
      unfold fX10_findLeast_b12_s at hf
      refine r_ild_n O 13 rfl 1 rfl dX10_findLeast_12 ?_
      refine r_if_lt O 16 rfl 116 dX10_findLeast_13 (by decide) (fun hc13 => ?_) (fun hc13 => ?_)
      · rw [if_pos hc13] at hf
        obtain g0 := qe1 hf
        exact r_vret2 O E (by rw [g0]) dX10_findLeast_116
      · rw [if_neg hc13] at hf
        refine r_ic O 17 rfl 0 (by decide) dX10_findLeast_16 ?_
        refine r_ist_n O 18 rfl rfl [(2, .int 0), (0, .ref (h_t 0)), (1, .int y1)] dX10_findLeast_17 (by decide) rfl ?_
        refine r_ald_n O 19 rfl 1 rfl dX10_findLeast_18 ?_
        refine r_get (ref := RX10) (C := RX10) (T := TX10) (N := 70) O 22 rfl inBX10 0 64 rfl rfl rfl (by decide) flX10_116 rfl rfl dX10_findLeast_19 ?_
        refine r_ild_n O 23 rfl 2 rfl dX10_findLeast_22 ?_
        refine r_ic O 24 rfl 0 (by decide) dX10_findLeast_23 ?_
        obtain ⟨hin24, hf⟩ := qst_some hf
        obtain ⟨p24_t, ep24_t, hf⟩ := qn_some hf
        refine r_iast O 25 rfl 0 29 rfl rfl hin24 ([nX10 cI cZ cQ h_t p24_t]) (by rw [ep24_t]; rfl) dX10_findLeast_24 ?_
        refine r_ic O 26 rfl 0 (by decide) dX10_findLeast_25 ?_
        refine r_ist_n O 27 rfl rfl [(3, .int 0), (2, .int 0), (0, .ref (h_t 0)), (1, .int y1)] dX10_findLeast_26 (by decide) rfl ?_
        refine r_lv [2, 3, 1, 0] rfl ?_
        exact B27 rec12 hrec12 FU _ _ _ _ hf
  unfold fX10_findLeast at hf
  refine r_ald_n O 1 rfl 0 rfl dX10_findLeast_0 ?_
  refine r_get (ref := RX10) (C := RX10) (T := TX10) (N := 70) O 4 rfl inBX10 0 65 rfl rfl rfl (by decide) flX10_119 rfl rfl dX10_findLeast_1 ?_
  refine r_ald_n O 5 rfl 0 rfl dX10_findLeast_4 ?_
  refine r_get (ref := RX10) (C := RX10) (T := TX10) (N := 70) O 8 rfl inBX10 0 63 rfl rfl rfl (by decide) flX10_408 rfl rfl dX10_findLeast_5 ?_
  obtain ⟨x8, ex8, hin8, hf⟩ := qld_some hf
  refine r_iald O 9 rfl 0 30 rfl rfl hin8 dX10_findLeast_8 ?_
  rw [← ex8]
  refine r_ic O 10 rfl 1 (by decide) dX10_findLeast_9 ?_
  refine r_isub O 11 rfl dX10_findLeast_10 ?_
  obtain ⟨x11, ex11, hf⟩ := qn_some hf
  rw [← ex11]
  refine r_ist_n O 12 rfl rfl [(1, .int x11), (0, .ref (h_t 0))] dX10_findLeast_11 (by decide) rfl ?_
  refine r_lv [1, 0] rfl ?_
  exact B12 FU _ _ hf
-- X10_leastPieces
def rmX10_leastPieces : Room := { frames := 8, cells := 0, slots := 0, locals := 200 }
set_option maxHeartbeats 4000000 in
set_option maxRecDepth 100000 in
theorem zX10_leastPieces {l : Launch} {D : va_G} {cI cZ cQ : ClassId} {h_t : Nat → Nat} {u_t : Pk} {r0 : Int32} {v_t : Pk} (hf : fX10_leastPieces u_t = some (r0, v_t)) : MI l yX10_leastPieces wsX10_leastPieces rmX10_leastPieces D (TY cI cZ cQ) [.ref (h_t 0)] [nX10 cI cZ cQ h_t u_t] r0 [nX10 cI cZ cQ h_t v_t] := by
  refine MI.of (own := RX10) (by decide +kernel) rfl rfl (Nat.le_of_ble_eq_true rfl) (lv0 := [(0, .ref (h_t 0))]) rfl ?_
  intro X O E
  unfold fX10_leastPieces at hf
  refine r_ald_n O 1 rfl 0 rfl dX10_leastPieces_0 ?_
  obtain ⟨p1_t, hq1, hf⟩ := qb1_some hf
  refine k_VV O 4 rfl (zX10_findFixed (l := xl X) (D := xD X) (cI := cI) (cZ := cZ) (cQ := cQ) (h_t := h_t) hq1) (gV mlX10_429 mvX10_findFixed izX10) rfl rfl rfl hdX10_findFixed ⟨Nat.le_of_ble_eq_true rfl, Nat.le_of_ble_eq_true rfl⟩ rfl 0 rfl rfl rfl rfl (Nat.le_of_ble_eq_true rfl) ⟨Nat.zero_le _, Nat.zero_le _⟩ [0] rfl rfl rfl ([nX10 cI cZ cQ h_t p1_t]) rfl dX10_leastPieces_1 ?_
  refine r_ald_n O 5 rfl 0 rfl dX10_leastPieces_4 ?_
  refine r_get (ref := RX10) (C := RX10) (T := TX10) (N := 70) O 8 rfl inBX10 0 63 rfl rfl rfl (by decide) flX10_408 rfl rfl dX10_leastPieces_5 ?_
  refine r_ic O 9 rfl 5 (by decide) dX10_leastPieces_8 ?_
  refine r_icmp_le O 12 rfl 15 dX10_leastPieces_9 (by decide) (fun hc9 => ?_) (fun hc9 => ?_)
  · rw [if_pos hc9] at hf
    refine r_ald_n O 16 rfl 0 rfl dX10_leastPieces_15 ?_
    obtain ⟨p16_t, hq16, hf⟩ := qb1_some hf
    refine k_VV O 19 rfl (zX10_findLeast (l := xl X) (D := xD X) (cI := cI) (cZ := cZ) (cQ := cQ) (h_t := h_t) hq16) (gV mlX10_432 mvX10_findLeast izX10) rfl rfl rfl hdX10_findLeast ⟨Nat.le_of_ble_eq_true rfl, Nat.le_of_ble_eq_true rfl⟩ rfl 0 rfl rfl rfl rfl (Nat.le_of_ble_eq_true rfl) ⟨Nat.zero_le _, Nat.zero_le _⟩ [0] rfl rfl rfl ([nX10 cI cZ cQ h_t p16_t]) rfl dX10_leastPieces_16 ?_
    refine r_ald_n O 20 rfl 0 rfl dX10_leastPieces_19 ?_
    refine r_get (ref := RX10) (C := RX10) (T := TX10) (N := 70) O 23 rfl inBX10 0 64 rfl rfl rfl (by decide) flX10_116 rfl rfl dX10_leastPieces_20 ?_
    refine r_ic O 24 rfl 0 (by decide) dX10_leastPieces_23 ?_
    obtain ⟨x24, ex24, hin24, hf⟩ := qld_some hf
    refine r_iald O 25 rfl 0 29 rfl rfl hin24 dX10_leastPieces_24 ?_
    rw [← ex24]
    obtain ⟨g0, g1⟩ := qe2 hf
    exact r_iret2 O E g0 (by rw [g1]) dX10_leastPieces_25
  · rw [if_neg hc9] at hf
    refine r_bi O 14 rfl (-5) (by decide) dX10_leastPieces_12 ?_
    obtain ⟨g0, g1⟩ := qe2 hf
    exact r_iret2 O E g0 (by rw [g1]) dX10_leastPieces_14
-- X10_bestRoot
def rmX10_bestRoot : Room := { frames := 8, cells := 0, slots := 0, locals := 200 }
set_option maxHeartbeats 4000000 in
set_option maxRecDepth 100000 in
theorem zX10_bestRoot {l : Launch} {D : va_G} {cI cZ cQ : ClassId} {h_t : Nat → Nat} {u_t : Pk} {r0 : Int32} {v_t : Pk} (hf : fX10_bestRoot u_t = some (r0, v_t)) : MI l yX10_bestRoot wsX10_bestRoot rmX10_bestRoot D (TY cI cZ cQ) [.ref (h_t 0)] [nX10 cI cZ cQ h_t u_t] r0 [nX10 cI cZ cQ h_t v_t] := by
  refine MI.of (own := RX10) (by decide +kernel) rfl rfl (Nat.le_of_ble_eq_true rfl) (lv0 := [(0, .ref (h_t 0))]) rfl ?_
  intro X O E
  have B31 : ∀ n : Nat, ∀ (w_t : Pk) (y1 : Int32), fX10_bestRoot_b31 n w_t y1 = some (r0, v_t) → BK X 2 0 0 31 ([nX10 cI cZ cQ h_t w_t]) [(0, .ref (h_t 0)), (1, .int y1)] [] := by
    intro n
    induction n with
    | zero => exact fun _ _ hf => qno hf
    | succ n hrec31 =>
      intro w_t y1 hf
      have hf : fX10_bestRoot_b31_s (fX10_bestRoot_b31 n) w_t y1 = some (r0, v_t) := hf
      generalize fX10_bestRoot_b31 n = rec31 at hf hrec31
      unfold fX10_bestRoot_b31_s at hf
      refine r_ald_n O 32 rfl 0 rfl dX10_bestRoot_31 ?_
      refine r_ic O 33 rfl 0 (by decide) dX10_bestRoot_32 ?_
      refine r_ild_n O 34 rfl 1 rfl dX10_bestRoot_33 ?_
      obtain ⟨x34, p34_t, hq34, hf⟩ := qb2_some hf
      refine k_VI O 37 rfl (zX10_with (l := xl X) (D := xD X) (cI := cI) (cZ := cZ) (cQ := cQ) (h_t := h_t) hq34) (gV mlX10_426 mvX10_with izX10) rfl rfl rfl hdX10_with ⟨Nat.le_of_ble_eq_true rfl, Nat.le_of_ble_eq_true rfl⟩ rfl 0 rfl rfl rfl rfl (Nat.le_of_ble_eq_true rfl) ⟨Nat.zero_le _, Nat.zero_le _⟩ [0] rfl rfl rfl ([nX10 cI cZ cQ h_t p34_t]) rfl dX10_bestRoot_34 ?_
      refine r_ald_n O 38 rfl 0 rfl dX10_bestRoot_37 ?_
      refine r_get (ref := RX10) (C := RX10) (T := TX10) (N := 70) O 41 rfl inBX10 0 64 rfl rfl rfl (by decide) flX10_116 rfl rfl dX10_bestRoot_38 ?_
      refine r_ic O 42 rfl 0 (by decide) dX10_bestRoot_41 ?_
      obtain ⟨x42, ex42, hin42, hf⟩ := qld_some hf
      refine r_iald O 43 rfl 0 29 rfl rfl hin42 dX10_bestRoot_42 ?_
      rw [← ex42]
      refine r_icmp_eq O 46 rfl 52 dX10_bestRoot_43 (by decide) (fun hc43 => ?_) (fun hc43 => ?_)
      · rw [if_pos hc43] at hf
        refine r_ald_n O 53 rfl 0 rfl dX10_bestRoot_52 ?_
        refine r_get (ref := RX10) (C := RX10) (T := TX10) (N := 70) O 56 rfl inBX10 0 62 rfl rfl rfl (by decide) flX10_113 rfl rfl dX10_bestRoot_53 ?_
        refine r_ild_n O 57 rfl 1 rfl dX10_bestRoot_56 ?_
        obtain ⟨x57, ex57, hin57, hf⟩ := qld_some hf
        refine r_iald O 58 rfl 0 28 rfl rfl hin57 dX10_bestRoot_57 ?_
        rw [← ex57]
        obtain ⟨g0, g1⟩ := qe2 hf
        exact r_iret2 O E g0 (by rw [g1]) dX10_bestRoot_58
      · rw [if_neg hc43] at hf
        obtain ⟨x46, ex46, hf⟩ := qn_some hf
        refine r_iinc O 49 rfl x46 1 rfl (by rw [ex46]; rfl) [(1, .int x46), (0, .ref (h_t 0))] dX10_bestRoot_46 (by decide) rfl ?_
        refine r_goto O 31 dX10_bestRoot_49 (by decide) ?_
        refine r_lv [1, 0] rfl ?_
        exact hrec31 _ _ hf
  unfold fX10_bestRoot at hf
  refine r_ald_n O 1 rfl 0 rfl dX10_bestRoot_0 ?_
  obtain ⟨p1_t, hq1, hf⟩ := qb1_some hf
  refine k_VV O 4 rfl (zX10_findFixed (l := xl X) (D := xD X) (cI := cI) (cZ := cZ) (cQ := cQ) (h_t := h_t) hq1) (gV mlX10_429 mvX10_findFixed izX10) rfl rfl rfl hdX10_findFixed ⟨Nat.le_of_ble_eq_true rfl, Nat.le_of_ble_eq_true rfl⟩ rfl 0 rfl rfl rfl rfl (Nat.le_of_ble_eq_true rfl) ⟨Nat.zero_le _, Nat.zero_le _⟩ [0] rfl rfl rfl ([nX10 cI cZ cQ h_t p1_t]) rfl dX10_bestRoot_1 ?_
  refine r_ald_n O 5 rfl 0 rfl dX10_bestRoot_4 ?_
  refine r_get (ref := RX10) (C := RX10) (T := TX10) (N := 70) O 8 rfl inBX10 0 63 rfl rfl rfl (by decide) flX10_408 rfl rfl dX10_bestRoot_5 ?_
  refine r_ic O 9 rfl 5 (by decide) dX10_bestRoot_8 ?_
  refine r_icmp_le O 12 rfl 15 dX10_bestRoot_9 (by decide) (fun hc9 => ?_) (fun hc9 => ?_)
  · rw [if_pos hc9] at hf
    refine r_ald_n O 16 rfl 0 rfl dX10_bestRoot_15 ?_
    refine r_get (ref := RX10) (C := RX10) (T := TX10) (N := 70) O 19 rfl inBX10 0 63 rfl rfl rfl (by decide) flX10_408 rfl rfl dX10_bestRoot_16 ?_
    refine r_if_ne O 22 rfl 25 dX10_bestRoot_19 (by decide) (fun hc19 => ?_) (fun hc19 => ?_)
    · rw [if_neg hc19] at hf
      refine r_ald_n O 26 rfl 0 rfl dX10_bestRoot_25 ?_
      obtain ⟨p26_t, hq26, hf⟩ := qb1_some hf
      refine k_VV O 29 rfl (zX10_findLeast (l := xl X) (D := xD X) (cI := cI) (cZ := cZ) (cQ := cQ) (h_t := h_t) hq26) (gV mlX10_432 mvX10_findLeast izX10) rfl rfl rfl hdX10_findLeast ⟨Nat.le_of_ble_eq_true rfl, Nat.le_of_ble_eq_true rfl⟩ rfl 0 rfl rfl rfl rfl (Nat.le_of_ble_eq_true rfl) ⟨Nat.zero_le _, Nat.zero_le _⟩ [0] rfl rfl rfl ([nX10 cI cZ cQ h_t p26_t]) rfl dX10_bestRoot_26 ?_
      refine r_ic O 30 rfl 0 (by decide) dX10_bestRoot_29 ?_
      refine r_ist_n O 31 rfl rfl [(1, .int 0), (0, .ref (h_t 0))] dX10_bestRoot_30 (by decide) rfl ?_
      refine r_lv [1, 0] rfl ?_
      exact B31 FU _ _ hf
    · rw [if_pos hc19] at hf
      refine r_bi O 24 rfl (-8) (by decide) dX10_bestRoot_22 ?_
      obtain ⟨g0, g1⟩ := qe2 hf
      exact r_iret2 O E g0 (by rw [g1]) dX10_bestRoot_24
  · rw [if_neg hc9] at hf
    refine r_bi O 14 rfl (-5) (by decide) dX10_bestRoot_12 ?_
    obtain ⟨g0, g1⟩ := qe2 hf
    exact r_iret2 O E g0 (by rw [g1]) dX10_bestRoot_14
