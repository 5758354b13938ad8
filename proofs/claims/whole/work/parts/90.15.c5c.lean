-- X9_wander
def rmX9_wander : Room := { frames := 6, cells := 0, slots := 0, locals := 139 }
set_option maxHeartbeats 4000000 in
set_option maxRecDepth 100000 in
theorem zX9_wander {l : Launch} {D : va_G} {cI cZ cQ : ClassId} {h_t h_w h_r : Nat → Nat} {r_b r_l r_H r_x r_T r_C r_d r_F r_n : Nat} {u_t u_w u_r : Pk} {a1 : Int32} {a2 : Int32} {a3 : Int32} {a4 : Int32} {r0 : Int32} {v_r : Pk} (hf : fX9_wander u_t u_w u_r a1 a2 a3 a4 = some (r0, v_r)) : MI l yX9_wander wsX9_wander rmX9_wander D (TY cI cZ cQ) [.ref (h_t 0), .int a1, .int a2, .int a3, .int a4] [nX9 cI cZ cQ h_t (h_w 0) r_b r_l r_H r_x r_T r_C r_d r_F (h_r 0) r_n u_t, nX8 cI cZ cQ h_w u_w, nX5 cI cZ cQ h_r (h_w 0) u_r] r0 [nX9 cI cZ cQ h_t (h_w 0) r_b r_l r_H r_x r_T r_C r_d r_F (h_r 0) r_n u_t, nX8 cI cZ cQ h_w u_w, nX5 cI cZ cQ h_r (h_w 0) v_r] := by
  refine MI.of (own := RX9) (by decide +kernel) rfl rfl (Nat.le_of_ble_eq_true rfl) (lv0 := [(0, .ref (h_t 0)), (1, .int a1), (2, .int a2), (3, .int a3), (4, .int a4)]) rfl ?_
  intro X O E
  have B40 : ∀ n : Nat, ∀ (w_r : Pk) (y4 : Int32) (y5 : Int64) (y7 : Int32) (y8 : Int32), fX9_wander_b40 u_t u_w n w_r y4 y5 y7 y8 = some (r0, v_r) → BK X 11 0 0 40 ([nX9 cI cZ cQ h_t (h_w 0) r_b r_l r_H r_x r_T r_C r_d r_F (h_r 0) r_n u_t, nX8 cI cZ cQ h_w u_w, nX5 cI cZ cQ h_r (h_w 0) w_r]) [(0, .ref (h_t 0)), (4, .int y4), (5, .long y5), (7, .int y7), (8, .int y8)] [] := by
    intro n
    induction n with
    | zero => exact fun _ _ _ _ _ hf => qno hf
    | succ n hrec40 =>
      intro w_r y4 y5 y7 y8 hf
      have hf : fX9_wander_b40_s (fX9_wander_b40 u_t u_w n) u_t u_w w_r y4 y5 y7 y8 = some (r0, v_r) := hf
      generalize fX9_wander_b40 u_t u_w n = rec40 at hf hrec40
      unfold fX9_wander_b40_s at hf
      refine r_ild O 42 rfl 4 rfl dX9_wander_40 ?_
      refine r_ild O 44 rfl 1 rfl dX9_wander_42 ?_
      refine r_icmp_ge O 47 rfl 101 dX9_wander_44 (by decide) (fun hc44 => ?_) (fun hc44 => ?_)
      · rw [if_pos hc44] at hf
        refine r_ild O 103 rfl 3 rfl dX9_wander_101 ?_
        obtain ⟨g0, g1⟩ := qe2 hf
        exact r_iret2 O E g0 (by rw [g1]) dX9_wander_103
      · rw [if_neg hc44] at hf
        refine r_lld O 49 rfl 2 rfl dX9_wander_47 ?_
        obtain ⟨x49, hq49, hf⟩ := qb1_some hf
        refine k_SL O 52 rfl (zX9_nextState (l := xl X) (D := xD X) (cI := cI) (cZ := cZ) (cQ := cQ) hq49) (gS mlX9_316 mvX9_nextState izX9) rfl rfl rfl hdX9_nextState ⟨Nat.le_of_ble_eq_true rfl, Nat.le_of_ble_eq_true rfl⟩ rfl rfl (Nat.le_of_ble_eq_true rfl) ⟨Nat.zero_le _, Nat.zero_le _⟩ [] rfl rfl rfl ([nX9 cI cZ cQ h_t (h_w 0) r_b r_l r_H r_x r_T r_C r_d r_F (h_r 0) r_n u_t, nX8 cI cZ cQ h_w u_w, nX5 cI cZ cQ h_r (h_w 0) w_r]) rfl dX9_wander_49 ?_
        refine r_lst O 54 rfl [(5, .long x49), (0, .ref (h_t 0)), (4, .int y4), (7, .int y7), (8, .int y8)] dX9_wander_52 (by decide) rfl ?_
        refine r_lld O 56 rfl 0 rfl dX9_wander_54 ?_
        obtain ⟨x56, hq56, hf⟩ := qb1_some hf
        refine k_SI O 59 rfl (zX9_randomMove (l := xl X) (D := xD X) (cI := cI) (cZ := cZ) (cQ := cQ) hq56) (gS mlX9_320 mvX9_randomMove izX9) rfl rfl rfl hdX9_randomMove ⟨Nat.le_of_ble_eq_true rfl, Nat.le_of_ble_eq_true rfl⟩ rfl rfl (Nat.le_of_ble_eq_true rfl) ⟨Nat.zero_le _, Nat.zero_le _⟩ [] rfl rfl rfl ([nX9 cI cZ cQ h_t (h_w 0) r_b r_l r_H r_x r_T r_C r_d r_F (h_r 0) r_n u_t, nX8 cI cZ cQ h_w u_w, nX5 cI cZ cQ h_r (h_w 0) w_r]) rfl dX9_wander_56 ?_
        refine r_ist O 61 rfl [(9, .int x56), (5, .long x49), (0, .ref (h_t 0)), (4, .int y4), (7, .int y7), (8, .int y8)] dX9_wander_59 (by decide) rfl ?_
        refine r_lld O 63 rfl 1 rfl dX9_wander_61 ?_
        obtain ⟨x63, hq63, hf⟩ := qb1_some hf
        refine k_SL O 66 rfl (zX9_nextState (l := xl X) (D := xD X) (cI := cI) (cZ := cZ) (cQ := cQ) hq63) (gS mlX9_316 mvX9_nextState izX9) rfl rfl rfl hdX9_nextState ⟨Nat.le_of_ble_eq_true rfl, Nat.le_of_ble_eq_true rfl⟩ rfl rfl (Nat.le_of_ble_eq_true rfl) ⟨Nat.zero_le _, Nat.zero_le _⟩ [] rfl rfl rfl ([nX9 cI cZ cQ h_t (h_w 0) r_b r_l r_H r_x r_T r_C r_d r_F (h_r 0) r_n u_t, nX8 cI cZ cQ h_w u_w, nX5 cI cZ cQ h_r (h_w 0) w_r]) rfl dX9_wander_63 ?_
        refine r_lst O 68 rfl [(5, .long x63), (9, .int x56), (0, .ref (h_t 0)), (4, .int y4), (7, .int y7), (8, .int y8)] dX9_wander_66 (by decide) rfl ?_
        refine r_lld O 70 rfl 0 rfl dX9_wander_68 ?_
        obtain ⟨x70, hq70, hf⟩ := qb1_some hf
        refine k_SI O 73 rfl (zX9_randomMove (l := xl X) (D := xD X) (cI := cI) (cZ := cZ) (cQ := cQ) hq70) (gS mlX9_320 mvX9_randomMove izX9) rfl rfl rfl hdX9_randomMove ⟨Nat.le_of_ble_eq_true rfl, Nat.le_of_ble_eq_true rfl⟩ rfl rfl (Nat.le_of_ble_eq_true rfl) ⟨Nat.zero_le _, Nat.zero_le _⟩ [] rfl rfl rfl ([nX9 cI cZ cQ h_t (h_w 0) r_b r_l r_H r_x r_T r_C r_d r_F (h_r 0) r_n u_t, nX8 cI cZ cQ h_w u_w, nX5 cI cZ cQ h_r (h_w 0) w_r]) rfl dX9_wander_70 ?_
        refine r_ist O 75 rfl [(10, .int x70), (5, .long x63), (9, .int x56), (0, .ref (h_t 0)), (4, .int y4), (7, .int y7), (8, .int y8)] dX9_wander_73 (by decide) rfl ?_
        refine r_ald_n O 76 rfl 3 rfl dX9_wander_75 ?_
        refine r_ild O 78 rfl 5 rfl dX9_wander_76 ?_
        refine r_bi O 80 rfl 64 (by decide) dX9_wander_78 ?_
        obtain ⟨hne80, hf⟩ := qnzi_some hf
        refine r_idiv O 81 rfl dX9_wander_80 hne80 ?_
        refine r_ild O 83 rfl 5 rfl dX9_wander_81 ?_
        refine r_bi O 85 rfl 64 (by decide) dX9_wander_83 ?_
        obtain ⟨hne85, hf⟩ := qnzi_some hf
        refine r_irem O 86 rfl dX9_wander_85 hne85 ?_
        refine r_ild O 88 rfl 2 rfl dX9_wander_86 ?_
        refine r_ild O 90 rfl 0 rfl dX9_wander_88 ?_
        obtain ⟨x90, p90_r, hq90, hf⟩ := qb2_some hf
        refine k_VI O 93 rfl (zX9_placeAfterMove (l := xl X) (D := xD X) (cI := cI) (cZ := cZ) (cQ := cQ) (h_t := h_t) (h_w := h_w) (r_b := r_b) (r_l := r_l) (r_H := r_H) (r_x := r_x) (r_T := r_T) (r_C := r_C) (r_d := r_d) (r_F := r_F) (h_r := h_r) (r_n := r_n) hq90) (gV mlX9_312 mvX9_placeAfterMove izX9) rfl rfl rfl hdX9_placeAfterMove ⟨Nat.le_of_ble_eq_true rfl, Nat.le_of_ble_eq_true rfl⟩ rfl 0 rfl rfl rfl rfl (Nat.le_of_ble_eq_true rfl) ⟨Nat.zero_le _, Nat.zero_le _⟩ [0, 1, 2] rfl rfl rfl ([nX9 cI cZ cQ h_t (h_w 0) r_b r_l r_H r_x r_T r_C r_d r_F (h_r 0) r_n u_t, nX8 cI cZ cQ h_w u_w, nX5 cI cZ cQ h_r (h_w 0) p90_r]) rfl dX9_wander_90 ?_
        refine r_ist O 95 rfl [(7, .int x90), (10, .int x70), (5, .long x63), (9, .int x56), (0, .ref (h_t 0)), (4, .int y4), (8, .int y8)] dX9_wander_93 (by decide) rfl ?_
        obtain ⟨x95, ex95, hf⟩ := qn_some hf
        refine r_iinc O 98 rfl x95 6 rfl (by rw [ex95]; rfl) [(8, .int x95), (7, .int x90), (10, .int x70), (5, .long x63), (9, .int x56), (0, .ref (h_t 0)), (4, .int y4)] dX9_wander_95 (by decide) rfl ?_
        refine r_goto O 40 dX9_wander_98 (by decide) ?_
        refine r_lv [5, 6, 3, 1, 0] rfl ?_
        exact hrec40 _ _ _ _ _ hf
  unfold fX9_wander at hf
  refine r_ild_n O 1 rfl 1 rfl dX9_wander_0 ?_
  refine r_ild_n O 2 rfl 2 rfl dX9_wander_1 ?_
  obtain ⟨x2, hq2, hf⟩ := qb1_some hf
  refine k_SZ O 5 rfl (zX9_isBadPoint (l := xl X) (D := xD X) (cI := cI) (cZ := cZ) (cQ := cQ) hq2) (gS mlX9_86 mvX9_isBadPoint izX9) rfl rfl rfl hdX9_isBadPoint ⟨Nat.le_of_ble_eq_true rfl, Nat.le_of_ble_eq_true rfl⟩ rfl rfl (Nat.le_of_ble_eq_true rfl) ⟨Nat.zero_le _, Nat.zero_le _⟩ [] rfl rfl rfl ([nX9 cI cZ cQ h_t (h_w 0) r_b r_l r_H r_x r_T r_C r_d r_F (h_r 0) r_n u_t, nX8 cI cZ cQ h_w u_w, nX5 cI cZ cQ h_r (h_w 0) u_r]) rfl dX9_wander_2 (fun hz2 => ?_)
  refine r_if_ne O 8 rfl 23 dX9_wander_5 (by decide) (fun hc5 => ?_) (fun hc5 => ?_)
  · rw [if_neg hc5] at hf
    refine r_bi O 25 rfl (-2) (by decide) dX9_wander_23 ?_
    obtain ⟨g0, g1⟩ := qe2 hf
    exact r_iret2 O E g0 (by rw [g1]) dX9_wander_25
  · rw [if_pos hc5] at hf
    refine r_ild_n O 9 rfl 3 rfl dX9_wander_8 ?_
    refine r_if_lt O 12 rfl 23 dX9_wander_9 (by decide) (fun hc9 => ?_) (fun hc9 => ?_)
    · rw [if_pos hc9] at hf
      refine r_bi O 25 rfl (-2) (by decide) dX9_wander_23 ?_
      obtain ⟨g0, g1⟩ := qe2 hf
      exact r_iret2 O E g0 (by rw [g1]) dX9_wander_25
    · rw [if_neg hc9] at hf
      refine r_ild O 14 rfl 4 rfl dX9_wander_12 ?_
      refine r_ic O 15 rfl 1 (by decide) dX9_wander_14 ?_
      refine r_bi O 17 rfl 60 (by decide) dX9_wander_15 ?_
      obtain ⟨x17, hq17, hf⟩ := qb1_some hf
      refine k_SZ O 20 rfl (zX9_isOutside (l := xl X) (D := xD X) (cI := cI) (cZ := cZ) (cQ := cQ) hq17) (gS mlX9_90 mvX9_isOutside izX9) rfl rfl rfl hdX9_isOutside ⟨Nat.le_of_ble_eq_true rfl, Nat.le_of_ble_eq_true rfl⟩ rfl rfl (Nat.le_of_ble_eq_true rfl) ⟨Nat.zero_le _, Nat.zero_le _⟩ [] rfl rfl rfl ([nX9 cI cZ cQ h_t (h_w 0) r_b r_l r_H r_x r_T r_C r_d r_F (h_r 0) r_n u_t, nX8 cI cZ cQ h_w u_w, nX5 cI cZ cQ h_r (h_w 0) u_r]) rfl dX9_wander_17 (fun hz17 => ?_)
      refine r_if_eq O 23 rfl 26 dX9_wander_20 (by decide) (fun hc20 => ?_) (fun hc20 => ?_)
      · rw [if_pos hc20] at hf
        refine r_ild_n O 27 rfl 3 rfl dX9_wander_26 ?_
        refine r_i2l O 28 rfl dX9_wander_27 ?_
        obtain ⟨x28, ex28, hf⟩ := qn_some hf
        rw [← ex28]
        refine r_lst O 30 rfl [(5, .long x28), (0, .ref (h_t 0)), (1, .int a1), (2, .int a2), (3, .int a3), (4, .int a4)] dX9_wander_28 (by decide) rfl ?_
        refine r_ild_n O 31 rfl 2 rfl dX9_wander_30 ?_
        refine r_ild_n O 32 rfl 3 rfl dX9_wander_31 ?_
        obtain ⟨x32, hq32, hf⟩ := qb1_some hf
        refine k_SI O 35 rfl (zX9_pointCode (l := xl X) (D := xD X) (cI := cI) (cZ := cZ) (cQ := cQ) hq32) (gS mlX9_129 mvX9_pointCode izX9) rfl rfl rfl hdX9_pointCode ⟨Nat.le_of_ble_eq_true rfl, Nat.le_of_ble_eq_true rfl⟩ rfl rfl (Nat.le_of_ble_eq_true rfl) ⟨Nat.zero_le _, Nat.zero_le _⟩ [] rfl rfl rfl ([nX9 cI cZ cQ h_t (h_w 0) r_b r_l r_H r_x r_T r_C r_d r_F (h_r 0) r_n u_t, nX8 cI cZ cQ h_w u_w, nX5 cI cZ cQ h_r (h_w 0) u_r]) rfl dX9_wander_32 ?_
        refine r_ist O 37 rfl [(7, .int x32), (5, .long x28), (0, .ref (h_t 0)), (1, .int a1), (2, .int a2), (3, .int a3), (4, .int a4)] dX9_wander_35 (by decide) rfl ?_
        refine r_ic O 38 rfl 0 (by decide) dX9_wander_37 ?_
        refine r_ist O 40 rfl [(8, .int 0), (7, .int x32), (5, .long x28), (0, .ref (h_t 0)), (1, .int a1), (2, .int a2), (3, .int a3), (4, .int a4)] dX9_wander_38 (by decide) rfl ?_
        refine r_lv [3, 7, 2, 1, 0] rfl ?_
        exact B40 FU _ _ _ _ _ hf
      · rw [if_neg hc20] at hf
        refine r_bi O 25 rfl (-2) (by decide) dX9_wander_23 ?_
        obtain ⟨g0, g1⟩ := qe2 hf
        exact r_iret2 O E g0 (by rw [g1]) dX9_wander_25
-- X9_nearestWall
def rmX9_nearestWall : Room := { frames := 4, cells := 0, slots := 0, locals := 96 }
set_option maxHeartbeats 4000000 in
set_option maxRecDepth 100000 in
theorem zX9_nearestWall {l : Launch} {D : va_G} {cI cZ cQ : ClassId} {h_t h_w h_n : Nat → Nat} {r_b r_l r_H r_x r_T r_C r_d r_F r_r : Nat} {u_t u_w u_n : Pk} {a1 : Int32} {a2 : Int32} {r0 : Int32} {v_n : Pk} (hf : fX9_nearestWall u_t u_w u_n a1 a2 = some (r0, v_n)) : MI l yX9_nearestWall wsX9_nearestWall rmX9_nearestWall D (TY cI cZ cQ) [.ref (h_t 0), .int a1, .int a2] [nX9 cI cZ cQ h_t (h_w 0) r_b r_l r_H r_x r_T r_C r_d r_F r_r (h_n 0) u_t, nX8 cI cZ cQ h_w u_w, nX3 cI cZ cQ h_n (h_w 0) u_n] r0 [nX9 cI cZ cQ h_t (h_w 0) r_b r_l r_H r_x r_T r_C r_d r_F r_r (h_n 0) u_t, nX8 cI cZ cQ h_w u_w, nX3 cI cZ cQ h_n (h_w 0) v_n] := by
  refine MI.of (own := RX9) (by decide +kernel) rfl rfl (Nat.le_of_ble_eq_true rfl) (lv0 := [(0, .ref (h_t 0)), (1, .int a1), (2, .int a2)]) rfl ?_
  intro X O E
  unfold fX9_nearestWall at hf
  refine r_ild_n O 1 rfl 1 rfl dX9_nearestWall_0 ?_
  refine r_ild_n O 2 rfl 2 rfl dX9_nearestWall_1 ?_
  obtain ⟨x2, hq2, hf⟩ := qb1_some hf
  refine k_SZ O 5 rfl (zX9_isBadPoint (l := xl X) (D := xD X) (cI := cI) (cZ := cZ) (cQ := cQ) hq2) (gS mlX9_86 mvX9_isBadPoint izX9) rfl rfl rfl hdX9_isBadPoint ⟨Nat.le_of_ble_eq_true rfl, Nat.le_of_ble_eq_true rfl⟩ rfl rfl (Nat.le_of_ble_eq_true rfl) ⟨Nat.zero_le _, Nat.zero_le _⟩ [] rfl rfl rfl ([nX9 cI cZ cQ h_t (h_w 0) r_b r_l r_H r_x r_T r_C r_d r_F r_r (h_n 0) u_t, nX8 cI cZ cQ h_w u_w, nX3 cI cZ cQ h_n (h_w 0) u_n]) rfl dX9_nearestWall_2 (fun hz2 => ?_)
  refine r_if_eq O 8 rfl 11 dX9_nearestWall_5 (by decide) (fun hc5 => ?_) (fun hc5 => ?_)
  · rw [if_pos hc5] at hf
    refine r_ald_n O 12 rfl 0 rfl dX9_nearestWall_11 ?_
    refine r_get (ref := RX9) (C := RX9) (T := TX9) (N := 13) O 15 rfl inBX9 0 10 rfl rfl rfl (by decide) flX9_74 rfl rfl dX9_nearestWall_12 ?_
    refine r_ild_n O 16 rfl 1 rfl dX9_nearestWall_15 ?_
    refine r_ild_n O 17 rfl 2 rfl dX9_nearestWall_16 ?_
    obtain ⟨p17_n, hq17, hf⟩ := qb1_some hf
    refine k_VV O 20 rfl (zX3_find (l := xl X) (D := xD X) (cI := cI) (cZ := cZ) (cQ := cQ) (h_t := h_n) (h_w := h_w) hq17) (gV mlX9_324 mvX3_find izX3) rfl rfl rfl hdX3_find ⟨Nat.le_of_ble_eq_true rfl, Nat.le_of_ble_eq_true rfl⟩ rfl 2 rfl rfl rfl rfl (Nat.le_of_ble_eq_true rfl) ⟨Nat.zero_le _, Nat.zero_le _⟩ [2, 1] rfl rfl rfl ([nX9 cI cZ cQ h_t (h_w 0) r_b r_l r_H r_x r_T r_C r_d r_F r_r (h_n 0) u_t, nX8 cI cZ cQ h_w u_w, nX3 cI cZ cQ h_n (h_w 0) p17_n]) rfl dX9_nearestWall_17 ?_
    refine r_ald_n O 21 rfl 0 rfl dX9_nearestWall_20 ?_
    refine r_get (ref := RX9) (C := RX9) (T := TX9) (N := 13) O 24 rfl inBX9 0 10 rfl rfl rfl (by decide) flX9_74 rfl rfl dX9_nearestWall_21 ?_
    obtain ⟨x24, hq24, hf⟩ := qb1_some hf
    refine k_VI O 27 rfl (zX3_wall (l := xl X) (D := xD X) (cI := cI) (cZ := cZ) (cQ := cQ) (h_t := h_n) (r_w := (h_w 0)) hq24) (gV mlX9_327 mvX3_wall izX3) rfl rfl rfl hdX3_wall ⟨Nat.le_of_ble_eq_true rfl, Nat.le_of_ble_eq_true rfl⟩ rfl 2 rfl rfl rfl rfl (Nat.le_of_ble_eq_true rfl) ⟨Nat.zero_le _, Nat.zero_le _⟩ [2] rfl rfl rfl ([nX9 cI cZ cQ h_t (h_w 0) r_b r_l r_H r_x r_T r_C r_d r_F r_r (h_n 0) u_t, nX8 cI cZ cQ h_w u_w, nX3 cI cZ cQ h_n (h_w 0) p17_n]) rfl dX9_nearestWall_24 ?_
    obtain ⟨g0, g1⟩ := qe2 hf
    exact r_iret2 O E g0 (by rw [g1]) dX9_nearestWall_27
  · rw [if_neg hc5] at hf
    refine r_bi O 10 rfl (-2) (by decide) dX9_nearestWall_8 ?_
    obtain ⟨g0, g1⟩ := qe2 hf
    exact r_iret2 O E g0 (by rw [g1]) dX9_nearestWall_10
-- X9_clearance
def rmX9_clearance : Room := { frames := 4, cells := 0, slots := 0, locals := 96 }
set_option maxHeartbeats 4000000 in
set_option maxRecDepth 100000 in
theorem zX9_clearance {l : Launch} {D : va_G} {cI cZ cQ : ClassId} {h_t h_w h_n : Nat → Nat} {r_b r_l r_H r_x r_T r_C r_d r_F r_r : Nat} {u_t u_w u_n : Pk} {a1 : Int32} {a2 : Int32} {a3 : Int32} {r0 : Int64} {v_n : Pk} (hf : fX9_clearance u_t u_w u_n a1 a2 a3 = some (r0, v_n)) : ML l yX9_clearance wsX9_clearance rmX9_clearance D (TY cI cZ cQ) [.ref (h_t 0), .int a1, .int a2, .int a3] [nX9 cI cZ cQ h_t (h_w 0) r_b r_l r_H r_x r_T r_C r_d r_F r_r (h_n 0) u_t, nX8 cI cZ cQ h_w u_w, nX3 cI cZ cQ h_n (h_w 0) u_n] r0 [nX9 cI cZ cQ h_t (h_w 0) r_b r_l r_H r_x r_T r_C r_d r_F r_r (h_n 0) u_t, nX8 cI cZ cQ h_w u_w, nX3 cI cZ cQ h_n (h_w 0) v_n] := by
  refine ML.of (own := RX9) (by decide +kernel) rfl rfl (Nat.le_of_ble_eq_true rfl) (lv0 := [(0, .ref (h_t 0)), (1, .int a1), (2, .int a2), (3, .int a3)]) rfl ?_
  intro X O E
  unfold fX9_clearance at hf
  refine r_ild_n O 1 rfl 1 rfl dX9_clearance_0 ?_
  refine r_ild_n O 2 rfl 2 rfl dX9_clearance_1 ?_
  obtain ⟨x2, hq2, hf⟩ := qb1_some hf
  refine k_SZ O 5 rfl (zX9_isBadPoint (l := xl X) (D := xD X) (cI := cI) (cZ := cZ) (cQ := cQ) hq2) (gS mlX9_86 mvX9_isBadPoint izX9) rfl rfl rfl hdX9_isBadPoint ⟨Nat.le_of_ble_eq_true rfl, Nat.le_of_ble_eq_true rfl⟩ rfl rfl (Nat.le_of_ble_eq_true rfl) ⟨Nat.zero_le _, Nat.zero_le _⟩ [] rfl rfl rfl ([nX9 cI cZ cQ h_t (h_w 0) r_b r_l r_H r_x r_T r_C r_d r_F r_r (h_n 0) u_t, nX8 cI cZ cQ h_w u_w, nX3 cI cZ cQ h_n (h_w 0) u_n]) rfl dX9_clearance_2 (fun hz2 => ?_)
  refine r_if_ne O 8 rfl 17 dX9_clearance_5 (by decide) (fun hc5 => ?_) (fun hc5 => ?_)
  · rw [if_neg hc5] at hf
    refine r_ldcl O 20 rfl (v := (-2)) clX9_330 dX9_clearance_17 ?_
    obtain ⟨g0, g1⟩ := qe2 hf
    exact r_lret2 O E g0 (by rw [g1]) dX9_clearance_20
  · rw [if_pos hc5] at hf
    refine r_ild_n O 9 rfl 3 rfl dX9_clearance_8 ?_
    refine r_ic O 10 rfl 0 (by decide) dX9_clearance_9 ?_
    refine r_ic O 11 rfl 1 (by decide) dX9_clearance_10 ?_
    obtain ⟨x11, hq11, hf⟩ := qb1_some hf
    refine k_SZ O 14 rfl (zX9_isOutside (l := xl X) (D := xD X) (cI := cI) (cZ := cZ) (cQ := cQ) hq11) (gS mlX9_90 mvX9_isOutside izX9) rfl rfl rfl hdX9_isOutside ⟨Nat.le_of_ble_eq_true rfl, Nat.le_of_ble_eq_true rfl⟩ rfl rfl (Nat.le_of_ble_eq_true rfl) ⟨Nat.zero_le _, Nat.zero_le _⟩ [] rfl rfl rfl ([nX9 cI cZ cQ h_t (h_w 0) r_b r_l r_H r_x r_T r_C r_d r_F r_r (h_n 0) u_t, nX8 cI cZ cQ h_w u_w, nX3 cI cZ cQ h_n (h_w 0) u_n]) rfl dX9_clearance_11 (fun hz11 => ?_)
    refine r_if_eq O 17 rfl 21 dX9_clearance_14 (by decide) (fun hc14 => ?_) (fun hc14 => ?_)
    · rw [if_pos hc14] at hf
      refine r_ald_n O 22 rfl 0 rfl dX9_clearance_21 ?_
      refine r_get (ref := RX9) (C := RX9) (T := TX9) (N := 13) O 25 rfl inBX9 0 10 rfl rfl rfl (by decide) flX9_74 rfl rfl dX9_clearance_22 ?_
      refine r_ild_n O 26 rfl 1 rfl dX9_clearance_25 ?_
      refine r_ild_n O 27 rfl 2 rfl dX9_clearance_26 ?_
      obtain ⟨p27_n, hq27, hf⟩ := qb1_some hf
      refine k_VV O 30 rfl (zX3_find (l := xl X) (D := xD X) (cI := cI) (cZ := cZ) (cQ := cQ) (h_t := h_n) (h_w := h_w) hq27) (gV mlX9_324 mvX3_find izX3) rfl rfl rfl hdX3_find ⟨Nat.le_of_ble_eq_true rfl, Nat.le_of_ble_eq_true rfl⟩ rfl 2 rfl rfl rfl rfl (Nat.le_of_ble_eq_true rfl) ⟨Nat.zero_le _, Nat.zero_le _⟩ [2, 1] rfl rfl rfl ([nX9 cI cZ cQ h_t (h_w 0) r_b r_l r_H r_x r_T r_C r_d r_F r_r (h_n 0) u_t, nX8 cI cZ cQ h_w u_w, nX3 cI cZ cQ h_n (h_w 0) p27_n]) rfl dX9_clearance_27 ?_
      refine r_ald_n O 31 rfl 0 rfl dX9_clearance_30 ?_
      refine r_get (ref := RX9) (C := RX9) (T := TX9) (N := 13) O 34 rfl inBX9 0 10 rfl rfl rfl (by decide) flX9_74 rfl rfl dX9_clearance_31 ?_
      obtain ⟨x34, hq34, hf⟩ := qb1_some hf
      refine k_VI O 37 rfl (zX3_wall (l := xl X) (D := xD X) (cI := cI) (cZ := cZ) (cQ := cQ) (h_t := h_n) (r_w := (h_w 0)) hq34) (gV mlX9_327 mvX3_wall izX3) rfl rfl rfl hdX3_wall ⟨Nat.le_of_ble_eq_true rfl, Nat.le_of_ble_eq_true rfl⟩ rfl 2 rfl rfl rfl rfl (Nat.le_of_ble_eq_true rfl) ⟨Nat.zero_le _, Nat.zero_le _⟩ [2] rfl rfl rfl ([nX9 cI cZ cQ h_t (h_w 0) r_b r_l r_H r_x r_T r_C r_d r_F r_r (h_n 0) u_t, nX8 cI cZ cQ h_w u_w, nX3 cI cZ cQ h_n (h_w 0) p27_n]) rfl dX9_clearance_34 ?_
      refine r_bi O 39 rfl (-8) (by decide) dX9_clearance_37 ?_
      refine r_icmp_ne O 42 rfl 46 dX9_clearance_39 (by decide) (fun hc39 => ?_) (fun hc39 => ?_)
      · rw [if_neg hc39] at hf
        refine r_ald_n O 47 rfl 0 rfl dX9_clearance_46 ?_
        refine r_get (ref := RX9) (C := RX9) (T := TX9) (N := 13) O 50 rfl inBX9 0 10 rfl rfl rfl (by decide) flX9_74 rfl rfl dX9_clearance_47 ?_
        obtain ⟨x50, hq50, hf⟩ := qb1_some hf
        refine k_VL O 53 rfl (zX3_top (l := xl X) (D := xD X) (cI := cI) (cZ := cZ) (cQ := cQ) (h_t := h_n) (r_w := (h_w 0)) hq50) (gV mlX9_334 mvX3_top izX3) rfl rfl rfl hdX3_top ⟨Nat.le_of_ble_eq_true rfl, Nat.le_of_ble_eq_true rfl⟩ rfl 2 rfl rfl rfl rfl (Nat.le_of_ble_eq_true rfl) ⟨Nat.zero_le _, Nat.zero_le _⟩ [2] rfl rfl rfl ([nX9 cI cZ cQ h_t (h_w 0) r_b r_l r_H r_x r_T r_C r_d r_F r_r (h_n 0) u_t, nX8 cI cZ cQ h_w u_w, nX3 cI cZ cQ h_n (h_w 0) p27_n]) rfl dX9_clearance_50 ?_
        refine r_ald_n O 54 rfl 0 rfl dX9_clearance_53 ?_
        refine r_get (ref := RX9) (C := RX9) (T := TX9) (N := 13) O 57 rfl inBX9 0 10 rfl rfl rfl (by decide) flX9_74 rfl rfl dX9_clearance_54 ?_
        obtain ⟨x57, hq57, hf⟩ := qb1_some hf
        refine k_VL O 60 rfl (zX3_bottom (l := xl X) (D := xD X) (cI := cI) (cZ := cZ) (cQ := cQ) (h_t := h_n) (r_w := (h_w 0)) hq57) (gV mlX9_338 mvX3_bottom izX3) rfl rfl rfl hdX3_bottom ⟨Nat.le_of_ble_eq_true rfl, Nat.le_of_ble_eq_true rfl⟩ rfl 2 rfl rfl rfl rfl (Nat.le_of_ble_eq_true rfl) ⟨Nat.zero_le _, Nat.zero_le _⟩ [2] rfl rfl rfl ([nX9 cI cZ cQ h_t (h_w 0) r_b r_l r_H r_x r_T r_C r_d r_F r_r (h_n 0) u_t, nX8 cI cZ cQ h_w u_w, nX3 cI cZ cQ h_n (h_w 0) p27_n]) rfl dX9_clearance_57 ?_
        refine r_ild_n O 61 rfl 3 rfl dX9_clearance_60 ?_
        obtain ⟨x61, hq61, hf⟩ := qb1_some hf
        refine k_SL O 64 rfl (zX9_lowestPart (l := xl X) (D := xD X) (cI := cI) (cZ := cZ) (cQ := cQ) hq61) (gS mlX9_299 mvX9_lowestPart izX9) rfl rfl rfl hdX9_lowestPart ⟨Nat.le_of_ble_eq_true rfl, Nat.le_of_ble_eq_true rfl⟩ rfl rfl (Nat.le_of_ble_eq_true rfl) ⟨Nat.zero_le _, Nat.zero_le _⟩ [] rfl rfl rfl ([nX9 cI cZ cQ h_t (h_w 0) r_b r_l r_H r_x r_T r_C r_d r_F r_r (h_n 0) u_t, nX8 cI cZ cQ h_w u_w, nX3 cI cZ cQ h_n (h_w 0) p27_n]) rfl dX9_clearance_61 ?_
        obtain ⟨g0, g1⟩ := qe2 hf
        exact r_lret2 O E g0 (by rw [g1]) dX9_clearance_64
      · rw [if_pos hc39] at hf
        refine r_ldcl O 45 rfl (v := (-8)) clX9_332 dX9_clearance_42 ?_
        obtain ⟨g0, g1⟩ := qe2 hf
        exact r_lret2 O E g0 (by rw [g1]) dX9_clearance_45
    · rw [if_neg hc14] at hf
      refine r_ldcl O 20 rfl (v := (-2)) clX9_330 dX9_clearance_17 ?_
      obtain ⟨g0, g1⟩ := qe2 hf
      exact r_lret2 O E g0 (by rw [g1]) dX9_clearance_20
-- X9_piecesWith
def rmX9_piecesWith : Room := { frames := 40, cells := 0, slots := 0, locals := 1051 }
set_option maxHeartbeats 4000000 in
set_option maxRecDepth 100000 in
theorem zX9_piecesWith {l : Launch} {D : va_G} {cI cZ cQ : ClassId} {h_t h_w h_C h_M h_Q : Nat → Nat} {r_b r_l r_H r_x r_T r_d r_F r_r r_n : Nat} {u_t u_w u_C u_M u_Q : Pk} {a1 : Int32} {a2 : Int32} {r0 : Int32} {v_C v_M v_Q : Pk} (hf : fX9_piecesWith u_t u_w u_C u_M u_Q a1 a2 = some (r0, v_C, v_M, v_Q)) : MI l yX9_piecesWith wsX9_piecesWith rmX9_piecesWith D (TY cI cZ cQ) [.ref (h_t 0), .int a1, .int a2] [nX9 cI cZ cQ h_t (h_w 0) r_b r_l r_H r_x r_T (h_C 0) r_d r_F r_r r_n u_t, nX8 cI cZ cQ h_w u_w, nX6 cI cZ cQ h_C (h_w 0) (h_M 0) (h_Q 0) u_C, nX4 cI cZ cQ h_M (h_w 0) u_M, nX4 cI cZ cQ h_Q (h_w 0) u_Q] r0 [nX9 cI cZ cQ h_t (h_w 0) r_b r_l r_H r_x r_T (h_C 0) r_d r_F r_r r_n u_t, nX8 cI cZ cQ h_w u_w, nX6 cI cZ cQ h_C (h_w 0) (h_M 0) (h_Q 0) v_C, nX4 cI cZ cQ h_M (h_w 0) v_M, nX4 cI cZ cQ h_Q (h_w 0) v_Q] := by
  refine MI.of (own := RX9) (by decide +kernel) rfl rfl (Nat.le_of_ble_eq_true rfl) (lv0 := [(0, .ref (h_t 0)), (1, .int a1), (2, .int a2)]) rfl ?_
  intro X O E
  unfold fX9_piecesWith at hf
  refine r_ild_n O 1 rfl 1 rfl dX9_piecesWith_0 ?_
  refine r_ild_n O 2 rfl 2 rfl dX9_piecesWith_1 ?_
  obtain ⟨x2, hq2, hf⟩ := qb1_some hf
  refine k_SZ O 5 rfl (zX9_areBadWeights (l := xl X) (D := xD X) (cI := cI) (cZ := cZ) (cQ := cQ) hq2) (gS mlX9_147 mvX9_areBadWeights izX9) rfl rfl rfl hdX9_areBadWeights ⟨Nat.le_of_ble_eq_true rfl, Nat.le_of_ble_eq_true rfl⟩ rfl rfl (Nat.le_of_ble_eq_true rfl) ⟨Nat.zero_le _, Nat.zero_le _⟩ [] rfl rfl rfl ([nX9 cI cZ cQ h_t (h_w 0) r_b r_l r_H r_x r_T (h_C 0) r_d r_F r_r r_n u_t, nX8 cI cZ cQ h_w u_w, nX6 cI cZ cQ h_C (h_w 0) (h_M 0) (h_Q 0) u_C, nX4 cI cZ cQ h_M (h_w 0) u_M, nX4 cI cZ cQ h_Q (h_w 0) u_Q]) rfl dX9_piecesWith_2 (fun hz2 => ?_)
  refine r_if_eq O 8 rfl 11 dX9_piecesWith_5 (by decide) (fun hc5 => ?_) (fun hc5 => ?_)
  · rw [if_pos hc5] at hf
    refine r_ald_n O 12 rfl 0 rfl dX9_piecesWith_11 ?_
    refine r_get (ref := RX9) (C := RX9) (T := TX9) (N := 13) O 15 rfl inBX9 0 6 rfl rfl rfl (by decide) flX9_45 rfl rfl dX9_piecesWith_12 ?_
    refine r_ild_n O 16 rfl 1 rfl dX9_piecesWith_15 ?_
    refine r_ild_n O 17 rfl 2 rfl dX9_piecesWith_16 ?_
    refine r_ic O 18 rfl 0 (by decide) dX9_piecesWith_17 ?_
    obtain ⟨p18_C, p18_M, p18_Q, hq18, hf⟩ := qb3_some hf
    refine k_VV O 21 rfl (zX6_make (l := xl X) (D := xD X) (cI := cI) (cZ := cZ) (cQ := cQ) (h_t := h_C) (h_w := h_w) (h_L := h_M) (h_P := h_Q) hq18) (gV mlX9_341 mvX6_make izX6) rfl rfl rfl hdX6_make ⟨Nat.le_of_ble_eq_true rfl, Nat.le_of_ble_eq_true rfl⟩ rfl 2 rfl rfl rfl rfl (Nat.le_of_ble_eq_true rfl) ⟨Nat.zero_le _, Nat.zero_le _⟩ [2, 1, 3, 4] rfl rfl rfl ([nX9 cI cZ cQ h_t (h_w 0) r_b r_l r_H r_x r_T (h_C 0) r_d r_F r_r r_n u_t, nX8 cI cZ cQ h_w u_w, nX6 cI cZ cQ h_C (h_w 0) (h_M 0) (h_Q 0) p18_C, nX4 cI cZ cQ h_M (h_w 0) p18_M, nX4 cI cZ cQ h_Q (h_w 0) p18_Q]) rfl dX9_piecesWith_18 ?_
    refine r_ald_n O 22 rfl 0 rfl dX9_piecesWith_21 ?_
    refine r_get (ref := RX9) (C := RX9) (T := TX9) (N := 13) O 25 rfl inBX9 0 6 rfl rfl rfl (by decide) flX9_45 rfl rfl dX9_piecesWith_22 ?_
    obtain ⟨x25, hq25, hf⟩ := qb1_some hf
    refine k_VI O 28 rfl (zX6_pieceTotal (l := xl X) (D := xD X) (cI := cI) (cZ := cZ) (cQ := cQ) (h_t := h_C) (r_w := (h_w 0)) (r_L := (h_M 0)) (h_P := h_Q) hq25) (gV mlX9_218 mvX6_pieceTotal izX6) rfl rfl rfl hdX6_pieceTotal ⟨Nat.le_of_ble_eq_true rfl, Nat.le_of_ble_eq_true rfl⟩ rfl 2 rfl rfl rfl rfl (Nat.le_of_ble_eq_true rfl) ⟨Nat.zero_le _, Nat.zero_le _⟩ [2, 4] rfl rfl rfl ([nX9 cI cZ cQ h_t (h_w 0) r_b r_l r_H r_x r_T (h_C 0) r_d r_F r_r r_n u_t, nX8 cI cZ cQ h_w u_w, nX6 cI cZ cQ h_C (h_w 0) (h_M 0) (h_Q 0) p18_C, nX4 cI cZ cQ h_M (h_w 0) p18_M, nX4 cI cZ cQ h_Q (h_w 0) p18_Q]) rfl dX9_piecesWith_25 ?_
    obtain ⟨g0, g1, g2, g3⟩ := qe4 hf
    exact r_iret2 O E g0 (by rw [g1, g2, g3]) dX9_piecesWith_28
  · rw [if_neg hc5] at hf
    refine r_bi O 10 rfl (-2) (by decide) dX9_piecesWith_8 ?_
    obtain ⟨g0, g1, g2, g3⟩ := qe4 hf
    exact r_iret2 O E g0 (by rw [g1, g2, g3]) dX9_piecesWith_10
-- X9_bestWeights
def rmX9_bestWeights : Room := { frames := 40, cells := 0, slots := 0, locals := 1051 }
set_option maxHeartbeats 4000000 in
set_option maxRecDepth 100000 in
theorem zX9_bestWeights {l : Launch} {D : va_G} {cI cZ cQ : ClassId} {h_t h_w h_C h_M h_Q : Nat → Nat} {r_b r_l r_H r_x r_T r_d r_F r_r r_n : Nat} {u_t u_w u_C u_M u_Q : Pk} {r0 : Int32} {v_C v_M v_Q : Pk} (hf : fX9_bestWeights u_t u_w u_C u_M u_Q = some (r0, v_C, v_M, v_Q)) : MI l yX9_bestWeights wsX9_bestWeights rmX9_bestWeights D (TY cI cZ cQ) [.ref (h_t 0)] [nX9 cI cZ cQ h_t (h_w 0) r_b r_l r_H r_x r_T (h_C 0) r_d r_F r_r r_n u_t, nX8 cI cZ cQ h_w u_w, nX6 cI cZ cQ h_C (h_w 0) (h_M 0) (h_Q 0) u_C, nX4 cI cZ cQ h_M (h_w 0) u_M, nX4 cI cZ cQ h_Q (h_w 0) u_Q] r0 [nX9 cI cZ cQ h_t (h_w 0) r_b r_l r_H r_x r_T (h_C 0) r_d r_F r_r r_n u_t, nX8 cI cZ cQ h_w u_w, nX6 cI cZ cQ h_C (h_w 0) (h_M 0) (h_Q 0) v_C, nX4 cI cZ cQ h_M (h_w 0) v_M, nX4 cI cZ cQ h_Q (h_w 0) v_Q] := by
  refine MI.of (own := RX9) (by decide +kernel) rfl rfl (Nat.le_of_ble_eq_true rfl) (lv0 := [(0, .ref (h_t 0))]) rfl ?_
  intro X O E
  have B91 : ∀ (rec9 : Pk → Pk → Pk → Int32 → Int32 → Int32 → Int32 → Option (Int32 × Pk × Pk × Pk)), (∀ (w_C : Pk) (w_M : Pk) (w_Q : Pk) (y1 : Int32) (y2 : Int32) (y3 : Int32) (y4 : Int32), rec9 w_C w_M w_Q y1 y2 y3 y4 = some (r0, v_C, v_M, v_Q) → BK X 8 0 0 9 ([nX9 cI cZ cQ h_t (h_w 0) r_b r_l r_H r_x r_T (h_C 0) r_d r_F r_r r_n u_t, nX8 cI cZ cQ h_w u_w, nX6 cI cZ cQ h_C (h_w 0) (h_M 0) (h_Q 0) w_C, nX4 cI cZ cQ h_M (h_w 0) w_M, nX4 cI cZ cQ h_Q (h_w 0) w_Q]) [(0, .ref (h_t 0)), (1, .int y1), (2, .int y2), (3, .int y3), (4, .int y4)] []) → ∀ (rec18 : Pk → Pk → Pk → Int32 → Int32 → Int32 → Int32 → Int32 → Option (Int32 × Pk × Pk × Pk)), (∀ (w_C : Pk) (w_M : Pk) (w_Q : Pk) (y1 : Int32) (y2 : Int32) (y3 : Int32) (y4 : Int32) (y5 : Int32), rec18 w_C w_M w_Q y1 y2 y3 y4 y5 = some (r0, v_C, v_M, v_Q) → BK X 8 0 0 18 ([nX9 cI cZ cQ h_t (h_w 0) r_b r_l r_H r_x r_T (h_C 0) r_d r_F r_r r_n u_t, nX8 cI cZ cQ h_w u_w, nX6 cI cZ cQ h_C (h_w 0) (h_M 0) (h_Q 0) w_C, nX4 cI cZ cQ h_M (h_w 0) w_M, nX4 cI cZ cQ h_Q (h_w 0) w_Q]) [(0, .ref (h_t 0)), (1, .int y1), (2, .int y2), (3, .int y3), (4, .int y4), (5, .int y5)] []) → ∀ (w_C : Pk) (w_M : Pk) (w_Q : Pk) (y1 : Int32) (y2 : Int32) (y3 : Int32) (y4 : Int32) (y5 : Int32), fX9_bestWeights_b91 rec9 rec18 u_t u_w w_C w_M w_Q y1 y2 y3 y4 y5 = some (r0, v_C, v_M, v_Q) → BK X 8 0 0 91 ([nX9 cI cZ cQ h_t (h_w 0) r_b r_l r_H r_x r_T (h_C 0) r_d r_F r_r r_n u_t, nX8 cI cZ cQ h_w u_w, nX6 cI cZ cQ h_C (h_w 0) (h_M 0) (h_Q 0) w_C, nX4 cI cZ cQ h_M (h_w 0) w_M, nX4 cI cZ cQ h_Q (h_w 0) w_Q]) [(0, .ref (h_t 0)), (1, .int y1), (2, .int y2), (3, .int y3), (4, .int y4), (5, .int y5)] [] := by
    intro rec9 hrec9 rec18 hrec18 w_C w_M w_Q y1 y2 y3 y4 y5 hf
    unfold fX9_bestWeights_b91 at hf
    obtain ⟨x91, ex91, hf⟩ := qn_some hf
    refine r_iinc O 94 rfl x91 5 rfl (by rw [ex91]; rfl) [(5, .int x91), (0, .ref (h_t 0)), (1, .int y1), (2, .int y2), (3, .int y3), (4, .int y4)] dX9_bestWeights_91 (by decide) rfl ?_
    refine r_goto O 18 dX9_bestWeights_94 (by decide) ?_
    refine r_lv [1, 2, 3, 4, 5, 0] rfl ?_
    exact hrec18 _ _ _ _ _ _ _ _ hf
  have B76 : ∀ (rec9 : Pk → Pk → Pk → Int32 → Int32 → Int32 → Int32 → Option (Int32 × Pk × Pk × Pk)), (∀ (w_C : Pk) (w_M : Pk) (w_Q : Pk) (y1 : Int32) (y2 : Int32) (y3 : Int32) (y4 : Int32), rec9 w_C w_M w_Q y1 y2 y3 y4 = some (r0, v_C, v_M, v_Q) → BK X 8 0 0 9 ([nX9 cI cZ cQ h_t (h_w 0) r_b r_l r_H r_x r_T (h_C 0) r_d r_F r_r r_n u_t, nX8 cI cZ cQ h_w u_w, nX6 cI cZ cQ h_C (h_w 0) (h_M 0) (h_Q 0) w_C, nX4 cI cZ cQ h_M (h_w 0) w_M, nX4 cI cZ cQ h_Q (h_w 0) w_Q]) [(0, .ref (h_t 0)), (1, .int y1), (2, .int y2), (3, .int y3), (4, .int y4)] []) → ∀ (rec18 : Pk → Pk → Pk → Int32 → Int32 → Int32 → Int32 → Int32 → Option (Int32 × Pk × Pk × Pk)), (∀ (w_C : Pk) (w_M : Pk) (w_Q : Pk) (y1 : Int32) (y2 : Int32) (y3 : Int32) (y4 : Int32) (y5 : Int32), rec18 w_C w_M w_Q y1 y2 y3 y4 y5 = some (r0, v_C, v_M, v_Q) → BK X 8 0 0 18 ([nX9 cI cZ cQ h_t (h_w 0) r_b r_l r_H r_x r_T (h_C 0) r_d r_F r_r r_n u_t, nX8 cI cZ cQ h_w u_w, nX6 cI cZ cQ h_C (h_w 0) (h_M 0) (h_Q 0) w_C, nX4 cI cZ cQ h_M (h_w 0) w_M, nX4 cI cZ cQ h_Q (h_w 0) w_Q]) [(0, .ref (h_t 0)), (1, .int y1), (2, .int y2), (3, .int y3), (4, .int y4), (5, .int y5)] []) → ∀ (w_C : Pk) (w_M : Pk) (w_Q : Pk) (y4 : Int32) (y5 : Int32) (y6 : Int32) (y7 : Int32), fX9_bestWeights_b76 rec9 rec18 u_t u_w w_C w_M w_Q y4 y5 y6 y7 = some (r0, v_C, v_M, v_Q) → BK X 8 0 0 76 ([nX9 cI cZ cQ h_t (h_w 0) r_b r_l r_H r_x r_T (h_C 0) r_d r_F r_r r_n u_t, nX8 cI cZ cQ h_w u_w, nX6 cI cZ cQ h_C (h_w 0) (h_M 0) (h_Q 0) w_C, nX4 cI cZ cQ h_M (h_w 0) w_M, nX4 cI cZ cQ h_Q (h_w 0) w_Q]) [(0, .ref (h_t 0)), (4, .int y4), (5, .int y5), (6, .int y6), (7, .int y7)] [] := by
    intro rec9 hrec9 rec18 hrec18 w_C w_M w_Q y4 y5 y6 y7 hf
    unfold fX9_bestWeights_b76 at hf
    refine r_ild O 78 rfl 3 rfl dX9_bestWeights_76 ?_
    refine r_ist_n O 79 rfl rfl [(2, .int y6), (0, .ref (h_t 0)), (4, .int y4), (5, .int y5), (6, .int y6), (7, .int y7)] dX9_bestWeights_78 (by decide) rfl ?_
    refine r_ild O 81 rfl 5 rfl dX9_bestWeights_79 ?_
    refine r_ist_n O 82 rfl rfl [(3, .int y7), (2, .int y6), (0, .ref (h_t 0)), (4, .int y4), (5, .int y5), (6, .int y6), (7, .int y7)] dX9_bestWeights_81 (by decide) rfl ?_
    refine r_bi O 84 rfl 10 (by decide) dX9_bestWeights_82 ?_
    refine r_ild O 86 rfl 3 rfl dX9_bestWeights_84 ?_
    refine r_imul O 87 rfl dX9_bestWeights_86 ?_
    refine r_ild O 89 rfl 4 rfl dX9_bestWeights_87 ?_
    refine r_iadd O 90 rfl dX9_bestWeights_89 ?_
    obtain ⟨x90, ex90, hf⟩ := qn_some hf
    rw [← ex90]
    refine r_ist_n O 91 rfl rfl [(1, .int x90), (3, .int y7), (2, .int y6), (0, .ref (h_t 0)), (4, .int y4), (5, .int y5), (6, .int y6), (7, .int y7)] dX9_bestWeights_90 (by decide) rfl ?_
    refine r_lv [3, 0, 2, 1, 4, 5] rfl ?_
    exact B91 rec9 hrec9 rec18 hrec18 _ _ _ _ _ _ _ _ hf
  have B18 : ∀ (rec9 : Pk → Pk → Pk → Int32 → Int32 → Int32 → Int32 → Option (Int32 × Pk × Pk × Pk)), (∀ (w_C : Pk) (w_M : Pk) (w_Q : Pk) (y1 : Int32) (y2 : Int32) (y3 : Int32) (y4 : Int32), rec9 w_C w_M w_Q y1 y2 y3 y4 = some (r0, v_C, v_M, v_Q) → BK X 8 0 0 9 ([nX9 cI cZ cQ h_t (h_w 0) r_b r_l r_H r_x r_T (h_C 0) r_d r_F r_r r_n u_t, nX8 cI cZ cQ h_w u_w, nX6 cI cZ cQ h_C (h_w 0) (h_M 0) (h_Q 0) w_C, nX4 cI cZ cQ h_M (h_w 0) w_M, nX4 cI cZ cQ h_Q (h_w 0) w_Q]) [(0, .ref (h_t 0)), (1, .int y1), (2, .int y2), (3, .int y3), (4, .int y4)] []) → ∀ n : Nat, ∀ (w_C : Pk) (w_M : Pk) (w_Q : Pk) (y1 : Int32) (y2 : Int32) (y3 : Int32) (y4 : Int32) (y5 : Int32), fX9_bestWeights_b18 rec9 u_t u_w n w_C w_M w_Q y1 y2 y3 y4 y5 = some (r0, v_C, v_M, v_Q) → BK X 8 0 0 18 ([nX9 cI cZ cQ h_t (h_w 0) r_b r_l r_H r_x r_T (h_C 0) r_d r_F r_r r_n u_t, nX8 cI cZ cQ h_w u_w, nX6 cI cZ cQ h_C (h_w 0) (h_M 0) (h_Q 0) w_C, nX4 cI cZ cQ h_M (h_w 0) w_M, nX4 cI cZ cQ h_Q (h_w 0) w_Q]) [(0, .ref (h_t 0)), (1, .int y1), (2, .int y2), (3, .int y3), (4, .int y4), (5, .int y5)] [] := by
    intro rec9 hrec9
    intro n
    induction n with
    | zero => exact fun _ _ _ _ _ _ _ _ hf => qno hf
    | succ n hrec18 =>
      intro w_C w_M w_Q y1 y2 y3 y4 y5 hf
      have hf : fX9_bestWeights_b18_s rec9 (fX9_bestWeights_b18 rec9 u_t u_w n) u_t u_w w_C w_M w_Q y1 y2 y3 y4 y5 = some (r0, v_C, v_M, v_Q) := hf
      generalize fX9_bestWeights_b18 rec9 u_t u_w n = rec18 at hf hrec18
      unfold fX9_bestWeights_b18_s at hf
      refine r_ild O 20 rfl 5 rfl dX9_bestWeights_18 ?_
      refine r_ic O 21 rfl 3 (by decide) dX9_bestWeights_20 ?_
      refine r_icmp_gt O 24 rfl 97 dX9_bestWeights_21 (by decide) (fun hc21 => ?_) (fun hc21 => ?_)
      · rw [if_pos hc21] at hf
        obtain ⟨x97, ex97, hf⟩ := qn_some hf
        refine r_iinc O 100 rfl x97 4 rfl (by rw [ex97]; rfl) [(4, .int x97), (0, .ref (h_t 0)), (1, .int y1), (2, .int y2), (3, .int y3), (5, .int y5)] dX9_bestWeights_97 (by decide) rfl ?_
        refine r_goto O 9 dX9_bestWeights_100 (by decide) ?_
        refine r_lv [1, 2, 3, 4, 0] rfl ?_
        exact hrec9 _ _ _ _ _ _ _ hf
      · rw [if_neg hc21] at hf
        refine r_ald_n O 25 rfl 0 rfl dX9_bestWeights_24 ?_
        refine r_get (ref := RX9) (C := RX9) (T := TX9) (N := 13) O 28 rfl inBX9 0 6 rfl rfl rfl (by decide) flX9_45 rfl rfl dX9_bestWeights_25 ?_
        refine r_ild O 30 rfl 4 rfl dX9_bestWeights_28 ?_
        refine r_ild O 32 rfl 5 rfl dX9_bestWeights_30 ?_
        refine r_ic O 33 rfl 0 (by decide) dX9_bestWeights_32 ?_
        obtain ⟨p33_C, p33_M, p33_Q, hq33, hf⟩ := qb3_some hf
        refine k_VV O 36 rfl (zX6_make (l := xl X) (D := xD X) (cI := cI) (cZ := cZ) (cQ := cQ) (h_t := h_C) (h_w := h_w) (h_L := h_M) (h_P := h_Q) hq33) (gV mlX9_341 mvX6_make izX6) rfl rfl rfl hdX6_make ⟨Nat.le_of_ble_eq_true rfl, Nat.le_of_ble_eq_true rfl⟩ rfl 2 rfl rfl rfl rfl (Nat.le_of_ble_eq_true rfl) ⟨Nat.zero_le _, Nat.zero_le _⟩ [2, 1, 3, 4] rfl rfl rfl ([nX9 cI cZ cQ h_t (h_w 0) r_b r_l r_H r_x r_T (h_C 0) r_d r_F r_r r_n u_t, nX8 cI cZ cQ h_w u_w, nX6 cI cZ cQ h_C (h_w 0) (h_M 0) (h_Q 0) p33_C, nX4 cI cZ cQ h_M (h_w 0) p33_M, nX4 cI cZ cQ h_Q (h_w 0) p33_Q]) rfl dX9_bestWeights_33 ?_
        refine r_ald_n O 37 rfl 0 rfl dX9_bestWeights_36 ?_
        refine r_get (ref := RX9) (C := RX9) (T := TX9) (N := 13) O 40 rfl inBX9 0 6 rfl rfl rfl (by decide) flX9_45 rfl rfl dX9_bestWeights_37 ?_
        obtain ⟨x40, hq40, hf⟩ := qb1_some hf
        refine k_VI O 43 rfl (zX6_pieceTotal (l := xl X) (D := xD X) (cI := cI) (cZ := cZ) (cQ := cQ) (h_t := h_C) (r_w := (h_w 0)) (r_L := (h_M 0)) (h_P := h_Q) hq40) (gV mlX9_218 mvX6_pieceTotal izX6) rfl rfl rfl hdX6_pieceTotal ⟨Nat.le_of_ble_eq_true rfl, Nat.le_of_ble_eq_true rfl⟩ rfl 2 rfl rfl rfl rfl (Nat.le_of_ble_eq_true rfl) ⟨Nat.zero_le _, Nat.zero_le _⟩ [2, 4] rfl rfl rfl ([nX9 cI cZ cQ h_t (h_w 0) r_b r_l r_H r_x r_T (h_C 0) r_d r_F r_r r_n u_t, nX8 cI cZ cQ h_w u_w, nX6 cI cZ cQ h_C (h_w 0) (h_M 0) (h_Q 0) p33_C, nX4 cI cZ cQ h_M (h_w 0) p33_M, nX4 cI cZ cQ h_Q (h_w 0) p33_Q]) rfl dX9_bestWeights_40 ?_
        refine r_ist O 45 rfl [(6, .int x40), (0, .ref (h_t 0)), (1, .int y1), (2, .int y2), (3, .int y3), (4, .int y4), (5, .int y5)] dX9_bestWeights_43 (by decide) rfl ?_
        refine r_ald_n O 46 rfl 1 rfl dX9_bestWeights_45 ?_
        refine r_get (ref := RX9) (C := RX9) (T := TX9) (N := 13) O 49 rfl inBX9 0 6 rfl rfl rfl (by decide) flX9_45 rfl rfl dX9_bestWeights_46 ?_
        obtain ⟨x49, hq49, hf⟩ := qb1_some hf
        refine k_VI O 52 rfl (zX6_greatestLeafDepth (l := xl X) (D := xD X) (cI := cI) (cZ := cZ) (cQ := cQ) (h_t := h_C) (r_w := (h_w 0)) (r_L := (h_M 0)) (r_P := (h_Q 0)) hq49) (gV mlX9_345 mvX6_greatestLeafDepth izX6) rfl rfl rfl hdX6_greatestLeafDepth ⟨Nat.le_of_ble_eq_true rfl, Nat.le_of_ble_eq_true rfl⟩ rfl 2 rfl rfl rfl rfl (Nat.le_of_ble_eq_true rfl) ⟨Nat.zero_le _, Nat.zero_le _⟩ [2] rfl rfl rfl ([nX9 cI cZ cQ h_t (h_w 0) r_b r_l r_H r_x r_T (h_C 0) r_d r_F r_r r_n u_t, nX8 cI cZ cQ h_w u_w, nX6 cI cZ cQ h_C (h_w 0) (h_M 0) (h_Q 0) p33_C, nX4 cI cZ cQ h_M (h_w 0) p33_M, nX4 cI cZ cQ h_Q (h_w 0) p33_Q]) rfl dX9_bestWeights_49 ?_
        refine r_ist O 54 rfl [(7, .int x49), (6, .int x40), (0, .ref (h_t 0)), (1, .int y1), (2, .int y2), (3, .int y3), (4, .int y4), (5, .int y5)] dX9_bestWeights_52 (by decide) rfl ?_
        refine r_ild_n O 55 rfl 4 rfl dX9_bestWeights_54 ?_
        refine r_if_lt O 58 rfl 76 dX9_bestWeights_55 (by decide) (fun hc55 => ?_) (fun hc55 => ?_)
        · rw [if_pos hc55] at hf
          refine r_lv [2, 6, 7, 1, 0] rfl ?_
          exact B76 rec9 hrec9 rec18 hrec18 _ _ _ _ _ _ _ hf
        · rw [if_neg hc55] at hf
          refine r_ild O 60 rfl 1 rfl dX9_bestWeights_58 ?_
          refine r_ild_n O 61 rfl 4 rfl dX9_bestWeights_60 ?_
          refine r_icmp_lt O 64 rfl 76 dX9_bestWeights_61 (by decide) (fun hc61 => ?_) (fun hc61 => ?_)
          · rw [if_pos hc61] at hf
            refine r_lv [2, 6, 7, 1, 0] rfl ?_
            exact B76 rec9 hrec9 rec18 hrec18 _ _ _ _ _ _ _ hf
          · rw [if_neg hc61] at hf
            refine r_ild O 66 rfl 1 rfl dX9_bestWeights_64 ?_
            refine r_ild_n O 67 rfl 4 rfl dX9_bestWeights_66 ?_
            refine r_icmp_ne O 70 rfl 91 dX9_bestWeights_67 (by decide) (fun hc67 => ?_) (fun hc67 => ?_)
            · rw [if_neg hc67] at hf
              refine r_lv [2, 3, 4, 5, 6, 7] rfl ?_
              exact B91 rec9 hrec9 rec18 hrec18 _ _ _ _ _ _ _ _ hf
            · rw [if_pos hc67] at hf
              refine r_ild O 72 rfl 0 rfl dX9_bestWeights_70 ?_
              refine r_ild_n O 73 rfl 5 rfl dX9_bestWeights_72 ?_
              refine r_icmp_ge O 76 rfl 91 dX9_bestWeights_73 (by decide) (fun hc73 => ?_) (fun hc73 => ?_)
              · rw [if_pos hc73] at hf
                refine r_lv [2, 3, 4, 5, 6, 7] rfl ?_
                exact B91 rec9 hrec9 rec18 hrec18 _ _ _ _ _ _ _ _ hf
              · rw [if_neg hc73] at hf
                refine r_lv [2, 6, 7, 1, 0] rfl ?_
                exact B76 rec9 hrec9 rec18 hrec18 _ _ _ _ _ _ _ hf
  have B9 : ∀ n : Nat, ∀ (w_C : Pk) (w_M : Pk) (w_Q : Pk) (y1 : Int32) (y2 : Int32) (y3 : Int32) (y4 : Int32), fX9_bestWeights_b9 u_t u_w n w_C w_M w_Q y1 y2 y3 y4 = some (r0, v_C, v_M, v_Q) → BK X 8 0 0 9 ([nX9 cI cZ cQ h_t (h_w 0) r_b r_l r_H r_x r_T (h_C 0) r_d r_F r_r r_n u_t, nX8 cI cZ cQ h_w u_w, nX6 cI cZ cQ h_C (h_w 0) (h_M 0) (h_Q 0) w_C, nX4 cI cZ cQ h_M (h_w 0) w_M, nX4 cI cZ cQ h_Q (h_w 0) w_Q]) [(0, .ref (h_t 0)), (1, .int y1), (2, .int y2), (3, .int y3), (4, .int y4)] [] := by
    intro n
    induction n with
    | zero => exact fun _ _ _ _ _ _ _ hf => qno hf
    | succ n hrec9 =>
      intro w_C w_M w_Q y1 y2 y3 y4 hf
      have hf : fX9_bestWeights_b9_s (fX9_bestWeights_b9 u_t u_w n) u_t u_w w_C w_M w_Q y1 y2 y3 y4 = some (r0, v_C, v_M, v_Q) := hf
      generalize fX9_bestWeights_b9 u_t u_w n = rec9 at hf hrec9
      unfold fX9_bestWeights_b9_s at hf
      refine r_ild O 11 rfl 4 rfl dX9_bestWeights_9 ?_
      refine r_ic O 12 rfl 3 (by decide) dX9_bestWeights_11 ?_
      refine r_icmp_gt O 15 rfl 103 dX9_bestWeights_12 (by decide) (fun hc12 => ?_) (fun hc12 => ?_)
      · rw [if_pos hc12] at hf
        refine r_ild_n O 104 rfl 1 rfl dX9_bestWeights_103 ?_
        obtain ⟨g0, g1, g2, g3⟩ := qe4 hf
        exact r_iret2 O E g0 (by rw [g1, g2, g3]) dX9_bestWeights_104
      · rw [if_neg hc12] at hf
        refine r_ic O 16 rfl 0 (by decide) dX9_bestWeights_15 ?_
        refine r_ist O 18 rfl [(5, .int 0), (0, .ref (h_t 0)), (1, .int y1), (2, .int y2), (3, .int y3), (4, .int y4)] dX9_bestWeights_16 (by decide) rfl ?_
        refine r_lv [1, 2, 3, 4, 5, 0] rfl ?_
        exact B18 rec9 hrec9 FU _ _ _ _ _ _ _ _ hf
  unfold fX9_bestWeights at hf
  refine r_ic O 1 rfl 0 (by decide) dX9_bestWeights_0 ?_
  refine r_ist_n O 2 rfl rfl [(1, .int 0), (0, .ref (h_t 0))] dX9_bestWeights_1 (by decide) rfl ?_
  refine r_ic O 3 rfl (-1) (by decide) dX9_bestWeights_2 ?_
  refine r_ist_n O 4 rfl rfl [(2, .int (-1)), (1, .int 0), (0, .ref (h_t 0))] dX9_bestWeights_3 (by decide) rfl ?_
  refine r_ic O 5 rfl 0 (by decide) dX9_bestWeights_4 ?_
  refine r_ist_n O 6 rfl rfl [(3, .int 0), (2, .int (-1)), (1, .int 0), (0, .ref (h_t 0))] dX9_bestWeights_5 (by decide) rfl ?_
  refine r_ic O 7 rfl 0 (by decide) dX9_bestWeights_6 ?_
  refine r_ist O 9 rfl [(4, .int 0), (3, .int 0), (2, .int (-1)), (1, .int 0), (0, .ref (h_t 0))] dX9_bestWeights_7 (by decide) rfl ?_
  refine r_lv [4, 3, 2, 1, 0] rfl ?_
  exact B9 FU _ _ _ _ _ _ _ hf
-- X9_leastPieces
def rmX9_leastPieces : Room := { frames := 40, cells := 0, slots := 0, locals := 1087 }
set_option maxHeartbeats 4000000 in
set_option maxRecDepth 100000 in
theorem zX9_leastPieces {l : Launch} {D : va_G} {cI cZ cQ : ClassId} {h_t h_w h_F h_G : Nat → Nat} {r_b r_l r_H r_x r_T r_C r_d r_r r_n : Nat} {u_t u_w u_F u_G : Pk} {r0 : Int32} {v_F v_G : Pk} (hf : fX9_leastPieces u_t u_w u_F u_G = some (r0, v_F, v_G)) : MI l yX9_leastPieces wsX9_leastPieces rmX9_leastPieces D (TY cI cZ cQ) [.ref (h_t 0)] [nX9 cI cZ cQ h_t (h_w 0) r_b r_l r_H r_x r_T r_C r_d (h_F 0) r_r r_n u_t, nX8 cI cZ cQ h_w u_w, nX1 cI cZ cQ h_F (h_G 0) u_F, nX4 cI cZ cQ h_G (h_w 0) u_G] r0 [nX9 cI cZ cQ h_t (h_w 0) r_b r_l r_H r_x r_T r_C r_d (h_F 0) r_r r_n u_t, nX8 cI cZ cQ h_w u_w, nX1 cI cZ cQ h_F (h_G 0) v_F, nX4 cI cZ cQ h_G (h_w 0) v_G] := by
  refine MI.of (own := RX9) (by decide +kernel) rfl rfl (Nat.le_of_ble_eq_true rfl) (lv0 := [(0, .ref (h_t 0))]) rfl ?_
  intro X O E
  unfold fX9_leastPieces at hf
  refine r_ald_n O 1 rfl 0 rfl dX9_leastPieces_0 ?_
  refine r_get (ref := RX9) (C := RX9) (T := TX9) (N := 13) O 4 rfl inBX9 0 0 rfl rfl rfl (by decide) flX9_12 rfl rfl dX9_leastPieces_1 ?_
  obtain ⟨x4, hq4, hf⟩ := qb1_some hf
  refine k_VI O 7 rfl (zX8_fixedTotal (l := xl X) (D := xD X) (cI := cI) (cZ := cZ) (cQ := cQ) (h_t := h_w) hq4) (gV mlX9_348 mvX8_fixedTotal izX8) rfl rfl rfl hdX8_fixedTotal ⟨Nat.le_of_ble_eq_true rfl, Nat.le_of_ble_eq_true rfl⟩ rfl 1 rfl rfl rfl rfl (Nat.le_of_ble_eq_true rfl) ⟨Nat.zero_le _, Nat.zero_le _⟩ [1] rfl rfl rfl ([nX9 cI cZ cQ h_t (h_w 0) r_b r_l r_H r_x r_T r_C r_d (h_F 0) r_r r_n u_t, nX8 cI cZ cQ h_w u_w, nX1 cI cZ cQ h_F (h_G 0) u_F, nX4 cI cZ cQ h_G (h_w 0) u_G]) rfl dX9_leastPieces_4 ?_
  refine r_ic O 8 rfl 5 (by decide) dX9_leastPieces_7 ?_
  refine r_icmp_le O 11 rfl 14 dX9_leastPieces_8 (by decide) (fun hc8 => ?_) (fun hc8 => ?_)
  · rw [if_pos hc8] at hf
    refine r_ald_n O 15 rfl 0 rfl dX9_leastPieces_14 ?_
    refine r_get (ref := RX9) (C := RX9) (T := TX9) (N := 13) O 18 rfl inBX9 0 8 rfl rfl rfl (by decide) flX9_60 rfl rfl dX9_leastPieces_15 ?_
    obtain ⟨p18_F, p18_G, hq18, hf⟩ := qb2_some hf
    refine k_VV O 21 rfl (zX1_search (l := xl X) (D := xD X) (cI := cI) (cZ := cZ) (cQ := cQ) (h_t := h_F) (h_L := h_G) (h_w := h_w) hq18) (gV mlX9_351 mvX1_search izX1) rfl rfl rfl hdX1_search ⟨Nat.le_of_ble_eq_true rfl, Nat.le_of_ble_eq_true rfl⟩ rfl 2 rfl rfl rfl rfl (Nat.le_of_ble_eq_true rfl) ⟨Nat.zero_le _, Nat.zero_le _⟩ [2, 3, 1] rfl rfl rfl ([nX9 cI cZ cQ h_t (h_w 0) r_b r_l r_H r_x r_T r_C r_d (h_F 0) r_r r_n u_t, nX8 cI cZ cQ h_w u_w, nX1 cI cZ cQ h_F (h_G 0) p18_F, nX4 cI cZ cQ h_G (h_w 0) p18_G]) rfl dX9_leastPieces_18 ?_
    refine r_ald_n O 22 rfl 0 rfl dX9_leastPieces_21 ?_
    refine r_get (ref := RX9) (C := RX9) (T := TX9) (N := 13) O 25 rfl inBX9 0 8 rfl rfl rfl (by decide) flX9_60 rfl rfl dX9_leastPieces_22 ?_
    obtain ⟨x25, hq25, hf⟩ := qb1_some hf
    refine k_VI O 28 rfl (zX1_fewestPieces (l := xl X) (D := xD X) (cI := cI) (cZ := cZ) (cQ := cQ) (h_t := h_F) (r_L := (h_G 0)) hq25) (gV mlX9_354 mvX1_fewestPieces izX1) rfl rfl rfl hdX1_fewestPieces ⟨Nat.le_of_ble_eq_true rfl, Nat.le_of_ble_eq_true rfl⟩ rfl 2 rfl rfl rfl rfl (Nat.le_of_ble_eq_true rfl) ⟨Nat.zero_le _, Nat.zero_le _⟩ [2] rfl rfl rfl ([nX9 cI cZ cQ h_t (h_w 0) r_b r_l r_H r_x r_T r_C r_d (h_F 0) r_r r_n u_t, nX8 cI cZ cQ h_w u_w, nX1 cI cZ cQ h_F (h_G 0) p18_F, nX4 cI cZ cQ h_G (h_w 0) p18_G]) rfl dX9_leastPieces_25 ?_
    obtain ⟨g0, g1, g2⟩ := qe3 hf
    exact r_iret2 O E g0 (by rw [g1, g2]) dX9_leastPieces_28
  · rw [if_neg hc8] at hf
    refine r_bi O 13 rfl (-5) (by decide) dX9_leastPieces_11 ?_
    obtain ⟨g0, g1, g2⟩ := qe3 hf
    exact r_iret2 O E g0 (by rw [g1, g2]) dX9_leastPieces_13
-- X9_bestRoot
def rmX9_bestRoot : Room := { frames := 40, cells := 0, slots := 0, locals := 1087 }
set_option maxHeartbeats 4000000 in
set_option maxRecDepth 100000 in
theorem zX9_bestRoot {l : Launch} {D : va_G} {cI cZ cQ : ClassId} {h_t h_w h_F h_G : Nat → Nat} {r_b r_l r_H r_x r_T r_C r_d r_r r_n : Nat} {u_t u_w u_F u_G : Pk} {r0 : Int32} {v_F v_G : Pk} (hf : fX9_bestRoot u_t u_w u_F u_G = some (r0, v_F, v_G)) : MI l yX9_bestRoot wsX9_bestRoot rmX9_bestRoot D (TY cI cZ cQ) [.ref (h_t 0)] [nX9 cI cZ cQ h_t (h_w 0) r_b r_l r_H r_x r_T r_C r_d (h_F 0) r_r r_n u_t, nX8 cI cZ cQ h_w u_w, nX1 cI cZ cQ h_F (h_G 0) u_F, nX4 cI cZ cQ h_G (h_w 0) u_G] r0 [nX9 cI cZ cQ h_t (h_w 0) r_b r_l r_H r_x r_T r_C r_d (h_F 0) r_r r_n u_t, nX8 cI cZ cQ h_w u_w, nX1 cI cZ cQ h_F (h_G 0) v_F, nX4 cI cZ cQ h_G (h_w 0) v_G] := by
  refine MI.of (own := RX9) (by decide +kernel) rfl rfl (Nat.le_of_ble_eq_true rfl) (lv0 := [(0, .ref (h_t 0))]) rfl ?_
  intro X O E
  unfold fX9_bestRoot at hf
  refine r_ald_n O 1 rfl 0 rfl dX9_bestRoot_0 ?_
  refine r_get (ref := RX9) (C := RX9) (T := TX9) (N := 13) O 4 rfl inBX9 0 0 rfl rfl rfl (by decide) flX9_12 rfl rfl dX9_bestRoot_1 ?_
  obtain ⟨x4, hq4, hf⟩ := qb1_some hf
  refine k_VI O 7 rfl (zX8_fixedTotal (l := xl X) (D := xD X) (cI := cI) (cZ := cZ) (cQ := cQ) (h_t := h_w) hq4) (gV mlX9_348 mvX8_fixedTotal izX8) rfl rfl rfl hdX8_fixedTotal ⟨Nat.le_of_ble_eq_true rfl, Nat.le_of_ble_eq_true rfl⟩ rfl 1 rfl rfl rfl rfl (Nat.le_of_ble_eq_true rfl) ⟨Nat.zero_le _, Nat.zero_le _⟩ [1] rfl rfl rfl ([nX9 cI cZ cQ h_t (h_w 0) r_b r_l r_H r_x r_T r_C r_d (h_F 0) r_r r_n u_t, nX8 cI cZ cQ h_w u_w, nX1 cI cZ cQ h_F (h_G 0) u_F, nX4 cI cZ cQ h_G (h_w 0) u_G]) rfl dX9_bestRoot_4 ?_
  refine r_ic O 8 rfl 5 (by decide) dX9_bestRoot_7 ?_
  refine r_icmp_le O 11 rfl 14 dX9_bestRoot_8 (by decide) (fun hc8 => ?_) (fun hc8 => ?_)
  · rw [if_pos hc8] at hf
    refine r_ald_n O 15 rfl 0 rfl dX9_bestRoot_14 ?_
    refine r_get (ref := RX9) (C := RX9) (T := TX9) (N := 13) O 18 rfl inBX9 0 8 rfl rfl rfl (by decide) flX9_60 rfl rfl dX9_bestRoot_15 ?_
    obtain ⟨p18_F, p18_G, hq18, hf⟩ := qb2_some hf
    refine k_VV O 21 rfl (zX1_search (l := xl X) (D := xD X) (cI := cI) (cZ := cZ) (cQ := cQ) (h_t := h_F) (h_L := h_G) (h_w := h_w) hq18) (gV mlX9_351 mvX1_search izX1) rfl rfl rfl hdX1_search ⟨Nat.le_of_ble_eq_true rfl, Nat.le_of_ble_eq_true rfl⟩ rfl 2 rfl rfl rfl rfl (Nat.le_of_ble_eq_true rfl) ⟨Nat.zero_le _, Nat.zero_le _⟩ [2, 3, 1] rfl rfl rfl ([nX9 cI cZ cQ h_t (h_w 0) r_b r_l r_H r_x r_T r_C r_d (h_F 0) r_r r_n u_t, nX8 cI cZ cQ h_w u_w, nX1 cI cZ cQ h_F (h_G 0) p18_F, nX4 cI cZ cQ h_G (h_w 0) p18_G]) rfl dX9_bestRoot_18 ?_
    refine r_ald_n O 22 rfl 0 rfl dX9_bestRoot_21 ?_
    refine r_get (ref := RX9) (C := RX9) (T := TX9) (N := 13) O 25 rfl inBX9 0 8 rfl rfl rfl (by decide) flX9_60 rfl rfl dX9_bestRoot_22 ?_
    obtain ⟨x25, hq25, hf⟩ := qb1_some hf
    refine k_VI O 28 rfl (zX1_rootWall (l := xl X) (D := xD X) (cI := cI) (cZ := cZ) (cQ := cQ) (h_t := h_F) (r_L := (h_G 0)) hq25) (gV mlX9_357 mvX1_rootWall izX1) rfl rfl rfl hdX1_rootWall ⟨Nat.le_of_ble_eq_true rfl, Nat.le_of_ble_eq_true rfl⟩ rfl 2 rfl rfl rfl rfl (Nat.le_of_ble_eq_true rfl) ⟨Nat.zero_le _, Nat.zero_le _⟩ [2] rfl rfl rfl ([nX9 cI cZ cQ h_t (h_w 0) r_b r_l r_H r_x r_T r_C r_d (h_F 0) r_r r_n u_t, nX8 cI cZ cQ h_w u_w, nX1 cI cZ cQ h_F (h_G 0) p18_F, nX4 cI cZ cQ h_G (h_w 0) p18_G]) rfl dX9_bestRoot_25 ?_
    obtain ⟨g0, g1, g2⟩ := qe3 hf
    exact r_iret2 O E g0 (by rw [g1, g2]) dX9_bestRoot_28
  · rw [if_neg hc8] at hf
    refine r_bi O 13 rfl (-5) (by decide) dX9_bestRoot_11 ?_
    obtain ⟨g0, g1, g2⟩ := qe3 hf
    exact r_iret2 O E g0 (by rw [g1, g2]) dX9_bestRoot_13
